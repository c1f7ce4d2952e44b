/-! the class: parts, frames, troubles, the way, a run -/
theorem xp_part {M : Ms} {σ : Sg} {x y : Int32} {Q : Int32 → Sg → Prop} (hW : WFm M) (h : RX M σ) (hq : XDoes (op_part x y M) Q) : wp_X9_part x y σ Q := by
  have h80 := hW.1
  have hm := h.1
  unfold op_part at hq
  refine xs_hasPart hW hm ?_
  simp +decide (disch := omega) only [lit, lit_neg, i_add, i_mul, i_sub, i_div, i_and, i_or, i_shl1, Nat.one_mul, i_shr1, i_bit1, i_lt, i_eq, i_in, i_cl, i_0, gI_sI, bi_0n, bi_1n, nz_bi, nz_0n, nz_1n, vn_0n, vn_1n, vn_bi, and_true, true_and, not_false_eq_true, not_true_eq_false, false_implies, true_implies, forall_const, implies_true, ite_true, ite_false, Bool.not_eq_true, Bool.not_eq_false, and_false, false_and, if_true, if_false, if_pos, true_or, or_true, false_or, or_false, neg_lit]
  refine ⟨fun z => ?_, fun z => ?_⟩
  · rw [if_pos z] at hq
    exact xs_refuse hW h (by decide) (by decide) hq
  · rw [if_neg (by rw [z]; decide), in3] at hq
    obtain ⟨i, hi, hi2, rfl⟩ := inb_t z
    rw [cn_nI hi2] at hq
    obtain ⟨m1, m2, m3, m4⟩ := hm.2.2.2.2.2.2.2.1 i hi
    refine ⟨fun y0 => ?_, fun y0 => ⟨fun y1 => ?_, fun y1 => ⟨fun y2 => ?_, fun y2 => ?_⟩⟩⟩
    · rw [decide_eq_true (show y = 0 from y0), if_neg (by simp), if_pos (show y = 0 from y0)] at hq
      refine xs_part hW hm hi ?_
      simp +decide (disch := omega) only [lit, lit_neg, i_add, i_mul, i_sub, i_div, i_and, i_or, i_shl1, Nat.one_mul, i_shr1, i_bit1, i_lt, i_eq, i_in, i_cl, i_0, gI_sI, bi_0n, bi_1n, nz_bi, nz_0n, nz_1n, vn_0n, vn_1n, vn_bi, and_true, true_and, not_false_eq_true, not_true_eq_false, false_implies, true_implies, forall_const, implies_true, ite_true, ite_false, Bool.not_eq_true, Bool.not_eq_false, and_false, false_and, if_true, if_false, if_pos, true_or, or_true, false_or, or_false, show i < 80 by omega, m1]
      exact hq σ h
    · rw [decide_eq_true (show y = 1 from y1), if_neg (by simp), if_neg (show ¬ y = 0 from y0), if_pos (show y = 1 from y1)] at hq
      exact xs_first hW hm hi (hq σ h)
    · rw [decide_eq_true (show y = 2 from y2), if_neg (by simp), if_neg (show ¬ y = 0 from y0), if_neg (show ¬ y = 1 from y1)] at hq
      exact xs_second hW hm hi (hq σ h)
    · rw [decide_eq_false (show ¬ y = 0 from y0), decide_eq_false (show ¬ y = 1 from y1), decide_eq_false (show ¬ y = 2 from y2), if_pos (by simp)] at hq
      exact xs_refuse hW h (by decide) (by decide) hq
theorem xs_isLater {σ : Sg} {x : Int32} {Q : Int32 → Prop} (hq : Q (bi (isFr x))) : wp_X9_isLaterFrame x σ Q := by
  unfold wp_X9_isLaterFrame
  rw [lit 1, lit 24, lt_toInt (by decide), Int32.lt_iff_toInt_lt (x := nI 24), i_toInt (by decide)]
  unfold isFr at hq
  refine ⟨fun h => ⟨nz_0, ?_⟩, fun h => ⟨fun h2 => ⟨nz_0, ?_⟩, fun h2 => ⟨nz_1, ?_⟩⟩⟩
  · rw [decide_eq_false (by omega)] at hq; exact hq
  · rw [decide_eq_false (by omega)] at hq; exact hq
  · rw [decide_eq_true (by omega)] at hq; exact hq
theorem xs_frame {σ : Sg} {k : Nat} {Q : Nat → Prop} (hk : k ≤ 24) (hq : Q (1064 + 4 * k)) : wp_X1_frame (nI k) σ Q := by
  unfold wp_X1_frame
  simp +decide (disch := omega) only [lit, lit_neg, i_add, i_mul, i_sub, i_div, i_and, i_or, i_shl1, Nat.one_mul, i_shr1, i_bit1, i_lt, i_eq, i_in, i_cl, i_0, gI_sI, bi_0n, bi_1n, nz_bi, nz_0n, nz_1n, vn_0n, vn_1n, vn_bi, and_true, true_and, not_false_eq_true, not_true_eq_false, false_implies, true_implies, forall_const, implies_true, ite_true, ite_false, Bool.not_eq_true, Bool.not_eq_false, and_false, false_and, if_true, if_false, if_pos, true_or, or_true, false_or, or_false, show ¬ 24 < k by omega, show k < 25 by omega]
  rw [wr_all k (by omega)]
  exact ⟨by omega, fun _ => hq⟩
theorem cl_later {k : Nat} (h1 : 1 ≤ k) (h2 : k ≤ 24) : IsCl (1064 + 4 * k) 200 := by
  have := cl_frame (k := k) (by omega)
  rw [if_neg (by omega)] at this
  exact this
theorem xp_clauses {M : Ms} {σ : Sg} {x : Int32} {Q : Int32 → Sg → Prop} (hW : WFm M) (h : RX M σ) (hq : XDoes (op_clauses x M) Q) : wp_X9_clauses x σ Q := by
  unfold op_clauses at hq
  refine xs_isLater ?_
  simp +decide (disch := omega) only [lit, lit_neg, i_add, i_mul, i_sub, i_div, i_and, i_or, i_shl1, Nat.one_mul, i_shr1, i_bit1, i_lt, i_eq, i_in, i_cl, i_0, gI_sI, bi_0n, bi_1n, nz_bi, nz_0n, nz_1n, vn_0n, vn_1n, vn_bi, and_true, true_and, not_false_eq_true, not_true_eq_false, false_implies, true_implies, forall_const, implies_true, ite_true, ite_false, Bool.not_eq_true, Bool.not_eq_false, and_false, false_and, if_true, if_false, if_pos, true_or, or_true, false_or, or_false, neg_lit]
  refine ⟨fun z => ?_, fun z => ?_⟩
  · rw [if_pos z] at hq
    exact xs_refuse hW h (by decide) (by decide) hq
  · rw [if_neg (by rw [z]; decide)] at hq
    obtain ⟨j, j1, j2, rfl⟩ := isFr_t z
    rw [cn_nI (by omega)] at hq
    refine xs_frame j2 ?_
    rw [(cl_later j1 j2).1, (h.2.2.1.2.2.1 j j1 j2).1]
    exact hq σ h
theorem xs_half {σ : Sg} {m v : Nat} {x : Int32} {Q : Int32 → Prop} (hm : m < 256) (hv : v < 256) (hq : Q (if x = 0 then nI m else nI v)) : wp_X9_halfOf (nI (cb m v)) x σ Q := by
  refine ⟨fun z => ?_, fun z => ?_⟩
  · rw [if_pos z] at hq; exact ss_maskOf hm hv hq
  · rw [if_neg z] at hq; exact ss_valuesOf hv hq
theorem xp_clause {M : Ms} {σ : Sg} {x y w : Int32} {Q : Int32 → Sg → Prop} (hW : WFm M) (hP : WFp M) (h : RX M σ) (hq : XDoes (op_clause x y w M) Q) : wp_X9_clause x y w σ Q := by
  have h256 := pow_le8 hW.2.1
  unfold op_clause at hq
  refine xs_isLater ?_
  simp +decide (disch := omega) only [lit, lit_neg, i_add, i_mul, i_sub, i_div, i_and, i_or, i_shl1, Nat.one_mul, i_shr1, i_bit1, i_lt, i_eq, i_in, i_cl, i_0, gI_sI, bi_0n, bi_1n, nz_bi, nz_0n, nz_1n, vn_0n, vn_1n, vn_bi, and_true, true_and, not_false_eq_true, not_true_eq_false, false_implies, true_implies, forall_const, implies_true, ite_true, ite_false, Bool.not_eq_true, Bool.not_eq_false, and_false, false_and, if_true, if_false, if_pos, true_or, or_true, false_or, or_false, neg_lit]
  refine ⟨fun z => ?_, fun z => ?_⟩
  · rw [if_pos (Or.inl z)] at hq
    exact xs_refuse hW h (by decide) (by decide) hq
  · obtain ⟨j, j1, j2, rfl⟩ := isFr_t z
    rw [cn_nI (by omega)] at hq
    have hc := h.2.2.1.2.2.1 j j1 j2
    have hcl := cl_later j1 j2
    obtain ⟨w1, w2⟩ := hP.2.2.1 j j2
    refine xs_frame j2 ?_
    rw [hcl.1]
    simp only [onB, cond_true]
    refine cl_hasIndex hcl hc.1 w1 ?_
    simp +decide (disch := omega) only [lit, lit_neg, i_add, i_mul, i_sub, i_div, i_and, i_or, i_shl1, Nat.one_mul, i_shr1, i_bit1, i_lt, i_eq, i_in, i_cl, i_0, gI_sI, bi_0n, bi_1n, nz_bi, nz_0n, nz_1n, vn_0n, vn_1n, vn_bi, and_true, true_and, not_false_eq_true, not_true_eq_false, false_implies, true_implies, forall_const, implies_true, ite_true, ite_false, Bool.not_eq_true, Bool.not_eq_false, and_false, false_and, if_true, if_false, if_pos, true_or, or_true, false_or, or_false, neg_lit]
    refine ⟨fun z2 => ?_, fun z2 => ?_⟩
    · rw [if_pos (Or.inr z2)] at hq
      exact xs_refuse hW h (by decide) (by decide) hq
    · rw [if_neg (by simp [z, z2])] at hq
      obtain ⟨i, hi, hi2, rfl⟩ := inb_t z2
      rw [cn_nI hi2] at hq
      refine xs_frame j2 ?_
      rw [hcl.1]
      simp only [onB, cond_true]
      obtain ⟨m1, m2⟩ := w2 i hi
      refine cl_cubeAt hcl hc.1 w1 hi (hc.2.2 i hi) (xs_half (by omega) (and_eq_le m2 (by omega)) ?_)
      exact hq σ h
theorem xp_listed {M : Ms} {σ : Sg} {x y : Int32} {Q : Int32 → Sg → Prop} (hW : WFm M) (hL : WFl M) (h : RX M σ) (hq : XDoes (op_listed x y M) Q) : wp_X9_listed x y σ Q := by
  have h256 := pow_le8 hW.2.1
  have hc := h.2.2.2.2.1.1
  unfold op_listed at hq
  refine cl_hasIndex cl_list hc.1 hL.1 ?_
  simp +decide (disch := omega) only [lit, lit_neg, i_add, i_mul, i_sub, i_div, i_and, i_or, i_shl1, Nat.one_mul, i_shr1, i_bit1, i_lt, i_eq, i_in, i_cl, i_0, gI_sI, bi_0n, bi_1n, nz_bi, nz_0n, nz_1n, vn_0n, vn_1n, vn_bi, and_true, true_and, not_false_eq_true, not_true_eq_false, false_implies, true_implies, forall_const, implies_true, ite_true, ite_false, Bool.not_eq_true, Bool.not_eq_false, and_false, false_and, if_true, if_false, if_pos, true_or, or_true, false_or, or_false, neg_lit]
  refine ⟨fun z => ?_, fun z => ?_⟩
  · rw [if_pos z] at hq
    exact xs_refuse hW h (by decide) (by decide) hq
  · rw [if_neg (by rw [z]; decide)] at hq
    obtain ⟨i, hi, hi2, rfl⟩ := inb_t z
    rw [cn_nI hi2] at hq
    obtain ⟨m1, m2⟩ := hL.2.1 i hi
    refine cl_cubeAt cl_list hc.1 hL.1 hi (hc.2.2 i hi) (xs_half (by omega) (and_eq_le m2 (by omega)) ?_)
    exact hq σ h
theorem xs_trouble {M : Ms} {σ : Sg} {j : Nat} {Q : Int32 → Prop} (hP : WFp M) (h : XPr M σ) (hj : j < 2147483648) (hq : Q (if j < M 0 11 then nI (M 10 j) else e1 0)) : wp_X4_troubleState (nI j) σ Q := by
  have hn : M 0 11 ≤ 24 := by
    rcases Nat.eq_zero_or_pos (M 0 11) with z | z
    · omega
    · have := (hP.2.2.2.1 (M 0 11 - 1) (by omega)).2
      have := hP.1
      omega
  unfold wp_X4_troubleState
  rw [h.1]
  simp +decide (disch := omega) only [lit, lit_neg, i_add, i_mul, i_sub, i_div, i_and, i_or, i_shl1, Nat.one_mul, i_shr1, i_bit1, i_lt, i_eq, i_in, i_cl, i_0, gI_sI, bi_0n, bi_1n, nz_bi, nz_0n, nz_1n, vn_0n, vn_1n, vn_bi, and_true, true_and, not_false_eq_true, not_true_eq_false, false_implies, true_implies, forall_const, implies_true, ite_true, ite_false, Bool.not_eq_true, Bool.not_eq_false, and_false, false_and, if_true, if_false, if_pos, true_or, or_true, false_or, or_false]
  refine ⟨by omega, fun _ => ⟨fun z => ?_, fun z => ?_⟩⟩
  · rw [if_pos z] at hq
    simp +decide (disch := omega) only [lit, lit_neg, i_add, i_mul, i_sub, i_div, i_and, i_or, i_shl1, Nat.one_mul, i_shr1, i_bit1, i_lt, i_eq, i_in, i_cl, i_0, gI_sI, bi_0n, bi_1n, nz_bi, nz_0n, nz_1n, vn_0n, vn_1n, vn_bi, and_true, true_and, not_false_eq_true, not_true_eq_false, false_implies, true_implies, forall_const, implies_true, ite_true, ite_false, Bool.not_eq_true, Bool.not_eq_false, and_false, false_and, if_true, if_false, if_pos, true_or, or_true, false_or, or_false, show j < 25 by omega, (h.2.2.2.2.2 j z).1]
    exact hq
  · rw [if_neg z] at hq; exact hq
theorem xs_troubleF {M : Ms} {σ : Sg} {j : Nat} {Q : Int32 → Prop} (hP : WFp M) (h : XPr M σ) (hj : j < 2147483648) (hq : Q (if j < M 0 11 then nI (M 11 j) else e1 0)) : wp_X4_troubleFrame (nI j) σ Q := by
  have hn : M 0 11 ≤ 24 := by
    rcases Nat.eq_zero_or_pos (M 0 11) with z | z
    · omega
    · have := (hP.2.2.2.1 (M 0 11 - 1) (by omega)).2
      have := hP.1
      omega
  unfold wp_X4_troubleFrame
  rw [h.1]
  simp +decide (disch := omega) only [lit, lit_neg, i_add, i_mul, i_sub, i_div, i_and, i_or, i_shl1, Nat.one_mul, i_shr1, i_bit1, i_lt, i_eq, i_in, i_cl, i_0, gI_sI, bi_0n, bi_1n, nz_bi, nz_0n, nz_1n, vn_0n, vn_1n, vn_bi, and_true, true_and, not_false_eq_true, not_true_eq_false, false_implies, true_implies, forall_const, implies_true, ite_true, ite_false, Bool.not_eq_true, Bool.not_eq_false, and_false, false_and, if_true, if_false, if_pos, true_or, or_true, false_or, or_false]
  refine ⟨by omega, fun _ => ⟨fun z => ?_, fun z => ?_⟩⟩
  · rw [if_pos z] at hq
    simp +decide (disch := omega) only [lit, lit_neg, i_add, i_mul, i_sub, i_div, i_and, i_or, i_shl1, Nat.one_mul, i_shr1, i_bit1, i_lt, i_eq, i_in, i_cl, i_0, gI_sI, bi_0n, bi_1n, nz_bi, nz_0n, nz_1n, vn_0n, vn_1n, vn_bi, and_true, true_and, not_false_eq_true, not_true_eq_false, false_implies, true_implies, forall_const, implies_true, ite_true, ite_false, Bool.not_eq_true, Bool.not_eq_false, and_false, false_and, if_true, if_false, if_pos, true_or, or_true, false_or, or_false, show j < 25 by omega, (h.2.2.2.2.2 j z).2]
    exact hq
  · rw [if_neg z] at hq; exact hq
theorem xp_trouble {M : Ms} {σ : Sg} {x y : Int32} {Q : Int32 → Sg → Prop} (hW : WFm M) (hP : WFp M) (h : RX M σ) (hq : XDoes (op_trouble x y M) Q) : wp_X9_trouble x y σ Q := by
  unfold op_trouble at hq
  refine ⟨fun z => ?_, fun z => ?_⟩
  · rw [i_0, lt0_toInt] at z
    rw [if_pos z] at hq
    exact xs_refuse hW h (by decide) (by decide) hq
  · obtain ⟨j, hj, rfl⟩ := i_dec z
    rw [i_0, lt0_toInt] at z
    rw [if_neg z, in2, inb_n hj, cn_nI hj] at hq
    refine ⟨fun y0 => xs_trouble hP h.2.2.2.1 hj ?_, fun y0 => ⟨fun y1 => xs_troubleF hP h.2.2.2.1 hj ?_, fun y1 => ?_⟩⟩
    · rw [decide_eq_true (show y = 0 from y0), if_neg (by simp)] at hq
      by_cases c : j < M 0 11
      · rw [if_pos c]
        rw [decide_eq_true c, if_neg (by simp), if_pos (show y = 0 from y0)] at hq; exact hq σ h
      · rw [if_neg c]
        rw [decide_eq_false c, if_pos rfl] at hq; exact hq σ h
    · rw [decide_eq_true (show y = 1 from y1), if_neg (by simp)] at hq
      by_cases c : j < M 0 11
      · rw [if_pos c]
        rw [decide_eq_true c, if_neg (by simp), if_neg (show ¬ y = 0 from y0)] at hq; exact hq σ h
      · rw [if_neg c]
        rw [decide_eq_false c, if_pos rfl] at hq; exact hq σ h
    · rw [decide_eq_false (show ¬ y = 0 from y0), decide_eq_false (show ¬ y = 1 from y1), if_pos (by simp)] at hq
      exact xs_refuse hW h (by decide) (by decide) hq
theorem xp_step {M : Ms} {σ : Sg} {x : Int32} {Q : Int32 → Sg → Prop} (hW : WFm M) (h : RX M σ) (hq : XDoes (op_step x M) Q) : wp_X9_step x σ Q := by
  have hrun := hW.2.2.2.2.2.2.2.1
  unfold op_step at hq
  refine xs_hasChoices hW h.1 ?_
  simp +decide (disch := omega) only [lit, lit_neg, i_add, i_mul, i_sub, i_div, i_and, i_or, i_shl1, Nat.one_mul, i_shr1, i_bit1, i_lt, i_eq, i_in, i_cl, i_0, gI_sI, bi_0n, bi_1n, nz_bi, nz_0n, nz_1n, vn_0n, vn_1n, vn_bi, and_true, true_and, not_false_eq_true, not_true_eq_false, false_implies, true_implies, forall_const, implies_true, ite_true, ite_false, Bool.not_eq_true, Bool.not_eq_false, and_false, false_and, if_true, if_false, if_pos, true_or, or_true, false_or, or_false, neg_lit]
  refine ⟨fun z => ?_, fun z => ?_⟩
  · rw [if_pos z] at hq
    exact xs_refuse hW h (by decide) (by decide) hq
  · rw [if_neg (by rw [z]; decide)] at hq
    obtain ⟨i, hi, hi2, rfl⟩ := inb_t z
    rw [cn_nI hi2] at hq
    rw [h.2.2.2.2.2.2.1]
    refine xs_evaluate hW h.1 hrun (fun τ hb he => ?_)
    have h' := h.ev hW hb
    refine xs_isRight hW h'.1 he hi ?_
    simp +decide (disch := omega) only [lit, lit_neg, i_add, i_mul, i_sub, i_div, i_and, i_or, i_shl1, Nat.one_mul, i_shr1, i_bit1, i_lt, i_eq, i_in, i_cl, i_0, gI_sI, bi_0n, bi_1n, nz_bi, nz_0n, nz_1n, vn_0n, vn_1n, vn_bi, and_true, true_and, not_false_eq_true, not_true_eq_false, false_implies, true_implies, forall_const, implies_true, ite_true, ite_false, Bool.not_eq_true, Bool.not_eq_false, and_false, false_and, if_true, if_false, if_pos, true_or, or_true, false_or, or_false, neg_lit]
    refine ⟨fun q => ?_, fun q => xs_after hW h'.1 he hi ?_⟩
    · rw [if_pos (by unfold toN; rw [if_neg (by rw [q]; decide)])] at hq
      exact xs_refuse hW h' (by decide) (by decide) hq
    · have ht : toN M (M 0 7) i = nxtN M (M 0 7) i + 1 := by unfold toN; rw [if_pos q]
      rw [ht, if_neg (by omega), e1_s] at hq
      exact hq _ (RX_run hW h')
theorem xp_value {M : Ms} {σ : Sg} {x y : Int32} {Q : Int32 → Sg → Prop} (hW : WFm M) (h : RX M σ) (hq : XDoes (op_value x y M) Q) : wp_X9_value x y σ Q := by
  have hrun := hW.2.2.2.2.2.2.2.1
  have h16 := pow_le4 hW.2.2.1
  unfold op_value at hq
  refine xs_hasSign hW h.1 ?_
  simp +decide (disch := omega) only [lit, lit_neg, i_add, i_mul, i_sub, i_div, i_and, i_or, i_shl1, Nat.one_mul, i_shr1, i_bit1, i_lt, i_eq, i_in, i_cl, i_0, gI_sI, bi_0n, bi_1n, nz_bi, nz_0n, nz_1n, vn_0n, vn_1n, vn_bi, and_true, true_and, not_false_eq_true, not_true_eq_false, false_implies, true_implies, forall_const, implies_true, ite_true, ite_false, Bool.not_eq_true, Bool.not_eq_false, and_false, false_and, if_true, if_false, if_pos, true_or, or_true, false_or, or_false, neg_lit]
  refine ⟨fun z => ?_, fun z => xs_hasChoices hW h.1 ?_⟩
  · rw [if_pos (Or.inl z)] at hq
    exact xs_refuse hW h (by decide) (by decide) hq
  · simp +decide (disch := omega) only [lit, lit_neg, i_add, i_mul, i_sub, i_div, i_and, i_or, i_shl1, Nat.one_mul, i_shr1, i_bit1, i_lt, i_eq, i_in, i_cl, i_0, gI_sI, bi_0n, bi_1n, nz_bi, nz_0n, nz_1n, vn_0n, vn_1n, vn_bi, and_true, true_and, not_false_eq_true, not_true_eq_false, false_implies, true_implies, forall_const, implies_true, ite_true, ite_false, Bool.not_eq_true, Bool.not_eq_false, and_false, false_and, if_true, if_false, if_pos, true_or, or_true, false_or, or_false, neg_lit]
    refine ⟨fun z2 => ?_, fun z2 => ?_⟩
    · rw [if_pos (Or.inr z2)] at hq
      exact xs_refuse hW h (by decide) (by decide) hq
    · rw [if_neg (by simp [z, z2])] at hq
      obtain ⟨i, hi, hi2, rfl⟩ := inb_t z
      obtain ⟨j, hj, hj2, rfl⟩ := inb_t z2
      rw [cn_nI hi2, cn_nI hj2] at hq
      rw [h.2.2.2.2.2.2.1]
      refine xs_evaluate hW h.1 hrun (fun τ hb he => ?_)
      have h' := h.ev hW hb
      refine xs_sign hW h'.1 he (Nat.le_refl _) (by omega) ?_
      have hl := lns_lt (fun c => sgv (val M (M 0 7) c) i)
      unfold sgl
      simp +decide (disch := omega) only [lit, lit_neg, i_add, i_mul, i_sub, i_div, i_and, i_or, i_shl1, Nat.one_mul, i_shr1, i_bit1, i_lt, i_eq, i_in, i_cl, i_0, gI_sI, bi_0n, bi_1n, nz_bi, nz_0n, nz_1n, vn_0n, vn_1n, vn_bi, and_true, true_and, not_false_eq_true, not_true_eq_false, false_implies, true_implies, forall_const, implies_true, ite_true, ite_false, Bool.not_eq_true, Bool.not_eq_false, and_false, false_and, if_true, if_false, if_pos, true_or, or_true, false_or, or_false, show lns (fun c => sgv (val M (M 0 7) c) i) < 2147483648 by omega, lns_bit, show j < 16 by omega, decide_true, Bool.true_and]
      exact hq τ h'
