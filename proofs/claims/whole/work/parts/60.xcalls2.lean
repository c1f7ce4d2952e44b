/-! the class: the plain calls -/
theorem RX.ev {M : Ms} {σ τ : Sg} (hW : WFm M) (h : RX M σ) (hb : But2 (fun a _ => a = 7) (fun _ => False) σ τ) : RX M τ := h.work hW (hb.mono (fun a k z => Or.inl z) (fun a z => z.elim))
theorem xp_count {M : Ms} {σ : Sg} {x : Int32} {Q : Int32 → Sg → Prop} (hW : WFm M) (hG : WFg M) (h : RX M σ) (hq : XDoes (op_count x M) Q) : wp_X9_count x σ Q := by
  obtain ⟨⟨h1, h2, h3, h4, h5, h6, h7, _⟩, _, _, hP, hL, _, _⟩ := id h
  unfold op_count at hq
  unfold wp_X9_count
  have hg : cntB (M 0 0) (fun p => decide (M 1 p = 0)) + M 0 1 + M 0 2 = M 0 0 := hG
  rw [h2, h3, h4, h6, h7, hP.2.2.2.1, hL.1.1]
  refine ⟨fun q => by rw [if_pos q] at hq; exact hq σ h, fun q0 => ?_⟩
  rw [if_neg q0] at hq
  refine ⟨fun q => by rw [if_pos q] at hq; exact hq σ h, fun q1 => ?_⟩
  rw [if_neg q1] at hq
  refine ⟨fun q => by rw [if_pos q] at hq; exact hq σ h, fun q2 => ?_⟩
  rw [if_neg q2] at hq
  refine ⟨fun q => by rw [if_pos q] at hq; rw [i_sub (by omega), i_sub (by omega)]; exact hq σ h, fun q3 => ?_⟩
  rw [if_neg q3] at hq
  refine ⟨fun q => by rw [if_pos q] at hq; exact hq σ h, fun q4 => ?_⟩
  rw [if_neg q4] at hq
  refine ⟨fun q => by rw [if_pos q] at hq; exact hq σ h, fun q5 => ?_⟩
  rw [if_neg q5] at hq
  refine ⟨fun q => by rw [if_pos q] at hq; exact hq σ h, fun q6 => ?_⟩
  rw [if_neg q6] at hq
  refine ⟨fun q => by rw [if_pos q] at hq; exact hq σ h, fun q7 => ?_⟩
  rw [if_neg q7] at hq
  exact xs_refuse hW h (by decide) (by decide) hq
theorem RX_run {M : Ms} {σ : Sg} {v : Nat} (hW : WFm M) (h : RX M σ) : RX (up M 0 7 v) (sI σ 0 8 (nI v)) := by
  have q : ∀ a k, ¬ (a = 0 ∧ k = 7) → up M 0 7 v a k = M a k := fun a k z => up_ne _ _ _ _ _ _ z
  have hb : But2 lxS lxT σ (sI σ 0 8 (nI v)) := But2.rf.up (Or.inl ⟨rfl, rfl⟩)
  have hb2 : But2 (fun a _ => a = 0) (fun _ => False) σ (sI σ 0 8 (nI v)) := But2.rf.up rfl
  obtain ⟨o1, o2, o3, o4⟩ := h.2.2.2.2.2.2
  refine RX_ls hW h (fun a k z => q a k (by unfold lsM at z; omega)) hb (XLi_ag (M := M) (q _ _ (by omega)) (q _ _ (by omega)) (fun a k _ _ => q a k (by omega)) (h.2.2.2.2.1.kept hb2 (fun a k _ _ => by omega) (fun z => z))) (XRo_ag (M := M) (q _ _ (by omega)) (fun k => q _ _ (by omega)) (h.2.2.2.2.2.1.kept hb2 (fun a k _ _ => by omega))) ⟨?_, fun j j1 j2 => ?_, ?_, ?_⟩
  · simp [gI_sI, up_at]
  · rw [q 8 j (by omega), gI_sI, if_neg (by omega)]; exact o2 j j1 j2
  · rw [q 0 14 (by omega), gI_sI, if_neg (by omega)]; exact o3
  · rw [q 0 15 (by omega), gI_sI, if_neg (by omega)]; exact o4
theorem xp_start {M : Ms} {σ : Sg} {Q : Int32 → Sg → Prop} (hW : WFm M) (h : RX M σ) (hq : XDoes (op_start M) Q) : wp_X9_start σ Q := by
  unfold wp_X9_start
  rw [h.1.2.2.2.2.1]
  simp only [gI_sI, and_self, if_true]
  exact hq _ (RX_run hW h)
theorem xp_frames {M : Ms} {σ : Sg} {Q : Int32 → Sg → Prop} (h : RX M σ) (hq : XDoes (op_frames M) Q) : wp_X9_frames σ (fun r => Q r σ) := by
  unfold wp_X9_frames
  rw [h.2.2.2.1.2.2.1]
  exact hq σ h
theorem in2 {x : Int32} : inb x 2 = (decide (x = 0) || decide (x = 1)) := by
  by_cases z : x < 0
  · have := z
    rw [i_0, lt0_toInt] at this
    have h0 : ¬ x = 0 := fun e => by rw [e] at z; exact absurd z (by decide)
    have h1 : ¬ x = 1 := fun e => by rw [e] at z; exact absurd z (by decide)
    unfold inb
    rw [decide_eq_false (by omega), decide_eq_false h0, decide_eq_false h1]; rfl
  · obtain ⟨j, hj, rfl⟩ := i_dec z
    rw [inb_n hj, show (0 : Int32) = nI 0 from rfl, show (1 : Int32) = nI 1 from rfl, decide_eq_decide.mpr (by rw [i_eq hj (by decide)] : nI j = nI 0 ↔ j = 0), decide_eq_decide.mpr (by rw [i_eq hj (by decide)] : nI j = nI 1 ↔ j = 1)]
    by_cases a : j = 0
    · subst a; simp
    · by_cases b : j = 1
      · subst b; simp
      · rw [decide_eq_false (by omega), decide_eq_false a, decide_eq_false b]; rfl
theorem in3 {x : Int32} : inb x 3 = (decide (x = 0) || decide (x = 1) || decide (x = 2)) := by
  by_cases z : x < 0
  · have := z
    rw [i_0, lt0_toInt] at this
    have h0 : ¬ x = 0 := fun e => by rw [e] at z; exact absurd z (by decide)
    have h1 : ¬ x = 1 := fun e => by rw [e] at z; exact absurd z (by decide)
    have h2 : ¬ x = 2 := fun e => by rw [e] at z; exact absurd z (by decide)
    unfold inb
    rw [decide_eq_false (by omega), decide_eq_false h0, decide_eq_false h1, decide_eq_false h2]; rfl
  · obtain ⟨j, hj, rfl⟩ := i_dec z
    rw [inb_n hj, show (0 : Int32) = nI 0 from rfl, show (1 : Int32) = nI 1 from rfl, show (2 : Int32) = nI 2 from rfl, decide_eq_decide.mpr (by rw [i_eq hj (by decide)] : nI j = nI 0 ↔ j = 0), decide_eq_decide.mpr (by rw [i_eq hj (by decide)] : nI j = nI 1 ↔ j = 1), decide_eq_decide.mpr (by rw [i_eq hj (by decide)] : nI j = nI 2 ↔ j = 2)]
    by_cases a : j = 0
    · subst a; simp
    · by_cases b : j = 1
      · subst b; simp
      · by_cases c : j = 2
        · subst c; simp
        · rw [decide_eq_false (by omega), decide_eq_false a, decide_eq_false b, decide_eq_false c]; rfl
theorem xp_fails {M : Ms} {σ : Sg} {x : Int32} {Q : Int32 → Sg → Prop} (hW : WFm M) (h : RX M σ) (hq : XDoes (op_fails x M) Q) : wp_X9_fails x σ Q := by
  obtain ⟨o1, o2, o3, o4⟩ := h.2.2.2.2.2.2
  unfold op_fails at hq
  rw [in2] at hq
  unfold wp_X9_fails
  rw [o3, o4]
  refine ⟨fun z => ?_, fun z => ⟨fun z2 => ?_, fun z2 => ?_⟩⟩
  · rw [decide_eq_true z, if_neg (by simp), if_pos z] at hq; exact hq σ h
  · rw [decide_eq_true z2, if_neg (by simp), if_neg z] at hq; exact hq σ h
  · rw [decide_eq_false z, decide_eq_false z2, if_pos (show (false || false) = false from rfl)] at hq
    exact xs_refuse hW h (by decide) (by decide) hq
theorem xp_status {M : Ms} {σ : Sg} {x : Int32} {Q : Int32 → Sg → Prop} (hW : WFm M) (h : RX M σ) (hq : XDoes (op_status x M) Q) : wp_X9_status x σ Q := by
  obtain ⟨o1, o2, o3, o4⟩ := h.2.2.2.2.2.2
  unfold op_status at hq
  unfold wp_X9_status
  rw [Int32.lt_iff_toInt_lt (x := -2), show (-2 : Int32).toInt = -2 from rfl, Int32.lt_iff_toInt_lt (x := x), show (-8 : Int32).toInt = -8 from rfl]
  refine ⟨fun z => ?_, fun z => ⟨fun z2 => ?_, fun z2 => ?_⟩⟩
  · rw [if_neg (by omega)] at hq
    exact xs_refuse hW h (by decide) (by decide) hq
  · rw [if_neg (by omega)] at hq
    exact xs_refuse hW h (by decide) (by decide) hq
  · rw [if_pos (by omega)] at hq
    have : ∃ b, 2 ≤ b ∧ b ≤ 8 ∧ x = -(nI b) := by
      refine ⟨(-x.toInt).toNat, by omega, by omega, ?_⟩
      apply Int32.toInt_inj.mp
      rw [Int32.toInt_neg, i_toInt (by omega)]
      have : (((-x.toInt).toNat : Nat) : Int) = -x.toInt := by omega
      rw [this, Int.neg_neg]
      exact (Int32.toInt_bmod_size x).symm
    obtain ⟨b, b1, b2, rfl⟩ := this
    have e : -(-(nI b)) = nI b := Int32.neg_neg
    rw [e] at hq ⊢
    rw [cn_nI (by omega)] at hq
    simp +decide (disch := omega) only [lit, lit_neg, i_add, i_mul, i_sub, i_div, i_and, i_or, i_shl1, Nat.one_mul, i_shr1, i_bit1, i_lt, i_eq, i_in, i_cl, i_0, gI_sI, bi_0n, bi_1n, nz_bi, nz_0n, nz_1n, vn_0n, vn_1n, vn_bi, and_true, true_and, not_false_eq_true, not_true_eq_false, false_implies, true_implies, forall_const, implies_true, ite_true, ite_false, Bool.not_eq_true, Bool.not_eq_false, and_false, false_and, if_true, if_false, if_pos, true_or, or_true, false_or, or_false, show b < 9 by omega, o2 b b1 b2]
    exact hq σ h
theorem xp_tear {M : Ms} {σ : Sg} {Q : Int32 → Sg → Prop} (hW : WFm M) (h : RX M σ) (hq : XDoes (op_tear M) Q) : wp_X9_tear σ Q := by
  obtain ⟨r1, r2, r3⟩ := h.2.2.2.2.2.1
  unfold op_tear at hq
  unfold wp_X9_tear
  have key : RX (up M 0 16 0) (sI σ 1172 2 0) := by
    have q : ∀ a k, ¬ (a = 0 ∧ k = 16) → up M 0 16 0 a k = M a k := fun a k z => up_ne _ _ _ _ _ _ z
    have hb : But2 lxS lxT σ (sI σ 1172 2 0) := But2.rf.up (by unfold lxS; omega)
    have hb2 : But2 (fun a _ => a = 1172) (fun _ => False) σ (sI σ 1172 2 0) := But2.rf.up rfl
    obtain ⟨o1, o2, o3, o4⟩ := h.2.2.2.2.2.2
    refine RX_ls hW h (fun a k z => q a k (by unfold lsM at z; omega)) hb (XLi_ag (M := M) (q _ _ (by omega)) (q _ _ (by omega)) (fun a k _ _ => q a k (by omega)) (h.2.2.2.2.1.kept hb2 (fun a k _ _ => by omega) (fun z => z))) ⟨?_, ?_, fun i hi => absurd (show i + 1 < 0 from hi) (by omega)⟩ ⟨?_, fun j j1 j2 => ?_, ?_, ?_⟩
    · simp [gI_sI, up_at, bi]
    · intro z; exact absurd (show 0 < 0 from z) (by omega)
    · rw [q 0 7 (by omega), gI_sI, if_neg (by omega)]; exact o1
    · rw [q 8 j (by omega), gI_sI, if_neg (by omega)]; exact o2 j j1 j2
    · rw [q 0 14 (by omega), gI_sI, if_neg (by omega)]; exact o3
    · rw [q 0 15 (by omega), gI_sI, if_neg (by omega)]; exact o4
  rw [r1, bi_0]
  refine ⟨fun z => ⟨nz_0, ?_⟩, fun z => ⟨nz_0, ?_⟩⟩
  · have := of_decide_eq_false z
    rw [if_pos (by omega)] at hq; exact hq _ key
  · have : 0 < M 0 16 := by
      rcases Nat.eq_zero_or_pos (M 0 16) with w | w
      · rw [w] at z; exact absurd rfl z
      · exact w
    rw [if_neg (by omega)] at hq; exact hq _ key
theorem xp_row {M : Ms} {σ : Sg} {x : Int32} {Q : Int32 → Sg → Prop} (hW : WFm M) (hL : WFl M) (h : RX M σ) (hq : XDoes (op_row x M) Q) : wp_X9_row x σ Q := by
  have h81 := hL.2.2.1
  obtain ⟨r1, r2, r3⟩ := h.2.2.2.2.2.1
  unfold op_row at hq
  unfold wp_X9_row
  rw [r1, bi_0]
  refine ⟨fun z => ?_, fun z => ?_⟩
  · have := of_decide_eq_false z
    rw [if_pos (by omega)] at hq
    exact xs_refuse hW h (by decide) (by decide) hq
  · have hp : 0 < M 0 16 := by
      rcases Nat.eq_zero_or_pos (M 0 16) with w | w
      · rw [w] at z; exact absurd rfl z
      · exact w
    rw [if_neg (by omega)] at hq
    unfold inb at hq
    rw [r2 hp, i_0, lt0_toInt, lt_toInt (show M 0 16 - 1 < 2147483648 by omega)]
    refine ⟨fun z1 => ?_, fun z1 => ⟨fun z2 => ?_, fun z2 => ?_⟩⟩
    · rw [decide_eq_false (by omega), if_pos rfl] at hq
      exact xs_refuse hW h (by decide) (by decide) hq
    · obtain ⟨j, hj, rfl⟩ := i_dec (x := x) (by rw [i_0, lt0_toInt]; exact z1)
      rw [decide_eq_true (by omega), if_neg (by decide), cn_nI hj] at hq
      rw [i_toInt hj] at z2
      unfold wp_X5_number
      rw [r2 hp]
      simp +decide (disch := omega) only [lit, lit_neg, i_add, i_mul, i_sub, i_div, i_and, i_or, i_shl1, Nat.one_mul, i_shr1, i_bit1, i_lt, i_eq, i_in, i_cl, i_0, gI_sI, bi_0n, bi_1n, nz_bi, nz_0n, nz_1n, vn_0n, vn_1n, vn_bi, and_true, true_and, not_false_eq_true, not_true_eq_false, false_implies, true_implies, forall_const, implies_true, ite_true, ite_false, Bool.not_eq_true, Bool.not_eq_false, and_false, false_and, if_true, if_false, if_pos, true_or, or_true, false_or, or_false, show j < M 0 16 - 1 by omega, show j < 80 by omega, r3 j (by omega)]
      exact ⟨by omega, fun _ => hq σ h⟩
    · rw [decide_eq_false (by omega), if_pos rfl] at hq
      exact xs_refuse hW h (by decide) (by decide) hq
