/-! the reference: part, count, the run -/
theorem rp_part {M : Ms} {σ : Sg} {x y : Int32} {Q : Int32 → Sg → Prop} (hW : WFm M) (hR : RM M σ) (hq : RefDoes (op_part x y M) Q) : wp_X10_part x y σ Q := by
  have h80 := hW.1
  have hR' := hR
  obtain ⟨⟨hm, hp, hl⟩, ht⟩ := hR
  have r5 := hm.1
  have rp := hm.2.2.2.2.2.2.2.1
  unfold op_part at hq
  unfold wp_X10_part
  rw [r5]
  refine sp_isInN (by omega) ?_
  simp +decide (disch := omega) only [lit, lit_neg, i_add, i_mul, i_sub, i_div, i_and, i_or, i_shl1, Nat.one_mul, i_shr1, i_bit1, i_lt, i_eq, i_in, i_cl, i_0, gI_sI, bi_0n, bi_1n, nz_bi, nz_0n, nz_1n, vn_0n, vn_1n, vn_bi, and_true, true_and, not_false_eq_true, not_true_eq_false, false_implies, true_implies, forall_const, implies_true, ite_true, ite_false, Bool.not_eq_true, Bool.not_eq_false, and_false, false_and, if_true, if_false, if_pos, true_or, or_true, false_or, or_false, neg_lit]
  refine ⟨fun z => ?_, fun z => sp_isInC (n := 3) rfl ?_⟩
  · rw [if_pos z] at hq
    exact sp_no hR' (by decide) (by decide) hq
  · rw [if_neg (by rw [z]; decide)] at hq
    simp +decide (disch := omega) only [lit, lit_neg, i_add, i_mul, i_sub, i_div, i_and, i_or, i_shl1, Nat.one_mul, i_shr1, i_bit1, i_lt, i_eq, i_in, i_cl, i_0, gI_sI, bi_0n, bi_1n, nz_bi, nz_0n, nz_1n, vn_0n, vn_1n, vn_bi, and_true, true_and, not_false_eq_true, not_true_eq_false, false_implies, true_implies, forall_const, implies_true, ite_true, ite_false, Bool.not_eq_true, Bool.not_eq_false, and_false, false_and, if_true, if_false, if_pos, true_or, or_true, false_or, or_false, neg_lit]
    refine ⟨fun z2 => ?_, fun z2 => ?_⟩
    · rw [if_pos z2] at hq
      exact sp_no hR' (by decide) (by decide) hq
    · rw [if_neg (by rw [z2]; decide)] at hq
      obtain ⟨i, hi, hi2, rfl⟩ := inb_t z
      rw [cn_nI hi2] at hq
      obtain ⟨p1, p2, p3, p4⟩ := rp i hi
      simp +decide (disch := omega) only [lit, lit_neg, i_add, i_mul, i_sub, i_div, i_and, i_or, i_shl1, Nat.one_mul, i_shr1, i_bit1, i_lt, i_eq, i_in, i_cl, i_0, gI_sI, bi_0n, bi_1n, nz_bi, nz_0n, nz_1n, vn_0n, vn_1n, vn_bi, and_true, true_and, not_false_eq_true, not_true_eq_false, false_implies, true_implies, forall_const, implies_true, ite_true, ite_false, Bool.not_eq_true, Bool.not_eq_false, and_false, false_and, if_true, if_false, if_pos, true_or, or_true, false_or, or_false, show i < 80 by omega, p1, p2, p3]
      refine ⟨fun q => ?_, fun q => ⟨fun q2 => ?_, fun q2 => ?_⟩⟩
      · rw [if_pos (show y = 0 from q)] at hq; exact hq σ hR'
      · rw [if_neg (show ¬ y = 0 from q), if_pos (show y = 1 from q2)] at hq; exact hq σ hR'
      · rw [if_neg (show ¬ y = 0 from q), if_neg (show ¬ y = 1 from q2)] at hq; exact hq σ hR'
theorem cntB_le (n : Nat) (f : Nat → Bool) : cntB n f ≤ n := by
  induction n with
  | zero => exact Nat.le_refl _
  | succ n ih => simp only [cntB]; split <;> omega
theorem rp_count {M : Ms} {σ : Sg} {x : Int32} {Q : Int32 → Sg → Prop} (hW : WFm M) (hG : WFg M) (hR : RM M σ) (hq : RefDoes (op_count x M) Q) : wp_X10_count x σ Q := by
  have h80 := hW.1
  have hR' := hR
  obtain ⟨⟨hm, hp, hl⟩, ht⟩ := hR
  obtain ⟨r5, r6, r7, r8, r9, r10, r11, rp, ra, rf'⟩ := hm
  unfold op_count at hq
  unfold wp_X10_count
  rw [r5, r6, r7, r10, r11, hp.2.2.1, hl.2.2.1]
  refine ⟨fun q => by rw [if_pos q] at hq; exact hq σ hR', fun q0 => ?_⟩
  rw [if_neg q0] at hq
  refine ⟨fun q => by rw [if_pos q] at hq; exact hq σ hR', fun q1 => ?_⟩
  rw [if_neg q1] at hq
  refine ⟨fun q => by rw [if_pos q] at hq; exact hq σ hR', fun q2 => ?_⟩
  rw [if_neg q2] at hq
  refine ⟨fun q => ?_, fun q3 => ?_⟩
  · rw [if_pos q] at hq
    intro L4 h4
    refine up_loopS (L := fun i x => L4 x i) (I := fun i x => x = nI (cntB i (fun p => decide (M 1 p = 0)))) (M 0 0) ?_ ?_ 0 _ (Nat.zero_le _) rfl
    · intro i x hi hx nx
      subst hx
      apply h4
      have hk := (hW.2.2.2.2.2.2.2.2.1 i hi).1
      simp +decide (disch := omega) only [lit, lit_neg, i_add, i_mul, i_sub, i_div, i_and, i_or, i_shl1, Nat.one_mul, i_shr1, i_bit1, i_lt, i_eq, i_in, i_cl, i_0, gI_sI, bi_0n, bi_1n, nz_bi, nz_0n, nz_1n, vn_0n, vn_1n, vn_bi, and_true, true_and, not_false_eq_true, not_true_eq_false, false_implies, true_implies, forall_const, implies_true, ite_true, ite_false, Bool.not_eq_true, Bool.not_eq_false, and_false, false_and, if_true, if_false, if_pos, true_or, or_true, false_or, or_false, r5, hi, show i < 80 by omega, (rp i hi).1]
      exact ⟨fun e => nx _ (by simp [cntB, e]), fun e => nx _ (by simp [cntB, e])⟩
    · intro x hx
      subst hx
      apply h4
      simp +decide (disch := omega) only [lit, lit_neg, i_add, i_mul, i_sub, i_div, i_and, i_or, i_shl1, Nat.one_mul, i_shr1, i_bit1, i_lt, i_eq, i_in, i_cl, i_0, gI_sI, bi_0n, bi_1n, nz_bi, nz_0n, nz_1n, vn_0n, vn_1n, vn_bi, and_true, true_and, not_false_eq_true, not_true_eq_false, false_implies, true_implies, forall_const, implies_true, ite_true, ite_false, Bool.not_eq_true, Bool.not_eq_false, and_false, false_and, if_true, if_false, if_pos, true_or, or_true, false_or, or_false, r5, Nat.lt_irrefl]
      have : cntB (M 0 0) (fun p => decide (M 1 p = 0)) = M 0 0 - M 0 1 - M 0 2 := by
        have := hG
        unfold WFg at this
        omega
      rw [this]
      exact hq σ hR'
  rw [if_neg q3] at hq
  refine ⟨fun q => by rw [if_pos q] at hq; exact hq σ hR', fun q4 => ?_⟩
  rw [if_neg q4] at hq
  refine ⟨fun q => by rw [if_pos q] at hq; exact hq σ hR', fun q5 => ?_⟩
  rw [if_neg q5] at hq
  refine ⟨fun q => by rw [if_pos q] at hq; exact hq σ hR', fun q6 => ?_⟩
  rw [if_neg q6] at hq
  refine ⟨fun q => by rw [if_pos q] at hq; exact hq σ hR', fun q7 => ?_⟩
  rw [if_neg q7] at hq
  exact sp_no hR' (by decide) (by decide) hq
/-- the run moves -/
theorem RM_run {M : Ms} {σ : Sg} {v : Nat} (hR : RM M σ) : RM (up M 0 7 v) (sI σ 0 19 (nI v)) := by
  obtain ⟨⟨hm, hp, hl⟩, ht⟩ := hR
  have q : ∀ a k, ¬ (a = 0 ∧ k = 7) → up M 0 7 v a k = M a k := fun a k z => up_ne _ _ _ _ _ _ z
  have g : ∀ a k, ¬ (a = 0 ∧ k = 19) → gI (sI σ 0 19 (nI v)) a k = gI σ a k := fun a k z => by rw [gI_sI, if_neg z]
  have hag : agm M (up M 0 7 v) := agm_up (by omega)
  have hbut : But (fun a k => a = 0 ∧ k = 19) σ (sI σ 0 19 (nI v)) := But.rf.up ⟨rfl, rfl⟩
  refine ⟨⟨RMm_ag hag (hm.kept hbut (fun a k hi => by simp only [inMm] at hi; omega)), RPr_cg (M := M) (q 0 3 (by omega)) (fun k _ _ => q 0 k (by omega)) (fun a k _ _ => q a k (by omega)) (fun a k _ => q a k (by omega)) ?_, ?_⟩, TBL_cg hag (fun k => ⟨g 9 k (by omega), g 10 k (by omega), g 11 k (by omega)⟩) (g 0 18 (by omega)) ht⟩
  · obtain ⟨r1, r2, r3, r4, r5, r6, r7, r8, r9, r10⟩ := hp
    refine ⟨by rw [g 0 23 (by omega)]; exact r1, by rw [g 0 24 (by omega)]; exact r2, by rw [g 0 25 (by omega)]; exact r3, by rw [g 0 26 (by omega)]; exact r4, fun i hi => ?_, fun k k1 k2 => ⟨?_, fun i hi => ?_⟩, by rw [g 0 31 (by omega)]; exact r7, ?_, by rw [g 0 33 (by omega)]; exact r9, ?_⟩
    · rw [g 15 i (by omega), g 16 i (by omega)]; exact r5 i hi
    · rw [g 14 k (by omega)]; exact (r6 k k1 k2).1
    · rw [g 12 _ (by omega), g 13 _ (by omega)]; exact (r6 k k1 k2).2 i hi
    · intro z i hi
      rw [g 17 i (by omega), g 18 i (by omega)]; exact r8 z i hi
    · intro i hi
      rw [g 19 i (by omega)]; exact r10 i hi
  · obtain ⟨l1, l2, l3, l4, l5, l6, l7, l8⟩ := hl
    refine ⟨?_, fun j j1 j2 => ?_, ?_, fun i hi => ?_, ?_, ?_, ?_, fun i hi => ?_⟩
    · simp [gI_sI, up_at]
    · rw [q 8 j (by omega), g 8 j (by omega)]; exact l2 j j1 j2
    · rw [q 0 13 (by omega), g 0 39 (by omega)]; exact l3
    · rw [q 0 13 (by omega)] at hi
      rw [q 12 i (by omega), q 13 i (by omega), g 23 i (by omega), g 24 i (by omega)]; exact l4 i hi
    · rw [q 0 14 (by omega), g 0 40 (by omega)]; exact l5
    · rw [q 0 15 (by omega), g 0 41 (by omega)]; exact l6
    · rw [q 0 16 (by omega), g 0 46 (by omega)]; exact l7
    · rw [q 0 16 (by omega)] at hi
      rw [q 14 i (by omega), g 25 i (by omega)]; exact l8 i hi
theorem rp_start {M : Ms} {σ : Sg} {Q : Int32 → Sg → Prop} (hR : RM M σ) (hq : RefDoes (op_start M) Q) : wp_X10_start σ Q := by
  unfold wp_X10_start
  rw [hR.1.1.2.2.2.1]
  simp only [gI_sI, and_self, if_true]
  exact hq _ (RM_run hR)
theorem RM_table {M : Ms} {σ τ : Sg} (hR : RM M σ) (hb : But tabS σ τ) (h18 : gI τ 0 18 = 1) (hT : TB M τ) : RM M τ := ⟨hR.1.kept hb tabS_off, Or.inr ⟨h18, hT⟩⟩
/-- the tables are there -/
theorem sp_tab {M : Ms} {σ : Sg} {Q : Sg → Prop} (hW : WFm M) (hR : RM M σ) (hq : ∀ τ, RM M τ → TB M τ → gI τ 0 18 = 1 → Q τ) : wp_X10_table σ Q := sp_table hW hR.1.1 hR.2 (fun τ hb h18 hT => hq τ (RM_table hR hb h18 hT) hT h18)
theorem rp_step {M : Ms} {σ : Sg} {x : Int32} {Q : Int32 → Sg → Prop} (hW : WFm M) (hR : RM M σ) (hq : RefDoes (op_step x M) Q) : wp_X10_step x σ Q := by
  have h256 := pow_le8 hW.2.1
  have h16 := pow_le4 hW.2.2.1
  have hrun := hW.2.2.2.2.2.2.2.1
  unfold op_step at hq
  refine sp_ways hW hR.1.1 (sp_isInN (by omega) ?_)
  simp +decide (disch := omega) only [lit, lit_neg, i_add, i_mul, i_sub, i_div, i_and, i_or, i_shl1, Nat.one_mul, i_shr1, i_bit1, i_lt, i_eq, i_in, i_cl, i_0, gI_sI, bi_0n, bi_1n, nz_bi, nz_0n, nz_1n, vn_0n, vn_1n, vn_bi, and_true, true_and, not_false_eq_true, not_true_eq_false, false_implies, true_implies, forall_const, implies_true, ite_true, ite_false, Bool.not_eq_true, Bool.not_eq_false, and_false, false_and, if_true, if_false, if_pos, true_or, or_true, false_or, or_false, neg_lit]
  refine ⟨fun z => ?_, fun z => sp_tab hW hR (fun τ hτ hT _ => ?_)⟩
  · rw [if_pos z] at hq
    exact sp_no hR (by decide) (by decide) hq
  · rw [if_neg (by rw [z]; decide)] at hq
    obtain ⟨i, hi, hi2, rfl⟩ := inb_t z
    rw [cn_nI hi2] at hq
    have hto := toN_lt M (M 0 7) i
    have r19 := hτ.1.2.2.1
    simp +decide (disch := omega) only [lit, lit_neg, i_add, i_mul, i_sub, i_div, i_and, i_or, i_shl1, Nat.one_mul, i_shr1, i_bit1, i_lt, i_eq, i_in, i_cl, i_0, gI_sI, bi_0n, bi_1n, nz_bi, nz_0n, nz_1n, vn_0n, vn_1n, vn_bi, and_true, true_and, not_false_eq_true, not_true_eq_false, false_implies, true_implies, forall_const, implies_true, ite_true, ite_false, Bool.not_eq_true, Bool.not_eq_false, and_false, false_and, if_true, if_false, if_pos, true_or, or_true, false_or, or_false, r19, show 16 * M 0 7 + i < 4096 by omega, (hT (M 0 7) i hrun hi).1, e1_lt0]
    refine ⟨fun q => ?_, fun q => ?_⟩
    · rw [if_pos q] at hq
      exact sp_no hτ (by decide) (by decide) hq
    · rw [if_neg q] at hq
      have := hq _ (RM_run hτ)
      rw [← e1_p (by omega)] at this
      exact this
theorem rp_value {M : Ms} {σ : Sg} {x y : Int32} {Q : Int32 → Sg → Prop} (hW : WFm M) (hR : RM M σ) (hq : RefDoes (op_value x y M) Q) : wp_X10_value x y σ Q := by
  have h256 := pow_le8 hW.2.1
  have h16 := pow_le4 hW.2.2.1
  have hrun := hW.2.2.2.2.2.2.2.1
  unfold op_value at hq
  refine sp_isSign hW hR.1.1 ?_
  simp +decide (disch := omega) only [lit, lit_neg, i_add, i_mul, i_sub, i_div, i_and, i_or, i_shl1, Nat.one_mul, i_shr1, i_bit1, i_lt, i_eq, i_in, i_cl, i_0, gI_sI, bi_0n, bi_1n, nz_bi, nz_0n, nz_1n, vn_0n, vn_1n, vn_bi, and_true, true_and, not_false_eq_true, not_true_eq_false, false_implies, true_implies, forall_const, implies_true, ite_true, ite_false, Bool.not_eq_true, Bool.not_eq_false, and_false, false_and, if_true, if_false, if_pos, true_or, or_true, false_or, or_false, neg_lit]
  refine ⟨fun z => ?_, fun z => sp_ways hW hR.1.1 (sp_isInN (by omega) ?_)⟩
  · rw [if_pos (Or.inl z)] at hq
    exact sp_no hR (by decide) (by decide) hq
  · simp +decide (disch := omega) only [lit, lit_neg, i_add, i_mul, i_sub, i_div, i_and, i_or, i_shl1, Nat.one_mul, i_shr1, i_bit1, i_lt, i_eq, i_in, i_cl, i_0, gI_sI, bi_0n, bi_1n, nz_bi, nz_0n, nz_1n, vn_0n, vn_1n, vn_bi, and_true, true_and, not_false_eq_true, not_true_eq_false, false_implies, true_implies, forall_const, implies_true, ite_true, ite_false, Bool.not_eq_true, Bool.not_eq_false, and_false, false_and, if_true, if_false, if_pos, true_or, or_true, false_or, or_false, neg_lit]
    refine ⟨fun z2 => ?_, fun z2 => ?_⟩
    · rw [if_pos (Or.inr z2)] at hq
      exact sp_no hR (by decide) (by decide) hq
    · rw [if_neg (by simp [z, z2])] at hq
      obtain ⟨i, hi, hi2, rfl⟩ := inb_t z
      obtain ⟨j, hj, hj2, rfl⟩ := inb_t z2
      rw [cn_nI hi2, cn_nI hj2] at hq
      rw [hR.1.2.2.1]
      refine sp_show hW hR.1.1 hrun hj (fun τ hb hv => sp_isg hW hv hi ?_)
      have hτ : RM M τ := ⟨hR.1.kept hb (fun a k h => Or.inl h), TBL_cg ⟨fun _ _ => rfl, fun _ _ _ _ => rfl⟩ (fun k => ⟨hb 9 k (by simp), hb 10 k (by simp), hb 11 k (by simp)⟩) (hb 0 18 (by simp)) hR.2⟩
      simp +decide (disch := omega) only [lit, lit_neg, i_add, i_mul, i_sub, i_div, i_and, i_or, i_shl1, Nat.one_mul, i_shr1, i_bit1, i_lt, i_eq, i_in, i_cl, i_0, gI_sI, bi_0n, bi_1n, nz_bi, nz_0n, nz_1n, vn_0n, vn_1n, vn_bi, and_true, true_and, not_false_eq_true, not_true_eq_false, false_implies, true_implies, forall_const, implies_true, ite_true, ite_false, Bool.not_eq_true, Bool.not_eq_false, and_false, false_and, if_true, if_false, if_pos, true_or, or_true, false_or, or_false]
      have := hq τ hτ
      exact ⟨fun q => by simpa [q, bi_fn] using this, fun q => by simpa [q, bi_tn] using this⟩
theorem rp_at {M : Ms} {σ : Sg} {x y w : Int32} {Q : Int32 → Sg → Prop} (hW : WFm M) (hR : RM M σ) (hq : RefDoes (op_at x y w M) Q) : wp_X10_at x y w σ Q := by
  have h256 := pow_le8 hW.2.1
  have h16 := pow_le4 hW.2.2.1
  unfold op_at at hq
  refine sp_isState hW hR.1.1 ?_
  simp +decide (disch := omega) only [lit, lit_neg, i_add, i_mul, i_sub, i_div, i_and, i_or, i_shl1, Nat.one_mul, i_shr1, i_bit1, i_lt, i_eq, i_in, i_cl, i_0, gI_sI, bi_0n, bi_1n, nz_bi, nz_0n, nz_1n, vn_0n, vn_1n, vn_bi, and_true, true_and, not_false_eq_true, not_true_eq_false, false_implies, true_implies, forall_const, implies_true, ite_true, ite_false, Bool.not_eq_true, Bool.not_eq_false, and_false, false_and, if_true, if_false, if_pos, true_or, or_true, false_or, or_false, neg_lit]
  refine ⟨fun z => ?_, fun z => sp_ways hW hR.1.1 (sp_isInN (by omega) ?_)⟩
  · rw [if_pos (Or.inl z)] at hq
    exact sp_no hR (by decide) (by decide) hq
  · simp +decide (disch := omega) only [lit, lit_neg, i_add, i_mul, i_sub, i_div, i_and, i_or, i_shl1, Nat.one_mul, i_shr1, i_bit1, i_lt, i_eq, i_in, i_cl, i_0, gI_sI, bi_0n, bi_1n, nz_bi, nz_0n, nz_1n, vn_0n, vn_1n, vn_bi, and_true, true_and, not_false_eq_true, not_true_eq_false, false_implies, true_implies, forall_const, implies_true, ite_true, ite_false, Bool.not_eq_true, Bool.not_eq_false, and_false, false_and, if_true, if_false, if_pos, true_or, or_true, false_or, or_false, neg_lit]
    refine ⟨fun z2 => ?_, fun z2 => sp_isInC (n := 3) rfl ?_⟩
    · rw [if_pos (Or.inr z2)] at hq
      exact sp_no hR (by decide) (by decide) hq
    · rw [if_neg (by simp [z, z2])] at hq
      simp +decide (disch := omega) only [lit, lit_neg, i_add, i_mul, i_sub, i_div, i_and, i_or, i_shl1, Nat.one_mul, i_shr1, i_bit1, i_lt, i_eq, i_in, i_cl, i_0, gI_sI, bi_0n, bi_1n, nz_bi, nz_0n, nz_1n, vn_0n, vn_1n, vn_bi, and_true, true_and, not_false_eq_true, not_true_eq_false, false_implies, true_implies, forall_const, implies_true, ite_true, ite_false, Bool.not_eq_true, Bool.not_eq_false, and_false, false_and, if_true, if_false, if_pos, true_or, or_true, false_or, or_false, neg_lit]
      refine ⟨fun z3 => ?_, fun z3 => sp_tab hW hR (fun τ hτ hT _ => ?_)⟩
      · rw [if_pos z3] at hq
        exact sp_no hR (by decide) (by decide) hq
      · rw [if_neg (by rw [z3]; decide)] at hq
        obtain ⟨i, hi, hi2, rfl⟩ := inb_t z
        obtain ⟨j, hj, hj2, rfl⟩ := inb_t z2
        rw [cn_nI hi2, cn_nI hj2] at hq
        have hto := toN_lt M i j
        obtain ⟨t1, t2, t3⟩ := hT i j hi hj
        simp +decide (disch := omega) only [lit, lit_neg, i_add, i_mul, i_sub, i_div, i_and, i_or, i_shl1, Nat.one_mul, i_shr1, i_bit1, i_lt, i_eq, i_in, i_cl, i_0, gI_sI, bi_0n, bi_1n, nz_bi, nz_0n, nz_1n, vn_0n, vn_1n, vn_bi, and_true, true_and, not_false_eq_true, not_true_eq_false, false_implies, true_implies, forall_const, implies_true, ite_true, ite_false, Bool.not_eq_true, Bool.not_eq_false, and_false, false_and, if_true, if_false, if_pos, true_or, or_true, false_or, or_false, show 16 * i + j < 4096 by omega, t1, t2, e1_lt0]
        have := hq τ hτ
        refine ⟨fun q => ?_, fun q => ⟨fun q2 => ⟨fun q3 => ?_, fun q3 => ?_⟩, fun q2 => ⟨fun q3 => ?_, fun q3 => ?_⟩⟩⟩
        · rw [if_pos (show w = 0 from q)] at this; exact this
        · rw [if_neg (show ¬ w = 0 from q), if_pos (show w = 1 from q2)] at this
          have hr : rightB M i j = false := by
            cases hr : rightB M i j
            · rfl
            · simp [toN, hr] at q3
          rw [hr] at this; exact this
        · rw [if_neg (show ¬ w = 0 from q), if_pos (show w = 1 from q2)] at this
          have hr : rightB M i j = true := by
            cases hr : rightB M i j
            · simp [toN, hr] at q3
            · rfl
          rw [hr] at this; exact this
        · rw [if_neg (show ¬ w = 0 from q), if_neg (show ¬ w = 1 from q2), q3] at this; exact this
        · rw [if_neg (show ¬ w = 0 from q), if_neg (show ¬ w = 1 from q2), q3] at this; exact this
