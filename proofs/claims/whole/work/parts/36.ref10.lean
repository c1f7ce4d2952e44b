/-! the reference: frames, clauses, the way, the list, rows -/
def lsM (a k : Nat) : Prop := (a = 0 ∧ (k = 7 ∨ 13 ≤ k)) ∨ a = 8 ∨ (12 ≤ a ∧ a ≤ 14)
def lsS (a k : Nat) : Prop := (a = 0 ∧ (k = 19 ∨ 39 ≤ k)) ∨ a = 5 ∨ a = 8 ∨ (20 ≤ a ∧ a ≤ 26)
theorem RPr.kept2 {M : Ms} {σ τ : Sg} (h : RPr M σ) (hb : But lsS σ τ) : RPr M τ := by
  have q : ∀ a k, ¬ lsS a k → gI τ a k = gI σ a k := hb
  obtain ⟨h1, h2, h3, h4, h5, h6, h7, h8, h9, h10⟩ := h
  refine ⟨by rw [q 0 23 (by simp [lsS])]; exact h1, by rw [q 0 24 (by simp [lsS])]; exact h2, by rw [q 0 25 (by simp [lsS])]; exact h3, by rw [q 0 26 (by simp [lsS])]; exact h4, fun i hi => ?_, fun k k1 k2 => ⟨?_, fun i hi => ?_⟩, by rw [q 0 31 (by simp [lsS])]; exact h7, fun he i hi => ?_, by rw [q 0 33 (by simp [lsS])]; exact h9, fun i hi => ?_⟩
  · rw [q 15 i (by simp [lsS]), q 16 i (by simp [lsS])]; exact h5 i hi
  · rw [q 14 k (by simp [lsS])]; exact (h6 k k1 k2).1
  · rw [q 12 _ (by simp [lsS]), q 13 _ (by simp [lsS])]; exact (h6 k k1 k2).2 i hi
  · rw [q 17 i (by simp [lsS]), q 18 i (by simp [lsS])]; exact h8 he i hi
  · rw [q 19 i (by simp [lsS])]; exact h10 i hi
theorem RM_new {M N : Ms} {σ τ : Sg} (hR : RM M σ) (hag : ∀ a k, ¬ lsM a k → N a k = M a k) (hb : But lsS σ τ) (hl : RLs N τ) : RM N τ := by
  obtain ⟨⟨hm, hp, _⟩, ht⟩ := hR
  have hg : agm M N := ⟨fun k hk => hag 0 k (by unfold lsM; omega), fun a k h1 h2 => hag a k (by unfold lsM; omega)⟩
  refine ⟨⟨RMm_ag hg (hm.kept hb (fun a k hi => by simp only [inMm, lsS] at *; omega)), RPr_cg (M := M) (hag 0 3 (by unfold lsM; omega)) (fun k _ _ => hag 0 k (by unfold lsM; omega)) (fun a k _ _ => hag a k (by unfold lsM; omega)) (fun a k _ => hag a k (by unfold lsM; omega)) (hp.kept2 hb), hl⟩, TBL_cg hg (fun k => ⟨hb 9 k (by unfold lsS; omega), hb 10 k (by unfold lsS; omega), hb 11 k (by unfold lsS; omega)⟩) (hb 0 18 (by unfold lsS; omega)) ht⟩
theorem sp_isFrame {σ : Sg} {x : Int32} {Q : Int32 → Prop} (hq : Q (bi (isFr x))) : wp_X10_isFrame x σ Q := by
  unfold wp_X10_isFrame
  rw [lit 1, lit 24, lt_toInt (by decide), Int32.lt_iff_toInt_lt (x := nI 24), i_toInt (by decide)]
  unfold isFr at hq
  refine ⟨fun h => ⟨nz_0, ?_⟩, fun h => ⟨fun h2 => ⟨nz_0, ?_⟩, fun h2 => ⟨nz_1, ?_⟩⟩⟩
  · rw [decide_eq_false (by omega)] at hq; exact hq
  · rw [decide_eq_false (by omega)] at hq; exact hq
  · rw [decide_eq_true (by omega)] at hq; exact hq
theorem sp_isCube {M : Ms} {σ : Sg} {x y : Int32} {Q : Int32 → Prop} (hW : WFm M) (hm : RMm M σ) (hq : Q (bi (isCb x y M))) : wp_X10_isCube x y σ Q := by
  have h256 := pow_le8 hW.2.1
  unfold wp_X10_isCube
  refine sp_states hW hm (sp_isInN (by omega) ?_)
  have hneg : isCb x y M = true → ¬ y < 0 := fun h => by
    obtain ⟨a, b, ha, _, rfl, hb⟩ := isCb_t hW.2.1 h
    have : b < 256 := and_eq_le hb (by omega)
    rw [i_0, lt0_toInt, i_toInt (by omega)]
    omega
  rw [i_0, bi_0n, show (-1 : Int32) = e1 0 from rfl]
  refine ⟨fun z => ⟨nz_0, ?_⟩, fun z => ⟨fun z2 => ⟨nz_0, ?_⟩, fun z2 => ⟨fun z3 => ⟨nz_1, ?_⟩, fun z3 => ⟨nz_0, ?_⟩⟩⟩⟩
  · have : isCb x y M = false := by unfold isCb; rw [z]; rfl
    rw [this] at hq; exact hq
  · have : isCb x y M = false := by
      cases h : isCb x y M
      · rfl
      · exact absurd z2 (hneg h)
    rw [this] at hq; exact hq
  · have : isCb x y M = true := by
      unfold isCb
      rw [Bool.and_eq_true]
      exact ⟨by simpa using z, decide_eq_true z3⟩
    rw [this] at hq; exact hq
  · have : isCb x y M = false := by unfold isCb; rw [show decide (y &&& (x ^^^ e1 0) = 0) = false from decide_eq_false z3, Bool.and_false]
    rw [this] at hq; exact hq
theorem rp_frames {M : Ms} {σ : Sg} {Q : Int32 → Sg → Prop} (hR : RM M σ) (hq : RefDoes (op_frames M) Q) : wp_X10_frames σ (fun r => Q r σ) := by
  unfold wp_X10_frames
  rw [hR.1.2.1.1]
  exact hq σ hR
theorem rp_clauses {M : Ms} {σ : Sg} {x : Int32} {Q : Int32 → Sg → Prop} (hR : RM M σ) (hq : RefDoes (op_clauses x M) Q) : wp_X10_clauses x σ Q := by
  unfold op_clauses at hq
  refine sp_isFrame ?_
  simp +decide (disch := omega) only [lit, lit_neg, i_add, i_mul, i_sub, i_div, i_and, i_or, i_shl1, Nat.one_mul, i_shr1, i_bit1, i_lt, i_eq, i_in, i_cl, i_0, gI_sI, bi_0n, bi_1n, nz_bi, nz_0n, nz_1n, vn_0n, vn_1n, vn_bi, and_true, true_and, not_false_eq_true, not_true_eq_false, false_implies, true_implies, forall_const, implies_true, ite_true, ite_false, Bool.not_eq_true, Bool.not_eq_false, and_false, false_and, if_true, if_false, if_pos, true_or, or_true, false_or, or_false, neg_lit]
  refine ⟨fun z => ?_, fun z => ?_⟩
  · rw [if_pos z] at hq
    exact sp_no hR (by decide) (by decide) hq
  · rw [if_neg (by rw [z]; decide)] at hq
    obtain ⟨j, j1, j2, rfl⟩ := isFr_t z
    rw [cn_nI (by omega)] at hq
    simp +decide (disch := omega) only [lit, lit_neg, i_add, i_mul, i_sub, i_div, i_and, i_or, i_shl1, Nat.one_mul, i_shr1, i_bit1, i_lt, i_eq, i_in, i_cl, i_0, gI_sI, bi_0n, bi_1n, nz_bi, nz_0n, nz_1n, vn_0n, vn_1n, vn_bi, and_true, true_and, not_false_eq_true, not_true_eq_false, false_implies, true_implies, forall_const, implies_true, ite_true, ite_false, Bool.not_eq_true, Bool.not_eq_false, and_false, false_and, if_true, if_false, if_pos, true_or, or_true, false_or, or_false, show j < 25 by omega, (hR.1.2.1.2.2.2.2.2.1 j j1 j2).1]
    exact hq σ hR
theorem rp_clause {M : Ms} {σ : Sg} {x y w : Int32} {Q : Int32 → Sg → Prop} (hP : WFp M) (hR : RM M σ) (hq : RefDoes (op_clause x y w M) Q) : wp_X10_clause x y w σ Q := by
  unfold op_clause at hq
  refine sp_isFrame ?_
  simp +decide (disch := omega) only [lit, lit_neg, i_add, i_mul, i_sub, i_div, i_and, i_or, i_shl1, Nat.one_mul, i_shr1, i_bit1, i_lt, i_eq, i_in, i_cl, i_0, gI_sI, bi_0n, bi_1n, nz_bi, nz_0n, nz_1n, vn_0n, vn_1n, vn_bi, and_true, true_and, not_false_eq_true, not_true_eq_false, false_implies, true_implies, forall_const, implies_true, ite_true, ite_false, Bool.not_eq_true, Bool.not_eq_false, and_false, false_and, if_true, if_false, if_pos, true_or, or_true, false_or, or_false, neg_lit]
  refine ⟨fun z => ?_, fun z => ?_⟩
  · rw [if_pos (Or.inl z)] at hq
    exact sp_no hR (by decide) (by decide) hq
  · obtain ⟨j, j1, j2, rfl⟩ := isFr_t z
    rw [cn_nI (by omega)] at hq
    have h6 := hR.1.2.1.2.2.2.2.2.1 j j1 j2
    have h200 := (hP.2.2.1 j j2).1
    simp +decide (disch := omega) only [lit, lit_neg, i_add, i_mul, i_sub, i_div, i_and, i_or, i_shl1, Nat.one_mul, i_shr1, i_bit1, i_lt, i_eq, i_in, i_cl, i_0, gI_sI, bi_0n, bi_1n, nz_bi, nz_0n, nz_1n, vn_0n, vn_1n, vn_bi, and_true, true_and, not_false_eq_true, not_true_eq_false, false_implies, true_implies, forall_const, implies_true, ite_true, ite_false, Bool.not_eq_true, Bool.not_eq_false, and_false, false_and, if_true, if_false, if_pos, true_or, or_true, false_or, or_false, show j < 25 by omega, h6.1]
    refine sp_isInN (by omega) ?_
    simp +decide (disch := omega) only [lit, lit_neg, i_add, i_mul, i_sub, i_div, i_and, i_or, i_shl1, Nat.one_mul, i_shr1, i_bit1, i_lt, i_eq, i_in, i_cl, i_0, gI_sI, bi_0n, bi_1n, nz_bi, nz_0n, nz_1n, vn_0n, vn_1n, vn_bi, and_true, true_and, not_false_eq_true, not_true_eq_false, false_implies, true_implies, forall_const, implies_true, ite_true, ite_false, Bool.not_eq_true, Bool.not_eq_false, and_false, false_and, if_true, if_false, if_pos, true_or, or_true, false_or, or_false, neg_lit]
    refine ⟨fun z2 => ?_, fun z2 => ?_⟩
    · rw [if_pos (Or.inr z2)] at hq
      exact sp_no hR (by decide) (by decide) hq
    · rw [if_neg (by simp [z, z2])] at hq
      obtain ⟨i, hi, hi2, rfl⟩ := inb_t z2
      rw [cn_nI hi2] at hq
      have h7 := h6.2 i hi
      simp +decide (disch := omega) only [lit, lit_neg, i_add, i_mul, i_sub, i_div, i_and, i_or, i_shl1, Nat.one_mul, i_shr1, i_bit1, i_lt, i_eq, i_in, i_cl, i_0, gI_sI, bi_0n, bi_1n, nz_bi, nz_0n, nz_1n, vn_0n, vn_1n, vn_bi, and_true, true_and, not_false_eq_true, not_true_eq_false, false_implies, true_implies, forall_const, implies_true, ite_true, ite_false, Bool.not_eq_true, Bool.not_eq_false, and_false, false_and, if_true, if_false, if_pos, true_or, or_true, false_or, or_false, show 200 * j + i < 5000 by omega, h7.1, h7.2]
      refine ⟨fun q => ?_, fun q => ?_⟩
      · rw [if_pos (show w = 0 from q)] at hq; exact hq σ hR
      · rw [if_neg (show ¬ w = 0 from q)] at hq; exact hq σ hR
theorem rp_trouble {M : Ms} {σ : Sg} {x y : Int32} {Q : Int32 → Sg → Prop} (hP : WFp M) (hR : RM M σ) (hq : RefDoes (op_trouble x y M) Q) : wp_X10_trouble x y σ Q := by
  unfold op_trouble at hq
  unfold wp_X10_trouble
  have h26 := hR.1.2.1.2.2.2.1
  have hn : M 0 11 ≤ 24 := by
    rcases Nat.eq_zero_or_pos (M 0 11) with z | z
    · omega
    · have := (hP.2.2.2.1 (M 0 11 - 1) (by omega)).2
      have := hP.1
      omega
  rw [i_0, lt0_toInt, h26]
  refine ⟨fun z => ?_, fun z => sp_isInC (n := 2) rfl ?_⟩
  · rw [if_pos z] at hq
    exact sp_no hR (by decide) (by decide) hq
  · rw [if_neg z] at hq
    simp +decide (disch := omega) only [lit, lit_neg, i_add, i_mul, i_sub, i_div, i_and, i_or, i_shl1, Nat.one_mul, i_shr1, i_bit1, i_lt, i_eq, i_in, i_cl, i_0, gI_sI, bi_0n, bi_1n, nz_bi, nz_0n, nz_1n, vn_0n, vn_1n, vn_bi, and_true, true_and, not_false_eq_true, not_true_eq_false, false_implies, true_implies, forall_const, implies_true, ite_true, ite_false, Bool.not_eq_true, Bool.not_eq_false, and_false, false_and, if_true, if_false, if_pos, true_or, or_true, false_or, or_false, neg_lit]
    refine ⟨fun z2 => ?_, fun z2 => ?_⟩
    · rw [if_pos z2] at hq
      exact sp_no hR (by decide) (by decide) hq
    · rw [if_neg (by rw [z2]; decide)] at hq
      obtain ⟨j, hj, rfl⟩ := i_dec (x := x) (by rw [i_0, lt0_toInt]; exact z)
      rw [inb_n hj, cn_nI hj] at hq
      simp +decide (disch := omega) only [lit, lit_neg, i_add, i_mul, i_sub, i_div, i_and, i_or, i_shl1, Nat.one_mul, i_shr1, i_bit1, i_lt, i_eq, i_in, i_cl, i_0, gI_sI, bi_0n, bi_1n, nz_bi, nz_0n, nz_1n, vn_0n, vn_1n, vn_bi, and_true, true_and, not_false_eq_true, not_true_eq_false, false_implies, true_implies, forall_const, implies_true, ite_true, ite_false, Bool.not_eq_true, Bool.not_eq_false, and_false, false_and, if_true, if_false, if_pos, true_or, or_true, false_or, or_false]
      refine ⟨fun q => ⟨fun q2 => ?_, fun q2 => ?_⟩, fun q => ?_⟩
      · rw [decide_eq_true q, if_neg (by decide), if_pos (show y = 0 from q2)] at hq
        simp +decide (disch := omega) only [lit, lit_neg, i_add, i_mul, i_sub, i_div, i_and, i_or, i_shl1, Nat.one_mul, i_shr1, i_bit1, i_lt, i_eq, i_in, i_cl, i_0, gI_sI, bi_0n, bi_1n, nz_bi, nz_0n, nz_1n, vn_0n, vn_1n, vn_bi, and_true, true_and, not_false_eq_true, not_true_eq_false, false_implies, true_implies, forall_const, implies_true, ite_true, ite_false, Bool.not_eq_true, Bool.not_eq_false, and_false, false_and, if_true, if_false, if_pos, true_or, or_true, false_or, or_false, show j < 40 by omega, (hR.1.2.1.2.2.2.2.1 j q).1]
        exact hq σ hR
      · rw [decide_eq_true q, if_neg (by decide), if_neg (show ¬ y = 0 from q2)] at hq
        simp +decide (disch := omega) only [lit, lit_neg, i_add, i_mul, i_sub, i_div, i_and, i_or, i_shl1, Nat.one_mul, i_shr1, i_bit1, i_lt, i_eq, i_in, i_cl, i_0, gI_sI, bi_0n, bi_1n, nz_bi, nz_0n, nz_1n, vn_0n, vn_1n, vn_bi, and_true, true_and, not_false_eq_true, not_true_eq_false, false_implies, true_implies, forall_const, implies_true, ite_true, ite_false, Bool.not_eq_true, Bool.not_eq_false, and_false, false_and, if_true, if_false, if_pos, true_or, or_true, false_or, or_false, show j < 40 by omega, (hR.1.2.1.2.2.2.2.1 j q).2]
        exact hq σ hR
      · rw [decide_eq_false q, if_pos rfl] at hq
        exact hq σ hR
theorem wayN_le {M : Ms} (hP : WFp M) : wayN M ≤ 24 := by
  have hn : M 0 11 ≤ 24 := by
    rcases Nat.eq_zero_or_pos (M 0 11) with z | z
    · omega
    · have := (hP.2.2.2.1 (M 0 11 - 1) (by omega)).2
      have := hP.1
      omega
  unfold wayN
  split
  · split <;> omega
  · omega
theorem rp_way {M : Ms} {σ : Sg} {Q : Int32 → Sg → Prop} (hP : WFp M) (hR : RM M σ) (hq : RefDoes (op_way M) Q) : wp_X10_way σ Q := by
  unfold op_way at hq
  unfold wp_X10_way
  have h := wayN_le hP
  simp +decide (disch := omega) only [lit, lit_neg, i_add, i_mul, i_sub, i_div, i_and, i_or, i_shl1, Nat.one_mul, i_shr1, i_bit1, i_lt, i_eq, i_in, i_cl, i_0, gI_sI, bi_0n, bi_1n, nz_bi, nz_0n, nz_1n, vn_0n, vn_1n, vn_bi, and_true, true_and, not_false_eq_true, not_true_eq_false, false_implies, true_implies, forall_const, implies_true, ite_true, ite_false, Bool.not_eq_true, Bool.not_eq_false, and_false, false_and, if_true, if_false, if_pos, true_or, or_true, false_or, or_false, hR.1.2.1.2.2.2.2.2.2.2.2.1, neg_lit]
  refine ⟨fun z => ?_, fun z => ?_⟩
  · rw [if_pos z] at hq
    exact sp_no hR (by decide) (by decide) hq
  · rw [if_neg z] at hq
    simp +decide (disch := omega) only [lit, lit_neg, i_add, i_mul, i_sub, i_div, i_and, i_or, i_shl1, Nat.one_mul, i_shr1, i_bit1, i_lt, i_eq, i_in, i_cl, i_0, gI_sI, bi_0n, bi_1n, nz_bi, nz_0n, nz_1n, vn_0n, vn_1n, vn_bi, and_true, true_and, not_false_eq_true, not_true_eq_false, false_implies, true_implies, forall_const, implies_true, ite_true, ite_false, Bool.not_eq_true, Bool.not_eq_false, and_false, false_and, if_true, if_false, if_pos, true_or, or_true, false_or, or_false]
    exact hq σ hR
theorem rp_wayState {M : Ms} {σ : Sg} {x : Int32} {Q : Int32 → Sg → Prop} (hP : WFp M) (hR : RM M σ) (hq : RefDoes (op_wayState x M) Q) : wp_X10_wayState x σ Q := by
  unfold op_wayState at hq
  unfold wp_X10_wayState
  have h := wayN_le hP
  rw [hR.1.2.1.2.2.2.2.2.2.2.2.1]
  simp +decide (disch := omega) only [lit, lit_neg, i_add, i_mul, i_sub, i_div, i_and, i_or, i_shl1, Nat.one_mul, i_shr1, i_bit1, i_lt, i_eq, i_in, i_cl, i_0, gI_sI, bi_0n, bi_1n, nz_bi, nz_0n, nz_1n, vn_0n, vn_1n, vn_bi, and_true, true_and, not_false_eq_true, not_true_eq_false, false_implies, true_implies, forall_const, implies_true, ite_true, ite_false, Bool.not_eq_true, Bool.not_eq_false, and_false, false_and, if_true, if_false, if_pos, true_or, or_true, false_or, or_false, neg_lit]
  refine ⟨fun z => ?_, fun z => sp_isInN (by omega) ?_⟩
  · rw [if_pos z] at hq
    exact sp_no hR (by decide) (by decide) hq
  · rw [if_neg z] at hq
    simp +decide (disch := omega) only [lit, lit_neg, i_add, i_mul, i_sub, i_div, i_and, i_or, i_shl1, Nat.one_mul, i_shr1, i_bit1, i_lt, i_eq, i_in, i_cl, i_0, gI_sI, bi_0n, bi_1n, nz_bi, nz_0n, nz_1n, vn_0n, vn_1n, vn_bi, and_true, true_and, not_false_eq_true, not_true_eq_false, false_implies, true_implies, forall_const, implies_true, ite_true, ite_false, Bool.not_eq_true, Bool.not_eq_false, and_false, false_and, if_true, if_false, if_pos, true_or, or_true, false_or, or_false, neg_lit]
    refine ⟨fun z2 => ?_, fun z2 => ?_⟩
    · rw [if_pos z2] at hq
      exact sp_no hR (by decide) (by decide) hq
    · rw [if_neg (by rw [z2]; decide)] at hq
      obtain ⟨j, hj, hj2, rfl⟩ := inb_t z2
      rw [cn_nI hj2] at hq
      simp +decide (disch := omega) only [lit, lit_neg, i_add, i_mul, i_sub, i_div, i_and, i_or, i_shl1, Nat.one_mul, i_shr1, i_bit1, i_lt, i_eq, i_in, i_cl, i_0, gI_sI, bi_0n, bi_1n, nz_bi, nz_0n, nz_1n, vn_0n, vn_1n, vn_bi, and_true, true_and, not_false_eq_true, not_true_eq_false, false_implies, true_implies, forall_const, implies_true, ite_true, ite_false, Bool.not_eq_true, Bool.not_eq_false, and_false, false_and, if_true, if_false, if_pos, true_or, or_true, false_or, or_false, show j < 40 by omega, hR.1.2.1.2.2.2.2.2.2.2.2.2 j hj]
      exact hq σ hR
theorem waySt_lt {M : Ms} (hW : WFm M) (hP : WFp M) (i : Nat) (hi : i < wayN M) : waySt M i < 2 ^ M 0 1 := by
  unfold waySt
  split
  · exact hW.2.2.2.2.2.1
  · rename_i h
    exact (hP.2.2.2.1 _ (by omega)).1
theorem rp_wayChoice {M : Ms} {σ : Sg} {x : Int32} {Q : Int32 → Sg → Prop} (hW : WFm M) (hP : WFp M) (hR : RM M σ) (hq : RefDoes (op_wayChoice x M) Q) : wp_X10_wayChoice x σ Q := by
  unfold op_wayChoice at hq
  have h := wayN_le hP
  have h256 := pow_le8 hW.2.1
  have h16 := pow_le4 hW.2.2.1
  intro L43 h43
  rw [hR.1.2.1.2.2.2.2.2.2.2.2.1]
  simp +decide (disch := omega) only [lit, lit_neg, i_add, i_mul, i_sub, i_div, i_and, i_or, i_shl1, Nat.one_mul, i_shr1, i_bit1, i_lt, i_eq, i_in, i_cl, i_0, gI_sI, bi_0n, bi_1n, nz_bi, nz_0n, nz_1n, vn_0n, vn_1n, vn_bi, and_true, true_and, not_false_eq_true, not_true_eq_false, false_implies, true_implies, forall_const, implies_true, ite_true, ite_false, Bool.not_eq_true, Bool.not_eq_false, and_false, false_and, if_true, if_false, if_pos, true_or, or_true, false_or, or_false, neg_lit]
  refine ⟨fun z => ?_, fun z => sp_isInN (by omega) ?_⟩
  · rw [if_pos z] at hq
    exact sp_no hR (by decide) (by decide) hq
  · rw [if_neg z] at hq
    simp +decide (disch := omega) only [lit, lit_neg, i_add, i_mul, i_sub, i_div, i_and, i_or, i_shl1, Nat.one_mul, i_shr1, i_bit1, i_lt, i_eq, i_in, i_cl, i_0, gI_sI, bi_0n, bi_1n, nz_bi, nz_0n, nz_1n, vn_0n, vn_1n, vn_bi, and_true, true_and, not_false_eq_true, not_true_eq_false, false_implies, true_implies, forall_const, implies_true, ite_true, ite_false, Bool.not_eq_true, Bool.not_eq_false, and_false, false_and, if_true, if_false, if_pos, true_or, or_true, false_or, or_false, neg_lit]
    refine ⟨fun z2 => ?_, fun z2 => sp_tab hW hR (fun τ hτ hT _ => ?_)⟩
    · rw [if_pos z2] at hq
      exact sp_no hR (by decide) (by decide) hq
    · rw [if_neg (by rw [z2]; decide)] at hq
      obtain ⟨j, hj, hj2, rfl⟩ := inb_t z2
      rw [cn_nI hj2] at hq
      have hs := waySt_lt hW hP j hj
      have r33 := hτ.1.2.1.2.2.2.2.2.2.2.2.1
      have r19 := hτ.1.2.1.2.2.2.2.2.2.2.2.2
      refine up_loop (L := fun i => L43 i τ) (I := fun i => ∀ c, c < i → (fun c => if j = wayN M - 1 then badB M (waySt M j) c else decide (toN M (waySt M j) c = waySt M (j + 1) + 1)) c = false) (2 ^ M 0 2) ?_ ?_ 0 (Nat.zero_le _) (fun c hc => absurd hc (by omega))
      · intro c hc hI nx
        apply h43
        refine sp_ways hW hτ.1.1 ?_
        obtain ⟨t1, t2, t3⟩ := hT (waySt M j) c hs hc
        have hto := toN_lt M (waySt M j) c
        simp +decide (disch := omega) only [lit, lit_neg, i_add, i_mul, i_sub, i_div, i_and, i_or, i_shl1, Nat.one_mul, i_shr1, i_bit1, i_lt, i_eq, i_in, i_cl, i_0, gI_sI, bi_0n, bi_1n, nz_bi, nz_0n, nz_1n, vn_0n, vn_1n, vn_bi, and_true, true_and, not_false_eq_true, not_true_eq_false, false_implies, true_implies, forall_const, implies_true, ite_true, ite_false, Bool.not_eq_true, Bool.not_eq_false, and_false, false_and, if_true, if_false, if_pos, true_or, or_true, false_or, or_false, hc, r33, r19 j hj, show j < 40 by omega, show 16 * waySt M j + c < 4096 by omega, t1, t2]
        have hnx : (fun c => if j = wayN M - 1 then badB M (waySt M j) c else decide (toN M (waySt M j) c = waySt M (j + 1) + 1)) c = false → L43 (nI (c + 1)) τ := fun hf => nx (fun d hd => by
          by_cases e : d = c
          · subst e; exact hf
          · exact hI d (by omega))
        have hgo : (fun c => if j = wayN M - 1 then badB M (waySt M j) c else decide (toN M (waySt M j) c = waySt M (j + 1) + 1)) c = true → Q (nI c) τ := fun hf => by
          have := hq τ hτ
          unfold wayCh at this
          rw [lst_some hc hf hI, e1_s] at this
          exact this
        refine ⟨fun q => ?_, fun q => ?_⟩
        · refine ⟨fun q2 => hnx ?_, fun q2 => hgo ?_⟩
          · show (if j = wayN M - 1 then _ else _) = _
            rw [if_pos q]; exact q2
          · show (if j = wayN M - 1 then _ else _) = _
            rw [if_pos q]; exact q2
        · have hs2 := waySt_lt hW hP (j + 1) (by omega)
          simp +decide (disch := omega) only [lit, lit_neg, i_add, i_mul, i_sub, i_div, i_and, i_or, i_shl1, Nat.one_mul, i_shr1, i_bit1, i_lt, i_eq, i_in, i_cl, i_0, gI_sI, bi_0n, bi_1n, nz_bi, nz_0n, nz_1n, vn_0n, vn_1n, vn_bi, and_true, true_and, not_false_eq_true, not_true_eq_false, false_implies, true_implies, forall_const, implies_true, ite_true, ite_false, Bool.not_eq_true, Bool.not_eq_false, and_false, false_and, if_true, if_false, if_pos, true_or, or_true, false_or, or_false, r19 (j + 1) (by omega), show j + 1 < 40 by omega, e1_eq]
          refine ⟨fun q2 => hgo ?_, fun q2 => hnx ?_⟩
          · show (if j = wayN M - 1 then _ else _) = _
            rw [if_neg q]; exact decide_eq_true q2
          · show (if j = wayN M - 1 then _ else _) = _
            rw [if_neg q]; exact decide_eq_false q2
      · intro hI
        apply h43
        refine sp_ways hW hτ.1.1 ?_
        simp +decide (disch := omega) only [lit, lit_neg, i_add, i_mul, i_sub, i_div, i_and, i_or, i_shl1, Nat.one_mul, i_shr1, i_bit1, i_lt, i_eq, i_in, i_cl, i_0, gI_sI, bi_0n, bi_1n, nz_bi, nz_0n, nz_1n, vn_0n, vn_1n, vn_bi, and_true, true_and, not_false_eq_true, not_true_eq_false, false_implies, true_implies, forall_const, implies_true, ite_true, ite_false, Bool.not_eq_true, Bool.not_eq_false, and_false, false_and, if_true, if_false, if_pos, true_or, or_true, false_or, or_false, Nat.lt_irrefl]
        have := hq τ hτ
        unfold wayCh at this
        rw [lst_none hI] at this
        exact this
theorem rp_ask {M : Ms} {σ : Sg} {x y w : Int32} {Q : Int32 → Sg → Prop} (hW : WFm M) (hP : WFp M) (hR : RM M σ) (hq : RefDoes (op_ask x y w M) Q) : wp_X10_ask x y w σ Q := by
  have h256 := pow_le8 hW.2.1
  unfold op_ask at hq
  refine sp_isInC (n := 25) rfl ?_
  simp +decide (disch := omega) only [lit, lit_neg, i_add, i_mul, i_sub, i_div, i_and, i_or, i_shl1, Nat.one_mul, i_shr1, i_bit1, i_lt, i_eq, i_in, i_cl, i_0, gI_sI, bi_0n, bi_1n, nz_bi, nz_0n, nz_1n, vn_0n, vn_1n, vn_bi, and_true, true_and, not_false_eq_true, not_true_eq_false, false_implies, true_implies, forall_const, implies_true, ite_true, ite_false, Bool.not_eq_true, Bool.not_eq_false, and_false, false_and, if_true, if_false, if_pos, true_or, or_true, false_or, or_false, neg_lit]
  refine ⟨fun z => ?_, fun z => sp_isCube hW hR.1.1 ?_⟩
  · rw [if_pos z] at hq
    exact sp_no hR (by decide) (by decide) hq
  · rw [if_neg (by rw [z]; decide)] at hq
    simp +decide (disch := omega) only [lit, lit_neg, i_add, i_mul, i_sub, i_div, i_and, i_or, i_shl1, Nat.one_mul, i_shr1, i_bit1, i_lt, i_eq, i_in, i_cl, i_0, gI_sI, bi_0n, bi_1n, nz_bi, nz_0n, nz_1n, vn_0n, vn_1n, vn_bi, and_true, true_and, not_false_eq_true, not_true_eq_false, false_implies, true_implies, forall_const, implies_true, ite_true, ite_false, Bool.not_eq_true, Bool.not_eq_false, and_false, false_and, if_true, if_false, if_pos, true_or, or_true, false_or, or_false, neg_lit]
    refine ⟨fun z2 => ?_, fun z2 => sp_tab hW hR (fun τ hτ hT _ => ?_)⟩
    · rw [if_pos z2] at hq
      exact sp_no hR (by decide) (by decide) hq
    · rw [if_neg (by rw [z2]; decide)] at hq
      obtain ⟨j, hj, hj2, rfl⟩ := inb_t z
      obtain ⟨a, b, ha, rfl, rfl, hb⟩ := isCb_t hW.2.1 z2
      have hb2 : b < 256 := and_eq_le hb (by omega)
      rw [cn_nI hj2, cn_nI (by omega), cn_nI (by omega)] at hq
      exact sp_asked hW hP hτ.1 hT (by omega) (by omega) (hq τ hτ)
theorem rp_widen {M : Ms} {σ : Sg} {x y w : Int32} {Q : Int32 → Sg → Prop} (hW : WFm M) (hP : WFp M) (hR : RM M σ) (hq : RefDoes (op_widen x y w M) Q) : wp_X10_widen x y w σ Q := by
  have h256 := pow_le8 hW.2.1
  have hfi := hW.2.2.2.2.2.1
  unfold op_widen at hq
  refine sp_isFrame ?_
  simp +decide (disch := omega) only [lit, lit_neg, i_add, i_mul, i_sub, i_div, i_and, i_or, i_shl1, Nat.one_mul, i_shr1, i_bit1, i_lt, i_eq, i_in, i_cl, i_0, gI_sI, bi_0n, bi_1n, nz_bi, nz_0n, nz_1n, vn_0n, vn_1n, vn_bi, and_true, true_and, not_false_eq_true, not_true_eq_false, false_implies, true_implies, forall_const, implies_true, ite_true, ite_false, Bool.not_eq_true, Bool.not_eq_false, and_false, false_and, if_true, if_false, if_pos, true_or, or_true, false_or, or_false, neg_lit]
  refine ⟨fun z => ?_, fun z => sp_isCube hW hR.1.1 ?_⟩
  · rw [if_pos z] at hq
    exact sp_no hR (by decide) (by decide) hq
  · rw [if_neg (by rw [z]; decide)] at hq
    simp +decide (disch := omega) only [lit, lit_neg, i_add, i_mul, i_sub, i_div, i_and, i_or, i_shl1, Nat.one_mul, i_shr1, i_bit1, i_lt, i_eq, i_in, i_cl, i_0, gI_sI, bi_0n, bi_1n, nz_bi, nz_0n, nz_1n, vn_0n, vn_1n, vn_bi, and_true, true_and, not_false_eq_true, not_true_eq_false, false_implies, true_implies, forall_const, implies_true, ite_true, ite_false, Bool.not_eq_true, Bool.not_eq_false, and_false, false_and, if_true, if_false, if_pos, true_or, or_true, false_or, or_false, neg_lit]
    refine ⟨fun z2 => ?_, fun z2 => ?_⟩
    · rw [if_pos (Or.inl z2)] at hq
      exact sp_no hR (by decide) (by decide) hq
    · obtain ⟨j, j1, j2, rfl⟩ := isFr_t z
      obtain ⟨a, b, ha, rfl, rfl, hb⟩ := isCb_t hW.2.1 z2
      have hb2 : b < 256 := and_eq_le hb (by omega)
      rw [cn_nI (show j < 2147483648 by omega), cn_nI (show a < 2147483648 by omega), cn_nI (show b < 2147483648 by omega)] at hq
      rw [hR.1.1.2.2.2.1]
      refine sp_inCube (by omega) (by omega) ?_
      simp +decide (disch := omega) only [lit, lit_neg, i_add, i_mul, i_sub, i_div, i_and, i_or, i_shl1, Nat.one_mul, i_shr1, i_bit1, i_lt, i_eq, i_in, i_cl, i_0, gI_sI, bi_0n, bi_1n, nz_bi, nz_0n, nz_1n, vn_0n, vn_1n, vn_bi, and_true, true_and, not_false_eq_true, not_true_eq_false, false_implies, true_implies, forall_const, implies_true, ite_true, ite_false, Bool.not_eq_true, Bool.not_eq_false, and_false, false_and, if_true, if_false, if_pos, true_or, or_true, false_or, or_false, neg_lit]
      refine ⟨fun z3 => sp_tab hW hR (fun τ hτ hT _ => ?_), fun z3 => ?_⟩
      · refine sp_asked hW hP hτ.1 hT (by omega) (by omega) ?_
        have hle := askN_le M (j - 1) a b
        simp +decide (disch := omega) only [lit, lit_neg, i_add, i_mul, i_sub, i_div, i_and, i_or, i_shl1, Nat.one_mul, i_shr1, i_bit1, i_lt, i_eq, i_in, i_cl, i_0, gI_sI, bi_0n, bi_1n, nz_bi, nz_0n, nz_1n, vn_0n, vn_1n, vn_bi, and_true, true_and, not_false_eq_true, not_true_eq_false, false_implies, true_implies, forall_const, implies_true, ite_true, ite_false, Bool.not_eq_true, Bool.not_eq_false, and_false, false_and, if_true, if_false, if_pos, true_or, or_true, false_or, or_false, e1_lt0]
        refine ⟨fun z4 => ?_, fun z4 => ?_⟩
        · rw [if_neg (by simp [z2, z3, z4])] at hq
          exact sp_widened hW hP hτ.1 hT j1 j2 ha (by omega) (hq τ hτ)
        · rw [if_pos (Or.inr (Or.inr z4))] at hq
          exact sp_no hτ (by decide) (by decide) hq
      · rw [if_pos (Or.inr (Or.inl z3))] at hq
        exact sp_no hR (by decide) (by decide) hq
