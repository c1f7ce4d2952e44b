/-! the reference: the list and the row -/
theorem rd {v : Int32} {N : Ms} {τ : Sg} {Q : Int32 → Sg → Prop} (hq : RefDoes (v, N) Q) (h : RM N τ) : Q v τ := hq τ h
theorem RLs_same {M N : Ms} {σ : Sg} (hl : RLs M σ) (h : ∀ a k, (a = 0 ∧ (k = 7 ∨ (13 ≤ k ∧ k ≤ 16))) ∨ a = 8 ∨ (12 ≤ a ∧ a ≤ 14) → N a k = M a k) : RLs N σ := RLs_cg h (fun _ _ _ => rfl) hl
theorem rp_take {M : Ms} {σ : Sg} {Q : Int32 → Sg → Prop} (hW : WFm M) (hP : WFp M) (hR : RM M σ) (hq : RefDoes (op_take M) Q) : wp_X10_take σ Q := by
  unfold op_take at hq
  intro L40 h40
  have h31 := hR.1.2.1.2.2.2.2.2.2.1
  have hcl := hR.1.2.1.2.2.2.2.2.2.2.1
  by_cases he : M 0 9 = 1
  · rw [if_neg (by omega)] at hq
    rw [if_pos he] at h31
    have hw := hP.2.2.2.2.2 he
    have h200 := (hP.2.2.1 (M 0 12) (by omega)).1
    rw [h31]
    simp +decide (disch := omega) only [lit, lit_neg, i_add, i_mul, i_sub, i_div, i_and, i_or, i_shl1, Nat.one_mul, i_shr1, i_bit1, i_lt, i_eq, i_in, i_cl, i_0, gI_sI, bi_0n, bi_1n, nz_bi, nz_0n, nz_1n, vn_0n, vn_1n, vn_bi, and_true, true_and, not_false_eq_true, not_true_eq_false, false_implies, true_implies, forall_const, implies_true, ite_true, ite_false, Bool.not_eq_true, Bool.not_eq_false, and_false, false_and, if_true, if_false, if_pos, true_or, or_true, false_or, or_false, neg_lit]
    refine ⟨by omega, fun _ => ⟨fun z => ?_, fun z => ?_⟩⟩
    · rw [if_pos z] at hq
      exact sp_no hR (by decide) (by decide) hq
    · rw [if_neg z] at hq
      refine up_loopS (I := fun i τ => But (fun a k => a = 23 ∨ a = 24 ∨ (a = 0 ∧ k = 39)) σ τ ∧ gI τ 0 39 = nI (M 9 (M 0 12)) ∧ ∀ k, k < i → gI τ 23 k = nI (M (100 + M 0 12) k) ∧ gI τ 24 k = nI (M (200 + M 0 12) k)) (M 9 (M 0 12)) ?_ ?_ 0 _ (Nat.zero_le _) ⟨But.rf.up (by simp), by simp [gI_sI], fun k hk => absurd hk (by omega)⟩
      · intro i τ hi ⟨hb, h39, hk⟩ nx
        apply h40
        have g31 : gI τ 0 31 = nI (M 9 (M 0 12)) := by rw [hb 0 31 (by omega)]; exact h31
        have g17 : gI τ 17 i = nI (M (100 + M 0 12) i) := by rw [hb 17 i (by omega)]; exact (hcl he i hi).1
        have g18 : gI τ 18 i = nI (M (200 + M 0 12) i) := by rw [hb 18 i (by omega)]; exact (hcl he i hi).2
        simp +decide (disch := omega) only [lit, lit_neg, i_add, i_mul, i_sub, i_div, i_and, i_or, i_shl1, Nat.one_mul, i_shr1, i_bit1, i_lt, i_eq, i_in, i_cl, i_0, gI_sI, bi_0n, bi_1n, nz_bi, nz_0n, nz_1n, vn_0n, vn_1n, vn_bi, and_true, true_and, not_false_eq_true, not_true_eq_false, false_implies, true_implies, forall_const, implies_true, ite_true, ite_false, Bool.not_eq_true, Bool.not_eq_false, and_false, false_and, if_true, if_false, if_pos, true_or, or_true, false_or, or_false, g31, hi, show i < 200 by omega, show i < 100 by omega, g17, g18]
        refine nx _ ⟨(hb.up (by simp)).up (by simp), by simp [gI_sI, h39], fun k hk2 => ?_⟩
        simp only [gI_sI]
        by_cases e : k = i
        · subst e; simp
        · simp [e]; exact hk k (by omega)
      · intro τ ⟨hb, h39, hk⟩
        apply h40
        have g31 : gI τ 0 31 = nI (M 9 (M 0 12)) := by rw [hb 0 31 (by omega)]; exact h31
        simp +decide (disch := omega) only [lit, lit_neg, i_add, i_mul, i_sub, i_div, i_and, i_or, i_shl1, Nat.one_mul, i_shr1, i_bit1, i_lt, i_eq, i_in, i_cl, i_0, gI_sI, bi_0n, bi_1n, nz_bi, nz_0n, nz_1n, vn_0n, vn_1n, vn_bi, and_true, true_and, not_false_eq_true, not_true_eq_false, false_implies, true_implies, forall_const, implies_true, ite_true, ite_false, Bool.not_eq_true, Bool.not_eq_false, and_false, false_and, if_true, if_false, if_pos, true_or, or_true, false_or, or_false, g31, Nat.lt_irrefl, h39]
        refine rd hq (RM_new hR (fun a k z => ?_) (hb.mono (fun a k z => by unfold lsS; omega)) ?_)
        · unfold takeM
          unfold lsM at z
          rw [if_neg (by omega), if_neg (by omega), if_neg (by omega)]
        · obtain ⟨l1, l2, l3, l4, l5, l6, l7, l8⟩ := hR.1.2.2
          have t : ∀ a k, a ≠ 12 → a ≠ 13 → ¬ (a = 0 ∧ k = 13) → takeM M a k = M a k := fun a k z z2 z3 => by unfold takeM; rw [if_neg (by omega), if_neg (by omega), if_neg z3]
          have t13 : takeM M 0 13 = M 9 (M 0 12) := by unfold takeM; rw [if_neg (by omega), if_neg (by omega), if_pos ⟨rfl, rfl⟩]
          refine ⟨?_, fun b b1 b2 => ?_, ?_, fun i hi => ?_, ?_, ?_, ?_, fun i hi => ?_⟩
          · rw [t 0 7 (by omega) (by omega) (by omega), hb 0 19 (by omega)]; exact l1
          · rw [t 8 b (by omega) (by omega) (by omega), hb 8 b (by omega)]; exact l2 b b1 b2
          · rw [t13]; exact h39
          · rw [t13] at hi
            have := hk i hi
            unfold takeM
            rw [if_pos ⟨rfl, hi⟩, if_neg (by omega), if_pos ⟨rfl, hi⟩]
            exact this
          · rw [t 0 14 (by omega) (by omega) (by omega), hb 0 40 (by omega)]; exact l5
          · rw [t 0 15 (by omega) (by omega) (by omega), hb 0 41 (by omega)]; exact l6
          · rw [t 0 16 (by omega) (by omega) (by omega), hb 0 46 (by omega)]; exact l7
          · rw [t 0 16 (by omega) (by omega) (by omega)] at hi
            rw [t 14 i (by omega) (by omega) (by omega), hb 25 i (by omega)]; exact l8 i hi
  · rw [if_pos he] at hq
    rw [if_neg he] at h31
    rw [h31]
    exact ⟨fun _ => sp_no hR (by decide) (by decide) hq, fun z => absurd (by decide) z⟩
theorem RLs_list {M : Ms} {σ τ : Sg} {N : Ms} {n : Nat} (hl : RLs M σ) (h : ∀ a k, (a = 0 ∧ (k = 7 ∨ (14 ≤ k ∧ k ≤ 16))) ∨ a = 8 ∨ a = 14 → N a k = M a k) (hg : ∀ a k, (a = 0 ∧ (k = 19 ∨ 40 ≤ k)) ∨ a = 8 ∨ a = 25 → gI τ a k = gI σ a k) (hn : N 0 13 = n) (h39 : gI τ 0 39 = nI n) (hc : ∀ i, i < n → gI τ 23 i = nI (N 12 i) ∧ gI τ 24 i = nI (N 13 i)) : RLs N τ := by
  obtain ⟨l1, l2, l3, l4, l5, l6, l7, l8⟩ := hl
  refine ⟨?_, fun b b1 b2 => ?_, by rw [hn]; exact h39, fun i hi => hc i (by omega), ?_, ?_, ?_, fun i hi => ?_⟩
  · rw [h 0 7 (by omega), hg 0 19 (by omega)]; exact l1
  · rw [h 8 b (by omega), hg 8 b (by omega)]; exact l2 b b1 b2
  · rw [h 0 14 (by omega), hg 0 40 (by omega)]; exact l5
  · rw [h 0 15 (by omega), hg 0 41 (by omega)]; exact l6
  · rw [h 0 16 (by omega), hg 0 46 (by omega)]; exact l7
  · rw [h 0 16 (by omega)] at hi
    rw [h 14 i (by omega), hg 25 i (by omega)]; exact l8 i hi
theorem rp_list {M : Ms} {σ : Sg} {x y : Int32} {Q : Int32 → Sg → Prop} (hW : WFm M) (hL : WFl M) (hR : RM M σ) (hq : RefDoes (op_list x y M) Q) : wp_X10_list x y σ Q := by
  have h256 := pow_le8 hW.2.1
  have h100 := hL.1
  unfold op_list at hq
  refine sp_isCube hW hR.1.1 ?_
  have h39 := hR.1.2.2.2.2.1
  simp +decide (disch := omega) only [lit, lit_neg, i_add, i_mul, i_sub, i_div, i_and, i_or, i_shl1, Nat.one_mul, i_shr1, i_bit1, i_lt, i_eq, i_in, i_cl, i_0, gI_sI, bi_0n, bi_1n, nz_bi, nz_0n, nz_1n, vn_0n, vn_1n, vn_bi, and_true, true_and, not_false_eq_true, not_true_eq_false, false_implies, true_implies, forall_const, implies_true, ite_true, ite_false, Bool.not_eq_true, Bool.not_eq_false, and_false, false_and, if_true, if_false, if_pos, true_or, or_true, false_or, or_false, neg_lit, h39]
  refine ⟨fun z => ?_, fun z => ⟨fun z2 => ?_, fun z2 => ⟨by omega, ⟨by omega, ?_⟩⟩⟩⟩
  · rw [if_pos z] at hq
    exact sp_no hR (by decide) (by decide) hq
  · rw [if_neg (by rw [z]; decide), if_pos z2] at hq
    exact sp_no hR (by decide) (by decide) hq
  · rw [if_neg (by rw [z]; decide), if_neg z2] at hq
    obtain ⟨a, b, ha, rfl, rfl, hb⟩ := isCb_t hW.2.1 z
    have hb2 : b < 256 := and_eq_le hb (by omega)
    rw [cn_nI (show a < 2147483648 by omega), cn_nI (show b < 2147483648 by omega)] at hq
    refine rd hq (RM_new hR (fun c k q => ?_) (((But.rf.up ?_).up ?_).up ?_) (RLs_list (n := M 0 13 + 1) hR.1.2.2 (fun c k q => ?_) (fun c k q => ?_) rfl ?_ (fun i hi => ?_)))
    · unfold lsM at q
      rw [up_ne _ _ _ _ _ _ (by omega), up_ne _ _ _ _ _ _ (by omega), up_ne _ _ _ _ _ _ (by omega)]
    · unfold lsS; omega
    · unfold lsS; omega
    · unfold lsS; omega
    · rw [up_ne _ _ _ _ _ _ (by omega), up_ne _ _ _ _ _ _ (by omega), up_ne _ _ _ _ _ _ (by omega)]
    · simp only [gI_sI]
      rw [if_neg (by omega), if_neg (by omega), if_neg (by omega)]
    · simp [gI_sI]
    · simp only [gI_sI, up_at]
      by_cases e : i = M 0 13
      · subst e; simp
      · simp [e]; exact hR.1.2.2.2.2.2.1 i (by omega)
theorem rp_clear {M : Ms} {σ : Sg} {Q : Int32 → Sg → Prop} (hR : RM M σ) (hq : RefDoes (op_clear M) Q) : wp_X10_clear σ Q := by
  unfold op_clear at hq
  unfold wp_X10_clear
  rw [hR.1.2.2.2.2.1]
  refine rd hq (RM_new hR (fun c k q => ?_) (But.rf.up ?_) (RLs_list (n := 0) hR.1.2.2 (fun c k q => ?_) (fun c k q => ?_) rfl ?_ (fun i hi => absurd hi (by omega))))
  · unfold lsM at q
    rw [up_ne _ _ _ _ _ _ (by omega)]
  · unfold lsS; omega
  · rw [up_ne _ _ _ _ _ _ (by omega)]
  · simp only [gI_sI]
    rw [if_neg (by omega)]
  · simp [gI_sI, nI_0]
theorem rp_fails {M : Ms} {σ : Sg} {x : Int32} {Q : Int32 → Sg → Prop} (hR : RM M σ) (hq : RefDoes (op_fails x M) Q) : wp_X10_fails x σ Q := by
  unfold op_fails at hq
  refine sp_isInC (n := 2) rfl ?_
  rw [hR.1.2.2.2.2.2.2.1, hR.1.2.2.2.2.2.2.2.1]
  simp +decide (disch := omega) only [lit, lit_neg, i_add, i_mul, i_sub, i_div, i_and, i_or, i_shl1, Nat.one_mul, i_shr1, i_bit1, i_lt, i_eq, i_in, i_cl, i_0, gI_sI, bi_0n, bi_1n, nz_bi, nz_0n, nz_1n, vn_0n, vn_1n, vn_bi, and_true, true_and, not_false_eq_true, not_true_eq_false, false_implies, true_implies, forall_const, implies_true, ite_true, ite_false, Bool.not_eq_true, Bool.not_eq_false, and_false, false_and, if_true, if_false, if_pos, true_or, or_true, false_or, or_false, neg_lit]
  refine ⟨fun z => ?_, fun z => ⟨fun q => ?_, fun q => ?_⟩⟩
  · rw [if_pos z] at hq
    exact sp_no hR (by decide) (by decide) hq
  · rw [if_neg (by rw [z]; decide), if_pos (show x = 0 from q)] at hq; exact hq σ hR
  · rw [if_neg (by rw [z]; decide), if_neg (show ¬ x = 0 from q)] at hq; exact hq σ hR
theorem rp_listed {M : Ms} {σ : Sg} {x y : Int32} {Q : Int32 → Sg → Prop} (hL : WFl M) (hR : RM M σ) (hq : RefDoes (op_listed x y M) Q) : wp_X10_listed x y σ Q := by
  have h100 := hL.1
  unfold op_listed at hq
  unfold wp_X10_listed
  rw [hR.1.2.2.2.2.1]
  refine sp_isInN (by omega) ?_
  simp +decide (disch := omega) only [lit, lit_neg, i_add, i_mul, i_sub, i_div, i_and, i_or, i_shl1, Nat.one_mul, i_shr1, i_bit1, i_lt, i_eq, i_in, i_cl, i_0, gI_sI, bi_0n, bi_1n, nz_bi, nz_0n, nz_1n, vn_0n, vn_1n, vn_bi, and_true, true_and, not_false_eq_true, not_true_eq_false, false_implies, true_implies, forall_const, implies_true, ite_true, ite_false, Bool.not_eq_true, Bool.not_eq_false, and_false, false_and, if_true, if_false, if_pos, true_or, or_true, false_or, or_false, neg_lit]
  refine ⟨fun z => ?_, fun z => ?_⟩
  · rw [if_pos z] at hq
    exact sp_no hR (by decide) (by decide) hq
  · rw [if_neg (by rw [z]; decide)] at hq
    obtain ⟨j, hj, hj2, rfl⟩ := inb_t z
    rw [cn_nI hj2] at hq
    obtain ⟨c1, c2⟩ := hR.1.2.2.2.2.2.1 j hj
    simp +decide (disch := omega) only [lit, lit_neg, i_add, i_mul, i_sub, i_div, i_and, i_or, i_shl1, Nat.one_mul, i_shr1, i_bit1, i_lt, i_eq, i_in, i_cl, i_0, gI_sI, bi_0n, bi_1n, nz_bi, nz_0n, nz_1n, vn_0n, vn_1n, vn_bi, and_true, true_and, not_false_eq_true, not_true_eq_false, false_implies, true_implies, forall_const, implies_true, ite_true, ite_false, Bool.not_eq_true, Bool.not_eq_false, and_false, false_and, if_true, if_false, if_pos, true_or, or_true, false_or, or_false, show j < 100 by omega, c1, c2]
    refine ⟨fun q => ?_, fun q => ?_⟩
    · rw [if_pos (show y = 0 from q)] at hq; exact hq σ hR
    · rw [if_neg (show ¬ y = 0 from q)] at hq; exact hq σ hR
theorem rp_status {M : Ms} {σ : Sg} {x : Int32} {Q : Int32 → Sg → Prop} (hR : RM M σ) (hq : RefDoes (op_status x M) Q) : wp_X10_status x σ Q := by
  unfold op_status at hq
  refine sp_isIn (toI64 x) (a := -8) (b := -2) rfl rfl ?_
  simp +decide (disch := omega) only [lit, lit_neg, i_add, i_mul, i_sub, i_div, i_and, i_or, i_shl1, Nat.one_mul, i_shr1, i_bit1, i_lt, i_eq, i_in, i_cl, i_0, gI_sI, bi_0n, bi_1n, nz_bi, nz_0n, nz_1n, vn_0n, vn_1n, vn_bi, and_true, true_and, not_false_eq_true, not_true_eq_false, false_implies, true_implies, forall_const, implies_true, ite_true, ite_false, Bool.not_eq_true, Bool.not_eq_false, and_false, false_and, if_true, if_false, if_pos, true_or, or_true, false_or, or_false, neg_lit]
  refine ⟨fun z => ?_, fun z => ?_⟩
  · rw [if_neg (of_decide_eq_false z)] at hq
    exact sp_no hR (by decide) (by decide) hq
  · have z2 := of_decide_eq_true z
    rw [if_pos z2] at hq
    have : ∃ b, 2 ≤ b ∧ b ≤ 8 ∧ x = -(nI b) := by
      refine ⟨(-x.toInt).toNat, by omega, by omega, ?_⟩
      apply Int32.toInt_inj.mp
      rw [Int32.toInt_neg, i_toInt (by omega)]
      have : (((-x.toInt).toNat : Nat) : Int) = -x.toInt := by omega
      rw [this, Int.neg_neg]
      exact (Int32.toInt_bmod_size x).symm
    obtain ⟨b, b1, b2, rfl⟩ := this
    have e : -(-(nI b)) = nI b := Int32.neg_neg
    rw [e] at hq ⊢
    rw [cn_nI (by omega)] at hq
    simp +decide (disch := omega) only [lit, lit_neg, i_add, i_mul, i_sub, i_div, i_and, i_or, i_shl1, Nat.one_mul, i_shr1, i_bit1, i_lt, i_eq, i_in, i_cl, i_0, gI_sI, bi_0n, bi_1n, nz_bi, nz_0n, nz_1n, vn_0n, vn_1n, vn_bi, and_true, true_and, not_false_eq_true, not_true_eq_false, false_implies, true_implies, forall_const, implies_true, ite_true, ite_false, Bool.not_eq_true, Bool.not_eq_false, and_false, false_and, if_true, if_false, if_pos, true_or, or_true, false_or, or_false, show b < 9 by omega, hR.1.2.2.2.1 b b1 b2]
    exact hq σ hR
theorem RLs_row {M : Ms} {σ τ : Sg} {N : Ms} {n : Nat} (hl : RLs M σ) (h : ∀ a k, (a = 0 ∧ (k = 7 ∨ (13 ≤ k ∧ k ≤ 15))) ∨ a = 8 ∨ a = 12 ∨ a = 13 → N a k = M a k) (hg : ∀ a k, (a = 0 ∧ (k = 19 ∨ 39 ≤ k ∧ k ≤ 45)) ∨ a = 8 ∨ a = 23 ∨ a = 24 → gI τ a k = gI σ a k) (hn : N 0 16 = n) (h46 : gI τ 0 46 = e1 n) (hc : ∀ i, i + 1 < n → gI τ 25 i = nI (N 14 i)) : RLs N τ := by
  obtain ⟨l1, l2, l3, l4, l5, l6, l7, l8⟩ := hl
  refine ⟨?_, fun b b1 b2 => ?_, ?_, fun i hi => ?_, ?_, ?_, by rw [hn]; exact h46, fun i hi => hc i (by omega)⟩
  · rw [h 0 7 (by omega), hg 0 19 (by omega)]; exact l1
  · rw [h 8 b (by omega), hg 8 b (by omega)]; exact l2 b b1 b2
  · rw [h 0 13 (by omega), hg 0 39 (by omega)]; exact l3
  · rw [h 0 13 (by omega)] at hi
    rw [h 12 i (by omega), h 13 i (by omega), hg 23 i (by omega), hg 24 i (by omega)]; exact l4 i hi
  · rw [h 0 14 (by omega), hg 0 40 (by omega)]; exact l5
  · rw [h 0 15 (by omega), hg 0 41 (by omega)]; exact l6
theorem rp_tear {M : Ms} {σ : Sg} {Q : Int32 → Sg → Prop} (hL : WFl M) (hR : RM M σ) (hq : RefDoes (op_tear M) Q) : wp_X10_tear σ Q := by
  have h81 := hL.2.2.1
  unfold op_tear at hq
  unfold wp_X10_tear
  rw [hR.1.2.2.2.2.2.2.2.2.1]
  have key : RM (up M 0 16 0) (sI σ 0 46 (-1)) := by
    refine RM_new hR (fun c k q => ?_) (But.rf.up ?_) (RLs_row (n := 0) hR.1.2.2 (fun c k q => ?_) (fun c k q => ?_) rfl ?_ (fun i hi => absurd hi (by omega)))
    · unfold lsM at q
      rw [up_ne _ _ _ _ _ _ (by omega)]
    · unfold lsS; omega
    · rw [up_ne _ _ _ _ _ _ (by omega)]
    · simp only [gI_sI]
      rw [if_neg (by omega)]
    · simp [gI_sI, e1_0]
  simp +decide (disch := omega) only [lit, lit_neg, i_add, i_mul, i_sub, i_div, i_and, i_or, i_shl1, Nat.one_mul, i_shr1, i_bit1, i_lt, i_eq, i_in, i_cl, i_0, gI_sI, bi_0n, bi_1n, nz_bi, nz_0n, nz_1n, vn_0n, vn_1n, vn_bi, and_true, true_and, not_false_eq_true, not_true_eq_false, false_implies, true_implies, forall_const, implies_true, ite_true, ite_false, Bool.not_eq_true, Bool.not_eq_false, and_false, false_and, if_true, if_false, if_pos, true_or, or_true, false_or, or_false, e1_lt0]
  refine ⟨fun z => ?_, fun z => ?_⟩
  · rw [if_pos z] at hq; exact hq _ key
  · rw [if_neg z] at hq; exact hq _ key
theorem rp_row {M : Ms} {σ : Sg} {x : Int32} {Q : Int32 → Sg → Prop} (hL : WFl M) (hR : RM M σ) (hq : RefDoes (op_row x M) Q) : wp_X10_row x σ Q := by
  have h81 := hL.2.2.1
  unfold op_row at hq
  unfold wp_X10_row
  rw [hR.1.2.2.2.2.2.2.2.2.1]
  simp +decide (disch := omega) only [lit, lit_neg, i_add, i_mul, i_sub, i_div, i_and, i_or, i_shl1, Nat.one_mul, i_shr1, i_bit1, i_lt, i_eq, i_in, i_cl, i_0, gI_sI, bi_0n, bi_1n, nz_bi, nz_0n, nz_1n, vn_0n, vn_1n, vn_bi, and_true, true_and, not_false_eq_true, not_true_eq_false, false_implies, true_implies, forall_const, implies_true, ite_true, ite_false, Bool.not_eq_true, Bool.not_eq_false, and_false, false_and, if_true, if_false, if_pos, true_or, or_true, false_or, or_false, e1_lt0, neg_lit]
  refine ⟨fun z => ?_, fun z => ?_⟩
  · rw [if_pos z] at hq; exact sp_no hR (by decide) (by decide) hq
  · rw [if_neg z] at hq
    rw [e1_p (by omega)]
    refine sp_isInN (by omega) ?_
    simp +decide (disch := omega) only [lit, lit_neg, i_add, i_mul, i_sub, i_div, i_and, i_or, i_shl1, Nat.one_mul, i_shr1, i_bit1, i_lt, i_eq, i_in, i_cl, i_0, gI_sI, bi_0n, bi_1n, nz_bi, nz_0n, nz_1n, vn_0n, vn_1n, vn_bi, and_true, true_and, not_false_eq_true, not_true_eq_false, false_implies, true_implies, forall_const, implies_true, ite_true, ite_false, Bool.not_eq_true, Bool.not_eq_false, and_false, false_and, if_true, if_false, if_pos, true_or, or_true, false_or, or_false, neg_lit]
    refine ⟨fun z2 => ?_, fun z2 => ?_⟩
    · rw [if_pos z2] at hq; exact sp_no hR (by decide) (by decide) hq
    · rw [if_neg (by rw [z2]; decide)] at hq
      obtain ⟨j, hj, hj2, rfl⟩ := inb_t z2
      rw [cn_nI hj2] at hq
      simp +decide (disch := omega) only [lit, lit_neg, i_add, i_mul, i_sub, i_div, i_and, i_or, i_shl1, Nat.one_mul, i_shr1, i_bit1, i_lt, i_eq, i_in, i_cl, i_0, gI_sI, bi_0n, bi_1n, nz_bi, nz_0n, nz_1n, vn_0n, vn_1n, vn_bi, and_true, true_and, not_false_eq_true, not_true_eq_false, false_implies, true_implies, forall_const, implies_true, ite_true, ite_false, Bool.not_eq_true, Bool.not_eq_false, and_false, false_and, if_true, if_false, if_pos, true_or, or_true, false_or, or_false, show j < 80 by omega, hR.1.2.2.2.2.2.2.2.2.2 j (by omega)]
      exact hq σ hR
