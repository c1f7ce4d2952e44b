/-! the reference: shortest, within, keeps -/
theorem far_rc {M : Ms} {x s : Nat} : rc M x s = (if far M (2 ^ M 0 1) s = 0 then false else decide (far M (2 ^ M 0 1) s ≤ x + 1)) := by
  unfold rc
  cases hv : far M (2 ^ M 0 1) s with
  | zero => rw [if_pos rfl]; exact far_0 hv _ (by omega)
  | succ v =>
    rw [if_neg (by omega)]
    obtain ⟨f1, f2, f3⟩ := far_s hv
    by_cases q : v ≤ x
    · rw [decide_eq_true (by omega)]
      exact rch_mono M (by omega) f1
    · rw [decide_eq_false (by omega)]
      exact f3 _ (by omega)
def mnB (M : Ms) (i : Nat) : Nat := lst (2 ^ M 0 1 + 1) (fun d => anyN i (fun s => rch M d s && isBadS M s))
theorem mnB_s (M : Ms) (i : Nat) : mnB M (i + 1) = comb (mnB M i) (if isBadS M i = true then far M (2 ^ M 0 1) i else 0) := by
  unfold mnB
  simp only [anyN]
  rw [lst_or]
  have : lst (2 ^ M 0 1 + 1) (fun d => rch M d i && isBadS M i) = if isBadS M i = true then far M (2 ^ M 0 1) i else 0 := by
    cases h : isBadS M i
    · rw [if_neg (by decide)]; exact lst_none (fun d _ => by rw [Bool.and_false])
    · rw [if_pos rfl]; exact lst_congr (fun d _ => by rw [Bool.and_true])
  rw [this]
theorem rp_shortest {M : Ms} {σ : Sg} {Q : Int32 → Sg → Prop} (hW : WFm M) (hR : RM M σ) (hq : RefDoes (op_shortest M) Q) : wp_X10_shortest σ Q := by
  have h256 := pow_le8 hW.2.1
  intro L12 h12
  rw [hR.1.1.2.2.2.1]
  refine sp_findFar hW hR (fun τ hτ hT hf => ?_)
  have key := up_loopS (L := fun i x => L12 x i τ) (I := fun i x => x = e1 (mnB M i)) (2 ^ M 0 1) ?_ ?_ 0 (e1 0) (Nat.zero_le _) (by rw [show mnB M 0 = 0 from lst_none (fun _ _ => rfl)])
  · exact key
  · intro i x hi hx nx
    subst hx
    apply h12
    refine sp_states hW hτ.1.1 ?_
    have hle := far_le M (2 ^ M 0 1) i
    have hm : mnB M i ≤ 2 ^ M 0 1 + 1 := lst_le _ _
    have hs := mnB_s M i
    unfold comb at hs
    simp +decide (disch := omega) only [lit, lit_neg, i_add, i_mul, i_sub, i_div, i_and, i_or, i_shl1, Nat.one_mul, i_shr1, i_bit1, i_lt, i_eq, i_in, i_cl, i_0, gI_sI, bi_0n, bi_1n, nz_bi, nz_0n, nz_1n, vn_0n, vn_1n, vn_bi, and_true, true_and, not_false_eq_true, not_true_eq_false, false_implies, true_implies, forall_const, implies_true, ite_true, ite_false, Bool.not_eq_true, Bool.not_eq_false, and_false, false_and, if_true, if_false, if_pos, true_or, or_true, false_or, or_false, hi, show i < 256 by omega, hf i hi, e1_lt0]
    refine ⟨fun z => nx _ (by rw [z] at hs; congr 1; rw [hs]; repeat' split
                              all_goals omega), fun z => sp_isBad hW hτ.1.1 hT hi ?_⟩
    simp +decide (disch := omega) only [lit, lit_neg, i_add, i_mul, i_sub, i_div, i_and, i_or, i_shl1, Nat.one_mul, i_shr1, i_bit1, i_lt, i_eq, i_in, i_cl, i_0, gI_sI, bi_0n, bi_1n, nz_bi, nz_0n, nz_1n, vn_0n, vn_1n, vn_bi, and_true, true_and, not_false_eq_true, not_true_eq_false, false_implies, true_implies, forall_const, implies_true, ite_true, ite_false, Bool.not_eq_true, Bool.not_eq_false, and_false, false_and, if_true, if_false, if_pos, true_or, or_true, false_or, or_false, e1_lt0]
    refine ⟨fun q => nx _ (by rw [if_neg (show ¬ isBadS M i = true by rw [q]; decide)] at hs; congr 1; rw [hs]; repeat' split
                              all_goals omega), fun q => ⟨fun z2 => nx _ ?_, fun z2 => ?_⟩⟩
    · rw [if_pos q, if_pos z2] at hs; rw [hs]
    · rw [if_pos q, if_neg z2, if_neg z] at hs
      rw [e1_p (n := far M (2 ^ M 0 1) i) (by omega), e1_p (n := mnB M i) (by omega), i_lt (by omega) (by omega)]
      refine ⟨fun z3 => nx _ ?_, fun z3 => nx _ ?_⟩
      · rw [hs, ← e1_p (by omega)]; congr 1; omega
      · rw [hs, ← e1_p (by omega)]; congr 1; omega
  · intro x hx
    subst hx
    apply h12
    refine sp_states hW hτ.1.1 ?_
    simp +decide (disch := omega) only [lit, lit_neg, i_add, i_mul, i_sub, i_div, i_and, i_or, i_shl1, Nat.one_mul, i_shr1, i_bit1, i_lt, i_eq, i_in, i_cl, i_0, gI_sI, bi_0n, bi_1n, nz_bi, nz_0n, nz_1n, vn_0n, vn_1n, vn_bi, and_true, true_and, not_false_eq_true, not_true_eq_false, false_implies, true_implies, forall_const, implies_true, ite_true, ite_false, Bool.not_eq_true, Bool.not_eq_false, and_false, false_and, if_true, if_false, if_pos, true_or, or_true, false_or, or_false, Nat.lt_irrefl]
    exact hq τ hτ
theorem rp_within {M : Ms} {σ : Sg} {x : Int32} {Q : Int32 → Sg → Prop} (hW : WFm M) (hR : RM M σ) (hq : RefDoes (op_within x M) Q) : wp_X10_within x σ Q := by
  have h256 := pow_le8 hW.2.1
  unfold op_within at hq
  intro L23 h23
  rw [hR.1.1.2.2.2.1]
  refine ⟨fun z => ?_, fun z => ?_⟩
  · rw [i_0, lt0_toInt] at z
    rw [if_pos z] at hq
    exact sp_no hR (by decide) (by decide) hq
  · obtain ⟨n, hn, rfl⟩ := i_dec z
    rw [i_0, lt0_toInt] at z
    rw [if_neg z, cn_nI hn] at hq
    refine sp_findFar hW hR (fun τ hτ hT hf => ?_)
    refine up_loopS (L := fun i x => L23 x i τ) (I := fun i x => x = nI (cntB i (fun s => rc M n s))) (2 ^ M 0 1) ?_ ?_ 0 _ (Nat.zero_le _) rfl
    · intro i x hi hx nx
      subst hx
      apply h23
      refine sp_states hW hτ.1.1 ?_
      have hle := far_le M (2 ^ M 0 1) i
      have hc := far_rc (M := M) (x := n) (s := i)
      simp +decide (disch := omega) only [lit, lit_neg, i_add, i_mul, i_sub, i_div, i_and, i_or, i_shl1, Nat.one_mul, i_shr1, i_bit1, i_lt, i_eq, i_in, i_cl, i_0, gI_sI, bi_0n, bi_1n, nz_bi, nz_0n, nz_1n, vn_0n, vn_1n, vn_bi, and_true, true_and, not_false_eq_true, not_true_eq_false, false_implies, true_implies, forall_const, implies_true, ite_true, ite_false, Bool.not_eq_true, Bool.not_eq_false, and_false, false_and, if_true, if_false, if_pos, true_or, or_true, false_or, or_false, hi, show i < 256 by omega, hf i hi, e1_lt0]
      refine ⟨fun z => nx _ ?_, fun z => ?_⟩
      · rw [if_pos z] at hc
        simp [cntB, hc]
      · rw [if_neg z] at hc
        rw [e1_p (by omega), i_lt (by omega) (by omega)]
        refine ⟨fun z2 => nx _ ?_, fun z2 => nx _ ?_⟩
        · rw [decide_eq_false (by omega)] at hc
          simp [cntB, hc]
        · rw [decide_eq_true (by omega)] at hc
          simp [cntB, hc]
    · intro x hx
      subst hx
      apply h23
      refine sp_states hW hτ.1.1 ?_
      simp +decide (disch := omega) only [lit, lit_neg, i_add, i_mul, i_sub, i_div, i_and, i_or, i_shl1, Nat.one_mul, i_shr1, i_bit1, i_lt, i_eq, i_in, i_cl, i_0, gI_sI, bi_0n, bi_1n, nz_bi, nz_0n, nz_1n, vn_0n, vn_1n, vn_bi, and_true, true_and, not_false_eq_true, not_true_eq_false, false_implies, true_implies, forall_const, implies_true, ite_true, ite_false, Bool.not_eq_true, Bool.not_eq_false, and_false, false_and, if_true, if_false, if_pos, true_or, or_true, false_or, or_false, Nat.lt_irrefl]
      exact hq τ hτ
theorem rp_keeps {M : Ms} {σ : Sg} {x : Int32} {Q : Int32 → Sg → Prop} (hW : WFm M) (hP : WFp M) (hR : RM M σ) (hq : RefDoes (op_keeps x M) Q) : wp_X10_keeps x σ Q := by
  have h256 := pow_le8 hW.2.1
  unfold op_keeps at hq
  intro L26 h26
  rw [hR.1.1.2.2.2.1]
  refine sp_isFrame ?_
  simp +decide (disch := omega) only [lit, lit_neg, i_add, i_mul, i_sub, i_div, i_and, i_or, i_shl1, Nat.one_mul, i_shr1, i_bit1, i_lt, i_eq, i_in, i_cl, i_0, gI_sI, bi_0n, bi_1n, nz_bi, nz_0n, nz_1n, vn_0n, vn_1n, vn_bi, and_true, true_and, not_false_eq_true, not_true_eq_false, false_implies, true_implies, forall_const, implies_true, ite_true, ite_false, Bool.not_eq_true, Bool.not_eq_false, and_false, false_and, if_true, if_false, if_pos, true_or, or_true, false_or, or_false, neg_lit]
  refine ⟨fun z => ?_, fun z => ?_⟩
  · rw [if_pos z] at hq
    exact sp_no hR (by decide) (by decide) hq
  · rw [if_neg (by rw [z]; decide)] at hq
    obtain ⟨n, n1, n2, rfl⟩ := isFr_t z
    rw [cn_nI (show n < 2147483648 by omega)] at hq
    refine sp_findFar hW hR (fun τ hτ hT hf => ?_)
    refine and_loop (L := fun b i => L26 b i τ) (n := 2 ^ M 0 1) (f := fun s => !rc M n s || inFrB M n s) ?_ ?_
    · intro i b hi hb nx
      apply h26
      refine sp_states hW hτ.1.1 ?_
      have hle := far_le M (2 ^ M 0 1) i
      have hc := far_rc (M := M) (x := n) (s := i)
      simp +decide (disch := omega) only [lit, lit_neg, i_add, i_mul, i_sub, i_div, i_and, i_or, i_shl1, Nat.one_mul, i_shr1, i_bit1, i_lt, i_eq, i_in, i_cl, i_0, gI_sI, bi_0n, bi_1n, nz_bi, nz_0n, nz_1n, vn_0n, vn_1n, vn_bi, and_true, true_and, not_false_eq_true, not_true_eq_false, false_implies, true_implies, forall_const, implies_true, ite_true, ite_false, Bool.not_eq_true, Bool.not_eq_false, and_false, false_and, if_true, if_false, if_pos, true_or, or_true, false_or, or_false, hi, show i < 256 by omega, hf i hi, e1_lt0]
      refine ⟨fun hbf => by rw [hbf] at nx; exact nx, fun hbt => ?_⟩
      rw [hbt, Bool.true_and] at nx
      refine ⟨fun z => ?_, fun z => ?_⟩
      · rw [if_pos z] at hc
        rw [hc] at nx; exact nx
      · rw [if_neg z] at hc
        rw [e1_p (by omega), i_lt (by omega) (by omega)]
        refine ⟨fun z2 => ?_, fun z2 => sp_inFrame hW hP hτ.1.1 hτ.1.2.1 (by omega) (by omega) ?_⟩
        · rw [decide_eq_false (by omega)] at hc
          rw [hc] at nx; exact nx
        · rw [decide_eq_true (by omega)] at hc
          rw [hc] at nx
          simp +decide (disch := omega) only [lit, lit_neg, i_add, i_mul, i_sub, i_div, i_and, i_or, i_shl1, Nat.one_mul, i_shr1, i_bit1, i_lt, i_eq, i_in, i_cl, i_0, gI_sI, bi_0n, bi_1n, nz_bi, nz_0n, nz_1n, vn_0n, vn_1n, vn_bi, and_true, true_and, not_false_eq_true, not_true_eq_false, false_implies, true_implies, forall_const, implies_true, ite_true, ite_false, Bool.not_eq_true, Bool.not_eq_false, and_false, false_and, if_true, if_false, if_pos, true_or, or_true, false_or, or_false]
          exact ⟨fun q => by rw [q] at nx; exact nx, fun q => by rw [q] at nx; exact nx⟩
    · apply h26
      refine sp_states hW hτ.1.1 ?_
      simp +decide (disch := omega) only [lit, lit_neg, i_add, i_mul, i_sub, i_div, i_and, i_or, i_shl1, Nat.one_mul, i_shr1, i_bit1, i_lt, i_eq, i_in, i_cl, i_0, gI_sI, bi_0n, bi_1n, nz_bi, nz_0n, nz_1n, vn_0n, vn_1n, vn_bi, and_true, true_and, not_false_eq_true, not_true_eq_false, false_implies, true_implies, forall_const, implies_true, ite_true, ite_false, Bool.not_eq_true, Bool.not_eq_false, and_false, false_and, if_true, if_false, if_pos, true_or, or_true, false_or, or_false, Nat.lt_irrefl]
      have := hq τ hτ
      exact ⟨fun q => by rw [q] at this; exact this, fun q => by rw [q] at this; exact this⟩
