/-! the reference: forge, lay, copy -/
theorem rp_forge {M : Ms} {σ : Sg} {x y w : Int32} {Q : Int32 → Sg → Prop} (hW : WFm M) (hL : WFl M) (hR : RM M σ) (hq : RefDoes (op_forge x y w M) Q) : wp_X10_forge x y w σ Q := by
  have h8 := hW.2.1
  have h256 := pow_le8 hW.2.1
  have h100 := hL.1
  unfold op_forge at hq
  unfold wp_X10_forge
  rw [hR.1.2.2.2.2.1, hR.1.1.2.1]
  refine sp_isInN (by omega) ?_
  simp +decide (disch := omega) only [lit, lit_neg, i_add, i_mul, i_sub, i_div, i_and, i_or, i_shl1, Nat.one_mul, i_shr1, i_bit1, i_lt, i_eq, i_in, i_cl, i_0, gI_sI, bi_0n, bi_1n, nz_bi, nz_0n, nz_1n, vn_0n, vn_1n, vn_bi, and_true, true_and, not_false_eq_true, not_true_eq_false, false_implies, true_implies, forall_const, implies_true, ite_true, ite_false, Bool.not_eq_true, Bool.not_eq_false, and_false, false_and, if_true, if_false, if_pos, true_or, or_true, false_or, or_false, neg_lit]
  refine ⟨fun z => ?_, fun z => sp_isInN (by omega) ?_⟩
  · rw [if_pos (Or.inl z)] at hq
    exact sp_no hR (by decide) (by decide) hq
  · simp +decide (disch := omega) only [lit, lit_neg, i_add, i_mul, i_sub, i_div, i_and, i_or, i_shl1, Nat.one_mul, i_shr1, i_bit1, i_lt, i_eq, i_in, i_cl, i_0, gI_sI, bi_0n, bi_1n, nz_bi, nz_0n, nz_1n, vn_0n, vn_1n, vn_bi, and_true, true_and, not_false_eq_true, not_true_eq_false, false_implies, true_implies, forall_const, implies_true, ite_true, ite_false, Bool.not_eq_true, Bool.not_eq_false, and_false, false_and, if_true, if_false, if_pos, true_or, or_true, false_or, or_false, neg_lit]
    refine ⟨fun z2 => ?_, fun z2 => ?_⟩
    · rw [if_pos (Or.inr z2)] at hq
      exact sp_no hR (by decide) (by decide) hq
    · rw [if_neg (by simp [z, z2])] at hq
      obtain ⟨i, hi, hi2, rfl⟩ := inb_t z
      obtain ⟨j, hj, hj2, rfl⟩ := inb_t z2
      rw [cn_nI hi2, cn_nI hj2] at hq
      obtain ⟨c1, c2⟩ := hR.1.2.2.2.2.2.1 i hi
      have ha := (hL.2.1 i hi).1
      have hb : M 13 i < 256 := and_eq_le (hL.2.1 i hi).2 (by omega)
      have hsm : M 12 i < 2147483648 := by omega
      simp +decide (disch := omega) only [lit, lit_neg, i_add, i_mul, i_sub, i_div, i_and, i_or, i_shl1, Nat.one_mul, i_shr1, i_bit1, i_lt, i_eq, i_in, i_cl, i_0, gI_sI, bi_0n, bi_1n, nz_bi, nz_0n, nz_1n, vn_0n, vn_1n, vn_bi, and_true, true_and, not_false_eq_true, not_true_eq_false, false_implies, true_implies, forall_const, implies_true, ite_true, ite_false, Bool.not_eq_true, Bool.not_eq_false, and_false, false_and, if_true, if_false, if_pos, true_or, or_true, false_or, or_false, show i < 100 by omega, c1, c2, hsm, show j < 32 by omega, i_1shl1]
      have h1 : w = 0 → (M 12 i).testBit j = true → Q (nI 1) (sI σ 24 i (nI (M 13 i) ^^^ nI (2 ^ j))) := fun q t => by
        rw [if_pos q, if_neg (by rw [t]; decide)] at hq
        refine rd hq (RM_new hR (fun c k q => ?_) (But.rf.up ?_) (RLs_list (n := M 0 13) hR.1.2.2 (fun c k q => ?_) (fun c k q => ?_) rfl ?_ (fun k hk => ?_)))
        · unfold lsM at q
          rw [up_ne _ _ _ _ _ _ (by omega)]
        · unfold lsS; omega
        · rw [up_ne _ _ _ _ _ _ (by omega)]
        · simp only [gI_sI]
          rw [if_neg (by omega)]
        · simp only [gI_sI]
          rw [if_neg (by omega)]; exact hR.1.2.2.2.2.1
        · obtain ⟨d1, d2⟩ := hR.1.2.2.2.2.2.1 k hk
          simp only [gI_sI, up_at]
          by_cases e : k = i
          · subst e; simp [d1, i_xor]
          · simp [e, d1, d2]
      have h2 : w = 0 → (M 12 i).testBit j = false → wp_X10_no (-(nI 7)) σ (fun r s => Q r s) := fun q t => by
        rw [if_pos q, if_pos t] at hq
        exact sp_no hR (by decide) (by decide) hq
      have h3 : ¬ w = 0 → Q (nI 1) (sI (sI σ 23 i (nI (M 12 i) ^^^ nI (2 ^ j))) 24 i (nI (M 13 i) &&& (nI (2 ^ j) ^^^ e1 0))) := fun q => by
        rw [if_neg q] at hq
        refine rd hq (RM_new hR (fun c k q => ?_) ((But.rf.up ?_).up ?_) (RLs_list (n := M 0 13) hR.1.2.2 (fun c k q => ?_) (fun c k q => ?_) rfl ?_ (fun k hk => ?_)))
        · unfold lsM at q
          rw [up_ne _ _ _ _ _ _ (by omega), up_ne _ _ _ _ _ _ (by omega)]
        · unfold lsS; omega
        · unfold lsS; omega
        · rw [up_ne _ _ _ _ _ _ (by omega), up_ne _ _ _ _ _ _ (by omega)]
        · simp only [gI_sI]
          rw [if_neg (by omega), if_neg (by omega)]
        · simp only [gI_sI]
          rw [if_neg (by omega), if_neg (by omega)]; exact hR.1.2.2.2.2.1
        · obtain ⟨d1, d2⟩ := hR.1.2.2.2.2.2.1 k hk
          simp only [gI_sI, up_at]
          by_cases e : k = i
          · subst e; simp [i_xor, i_andn]
          · simp [e, d1, d2]
      exact ⟨fun t => ⟨fun q => ⟨fun q2 => h1 q2 t, fun q2 => h3 q2⟩, fun q => ⟨fun q2 => h1 q2 t, fun q2 => h3 q2⟩⟩, fun t => ⟨fun q => h2 q t, fun q => ⟨fun q2 => absurd q2 q, fun q2 => h3 q2⟩⟩⟩
theorem rp_lay {M : Ms} {σ : Sg} {x y : Int32} {Q : Int32 → Sg → Prop} (hW : WFm M) (hR : RM M σ) (hq : RefDoes (op_lay x y M) Q) : wp_X10_lay x y σ Q := by
  have h80 := hW.1
  have h256 := pow_le8 hW.2.1
  have h16 := pow_le4 hW.2.2.1
  unfold op_lay at hq
  intro L47 h47
  refine sp_isState hW hR.1.1 ?_
  simp +decide (disch := omega) only [lit, lit_neg, i_add, i_mul, i_sub, i_div, i_and, i_or, i_shl1, Nat.one_mul, i_shr1, i_bit1, i_lt, i_eq, i_in, i_cl, i_0, gI_sI, bi_0n, bi_1n, nz_bi, nz_0n, nz_1n, vn_0n, vn_1n, vn_bi, and_true, true_and, not_false_eq_true, not_true_eq_false, false_implies, true_implies, forall_const, implies_true, ite_true, ite_false, Bool.not_eq_true, Bool.not_eq_false, and_false, false_and, if_true, if_false, if_pos, true_or, or_true, false_or, or_false, neg_lit]
  refine ⟨fun z => ?_, fun z => sp_ways hW hR.1.1 (sp_isInN (by omega) ?_)⟩
  · rw [if_pos (Or.inl z)] at hq
    exact sp_no hR (by decide) (by decide) hq
  · simp +decide (disch := omega) only [lit, lit_neg, i_add, i_mul, i_sub, i_div, i_and, i_or, i_shl1, Nat.one_mul, i_shr1, i_bit1, i_lt, i_eq, i_in, i_cl, i_0, gI_sI, bi_0n, bi_1n, nz_bi, nz_0n, nz_1n, vn_0n, vn_1n, vn_bi, and_true, true_and, not_false_eq_true, not_true_eq_false, false_implies, true_implies, forall_const, implies_true, ite_true, ite_false, Bool.not_eq_true, Bool.not_eq_false, and_false, false_and, if_true, if_false, if_pos, true_or, or_true, false_or, or_false, neg_lit]
    refine ⟨fun z2 => ?_, fun z2 => ?_⟩
    · rw [if_pos (Or.inr z2)] at hq
      exact sp_no hR (by decide) (by decide) hq
    · rw [if_neg (by simp [z, z2])] at hq
      obtain ⟨s, hs, hs2, rfl⟩ := inb_t z
      obtain ⟨c, hc, hc2, rfl⟩ := inb_t z2
      rw [cn_nI hs2, cn_nI hc2] at hq
      refine sp_show hW hR.1.1 hs hc (fun υ hb hv => ?_)
      have g5 : gI υ 0 5 = nI (M 0 0) := by rw [hb 0 5 (by omega)]; exact hR.1.1.1
      simp +decide (disch := omega) only [lit, lit_neg, i_add, i_mul, i_sub, i_div, i_and, i_or, i_shl1, Nat.one_mul, i_shr1, i_bit1, i_lt, i_eq, i_in, i_cl, i_0, gI_sI, bi_0n, bi_1n, nz_bi, nz_0n, nz_1n, vn_0n, vn_1n, vn_bi, and_true, true_and, not_false_eq_true, not_true_eq_false, false_implies, true_implies, forall_const, implies_true, ite_true, ite_false, Bool.not_eq_true, Bool.not_eq_false, and_false, false_and, if_true, if_false, if_pos, true_or, or_true, false_or, or_false, g5]
      refine up_loopS (I := fun i τ => But (fun a k => a = 25 ∨ (a = 0 ∧ k = 46)) υ τ ∧ gI τ 0 46 = nI (M 0 0) ∧ ∀ k, k < i → gI τ 25 k = nI (val M s c k).toNat) (M 0 0) ?_ ?_ 0 _ (Nat.zero_le _) ⟨But.rf.up (by simp), by simp [gI_sI], fun k hk => absurd hk (by omega)⟩
      · intro i τ hi ⟨hb2, h46, hk⟩ nx
        apply h47
        have t5 : gI τ 0 5 = nI (M 0 0) := by rw [hb2 0 5 (by omega)]; exact g5
        have tv : gI τ 5 i = bi (val M s c i) := by rw [hb2 5 i (by omega)]; exact hv i hi
        simp +decide (disch := omega) only [lit, lit_neg, i_add, i_mul, i_sub, i_div, i_and, i_or, i_shl1, Nat.one_mul, i_shr1, i_bit1, i_lt, i_eq, i_in, i_cl, i_0, gI_sI, bi_0n, bi_1n, nz_bi, nz_0n, nz_1n, vn_0n, vn_1n, vn_bi, and_true, true_and, not_false_eq_true, not_true_eq_false, false_implies, true_implies, forall_const, implies_true, ite_true, ite_false, Bool.not_eq_true, Bool.not_eq_false, and_false, false_and, if_true, if_false, if_pos, true_or, or_true, false_or, or_false, t5, hi, show i < 80 by omega, tv]
        have go : ∀ v, v = nI (val M s c i).toNat → L47 (nI (i + 1)) (sI τ 25 i v) := fun v hv2 => nx _ ⟨hb2.up (by simp), by simp [gI_sI, h46], fun k hk2 => by
          simp only [gI_sI]
          by_cases e : k = i
          · subst e; simp [hv2]
          · simp [e]; exact hk k (by omega)⟩
        exact ⟨fun q => go _ (by rw [q]; rfl), fun q => go _ (by rw [q]; rfl)⟩
      · intro τ ⟨hb2, h46, hk⟩
        apply h47
        have t5 : gI τ 0 5 = nI (M 0 0) := by rw [hb2 0 5 (by omega)]; exact g5
        simp +decide (disch := omega) only [lit, lit_neg, i_add, i_mul, i_sub, i_div, i_and, i_or, i_shl1, Nat.one_mul, i_shr1, i_bit1, i_lt, i_eq, i_in, i_cl, i_0, gI_sI, bi_0n, bi_1n, nz_bi, nz_0n, nz_1n, vn_0n, vn_1n, vn_bi, and_true, true_and, not_false_eq_true, not_true_eq_false, false_implies, true_implies, forall_const, implies_true, ite_true, ite_false, Bool.not_eq_true, Bool.not_eq_false, and_false, false_and, if_true, if_false, if_pos, true_or, or_true, false_or, or_false, t5, Nat.lt_irrefl]
        have hbb : But lsS σ τ := (hb.mono (fun a k z => by unfold lsS; omega)).tr (hb2.mono (fun a k z => by unfold lsS; omega))
        have l0 : ∀ a k, a ≠ 14 → ¬ (a = 0 ∧ k = 16) → layM M s c a k = M a k := fun a k z z2 => by unfold layM; rw [if_neg z, if_neg z2]
        refine rd hq (RM_new hR (fun c k q => ?_) hbb (RLs_row (n := M 0 0 + 1) hR.1.2.2 (fun c k q => ?_) (fun c k q => ?_) ?_ ?_ (fun k hk2 => ?_)))
        · unfold lsM at q
          exact l0 _ _ (by omega) (by omega)
        · exact l0 _ _ (by omega) (by omega)
        · rw [hb2 c k (by omega), hb c k (by omega)]
        · unfold layM
          rw [if_neg (by decide), if_pos ⟨rfl, rfl⟩]
        · rw [h46, e1_s]
        · rw [hk k (by omega)]
          unfold layM
          rw [if_pos rfl, if_pos (show k < M 0 0 by omega)]
theorem add64 (x y : Int32) : (x.toInt64 + y.toInt64).toInt = x.toInt + y.toInt := by
  rw [Int64.toInt_add, toI64, toI64]
  have h1 := Int32.toInt_lt x
  have h2 := Int32.le_toInt x
  have h3 := Int32.toInt_lt y
  have h4 := Int32.le_toInt y
  rw [Int.bmod_eq_of_le (by omega) (by omega)]
theorem rp_copy {M : Ms} {σ : Sg} {x y w : Int32} {Q : Int32 → Sg → Prop} (hL : WFl M) (hR : RM M σ) (hq : RefDoes (op_copy x y w M) Q) : wp_X10_copy x y w σ Q := by
  have h81 := hL.2.2.1
  unfold op_copy at hq
  intro L71 L102 h71 h102
  rw [hR.1.2.2.2.2.2.2.2.2.1]
  refine ⟨fun z => ?_, fun z => ?_⟩
  · rw [i_0, e1_lt0 (by omega)] at z
    rw [if_pos z] at hq; exact sp_no hR (by decide) (by decide) hq
  rw [i_0, e1_lt0 (by omega)] at z
  rw [if_neg z] at hq
  have he : (e1 (M 0 16)).toInt = (M 0 16 : Int) - 1 := by rw [e1_p (by omega), i_toInt (by omega)]; omega
  refine ⟨fun z2 => ?_, fun z2 => ?_⟩
  · rw [i_0, lt0_toInt] at z2
    rw [if_pos z2] at hq; exact sp_no hR (by decide) (by decide) hq
  rw [i_0, lt0_toInt] at z2
  rw [if_neg z2] at hq
  refine ⟨fun z3 => ?_, fun z3 => ?_⟩
  · rw [i_0, lt0_toInt] at z3
    rw [if_pos (Or.inl z3)] at hq; exact sp_no hR (by decide) (by decide) hq
  rw [i_0, lt0_toInt] at z3
  refine ⟨fun z4 => ?_, fun z4 => ?_⟩
  · rw [i_0, lt0_toInt] at z4
    rw [if_pos (Or.inr (Or.inl z4))] at hq; exact sp_no hR (by decide) (by decide) hq
  rw [i_0, lt0_toInt] at z4
  refine ⟨fun z5 => ?_, fun z5 => ?_⟩
  · rw [cmp_gt, add64, toI64, he] at z5
    rw [if_pos (Or.inr (Or.inr (Or.inl z5)))] at hq; exact sp_no hR (by decide) (by decide) hq
  rw [cmp_gt, add64, toI64, he] at z5
  refine ⟨fun z6 => ?_, fun z6 => ?_⟩
  · rw [cmp_gt, add64, toI64, he] at z6
    rw [if_pos (Or.inr (Or.inr (Or.inr z6)))] at hq; exact sp_no hR (by decide) (by decide) hq
  rw [cmp_gt, add64, toI64, he] at z6
  rw [if_neg (by omega)] at hq
  obtain ⟨i, hi, rfl⟩ := i_dec (x := x) (by rw [i_0, lt0_toInt]; exact z3)
  obtain ⟨j, hj, rfl⟩ := i_dec (x := y) (by rw [i_0, lt0_toInt]; exact z4)
  obtain ⟨n, hn, rfl⟩ := i_dec (x := w) (by rw [i_0, lt0_toInt]; exact z2)
  rw [i_toInt hi, i_toInt hn] at z5
  rw [i_toInt hj, i_toInt hn] at z6
  rw [cn_nI hi, cn_nI hj, cn_nI hn] at hq
  have l8 := hR.1.2.2.2.2.2.2.2.2.2
  refine up_loopS (I := fun k τ => But (fun a k => a = 26) σ τ ∧ ∀ d, d < k → gI τ 26 d = nI (M 14 (i + d))) n ?_ ?_ 0 _ (Nat.zero_le _) ⟨But.rf, fun k hk => absurd hk (by omega)⟩
  · intro k τ hk ⟨hb, hd⟩ nx
    apply h71
    have g25 : gI τ 25 (i + k) = nI (M 14 (i + k)) := by rw [hb 25 _ (by omega)]; exact l8 _ (by omega)
    simp +decide (disch := omega) only [lit, lit_neg, i_add, i_mul, i_sub, i_div, i_and, i_or, i_shl1, Nat.one_mul, i_shr1, i_bit1, i_lt, i_eq, i_in, i_cl, i_0, gI_sI, bi_0n, bi_1n, nz_bi, nz_0n, nz_1n, vn_0n, vn_1n, vn_bi, and_true, true_and, not_false_eq_true, not_true_eq_false, false_implies, true_implies, forall_const, implies_true, ite_true, ite_false, Bool.not_eq_true, Bool.not_eq_false, and_false, false_and, if_true, if_false, if_pos, true_or, or_true, false_or, or_false, hk, show i + k < 80 by omega, show k < 80 by omega, g25]
    refine nx _ ⟨hb.up rfl, fun d hd2 => ?_⟩
    simp only [gI_sI]
    by_cases e : d = k
    · subst e; simp
    · simp [e]; exact hd d (by omega)
  · intro τ ⟨hb, hd⟩
    apply h71
    simp +decide (disch := omega) only [lit, lit_neg, i_add, i_mul, i_sub, i_div, i_and, i_or, i_shl1, Nat.one_mul, i_shr1, i_bit1, i_lt, i_eq, i_in, i_cl, i_0, gI_sI, bi_0n, bi_1n, nz_bi, nz_0n, nz_1n, vn_0n, vn_1n, vn_bi, and_true, true_and, not_false_eq_true, not_true_eq_false, false_implies, true_implies, forall_const, implies_true, ite_true, ite_false, Bool.not_eq_true, Bool.not_eq_false, and_false, false_and, if_true, if_false, if_pos, true_or, or_true, false_or, or_false, Nat.lt_irrefl]
    refine up_loopS (I := fun k υ => But (fun a k => a = 25) τ υ ∧ (∀ d, d < k → gI υ 25 (j + d) = nI (M 14 (i + d))) ∧ ∀ d, ¬ (j ≤ d ∧ d < j + k) → gI υ 25 d = gI τ 25 d) n ?_ ?_ 0 _ (Nat.zero_le _) ⟨But.rf, fun k hk => absurd hk (by omega), fun d _ => rfl⟩
    · intro k υ hk ⟨hb2, hd2, hd3⟩ nx
      apply h102
      have g26 : gI υ 26 k = nI (M 14 (i + k)) := by rw [hb2 26 _ (by omega)]; exact hd k hk
      simp +decide (disch := omega) only [lit, lit_neg, i_add, i_mul, i_sub, i_div, i_and, i_or, i_shl1, Nat.one_mul, i_shr1, i_bit1, i_lt, i_eq, i_in, i_cl, i_0, gI_sI, bi_0n, bi_1n, nz_bi, nz_0n, nz_1n, vn_0n, vn_1n, vn_bi, and_true, true_and, not_false_eq_true, not_true_eq_false, false_implies, true_implies, forall_const, implies_true, ite_true, ite_false, Bool.not_eq_true, Bool.not_eq_false, and_false, false_and, if_true, if_false, if_pos, true_or, or_true, false_or, or_false, hk, show j + k < 80 by omega, show k < 80 by omega, g26]
      refine nx _ ⟨hb2.up rfl, fun d hd4 => ?_, fun d hd4 => ?_⟩
      · simp only [gI_sI]
        by_cases e : d = k
        · subst e; simp
        · rw [if_neg (by omega)]; exact hd2 d (by omega)
      · simp only [gI_sI]
        rw [if_neg (by omega)]; exact hd3 d (by omega)
    · intro υ ⟨hb2, hd2, hd3⟩
      apply h102
      simp +decide (disch := omega) only [lit, lit_neg, i_add, i_mul, i_sub, i_div, i_and, i_or, i_shl1, Nat.one_mul, i_shr1, i_bit1, i_lt, i_eq, i_in, i_cl, i_0, gI_sI, bi_0n, bi_1n, nz_bi, nz_0n, nz_1n, vn_0n, vn_1n, vn_bi, and_true, true_and, not_false_eq_true, not_true_eq_false, false_implies, true_implies, forall_const, implies_true, ite_true, ite_false, Bool.not_eq_true, Bool.not_eq_false, and_false, false_and, if_true, if_false, if_pos, true_or, or_true, false_or, or_false, Nat.lt_irrefl]
      have hbb : But (fun a k => a = 25 ∨ a = 26) σ υ := (hb.mono (fun a k z => Or.inr z)).tr (hb2.mono (fun a k z => Or.inl z))
      have l0 : ∀ a k, a ≠ 14 → copyM M i j n a k = M a k := fun a k z => by unfold copyM; rw [if_neg (by omega)]
      refine rd hq (RM_new hR (fun c k q => ?_) (hbb.mono (fun a k z => by unfold lsS; omega)) (RLs_row (n := M 0 16) hR.1.2.2 (fun c k q => ?_) (fun c k q => ?_) ?_ ?_ (fun k hk2 => ?_)))
      · unfold lsM at q
        exact l0 _ _ (by omega)
      · exact l0 _ _ (by omega)
      · exact hbb c k (by omega)
      · exact l0 _ _ (by omega)
      · rw [hbb 0 46 (by omega)]; exact hR.1.2.2.2.2.2.2.2.2.1
      · unfold copyM
        by_cases e : j ≤ k ∧ k < j + n
        · rw [if_pos ⟨rfl, e⟩]
          have := hd2 (k - j) (by omega)
          rw [show j + (k - j) = k by omega] at this
          exact this
        · rw [if_neg (by omega), hd3 k e, hb 25 k (by omega)]
          exact l8 k hk2
