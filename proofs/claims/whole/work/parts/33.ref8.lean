/-! the reference: the machine's calls -/
theorem sp_isSign {M : Ms} {σ : Sg} {x : Int32} {Q : Int32 → Prop} (hW : WFm M) (hm : RMm M σ) (hq : Q (bi (isSg x M))) : wp_X10_isSign x σ Q := by
  have h80 := hW.1
  unfold wp_X10_isSign
  rw [hm.1, lit 2, i_mul, i_0, lt0_toInt, lt_toInt (by omega)]
  unfold isSg inb at hq
  refine ⟨fun h => ⟨nz_0, ?_⟩, fun h => ⟨fun h2 => ⟨nz_1, ?_⟩, fun h2 => ⟨nz_0, ?_⟩⟩⟩
  · rw [decide_eq_false (by omega)] at hq; exact hq
  · rw [decide_eq_true (by omega)] at hq; exact hq
  · rw [decide_eq_false (by omega)] at hq; exact hq
theorem sp_isState {M : Ms} {σ : Sg} {x : Int32} {Q : Int32 → Prop} (hW : WFm M) (hm : RMm M σ) (hq : Q (bi (inb x (2 ^ M 0 1)))) : wp_X10_isState x σ Q := by
  have h256 := pow_le8 hW.2.1
  unfold wp_X10_isState
  rw [i_0, lt0_toInt]
  unfold inb at hq
  refine ⟨fun h => ⟨nz_0, ?_⟩, fun h => sp_states hW hm ?_⟩
  · rw [decide_eq_false (by omega)] at hq; exact hq
  · rw [lt_toInt (by omega)]
    refine ⟨fun h2 => ⟨nz_1, ?_⟩, fun h2 => ⟨nz_0, ?_⟩⟩
    · rw [decide_eq_true (by omega)] at hq; exact hq
    · rw [decide_eq_false (by omega)] at hq; exact hq
theorem chgM_m (M : Ms) : agm M (chgM M) := ⟨fun k hk => by unfold chgM; rw [if_neg (by omega), if_neg (by omega), if_neg (by omega)], fun a k ha hb => by unfold chgM; rw [if_neg (by omega), if_neg (by omega), if_neg (by omega)]⟩
theorem sp_changes {M : Ms} {σ : Sg} {Q : Sg → Prop} (hm : RMm M σ) (hl : RLs M σ) (hq : ∀ τ, RM (chgM M) τ → (∀ a k, inMm a k → gI τ a k = gI σ a k) → Q τ) : wp_X10_changes σ Q := by
  intro L7 h7
  refine ⟨nz_0, ?_⟩
  refine up_loopS (I := fun i τ => But (fun a k => a = 14 ∨ (a = 0 ∧ k = 18)) σ τ ∧ gI τ 0 18 = 0 ∧ ∀ k, k < i → gI τ 14 k = nI 0) 25 ?_ ?_ 0 _ (by decide) ⟨But.rf.up (by simp), by simp [gI_sI], fun k hk => absurd hk (by omega)⟩
  · intro i τ hi ⟨hb, h18, hk⟩ nx
    apply h7
    simp +decide (disch := omega) only [lit, lit_neg, i_add, i_mul, i_sub, i_div, i_and, i_or, i_shl1, Nat.one_mul, i_shr1, i_bit1, i_lt, i_eq, i_in, i_cl, i_0, gI_sI, bi_0n, bi_1n, nz_bi, nz_0n, nz_1n, vn_0n, vn_1n, vn_bi, and_true, true_and, not_false_eq_true, not_true_eq_false, false_implies, true_implies, forall_const, implies_true, ite_true, ite_false, Bool.not_eq_true, Bool.not_eq_false, and_false, false_and, if_true, if_false, if_pos, true_or, or_true, false_or, or_false, hi, show ¬ 24 < i by omega]
    refine nx _ ⟨hb.up (by simp), by simp [gI_sI, h18], fun k hk2 => ?_⟩
    rw [gI_sI]
    by_cases e : k = i
    · rw [if_pos ⟨rfl, e⟩]
    · rw [if_neg (by omega)]; exact hk k (by omega)
  · intro τ ⟨hb, h18, hk⟩
    apply h7
    have g8 : gI τ 0 8 = nI (M 0 3) := by rw [hb 0 8 (by omega)]; exact hm.2.2.2.1
    simp +decide (disch := omega) only [lit, lit_neg, i_add, i_mul, i_sub, i_div, i_and, i_or, i_shl1, Nat.one_mul, i_shr1, i_bit1, i_lt, i_eq, i_in, i_cl, i_0, gI_sI, bi_0n, bi_1n, nz_bi, nz_0n, nz_1n, vn_0n, vn_1n, vn_bi, and_true, true_and, not_false_eq_true, not_true_eq_false, false_implies, true_implies, forall_const, implies_true, ite_true, ite_false, Bool.not_eq_true, Bool.not_eq_false, and_false, false_and, if_true, if_false, if_pos, true_or, or_true, false_or, or_false, g8]
    refine hq _ ?_ ?_
    · have g : ∀ a k, a ≠ 14 → a ≠ 0 → gI (sI (sI (sI (sI (sI (sI (sI (sI τ 0 23 (nI 0)) 0 24 (nI 0)) 0 25 (nI 0)) 0 26 (nI 0)) 0 31 (e1 0)) 0 33 (nI 0)) 0 39 (nI 0)) 0 19 (nI (M 0 3))) a k = gI σ a k := fun a k z z2 => by
        simp only [gI_sI]
        rw [if_neg (by omega), if_neg (by omega), if_neg (by omega), if_neg (by omega), if_neg (by omega), if_neg (by omega), if_neg (by omega), if_neg (by omega)]
        exact hb a k (by omega)
      have g0 : ∀ k, ¬ (23 ≤ k ∧ k ≤ 26) → k ≠ 31 → k ≠ 33 → k ≠ 39 → k ≠ 19 → k ≠ 18 → gI (sI (sI (sI (sI (sI (sI (sI (sI τ 0 23 (nI 0)) 0 24 (nI 0)) 0 25 (nI 0)) 0 26 (nI 0)) 0 31 (e1 0)) 0 33 (nI 0)) 0 39 (nI 0)) 0 19 (nI (M 0 3))) 0 k = gI σ 0 k := fun k z1 z2 z3 z4 z5 z6 => by
        simp only [gI_sI]
        rw [if_neg (by omega), if_neg (by omega), if_neg (by omega), if_neg (by omega), if_neg (by omega), if_neg (by omega), if_neg (by omega), if_neg (by omega)]
        exact hb 0 k (by omega)
      have c0 : ∀ k, 8 ≤ k → k ≤ 13 → chgM M 0 k = 0 := fun k k1 k2 => by unfold chgM; rw [if_neg (by omega), if_pos (by omega)]
      have c9 : ∀ k, chgM M 9 k = 0 := fun k => by unfold chgM; rw [if_pos rfl]
      have cx : ∀ a k, a ≠ 9 → ¬ (a = 0 ∧ 7 ≤ k ∧ k ≤ 13) → chgM M a k = M a k := fun a k z z2 => by unfold chgM; rw [if_neg z, if_neg (by omega), if_neg (by omega)]
      have w : wayN (chgM M) = 0 := wayN_0 (by rw [c0 9 (by omega) (by omega)]; decide)
      obtain ⟨l1, l2, l3, l4, l5, l6, l7, l8⟩ := hl
      refine ⟨⟨RMm_ag (chgM_m M) (hm.kept (S := fun a k => a = 14 ∨ (a = 0 ∧ (k = 18 ∨ k = 19 ∨ 23 ≤ k))) ?_ ?_), ⟨?_, ?_, ?_, ?_, fun i hi => ?_, fun k k1 k2 => ⟨?_, fun i hi => ?_⟩, ?_, ?_, ?_, ?_⟩, ?_, fun b b1 b2 => ?_, ?_, fun i hi => ?_, ?_, ?_, ?_, fun i hi => ?_⟩, Or.inl ?_⟩
      · intro a k z
        simp only [gI_sI]
        rw [if_neg (by omega), if_neg (by omega), if_neg (by omega), if_neg (by omega), if_neg (by omega), if_neg (by omega), if_neg (by omega), if_neg (by omega)]
        exact hb a k (by omega)
      · intro a k hi
        simp only [inMm] at hi
        omega
      · rw [c0 8 (by omega) (by omega)]; simp [gI_sI]
      · rw [c0 9 (by omega) (by omega)]; simp [gI_sI]
      · rw [c0 10 (by omega) (by omega)]; simp [gI_sI]
      · rw [c0 11 (by omega) (by omega)]; simp [gI_sI]
      · rw [c0 11 (by omega) (by omega)] at hi; omega
      · rw [c9]; simp [gI_sI, hk k (by omega)]
      · rw [c9] at hi; omega
      · rw [c0 9 (by omega) (by omega), if_neg (by decide)]; simp [gI_sI]
      · rw [c0 9 (by omega) (by omega)]; intro z; omega
      · rw [w]; simp [gI_sI]
      · rw [w]; intro i hi; omega
      · show _ = nI (M 0 3)
        simp [gI_sI]
      · rw [cx 8 b (by omega) (by omega), g 8 b (by omega) (by omega)]; exact l2 b b1 b2
      · rw [c0 13 (by omega) (by omega)]; simp [gI_sI]
      · rw [c0 13 (by omega) (by omega)] at hi; omega
      · rw [cx 0 14 (by omega) (by omega), g0 40 (by omega) (by omega) (by omega) (by omega) (by omega) (by omega)]; exact l5
      · rw [cx 0 15 (by omega) (by omega), g0 41 (by omega) (by omega) (by omega) (by omega) (by omega) (by omega)]; exact l6
      · rw [cx 0 16 (by omega) (by omega), g0 46 (by omega) (by omega) (by omega) (by omega) (by omega) (by omega)]; exact l7
      · rw [cx 0 16 (by omega) (by omega)] at hi
        rw [cx 14 i (by omega) (by omega), g 25 i (by omega) (by omega)]; exact l8 i hi
      · simp [gI_sI, h18]
    · intro a k hi
      simp only [inMm] at hi
      simp only [gI_sI]
      rw [if_neg (by omega), if_neg (by omega), if_neg (by omega), if_neg (by omega), if_neg (by omega), if_neg (by omega), if_neg (by omega), if_neg (by omega)]
      exact hb a k (by omega)
theorem RLs_cg {M N : Ms} {σ τ : Sg} (h : ∀ a k, (a = 0 ∧ (k = 7 ∨ (13 ≤ k ∧ k ≤ 16))) ∨ a = 8 ∨ (12 ≤ a ∧ a ≤ 14) → N a k = M a k) (hg : ∀ a k, (a = 0 ∧ (k = 19 ∨ 39 ≤ k)) ∨ a = 8 ∨ (23 ≤ a ∧ a ≤ 25) → gI τ a k = gI σ a k) (hl : RLs M σ) : RLs N τ := by
  obtain ⟨l1, l2, l3, l4, l5, l6, l7, l8⟩ := hl
  refine ⟨?_, fun b b1 b2 => ?_, ?_, fun i hi => ?_, ?_, ?_, ?_, fun i hi => ?_⟩
  · rw [h 0 7 (by omega), hg 0 19 (by omega)]; exact l1
  · rw [h 8 b (by omega), hg 8 b (by omega)]; exact l2 b b1 b2
  · rw [h 0 13 (by omega), hg 0 39 (by omega)]; exact l3
  · rw [h 0 13 (by omega)] at hi
    rw [h 12 i (by omega), h 13 i (by omega), hg 23 i (by omega), hg 24 i (by omega)]; exact l4 i hi
  · rw [h 0 14 (by omega), hg 0 40 (by omega)]; exact l5
  · rw [h 0 15 (by omega), hg 0 41 (by omega)]; exact l6
  · rw [h 0 16 (by omega), hg 0 46 (by omega)]; exact l7
  · rw [h 0 16 (by omega)] at hi
    rw [h 14 i (by omega), hg 25 i (by omega)]; exact l8 i hi
theorem sp_adds {M : Ms} {σ : Sg} {kd x y : Nat} {Q : Int32 → Sg → Prop} (hm : RMm M σ) (hl : RLs M σ) (hp : M 0 0 < 80) (hpl : kd ≠ 0 → gI σ 4 (M 0 0) = nI (M 4 (M 0 0))) (hq : ∀ τ, RM (chgM (addM M kd x y)) τ → Q (nI (M 0 0)) τ) : wp_X10_adds (nI kd) (e1 x) (e1 y) σ Q := by
  have r5 := hm.1
  unfold wp_X10_adds
  simp +decide (disch := omega) only [lit, lit_neg, i_add, i_mul, i_sub, i_div, i_and, i_or, i_shl1, Nat.one_mul, i_shr1, i_bit1, i_lt, i_eq, i_in, i_cl, i_0, gI_sI, bi_0n, bi_1n, nz_bi, nz_0n, nz_1n, vn_0n, vn_1n, vn_bi, and_true, true_and, not_false_eq_true, not_true_eq_false, false_implies, true_implies, forall_const, implies_true, ite_true, ite_false, Bool.not_eq_true, Bool.not_eq_false, and_false, false_and, if_true, if_false, if_pos, true_or, or_true, false_or, or_false, r5, hp]
  have q : ∀ a k, ¬ (a = 0 ∧ k = 0) → ¬ (1 ≤ a ∧ a ≤ 3 ∧ k = M 0 0) → addM M kd x y a k = M a k := fun a k z z2 => by
    unfold addM
    rw [up_ne _ _ _ _ _ _ (by omega), up_ne _ _ _ _ _ _ (by omega), up_ne _ _ _ _ _ _ (by omega), up_ne _ _ _ _ _ _ (by omega)]
  refine sp_changes (M := addM M kd x y) ?_ (RLs_cg (fun a k z => q a k (by omega) (by omega)) (fun a k z => ?_) hl) (fun τ hτ _ => hq τ hτ)
  · obtain ⟨r5, r6, r7, r8, r9, r10, r11, rp, ra, rf⟩ := hm
    have e0 : addM M kd x y 0 0 = M 0 0 + 1 := rfl
    refine ⟨by rw [e0]; simp [gI_sI], by rw [q 0 1 (by omega) (by omega)]; simpa [gI_sI] using r6, by rw [q 0 2 (by omega) (by omega)]; simpa [gI_sI] using r7, by rw [q 0 3 (by omega) (by omega)]; simpa [gI_sI] using r8, by rw [q 0 4 (by omega) (by omega)]; simpa [gI_sI] using r9, by rw [q 0 5 (by omega) (by omega)]; simpa [gI_sI] using r10, by rw [q 0 6 (by omega) (by omega)]; simpa [gI_sI] using r11, fun p hp2 => ?_, fun i hi => ?_, fun i hi => ?_⟩
    · rw [e0] at hp2
      by_cases e : p = M 0 0
      · subst e
        have e1' : addM M kd x y 1 (M 0 0) = kd := by unfold addM; rw [up_ne _ _ _ _ _ _ (by omega), up_ne _ _ _ _ _ _ (by omega), up_at, if_pos ⟨rfl, rfl⟩]
        have e2' : addM M kd x y 2 (M 0 0) = x := by unfold addM; rw [up_ne _ _ _ _ _ _ (by omega), up_at, if_pos ⟨rfl, rfl⟩]
        have e3' : addM M kd x y 3 (M 0 0) = y := by unfold addM; rw [up_at, if_pos ⟨rfl, rfl⟩]
        rw [e1', e2', e3', q 4 _ (by omega) (by omega)]
        simp only [gI_sI]
        simp
        exact hpl
      · rw [q 1 p (by omega) (by omega), q 2 p (by omega) (by omega), q 3 p (by omega) (by omega), q 4 p (by omega) (by omega)]
        simp only [gI_sI]
        simp [e]
        exact rp p (by omega)
    · rw [q 0 5 (by omega) (by omega)] at hi
      rw [q 5 i (by omega) (by omega)]
      simpa [gI_sI] using ra i hi
    · rw [q 0 6 (by omega) (by omega)] at hi
      rw [q 6 i (by omega) (by omega)]
      simpa [gI_sI] using rf i hi
  · simp only [gI_sI]
    rw [if_neg (by omega), if_neg (by omega), if_neg (by omega), if_neg (by omega)]
theorem rp_bit {M : Ms} {σ : Sg} {x y : Int32} {Q : Int32 → Sg → Prop} (hW : WFm M) (hR : RM M σ) (hq : RefDoes (op_bit x y M) Q) : wp_X10_bit x y σ Q := by
  have h80 := hW.1
  have h8 := hW.2.1
  have hR' := hR
  obtain ⟨⟨hm, hp, hl⟩, ht⟩ := hR
  have hm' := hm
  obtain ⟨r5, r6, r7, r8, r9, r10, r11, rp, ra, rf'⟩ := hm
  unfold wp_X10_bit
  simp +decide (disch := omega) only [lit, lit_neg, i_add, i_mul, i_sub, i_div, i_and, i_or, i_shl1, Nat.one_mul, i_shr1, i_bit1, i_lt, i_eq, i_in, i_cl, i_0, gI_sI, bi_0n, bi_1n, nz_bi, nz_0n, nz_1n, vn_0n, vn_1n, vn_bi, and_true, true_and, not_false_eq_true, not_true_eq_false, false_implies, true_implies, forall_const, implies_true, ite_true, ite_false, Bool.not_eq_true, Bool.not_eq_false, and_false, false_and, if_true, if_false, if_pos, true_or, or_true, false_or, or_false, r5, r6, neg_lit]
  unfold op_bit at hq
  refine ⟨fun z => ?_, fun z => ⟨fun z2 => ?_, fun z2 => ?_⟩⟩
  · rw [if_pos (Or.inl z)] at hq
    exact sp_no hR' (by decide) (by decide) hq
  · rw [if_pos (Or.inr z2)] at hq
    exact sp_no hR' (by decide) (by decide) hq
  · rw [if_neg (by omega)] at hq
    have key : ∀ υ kd, gI υ 0 5 = nI (M 0 0) → gI υ 0 6 = nI (M 0 1 + 1) → gI υ 0 8 = nI (bitM M (decide (¬ x = 0)) 0 3) → gI υ 4 (M 0 0) = nI (M 0 1) → (∀ a k, ¬ (a = 0 ∧ (k = 6 ∨ k = 8)) → ¬ (a = 4 ∧ k = M 0 0) → gI υ a k = gI σ a k) → kd = (if y = 0 then 1 else 2) → wp_X10_adds (nI kd) (nI (2 * M 0 0)) (e1 0) υ Q := by
      intro υ kd u5 u6 u8 u4 ug hkd
      have q : ∀ a k, ¬ (a = 0 ∧ (k = 1 ∨ k = 3)) → ¬ (a = 4 ∧ k = M 0 0) → ¬ (a = 7 ∧ k = M 0 1) → bitM M (decide (¬ x = 0)) a k = M a k := fun a k z z2 z3 => by
        unfold bitM
        rw [up_ne _ _ _ _ _ _ (by omega), up_ne _ _ _ _ _ _ (by omega), up_ne _ _ _ _ _ _ (by omega), up_ne _ _ _ _ _ _ (by omega)]
      have b1 : bitM M (decide (¬ x = 0)) 0 1 = M 0 1 + 1 := by unfold bitM; rw [up_at, if_pos ⟨rfl, rfl⟩]
      have b0 : bitM M (decide (¬ x = 0)) 0 0 = M 0 0 := q 0 0 (by omega) (by omega) (by omega)
      have b4 : bitM M (decide (¬ x = 0)) 4 (M 0 0) = M 0 1 := by unfold bitM; rw [up_ne _ _ _ _ _ _ (by omega), up_ne _ _ _ _ _ _ (by omega), up_at, if_pos ⟨rfl, rfl⟩]
      rw [← e1_s (2 * M 0 0)]
      have hA := sp_adds (M := bitM M (decide (¬ x = 0))) (σ := υ) (kd := kd) (x := 2 * M 0 0 + 1) (y := 0) (Q := Q) ?_ (RLs_cg (fun a k z => q a k (by omega) (by omega) (by omega)) (fun a k z => ug a k (by omega) (by omega)) hl) (by rw [b0]; omega) (fun _ => by rw [b0, b4]; exact u4) (fun τ hτ => by rw [b0]; rw [hkd] at hτ; exact hq τ hτ)
      · exact hA
      · refine ⟨by rw [b0]; exact u5, by rw [b1]; exact u6, by rw [q 0 2 (by omega) (by omega) (by omega), ug 0 7 (by omega) (by omega)]; exact r7, u8, by rw [q 0 4 (by omega) (by omega) (by omega), ug 0 9 (by omega) (by omega)]; exact r9, by rw [q 0 5 (by omega) (by omega) (by omega), ug 0 10 (by omega) (by omega)]; exact r10, by rw [q 0 6 (by omega) (by omega) (by omega), ug 0 11 (by omega) (by omega)]; exact r11, fun p hp2 => ?_, fun i hi => ?_, fun i hi => ?_⟩
        · rw [b0] at hp2
          rw [q 1 p (by omega) (by omega) (by omega), q 2 p (by omega) (by omega) (by omega), q 3 p (by omega) (by omega) (by omega), q 4 p (by omega) (by omega) (by omega), ug 1 p (by omega) (by omega), ug 2 p (by omega) (by omega), ug 3 p (by omega) (by omega), ug 4 p (by omega) (by omega)]
          exact rp p hp2
        · rw [q 0 5 (by omega) (by omega) (by omega)] at hi
          rw [q 5 i (by omega) (by omega) (by omega), ug 6 i (by omega) (by omega)]; exact ra i hi
        · rw [q 0 6 (by omega) (by omega) (by omega)] at hi
          rw [q 6 i (by omega) (by omega) (by omega), ug 7 i (by omega) (by omega)]; exact rf' i hi
    have b3 : bitM M (decide (¬ x = 0)) 0 3 = (if decide (¬ x = 0) = true then M 0 3 ||| 2 ^ M 0 1 else M 0 3) := by unfold bitM; rw [up_ne _ _ _ _ _ _ (by omega), up_ne _ _ _ _ _ _ (by omega), up_ne _ _ _ _ _ _ (by omega), up_at, if_pos ⟨rfl, rfl⟩]
    simp +decide (disch := omega) only [lit, lit_neg, i_add, i_mul, i_sub, i_div, i_and, i_or, i_shl1, Nat.one_mul, i_shr1, i_bit1, i_lt, i_eq, i_in, i_cl, i_0, gI_sI, bi_0n, bi_1n, nz_bi, nz_0n, nz_1n, vn_0n, vn_1n, vn_bi, and_true, true_and, not_false_eq_true, not_true_eq_false, false_implies, true_implies, forall_const, implies_true, ite_true, ite_false, Bool.not_eq_true, Bool.not_eq_false, and_false, false_and, if_true, if_false, if_pos, true_or, or_true, false_or, or_false, r5, r6, r8, i_1shl1, show M 0 0 < 80 by omega]
    refine ⟨fun hx => ⟨fun hy => ?_, fun hy => ?_⟩, fun hx => ⟨fun hy => ?_, fun hy => ?_⟩⟩
    · refine key _ 1 (by simp [gI_sI, r5]) (by simp [gI_sI]) (by rw [b3, if_neg (by simp [hx, nI_0])]; simpa [gI_sI] using r8) (by simp [gI_sI]) (fun a k z1 z2 => ?_) (by rw [if_pos (by simpa [nI_0] using hy)])
      simp only [gI_sI]; rw [if_neg (by omega), if_neg (by omega)]
    · refine key _ 2 (by simp [gI_sI, r5]) (by simp [gI_sI]) (by rw [b3, if_neg (by simp [hx, nI_0])]; simpa [gI_sI] using r8) (by simp [gI_sI]) (fun a k z1 z2 => ?_) (by rw [if_neg (by simpa [nI_0] using hy)])
      simp only [gI_sI]; rw [if_neg (by omega), if_neg (by omega)]
    · refine key _ 1 (by simp [gI_sI, r5]) (by simp [gI_sI]) (by rw [b3, if_pos (by simpa [nI_0] using hx)]; simp [gI_sI]) (by simp [gI_sI]) (fun a k z1 z2 => ?_) (by rw [if_pos (by simpa [nI_0] using hy)])
      simp only [gI_sI]; rw [if_neg (by omega), if_neg (by omega), if_neg (by omega)]
    · refine key _ 2 (by simp [gI_sI, r5]) (by simp [gI_sI]) (by rw [b3, if_pos (by simpa [nI_0] using hx)]; simp [gI_sI]) (by simp [gI_sI]) (fun a k z1 z2 => ?_) (by rw [if_neg (by simpa [nI_0] using hy)])
      simp only [gI_sI]; rw [if_neg (by omega), if_neg (by omega), if_neg (by omega)]
theorem rp_input {M : Ms} {σ : Sg} {Q : Int32 → Sg → Prop} (hW : WFm M) (hR : RM M σ) (hq : RefDoes (op_input M) Q) : wp_X10_input σ Q := by
  have h80 := hW.1
  have h4 := hW.2.2.1
  have hR' := hR
  obtain ⟨⟨hm, hp, hl⟩, ht⟩ := hR
  obtain ⟨r5, r6, r7, r8, r9, r10, r11, rp, ra, rf'⟩ := hm
  unfold wp_X10_input
  simp +decide (disch := omega) only [lit, lit_neg, i_add, i_mul, i_sub, i_div, i_and, i_or, i_shl1, Nat.one_mul, i_shr1, i_bit1, i_lt, i_eq, i_in, i_cl, i_0, gI_sI, bi_0n, bi_1n, nz_bi, nz_0n, nz_1n, vn_0n, vn_1n, vn_bi, and_true, true_and, not_false_eq_true, not_true_eq_false, false_implies, true_implies, forall_const, implies_true, ite_true, ite_false, Bool.not_eq_true, Bool.not_eq_false, and_false, false_and, if_true, if_false, if_pos, true_or, or_true, false_or, or_false, r5, r7, neg_lit]
  unfold op_input at hq
  refine ⟨fun z => ?_, fun z => ⟨fun z2 => ?_, fun z2 => ?_⟩⟩
  · rw [if_pos (Or.inl z)] at hq
    exact sp_no hR' (by decide) (by decide) hq
  · rw [if_pos (Or.inr z2)] at hq
    exact sp_no hR' (by decide) (by decide) hq
  · rw [if_neg (by omega)] at hq
    have hp80 : M 0 0 < 80 := by omega
    simp +decide (disch := omega) only [lit, lit_neg, i_add, i_mul, i_sub, i_div, i_and, i_or, i_shl1, Nat.one_mul, i_shr1, i_bit1, i_lt, i_eq, i_in, i_cl, i_0, gI_sI, bi_0n, bi_1n, nz_bi, nz_0n, nz_1n, vn_0n, vn_1n, vn_bi, and_true, true_and, not_false_eq_true, not_true_eq_false, false_implies, true_implies, forall_const, implies_true, ite_true, ite_false, Bool.not_eq_true, Bool.not_eq_false, and_false, false_and, if_true, if_false, if_pos, true_or, or_true, false_or, or_false, hp80]
    have q : ∀ a k, ¬ (a = 0 ∧ k = 2) → ¬ (a = 4 ∧ k = M 0 0) → inpM M a k = M a k := fun a k z z2 => by
      unfold inpM
      rw [up_ne _ _ _ _ _ _ (by omega), up_ne _ _ _ _ _ _ (by omega)]
    have b2 : inpM M 0 2 = M 0 2 + 1 := by unfold inpM; rw [up_at, if_pos ⟨rfl, rfl⟩]
    have b0 : inpM M 0 0 = M 0 0 := q 0 0 (by omega) (by omega)
    have b4 : inpM M 4 (M 0 0) = M 0 2 := by unfold inpM; rw [up_ne _ _ _ _ _ _ (by omega), up_at, if_pos ⟨rfl, rfl⟩]
    have ug : ∀ a k, ¬ (a = 0 ∧ k = 7) → ¬ (a = 4 ∧ k = M 0 0) → gI (sI (sI σ 4 (M 0 0) (nI (M 0 2))) 0 7 (nI (M 0 2 + 1))) a k = gI σ a k := fun a k z z2 => by
      simp only [gI_sI]; rw [if_neg (by omega), if_neg (by omega)]
    refine sp_adds (M := inpM M) (kd := 3) (x := 0) (y := 0) ?_ (RLs_cg (fun a k z => q a k (by omega) (by omega)) (fun a k z => ug a k (by omega) (by omega)) hl) (by rw [b0]; omega) (fun _ => by rw [b0, b4]; simp [gI_sI]) (fun τ hτ => by rw [b0]; exact hq τ hτ)
    refine ⟨by rw [b0, ug 0 5 (by omega) (by omega)]; exact r5, by rw [q 0 1 (by omega) (by omega), ug 0 6 (by omega) (by omega)]; exact r6, by rw [b2]; simp [gI_sI], by rw [q 0 3 (by omega) (by omega), ug 0 8 (by omega) (by omega)]; exact r8, by rw [q 0 4 (by omega) (by omega), ug 0 9 (by omega) (by omega)]; exact r9, by rw [q 0 5 (by omega) (by omega), ug 0 10 (by omega) (by omega)]; exact r10, by rw [q 0 6 (by omega) (by omega), ug 0 11 (by omega) (by omega)]; exact r11, fun p hp2 => ?_, fun i hi => ?_, fun i hi => ?_⟩
    · rw [b0] at hp2
      rw [q 1 p (by omega) (by omega), q 2 p (by omega) (by omega), q 3 p (by omega) (by omega), q 4 p (by omega) (by omega), ug 1 p (by omega) (by omega), ug 2 p (by omega) (by omega), ug 3 p (by omega) (by omega), ug 4 p (by omega) (by omega)]
      exact rp p hp2
    · rw [q 0 5 (by omega) (by omega)] at hi
      rw [q 5 i (by omega) (by omega), ug 6 i (by omega) (by omega)]; exact ra i hi
    · rw [q 0 6 (by omega) (by omega)] at hi
      rw [q 6 i (by omega) (by omega), ug 7 i (by omega) (by omega)]; exact rf' i hi
theorem rp_gate {M : Ms} {σ : Sg} {x y : Int32} {Q : Int32 → Sg → Prop} (hW : WFm M) (hR : RM M σ) (hq : RefDoes (op_gate x y M) Q) : wp_X10_gate x y σ Q := by
  have h80 := hW.1
  have hR' := hR
  obtain ⟨⟨hm, hp, hl⟩, ht⟩ := hR
  have r5 := hm.1
  unfold op_gate at hq
  refine sp_isSign hW hm ?_
  simp +decide (disch := omega) only [lit, lit_neg, i_add, i_mul, i_sub, i_div, i_and, i_or, i_shl1, Nat.one_mul, i_shr1, i_bit1, i_lt, i_eq, i_in, i_cl, i_0, gI_sI, bi_0n, bi_1n, nz_bi, nz_0n, nz_1n, vn_0n, vn_1n, vn_bi, and_true, true_and, not_false_eq_true, not_true_eq_false, false_implies, true_implies, forall_const, implies_true, ite_true, ite_false, Bool.not_eq_true, Bool.not_eq_false, and_false, false_and, if_true, if_false, if_pos, true_or, or_true, false_or, or_false, neg_lit]
  refine ⟨fun z => ?_, fun z => sp_isSign hW hm ?_⟩
  · rw [if_pos (Or.inl z)] at hq
    exact sp_no hR' (by decide) (by decide) hq
  · simp +decide (disch := omega) only [lit, lit_neg, i_add, i_mul, i_sub, i_div, i_and, i_or, i_shl1, Nat.one_mul, i_shr1, i_bit1, i_lt, i_eq, i_in, i_cl, i_0, gI_sI, bi_0n, bi_1n, nz_bi, nz_0n, nz_1n, vn_0n, vn_1n, vn_bi, and_true, true_and, not_false_eq_true, not_true_eq_false, false_implies, true_implies, forall_const, implies_true, ite_true, ite_false, Bool.not_eq_true, Bool.not_eq_false, and_false, false_and, if_true, if_false, if_pos, true_or, or_true, false_or, or_false, neg_lit, r5]
    refine ⟨fun z2 => ?_, fun z2 => ⟨fun z3 => ?_, fun z3 => ?_⟩⟩
    · rw [if_pos (Or.inr z2)] at hq
      exact sp_no hR' (by decide) (by decide) hq
    · rw [if_neg (by simp [z, z2]), if_pos z3] at hq
      exact sp_no hR' (by decide) (by decide) hq
    · rw [if_neg (by simp [z, z2]), if_neg z3] at hq
      obtain ⟨i, hi, hi2, rfl⟩ := inb_t z
      obtain ⟨j, hj, hj2, rfl⟩ := inb_t z2
      rw [cn_nI hi2, cn_nI hj2] at hq
      rw [← e1_s i, ← e1_s j]
      exact sp_adds (kd := 0) hm hl (by omega) (fun z => absurd rfl z) hq
/-- a change in one place of the machine -/
theorem rm_ch {M N : Ms} {σ τ : Sg} {Q : Sg → Prop} (hm : RMm N τ) (hl : RLs M σ) (h : ∀ a k, (a = 0 ∧ (k = 7 ∨ (13 ≤ k ∧ k ≤ 16))) ∨ a = 8 ∨ (12 ≤ a ∧ a ≤ 14) → N a k = M a k) (hg : ∀ a k, (a = 0 ∧ (k = 19 ∨ 39 ≤ k)) ∨ a = 8 ∨ (23 ≤ a ∧ a ≤ 25) → gI τ a k = gI σ a k) (hq : ∀ υ, RM (chgM N) υ → (∀ a k, inMm a k → gI υ a k = gI τ a k) → Q υ) : wp_X10_changes τ Q := sp_changes hm (RLs_cg h hg hl) hq
theorem rp_next {M : Ms} {σ : Sg} {x y : Int32} {Q : Int32 → Sg → Prop} (hW : WFm M) (hR : RM M σ) (hq : RefDoes (op_next x y M) Q) : wp_X10_next x y σ Q := by
  have h80 := hW.1
  have hR' := hR
  obtain ⟨⟨hm, hp, hl⟩, ht⟩ := hR
  have hm' := hm
  obtain ⟨r5, r6, r7, r8, r9, r10, r11, rp, ra, rf'⟩ := hm
  unfold op_next at hq
  unfold wp_X10_next
  rw [r5]
  refine sp_isInN (by omega) ?_
  simp +decide (disch := omega) only [lit, lit_neg, i_add, i_mul, i_sub, i_div, i_and, i_or, i_shl1, Nat.one_mul, i_shr1, i_bit1, i_lt, i_eq, i_in, i_cl, i_0, gI_sI, bi_0n, bi_1n, nz_bi, nz_0n, nz_1n, vn_0n, vn_1n, vn_bi, and_true, true_and, not_false_eq_true, not_true_eq_false, false_implies, true_implies, forall_const, implies_true, ite_true, ite_false, Bool.not_eq_true, Bool.not_eq_false, and_false, false_and, if_true, if_false, if_pos, true_or, or_true, false_or, or_false, neg_lit]
  refine ⟨fun z => ?_, fun z => sp_isSign hW hm' ?_⟩
  · rw [if_pos (Or.inl z)] at hq
    exact sp_no hR' (by decide) (by decide) hq
  · simp +decide (disch := omega) only [lit, lit_neg, i_add, i_mul, i_sub, i_div, i_and, i_or, i_shl1, Nat.one_mul, i_shr1, i_bit1, i_lt, i_eq, i_in, i_cl, i_0, gI_sI, bi_0n, bi_1n, nz_bi, nz_0n, nz_1n, vn_0n, vn_1n, vn_bi, and_true, true_and, not_false_eq_true, not_true_eq_false, false_implies, true_implies, forall_const, implies_true, ite_true, ite_false, Bool.not_eq_true, Bool.not_eq_false, and_false, false_and, if_true, if_false, if_pos, true_or, or_true, false_or, or_false, neg_lit]
    obtain ⟨i, hi, hi2, rfl⟩ := inb_t z
    rw [cn_nI hi2] at hq
    obtain ⟨p1, p2, p3, p4⟩ := rp i hi
    have hk := (hW.2.2.2.2.2.2.2.2.1 i hi).1
    refine ⟨fun z2 => ?_, fun z2 => ?_⟩
    · rw [if_pos (Or.inr z2)] at hq
      exact sp_no hR' (by decide) (by decide) hq
    · obtain ⟨j, hj, hj2, rfl⟩ := inb_t z2
      rw [cn_nI hj2, if_neg (by simp [z, z2])] at hq
      simp +decide (disch := omega) only [lit, lit_neg, i_add, i_mul, i_sub, i_div, i_and, i_or, i_shl1, Nat.one_mul, i_shr1, i_bit1, i_lt, i_eq, i_in, i_cl, i_0, gI_sI, bi_0n, bi_1n, nz_bi, nz_0n, nz_1n, vn_0n, vn_1n, vn_bi, and_true, true_and, not_false_eq_true, not_true_eq_false, false_implies, true_implies, forall_const, implies_true, ite_true, ite_false, Bool.not_eq_true, Bool.not_eq_false, and_false, false_and, if_true, if_false, if_pos, true_or, or_true, false_or, or_false, show i < 80 by omega, p1]
      refine ⟨fun z3 => ?_, fun z3 => ?_⟩
      · rw [if_neg (by omega)] at hq
        rw [p2]
        have q : ∀ a k, ¬ (a = 2 ∧ k = i) → up M 2 i (j + 1) a k = M a k := fun a k z => up_ne _ _ _ _ _ _ z
        have ug : ∀ a k, ¬ (a = 2 ∧ k = i) → gI (sI σ 2 i (nI j)) a k = gI σ a k := fun a k z => by rw [gI_sI, if_neg z]
        refine rm_ch (M := M) (N := up M 2 i (j + 1)) (σ := σ) ?_ hl (fun a k z => q a k (by omega)) (fun a k z => ug a k (by omega)) (fun υ hυ _ => hq υ hυ)
        refine ⟨by rw [q 0 0 (by omega), ug 0 5 (by omega)]; exact r5, by rw [q 0 1 (by omega), ug 0 6 (by omega)]; exact r6, by rw [q 0 2 (by omega), ug 0 7 (by omega)]; exact r7, by rw [q 0 3 (by omega), ug 0 8 (by omega)]; exact r8, by rw [q 0 4 (by omega), ug 0 9 (by omega)]; exact r9, by rw [q 0 5 (by omega), ug 0 10 (by omega)]; exact r10, by rw [q 0 6 (by omega), ug 0 11 (by omega)]; exact r11, fun p hp2 => ?_, fun i hi => ?_, fun i hi => ?_⟩
        · rw [q 0 0 (by omega)] at hp2
          rw [q 1 p (by omega), q 3 p (by omega), q 4 p (by omega), ug 1 p (by omega), ug 3 p (by omega), ug 4 p (by omega)]
          refine ⟨(rp p hp2).1, ?_, (rp p hp2).2.2⟩
          rw [gI_sI, up_at]
          by_cases e : p = i
          · rw [if_pos ⟨rfl, e⟩, if_pos ⟨rfl, e⟩, e1_s]
          · rw [if_neg (by omega), if_neg (by omega)]; exact (rp p hp2).2.1
        · rw [q 0 5 (by omega)] at hi
          rw [q 5 i (by omega), ug 6 i (by omega)]; exact ra i hi
        · rw [q 0 6 (by omega)] at hi
          rw [q 6 i (by omega), ug 7 i (by omega)]; exact rf' i hi
      · rw [if_pos z3] at hq
        exact sp_no hR' (by decide) (by decide) hq
theorem RMm_bad {M : Ms} {σ : Sg} {b : Nat} {v : Int32} (hm : RMm M σ) (hv : v = e1 b) : RMm (up M 0 4 b) (sI σ 0 9 v) := by
  subst hv
  obtain ⟨r5, r6, r7, r8, r9, r10, r11, rp, ra, rf'⟩ := hm
  refine ⟨by simpa [gI_sI, up_at] using r5, by simpa [gI_sI, up_at] using r6, by simpa [gI_sI, up_at] using r7, by simpa [gI_sI, up_at] using r8, by simp [gI_sI, up_at], by simpa [gI_sI, up_at] using r10, by simpa [gI_sI, up_at] using r11, ?_, ?_, ?_⟩
  · simpa [gI_sI, up_at] using rp
  · simpa [gI_sI, up_at] using ra
  · simpa [gI_sI, up_at] using rf'
theorem rp_bad {M : Ms} {σ : Sg} {x : Int32} {Q : Int32 → Sg → Prop} (hW : WFm M) (hR : RM M σ) (hq : RefDoes (op_bad x M) Q) : wp_X10_bad x σ Q := by
  have hR' := hR
  obtain ⟨⟨hm, hp, hl⟩, ht⟩ := hR
  have r9 := hm.2.2.2.2.1
  unfold op_bad at hq
  have ch : ∀ b, x = e1 b → (∀ υ, RM (chgM (up M 0 4 b)) υ → Q (e1 (M 0 4)) υ) → wp_X10_changes (sI σ 0 9 x) (fun s1 => Q (gI σ 0 9) s1) := fun b e h => by
    rw [r9]
    refine rm_ch (M := M) (N := up M 0 4 b) (σ := σ) (RMm_bad hm e) hl (fun a k z => up_ne _ _ _ _ _ _ (by omega)) (fun a k z => ?_) (fun υ hυ _ => h υ hυ)
    rw [gI_sI, if_neg (by omega)]
  refine ⟨fun z => ?_, fun z => sp_isSign hW hm ?_⟩
  · rw [if_pos (show x = e1 0 from z)] at hq
    exact ch 0 z hq
  · rw [if_neg (show ¬ x = e1 0 from z)] at hq
    simp +decide (disch := omega) only [lit, lit_neg, i_add, i_mul, i_sub, i_div, i_and, i_or, i_shl1, Nat.one_mul, i_shr1, i_bit1, i_lt, i_eq, i_in, i_cl, i_0, gI_sI, bi_0n, bi_1n, nz_bi, nz_0n, nz_1n, vn_0n, vn_1n, vn_bi, and_true, true_and, not_false_eq_true, not_true_eq_false, false_implies, true_implies, forall_const, implies_true, ite_true, ite_false, Bool.not_eq_true, Bool.not_eq_false, and_false, false_and, if_true, if_false, if_pos, true_or, or_true, false_or, or_false, neg_lit]
    refine ⟨fun z2 => ?_, fun z2 => ?_⟩
    · rw [if_pos z2] at hq
      exact sp_no hR' (by decide) (by decide) hq
    · rw [if_neg (by rw [z2]; decide)] at hq
      obtain ⟨j, hj, hj2, rfl⟩ := inb_t z2
      rw [cn_nI hj2] at hq
      exact ch (j + 1) (e1_s j).symm hq
theorem rp_assume {M : Ms} {σ : Sg} {x : Int32} {Q : Int32 → Sg → Prop} (hW : WFm M) (hR : RM M σ) (hq : RefDoes (op_assume x M) Q) : wp_X10_assume x σ Q := by
  have h4 := hW.2.2.2.1
  have hR' := hR
  obtain ⟨⟨hm, hp, hl⟩, ht⟩ := hR
  have hm' := hm
  obtain ⟨r5, r6, r7, r8, r9, r10, r11, rp, ra, rf'⟩ := hm
  unfold op_assume at hq
  refine sp_isSign hW hm' ?_
  simp +decide (disch := omega) only [lit, lit_neg, i_add, i_mul, i_sub, i_div, i_and, i_or, i_shl1, Nat.one_mul, i_shr1, i_bit1, i_lt, i_eq, i_in, i_cl, i_0, gI_sI, bi_0n, bi_1n, nz_bi, nz_0n, nz_1n, vn_0n, vn_1n, vn_bi, and_true, true_and, not_false_eq_true, not_true_eq_false, false_implies, true_implies, forall_const, implies_true, ite_true, ite_false, Bool.not_eq_true, Bool.not_eq_false, and_false, false_and, if_true, if_false, if_pos, true_or, or_true, false_or, or_false, neg_lit, r10]
  refine ⟨fun z => ?_, fun z => ⟨fun z2 => ?_, fun z2 => ?_⟩⟩
  · rw [if_pos z] at hq
    exact sp_no hR' (by decide) (by decide) hq
  · rw [if_neg (by rw [z]; decide), if_pos z2] at hq
    exact sp_no hR' (by decide) (by decide) hq
  · rw [if_neg (by rw [z]; decide), if_neg z2] at hq
    obtain ⟨j, hj, hj2, rfl⟩ := inb_t z
    rw [cn_nI hj2] at hq
    refine ⟨by omega, ?_⟩
    have q : ∀ a k, ¬ (a = 5 ∧ k = M 0 5) → ¬ (a = 0 ∧ k = 5) → up (up M 5 (M 0 5) j) 0 5 (M 0 5 + 1) a k = M a k := fun a k z z2 => by rw [up_ne _ _ _ _ _ _ (by omega), up_ne _ _ _ _ _ _ (by omega)]
    have ug : ∀ a k, ¬ (a = 6 ∧ k = M 0 5) → ¬ (a = 0 ∧ k = 10) → gI (sI (sI σ 6 (M 0 5) (nI j)) 0 10 (nI (M 0 5 + 1))) a k = gI σ a k := fun a k z z2 => by simp only [gI_sI]; rw [if_neg (by omega), if_neg (by omega)]
    have q5 : up (up M 5 (M 0 5) j) 0 5 (M 0 5 + 1) 0 5 = M 0 5 + 1 := rfl
    refine rm_ch (M := M) (N := up (up M 5 (M 0 5) j) 0 5 (M 0 5 + 1)) (σ := σ) ?_ hl (fun a k z => q a k (by omega) (by omega)) (fun a k z => ug a k (by omega) (by omega)) (fun υ hυ hs => ?_)
    · refine ⟨by rw [q 0 0 (by omega) (by omega), ug 0 5 (by omega) (by omega)]; exact r5, by rw [q 0 1 (by omega) (by omega), ug 0 6 (by omega) (by omega)]; exact r6, by rw [q 0 2 (by omega) (by omega), ug 0 7 (by omega) (by omega)]; exact r7, by rw [q 0 3 (by omega) (by omega), ug 0 8 (by omega) (by omega)]; exact r8, by rw [q 0 4 (by omega) (by omega), ug 0 9 (by omega) (by omega)]; exact r9, by rw [q5]; simp [gI_sI], by rw [q 0 6 (by omega) (by omega), ug 0 11 (by omega) (by omega)]; exact r11, fun p hp2 => ?_, fun i hi => ?_, fun i hi => ?_⟩
      · rw [q 0 0 (by omega) (by omega)] at hp2
        rw [q 1 p (by omega) (by omega), q 2 p (by omega) (by omega), q 3 p (by omega) (by omega), q 4 p (by omega) (by omega), ug 1 p (by omega) (by omega), ug 2 p (by omega) (by omega), ug 3 p (by omega) (by omega), ug 4 p (by omega) (by omega)]
        exact rp p hp2
      · rw [q5] at hi
        by_cases e : i = M 0 5
        · subst e
          rw [up_ne _ _ _ _ _ _ (by omega), up_at, if_pos ⟨rfl, rfl⟩]
          simp [gI_sI]
        · rw [q 5 i (by omega) (by omega), ug 6 i (by omega) (by omega)]; exact ra i (by omega)
      · rw [q 0 6 (by omega) (by omega)] at hi
        rw [q 6 i (by omega) (by omega), ug 7 i (by omega) (by omega)]; exact rf' i hi
    · rw [hs 0 10 (by simp [inMm])]
      simp only [gI_sI]
      exact hq υ hυ
theorem rp_fair {M : Ms} {σ : Sg} {x : Int32} {Q : Int32 → Sg → Prop} (hW : WFm M) (hR : RM M σ) (hq : RefDoes (op_fair x M) Q) : wp_X10_fair x σ Q := by
  have h4 := hW.2.2.2.2.1
  have hR' := hR
  obtain ⟨⟨hm, hp, hl⟩, ht⟩ := hR
  have hm' := hm
  obtain ⟨r5, r6, r7, r8, r9, r10, r11, rp, ra, rf'⟩ := hm
  unfold op_fair at hq
  refine sp_isSign hW hm' ?_
  simp +decide (disch := omega) only [lit, lit_neg, i_add, i_mul, i_sub, i_div, i_and, i_or, i_shl1, Nat.one_mul, i_shr1, i_bit1, i_lt, i_eq, i_in, i_cl, i_0, gI_sI, bi_0n, bi_1n, nz_bi, nz_0n, nz_1n, vn_0n, vn_1n, vn_bi, and_true, true_and, not_false_eq_true, not_true_eq_false, false_implies, true_implies, forall_const, implies_true, ite_true, ite_false, Bool.not_eq_true, Bool.not_eq_false, and_false, false_and, if_true, if_false, if_pos, true_or, or_true, false_or, or_false, neg_lit, r11]
  refine ⟨fun z => ?_, fun z => ⟨fun z2 => ?_, fun z2 => ?_⟩⟩
  · rw [if_pos z] at hq
    exact sp_no hR' (by decide) (by decide) hq
  · rw [if_neg (by rw [z]; decide), if_pos z2] at hq
    exact sp_no hR' (by decide) (by decide) hq
  · rw [if_neg (by rw [z]; decide), if_neg z2] at hq
    obtain ⟨j, hj, hj2, rfl⟩ := inb_t z
    rw [cn_nI hj2] at hq
    refine ⟨by omega, ?_⟩
    have q : ∀ a k, ¬ (a = 6 ∧ k = M 0 6) → ¬ (a = 0 ∧ k = 6) → up (up M 6 (M 0 6) j) 0 6 (M 0 6 + 1) a k = M a k := fun a k z z2 => by rw [up_ne _ _ _ _ _ _ (by omega), up_ne _ _ _ _ _ _ (by omega)]
    have ug : ∀ a k, ¬ (a = 7 ∧ k = M 0 6) → ¬ (a = 0 ∧ k = 11) → gI (sI (sI σ 7 (M 0 6) (nI j)) 0 11 (nI (M 0 6 + 1))) a k = gI σ a k := fun a k z z2 => by simp only [gI_sI]; rw [if_neg (by omega), if_neg (by omega)]
    have q5 : up (up M 6 (M 0 6) j) 0 6 (M 0 6 + 1) 0 6 = M 0 6 + 1 := rfl
    refine rm_ch (M := M) (N := up (up M 6 (M 0 6) j) 0 6 (M 0 6 + 1)) (σ := σ) ?_ hl (fun a k z => q a k (by omega) (by omega)) (fun a k z => ug a k (by omega) (by omega)) (fun υ hυ hs => ?_)
    · refine ⟨by rw [q 0 0 (by omega) (by omega), ug 0 5 (by omega) (by omega)]; exact r5, by rw [q 0 1 (by omega) (by omega), ug 0 6 (by omega) (by omega)]; exact r6, by rw [q 0 2 (by omega) (by omega), ug 0 7 (by omega) (by omega)]; exact r7, by rw [q 0 3 (by omega) (by omega), ug 0 8 (by omega) (by omega)]; exact r8, by rw [q 0 4 (by omega) (by omega), ug 0 9 (by omega) (by omega)]; exact r9, by rw [q 0 5 (by omega) (by omega), ug 0 10 (by omega) (by omega)]; exact r10, by rw [q5]; simp [gI_sI], fun p hp2 => ?_, fun i hi => ?_, fun i hi => ?_⟩
      · rw [q 0 0 (by omega) (by omega)] at hp2
        rw [q 1 p (by omega) (by omega), q 2 p (by omega) (by omega), q 3 p (by omega) (by omega), q 4 p (by omega) (by omega), ug 1 p (by omega) (by omega), ug 2 p (by omega) (by omega), ug 3 p (by omega) (by omega), ug 4 p (by omega) (by omega)]
        exact rp p hp2
      · rw [q 0 5 (by omega) (by omega)] at hi
        rw [q 5 i (by omega) (by omega), ug 6 i (by omega) (by omega)]; exact ra i hi
      · rw [q5] at hi
        by_cases e : i = M 0 6
        · subst e
          rw [up_ne _ _ _ _ _ _ (by omega), up_at, if_pos ⟨rfl, rfl⟩]
          simp [gI_sI]
        · rw [q 6 i (by omega) (by omega), ug 7 i (by omega) (by omega)]; exact rf' i (by omega)
    · rw [hs 0 11 (by simp [inMm])]
      simp only [gI_sI]
      exact hq υ hυ
