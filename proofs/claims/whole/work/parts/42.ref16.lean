/-! the reference: judge, small -/
theorem sp_isLeft {M : Ms} {σ : Sg} {s but : Nat} {x : Int32} {Q : Int32 → Prop} (hW : WFm M) (hL : WFl M) (hl : RLs M σ) (hs : s < 65536) (hx : ∀ i, i < 100 → (nI i = x) = (i = but)) (hq : Q (bi (isLft M but s))) : wp_X10_isLeft (nI s) x σ Q := by
  have h256 := pow_le8 hW.2.1
  have h100 := hL.1
  intro L2 h2
  obtain ⟨l1, l2, l3, l4, l5, l6, l7, l8⟩ := hl
  unfold isLft at hq
  refine up_loop (I := fun i => anyN i (fun i => decide (i ≠ but) && inCubeB s (M 12 i) (M 13 i)) = false) (M 0 13) ?_ ?_ 0 (Nat.zero_le _) rfl
  · intro i hi hI nx
    apply h2
    have hb : M 13 i < 65536 := and_eq_le (hL.2.1 i hi).2 (by have := (hL.2.1 i hi).1; omega)
    rw [hx i (by omega), l3]
    simp +decide (disch := omega) only [lit, lit_neg, i_add, i_mul, i_sub, i_div, i_and, i_or, i_shl1, Nat.one_mul, i_shr1, i_bit1, i_lt, i_eq, i_in, i_cl, i_0, gI_sI, bi_0n, bi_1n, nz_bi, nz_0n, nz_1n, vn_0n, vn_1n, vn_bi, and_true, true_and, not_false_eq_true, not_true_eq_false, false_implies, true_implies, forall_const, implies_true, ite_true, ite_false, Bool.not_eq_true, Bool.not_eq_false, and_false, false_and, if_true, if_false, if_pos, true_or, or_true, false_or, or_false, hi, show i < 100 by omega, (l4 i hi).1, (l4 i hi).2]
    refine ⟨fun e => nx (by simp only [anyN]; rw [hI, decide_eq_false (by omega)]; rfl), fun e => sp_inCube hs hb ?_⟩
    simp +decide (disch := omega) only [lit, lit_neg, i_add, i_mul, i_sub, i_div, i_and, i_or, i_shl1, Nat.one_mul, i_shr1, i_bit1, i_lt, i_eq, i_in, i_cl, i_0, gI_sI, bi_0n, bi_1n, nz_bi, nz_0n, nz_1n, vn_0n, vn_1n, vn_bi, and_true, true_and, not_false_eq_true, not_true_eq_false, false_implies, true_implies, forall_const, implies_true, ite_true, ite_false, Bool.not_eq_true, Bool.not_eq_false, and_false, false_and, if_true, if_false, if_pos, true_or, or_true, false_or, or_false]
    refine ⟨fun z => nx (by simp only [anyN]; rw [hI, z, Bool.and_false]; rfl), fun z => ?_⟩
    have : anyN (M 0 13) (fun i => decide (i ≠ but) && inCubeB s (M 12 i) (M 13 i)) = true := anyN_iff.mpr ⟨i, hi, by rw [decide_eq_true e, z]; rfl⟩
    rw [this] at hq
    exact hq
  · intro hI
    apply h2
    rw [l3]
    simp +decide (disch := omega) only [lit, lit_neg, i_add, i_mul, i_sub, i_div, i_and, i_or, i_shl1, Nat.one_mul, i_shr1, i_bit1, i_lt, i_eq, i_in, i_cl, i_0, gI_sI, bi_0n, bi_1n, nz_bi, nz_0n, nz_1n, vn_0n, vn_1n, vn_bi, and_true, true_and, not_false_eq_true, not_true_eq_false, false_implies, true_implies, forall_const, implies_true, ite_true, ite_false, Bool.not_eq_true, Bool.not_eq_false, and_false, false_and, if_true, if_false, if_pos, true_or, or_true, false_or, or_false, Nat.lt_irrefl]
    rw [hI] at hq
    exact hq
theorem RM_w {M : Ms} {σ τ : Sg} (hR : RM M σ) (hb : But (fun a k => a = 0 ∧ (k = 42 ∨ k = 43)) σ τ) : RM M τ :=
  ⟨hR.1.kept hb (fun a k z => by unfold offM; omega), TBL_cg ⟨fun _ _ => rfl, fun _ _ _ _ => rfl⟩ (fun k => ⟨hb 9 k (by omega), hb 10 k (by omega), hb 11 k (by omega)⟩) (hb 0 18 (by omega)) hR.2⟩
theorem TB_w {M : Ms} {σ τ : Sg} (hT : TB M σ) (hb : But (fun a k => a = 0 ∧ (k = 42 ∨ k = 43)) σ τ) : TB M τ := fun s c hs hc => by
  have := hT s c hs hc
  unfold ent at this ⊢
  rw [hb 9 _ (by omega), hb 10 _ (by omega), hb 11 _ (by omega)]
  exact this
theorem sp_judged {M : Ms} {σ : Sg} {but : Nat} {x : Int32} {Q : Int32 → Sg → Prop} (hW : WFm M) (hL : WFl M) (hR : RM M σ) (hx : ∀ i, i < 100 → (nI i = x) = (i = but)) (hq : ∀ τ, RM M τ → (jdg M but ≠ 0 → gI τ 0 42 = e1 (jdS M but)) → (jdg M but = 2 → gI τ 0 43 = e1 (jdT M but)) → Q (nI (jdg M but)) τ) : wp_X10_judged x σ Q := by
  have h256 := pow_le8 hW.2.1
  have hfi := hW.2.2.2.2.2.1
  intro L33 L73 L88 h33 h73 h88
  refine sp_tab hW hR (fun υ hυ hT h18 => ?_)
  have r8 : gI υ 0 8 = nI (M 0 3) := hυ.1.1.2.2.2.1
  simp +decide (disch := omega) only [lit, lit_neg, i_add, i_mul, i_sub, i_div, i_and, i_or, i_shl1, Nat.one_mul, i_shr1, i_bit1, i_lt, i_eq, i_in, i_cl, i_0, gI_sI, bi_0n, bi_1n, nz_bi, nz_0n, nz_1n, vn_0n, vn_1n, vn_bi, and_true, true_and, not_false_eq_true, not_true_eq_false, false_implies, true_implies, forall_const, implies_true, ite_true, ite_false, Bool.not_eq_true, Bool.not_eq_false, and_false, false_and, if_true, if_false, if_pos, true_or, or_true, false_or, or_false, r8]
  have hb0 : But (fun a k => a = 0 ∧ (k = 42 ∨ k = 43)) υ (sI (sI υ 0 42 (nI (M 0 3))) 0 43 (e1 0)) := (But.rf.up (by omega)).up (by omega)
  have is : ∀ τ s (P : Int32 → Prop), But (fun a k => a = 0 ∧ (k = 42 ∨ k = 43)) υ τ → s < 2 ^ M 0 1 → P (bi (isLft M but s)) → wp_X10_isLeft (nI s) x τ P := fun τ s P hb hs hp => sp_isLeft hW hL (RM_w hυ hb).1.2.2 (by omega) hx hp
  refine is _ _ _ hb0 hfi ?_
  simp +decide (disch := omega) only [lit, lit_neg, i_add, i_mul, i_sub, i_div, i_and, i_or, i_shl1, Nat.one_mul, i_shr1, i_bit1, i_lt, i_eq, i_in, i_cl, i_0, gI_sI, bi_0n, bi_1n, nz_bi, nz_0n, nz_1n, vn_0n, vn_1n, vn_bi, and_true, true_and, not_false_eq_true, not_true_eq_false, false_implies, true_implies, forall_const, implies_true, ite_true, ite_false, Bool.not_eq_true, Bool.not_eq_false, and_false, false_and, if_true, if_false, if_pos, true_or, or_true, false_or, or_false]
  refine ⟨fun z => ?_, fun z => ?_⟩
  · have j1 : jdg M but = 1 := by unfold jdg; rw [if_pos z]
    have := hq _ (RM_w hυ hb0) (fun _ => by unfold jdS; rw [if_pos j1, e1_s]; simp [gI_sI]) (fun h => by rw [j1] at h; cases h)
    rw [j1] at this
    exact this
  have fz : ¬ isLft M but (M 0 3) = false := by rw [z]; decide
  refine up_loopS (I := fun i τ => But (fun a k => a = 0 ∧ (k = 42 ∨ k = 43)) υ τ ∧ ∀ s, s < i → (isLft M but s && isBadS M s) = false) (2 ^ M 0 1) ?_ ?_ 0 _ (Nat.zero_le _) ⟨hb0, fun s hs => absurd hs (by omega)⟩
  · intro i τ hi ⟨hb, hI⟩ nx
    apply h33
    refine sp_states hW (RM_w hυ hb).1.1 ?_
    simp +decide (disch := omega) only [lit, lit_neg, i_add, i_mul, i_sub, i_div, i_and, i_or, i_shl1, Nat.one_mul, i_shr1, i_bit1, i_lt, i_eq, i_in, i_cl, i_0, gI_sI, bi_0n, bi_1n, nz_bi, nz_0n, nz_1n, vn_0n, vn_1n, vn_bi, and_true, true_and, not_false_eq_true, not_true_eq_false, false_implies, true_implies, forall_const, implies_true, ite_true, ite_false, Bool.not_eq_true, Bool.not_eq_false, and_false, false_and, if_true, if_false, if_pos, true_or, or_true, false_or, or_false, hi]
    have hb2 : But (fun a k => a = 0 ∧ (k = 42 ∨ k = 43)) υ (sI τ 0 42 (nI i)) := hb.up (by omega)
    have nx' : (isLft M but i && isBadS M i) = false → L33 (nI (i + 1)) (sI τ 0 42 (nI i)) := fun h => nx _ ⟨hb2, fun s hs => by
      by_cases e : s = i
      · rw [e]; exact h
      · exact hI s (by omega)⟩
    refine is _ _ _ hb2 hi ?_
    simp +decide (disch := omega) only [lit, lit_neg, i_add, i_mul, i_sub, i_div, i_and, i_or, i_shl1, Nat.one_mul, i_shr1, i_bit1, i_lt, i_eq, i_in, i_cl, i_0, gI_sI, bi_0n, bi_1n, nz_bi, nz_0n, nz_1n, vn_0n, vn_1n, vn_bi, and_true, true_and, not_false_eq_true, not_true_eq_false, false_implies, true_implies, forall_const, implies_true, ite_true, ite_false, Bool.not_eq_true, Bool.not_eq_false, and_false, false_and, if_true, if_false, if_pos, true_or, or_true, false_or, or_false]
    refine ⟨fun q => nx' (by rw [q]; rfl), fun q => sp_isBad hW (RM_w hυ hb2).1.1 (TB_w hT hb2) hi ?_⟩
    simp +decide (disch := omega) only [lit, lit_neg, i_add, i_mul, i_sub, i_div, i_and, i_or, i_shl1, Nat.one_mul, i_shr1, i_bit1, i_lt, i_eq, i_in, i_cl, i_0, gI_sI, bi_0n, bi_1n, nz_bi, nz_0n, nz_1n, vn_0n, vn_1n, vn_bi, and_true, true_and, not_false_eq_true, not_true_eq_false, false_implies, true_implies, forall_const, implies_true, ite_true, ite_false, Bool.not_eq_true, Bool.not_eq_false, and_false, false_and, if_true, if_false, if_pos, true_or, or_true, false_or, or_false]
    refine ⟨fun q2 => nx' (by rw [q2, Bool.and_false]), fun q2 => ?_⟩
    have hs : (isLft M but i && isBadS M i) = true := by rw [q, q2]; rfl
    have j3 : jdg M but = 3 := by unfold jdg; rw [if_neg fz, if_pos (anyN_iff.mpr ⟨i, hi, hs⟩)]
    have := hq _ (RM_w hυ hb2) (fun _ => by unfold jdS; rw [if_neg (by omega), if_pos j3, lst_some hi hs hI, e1_s]; simp [gI_sI]) (fun h => by rw [j3] at h; cases h)
    rw [j3] at this
    exact this
  · intro τ ⟨hb, hI⟩
    apply h33
    refine sp_states hW (RM_w hυ hb).1.1 ?_
    simp +decide (disch := omega) only [lit, lit_neg, i_add, i_mul, i_sub, i_div, i_and, i_or, i_shl1, Nat.one_mul, i_shr1, i_bit1, i_lt, i_eq, i_in, i_cl, i_0, gI_sI, bi_0n, bi_1n, nz_bi, nz_0n, nz_1n, vn_0n, vn_1n, vn_bi, and_true, true_and, not_false_eq_true, not_true_eq_false, false_implies, true_implies, forall_const, implies_true, ite_true, ite_false, Bool.not_eq_true, Bool.not_eq_false, and_false, false_and, if_true, if_false, if_pos, true_or, or_true, false_or, or_false, Nat.lt_irrefl]
    have nb : ¬ anyN (2 ^ M 0 1) (fun s => isLft M but s && isBadS M s) = true := by rw [anyN_f.mpr hI]; decide
    refine up_loopS (I := fun i τ => But (fun a k => a = 0 ∧ (k = 42 ∨ k = 43)) υ τ ∧ ∀ s, s < i → outS M but s = false) (2 ^ M 0 1) ?_ ?_ 0 τ (Nat.zero_le _) ⟨hb, fun s hs => absurd hs (by omega)⟩
    · intro i τ hi ⟨hb, hO⟩ nx
      apply h73
      refine sp_states hW (RM_w hυ hb).1.1 ?_
      simp +decide (disch := omega) only [lit, lit_neg, i_add, i_mul, i_sub, i_div, i_and, i_or, i_shl1, Nat.one_mul, i_shr1, i_bit1, i_lt, i_eq, i_in, i_cl, i_0, gI_sI, bi_0n, bi_1n, nz_bi, nz_0n, nz_1n, vn_0n, vn_1n, vn_bi, and_true, true_and, not_false_eq_true, not_true_eq_false, false_implies, true_implies, forall_const, implies_true, ite_true, ite_false, Bool.not_eq_true, Bool.not_eq_false, and_false, false_and, if_true, if_false, if_pos, true_or, or_true, false_or, or_false, hi]
      have nx' : ∀ τ, But (fun a k => a = 0 ∧ (k = 42 ∨ k = 43)) υ τ → outS M but i = false → L73 (nI (i + 1)) τ := fun τ hb h => nx _ ⟨hb, fun s hs => by
        by_cases e : s = i
        · rw [e]; exact h
        · exact hO s (by omega)⟩
      refine up_loopS (L := fun t τ => L88 (nI i) t τ) (I := fun t τ => But (fun a k => a = 0 ∧ (k = 42 ∨ k = 43)) υ τ ∧ gI τ 0 42 = nI i ∧ ∀ s, s < t → (!isLft M but s && ldsB M i s) = false) (2 ^ M 0 1) ?_ ?_ 0 _ (Nat.zero_le _) ⟨hb.up (by omega), by simp [gI_sI], fun s hs => absurd hs (by omega)⟩
      · intro t τ ht ⟨hb, h42, hD⟩ nx2
        apply h88
        refine sp_states hW (RM_w hυ hb).1.1 ?_
        simp +decide (disch := omega) only [lit, lit_neg, i_add, i_mul, i_sub, i_div, i_and, i_or, i_shl1, Nat.one_mul, i_shr1, i_bit1, i_lt, i_eq, i_in, i_cl, i_0, gI_sI, bi_0n, bi_1n, nz_bi, nz_0n, nz_1n, vn_0n, vn_1n, vn_bi, and_true, true_and, not_false_eq_true, not_true_eq_false, false_implies, true_implies, forall_const, implies_true, ite_true, ite_false, Bool.not_eq_true, Bool.not_eq_false, and_false, false_and, if_true, if_false, if_pos, true_or, or_true, false_or, or_false, ht]
        refine is _ _ _ hb hi ?_
        have hb2 : But (fun a k => a = 0 ∧ (k = 42 ∨ k = 43)) υ (sI τ 0 43 (nI t)) := hb.up (by omega)
        have nx2' : (!isLft M but t && ldsB M i t) = false → L88 (nI i) (nI (t + 1)) (sI τ 0 43 (nI t)) := fun h => nx2 _ ⟨hb2, by simp [gI_sI, h42], fun s hs => by
          by_cases e : s = t
          · rw [e]; exact h
          · exact hD s (by omega)⟩
        simp +decide (disch := omega) only [lit, lit_neg, i_add, i_mul, i_sub, i_div, i_and, i_or, i_shl1, Nat.one_mul, i_shr1, i_bit1, i_lt, i_eq, i_in, i_cl, i_0, gI_sI, bi_0n, bi_1n, nz_bi, nz_0n, nz_1n, vn_0n, vn_1n, vn_bi, and_true, true_and, not_false_eq_true, not_true_eq_false, false_implies, true_implies, forall_const, implies_true, ite_true, ite_false, Bool.not_eq_true, Bool.not_eq_false, and_false, false_and, if_true, if_false, if_pos, true_or, or_true, false_or, or_false]
        refine ⟨fun q => nx' τ hb (by unfold outS; rw [q]; rfl), fun q => is _ _ _ hb2 ht ?_⟩
        simp +decide (disch := omega) only [lit, lit_neg, i_add, i_mul, i_sub, i_div, i_and, i_or, i_shl1, Nat.one_mul, i_shr1, i_bit1, i_lt, i_eq, i_in, i_cl, i_0, gI_sI, bi_0n, bi_1n, nz_bi, nz_0n, nz_1n, vn_0n, vn_1n, vn_bi, and_true, true_and, not_false_eq_true, not_true_eq_false, false_implies, true_implies, forall_const, implies_true, ite_true, ite_false, Bool.not_eq_true, Bool.not_eq_false, and_false, false_and, if_true, if_false, if_pos, true_or, or_true, false_or, or_false]
        refine ⟨fun q2 => sp_leads hW (RM_w hυ hb2).1.1 (TB_w hT hb2) hi (by omega) ?_, fun q2 => nx2' (by rw [q2]; rfl)⟩
        simp +decide (disch := omega) only [lit, lit_neg, i_add, i_mul, i_sub, i_div, i_and, i_or, i_shl1, Nat.one_mul, i_shr1, i_bit1, i_lt, i_eq, i_in, i_cl, i_0, gI_sI, bi_0n, bi_1n, nz_bi, nz_0n, nz_1n, vn_0n, vn_1n, vn_bi, and_true, true_and, not_false_eq_true, not_true_eq_false, false_implies, true_implies, forall_const, implies_true, ite_true, ite_false, Bool.not_eq_true, Bool.not_eq_false, and_false, false_and, if_true, if_false, if_pos, true_or, or_true, false_or, or_false]
        refine ⟨fun q3 => nx2' (by rw [q3, Bool.and_false]), fun q3 => ?_⟩
        have hs : (!isLft M but t && ldsB M i t) = true := by rw [q2, q3]; rfl
        have ho : outS M but i = true := by
          unfold outS
          rw [q, anyN_iff.mpr ⟨t, ht, hs⟩]
          rfl
        have j2 : jdg M but = 2 := by unfold jdg; rw [if_neg fz, if_neg nb, if_pos (anyN_iff.mpr ⟨i, hi, ho⟩)]
        have jS : jdS M but = i + 1 := by unfold jdS; rw [if_neg (by omega), if_neg (by omega), if_pos j2, lst_some hi ho hO]
        have := hq _ (RM_w hυ hb2) (fun _ => by rw [jS, e1_s]; simp [gI_sI, h42]) (fun _ => by
          unfold jdT
          rw [if_pos j2, jS, show i + 1 - 1 = i from rfl, lst_some ht hs hD, e1_s]; simp [gI_sI])
        rw [j2] at this
        exact this
      · intro τ ⟨hb, h42, hD⟩
        apply h88
        refine sp_states hW (RM_w hυ hb).1.1 ?_
        simp +decide (disch := omega) only [lit, lit_neg, i_add, i_mul, i_sub, i_div, i_and, i_or, i_shl1, Nat.one_mul, i_shr1, i_bit1, i_lt, i_eq, i_in, i_cl, i_0, gI_sI, bi_0n, bi_1n, nz_bi, nz_0n, nz_1n, vn_0n, vn_1n, vn_bi, and_true, true_and, not_false_eq_true, not_true_eq_false, false_implies, true_implies, forall_const, implies_true, ite_true, ite_false, Bool.not_eq_true, Bool.not_eq_false, and_false, false_and, if_true, if_false, if_pos, true_or, or_true, false_or, or_false, Nat.lt_irrefl]
        refine nx' τ hb ?_
        unfold outS
        rw [anyN_f.mpr hD, Bool.and_false]
    · intro τ ⟨hb, hO⟩
      apply h73
      refine sp_states hW (RM_w hυ hb).1.1 ?_
      simp +decide (disch := omega) only [lit, lit_neg, i_add, i_mul, i_sub, i_div, i_and, i_or, i_shl1, Nat.one_mul, i_shr1, i_bit1, i_lt, i_eq, i_in, i_cl, i_0, gI_sI, bi_0n, bi_1n, nz_bi, nz_0n, nz_1n, vn_0n, vn_1n, vn_bi, and_true, true_and, not_false_eq_true, not_true_eq_false, false_implies, true_implies, forall_const, implies_true, ite_true, ite_false, Bool.not_eq_true, Bool.not_eq_false, and_false, false_and, if_true, if_false, if_pos, true_or, or_true, false_or, or_false, Nat.lt_irrefl]
      have j0 : jdg M but = 0 := by unfold jdg; rw [if_neg fz, if_neg nb, if_neg (by rw [anyN_f.mpr hO]; decide)]
      have := hq τ (RM_w hυ hb) (fun h => absurd j0 h) (fun h => by rw [j0] at h; cases h)
      rw [j0] at this
      exact this
theorem all_but : ∀ i, i < 100 → (nI i = e1 0) = (i = 100) := fun i hi => by
  refine propext ⟨fun h => ?_, fun h => by omega⟩
  have : (e1 0) < nI 0 := by decide
  rw [← h, i_lt (by omega) (by omega)] at this
  omega
theorem jdg_v (M : Ms) (but : Nat) : jdg M but = 0 ∨ jdg M but = 1 ∨ jdg M but = 2 ∨ jdg M but = 3 := by
  unfold jdg
  split
  · omega
  · split
    · omega
    · split <;> omega
theorem rp_judge {M : Ms} {σ : Sg} {Q : Int32 → Sg → Prop} (hW : WFm M) (hL : WFl M) (hR : RM M σ) (hq : RefDoes (op_judge M) Q) : wp_X10_judge σ Q := by
  unfold op_judge at hq
  refine sp_judged hW hL hR all_but (fun τ hτ h42 h43 => ?_)
  have key : ∀ v w, v = e1 (jdS M 100) → w = e1 (jdT M 100) → Q (nI (jdg M 100)) (sI (sI τ 0 40 v) 0 41 w) := by
    intro v w hv hw
    refine rd hq (RM_new hτ (fun c k q => ?_) ((But.rf.up ?_).up ?_) ?_)
    · unfold lsM at q
      rw [up_ne _ _ _ _ _ _ (by omega), up_ne _ _ _ _ _ _ (by omega)]
    · unfold lsS; omega
    · unfold lsS; omega
    · obtain ⟨l1, l2, l3, l4, l5, l6, l7, l8⟩ := hτ.1.2.2
      have t : ∀ a k, ¬ (a = 0 ∧ (k = 14 ∨ k = 15)) → up (up M 0 14 (jdS M 100)) 0 15 (jdT M 100) a k = M a k := fun a k z => by rw [up_ne _ _ _ _ _ _ (by omega), up_ne _ _ _ _ _ _ (by omega)]
      have g : ∀ a k, ¬ (a = 0 ∧ (k = 40 ∨ k = 41)) → gI (sI (sI τ 0 40 v) 0 41 w) a k = gI τ a k := fun a k z => by simp only [gI_sI]; rw [if_neg (by omega), if_neg (by omega)]
      refine ⟨?_, fun b b1 b2 => ?_, ?_, fun i hi => ?_, ?_, ?_, ?_, fun i hi => ?_⟩
      · rw [t 0 7 (by omega), g 0 19 (by omega)]; exact l1
      · rw [t 8 b (by omega), g 8 b (by omega)]; exact l2 b b1 b2
      · rw [t 0 13 (by omega), g 0 39 (by omega)]; exact l3
      · rw [t 0 13 (by omega)] at hi
        rw [t 12 i (by omega), t 13 i (by omega), g 23 i (by omega), g 24 i (by omega)]; exact l4 i hi
      · simp [gI_sI, up_at, hv]
      · simp [gI_sI, up_at, hw]
      · rw [t 0 16 (by omega), g 0 46 (by omega)]; exact l7
      · rw [t 0 16 (by omega)] at hi
        rw [t 14 i (by omega), g 25 i (by omega)]; exact l8 i hi
  have hj := jdg_v M 100
  simp +decide (disch := omega) only [lit, lit_neg, i_add, i_mul, i_sub, i_div, i_and, i_or, i_shl1, Nat.one_mul, i_shr1, i_bit1, i_lt, i_eq, i_in, i_cl, i_0, gI_sI, bi_0n, bi_1n, nz_bi, nz_0n, nz_1n, vn_0n, vn_1n, vn_bi, and_true, true_and, not_false_eq_true, not_true_eq_false, false_implies, true_implies, forall_const, implies_true, ite_true, ite_false, Bool.not_eq_true, Bool.not_eq_false, and_false, false_and, if_true, if_false, if_pos, true_or, or_true, false_or, or_false]
  refine ⟨fun z => ⟨fun z2 => by omega, fun z2 => key _ _ ?_ ?_⟩, fun z => ⟨fun z2 => key _ _ (h42 z) (h43 z2), fun z2 => key _ _ (h42 z) ?_⟩⟩
  · unfold jdS; rw [if_neg (by omega), if_neg (by omega), if_neg (by omega)]
  · unfold jdT; rw [if_neg (by omega)]
  · unfold jdT; rw [if_neg (by omega)]
theorem dropM_o (M : Ms) (i a k : Nat) (h : a ≠ 12) (h2 : a ≠ 13) (h3 : ¬ (a = 0 ∧ k = 13)) : dropM M i a k = M a k := by unfold dropM; rw [if_neg (by omega), if_neg h3]
theorem dropM_n (M : Ms) (i : Nat) : dropM M i 0 13 = M 0 13 - 1 := by unfold dropM; rw [if_neg (by omega), if_pos ⟨rfl, rfl⟩]
theorem WFm_drop {M : Ms} (hW : WFm M) (i : Nat) : WFm (dropM M i) := WFm_ag (M := M) ⟨fun k hk => dropM_o M i 0 k (by omega) (by omega) (by omega), fun a k h1 h2 => dropM_o M i a k (by omega) (by omega) (by omega)⟩ (dropM_o M i 0 7 (by omega) (by omega) (by omega)) hW
theorem dropM_c (M : Ms) (i k a : Nat) (h : a = 12 ∨ a = 13) : dropM M i a k = if i ≤ k ∧ k + 1 < M 0 13 then M a (k + 1) else M a k := by
  unfold dropM
  by_cases e : i ≤ k ∧ k + 1 < M 0 13
  · rw [if_pos ⟨h, e⟩, if_pos e]
  · rw [if_neg (by omega), if_neg (by omega), if_neg e]
theorem WFl_drop {M : Ms} (hL : WFl M) (i : Nat) : WFl (dropM M i) := by
  obtain ⟨w1, w2, w3, w4, w5⟩ := hL
  refine ⟨by rw [dropM_n]; omega, fun k hk => ?_, by rw [dropM_o M i 0 16 (by omega) (by omega) (by omega)]; exact w3, by rw [dropM_o M i 0 14 (by omega) (by omega) (by omega)]; exact w4, by rw [dropM_o M i 0 15 (by omega) (by omega) (by omega)]; exact w5⟩
  rw [dropM_n] at hk
  rw [dropM_o M i 0 1 (by omega) (by omega) (by omega), dropM_c M i k 12 (Or.inl rfl), dropM_c M i k 13 (Or.inr rfl)]
  by_cases e : i ≤ k ∧ k + 1 < M 0 13
  · rw [if_pos e, if_pos e]; exact w2 _ e.2
  · rw [if_neg e, if_neg e]; exact w2 k (by omega)
theorem rp_small {M : Ms} {σ : Sg} {Q : Int32 → Sg → Prop} (hW : WFm M) (hL : WFl M) (hR : RM M σ) (hq : RefDoes (op_small M) Q) : wp_X10_small σ Q := by
  unfold op_small at hq
  intro L17 L51 h17 h51
  refine sp_judged hW hL hR all_but (fun τ hτ h42 h43 => ?_)
  have hj := jdg_v M 100
  simp +decide (disch := omega) only [lit, lit_neg, i_add, i_mul, i_sub, i_div, i_and, i_or, i_shl1, Nat.one_mul, i_shr1, i_bit1, i_lt, i_eq, i_in, i_cl, i_0, gI_sI, bi_0n, bi_1n, nz_bi, nz_0n, nz_1n, vn_0n, vn_1n, vn_bi, and_true, true_and, not_false_eq_true, not_true_eq_false, false_implies, true_implies, forall_const, implies_true, ite_true, ite_false, Bool.not_eq_true, Bool.not_eq_false, and_false, false_and, if_true, if_false, if_pos, true_or, or_true, false_or, or_false, neg_lit]
  refine ⟨fun z => ?_, fun z => ?_⟩
  · rw [if_neg (by omega)] at hq
    have key : ∀ f i N τ, i ≤ N 0 13 → N 0 13 ≤ f + i → WFm N → WFl N → RM N τ → (∀ υ, RM (smallM f i N) υ → Q (nI (smallM f i N 0 13)) υ) → L17 (nI i) τ := by
      intro f
      induction f with
      | zero =>
        intro i N τ hi hf hW hL hR hq
        apply h17
        have h100 := hL.1
        rw [hR.1.2.2.2.2.1]
        simp +decide (disch := omega) only [lit, lit_neg, i_add, i_mul, i_sub, i_div, i_and, i_or, i_shl1, Nat.one_mul, i_shr1, i_bit1, i_lt, i_eq, i_in, i_cl, i_0, gI_sI, bi_0n, bi_1n, nz_bi, nz_0n, nz_1n, vn_0n, vn_1n, vn_bi, and_true, true_and, not_false_eq_true, not_true_eq_false, false_implies, true_implies, forall_const, implies_true, ite_true, ite_false, Bool.not_eq_true, Bool.not_eq_false, and_false, false_and, if_true, if_false, if_pos, true_or, or_true, false_or, or_false, show ¬ i < N 0 13 by omega]
        exact hq τ hR
      | succ f ih =>
        intro i N τ hi hf hW hL hR hq
        apply h17
        have h100 := hL.1
        have l3 := hR.1.2.2.2.2.1
        rw [l3]
        simp +decide (disch := omega) only [lit, lit_neg, i_add, i_mul, i_sub, i_div, i_and, i_or, i_shl1, Nat.one_mul, i_shr1, i_bit1, i_lt, i_eq, i_in, i_cl, i_0, gI_sI, bi_0n, bi_1n, nz_bi, nz_0n, nz_1n, vn_0n, vn_1n, vn_bi, and_true, true_and, not_false_eq_true, not_true_eq_false, false_implies, true_implies, forall_const, implies_true, ite_true, ite_false, Bool.not_eq_true, Bool.not_eq_false, and_false, false_and, if_true, if_false, if_pos, true_or, or_true, false_or, or_false]
        refine ⟨fun z => sp_judged hW hL hR (but := i) (fun k hk => i_eq (by omega) (by omega)) (fun υ hυ _ _ => ?_), fun z => ?_⟩
        · have hj := jdg_v N i
          have u3 := hυ.1.2.2.2.2.1
          have u4 := hυ.1.2.2.2.2.2.1
          simp +decide (disch := omega) only [lit, lit_neg, i_add, i_mul, i_sub, i_div, i_and, i_or, i_shl1, Nat.one_mul, i_shr1, i_bit1, i_lt, i_eq, i_in, i_cl, i_0, gI_sI, bi_0n, bi_1n, nz_bi, nz_0n, nz_1n, vn_0n, vn_1n, vn_bi, and_true, true_and, not_false_eq_true, not_true_eq_false, false_implies, true_implies, forall_const, implies_true, ite_true, ite_false, Bool.not_eq_true, Bool.not_eq_false, and_false, false_and, if_true, if_false, if_pos, true_or, or_true, false_or, or_false, u3]
          refine ⟨fun j0 => ?_, fun j0 => ?_⟩
          · have es : smallM (f + 1) i N = smallM f i (dropM N i) := by simp only [smallM]; rw [if_pos z, if_neg (by omega)]
            rw [es] at hq
            refine up_loopS (L := fun j τ => L51 (nI i) j τ) (I := fun j τ => i ≤ j ∧ But (fun a k => a = 23 ∨ a = 24 ∨ (a = 0 ∧ k = 39)) υ τ ∧ gI τ 0 39 = nI (N 0 13 - 1) ∧ ∀ k, (gI τ 23 k = if i ≤ k ∧ k < j then gI υ 23 (k + 1) else gI υ 23 k) ∧ (gI τ 24 k = if i ≤ k ∧ k < j then gI υ 24 (k + 1) else gI υ 24 k)) (N 0 13 - 1) ?_ ?_ i _ (by omega) ⟨Nat.le_refl _, But.rf.up (by omega), by simp [gI_sI], fun k => ⟨by rw [if_neg (by omega)]; simp [gI_sI], by rw [if_neg (by omega)]; simp [gI_sI]⟩⟩
            · intro j ω hj2 ⟨hij, hb, h39, hk⟩ nx
              apply h51
              have k1 := hk (j + 1)
              rw [if_neg (by omega), if_neg (by omega)] at k1
              simp +decide (disch := omega) only [lit, lit_neg, i_add, i_mul, i_sub, i_div, i_and, i_or, i_shl1, Nat.one_mul, i_shr1, i_bit1, i_lt, i_eq, i_in, i_cl, i_0, gI_sI, bi_0n, bi_1n, nz_bi, nz_0n, nz_1n, vn_0n, vn_1n, vn_bi, and_true, true_and, not_false_eq_true, not_true_eq_false, false_implies, true_implies, forall_const, implies_true, ite_true, ite_false, Bool.not_eq_true, Bool.not_eq_false, and_false, false_and, if_true, if_false, if_pos, true_or, or_true, false_or, or_false, h39, hj2, show j + 1 < 100 by omega, show j < 100 by omega]
              refine nx _ ⟨by omega, (hb.up (by omega)).up (by omega), by simp [gI_sI, h39], fun k => ?_⟩
              simp only [gI_sI]
              by_cases e : k = j
              · subst e
                simp [hij, k1]
              · have hk2 := hk k
                by_cases e2 : i ≤ k ∧ k < j
                · rw [if_pos e2, if_pos e2] at hk2
                  have c1 : (i ≤ k ∧ k < j + 1) = True := eq_true (by omega)
                  simp only [c1, e, and_false, if_true, if_false]
                  exact hk2
                · rw [if_neg e2, if_neg e2] at hk2
                  have c1 : (i ≤ k ∧ k < j + 1) = False := eq_false (by omega)
                  simp only [c1, e, and_false, if_true, if_false]
                  exact hk2
            · intro ω ⟨_, hb, h39, hk⟩
              apply h51
              simp +decide (disch := omega) only [lit, lit_neg, i_add, i_mul, i_sub, i_div, i_and, i_or, i_shl1, Nat.one_mul, i_shr1, i_bit1, i_lt, i_eq, i_in, i_cl, i_0, gI_sI, bi_0n, bi_1n, nz_bi, nz_0n, nz_1n, vn_0n, vn_1n, vn_bi, and_true, true_and, not_false_eq_true, not_true_eq_false, false_implies, true_implies, forall_const, implies_true, ite_true, ite_false, Bool.not_eq_true, Bool.not_eq_false, and_false, false_and, if_true, if_false, if_pos, true_or, or_true, false_or, or_false, h39, Nat.lt_irrefl]
              refine ih i (dropM N i) ω (by rw [dropM_n]; omega) (by rw [dropM_n]; omega) (WFm_drop hW i) (WFl_drop hL i) (RM_new hυ (fun c k q => ?_) (hb.mono (fun a k z => by unfold lsS; omega)) (RLs_list (n := N 0 13 - 1) hυ.1.2.2 (fun c k q => ?_) (fun c k q => hb c k (by omega)) (dropM_n N i) h39 (fun k hk2 => ?_))) hq
              · unfold lsM at q
                exact dropM_o N i c k (by omega) (by omega) (by omega)
              · exact dropM_o N i c k (by omega) (by omega) (by omega)
              · rw [dropM_c N i k 12 (Or.inl rfl), dropM_c N i k 13 (Or.inr rfl)]
                have hk3 := hk k
                by_cases e : i ≤ k
                · rw [if_pos (by omega), if_pos (by omega)] at hk3
                  rw [if_pos (by omega), if_pos (by omega), hk3.1, hk3.2]
                  exact u4 _ (by omega)
                · rw [if_neg (by omega), if_neg (by omega)] at hk3
                  rw [if_neg (by omega), if_neg (by omega), hk3.1, hk3.2]
                  exact u4 _ (by omega)
          · have es : smallM (f + 1) i N = smallM f (i + 1) N := by simp only [smallM]; rw [if_pos z, if_pos (by omega)]
            rw [es] at hq
            exact ih (i + 1) N υ (by omega) (by omega) hW hL hυ hq
        · have es : smallM (f + 1) i N = N := by simp only [smallM]; rw [if_neg z]
          rw [es] at hq
          exact hq τ hR
    exact key (M 0 13) 0 M τ (Nat.zero_le _) (by omega) hW hL hτ hq
  · rw [if_pos z] at hq
    exact sp_no hτ (by decide) (by decide) hq
