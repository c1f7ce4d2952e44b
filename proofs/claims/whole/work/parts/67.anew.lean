/-! the class: begins anew -/
theorem lat_all {k : Nat} (hk : k ≤ 24) : IsCl (1064 + 4 * k) (if k = 0 then 0 else 200) := cl_frame (by omega)
theorem xs_restartF {M : Ms} {σ : Sg} {Q : Sg → Prop} (hW : WFm M) (hm : XMm M σ) (hq : ∀ τ, But2 (fun a _ => 1064 ≤ a ∧ a ≤ 1163) (fun a => 1064 ≤ a ∧ a ≤ 1163) σ τ → (∀ k, k ≤ 24 → gI τ (1064 + 4 * k) 2 = nI 0 ∧ gI τ (1064 + 4 * k) 3 = nI (nSt M)) → SS τ 1065 (fun s => decide (s = M 0 3)) → (∀ k, 1 ≤ k → k ≤ 24 → SS τ (1064 + 4 * k + 1) (fun s => decide (s < nSt M))) → Q τ) : wp_X1_restart σ Q := by
  have h256 := pow_le8 hW.2.1
  have hf := hW.2.2.2.2.2.1
  intro L2 h2
  have km : ∀ τ, But2 (fun a _ => 1064 ≤ a ∧ a ≤ 1163) (fun a => 1064 ≤ a ∧ a ≤ 1163) σ τ → XMm M τ := fun τ hb => hm.kept hb.1 (fun a k z => by simp only [inXm] at z; omega)
  refine up_loopS (I := fun i τ => But2 (fun a _ => 1064 ≤ a ∧ a ≤ 1163) (fun a => 1064 ≤ a ∧ a ≤ 1163) σ τ ∧ (∀ k, k < i → gI τ (1064 + 4 * k) 2 = nI 0 ∧ gI τ (1064 + 4 * k) 3 = nI (nSt M)) ∧ ∀ k, k < i → SS τ (1064 + 4 * k + 1) (fun s => decide (s < nSt M))) 25 ?_ ?_ 0 σ (by decide) ⟨But2.rf, fun k hk => absurd hk (by omega), fun k hk => absurd hk (by omega)⟩
  · intro i τ hi ⟨hb, hg, hs⟩ nx
    apply h2
    simp +decide (disch := omega) only [lit, lit_neg, i_add, i_mul, i_sub, i_div, i_and, i_or, i_shl1, Nat.one_mul, i_shr1, i_bit1, i_lt, i_eq, i_in, i_cl, i_0, gI_sI, bi_0n, bi_1n, nz_bi, nz_0n, nz_1n, vn_0n, vn_1n, vn_bi, and_true, true_and, not_false_eq_true, not_true_eq_false, false_implies, true_implies, forall_const, implies_true, ite_true, ite_false, Bool.not_eq_true, Bool.not_eq_false, and_false, false_and, if_true, if_false, if_pos, true_or, or_true, false_or, or_false, show ¬ 24 < i by omega, hi]
    refine xs_states hW (km τ hb) ?_
    rw [wr_all i hi]
    have hcl := cl_frame hi
    rw [hcl.1]
    simp only [onB, cond_true]
    refine cl_restart (m := M 0) (v := M 0) hcl (show nSt M ≤ 256 from h256) (fun υ hb2 hc hs2 => nx υ ⟨hb.tr (hb2.mono (fun a k z => by unfold CS at z; omega) (fun a z => by unfold CT at z; omega)), fun k hk => ?_, fun k hk => ?_⟩)
    · by_cases e : k = i
      · subst e; exact ⟨hc.1, hc.2.1⟩
      · rw [hb2.1 _ _ (by unfold CS; omega), hb2.1 _ _ (by unfold CS; omega)]; exact hg k (by omega)
    · by_cases e : k = i
      · subst e; exact hs2
      · exact (hs k (by omega)).kept2 hb2 (by unfold CT; omega)
  · intro τ ⟨hb, hg, hs⟩
    apply h2
    simp +decide (disch := omega) only [lit, lit_neg, i_add, i_mul, i_sub, i_div, i_and, i_or, i_shl1, Nat.one_mul, i_shr1, i_bit1, i_lt, i_eq, i_in, i_cl, i_0, gI_sI, bi_0n, bi_1n, nz_bi, nz_0n, nz_1n, vn_0n, vn_1n, vn_bi, and_true, true_and, not_false_eq_true, not_true_eq_false, false_implies, true_implies, forall_const, implies_true, ite_true, ite_false, Bool.not_eq_true, Bool.not_eq_false, and_false, false_and, if_true, if_false, if_pos, true_or, or_true, false_or, or_false, show 24 < 25 by decide]
    refine xs_frame (k := 0) (by decide) ?_
    have hcl := cl_frame (k := 0) (by decide)
    rw [hcl.1, hcl.2.2.1, hcl.2.2.2.2.2.2.1.1, (km τ hb).2.2.2.2.1]
    simp only [onB, cond_true]
    refine ss_only hcl.2.2.2.2.2.2.1 (by omega) (fun υ hb2 hs2 => hq υ (hb.tr (hb2.mono (U := fun a => 1064 ≤ a ∧ a ≤ 1163) (fun a z => by omega)).b2) (fun k hk => ?_) hs2 (fun k k1 k2 => (hs k (by omega)).kept hb2 (by omega)))
    rw [hb2.1, hb2.1]
    exact hg k (by omega)
