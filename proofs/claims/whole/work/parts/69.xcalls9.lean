/-! the class: bad, gate, next -/
theorem RX.ot {M : Ms} {σ : Sg} (h : RX M σ) : XOt M σ := h.2.2.2.2.2.2
theorem xp_bad {M : Ms} {σ : Sg} {x : Int32} {Q : Int32 → Sg → Prop} (hW : WF M) (h : RX M σ) (hq : XDoes (op_bad x M) Q) : wp_X9_bad x σ Q := by
  obtain ⟨o1, o2, o3, o4⟩ := h.ot
  have hm := h.1
  have go : ∀ v, x = e1 v → XDoes (e1 (M 0 4), chgM (up M 0 4 v)) Q → WFm (chgM (up M 0 4 v)) → wp_X9_startAnew (sI σ 1 9 x) (fun s1 => Q (gI σ 1 9) s1) := by
    intro v hv hq2 hw2
    have q : ∀ a k, ¬ (a = 0 ∧ k = 4) → up M 0 4 v a k = M a k := fun a k z => up_ne _ _ _ _ _ _ z
    have hb : But2 (fun a k => a = 1 ∧ k = 9) (fun _ => False) σ (sI σ 1 9 x) := But2.rf.up ⟨rfl, rfl⟩
    have g : ∀ a k, ¬ (a = 1 ∧ k = 9) → gI (sI σ 1 9 x) a k = gI σ a k := fun a k z => by rw [gI_sI, if_neg z]
    rw [hm.1]
    refine xs_anew (X := up M 0 4 v) hw2 ?_ (XRo_ag (M := M) (q _ _ (by omega)) (fun k => q _ _ (by omega)) (h.2.2.2.2.2.1.kept hb (fun a k _ _ => by omega))) (fun b b1 b2 => by rw [g _ _ (by omega), q _ _ (by omega)]; exact o2 b b1 b2) (by rw [g _ _ (by omega), q _ _ (by omega)]; exact o3) (by rw [g _ _ (by omega), q _ _ (by omega)]; exact o4) (fun τ hτ _ => hq2 τ hτ)
    obtain ⟨h1, h2, h3, h4, h5, h6, h7, h8, h9, h10, h11⟩ := hm
    refine ⟨by simp [gI_sI, up_at, hv], by rw [g _ _ (by omega), q _ _ (by omega)]; exact h2, by rw [g _ _ (by omega), q _ _ (by omega)]; exact h3, by rw [g _ _ (by omega), q _ _ (by omega)]; exact h4, by rw [g _ _ (by omega), q _ _ (by omega)]; exact h5, by rw [g _ _ (by omega), q _ _ (by omega)]; exact h6, by rw [g _ _ (by omega), q _ _ (by omega)]; exact h7, fun p hp => ?_, fun j hj => ?_, fun i hi => ?_, fun i hi => ?_⟩
    · rw [q _ _ (by omega)] at hp
      rw [g _ _ (by omega), g _ _ (by omega), g _ _ (by omega), g _ _ (by omega), q _ _ (by omega), q _ _ (by omega), q _ _ (by omega), q _ _ (by omega)]; exact h8 p hp
    · rw [q _ _ (by omega)] at hj
      rw [g _ _ (by omega), q _ _ (by omega)]; exact h9 j hj
    · rw [q _ _ (by omega)] at hi
      rw [g _ _ (by omega), q _ _ (by omega)]; exact h10 i hi
    · rw [q _ _ (by omega)] at hi
      rw [g _ _ (by omega), q _ _ (by omega)]; exact h11 i hi
  have hwf := (WF_bad hW x).1
  unfold op_bad at hq hwf
  refine ⟨fun z => ?_, fun z => xs_hasSign hW.1 hm ?_⟩
  · have z : x = e1 0 := z
    rw [if_pos z] at hq hwf
    exact go 0 z hq hwf
  · have z : ¬ x = e1 0 := z
    rw [if_neg z] at hq hwf
    simp +decide (disch := omega) only [lit, lit_neg, i_add, i_mul, i_sub, i_div, i_and, i_or, i_shl1, Nat.one_mul, i_shr1, i_bit1, i_lt, i_eq, i_in, i_cl, i_0, gI_sI, bi_0n, bi_1n, nz_bi, nz_0n, nz_1n, vn_0n, vn_1n, vn_bi, and_true, true_and, not_false_eq_true, not_true_eq_false, false_implies, true_implies, forall_const, implies_true, ite_true, ite_false, Bool.not_eq_true, Bool.not_eq_false, and_false, false_and, if_true, if_false, if_pos, true_or, or_true, false_or, or_false, neg_lit]
    refine ⟨fun z2 => ?_, fun z2 => ?_⟩
    · rw [if_pos z2] at hq
      exact xs_refuse hW.1 h (by decide) (by decide) hq
    · rw [if_neg (by rw [z2]; decide)] at hq hwf
      obtain ⟨j, hj, hj2, rfl⟩ := inb_t z2
      rw [cn_nI hj2] at hq hwf
      exact go (j + 1) (e1_s j).symm hq hwf
