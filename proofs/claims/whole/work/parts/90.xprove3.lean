/-! the class: prove -/
theorem WFp_12 {M : Ms} {k : Nat} (h : WFp M) (he : M 0 9 = 0) : WFp (up M 0 12 k) := by
  obtain ⟨p1, p2, p3, p4, p5, p6⟩ := h
  exact ⟨p1, p2, fun k hk => WFc_up (p3 k hk) (by decide), p4, p5, fun z => absurd (show M 0 9 = 1 from z) (by omega)⟩
theorem pushAll_end {M : Ms} (h : pushTo M (M 0 8) 0 9 ≠ 0) : pushAllM M = pushTo M (M 0 8) := by
  have := wallTo_stop (pushTo M (M 0 8)) 0 (M 0 8) h
  rw [Nat.zero_add] at this
  unfold pushAllM
  rw [this]
  show (if pushTo M (M 0 8) 0 9 ≠ 0 then _ else _) = _
  rw [if_pos h]
  rfl
theorem pushAll_wall {M : Ms} (h : wallTo (pushTo M (M 0 8)) (M 0 8) 0 9 ≠ 0) : pushAllM M = wallTo (pushTo M (M 0 8)) (M 0 8) := by
  unfold pushAllM
  show (if wallTo (pushTo M (M 0 8)) (M 0 8) 0 9 ≠ 0 then _ else _) = _
  rw [if_pos h]
theorem pushAll_on {M : Ms} (h : wallTo (pushTo M (M 0 8)) (M 0 8) = pushTo M (M 0 8)) (h2 : pushTo M (M 0 8) 0 9 = 0) : pushAllM M = if pushTo M (M 0 8) 0 8 + 1 = 24 then up (pushTo M (M 0 8)) 0 9 3 else up (pushTo M (M 0 8)) 0 8 (pushTo M (M 0 8) 0 8 + 1) := by
  unfold pushAllM
  rw [h]
  show (if pushTo M (M 0 8) 0 9 ≠ 0 then _ else _) = _
  rw [if_neg (by omega)]
theorem xs_push {M0 M : Ms} {σ τ : Sg} {Q : Sg → Prop} (h : XI M0 σ M τ) (h0 : XB M0 σ) (hN : 1 ≤ M 0 8) (he : M 0 9 = 0) (hq : ∀ υ, XI M0 σ (pushAllM M) υ → Q υ) : wp_X4_push τ Q := by
  have h23 := h.2.2.2.2.1
  have hsame : ∀ i, i ≤ 23 → pushTo M i 0 8 = M 0 8 := fun i hi => (pushTo_0 M i hi).2 8 (by decide)
  have pst : ∀ i, pushTo M i 0 9 = 0 → pushTo M (i + 1) = pushM (pushTo M i) (i + 1) (pushTo M i 9 (i + 1)) := fun i z => by
    show (if pushTo M i 0 9 ≠ 0 then pushTo M i else _) = _
    rw [if_neg (by omega)]
  have wst : ∀ P i, wallTo P i = P → P 0 9 = 0 → wallTo P (i + 1) = if hasAllB P (i + 1) = true then up (up P 0 12 (i + 1)) 0 9 1 else P := fun P i z z2 => by
    show (if wallTo P i 0 9 ≠ 0 then wallTo P i else if hasAllB (wallTo P i) (i + 1) = true then up (up (wallTo P i) 0 12 (i + 1)) 0 9 1 else wallTo P i) = _
    rw [z, if_neg (by omega)]
  intro L2 L41 h2 h41
  refine up_loopS (L := L2) (I := fun i υ => 1 ≤ i ∧ XI M0 σ (pushTo M (i - 1)) υ ∧ pushTo M (i - 1) 0 9 = 0) (M 0 8 + 1) ?_ ?_ 1 τ (by omega) ⟨by omega, h, he⟩
  · intro i υ hi ⟨hi1, hI, hz⟩ nx
    obtain ⟨l, rfl⟩ : ∃ l, i = l + 1 := ⟨i - 1, by omega⟩
    rw [show l + 1 - 1 = l by omega] at hI hz
    have h8 := hsame l (by omega)
    have hps := pst l hz
    have hstop := pushTo_stop M (l + 1) (M 0 8 - (l + 1))
    rw [show l + 1 + (M 0 8 - (l + 1)) = M 0 8 by omega] at hstop
    apply h2
    rw [hI.2.2.2.1.2.2.1, h8]
    simp +decide (disch := omega) only [lit, lit_neg, i_add, i_mul, i_sub, i_div, i_and, i_or, i_shl1, Nat.one_mul, i_shr1, i_bit1, i_lt, i_eq, i_in, i_cl, i_0, gI_sI, bi_0n, bi_1n, nz_bi, nz_0n, nz_1n, vn_0n, vn_1n, vn_bi, and_true, true_and, not_false_eq_true, not_true_eq_false, false_implies, true_implies, forall_const, implies_true, ite_true, ite_false, Bool.not_eq_true, Bool.not_eq_false, and_false, false_and, if_true, if_false, if_pos, true_or, or_true, false_or, or_false, show ¬ M 0 8 < l + 1 by omega, show l + 1 < 24 by omega]
    refine xs_pushOn hI h0 (by omega) hz (by omega) (by omega) (fun ω hω hz2 => ?_) (fun P ω hω hz2 h8' hP => ?_)
    · refine ⟨fun w => absurd w (by decide), fun _ => nx ω ⟨by omega, ?_⟩⟩
      rw [show l + 1 + 1 - 1 = l + 1 by omega, hps]
      exact ⟨hω, hz2⟩
    · refine ⟨fun _ => ?_, fun w => absurd rfl w⟩
      have e3 : pushTo M (l + 1) = up P 0 9 3 := hps.trans hP
      have e4 : pushTo M (M 0 8) = up P 0 9 3 := by rw [hstop (by rw [e3]; show (3 : Nat) ≠ 0; decide), e3]
      refine hq _ ?_
      rw [pushAll_end (by rw [e4]; show (3 : Nat) ≠ 0; decide), e4]
      exact XI_up hω (Or.inr (Or.inl ⟨rfl, rfl⟩)) (fun w => absurd w (by decide)) (WFp_end hω.2.2.2.2 (by decide) (by decide) (by omega))
  · intro υ ⟨_, hI, hz⟩
    rw [show M 0 8 + 1 - 1 = M 0 8 by omega] at hI hz
    have h8 := hsame (M 0 8) h23
    apply h2
    rw [hI.2.2.2.1.2.2.1, h8]
    simp +decide (disch := omega) only [lit, lit_neg, i_add, i_mul, i_sub, i_div, i_and, i_or, i_shl1, Nat.one_mul, i_shr1, i_bit1, i_lt, i_eq, i_in, i_cl, i_0, gI_sI, bi_0n, bi_1n, nz_bi, nz_0n, nz_1n, vn_0n, vn_1n, vn_bi, and_true, true_and, not_false_eq_true, not_true_eq_false, false_implies, true_implies, forall_const, implies_true, ite_true, ite_false, Bool.not_eq_true, Bool.not_eq_false, and_false, false_and, if_true, if_false, if_pos, true_or, or_true, false_or, or_false, show M 0 8 < M 0 8 + 1 by omega]
    have hA := fun (e : wallTo (pushTo M (M 0 8)) (M 0 8) 0 9 ≠ 0) => pushAll_wall e
    have hB := fun (e : wallTo (pushTo M (M 0 8)) (M 0 8) = pushTo M (M 0 8)) => pushAll_on e hz
    generalize hP : pushTo M (M 0 8) = P at *
    refine up_loop (L := fun i => L41 i υ) (I := fun i => 1 ≤ i ∧ wallTo P (i - 1) = P) (M 0 8 + 1) ?_ ?_ 1 (by omega) ⟨by omega, rfl⟩
    · intro i hi ⟨hi1, hw⟩ nx
      obtain ⟨l, rfl⟩ : ∃ l, i = l + 1 := ⟨i - 1, by omega⟩
      rw [show l + 1 - 1 = l by omega] at hw
      have hws := wst P l hw hz
      have hstop := wallTo_stop P (l + 1) (M 0 8 - (l + 1))
      rw [show l + 1 + (M 0 8 - (l + 1)) = M 0 8 by omega] at hstop
      have hcl := cl_later (show 1 ≤ l + 1 by omega) (show l + 1 ≤ 24 by omega)
      have hcl2 := cl_later (show 1 ≤ l + 1 + 1 by omega) (show l + 1 + 1 ≤ 24 by omega)
      have hr := hI.2.2.1.2.2.1 (l + 1) (by omega) (by omega)
      have hr2 := hI.2.2.1.2.2.1 (l + 1 + 1) (by omega) (by omega)
      have hwP := hI.2.2.2.2
      apply h41
      rw [hI.2.2.2.1.2.2.1, h8]
      simp +decide (disch := omega) only [lit, lit_neg, i_add, i_mul, i_sub, i_div, i_and, i_or, i_shl1, Nat.one_mul, i_shr1, i_bit1, i_lt, i_eq, i_in, i_cl, i_0, gI_sI, bi_0n, bi_1n, nz_bi, nz_0n, nz_1n, vn_0n, vn_1n, vn_bi, and_true, true_and, not_false_eq_true, not_true_eq_false, false_implies, true_implies, forall_const, implies_true, ite_true, ite_false, Bool.not_eq_true, Bool.not_eq_false, and_false, false_and, if_true, if_false, if_pos, true_or, or_true, false_or, or_false, show ¬ M 0 8 < l + 1 by omega, show l + 1 < 24 by omega]
      refine xs_frame (by omega) (xs_frame (by omega) ?_)
      rw [hcl2.1]
      simp only [onB, cond_true]
      refine cl_hasAllOf hcl2 hr2 (hI.cw h0 (by omega)) (hwP.2.2.1 _ (by omega)).1 hcl hr (hI.cw h0 (by omega)) (hwP.2.2.1 _ (by omega)).1 ?_
      rw [show allN (P 9 (l + 1)) (fun j => anyN (P 9 (l + 1 + 1)) (fun i => decide (P (100 + (l + 1 + 1)) i = P (100 + (l + 1)) j) && decide (P (200 + (l + 1 + 1)) i = P (200 + (l + 1)) j))) = hasAllB P (l + 1) from rfl, bi_0n]
      refine ⟨fun z => nx ⟨by omega, ?_⟩, fun z => ?_⟩
      · rw [show l + 1 + 1 - 1 = l + 1 by omega, hws, if_neg (by rw [z]; decide)]
      · rw [if_pos (by simpa using z)] at hws
        have e4 : wallTo P (M 0 8) = up (up P 0 12 (l + 1)) 0 9 1 := by rw [hstop (by rw [hws]; show (1 : Nat) ≠ 0; decide), hws]
        refine hq _ ?_
        rw [hA (by rw [e4]; show (1 : Nat) ≠ 0; decide), e4]
        have x1 := XI_up (v := l + 1) hI (Or.inr (Or.inr (Or.inr (Or.inr ⟨rfl, rfl⟩)))) (fun w => absurd w (by decide)) (WFp_12 hwP hz)
        exact XI_up x1 (Or.inr (Or.inl ⟨rfl, rfl⟩)) (fun w => absurd w (by decide)) (WFp_wall hwP (by omega) (by omega) (by omega))
    · intro ⟨_, hw⟩
      rw [show M 0 8 + 1 - 1 = M 0 8 by omega] at hw
      have hwP := hI.2.2.2.2
      have hB := hB hw
      rw [h8] at hB
      apply h41
      rw [hI.2.2.2.1.2.2.1, h8]
      simp +decide (disch := omega) only [lit, lit_neg, i_add, i_mul, i_sub, i_div, i_and, i_or, i_shl1, Nat.one_mul, i_shr1, i_bit1, i_lt, i_eq, i_in, i_cl, i_0, gI_sI, bi_0n, bi_1n, nz_bi, nz_0n, nz_1n, vn_0n, vn_1n, vn_bi, and_true, true_and, not_false_eq_true, not_true_eq_false, false_implies, true_implies, forall_const, implies_true, ite_true, ite_false, Bool.not_eq_true, Bool.not_eq_false, and_false, false_and, if_true, if_false, if_pos, true_or, or_true, false_or, or_false, show M 0 8 < M 0 8 + 1 by omega]
      refine ⟨fun z => hq _ ?_, fun z => hq _ ?_⟩
      · have z : M 0 8 + 1 < 24 := z
        rw [hB, if_neg (by omega)]
        have := WFp_N hwP (by omega) (by omega)
        rw [h8] at this
        exact XI_up hI (Or.inl ⟨rfl, rfl⟩) (fun w => absurd w (by decide)) this
      · have z : ¬ M 0 8 + 1 < 24 := z
        rw [hB, if_pos (by omega)]
        exact XI_up hI (Or.inr (Or.inl ⟨rfl, rfl⟩)) (fun w => absurd w (by decide)) (WFp_end hwP (by decide) (by decide) (by omega))
theorem XI_RX {M0 M : Ms} {σ τ : Sg} (h : XI M0 σ M τ) (h0 : XB M0 σ) (hR : RX M0 σ) (hz : gI σ 13 10 = 0) : RX M τ := by
  have hb := h.2.1
  have q : ∀ a k, ¬ prM a k → M a k = M0 a k := h.1
  refine ⟨h.mm h0, Or.inr ⟨by rw [hb.1 13 10 (by unfold xpS; omega)]; exact hz, h.t h0⟩, h.2.2.1, h.2.2.2.1, ?_, ?_, ?_⟩
  · exact XLi_ag (q 0 1 (by unfold prM; omega)) (q 0 13 (by unfold prM; omega)) (fun a k _ _ => q a k (by unfold prM; omega)) (hR.2.2.2.2.1.kept hb (fun a k _ _ => by unfold xpS; omega) (by unfold xpT; omega))
  · exact XRo_ag (q 0 16 (by unfold prM; omega)) (fun k => q 14 k (by unfold prM; omega)) (hR.2.2.2.2.2.1.kept hb (fun a k _ _ => by unfold xpS; omega))
  · obtain ⟨o1, o2, o3, o4⟩ := hR.2.2.2.2.2.2
    refine ⟨?_, fun b b1 b2 => ?_, ?_, ?_⟩
    · rw [hb.1 _ _ (by unfold xpS; omega), q 0 7 (by unfold prM; omega)]; exact o1
    · rw [hb.1 _ _ (by unfold xpS; omega), q 8 b (by unfold prM; omega)]; exact o2 b b1 b2
    · rw [hb.1 _ _ (by unfold xpS; omega), q 0 14 (by unfold prM; omega)]; exact o3
    · rw [hb.1 _ _ (by unfold xpS; omega), q 0 15 (by unfold prM; omega)]; exact o4
theorem xs_goOn {M : Ms} {τ : Sg} {n : Nat} {Q : Int32 → Sg → Prop} (h0 : XB M τ) (hI0 : XI M τ M τ) (hn1 : 1 ≤ n) (hn : n ≤ 5000) (hq : ∀ ω, XI M τ (proveM M n).1 ω → Q (nI (proveM M n).2) ω) : wp_X4_goOn (nI n) τ Q := by
  have hW := h0.1
  have h256 := pow_le8 hW.2.1
  have hP := hI0.2.2.2.2
  intro L hL
  have main : ∀ f left turn M' υ, XI M τ M' υ → 1 ≤ M' 0 8 → left ≤ 5000 → muP left M' < f → turn + f ≤ 999999 → (∀ ω, XI M τ (prvM f left M').1 ω → Q (nI (prvM f left M').2) ω) → L (nI left) (nI turn) υ := by
    intro f
    induction f with
    | zero => intro left turn M' υ _ _ _ h; exact absurd h (by omega)
    | succ f ih =>
      intro left turn M' υ hI hN hl5 hmu htu hQ
      have hwP := hI.2.2.2.2
      have hN23 := hwP.1
      have he3 := hwP.2.1
      have hntr := ntr_le hwP
      obtain ⟨p5, p6, p7, p8, p9, pa⟩ := hI.2.2.2.1
      apply hL
      unfold prvM at hQ
      rw [show (1000000 : Int32) = nI 1000000 from rfl, i_lt (by omega) (by decide), p6]
      refine ⟨fun _ => ?_, fun z => absurd (show turn < 1000000 by omega) z⟩
      by_cases he : M' 0 9 = 0
      · rw [if_neg (by omega)] at hQ
        have hmu2 : muP left M' = 2 * left + (if M' 0 11 = 0 then 1 else 0) + (24 - M' 0 8) := by unfold muP; rw [if_neg (by omega)]
        rw [he]
        refine ⟨fun _ => ?_, fun z => absurd rfl z⟩
        rw [p5, p7, show (1 : Int32) = nI 1 from rfl, i_add, i_0, i_lt (by decide) (by omega), i_lt (by decide) (by omega), i_eq (by omega) (by decide)]
        by_cases hz : M' 0 11 = 0
        · rw [if_pos hz] at hQ hmu2
          rw [hz]
          refine ⟨fun z => absurd z (by omega), fun _ => ?_⟩
          have hcl := cl_frame (k := M' 0 8) (by omega)
          refine xs_frame (by omega) ?_
          rw [hcl.1, hcl.2.2.1, hcl.2.2.2.2.2.2.1.1]
          simp only [onB, cond_true]
          refine ss_leastCommon hcl.2.2.2.2.2.2.1 ss_18 (hI.fr (by omega)) (hI.t h0).1 ?_
          have ew : lst 256 (fun s => frL M' (M' 0 8) s && (decide (s < nSt M') && isBadS M' s)) = worstN M' := by
            have h8 := pow_le8 (hI.wf h0).2.1
            rw [lst_cut h8 (fun s hs => by rw [decide_eq_false (show ¬ s < nSt M' by unfold nSt; omega), Bool.false_and, Bool.and_false])]
            exact lst_congr (fun s hs => by unfold frL; rw [decide_eq_true (show s < nSt M' from hs), Bool.true_and, Bool.true_and])
          have hwl := worst_le M'
          have h8 := pow_le8 (hI.wf h0).2.1
          rw [ew, lit_neg, e1_m1 (by omega)]
          refine ⟨fun hw => ⟨fun _ => ?_, fun z => absurd trivial z⟩, fun hw => ?_⟩
          · rw [if_neg (by omega)] at hQ
            refine xs_push hI h0 hN he (fun ψ hψ => ih left (turn + 1) _ ψ hψ ?_ hl5 ?_ (by omega) hQ)
            · rcases pushAllM_f hN23 with z | z <;> omega
            · unfold muP
              rcases pushAllM_f hN23 with ⟨z, z2⟩ | z
              · rw [if_pos z]; omega
              · split
                · omega
                · rw [z]; split <;> omega
          · rw [if_pos hw] at hQ
            rw [e1_p (by omega)]
            refine xs_meet hI he hN (by omega) (by omega) (fun ψ hψ => ih left (turn + 1) _ ψ hψ hN hl5 ?_ (by omega) hQ)
            unfold muP
            rw [show meetM M' (worstN M' - 1) (M' 0 8) 0 9 = M' 0 9 from rfl, if_neg (by omega), show meetM M' (worstN M' - 1) (M' 0 8) 0 11 = M' 0 11 + 1 from rfl, if_neg (by omega), show meetM M' (worstN M' - 1) (M' 0 8) 0 8 = M' 0 8 from rfl]
            omega
        · rw [if_neg hz] at hQ hmu2
          refine ⟨fun _ => ⟨fun _ => ⟨fun z => absurd z hz, fun _ => ⟨fun z => ?_, fun z => ?_⟩⟩, fun z => absurd rfl z⟩, fun z => absurd (show 0 < M' 0 11 by omega) z⟩
          · rw [if_neg (by omega)] at hQ
            have hk := (hwP.2.2.2.1 (M' 0 11 - 1) (by omega)).2
            rw [p8]
            have hlk : M' 0 10 < 2147483648 ∨ True := Or.inr trivial
            rw [i_add]
            have hX := XI_up (j := 10) (f := 8) (v := M' 0 10 + 1) hI (Or.inr (Or.inr (Or.inl ⟨rfl, rfl⟩))) (fun w => absurd w (by decide)) (WFp_sc hwP _)
            have e10 : ∀ a k, ¬ (a = 0 ∧ k = 10) → up M' 0 10 (M' 0 10 + 1) a k = M' a k := fun a k w => up_ne _ _ _ _ _ _ w
            refine xs_look1 hX h0 hN he (show 1 ≤ M' 0 11 by omega) (fun ψ hψ => ?_)
            rw [show nI left + -(nI 1) = nI (left - 1) from (by obtain ⟨l, rfl⟩ : ∃ l, left = l + 1 := ⟨left - 1, by omega⟩; exact pk_m1 l)]
            refine ih (left - 1) (turn + 1) _ ψ hψ ?_ (by omega) ?_ (by omega) (by rw [← lookM_1]; exact hQ)
            · rw [← lookM_1, lookM_8 (by omega)]; exact hN
            · rw [← lookM_1]
              unfold muP
              split
              · omega
              · rw [lookM_8 (by omega)]; split <;> omega
          · rw [if_pos (by omega)] at hQ
            exact hQ υ hI
      · rw [if_pos he] at hQ
        refine ⟨fun z => absurd (by rw [i_0, i_eq (by omega) (by decide)] at z; exact z) he, fun _ => hQ υ hI⟩
  have fin : ∀ M' υ, beginM M = M' → XI M τ M' υ → 1 ≤ M' 0 8 → L (nI n) (nI 0) υ := fun M' υ e hI hN => by
    unfold proveM at hq
    rw [e] at hq
    refine main (2 * n + 30) n 0 M' υ hI hN (by omega) ?_ (by omega) hq
    unfold muP
    split
    · omega
    · split <;> omega
  have h23 := hP.1
  rw [hI0.2.2.2.1.2.2.1, i_0, i_eq (by omega) (by decide)]
  refine ⟨fun hz => ?_, fun hz => ?_⟩
  · obtain ⟨z1, z2⟩ := hP.2.2.2.2.1 hz
    have hw1 := WFp_N hP (by omega) (by omega)
    rw [hz] at hw1
    have hI1 := XI_up (j := 8) (f := 7) (v := 0 + 1) hI0 (Or.inl ⟨rfl, rfl⟩) (fun w => absurd w (by decide)) hw1
    have hff := hW.2.2.2.2.2.1
    have hb1 : isBadS (up M 0 8 (0 + 1)) (M 0 3) = isBadS M (M 0 3) := isBadS_ag hI1.1.m _
    unfold wp_X4_begin
    have g13 : gI (sI τ 1164 7 (nI (0 + 1))) 1 13 = nI (M 0 3) := (hI1.mm h0).2.2.2.2.1
    rw [show (1 : Int32) = nI (0 + 1) from rfl, g13]
    refine ss_has ss_18 (hI1.t h0).1 (by omega) ?_
    rw [decide_eq_true (show M 0 3 < nSt (up M 0 8 (0 + 1)) from hff), Bool.true_and, hb1, bi_0]
    refine ⟨fun hb0 => fin _ _ ?_ hI1 (Nat.le_refl 1), fun hb0 => ?_⟩
    · unfold beginM; rw [if_pos hz, if_neg (by rw [hb0]; decide)]
    · have hI2 := XI_up (j := 9) (f := 6) (v := 2) hI1 (Or.inr (Or.inl ⟨rfl, rfl⟩)) (fun w => absurd w (by decide)) (WFp_end hw1 (by decide) (by decide) (Nat.le_refl 1))
      refine fin _ _ ?_ hI2 (Nat.le_refl 1)
      unfold beginM
      rw [if_pos hz, if_pos (by simpa using hb0)]
  · refine fin M τ ?_ hI0 (by omega)
    unfold beginM
    rw [if_neg hz]
theorem xp_prove {M : Ms} {σ : Sg} {x : Int32} {Q : Int32 → Sg → Prop} (hW : WFm M) (hP : WFp M) (h : RX M σ) (hq : XDoes (op_prove x M) Q) : wp_X9_prove x σ Q := by
  unfold op_prove at hq
  unfold wp_X9_prove
  rw [i_0, lt0_toInt, show (5000 : Int32) = nI 5000 from rfl]
  refine ⟨fun z => ?_, fun z => ?_⟩
  · rw [if_pos z] at hq
    exact xs_refuse hW h (by decide) (by decide) hq
  · rw [if_neg z] at hq
    obtain ⟨n, hn, rfl⟩ := i_dec (x := x) (by rw [i_0, lt0_toInt]; exact z)
    rw [i_toInt hn, cn_nI hn] at hq
    rw [i_eq hn (by decide), i_lt (by decide) hn]
    refine ⟨fun z1 => ?_, fun z1 => ⟨fun z2 => ?_, fun z2 => ?_⟩⟩
    · rw [if_neg (by omega)] at hq
      exact xs_refuse hW h (by decide) (by decide) hq
    · rw [if_neg (by omega)] at hq
      exact xs_refuse hW h (by decide) (by decide) hq
    · rw [if_pos (by omega)] at hq
      refine h.renew hW (fun τ hR hT hz => ?_)
      have h0 : XB M τ := ⟨hW, hR.1, hT⟩
      have hI : XI M τ M τ := ⟨agM.rf, But2.rf, hR.2.2.1, hR.2.2.2.1, hP⟩
      exact xs_goOn h0 hI (by omega) (by omega) (fun ω hω => hq ω (XI_RX hω h0 hR hz))
