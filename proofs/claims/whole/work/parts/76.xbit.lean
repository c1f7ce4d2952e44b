/-! the class: bit -/
theorem xp_bit {M : Ms} {σ : Sg} {x y : Int32} {Q : Int32 → Sg → Prop} (hW : WF M) (h : RX M σ) (hq : XDoes (op_bit x y M) Q) : wp_X9_bit x y σ Q := by
  have h80 := hW.1.1
  have hnb := hW.1.2.1
  have hfi := hW.1.2.2.2.2.2.1
  have h256 := pow_le8 hnb
  obtain ⟨o1, o2, o3, o4⟩ := h.ot
  have hm := h.1
  have hwf := (WF_bit hW x y).1
  unfold op_bit at hq hwf
  refine xs_isFull hW.1 hm ?_
  rw [hm.2.2.1]
  simp +decide (disch := omega) only [lit, lit_neg, i_add, i_mul, i_sub, i_div, i_and, i_or, i_shl1, Nat.one_mul, i_shr1, i_bit1, i_lt, i_eq, i_in, i_cl, i_0, gI_sI, bi_0n, bi_1n, nz_bi, nz_0n, nz_1n, vn_0n, vn_1n, vn_bi, and_true, true_and, not_false_eq_true, not_true_eq_false, false_implies, true_implies, forall_const, implies_true, ite_true, ite_false, Bool.not_eq_true, Bool.not_eq_false, and_false, false_and, if_true, if_false, if_pos, true_or, or_true, false_or, or_false, neg_lit]
  refine ⟨fun z => ⟨fun z2 => ?_, fun z2 => ?_⟩, fun z => ?_⟩
  · have z := of_decide_eq_false z
    rw [if_neg (by omega)] at hq hwf
    have key : ∀ (kd : Nat) (υ : Sg), (if y = 0 then 1 else 2) = kd → (∀ a k, gI υ a k = if a = 1 ∧ k = 11 then nI (M 0 1 + 1) else if a = 1 ∧ k = 13 then nI (if decide (¬ x = 0) = true then M 0 3 ||| 2 ^ M 0 1 else M 0 3) else if a = 6 ∧ k = M 0 1 then nI (M 0 0) else if a = 5 ∧ k = M 0 0 then nI (M 0 1) else if a = 1 ∧ k = 10 then nI (M 0 0 + 1) else if a = 4 ∧ k = M 0 0 then e1 0 else if a = 3 ∧ k = M 0 0 then nI (2 * M 0 0) else if a = 2 ∧ k = M 0 0 then nI kd else gI σ a k) → (∀ a k, gL υ a k = gL σ a k) → wp_X9_startAnew υ (fun s4 => Q (nI (M 0 0)) s4) := by
      intro kd υ hk hg hgl
      rw [hk] at hq hwf
      have hb : But2 (fun a _ => 1 ≤ a ∧ a ≤ 6) (fun _ => False) σ υ := ⟨fun a k z => by rw [hg, if_neg (by omega), if_neg (by omega), if_neg (by omega), if_neg (by omega), if_neg (by omega), if_neg (by omega), if_neg (by omega), if_neg (by omega)], fun a k _ => hgl a k⟩
      have b0 : bitM M (decide (¬ x = 0)) 0 0 = M 0 0 := by simp [bitM, up_at]
      have eX : ∀ a k, addM (bitM M (decide (¬ x = 0))) kd (2 * M 0 0 + 1) 0 a k = if a = 3 ∧ k = M 0 0 then 0 else if a = 2 ∧ k = M 0 0 then 2 * M 0 0 + 1 else if a = 1 ∧ k = M 0 0 then kd else if a = 0 ∧ k = 0 then M 0 0 + 1 else if a = 0 ∧ k = 1 then M 0 1 + 1 else if a = 7 ∧ k = M 0 1 then M 0 0 else if a = 4 ∧ k = M 0 0 then M 0 1 else if a = 0 ∧ k = 3 then (if decide (¬ x = 0) = true then M 0 3 ||| 2 ^ M 0 1 else M 0 3) else M a k := by
        intro a k
        unfold addM
        rw [b0]
        unfold bitM
        simp only [up_at]
      generalize hF : (if decide (¬ x = 0) = true then M 0 3 ||| 2 ^ M 0 1 else M 0 3) = F at hg eX
      generalize hX : addM (bitM M (decide (¬ x = 0))) kd (2 * M 0 0 + 1) 0 = X at hq hwf eX
      have q : ∀ a k, (a = 8 ∨ a = 14 ∨ (a = 0 ∧ 14 ≤ k)) → X a k = M a k := fun a k z => by rw [eX, if_neg (by omega), if_neg (by omega), if_neg (by omega), if_neg (by omega), if_neg (by omega), if_neg (by omega), if_neg (by omega), if_neg (by omega)]
      refine xs_anew (X := X) hwf ?_ (XRo_ag (M := M) (q _ _ (by omega)) (fun k => q _ _ (by omega)) (h.2.2.2.2.2.1.kept hb (fun a k _ _ => by omega))) (fun b b1 b2 => by rw [hb.1 _ _ (by omega), q _ _ (by omega)]; exact o2 b b1 b2) (by rw [hb.1 _ _ (by omega), q _ _ (by omega)]; exact o3) (by rw [hb.1 _ _ (by omega), q _ _ (by omega)]; exact o4) (fun τ hτ _ => hq τ hτ)
      obtain ⟨h1, h2, h3, h4, h5, h6, h7, h8, h9, h10, h11⟩ := hm
      refine ⟨by rw [hg, eX]; simpa using h1, by rw [hg, eX]; simp, by rw [hg, eX]; simp, by rw [hg, eX]; simpa using h4, by rw [hg, eX]; simp, by rw [hg, eX]; simpa using h6, by rw [hg, eX]; simpa using h7, fun p hp => ?_, fun j hj => ?_, fun i hi => ?_, fun i hi => ?_⟩
      · rw [eX] at hp
        simp at hp
        by_cases e : p = M 0 0
        · subst e
          simp [hg, eX, e1_s]
        · have := h8 p (by omega)
          simp [hg, eX, e]
          exact this
      · rw [eX] at hj
        simp at hj
        by_cases e : j = M 0 1
        · subst e
          simp [hg, eX]
        · have := h9 j (by omega)
          simp [hg, eX, e]
          exact this
      · rw [eX] at hi
        simp at hi
        have := h10 i hi
        simp [hg, eX]
        exact this
      · rw [eX] at hi
        simp at hi
        have := h11 i hi
        simp [hg, eX]
        exact this
    unfold wp_X3_addBit wp_X3_addPart wp_X3_hasPart
    rw [hm.2.1]
    refine ⟨fun y0 => ?_, fun y0 => ?_⟩
    · simp +decide (disch := omega) only [lit, lit_neg, i_add, i_mul, i_sub, i_div, i_and, i_or, i_shl1, Nat.one_mul, i_shr1, i_bit1, i_lt, i_eq, i_in, i_cl, i_0, gI_sI, bi_0n, bi_1n, nz_bi, nz_0n, nz_1n, vn_0n, vn_1n, vn_bi, and_true, true_and, not_false_eq_true, not_true_eq_false, false_implies, true_implies, forall_const, implies_true, ite_true, ite_false, Bool.not_eq_true, Bool.not_eq_false, and_false, false_and, if_true, if_false, if_pos, true_or, or_true, false_or, or_false, show M 0 0 < 80 by omega, hm.2.1, hm.2.2.1, hm.2.2.2.2.1, show M 0 0 < M 0 0 + 1 by omega]
      refine ⟨by omega, fun _ => ⟨by omega, fun _ => ⟨by omega, fun _ => ⟨fun _ => ⟨by omega, fun x0 => key 1 _ (by first | rw [if_pos y0] | rw [if_neg y0]) (fun a k => ?_) (fun _ _ => rfl), fun x0 => key 1 _ (by first | rw [if_pos y0] | rw [if_neg y0]) (fun a k => ?_) (fun _ _ => rfl)⟩, fun z3 => absurd (show M 0 1 < 8 by omega) z3⟩⟩⟩⟩
      · have F0 : (if decide (¬ x = 0) = true then M 0 3 ||| 2 ^ M 0 1 else M 0 3) = M 0 3 := by rw [show x = 0 from x0]; rfl
        rw [F0]
        simp only [gI_sI]
        by_cases e : a = 1 ∧ k = 13
        · obtain ⟨rfl, rfl⟩ := e
          simp
          exact hm.2.2.2.2.1
        · rw [if_neg e]
      · have F0 : (if decide (¬ x = 0) = true then M 0 3 ||| 2 ^ M 0 1 else M 0 3) = M 0 3 ||| 2 ^ M 0 1 := by rw [decide_eq_true (show ¬ x = 0 from x0)]; rfl
        rw [F0]
        rfl
    · simp +decide (disch := omega) only [lit, lit_neg, i_add, i_mul, i_sub, i_div, i_and, i_or, i_shl1, Nat.one_mul, i_shr1, i_bit1, i_lt, i_eq, i_in, i_cl, i_0, gI_sI, bi_0n, bi_1n, nz_bi, nz_0n, nz_1n, vn_0n, vn_1n, vn_bi, and_true, true_and, not_false_eq_true, not_true_eq_false, false_implies, true_implies, forall_const, implies_true, ite_true, ite_false, Bool.not_eq_true, Bool.not_eq_false, and_false, false_and, if_true, if_false, if_pos, true_or, or_true, false_or, or_false, show M 0 0 < 80 by omega, hm.2.1, hm.2.2.1, hm.2.2.2.2.1, show M 0 0 < M 0 0 + 1 by omega]
      refine ⟨by omega, fun _ => ⟨by omega, fun _ => ⟨by omega, fun _ => ⟨fun _ => ⟨by omega, fun x0 => key 2 _ (by first | rw [if_pos y0] | rw [if_neg y0]) (fun a k => ?_) (fun _ _ => rfl), fun x0 => key 2 _ (by first | rw [if_pos y0] | rw [if_neg y0]) (fun a k => ?_) (fun _ _ => rfl)⟩, fun z3 => absurd (show M 0 1 < 8 by omega) z3⟩⟩⟩⟩
      · have F0 : (if decide (¬ x = 0) = true then M 0 3 ||| 2 ^ M 0 1 else M 0 3) = M 0 3 := by rw [show x = 0 from x0]; rfl
        rw [F0]
        simp only [gI_sI]
        by_cases e : a = 1 ∧ k = 13
        · obtain ⟨rfl, rfl⟩ := e
          simp
          exact hm.2.2.2.2.1
        · rw [if_neg e]
      · have F0 : (if decide (¬ x = 0) = true then M 0 3 ||| 2 ^ M 0 1 else M 0 3) = M 0 3 ||| 2 ^ M 0 1 := by rw [decide_eq_true (show ¬ x = 0 from x0)]; rfl
        rw [F0]
        rfl
  · rw [if_pos (by omega)] at hq
    exact xs_refuse hW.1 h (by decide) (by decide) hq
  · have z := of_decide_eq_true z
    rw [if_pos (Or.inl z)] at hq
    exact xs_refuse hW.1 h (by decide) (by decide) hq
