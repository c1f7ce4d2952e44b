/-! the reference: walls, ways, looks -/
theorem sp_hasAll {M0 M : Ms} {σ τ : Sg} {k : Nat} {Q : Int32 → Prop} (h : PI M0 σ M τ) (h0 : PB M0 σ) (hk1 : 1 ≤ k) (hk : k ≤ 23) (hq : Q (bi (hasAllB M k))) : wp_X10_hasAll (nI k) τ Q := by
  have hWm := h.wf h0
  have h256 := pow_le8 hWm.2.1
  obtain ⟨c14, cc⟩ := h.2.2.1.2.2.2.2.2.1 k hk1 (by omega)
  obtain ⟨g1, g2⟩ := h.2.2.2.2.2.1 k (by omega)
  intro L4 h4
  refine and_loop (n := M 9 k) (f := fun i => hasB M (k + 1) (M (100 + k) i) (M (200 + k) i)) (fun i b hi hb nx => ?_) ?_
  · apply h4
    obtain ⟨e1, e2⟩ := cc i hi
    obtain ⟨m1, m2⟩ := g2 i hi
    have m3 := and_eq_le m2 m1
    simp +decide (disch := omega) only [lit, lit_neg, i_add, i_mul, i_sub, i_div, i_and, i_or, i_shl1, Nat.one_mul, i_shr1, i_bit1, i_lt, i_eq, i_in, i_cl, i_0, gI_sI, bi_0n, bi_1n, nz_bi, nz_0n, nz_1n, vn_0n, vn_1n, vn_bi, and_true, true_and, not_false_eq_true, not_true_eq_false, false_implies, true_implies, forall_const, implies_true, ite_true, ite_false, Bool.not_eq_true, Bool.not_eq_false, and_false, false_and, if_true, if_false, if_pos, true_or, or_true, false_or, or_false, c14, hi, show k < 25 by omega, show 200 * k + i < 5000 by omega, e1, e2]
    cases b
    · exact ⟨fun _ => nx, (fun z => by cases z)⟩
    · refine ⟨(fun z => by cases z), fun _ => sp_has h h0 (by omega) (by omega) (by omega) (by omega) ?_⟩
      simp +decide (disch := omega) only [lit, lit_neg, i_add, i_mul, i_sub, i_div, i_and, i_or, i_shl1, Nat.one_mul, i_shr1, i_bit1, i_lt, i_eq, i_in, i_cl, i_0, gI_sI, bi_0n, bi_1n, nz_bi, nz_0n, nz_1n, vn_0n, vn_1n, vn_bi, and_true, true_and, not_false_eq_true, not_true_eq_false, false_implies, true_implies, forall_const, implies_true, ite_true, ite_false, Bool.not_eq_true, Bool.not_eq_false, and_false, false_and, if_true, if_false, if_pos, true_or, or_true, false_or, or_false]
      exact ⟨fun q => by simpa [q, bi_fn] using nx, fun q => by simpa [q, bi_tn] using nx⟩
  · apply h4
    simp +decide (disch := omega) only [lit, lit_neg, i_add, i_mul, i_sub, i_div, i_and, i_or, i_shl1, Nat.one_mul, i_shr1, i_bit1, i_lt, i_eq, i_in, i_cl, i_0, gI_sI, bi_0n, bi_1n, nz_bi, nz_0n, nz_1n, vn_0n, vn_1n, vn_bi, and_true, true_and, not_false_eq_true, not_true_eq_false, false_implies, true_implies, forall_const, implies_true, ite_true, ite_false, Bool.not_eq_true, Bool.not_eq_false, and_false, false_and, if_true, if_false, if_pos, true_or, or_true, false_or, or_false, c14, Nat.lt_irrefl, show k < 25 by omega]
    exact hq
theorem pushTo_0 (M : Ms) : ∀ i, i ≤ 23 → agM M (pushTo M i) ∧ (∀ j, j ≠ 9 → pushTo M i 0 j = M 0 j)
  | 0, _ => ⟨agM.rf, fun _ _ => rfl⟩
  | i + 1, h => by
    obtain ⟨i1, i2⟩ := pushTo_0 M i (by omega)
    simp only [pushTo]
    split
    · exact ⟨i1, i2⟩
    · exact ⟨i1.tr (pushM_ag _ _ (by omega) _), fun j hj => by rw [(pushM_same _ _ (by omega) _).2.2.1 j hj]; exact i2 j hj⟩
theorem pushTo_stop (M : Ms) (i : Nat) : ∀ d, pushTo M i 0 9 ≠ 0 → pushTo M (i + d) = pushTo M i
  | 0, _ => rfl
  | d + 1, h => by
    have ih := pushTo_stop M i d h
    show pushTo M (i + d + 1) = _
    simp only [pushTo]
    rw [ih, if_pos h]
theorem wallTo_stop (M : Ms) (i : Nat) : ∀ d, wallTo M i 0 9 ≠ 0 → wallTo M (i + d) = wallTo M i
  | 0, _ => rfl
  | d + 1, h => by
    have ih := wallTo_stop M i d h
    show wallTo M (i + d + 1) = _
    simp only [wallTo]
    rw [ih, if_pos h]
theorem wallTo_0 (M : Ms) : ∀ i, wallTo M i 0 8 = M 0 8
  | 0 => rfl
  | i + 1 => by
    have ih := wallTo_0 M i
    simp only [wallTo]
    split
    · exact ih
    · split
      · rw [up_ne _ _ _ _ _ _ (by omega), up_ne _ _ _ _ _ _ (by omega)]; exact ih
      · exact ih
theorem PI_N {M0 M : Ms} {σ τ : Sg} (h : PI M0 σ M τ) (he : M 0 9 = 0) (hN : M 0 8 + 1 ≤ 23) : PI M0 σ (up M 0 8 (M 0 8 + 1)) (sI τ 0 23 (nI (M 0 8 + 1))) := by
  obtain ⟨ha, hb, hR, p1, p2, p3, p4, p5, p6⟩ := h
  obtain ⟨h1, h2, h3, h4, h5, h6, h7, h8, h9, h10⟩ := hR
  have q : ∀ a n, ¬ (a = 0 ∧ n = 8) → up M 0 8 (M 0 8 + 1) a n = M a n := fun a n z => up_ne _ _ _ _ _ _ z
  have w : wayN M = 0 := wayN_0 (by omega)
  have w' : wayN (up M 0 8 (M 0 8 + 1)) = 0 := wayN_0 (by rw [q 0 9 (by omega)]; omega)
  refine ⟨ha.up (by unfold prM; omega), hb.up (by simp [prS]), ⟨?_, ?_, ?_, ?_, fun i hi => ?_, fun j j1 j2 => ⟨?_, fun i hi => ?_⟩, ?_, ?_, ?_, ?_⟩, ?_, ?_, fun k hk => WFc_up (p3 k hk) (by decide), ?_, ?_, ?_⟩
  · simp [gI_sI, up_at]
  · rw [q 0 9 (by omega)]; simpa [gI_sI] using h2
  · rw [q 0 10 (by omega)]; simpa [gI_sI] using h3
  · rw [q 0 11 (by omega)]; simpa [gI_sI] using h4
  · rw [q 0 11 (by omega)] at hi
    rw [q 10 i (by omega), q 11 i (by omega)]
    simpa [gI_sI] using h5 i hi
  · rw [q 9 j (by omega)]; simpa [gI_sI] using (h6 j j1 j2).1
  · rw [q 9 j (by omega)] at hi
    rw [q _ _ (by omega), q _ _ (by omega)]
    simpa [gI_sI] using (h6 j j1 j2).2 i hi
  · rw [if_neg (by omega)] at h7
    rw [q 0 9 (by omega), if_neg (by omega)]
    simpa [gI_sI] using h7
  · rw [q 0 9 (by omega)]; intro z; omega
  · rw [w']; rw [w] at h9; simpa [gI_sI] using h9
  · rw [w']; intro i hi; omega
  · show M 0 8 + 1 ≤ 23
    exact hN
  · rw [q 0 9 (by omega)]; exact p2
  · intro i hi
    rw [q 0 11 (by omega)] at hi
    rw [q 10 i (by omega), q 11 i (by omega), q 0 1 (by omega)]
    have := p4 i hi
    exact ⟨this.1, by show _ ≤ M 0 8 + 1; omega⟩
  · intro z
    have z : M 0 8 + 1 = 0 := z
    omega
  · rw [q 0 9 (by omega)]; intro z; omega
/-- the wall copied -/
theorem PI_wall {M0 M : Ms} {σ τ υ : Sg} {k : Nat} (h : PI M0 σ M τ) (he : M 0 9 = 0) (hk1 : 1 ≤ k) (hk : k ≤ 23) (hb2 : But (fun a j => a = 17 ∨ a = 18 ∨ (a = 0 ∧ j = 31)) τ υ) (hc : ∀ i, i < M 9 k → gI υ 17 i = nI (M (100 + k) i) ∧ gI υ 18 i = nI (M (200 + k) i)) (h31 : gI υ 0 31 = nI (M 9 k)) (hN : 1 ≤ M 0 8) :
    PI M0 σ (up (up M 0 12 k) 0 9 1) (sI υ 0 24 (nI 1)) := by
  obtain ⟨ha, hb, hR, p1, p2, p3, p4, p5, p6⟩ := h
  obtain ⟨h1, h2, h3, h4, h5, h6, h7, h8, h9, h10⟩ := hR
  have q : ∀ a n, ¬ (a = 0 ∧ (n = 9 ∨ n = 12)) → up (up M 0 12 k) 0 9 1 a n = M a n := fun a n z => by rw [up_ne _ _ _ _ _ _ (by omega), up_ne _ _ _ _ _ _ (by omega)]
  have q9 : up (up M 0 12 k) 0 9 1 0 9 = 1 := rfl
  have q12 : up (up M 0 12 k) 0 9 1 0 12 = k := rfl
  have g : ∀ a n, ¬ (a = 0 ∧ n = 24) → a ≠ 17 → a ≠ 18 → ¬ (a = 0 ∧ n = 31) → gI (sI υ 0 24 (nI 1)) a n = gI τ a n := fun a n z1 z2 z3 z4 => by
    rw [gI_sI, if_neg (by omega)]
    exact hb2 a n (by omega)
  have w : wayN M = 0 := wayN_0 (by omega)
  have w' : wayN (up (up M 0 12 k) 0 9 1) = 0 := wayN_0 (by rw [q9]; omega)
  refine ⟨(ha.up (by unfold prM; omega)).up (by unfold prM; omega), (hb.tr (hb2.mono (fun a j z => by unfold prS; omega))).up (by simp [prS]), ⟨?_, ?_, ?_, ?_, fun i hi => ?_, fun j j1 j2 => ⟨?_, fun i hi => ?_⟩, ?_, ?_, ?_, ?_⟩, ?_, ?_, fun k hk => WFc_up (WFc_up (p3 k hk) (by decide)) (by decide), ?_, ?_, ?_⟩
  · rw [q 0 8 (by omega), g 0 23 (by omega) (by omega) (by omega) (by omega)]; exact h1
  · rw [q9]; simp [gI_sI]
  · rw [q 0 10 (by omega), g 0 25 (by omega) (by omega) (by omega) (by omega)]; exact h3
  · rw [q 0 11 (by omega), g 0 26 (by omega) (by omega) (by omega) (by omega)]; exact h4
  · rw [q 0 11 (by omega)] at hi
    rw [q 10 i (by omega), q 11 i (by omega), g 15 i (by omega) (by omega) (by omega) (by omega), g 16 i (by omega) (by omega) (by omega) (by omega)]
    exact h5 i hi
  · rw [q 9 j (by omega), g 14 j (by omega) (by omega) (by omega) (by omega)]; exact (h6 j j1 j2).1
  · rw [q 9 j (by omega)] at hi
    rw [q _ _ (by omega), q _ _ (by omega), g 12 _ (by omega) (by omega) (by omega) (by omega), g 13 _ (by omega) (by omega) (by omega) (by omega)]
    exact (h6 j j1 j2).2 i hi
  · rw [q9, if_pos rfl, q12, q 9 k (by omega), gI_sI, if_neg (by omega)]
    exact h31
  · intro _ i hi
    rw [q12] at hi ⊢
    rw [q 9 k (by omega)] at hi
    rw [q _ _ (by omega), q _ _ (by omega), gI_sI, if_neg (by omega), gI_sI, if_neg (by omega)]
    exact hc i hi
  · rw [w', g 0 33 (by omega) (by omega) (by omega) (by omega)]; rw [w] at h9; exact h9
  · rw [w']; intro i hi; omega
  · rw [q 0 8 (by omega)]; exact p1
  · rw [q9]; omega
  · intro i hi
    rw [q 0 11 (by omega)] at hi
    rw [q 10 i (by omega), q 11 i (by omega), q 0 1 (by omega), q 0 8 (by omega)]
    exact p4 i hi
  · rw [q 0 8 (by omega)]; intro z; omega
  · rw [q12]; intro _; exact ⟨hk1, hk⟩
theorem sp_pushAll {M0 M : Ms} {σ τ : Sg} {Q : Sg → Prop} (h : PI M0 σ M τ) (h0 : PB M0 σ) (hN : 1 ≤ M 0 8) (he : M 0 9 = 0) (hq : ∀ υ, PI M0 σ (pushAllM M) υ → Q υ) : wp_X10_pushAll τ Q := by
  have hN23 := h.2.2.2.1
  intro L2 L30 L68 h2 h30 h68
  have hpN : ∀ i, i ≤ 23 → pushTo M i 0 8 = M 0 8 := fun i hi => (pushTo_0 M i hi).2 8 (by decide)
  have second : ∀ υ, PI M0 σ (pushTo M (M 0 8)) υ → (pushTo M (M 0 8) 0 9 = 0 ∨ pushTo M (M 0 8) 0 9 = 3) → L30 (nI 1) υ := by
    intro υ hI hE
    generalize hP : pushTo M (M 0 8) = P at hI hE
    have hP8 : P 0 8 = M 0 8 := by rw [← hP]; exact hpN _ hN23
    have hall : pushAllM M = (let P2 := wallTo P (M 0 8); if P2 0 9 ≠ 0 then P2 else if P2 0 8 + 1 = 24 then up P2 0 9 3 else up P2 0 8 (P2 0 8 + 1)) := by rw [← hP]; rfl
    refine up_loopS (I := fun j υ => 1 ≤ j ∧ PI M0 σ (wallTo P (j - 1)) υ) (M 0 8 + 1) ?_ ?_ 1 υ (by omega) ⟨by omega, hI⟩
    · intro j υ hj ⟨hj1, hI⟩ nx
      have h8 := hI.2.2.1.1
      have h9 := hI.2.2.1.2.1
      rw [wallTo_0, hP8] at h8
      apply h30
      by_cases hz : wallTo P (j - 1) 0 9 = 0
      · simp +decide (disch := omega) only [lit, lit_neg, i_add, i_mul, i_sub, i_div, i_and, i_or, i_shl1, Nat.one_mul, i_shr1, i_bit1, i_lt, i_eq, i_in, i_cl, i_0, gI_sI, bi_0n, bi_1n, nz_bi, nz_0n, nz_1n, vn_0n, vn_1n, vn_bi, and_true, true_and, not_false_eq_true, not_true_eq_false, false_implies, true_implies, forall_const, implies_true, ite_true, ite_false, Bool.not_eq_true, Bool.not_eq_false, and_false, false_and, if_true, if_false, if_pos, true_or, or_true, false_or, or_false, h8, h9, hz, show ¬ M 0 8 < j by omega]
        refine sp_hasAll hI h0 hj1 (by omega) ?_
        simp +decide (disch := omega) only [lit, lit_neg, i_add, i_mul, i_sub, i_div, i_and, i_or, i_shl1, Nat.one_mul, i_shr1, i_bit1, i_lt, i_eq, i_in, i_cl, i_0, gI_sI, bi_0n, bi_1n, nz_bi, nz_0n, nz_1n, vn_0n, vn_1n, vn_bi, and_true, true_and, not_false_eq_true, not_true_eq_false, false_implies, true_implies, forall_const, implies_true, ite_true, ite_false, Bool.not_eq_true, Bool.not_eq_false, and_false, false_and, if_true, if_false, if_pos, true_or, or_true, false_or, or_false]
        have hst : wallTo P (j + 1 - 1) = (if hasAllB (wallTo P (j - 1)) j = true then up (up (wallTo P (j - 1)) 0 12 j) 0 9 1 else wallTo P (j - 1)) := by
          obtain ⟨j, rfl⟩ : ∃ i, j = i + 1 := ⟨j - 1, by omega⟩
          simp only [Nat.add_sub_cancel] at hz ⊢
          simp [wallTo, hz]
        refine ⟨fun q => nx _ ⟨by omega, ?_⟩, fun q => ?_⟩
        · rw [hst, if_neg (by rw [q]; decide)]
          exact hI
        · obtain ⟨c14, cc⟩ := hI.2.2.1.2.2.2.2.2.1 j hj1 (by omega)
          have hcl := (hI.2.2.2.2.2.1 j (by omega)).1
          simp +decide (disch := omega) only [lit, lit_neg, i_add, i_mul, i_sub, i_div, i_and, i_or, i_shl1, Nat.one_mul, i_shr1, i_bit1, i_lt, i_eq, i_in, i_cl, i_0, gI_sI, bi_0n, bi_1n, nz_bi, nz_0n, nz_1n, vn_0n, vn_1n, vn_bi, and_true, true_and, not_false_eq_true, not_true_eq_false, false_implies, true_implies, forall_const, implies_true, ite_true, ite_false, Bool.not_eq_true, Bool.not_eq_false, and_false, false_and, if_true, if_false, if_pos, true_or, or_true, false_or, or_false, c14, show j < 25 by omega]
          refine up_loopS (L := fun i ω => L68 (nI j) i ω) (I := fun i ω => But (fun a n => a = 17 ∨ a = 18 ∨ (a = 0 ∧ n = 31)) υ ω ∧ gI ω 0 31 = nI (wallTo P (j - 1) 9 j) ∧ ∀ n, n < i → gI ω 17 n = nI (wallTo P (j - 1) (100 + j) n) ∧ gI ω 18 n = nI (wallTo P (j - 1) (200 + j) n)) (wallTo P (j - 1) 9 j) ?_ ?_ 0 _ (Nat.zero_le _) ⟨But.rf.up (by simp), by simp [gI_sI], fun n hn => absurd hn (by omega)⟩
          · intro i ω hi ⟨b1, b2, b3⟩ nx2
            apply h68
            have g12 : gI ω 12 (200 * j + i) = gI υ 12 (200 * j + i) := b1 _ _ (by omega)
            have g13 : gI ω 13 (200 * j + i) = gI υ 13 (200 * j + i) := b1 _ _ (by omega)
            simp +decide (disch := omega) only [lit, lit_neg, i_add, i_mul, i_sub, i_div, i_and, i_or, i_shl1, Nat.one_mul, i_shr1, i_bit1, i_lt, i_eq, i_in, i_cl, i_0, gI_sI, bi_0n, bi_1n, nz_bi, nz_0n, nz_1n, vn_0n, vn_1n, vn_bi, and_true, true_and, not_false_eq_true, not_true_eq_false, false_implies, true_implies, forall_const, implies_true, ite_true, ite_false, Bool.not_eq_true, Bool.not_eq_false, and_false, false_and, if_true, if_false, if_pos, true_or, or_true, false_or, or_false, b2, hi, show 200 * j + i < 5000 by omega, show i < 200 by omega, g12, g13, (cc i hi).1, (cc i hi).2]
            refine nx2 _ ⟨(b1.up (by simp)).up (by simp), by simp [gI_sI, b2], fun n hn => ?_⟩
            simp only [gI_sI]
            by_cases e : n = i
            · subst e
              rw [if_neg (by omega), if_pos ⟨trivial, rfl⟩, if_pos ⟨trivial, rfl⟩]
              exact ⟨rfl, rfl⟩
            · rw [if_neg (by omega), if_neg (by omega), if_neg (by omega), if_neg (by omega)]
              exact b3 n (by omega)
          · intro ω ⟨b1, b2, b3⟩
            apply h68
            simp +decide (disch := omega) only [lit, lit_neg, i_add, i_mul, i_sub, i_div, i_and, i_or, i_shl1, Nat.one_mul, i_shr1, i_bit1, i_lt, i_eq, i_in, i_cl, i_0, gI_sI, bi_0n, bi_1n, nz_bi, nz_0n, nz_1n, vn_0n, vn_1n, vn_bi, and_true, true_and, not_false_eq_true, not_true_eq_false, false_implies, true_implies, forall_const, implies_true, ite_true, ite_false, Bool.not_eq_true, Bool.not_eq_false, and_false, false_and, if_true, if_false, if_pos, true_or, or_true, false_or, or_false, b2, Nat.lt_irrefl]
            refine nx _ ⟨by omega, ?_⟩
            rw [hst, if_pos q]
            exact PI_wall hI hz hj1 (by omega) b1 b3 b2 (by rw [wallTo_0, hP8]; exact hN)
      · have hle := hI.2.2.2.2.1
        simp +decide (disch := omega) only [lit, lit_neg, i_add, i_mul, i_sub, i_div, i_and, i_or, i_shl1, Nat.one_mul, i_shr1, i_bit1, i_lt, i_eq, i_in, i_cl, i_0, gI_sI, bi_0n, bi_1n, nz_bi, nz_0n, nz_1n, vn_0n, vn_1n, vn_bi, and_true, true_and, not_false_eq_true, not_true_eq_false, false_implies, true_implies, forall_const, implies_true, ite_true, ite_false, Bool.not_eq_true, Bool.not_eq_false, and_false, false_and, if_true, if_false, if_pos, true_or, or_true, false_or, or_false, h8, h9, hz, show ¬ M 0 8 < j by omega]
        have hst := wallTo_stop P (j - 1) (M 0 8 - (j - 1)) hz
        rw [show j - 1 + (M 0 8 - (j - 1)) = M 0 8 by omega] at hst
        refine hq υ ?_
        rw [hall]
        simp only [hst]
        rw [if_pos hz]
        exact hI
    · intro υ ⟨_, hI⟩
      rw [Nat.add_sub_cancel] at hI
      have h8 := hI.2.2.1.1
      have h9 := hI.2.2.1.2.1
      have hle := hI.2.2.2.2.1
      rw [wallTo_0, hP8] at h8
      apply h30
      by_cases hz : wallTo P (M 0 8) 0 9 = 0
      · simp +decide (disch := omega) only [lit, lit_neg, i_add, i_mul, i_sub, i_div, i_and, i_or, i_shl1, Nat.one_mul, i_shr1, i_bit1, i_lt, i_eq, i_in, i_cl, i_0, gI_sI, bi_0n, bi_1n, nz_bi, nz_0n, nz_1n, vn_0n, vn_1n, vn_bi, and_true, true_and, not_false_eq_true, not_true_eq_false, false_implies, true_implies, forall_const, implies_true, ite_true, ite_false, Bool.not_eq_true, Bool.not_eq_false, and_false, false_and, if_true, if_false, if_pos, true_or, or_true, false_or, or_false, h8, h9, hz, show M 0 8 < M 0 8 + 1 by omega]
        refine ⟨fun q => hq _ ?_, fun q => hq _ ?_⟩
        · rw [hall]
          simp only []
          rw [if_neg (by omega), wallTo_0, hP8, if_pos q]
          exact PI_end hI hz (by rw [wallTo_0, hP8]; exact hN)
        · rw [hall]
          simp only []
          rw [if_neg (by omega), wallTo_0, hP8, if_neg q]
          have := PI_N hI hz (by rw [wallTo_0, hP8]; omega)
          rw [wallTo_0, hP8] at this
          exact this
      · simp +decide (disch := omega) only [lit, lit_neg, i_add, i_mul, i_sub, i_div, i_and, i_or, i_shl1, Nat.one_mul, i_shr1, i_bit1, i_lt, i_eq, i_in, i_cl, i_0, gI_sI, bi_0n, bi_1n, nz_bi, nz_0n, nz_1n, vn_0n, vn_1n, vn_bi, and_true, true_and, not_false_eq_true, not_true_eq_false, false_implies, true_implies, forall_const, implies_true, ite_true, ite_false, Bool.not_eq_true, Bool.not_eq_false, and_false, false_and, if_true, if_false, if_pos, true_or, or_true, false_or, or_false, h8, h9, hz, show M 0 8 < M 0 8 + 1 by omega]
        refine hq _ ?_
        rw [hall]
        simp only []
        rw [if_pos hz]
        exact hI
  refine up_loopS (I := fun j υ => 1 ≤ j ∧ PI M0 σ (pushTo M (j - 1)) υ ∧ (pushTo M (j - 1) 0 9 = 0 ∨ pushTo M (j - 1) 0 9 = 3)) (M 0 8 + 1) ?_ ?_ 1 τ (by omega) ⟨by omega, h, Or.inl he⟩
  · intro j υ hj ⟨hj1, hI, hE⟩ nx
    have h8 := hI.2.2.1.1
    have h9 := hI.2.2.1.2.1
    rw [hpN _ (by omega)] at h8
    apply h2
    by_cases hz : pushTo M (j - 1) 0 9 = 0
    · simp +decide (disch := omega) only [lit, lit_neg, i_add, i_mul, i_sub, i_div, i_and, i_or, i_shl1, Nat.one_mul, i_shr1, i_bit1, i_lt, i_eq, i_in, i_cl, i_0, gI_sI, bi_0n, bi_1n, nz_bi, nz_0n, nz_1n, vn_0n, vn_1n, vn_bi, and_true, true_and, not_false_eq_true, not_true_eq_false, false_implies, true_implies, forall_const, implies_true, ite_true, ite_false, Bool.not_eq_true, Bool.not_eq_false, and_false, false_and, if_true, if_false, if_pos, true_or, or_true, false_or, or_false, h8, h9, hz, show ¬ M 0 8 < j by omega]
      refine sp_push hI h0 (by rw [hpN _ (by omega)]; exact hN) (by omega) (by omega) hj1 (by omega) (fun ω hω hω2 => nx ω ⟨by omega, ?_⟩)
      have hst : pushTo M (j + 1 - 1) = pushM (pushTo M (j - 1)) j (pushTo M (j - 1) 9 j) := by
        obtain ⟨j, rfl⟩ : ∃ i, j = i + 1 := ⟨j - 1, by omega⟩
        simp only [Nat.add_sub_cancel] at hz ⊢
        simp [pushTo, hz]
      rw [hst]
      rw [hz] at hω2
      exact ⟨hω, hω2⟩
    · have hle := hI.2.2.2.2.1
      simp +decide (disch := omega) only [lit, lit_neg, i_add, i_mul, i_sub, i_div, i_and, i_or, i_shl1, Nat.one_mul, i_shr1, i_bit1, i_lt, i_eq, i_in, i_cl, i_0, gI_sI, bi_0n, bi_1n, nz_bi, nz_0n, nz_1n, vn_0n, vn_1n, vn_bi, and_true, true_and, not_false_eq_true, not_true_eq_false, false_implies, true_implies, forall_const, implies_true, ite_true, ite_false, Bool.not_eq_true, Bool.not_eq_false, and_false, false_and, if_true, if_false, if_pos, true_or, or_true, false_or, or_false, h8, h9, hz, show ¬ M 0 8 < j by omega]
      have hst := pushTo_stop M (j - 1) (M 0 8 - (j - 1)) hz
      rw [show j - 1 + (M 0 8 - (j - 1)) = M 0 8 by omega] at hst
      rw [← hst] at hI hE
      exact second υ hI hE
  · intro υ ⟨_, hI, hE⟩
    rw [Nat.add_sub_cancel] at hI hE
    have h8 := hI.2.2.1.1
    rw [hpN _ hN23] at h8
    apply h2
    simp +decide (disch := omega) only [lit, lit_neg, i_add, i_mul, i_sub, i_div, i_and, i_or, i_shl1, Nat.one_mul, i_shr1, i_bit1, i_lt, i_eq, i_in, i_cl, i_0, gI_sI, bi_0n, bi_1n, nz_bi, nz_0n, nz_1n, vn_0n, vn_1n, vn_bi, and_true, true_and, not_false_eq_true, not_true_eq_false, false_implies, true_implies, forall_const, implies_true, ite_true, ite_false, Bool.not_eq_true, Bool.not_eq_false, and_false, false_and, if_true, if_false, if_pos, true_or, or_true, false_or, or_false, h8, show M 0 8 < M 0 8 + 1 by omega]
    exact second υ hI hE
