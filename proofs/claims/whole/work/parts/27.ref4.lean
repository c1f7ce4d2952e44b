/-! the reference: the proof's steps -/
theorem keepM_at (M : Ms) (k m v a j : Nat) : keepM M k m v a j = if a = 9 ∧ j = k then M 9 k + 1 else if a = 200 + k ∧ j = M 9 k then v else if a = 100 + k ∧ j = M 9 k then m else M a j := rfl
theorem keepM_0 (M : Ms) (k m v j : Nat) : keepM M k m v 0 j = M 0 j := by rw [keepM_at, if_neg (by omega), if_neg (by omega), if_neg (by omega)]
theorem keepM_lo (M : Ms) (k m v a j : Nat) (h : a < 100) (h2 : a ≠ 9) : keepM M k m v a j = M a j := by rw [keepM_at, if_neg (by omega), if_neg (by omega), if_neg (by omega)]
theorem keepM_9 (M : Ms) (k m v j : Nat) : keepM M k m v 9 j = if j = k then M 9 k + 1 else M 9 j := by
  rw [keepM_at]
  by_cases h : j = k
  · rw [if_pos ⟨rfl, h⟩, if_pos h]
  · rw [if_neg (by omega), if_neg (by omega), if_neg (by omega), if_neg h]
theorem keepM_ne (M : Ms) (k m v a j : Nat) (h : ¬ (a = 9 ∧ j = k)) (h1 : ¬ (a = 200 + k ∧ j = M 9 k)) (h2 : ¬ (a = 100 + k ∧ j = M 9 k)) : keepM M k m v a j = M a j := by rw [keepM_at, if_neg h, if_neg h1, if_neg h2]
theorem keepM_ag (M : Ms) (k m v : Nat) : agM M (keepM M k m v) := ((agM.rf.up (by unfold prM; omega)).up (by unfold prM; omega)).up (by unfold prM; omega)
theorem WFp_keep {M : Ms} {k m v : Nat} (h : WFp M) (he : M 0 9 ≠ 1) (hk : k ≤ 24) (hc : M 9 k < 200) (hm : m < 2 ^ M 0 1) (hv : v &&& m = v) : WFp (keepM M k m v) := by
  obtain ⟨p1, p2, p3, p4, p5, p6⟩ := h
  refine ⟨by rw [keepM_0]; exact p1, by rw [keepM_0]; exact p2, fun j hj => ?_, fun i hi => ?_, by rw [keepM_0, keepM_0, keepM_0]; exact p5, by rw [keepM_0, keepM_0]; exact fun z => absurd z he⟩
  · obtain ⟨c1, c2⟩ := p3 j hj
    unfold WFc
    rw [keepM_9, keepM_0]
    by_cases e : j = k
    · subst e
      rw [if_pos rfl]
      refine ⟨by omega, fun i hi => ?_⟩
      by_cases e2 : i = M 9 j
      · subst e2
        rw [keepM_at, if_neg (by omega), if_neg (by omega), if_pos ⟨rfl, rfl⟩, keepM_at, if_neg (by omega), if_pos ⟨rfl, rfl⟩]
        exact ⟨hm, hv⟩
      · rw [keepM_ne _ _ _ _ _ _ (by omega) (by omega) (by omega), keepM_ne _ _ _ _ _ _ (by omega) (by omega) (by omega)]
        exact c2 i (by omega)
    · rw [if_neg e]
      refine ⟨c1, fun i hi => ?_⟩
      rw [keepM_ne _ _ _ _ _ _ (by omega) (by omega) (by omega), keepM_ne _ _ _ _ _ _ (by omega) (by omega) (by omega)]
      exact c2 i hi
  · rw [keepM_0] at hi
    rw [keepM_lo M k m v 10 i (by decide) (by decide), keepM_lo M k m v 11 i (by decide) (by decide), keepM_0, keepM_0]
    exact p4 i hi
theorem sp_keep {M0 M : Ms} {σ τ : Sg} {k m v : Nat} {Q : Sg → Prop} (h : PI M0 σ M τ) (he : M 0 9 ≠ 1) (hk1 : 1 ≤ k) (hk : k ≤ 24) (hc : M 9 k < 200) (hm : m < 2 ^ M 0 1) (hv : v &&& m = v)
    (hq : ∀ υ, PI M0 σ (keepM M k m v) υ → Q υ) : wp_X10_keep (nI k) (nI m) (nI v) τ Q := by
  obtain ⟨ha, hb, hR, hP⟩ := h
  have c14 := (hR.2.2.2.2.2.1 k hk1 hk).1
  unfold wp_X10_keep
  simp +decide (disch := omega) only [lit, lit_neg, i_add, i_mul, i_sub, i_div, i_and, i_or, i_shl1, Nat.one_mul, i_shr1, i_bit1, i_lt, i_eq, i_in, i_cl, i_0, gI_sI, bi_0n, bi_1n, nz_bi, nz_0n, nz_1n, vn_0n, vn_1n, vn_bi, and_true, true_and, not_false_eq_true, not_true_eq_false, false_implies, true_implies, forall_const, implies_true, ite_true, ite_false, Bool.not_eq_true, Bool.not_eq_false, and_false, false_and, if_true, if_false, if_pos, true_or, or_true, false_or, or_false, c14, show k < 25 by omega, show 200 * k + M 9 k < 5000 by omega, and_self]
  refine hq _ ⟨ha.tr (keepM_ag M k m v), ((hb.up (by simp [prS])).up (by simp [prS])).up (by simp [prS]), ?_, WFp_keep hP he hk hc hm hv⟩
  obtain ⟨h1, h2, h3, h4, h5, h6, h7, h8, h9, h10⟩ := hR
  refine ⟨?_, ?_, ?_, ?_, fun i hi => ?_, fun j j1 j2 => ⟨?_, fun i hi => ?_⟩, ?_, ?_, ?_, ?_⟩
  · simp [gI_sI, keepM_0, h1]
  · simp [gI_sI, keepM_0, h2]
  · simp [gI_sI, keepM_0, h3]
  · simp [gI_sI, keepM_0, h4]
  · rw [keepM_0] at hi
    simp only [gI_sI]
    rw [if_neg (by omega), if_neg (by omega), if_neg (by omega), if_neg (by omega), if_neg (by omega), if_neg (by omega), keepM_lo _ _ _ _ _ _ (by decide) (by decide), keepM_lo _ _ _ _ _ _ (by decide) (by decide)]
    exact h5 i hi
  · rw [gI_sI, keepM_9]
    by_cases e : j = k
    · rw [if_pos ⟨rfl, e⟩, if_pos e]
    · rw [if_neg (by omega), if_neg e, gI_sI, if_neg (by omega), gI_sI, if_neg (by omega)]
      exact (h6 j j1 j2).1
  · rw [keepM_9] at hi
    have hcj := (hP.2.2.1 j j2).1
    simp only [gI_sI]
    by_cases e : j = k ∧ i = M 9 k
    · obtain ⟨rfl, rfl⟩ := e
      rw [if_neg (by omega), if_neg (by omega), if_pos ⟨trivial, rfl⟩, if_neg (by omega), if_pos ⟨trivial, rfl⟩, keepM_at, if_neg (by omega), if_neg (by omega), if_pos ⟨rfl, rfl⟩, keepM_at, if_neg (by omega), if_pos ⟨rfl, rfl⟩]
      exact ⟨rfl, rfl⟩
    · have hij : i < M 9 j := by
        by_cases e2 : j = k
        · rw [if_pos e2] at hi; subst e2; omega
        · rw [if_neg e2] at hi; exact hi
      rw [if_neg (by omega), if_neg (by omega), if_neg (by omega), if_neg (by omega), if_neg (by omega), if_neg (by omega), keepM_ne _ _ _ _ _ _ (by omega) (by omega) (by omega), keepM_ne _ _ _ _ _ _ (by omega) (by omega) (by omega)]
      exact (h6 j j1 j2).2 i hij
  · rw [keepM_0, if_neg he]
    rw [if_neg he] at h7
    simp [gI_sI, h7]
  · rw [keepM_0]; exact fun z => absurd z he
  · have : wayN (keepM M k m v) = wayN M := by unfold wayN; rw [keepM_0, keepM_0]
    rw [this]
    simp [gI_sI, h9]
  · intro i hi
    have e1 : wayN (keepM M k m v) = wayN M := by unfold wayN; rw [keepM_0, keepM_0]
    have e2 : waySt (keepM M k m v) i = waySt M i := by unfold waySt; rw [keepM_0, keepM_0, keepM_lo _ _ _ _ _ _ (by decide) (by decide)]
    rw [e1] at hi
    rw [e2]
    simp [gI_sI, h10 i hi]
theorem meetM_at (M : Ms) (s k a j : Nat) : meetM M s k a j = if a = 0 ∧ j = 11 then M 0 11 + 1 else if a = 11 ∧ j = M 0 11 then k else if a = 10 ∧ j = M 0 11 then s else M a j := rfl
theorem meetM_ne (M : Ms) (s k a j : Nat) (h : ¬ (a = 0 ∧ j = 11)) (h1 : ¬ (a = 11 ∧ j = M 0 11)) (h2 : ¬ (a = 10 ∧ j = M 0 11)) : meetM M s k a j = M a j := by rw [meetM_at, if_neg h, if_neg h1, if_neg h2]
theorem meetM_ag (M : Ms) (s k : Nat) : agM M (meetM M s k) := ((agM.rf.up (by unfold prM; omega)).up (by unfold prM; omega)).up (by unfold prM; omega)
theorem WFp_meet {M : Ms} {s k : Nat} (h : WFp M) (he : M 0 9 = 0) (hN : 1 ≤ M 0 8) (hs : s < 2 ^ M 0 1) (hk : k + M 0 11 ≤ M 0 8) : WFp (meetM M s k) := by
  obtain ⟨p1, p2, p3, p4, p5, p6⟩ := h
  have q : ∀ j, j ≠ 11 → meetM M s k 0 j = M 0 j := fun j hj => meetM_ne _ _ _ _ _ (by omega) (by omega) (by omega)
  refine ⟨by rw [q 8 (by decide)]; exact p1, by rw [q 9 (by decide)]; exact p2, fun j hj => ?_, fun i hi => ?_, by rw [q 8 (by decide)]; omega, by rw [q 9 (by decide)]; omega⟩
  · obtain ⟨c1, c2⟩ := p3 j hj
    unfold WFc
    rw [meetM_ne _ _ _ _ _ (by omega) (by omega) (by omega), q 1 (by decide)]
    refine ⟨c1, fun i hi => ?_⟩
    rw [meetM_ne _ _ _ _ _ (by omega) (by omega) (by omega), meetM_ne _ _ _ _ _ (by omega) (by omega) (by omega)]
    exact c2 i hi
  · rw [show meetM M s k 0 11 = M 0 11 + 1 from rfl] at hi
    rw [q 1 (by decide), q 8 (by decide)]
    by_cases e : i = M 0 11
    · subst e
      rw [meetM_at, if_neg (by omega), if_neg (by omega), if_pos ⟨rfl, rfl⟩, meetM_at, if_neg (by omega), if_pos ⟨rfl, rfl⟩]
      exact ⟨hs, hk⟩
    · rw [meetM_ne _ _ _ _ _ (by omega) (by omega) (by omega), meetM_ne _ _ _ _ _ (by omega) (by omega) (by omega)]
      exact p4 i (by omega)
theorem wayN_0 {M : Ms} (h : M 0 9 ≠ 2) : wayN M = 0 := by unfold wayN; rw [if_neg h]
theorem sp_meet {M0 M : Ms} {σ τ : Sg} {s k : Nat} {Q : Sg → Prop} (h : PI M0 σ M τ) (he : M 0 9 = 0) (hN : 1 ≤ M 0 8) (hs : s < 2 ^ M 0 1) (hk : k + M 0 11 ≤ M 0 8)
    (hq : ∀ υ, PI M0 σ (meetM M s k) υ → Q υ) : wp_X10_meet (nI s) (nI k) τ Q := by
  obtain ⟨ha, hb, hR, hP⟩ := h
  have hn := hP.1
  have hW := WFp_meet hP he hN hs hk
  obtain ⟨h1, h2, h3, h4, h5, h6, h7, h8, h9, h10⟩ := hR
  have q : ∀ j, j ≠ 11 → meetM M s k 0 j = M 0 j := fun j hj => meetM_ne _ _ _ _ _ (by omega) (by omega) (by omega)
  unfold wp_X10_meet
  simp +decide (disch := omega) only [lit, lit_neg, i_add, i_mul, i_sub, i_div, i_and, i_or, i_shl1, Nat.one_mul, i_shr1, i_bit1, i_lt, i_eq, i_in, i_cl, i_0, gI_sI, bi_0n, bi_1n, nz_bi, nz_0n, nz_1n, vn_0n, vn_1n, vn_bi, and_true, true_and, not_false_eq_true, not_true_eq_false, false_implies, true_implies, forall_const, implies_true, ite_true, ite_false, Bool.not_eq_true, Bool.not_eq_false, and_false, false_and, if_true, if_false, if_pos, true_or, or_true, false_or, or_false, h4, show M 0 11 < 40 by omega]
  refine hq _ ⟨ha.tr (meetM_ag M s k), ((hb.up (by simp [prS])).up (by simp [prS])).up (by simp [prS]), ?_, hW⟩
  refine ⟨?_, ?_, ?_, ?_, fun i hi => ?_, fun j j1 j2 => ⟨?_, fun i hi => ?_⟩, ?_, ?_, ?_, ?_⟩
  · rw [q 8 (by decide)]; simp [gI_sI, h1]
  · rw [q 9 (by decide)]; simp [gI_sI, h2]
  · rw [q 10 (by decide)]; simp [gI_sI, h3]
  · show _ = nI (M 0 11 + 1)
    simp [gI_sI]
  · rw [show meetM M s k 0 11 = M 0 11 + 1 from rfl] at hi
    simp only [gI_sI]
    by_cases e : i = M 0 11
    · subst e
      rw [if_neg (by omega), if_neg (by omega), if_pos ⟨trivial, rfl⟩, if_neg (by omega), if_pos ⟨trivial, rfl⟩, meetM_at, if_neg (by omega), if_neg (by omega), if_pos ⟨rfl, rfl⟩, meetM_at, if_neg (by omega), if_pos ⟨rfl, rfl⟩]
      exact ⟨rfl, rfl⟩
    · rw [if_neg (by omega), if_neg (by omega), if_neg (by omega), if_neg (by omega), if_neg (by omega), if_neg (by omega), meetM_ne _ _ _ _ _ (by omega) (by omega) (by omega), meetM_ne _ _ _ _ _ (by omega) (by omega) (by omega)]
      exact h5 i (by omega)
  · rw [meetM_ne _ _ _ _ _ (by omega) (by omega) (by omega)]
    simp [gI_sI, (h6 j j1 j2).1]
  · rw [meetM_ne _ _ _ _ _ (by omega) (by omega) (by omega)] at hi
    rw [meetM_ne _ _ _ _ _ (by omega) (by omega) (by omega), meetM_ne _ _ _ _ _ (by omega) (by omega) (by omega)]
    simp [gI_sI, (h6 j j1 j2).2 i hi]
  · rw [q 9 (by decide), if_neg (by omega)]
    rw [if_neg (by omega)] at h7
    simp [gI_sI, h7]
  · rw [q 9 (by decide)]; exact fun z => absurd z (by omega)
  · rw [wayN_0 (by rw [q 9 (by decide)]; omega)]
    rw [wayN_0 (by omega)] at h9
    simp [gI_sI, h9]
  · rw [wayN_0 (by rw [q 9 (by decide)]; omega)]
    exact fun i hi => absurd hi (by omega)
theorem sp_has {M0 M : Ms} {σ τ : Sg} {k m v : Nat} {Q : Int32 → Prop} (h : PI M0 σ M τ) (h0 : PB M0 σ) (hk1 : 1 ≤ k) (hk : k ≤ 24) (hm : m < 65536) (hv : v < 65536) (hq : Q (bi (hasB M k m v))) : wp_X10_has (nI k) (nI m) (nI v) τ Q := by
  have hWm := h.wf h0
  obtain ⟨ha, hb, hR, hP⟩ := h
  have h256 := pow_le8 hWm.2.1
  obtain ⟨c14, cc⟩ := hR.2.2.2.2.2.1 k hk1 hk
  obtain ⟨g1, g2⟩ := hP.2.2.1 k hk
  intro L6 h6
  refine or_loop (n := M 9 k) (f := fun i => decide (M (100 + k) i = m) && decide (M (200 + k) i = v)) (fun i b hi hb2 nx => ?_) ?_
  · apply h6
    obtain ⟨e1, e2⟩ := cc i hi
    obtain ⟨m1, m2⟩ := g2 i hi
    have m3 := and_eq_le m2 m1
    simp +decide (disch := omega) only [lit, lit_neg, i_add, i_mul, i_sub, i_div, i_and, i_or, i_shl1, Nat.one_mul, i_shr1, i_bit1, i_lt, i_eq, i_in, i_cl, i_0, gI_sI, bi_0n, bi_1n, nz_bi, nz_0n, nz_1n, vn_0n, vn_1n, vn_bi, and_true, true_and, not_false_eq_true, not_true_eq_false, false_implies, true_implies, forall_const, implies_true, ite_true, ite_false, Bool.not_eq_true, Bool.not_eq_false, and_false, false_and, if_true, if_false, if_pos, true_or, or_true, false_or, or_false, c14, hi, show k < 25 by omega, show 200 * k + i < 5000 by omega, e1, e2]
    cases b
    · refine ⟨fun _ => ⟨fun q => ⟨fun q2 => ?_, fun q2 => ?_⟩, fun q => ?_⟩, (fun z => by cases z)⟩
      · simpa [q, q2, bi_tn] using nx
      · simpa [q, q2, bi_fn] using nx
      · simpa [q, bi_fn] using nx
    · exact ⟨(fun z => by cases z), fun _ => nx⟩
  · apply h6
    simp +decide (disch := omega) only [lit, lit_neg, i_add, i_mul, i_sub, i_div, i_and, i_or, i_shl1, Nat.one_mul, i_shr1, i_bit1, i_lt, i_eq, i_in, i_cl, i_0, gI_sI, bi_0n, bi_1n, nz_bi, nz_0n, nz_1n, vn_0n, vn_1n, vn_bi, and_true, true_and, not_false_eq_true, not_true_eq_false, false_implies, true_implies, forall_const, implies_true, ite_true, ite_false, Bool.not_eq_true, Bool.not_eq_false, and_false, false_and, if_true, if_false, if_pos, true_or, or_true, false_or, or_false, c14, Nat.lt_irrefl, show k < 25 by omega]
    exact hq
theorem sp_isShut {M0 M : Ms} {σ τ : Sg} {k m v : Nat} {Q : Int32 → Prop} (h : PI M0 σ M τ) (h0 : PB M0 σ) (hk : k ≤ 24) (hv : v < 65536) (hq : Q (bi (shutB M k m v))) : wp_X10_isShut (nI k) (nI m) (nI v) τ Q := by
  have hWm := h.wf h0
  have hRm := h.rm h0
  have h256 := pow_le8 hWm.2.1
  intro L3 h3
  refine up_loop (I := fun i => ∀ j, j < i → (inFrB M k j && ldIntoB M j m v) = false) (2 ^ M 0 1) ?_ ?_ 0 (Nat.zero_le _) (fun j hj => absurd hj (by omega))
  · intro i hi hI nx
    apply h3
    refine sp_states hWm hRm ?_
    simp +decide (disch := omega) only [lit, lit_neg, i_add, i_mul, i_sub, i_div, i_and, i_or, i_shl1, Nat.one_mul, i_shr1, i_bit1, i_lt, i_eq, i_in, i_cl, i_0, gI_sI, bi_0n, bi_1n, nz_bi, nz_0n, nz_1n, vn_0n, vn_1n, vn_bi, and_true, true_and, not_false_eq_true, not_true_eq_false, false_implies, true_implies, forall_const, implies_true, ite_true, ite_false, Bool.not_eq_true, Bool.not_eq_false, and_false, false_and, if_true, if_false, if_pos, true_or, or_true, false_or, or_false, hi]
    have nx' : (inFrB M k i && ldIntoB M i m v) = false → L3 (nI (i + 1)) := fun e => nx (fun j hj => by
      by_cases e2 : j = i
      · subst e2; exact e
      · exact hI j (by omega))
    refine sp_inFrame hWm h.2.2.2 hRm h.2.2.1 hk (by omega) ?_
    simp +decide (disch := omega) only [lit, lit_neg, i_add, i_mul, i_sub, i_div, i_and, i_or, i_shl1, Nat.one_mul, i_shr1, i_bit1, i_lt, i_eq, i_in, i_cl, i_0, gI_sI, bi_0n, bi_1n, nz_bi, nz_0n, nz_1n, vn_0n, vn_1n, vn_bi, and_true, true_and, not_false_eq_true, not_true_eq_false, false_implies, true_implies, forall_const, implies_true, ite_true, ite_false, Bool.not_eq_true, Bool.not_eq_false, and_false, false_and, if_true, if_false, if_pos, true_or, or_true, false_or, or_false]
    refine ⟨fun e2 => nx' (by simp [e2]), fun e2 => sp_ldInto hWm hRm (h.tb h0) hi hv ?_⟩
    simp +decide (disch := omega) only [lit, lit_neg, i_add, i_mul, i_sub, i_div, i_and, i_or, i_shl1, Nat.one_mul, i_shr1, i_bit1, i_lt, i_eq, i_in, i_cl, i_0, gI_sI, bi_0n, bi_1n, nz_bi, nz_0n, nz_1n, vn_0n, vn_1n, vn_bi, and_true, true_and, not_false_eq_true, not_true_eq_false, false_implies, true_implies, forall_const, implies_true, ite_true, ite_false, Bool.not_eq_true, Bool.not_eq_false, and_false, false_and, if_true, if_false, if_pos, true_or, or_true, false_or, or_false]
    refine ⟨fun e3 => nx' (by simp [e3]), fun e3 => ?_⟩
    have : shutB M k m v = false := by
      unfold shutB
      rw [anyN_iff.mpr ⟨i, hi, by simp [e2, e3]⟩]
      rfl
    rw [this] at hq
    exact hq
  · intro hI
    apply h3
    refine sp_states hWm hRm ?_
    simp +decide (disch := omega) only [lit, lit_neg, i_add, i_mul, i_sub, i_div, i_and, i_or, i_shl1, Nat.one_mul, i_shr1, i_bit1, i_lt, i_eq, i_in, i_cl, i_0, gI_sI, bi_0n, bi_1n, nz_bi, nz_0n, nz_1n, vn_0n, vn_1n, vn_bi, and_true, true_and, not_false_eq_true, not_true_eq_false, false_implies, true_implies, forall_const, implies_true, ite_true, ite_false, Bool.not_eq_true, Bool.not_eq_false, and_false, false_and, if_true, if_false, if_pos, true_or, or_true, false_or, or_false, Nat.lt_irrefl]
    have : shutB M k m v = true := by
      unfold shutB
      rw [anyN_f.mpr hI]
      rfl
    rw [this] at hq
    exact hq
/-! the walls -/
theorem pushM_ag (M : Ms) (k : Nat) (hk : k ≤ 24) : ∀ i, agM M (pushM M k i)
  | 0 => agM.rf
  | i + 1 => by
    have ih := pushM_ag M k hk i
    simp only [pushM]
    split
    · exact ih
    · split
      · exact ih
      · split
        · exact ih.up (by unfold prM; omega)
        · exact ih.tr (keepM_ag _ _ _ _)
/-- the clauses of a frame other than the next stay -/
theorem pushM_same (M : Ms) (k : Nat) (hk : k ≤ 23) : ∀ i, (∀ j, j ≠ k + 1 → pushM M k i 9 j = M 9 j) ∧ (∀ j n, j ≤ 24 → j ≠ k + 1 → pushM M k i (100 + j) n = M (100 + j) n ∧ pushM M k i (200 + j) n = M (200 + j) n) ∧ (∀ j, j ≠ 9 → pushM M k i 0 j = M 0 j) ∧ (∀ j, pushM M k i 10 j = M 10 j ∧ pushM M k i 11 j = M 11 j)
  | 0 => ⟨fun _ _ => rfl, fun _ _ _ _ => ⟨rfl, rfl⟩, fun _ _ => rfl, fun _ => ⟨rfl, rfl⟩⟩
  | i + 1 => by
    obtain ⟨i1, i2, i3, i4⟩ := pushM_same M k hk i
    simp only [pushM]
    split
    · exact ⟨i1, i2, i3, i4⟩
    · split
      · exact ⟨i1, i2, i3, i4⟩
      · split
        · refine ⟨fun j hj => ?_, fun j n h1 h2 => ?_, fun j hj => ?_, fun j => ?_⟩
          · rw [up_at, if_neg (by omega)]; exact i1 j hj
          · rw [up_at, if_neg (by omega), up_at, if_neg (by omega)]; exact i2 j n h1 h2
          · rw [up_at, if_neg (by omega)]; exact i3 j hj
          · rw [up_at, if_neg (by omega), up_at, if_neg (by omega)]; exact i4 j
        · refine ⟨fun j hj => ?_, fun j n h1 h2 => ?_, fun j hj => ?_, fun j => ?_⟩
          · rw [keepM_9, if_neg hj]; exact i1 j hj
          · rw [keepM_ne _ _ _ _ _ _ (by omega) (by omega) (by omega), keepM_ne _ _ _ _ _ _ (by omega) (by omega) (by omega)]; exact i2 j n h1 h2
          · rw [keepM_0]; exact i3 j hj
          · rw [keepM_lo _ _ _ _ 10 j (by decide) (by decide), keepM_lo _ _ _ _ 11 j (by decide) (by decide)]; exact i4 j
theorem pushM_stop (M : Ms) (k i : Nat) : ∀ d, pushM M k i 0 9 ≠ 0 → pushM M k (i + d) = pushM M k i
  | 0, _ => rfl
  | d + 1, h => by
    have ih := pushM_stop M k i d h
    show pushM M k (i + d + 1) = _
    simp only [pushM]
    rw [ih, if_pos h]
theorem up_ne (M : Ms) (a k v b j : Nat) (h : ¬ (b = a ∧ j = k)) : up M a k v b j = M b j := by rw [up_at, if_neg h]
theorem WFc_up {M : Ms} {k j v : Nat} (h : WFc M k) (hj : j ≠ 1) : WFc (up M 0 j v) k := by
  unfold WFc at h ⊢
  rw [up_ne _ _ _ _ _ _ (by omega), up_ne _ _ _ _ 0 1 (by omega)]
  refine ⟨h.1, fun i hi => ?_⟩
  rw [up_ne _ _ _ _ _ _ (by omega), up_ne _ _ _ _ _ _ (by omega)]
  exact h.2 i hi
/-- a state of the proof with another end -/
theorem PI_end {M0 M : Ms} {σ τ : Sg} (h : PI M0 σ M τ) (he : M 0 9 = 0) (hN : 1 ≤ M 0 8) : PI M0 σ (up M 0 9 3) (sI τ 0 24 (nI 3)) := by
  obtain ⟨ha, hb, hR, p1, p2, p3, p4, p5, p6⟩ := h
  obtain ⟨h1, h2, h3, h4, h5, h6, h7, h8, h9, h10⟩ := hR
  refine ⟨ha.up (by unfold prM; omega), hb.up (by simp [prS]), ⟨?_, ?_, ?_, ?_, fun i hi => ?_, fun j j1 j2 => ⟨?_, fun i hi => ?_⟩, ?_, ?_, ?_, ?_⟩, p1, ?_, fun k hk => WFc_up (p3 k hk) (by decide), p4, ?_, ?_⟩
  · simpa [gI_sI, up_at] using h1
  · simp [gI_sI, up_at]
  · simpa [gI_sI, up_at] using h3
  · simpa [gI_sI, up_at] using h4
  · simpa [gI_sI, up_at] using h5 i hi
  · simpa [gI_sI, up_at] using (h6 j j1 j2).1
  · have : ∀ a n, a ≠ 0 → up M 0 9 3 a n = M a n := fun a n z => by rw [up_at, if_neg (by omega)]
    rw [this 9 j (by decide)] at hi
    rw [this _ _ (by omega), this _ _ (by omega)]
    simpa [gI_sI] using (h6 j j1 j2).2 i hi
  · rw [if_neg (by omega)] at h7
    simpa [gI_sI, up_at] using h7
  · intro z; simp [up_at] at z
  · rw [wayN_0 (by omega)] at h9
    rw [wayN_0 (by simp [up_at])]
    simpa [gI_sI] using h9
  · rw [wayN_0 (by simp [up_at])]
    intro i hi; omega
  · simp [up_at]
  · intro z; simp [up_at] at z; omega
  · intro z; simp [up_at] at z
theorem sp_push {M0 M : Ms} {σ τ : Sg} {k : Nat} {Q : Sg → Prop} (h : PI M0 σ M τ) (h0 : PB M0 σ) (hN : 1 ≤ M 0 8) (he1 : M 0 9 ≠ 1) (he2 : M 0 9 ≠ 2) (hk1 : 1 ≤ k) (hk : k ≤ 23)
    (hq : ∀ υ, PI M0 σ (pushM M k (M 9 k)) υ → pushM M k (M 9 k) 0 9 = M 0 9 ∨ pushM M k (M 9 k) 0 9 = 3 → Q υ) : wp_X10_push (nI k) τ Q := by
  intro L2 h2
  refine up_loopS (I := fun i υ => PI M0 σ (pushM M k i) υ ∧ (pushM M k i 0 9 = M 0 9 ∨ pushM M k i 0 9 = 3)) (M 9 k) ?_ ?_ 0 τ (Nat.zero_le _) ⟨h, Or.inl rfl⟩
  · intro i υ hi ⟨hI, hE⟩ nx
    obtain ⟨s1, s2, s3, s4⟩ := pushM_same M k hk i
    have hWm := hI.wf h0
    have h256 := pow_le8 hWm.2.1
    have hR := hI.2.2.1
    obtain ⟨c14, cc⟩ := hR.2.2.2.2.2.1 k hk1 (by omega)
    obtain ⟨d14, -⟩ := hR.2.2.2.2.2.1 (k + 1) (by omega) (by omega)
    obtain ⟨g1, g2⟩ := hI.2.2.2.2.2.1 k (by omega)
    obtain ⟨f1, -⟩ := hI.2.2.2.2.2.1 (k + 1) (by omega)
    have hik : i < pushM M k i 9 k := by rw [s1 k (by omega)]; exact hi
    obtain ⟨e1, e2⟩ := cc i hik
    obtain ⟨m1, m2⟩ := g2 i hik
    have m3 := and_eq_le m2 m1
    have hend := hR.2.1
    apply h2
    by_cases he : pushM M k i 0 9 = 0
    · simp +decide (disch := omega) only [lit, lit_neg, i_add, i_mul, i_sub, i_div, i_and, i_or, i_shl1, Nat.one_mul, i_shr1, i_bit1, i_lt, i_eq, i_in, i_cl, i_0, gI_sI, bi_0n, bi_1n, nz_bi, nz_0n, nz_1n, vn_0n, vn_1n, vn_bi, and_true, true_and, not_false_eq_true, not_true_eq_false, false_implies, true_implies, forall_const, implies_true, ite_true, ite_false, Bool.not_eq_true, Bool.not_eq_false, and_false, false_and, if_true, if_false, if_pos, true_or, or_true, false_or, or_false, c14, hik, hend, he, show k < 25 by omega, show 200 * k + i < 5000 by omega, e1, e2]
      refine sp_has hI h0 (by omega) (by omega) (by omega) (by omega) ?_
      simp +decide (disch := omega) only [lit, lit_neg, i_add, i_mul, i_sub, i_div, i_and, i_or, i_shl1, Nat.one_mul, i_shr1, i_bit1, i_lt, i_eq, i_in, i_cl, i_0, gI_sI, bi_0n, bi_1n, nz_bi, nz_0n, nz_1n, vn_0n, vn_1n, vn_bi, and_true, true_and, not_false_eq_true, not_true_eq_false, false_implies, true_implies, forall_const, implies_true, ite_true, ite_false, Bool.not_eq_true, Bool.not_eq_false, and_false, false_and, if_true, if_false, if_pos, true_or, or_true, false_or, or_false]
      refine ⟨fun q => sp_isShut hI h0 (by omega) (by omega) ?_, fun q => nx _ ?_⟩
      · simp +decide (disch := omega) only [lit, lit_neg, i_add, i_mul, i_sub, i_div, i_and, i_or, i_shl1, Nat.one_mul, i_shr1, i_bit1, i_lt, i_eq, i_in, i_cl, i_0, gI_sI, bi_0n, bi_1n, nz_bi, nz_0n, nz_1n, vn_0n, vn_1n, vn_bi, and_true, true_and, not_false_eq_true, not_true_eq_false, false_implies, true_implies, forall_const, implies_true, ite_true, ite_false, Bool.not_eq_true, Bool.not_eq_false, and_false, false_and, if_true, if_false, if_pos, true_or, or_true, false_or, or_false, d14, show k + 1 < 25 by omega]
        refine ⟨fun q2 => nx _ ?_, fun q2 => ⟨fun q3 => nx _ ?_, fun q3 => ?_⟩⟩
        · simpa [pushM, he, q, q2] using And.intro hI hE
        · have : PI M0 σ (up (pushM M k i) 0 9 3) (sI υ 0 24 (nI 3)) ∧ (up (pushM M k i) 0 9 3 0 9 = M 0 9 ∨ up (pushM M k i) 0 9 3 0 9 = 3) := ⟨PI_end hI he (by rw [s3 8 (by decide)]; exact hN), Or.inr rfl⟩
          simpa [pushM, he, q, q2, q3] using this
        · refine sp_keep hI (by omega) (by omega) (by omega) (by omega) m1 m2 (fun ω hω => nx _ ?_)
          have : keepM (pushM M k i) (k + 1) (pushM M k i (100 + k) i) (pushM M k i (200 + k) i) 0 9 = 0 := by rw [keepM_0]; exact he
          refine ⟨by simpa [pushM, he, q, q2, q3] using hω, ?_⟩
          simp only [pushM, he, q, q2, q3]
          simp [keepM_0, he]
          omega
      · simpa [pushM, he, q] using And.intro hI hE
    · have hle := hI.2.2.2.2.1
      simp +decide (disch := omega) only [lit, lit_neg, i_add, i_mul, i_sub, i_div, i_and, i_or, i_shl1, Nat.one_mul, i_shr1, i_bit1, i_lt, i_eq, i_in, i_cl, i_0, gI_sI, bi_0n, bi_1n, nz_bi, nz_0n, nz_1n, vn_0n, vn_1n, vn_bi, and_true, true_and, not_false_eq_true, not_true_eq_false, false_implies, true_implies, forall_const, implies_true, ite_true, ite_false, Bool.not_eq_true, Bool.not_eq_false, and_false, false_and, if_true, if_false, if_pos, true_or, or_true, false_or, or_false, c14, hik, hend, he, show k < 25 by omega]
      have := pushM_stop M k i (M 9 k - i) he
      rw [show i + (M 9 k - i) = M 9 k by omega] at this
      rw [← this] at hI hE
      exact hq υ hI hE
  · intro υ ⟨hI, hE⟩
    obtain ⟨s1, -⟩ := pushM_same M k hk (M 9 k)
    obtain ⟨c14, -⟩ := hI.2.2.1.2.2.2.2.2.1 k hk1 (by omega)
    rw [s1 k (by omega)] at c14
    have := (hI.2.2.2.2.2.1 k (by omega)).1
    rw [s1 k (by omega)] at this
    apply h2
    simp +decide (disch := omega) only [lit, lit_neg, i_add, i_mul, i_sub, i_div, i_and, i_or, i_shl1, Nat.one_mul, i_shr1, i_bit1, i_lt, i_eq, i_in, i_cl, i_0, gI_sI, bi_0n, bi_1n, nz_bi, nz_0n, nz_1n, vn_0n, vn_1n, vn_bi, and_true, true_and, not_false_eq_true, not_true_eq_false, false_implies, true_implies, forall_const, implies_true, ite_true, ite_false, Bool.not_eq_true, Bool.not_eq_false, and_false, false_and, if_true, if_false, if_pos, true_or, or_true, false_or, or_false, c14, Nat.lt_irrefl, show k < 25 by omega]
    exact hq υ hI hE
