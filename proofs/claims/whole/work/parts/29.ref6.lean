/-! the reference: looks, and the whole proof -/
theorem worst_le (M : Ms) : worstN M ≤ 2 ^ M 0 1 := by
  rcases lst_cases (2 ^ M 0 1) (fun s => inFrB M (M 0 8) s && isBadS M s) with ⟨h, -⟩ | ⟨i, h1, h2, -⟩
  · unfold worstN; rw [h]; exact Nat.zero_le _
  · unfold worstN; omega
theorem sp_hasTrouble {M0 M : Ms} {σ τ : Sg} {Q : Int32 → Sg → Prop} (h : PI M0 σ M τ) (h0 : PB M0 σ) (hN : 1 ≤ M 0 8) (he : M 0 9 = 0) (ht : M 0 11 = 0)
    (hq0 : worstN M = 0 → Q (nI 0) τ) (hq1 : ∀ υ, worstN M ≠ 0 → PI M0 σ (meetM M (worstN M - 1) (M 0 8)) υ → Q (nI 1) υ) : wp_X10_hasTrouble τ Q := by
  have hWm := h.wf h0
  have hRm := h.rm h0
  have h256 := pow_le8 hWm.2.1
  have hN23 := h.2.2.2.1
  have r23 := h.2.2.1.1
  intro L3 h3
  have main := up_loop (L := fun i => L3 i τ) (I := fun i => ∀ j, j < i → (inFrB M (M 0 8) j && isBadS M j) = false) (2 ^ M 0 1) ?_ ?_ 0 (Nat.zero_le _) (fun j hj => absurd hj (by omega))
  · exact main
  · intro i hi hI nx
    apply h3
    refine sp_states hWm hRm ?_
    simp +decide (disch := omega) only [lit, lit_neg, i_add, i_mul, i_sub, i_div, i_and, i_or, i_shl1, Nat.one_mul, i_shr1, i_bit1, i_lt, i_eq, i_in, i_cl, i_0, gI_sI, bi_0n, bi_1n, nz_bi, nz_0n, nz_1n, vn_0n, vn_1n, vn_bi, and_true, true_and, not_false_eq_true, not_true_eq_false, false_implies, true_implies, forall_const, implies_true, ite_true, ite_false, Bool.not_eq_true, Bool.not_eq_false, and_false, false_and, if_true, if_false, if_pos, true_or, or_true, false_or, or_false, hi, r23]
    have nx' : (inFrB M (M 0 8) i && isBadS M i) = false → L3 (nI (i + 1)) τ := fun e => nx (fun j hj => by
      by_cases e2 : j = i
      · subst e2; exact e
      · exact hI j (by omega))
    refine sp_inFrame hWm h.2.2.2 hRm h.2.2.1 (by omega) (by omega) ?_
    simp +decide (disch := omega) only [lit, lit_neg, i_add, i_mul, i_sub, i_div, i_and, i_or, i_shl1, Nat.one_mul, i_shr1, i_bit1, i_lt, i_eq, i_in, i_cl, i_0, gI_sI, bi_0n, bi_1n, nz_bi, nz_0n, nz_1n, vn_0n, vn_1n, vn_bi, and_true, true_and, not_false_eq_true, not_true_eq_false, false_implies, true_implies, forall_const, implies_true, ite_true, ite_false, Bool.not_eq_true, Bool.not_eq_false, and_false, false_and, if_true, if_false, if_pos, true_or, or_true, false_or, or_false]
    refine ⟨fun e2 => nx' (by simp [e2]), fun e2 => sp_isBad hWm hRm (h.tb h0) hi ?_⟩
    simp +decide (disch := omega) only [lit, lit_neg, i_add, i_mul, i_sub, i_div, i_and, i_or, i_shl1, Nat.one_mul, i_shr1, i_bit1, i_lt, i_eq, i_in, i_cl, i_0, gI_sI, bi_0n, bi_1n, nz_bi, nz_0n, nz_1n, vn_0n, vn_1n, vn_bi, and_true, true_and, not_false_eq_true, not_true_eq_false, false_implies, true_implies, forall_const, implies_true, ite_true, ite_false, Bool.not_eq_true, Bool.not_eq_false, and_false, false_and, if_true, if_false, if_pos, true_or, or_true, false_or, or_false]
    refine ⟨fun e3 => nx' (by simp [e3]), fun e3 => ?_⟩
    have hw : worstN M = i + 1 := lst_some hi (by simp [e2, e3]) hI
    refine sp_meet h he hN hi (by omega) (fun υ hυ => hq1 υ (by omega) ?_)
    rw [hw]
    exact hυ
  · intro hI
    apply h3
    refine sp_states hWm hRm ?_
    simp +decide (disch := omega) only [lit, lit_neg, i_add, i_mul, i_sub, i_div, i_and, i_or, i_shl1, Nat.one_mul, i_shr1, i_bit1, i_lt, i_eq, i_in, i_cl, i_0, gI_sI, bi_0n, bi_1n, nz_bi, nz_0n, nz_1n, vn_0n, vn_1n, vn_bi, and_true, true_and, not_false_eq_true, not_true_eq_false, false_implies, true_implies, forall_const, implies_true, ite_true, ite_false, Bool.not_eq_true, Bool.not_eq_false, and_false, false_and, if_true, if_false, if_pos, true_or, or_true, false_or, or_false, Nat.lt_irrefl]
    exact hq0 (lst_none hI)
/-- the way told -/
theorem sp_tellWay {M0 M : Ms} {σ τ : Sg} {Q : Sg → Prop} (h : PI M0 σ M τ) (h0 : PB M0 σ) (he : M 0 9 = 0) (ht : 1 ≤ M 0 11) (hN : 1 ≤ M 0 8) (hq : ∀ υ, PI M0 σ (up M 0 9 2) υ → Q υ) : wp_X10_tellWay τ Q := by
  obtain ⟨ha, hb, hR, p1, p2, p3, p4, p5, p6⟩ := h
  obtain ⟨h1, h2, h3, h4, h5, h6, h7, h8, h9, h10⟩ := hR
  have hn : M 0 11 ≤ 24 := by
    have := (p4 (M 0 11 - 1) (by omega)).2
    omega
  intro L10 hL
  simp +decide (disch := omega) only [lit, lit_neg, i_add, i_mul, i_sub, i_div, i_and, i_or, i_shl1, Nat.one_mul, i_shr1, i_bit1, i_lt, i_eq, i_in, i_cl, i_0, gI_sI, bi_0n, bi_1n, nz_bi, nz_0n, nz_1n, vn_0n, vn_1n, vn_bi, and_true, true_and, not_false_eq_true, not_true_eq_false, false_implies, true_implies, forall_const, implies_true, ite_true, ite_false, Bool.not_eq_true, Bool.not_eq_false, and_false, false_and, if_true, if_false, if_pos, true_or, or_true, false_or, or_false, h4]
  refine up_loopS (I := fun i υ => But (fun a n => a = 19 ∨ (a = 0 ∧ n = 33)) τ υ ∧ gI υ 0 33 = nI (M 0 11) ∧ ∀ n, n < i → gI υ 19 n = nI (M 10 (M 0 11 - 1 - n))) (M 0 11) ?_ ?_ 0 _ (Nat.zero_le _) ⟨But.rf.up (by simp), by simp [gI_sI], fun n hn => absurd hn (by omega)⟩
  · intro i υ hi ⟨b1, b2, b3⟩ nx
    apply hL
    have g26 : gI υ 0 26 = nI (M 0 11) := by rw [b1 0 26 (by omega)]; exact h4
    have g15 : gI υ 15 (M 0 11 - 1 - i) = nI (M 10 (M 0 11 - 1 - i)) := by rw [b1 15 _ (by omega)]; exact (h5 _ (by omega)).1
    simp +decide (disch := omega) only [lit, lit_neg, i_add, i_mul, i_sub, i_div, i_and, i_or, i_shl1, Nat.one_mul, i_shr1, i_bit1, i_lt, i_eq, i_in, i_cl, i_0, gI_sI, bi_0n, bi_1n, nz_bi, nz_0n, nz_1n, vn_0n, vn_1n, vn_bi, and_true, true_and, not_false_eq_true, not_true_eq_false, false_implies, true_implies, forall_const, implies_true, ite_true, ite_false, Bool.not_eq_true, Bool.not_eq_false, and_false, false_and, if_true, if_false, if_pos, true_or, or_true, false_or, or_false, g26, hi, show M 0 11 - 1 - i < 40 by omega, show i < 40 by omega, g15]
    refine nx _ ⟨b1.up (by simp), by simp [gI_sI, b2], fun n hn => ?_⟩
    rw [gI_sI]
    by_cases e : n = i
    · subst e; rw [if_pos ⟨rfl, rfl⟩]
    · rw [if_neg (by omega)]; exact b3 n (by omega)
  · intro υ ⟨b1, b2, b3⟩
    apply hL
    have g26 : gI υ 0 26 = nI (M 0 11) := by rw [b1 0 26 (by omega)]; exact h4
    simp +decide (disch := omega) only [lit, lit_neg, i_add, i_mul, i_sub, i_div, i_and, i_or, i_shl1, Nat.one_mul, i_shr1, i_bit1, i_lt, i_eq, i_in, i_cl, i_0, gI_sI, bi_0n, bi_1n, nz_bi, nz_0n, nz_1n, vn_0n, vn_1n, vn_bi, and_true, true_and, not_false_eq_true, not_true_eq_false, false_implies, true_implies, forall_const, implies_true, ite_true, ite_false, Bool.not_eq_true, Bool.not_eq_false, and_false, false_and, if_true, if_false, if_pos, true_or, or_true, false_or, or_false, g26, Nat.lt_irrefl]
    refine hq _ ?_
    have q : ∀ a n, ¬ (a = 0 ∧ n = 9) → up M 0 9 2 a n = M a n := fun a n z => up_ne _ _ _ _ _ _ z
    have q9 : up M 0 9 2 0 9 = 2 := rfl
    have g : ∀ a n, ¬ (a = 0 ∧ n = 24) → a ≠ 19 → ¬ (a = 0 ∧ n = 33) → gI (sI υ 0 24 (nI 2)) a n = gI τ a n := fun a n z1 z2 z3 => by
      rw [gI_sI, if_neg (by omega)]
      exact b1 a n (by omega)
    have w : wayN (up M 0 9 2) = M 0 11 := by unfold wayN; rw [q9, if_pos rfl, q 0 11 (by omega), if_neg (by omega)]
    refine ⟨ha.up (by unfold prM; omega), (hb.tr (b1.mono (fun a j z => by unfold prS; omega))).up (by simp [prS]), ⟨?_, ?_, ?_, ?_, fun i hi => ?_, fun j j1 j2 => ⟨?_, fun i hi => ?_⟩, ?_, ?_, ?_, ?_⟩, ?_, ?_, fun k hk => WFc_up (p3 k hk) (by decide), ?_, ?_, ?_⟩
    · rw [q 0 8 (by omega), g 0 23 (by omega) (by omega) (by omega)]; exact h1
    · rw [q9]; simp [gI_sI]
    · rw [q 0 10 (by omega), g 0 25 (by omega) (by omega) (by omega)]; exact h3
    · rw [q 0 11 (by omega), g 0 26 (by omega) (by omega) (by omega)]; exact h4
    · rw [q 0 11 (by omega)] at hi
      rw [q 10 i (by omega), q 11 i (by omega), g 15 i (by omega) (by omega) (by omega), g 16 i (by omega) (by omega) (by omega)]
      exact h5 i hi
    · rw [q 9 j (by omega), g 14 j (by omega) (by omega) (by omega)]; exact (h6 j j1 j2).1
    · rw [q 9 j (by omega)] at hi
      rw [q _ _ (by omega), q _ _ (by omega), g 12 _ (by omega) (by omega) (by omega), g 13 _ (by omega) (by omega) (by omega)]
      exact (h6 j j1 j2).2 i hi
    · rw [if_neg (by omega)] at h7
      rw [q9, if_neg (by decide), g 0 31 (by omega) (by omega) (by omega)]; exact h7
    · rw [q9]; intro z; omega
    · rw [w, gI_sI, if_neg (by omega)]; exact b2
    · rw [w]
      intro i hi
      rw [gI_sI, if_neg (by omega), b3 i hi]
      unfold waySt
      rw [q 0 11 (by omega), if_neg (by omega), q 10 _ (by omega)]
    · exact p1
    · rw [q9]; omega
    · intro i hi
      rw [q 0 11 (by omega)] at hi
      rw [q 10 i (by omega), q 11 i (by omega), q 0 1 (by omega), q 0 8 (by omega)]
      exact p4 i hi
    · rw [q 0 8 (by omega)]; intro z; omega
    · rw [q9]; intro z; omega
theorem PI_sc {M0 M : Ms} {σ τ : Sg} (h : PI M0 σ M τ) (v : Nat) : PI M0 σ (up M 0 10 v) (sI τ 0 25 (nI v)) := by
  obtain ⟨ha, hb, hR, p1, p2, p3, p4, p5, p6⟩ := h
  obtain ⟨h1, h2, h3, h4, h5, h6, h7, h8, h9, h10⟩ := hR
  have q : ∀ a n, ¬ (a = 0 ∧ n = 10) → up M 0 10 v a n = M a n := fun a n z => up_ne _ _ _ _ _ _ z
  have g : ∀ a n, ¬ (a = 0 ∧ n = 25) → gI (sI τ 0 25 (nI v)) a n = gI τ a n := fun a n z1 => by rw [gI_sI, if_neg (by omega)]
  have w : wayN (up M 0 10 v) = wayN M := by unfold wayN; rw [q 0 9 (by omega), q 0 11 (by omega)]
  refine ⟨ha.up (by unfold prM; omega), hb.up (by simp [prS]), ⟨?_, ?_, ?_, ?_, fun i hi => ?_, fun j j1 j2 => ⟨?_, fun i hi => ?_⟩, ?_, ?_, ?_, ?_⟩, p1, p2, fun k hk => WFc_up (p3 k hk) (by decide), p4, p5, p6⟩
  · rw [q 0 8 (by omega), g 0 23 (by omega)]; exact h1
  · rw [q 0 9 (by omega), g 0 24 (by omega)]; exact h2
  · simp [gI_sI, up_at]
  · rw [q 0 11 (by omega), g 0 26 (by omega)]; exact h4
  · rw [q 0 11 (by omega)] at hi
    rw [q 10 i (by omega), q 11 i (by omega), g 15 i (by omega), g 16 i (by omega)]
    exact h5 i hi
  · rw [q 9 j (by omega), g 14 j (by omega)]; exact (h6 j j1 j2).1
  · rw [q 9 j (by omega)] at hi
    rw [q _ _ (by omega), q _ _ (by omega), g 12 _ (by omega), g 13 _ (by omega)]
    exact (h6 j j1 j2).2 i hi
  · rw [q 0 9 (by omega), q 0 12 (by omega), q 9 _ (by omega), g 0 31 (by omega)]; exact h7
  · rw [q 0 9 (by omega), q 0 12 (by omega), q 9 _ (by omega)]
    intro z i hi
    rw [q _ _ (by omega), q _ _ (by omega), g 17 _ (by omega), g 18 _ (by omega)]
    exact h8 z i hi
  · rw [w, g 0 33 (by omega)]; exact h9
  · rw [w]
    intro i hi
    have : waySt (up M 0 10 v) i = waySt M i := by unfold waySt; rw [q 0 11 (by omega), q 0 3 (by omega), q 10 _ (by omega)]
    rw [this, g 19 i (by omega)]
    exact h10 i hi
theorem PI_drop {M0 M : Ms} {σ τ : Sg} (h : PI M0 σ M τ) (he : M 0 9 ≠ 2) (ht : 1 ≤ M 0 11) : PI M0 σ (up M 0 11 (M 0 11 - 1)) (sI τ 0 26 (nI (M 0 11 - 1))) := by
  obtain ⟨ha, hb, hR, p1, p2, p3, p4, p5, p6⟩ := h
  obtain ⟨h1, h2, h3, h4, h5, h6, h7, h8, h9, h10⟩ := hR
  have q : ∀ a n, ¬ (a = 0 ∧ n = 11) → up M 0 11 (M 0 11 - 1) a n = M a n := fun a n z => up_ne _ _ _ _ _ _ z
  have q11 : up M 0 11 (M 0 11 - 1) 0 11 = M 0 11 - 1 := rfl
  have g : ∀ a n, ¬ (a = 0 ∧ n = 26) → gI (sI τ 0 26 (nI (M 0 11 - 1))) a n = gI τ a n := fun a n z1 => by rw [gI_sI, if_neg (by omega)]
  have w : wayN M = 0 := wayN_0 he
  have w' : wayN (up M 0 11 (M 0 11 - 1)) = 0 := wayN_0 (by rw [q 0 9 (by omega)]; exact he)
  refine ⟨ha.up (by unfold prM; omega), hb.up (by simp [prS]), ⟨?_, ?_, ?_, ?_, fun i hi => ?_, fun j j1 j2 => ⟨?_, fun i hi => ?_⟩, ?_, ?_, ?_, ?_⟩, p1, p2, fun k hk => WFc_up (p3 k hk) (by decide), ?_, ?_, p6⟩
  · rw [q 0 8 (by omega), g 0 23 (by omega)]; exact h1
  · rw [q 0 9 (by omega), g 0 24 (by omega)]; exact h2
  · rw [q 0 10 (by omega), g 0 25 (by omega)]; exact h3
  · rw [q11]; simp [gI_sI]
  · rw [q11] at hi
    rw [q 10 i (by omega), q 11 i (by omega), g 15 i (by omega), g 16 i (by omega)]
    exact h5 i (by omega)
  · rw [q 9 j (by omega), g 14 j (by omega)]; exact (h6 j j1 j2).1
  · rw [q 9 j (by omega)] at hi
    rw [q _ _ (by omega), q _ _ (by omega), g 12 _ (by omega), g 13 _ (by omega)]
    exact (h6 j j1 j2).2 i hi
  · rw [q 0 9 (by omega), q 0 12 (by omega), q 9 _ (by omega), g 0 31 (by omega)]; exact h7
  · rw [q 0 9 (by omega), q 0 12 (by omega), q 9 _ (by omega)]
    intro z i hi
    rw [q _ _ (by omega), q _ _ (by omega), g 17 _ (by omega), g 18 _ (by omega)]
    exact h8 z i hi
  · rw [w', g 0 33 (by omega)]; rw [w] at h9; exact h9
  · rw [w']; intro i hi; omega
  · intro i hi
    rw [q11] at hi
    rw [q 10 i (by omega), q 11 i (by omega), q 0 1 (by omega), q 0 8 (by omega)]
    exact p4 i (by omega)
  · rw [q 0 8 (by omega), q 0 9 (by omega), q11]
    intro z
    have := p5 z
    omega
theorem keepTo_0 (M : Ms) (m v : Nat) : ∀ i, i ≤ 24 → (∀ j, keepTo M m v i 0 j = M 0 j) ∧ (∀ j, keepTo M m v i 9 j = if 1 ≤ j ∧ j ≤ i then M 9 j + 1 else M 9 j)
  | 0, _ => ⟨fun _ => rfl, fun j => by rw [if_neg (by omega)]; rfl⟩
  | i + 1, h => by
    obtain ⟨i1, i2⟩ := keepTo_0 M m v i (by omega)
    refine ⟨fun j => by show keepM _ _ _ _ 0 j = _; rw [keepM_0]; exact i1 j, fun j => ?_⟩
    show keepM _ _ _ _ 9 j = _
    rw [keepM_9, i2, i2]
    by_cases e : j = i + 1
    · subst e
      rw [if_pos rfl, if_neg (by omega), if_pos (by omega)]
    · rw [if_neg e]
      by_cases e2 : 1 ≤ j ∧ j ≤ i
      · rw [if_pos e2, if_pos (by omega)]
      · rw [if_neg e2, if_neg (by omega)]
theorem inFr_0 {M : Ms} {s : Nat} : inFrB M 0 s = decide (s = M 0 3) := by unfold inFrB; rw [if_pos rfl]
theorem sp_lookAt {M0 M : Ms} {σ τ : Sg} {Q : Sg → Prop} (h : PI M0 σ M τ) (h0 : PB M0 σ) (hN : 1 ≤ M 0 8) (he : M 0 9 = 0) (ht : 1 ≤ M 0 11) (hq : ∀ υ, PI M0 σ (lookM M) υ → Q υ) : wp_X10_lookAt τ Q := by
  have hlk : lookM M = (let M1 := up M 0 10 (M 0 10 + 1); let s := M1 10 (M1 0 11 - 1); let k := M1 11 (M1 0 11 - 1)
    if s = M1 0 3 then up M1 0 9 2
    else if inFrB M1 k s = false then up M1 0 11 (M1 0 11 - 1)
    else if askN M1 (k - 1) (fullN M1) s ≠ 0 then meetM M1 (askN M1 (k - 1) (fullN M1) s - 1) (k - 1)
    else if allN k (fun i => decide (M1 9 (i + 1) < 200)) = true then up (keepTo M1 (widN M1 k (fullN M1) s (M1 0 1)) (s &&& widN M1 k (fullN M1) s (M1 0 1)) k) 0 11 (M1 0 11 - 1)
    else up M1 0 9 3) := rfl
  have h25 := h.2.2.1.2.2.1
  have h26' := h.2.2.1.2.2.2.1
  have hI := PI_sc h (M 0 10 + 1)
  rw [hlk] at hq
  dsimp only at hq
  have e8 : up M 0 10 (M 0 10 + 1) 0 8 = M 0 8 := rfl
  have e9 : up M 0 10 (M 0 10 + 1) 0 9 = M 0 9 := rfl
  have e11 : up M 0 10 (M 0 10 + 1) 0 11 = M 0 11 := rfl
  generalize hM1 : up M 0 10 (M 0 10 + 1) = M1 at hq hI e8 e9 e11
  generalize hτ1 : sI τ 0 25 (nI (M 0 10 + 1)) = υ at hI
  have hWm := hI.wf h0
  have hRm := hI.rm h0
  have hRc := hI.rmc h0
  have hT := hI.tb h0
  have h256 := pow_le8 hWm.2.1
  have hf := hWm.2.2.2.2.2.1
  have hP := hI.2.2.2
  have hN23 := hP.1
  obtain ⟨p4a, p4b⟩ := hP.2.2.2.1 (M1 0 11 - 1) (by omega)
  obtain ⟨c15, c16⟩ := hI.2.2.1.2.2.2.2.1 (M1 0 11 - 1) (by omega)
  have h26 := hI.2.2.1.2.2.2.1
  intro L109 L160 h109 h160
  generalize hs : M1 10 (M1 0 11 - 1) = s at hq p4a c15
  generalize hk : M1 11 (M1 0 11 - 1) = k at hq p4b c16
  simp +decide (disch := omega) only [lit, lit_neg, i_add, i_mul, i_sub, i_div, i_and, i_or, i_shl1, Nat.one_mul, i_shr1, i_bit1, i_lt, i_eq, i_in, i_cl, i_0, gI_sI, bi_0n, bi_1n, nz_bi, nz_0n, nz_1n, vn_0n, vn_1n, vn_bi, and_true, true_and, not_false_eq_true, not_true_eq_false, false_implies, true_implies, forall_const, implies_true, ite_true, ite_false, Bool.not_eq_true, Bool.not_eq_false, and_false, false_and, if_true, if_false, if_pos, true_or, or_true, false_or, or_false, h25, hτ1]
  simp +decide (disch := omega) only [lit, lit_neg, i_add, i_mul, i_sub, i_div, i_and, i_or, i_shl1, Nat.one_mul, i_shr1, i_bit1, i_lt, i_eq, i_in, i_cl, i_0, gI_sI, bi_0n, bi_1n, nz_bi, nz_0n, nz_1n, vn_0n, vn_1n, vn_bi, and_true, true_and, not_false_eq_true, not_true_eq_false, false_implies, true_implies, forall_const, implies_true, ite_true, ite_false, Bool.not_eq_true, Bool.not_eq_false, and_false, false_and, if_true, if_false, if_pos, true_or, or_true, false_or, or_false, h26, c15, c16, hRm.2.2.2.1, show M1 0 11 - 1 < 40 by omega]
  refine ⟨fun q => ?_, fun q => ?_⟩
  · refine sp_tellWay hI h0 (by omega) (by omega) (by omega) (fun ω hω => hq ω ?_)
    rw [if_pos q]
    exact hω
  · rw [if_neg q] at hq
    refine sp_inFrame hWm hP hRm hI.2.2.1 (by omega) (by omega) ?_
    simp +decide (disch := omega) only [lit, lit_neg, i_add, i_mul, i_sub, i_div, i_and, i_or, i_shl1, Nat.one_mul, i_shr1, i_bit1, i_lt, i_eq, i_in, i_cl, i_0, gI_sI, bi_0n, bi_1n, nz_bi, nz_0n, nz_1n, vn_0n, vn_1n, vn_bi, and_true, true_and, not_false_eq_true, not_true_eq_false, false_implies, true_implies, forall_const, implies_true, ite_true, ite_false, Bool.not_eq_true, Bool.not_eq_false, and_false, false_and, if_true, if_false, if_pos, true_or, or_true, false_or, or_false]
    refine ⟨fun q2 => ?_, fun q2 => ?_⟩
    · refine hq _ ?_
      rw [if_pos q2]
      exact PI_drop hI (by omega) (by omega)
    · have hk1 : 1 ≤ k := by
        rcases Nat.eq_zero_or_pos k with z | z
        · subst z
          rw [inFr_0] at q2
          exact absurd (of_decide_eq_true q2) q
        · exact z
      rw [if_neg (by rw [q2]; decide)] at hq
      simp +decide (disch := omega) only [lit, lit_neg, i_add, i_mul, i_sub, i_div, i_and, i_or, i_shl1, Nat.one_mul, i_shr1, i_bit1, i_lt, i_eq, i_in, i_cl, i_0, gI_sI, bi_0n, bi_1n, nz_bi, nz_0n, nz_1n, vn_0n, vn_1n, vn_bi, and_true, true_and, not_false_eq_true, not_true_eq_false, false_implies, true_implies, forall_const, implies_true, ite_true, ite_false, Bool.not_eq_true, Bool.not_eq_false, and_false, false_and, if_true, if_false, if_pos, true_or, or_true, false_or, or_false]
      refine sp_forerunner hWm hP hRc hT (by omega) p4a ?_
      have hal := askN_le M1 (k - 1) (fullN M1) s
      simp +decide (disch := omega) only [lit, lit_neg, i_add, i_mul, i_sub, i_div, i_and, i_or, i_shl1, Nat.one_mul, i_shr1, i_bit1, i_lt, i_eq, i_in, i_cl, i_0, gI_sI, bi_0n, bi_1n, nz_bi, nz_0n, nz_1n, vn_0n, vn_1n, vn_bi, and_true, true_and, not_false_eq_true, not_true_eq_false, false_implies, true_implies, forall_const, implies_true, ite_true, ite_false, Bool.not_eq_true, Bool.not_eq_false, and_false, false_and, if_true, if_false, if_pos, true_or, or_true, false_or, or_false, e1_lt0]
      refine ⟨fun q3 => ?_, fun q3 => ?_⟩
      · rw [if_neg (by omega)] at hq
        refine sp_states hWm hRm ?_
        have hpos : 0 < 2 ^ M1 0 1 := Nat.pow_pos (by decide)
        simp +decide (disch := omega) only [lit, lit_neg, i_add, i_mul, i_sub, i_div, i_and, i_or, i_shl1, Nat.one_mul, i_shr1, i_bit1, i_lt, i_eq, i_in, i_cl, i_0, gI_sI, bi_0n, bi_1n, nz_bi, nz_0n, nz_1n, vn_0n, vn_1n, vn_bi, and_true, true_and, not_false_eq_true, not_true_eq_false, false_implies, true_implies, forall_const, implies_true, ite_true, ite_false, Bool.not_eq_true, Bool.not_eq_false, and_false, false_and, if_true, if_false, if_pos, true_or, or_true, false_or, or_false]
        rw [show 2 ^ M1 0 1 - 1 = fullN M1 from rfl]
        have hfl : fullN M1 < 2 ^ M1 0 1 := by unfold fullN; omega
        refine sp_widened hWm hP hRc hT hk1 (by omega) hfl (by omega) ?_
        have hml := widN_lt (M := M1) (k := k) (v := s) hfl (M1 0 1)
        generalize widN M1 k (fullN M1) s (M1 0 1) = mk at hq hml
        have second : allN k (fun i => decide (M1 9 (i + 1) < 200)) = true → L160 (nI s) (nI k) (nI mk) (nI 1) υ := by
          intro hall
          rw [if_pos hall] at hq
          have hv : (s &&& mk) &&& mk = s &&& mk := by rw [Nat.and_assoc, Nat.and_self]
          refine up_loopS (L := fun i ω => L160 (nI s) (nI k) (nI mk) i ω) (I := fun i ω => 1 ≤ i ∧ PI M0 σ (keepTo M1 mk (s &&& mk) (i - 1)) ω) (k + 1) ?_ ?_ 1 υ (by omega) ⟨by omega, hI⟩
          · intro i ω hi ⟨hi1, hω⟩ nx
            apply h160
            obtain ⟨z0, z9⟩ := keepTo_0 M1 mk (s &&& mk) (i - 1) (by omega)
            simp +decide (disch := omega) only [lit, lit_neg, i_add, i_mul, i_sub, i_div, i_and, i_or, i_shl1, Nat.one_mul, i_shr1, i_bit1, i_lt, i_eq, i_in, i_cl, i_0, gI_sI, bi_0n, bi_1n, nz_bi, nz_0n, nz_1n, vn_0n, vn_1n, vn_bi, and_true, true_and, not_false_eq_true, not_true_eq_false, false_implies, true_implies, forall_const, implies_true, ite_true, ite_false, Bool.not_eq_true, Bool.not_eq_false, and_false, false_and, if_true, if_false, if_pos, true_or, or_true, false_or, or_false, show ¬ k < i by omega]
            refine sp_keep hω (by rw [z0]; omega) hi1 (by omega) ?_ (by rw [z0]; exact hml) hv (fun ψ hψ => nx ψ ⟨by omega, ?_⟩)
            · rw [z9, if_neg (by omega)]
              have := allN_iff.mp hall (i - 1) (by omega)
              rw [show i - 1 + 1 = i by omega] at this
              exact of_decide_eq_true this
            · have : keepTo M1 mk (s &&& mk) (i + 1 - 1) = keepM (keepTo M1 mk (s &&& mk) (i - 1)) i mk (s &&& mk) := by
                obtain ⟨i, rfl⟩ : ∃ j, i = j + 1 := ⟨i - 1, by omega⟩
                rfl
              rw [this]
              exact hψ
          · intro ω ⟨_, hω⟩
            apply h160
            rw [Nat.add_sub_cancel] at hω
            obtain ⟨z0, z9⟩ := keepTo_0 M1 mk (s &&& mk) k (by omega)
            have g26 := hω.2.2.1.2.2.2.1
            rw [z0] at g26
            simp +decide (disch := omega) only [lit, lit_neg, i_add, i_mul, i_sub, i_div, i_and, i_or, i_shl1, Nat.one_mul, i_shr1, i_bit1, i_lt, i_eq, i_in, i_cl, i_0, gI_sI, bi_0n, bi_1n, nz_bi, nz_0n, nz_1n, vn_0n, vn_1n, vn_bi, and_true, true_and, not_false_eq_true, not_true_eq_false, false_implies, true_implies, forall_const, implies_true, ite_true, ite_false, Bool.not_eq_true, Bool.not_eq_false, and_false, false_and, if_true, if_false, if_pos, true_or, or_true, false_or, or_false, show k < k + 1 by omega, g26]
            refine hq _ ?_
            have := PI_drop hω (by rw [z0]; omega) (by rw [z0]; omega)
            rw [z0] at this
            exact this
        refine up_loopS (L := fun i x => L109 (nI s) (nI k) (nI mk) x i υ) (I := fun i x => 1 ≤ i ∧ x = bi (allN (i - 1) (fun i => decide (M1 9 (i + 1) < 200)))) (k + 1) ?_ ?_ 1 _ (by omega) ⟨by omega, rfl⟩
        · intro i x hi ⟨hi1, hx⟩ nx
          subst hx
          apply h109
          have c14 := (hI.2.2.1.2.2.2.2.2.1 i hi1 (by omega)).1
          have hcl := (hP.2.2.1 i (by omega)).1
          have hst : allN (i + 1 - 1) (fun i => decide (M1 9 (i + 1) < 200)) = (allN (i - 1) (fun i => decide (M1 9 (i + 1) < 200)) && decide (M1 9 i < 200)) := by
            obtain ⟨i, rfl⟩ : ∃ j, i = j + 1 := ⟨i - 1, by omega⟩
            rfl
          simp +decide (disch := omega) only [lit, lit_neg, i_add, i_mul, i_sub, i_div, i_and, i_or, i_shl1, Nat.one_mul, i_shr1, i_bit1, i_lt, i_eq, i_in, i_cl, i_0, gI_sI, bi_0n, bi_1n, nz_bi, nz_0n, nz_1n, vn_0n, vn_1n, vn_bi, and_true, true_and, not_false_eq_true, not_true_eq_false, false_implies, true_implies, forall_const, implies_true, ite_true, ite_false, Bool.not_eq_true, Bool.not_eq_false, and_false, false_and, if_true, if_false, if_pos, true_or, or_true, false_or, or_false, show ¬ k < i by omega, c14, show i < 25 by omega]
          refine ⟨fun z => nx _ ⟨by omega, by rw [hst, z]; rfl⟩, fun z => ⟨fun z2 => nx _ ⟨by omega, by rw [hst, z]; simp [z2, bi_tn]⟩, fun z2 => nx _ ⟨by omega, by rw [hst, z]; simp [z2, bi_fn]⟩⟩⟩
        · intro x ⟨_, hx⟩
          subst hx
          rw [Nat.add_sub_cancel]
          apply h109
          simp +decide (disch := omega) only [lit, lit_neg, i_add, i_mul, i_sub, i_div, i_and, i_or, i_shl1, Nat.one_mul, i_shr1, i_bit1, i_lt, i_eq, i_in, i_cl, i_0, gI_sI, bi_0n, bi_1n, nz_bi, nz_0n, nz_1n, vn_0n, vn_1n, vn_bi, and_true, true_and, not_false_eq_true, not_true_eq_false, false_implies, true_implies, forall_const, implies_true, ite_true, ite_false, Bool.not_eq_true, Bool.not_eq_false, and_false, false_and, if_true, if_false, if_pos, true_or, or_true, false_or, or_false, show k < k + 1 by omega]
          refine ⟨fun z => hq _ ?_, fun z => second z⟩
          rw [if_neg (by rw [z]; decide)]
          exact PI_end hI (by omega) (by omega)
      · rw [if_pos q3] at hq
        rw [e1_p (by omega)]
        exact sp_meet hI (by omega) (by omega) (by omega) (by omega) hq
