/-! the reference: questions about frames -/
theorem decide_br {p : Prop} [Decidable p] {A B : Prop} (h1 : p → A) (h2 : ¬ p → B) : (p → A) ∧ (¬ p → B) := ⟨h1, h2⟩
theorem sp_inCube {σ : Sg} {s m v : Nat} {Q : Int32 → Prop} (hs : s < 65536) (hv : v < 65536) (hq : Q (bi (inCubeB s m v))) : wp_X10_isInCube (nI s) (nI m) (nI v) σ Q := by
  have h := Nat.and_le_left (n := s) (m := m)
  unfold wp_X10_isInCube
  simp +decide (disch := omega) only [lit, lit_neg, i_add, i_mul, i_sub, i_div, i_and, i_or, i_shl1, Nat.one_mul, i_shr1, i_bit1, i_lt, i_eq, i_in, i_cl, i_0, gI_sI, bi_0n, bi_1n, nz_bi, nz_0n, nz_1n, vn_0n, vn_1n, vn_bi, and_true, true_and, not_false_eq_true, not_true_eq_false, false_implies, true_implies, forall_const, implies_true, ite_true, ite_false, Bool.not_eq_true, Bool.not_eq_false, and_false, false_and, if_true, if_false, if_pos, true_or, or_true, false_or, or_false]
  exact ⟨fun e => by simpa [inCubeB, e, bi_tn, bi_fn] using hq, fun e => by simpa [inCubeB, e, bi_tn, bi_fn] using hq⟩
theorem and_eq_le {v m n : Nat} (h : v &&& m = v) (hm : m < n) : v < n := by
  have := Nat.and_le_right (n := v) (m := m)
  omega
theorem sp_inFrame {M : Ms} {σ : Sg} {k s : Nat} {Q : Int32 → Prop} (hW : WFm M) (hP : WFp M) (hR : RMm M σ) (hR2 : RPr M σ) (hk : k ≤ 24) (hs : s < 65536) (hq : Q (bi (inFrB M k s))) : wp_X10_isInFrame (nI s) (nI k) σ Q := by
  have h256 := pow_le8 hW.2.1
  have hf := hW.2.2.2.2.2.1
  intro L20 h20
  obtain ⟨-, -, -, r8, -⟩ := hR
  by_cases h0 : k = 0
  · subst h0
    simp +decide (disch := omega) only [lit, lit_neg, i_add, i_mul, i_sub, i_div, i_and, i_or, i_shl1, Nat.one_mul, i_shr1, i_bit1, i_lt, i_eq, i_in, i_cl, i_0, gI_sI, bi_0n, bi_1n, nz_bi, nz_0n, nz_1n, vn_0n, vn_1n, vn_bi, and_true, true_and, not_false_eq_true, not_true_eq_false, false_implies, true_implies, forall_const, implies_true, ite_true, ite_false, Bool.not_eq_true, Bool.not_eq_false, and_false, false_and, if_true, if_false, if_pos, true_or, or_true, false_or, or_false, r8]
    exact ⟨fun e => by simpa [inFrB, e, bi_tn, bi_fn] using hq, fun e => by simpa [inFrB, e, bi_tn, bi_fn] using hq⟩
  · simp +decide (disch := omega) only [lit, lit_neg, i_add, i_mul, i_sub, i_div, i_and, i_or, i_shl1, Nat.one_mul, i_shr1, i_bit1, i_lt, i_eq, i_in, i_cl, i_0, gI_sI, bi_0n, bi_1n, nz_bi, nz_0n, nz_1n, vn_0n, vn_1n, vn_bi, and_true, true_and, not_false_eq_true, not_true_eq_false, false_implies, true_implies, forall_const, implies_true, ite_true, ite_false, Bool.not_eq_true, Bool.not_eq_false, and_false, false_and, if_true, if_false, if_pos, true_or, or_true, false_or, or_false, h0]
    obtain ⟨c1, c2⟩ := hR2.2.2.2.2.2.1 k (by omega) hk
    obtain ⟨g1, g2⟩ := hP.2.2.1 k hk
    have hq' : Q (bi (!anyN (M 9 k) (fun i => inCubeB s (M (100 + k) i) (M (200 + k) i)))) := by simpa [inFrB, h0] using hq
    refine up_loop (I := fun i => ∀ j, j < i → inCubeB s (M (100 + k) j) (M (200 + k) j) = false) (M 9 k) ?_ ?_ 0 (Nat.zero_le _) (fun j hj => absurd hj (by omega))
    · intro i hi hI nx
      apply h20
      obtain ⟨m1, m2⟩ := g2 i hi
      have m3 := and_eq_le m2 m1
      simp +decide (disch := omega) only [lit, lit_neg, i_add, i_mul, i_sub, i_div, i_and, i_or, i_shl1, Nat.one_mul, i_shr1, i_bit1, i_lt, i_eq, i_in, i_cl, i_0, gI_sI, bi_0n, bi_1n, nz_bi, nz_0n, nz_1n, vn_0n, vn_1n, vn_bi, and_true, true_and, not_false_eq_true, not_true_eq_false, false_implies, true_implies, forall_const, implies_true, ite_true, ite_false, Bool.not_eq_true, Bool.not_eq_false, and_false, false_and, if_true, if_false, if_pos, true_or, or_true, false_or, or_false, c1, hi, show k < 25 by omega, show 200 * k + i < 5000 by omega, (c2 i hi).1, (c2 i hi).2]
      refine sp_inCube hs (by omega) ?_
      simp +decide (disch := omega) only [lit, lit_neg, i_add, i_mul, i_sub, i_div, i_and, i_or, i_shl1, Nat.one_mul, i_shr1, i_bit1, i_lt, i_eq, i_in, i_cl, i_0, gI_sI, bi_0n, bi_1n, nz_bi, nz_0n, nz_1n, vn_0n, vn_1n, vn_bi, and_true, true_and, not_false_eq_true, not_true_eq_false, false_implies, true_implies, forall_const, implies_true, ite_true, ite_false, Bool.not_eq_true, Bool.not_eq_false, and_false, false_and, if_true, if_false, if_pos, true_or, or_true, false_or, or_false]
      refine ⟨fun e => nx (fun j hj => ?_), fun e => ?_⟩
      · by_cases e2 : j = i
        · subst e2; exact e
        · exact hI j (by omega)
      · have : anyN (M 9 k) (fun i => inCubeB s (M (100 + k) i) (M (200 + k) i)) = true := anyN_iff.mpr ⟨i, hi, e⟩
        rw [this] at hq'
        exact hq'
    · intro hI
      apply h20
      simp +decide (disch := omega) only [lit, lit_neg, i_add, i_mul, i_sub, i_div, i_and, i_or, i_shl1, Nat.one_mul, i_shr1, i_bit1, i_lt, i_eq, i_in, i_cl, i_0, gI_sI, bi_0n, bi_1n, nz_bi, nz_0n, nz_1n, vn_0n, vn_1n, vn_bi, and_true, true_and, not_false_eq_true, not_true_eq_false, false_implies, true_implies, forall_const, implies_true, ite_true, ite_false, Bool.not_eq_true, Bool.not_eq_false, and_false, false_and, if_true, if_false, if_pos, true_or, or_true, false_or, or_false, c1, Nat.lt_irrefl, show k < 25 by omega]
      have : anyN (M 9 k) (fun i => inCubeB s (M (100 + k) i) (M (200 + k) i)) = false := anyN_f.mpr hI
      rw [this] at hq'
      exact hq'
/-- a boolean gathered by 'or' over choices -/
theorem or_loop {L : Int32 → Int32 → Prop} {n : Nat} {f : Nat → Bool} (step : ∀ i b, i < n → b = anyN i f → L (bi (b || f i)) (nI (i + 1)) → L (bi b) (nI i)) (exit : L (bi (anyN n f)) (nI n)) : L (nI 0) (nI 0) := by
  refine up_loopS (L := fun i x => L x i) (I := fun i x => x = bi (anyN i f)) n ?_ ?_ 0 _ (Nat.zero_le _) rfl
  · intro i x hi hx k
    subst hx
    exact step i _ hi rfl (k _ rfl)
  · intro x hx
    subst hx
    exact exit
theorem and_loop {L : Int32 → Int32 → Prop} {n : Nat} {f : Nat → Bool} (step : ∀ i b, i < n → b = allN i f → L (bi (b && f i)) (nI (i + 1)) → L (bi b) (nI i)) (exit : L (bi (allN n f)) (nI n)) : L (nI 1) (nI 0) := by
  refine up_loopS (L := fun i x => L x i) (I := fun i x => x = bi (allN i f)) n ?_ ?_ 0 _ (Nat.zero_le _) rfl
  · intro i x hi hx k
    subst hx
    exact step i _ hi rfl (k _ rfl)
  · intro x hx
    subst hx
    exact exit
theorem e1_eq {a b : Nat} (ha : a < 2147483648) (hb : b < 2147483647) : (e1 a = nI b) = (a = b + 1) := by
  cases a with
  | zero =>
    refine propext ⟨fun h => ?_, fun h => absurd h (by omega)⟩
    have h2 := nI_pos (n := b) (by omega)
    rw [← h] at h2
    exact absurd (by decide : e1 0 < 0) h2
  | succ a => rw [e1_s, i_eq (by omega) (by omega)]; simp
theorem toN_lt (M : Ms) (s c : Nat) : toN M s c ≤ 2 ^ M 0 1 := by
  unfold toN
  have := nxtN_lt M s c
  split <;> omega
theorem sp_isBad {M : Ms} {σ : Sg} {s : Nat} {Q : Int32 → Prop} (hW : WFm M) (hR : RMm M σ) (hT : TB M σ) (hs : s < 2 ^ M 0 1) (hq : Q (bi (isBadS M s))) : wp_X10_isBadState (nI s) σ Q := by
  have h256 := pow_le8 hW.2.1
  have h16 := pow_le4 hW.2.2.1
  intro L4 h4
  refine or_loop (n := 2 ^ M 0 2) (f := fun c => badB M s c) (fun c b hc hb k => ?_) ?_
  · apply h4
    refine sp_ways hW hR ?_
    simp +decide (disch := omega) only [lit, lit_neg, i_add, i_mul, i_sub, i_div, i_and, i_or, i_shl1, Nat.one_mul, i_shr1, i_bit1, i_lt, i_eq, i_in, i_cl, i_0, gI_sI, bi_0n, bi_1n, nz_bi, nz_0n, nz_1n, vn_0n, vn_1n, vn_bi, and_true, true_and, not_false_eq_true, not_true_eq_false, false_implies, true_implies, forall_const, implies_true, ite_true, ite_false, Bool.not_eq_true, Bool.not_eq_false, and_false, false_and, if_true, if_false, if_pos, true_or, or_true, false_or, or_false, hc, show 16 * s + c < 4096 by omega, (hT s c hs hc).2.1]
    cases b
    · refine ⟨fun _ => ⟨fun e => ?_, fun e => ?_⟩, (fun e => by cases e)⟩
      · rw [e] at k; exact k
      · rw [e] at k; exact k
    · exact ⟨(fun e => by cases e), fun _ => k⟩
  · apply h4
    refine sp_ways hW hR ?_
    simp +decide (disch := omega) only [lit, lit_neg, i_add, i_mul, i_sub, i_div, i_and, i_or, i_shl1, Nat.one_mul, i_shr1, i_bit1, i_lt, i_eq, i_in, i_cl, i_0, gI_sI, bi_0n, bi_1n, nz_bi, nz_0n, nz_1n, vn_0n, vn_1n, vn_bi, and_true, true_and, not_false_eq_true, not_true_eq_false, false_implies, true_implies, forall_const, implies_true, ite_true, ite_false, Bool.not_eq_true, Bool.not_eq_false, and_false, false_and, if_true, if_false, if_pos, true_or, or_true, false_or, or_false, Nat.lt_irrefl]
    exact hq
theorem sp_leads {M : Ms} {σ : Sg} {s t : Nat} {Q : Int32 → Prop} (hW : WFm M) (hR : RMm M σ) (hT : TB M σ) (hs : s < 2 ^ M 0 1) (ht : t < 65536) (hq : Q (bi (ldsB M s t))) : wp_X10_leads (nI s) (nI t) σ Q := by
  have h256 := pow_le8 hW.2.1
  have h16 := pow_le4 hW.2.2.1
  intro L4 h4
  refine or_loop (n := 2 ^ M 0 2) (f := fun c => rightB M s c && decide (nxtN M s c = t)) (fun c b hc hb k => ?_) ?_
  · apply h4
    refine sp_ways hW hR ?_
    have hn := toN_lt M s c
    simp +decide (disch := omega) only [lit, lit_neg, i_add, i_mul, i_sub, i_div, i_and, i_or, i_shl1, Nat.one_mul, i_shr1, i_bit1, i_lt, i_eq, i_in, i_cl, i_0, gI_sI, bi_0n, bi_1n, nz_bi, nz_0n, nz_1n, vn_0n, vn_1n, vn_bi, and_true, true_and, not_false_eq_true, not_true_eq_false, false_implies, true_implies, forall_const, implies_true, ite_true, ite_false, Bool.not_eq_true, Bool.not_eq_false, and_false, false_and, if_true, if_false, if_pos, true_or, or_true, false_or, or_false, hc, show 16 * s + c < 4096 by omega, (hT s c hs hc).1, e1_eq]
    cases b
    · have h : (rightB M s c && decide (nxtN M s c = t)) = decide (toN M s c = t + 1) := by
        unfold toN
        cases rightB M s c <;> simp
      rw [h] at k
      refine ⟨fun _ => ⟨fun e => ?_, fun e => ?_⟩, (fun e => by cases e)⟩
      · simpa [e, bi_tn, bi_fn] using k
      · simpa [e, bi_tn, bi_fn] using k
    · exact ⟨(fun e => by cases e), fun _ => k⟩
  · apply h4
    refine sp_ways hW hR ?_
    simp +decide (disch := omega) only [lit, lit_neg, i_add, i_mul, i_sub, i_div, i_and, i_or, i_shl1, Nat.one_mul, i_shr1, i_bit1, i_lt, i_eq, i_in, i_cl, i_0, gI_sI, bi_0n, bi_1n, nz_bi, nz_0n, nz_1n, vn_0n, vn_1n, vn_bi, and_true, true_and, not_false_eq_true, not_true_eq_false, false_implies, true_implies, forall_const, implies_true, ite_true, ite_false, Bool.not_eq_true, Bool.not_eq_false, and_false, false_and, if_true, if_false, if_pos, true_or, or_true, false_or, or_false, Nat.lt_irrefl]
    exact hq
theorem sp_ldInto {M : Ms} {σ : Sg} {s m v : Nat} {Q : Int32 → Prop} (hW : WFm M) (hR : RMm M σ) (hT : TB M σ) (hs : s < 2 ^ M 0 1) (hv : v < 65536) (hq : Q (bi (ldIntoB M s m v))) : wp_X10_leadsInto (nI s) (nI m) (nI v) σ Q := by
  have h256 := pow_le8 hW.2.1
  have h16 := pow_le4 hW.2.2.1
  intro L4 h4
  refine or_loop (n := 2 ^ M 0 2) (f := fun c => rightB M s c && inCubeB (nxtN M s c) m v) (fun c b hc hb k => ?_) ?_
  · apply h4
    refine sp_ways hW hR ?_
    have hn := toN_lt M s c
    have hn2 := nxtN_lt M s c
    simp +decide (disch := omega) only [lit, lit_neg, i_add, i_mul, i_sub, i_div, i_and, i_or, i_shl1, Nat.one_mul, i_shr1, i_bit1, i_lt, i_eq, i_in, i_cl, i_0, gI_sI, bi_0n, bi_1n, nz_bi, nz_0n, nz_1n, vn_0n, vn_1n, vn_bi, and_true, true_and, not_false_eq_true, not_true_eq_false, false_implies, true_implies, forall_const, implies_true, ite_true, ite_false, Bool.not_eq_true, Bool.not_eq_false, and_false, false_and, if_true, if_false, if_pos, true_or, or_true, false_or, or_false, hc, show 16 * s + c < 4096 by omega, (hT s c hs hc).1, e1_lt0]
    cases b
    · refine ⟨fun _ => ⟨fun e => ?_, fun e => ?_⟩, (fun e => by cases e)⟩
      · have h : rightB M s c = false := by
          cases hr : rightB M s c
          · rfl
          · simp [toN, hr] at e
        rw [h] at k
        exact k
      · have h : rightB M s c = true := by
          cases hr : rightB M s c
          · simp [toN, hr] at e
          · rfl
        rw [show e1 (toN M s c) = nI (nxtN M s c) by simp [toN, h, e1_s]]
        refine sp_inCube (by omega) hv ?_
        simp +decide (disch := omega) only [lit, lit_neg, i_add, i_mul, i_sub, i_div, i_and, i_or, i_shl1, Nat.one_mul, i_shr1, i_bit1, i_lt, i_eq, i_in, i_cl, i_0, gI_sI, bi_0n, bi_1n, nz_bi, nz_0n, nz_1n, vn_0n, vn_1n, vn_bi, and_true, true_and, not_false_eq_true, not_true_eq_false, false_implies, true_implies, forall_const, implies_true, ite_true, ite_false, Bool.not_eq_true, Bool.not_eq_false, and_false, false_and, if_true, if_false, if_pos, true_or, or_true, false_or, or_false]
        rw [h] at k
        exact ⟨fun e => by rw [e] at k; exact k, fun e => by rw [e] at k; exact k⟩
    · exact ⟨(fun e => by cases e), fun _ => k⟩
  · apply h4
    refine sp_ways hW hR ?_
    simp +decide (disch := omega) only [lit, lit_neg, i_add, i_mul, i_sub, i_div, i_and, i_or, i_shl1, Nat.one_mul, i_shr1, i_bit1, i_lt, i_eq, i_in, i_cl, i_0, gI_sI, bi_0n, bi_1n, nz_bi, nz_0n, nz_1n, vn_0n, vn_1n, vn_bi, and_true, true_and, not_false_eq_true, not_true_eq_false, false_implies, true_implies, forall_const, implies_true, ite_true, ite_false, Bool.not_eq_true, Bool.not_eq_false, and_false, false_and, if_true, if_false, if_pos, true_or, or_true, false_or, or_false, Nat.lt_irrefl]
    exact hq
theorem sp_asked {M : Ms} {σ : Sg} {k m v : Nat} {Q : Int32 → Prop} (hW : WFm M) (hP : WFp M) (hR : RMc M σ) (hT : TB M σ) (hk : k ≤ 24) (hv : v < 65536) (hq : Q (e1 (askN M k m v))) : wp_X10_asked (nI k) (nI m) (nI v) σ Q := by
  have h256 := pow_le8 hW.2.1
  intro L3 h3
  refine up_loop (I := fun i => ∀ j, j < i → (!inCubeB j m v && (inFrB M k j && ldIntoB M j m v)) = false) (2 ^ M 0 1) ?_ ?_ 0 (Nat.zero_le _) (fun j hj => absurd hj (by omega))
  · intro i hi hI nx
    apply h3
    refine sp_states hW hR.1 ?_
    simp +decide (disch := omega) only [lit, lit_neg, i_add, i_mul, i_sub, i_div, i_and, i_or, i_shl1, Nat.one_mul, i_shr1, i_bit1, i_lt, i_eq, i_in, i_cl, i_0, gI_sI, bi_0n, bi_1n, nz_bi, nz_0n, nz_1n, vn_0n, vn_1n, vn_bi, and_true, true_and, not_false_eq_true, not_true_eq_false, false_implies, true_implies, forall_const, implies_true, ite_true, ite_false, Bool.not_eq_true, Bool.not_eq_false, and_false, false_and, if_true, if_false, if_pos, true_or, or_true, false_or, or_false, hi]
    have nx' : (!inCubeB i m v && (inFrB M k i && ldIntoB M i m v)) = false → L3 (nI (i + 1)) := fun e => nx (fun j hj => by
      by_cases e2 : j = i
      · subst e2; exact e
      · exact hI j (by omega))
    refine sp_inCube (by omega) hv ?_
    simp +decide (disch := omega) only [lit, lit_neg, i_add, i_mul, i_sub, i_div, i_and, i_or, i_shl1, Nat.one_mul, i_shr1, i_bit1, i_lt, i_eq, i_in, i_cl, i_0, gI_sI, bi_0n, bi_1n, nz_bi, nz_0n, nz_1n, vn_0n, vn_1n, vn_bi, and_true, true_and, not_false_eq_true, not_true_eq_false, false_implies, true_implies, forall_const, implies_true, ite_true, ite_false, Bool.not_eq_true, Bool.not_eq_false, and_false, false_and, if_true, if_false, if_pos, true_or, or_true, false_or, or_false]
    refine ⟨fun e => sp_inFrame hW hP hR.1 hR.2.1 hk (by omega) ?_, fun e => nx' (by simp [e])⟩
    simp +decide (disch := omega) only [lit, lit_neg, i_add, i_mul, i_sub, i_div, i_and, i_or, i_shl1, Nat.one_mul, i_shr1, i_bit1, i_lt, i_eq, i_in, i_cl, i_0, gI_sI, bi_0n, bi_1n, nz_bi, nz_0n, nz_1n, vn_0n, vn_1n, vn_bi, and_true, true_and, not_false_eq_true, not_true_eq_false, false_implies, true_implies, forall_const, implies_true, ite_true, ite_false, Bool.not_eq_true, Bool.not_eq_false, and_false, false_and, if_true, if_false, if_pos, true_or, or_true, false_or, or_false]
    refine ⟨fun e2 => nx' (by simp [e2]), fun e2 => sp_ldInto hW hR.1 hT hi hv ?_⟩
    simp +decide (disch := omega) only [lit, lit_neg, i_add, i_mul, i_sub, i_div, i_and, i_or, i_shl1, Nat.one_mul, i_shr1, i_bit1, i_lt, i_eq, i_in, i_cl, i_0, gI_sI, bi_0n, bi_1n, nz_bi, nz_0n, nz_1n, vn_0n, vn_1n, vn_bi, and_true, true_and, not_false_eq_true, not_true_eq_false, false_implies, true_implies, forall_const, implies_true, ite_true, ite_false, Bool.not_eq_true, Bool.not_eq_false, and_false, false_and, if_true, if_false, if_pos, true_or, or_true, false_or, or_false]
    refine ⟨fun e3 => nx' (by simp [e3]), fun e3 => ?_⟩
    have : askN M k m v = i + 1 := lst_some hi (by simp [e, e2, e3]) hI
    rw [this, e1_s] at hq
    exact hq
  · intro hI
    apply h3
    refine sp_states hW hR.1 ?_
    simp +decide (disch := omega) only [lit, lit_neg, i_add, i_mul, i_sub, i_div, i_and, i_or, i_shl1, Nat.one_mul, i_shr1, i_bit1, i_lt, i_eq, i_in, i_cl, i_0, gI_sI, bi_0n, bi_1n, nz_bi, nz_0n, nz_1n, vn_0n, vn_1n, vn_bi, and_true, true_and, not_false_eq_true, not_true_eq_false, false_implies, true_implies, forall_const, implies_true, ite_true, ite_false, Bool.not_eq_true, Bool.not_eq_false, and_false, false_and, if_true, if_false, if_pos, true_or, or_true, false_or, or_false, Nat.lt_irrefl]
    have : askN M k m v = 0 := lst_none hI
    rw [this] at hq
    exact hq
theorem askN_le (M : Ms) (k m v : Nat) : askN M k m v ≤ 2 ^ M 0 1 := by
  rcases lst_cases (2 ^ M 0 1) (fun s => !inCubeB s m v && (inFrB M k s && ldIntoB M s m v)) with ⟨h, -⟩ | ⟨i, h1, h2, -⟩ 
  · unfold askN
    rw [h]
    exact Nat.zero_le _
  · unfold askN
    omega
theorem widN_lt {M : Ms} {k m v n : Nat} (h : m < 2 ^ n) : ∀ b, widN M k m v b < 2 ^ n
  | 0 => h
  | b + 1 => by
    simp only [widN]
    split
    · exact andn_lt (widN_lt h b)
    · exact widN_lt h b
theorem sp_widened {M : Ms} {σ : Sg} {k m v : Nat} {Q : Int32 → Prop} (hW : WFm M) (hP : WFp M) (hR : RMc M σ) (hT : TB M σ) (hk0 : 1 ≤ k) (hk : k ≤ 24) (hm : m < 2 ^ M 0 1) (hv : v < 65536) (hq : Q (nI (widN M k m v (M 0 1)))) : wp_X10_widened (nI k) (nI m) (nI v) σ Q := by
  have h256 := pow_le8 hW.2.1
  have hw1 := hW.2.1
  have hf := hW.2.2.2.2.2.1
  intro L6 h6
  refine up_loopS (L := fun i x => L6 x i) (I := fun i x => x = nI (widN M k m v i)) (M 0 1) ?_ ?_ 0 _ (Nat.zero_le _) rfl
  · intro i x hi hx nx
    subst hx
    apply h6
    have hl := widN_lt (M := M) (k := k) (v := v) hm i
    have hl2 := andn_lt (k := 2 ^ i) hl
    have hb := Nat.and_le_left (n := v) (m := andn (widN M k m v i) (2 ^ i))
    simp +decide (disch := omega) only [lit, lit_neg, i_add, i_mul, i_sub, i_div, i_and, i_or, i_shl1, Nat.one_mul, i_shr1, i_bit1, i_lt, i_eq, i_in, i_cl, i_0, gI_sI, bi_0n, bi_1n, nz_bi, nz_0n, nz_1n, vn_0n, vn_1n, vn_bi, and_true, true_and, not_false_eq_true, not_true_eq_false, false_implies, true_implies, forall_const, implies_true, ite_true, ite_false, Bool.not_eq_true, Bool.not_eq_false, and_false, false_and, if_true, if_false, if_pos, true_or, or_true, false_or, or_false, hR.1.2.1, hi, i_1shl1, i_andn, hR.1.2.2.2.1]
    refine ⟨fun e => nx _ (by simp [widN, e]), fun e => sp_inCube (by omega) (by omega) ?_⟩
    simp +decide (disch := omega) only [lit, lit_neg, i_add, i_mul, i_sub, i_div, i_and, i_or, i_shl1, Nat.one_mul, i_shr1, i_bit1, i_lt, i_eq, i_in, i_cl, i_0, gI_sI, bi_0n, bi_1n, nz_bi, nz_0n, nz_1n, vn_0n, vn_1n, vn_bi, and_true, true_and, not_false_eq_true, not_true_eq_false, false_implies, true_implies, forall_const, implies_true, ite_true, ite_false, Bool.not_eq_true, Bool.not_eq_false, and_false, false_and, if_true, if_false, if_pos, true_or, or_true, false_or, or_false]
    refine ⟨fun e2 => sp_asked hW hP hR hT (by omega) (by omega) ?_, fun e2 => nx _ (by simp [widN, e2])⟩
    have ha := askN_le M (k - 1) (andn (widN M k m v i) (2 ^ i)) (v &&& andn (widN M k m v i) (2 ^ i))
    simp +decide (disch := omega) only [lit, lit_neg, i_add, i_mul, i_sub, i_div, i_and, i_or, i_shl1, Nat.one_mul, i_shr1, i_bit1, i_lt, i_eq, i_in, i_cl, i_0, gI_sI, bi_0n, bi_1n, nz_bi, nz_0n, nz_1n, vn_0n, vn_1n, vn_bi, and_true, true_and, not_false_eq_true, not_true_eq_false, false_implies, true_implies, forall_const, implies_true, ite_true, ite_false, Bool.not_eq_true, Bool.not_eq_false, and_false, false_and, if_true, if_false, if_pos, true_or, or_true, false_or, or_false, e1_lt0]
    exact ⟨fun e3 => nx _ (by simp [widN, e, e2, e3]), fun e3 => nx _ (by simp [widN, e3])⟩
  · intro x hx
    subst hx
    apply h6
    simp +decide (disch := omega) only [lit, lit_neg, i_add, i_mul, i_sub, i_div, i_and, i_or, i_shl1, Nat.one_mul, i_shr1, i_bit1, i_lt, i_eq, i_in, i_cl, i_0, gI_sI, bi_0n, bi_1n, nz_bi, nz_0n, nz_1n, vn_0n, vn_1n, vn_bi, and_true, true_and, not_false_eq_true, not_true_eq_false, false_implies, true_implies, forall_const, implies_true, ite_true, ite_false, Bool.not_eq_true, Bool.not_eq_false, and_false, false_and, if_true, if_false, if_pos, true_or, or_true, false_or, or_false, hR.1.2.1, Nat.lt_irrefl]
    exact hq
theorem fore_ask {M : Ms} {k s : Nat} (hs : s < 2 ^ M 0 1) : lst (2 ^ M 0 1) (fun t => !decide (t = s) && (inFrB M k t && ldsB M t s)) = askN M k (fullN M) s := by
  refine lst_congr (fun t ht => ?_)
  have hm : ∀ x, x < 2 ^ M 0 1 → x &&& fullN M = x := fun x hx => by
    unfold fullN
    rw [Nat.and_two_pow_sub_one_eq_mod, Nat.mod_eq_of_lt hx]
  have h1 : inCubeB t (fullN M) s = decide (t = s) := by simp [inCubeB, hm t ht]
  have h2 : ldIntoB M t (fullN M) s = ldsB M t s := by
    unfold ldIntoB ldsB
    refine anyN_congr (fun c hc => ?_)
    simp only [inCubeB, hm _ (nxtN_lt M t c)]
  rw [h1, h2]
theorem sp_forerunner {M : Ms} {σ : Sg} {k s : Nat} {Q : Int32 → Prop} (hW : WFm M) (hP : WFp M) (hR : RMc M σ) (hT : TB M σ) (hk : k ≤ 24) (hs : s < 2 ^ M 0 1) (hq : Q (e1 (askN M k (fullN M) s))) : wp_X10_forerunner (nI s) (nI k) σ Q := by
  have h256 := pow_le8 hW.2.1
  rw [← fore_ask hs] at hq
  intro L3 h3
  refine up_loop (I := fun i => ∀ j, j < i → (!decide (j = s) && (inFrB M k j && ldsB M j s)) = false) (2 ^ M 0 1) ?_ ?_ 0 (Nat.zero_le _) (fun j hj => absurd hj (by omega))
  · intro i hi hI nx
    apply h3
    refine sp_states hW hR.1 ?_
    simp +decide (disch := omega) only [lit, lit_neg, i_add, i_mul, i_sub, i_div, i_and, i_or, i_shl1, Nat.one_mul, i_shr1, i_bit1, i_lt, i_eq, i_in, i_cl, i_0, gI_sI, bi_0n, bi_1n, nz_bi, nz_0n, nz_1n, vn_0n, vn_1n, vn_bi, and_true, true_and, not_false_eq_true, not_true_eq_false, false_implies, true_implies, forall_const, implies_true, ite_true, ite_false, Bool.not_eq_true, Bool.not_eq_false, and_false, false_and, if_true, if_false, if_pos, true_or, or_true, false_or, or_false, hi]
    have nx' : (!decide (i = s) && (inFrB M k i && ldsB M i s)) = false → L3 (nI (i + 1)) := fun e => nx (fun j hj => by
      by_cases e2 : j = i
      · subst e2; exact e
      · exact hI j (by omega))
    refine ⟨fun e => nx' (by simp [e]), fun e => sp_inFrame hW hP hR.1 hR.2.1 hk (by omega) ?_⟩
    simp +decide (disch := omega) only [lit, lit_neg, i_add, i_mul, i_sub, i_div, i_and, i_or, i_shl1, Nat.one_mul, i_shr1, i_bit1, i_lt, i_eq, i_in, i_cl, i_0, gI_sI, bi_0n, bi_1n, nz_bi, nz_0n, nz_1n, vn_0n, vn_1n, vn_bi, and_true, true_and, not_false_eq_true, not_true_eq_false, false_implies, true_implies, forall_const, implies_true, ite_true, ite_false, Bool.not_eq_true, Bool.not_eq_false, and_false, false_and, if_true, if_false, if_pos, true_or, or_true, false_or, or_false]
    refine ⟨fun e2 => nx' (by simp [e2]), fun e2 => sp_leads hW hR.1 hT hi (by omega) ?_⟩
    simp +decide (disch := omega) only [lit, lit_neg, i_add, i_mul, i_sub, i_div, i_and, i_or, i_shl1, Nat.one_mul, i_shr1, i_bit1, i_lt, i_eq, i_in, i_cl, i_0, gI_sI, bi_0n, bi_1n, nz_bi, nz_0n, nz_1n, vn_0n, vn_1n, vn_bi, and_true, true_and, not_false_eq_true, not_true_eq_false, false_implies, true_implies, forall_const, implies_true, ite_true, ite_false, Bool.not_eq_true, Bool.not_eq_false, and_false, false_and, if_true, if_false, if_pos, true_or, or_true, false_or, or_false]
    refine ⟨fun e3 => nx' (by simp [e3]), fun e3 => ?_⟩
    have : lst (2 ^ M 0 1) (fun t => !decide (t = s) && (inFrB M k t && ldsB M t s)) = i + 1 := lst_some hi (by simp [e, e2, e3]) hI
    rw [this, e1_s] at hq
    exact hq
  · intro hI
    apply h3
    refine sp_states hW hR.1 ?_
    simp +decide (disch := omega) only [lit, lit_neg, i_add, i_mul, i_sub, i_div, i_and, i_or, i_shl1, Nat.one_mul, i_shr1, i_bit1, i_lt, i_eq, i_in, i_cl, i_0, gI_sI, bi_0n, bi_1n, nz_bi, nz_0n, nz_1n, vn_0n, vn_1n, vn_bi, and_true, true_and, not_false_eq_true, not_true_eq_false, false_implies, true_implies, forall_const, implies_true, ite_true, ite_false, Bool.not_eq_true, Bool.not_eq_false, and_false, false_and, if_true, if_false, if_pos, true_or, or_true, false_or, or_false, Nat.lt_irrefl]
    rw [lst_none hI] at hq
    exact hq
