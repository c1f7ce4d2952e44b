/-! sets that grow step by step stand still after n steps -/
theorem cntB_lt {n : Nat} {f g : Nat → Bool} (h : ∀ p, p < n → f p = true → g p = true) : cntB n f ≤ cntB n g ∧ (cntB n g ≤ cntB n f → ∀ p, p < n → f p = g p) := by
  induction n with
  | zero => exact ⟨Nat.le_refl _, fun _ p hp => absurd hp (by omega)⟩
  | succ n ih =>
    obtain ⟨i1, i2⟩ := ih (fun p hp => h p (by omega))
    have hn := h n (by omega)
    simp only [cntB]
    rcases Bool.eq_false_or_eq_true (f n) with hf | hf <;> rcases Bool.eq_false_or_eq_true (g n) with hg | hg <;> simp only [hf, hg, if_true, if_false, Bool.false_eq_true]
    · refine ⟨by omega, fun q p hp => ?_⟩
      by_cases e : p = n
      · rw [e, hf, hg]
      · exact i2 (by omega) p (by omega)
    · rw [hn hf] at hg; cases hg
    · exact ⟨by omega, fun q => by omega⟩
    · refine ⟨by omega, fun q p hp => ?_⟩
      by_cases e : p = n
      · rw [e, hf, hg]
      · exact i2 (by omega) p (by omega)
theorem cntB_all {n : Nat} {f : Nat → Bool} (h : n ≤ cntB n f) : ∀ p, p < n → f p = true := by
  induction n with
  | zero => intro p hp; omega
  | succ n ih =>
    have := cntB_le n f
    simp only [cntB] at h
    intro p hp
    cases hf : f n
    · rw [hf] at h; simp only [Bool.false_eq_true, if_false] at h; omega
    · rw [hf, if_pos rfl] at h
      by_cases e : p = n
      · rw [e, hf]
      · exact ih (by omega) p (by omega)
theorem stab {n : Nat} {f : Nat → Nat → Bool} (hm : ∀ d p, f d p = true → f (d + 1) p = true) (hs : ∀ d, (∀ p, p < n → f (d + 1) p = f d p) → ∀ p, p < n → f (d + 2) p = f (d + 1) p) : ∀ d, n ≤ d → ∀ p, p < n → f d p = f n p := by
  have a : ∀ d, d ≤ cntB n (f d) ∨ ∃ e, e < d ∧ ∀ p, p < n → f (e + 1) p = f e p := by
    intro d
    induction d with
    | zero => exact Or.inl (Nat.zero_le _)
    | succ d ih =>
      rcases ih with ih | ⟨e, he, h⟩
      · have c := cntB_lt (n := n) (f := f d) (g := f (d + 1)) (fun p _ => hm d p)
        by_cases q : cntB n (f (d + 1)) ≤ cntB n (f d)
        · exact Or.inr ⟨d, by omega, fun p hp => (c.2 q p hp).symm⟩
        · exact Or.inl (by omega)
      · exact Or.inr ⟨e, by omega, h⟩
  have b : ∀ d, n ≤ d → ∀ p, p < n → f (d + 1) p = f d p := by
    have b0 : ∀ p, p < n → f (n + 1) p = f n p := by
      rcases a n with h | ⟨e, he, h⟩
      · intro p hp
        have := cntB_all h p hp
        rw [this, hm n p this]
      · obtain ⟨k, rfl⟩ : ∃ k, n = e + k := ⟨n - e, by omega⟩
        have : ∀ k p, p < e + k + 0 → True := fun _ _ _ => trivial
        have c : ∀ j, ∀ p, p < e + k → f (e + j + 1) p = f (e + j) p := by
          intro j
          induction j with
          | zero => exact h
          | succ j ih => exact hs (e + j) ih
        exact c k
    intro d hd
    obtain ⟨k, rfl⟩ : ∃ k, d = n + k := ⟨d - n, by omega⟩
    clear hd
    induction k with
    | zero => exact b0
    | succ k ih => exact hs (n + k) ih
  intro d hd
  obtain ⟨k, rfl⟩ : ∃ k, d = n + k := ⟨d - n, by omega⟩
  clear hd
  induction k with
  | zero => intro p _; rfl
  | succ k ih => intro p hp; rw [← ih p hp]; exact b (n + k) (by omega) p hp
theorem hng_s (M : Ms) (d p : Nat) (h : hng M d p = true) : hng M (d + 1) p = true := by
  simp only [hng, Bool.or_eq_true]
  exact Or.inl h
theorem hng_le (M : Ms) {d e p : Nat} (hd : d ≤ e) (h : hng M d p = true) : hng M e p = true := by
  obtain ⟨k, rfl⟩ : ∃ k, e = d + k := ⟨e - d, by omega⟩
  clear hd
  induction k with
  | zero => exact h
  | succ k ih => exact hng_s M _ p ih
theorem hng_stab (M : Ms) : ∀ d, M 0 0 ≤ d → ∀ p, p < M 0 0 → hng M d p = hng M (M 0 0) p := by
  refine stab (fun d p => hng_s M d p) (fun d h p hp => ?_)
  show (hng M (d + 1) p || anyN (M 0 0) _) = (hng M d p || anyN (M 0 0) _)
  rw [h p hp]
  congr 1
  exact anyN_congr (fun q hq => by rw [h q hq])
/-- what the cone hangs on, in one -/
def clo (M : Ms) (p : Nat) : Bool := hng M (M 0 0) p
theorem clo_x {M : Ms} (hW : WFm M) {q : Nat} (hq : q < M 0 0) (h : clo M q = true) (h3 : M 1 q ≠ 3) : clo M ((M 2 q - 1) / 2) = true ∧ (M 1 q = 0 → clo M ((M 3 q - 1) / 2) = true) := by
  have hp := hW.2.2.2.2.2.2.2.2.1 q hq
  have hb : ∀ p, p < M 0 0 → ((decide (M 1 q ≠ 3) && decide (p = (M 2 q - 1) / 2)) || (decide (M 1 q = 0) && decide (p = (M 3 q - 1) / 2))) = true → clo M p = true := by
    intro p hp2 hh
    unfold clo
    rw [← hng_stab M (M 0 0 + 1) (by omega) p hp2]
    simp only [hng, Bool.or_eq_true]
    refine Or.inr (anyN_iff.mpr ⟨q, hq, ?_⟩)
    rw [show hng M (M 0 0) q = true from h, Bool.true_and]
    exact hh
  refine ⟨hb _ (by omega) (by simp [h3]), fun h0 => hb _ (by omega) (by simp [h0])⟩
def coN (M : Ms) (f : Nat → Bool) : Nat → Nat
  | 0 => 0
  | i + 1 => if (M 1 i = 1 ∨ M 1 i = 2) ∧ f i = true then coN M f i ||| 2 ^ M 4 i else coN M f i
theorem coN_bit (M : Ms) (f : Nat → Bool) (j : Nat) : ∀ i, (coN M f i).testBit j = anyN i (fun p => decide ((M 1 p = 1 ∨ M 1 p = 2) ∧ M 4 p = j) && f p) := by
  intro i
  induction i with
  | zero => simp [coN, anyN]
  | succ i ih =>
    simp only [coN, anyN]
    by_cases h : (M 1 i = 1 ∨ M 1 i = 2) ∧ f i = true
    · rw [if_pos h, Nat.testBit_or, ih, Nat.testBit_two_pow, h.2]
      simp [h.1]
    · rw [if_neg h, ih]
      by_cases h1 : M 1 i = 1 ∨ M 1 i = 2
      · have : f i = false := by
          cases hq : f i
          · rfl
          · exact absurd ⟨h1, hq⟩ h
        simp [this]
      · simp [h1]
theorem coN_lt {M : Ms} (hW : WFm M) (f : Nat → Bool) : ∀ i, i ≤ M 0 0 → coN M f i < 2 ^ M 0 1 := by
  intro i
  induction i with
  | zero => intro _; simp [coN]; exact Nat.pow_pos (by decide)
  | succ i ih =>
    intro hi
    have := ih (by omega)
    simp only [coN]
    split
    · rename_i h
      refine Nat.or_lt_two_pow this ?_
      exact Nat.pow_lt_pow_right (by decide) ((hW.2.2.2.2.2.2.2.2.1 i (by omega)).2.2.2.2.1 h.1).2.1
    · exact this
theorem coN_all {M : Ms} (hW : WFm M) (f : Nat → Bool) : coN M f (M 0 0) = bitsN (M 0 1) (fun j => f (M 7 j)) := by
  apply nat_bits
  intro j
  have hb := hW.2.2.2.2.2.2.2.2.2.1
  have hp := hW.2.2.2.2.2.2.2.2.1
  rw [coN_bit, bitsN_bit]
  by_cases hj : j < M 0 1
  · obtain ⟨b1, b2, b3⟩ := hb j hj
    cases hs : f (M 7 j)
    · rw [Bool.and_false]
      rw [anyN_f]
      intro p hpp
      by_cases e : (M 1 p = 1 ∨ M 1 p = 2) ∧ M 4 p = j
      · have := ((hp p hpp).2.2.2.2.1 e.1).2.2.1
        rw [e.2] at this
        rw [this] at hs
        simp [hs]
      · simp [e]
    · simp only [hj, decide_true, Bool.and_true]
      rw [anyN_iff]
      exact ⟨M 7 j, b1, by simp [b2, b3, hs]⟩
  · simp only [hj, decide_false, Bool.false_and]
    rw [anyN_f]
    intro p hpp
    by_cases e : (M 1 p = 1 ∨ M 1 p = 2) ∧ M 4 p = j
    · have := ((hp p hpp).2.2.2.2.1 e.1).2.1
      omega
    · simp [e]
def Mk (M : Ms) (τ : Sg) (μ : Nat → Bool) : Prop := ∀ p, p < M 0 0 → gI τ 21 p = bi (μ p)
theorem Mk.set {M : Ms} {τ : Sg} {μ : Nat → Bool} (h : Mk M τ μ) (q : Nat) : Mk M (sI τ 21 q (bi true)) (fun p => μ p || decide (p = q)) := by
  intro p hp
  show _ = bi (μ p || decide (p = q))
  rw [gI_sI]
  by_cases e : p = q
  · rw [if_pos ⟨rfl, e⟩, decide_eq_true e, Bool.or_true]
  · rw [if_neg (by omega), decide_eq_false e, Bool.or_false]; exact h p hp
theorem rp_cone {M : Ms} {σ : Sg} {Q : Int32 → Sg → Prop} (hW : WFm M) (hR : RM M σ) (hq : RefDoes (op_cone M) Q) : wp_X10_cone σ Q := by
  have h80 := hW.1
  have h8 := hW.2.1
  have has := hW.2.2.2.1
  have hbad := hW.2.2.2.2.2.2.1
  have hpt := hW.2.2.2.2.2.2.2.2.1
  have has2 := hW.2.2.2.2.2.2.2.2.2.2.1
  unfold op_cone at hq
  intro L16 L53 L83 L93 L176 h16 h53 h83 h93 h176
  obtain ⟨r5, r6, r7, r8, r9, r10, r11, rp, ra, rf'⟩ := hR.1.1
  refine ⟨fun z => ?_, fun z => ?_⟩
  · rw [r9, i_0, e1_lt0 (by omega)] at z
    rw [if_pos z] at hq
    exact sp_no hR (by decide) (by decide) hq
  rw [r9, i_0, e1_lt0 (by omega)] at z
  rw [if_neg z] at hq
  have k : ∀ τ, But (fun a _ => a = 21) σ τ → ∀ a j, a ≠ 21 → gI τ a j = gI σ a j := fun τ hb a j h => hb a j h
  have k5 : ∀ τ, But (fun a _ => a = 21) σ τ → gI τ 0 5 = nI (M 0 0) := fun τ hb => by rw [hb 0 5 (by omega)]; exact r5
  -- the end
  have g176 : ∀ τ, But (fun a _ => a = 21) σ τ → Mk M τ (clo M) → L176 (nI 0) (nI 0) τ := by
    intro τ hb hm
    refine up_loopS (L := fun i x => L176 x i τ) (I := fun i x => x = nI (coN M (clo M) i)) (M 0 0) ?_ ?_ 0 _ (Nat.zero_le _) rfl
    · intro i x hi hx nx
      subst hx
      apply h176
      obtain ⟨p1, p2, p3, p4⟩ := rp i hi
      have q1 : gI τ 1 i = nI (M 1 i) := by rw [hb 1 i (by omega)]; exact p1
      have q4 : M 1 i ≠ 0 → gI τ 4 i = nI (M 4 i) := fun h => by rw [hb 4 i (by omega)]; exact p4 h
      have w := hpt i hi
      simp +decide (disch := omega) only [lit, lit_neg, i_add, i_mul, i_sub, i_div, i_and, i_or, i_shl1, Nat.one_mul, i_shr1, i_bit1, i_lt, i_eq, i_in, i_cl, i_0, gI_sI, bi_0n, bi_1n, nz_bi, nz_0n, nz_1n, vn_0n, vn_1n, vn_bi, and_true, true_and, not_false_eq_true, not_true_eq_false, false_implies, true_implies, forall_const, implies_true, ite_true, ite_false, Bool.not_eq_true, Bool.not_eq_false, and_false, false_and, if_true, if_false, if_pos, true_or, or_true, false_or, or_false, k5 τ hb, hi, show i < 80 by omega, hm i hi, q1]
      have n0 : ((M 1 i = 1 ∨ M 1 i = 2) ∧ clo M i = true → False) → L176 (nI (coN M (clo M) i ||| 0)) (nI (i + 1)) τ := fun hh => nx _ (by rw [Nat.or_zero]; congr 1; simp only [coN]; rw [if_neg hh])
      have n1 : ((M 1 i = 1 ∨ M 1 i = 2) ∧ clo M i = true) → L176 (nI (coN M (clo M) i ||| 2 ^ M 4 i)) (nI (i + 1)) τ := fun hh => nx _ (by congr 1; simp only [coN]; rw [if_pos hh])
      refine ⟨fun e => n0 (fun w => by rw [e] at w; exact absurd w.2 (by decide)), fun e => ⟨fun e1 => ?_, fun e1 => ⟨fun e2 => ?_, fun e2 => n0 (fun w => by omega)⟩⟩⟩
      · have h4 := (w.2.2.2.2.1 (Or.inl e1)).2.1
        have c4 := q4 (by omega)
        simp +decide (disch := omega) only [lit, lit_neg, i_add, i_mul, i_sub, i_div, i_and, i_or, i_shl1, Nat.one_mul, i_shr1, i_bit1, i_lt, i_eq, i_in, i_cl, i_0, gI_sI, bi_0n, bi_1n, nz_bi, nz_0n, nz_1n, vn_0n, vn_1n, vn_bi, and_true, true_and, not_false_eq_true, not_true_eq_false, false_implies, true_implies, forall_const, implies_true, ite_true, ite_false, Bool.not_eq_true, Bool.not_eq_false, and_false, false_and, if_true, if_false, if_pos, true_or, or_true, false_or, or_false, c4, i_1shl1]
        exact n1 ⟨Or.inl e1, e⟩
      · have h4 := (w.2.2.2.2.1 (Or.inr e2)).2.1
        have c4 := q4 (by omega)
        simp +decide (disch := omega) only [lit, lit_neg, i_add, i_mul, i_sub, i_div, i_and, i_or, i_shl1, Nat.one_mul, i_shr1, i_bit1, i_lt, i_eq, i_in, i_cl, i_0, gI_sI, bi_0n, bi_1n, nz_bi, nz_0n, nz_1n, vn_0n, vn_1n, vn_bi, and_true, true_and, not_false_eq_true, not_true_eq_false, false_implies, true_implies, forall_const, implies_true, ite_true, ite_false, Bool.not_eq_true, Bool.not_eq_false, and_false, false_and, if_true, if_false, if_pos, true_or, or_true, false_or, or_false, c4, i_1shl1]
        exact n1 ⟨Or.inr e2, e⟩
    · intro x hx
      subst hx
      apply h176
      simp +decide (disch := omega) only [lit, lit_neg, i_add, i_mul, i_sub, i_div, i_and, i_or, i_shl1, Nat.one_mul, i_shr1, i_bit1, i_lt, i_eq, i_in, i_cl, i_0, gI_sI, bi_0n, bi_1n, nz_bi, nz_0n, nz_1n, vn_0n, vn_1n, vn_bi, and_true, true_and, not_false_eq_true, not_true_eq_false, false_implies, true_implies, forall_const, implies_true, ite_true, ite_false, Bool.not_eq_true, Bool.not_eq_false, and_false, false_and, if_true, if_false, if_pos, true_or, or_true, false_or, or_false, k5 τ hb, Nat.lt_irrefl]
      rw [coN_all hW]
      exact rd hq (RM_new hR (fun _ _ _ => rfl) (hb.mono (fun a k z => by unfold lsS; omega)) (RLs_cg (fun _ _ _ => rfl) (fun a k z => hb a k (by omega)) hR.1.2.2))
  -- the rounds
  have g83 : ∀ τ μ, But (fun a _ => a = 21) σ τ → Mk M τ μ → (∀ p, p < M 0 0 → hng M 0 p = true → μ p = true) → (∀ p, p < M 0 0 → μ p = true → clo M p = true) → L83 (nI 0) τ := by
    intro τ μ hb hm hA hC
    refine up_loopS (I := fun d τ => But (fun a _ => a = 21) σ τ ∧ ∃ μ, Mk M τ μ ∧ (∀ p, p < M 0 0 → hng M d p = true → μ p = true) ∧ (∀ p, p < M 0 0 → μ p = true → clo M p = true)) (M 0 0) ?_ ?_ 0 τ (Nat.zero_le _) ⟨hb, μ, hm, hA, hC⟩
    · intro d τ hd ⟨hb, μ, hm, hA, hC⟩ nx
      apply h83
      simp +decide (disch := omega) only [lit, lit_neg, i_add, i_mul, i_sub, i_div, i_and, i_or, i_shl1, Nat.one_mul, i_shr1, i_bit1, i_lt, i_eq, i_in, i_cl, i_0, gI_sI, bi_0n, bi_1n, nz_bi, nz_0n, nz_1n, vn_0n, vn_1n, vn_bi, and_true, true_and, not_false_eq_true, not_true_eq_false, false_implies, true_implies, forall_const, implies_true, ite_true, ite_false, Bool.not_eq_true, Bool.not_eq_false, and_false, false_and, if_true, if_false, if_pos, true_or, or_true, false_or, or_false, k5 τ hb, hd]
      refine up_loopS (L := fun i τ => L93 (nI d) i τ) (I := fun i τ => But (fun a _ => a = 21) σ τ ∧ ∃ μ, Mk M τ μ ∧ (∀ p, p < M 0 0 → hng M d p = true → μ p = true) ∧ (∀ p, p < M 0 0 → μ p = true → clo M p = true) ∧ ∀ q, q < i → hng M d q = true → M 1 q ≠ 3 → μ ((M 2 q - 1) / 2) = true ∧ (M 1 q = 0 → μ ((M 3 q - 1) / 2) = true)) (M 0 0) ?_ ?_ 0 τ (Nat.zero_le _) ⟨hb, μ, hm, hA, hC, fun q hq => absurd hq (by omega)⟩
      · intro i τ hi ⟨hb, μ, hm, hA, hC, hB⟩ nx2
        apply h93
        obtain ⟨p1, p2, p3, p4⟩ := rp i hi
        have q1 : gI τ 1 i = nI (M 1 i) := by rw [hb 1 i (by omega)]; exact p1
        have q2 : gI τ 2 i = e1 (M 2 i) := by rw [hb 2 i (by omega)]; exact p2
        have q3 : gI τ 3 i = e1 (M 3 i) := by rw [hb 3 i (by omega)]; exact p3
        have w := hpt i hi
        simp +decide (disch := omega) only [lit, lit_neg, i_add, i_mul, i_sub, i_div, i_and, i_or, i_shl1, Nat.one_mul, i_shr1, i_bit1, i_lt, i_eq, i_in, i_cl, i_0, gI_sI, bi_0n, bi_1n, nz_bi, nz_0n, nz_1n, vn_0n, vn_1n, vn_bi, and_true, true_and, not_false_eq_true, not_true_eq_false, false_implies, true_implies, forall_const, implies_true, ite_true, ite_false, Bool.not_eq_true, Bool.not_eq_false, and_false, false_and, if_true, if_false, if_pos, true_or, or_true, false_or, or_false, k5 τ hb, hi, show i < 80 by omega, hm i hi, q1]
        refine ⟨fun e => nx2 τ ⟨hb, μ, hm, hA, hC, fun q hq hh h3 => ?_⟩, fun e => ⟨fun e3 => nx2 τ ⟨hb, μ, hm, hA, hC, fun q hq hh h3 => ?_⟩, fun e3 => ?_⟩⟩
        · by_cases eq : q = i
          · subst eq; rw [hA q hi hh] at e; cases e
          · exact hB q (by omega) hh h3
        · by_cases eq : q = i
          · subst eq; exact absurd e3 h3
          · exact hB q (by omega) hh h3
        · have hx1 : 1 ≤ M 2 i := by
            rcases Nat.eq_zero_or_pos (M 1 i) with h0 | h0
            · exact (w.2.2.2.1 h0).1
            · exact (w.2.2.2.2.1 (by omega)).1
          have cx := clo_x hW hi (hC i hi e) e3
          rw [q2, e1_p hx1]
          simp +decide (disch := omega) only [lit, lit_neg, i_add, i_mul, i_sub, i_div, i_and, i_or, i_shl1, Nat.one_mul, i_shr1, i_bit1, i_lt, i_eq, i_in, i_cl, i_0, gI_sI, bi_0n, bi_1n, nz_bi, nz_0n, nz_1n, vn_0n, vn_1n, vn_bi, and_true, true_and, not_false_eq_true, not_true_eq_false, false_implies, true_implies, forall_const, implies_true, ite_true, ite_false, Bool.not_eq_true, Bool.not_eq_false, and_false, false_and, if_true, if_false, if_pos, true_or, or_true, false_or, or_false, show (M 2 i - 1) / 2 < 80 by omega, q1]
          refine ⟨fun e0 => ?_, fun e0 => ?_⟩
          · have hy := w.2.2.2.1 e0
            rw [q3, e1_p (show 0 < M 3 i by omega)]
            simp +decide (disch := omega) only [lit, lit_neg, i_add, i_mul, i_sub, i_div, i_and, i_or, i_shl1, Nat.one_mul, i_shr1, i_bit1, i_lt, i_eq, i_in, i_cl, i_0, gI_sI, bi_0n, bi_1n, nz_bi, nz_0n, nz_1n, vn_0n, vn_1n, vn_bi, and_true, true_and, not_false_eq_true, not_true_eq_false, false_implies, true_implies, forall_const, implies_true, ite_true, ite_false, Bool.not_eq_true, Bool.not_eq_false, and_false, false_and, if_true, if_false, if_pos, true_or, or_true, false_or, or_false, show (M 3 i - 1) / 2 < 80 by omega]
            refine nx2 _ ⟨(hb.up rfl).up rfl, _, (hm.set _).set _, fun p hp hh => by rw [hA p hp hh]; rfl, fun p hp hh => ?_, fun q hq hh h3 => ?_⟩
            · simp only [Bool.or_eq_true, decide_eq_true_eq] at hh
              rcases hh with (hh | hh) | hh
              · exact hC p hp hh
              · rw [hh]; exact cx.1
              · rw [hh]; exact cx.2 e0
            · by_cases eq : q = i
              · subst eq; simp
              · have := hB q (by omega) hh h3
                exact ⟨by rw [this.1]; rfl, fun h0 => by rw [this.2 h0]; rfl⟩
          · refine nx2 _ ⟨hb.up rfl, _, hm.set _, fun p hp hh => by rw [hA p hp hh]; rfl, fun p hp hh => ?_, fun q hq hh h3 => ?_⟩
            · simp only [Bool.or_eq_true, decide_eq_true_eq] at hh
              rcases hh with hh | hh
              · exact hC p hp hh
              · rw [hh]; exact cx.1
            · by_cases eq : q = i
              · subst eq; exact ⟨by simp, fun h0 => absurd h0 e0⟩
              · have := hB q (by omega) hh h3
                exact ⟨by rw [this.1]; rfl, fun h0 => by rw [this.2 h0]; rfl⟩
      · intro τ ⟨hb, μ, hm, hA, hC, hB⟩
        apply h93
        simp +decide (disch := omega) only [lit, lit_neg, i_add, i_mul, i_sub, i_div, i_and, i_or, i_shl1, Nat.one_mul, i_shr1, i_bit1, i_lt, i_eq, i_in, i_cl, i_0, gI_sI, bi_0n, bi_1n, nz_bi, nz_0n, nz_1n, vn_0n, vn_1n, vn_bi, and_true, true_and, not_false_eq_true, not_true_eq_false, false_implies, true_implies, forall_const, implies_true, ite_true, ite_false, Bool.not_eq_true, Bool.not_eq_false, and_false, false_and, if_true, if_false, if_pos, true_or, or_true, false_or, or_false, k5 τ hb, Nat.lt_irrefl]
        refine nx τ ⟨hb, μ, hm, fun p hp hh => ?_, hC⟩
        simp only [hng, Bool.or_eq_true] at hh
        rcases hh with hh | hh
        · exact hA p hp hh
        · obtain ⟨q, hq, hh⟩ := anyN_iff.mp hh
          simp only [Bool.and_eq_true, Bool.or_eq_true, decide_eq_true_eq] at hh
          obtain ⟨h1, h2 | h2⟩ := hh
          · rw [h2.2]; exact (hB q hq h1 h2.1).1
          · rw [h2.2]; exact (hB q hq h1 (by omega)).2 h2.1
    · intro τ ⟨hb, μ, hm, hA, hC⟩
      apply h83
      simp +decide (disch := omega) only [lit, lit_neg, i_add, i_mul, i_sub, i_div, i_and, i_or, i_shl1, Nat.one_mul, i_shr1, i_bit1, i_lt, i_eq, i_in, i_cl, i_0, gI_sI, bi_0n, bi_1n, nz_bi, nz_0n, nz_1n, vn_0n, vn_1n, vn_bi, and_true, true_and, not_false_eq_true, not_true_eq_false, false_implies, true_implies, forall_const, implies_true, ite_true, ite_false, Bool.not_eq_true, Bool.not_eq_false, and_false, false_and, if_true, if_false, if_pos, true_or, or_true, false_or, or_false, k5 τ hb, Nat.lt_irrefl]
      refine g176 τ hb (fun p hp => ?_)
      rw [hm p hp]
      congr 1
      cases h : clo M p
      · cases h2 : μ p
        · rfl
        · rw [hC p hp h2] at h; cases h
      · exact hA p hp h
  have g53 : ∀ τ, But (fun a _ => a = 21) σ τ → Mk M τ (fun p => decide (p = (M 0 4 - 1) / 2)) → L53 (nI 0) τ := by
    intro τ hb hm
    refine up_loopS (I := fun i τ => But (fun a _ => a = 21) σ τ ∧ Mk M τ (fun p => decide (p = (M 0 4 - 1) / 2) || anyN i (fun i => decide (p = M 5 i / 2)))) (M 0 5) ?_ ?_ 0 τ (Nat.zero_le _) ⟨hb, fun p hp => by rw [hm p hp]; simp [anyN]⟩
    · intro i τ hi ⟨hb, hm⟩ nx
      apply h53
      have q10 : gI τ 0 10 = nI (M 0 5) := by rw [hb 0 10 (by omega)]; exact r10
      have q6 : gI τ 6 i = nI (M 5 i) := by rw [hb 6 i (by omega)]; exact ra i hi
      have := has2 i hi
      simp +decide (disch := omega) only [lit, lit_neg, i_add, i_mul, i_sub, i_div, i_and, i_or, i_shl1, Nat.one_mul, i_shr1, i_bit1, i_lt, i_eq, i_in, i_cl, i_0, gI_sI, bi_0n, bi_1n, nz_bi, nz_0n, nz_1n, vn_0n, vn_1n, vn_bi, and_true, true_and, not_false_eq_true, not_true_eq_false, false_implies, true_implies, forall_const, implies_true, ite_true, ite_false, Bool.not_eq_true, Bool.not_eq_false, and_false, false_and, if_true, if_false, if_pos, true_or, or_true, false_or, or_false, q10, hi, show i < 4 by omega, q6, show M 5 i / 2 < 80 by omega]
      refine nx _ ⟨hb.up rfl, fun p hp => ?_⟩
      rw [hm.set _ p hp]
      simp only [anyN, Bool.or_assoc]
    · intro τ ⟨hb, hm⟩
      apply h53
      have q10 : gI τ 0 10 = nI (M 0 5) := by rw [hb 0 10 (by omega)]; exact r10
      simp +decide (disch := omega) only [lit, lit_neg, i_add, i_mul, i_sub, i_div, i_and, i_or, i_shl1, Nat.one_mul, i_shr1, i_bit1, i_lt, i_eq, i_in, i_cl, i_0, gI_sI, bi_0n, bi_1n, nz_bi, nz_0n, nz_1n, vn_0n, vn_1n, vn_bi, and_true, true_and, not_false_eq_true, not_true_eq_false, false_implies, true_implies, forall_const, implies_true, ite_true, ite_false, Bool.not_eq_true, Bool.not_eq_false, and_false, false_and, if_true, if_false, if_pos, true_or, or_true, false_or, or_false, q10, Nat.lt_irrefl]
      exact g83 τ _ hb hm (fun p _ h => h) (fun p _ h => hng_le M (Nat.zero_le _) h)
  refine up_loopS (I := fun i τ => But (fun a _ => a = 21) σ τ ∧ ∀ p, p < i → gI τ 21 p = bi (decide (p = (M 0 4 - 1) / 2))) (M 0 0) ?_ ?_ 0 σ (Nat.zero_le _) ⟨But.rf, fun p hp => absurd hp (by omega)⟩
  · intro i τ hi ⟨hb, hm⟩ nx
    apply h16
    have q9 : gI τ 0 9 = e1 (M 0 4) := by rw [hb 0 9 (by omega)]; exact r9
    rw [q9, e1_p (by omega)]
    simp +decide (disch := omega) only [lit, lit_neg, i_add, i_mul, i_sub, i_div, i_and, i_or, i_shl1, Nat.one_mul, i_shr1, i_bit1, i_lt, i_eq, i_in, i_cl, i_0, gI_sI, bi_0n, bi_1n, nz_bi, nz_0n, nz_1n, vn_0n, vn_1n, vn_bi, and_true, true_and, not_false_eq_true, not_true_eq_false, false_implies, true_implies, forall_const, implies_true, ite_true, ite_false, Bool.not_eq_true, Bool.not_eq_false, and_false, false_and, if_true, if_false, if_pos, true_or, or_true, false_or, or_false, k5 τ hb, hi, show i < 80 by omega]
    have go : ∀ b, b = decide (i = (M 0 4 - 1) / 2) → L16 (nI (i + 1)) (sI τ 21 i (bi b)) := fun b hbb => nx _ ⟨hb.up rfl, fun p hp => by
      rw [gI_sI]
      by_cases e : p = i
      · rw [if_pos ⟨rfl, e⟩, e, hbb]
      · rw [if_neg (by omega)]; exact hm p (by omega)⟩
    exact ⟨fun q => go _ (decide_eq_true q).symm, fun q => go _ (decide_eq_false q).symm⟩
  · intro τ ⟨hb, hm⟩
    apply h16
    simp +decide (disch := omega) only [lit, lit_neg, i_add, i_mul, i_sub, i_div, i_and, i_or, i_shl1, Nat.one_mul, i_shr1, i_bit1, i_lt, i_eq, i_in, i_cl, i_0, gI_sI, bi_0n, bi_1n, nz_bi, nz_0n, nz_1n, vn_0n, vn_1n, vn_bi, and_true, true_and, not_false_eq_true, not_true_eq_false, false_implies, true_implies, forall_const, implies_true, ite_true, ite_false, Bool.not_eq_true, Bool.not_eq_false, and_false, false_and, if_true, if_false, if_pos, true_or, or_true, false_or, or_false, k5 τ hb, Nat.lt_irrefl]
    exact g53 τ hb hm
