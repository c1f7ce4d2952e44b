/-! the reference: what comes, and the tables -/
def cmN (M : Ms) (s c : Nat) : Nat → Nat
  | 0 => 0
  | i + 1 => if (M 1 i = 1 ∨ M 1 i = 2) ∧ sgv (val M s c) (M 2 i - 1) = true then cmN M s c i ||| 2 ^ M 4 i else cmN M s c i
theorem cmN_bit (M : Ms) (s c : Nat) (j : Nat) : ∀ i, (cmN M s c i).testBit j = anyN i (fun p => decide ((M 1 p = 1 ∨ M 1 p = 2) ∧ M 4 p = j) && sgv (val M s c) (M 2 p - 1)) := by
  intro i
  induction i with
  | zero => simp [cmN, anyN]
  | succ i ih =>
    simp only [cmN, anyN]
    by_cases h : (M 1 i = 1 ∨ M 1 i = 2) ∧ sgv (val M s c) (M 2 i - 1) = true
    · rw [if_pos h, Nat.testBit_or, ih, Nat.testBit_two_pow, h.2]
      simp [h.1]
    · rw [if_neg h, ih]
      by_cases h1 : M 1 i = 1 ∨ M 1 i = 2
      · have : sgv (val M s c) (M 2 i - 1) = false := by
          cases hq : sgv (val M s c) (M 2 i - 1)
          · rfl
          · exact absurd ⟨h1, hq⟩ h
        simp [this]
      · simp [h1]
theorem cmN_lt {M : Ms} (hW : WFm M) (s c : Nat) : ∀ i, i ≤ M 0 0 → cmN M s c i < 2 ^ M 0 1 := by
  intro i
  induction i with
  | zero => intro _; simp [cmN]; exact Nat.pow_pos (by decide)
  | succ i ih =>
    intro hi
    have := ih (by omega)
    simp only [cmN]
    split
    · rename_i h
      refine Nat.or_lt_two_pow this ?_
      exact Nat.pow_lt_pow_right (by decide) ((hW.2.2.2.2.2.2.2.2.1 i (by omega)).2.2.2.2.1 h.1).2.1
    · exact this
theorem cmN_nxt {M : Ms} (hW : WFm M) (s c : Nat) : cmN M s c (M 0 0) = nxtN M s c := by
  apply nat_bits
  intro j
  have hb := hW.2.2.2.2.2.2.2.2.2.1
  have hp := hW.2.2.2.2.2.2.2.2.1
  rw [cmN_bit, nxtN, bitsN_bit]
  by_cases hj : j < M 0 1
  · obtain ⟨b1, b2, b3⟩ := hb j hj
    cases hs : sgv (val M s c) (M 2 (M 7 j) - 1)
    · rw [Bool.and_false]
      rw [anyN_f]
      intro p hpp
      by_cases e : (M 1 p = 1 ∨ M 1 p = 2) ∧ M 4 p = j
      · have := ((hp p hpp).2.2.2.2.1 e.1).2.2.1
        rw [e.2] at this
        rw [this] at hs
        simp [hs]
      · simp [e]
    · simp only [hj, decide_true, Bool.and_true]
      rw [anyN_iff]
      exact ⟨M 7 j, b1, by simp [b2, b3, hs]⟩
  · simp only [hj, decide_false, Bool.false_and]
    rw [anyN_f]
    intro p hpp
    by_cases e : (M 1 p = 1 ∨ M 1 p = 2) ∧ M 4 p = j
    · have := ((hp p hpp).2.2.2.2.1 e.1).2.1
      omega
    · simp [e]
theorem nxtN_lt (M : Ms) (s c : Nat) : nxtN M s c < 2 ^ M 0 1 := bitsN_lt _ _
theorem sp_comes {M : Ms} {σ : Sg} {s c : Nat} {Q : Int32 → Prop} (hW : WFm M) (hR : RMm M σ) (hv : Shown M σ s c) (hq : Q (nI (nxtN M s c))) : wp_X10_comes σ Q := by
  have hW' := hW
  obtain ⟨w0, w1, w2, w3, -, -, -, -, wp, -, wa, -⟩ := hW
  obtain ⟨r5, -, -, -, -, r10, -, rp, ra, -⟩ := hR
  have h256 := pow_le8 w1
  intro L4 h4
  refine up_loopS (L := fun i x => L4 x i) (I := fun i x => x = nI (cmN M s c i)) (M 0 0) ?_ ?_ 0 _ (Nat.zero_le _) rfl
  · intro i x hi hx k
    subst hx
    apply h4
    obtain ⟨r1, r2, r3, r4⟩ := rp i hi
    obtain ⟨g0, g1, -, -, g2, -, -⟩ := wp i hi
    have h80 : i < 80 := by omega
    by_cases h1 : M 1 i = 1
    · obtain ⟨q1, q2, -⟩ := g2 (Or.inl h1)
      simp +decide (disch := omega) only [lit, lit_neg, i_add, i_mul, i_sub, i_div, i_and, i_or, i_shl1, Nat.one_mul, i_shr1, i_bit1, i_lt, i_eq, i_in, i_cl, i_0, gI_sI, bi_0n, bi_1n, nz_bi, nz_0n, nz_1n, vn_0n, vn_1n, vn_bi, and_true, true_and, not_false_eq_true, not_true_eq_false, false_implies, true_implies, forall_const, implies_true, ite_true, ite_false, Bool.not_eq_true, Bool.not_eq_false, and_false, false_and, if_true, if_false, if_pos, true_or, or_true, false_or, or_false, hi, h80, r5, r1, h1, r2, e1_p q1]
      refine sp_isg hW' hv (by omega) ?_
      simp +decide (disch := omega) only [lit, lit_neg, i_add, i_mul, i_sub, i_div, i_and, i_or, i_shl1, Nat.one_mul, i_shr1, i_bit1, i_lt, i_eq, i_in, i_cl, i_0, gI_sI, bi_0n, bi_1n, nz_bi, nz_0n, nz_1n, vn_0n, vn_1n, vn_bi, and_true, true_and, not_false_eq_true, not_true_eq_false, false_implies, true_implies, forall_const, implies_true, ite_true, ite_false, Bool.not_eq_true, Bool.not_eq_false, and_false, false_and, if_true, if_false, if_pos, true_or, or_true, false_or, or_false, r4 (by omega), i_1shl1]
      exact ⟨fun e => k _ (by simp [cmN, e]), fun e => k _ (by simp [cmN, h1, e])⟩
    by_cases h2 : M 1 i = 2
    · obtain ⟨q1, q2, -⟩ := g2 (Or.inr h2)
      simp +decide (disch := omega) only [lit, lit_neg, i_add, i_mul, i_sub, i_div, i_and, i_or, i_shl1, Nat.one_mul, i_shr1, i_bit1, i_lt, i_eq, i_in, i_cl, i_0, gI_sI, bi_0n, bi_1n, nz_bi, nz_0n, nz_1n, vn_0n, vn_1n, vn_bi, and_true, true_and, not_false_eq_true, not_true_eq_false, false_implies, true_implies, forall_const, implies_true, ite_true, ite_false, Bool.not_eq_true, Bool.not_eq_false, and_false, false_and, if_true, if_false, if_pos, true_or, or_true, false_or, or_false, hi, h80, r5, r1, h2, r2, e1_p q1]
      refine sp_isg hW' hv (by omega) ?_
      simp +decide (disch := omega) only [lit, lit_neg, i_add, i_mul, i_sub, i_div, i_and, i_or, i_shl1, Nat.one_mul, i_shr1, i_bit1, i_lt, i_eq, i_in, i_cl, i_0, gI_sI, bi_0n, bi_1n, nz_bi, nz_0n, nz_1n, vn_0n, vn_1n, vn_bi, and_true, true_and, not_false_eq_true, not_true_eq_false, false_implies, true_implies, forall_const, implies_true, ite_true, ite_false, Bool.not_eq_true, Bool.not_eq_false, and_false, false_and, if_true, if_false, if_pos, true_or, or_true, false_or, or_false, r4 (by omega), i_1shl1]
      exact ⟨fun e => k _ (by simp [cmN, e]), fun e => k _ (by simp [cmN, h2, e])⟩
    · simp +decide (disch := omega) only [lit, lit_neg, i_add, i_mul, i_sub, i_div, i_and, i_or, i_shl1, Nat.one_mul, i_shr1, i_bit1, i_lt, i_eq, i_in, i_cl, i_0, gI_sI, bi_0n, bi_1n, nz_bi, nz_0n, nz_1n, vn_0n, vn_1n, vn_bi, and_true, true_and, not_false_eq_true, not_true_eq_false, false_implies, true_implies, forall_const, implies_true, ite_true, ite_false, Bool.not_eq_true, Bool.not_eq_false, and_false, false_and, if_true, if_false, if_pos, true_or, or_true, false_or, or_false, hi, h80, r5, r1, h1, h2]
      exact k _ (by simp [cmN, h1, h2])
  · intro x hx
    subst hx
    apply h4
    simp +decide (disch := omega) only [lit, lit_neg, i_add, i_mul, i_sub, i_div, i_and, i_or, i_shl1, Nat.one_mul, i_shr1, i_bit1, i_lt, i_eq, i_in, i_cl, i_0, gI_sI, bi_0n, bi_1n, nz_bi, nz_0n, nz_1n, vn_0n, vn_1n, vn_bi, and_true, true_and, not_false_eq_true, not_true_eq_false, false_implies, true_implies, forall_const, implies_true, ite_true, ite_false, Bool.not_eq_true, Bool.not_eq_false, and_false, false_and, if_true, if_false, if_pos, true_or, or_true, false_or, or_false, r5, Nat.lt_irrefl]
    rw [cmN_nxt hW']
    exact hq
def toN (M : Ms) (s c : Nat) : Nat := if rightB M s c = true then nxtN M s c + 1 else 0
/-- what the tables hold for a state and choices -/
def ent (M : Ms) (τ : Sg) (s c : Nat) : Prop := gI τ 9 (16 * s + c) = e1 (toN M s c) ∧ gI τ 11 (16 * s + c) = bi (badB M s c) ∧ gI τ 10 (16 * s + c) = nI (fairN M s c)
def TB (M : Ms) (τ : Sg) : Prop := ∀ s c, s < 2 ^ M 0 1 → c < 2 ^ M 0 2 → ent M τ s c
def tabS (a k : Nat) : Prop := a = 5 ∨ a = 9 ∨ a = 10 ∨ a = 11 ∨ (a = 0 ∧ k = 18)
theorem tabS_mm : ∀ a k, inMm a k → ¬ tabS a k := by
  intro a k h
  simp only [inMm, tabS] at *
  omega
theorem e1_lt0 {n : Nat} (h : n < 2147483648) : (e1 n < nI 0) = (n = 0) := by
  cases n with
  | zero => exact propext ⟨fun _ => rfl, fun _ => by decide⟩
  | succ n => rw [e1_s, i_lt (by omega) (by decide)]; simp
theorem fairN_bound {M : Ms} (hW : WFm M) (s c f : Nat) (hf : f ≤ M 0 6) : bitsN f (fun f => sgv (val M s c) (M 6 f)) < 8 := by
  have h1 := bitsN_lt f (fun f => sgv (val M s c) (M 6 f))
  have h2 := hW.2.2.2.2.1
  have : 2 ^ f ≤ 2 ^ 3 := Nat.pow_le_pow_right (by decide) (by omega)
  omega
theorem bitsN_or (n : Nat) (f : Nat → Bool) (h : f n = true) : bitsN n f ||| 2 ^ n = bitsN (n + 1) f := by
  apply nat_bits
  intro j
  rw [Nat.testBit_or, bitsN_bit, bitsN_bit, Nat.testBit_two_pow]
  by_cases e : n = j
  · subst e; simp [h]
  · have : (j < n + 1) = (j < n) := by simp; omega
    simp [e, this]
theorem sp_table {M : Ms} {σ : Sg} {Q : Sg → Prop} (hW : WFm M) (hR : RMm M σ) (hT : gI σ 0 18 = 0 ∨ (gI σ 0 18 = 1 ∧ TB M σ))
    (hq : ∀ τ, But tabS σ τ → gI τ 0 18 = 1 → TB M τ → Q τ) : wp_X10_table σ Q := by
  have h256 := pow_le8 hW.2.1
  have h16 := pow_le4 hW.2.2.1
  have h3 := hW.2.2.2.2.1
  have h80 := hW.1
  intro L15 L25 L115 h15 h25 h115
  rcases hT with hT | ⟨hT, hTB⟩
  · have key := up_loopS (L := L15) (I := fun i τ => But tabS σ τ ∧ gI τ 0 18 = 1 ∧ ∀ s c, s < i → c < 2 ^ M 0 2 → ent M τ s c) (2 ^ M 0 1) ?_ ?_ 0 (sI σ 0 18 1) (Nat.zero_le _) ⟨But.rf.up (by simp [tabS]), by simp [gI_sI], fun s c hs => absurd hs (by omega)⟩
    · simp +decide (disch := omega) only [lit, lit_neg, i_add, i_mul, i_sub, i_div, i_and, i_or, i_shl1, Nat.one_mul, i_shr1, i_bit1, i_lt, i_eq, i_in, i_cl, i_0, gI_sI, bi_0n, bi_1n, nz_bi, nz_0n, nz_1n, vn_0n, vn_1n, vn_bi, and_true, true_and, not_false_eq_true, not_true_eq_false, false_implies, true_implies, forall_const, implies_true, ite_true, ite_false, Bool.not_eq_true, Bool.not_eq_false, and_false, false_and, if_true, if_false, if_pos, true_or, or_true, false_or, or_false, hT]
      exact key
    · intro i τ hi ⟨hb, h18, he⟩ k
      apply h15
      refine sp_states hW (hR.kept hb tabS_mm) ?_
      simp +decide (disch := omega) only [lit, lit_neg, i_add, i_mul, i_sub, i_div, i_and, i_or, i_shl1, Nat.one_mul, i_shr1, i_bit1, i_lt, i_eq, i_in, i_cl, i_0, gI_sI, bi_0n, bi_1n, nz_bi, nz_0n, nz_1n, vn_0n, vn_1n, vn_bi, and_true, true_and, not_false_eq_true, not_true_eq_false, false_implies, true_implies, forall_const, implies_true, ite_true, ite_false, Bool.not_eq_true, Bool.not_eq_false, and_false, false_and, if_true, if_false, if_pos, true_or, or_true, false_or, or_false, hi]
      refine up_loopS (L := L25 (nI i)) (I := fun j τ => But tabS σ τ ∧ gI τ 0 18 = 1 ∧ (∀ s c, s < i → c < 2 ^ M 0 2 → ent M τ s c) ∧ ∀ c, c < j → ent M τ i c) (2 ^ M 0 2) ?_ ?_ 0 τ (Nat.zero_le _) ⟨hb, h18, he, fun c hc => absurd hc (by omega)⟩
      · intro j τ hj ⟨hb, h18, he, hc⟩ k2
        apply h25
        refine sp_ways hW (hR.kept hb tabS_mm) ?_
        simp +decide (disch := omega) only [lit, lit_neg, i_add, i_mul, i_sub, i_div, i_and, i_or, i_shl1, Nat.one_mul, i_shr1, i_bit1, i_lt, i_eq, i_in, i_cl, i_0, gI_sI, bi_0n, bi_1n, nz_bi, nz_0n, nz_1n, vn_0n, vn_1n, vn_bi, and_true, true_and, not_false_eq_true, not_true_eq_false, false_implies, true_implies, forall_const, implies_true, ite_true, ite_false, Bool.not_eq_true, Bool.not_eq_false, and_false, false_and, if_true, if_false, if_pos, true_or, or_true, false_or, or_false, hj]
        refine sp_show hW (hR.kept hb tabS_mm) hi hj (fun υ hb2 hv => ?_)
        have hbu : But tabS σ υ := hb.tr (hb2.mono (fun a k h => Or.inl h))
        have hRu := hR.kept hbu tabS_mm
        have h18u : gI υ 0 18 = 1 := by rw [hb2 0 18 (by simp)]; exact h18
        have heu : ∀ s c, s < i → c < 2 ^ M 0 2 → ent M υ s c := fun s c hs hc => by
          have := he s c hs hc
          unfold ent at this ⊢
          rw [hb2 9 _ (by simp), hb2 11 _ (by simp), hb2 10 _ (by simp)]
          exact this
        have hcu : ∀ c, c < j → ent M υ i c := fun c hcj => by
          have := hc c hcj
          unfold ent at this ⊢
          rw [hb2 9 _ (by simp), hb2 11 _ (by simp), hb2 10 _ (by simp)]
          exact this
        have fin : L115 (nI i) (nI j) (nI (16 * i + j)) (nI 0) (sI (sI (sI υ 9 (16 * i + j) (e1 (toN M i j))) 11 (16 * i + j) (bi (badB M i j))) 10 (16 * i + j) (nI 0)) := by
          refine up_loopS (L := fun x4 τ => L115 (nI i) (nI j) (nI (16 * i + j)) x4 τ) (I := fun f τ => But tabS σ τ ∧ gI τ 0 18 = 1 ∧ Shown M τ i j ∧ (∀ s c, s < i → c < 2 ^ M 0 2 → ent M τ s c) ∧ (∀ c, c < j → ent M τ i c) ∧ gI τ 9 (16 * i + j) = e1 (toN M i j) ∧ gI τ 11 (16 * i + j) = bi (badB M i j) ∧ gI τ 10 (16 * i + j) = nI (bitsN f (fun f => sgv (val M i j) (M 6 f)))) (M 0 6) ?_ ?_ 0 _ (Nat.zero_le _) ?_
          · intro f τ hf ⟨b, c18, cv, ce, cc, c9, c11, c10⟩ k3
            apply h115
            obtain ⟨-, -, -, -, -, -, r11, -, -, rf⟩ := hR.kept b tabS_mm
            have hg := hW.2.2.2.2.2.2.2.2.2.2.2 f hf
            have hbd := fairN_bound hW i j f (by omega)
            simp +decide (disch := omega) only [lit, lit_neg, i_add, i_mul, i_sub, i_div, i_and, i_or, i_shl1, Nat.one_mul, i_shr1, i_bit1, i_lt, i_eq, i_in, i_cl, i_0, gI_sI, bi_0n, bi_1n, nz_bi, nz_0n, nz_1n, vn_0n, vn_1n, vn_bi, and_true, true_and, not_false_eq_true, not_true_eq_false, false_implies, true_implies, forall_const, implies_true, ite_true, ite_false, Bool.not_eq_true, Bool.not_eq_false, and_false, false_and, if_true, if_false, if_pos, true_or, or_true, false_or, or_false, r11, hf, show 16 * i + j < 4096 by omega, show f < 3 by omega, rf f hf]
            refine sp_isg hW cv hg ?_
            have upd : ∀ v, v = nI (bitsN (f + 1) (fun f => sgv (val M i j) (M 6 f))) → L115 (nI i) (nI j) (nI (16 * i + j)) (nI (f + 1)) (sI τ 10 (16 * i + j) v) := fun v hv => k3 _ ⟨b.up (by simp [tabS]), by rw [gI_sI]; simp [c18], fun p hp => by rw [gI_sI]; simp [cv p hp], fun s c hs hc => by
                have := ce s c hs hc
                unfold ent at this ⊢
                simp only [gI_sI]
                rw [if_neg (by omega), if_neg (by omega), if_neg (by omega)]
                exact this, fun c hc => by
                have := cc c hc
                unfold ent at this ⊢
                simp only [gI_sI]
                rw [if_neg (by omega), if_neg (by omega), if_neg (by omega)]
                exact this, by rw [gI_sI, if_neg (by omega)]; exact c9, by rw [gI_sI, if_neg (by omega)]; exact c11, by rw [gI_sI, if_pos ⟨rfl, rfl⟩]; exact hv⟩
            have h2f : 2 ^ f < 4294967296 := by
              have : 2 ^ f ≤ 2 ^ 3 := Nat.pow_le_pow_right (by decide) (by omega)
              omega
            simp +decide (disch := omega) only [lit, lit_neg, i_add, i_mul, i_sub, i_div, i_and, i_or, i_shl1, Nat.one_mul, i_shr1, i_bit1, i_lt, i_eq, i_in, i_cl, i_0, gI_sI, bi_0n, bi_1n, nz_bi, nz_0n, nz_1n, vn_0n, vn_1n, vn_bi, and_true, true_and, not_false_eq_true, not_true_eq_false, false_implies, true_implies, forall_const, implies_true, ite_true, ite_false, Bool.not_eq_true, Bool.not_eq_false, and_false, false_and, if_true, if_false, if_pos, true_or, or_true, false_or, or_false, c10, i_1shl1, Nat.or_zero]
            exact ⟨fun e => upd _ (by simp [bitsN, e]), fun e => upd _ (by rw [bitsN_or f (fun f => sgv (val M i j) (M 6 f)) e])⟩
          · intro τ ⟨b, c18, cv, ce, cc, c9, c11, c10⟩
            apply h115
            obtain ⟨-, -, -, -, -, -, r11, -⟩ := hR.kept b tabS_mm
            simp +decide (disch := omega) only [lit, lit_neg, i_add, i_mul, i_sub, i_div, i_and, i_or, i_shl1, Nat.one_mul, i_shr1, i_bit1, i_lt, i_eq, i_in, i_cl, i_0, gI_sI, bi_0n, bi_1n, nz_bi, nz_0n, nz_1n, vn_0n, vn_1n, vn_bi, and_true, true_and, not_false_eq_true, not_true_eq_false, false_implies, true_implies, forall_const, implies_true, ite_true, ite_false, Bool.not_eq_true, Bool.not_eq_false, and_false, false_and, if_true, if_false, if_pos, true_or, or_true, false_or, or_false, r11, Nat.lt_irrefl]
            refine k2 τ ⟨b, c18, ce, fun c hc => ?_⟩
            by_cases e : c = j
            · subst e; exact ⟨c9, c11, c10⟩
            · exact cc c (by omega)
          · refine ⟨((hbu.up (by simp [tabS])).up (by simp [tabS])).up (by simp [tabS]), by simp [gI_sI, h18u], fun p hp => by simp [gI_sI, hv p hp], fun s c hs hc => ?_, fun c hc => ?_, by simp [gI_sI], by simp [gI_sI], by simp [gI_sI, bitsN]⟩
            · have := heu s c hs hc
              unfold ent at this ⊢
              simp only [gI_sI]
              rw [if_neg (by omega), if_neg (by omega), if_neg (by omega), if_neg (by omega), if_neg (by omega), if_neg (by omega), if_neg (by omega), if_neg (by omega), if_neg (by omega)]
              exact this
            · have := hcu c hc
              unfold ent at this ⊢
              simp only [gI_sI]
              rw [if_neg (by omega), if_neg (by omega), if_neg (by omega), if_neg (by omega), if_neg (by omega), if_neg (by omega), if_neg (by omega), if_neg (by omega), if_neg (by omega)]
              exact this
        refine sp_isRight hW hRu hv ?_
        have hn := nxtN_lt M i j
        have hbad := hW.2.2.2.2.2.2.1
        simp +decide (disch := omega) only [lit, lit_neg, i_add, i_mul, i_sub, i_div, i_and, i_or, i_shl1, Nat.one_mul, i_shr1, i_bit1, i_lt, i_eq, i_in, i_cl, i_0, gI_sI, bi_0n, bi_1n, nz_bi, nz_0n, nz_1n, vn_0n, vn_1n, vn_bi, and_true, true_and, not_false_eq_true, not_true_eq_false, false_implies, true_implies, forall_const, implies_true, ite_true, ite_false, Bool.not_eq_true, Bool.not_eq_false, and_false, false_and, if_true, if_false, if_pos, true_or, or_true, false_or, or_false, show 16 * i + j < 4096 by omega, e1_lt0, and_self]
        refine ⟨fun e => ?_, fun e => ?_⟩
        · have e1' : toN M i j = 0 := by simp [toN, e]
          have e2 : badB M i j = false := by simp [badB, e]
          rw [e1', e2] at fin
          exact fin
        · refine sp_comes hW hRu hv ?_
          have e1' : e1 (toN M i j) = nI (nxtN M i j) := by simp [toN, e, e1_s]
          simp +decide (disch := omega) only [lit, lit_neg, i_add, i_mul, i_sub, i_div, i_and, i_or, i_shl1, Nat.one_mul, i_shr1, i_bit1, i_lt, i_eq, i_in, i_cl, i_0, gI_sI, bi_0n, bi_1n, nz_bi, nz_0n, nz_1n, vn_0n, vn_1n, vn_bi, and_true, true_and, not_false_eq_true, not_true_eq_false, false_implies, true_implies, forall_const, implies_true, ite_true, ite_false, Bool.not_eq_true, Bool.not_eq_false, and_false, false_and, if_true, if_false, if_pos, true_or, or_true, false_or, or_false, hRu.2.2.2.2.1, e1_lt0, Nat.not_lt_zero, show 16 * i + j < 4096 by omega, and_self]
          rw [e1'] at fin
          refine ⟨fun e3 => ?_, fun e3 => ?_⟩
          · have e2 : badB M i j = false := by simp [badB, e, e3]
            rw [e2] at fin
            exact fin
          · rw [e1_p (by omega)]
            refine sp_isg (s := i) (c := j) hW (fun p hp => by simp [gI_sI, hv p hp]) (by omega) ?_
            simp +decide (disch := omega) only [lit, lit_neg, i_add, i_mul, i_sub, i_div, i_and, i_or, i_shl1, Nat.one_mul, i_shr1, i_bit1, i_lt, i_eq, i_in, i_cl, i_0, gI_sI, bi_0n, bi_1n, nz_bi, nz_0n, nz_1n, vn_0n, vn_1n, vn_bi, and_true, true_and, not_false_eq_true, not_true_eq_false, false_implies, true_implies, forall_const, implies_true, ite_true, ite_false, Bool.not_eq_true, Bool.not_eq_false, and_false, false_and, if_true, if_false, if_pos, true_or, or_true, false_or, or_false]
            have e2 : badB M i j = sgv (val M i j) (M 0 4 - 1) := by simp [badB, e]; intro; omega
            rw [e2] at fin
            exact ⟨fun e4 => by rw [e4] at fin; exact fin, fun e4 => by rw [e4] at fin; exact fin⟩
      · intro τ ⟨hb, h18, he, hc⟩
        apply h25
        refine sp_ways hW (hR.kept hb tabS_mm) ?_
        simp +decide (disch := omega) only [lit, lit_neg, i_add, i_mul, i_sub, i_div, i_and, i_or, i_shl1, Nat.one_mul, i_shr1, i_bit1, i_lt, i_eq, i_in, i_cl, i_0, gI_sI, bi_0n, bi_1n, nz_bi, nz_0n, nz_1n, vn_0n, vn_1n, vn_bi, and_true, true_and, not_false_eq_true, not_true_eq_false, false_implies, true_implies, forall_const, implies_true, ite_true, ite_false, Bool.not_eq_true, Bool.not_eq_false, and_false, false_and, if_true, if_false, if_pos, true_or, or_true, false_or, or_false, Nat.lt_irrefl]
        refine k τ ⟨hb, h18, fun s c hs hcc => ?_⟩
        by_cases e : s = i
        · subst e; exact hc c hcc
        · exact he s c (by omega) hcc
    · intro τ ⟨hb, h18, he⟩
      apply h15
      refine sp_states hW (hR.kept hb tabS_mm) ?_
      simp +decide (disch := omega) only [lit, lit_neg, i_add, i_mul, i_sub, i_div, i_and, i_or, i_shl1, Nat.one_mul, i_shr1, i_bit1, i_lt, i_eq, i_in, i_cl, i_0, gI_sI, bi_0n, bi_1n, nz_bi, nz_0n, nz_1n, vn_0n, vn_1n, vn_bi, and_true, true_and, not_false_eq_true, not_true_eq_false, false_implies, true_implies, forall_const, implies_true, ite_true, ite_false, Bool.not_eq_true, Bool.not_eq_false, and_false, false_and, if_true, if_false, if_pos, true_or, or_true, false_or, or_false, Nat.lt_irrefl]
      exact hq τ hb h18 he
  · rw [hT]
    simp +decide (disch := omega) only [lit, lit_neg, i_add, i_mul, i_sub, i_div, i_and, i_or, i_shl1, Nat.one_mul, i_shr1, i_bit1, i_lt, i_eq, i_in, i_cl, i_0, gI_sI, bi_0n, bi_1n, nz_bi, nz_0n, nz_1n, vn_0n, vn_1n, vn_bi, and_true, true_and, not_false_eq_true, not_true_eq_false, false_implies, true_implies, forall_const, implies_true, ite_true, ite_false, Bool.not_eq_true, Bool.not_eq_false, and_false, false_and, if_true, if_false, if_pos, true_or, or_true, false_or, or_false]
    exact hq σ But.rf hT hTB
