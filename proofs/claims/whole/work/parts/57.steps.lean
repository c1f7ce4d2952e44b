/-! the class: steps -/
theorem ss_18 : IsSS 18 := ⟨by decide, by decide, by decide, by decide⟩
theorem ss_16 : IsSS 16 := ⟨by decide, by decide, by decide, by decide⟩
theorem ss_20 : IsSS 20 := ⟨by decide, by decide, by decide, by decide⟩
theorem ss_22 : IsSS 22 := ⟨by decide, by decide, by decide, by decide⟩
theorem ss_24 : IsSS 24 := ⟨by decide, by decide, by decide, by decide⟩
theorem ss_26 : IsSS 26 := ⟨by decide, by decide, by decide, by decide⟩
theorem ss_28 : IsSS 28 := ⟨by decide, by decide, by decide, by decide⟩
theorem ss_1060 : IsSS 1060 := ⟨by decide, by decide, by decide, by decide⟩
theorem ss_1062 : IsSS 1062 := ⟨by decide, by decide, by decide, by decide⟩
theorem ss_all1 : ∀ s, s < 256 → isK wX (30 + 4 * s) 7 = true ∧ wR wX (30 + 4 * s) 0 = 30 + 4 * s + 1 ∧ isK wX (30 + 4 * s + 1) 22 = true ∧ wN wX (30 + 4 * s + 1) = 4 := by decide +kernel
theorem ss_all2 : ∀ s, s < 256 → isK wX (32 + 4 * s) 7 = true ∧ wR wX (32 + 4 * s) 0 = 32 + 4 * s + 1 ∧ isK wX (32 + 4 * s + 1) 22 = true ∧ wN wX (32 + 4 * s + 1) = 4 := by decide +kernel
theorem ss_goes {s : Nat} (h : s < 256) : IsSS (30 + 4 * s) := ss_all1 s h
theorem ss_leads {s : Nat} (h : s < 256) : IsSS (32 + 4 * s) := ss_all2 s h
theorem wr_goes : ∀ s, s < 256 → wR wX 14 s = 30 + 4 * s ∧ wR wX 15 s = 32 + 4 * s := by decide +kernel
theorem wr_all : ∀ k, k < 25 → wR wX 1055 k = 1064 + 4 * k := by decide +kernel
theorem cl_all1 : ∀ k, k < 25 → (isK wX (1064 + 4 * k) 0 = true ∧ wR wX (1064 + 4 * k) 0 = 1064 + 4 * k + 3 ∧ wR wX (1064 + 4 * k) 1 = 1064 + 4 * k + 1 ∧ isA wX (1064 + 4 * k + 3) = true ∧ isK wX (1064 + 4 * k + 3) 20 = true ∧ wN wX (1064 + 4 * k + 3) = (if k = 0 then 0 else 200)) := by decide +kernel
theorem cl_all2 : ∀ k, k < 25 → isK wX (1064 + 4 * k + 1) 7 = true ∧ wR wX (1064 + 4 * k + 1) 0 = 1064 + 4 * k + 1 + 1 ∧ isK wX (1064 + 4 * k + 1 + 1) 22 = true ∧ wN wX (1064 + 4 * k + 1 + 1) = 4 := by decide +kernel
theorem cl_frame {k : Nat} (h : k < 25) : IsCl (1064 + 4 * k) (if k = 0 then 0 else 200) := by
  obtain ⟨a, b, c, d, e, f⟩ := cl_all1 k h
  exact ⟨a, b, c, d, e, f, cl_all2 k h, by split <;> omega⟩
theorem cl_list : IsCl 1167 100 := ⟨by decide, by decide, by decide, by decide, by decide, by decide, ⟨by decide, by decide, by decide, by decide⟩, by decide⟩
def nSt (M : Ms) : Nat := 2 ^ M 0 1
/-- the steps, as far as they are renewed -/
def XT (M : Ms) (σ : Sg) : Prop := SS σ 18 (fun s => decide (s < nSt M) && isBadS M s) ∧ ∀ s, s < nSt M → SS σ (30 + 4 * s) (fun t => ldsB M s t)
def XSt (M : Ms) (σ : Sg) : Prop := gI σ 13 10 = 1 ∨ (gI σ 13 10 = 0 ∧ XT M σ)
theorem xs_from {σ : Sg} {s : Nat} {Q : Nat → Prop} (hs : s < 256) (hq : Q (30 + 4 * s)) : wp_X8_from (nI s) σ Q := by
  unfold wp_X8_from
  simp +decide (disch := omega) only [lit, lit_neg, i_add, i_mul, i_sub, i_div, i_and, i_or, i_shl1, Nat.one_mul, i_shr1, i_bit1, i_lt, i_eq, i_in, i_cl, i_0, gI_sI, bi_0n, bi_1n, nz_bi, nz_0n, nz_1n, vn_0n, vn_1n, vn_bi, and_true, true_and, not_false_eq_true, not_true_eq_false, false_implies, true_implies, forall_const, implies_true, ite_true, ite_false, Bool.not_eq_true, Bool.not_eq_false, and_false, false_and, if_true, if_false, if_pos, true_or, or_true, false_or, or_false, hs]
  rw [(wr_goes s hs).1]
  exact ⟨by omega, fun _ => hq⟩
theorem xs_leadsFrom {σ : Sg} {s : Nat} {Q : Nat → Prop} (hs : s < 256) (hq : Q (32 + 4 * s)) : wp_X8_leadsFrom (nI s) σ Q := by
  unfold wp_X8_leadsFrom
  simp +decide (disch := omega) only [lit, lit_neg, i_add, i_mul, i_sub, i_div, i_and, i_or, i_shl1, Nat.one_mul, i_shr1, i_bit1, i_lt, i_eq, i_in, i_cl, i_0, gI_sI, bi_0n, bi_1n, nz_bi, nz_0n, nz_1n, vn_0n, vn_1n, vn_bi, and_true, true_and, not_false_eq_true, not_true_eq_false, false_implies, true_implies, forall_const, implies_true, ite_true, ite_false, Bool.not_eq_true, Bool.not_eq_false, and_false, false_and, if_true, if_false, if_pos, true_or, or_true, false_or, or_false, hs]
  rw [(wr_goes s hs).2]
  exact ⟨by omega, fun _ => hq⟩
theorem Ev.keptL {T : Nat → Prop} {M : Ms} {σ τ : Sg} {s n : Nat} (h : Ev M σ s n) (hb : ButL T σ τ) : Ev M τ s n := fun p hp => by rw [hb.1]; exact h p hp
theorem XMm.keptL {T : Nat → Prop} {M : Ms} {σ τ : Sg} (h : XMm M σ) (hb : ButL T σ τ) : XMm M τ := h.kept (S := fun _ _ => False) (fun a k _ => hb.1 a k) (fun _ _ _ z => z)
theorem xs_renewFrom {M : Ms} {σ : Sg} {s o : Nat} {Q : Sg → Prop} (hW : WFm M) (hm : XMm M σ) (he : Ev M σ s (M 0 0)) (ho : IsSS o) (hq : ∀ τ, ButL (fun a => a = o + 1) σ τ → SS τ o (fun t => ldsB M s t) → Q τ) : wp_X8_renewFrom o σ Q := by
  have h16 := pow_le4 hW.2.2.1
  have h256 := pow_le8 hW.2.1
  intro L14 h14
  rw [ho.1]
  simp only [onB, cond_true]
  refine ss_empty ho (fun τ hb hs => ?_)
  refine xs_right hW (hm.keptL hb) (he.keptL hb) ?_
  have hbl := bits_lt65 (f := rightB M s) h16
  refine up_loopS (L := fun c τ => L14 (nI (bitsN (2 ^ M 0 2) (rightB M s))) c τ) (I := fun c τ => ButL (fun a => a = o + 1) σ τ ∧ SS τ o (fun t => ldU M s t c)) (2 ^ M 0 2) ?_ ?_ 0 τ (Nat.zero_le _) ⟨hb, hs⟩
  · intro c τ hc ⟨hb, hs⟩ nx
    apply h14
    refine xs_choices hW (hm.keptL hb) ?_
    simp +decide (disch := omega) only [lit, lit_neg, i_add, i_mul, i_sub, i_div, i_and, i_or, i_shl1, Nat.one_mul, i_shr1, i_bit1, i_lt, i_eq, i_in, i_cl, i_0, gI_sI, bi_0n, bi_1n, nz_bi, nz_0n, nz_1n, vn_0n, vn_1n, vn_bi, and_true, true_and, not_false_eq_true, not_true_eq_false, false_implies, true_implies, forall_const, implies_true, ite_true, ite_false, Bool.not_eq_true, Bool.not_eq_false, and_false, false_and, if_true, if_false, if_pos, true_or, or_true, false_or, or_false, hc, bitsN_bit, decide_true, Bool.true_and, show bitsN (2 ^ M 0 2) (rightB M s) < 2147483648 by omega]
    refine ⟨fun z => xs_after hW (hm.keptL hb) (he.keptL hb) hc ?_, fun z => nx τ ⟨hb, SS_congr hs (fun t _ => by simp only [ldU, anyN]; rw [z]; simp)⟩⟩
    have hn := nxtN_lt M s c
    rw [ho.1]
    simp only [onB, cond_true]
    refine ss_put ho hs (by omega) (fun υ hb2 hs2 => nx υ ⟨hb.tr hb2, SS_congr hs2 (fun t _ => ?_)⟩)
    simp only [ldU, anyN]
    rw [z, Bool.true_and]
    congr 1
    exact decide_eq_decide.mpr ⟨fun e => e.symm, fun e => e.symm⟩
  · intro τ ⟨hb, hs⟩
    apply h14
    refine xs_choices hW (hm.keptL hb) ?_
    simp +decide (disch := omega) only [lit, lit_neg, i_add, i_mul, i_sub, i_div, i_and, i_or, i_shl1, Nat.one_mul, i_shr1, i_bit1, i_lt, i_eq, i_in, i_cl, i_0, gI_sI, bi_0n, bi_1n, nz_bi, nz_0n, nz_1n, vn_0n, vn_1n, vn_bi, and_true, true_and, not_false_eq_true, not_true_eq_false, false_implies, true_implies, forall_const, implies_true, ite_true, ite_false, Bool.not_eq_true, Bool.not_eq_false, and_false, false_and, if_true, if_false, if_pos, true_or, or_true, false_or, or_false, Nat.lt_irrefl]
    exact hq τ hb (SS_congr hs (fun t _ => rfl))
/-- what renewing touches -/
def rnS (a k : Nat) : Prop := a = 7 ∨ (a = 13 ∧ k = 10)
def rnT (a : Nat) : Prop := a = 19 ∨ (31 ≤ a ∧ a ≤ 1053)
theorem bdN_0 {M : Ms} {s : Nat} (hW : WFm M) : (nI (bdN M s) = nI 0) = (isBadS M s = false) := by
  have h16 := pow_le4 hW.2.2.1
  have hbl := bits_lt65 (f := badB M s) h16
  unfold bdN isBadS
  rw [i_eq (by omega) (by omega)]
  refine propext ⟨fun h => anyN_f.mpr (fun c hc => ?_), fun h => ?_⟩
  · have := bitsN_bit (2 ^ M 0 2) (badB M s) c
    rw [h, decide_eq_true hc, Nat.zero_testBit] at this
    simpa using this.symm
  · apply nat_bits
    intro c
    rw [bitsN_bit, Nat.zero_testBit]
    by_cases hc : c < 2 ^ M 0 2
    · rw [anyN_f.mp h c hc, Bool.and_false]
    · rw [decide_eq_false hc, Bool.false_and]
theorem xs_renew {M : Ms} {σ : Sg} {Q : Sg → Prop} (hW : WFm M) (hm : XMm M σ) (ht : XSt M σ) (hq : ∀ τ, But2 rnS rnT σ τ → gI τ 13 10 = 0 → XT M τ → Q τ) : wp_X8_renew σ Q := by
  have h256 := pow_le8 hW.2.1
  intro L22 h22
  rcases ht with h1 | ⟨h0, hT⟩
  · rw [h1]
    refine ⟨fun z => absurd z (by decide), fun _ => ⟨nz_0, ?_⟩⟩
    have hb0 : But2 rnS rnT σ (sI σ 13 10 0) := But2.rf.up (Or.inr ⟨rfl, rfl⟩)
    have km : ∀ τ, But2 rnS rnT σ τ → XMm M τ := fun τ hb => hm.kept hb.b (fun a k h z => by unfold rnS at z; simp only [inXm] at h; omega)
    refine ss_empty ss_18 (fun τ hb hs => ?_)
    have hb1 := hb0.tr (hb.mono (U := rnT) (fun a z => Or.inl z)).b2
    refine up_loopS (I := fun i τ => But2 rnS rnT σ τ ∧ gI τ 13 10 = 0 ∧ SS τ 18 (fun s => decide (s < i) && isBadS M s) ∧ ∀ s, s < i → SS τ (30 + 4 * s) (fun t => ldsB M s t)) (2 ^ M 0 1) ?_ ?_ 0 τ (Nat.zero_le _) ⟨hb1, by rw [hb.1]; simp [gI_sI], SS_congr hs (fun s _ => by simp), fun s hs => absurd hs (by omega)⟩
    · intro i τ hi ⟨hb, hz, hs, hl⟩ nx
      apply h22
      refine xs_states hW (km τ hb) ?_
      simp +decide (disch := omega) only [lit, lit_neg, i_add, i_mul, i_sub, i_div, i_and, i_or, i_shl1, Nat.one_mul, i_shr1, i_bit1, i_lt, i_eq, i_in, i_cl, i_0, gI_sI, bi_0n, bi_1n, nz_bi, nz_0n, nz_1n, vn_0n, vn_1n, vn_bi, and_true, true_and, not_false_eq_true, not_true_eq_false, false_implies, true_implies, forall_const, implies_true, ite_true, ite_false, Bool.not_eq_true, Bool.not_eq_false, and_false, false_and, if_true, if_false, if_pos, true_or, or_true, false_or, or_false, hi]
      refine xs_evaluate hW (km τ hb) hi (fun υ hb2 he => ?_)
      have hb3 : But2 rnS rnT σ υ := hb.tr (hb2.mono (fun a k z => Or.inl z) (fun a z => z.elim))
      have hz3 : gI υ 13 10 = 0 := by rw [hb2.1 13 10 (by omega)]; exact hz
      have hs3 : SS υ 18 (fun s => decide (s < i) && isBadS M s) := hs.kept2 hb2 (fun z => z)
      have hl3 : ∀ s, s < i → SS υ (30 + 4 * s) (fun t => ldsB M s t) := fun s h => (hl s h).kept2 hb2 (fun z => z)
      have go : ∀ ω, ButL (fun a => a = 19) υ ω → SS ω 18 (fun s => decide (s < i + 1) && isBadS M s) → wp_X8_from (nI i) ω (fun r4 => wp_X8_renewFrom r4 ω (fun s5 => L22 (nI (i + 1)) s5)) := by
        intro ω hb4 hs4
        refine xs_from (by omega) (xs_renewFrom hW ((km υ hb3).keptL hb4) (he.keptL hb4) (ss_goes (by omega)) (fun ψ hb5 hs5 => nx ψ ⟨?_, ?_, ?_, ?_⟩))
        · exact (hb3.tr (hb4.mono (U := rnT) (fun a z => Or.inl z)).b2).tr (hb5.mono (U := rnT) (fun a z => Or.inr (by omega))).b2
        · rw [hb5.1, hb4.1]; exact hz3
        · exact hs4.kept hb5 (by omega)
        · intro s h
          by_cases e : s = i
          · subst e; exact hs5
          · exact ((hl3 s (by omega)).kept hb4 (by omega)).kept hb5 (by omega)
      refine xs_badLanes hW (km υ hb3) he ?_
      rw [bdN_0 hW]
      refine ⟨fun z => go υ ButL.rf (SS_congr hs3 (fun s _ => ?_)), fun z => ss_put ss_18 hs3 (by omega) (fun ω hb4 hs4 => go ω hb4 (SS_congr hs4 (fun s _ => ?_)))⟩
      · by_cases e : s = i
        · rw [e, z, Bool.and_false, Bool.and_false]
        · rw [show decide (s < i) = decide (s < i + 1) from decide_eq_decide.mpr (by omega)]
      · by_cases e : s = i
        · have : isBadS M i = true := by simpa using z
          rw [e, this]; simp
        · rw [show decide (s < i) = decide (s < i + 1) from decide_eq_decide.mpr (by omega), decide_eq_false e, Bool.or_false]
    · intro τ ⟨hb, hz, hs, hl⟩
      apply h22
      refine xs_states hW (km τ hb) ?_
      simp +decide (disch := omega) only [lit, lit_neg, i_add, i_mul, i_sub, i_div, i_and, i_or, i_shl1, Nat.one_mul, i_shr1, i_bit1, i_lt, i_eq, i_in, i_cl, i_0, gI_sI, bi_0n, bi_1n, nz_bi, nz_0n, nz_1n, vn_0n, vn_1n, vn_bi, and_true, true_and, not_false_eq_true, not_true_eq_false, false_implies, true_implies, forall_const, implies_true, ite_true, ite_false, Bool.not_eq_true, Bool.not_eq_false, and_false, false_and, if_true, if_false, if_pos, true_or, or_true, false_or, or_false, Nat.lt_irrefl]
      exact hq τ hb hz ⟨hs, hl⟩
  · rw [h0]
    exact ⟨fun _ => hq σ But2.rf h0 hT, fun z => absurd rfl z⟩
