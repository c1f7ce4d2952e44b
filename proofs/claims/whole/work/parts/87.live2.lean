/-! the class: live, its loop -/
def only7 (a _k : Nat) : Prop := a = 7
theorem XMm.o7 {T : Nat → Prop} {M : Ms} {σ τ : Sg} (h : XMm M σ) (hb : But2 only7 T σ τ) : XMm M τ := h.kept hb.1 (fun a k z => by simp only [inXm] at z; unfold only7; omega)
theorem xs_isInCircle {M : Ms} {σ : Sg} {g : Nat} {C : Nat → Bool} {Q : Int32 → Sg → Prop} (hW : WFm M) (hm : XMm M σ) (hg : g < 2 * M 0 0) (hC : SS σ 26 C) (hq : ∀ τ, But2 only7 (fun _ => False) σ τ → Q (bi (anyN (2 ^ M 0 1) (inC1 M C g))) τ) : wp_X8_isInCircle (nI g) σ Q := by
  have h256 := pow_le8 hW.2.1
  have h16 := pow_le4 hW.2.2.1
  intro L2 L52 h2 h52
  refine up_loopS (I := fun i τ => But2 only7 (fun _ => False) σ τ ∧ ∀ u, u < i → inC1 M C g u = false) (2 ^ M 0 1) ?_ ?_ 0 σ (Nat.zero_le _) ⟨But2.rf, fun u hu => absurd hu (by omega)⟩
  · intro u τ hu ⟨hb, hI⟩ nx
    have nx' : ∀ υ, But2 only7 (fun _ => False) σ υ → inC1 M C g u = false → L2 (nI (u + 1)) υ := fun υ hbυ h => nx υ ⟨hbυ, fun s hs => by
      by_cases e : s = u
      · rw [e]; exact h
      · exact hI s (by omega)⟩
    apply h2
    refine xs_states hW (hm.o7 hb) ?_
    simp +decide (disch := omega) only [lit, lit_neg, i_add, i_mul, i_sub, i_div, i_and, i_or, i_shl1, Nat.one_mul, i_shr1, i_bit1, i_lt, i_eq, i_in, i_cl, i_0, gI_sI, bi_0n, bi_1n, nz_bi, nz_0n, nz_1n, vn_0n, vn_1n, vn_bi, and_true, true_and, not_false_eq_true, not_true_eq_false, false_implies, true_implies, forall_const, implies_true, ite_true, ite_false, Bool.not_eq_true, Bool.not_eq_false, and_false, false_and, if_true, if_false, if_pos, true_or, or_true, false_or, or_false, hu]
    refine ss_has ss_26 (hC.kept2 hb (fun z => z)) (by omega) ?_
    rw [bi_0n]
    refine ⟨fun z => nx' τ hb (by unfold inC1; rw [z]; rfl), fun z => ?_⟩
    have z : C u = true := by simpa using z
    refine xs_evaluate hW (hm.o7 hb) hu (fun υ hb2 he => ?_)
    have hb3 : But2 only7 (fun _ => False) σ υ := hb.tr hb2
    have hm3 := hm.o7 hb3
    refine xs_right hW hm3 he (xs_sign hW hm3 he (Nat.le_refl _) (by omega) ?_)
    rw [i_and]
    unfold sgl
    rw [bits_and h16]
    have hbl := bits_lt65 (f := fun c => rightB M u c && sgv (val M u c) g) h16
    refine up_loop (L := fun c => L52 (nI u) (nI (bitsN (2 ^ M 0 2) (fun c => rightB M u c && sgv (val M u c) g))) c υ) (I := fun c => ∀ d, d < c → ((rightB M u d && sgv (val M u d) g) && C (nxtN M u d)) = false) (2 ^ M 0 2) ?_ ?_ 0 (Nat.zero_le _) (fun d hd => absurd hd (by omega))
    · intro c hc hI2 nx2
      have nx2' : ((rightB M u c && sgv (val M u c) g) && C (nxtN M u c)) = false → L52 (nI u) (nI (bitsN (2 ^ M 0 2) (fun c => rightB M u c && sgv (val M u c) g))) (nI (c + 1)) υ := fun h => nx2 (fun d hd => by
        by_cases e : d = c
        · rw [e]; exact h
        · exact hI2 d (by omega))
      apply h52
      refine xs_choices hW hm3 ?_
      have hn := nxtN_lt M u c
      simp +decide (disch := omega) only [lit, lit_neg, i_add, i_mul, i_sub, i_div, i_and, i_or, i_shl1, Nat.one_mul, i_shr1, i_bit1, i_lt, i_eq, i_in, i_cl, i_0, gI_sI, bi_0n, bi_1n, nz_bi, nz_0n, nz_1n, vn_0n, vn_1n, vn_bi, and_true, true_and, not_false_eq_true, not_true_eq_false, false_implies, true_implies, forall_const, implies_true, ite_true, ite_false, Bool.not_eq_true, Bool.not_eq_false, and_false, false_and, if_true, if_false, if_pos, true_or, or_true, false_or, or_false, hc, bitsN_bit, decide_true, Bool.true_and, show bitsN (2 ^ M 0 2) (fun c => rightB M u c && sgv (val M u c) g) < 2147483648 by omega]
      refine ⟨fun w => xs_after hW hm3 he hc ?_, fun w => nx2' (by rw [w]; rfl)⟩
      refine ss_has ss_26 (hC.kept2 hb3 (fun z => z)) (by omega) ?_
      rw [bi_0n]
      refine ⟨fun w2 => nx2' (by rw [w2, Bool.and_false]), fun w2 => ?_⟩
      have w2 : C (nxtN M u c) = true := by simpa using w2
      have := hq υ hb3
      rw [anyN_iff.mpr ⟨u, hu, by unfold inC1; rw [z, Bool.true_and]; exact anyN_iff.mpr ⟨c, hc, by rw [w, w2]; rfl⟩⟩] at this
      exact this
    · intro hI2
      apply h52
      refine xs_choices hW hm3 ?_
      simp +decide (disch := omega) only [lit, lit_neg, i_add, i_mul, i_sub, i_div, i_and, i_or, i_shl1, Nat.one_mul, i_shr1, i_bit1, i_lt, i_eq, i_in, i_cl, i_0, gI_sI, bi_0n, bi_1n, nz_bi, nz_0n, nz_1n, vn_0n, vn_1n, vn_bi, and_true, true_and, not_false_eq_true, not_true_eq_false, false_implies, true_implies, forall_const, implies_true, ite_true, ite_false, Bool.not_eq_true, Bool.not_eq_false, and_false, false_and, if_true, if_false, if_pos, true_or, or_true, false_or, or_false, Nat.lt_irrefl]
      exact nx' υ hb3 (by unfold inC1; rw [anyN_f.mpr hI2, Bool.and_false])
  · intro τ ⟨hb, hI⟩
    apply h2
    refine xs_states hW (hm.o7 hb) ?_
    simp +decide (disch := omega) only [lit, lit_neg, i_add, i_mul, i_sub, i_div, i_and, i_or, i_shl1, Nat.one_mul, i_shr1, i_bit1, i_lt, i_eq, i_in, i_cl, i_0, gI_sI, bi_0n, bi_1n, nz_bi, nz_0n, nz_1n, vn_0n, vn_1n, vn_bi, and_true, true_and, not_false_eq_true, not_true_eq_false, false_implies, true_implies, forall_const, implies_true, ite_true, ite_false, Bool.not_eq_true, Bool.not_eq_false, and_false, false_and, if_true, if_false, if_pos, true_or, or_true, false_or, or_false, Nat.lt_irrefl]
    have := hq τ hb
    rw [anyN_f.mpr hI] at this
    exact this
theorem xs_circleFair {M : Ms} {σ : Sg} {C : Nat → Bool} {Q : Int32 → Sg → Prop} (hW : WFm M) (hm : XMm M σ) (hC : SS σ 26 C) (hq : ∀ τ, But2 only7 (fun _ => False) σ τ → Q (bi (cfair M C)) τ) : wp_X8_isCircleFair σ Q := by
  have hfa := hW.2.2.2.2.1
  intro L2 h2
  refine up_loopS (I := fun i τ => But2 only7 (fun _ => False) σ τ ∧ ∀ f, f < i → anyN (2 ^ M 0 1) (inC1 M C (M 6 f)) = true) (M 0 6) ?_ ?_ 0 σ (Nat.zero_le _) ⟨But2.rf, fun u hu => absurd hu (by omega)⟩
  · intro i τ hi ⟨hb, hI⟩ nx
    have hmτ := hm.o7 hb
    have h11 := hmτ.2.2.2.2.2.2.1
    have h12 := hmτ.2.2.2.2.2.2.2.2.2.2
    have ci := hW.2.2.2.2.2.2.2.2.2.2.2 i hi
    apply h2
    rw [h11]
    simp +decide (disch := omega) only [lit, lit_neg, i_add, i_mul, i_sub, i_div, i_and, i_or, i_shl1, Nat.one_mul, i_shr1, i_bit1, i_lt, i_eq, i_in, i_cl, i_0, gI_sI, bi_0n, bi_1n, nz_bi, nz_0n, nz_1n, vn_0n, vn_1n, vn_bi, and_true, true_and, not_false_eq_true, not_true_eq_false, false_implies, true_implies, forall_const, implies_true, ite_true, ite_false, Bool.not_eq_true, Bool.not_eq_false, and_false, false_and, if_true, if_false, if_pos, true_or, or_true, false_or, or_false, hi]
    refine xs_signAt (a := 12) (n := M 0 6) (by decide) (by decide) (by decide) (by decide) hfa (by decide) h11 hi (h12 i hi) ?_
    refine xs_isInCircle hW hmτ ci (hC.kept2 hb (fun z => z)) (fun υ hb2 => ?_)
    rw [bi_0n]
    refine ⟨fun z => ?_, fun z => nx υ ⟨hb.tr hb2, fun f hf => ?_⟩⟩
    · have := hq υ (hb.tr hb2)
      rw [show cfair M C = false from allN_f.mpr ⟨i, hi, z⟩] at this
      exact this
    · by_cases e : f = i
      · rw [e]; simpa using z
      · exact hI f (by omega)
  · intro τ ⟨hb, hI⟩
    apply h2
    rw [(hm.o7 hb).2.2.2.2.2.2.1]
    simp +decide (disch := omega) only [lit, lit_neg, i_add, i_mul, i_sub, i_div, i_and, i_or, i_shl1, Nat.one_mul, i_shr1, i_bit1, i_lt, i_eq, i_in, i_cl, i_0, gI_sI, bi_0n, bi_1n, nz_bi, nz_0n, nz_1n, vn_0n, vn_1n, vn_bi, and_true, true_and, not_false_eq_true, not_true_eq_false, false_implies, true_implies, forall_const, implies_true, ite_true, ite_false, Bool.not_eq_true, Bool.not_eq_false, and_false, false_and, if_true, if_false, if_pos, true_or, or_true, false_or, or_false, Nat.lt_irrefl]
    have := hq τ hb
    rw [show cfair M C = true from allN_iff.mpr hI] at this
    exact this
def lvT (a : Nat) : Prop := ldT a ∨ rhT a ∨ a = 27 ∨ a = 29
theorem xs_forEver {M : Ms} {σ : Sg} {Q : Int32 → Sg → Prop} (hW : WFm M) (hm : XMm M σ) (hX : XT M σ) (hq : ∀ τ, But2 only7 lvT σ τ → Q (e1 (lst (2 ^ M 0 1) (liveB M))) τ) : wp_X8_leastForEver σ Q := by
  have h256 := pow_le8 hW.2.1
  intro L21 h21
  refine xs_closeLeads hW hm hX (fun s1 b1 hT1 => ?_)
  have X1 : XT M s1 := hX.kept b1 (by unfold ldT; omega) (fun a _ _ _ => by unfold ldT; omega) h256
  refine xs_reached (x := 256) hW (hm.keptL b1) X1 (by decide) (fun s2 b2 h20 => ?_)
  refine ss_empty ss_28 (fun s3 b3 h28 => ?_)
  have hb0 : But2 only7 lvT σ s3 := (b1.mono (U := lvT) (fun a z => Or.inl z)).b2.tr ((b2.mono (U := lvT) (fun a z => Or.inr (Or.inl z))).b2.tr (b3.mono (U := lvT) (fun a z => Or.inr (Or.inr (Or.inr z)))).b2)
  have live_v : ∀ s, liveB M s = (trc M s s && (rch M 256 s && allN (M 0 6) (fun f => fairHere M s f))) := fun s => by unfold liveB; rw [comes_is hW]
  refine up_loopS (L := fun i τ => L21 20 i τ) (I := fun i τ => But2 only7 lvT σ τ ∧ SS τ 20 (rch M 256) ∧ (∀ s, s < 2 ^ M 0 1 → SS τ (32 + 4 * s) (trc M s)) ∧ (∃ D, SS τ 28 D ∧ ∀ t, D t = true → liveB M t = false) ∧ ∀ s, s < i → liveB M s = false) (2 ^ M 0 1) ?_ ?_ 0 s3 (Nat.zero_le _) ⟨hb0, h20.kept b3 (by omega), fun s hs => ((hT1 s hs).kept b2 (by unfold rhT; omega)).kept b3 (by omega), ⟨_, h28, fun t h => by cases h⟩, fun s hs => absurd hs (by omega)⟩
  · intro i τ hi ⟨hb, h20, hT, ⟨D, hD, hD2⟩, hI⟩ nx
    have hmτ := hm.o7 hb
    have nx' : liveB M i = false → L21 20 (nI (i + 1)) τ := fun h => nx τ ⟨hb, h20, hT, ⟨D, hD, hD2⟩, fun s hs => by
      by_cases e : s = i
      · rw [e]; exact h
      · exact hI s (by omega)⟩
    apply h21
    refine xs_states hW hmτ ?_
    simp +decide (disch := omega) only [lit, lit_neg, i_add, i_mul, i_sub, i_div, i_and, i_or, i_shl1, Nat.one_mul, i_shr1, i_bit1, i_lt, i_eq, i_in, i_cl, i_0, gI_sI, bi_0n, bi_1n, nz_bi, nz_0n, nz_1n, vn_0n, vn_1n, vn_bi, and_true, true_and, not_false_eq_true, not_true_eq_false, false_implies, true_implies, forall_const, implies_true, ite_true, ite_false, Bool.not_eq_true, Bool.not_eq_false, and_false, false_and, if_true, if_false, if_pos, true_or, or_true, false_or, or_false, hi]
    rw [ss_20.1]
    simp only [onB, cond_true]
    refine ss_has ss_20 h20 (by omega) ?_
    rw [bi_0n]
    refine ⟨fun z => nx' (by rw [live_v, z, Bool.false_and, Bool.and_false]), fun z => ?_⟩
    have z : rch M 256 i = true := by simpa using z
    refine ss_has ss_28 hD (by omega) ?_
    rw [bi_0n]
    refine ⟨fun z2 => xs_leadsFrom (by omega) ?_, fun z2 => nx' (hD2 i (by simpa using z2))⟩
    rw [(ss_leads (show i < 256 by omega)).1]
    simp only [cond_true]
    refine ss_has (ss_leads (by omega)) (hT i hi) (by omega) ?_
    rw [bi_0n]
    refine ⟨fun z3 => nx' (by rw [live_v, z3, Bool.false_and]), fun z3 => ?_⟩
    have z3 : trc M i i = true := by simpa using z3
    refine xs_findCircle hW hmτ hT hi (fun υ b4 h26 => ?_)
    refine ss_putAll ss_28 ss_26 (hD.kept b4 (by omega)) h26 (fun ω b5 h28' => ?_)
    have h26' := h26.kept b5 (by omega)
    have hb5 : But2 only7 lvT σ ω := hb.tr ((b4.mono (U := lvT) (fun a z => Or.inr (Or.inr (Or.inl z)))).b2.tr (b5.mono (U := lvT) (fun a z => Or.inr (Or.inr (Or.inr z)))).b2)
    refine xs_circleFair hW (hm.o7 hb5) h26' (fun ψ b6 => ?_)
    have hb6 : But2 only7 lvT σ ψ := hb5.tr (b6.mono (fun a k z => z) (fun a z => z.elim))
    have hlv : liveB M i = cfair M (circ M i) := by rw [live_v, z, z3, fair_is z3]; rfl
    rw [bi_0n]
    refine ⟨fun z4 => nx ψ ⟨hb6, ((h20.kept b4 (by omega)).kept b5 (by omega)).kept2 b6 (fun z => z), fun s hs => (((hT s hs).kept b4 (by omega)).kept b5 (by omega)).kept2 b6 (fun z => z), ⟨_, h28'.kept2 b6 (fun z => z), fun t ht => ?_⟩, fun s hs => ?_⟩, fun z4 => ?_⟩
    · rw [Bool.or_eq_true] at ht
      rcases ht with ht | ht
      · exact hD2 t ht
      · rw [live_v]
        cases h1 : trc M t t
        · rfl
        · rw [fair_is h1, circ_eq ht, z4, Bool.and_false, Bool.and_false]
    · by_cases e : s = i
      · rw [e, hlv]; exact z4
      · exact hI s (by omega)
    · have := hq ψ hb6
      rw [lst_some hi (by rw [hlv]; simpa using z4) hI, e1_s] at this
      exact this
  · intro τ ⟨hb, h20, hT, ⟨D, hD, hD2⟩, hI⟩
    apply h21
    refine xs_states hW (hm.o7 hb) ?_
    simp +decide (disch := omega) only [lit, lit_neg, i_add, i_mul, i_sub, i_div, i_and, i_or, i_shl1, Nat.one_mul, i_shr1, i_bit1, i_lt, i_eq, i_in, i_cl, i_0, gI_sI, bi_0n, bi_1n, nz_bi, nz_0n, nz_1n, vn_0n, vn_1n, vn_bi, and_true, true_and, not_false_eq_true, not_true_eq_false, false_implies, true_implies, forall_const, implies_true, ite_true, ite_false, Bool.not_eq_true, Bool.not_eq_false, and_false, false_and, if_true, if_false, if_pos, true_or, or_true, false_or, or_false, Nat.lt_irrefl]
    have := hq τ hb
    rw [lst_none hI] at this
    exact this
theorem xp_live {M : Ms} {σ : Sg} {Q : Int32 → Sg → Prop} (hW : WFm M) (h : RX M σ) (hq : XDoes (op_live M) Q) : wp_X9_live σ Q := by
  unfold wp_X9_live
  refine h.renew hW (fun τ hR hT _ => xs_forEver hW hR.1 hT (fun υ hb => hq υ (hR.work hW (hb.mono (fun a k z => Or.inl z) (fun a z => ?_)))))
  unfold lvT ldT rhT at z
  unfold wkT
  omega
