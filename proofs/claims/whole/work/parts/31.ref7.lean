/-! the reference: prove -/
def op_prove (x : Int32) (M : Ms) : Int32 × Ms := if x.toInt < 0 then rf 4 M else if 1 ≤ x.toInt ∧ x.toInt ≤ 5000 then (nI (proveM M (cn x)).2, (proveM M (cn x)).1) else rf 7 M
def muP (left : Nat) (M : Ms) : Nat := if M 0 9 ≠ 0 then 0 else 2 * left + (if M 0 11 = 0 then 1 else 0) + (24 - M 0 8)
theorem pushAllM_f {M : Ms} (h : M 0 8 ≤ 23) : (pushAllM M 0 9 ≠ 0 ∧ pushAllM M 0 8 = M 0 8) ∨ pushAllM M 0 8 = M 0 8 + 1 := by
  have e : wallTo (pushTo M (M 0 8)) (M 0 8) 0 8 = M 0 8 := by rw [wallTo_0]; exact (pushTo_0 M _ h).2 8 (by decide)
  unfold pushAllM
  split
  · rename_i z; exact Or.inl ⟨z, e⟩
  · split
    · exact Or.inl ⟨by rw [up_at, if_pos ⟨rfl, rfl⟩]; decide, e⟩
    · refine Or.inr ?_
      rw [up_at, if_pos ⟨rfl, rfl⟩, e]
theorem lookM_8 {M : Ms} (hk : M 11 (M 0 11 - 1) ≤ 24) : lookM M 0 8 = M 0 8 := by
  unfold lookM
  split
  · rfl
  · split
    · rfl
    · split
      · rfl
      · split
        · rw [up_ne _ _ _ _ _ _ (by omega)]; exact (keepTo_0 (up M 0 10 (M 0 10 + 1)) _ _ _ hk).1 8
        · rfl
theorem PI_begin {M0 M1 : Ms} {σ τ : Sg} (h : PI M0 σ (up (meetM M1 (M1 0 3) 0) 0 9 2) τ) (h1 : M1 0 11 = 0) (hag : agM M0 M1) (hw : WFp (up M1 0 9 2)) : PI M0 σ (up M1 0 9 2) (sI τ 0 26 (nI 0)) := by
  obtain ⟨ha, hb, hR, p1, p2, p3, p4, p5, p6⟩ := h
  obtain ⟨r1, r2, r3, r4, r5, r6, r7, r8, r9, r10⟩ := hR
  have q : ∀ a n, ¬ (a = 0 ∧ n = 11) → ¬ (a = 11 ∧ n = 0) → ¬ (a = 10 ∧ n = 0) → up (meetM M1 (M1 0 3) 0) 0 9 2 a n = up M1 0 9 2 a n := fun a n z1 z2 z3 => by
    rw [up_at, up_at]
    by_cases z : a = 0 ∧ n = 9
    · rw [if_pos z, if_pos z]
    · rw [if_neg z, if_neg z, meetM_ne _ _ _ _ _ z1 (by rw [h1]; exact z2) (by rw [h1]; exact z3)]
  have g : ∀ a n, ¬ (a = 0 ∧ n = 26) → gI (sI τ 0 26 (nI 0)) a n = gI τ a n := fun a n z1 => by rw [gI_sI, if_neg (by omega)]
  have e11 : up M1 0 9 2 0 11 = 0 := h1
  have w : wayN (up M1 0 9 2) = 1 := by unfold wayN; rw [if_pos (show up M1 0 9 2 0 9 = 2 from rfl), e11, if_pos rfl]
  have w2 : wayN (up (meetM M1 (M1 0 3) 0) 0 9 2) = 1 := by
    unfold wayN
    rw [if_pos (show up (meetM M1 (M1 0 3) 0) 0 9 2 0 9 = 2 from rfl), show up (meetM M1 (M1 0 3) 0) 0 9 2 0 11 = M1 0 11 + 1 from rfl, if_neg (by omega), h1]
  refine ⟨hag.up (by unfold prM; omega), hb.up (by simp [prS]), ⟨?_, ?_, ?_, ?_, fun i hi => ?_, fun j j1 j2 => ⟨?_, fun i hi => ?_⟩, ?_, ?_, ?_, ?_⟩, hw⟩
  · rw [g 0 23 (by omega), ← q 0 8 (by omega) (by omega) (by omega)]; exact r1
  · rw [g 0 24 (by omega), ← q 0 9 (by omega) (by omega) (by omega)]; exact r2
  · rw [g 0 25 (by omega), ← q 0 10 (by omega) (by omega) (by omega)]; exact r3
  · rw [e11]; simp [gI_sI]
  · rw [e11] at hi; omega
  · rw [g 14 j (by omega), ← q 9 j (by omega) (by omega) (by omega)]; exact (r6 j j1 j2).1
  · rw [← q 9 j (by omega) (by omega) (by omega)] at hi
    rw [g 12 _ (by omega), g 13 _ (by omega), ← q _ _ (by omega) (by omega) (by omega), ← q _ _ (by omega) (by omega) (by omega)]; exact (r6 j j1 j2).2 i hi
  · rw [if_neg (by rw [show up (meetM M1 (M1 0 3) 0) 0 9 2 0 9 = 2 from rfl]; decide)] at r7
    rw [if_neg (by rw [show up M1 0 9 2 0 9 = 2 from rfl]; decide), g 0 31 (by omega)]; exact r7
  · rw [show up M1 0 9 2 0 9 = 2 from rfl]; intro z; omega
  · rw [w, g 0 33 (by omega)]; rw [w2] at r9; exact r9
  · rw [w]
    intro i hi
    have := r10 i (by rw [w2]; exact hi)
    rw [g 19 i (by omega), this]
    unfold waySt
    rw [e11, if_pos rfl, show up (meetM M1 (M1 0 3) 0) 0 9 2 0 11 = M1 0 11 + 1 from rfl, if_neg (by omega), h1]
    have : i = 0 := by omega
    subst this
    show nI (up (meetM M1 (M1 0 3) 0) 0 9 2 10 0) = nI (M1 0 3)
    rw [up_ne _ _ _ _ _ _ (by omega), meetM_at, if_neg (by omega), if_neg (by omega), if_pos ⟨rfl, h1.symm⟩]
theorem PI.rm' {M0 M : Ms} {σ τ : Sg} (h : PI M0 σ M τ) (h0 : PB M0 σ) (ht : gI σ 0 18 = 1) : RM M τ := ⟨h.rmc h0, Or.inr ⟨by rw [h.2.1 0 18 (by simp [prS])]; exact ht, h.tb h0⟩⟩
theorem neg_lit (n : Nat) : (-(OfNat.ofNat n) : Int32) = -(nI n) := rfl
theorem sp_prove {M : Ms} {σ : Sg} {x : Int32} {Q : Int32 → Sg → Prop} (hW : WFm M) (hP : WFp M) (hR : RM M σ) (hq : RefDoes (op_prove x M) Q) : wp_X10_prove x σ Q := by
  have hR' := hR
  obtain ⟨⟨hm, hp, hl⟩, ht⟩ := hR
  intro L77 h77
  refine ⟨fun h => ?_, fun h => ?_⟩
  · rw [i_0, lt0_toInt] at h
    have : op_prove x M = rf 4 M := by unfold op_prove; rw [if_pos h]
    rw [this] at hq
    exact sp_no hR' (by decide) (by decide) hq
  · rw [i_0, lt0_toInt] at h
    refine sp_isIn (toI64 x) (a := 1) (b := 5000) rfl rfl ?_
    by_cases hx : 1 ≤ x.toInt ∧ x.toInt ≤ 5000
    · have : op_prove x M = (nI (proveM M (cn x)).2, (proveM M (cn x)).1) := by unfold op_prove; rw [if_neg h, if_pos hx]
      rw [this] at hq
      obtain ⟨n, hn, rfl⟩ := i_dec (x := x) (by rw [i_0, lt0_toInt]; omega)
      rw [cn_nI hn] at hq
      rw [i_toInt hn] at hx
      simp only [hx.1, hx.2, i_toInt hn, and_self, decide_true]
      simp +decide (disch := omega) only [lit, lit_neg, i_add, i_mul, i_sub, i_div, i_and, i_or, i_shl1, Nat.one_mul, i_shr1, i_bit1, i_lt, i_eq, i_in, i_cl, i_0, gI_sI, bi_0n, bi_1n, nz_bi, nz_0n, nz_1n, vn_0n, vn_1n, vn_bi, and_true, true_and, not_false_eq_true, not_true_eq_false, false_implies, true_implies, forall_const, implies_true, ite_true, ite_false, Bool.not_eq_true, Bool.not_eq_false, and_false, false_and, if_true, if_false, if_pos, true_or, or_true, false_or, or_false, bi_tn]
      refine sp_table hW hm ht (fun τ hb h18 hT => ?_)
      have h0 : PB M τ := ⟨hW, hm.kept hb tabS_mm, hl.kept hb tabS_off, hT⟩
      have hI : PI M τ M τ := ⟨agM.rf, But.rf, hp.kept hb tabS_off, hP⟩
      have main : ∀ f left M' υ, PI M τ M' υ → 1 ≤ M' 0 8 → left ≤ 5000 → muP left M' < f → (∀ ω, PI M τ (prvM f left M').1 ω → Q (nI (prvM f left M').2) ω) → L77 (nI left) υ := by
        intro f
        induction f with
        | zero => intro left M' υ _ _ _ h; exact absurd h (by omega)
        | succ f ih =>
          intro left M' υ hI hN hl5 hmu hQ
          have r24 := hI.2.2.1.2.1
          have r26 := hI.2.2.1.2.2.2.1
          have hN23 := hI.2.2.2.1
          have he3 := hI.2.2.2.2.1
          have hntr : M' 0 11 ≤ 24 := by
            rcases Nat.eq_zero_or_pos (M' 0 11) with z | z
            · omega
            · have := (hI.2.2.2.2.2.2.1 (M' 0 11 - 1) (by omega)).2
              omega
          apply h77
          unfold prvM at hQ
          by_cases he : M' 0 9 = 0
          · rw [if_neg (by omega)] at hQ
            have hmu2 : muP left M' = 2 * left + (if M' 0 11 = 0 then 1 else 0) + (24 - M' 0 8) := by unfold muP; rw [if_neg (by omega)]
            by_cases hz : M' 0 11 = 0
            · rw [if_pos hz] at hQ hmu2
              simp +decide (disch := omega) only [lit, lit_neg, i_add, i_mul, i_sub, i_div, i_and, i_or, i_shl1, Nat.one_mul, i_shr1, i_bit1, i_lt, i_eq, i_in, i_cl, i_0, gI_sI, bi_0n, bi_1n, nz_bi, nz_0n, nz_1n, vn_0n, vn_1n, vn_bi, and_true, true_and, not_false_eq_true, not_true_eq_false, false_implies, true_implies, forall_const, implies_true, ite_true, ite_false, Bool.not_eq_true, Bool.not_eq_false, and_false, false_and, if_true, if_false, if_pos, true_or, or_true, false_or, or_false, r24, he, r26, hz]
              refine sp_hasTrouble hI h0 hN he hz (fun hw => ?_) (fun ψ hw hψ => ?_)
              · simp +decide (disch := omega) only [lit, lit_neg, i_add, i_mul, i_sub, i_div, i_and, i_or, i_shl1, Nat.one_mul, i_shr1, i_bit1, i_lt, i_eq, i_in, i_cl, i_0, gI_sI, bi_0n, bi_1n, nz_bi, nz_0n, nz_1n, vn_0n, vn_1n, vn_bi, and_true, true_and, not_false_eq_true, not_true_eq_false, false_implies, true_implies, forall_const, implies_true, ite_true, ite_false, Bool.not_eq_true, Bool.not_eq_false, and_false, false_and, if_true, if_false, if_pos, true_or, or_true, false_or, or_false]
                rw [if_neg (by omega)] at hQ
                refine sp_pushAll hI h0 hN he (fun ψ hψ => ih left _ ψ hψ ?_ hl5 ?_ hQ)
                · rcases pushAllM_f hN23 with z | z <;> omega
                · unfold muP
                  rcases pushAllM_f hN23 with ⟨z, z2⟩ | z
                  · rw [if_pos z]; omega
                  · split
                    · omega
                    · rw [z]; split <;> omega
              · simp +decide (disch := omega) only [lit, lit_neg, i_add, i_mul, i_sub, i_div, i_and, i_or, i_shl1, Nat.one_mul, i_shr1, i_bit1, i_lt, i_eq, i_in, i_cl, i_0, gI_sI, bi_0n, bi_1n, nz_bi, nz_0n, nz_1n, vn_0n, vn_1n, vn_bi, and_true, true_and, not_false_eq_true, not_true_eq_false, false_implies, true_implies, forall_const, implies_true, ite_true, ite_false, Bool.not_eq_true, Bool.not_eq_false, and_false, false_and, if_true, if_false, if_pos, true_or, or_true, false_or, or_false]
                rw [if_pos hw] at hQ
                refine ih left _ ψ hψ hN hl5 ?_ hQ
                unfold muP
                rw [show meetM M' (worstN M' - 1) (M' 0 8) 0 9 = M' 0 9 from rfl, if_neg (by omega), show meetM M' (worstN M' - 1) (M' 0 8) 0 11 = M' 0 11 + 1 from rfl, if_neg (by omega), show meetM M' (worstN M' - 1) (M' 0 8) 0 8 = M' 0 8 from rfl]
                omega
            · rw [if_neg hz] at hQ hmu2
              simp +decide (disch := omega) only [lit, lit_neg, i_add, i_mul, i_sub, i_div, i_and, i_or, i_shl1, Nat.one_mul, i_shr1, i_bit1, i_lt, i_eq, i_in, i_cl, i_0, gI_sI, bi_0n, bi_1n, nz_bi, nz_0n, nz_1n, vn_0n, vn_1n, vn_bi, and_true, true_and, not_false_eq_true, not_true_eq_false, false_implies, true_implies, forall_const, implies_true, ite_true, ite_false, Bool.not_eq_true, Bool.not_eq_false, and_false, false_and, if_true, if_false, if_pos, true_or, or_true, false_or, or_false, r24, he, r26, hz]
              refine ⟨fun z => ?_, fun z => ?_⟩
              · rw [if_pos z] at hQ
                exact hQ υ hI
              · rw [if_neg z] at hQ
                have hk := (hI.2.2.2.2.2.2.1 (M' 0 11 - 1) (by omega)).2
                refine sp_lookAt hI h0 hN he (by omega) (fun ψ hψ => ?_)
                rw [show nI left + e1 0 = nI (left - 1) from (by obtain ⟨l, rfl⟩ : ∃ l, left = l + 1 := ⟨left - 1, by omega⟩; exact pk_m1 l)]
                refine ih (left - 1) _ ψ hψ ?_ (by omega) ?_ hQ
                · rw [lookM_8 (by omega)]; exact hN
                · unfold muP
                  split
                  · omega
                  · rw [lookM_8 (by omega)]; split <;> omega
          · rw [if_pos he] at hQ
            simp +decide (disch := omega) only [lit, lit_neg, i_add, i_mul, i_sub, i_div, i_and, i_or, i_shl1, Nat.one_mul, i_shr1, i_bit1, i_lt, i_eq, i_in, i_cl, i_0, gI_sI, bi_0n, bi_1n, nz_bi, nz_0n, nz_1n, vn_0n, vn_1n, vn_bi, and_true, true_and, not_false_eq_true, not_true_eq_false, false_implies, true_implies, forall_const, implies_true, ite_true, ite_false, Bool.not_eq_true, Bool.not_eq_false, and_false, false_and, if_true, if_false, if_pos, true_or, or_true, false_or, or_false, r24, he]
            exact hQ υ hI
      have r23 := hI.2.2.1.1
      have fin : ∀ M' υ, beginM M = M' → PI M τ M' υ → 1 ≤ M' 0 8 → L77 (nI n) υ := fun M' υ e hI hN => by
        unfold RefDoes proveM at hq
        rw [e] at hq
        refine main (2 * n + 30) n M' υ hI hN (by omega) ?_ (fun ω hω => hq ω (hω.rm' h0 h18))
        unfold muP
        split
        · omega
        · split <;> omega
      have h24 : M 0 8 < 2147483648 := by have := hP.1; omega
      simp +decide (disch := omega) only [lit, lit_neg, i_add, i_mul, i_sub, i_div, i_and, i_or, i_shl1, Nat.one_mul, i_shr1, i_bit1, i_lt, i_eq, i_in, i_cl, i_0, gI_sI, bi_0n, bi_1n, nz_bi, nz_0n, nz_1n, vn_0n, vn_1n, vn_bi, and_true, true_and, not_false_eq_true, not_true_eq_false, false_implies, true_implies, forall_const, implies_true, ite_true, ite_false, Bool.not_eq_true, Bool.not_eq_false, and_false, false_and, if_true, if_false, if_pos, true_or, or_true, false_or, or_false, r23]
      refine ⟨fun hz => ?_, fun hz => ?_⟩
      · obtain ⟨z1, z2⟩ := hP.2.2.2.2.1 hz
        have hI1 := PI_N hI z2 (by omega)
        rw [hz] at hI1
        have r8 := h0.2.1.2.2.2.1
        have hff := hW.2.2.2.2.2.1
        have hb1 : isBadS (up M 0 8 (0 + 1)) (M 0 3) = isBadS M (M 0 3) := isBadS_ag hI1.1.m _
        simp +decide (disch := omega) only [lit, lit_neg, i_add, i_mul, i_sub, i_div, i_and, i_or, i_shl1, Nat.one_mul, i_shr1, i_bit1, i_lt, i_eq, i_in, i_cl, i_0, gI_sI, bi_0n, bi_1n, nz_bi, nz_0n, nz_1n, vn_0n, vn_1n, vn_bi, and_true, true_and, not_false_eq_true, not_true_eq_false, false_implies, true_implies, forall_const, implies_true, ite_true, ite_false, Bool.not_eq_true, Bool.not_eq_false, and_false, false_and, if_true, if_false, if_pos, true_or, or_true, false_or, or_false, r8]
        refine sp_isBad (M := up M 0 8 (0 + 1)) (hI1.wf h0) (hI1.rm h0) (hI1.tb h0) hff ?_
        simp +decide (disch := omega) only [lit, lit_neg, i_add, i_mul, i_sub, i_div, i_and, i_or, i_shl1, Nat.one_mul, i_shr1, i_bit1, i_lt, i_eq, i_in, i_cl, i_0, gI_sI, bi_0n, bi_1n, nz_bi, nz_0n, nz_1n, vn_0n, vn_1n, vn_bi, and_true, true_and, not_false_eq_true, not_true_eq_false, false_implies, true_implies, forall_const, implies_true, ite_true, ite_false, Bool.not_eq_true, Bool.not_eq_false, and_false, false_and, if_true, if_false, if_pos, true_or, or_true, false_or, or_false, hb1]
        refine ⟨fun hb0 => fin _ _ ?_ hI1 (Nat.le_refl 1), fun hb0 => ?_⟩
        · unfold beginM; rw [if_pos hz, if_neg (by rw [hb0]; decide)]
        · refine sp_meet hI1 z2 (Nat.le_refl 1) hff (by show 0 + M 0 11 ≤ 0 + 1; omega) (fun ω hω => ?_)
          refine sp_tellWay hω h0 z2 (by show 1 ≤ M 0 11 + 1; omega) (Nat.le_refl 1) (fun ψ hψ => ?_)
          have hw2 : WFp (up (up M 0 8 (0 + 1)) 0 9 2) := by
            obtain ⟨p1, p2, p3, p4, p5, p6⟩ := hI1.2.2.2
            refine ⟨p1, (show 2 ≤ 3 by decide), fun k hk => WFc_up (p3 k hk) (by decide), p4, fun z => absurd (show (1 : Nat) = 0 from z) (by decide), fun z => absurd (show (2 : Nat) = 1 from z) (by decide)⟩
          have := PI_begin hψ z1 hI1.1 hw2
          refine fin _ _ ?_ this (Nat.le_refl 1)
          unfold beginM
          rw [if_pos hz, if_pos hb0]
      · refine fin M τ ?_ hI (by omega)
        unfold beginM
        rw [if_neg hz]
    · have : op_prove x M = rf 7 M := by unfold op_prove; rw [if_neg h, if_neg hx]
      rw [this] at hq
      rw [decide_eq_false hx]
      refine ⟨fun _ => sp_no hR' (by decide) (by decide) hq, fun z => absurd rfl z⟩
