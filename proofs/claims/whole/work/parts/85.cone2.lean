/-! the class: cone -/
theorem Mkx.to {M : Ms} {τ : Sg} {μ ν : Nat → Bool} (h : Mkx M τ μ) (he : ∀ p, p < M 0 0 → μ p = ν p) : Mkx M τ ν := fun p hp => by rw [← he p hp]; exact h p hp
theorem xs_coneBits {M : Ms} {σ : Sg} {Q : Int32 → Sg → Prop} (hW : WFm M) (hm : XMm M σ) (hb4 : 1 ≤ M 0 4) (hq : ∀ τ, But2 only8 (fun _ => False) σ τ → Q (nI (bitsN (M 0 1) (fun j => hng M (M 0 0) (M 7 j)))) τ) : wp_X3_coneBits σ Q := by
  have h80 := hW.1
  have h8 := hW.2.1
  have has := hW.2.2.2.1
  have hw4 := hW.2.2.2.2.2.2.1
  intro L2 L31 L62 L82 h2 h31 h62 h82
  refine up_loopS (I := fun i τ => But2 only8 (fun _ => False) σ τ ∧ ∀ p, p < i → gI τ 8 p = bi false) 80 ?_ ?_ 0 σ (by decide) ⟨But2.rf, fun p hp => absurd hp (by omega)⟩
  · intro i τ hi ⟨hb, hz⟩ nx
    apply h2
    simp +decide (disch := omega) only [lit, lit_neg, i_add, i_mul, i_sub, i_div, i_and, i_or, i_shl1, Nat.one_mul, i_shr1, i_bit1, i_lt, i_eq, i_in, i_cl, i_0, gI_sI, bi_0n, bi_1n, nz_bi, nz_0n, nz_1n, vn_0n, vn_1n, vn_bi, and_true, true_and, not_false_eq_true, not_true_eq_false, false_implies, true_implies, forall_const, implies_true, ite_true, ite_false, Bool.not_eq_true, Bool.not_eq_false, and_false, false_and, if_true, if_false, if_pos, true_or, or_true, false_or, or_false, hi]
    refine nx _ ⟨hb.up rfl, fun p hp => ?_⟩
    rw [gI_sI]
    by_cases e : p = i
    · rw [if_pos ⟨rfl, e⟩]
    · rw [if_neg (by omega)]; exact hz p (by omega)
  · intro τ ⟨hb, hz⟩
    apply h2
    simp +decide (disch := omega) only [lit, lit_neg, i_add, i_mul, i_sub, i_div, i_and, i_or, i_shl1, Nat.one_mul, i_shr1, i_bit1, i_lt, i_eq, i_in, i_cl, i_0, gI_sI, bi_0n, bi_1n, nz_bi, nz_0n, nz_1n, vn_0n, vn_1n, vn_bi, and_true, true_and, not_false_eq_true, not_true_eq_false, false_implies, true_implies, forall_const, implies_true, ite_true, ite_false, Bool.not_eq_true, Bool.not_eq_false, and_false, false_and, if_true, if_false, if_pos, true_or, or_true, false_or, or_false, show ¬ 80 < 80 by omega]
    rw [(hm.o8 hb).1]
    have hM0 : Mkx M τ (fun _ => false) := fun p hp => hz p (by omega)
    refine xs_mark hW (hm.o8 hb) hw4 (fun z => absurd z (by omega)) (fun _ => ?_)
    have hM1 := hM0.set ((M 0 4 - 1) / 2)
    refine up_loopS (I := fun i τ => But2 only8 (fun _ => False) σ τ ∧ Mkx M τ (fun p => decide (p = (M 0 4 - 1) / 2) || anyN i (fun i => decide (p = M 5 i / 2)))) (M 0 5) ?_ ?_ 0 _ (Nat.zero_le _) ⟨hb.up rfl, hM1.to (fun p _ => by simp [anyN])⟩
    · intro i υ hi ⟨hbυ, hMυ⟩ nx
      have hmυ := hm.o8 hbυ
      have h9 := hmυ.2.2.2.2.2.1
      have h10 := hmυ.2.2.2.2.2.2.2.2.2.1
      have ci := hW.2.2.2.2.2.2.2.2.2.2.1 i hi
      apply h31
      rw [h9]
      simp +decide (disch := omega) only [lit, lit_neg, i_add, i_mul, i_sub, i_div, i_and, i_or, i_shl1, Nat.one_mul, i_shr1, i_bit1, i_lt, i_eq, i_in, i_cl, i_0, gI_sI, bi_0n, bi_1n, nz_bi, nz_0n, nz_1n, vn_0n, vn_1n, vn_bi, and_true, true_and, not_false_eq_true, not_true_eq_false, false_implies, true_implies, forall_const, implies_true, ite_true, ite_false, Bool.not_eq_true, Bool.not_eq_false, and_false, false_and, if_true, if_false, if_pos, true_or, or_true, false_or, or_false, hi]
      refine xs_signAt (a := 10) (n := M 0 5) (by decide) (by decide) (by decide) (by decide) has (by decide) h9 hi (h10 i hi) ?_
      rw [← e1_s]
      refine xs_mark hW hmυ (by omega) (fun z => absurd z (by omega)) (fun _ => nx _ ⟨hbυ.up rfl, ?_⟩)
      rw [Nat.add_sub_cancel]
      exact (hMυ.set (M 5 i / 2)).to (fun p _ => by simp only [anyN]; rw [Bool.or_assoc])
    · intro υ ⟨hbυ, hMυ⟩
      have hmυ := hm.o8 hbυ
      apply h31
      rw [hmυ.2.2.2.2.2.1]
      simp +decide (disch := omega) only [lit, lit_neg, i_add, i_mul, i_sub, i_div, i_and, i_or, i_shl1, Nat.one_mul, i_shr1, i_bit1, i_lt, i_eq, i_in, i_cl, i_0, gI_sI, bi_0n, bi_1n, nz_bi, nz_0n, nz_1n, vn_0n, vn_1n, vn_bi, and_true, true_and, not_false_eq_true, not_true_eq_false, false_implies, true_implies, forall_const, implies_true, ite_true, ite_false, Bool.not_eq_true, Bool.not_eq_false, and_false, false_and, if_true, if_false, if_pos, true_or, or_true, false_or, or_false, Nat.lt_irrefl]
      refine up_loopS (I := fun i τ => But2 only8 (fun _ => False) σ τ ∧ ∃ μ, Mkx M τ μ ∧ (∀ q, Acl M i q → q < M 0 0 ∧ μ q = true) ∧ ∀ q, q < M 0 0 → μ q = true → clo M q = true) 9 ?_ ?_ 0 υ (by decide) ⟨hbυ, _, hMυ, fun q h => ⟨Acl_lt hW hb4 0 q h, h⟩, fun q _ h => hng_le M (Nat.zero_le _) h⟩
      · intro i ω hi ⟨hbω, μ, hMω, hA, hs⟩ nx
        apply h62
        simp +decide (disch := omega) only [lit, lit_neg, i_add, i_mul, i_sub, i_div, i_and, i_or, i_shl1, Nat.one_mul, i_shr1, i_bit1, i_lt, i_eq, i_in, i_cl, i_0, gI_sI, bi_0n, bi_1n, nz_bi, nz_0n, nz_1n, vn_0n, vn_1n, vn_bi, and_true, true_and, not_false_eq_true, not_true_eq_false, false_implies, true_implies, forall_const, implies_true, ite_true, ite_false, Bool.not_eq_true, Bool.not_eq_false, and_false, false_and, if_true, if_false, if_pos, true_or, or_true, false_or, or_false, show ¬ 8 < i by omega]
        exact xs_markPass hW (hm.o8 hbω) hMω hA hs (fun ψ ν b1 b2 b3 b4 => nx ψ ⟨hbω.tr b1, ν, b2, b3, b4⟩)
      · intro ω ⟨hbω, μ, hMω, hA, hs⟩
        have hmω := hm.o8 hbω
        apply h62
        simp +decide (disch := omega) only [lit, lit_neg, i_add, i_mul, i_sub, i_div, i_and, i_or, i_shl1, Nat.one_mul, i_shr1, i_bit1, i_lt, i_eq, i_in, i_cl, i_0, gI_sI, bi_0n, bi_1n, nz_bi, nz_0n, nz_1n, vn_0n, vn_1n, vn_bi, and_true, true_and, not_false_eq_true, not_true_eq_false, false_implies, true_implies, forall_const, implies_true, ite_true, ite_false, Bool.not_eq_true, Bool.not_eq_false, and_false, false_and, if_true, if_false, if_pos, true_or, or_true, false_or, or_false, show 8 < 9 by omega]
        refine up_loopS (L := fun i x => L82 x i ω) (I := fun i x => x = nI (bitsN i (fun j => μ (M 7 j)))) (M 0 1) ?_ ?_ 0 _ (Nat.zero_le _) rfl
        · intro j x hj hx nx
          subst hx
          obtain ⟨b1, -⟩ := hW.2.2.2.2.2.2.2.2.2.1 j hj
          apply h82
          rw [hmω.2.2.1]
          simp +decide (disch := omega) only [lit, lit_neg, i_add, i_mul, i_sub, i_div, i_and, i_or, i_shl1, Nat.one_mul, i_shr1, i_bit1, i_lt, i_eq, i_in, i_cl, i_0, gI_sI, bi_0n, bi_1n, nz_bi, nz_0n, nz_1n, vn_0n, vn_1n, vn_bi, and_true, true_and, not_false_eq_true, not_true_eq_false, false_implies, true_implies, forall_const, implies_true, ite_true, ite_false, Bool.not_eq_true, Bool.not_eq_false, and_false, false_and, if_true, if_false, if_pos, true_or, or_true, false_or, or_false, hj, show j < 8 by omega, hmω.2.2.2.2.2.2.2.2.1 j hj]
          refine xs_isMarked hW hmω hMω b1 ?_
          have hbl := bitsN_lt j (fun j => μ (M 7 j))
          have ho := bitsN_or1 j (fun j => μ (M 7 j))
          rw [bi_0n]
          refine ⟨fun z => nx _ ?_, fun z => nx _ ?_⟩
          · rw [← ho, if_neg (by rw [z]; decide)]
          · have z : μ (M 7 j) = true := by simpa using z
            rw [← ho, if_pos z]
            simp +decide (disch := omega) only [lit, lit_neg, i_add, i_mul, i_sub, i_div, i_and, i_or, i_shl1, Nat.one_mul, i_shr1, i_bit1, i_lt, i_eq, i_in, i_cl, i_0, gI_sI, bi_0n, bi_1n, nz_bi, nz_0n, nz_1n, vn_0n, vn_1n, vn_bi, and_true, true_and, not_false_eq_true, not_true_eq_false, false_implies, true_implies, forall_const, implies_true, ite_true, ite_false, Bool.not_eq_true, Bool.not_eq_false, and_false, false_and, if_true, if_false, if_pos, true_or, or_true, false_or, or_false, i_1shl1]
        · intro x hx
          subst hx
          apply h82
          rw [hmω.2.2.1]
          simp +decide (disch := omega) only [lit, lit_neg, i_add, i_mul, i_sub, i_div, i_and, i_or, i_shl1, Nat.one_mul, i_shr1, i_bit1, i_lt, i_eq, i_in, i_cl, i_0, gI_sI, bi_0n, bi_1n, nz_bi, nz_0n, nz_1n, vn_0n, vn_1n, vn_bi, and_true, true_and, not_false_eq_true, not_true_eq_false, false_implies, true_implies, forall_const, implies_true, ite_true, ite_false, Bool.not_eq_true, Bool.not_eq_false, and_false, false_and, if_true, if_false, if_pos, true_or, or_true, false_or, or_false, Nat.lt_irrefl]
          have e : bitsN (M 0 1) (fun j => μ (M 7 j)) = bitsN (M 0 1) (fun j => hng M (M 0 0) (M 7 j)) := bitsN_congr (fun j hj => by
            obtain ⟨b1, -⟩ := hW.2.2.2.2.2.2.2.2.2.1 j hj
            cases h1 : hng M (M 0 0) (M 7 j)
            · cases h2 : μ (M 7 j)
              · rfl
              · have := hs _ b1 h2
                unfold clo at this
                rw [h1] at this; cases this
            · exact (hA _ (Acl_9 hW hb4 hj h1)).2)
          rw [e]
          exact hq ω hbω
theorem xp_cone {M : Ms} {σ : Sg} {Q : Int32 → Sg → Prop} (hW : WFm M) (h : RX M σ) (hq : XDoes (op_cone M) Q) : wp_X9_cone σ Q := by
  have h80 := hW.1
  have hw4 := hW.2.2.2.2.2.2.1
  unfold op_cone at hq
  unfold wp_X9_cone
  rw [h.1.1, show (-1 : Int32) = e1 0 from rfl, e1_m1 (by omega)]
  refine ⟨fun z => ?_, fun z => ?_⟩
  · rw [if_pos z] at hq
    exact xs_refuse hW h (by decide) (by decide) hq
  · rw [if_neg z] at hq
    exact xs_coneBits hW h.1 (by omega) (fun τ hb => hq τ (h.work hW (hb.mono (fun a k z => Or.inr z) (fun a z => z.elim))))
