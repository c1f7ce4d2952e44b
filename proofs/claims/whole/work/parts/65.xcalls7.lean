/-! the class: the row -/
theorem RX_row {M N : Ms} {σ τ : Sg} (hW : WFm M) (h : RX M σ) (hag : ∀ a k, ¬ (a = 0 ∧ k = 16) → ¬ a = 14 → N a k = M a k) (hb : But2 (fun a _ => a = 7 ∨ a = 1172 ∨ a = 1173) (fun _ => False) σ τ) (hL : XRo N τ) : RX N τ := by
  obtain ⟨o1, o2, o3, o4⟩ := h.2.2.2.2.2.2
  have hb' : But2 lxS lxT σ τ := hb.mono (fun a k z => by unfold lxS; omega) (fun a z => z.elim)
  have g : ∀ a k, a = 0 ∨ a = 1171 ∨ a = 1174 → gI τ a k = gI σ a k := fun a k z => hb.1 a k (by omega)
  refine RX_ls hW h (fun a k z => hag a k (by unfold lsM at z; omega) (by unfold lsM at z; omega)) hb' (XLi_ag (M := M) (hag _ _ (by omega) (by omega)) (hag _ _ (by omega) (by omega)) (fun a k _ _ => hag a k (by omega) (by omega)) (h.2.2.2.2.1.kept hb (fun a k _ _ => by omega) (fun z => z))) hL ⟨?_, fun j j1 j2 => ?_, ?_, ?_⟩
  · rw [hag 0 7 (by omega) (by omega), g _ _ (by omega)]; exact o1
  · rw [hag 8 j (by omega) (by omega), g _ _ (by omega)]; exact o2 j j1 j2
  · rw [hag 0 14 (by omega) (by omega), g _ _ (by omega)]; exact o3
  · rw [hag 0 15 (by omega) (by omega), g _ _ (by omega)]; exact o4
theorem xp_lay {M : Ms} {σ : Sg} {x y : Int32} {Q : Int32 → Sg → Prop} (hW : WFm M) (h : RX M σ) (hq : XDoes (op_lay x y M) Q) : wp_X9_lay x y σ Q := by
  have h80 := hW.1
  have h16 := pow_le4 hW.2.2.1
  unfold op_lay at hq
  refine xs_hasState hW h.1 ?_
  simp +decide (disch := omega) only [lit, lit_neg, i_add, i_mul, i_sub, i_div, i_and, i_or, i_shl1, Nat.one_mul, i_shr1, i_bit1, i_lt, i_eq, i_in, i_cl, i_0, gI_sI, bi_0n, bi_1n, nz_bi, nz_0n, nz_1n, vn_0n, vn_1n, vn_bi, and_true, true_and, not_false_eq_true, not_true_eq_false, false_implies, true_implies, forall_const, implies_true, ite_true, ite_false, Bool.not_eq_true, Bool.not_eq_false, and_false, false_and, if_true, if_false, if_pos, true_or, or_true, false_or, or_false, neg_lit]
  refine ⟨fun z => ?_, fun z => xs_hasChoices hW h.1 ?_⟩
  · rw [if_pos (Or.inl z)] at hq
    exact xs_refuse hW h (by decide) (by decide) hq
  · simp +decide (disch := omega) only [lit, lit_neg, i_add, i_mul, i_sub, i_div, i_and, i_or, i_shl1, Nat.one_mul, i_shr1, i_bit1, i_lt, i_eq, i_in, i_cl, i_0, gI_sI, bi_0n, bi_1n, nz_bi, nz_0n, nz_1n, vn_0n, vn_1n, vn_bi, and_true, true_and, not_false_eq_true, not_true_eq_false, false_implies, true_implies, forall_const, implies_true, ite_true, ite_false, Bool.not_eq_true, Bool.not_eq_false, and_false, false_and, if_true, if_false, if_pos, true_or, or_true, false_or, or_false, neg_lit]
    refine ⟨fun z2 => ?_, fun z2 => ?_⟩
    · rw [if_pos (Or.inr z2)] at hq
      exact xs_refuse hW h (by decide) (by decide) hq
    · rw [if_neg (by simp [z, z2])] at hq
      obtain ⟨s, hs, hs2, rfl⟩ := inb_t z
      obtain ⟨c, hc, hc2, rfl⟩ := inb_t z2
      rw [cn_nI hs2, cn_nI hc2] at hq
      refine xs_evaluate hW h.1 hs (fun υ hb he => ?_)
      have g10 : gI υ 1 10 = nI (M 0 0) := by rw [hb.1 1 10 (by omega)]; exact h.1.2.1
      intro L15 h15
      rw [g10]
      have hmin : (if (80 : Int32) < nI (M 0 0) then (80 : Int32) else nI (M 0 0)) = nI (M 0 0) := by
        rw [if_neg]
        rw [show (80 : Int32) = nI 80 from rfl, i_lt (by decide) (by omega)]
        omega
      rw [hmin]
      refine up_loopS (I := fun i τ => But2 (fun a _ => a = 1172 ∨ a = 1173) (fun _ => False) υ τ ∧ gI τ 1172 1 = nI (M 0 0) ∧ ∀ k, k < i → gI τ 1173 k = nI (val M s c k).toNat) (M 0 0) ?_ ?_ 0 _ (Nat.zero_le _) ⟨But2.rf.up (Or.inl rfl), by simp [gI_sI], fun k hk => absurd hk (by omega)⟩
      · intro i τ hi ⟨hb2, h46, hk⟩ nx
        apply h15
        rw [h46]
        simp +decide (disch := omega) only [lit, lit_neg, i_add, i_mul, i_sub, i_div, i_and, i_or, i_shl1, Nat.one_mul, i_shr1, i_bit1, i_lt, i_eq, i_in, i_cl, i_0, gI_sI, bi_0n, bi_1n, nz_bi, nz_0n, nz_1n, vn_0n, vn_1n, vn_bi, and_true, true_and, not_false_eq_true, not_true_eq_false, false_implies, true_implies, forall_const, implies_true, ite_true, ite_false, Bool.not_eq_true, Bool.not_eq_false, and_false, false_and, if_true, if_false, if_pos, true_or, or_true, false_or, or_false, hi, show i < 80 by omega]
        have hm : XMm M τ := (h.1.kept hb.1 (fun a k z => by simp only [inXm] at z; omega)).kept hb2.1 (fun a k z => by simp only [inXm] at z; omega)
        refine xs_part hW hm hi ?_
        have hl := lns_lt (fun c => val M s c i)
        have g7 : gI τ 7 i = nI (lns (fun c => val M s c i)) := by rw [hb2.1 7 i (by omega)]; exact he i hi
        simp +decide (disch := omega) only [lit, lit_neg, i_add, i_mul, i_sub, i_div, i_and, i_or, i_shl1, Nat.one_mul, i_shr1, i_bit1, i_lt, i_eq, i_in, i_cl, i_0, gI_sI, bi_0n, bi_1n, nz_bi, nz_0n, nz_1n, vn_0n, vn_1n, vn_bi, and_true, true_and, not_false_eq_true, not_true_eq_false, false_implies, true_implies, forall_const, implies_true, ite_true, ite_false, Bool.not_eq_true, Bool.not_eq_false, and_false, false_and, if_true, if_false, if_pos, true_or, or_true, false_or, or_false, show i < 80 by omega, g7, show lns (fun c => val M s c i) < 2147483648 by omega, lns_bit, show c < 16 by omega, decide_true, Bool.true_and]
        refine nx _ ⟨hb2.up (Or.inr rfl), by simp [gI_sI, h46], fun k hk2 => ?_⟩
        rw [gI_sI]
        by_cases e : k = i
        · rw [if_pos ⟨rfl, e⟩, e, n_bool]
        · rw [if_neg (by omega)]; exact hk k (by omega)
      · intro τ ⟨hb2, h46, hk⟩
        apply h15
        rw [h46]
        simp +decide (disch := omega) only [lit, lit_neg, i_add, i_mul, i_sub, i_div, i_and, i_or, i_shl1, Nat.one_mul, i_shr1, i_bit1, i_lt, i_eq, i_in, i_cl, i_0, gI_sI, bi_0n, bi_1n, nz_bi, nz_0n, nz_1n, vn_0n, vn_1n, vn_bi, and_true, true_and, not_false_eq_true, not_true_eq_false, false_implies, true_implies, forall_const, implies_true, ite_true, ite_false, Bool.not_eq_true, Bool.not_eq_false, and_false, false_and, if_true, if_false, if_pos, true_or, or_true, false_or, or_false, Nat.lt_irrefl]
        have l0 : ∀ a k, a ≠ 14 → ¬ (a = 0 ∧ k = 16) → layM M s c a k = M a k := fun a k z z2 => by unfold layM; rw [if_neg z, if_neg z2]
        have l16 : layM M s c 0 16 = M 0 0 + 1 := by
          unfold layM
          rw [if_neg (by decide), if_pos ⟨rfl, rfl⟩]
        rw [h46]
        refine xd hq (RX_row hW h (fun a k z z2 => l0 a k z2 z) (((hb.mono (fun a k z => Or.inl z) (fun a z => z)).tr (hb2.mono (fun a k z => Or.inr z) (fun a z => z))).up (Or.inr (Or.inl rfl))) ⟨?_, fun _ => ?_, fun i hi => ?_⟩)
        · show _ = bi (decide (0 < layM M s c 0 16))
          rw [l16]
          simp [gI_sI, bi_tn]
        · show _ = nI (layM M s c 0 16 - 1)
          rw [l16]
          simp [gI_sI, h46]
        · have hi : i + 1 < layM M s c 0 16 := hi
          rw [l16] at hi
          rw [gI_sI, if_neg (by omega), hk i (by omega)]
          show _ = nI (layM M s c 14 i)
          unfold layM
          rw [if_pos rfl, if_pos (show i < M 0 0 by omega)]
theorem xs_stretch {M : Ms} {σ : Sg} {x : Int32} {n : Nat} {Q : Int32 → Prop} (hL : WFl M) (h : XRo M σ) (h0 : 0 < M 0 16) (hn : n < 2147483648) (hq : Q (bi (decide (0 ≤ x.toInt ∧ x.toInt + n ≤ (M 0 16 : Int) - 1)))) : wp_X5_hasStretch x (nI n) σ Q := by
  have h81 := hL.2.2.1
  unfold wp_X5_hasStretch
  rw [h.2.1 h0]
  refine ⟨fun z => ⟨nz_0, ?_⟩, fun z => ?_⟩
  · rw [i_0, lt0_toInt] at z
    rw [decide_eq_false (by omega)] at hq; exact hq
  · obtain ⟨i, hi, rfl⟩ := i_dec z
    rw [i_toInt hi] at hq
    refine ⟨fun z2 => absurd z2 (by rw [i_0, i_lt hn (by decide)]; omega), fun _ => ⟨fun z2 => ⟨nz_0, ?_⟩, fun z2 => ?_⟩⟩
    · rw [i_lt (by omega) hn] at z2
      rw [decide_eq_false (by omega)] at hq; exact hq
    · rw [i_lt (by omega) hn] at z2
      rw [i_sub (by omega), i_lt (by omega) hi]
      refine ⟨fun z3 => ⟨nz_0, ?_⟩, fun z3 => ⟨nz_1, ?_⟩⟩
      · rw [decide_eq_false (by omega)] at hq; exact hq
      · rw [decide_eq_true (by omega)] at hq; exact hq
