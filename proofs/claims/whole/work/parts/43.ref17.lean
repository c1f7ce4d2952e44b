/-! the reference: live -/
theorem cls_row (M : Ms) (m t : Nat) : cls M (m + 1) m t = cls M m m t := by
  simp only [cls]
  cases cls M m m t <;> simp
theorem cls_col (M : Ms) (m s : Nat) : cls M (m + 1) s m = cls M m s m := by
  simp only [cls]
  cases cls M m s m <;> simp
def cmOk (M : Ms) (τ : Sg) (f : Nat → Nat → Bool) : Prop := ∀ a b, a < 2 ^ M 0 1 → b < 2 ^ M 0 1 → gI τ 22 (256 * a + b) = bi (f a b)
def ldU (M : Ms) (s t c : Nat) : Bool := anyN c (fun c => rightB M s c && decide (nxtN M s c = t))
theorem sp_findComes {M : Ms} {σ : Sg} {Q : Sg → Prop} (hW : WFm M) (hR : RM M σ) (hq : ∀ τ, RM M τ → TB M τ → cmOk M τ (trc M) → Q τ) : wp_X10_findComes σ Q := by
  have h256 := pow_le8 hW.2.1
  have h16 := pow_le4 hW.2.2.1
  intro L6 L27 L37 L96 L106 L116 h6 h27 h37 h96 h106 h116
  refine sp_tab hW hR (fun υ hυ hT h18 => ?_)
  have rm : ∀ τ, But (fun a k => a = 22) υ τ → RM M τ ∧ TB M τ := fun τ hb => by
    have t : TB M τ := fun s c hs hc => by
      have := hT s c hs hc
      unfold ent at this ⊢
      rw [hb 9 _ (by omega), hb 10 _ (by omega), hb 11 _ (by omega)]
      exact this
    exact ⟨RM_new hυ (fun _ _ _ => rfl) (hb.mono (fun a k z => by unfold lsS; omega)) (hυ.1.2.2.kept hb (fun a k z => by unfold offM; omega)), t⟩
  have st : ∀ τ (P : Int32 → Prop), But (fun a k => a = 22) υ τ → P (nI (2 ^ M 0 1)) → wp_X10_states τ P := fun τ P hb hp => sp_states hW (rm τ hb).1.1.1 hp
  have g96 : ∀ τ, But (fun a k => a = 22) υ τ → cmOk M τ (cls M 0) → L96 (nI 0) τ := by
    intro τ hb hc
    refine up_loopS (I := fun m τ => But (fun a k => a = 22) υ τ ∧ cmOk M τ (cls M m)) (2 ^ M 0 1) ?_ ?_ 0 τ (Nat.zero_le _) ⟨hb, hc⟩
    · intro m τ hm ⟨hb, hc⟩ nx
      apply h96
      refine st τ _ hb ?_
      simp +decide (disch := omega) only [lit, lit_neg, i_add, i_mul, i_sub, i_div, i_and, i_or, i_shl1, Nat.one_mul, i_shr1, i_bit1, i_lt, i_eq, i_in, i_cl, i_0, gI_sI, bi_0n, bi_1n, nz_bi, nz_0n, nz_1n, vn_0n, vn_1n, vn_bi, and_true, true_and, not_false_eq_true, not_true_eq_false, false_implies, true_implies, forall_const, implies_true, ite_true, ite_false, Bool.not_eq_true, Bool.not_eq_false, and_false, false_and, if_true, if_false, if_pos, true_or, or_true, false_or, or_false, hm]
      refine up_loopS (L := fun s τ => L106 (nI m) s τ) (I := fun s τ => But (fun a k => a = 22) υ τ ∧ cmOk M τ (fun a b => if a < s then cls M (m + 1) a b else cls M m a b)) (2 ^ M 0 1) ?_ ?_ 0 τ (Nat.zero_le _) ⟨hb, fun a b ha hb2 => by rw [hc a b ha hb2]; rfl⟩
      · intro s τ hs ⟨hb, hc⟩ nx2
        apply h106
        refine st τ _ hb ?_
        simp +decide (disch := omega) only [lit, lit_neg, i_add, i_mul, i_sub, i_div, i_and, i_or, i_shl1, Nat.one_mul, i_shr1, i_bit1, i_lt, i_eq, i_in, i_cl, i_0, gI_sI, bi_0n, bi_1n, nz_bi, nz_0n, nz_1n, vn_0n, vn_1n, vn_bi, and_true, true_and, not_false_eq_true, not_true_eq_false, false_implies, true_implies, forall_const, implies_true, ite_true, ite_false, Bool.not_eq_true, Bool.not_eq_false, and_false, false_and, if_true, if_false, if_pos, true_or, or_true, false_or, or_false, hs]
        refine up_loopS (L := fun t τ => L116 (nI m) (nI s) t τ) (I := fun t τ => But (fun a k => a = 22) υ τ ∧ cmOk M τ (fun a b => if a < s ∨ (a = s ∧ b < t) then cls M (m + 1) a b else cls M m a b)) (2 ^ M 0 1) ?_ ?_ 0 τ (Nat.zero_le _) ⟨hb, fun a b ha hb2 => by
          rw [hc a b ha hb2]
          show bi (if a < s then _ else _) = bi (if a < s ∨ (a = s ∧ b < 0) then _ else _)
          by_cases e : a < s
          · rw [if_pos e, if_pos (Or.inl e)]
          · rw [if_neg e, if_neg (by omega)]⟩
        · intro t τ ht ⟨hb, hc⟩ nx3
          apply h116
          refine st τ _ hb ?_
          have c1 : gI τ 22 (256 * s + m) = bi (cls M m s m) := by
            rw [hc s m hs hm]
            show bi (if s < s ∨ (s = s ∧ m < t) then _ else _) = _
            split
            · rw [cls_col]
            · rfl
          have c2 : gI τ 22 (256 * m + t) = bi (cls M m m t) := by
            rw [hc m t hm ht]
            show bi (if m < s ∨ (m = s ∧ t < t) then _ else _) = _
            split
            · rw [cls_row]
            · rfl
          have c3 : gI τ 22 (256 * s + t) = bi (cls M m s t) := by
            rw [hc s t hs ht]
            show bi (if s < s ∨ (s = s ∧ t < t) then _ else _) = _
            rw [if_neg (by omega)]
          have hput : ∀ v, v = cls M (m + 1) s t → L116 (nI m) (nI s) (nI (t + 1)) (sI τ 22 (256 * s + t) (bi v)) := fun v hv => nx3 _ ⟨hb.up rfl, fun a b ha hb2 => by
            rw [gI_sI]
            show _ = bi (if a < s ∨ (a = s ∧ b < t + 1) then _ else _)
            by_cases e : a = s ∧ b = t
            · obtain ⟨e1, e2⟩ := e
              subst e1 e2
              rw [if_pos ⟨rfl, rfl⟩, if_pos (by omega), hv]
            · rw [if_neg (by omega), hc a b ha hb2]
              show bi (if a < s ∨ (a = s ∧ b < t) then _ else _) = _
              by_cases e2 : a < s ∨ (a = s ∧ b < t)
              · rw [if_pos e2, if_pos (by omega)]
              · rw [if_neg e2, if_neg (by omega)]⟩
          simp +decide (disch := omega) only [lit, lit_neg, i_add, i_mul, i_sub, i_div, i_and, i_or, i_shl1, Nat.one_mul, i_shr1, i_bit1, i_lt, i_eq, i_in, i_cl, i_0, gI_sI, bi_0n, bi_1n, nz_bi, nz_0n, nz_1n, vn_0n, vn_1n, vn_bi, and_true, true_and, not_false_eq_true, not_true_eq_false, false_implies, true_implies, forall_const, implies_true, ite_true, ite_false, Bool.not_eq_true, Bool.not_eq_false, and_false, false_and, if_true, if_false, if_pos, true_or, or_true, false_or, or_false, ht, show 256 * s + m < 65536 by omega, show 256 * s + t < 65536 by omega, show 256 * m + t < 65536 by omega, c1, c2, c3]
          refine ⟨fun z => nx2 τ ⟨hb, fun a b ha hb2 => ?_⟩, fun z => ⟨fun z2 => ⟨fun z3 => hput _ ?_, fun z3 => hput _ ?_⟩, fun z2 => hput _ ?_⟩⟩
          · rw [hc a b ha hb2]
            show bi (if a < s ∨ (a = s ∧ b < t) then _ else _) = bi (if a < s + 1 then _ else _)
            by_cases e : a < s
            · rw [if_pos (Or.inl e), if_pos (by omega)]
            · by_cases e2 : a = s
              · subst e2
                have : cls M (m + 1) a b = cls M m a b := by simp only [cls]; rw [z, Bool.false_and, Bool.or_false]
                rw [this, if_pos (show a < a + 1 by omega)]
                split <;> rfl
              · rw [if_neg (by omega), if_neg (by omega)]
          · simp only [cls]; rw [z2, z3, Bool.and_false]; rfl
          · simp only [cls]; rw [z, z2, z3]; rfl
          · simp only [cls]; rw [z2]; rfl
        · intro τ ⟨hb, hc⟩
          apply h116
          refine st τ _ hb ?_
          simp +decide (disch := omega) only [lit, lit_neg, i_add, i_mul, i_sub, i_div, i_and, i_or, i_shl1, Nat.one_mul, i_shr1, i_bit1, i_lt, i_eq, i_in, i_cl, i_0, gI_sI, bi_0n, bi_1n, nz_bi, nz_0n, nz_1n, vn_0n, vn_1n, vn_bi, and_true, true_and, not_false_eq_true, not_true_eq_false, false_implies, true_implies, forall_const, implies_true, ite_true, ite_false, Bool.not_eq_true, Bool.not_eq_false, and_false, false_and, if_true, if_false, if_pos, true_or, or_true, false_or, or_false, Nat.lt_irrefl]
          refine nx2 τ ⟨hb, fun a b ha hb2 => ?_⟩
          rw [hc a b ha hb2]
          show bi (if a < s ∨ (a = s ∧ b < _) then _ else _) = bi (if a < s + 1 then _ else _)
          by_cases e : a < s + 1
          · rw [if_pos e, if_pos (by omega)]
          · rw [if_neg e, if_neg (by omega)]
      · intro τ ⟨hb, hc⟩
        apply h106
        refine st τ _ hb ?_
        simp +decide (disch := omega) only [lit, lit_neg, i_add, i_mul, i_sub, i_div, i_and, i_or, i_shl1, Nat.one_mul, i_shr1, i_bit1, i_lt, i_eq, i_in, i_cl, i_0, gI_sI, bi_0n, bi_1n, nz_bi, nz_0n, nz_1n, vn_0n, vn_1n, vn_bi, and_true, true_and, not_false_eq_true, not_true_eq_false, false_implies, true_implies, forall_const, implies_true, ite_true, ite_false, Bool.not_eq_true, Bool.not_eq_false, and_false, false_and, if_true, if_false, if_pos, true_or, or_true, false_or, or_false, Nat.lt_irrefl]
        exact nx τ ⟨hb, fun a b ha hb2 => by rw [hc a b ha hb2]; exact congrArg bi (if_pos ha)⟩
    · intro τ ⟨hb, hc⟩
      apply h96
      refine st τ _ hb ?_
      simp +decide (disch := omega) only [lit, lit_neg, i_add, i_mul, i_sub, i_div, i_and, i_or, i_shl1, Nat.one_mul, i_shr1, i_bit1, i_lt, i_eq, i_in, i_cl, i_0, gI_sI, bi_0n, bi_1n, nz_bi, nz_0n, nz_1n, vn_0n, vn_1n, vn_bi, and_true, true_and, not_false_eq_true, not_true_eq_false, false_implies, true_implies, forall_const, implies_true, ite_true, ite_false, Bool.not_eq_true, Bool.not_eq_false, and_false, false_and, if_true, if_false, if_pos, true_or, or_true, false_or, or_false, Nat.lt_irrefl]
      exact hq τ (rm τ hb).1 (rm τ hb).2 hc
  have g27 : ∀ τ, But (fun a k => a = 22) υ τ → cmOk M τ (fun _ _ => false) → L27 (nI 0) τ := by
    intro τ hb hc
    refine up_loopS (I := fun s τ => But (fun a k => a = 22) υ τ ∧ cmOk M τ (fun a b => decide (a < s) && ldsB M a b)) (2 ^ M 0 1) ?_ ?_ 0 τ (Nat.zero_le _) ⟨hb, fun a b ha hb2 => by rw [hc a b ha hb2]; rfl⟩
    · intro s τ hs ⟨hb, hc⟩ nx
      apply h27
      refine st τ _ hb ?_
      simp +decide (disch := omega) only [lit, lit_neg, i_add, i_mul, i_sub, i_div, i_and, i_or, i_shl1, Nat.one_mul, i_shr1, i_bit1, i_lt, i_eq, i_in, i_cl, i_0, gI_sI, bi_0n, bi_1n, nz_bi, nz_0n, nz_1n, vn_0n, vn_1n, vn_bi, and_true, true_and, not_false_eq_true, not_true_eq_false, false_implies, true_implies, forall_const, implies_true, ite_true, ite_false, Bool.not_eq_true, Bool.not_eq_false, and_false, false_and, if_true, if_false, if_pos, true_or, or_true, false_or, or_false, hs]
      refine up_loopS (L := fun c τ => L37 (nI s) c τ) (I := fun c τ => But (fun a k => a = 22) υ τ ∧ cmOk M τ (fun a b => if a < s then ldsB M a b else if a = s then ldU M a b c else false)) (2 ^ M 0 2) ?_ ?_ 0 τ (Nat.zero_le _) ⟨hb, fun a b ha hb2 => by
        rw [hc a b ha hb2]
        show bi (decide (a < s) && _) = bi (if a < s then _ else if a = s then _ else _)
        by_cases e : a < s
        · rw [if_pos e, decide_eq_true e]; rfl
        · rw [if_neg e, decide_eq_false e]
          split <;> rfl⟩
      · intro c τ hcc ⟨hb, hc⟩ nx2
        apply h37
        have hrm := rm τ hb
        refine sp_ways hW hrm.1.1.1 ?_
        have hto := toN_lt M s c
        simp +decide (disch := omega) only [lit, lit_neg, i_add, i_mul, i_sub, i_div, i_and, i_or, i_shl1, Nat.one_mul, i_shr1, i_bit1, i_lt, i_eq, i_in, i_cl, i_0, gI_sI, bi_0n, bi_1n, nz_bi, nz_0n, nz_1n, vn_0n, vn_1n, vn_bi, and_true, true_and, not_false_eq_true, not_true_eq_false, false_implies, true_implies, forall_const, implies_true, ite_true, ite_false, Bool.not_eq_true, Bool.not_eq_false, and_false, false_and, if_true, if_false, if_pos, true_or, or_true, false_or, or_false, hcc, show 16 * s + c < 4096 by omega, (hrm.2 s c hs hcc).1, e1_lt0]
        refine ⟨fun q => ?_, fun q => ?_⟩
        · have hr : rightB M s c = false := by
            cases hr : rightB M s c
            · rfl
            · simp [toN, hr] at q
          refine nx2 τ ⟨hb, fun a b ha hb2 => ?_⟩
          rw [hc a b ha hb2]
          congr 1
          show (if a < s then _ else if a = s then _ else _) = (if a < s then _ else if a = s then _ else _)
          split
          · rfl
          · split
            · rename_i e
              subst e
              simp only [ldU, anyN]; rw [hr, Bool.false_and, Bool.or_false]
            · rfl
        · have hr : rightB M s c = true := by
            cases hr : rightB M s c
            · simp [toN, hr] at q
            · rfl
          have ht : toN M s c = nxtN M s c + 1 := by unfold toN; rw [if_pos hr]
          have hn := nxtN_lt M s c
          rw [ht, e1_s]
          simp +decide (disch := omega) only [lit, lit_neg, i_add, i_mul, i_sub, i_div, i_and, i_or, i_shl1, Nat.one_mul, i_shr1, i_bit1, i_lt, i_eq, i_in, i_cl, i_0, gI_sI, bi_0n, bi_1n, nz_bi, nz_0n, nz_1n, vn_0n, vn_1n, vn_bi, and_true, true_and, not_false_eq_true, not_true_eq_false, false_implies, true_implies, forall_const, implies_true, ite_true, ite_false, Bool.not_eq_true, Bool.not_eq_false, and_false, false_and, if_true, if_false, if_pos, true_or, or_true, false_or, or_false, show 256 * s + nxtN M s c < 65536 by omega]
          refine nx2 _ ⟨hb.up rfl, fun a b ha hb2 => ?_⟩
          rw [gI_sI]
          by_cases e : a = s ∧ b = nxtN M s c
          · obtain ⟨e1, e2⟩ := e
            rw [if_pos ⟨rfl, by rw [e1, e2]⟩]
            show bi true = bi (if a < s then _ else if a = s then _ else _)
            rw [if_neg (by omega), if_pos e1, e1, e2]
            simp [ldU, anyN, hr]
          · rw [if_neg (by omega), hc a b ha hb2]
            congr 1
            show (if a < s then _ else if a = s then _ else _) = (if a < s then _ else if a = s then _ else _)
            split
            · rfl
            · split
              · rename_i e2
                subst e2
                simp only [ldU, anyN]; rw [hr, decide_eq_false (fun w => e ⟨rfl, w.symm⟩), Bool.and_false, Bool.or_false]
              · rfl
      · intro τ ⟨hb, hc⟩
        apply h37
        refine sp_ways hW (rm τ hb).1.1.1 ?_
        simp +decide (disch := omega) only [lit, lit_neg, i_add, i_mul, i_sub, i_div, i_and, i_or, i_shl1, Nat.one_mul, i_shr1, i_bit1, i_lt, i_eq, i_in, i_cl, i_0, gI_sI, bi_0n, bi_1n, nz_bi, nz_0n, nz_1n, vn_0n, vn_1n, vn_bi, and_true, true_and, not_false_eq_true, not_true_eq_false, false_implies, true_implies, forall_const, implies_true, ite_true, ite_false, Bool.not_eq_true, Bool.not_eq_false, and_false, false_and, if_true, if_false, if_pos, true_or, or_true, false_or, or_false, Nat.lt_irrefl]
        refine nx τ ⟨hb, fun a b ha hb2 => ?_⟩
        rw [hc a b ha hb2]
        show bi (if a < s then _ else if a = s then _ else _) = bi (decide (a < s + 1) && _)
        by_cases e : a < s
        · rw [if_pos e, decide_eq_true (by omega)]; rfl
        · rw [if_neg e]
          by_cases e2 : a = s
          · rw [if_pos e2, decide_eq_true (by omega)]; rfl
          · rw [if_neg e2, decide_eq_false (by omega)]; rfl
    · intro τ ⟨hb, hc⟩
      apply h27
      refine st τ _ hb ?_
      simp +decide (disch := omega) only [lit, lit_neg, i_add, i_mul, i_sub, i_div, i_and, i_or, i_shl1, Nat.one_mul, i_shr1, i_bit1, i_lt, i_eq, i_in, i_cl, i_0, gI_sI, bi_0n, bi_1n, nz_bi, nz_0n, nz_1n, vn_0n, vn_1n, vn_bi, and_true, true_and, not_false_eq_true, not_true_eq_false, false_implies, true_implies, forall_const, implies_true, ite_true, ite_false, Bool.not_eq_true, Bool.not_eq_false, and_false, false_and, if_true, if_false, if_pos, true_or, or_true, false_or, or_false, Nat.lt_irrefl]
      exact g96 τ hb (fun a b ha hb2 => by rw [hc a b ha hb2]; show bi (decide (a < _) && _) = _; rw [decide_eq_true ha]; rfl)
  refine up_loopS (I := fun i τ => But (fun a k => a = 22) υ τ ∧ ∀ k, k < i → gI τ 22 k = bi false) 65536 ?_ ?_ 0 υ (Nat.zero_le _) ⟨But.rf, fun s hs => absurd hs (by omega)⟩
  · intro i τ hi ⟨hb, hf⟩ nx
    apply h6
    simp +decide (disch := omega) only [lit, lit_neg, i_add, i_mul, i_sub, i_div, i_and, i_or, i_shl1, Nat.one_mul, i_shr1, i_bit1, i_lt, i_eq, i_in, i_cl, i_0, gI_sI, bi_0n, bi_1n, nz_bi, nz_0n, nz_1n, vn_0n, vn_1n, vn_bi, and_true, true_and, not_false_eq_true, not_true_eq_false, false_implies, true_implies, forall_const, implies_true, ite_true, ite_false, Bool.not_eq_true, Bool.not_eq_false, and_false, false_and, if_true, if_false, if_pos, true_or, or_true, false_or, or_false, hi]
    refine nx _ ⟨hb.up rfl, fun s hs => ?_⟩
    rw [gI_sI]
    by_cases e : s = i
    · rw [if_pos ⟨rfl, e⟩]
    · rw [if_neg (by omega)]; exact hf s (by omega)
  · intro τ ⟨hb, hf⟩
    apply h6
    simp +decide (disch := omega) only [lit, lit_neg, i_add, i_mul, i_sub, i_div, i_and, i_or, i_shl1, Nat.one_mul, i_shr1, i_bit1, i_lt, i_eq, i_in, i_cl, i_0, gI_sI, bi_0n, bi_1n, nz_bi, nz_0n, nz_1n, vn_0n, vn_1n, vn_bi, and_true, true_and, not_false_eq_true, not_true_eq_false, false_implies, true_implies, forall_const, implies_true, ite_true, ite_false, Bool.not_eq_true, Bool.not_eq_false, and_false, false_and, if_true, if_false, if_pos, true_or, or_true, false_or, or_false, Nat.lt_irrefl]
    exact g27 τ hb (fun a b ha hb2 => hf _ (by omega))
theorem bitsN_or2 (n : Nat) (f g : Nat → Bool) : bitsN n f ||| bitsN n g = bitsN n (fun i => f i || g i) := by
  apply nat_bits
  intro j
  rw [Nat.testBit_or, bitsN_bit, bitsN_bit, bitsN_bit]
  cases decide (j < n) <;> rfl
theorem bitsN_full (n : Nat) (f : Nat → Bool) : (bitsN n f = 2 ^ n - 1) = (allN n f = true) := by
  induction n with
  | zero => simp [bitsN, allN]
  | succ n ih =>
    have h1 := bitsN_lt n f
    have h2 : 2 ^ (n + 1) = 2 ^ n + 2 ^ n := by rw [Nat.pow_succ]; omega
    simp only [bitsN, allN, Bool.and_eq_true]
    rw [h2, ← ih]
    cases hf : f n
    · rw [if_neg (by decide)]
      exact propext ⟨fun h => by omega, fun h => absurd h.2 (by decide)⟩
    · rw [if_pos rfl]
      exact propext ⟨fun h => ⟨by omega, rfl⟩, fun h => by have := h.1; omega⟩
def faN (M : Ms) (s u c f : Nat) : Bool := anyN u (fun u => inCirc M s u && anyN (2 ^ M 0 2) (fairBy M s u f)) || (inCirc M s u && anyN c (fairBy M s u f))
theorem sp_fairAround {M : Ms} {σ : Sg} {s : Nat} {Q : Int32 → Prop} (hW : WFm M) (hm : RMm M σ) (hT : TB M σ) (hC : cmOk M σ (trc M)) (hs : s < 2 ^ M 0 1) (hq : Q (nI (bitsN (M 0 6) (fairHere M s)))) : wp_X10_fairAround (nI s) σ Q := by
  have h256 := pow_le8 hW.2.1
  have h16 := pow_le4 hW.2.2.1
  intro L4 L53 h4 h53
  refine up_loopS (L := fun u x => L4 x u) (I := fun u x => x = nI (bitsN (M 0 6) (faN M s u 0))) (2 ^ M 0 1) ?_ ?_ 0 _ (Nat.zero_le _) ?_
  · intro u x hu hx nx
    subst hx
    apply h4
    refine sp_states hW hm ?_
    simp +decide (disch := omega) only [lit, lit_neg, i_add, i_mul, i_sub, i_div, i_and, i_or, i_shl1, Nat.one_mul, i_shr1, i_bit1, i_lt, i_eq, i_in, i_cl, i_0, gI_sI, bi_0n, bi_1n, nz_bi, nz_0n, nz_1n, vn_0n, vn_1n, vn_bi, and_true, true_and, not_false_eq_true, not_true_eq_false, false_implies, true_implies, forall_const, implies_true, ite_true, ite_false, Bool.not_eq_true, Bool.not_eq_false, and_false, false_and, if_true, if_false, if_pos, true_or, or_true, false_or, or_false, hu, show 256 * s + u < 65536 by omega, show 256 * u + s < 65536 by omega, hC s u hs hu, hC u s hu hs]
    have inn : inCirc M s u = true → L53 (nI (bitsN (M 0 6) (faN M s u 0))) (nI u) (nI 0) := by
      intro hin
      refine up_loopS (L := fun c x => L53 x (nI u) c) (I := fun c x => x = nI (bitsN (M 0 6) (faN M s u c))) (2 ^ M 0 2) ?_ ?_ 0 _ (Nat.zero_le _) rfl
      · intro c x hc hx nx2
        subst hx
        apply h53
        refine sp_ways hW hm ?_
        have hto := toN_lt M u c
        obtain ⟨t1, t2, t3⟩ := hT u c hu hc
        have no : (∀ f, fairBy M s u f c = false) → L53 (nI (bitsN (M 0 6) (faN M s u c))) (nI u) (nI (c + 1)) := fun h => nx2 _ (by
          congr 1
          refine bitsN_congr (fun f _ => ?_)
          simp only [faN, anyN]; rw [h f, Bool.or_false])
        have yes : (∀ f, fairBy M s u f c = sgv (val M u c) (M 6 f)) → L53 (nI (bitsN (M 0 6) (faN M s u c) ||| fairN M u c)) (nI u) (nI (c + 1)) := fun h => nx2 _ (by
          congr 1
          unfold fairN
          rw [bitsN_or2]
          refine bitsN_congr (fun f _ => ?_)
          simp only [faN, anyN]; rw [h f, hin, Bool.true_and, Bool.true_and, Bool.or_assoc])
        simp +decide (disch := omega) only [lit, lit_neg, i_add, i_mul, i_sub, i_div, i_and, i_or, i_shl1, Nat.one_mul, i_shr1, i_bit1, i_lt, i_eq, i_in, i_cl, i_0, gI_sI, bi_0n, bi_1n, nz_bi, nz_0n, nz_1n, vn_0n, vn_1n, vn_bi, and_true, true_and, not_false_eq_true, not_true_eq_false, false_implies, true_implies, forall_const, implies_true, ite_true, ite_false, Bool.not_eq_true, Bool.not_eq_false, and_false, false_and, if_true, if_false, if_pos, true_or, or_true, false_or, or_false, hc, show 16 * u + c < 4096 by omega, t1, t3, e1_lt0]
        refine ⟨fun q => no (fun f => ?_), fun q => ?_⟩
        · have hr : rightB M u c = false := by
            cases hr : rightB M u c
            · rfl
            · simp [toN, hr] at q
          unfold fairBy
          rw [hr, Bool.false_and]
        · have hr : rightB M u c = true := by
            cases hr : rightB M u c
            · simp [toN, hr] at q
            · rfl
          have ht : toN M u c = nxtN M u c + 1 := by unfold toN; rw [if_pos hr]
          have hn := nxtN_lt M u c
          rw [ht, e1_s]
          simp +decide (disch := omega) only [lit, lit_neg, i_add, i_mul, i_sub, i_div, i_and, i_or, i_shl1, Nat.one_mul, i_shr1, i_bit1, i_lt, i_eq, i_in, i_cl, i_0, gI_sI, bi_0n, bi_1n, nz_bi, nz_0n, nz_1n, vn_0n, vn_1n, vn_bi, and_true, true_and, not_false_eq_true, not_true_eq_false, false_implies, true_implies, forall_const, implies_true, ite_true, ite_false, Bool.not_eq_true, Bool.not_eq_false, and_false, false_and, if_true, if_false, if_pos, true_or, or_true, false_or, or_false, show 256 * nxtN M u c + s < 65536 by omega, hC _ s hn hs]
          refine ⟨fun z => yes (fun f => ?_), fun z => ⟨fun z2 => no (fun f => ?_), fun z2 => yes (fun f => ?_)⟩⟩
          · unfold fairBy; rw [hr, decide_eq_true z]; rfl
          · unfold fairBy; rw [hr, decide_eq_false z, z2]; rfl
          · unfold fairBy; rw [hr, z2, Bool.or_true]; rfl
      · intro x hx
        subst hx
        apply h53
        refine sp_ways hW hm ?_
        simp +decide (disch := omega) only [lit, lit_neg, i_add, i_mul, i_sub, i_div, i_and, i_or, i_shl1, Nat.one_mul, i_shr1, i_bit1, i_lt, i_eq, i_in, i_cl, i_0, gI_sI, bi_0n, bi_1n, nz_bi, nz_0n, nz_1n, vn_0n, vn_1n, vn_bi, and_true, true_and, not_false_eq_true, not_true_eq_false, false_implies, true_implies, forall_const, implies_true, ite_true, ite_false, Bool.not_eq_true, Bool.not_eq_false, and_false, false_and, if_true, if_false, if_pos, true_or, or_true, false_or, or_false, Nat.lt_irrefl]
        refine nx _ (by
          congr 1
          refine bitsN_congr (fun f _ => ?_)
          simp only [faN, anyN, Bool.and_false, Bool.or_false])
    have out : inCirc M s u = false → L4 (nI (bitsN (M 0 6) (faN M s u 0))) (nI (u + 1)) := fun h => nx _ (by
      congr 1
      refine bitsN_congr (fun f _ => ?_)
      simp only [faN, anyN, h, Bool.false_and, Bool.and_false, Bool.or_false])
    refine ⟨fun e => inn (by unfold inCirc; rw [decide_eq_true e]; rfl), fun e => ⟨fun z => out (by unfold inCirc; rw [decide_eq_false e, z]; rfl), fun z => ⟨fun z2 => out (by unfold inCirc; rw [decide_eq_false e, z2, Bool.and_false]; rfl), fun z2 => inn (by unfold inCirc; rw [z, z2, Bool.and_true, Bool.or_true])⟩⟩⟩
  · intro x hx
    subst hx
    apply h4
    refine sp_states hW hm ?_
    simp +decide (disch := omega) only [lit, lit_neg, i_add, i_mul, i_sub, i_div, i_and, i_or, i_shl1, Nat.one_mul, i_shr1, i_bit1, i_lt, i_eq, i_in, i_cl, i_0, gI_sI, bi_0n, bi_1n, nz_bi, nz_0n, nz_1n, vn_0n, vn_1n, vn_bi, and_true, true_and, not_false_eq_true, not_true_eq_false, false_implies, true_implies, forall_const, implies_true, ite_true, ite_false, Bool.not_eq_true, Bool.not_eq_false, and_false, false_and, if_true, if_false, if_pos, true_or, or_true, false_or, or_false, Nat.lt_irrefl]
    have : bitsN (M 0 6) (faN M s (2 ^ M 0 1) 0) = bitsN (M 0 6) (fairHere M s) := bitsN_congr (fun f _ => by
      simp only [faN, anyN, Bool.and_false, Bool.or_false]; rfl)
    rw [this]
    exact hq
  · have : bitsN (M 0 6) (faN M s 0 0) = 0 := by
      apply nat_bits
      intro j
      rw [bitsN_bit]
      simp [faN, anyN]
    rw [this]
    rfl
def liveB (M : Ms) (s : Nat) : Bool := trc M s s && ((decide (s = M 0 3) || trc M (M 0 3) s) && allN (M 0 6) (fun f => fairHere M s f))
theorem rp_live {M : Ms} {σ : Sg} {Q : Int32 → Sg → Prop} (hW : WFm M) (hR : RM M σ) (hq : RefDoes (op_live M) Q) : wp_X10_live σ Q := by
  have h256 := pow_le8 hW.2.1
  have h3 := hW.2.2.2.2.1
  have hfi := hW.2.2.2.2.2.1
  intro L6 h6
  refine sp_findComes hW hR (fun τ hτ hT hC => ?_)
  refine up_loop (L := fun i => L6 i τ) (I := fun i => ∀ s, s < i → liveB M s = false) (2 ^ M 0 1) ?_ ?_ 0 (Nat.zero_le _) (fun s hs => absurd hs (by omega))
  · intro s hs hI nx
    apply h6
    refine sp_states hW hτ.1.1 ?_
    have no : liveB M s = false → L6 (nI (s + 1)) τ := fun h => nx (fun t ht => by
      by_cases e : t = s
      · rw [e]; exact h
      · exact hI t (by omega))
    have r8 : gI τ 0 8 = nI (M 0 3) := hτ.1.1.2.2.2.1
    have r11 : gI τ 0 11 = nI (M 0 6) := hτ.1.1.2.2.2.2.2.2.1
    have hp : 2 ^ M 0 6 ≤ 8 := by
      have := Nat.pow_le_pow_right (n := 2) (by decide) h3
      omega
    have hp1 : 1 ≤ 2 ^ M 0 6 := Nat.pow_pos (by decide)
    have hfl := bitsN_lt (M 0 6) (fairHere M s)
    have fa : trc M s s = true → (s = M 0 3 ∨ trc M (M 0 3) s = true) → wp_X10_fairAround (nI s) τ (fun r2 => (r2 = nI (2 ^ M 0 6 - 1) → Q (nI s) τ) ∧ (¬ r2 = nI (2 ^ M 0 6 - 1) → L6 (nI (s + 1)) τ)) := by
      intro t1 t2
      refine sp_fairAround hW hτ.1.1 hT hC hs ?_
      rw [i_eq (by omega) (by omega), bitsN_full]
      have hv : liveB M s = allN (M 0 6) (fun f => fairHere M s f) := by
        unfold liveB
        have : (decide (s = M 0 3) || trc M (M 0 3) s) = true := by
          rcases t2 with t2 | t2
          · rw [decide_eq_true t2]; rfl
          · rw [t2, Bool.or_true]
        rw [t1, this, Bool.true_and, Bool.true_and]
      refine ⟨fun z => ?_, fun z => no ?_⟩
      · have := hq τ hτ
        rw [show (op_live M).1 = e1 (lst (2 ^ M 0 1) (liveB M)) from rfl, lst_some hs (hv.trans z) hI, e1_s] at this
        exact this
      · rw [hv]
        cases h : allN (M 0 6) (fun f => fairHere M s f)
        · rfl
        · exact absurd h z
    simp +decide (disch := omega) only [lit, lit_neg, i_add, i_mul, i_sub, i_div, i_and, i_or, i_shl1, Nat.one_mul, i_shr1, i_bit1, i_lt, i_eq, i_in, i_cl, i_0, gI_sI, bi_0n, bi_1n, nz_bi, nz_0n, nz_1n, vn_0n, vn_1n, vn_bi, and_true, true_and, not_false_eq_true, not_true_eq_false, false_implies, true_implies, forall_const, implies_true, ite_true, ite_false, Bool.not_eq_true, Bool.not_eq_false, and_false, false_and, if_true, if_false, if_pos, true_or, or_true, false_or, or_false, hs, show 256 * s + s < 65536 by omega, show 256 * M 0 3 + s < 65536 by omega, hC s s hs hs, hC (M 0 3) s hfi hs, r8, r11, i_1shl1]
    refine ⟨fun z => no (by unfold liveB; rw [z]; rfl), fun z => ⟨fun e => fa z (Or.inl e), fun e => ⟨fun z2 => no (by unfold liveB; rw [decide_eq_false e, z2, Bool.false_or, Bool.false_and, Bool.and_false]), fun z2 => fa z (Or.inr z2)⟩⟩⟩
  · intro hI
    apply h6
    refine sp_states hW hτ.1.1 ?_
    simp +decide (disch := omega) only [lit, lit_neg, i_add, i_mul, i_sub, i_div, i_and, i_or, i_shl1, Nat.one_mul, i_shr1, i_bit1, i_lt, i_eq, i_in, i_cl, i_0, gI_sI, bi_0n, bi_1n, nz_bi, nz_0n, nz_1n, vn_0n, vn_1n, vn_bi, and_true, true_and, not_false_eq_true, not_true_eq_false, false_implies, true_implies, forall_const, implies_true, ite_true, ite_false, Bool.not_eq_true, Bool.not_eq_false, and_false, false_and, if_true, if_false, if_pos, true_or, or_true, false_or, or_false, Nat.lt_irrefl]
    have := hq τ hτ
    rw [show (op_live M).1 = e1 (lst (2 ^ M 0 1) (liveB M)) from rfl, lst_none hI] at this
    exact this
