/-! CLAUSES of the class: taken over, changed, taken out, put back -/
theorem CLr_ext {σ : Sg} {o N n : Nat} {m v m' v' : Nat → Nat} (h : CLr σ o N n m v) (he : ∀ i, i < n → m' i = m i ∧ v' i = v i) : CLr σ o N n m' v' := ⟨h.1, h.2.1, fun i hi => by rw [(he i hi).1, (he i hi).2]; exact h.2.2 i hi⟩
theorem lft_s (N i : Nat) (m v : Nat → Nat) (s : Nat) : lft N (i + 1) m v s = (lft N i m v s && !inCubeB s (m i) (v i)) := by
  simp only [lft, anyN]
  cases decide (s < N) <;> cases anyN i (fun i => inCubeB s (m i) (v i)) <;> cases inCubeB s (m i) (v i) <;> rfl
theorem cl_becomeLike {σ : Sg} {o cap N n o' cap' N' n' : Nat} {m v m' v' : Nat → Nat} {Q : Sg → Prop} (ho : IsCl o cap) (h : CLr σ o N n m v) (ho' : IsCl o' cap') (h' : CLr σ o' N' n' m' v') (hw' : CW n' m' v') (hn' : n' ≤ cap') (hc : n' ≤ cap) (hN : N ≤ 256) (hne : ∀ a k, CS o a k → ¬ CS o' a k) (hq : ∀ τ, CB o σ τ → CLr τ o N n' m' v' → SS τ (o + 1) (lft N n' m' v') → Q τ) : wp_X0_becomeLike o o' σ Q := by
  have hb := ho'.2.2.2.2.2.2.2
  have hne' : ∀ a k, CS o' a k → ¬ CS o a k := fun a k h1 h2 => hne a k h2 h1
  intro L hL
  rw [ho.1, h.2.1]
  simp only [onB, cond_true]
  refine cl_restart (m := m') (v := v') ho hN (fun τ hb hc0 hs => ?_)
  refine up_loopS (I := fun i τ => CB o σ τ ∧ CLr τ o N i m' v' ∧ SS τ (o + 1) (lft N i m' v')) n' ?_ ?_ 0 τ (Nat.zero_le _) ⟨hb, hc0, SS_congr hs (fun s _ => by simp [lft, anyN])⟩
  · intro i τ hi ⟨hb, hc1, hs⟩ nx
    have hc' := h'.kept hb hne'
    apply hL
    rw [ho'.1, ho.1, hc'.1]
    simp only [onB, cond_true]
    simp +decide (disch := omega) only [lit, lit_neg, i_add, i_mul, i_sub, i_div, i_and, i_or, i_shl1, Nat.one_mul, i_shr1, i_bit1, i_lt, i_eq, i_in, i_cl, i_0, gI_sI, bi_0n, bi_1n, nz_bi, nz_0n, nz_1n, vn_0n, vn_1n, vn_bi, and_true, true_and, not_false_eq_true, not_true_eq_false, false_implies, true_implies, forall_const, implies_true, ite_true, ite_false, Bool.not_eq_true, Bool.not_eq_false, and_false, false_and, if_true, if_false, if_pos, true_or, or_true, false_or, or_false, hi]
    refine cl_cubeAt ho' hc'.1 hn' hi (hc'.2.2 i hi) (cl_put ho hc1 hs (by omega) (hw' i hi).1 (hw' i hi).2 (fun υ hb2 hc2 hs2 => nx υ ⟨hb.tr hb2, CLr_ext hc2 (fun k hk => ?_), SS_congr hs2 (fun s _ => by rw [lft_s])⟩))
    by_cases e : k = i
    · simp [e]
    · simp [e]
  · intro τ ⟨hb, hc1, hs⟩
    have hc' := h'.kept hb hne'
    apply hL
    rw [ho'.1, hc'.1]
    simp only [onB, cond_true]
    simp +decide (disch := omega) only [lit, lit_neg, i_add, i_mul, i_sub, i_div, i_and, i_or, i_shl1, Nat.one_mul, i_shr1, i_bit1, i_lt, i_eq, i_in, i_cl, i_0, gI_sI, bi_0n, bi_1n, nz_bi, nz_0n, nz_1n, vn_0n, vn_1n, vn_bi, and_true, true_and, not_false_eq_true, not_true_eq_false, false_implies, true_implies, forall_const, implies_true, ite_true, ite_false, Bool.not_eq_true, Bool.not_eq_false, and_false, false_and, if_true, if_false, if_pos, true_or, or_true, false_or, or_false, Nat.lt_irrefl]
    exact hq τ hb hc1 hs
theorem cl_change {σ : Sg} {o cap N n i mm vv : Nat} {m v : Nat → Nat} {Q : Sg → Prop} (ho : IsCl o cap) (h : CLr σ o N n m v) (hw : CW n m v) (hn : n ≤ cap) (hN : N ≤ 256) (hi : i < n) (hm : mm < 256) (hv : vv &&& mm = vv) (hq : ∀ τ, CB o σ τ → CLr τ o N n (fun k => if k = i then mm else m k) (fun k => if k = i then vv else v k) → SS τ (o + 1) (lft N n (fun k => if k = i then mm else m k) (fun k => if k = i then vv else v k)) → Q τ) : wp_X0_change o (nI i) (nI (cb mm vv)) σ Q := by
  have ho' := ho
  obtain ⟨o1, o2, o3, o4, o5, o6, o7, o8⟩ := ho
  unfold wp_X0_change
  rw [o1, o2, o5, o6]
  simp only [onB, cond_true]
  refine cl_hasIndex ho' h.1 hn ?_
  rw [inb_n (by omega), decide_eq_true hi]
  simp +decide (disch := omega) only [lit, lit_neg, i_add, i_mul, i_sub, i_div, i_and, i_or, i_shl1, Nat.one_mul, i_shr1, i_bit1, i_lt, i_eq, i_in, i_cl, i_0, gI_sI, bi_0n, bi_1n, nz_bi, nz_0n, nz_1n, vn_0n, vn_1n, vn_bi, and_true, true_and, not_false_eq_true, not_true_eq_false, false_implies, true_implies, forall_const, implies_true, ite_true, ite_false, Bool.not_eq_true, Bool.not_eq_false, and_false, false_and, if_true, if_false, if_pos, true_or, or_true, false_or, or_false, bi_tn, show i < cap by omega]
  have hb0 : CB o σ (sI σ (o + 3) i (nI (cb mm vv))) := But2.rf.up (Or.inl rfl)
  have hc : CLr (sI σ (o + 3) i (nI (cb mm vv))) o N n (fun k => if k = i then mm else m k) (fun k => if k = i then vv else v k) := by
    refine ⟨?_, ?_, fun k hk => ?_⟩
    · simp [gI_sI]; exact h.1
    · simp [gI_sI]; exact h.2.1
    · simp only [gI_sI]
      by_cases e : k = i
      · subst e; simp
      · simp [e]; exact h.2.2 k hk
  refine cl_findLeft ho' hc (fun k hk => ?_) hn hN (fun τ hb hs => hq τ (hb0.tr hb.b2) (hc.kept (S := fun _ _ => False) (T := CT o) hb.b2 (fun _ _ _ z => z)) hs)
  by_cases e : k = i
  · simp [e]; exact ⟨hm, hv⟩
  · simp [e]; exact hw k hk
/-- a list without its place i -/
def drp (m : Nat → Nat) (i k : Nat) : Nat := if i ≤ k then m (k + 1) else m k
theorem cl_takeOut {σ : Sg} {o cap N n i : Nat} {m v : Nat → Nat} {Q : Sg → Prop} (ho : IsCl o cap) (h : CLr σ o N n m v) (hw : CW n m v) (hn : n ≤ cap) (hN : N ≤ 256) (hi : i < n) (hq : ∀ τ, CB o σ τ → CLr τ o N (n - 1) (drp m i) (drp v i) → SS τ (o + 1) (lft N (n - 1) (drp m i) (drp v i)) → Q τ) : wp_X0_takeOut o (nI i) σ Q := by
  have ho' := ho
  obtain ⟨o1, o2, o3, o4, o5, o6, o7, o8⟩ := ho
  intro L hL
  rw [o1]
  simp only [onB, cond_true]
  refine cl_hasIndex ho' h.1 hn ?_
  rw [inb_n (by omega), decide_eq_true hi]
  simp +decide (disch := omega) only [lit, lit_neg, i_add, i_mul, i_sub, i_div, i_and, i_or, i_shl1, Nat.one_mul, i_shr1, i_bit1, i_lt, i_eq, i_in, i_cl, i_0, gI_sI, bi_0n, bi_1n, nz_bi, nz_0n, nz_1n, vn_0n, vn_1n, vn_bi, and_true, true_and, not_false_eq_true, not_true_eq_false, false_implies, true_implies, forall_const, implies_true, ite_true, ite_false, Bool.not_eq_true, Bool.not_eq_false, and_false, false_and, if_true, if_false, if_pos, true_or, or_true, false_or, or_false, bi_tn]
  refine up_loopS (I := fun j τ => i ≤ j ∧ But2 (fun a _ => a = o + 3) (CT o) σ τ ∧ ∀ k, gI τ (o + 3) k = if i ≤ k ∧ k < j then gI σ (o + 3) (k + 1) else gI σ (o + 3) k) (n - 1) ?_ ?_ i σ (by omega) ⟨Nat.le_refl _, But2.rf, fun k => by rw [if_neg (by omega)]⟩
  · intro j τ hj ⟨hij, hb, hk⟩ nx
    apply hL
    have g2 : gI τ o 2 = nI n := by rw [hb.1 o 2 (by omega)]; exact h.1
    have k1 := hk (j + 1)
    rw [if_neg (by omega)] at k1
    rw [o1, o2, o4, o5, o6, g2]
    simp only [onB, cond_true]
    simp +decide (disch := omega) only [lit, lit_neg, i_add, i_mul, i_sub, i_div, i_and, i_or, i_shl1, Nat.one_mul, i_shr1, i_bit1, i_lt, i_eq, i_in, i_cl, i_0, gI_sI, bi_0n, bi_1n, nz_bi, nz_0n, nz_1n, vn_0n, vn_1n, vn_bi, and_true, true_and, not_false_eq_true, not_true_eq_false, false_implies, true_implies, forall_const, implies_true, ite_true, ite_false, Bool.not_eq_true, Bool.not_eq_false, and_false, false_and, if_true, if_false, if_pos, true_or, or_true, false_or, or_false, show j + 1 < n by omega, show j + 1 < cap by omega, show j < cap by omega]
    refine nx _ ⟨by omega, hb.up rfl, fun k => ?_⟩
    rw [gI_sI]
    by_cases e : k = j
    · subst e
      rw [if_pos ⟨rfl, rfl⟩, if_pos (by omega), k1]
    · rw [if_neg (by omega), hk k]
      by_cases e2 : i ≤ k ∧ k < j
      · rw [if_pos e2, if_pos (by omega)]
      · rw [if_neg e2, if_neg (by omega)]
  · intro τ ⟨hij, hb, hk⟩
    apply hL
    have g2 : gI τ o 2 = nI n := by rw [hb.1 o 2 (by omega)]; exact h.1
    have g3 : gI τ o 3 = nI N := by rw [hb.1 o 3 (by omega)]; exact h.2.1
    have hfin : wp_X0_findLeft o (sI τ o 2 (nI (n - 1))) Q := by
      have hb0 : CB o σ (sI τ o 2 (nI (n - 1))) := (hb.mono (fun a k z => Or.inl z) (fun a z => z)).up (Or.inr ⟨rfl, Or.inl rfl⟩)
      have hc : CLr (sI τ o 2 (nI (n - 1))) o N (n - 1) (drp m i) (drp v i) := by
        refine ⟨by simp [gI_sI], by simp [gI_sI, g3], fun k hk2 => ?_⟩
        rw [gI_sI, if_neg (by omega), hk k]
        unfold drp
        by_cases e : i ≤ k
        · rw [if_pos (by omega), if_pos e, if_pos e]; exact h.2.2 _ (by omega)
        · rw [if_neg (by omega), if_neg e, if_neg e]; exact h.2.2 _ (by omega)
      refine cl_findLeft ho' hc (fun k hk2 => ?_) (by omega) hN (fun υ hb2 hs => hq υ (hb0.tr hb2.b2) (hc.kept (S := fun _ _ => False) (T := CT o) hb2.b2 (fun _ _ _ z => z)) hs)
      unfold drp
      split
      · exact hw _ (by omega)
      · exact hw _ (by omega)
    rw [o1, o2, o4, o5, o6, g2]
    simp only [onB, cond_true]
    simp +decide (disch := omega) only [lit, lit_neg, i_add, i_mul, i_sub, i_div, i_and, i_or, i_shl1, Nat.one_mul, i_shr1, i_bit1, i_lt, i_eq, i_in, i_cl, i_0, gI_sI, bi_0n, bi_1n, nz_bi, nz_0n, nz_1n, vn_0n, vn_1n, vn_bi, and_true, true_and, not_false_eq_true, not_true_eq_false, false_implies, true_implies, forall_const, implies_true, ite_true, ite_false, Bool.not_eq_true, Bool.not_eq_false, and_false, false_and, if_true, if_false, if_pos, true_or, or_true, false_or, or_false, show ¬ n - 1 + 1 < n by omega]
    exact hfin
def pbk (m : Nat → Nat) (i x k : Nat) : Nat := if k = i then x else if i < k then m (k - 1) else m k
theorem down_loopS {α : Sort _} {L : Int32 → α → Prop} {I : Nat → α → Prop} (i : Nat) (step : ∀ j τ, i < j → I j τ → (∀ τ', I (j - 1) τ' → L (nI (j - 1)) τ') → L (nI j) τ) (exit : ∀ τ, I i τ → L (nI i) τ) : ∀ j τ, i ≤ j → I j τ → L (nI j) τ := by
  intro j τ hj
  obtain ⟨d, hd⟩ : ∃ d, j = i + d := ⟨j - i, by omega⟩
  induction d generalizing j τ with
  | zero => intro h; rw [Nat.add_zero] at hd; subst hd; exact exit τ h
  | succ d ih => intro h; exact step j τ (by omega) h (fun τ' h2 => ih (j - 1) τ' (by omega) (by omega) h2)
theorem cl_putBack {σ : Sg} {o cap N n i mm vv : Nat} {m v : Nat → Nat} {Q : Sg → Prop} (ho : IsCl o cap) (h : CLr σ o N n m v) (hw : CW n m v) (hn : n < cap) (hN : N ≤ 256) (hi : i ≤ n) (hm : mm < 256) (hv : vv &&& mm = vv) (hq : ∀ τ, CB o σ τ → CLr τ o N (n + 1) (pbk m i mm) (pbk v i vv) → SS τ (o + 1) (lft N (n + 1) (pbk m i mm) (pbk v i vv)) → Q τ) : wp_X0_putBack o (nI i) (nI (cb mm vv)) σ Q := by
  have ho' := ho
  obtain ⟨o1, o2, o3, o4, o5, o6, o7, o8⟩ := ho
  intro L hL
  rw [o1, h.1]
  simp only [onB, cond_true]
  simp +decide (disch := omega) only [lit, lit_neg, i_add, i_mul, i_sub, i_div, i_and, i_or, i_shl1, Nat.one_mul, i_shr1, i_bit1, i_lt, i_eq, i_in, i_cl, i_0, gI_sI, bi_0n, bi_1n, nz_bi, nz_0n, nz_1n, vn_0n, vn_1n, vn_bi, and_true, true_and, not_false_eq_true, not_true_eq_false, false_implies, true_implies, forall_const, implies_true, ite_true, ite_false, Bool.not_eq_true, Bool.not_eq_false, and_false, false_and, if_true, if_false, if_pos, true_or, or_true, false_or, or_false, show ¬ n < i by omega]
  refine ⟨by omega, fun _ => cl_isFull ho' h.1 (by omega) ?_⟩
  rw [decide_eq_true hn]
  simp +decide (disch := omega) only [lit, lit_neg, i_add, i_mul, i_sub, i_div, i_and, i_or, i_shl1, Nat.one_mul, i_shr1, i_bit1, i_lt, i_eq, i_in, i_cl, i_0, gI_sI, bi_0n, bi_1n, nz_bi, nz_0n, nz_1n, vn_0n, vn_1n, vn_bi, and_true, true_and, not_false_eq_true, not_true_eq_false, false_implies, true_implies, forall_const, implies_true, ite_true, ite_false, Bool.not_eq_true, Bool.not_eq_false, and_false, false_and, if_true, if_false, if_pos, true_or, or_true, false_or, or_false, bi_fn, Bool.not_true]
  refine down_loopS (I := fun j τ => j ≤ n ∧ But2 (fun a _ => a = o + 3) (CT o) σ τ ∧ ∀ k, gI τ (o + 3) k = if j < k ∧ k ≤ n then gI σ (o + 3) (k - 1) else gI σ (o + 3) k) i ?_ ?_ n σ hi ⟨Nat.le_refl _, But2.rf, fun k => by rw [if_neg (by omega)]⟩
  · intro j τ hj ⟨hjn, hb, hk⟩ nx
    apply hL
    have k1 := hk (j - 1)
    rw [if_neg (by omega)] at k1
    rw [o1, o2, o5, o6]
    simp only [onB, cond_true]
    have em : nI j + (-1 : Int32) = nI (j - 1) := by
      obtain ⟨l, rfl⟩ : ∃ l, j = l + 1 := ⟨j - 1, by omega⟩
      exact pk_m1 l
    rw [em]
    simp +decide (disch := omega) only [lit, lit_neg, i_add, i_mul, i_sub, i_div, i_and, i_or, i_shl1, Nat.one_mul, i_shr1, i_bit1, i_lt, i_eq, i_in, i_cl, i_0, gI_sI, bi_0n, bi_1n, nz_bi, nz_0n, nz_1n, vn_0n, vn_1n, vn_bi, and_true, true_and, not_false_eq_true, not_true_eq_false, false_implies, true_implies, forall_const, implies_true, ite_true, ite_false, Bool.not_eq_true, Bool.not_eq_false, and_false, false_and, if_true, if_false, if_pos, true_or, or_true, false_or, or_false, hj, show j - 1 < cap by omega, show j < cap by omega]
    refine nx _ ⟨by omega, hb.up rfl, fun k => ?_⟩
    rw [gI_sI]
    by_cases e : k = j
    · subst e
      rw [if_pos ⟨rfl, rfl⟩, if_pos (by omega), k1]
    · rw [if_neg (by omega), hk k]
      by_cases e2 : j < k ∧ k ≤ n
      · rw [if_pos e2, if_pos (by omega)]
      · rw [if_neg e2, if_neg (by omega)]
  · intro τ ⟨hjn, hb, hk⟩
    apply hL
    have g2 : gI τ o 2 = nI n := by rw [hb.1 o 2 (by omega)]; exact h.1
    have g3 : gI τ o 3 = nI N := by rw [hb.1 o 3 (by omega)]; exact h.2.1
    have hfin : wp_X0_findLeft o (sI (sI τ (o + 3) i (nI (cb mm vv))) o 2 (nI (n + 1))) Q := by
      have hb0 : CB o σ (sI (sI τ (o + 3) i (nI (cb mm vv))) o 2 (nI (n + 1))) := ((hb.mono (fun a k z => Or.inl z) (fun a z => z)).up (Or.inl rfl)).up (Or.inr ⟨rfl, Or.inl rfl⟩)
      have hc : CLr (sI (sI τ (o + 3) i (nI (cb mm vv))) o 2 (nI (n + 1))) o N (n + 1) (pbk m i mm) (pbk v i vv) := by
        refine ⟨by simp [gI_sI], by simp [gI_sI, g3], fun k hk2 => ?_⟩
        rw [gI_sI, if_neg (by omega), gI_sI]
        unfold pbk
        by_cases e : k = i
        · rw [if_pos ⟨rfl, e⟩, if_pos e, if_pos e]
        · rw [if_neg (by omega), if_neg e, if_neg e, hk k]
          by_cases e2 : i < k
          · rw [if_pos (by omega), if_pos e2, if_pos e2]; exact h.2.2 _ (by omega)
          · rw [if_neg (by omega), if_neg e2, if_neg e2]; exact h.2.2 _ (by omega)
      refine cl_findLeft ho' hc (fun k hk2 => ?_) (by omega) hN (fun υ hb2 hs => hq υ (hb0.tr hb2.b2) (hc.kept (S := fun _ _ => False) (T := CT o) hb2.b2 (fun _ _ _ z => z)) hs)
      unfold pbk
      split
      · exact ⟨hm, hv⟩
      · split
        · exact hw _ (by omega)
        · exact hw _ (by omega)
    rw [o1, o2, o5, o6]
    simp only [onB, cond_true]
    simp +decide (disch := omega) only [lit, lit_neg, i_add, i_mul, i_sub, i_div, i_and, i_or, i_shl1, Nat.one_mul, i_shr1, i_bit1, i_lt, i_eq, i_in, i_cl, i_0, gI_sI, bi_0n, bi_1n, nz_bi, nz_0n, nz_1n, vn_0n, vn_1n, vn_bi, and_true, true_and, not_false_eq_true, not_true_eq_false, false_implies, true_implies, forall_const, implies_true, ite_true, ite_false, Bool.not_eq_true, Bool.not_eq_false, and_false, false_and, if_true, if_false, if_pos, true_or, or_true, false_or, or_false, show ¬ i < i by omega, show i < cap by omega, g2]
    rw [if_neg (show ¬ (o = o + 3 ∧ 2 = i) by omega), i_add]
    exact hfin
