/-! the reference: distances -/
theorem lst_le (n : Nat) (f : Nat → Bool) : lst n f ≤ n := by
  rcases lst_cases n f with ⟨h, _⟩ | ⟨i, h1, h2, _⟩ <;> omega
def comb (a b : Nat) : Nat := if a = 0 then b else if b = 0 then a else min a b
theorem lst_or (f g : Nat → Bool) : ∀ n, lst n (fun d => f d || g d) = comb (lst n f) (lst n g)
  | 0 => rfl
  | n + 1 => by
    have ih := lst_or f g n
    have h1 := lst_le n f
    have h2 := lst_le n g
    have h3 := lst_le n (fun d => f d || g d)
    unfold comb at ih ⊢
    simp only [lst]
    rcases Bool.eq_false_or_eq_true (f n) with hf | hf <;> rcases Bool.eq_false_or_eq_true (g n) with hg | hg <;> simp only [hf, hg, Bool.or_true, Bool.or_false, if_true, Bool.false_eq_true, if_false] <;> (repeat' split at ih) <;> (repeat' split) <;> omega
theorem rch_mono (M : Ms) {d e s : Nat} (h : d ≤ e) (hr : rch M d s = true) : rch M e s = true := by
  induction e with
  | zero => rw [Nat.le_zero.mp h] at hr; exact hr
  | succ e ih =>
    by_cases q : d = e + 1
    · rw [← q]; exact hr
    · simp only [rch, Bool.or_eq_true]
      exact Or.inl (ih (by omega))
def far (M : Ms) (d s : Nat) : Nat := lst (d + 1) (fun e => rch M e s)
theorem far_le (M : Ms) (d s : Nat) : far M d s ≤ d + 1 := lst_le _ _
theorem far_0 {M : Ms} {d s : Nat} (h : far M d s = 0) : ∀ e, e ≤ d → rch M e s = false := by
  intro e he
  rcases lst_cases (d + 1) (fun e => rch M e s) with ⟨_, h2⟩ | ⟨i, _, h2, _⟩
  · exact h2 e (by omega)
  · unfold far at h; omega
theorem far_s {M : Ms} {d s v : Nat} (h : far M d s = v + 1) : rch M v s = true ∧ v ≤ d ∧ ∀ e, e < v → rch M e s = false := by
  rcases lst_cases (d + 1) (fun e => rch M e s) with ⟨h1, h2⟩ | ⟨i, h1, h2, h3, h4⟩
  · unfold far at h; omega
  · unfold far at h
    have : i = v := by omega
    subst this
    exact ⟨h3, by omega, h4⟩
def met (M : Ms) (d i c s : Nat) : Bool := anyN i (fun t => decide (far M d t = d + 1) && ldsB M t s) || (decide (far M d i = d + 1) && anyN c (fun c => rightB M i c && decide (nxtN M i c = s)))
def fv (M : Ms) (d i c s : Nat) : Nat := if far M d s = 0 then (if met M d i c s = true then d + 2 else 0) else far M d s
theorem fv_00 (M : Ms) (d s : Nat) : fv M d 0 0 s = far M d s := by
  unfold fv met
  simp only [anyN, Bool.false_or, Bool.and_false]
  split
  · rename_i h; rw [h]; rfl
  · rfl
theorem fv_end (M : Ms) (d s : Nat) : fv M d (2 ^ M 0 1) 0 s = far M (d + 1) s := by
  unfold fv
  have e : far M (d + 1) s = if far M d s = 0 then (if rch M (d + 1) s then d + 1 + 1 else 0) else far M d s := rfl
  rw [e]
  by_cases h : far M d s = 0
  · rw [if_pos h, if_pos h]
    have h0 := far_0 h
    have : met M d (2 ^ M 0 1) 0 s = rch M (d + 1) s := by
      unfold met
      simp only [rch, anyN, Bool.and_false, Bool.or_false]
      rw [h0 d (Nat.le_refl _), Bool.false_or]
      refine anyN_congr (fun t ht => ?_)
      cases hl : ldsB M t s
      · rw [Bool.and_false, Bool.and_false]
      · rw [Bool.and_true, Bool.and_true]
        cases hr : rch M d t
        · refine decide_eq_false (fun q => ?_)
          rw [(far_s q).1] at hr
          cases hr
        · refine decide_eq_true ?_
          cases hv : far M d t with
          | zero => rw [far_0 hv d (Nat.le_refl _)] at hr; cases hr
          | succ v =>
            have ⟨f1, f2, _⟩ := far_s hv
            by_cases q : v = d
            · rw [q]
            · exfalso
              have : rch M (v + 1) s = true := by
                simp only [rch, Bool.or_eq_true]
                exact Or.inr (anyN_iff.mpr ⟨t, ht, by rw [f1, hl]; rfl⟩)
              rw [h0 (v + 1) (by omega)] at this
              cases this
    rw [this]
  · rw [if_neg h, if_neg h]
theorem fv_next {M : Ms} {d i s : Nat} : fv M d i (2 ^ M 0 2) s = fv M d (i + 1) 0 s := by
  unfold fv
  have : met M d i (2 ^ M 0 2) s = met M d (i + 1) 0 s := by
    unfold met
    simp only [anyN, Bool.and_false, Bool.or_false]
    rfl
  rw [this]
theorem fv_skip {M : Ms} {d i c s : Nat} (h : far M d i ≠ d + 1) : fv M d i c s = fv M d (i + 1) 0 s := by
  unfold fv
  have : met M d i c s = met M d (i + 1) 0 s := by
    unfold met
    simp only [anyN, Bool.and_false, Bool.or_false, decide_eq_false h, Bool.false_and]
  rw [this]
theorem fv_le (M : Ms) (d i c s : Nat) : fv M d i c s ≤ d + 2 := by
  have := far_le M d s
  unfold fv
  split
  · split <;> omega
  · omega
theorem fv_ex {M : Ms} {d i c s : Nat} : (fv M d i c s = d + 1) = (far M d s = d + 1) := by
  have := far_le M d s
  unfold fv
  refine propext ⟨fun h => ?_, fun h => ?_⟩
  · split at h
    · split at h <;> omega
    · exact h
  · rw [if_neg (by omega)]; exact h
theorem fv_no {M : Ms} {d i c s : Nat} (h : rightB M i c = false ∨ nxtN M i c ≠ s) : fv M d i (c + 1) s = fv M d i c s := by
  unfold fv
  have : met M d i (c + 1) s = met M d i c s := by
    unfold met
    simp only [anyN]
    have : (rightB M i c && decide (nxtN M i c = s)) = false := by
      rcases h with h | h
      · rw [h, Bool.false_and]
      · rw [decide_eq_false h, Bool.and_false]
    rw [this, Bool.or_false]
  rw [this]
theorem fv_yes {M : Ms} {d i c : Nat} (hx : far M d i = d + 1) (h : rightB M i c = true) : fv M d i (c + 1) (nxtN M i c) = if fv M d i c (nxtN M i c) = 0 then d + 2 else fv M d i c (nxtN M i c) := by
  have hm : met M d i (c + 1) (nxtN M i c) = true := by
    unfold met
    simp only [anyN, decide_eq_true hx, h, Bool.true_and, decide_true, Bool.or_true]
  unfold fv
  by_cases q : far M d (nxtN M i c) = 0
  · rw [if_pos q, if_pos q, if_pos hm]
    by_cases z : met M d i c (nxtN M i c) = true
    · rw [if_pos z, if_neg (by omega)]
    · rw [if_neg z, if_pos rfl]
  · rw [if_neg q, if_neg q, if_neg q]
def farOk (M : Ms) (τ : Sg) (f : Nat → Nat) : Prop := ∀ s, s < 2 ^ M 0 1 → gI τ 20 s = e1 (f s)
theorem sp_findFar {M : Ms} {σ : Sg} {Q : Sg → Prop} (hW : WFm M) (hR : RM M σ) (hq : ∀ τ, RM M τ → TB M τ → farOk M τ (far M (2 ^ M 0 1)) → Q τ) : wp_X10_findFar (nI (M 0 3)) σ Q := by
  have h256 := pow_le8 hW.2.1
  have h16 := pow_le4 hW.2.2.1
  have hfi := hW.2.2.2.2.2.1
  intro L6 L36 L46 L57 h6 h36 h46 h57
  refine sp_tab hW hR (fun υ hυ hT h18 => ?_)
  have rm : ∀ τ, But (fun a k => a = 20) υ τ → RM M τ ∧ TB M τ := fun τ hb => by
    have t : TB M τ := fun s c hs hc => by
      have := hT s c hs hc
      unfold ent at this ⊢
      rw [hb 9 _ (by omega), hb 10 _ (by omega), hb 11 _ (by omega)]
      exact this
    exact ⟨RM_new hυ (fun _ _ _ => rfl) (hb.mono (fun a k z => by unfold lsS; omega)) (hυ.1.2.2.kept hb (fun a k z => by unfold offM; omega)), t⟩
  have key : ∀ τ, But (fun a k => a = 20) υ τ → farOk M τ (far M 0) → L36 (nI 0) τ := by
    intro τ hb hf
    refine up_loopS (I := fun d τ => But (fun a k => a = 20) υ τ ∧ farOk M τ (far M d)) (2 ^ M 0 1) ?_ ?_ 0 τ (Nat.zero_le _) ⟨hb, hf⟩
    · intro d τ hd ⟨hb, hf⟩ nx
      apply h36
      refine sp_states hW (rm τ hb).1.1.1 ?_
      simp +decide (disch := omega) only [lit, lit_neg, i_add, i_mul, i_sub, i_div, i_and, i_or, i_shl1, Nat.one_mul, i_shr1, i_bit1, i_lt, i_eq, i_in, i_cl, i_0, gI_sI, bi_0n, bi_1n, nz_bi, nz_0n, nz_1n, vn_0n, vn_1n, vn_bi, and_true, true_and, not_false_eq_true, not_true_eq_false, false_implies, true_implies, forall_const, implies_true, ite_true, ite_false, Bool.not_eq_true, Bool.not_eq_false, and_false, false_and, if_true, if_false, if_pos, true_or, or_true, false_or, or_false, hd]
      refine up_loopS (L := fun i τ => L46 (nI d) i τ) (I := fun i τ => But (fun a k => a = 20) υ τ ∧ farOk M τ (fv M d i 0)) (2 ^ M 0 1) ?_ ?_ 0 τ (Nat.zero_le _) ⟨hb, fun s hs => by rw [fv_00]; exact hf s hs⟩
      · intro i τ hi ⟨hb, hf⟩ nx2
        apply h46
        refine sp_states hW (rm τ hb).1.1.1 ?_
        simp +decide (disch := omega) only [lit, lit_neg, i_add, i_mul, i_sub, i_div, i_and, i_or, i_shl1, Nat.one_mul, i_shr1, i_bit1, i_lt, i_eq, i_in, i_cl, i_0, gI_sI, bi_0n, bi_1n, nz_bi, nz_0n, nz_1n, vn_0n, vn_1n, vn_bi, and_true, true_and, not_false_eq_true, not_true_eq_false, false_implies, true_implies, forall_const, implies_true, ite_true, ite_false, Bool.not_eq_true, Bool.not_eq_false, and_false, false_and, if_true, if_false, if_pos, true_or, or_true, false_or, or_false, hi]
        refine up_loopS (L := fun c τ => L57 (nI d) (nI i) c τ) (I := fun c τ => But (fun a k => a = 20) υ τ ∧ farOk M τ (fv M d i c)) (2 ^ M 0 2) ?_ ?_ 0 τ (Nat.zero_le _) ⟨hb, hf⟩
        · intro c τ hc ⟨hb, hf⟩ nx3
          apply h57
          have hrm := rm τ hb
          refine sp_ways hW hrm.1.1.1 ?_
          have hle := fv_le M d i c i
          have hto := toN_lt M i c
          simp +decide (disch := omega) only [lit, lit_neg, i_add, i_mul, i_sub, i_div, i_and, i_or, i_shl1, Nat.one_mul, i_shr1, i_bit1, i_lt, i_eq, i_in, i_cl, i_0, gI_sI, bi_0n, bi_1n, nz_bi, nz_0n, nz_1n, vn_0n, vn_1n, vn_bi, and_true, true_and, not_false_eq_true, not_true_eq_false, false_implies, true_implies, forall_const, implies_true, ite_true, ite_false, Bool.not_eq_true, Bool.not_eq_false, and_false, false_and, if_true, if_false, if_pos, true_or, or_true, false_or, or_false, hc, show i < 256 by omega, hf i hi, e1_eq, fv_ex, show 16 * i + c < 4096 by omega, (hrm.2 i c hi hc).1, e1_lt0]
          refine ⟨fun hx => ⟨fun q => ?_, fun q => ?_⟩, fun hx => ?_⟩
          · refine nx3 τ ⟨hb, fun s hs => ?_⟩
            have hr : rightB M i c = false := by
              cases hr : rightB M i c
              · rfl
              · simp [toN, hr] at q
            rw [fv_no (Or.inl hr)]; exact hf s hs
          · have hr : rightB M i c = true := by
              cases hr : rightB M i c
              · simp [toN, hr] at q
              · rfl
            have ht : toN M i c = nxtN M i c + 1 := by unfold toN; rw [if_pos hr]
            have hn := nxtN_lt M i c
            have hle2 := fv_le M d i c (nxtN M i c)
            rw [ht, e1_s]
            simp +decide (disch := omega) only [lit, lit_neg, i_add, i_mul, i_sub, i_div, i_and, i_or, i_shl1, Nat.one_mul, i_shr1, i_bit1, i_lt, i_eq, i_in, i_cl, i_0, gI_sI, bi_0n, bi_1n, nz_bi, nz_0n, nz_1n, vn_0n, vn_1n, vn_bi, and_true, true_and, not_false_eq_true, not_true_eq_false, false_implies, true_implies, forall_const, implies_true, ite_true, ite_false, Bool.not_eq_true, Bool.not_eq_false, and_false, false_and, if_true, if_false, if_pos, true_or, or_true, false_or, or_false, show nxtN M i c < 256 by omega, hf _ hn, e1_lt0]
            have hy := fv_yes hx hr
            refine ⟨fun z => nx3 _ ⟨hb.up rfl, fun s hs => ?_⟩, fun z => nx3 _ ⟨hb, fun s hs => ?_⟩⟩
            · rw [if_pos z] at hy
              rw [gI_sI]
              by_cases e : s = nxtN M i c
              · rw [if_pos ⟨rfl, e⟩, e, hy, ← e1_s]
              · rw [if_neg (by omega), fv_no (Or.inr (fun w => e w.symm))]; exact hf s hs
            · rw [if_neg z] at hy
              by_cases e : s = nxtN M i c
              · rw [e, hy]; exact hf _ hn
              · rw [fv_no (Or.inr (fun w => e w.symm))]; exact hf s hs
          · exact nx2 τ ⟨hb, fun s hs => by rw [← fv_skip (c := c) hx]; exact hf s hs⟩
        · intro τ ⟨hb, hf⟩
          apply h57
          refine sp_ways hW (rm τ hb).1.1.1 ?_
          simp +decide (disch := omega) only [lit, lit_neg, i_add, i_mul, i_sub, i_div, i_and, i_or, i_shl1, Nat.one_mul, i_shr1, i_bit1, i_lt, i_eq, i_in, i_cl, i_0, gI_sI, bi_0n, bi_1n, nz_bi, nz_0n, nz_1n, vn_0n, vn_1n, vn_bi, and_true, true_and, not_false_eq_true, not_true_eq_false, false_implies, true_implies, forall_const, implies_true, ite_true, ite_false, Bool.not_eq_true, Bool.not_eq_false, and_false, false_and, if_true, if_false, if_pos, true_or, or_true, false_or, or_false, Nat.lt_irrefl]
          exact nx2 τ ⟨hb, fun s hs => by rw [← fv_next]; exact hf s hs⟩
      · intro τ ⟨hb, hf⟩
        apply h46
        refine sp_states hW (rm τ hb).1.1.1 ?_
        simp +decide (disch := omega) only [lit, lit_neg, i_add, i_mul, i_sub, i_div, i_and, i_or, i_shl1, Nat.one_mul, i_shr1, i_bit1, i_lt, i_eq, i_in, i_cl, i_0, gI_sI, bi_0n, bi_1n, nz_bi, nz_0n, nz_1n, vn_0n, vn_1n, vn_bi, and_true, true_and, not_false_eq_true, not_true_eq_false, false_implies, true_implies, forall_const, implies_true, ite_true, ite_false, Bool.not_eq_true, Bool.not_eq_false, and_false, false_and, if_true, if_false, if_pos, true_or, or_true, false_or, or_false, Nat.lt_irrefl]
        exact nx τ ⟨hb, fun s hs => by rw [← fv_end]; exact hf s hs⟩
    · intro τ ⟨hb, hf⟩
      apply h36
      refine sp_states hW (rm τ hb).1.1.1 ?_
      simp +decide (disch := omega) only [lit, lit_neg, i_add, i_mul, i_sub, i_div, i_and, i_or, i_shl1, Nat.one_mul, i_shr1, i_bit1, i_lt, i_eq, i_in, i_cl, i_0, gI_sI, bi_0n, bi_1n, nz_bi, nz_0n, nz_1n, vn_0n, vn_1n, vn_bi, and_true, true_and, not_false_eq_true, not_true_eq_false, false_implies, true_implies, forall_const, implies_true, ite_true, ite_false, Bool.not_eq_true, Bool.not_eq_false, and_false, false_and, if_true, if_false, if_pos, true_or, or_true, false_or, or_false, Nat.lt_irrefl]
      exact hq τ (rm τ hb).1 (rm τ hb).2 hf
  refine up_loopS (I := fun i τ => But (fun a k => a = 20) υ τ ∧ ∀ s, s < i → gI τ 20 s = e1 0) (2 ^ M 0 1) ?_ ?_ 0 υ (Nat.zero_le _) ⟨But.rf, fun s hs => absurd hs (by omega)⟩
  · intro i τ hi ⟨hb, hf⟩ nx
    apply h6
    refine sp_states hW (rm τ hb).1.1.1 ?_
    simp +decide (disch := omega) only [lit, lit_neg, i_add, i_mul, i_sub, i_div, i_and, i_or, i_shl1, Nat.one_mul, i_shr1, i_bit1, i_lt, i_eq, i_in, i_cl, i_0, gI_sI, bi_0n, bi_1n, nz_bi, nz_0n, nz_1n, vn_0n, vn_1n, vn_bi, and_true, true_and, not_false_eq_true, not_true_eq_false, false_implies, true_implies, forall_const, implies_true, ite_true, ite_false, Bool.not_eq_true, Bool.not_eq_false, and_false, false_and, if_true, if_false, if_pos, true_or, or_true, false_or, or_false, hi, show i < 256 by omega]
    refine nx _ ⟨hb.up rfl, fun s hs => ?_⟩
    rw [gI_sI]
    by_cases e : s = i
    · rw [if_pos ⟨rfl, e⟩]
    · rw [if_neg (by omega)]; exact hf s (by omega)
  · intro τ ⟨hb, hf⟩
    apply h6
    refine sp_states hW (rm τ hb).1.1.1 ?_
    simp +decide (disch := omega) only [lit, lit_neg, i_add, i_mul, i_sub, i_div, i_and, i_or, i_shl1, Nat.one_mul, i_shr1, i_bit1, i_lt, i_eq, i_in, i_cl, i_0, gI_sI, bi_0n, bi_1n, nz_bi, nz_0n, nz_1n, vn_0n, vn_1n, vn_bi, and_true, true_and, not_false_eq_true, not_true_eq_false, false_implies, true_implies, forall_const, implies_true, ite_true, ite_false, Bool.not_eq_true, Bool.not_eq_false, and_false, false_and, if_true, if_false, if_pos, true_or, or_true, false_or, or_false, Nat.lt_irrefl, show M 0 3 < 256 by omega]
    refine key _ (hb.up rfl) (fun s hs => ?_)
    rw [gI_sI]
    by_cases e : s = M 0 3
    · rw [if_pos ⟨rfl, e⟩]
      have : far M 0 s = 1 := by simp [far, lst, rch, e]
      rw [this]; rfl
    · rw [if_neg (by omega)]
      have : far M 0 s = 0 := by simp [far, lst, rch, e]
      rw [this]; exact hf s hs
