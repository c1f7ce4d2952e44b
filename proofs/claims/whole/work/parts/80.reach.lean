/-! the class: how many, what comes from states, what is reached -/
theorem cntB_s (n : Nat) (f : Nat → Bool) : cntB (n + 1) f = cntB n f + (f n).toNat := by
  show cntB n f + _ = _
  cases h : f n
  · rw [if_neg (by decide)]; rfl
  · rw [if_pos rfl]; rfl
theorem cntB_add (n : Nat) (f : Nat → Bool) : ∀ k, cntB (n + k) f = cntB n f + cntB k (fun j => f (n + j))
  | 0 => rfl
  | k + 1 => by
    rw [show n + (k + 1) = n + k + 1 from rfl, cntB_s, cntB_s, cntB_add n f k]
    omega
theorem cntB_pos (n : Nat) (f : Nat → Bool) : decide (0 < cntB n f) = anyN n f := by
  induction n with
  | zero => rfl
  | succ n ih =>
    rw [cntB_s]
    simp only [anyN]
    rw [← ih]
    cases f n
    · rw [Bool.or_false]; rfl
    · rw [Bool.or_true]; exact decide_eq_true (by show 0 < _ + 1; omega)
theorem cntB_cut {n N : Nat} {f : Nat → Bool} (h : n ≤ N) (h0 : ∀ s, n ≤ s → f s = false) : cntB N f = cntB n f := by
  obtain ⟨d, rfl⟩ : ∃ d, N = n + d := ⟨N - n, by omega⟩
  rw [cntB_add]
  have : cntB d (fun j => f (n + j)) = 0 := by
    clear h
    induction d with
    | zero => rfl
    | succ d ih =>
      rw [cntB_s, ih]
      show 0 + (f (n + d)).toNat = 0
      rw [h0 _ (by omega)]; rfl
  omega
theorem anyN_cut {n N : Nat} {f : Nat → Bool} (h : n ≤ N) (h0 : ∀ s, n ≤ s → f s = false) : anyN N f = anyN n f := by
  cases h1 : anyN n f
  · refine anyN_f.mpr (fun i hi => ?_)
    by_cases z : i < n
    · exact anyN_f.mp h1 i z
    · exact h0 i (by omega)
  · obtain ⟨i, hi, hi2⟩ := anyN_iff.mp h1
    exact anyN_iff.mpr ⟨i, by omega, hi2⟩
theorem lst_cut {n N : Nat} {f : Nat → Bool} (h : n ≤ N) (h0 : ∀ s, n ≤ s → f s = false) : lst N f = lst n f := by
  rcases lst_cases n f with ⟨z, h1⟩ | ⟨i, hi, z, h1, h2⟩
  · rw [z]
    refine lst_none (fun i _ => ?_)
    by_cases q : i < n
    · exact h1 i q
    · exact h0 i (by omega)
  · rw [z]
    exact lst_some (by omega) h1 h2
theorem ss_howMany {σ : Sg} {o : Nat} {S : Nat → Bool} {Q : Int32 → Prop} (ho : IsSS o) (hS : SS σ o S) (hq : Q (nI (cntB 256 S))) : wp_X7_howMany o σ Q := by
  obtain ⟨o1, o2, o3, o4⟩ := ho
  intro L4 h4
  refine up_loopS (L := fun w x => L4 x w) (I := fun w x => x = nI (cntB (64 * w) S)) 4 ?_ ?_ 0 _ (by decide) rfl
  · intro w x hw hI nx
    subst hI
    apply h4
    rw [o1, o2, o3, o4]
    simp only [onB, cond_true]
    simp +decide (disch := omega) only [lit, lit_neg, i_add, i_mul, i_sub, i_div, i_and, i_or, i_shl1, Nat.one_mul, i_shr1, i_bit1, i_lt, i_eq, i_in, i_cl, i_0, gI_sI, bi_0n, bi_1n, nz_bi, nz_0n, nz_1n, vn_0n, vn_1n, vn_bi, and_true, true_and, not_false_eq_true, not_true_eq_false, false_implies, true_implies, forall_const, implies_true, ite_true, ite_false, Bool.not_eq_true, Bool.not_eq_false, and_false, false_and, if_true, if_false, if_pos, true_or, or_true, false_or, or_false, hw]
    refine ss_bitCount (nx _ ?_)
    rw [i_add, Nat.mul_succ, cntB_add]
    congr 2
    refine cntB_congr (fun j hj => ?_)
    have := hS (64 * w + j) (by omega)
    rw [show (64 * w + j) / 64 = w by omega, show (64 * w + j) % 64 = j by omega] at this
    exact this
  · intro x hI
    subst hI
    apply h4
    simp +decide (disch := omega) only [lit, lit_neg, i_add, i_mul, i_sub, i_div, i_and, i_or, i_shl1, Nat.one_mul, i_shr1, i_bit1, i_lt, i_eq, i_in, i_cl, i_0, gI_sI, bi_0n, bi_1n, nz_bi, nz_0n, nz_1n, vn_0n, vn_1n, vn_bi, and_true, true_and, not_false_eq_true, not_true_eq_false, false_implies, true_implies, forall_const, implies_true, ite_true, ite_false, Bool.not_eq_true, Bool.not_eq_false, and_false, false_and, if_true, if_false, if_pos, true_or, or_true, false_or, or_false, show ¬ 4 < 4 by omega]
    exact hq
theorem xs_putAllFrom {M : Ms} {σ : Sg} {o p : Nat} {S T : Nat → Bool} {Q : Sg → Prop} (hW : WFm M) (hm : XMm M σ) (ho : IsSS o) (hp : IsSS p) (hS : SS σ o S) (hT : SS σ p T) (hX : XT M σ) (hop : o ≠ p) (hpg : p + 1 < 31 ∨ 1053 < p + 1) (hq : ∀ τ, ButL (fun a => a = p + 1) σ τ → SS τ p (fun t => T t || anyN (2 ^ M 0 1) (fun s => S s && ldsB M s t)) → Q τ) : wp_X8_putAllFrom o p σ Q := by
  have h256 := pow_le8 hW.2.1
  intro L2 h2
  refine up_loopS (I := fun i τ => ButL (fun a => a = p + 1) σ τ ∧ SS τ p (fun t => T t || anyN i (fun s => S s && ldsB M s t))) (2 ^ M 0 1) ?_ ?_ 0 σ (Nat.zero_le _) ⟨ButL.rf, SS_congr hT (fun t _ => by simp [anyN])⟩
  · intro i τ hi ⟨hb, hs⟩ nx
    apply h2
    refine xs_states hW (hm.keptL hb) ?_
    simp +decide (disch := omega) only [lit, lit_neg, i_add, i_mul, i_sub, i_div, i_and, i_or, i_shl1, Nat.one_mul, i_shr1, i_bit1, i_lt, i_eq, i_in, i_cl, i_0, gI_sI, bi_0n, bi_1n, nz_bi, nz_0n, nz_1n, vn_0n, vn_1n, vn_bi, and_true, true_and, not_false_eq_true, not_true_eq_false, false_implies, true_implies, forall_const, implies_true, ite_true, ite_false, Bool.not_eq_true, Bool.not_eq_false, and_false, false_and, if_true, if_false, if_pos, true_or, or_true, false_or, or_false, hi]
    rw [ho.1]
    simp only [onB, cond_true]
    refine ss_has ho (hS.kept hb (by omega)) (by omega) ?_
    simp +decide (disch := omega) only [lit, lit_neg, i_add, i_mul, i_sub, i_div, i_and, i_or, i_shl1, Nat.one_mul, i_shr1, i_bit1, i_lt, i_eq, i_in, i_cl, i_0, gI_sI, bi_0n, bi_1n, nz_bi, nz_0n, nz_1n, vn_0n, vn_1n, vn_bi, and_true, true_and, not_false_eq_true, not_true_eq_false, false_implies, true_implies, forall_const, implies_true, ite_true, ite_false, Bool.not_eq_true, Bool.not_eq_false, and_false, false_and, if_true, if_false, if_pos, true_or, or_true, false_or, or_false]
    refine ⟨fun z => nx τ ⟨hb, SS_congr hs (fun t _ => by simp only [anyN]; rw [z]; simp)⟩, fun z => xs_from (by omega) ?_⟩
    rw [hp.1]
    simp only [onB, cond_true]
    refine ss_putAll hp (ss_goes (by omega)) hs ((hX.2 i hi).kept hb (by omega)) (fun υ hb2 hs2 => nx υ ⟨hb.tr hb2, SS_congr hs2 (fun t _ => ?_)⟩)
    simp only [anyN]
    rw [z, Bool.true_and, Bool.or_assoc]
  · intro τ ⟨hb, hs⟩
    apply h2
    refine xs_states hW (hm.keptL hb) ?_
    simp +decide (disch := omega) only [lit, lit_neg, i_add, i_mul, i_sub, i_div, i_and, i_or, i_shl1, Nat.one_mul, i_shr1, i_bit1, i_lt, i_eq, i_in, i_cl, i_0, gI_sI, bi_0n, bi_1n, nz_bi, nz_0n, nz_1n, vn_0n, vn_1n, vn_bi, and_true, true_and, not_false_eq_true, not_true_eq_false, false_implies, true_implies, forall_const, implies_true, ite_true, ite_false, Bool.not_eq_true, Bool.not_eq_false, and_false, false_and, if_true, if_false, if_pos, true_or, or_true, false_or, or_false, Nat.lt_irrefl]
    exact hq τ hb hs
/-- reached -/
theorem ldsB_lt {M : Ms} {s t : Nat} (h : ldsB M s t = true) : t < 2 ^ M 0 1 := by
  obtain ⟨c, hc, hc2⟩ := anyN_iff.mp h
  simp only [Bool.and_eq_true, decide_eq_true_eq] at hc2
  rw [← hc2.2]
  exact nxtN_lt M s c
theorem rch_lt {M : Ms} (hW : WFm M) : ∀ d s, rch M d s = true → s < 2 ^ M 0 1
  | 0, s, h => by
    have : s = M 0 3 := of_decide_eq_true h
    rw [this]; exact hW.2.2.2.2.2.1
  | d + 1, s, h => by
    simp only [rch, Bool.or_eq_true] at h
    rcases h with h | h
    · exact rch_lt hW d s h
    · obtain ⟨t, _, ht⟩ := anyN_iff.mp h
      simp only [Bool.and_eq_true] at ht
      exact ldsB_lt ht.2
theorem rch_fix {M : Ms} (hW : WFm M) {d : Nat} (h : ∀ s, s < 2 ^ M 0 1 → rch M (d + 1) s = rch M d s) : ∀ k s, rch M (d + k) s = rch M d s
  | 0, s => rfl
  | k + 1, s => by
    have ih := rch_fix hW h k
    have e : rch M (d + k + 1) s = rch M (d + 1) s := by
      simp only [rch]
      rw [ih s]
      congr 1
      exact anyN_congr (fun t _ => by rw [ih t])
    rw [show d + (k + 1) = d + k + 1 from rfl, e]
    by_cases z : s < 2 ^ M 0 1
    · exact h s z
    · cases h1 : rch M d s
      · cases h2 : rch M (d + 1) s
        · rfl
        · exact absurd (rch_lt hW _ _ h2) z
      · exact absurd (rch_lt hW _ _ h1) z
theorem rch_stab {M : Ms} (hW : WFm M) : ∃ e, e < 2 ^ M 0 1 ∧ ∀ d, e ≤ d → ∀ s, rch M d s = rch M e s := by
  have hf := hW.2.2.2.2.2.1
  refine Classical.byContradiction fun hn => ?_
  have hs : ∀ e, e < 2 ^ M 0 1 → ¬ ∀ s, s < 2 ^ M 0 1 → rch M (e + 1) s = rch M e s := fun e he z => hn ⟨e, he, fun d hd s => by
    obtain ⟨k, rfl⟩ : ∃ k, d = e + k := ⟨d - e, by omega⟩
    exact rch_fix hW z k s⟩
  have grow : ∀ d, d ≤ 2 ^ M 0 1 → d + 1 ≤ cntB (2 ^ M 0 1) (rch M d) := by
    intro d
    induction d with
    | zero =>
      intro _
      have : anyN (2 ^ M 0 1) (rch M 0) = true := anyN_iff.mpr ⟨M 0 3, hf, decide_eq_true rfl⟩
      rw [← cntB_pos] at this
      exact of_decide_eq_true this
    | succ d ih =>
      intro hd
      have h1 := ih (by omega)
      have h2 := cntB_lt (n := 2 ^ M 0 1) (f := rch M d) (g := rch M (d + 1)) (fun p _ hp => rch_mono M (Nat.le_succ d) hp)
      refine Nat.lt_of_not_le fun h3 => ?_
      exact hs d (by omega) (fun s z => (h2.2 (by omega) s z).symm)
  have := grow _ (Nat.le_refl _)
  have := cntB_le (2 ^ M 0 1) (rch M (2 ^ M 0 1))
  omega
theorem rc_x {M : Ms} (hW : WFm M) (x s : Nat) : rc M x s = rch M x s := by
  obtain ⟨e, he, hs⟩ := rch_stab hW
  unfold rc
  by_cases z : x ≤ 2 ^ M 0 1
  · rw [Nat.min_eq_left z]
  · rw [Nat.min_eq_right (by omega), hs x (by omega), hs _ (by omega)]
def nwS (M : Ms) : Nat → Nat → Bool
  | 0, s => rch M 0 s
  | d + 1, s => rch M (d + 1) s && !rch M d s
theorem nwS_sub {M : Ms} {d s : Nat} (h : nwS M d s = true) : rch M d s = true := by
  cases d with
  | zero => exact h
  | succ d => simp only [nwS, Bool.and_eq_true] at h; exact h.1
theorem nwS_next (M : Ms) (d t : Nat) : (anyN (2 ^ M 0 1) (fun s => nwS M d s && ldsB M s t) && !rch M d t) = nwS M (d + 1) t := by
  show _ = (rch M (d + 1) t && !rch M d t)
  cases h0 : rch M d t
  · rw [Bool.not_false, Bool.and_true, Bool.and_true]
    simp only [rch]
    rw [h0, Bool.false_or]
    cases h1 : anyN (2 ^ M 0 1) (fun s => rch M d s && ldsB M s t)
    · refine anyN_f.mpr (fun s hs => ?_)
      have := anyN_f.mp h1 s hs
      cases h2 : nwS M d s
      · rfl
      · rw [nwS_sub h2] at this; exact this
    · obtain ⟨s, hs, h2⟩ := anyN_iff.mp h1
      simp only [Bool.and_eq_true] at h2
      refine anyN_iff.mpr ⟨s, hs, ?_⟩
      rw [h2.2, Bool.and_true]
      cases d with
      | zero => exact h2.1
      | succ d =>
        show (rch M (d + 1) s && !rch M d s) = true
        rw [h2.1, Bool.true_and]
        cases h3 : rch M d s
        · rfl
        · have : rch M (d + 1) t = true := by
            show (rch M d t || _) = true
            rw [Bool.or_eq_true]
            exact Or.inr (anyN_iff.mpr ⟨s, hs, by rw [h3, h2.2]; rfl⟩)
          rw [h0] at this
          cases this
  · rw [Bool.not_true, Bool.and_false, Bool.and_false]
/-- what reaching writes -/
def rhT (a : Nat) : Prop := a = 21 ∨ a = 23 ∨ a = 25
theorem xs_begin {M : Ms} {σ : Sg} {Q : Sg → Prop} (hW : WFm M) (hm : XMm M σ) (hq : ∀ τ, ButL rhT σ τ → SS τ 20 (rch M 0) → SS τ 22 (nwS M 0) → Q τ) : wp_X8_beginReach σ Q := by
  have h256 := pow_le8 hW.2.1
  have hf := hW.2.2.2.2.2.1
  unfold wp_X8_beginReach
  rw [hm.2.2.2.2.1]
  refine ss_only ss_20 (by omega) (fun τ hb hs => ?_)
  rw [hb.1, hm.2.2.2.2.1]
  refine ss_only ss_22 (by omega) (fun υ hb2 hs2 => hq υ ((hb.mono (fun a z => Or.inl z)).tr (hb2.mono (fun a z => Or.inr (Or.inl z)))) (SS_congr (hs.kept hb2 (by omega)) (fun _ _ => rfl)) (SS_congr hs2 (fun _ _ => rfl)))
theorem xs_reachOn {M : Ms} {σ : Sg} {d : Nat} {Q : Int32 → Sg → Prop} (hW : WFm M) (hm : XMm M σ) (hX : XT M σ) (h20 : SS σ 20 (rch M d)) (h22 : SS σ 22 (nwS M d)) (hq : ∀ τ, ButL rhT σ τ → SS τ 20 (rch M (d + 1)) → SS τ 22 (nwS M (d + 1)) → Q (bi (anyN 256 (nwS M (d + 1)))) τ) : wp_X8_reachOn σ Q := by
  unfold wp_X8_reachOn
  refine ss_empty ss_24 (fun s1 b1 e1 => ?_)
  have X1 : XT M s1 := ⟨hX.1.kept b1 (by omega), fun s hs => (hX.2 s hs).kept b1 (by omega)⟩
  refine xs_putAllFrom hW (hm.keptL b1) ss_22 ss_24 (h22.kept b1 (by omega)) e1 X1 (by omega) (by omega) (fun s2 b2 e2 => ?_)
  have r2 := ((h20.kept b1 (by omega)).kept b2 (by omega))
  refine ss_dropAll ss_24 ss_20 e2 r2 (fun s3 b3 e3 => ?_)
  have e3' : SS s3 24 (nwS M (d + 1)) := SS_congr e3 (fun t _ => by rw [Bool.false_or]; exact nwS_next M d t)
  have r3 := r2.kept b3 (by omega)
  refine ss_like ss_22 ss_24 e3' (fun s4 b4 e4 => ?_)
  refine ss_putAll ss_20 ss_24 (r3.kept b4 (by omega)) (e3'.kept b4 (by omega)) (fun s5 b5 e5 => ?_)
  have e22 := e4.kept b5 (by omega)
  have e20 : SS s5 20 (rch M (d + 1)) := SS_congr e5 (fun t _ => by
    show (rch M d t || (rch M (d + 1) t && !rch M d t)) = _
    cases h0 : rch M d t
    · simp
    · rw [rch_mono M (Nat.le_succ d) h0]; rfl)
  have hb : ButL rhT σ s5 := ((((b1.mono (fun a z => Or.inr (Or.inr z))).tr (b2.mono (fun a z => Or.inr (Or.inr z)))).tr (b3.mono (fun a z => Or.inr (Or.inr z)))).tr (b4.mono (fun a z => Or.inr (Or.inl z)))).tr (b5.mono (fun a z => Or.inl z))
  refine ss_howMany ss_22 e22 ?_
  have hc := cntB_le 256 (nwS M (d + 1))
  have := hq s5 hb e20 e22
  rw [← cntB_pos] at this
  rw [i_0, i_lt (by decide) (by omega)]
  refine ⟨fun z => ⟨nz_1, ?_⟩, fun z => ⟨nz_0, ?_⟩⟩
  · rw [decide_eq_true z] at this; exact this
  · rw [decide_eq_false z] at this; exact this
