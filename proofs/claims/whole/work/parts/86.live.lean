/-! the class: live -/
theorem cls_le {M : Ms} {m s t : Nat} (h : cls M m s t = true) : ∀ k, cls M (m + k) s t = true
  | 0 => h
  | k + 1 => by
    show (cls M (m + k) s t || _) = true
    rw [cls_le h k]; rfl
theorem cls_lt {M : Ms} : ∀ m s t, cls M m s t = true → t < 2 ^ M 0 1
  | 0, s, t, h => ldsB_lt h
  | m + 1, s, t, h => by
    simp only [cls, Bool.or_eq_true, Bool.and_eq_true] at h
    rcases h with h | ⟨_, h⟩
    · exact cls_lt m s t h
    · exact cls_lt m m t h
theorem cls_tr {M : Ms} : ∀ m x s t, x < m → cls M m s x = true → cls M m x t = true → cls M m s t = true
  | 0, x, s, t, hx, _, _ => absurd hx (by omega)
  | m + 1, x, s, t, hx, h1, h2 => by
    have ih := cls_tr (M := M) m
    by_cases e : x = m
    · subst e
      rw [cls_col] at h1
      rw [cls_row] at h2
      show (cls M x s t || (cls M x s x && cls M x x t)) = true
      rw [h1, h2, Bool.true_and, Bool.or_true]
    · have hx : x < m := by omega
      simp only [cls, Bool.or_eq_true, Bool.and_eq_true] at h1 h2 ⊢
      rcases h1 with h1 | ⟨h1, h3⟩
      · rcases h2 with h2 | ⟨h2, h4⟩
        · exact Or.inl (ih x s t hx h1 h2)
        · exact Or.inr ⟨ih x s m hx h1 h2, h4⟩
      · rcases h2 with h2 | ⟨h2, h4⟩
        · exact Or.inr ⟨h1, ih x m t hx h3 h2⟩
        · exact Or.inr ⟨h1, h4⟩
theorem trc_tr {M : Ms} {s x t : Nat} (h1 : trc M s x = true) (h2 : trc M x t = true) : trc M s t = true := cls_tr _ x s t (cls_lt _ _ _ h1) h1 h2
theorem trc_1 {M : Ms} {s t : Nat} (h : ldsB M s t = true) : trc M s t = true := by
  have := cls_le (M := M) (m := 0) (s := s) (t := t) h (2 ^ M 0 1)
  rw [Nat.zero_add] at this
  exact this
theorem cls_rch {M : Ms} (hW : WFm M) : ∀ m u t, cls M m u t = true → ∀ d, rch M d u = true → ∃ e, rch M e t = true
  | 0, u, t, h, d, hr => ⟨d + 1, by
    show (rch M d t || _) = true
    rw [Bool.or_eq_true]
    exact Or.inr (anyN_iff.mpr ⟨u, rch_lt hW d u hr, by rw [hr]; exact h⟩)⟩
  | m + 1, u, t, h, d, hr => by
    simp only [cls, Bool.or_eq_true, Bool.and_eq_true] at h
    rcases h with h | ⟨h1, h2⟩
    · exact cls_rch hW m u t h d hr
    · obtain ⟨e, he⟩ := cls_rch hW m u m h1 d hr
      exact cls_rch hW m m t h2 e he
theorem rch_trc {M : Ms} (hW : WFm M) : ∀ d s, rch M d s = true → s = M 0 3 ∨ trc M (M 0 3) s = true
  | 0, s, h => Or.inl (of_decide_eq_true h)
  | d + 1, s, h => by
    simp only [rch, Bool.or_eq_true] at h
    rcases h with h | h
    · exact rch_trc hW d s h
    · obtain ⟨t, _, ht⟩ := anyN_iff.mp h
      simp only [Bool.and_eq_true] at ht
      rcases rch_trc hW d t ht.1 with z | z
      · rw [z] at ht; exact Or.inr (trc_1 ht.2)
      · exact Or.inr (trc_tr z (trc_1 ht.2))
theorem comes_is {M : Ms} (hW : WFm M) (s : Nat) : rch M 256 s = (decide (s = M 0 3) || trc M (M 0 3) s) := by
  have h256 := pow_le8 hW.2.1
  obtain ⟨e0, he0, hst⟩ := rch_stab hW
  cases h : rch M 256 s
  · symm
    rw [Bool.or_eq_false_iff]
    constructor
    · refine decide_eq_false (fun z => ?_)
      have : rch M 0 s = true := decide_eq_true z
      rw [rch_mono M (Nat.zero_le _) this] at h; cases h
    · cases h1 : trc M (M 0 3) s
      · rfl
      · obtain ⟨e, he⟩ := cls_rch hW _ _ _ h1 0 (decide_eq_true rfl)
        have : rch M 256 s = true := by
          by_cases q : e ≤ 256
          · exact rch_mono M q he
          · rw [hst e (by omega)] at he
            rw [hst 256 (by omega)]; exact he
        rw [h] at this; cases this
  · symm
    rw [Bool.or_eq_true]
    rcases rch_trc hW _ _ h with z | z
    · exact Or.inl (decide_eq_true z)
    · exact Or.inr z
def circ (M : Ms) (s u : Nat) : Bool := trc M s u && trc M u s
theorem circ_lt {M : Ms} {s u : Nat} (h : circ M s u = true) : u < 2 ^ M 0 1 := by
  simp only [circ, Bool.and_eq_true] at h
  exact cls_lt _ _ _ h.1
theorem circ_eq {M : Ms} {s t : Nat} (h : circ M s t = true) : circ M t = circ M s := by
  simp only [circ, Bool.and_eq_true] at h
  funext u
  unfold circ
  have a : trc M t u = trc M s u := by
    cases h1 : trc M s u
    · cases h2 : trc M t u
      · rfl
      · rw [trc_tr h.1 h2] at h1; cases h1
    · exact trc_tr h.2 h1
  have b : trc M u t = trc M u s := by
    cases h1 : trc M u s
    · cases h2 : trc M u t
      · rfl
      · rw [trc_tr h2 h.2] at h1; cases h1
    · exact trc_tr h1 h.1
  rw [a, b]
def inC1 (M : Ms) (C : Nat → Bool) (g u : Nat) : Bool := C u && anyN (2 ^ M 0 2) (fun c => (rightB M u c && sgv (val M u c) g) && C (nxtN M u c))
def cfair (M : Ms) (C : Nat → Bool) : Bool := allN (M 0 6) (fun f => anyN (2 ^ M 0 1) (inC1 M C (M 6 f)))
theorem fair_is {M : Ms} {s : Nat} (hs : trc M s s = true) : allN (M 0 6) (fun f => fairHere M s f) = cfair M (circ M s) := by
  refine allN_congr (fun f hf => anyN_congr (fun u hu => ?_))
  have hin : inCirc M s u = circ M s u := by
    unfold inCirc
    by_cases e : u = s
    · rw [decide_eq_true e, Bool.true_or, e]; unfold circ; rw [hs]; rfl
    · rw [decide_eq_false e, Bool.false_or]; rfl
  unfold inC1
  rw [hin]
  cases hc : circ M s u
  · rfl
  · rw [Bool.true_and, Bool.true_and]
    simp only [circ, Bool.and_eq_true] at hc
    refine anyN_congr (fun c hc2 => ?_)
    unfold fairBy
    cases hr : rightB M u c
    · rfl
    · have hl : ldsB M u (nxtN M u c) = true := anyN_iff.mpr ⟨c, hc2, by rw [hr, decide_eq_true rfl]; rfl⟩
      have h1 : trc M s (nxtN M u c) = true := trc_tr hc.1 (trc_1 hl)
      have h2 : circ M s (nxtN M u c) = trc M (nxtN M u c) s := by unfold circ; rw [h1, Bool.true_and]
      have h3 : (decide (nxtN M u c = s) || trc M (nxtN M u c) s) = trc M (nxtN M u c) s := by
        by_cases e : nxtN M u c = s
        · rw [e, hs, Bool.or_true]
        · rw [decide_eq_false e, Bool.false_or]
      rw [h2, h3, Bool.true_and, Bool.true_and, Bool.and_comm]
def ldT (a : Nat) : Prop := 33 ≤ a ∧ a ≤ 1053 ∧ a % 4 = 1
theorem xs_closeLeads {M : Ms} {σ : Sg} {Q : Sg → Prop} (hW : WFm M) (hm : XMm M σ) (hX : XT M σ) (hq : ∀ τ, ButL ldT σ τ → (∀ s, s < 2 ^ M 0 1 → SS τ (32 + 4 * s) (trc M s)) → Q τ) : wp_X8_closeLeads σ Q := by
  have h256 := pow_le8 hW.2.1
  intro L10 L36 L43 h10 h36 h43
  refine xs_states hW hm ?_
  refine up_loopS (L := fun i τ => L10 (nI (2 ^ M 0 1)) i τ) (I := fun i τ => ButL ldT σ τ ∧ ∀ s, s < i → SS τ (32 + 4 * s) (cls M 0 s)) (2 ^ M 0 1) ?_ ?_ 0 σ (Nat.zero_le _) ⟨ButL.rf, fun s hs => absurd hs (by omega)⟩
  · intro i τ hi ⟨hb, hs⟩ nx
    apply h10
    simp +decide (disch := omega) only [lit, lit_neg, i_add, i_mul, i_sub, i_div, i_and, i_or, i_shl1, Nat.one_mul, i_shr1, i_bit1, i_lt, i_eq, i_in, i_cl, i_0, gI_sI, bi_0n, bi_1n, nz_bi, nz_0n, nz_1n, vn_0n, vn_1n, vn_bi, and_true, true_and, not_false_eq_true, not_true_eq_false, false_implies, true_implies, forall_const, implies_true, ite_true, ite_false, Bool.not_eq_true, Bool.not_eq_false, and_false, false_and, if_true, if_false, if_pos, true_or, or_true, false_or, or_false, hi]
    refine xs_leadsFrom (by omega) (xs_from (by omega) ?_)
    rw [(ss_leads (show i < 256 by omega)).1]
    simp only [onB, cond_true]
    refine ss_like (ss_leads (by omega)) (ss_goes (by omega)) ((hX.2 i hi).kept hb (by unfold ldT; omega)) (fun υ hb2 hs2 => nx υ ⟨hb.tr (hb2.mono (fun a z => by unfold ldT; omega)), fun s h => ?_⟩)
    by_cases e : s = i
    · subst e; exact hs2
    · exact (hs s (by omega)).kept hb2 (by omega)
  · intro τ ⟨hb, hs⟩
    apply h10
    simp +decide (disch := omega) only [lit, lit_neg, i_add, i_mul, i_sub, i_div, i_and, i_or, i_shl1, Nat.one_mul, i_shr1, i_bit1, i_lt, i_eq, i_in, i_cl, i_0, gI_sI, bi_0n, bi_1n, nz_bi, nz_0n, nz_1n, vn_0n, vn_1n, vn_bi, and_true, true_and, not_false_eq_true, not_true_eq_false, false_implies, true_implies, forall_const, implies_true, ite_true, ite_false, Bool.not_eq_true, Bool.not_eq_false, and_false, false_and, if_true, if_false, if_pos, true_or, or_true, false_or, or_false, Nat.lt_irrefl]
    refine up_loopS (L := fun i τ => L36 (nI (2 ^ M 0 1)) i τ) (I := fun m τ => ButL ldT σ τ ∧ ∀ s, s < 2 ^ M 0 1 → SS τ (32 + 4 * s) (cls M m s)) (2 ^ M 0 1) ?_ ?_ 0 τ (Nat.zero_le _) ⟨hb, hs⟩
    · intro m υ hmm ⟨hb, hs⟩ nx
      apply h36
      simp +decide (disch := omega) only [lit, lit_neg, i_add, i_mul, i_sub, i_div, i_and, i_or, i_shl1, Nat.one_mul, i_shr1, i_bit1, i_lt, i_eq, i_in, i_cl, i_0, gI_sI, bi_0n, bi_1n, nz_bi, nz_0n, nz_1n, vn_0n, vn_1n, vn_bi, and_true, true_and, not_false_eq_true, not_true_eq_false, false_implies, true_implies, forall_const, implies_true, ite_true, ite_false, Bool.not_eq_true, Bool.not_eq_false, and_false, false_and, if_true, if_false, if_pos, true_or, or_true, false_or, or_false, hmm]
      refine up_loopS (L := fun i τ => L43 (nI (2 ^ M 0 1)) (nI m) i τ) (I := fun i τ => ButL ldT σ τ ∧ ∀ s, s < 2 ^ M 0 1 → SS τ (32 + 4 * s) (if s < i then cls M (m + 1) s else cls M m s)) (2 ^ M 0 1) ?_ ?_ 0 υ (Nat.zero_le _) ⟨hb, fun s h => by rw [if_neg (by omega)]; exact hs s h⟩
      · intro i ω hi ⟨hb, hs⟩ nx2
        have hsi := hs i hi
        rw [if_neg (Nat.lt_irrefl i)] at hsi
        have hsm : SS ω (32 + 4 * m) (cls M m m) := by
          have := hs m hmm
          by_cases e : m < i
          · rw [if_pos e] at this; exact SS_congr this (fun t _ => cls_row M m t)
          · rw [if_neg e] at this; exact this
        apply h43
        simp +decide (disch := omega) only [lit, lit_neg, i_add, i_mul, i_sub, i_div, i_and, i_or, i_shl1, Nat.one_mul, i_shr1, i_bit1, i_lt, i_eq, i_in, i_cl, i_0, gI_sI, bi_0n, bi_1n, nz_bi, nz_0n, nz_1n, vn_0n, vn_1n, vn_bi, and_true, true_and, not_false_eq_true, not_true_eq_false, false_implies, true_implies, forall_const, implies_true, ite_true, ite_false, Bool.not_eq_true, Bool.not_eq_false, and_false, false_and, if_true, if_false, if_pos, true_or, or_true, false_or, or_false, hi]
        refine xs_leadsFrom (by omega) ?_
        rw [(ss_leads (show i < 256 by omega)).1]
        simp only [onB, cond_true]
        refine ss_has (ss_leads (by omega)) hsi (by omega) ?_
        rw [bi_0n]
        refine ⟨fun z => nx2 ω ⟨hb, fun s h => ?_⟩, fun z => xs_leadsFrom (by omega) (xs_leadsFrom (by omega) ?_)⟩
        · by_cases e : s = i
          · subst e
            rw [if_pos (Nat.lt_succ_self s)]
            refine SS_congr hsi (fun t _ => ?_)
            show _ = (cls M m s t || (cls M m s m && cls M m m t))
            rw [z, Bool.false_and, Bool.or_false]
          · have := hs s h
            by_cases q : s < i
            · rw [if_pos q] at this; rw [if_pos (by omega)]; exact this
            · rw [if_neg q] at this; rw [if_neg (by omega)]; exact this
        · have z : cls M m i m = true := by simpa using z
          rw [(ss_leads (show i < 256 by omega)).1]
          simp only [onB, cond_true]
          refine ss_putAll (ss_leads (by omega)) (ss_leads (by omega)) hsi hsm (fun ψ hb2 hs2 => nx2 ψ ⟨hb.tr (hb2.mono (fun a z => by unfold ldT; omega)), fun s h => ?_⟩)
          by_cases e : s = i
          · subst e
            rw [if_pos (Nat.lt_succ_self s)]
            refine SS_congr hs2 (fun t _ => ?_)
            show _ = (cls M m s t || (cls M m s m && cls M m m t))
            rw [z, Bool.true_and]
          · have := (hs s h).kept hb2 (by omega)
            by_cases q : s < i
            · rw [if_pos q] at this; rw [if_pos (by omega)]; exact this
            · rw [if_neg q] at this; rw [if_neg (by omega)]; exact this
      · intro ω ⟨hb, hs⟩
        apply h43
        simp +decide (disch := omega) only [lit, lit_neg, i_add, i_mul, i_sub, i_div, i_and, i_or, i_shl1, Nat.one_mul, i_shr1, i_bit1, i_lt, i_eq, i_in, i_cl, i_0, gI_sI, bi_0n, bi_1n, nz_bi, nz_0n, nz_1n, vn_0n, vn_1n, vn_bi, and_true, true_and, not_false_eq_true, not_true_eq_false, false_implies, true_implies, forall_const, implies_true, ite_true, ite_false, Bool.not_eq_true, Bool.not_eq_false, and_false, false_and, if_true, if_false, if_pos, true_or, or_true, false_or, or_false, Nat.lt_irrefl]
        exact nx ω ⟨hb, fun s h => by have := hs s h; rw [if_pos h] at this; exact this⟩
    · intro υ ⟨hb, hs⟩
      apply h36
      simp +decide (disch := omega) only [lit, lit_neg, i_add, i_mul, i_sub, i_div, i_and, i_or, i_shl1, Nat.one_mul, i_shr1, i_bit1, i_lt, i_eq, i_in, i_cl, i_0, gI_sI, bi_0n, bi_1n, nz_bi, nz_0n, nz_1n, vn_0n, vn_1n, vn_bi, and_true, true_and, not_false_eq_true, not_true_eq_false, false_implies, true_implies, forall_const, implies_true, ite_true, ite_false, Bool.not_eq_true, Bool.not_eq_false, and_false, false_and, if_true, if_false, if_pos, true_or, or_true, false_or, or_false, Nat.lt_irrefl]
      exact hq υ hb hs
theorem xs_findCircle {M : Ms} {σ : Sg} {s : Nat} {Q : Sg → Prop} (hW : WFm M) (hm : XMm M σ) (hT : ∀ s, s < 2 ^ M 0 1 → SS σ (32 + 4 * s) (trc M s)) (hs : s < 2 ^ M 0 1) (hq : ∀ τ, ButL (fun a => a = 27) σ τ → SS τ 26 (circ M s) → Q τ) : wp_X8_findCircle (nI s) σ Q := by
  have h256 := pow_le8 hW.2.1
  intro L9 h9
  refine ss_empty ss_26 (fun τ hb h0 => ?_)
  refine up_loopS (I := fun i τ => ButL (fun a => a = 27) σ τ ∧ SS τ 26 (fun u => decide (u < i) && circ M s u)) (2 ^ M 0 1) ?_ ?_ 0 τ (Nat.zero_le _) ⟨hb, SS_congr h0 (fun u _ => by simp)⟩
  · intro i υ hi ⟨hb, hc⟩ nx
    have no : circ M s i = false → L9 (nI (i + 1)) υ := fun h => nx υ ⟨hb, SS_congr hc (fun u _ => by
      by_cases e : u = i
      · rw [e, h]; simp
      · rw [show decide (u < i) = decide (u < i + 1) from decide_eq_decide.mpr (by omega)])⟩
    apply h9
    refine xs_states hW (hm.keptL hb) ?_
    simp +decide (disch := omega) only [lit, lit_neg, i_add, i_mul, i_sub, i_div, i_and, i_or, i_shl1, Nat.one_mul, i_shr1, i_bit1, i_lt, i_eq, i_in, i_cl, i_0, gI_sI, bi_0n, bi_1n, nz_bi, nz_0n, nz_1n, vn_0n, vn_1n, vn_bi, and_true, true_and, not_false_eq_true, not_true_eq_false, false_implies, true_implies, forall_const, implies_true, ite_true, ite_false, Bool.not_eq_true, Bool.not_eq_false, and_false, false_and, if_true, if_false, if_pos, true_or, or_true, false_or, or_false, hi]
    refine xs_leadsFrom (by omega) ?_
    rw [(ss_leads (show s < 256 by omega)).1]
    simp only [onB, cond_true]
    refine ss_has (ss_leads (by omega)) ((hT s hs).kept hb (by omega)) (by omega) ?_
    rw [bi_0n]
    refine ⟨fun z => no (by unfold circ; rw [z]; rfl), fun z => xs_leadsFrom (by omega) ?_⟩
    rw [(ss_leads (show i < 256 by omega)).1]
    simp only [cond_true]
    refine ss_has (ss_leads (by omega)) ((hT i hi).kept hb (by omega)) (by omega) ?_
    rw [bi_0n]
    refine ⟨fun z2 => no (by unfold circ; rw [z2, Bool.and_false]), fun z2 => ?_⟩
    have hy : circ M s i = true := by
      unfold circ
      rw [Bool.and_eq_true]
      exact ⟨by simpa using z, by simpa using z2⟩
    refine ss_put ss_26 hc (by omega) (fun ω hb2 hc2 => nx ω ⟨hb.tr hb2, SS_congr hc2 (fun u _ => ?_)⟩)
    by_cases e : u = i
    · rw [e, hy]; simp
    · rw [show decide (u < i) = decide (u < i + 1) from decide_eq_decide.mpr (by omega), decide_eq_false e, Bool.or_false]
  · intro υ ⟨hb, hc⟩
    apply h9
    refine xs_states hW (hm.keptL hb) ?_
    simp +decide (disch := omega) only [lit, lit_neg, i_add, i_mul, i_sub, i_div, i_and, i_or, i_shl1, Nat.one_mul, i_shr1, i_bit1, i_lt, i_eq, i_in, i_cl, i_0, gI_sI, bi_0n, bi_1n, nz_bi, nz_0n, nz_1n, vn_0n, vn_1n, vn_bi, and_true, true_and, not_false_eq_true, not_true_eq_false, false_implies, true_implies, forall_const, implies_true, ite_true, ite_false, Bool.not_eq_true, Bool.not_eq_false, and_false, false_and, if_true, if_false, if_pos, true_or, or_true, false_or, or_false, Nat.lt_irrefl]
    refine hq υ hb (SS_congr hc (fun u _ => ?_))
    cases h1 : circ M s u
    · rw [Bool.and_false]
    · rw [decide_eq_true (circ_lt h1)]; rfl
