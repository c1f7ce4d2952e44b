/-! the class: the machine's questions -/
theorem bits_lt65 {n : Nat} {f : Nat → Bool} (h : n ≤ 16) : bitsN n f < 65536 := by
  have hb := bitsN_lt n f
  have : 2 ^ n ≤ 2 ^ 16 := Nat.pow_le_pow_right (n := 2) (by decide) h
  omega
theorem bitsN_or1 (n : Nat) (f : Nat → Bool) : (if f n = true then bitsN n f ||| 2 ^ n else bitsN n f) = bitsN (n + 1) f := by
  cases h : f n
  · simp [bitsN, h]
  · rw [if_pos rfl]; exact bitsN_or n f h
theorem xs_first {M : Ms} {σ : Sg} {p : Nat} {Q : Int32 → Prop} (hW : WFm M) (hm : XMm M σ) (hp : p < M 0 0) (hq : Q (e1 (M 2 p))) : wp_X3_firstSign (nI p) σ Q := by
  have h80 := hW.1
  refine xs_part hW hm hp ?_
  simp +decide (disch := omega) only [lit, lit_neg, i_add, i_mul, i_sub, i_div, i_and, i_or, i_shl1, Nat.one_mul, i_shr1, i_bit1, i_lt, i_eq, i_in, i_cl, i_0, gI_sI, bi_0n, bi_1n, nz_bi, nz_0n, nz_1n, vn_0n, vn_1n, vn_bi, and_true, true_and, not_false_eq_true, not_true_eq_false, false_implies, true_implies, forall_const, implies_true, ite_true, ite_false, Bool.not_eq_true, Bool.not_eq_false, and_false, false_and, if_true, if_false, if_pos, true_or, or_true, false_or, or_false, show p < 80 by omega, (hm.2.2.2.2.2.2.2.1 p hp).2.1]
  exact hq
theorem xs_second {M : Ms} {σ : Sg} {p : Nat} {Q : Int32 → Prop} (hW : WFm M) (hm : XMm M σ) (hp : p < M 0 0) (hq : Q (e1 (M 3 p))) : wp_X3_secondSign (nI p) σ Q := by
  have h80 := hW.1
  refine xs_part hW hm hp ?_
  simp +decide (disch := omega) only [lit, lit_neg, i_add, i_mul, i_sub, i_div, i_and, i_or, i_shl1, Nat.one_mul, i_shr1, i_bit1, i_lt, i_eq, i_in, i_cl, i_0, gI_sI, bi_0n, bi_1n, nz_bi, nz_0n, nz_1n, vn_0n, vn_1n, vn_bi, and_true, true_and, not_false_eq_true, not_true_eq_false, false_implies, true_implies, forall_const, implies_true, ite_true, ite_false, Bool.not_eq_true, Bool.not_eq_false, and_false, false_and, if_true, if_false, if_pos, true_or, or_true, false_or, or_false, show p < 80 by omega, (hm.2.2.2.2.2.2.2.1 p hp).2.2.1]
  exact hq
theorem xs_after {M : Ms} {σ : Sg} {s c : Nat} {Q : Int32 → Prop} (hW : WFm M) (hm : XMm M σ) (he : Ev M σ s (M 0 0)) (hc : c < 2 ^ M 0 2) (hq : Q (nI (nxtN M s c))) : wp_X3_stateAfter (nI c) σ Q := by
  have h16 := pow_le4 hW.2.2.1
  have h8 := hW.2.1
  have h80 := hW.1
  intro L4 h4
  refine up_loopS (L := fun i x => L4 x i) (I := fun i x => x = nI (bitsN i (fun j => sgv (val M s c) (M 2 (M 7 j) - 1)))) (M 0 1) ?_ ?_ 0 _ (Nat.zero_le _) rfl
  · intro i x hi hx nx
    subst hx
    apply h4
    obtain ⟨b1, b2, b3⟩ := hW.2.2.2.2.2.2.2.2.2.1 i hi
    obtain ⟨-, p2, -, -, p5, -, -⟩ := hW.2.2.2.2.2.2.2.2.1 (M 7 i) b1
    have p51 := (p5 b2).1
    rw [hm.2.2.1]
    simp +decide (disch := omega) only [lit, lit_neg, i_add, i_mul, i_sub, i_div, i_and, i_or, i_shl1, Nat.one_mul, i_shr1, i_bit1, i_lt, i_eq, i_in, i_cl, i_0, gI_sI, bi_0n, bi_1n, nz_bi, nz_0n, nz_1n, vn_0n, vn_1n, vn_bi, and_true, true_and, not_false_eq_true, not_true_eq_false, false_implies, true_implies, forall_const, implies_true, ite_true, ite_false, Bool.not_eq_true, Bool.not_eq_false, and_false, false_and, if_true, if_false, if_pos, true_or, or_true, false_or, or_false, hi, show i < 8 by omega, hm.2.2.2.2.2.2.2.2.1 i hi]
    refine xs_first hW hm b1 ?_
    rw [e1_pos p51]
    refine xs_sign hW hm he (Nat.le_refl _) (by omega) ?_
    have hl := lns_lt (fun c => sgv (val M s c) (M 2 (M 7 i) - 1))
    unfold sgl
    simp +decide (disch := omega) only [lit, lit_neg, i_add, i_mul, i_sub, i_div, i_and, i_or, i_shl1, Nat.one_mul, i_shr1, i_bit1, i_lt, i_eq, i_in, i_cl, i_0, gI_sI, bi_0n, bi_1n, nz_bi, nz_0n, nz_1n, vn_0n, vn_1n, vn_bi, and_true, true_and, not_false_eq_true, not_true_eq_false, false_implies, true_implies, forall_const, implies_true, ite_true, ite_false, Bool.not_eq_true, Bool.not_eq_false, and_false, false_and, if_true, if_false, if_pos, true_or, or_true, false_or, or_false, show c < 32 by omega, lns_bit, show c < 16 by omega, decide_true, Bool.true_and]
    have hb := bitsN_lt i (fun j => sgv (val M s c) (M 2 (M 7 j) - 1))
    have h1 := bitsN_or1 i (fun j => sgv (val M s c) (M 2 (M 7 j) - 1))
    cases hs : sgv (val M s c) (M 2 (M 7 i) - 1)
    · rw [hs, if_neg (by decide)] at h1
      rw [bi_fn, show nI 0 <<< nI (i &&& 31) = nI 0 from (by have := i_shl1 (a := 0) (n := i) (by omega) (by omega); rw [this, Nat.zero_mul])]
      rw [i_or, Nat.or_zero, h1]
      exact nx _ rfl
    · rw [hs, if_pos rfl] at h1
      rw [bi_tn, i_1shl1 (by omega), i_or, h1]
      exact nx _ rfl
  · intro x hx
    subst hx
    apply h4
    rw [hm.2.2.1]
    simp +decide (disch := omega) only [lit, lit_neg, i_add, i_mul, i_sub, i_div, i_and, i_or, i_shl1, Nat.one_mul, i_shr1, i_bit1, i_lt, i_eq, i_in, i_cl, i_0, gI_sI, bi_0n, bi_1n, nz_bi, nz_0n, nz_1n, vn_0n, vn_1n, vn_bi, and_true, true_and, not_false_eq_true, not_true_eq_false, false_implies, true_implies, forall_const, implies_true, ite_true, ite_false, Bool.not_eq_true, Bool.not_eq_false, and_false, false_and, if_true, if_false, if_pos, true_or, or_true, false_or, or_false, Nat.lt_irrefl]
    exact hq
def bdN (M : Ms) (s : Nat) : Nat := bitsN (2 ^ M 0 2) (badB M s)
theorem xs_badLanes {M : Ms} {σ : Sg} {s : Nat} {Q : Int32 → Prop} (hW : WFm M) (hm : XMm M σ) (he : Ev M σ s (M 0 0)) (hq : Q (nI (bdN M s))) : wp_X3_badLanes σ Q := by
  have h16 := pow_le4 hW.2.2.1
  have h4 := hW.2.2.2.2.2.2.1
  unfold bdN badB at hq
  refine xs_right hW hm he ?_
  rw [hm.1]
  rcases Nat.eq_zero_or_pos (M 0 4) with z | z
  · rw [z] at hq ⊢
    refine xs_signN ?_
    rw [i_and, Nat.and_zero]
    have : bitsN (2 ^ M 0 2) (fun c => rightB M s c && (decide (0 < 0) && sgv (val M s c) (0 - 1))) = 0 := by
      apply nat_bits
      intro j
      rw [bitsN_bit]
      simp
    rw [this] at hq
    exact hq
  · rw [e1_pos z]
    refine xs_sign hW hm he (Nat.le_refl _) (by omega) ?_
    rw [i_and]
    unfold sgl
    rw [bits_and h16]
    rw [decide_eq_true z] at hq
    exact hq
theorem xs_leastBad {M : Ms} {σ : Sg} {s : Nat} {Q : Int32 → Prop} (hW : WFm M) (hm : XMm M σ) (he : Ev M σ s (M 0 0)) (hq : Q (e1 (lst (2 ^ M 0 2) (badB M s)))) : wp_X3_leastChoicesOfBad σ Q := by
  have h16 := pow_le4 hW.2.2.1
  intro L7 h7
  refine xs_badLanes hW hm he ?_
  have hb := bits_lt65 (f := badB M s) h16
  refine up_loop (L := fun i => L7 (nI (bdN M s)) i) (I := fun i => ∀ c, c < i → badB M s c = false) (2 ^ M 0 2) ?_ ?_ 0 (Nat.zero_le _) (fun c hc => absurd hc (by omega))
  · intro c hc hI nx
    apply h7
    refine xs_choices hW hm ?_
    unfold bdN
    unfold bdN at nx
    simp +decide (disch := omega) only [lit, lit_neg, i_add, i_mul, i_sub, i_div, i_and, i_or, i_shl1, Nat.one_mul, i_shr1, i_bit1, i_lt, i_eq, i_in, i_cl, i_0, gI_sI, bi_0n, bi_1n, nz_bi, nz_0n, nz_1n, vn_0n, vn_1n, vn_bi, and_true, true_and, not_false_eq_true, not_true_eq_false, false_implies, true_implies, forall_const, implies_true, ite_true, ite_false, Bool.not_eq_true, Bool.not_eq_false, and_false, false_and, if_true, if_false, if_pos, true_or, or_true, false_or, or_false, hc, bitsN_bit, decide_true, Bool.true_and, show bitsN (2 ^ M 0 2) (badB M s) < 2147483648 by omega]
    refine ⟨fun z => ?_, fun z => nx (fun d hd => ?_)⟩
    · rw [lst_some hc z hI, e1_s] at hq; exact hq
    · by_cases e : d = c
      · rw [e]; exact z
      · exact hI d (by omega)
  · intro hI
    apply h7
    refine xs_choices hW hm ?_
    simp +decide (disch := omega) only [lit, lit_neg, i_add, i_mul, i_sub, i_div, i_and, i_or, i_shl1, Nat.one_mul, i_shr1, i_bit1, i_lt, i_eq, i_in, i_cl, i_0, gI_sI, bi_0n, bi_1n, nz_bi, nz_0n, nz_1n, vn_0n, vn_1n, vn_bi, and_true, true_and, not_false_eq_true, not_true_eq_false, false_implies, true_implies, forall_const, implies_true, ite_true, ite_false, Bool.not_eq_true, Bool.not_eq_false, and_false, false_and, if_true, if_false, if_pos, true_or, or_true, false_or, or_false, Nat.lt_irrefl]
    rw [lst_none hI] at hq
    exact hq
theorem xs_leastTo {M : Ms} {σ : Sg} {s t : Nat} {Q : Int32 → Prop} (hW : WFm M) (hm : XMm M σ) (he : Ev M σ s (M 0 0)) (ht : t < 2147483648) (hq : Q (e1 (lst (2 ^ M 0 2) (fun c => rightB M s c && decide (nxtN M s c = t))))) : wp_X3_leastChoicesTo (nI t) σ Q := by
  have h16 := pow_le4 hW.2.2.1
  have h256 := pow_le8 hW.2.1
  intro L7 h7
  refine xs_right hW hm he ?_
  have hb := bits_lt65 (f := rightB M s) h16
  refine up_loop (L := fun i => L7 (nI (bitsN (2 ^ M 0 2) (rightB M s))) i) (I := fun i => ∀ c, c < i → (rightB M s c && decide (nxtN M s c = t)) = false) (2 ^ M 0 2) ?_ ?_ 0 (Nat.zero_le _) (fun c hc => absurd hc (by omega))
  · intro c hc hI nx
    have nx' : (rightB M s c && decide (nxtN M s c = t)) = false → L7 (nI (bitsN (2 ^ M 0 2) (rightB M s))) (nI (c + 1)) := fun h => nx (fun d hd => by
      by_cases e : d = c
      · rw [e]; exact h
      · exact hI d (by omega))
    apply h7
    refine xs_choices hW hm ?_
    have hn := nxtN_lt M s c
    simp +decide (disch := omega) only [lit, lit_neg, i_add, i_mul, i_sub, i_div, i_and, i_or, i_shl1, Nat.one_mul, i_shr1, i_bit1, i_lt, i_eq, i_in, i_cl, i_0, gI_sI, bi_0n, bi_1n, nz_bi, nz_0n, nz_1n, vn_0n, vn_1n, vn_bi, and_true, true_and, not_false_eq_true, not_true_eq_false, false_implies, true_implies, forall_const, implies_true, ite_true, ite_false, Bool.not_eq_true, Bool.not_eq_false, and_false, false_and, if_true, if_false, if_pos, true_or, or_true, false_or, or_false, hc, bitsN_bit, decide_true, Bool.true_and, show bitsN (2 ^ M 0 2) (rightB M s) < 2147483648 by omega]
    refine ⟨fun z => xs_after hW hm he hc ?_, fun z => nx' (by rw [z]; rfl)⟩
    simp +decide (disch := omega) only [lit, lit_neg, i_add, i_mul, i_sub, i_div, i_and, i_or, i_shl1, Nat.one_mul, i_shr1, i_bit1, i_lt, i_eq, i_in, i_cl, i_0, gI_sI, bi_0n, bi_1n, nz_bi, nz_0n, nz_1n, vn_0n, vn_1n, vn_bi, and_true, true_and, not_false_eq_true, not_true_eq_false, false_implies, true_implies, forall_const, implies_true, ite_true, ite_false, Bool.not_eq_true, Bool.not_eq_false, and_false, false_and, if_true, if_false, if_pos, true_or, or_true, false_or, or_false]
    refine ⟨fun e => ?_, fun e => nx' (by rw [decide_eq_false e, Bool.and_false])⟩
    rw [lst_some hc (by rw [z, decide_eq_true e]; rfl) hI, e1_s] at hq
    exact hq
  · intro hI
    apply h7
    refine xs_choices hW hm ?_
    simp +decide (disch := omega) only [lit, lit_neg, i_add, i_mul, i_sub, i_div, i_and, i_or, i_shl1, Nat.one_mul, i_shr1, i_bit1, i_lt, i_eq, i_in, i_cl, i_0, gI_sI, bi_0n, bi_1n, nz_bi, nz_0n, nz_1n, vn_0n, vn_1n, vn_bi, and_true, true_and, not_false_eq_true, not_true_eq_false, false_implies, true_implies, forall_const, implies_true, ite_true, ite_false, Bool.not_eq_true, Bool.not_eq_false, and_false, false_and, if_true, if_false, if_pos, true_or, or_true, false_or, or_false, Nat.lt_irrefl]
    rw [lst_none hI] at hq
    exact hq
theorem xs_hasSign {M : Ms} {σ : Sg} {x : Int32} {Q : Int32 → Prop} (hW : WFm M) (hm : XMm M σ) (hq : Q (bi (isSg x M))) : wp_X3_hasSign x σ Q := by
  have h80 := hW.1
  unfold wp_X3_hasSign
  refine ⟨fun z => ⟨nz_0, ?_⟩, fun z => ?_⟩
  · rw [i_0, lt0_toInt] at z
    unfold isSg inb at hq
    rw [decide_eq_false (by omega)] at hq; exact hq
  · obtain ⟨g, hg, rfl⟩ := i_dec z
    rw [i_half hg]
    refine xs_hasPart hW hm ?_
    unfold isSg at hq
    rw [inb_n (by omega)] at hq ⊢
    rw [show decide (g / 2 < M 0 0) = decide (g < 2 * M 0 0) from decide_eq_decide.mpr (by omega)]
    simp +decide (disch := omega) only [lit, lit_neg, i_add, i_mul, i_sub, i_div, i_and, i_or, i_shl1, Nat.one_mul, i_shr1, i_bit1, i_lt, i_eq, i_in, i_cl, i_0, gI_sI, bi_0n, bi_1n, nz_bi, nz_0n, nz_1n, vn_0n, vn_1n, vn_bi, and_true, true_and, not_false_eq_true, not_true_eq_false, false_implies, true_implies, forall_const, implies_true, ite_true, ite_false, Bool.not_eq_true, Bool.not_eq_false, and_false, false_and, if_true, if_false, if_pos, true_or, or_true, false_or, or_false]
    exact ⟨fun e => by rw [e] at hq; exact hq, fun e => by rw [e] at hq; exact hq⟩
theorem xs_hasState {M : Ms} {σ : Sg} {x : Int32} {Q : Int32 → Prop} (hW : WFm M) (hm : XMm M σ) (hq : Q (bi (inb x (2 ^ M 0 1)))) : wp_X3_hasState x σ Q := by
  have h256 := pow_le8 hW.2.1
  unfold wp_X3_hasState
  rw [i_0, lt0_toInt]
  unfold inb at hq
  refine ⟨fun h => ⟨nz_0, ?_⟩, fun h => xs_states hW hm ?_⟩
  · rw [decide_eq_false (by omega)] at hq; exact hq
  · rw [lt_toInt (by omega)]
    refine ⟨fun h2 => ⟨nz_1, ?_⟩, fun h2 => ⟨nz_0, ?_⟩⟩
    · rw [decide_eq_true (by omega)] at hq; exact hq
    · rw [decide_eq_false (by omega)] at hq; exact hq
theorem xs_hasChoices {M : Ms} {σ : Sg} {x : Int32} {Q : Int32 → Prop} (hW : WFm M) (hm : XMm M σ) (hq : Q (bi (inb x (2 ^ M 0 2)))) : wp_X3_hasChoices x σ Q := by
  have h256 := pow_le4 hW.2.2.1
  unfold wp_X3_hasChoices
  rw [i_0, lt0_toInt]
  unfold inb at hq
  refine ⟨fun h => ⟨nz_0, ?_⟩, fun h => xs_choices hW hm ?_⟩
  · rw [decide_eq_false (by omega)] at hq; exact hq
  · rw [lt_toInt (by omega)]
    refine ⟨fun h2 => ⟨nz_1, ?_⟩, fun h2 => ⟨nz_0, ?_⟩⟩
    · rw [decide_eq_true (by omega)] at hq; exact hq
    · rw [decide_eq_false (by omega)] at hq; exact hq
