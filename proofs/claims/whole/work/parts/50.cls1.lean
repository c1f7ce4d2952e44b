/-! THE CLASS: the machine -/
def But2 (S : Nat → Nat → Prop) (T : Nat → Prop) (σ τ : Sg) : Prop := (∀ a k, ¬ S a k → gI τ a k = gI σ a k) ∧ ∀ a k, ¬ T a → gL τ a k = gL σ a k
theorem But2.rf {S : Nat → Nat → Prop} {T : Nat → Prop} {σ : Sg} : But2 S T σ σ := ⟨fun _ _ _ => rfl, fun _ _ _ => rfl⟩
theorem But2.tr {S : Nat → Nat → Prop} {T : Nat → Prop} {σ τ υ : Sg} (h : But2 S T σ τ) (h2 : But2 S T τ υ) : But2 S T σ υ := ⟨fun a k z => (h2.1 a k z).trans (h.1 a k z), fun a k z => (h2.2 a k z).trans (h.2 a k z)⟩
theorem But2.up {S : Nat → Nat → Prop} {T : Nat → Prop} {σ τ : Sg} (h : But2 S T σ τ) {a k : Nat} {v : Int32} (hs : S a k) : But2 S T σ (sI τ a k v) := ⟨fun b j hb => by
  rw [gI_sI, if_neg (fun (q : b = a ∧ j = k) => hb (by rw [q.1, q.2]; exact hs))]; exact h.1 b j hb, fun b j z => h.2 b j z⟩
theorem But2.mono {S S' : Nat → Nat → Prop} {T T' : Nat → Prop} {σ τ : Sg} (h : But2 S T σ τ) (hs : ∀ a k, S a k → S' a k) (ht : ∀ a, T a → T' a) : But2 S' T' σ τ := ⟨fun a k z => h.1 a k (fun q => z (hs a k q)), fun a k z => h.2 a k (fun q => z (ht a q))⟩
theorem But2.b {S : Nat → Nat → Prop} {T : Nat → Prop} {σ τ : Sg} (h : But2 S T σ τ) : But S σ τ := h.1
def XMm (M : Ms) (σ : Sg) : Prop := gI σ 1 9 = e1 (M 0 4) ∧ gI σ 1 10 = nI (M 0 0) ∧ gI σ 1 11 = nI (M 0 1) ∧ gI σ 1 12 = nI (M 0 2) ∧ gI σ 1 13 = nI (M 0 3) ∧ gI σ 9 1 = nI (M 0 5) ∧ gI σ 11 1 = nI (M 0 6) ∧
  (∀ p, p < M 0 0 → gI σ 2 p = nI (M 1 p) ∧ gI σ 3 p = e1 (M 2 p) ∧ gI σ 4 p = e1 (M 3 p) ∧ (M 1 p ≠ 0 → gI σ 5 p = nI (M 4 p))) ∧
  (∀ j, j < M 0 1 → gI σ 6 j = nI (M 7 j)) ∧ (∀ i, i < M 0 5 → gI σ 10 i = nI (M 5 i)) ∧ (∀ i, i < M 0 6 → gI σ 12 i = nI (M 6 i))
def inXm (a k : Nat) : Prop := (a = 1 ∧ 9 ≤ k ∧ k ≤ 13) ∨ (2 ≤ a ∧ a ≤ 6) ∨ (9 ≤ a ∧ a ≤ 12)
theorem XMm.kept {S : Nat → Nat → Prop} {M : Ms} {σ τ : Sg} (h : XMm M σ) (hb : But S σ τ) (hs : ∀ a k, inXm a k → ¬ S a k) : XMm M τ := by
  obtain ⟨h1, h2, h3, h4, h5, h6, h7, h8, h9, h10, h11⟩ := h
  have q : ∀ a k, inXm a k → gI τ a k = gI σ a k := fun a k h => hb a k (hs a k h)
  refine ⟨by rw [q 1 9 (by simp [inXm])]; exact h1, by rw [q 1 10 (by simp [inXm])]; exact h2, by rw [q 1 11 (by simp [inXm])]; exact h3, by rw [q 1 12 (by simp [inXm])]; exact h4, by rw [q 1 13 (by simp [inXm])]; exact h5, by rw [q 9 1 (by simp [inXm])]; exact h6, by rw [q 11 1 (by simp [inXm])]; exact h7, fun p hp => ?_, fun j hj => ?_, fun i hi => ?_, fun i hi => ?_⟩
  · rw [q 2 p (by simp [inXm]), q 3 p (by simp [inXm]), q 4 p (by simp [inXm]), q 5 p (by simp [inXm])]; exact h8 p hp
  · rw [q 6 j (by simp [inXm])]; exact h9 j hj
  · rw [q 10 i (by simp [inXm])]; exact h10 i hi
  · rw [q 12 i (by simp [inXm])]; exact h11 i hi
/-- lanes: bit c is the value with the choices c -/
def lns (f : Nat → Bool) : Nat := bitsN 16 f
theorem lns_lt (f : Nat → Bool) : lns f < 65536 := bitsN_lt 16 f
theorem lns_bit (f : Nat → Bool) (c : Nat) : (lns f).testBit c = (decide (c < 16) && f c) := bitsN_bit 16 f c
theorem lns_and (f g : Nat → Bool) : lns f &&& lns g = lns (fun c => f c && g c) := by
  apply nat_bits
  intro j
  rw [Nat.testBit_and, lns_bit, lns_bit, lns_bit]
  cases decide (j < 16) <;> rfl
theorem bits_and {n : Nat} (h : n ≤ 16) (f g : Nat → Bool) : bitsN n f &&& lns g = bitsN n (fun c => f c && g c) := by
  apply nat_bits
  intro j
  rw [Nat.testBit_and, lns_bit, bitsN_bit, bitsN_bit]
  by_cases q : j < n
  · rw [decide_eq_true q, decide_eq_true (show j < 16 by omega)]; simp
  · rw [decide_eq_false q]; simp
theorem lns_not (f : Nat → Bool) : (lns f ^^^ 65535) = lns (fun c => !f c) := by
  apply nat_bits
  intro j
  rw [Nat.testBit_xor, lns_bit, lns_bit, show 65535 = 2 ^ 16 - 1 from rfl, Nat.testBit_two_pow_sub_one]
  cases decide (j < 16) <;> cases f j <;> rfl
theorem lns_b (b : Bool) : lns (fun _ => b) = if b = true then 65535 else 0 := by cases b <;> decide
theorem i_inv {n : Nat} : (nI n ^^^ e1 0) &&& nI 65535 = nI (65535 &&& (n ^^^ (n &&& n) ||| (65535 ^^^ (65535 &&& n)))) := by
  have : (nI n ^^^ e1 0) &&& nI 65535 = nI (andn 65535 n) := by
    rw [← i_andn]
    apply i_ext
    simp only [Int32.toBitVec_and]
    exact BitVec.and_comm _ _
  rw [this]
  congr 1
  apply nat_bits
  intro j
  simp only [andn_bit, Nat.testBit_and, Nat.testBit_or, Nat.testBit_xor]
  cases (65535 : Nat).testBit j <;> cases n.testBit j <;> rfl
theorem lns_inv (f : Nat → Bool) : (nI (lns f) ^^^ e1 0) &&& nI 65535 = nI (lns (fun c => !f c)) := by
  have : (nI (lns f) ^^^ e1 0) &&& nI 65535 = nI (andn 65535 (lns f)) := by
    rw [← i_andn]
    apply i_ext
    simp only [Int32.toBitVec_and]
    exact BitVec.and_comm _ _
  rw [this]
  congr 1
  apply nat_bits
  intro j
  rw [andn_bit, lns_bit, lns_bit, show 65535 = 2 ^ 16 - 1 from rfl, Nat.testBit_two_pow_sub_one]
  cases decide (j < 16) <;> cases f j <;> rfl
theorem i_half {g : Nat} (h : g < 2147483648) : nI g >>> ((1 : Int32) &&& 31) = nI (g / 2) := by
  rw [show (1 : Int32) = nI 1 from rfl, i_shr h (by decide), Nat.shiftRight_eq_div_pow]
theorem n_half : (e1 0) >>> ((1 : Int32) &&& 31) = e1 0 := by decide
def Ev (M : Ms) (σ : Sg) (s n : Nat) : Prop := ∀ p, p < n → gI σ 7 p = nI (lns (fun c => val M s c p))
theorem val_eq {M : Ms} (hW : WFm M) (s c : Nat) {p : Nat} (hp : p < M 0 0) : val M s c p = vcomp M s c (val M s c) p := by
  have h1 : val M s c p = vcomp M s c (VV M s c p) p := by
    unfold val
    rw [VV_le M s c (Nat.lt_succ_self p) hp]
    show (if p = p then _ else _) = _
    rw [if_pos rfl]
  rw [h1]
  obtain ⟨g0, -, -, g1, g2, -, g4⟩ := hW.2.2.2.2.2.2.2.2.1 p hp
  unfold vcomp
  split
  · rfl
  · split
    · rename_i h0
      obtain ⟨q1, q2, q3, q4⟩ := g1 h0
      unfold sgv
      rw [show VV M s c p ((M 2 p - 1) / 2) = val M s c ((M 2 p - 1) / 2) from (VV_le M s c (by omega) (by omega)).symm, show VV M s c p ((M 3 p - 1) / 2) = val M s c ((M 3 p - 1) / 2) from (VV_le M s c (by omega) (by omega)).symm]
    · rfl
def sgl (M : Ms) (s g : Nat) : Nat := lns (fun c => sgv (val M s c) g)
theorem xs_signN {σ : Sg} {Q : Int32 → Prop} (hq : Q (nI 0)) : wp_X3_signLanes (e1 0) σ Q := by
  unfold wp_X3_signLanes
  rw [n_half]
  exact ⟨fun _ => hq, fun h => absurd (by decide) h⟩
theorem xs_sign {M : Ms} {σ : Sg} {s n g : Nat} {Q : Int32 → Prop} (hW : WFm M) (hm : XMm M σ) (he : Ev M σ s n) (hn : n ≤ M 0 0) (hg : g / 2 < n) (hq : Q (nI (sgl M s g))) : wp_X3_signLanes (nI g) σ Q := by
  have h80 := hW.1
  unfold wp_X3_signLanes
  rw [i_half (by omega), hm.2.1, lit 1, i_and, Nat.and_one_is_mod]
  simp +decide (disch := omega) only [lit, lit_neg, i_add, i_mul, i_sub, i_div, i_and, i_or, i_shl1, Nat.one_mul, i_shr1, i_bit1, i_lt, i_eq, i_in, i_cl, i_0, gI_sI, bi_0n, bi_1n, nz_bi, nz_0n, nz_1n, vn_0n, vn_1n, vn_bi, and_true, true_and, not_false_eq_true, not_true_eq_false, false_implies, true_implies, forall_const, implies_true, ite_true, ite_false, Bool.not_eq_true, Bool.not_eq_false, and_false, false_and, if_true, if_false, if_pos, true_or, or_true, false_or, or_false, show g / 2 < M 0 0 by omega, show g / 2 < 80 by omega, he (g / 2) hg]
  unfold sgl sgv at hq
  refine ⟨by omega, fun _ => ⟨fun z => ?_, fun z => ?_⟩⟩
  · rw [show g % 2 = 0 from z] at hq
    simp at hq
    exact hq
  · rw [show g % 2 = 1 by omega] at hq
    simp at hq
    rw [lns_inv]
    exact hq
theorem e1_pos {n : Nat} (h : 1 ≤ n) : e1 n = nI (n - 1) := e1_p h
theorem inpL_v : ∀ i, i < 4 → inpL i = nI (lns (fun c => c.testBit i)) := by decide
theorem xs_hasPart {M : Ms} {σ : Sg} {x : Int32} {Q : Int32 → Prop} (hW : WFm M) (hm : XMm M σ) (hq : Q (bi (inb x (M 0 0)))) : wp_X3_hasPart x σ Q := by
  have h80 := hW.1
  unfold wp_X3_hasPart
  rw [hm.2.1, i_0, lt0_toInt, lt_toInt (show M 0 0 < 2147483648 by omega), lit 80, lt_toInt (show 80 < 2147483648 by decide)]
  unfold inb at hq
  refine ⟨fun h => ⟨nz_0, ?_⟩, fun h => ⟨fun h2 => ⟨fun h3 => ⟨nz_1, ?_⟩, fun h3 => ⟨nz_0, ?_⟩⟩, fun h2 => ⟨nz_0, ?_⟩⟩⟩
  · rw [decide_eq_false (by omega)] at hq; exact hq
  · rw [decide_eq_true (by omega)] at hq; exact hq
  · rw [decide_eq_false (by omega)] at hq; exact hq
  · rw [decide_eq_false (by omega)] at hq; exact hq
theorem xs_part {M : Ms} {σ : Sg} {p : Nat} {Q : Int32 → Prop} (hW : WFm M) (hm : XMm M σ) (hp : p < M 0 0) (hq : Q (nI 1)) : wp_X3_hasPart (nI p) σ Q := by
  have h80 := hW.1
  refine xs_hasPart hW hm ?_
  rw [inb_n (by omega), decide_eq_true hp]
  exact hq
theorem xs_lanesIn {M : Ms} {σ : Sg} {s p : Nat} {Q : Int32 → Prop} (hW : WFm M) (hm : XMm M σ) (he : Ev M σ s p) (hp : p < M 0 0) (hs : s < 2 ^ M 0 1) (hq : Q (nI (lns (fun c => val M s c p)))) : wp_X3_lanesIn (nI p) (nI s) σ Q := by
  have h80 := hW.1
  have h8 := hW.2.1
  have h256 := pow_le8 hW.2.1
  have h4 := hW.2.2.1
  obtain ⟨g0, -, -, g1, g2, -, g4⟩ := hW.2.2.2.2.2.2.2.2.1 p hp
  obtain ⟨m1, m2, m3, m4⟩ := hm.2.2.2.2.2.2.2.1 p hp
  refine xs_part hW hm hp ?_
  have hv : (fun c => val M s c p) = (fun c => vcomp M s c (val M s c) p) := funext (fun c => val_eq hW s c hp)
  rw [hv] at hq
  by_cases h0 : M 1 p = 0
  · obtain ⟨q1, q2, q3, q4⟩ := g1 h0
    simp +decide (disch := omega) only [lit, lit_neg, i_add, i_mul, i_sub, i_div, i_and, i_or, i_shl1, Nat.one_mul, i_shr1, i_bit1, i_lt, i_eq, i_in, i_cl, i_0, gI_sI, bi_0n, bi_1n, nz_bi, nz_0n, nz_1n, vn_0n, vn_1n, vn_bi, and_true, true_and, not_false_eq_true, not_true_eq_false, false_implies, true_implies, forall_const, implies_true, ite_true, ite_false, Bool.not_eq_true, Bool.not_eq_false, and_false, false_and, if_true, if_false, if_pos, true_or, or_true, false_or, or_false, show p < 80 by omega, m1, h0, m2, m3]
    rw [e1_pos q1, e1_pos q3]
    refine xs_sign hW hm he (by omega) (by omega) ?_
    refine xs_sign hW hm he (by omega) (by omega) ?_
    rw [i_and]
    unfold sgl
    rw [lns_and]
    have : (fun c => vcomp M s c (val M s c) p) = (fun c => sgv (val M s c) (M 2 p - 1) && sgv (val M s c) (M 3 p - 1)) := funext (fun c => by unfold vcomp; rw [if_neg (by omega), if_pos h0])
    rw [this] at hq
    exact hq
  · by_cases h3 : M 1 p = 3
    · have w := (g4 h3).1
      have m4 := m4 h0
      simp +decide (disch := omega) only [lit, lit_neg, i_add, i_mul, i_sub, i_div, i_and, i_or, i_shl1, Nat.one_mul, i_shr1, i_bit1, i_lt, i_eq, i_in, i_cl, i_0, gI_sI, bi_0n, bi_1n, nz_bi, nz_0n, nz_1n, vn_0n, vn_1n, vn_bi, and_true, true_and, not_false_eq_true, not_true_eq_false, false_implies, true_implies, forall_const, implies_true, ite_true, ite_false, Bool.not_eq_true, Bool.not_eq_false, and_false, false_and, if_true, if_false, if_pos, true_or, or_true, false_or, or_false, show p < 80 by omega, m1, h0, h3, m4, show M 4 p < 4 by omega]
      rw [inpL_v _ (by omega)]
      have : (fun c => vcomp M s c (val M s c) p) = (fun c => c.testBit (M 4 p)) := funext (fun c => by unfold vcomp; rw [if_pos h3])
      rw [this] at hq
      exact ⟨by omega, fun _ => hq⟩
    · have w := (g2 (by omega)).2.1
      have m4 := m4 h0
      have : (fun c => vcomp M s c (val M s c) p) = (fun _ => s.testBit (M 4 p)) := funext (fun c => by unfold vcomp; rw [if_neg h3, if_neg h0])
      rw [this, lns_b] at hq
      simp +decide (disch := omega) only [lit, lit_neg, i_add, i_mul, i_sub, i_div, i_and, i_or, i_shl1, Nat.one_mul, i_shr1, i_bit1, i_lt, i_eq, i_in, i_cl, i_0, gI_sI, bi_0n, bi_1n, nz_bi, nz_0n, nz_1n, vn_0n, vn_1n, vn_bi, and_true, true_and, not_false_eq_true, not_true_eq_false, false_implies, true_implies, forall_const, implies_true, ite_true, ite_false, Bool.not_eq_true, Bool.not_eq_false, and_false, false_and, if_true, if_false, if_pos, true_or, or_true, false_or, or_false, show p < 80 by omega, m1, h0, h3, m4, show M 4 p < 32 by omega, show s < 2147483648 by omega]
      exact ⟨fun e => by rw [if_pos e] at hq; exact hq, fun e => by rw [if_neg (by rw [e]; decide)] at hq; exact hq⟩
theorem xs_evaluate {M : Ms} {σ : Sg} {s : Nat} {Q : Sg → Prop} (hW : WFm M) (hm : XMm M σ) (hs : s < 2 ^ M 0 1) (hq : ∀ τ, But2 (fun a _ => a = 7) (fun _ => False) σ τ → Ev M τ s (M 0 0) → Q τ) : wp_X3_evaluate (nI s) σ Q := by
  have h80 := hW.1
  intro L2 h2
  have km : ∀ τ, But2 (fun a _ => a = 7) (fun _ => False) σ τ → XMm M τ := fun τ hb => hm.kept hb.1 (fun a k h => by simp only [inXm] at h; omega)
  refine up_loopS (I := fun i τ => But2 (fun a _ => a = 7) (fun _ => False) σ τ ∧ Ev M τ s i) (M 0 0) ?_ ?_ 0 σ (Nat.zero_le _) ⟨But2.rf, fun p hp => absurd hp (by omega)⟩
  · intro i τ hi ⟨hb, he⟩ nx
    apply h2
    rw [(km τ hb).2.1]
    simp +decide (disch := omega) only [lit, lit_neg, i_add, i_mul, i_sub, i_div, i_and, i_or, i_shl1, Nat.one_mul, i_shr1, i_bit1, i_lt, i_eq, i_in, i_cl, i_0, gI_sI, bi_0n, bi_1n, nz_bi, nz_0n, nz_1n, vn_0n, vn_1n, vn_bi, and_true, true_and, not_false_eq_true, not_true_eq_false, false_implies, true_implies, forall_const, implies_true, ite_true, ite_false, Bool.not_eq_true, Bool.not_eq_false, and_false, false_and, if_true, if_false, if_pos, true_or, or_true, false_or, or_false, hi, show i < 80 by omega]
    refine xs_lanesIn hW (km τ hb) he hi hs (nx _ ⟨hb.up rfl, fun p hp => ?_⟩)
    rw [gI_sI]
    by_cases e : p = i
    · rw [if_pos ⟨rfl, e⟩, e]
    · rw [if_neg (by omega)]; exact he p (by omega)
  · intro τ ⟨hb, he⟩
    apply h2
    rw [(km τ hb).2.1]
    simp +decide (disch := omega) only [lit, lit_neg, i_add, i_mul, i_sub, i_div, i_and, i_or, i_shl1, Nat.one_mul, i_shr1, i_bit1, i_lt, i_eq, i_in, i_cl, i_0, gI_sI, bi_0n, bi_1n, nz_bi, nz_0n, nz_1n, vn_0n, vn_1n, vn_bi, and_true, true_and, not_false_eq_true, not_true_eq_false, false_implies, true_implies, forall_const, implies_true, ite_true, ite_false, Bool.not_eq_true, Bool.not_eq_false, and_false, false_and, if_true, if_false, if_pos, true_or, or_true, false_or, or_false, Nat.lt_irrefl]
    exact hq τ hb he
theorem xs_states {M : Ms} {σ : Sg} {Q : Int32 → Prop} (hW : WFm M) (hm : XMm M σ) (hq : Q (nI (2 ^ M 0 1))) : wp_X3_states σ Q := by
  have h8 := hW.2.1
  unfold wp_X3_states
  rw [hm.2.2.1]
  simp +decide (disch := omega) only [lit, lit_neg, i_add, i_mul, i_sub, i_div, i_and, i_or, i_shl1, Nat.one_mul, i_shr1, i_bit1, i_lt, i_eq, i_in, i_cl, i_0, gI_sI, bi_0n, bi_1n, nz_bi, nz_0n, nz_1n, vn_0n, vn_1n, vn_bi, and_true, true_and, not_false_eq_true, not_true_eq_false, false_implies, true_implies, forall_const, implies_true, ite_true, ite_false, Bool.not_eq_true, Bool.not_eq_false, and_false, false_and, if_true, if_false, if_pos, true_or, or_true, false_or, or_false, i_1shl1]
  exact hq
theorem xs_choices {M : Ms} {σ : Sg} {Q : Int32 → Prop} (hW : WFm M) (hm : XMm M σ) (hq : Q (nI (2 ^ M 0 2))) : wp_X3_choicesInAll σ Q := by
  have h8 := hW.2.2.1
  unfold wp_X3_choicesInAll
  rw [hm.2.2.2.1]
  simp +decide (disch := omega) only [lit, lit_neg, i_add, i_mul, i_sub, i_div, i_and, i_or, i_shl1, Nat.one_mul, i_shr1, i_bit1, i_lt, i_eq, i_in, i_cl, i_0, gI_sI, bi_0n, bi_1n, nz_bi, nz_0n, nz_1n, vn_0n, vn_1n, vn_bi, and_true, true_and, not_false_eq_true, not_true_eq_false, false_implies, true_implies, forall_const, implies_true, ite_true, ite_false, Bool.not_eq_true, Bool.not_eq_false, and_false, false_and, if_true, if_false, if_pos, true_or, or_true, false_or, or_false, i_1shl1]
  exact hq
theorem ones_bits : ∀ n, 2 ^ n - 1 = bitsN n (fun _ => true)
  | 0 => rfl
  | n + 1 => by
    have := ones_bits n
    have h2 : 2 ^ (n + 1) = 2 ^ n + 2 ^ n := by rw [Nat.pow_succ]; omega
    have := Nat.pow_pos (n := n) (show 0 < 2 by decide)
    simp only [bitsN, if_true]
    omega
theorem onB_i {b : Bool} {p : Prop} (h : b = true) (hp : p) : onB b p := by rw [h]; exact hp
theorem xs_signAt {σ : Sg} {o a n i : Nat} {v : Int32} {Q : Int32 → Prop} (h6 : isK wX o 6 = true) (ha : wR wX o 0 = a) (hA : isA wX a = true) (hK : isK wX a 20 = true) (hN : n ≤ wN wX a) (hN2 : wN wX a ≤ 80) (h1 : gI σ o 1 = nI n) (hi : i < n) (hv : gI σ a i = v) (hq : Q v) : wp_X6_signAt o (nI i) σ Q := by
  unfold wp_X6_signAt
  rw [h6, ha, hA, hK, h1]
  simp only [onB, cond_true]
  simp +decide (disch := omega) only [lit, lit_neg, i_add, i_mul, i_sub, i_div, i_and, i_or, i_shl1, Nat.one_mul, i_shr1, i_bit1, i_lt, i_eq, i_in, i_cl, i_0, gI_sI, bi_0n, bi_1n, nz_bi, nz_0n, nz_1n, vn_0n, vn_1n, vn_bi, and_true, true_and, not_false_eq_true, not_true_eq_false, false_implies, true_implies, forall_const, implies_true, ite_true, ite_false, Bool.not_eq_true, Bool.not_eq_false, and_false, false_and, if_true, if_false, if_pos, true_or, or_true, false_or, or_false, hi, show i < wN wX a by omega, hv]
  exact ⟨by omega, fun _ => hq⟩
theorem xs_right {M : Ms} {σ : Sg} {s : Nat} {Q : Int32 → Prop} (hW : WFm M) (hm : XMm M σ) (he : Ev M σ s (M 0 0)) (hq : Q (nI (bitsN (2 ^ M 0 2) (rightB M s)))) : wp_X3_rightLanes σ Q := by
  have h16 := pow_le4 hW.2.2.1
  have has := hW.2.2.2.1
  have h9 := hm.2.2.2.2.2.1
  have h10 := hm.2.2.2.2.2.2.2.2.2.1
  have c := hW.2.2.2.2.2.2.2.2.2.2.1
  intro L11 h11
  refine xs_choices hW hm ?_
  have hp : 2 ^ 2 ^ M 0 2 ≤ 65536 := by
    have := Nat.pow_le_pow_right (n := 2) (by decide) h16
    omega
  have hp1 : 1 ≤ 2 ^ 2 ^ M 0 2 := Nat.pow_pos (by decide)
  simp +decide (disch := omega) only [lit, lit_neg, i_add, i_mul, i_sub, i_div, i_and, i_or, i_shl1, Nat.one_mul, i_shr1, i_bit1, i_lt, i_eq, i_in, i_cl, i_0, gI_sI, bi_0n, bi_1n, nz_bi, nz_0n, nz_1n, vn_0n, vn_1n, vn_bi, and_true, true_and, not_false_eq_true, not_true_eq_false, false_implies, true_implies, forall_const, implies_true, ite_true, ite_false, Bool.not_eq_true, Bool.not_eq_false, and_false, false_and, if_true, if_false, if_pos, true_or, or_true, false_or, or_false, i_1shl1]
  refine up_loopS (L := fun i x => L11 x i) (I := fun i x => x = nI (bitsN (2 ^ M 0 2) (fun c => allN i (fun i => sgv (val M s c) (M 5 i))))) (M 0 5) ?_ ?_ 0 _ (Nat.zero_le _) (by rw [ones_bits]; rfl)
  · intro i x hi hx nx
    subst hx
    apply h11
    have ci := c i hi
    rw [h9]
    simp +decide (disch := omega) only [lit, lit_neg, i_add, i_mul, i_sub, i_div, i_and, i_or, i_shl1, Nat.one_mul, i_shr1, i_bit1, i_lt, i_eq, i_in, i_cl, i_0, gI_sI, bi_0n, bi_1n, nz_bi, nz_0n, nz_1n, vn_0n, vn_1n, vn_bi, and_true, true_and, not_false_eq_true, not_true_eq_false, false_implies, true_implies, forall_const, implies_true, ite_true, ite_false, Bool.not_eq_true, Bool.not_eq_false, and_false, false_and, if_true, if_false, if_pos, true_or, or_true, false_or, or_false, hi]
    refine xs_signAt (a := 10) (n := M 0 5) (by decide) (by decide) (by decide) (by decide) has (by decide) h9 hi (h10 i hi) ?_
    refine xs_sign hW hm he (Nat.le_refl _) (by omega) (nx _ ?_)
    rw [i_and]
    unfold sgl
    rw [bits_and h16]
    rfl
  · intro x hx
    subst hx
    apply h11
    rw [h9]
    simp +decide (disch := omega) only [lit, lit_neg, i_add, i_mul, i_sub, i_div, i_and, i_or, i_shl1, Nat.one_mul, i_shr1, i_bit1, i_lt, i_eq, i_in, i_cl, i_0, gI_sI, bi_0n, bi_1n, nz_bi, nz_0n, nz_1n, vn_0n, vn_1n, vn_bi, and_true, true_and, not_false_eq_true, not_true_eq_false, false_implies, true_implies, forall_const, implies_true, ite_true, ite_false, Bool.not_eq_true, Bool.not_eq_false, and_false, false_and, if_true, if_false, if_pos, true_or, or_true, false_or, or_false, Nat.lt_irrefl]
    exact hq
theorem xs_isRight {M : Ms} {σ : Sg} {s c : Nat} {Q : Int32 → Prop} (hW : WFm M) (hm : XMm M σ) (he : Ev M σ s (M 0 0)) (hc : c < 2 ^ M 0 2) (hq : Q (bi (rightB M s c))) : wp_X3_isRight (nI c) σ Q := by
  have h16 := pow_le4 hW.2.2.1
  refine xs_right hW hm he ?_
  have hb := bitsN_lt (2 ^ M 0 2) (rightB M s)
  have hp : 2 ^ 2 ^ M 0 2 ≤ 65536 := by
    have := Nat.pow_le_pow_right (n := 2) (by decide) h16
    omega
  simp +decide (disch := omega) only [lit, lit_neg, i_add, i_mul, i_sub, i_div, i_and, i_or, i_shl1, Nat.one_mul, i_shr1, i_bit1, i_lt, i_eq, i_in, i_cl, i_0, gI_sI, bi_0n, bi_1n, nz_bi, nz_0n, nz_1n, vn_0n, vn_1n, vn_bi, and_true, true_and, not_false_eq_true, not_true_eq_false, false_implies, true_implies, forall_const, implies_true, ite_true, ite_false, Bool.not_eq_true, Bool.not_eq_false, and_false, false_and, if_true, if_false, if_pos, true_or, or_true, false_or, or_false, show bitsN (2 ^ M 0 2) (rightB M s) < 2147483648 by omega, bitsN_bit, hc, decide_true, Bool.true_and]
  exact ⟨fun e => by rw [e] at hq; exact hq, fun e => by rw [e] at hq; exact hq⟩
