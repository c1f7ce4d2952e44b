/-! THE CALLS in plain words: an answer, and the state behind it -/
def inb (x : Int32) (n : Nat) : Bool := decide (0 ≤ x.toInt ∧ x.toInt < n)
def cn (x : Int32) : Nat := x.toNatClampNeg
theorem cn_nI {n : Nat} (h : n < 2147483648) : cn (nI n) = n := i_cl h
theorem i_toInt {n : Nat} (h : n < 2147483648) : (nI n).toInt = (n : Int) := nI_toInt h
theorem inb_t {x : Int32} {n : Nat} (h : inb x n = true) : ∃ j, j < n ∧ j < 2147483648 ∧ x = nI j := by
  have h2 := of_decide_eq_true h
  have h3 : ¬ x < 0 := by
    intro z
    have := Int32.lt_iff_toInt_lt.mp z
    simp at this
    omega
  obtain ⟨j, hj, rfl⟩ := i_dec h3
  rw [i_toInt hj] at h2
  exact ⟨j, by omega, hj, rfl⟩
theorem inb_n {j n : Nat} (h : j < 2147483648) : inb (nI j) n = decide (j < n) := by
  unfold inb
  rw [i_toInt h]
  by_cases q : j < n
  · simp [q]
  · simp [q]
theorem lt_toInt {x : Int32} {n : Nat} (hn : n < 2147483648) : (x < nI n) = (x.toInt < (n : Int)) := by
  rw [Int32.lt_iff_toInt_lt, i_toInt hn]
theorem lt0_toInt {x : Int32} : (x < nI 0) = (x.toInt < 0) := lt_toInt (by decide)
theorem cmp_lt (x y : Int64) : (lg_cmp x y < 0) = (x.toInt < y.toInt) := by
  have h := lg_cmp_ge x y
  rw [Int64.le_iff_toInt_le] at h
  refine propext ⟨fun z => ?_, fun z => ?_⟩
  · have : ¬ (0 ≤ lg_cmp x y) := Int32.not_le.mpr z
    rw [h] at this
    omega
  · refine i_nle_lt (fun z2 => ?_)
    rw [h] at z2
    omega
theorem cmp_gt (x y : Int64) : (0 < lg_cmp x y) = (y.toInt < x.toInt) := by
  unfold lg_cmp
  simp only [gt_iff_lt, Int64.lt_iff_toInt_lt, ← Int64.toInt_inj]
  split
  · rename_i h
    exact propext ⟨fun _ => h, fun _ => by decide⟩
  · rename_i h
    split
    · exact propext ⟨fun z => absurd z (by decide), fun z => absurd z h⟩
    · exact propext ⟨fun z => absurd z (by decide), fun z => absurd z h⟩
theorem sp_isIn {σ : Sg} {v lo hi : Int64} {a b c : Int} {Q : Int32 → Prop} (hv : v.toInt = c) (ha : lo.toInt = a) (hb : hi.toInt = b) (hq : Q (bi (decide (a ≤ c ∧ c ≤ b)))) : wp_X10_isIn v lo hi σ Q := by
  unfold wp_X10_isIn
  rw [cmp_lt, cmp_gt, hv, ha, hb]
  refine ⟨fun h => ⟨nz_0, ?_⟩, fun h => ⟨fun h2 => ⟨nz_0, ?_⟩, fun h2 => ⟨nz_1, ?_⟩⟩⟩
  · rw [decide_eq_false (by omega)] at hq; exact hq
  · rw [decide_eq_false (by omega)] at hq; exact hq
  · rw [decide_eq_true (by omega)] at hq; exact hq
theorem toI64 (x : Int32) : x.toInt64.toInt = x.toInt := Int32.toInt_toInt64 x
theorem subI {n : Nat} (h : n < 2147483648) : (nI n - nI 1).toInt = (n : Int) - 1 := by
  rcases Nat.eq_zero_or_pos n with z | z
  · subst z; decide
  · rw [i_sub z, i_toInt (by omega)]
    omega
/-- 0 to one less than n -/
theorem sp_isInN {σ : Sg} {x : Int32} {n : Nat} {Q : Int32 → Prop} (hn : n < 2147483648) (hq : Q (bi (inb x n))) : wp_X10_isIn x.toInt64 0 (nI n - nI 1).toInt64 σ Q := by
  refine sp_isIn (toI64 x) (a := 0) rfl ((toI64 _).trans (subI hn)) ?_
  have : decide (0 ≤ x.toInt ∧ x.toInt ≤ (n : Int) - 1) = inb x n := by
    unfold inb
    by_cases h : 0 ≤ x.toInt ∧ x.toInt < n
    · rw [decide_eq_true h, decide_eq_true (by omega)]
    · rw [decide_eq_false h, decide_eq_false (by omega)]
  rw [this]
  exact hq
theorem sp_isInC {σ : Sg} {x : Int32} {n : Nat} {hi : Int64} {Q : Int32 → Prop} (hh : hi.toInt = (n : Int) - 1) (hq : Q (bi (inb x n))) : wp_X10_isIn x.toInt64 0 hi σ Q := by
  refine sp_isIn (toI64 x) (a := 0) rfl hh ?_
  have : decide (0 ≤ x.toInt ∧ x.toInt ≤ (n : Int) - 1) = inb x n := by
    unfold inb
    by_cases h : 0 ≤ x.toInt ∧ x.toInt < n
    · rw [decide_eq_true h, decide_eq_true (by omega)]
    · rw [decide_eq_false h, decide_eq_false (by omega)]
  rw [this]
  exact hq
def rf (b : Nat) (M : Ms) : Int32 × Ms := (-(nI b), up M 8 b (M 8 b + 1))
theorem RPr_cg {M N : Ms} {σ : Sg} (h0 : N 0 3 = M 0 3) (h1 : ∀ k, 8 ≤ k → k ≤ 12 → N 0 k = M 0 k) (h2 : ∀ a k, 9 ≤ a → a ≤ 11 → N a k = M a k) (h3 : ∀ a k, 100 ≤ a → N a k = M a k) (hR : RPr M σ) : RPr N σ := by
  obtain ⟨r1, r2, r3, r4, r5, r6, r7, r8, r9, r10⟩ := hR
  have w : wayN N = wayN M := by unfold wayN; rw [h1 9 (by decide) (by decide), h1 11 (by decide) (by decide)]
  refine ⟨by rw [h1 8 (by decide) (by decide)]; exact r1, by rw [h1 9 (by decide) (by decide)]; exact r2, by rw [h1 10 (by decide) (by decide)]; exact r3, by rw [h1 11 (by decide) (by decide)]; exact r4, fun i hi => ?_, fun k k1 k2 => ⟨?_, fun i hi => ?_⟩, ?_, ?_, by rw [w]; exact r9, ?_⟩
  · rw [h1 11 (by decide) (by decide)] at hi
    rw [h2 10 i (by decide) (by decide), h2 11 i (by decide) (by decide)]
    exact r5 i hi
  · rw [h2 9 k (by decide) (by decide)]; exact (r6 k k1 k2).1
  · rw [h2 9 k (by decide) (by decide)] at hi
    rw [h3 _ _ (by omega), h3 _ _ (by omega)]
    exact (r6 k k1 k2).2 i hi
  · rw [h1 9 (by decide) (by decide), h1 12 (by decide) (by decide), h2 9 _ (by decide) (by decide)]; exact r7
  · rw [h1 9 (by decide) (by decide), h1 12 (by decide) (by decide), h2 9 _ (by decide) (by decide)]
    intro z i hi
    rw [h3 _ _ (by omega), h3 _ _ (by omega)]
    exact r8 z i hi
  · rw [w]
    intro i hi
    have : waySt N i = waySt M i := by unfold waySt; rw [h1 11 (by decide) (by decide), h0, h2 10 _ (by decide) (by decide)]
    rw [this]
    exact r10 i hi
def RM (M : Ms) (σ : Sg) : Prop := RMc M σ ∧ TBL M σ
/-- what the reference does at a call -/
def RefDoes (r : Int32 × Ms) (Q : Int32 → Sg → Prop) : Prop := ∀ τ, RM r.2 τ → Q r.1 τ
theorem TBL_cg {M N : Ms} {σ τ : Sg} (h : agm M N) (hg : ∀ k, gI τ 9 k = gI σ 9 k ∧ gI τ 10 k = gI σ 10 k ∧ gI τ 11 k = gI σ 11 k) (h18 : gI τ 0 18 = gI σ 0 18) (ht : TBL M σ) : TBL N τ := by
  rcases ht with t | ⟨t1, t2⟩
  · exact Or.inl (h18.trans t)
  · refine Or.inr ⟨h18.trans t1, TB_ag h (fun s c hs hc => ?_)⟩
    have := t2 s c hs hc
    unfold ent at this ⊢
    rw [(hg _).1, (hg _).2.1, (hg _).2.2]
    exact this
theorem agm_up {M : Ms} {a k v : Nat} (h : (a = 0 ∧ 7 ≤ k) ∨ 8 ≤ a) : agm M (up M a k v) := ⟨fun j hj => up_ne _ _ _ _ _ _ (by omega), fun b j hb hb2 => up_ne _ _ _ _ _ _ (by omega)⟩
theorem sp_no {M : Ms} {σ : Sg} {b : Nat} {Q : Int32 → Sg → Prop} (hR : RM M σ) (h1 : 2 ≤ b) (h2 : b ≤ 8) (hq : RefDoes (rf b M) Q) : wp_X10_no (-(nI b)) σ Q := by
  obtain ⟨⟨hm, hp, hl⟩, ht⟩ := hR
  have e : -(-(nI b)) = nI b := Int32.neg_neg
  unfold wp_X10_no
  rw [e]
  obtain ⟨l1, l2, l3, l4, l5, l6, l7, l8⟩ := hl
  simp +decide (disch := omega) only [lit, lit_neg, i_add, i_mul, i_sub, i_div, i_and, i_or, i_shl1, Nat.one_mul, i_shr1, i_bit1, i_lt, i_eq, i_in, i_cl, i_0, gI_sI, bi_0n, bi_1n, nz_bi, nz_0n, nz_1n, vn_0n, vn_1n, vn_bi, and_true, true_and, not_false_eq_true, not_true_eq_false, false_implies, true_implies, forall_const, implies_true, ite_true, ite_false, Bool.not_eq_true, Bool.not_eq_false, and_false, false_and, if_true, if_false, if_pos, true_or, or_true, false_or, or_false, show b < 9 by omega, l2 b h1 h2]
  have q : ∀ a k, a ≠ 8 → up M 8 b (M 8 b + 1) a k = M a k := fun a k z => up_ne _ _ _ _ _ _ (by omega)
  have g : ∀ a k, a ≠ 8 → gI (sI σ 8 b (nI (M 8 b + 1))) a k = gI σ a k := fun a k z => by rw [gI_sI, if_neg (by omega)]
  have hag : agm M (up M 8 b (M 8 b + 1)) := agm_up (by omega)
  have hbut : But (fun a _ => a = 8) σ (sI σ 8 b (nI (M 8 b + 1))) := But.rf.up rfl
  refine hq _ ⟨⟨RMm_ag hag (hm.kept hbut (fun a k hi => by simp only [inMm] at hi; omega)), RPr_cg (M := M) (q 0 3 (by decide)) (fun k _ _ => q 0 k (by decide)) (fun a k _ _ => q a k (by omega)) (fun a k _ => q a k (by omega)) ?_, ?_⟩, TBL_cg hag (fun k => ⟨g 9 k (by decide), g 10 k (by decide), g 11 k (by decide)⟩) (g 0 18 (by decide)) ht⟩
  · obtain ⟨r1, r2, r3, r4, r5, r6, r7, r8, r9, r10⟩ := hp
    refine ⟨by rw [g 0 23 (by decide)]; exact r1, by rw [g 0 24 (by decide)]; exact r2, by rw [g 0 25 (by decide)]; exact r3, by rw [g 0 26 (by decide)]; exact r4, fun i hi => ?_, fun k k1 k2 => ⟨?_, fun i hi => ?_⟩, by rw [g 0 31 (by decide)]; exact r7, ?_, by rw [g 0 33 (by decide)]; exact r9, ?_⟩
    · rw [g 15 i (by decide), g 16 i (by decide)]; exact r5 i hi
    · rw [g 14 k (by decide)]; exact (r6 k k1 k2).1
    · rw [g 12 _ (by decide), g 13 _ (by decide)]; exact (r6 k k1 k2).2 i hi
    · intro z i hi
      rw [g 17 i (by decide), g 18 i (by decide)]; exact r8 z i hi
    · intro i hi
      rw [g 19 i (by decide)]; exact r10 i hi
  · show RLs (up M 8 b (M 8 b + 1)) _
    refine ⟨?_, fun j j1 j2 => ?_, ?_, fun i hi => ?_, ?_, ?_, ?_, fun i hi => ?_⟩
    · rw [q 0 7 (by decide), g 0 19 (by decide)]; exact l1
    · show gI _ 8 j = nI (up M 8 b (M 8 b + 1) 8 j)
      rw [gI_sI, up_at]
      by_cases z : j = b
      · rw [if_pos ⟨rfl, z⟩, if_pos ⟨rfl, z⟩]
      · rw [if_neg (by omega), if_neg (by omega)]; exact l2 j j1 j2
    · rw [q 0 13 (by decide), g 0 39 (by decide)]; exact l3
    · rw [q 0 13 (by decide)] at hi
      rw [q 12 i (by decide), q 13 i (by decide), g 23 i (by decide), g 24 i (by decide)]; exact l4 i hi
    · rw [q 0 14 (by decide), g 0 40 (by decide)]; exact l5
    · rw [q 0 15 (by decide), g 0 41 (by decide)]; exact l6
    · rw [q 0 16 (by decide), g 0 46 (by decide)]; exact l7
    · rw [q 0 16 (by decide)] at hi
      rw [q 14 i (by decide), g 25 i (by decide)]; exact l8 i hi
