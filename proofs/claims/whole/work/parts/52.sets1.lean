/-! sets of states -/
def lb (v : Int64) (i : Nat) : Bool := v.toBitVec.getLsbD i
theorem lb_or (x y : Int64) (i : Nat) : lb (x ||| y) i = (lb x i || lb y i) := by unfold lb; rw [Int64.toBitVec_or, BitVec.getLsbD_or]
theorem lb_and (x y : Int64) (i : Nat) : lb (x &&& y) i = (lb x i && lb y i) := by unfold lb; rw [Int64.toBitVec_and, BitVec.getLsbD_and]
theorem lb_m1 {i : Nat} (h : i < 64) : lb (-1 : Int64) i = true := by
  unfold lb
  rw [show (-1 : Int64).toBitVec = BitVec.allOnes 64 from rfl, BitVec.getLsbD_allOnes, decide_eq_true h]
theorem lb_0 (i : Nat) : lb (0 : Int64) i = false := by
  unfold lb
  rw [show (0 : Int64).toBitVec = 0#64 from rfl, BitVec.getLsbD_zero]
theorem lb_not (x : Int64) {i : Nat} (h : i < 64) : lb (x ^^^ (-1 : Int64)) i = !lb x i := by
  have := lb_m1 h
  unfold lb at this ⊢
  rw [Int64.toBitVec_xor, BitVec.getLsbD_xor, this, Bool.xor_true]
theorem lb_ext {x y : Int64} (h : ∀ i, i < 64 → lb x i = lb y i) : x = y := by
  apply Int64.toBitVec_inj.mp
  exact BitVec.eq_of_getLsbD_eq (fun i hi => h i hi)
theorem sa64 : ∀ j, j < 64 → (((nI j).toInt64 &&& 63).toBitVec.smod 64).toNat = j := by decide +kernel
theorem ub64 : ∀ j, j < 64 → (((nI j).toInt64.toUInt64 &&& Int64.toUInt64 63).toBitVec % 64).toNat = j := by decide +kernel
theorem lb_shl {i j : Nat} (hi : i < 64) (hj : j < 64) : lb ((1 : Int64) <<< ((nI j).toInt64 &&& 63)) i = decide (i = j) := by
  unfold lb
  rw [Int64.toBitVec_shiftLeft, BitVec.shiftLeft_eq', sa64 j hj, BitVec.getLsbD_shiftLeft]
  rw [show (1 : Int64).toBitVec = 1#64 from rfl, BitVec.getLsbD_one]
  by_cases e : i = j
  · subst e; simp [hi]
  · by_cases e2 : i < j
    · simp [e, e2]
    · rw [decide_eq_false e, decide_eq_false (show ¬ (i - j = 0) by omega)]
      simp
theorem lb_has {v : Int64} {j : Nat} (hj : j < 64) : (lg_cmp ((v.toUInt64 >>> ((nI j).toInt64.toUInt64 &&& Int64.toUInt64 63)).toInt64 &&& (1 : Int64)) (1 : Int64) = 0) = (lb v j = true) := by
  rw [propext (lg_cmp_eq _ _)]
  have hb : ∀ i, lb ((v.toUInt64 >>> ((nI j).toInt64.toUInt64 &&& Int64.toUInt64 63)).toInt64 &&& (1 : Int64)) i = (decide (i = 0) && lb v j) := by
    intro i
    rw [lb_and]
    unfold lb
    rw [UInt64.toBitVec_toInt64, UInt64.toBitVec_shiftRight, BitVec.ushiftRight_eq', ub64 j hj, BitVec.getLsbD_ushiftRight, Int64.toBitVec_toUInt64]
    rw [show (1 : Int64).toBitVec = 1#64 from rfl, BitVec.getLsbD_one]
    by_cases e : i = 0
    · subst e; simp
    · simp [e]
  have h1 : ∀ i, lb (1 : Int64) i = decide (i = 0) := by
    intro i
    unfold lb
    rw [show (1 : Int64).toBitVec = 1#64 from rfl, BitVec.getLsbD_one]
    simp
  refine propext ⟨fun h => ?_, fun h => lb_ext (fun i _ => by rw [hb, h1, h, Bool.and_true])⟩
  have := hb 0
  rw [h, h1] at this
  simpa using this.symm
def IsSS (o : Nat) : Prop := isK wX o 7 = true ∧ wR wX o 0 = o + 1 ∧ isK wX (o + 1) 22 = true ∧ wN wX (o + 1) = 4
def SS (σ : Sg) (o : Nat) (S : Nat → Bool) : Prop := ∀ s, s < 256 → lb (gL σ (o + 1) (s / 64)) (s % 64) = S s
/-- all but some longs stands as it was -/
def ButL (T : Nat → Prop) (σ τ : Sg) : Prop := (∀ a k, gI τ a k = gI σ a k) ∧ ∀ a k, ¬ T a → gL τ a k = gL σ a k
theorem ButL.rf {T : Nat → Prop} {σ : Sg} : ButL T σ σ := ⟨fun _ _ => rfl, fun _ _ _ => rfl⟩
theorem ButL.tr {T : Nat → Prop} {σ τ υ : Sg} (h : ButL T σ τ) (h2 : ButL T τ υ) : ButL T σ υ := ⟨fun a k => (h2.1 a k).trans (h.1 a k), fun a k z => (h2.2 a k z).trans (h.2 a k z)⟩
theorem ButL.mono {T U : Nat → Prop} {σ τ : Sg} (h : ButL T σ τ) (hu : ∀ a, T a → U a) : ButL U σ τ := ⟨h.1, fun a k z => h.2 a k (fun w => z (hu a w))⟩
theorem ButL.up {T : Nat → Prop} {σ τ : Sg} (h : ButL T σ τ) {a k : Nat} {v : Int64} (ha : T a) : ButL T σ (sL τ a k v) := ⟨fun b j => h.1 b j, fun b j z => by rw [gL_sL, if_neg (fun (w : b = a ∧ j = k) => z (w.1 ▸ ha))]; exact h.2 b j z⟩
theorem SS.kept {T : Nat → Prop} {σ τ : Sg} {o : Nat} {S : Nat → Bool} (h : SS σ o S) (hb : ButL T σ τ) (ho : ¬ T (o + 1)) : SS τ o S := fun s hs => by rw [hb.2 _ _ ho]; exact h s hs
theorem SS_congr {σ : Sg} {o : Nat} {S S' : Nat → Bool} (h : SS σ o S) (he : ∀ s, s < 256 → S s = S' s) : SS σ o S' := fun s hs => by rw [h s hs, he s hs]
theorem i_mod64 {s : Nat} (h : s < 2147483648) : nI s - nI s / 64 * 64 = nI (s % 64) := by
  rw [show (64 : Int32) = nI 64 from rfl, i_div h (by decide) (by decide), i_mul, i_sub (by omega)]
  congr 1
  omega
theorem ss_has {σ : Sg} {o s : Nat} {S : Nat → Bool} {Q : Int32 → Prop} (ho : IsSS o) (h : SS σ o S) (hs : s < 256) (hq : Q (bi (S s))) : wp_X7_has o (nI s) σ Q := by
  obtain ⟨o1, o2, o3, o4⟩ := ho
  unfold wp_X7_has
  rw [o1, o2, o3, o4, i_mod64 (by omega), lb_has (by omega), show (64 : Int32) = nI 64 from rfl, i_div (by omega) (by decide) (by decide), i_cl (by omega), h s hs]
  simp only [onB, cond_true]
  simp +decide (disch := omega) only [lit, lit_neg, i_add, i_mul, i_sub, i_div, i_and, i_or, i_shl1, Nat.one_mul, i_shr1, i_bit1, i_lt, i_eq, i_in, i_cl, i_0, gI_sI, bi_0n, bi_1n, nz_bi, nz_0n, nz_1n, vn_0n, vn_1n, vn_bi, and_true, true_and, not_false_eq_true, not_true_eq_false, false_implies, true_implies, forall_const, implies_true, ite_true, ite_false, Bool.not_eq_true, Bool.not_eq_false, and_false, false_and, if_true, if_false, if_pos, true_or, or_true, false_or, or_false, hs, show s / 64 < 4 by omega]
  refine ⟨by omega, fun _ => ⟨fun e => by rw [e] at hq; exact hq, fun e => by rw [e] at hq; exact hq⟩⟩
theorem ss_put {σ : Sg} {o s : Nat} {S : Nat → Bool} {Q : Sg → Prop} (ho : IsSS o) (h : SS σ o S) (hs : s < 256) (hq : ∀ τ, ButL (fun a => a = o + 1) σ τ → SS τ o (fun t => S t || decide (t = s)) → Q τ) : wp_X7_put o (nI s) σ Q := by
  obtain ⟨o1, o2, o3, o4⟩ := ho
  unfold wp_X7_put
  rw [o1, o2, o3, o4, i_mod64 (by omega), show (64 : Int32) = nI 64 from rfl, i_div (by omega) (by decide) (by decide), i_cl (by omega)]
  simp only [onB, cond_true]
  simp +decide (disch := omega) only [lit, lit_neg, i_add, i_mul, i_sub, i_div, i_and, i_or, i_shl1, Nat.one_mul, i_shr1, i_bit1, i_lt, i_eq, i_in, i_cl, i_0, gI_sI, bi_0n, bi_1n, nz_bi, nz_0n, nz_1n, vn_0n, vn_1n, vn_bi, and_true, true_and, not_false_eq_true, not_true_eq_false, false_implies, true_implies, forall_const, implies_true, ite_true, ite_false, Bool.not_eq_true, Bool.not_eq_false, and_false, false_and, if_true, if_false, if_pos, true_or, or_true, false_or, or_false, hs, show s / 64 < 4 by omega]
  refine ⟨by omega, fun _ => hq _ (ButL.rf.up rfl) (fun t ht => ?_)⟩
  rw [gL_sL]
  by_cases e : t / 64 = s / 64
  · rw [if_pos ⟨rfl, e⟩, lb_or, lb_shl (by omega) (by omega), ← e, h t ht]
    congr 1
    exact decide_eq_decide.mpr (by omega)
  · show _ = (S t || decide (t = s))
    rw [if_neg (by omega), h t ht, decide_eq_false (by omega), Bool.or_false]
theorem ss_first {σ : Sg} {o n : Nat} {Q : Sg → Prop} (ho : IsSS o) (hn : n ≤ 256) (hq : ∀ τ, ButL (fun a => a = o + 1) σ τ → SS τ o (fun t => decide (t < n)) → Q τ) : wp_X7_becomeFirst o (nI n) σ Q := by
  obtain ⟨o1, o2, o3, o4⟩ := ho
  intro L2 h2
  refine up_loopS (I := fun w τ => ButL (fun a => a = o + 1) σ τ ∧ ∀ s, s < 64 * w → lb (gL τ (o + 1) (s / 64)) (s % 64) = decide (s < n)) 4 ?_ ?_ 0 σ (by decide) ⟨ButL.rf, fun s hs => absurd hs (by omega)⟩
  · intro w τ hw ⟨hb, hf⟩ nx
    apply h2
    rw [o1, o2, o3, o4]
    simp only [onB, cond_true]
    have put : ∀ v, (∀ i, i < 64 → lb v i = decide (64 * w + i < n)) → L2 (nI (w + 1)) (sL τ (o + 1) w v) := fun v hv => nx _ ⟨hb.up rfl, fun s hs => by
      rw [gL_sL]
      by_cases e : s / 64 = w
      · rw [if_pos ⟨rfl, e⟩, hv _ (by omega)]
        exact decide_eq_decide.mpr (by omega)
      · rw [if_neg (by omega)]; exact hf s (by omega)⟩
    rw [lit 4, lit 64, i_mul]
    by_cases c : w * 64 ≤ n
    · rw [i_sub c]
      simp +decide (disch := omega) only [lit, lit_neg, i_add, i_mul, i_sub, i_div, i_and, i_or, i_shl1, Nat.one_mul, i_shr1, i_bit1, i_lt, i_eq, i_in, i_cl, i_0, gI_sI, bi_0n, bi_1n, nz_bi, nz_0n, nz_1n, vn_0n, vn_1n, vn_bi, and_true, true_and, not_false_eq_true, not_true_eq_false, false_implies, true_implies, forall_const, implies_true, ite_true, ite_false, Bool.not_eq_true, Bool.not_eq_false, and_false, false_and, if_true, if_false, if_pos, true_or, or_true, false_or, or_false, hw]
      refine ⟨fun z => ⟨fun z2 => put _ (fun i hi => ?_), fun z2 => put _ (fun i hi => ?_)⟩, fun z => put _ (fun i hi => ?_)⟩
      · have : ∀ k, k < 64 → ∀ i, i < 64 → lb ((1 : Int64) <<< ((nI k).toInt64 &&& 63) - 1) i = decide (i < k) := by decide +kernel
        rw [this _ z i hi]
        exact decide_eq_decide.mpr (by omega)
      · rw [lb_0, decide_eq_false (by omega)]
      · rw [lb_m1 hi, decide_eq_true (by omega)]
    · have hneg : (nI n - nI (w * 64)).toInt = (n : Int) - (w * 64 : Nat) := by
        rw [Int32.toInt_sub, i_toInt (by omega), i_toInt (by omega)]
        rw [Int.bmod_eq_of_le (by omega) (by omega)]
      have n1 : (nI n - nI (w * 64) < nI 64) = True := eq_true (by rw [Int32.lt_iff_toInt_lt, hneg, i_toInt (by omega)]; omega)
      have n2 : (nI 0 < nI n - nI (w * 64)) = False := eq_false (by rw [Int32.lt_iff_toInt_lt, hneg, i_toInt (by omega)]; omega)
      rw [n1, show (0 : Int32) = nI 0 from rfl, n2]
      simp +decide (disch := omega) only [lit, lit_neg, i_add, i_mul, i_sub, i_div, i_and, i_or, i_shl1, Nat.one_mul, i_shr1, i_bit1, i_lt, i_eq, i_in, i_cl, i_0, gI_sI, bi_0n, bi_1n, nz_bi, nz_0n, nz_1n, vn_0n, vn_1n, vn_bi, and_true, true_and, not_false_eq_true, not_true_eq_false, false_implies, true_implies, forall_const, implies_true, ite_true, ite_false, Bool.not_eq_true, Bool.not_eq_false, and_false, false_and, if_true, if_false, if_pos, true_or, or_true, false_or, or_false, hw]
      exact put _ (fun i hi => by rw [show (OfNat.ofNat 0 : Int64) = 0 from rfl, lb_0, decide_eq_false (by omega)])
  · intro τ ⟨hb, hf⟩
    apply h2
    simp +decide (disch := omega) only [lit, lit_neg, i_add, i_mul, i_sub, i_div, i_and, i_or, i_shl1, Nat.one_mul, i_shr1, i_bit1, i_lt, i_eq, i_in, i_cl, i_0, gI_sI, bi_0n, bi_1n, nz_bi, nz_0n, nz_1n, vn_0n, vn_1n, vn_bi, and_true, true_and, not_false_eq_true, not_true_eq_false, false_implies, true_implies, forall_const, implies_true, ite_true, ite_false, Bool.not_eq_true, Bool.not_eq_false, and_false, false_and, if_true, if_false, if_pos, true_or, or_true, false_or, or_false, show ¬ 4 < 4 by omega]
    exact hq τ hb (fun s hs => hf s (by omega))
