/-! sets of states with one another -/
theorem ss_bit {σ : Sg} {o : Nat} {S : Nat → Bool} (h : SS σ o S) {w i : Nat} (hw : w < 4) (hi : i < 64) : lb (gL σ (o + 1) w) i = S (64 * w + i) := by
  have := h (64 * w + i) (by omega)
  rw [show (64 * w + i) / 64 = w by omega, show (64 * w + i) % 64 = i by omega] at this
  exact this
/-- a loop that writes word by word -/
def WL (σ : Sg) (o w : Nat) (S : Nat → Bool) (τ : Sg) : Prop := ButL (fun a => a = o + 1) σ τ ∧ (∀ k, w ≤ k → gL τ (o + 1) k = gL σ (o + 1) k) ∧ ∀ k i, k < w → i < 64 → lb (gL τ (o + 1) k) i = S (64 * k + i)
theorem WL.st {σ : Sg} {o : Nat} {S : Nat → Bool} : WL σ o 0 S σ := ⟨ButL.rf, fun _ _ => rfl, fun k i hk => absurd hk (by omega)⟩
theorem WL.put {σ τ : Sg} {o w : Nat} {S : Nat → Bool} {v : Int64} (h : WL σ o w S τ) (hv : ∀ i, i < 64 → lb v i = S (64 * w + i)) : WL σ o (w + 1) S (sL τ (o + 1) w v) := by
  obtain ⟨a, b, c⟩ := h
  refine ⟨a.up rfl, fun k hk => ?_, fun k i hk hi => ?_⟩
  · rw [gL_sL, if_neg (by omega)]; exact b k (by omega)
  · rw [gL_sL]
    by_cases e : k = w
    · rw [if_pos ⟨rfl, e⟩, e]; exact hv i hi
    · rw [if_neg (by omega)]; exact c k i (by omega) hi
theorem WL.ss {σ τ : Sg} {o : Nat} {S : Nat → Bool} (h : WL σ o 4 S τ) : SS τ o S := fun s hs => by
  rw [h.2.2 (s / 64) (s % 64) (by omega) (by omega)]
  congr 1
  omega
theorem WL.rd {σ τ : Sg} {o w p : Nat} {S : Nat → Bool} (h : WL σ o w S τ) : gL τ (p + 1) w = gL σ (p + 1) w := by
  by_cases e : p = o
  · subst e; exact h.2.1 w (Nat.le_refl _)
  · exact h.1.2 _ _ (by omega)
theorem ss_like {σ : Sg} {o p : Nat} {S : Nat → Bool} {Q : Sg → Prop} (ho : IsSS o) (hp : IsSS p) (hS : SS σ p S) (hq : ∀ τ, ButL (fun a => a = o + 1) σ τ → SS τ o S → Q τ) : wp_X7_becomeLike o p σ Q := by
  obtain ⟨o1, o2, o3, o4⟩ := ho
  obtain ⟨p1, p2, p3, p4⟩ := hp
  intro L2 h2
  refine up_loopS (I := fun w τ => WL σ o w S τ) 4 ?_ ?_ 0 σ (by decide) WL.st
  · intro w τ hw hI nx
    apply h2
    rw [o1, o2, o3, o4, p1, p2, p3, p4]
    simp only [onB, cond_true]
    simp +decide (disch := omega) only [lit, lit_neg, i_add, i_mul, i_sub, i_div, i_and, i_or, i_shl1, Nat.one_mul, i_shr1, i_bit1, i_lt, i_eq, i_in, i_cl, i_0, gI_sI, bi_0n, bi_1n, nz_bi, nz_0n, nz_1n, vn_0n, vn_1n, vn_bi, and_true, true_and, not_false_eq_true, not_true_eq_false, false_implies, true_implies, forall_const, implies_true, ite_true, ite_false, Bool.not_eq_true, Bool.not_eq_false, and_false, false_and, if_true, if_false, if_pos, true_or, or_true, false_or, or_false, hw]
    refine nx _ (hI.put (fun i hi => ?_))
    rw [hI.rd, ss_bit hS hw hi]
  · intro τ hI
    apply h2
    simp +decide (disch := omega) only [lit, lit_neg, i_add, i_mul, i_sub, i_div, i_and, i_or, i_shl1, Nat.one_mul, i_shr1, i_bit1, i_lt, i_eq, i_in, i_cl, i_0, gI_sI, bi_0n, bi_1n, nz_bi, nz_0n, nz_1n, vn_0n, vn_1n, vn_bi, and_true, true_and, not_false_eq_true, not_true_eq_false, false_implies, true_implies, forall_const, implies_true, ite_true, ite_false, Bool.not_eq_true, Bool.not_eq_false, and_false, false_and, if_true, if_false, if_pos, true_or, or_true, false_or, or_false, show ¬ 4 < 4 by omega]
    exact hq τ hI.1 hI.ss
theorem ss_putAll {σ : Sg} {o p : Nat} {S T : Nat → Bool} {Q : Sg → Prop} (ho : IsSS o) (hp : IsSS p) (hS : SS σ o S) (hT : SS σ p T) (hq : ∀ τ, ButL (fun a => a = o + 1) σ τ → SS τ o (fun s => S s || T s) → Q τ) : wp_X7_putAll o p σ Q := by
  obtain ⟨o1, o2, o3, o4⟩ := ho
  obtain ⟨p1, p2, p3, p4⟩ := hp
  intro L2 h2
  refine up_loopS (I := fun w τ => WL σ o w (fun s => S s || T s) τ) 4 ?_ ?_ 0 σ (by decide) WL.st
  · intro w τ hw hI nx
    apply h2
    rw [o1, o2, o3, o4, p1, p2, p3, p4]
    simp only [onB, cond_true]
    simp +decide (disch := omega) only [lit, lit_neg, i_add, i_mul, i_sub, i_div, i_and, i_or, i_shl1, Nat.one_mul, i_shr1, i_bit1, i_lt, i_eq, i_in, i_cl, i_0, gI_sI, bi_0n, bi_1n, nz_bi, nz_0n, nz_1n, vn_0n, vn_1n, vn_bi, and_true, true_and, not_false_eq_true, not_true_eq_false, false_implies, true_implies, forall_const, implies_true, ite_true, ite_false, Bool.not_eq_true, Bool.not_eq_false, and_false, false_and, if_true, if_false, if_pos, true_or, or_true, false_or, or_false, hw]
    refine nx _ (hI.put (fun i hi => ?_))
    rw [lb_or, hI.rd, hI.rd, ss_bit hS hw hi, ss_bit hT hw hi]
  · intro τ hI
    apply h2
    simp +decide (disch := omega) only [lit, lit_neg, i_add, i_mul, i_sub, i_div, i_and, i_or, i_shl1, Nat.one_mul, i_shr1, i_bit1, i_lt, i_eq, i_in, i_cl, i_0, gI_sI, bi_0n, bi_1n, nz_bi, nz_0n, nz_1n, vn_0n, vn_1n, vn_bi, and_true, true_and, not_false_eq_true, not_true_eq_false, false_implies, true_implies, forall_const, implies_true, ite_true, ite_false, Bool.not_eq_true, Bool.not_eq_false, and_false, false_and, if_true, if_false, if_pos, true_or, or_true, false_or, or_false, show ¬ 4 < 4 by omega]
    exact hq τ hI.1 hI.ss
theorem ss_dropAll {σ : Sg} {o p : Nat} {S T : Nat → Bool} {Q : Sg → Prop} (ho : IsSS o) (hp : IsSS p) (hS : SS σ o S) (hT : SS σ p T) (hq : ∀ τ, ButL (fun a => a = o + 1) σ τ → SS τ o (fun s => S s && !T s) → Q τ) : wp_X7_dropAll o p σ Q := by
  obtain ⟨o1, o2, o3, o4⟩ := ho
  obtain ⟨p1, p2, p3, p4⟩ := hp
  intro L2 h2
  refine up_loopS (I := fun w τ => WL σ o w (fun s => S s && !T s) τ) 4 ?_ ?_ 0 σ (by decide) WL.st
  · intro w τ hw hI nx
    apply h2
    rw [o1, o2, o3, o4, p1, p2, p3, p4]
    simp only [onB, cond_true]
    simp +decide (disch := omega) only [lit, lit_neg, i_add, i_mul, i_sub, i_div, i_and, i_or, i_shl1, Nat.one_mul, i_shr1, i_bit1, i_lt, i_eq, i_in, i_cl, i_0, gI_sI, bi_0n, bi_1n, nz_bi, nz_0n, nz_1n, vn_0n, vn_1n, vn_bi, and_true, true_and, not_false_eq_true, not_true_eq_false, false_implies, true_implies, forall_const, implies_true, ite_true, ite_false, Bool.not_eq_true, Bool.not_eq_false, and_false, false_and, if_true, if_false, if_pos, true_or, or_true, false_or, or_false, hw]
    refine nx _ (hI.put (fun i hi => ?_))
    rw [lb_and, lb_not _ hi, hI.rd, hI.rd, ss_bit hS hw hi, ss_bit hT hw hi]
  · intro τ hI
    apply h2
    simp +decide (disch := omega) only [lit, lit_neg, i_add, i_mul, i_sub, i_div, i_and, i_or, i_shl1, Nat.one_mul, i_shr1, i_bit1, i_lt, i_eq, i_in, i_cl, i_0, gI_sI, bi_0n, bi_1n, nz_bi, nz_0n, nz_1n, vn_0n, vn_1n, vn_bi, and_true, true_and, not_false_eq_true, not_true_eq_false, false_implies, true_implies, forall_const, implies_true, ite_true, ite_false, Bool.not_eq_true, Bool.not_eq_false, and_false, false_and, if_true, if_false, if_pos, true_or, or_true, false_or, or_false, show ¬ 4 < 4 by omega]
    exact hq τ hI.1 hI.ss
theorem ss_becomeCube {σ : Sg} {o m v : Nat} {Q : Sg → Prop} (ho : IsSS o) (hm : m < 256) (hv : v &&& m = v) (hq : ∀ τ, ButL (fun a => a = o + 1) σ τ → SS τ o (fun s => inCubeB s m v) → Q τ) : wp_X7_becomeCube o (nI (cb m v)) σ Q := by
  have hv2 : v < 256 := and_eq_le hv hm
  obtain ⟨o1, o2, o3, o4⟩ := ho
  intro L2 h2
  refine ss_maskOf hm hv2 (ss_valuesOf hv2 ?_)
  refine up_loopS (L := fun w τ => L2 (nI m) (nI v) w τ) (I := fun w τ => WL σ o w (fun s => inCubeB s m v) τ) 4 ?_ ?_ 0 σ (by decide) WL.st
  · intro w τ hw hI nx
    apply h2
    rw [o1, o2, o3, o4]
    simp only [onB, cond_true]
    simp +decide (disch := omega) only [lit, lit_neg, i_add, i_mul, i_sub, i_div, i_and, i_or, i_shl1, Nat.one_mul, i_shr1, i_bit1, i_lt, i_eq, i_in, i_cl, i_0, gI_sI, bi_0n, bi_1n, nz_bi, nz_0n, nz_1n, vn_0n, vn_1n, vn_bi, and_true, true_and, not_false_eq_true, not_true_eq_false, false_implies, true_implies, forall_const, implies_true, ite_true, ite_false, Bool.not_eq_true, Bool.not_eq_false, and_false, false_and, if_true, if_false, if_pos, true_or, or_true, false_or, or_false, hw]
    exact ss_word hm hv hw (fun x hx => nx _ (hI.put hx))
  · intro τ hI
    apply h2
    simp +decide (disch := omega) only [lit, lit_neg, i_add, i_mul, i_sub, i_div, i_and, i_or, i_shl1, Nat.one_mul, i_shr1, i_bit1, i_lt, i_eq, i_in, i_cl, i_0, gI_sI, bi_0n, bi_1n, nz_bi, nz_0n, nz_1n, vn_0n, vn_1n, vn_bi, and_true, true_and, not_false_eq_true, not_true_eq_false, false_implies, true_implies, forall_const, implies_true, ite_true, ite_false, Bool.not_eq_true, Bool.not_eq_false, and_false, false_and, if_true, if_false, if_pos, true_or, or_true, false_or, or_false, show ¬ 4 < 4 by omega]
    exact hq τ hI.1 hI.ss
theorem ss_dropCube {σ : Sg} {o m v : Nat} {S : Nat → Bool} {Q : Sg → Prop} (ho : IsSS o) (hm : m < 256) (hv : v &&& m = v) (hS : SS σ o S) (hq : ∀ τ, ButL (fun a => a = o + 1) σ τ → SS τ o (fun s => S s && !inCubeB s m v) → Q τ) : wp_X7_dropCube o (nI (cb m v)) σ Q := by
  have hv2 : v < 256 := and_eq_le hv hm
  obtain ⟨o1, o2, o3, o4⟩ := ho
  intro L2 h2
  refine ss_maskOf hm hv2 (ss_valuesOf hv2 ?_)
  refine up_loopS (L := fun w τ => L2 (nI m) (nI v) w τ) (I := fun w τ => WL σ o w (fun s => S s && !inCubeB s m v) τ) 4 ?_ ?_ 0 σ (by decide) WL.st
  · intro w τ hw hI nx
    apply h2
    rw [o1, o2, o3, o4]
    simp only [onB, cond_true]
    simp +decide (disch := omega) only [lit, lit_neg, i_add, i_mul, i_sub, i_div, i_and, i_or, i_shl1, Nat.one_mul, i_shr1, i_bit1, i_lt, i_eq, i_in, i_cl, i_0, gI_sI, bi_0n, bi_1n, nz_bi, nz_0n, nz_1n, vn_0n, vn_1n, vn_bi, and_true, true_and, not_false_eq_true, not_true_eq_false, false_implies, true_implies, forall_const, implies_true, ite_true, ite_false, Bool.not_eq_true, Bool.not_eq_false, and_false, false_and, if_true, if_false, if_pos, true_or, or_true, false_or, or_false, hw]
    exact ss_word hm hv hw (fun x hx => nx _ (hI.put (fun i hi => by rw [lb_and, lb_not _ hi, hI.rd, hx i hi, ss_bit hS hw hi])))
  · intro τ hI
    apply h2
    simp +decide (disch := omega) only [lit, lit_neg, i_add, i_mul, i_sub, i_div, i_and, i_or, i_shl1, Nat.one_mul, i_shr1, i_bit1, i_lt, i_eq, i_in, i_cl, i_0, gI_sI, bi_0n, bi_1n, nz_bi, nz_0n, nz_1n, vn_0n, vn_1n, vn_bi, and_true, true_and, not_false_eq_true, not_true_eq_false, false_implies, true_implies, forall_const, implies_true, ite_true, ite_false, Bool.not_eq_true, Bool.not_eq_false, and_false, false_and, if_true, if_false, if_pos, true_or, or_true, false_or, or_false, show ¬ 4 < 4 by omega]
    exact hq τ hI.1 hI.ss
theorem word_any {x : Int64} {F : Nat → Bool} (h : ∀ i, i < 64 → lb x i = anyN 4 (fun k => F (64 * k + i))) : (lg_cmp x (0 : Int64) = 0) = (anyN 256 F = false) := by
  rw [propext (lg_cmp_eq _ _)]
  refine propext ⟨fun e => anyN_f.mpr (fun s hs => ?_), fun e => lb_ext (fun i hi => ?_)⟩
  · have := h (s % 64) (by omega)
    rw [e, lb_0] at this
    have := anyN_f.mp this.symm (s / 64) (by omega)
    rw [show 64 * (s / 64) + s % 64 = s by omega] at this
    exact this
  · rw [h i hi, lb_0, anyN_f]
    intro k hk
    exact anyN_f.mp e _ (by omega)
theorem ss_meets {σ : Sg} {o p : Nat} {S T : Nat → Bool} {Q : Int32 → Prop} (ho : IsSS o) (hp : IsSS p) (hS : SS σ o S) (hT : SS σ p T) (hq : Q (bi (anyN 256 (fun s => S s && T s)))) : wp_X7_meets o p σ Q := by
  obtain ⟨o1, o2, o3, o4⟩ := ho
  obtain ⟨p1, p2, p3, p4⟩ := hp
  intro L2 h2
  refine up_loopS (L := fun w x => L2 x w) (I := fun w x => ∀ i, i < 64 → lb x i = anyN w (fun k => (fun s => S s && T s) (64 * k + i))) 4 ?_ ?_ 0 _ (by decide) (fun i _ => lb_0 i)
  · intro w x hw hI nx
    apply h2
    rw [o1, o2, o3, o4, p1, p2, p3, p4]
    simp only [onB, cond_true]
    simp +decide (disch := omega) only [lit, lit_neg, i_add, i_mul, i_sub, i_div, i_and, i_or, i_shl1, Nat.one_mul, i_shr1, i_bit1, i_lt, i_eq, i_in, i_cl, i_0, gI_sI, bi_0n, bi_1n, nz_bi, nz_0n, nz_1n, vn_0n, vn_1n, vn_bi, and_true, true_and, not_false_eq_true, not_true_eq_false, false_implies, true_implies, forall_const, implies_true, ite_true, ite_false, Bool.not_eq_true, Bool.not_eq_false, and_false, false_and, if_true, if_false, if_pos, true_or, or_true, false_or, or_false, hw]
    refine nx _ (fun i hi => ?_)
    rw [lb_or, lb_and, hI i hi, ss_bit hS hw hi, ss_bit hT hw hi]
    rfl
  · intro x hI
    apply h2
    rw [word_any (F := fun s => S s && T s) hI]
    simp +decide (disch := omega) only [lit, lit_neg, i_add, i_mul, i_sub, i_div, i_and, i_or, i_shl1, Nat.one_mul, i_shr1, i_bit1, i_lt, i_eq, i_in, i_cl, i_0, gI_sI, bi_0n, bi_1n, nz_bi, nz_0n, nz_1n, vn_0n, vn_1n, vn_bi, and_true, true_and, not_false_eq_true, not_true_eq_false, false_implies, true_implies, forall_const, implies_true, ite_true, ite_false, Bool.not_eq_true, Bool.not_eq_false, and_false, false_and, if_true, if_false, if_pos, true_or, or_true, false_or, or_false, show ¬ 4 < 4 by omega]
    exact ⟨fun e => by rw [e] at hq; exact hq, fun e => by rw [e] at hq; exact hq⟩
theorem ss_meetsCube {σ : Sg} {o m v : Nat} {S : Nat → Bool} {Q : Int32 → Prop} (ho : IsSS o) (hm : m < 256) (hv : v &&& m = v) (hS : SS σ o S) (hq : Q (bi (anyN 256 (fun s => S s && inCubeB s m v)))) : wp_X7_meetsCube o (nI (cb m v)) σ Q := by
  have hv2 : v < 256 := and_eq_le hv hm
  obtain ⟨o1, o2, o3, o4⟩ := ho
  intro L2 h2
  refine ss_maskOf hm hv2 (ss_valuesOf hv2 ?_)
  refine up_loopS (L := fun w x => L2 (nI m) (nI v) x w) (I := fun w x => ∀ i, i < 64 → lb x i = anyN w (fun k => (fun s => S s && inCubeB s m v) (64 * k + i))) 4 ?_ ?_ 0 _ (by decide) (fun i _ => lb_0 i)
  · intro w x hw hI nx
    apply h2
    rw [o1, o2, o3, o4]
    simp only [onB, cond_true]
    simp +decide (disch := omega) only [lit, lit_neg, i_add, i_mul, i_sub, i_div, i_and, i_or, i_shl1, Nat.one_mul, i_shr1, i_bit1, i_lt, i_eq, i_in, i_cl, i_0, gI_sI, bi_0n, bi_1n, nz_bi, nz_0n, nz_1n, vn_0n, vn_1n, vn_bi, and_true, true_and, not_false_eq_true, not_true_eq_false, false_implies, true_implies, forall_const, implies_true, ite_true, ite_false, Bool.not_eq_true, Bool.not_eq_false, and_false, false_and, if_true, if_false, if_pos, true_or, or_true, false_or, or_false, hw]
    refine ss_word hm hv hw (fun y hy => nx _ (fun i hi => ?_))
    rw [lb_or, lb_and, hI i hi, ss_bit hS hw hi, hy i hi]
    rfl
  · intro x hI
    apply h2
    rw [word_any (F := fun s => S s && inCubeB s m v) hI]
    simp +decide (disch := omega) only [lit, lit_neg, i_add, i_mul, i_sub, i_div, i_and, i_or, i_shl1, Nat.one_mul, i_shr1, i_bit1, i_lt, i_eq, i_in, i_cl, i_0, gI_sI, bi_0n, bi_1n, nz_bi, nz_0n, nz_1n, vn_0n, vn_1n, vn_bi, and_true, true_and, not_false_eq_true, not_true_eq_false, false_implies, true_implies, forall_const, implies_true, ite_true, ite_false, Bool.not_eq_true, Bool.not_eq_false, and_false, false_and, if_true, if_false, if_pos, true_or, or_true, false_or, or_false, show ¬ 4 < 4 by omega]
    exact ⟨fun e => by rw [e] at hq; exact hq, fun e => by rw [e] at hq; exact hq⟩
theorem ss_inside {σ : Sg} {o p : Nat} {S T : Nat → Bool} {Q : Int32 → Prop} (ho : IsSS o) (hp : IsSS p) (hS : SS σ o S) (hT : SS σ p T) (hq : Q (bi (!anyN 256 (fun s => S s && !T s)))) : wp_X7_isInside o p σ Q := by
  obtain ⟨o1, o2, o3, o4⟩ := ho
  obtain ⟨p1, p2, p3, p4⟩ := hp
  intro L2 h2
  refine up_loopS (L := fun w x => L2 x w) (I := fun w x => ∀ i, i < 64 → lb x i = anyN w (fun k => (fun s => S s && !T s) (64 * k + i))) 4 ?_ ?_ 0 _ (by decide) (fun i _ => lb_0 i)
  · intro w x hw hI nx
    apply h2
    rw [o1, o2, o3, o4, p1, p2, p3, p4]
    simp only [onB, cond_true]
    simp +decide (disch := omega) only [lit, lit_neg, i_add, i_mul, i_sub, i_div, i_and, i_or, i_shl1, Nat.one_mul, i_shr1, i_bit1, i_lt, i_eq, i_in, i_cl, i_0, gI_sI, bi_0n, bi_1n, nz_bi, nz_0n, nz_1n, vn_0n, vn_1n, vn_bi, and_true, true_and, not_false_eq_true, not_true_eq_false, false_implies, true_implies, forall_const, implies_true, ite_true, ite_false, Bool.not_eq_true, Bool.not_eq_false, and_false, false_and, if_true, if_false, if_pos, true_or, or_true, false_or, or_false, hw]
    refine nx _ (fun i hi => ?_)
    rw [lb_or, lb_and, lb_not _ hi, hI i hi, ss_bit hS hw hi, ss_bit hT hw hi]
    rfl
  · intro x hI
    apply h2
    rw [word_any (F := fun s => S s && !T s) hI]
    simp +decide (disch := omega) only [lit, lit_neg, i_add, i_mul, i_sub, i_div, i_and, i_or, i_shl1, Nat.one_mul, i_shr1, i_bit1, i_lt, i_eq, i_in, i_cl, i_0, gI_sI, bi_0n, bi_1n, nz_bi, nz_0n, nz_1n, vn_0n, vn_1n, vn_bi, and_true, true_and, not_false_eq_true, not_true_eq_false, false_implies, true_implies, forall_const, implies_true, ite_true, ite_false, Bool.not_eq_true, Bool.not_eq_false, and_false, false_and, if_true, if_false, if_pos, true_or, or_true, false_or, or_false, show ¬ 4 < 4 by omega]
    exact ⟨fun e => by rw [e] at hq; exact hq, fun e => by rw [e] at hq; exact hq⟩
theorem ss_leastCommon {σ : Sg} {o p : Nat} {S T : Nat → Bool} {Q : Int32 → Prop} (ho : IsSS o) (hp : IsSS p) (hS : SS σ o S) (hT : SS σ p T) (hq : Q (e1 (lst 256 (fun s => S s && T s)))) : wp_X7_leastCommon o p σ Q := by
  intro L2 h2
  refine up_loop (I := fun i => ∀ s, s < i → (fun s => S s && T s) s = false) 256 ?_ ?_ 0 (by decide) (fun s hs => absurd hs (by omega))
  · intro i hi hI nx
    have nx' : (S i && T i) = false → L2 (nI (i + 1)) := fun h => nx (fun s hs => by
      by_cases e : s = i
      · rw [e]; exact h
      · exact hI s (by omega))
    apply h2
    rw [ho.1, hp.1]
    simp only [onB, cond_true]
    simp +decide (disch := omega) only [lit, lit_neg, i_add, i_mul, i_sub, i_div, i_and, i_or, i_shl1, Nat.one_mul, i_shr1, i_bit1, i_lt, i_eq, i_in, i_cl, i_0, gI_sI, bi_0n, bi_1n, nz_bi, nz_0n, nz_1n, vn_0n, vn_1n, vn_bi, and_true, true_and, not_false_eq_true, not_true_eq_false, false_implies, true_implies, forall_const, implies_true, ite_true, ite_false, Bool.not_eq_true, Bool.not_eq_false, and_false, false_and, if_true, if_false, if_pos, true_or, or_true, false_or, or_false, hi]
    refine ss_has ho hS hi ?_
    simp +decide (disch := omega) only [lit, lit_neg, i_add, i_mul, i_sub, i_div, i_and, i_or, i_shl1, Nat.one_mul, i_shr1, i_bit1, i_lt, i_eq, i_in, i_cl, i_0, gI_sI, bi_0n, bi_1n, nz_bi, nz_0n, nz_1n, vn_0n, vn_1n, vn_bi, and_true, true_and, not_false_eq_true, not_true_eq_false, false_implies, true_implies, forall_const, implies_true, ite_true, ite_false, Bool.not_eq_true, Bool.not_eq_false, and_false, false_and, if_true, if_false, if_pos, true_or, or_true, false_or, or_false]
    refine ⟨fun z => nx' (by rw [z]; rfl), fun z => ss_has hp hT hi ?_⟩
    simp +decide (disch := omega) only [lit, lit_neg, i_add, i_mul, i_sub, i_div, i_and, i_or, i_shl1, Nat.one_mul, i_shr1, i_bit1, i_lt, i_eq, i_in, i_cl, i_0, gI_sI, bi_0n, bi_1n, nz_bi, nz_0n, nz_1n, vn_0n, vn_1n, vn_bi, and_true, true_and, not_false_eq_true, not_true_eq_false, false_implies, true_implies, forall_const, implies_true, ite_true, ite_false, Bool.not_eq_true, Bool.not_eq_false, and_false, false_and, if_true, if_false, if_pos, true_or, or_true, false_or, or_false]
    refine ⟨fun z2 => nx' (by rw [z2, Bool.and_false]), fun z2 => ?_⟩
    rw [lst_some hi (show (S i && T i) = true by rw [z, z2]; rfl) hI, e1_s] at hq
    exact hq
  · intro hI
    apply h2
    simp +decide (disch := omega) only [lit, lit_neg, i_add, i_mul, i_sub, i_div, i_and, i_or, i_shl1, Nat.one_mul, i_shr1, i_bit1, i_lt, i_eq, i_in, i_cl, i_0, gI_sI, bi_0n, bi_1n, nz_bi, nz_0n, nz_1n, vn_0n, vn_1n, vn_bi, and_true, true_and, not_false_eq_true, not_true_eq_false, false_implies, true_implies, forall_const, implies_true, ite_true, ite_false, Bool.not_eq_true, Bool.not_eq_false, and_false, false_and, if_true, if_false, if_pos, true_or, or_true, false_or, or_false, show ¬ 256 < 256 by omega]
    rw [lst_none hI] at hq
    exact hq
theorem ss_leastOutside {σ : Sg} {o p : Nat} {S T : Nat → Bool} {Q : Int32 → Prop} (ho : IsSS o) (hp : IsSS p) (hS : SS σ o S) (hT : SS σ p T) (hq : Q (e1 (lst 256 (fun s => S s && !T s)))) : wp_X7_leastOutside o p σ Q := by
  intro L2 h2
  refine up_loop (I := fun i => ∀ s, s < i → (fun s => S s && !T s) s = false) 256 ?_ ?_ 0 (by decide) (fun s hs => absurd hs (by omega))
  · intro i hi hI nx
    have nx' : (S i && !T i) = false → L2 (nI (i + 1)) := fun h => nx (fun s hs => by
      by_cases e : s = i
      · rw [e]; exact h
      · exact hI s (by omega))
    apply h2
    rw [ho.1, hp.1]
    simp only [onB, cond_true]
    simp +decide (disch := omega) only [lit, lit_neg, i_add, i_mul, i_sub, i_div, i_and, i_or, i_shl1, Nat.one_mul, i_shr1, i_bit1, i_lt, i_eq, i_in, i_cl, i_0, gI_sI, bi_0n, bi_1n, nz_bi, nz_0n, nz_1n, vn_0n, vn_1n, vn_bi, and_true, true_and, not_false_eq_true, not_true_eq_false, false_implies, true_implies, forall_const, implies_true, ite_true, ite_false, Bool.not_eq_true, Bool.not_eq_false, and_false, false_and, if_true, if_false, if_pos, true_or, or_true, false_or, or_false, hi]
    refine ss_has ho hS hi ?_
    simp +decide (disch := omega) only [lit, lit_neg, i_add, i_mul, i_sub, i_div, i_and, i_or, i_shl1, Nat.one_mul, i_shr1, i_bit1, i_lt, i_eq, i_in, i_cl, i_0, gI_sI, bi_0n, bi_1n, nz_bi, nz_0n, nz_1n, vn_0n, vn_1n, vn_bi, and_true, true_and, not_false_eq_true, not_true_eq_false, false_implies, true_implies, forall_const, implies_true, ite_true, ite_false, Bool.not_eq_true, Bool.not_eq_false, and_false, false_and, if_true, if_false, if_pos, true_or, or_true, false_or, or_false]
    refine ⟨fun z => nx' (by rw [z]; rfl), fun z => ss_has hp hT hi ?_⟩
    simp +decide (disch := omega) only [lit, lit_neg, i_add, i_mul, i_sub, i_div, i_and, i_or, i_shl1, Nat.one_mul, i_shr1, i_bit1, i_lt, i_eq, i_in, i_cl, i_0, gI_sI, bi_0n, bi_1n, nz_bi, nz_0n, nz_1n, vn_0n, vn_1n, vn_bi, and_true, true_and, not_false_eq_true, not_true_eq_false, false_implies, true_implies, forall_const, implies_true, ite_true, ite_false, Bool.not_eq_true, Bool.not_eq_false, and_false, false_and, if_true, if_false, if_pos, true_or, or_true, false_or, or_false]
    refine ⟨fun z2 => ?_, fun z2 => nx' (by rw [z2]; simp)⟩
    rw [lst_some hi (show (S i && !T i) = true by rw [z, z2]; rfl) hI, e1_s] at hq
    exact hq
  · intro hI
    apply h2
    simp +decide (disch := omega) only [lit, lit_neg, i_add, i_mul, i_sub, i_div, i_and, i_or, i_shl1, Nat.one_mul, i_shr1, i_bit1, i_lt, i_eq, i_in, i_cl, i_0, gI_sI, bi_0n, bi_1n, nz_bi, nz_0n, nz_1n, vn_0n, vn_1n, vn_bi, and_true, true_and, not_false_eq_true, not_true_eq_false, false_implies, true_implies, forall_const, implies_true, ite_true, ite_false, Bool.not_eq_true, Bool.not_eq_false, and_false, false_and, if_true, if_false, if_pos, true_or, or_true, false_or, or_false, show ¬ 256 < 256 by omega]
    rw [lst_none hI] at hq
    exact hq
theorem xs_cubeOf {σ : Sg} {m v : Nat} {Q : Int32 → Prop} (hm : m < 256) (hv : v < 256) (hq : Q (nI (cb m v))) : wp_X9_cubeOf (nI m) (nI v) σ Q := by
  unfold wp_X9_cubeOf
  rw [show (8 : Int32) = nI 8 from rfl, i_shl (by decide) (by omega), i_or]
  have : m * 2 ^ 8 ||| v = cb m v := by
    rw [← Nat.shiftLeft_eq, ← Nat.shiftLeft_add_eq_or_of_lt (show v < 2 ^ 8 by omega), Nat.shiftLeft_eq]
    unfold cb
    omega
  rw [this]
  exact hq
theorem xs_inCube {σ : Sg} {s m v : Nat} {Q : Int32 → Prop} (hs : s < 65536) (hm : m < 256) (hv : v < 256) (hq : Q (bi (inCubeB s m v))) : wp_X9_isInCube (nI s) (nI (cb m v)) σ Q := by
  refine ss_maskOf hm hv (ss_valuesOf hv ?_)
  have : s &&& m < 256 := Nat.lt_of_le_of_lt Nat.and_le_right hm
  simp +decide (disch := omega) only [lit, lit_neg, i_add, i_mul, i_sub, i_div, i_and, i_or, i_shl1, Nat.one_mul, i_shr1, i_bit1, i_lt, i_eq, i_in, i_cl, i_0, gI_sI, bi_0n, bi_1n, nz_bi, nz_0n, nz_1n, vn_0n, vn_1n, vn_bi, and_true, true_and, not_false_eq_true, not_true_eq_false, false_implies, true_implies, forall_const, implies_true, ite_true, ite_false, Bool.not_eq_true, Bool.not_eq_false, and_false, false_and, if_true, if_false, if_pos, true_or, or_true, false_or, or_false]
  unfold inCubeB at hq
  exact ⟨fun e => by rw [decide_eq_true e] at hq; exact hq, fun e => by rw [decide_eq_false e] at hq; exact hq⟩
