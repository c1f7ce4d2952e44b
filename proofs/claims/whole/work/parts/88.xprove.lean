/-! the class: proving, its state -/
def xpS (a _k : Nat) : Prop := 1064 ≤ a ∧ a ≤ 1166
def xpT (a : Nat) : Prop := a = 1061 ∨ (1063 ≤ a ∧ a ≤ 1163)
def XI (M0 : Ms) (σ : Sg) (M : Ms) (τ : Sg) : Prop := agM M0 M ∧ But2 xpS xpT σ τ ∧ XFr M τ ∧ XPr M τ ∧ WFp M
def XB (M0 : Ms) (σ : Sg) : Prop := WFm M0 ∧ XMm M0 σ ∧ XT M0 σ
theorem XI.wf {M0 M : Ms} {σ τ : Sg} (h : XI M0 σ M τ) (h0 : XB M0 σ) : WFm M := WFm_ag h.1.m (h.1 0 7 (by simp [prM])) h0.1
theorem XI.mm {M0 M : Ms} {σ τ : Sg} (h : XI M0 σ M τ) (h0 : XB M0 σ) : XMm M τ := XMm_ag h.1.m (h0.2.1.kept h.2.1.1 (fun a k z => by simp only [inXm] at z; unfold xpS; omega))
theorem XI.t {M0 M : Ms} {σ τ : Sg} (h : XI M0 σ M τ) (h0 : XB M0 σ) : XT M τ := XT_ag h.1.m (h0.2.2.kept2 h.2.1 (fun a z => by unfold xpT; omega) (pow_le8 h0.1.2.1))
theorem XI.fr {M0 M : Ms} {σ τ : Sg} (h : XI M0 σ M τ) {k : Nat} (hk : k ≤ 24) : SS τ (1064 + 4 * k + 1) (frL M k) := h.2.2.1.2.2.2 k hk
theorem XI.cw {M0 M : Ms} {σ τ : Sg} (h : XI M0 σ M τ) (h0 : XB M0 σ) {k : Nat} (hk : k ≤ 24) : CW (M 9 k) (M (100 + k)) (M (200 + k)) := fun i hi => by
  have := (h.2.2.2.2.2.2.1 k hk).2 i hi
  have h8 := pow_le8 (h.wf h0).2.1
  exact ⟨by omega, this.2⟩
theorem XI.work {M0 M : Ms} {σ τ υ : Sg} {T : Nat → Prop} (h : XI M0 σ M τ) (hb : ButL T τ υ) (ht : ∀ a, T a → a = 1061 ∨ a = 1063) : XI M0 σ M υ := by
  obtain ⟨a, b, c, d, e⟩ := h
  exact ⟨a, b.tr (hb.mono (U := xpT) (fun a z => by have := ht a z; unfold xpT; omega)).b2, c.kept (S := fun _ _ => False) hb.b2 (fun _ _ _ _ z => z) (fun a z z2 w => by have := ht a w; have := hb; omega), d.kept (S := fun _ _ => False) hb.b2 (fun _ _ _ _ z => z), e⟩
theorem XI_up {M0 M : Ms} {σ τ : Sg} {j f v : Nat} (h : XI M0 σ M τ) (hjf : (j = 8 ∧ f = 7) ∨ (j = 9 ∧ f = 6) ∨ (j = 10 ∧ f = 8) ∨ (j = 11 ∧ f = 5) ∨ (j = 12 ∧ f = 9)) (hv : j = 11 → v ≤ M 0 11) (hw : WFp (up M 0 j v)) : XI M0 σ (up M 0 j v) (sI τ 1164 f (nI v)) := by
  obtain ⟨ha, hb, hF, hP, -⟩ := h
  have q : ∀ a k, a ≠ 0 → up M 0 j v a k = M a k := fun a k z => up_ne _ _ _ _ _ _ (by omega)
  have hag : agm M (up M 0 j v) := agm_up (Or.inl ⟨rfl, by omega⟩)
  have hbu : But2 (fun a _ => a = 1164) (fun _ => False) τ (sI τ 1164 f (nI v)) := But2.rf.up rfl
  refine ⟨ha.up (by unfold prM; omega), hb.up (by unfold xpS; omega), ?_, ?_, hw⟩
  · have := hF.kept hbu (fun a k z1 z2 => by omega) (fun a _ _ z => z)
    exact XFr_ag hag (fun k => q _ _ (by omega)) (fun a k z => q _ _ (by omega)) this
  · obtain ⟨p5, p6, p7, p8, p9, pa⟩ := hP
    refine ⟨?_, ?_, ?_, ?_, ?_, fun i hi => ?_⟩
    · rw [gI_sI, up_at]
      rcases hjf with ⟨rfl, rfl⟩ | ⟨rfl, rfl⟩ | ⟨rfl, rfl⟩ | ⟨rfl, rfl⟩ | ⟨rfl, rfl⟩ <;> simp [p5]
    · rw [gI_sI, up_at]
      rcases hjf with ⟨rfl, rfl⟩ | ⟨rfl, rfl⟩ | ⟨rfl, rfl⟩ | ⟨rfl, rfl⟩ | ⟨rfl, rfl⟩ <;> simp [p6]
    · rw [gI_sI, up_at]
      rcases hjf with ⟨rfl, rfl⟩ | ⟨rfl, rfl⟩ | ⟨rfl, rfl⟩ | ⟨rfl, rfl⟩ | ⟨rfl, rfl⟩ <;> simp [p7]
    · rw [gI_sI, up_at]
      rcases hjf with ⟨rfl, rfl⟩ | ⟨rfl, rfl⟩ | ⟨rfl, rfl⟩ | ⟨rfl, rfl⟩ | ⟨rfl, rfl⟩ <;> simp [p8]
    · rw [gI_sI, up_at]
      rcases hjf with ⟨rfl, rfl⟩ | ⟨rfl, rfl⟩ | ⟨rfl, rfl⟩ | ⟨rfl, rfl⟩ | ⟨rfl, rfl⟩ <;> simp [p9]
    · rw [q 10 i (by omega), q 11 i (by omega), gI_sI, if_neg (by omega), gI_sI, if_neg (by omega)]
      refine pa i ?_
      rw [up_at] at hi
      by_cases e : j = 11
      · rw [if_pos ⟨rfl, e.symm⟩] at hi; have := hv e; omega
      · rw [if_neg (by omega)] at hi; exact hi
theorem xs_meet {M0 M : Ms} {σ τ : Sg} {s k : Nat} {Q : Sg → Prop} (h : XI M0 σ M τ) (he : M 0 9 = 0) (hN : 1 ≤ M 0 8) (hs : s < 2 ^ M 0 1) (hk : k + M 0 11 ≤ M 0 8) (hq : ∀ υ, XI M0 σ (meetM M s k) υ → Q υ) : wp_X4_addTrouble (nI s) (nI k) τ Q := by
  obtain ⟨ha, hb, hF, hP, hw⟩ := h
  have h23 := hw.1
  obtain ⟨p5, p6, p7, p8, p9, pa⟩ := hP
  unfold wp_X4_addTrouble
  rw [p5]
  simp +decide (disch := omega) only [lit, lit_neg, i_add, i_mul, i_sub, i_div, i_and, i_or, i_shl1, Nat.one_mul, i_shr1, i_bit1, i_lt, i_eq, i_in, i_cl, i_0, gI_sI, bi_0n, bi_1n, nz_bi, nz_0n, nz_1n, vn_0n, vn_1n, vn_bi, and_true, true_and, not_false_eq_true, not_true_eq_false, false_implies, true_implies, forall_const, implies_true, ite_true, ite_false, Bool.not_eq_true, Bool.not_eq_false, and_false, false_and, if_true, if_false, if_pos, true_or, or_true, false_or, or_false, show M 0 11 < 25 by omega, p5]
  have key : XI M0 σ (meetM M s k) (sI (sI (sI τ 1165 (M 0 11) (nI s)) 1166 (M 0 11) (nI k)) 1164 5 (nI (M 0 11 + 1))) := by
    have hbu : But2 (fun a _ => 1164 ≤ a ∧ a ≤ 1166) (fun _ => False) τ (sI (sI (sI τ 1165 (M 0 11) (nI s)) 1166 (M 0 11) (nI k)) 1164 5 (nI (M 0 11 + 1))) := ((But2.rf.up (by omega)).up (by omega)).up (by omega)
    have hm := meetM_ag M s k
    refine ⟨ha.tr hm, hb.tr (hbu.mono (fun a _ z => by unfold xpS; omega) (fun _ z => z.elim)), ?_, ⟨?_, ?_, ?_, ?_, ?_, fun i hi => ?_⟩, WFp_meet hw he hN hs hk⟩
    · have := hF.kept hbu (fun a k z1 z2 => by omega) (fun a _ _ z => z)
      exact XFr_ag hm.m (fun j => meetM_ne _ _ _ _ _ (by omega) (by omega) (by omega)) (fun a j z => meetM_ne _ _ _ _ _ (by omega) (by omega) (by omega)) this
    · show _ = nI (M 0 11 + 1); simp [gI_sI]
    · rw [meetM_ne _ _ _ _ _ (by omega) (by omega) (by omega)]; simp [gI_sI, p6]
    · rw [meetM_ne _ _ _ _ _ (by omega) (by omega) (by omega)]; simp [gI_sI, p7]
    · rw [meetM_ne _ _ _ _ _ (by omega) (by omega) (by omega)]; simp [gI_sI, p8]
    · rw [meetM_ne _ _ _ _ _ (by omega) (by omega) (by omega)]; simp [gI_sI, p9]
    · have hi : i < M 0 11 + 1 := hi
      rw [meetM_at, meetM_at]
      simp only [gI_sI]
      by_cases e : i = M 0 11
      · subst e; simp
      · simp [e]; exact pa i (by omega)
  refine ⟨by omega, fun _ => ?_⟩
  exact hq _ key
/-- a clause more in a frame -/
theorem frL_keep {M : Ms} {k m v : Nat} (hk : 1 ≤ k) (hk2 : k ≤ 24) (j s : Nat) (hj : j ≤ 24) : frL (keepM M k m v) j s = if j = k then frL M k s && !inCubeB s m v else frL M j s := by
  unfold frL
  rw [nSt_ag (keepM_ag M k m v).m]
  by_cases e : j = k
  · subst e
    rw [if_pos rfl, Bool.and_assoc]
    congr 1
    unfold inFrB
    rw [if_neg (by omega), if_neg (by omega), keepM_9, if_pos rfl]
    simp only [anyN]
    rw [keepM_at, if_neg (by omega), if_neg (by omega), if_pos ⟨rfl, rfl⟩, keepM_at, if_neg (by omega), if_pos ⟨rfl, rfl⟩]
    have : anyN (M 9 j) (fun i => inCubeB s (keepM M j m v (100 + j) i) (keepM M j m v (200 + j) i)) = anyN (M 9 j) (fun i => inCubeB s (M (100 + j) i) (M (200 + j) i)) := anyN_congr (fun i hi => by
      rw [keepM_ne _ _ _ _ _ _ (by omega) (by omega) (by omega), keepM_ne _ _ _ _ _ _ (by omega) (by omega) (by omega)])
    rw [this]
    cases anyN (M 9 j) (fun i => inCubeB s (M (100 + j) i) (M (200 + j) i)) <;> cases inCubeB s m v <;> rfl
  · rw [if_neg e]
    congr 1
    unfold inFrB
    rw [keepM_0, keepM_9, if_neg e]
    by_cases z : j = 0
    · rw [if_pos z, if_pos z]
    · rw [if_neg z, if_neg z]
      congr 1
      exact anyN_congr (fun i hi => by
        rw [keepM_ne _ _ _ _ _ _ (by omega) (by omega) (by omega), keepM_ne _ _ _ _ _ _ (by omega) (by omega) (by omega)])
theorem XI_keep {M0 M : Ms} {σ τ υ : Sg} {k m v : Nat} (h : XI M0 σ M τ) (he : M 0 9 ≠ 1) (hk1 : 1 ≤ k) (hk : k ≤ 24) (hc : M 9 k < 200) (hm : m < 2 ^ M 0 1) (hv : v &&& m = v) (hb : CB (1064 + 4 * k) τ υ)
    (hr : CLr υ (1064 + 4 * k) (nSt M) (M 9 k + 1) (fun i => if i = M 9 k then m else M (100 + k) i) (fun i => if i = M 9 k then v else M (200 + k) i)) (hs : SS υ (1064 + 4 * k + 1) (fun s => frL M k s && !inCubeB s m v)) : XI M0 σ (keepM M k m v) υ := by
  obtain ⟨ha, hb0, ⟨f0, f1, f2, f3⟩, hP, hw⟩ := h
  have hag := keepM_ag M k m v
  have eN : nSt (keepM M k m v) = nSt M := nSt_ag hag.m
  refine ⟨ha.tr hag, hb0.tr (hb.mono (fun a j z => by unfold CS at z; unfold xpS; omega) (fun a z => by unfold CT at z; unfold xpT; omega)), ⟨?_, ?_, fun j j1 j2 => ?_, fun j hj => ?_⟩, ?_, WFp_keep hw he hk hc hm hv⟩
  · rw [hb.1 _ _ (by unfold CS; omega)]; exact f0
  · rw [hb.1 _ _ (by unfold CS; omega), eN]; exact f1
  · rw [eN, keepM_9]
    by_cases e : j = k
    · subst e
      rw [if_pos rfl]
      refine CLr_ext hr (fun i hi => ⟨?_, ?_⟩)
      · rw [keepM_at, if_neg (by omega), if_neg (by omega)]
        by_cases z : i = M 9 j
        · rw [if_pos ⟨rfl, z⟩, if_pos z]
        · rw [if_neg (by omega), if_neg z]
      · rw [keepM_at, if_neg (by omega)]
        by_cases z : i = M 9 j
        · rw [if_pos ⟨rfl, z⟩, if_pos z]
        · rw [if_neg (by omega), if_neg (by omega), if_neg z]
    · rw [if_neg e]
      refine CLr_ext ((f2 j j1 j2).kept hb (fun a i z => by unfold CS at *; omega)) (fun i hi => ⟨?_, ?_⟩)
      · rw [keepM_ne _ _ _ _ _ _ (by omega) (by omega) (by omega)]
      · rw [keepM_ne _ _ _ _ _ _ (by omega) (by omega) (by omega)]
  · by_cases e : j = k
    · subst e
      exact SS_congr hs (fun s _ => by rw [frL_keep hk1 hk _ _ hj, if_pos rfl])
    · exact SS_congr ((f3 j hj).kept2 hb (by unfold CT; omega)) (fun s _ => by rw [frL_keep hk1 hk _ _ hj, if_neg e])
  · have := hP.kept hb (fun a j z1 z2 => by unfold CS; omega)
    exact XPr_ag (fun j _ _ => keepM_0 _ _ _ _ _) (fun a j z1 z2 => keepM_lo _ _ _ _ _ _ (by omega) (by omega)) this
theorem xs_keep {M0 M : Ms} {σ τ : Sg} {k m v : Nat} {Q : Int32 → Sg → Prop} (h : XI M0 σ M τ) (h0 : XB M0 σ) (he : M 0 9 ≠ 1) (hk1 : 1 ≤ k) (hk : k ≤ 24) (hc : M 9 k < 200) (hm : m < 2 ^ M 0 1) (hv : v &&& m = v) (hq : ∀ υ, XI M0 σ (keepM M k m v) υ → CB (1064 + 4 * k) τ υ → Q (nI 1) υ) : wp_X0_put (1064 + 4 * k) (nI (cb m v)) τ Q := by
  have h8 := pow_le8 (h.wf h0).2.1
  refine cl_put (cl_later hk1 hk) (h.2.2.1.2.2.1 k hk1 hk) (h.fr hk) hc (by omega) hv (fun υ hb hr hs => hq υ (XI_keep h he hk1 hk hc hm hv hb hr hs) hb)
/-- a clause in all frames up to one -/
theorem keepTo_9 {M : Ms} {m v i j : Nat} (hi : i ≤ 24) (hj : i < j) : keepTo M m v i 9 j = M 9 j := by
  rw [(keepTo_0 M m v i hi).2 j, if_neg (by omega)]
theorem xs_putUpTo {M0 M : Ms} {σ τ : Sg} {k m v : Nat} {Q : Int32 → Sg → Prop} (h : XI M0 σ M τ) (h0 : XB M0 σ) (he : M 0 9 = 0) (hk : k ≤ 24) (hm : m < 2 ^ M 0 1) (hv : v &&& m = v) (hq1 : allN k (fun i => decide (M 9 (i + 1) < 200)) = true → ∀ υ, XI M0 σ (keepTo M m v k) υ → Q (nI 1) υ) (hq0 : allN k (fun i => decide (M 9 (i + 1) < 200)) = false → Q (nI 0) τ) : wp_X1_putUpTo (nI k) (nI (cb m v)) τ Q := by
  intro L2 L35 h2 h35
  refine up_loop (L := fun i => L2 i τ) (I := fun i => 1 ≤ i ∧ allN (i - 1) (fun i => decide (M 9 (i + 1) < 200)) = true) (k + 1) ?_ ?_ 1 (by omega) ⟨by omega, rfl⟩
  · intro i hi ⟨hi1, hI⟩ nx
    apply h2
    have hcl := cl_later hi1 (show i ≤ 24 by omega)
    simp +decide (disch := omega) only [lit, lit_neg, i_add, i_mul, i_sub, i_div, i_and, i_or, i_shl1, Nat.one_mul, i_shr1, i_bit1, i_lt, i_eq, i_in, i_cl, i_0, gI_sI, bi_0n, bi_1n, nz_bi, nz_0n, nz_1n, vn_0n, vn_1n, vn_bi, and_true, true_and, not_false_eq_true, not_true_eq_false, false_implies, true_implies, forall_const, implies_true, ite_true, ite_false, Bool.not_eq_true, Bool.not_eq_false, and_false, false_and, if_true, if_false, if_pos, true_or, or_true, false_or, or_false, show ¬ k < i by omega, show ¬ 24 < i by omega, show i < 25 by omega]
    rw [wr_all i (by omega), hcl.1]
    simp only [onB, cond_true]
    have hf := (h.2.2.2.2.2.2.1 i (by omega)).1
    refine cl_isFull hcl (h.2.2.1.2.2.1 i hi1 (by omega)).1 hf ?_
    cases e : decide (M 9 i < 200)
    · refine ⟨fun z => absurd z (by decide), fun _ => ?_⟩
      refine hq0 (allN_f.mpr ⟨i - 1, by omega, ?_⟩)
      rw [show i - 1 + 1 = i by omega]; exact e
    · refine ⟨fun _ => nx ⟨by omega, ?_⟩, fun z => absurd rfl z⟩
      obtain ⟨l, rfl⟩ : ∃ l, i = l + 1 := ⟨i - 1, by omega⟩
      rw [show l + 1 + 1 - 1 = l + 1 by omega]
      simp only [allN]
      rw [show l + 1 - 1 = l by omega] at hI
      rw [hI, e]; rfl
  · intro ⟨_, hI⟩
    rw [show k + 1 - 1 = k by omega] at hI
    have hall : ∀ j, 1 ≤ j → j ≤ k → M 9 j < 200 := fun j j1 j2 => by
      have := allN_iff.mp hI (j - 1) (by omega)
      rw [show j - 1 + 1 = j by omega] at this
      exact of_decide_eq_true this
    apply h2
    simp +decide (disch := omega) only [lit, lit_neg, i_add, i_mul, i_sub, i_div, i_and, i_or, i_shl1, Nat.one_mul, i_shr1, i_bit1, i_lt, i_eq, i_in, i_cl, i_0, gI_sI, bi_0n, bi_1n, nz_bi, nz_0n, nz_1n, vn_0n, vn_1n, vn_bi, and_true, true_and, not_false_eq_true, not_true_eq_false, false_implies, true_implies, forall_const, implies_true, ite_true, ite_false, Bool.not_eq_true, Bool.not_eq_false, and_false, false_and, if_true, if_false, if_pos, true_or, or_true, false_or, or_false, show k < k + 1 by omega]
    refine up_loopS (L := L35) (I := fun i υ => 1 ≤ i ∧ XI M0 σ (keepTo M m v (i - 1)) υ) (k + 1) ?_ ?_ 1 τ (by omega) ⟨by omega, h⟩
    · intro i υ hi ⟨hi1, hX⟩ nx
      apply h35
      have hcl := cl_later hi1 (show i ≤ 24 by omega)
      simp +decide (disch := omega) only [lit, lit_neg, i_add, i_mul, i_sub, i_div, i_and, i_or, i_shl1, Nat.one_mul, i_shr1, i_bit1, i_lt, i_eq, i_in, i_cl, i_0, gI_sI, bi_0n, bi_1n, nz_bi, nz_0n, nz_1n, vn_0n, vn_1n, vn_bi, and_true, true_and, not_false_eq_true, not_true_eq_false, false_implies, true_implies, forall_const, implies_true, ite_true, ite_false, Bool.not_eq_true, Bool.not_eq_false, and_false, false_and, if_true, if_false, if_pos, true_or, or_true, false_or, or_false, show ¬ k < i by omega, show ¬ 24 < i by omega, show i < 25 by omega]
      rw [wr_all i (by omega), hcl.1]
      simp only [onB, cond_true]
      have hk0 := keepTo_0 M m v (i - 1) (by omega)
      refine xs_keep hX h0 (by rw [hk0.1]; omega) hi1 (by omega) (by rw [keepTo_9 (by omega) (by omega)]; exact hall i hi1 (by omega)) (by rw [hk0.1]; exact hm) hv (fun ω hω _ => nx ω ⟨by omega, ?_⟩)
      obtain ⟨l, rfl⟩ : ∃ l, i = l + 1 := ⟨i - 1, by omega⟩
      rw [show l + 1 - 1 = l by omega] at hω
      rw [show l + 1 + 1 - 1 = l + 1 by omega]
      exact hω
    · intro υ ⟨_, hX⟩
      rw [show k + 1 - 1 = k by omega] at hX
      apply h35
      simp +decide (disch := omega) only [lit, lit_neg, i_add, i_mul, i_sub, i_div, i_and, i_or, i_shl1, Nat.one_mul, i_shr1, i_bit1, i_lt, i_eq, i_in, i_cl, i_0, gI_sI, bi_0n, bi_1n, nz_bi, nz_0n, nz_1n, vn_0n, vn_1n, vn_bi, and_true, true_and, not_false_eq_true, not_true_eq_false, false_implies, true_implies, forall_const, implies_true, ite_true, ite_false, Bool.not_eq_true, Bool.not_eq_false, and_false, false_and, if_true, if_false, if_pos, true_or, or_true, false_or, or_false, show k < k + 1 by omega]
      exact hq1 hI υ hX
