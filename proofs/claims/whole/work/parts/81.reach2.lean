/-! the class: shortest, within, keeps -/
theorem XT.rh {M : Ms} {σ τ : Sg} (h : XT M σ) (hb : ButL rhT σ τ) (hN : nSt M ≤ 256) : XT M τ := h.kept hb (by unfold rhT; omega) (fun a _ _ _ => by unfold rhT; omega) hN
theorem RX.rh {M : Ms} {σ τ : Sg} (hW : WFm M) (h : RX M σ) (hb : ButL rhT σ τ) : RX M τ := h.work hW (hb.mono (U := wkT) (fun a z => by unfold rhT at z; unfold wkT; omega)).b2
theorem xs_reached {M : Ms} {σ : Sg} {x : Nat} {Q : Nat → Sg → Prop} (hW : WFm M) (hm : XMm M σ) (hX : XT M σ) (hx : x < 2147483648) (hq : ∀ τ, ButL rhT σ τ → SS τ 20 (rch M x) → Q 20 τ) : wp_X8_reached (nI x) σ Q := by
  have h256 := pow_le8 hW.2.1
  have hf := hW.2.2.2.2.2.1
  obtain ⟨e, he, hst⟩ := rch_stab hW
  intro L8 h8
  refine xs_begin hW hm (fun τ0 hb0 e20 e22 => ?_)
  have main : ∀ (f i : Nat) (b : Bool) (τ : Sg), i + f = min x 256 → ButL rhT σ τ → SS τ 20 (rch M i) → SS τ 22 (nwS M i) → (b = false → ∀ d, i ≤ d → ∀ s, rch M d s = rch M i s) → L8 (bi b) (nI i) τ := by
    intro f
    induction f with
    | zero =>
      intro i b τ hi hb h20 h22 hbs
      apply h8
      have fin : Q 20 τ := by
        refine hq τ hb (SS_congr h20 (fun s _ => ?_))
        by_cases z : x ≤ 256
        · rw [show i = x by omega]
        · rw [hst i (by omega), hst x (by omega)]
      rw [i_0, bi_0n]
      refine ⟨fun _ => fin, fun _ => ?_⟩
      rw [show (256 : Int32) = nI 256 from rfl, i_lt (by omega) hx, i_lt (by omega) (by decide)]
      refine ⟨fun z => ⟨fun z2 => absurd z2 (by omega), fun _ => fin⟩, fun _ => fin⟩
    | succ f ih =>
      intro i b τ hi hb h20 h22 hbs
      apply h8
      rw [i_0, bi_0n]
      refine ⟨fun z => hq τ hb (SS_congr h20 (fun s _ => (hbs z x (by omega) s).symm)), fun z => ?_⟩
      rw [show (256 : Int32) = nI 256 from rfl, i_lt (by omega) hx, i_lt (by omega) (by decide)]
      refine ⟨fun z => ⟨fun z2 => xs_reachOn hW (hm.keptL hb) (hX.rh hb h256) h20 h22 (fun υ hb2 g20 g22 => ?_), fun z2 => absurd (show i < 256 by omega) z2⟩, fun z => absurd (show i < x by omega) z⟩
      rw [show (1 : Int32) = nI 1 from rfl, i_add]
      refine ih (i + 1) _ υ (by omega) (hb.tr hb2) g20 g22 (fun z3 d hd s => ?_)
      have hfx : ∀ s, s < 2 ^ M 0 1 → rch M (i + 1) s = rch M i s := fun s hs => by
        have := anyN_f.mp z3 s (by omega)
        simp only [nwS] at this
        cases h1 : rch M (i + 1) s
        · cases h2 : rch M i s
          · rfl
          · rw [rch_mono M (Nat.le_succ i) h2] at h1; cases h1
        · cases h2 : rch M i s
          · rw [h1, h2] at this; cases this
          · rfl
      obtain ⟨k, rfl⟩ : ∃ k, d = i + k := ⟨d - i, by omega⟩
      rw [rch_fix hW hfx k s, ← rch_fix hW hfx 1 s]
  exact main (min x 256) 0 true τ0 (by omega) hb0 e20 e22 (fun z => by cases z)
theorem xs_fewest {M : Ms} {σ : Sg} {Q : Int32 → Sg → Prop} (hW : WFm M) (hm : XMm M σ) (hX : XT M σ) (hq : ∀ τ, ButL rhT σ τ → Q (e1 (lst (2 ^ M 0 1 + 1) (fun d => anyN (2 ^ M 0 1) (fun s => rch M d s && isBadS M s)))) τ) : wp_X8_fewestToBad σ Q := by
  have h256 := pow_le8 hW.2.1
  have hf := hW.2.2.2.2.2.1
  obtain ⟨e, he, hst⟩ := rch_stab hW
  intro L6 h6
  refine xs_begin hW hm (fun τ0 hb0 e20 e22 => ?_)
  have meet : ∀ i, (∀ d, d < i → anyN (2 ^ M 0 1) (fun s => rch M d s && isBadS M s) = false) → anyN 256 (fun s => nwS M i s && (decide (s < nSt M) && isBadS M s)) = anyN (2 ^ M 0 1) (fun s => rch M i s && isBadS M s) := by
    intro i hI
    rw [anyN_cut h256 (fun s hs => by rw [decide_eq_false (show ¬ s < nSt M by unfold nSt; omega)]; simp)]
    refine anyN_congr (fun s hs => ?_)
    rw [decide_eq_true (show s < nSt M from hs), Bool.true_and]
    cases i with
    | zero => rfl
    | succ i =>
      show ((rch M (i + 1) s && !rch M i s) && isBadS M s) = _
      have := anyN_f.mp (hI i (by omega)) s hs
      cases h1 : isBadS M s
      · simp
      · rw [h1, Bool.and_true] at this
        rw [this]; simp
  have main : ∀ (f i : Nat) (τ : Sg), i + f = 256 → ButL rhT σ τ → SS τ 20 (rch M i) → SS τ 22 (nwS M i) → (∀ d, d < i → anyN (2 ^ M 0 1) (fun s => rch M d s && isBadS M s) = false) → L6 (nI i) τ := by
    intro f
    induction f with
    | zero =>
      intro i τ hi hb h20 h22 hI
      apply h6
      rw [show (256 : Int32) = nI 256 from rfl, i_lt (by omega) (by decide)]
      refine ⟨fun z => absurd z (by omega), fun _ => ?_⟩
      have := hq τ hb
      rw [lst_none (fun d hd => ?_)] at this
      · exact this
      · by_cases z : d < i
        · exact hI d z
        · have := hI e (by omega)
          rw [← this]
          exact anyN_congr (fun s _ => by rw [hst d (by omega)])
    | succ f ih =>
      intro i τ hi hb h20 h22 hI
      have hXt := hX.rh hb h256
      apply h6
      rw [show (256 : Int32) = nI 256 from rfl, i_lt (by omega) (by decide)]
      refine ⟨fun _ => ?_, fun z => absurd (show i < 256 by omega) z⟩
      refine ss_meets ss_22 ss_18 h22 hXt.1 ?_
      rw [meet i hI, i_0, bi_0n]
      refine ⟨fun z => ?_, fun z => ?_⟩
      · refine xs_reachOn hW (hm.keptL hb) hXt h20 h22 (fun υ hb2 g20 g22 => ?_)
        have hI2 : ∀ d, d < i + 1 → anyN (2 ^ M 0 1) (fun s => rch M d s && isBadS M s) = false := fun d hd => by
          by_cases q : d = i
          · rw [q]; exact z
          · exact hI d (by omega)
        rw [bi_0n, show (1 : Int32) = nI 1 from rfl, i_add]
        refine ⟨fun z3 => ?_, fun _ => ih (i + 1) υ (by omega) (hb.tr hb2) g20 g22 hI2⟩
        have hfx : ∀ s, s < 2 ^ M 0 1 → rch M (i + 1) s = rch M i s := fun s hs => by
          have := anyN_f.mp z3 s (by omega)
          simp only [nwS] at this
          cases h1 : rch M (i + 1) s
          · cases h2 : rch M i s
            · rfl
            · rw [rch_mono M (Nat.le_succ i) h2] at h1; cases h1
          · cases h2 : rch M i s
            · rw [h1, h2] at this; cases this
            · rfl
        have := hq υ (hb.tr hb2)
        rw [lst_none (fun d hd => ?_)] at this
        · exact this
        · by_cases q : d < i + 1
          · exact hI2 d q
          · obtain ⟨k, rfl⟩ : ∃ k, d = i + k := ⟨d - i, by omega⟩
            rw [← z]
            exact anyN_congr (fun s _ => by rw [rch_fix hW hfx k s])
      · have z : anyN (2 ^ M 0 1) (fun s => rch M i s && isBadS M s) = true := by simpa using z
        have hle : i < 2 ^ M 0 1 + 1 := by
          refine Nat.lt_of_not_le fun hn => ?_
          have := hI e (by omega)
          have e2 : anyN (2 ^ M 0 1) (fun s => rch M i s && isBadS M s) = anyN (2 ^ M 0 1) (fun s => rch M e s && isBadS M s) := anyN_congr (fun s _ => by rw [hst i (by omega)])
          rw [← e2, z] at this
          cases this
        have := hq τ hb
        rw [lst_some hle z hI, e1_s] at this
        exact this
  exact main 256 0 τ0 (by omega) hb0 e20 e22 (fun d hd => absurd hd (by omega))
theorem xp_shortest {M : Ms} {σ : Sg} {Q : Int32 → Sg → Prop} (hW : WFm M) (h : RX M σ) (hq : XDoes (op_shortest M) Q) : wp_X9_shortest σ Q := by
  unfold wp_X9_shortest
  refine h.renew hW (fun τ hR hT _ => xs_fewest hW hR.1 hT (fun υ hb => hq υ (hR.rh hW hb)))
theorem xp_within {M : Ms} {σ : Sg} {x : Int32} {Q : Int32 → Sg → Prop} (hW : WFm M) (h : RX M σ) (hq : XDoes (op_within x M) Q) : wp_X9_within x σ Q := by
  have h256 := pow_le8 hW.2.1
  unfold op_within at hq
  unfold wp_X9_within
  rw [i_0, lt0_toInt]
  refine ⟨fun z => ?_, fun z => ?_⟩
  · rw [if_pos z] at hq
    exact xs_refuse hW h (by decide) (by decide) hq
  · rw [if_neg z] at hq
    obtain ⟨n, hn, rfl⟩ := i_dec (x := x) (by rw [i_0, lt0_toInt]; exact z)
    rw [cn_nI hn] at hq
    refine h.renew hW (fun τ hR hT _ => xs_reached hW hR.1 hT hn (fun υ hb hs => ?_))
    rw [ss_20.1]
    simp only [onB, cond_true]
    refine ss_howMany ss_20 hs ?_
    rw [cntB_cut h256 (fun s hs => by
      cases h1 : rch M n s
      · rfl
      · have := rch_lt hW n s h1; omega)]
    have := hq υ (hR.rh hW hb)
    rw [cntB_congr (fun s _ => rc_x hW n s)] at this
    exact this
theorem xp_keeps {M : Ms} {σ : Sg} {x : Int32} {Q : Int32 → Sg → Prop} (hW : WFm M) (h : RX M σ) (hq : XDoes (op_keeps x M) Q) : wp_X9_keeps x σ Q := by
  have h256 := pow_le8 hW.2.1
  unfold op_keeps at hq
  refine xs_isLater ?_
  simp +decide (disch := omega) only [lit, lit_neg, i_add, i_mul, i_sub, i_div, i_and, i_or, i_shl1, Nat.one_mul, i_shr1, i_bit1, i_lt, i_eq, i_in, i_cl, i_0, gI_sI, bi_0n, bi_1n, nz_bi, nz_0n, nz_1n, vn_0n, vn_1n, vn_bi, and_true, true_and, not_false_eq_true, not_true_eq_false, false_implies, true_implies, forall_const, implies_true, ite_true, ite_false, Bool.not_eq_true, Bool.not_eq_false, and_false, false_and, if_true, if_false, if_pos, true_or, or_true, false_or, or_false, neg_lit]
  refine ⟨fun z => ?_, fun z => ?_⟩
  · rw [if_pos z] at hq
    exact xs_refuse hW h (by decide) (by decide) hq
  · rw [if_neg (by rw [z]; decide)] at hq
    obtain ⟨k, k1, k2, rfl⟩ := isFr_t z
    rw [cn_nI (by omega)] at hq
    refine h.renew hW (fun τ hR hT _ => xs_reached hW hR.1 hT (by omega) (fun υ hb hs => ?_))
    have hR2 := hR.rh hW hb
    have hcl := cl_later k1 k2
    refine xs_frame k2 ?_
    rw [hcl.1, hcl.2.2.1, ss_20.1]
    simp only [onB, cond_true]
    refine ss_inside ss_20 hcl.2.2.2.2.2.2.1 hs (hR2.2.2.1.2.2.2 k k2) ?_
    have e : (!anyN 256 (fun s => rch M k s && !frL M k s)) = allN (2 ^ M 0 1) (fun s => !rc M k s || inFrB M k s) := by
      rw [anyN_cut h256 (fun s hs => by
        cases h1 : rch M k s
        · rfl
        · have := rch_lt hW k s h1; omega)]
      cases h1 : allN (2 ^ M 0 1) (fun s => !rc M k s || inFrB M k s)
      · obtain ⟨s, hs, h2⟩ := allN_f.mp h1
        rw [rc_x hW] at h2
        simp only [Bool.or_eq_false_iff, Bool.not_eq_false'] at h2
        have : anyN (2 ^ M 0 1) (fun s => rch M k s && !frL M k s) = true := anyN_iff.mpr ⟨s, hs, by unfold frL; rw [h2.1, h2.2]; simp⟩
        rw [this]; rfl
      · have : anyN (2 ^ M 0 1) (fun s => rch M k s && !frL M k s) = false := anyN_f.mpr (fun s hs => by
          have h2 := allN_iff.mp h1 s hs
          rw [rc_x hW] at h2
          unfold frL
          rw [decide_eq_true (show s < nSt M from hs), Bool.true_and]
          cases h3 : rch M k s
          · rfl
          · rw [h3] at h2
            simp only [Bool.not_true, Bool.false_or] at h2
            rw [h2]; rfl)
        rw [this]; rfl
    rw [e]
    have hq2 := hq υ hR2
    simp +decide (disch := omega) only [lit, lit_neg, i_add, i_mul, i_sub, i_div, i_and, i_or, i_shl1, Nat.one_mul, i_shr1, i_bit1, i_lt, i_eq, i_in, i_cl, i_0, gI_sI, bi_0n, bi_1n, nz_bi, nz_0n, nz_1n, vn_0n, vn_1n, vn_bi, and_true, true_and, not_false_eq_true, not_true_eq_false, false_implies, true_implies, forall_const, implies_true, ite_true, ite_false, Bool.not_eq_true, Bool.not_eq_false, and_false, false_and, if_true, if_false, if_pos, true_or, or_true, false_or, or_false]
    refine ⟨fun z => ?_, fun z => ?_⟩
    · rw [z] at hq2; exact hq2
    · rw [z] at hq2; exact hq2
