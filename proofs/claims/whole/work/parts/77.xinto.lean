/-! the class: what leads into a cube; cubes made wider; ask, widen -/
theorem ldInto_any {M : Ms} (hW : WFm M) (s m v : Nat) : anyN 256 (fun t => ldsB M s t && inCubeB t m v) = ldIntoB M s m v := by
  have h256 := pow_le8 hW.2.1
  cases h : ldIntoB M s m v
  · refine anyN_f.mpr (fun t _ => ?_)
    cases h1 : ldsB M s t
    · rfl
    · cases h2 : inCubeB t m v
      · rfl
      · obtain ⟨c, hc, hc2⟩ := anyN_iff.mp h1
        simp only [Bool.and_eq_true, decide_eq_true_eq] at hc2
        have := anyN_f.mp h c hc
        rw [hc2.1, hc2.2, h2] at this
        exact absurd this (by decide)
  · obtain ⟨c, hc, hc2⟩ := anyN_iff.mp h
    simp only [Bool.and_eq_true] at hc2
    have hn := nxtN_lt M s c
    refine anyN_iff.mpr ⟨nxtN M s c, by omega, ?_⟩
    rw [hc2.2, Bool.and_true]
    exact anyN_iff.mpr ⟨c, hc, by rw [hc2.1, decide_eq_true rfl]; rfl⟩
theorem xs_leastInto {M : Ms} {σ : Sg} {k m v : Nat} {Q : Int32 → Sg → Prop} (hW : WFm M) (hm : XMm M σ) (hT : XT M σ) (hF : SS σ (1064 + 4 * k + 1) (frL M k)) (hk : k ≤ 24) (h2 : m < 256) (hv : v &&& m = v) (hq : ∀ τ, ButL (fun a => a = 1061) σ τ → Q (e1 (askN M k m v)) τ) : wp_X1_leastInto (nI k) (nI (cb m v)) σ Q := by
  have h256 := pow_le8 hW.2.1
  have v256 := and_eq_le hv h2
  intro L20 h20
  refine xs_frame hk ?_
  have hcl := cl_frame (k := k) (by omega)
  rw [hcl.1, hcl.2.2.1]
  simp only [onB, cond_true]
  refine ss_becomeCube ss_1060 h2 hv (fun τ hb hs => ?_)
  have hmT := hm.keptL hb
  have hF2 := hF.kept hb (by omega)
  refine up_loop (L := fun i => L20 (1064 + 4 * k + 1) i τ) (I := fun i => ∀ s, s < i → (!inCubeB s m v && (inFrB M k s && ldIntoB M s m v)) = false) (2 ^ M 0 1) ?_ ?_ 0 (Nat.zero_le _) (fun s hs => absurd hs (by omega))
  · intro i hi hI nx
    have nx' : (!inCubeB i m v && (inFrB M k i && ldIntoB M i m v)) = false → L20 (1064 + 4 * k + 1) (nI (i + 1)) τ := fun h => nx (fun s hs => by
      by_cases e : s = i
      · rw [e]; exact h
      · exact hI s (by omega))
    apply h20
    refine xs_states hW hmT ?_
    simp +decide (disch := omega) only [lit, lit_neg, i_add, i_mul, i_sub, i_div, i_and, i_or, i_shl1, Nat.one_mul, i_shr1, i_bit1, i_lt, i_eq, i_in, i_cl, i_0, gI_sI, bi_0n, bi_1n, nz_bi, nz_0n, nz_1n, vn_0n, vn_1n, vn_bi, and_true, true_and, not_false_eq_true, not_true_eq_false, false_implies, true_implies, forall_const, implies_true, ite_true, ite_false, Bool.not_eq_true, Bool.not_eq_false, and_false, false_and, if_true, if_false, if_pos, true_or, or_true, false_or, or_false, hi]
    rw [hcl.2.2.2.2.2.2.1.1]
    simp only [onB, cond_true]
    refine ss_has hcl.2.2.2.2.2.2.1 hF2 (by omega) ?_
    have ef : frL M k i = inFrB M k i := by unfold frL; rw [decide_eq_true (show i < nSt M from hi)]; rfl
    rw [ef]
    simp +decide (disch := omega) only [lit, lit_neg, i_add, i_mul, i_sub, i_div, i_and, i_or, i_shl1, Nat.one_mul, i_shr1, i_bit1, i_lt, i_eq, i_in, i_cl, i_0, gI_sI, bi_0n, bi_1n, nz_bi, nz_0n, nz_1n, vn_0n, vn_1n, vn_bi, and_true, true_and, not_false_eq_true, not_true_eq_false, false_implies, true_implies, forall_const, implies_true, ite_true, ite_false, Bool.not_eq_true, Bool.not_eq_false, and_false, false_and, if_true, if_false, if_pos, true_or, or_true, false_or, or_false]
    refine ⟨fun z => nx' (by rw [z]; simp), fun z => xs_inCube (by omega) h2 v256 ?_⟩
    simp +decide (disch := omega) only [lit, lit_neg, i_add, i_mul, i_sub, i_div, i_and, i_or, i_shl1, Nat.one_mul, i_shr1, i_bit1, i_lt, i_eq, i_in, i_cl, i_0, gI_sI, bi_0n, bi_1n, nz_bi, nz_0n, nz_1n, vn_0n, vn_1n, vn_bi, and_true, true_and, not_false_eq_true, not_true_eq_false, false_implies, true_implies, forall_const, implies_true, ite_true, ite_false, Bool.not_eq_true, Bool.not_eq_false, and_false, false_and, if_true, if_false, if_pos, true_or, or_true, false_or, or_false]
    refine ⟨fun z2 => xs_from (by omega) ?_, fun z2 => nx' (by rw [z2]; rfl)⟩
    rw [(ss_goes (show i < 256 by omega)).1]
    simp only [onB, cond_true]
    refine ss_meets (ss_goes (by omega)) ss_1060 ((hT.2 i hi).kept hb (by omega)) hs ?_
    rw [ldInto_any hW]
    simp +decide (disch := omega) only [lit, lit_neg, i_add, i_mul, i_sub, i_div, i_and, i_or, i_shl1, Nat.one_mul, i_shr1, i_bit1, i_lt, i_eq, i_in, i_cl, i_0, gI_sI, bi_0n, bi_1n, nz_bi, nz_0n, nz_1n, vn_0n, vn_1n, vn_bi, and_true, true_and, not_false_eq_true, not_true_eq_false, false_implies, true_implies, forall_const, implies_true, ite_true, ite_false, Bool.not_eq_true, Bool.not_eq_false, and_false, false_and, if_true, if_false, if_pos, true_or, or_true, false_or, or_false]
    refine ⟨fun z3 => nx' (by rw [z3]; simp), fun z3 => ?_⟩
    have := hq τ hb
    rw [show askN M k m v = i + 1 from lst_some hi (by rw [z, z2, z3]; rfl) hI, e1_s] at this
    exact this
  · intro hI
    apply h20
    refine xs_states hW hmT ?_
    simp +decide (disch := omega) only [lit, lit_neg, i_add, i_mul, i_sub, i_div, i_and, i_or, i_shl1, Nat.one_mul, i_shr1, i_bit1, i_lt, i_eq, i_in, i_cl, i_0, gI_sI, bi_0n, bi_1n, nz_bi, nz_0n, nz_1n, vn_0n, vn_1n, vn_bi, and_true, true_and, not_false_eq_true, not_true_eq_false, false_implies, true_implies, forall_const, implies_true, ite_true, ite_false, Bool.not_eq_true, Bool.not_eq_false, and_false, false_and, if_true, if_false, if_pos, true_or, or_true, false_or, or_false, Nat.lt_irrefl]
    have := hq τ hb
    rw [show askN M k m v = 0 from lst_none hI] at this
    exact this
theorem XT.kept {M : Ms} {σ τ : Sg} {T : Nat → Prop} (h : XT M σ) (hb : ButL T σ τ) (h1 : ¬ T 19) (h2 : ∀ a, 31 ≤ a → a ≤ 1051 → a % 4 = 3 → ¬ T a) (hN : nSt M ≤ 256) : XT M τ :=
  ⟨h.1.kept hb h1, fun s hs => (h.2 s hs).kept hb (h2 _ (by omega) (by omega) (by omega))⟩
theorem e1_m1 {n : Nat} (h : n < 2147483648) : (e1 n = e1 0) = (n = 0) := by
  refine propext ⟨fun e => ?_, fun e => by rw [e]⟩
  rcases Nat.eq_zero_or_pos n with z | z
  · exact z
  · rw [e1_p z] at e
    have := congrArg Int32.toInt e
    rw [i_toInt (by omega), e1_0] at this
    have h2 : (-1 : Int32).toInt = -1 := rfl
    omega
theorem and_pow (w b : Nat) : (w &&& 2 ^ b = 0) = (w.testBit b = false) := by
  refine propext ⟨fun h => ?_, fun h => nat_bits (fun i => ?_)⟩
  · have := congrArg (fun n => n.testBit b) h
    simpa [Nat.testBit_and, Nat.testBit_two_pow_self] using this
  · rw [Nat.testBit_and, Nat.zero_testBit, Nat.testBit_two_pow]
    by_cases e : b = i
    · subst e; simp [h]
    · simp [e]
theorem andn_pow (w b : Nat) : (andn w (2 ^ b) = w) = (w.testBit b = false) := by
  refine propext ⟨fun h => ?_, fun h => nat_bits (fun i => ?_)⟩
  · have := congrArg (fun n => n.testBit b) h
    simp only [andn_bit, Nat.testBit_two_pow_self, Bool.not_true, Bool.and_false] at this
    exact this.symm
  · rw [andn_bit, Nat.testBit_two_pow]
    by_cases e : b = i
    · subst e; simp [h]
    · simp [e]
theorem and_andn (v w b : Nat) : andn (v &&& w) b = v &&& andn w b := by
  apply nat_bits
  intro i
  rw [andn_bit, Nat.testBit_and, Nat.testBit_and, andn_bit, Bool.and_assoc]
theorem and_self_r (v w : Nat) : (v &&& w) &&& w = v &&& w := by
  apply nat_bits
  intro i
  rw [Nat.testBit_and, Nat.testBit_and]
  cases v.testBit i <;> cases w.testBit i <;> rfl
theorem xs_widened {M : Ms} {σ : Sg} {k m v : Nat} {Q : Int32 → Sg → Prop} (hW : WFm M) (hm : XMm M σ) (hT : XT M σ) (hF : SS σ (1064 + 4 * (k - 1) + 1) (frL M (k - 1))) (hk1 : 1 ≤ k) (hk : k ≤ 24) (h2 : m < 2 ^ M 0 1) (hv : v &&& m = v) (hq : ∀ τ, ButL (fun a => a = 1061) σ τ → Q (nI (cb (widN M k m v (M 0 1)) (v &&& widN M k m v (M 0 1)))) τ) : wp_X1_widened (nI k) (nI (cb m v)) σ Q := by
  have h256 := pow_le8 hW.2.1
  have h8 := hW.2.1
  have hfi := hW.2.2.2.2.2.1
  intro L5 h5
  refine up_loopS (α := Int32 × Sg) (L := fun i p => L5 p.1 i p.2) (I := fun i p => p.1 = nI (cb (widN M k m v i) (v &&& widN M k m v i)) ∧ ButL (fun a => a = 1061) σ p.2) (M 0 1) ?_ ?_ 0 (_, _) (Nat.zero_le _) ⟨by show nI (cb m v) = nI (cb m (v &&& m)); rw [hv], ButL.rf⟩
  · rintro i ⟨x, τ⟩ hi ⟨hx, hb⟩ nx
    have hx : x = nI (cb (widN M k m v i) (v &&& widN M k m v i)) := hx
    have hb : ButL (fun a => a = 1061) σ τ := hb
    subst hx
    have nx' : ∀ y τ', y = nI (cb (widN M k m v (i + 1)) (v &&& widN M k m v (i + 1))) → ButL (fun a => a = 1061) σ τ' → L5 y (nI (i + 1)) τ' := fun y τ' h1 h2 => nx (y, τ') ⟨h1, h2⟩
    clear nx
    have hw : widN M k m v i < 256 := Nat.lt_of_lt_of_le (widN_lt h2 i) h256
    have e1' : widN M k m v (i + 1) = if andn (widN M k m v i) (2 ^ i) ≠ widN M k m v i ∧ inCubeB (M 0 3) (andn (widN M k m v i) (2 ^ i)) (v &&& andn (widN M k m v i) (2 ^ i)) = false ∧ askN M (k - 1) (andn (widN M k m v i) (2 ^ i)) (v &&& andn (widN M k m v i) (2 ^ i)) = 0 then andn (widN M k m v i) (2 ^ i) else widN M k m v i := rfl
    rw [e1'] at nx'
    clear e1'
    generalize widN M k m v i = w at *
    have hvw : v &&& w < 256 := and_eq_le (and_self_r v w) hw
    have hwb : w &&& 2 ^ i < 2147483648 := Nat.lt_of_le_of_lt Nat.and_le_left (by omega)
    have hmT := hm.keptL hb
    apply h5
    rw [hmT.2.2.1]
    simp +decide (disch := omega) only [lit, lit_neg, i_add, i_mul, i_sub, i_div, i_and, i_or, i_shl1, Nat.one_mul, i_shr1, i_bit1, i_lt, i_eq, i_in, i_cl, i_0, gI_sI, bi_0n, bi_1n, nz_bi, nz_0n, nz_1n, vn_0n, vn_1n, vn_bi, and_true, true_and, not_false_eq_true, not_true_eq_false, false_implies, true_implies, forall_const, implies_true, ite_true, ite_false, Bool.not_eq_true, Bool.not_eq_false, and_false, false_and, if_true, if_false, if_pos, true_or, or_true, false_or, or_false, hi, show i < 32 by omega]
    refine ss_maskOf hw hvw ?_
    rw [i_1shl1 (show i < 32 by omega)]
    simp +decide (disch := omega) only [lit, lit_neg, i_add, i_mul, i_sub, i_div, i_and, i_or, i_shl1, Nat.one_mul, i_shr1, i_bit1, i_lt, i_eq, i_in, i_cl, i_0, gI_sI, bi_0n, bi_1n, nz_bi, nz_0n, nz_1n, vn_0n, vn_1n, vn_bi, and_true, true_and, not_false_eq_true, not_true_eq_false, false_implies, true_implies, forall_const, implies_true, ite_true, ite_false, Bool.not_eq_true, Bool.not_eq_false, and_false, false_and, if_true, if_false, if_pos, true_or, or_true, false_or, or_false, and_pow]
    refine ⟨fun z => nx' _ τ (by rw [if_neg (fun q => q.1 (by rw [andn_pow]; exact z))]) hb, fun z => ?_⟩
    refine ss_maskOf hw hvw (ss_valuesOf hvw ?_)
    rw [i_andn, i_andn, and_andn]
    have ha : andn w (2 ^ i) < 256 := andn_lt (n := 8) hw
    have hva : v &&& andn w (2 ^ i) < 256 := and_eq_le (and_self_r _ _) ha
    have hne : andn w (2 ^ i) ≠ w := by rw [Ne, andn_pow, z]; decide
    refine xs_cubeOf ha hva ?_
    rw [hmT.2.2.2.2.1]
    refine xs_inCube (by omega) ha hva ?_
    simp +decide (disch := omega) only [lit, lit_neg, i_add, i_mul, i_sub, i_div, i_and, i_or, i_shl1, Nat.one_mul, i_shr1, i_bit1, i_lt, i_eq, i_in, i_cl, i_0, gI_sI, bi_0n, bi_1n, nz_bi, nz_0n, nz_1n, vn_0n, vn_1n, vn_bi, and_true, true_and, not_false_eq_true, not_true_eq_false, false_implies, true_implies, forall_const, implies_true, ite_true, ite_false, Bool.not_eq_true, Bool.not_eq_false, and_false, false_and, if_true, if_false, if_pos, true_or, or_true, false_or, or_false]
    refine ⟨fun z2 => ?_, fun z2 => nx' _ τ (by rw [if_neg (fun q => by rw [z2] at q; exact absurd q.2.1 (by decide))]) hb⟩
    refine xs_leastInto hW hmT (hT.kept hb (by omega) (fun a _ _ _ => by omega) h256) (hF.kept hb (by omega)) (by omega) ha (and_self_r _ _) (fun υ hb2 => ?_)
    have hal := askN_le M (k - 1) (andn w (2 ^ i)) (v &&& andn w (2 ^ i))
    rw [e1_m1 (by omega)]
    refine ⟨fun z3 => nx' _ υ (by rw [if_pos ⟨hne, z2, z3⟩]) (hb.tr hb2), fun z3 => nx' _ υ (by rw [if_neg (fun q => z3 q.2.2)]) (hb.tr hb2)⟩
  · rintro ⟨x, τ⟩ ⟨hx, hb⟩
    have hx : x = nI (cb (widN M k m v (M 0 1)) (v &&& widN M k m v (M 0 1))) := hx
    have hb : ButL (fun a => a = 1061) σ τ := hb
    subst hx
    apply h5
    rw [(hm.keptL hb).2.2.1]
    simp +decide (disch := omega) only [lit, lit_neg, i_add, i_mul, i_sub, i_div, i_and, i_or, i_shl1, Nat.one_mul, i_shr1, i_bit1, i_lt, i_eq, i_in, i_cl, i_0, gI_sI, bi_0n, bi_1n, nz_bi, nz_0n, nz_1n, vn_0n, vn_1n, vn_bi, and_true, true_and, not_false_eq_true, not_true_eq_false, false_implies, true_implies, forall_const, implies_true, ite_true, ite_false, Bool.not_eq_true, Bool.not_eq_false, and_false, false_and, if_true, if_false, if_pos, true_or, or_true, false_or, or_false, Nat.lt_irrefl]
    exact hq τ hb

theorem xs_canKeep {M : Ms} {σ : Sg} {k m v : Nat} {Q : Int32 → Sg → Prop} (hW : WFm M) (hm : XMm M σ) (hT : XT M σ) (hF : SS σ (1064 + 4 * (k - 1) + 1) (frL M (k - 1))) (hk1 : 1 ≤ k) (hk : k ≤ 24) (h2 : m < 256) (hv : v &&& m = v) (hq : ∀ τ, ButL (fun a => a = 1061) σ τ → Q (bi (!inCubeB (M 0 3) m v && decide (askN M (k - 1) m v = 0))) τ) : wp_X1_canKeepOut (nI k) (nI (cb m v)) σ Q := by
  have h256 := pow_le8 hW.2.1
  have hfi := hW.2.2.2.2.2.1
  have v256 := and_eq_le hv h2
  unfold wp_X1_canKeepOut
  rw [hm.2.2.2.2.1]
  refine xs_inCube (by omega) h2 v256 ?_
  simp +decide (disch := omega) only [lit, lit_neg, i_add, i_mul, i_sub, i_div, i_and, i_or, i_shl1, Nat.one_mul, i_shr1, i_bit1, i_lt, i_eq, i_in, i_cl, i_0, gI_sI, bi_0n, bi_1n, nz_bi, nz_0n, nz_1n, vn_0n, vn_1n, vn_bi, and_true, true_and, not_false_eq_true, not_true_eq_false, false_implies, true_implies, forall_const, implies_true, ite_true, ite_false, Bool.not_eq_true, Bool.not_eq_false, and_false, false_and, if_true, if_false, if_pos, true_or, or_true, false_or, or_false]
  refine ⟨fun z => xs_leastInto hW hm hT hF (by omega) h2 hv (fun υ hb => ?_), fun z => ?_⟩
  · have hal := askN_le M (k - 1) m v
    have := hq υ hb
    rw [e1_m1 (by omega)]
    refine ⟨fun z2 => ?_, fun z2 => ?_⟩
    · rw [z, decide_eq_true z2] at this; exact this
    · rw [z, decide_eq_false z2] at this; exact this
  · have := hq σ ButL.rf
    rw [z] at this; exact this
theorem RX.t1 {M : Ms} {σ τ : Sg} (hW : WFm M) (h : RX M σ) (hb : ButL (fun a => a = 1061) σ τ) : RX M τ := h.work hW (hb.mono (U := wkT) (fun a z => by unfold wkT; omega)).b2
theorem RX.fr {M : Ms} {σ : Sg} (h : RX M σ) {k : Nat} (hk : k ≤ 24) : SS σ (1064 + 4 * k + 1) (frL M k) := h.2.2.1.2.2.2 k hk
theorem xp_ask {M : Ms} {σ : Sg} {x y w : Int32} {Q : Int32 → Sg → Prop} (hW : WFm M) (h : RX M σ) (hq : XDoes (op_ask x y w M) Q) : wp_X9_ask x y w σ Q := by
  have h256 := pow_le8 hW.2.1
  unfold op_ask at hq
  unfold wp_X9_ask
  have common : inb x 25 = true → wp_X9_isCube y w σ (fun r1 => ((r1 = 0 → wp_X9_refuse (-7 : Int32) σ (fun r2 s3 => Q r2 s3)) ∧ (¬ r1 = 0 → wp_X8_renew σ (fun s4 => wp_X9_cubeOf y w s4 (fun r5 => wp_X1_leastInto x r5 s4 (fun r6 s7 => Q r6 s7)))))) := by
    intro hx
    rw [if_neg (by rw [hx]; decide)] at hq
    obtain ⟨k, hk, hk2, rfl⟩ := inb_t hx
    rw [cn_nI hk2] at hq
    refine xs_isCube hW h.1 ?_
    simp +decide (disch := omega) only [lit, lit_neg, i_add, i_mul, i_sub, i_div, i_and, i_or, i_shl1, Nat.one_mul, i_shr1, i_bit1, i_lt, i_eq, i_in, i_cl, i_0, gI_sI, bi_0n, bi_1n, nz_bi, nz_0n, nz_1n, vn_0n, vn_1n, vn_bi, and_true, true_and, not_false_eq_true, not_true_eq_false, false_implies, true_implies, forall_const, implies_true, ite_true, ite_false, Bool.not_eq_true, Bool.not_eq_false, and_false, false_and, if_true, if_false, if_pos, true_or, or_true, false_or, or_false, neg_lit]
    refine ⟨fun z => ?_, fun z => ?_⟩
    · rw [if_pos z] at hq
      exact xs_refuse hW h (by decide) (by decide) hq
    · rw [if_neg (by rw [z]; decide)] at hq
      obtain ⟨m, v, hm, rfl, rfl, hv⟩ := isCb_t hW.2.1 z
      have hv2 := and_eq_le hv hm
      rw [cn_nI (by omega), cn_nI (by omega)] at hq
      refine h.renew hW (fun τ hR hT _ => ?_)
      refine xs_cubeOf (by omega) (by omega) ?_
      exact xs_leastInto hW hR.1 hT (hR.fr (by omega)) (by omega) (by omega) hv (fun υ hb => hq υ (hR.t1 hW hb))
  refine ⟨fun z => common (by rw [z]; decide), fun z => xs_isLater ?_⟩
  have e : isFr x = inb x 25 := by
    unfold isFr inb
    have : x.toInt ≠ 0 := fun w => z (Int32.toInt_inj.mp (by rw [w]; rfl))
    by_cases q : 1 ≤ x.toInt ∧ x.toInt ≤ 24
    · rw [decide_eq_true q, decide_eq_true (by omega)]
    · rw [decide_eq_false q, decide_eq_false (by omega)]
  rw [e, i_0, bi_0n]
  refine ⟨fun z2 => ?_, fun z2 => common (by simpa using z2)⟩
  rw [if_pos z2] at hq
  exact xs_refuse hW h (by decide) (by decide) hq
theorem xp_widen {M : Ms} {σ : Sg} {x y w : Int32} {Q : Int32 → Sg → Prop} (hW : WFm M) (h : RX M σ) (hq : XDoes (op_widen x y w M) Q) : wp_X9_widen x y w σ Q := by
  have h256 := pow_le8 hW.2.1
  unfold op_widen at hq
  unfold wp_X9_widen
  refine xs_isLater ?_
  simp +decide (disch := omega) only [lit, lit_neg, i_add, i_mul, i_sub, i_div, i_and, i_or, i_shl1, Nat.one_mul, i_shr1, i_bit1, i_lt, i_eq, i_in, i_cl, i_0, gI_sI, bi_0n, bi_1n, nz_bi, nz_0n, nz_1n, vn_0n, vn_1n, vn_bi, and_true, true_and, not_false_eq_true, not_true_eq_false, false_implies, true_implies, forall_const, implies_true, ite_true, ite_false, Bool.not_eq_true, Bool.not_eq_false, and_false, false_and, if_true, if_false, if_pos, true_or, or_true, false_or, or_false, neg_lit]
  refine ⟨fun z => ?_, fun z => ?_⟩
  · rw [if_pos z] at hq
    exact xs_refuse hW h (by decide) (by decide) hq
  · rw [if_neg (by rw [z]; decide)] at hq
    obtain ⟨k, k1, k2, rfl⟩ := isFr_t z
    rw [cn_nI (by omega)] at hq
    refine xs_isCube hW h.1 ?_
    simp +decide (disch := omega) only [lit, lit_neg, i_add, i_mul, i_sub, i_div, i_and, i_or, i_shl1, Nat.one_mul, i_shr1, i_bit1, i_lt, i_eq, i_in, i_cl, i_0, gI_sI, bi_0n, bi_1n, nz_bi, nz_0n, nz_1n, vn_0n, vn_1n, vn_bi, and_true, true_and, not_false_eq_true, not_true_eq_false, false_implies, true_implies, forall_const, implies_true, ite_true, ite_false, Bool.not_eq_true, Bool.not_eq_false, and_false, false_and, if_true, if_false, if_pos, true_or, or_true, false_or, or_false, neg_lit]
    refine ⟨fun z2 => ?_, fun z2 => ?_⟩
    · rw [if_pos (Or.inl z2)] at hq
      exact xs_refuse hW h (by decide) (by decide) hq
    · obtain ⟨m, v, hm, rfl, rfl, hv⟩ := isCb_t hW.2.1 z2
      have hv2 := and_eq_le hv hm
      rw [cn_nI (by omega), cn_nI (by omega)] at hq
      refine h.renew hW (fun τ hR hT _ => ?_)
      refine xs_cubeOf (by omega) (by omega) ?_
      refine xs_canKeep hW hR.1 hT (hR.fr (by omega)) k1 k2 (by omega) hv (fun υ hb => ?_)
      have hR2 := hR.t1 hW hb
      have hT2 := hT.kept hb (by omega) (fun a _ _ _ => by omega) h256
      simp +decide (disch := omega) only [lit, lit_neg, i_add, i_mul, i_sub, i_div, i_and, i_or, i_shl1, Nat.one_mul, i_shr1, i_bit1, i_lt, i_eq, i_in, i_cl, i_0, gI_sI, bi_0n, bi_1n, nz_bi, nz_0n, nz_1n, vn_0n, vn_1n, vn_bi, and_true, true_and, not_false_eq_true, not_true_eq_false, false_implies, true_implies, forall_const, implies_true, ite_true, ite_false, Bool.not_eq_true, Bool.not_eq_false, and_false, false_and, if_true, if_false, if_pos, true_or, or_true, false_or, or_false, neg_lit]
      refine ⟨fun z3 => ?_, fun z3 => ?_⟩
      · rw [if_pos (by
          cases hc : inCubeB (M 0 3) m v
          · rw [hc] at z3
            exact Or.inr (Or.inr (of_decide_eq_false (by simpa using z3)))
          · exact Or.inr (Or.inl rfl))] at hq
        exact xs_refuse hW hR2 (by decide) (by decide) hq
      · simp only [Bool.and_eq_true, Bool.not_eq_true', decide_eq_true_eq] at z3
        rw [if_neg (by rw [z2, z3.1, z3.2]; simp)] at hq
        refine xs_widened hW hR2.1 hT2 (hR2.fr (by omega)) k1 k2 hm hv (fun ω hb2 => ?_)
        have hl := widN_lt (M := M) (k := k) (v := v) hm (M 0 1)
        refine ss_maskOf (by omega) (and_eq_le (and_self_r _ _) (by omega)) ?_
        exact hq ω (hR2.t1 hW hb2)
