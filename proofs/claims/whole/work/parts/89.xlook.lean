/-! the class: a look -/
def look1 (M : Ms) : Ms := if M 10 (M 0 11 - 1) = M 0 3 then up M 0 9 2
  else if inFrB M (M 11 (M 0 11 - 1)) (M 10 (M 0 11 - 1)) = false then up M 0 11 (M 0 11 - 1)
  else if askN M (M 11 (M 0 11 - 1) - 1) (fullN M) (M 10 (M 0 11 - 1)) ≠ 0 then meetM M (askN M (M 11 (M 0 11 - 1) - 1) (fullN M) (M 10 (M 0 11 - 1)) - 1) (M 11 (M 0 11 - 1) - 1)
  else if allN (M 11 (M 0 11 - 1)) (fun i => decide (M 9 (i + 1) < 200)) = true then up (keepTo M (widN M (M 11 (M 0 11 - 1)) (fullN M) (M 10 (M 0 11 - 1)) (M 0 1)) (M 10 (M 0 11 - 1) &&& widN M (M 11 (M 0 11 - 1)) (fullN M) (M 10 (M 0 11 - 1)) (M 0 1)) (M 11 (M 0 11 - 1))) 0 11 (M 0 11 - 1)
  else up M 0 9 3
theorem lookM_1 (M : Ms) : lookM M = look1 (up M 0 10 (M 0 10 + 1)) := rfl
theorem full_and {n s : Nat} (h : s < 2 ^ n) : s &&& (2 ^ n - 1) = s := by
  rw [Nat.and_two_pow_sub_one_eq_mod, Nat.mod_eq_of_lt h]
theorem xs_look1 {M0 M : Ms} {σ τ : Sg} {Q : Sg → Prop} (h : XI M0 σ M τ) (h0 : XB M0 σ) (hN : 1 ≤ M 0 8) (he : M 0 9 = 0) (ht : 1 ≤ M 0 11) (hq : ∀ υ, XI M0 σ (look1 M) υ → Q υ) : wp_X4_look τ Q := by
  have hW := h.wf h0
  have hw := h.2.2.2.2
  have hP := h.2.2.2.1
  have h256 := pow_le8 hW.2.1
  have h24 := ntr_le hw
  obtain ⟨t1, t2⟩ := hw.2.2.2.1 (M 0 11 - 1) (by omega)
  have h23 := hw.1
  unfold look1 at hq
  unfold wp_X4_look
  rw [hP.1, show (1 : Int32) = nI 1 from rfl, i_sub ht]
  refine xs_trouble hw hP (by omega) ?_
  rw [if_pos (by omega)]
  refine xs_troubleF hw hP (by omega) ?_
  rw [if_pos (by omega), (h.mm h0).2.2.2.2.1]
  generalize hs : M 10 (M 0 11 - 1) = s at *
  generalize hk : M 11 (M 0 11 - 1) = k at *
  have hfi := hW.2.2.2.2.2.1
  have hk23 : k ≤ 23 := by omega
  rw [i_eq (by omega) (by omega)]
  refine ⟨fun z => ?_, fun z => ?_⟩
  · rw [if_pos z] at hq
    exact hq _ (XI_up h (Or.inr (Or.inl ⟨rfl, rfl⟩)) (fun w => absurd w (by decide)) (WFp_end hw (by decide) (by decide) hN))
  · rw [if_neg z] at hq
    refine xs_frame (by omega) ?_
    have hcl := cl_frame (k := k) (by omega)
    rw [hcl.1, hcl.2.2.1, hcl.2.2.2.2.2.2.1.1]
    simp only [onB, cond_true]
    refine ss_has hcl.2.2.2.2.2.2.1 (h.fr (by omega)) (by omega) ?_
    have ef : frL M k s = inFrB M k s := by unfold frL; rw [decide_eq_true (show s < nSt M from t1)]; rfl
    rw [ef, i_0, bi_0n]
    refine ⟨fun z2 => ?_, fun z2 => ?_⟩
    · rw [if_pos z2] at hq
      exact hq _ (XI_up h (Or.inr (Or.inr (Or.inr (Or.inl ⟨rfl, rfl⟩)))) (fun _ => by omega) (WFp_drop hw))
    · rw [if_neg z2] at hq
      have hk1 : 1 ≤ k := by
        rcases Nat.eq_zero_or_pos k with w | w
        · rw [w, inFr_0, decide_eq_false z] at z2
          exact absurd rfl z2
        · exact w
      have hpow := Nat.two_pow_pos (M 0 1)
      have hvs : s &&& fullN M = s := full_and t1
      have hfl : fullN M < 2 ^ M 0 1 := by unfold fullN; omega
      refine xs_states hW (h.mm h0) ?_
      rw [i_sub (by omega), i_sub hk1]
      refine xs_cubeOf (m := fullN M) (by omega) (by omega) ?_
      have hal := askN_le M (k - 1) (fullN M) s
      refine xs_leastInto hW (h.mm h0) (h.t h0) (h.fr (by omega)) (by omega) (by omega) hvs (fun υ hb => ?_)
      have hυ := h.work hb (fun a w => Or.inl w)
      rw [lit_neg, e1_m1 (by omega)]
      refine ⟨fun z3 => ?_, fun z3 => ?_⟩
      · rw [if_neg (by omega)] at hq
        refine xs_widened hW (hυ.mm h0) (hυ.t h0) (hυ.fr (by omega)) hk1 (by omega) hfl hvs (fun ω hb2 => ?_)
        have hω := hυ.work hb2 (fun a w => Or.inl w)
        have hwl := widN_lt (M := M) (k := k) (v := s) hfl (M 0 1)
        refine xs_putUpTo hω h0 he (by omega) hwl (and_self_r _ _) (fun ha ψ hψ => ?_) (fun ha => ?_)
        · rw [if_pos ha] at hq
          have hk0 := keepTo_0 M (widN M k (fullN M) s (M 0 1)) (s &&& widN M k (fullN M) s (M 0 1)) k (by omega)
          have h11 := hk0.1 11
          have hd := WFp_drop hψ.2.2.2.2
          have hx := hψ.2.2.2.1.1
          rw [h11] at hd hx
          refine ⟨fun w => absurd w (by decide), fun _ => ?_⟩
          rw [hx, i_sub ht]
          exact hq _ (XI_up hψ (Or.inr (Or.inr (Or.inr (Or.inl ⟨rfl, rfl⟩)))) (fun _ => by rw [h11]; omega) hd)
        · rw [if_neg (by rw [ha]; decide)] at hq
          refine ⟨fun _ => ?_, fun w => absurd rfl w⟩
          exact hq _ (XI_up hω (Or.inr (Or.inl ⟨rfl, rfl⟩)) (fun w => absurd w (by decide)) (WFp_end hw (by decide) (by decide) hN))
      · rw [if_pos z3] at hq
        rw [e1_p (by omega)]
        exact xs_meet hυ he hN (by omega) (by omega) hq
theorem xs_pushOn {M0 M : Ms} {σ τ : Sg} {k : Nat} {Q : Int32 → Sg → Prop} (h : XI M0 σ M τ) (h0 : XB M0 σ) (hN : 1 ≤ M 0 8) (he : M 0 9 = 0) (hk1 : 1 ≤ k) (hk : k ≤ 23)
    (hq1 : ∀ υ, XI M0 σ (pushM M k (M 9 k)) υ → pushM M k (M 9 k) 0 9 = 0 → Q (nI 1) υ) (hq0 : ∀ P υ, XI M0 σ P υ → P 0 9 = 0 → P 0 8 = M 0 8 → pushM M k (M 9 k) = up P 0 9 3 → Q (nI 0) υ) : wp_X1_pushOn (nI k) τ Q := by
  have hW := h.wf h0
  have h256 := pow_le8 hW.2.1
  have hw := h.2.2.2.2
  have hn200 := (hw.2.2.1 k (by omega)).1
  have hcl := cl_later hk1 (show k ≤ 24 by omega)
  have hcl2 := cl_later (show 1 ≤ k + 1 by omega) (show k + 1 ≤ 24 by omega)
  intro L hL
  refine xs_frame (by omega) ?_
  rw [show (1 : Int32) = nI 1 from rfl, i_add]
  refine xs_frame (by omega) ?_
  refine ss_empty ss_1062 (fun s1 b1 e1 => ?_)
  have hs1 := h.work b1 (fun a z => Or.inr z)
  rw [hcl.1, hcl.2.2.1]
  simp only [onB, cond_true]
  refine xs_putAllFrom hW (hs1.mm h0) hcl.2.2.2.2.2.2.1 ss_1062 (hs1.fr (by omega)) e1 (hs1.t h0) (by omega) (by omega) (fun s2 b2 e2 => ?_)
  have hs2 := hs1.work b2 (fun a z => Or.inr z)
  have e2' : SS s2 1062 (fun t => anyN (2 ^ M 0 1) (fun s => frL M k s && ldsB M s t)) := SS_congr e2 (fun t _ => Bool.false_or _)
  have hshut : ∀ m v, anyN 256 (fun t => anyN (2 ^ M 0 1) (fun s => frL M k s && ldsB M s t) && inCubeB t m v) = anyN (2 ^ M 0 1) (fun s => inFrB M k s && ldIntoB M s m v) := by
    intro m v
    cases h1 : anyN (2 ^ M 0 1) (fun s => inFrB M k s && ldIntoB M s m v)
    · refine anyN_f.mpr (fun t _ => ?_)
      cases h2 : anyN (2 ^ M 0 1) (fun s => frL M k s && ldsB M s t)
      · rfl
      · cases h3 : inCubeB t m v
        · rfl
        · obtain ⟨s, hs, h4⟩ := anyN_iff.mp h2
          simp only [Bool.and_eq_true, frL] at h4
          have := anyN_f.mp h1 s hs
          rw [h4.1.2, Bool.true_and, ← ldInto_any hW] at this
          have h5 := anyN_f.mp this t (by have := ldsB_lt h4.2; omega)
          rw [h4.2, h3] at h5; cases h5
    · obtain ⟨s, hs, h2⟩ := anyN_iff.mp h1
      simp only [Bool.and_eq_true] at h2
      rw [← ldInto_any hW] at h2
      obtain ⟨t, ht, h3⟩ := anyN_iff.mp h2.2
      simp only [Bool.and_eq_true] at h3
      refine anyN_iff.mpr ⟨t, ht, ?_⟩
      rw [h3.2, Bool.and_true]
      exact anyN_iff.mpr ⟨s, hs, by unfold frL; rw [decide_eq_true (show s < nSt M from hs), h2.1, h3.1]; rfl⟩
  refine up_loopS (L := fun i υ => L (1064 + 4 * k) (1064 + 4 * (k + 1)) i υ) (I := fun i υ => XI M0 σ (pushM M k i) υ ∧ pushM M k i 0 9 = 0 ∧ SS υ 1062 (fun t => anyN (2 ^ M 0 1) (fun s => frL M k s && ldsB M s t))) (M 9 k) ?_ ?_ 0 s2 (Nat.zero_le _) ⟨hs2, he, e2'⟩
  · intro i υ hi ⟨hI, hz, hS⟩ nx
    have hsm := pushM_same M k hk i
    have hag := pushM_ag M k (by omega) i
    have hcw := hI.cw h0 (k := k) (by omega)
    have hcw2 := hI.cw h0 (k := k + 1) (by omega)
    have hr := hI.2.2.1.2.2.1 k hk1 (by omega)
    have hr2 := hI.2.2.1.2.2.1 (k + 1) (by omega) (by omega)
    have hwP := hI.2.2.2.2
    have hn2 := (hwP.2.2.1 (k + 1) (by omega)).1
    have hcm := hwP.2.2.1 k (by omega)
    have e9 : pushM M k i 9 k = M 9 k := hsm.1 k (by omega)
    have e1k : ∀ n, pushM M k i (100 + k) n = M (100 + k) n ∧ pushM M k i (200 + k) n = M (200 + k) n := fun n => hsm.2.1 k n (by omega) (by omega)
    have enSt : nSt (pushM M k i) = nSt M := nSt_ag hag.m
    have e01 : pushM M k i 0 1 = M 0 1 := hag.m.sc 1 (by omega)
    have eS : pushM M k (i + 1) = if hasB (pushM M k i) (k + 1) (pushM M k i (100 + k) i) (pushM M k i (200 + k) i) = true ∨ shutB (pushM M k i) k (pushM M k i (100 + k) i) (pushM M k i (200 + k) i) = false then pushM M k i else if pushM M k i 9 (k + 1) = 200 then up (pushM M k i) 0 9 3 else keepM (pushM M k i) (k + 1) (pushM M k i (100 + k) i) (pushM M k i (200 + k) i) := by
      show (if pushM M k i 0 9 ≠ 0 then pushM M k i else _) = _
      rw [if_neg (by omega)]
    have esh : shutB (pushM M k i) k (pushM M k i (100 + k) i) (pushM M k i (200 + k) i) = !anyN (2 ^ M 0 1) (fun s => inFrB M k s && ldIntoB M s (pushM M k i (100 + k) i) (pushM M k i (200 + k) i)) := by
      unfold shutB
      rw [e01]
      congr 1
      refine anyN_congr (fun s _ => ?_)
      rw [ldIntoB_ag hag.m]
      congr 1
      unfold inFrB
      rw [if_neg (by omega), if_neg (by omega), e9]
      congr 1
      exact anyN_congr (fun n _ => by rw [(e1k n).1, (e1k n).2])
    have hstop := pushM_stop M k (i + 1) (M 9 k - (i + 1))
    rw [show i + 1 + (M 9 k - (i + 1)) = M 9 k by omega] at hstop
    generalize hP : pushM M k i = P at *
    have hmm := (hcm.2 i (by omega)).1
    have hvv := (hcm.2 i (by omega)).2
    rw [e01] at hmm
    generalize hmi : P (100 + k) i = m at *
    generalize hvi : P (200 + k) i = v at *
    have hm256 : m < 256 := by omega
    apply hL
    rw [hcl.1, hr.1, e9]
    simp only [onB, cond_true]
    rw [i_lt (by omega) (by omega)]
    refine ⟨fun _ => ?_, fun z => absurd hi z⟩
    refine cl_cubeAt hcl hr.1 (by omega) (by omega) (hr.2.2 i (by omega)) ?_
    rw [hmi, hvi, hcl2.1]
    simp only [cond_true]
    refine cl_hasCube hcl2 hr2 hcw2 hn2 hm256 hvv ?_
    rw [show anyN (P 9 (k + 1)) (fun i => decide (P (100 + (k + 1)) i = m) && decide (P (200 + (k + 1)) i = v)) = hasB P (k + 1) m v from rfl, i_0, bi_0n]
    have stay : pushM M k (i + 1) = P → L (1064 + 4 * k) (1064 + 4 * (k + 1)) (nI (i + 1)) υ := fun e => nx υ (by rw [e]; exact ⟨hI, hz, hS⟩)
    rw [show (1 : Int32) = nI 1 from rfl, i_add]
    refine ⟨fun z1 => ?_, fun z1 => stay (by rw [eS, if_pos (Or.inl (by simpa using z1))])⟩
    refine ss_meetsCube ss_1062 hm256 hvv hS ?_
    rw [hshut, bi_0n]
    refine ⟨fun z2 => ?_, fun z2 => stay (by rw [eS, if_pos (Or.inr (by rw [esh]; simpa using z2))])⟩
    rw [if_neg (by rw [z1, esh, z2]; simp)] at eS
    by_cases z3 : P 9 (k + 1) = 200
    · rw [if_pos z3] at eS
      refine cl_putF hcl2 hr2.1 z3 ?_
      refine ⟨fun _ => ⟨nz_n0, hq0 P υ hI hz ?_ ?_⟩, fun w => absurd rfl w⟩
      · exact hsm.2.2.1 8 (by decide)
      · rw [hstop (by rw [eS]; show (3 : Nat) ≠ 0; decide), eS]
    · rw [if_neg z3] at eS
      refine xs_keep hI h0 (by omega) (by omega) (by omega) (by omega) (by rw [e01]; exact hmm) hvv (fun ω hω hb => ?_)
      refine ⟨fun w => absurd w (by decide), fun _ => nx ω ⟨by rw [eS]; exact hω, by rw [eS, keepM_0]; exact hz, hS.kept2 hb (by unfold CT; omega)⟩⟩
  · intro υ ⟨hI, hz, hS⟩
    have hsm := pushM_same M k hk (M 9 k)
    have hr := hI.2.2.1.2.2.1 k hk1 (by omega)
    apply hL
    rw [hcl.1, hr.1, hsm.1 k (by omega)]
    simp only [onB, cond_true]
    rw [i_lt (by omega) (by omega)]
    exact ⟨fun z => absurd z (Nat.lt_irrefl _), fun _ => ⟨nz_n1, hq1 υ hI hz⟩⟩
