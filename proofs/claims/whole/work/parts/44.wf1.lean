/-! what is well made stays so: the proof -/
theorem WFp_end {M : Ms} {v : Nat} (h : WFp M) (hv : v ≤ 3) (hv1 : v ≠ 1) (hN : 1 ≤ M 0 8) : WFp (up M 0 9 v) := by
  obtain ⟨p1, p2, p3, p4, p5, p6⟩ := h
  exact ⟨p1, hv, fun k hk => WFc_up (p3 k hk) (by decide), p4, fun z => absurd (show M 0 8 = 0 from z) (by omega), fun z => absurd (show v = 1 from z) hv1⟩
theorem WFp_N {M : Ms} (h : WFp M) (he : M 0 9 ≠ 1) (hN : M 0 8 + 1 ≤ 23) : WFp (up M 0 8 (M 0 8 + 1)) := by
  obtain ⟨p1, p2, p3, p4, p5, p6⟩ := h
  refine ⟨hN, p2, fun k hk => WFc_up (p3 k hk) (by decide), fun i hi => ?_, fun z => absurd (show M 0 8 + 1 = 0 from z) (by omega), fun z => absurd z he⟩
  have := p4 i hi
  exact ⟨this.1, by show M 11 i + i ≤ M 0 8 + 1; omega⟩
theorem WFp_wall {M : Ms} {k : Nat} (h : WFp M) (hN : 1 ≤ M 0 8) (hk1 : 1 ≤ k) (hk : k ≤ 23) : WFp (up (up M 0 12 k) 0 9 1) := by
  obtain ⟨p1, p2, p3, p4, p5, p6⟩ := h
  exact ⟨p1, (by decide : 1 ≤ 3), fun k hk => WFc_up (WFc_up (p3 k hk) (by decide)) (by decide), p4, fun z => absurd (show M 0 8 = 0 from z) (by omega), fun _ => ⟨hk1, hk⟩⟩
theorem WFp_sc {M : Ms} (h : WFp M) (v : Nat) : WFp (up M 0 10 v) := by
  obtain ⟨p1, p2, p3, p4, p5, p6⟩ := h
  exact ⟨p1, p2, fun k hk => WFc_up (p3 k hk) (by decide), p4, p5, p6⟩
theorem WFp_drop {M : Ms} (h : WFp M) : WFp (up M 0 11 (M 0 11 - 1)) := by
  obtain ⟨p1, p2, p3, p4, p5, p6⟩ := h
  refine ⟨p1, p2, fun k hk => WFc_up (p3 k hk) (by decide), fun i hi => p4 i (by have : i < M 0 11 - 1 := hi; omega), fun z => ?_, p6⟩
  have := p5 z
  exact ⟨by show M 0 11 - 1 = 0; omega, this.2⟩
theorem WFp_keepTo {M : Ms} {m v : Nat} (h : WFp M) (he : M 0 9 ≠ 1) (hm : m < 2 ^ M 0 1) (hv : v &&& m = v) : ∀ i, i ≤ 24 → (∀ j, 1 ≤ j → j ≤ i → M 9 j < 200) → WFp (keepTo M m v i)
  | 0, _, _ => h
  | i + 1, hi, hc => by
    obtain ⟨z0, z9⟩ := keepTo_0 M m v i (by omega)
    refine WFp_keep (WFp_keepTo h he hm hv i (by omega) (fun j j1 j2 => hc j j1 (by omega))) (by rw [z0]; exact he) hi ?_ (by rw [z0]; exact hm) hv
    rw [z9, if_neg (by omega)]
    exact hc (i + 1) (by omega) (by omega)
theorem keepTo_ag (M : Ms) (m v : Nat) : ∀ i, agM M (keepTo M m v i)
  | 0 => agM.rf
  | i + 1 => (keepTo_ag M m v i).tr (keepM_ag _ _ _ _)
def PW (M N : Ms) : Prop := agM M N ∧ WFp N
theorem PW_look {M : Ms} (hW : WFm M) (h : WFp M) (hN : 1 ≤ M 0 8) (he : M 0 9 = 0) (ht : 1 ≤ M 0 11) : PW M (lookM M) := by
  have hlk : lookM M = (let M1 := up M 0 10 (M 0 10 + 1); let s := M1 10 (M1 0 11 - 1); let k := M1 11 (M1 0 11 - 1)
    if s = M1 0 3 then up M1 0 9 2
    else if inFrB M1 k s = false then up M1 0 11 (M1 0 11 - 1)
    else if askN M1 (k - 1) (fullN M1) s ≠ 0 then meetM M1 (askN M1 (k - 1) (fullN M1) s - 1) (k - 1)
    else if allN k (fun i => decide (M1 9 (i + 1) < 200)) = true then up (keepTo M1 (widN M1 k (fullN M1) s (M1 0 1)) (s &&& widN M1 k (fullN M1) s (M1 0 1)) k) 0 11 (M1 0 11 - 1)
    else up M1 0 9 3) := rfl
  rw [hlk]
  dsimp only
  have hag : agM M (up M 0 10 (M 0 10 + 1)) := agM.rf.up (by unfold prM; omega)
  have hP := WFp_sc h (M 0 10 + 1)
  have e8 : up M 0 10 (M 0 10 + 1) 0 8 = M 0 8 := rfl
  have e9 : up M 0 10 (M 0 10 + 1) 0 9 = M 0 9 := rfl
  have e11 : up M 0 10 (M 0 10 + 1) 0 11 = M 0 11 := rfl
  generalize up M 0 10 (M 0 10 + 1) = M1 at hag hP e8 e9 e11
  have hWm : WFm M1 := WFm_ag hag.m (hag 0 7 (by unfold prM; omega)) hW
  have hpos : 0 < 2 ^ M1 0 1 := Nat.pow_pos (by decide)
  have hN23 := hP.1
  obtain ⟨p4a, p4b⟩ := hP.2.2.2.1 (M1 0 11 - 1) (by omega)
  generalize hs : M1 10 (M1 0 11 - 1) = s at p4a
  generalize hk : M1 11 (M1 0 11 - 1) = k at p4b
  split
  · exact ⟨hag.up (by unfold prM; omega), WFp_end hP (by decide) (by decide) (by omega)⟩
  · rename_i q
    split
    · exact ⟨hag.up (by unfold prM; omega), WFp_drop hP⟩
    · rename_i q2
      have hk1 : 1 ≤ k := by
        rcases Nat.eq_zero_or_pos k with z | z
        · subst z
          rw [inFr_0] at q2
          exact absurd (decide_eq_false q) q2
        · exact z
      have hal := askN_le M1 (k - 1) (fullN M1) s
      split
      · exact ⟨hag.tr (meetM_ag _ _ _), WFp_meet hP (by omega) (by omega) (by omega) (by omega)⟩
      · split
        · rename_i q4
          have hml := widN_lt (M := M1) (k := k) (v := s) (n := M1 0 1) (show fullN M1 < 2 ^ M1 0 1 by unfold fullN; omega) (M1 0 1)
          generalize widN M1 k (fullN M1) s (M1 0 1) = mk at hml
          have hv : (s &&& mk) &&& mk = s &&& mk := by rw [Nat.and_assoc, Nat.and_self]
          have w := WFp_keepTo hP (by omega) hml hv k (by omega) (fun j j1 j2 => by
            have := allN_iff.mp q4 (j - 1) (by omega)
            rw [show j - 1 + 1 = j by omega] at this
            exact of_decide_eq_true this)
          obtain ⟨z0, _⟩ := keepTo_0 M1 mk (s &&& mk) k (by omega)
          have w2 := WFp_drop w
          rw [z0] at w2
          exact ⟨(hag.tr (keepTo_ag _ _ _ _)).up (by unfold prM; omega), w2⟩
        · exact ⟨hag.up (by unfold prM; omega), WFp_end hP (by decide) (by decide) (by omega)⟩
theorem PW_pushM {M : Ms} {k : Nat} (h : WFp M) (he : M 0 9 = 0 ∨ M 0 9 = 3) (hN : 1 ≤ M 0 8) (hk1 : 1 ≤ k) (hk : k ≤ 23) : ∀ i, i ≤ M 9 k → WFp (pushM M k i) ∧ (pushM M k i 0 9 = 0 ∨ pushM M k i 0 9 = 3)
  | 0, _ => ⟨h, he⟩
  | i + 1, hi => by
    obtain ⟨a, b⟩ := PW_pushM h he hN hk1 hk i (by omega)
    obtain ⟨s1, s2, s3, s4⟩ := pushM_same M k hk i
    simp only [pushM]
    split
    · exact ⟨a, b⟩
    · rename_i z
      split
      · exact ⟨a, b⟩
      · split
        · exact ⟨WFp_end a (by decide) (by decide) (by rw [s3 8 (by decide)]; exact hN), Or.inr rfl⟩
        · have f1 := (a.2.2.1 (k + 1) (by omega)).1
          obtain ⟨g1, g2⟩ := a.2.2.1 k (by omega)
          obtain ⟨m1, m2⟩ := g2 i (by rw [s1 k (by omega)]; omega)
          exact ⟨WFp_keep a (by omega) (by omega) (by omega) m1 m2, by rw [keepM_0]; exact b⟩
theorem PW_pushTo {M : Ms} (h : WFp M) (he : M 0 9 = 0) (hN : 1 ≤ M 0 8) : ∀ i, i ≤ 23 → WFp (pushTo M i) ∧ (pushTo M i 0 9 = 0 ∨ pushTo M i 0 9 = 3)
  | 0, _ => ⟨h, Or.inl he⟩
  | i + 1, hi => by
    obtain ⟨a, b⟩ := PW_pushTo h he hN i (by omega)
    have c := (pushTo_0 M i (by omega)).2 8 (by decide)
    simp only [pushTo]
    split
    · exact ⟨a, b⟩
    · exact PW_pushM a (by omega) (by omega) (by omega) hi _ (Nat.le_refl _)
theorem PW_wallTo {M : Ms} (h : WFp M) (hN : 1 ≤ M 0 8) : ∀ i, i ≤ 23 → WFp (wallTo M i) ∧ agM M (wallTo M i) ∧ wallTo M i 0 8 = M 0 8
  | 0, _ => ⟨h, agM.rf, rfl⟩
  | i + 1, hi => by
    obtain ⟨a, b, c⟩ := PW_wallTo h hN i (by omega)
    simp only [wallTo]
    split
    · exact ⟨a, b, c⟩
    · split
      · exact ⟨WFp_wall a (by omega) (by omega) hi, (b.up (by unfold prM; omega)).up (by unfold prM; omega), c⟩
      · exact ⟨a, b, c⟩
theorem PW_pushAll {M : Ms} (h : WFp M) (he : M 0 9 = 0) (hN : 1 ≤ M 0 8) : PW M (pushAllM M) := by
  have hN23 := h.1
  obtain ⟨a, b⟩ := PW_pushTo h he hN (M 0 8) hN23
  have c := (pushTo_0 M (M 0 8) hN23)
  have c8 := c.2 8 (by decide)
  obtain ⟨d, e, f⟩ := PW_wallTo a (by omega) (M 0 8) hN23
  have g := agM.tr (agM.tr agM.rf (show agM M (pushTo M (M 0 8)) from ?_)) e
  · simp only [pushAllM]
    split
    · exact ⟨g, d⟩
    · split
      · exact ⟨g.up (by unfold prM; omega), WFp_end d (by decide) (by decide) (by omega)⟩
      · exact ⟨g.up (by unfold prM; omega), WFp_N d (by omega) (by omega)⟩
  · exact c.1
theorem PW_prv : ∀ (f left : Nat) (M : Ms), WFm M → WFp M → 1 ≤ M 0 8 → PW M (prvM f left M).1
  | 0, _, M, _, h, _ => ⟨agM.rf, h⟩
  | f + 1, left, M, hW, h, hN => by
    have wf : ∀ {N}, agM M N → WFm N := fun hag => WFm_ag hag.m (hag 0 7 (by unfold prM; omega)) hW
    simp only [prvM]
    split
    · exact ⟨agM.rf, h⟩
    · rename_i e
      split
      · rename_i t
        have hw := worst_le M
        split
        · have a : PW M (meetM M (worstN M - 1) (M 0 8)) := ⟨meetM_ag _ _ _, WFp_meet h (by omega) hN (by omega) (by omega)⟩
          have b := PW_prv f left _ (wf a.1) a.2 hN
          exact ⟨a.1.tr b.1, b.2⟩
        · have a := PW_pushAll h (by omega) hN
          have b := PW_prv f left _ (wf a.1) a.2 (by rcases pushAllM_f h.1 with z | z <;> omega)
          exact ⟨a.1.tr b.1, b.2⟩
      · split
        · exact ⟨agM.rf, h⟩
        · have a := PW_look hW h hN (by omega) (by omega)
          have hk := (h.2.2.2.1 (M 0 11 - 1) (by omega)).2
          have b := PW_prv f (left - 1) _ (wf a.1) a.2 (by rw [lookM_8 (by have := h.1; omega)]; exact hN)
          exact ⟨a.1.tr b.1, b.2⟩
theorem PW_begin {M : Ms} (h : WFp M) : PW M (beginM M) ∧ 1 ≤ beginM M 0 8 := by
  unfold beginM
  split
  · rename_i z
    obtain ⟨z1, z2⟩ := h.2.2.2.2.1 z
    have a : WFp (up M 0 8 1) := by
      have := WFp_N h (by omega) (by omega)
      rw [z] at this
      exact this
    split
    · exact ⟨⟨(agM.rf.up (by unfold prM; omega)).up (by unfold prM; omega), WFp_end a (by decide) (by decide) (Nat.le_refl 1)⟩, Nat.le_refl 1⟩
    · exact ⟨⟨agM.rf.up (by unfold prM; omega), a⟩, Nat.le_refl 1⟩
  · exact ⟨⟨agM.rf, h⟩, by omega⟩
theorem PW_prove {M : Ms} (hW : WFm M) (h : WFp M) (n : Nat) : PW M (proveM M n).1 := by
  obtain ⟨a, b⟩ := PW_begin h
  have c := PW_prv (2 * n + 30) n (beginM M) (WFm_ag a.1.m (a.1 0 7 (by unfold prM; omega)) hW) a.2 b
  exact ⟨a.1.tr c.1, c.2⟩
