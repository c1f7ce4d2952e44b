/-! what is well made stays so: every call -/
def WF (M : Ms) : Prop := WFm M ∧ WFp M ∧ WFl M ∧ WFg M
theorem WFm_7 {N : Ms} {v : Nat} (h : WFm (up N 0 7 v)) (h7 : N 0 7 < 2 ^ N 0 1) : WFm N := by
  obtain ⟨a, b, c, d, e, f, g, _, p, q, r, s⟩ := h
  exact ⟨a, b, c, d, e, f, g, h7, p, q, r, s⟩
theorem WFp_cg {M N : Ms} (h1 : N 0 1 = M 0 1) (h0 : ∀ k, 8 ≤ k → k ≤ 12 → N 0 k = M 0 k) (h2 : ∀ a k, 9 ≤ a → a ≤ 11 → N a k = M a k) (h3 : ∀ a k, 100 ≤ a → N a k = M a k) (h : WFp M) : WFp N := by
  obtain ⟨p1, p2, p3, p4, p5, p6⟩ := h
  refine ⟨by rw [h0 8 (by omega) (by omega)]; exact p1, by rw [h0 9 (by omega) (by omega)]; exact p2, fun k hk => ?_, fun i hi => ?_, ?_, ?_⟩
  · have c := p3 k hk
    unfold WFc at c ⊢
    rw [h2 9 k (by omega) (by omega), h1]
    refine ⟨c.1, fun i hi => ?_⟩
    rw [h3 _ _ (by omega), h3 _ _ (by omega)]
    exact c.2 i hi
  · rw [h0 11 (by omega) (by omega)] at hi
    rw [h2 10 i (by omega) (by omega), h2 11 i (by omega) (by omega), h1, h0 8 (by omega) (by omega)]
    exact p4 i hi
  · rw [h0 8 (by omega) (by omega), h0 9 (by omega) (by omega), h0 11 (by omega) (by omega)]; exact p5
  · rw [h0 9 (by omega) (by omega), h0 12 (by omega) (by omega)]; exact p6
theorem cntB_congr {n : Nat} {f g : Nat → Bool} (h : ∀ i, i < n → f i = g i) : cntB n f = cntB n g := by
  induction n with
  | zero => rfl
  | succ n ih => simp only [cntB]; rw [ih (fun i hi => h i (by omega)), h n (by omega)]
theorem WFg_ag {M N : Ms} (h : agm M N) (hG : WFg M) : WFg N := by
  unfold WFg at hG ⊢
  rw [h.sc 0 (by omega), h.sc 1 (by omega), h.sc 2 (by omega), cntB_congr (g := fun p => decide (M 1 p = 0)) (fun p _ => by rw [h.ar 1 p (by omega) (by omega)])]
  exact hG
theorem WF_ls {M N : Ms} (hW : WF M) (hk : ∀ a k, ¬ lsM a k → N a k = M a k) (h7 : N 0 7 < 2 ^ M 0 1) (hL : WFl N) : WF N := by
  obtain ⟨hm, hp, hl, hg⟩ := hW
  have ag : agm M N := ⟨fun k hk2 => hk 0 k (by unfold lsM; omega), fun a k h1 h2 => hk a k (by unfold lsM; omega)⟩
  refine ⟨WFm_7 (v := M 0 7) (WFm_ag (M := M) ⟨fun k hk2 => by rw [up_ne _ _ _ _ _ _ (by omega)]; exact ag.1 k hk2, fun a k h1 h2 => by rw [up_ne _ _ _ _ _ _ (by omega)]; exact ag.2 a k h1 h2⟩ rfl hm) (by rw [hk 0 1 (by unfold lsM; omega)]; exact h7), WFp_cg (hk 0 1 (by unfold lsM; omega)) (fun k h1 h2 => hk 0 k (by unfold lsM; omega)) (fun a k h1 h2 => hk a k (by unfold lsM; omega)) (fun a k h1 => hk a k (by unfold lsM; omega)) hp, hL, WFg_ag ag hg⟩
theorem WFl_cg {M N : Ms} (h1 : N 0 1 = M 0 1) (h0 : ∀ k, 13 ≤ k → k ≤ 16 → N 0 k = M 0 k) (h2 : ∀ a k, 12 ≤ a → a ≤ 13 → N a k = M a k) (h : WFl M) : WFl N := by
  obtain ⟨a, b, c, d, e⟩ := h
  refine ⟨by rw [h0 13 (by omega) (by omega)]; exact a, fun i hi => ?_, by rw [h0 16 (by omega) (by omega)]; exact c, by rw [h0 14 (by omega) (by omega)]; exact d, by rw [h0 15 (by omega) (by omega)]; exact e⟩
  rw [h0 13 (by omega) (by omega)] at hi
  rw [h2 12 i (by omega) (by omega), h2 13 i (by omega) (by omega), h1]
  exact b i hi
theorem WF_rf {M : Ms} (hW : WF M) (b : Nat) : WF (rf b M).2 := by
  show WF (up M 8 b (M 8 b + 1))
  exact WF_ls hW (fun a k h => up_ne _ _ _ _ _ _ (by unfold lsM at h; omega)) (by show M 0 7 < _; exact hW.1.2.2.2.2.2.2.2.1) (WFl_cg (M := M) rfl (fun k _ _ => up_ne _ _ _ _ _ _ (by omega)) (fun a k _ _ => up_ne _ _ _ _ _ _ (by omega)) hW.2.2.1)
theorem WF_run {M : Ms} (hW : WF M) {v : Nat} (hv : v < 2 ^ M 0 1) : WF (up M 0 7 v) :=
  WF_ls hW (fun a k h => up_ne _ _ _ _ _ _ (by unfold lsM at h; omega)) hv (WFl_cg (M := M) rfl (fun k _ _ => up_ne _ _ _ _ _ _ (by omega)) (fun a k _ _ => up_ne _ _ _ _ _ _ (by omega)) hW.2.2.1)
theorem WF_chg {X : Ms} (hm : WFm (up X 0 7 (X 0 3))) (hg : WFg X) (h16 : X 0 16 ≤ 81) (h14 : X 0 14 ≤ 256) (h15 : X 0 15 ≤ 256) : WF (chgM X) := by
  have c0 : ∀ k, 8 ≤ k → k ≤ 13 → chgM X 0 k = 0 := fun k k1 k2 => by unfold chgM; rw [if_neg (by omega), if_pos (by omega)]
  have c9 : ∀ k, chgM X 9 k = 0 := fun k => by unfold chgM; rw [if_pos rfl]
  refine ⟨?_, ⟨?_, ?_, fun k hk => ⟨?_, fun i hi => ?_⟩, fun i hi => ?_, fun _ => ⟨?_, ?_⟩, fun z => ?_⟩, ⟨?_, fun i hi => ?_, h16, h14, h15⟩, WFg_ag (chgM_m X) hg⟩
  · refine WFm_ag (M := up X 0 7 (X 0 3)) ⟨fun k hk => ?_, fun a k h1 h2 => ?_⟩ rfl hm
    · rw [up_ne _ _ _ _ _ _ (by omega)]; exact (chgM_m X).1 k hk
    · rw [up_ne _ _ _ _ _ _ (by omega)]; exact (chgM_m X).2 a k h1 h2
  · rw [c0 8 (by omega) (by omega)]; omega
  · rw [c0 9 (by omega) (by omega)]; omega
  · rw [c9]; omega
  · rw [c9] at hi; omega
  · rw [c0 11 (by omega) (by omega)] at hi; omega
  · rw [c0 11 (by omega) (by omega)]
  · rw [c0 9 (by omega) (by omega)]
  · rw [c0 9 (by omega) (by omega)] at z; omega
  · rw [c0 13 (by omega) (by omega)]; omega
  · rw [c0 13 (by omega) (by omega)] at hi; omega
theorem WF_bit {M : Ms} (hW : WF M) (x y : Int32) : WF (op_bit x y M).2 := by
  unfold op_bit
  split
  · exact WF_rf hW 8
  · rename_i z
    obtain ⟨⟨a, b, c, d, e, f, g, h, p, q, r, s⟩, hp, hl, hg⟩ := hW
    have hkd : (if y = 0 then 1 else 2) = 1 ∨ (if y = 0 then 1 else 2) = 2 := by split <;> simp
    generalize (if y = 0 then 1 else 2) = kd at hkd
    generalize hf : decide (¬ x = 0) = fl
    have e00 : addM (bitM M fl) kd (2 * M 0 0 + 1) 0 0 0 = M 0 0 + 1 := rfl
    have e01 : addM (bitM M fl) kd (2 * M 0 0 + 1) 0 0 1 = M 0 1 + 1 := rfl
    have e03 : addM (bitM M fl) kd (2 * M 0 0 + 1) 0 0 3 = if fl = true then M 0 3 ||| 2 ^ M 0 1 else M 0 3 := rfl
    have ek : ∀ a k, a = 0 ∧ k ≠ 0 ∧ k ≠ 1 ∧ k ≠ 3 ∨ a = 5 ∨ a = 6 → addM (bitM M fl) kd (2 * M 0 0 + 1) 0 a k = M a k := fun a k z => by
      unfold addM bitM
      rw [up_ne _ _ _ _ _ _ (by omega), up_ne _ _ _ _ _ _ (by omega), up_ne _ _ _ _ _ _ (by omega), up_ne _ _ _ _ _ _ (by omega), up_ne _ _ _ _ _ _ (by omega), up_ne _ _ _ _ _ _ (by omega), up_ne _ _ _ _ _ _ (by omega), up_ne _ _ _ _ _ _ (by omega)]
    have e1 : ∀ p, addM (bitM M fl) kd (2 * M 0 0 + 1) 0 1 p = if p = M 0 0 then kd else M 1 p := fun p => by
      simp [addM, bitM, up_at]
    have e2 : ∀ p, addM (bitM M fl) kd (2 * M 0 0 + 1) 0 2 p = if p = M 0 0 then 2 * M 0 0 + 1 else M 2 p := fun p => by
      simp [addM, bitM, up_at]
    have e3 : ∀ p, addM (bitM M fl) kd (2 * M 0 0 + 1) 0 3 p = if p = M 0 0 then 0 else M 3 p := fun p => by
      simp [addM, bitM, up_at]
    have e4 : ∀ p, addM (bitM M fl) kd (2 * M 0 0 + 1) 0 4 p = if p = M 0 0 then M 0 1 else M 4 p := fun p => by
      simp [addM, bitM, up_at]
    have e7 : ∀ p, addM (bitM M fl) kd (2 * M 0 0 + 1) 0 7 p = if p = M 0 1 then M 0 0 else M 7 p := fun p => by
      simp [addM, bitM, up_at]
    generalize addM (bitM M fl) kd (2 * M 0 0 + 1) 0 = X at *
    have hpw : 2 ^ (M 0 1 + 1) = 2 ^ M 0 1 + 2 ^ M 0 1 := by rw [Nat.pow_succ]; omega
    have h03 : X 0 3 < 2 ^ X 0 1 := by
      rw [e03, e01]
      split
      · exact Nat.or_lt_two_pow (by omega) (Nat.pow_lt_pow_right (by decide) (by omega))
      · omega
    refine WF_chg ⟨?_, ?_, ?_, ?_, ?_, h03, ?_, h03, fun i hi => ?_, fun j hj => ?_, fun i hi => ?_, fun i hi => ?_⟩ ?_ ?_ ?_ ?_
    · show X 0 0 ≤ 80; omega
    · show X 0 1 ≤ 8; omega
    · show X 0 2 ≤ 4; rw [ek 0 2 (by omega)]; exact c
    · show X 0 5 ≤ 4; rw [ek 0 5 (by omega)]; exact d
    · show X 0 6 ≤ 3; rw [ek 0 6 (by omega)]; exact e
    · show X 0 4 ≤ 2 * X 0 0; rw [ek 0 4 (by omega), e00]; omega
    · have hi : i < X 0 0 := hi
      show X 1 i ≤ 3 ∧ X 2 i ≤ 2 * X 0 0 ∧ X 3 i ≤ 2 * X 0 0 ∧ (X 1 i = 0 → 1 ≤ X 2 i ∧ X 2 i ≤ 2 * i ∧ 1 ≤ X 3 i ∧ X 3 i ≤ 2 * i) ∧ (X 1 i = 1 ∨ X 1 i = 2 → 1 ≤ X 2 i ∧ X 4 i < X 0 1 ∧ X 7 (X 4 i) = i ∧ X 3 i = 0) ∧ (X 1 i = 2 → X 2 i = 2 * i + 1) ∧ (X 1 i = 3 → X 4 i < X 0 2 ∧ X 2 i = 0 ∧ X 3 i = 0)
      rw [e00, e01, e1, e2, e3, e4, ek 0 2 (by omega)]
      by_cases q : i = M 0 0
      · subst q
        simp only [if_true]
        rw [e7, if_pos rfl]
        refine ⟨by omega, by omega, by omega, by omega, fun _ => ⟨by omega, by omega, rfl, trivial⟩, fun _ => trivial, by omega⟩
      · simp only [if_neg q]
        obtain ⟨p1, p2, p3, p4, p5, p6, p7⟩ := p i (by omega)
        refine ⟨p1, by omega, by omega, p4, fun w => ?_, p6, p7⟩
        obtain ⟨w1, w2, w3, w4⟩ := p5 w
        rw [e7, if_neg (by omega)]
        exact ⟨w1, by omega, w3, w4⟩
    · have hj : j < X 0 1 := hj
      show X 7 j < X 0 0 ∧ (X 1 (X 7 j) = 1 ∨ X 1 (X 7 j) = 2) ∧ X 4 (X 7 j) = j
      rw [e00, e1, e4, e7]
      by_cases q2 : j = M 0 1
      · simp only [if_pos q2, if_true]
        exact ⟨by omega, hkd, q2.symm⟩
      · obtain ⟨q3, q4, q5⟩ := q j (by omega)
        simp only [if_neg q2]
        rw [if_neg (by omega), if_neg (by omega)]
        exact ⟨by omega, q4, q5⟩
    · have hi : i < X 0 5 := hi
      show X 5 i < 2 * X 0 0
      rw [ek 0 5 (by omega)] at hi
      rw [ek 5 i (by omega), e00]
      have := r i hi
      omega
    · have hi : i < X 0 6 := hi
      show X 6 i < 2 * X 0 0
      rw [ek 0 6 (by omega)] at hi
      rw [ek 6 i (by omega), e00]
      have := s i hi
      omega
    · unfold WFg at hg ⊢
      rw [e00, e01, ek 0 2 (by omega)]
      simp only [cntB]
      rw [cntB_congr (g := fun p => decide (M 1 p = 0)) (fun p hp => by rw [e1, if_neg (by omega)])]
      have hx : X 1 (M 0 0) = kd := by rw [e1, if_pos rfl]
      simp only [hx]
      rw [decide_eq_false (by omega), if_neg (by decide)]
      omega
    · rw [ek 0 16 (by omega)]; exact hl.2.2.1
    · rw [ek 0 14 (by omega)]; exact hl.2.2.2.1
    · rw [ek 0 15 (by omega)]; exact hl.2.2.2.2
theorem WF_adds {M : Ms} {kd x y : Nat} (hm : WFm M) (hg : cntB (M 0 0) (fun p => decide (M 1 p = 0)) + (if kd = 0 then 1 else 0) + M 0 1 + M 0 2 = M 0 0 + 1) (hl : WFl M) (hp : M 0 0 < 80) (hkd : kd = 0 ∨ kd = 3) (h0 : kd = 0 → 1 ≤ x ∧ x ≤ 2 * M 0 0 ∧ 1 ≤ y ∧ y ≤ 2 * M 0 0) (h3 : kd = 3 → x = 0 ∧ y = 0 ∧ M 4 (M 0 0) < M 0 2) : WF (chgM (addM M kd x y)) := by
  obtain ⟨a, b, c, d, e, f, g, h, p, q, r, s⟩ := hm
  have e00 : addM M kd x y 0 0 = M 0 0 + 1 := rfl
  have ek : ∀ a k, a = 0 ∧ k ≠ 0 ∨ 4 ≤ a → addM M kd x y a k = M a k := fun a k z => by
    unfold addM
    rw [up_ne _ _ _ _ _ _ (by omega), up_ne _ _ _ _ _ _ (by omega), up_ne _ _ _ _ _ _ (by omega), up_ne _ _ _ _ _ _ (by omega)]
  have e1 : ∀ p, addM M kd x y 1 p = if p = M 0 0 then kd else M 1 p := fun p => by
    simp [addM, up_at]
  have e2 : ∀ p, addM M kd x y 2 p = if p = M 0 0 then x else M 2 p := fun p => by
    simp [addM, up_at]
  have e3 : ∀ p, addM M kd x y 3 p = if p = M 0 0 then y else M 3 p := fun p => by
    simp [addM, up_at]
  generalize addM M kd x y = X at *
  have h03 : X 0 3 < 2 ^ X 0 1 := by rw [ek 0 3 (by omega), ek 0 1 (by omega)]; exact f
  refine WF_chg ⟨?_, ?_, ?_, ?_, ?_, h03, ?_, h03, fun i hi => ?_, fun j hj => ?_, fun i hi => ?_, fun i hi => ?_⟩ ?_ ?_ ?_ ?_
  · show X 0 0 ≤ 80; omega
  · show X 0 1 ≤ 8; rw [ek 0 1 (by omega)]; exact b
  · show X 0 2 ≤ 4; rw [ek 0 2 (by omega)]; exact c
  · show X 0 5 ≤ 4; rw [ek 0 5 (by omega)]; exact d
  · show X 0 6 ≤ 3; rw [ek 0 6 (by omega)]; exact e
  · show X 0 4 ≤ 2 * X 0 0; rw [ek 0 4 (by omega), e00]; omega
  · have hi : i < X 0 0 := hi
    show X 1 i ≤ 3 ∧ X 2 i ≤ 2 * X 0 0 ∧ X 3 i ≤ 2 * X 0 0 ∧ (X 1 i = 0 → 1 ≤ X 2 i ∧ X 2 i ≤ 2 * i ∧ 1 ≤ X 3 i ∧ X 3 i ≤ 2 * i) ∧ (X 1 i = 1 ∨ X 1 i = 2 → 1 ≤ X 2 i ∧ X 4 i < X 0 1 ∧ X 7 (X 4 i) = i ∧ X 3 i = 0) ∧ (X 1 i = 2 → X 2 i = 2 * i + 1) ∧ (X 1 i = 3 → X 4 i < X 0 2 ∧ X 2 i = 0 ∧ X 3 i = 0)
    rw [e00, e1, e2, e3, ek 0 1 (by omega), ek 4 i (by omega), ek 0 2 (by omega), ek 7 _ (by omega)]
    by_cases q : i = M 0 0
    · subst q
      simp only [if_true]
      refine ⟨by omega, by omega, by omega, h0, by omega, by omega, fun w => ⟨(h3 w).2.2, (h3 w).1, (h3 w).2.1⟩⟩
    · simp only [if_neg q]
      obtain ⟨p1, p2, p3, p4, p5, p6, p7⟩ := p i (by omega)
      exact ⟨p1, by omega, by omega, p4, p5, p6, p7⟩
  · have hj : j < X 0 1 := hj
    rw [ek 0 1 (by omega)] at hj
    show X 7 j < X 0 0 ∧ (X 1 (X 7 j) = 1 ∨ X 1 (X 7 j) = 2) ∧ X 4 (X 7 j) = j
    obtain ⟨q3, q4, q5⟩ := q j hj
    rw [e00, e1, ek 7 j (by omega), ek 4 _ (by omega), if_neg (by omega)]
    exact ⟨by omega, q4, q5⟩
  · have hi : i < X 0 5 := hi
    show X 5 i < 2 * X 0 0
    rw [ek 0 5 (by omega)] at hi
    rw [ek 5 i (by omega), e00]
    have := r i hi
    omega
  · have hi : i < X 0 6 := hi
    show X 6 i < 2 * X 0 0
    rw [ek 0 6 (by omega)] at hi
    rw [ek 6 i (by omega), e00]
    have := s i hi
    omega
  · unfold WFg
    rw [e00, ek 0 1 (by omega), ek 0 2 (by omega)]
    simp only [cntB]
    rw [cntB_congr (g := fun p => decide (M 1 p = 0)) (fun p hp => by rw [e1, if_neg (by omega)])]
    have hx : X 1 (M 0 0) = kd := by rw [e1, if_pos rfl]
    simp only [hx]
    rcases hkd with w | w <;> subst w <;> simp at hg ⊢ <;> omega
  · rw [ek 0 16 (by omega)]; exact hl.2.2.1
  · rw [ek 0 14 (by omega)]; exact hl.2.2.2.1
  · rw [ek 0 15 (by omega)]; exact hl.2.2.2.2
theorem WF_gate {M : Ms} (hW : WF M) (x y : Int32) : WF (op_gate x y M).2 := by
  unfold op_gate
  have h80 := hW.1.1
  split
  · exact WF_rf hW 3
  · rename_i z
    split
    · exact WF_rf hW 8
    · rename_i z2
      have zx : inb x (2 * M 0 0) = true := by cases h : inb x (2 * M 0 0); exact absurd (Or.inl h) z; rfl
      have zy : inb y (2 * M 0 0) = true := by cases h : inb y (2 * M 0 0); exact absurd (Or.inr h) z; rfl
      obtain ⟨i, hi, hi2, rfl⟩ := inb_t zx
      obtain ⟨j, hj, hj2, rfl⟩ := inb_t zy
      rw [cn_nI hi2, cn_nI hj2]
      have hg : cntB (M 0 0) (fun p => decide (M 1 p = 0)) + M 0 1 + M 0 2 = M 0 0 := hW.2.2.2
      exact WF_adds hW.1 (by rw [if_pos rfl]; omega) hW.2.2.1 (by omega) (Or.inl rfl) (fun _ => by omega) (fun h => by omega)
theorem WF_input {M : Ms} (hW : WF M) : WF (op_input M).2 := by
  unfold op_input
  split
  · exact WF_rf hW 8
  · rename_i z
    obtain ⟨⟨a, b, c, d, e, f, g, h, p, q, r, s⟩, hp, hl, hg⟩ := hW
    have ek : ∀ a k, ¬ (a = 0 ∧ k = 2) → ¬ (a = 4 ∧ k = M 0 0) → inpM M a k = M a k := fun a k z z2 => by
      unfold inpM
      rw [up_ne _ _ _ _ _ _ (by omega), up_ne _ _ _ _ _ _ (by omega)]
    have e02 : inpM M 0 2 = M 0 2 + 1 := rfl
    have e4 : inpM M 4 (M 0 0) = M 0 2 := by simp [inpM, up_at]
    unfold WFg at hg
    have hk : ∀ k, k ≠ 2 → inpM M 0 k = M 0 k := fun k hk => ek 0 k (by omega) (by omega)
    rw [show M 0 0 = inpM M 0 0 from (hk 0 (by omega)).symm] at e4
    refine WF_adds ⟨?_, ?_, ?_, ?_, ?_, ?_, ?_, ?_, fun i hi => ?_, fun j hj => ?_, fun i hi => ?_, fun i hi => ?_⟩ ?_ (WFl_cg (M := M) (hk 1 (by omega)) (fun k _ _ => hk k (by omega)) (fun a k _ _ => ek a k (by omega) (by omega)) hl) (by rw [hk 0 (by omega)]; omega) (Or.inr rfl) (fun h => by omega) (fun _ => ⟨rfl, rfl, by omega⟩)
    · rw [hk 0 (by omega)]; exact a
    · rw [hk 1 (by omega)]; exact b
    · omega
    · rw [hk 5 (by omega)]; exact d
    · rw [hk 6 (by omega)]; exact e
    · rw [hk 3 (by omega), hk 1 (by omega)]; exact f
    · rw [hk 4 (by omega), hk 0 (by omega)]; exact g
    · rw [hk 7 (by omega), hk 1 (by omega)]; exact h
    · rw [hk 0 (by omega)] at hi
      rw [ek 1 i (by omega) (by omega), ek 2 i (by omega) (by omega), ek 3 i (by omega) (by omega), ek 4 i (by omega) (by omega), hk 0 (by omega), hk 1 (by omega), e02, ek 7 _ (by omega) (by omega)]
      obtain ⟨p1, p2, p3, p4, p5, p6, p7⟩ := p i hi
      refine ⟨p1, p2, p3, p4, p5, p6, fun w => ?_⟩
      have := p7 w
      omega
    · rw [hk 1 (by omega)] at hj
      have := q j hj
      rw [ek 7 j (by omega) (by omega), ek 1 _ (by omega) (by omega), ek 4 _ (by omega) (by omega), hk 0 (by omega)]
      exact this
    · rw [hk 5 (by omega)] at hi
      rw [ek 5 i (by omega) (by omega), hk 0 (by omega)]; exact r i hi
    · rw [hk 6 (by omega)] at hi
      rw [ek 6 i (by omega) (by omega), hk 0 (by omega)]; exact s i hi
    · rw [hk 0 (by omega), hk 1 (by omega), e02, cntB_congr (g := fun p => decide (M 1 p = 0)) (fun p hp => by rw [ek 1 p (by omega) (by omega)]), if_neg (by decide)]
      omega
