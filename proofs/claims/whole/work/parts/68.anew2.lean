/-! the class: a change begins anew -/
theorem xs_anew {X : Ms} {σ : Sg} {Q : Sg → Prop} (hW : WFm (chgM X)) (hm0 : XMm X σ) (hro : XRo X σ) (h8 : ∀ b, 2 ≤ b → b ≤ 8 → gI σ 1174 b = nI (X 8 b)) (h3 : gI σ 1171 3 = e1 (X 0 14)) (h4 : gI σ 1171 4 = e1 (X 0 15)) (hq : ∀ τ, RX (chgM X) τ → (∀ a k, inXm a k → gI τ a k = gI σ a k) → Q τ) : wp_X9_startAnew σ Q := by
  have h256 := pow_le8 hW.2.1
  have hm : XMm (chgM X) σ := XMm_ag (chgM_m X) hm0
  have c0 : ∀ k, 8 ≤ k → k ≤ 13 → chgM X 0 k = 0 := fun k k1 k2 => by unfold chgM; rw [if_neg (by omega), if_pos (by omega)]
  have c9 : ∀ k, chgM X 9 k = 0 := fun k => by unfold chgM; rw [if_pos rfl]
  have cx : ∀ a k, a ≠ 9 → ¬ (a = 0 ∧ 7 ≤ k ∧ k ≤ 13) → chgM X a k = X a k := fun a k z z2 => by unfold chgM; rw [if_neg z, if_neg (by omega), if_neg (by omega)]
  have c7 : chgM X 0 7 = X 0 3 := rfl
  have c3 : chgM X 0 3 = X 0 3 := cx 0 3 (by omega) (by omega)
  generalize hM : chgM X = M at *
  refine ⟨nz_1, ?_⟩
  have hb0 : But2 (fun a k => a = 13 ∧ k = 10) (fun _ => False) σ (sI σ 13 10 1) := But2.rf.up ⟨rfl, rfl⟩
  have hm1 : XMm M (sI σ 13 10 1) := hm.kept hb0.1 (fun a k z => by simp only [inXm] at z; omega)
  refine xs_restartF hW hm1 (fun τ hb hg hs0 hs => ?_)
  have hbf : But2 (fun a _ => a = 1164) (fun _ => False) τ (sI (sI (sI (sI (sI τ 1164 5 0) 1164 6 0) 1164 7 0) 1164 8 0) 1164 9 0) := by
    refine But2.up (But2.up (But2.up (But2.up (But2.up But2.rf ?_) ?_) ?_) ?_) ?_ <;> rfl
  have hm2 := (hm1.kept hb.1 (fun a k z => by simp only [inXm] at z; omega)).kept hbf.1 (fun a k z => by simp only [inXm] at z; omega)
  unfold wp_X4_forget
  refine xs_states hW hm2 ?_
  refine cl_restart (m := M 12) (v := M 13) cl_list h256 (fun υ hbl hc hsl => ?_)
  have hm3 := hm2.kept hbl.1 (fun a k z => by simp only [inXm] at z; unfold CS; omega)
  rw [hm3.2.2.2.2.1]
  have hbe : But2 (fun a k => a = 0 ∧ k = 8) (fun _ => False) υ (sI υ 0 8 (nI (M 0 3))) := But2.rf.up ⟨rfl, rfl⟩
  have g : ∀ a k, ¬ (a = 0 ∧ k = 8) → ¬ (1064 ≤ a ∧ a ≤ 1170) → ¬ (a = 13 ∧ k = 10) → gI (sI υ 0 8 (nI (M 0 3))) a k = gI σ a k := fun a k z1 z2 z3 => by
    rw [hbe.1 a k z1, hbl.1 a k (by unfold CS; omega), hbf.1 a k (by omega), hb.1 a k (by omega), hb0.1 a k z3]
  have gf : ∀ a k, 1064 ≤ a → a ≤ 1163 → gI (sI υ 0 8 (nI (M 0 3))) a k = gI τ a k := fun a k z1 z2 => by
    rw [hbe.1 a k (by omega), hbl.1 a k (by unfold CS; omega), hbf.1 a k (by omega)]
  have gs : ∀ o S, 1064 ≤ o + 1 → o + 1 ≤ 1163 → SS τ o S → SS (sI υ 0 8 (nI (M 0 3))) o S := fun o S z1 z2 hS => ((hS.kept2 hbf (fun z => z)).kept2 hbl (by unfold CT; omega)).kept2 hbe (fun z => z)
  refine hq _ ⟨hm3.kept hbe.1 (fun a k z => by simp only [inXm] at z; omega), Or.inl ?_, ⟨?_, ?_, fun k k1 k2 => ⟨?_, ?_, fun i hi => ?_⟩, fun k hk => ?_⟩, ⟨?_, ?_, ?_, ?_, ?_, fun i hi => ?_⟩, ?_, ⟨?_, fun hp => ?_, fun i hi => ?_⟩, ?_, fun b b1 b2 => ?_, ?_, ?_⟩ (fun a k hi => g a k (by simp only [inXm] at hi; omega) (by simp only [inXm] at hi; omega) (by simp only [inXm] at hi; omega))
  · rw [hbe.1 13 10 (by omega), hbl.1 13 10 (by unfold CS; omega), hbf.1 13 10 (by omega), hb.1 13 10 (by omega)]; simp [gI_sI]
  · rw [gf _ _ (by omega) (by omega)]; exact (hg 0 (by omega)).1
  · rw [gf _ _ (by omega) (by omega)]; exact (hg 0 (by omega)).2
  · rw [gf _ _ (by omega) (by omega), c9]; exact (hg k k2).1
  · rw [gf _ _ (by omega) (by omega)]; exact (hg k k2).2
  · rw [c9] at hi; omega
  · rcases Nat.eq_zero_or_pos k with z | z
    · subst z
      refine SS_congr (gs 1065 _ (by omega) (by omega) hs0) (fun s _ => ?_)
      unfold frL
      rw [inFr_0]
      have hf := hW.2.2.2.2.2.1
      by_cases e : s = M 0 3
      · rw [decide_eq_true e, decide_eq_true (show s < nSt M by unfold nSt; omega)]; rfl
      · rw [decide_eq_false e, Bool.and_false]
    · refine SS_congr (gs _ _ (by omega) (by omega) (hs k z hk)) (fun s _ => ?_)
      unfold frL inFrB
      rw [if_neg (by omega), c9]
      simp [anyN]
  · rw [hbe.1 _ _ (by omega), hbl.1 _ _ (by unfold CS; omega), c0 11 (by omega) (by omega)]; simp [gI_sI, nI_0]
  · rw [hbe.1 _ _ (by omega), hbl.1 _ _ (by unfold CS; omega), c0 9 (by omega) (by omega)]; simp [gI_sI, nI_0]
  · rw [hbe.1 _ _ (by omega), hbl.1 _ _ (by unfold CS; omega), c0 8 (by omega) (by omega)]; simp [gI_sI, nI_0]
  · rw [hbe.1 _ _ (by omega), hbl.1 _ _ (by unfold CS; omega), c0 10 (by omega) (by omega)]; simp [gI_sI, nI_0]
  · rw [hbe.1 _ _ (by omega), hbl.1 _ _ (by unfold CS; omega), c0 12 (by omega) (by omega)]; simp [gI_sI, nI_0]
  · rw [c0 11 (by omega) (by omega)] at hi; omega
  · unfold XLi
    rw [c0 13 (by omega) (by omega)]
    exact ⟨hc.kept hbe (fun a k z => by unfold CS at z; omega), SS_congr (hsl.kept2 hbe (fun z => z)) (fun s _ => by
      show _ = (decide (s < nSt M) && !anyN 0 _)
      rw [show anyN 0 _ = false from rfl, Bool.not_false, Bool.and_true]
      rfl)⟩
  · rw [g _ _ (by omega) (by omega) (by omega), cx 0 16 (by omega) (by omega)]; exact hro.1
  · rw [cx 0 16 (by omega) (by omega)] at hp ⊢
    rw [g _ _ (by omega) (by omega) (by omega)]; exact hro.2.1 hp
  · rw [cx 0 16 (by omega) (by omega)] at hi
    rw [g _ _ (by omega) (by omega) (by omega), cx 14 i (by omega) (by omega)]; exact hro.2.2 i hi
  · rw [c7, c3]; simp [gI_sI]
  · rw [g _ _ (by omega) (by omega) (by omega), cx 8 b (by omega) (by omega)]; exact h8 b b1 b2
  · rw [g _ _ (by omega) (by omega) (by omega), cx 0 14 (by omega) (by omega)]; exact h3
  · rw [g _ _ (by omega) (by omega) (by omega), cx 0 15 (by omega) (by omega)]; exact h4
