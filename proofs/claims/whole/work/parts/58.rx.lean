/-! THE CLASS'S STATE in the plain words -/
def frL (M : Ms) (k s : Nat) : Bool := decide (s < nSt M) && inFrB M k s
def XFr (M : Ms) (σ : Sg) : Prop := gI σ 1064 2 = nI 0 ∧ gI σ 1064 3 = nI (nSt M) ∧ (∀ k, 1 ≤ k → k ≤ 24 → CLr σ (1064 + 4 * k) (nSt M) (M 9 k) (M (100 + k)) (M (200 + k))) ∧ ∀ k, k ≤ 24 → SS σ (1064 + 4 * k + 1) (frL M k)
def XPr (M : Ms) (σ : Sg) : Prop := gI σ 1164 5 = nI (M 0 11) ∧ gI σ 1164 6 = nI (M 0 9) ∧ gI σ 1164 7 = nI (M 0 8) ∧ gI σ 1164 8 = nI (M 0 10) ∧ gI σ 1164 9 = nI (M 0 12) ∧ ∀ i, i < M 0 11 → gI σ 1165 i = nI (M 10 i) ∧ gI σ 1166 i = nI (M 11 i)
def XLi (M : Ms) (σ : Sg) : Prop := CLr σ 1167 (nSt M) (M 0 13) (M 12) (M 13) ∧ SS σ 1168 (lft (nSt M) (M 0 13) (M 12) (M 13))
def XRo (M : Ms) (σ : Sg) : Prop := (gI σ 1172 2 = bi (decide (0 < M 0 16))) ∧ (0 < M 0 16 → gI σ 1172 1 = nI (M 0 16 - 1)) ∧ ∀ i, i + 1 < M 0 16 → gI σ 1173 i = nI (M 14 i)
def XOt (M : Ms) (σ : Sg) : Prop := gI σ 0 8 = nI (M 0 7) ∧ (∀ b, 2 ≤ b → b ≤ 8 → gI σ 1174 b = nI (M 8 b)) ∧ gI σ 1171 3 = e1 (M 0 14) ∧ gI σ 1171 4 = e1 (M 0 15)
def RX (M : Ms) (σ : Sg) : Prop := XMm M σ ∧ XSt M σ ∧ XFr M σ ∧ XPr M σ ∧ XLi M σ ∧ XRo M σ ∧ XOt M σ
/-- what the class does at a call -/
def XDoes (r : Int32 × Ms) (Q : Int32 → Sg → Prop) : Prop := ∀ τ, RX r.2 τ → Q r.1 τ
theorem xd {v : Int32} {N : Ms} {τ : Sg} {Q : Int32 → Sg → Prop} (hq : XDoes (v, N) Q) (h : RX N τ) : Q v τ := hq τ h
/-- places of work of the class -/
def wkS (a k : Nat) : Prop := a = 7 ∨ a = 8
def wkT (a : Nat) : Prop := (20 ≤ a ∧ a ≤ 29) ∨ (33 ≤ a ∧ a ≤ 1053 ∧ a % 4 = 1) ∨ a = 1061 ∨ a = 1063 ∨ a = 17
theorem XSt.kept {M : Ms} {σ τ : Sg} (h : XSt M σ) (hb : But2 wkS wkT σ τ) (hN : nSt M ≤ 256) : XSt M τ := by
  rcases h with h | ⟨h, h2, h3⟩
  · exact Or.inl (by rw [hb.1 13 10 (by unfold wkS; omega)]; exact h)
  · exact Or.inr ⟨by rw [hb.1 13 10 (by unfold wkS; omega)]; exact h, h2.kept2 hb (by unfold wkT; omega), fun s hs => (h3 s hs).kept2 hb (by unfold wkT; omega)⟩
theorem XFr.kept {S : Nat → Nat → Prop} {T : Nat → Prop} {M : Ms} {σ τ : Sg} (h : XFr M σ) (hb : But2 S T σ τ) (hs : ∀ a k, 1064 ≤ a → a ≤ 1163 → ¬ S a k) (ht : ∀ a, 1064 ≤ a → a ≤ 1163 → ¬ T a) : XFr M τ := by
  obtain ⟨h1, h2, h3, h4⟩ := h
  refine ⟨by rw [hb.1 _ _ (hs _ _ (by omega) (by omega))]; exact h1, by rw [hb.1 _ _ (hs _ _ (by omega) (by omega))]; exact h2, fun k k1 k2 => (h3 k k1 k2).kept hb (fun a j z => hs a j (by unfold CS at z; omega) (by unfold CS at z; omega)), fun k hk => (h4 k hk).kept2 hb (ht _ (by omega) (by omega))⟩
theorem XPr.kept {S : Nat → Nat → Prop} {T : Nat → Prop} {M : Ms} {σ τ : Sg} (h : XPr M σ) (hb : But2 S T σ τ) (hs : ∀ a k, 1164 ≤ a → a ≤ 1166 → ¬ S a k) : XPr M τ := by
  have q : ∀ a k, 1164 ≤ a → a ≤ 1166 → gI τ a k = gI σ a k := fun a k z z2 => hb.1 a k (hs a k z z2)
  obtain ⟨h1, h2, h3, h4, h5, h6⟩ := h
  refine ⟨by rw [q _ _ (by omega) (by omega)]; exact h1, by rw [q _ _ (by omega) (by omega)]; exact h2, by rw [q _ _ (by omega) (by omega)]; exact h3, by rw [q _ _ (by omega) (by omega)]; exact h4, by rw [q _ _ (by omega) (by omega)]; exact h5, fun i hi => ?_⟩
  rw [q _ _ (by omega) (by omega), q _ _ (by omega) (by omega)]
  exact h6 i hi
theorem XLi.kept {S : Nat → Nat → Prop} {T : Nat → Prop} {M : Ms} {σ τ : Sg} (h : XLi M σ) (hb : But2 S T σ τ) (hs : ∀ a k, 1167 ≤ a → a ≤ 1170 → ¬ S a k) (ht : ¬ T 1169) : XLi M τ :=
  ⟨h.1.kept hb (fun a j z => hs a j (by unfold CS at z; omega) (by unfold CS at z; omega)), h.2.kept2 hb ht⟩
theorem XRo.kept {S : Nat → Nat → Prop} {T : Nat → Prop} {M : Ms} {σ τ : Sg} (h : XRo M σ) (hb : But2 S T σ τ) (hs : ∀ a k, 1172 ≤ a → a ≤ 1173 → ¬ S a k) : XRo M τ := by
  have q : ∀ a k, 1172 ≤ a → a ≤ 1173 → gI τ a k = gI σ a k := fun a k z z2 => hb.1 a k (hs a k z z2)
  obtain ⟨h1, h2, h3⟩ := h
  refine ⟨by rw [q _ _ (by omega) (by omega)]; exact h1, fun z => by rw [q _ _ (by omega) (by omega)]; exact h2 z, fun i hi => by rw [q _ _ (by omega) (by omega)]; exact h3 i hi⟩
theorem XOt.kept {S : Nat → Nat → Prop} {T : Nat → Prop} {M : Ms} {σ τ : Sg} (h : XOt M σ) (hb : But2 S T σ τ) (hs : ∀ a k, (a = 0 ∨ a = 1171 ∨ a = 1174) → ¬ S a k) : XOt M τ := by
  have q : ∀ a k, (a = 0 ∨ a = 1171 ∨ a = 1174) → gI τ a k = gI σ a k := fun a k z => hb.1 a k (hs a k z)
  obtain ⟨h1, h2, h3, h4⟩ := h
  refine ⟨by rw [q _ _ (by omega)]; exact h1, fun b b1 b2 => by rw [q _ _ (by omega)]; exact h2 b b1 b2, by rw [q _ _ (by omega)]; exact h3, by rw [q _ _ (by omega)]; exact h4⟩
/-- work keeps the state -/
theorem RX.work {M : Ms} {σ τ : Sg} (hW : WFm M) (h : RX M σ) (hb : But2 wkS wkT σ τ) : RX M τ := by
  have hN : nSt M ≤ 256 := pow_le8 hW.2.1
  obtain ⟨a, b, c, d, e, f, g⟩ := h
  exact ⟨a.kept hb.1 (fun a k z => by simp only [inXm, wkS] at *; omega), b.kept hb hN, c.kept hb (fun a k _ _ => by unfold wkS; omega) (fun a _ _ => by unfold wkT; omega), d.kept hb (fun a k _ _ => by unfold wkS; omega), e.kept hb (fun a k _ _ => by unfold wkS; omega) (by unfold wkT; omega), f.kept hb (fun a k _ _ => by unfold wkS; omega), g.kept hb (fun a k _ => by unfold wkS; omega)⟩
/-- the steps are there -/
theorem RX.renew {M : Ms} {σ : Sg} {Q : Sg → Prop} (hW : WFm M) (h : RX M σ) (hq : ∀ τ, RX M τ → XT M τ → gI τ 13 10 = 0 → Q τ) : wp_X8_renew σ Q := by
  obtain ⟨a, b, c, d, e, f, g⟩ := h
  refine xs_renew hW a b (fun τ hb hz hT => hq τ ⟨a.kept hb.1 (fun a k z => by simp only [inXm, rnS] at *; omega), Or.inr ⟨hz, hT⟩, c.kept hb (fun a k _ _ => by unfold rnS; omega) (fun a _ _ => by unfold rnT; omega), d.kept hb (fun a k _ _ => by unfold rnS; omega), e.kept hb (fun a k _ _ => by unfold rnS; omega) (by unfold rnT; omega), f.kept hb (fun a k _ _ => by unfold rnS; omega), g.kept hb (fun a k _ => by unfold rnS; omega)⟩ hT hz)
