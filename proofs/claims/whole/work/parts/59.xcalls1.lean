/-! the class: refusals and the plain calls -/
theorem ldsB_ag {M N : Ms} (h : agm M N) (s t : Nat) : ldsB N s t = ldsB M s t := by
  unfold ldsB
  rw [h.sc 2 (by omega)]
  exact anyN_congr (fun c _ => by rw [rightB_ag h, nxtN_ag h])
theorem nSt_ag {M N : Ms} (h : agm M N) : nSt N = nSt M := by unfold nSt; rw [h.sc 1 (by omega)]
theorem XMm_ag {M N : Ms} {σ : Sg} (h : agm M N) (hR : XMm M σ) : XMm N σ := by
  obtain ⟨h1, h2, h3, h4, h5, h6, h7, h8, h9, h10, h11⟩ := hR
  refine ⟨by rw [h.sc 4 (by omega)]; exact h1, by rw [h.sc 0 (by omega)]; exact h2, by rw [h.sc 1 (by omega)]; exact h3, by rw [h.sc 2 (by omega)]; exact h4, by rw [h.sc 3 (by omega)]; exact h5, by rw [h.sc 5 (by omega)]; exact h6, by rw [h.sc 6 (by omega)]; exact h7, fun p hp => ?_, fun j hj => ?_, fun i hi => ?_, fun i hi => ?_⟩
  · rw [h.sc 0 (by omega)] at hp
    rw [h.ar 1 p (by omega) (by omega), h.ar 2 p (by omega) (by omega), h.ar 3 p (by omega) (by omega), h.ar 4 p (by omega) (by omega)]; exact h8 p hp
  · rw [h.sc 1 (by omega)] at hj
    rw [h.ar 7 j (by omega) (by omega)]; exact h9 j hj
  · rw [h.sc 5 (by omega)] at hi
    rw [h.ar 5 i (by omega) (by omega)]; exact h10 i hi
  · rw [h.sc 6 (by omega)] at hi
    rw [h.ar 6 i (by omega) (by omega)]; exact h11 i hi
theorem XSt_ag {M N : Ms} {σ : Sg} (h : agm M N) (hR : XSt M σ) : XSt N σ := by
  rcases hR with z | ⟨z, a, b⟩
  · exact Or.inl z
  · refine Or.inr ⟨z, SS_congr a (fun s _ => by rw [nSt_ag h, isBadS_ag h]), fun s hs => ?_⟩
    rw [nSt_ag h] at hs
    exact SS_congr (b s hs) (fun t _ => (ldsB_ag h s t).symm)
theorem frL_ag {M N : Ms} (h : agm M N) (h2 : ∀ k, N 9 k = M 9 k) (h3 : ∀ a k, 100 ≤ a → N a k = M a k) (k s : Nat) : frL N k s = frL M k s := by
  unfold frL inFrB
  rw [nSt_ag h, h.sc 3 (by omega), h2 k]
  congr 1
  split
  · rfl
  · congr 1
    exact anyN_congr (fun i _ => by rw [h3 _ _ (by omega), h3 _ _ (by omega)])
theorem XFr_ag {M N : Ms} {σ : Sg} (h : agm M N) (h2 : ∀ k, N 9 k = M 9 k) (h3 : ∀ a k, 100 ≤ a → N a k = M a k) (hR : XFr M σ) : XFr N σ := by
  obtain ⟨a, b, c, d⟩ := hR
  refine ⟨a, by rw [nSt_ag h]; exact b, fun k k1 k2 => ?_, fun k hk => SS_congr (d k hk) (fun s _ => (frL_ag h h2 h3 k s).symm)⟩
  rw [nSt_ag h, h2 k]
  exact CLr_ext (c k k1 k2) (fun i _ => ⟨h3 _ _ (by omega), h3 _ _ (by omega)⟩)
theorem XPr_ag {M N : Ms} {σ : Sg} (h0 : ∀ k, 8 ≤ k → k ≤ 12 → N 0 k = M 0 k) (h2 : ∀ a k, 10 ≤ a → a ≤ 11 → N a k = M a k) (hR : XPr M σ) : XPr N σ := by
  obtain ⟨a, b, c, d, e, f⟩ := hR
  refine ⟨by rw [h0 11 (by omega) (by omega)]; exact a, by rw [h0 9 (by omega) (by omega)]; exact b, by rw [h0 8 (by omega) (by omega)]; exact c, by rw [h0 10 (by omega) (by omega)]; exact d, by rw [h0 12 (by omega) (by omega)]; exact e, fun i hi => ?_⟩
  rw [h0 11 (by omega) (by omega)] at hi
  rw [h2 10 i (by omega) (by omega), h2 11 i (by omega) (by omega)]
  exact f i hi
def lxS (a k : Nat) : Prop := (a = 0 ∧ k = 8) ∨ a = 7 ∨ a = 8 ∨ (1167 ≤ a ∧ a ≤ 1174 ∧ a ≠ 1168)
def lxT (a : Nat) : Prop := wkT a ∨ a = 1169
theorem XSt.kept3 {M : Ms} {σ τ : Sg} (h : XSt M σ) (hb : But2 lxS lxT σ τ) (hN : nSt M ≤ 256) : XSt M τ := by
  rcases h with h | ⟨h, h2, h3⟩
  · exact Or.inl (by rw [hb.1 13 10 (by unfold lxS; omega)]; exact h)
  · exact Or.inr ⟨by rw [hb.1 13 10 (by unfold lxS; omega)]; exact h, h2.kept2 hb (by unfold lxT wkT; omega), fun s hs => (h3 s hs).kept2 hb (by unfold lxT wkT; omega)⟩
/-- the list, the row, the run, refusals, failures change alone -/
theorem RX_ls {M N : Ms} {σ τ : Sg} (hW : WFm M) (h : RX M σ) (hag : ∀ a k, ¬ lsM a k → N a k = M a k) (hb : But2 lxS lxT σ τ) (hL : XLi N τ) (hR : XRo N τ) (hO : XOt N τ) : RX N τ := by
  have hN : nSt M ≤ 256 := pow_le8 hW.2.1
  obtain ⟨a, b, c, d, e, f, g⟩ := h
  have ag : agm M N := ⟨fun k hk => hag 0 k (by unfold lsM; omega), fun a k h1 h2 => hag a k (by unfold lsM; omega)⟩
  exact ⟨XMm_ag ag (a.kept hb.1 (fun a k z => by simp only [inXm, lxS] at *; omega)), XSt_ag ag (b.kept3 hb hN), XFr_ag ag (fun k => hag 9 k (by unfold lsM; omega)) (fun a k z => hag a k (by unfold lsM; omega)) (c.kept hb (fun a k _ _ => by unfold lxS; omega) (fun a _ _ => by unfold lxT wkT; omega)), XPr_ag (fun k _ _ => hag 0 k (by unfold lsM; omega)) (fun a k _ _ => hag a k (by unfold lsM; omega)) (d.kept hb (fun a k _ _ => by unfold lxS; omega)), hL, hR, hO⟩
theorem XLi_ag {M N : Ms} {σ : Sg} (h1 : N 0 1 = M 0 1) (h13 : N 0 13 = M 0 13) (h2 : ∀ a k, 12 ≤ a → a ≤ 13 → N a k = M a k) (hR : XLi M σ) : XLi N σ := by
  have e12 : N 12 = M 12 := funext (fun k => h2 12 k (by omega) (by omega))
  have e13 : N 13 = M 13 := funext (fun k => h2 13 k (by omega) (by omega))
  have en : nSt N = nSt M := by unfold nSt; rw [h1]
  unfold XLi at *
  rw [e12, e13, en, h13]
  exact hR
theorem XRo_ag {M N : Ms} {σ : Sg} (h16 : N 0 16 = M 0 16) (h2 : ∀ k, N 14 k = M 14 k) (hR : XRo M σ) : XRo N σ := by
  obtain ⟨a, b, c⟩ := hR
  refine ⟨by rw [h16]; exact a, by rw [h16]; exact b, fun i hi => ?_⟩
  rw [h16] at hi
  rw [h2]
  exact c i hi
theorem xs_refuse {M : Ms} {σ : Sg} {b : Nat} {Q : Int32 → Sg → Prop} (hW : WFm M) (h : RX M σ) (h1 : 2 ≤ b) (h2 : b ≤ 8) (hq : XDoes (rf b M) Q) : wp_X9_refuse (-(nI b)) σ Q := by
  have e : -(-(nI b)) = nI b := Int32.neg_neg
  obtain ⟨o1, o2, o3, o4⟩ := h.2.2.2.2.2.2
  have key : Q (-(nI b)) (sI σ 1174 b (nI (M 8 b + 1))) := by
    have q : ∀ a k, a ≠ 8 → up M 8 b (M 8 b + 1) a k = M a k := fun a k z => up_ne _ _ _ _ _ _ (by omega)
    have hb : But2 lxS lxT σ (sI σ 1174 b (nI (M 8 b + 1))) := But2.rf.up (by unfold lxS; omega)
    have hb2 : But2 (fun a _ => a = 1174) (fun _ => False) σ (sI σ 1174 b (nI (M 8 b + 1))) := But2.rf.up rfl
    refine xd hq (RX_ls hW h (fun a k z => q a k (by unfold lsM at z; omega)) hb (XLi_ag (M := M) (q _ _ (by omega)) (q _ _ (by omega)) (fun a k _ _ => q a k (by omega)) (h.2.2.2.2.1.kept hb2 (fun a k _ _ => by omega) (fun z => z))) (XRo_ag (M := M) (q _ _ (by omega)) (fun k => q _ _ (by omega)) (h.2.2.2.2.2.1.kept hb2 (fun a k _ _ => by omega))) ⟨?_, fun j j1 j2 => ?_, ?_, ?_⟩)
    · rw [q 0 7 (by omega), gI_sI, if_neg (by omega)]; exact o1
    · rw [gI_sI, up_at]
      by_cases z : j = b
      · rw [if_pos ⟨rfl, z⟩, if_pos ⟨rfl, z⟩]
      · rw [if_neg (by omega), if_neg (by omega)]; exact o2 j j1 j2
    · rw [q 0 14 (by omega), gI_sI, if_neg (by omega)]; exact o3
    · rw [q 0 15 (by omega), gI_sI, if_neg (by omega)]; exact o4
  unfold wp_X9_refuse
  rw [e, i_cl (by omega), o2 b h1 h2]
  simp +decide (disch := omega) only [lit, lit_neg, i_add, i_mul, i_sub, i_div, i_and, i_or, i_shl1, Nat.one_mul, i_shr1, i_bit1, i_lt, i_eq, i_in, i_cl, i_0, gI_sI, bi_0n, bi_1n, nz_bi, nz_0n, nz_1n, vn_0n, vn_1n, vn_bi, and_true, true_and, not_false_eq_true, not_true_eq_false, false_implies, true_implies, forall_const, implies_true, ite_true, ite_false, Bool.not_eq_true, Bool.not_eq_false, and_false, false_and, if_true, if_false, if_pos, true_or, or_true, false_or, or_false, show b < 9 by omega]
  have c : b = 2 ∨ b = 3 ∨ b = 4 ∨ b = 5 ∨ b = 6 ∨ b = 7 ∨ b = 8 := by omega
  have l1 : ¬ (-2 : Int32) < -(nI b) := by rcases c with c | c | c | c | c | c | c <;> subst c <;> decide
  have l2 : ¬ -(nI b) < (-8 : Int32) := by rcases c with c | c | c | c | c | c | c <;> subst c <;> decide
  exact ⟨fun z => absurd z l1, fun _ => ⟨fun z => absurd z l2, fun _ => key⟩⟩
