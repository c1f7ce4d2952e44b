/-! the class: small -/
theorem drp_any {n i : Nat} (hi : i < n) (m v : Nat → Nat) (g : Nat → Nat → Bool) : anyN (n - 1) (fun j => g (drp m i j) (drp v i j)) = anyN n (fun j => decide (j ≠ i) && g (m j) (v j)) := by
  cases h : anyN n (fun j => decide (j ≠ i) && g (m j) (v j))
  · refine anyN_f.mpr (fun j hj => ?_)
    unfold drp
    by_cases e : i ≤ j
    · rw [if_pos e, if_pos e]
      have := anyN_f.mp h (j + 1) (by omega)
      rw [decide_eq_true (show j + 1 ≠ i by omega), Bool.true_and] at this
      exact this
    · rw [if_neg e, if_neg e]
      have := anyN_f.mp h j (by omega)
      rw [decide_eq_true (show j ≠ i by omega), Bool.true_and] at this
      exact this
  · obtain ⟨j, hj, h2⟩ := anyN_iff.mp h
    simp only [Bool.and_eq_true, decide_eq_true_eq] at h2
    by_cases e : i ≤ j
    · refine anyN_iff.mpr ⟨j - 1, by omega, ?_⟩
      unfold drp
      rw [if_pos (by omega), if_pos (by omega), show j - 1 + 1 = j by omega]
      exact h2.2
    · refine anyN_iff.mpr ⟨j, by omega, ?_⟩
      unfold drp
      rw [if_neg e, if_neg e]
      exact h2.2
theorem isLft_drp {N : Ms} {i : Nat} (hi : i < N 0 13) (s : Nat) : isLft N i s = lo (N 0 13 - 1) (drp (N 12) i) (drp (N 13) i) s := by
  unfold isLft lo
  rw [drp_any hi (N 12) (N 13) (fun a b => inCubeB s a b)]
theorem XT_ag {M N : Ms} {σ : Sg} (h : agm M N) (hT : XT M σ) : XT N σ := by
  refine ⟨SS_congr hT.1 (fun s _ => by rw [nSt_ag h, isBadS_ag h]), fun s hs => ?_⟩
  rw [nSt_ag h] at hs
  exact SS_congr (hT.2 s hs) (fun t _ => (ldsB_ag h s t).symm)
theorem pbk_drp (m : Nat → Nat) (i k : Nat) : pbk (drp m i) i (m i) k = m k := by
  unfold pbk drp
  by_cases e : k = i
  · rw [if_pos e, e]
  · rw [if_neg e]
    by_cases e2 : i < k
    · rw [if_pos e2, if_pos (by omega), show k - 1 + 1 = k by omega]
    · rw [if_neg e2, if_neg (by omega)]
theorem CW_drp {n i : Nat} {m v : Nat → Nat} (h : CW n m v) : CW (n - 1) (drp m i) (drp v i) := fun k hk => by
  unfold drp
  split
  · exact h _ (by omega)
  · exact h _ (by omega)
theorem CB.m {M : Ms} {o : Nat} {σ τ : Sg} (hm : XMm M σ) (hb : CB o σ τ) (ho : 1000 ≤ o) : XMm M τ := hm.kept hb.1 (fun a k z => by simp only [inXm] at z; unfold CS; omega)
theorem CB.t {M : Ms} {o : Nat} {σ τ : Sg} (hm : XT M σ) (hb : CB o σ τ) (ho : 1060 ≤ o) (hN : nSt M ≤ 256) : XT M τ := hm.kept2 hb (fun a z => by unfold CT; omega) hN
theorem dropM_drp {N : Ms} {i k a : Nat} (h : a = 12 ∨ a = 13) (hk : k + 1 < N 0 13) : dropM N i a k = drp (N a) i k := by
  rw [dropM_c _ _ _ _ h]
  unfold drp
  by_cases q : i ≤ k
  · rw [if_pos ⟨q, hk⟩, if_pos q]
  · rw [if_neg (fun z => q z.1), if_neg q]
theorem xs_shrink {M : Ms} {σ : Sg} {Q : Int32 → Sg → Prop} (hW : WFm M) (hL : WFl M) (h : RX M σ) (hT : XT M σ) (hq : ∀ τ, RX (smallM (M 0 13) 0 M) τ → Q (nI (smallM (M 0 13) 0 M 0 13)) τ) : wp_X2_shrinkList σ Q := by
  have h256 := pow_le8 hW.2.1
  have h100 := hL.1
  intro L hL12
  rw [h.2.2.2.2.1.1.1]
  have main : ∀ (f i turn : Nat) (N : Ms) (τ : Sg), i + f = N 0 13 → turn + f = M 0 13 → (∀ a k, ¬ (a = 0 ∧ k = 13) → ¬ (a = 12 ∨ a = 13) → N a k = M a k) → WFl N → CB 1167 σ τ → CLr τ 1167 (nSt M) (N 0 13) (N 12) (N 13) → SS τ 1168 (lft (nSt M) (N 0 13) (N 12) (N 13)) → (∀ υ, RX (smallM f i N) υ → Q (nI (smallM f i N 0 13)) υ) → L (nI (M 0 13)) (nI i) (nI turn) τ := by
    intro f
    induction f with
    | zero =>
      intro i turn N τ hi ht hag hLN hb hc hs hQ
      apply hL12
      have e1 : nSt N = nSt M := by unfold nSt; rw [hag 0 1 (by omega) (by omega)]
      have hR : RX N τ := RX_list hW h hag hb ⟨by rw [e1]; exact hc, by rw [e1]; exact hs⟩
      have := hQ τ hR
      rw [i_lt (by omega) (by omega)]
      refine ⟨fun z => absurd z (by omega), fun _ => ?_⟩
      have e : smallM 0 i N 0 13 = i := by show N 0 13 = i; omega
      rw [e] at this
      exact this
    | succ f ih =>
      intro i turn N τ hi ht hag hLN hb hc hs hQ
      have hn : N 0 13 ≤ 100 := hLN.1
      have hin : i < N 0 13 := by omega
      have ag : agm M N := ⟨fun k hk => hag 0 k (by omega) (by omega), fun a k h1 h2 => hag a k (by omega) (by omega)⟩
      have hWN : WFm N := WFm_ag ag (hag 0 7 (by omega) (by omega)) hW
      have hcw := WFl_cw hWN hLN
      have e1 : nSt N = nSt M := nSt_ag ag
      apply hL12
      rw [i_lt (by omega) (by omega)]
      refine ⟨fun _ => ?_, fun z => absurd (show turn < M 0 13 by omega) z⟩
      refine cl_cubeAt cl_list hc.1 hn hin (hc.2.2 i hin) ?_
      refine cl_takeOut cl_list hc hcw hn h256 hin (fun υ hb2 hc2 hs2 => ?_)
      have hbυ : CB 1167 σ υ := hb.tr hb2
      have hmN : XMm N υ := XMm_ag ag (CB.m h.1 hbυ (by decide))
      have hTN : XT N υ := XT_ag ag (CB.t hT hbυ (by decide) h256)
      have hsN : SS υ 1168 (fun s => decide (s < nSt N) && lo (N 0 13 - 1) (drp (N 12) i) (drp (N 13) i) s) := SS_congr hs2 (fun s _ => by rw [e1]; rfl)
      refine xs_fault hWN hmN hTN hsN ?_
      have ej : jF N (lo (N 0 13 - 1) (drp (N 12) i) (drp (N 13) i)) = jdg N i := by rw [jdg_F]; exact jF_congr hWN (fun s _ => (isLft_drp hin s).symm)
      rw [ej]
      have jv := jdg_v N i
      have eS : smallM (f + 1) i N = if jdg N i ≠ 0 then smallM f (i + 1) N else smallM f i (dropM N i) := by
        show (if i < N 0 13 then _ else _) = _
        rw [if_pos hin]
      rw [eS] at hQ
      rw [i_0, i_eq (by omega) (by decide), lit, i_add]
      refine ⟨fun z => ?_, fun z => ?_⟩
      · rw [if_neg (by omega)] at hQ
        refine ih i (turn + 1) (dropM N i) υ (by rw [dropM_n]; omega) (by omega) (fun a k z1 z2 => by rw [dropM_o N i a k (by omega) (by omega) z1]; exact hag a k z1 z2) (WFl_drop hLN i) hbυ ?_ ?_ hQ
        · rw [dropM_n]
          exact CLr_ext hc2 (fun k hk => ⟨dropM_drp (Or.inl rfl) (by omega), dropM_drp (Or.inr rfl) (by omega)⟩)
        · rw [dropM_n]
          exact SS_congr hs2 (fun s _ => lft_ext (fun k hk => ⟨dropM_drp (Or.inl rfl) (by omega), dropM_drp (Or.inr rfl) (by omega)⟩) s)
      · rw [if_pos z] at hQ
        refine cl_putBack cl_list hc2 (CW_drp hcw) (by omega) h256 (by omega) (hcw i hin).1 (hcw i hin).2 (fun ω hb3 hc3 hs3 => ?_)
        rw [i_add]
        have en : N 0 13 - 1 + 1 = N 0 13 := by omega
        rw [en] at hc3 hs3
        exact ih (i + 1) (turn + 1) N ω (by omega) (by omega) hag hLN (hbυ.tr hb3) (CLr_ext hc3 (fun k _ => ⟨(pbk_drp _ _ _).symm, (pbk_drp _ _ _).symm⟩)) (SS_congr hs3 (fun s _ => lft_ext (fun k _ => ⟨(pbk_drp _ _ _).symm, (pbk_drp _ _ _).symm⟩) s)) hQ
  exact main (M 0 13) 0 0 M σ (by omega) (by omega) (fun _ _ _ _ => rfl) hL But2.rf h.2.2.2.2.1.1 h.2.2.2.2.1.2 hq
theorem xp_small {M : Ms} {σ : Sg} {Q : Int32 → Sg → Prop} (hW : WFm M) (hL : WFl M) (h : RX M σ) (hq : XDoes (op_small M) Q) : wp_X9_small σ Q := by
  unfold op_small at hq
  unfold wp_X9_small
  refine h.renew hW (fun τ hR hT _ => ?_)
  have hS : SS τ 1168 (fun s => decide (s < nSt M) && lo (M 0 13) (M 12) (M 13) s) := hR.2.2.2.2.1.2
  refine xs_fault hW hR.1 hT hS ?_
  have ej : jF M (lo (M 0 13) (M 12) (M 13)) = jdg M 100 := by rw [jdg_F]; exact jF_congr hW (fun s _ => (isLft_lo hL s).symm)
  rw [ej]
  have jv := jdg_v M 100
  rw [i_0, i_eq (by omega) (by decide)]
  refine ⟨fun z => ?_, fun z => ?_⟩
  · rw [if_neg (by omega)] at hq
    exact xs_shrink hW hL hR hT hq
  · rw [if_pos z] at hq
    exact xs_refuse hW hR (by decide) (by decide) hq
