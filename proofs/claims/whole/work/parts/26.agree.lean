/-! what the proof changes, and what it leaves -/
def prM (a k : Nat) : Prop := (a = 0 ∧ 8 ≤ k ∧ k ≤ 12) ∨ (9 ≤ a ∧ a ≤ 11) ∨ 100 ≤ a
def agM (M M' : Ms) : Prop := ∀ a k, ¬ prM a k → M' a k = M a k
theorem agM.rf {M : Ms} : agM M M := fun _ _ _ => rfl
theorem agM.tr {M N P : Ms} (h : agM M N) (h2 : agM N P) : agM M P := fun a k z => (h2 a k z).trans (h a k z)
theorem agM.up {M N : Ms} (h : agM M N) {a k v : Nat} (hp : prM a k) : agM M (up N a k v) := fun b j z => by
  rw [up_at, if_neg (fun q => z (by rw [q.1, q.2]; exact hp))]
  exact h b j z
/-- the same machine -/
def agm (M N : Ms) : Prop := (∀ k, k ≤ 6 → N 0 k = M 0 k) ∧ ∀ a k, 1 ≤ a → a ≤ 7 → N a k = M a k
theorem agm.sc {M N : Ms} (h : agm M N) (k : Nat) (hk : k ≤ 6) : N 0 k = M 0 k := h.1 k hk
theorem agm.ar {M N : Ms} (h : agm M N) (a k : Nat) (ha : 1 ≤ a) (ha2 : a ≤ 7) : N a k = M a k := h.2 a k ha ha2
theorem agM.m {M N : Ms} (h : agM M N) : agm M N := ⟨fun k hk => h 0 k (by simp [prM]; omega), fun a k ha hb => h a k (by simp [prM]; omega)⟩
theorem vcomp_ag {M N : Ms} (h : agm M N) (s c : Nat) (W : Nat → Bool) (p : Nat) : vcomp N s c W p = vcomp M s c W p := by
  unfold vcomp
  rw [h.ar 1 p (by decide) (by decide), h.ar 2 p (by decide) (by decide), h.ar 3 p (by decide) (by decide), h.ar 4 p (by decide) (by decide)]
theorem VV_ag {M N : Ms} (h : agm M N) (s c : Nat) : ∀ n, VV N s c n = VV M s c n
  | 0 => rfl
  | n + 1 => by
    funext q
    show (if q = n then vcomp N s c (VV N s c n) n else VV N s c n q) = (if q = n then vcomp M s c (VV M s c n) n else VV M s c n q)
    rw [VV_ag h s c n, vcomp_ag h]
theorem val_ag {M N : Ms} (h : agm M N) (s c : Nat) : val N s c = val M s c := by
  unfold val
  rw [h.sc 0 (by decide), VV_ag h]
theorem rightB_ag {M N : Ms} (h : agm M N) (s c : Nat) : rightB N s c = rightB M s c := by
  unfold rightB
  rw [h.sc 5 (by decide), val_ag h]
  exact allN_congr (fun i _ => by rw [h.ar 5 i (by decide) (by decide)])
theorem bitsN_congr {n : Nat} {f g : Nat → Bool} (h : ∀ i, i < n → f i = g i) : bitsN n f = bitsN n g := by
  induction n with
  | zero => rfl
  | succ n ih => simp only [bitsN]; rw [ih (fun i hi => h i (by omega)), h n (by omega)]
theorem nxtN_ag {M N : Ms} (h : agm M N) (s c : Nat) : nxtN N s c = nxtN M s c := by
  unfold nxtN
  rw [h.sc 1 (by decide), val_ag h]
  exact bitsN_congr (fun i _ => by rw [h.ar 7 i (by decide) (by decide), h.ar 2 _ (by decide) (by decide)])
theorem badB_ag {M N : Ms} (h : agm M N) (s c : Nat) : badB N s c = badB M s c := by
  unfold badB
  rw [rightB_ag h, h.sc 4 (by decide), val_ag h]
theorem fairN_ag {M N : Ms} (h : agm M N) (s c : Nat) : fairN N s c = fairN M s c := by
  unfold fairN
  rw [h.sc 6 (by decide), val_ag h]
  exact bitsN_congr (fun i _ => by rw [h.ar 6 i (by decide) (by decide)])
theorem isBadS_ag {M N : Ms} (h : agm M N) (s : Nat) : isBadS N s = isBadS M s := by
  unfold isBadS
  rw [h.sc 2 (by decide)]
  exact anyN_congr (fun c _ => badB_ag h s c)
theorem ldIntoB_ag {M N : Ms} (h : agm M N) (s m v : Nat) : ldIntoB N s m v = ldIntoB M s m v := by
  unfold ldIntoB
  rw [h.sc 2 (by decide)]
  exact anyN_congr (fun c _ => by rw [rightB_ag h, nxtN_ag h])
theorem toN_ag {M N : Ms} (h : agm M N) (s c : Nat) : toN N s c = toN M s c := by
  unfold toN
  rw [rightB_ag h, nxtN_ag h]
theorem WFm_ag {M N : Ms} (h : agm M N) (hr : N 0 7 = M 0 7) (hW : WFm M) : WFm N := by
  obtain ⟨w0, w1, w2, w3, w4, w5, w6, w7, wp, wb, wa, wf⟩ := hW
  refine ⟨by rw [h.sc 0 (by decide)]; exact w0, by rw [h.sc 1 (by decide)]; exact w1, by rw [h.sc 2 (by decide)]; exact w2, by rw [h.sc 5 (by decide)]; exact w3, by rw [h.sc 6 (by decide)]; exact w4, by rw [h.sc 3 (by decide), h.sc 1 (by decide)]; exact w5, by rw [h.sc 4 (by decide), h.sc 0 (by decide)]; exact w6, by rw [hr, h.sc 1 (by decide)]; exact w7, fun p hp => ?_, fun j hj => ?_, fun i hi => ?_, fun i hi => ?_⟩
  · rw [h.sc 0 (by decide)] at hp ⊢
    rw [h.ar 1 p (by decide) (by decide), h.ar 2 p (by decide) (by decide), h.ar 3 p (by decide) (by decide), h.ar 4 p (by decide) (by decide), h.sc 1 (by decide), h.sc 2 (by decide), h.ar 7 _ (by decide) (by decide)]
    exact wp p hp
  · rw [h.sc 1 (by decide)] at hj
    rw [h.ar 7 j (by decide) (by decide), h.sc 0 (by decide), h.ar 1 _ (by decide) (by decide), h.ar 4 _ (by decide) (by decide)]
    exact wb j hj
  · rw [h.sc 5 (by decide)] at hi
    rw [h.sc 0 (by decide), h.ar 5 i (by decide) (by decide)]
    exact wa i hi
  · rw [h.sc 6 (by decide)] at hi
    rw [h.sc 0 (by decide), h.ar 6 i (by decide) (by decide)]
    exact wf i hi
theorem RMm_ag {M N : Ms} {σ : Sg} (h : agm M N) (hR : RMm M σ) : RMm N σ := by
  obtain ⟨r5, r6, r7, r8, r9, r10, r11, rp, ra, rf⟩ := hR
  refine ⟨by rw [h.sc 0 (by decide)]; exact r5, by rw [h.sc 1 (by decide)]; exact r6, by rw [h.sc 2 (by decide)]; exact r7, by rw [h.sc 3 (by decide)]; exact r8, by rw [h.sc 4 (by decide)]; exact r9, by rw [h.sc 5 (by decide)]; exact r10, by rw [h.sc 6 (by decide)]; exact r11, fun p hp => ?_, fun i hi => ?_, fun i hi => ?_⟩
  · rw [h.sc 0 (by decide)] at hp
    rw [h.ar 1 p (by decide) (by decide), h.ar 2 p (by decide) (by decide), h.ar 3 p (by decide) (by decide), h.ar 4 p (by decide) (by decide)]
    exact rp p hp
  · rw [h.sc 5 (by decide)] at hi
    rw [h.ar 5 i (by decide) (by decide)]
    exact ra i hi
  · rw [h.sc 6 (by decide)] at hi
    rw [h.ar 6 i (by decide) (by decide)]
    exact rf i hi
theorem TB_ag {M N : Ms} {σ : Sg} (h : agm M N) (hT : TB M σ) : TB N σ := by
  intro s c hs hc
  rw [h.sc 1 (by decide)] at hs
  rw [h.sc 2 (by decide)] at hc
  have := hT s c hs hc
  unfold ent at this ⊢
  rw [toN_ag h, badB_ag h, fairN_ag h]
  exact this
theorem RLs_ag {M N : Ms} {σ : Sg} (h : agM M N) (hR : RLs M σ) : RLs N σ := by
  obtain ⟨h1, h2, h3, h4, h5, h6, h7, h8⟩ := hR
  have q : ∀ k, 13 ≤ k → N 0 k = M 0 k := fun k hk => h 0 k (by simp [prM]; omega)
  have q2 : ∀ a k, 12 ≤ a → a ≤ 14 → N a k = M a k := fun a k ha hb => h a k (by simp [prM]; omega)
  refine ⟨by rw [h 0 7 (by simp [prM])]; exact h1, fun b b1 b2 => ?_, by rw [q 13 (by decide)]; exact h3, fun i hi => ?_, by rw [q 14 (by decide)]; exact h5, by rw [q 15 (by decide)]; exact h6, by rw [q 16 (by decide)]; exact h7, fun i hi => ?_⟩
  · rw [h 8 b (by simp [prM])]; exact h2 b b1 b2
  · rw [q 13 (by decide)] at hi
    rw [q2 12 i (by decide) (by decide), q2 13 i (by decide) (by decide)]
    exact h4 i hi
  · rw [q 16 (by decide)] at hi
    rw [q2 14 i (by decide) (by decide)]
    exact h8 i hi
/-- the reference's places that the proof writes -/
def prS (a k : Nat) : Prop := (12 ≤ a ∧ a ≤ 19) ∨ (a = 0 ∧ ((23 ≤ k ∧ k ≤ 26) ∨ k = 31 ∨ k = 33))
/-- under the proof: the state so far, out of the one at its beginning -/
def PI (M0 : Ms) (σ : Sg) (M : Ms) (τ : Sg) : Prop := agM M0 M ∧ But prS σ τ ∧ RPr M τ ∧ WFp M
def PB (M0 : Ms) (σ : Sg) : Prop := WFm M0 ∧ RMm M0 σ ∧ RLs M0 σ ∧ TB M0 σ
theorem PI.wf {M0 M : Ms} {σ τ : Sg} (h : PI M0 σ M τ) (h0 : PB M0 σ) : WFm M := WFm_ag h.1.m (h.1 0 7 (by simp [prM])) h0.1
theorem PI.rm {M0 M : Ms} {σ τ : Sg} (h : PI M0 σ M τ) (h0 : PB M0 σ) : RMm M τ := RMm_ag h.1.m (h0.2.1.kept h.2.1 (fun a k hi => by simp only [inMm, prS] at *; omega))
theorem PI.tb {M0 M : Ms} {σ τ : Sg} (h : PI M0 σ M τ) (h0 : PB M0 σ) : TB M τ := TB_ag h.1.m (fun s c hs hc => by
  have := h0.2.2.2 s c hs hc
  unfold ent at this ⊢
  rw [h.2.1 9 _ (by simp [prS]), h.2.1 10 _ (by simp [prS]), h.2.1 11 _ (by simp [prS])]
  exact this)
theorem PI.ls {M0 M : Ms} {σ τ : Sg} (h : PI M0 σ M τ) (h0 : PB M0 σ) : RLs M τ := by
  refine RLs_ag h.1 ?_
  have q : ∀ a k, ¬ prS a k → gI τ a k = gI σ a k := h.2.1
  obtain ⟨h1, h2, h3, h4, h5, h6, h7, h8⟩ := h0.2.2.1
  refine ⟨by rw [q 0 19 (by simp [prS])]; exact h1, fun b b1 b2 => ?_, by rw [q 0 39 (by simp [prS])]; exact h3, fun i hi => ?_, by rw [q 0 40 (by simp [prS])]; exact h5, by rw [q 0 41 (by simp [prS])]; exact h6, by rw [q 0 46 (by simp [prS])]; exact h7, fun i hi => ?_⟩
  · rw [q 8 b (by simp [prS])]; exact h2 b b1 b2
  · rw [q 23 i (by simp [prS]), q 24 i (by simp [prS])]; exact h4 i hi
  · rw [q 25 i (by simp [prS])]; exact h8 i hi
theorem PI.rmc {M0 M : Ms} {σ τ : Sg} (h : PI M0 σ M τ) (h0 : PB M0 σ) : RMc M τ := ⟨h.rm h0, h.2.2.1, h.ls h0⟩
