/-! the class: the list -/
theorem xs_isCube {M : Ms} {σ : Sg} {x y : Int32} {Q : Int32 → Prop} (hW : WFm M) (hm : XMm M σ) (hq : Q (bi (isCb x y M))) : wp_X9_isCube x y σ Q := by
  refine xs_hasState hW hm ?_
  rw [bi_0, show (-1 : Int32) = e1 0 from rfl]
  refine ⟨fun z => ⟨nz_0, ?_⟩, fun z => ⟨fun z3 => ⟨nz_1, ?_⟩, fun z3 => ⟨nz_0, ?_⟩⟩⟩
  · have : isCb x y M = false := by unfold isCb; rw [z]; rfl
    rw [this] at hq; exact hq
  · have : isCb x y M = true := by
      unfold isCb
      rw [Bool.and_eq_true]
      exact ⟨by simpa using z, decide_eq_true z3⟩
    rw [this] at hq; exact hq
  · have : isCb x y M = false := by unfold isCb; rw [decide_eq_false z3, Bool.and_false]
    rw [this] at hq; exact hq
/-- the list changes alone -/
theorem RX_list {M N : Ms} {σ τ : Sg} (hW : WFm M) (h : RX M σ) (hag : ∀ a k, ¬ (a = 0 ∧ k = 13) → ¬ (a = 12 ∨ a = 13) → N a k = M a k) (hb : CB 1167 σ τ) (hL : XLi N τ) : RX N τ := by
  obtain ⟨o1, o2, o3, o4⟩ := h.2.2.2.2.2.2
  have hb' : But2 lxS lxT σ τ := hb.mono (fun a k z => by unfold CS at z; unfold lxS; omega) (fun a z => by unfold CT at z; unfold lxT; omega)
  have g : ∀ a k, a = 0 ∨ a = 1171 ∨ a = 1174 → gI τ a k = gI σ a k := fun a k z => hb.1 a k (by unfold CS; omega)
  refine RX_ls hW h (fun a k z => hag a k (by unfold lsM at z; omega) (by unfold lsM at z; omega)) hb' hL (XRo_ag (M := M) (hag _ _ (by omega) (by omega)) (fun k => hag _ _ (by omega) (by omega)) (h.2.2.2.2.2.1.kept hb (fun a k _ _ => by unfold CS; omega))) ⟨?_, fun j j1 j2 => ?_, ?_, ?_⟩
  · rw [hag 0 7 (by omega) (by omega), g _ _ (by omega)]; exact o1
  · rw [hag 8 j (by omega) (by omega), g _ _ (by omega)]; exact o2 j j1 j2
  · rw [hag 0 14 (by omega) (by omega), g _ _ (by omega)]; exact o3
  · rw [hag 0 15 (by omega) (by omega), g _ _ (by omega)]; exact o4
theorem lft_ext {N n : Nat} {m v m' v' : Nat → Nat} (he : ∀ i, i < n → m' i = m i ∧ v' i = v i) (s : Nat) : lft N n m v s = lft N n m' v' s := by
  unfold lft
  congr 2
  exact anyN_congr (fun i hi => by rw [(he i hi).1, (he i hi).2])
theorem WFl_cw {M : Ms} (hW : WFm M) (hL : WFl M) : CW (M 0 13) (M 12) (M 13) := fun i hi => by
  have h256 := pow_le8 hW.2.1
  have := hL.2.1 i hi
  exact ⟨by omega, this.2⟩
theorem xp_list {M : Ms} {σ : Sg} {x y : Int32} {Q : Int32 → Sg → Prop} (hW : WFm M) (hL : WFl M) (h : RX M σ) (hq : XDoes (op_list x y M) Q) : wp_X9_list x y σ Q := by
  have h256 := pow_le8 hW.2.1
  have h100 := hL.1
  obtain ⟨c1, c2⟩ := h.2.2.2.2.1
  unfold op_list at hq
  refine xs_isCube hW h.1 ?_
  simp +decide (disch := omega) only [lit, lit_neg, i_add, i_mul, i_sub, i_div, i_and, i_or, i_shl1, Nat.one_mul, i_shr1, i_bit1, i_lt, i_eq, i_in, i_cl, i_0, gI_sI, bi_0n, bi_1n, nz_bi, nz_0n, nz_1n, vn_0n, vn_1n, vn_bi, and_true, true_and, not_false_eq_true, not_true_eq_false, false_implies, true_implies, forall_const, implies_true, ite_true, ite_false, Bool.not_eq_true, Bool.not_eq_false, and_false, false_and, if_true, if_false, if_pos, true_or, or_true, false_or, or_false, neg_lit]
  refine ⟨fun z => ?_, fun z => ?_⟩
  · rw [if_pos z] at hq
    exact xs_refuse hW h (by decide) (by decide) hq
  · rw [if_neg (by rw [z]; decide)] at hq
    obtain ⟨a, b, ha, rfl, rfl, hb⟩ := isCb_t hW.2.1 z
    have hb2 : b < 256 := and_eq_le hb (by omega)
    rw [cn_nI (show a < 2147483648 by omega), cn_nI (show b < 2147483648 by omega)] at hq
    refine xs_cubeOf (by omega) hb2 ?_
    by_cases hf : M 0 13 = 100
    · rw [if_pos hf] at hq
      refine cl_putF cl_list c1.1 hf ?_
      simp +decide (disch := omega) only [lit, lit_neg, i_add, i_mul, i_sub, i_div, i_and, i_or, i_shl1, Nat.one_mul, i_shr1, i_bit1, i_lt, i_eq, i_in, i_cl, i_0, gI_sI, bi_0n, bi_1n, nz_bi, nz_0n, nz_1n, vn_0n, vn_1n, vn_bi, and_true, true_and, not_false_eq_true, not_true_eq_false, false_implies, true_implies, forall_const, implies_true, ite_true, ite_false, Bool.not_eq_true, Bool.not_eq_false, and_false, false_and, if_true, if_false, if_pos, true_or, or_true, false_or, or_false, neg_lit]
      exact xs_refuse hW h (by decide) (by decide) hq
    · rw [if_neg hf] at hq
      refine cl_put cl_list c1 c2 (by omega) (by omega) hb (fun τ hbt hc hs => ?_)
      simp +decide (disch := omega) only [lit, lit_neg, i_add, i_mul, i_sub, i_div, i_and, i_or, i_shl1, Nat.one_mul, i_shr1, i_bit1, i_lt, i_eq, i_in, i_cl, i_0, gI_sI, bi_0n, bi_1n, nz_bi, nz_0n, nz_1n, vn_0n, vn_1n, vn_bi, and_true, true_and, not_false_eq_true, not_true_eq_false, false_implies, true_implies, forall_const, implies_true, ite_true, ite_false, Bool.not_eq_true, Bool.not_eq_false, and_false, false_and, if_true, if_false, if_pos, true_or, or_true, false_or, or_false, hc.1]
      have e12 : ∀ i, i < M 0 13 + 1 → up (up (up M 12 (M 0 13) a) 13 (M 0 13) b) 0 13 (M 0 13 + 1) 12 i = (if i = M 0 13 then a else M 12 i) ∧ up (up (up M 12 (M 0 13) a) 13 (M 0 13) b) 0 13 (M 0 13 + 1) 13 i = (if i = M 0 13 then b else M 13 i) := fun i _ => by
        simp [up_at]
      refine xd hq (RX_list hW h (fun c k q1 q2 => by rw [up_ne _ _ _ _ _ _ (by omega), up_ne _ _ _ _ _ _ (by omega), up_ne _ _ _ _ _ _ (by omega)]) hbt ⟨CLr_ext hc e12, SS_congr hs (fun s _ => ?_)⟩)
      show (lft (nSt M) (M 0 13) (M 12) (M 13) s && !inCubeB s a b) = lft (nSt M) (M 0 13 + 1) _ _ s
      rw [lft_s, (e12 (M 0 13) (by omega)).1, (e12 (M 0 13) (by omega)).2, if_pos rfl, if_pos rfl]
      congr 1
      exact lft_ext (fun i hi => by rw [(e12 i (by omega)).1, (e12 i (by omega)).2, if_neg (by omega), if_neg (by omega)]; exact ⟨rfl, rfl⟩) s
theorem xp_clear {M : Ms} {σ : Sg} {Q : Int32 → Sg → Prop} (hW : WFm M) (h : RX M σ) (hq : XDoes (op_clear M) Q) : wp_X9_clear σ Q := by
  have h256 := pow_le8 hW.2.1
  unfold op_clear at hq
  refine xs_states hW h.1 (cl_restart (m := M 12) (v := M 13) cl_list h256 (fun τ hb hc hs => ?_))
  rw [h.2.2.2.2.1.1.1]
  refine xd hq (RX_list hW h (fun c k q1 q2 => up_ne _ _ _ _ _ _ (by omega)) hb ⟨hc, SS_congr hs (fun s _ => ?_)⟩)
  show _ = (decide (s < nSt M) && !anyN 0 _)
  rw [show anyN 0 _ = false from rfl, Bool.not_false, Bool.and_true]
  rfl
theorem xp_take {M : Ms} {σ : Sg} {Q : Int32 → Sg → Prop} (hW : WFm M) (hP : WFp M) (hL : WFl M) (h : RX M σ) (hq : XDoes (op_take M) Q) : wp_X9_take σ Q := by
  have h256 := pow_le8 hW.2.1
  have h3 := hP.2.1
  unfold op_take at hq
  unfold wp_X9_take wp_X4_hasWall
  rw [h.2.2.2.1.2.1, h.2.2.2.1.2.2.2.2.1]
  rw [show (1 : Int32) = nI 1 from rfl, i_eq (by omega) (by decide)]
  refine ⟨fun z => ⟨nz_1, ?_⟩, fun z => ⟨nz_0, ?_⟩⟩
  · rw [if_neg (by omega)] at hq
    obtain ⟨k1, k2⟩ := hP.2.2.2.2.2 z
    have hc := h.2.2.1.2.2.1 (M 0 12) k1 (by omega)
    have hcl := cl_later k1 (show M 0 12 ≤ 24 by omega)
    obtain ⟨w1, w2⟩ := hP.2.2.1 (M 0 12) (by omega)
    refine ⟨fun w => absurd w (by decide), fun _ => xs_frame (by omega) ?_⟩
    rw [hcl.1, hc.1]
    simp only [onB, cond_true]
    simp +decide (disch := omega) only [lit, lit_neg, i_add, i_mul, i_sub, i_div, i_and, i_or, i_shl1, Nat.one_mul, i_shr1, i_bit1, i_lt, i_eq, i_in, i_cl, i_0, gI_sI, bi_0n, bi_1n, nz_bi, nz_0n, nz_1n, vn_0n, vn_1n, vn_bi, and_true, true_and, not_false_eq_true, not_true_eq_false, false_implies, true_implies, forall_const, implies_true, ite_true, ite_false, Bool.not_eq_true, Bool.not_eq_false, and_false, false_and, if_true, if_false, if_pos, true_or, or_true, false_or, or_false, neg_lit]
    refine ⟨fun z2 => ?_, fun z2 => ?_⟩
    · rw [if_pos z2] at hq
      exact xs_refuse hW h (by decide) (by decide) hq
    · rw [if_neg z2] at hq
      refine cl_becomeLike cl_list h.2.2.2.2.1.1 hcl hc (fun i hi => by have := w2 i hi; exact ⟨by omega, this.2⟩) w1 (by omega) (show nSt M ≤ 256 from h256) (fun a k => by unfold CS; omega) (fun τ hb hc2 hs => ?_)
      rw [hc2.1]
      have e12 : ∀ i, i < M 9 (M 0 12) → takeM M 12 i = M (100 + M 0 12) i ∧ takeM M 13 i = M (200 + M 0 12) i := fun i hi => by
        unfold takeM
        rw [if_pos ⟨rfl, hi⟩, if_neg (by omega), if_pos ⟨rfl, hi⟩]
        exact ⟨rfl, rfl⟩
      have t13 : takeM M 0 13 = M 9 (M 0 12) := by unfold takeM; rw [if_neg (by omega), if_neg (by omega), if_pos ⟨rfl, rfl⟩]
      have tN : nSt (takeM M) = nSt M := by unfold nSt takeM; rw [if_neg (by omega), if_neg (by omega), if_neg (by omega)]
      refine xd hq (RX_list hW h (fun c k q1 q2 => ?_) hb ?_)
      · show takeM M c k = _
        unfold takeM
        rw [if_neg (by omega), if_neg (by omega), if_neg (by omega)]
      · show XLi (takeM M) τ
        unfold XLi
        rw [t13, tN]
        exact ⟨CLr_ext hc2 e12, SS_congr hs (fun s _ => lft_ext e12 s)⟩
  · rw [if_pos z] at hq
    exact ⟨fun _ => xs_refuse hW h (by decide) (by decide) hq, fun w => absurd rfl w⟩
