/-! what is well made stays so: the other calls -/
theorem WF_sign {M : Ms} (hW : WF M) {X : Ms} (hag : ∀ a k, ¬ (a = 2) → ¬ (a = 0 ∧ (4 ≤ k ∧ k ≤ 6)) → ¬ (a = 5 ∨ a = 6) → X a k = M a k) (h2 : ∀ p, p < M 0 0 → X 2 p = M 2 p ∨ (M 1 p = 1 ∧ 1 ≤ X 2 p ∧ X 2 p ≤ 2 * M 0 0)) (h4 : X 0 4 ≤ 2 * M 0 0) (h5 : X 0 5 ≤ 4) (h6 : X 0 6 ≤ 3) (c5 : ∀ i, i < X 0 5 → X 5 i < 2 * M 0 0) (c6 : ∀ i, i < X 0 6 → X 6 i < 2 * M 0 0) : WF (chgM X) := by
  obtain ⟨⟨a, b, c, d, e, f, g, h, p, q, r, s⟩, hp, hl, hg⟩ := hW
  have hk : ∀ k, k < 4 ∨ 7 ≤ k → X 0 k = M 0 k := fun k w => hag 0 k (by omega) (by omega) (by omega)
  have ek : ∀ a k, a = 1 ∨ a = 3 ∨ a = 4 ∨ 7 ≤ a → X a k = M a k := fun a k w => hag a k (by omega) (by omega) (by omega)
  have h03 : X 0 3 < 2 ^ X 0 1 := by rw [hk 3 (by omega), hk 1 (by omega)]; exact f
  refine WF_chg ⟨?_, ?_, ?_, h5, h6, h03, ?_, h03, fun i hi => ?_, fun j hj => ?_, fun i hi => ?_, fun i hi => ?_⟩ ?_ ?_ ?_ ?_
  · show X 0 0 ≤ 80; rw [hk 0 (by omega)]; exact a
  · show X 0 1 ≤ 8; rw [hk 1 (by omega)]; exact b
  · show X 0 2 ≤ 4; rw [hk 2 (by omega)]; exact c
  · show X 0 4 ≤ 2 * X 0 0; rw [hk 0 (by omega)]; exact h4
  · have hi : i < X 0 0 := hi
    rw [hk 0 (by omega)] at hi
    show X 1 i ≤ 3 ∧ X 2 i ≤ 2 * X 0 0 ∧ X 3 i ≤ 2 * X 0 0 ∧ (X 1 i = 0 → 1 ≤ X 2 i ∧ X 2 i ≤ 2 * i ∧ 1 ≤ X 3 i ∧ X 3 i ≤ 2 * i) ∧ (X 1 i = 1 ∨ X 1 i = 2 → 1 ≤ X 2 i ∧ X 4 i < X 0 1 ∧ X 7 (X 4 i) = i ∧ X 3 i = 0) ∧ (X 1 i = 2 → X 2 i = 2 * i + 1) ∧ (X 1 i = 3 → X 4 i < X 0 2 ∧ X 2 i = 0 ∧ X 3 i = 0)
    rw [hk 0 (by omega), hk 1 (by omega), hk 2 (by omega), ek 1 i (by omega), ek 3 i (by omega), ek 4 i (by omega), ek 7 _ (by omega)]
    obtain ⟨p1, p2, p3, p4, p5, p6, p7⟩ := p i hi
    rcases h2 i hi with w | ⟨w1, w2, w3⟩
    · rw [w]; exact ⟨p1, p2, p3, p4, p5, p6, p7⟩
    · refine ⟨p1, w3, p3, fun w => by omega, fun w => ?_, fun w => by omega, fun w => by omega⟩
      have := p5 w
      exact ⟨w2, this.2⟩
  · have hj : j < X 0 1 := hj
    rw [hk 1 (by omega)] at hj
    show X 7 j < X 0 0 ∧ (X 1 (X 7 j) = 1 ∨ X 1 (X 7 j) = 2) ∧ X 4 (X 7 j) = j
    rw [hk 0 (by omega), ek 7 j (by omega), ek 1 _ (by omega), ek 4 _ (by omega)]
    exact q j hj
  · have hi : i < X 0 5 := hi
    show X 5 i < 2 * X 0 0
    rw [hk 0 (by omega)]
    exact c5 i hi
  · have hi : i < X 0 6 := hi
    show X 6 i < 2 * X 0 0
    rw [hk 0 (by omega)]
    exact c6 i hi
  · unfold WFg at hg ⊢
    rw [hk 0 (by omega), hk 1 (by omega), hk 2 (by omega), cntB_congr (g := fun p => decide (M 1 p = 0)) (fun p hp => by rw [ek 1 p (by omega)])]
    exact hg
  · rw [hk 16 (by omega)]; exact hl.2.2.1
  · rw [hk 14 (by omega)]; exact hl.2.2.2.1
  · rw [hk 15 (by omega)]; exact hl.2.2.2.2
theorem isSg_t {M : Ms} {x : Int32} (h : ¬ isSg x M = false) : ∃ j, j < 2 * M 0 0 ∧ j < 2147483648 ∧ x = nI j := inb_t (by
  cases q : inb x (2 * M 0 0)
  · exact absurd q h
  · rfl)
theorem inb_t' {x : Int32} {n : Nat} (h : ¬ inb x n = false) : ∃ j, j < n ∧ j < 2147483648 ∧ x = nI j := inb_t (by
  cases q : inb x n
  · exact absurd q h
  · rfl)
theorem WF_next {M : Ms} (hW : WF M) (x y : Int32) : WF (op_next x y M).2 := by
  unfold op_next
  split
  · exact WF_rf hW 3
  · rename_i z
    obtain ⟨i, hi, hi2, rfl⟩ := inb_t' (fun w => z (Or.inl w))
    obtain ⟨j, hj, hj2, rfl⟩ := isSg_t (fun w => z (Or.inr w))
    rw [cn_nI hi2, cn_nI hj2]
    split
    · exact WF_rf hW 5
    · rename_i z2
      refine WF_sign hW (fun a k w1 w2 w3 => up_ne _ _ _ _ _ _ (by omega)) (fun p hp => ?_) hW.1.2.2.2.2.2.2.1 hW.1.2.2.2.1 hW.1.2.2.2.2.1 hW.1.2.2.2.2.2.2.2.2.2.2.1 hW.1.2.2.2.2.2.2.2.2.2.2.2
      by_cases e : p = i
      · subst e
        rw [up_at, if_pos ⟨rfl, rfl⟩]
        exact Or.inr ⟨by omega, by omega, by omega⟩
      · exact Or.inl (up_ne _ _ _ _ _ _ (by omega))
theorem WF_bad {M : Ms} (hW : WF M) (x : Int32) : WF (op_bad x M).2 := by
  have key : ∀ v, v ≤ 2 * M 0 0 → WF (chgM (up M 0 4 v)) := fun v hv =>
    WF_sign hW (fun a k w1 w2 w3 => up_ne _ _ _ _ _ _ (by omega)) (fun p hp => Or.inl (up_ne _ _ _ _ _ _ (by omega))) hv hW.1.2.2.2.1 hW.1.2.2.2.2.1 hW.1.2.2.2.2.2.2.2.2.2.2.1 hW.1.2.2.2.2.2.2.2.2.2.2.2
  unfold op_bad
  split
  · exact key 0 (by omega)
  · split
    · exact WF_rf hW 3
    · rename_i z
      obtain ⟨j, hj, hj2, rfl⟩ := isSg_t z
      rw [cn_nI hj2]
      exact key (j + 1) (by omega)
theorem WF_assume {M : Ms} (hW : WF M) (x : Int32) : WF (op_assume x M).2 := by
  unfold op_assume
  split
  · exact WF_rf hW 3
  · rename_i z
    split
    · exact WF_rf hW 8
    · rename_i z2
      have h4 := hW.1.2.2.2.1
      obtain ⟨j, hj, hj2, rfl⟩ := isSg_t z
      rw [cn_nI hj2]
      refine WF_sign hW (fun a k w1 w2 w3 => by rw [up_ne _ _ _ _ _ _ (by omega), up_ne _ _ _ _ _ _ (by omega)]) (fun p hp => Or.inl (by rw [up_ne _ _ _ _ _ _ (by omega), up_ne _ _ _ _ _ _ (by omega)])) hW.1.2.2.2.2.2.2.1 (by show M 0 5 + 1 ≤ 4; omega) hW.1.2.2.2.2.1 (fun i hi => ?_) hW.1.2.2.2.2.2.2.2.2.2.2.2
      have hi : i < M 0 5 + 1 := hi
      rw [up_ne _ _ _ _ _ _ (by omega), up_at]
      split
      · exact hj
      · exact hW.1.2.2.2.2.2.2.2.2.2.2.1 i (by omega)
theorem WF_fair {M : Ms} (hW : WF M) (x : Int32) : WF (op_fair x M).2 := by
  unfold op_fair
  split
  · exact WF_rf hW 3
  · rename_i z
    split
    · exact WF_rf hW 8
    · rename_i z2
      have h4 := hW.1.2.2.2.2.1
      obtain ⟨j, hj, hj2, rfl⟩ := isSg_t z
      rw [cn_nI hj2]
      refine WF_sign hW (fun a k w1 w2 w3 => by rw [up_ne _ _ _ _ _ _ (by omega), up_ne _ _ _ _ _ _ (by omega)]) (fun p hp => Or.inl (by rw [up_ne _ _ _ _ _ _ (by omega), up_ne _ _ _ _ _ _ (by omega)])) hW.1.2.2.2.2.2.2.1 hW.1.2.2.2.1 (by show M 0 6 + 1 ≤ 3; omega) hW.1.2.2.2.2.2.2.2.2.2.2.1 (fun i hi => ?_)
      have hi : i < M 0 6 + 1 := hi
      rw [up_ne _ _ _ _ _ _ (by omega), up_at]
      split
      · exact hj
      · exact hW.1.2.2.2.2.2.2.2.2.2.2.2 i (by omega)
theorem WF_step {M : Ms} (hW : WF M) (x : Int32) : WF (op_step x M).2 := by
  unfold op_step
  split
  · exact WF_rf hW 3
  · split
    · exact WF_rf hW 7
    · have := toN_lt M (M 0 7) (cn x)
      exact WF_run hW (by omega)
theorem WF_prove {M : Ms} (hW : WF M) (x : Int32) : WF (op_prove x M).2 := by
  unfold op_prove
  split
  · exact WF_rf hW 4
  · split
    · obtain ⟨ag, hp⟩ := PW_prove hW.1 hW.2.1 (cn x)
      exact ⟨WFm_ag ag.m (ag 0 7 (by unfold prM; omega)) hW.1, hp, WFl_cg (M := M) (ag 0 1 (by unfold prM; omega)) (fun k _ _ => ag 0 k (by unfold prM; omega)) (fun a k _ _ => ag a k (by unfold prM; omega)) hW.2.2.1, WFg_ag ag.m hW.2.2.2⟩
    · exact WF_rf hW 7
theorem WF_list' {M X : Ms} (hW : WF M) (hk : ∀ a k, ¬ (a = 0 ∧ 13 ≤ k) → ¬ (12 ≤ a ∧ a ≤ 14) → X a k = M a k) (h1 : X 0 13 ≤ 100) (h2 : ∀ i, i < X 0 13 → X 12 i < 2 ^ M 0 1 ∧ X 13 i &&& X 12 i = X 13 i) (h3 : X 0 16 ≤ 81) (h4 : X 0 14 ≤ 256) (h5 : X 0 15 ≤ 256) : WF X :=
  WF_ls hW (fun a k w => hk a k (by unfold lsM at w; omega) (by unfold lsM at w; omega)) (by rw [hk 0 7 (by omega) (by omega)]; exact hW.1.2.2.2.2.2.2.2.1) ⟨h1, fun i hi => by rw [hk 0 1 (by omega) (by omega)]; exact h2 i hi, h3, h4, h5⟩
theorem WF_take {M : Ms} (hW : WF M) : WF (op_take M).2 := by
  obtain ⟨_, _, ⟨l1, l2, l3, l4, l5⟩, _⟩ := id hW
  unfold op_take
  split
  · exact WF_rf hW 2
  · rename_i z
    split
    · exact WF_rf hW 8
    · rename_i z2
      have hw := hW.2.1.2.2.2.2.2 (by omega)
      have hc := hW.2.1.2.2.1 (M 0 12) (by omega)
      have t : ∀ a k, a ≠ 12 → a ≠ 13 → ¬ (a = 0 ∧ k = 13) → takeM M a k = M a k := fun a k z z2 z3 => by unfold takeM; rw [if_neg (by omega), if_neg (by omega), if_neg z3]
      have t13 : takeM M 0 13 = M 9 (M 0 12) := by unfold takeM; rw [if_neg (by omega), if_neg (by omega), if_pos ⟨rfl, rfl⟩]
      refine WF_list' (X := takeM M) hW (fun a k w1 w2 => t a k (by omega) (by omega) (by omega)) (by rw [t13]; omega) (fun i hi => ?_) (by rw [t 0 16 (by omega) (by omega) (by omega)]; exact l3) (by rw [t 0 14 (by omega) (by omega) (by omega)]; exact l4) (by rw [t 0 15 (by omega) (by omega) (by omega)]; exact l5)
      rw [t13] at hi
      unfold takeM
      rw [if_pos ⟨rfl, hi⟩, if_neg (by omega), if_pos ⟨rfl, hi⟩]
      exact hc.2 i hi
theorem WF_list {M : Ms} (hW : WF M) (x y : Int32) : WF (op_list x y M).2 := by
  obtain ⟨_, _, ⟨l1, l2, l3, l4, l5⟩, _⟩ := id hW
  have h256 := pow_le8 hW.1.2.1
  unfold op_list
  split
  · exact WF_rf hW 7
  · rename_i z
    split
    · exact WF_rf hW 8
    · rename_i z2
      obtain ⟨a, b, ha, rfl, rfl, hb⟩ := isCb_t hW.1.2.1 (x := x) (y := y) (by cases h : isCb x y M; exact absurd h z; rfl)
      have hb2 : b < 256 := and_eq_le hb (by omega)
      rw [cn_nI (show a < 2147483648 by omega), cn_nI (show b < 2147483648 by omega)]
      refine WF_list' (X := up (up (up M 12 (M 0 13) a) 13 (M 0 13) b) 0 13 (M 0 13 + 1)) hW (fun c k w1 w2 => by rw [up_ne _ _ _ _ _ _ (by omega), up_ne _ _ _ _ _ _ (by omega), up_ne _ _ _ _ _ _ (by omega)]) (by show M 0 13 + 1 ≤ 100; omega) (fun i hi => ?_) l3 l4 l5
      have hi : i < M 0 13 + 1 := hi
      by_cases e : i = M 0 13
      · subst e
        rw [up_ne _ _ _ _ _ _ (by omega), up_ne _ _ _ _ _ _ (by omega), up_at, if_pos ⟨rfl, rfl⟩, up_ne _ _ _ _ _ _ (by omega), up_at, if_pos ⟨rfl, rfl⟩]
        exact ⟨ha, hb⟩
      · rw [up_ne _ _ _ _ _ _ (by omega), up_ne _ _ _ _ _ _ (by omega), up_ne _ _ _ _ _ _ (by omega), up_ne _ _ _ _ _ _ (by omega), up_ne _ _ _ _ _ _ (by omega), up_ne _ _ _ _ _ _ (by omega)]
        exact l2 i (by omega)
theorem WF_forge {M : Ms} (hW : WF M) (x y z : Int32) : WF (op_forge x y z M).2 := by
  obtain ⟨_, _, ⟨l1, l2, l3, l4, l5⟩, _⟩ := id hW
  unfold op_forge
  split
  · exact WF_rf hW 3
  · rename_i w
    obtain ⟨i, hi, hi2, rfl⟩ := inb_t' (fun q => w (Or.inl q))
    obtain ⟨j, hj, hj2, rfl⟩ := inb_t' (fun q => w (Or.inr q))
    rw [cn_nI hi2, cn_nI hj2]
    obtain ⟨m1, m2⟩ := l2 i hi
    split
    · split
      · exact WF_rf hW 7
      · rename_i q
        refine WF_list' (X := up M 13 i (M 13 i ^^^ 2 ^ j)) hW (fun c k w1 w2 => up_ne _ _ _ _ _ _ (by omega)) l1 (fun k hk => ?_) l3 l4 l5
        have hk : k < M 0 13 := hk
        by_cases e : k = i
        · subst e
          rw [up_ne _ _ _ _ _ _ (by omega), up_at, if_pos ⟨rfl, rfl⟩]
          refine ⟨m1, ?_⟩
          apply nat_bits
          intro b
          have := congrArg (fun n => n.testBit b) m2
          simp only [Nat.testBit_and] at this
          rw [Nat.testBit_and, Nat.testBit_xor, Nat.testBit_two_pow]
          by_cases eb : j = b
          · subst eb
            have : (M 12 k).testBit j = true := by cases h : (M 12 k).testBit j; exact absurd h q; rfl
            rw [this, Bool.and_true]
          · rw [decide_eq_false eb, Bool.xor_false]; exact this
        · rw [up_ne _ _ _ _ _ _ (by omega), up_ne _ _ _ _ _ _ (by omega)]
          exact l2 k hk
    · refine WF_list' (X := up (up M 12 i (M 12 i ^^^ 2 ^ j)) 13 i (andn (M 13 i) (2 ^ j))) hW (fun c k w1 w2 => by rw [up_ne _ _ _ _ _ _ (by omega), up_ne _ _ _ _ _ _ (by omega)]) l1 (fun k hk => ?_) l3 l4 l5
      have hk : k < M 0 13 := hk
      by_cases e : k = i
      · subst e
        rw [up_ne _ _ _ _ _ _ (by omega), up_at, if_pos ⟨rfl, rfl⟩, up_at, if_pos ⟨rfl, rfl⟩]
        refine ⟨Nat.xor_lt_two_pow m1 (Nat.pow_lt_pow_right (by decide) hj), ?_⟩
        apply nat_bits
        intro b
        have := congrArg (fun n => n.testBit b) m2
        simp only [Nat.testBit_and] at this
        rw [Nat.testBit_and, andn_bit, Nat.testBit_xor, Nat.testBit_two_pow]
        by_cases eb : j = b
        · rw [decide_eq_true eb]; simp
        · rw [decide_eq_false eb, Bool.xor_false]; simpa using this
      · rw [up_ne _ _ _ _ _ _ (by omega), up_ne _ _ _ _ _ _ (by omega), up_ne _ _ _ _ _ _ (by omega), up_ne _ _ _ _ _ _ (by omega)]
        exact l2 k hk
theorem WF_clear {M : Ms} (hW : WF M) : WF (op_clear M).2 := by
  obtain ⟨_, _, ⟨l1, l2, l3, l4, l5⟩, _⟩ := id hW
  exact WF_list' (X := up M 0 13 0) hW (fun c k w1 w2 => up_ne _ _ _ _ _ _ (by omega)) (Nat.zero_le _) (fun k hk => absurd (show k < 0 from hk) (by omega)) l3 l4 l5
theorem WF_judge {M : Ms} (hW : WF M) : WF (op_judge M).2 := by
  obtain ⟨_, _, ⟨l1, l2, l3, l4, l5⟩, _⟩ := id hW
  have h256 := pow_le8 hW.1.2.1
  have hf := hW.1.2.2.2.2.2.1
  refine WF_list' (X := up (up M 0 14 (jdS M 100)) 0 15 (jdT M 100)) hW (fun c k w1 w2 => by rw [up_ne _ _ _ _ _ _ (by omega), up_ne _ _ _ _ _ _ (by omega)]) l1 l2 l3 ?_ ?_
  · show jdS M 100 ≤ 256
    unfold jdS
    split
    · omega
    · split
      · exact Nat.le_trans (lst_le _ _) h256
      · split
        · exact Nat.le_trans (lst_le _ _) h256
        · omega
  · show jdT M 100 ≤ 256
    unfold jdT
    split
    · exact Nat.le_trans (lst_le _ _) h256
    · omega
theorem WF_drop {M : Ms} (hW : WF M) (i : Nat) : WF (dropM M i) :=
  WF_ls hW (fun a k w => dropM_o M i a k (by unfold lsM at w; omega) (by unfold lsM at w; omega) (by unfold lsM at w; omega)) (by rw [dropM_o M i 0 7 (by omega) (by omega) (by omega)]; exact hW.1.2.2.2.2.2.2.2.1) (WFl_drop hW.2.2.1 i)
theorem WF_smallM : ∀ (f i : Nat) (M : Ms), WF M → WF (smallM f i M)
  | 0, _, _, h => h
  | f + 1, i, M, h => by
    simp only [smallM]
    split
    · split
      · exact WF_smallM f (i + 1) M h
      · exact WF_smallM f i _ (WF_drop h i)
    · exact h
theorem WF_small {M : Ms} (hW : WF M) : WF (op_small M).2 := by
  unfold op_small
  split
  · exact WF_rf hW 7
  · exact WF_smallM _ _ _ hW
theorem WF_lay {M : Ms} (hW : WF M) (x y : Int32) : WF (op_lay x y M).2 := by
  obtain ⟨_, _, ⟨l1, l2, l3, l4, l5⟩, _⟩ := id hW
  have h80 := hW.1.1
  unfold op_lay
  split
  · exact WF_rf hW 3
  · have l0 : ∀ a k, a ≠ 14 → ¬ (a = 0 ∧ k = 16) → layM M (cn x) (cn y) a k = M a k := fun a k z z2 => by unfold layM; rw [if_neg z, if_neg z2]
    have l16 : layM M (cn x) (cn y) 0 16 = M 0 0 + 1 := by
      unfold layM
      rw [if_neg (by decide), if_pos ⟨rfl, rfl⟩]
    refine WF_list' (X := layM M (cn x) (cn y)) hW (fun c k w1 w2 => l0 c k (by omega) (by omega)) (by rw [l0 0 13 (by omega) (by omega)]; exact l1) (fun k hk => ?_) (by omega) (by rw [l0 0 14 (by omega) (by omega)]; exact l4) (by rw [l0 0 15 (by omega) (by omega)]; exact l5)
    rw [l0 0 13 (by omega) (by omega)] at hk
    rw [l0 12 k (by omega) (by omega), l0 13 k (by omega) (by omega)]
    exact l2 k hk
theorem WF_tear {M : Ms} (hW : WF M) : WF (op_tear M).2 := by
  obtain ⟨_, _, ⟨l1, l2, l3, l4, l5⟩, _⟩ := id hW
  exact WF_list' (X := up M 0 16 0) hW (fun c k w1 w2 => up_ne _ _ _ _ _ _ (by omega)) l1 l2 (Nat.zero_le _) l4 l5
theorem WF_copy {M : Ms} (hW : WF M) (x y z : Int32) : WF (op_copy x y z M).2 := by
  obtain ⟨_, _, ⟨l1, l2, l3, l4, l5⟩, _⟩ := id hW
  unfold op_copy
  split
  · exact WF_rf hW 2
  · split
    · exact WF_rf hW 4
    · split
      · exact WF_rf hW 6
      · have l0 : ∀ a k, a ≠ 14 → copyM M (cn x) (cn y) (cn z) a k = M a k := fun a k w => by unfold copyM; rw [if_neg (by omega)]
        refine WF_list' (X := copyM M (cn x) (cn y) (cn z)) hW (fun c k w1 w2 => l0 c k (by omega)) (by rw [l0 0 13 (by omega)]; exact l1) (fun k hk => ?_) (by rw [l0 0 16 (by omega)]; exact l3) (by rw [l0 0 14 (by omega)]; exact l4) (by rw [l0 0 15 (by omega)]; exact l5)
        rw [l0 0 13 (by omega)] at hk
        rw [l0 12 k (by omega), l0 13 k (by omega)]
        exact l2 k hk
