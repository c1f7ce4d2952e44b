/-! the class: copy -/
theorem xp_copy {M : Ms} {σ : Sg} {x y w : Int32} {Q : Int32 → Sg → Prop} (hW : WFm M) (hL : WFl M) (h : RX M σ) (hq : XDoes (op_copy x y w M) Q) : wp_X9_copy x y w σ Q := by
  have h81 := hL.2.2.1
  have hro := h.2.2.2.2.2.1
  obtain ⟨r1, r2, r3⟩ := hro
  unfold op_copy at hq
  unfold wp_X9_copy
  rw [r1, bi_0]
  refine ⟨fun z => ?_, fun z => ?_⟩
  · have := of_decide_eq_false z
    rw [if_pos (by omega)] at hq
    exact xs_refuse hW h (by decide) (by decide) hq
  · have hp : 0 < M 0 16 := by
      rcases Nat.eq_zero_or_pos (M 0 16) with q | q
      · rw [q] at z; exact absurd rfl z
      · exact q
    rw [if_neg (by omega)] at hq
    refine ⟨fun z2 => ?_, fun z2 => ?_⟩
    · rw [i_0, lt0_toInt] at z2
      rw [if_pos z2] at hq
      exact xs_refuse hW h (by decide) (by decide) hq
    · obtain ⟨n, hn, rfl⟩ := i_dec z2
      rw [i_0, lt0_toInt] at z2
      rw [if_neg z2, i_toInt hn] at hq
      refine xs_stretch hL h.2.2.2.2.2.1 hp hn ?_
      rw [bi_0, show (-6 : Int32) = -(nI 6) from rfl]
      refine ⟨fun z3 => ?_, fun z3 => ?_⟩
      · have := of_decide_eq_false z3
        rw [if_pos (by omega)] at hq
        exact xs_refuse hW h (by decide) (by decide) hq
      · have z3 : 0 ≤ x.toInt ∧ x.toInt + n ≤ (M 0 16 : Int) - 1 := by
          by_cases q : 0 ≤ x.toInt ∧ x.toInt + n ≤ (M 0 16 : Int) - 1
          · exact q
          · exact absurd (decide_eq_false q) z3
        refine xs_stretch hL h.2.2.2.2.2.1 hp hn ?_
        rw [bi_0]
        refine ⟨fun z4 => ?_, fun z4 => ?_⟩
        · have := of_decide_eq_false z4
          rw [if_pos (by omega)] at hq
          exact xs_refuse hW h (by decide) (by decide) hq
        · have z4 : 0 ≤ y.toInt ∧ y.toInt + n ≤ (M 0 16 : Int) - 1 := by
            by_cases q : 0 ≤ y.toInt ∧ y.toInt + n ≤ (M 0 16 : Int) - 1
            · exact q
            · exact absurd (decide_eq_false q) z4
          rw [if_neg (by omega)] at hq
          obtain ⟨i, hi, rfl⟩ := i_dec (x := x) (by rw [i_0, lt0_toInt]; omega)
          obtain ⟨j, hj, rfl⟩ := i_dec (x := y) (by rw [i_0, lt0_toInt]; omega)
          rw [cn_nI hi, cn_nI hj, cn_nI hn] at hq
          have e3 := z3
          have e4 := z4
          rw [i_toInt hi] at e3
          rw [i_toInt hj] at e4
          refine xs_stretch hL h.2.2.2.2.2.1 hp hn ?_
          rw [decide_eq_true z3, bi_0]
          refine ⟨fun q => absurd q (by decide), fun _ => xs_stretch hL h.2.2.2.2.2.1 hp hn ?_⟩
          rw [decide_eq_true z4, bi_0]
          refine ⟨fun q => absurd q (by decide), fun _ => ?_⟩
          rw [i_cl hi, i_cl hj, i_cl hn]
          have ng : ∀ k, k < 2147483648 → ¬ nI k < 0 := fun k hk => by rw [i_0, i_lt hk (by decide)]; omega
          refine ⟨ng i hi, ng j hj, ng n hn, by omega, by omega, ?_⟩
          have l0 : ∀ a k, a ≠ 14 → copyM M i j n a k = M a k := fun a k q => by unfold copyM; rw [if_neg (by omega)]
          have cg : ∀ a k, gI (cpI σ 1173 1173 i j n) a k = if a = 1173 ∧ j ≤ k ∧ k < j + n then gI σ 1173 (i + (k - j)) else gI σ a k := fun a k => rfl
          refine xd hq (RX_row hW h (fun a k _ z2 => l0 a k z2) ⟨fun a k q => by rw [cg, if_neg (by omega)], fun a k _ => rfl⟩ ⟨?_, fun _ => ?_, fun k hk => ?_⟩)
          · show _ = bi (decide (0 < copyM M i j n 0 16))
            rw [l0 0 16 (by omega), cg, if_neg (by omega)]; exact r1
          · show _ = nI (copyM M i j n 0 16 - 1)
            rw [l0 0 16 (by omega), cg, if_neg (by omega)]; exact r2 hp
          · have hk : k + 1 < copyM M i j n 0 16 := hk
            rw [l0 0 16 (by omega)] at hk
            show _ = nI (copyM M i j n 14 k)
            rw [cg]
            unfold copyM
            by_cases e : j ≤ k ∧ k < j + n
            · rw [if_pos ⟨rfl, e⟩, if_pos ⟨rfl, e⟩]; exact r3 _ (by omega)
            · rw [if_neg (by omega), if_neg (by omega)]; exact r3 k hk
