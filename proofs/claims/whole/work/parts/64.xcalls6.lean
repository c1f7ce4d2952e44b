/-! the class: forge, lay -/
theorem xp_forge {M : Ms} {σ : Sg} {x y w : Int32} {Q : Int32 → Sg → Prop} (hW : WFm M) (hL : WFl M) (h : RX M σ) (hq : XDoes (op_forge x y w M) Q) : wp_X9_forge x y w σ Q := by
  have h8 := hW.2.1
  have h256 := pow_le8 hW.2.1
  have h100 := hL.1
  obtain ⟨c1, c2⟩ := h.2.2.2.2.1
  unfold op_forge at hq
  refine cl_hasIndex cl_list c1.1 h100 ?_
  rw [bi_0, h.1.2.2.1, show (-7 : Int32) = -(nI 7) from rfl, show (-3 : Int32) = -(nI 3) from rfl]
  refine ⟨fun z => ?_, fun z => ?_⟩
  · rw [if_pos (Or.inl z)] at hq
    exact xs_refuse hW h (by decide) (by decide) hq
  · obtain ⟨i, hi, hi2, rfl⟩ := inb_t' (x := x) (n := M 0 13) z
    refine ⟨fun z2 => ?_, fun z2 => ⟨fun z3 => ?_, fun z3 => ?_⟩⟩
    · rw [i_0, lt0_toInt] at z2
      rw [if_pos (Or.inr (by unfold inb; exact decide_eq_false (by omega)))] at hq
      exact xs_refuse hW h (by decide) (by decide) hq
    · obtain ⟨j, hj2, rfl⟩ := i_dec z2
      rw [i_lt hj2 (by omega)] at z3
      rw [if_neg (by rw [inb_n hi2, inb_n hj2, decide_eq_true hi, decide_eq_true z3]; simp), cn_nI hi2, cn_nI hj2] at hq
      obtain ⟨m1, m2⟩ := hL.2.1 i hi
      have hb : M 13 i < 256 := and_eq_le m2 (by omega)
      have hj : 2 ^ j < 256 := by
        have := Nat.pow_lt_pow_right (a := 2) (by decide) (show j < 8 by omega)
        omega
      refine cl_cubeAt cl_list c1.1 h100 hi (c1.2.2 i hi) ?_
      have mk : ∀ P : Int32 → Prop, P (nI (M 12 i)) → wp_X9_maskOf (nI (cb (M 12 i) (M 13 i))) σ P := fun P hp => ss_maskOf (by omega) hb hp
      have vl : ∀ P : Int32 → Prop, P (nI (M 13 i)) → wp_X9_valuesOf (nI (cb (M 12 i) (M 13 i))) σ P := fun P hp => ss_valuesOf hb hp
      refine mk _ ?_
      have fin : ∀ mm vv, mm < 256 → vv &&& mm = vv → XDoes (nI 1, up (up M 12 i mm) 13 i vv) Q → wp_X0_change 1167 (nI i) (nI (cb mm vv)) σ (fun s13 => Q 1 s13) := by
        intro mm vv hm hv hq2
        refine cl_change cl_list c1 (WFl_cw hW hL) h100 (show nSt M ≤ 256 from h256) hi hm hv (fun τ hbt hc hs => ?_)
        have e12 : ∀ k, k < M 0 13 → up (up M 12 i mm) 13 i vv 12 k = (if k = i then mm else M 12 k) ∧ up (up M 12 i mm) 13 i vv 13 k = (if k = i then vv else M 13 k) := fun k _ => by simp [up_at]
        exact xd hq2 (RX_list hW h (fun c k q1 q2 => by rw [up_ne _ _ _ _ _ _ (by omega), up_ne _ _ _ _ _ _ (by omega)]) hbt ⟨CLr_ext hc e12, SS_congr hs (fun s _ => lft_ext e12 s)⟩)
      have h1 : w = 0 → (M 12 i).testBit j = true → wp_X9_maskOf (nI (cb (M 12 i) (M 13 i))) σ (fun r10 => wp_X9_valuesOf (nI (cb (M 12 i) (M 13 i))) σ (fun r11 => wp_X9_cubeOf r10 (r11 ^^^ ((1 : Int32) <<< (nI j &&& 31))) σ (fun r12 => wp_X0_change 1167 (nI i) r12 σ (fun s13 => Q 1 s13)))) := fun q t => by
        rw [if_pos q, if_neg (by rw [t]; decide)] at hq
        refine mk _ (vl _ ?_)
        rw [i_1shl (by omega), i_xor]
        have hx : M 13 i ^^^ 2 ^ j < 256 := Nat.xor_lt_two_pow (n := 8) hb hj
        refine xs_cubeOf (by omega) hx (fin _ _ (by omega) ?_ ?_)
        · apply nat_bits
          intro b
          have := congrArg (fun n => n.testBit b) m2
          simp only [Nat.testBit_and] at this
          rw [Nat.testBit_and, Nat.testBit_xor, Nat.testBit_two_pow]
          by_cases eb : j = b
          · subst eb
            rw [t, Bool.and_true]
          · rw [decide_eq_false eb, Bool.xor_false]; exact this
        · have : up (up M 12 i (M 12 i)) 13 i (M 13 i ^^^ 2 ^ j) = up M 13 i (M 13 i ^^^ 2 ^ j) := by
            funext a k
            rw [up_at, up_at, up_at]
            split
            · rfl
            · split
              · rename_i e; rw [e.1, e.2]
              · rfl
          rw [this]; exact hq
      have h2 : w = 0 → (M 12 i).testBit j = false → wp_X9_refuse (-(nI 7)) σ (fun r s => Q r s) := fun q t => by
        rw [if_pos q, if_pos t] at hq
        exact xs_refuse hW h (by decide) (by decide) hq
      have h3 : ¬ w = 0 → wp_X9_maskOf (nI (cb (M 12 i) (M 13 i))) σ (fun r10 => wp_X9_valuesOf (nI (cb (M 12 i) (M 13 i))) σ (fun r11 => wp_X9_cubeOf (r10 ^^^ ((1 : Int32) <<< (nI j &&& 31))) (r11 &&& (((1 : Int32) <<< (nI j &&& 31)) ^^^ (-1 : Int32))) σ (fun r12 => wp_X0_change 1167 (nI i) r12 σ (fun s13 => Q 1 s13)))) := fun q => by
        rw [if_neg q] at hq
        refine mk _ (vl _ ?_)
        rw [i_1shl (by omega), i_xor, show (-1 : Int32) = e1 0 from rfl, i_andn]
        have hx : M 12 i ^^^ 2 ^ j < 256 := Nat.xor_lt_two_pow (n := 8) (by omega) hj
        have hy : andn (M 13 i) (2 ^ j) < 256 := andn_lt (n := 8) hb
        refine xs_cubeOf hx hy (fin _ _ hx ?_ hq)
        apply nat_bits
        intro b
        have := congrArg (fun n => n.testBit b) m2
        simp only [Nat.testBit_and] at this
        rw [Nat.testBit_and, andn_bit, Nat.testBit_xor, Nat.testBit_two_pow]
        by_cases eb : j = b
        · rw [decide_eq_true eb]; simp
        · rw [decide_eq_false eb, Bool.xor_false]; simpa using this
      rw [i_bit (by omega) (by omega), bi_1]
      exact ⟨fun t => ⟨fun q => ⟨fun q2 => absurd q2 (by decide), fun _ => ⟨fun q2 => h1 q2 t, fun q2 => h3 q2⟩⟩, fun q => ⟨fun q2 => h1 q2 t, fun q2 => h3 q2⟩⟩, fun t => ⟨fun q => ⟨fun _ => h2 q (by simpa using t), fun q2 => absurd rfl q2⟩, fun q => ⟨fun q2 => absurd q2 q, fun q2 => h3 q2⟩⟩⟩
    · obtain ⟨j, hj2, rfl⟩ := i_dec z2
      rw [i_lt hj2 (by omega)] at z3
      rw [if_pos (Or.inr (by rw [inb_n hj2]; exact decide_eq_false z3))] at hq
      exact xs_refuse hW h (by decide) (by decide) hq
