/-! the class: judge, small -/
def lo (n : Nat) (m v : Nat → Nat) (s : Nat) : Bool := !anyN n (fun i => inCubeB s (m i) (v i))
def ofOut (M : Ms) (L : Nat → Bool) (s : Nat) : Bool := L s && anyN (2 ^ M 0 1) (fun t => !L t && ldsB M s t)
def jF (M : Ms) (L : Nat → Bool) : Nat := if L (M 0 3) = false then 1 else if anyN (2 ^ M 0 1) (fun s => L s && isBadS M s) = true then 3 else if anyN (2 ^ M 0 1) (ofOut M L) = true then 2 else 0
theorem jdg_F (M : Ms) (but : Nat) : jdg M but = jF M (isLft M but) := rfl
theorem ofOut_congr {M : Ms} {L L' : Nat → Bool} (h : ∀ s, s < 2 ^ M 0 1 → L s = L' s) {s : Nat} (hs : s < 2 ^ M 0 1) : ofOut M L s = ofOut M L' s := by
  unfold ofOut
  rw [h s hs]
  congr 1
  exact anyN_congr (fun t ht => by rw [h t ht])
theorem jF_congr {M : Ms} (hW : WFm M) {L L' : Nat → Bool} (h : ∀ s, s < 2 ^ M 0 1 → L s = L' s) : jF M L = jF M L' := by
  unfold jF
  rw [h _ hW.2.2.2.2.2.1, anyN_congr (fun s hs => by rw [h s hs]), anyN_congr (fun s hs => ofOut_congr h hs)]
theorem XT.kept2 {S : Nat → Nat → Prop} {T : Nat → Prop} {M : Ms} {σ τ : Sg} (h : XT M σ) (hb : But2 S T σ τ) (h1 : ∀ a, a = 19 ∨ (31 ≤ a ∧ a ≤ 1051 ∧ a % 4 = 3) → ¬ T a) (hN : nSt M ≤ 256) : XT M τ :=
  ⟨h.1.kept2 hb (h1 _ (Or.inl rfl)), fun s hs => (h.2 s hs).kept2 hb (h1 _ (Or.inr (by omega)))⟩
theorem ss_1168 : IsSS 1168 := cl_list.2.2.2.2.2.2.1
theorem inside_out {M : Ms} (h256 : 2 ^ M 0 1 ≤ 256) (L : Nat → Bool) (s : Nat) : anyN 256 (fun t => ldsB M s t && !(decide (t < nSt M) && L t)) = anyN (2 ^ M 0 1) (fun t => !L t && ldsB M s t) := by
  rw [anyN_cut h256 (fun t ht => by
    cases h1 : ldsB M s t
    · rfl
    · have := ldsB_lt h1; omega)]
  exact anyN_congr (fun t ht => by rw [decide_eq_true (show t < nSt M from ht), Bool.true_and, Bool.and_comm])
theorem xs_leadsOut {M : Ms} {σ : Sg} {L : Nat → Bool} {Q : Int32 → Prop} (hW : WFm M) (hm : XMm M σ) (hX : XT M σ) (hL : SS σ 1168 (fun s => decide (s < nSt M) && L s)) (hq : Q (e1 (lst (2 ^ M 0 1) (ofOut M L)))) : wp_X2_leastThatLeadsOut σ Q := by
  have h256 := pow_le8 hW.2.1
  intro L2 h2
  refine up_loop (I := fun i => ∀ s, s < i → ofOut M L s = false) (2 ^ M 0 1) ?_ ?_ 0 (Nat.zero_le _) (fun s hs => absurd hs (by omega))
  · intro i hi hI nx
    have nx' : ofOut M L i = false → L2 (nI (i + 1)) := fun h => nx (fun s hs => by
      by_cases e : s = i
      · rw [e]; exact h
      · exact hI s (by omega))
    apply h2
    refine xs_states hW hm ?_
    simp +decide (disch := omega) only [lit, lit_neg, i_add, i_mul, i_sub, i_div, i_and, i_or, i_shl1, Nat.one_mul, i_shr1, i_bit1, i_lt, i_eq, i_in, i_cl, i_0, gI_sI, bi_0n, bi_1n, nz_bi, nz_0n, nz_1n, vn_0n, vn_1n, vn_bi, and_true, true_and, not_false_eq_true, not_true_eq_false, false_implies, true_implies, forall_const, implies_true, ite_true, ite_false, Bool.not_eq_true, Bool.not_eq_false, and_false, false_and, if_true, if_false, if_pos, true_or, or_true, false_or, or_false, hi]
    refine ss_has ss_1168 hL (by omega) ?_
    rw [decide_eq_true (show i < nSt M from hi), Bool.true_and]
    simp +decide (disch := omega) only [lit, lit_neg, i_add, i_mul, i_sub, i_div, i_and, i_or, i_shl1, Nat.one_mul, i_shr1, i_bit1, i_lt, i_eq, i_in, i_cl, i_0, gI_sI, bi_0n, bi_1n, nz_bi, nz_0n, nz_1n, vn_0n, vn_1n, vn_bi, and_true, true_and, not_false_eq_true, not_true_eq_false, false_implies, true_implies, forall_const, implies_true, ite_true, ite_false, Bool.not_eq_true, Bool.not_eq_false, and_false, false_and, if_true, if_false, if_pos, true_or, or_true, false_or, or_false]
    refine ⟨fun z => nx' (by unfold ofOut; rw [z]; rfl), fun z => xs_from (by omega) ?_⟩
    rw [(ss_goes (show i < 256 by omega)).1]
    simp only [onB, cond_true]
    refine ss_inside (ss_goes (by omega)) ss_1168 (hX.2 i hi) hL ?_
    rw [inside_out h256]
    cases h3 : anyN (2 ^ M 0 1) (fun t => !L t && ldsB M i t)
    · refine ⟨fun w => absurd w (by decide), fun _ => nx' (by unfold ofOut; rw [h3, Bool.and_false])⟩
    · refine ⟨fun _ => ?_, fun w => absurd rfl w⟩
      rw [lst_some hi (by unfold ofOut; rw [z, h3]; rfl) hI, e1_s] at hq
      exact hq
  · intro hI
    apply h2
    refine xs_states hW hm ?_
    simp +decide (disch := omega) only [lit, lit_neg, i_add, i_mul, i_sub, i_div, i_and, i_or, i_shl1, Nat.one_mul, i_shr1, i_bit1, i_lt, i_eq, i_in, i_cl, i_0, gI_sI, bi_0n, bi_1n, nz_bi, nz_0n, nz_1n, vn_0n, vn_1n, vn_bi, and_true, true_and, not_false_eq_true, not_true_eq_false, false_implies, true_implies, forall_const, implies_true, ite_true, ite_false, Bool.not_eq_true, Bool.not_eq_false, and_false, false_and, if_true, if_false, if_pos, true_or, or_true, false_or, or_false, Nat.lt_irrefl]
    rw [lst_none hI] at hq
    exact hq
theorem lst_pos {n : Nat} {f : Nat → Bool} (h : anyN n f = true) : 1 ≤ lst n f := by
  rcases lst_cases n f with ⟨z, h1⟩ | ⟨i, hi, z, h1, h2⟩
  · rw [anyN_f.mpr h1] at h; cases h
  · omega
theorem xs_fault {M : Ms} {σ : Sg} {L : Nat → Bool} {Q : Int32 → Prop} (hW : WFm M) (hm : XMm M σ) (hX : XT M σ) (hL : SS σ 1168 (fun s => decide (s < nSt M) && L s)) (hq : Q (nI (jF M L))) : wp_X2_fault σ Q := by
  have h256 := pow_le8 hW.2.1
  have hf := hW.2.2.2.2.2.1
  unfold jF at hq
  unfold wp_X2_fault
  rw [hm.2.2.2.2.1]
  refine ss_has ss_1168 hL (by omega) ?_
  rw [decide_eq_true (show M 0 3 < nSt M from hf), Bool.true_and]
  simp +decide (disch := omega) only [lit, lit_neg, i_add, i_mul, i_sub, i_div, i_and, i_or, i_shl1, Nat.one_mul, i_shr1, i_bit1, i_lt, i_eq, i_in, i_cl, i_0, gI_sI, bi_0n, bi_1n, nz_bi, nz_0n, nz_1n, vn_0n, vn_1n, vn_bi, and_true, true_and, not_false_eq_true, not_true_eq_false, false_implies, true_implies, forall_const, implies_true, ite_true, ite_false, Bool.not_eq_true, Bool.not_eq_false, and_false, false_and, if_true, if_false, if_pos, true_or, or_true, false_or, or_false]
  refine ⟨fun z => by rw [if_pos z] at hq; exact hq, fun z => ?_⟩
  rw [if_neg (by rw [z]; decide)] at hq
  refine ss_meets ss_1168 ss_18 hL hX.1 ?_
  have e : anyN 256 (fun s => (decide (s < nSt M) && L s) && (decide (s < nSt M) && isBadS M s)) = anyN (2 ^ M 0 1) (fun s => L s && isBadS M s) := by
    rw [anyN_cut h256 (fun s hs => by rw [decide_eq_false (show ¬ s < nSt M by unfold nSt; omega)]; rfl)]
    exact anyN_congr (fun s hs => by rw [decide_eq_true (show s < nSt M from hs), Bool.true_and, Bool.true_and])
  rw [e]
  simp +decide (disch := omega) only [lit, lit_neg, i_add, i_mul, i_sub, i_div, i_and, i_or, i_shl1, Nat.one_mul, i_shr1, i_bit1, i_lt, i_eq, i_in, i_cl, i_0, gI_sI, bi_0n, bi_1n, nz_bi, nz_0n, nz_1n, vn_0n, vn_1n, vn_bi, and_true, true_and, not_false_eq_true, not_true_eq_false, false_implies, true_implies, forall_const, implies_true, ite_true, ite_false, Bool.not_eq_true, Bool.not_eq_false, and_false, false_and, if_true, if_false, if_pos, true_or, or_true, false_or, or_false]
  refine ⟨fun z2 => ?_, fun z2 => by rw [if_pos z2] at hq; exact hq⟩
  rw [if_neg (by rw [z2]; decide)] at hq
  refine xs_leadsOut hW hm hX hL ?_
  have hl := lst_le (2 ^ M 0 1) (ofOut M L)
  rw [e1_m1 (by omega)]
  refine ⟨fun z3 => ?_, fun z3 => ?_⟩
  · rw [if_neg (fun w => by have := lst_pos w; omega)] at hq
    exact hq
  · cases h3 : anyN (2 ^ M 0 1) (ofOut M L)
    · rw [lst_none (anyN_f.mp h3)] at z3; exact absurd rfl z3
    · rw [if_pos h3] at hq; exact hq
theorem isLft_lo {M : Ms} (hL : WFl M) (s : Nat) : isLft M 100 s = lo (M 0 13) (M 12) (M 13) s := by
  have h100 := hL.1
  unfold isLft lo
  congr 1
  exact anyN_congr (fun i hi => by rw [decide_eq_true (show i ≠ 100 by omega), Bool.true_and])
theorem RX_jd {M : Ms} {σ τ : Sg} {a b : Nat} (hW : WFm M) (h : RX M σ) (hb : But2 (fun a k => a = 1171 ∧ (k = 3 ∨ k = 4)) (fun _ => False) σ τ) (ha : gI τ 1171 3 = e1 a) (hb4 : gI τ 1171 4 = e1 b) : RX (up (up M 0 14 a) 0 15 b) τ := by
  have q : ∀ c k, ¬ (c = 0 ∧ (k = 14 ∨ k = 15)) → up (up M 0 14 a) 0 15 b c k = M c k := fun c k z => by rw [up_ne _ _ _ _ _ _ (by omega), up_ne _ _ _ _ _ _ (by omega)]
  obtain ⟨o1, o2, o3, o4⟩ := h.2.2.2.2.2.2
  refine RX_ls hW h (fun c k z => q c k (by unfold lsM at z; omega)) (hb.mono (fun c k z => by unfold lxS; omega) (fun c z => z.elim)) (XLi_ag (M := M) (q _ _ (by omega)) (q _ _ (by omega)) (fun c k _ _ => q c k (by omega)) (h.2.2.2.2.1.kept hb (fun c k _ _ => by omega) (fun z => z))) (XRo_ag (M := M) (q _ _ (by omega)) (fun k => q _ _ (by omega)) (h.2.2.2.2.2.1.kept hb (fun c k _ _ => by omega))) ⟨?_, fun j j1 j2 => ?_, ?_, ?_⟩
  · rw [q 0 7 (by omega), hb.1 _ _ (by omega)]; exact o1
  · rw [q 8 j (by omega), hb.1 _ _ (by omega)]; exact o2 j j1 j2
  · exact ha
  · exact hb4
theorem xp_judge {M : Ms} {σ : Sg} {Q : Int32 → Sg → Prop} (hW : WFm M) (hL : WFl M) (h : RX M σ) (hq : XDoes (op_judge M) Q) : wp_X9_judge σ Q := by
  have h256 := pow_le8 hW.2.1
  have hf := hW.2.2.2.2.2.1
  unfold wp_X9_judge
  refine h.renew hW (fun τ hR hT _ => ?_)
  have hS : SS τ 1168 (fun s => decide (s < nSt M) && lo (M 0 13) (M 12) (M 13) s) := hR.2.2.2.2.1.2
  have ej : jdg M 100 = jF M (lo (M 0 13) (M 12) (M 13)) := by rw [jdg_F]; exact jF_congr hW (fun s _ => isLft_lo hL s)
  have eb : (fun s => isLft M 100 s && isBadS M s) = (fun s => lo (M 0 13) (M 12) (M 13) s && isBadS M s) := funext (fun s => by rw [isLft_lo hL])
  have eo : outS M 100 = ofOut M (lo (M 0 13) (M 12) (M 13)) := funext (fun s => by
    unfold outS ofOut
    rw [isLft_lo hL]
    congr 1
    exact anyN_congr (fun t _ => by rw [isLft_lo hL]))
  have et : ∀ s, (fun t => !isLft M 100 t && ldsB M s t) = (fun t => !lo (M 0 13) (M 12) (M 13) t && ldsB M s t) := fun s => funext (fun t => by rw [isLft_lo hL])
  have hS' : jdS M 100 = if jdg M 100 = 1 then M 0 3 + 1 else if jdg M 100 = 3 then lst (2 ^ M 0 1) (fun s => lo (M 0 13) (M 12) (M 13) s && isBadS M s) else if jdg M 100 = 2 then lst (2 ^ M 0 1) (ofOut M (lo (M 0 13) (M 12) (M 13))) else 0 := by unfold jdS; rw [eb, eo]
  have hT' : jdT M 100 = if jdg M 100 = 2 then lst (2 ^ M 0 1) (fun t => !lo (M 0 13) (M 12) (M 13) t && ldsB M (jdS M 100 - 1) t) else 0 := by unfold jdT; rw [et]
  generalize lo (M 0 13) (M 12) (M 13) = L at *
  unfold wp_X2_judgeList
  refine xs_fault hW hR.1 hT hS ?_
  rw [← ej]
  have hb1 : But2 (fun a k => a = 1171 ∧ (k = 3 ∨ k = 4)) (fun _ => False) τ (sI (sI τ 1171 3 (-1)) 1171 4 (-1)) := (But2.rf.up ⟨rfl, Or.inl rfl⟩).up ⟨rfl, Or.inr rfl⟩
  have fin : ∀ a b υ, But2 (fun a k => a = 1171 ∧ (k = 3 ∨ k = 4)) (fun _ => False) τ υ → jdS M 100 = a → jdT M 100 = b → gI υ 1171 3 = e1 a → gI υ 1171 4 = e1 b → Q (nI (jdg M 100)) υ := fun a b υ g1 g2 g3 g4 g5 => by
    have := hq υ
    unfold op_judge at this
    rw [g2, g3] at this
    exact this (RX_jd hW hR g1 g4 g5)
  have hm1 : XMm M (sI (sI τ 1171 3 (-1)) 1171 4 (-1)) := hR.1.kept hb1.1 (fun a k z => by simp only [inXm] at z; omega)
  have hT1 : XT M (sI (sI τ 1171 3 (-1)) 1171 4 (-1)) := hT.kept2 hb1 (fun a _ z => z) h256
  have hS1 : SS (sI (sI τ 1171 3 (-1)) 1171 4 (-1)) 1168 (fun s => decide (s < nSt M) && L s) := hS.kept2 hb1 (fun z => z)
  have jv := jdg_v M 100
  refine ⟨fun z => ?_, fun z => ⟨fun z2 => ?_, fun z2 => ⟨fun z3 => ?_, fun z3 => ?_⟩⟩⟩
  · have z : jdg M 100 = 1 := by rw [lit, i_eq (by omega) (by decide)] at z; exact z
    refine fin (M 0 3 + 1) 0 _ (hb1.up ⟨rfl, Or.inl rfl⟩) (by rw [hS', if_pos z]) (by rw [hT', if_neg (by omega)]) ?_ (by simp [gI_sI, e1_0])
    rw [hm1.2.2.2.2.1, e1_s]
    simp [gI_sI]
  · have z : ¬ jdg M 100 = 1 := by rw [lit, i_eq (by omega) (by decide)] at z; exact z
    have z2 : jdg M 100 = 3 := by rw [lit, i_eq (by omega) (by decide)] at z2; exact z2
    refine ss_leastCommon ss_1168 ss_18 hS1 hT1.1 ?_
    have e : lst 256 (fun s => (decide (s < nSt M) && L s) && (decide (s < nSt M) && isBadS M s)) = lst (2 ^ M 0 1) (fun s => L s && isBadS M s) := by
      rw [lst_cut h256 (fun s hs => by rw [decide_eq_false (show ¬ s < nSt M by unfold nSt; omega)]; rfl)]
      exact lst_congr (fun s hs => by rw [decide_eq_true (show s < nSt M from hs), Bool.true_and, Bool.true_and])
    rw [e]
    exact fin _ 0 _ (hb1.up ⟨rfl, Or.inl rfl⟩) (by rw [hS', if_neg z, if_pos z2]) (by rw [hT', if_neg (by omega)]) (by simp [gI_sI]) (by simp [gI_sI, e1_0])
  · have z : ¬ jdg M 100 = 1 := by rw [lit, i_eq (by omega) (by decide)] at z; exact z
    have z2 : ¬ jdg M 100 = 3 := by rw [lit, i_eq (by omega) (by decide)] at z2; exact z2
    have z3 : jdg M 100 = 2 := by rw [lit, i_eq (by omega) (by decide)] at z3; exact z3
    rw [if_neg z, if_neg z2, if_pos z3] at hS'
    rw [if_pos z3] at hT'
    have hp : 1 ≤ jdS M 100 := by
      rw [hS']
      refine lst_pos ?_
      cases h5 : anyN (2 ^ M 0 1) (ofOut M L)
      · unfold jF at ej
        rw [h5, z3] at ej
        repeat' split at ej
        all_goals first | omega | (rename_i w; cases w)
      · rfl
    have hle := lst_le (2 ^ M 0 1) (ofOut M L)
    rw [← hS'] at hle
    refine xs_leadsOut hW hm1 hT1 hS1 ?_
    rw [← hS']
    have hb2 := hb1.up (a := 1171) (k := 3) (v := e1 (jdS M 100)) ⟨rfl, Or.inl rfl⟩
    have hT2 := hT.kept2 hb2 (fun a _ z => z) h256
    have hS2 := hS.kept2 hb2 (fun z => z)
    have g3 : gI (sI (sI (sI τ 1171 3 (-1)) 1171 4 (-1)) 1171 3 (e1 (jdS M 100))) 1171 3 = nI (jdS M 100 - 1) := by rw [← e1_p hp]; simp [gI_sI]
    rw [g3]
    refine xs_from (by omega) ?_
    rw [(ss_goes (show jdS M 100 - 1 < 256 by omega)).1]
    simp only [onB, cond_true]
    refine ss_leastOutside (ss_goes (by omega)) ss_1168 (hT2.2 _ (by unfold nSt; omega)) hS2 ?_
    have e : lst 256 (fun t => ldsB M (jdS M 100 - 1) t && !(decide (t < nSt M) && L t)) = lst (2 ^ M 0 1) (fun t => !L t && ldsB M (jdS M 100 - 1) t) := by
      rw [lst_cut h256 (fun t ht => by
        cases h1 : ldsB M (jdS M 100 - 1) t
        · rfl
        · have := ldsB_lt h1; omega)]
      exact lst_congr (fun t ht => by rw [decide_eq_true (show t < nSt M from ht), Bool.true_and, Bool.and_comm])
    rw [e]
    exact fin _ _ _ (hb2.up ⟨rfl, Or.inr rfl⟩) rfl hT' (by simp [gI_sI]) (by simp [gI_sI])
  · have z : ¬ jdg M 100 = 1 := by rw [lit, i_eq (by omega) (by decide)] at z; exact z
    have z2 : ¬ jdg M 100 = 3 := by rw [lit, i_eq (by omega) (by decide)] at z2; exact z2
    have z3 : ¬ jdg M 100 = 2 := by rw [lit, i_eq (by omega) (by decide)] at z3; exact z3
    exact fin 0 0 _ hb1 (by rw [hS', if_neg z, if_neg z2, if_neg z3]) (by rw [hT', if_neg z3]) (by simp [gI_sI, e1_0]) (by simp [gI_sI, e1_0])
