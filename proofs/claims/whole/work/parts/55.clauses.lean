/-! CLAUSES of the class: cubes in order, and what they leave in -/
def IsCl (o cap : Nat) : Prop := isK wX o 0 = true ∧ wR wX o 0 = o + 3 ∧ wR wX o 1 = o + 1 ∧ isA wX (o + 3) = true ∧ isK wX (o + 3) 20 = true ∧ wN wX (o + 3) = cap ∧ IsSS (o + 1) ∧ cap ≤ 200
theorem ButL.b2 {S : Nat → Nat → Prop} {T : Nat → Prop} {σ τ : Sg} (h : ButL T σ τ) : But2 S T σ τ := ⟨fun a k _ => h.1 a k, h.2⟩
theorem SS.kept2 {S : Nat → Nat → Prop} {T : Nat → Prop} {σ τ : Sg} {o : Nat} {F : Nat → Bool} (h : SS σ o F) (hb : But2 S T σ τ) (ho : ¬ T (o + 1)) : SS τ o F := fun s hs => by rw [hb.2 _ _ ho]; exact h s hs
def CS (o : Nat) (a k : Nat) : Prop := a = o + 3 ∨ (a = o ∧ (k = 2 ∨ k = 3))
def CT (o : Nat) (a : Nat) : Prop := a = o + 2
def CB (o : Nat) (σ τ : Sg) : Prop := But2 (CS o) (CT o) σ τ
/-- its rows -/
def CLr (σ : Sg) (o N n : Nat) (m v : Nat → Nat) : Prop := gI σ o 2 = nI n ∧ gI σ o 3 = nI N ∧ ∀ i, i < n → gI σ (o + 3) i = nI (cb (m i) (v i))
def CW (n : Nat) (m v : Nat → Nat) : Prop := ∀ i, i < n → m i < 256 ∧ v i &&& m i = v i
def lft (N n : Nat) (m v : Nat → Nat) (s : Nat) : Bool := decide (s < N) && !anyN n (fun i => inCubeB s (m i) (v i))
theorem cb_lt {m v : Nat} (hm : m < 256) (hv : v &&& m = v) : cb m v < 65536 := by
  have : v < 256 := and_eq_le hv hm
  unfold cb; omega
theorem cb_inj {m v m' v' : Nat} (h2 : v < 256) (h3 : v' < 256) : (cb m v = cb m' v') = (m = m' ∧ v = v') := by
  unfold cb
  exact propext ⟨fun h => by omega, fun h => by rw [h.1, h.2]⟩
theorem cl_isFull {σ : Sg} {o cap n : Nat} {Q : Int32 → Prop} (ho : IsCl o cap) (h2 : gI σ o 2 = nI n) (hn : n ≤ cap) (hq : Q (bi (!decide (n < cap)))) : wp_X0_isFull o σ Q := by
  obtain ⟨o1, o2, o3, o4, o5, o6, o7, o8⟩ := ho
  unfold wp_X0_isFull
  rw [o1, o2, o4, o6, h2]
  simp only [onB, cond_true]
  simp +decide (disch := omega) only [lit, lit_neg, i_add, i_mul, i_sub, i_div, i_and, i_or, i_shl1, Nat.one_mul, i_shr1, i_bit1, i_lt, i_eq, i_in, i_cl, i_0, gI_sI, bi_0n, bi_1n, nz_bi, nz_0n, nz_1n, vn_0n, vn_1n, vn_bi, and_true, true_and, not_false_eq_true, not_true_eq_false, false_implies, true_implies, forall_const, implies_true, ite_true, ite_false, Bool.not_eq_true, Bool.not_eq_false, and_false, false_and, if_true, if_false, if_pos, true_or, or_true, false_or, or_false]
  exact ⟨fun z => by rw [decide_eq_true z] at hq; exact hq, fun z => by rw [decide_eq_false z] at hq; exact hq⟩
theorem cl_hasIndex {σ : Sg} {o cap n : Nat} {x : Int32} {Q : Int32 → Prop} (ho : IsCl o cap) (h2 : gI σ o 2 = nI n) (hn : n ≤ cap) (hq : Q (bi (inb x n))) : wp_X0_hasIndex o x σ Q := by
  obtain ⟨o1, o2, o3, o4, o5, o6, o7, o8⟩ := ho
  unfold wp_X0_hasIndex
  rw [o1, o2, o4, o6, h2]
  simp only [onB, cond_true]
  rw [i_0, lt0_toInt, lt_toInt (show n < 2147483648 by omega), lt_toInt (show cap < 2147483648 by omega)]
  unfold inb at hq
  refine ⟨fun h => ⟨nz_0, ?_⟩, fun h => ⟨fun h2 => ⟨fun h3 => ⟨nz_1, ?_⟩, fun h3 => ⟨nz_0, ?_⟩⟩, fun h2 => ⟨nz_0, ?_⟩⟩⟩
  · rw [decide_eq_false (by omega)] at hq; exact hq
  · rw [decide_eq_true (by omega)] at hq; exact hq
  · rw [decide_eq_false (by omega)] at hq; exact hq
  · rw [decide_eq_false (by omega)] at hq; exact hq
theorem cl_cubeAt {σ : Sg} {o cap n i : Nat} {w : Int32} {Q : Int32 → Prop} (ho : IsCl o cap) (h2 : gI σ o 2 = nI n) (hn : n ≤ cap) (hi : i < n) (hw : gI σ (o + 3) i = w) (hq : Q w) : wp_X0_cubeAt o (nI i) σ Q := by
  have ho' := ho
  obtain ⟨o1, o2, o3, o4, o5, o6, o7, o8⟩ := ho
  unfold wp_X0_cubeAt
  rw [o1, o2, o5, o6]
  simp only [onB, cond_true]
  refine cl_hasIndex ho' h2 hn ?_
  rw [inb_n (by omega), decide_eq_true hi]
  simp +decide (disch := omega) only [lit, lit_neg, i_add, i_mul, i_sub, i_div, i_and, i_or, i_shl1, Nat.one_mul, i_shr1, i_bit1, i_lt, i_eq, i_in, i_cl, i_0, gI_sI, bi_0n, bi_1n, nz_bi, nz_0n, nz_1n, vn_0n, vn_1n, vn_bi, and_true, true_and, not_false_eq_true, not_true_eq_false, false_implies, true_implies, forall_const, implies_true, ite_true, ite_false, Bool.not_eq_true, Bool.not_eq_false, and_false, false_and, if_true, if_false, if_pos, true_or, or_true, false_or, or_false, bi_tn, show i < cap by omega, hw]
  exact hq
theorem cl_put {σ : Sg} {o cap n N mm vv : Nat} {m v : Nat → Nat} {F : Nat → Bool} {Q : Int32 → Sg → Prop} (ho : IsCl o cap) (h : CLr σ o N n m v) (hF : SS σ (o + 1) F) (hn : n < cap) (hm : mm < 256) (hv : vv &&& mm = vv) (hq : ∀ τ, CB o σ τ → CLr τ o N (n + 1) (fun i => if i = n then mm else m i) (fun i => if i = n then vv else v i) → SS τ (o + 1) (fun s => F s && !inCubeB s mm vv) → Q (nI 1) τ) : wp_X0_put o (nI (cb mm vv)) σ Q := by
  obtain ⟨o1, o2, o3, o4, o5, o6, o7, o8⟩ := ho
  obtain ⟨h2, h3, h4⟩ := h
  unfold wp_X0_put
  rw [o1, o2, o3, o4, o5, o6, o7.1, h2]
  simp only [onB, cond_true]
  simp +decide (disch := omega) only [lit, lit_neg, i_add, i_mul, i_sub, i_div, i_and, i_or, i_shl1, Nat.one_mul, i_shr1, i_bit1, i_lt, i_eq, i_in, i_cl, i_0, gI_sI, bi_0n, bi_1n, nz_bi, nz_0n, nz_1n, vn_0n, vn_1n, vn_bi, and_true, true_and, not_false_eq_true, not_true_eq_false, false_implies, true_implies, forall_const, implies_true, ite_true, ite_false, Bool.not_eq_true, Bool.not_eq_false, and_false, false_and, if_true, if_false, if_pos, true_or, or_true, false_or, or_false, hn, h2]
  refine ⟨by omega, fun _ => ?_⟩
  rw [if_neg (show ¬ (o = o + 3 ∧ 2 = n) by omega), i_add]
  have hb0 : CB o σ (sI (sI σ (o + 3) n (nI (cb mm vv))) o 2 (nI (n + 1))) := (But2.rf.up (Or.inl rfl)).up (Or.inr ⟨rfl, Or.inl rfl⟩)
  refine ss_dropCube o7 hm hv (hF.kept2 (S := CS o) (T := fun _ => False) ((But2.rf.up (Or.inl rfl)).up (Or.inr ⟨rfl, Or.inl rfl⟩)) (fun z => z)) (fun τ hb hs => ?_)
  refine hq τ (hb0.tr (hb.mono (fun a z => z)).b2) ⟨?_, ?_, fun i hi => ?_⟩ hs
  · rw [hb.1]; simp [gI_sI]
  · rw [hb.1]; simp [gI_sI, h3]
  · rw [hb.1]
    simp only [gI_sI]
    by_cases e : i = n
    · subst e; simp
    · simp [e]; exact h4 i (by omega)
theorem cl_putF {σ : Sg} {o cap n : Nat} {x : Int32} {Q : Int32 → Sg → Prop} (ho : IsCl o cap) (h2 : gI σ o 2 = nI n) (hn : n = cap) (hq : Q (nI 0) σ) : wp_X0_put o x σ Q := by
  obtain ⟨o1, o2, o3, o4, o5, o6, o7, o8⟩ := ho
  unfold wp_X0_put
  rw [o1, o2, o3, o4, o5, o6, o7.1, h2]
  simp only [onB, cond_true]
  simp +decide (disch := omega) only [lit, lit_neg, i_add, i_mul, i_sub, i_div, i_and, i_or, i_shl1, Nat.one_mul, i_shr1, i_bit1, i_lt, i_eq, i_in, i_cl, i_0, gI_sI, bi_0n, bi_1n, nz_bi, nz_0n, nz_1n, vn_0n, vn_1n, vn_bi, and_true, true_and, not_false_eq_true, not_true_eq_false, false_implies, true_implies, forall_const, implies_true, ite_true, ite_false, Bool.not_eq_true, Bool.not_eq_false, and_false, false_and, if_true, if_false, if_pos, true_or, or_true, false_or, or_false, show ¬ n < cap by omega]
  exact ⟨by omega, fun _ => hq⟩
theorem cl_hasCube {σ : Sg} {o cap n N mm vv : Nat} {m v : Nat → Nat} {Q : Int32 → Prop} (ho : IsCl o cap) (h : CLr σ o N n m v) (hw : CW n m v) (hn : n ≤ cap) (hm : mm < 256) (hv : vv &&& mm = vv) (hq : Q (bi (anyN n (fun i => decide (m i = mm) && decide (v i = vv))))) : wp_X0_hasCube o (nI (cb mm vv)) σ Q := by
  obtain ⟨o1, o2, o3, o4, o5, o6, o7, o8⟩ := ho
  obtain ⟨h2, h3, h4⟩ := h
  have hc := cb_lt hm hv
  intro L2 hL
  refine up_loop (I := fun i => anyN i (fun i => decide (m i = mm) && decide (v i = vv)) = false) n ?_ ?_ 0 (Nat.zero_le _) rfl
  · intro i hi hI nx
    apply hL
    have hci := cb_lt (hw i hi).1 (hw i hi).2
    rw [o1, o2, o4, o5, o6, h2]
    simp only [onB, cond_true]
    simp +decide (disch := omega) only [lit, lit_neg, i_add, i_mul, i_sub, i_div, i_and, i_or, i_shl1, Nat.one_mul, i_shr1, i_bit1, i_lt, i_eq, i_in, i_cl, i_0, gI_sI, bi_0n, bi_1n, nz_bi, nz_0n, nz_1n, vn_0n, vn_1n, vn_bi, and_true, true_and, not_false_eq_true, not_true_eq_false, false_implies, true_implies, forall_const, implies_true, ite_true, ite_false, Bool.not_eq_true, Bool.not_eq_false, and_false, false_and, if_true, if_false, if_pos, true_or, or_true, false_or, or_false, hi, show i < cap by omega, h4 i hi]
    rw [cb_inj (and_eq_le (hw i hi).2 (hw i hi).1) (and_eq_le hv hm)]
    refine ⟨fun e => ?_, fun e => nx ?_⟩
    · have : anyN n (fun i => decide (m i = mm) && decide (v i = vv)) = true := anyN_iff.mpr ⟨i, hi, by rw [decide_eq_true e.1, decide_eq_true e.2]; rfl⟩
      rw [this] at hq
      exact hq
    · simp only [anyN]
      rw [hI]
      by_cases e1 : m i = mm
      · rw [decide_eq_false (fun e2 => e ⟨e1, e2⟩), Bool.and_false]; rfl
      · rw [decide_eq_false e1]; rfl
  · intro hI
    apply hL
    rw [o1, o2, o4, o5, o6, h2]
    simp only [onB, cond_true]
    simp +decide (disch := omega) only [lit, lit_neg, i_add, i_mul, i_sub, i_div, i_and, i_or, i_shl1, Nat.one_mul, i_shr1, i_bit1, i_lt, i_eq, i_in, i_cl, i_0, gI_sI, bi_0n, bi_1n, nz_bi, nz_0n, nz_1n, vn_0n, vn_1n, vn_bi, and_true, true_and, not_false_eq_true, not_true_eq_false, false_implies, true_implies, forall_const, implies_true, ite_true, ite_false, Bool.not_eq_true, Bool.not_eq_false, and_false, false_and, if_true, if_false, if_pos, true_or, or_true, false_or, or_false, Nat.lt_irrefl]
    rw [hI] at hq
    exact hq
theorem cl_hasAllOf {σ : Sg} {o cap n N o' cap' n' : Nat} {m v m' v' : Nat → Nat} {Q : Int32 → Prop} (ho : IsCl o cap) (h : CLr σ o N n m v) (hw : CW n m v) (hn : n ≤ cap) (ho' : IsCl o' cap') (h' : CLr σ o' N n' m' v') (hw' : CW n' m' v') (hn' : n' ≤ cap') (hq : Q (bi (allN n' (fun j => anyN n (fun i => decide (m i = m' j) && decide (v i = v' j)))))) : wp_X0_hasAllOf o o' σ Q := by
  have hb := ho'.2.2.2.2.2.2.2
  intro L2 hL
  refine up_loop (I := fun i => allN i (fun j => anyN n (fun i => decide (m i = m' j) && decide (v i = v' j))) = true) n' ?_ ?_ 0 (Nat.zero_le _) rfl
  · intro i hi hI nx
    apply hL
    rw [ho.1, ho'.1, h'.1]
    simp only [onB, cond_true]
    simp +decide (disch := omega) only [lit, lit_neg, i_add, i_mul, i_sub, i_div, i_and, i_or, i_shl1, Nat.one_mul, i_shr1, i_bit1, i_lt, i_eq, i_in, i_cl, i_0, gI_sI, bi_0n, bi_1n, nz_bi, nz_0n, nz_1n, vn_0n, vn_1n, vn_bi, and_true, true_and, not_false_eq_true, not_true_eq_false, false_implies, true_implies, forall_const, implies_true, ite_true, ite_false, Bool.not_eq_true, Bool.not_eq_false, and_false, false_and, if_true, if_false, if_pos, true_or, or_true, false_or, or_false, hi]
    refine cl_cubeAt ho' h'.1 hn' hi (h'.2.2 i hi) (cl_hasCube ho h hw hn (hw' i hi).1 (hw' i hi).2 ?_)
    simp +decide (disch := omega) only [lit, lit_neg, i_add, i_mul, i_sub, i_div, i_and, i_or, i_shl1, Nat.one_mul, i_shr1, i_bit1, i_lt, i_eq, i_in, i_cl, i_0, gI_sI, bi_0n, bi_1n, nz_bi, nz_0n, nz_1n, vn_0n, vn_1n, vn_bi, and_true, true_and, not_false_eq_true, not_true_eq_false, false_implies, true_implies, forall_const, implies_true, ite_true, ite_false, Bool.not_eq_true, Bool.not_eq_false, and_false, false_and, if_true, if_false, if_pos, true_or, or_true, false_or, or_false]
    refine ⟨fun e => ?_, fun e => nx (by simp only [allN]; rw [hI, e]; rfl)⟩
    have : allN n' (fun j => anyN n (fun i => decide (m i = m' j) && decide (v i = v' j))) = false := allN_f.mpr ⟨i, hi, e⟩
    rw [this] at hq
    exact hq
  · intro hI
    apply hL
    rw [ho.1, ho'.1, h'.1]
    simp only [onB, cond_true]
    simp +decide (disch := omega) only [lit, lit_neg, i_add, i_mul, i_sub, i_div, i_and, i_or, i_shl1, Nat.one_mul, i_shr1, i_bit1, i_lt, i_eq, i_in, i_cl, i_0, gI_sI, bi_0n, bi_1n, nz_bi, nz_0n, nz_1n, vn_0n, vn_1n, vn_bi, and_true, true_and, not_false_eq_true, not_true_eq_false, false_implies, true_implies, forall_const, implies_true, ite_true, ite_false, Bool.not_eq_true, Bool.not_eq_false, and_false, false_and, if_true, if_false, if_pos, true_or, or_true, false_or, or_false, Nat.lt_irrefl]
    rw [hI] at hq
    exact hq
theorem cl_restart {σ : Sg} {o cap N : Nat} {m v : Nat → Nat} {Q : Sg → Prop} (ho : IsCl o cap) (hN : N ≤ 256) (hq : ∀ τ, CB o σ τ → CLr τ o N 0 m v → SS τ (o + 1) (fun s => decide (s < N)) → Q τ) : wp_X0_restart o (nI N) σ Q := by
  obtain ⟨o1, o2, o3, o4, o5, o6, o7, o8⟩ := ho
  unfold wp_X0_restart
  rw [o1, o3, o7.1]
  simp only [onB, cond_true]
  have hb0 : CB o σ (sI (sI σ o 2 0) o 3 (nI N)) := (But2.rf.up (Or.inr ⟨rfl, Or.inl rfl⟩)).up (Or.inr ⟨rfl, Or.inr rfl⟩)
  refine ss_first o7 hN (fun τ hb hs => hq τ (hb0.tr (hb.mono (fun a z => z)).b2) ⟨?_, ?_, fun i hi => absurd hi (by omega)⟩ hs)
  · rw [hb.1]; simp [gI_sI, nI_0]
  · rw [hb.1]; simp [gI_sI]
theorem CLr.kept {S : Nat → Nat → Prop} {T : Nat → Prop} {σ τ : Sg} {o N n : Nat} {m v : Nat → Nat} (h : CLr σ o N n m v) (hb : But2 S T σ τ) (hs : ∀ a k, CS o a k → ¬ S a k) : CLr τ o N n m v := by
  obtain ⟨h2, h3, h4⟩ := h
  exact ⟨by rw [hb.1 _ _ (hs _ _ (Or.inr ⟨rfl, Or.inl rfl⟩))]; exact h2, by rw [hb.1 _ _ (hs _ _ (Or.inr ⟨rfl, Or.inr rfl⟩))]; exact h3, fun i hi => by rw [hb.1 _ _ (hs _ _ (Or.inl rfl))]; exact h4 i hi⟩
theorem cl_findLeft {σ : Sg} {o cap N n : Nat} {m v : Nat → Nat} {Q : Sg → Prop} (ho : IsCl o cap) (h : CLr σ o N n m v) (hw : CW n m v) (hn : n ≤ cap) (hN : N ≤ 256) (hq : ∀ τ, ButL (CT o) σ τ → SS τ (o + 1) (lft N n m v) → Q τ) : wp_X0_findLeft o σ Q := by
  obtain ⟨o1, o2, o3, o4, o5, o6, o7, o8⟩ := ho
  obtain ⟨h2, h3, h4⟩ := h
  intro L hL
  rw [o1, o3, o7.1, h3]
  simp only [onB, cond_true]
  refine ss_first o7 hN (fun τ hb hs => ?_)
  refine up_loopS (I := fun i τ => ButL (CT o) σ τ ∧ SS τ (o + 1) (lft N i m v)) n ?_ ?_ 0 τ (Nat.zero_le _) ⟨hb, SS_congr hs (fun s _ => by simp [lft, anyN])⟩
  · intro i τ hi ⟨hb, hs⟩ nx
    apply hL
    rw [o1, o2, o3, o4, o5, o6, o7.1, hb.1, h2]
    simp only [onB, cond_true]
    simp +decide (disch := omega) only [lit, lit_neg, i_add, i_mul, i_sub, i_div, i_and, i_or, i_shl1, Nat.one_mul, i_shr1, i_bit1, i_lt, i_eq, i_in, i_cl, i_0, gI_sI, bi_0n, bi_1n, nz_bi, nz_0n, nz_1n, vn_0n, vn_1n, vn_bi, and_true, true_and, not_false_eq_true, not_true_eq_false, false_implies, true_implies, forall_const, implies_true, ite_true, ite_false, Bool.not_eq_true, Bool.not_eq_false, and_false, false_and, if_true, if_false, if_pos, true_or, or_true, false_or, or_false, hi, show i < cap by omega, hb.1, h4 i hi]
    refine ss_dropCube o7 (hw i hi).1 (hw i hi).2 hs (fun υ hb2 hs2 => nx υ ⟨hb.tr hb2, SS_congr hs2 (fun s _ => ?_)⟩)
    simp only [lft, anyN]
    cases decide (s < N) <;> cases anyN i (fun i => inCubeB s (m i) (v i)) <;> cases inCubeB s (m i) (v i) <;> rfl
  · intro τ ⟨hb, hs⟩
    apply hL
    rw [o1, o2, o3, o4, o5, o6, o7.1, hb.1, h2]
    simp only [onB, cond_true]
    simp +decide (disch := omega) only [lit, lit_neg, i_add, i_mul, i_sub, i_div, i_and, i_or, i_shl1, Nat.one_mul, i_shr1, i_bit1, i_lt, i_eq, i_in, i_cl, i_0, gI_sI, bi_0n, bi_1n, nz_bi, nz_0n, nz_1n, vn_0n, vn_1n, vn_bi, and_true, true_and, not_false_eq_true, not_true_eq_false, false_implies, true_implies, forall_const, implies_true, ite_true, ite_false, Bool.not_eq_true, Bool.not_eq_false, and_false, false_and, if_true, if_false, if_pos, true_or, or_true, false_or, or_false, Nat.lt_irrefl]
    exact hq τ hb hs
