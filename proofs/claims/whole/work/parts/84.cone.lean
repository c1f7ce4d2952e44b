/-! the class: the cone -/
def gsx (M : Ms) (q p : Nat) : Prop := M 1 q = 0 ∧ (p = (M 2 q - 1) / 2 ∨ p = (M 3 q - 1) / 2)
def scx (M : Ms) (q p : Nat) : Prop := M 1 q ≠ 3 ∧ (p = (M 2 q - 1) / 2 ∨ (M 1 q = 0 ∧ p = (M 3 q - 1) / 2))
/-- over gates alone -/
def gD (M : Ms) (X : Nat → Prop) (p : Nat) : Prop := ∀ T : Nat → Prop, (∀ q, X q → T q) → (∀ q r, T q → gsx M q r → T r) → T p
theorem gD_x {M : Ms} {X : Nat → Prop} {p : Nat} (h : X p) : gD M X p := fun _ h1 _ => h1 p h
theorem gD_s {M : Ms} {X : Nat → Prop} {q r : Nat} (h : gD M X q) (hs : gsx M q r) : gD M X r := fun T h1 h2 => h2 q r (h T h1 h2) hs
theorem gsx_lt {M : Ms} (hW : WFm M) {q r : Nat} (hq : q < M 0 0) (hs : gsx M q r) : r < q := by
  obtain ⟨h0, h1⟩ := hs
  obtain ⟨-, -, -, g1, -⟩ := hW.2.2.2.2.2.2.2.2.1 q hq
  have := g1 h0
  omega
theorem gD_lt {M : Ms} (hW : WFm M) {X : Nat → Prop} (hX : ∀ q, X q → q < M 0 0) {p : Nat} (h : gD M X p) : p < M 0 0 :=
  h (fun q => q < M 0 0) hX (fun q r hq hs => Nat.lt_trans (gsx_lt hW hq hs) hq)
theorem gD_inv {M : Ms} (hW : WFm M) {X : Nat → Prop} (hX : ∀ q, X q → q < M 0 0) {p : Nat} (h : gD M X p) : X p ∨ ∃ q, q < M 0 0 ∧ gD M X q ∧ gsx M q p := by
  have := h (fun r => gD M X r ∧ (X r ∨ ∃ q, q < M 0 0 ∧ gD M X q ∧ gsx M q r)) (fun q hq => ⟨gD_x hq, Or.inl hq⟩) (fun q r hq hs => ⟨gD_s hq.1 hs, Or.inr ⟨q, gD_lt hW hX hq.1, hq.1, hs⟩⟩)
  exact this.2
def Acl (M : Ms) : Nat → Nat → Prop
  | 0, p => hng M 0 p = true
  | i + 1, p => Acl M i p ∨ gD M (Acl M i) p ∨ ∃ q, gD M (Acl M i) q ∧ scx M q p
theorem scx_lt {M : Ms} (hW : WFm M) {q r : Nat} (hq : q < M 0 0) (hs : scx M q r) : r < M 0 0 := by
  obtain ⟨h0, h1⟩ := hs
  obtain ⟨a0, a2, a3, g1, g2, g3, g4⟩ := hW.2.2.2.2.2.2.2.2.1 q hq
  rcases h1 with h1 | ⟨h1, h2⟩
  · by_cases z : M 1 q = 0
    · have := g1 z; omega
    · have := g2 (by omega); omega
  · have := g1 h1; omega
theorem Acl_lt {M : Ms} (hW : WFm M) (hb : 1 ≤ M 0 4) : ∀ i p, Acl M i p → p < M 0 0
  | 0, p, h => by
    have hw4 := hW.2.2.2.2.2.2.1
    have h : hng M 0 p = true := h
    simp only [hng, Bool.or_eq_true, decide_eq_true_eq] at h
    rcases h with h | h
    · omega
    · obtain ⟨i, hi, h⟩ := anyN_iff.mp h
      have := hW.2.2.2.2.2.2.2.2.2.2.1 i hi
      have h := of_decide_eq_true h
      omega
  | i + 1, p, h => by
    have ih := Acl_lt hW hb i
    rcases h with h | h | ⟨q, h1, h2⟩
    · exact ih p h
    · exact gD_lt hW ih h
    · exact scx_lt hW (gD_lt hW ih h1) h2
theorem Acl_mono {M : Ms} {i p : Nat} : ∀ k, Acl M i p → Acl M (i + k) p
  | 0, h => h
  | k + 1, h => Or.inl (Acl_mono k h)
theorem hng_sub {M : Ms} {T : Nat → Prop} (h0 : ∀ p, hng M 0 p = true → T p) (hs : ∀ q p, q < M 0 0 → T q → scx M q p → T p) : ∀ d p, hng M d p = true → T p
  | 0, p, h => h0 p h
  | d + 1, p, h => by
    simp only [hng, Bool.or_eq_true] at h
    rcases h with h | h
    · exact hng_sub h0 hs d p h
    · obtain ⟨q, hq, h⟩ := anyN_iff.mp h
      simp only [Bool.and_eq_true, Bool.or_eq_true, decide_eq_true_eq] at h
      obtain ⟨h1, h2⟩ := h
      refine hs q p hq (hng_sub h0 hs d q h1) ?_
      rcases h2 with ⟨h2, h3⟩ | ⟨h2, h3⟩
      · exact ⟨h2, Or.inl h3⟩
      · exact ⟨by omega, Or.inr ⟨h2, h3⟩⟩
/-- after nine passes every bit that hangs in is there -/
theorem Acl_9 {M : Ms} (hW : WFm M) (hb : 1 ≤ M 0 4) {j : Nat} (hj : j < M 0 1) (h : clo M (M 7 j) = true) : Acl M 9 (M 7 j) := by
  have h8 := hW.2.1
  have key : ∃ i, i ≤ 8 ∧ ∀ j, j < M 0 1 → gD M (Acl M (i + 1)) (M 7 j) → gD M (Acl M i) (M 7 j) := by
    refine Classical.byContradiction fun hn => ?_
    have hs : ∀ i, i ≤ 8 → ¬ ∀ j, j < M 0 1 → gD M (Acl M (i + 1)) (M 7 j) → gD M (Acl M i) (M 7 j) := fun i hi z => hn ⟨i, hi, z⟩
    have grow : ∀ i, i ≤ 9 → i ≤ cntB (M 0 1) (fun j => @decide (gD M (Acl M i) (M 7 j)) (Classical.propDecidable _)) := by
      intro i
      induction i with
      | zero => intro _; exact Nat.zero_le _
      | succ i ih =>
        intro hi
        have h1 := ih (by omega)
        have h2 := cntB_lt (n := M 0 1) (f := fun j => @decide (gD M (Acl M i) (M 7 j)) (Classical.propDecidable _)) (g := fun j => @decide (gD M (Acl M (i + 1)) (M 7 j)) (Classical.propDecidable _)) (fun p _ hp => by
          have hp := @of_decide_eq_true _ (Classical.propDecidable _) hp
          exact @decide_eq_true _ (Classical.propDecidable _) (gD_x (Or.inr (Or.inl hp))))
        refine Nat.lt_of_not_le fun h3 => ?_
        refine hs i (by omega) (fun j hj hd => ?_)
        have h4 := h2.2 (by omega) j hj
        have h5 : @decide (gD M (Acl M (i + 1)) (M 7 j)) (Classical.propDecidable _) = true := @decide_eq_true _ (Classical.propDecidable _) hd
        exact @of_decide_eq_true _ (Classical.propDecidable _) (h4.trans h5)
    have := grow 9 (Nat.le_refl _)
    have := cntB_le (M 0 1) (fun j => @decide (gD M (Acl M 9) (M 7 j)) (Classical.propDecidable _))
    omega
  obtain ⟨i, hi, hk⟩ := key
  have hAl := Acl_lt hW hb (i + 1)
  have hc : gD M (Acl M (i + 1)) (M 7 j) := by
    refine hng_sub (T := gD M (Acl M (i + 1))) (fun p hp => gD_x ?_) (fun q p hq hT hs => ?_) (M 0 0) _ h
    · have : Acl M (0 + (i + 1)) p := Acl_mono (i + 1) hp
      rw [Nat.zero_add] at this
      exact this
    · obtain ⟨-, -, -, -, g2, -⟩ := hW.2.2.2.2.2.2.2.2.1 q hq
      have g0 := (hW.2.2.2.2.2.2.2.2.1 q hq).1
      by_cases z : M 1 q = 0
      · refine gD_s hT ⟨z, ?_⟩
        rcases hs.2 with h1 | ⟨-, h1⟩
        · exact Or.inl h1
        · exact Or.inr h1
      · have h3 := hs.1
        obtain ⟨-, b1, b2, -⟩ := g2 (by omega)
        have := hk (M 4 q) b1 (by rw [b2]; exact hT)
        rw [b2] at this
        exact gD_x (Or.inr (Or.inr ⟨q, this, hs⟩))
  have := hk j hj hc
  have h1 : Acl M (i + 1) (M 7 j) := Or.inr (Or.inl this)
  have := Acl_mono (8 - i) h1
  rw [show i + 1 + (8 - i) = 9 by omega] at this
  exact this
def Mkx (M : Ms) (τ : Sg) (μ : Nat → Bool) : Prop := ∀ p, p < M 0 0 → gI τ 8 p = bi (μ p)
theorem Mkx.set {M : Ms} {τ : Sg} {μ : Nat → Bool} (h : Mkx M τ μ) (q : Nat) : Mkx M (sI τ 8 q (bi true)) (fun p => μ p || decide (p = q)) := by
  intro p hp
  show _ = bi (μ p || decide (p = q))
  rw [gI_sI]
  by_cases e : p = q
  · rw [if_pos ⟨rfl, e⟩, decide_eq_true e, Bool.or_true]
  · rw [if_neg (by omega), decide_eq_false e, Bool.or_false]; exact h p hp
theorem xs_isMarked {M : Ms} {σ : Sg} {μ : Nat → Bool} {p : Nat} {Q : Int32 → Prop} (hW : WFm M) (hm : XMm M σ) (hM : Mkx M σ μ) (hp : p < M 0 0) (hq : Q (bi (μ p))) : wp_X3_isMarked (nI p) σ Q := by
  have h80 := hW.1
  refine xs_part hW hm hp ?_
  simp +decide (disch := omega) only [lit, lit_neg, i_add, i_mul, i_sub, i_div, i_and, i_or, i_shl1, Nat.one_mul, i_shr1, i_bit1, i_lt, i_eq, i_in, i_cl, i_0, gI_sI, bi_0n, bi_1n, nz_bi, nz_0n, nz_1n, vn_0n, vn_1n, vn_bi, and_true, true_and, not_false_eq_true, not_true_eq_false, false_implies, true_implies, forall_const, implies_true, ite_true, ite_false, Bool.not_eq_true, Bool.not_eq_false, and_false, false_and, if_true, if_false, if_pos, true_or, or_true, false_or, or_false, show p < 80 by omega, hM p hp]
  exact ⟨fun z => by rw [z] at hq; exact hq, fun z => by rw [z] at hq; exact hq⟩
theorem xs_mark {M : Ms} {σ : Sg} {g : Nat} {Q : Sg → Prop} (hW : WFm M) (hm : XMm M σ) (hg : g ≤ 2 * M 0 0) (h0 : g = 0 → Q σ) (h1 : 1 ≤ g → Q (sI σ 8 ((g - 1) / 2) (bi true))) : wp_X3_markSign (e1 g) σ Q := by
  have h80 := hW.1
  unfold wp_X3_markSign
  refine xs_hasSign hW hm ?_
  rcases Nat.eq_zero_or_pos g with z | z
  · subst z
    have : isSg (e1 0) M = false := by
      unfold isSg inb
      rw [e1_0, show (-1 : Int32).toInt = -1 from rfl]
      exact decide_eq_false (by omega)
    rw [this]
    exact ⟨fun _ => h0 rfl, fun w => absurd rfl w⟩
  · rw [e1_p z]
    have : isSg (nI (g - 1)) M = true := by unfold isSg; rw [inb_n (by omega), decide_eq_true (by omega)]
    rw [this, i_half (by omega)]
    refine ⟨fun w => absurd w (by decide), fun _ => ⟨?_, ?_⟩⟩
    · rw [i_in (by omega)]; omega
    · rw [i_cl (by omega), vn_1]; exact h1 z
def only8 (a _k : Nat) : Prop := a = 8
theorem XMm.o8 {M : Ms} {σ τ : Sg} (h : XMm M σ) (hb : But2 only8 (fun _ => False) σ τ) : XMm M τ := h.kept hb.1 (fun a k z => by simp only [inXm] at z; unfold only8; omega)
theorem xs_markPass {M : Ms} {σ : Sg} {μ : Nat → Bool} {A : Nat → Prop} {Q : Sg → Prop} (hW : WFm M) (hm : XMm M σ) (hM : Mkx M σ μ) (hA : ∀ q, A q → q < M 0 0 ∧ μ q = true) (hs : ∀ q, q < M 0 0 → μ q = true → clo M q = true)
    (hq : ∀ τ μ', But2 only8 (fun _ => False) σ τ → Mkx M τ μ' → (∀ q, (A q ∨ gD M A q ∨ ∃ r, gD M A r ∧ scx M r q) → q < M 0 0 ∧ μ' q = true) → (∀ q, q < M 0 0 → μ' q = true → clo M q = true) → Q τ) : wp_X3_markPass σ Q := by
  have h80 := hW.1
  have hAl : ∀ q, A q → q < M 0 0 := fun q h => (hA q h).1
  intro L hL
  have main : ∀ (n : Nat) (τ : Sg) (μ' : Nat → Bool), n ≤ M 0 0 → But2 only8 (fun _ => False) σ τ → Mkx M τ μ' → (∀ q, μ q = true → μ' q = true) → (∀ q, q < M 0 0 → μ' q = true → clo M q = true) → (∀ q, n ≤ q → gD M A q → μ' q = true ∧ ∀ p, scx M q p → μ' p = true) → L (e1 n) τ := by
    intro n
    induction n with
    | zero =>
      intro τ μ' _ hb hM' hsub hcl hI
      apply hL
      refine ⟨fun _ => hq τ μ' hb hM' (fun q h => ?_) hcl, fun z => absurd (by decide) z⟩
      rcases h with h | h | ⟨r, h1, h2⟩
      · exact ⟨hAl q h, hsub q (hA q h).2⟩
      · exact ⟨gD_lt hW hAl h, (hI q (Nat.zero_le _) h).1⟩
      · exact ⟨scx_lt hW (gD_lt hW hAl h1) h2, (hI r (Nat.zero_le _) h1).2 q h2⟩
    | succ n ih =>
      intro τ μ' hn hb hM' hsub hcl hI
      have hmτ := hm.o8 hb
      have hnn : n < M 0 0 := by omega
      apply hL
      rw [e1_s, i_0, i_lt (by omega) (by decide)]
      refine ⟨fun z => absurd z (by omega), fun _ => ?_⟩
      refine xs_isMarked hW hmτ hM' hnn ?_
      have en : nI n + (-1 : Int32) = e1 n := by
        rcases Nat.eq_zero_or_pos n with z | z
        · subst z; rfl
        · obtain ⟨l, rfl⟩ : ∃ l, n = l + 1 := ⟨n - 1, by omega⟩
          rw [e1_s]; exact pk_m1 l
      have hin : gD M A n → μ' n = true := fun h => by
        rcases gD_inv hW hAl h with h1 | ⟨q, q1, q2, q3⟩
        · exact hsub n (hA n h1).2
        · have := gsx_lt hW q1 q3
          refine (hI q (by omega) q2).2 n ⟨by have := q3.1; omega, ?_⟩
          rcases q3.2 with z | z
          · exact Or.inl z
          · exact Or.inr ⟨q3.1, z⟩
      rw [en, bi_0n]
      refine ⟨fun z => ih τ μ' (by omega) hb hM' hsub hcl (fun q h1 h2 => ?_), fun z => ?_⟩
      · by_cases e : q = n
        · rw [e] at h2
          have := hin h2
          rw [z] at this; cases this
        · exact hI q (by omega) h2
      · have z : μ' n = true := by simpa using z
        have hc := hcl n hnn z
        obtain ⟨a0, a2, a3, g1, g2, g3, g4⟩ := hW.2.2.2.2.2.2.2.2.1 n hnn
        refine xs_first hW hmτ hnn ?_
        -- behind the second mark
        have step2 : ∀ (υ : Sg) (ν : Nat → Bool), But2 only8 (fun _ => False) σ υ → Mkx M υ ν → (∀ q, μ' q = true → ν q = true) → (∀ q, q < M 0 0 → ν q = true → clo M q = true) → (M 1 n ≠ 3 → ν ((M 2 n - 1) / 2) = true) → wp_X3_secondSign (nI n) υ (fun r4 => wp_X3_markSign r4 υ (fun s5 => L (e1 n) s5)) := by
          intro υ ν hbυ hMυ hsubν hclν hν
          have hmυ := hm.o8 hbυ
          refine xs_second hW hmυ hnn ?_
          have fin : ∀ (ω : Sg) (ξ : Nat → Bool), But2 only8 (fun _ => False) σ ω → Mkx M ω ξ → (∀ q, ν q = true → ξ q = true) → (∀ q, q < M 0 0 → ξ q = true → clo M q = true) → (M 1 n = 0 → ξ ((M 3 n - 1) / 2) = true) → L (e1 n) ω := by
            intro ω ξ hbω hMω hsubξ hclξ hξ
            refine ih ω ξ (by omega) hbω hMω (fun q h => hsubξ q (hsubν q (hsub q h))) hclξ (fun q h1 h2 => ?_)
            by_cases e : q = n
            · subst e
              refine ⟨hsubξ _ (hsubν _ z), fun p hp => ?_⟩
              rcases hp.2 with w | ⟨w, w2⟩
              · rw [w]; exact hsubξ _ (hν hp.1)
              · rw [w2]; exact hξ w
            · have := hI q (by omega) h2
              exact ⟨hsubξ _ (hsubν _ this.1), fun p hp => hsubξ _ (hsubν _ (this.2 p hp))⟩
          refine xs_mark hW hmυ a3 (fun w => fin υ ν hbυ hMυ (fun _ h => h) hclν (fun w0 => ?_)) (fun w => ?_)
          · have := g1 w0; omega
          · have k0 : M 1 n = 0 := by
              by_cases e : M 1 n = 0
              · exact e
              · by_cases e2 : M 1 n = 3
                · have := g4 e2; omega
                · have := g2 (by omega); omega
            refine fin _ _ (hbυ.up rfl) (hMυ.set _) (fun q h => by rw [h]; rfl) (fun q hq1 hq2 => ?_) (fun _ => by rw [decide_eq_true rfl, Bool.or_true])
            rw [Bool.or_eq_true] at hq2
            rcases hq2 with hq2 | hq2
            · exact hclν q hq1 hq2
            · rw [of_decide_eq_true hq2]; exact (clo_x hW hnn hc (by omega)).2 k0
        refine xs_mark hW hmτ a2 (fun w => step2 τ μ' hb hM' (fun _ h => h) hcl (fun w0 => ?_)) (fun w => ?_)
        · by_cases e : M 1 n = 0
          · have := g1 e; omega
          · have := g2 (by omega); omega
        · have k3 : M 1 n ≠ 3 := fun e => by have := g4 e; omega
          refine step2 _ _ (hb.up rfl) (hM'.set _) (fun q h => by rw [h]; rfl) (fun q hq1 hq2 => ?_) (fun _ => by rw [decide_eq_true rfl, Bool.or_true])
          rw [Bool.or_eq_true] at hq2
          rcases hq2 with hq2 | hq2
          · exact hcl q hq1 hq2
          · rw [of_decide_eq_true hq2]; exact (clo_x hW hnn hc k3).1
  rw [hm.2.1]
  exact main (M 0 0) σ μ (Nat.le_refl _) But2.rf hM (fun _ h => h) hs (fun q h1 h2 => by have := gD_lt hW hAl h2; omega)
