/-! PLAIN FACTS -/
def bi (b : Bool) : Int32 := bif b then 1 else 0
theorem bi_0 (b : Bool) : (bi b = 0) = (b = false) := by cases b <;> simp [bi]
theorem bi_1 (b : Bool) : (bi b = 1) = (b = true) := by cases b <;> simp [bi]
theorem bi_t : bi true = 1 := rfl
theorem bi_f : bi false = 0 := rfl
theorem bi_nz (b : Bool) : nz (bi b) := by cases b <;> simp [bi, nz]
theorem nz_bi (b : Bool) : nz (bi b) = True := eq_true (bi_nz b)
theorem nz_n0 : nz (nI 0) := Or.inl rfl
theorem nz_n1 : nz (nI 1) := Or.inr rfl
theorem vn_bi (b : Bool) : vp_nar .boolean (bi b) = bi b := by cases b <;> rfl
theorem vn_0 : vp_nar .boolean (0 : Int32) = bi false := rfl
theorem vn_1 : vp_nar .boolean (1 : Int32) = bi true := rfl
/-- a number or none, one more -/
def e1 (n : Nat) : Int32 := nI n - 1
theorem e1_0 : e1 0 = -1 := rfl
theorem e1_s (n : Nat) : e1 (n + 1) = nI n := nI_pred n
theorem e1_p {n : Nat} (h : 0 < n) : e1 n = nI (n - 1) := by
  obtain ⟨k, rfl⟩ : ∃ k, n = k + 1 := ⟨n - 1, by omega⟩
  exact e1_s k
theorem lit (n : Nat) : (OfNat.ofNat n : Int32) = nI n := rfl
theorem i_lt {a b : Nat} (ha : a < 2147483648) (hb : b < 2147483648) : (nI a < nI b) = (a < b) := propext (nI_ltI ha hb)
theorem i_le {a b : Nat} (ha : a < 2147483648) (hb : b < 2147483648) : (nI a ≤ nI b) = (a ≤ b) := propext (nI_leI ha hb)
theorem i_eq {a b : Nat} (ha : a < 2147483648) (hb : b < 2147483648) : (nI a = nI b) = (a = b) := propext (nI_eq ha hb)
theorem i_lt0 {a : Nat} (ha : a < 2147483648) : (nI a < 0) = False := eq_false (nI_pos ha)
theorem i_0lt {a : Nat} (ha : a < 2147483648) : (0 < nI a) = (0 < a) := i_lt (by decide) ha
theorem i_eq0 {a : Nat} (ha : a < 2147483648) : (nI a = 0) = (a = 0) := i_eq ha (by decide)
theorem i_in {n N : Nat} (hn : n < 2147483648) : vp_in (nI n) N = (n < N) := by
  refine propext ⟨fun h => ?_, fun h => ?_⟩
  · by_cases q : n < N
    · exact q
    · exact absurd (Or.inr (by rw [nI_clamp hn]; omega)) h
  · unfold vp_in
    rw [nI_clamp hn]
    intro q
    rcases q with q | q
    · exact nI_pos hn q
    · omega
theorem i_cl {n : Nat} (hn : n < 2147483648) : (nI n).toNatClampNeg = n := nI_clamp hn
theorem i_add (a b : Nat) : nI a + nI b = nI (a + b) := nI_add a b
theorem i_mul (a b : Nat) : nI a * nI b = nI (a * b) := pk_mul a b
theorem i_sub {a b : Nat} (h : b ≤ a) : nI a - nI b = nI (a - b) := pk_sub h
theorem i_div {a d : Nat} (ha : a < 2147483648) (h0 : 0 < d) (hd : d < 2147483648) : nI a / nI d = nI (a / d) := pk_div ha h0 hd
theorem i_bv (n : Nat) : (nI n).toBitVec = BitVec.ofNat 32 n := rfl
theorem i_ext {x y : Int32} (h : x.toBitVec = y.toBitVec) : x = y := Int32.toBitVec_inj.mp h
theorem i_and (a b : Nat) : nI a &&& nI b = nI (a &&& b) := by
  apply i_ext
  rw [Int32.toBitVec_and, i_bv, i_bv, i_bv]
  apply BitVec.eq_of_toNat_eq
  simp [BitVec.toNat_and, BitVec.toNat_ofNat, Nat.and_mod_two_pow]
theorem i_or (a b : Nat) : nI a ||| nI b = nI (a ||| b) := by
  apply i_ext
  rw [Int32.toBitVec_or, i_bv, i_bv, i_bv]
  apply BitVec.eq_of_toNat_eq
  simp [BitVec.toNat_or, BitVec.toNat_ofNat, Nat.or_mod_two_pow]
theorem i_xor (a b : Nat) : nI a ^^^ nI b = nI (a ^^^ b) := by
  apply i_ext
  rw [Int32.toBitVec_xor, i_bv, i_bv, i_bv]
  apply BitVec.eq_of_toNat_eq
  simp [BitVec.toNat_xor, BitVec.toNat_ofNat, Nat.xor_mod_two_pow]
theorem i_sa : ∀ n, n < 32 → ((nI n &&& 31).toBitVec.smod 32).toNat = n := by decide +kernel
theorem i_shl {a n : Nat} (hn : n < 32) (h : a * 2 ^ n < 4294967296) : nI a <<< (nI n &&& 31) = nI (a * 2 ^ n) := pk_shlN _ n (i_sa n hn) h
theorem i_1shl {n : Nat} (hn : n < 32) : (1 : Int32) <<< (nI n &&& 31) = nI (2 ^ n) := by
  have h : 2 ^ n < 4294967296 := by
    have := Nat.pow_lt_pow_right (a := 2) (by decide) hn
    omega
  have := i_shl (a := 1) hn (by omega)
  rw [Nat.one_mul] at this
  exact this
theorem i_shr {a n : Nat} (ha : a < 2147483648) (hn : n < 32) : nI a >>> (nI n &&& 31) = nI (a >>> n) := by
  rw [Nat.shiftRight_eq_div_pow]
  exact pk_shrN ha _ n (i_sa n hn)
theorem n_bit (a n : Nat) : (a >>> n &&& 1 = 1) = (a.testBit n = true) := by
  rw [Nat.testBit]
  simp [Nat.and_comm]
theorem n_and1 (a n : Nat) : a >>> n &&& 1 = (a.testBit n).toNat := by
  rw [Nat.testBit_eq_decide_div_mod_eq, Nat.and_one_is_mod, Nat.shiftRight_eq_div_pow]
  rcases Nat.mod_two_eq_zero_or_one (a / 2 ^ n) with h | h <;> simp [h]
theorem i_dec {x : Int32} (h : ¬ x < 0) : ∃ n, n < 2147483648 ∧ x = nI n := nI_of h
theorem i_bit {a n : Nat} (ha : a < 2147483648) (hn : n < 32) : (nI a >>> (nI n &&& 31)) &&& 1 = bi (a.testBit n) := by
  rw [i_shr ha hn, show (1 : Int32) = nI 1 from rfl, i_and, n_and1]
  cases a.testBit n <;> rfl
/-! loops -/
theorem up_loop {L : Int32 → Prop} {I : Nat → Prop} (n : Nat) (step : ∀ i, i < n → I i → (I (i + 1) → L (nI (i + 1))) → L (nI i)) (exit : I n → L (nI n)) : ∀ i, i ≤ n → I i → L (nI i) := by
  intro i hi
  obtain ⟨d, hd⟩ : ∃ d, n = i + d := ⟨n - i, by omega⟩
  induction d generalizing i with
  | zero => intro h; rw [Nat.add_zero] at hd; subst hd; exact exit h
  | succ d ih => intro h; exact step i (by omega) h (fun h2 => ih (i + 1) (by omega) (by omega) h2)
theorem up_loopS {α : Sort _} {L : Int32 → α → Prop} {I : Nat → α → Prop} (n : Nat) (step : ∀ i τ, i < n → I i τ → (∀ τ', I (i + 1) τ' → L (nI (i + 1)) τ') → L (nI i) τ) (exit : ∀ τ, I n τ → L (nI n) τ) : ∀ i τ, i ≤ n → I i τ → L (nI i) τ := by
  intro i τ hi
  obtain ⟨d, hd⟩ : ∃ d, n = i + d := ⟨n - i, by omega⟩
  induction d generalizing i τ with
  | zero => intro h; rw [Nat.add_zero] at hd; subst hd; exact exit τ h
  | succ d ih => intro h; exact step i τ (by omega) h (fun τ' h2 => ih (i + 1) τ' (by omega) (by omega) h2)
def anyN : Nat → (Nat → Bool) → Bool
  | 0, _ => false
  | n + 1, f => anyN n f || f n
def allN : Nat → (Nat → Bool) → Bool
  | 0, _ => true
  | n + 1, f => allN n f && f n
theorem anyN_iff {n : Nat} {f : Nat → Bool} : anyN n f = true ↔ ∃ i, i < n ∧ f i = true := by
  induction n with
  | zero => simp [anyN]
  | succ n ih =>
    simp only [anyN, Bool.or_eq_true, ih]
    constructor
    · rintro (⟨i, h1, h2⟩ | h)
      · exact ⟨i, by omega, h2⟩
      · exact ⟨n, by omega, h⟩
    · rintro ⟨i, h1, h2⟩
      by_cases e : i = n
      · subst e; exact Or.inr h2
      · exact Or.inl ⟨i, by omega, h2⟩
theorem allN_iff {n : Nat} {f : Nat → Bool} : allN n f = true ↔ ∀ i, i < n → f i = true := by
  induction n with
  | zero => simp [allN]
  | succ n ih =>
    simp only [allN, Bool.and_eq_true, ih]
    constructor
    · rintro ⟨h1, h2⟩ i hi
      by_cases e : i = n
      · subst e; exact h2
      · exact h1 i (by omega)
    · intro h
      exact ⟨fun i hi => h i (by omega), h n (by omega)⟩
theorem anyN_f {n : Nat} {f : Nat → Bool} : anyN n f = false ↔ ∀ i, i < n → f i = false := by
  rw [← Bool.not_eq_true, anyN_iff]
  constructor
  · intro h i hi
    cases hf : f i
    · rfl
    · exact absurd ⟨i, hi, hf⟩ h
  · rintro h ⟨i, hi, hf⟩
    rw [h i hi] at hf
    cases hf
theorem allN_f {n : Nat} {f : Nat → Bool} : allN n f = false ↔ ∃ i, i < n ∧ f i = false := by
  rw [← Bool.not_eq_true, allN_iff]
  constructor
  · intro h
    refine Classical.byContradiction fun q => h (fun i hi => ?_)
    cases hf : f i
    · exact absurd ⟨i, hi, hf⟩ q
    · rfl
  · rintro ⟨i, hi, hf⟩ h
    rw [h i hi] at hf
    cases hf
theorem anyN_congr {n : Nat} {f g : Nat → Bool} (h : ∀ i, i < n → f i = g i) : anyN n f = anyN n g := by
  induction n with
  | zero => rfl
  | succ n ih => simp only [anyN]; rw [ih (fun i hi => h i (by omega)), h n (by omega)]
theorem allN_congr {n : Nat} {f g : Nat → Bool} (h : ∀ i, i < n → f i = g i) : allN n f = allN n g := by
  induction n with
  | zero => rfl
  | succ n ih => simp only [allN]; rw [ih (fun i hi => h i (by omega)), h n (by omega)]
/-- the least below n that is so, one more; 0: none -/
def lst (n : Nat) (f : Nat → Bool) : Nat := match n with
  | 0 => 0
  | n + 1 => if lst n f = 0 then (if f n then n + 1 else 0) else lst n f
theorem lst_none {n : Nat} {f : Nat → Bool} (h : ∀ i, i < n → f i = false) : lst n f = 0 := by
  induction n with
  | zero => rfl
  | succ n ih => simp [lst, ih (fun i hi => h i (by omega)), h n (by omega)]
theorem lst_some {n i : Nat} {f : Nat → Bool} (hi : i < n) (h : f i = true) (hl : ∀ j, j < i → f j = false) : lst n f = i + 1 := by
  induction n with
  | zero => omega
  | succ n ih =>
    by_cases e : i = n
    · subst e
      simp [lst, lst_none hl, h]
    · have := ih (by omega)
      simp [lst, this]
theorem lst_cases (n : Nat) (f : Nat → Bool) : (lst n f = 0 ∧ ∀ i, i < n → f i = false) ∨ ∃ i, i < n ∧ lst n f = i + 1 ∧ f i = true ∧ ∀ j, j < i → f j = false := by
  induction n with
  | zero => exact Or.inl ⟨rfl, fun i hi => absurd hi (by omega)⟩
  | succ n ih =>
    rcases ih with ⟨h1, h2⟩ | ⟨i, h1, h2, h3, h4⟩
    · cases hf : f n
      · refine Or.inl ⟨lst_none (fun i hi => ?_), fun i hi => ?_⟩ <;>
        · by_cases e : i = n
          · subst e; exact hf
          · exact h2 i (by omega)
      · exact Or.inr ⟨n, by omega, lst_some (by omega) hf h2, hf, h2⟩
    · exact Or.inr ⟨i, by omega, lst_some (by omega) h3 h4, h3, h4⟩
theorem lst_congr {n : Nat} {f g : Nat → Bool} (h : ∀ i, i < n → f i = g i) : lst n f = lst n g := by
  induction n with
  | zero => rfl
  | succ n ih => simp only [lst]; rw [ih (fun i hi => h i (by omega)), h n (by omega)]
/-- a number by its bits -/
def bitsN : Nat → (Nat → Bool) → Nat
  | 0, _ => 0
  | n + 1, f => bitsN n f + (if f n then 2 ^ n else 0)
theorem bitsN_lt (n : Nat) (f : Nat → Bool) : bitsN n f < 2 ^ n := by
  induction n with
  | zero => simp [bitsN]
  | succ n ih => simp only [bitsN]; rw [Nat.pow_succ]; split <;> omega
theorem bitsN_bit (n : Nat) (f : Nat → Bool) (i : Nat) : (bitsN n f).testBit i = (decide (i < n) && f i) := by
  induction n with
  | zero => simp [bitsN]
  | succ n ih =>
    have hl := bitsN_lt n f
    simp only [bitsN]
    by_cases hf : f n = true
    · rw [if_pos hf, Nat.add_comm]
      by_cases e : i = n
      · subst e
        rw [Nat.testBit_two_pow_add_eq, Nat.testBit_lt_two_pow hl]
        simp [hf]
      · by_cases e2 : i < n
        · rw [Nat.testBit_two_pow_add_gt (by omega), ih]
          simp [e2, Nat.lt_succ_of_lt e2]
        · have h1 : 2 ^ n + bitsN n f < 2 ^ i := by
            have : 2 ^ (n + 1) ≤ 2 ^ i := Nat.pow_le_pow_right (by decide) (by omega)
            rw [Nat.pow_succ] at this
            omega
          rw [Nat.testBit_lt_two_pow h1]
          simp
          omega
    · rw [if_neg hf, Nat.add_zero, ih]
      by_cases e : i = n
      · subst e; simp [hf]
      · have : (i < n + 1) = (i < n) := by simp; omega
        simp [this]
theorem nat_bits {a b : Nat} (h : ∀ i, a.testBit i = b.testBit i) : a = b := Nat.eq_of_testBit_eq h
