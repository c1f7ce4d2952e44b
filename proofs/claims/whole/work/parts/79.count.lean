/-! how many bits a long holds -/
def SD (w : Nat) : Nat → (Nat → Nat) → Nat
  | 0, _ => 0
  | n + 1, f => f 0 + 2 ^ w * SD w n (fun k => f (k + 1))
theorem SD_congr {w n : Nat} {f g : Nat → Nat} (h : ∀ k, k < n → f k = g k) : SD w n f = SD w n g := by
  induction n generalizing f g with
  | zero => rfl
  | succ n ih => simp only [SD]; rw [h 0 (by omega), ih (fun k hk => h (k + 1) (by omega))]
theorem SD_lt {w n : Nat} {f : Nat → Nat} (h : ∀ k, k < n → f k < 2 ^ w) : SD w n f < 2 ^ (w * n) := by
  induction n generalizing f with
  | zero => simp [SD]
  | succ n ih =>
    have h1 := ih (fun k hk => h (k + 1) (by omega))
    have h0 := h 0 (by omega)
    simp only [SD]
    rw [Nat.mul_succ, Nat.pow_add, Nat.mul_comm (2 ^ (w * n))]
    have : 2 ^ w * (SD w n (fun k => f (k + 1)) + 1) ≤ 2 ^ w * 2 ^ (w * n) := Nat.mul_le_mul_left _ h1
    rw [Nat.mul_succ] at this
    omega
theorem SD_add (w n : Nat) (f g : Nat → Nat) : SD w n f + SD w n g = SD w n (fun k => f k + g k) := by
  induction n generalizing f g with
  | zero => rfl
  | succ n ih => simp only [SD]; rw [← ih (fun k => f (k + 1)) (fun k => g (k + 1)), Nat.mul_add]; omega
theorem low_split {w a b c d : Nat} (ha : a < 2 ^ w) (hc : c < 2 ^ w) : (a + 2 ^ w * b) &&& (c + 2 ^ w * d) = (a &&& c) + 2 ^ w * (b &&& d) := by
  have hac : a &&& c < 2 ^ w := Nat.lt_of_le_of_lt Nat.and_le_left ha
  apply nat_bits
  intro i
  rw [Nat.testBit_and, Nat.add_comm a, Nat.add_comm c, Nat.add_comm (a &&& c), Nat.testBit_two_pow_mul_add _ ha, Nat.testBit_two_pow_mul_add _ hc, Nat.testBit_two_pow_mul_add _ hac]
  split
  · rw [Nat.testBit_and]
  · rw [Nat.testBit_and]
theorem SD_and (w n : Nat) {f g : Nat → Nat} (hf : ∀ k, k < n → f k < 2 ^ w) (hg : ∀ k, k < n → g k < 2 ^ w) : SD w n f &&& SD w n g = SD w n (fun k => f k &&& g k) := by
  induction n generalizing f g with
  | zero => exact Nat.zero_and _
  | succ n ih => simp only [SD]; rw [low_split (hf 0 (by omega)) (hg 0 (by omega)), ih (fun k hk => hf (k + 1) (by omega)) (fun k hk => hg (k + 1) (by omega))]
theorem SD_pair (w n : Nat) (f : Nat → Nat) : SD w (2 * n) f = SD (2 * w) n (fun k => f (2 * k) + 2 ^ w * f (2 * k + 1)) := by
  induction n generalizing f with
  | zero => rfl
  | succ n ih =>
    show SD w (2 * n + 1 + 1) f = _
    simp only [SD]
    rw [ih, show 2 * w = w + w by omega, Nat.pow_add]
    have : SD (w + w) n (fun k => f (2 * k + 1 + 1) + 2 ^ w * f (2 * k + 1 + 1 + 1)) = SD (w + w) n (fun k => f (2 * (k + 1)) + 2 ^ w * f (2 * (k + 1) + 1)) := SD_congr (fun k _ => by rw [show 2 * (k + 1) = 2 * k + 1 + 1 by omega])
    rw [show 2 * w = w + w by omega] at *
    rw [this]
    simp only [Nat.mul_add, Nat.mul_zero, Nat.zero_add, Nat.mul_assoc, Nat.add_assoc]
theorem SD_shr (w n : Nat) {f : Nat → Nat} (h0 : f 0 < 2 ^ w) : SD w (n + 1) f >>> w = SD w n (fun k => f (k + 1)) := by
  simp only [SD]
  rw [Nat.shiftRight_eq_div_pow, Nat.add_mul_div_left _ _ (Nat.two_pow_pos w), Nat.div_eq_of_lt h0, Nat.zero_add]
theorem SD_last (w n : Nat) (f : Nat → Nat) (h : f n = 0) : SD w (n + 1) f = SD w n f := by
  induction n generalizing f with
  | zero => simp [SD, h]
  | succ n ih =>
    show f 0 + 2 ^ w * SD w (n + 1) (fun k => f (k + 1)) = f 0 + 2 ^ w * SD w n (fun k => f (k + 1))
    rw [ih (fun k => f (k + 1)) h]
theorem SD_ev (w n : Nat) {f : Nat → Nat} (hf : ∀ k, k < 2 * n → f k < 2 ^ w) : SD w (2 * n) f &&& SD w (2 * n) (fun k => if k % 2 = 0 then 2 ^ w - 1 else 0) = SD (2 * w) n (fun k => f (2 * k)) := by
  have hp := Nat.two_pow_pos w
  rw [SD_and w (2 * n) hf (fun k _ => by split <;> omega), SD_pair]
  refine SD_congr (fun k hk => ?_)
  rw [if_pos (by omega), if_neg (by omega), Nat.and_zero, Nat.mul_zero, Nat.add_zero, Nat.and_two_pow_sub_one_of_lt_two_pow (hf _ (by omega))]
theorem SD_bits (N : Nat) : ∀ n, n < 2 ^ N → n = SD 1 N (fun k => (n.testBit k).toNat) := by
  induction N with
  | zero => intro n hn; simp [SD]; omega
  | succ N ih =>
    intro n hn
    have h := ih (n / 2) (by rw [Nat.pow_succ] at hn; omega)
    simp only [SD]
    have e : SD 1 N (fun k => (n.testBit (k + 1)).toNat) = SD 1 N (fun k => ((n / 2).testBit k).toNat) := SD_congr (fun k _ => by rw [Nat.testBit_succ])
    rw [e, ← h, Nat.testBit_zero]
    have : (decide (n % 2 = 1)).toNat = n % 2 := by
      rcases Nat.mod_two_eq_zero_or_one n with z | z <;> simp [z]
    rw [this]
    omega
def tn (x : Int64) : Nat := x.toBitVec.toNat
theorem tn_lt (x : Int64) : tn x < 18446744073709551616 := x.toBitVec.isLt
theorem tn_and (x y : Int64) : tn (x &&& y) = tn x &&& tn y := by unfold tn; rw [Int64.toBitVec_and, BitVec.toNat_and]
theorem tn_add {x y : Int64} (h : tn x + tn y < 18446744073709551616) : tn (x + y) = tn x + tn y := by
  unfold tn at *
  rw [Int64.toBitVec_add, BitVec.toNat_add]
  exact Nat.mod_eq_of_lt h
theorem tn_sub {x y : Int64} (h : tn y ≤ tn x) : tn (x - y) = tn x - tn y := by
  have hx := tn_lt x
  unfold tn at *
  rw [Int64.toBitVec_sub, BitVec.toNat_sub]
  omega
def lsr (x : Int64) (j : Int32) : Int64 := (x.toUInt64 >>> (j.toInt64.toUInt64 &&& Int64.toUInt64 63)).toInt64
theorem tn_lsr (x : Int64) {j : Nat} (hj : j < 64) : tn (lsr x (nI j)) = tn x >>> j := by
  unfold tn lsr
  rw [UInt64.toBitVec_toInt64, UInt64.toBitVec_shiftRight, BitVec.ushiftRight_eq', ub64 j hj, BitVec.toNat_ushiftRight, Int64.toBitVec_toUInt64]
def bc1 (x : Int64) : Int64 := x - (lsr x 1 &&& 6148914691236517205)
def bc2 (x : Int64) : Int64 := (x &&& 3689348814741910323) + (lsr x 2 &&& 3689348814741910323)
def bc3 (x : Int64) : Int64 := (x + lsr x 4) &&& 1085102592571150095
def bc4 (x : Int64) (j : Int32) : Int64 := x + lsr x j
theorem bc_is (v : Int64) (σ : Sg) (Q : Int32 → Prop) : wp_J13_bitCount_95d88 v σ Q = Q ((bc4 (bc4 (bc4 (bc3 (bc2 (bc1 v))) 8) 16) 32).toInt32 &&& 127) := rfl
theorem c_55 : tn 6148914691236517205 = SD 1 (2 * 32) (fun k => if k % 2 = 0 then 2 ^ 1 - 1 else 0) := by decide +kernel
theorem c_33 : tn 3689348814741910323 = SD 2 (2 * 16) (fun k => if k % 2 = 0 then 2 ^ 2 - 1 else 0) := by decide +kernel
theorem c_0f : tn 1085102592571150095 = SD 4 (2 * 8) (fun k => if k % 2 = 0 then 2 ^ 4 - 1 else 0) := by decide +kernel
def db (v : Int64) (k : Nat) : Nat := (lb v k).toNat
theorem db_le (v : Int64) (k : Nat) : db v k ≤ 1 := by unfold db; cases lb v k <;> decide
theorem db_0 (v : Int64) {k : Nat} (h : 64 ≤ k) : db v k = 0 := by
  unfold db lb
  rw [BitVec.getLsbD_of_ge _ _ h]
  rfl
def prs (f : Nat → Nat) (k : Nat) : Nat := f (2 * k) + f (2 * k + 1)
theorem prs_le {f : Nat → Nat} {b : Nat} (h : ∀ k, f k ≤ b) (k : Nat) : prs f k ≤ 2 * b := by
  have := h (2 * k)
  have := h (2 * k + 1)
  unfold prs
  omega
theorem prs_0 {f : Nat → Nat} {n : Nat} (h : ∀ k, 2 * n ≤ k → f k = 0) (k : Nat) (hk : n ≤ k) : prs f k = 0 := by
  unfold prs
  rw [h _ (by omega), h _ (by omega)]
theorem SD_sh (w n : Nat) {f : Nat → Nat} (h0 : f 0 < 2 ^ w) (hl : f (n + 1) = 0) : SD w (n + 1) f >>> w = SD w (n + 1) (fun k => f (k + 1)) := by
  rw [SD_shr w n h0, SD_last w n (fun k => f (k + 1)) hl]
theorem bc1_v (v : Int64) : tn (bc1 v) = SD 2 32 (prs (db v)) := by
  have hv : tn v = SD 1 64 (db v) := SD_bits 64 _ (tn_lt v)
  have h2 : SD 1 64 (db v) = SD 2 32 (fun k => db v (2 * k) + 2 ^ 1 * db v (2 * k + 1)) := SD_pair 1 32 _
  have hs : tn (lsr v 1 &&& 6148914691236517205) = SD 2 32 (fun k => db v (2 * k + 1)) := by
    rw [tn_and, show (1 : Int32) = nI 1 from rfl, tn_lsr v (by decide), hv, SD_sh 1 63 (by have := db_le v 0; omega) (db_0 v (by decide)), c_55]
    exact SD_ev 1 32 (fun k _ => by have := db_le v (k + 1); omega)
  have ha := SD_add 2 32 (prs (db v)) (fun k => db v (2 * k + 1))
  have hc : SD 2 32 (fun k => prs (db v) k + db v (2 * k + 1)) = SD 2 32 (fun k => db v (2 * k) + 2 ^ 1 * db v (2 * k + 1)) := SD_congr (fun k _ => by unfold prs; omega)
  unfold bc1
  rw [tn_sub (by rw [hs, hv, h2, ← hc, ← ha]; omega), hs, hv, h2, ← hc, ← ha]
  omega
theorem bc2_v {x : Int64} {f : Nat → Nat} (hx : tn x = SD 2 32 f) (hf : ∀ k, f k ≤ 2) (h0 : ∀ k, 32 ≤ k → f k = 0) : tn (bc2 x) = SD 4 16 (prs f) := by
  have a : tn (x &&& 3689348814741910323) = SD 4 16 (fun k => f (2 * k)) := by
    rw [tn_and, hx, c_33]
    exact SD_ev 2 16 (fun k _ => by have := hf k; omega)
  have b : tn (lsr x 2 &&& 3689348814741910323) = SD 4 16 (fun k => f (2 * k + 1)) := by
    rw [tn_and, show (2 : Int32) = nI 2 from rfl, tn_lsr x (by decide), hx, SD_sh 2 31 (by have := hf 0; omega) (h0 _ (by decide)), c_33]
    exact SD_ev 2 16 (fun k _ => by have := hf (k + 1); omega)
  have c := SD_add 4 16 (fun k => f (2 * k)) (fun k => f (2 * k + 1))
  have d : SD 4 16 (prs f) < 2 ^ (4 * 16) := SD_lt (fun k _ => by have := prs_le hf k; omega)
  have e : SD 4 16 (fun k => f (2 * k) + f (2 * k + 1)) = SD 4 16 (prs f) := rfl
  unfold bc2
  rw [tn_add (by rw [a, b, c, e]; exact d), a, b, c, e]
theorem bc3_v {x : Int64} {f : Nat → Nat} (hx : tn x = SD 4 16 f) (hf : ∀ k, f k ≤ 4) (h0 : ∀ k, 16 ≤ k → f k = 0) : tn (bc3 x) = SD 8 8 (prs f) := by
  have b : tn (lsr x 4) = SD 4 16 (fun k => f (k + 1)) := by
    rw [show (4 : Int32) = nI 4 from rfl, tn_lsr x (by decide), hx, SD_sh 4 15 (by have := hf 0; omega) (h0 _ (by decide))]
  have c := SD_add 4 16 f (fun k => f (k + 1))
  have d : SD 4 16 (fun k => f k + f (k + 1)) < 2 ^ (4 * 16) := SD_lt (fun k _ => by have := hf k; have := hf (k + 1); omega)
  unfold bc3
  rw [tn_and, tn_add (by rw [hx, b, c]; exact d), hx, b, c, c_0f]
  exact SD_ev 4 8 (fun k _ => by have := hf k; have := hf (k + 1); omega)
theorem SD_shn (n : Nat) {f : Nat → Nat} (hf : ∀ k, f k < 2 ^ 8) (h0 : ∀ k, 8 ≤ k → f k = 0) : SD 8 8 f >>> (8 * n) = SD 8 8 (fun k => f (k + n)) := by
  induction n with
  | zero => rfl
  | succ n ih =>
    rw [Nat.mul_succ, Nat.shiftRight_add, ih, SD_sh 8 7 (f := fun k => f (k + n)) (hf _) (h0 _ (by omega))]
    exact SD_congr (fun k _ => by rw [show k + 1 + n = k + (n + 1) by omega])
theorem bc4_v {x : Int64} {f : Nat → Nat} {n b : Nat} (hx : tn x = SD 8 8 f) (hf : ∀ k, f k ≤ b) (hb : b < 128) (h0 : ∀ k, 8 ≤ k → f k = 0) (hn : 8 * n < 64) : tn (bc4 x (nI (8 * n))) = SD 8 8 (fun k => f k + f (k + n)) := by
  have e : tn (lsr x (nI (8 * n))) = SD 8 8 (fun k => f (k + n)) := by
    rw [tn_lsr x hn, hx, SD_shn n (fun k => by have := hf k; omega) h0]
  have c := SD_add 8 8 f (fun k => f (k + n))
  have d : SD 8 8 (fun k => f k + f (k + n)) < 2 ^ (8 * 8) := SD_lt (fun k _ => by have := hf k; have := hf (k + n); omega)
  unfold bc4
  rw [tn_add (by rw [hx, e, c]; exact d), hx, e, c]
theorem bc_end {x : Int64} {f : Nat → Nat} (hx : tn x = SD 8 8 f) (h0 : f 0 < 128) : x.toInt32 &&& 127 = nI (f 0) := by
  apply i_ext
  rw [Int32.toBitVec_and, i_bv]
  apply BitVec.eq_of_toNat_eq
  rw [BitVec.toNat_and, BitVec.toNat_ofNat]
  have h1 : x.toInt32.toBitVec.toNat = tn x % 2 ^ 32 := by
    unfold tn
    rw [Int64.toBitVec_toInt32, BitVec.signExtend_eq_setWidth_of_le _ (by decide), BitVec.toNat_setWidth]
  rw [h1, hx, show (127 : Int32).toBitVec.toNat = 2 ^ 7 - 1 from rfl, Nat.and_two_pow_sub_one_eq_mod]
  simp only [SD]
  omega
def sm : Nat → (Nat → Nat) → Nat
  | 0, _ => 0
  | n + 1, f => sm n f + f n
theorem sm_prs (f : Nat → Nat) : ∀ n, sm (2 * n) f = sm n (prs f)
  | 0 => rfl
  | n + 1 => by
    show sm (2 * n) f + f (2 * n) + f (2 * n + 1) = sm n (prs f) + (f (2 * n) + f (2 * n + 1))
    rw [sm_prs f n, Nat.add_assoc]
theorem cnt_sm (v : Int64) : ∀ n, cntB n (lb v) = sm n (db v)
  | 0 => rfl
  | n + 1 => by
    show cntB n (lb v) + _ = sm n (db v) + (lb v n).toNat
    rw [cnt_sm v n]
    cases lb v n <;> rfl
theorem db_c (v : Int64) : cntB 64 (lb v) = prs (prs (prs (db v))) 0 + prs (prs (prs (db v))) 1 + prs (prs (prs (db v))) 2 + prs (prs (prs (db v))) 3 + prs (prs (prs (db v))) 4 + prs (prs (prs (db v))) 5 + prs (prs (prs (db v))) 6 + prs (prs (prs (db v))) 7 := by
  rw [cnt_sm, show 64 = 2 * 32 from rfl, sm_prs, show 32 = 2 * 16 from rfl, sm_prs, show 16 = 2 * 8 from rfl, sm_prs]
  simp only [sm, Nat.zero_add]
theorem key8 (a b c d e f g h : Nat) : a + b + (c + d) + (e + f + (g + h)) = a + b + c + d + e + f + g + h := by omega
theorem ss_bitCount {v : Int64} {σ : Sg} {Q : Int32 → Prop} (hq : Q (nI (cntB 64 (lb v)))) : wp_J13_bitCount_95d88 v σ Q := by
  rw [bc_is]
  have a1 := db_le v
  have a2 := prs_le a1
  have a3 := prs_le a2
  have a4 := prs_le a3
  have z1 : ∀ k, 64 ≤ k → db v k = 0 := fun k => db_0 v
  have z2 := prs_0 (n := 32) z1
  have z3 := prs_0 (n := 16) z2
  have z4 := prs_0 (n := 8) z3
  have s3 := bc3_v (bc2_v (bc1_v v) a2 z2) a3 z3
  have s4 := bc4_v (n := 1) s3 a4 (by decide) z4 (by decide)
  have s5 := bc4_v (n := 2) (b := 16) s4 (fun k => by have := a4 k; have := a4 (k + 1); omega) (by decide) (fun k hk => by rw [z4 _ hk, z4 _ (by omega)]) (by decide)
  have s6 := bc4_v (n := 4) (b := 32) s5 (fun k => by have := a4 k; have := a4 (k + 1); have := a4 (k + 2); have := a4 (k + 2 + 1); omega) (by decide) (fun k hk => by rw [z4 _ hk, z4 _ (by omega), z4 _ (by omega), z4 _ (by omega)]) (by decide)
  have s7 := bc_end s6 (by have := a4 0; have := a4 (0 + 1); have := a4 (0 + 2); have := a4 (0 + 2 + 1); have := a4 (0 + 4); have := a4 (0 + 4 + 1); have := a4 (0 + 4 + 2); have := a4 (0 + 4 + 2 + 1); show _ < 128; omega)
  have e : prs (prs (prs (db v))) 0 + prs (prs (prs (db v))) (0 + 1) + (prs (prs (prs (db v))) (0 + 2) + prs (prs (prs (db v))) (0 + 2 + 1)) + (prs (prs (prs (db v))) (0 + 4) + prs (prs (prs (db v))) (0 + 4 + 1) + (prs (prs (prs (db v))) (0 + 4 + 2) + prs (prs (prs (db v))) (0 + 4 + 2 + 1))) = cntB 64 (lb v) := (key8 _ _ _ _ _ _ _ _).trans (db_c v).symm
  rw [e] at s7
  exact s7 ▸ hq
