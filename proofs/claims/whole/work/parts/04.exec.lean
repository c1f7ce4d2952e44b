/-! THE EXECUTOR: what a method does, as a proposition, instruction by instruction -/
abbrev VL : Type := List (Nat × Value)
abbrev WP : Type := List Value → Sg → (Option Value → Sg → Prop) → Prop
def lk : VL → Nat → Option Value
  | [], _ => none
  | (i, v) :: r, k => bif Nat.beq i k then some v else lk r k
def cat1 (v : Value) : Bool := match v with
  | .long _ => false
  | .double _ => false
  | _ => true
/-- out goes what a store to place i destroys -/
def dl : VL → Nat → VL
  | [], _ => []
  | (j, v) :: r, i => bif Nat.beq j i || (Nat.beq (j + 1) i && !cat1 v) then dl r i else (j, v) :: dl r i
def dl2 : VL → Nat → VL
  | [], _ => []
  | (j, v) :: r, i => bif Nat.beq j i || (Nat.beq j (i + 1) || (Nat.beq (j + 1) i && !cat1 v)) then dl2 r i else (j, v) :: dl2 r i
def pickL (lv : VL) : List Nat → Option (List Value)
  | [] => some []
  | i :: r => match lk lv i, pickL lv r with
    | some v, some vs => some (v :: vs)
    | _, _ => none
def zipL : List Nat → List Value → VL
  | i :: r, v :: vs => (i, v) :: zipL r vs
  | _, _ => []
def arg0 : Nat → List Value → VL
  | _, [] => []
  | i, v :: r => (i, v) :: arg0 (bif cat1 v then i + 1 else i + 2) r
def catS : List Value → Nat
  | [] => 0
  | v :: r => (bif cat1 v then 1 else 2) + catS r
/-- the top n of the stack, the lowest first -/
def popA : Nat → List Value → List Value → Option (List Value × List Value)
  | 0, acc, st => some (acc, st)
  | n + 1, acc, v :: st => popA n (v :: acc) st
  | _ + 1, _, [] => none
/-- the code by its places, jumps by their targets -/
abbrev Tab : Type := Nat → Option (Instr × Nat)
def lnI (i : Instr) : Nat := match i with
  | .bipush _ => 2
  | .sipush _ => 3
  | .ldc _ => 2
  | .ldc2_w _ => 3
  | .iload _ => 2
  | .lload _ => 2
  | .aload _ => 2
  | .istore _ => 2
  | .lstore _ => 2
  | .astore _ => 2
  | .iinc _ _ => 3
  | .getfield _ => 3
  | .putfield _ => 3
  | .getstatic _ => 3
  | .invokevirtual _ => 3
  | .invokestatic _ => 3
  | _ => 1
def stI (nL : Nat) (i : Instr) : Bool := match i with
  | .istore k => Nat.blt k nL
  | .istore_n k => Nat.blt k nL
  | .astore k => Nat.blt k nL
  | .astore_n k => Nat.blt k nL
  | .lstore k => Nat.blt (k + 1) nL
  | .lstore_n k => Nat.blt (k + 1) nL
  | .iinc k _ => Nat.blt k nL
  | _ => true
def okI (cc : ByteArray) (nL pc : Nat) (i : Instr) (n : Nat) : Bool := match i with
  | .goto t => decide (0 ≤ t) && decide (decode cc pc = .ok (.goto (t - pc), 3)) && Nat.beq n 3
  | .ifCond k t => decide (0 ≤ t) && decide (decode cc pc = .ok (.ifCond k (t - pc), 3)) && Nat.beq n 3
  | .if_icmp k t => decide (0 ≤ t) && decide (decode cc pc = .ok (.if_icmp k (t - pc), 3)) && Nat.beq n 3
  | .lookupswitch d ps => decide (decode cc pc = .ok (.lookupswitch d ps, n))
  | .tableswitch d lo hi offs => decide (decode cc pc = .ok (.tableswitch d lo hi offs, n))
  | i => (decide (decode cc pc = .ok (i, n)) && Nat.beq n (lnI i)) && stI nL i
def tabOK (cc : ByteArray) (nL : Nat) (T : List (Nat × Instr × Nat)) : Bool := T.all (fun q => okI cc nL q.1 q.2.1 q.2.2)
def swL (K : Int → Prop) (d : Int) : List (Int × Int) → Int32 → Prop
  | [], _ => K d
  | (a, o) :: r, x => bif decide ((Int32.ofInt a).toInt = a) then (x = Int32.ofInt a → K o) ∧ (¬ x = Int32.ofInt a → swL K d r x) else False
def swT (K : Int → Prop) (d : Int) : List Int → Int → Int32 → Prop
  | [], _, _ => K d
  | o :: r, lo, x => bif decide ((Int32.ofInt lo).toInt = lo) then (x = Int32.ofInt lo → K o) ∧ (¬ x = Int32.ofInt lo → swT K d r (lo + 1) x) else False

def p1i (st : List Value) (f : Int32 → List Value → Prop) : Prop := match st with
  | .int x :: r => f x r
  | _ => False
theorem p1i_e {st : List Value} {f : Int32 → List Value → Prop} (h : p1i st f) : ∃ x r, st = .int x :: r ∧ f x r := by
  unfold p1i at h
  split at h
  · exact ⟨_, _, rfl, h⟩
  · exact h.elim
def p2i (st : List Value) (f : Int32 → Int32 → List Value → Prop) : Prop := match st with
  | .int y :: .int x :: r => f y x r
  | _ => False
theorem p2i_e {st : List Value} {f : Int32 → Int32 → List Value → Prop} (h : p2i st f) : ∃ y x r, st = .int y :: .int x :: r ∧ f y x r := by
  unfold p2i at h
  split at h
  · exact ⟨_, _, _, rfl, h⟩
  · exact h.elim
def p1l (st : List Value) (f : Int64 → List Value → Prop) : Prop := match st with
  | .long x :: r => f x r
  | _ => False
theorem p1l_e {st : List Value} {f : Int64 → List Value → Prop} (h : p1l st f) : ∃ x r, st = .long x :: r ∧ f x r := by
  unfold p1l at h
  split at h
  · exact ⟨_, _, rfl, h⟩
  · exact h.elim
def p2l (st : List Value) (f : Int64 → Int64 → List Value → Prop) : Prop := match st with
  | .long y :: .long x :: r => f y x r
  | _ => False
theorem p2l_e {st : List Value} {f : Int64 → Int64 → List Value → Prop} (h : p2l st f) : ∃ y x r, st = .long y :: .long x :: r ∧ f y x r := by
  unfold p2l at h
  split at h
  · exact ⟨_, _, _, rfl, h⟩
  · exact h.elim
def pil (st : List Value) (f : Int32 → Int64 → List Value → Prop) : Prop := match st with
  | .int y :: .long x :: r => f y x r
  | _ => False
theorem pil_e {st : List Value} {f : Int32 → Int64 → List Value → Prop} (h : pil st f) : ∃ y x r, st = .int y :: .long x :: r ∧ f y x r := by
  unfold pil at h
  split at h
  · exact ⟨_, _, _, rfl, h⟩
  · exact h.elim
def p1r (st : List Value) (f : Nat → List Value → Prop) : Prop := match st with
  | .ref a :: r => f a r
  | _ => False
theorem p1r_e {st : List Value} {f : Nat → List Value → Prop} (h : p1r st f) : ∃ a r, st = .ref a :: r ∧ f a r := by
  unfold p1r at h
  split at h
  · exact ⟨_, _, rfl, h⟩
  · exact h.elim
def pir (st : List Value) (f : Int32 → Nat → List Value → Prop) : Prop := match st with
  | .int j :: .ref a :: r => f j a r
  | _ => False
theorem pir_e {st : List Value} {f : Int32 → Nat → List Value → Prop} (h : pir st f) : ∃ j a r, st = .int j :: .ref a :: r ∧ f j a r := by
  unfold pir at h
  split at h
  · exact ⟨_, _, _, rfl, h⟩
  · exact h.elim
def piir (st : List Value) (f : Int32 → Int32 → Nat → List Value → Prop) : Prop := match st with
  | .int x :: .int j :: .ref a :: r => f x j a r
  | _ => False
theorem piir_e {st : List Value} {f : Int32 → Int32 → Nat → List Value → Prop} (h : piir st f) : ∃ x j a r, st = .int x :: .int j :: .ref a :: r ∧ f x j a r := by
  unfold piir at h
  split at h
  · exact ⟨_, _, _, _, rfl, h⟩
  · exact h.elim
def pac (st : List Value) (f : Int32 → Int32 → Nat → Int32 → Nat → List Value → Prop) : Prop := match st with
  | .int n :: .int dp :: .ref a1 :: .int sp :: .ref a0 :: r => f n dp a1 sp a0 r
  | _ => False
theorem pac_e {st : List Value} {f : Int32 → Int32 → Nat → Int32 → Nat → List Value → Prop} (h : pac st f) : ∃ n dp a1 sp a0 r, st = .int n :: .int dp :: .ref a1 :: .int sp :: .ref a0 :: r ∧ f n dp a1 sp a0 r := by
  unfold pac at h
  split at h
  · exact ⟨_, _, _, _, _, _, rfl, h⟩
  · exact h.elim
def plir (st : List Value) (f : Int64 → Int32 → Nat → List Value → Prop) : Prop := match st with
  | .long x :: .int j :: .ref a :: r => f x j a r
  | _ => False
theorem plir_e {st : List Value} {f : Int64 → Int32 → Nat → List Value → Prop} (h : plir st f) : ∃ x j a r, st = .long x :: .int j :: .ref a :: r ∧ f x j a r := by
  unfold plir at h
  split at h
  · exact ⟨_, _, _, _, rfl, h⟩
  · exact h.elim
def isA (w : Wd) (a : Nat) : Bool := Nat.ble 20 (wK w a) && (Nat.ble (wK w a) 24 && Nat.blt a (wS w))
/-- the two constant rows stand on the stack as .float 0 and .null -/
def pnl (st : List Value) (f : List Value → Prop) (g : Prop) : Prop := match st with
  | .null :: r => f r
  | _ => g
theorem pnl_e {st : List Value} {f : List Value → Prop} {g : Prop} (h : pnl st f g) : (∃ r, st = .null :: r ∧ f r) ∨ g := by
  unfold pnl at h
  split at h
  · exact Or.inl ⟨_, rfl, h⟩
  · exact Or.inr h
def pfn (st : List Value) (f : List Value → Prop) (g : Prop) : Prop := match st with
  | .float _ :: r => f r
  | _ => g
theorem pfn_e {st : List Value} {f : List Value → Prop} {g : Prop} (h : pfn st f g) : (∃ t r, st = .float t :: r ∧ f r) ∨ g := by
  unfold pfn at h
  split at h
  · exact Or.inl ⟨_, _, rfl, h⟩
  · exact Or.inr h
def pfl (st : List Value) (f : Int32 → List Value → Prop) (g : Prop) : Prop := match st with
  | .int j :: .float _ :: r => f j r
  | _ => g
theorem pfl_e {st : List Value} {f : Int32 → List Value → Prop} {g : Prop} (h : pfl st f g) : (∃ j t r, st = .int j :: .float t :: r ∧ f j r) ∨ g := by
  unfold pfl at h
  split at h
  · exact Or.inl ⟨_, _, _, rfl, h⟩
  · exact Or.inr h
def pnj (st : List Value) (f : Int32 → List Value → Prop) (g : Prop) : Prop := match st with
  | .int j :: .null :: r => f j r
  | _ => g
theorem pnj_e {st : List Value} {f : Int32 → List Value → Prop} {g : Prop} (h : pnj st f g) : (∃ j r, st = .int j :: .null :: r ∧ f j r) ∨ g := by
  unfold pnj at h
  split at h
  · exact Or.inl ⟨_, _, rfl, h⟩
  · exact Or.inr h
def lkp {α : Type} : List (Nat × α) → Nat → Option α
  | [], _ => none
  | (i, v) :: r, k => bif Nat.beq i k then some v else lkp r k
theorem lkp_mem {α : Type} : ∀ {L : List (Nat × α)} {k : Nat} {v : α}, lkp L k = some v → (k, v) ∈ L
  | [], _, _, h => by cases h
  | (i, u) :: r, k, v, h => by
    unfold lkp at h
    cases hb : Nat.beq i k <;> rw [hb] at h
    · exact List.mem_cons_of_mem _ (lkp_mem h)
    · rw [← Nat.eq_of_beq_eq_true hb, ← Option.some.inj h]
      exact List.mem_cons_self
def p1v (st : List Value) (f : Value → List Value → Prop) : Prop := match st with
  | v :: r => bif cat1 v then f v r else False
  | _ => False
theorem p1v_e {st : List Value} {f : Value → List Value → Prop} (h : p1v st f) : ∃ v r, st = v :: r ∧ cat1 v = true ∧ f v r := by
  unfold p1v at h
  split at h
  · cases hc : cat1 ‹Value› <;> rw [hc] at h
    · exact h.elim
    · exact ⟨_, _, rfl, hc, h⟩
  · exact h.elim
def lki (lv : VL) (k : Nat) (f : Int32 → Prop) : Prop := match lk lv k with
  | some (.int x) => f x
  | _ => False
theorem lki_e {lv : VL} {k : Nat} {f : Int32 → Prop} (h : lki lv k f) : ∃ x, lk lv k = some (.int x) ∧ f x := by
  unfold lki at h
  split at h
  · exact ⟨_, by assumption, h⟩
  · exact h.elim
def lkl (lv : VL) (k : Nat) (f : Int64 → Prop) : Prop := match lk lv k with
  | some (.long x) => f x
  | _ => False
theorem lkl_e {lv : VL} {k : Nat} {f : Int64 → Prop} (h : lkl lv k f) : ∃ x, lk lv k = some (.long x) ∧ f x := by
  unfold lkl at h
  split at h
  · exact ⟨_, by assumption, h⟩
  · exact h.elim
def lkr (lv : VL) (k : Nat) (f : Nat → Prop) : Prop := match lk lv k with
  | some (.ref x) => f x
  | _ => False
theorem lkr_e {lv : VL} {k : Nat} {f : Nat → Prop} (h : lkr lv k f) : ∃ x, lk lv k = some (.ref x) ∧ f x := by
  unfold lkr at h
  split at h
  · exact ⟨_, by assumption, h⟩
  · exact h.elim
def onS {α : Type} (x : Option α) (f : α → Prop) : Prop := match x with
  | some a => f a
  | none => False
theorem onS_e {α : Type} {x : Option α} {f : α → Prop} (h : onS x f) : ∃ a, x = some a ∧ f a := by
  cases x with
  | none => exact h.elim
  | some a => exact ⟨a, rfl, h⟩
def onB (b : Bool) (p : Prop) : Prop := bif b then p else False
theorem onB_e {b : Bool} {p : Prop} (h : onB b p) : b = true ∧ p := by
  cases b with
  | false => exact h.elim
  | true => exact ⟨rfl, h⟩

def ivS (oc : Option Nat) (p q mx mn : Prop) : Prop := match oc with
  | none => p
  | some c => bif Nat.beq c 99 then q else bif Nat.beq c 98 then mx else onB (Nat.beq c 97) mn
theorem ivS_e {oc : Option Nat} {p q mx mn : Prop} (h : ivS oc p q mx mn) : (oc = none ∧ p) ∨ (oc = some 99 ∧ q) ∨ (oc = some 98 ∧ mx) ∨ (oc = some 97 ∧ mn) := by
  cases oc with
  | none => exact Or.inl ⟨rfl, h⟩
  | some c =>
    replace h : (bif Nat.beq c 99 then q else bif Nat.beq c 98 then mx else onB (Nat.beq c 97) mn) := h
    cases h1 : Nat.beq c 99 <;> rw [h1] at h
    · cases h2 : Nat.beq c 98 <;> rw [h2] at h
      · obtain ⟨h3, h4⟩ := onB_e h
        exact Or.inr (Or.inr (Or.inr ⟨congrArg some (Nat.eq_of_beq_eq_true h3), h4⟩))
      · exact Or.inr (Or.inr (Or.inl ⟨congrArg some (Nat.eq_of_beq_eq_true h2), h⟩))
    · exact Or.inr (Or.inl ⟨congrArg some (Nat.eq_of_beq_eq_true h1), h⟩)
def putK (ty : FieldType) (v : Int32) (p : Prop) : Prop := match ty with
  | .int => p
  | .boolean => nz v ∧ p
  | _ => False
def retI (ret : Option FieldType) (x : Int32) (p : Prop) : Prop := match ret with
  | some .int => p
  | some .boolean => nz x ∧ p
  | _ => False
def isLong (ret : Option FieldType) : Bool := match ret with
  | some .long => true
  | _ => false
def isObj (ret : Option FieldType) : Bool := match ret with
  | some (.object _) => true
  | _ => false
/-- one instruction -/
def sxs (w : Wd) (ft : Nat → Option (Nat × Nat)) (c32 : Nat → Option Int32) (c64 : Nat → Option Int64) (ce : Nat → Option (Nat × Option Nat × WP)) (sf : Nat → Option Bool) (ret : Option FieldType) (Q : Option Value → Sg → Prop) (K : Nat → VL → List Value → Sg → Prop) (pc : Nat) (i : Instr) (n : Nat) (lv : VL) (st : List Value) (σ : Sg) : Prop := match i with
  | .iconst v => K (pc + n) lv (.int (Int32.ofInt v) :: st) σ
  | .bipush v => K (pc + n) lv (.int (Int8.ofInt v).toInt32 :: st) σ
  | .sipush v => K (pc + n) lv (.int (Int16.ofInt v).toInt32 :: st) σ
  | .lconst v => K (pc + n) lv (.long (Int64.ofNat v) :: st) σ
  | .ldc x => onS (c32 x) (fun v => K (pc + n) lv (.int v :: st) σ)
  | .ldc2_w x => onS (c64 x) (fun v => K (pc + n) lv (.long v :: st) σ)
  | .iload_n k => lki lv k (fun x => K (pc + n) lv (.int x :: st) σ)
  | .iload k => lki lv k (fun x => K (pc + n) lv (.int x :: st) σ)
  | .lload_n k => lkl lv k (fun x => K (pc + n) lv (.long x :: st) σ)
  | .lload k => lkl lv k (fun x => K (pc + n) lv (.long x :: st) σ)
  | .aload_n k => lkr lv k (fun x => K (pc + n) lv (.ref x :: st) σ)
  | .aload k => lkr lv k (fun x => K (pc + n) lv (.ref x :: st) σ)
  | .istore_n k => p1i st (fun x r => K (pc + n) ((k, .int x) :: dl lv k) r σ)
  | .istore k => p1i st (fun x r => K (pc + n) ((k, .int x) :: dl lv k) r σ)
  | .astore_n k => p1r st (fun x r => K (pc + n) ((k, .ref x) :: dl lv k) r σ)
  | .astore k => p1r st (fun x r => K (pc + n) ((k, .ref x) :: dl lv k) r σ)
  | .lstore_n k => p1l st (fun x r => K (pc + n) ((k, .long x) :: dl2 lv k) r σ)
  | .lstore k => p1l st (fun x r => K (pc + n) ((k, .long x) :: dl2 lv k) r σ)
  | .iinc k v => lki lv k (fun x => K (pc + n) ((k, .int (x + Int32.ofInt v)) :: dl lv k) st σ)
  | .iadd => p2i st (fun y x r => K (pc + n) lv (.int (x + y) :: r) σ)
  | .isub => p2i st (fun y x r => K (pc + n) lv (.int (x - y) :: r) σ)
  | .imul => p2i st (fun y x r => K (pc + n) lv (.int (x * y) :: r) σ)
  | .iand => p2i st (fun y x r => K (pc + n) lv (.int (x &&& y) :: r) σ)
  | .ior => p2i st (fun y x r => K (pc + n) lv (.int (x ||| y) :: r) σ)
  | .ixor => p2i st (fun y x r => K (pc + n) lv (.int (x ^^^ y) :: r) σ)
  | .ishl => p2i st (fun y x r => K (pc + n) lv (.int (x <<< (y &&& 31)) :: r) σ)
  | .ishr => p2i st (fun y x r => K (pc + n) lv (.int (x >>> (y &&& 31)) :: r) σ)
  | .idiv => p2i st (fun y x r => ¬ y = 0 ∧ K (pc + n) lv (.int (x / y) :: r) σ)
  | .irem => p2i st (fun y x r => ¬ y = 0 ∧ K (pc + n) lv (.int (x - x / y * y) :: r) σ)
  | .ineg => p1i st (fun x r => K (pc + n) lv (.int (-x) :: r) σ)
  | .i2l => p1i st (fun x r => K (pc + n) lv (.long x.toInt64 :: r) σ)
  | .l2i => p1l st (fun x r => K (pc + n) lv (.int x.toInt32 :: r) σ)
  | .ladd => p2l st (fun y x r => K (pc + n) lv (.long (x + y) :: r) σ)
  | .lsub => p2l st (fun y x r => K (pc + n) lv (.long (x - y) :: r) σ)
  | .land => p2l st (fun y x r => K (pc + n) lv (.long (x &&& y) :: r) σ)
  | .lor => p2l st (fun y x r => K (pc + n) lv (.long (x ||| y) :: r) σ)
  | .lxor => p2l st (fun y x r => K (pc + n) lv (.long (x ^^^ y) :: r) σ)
  | .lneg => p1l st (fun x r => K (pc + n) lv (.long (-x) :: r) σ)
  | .lshl => pil st (fun y x r => K (pc + n) lv (.long (x <<< (y.toInt64 &&& 63)) :: r) σ)
  | .lushr => pil st (fun y x r => K (pc + n) lv (.long (x.toUInt64 >>> (y.toInt64.toUInt64 &&& Int64.toUInt64 63)).toInt64 :: r) σ)
  | .lcmp => p2l st (fun y x r => K (pc + n) lv (.int (lg_cmp x y) :: r) σ)
  | .dup => p1v st (fun v r => K (pc + n) lv (v :: v :: r) σ)
  | .dup2 => p1v st (fun v r1 => p1v r1 (fun u r => K (pc + n) lv (v :: u :: v :: u :: r) σ))
  | .pop => p1v st (fun _ r => K (pc + n) lv r σ)
  | .goto t => K t.toNat lv st σ
  | .ifCond .eq t => p1i st (fun x r => (x = 0 → K t.toNat lv r σ) ∧ (¬ x = 0 → K (pc + n) lv r σ))
  | .ifCond .ne t => p1i st (fun x r => (x = 0 → K (pc + n) lv r σ) ∧ (¬ x = 0 → K t.toNat lv r σ))
  | .ifCond .lt t => p1i st (fun x r => (x < 0 → K t.toNat lv r σ) ∧ (¬ x < 0 → K (pc + n) lv r σ))
  | .ifCond .ge t => p1i st (fun x r => (x < 0 → K (pc + n) lv r σ) ∧ (¬ x < 0 → K t.toNat lv r σ))
  | .ifCond .gt t => p1i st (fun x r => (0 < x → K t.toNat lv r σ) ∧ (¬ 0 < x → K (pc + n) lv r σ))
  | .ifCond .le t => p1i st (fun x r => (0 < x → K (pc + n) lv r σ) ∧ (¬ 0 < x → K t.toNat lv r σ))
  | .if_icmp .eq t => p2i st (fun y x r => (x = y → K t.toNat lv r σ) ∧ (¬ x = y → K (pc + n) lv r σ))
  | .if_icmp .ne t => p2i st (fun y x r => (x = y → K (pc + n) lv r σ) ∧ (¬ x = y → K t.toNat lv r σ))
  | .if_icmp .lt t => p2i st (fun y x r => (x < y → K t.toNat lv r σ) ∧ (¬ x < y → K (pc + n) lv r σ))
  | .if_icmp .ge t => p2i st (fun y x r => (x < y → K (pc + n) lv r σ) ∧ (¬ x < y → K t.toNat lv r σ))
  | .if_icmp .gt t => p2i st (fun y x r => (y < x → K t.toNat lv r σ) ∧ (¬ y < x → K (pc + n) lv r σ))
  | .if_icmp .le t => p2i st (fun y x r => (y < x → K (pc + n) lv r σ) ∧ (¬ y < x → K t.toNat lv r σ))
  | .lookupswitch d ps => p1i st (fun x r => onB ((ps.toList.zip (ps.toList.drop 1)).all (fun (a, next) => a.1 < next.1)) (swL (fun off => onB (decide (0 ≤ (pc : Int) + off)) (K ((pc : Int) + off).toNat lv r σ)) d ps.toList x))
  | .tableswitch d lo hi offs => p1i st (fun x r => onB (decide ((offs.size : Int) = hi - lo + 1)) (swT (fun off => onB (decide (0 ≤ (pc : Int) + off)) (K ((pc : Int) + off).toNat lv r σ)) d offs.toList lo x))
  | .getfield x => onS (ft x) (fun f => p1r st (fun a r => onB (isK w a f.1) (K (pc + n) lv (cV w σ (fty f.1 f.2) a f.2 :: r) σ)))
  | .putfield x => onS (ft x) (fun f => pir st (fun v a r => onB (!ffin f.1 f.2 && isK w a f.1) (putK (fty f.1 f.2) v (K (pc + n) lv r (sI σ a f.2 v)))))
  | .getstatic x => onS (sf x) (fun b => K (pc + n) lv ((bif b then .null else .float 0) :: st) σ)
  | .arraylength => pnl st (fun r => K (pc + n) lv (.int 6 :: r) σ) (pfn st (fun r => K (pc + n) lv (.int 4 :: r) σ) (p1r st (fun a r => onB (isA w a) (K (pc + n) lv (.int (nI (wN w a)) :: r) σ))))
  | .iaload => pfl st (fun j r => vp_in j 4 ∧ K (pc + n) lv (.int (inpL j.toNatClampNeg) :: r) σ) (pir st (fun j a r => onB (isK w a 20) (vp_in j (wN w a) ∧ K (pc + n) lv (.int (gI σ a j.toNatClampNeg) :: r) σ)))
  | .baload => pir st (fun j a r => onB (isK w a 21) (vp_in j (wN w a) ∧ K (pc + n) lv (.int (gI σ a j.toNatClampNeg) :: r) σ))
  | .laload => pnj st (fun j r => vp_in j 6 ∧ K (pc + n) lv (.long (onesL j.toNatClampNeg) :: r) σ) (pir st (fun j a r => onB (isK w a 22) (vp_in j (wN w a) ∧ K (pc + n) lv (.long (gL σ a j.toNatClampNeg) :: r) σ)))
  | .aaload => pir st (fun j a r => onB (isK w a 23 || isK w a 24) (vp_in j (wN w a) ∧ K (pc + n) lv (.ref (wR w a j.toNatClampNeg) :: r) σ))
  | .iastore => piir st (fun x j a r => onB (isK w a 20) (vp_in j (wN w a) ∧ K (pc + n) lv r (sI σ a j.toNatClampNeg x)))
  | .bastore => piir st (fun x j a r => onB (isK w a 21) (vp_in j (wN w a) ∧ K (pc + n) lv r (sI σ a j.toNatClampNeg (vp_nar .boolean x))))
  | .lastore => plir st (fun x j a r => onB (isK w a 22) (vp_in j (wN w a) ∧ K (pc + n) lv r (sL σ a j.toNatClampNeg x)))
  | .invokevirtual x => onS (ce x) (fun q => onS q.2.1 (fun ci => onS (popA q.1 [] st) (fun z => p1r z.1 (fun a As => onB (Nat.blt ci 11 && (Nat.ble (catS z.2) 8 && isK w a ci)) (q.2.2 (.ref a :: As) σ (fun v τ => K (pc + n) lv (v.toList ++ z.2) τ))))))
  | .invokestatic x => onS (ce x) (fun q => ivS q.2.1 (onS (popA q.1 [] st) (fun z => onB (Nat.ble (catS z.2) 8) (q.2.2 z.1 σ (fun v τ => K (pc + n) lv (v.toList ++ z.2) τ)))) (pac st (fun k dp a1 sp a0 r => onB (Nat.ble (catS r) 8 && (isK w a0 20 && isK w a1 20)) (¬ sp < 0 ∧ ¬ dp < 0 ∧ ¬ k < 0 ∧ sp.toNatClampNeg + k.toNatClampNeg ≤ wN w a0 ∧ dp.toNatClampNeg + k.toNatClampNeg ≤ wN w a1 ∧ K (pc + n) lv r (cpI σ a0 a1 sp.toNatClampNeg dp.toNatClampNeg k.toNatClampNeg)))) (p2i st (fun y x r => onB (Nat.ble (catS r) 8) (K (pc + n) lv (.int (if x < y then y else x) :: r) σ))) (p2i st (fun y x r => onB (Nat.ble (catS r) 8) (K (pc + n) lv (.int (if y < x then y else x) :: r) σ))))
  | .ireturn => p1i st (fun x r => onB r.isEmpty (retI ret x (Q (some (.int x)) σ)))
  | .lreturn => p1l st (fun x r => onB (r.isEmpty && isLong ret) (Q (some (.long x)) σ))
  | .areturn => p1r st (fun a r => onB (r.isEmpty && isObj ret) (Q (some (.ref a)) σ))
  | .return_ => onB (st.isEmpty && ret.isNone) (Q none σ)
  | _ => False
/-- from a place to the next label -/
def sx (w : Wd) (ft : Nat → Option (Nat × Nat)) (c32 : Nat → Option Int32) (c64 : Nat → Option Int64) (ce : Nat → Option (Nat × Option Nat × WP)) (sf : Nat → Option Bool) (ret : Option FieldType) (tab : Tab) (lab : Nat → Option (List Nat)) (P : Nat → List Value → Sg → Prop) (Q : Option Value → Sg → Prop) : Nat → Nat → VL → List Value → Sg → Prop
  | 0, _, _, _, _ => False
  | f + 1, pc, lv, st, σ => match lab pc with
    | some ids => onB st.isEmpty (onS (pickL lv ids) (fun vs => P pc vs σ))
    | none => onS (tab pc) (fun q => sxs w ft c32 c64 ce sf ret Q (sx w ft c32 c64 ce sf ret tab lab P Q f) pc q.1 q.2 lv st σ)
/-- a label's body -/
def sxb (w : Wd) (ft : Nat → Option (Nat × Nat)) (c32 : Nat → Option Int32) (c64 : Nat → Option Int64) (ce : Nat → Option (Nat × Option Nat × WP)) (sf : Nat → Option Bool) (ret : Option FieldType) (tab : Tab) (lab : Nat → Option (List Nat)) (P : Nat → List Value → Sg → Prop) (Q : Option Value → Sg → Prop) (f : Nat) (pc : Nat) (vs : List Value) (σ : Sg) : Prop :=
  onS (lab pc) (fun ids => onS (tab pc) (fun q => sxs w ft c32 c64 ce sf ret Q (sx w ft c32 c64 ce sf ret tab lab P Q f) pc q.1 q.2 (zipL ids vs) [] σ))
/-- a method -/
def sxm (w : Wd) (ft : Nat → Option (Nat × Nat)) (c32 : Nat → Option Int32) (c64 : Nat → Option Int64) (ce : Nat → Option (Nat × Option Nat × WP)) (sf : Nat → Option Bool) (ret : Option FieldType) (tab : Tab) (lab : Nat → Option (List Nat)) (f : Nat) : WP := fun As σ Q =>
  ∀ P : Nat → List Value → Sg → Prop, (∀ pc vs τ, sxb w ft c32 c64 ce sf ret tab lab P Q f pc vs τ → P pc vs τ) → sx w ft c32 c64 ce sf ret tab lab P Q f 0 (arg0 0 As) [] σ
