/-! SOUNDNESS: each instruction -/
theorem ok_e {p : Prop} [Decidable p] {n k : Nat} {b : Bool} (h : ((decide p && Nat.beq n k) && b) = true) : (p ∧ n = k) ∧ b = true := by
  simp only [Bool.and_eq_true, decide_eq_true_eq, Nat.beq_eq] at h
  exact h
theorem ok_j {p q : Prop} [Decidable p] [Decidable q] {n k : Nat} (h : (decide p && decide q && Nat.beq n k) = true) : (p ∧ q) ∧ n = k := by
  simp only [Bool.and_eq_true, decide_eq_true_eq, Nat.beq_eq] at h
  exact h
theorem i_le_nlt {x y : Int32} (h : x ≤ y) : ¬ y < x := Int32.not_lt.mpr h
theorem i_nle_lt {x y : Int32} (h : ¬ x ≤ y) : y < x := Int32.not_le.mp h
theorem cat1_1 (ad : Nat → Nat) {v : Value} (h : cat1 v = true) : (vr ad v).category = 1 := by cases v <;> first | rfl | cases h
theorem map_tl (ad : Nat → Nat) (v : Option Value) (r : List Value) : (v.toList ++ r).map (vr ad) = (v.map (vr ad)).toList ++ r.map (vr ad) := by cases v <;> rfl
theorem putK_e {ty : FieldType} {v : Int32} {p : Prop} (h : putK ty v p) : (ty = .int ∨ (ty = .boolean ∧ nz v)) ∧ p := by
  unfold putK at h
  split at h
  · exact ⟨Or.inl rfl, h⟩
  · exact ⟨Or.inr ⟨rfl, h.1⟩, h.2⟩
  · exact h.elim
theorem retI_e {ret : Option FieldType} {x : Int32} {p : Prop} (h : retI ret x p) : (ret = some .int ∧ p) ∨ (ret = some .boolean ∧ nz x ∧ p) := by
  unfold retI at h
  split at h
  · exact Or.inl ⟨rfl, h⟩
  · exact Or.inr ⟨rfl, h⟩
  · exact h.elim
theorem isLong_e {ret : Option FieldType} (h : isLong ret = true) : ret = some .long := by
  unfold isLong at h
  split at h
  · rfl
  · cases h
theorem isObj_e {ret : Option FieldType} (h : isObj ret = true) : ∃ C, ret = some (.object C) := by
  unfold isObj at h
  split at h
  · exact ⟨_, rfl⟩
  · cases h
theorem swL_e {K : Int → Prop} {d : Int} : ∀ {ps : List (Int × Int)} {x : Int32}, swL K d ps x → K (Op.lookupswitch.offset ps d x.toInt)
  | [], x, h => h
  | (a, o) :: r, x, h => by
    unfold swL at h
    rw [Op.lookupswitch.offset_cons]
    cases hb : decide ((Int32.ofInt a).toInt = a) <;> rw [hb] at h
    · exact h.elim
    · have hb := of_decide_eq_true hb
      by_cases e : x = Int32.ofInt a
      · rw [if_pos (by rw [e]; exact hb.symm)]
        exact h.1 e
      · rw [if_neg (fun z => e (by rw [z]; exact (Int32.ofInt_toInt x).symm))]
        exact swL_e (h.2 e)
theorem swT_e {K : Int → Prop} {d : Int} : ∀ {l : List Int} {lo : Int} {x : Int32}, swT K d l lo x → (∃ (j : Nat) (o : Int), x.toInt = lo + j ∧ l[j]? = some o ∧ K o) ∨ ((x.toInt < lo ∨ lo + (l.length : Int) ≤ x.toInt) ∧ K d)
  | [], lo, x, h => Or.inr ⟨by simp only [List.length_nil]; omega, h⟩
  | o :: r, lo, x, h => by
    unfold swT at h
    cases hb : decide ((Int32.ofInt lo).toInt = lo) <;> rw [hb] at h
    · exact h.elim
    · have hb := of_decide_eq_true hb
      by_cases e : x = Int32.ofInt lo
      · exact Or.inl ⟨0, o, by rw [e, hb]; simp, rfl, h.1 e⟩
      · have hne : x.toInt ≠ lo := fun z => e (by rw [← z]; exact (Int32.ofInt_toInt x).symm)
        rcases swT_e (h.2 e) with ⟨j, o', h1, h2, h3⟩ | ⟨h1, h3⟩
        · exact Or.inl ⟨j + 1, o', by rw [h1]; omega, by simpa using h2, h3⟩
        · refine Or.inr ⟨?_, h3⟩
          simp only [List.length_cons]
          omega
set_option maxHeartbeats 4000000 in
set_option maxRecDepth 20000 in
theorem sxs_ok {p : Program} {l : Launch} {e : Env} {s : State} {m : MethodId} {args : Array Value} {below : List Frame} {meth : Method} {c : Code} {H : Heap} {locs : List Loc}
    {cc : ByteArray} {pc : Nat} {ls : Array Slot} {D : va_G} {aC : Nat → ClassId} {ad : Nat → Nat} {w : Wd} {σ : Sg} {own : String} {nL hh : Nat} {y0 : MethodName} {ml0 : Nat}
    {ft : Nat → Option (Nat × Nat)} {c32 : Nat → Option Int32} {c64 : Nat → Option Int64} {ce : Nat → Option (Nat × Option Nat × WP)} {sf : Nat → Option Bool} {ret : Option FieldType} {Q : Option Value → Sg → Prop} {K : Nat → VL → List Value → Sg → Prop}
    (hx : p.tables.exec = Jvm.exec) (hb : c.code = cc) (hml : c.maxLocals = nL) (hr : meth.sig.returnType = ret) (hlocks : meth.locks = false) (hown : s.vm.findClass own = some m.cls) (hts : ∀ x ∈ Cond.code y0 cc ml0 ret :: big, x.before args s = true) (hK : KK D aC ad (AW w ad) s s.heap) (hj : ∀ a b, a < wS w → b < wS w → ad a = ad b → a = b)
    (hft : ∀ x f, ft x = some f → ftOK own x f.1 f.2) (h32 : ∀ x v, c32 x = some v → Cond.constant own x v ∈ big) (h64 : ∀ x v, c64 x = some v → Cond.constantLong own x v ∈ big) (hce : ∀ x q, ce x = some q → ceOK l w own hh x q.1 q.2.1 q.2.2)
    (hsf : ∀ x b, sf x = some b → (bif b then Cond.fieldLink own x "FrameProver$StateSet" "ONES" "[J" else Cond.fieldLink own x "FrameProver$Machine" "INPUT_LANES" "[I") ∈ big)
    (hkK : ∀ (pc : Nat) (lv : VL) (st : List Value) (τ : Sg) (H : Heap) (locs : List Loc) (ls : Array Slot), lv_has ls nL (rel ad lv) → Pic D aC w ad τ H → va_S (AW w ad) s.heap H locs → K pc lv st τ → W p l e (rmh hh) s m args below meth c H locs 0 0 (MQ below (Qg w D aC ad Q) args s 0 0 (AW w ad)) (F0 m pc ls (st.map (vr ad))))
    {i : Instr} {n : Nat} {lv : VL} {st : List Value} (hok : okI cc nL pc i n = true) (hl : lv_has ls nL (rel ad lv)) (hP : Pic D aC w ad σ H) (hS : va_S (AW w ad) s.heap H locs) (h : sxs w ft c32 c64 ce sf ret Q K pc i n lv st σ) :
    W p l e (rmh hh) s m args below meth c H locs 0 0 (MQ below (Qg w D aC ad Q) args s 0 0 (AW w ad)) (F0 m pc ls (st.map (vr ad))) := by
  have hbt : ∀ x ∈ big, x.before args s = true := fun x h => hts x (List.mem_cons_of_mem _ h)
  cases i with
  | iconst v =>
    obtain ⟨⟨hd, hn⟩, hst⟩ := ok_e hok
    have hn : n = 1 := hn
    subst hn
    exact lv_iconst hx hb hd rfl (hkK _ _ _ _ _ _ _ hl hP hS h)
  | bipush v =>
    obtain ⟨⟨hd, hn⟩, hst⟩ := ok_e hok
    have hn : n = 2 := hn
    subst hn
    exact lv_bipush hx hb hd rfl (hkK _ _ _ _ _ _ _ hl hP hS h)
  | sipush v =>
    obtain ⟨⟨hd, hn⟩, hst⟩ := ok_e hok
    have hn : n = 3 := hn
    subst hn
    exact lv_sipush hx hb hd rfl (hkK _ _ _ _ _ _ _ hl hP hS h)
  | lconst v =>
    obtain ⟨⟨hd, hn⟩, hst⟩ := ok_e hok
    have hn : n = 1 := hn
    subst hn
    exact lv_lconst hx hb hd rfl (hkK _ _ _ _ _ _ _ hl hP hS h)
  | ldc x =>
    obtain ⟨⟨hd, hn⟩, hst⟩ := ok_e hok
    have hn : n = 2 := hn
    subst hn
    obtain ⟨v, hv, h⟩ := onS_e h
    exact lv_ldc hx hb hown (hbt _ (h32 _ _ hv)) hd (hkK _ _ _ _ _ _ _ hl hP hS h)
  | ldc2_w x =>
    obtain ⟨⟨hd, hn⟩, hst⟩ := ok_e hok
    have hn : n = 3 := hn
    subst hn
    obtain ⟨v, hv, h⟩ := onS_e h
    exact lv_ldc2 hx hb hown (hbt _ (h64 _ _ hv)) hd (hkK _ _ _ _ _ _ _ hl hP hS h)
  | iload_n k =>
    obtain ⟨⟨hd, hn⟩, hst⟩ := ok_e hok
    have hn : n = 1 := hn
    subst hn
    obtain ⟨x, hv, h⟩ := lki_e h
    exact lv_iload_n hx hb hd rfl (lk_has hl hv) (hkK _ _ _ _ _ _ _ hl hP hS h)
  | iload k =>
    obtain ⟨⟨hd, hn⟩, hst⟩ := ok_e hok
    have hn : n = 2 := hn
    subst hn
    obtain ⟨x, hv, h⟩ := lki_e h
    exact lv_iload hx hb hd (lk_has hl hv) (hkK _ _ _ _ _ _ _ hl hP hS h)
  | lload_n k =>
    obtain ⟨⟨hd, hn⟩, hst⟩ := ok_e hok
    have hn : n = 1 := hn
    subst hn
    obtain ⟨x, hv, h⟩ := lkl_e h
    exact lv_lload_n hx hb hd rfl (lk_has hl hv) (hkK _ _ _ _ _ _ _ hl hP hS h)
  | lload k =>
    obtain ⟨⟨hd, hn⟩, hst⟩ := ok_e hok
    have hn : n = 2 := hn
    subst hn
    obtain ⟨x, hv, h⟩ := lkl_e h
    exact lv_lload hx hb hd (lk_has hl hv) (hkK _ _ _ _ _ _ _ hl hP hS h)
  | aload_n k =>
    obtain ⟨⟨hd, hn⟩, hst⟩ := ok_e hok
    have hn : n = 1 := hn
    subst hn
    obtain ⟨x, hv, h⟩ := lkr_e h
    exact lv_aload_n hx hb hd rfl (lk_has hl hv) (hkK _ _ _ _ _ _ _ hl hP hS h)
  | aload k =>
    obtain ⟨⟨hd, hn⟩, hst⟩ := ok_e hok
    have hn : n = 2 := hn
    subst hn
    obtain ⟨x, hv, h⟩ := lkr_e h
    exact lv_aload hx hb hd (lk_has hl hv) (hkK _ _ _ _ _ _ _ hl hP hS h)
  | istore_n k =>
    obtain ⟨⟨hd, hn⟩, hst⟩ := ok_e hok
    have hn : n = 1 := hn
    subst hn
    obtain ⟨x, r, rfl, h⟩ := p1i_e h
    exact lv_istore_n (lv' := rel ad (((k : Nat), .int x) :: dl lv (k : Nat))) hx hb hd rfl hl (Nat.blt_eq.mp hst) (congrArg (fun z => ((k : Nat), Value.int x) :: z) (dl_eq ad (k : Nat) lv)) (fun ls hl => hkK _ _ _ _ _ _ _ hl hP hS h)
  | istore k =>
    obtain ⟨⟨hd, hn⟩, hst⟩ := ok_e hok
    have hn : n = 2 := hn
    subst hn
    obtain ⟨x, r, rfl, h⟩ := p1i_e h
    exact lv_istore (lv' := rel ad ((k, .int x) :: dl lv k)) hx hb hd hl (Nat.blt_eq.mp hst) (congrArg (fun z => (k, Value.int x) :: z) (dl_eq ad k lv)) (fun ls hl => hkK _ _ _ _ _ _ _ hl hP hS h)
  | astore_n k =>
    obtain ⟨⟨hd, hn⟩, hst⟩ := ok_e hok
    have hn : n = 1 := hn
    subst hn
    obtain ⟨x, r, rfl, h⟩ := p1r_e h
    exact lv_astore_n (lv' := rel ad (((k : Nat), .ref x) :: dl lv (k : Nat))) hx hb hd rfl hl (Nat.blt_eq.mp hst) (congrArg (fun z => ((k : Nat), Value.ref (ad x)) :: z) (dl_eq ad (k : Nat) lv)) (fun ls hl => hkK _ _ _ _ _ _ _ hl hP hS h)
  | astore k =>
    obtain ⟨⟨hd, hn⟩, hst⟩ := ok_e hok
    have hn : n = 2 := hn
    subst hn
    obtain ⟨x, r, rfl, h⟩ := p1r_e h
    exact lv_astore (lv' := rel ad ((k, .ref x) :: dl lv k)) hx hb hd hl (Nat.blt_eq.mp hst) (congrArg (fun z => (k, Value.ref (ad x)) :: z) (dl_eq ad k lv)) (fun ls hl => hkK _ _ _ _ _ _ _ hl hP hS h)
  | lstore_n k =>
    obtain ⟨⟨hd, hn⟩, hst⟩ := ok_e hok
    have hn : n = 1 := hn
    subst hn
    obtain ⟨x, r, rfl, h⟩ := p1l_e h
    exact lv_lstore_n (lv' := rel ad (((k : Nat), .long x) :: dl2 lv (k : Nat))) hx hb hd rfl hl (Nat.blt_eq.mp hst) (congrArg (fun z => ((k : Nat), Value.long x) :: z) (dl2_eq ad (k : Nat) lv)) (fun ls hl => hkK _ _ _ _ _ _ _ hl hP hS h)
  | lstore k =>
    obtain ⟨⟨hd, hn⟩, hst⟩ := ok_e hok
    have hn : n = 2 := hn
    subst hn
    obtain ⟨x, r, rfl, h⟩ := p1l_e h
    exact lv_lstore (lv' := rel ad ((k, .long x) :: dl2 lv k)) hx hb hd hl (Nat.blt_eq.mp hst) (congrArg (fun z => (k, Value.long x) :: z) (dl2_eq ad k lv)) (fun ls hl => hkK _ _ _ _ _ _ _ hl hP hS h)
  | iinc k v =>
    obtain ⟨⟨hd, hn⟩, hst⟩ := ok_e hok
    have hn : n = 3 := hn
    subst hn
    obtain ⟨x, hv, h⟩ := lki_e h
    obtain ⟨q, hq⟩ := List.getElem?_of_mem (rel_mem (ad := ad) (lk_mem hv))
    exact lv_iinc (lv' := rel ad ((k, .int (x + Int32.ofInt v)) :: dl lv k)) hx hb hd hl hq rfl (Nat.blt_eq.mp hst) (congrArg (fun z => (k, Value.int (x + Int32.ofInt v)) :: z) (dl_eq ad k lv)) (fun ls hl => hkK _ _ _ _ _ _ _ hl hP hS h)
  | iadd =>
    obtain ⟨⟨hd, hn⟩, hst⟩ := ok_e hok
    have hn : n = 1 := hn
    subst hn
    obtain ⟨y, x, r, rfl, h⟩ := p2i_e h
    exact lv_iadd hx hb hd (hkK _ _ _ _ _ _ _ hl hP hS h)
  | isub =>
    obtain ⟨⟨hd, hn⟩, hst⟩ := ok_e hok
    have hn : n = 1 := hn
    subst hn
    obtain ⟨y, x, r, rfl, h⟩ := p2i_e h
    exact lv_isub hx hb hd (hkK _ _ _ _ _ _ _ hl hP hS h)
  | imul =>
    obtain ⟨⟨hd, hn⟩, hst⟩ := ok_e hok
    have hn : n = 1 := hn
    subst hn
    obtain ⟨y, x, r, rfl, h⟩ := p2i_e h
    exact lv_imul hx hb hd (hkK _ _ _ _ _ _ _ hl hP hS h)
  | iand =>
    obtain ⟨⟨hd, hn⟩, hst⟩ := ok_e hok
    have hn : n = 1 := hn
    subst hn
    obtain ⟨y, x, r, rfl, h⟩ := p2i_e h
    exact lv_iand hx hb hd (hkK _ _ _ _ _ _ _ hl hP hS h)
  | ior =>
    obtain ⟨⟨hd, hn⟩, hst⟩ := ok_e hok
    have hn : n = 1 := hn
    subst hn
    obtain ⟨y, x, r, rfl, h⟩ := p2i_e h
    exact lv_ior hx hb hd (hkK _ _ _ _ _ _ _ hl hP hS h)
  | ixor =>
    obtain ⟨⟨hd, hn⟩, hst⟩ := ok_e hok
    have hn : n = 1 := hn
    subst hn
    obtain ⟨y, x, r, rfl, h⟩ := p2i_e h
    exact lv_ixor hx hb hd (hkK _ _ _ _ _ _ _ hl hP hS h)
  | ishl =>
    obtain ⟨⟨hd, hn⟩, hst⟩ := ok_e hok
    have hn : n = 1 := hn
    subst hn
    obtain ⟨y, x, r, rfl, h⟩ := p2i_e h
    exact lv_ishl hx hb hd (hkK _ _ _ _ _ _ _ hl hP hS h)
  | ishr =>
    obtain ⟨⟨hd, hn⟩, hst⟩ := ok_e hok
    have hn : n = 1 := hn
    subst hn
    obtain ⟨y, x, r, rfl, h⟩ := p2i_e h
    exact lv_ishr hx hb hd (hkK _ _ _ _ _ _ _ hl hP hS h)
  | idiv =>
    obtain ⟨⟨hd, hn⟩, hst⟩ := ok_e hok
    have hn : n = 1 := hn
    subst hn
    obtain ⟨y, x, r, rfl, h0, h⟩ := p2i_e h
    exact lv_idiv hx hb hd h0 (hkK _ _ _ _ _ _ _ hl hP hS h)
  | irem =>
    obtain ⟨⟨hd, hn⟩, hst⟩ := ok_e hok
    have hn : n = 1 := hn
    subst hn
    obtain ⟨y, x, r, rfl, h0, h⟩ := p2i_e h
    exact lv_irem hx hb hd h0 (hkK _ _ _ _ _ _ _ hl hP hS h)
  | ladd =>
    obtain ⟨⟨hd, hn⟩, hst⟩ := ok_e hok
    have hn : n = 1 := hn
    subst hn
    obtain ⟨y, x, r, rfl, h⟩ := p2l_e h
    exact lv_ladd hx hb hd (hkK _ _ _ _ _ _ _ hl hP hS h)
  | lsub =>
    obtain ⟨⟨hd, hn⟩, hst⟩ := ok_e hok
    have hn : n = 1 := hn
    subst hn
    obtain ⟨y, x, r, rfl, h⟩ := p2l_e h
    exact lv_lsub hx hb hd (hkK _ _ _ _ _ _ _ hl hP hS h)
  | land =>
    obtain ⟨⟨hd, hn⟩, hst⟩ := ok_e hok
    have hn : n = 1 := hn
    subst hn
    obtain ⟨y, x, r, rfl, h⟩ := p2l_e h
    exact lv_land hx hb hd (hkK _ _ _ _ _ _ _ hl hP hS h)
  | lor =>
    obtain ⟨⟨hd, hn⟩, hst⟩ := ok_e hok
    have hn : n = 1 := hn
    subst hn
    obtain ⟨y, x, r, rfl, h⟩ := p2l_e h
    exact lv_lor hx hb hd (hkK _ _ _ _ _ _ _ hl hP hS h)
  | lxor =>
    obtain ⟨⟨hd, hn⟩, hst⟩ := ok_e hok
    have hn : n = 1 := hn
    subst hn
    obtain ⟨y, x, r, rfl, h⟩ := p2l_e h
    exact lv_lxor hx hb hd (hkK _ _ _ _ _ _ _ hl hP hS h)
  | ineg =>
    obtain ⟨⟨hd, hn⟩, hst⟩ := ok_e hok
    have hn : n = 1 := hn
    subst hn
    obtain ⟨x, r, rfl, h⟩ := p1i_e h
    exact lv_ineg hx hb hd (hkK _ _ _ _ _ _ _ hl hP hS h)
  | lneg =>
    obtain ⟨⟨hd, hn⟩, hst⟩ := ok_e hok
    have hn : n = 1 := hn
    subst hn
    obtain ⟨x, r, rfl, h⟩ := p1l_e h
    exact lv_lneg hx hb hd (hkK _ _ _ _ _ _ _ hl hP hS h)
  | i2l =>
    obtain ⟨⟨hd, hn⟩, hst⟩ := ok_e hok
    have hn : n = 1 := hn
    subst hn
    obtain ⟨x, r, rfl, h⟩ := p1i_e h
    exact lv_i2l hx hb hd rfl (hkK _ _ _ _ _ _ _ hl hP hS h)
  | l2i =>
    obtain ⟨⟨hd, hn⟩, hst⟩ := ok_e hok
    have hn : n = 1 := hn
    subst hn
    obtain ⟨x, r, rfl, h⟩ := p1l_e h
    exact lv_l2i hx hb hd rfl (hkK _ _ _ _ _ _ _ hl hP hS h)
  | lshl =>
    obtain ⟨⟨hd, hn⟩, hst⟩ := ok_e hok
    have hn : n = 1 := hn
    subst hn
    obtain ⟨y, x, r, rfl, h⟩ := pil_e h
    exact lv_lshl hx hb hd rfl (hkK _ _ _ _ _ _ _ hl hP hS h)
  | lushr =>
    obtain ⟨⟨hd, hn⟩, hst⟩ := ok_e hok
    have hn : n = 1 := hn
    subst hn
    obtain ⟨y, x, r, rfl, h⟩ := pil_e h
    exact lv_lushr hx hb hd rfl (hkK _ _ _ _ _ _ _ hl hP hS h)
  | lcmp =>
    obtain ⟨⟨hd, hn⟩, hst⟩ := ok_e hok
    have hn : n = 1 := hn
    subst hn
    obtain ⟨y, x, r, rfl, h⟩ := p2l_e h
    exact W.lcmp hx hb hd (hkK _ _ _ _ _ _ _ hl hP hS h)
  | dup =>
    obtain ⟨⟨hd, hn⟩, hst⟩ := ok_e hok
    have hn : n = 1 := hn
    subst hn
    obtain ⟨v, r, rfl, hc, h⟩ := p1v_e h
    exact lv_dup hx hb hd (cat1_1 ad hc) (hkK _ _ _ _ _ _ _ hl hP hS h)
  | dup2 =>
    obtain ⟨⟨hd, hn⟩, hst⟩ := ok_e hok
    have hn : n = 1 := hn
    subst hn
    obtain ⟨v, r1, rfl, hc, h⟩ := p1v_e h
    obtain ⟨u, r, rfl, hc2, h⟩ := p1v_e h
    exact lv_dup2_11 hx hb hd (cat1_1 ad hc) (cat1_1 ad hc2) (hkK _ _ _ _ _ _ _ hl hP hS h)
  | pop =>
    obtain ⟨⟨hd, hn⟩, hst⟩ := ok_e hok
    have hn : n = 1 := hn
    subst hn
    obtain ⟨v, r, rfl, hc, h⟩ := p1v_e h
    exact lv_pop hx hb hd (cat1_1 ad hc) (hkK _ _ _ _ _ _ _ hl hP hS h)
  | goto t =>
    obtain ⟨⟨ht, hd⟩, hn⟩ := ok_j hok
    exact lv_goto (tgt := t.toNat) hx hb hd (by omega) (hkK _ _ _ _ _ _ _ hl hP hS h)
  | ifCond k t =>
    obtain ⟨⟨ht, hd⟩, hn⟩ := ok_j hok
    subst hn
    cases k with
    | eq =>
      obtain ⟨x, r, rfl, h⟩ := p1i_e h
      exact lv_if_eq (tgt := t.toNat) hx hb hd (by omega) (fun q => (hkK _ _ _ _ _ _ _ hl hP hS (h.1 q))) (fun q => (hkK _ _ _ _ _ _ _ hl hP hS (h.2 q)))
    | ne =>
      obtain ⟨x, r, rfl, h⟩ := p1i_e h
      exact lv_if_ne (tgt := t.toNat) hx hb hd (by omega) (fun q => (hkK _ _ _ _ _ _ _ hl hP hS (h.2 q))) (fun q => (hkK _ _ _ _ _ _ _ hl hP hS (h.1 q)))
    | lt =>
      obtain ⟨x, r, rfl, h⟩ := p1i_e h
      exact lv_if_lt (tgt := t.toNat) hx hb hd (by omega) (fun q => (hkK _ _ _ _ _ _ _ hl hP hS (h.1 q))) (fun q => (hkK _ _ _ _ _ _ _ hl hP hS (h.2 q)))
    | ge =>
      obtain ⟨x, r, rfl, h⟩ := p1i_e h
      exact lv_if_ge (tgt := t.toNat) hx hb hd (by omega) (fun q => (hkK _ _ _ _ _ _ _ hl hP hS (h.2 (i_le_nlt q)))) (fun q => (hkK _ _ _ _ _ _ _ hl hP hS (h.1 (i_nle_lt q))))
    | gt =>
      obtain ⟨x, r, rfl, h⟩ := p1i_e h
      exact lv_if_gt (tgt := t.toNat) hx hb hd (by omega) (fun q => (hkK _ _ _ _ _ _ _ hl hP hS (h.1 q))) (fun q => (hkK _ _ _ _ _ _ _ hl hP hS (h.2 q)))
    | le =>
      obtain ⟨x, r, rfl, h⟩ := p1i_e h
      exact lv_if_le (tgt := t.toNat) hx hb hd (by omega) (fun q => (hkK _ _ _ _ _ _ _ hl hP hS (h.2 (i_le_nlt q)))) (fun q => (hkK _ _ _ _ _ _ _ hl hP hS (h.1 (i_nle_lt q))))
  | if_icmp k t =>
    obtain ⟨⟨ht, hd⟩, hn⟩ := ok_j hok
    subst hn
    cases k with
    | eq =>
      obtain ⟨y, x, r, rfl, h⟩ := p2i_e h
      exact lv_icmp_eq (tgt := t.toNat) hx hb hd (by omega) (fun q => (hkK _ _ _ _ _ _ _ hl hP hS (h.1 q))) (fun q => (hkK _ _ _ _ _ _ _ hl hP hS (h.2 q)))
    | ne =>
      obtain ⟨y, x, r, rfl, h⟩ := p2i_e h
      exact lv_icmp_ne (tgt := t.toNat) hx hb hd (by omega) (fun q => (hkK _ _ _ _ _ _ _ hl hP hS (h.2 q))) (fun q => (hkK _ _ _ _ _ _ _ hl hP hS (h.1 q)))
    | lt =>
      obtain ⟨y, x, r, rfl, h⟩ := p2i_e h
      exact lv_icmp_lt (tgt := t.toNat) hx hb hd (by omega) (fun q => (hkK _ _ _ _ _ _ _ hl hP hS (h.1 q))) (fun q => (hkK _ _ _ _ _ _ _ hl hP hS (h.2 q)))
    | ge =>
      obtain ⟨y, x, r, rfl, h⟩ := p2i_e h
      exact lv_icmp_ge (tgt := t.toNat) hx hb hd (by omega) (fun q => (hkK _ _ _ _ _ _ _ hl hP hS (h.2 (i_le_nlt q)))) (fun q => (hkK _ _ _ _ _ _ _ hl hP hS (h.1 (i_nle_lt q))))
    | gt =>
      obtain ⟨y, x, r, rfl, h⟩ := p2i_e h
      exact lv_icmp_gt (tgt := t.toNat) hx hb hd (by omega) (fun q => (hkK _ _ _ _ _ _ _ hl hP hS (h.1 q))) (fun q => (hkK _ _ _ _ _ _ _ hl hP hS (h.2 q)))
    | le =>
      obtain ⟨y, x, r, rfl, h⟩ := p2i_e h
      exact lv_icmp_le (tgt := t.toNat) hx hb hd (by omega) (fun q => (hkK _ _ _ _ _ _ _ hl hP hS (h.2 (i_le_nlt q)))) (fun q => (hkK _ _ _ _ _ _ _ hl hP hS (h.1 (i_nle_lt q))))
  | lookupswitch d ps =>
    have hd := of_decide_eq_true hok
    obtain ⟨x, r, rfl, h⟩ := p1i_e h
    obtain ⟨hs, h⟩ := onB_e h
    have h1 := swL_e h
    obtain ⟨h2, h3⟩ := onB_e h1
    exact lv_lookup (tgt := ((pc : Int) + Op.lookupswitch.offset ps.toList d x.toInt).toNat) hx hb hd hs rfl (Int.toNat_of_nonneg (of_decide_eq_true h2)).symm (hkK _ _ _ _ _ _ _ hl hP hS (h3))
  | tableswitch d lo hi offs =>
    have hd := of_decide_eq_true hok
    obtain ⟨x, r, rfl, h⟩ := p1i_e h
    obtain ⟨hs, h⟩ := onB_e h
    have hs := of_decide_eq_true hs
    rcases swT_e h with ⟨j, o, h1, h2, h3⟩ | ⟨h1, h3⟩
    · obtain ⟨h4, h5⟩ := onB_e h3
      have hj : j < offs.size := by simpa using (List.getElem?_eq_some_iff.mp h2).1
      refine lv_tableIn (off := o) (tgt := ((pc : Int) + o).toNat) hx hb hd (by omega) (by omega) ?_ (Int.toNat_of_nonneg (of_decide_eq_true h4)).symm (hkK _ _ _ _ _ _ _ hl hP hS (h5))
      rw [show (x.toInt - lo).toNat = j by omega, ← h2, Array.getElem?_toList]
    · obtain ⟨h4, h5⟩ := onB_e h3
      exact lv_tableOut (tgt := ((pc : Int) + d).toNat) hx hb hd (by simp only [Array.length_toList] at h1; omega) (Int.toNat_of_nonneg (of_decide_eq_true h4)).symm (hkK _ _ _ _ _ _ _ hl hP hS (h5))
  | getfield x =>
    obtain ⟨⟨hd, hn⟩, hst⟩ := ok_e hok
    have hn : n = 3 := hn
    subst hn
    obtain ⟨f, hf, h⟩ := onS_e h
    obtain ⟨a, r, rfl, h⟩ := p1r_e h
    obtain ⟨hk, h⟩ := onB_e h
    exact pw_get hx hb hbt hown hK.1 hP (hft _ _ hf) (isK_1 hk) (isK_2 hk) hd (hkK _ _ _ _ _ _ _ hl hP hS h)
  | putfield x =>
    obtain ⟨⟨hd, hn⟩, hst⟩ := ok_e hok
    have hn : n = 3 := hn
    subst hn
    obtain ⟨f, hf, h⟩ := onS_e h
    obtain ⟨v, a, r, rfl, h⟩ := pir_e h
    obtain ⟨hk, h⟩ := onB_e h
    rw [Bool.and_eq_true] at hk
    obtain ⟨hty, h⟩ := putK_e h
    exact pw_put hx hb hbt hown hK.1 hP hj hS (hft _ _ hf) (by simpa using hk.1) (isK_1 hk.2) (isK_2 hk.2) hty hd (fun H1 locs1 hP hS => hkK _ _ _ _ _ _ _ hl hP hS h)
  | getstatic x =>
    obtain ⟨⟨hd, hn⟩, hst⟩ := ok_e hok
    have hn : n = 3 := hn
    subst hn
    obtain ⟨a, ha, h⟩ := onS_e h
    have hs1 := hsf _ _ ha
    cases a with
    | false =>
      exact va_gets hx hb hK.2.2.1.1 hS hown (hbt _ hs1) (fun _ z => z) hd (hkK _ _ _ _ _ _ _ hl hP hS h)
    | true =>
      exact va_gets hx hb hK.2.2.2.1 hS hown (hbt _ hs1) (fun _ z => z) hd (hkK _ _ _ _ _ _ _ hl hP hS h)
  | arraylength =>
    obtain ⟨⟨hd, hn⟩, hst⟩ := ok_e hok
    have hn : n = 1 := hn
    subst hn
    rcases pnl_e h with ⟨r, rfl, h2⟩ | h2
    · exact va_tlen hx hb hK.2.2.2.2 hS rfl hd (hkK _ _ _ _ _ _ _ hl hP hS h2)
    · rcases pfn_e h2 with ⟨t, r, rfl, h3⟩ | h2
      · exact va_tlen hx hb hK.2.2.1.2 hS rfl hd (hkK _ _ _ _ _ _ _ hl hP hS h3)
      · obtain ⟨a, r, rfl, h3⟩ := p1r_e h2
        obtain ⟨hk, h4⟩ := onB_e h3
        simp only [isA, Bool.and_eq_true, Nat.ble_eq, Nat.blt_eq] at hk
        exact pw_alen hx hb hK.1 hP hk.1 hk.2.1 hk.2.2 hd (hkK _ _ _ _ _ _ _ hl hP hS h4)
  | baload =>
    obtain ⟨⟨hd, hn⟩, hst⟩ := ok_e hok
    have hn : n = 1 := hn
    subst hn
    obtain ⟨j, a, r, rfl, h2⟩ := pir_e h
    obtain ⟨hk, h9, h3⟩ := onB_e h2
    exact pw_zald hx hb hK.1 hP hk h9 hd (hkK _ _ _ _ _ _ _ hl hP hS h3)
  | iaload =>
    obtain ⟨⟨hd, hn⟩, hst⟩ := ok_e hok
    have hn : n = 1 := hn
    subst hn
    rcases pfl_e h with ⟨j, t, r, rfl, h9, h2⟩ | h2
    · exact va_ti hx hb hK.2.2.1.2 hS h9 rfl hd (hkK _ _ _ _ _ _ _ hl hP hS h2)
    · obtain ⟨j, a, r, rfl, h3⟩ := pir_e h2
      obtain ⟨hk, h9, h4⟩ := onB_e h3
      exact pw_iald hx hb hK.1 hP hk h9 hd (hkK _ _ _ _ _ _ _ hl hP hS h4)
  | laload =>
    obtain ⟨⟨hd, hn⟩, hst⟩ := ok_e hok
    have hn : n = 1 := hn
    subst hn
    rcases pnj_e h with ⟨j, r, rfl, h9, h2⟩ | h2
    · exact va_tl hx hb hK.2.2.2.2 hS h9 rfl hd (hkK _ _ _ _ _ _ _ hl hP hS h2)
    · obtain ⟨j, a, r, rfl, h3⟩ := pir_e h2
      obtain ⟨hk, h9, h4⟩ := onB_e h3
      exact pw_lald hx hb hK.1 hP hk h9 hd (hkK _ _ _ _ _ _ _ hl hP hS h4)
  | aaload =>
    obtain ⟨⟨hd, hn⟩, hst⟩ := ok_e hok
    have hn : n = 1 := hn
    subst hn
    obtain ⟨j, a, r, rfl, h⟩ := pir_e h
    obtain ⟨hk, h9, h⟩ := onB_e h
    rcases Bool.or_eq_true _ _ ▸ hk with hk | hk
    · exact pw_aald3 hx hb hK.1 hP hk h9 hd (hkK _ _ _ _ _ _ _ hl hP hS h)
    · exact pw_aald4 hx hb hK.1 hP hk h9 hd (hkK _ _ _ _ _ _ _ hl hP hS h)
  | iastore =>
    obtain ⟨⟨hd, hn⟩, hst⟩ := ok_e hok
    have hn : n = 1 := hn
    subst hn
    obtain ⟨x, j, a, r, rfl, h⟩ := piir_e h
    obtain ⟨hk, h9, h⟩ := onB_e h
    exact pw_iast hx hb hK.1 hP hj hS hk h9 hd (fun H1 locs1 hP hS => hkK _ _ _ _ _ _ _ hl hP hS h)
  | bastore =>
    obtain ⟨⟨hd, hn⟩, hst⟩ := ok_e hok
    have hn : n = 1 := hn
    subst hn
    obtain ⟨x, j, a, r, rfl, h⟩ := piir_e h
    obtain ⟨hk, h9, h⟩ := onB_e h
    exact pw_zast hx hb hK.1 hP hj hS hk h9 hd (fun H1 locs1 hP hS => hkK _ _ _ _ _ _ _ hl hP hS h)
  | lastore =>
    obtain ⟨⟨hd, hn⟩, hst⟩ := ok_e hok
    have hn : n = 1 := hn
    subst hn
    obtain ⟨x, j, a, r, rfl, h⟩ := plir_e h
    obtain ⟨hk, h9, h⟩ := onB_e h
    exact pw_last hx hb hK.1 hP hj hS hk h9 hd (fun H1 locs1 hP hS => hkK _ _ _ _ _ _ _ hl hP hS h)
  | invokevirtual x =>
    obtain ⟨⟨hd, hn⟩, hst⟩ := ok_e hok
    have hn : n = 3 := hn
    subst hn
    obtain ⟨q, hq, h⟩ := onS_e h
    obtain ⟨ci, hci, h⟩ := onS_e h
    obtain ⟨z, hz, h⟩ := onS_e h
    obtain ⟨a, As, hz1, h⟩ := p1r_e h
    obtain ⟨hk, h⟩ := onB_e h
    rw [Bool.and_eq_true, Bool.and_eq_true] at hk
    obtain ⟨hk0, hk⟩ := hk
    obtain ⟨pre, e1, e2, e3⟩ := popA_e hz
    have hst2 : st.map (vr ad) = ((Value.ref a :: As).map (vr ad)).reverse ++ z.2.map (vr ad) := by
      rw [e2, List.map_append, ← List.map_reverse, ← hz1, e3]
      simp
    rw [hst2]
    have hq2 := hce _ _ hq
    rw [hci] at hq2
    exact pw_inv (y0 := y0) (ml0 := ml0) (ret0 := ret) (h := hh) hx hb hml hown hts hK hj hP hS rfl hl.1 ⟨rfl, rfl⟩ hq2 ⟨(fun z => by cases z; cases hk0), (fun z => by cases z; cases hk0), (fun z => by cases z; cases hk0)⟩ (by rw [← hz1, e3]; simp [e1]) (Nat.le_of_ble_eq_true hk.1) h ⟨hd, a, As, rfl, hk.2⟩ (fun v τ H1 locs1 h hP hS => by have h2 := hkK _ _ _ _ _ _ _ hl hP hS h; rw [map_tl] at h2; exact h2)
  | invokestatic x =>
    obtain ⟨⟨hd, hn⟩, hst⟩ := ok_e hok
    have hn : n = 3 := hn
    subst hn
    obtain ⟨q, hq, h⟩ := onS_e h
    have hq2 := hce _ _ hq
    rcases ivS_e h with ⟨hn, h⟩ | ⟨hn, h⟩ | ⟨hn, h⟩ | ⟨hn, h⟩
    · obtain ⟨z, hz, h⟩ := onS_e h
      obtain ⟨hk, h⟩ := onB_e h
      obtain ⟨pre, e1, e2, e3⟩ := popA_e hz
      have hst2 : st.map (vr ad) = (z.1.map (vr ad)).reverse ++ z.2.map (vr ad) := by
        rw [e2, List.map_append, ← List.map_reverse, e3]
        simp
      rw [hst2]
      rw [hn] at hq2
      exact pw_inv (y0 := y0) (ml0 := ml0) (ret0 := ret) (h := hh) hx hb hml hown hts hK hj hP hS rfl hl.1 ⟨rfl, rfl⟩ hq2 ⟨(fun z => by cases z), (fun z => by cases z), (fun z => by cases z)⟩ (by rw [e3]; simp [e1]) (Nat.le_of_ble_eq_true hk) h hd (fun v τ H1 locs1 h hP hS => by have h2 := hkK _ _ _ _ _ _ _ hl hP hS h; rw [map_tl] at h2; exact h2)
    · obtain ⟨k, dp, a1, sp, a0, r, rfl, h⟩ := pac_e h
      obtain ⟨hk, g1, g2, g3, g4, g5, h⟩ := onB_e h
      rw [Bool.and_eq_true, Bool.and_eq_true] at hk
      rw [hn] at hq2
      rcases hq2 with ⟨-, hh2, m1, m2, m3, m4⟩ | ⟨z, -⟩ | ⟨z, -⟩ | ⟨y, yc, mL, rt, hc, -, -, -, -, -, k1⟩
      · refine pw_acopy hx hb (hml.trans hl.1.symm) hown (hbt _ m1) (hbt _ m2) (hbt _ m3) (hbt _ m4) hK.1 hP hj hS hk.2.1 hk.2.2 g1 g2 g3 g4 g5 (by show 1 ≤ hh; omega) ?_ hd (fun H1 locs1 hP hS => hkK _ _ _ _ _ _ _ hl hP hS h)
        have h8 := Nat.le_of_ble_eq_true hk.1
        rw [catS_eq]
        have h9 : nativeFrameWords "java/lang/System" "arraycopy" 5 + 11 ≤ 60 := by decide
        show _ ≤ 34 * hh
        omega
      · exact absurd z (by decide)
      · exact absurd z (by decide)
      · exact absurd k1.2.2.2.2.1 (by decide)
    · obtain ⟨y, x, r, rfl, h⟩ := p2i_e h
      obtain ⟨hk, h⟩ := onB_e h
      rw [hn] at hq2
      have h8 := Nat.le_of_ble_eq_true hk
      rcases hq2 with ⟨z, -⟩ | ⟨-, hh2, m1, m2, m3, m4⟩ | ⟨z, -⟩ | ⟨y, yc, mL, rt, hc, -, -, -, -, -, k1⟩
      · exact absurd z (by decide)
      · refine va_mmax hx hb (hml.trans hl.1.symm) hown (hbt _ m1) (hbt _ m2) (hbt _ m3) (hbt _ m4) hh2 ?_ (Nat.zero_le _) (Nat.zero_le _) hd (hkK _ _ _ _ _ _ _ hl hP hS h)
        rw [catS_eq]
        show _ ≤ 34 * hh
        omega
      · exact absurd z (by decide)
      · exact absurd k1.2.2.2.2.1 (by decide)
    · obtain ⟨y, x, r, rfl, h⟩ := p2i_e h
      obtain ⟨hk, h⟩ := onB_e h
      rw [hn] at hq2
      have h8 := Nat.le_of_ble_eq_true hk
      rcases hq2 with ⟨z, -⟩ | ⟨z, -⟩ | ⟨-, hh2, m1, m2, m3, m4⟩ | ⟨y, yc, mL, rt, hc, -, -, -, -, -, k1⟩
      · exact absurd z (by decide)
      · exact absurd z (by decide)
      · refine va_mmin hx hb (hml.trans hl.1.symm) hown (hbt _ m1) (hbt _ m2) (hbt _ m3) (hbt _ m4) hh2 ?_ (Nat.zero_le _) (Nat.zero_le _) hd (hkK _ _ _ _ _ _ _ hl hP hS h)
        rw [catS_eq]
        show _ ≤ 34 * hh
        omega
      · exact absurd k1.2.2.2.2.1 (by decide)
  | ireturn =>
    obtain ⟨⟨hd, hn⟩, hst⟩ := ok_e hok
    have hn : n = 1 := hn
    subst hn
    obtain ⟨x, r, rfl, h⟩ := p1i_e h
    obtain ⟨hr0, h⟩ := onB_e h
    have hr0 := List.isEmpty_iff.mp hr0
    subst hr0
    rcases retI_e h with ⟨hr1, h⟩ | ⟨hr1, h0, h⟩
    · exact W.iret hx hb (hr.trans hr1) (fun t ht hW => ⟨⟨some (.int x), σ, rfl, h, by rw [ht]; exact hP⟩, hS.F ht⟩) hS.2.2 hd hlocks
    · exact W.zret hx hb (hr.trans hr1) (by rcases h0 with rfl | rfl <;> rfl) (fun t ht hW => ⟨⟨some (.int x), σ, rfl, h, by rw [ht]; exact hP⟩, hS.F ht⟩) hS.2.2 hd hlocks
  | lreturn =>
    obtain ⟨⟨hd, hn⟩, hst⟩ := ok_e hok
    have hn : n = 1 := hn
    subst hn
    replace h := p1l_e h
    obtain ⟨x, r, rfl, h⟩ := h
    replace h := onB_e h
    obtain ⟨hr0, h⟩ := h
    rw [Bool.and_eq_true] at hr0
    have hr1 := List.isEmpty_iff.mp hr0.1
    subst hr1
    exact W.lret hx hb (hr.trans (isLong_e hr0.2)) (fun t ht hW => ⟨⟨some (.long x), σ, rfl, h, by rw [ht]; exact hP⟩, hS.F ht⟩) hS.2.2 hd hlocks
  | areturn =>
    obtain ⟨⟨hd, hn⟩, hst⟩ := ok_e hok
    have hn : n = 1 := hn
    subst hn
    replace h := p1r_e h
    obtain ⟨a, r, rfl, h⟩ := h
    replace h := onB_e h
    obtain ⟨hr0, h⟩ := h
    rw [Bool.and_eq_true] at hr0
    have hr1 := List.isEmpty_iff.mp hr0.1
    subst hr1
    obtain ⟨C, hC⟩ := isObj_e hr0.2
    exact W.aret hx hb (hr.trans hC) (Or.inl ⟨C, rfl⟩) (Or.inr ⟨ad a, rfl⟩) (fun t ht hW => ⟨⟨some (.ref a), σ, rfl, h, by rw [ht]; exact hP⟩, hS.F ht⟩) hS.2.2 hd hlocks
  | return_ =>
    obtain ⟨⟨hd, hn⟩, hst⟩ := ok_e hok
    have hn : n = 1 := hn
    subst hn
    replace h := onB_e h
    obtain ⟨hr0, h⟩ := h
    rw [Bool.and_eq_true] at hr0
    have hr1 := List.isEmpty_iff.mp hr0.1
    subst hr1
    exact W.vret hx hb (hr.trans (Option.isNone_iff_eq_none.mp hr0.2)) (fun t ht hW => ⟨⟨none, σ, rfl, h, by rw [ht]; exact hP⟩, hS.F ht⟩) hS.2.2 hd hlocks
  | _ => exact False.elim h
