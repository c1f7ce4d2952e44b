theorem lg_len (ad : Nat → Nat) : ∀ As : List Value, (lg_sl (As.map (vr ad))).length = (lg_sl As).length
  | [] => rfl
  | v :: r => by
    have ih := lg_len ad r
    cases v <;> simp_all [lg_sl, vr, Value.category]
theorem lv_args_rel (ad : Nat → Nat) : ∀ (As : List Value) (k : Nat), lv_args k (As.map (vr ad)) = rel ad (arg0 k As)
  | [], _ => rfl
  | v :: r, k => by
    have e : (if (vr ad v).category = 2 then k + 2 else k + 1) = (bif cat1 v then k + 1 else k + 2) := by cases v <;> rfl
    show (k, vr ad v) :: lv_args (if (vr ad v).category = 2 then k + 2 else k + 1) (r.map (vr ad)) = (k, vr ad v) :: rel ad (arg0 (bif cat1 v then k + 1 else k + 2) r)
    rw [e, lv_args_rel ad r]
set_option maxHeartbeats 4000000 in
/-- from a place on, given the labels -/
theorem sx_ok {p : Program} {l : Launch} {e : Env} {s : State} {m : MethodId} {args : Array Value} {below : List Frame} {meth : Method} {c : Code}
    {cc : ByteArray} {D : va_G} {aC : Nat → ClassId} {ad : Nat → Nat} {w : Wd} {own : String} {nL hh : Nat} {y0 : MethodName} {ml0 : Nat}
    {ft : Nat → Option (Nat × Nat)} {c32 : Nat → Option Int32} {c64 : Nat → Option Int64} {ce : Nat → Option (Nat × Option Nat × WP)} {sf : Nat → Option Bool} {ret : Option FieldType} {Q : Option Value → Sg → Prop} {tab : Tab} {lab : Nat → Option (List Nat)} {P : Nat → List Value → Sg → Prop}
    (hx : p.tables.exec = Jvm.exec) (hb : c.code = cc) (hml : c.maxLocals = nL) (hr : meth.sig.returnType = ret) (hlocks : meth.locks = false) (hown : s.vm.findClass own = some m.cls) (hts : ∀ x ∈ Cond.code y0 cc ml0 ret :: big, x.before args s = true) (hK : KK D aC ad (AW w ad) s s.heap) (hj : ∀ a b, a < wS w → b < wS w → ad a = ad b → a = b)
    (hft : ∀ x f, ft x = some f → ftOK own x f.1 f.2) (h32 : ∀ x v, c32 x = some v → Cond.constant own x v ∈ big) (h64 : ∀ x v, c64 x = some v → Cond.constantLong own x v ∈ big) (hce : ∀ x q, ce x = some q → ceOK l w own hh x q.1 q.2.1 q.2.2)
    (hsf : ∀ x b, sf x = some b → (bif b then Cond.fieldLink own x "FrameProver$StateSet" "ONES" "[J" else Cond.fieldLink own x "FrameProver$Machine" "INPUT_LANES" "[I") ∈ big)
    (htab : ∀ pc q, tab pc = some q → okI cc nL pc q.1 q.2 = true)
    (hP9 : ∀ (pc : Nat) (ids : List Nat) (vs : List Value) (τ : Sg) (H : Heap) (locs : List Loc) (ls : Array Slot), lab pc = some ids → P pc vs τ → lv_has ls nL (rel ad (zipL ids vs)) → Pic D aC w ad τ H → va_S (AW w ad) s.heap H locs → W p l e (rmh hh) s m args below meth c H locs 0 0 (MQ below (Qg w D aC ad Q) args s 0 0 (AW w ad)) (F0 m pc ls [])) :
    ∀ (f pc : Nat) (lv : VL) (st : List Value) (σ : Sg) (H : Heap) (locs : List Loc) (ls : Array Slot), lv_has ls nL (rel ad lv) → Pic D aC w ad σ H → va_S (AW w ad) s.heap H locs → sx w ft c32 c64 ce sf ret tab lab P Q f pc lv st σ →
      W p l e (rmh hh) s m args below meth c H locs 0 0 (MQ below (Qg w D aC ad Q) args s 0 0 (AW w ad)) (F0 m pc ls (st.map (vr ad))) := by
  intro f
  induction f with
  | zero => intro pc lv st σ H locs ls _ _ _ h; exact h.elim
  | succ f ih =>
    intro pc lv st σ H locs ls hl hP hS h
    unfold sx at h
    cases hlab : lab pc with
    | some ids =>
      rw [hlab] at h
      obtain ⟨h1, h2⟩ := onB_e h
      obtain ⟨vs, h3, h4⟩ := onS_e h2
      rw [List.isEmpty_iff.mp h1]
      exact hP9 pc ids vs σ H locs ls hlab h4 (pick_zip hl h3) hP hS
    | none =>
      rw [hlab] at h
      obtain ⟨q, h1, h2⟩ := onS_e h
      exact sxs_ok hx hb hml hr hlocks hown hts hK hj hft h32 h64 hce hsf ih (htab _ _ h1) hl hP hS h2
set_option maxHeartbeats 4000000 in
/-- a method's contract out of its executor -/
theorem sxm_ok (l : Launch) {w : Wd} {y : MethodName} {cc : ByteArray} {nL : Nat} {ret : Option FieldType} {hh : Nat} {T : List (Nat × Instr × Nat)} {wp : WP}
    {ft : Nat → Option (Nat × Nat)} {c32 : Nat → Option Int32} {c64 : Nat → Option Int64} {ce : Nat → Option (Nat × Option Nat × WP)} {sf : Nat → Option Bool} {lab : Nat → Option (List Nat)}
    (hy : plainName y.cls = true) (hft : ∀ x f, ft x = some f → ftOK y.cls x f.1 f.2) (h32 : ∀ x v, c32 x = some v → Cond.constant y.cls x v ∈ big) (h64 : ∀ x v, c64 x = some v → Cond.constantLong y.cls x v ∈ big) (hce : ∀ x q, ce x = some q → ceOK l w y.cls hh x q.1 q.2.1 q.2.2)
    (hsf : ∀ x b, sf x = some b → (bif b then Cond.fieldLink y.cls x "FrameProver$StateSet" "ONES" "[J" else Cond.fieldLink y.cls x "FrameProver$Machine" "INPUT_LANES" "[I") ∈ big)
    (htab : tabOK cc nL T = true) (f : Nat) (hw : ∀ (As : List Value) (σ : Sg) (Q : Option Value → Sg → Prop), wp As σ Q → (lg_sl As).length ≤ nL ∧ sxm w ft c32 c64 ce sf ret (lkp T) lab f As σ Q) :
    Con l w y cc nL ret hh wp := by
  intro D aC ad hj σ As Q
  refine Met.ofW (cc := cc) (maxL := nL) (ret := ret) hy rfl ?_
  intro p e s m args below meth c s₁ B hml hv
  obtain ⟨rfl, hK, hP, h0⟩ := hv
  obtain ⟨hlen, h⟩ := hw As σ Q h0
  have hts := atoms_spec (ws := Cond.code y cc nL ret :: big) B.pre
  have hown : s.vm.findClass y.cls = some m.cls := findClass_of_methodNamed B.named
  have htb : ∀ pc q, lkp T pc = some q → okI cc nL pc q.1 q.2 = true := fun pc q hq => List.all_eq_true.mp htab (pc, q) (lkp_mem hq)
  have hlg : (lg_sl (As.map (vr ad))).length = (lg_sl As).length := lg_len ad As
  have hl := lv_entry (As.map (vr ad)) (n := nL) (by rw [hlg]; exact hlen)
  rw [lg_entry_eq]
  generalize (lg_sl (As.map (vr ad)) ++ List.replicate (nL - (lg_sl (As.map (vr ad))).length) Slot.unset).toArray = ls at hl ⊢
  have hl : lv_has ls nL (rel ad (arg0 0 As)) := by rw [← lv_args_rel]; exact hl
  let P : Nat → List Value → Sg → Prop := fun pc vs τ => ∀ (ids : List Nat) (H : Heap) (locs : List Loc) (ls : Array Slot), lab pc = some ids → lv_has ls nL (rel ad (zipL ids vs)) → Pic D aC w ad τ H → va_S (AW w ad) s.heap H locs → W p l e (rmh hh) s m (As.map (vr ad)).toArray below meth c H locs 0 0 (MQ below (Qg w D aC ad Q) (As.map (vr ad)).toArray s 0 0 (AW w ad)) (F0 m pc ls [])
  have key := sx_ok (P := P) (lab := lab) (tab := lkp T) (Q := Q) B.exec B.bytes hml B.returns B.notSynchronized hown hts hK hj hft h32 h64 hce hsf htb (fun pc ids vs τ H locs ls h1 h2 h3 h4 h5 => h2 ids H locs ls h1 h3 h4 h5) f
  refine key 0 (arg0 0 As) [] σ s.heap [] ls hl hP va_S.rf (h P ?_)
  intro pc vs τ hb ids H locs ls h1 h3 h4 h5
  unfold sxb at hb
  rw [h1] at hb
  obtain ⟨ids2, h6, h7⟩ := onS_e hb
  cases h6
  obtain ⟨q, h6, h7⟩ := onS_e h7
  exact sxs_ok (st := []) B.exec B.bytes hml B.returns B.notSynchronized hown hts hK hj hft h32 h64 hce hsf key (htb _ _ h6) h3 h4 h5 h7
