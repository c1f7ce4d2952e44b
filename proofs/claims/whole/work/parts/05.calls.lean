/-! SOUNDNESS of the executor over the machine -/
def rel (ad : Nat → Nat) (lv : VL) : VL := lv.map (fun q => (q.1, vr ad q.2))
theorem lk_mem : ∀ {lv : VL} {k : Nat} {v : Value}, lk lv k = some v → (k, v) ∈ lv
  | [], _, _, h => by cases h
  | (i, u) :: r, k, v, h => by
    unfold lk at h
    cases hb : Nat.beq i k <;> rw [hb] at h
    · exact List.mem_cons_of_mem _ (lk_mem h)
    · rw [← Nat.eq_of_beq_eq_true hb, ← Option.some.inj h]
      exact List.mem_cons_self
theorem rel_mem {ad : Nat → Nat} {lv : VL} {k : Nat} {v : Value} (h : (k, v) ∈ lv) : (k, vr ad v) ∈ rel ad lv := List.mem_map.mpr ⟨(k, v), h, rfl⟩
theorem lk_has {ad : Nat → Nat} {ls : Array Slot} {nL : Nat} {lv : VL} {k : Nat} {v : Value} (hl : lv_has ls nL (rel ad lv)) (h : lk lv k = some v) : ls[k]? = some (.val (vr ad v)) := hl.2.2 _ (rel_mem (lk_mem h))
theorem cat1_cat (ad : Nat → Nat) (v : Value) : ((vr ad v).category == 2) = !cat1 v := by cases v <;> rfl
theorem beq_nat (a b : Nat) : (a == b) = Nat.beq a b := by rw [Bool.eq_iff_iff, Nat.beq_eq, beq_iff_eq]
theorem dl_cons (j i : Nat) (v : Value) (r : VL) : dl ((j, v) :: r) i = bif Nat.beq j i || (Nat.beq (j + 1) i && !cat1 v) then dl r i else (j, v) :: dl r i := rfl
theorem dl2_cons (j i : Nat) (v : Value) (r : VL) : dl2 ((j, v) :: r) i = bif Nat.beq j i || (Nat.beq j (i + 1) || (Nat.beq (j + 1) i && !cat1 v)) then dl2 r i else (j, v) :: dl2 r i := rfl
theorem dl_eq (ad : Nat → Nat) (i : Nat) : ∀ lv : VL, (rel ad lv).filter (fun q => !(q.1 == i) && !(q.1 + 1 == i && q.2.category == 2)) = rel ad (dl lv i)
  | [] => rfl
  | (j, v) :: r => by
    have ih := dl_eq ad i r
    show List.filter _ ((j, vr ad v) :: rel ad r) = _
    rw [List.filter_cons, ih, dl_cons]
    simp only [cat1_cat]
    simp only [beq_nat]
    cases Nat.beq j i <;> cases Nat.beq (j + 1) i <;> cases cat1 v <;> rfl
theorem dl2_eq (ad : Nat → Nat) (i : Nat) : ∀ lv : VL, (rel ad lv).filter (fun q => !(q.1 == i) && (!(q.1 == i + 1) && !(q.1 + 1 == i && q.2.category == 2))) = rel ad (dl2 lv i)
  | [] => rfl
  | (j, v) :: r => by
    have ih := dl2_eq ad i r
    show List.filter _ ((j, vr ad v) :: rel ad r) = _
    rw [List.filter_cons, ih, dl2_cons]
    simp only [cat1_cat]
    simp only [beq_nat]
    cases Nat.beq j i <;> cases Nat.beq j (i + 1) <;> cases Nat.beq (j + 1) i <;> cases cat1 v <;> rfl
theorem pick_zip {ad : Nat → Nat} {ls : Array Slot} {nL : Nat} {lv : VL} (hl : lv_has ls nL (rel ad lv)) : ∀ {ids : List Nat} {vs : List Value}, pickL lv ids = some vs → lv_has ls nL (rel ad (zipL ids vs))
  | [], vs, h => by
    unfold pickL at h
    cases h
    exact ⟨hl.1, hl.2.1, fun q hq => by cases hq⟩
  | i :: r, vs, h => by
    unfold pickL at h
    split at h
    · rename_i v us h1 h2
      cases h
      have ih := pick_zip hl h2
      refine ⟨hl.1, hl.2.1, fun q hq => ?_⟩
      rcases List.mem_cons.mp hq with e | e
      · rw [e]; exact lk_has hl h1
      · exact ih.2.2 q e
    · cases h
theorem popA_e : ∀ {n : Nat} {acc st : List Value} {z : List Value × List Value}, popA n acc st = some z → ∃ pre, pre.length = n ∧ st = pre ++ z.2 ∧ z.1 = pre.reverse ++ acc
  | 0, acc, st, z, h => by
    unfold popA at h
    cases h
    exact ⟨[], rfl, rfl, rfl⟩
  | n + 1, acc, [], z, h => by cases h
  | n + 1, acc, v :: st, z, h => by
    unfold popA at h
    obtain ⟨pre, h1, h2, h3⟩ := popA_e h
    exact ⟨v :: pre, by simp [h1], by simp [h2], by simp [h3]⟩
theorem catS_eq (ad : Nat → Nat) : ∀ r : List Value, ((r.map (vr ad)).map fun v => v.category).sum = catS r
  | [] => rfl
  | v :: r => by
    have ih := catS_eq ad r
    simp only [List.map_cons, List.sum_cons, ih, catS]
    cases v <;> rfl
def rmh (h : Nat) : Room := { frames := h, cells := 0, slots := 0, locals := 34 * h }
def Qg (w : Wd) (D : va_G) (aC : Nat → ClassId) (ad : Nat → Nat) (Q : Option Value → Sg → Prop) : Array Value → State → Outcome → State → Prop := fun _ st oc t =>
  (∃ (r : Option Value) (τ : Sg), oc = .returned (r.map (vr ad)) ∧ Q r τ ∧ Pic D aC w ad τ t.heap) ∧ va_F (AW w ad) st t
/-- a method's contract -/
def Con (l : Launch) (w : Wd) (y : MethodName) (cc : ByteArray) (maxL : Nat) (ret : Option FieldType) (h : Nat) (wp : WP) : Prop :=
  ∀ (D : va_G) (aC : Nat → ClassId) (ad : Nat → Nat), (∀ a b, a < wS w → b < wS w → ad a = ad b → a = b) → ∀ (σ : Sg) (As : List Value) (Q : Option Value → Sg → Prop),
    Met l y (Cond.code y cc maxL ret :: big) (rmh h) (va_Pc (As.map (vr ad)) (fun U => KK D aC ad (AW w ad) U U.heap ∧ Pic D aC w ad σ U.heap ∧ wp As σ Q)) (Qg w D aC ad Q) 0 0 (AW w ad)
theorem Con.mono {l : Launch} {w : Wd} {y : MethodName} {cc : ByteArray} {maxL : Nat} {ret : Option FieldType} {h : Nat} {wp wp' : WP} (C : Con l w y cc maxL ret h wp) (hw : ∀ As σ Q, wp' As σ Q → wp As σ Q) : Con l w y cc maxL ret h wp' := by
  intro D aC ad hj σ As Q
  intro p e ha hc hk s m args below hf happ hP hKK
  exact C D aC ad hj σ As Q p e ha hc hk s m args below hf happ ⟨hP.1, hP.2.1, hP.2.2.1, hw _ _ _ hP.2.2.2⟩ hKK
/-- what a pool entry of a method says -/
def ceOK (l : Launch) (w : Wd) (own : String) (h idx n : Nat) (oc : Option Nat) (wp : WP) : Prop :=
  (oc = some 99 ∧ 2 ≤ h ∧ Cond.methodLink own idx arraycopyName ∈ big ∧ Cond.native arraycopyName ∈ big ∧ Cond.static arraycopyName ∈ big ∧ Cond.initialized "java/lang/System" ∈ big) ∨
  (oc = some 98 ∧ 1 ≤ h ∧ Cond.methodLink own idx Lib.Math.max.name ∈ big ∧ Cond.static Lib.Math.max.name ∈ big ∧ Cond.initialized "java/lang/Math" ∈ big ∧ Cond.code Lib.Math.max.name Lib.Math.max.code 2 (some .int) ∈ big) ∨
  (oc = some 97 ∧ 1 ≤ h ∧ Cond.methodLink own idx Lib.Math.min.name ∈ big ∧ Cond.static Lib.Math.min.name ∈ big ∧ Cond.initialized "java/lang/Math" ∈ big ∧ Cond.code Lib.Math.min.name Lib.Math.min.code 2 (some .int) ∈ big) ∨
  ∃ (y : MethodName) (cc : ByteArray) (maxL : Nat) (ret : Option FieldType) (hc : Nat), Con l w y cc maxL ret hc wp ∧ hc + 1 ≤ h ∧ maxL ≤ 15 ∧ Cond.code y cc maxL ret ∈ big ∧ Cond.initialized y.cls ∈ big ∧
  match oc with
  | some ci => Cond.methodLink own idx y ∈ big ∧ Cond.instanceMethod y ∈ big ∧ Cond.selects y.cls y y ∈ big ∧ (∃ T N, vwCl[ci]? = some (y.cls, T, N)) ∧ ci < 11 ∧ (y.cls ≠ "java/lang/invoke/MethodHandle" ∧ y.cls ≠ "java/lang/invoke/VarHandle" ∧ (parseMethodDescriptor y.desc).map (fun d => d.parameters.length) = some (n - 1))
  | none => (Cond.methodLink own idx y ∈ big ∨ Cond.methodLinkNest own idx y "FrameProver" ∈ nestW) ∧ Cond.static y ∈ big ∧ (y.cls ≠ "java/lang/invoke/MethodHandle" ∧ y.cls ≠ "java/lang/invoke/VarHandle" ∧ (parseMethodDescriptor y.desc).map (fun d => d.parameters.length) = some n)
theorem blindC {w : Wd} {D : va_G} {aC : Nat → ClassId} {ad : Nat → Nat} {σ : Sg} {av : List Value} {X : Prop} : FrameBlind (va_Pc av (fun U => KK D aC ad (AW w ad) U U.heap ∧ Pic D aC w ad σ U.heap ∧ X)) := by
  intro a U g mk ⟨h1, h2, h3, h4⟩
  exact ⟨h1, h2.blind g mk a, h3, h4⟩
section SND
variable {p : Program} {l : Launch} {e : Env} {R : Room} {s : State} {m : MethodId} {args : Array Value} {below : List Frame} {meth : Method} {c : Code} {H : Heap} {locs : List Loc} {cells slots : Nat} {QQ : State → Prop}
variable {cc : ByteArray} {pc : Nat} {ls : Array Slot} {D : va_G} {aC : Nat → ClassId} {ad : Nat → Nat} {w : Wd} {σ : Sg} {own : String} {H0 : Heap} {nL : Nat}
/-- behind a call -/
theorem pw_call {mc ms : Nat} {rest : List Value} {st0 : List Value} {a : Array Value} {Q' : Option Value → Sg → Prop} (hr : va_Run p l e R s m args below meth c H locs cells slots 0 0 (F0 m pc ls st0) rest (Qg w D aC ad Q' a) (AW w ad)) (hS : va_S (AW w ad) H0 H locs)
    (kk : ∀ (r : Option Value) (τ : Sg) (H1 : Heap) (locs1 : List Loc), Q' r τ → Pic D aC w ad τ H1 → va_S (AW w ad) H0 H1 locs1 → W p l e R s m args below meth c H1 locs1 cells slots QQ (F0 m (pc + 3) ls ((r.map (vr ad)).toList ++ rest))) : W p l e R s m args below meth c H locs cells slots QQ (F0 m pc ls st0) := by
  intro T hT X
  obtain ⟨v, st₀, t, T', L, h0, X', hL, e1, e2, ⟨⟨r, τ, hv, hq, hb⟩, hz, hk⟩, st⟩ := hr T hT X
  cases hv
  rw [h0] at hz hk
  obtain ⟨t2, a1, b1⟩ := kk r τ T'.heap (locs ++ L) hq (by rw [e1]; exact hb)
    ⟨Nat.le_trans hS.1 (by rw [e1]; exact hz), fun q h1 h2 => by rw [e1, hk q (Nat.lt_of_lt_of_le h1 hS.1) h2]; exact hS.2.1 q h1 h2, fun q hq => by
      rcases List.mem_append.mp hq with h | h
      · exact hS.2.2 q h
      · exact hL q h⟩ T' rfl X'
  exact ⟨t2, st t2 a1, b1⟩
theorem Pic.recv (hK : va_K D vwCl (tysA aC) s) (hP : Pic D aC w ad σ H) {a ci : Nat} (hk : isK w a ci = true) (hci : ci < 11) {C : String} {T : u_T} {N : Nat} (hc : vwCl[ci]? = some (C, T, N)) : ∃ cell : Cell, H[ad a]? = some cell ∧ cell.vm.isStatics = false ∧ s.vm.findClass C = some cell.cls := by
  have h0 := isK_1 hk
  obtain ⟨r, h1, cell, q1, q2, q3, -⟩ := (hP a (isK_2 hk)).1 (by rw [h0]; exact hci)
  rw [h0] at h1 q2
  exact ⟨cell, q1, by rw [q3]; rfl, by rw [q2]; exact (hK.1 ci _ hc).2.1⟩
/-- a call, whichever -/
theorem pw_inv {y0 : MethodName} {ml0 : Nat} {ret0 : Option FieldType} {h : Nat} (hx : p.tables.exec = Jvm.exec) (hb : c.code = cc) (hml : c.maxLocals = nL) (hown : s.vm.findClass own = some m.cls) (hts : ∀ x ∈ Cond.code y0 cc ml0 ret0 :: big, x.before args s = true) (hK : KK D aC ad (AW w ad) s s.heap) (hj : ∀ a b, a < wS w → b < wS w → ad a = ad b → a = b) (hP : Pic D aC w ad σ H) (hS : va_S (AW w ad) s.heap H locs) (hR : R = rmh h) (hsz : ls.size = nL) (hcs : cells = 0 ∧ slots = 0)
    {idx n : Nat} {oc : Option Nat} {wp : WP} (hce : ceOK l w own h idx n oc wp) (hoc : oc ≠ some 99 ∧ oc ≠ some 98 ∧ oc ≠ some 97) {As rest : List Value} (hlen : As.length = n) (hcat : catS rest ≤ 8) {Q' : Option Value → Sg → Prop} (hw : wp As σ Q')
    (hdg : match oc with
      | some ci => decode cc pc = .ok (.invokevirtual idx, 3) ∧ ∃ a As', As = .ref a :: As' ∧ isK w a ci = true
      | none => decode cc pc = .ok (.invokestatic idx, 3))
    (kk : ∀ (r : Option Value) (τ : Sg) (H1 : Heap) (locs1 : List Loc), Q' r τ → Pic D aC w ad τ H1 → va_S (AW w ad) s.heap H1 locs1 → W p l e R s m args below meth c H1 locs1 cells slots QQ (F0 m (pc + 3) ls ((r.map (vr ad)).toList ++ rest.map (vr ad)))) : W p l e R s m args below meth c H locs cells slots QQ (F0 m pc ls ((As.map (vr ad)).reverse ++ rest.map (vr ad))) := by
  obtain ⟨y, yc, maxL, ret, hc, C, hh, hmx, hcode, hini, hk⟩ := ((hce.resolve_left (fun z => hoc.1 z.1)).resolve_left (fun z => hoc.2.1 z.1)).resolve_left (fun z => hoc.2.2 z.1)
  obtain ⟨rfl, rfl⟩ := hcs
  subst hR
  have hG := big_good (y := y0) (cc := cc) (maxL := ml0) (ret := ret0) hcode
  have hM := C D aC ad hj σ As Q'
  have hbt : ∀ x ∈ big, x.before args s = true := fun x h => hts x (List.mem_cons_of_mem _ h)
  have hroom : (rmh hc).frames + 1 ≤ (rmh h).frames ∧ 8 + (maxL + 11) + (rmh hc).locals ≤ (rmh h).locals := by
    refine ⟨hh, ?_⟩
    show 8 + (maxL + 11) + 34 * hc ≤ 34 * h
    omega
  have hcat2 : 2 * (F0 m pc ls ((As.map (vr ad)).reverse ++ rest.map (vr ad))).monitorRoom + ((rest.map (vr ad)).map fun v => v.category).sum ≤ 8 := lv_room (by rw [catS_eq]; exact hcat)
  have hpre : ∀ U : State, U.heap = H → s.WarmedH U.vm → va_Pc (As.map (vr ad)) (fun U => KK D aC ad (AW w ad) U U.heap ∧ Pic D aC w ad σ U.heap ∧ wp As σ Q') (As.map (vr ad)).toArray U := fun U hU hW => ⟨rfl, hK.to hS hU hW, by rw [hU]; exact hP, hw⟩
  cases oc with
  | none =>
    obtain ⟨hl, hst, hd⟩ := hk
    rcases hl with hl | hl
    · exact pw_call (mc := 0) (ms := 0) (va_runS (As := As.map (vr ad)) (rest := rest.map (vr ad)) ⟨hx, hb, hml, hown, hts⟩ hM ⟨callB_of n hts hG rfl rfl rfl (hbt _ hini) (hbt _ hl) hd hroom, hbt _ hst⟩ ⟨blindC, hpre⟩ rfl (by simp [hlen]) hsz rfl hcat2 hdg ⟨Nat.zero_le _, Nat.zero_le _⟩) hS kk
    · exact pw_call (mc := 0) (ms := 0) (va_runSN (As := As.map (vr ad)) (rest := rest.map (vr ad)) (host := "FrameProver") ⟨hx, hb, hml, hown, hts⟩ hM ⟨va_cnB n hts hG rfl rfl rfl (hK.2.1 _ hl) (hbt _ hini) hd hroom, hbt _ hst, trivial⟩ ⟨blindC, hpre⟩ rfl (by simp [hlen]) hsz rfl hcat2 hdg ⟨Nat.zero_le _, Nat.zero_le _⟩) hS kk
  | some ci =>
    obtain ⟨hl, hin, hse, ⟨T, N, hcl⟩, hci, hd⟩ := hk
    obtain ⟨hdec, a, As', rfl, hka⟩ := hdg
    have hn1 : As'.length = n - 1 := by rw [← hlen]; simp
    have hstk : ((Value.ref a :: As').map (vr ad)).reverse ++ rest.map (vr ad) = (As'.map (vr ad)).reverse ++ .ref (ad a) :: rest.map (vr ad) := by simp [vr]
    rw [hstk] at hcat2 ⊢
    exact pw_call (mc := 0) (ms := 0) (va_runV (As := As'.map (vr ad)) (rest := rest.map (vr ad)) (C := y.cls) (b := ad a) ⟨hx, hb, hml, hown, hts⟩ hM ⟨callB_of (n - 1) hts hG rfl rfl rfl (hbt _ hini) (hbt _ hl) hd hroom, hbt _ hin, hbt _ hse⟩ ⟨blindC, hP.recv hK.1 hka hci hcl, hpre⟩ rfl (by simp [hn1]) hsz rfl hcat2 hdec ⟨Nat.zero_le _, Nat.zero_le _⟩) hS kk
end SND
