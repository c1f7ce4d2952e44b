/-! BUILDING: constructors, their contracts -/
def iX : Sg := (fun a k => if (a = 1 ∧ k = 9) ∨ (a = 1171 ∧ (k = 3 ∨ k = 4)) then -1 else if a = 13 ∧ k = 10 then 1 else 0, fun _ _ => 0)
def iM : Sg := (fun a k => if a = 0 ∧ (k = 9 ∨ k = 31 ∨ k = 40 ∨ k = 41 ∨ k = 46) then -1 else 0, fun _ _ => 0)
def upZ (Z : Nat → Option Cell) (a : Nat) (c : Cell) : Nat → Option Cell := fun i => if i = a then some c else Z i
def nZ : Nat → Option Cell := fun _ => none
/-- under the constructor of the object o: cells up to n are there; ex: those that are not yet as they are to be -/
def BuT (D : va_G) (aC : Nat → ClassId) (w : Wd) (ad : Nat → Nat) (σ : Sg) (b o ci n : Nat) (dn ex : List Nat) (Z : Nat → Option Cell) (H0 H : Heap) (locs : List Loc) : Prop :=
  H.size = b + n ∧ PO D w ad σ ci o dn H ∧ (∀ i, o < i → i < n → inL ex i = false → wC D aC w ad σ i H) ∧ (∀ i c, Z i = some c → o < i ∧ i < n ∧ H[ad i]? = some c) ∧ va_S (AO b w o) H0 H locs
theorem wC_q {D : va_G} {aC : Nat → ClassId} {w : Wd} {ad : Nat → Nat} {σ : Sg} {i : Nat} {H H1 : Heap} (h : wC D aC w ad σ i H) (hH : H1[ad i]? = H[ad i]?) : wC D aC w ad σ i H1 := wC_kept h hH (fun _ => rfl) (fun _ => rfl)
def rmk (h mc ms : Nat) : Room := { frames := h, cells := mc, slots := ms, locals := 34 * h }
def Qk (D : va_G) (aC : Nat → ClassId) (w : Wd) (ad : Nat → Nat) (σ : Sg) (b o sz : Nat) : Array Value → State → Outcome → State → Prop := fun _ st oc t =>
  (oc = .returned none ∧ t.heap.size = b + (o + sz) ∧ ∀ i, o ≤ i → i < o + sz → wC D aC w ad σ i t.heap) ∧ va_F (AO b w o) st t
def Pk (D : va_G) (aC : Nat → ClassId) (w : Wd) (ad : Nat → Nat) (σ : Sg) (b o ci : Nat) (As : List Value) : Array Value → State → Prop :=
  va_Pc (.ref (ad o) :: As.map (vr ad)) (fun U => KC D aC ad (AW w ad) U U.heap ∧ U.heap.size = b + (o + 1) ∧ PO D w ad σ ci o [] U.heap)
/-- a constructor's contract -/
def Cst (l : Launch) (w : Wd) (σ : Sg) (y : MethodName) (cc : ByteArray) (maxL h o ci sz mc ms : Nat) (As : List Value) : Prop :=
  ∀ (D : va_G) (aC : Nat → ClassId) (ad : Nat → Nat) (b : Nat), (∀ i, i < wS w → ad i = b + i) → Met l y (Cond.code y cc maxL none :: big) (rmk h mc ms) (Pk D aC w ad σ b o ci As) (Qk D aC w ad σ b o sz) mc ms (AO b w o)
theorem Pk.blind {D : va_G} {aC : Nat → ClassId} {w : Wd} {ad : Nat → Nat} {σ : Sg} {b o ci : Nat} {As : List Value} : FrameBlind (Pk D aC w ad σ b o ci As) := by
  intro a U g mk ⟨h1, h2, h3, h4⟩
  exact ⟨h1, h2.blind g mk a, h3, h4⟩
section CTR
variable {p : Program} {l : Launch} {e : Env} {R : Room} {s : State} {m : MethodId} {args : Array Value} {below : List Frame} {meth : Method} {c : Code} {H : Heap} {locs : List Loc} {cells slots : Nat} {Q : State → Prop}
variable {cc : ByteArray} {pc nL : Nat} {ls : Array Slot} {rest : List Value} {D : va_G} {aC : Nat → ClassId} {ad : Nat → Nat} {w : Wd} {σ : Sg} {own : String} {H0 : Heap} {Ts : List Cond} {b o ci n : Nat} {dn ex : List Nat} {Z : Nat → Option Cell}
theorem goodTs (hbig : ∀ x ∈ big, x ∈ Ts) {y : MethodName} {yc : ByteArray} {ml : Nat} {rt : Option FieldType} (h : Cond.code y yc ml rt ∈ big) : GoodIn Ts (Cond.code y yc ml rt :: big) := by
  intro x hx
  have hb : x ∈ big := by
    rcases List.mem_cons.mp hx with e | e
    · rw [e]; exact h
    · exact e
  exact ⟨hbig x hb, good_of_word (List.mem_filter.mp hb).2⟩
/-- a constructor is called -/
theorem cs_run {A0 : Nat → Prop} {y : MethodName} {yc : ByteArray} {maxL hc cn sz mc ms idx : Nat} {As : List Value} (C : Cst l w σ y yc maxL hc n cn sz mc ms As) (had : ∀ i, i < wS w → ad i = b + i) (hx : p.tables.exec = Jvm.exec) (hb : c.code = cc) (hml : c.maxLocals = nL) (hown : s.vm.findClass own = some m.cls) (hts : ∀ x ∈ Ts, x.before args s = true) (hbig : ∀ x ∈ big, x ∈ Ts) (hK : KC D aC ad (AW w ad) s s.heap)
    (hcode : Cond.code y yc maxL none ∈ big) (hini : Cond.initialized y.cls ∈ Ts) (hinst : Cond.instanceMethod y ∈ Ts) (hlink : Cond.methodLink own idx y ∈ Ts ∨ Cond.methodLinkNest own idx y "FrameProver" ∈ nestW) (hname : y.name = "<init>") (hd : y.cls ≠ "java/lang/invoke/MethodHandle" ∧ y.cls ≠ "java/lang/invoke/VarHandle" ∧ (parseMethodDescriptor y.desc).map (fun d => d.parameters.length) = some As.length)
    (hroom : hc + 1 ≤ R.frames ∧ 8 + (maxL + 11) + 34 * hc ≤ R.locals) (hmc : cells + mc ≤ R.cells ∧ slots + ms ≤ R.slots) (hsz : ls.size = nL) (hcat : (rest.map fun v => v.category).sum ≤ 8)
    (hz : H.size = b + (n + 1)) (hPn : PO D w ad σ cn n [] H) (hSw : va_S (AW w ad) s.heap H locs) (hS : va_S A0 H0 H locs) (hA : ∀ q, AO b w n q → A0 q) (hdg : decode cc pc = .ok (.invokespecial idx, 3))
    (kk : ∀ (H1 : Heap) (locs1 : List Loc), H1.size = b + (n + sz) → (∀ i, n ≤ i → i < n + sz → wC D aC w ad σ i H1) → (∀ q : Nat, q < H.size → ¬ AO b w n q → H1[q]? = H[q]?) → va_S A0 H0 H1 locs1 → W p l e R s m args below meth c H1 locs1 (cells + mc) (slots + ms) Q (F0 m (pc + 3) ls rest)) : W p l e R s m args below meth c H locs cells slots Q (F0 m pc ls ((As.map (vr ad)).reverse ++ .ref (ad n) :: rest)) := by
  have hM := C D aC ad b had
  have hG := goodTs (Ts := Ts) hbig hcode
  have hR2 : (rmk hc mc ms).frames + 1 ≤ R.frames ∧ 8 + (maxL + 11) + (rmk hc mc ms).locals ≤ R.locals := hroom
  have hpre : PreS s H (Pk D aC w ad σ b n cn As) (.ref (ad n) :: As.map (vr ad)) := ⟨Pk.blind, fun U hU hW => ⟨rfl, hK.to hSw hU hW, by rw [hU]; exact hz, by rw [hU]; exact hPn⟩⟩
  have hr : va_Run p l e R s m args below meth c H locs cells slots mc ms (F0 m pc ls ((As.map (vr ad)).reverse ++ .ref (ad n) :: rest)) rest (Qk D aC w ad σ b n sz (Value.ref (ad n) :: As.map (vr ad)).toArray) (AO b w n) := by
    rcases hlink with hl | hl
    · exact va_runI (As := As.map (vr ad)) (rest := rest) ⟨hx, hb, hml, hown, hts⟩ hM (cwI As.length hts hG rfl rfl rfl (hts _ hini) (hts _ hl) (hts _ hinst) hname hd hR2) hpre rfl (by simp) hsz rfl (lv_room hcat) hdg hmc
    · exact va_runIN (As := As.map (vr ad)) (rest := rest) (host := "FrameProver") ⟨hx, hb, hml, hown, hts⟩ hM ⟨va_cnB As.length hts hG rfl rfl rfl (hK.1.2.1 _ hl) (hts _ hini) hd hR2, hname, hts _ hinst⟩ hpre rfl (by simp) hsz rfl (lv_room hcat) hdg hmc
  intro T hT X
  obtain ⟨v, st₀, t, T', L, h0, X', hL, e1, e2, ⟨⟨hv, hq1, hq2⟩, hz1, hk⟩, st⟩ := hr T hT X
  cases hv
  rw [h0] at hz1 hk
  obtain ⟨t2, a1, b1⟩ := kk T'.heap (locs ++ L) (by rw [e1]; exact hq1) (by rw [e1]; exact hq2) (fun q h1 h2 => by rw [e1]; exact hk q h1 h2)
    ⟨Nat.le_trans hS.1 (by rw [e1]; exact hz1), fun q h1 h2 => by rw [e1, hk q (Nat.lt_of_lt_of_le h1 hS.1) (fun z => h2 (hA q z))]; exact hS.2.1 q h1 h2, fun q hq => by
      rcases List.mem_append.mp hq with h | h
      · exact hS.2.2 q h
      · exact hA _ (hL q h)⟩ T' rfl X'
  exact ⟨t2, st t2 a1, b1⟩
theorem inL_cons (a : Nat) (r : List Nat) (k : Nat) : inL (a :: r) k = (Nat.beq a k || inL r k) := rfl
theorem inL_ne {a k : Nat} {r : List Nat} (h : a ≠ k) : inL (a :: r) k = inL r k := by
  rw [inL_cons]
  have : Nat.beq a k = false := by
    cases hh : Nat.beq a k
    · rfl
    · exact absurd (Nat.eq_of_beq_eq_true hh) h
  rw [this]; rfl
theorem ct_put (had : ∀ i, i < wS w → ad i = b + i) (ho : o < wS w) (hx : p.tables.exec = Jvm.exec) (hb : c.code = cc) (hts : ∀ x ∈ Ts, x.before args s = true) (hbig : ∀ x ∈ big, x ∈ Ts) (hown : s.vm.findClass own = some m.cls) (hK : va_K D vwCl (tysA aC) s) (hin2 : meth.name = "<init>") {idx k : Nat} {v : Value} (hn : n ≤ wS w) (hT : BuT D aC w ad σ b o ci n dn ex Z H0 H locs) (hf : ftOK own idx ci k) (hC0 : ∃ T N, vwCl[ci]? = some (own, T, N)) (hv : vr ad (cV w σ (fty ci k) o k) = v) (hnr : narrow (fty ci k) v = v) (hfit : fits (fty ci k) v = true) (hdg : decode cc pc = .ok (.putfield idx, 3))
    (kk : ∀ (H1 : Heap) (locs1 : List Loc), BuT D aC w ad σ b o ci n (k :: dn) ex Z H0 H1 locs1 → W p l e R s m args below meth c H1 locs1 cells slots Q (F0 m (pc + 3) ls rest)) : W p l e R s m args below meth c H locs cells slots Q (F0 m pc ls (v :: .ref (ad o) :: rest)) := by
  obtain ⟨t1, t2, t3, t4, t5⟩ := hT
  refine pb_put hx hb hts hbig hown hK hin2 t5 t2 hf hC0 ⟨o, Nat.le_refl _, ho, had o ho⟩ hv hnr hfit hdg fun H1 locs1 z1 o1 hP hS => kk H1 locs1 ⟨by omega, hP, fun i h1 h2 h3 => wC_q (t3 i h1 h2 h3) (o1 _ ?_), fun i c hc => ?_, hS⟩
  · rw [had i (by omega), had o ho]; omega
  · obtain ⟨a1, a2, a3⟩ := t4 i c hc
    exact ⟨a1, a2, by rw [o1 _ (by rw [had i (by omega), had o ho]; omega)]; exact a3⟩
theorem ct_get (hx : p.tables.exec = Jvm.exec) (hb : c.code = cc) (hts : ∀ x ∈ Ts, x.before args s = true) (hbig : ∀ x ∈ big, x ∈ Ts) (hown : s.vm.findClass own = some m.cls) (hK : va_K D vwCl (tysA aC) s) {idx k : Nat} {v : Value} (hT : BuT D aC w ad σ b o ci n dn ex Z H0 H locs) (hf : ftOK own idx ci k) (hk : inL dn k = true) (hv : vr ad (cV w σ (fty ci k) o k) = v) (hdg : decode cc pc = .ok (.getfield idx, 3))
    (kk : W p l e R s m args below meth c H locs cells slots Q (F0 m (pc + 3) ls (v :: rest))) : W p l e R s m args below meth c H locs cells slots Q (F0 m pc ls (.ref (ad o) :: rest)) := by
  refine pb_get hx hb hts hbig hown hK hT.2.1 hf hk hdg ?_
  rw [hv]; exact kk
/-- all but what is below ad n stays -/
theorem BuT.grow {H1 : Heap} (had : ∀ i, i < wS w → ad i = b + i) (ho : o < wS w) (hn : n < wS w) (hon : o < n) (hT : BuT D aC w ad σ b o ci n dn ex Z H0 H locs) (z1 : H1.size = ad n + 1) (o1 : ∀ q : Nat, q < ad n → H1[q]? = H[q]?) (hS : va_S (AO b w o) H0 H1 locs) : BuT D aC w ad σ b o ci (n + 1) dn (n :: ex) Z H0 H1 locs := by
  obtain ⟨t1, t2, t3, t4, t5⟩ := hT
  refine ⟨by rw [z1, had n hn]; omega, t2.kept (o1 _ (by rw [had n hn, had o ho]; omega)), fun i h1 h2 h3 => ?_, fun i c hc => ?_, hS⟩
  · by_cases e : i = n
    · subst e; rw [inL_cons] at h3; simp at h3
    · rw [inL_ne (fun z => e z.symm)] at h3
      exact wC_q (t3 i h1 (by omega) h3) (o1 _ (by rw [had n hn, had i (by omega)]; omega))
  · obtain ⟨a1, a2, a3⟩ := t4 i c hc
    exact ⟨a1, by omega, by rw [o1 _ (by rw [had n hn, had i (by omega)]; omega)]; exact a3⟩
theorem BuT.did (hT : BuT D aC w ad σ b o ci n dn ex Z H0 H locs) {i : Nat} {ex' : List Nat} (he : ex = i :: ex') (hw : wC D aC w ad σ i H) : BuT D aC w ad σ b o ci n dn ex' Z H0 H locs := by
  obtain ⟨t1, t2, t3, t4, t5⟩ := hT
  subst he
  refine ⟨t1, t2, fun j h1 h2 h3 => ?_, t4, t5⟩
  by_cases e : i = j
  · rw [← e]; exact hw
  · exact t3 j h1 h2 (by rw [inL_ne e]; exact h3)
theorem ct_newa (had : ∀ i, i < wS w → ad i = b + i) (ho : o < wS w) (hx : p.tables.exec = Jvm.exec) (hb : c.code = cc) (hts : ∀ x ∈ Ts, x.before args s = true) {kd : Nat} {atype : ArrayType} {ty : FieldType} (hty : newarray.typeOf atype = ty) (harr : (Cond.arrayClass ty) ∈ Ts) (hnm : s.vm.findClass ("[" ++ ty.toString) = some (aC kd)) {L : Nat} (hL : L < 2147483648) (hbytes : L * componentBytes ty ≤ 536870912)
    (hn : n < wS w) (hon : o < n) (hkd : wK w n = kd) (hk2 : 20 ≤ kd) (hk3 : kd ≤ 24) (hwN : wN w n = L) (hval : ∀ j, vr ad (aV w σ kd n j) = defaultValue ty) (hcells : cells + 1 ≤ R.cells) (hslots : slots + L ≤ R.slots) (hT : BuT D aC w ad σ b o ci n dn ex Z H0 H locs) (hdg : decode cc pc = .ok (.newarray atype, 2))
    (kk : ∀ H1 : Heap, BuT D aC w ad σ b o ci (n + 1) dn ex Z H0 H1 locs → W p l e R s m args below meth c H1 locs (cells + 1) (slots + L) Q (F0 m (pc + 2) ls (.ref (ad n) :: rest))) : W p l e R s m args below meth c H locs cells slots Q (F0 m pc ls (.int (nI L) :: rest)) := by
  refine pb_newa (n := n) hx hb hts hty harr hnm hL hbytes (by rw [had n hn]; exact hT.1) hcells hslots hT.2.2.2.2 hdg fun H1 z1 o1 e1 hS => kk H1 ((hT.grow had ho hn hon z1 o1 hS).did rfl ⟨fun h => by omega, fun _ _ => ?_⟩)
  rw [hkd, hwN, e1]
  congr 2
  funext j
  exact (hval j).symm
theorem ct_newq (had : ∀ i, i < wS w → ad i = b + i) (ho : o < wS w) (hx : p.tables.exec = Jvm.exec) (hb : c.code = cc) (hts : ∀ x ∈ Ts, x.before args s = true) (hown : s.vm.findClass own = some m.cls) {C : String} {idx : Nat} (hcl : (Cond.classLink own idx C) ∈ Ts) (hover : va_AO C s) {cA : ClassId} (hnm : s.vm.findClass ("[" ++ (FieldType.object C).toString) = some cA) {L : Nat} (hL : L < 2147483648) (hbytes : L * 4 ≤ 536870912)
    (hn : n < wS w) (hon : o < n) (hcells : cells + 1 ≤ R.cells) (hslots : slots + L ≤ R.slots) (hT : BuT D aC w ad σ b o ci n dn ex Z H0 H locs) (hdg : decode cc pc = .ok (.anewarray idx, 3))
    (kk : ∀ H1 : Heap, BuT D aC w ad σ b o ci (n + 1) dn (n :: ex) (upZ Z n (arrV cA L (fun _ => .null))) H0 H1 locs → W p l e R s m args below meth c H1 locs (cells + 1) (slots + L) Q (F0 m (pc + 3) ls (.ref (ad n) :: rest))) : W p l e R s m args below meth c H locs cells slots Q (F0 m pc ls (.int (nI L) :: rest)) := by
  refine pb_newq (n := n) hx hb hts hown hcl hover hnm hL hbytes (by rw [had n hn]; exact hT.1) hcells hslots hT.2.2.2.2 hdg fun H1 z1 o1 e1 hS => kk H1 ?_
  obtain ⟨t1, t2, t3, t4, t5⟩ := hT.grow had ho hn hon z1 o1 hS
  refine ⟨t1, t2, t3, fun i c hc => ?_, t5⟩
  unfold upZ at hc
  by_cases e : i = n
  · rw [if_pos e] at hc; cases hc; rw [e]; exact ⟨hon, by omega, e1⟩
  · rw [if_neg e] at hc; exact t4 i c hc
theorem ct_new (had : ∀ i, i < wS w → ad i = b + i) (ho : o < wS w) (hx : p.tables.exec = Jvm.exec) (hb : c.code = cc) (hts : ∀ x ∈ Ts, x.before args s = true) (hbig : ∀ x ∈ big, x ∈ Ts) (hown : s.vm.findClass own = some m.cls) (hK : va_K D vwCl (tysA aC) s) {C : String} {T : u_T} {N idx cn : Nat} (hc : vwCl[cn]? = some (C, T, N)) (hty : ∀ j, j < N → parseFieldDescriptor (T j).2.2.1 = some (fty cn j)) (hin : ∀ x ∈ u_ws C T N, x ∈ big) (hcl : (Cond.classLink own idx C) ∈ Ts) (hinst : (Cond.instantiable C N) ∈ Ts) (hini : (Cond.initialized C) ∈ Ts)
    (hn : n < wS w) (hon : o < n) (hcells : cells + 1 ≤ R.cells) (hslots : slots + N ≤ R.slots) (hT : BuT D aC w ad σ b o ci n dn ex Z H0 H locs) (hdg : decode cc pc = .ok (.new idx, 3))
    (kk : ∀ H1 : Heap, BuT D aC w ad σ b o ci (n + 1) dn (n :: ex) Z H0 H1 locs → PO D w ad σ cn n [] H1 → W p l e R s m args below meth c H1 locs (cells + 1) (slots + N) Q (F0 m (pc + 3) ls (.ref (ad n) :: rest))) : W p l e R s m args below meth c H locs cells slots Q (F0 m pc ls rest) := by
  exact pb_new (n := n) hx hb hts hbig hown hK hc hty hin hcl hinst hini (by rw [had n hn]; exact hT.1) hcells hslots hT.2.2.2.2 hdg fun H1 z1 o1 hP hS => kk H1 (hT.grow had ho hn hon z1 o1 hS) hP
theorem ct_call {y : MethodName} {yc : ByteArray} {maxL hc cn sz mc ms idx : Nat} {As : List Value} (C : Cst l w σ y yc maxL hc n cn sz mc ms As) (had : ∀ i, i < wS w → ad i = b + i) (ho : o < wS w) (hx : p.tables.exec = Jvm.exec) (hb : c.code = cc) (hml : c.maxLocals = nL) (hown : s.vm.findClass own = some m.cls) (hts : ∀ x ∈ Ts, x.before args s = true) (hbig : ∀ x ∈ big, x ∈ Ts) (hK : KC D aC ad (AW w ad) s s.heap)
    (hcode : Cond.code y yc maxL none ∈ big) (hini : Cond.initialized y.cls ∈ Ts) (hinst : Cond.instanceMethod y ∈ Ts) (hlink : Cond.methodLink own idx y ∈ Ts ∨ Cond.methodLinkNest own idx y "FrameProver" ∈ nestW) (hname : y.name = "<init>") (hd : y.cls ≠ "java/lang/invoke/MethodHandle" ∧ y.cls ≠ "java/lang/invoke/VarHandle" ∧ (parseMethodDescriptor y.desc).map (fun d => d.parameters.length) = some As.length)
    (hroom : hc + 1 ≤ R.frames ∧ 8 + (maxL + 11) + 34 * hc ≤ R.locals) (hmc : cells + mc ≤ R.cells ∧ slots + ms ≤ R.slots) (hsz : ls.size = nL) (hcat : (rest.map fun v => v.category).sum ≤ 8)
    (hn : n + sz ≤ wS w) (hsz1 : 1 ≤ sz) (hon : o < n) (hT : BuT D aC w ad σ b o ci (n + 1) dn (n :: ex) Z s.heap H locs) (hPn : PO D w ad σ cn n [] H) (hZ : Z n = none) (hdg : decode cc pc = .ok (.invokespecial idx, 3)) {st : List Value} (hst : st = (As.map (vr ad)).reverse ++ .ref (ad n) :: rest)
    (kk : ∀ (H1 : Heap) (locs1 : List Loc), BuT D aC w ad σ b o ci (n + sz) dn ex Z s.heap H1 locs1 → W p l e R s m args below meth c H1 locs1 (cells + mc) (slots + ms) Q (F0 m (pc + 3) ls rest)) : W p l e R s m args below meth c H locs cells slots Q (F0 m pc ls st) := by
  subst hst
  obtain ⟨t1, t2, t3, t4, t5⟩ := hT
  refine cs_run C had hx hb hml hown hts hbig hK hcode hini hinst hlink hname hd hroom hmc hsz hcat t1 hPn (t5.mono (fun q h => h.AW had)) t5 (fun q h => ?_) hdg fun H1 locs1 z1 w1 o1 hS => kk H1 locs1 ⟨z1, t2.kept (o1 _ ?_ ?_), fun i h1 h2 h3 => ?_, fun i c hc => ?_, hS⟩
  · obtain ⟨i, h1, h2, h3⟩ := h
    exact ⟨i, by omega, h2, h3⟩
  · rw [had o ho, t1]; omega
  · rintro ⟨i, h1, h2, h3⟩
    rw [had o ho] at h3; omega
  · by_cases q : n ≤ i
    · exact w1 i q h2
    · refine wC_q (t3 i h1 (by omega) (by rw [inL_ne (by omega)]; exact h3)) (o1 _ ?_ ?_)
      · rw [had i (by omega), t1]; omega
      · rintro ⟨j, h4, h5, h6⟩
        rw [had i (by omega)] at h6; omega
  · obtain ⟨a1, a2, a3⟩ := t4 i c hc
    have hne : i ≠ n := fun z => by rw [z, hZ] at hc; cases hc
    refine ⟨a1, by omega, ?_⟩
    rw [o1 _ (by rw [had i (by omega), t1]; omega) (by
      rintro ⟨j, h4, h5, h6⟩
      rw [had i (by omega)] at h6; omega)]
    exact a3
theorem ct_ast (had : ∀ i, i < wS w → ad i = b + i) (ho : o < wS w) (hx : p.tables.exec = Jvm.exec) (hb : c.code = cc) (hK : va_K D vwCl (tysA aC) s) (t0 : Nat) {cA : ClassId} {C : String} {cn a v N j : Nat} {f : Nat → Value} (ht : (tysA aC)[t0]? = some (cA, .object C)) (hc : ∃ T n, vwCl[cn]? = some (C, T, n)) (hn : n ≤ wS w) (hT : BuT D aC w ad σ b o ci n dn ex Z H0 H locs) (hZ : Z a = some (arrV cA N f)) (hv1 : wK w v = cn) (hv2 : cn < 11) (hv3 : o < v) (hv4 : v < n) (hv5 : inL ex v = false) (hea : inL ex a = true) (hj : j < N) (hN : N < 2147483648) (hdg : decode cc pc = .ok (.aastore, 1))
    (kk : ∀ (H1 : Heap) (locs1 : List Loc), BuT D aC w ad σ b o ci n dn ex (upZ Z a (arrV cA N (updV f j (.ref (ad v))))) H0 H1 locs1 → W p l e R s m args below meth c H1 locs1 cells slots Q (F0 m (pc + 1) ls rest)) : W p l e R s m args below meth c H locs cells slots Q (F0 m pc ls (.ref (ad v) :: .int (nI j) :: .ref (ad a) :: rest)) := by
  obtain ⟨t1, t2, t3, t4, t5⟩ := hT
  obtain ⟨a1, a2, a3⟩ := t4 a _ hZ
  have hw := (t3 v hv3 hv4 hv5).1 (by rw [hv1]; exact hv2)
  rw [hv1] at hw
  obtain ⟨r, r1, cv, r2, r3, r4, -⟩ := hw
  refine pb_ast (dn := []) hx hb hK t0 ht hc a3 ⟨cv, r2, r3, r4⟩ hj hN t5 ⟨a, by omega, by omega, had a (by omega)⟩ hdg fun H1 locs1 z1 o1 e1 hS => kk H1 locs1 ⟨by omega, t2.kept (o1 _ (by rw [had o ho, had a (by omega)]; omega)), fun i h1 h2 h3 => ?_, fun i c hc => ?_, hS⟩
  · have hne : i ≠ a := fun z => by rw [z, hea] at h3; cases h3
    exact wC_q (t3 i h1 h2 h3) (o1 _ (by rw [had i (by omega), had a (by omega)]; omega))
  · unfold upZ at hc
    by_cases e : i = a
    · rw [if_pos e] at hc; cases hc; rw [e]; exact ⟨a1, a2, e1⟩
    · rw [if_neg e] at hc
      obtain ⟨b1, b2, b3⟩ := t4 i c hc
      exact ⟨b1, b2, by rw [o1 _ (by rw [had i (by omega), had a (by omega)]; omega)]; exact b3⟩
/-- an array of references is full -/
theorem BuT.full (hT : BuT D aC w ad σ b o ci n dn ex Z H0 H locs) {a N kd : Nat} {f : Nat → Value} {ex' : List Nat} (he : ex = a :: ex') (hZ : Z a = some (arrV (aC kd) N f)) (hkd : wK w a = kd) (hk2 : 23 ≤ kd) (hk3 : kd ≤ 24) (hwN : wN w a = N) (hf : ∀ j, j < N → f j = .ref (ad (wR w a j))) : BuT D aC w ad σ b o ci n dn ex' Z H0 H locs := by
  refine hT.did he ⟨fun h => by omega, fun _ _ => ?_⟩
  rw [(hT.2.2.2.1 a _ hZ).2.2, hkd, hwN]
  have : kd = 23 ∨ kd = 24 := by omega
  congr 1
  unfold arrV
  congr 2
  funext j
  rw [hf j j.isLt]
  rcases this with rfl | rfl <;> rfl
/-- the end -/
theorem ct_ret (had : ∀ i, i < wS w → ad i = b + i) (hx : p.tables.exec = Jvm.exec) (hb : c.code = cc) (hr : meth.sig.returnType = none) (hlocks : meth.locks = false) {sz mc ms : Nat} (hT : BuT D aC w ad σ b o ci (o + sz) dn [] Z s.heap H locs) (hk : wK w o = ci) (hci : ci < 11) (hfin : ∀ k r, vwCl[ci]? = some r → k < r.2.2 → inL dn k = true ∨ ((fty ci k = .int ∨ fty ci k = .boolean) ∧ gI σ o k = 0)) (hc : cells = mc) (hs : slots = ms) (hdg : decode cc pc = .ok (.return_, 1)) : W p l e R s m args below meth c H locs cells slots (MQ below (Qk D aC w ad σ b o sz) args s mc ms (AO b w o)) (F0 m pc ls []) := by
  subst hc
  subst hs
  obtain ⟨t1, t2, t3, t4, t5⟩ := hT
  refine W.vret hx hb hr (fun t ht hW => ⟨⟨rfl, by rw [ht]; exact t1, fun i h1 h2 => ?_⟩, t5.F ht⟩) t5.2.2 hdg hlocks
  rw [ht]
  by_cases e : i = o
  · subst e
    refine ⟨fun _ => ?_, fun h => by omega⟩
    rw [hk]
    obtain ⟨r, r1, r2⟩ := t2
    refine ⟨r, r1, r2.to (fun k hkN => ?_)⟩
    unfold pV
    rcases hfin k r r1 hkN with h | ⟨h, h0⟩
    · rw [h]; rfl
    · cases hd : inL dn k
      · rcases h with h | h <;> rw [h] <;> simp [cV, h0, vr, defaultValue]
      · rfl
  · exact t3 i (by omega) h2 rfl
end CTR
/-- a constructor's contract out of the walk of its body -/
theorem cs_of (l : Launch) {w : Wd} {σ : Sg} {y : MethodName} {cc : ByteArray} {nL h o ci sz mc ms : Nat} {As : List Value} (hy : plainName y.cls = true) (hlen : (lg_sl As).length + 1 ≤ nL) (hname : y.name = "<init>")
    (body : ∀ (D : va_G) (aC : Nat → ClassId) (ad : Nat → Nat) (b : Nat), (∀ i, i < wS w → ad i = b + i) → ∀ (p : Program) (e : Env) (s : State) (m : MethodId) (args : Array Value) (below : List Frame) (meth : Method) (c : Code) (ls : Array Slot), p.tables.exec = Jvm.exec → c.code = cc → c.maxLocals = nL → meth.sig.returnType = none → meth.locks = false → s.vm.findClass y.cls = some m.cls → (∀ x ∈ Cond.code y cc nL none :: big, x.before args s = true) → meth.name = "<init>" → KC D aC ad (AW w ad) s s.heap → BuT D aC w ad σ b o ci (o + 1) [] [] nZ s.heap s.heap [] → lv_has ls nL ((0, .ref (ad o)) :: rel ad (arg0 1 As)) →
      W p l e (rmk h mc ms) s m args below meth c s.heap [] 0 0 (MQ below (Qk D aC w ad σ b o sz) args s mc ms (AO b w o)) (F0 m 0 ls [])) : Cst l w σ y cc nL h o ci sz mc ms As := by
  intro D aC ad b had
  refine Met.ofW (cc := cc) (maxL := nL) (ret := none) hy rfl ?_
  intro p e s m args below meth c s₁ B hml hv
  obtain ⟨rfl, hK, hz, hP⟩ := hv
  have hts := atoms_spec (ws := Cond.code y cc nL none :: big) B.pre
  have hown : s.vm.findClass y.cls = some m.cls := findClass_of_methodNamed B.named
  have hin : meth.name = "<init>" := ((name_of_methodNamed B.named B.method).1).trans hname
  have e1 : (.ref (ad o) :: As.map (vr ad) : List Value) = (Value.ref o :: As).map (vr ad) := rfl
  have hlg : (lg_sl ((Value.ref o :: As).map (vr ad))).length = (lg_sl (Value.ref o :: As)).length := lg_len ad _
  have hl2 : (lg_sl (Value.ref o :: As)).length = (lg_sl As).length + 1 := rfl
  rw [e1]
  have hl := lv_entry ((Value.ref o :: As).map (vr ad)) (n := nL) (by rw [hlg, hl2]; exact hlen)
  rw [lg_entry_eq]
  generalize (lg_sl ((Value.ref o :: As).map (vr ad)) ++ List.replicate (nL - (lg_sl ((Value.ref o :: As).map (vr ad))).length) Slot.unset).toArray = ls at hl ⊢
  refine body D aC ad b had p e s m _ below meth c ls B.exec B.bytes hml B.returns B.notSynchronized hown hts hin hK ⟨hz, hP, fun i h1 h2 => by omega, fun i c hc => (by cases hc), va_S.rf⟩ ?_
  rw [lv_args_rel] at hl
  exact hl
