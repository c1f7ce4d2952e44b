/-! BUILDING the worlds: cells come one behind another, in the order of their ids -/
def inL : List Nat → Nat → Bool
  | [], _ => false
  | a :: r, k => Nat.beq a k || inL r k
def pV (w : Wd) (ad : Nat → Nat) (σ : Sg) (ci i : Nat) (dn : List Nat) (k : Nat) : Value := bif inL dn k then vr ad (cV w σ (fty ci k) i k) else defaultValue (fty ci k)
/-- an object that is being made: the fields of dn hold what they are to hold, the others nothing yet -/
def PO (D : va_G) (w : Wd) (ad : Nat → Nat) (σ : Sg) (ci i : Nat) (dn : List Nat) (H : Heap) : Prop := ∃ r : vw_C, vwCl[ci]? = some r ∧ t_OB (ad i) (D.1 ci) r.2.2 (D.2 ci) H (pV w ad σ ci i dn)
theorem PO.kept {D : va_G} {w : Wd} {ad : Nat → Nat} {σ : Sg} {ci i : Nat} {dn : List Nat} {H H1 : Heap} (h : PO D w ad σ ci i dn H) (hq : H1[ad i]? = H[ad i]?) : PO D w ad σ ci i dn H1 := by
  obtain ⟨r, h1, h2⟩ := h
  exact ⟨r, h1, h2.kept hq⟩
theorem PO.lt {D : va_G} {w : Wd} {ad : Nat → Nat} {σ : Sg} {ci i : Nat} {dn : List Nat} {H : Heap} (h : PO D w ad σ ci i dn H) : ad i < H.size := by
  obtain ⟨r, h1, cell, h2, -⟩ := h
  exact (Array.getElem?_eq_some_iff.mp h2).1
def AO (b : Nat) (w : Wd) (o : Nat) : Nat → Prop := fun q => ∃ i, o ≤ i ∧ i < wS w ∧ q = b + i
theorem AO.AW {b : Nat} {w : Wd} {o : Nat} {ad : Nat → Nat} (had : ∀ i, i < wS w → ad i = b + i) {q : Nat} (h : AO b w o q) : AW w ad q := by
  obtain ⟨i, -, h2, h3⟩ := h
  exact ⟨i, h2, by rw [had i h2]; exact h3⟩
theorem va_S.mono {A B : Nat → Prop} {H0 H : Heap} {locs : List Loc} (h : va_S A H0 H locs) (hAB : ∀ q, A q → B q) : va_S B H0 H locs := ⟨h.1, fun q h1 h2 => h.2.1 q h1 (fun z => h2 (hAB q z)), fun l hl => hAB _ (h.2.2 l hl)⟩
theorem va_S.push {A : Nat → Prop} {H0 H H1 : Heap} {locs : List Loc} (h : va_S A H0 H locs) (hz : H.size ≤ H1.size) (ho : ∀ q, q < H.size → H1[q]? = H[q]?) : va_S A H0 H1 locs := ⟨Nat.le_trans h.1 hz, fun q h1 h2 => by rw [ho q (Nat.lt_of_lt_of_le h1 h.1)]; exact h.2.1 q h1 h2, h.2.2⟩
def KC (D : va_G) (aC : Nat → ClassId) (ad : Nat → Nat) (A : Nat → Prop) (U : State) (H : Heap) : Prop := KK D aC ad A U H ∧ va_AO "FrameProver$StateSet" U ∧ va_AO "FrameProver$Clauses" U
theorem KC.to {D : va_G} {aC : Nat → ClassId} {ad : Nat → Nat} {A : Nat → Prop} {s U : State} {H : Heap} {locs : List Loc} (h : KC D aC ad A s s.heap) (hS : va_S A s.heap H locs) (hU : U.heap = H) (hW : s.WarmedH U.vm) : KC D aC ad A U U.heap := ⟨h.1.to hS hU hW, h.2.1.moved hW.alike, h.2.2.moved hW.alike⟩
theorem KC.blind {D : va_G} {aC : Nat → ClassId} {ad : Nat → Nat} {A : Nat → Prop} {U : State} (g : JFrame) (mk : MethodId) (a : Array Value) (h : KC D aC ad A U U.heap) : KC D aC ad A (U.calling g mk a) (U.calling g mk a).heap := ⟨h.1.blind g mk a, va_AO.moved (u := U) (U := U.calling g mk a) (Vm.Alike.refl U.vm) h.2.1, va_AO.moved (u := U) (U := U.calling g mk a) (Vm.Alike.refl U.vm) h.2.2⟩
section BLD
variable {p : Program} {l : Launch} {e : Env} {R : Room} {s : State} {m : MethodId} {args : Array Value} {below : List Frame} {meth : Method} {c : Code} {H : Heap} {locs : List Loc} {cells slots : Nat} {Q : State → Prop}
variable {cc : ByteArray} {pc : Nat} {ls : Array Slot} {rest : List Value} {D : va_G} {aC : Nat → ClassId} {ad : Nat → Nat} {w : Wd} {σ : Sg} {own : String} {A : Nat → Prop} {H0 : Heap} {Ts : List Cond}
theorem pb_get (hx : p.tables.exec = Jvm.exec) (hb : c.code = cc) (hts : ∀ x ∈ Ts, x.before args s = true) (hbig : ∀ x ∈ big, x ∈ Ts) (hown : s.vm.findClass own = some m.cls) (hK : va_K D vwCl (tysA aC) s) {idx ci k i : Nat} {dn : List Nat} (hP : PO D w ad σ ci i dn H) (hf : ftOK own idx ci k) (hk : inL dn k = true) (hdg : decode cc pc = .ok (.getfield idx, 3))
    (kk : W p l e R s m args below meth c H locs cells slots Q (F0 m (pc + 3) ls (vr ad (cV w σ (fty ci k) i k) :: rest))) : W p l e R s m args below meth c H locs cells slots Q (F0 m pc ls (.ref (ad i) :: rest)) := by
  obtain ⟨C, T, N, hc, hci, hkN, hlink, hC, hty, hnm, hin, -⟩ := hf
  obtain ⟨r, h1, cell, q1, q2, q3, q4⟩ := hP
  have hr : r = (C, T, N) := Option.some.inj (h1.symm.trans hc)
  subst hr
  obtain ⟨hS, hfc, kC, hkC, hkind⟩ := hK.1 _ _ hc
  obtain ⟨cf, kf, fi, f, hfi, hsl⟩ := hS k hkN
  have hfi' : s.fieldFound? C (T k).2.1 (T k).2.2.1 = some (cf, kf, fi, f) := by rw [← hfi, hC]
  have hbt : ∀ x ∈ big, x.before args s = true := fun x h => hts x (hbig x h)
  refine W.getf hx hb hown (hbt _ hlink) hfi' (u_facts hfc hkC (u_lays hbt hin hkN) hfi).1 q1 (by rw [q3]; exact fun h => by cases h) (v := vr ad (cV w σ (fty ci k) i k)) ?_ rfl rfl hdg kk
  rw [hsl, q4 k hkN]
  unfold pV
  rw [hk]
  rfl
theorem pb_put (hx : p.tables.exec = Jvm.exec) (hb : c.code = cc) (hts : ∀ x ∈ Ts, x.before args s = true) (hbig : ∀ x ∈ big, x ∈ Ts) (hown : s.vm.findClass own = some m.cls) (hK : va_K D vwCl (tysA aC) s) (hin2 : meth.name = "<init>") {idx ci k i : Nat} {dn : List Nat} {v : Value} (hS0 : va_S A H0 H locs) (hP : PO D w ad σ ci i dn H) (hf : ftOK own idx ci k) (hC0 : ∃ T N, vwCl[ci]? = some (own, T, N)) (hA : A (ad i)) (hv : vr ad (cV w σ (fty ci k) i k) = v) (hn : narrow (fty ci k) v = v) (hfit : fits (fty ci k) v = true) (hdg : decode cc pc = .ok (.putfield idx, 3))
    (kk : ∀ (H1 : Heap) (locs1 : List Loc), H1.size = H.size → (∀ q : Nat, q ≠ ad i → H1[q]? = H[q]?) → PO D w ad σ ci i (k :: dn) H1 → va_S A H0 H1 locs1 → W p l e R s m args below meth c H1 locs1 cells slots Q (F0 m (pc + 3) ls rest)) : W p l e R s m args below meth c H locs cells slots Q (F0 m pc ls (v :: .ref (ad i) :: rest)) := by
  obtain ⟨C, T, N, hc, hci, hkN, hlink, hC, hty, hnm, hin, hfe⟩ := hf
  obtain ⟨T', N', hc'⟩ := hC0
  have he := Option.some.inj (hc.symm.trans hc')
  have e1 : C = own := congrArg Prod.fst he
  subst e1
  have hbt : ∀ x ∈ big, x.before args s = true := fun x h => hts x (hbig x h)
  have hap := va_apart (own := C) (args := args) (tys := tysA aC) (D := D) (Ts := big) hbt hin (fty ci) hty hnm hK hc
  obtain ⟨r, h1, cell, q1, q2, q3, q4⟩ := hP
  have hr : r = (C, T, N) := Option.some.inj (h1.symm.trans hc)
  subst hr
  obtain ⟨hS, hfc, kC, hkC, hkind⟩ := hK.1 _ _ hc
  obtain ⟨cf, kf, fi, f, hfi, hsl⟩ := hS k hkN
  have hfi' : s.fieldFound? C (T k).2.1 (T k).2.2.1 = some (cf, kf, fi, f) := by rw [← hfi, hC]
  have hlay := hbt _ (hin _ (u_in_lay hkN))
  unfold u_lay at hlay
  have hst := (u_facts hfc hkC (u_lays hbt hin hkN) hfi).1
  have hset : ∀ j, j < N → updV (pV w ad σ ci i dn) k v j = pV w ad σ ci i (k :: dn) j := fun j _ => by
    unfold updV pV
    by_cases e : j = k
    · subst e
      have : inL (j :: dn) j = true := by simp [inL]
      rw [if_pos rfl, this, ← hv]; rfl
    · have : inL (k :: dn) j = inL dn j := by
        show (Nat.beq k j || inL dn j) = _
        have : Nat.beq k j = false := by
          cases hh : Nat.beq k j
          · rfl
          · exact absurd (Nat.eq_of_beq_eq_true hh).symm e
        rw [this]; rfl
      rw [if_neg e, this]
  have fin : ∀ H' : Heap, H'[ad i]? = some (cell.setSlot f.slot v) → H'.size = H.size → (∀ q : Nat, q ≠ ad i → H'[q]? = H[q]?) → W p l e R s m args below meth c H' (locs ++ [⟨ad i, f.slot⟩]) cells slots Q (F0 m (pc + 3) ls rest) := fun H' g1 g2 g3 => by
    rw [hsl] at g1 ⊢
    exact kk H' _ g2 g3 ⟨_, hc, t_OB.to (V := updV (pV w ad σ ci i dn) k v) ⟨_, g1, q2, q3, t_set q4 hap hkN v⟩ hset⟩ (hS0.put g2 g3 hA)
  cases hfl : ffin ci k
  · rw [if_neg (by rw [hfe, hfl]; decide)] at hlay
    have h6 := u_store hfc hkC hkind hlay hfi (hty k hkN) hn hfit
    exact W.putK hx hb (f := f) ⟨hown, hbt _ hlink, ⟨_, _, _, hfi'⟩, hst⟩ (by rw [q2]; exact h6) q1 q3 (by rw [hsl]; exact k2_hasslot (q4 k hkN)) rfl rfl hdg fin
  · rw [if_pos (by rw [hfe, hfl])] at hlay
    have hcf : m.cls = cf := by
      obtain ⟨_, _, c', _, _, _, -, -, hf', -, -, -, hown2, -⟩ := Cond.laysFinal_spec hlay
      have e1 : c' = cf := by have := hfi.symm.trans hf'; simp at this; exact this.1.symm
      rw [hC] at hown2
      rw [← e1]; exact Option.some.inj (hown.symm.trans hown2)
    have h6 := u_fits hfc hkC hkind (Or.inr hlay) hfi (hty k hkN) hn hfit
    exact W.putFinK hx hb hown (hbt _ hlink) hfi' hst hcf hin2 (by rw [q2]; exact h6) q1 q3 (by rw [hsl]; exact k2_hasslot (q4 k hkN)) rfl rfl hdg fin
theorem pb_new (hx : p.tables.exec = Jvm.exec) (hb : c.code = cc) (hts : ∀ x ∈ Ts, x.before args s = true) (hbig : ∀ x ∈ big, x ∈ Ts) (hown : s.vm.findClass own = some m.cls) (hK : va_K D vwCl (tysA aC) s) {C : String} {T : u_T} {N idx ci n : Nat} (hc : vwCl[ci]? = some (C, T, N)) (hty : ∀ j, j < N → parseFieldDescriptor (T j).2.2.1 = some (fty ci j)) (hin : ∀ x ∈ u_ws C T N, x ∈ big) (hcl : (Cond.classLink own idx C) ∈ Ts) (hinst : (Cond.instantiable C N) ∈ Ts) (hini : (Cond.initialized C) ∈ Ts)
    (hz : H.size = ad n) (hcells : cells + 1 ≤ R.cells) (hslots : slots + N ≤ R.slots) (hS : va_S A H0 H locs) (hdg : decode cc pc = .ok (.new idx, 3))
    (kk : ∀ H1 : Heap, H1.size = ad n + 1 → (∀ q : Nat, q < ad n → H1[q]? = H[q]?) → PO D w ad σ ci n [] H1 → va_S A H0 H1 locs → W p l e R s m args below meth c H1 locs (cells + 1) (slots + N) Q (F0 m (pc + 3) ls (.ref (ad n) :: rest))) : W p l e R s m args below meth c H locs cells slots Q (F0 m pc ls rest) := by
  have hKn := hK.1 ci _ hc
  have hbt : ∀ x ∈ big, x.before args s = true := fun x h => hts x (hbig x h)
  refine W.newcK hx hb hown (hts _ hcl) (hts _ hinst) (hts _ hini) rfl hdg hcells hslots hKn.2.1 hz fun H1 kC hkC e1 z1 o1 => ?_
  refine kk H1 z1 o1 ⟨_, hc, (u_born (fty ci) hbt hin hKn hkC e1 hty).to (fun j _ => rfl)⟩ (hS.push (by omega) (fun q hq => o1 q (by omega)))
theorem pb_newa (hx : p.tables.exec = Jvm.exec) (hb : c.code = cc) (hts : ∀ x ∈ Ts, x.before args s = true) {atype : ArrayType} {ty : FieldType} (hty : newarray.typeOf atype = ty) (harr : (Cond.arrayClass ty) ∈ Ts) {cA : ClassId} (hnm : s.vm.findClass ("[" ++ ty.toString) = some cA) {L n : Nat} (hL : L < 2147483648) (hbytes : L * componentBytes ty ≤ 536870912)
    (hz : H.size = ad n) (hcells : cells + 1 ≤ R.cells) (hslots : slots + L ≤ R.slots) (hS : va_S A H0 H locs) (hdg : decode cc pc = .ok (.newarray atype, 2))
    (kk : ∀ H1 : Heap, H1.size = ad n + 1 → (∀ q : Nat, q < ad n → H1[q]? = H[q]?) → H1[ad n]? = some (arrV cA L (fun _ => defaultValue ty)) → va_S A H0 H1 locs → W p l e R s m args below meth c H1 locs (cells + 1) (slots + L) Q (F0 m (pc + 2) ls (.ref (ad n) :: rest))) : W p l e R s m args below meth c H locs cells slots Q (F0 m pc ls (.int (nI L) :: rest)) := by
  subst hty
  refine va_newaK hx hb (hts _ harr) rfl hdg rfl (nI_pos hL) (nI_clamp hL) hbytes hcells hslots hz fun H1 cA' e1 z1 o1 hAr hNm => ?_
  have e : cA' = cA := Option.some.inj (hNm.symm.trans hnm)
  subst e
  exact kk H1 z1 o1 e1 (hS.push (by omega) (fun q hq => o1 q (by omega)))
theorem pb_newq (hx : p.tables.exec = Jvm.exec) (hb : c.code = cc) (hts : ∀ x ∈ Ts, x.before args s = true) (hown : s.vm.findClass own = some m.cls) {C : String} {idx : Nat} (hcl : (Cond.classLink own idx C) ∈ Ts) (hover : va_AO C s) {cA : ClassId} (hnm : s.vm.findClass ("[" ++ (FieldType.object C).toString) = some cA) {L n : Nat} (hL : L < 2147483648) (hbytes : L * 4 ≤ 536870912)
    (hz : H.size = ad n) (hcells : cells + 1 ≤ R.cells) (hslots : slots + L ≤ R.slots) (hS : va_S A H0 H locs) (hdg : decode cc pc = .ok (.anewarray idx, 3))
    (kk : ∀ H1 : Heap, H1.size = ad n + 1 → (∀ q : Nat, q < ad n → H1[q]? = H[q]?) → H1[ad n]? = some (arrV cA L (fun _ => .null)) → va_S A H0 H1 locs → W p l e R s m args below meth c H1 locs (cells + 1) (slots + L) Q (F0 m (pc + 3) ls (.ref (ad n) :: rest))) : W p l e R s m args below meth c H locs cells slots Q (F0 m pc ls (.int (nI L) :: rest)) := by
  refine W.anew hx hb hown (hts _ hcl) (va_AO.use hover) rfl hdg rfl (nI_pos hL) (by rw [nI_clamp hL]; exact hbytes) hcells (by rw [nI_clamp hL]; exact hslots) fun cA' kA comp f1 f2 f3 f4 => ?_
  have e : cA' = cA := Option.some.inj (f1.symm.trans hnm)
  subst e
  rw [nI_clamp hL]
  generalize hH1 : H.push ({ cls := cA', slots := Array.replicate L .null, vm := .none } : Cell) = H1
  have z1 : H1.size = H.size + 1 := by rw [← hH1, Array.size_push]
  have e1 : H1[H.size]? = some (arrV cA' L (fun _ => .null)) := by rw [← hH1, Array.getElem?_push_size, ← arrV_new]
  have o1 : ∀ q : Nat, q < H.size → H1[q]? = H[q]? := fun q hq => by rw [← hH1, Array.getElem?_push, if_neg (Nat.ne_of_lt hq)]
  rw [hz] at z1 e1
  have kk := kk H1 z1 (fun q hq => o1 q (by omega)) e1 (hS.push (by omega) (fun q hq => o1 q hq))
  rw [← hz] at kk
  exact kk
theorem pb_ast (hx : p.tables.exec = Jvm.exec) (hb : c.code = cc) (hK : va_K D vwCl (tysA aC) s) (t0 : Nat) {cA : ClassId} {C : String} {ci a v N j : Nat} {dn : List Nat} {f : Nat → Value} (ht : (tysA aC)[t0]? = some (cA, .object C)) (hc : ∃ T n, vwCl[ci]? = some (C, T, n)) (ha : H[ad a]? = some (arrV cA N f)) (hv : ∃ cv : Cell, H[ad v]? = some cv ∧ cv.cls = D.1 ci ∧ cv.vm = .none) (hj : j < N) (hN : N < 2147483648) (hS : va_S A H0 H locs) (hA : A (ad a)) (hdg : decode cc pc = .ok (.aastore, 1))
    (kk : ∀ (H1 : Heap) (locs1 : List Loc), H1.size = H.size → (∀ q : Nat, q ≠ ad a → H1[q]? = H[q]?) → H1[ad a]? = some (arrV cA N (updV f j (.ref (ad v)))) → va_S A H0 H1 locs1 → W p l e R s m args below meth c H1 locs1 cells slots Q (F0 m (pc + 1) ls rest)) : W p l e R s m args below meth c H locs cells slots Q (F0 m pc ls (.ref (ad v) :: .int (nI j) :: .ref (ad a) :: rest)) := by
  obtain ⟨T, n, hc⟩ := hc
  obtain ⟨cellV, g1, g2, g3⟩ := hv
  have hcls := (hK.1 ci _ hc).2
  obtain ⟨kA, comp, k1, k2, k3, -⟩ := (hK.2 t0 _ ht).2
  have hcomp : comp = D.1 ci := Option.some.inj (k3.symm.trans hcls.1)
  subst hcomp
  obtain ⟨kC, hkC, -⟩ := hcls.2
  have hcl := nI_clamp (show j < 2147483648 by omega)
  refine W.aast hx hb ha (fun q h => by cases h) (fun h => by cases h) k1 k2 rfl hkC ⟨nI_pos (by omega), by rw [arrV_size, hcl]; exact hj⟩ g1 (fun q h => by rw [g3] at h; cases h) (by rw [g2]; exact hkC) (by rw [g2]; exact va_assign hcls) rfl rfl hdg fun H1 e z oq => ?_
  rw [hcl, arrV_store] at e
  exact kk H1 _ z oq e (hS.put z oq hA)
end BLD
