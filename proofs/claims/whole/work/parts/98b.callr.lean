/-! CALLS with any room, any words, out of any surrounding -/
theorem va_Z.mono {C n d : String} {v : Value} {A B : Nat → Prop} {U : State} {H : Heap} (h : va_Z C n d v A U H) (hAB : ∀ q, B q → A q) : va_Z C n d v B U H := by
  obtain ⟨cf, kf, fi, f, a, cell, h1, h2, h3, h4, h5, h6, h7, h8⟩ := h
  exact ⟨cf, kf, fi, f, a, cell, h1, h2, h3, h4, h5, h6, h7, fun z => h8 (hAB _ z)⟩
theorem va_T.mono {ty : FieldType} {t N : Nat} {f : Nat → Value} {A B : Nat → Prop} {U : State} {H : Heap} (h : va_T ty t N f A U H) (hAB : ∀ q, B q → A q) : va_T ty t N f B U H := by
  obtain ⟨cell, h1, h2, h3, h4, h5, h6, h7⟩ := h
  exact ⟨cell, h1, h2, h3, h4, h5, h6, fun z => h7 (hAB _ z)⟩
theorem KK.mono {D : va_G} {aC : Nat → ClassId} {ad : Nat → Nat} {A B : Nat → Prop} {U : State} {H : Heap} (h : KK D aC ad A U H) (hAB : ∀ q, B q → A q) : KK D aC ad B U H := by
  obtain ⟨h1, h2, ⟨h3, h4⟩, h5, h6⟩ := h
  exact ⟨h1, h2, ⟨h3.mono hAB, h4.mono hAB⟩, h5.mono hAB, h6.mono hAB⟩
section CLR
variable {p : Program} {l : Launch} {e : Env} {R : Room} {s : State} {m : MethodId} {args : Array Value} {below : List Frame} {meth : Method} {c : Code} {H : Heap} {locs : List Loc} {cells slots : Nat} {QQ : State → Prop}
variable {cc : ByteArray} {pc : Nat} {ls : Array Slot} {D : va_G} {aC : Nat → ClassId} {ad : Nat → Nat} {w : Wd} {σ : Sg} {own : String} {H0 : Heap} {nL : Nat} {A0 : Nat → Prop} {Ts : List Cond}
theorem pw_callR {rest : List Value} {st0 : List Value} {a : Array Value} {Q' : Option Value → Sg → Prop} (hr : va_Run p l e R s m args below meth c H locs cells slots 0 0 (F0 m pc ls st0) rest (Qg w D aC ad Q' a) (AW w ad)) (hA : ∀ q, AW w ad q → A0 q) (hS : va_S A0 H0 H locs)
    (kk : ∀ (r : Option Value) (τ : Sg) (H1 : Heap) (locs1 : List Loc), Q' r τ → Pic D aC w ad τ H1 → (∀ q : Nat, q < H.size → ¬ AW w ad q → H1[q]? = H[q]?) → H.size ≤ H1.size → va_S A0 H0 H1 locs1 → W p l e R s m args below meth c H1 locs1 cells slots QQ (F0 m (pc + 3) ls ((r.map (vr ad)).toList ++ rest))) : W p l e R s m args below meth c H locs cells slots QQ (F0 m pc ls st0) := by
  intro T hT X
  obtain ⟨v, st₀, t, T', L, h0, X', hL, e1, e2, ⟨⟨r, τ, hv, hq, hb⟩, hz, hk⟩, st⟩ := hr T hT X
  cases hv
  rw [h0] at hz hk
  obtain ⟨t2, a1, b1⟩ := kk r τ T'.heap (locs ++ L) hq (by rw [e1]; exact hb) (fun q h1 h2 => by rw [e1]; exact hk q h1 h2) (by rw [e1]; exact hz)
    ⟨Nat.le_trans hS.1 (by rw [e1]; exact hz), fun q h1 h2 => by rw [e1, hk q (Nat.lt_of_lt_of_le h1 hS.1) (fun z => h2 (hA q z))]; exact hS.2.1 q h1 h2, fun q hq => by
      rcases List.mem_append.mp hq with h | h
      · exact hS.2.2 q h
      · exact hA _ (hL q h)⟩ T' rfl X'
  exact ⟨t2, st t2 a1, b1⟩
/-- a call of a method on an object of the world -/
theorem pw_invR (hx : p.tables.exec = Jvm.exec) (hb : c.code = cc) (hml : c.maxLocals = nL) (hown : s.vm.findClass own = some m.cls) (hts : ∀ x ∈ Ts, x.before args s = true) (hbig : ∀ x ∈ big, x ∈ Ts) (hK : KK D aC ad A0 s s.heap) (hA : ∀ q, AW w ad q → A0 q) (hj : ∀ a b, a < wS w → b < wS w → ad a = ad b → a = b) (hP : Pic D aC w ad σ H) (hS : va_S A0 s.heap H locs) {h : Nat} (hR : h ≤ R.frames ∧ 34 * h ≤ R.locals) (hsz : ls.size = nL) (hcs : cells ≤ R.cells ∧ slots ≤ R.slots)
    {idx n ci : Nat} {wp : WP} (hce : ceOK l w own h idx n (some ci) wp) (hci : ci < 11) {a : Nat} {As rest : List Value} (hka : isK w a ci = true) (hlen : As.length = n - 1) (hcat : (rest.map fun v => v.category).sum ≤ 8) {Q' : Option Value → Sg → Prop} (hw : wp (.ref a :: As) σ Q')
    (hdg : decode cc pc = .ok (.invokevirtual idx, 3)) {st : List Value} (hst : st = (As.map (vr ad)).reverse ++ .ref (ad a) :: rest)
    (kk : ∀ (r : Option Value) (τ : Sg) (H1 : Heap) (locs1 : List Loc), Q' r τ → Pic D aC w ad τ H1 → (∀ q : Nat, q < H.size → ¬ AW w ad q → H1[q]? = H[q]?) → H.size ≤ H1.size → va_S A0 s.heap H1 locs1 → W p l e R s m args below meth c H1 locs1 cells slots QQ (F0 m (pc + 3) ls ((r.map (vr ad)).toList ++ rest))) : W p l e R s m args below meth c H locs cells slots QQ (F0 m pc ls st) := by
  subst hst
  obtain ⟨y, yc, maxL, ret, hc, C, hh, hmx, hcode, hini, hk⟩ := ((hce.resolve_left (fun z => by have := z.1; simp only [Option.some.injEq] at this; omega)).resolve_left (fun z => by have := z.1; simp only [Option.some.injEq] at this; omega)).resolve_left (fun z => by have := z.1; simp only [Option.some.injEq] at this; omega)
  have hG := goodTs (Ts := Ts) hbig hcode
  have hM := C D aC ad hj σ (.ref a :: As) Q'
  have hbt : ∀ x ∈ big, x.before args s = true := fun x h => hts x (hbig x h)
  have hroom : (rmh hc).frames + 1 ≤ R.frames ∧ 8 + (maxL + 11) + (rmh hc).locals ≤ R.locals := by
    refine ⟨Nat.le_trans hh hR.1, ?_⟩
    show 8 + (maxL + 11) + 34 * hc ≤ R.locals
    have := hR.2
    omega
  have hcat2 : 2 * (F0 m pc ls ((As.map (vr ad)).reverse ++ .ref (ad a) :: rest)).monitorRoom + (rest.map fun v => v.category).sum ≤ 8 := lv_room hcat
  have hSA : va_S A0 s.heap H locs := hS
  have hpre : ∀ U : State, U.heap = H → s.WarmedH U.vm → va_Pc ((Value.ref a :: As).map (vr ad)) (fun U => KK D aC ad (AW w ad) U U.heap ∧ Pic D aC w ad σ U.heap ∧ wp (.ref a :: As) σ Q') ((Value.ref a :: As).map (vr ad)).toArray U := fun U hU hW => ⟨rfl, (hK.to hS hU hW).mono hA, by rw [hU]; exact hP, hw⟩
  obtain ⟨hl, hin, hse, ⟨T, N, hcl⟩, hci, hd⟩ := hk
  exact pw_callR (va_runV (As := As.map (vr ad)) (rest := rest) (C := y.cls) (b := ad a) ⟨hx, hb, hml, hown, hts⟩ hM ⟨callB_of (n - 1) hts hG rfl rfl rfl (hbt _ hini) (hbt _ hl) hd hroom, hbt _ hin, hbt _ hse⟩ ⟨blindC, hP.recv hK.1 hka hci hcl, hpre⟩ rfl (by simp [hlen]) hsz rfl hcat2 hdg ⟨by omega, by omega⟩) hA hS kk
end CLR
