/-! THE LAW FROM ITS ENTRY -/
theorem lw_big : ∀ x ∈ big, x ∈ lw_tbl := fun x h => (List.mem_filter.mp h).1
theorem lw_known {s : State} {args : Array Value} (hts : ∀ x ∈ lw_tbl, x.before args s = true) : ∃ D : va_G, ∀ (c : Nat) (q : vw_C), vwCl[c]? = some q → u_Kn s q.1 q.2.1 q.2.2 (D.1 c) (D.2 c) := by
  have hbt : ∀ x ∈ big, x.before args s = true := fun x h => hts x (lw_big x h)
  have hall : ∀ (c : Nat) (q : vw_C), vwCl[c]? = some q → ∃ (cC : ClassId) (iS : Nat → Nat), u_Kn s q.1 q.2.1 q.2.2 cC iS := by
    intro c q hq
    have hc : c < 11 := (List.getElem?_eq_some_iff.mp hq).1
    rcases (show c = 0 ∨ c = 1 ∨ c = 2 ∨ c = 3 ∨ c = 4 ∨ c = 5 ∨ c = 6 ∨ c = 7 ∨ c = 8 ∨ c = 9 ∨ c = 10 by omega) with rfl | rfl | rfl | rfl | rfl | rfl | rfl | rfl | rfl | rfl | rfl
    · have e : q = (RX0, TX0, 4) := Option.some.inj (hq.symm.trans (show vwCl[0]? = some (RX0, TX0, 4) from rfl))
      subst e
      exact u_known (C := RX0) (T := TX0) (N := 4) (n := 4) hbt lay0 (hts (.instantiable RX0 4) (List.mem_of_getElem? (i := 228) (by decide +kernel)))
    · have e : q = (RX1, TX1, 6) := Option.some.inj (hq.symm.trans (show vwCl[1]? = some (RX1, TX1, 6) from rfl))
      subst e
      exact u_known (C := RX1) (T := TX1) (N := 6) (n := 6) hbt lay1 (hts (.instantiable RX1 6) (List.mem_of_getElem? (i := 221) (by decide +kernel)))
    · have e : q = (RX2, TX2, 5) := Option.some.inj (hq.symm.trans (show vwCl[2]? = some (RX2, TX2, 5) from rfl))
      subst e
      exact u_known (C := RX2) (T := TX2) (N := 5) (n := 5) hbt lay2 (hts (.instantiable RX2 5) (List.mem_of_getElem? (i := 320) (by decide +kernel)))
    · have e : q = (RX3, TX3, 14) := Option.some.inj (hq.symm.trans (show vwCl[3]? = some (RX3, TX3, 14) from rfl))
      subst e
      exact u_known (C := RX3) (T := TX3) (N := 14) (n := 14) hbt lay3 (hts (.instantiable RX3 14) (List.mem_of_getElem? (i := 82) (by decide +kernel)))
    · have e : q = (RX4, TX4, 10) := Option.some.inj (hq.symm.trans (show vwCl[4]? = some (RX4, TX4, 10) from rfl))
      subst e
      exact u_known (C := RX4) (T := TX4) (N := 10) (n := 10) hbt lay4 (hts (.instantiable RX4 10) (List.mem_of_getElem? (i := 278) (by decide +kernel)))
    · have e : q = (RX5, TX5, 3) := Option.some.inj (hq.symm.trans (show vwCl[5]? = some (RX5, TX5, 3) from rfl))
      subst e
      exact u_known (C := RX5) (T := TX5) (N := 3) (n := 3) hbt lay5 (hts (.instantiable RX5 3) (List.mem_of_getElem? (i := 344) (by decide +kernel)))
    · have e : q = (RX6, TX6, 2) := Option.some.inj (hq.symm.trans (show vwCl[6]? = some (RX6, TX6, 2) from rfl))
      subst e
      exact u_known (C := RX6) (T := TX6) (N := 2) (n := 2) hbt lay6 (hts (.instantiable RX6 2) (List.mem_of_getElem? (i := 88) (by decide +kernel)))
    · have e : q = (RX7, TX7, 1) := Option.some.inj (hq.symm.trans (show vwCl[7]? = some (RX7, TX7, 1) from rfl))
      subst e
      exact u_known (C := RX7) (T := TX7) (N := 1) (n := 1) hbt lay7 (hts (.instantiable RX7 1) (List.mem_of_getElem? (i := 173) (by decide +kernel)))
    · have e : q = (RX8, TX8, 11) := Option.some.inj (hq.symm.trans (show vwCl[8]? = some (RX8, TX8, 11) from rfl))
      subst e
      exact u_known (C := RX8) (T := TX8) (N := 11) (n := 11) hbt lay8 (hts (.instantiable RX8 11) (List.mem_of_getElem? (i := 166) (by decide +kernel)))
    · have e : q = (RX9, TX9, 9) := Option.some.inj (hq.symm.trans (show vwCl[9]? = some (RX9, TX9, 9) from rfl))
      subst e
      exact u_known (C := RX9) (T := TX9) (N := 9) (n := 9) hbt lay9 (hts (.instantiable RX9 9) (List.mem_of_getElem? (i := 74) (by decide +kernel)))
    · have e : q = (RX10, TX10, 47) := Option.some.inj (hq.symm.trans (show vwCl[10]? = some (RX10, TX10, 47) from rfl))
      subst e
      exact u_known (C := RX10) (T := TX10) (N := 47) (n := 47) hbt lay10 (hts (.instantiable RX10 47) (List.mem_of_getElem? (i := 1077) (by decide +kernel)))
  have h : ∀ c : Nat, ∃ x : ClassId × (Nat → Nat), ∀ q : vw_C, vwCl[c]? = some q → u_Kn s q.1 q.2.1 q.2.2 x.1 x.2 := by
    intro c
    cases hq : vwCl[c]? with
    | none => exact ⟨(s.heap.size, fun _ => 0), fun q h => by cases h⟩
    | some q =>
      obtain ⟨cC, iS, h⟩ := hall c q hq
      exact ⟨(cC, iS), fun q' h' => by cases h'; exact h⟩
  exact ⟨(fun c => (Classical.choose (h c)).1, fun c => (Classical.choose (h c)).2), fun c q hq => Classical.choose_spec (h c) q hq⟩
theorem lw_prim {s : State} {args : Array Value} {ty : FieldType} (h : (Cond.arrayClass ty).before args s = true) (hno : ∀ C, ty ≠ .object C) : ∃ cA : ClassId, ArrOfT s cA ty ∧ va_RA s cA ty := by
  obtain ⟨cA, k, comp, h1, h2, h3⟩ := Cond.arrayClass_spec h
  refine ⟨cA, fun n z => ⟨(fun k h => by cases h), k, h2, comp, h3⟩, ?_⟩
  cases ty with
  | object C => exact absurd rfl (hno C)
  | _ => exact h1
theorem lw_over {s : State} {args : Array Value} {C : String} (h : (Cond.arrayOver (.object C)).before args s = true) : ∃ cA : ClassId, ArrOfT s cA (.object C) ∧ va_RA s cA (.object C) := by
  obtain ⟨comp, cA, k, h1, h2, h3, h4, h5⟩ := Cond.arrayOver_spec h
  exact ⟨cA, fun n z => ⟨(fun k h => by cases h), k, h3, comp, h4⟩, k, comp, h3, h4, h1, h5⟩
theorem lw_arrays {s : State} {args : Array Value} (hts : ∀ x ∈ lw_tbl, x.before args s = true) : ∃ aC : Nat → ClassId, ∀ (k : Nat) (q : ClassId × FieldType), (tysA aC)[k]? = some q → ArrOfT s q.1 q.2 ∧ va_RA s q.1 q.2 := by
  obtain ⟨c0, h0⟩ := lw_prim (hts (.arrayClass .int) (List.mem_of_getElem? (i := 106) (by decide +kernel))) (fun C h => by cases h)
  obtain ⟨c1, h1⟩ := lw_prim (hts (.arrayClass .boolean) (List.mem_of_getElem? (i := 107) (by decide +kernel))) (fun C h => by cases h)
  obtain ⟨c2, h2⟩ := lw_prim (hts (.arrayClass .long) (List.mem_of_getElem? (i := 182) (by decide +kernel))) (fun C h => by cases h)
  obtain ⟨c3, h3⟩ := lw_over (hts (.arrayOver (.object "FrameProver$StateSet")) (List.mem_of_getElem? (i := 172) (by decide +kernel)))
  obtain ⟨c4, h4⟩ := lw_over (hts (.arrayOver (.object "FrameProver$Clauses")) (List.mem_of_getElem? (i := 227) (by decide +kernel)))
  refine ⟨fun k => if k = 20 then c0 else if k = 21 then c1 else if k = 22 then c2 else if k = 23 then c3 else c4, fun k q hq => ?_⟩
  have hk : k < 5 := (List.getElem?_eq_some_iff.mp hq).1
  rcases (show k = 0 ∨ k = 1 ∨ k = 2 ∨ k = 3 ∨ k = 4 by omega) with rfl | rfl | rfl | rfl | rfl
  · cases hq; exact h0
  · cases hq; exact h1
  · cases hq; exact h2
  · cases hq; exact h3
  · cases hq; exact h4
theorem lw_statics {s : State} {b : Nat} (hts : ∀ x ∈ lw_tbl, x.before #[Value.ref b] s = true) (hgv : (Jvm.Cond.and given_1 narrow_1).before #[Value.ref b] s = true) : ∃ rI rO : Nat, (va_Z "FrameProver$Machine" "INPUT_LANES" "[I" (.ref rI) (lwA s) s s.heap ∧ va_T .int rI 4 (fun j => .int (inpL j)) (lwA s) s s.heap) ∧ (va_Z "FrameProver$StateSet" "ONES" "[J" (.ref rO) (lwA s) s s.heap ∧ va_T .long rO 6 (fun j => .long (onesL j)) (lwA s) s s.heap) := by
  have hs := flat_of_before _ hgv
  have hA : ∀ a : Nat, a < s.heap.size → ¬ lwA s a := fun a h z => Nat.not_le.mpr h z
  obtain ⟨rI, e1, t1⟩ := va_Tof (tm := .static "FrameProver$Machine" "INPUT_LANES" "[I") (ty := .int) (N := 4) (f := fun j => .int (inpL j)) (A := lwA s) (by decide) (hs (.arrayOf (.static "FrameProver$Machine" "INPUT_LANES" "[I") .int) (by decide +kernel)) (va_eqt (hs (.eq (.length (.static "FrameProver$Machine" "INPUT_LANES" "[I")) (.int 4)) (by decide +kernel))) (fun j hj => by
    rcases (show j = 0 ∨ j = 1 ∨ j = 2 ∨ j = 3 by omega) with rfl | rfl | rfl | rfl
    · exact va_eqt (hs (.eq (.elem (.static "FrameProver$Machine" "INPUT_LANES" "[I") (.int 0)) (.int 43690)) (by decide +kernel))
    · exact va_eqt (hs (.eq (.elem (.static "FrameProver$Machine" "INPUT_LANES" "[I") (.int 1)) (.int 52428)) (by decide +kernel))
    · exact va_eqt (hs (.eq (.elem (.static "FrameProver$Machine" "INPUT_LANES" "[I") (.int 2)) (.int 61680)) (by decide +kernel))
    · exact va_eqt (hs (.eq (.elem (.static "FrameProver$Machine" "INPUT_LANES" "[I") (.int 3)) (.int 65280)) (by decide +kernel))) hA
  obtain ⟨rO, e2, t2⟩ := va_Tof (tm := .static "FrameProver$StateSet" "ONES" "[J") (ty := .long) (N := 6) (f := fun j => .long (onesL j)) (A := lwA s) (by decide) (hs (.arrayOf (.static "FrameProver$StateSet" "ONES" "[J") .long) (by decide +kernel)) (va_eqt (hs (.eq (.length (.static "FrameProver$StateSet" "ONES" "[J")) (.int 6)) (by decide +kernel))) (fun j hj => by
    rcases (show j = 0 ∨ j = 1 ∨ j = 2 ∨ j = 3 ∨ j = 4 ∨ j = 5 by omega) with rfl | rfl | rfl | rfl | rfl | rfl
    · exact va_eqtl (hs (.eq (.elem (.static "FrameProver$StateSet" "ONES" "[J") (.int 0)) (.long (-6148914691236517206))) (by decide +kernel))
    · exact va_eqtl (hs (.eq (.elem (.static "FrameProver$StateSet" "ONES" "[J") (.int 1)) (.long (-3689348814741910324))) (by decide +kernel))
    · exact va_eqtl (hs (.eq (.elem (.static "FrameProver$StateSet" "ONES" "[J") (.int 2)) (.long (-1085102592571150096))) (by decide +kernel))
    · exact va_eqtl (hs (.eq (.elem (.static "FrameProver$StateSet" "ONES" "[J") (.int 3)) (.long (-71777214294589696))) (by decide +kernel))
    · exact va_eqtl (hs (.eq (.elem (.static "FrameProver$StateSet" "ONES" "[J") (.int 4)) (.long (-281470681808896))) (by decide +kernel))
    · exact va_eqtl (hs (.eq (.elem (.static "FrameProver$StateSet" "ONES" "[J") (.int 5)) (.long (-4294967296))) (by decide +kernel))) hA
  exact ⟨rI, rO, ⟨va_Zof (hts (.laysStatic "FrameProver$Machine" "INPUT_LANES" "[I") (List.mem_of_getElem? (i := 549) (by decide +kernel))) (hts (.initialized "FrameProver$Machine") (List.mem_of_getElem? (i := 60) (by decide +kernel))) e1 hA, t1⟩, va_Zof (hts (.laysStatic "FrameProver$StateSet" "ONES" "[J") (List.mem_of_getElem? (i := 680) (by decide +kernel))) (hts (.initialized "FrameProver$StateSet") (List.mem_of_getElem? (i := 64) (by decide +kernel))) e2 hA, t2⟩
/-- the addresses: the two constant rows, and from b on -/
def adF (rI rO b : Nat) (i : Nat) : Nat := if i = 1000000 then rI else if i = 1000001 then rO else b + i
theorem adF_1 (rI rO b : Nat) {i : Nat} (h : i < 1000000) : adF rI rO b i = b + i := by
  unfold adF; rw [if_neg (by omega), if_neg (by omega)]
section CRX
variable {p : Program} {l : Launch} {e : Env} {R : Room} {s : State} {m : MethodId} {args : Array Value} {below : List Frame} {meth : Method} {c : Code} {H : Heap} {locs : List Loc} {cells slots : Nat} {Q : State → Prop}
variable {cc : ByteArray} {pc nL : Nat} {ls : Array Slot} {rest : List Value} {D : va_G} {aC : Nat → ClassId} {ad : Nat → Nat} {own : String} {H0 : Heap} {Ts : List Cond} {b : Nat}
/-- the class's constructor is called -/
theorem cs_runX {A0 : Nat → Prop} {idx : Nat} (had : ∀ i, i < wS wX → ad i = b + i) (hx : p.tables.exec = Jvm.exec) (hb : c.code = cc) (hml : c.maxLocals = nL) (hown : s.vm.findClass own = some m.cls) (hts : ∀ x ∈ Ts, x.before args s = true) (hbig : ∀ x ∈ big, x ∈ Ts) (hK : KC D aC ad (AW wX ad) s s.heap)
    (hlink : Cond.methodLink own idx yX9_init ∈ Ts) (hroom : 5 ≤ R.frames ∧ 156 ≤ R.locals) (hmc : cells + 1174 ≤ R.cells ∧ slots + 8972 ≤ R.slots) (hsz : ls.size = nL) (hcat : (rest.map fun v => v.category).sum ≤ 8)
    (hz : H.size = b + 1) (hPn : PO D wX ad iX 9 0 [] H) (hSw : va_S (AW wX ad) s.heap H locs) (hS : va_S A0 H0 H locs) (hA : ∀ q, AO b wX 0 q → A0 q) (hdg : decode cc pc = .ok (.invokespecial idx, 3))
    (kk : ∀ (H1 : Heap) (locs1 : List Loc), (∃ τ, Pic D aC wX ad τ H1 ∧ RX zM τ) → H.size ≤ H1.size → (∀ q : Nat, q < H.size → ¬ AO b wX 0 q → H1[q]? = H[q]?) → va_S A0 H0 H1 locs1 → W p l e R s m args below meth c H1 locs1 (cells + 1174) (slots + 8972) Q (F0 m (pc + 3) ls rest)) : W p l e R s m args below meth c H locs cells slots Q (F0 m pc ls (.ref (ad 0) :: rest)) := by
  have hcode : Cond.code yX9_init cX9_init 1 none ∈ big := big_in 77 (by decide +kernel) (by decide +kernel)
  have hini : Cond.initialized yX9_init.cls ∈ Ts := hbig _ (big_in 59 (by decide +kernel) (by decide +kernel))
  have hinst : Cond.instanceMethod yX9_init ∈ Ts := hbig _ (big_in 76 (by decide +kernel) (by decide +kernel))
  have hM := cs_X9_init l D aC ad b had
  have hG := goodTs (Ts := Ts) hbig hcode
  have hR2 : (rmk 4 1174 8972).frames + 1 ≤ R.frames ∧ 8 + (1 + 11) + (rmk 4 1174 8972).locals ≤ R.locals := hroom
  have hpre : PreS s H (Pk D aC wX ad iX b 0 9 []) (.ref (ad 0) :: ([] : List Value).map (vr ad)) := ⟨Pk.blind, fun U hU hW => ⟨rfl, hK.to hSw hU hW, by rw [hU]; exact hz, by rw [hU]; exact hPn⟩⟩
  have hr : va_Run p l e R s m args below meth c H locs cells slots 1174 8972 (F0 m pc ls (.ref (ad 0) :: rest)) rest (Qx D aC ad b (Value.ref (ad 0) :: ([] : List Value).map (vr ad)).toArray) (AO b wX 0) := va_runI (As := ([] : List Value).map (vr ad)) (rest := rest) ⟨hx, hb, hml, hown, hts⟩ hM (cwI 0 hts hG rfl rfl rfl (hts _ hini) (hts _ hlink) (hts _ hinst) rfl (by decide +kernel) hR2) hpre rfl (by simp) hsz rfl (lv_room hcat) hdg hmc
  intro T hT X
  obtain ⟨v, st₀, t, T', L, h0, X', hL, e1, e2, ⟨⟨hv, hq⟩, hz1, hk⟩, st⟩ := hr T hT X
  cases hv
  rw [h0] at hz1 hk
  obtain ⟨t2, a1, b1⟩ := kk T'.heap (locs ++ L) (by rw [e1]; exact hq) (by rw [e1]; exact hz1) (fun q h1 h2 => by rw [e1]; exact hk q h1 h2)
    ⟨Nat.le_trans hS.1 (by rw [e1]; exact hz1), fun q h1 h2 => by rw [e1, hk q (Nat.lt_of_lt_of_le h1 hS.1) (fun z => h2 (hA q z))]; exact hS.2.1 q h1 h2, fun q hq => by
      rcases List.mem_append.mp hq with h | h
      · exact hS.2.2 q h
      · exact hA _ (hL q h)⟩ T' rfl X'
  exact ⟨t2, st t2 a1, b1⟩
end CRX
set_option maxHeartbeats 4000000 in
set_option maxRecDepth 100000 in
theorem whole_start {p : Program} {e : Env} {s : State} {m : MethodId} {below : List Frame} {meth : Method} {c : Code} (l : Launch) (hflags : l.flags = flags0) {b L : Nat} {xs : Nat → Int32} (hL : L ≤ 2048) (C0 : lw_At p s m meth c b L xs) : W p l e room_1 s m #[Value.ref b] below meth c s.heap [] 0 0 (lw_Z below #[Value.ref b] s) (entryFrame m ([Value.ref b] : List Value).toArray 4) := by
  obtain ⟨hx, hb, hr, hml, hown, hts, hX, hbl, hlocks, hgv⟩ := id C0
  obtain ⟨D, hD⟩ := lw_known hts
  obtain ⟨aC, hC⟩ := lw_arrays hts
  obtain ⟨rI, rO, hI, hO⟩ := lw_statics hts hgv
  have hK : va_K D vwCl (tysA aC) s := ⟨hD, hC⟩
  have hKK : ∀ bb : Nat, KK D aC (adF rI rO bb) (lwA s) s s.heap := fun bb => ⟨hK, fun x hx => by
    obtain ⟨a, i, y, h, rfl⟩ := nestW_is x hx
    exact va_Nw.of rfl (hts _ (nestW_in _ hx)), hI, hO⟩
  have hKC : ∀ bb (A : Nat → Prop), (∀ q, A q → lwA s q) → KC D aC (adF rI rO bb) A s s.heap := fun bb A hA => ⟨(hKK bb).mono hA, va_AO.of (hts (.arrayOver (.object "FrameProver$StateSet")) (List.mem_of_getElem? (i := 172) (by decide +kernel))), va_AO.of (hts (.arrayOver (.object "FrameProver$Clauses")) (List.mem_of_getElem? (i := 227) (by decide +kernel)))⟩
  have hl := lv_entry ([.ref b]) (n := 4) (Nat.le_of_ble_eq_true rfl)
  rw [lg_entry_eq]
  generalize (lg_sl ([.ref b]) ++ List.replicate (4 - (lg_sl ([.ref b])).length) Slot.unset).toArray = ls at hl ⊢
  have hl : lv_has ls 4 [(0, .ref b)] := hl
  have hS : va_S (lwA s) s.heap s.heap [] := va_S.rf
  generalize hbX : s.heap.size = bX
  have aX : ∀ i, i < wS wX → adF rI rO bX i = bX + i := fun i hi => adF_1 rI rO bX (by have : i < 1175 := hi; omega)
  have hAX : ∀ q, AW wX (adF rI rO bX) q → lwA s q := by
    rintro q ⟨i, h1, h2⟩
    show s.heap.size ≤ q
    rw [h2, aX i h1, hbX]; omega
  have hAOX : ∀ q, AO bX wX 0 q → lwA s q := by
    rintro q ⟨i, h1, h2, h3⟩
    show s.heap.size ≤ q
    rw [h3, hbX]; omega
  refine pb_new (n := 0) (ad := adF rI rO bX) (w := wX) (σ := iX) (ci := 9) (C := RX9) (T := TX9) (N := 9) hx hb hts lw_big hown hK rfl tyX9_ok lay9 (List.mem_of_getElem? (i := 73) (by decide +kernel)) (List.mem_of_getElem? (i := 74) (by decide +kernel)) (List.mem_of_getElem? (i := 59) (by decide +kernel)) (by rw [aX 0 (by decide), hbX]; rfl) (by decide) (by decide) hS dw_0 (fun H1 y1 y2 hP1 hS1 => ?_)
  refine lv_dup hx hb dw_3 rfl ?_
  refine cs_runX (ad := adF rI rO bX) (b := bX) (own := R_law) aX hx hb hml hown hts lw_big (hKC bX _ hAX) (List.mem_of_getElem? (i := 75) (by decide +kernel)) ⟨by decide, by decide⟩ ⟨by decide, by decide⟩ hl.1 (show 1 ≤ 8 by decide) (by rw [y1, aX 0 (by decide)]) hP1 ⟨hS1.1, fun q h1 h2 => hS1.2.1 q h1 (fun z => Nat.not_le.mpr h1 z), fun q h => by cases h⟩ hS1 hAOX dw_4 (fun H2 locs2 hPX y3 y4 hS2 => ?_)
  obtain ⟨τX, hPX, hRX⟩ := hPX
  refine lv_astore_n (lv' := [(1, .ref (adF rI rO bX 0)), (0, .ref b)]) hx hb dw_7 rfl hl (by decide) rfl (fun ls hl => ?_)
  refine va_forget (fun q hq => hS2.2.2 q hq) ?_
  have hS2 : va_S (lwA s) s.heap H2 [] := ⟨hS2.1, hS2.2.1, fun q h => by cases h⟩
  generalize hbM : H2.size = bM
  have hlast : bX + 1175 ≤ bM := by
    have h1 := (hPX 1174 (by decide)).2 (by decide) (by decide)
    have h2 := (Array.getElem?_eq_some_iff.mp h1).1
    rw [aX 1174 (by decide)] at h2
    omega
  have aM : ∀ i, i < wS wM → adF rI rO bM i = bM + i := fun i hi => adF_1 rI rO bM (by have : i < 27 := hi; omega)
  have hAM : ∀ q, AW wM (adF rI rO bM) q → lwA s q := by
    rintro q ⟨i, h1, h2⟩
    show s.heap.size ≤ q
    rw [h2, aM i h1, hbX]; omega
  have hAOM : ∀ q, AO bM wM 0 q → lwA s q := by
    rintro q ⟨i, h1, h2, h3⟩
    show s.heap.size ≤ q
    rw [h3, hbX]; omega
  refine pb_new (n := 0) (ad := adF rI rO bM) (w := wM) (σ := iM) (ci := 10) (C := RX10) (T := TX10) (N := 47) hx hb hts lw_big hown hK rfl tyX10_ok lay10 (List.mem_of_getElem? (i := 1076) (by decide +kernel)) (List.mem_of_getElem? (i := 1077) (by decide +kernel)) (List.mem_of_getElem? (i := 70) (by decide +kernel)) (by rw [aM 0 (by decide), hbM]; rfl) (by decide) (by decide) hS2 dw_8 (fun H3 y5 y6 hP3 hS3 => ?_)
  refine lv_dup hx hb dw_11 rfl ?_
  refine cs_run (As := []) (ad := adF rI rO bM) (b := bM) (own := R_law) (n := 0) (cs_X10_init l) aM hx hb hml hown hts lw_big (hKC bM _ hAM) (big_in 1080 (by decide +kernel) (by decide +kernel)) (List.mem_of_getElem? (i := 70) (by decide +kernel)) (List.mem_of_getElem? (i := 1079) (by decide +kernel)) (Or.inl (List.mem_of_getElem? (i := 1078) (by decide +kernel))) rfl (by decide +kernel) ⟨by decide, by decide⟩ ⟨by decide, by decide⟩ hl.1 (show 1 ≤ 8 by decide) (by rw [y5, aM 0 (by decide)]) hP3 ⟨hS3.1, fun q h1 h2 => hS3.2.1 q h1 (fun z => Nat.not_le.mpr h1 z), fun q h => by cases h⟩ hS3 hAOM dw_12 (fun H4 locs4 y7 hPM y8 hS4 => ?_)
  refine lv_astore_n (lv' := [(2, .ref (adF rI rO bM 0)), (1, .ref (adF rI rO bX 0)), (0, .ref b)]) hx hb dw_15 rfl hl (by decide) rfl (fun ls hl => ?_)
  refine lv_iconst (v := nI 0) hx hb dw_16 (by decide) ?_
  refine lv_istore_n (lv' := [(3, .int (nI 0)), (2, .ref (adF rI rO bM 0)), (1, .ref (adF rI rO bX 0)), (0, .ref b)]) hx hb dw_17 rfl hl (by decide) rfl (fun ls hl => ?_)
  have C : LwC p s m meth c b L xs D aC (adF rI rO bX) (adF rI rO bM) bX bM := ⟨C0, hL, hKK bX, hKK bM, fun i hi => aX i hi, fun i hi => aM i hi, Nat.le_of_eq hbX, hlast⟩
  have hT : LwT D aC (adF rI rO bX) (adF rI rO bM) bM zM zM H4 := by
    refine ⟨by rw [y7]; omega, ⟨τX, hRX, fun i hi => wC_q (hPX i hi) ?_⟩, iM, RM_zM, fun i hi => hPM i (Nat.zero_le _) hi⟩
    have hi' : i < 1175 := hi
    have e1 : adF rI rO bX i < bM := by rw [aX i hi]; omega
    rw [y8 _ (by rw [y5, aM 0 (by decide)]; omega) (by
      rintro ⟨j, j1, j2, j3⟩
      omega), y6 _ (by rw [aM 0 (by decide)]; exact e1)]
  exact lw_loop C (L + 1) 0 zM H4 locs4 ls (Nat.zero_le L) (by omega) WF_zM hT hS4 (lv_sub hl [0, 3, 2, 1] rfl)
