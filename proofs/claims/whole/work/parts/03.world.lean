/-! THE WORLD: cells by numbers (ids), which never change their shape; a state is what they hold -/
abbrev Sg : Type := (Nat → Nat → Int32) × (Nat → Nat → Int64)
def gI (σ : Sg) (a k : Nat) : Int32 := σ.1 a k
def gL (σ : Sg) (a k : Nat) : Int64 := σ.2 a k
def sI (σ : Sg) (a k : Nat) (v : Int32) : Sg := (fun x y => if x = a ∧ y = k then v else σ.1 x y, σ.2)
def sL (σ : Sg) (a k : Nat) (v : Int64) : Sg := (σ.1, fun x y => if x = a ∧ y = k then v else σ.2 x y)
def cpI (σ : Sg) (a0 a1 sp dp n : Nat) : Sg := (fun x y => if x = a1 ∧ dp ≤ y ∧ y < dp + n then σ.1 a0 (sp + (y - dp)) else σ.1 x y, σ.2)
/-- a shape: kinds (0 .. 10 objects of a class, 20 int row, 21 boolean row, 22 long row, 23, 24 rows of references, 25, 26 the two constant rows), lengths, references, how many -/
abbrev Wd : Type := (Nat → Nat) × (Nat → Nat) × (Nat → Nat → Nat) × Nat
def wK (w : Wd) (i : Nat) : Nat := w.1 i
def wN (w : Wd) (i : Nat) : Nat := w.2.1 i
def wR (w : Wd) (i k : Nat) : Nat := w.2.2.1 i k
def wS (w : Wd) : Nat := w.2.2.2
def isK (w : Wd) (i c : Nat) : Bool := Nat.beq (wK w i) c && Nat.blt i (wS w)
theorem isK_1 {w : Wd} {i c : Nat} (h : isK w i c = true) : wK w i = c := by
  simp only [isK, Bool.and_eq_true] at h
  exact Nat.eq_of_beq_eq_true h.1
theorem isK_2 {w : Wd} {i c : Nat} (h : isK w i c = true) : i < wS w := by
  simp only [isK, Bool.and_eq_true, Nat.blt_eq] at h
  exact h.2
def vr (ad : Nat → Nat) (v : Value) : Value := match v with
  | .ref a => .ref (ad a)
  | .float _ => .ref (ad 1000000)
  | .null => .ref (ad 1000001)
  | v => v
theorem vr_cat (ad : Nat → Nat) (v : Value) : (vr ad v).category = v.category := by cases v <;> rfl
def fty (ci k : Nat) : FieldType := match ci with
  | 0 => tyX0 k
  | 1 => tyX1 k
  | 2 => tyX2 k
  | 3 => tyX3 k
  | 4 => tyX4 k
  | 5 => tyX5 k
  | 6 => tyX6 k
  | 7 => tyX7 k
  | 8 => tyX8 k
  | 9 => tyX9 k
  | _ => tyX10 k
def ffin (ci k : Nat) : Bool := match ci with
  | 0 => (TX0 k).2.2.2
  | 1 => (TX1 k).2.2.2
  | 2 => (TX2 k).2.2.2
  | 3 => (TX3 k).2.2.2
  | 4 => (TX4 k).2.2.2
  | 5 => (TX5 k).2.2.2
  | 6 => (TX6 k).2.2.2
  | 7 => (TX7 k).2.2.2
  | 8 => (TX8 k).2.2.2
  | 9 => (TX9 k).2.2.2
  | _ => (TX10 k).2.2.2
/-- a field's value -/
def cV (w : Wd) (σ : Sg) (ty : FieldType) (i k : Nat) : Value := match ty with
  | .int => .int (gI σ i k)
  | .boolean => .int (gI σ i k)
  | _ => .ref (wR w i k)
/-- a place of a row -/
def aV (w : Wd) (σ : Sg) (c i j : Nat) : Value := match c with
  | 20 => .int (gI σ i j)
  | 21 => .int (gI σ i j)
  | 22 => .long (gL σ i j)
  | _ => .ref (wR w i j)
def wC (D : va_G) (aC : Nat → ClassId) (w : Wd) (ad : Nat → Nat) (σ : Sg) (i : Nat) (H : Heap) : Prop :=
  (wK w i < 11 → ∃ r : vw_C, vwCl[wK w i]? = some r ∧ t_OB (ad i) (D.1 (wK w i)) r.2.2 (D.2 (wK w i)) H (fun k => vr ad (cV w σ (fty (wK w i) k) i k))) ∧
  (20 ≤ wK w i → wK w i ≤ 24 → H[ad i]? = some (arrV (aC (wK w i)) (wN w i) (fun j => vr ad (aV w σ (wK w i) i j))))
def Pic (D : va_G) (aC : Nat → ClassId) (w : Wd) (ad : Nat → Nat) (σ : Sg) (H : Heap) : Prop := ∀ i, i < wS w → wC D aC w ad σ i H
def AW (w : Wd) (ad : Nat → Nat) : Nat → Prop := fun q => ∃ i, i < wS w ∧ q = ad i
def tysA (aC : Nat → ClassId) : List (ClassId × FieldType) := [(aC 20, .int), (aC 21, .boolean), (aC 22, .long), (aC 23, .object "FrameProver$StateSet"), (aC 24, .object "FrameProver$Clauses")]
def inpL (j : Nat) : Int32 := match j with
  | 0 => 43690
  | 1 => 52428
  | 2 => 61680
  | _ => 65280
def onesL (j : Nat) : Int64 := match j with
  | 0 => -6148914691236517206
  | 1 => -3689348814741910324
  | 2 => -1085102592571150096
  | 3 => -71777214294589696
  | 4 => -281470681808896
  | _ => -4294967296
def KK (D : va_G) (aC : Nat → ClassId) (ad : Nat → Nat) (A : Nat → Prop) (U : State) (H : Heap) : Prop :=
  va_K D vwCl (tysA aC) U ∧ (∀ x ∈ nestW, va_Nw x U) ∧
  (va_Z "FrameProver$Machine" "INPUT_LANES" "[I" (.ref (ad 1000000)) A U H ∧ va_T .int (ad 1000000) 4 (fun j => .int (inpL j)) A U H) ∧
  (va_Z "FrameProver$StateSet" "ONES" "[J" (.ref (ad 1000001)) A U H ∧ va_T .long (ad 1000001) 6 (fun j => .long (onesL j)) A U H)
theorem nestW_is : ∀ x ∈ nestW, ∃ a i y h, x = Cond.methodLinkNest a i y h := by
  intro x hx
  simp only [nestW, List.mem_cons, List.not_mem_nil, or_false] at hx
  rcases hx with rfl | rfl | rfl | rfl | rfl | rfl | rfl | rfl | rfl | rfl | rfl | rfl <;> exact ⟨_, _, _, _, rfl⟩
theorem KK.to {D : va_G} {aC : Nat → ClassId} {ad : Nat → Nat} {A : Nat → Prop} {s U : State} {H : Heap} {locs : List Loc} (h : KK D aC ad A s s.heap) (hS : va_S A s.heap H locs) (hU : U.heap = H) (hW : s.WarmedH U.vm) : KK D aC ad A U U.heap := by
  obtain ⟨h1, h2, ⟨h3, h4⟩, h5, h6⟩ := h
  subst hU
  refine ⟨va_K.moved hW.alike h1, fun x hx => ?_, ⟨(h3.kept hS.2.1).moved hW.alike, (h4.kept hS.2.1).moved hW.alike⟩, (h5.kept hS.2.1).moved hW.alike, (h6.kept hS.2.1).moved hW.alike⟩
  obtain ⟨a, i, y, hh, rfl⟩ := nestW_is x hx
  exact va_Nw.warmM hW (h2 _ hx)
theorem KK.blind {D : va_G} {aC : Nat → ClassId} {ad : Nat → Nat} {A : Nat → Prop} {U : State} (g : JFrame) (mk : MethodId) (a : Array Value) (h : KK D aC ad A U U.heap) : KK D aC ad A (U.calling g mk a) (U.calling g mk a).heap := by
  obtain ⟨h1, h2, ⟨h3, h4⟩, h5, h6⟩ := h
  refine ⟨va_K.moved (u := U) (U := U.calling g mk a) (Vm.Alike.refl U.vm) h1, fun x hx => ?_, ⟨h3.moved (u := U) (U := U.calling g mk a) (Vm.Alike.refl U.vm), h4.moved (u := U) (U := U.calling g mk a) (Vm.Alike.refl U.vm)⟩, h5.moved (u := U) (U := U.calling g mk a) (Vm.Alike.refl U.vm), h6.moved (u := U) (U := U.calling g mk a) (Vm.Alike.refl U.vm)⟩
  obtain ⟨b, i, y, hh, rfl⟩ := nestW_is x hx
  exact va_Nw.same rfl (u := U) (U := U.calling g mk a) rfl (h2 _ hx)
theorem sI_1 (σ : Sg) {a i : Nat} (h : i ≠ a) (k j : Nat) (v : Int32) : gI (sI σ a k v) i j = gI σ i j := by simp [gI, sI, h]
theorem sI_2 (σ : Sg) (a k i j : Nat) (v : Int32) : gL (sI σ a k v) i j = gL σ i j := rfl
theorem sL_1 (σ : Sg) (a k i j : Nat) (v : Int64) : gI (sL σ a k v) i j = gI σ i j := rfl
theorem sL_2 (σ : Sg) {a i : Nat} (h : i ≠ a) (k j : Nat) (v : Int64) : gL (sL σ a k v) i j = gL σ i j := by simp [gL, sL, h]
theorem cV_eq {w : Wd} {σ τ : Sg} {ty : FieldType} {i k : Nat} (h : gI τ i k = gI σ i k) : cV w τ ty i k = cV w σ ty i k := by
  cases ty <;> simp [cV, h]
theorem aV_eq {w : Wd} {σ τ : Sg} {c i j : Nat} (h : gI τ i j = gI σ i j) (h2 : gL τ i j = gL σ i j) : aV w τ c i j = aV w σ c i j := by
  unfold aV
  rw [h, h2]
theorem wC_kept {D : va_G} {aC : Nat → ClassId} {w : Wd} {ad : Nat → Nat} {σ τ : Sg} {i : Nat} {H H1 : Heap} (h : wC D aC w ad σ i H) (hH : H1[ad i]? = H[ad i]?) (hI : ∀ k, gI τ i k = gI σ i k) (hL : ∀ k, gL τ i k = gL σ i k) : wC D aC w ad τ i H1 := by
  refine ⟨fun hk => ?_, fun h1 h2 => ?_⟩
  · obtain ⟨r, e1, e2⟩ := h.1 hk
    exact ⟨r, e1, (e2.kept hH).to (fun k _ => by rw [cV_eq (hI k)])⟩
  · rw [hH, h.2 h1 h2]
    congr 2
    funext j
    rw [aV_eq (hI j) (hL j)]
theorem Pic.put {D : va_G} {aC : Nat → ClassId} {w : Wd} {ad : Nat → Nat} {σ τ : Sg} {i : Nat} {H H1 : Heap} (hP : Pic D aC w ad σ H) (hj : ∀ a b, a < wS w → b < wS w → ad a = ad b → a = b) (hi : i < wS w) (oq : ∀ q : Nat, q ≠ ad i → H1[q]? = H[q]?) (hc : wC D aC w ad τ i H1) (hI : ∀ a, a ≠ i → ∀ k, gI τ a k = gI σ a k) (hL : ∀ a, a ≠ i → ∀ k, gL τ a k = gL σ a k) : Pic D aC w ad τ H1 := by
  intro a ha
  by_cases e : a = i
  · rw [e]; exact hc
  · exact wC_kept (hP a ha) (oq _ (fun z => e (hj a i ha hi z))) (hI a e) (hL a e)
theorem Pic.kept {D : va_G} {aC : Nat → ClassId} {w : Wd} {ad : Nat → Nat} {σ : Sg} {H H1 : Heap} (hP : Pic D aC w ad σ H) (hq : ∀ q, AW w ad q → H1[q]? = H[q]?) : Pic D aC w ad σ H1 := fun a ha => wC_kept (hP a ha) (hq _ ⟨a, ha, rfl⟩) (fun _ => rfl) (fun _ => rfl)
def nz (x : Int32) : Prop := x = 0 ∨ x = 1
theorem nz_0 : nz 0 := Or.inl rfl
theorem nz_1 : nz 1 := Or.inr rfl
/-- what a pool entry of a field says -/
def ftOK (own : String) (idx ci k : Nat) : Prop := ∃ (C : String) (T : u_T) (N : Nat), vwCl[ci]? = some (C, T, N) ∧ ci < 11 ∧ k < N ∧ Cond.fieldLink own idx C (T k).2.1 (T k).2.2.1 ∈ big ∧ (T k).1 = C ∧ (∀ j, j < N → parseFieldDescriptor (T j).2.2.1 = some (fty ci j)) ∧ (∀ a, a < N → ∀ b, b < N → a ≠ b → (T a).2.1 ≠ (T b).2.1) ∧ (∀ x ∈ u_ws C T N, x ∈ big) ∧ (T k).2.2.2 = ffin ci k
section WROWS
variable {p : Program} {l : Launch} {e : Env} {R : Room} {s : State} {m : MethodId} {args : Array Value} {below : List Frame} {meth : Method} {c : Code} {H : Heap} {locs : List Loc} {cells slots : Nat} {Q : State → Prop}
variable {cc : ByteArray} {pc : Nat} {ls : Array Slot} {rest : List Value} {D : va_G} {aC : Nat → ClassId} {ad : Nat → Nat} {w : Wd} {σ : Sg} {i : Nat} {own : String}
theorem pw_get (hx : p.tables.exec = Jvm.exec) (hb : c.code = cc) (hts : ∀ x ∈ big, x.before args s = true) (hown : s.vm.findClass own = some m.cls) (hK : va_K D vwCl (tysA aC) s) (hP : Pic D aC w ad σ H) {idx ci k : Nat} (hf : ftOK own idx ci k) (hk : wK w i = ci) (hi : i < wS w) (hdg : decode cc pc = .ok (.getfield idx, 3))
    (kk : W p l e R s m args below meth c H locs cells slots Q (F0 m (pc + 3) ls (vr ad (cV w σ (fty ci k) i k) :: rest))) : W p l e R s m args below meth c H locs cells slots Q (F0 m pc ls (.ref (ad i) :: rest)) := by
  obtain ⟨C, T, N, hc, hci, hkN, hlink, hC, hty, hnm, hin, -⟩ := hf
  subst hk
  obtain ⟨r, h1, cell, q1, q2, q3, q4⟩ := (hP i hi).1 hci
  have hr : r = (C, T, N) := Option.some.inj (h1.symm.trans hc)
  subst hr
  obtain ⟨hS, hfc, kC, hkC, hkind⟩ := hK.1 _ _ hc
  obtain ⟨cf, kf, fi, f, hfi, hsl⟩ := hS k hkN
  have hfi' : s.fieldFound? C (T k).2.1 (T k).2.2.1 = some (cf, kf, fi, f) := by rw [← hfi, hC]
  refine W.getf hx hb hown (hts _ hlink) hfi' (u_facts hfc hkC (u_lays hts hin hkN) hfi).1 q1 (by rw [q3]; exact fun h => by cases h) (v := vr ad (cV w σ (fty (wK w i) k) i k)) ?_ rfl rfl hdg kk
  rw [hsl, q4 k hkN]
theorem pw_put (hx : p.tables.exec = Jvm.exec) (hb : c.code = cc) (hts : ∀ x ∈ big, x.before args s = true) (hown : s.vm.findClass own = some m.cls) (hK : va_K D vwCl (tysA aC) s) (hP : Pic D aC w ad σ H) (hj : ∀ a b, a < wS w → b < wS w → ad a = ad b → a = b) {H0 : Heap} (hS0 : va_S (AW w ad) H0 H locs) {idx ci k : Nat} (hf : ftOK own idx ci k) (hnf : ffin ci k = false) (hk : wK w i = ci) (hi : i < wS w) {x : Int32} (hty2 : fty ci k = .int ∨ (fty ci k = .boolean ∧ nz x)) (hdg : decode cc pc = .ok (.putfield idx, 3))
    (kk : ∀ (H1 : Heap) (locs1 : List Loc), Pic D aC w ad (sI σ i k x) H1 → va_S (AW w ad) H0 H1 locs1 → W p l e R s m args below meth c H1 locs1 cells slots Q (F0 m (pc + 3) ls rest)) : W p l e R s m args below meth c H locs cells slots Q (F0 m pc ls (.int x :: .ref (ad i) :: rest)) := by
  obtain ⟨C, T, N, hc, hci, hkN, hlink, hC, hty, hnm, hin, hfe⟩ := hf
  subst hk
  have hap := va_apart (own := own) (args := args) (tys := tysA aC) (D := D) (Ts := big) hts hin (fty (wK w i)) hty hnm hK hc
  obtain ⟨r, h1, cell, q1, q2, q3, q4⟩ := (hP i hi).1 hci
  have hr : r = (C, T, N) := Option.some.inj (h1.symm.trans hc)
  subst hr
  obtain ⟨hS, hfc, kC, hkC, hkind⟩ := hK.1 _ _ hc
  obtain ⟨cf, kf, fi, f, hfi, hsl⟩ := hS k hkN
  have hfi' : s.fieldFound? C (T k).2.1 (T k).2.2.1 = some (cf, kf, fi, f) := by rw [← hfi, hC]
  have hlay := hts _ (hin _ (u_in_lay hkN))
  unfold u_lay at hlay
  rw [if_neg (by rw [hfe, hnf]; decide)] at hlay
  have hst := (u_facts hfc hkC (u_lays hts hin hkN) hfi).1
  have h6 : k2_Sd s f (D.1 (wK w i)) (.int x) := by
    rcases hty2 with t | ⟨t, t2⟩
    · exact u_store hfc hkC hkind hlay hfi ((hty k hkN).trans (congrArg some t)) rfl rfl
    · rcases t2 with rfl | rfl <;> exact u_store hfc hkC hkind hlay hfi ((hty k hkN).trans (congrArg some t)) rfl rfl
  refine W.putK hx hb (f := f) ⟨hown, hts _ hlink, ⟨_, _, _, hfi'⟩, hst⟩ (by rw [q2]; exact h6) q1 q3 (by rw [hsl]; exact k2_hasslot (q4 k hkN)) rfl rfl hdg fun H' e1 e2 e3 => ?_
  rw [hsl] at e1 ⊢
  refine kk H' _ (hP.put hj hi e3 ⟨fun _ => ⟨_, hc, t_OB.to (V := updV (fun k => vr ad (cV w σ (fty (wK w i) k) i k)) k (.int x)) ⟨_, e1, q2, q3, t_set q4 hap hkN _⟩ (fun j _ => ?_)⟩, fun z => absurd z (by omega)⟩ (fun a ha j => sI_1 σ ha k j x) (fun a _ j => rfl)) (hS0.put e2 e3 ⟨i, hi, rfl⟩)
  by_cases hjk : j = k
  · subst hjk
    rcases hty2 with t | ⟨t, -⟩ <;> simp [updV, t, cV, gI, sI, vr]
  · have : gI (sI σ i k x) i j = gI σ i j := by simp [gI, sI, hjk]
    simp [updV, hjk, cV_eq this]
theorem pw_iald (hx : p.tables.exec = Jvm.exec) (hb : c.code = cc) (hK : va_K D vwCl (tysA aC) s) (hP : Pic D aC w ad σ H) (hk : isK w i 20 = true) {j : Int32} (hin : vp_in j (wN w i)) (hdg : decode cc pc = .ok (.iaload, 1))
    (kk : W p l e R s m args below meth c H locs cells slots Q (F0 m (pc + 1) ls (.int (gI σ i j.toNatClampNeg) :: rest))) : W p l e R s m args below meth c H locs cells slots Q (F0 m pc ls (.int j :: .ref (ad i) :: rest)) := by
  have hlt : j.toNatClampNeg < wN w i := Nat.not_le.mp fun q => hin (Or.inr q)
  have h1 := (hP i (isK_2 hk)).2 (by rw [isK_1 hk]; decide) (by rw [isK_1 hk]; decide)
  rw [isK_1 hk] at h1
  exact W.iald (v := .int (gI σ i j.toNatClampNeg)) hx hb h1 ((hK.2 0 _ rfl).1 _ _) (fun q => by cases q) (by rw [arrV_size]; exact hin) (by rw [arrV_read _ _ hlt]; rfl) rfl rfl hdg kk
theorem pw_zald (hx : p.tables.exec = Jvm.exec) (hb : c.code = cc) (hK : va_K D vwCl (tysA aC) s) (hP : Pic D aC w ad σ H) (hk : isK w i 21 = true) {j : Int32} (hin : vp_in j (wN w i)) (hdg : decode cc pc = .ok (.baload, 1))
    (kk : W p l e R s m args below meth c H locs cells slots Q (F0 m (pc + 1) ls (.int (gI σ i j.toNatClampNeg) :: rest))) : W p l e R s m args below meth c H locs cells slots Q (F0 m pc ls (.int j :: .ref (ad i) :: rest)) := by
  have hlt : j.toNatClampNeg < wN w i := Nat.not_le.mp fun q => hin (Or.inr q)
  have h1 := (hP i (isK_2 hk)).2 (by rw [isK_1 hk]; decide) (by rw [isK_1 hk]; decide)
  rw [isK_1 hk] at h1
  exact W.zald (v := .int (gI σ i j.toNatClampNeg)) hx hb h1 ((hK.2 1 _ rfl).1 _ _) (fun q => by cases q) (by rw [arrV_size]; exact hin) (by rw [arrV_read _ _ hlt]; rfl) rfl rfl hdg kk
theorem pw_lald (hx : p.tables.exec = Jvm.exec) (hb : c.code = cc) (hK : va_K D vwCl (tysA aC) s) (hP : Pic D aC w ad σ H) (hk : isK w i 22 = true) {j : Int32} (hin : vp_in j (wN w i)) (hdg : decode cc pc = .ok (.laload, 1))
    (kk : W p l e R s m args below meth c H locs cells slots Q (F0 m (pc + 1) ls (.long (gL σ i j.toNatClampNeg) :: rest))) : W p l e R s m args below meth c H locs cells slots Q (F0 m pc ls (.int j :: .ref (ad i) :: rest)) := by
  have hlt : j.toNatClampNeg < wN w i := Nat.not_le.mp fun q => hin (Or.inr q)
  have h1 := (hP i (isK_2 hk)).2 (by rw [isK_1 hk]; decide) (by rw [isK_1 hk]; decide)
  rw [isK_1 hk] at h1
  exact W.lald (v := .long (gL σ i j.toNatClampNeg)) hx hb h1 ((hK.2 2 _ rfl).1 _ _) (fun q => by cases q) (by rw [arrV_size]; exact hin) (by rw [arrV_read _ _ hlt]; rfl) rfl rfl hdg kk
theorem pw_aald3 (hx : p.tables.exec = Jvm.exec) (hb : c.code = cc) (hK : va_K D vwCl (tysA aC) s) (hP : Pic D aC w ad σ H) (hk : isK w i 23 = true) {j : Int32} (hin : vp_in j (wN w i)) (hdg : decode cc pc = .ok (.aaload, 1))
    (kk : W p l e R s m args below meth c H locs cells slots Q (F0 m (pc + 1) ls (.ref (ad (wR w i j.toNatClampNeg)) :: rest))) : W p l e R s m args below meth c H locs cells slots Q (F0 m pc ls (.int j :: .ref (ad i) :: rest)) := by
  have hlt : j.toNatClampNeg < wN w i := Nat.not_le.mp fun q => hin (Or.inr q)
  have h1 := (hP i (isK_2 hk)).2 (by rw [isK_1 hk]; decide) (by rw [isK_1 hk]; decide)
  rw [isK_1 hk] at h1
  exact W.aald (v := .ref (ad (wR w i j.toNatClampNeg))) (ty := .object "FrameProver$StateSet") hx hb h1 ((hK.2 3 _ rfl).1 _ _) rfl (fun q => by cases q) (by rw [arrV_size]; exact hin) (by rw [arrV_read _ _ hlt]; rfl) rfl rfl hdg kk
theorem pw_aald4 (hx : p.tables.exec = Jvm.exec) (hb : c.code = cc) (hK : va_K D vwCl (tysA aC) s) (hP : Pic D aC w ad σ H) (hk : isK w i 24 = true) {j : Int32} (hin : vp_in j (wN w i)) (hdg : decode cc pc = .ok (.aaload, 1))
    (kk : W p l e R s m args below meth c H locs cells slots Q (F0 m (pc + 1) ls (.ref (ad (wR w i j.toNatClampNeg)) :: rest))) : W p l e R s m args below meth c H locs cells slots Q (F0 m pc ls (.int j :: .ref (ad i) :: rest)) := by
  have hlt : j.toNatClampNeg < wN w i := Nat.not_le.mp fun q => hin (Or.inr q)
  have h1 := (hP i (isK_2 hk)).2 (by rw [isK_1 hk]; decide) (by rw [isK_1 hk]; decide)
  rw [isK_1 hk] at h1
  exact W.aald (v := .ref (ad (wR w i j.toNatClampNeg))) (ty := .object "FrameProver$Clauses") hx hb h1 ((hK.2 4 _ rfl).1 _ _) rfl (fun q => by cases q) (by rw [arrV_size]; exact hin) (by rw [arrV_read _ _ hlt]; rfl) rfl rfl hdg kk
theorem pw_alen (hx : p.tables.exec = Jvm.exec) (hb : c.code = cc) (hK : va_K D vwCl (tysA aC) s) (hP : Pic D aC w ad σ H) (h1 : 20 ≤ wK w i) (h2 : wK w i ≤ 24) (hi : i < wS w) (hdg : decode cc pc = .ok (.arraylength, 1))
    (kk : W p l e R s m args below meth c H locs cells slots Q (F0 m (pc + 1) ls (.int (nI (wN w i)) :: rest))) : W p l e R s m args below meth c H locs cells slots Q (F0 m pc ls (.ref (ad i) :: rest)) := by
  have h3 := (hP i hi).2 h1 h2
  have hk : wK w i = 20 ∨ wK w i = 21 ∨ wK w i = 22 ∨ wK w i = 23 ∨ wK w i = 24 := by omega
  rcases hk with hk | hk | hk | hk | hk <;> rw [hk] at h3
  · exact W.alen (n := Int32.ofNat (wN w i)) hx hb h3 ((hK.2 0 _ rfl).1 _ _) (by rw [arrV_size] <;> rfl) rfl rfl hdg kk
  · exact W.alen (n := Int32.ofNat (wN w i)) hx hb h3 ((hK.2 1 _ rfl).1 _ _) (by rw [arrV_size] <;> rfl) rfl rfl hdg kk
  · exact W.alen (n := Int32.ofNat (wN w i)) hx hb h3 ((hK.2 2 _ rfl).1 _ _) (by rw [arrV_size] <;> rfl) rfl rfl hdg kk
  · exact W.alen (n := Int32.ofNat (wN w i)) hx hb h3 ((hK.2 3 _ rfl).1 _ _) (by rw [arrV_size] <;> rfl) rfl rfl hdg kk
  · exact W.alen (n := Int32.ofNat (wN w i)) hx hb h3 ((hK.2 4 _ rfl).1 _ _) (by rw [arrV_size] <;> rfl) rfl rfl hdg kk
theorem pw_iast (hx : p.tables.exec = Jvm.exec) (hb : c.code = cc) (hK : va_K D vwCl (tysA aC) s) (hP : Pic D aC w ad σ H) (hj : ∀ a b, a < wS w → b < wS w → ad a = ad b → a = b) {H0 : Heap} (hS0 : va_S (AW w ad) H0 H locs) (hk : isK w i 20 = true) {j : Int32} {x : Int32} (hin : vp_in j (wN w i)) (hdg : decode cc pc = .ok (.iastore, 1))
    (kk : ∀ (H1 : Heap) (locs1 : List Loc), Pic D aC w ad (sI σ i j.toNatClampNeg x) H1 → va_S (AW w ad) H0 H1 locs1 → W p l e R s m args below meth c H1 locs1 cells slots Q (F0 m (pc + 1) ls rest)) : W p l e R s m args below meth c H locs cells slots Q (F0 m pc ls (.int x :: .int j :: .ref (ad i) :: rest)) := by
  have h1 := (hP i (isK_2 hk)).2 (by rw [isK_1 hk]; decide) (by rw [isK_1 hk]; decide)
  rw [isK_1 hk] at h1
  refine W.iast hx hb h1 ((hK.2 0 _ rfl).1 _ _) (fun q => by cases q) (by rw [arrV_size]; exact hin) rfl rfl hdg fun H1 e1 z oq => ?_
  refine kk H1 _ (hP.put hj (isK_2 hk) oq ⟨fun z => absurd z (by rw [isK_1 hk]; decide), fun _ _ => ?_⟩ (fun a ha k => sI_1 σ ha _ k _) (fun a ha k => rfl)) (hS0.put z oq ⟨i, isK_2 hk, rfl⟩)
  rw [e1, isK_1 hk, arrV_store]
  congr 2
  funext q
  by_cases hq : q = j.toNatClampNeg
  · subst hq
    simp [updV, aV, vr, gI, sI, vp_nar]
    
  · simp [updV, aV, vr, gI, sI, hq]
theorem pw_zast (hx : p.tables.exec = Jvm.exec) (hb : c.code = cc) (hK : va_K D vwCl (tysA aC) s) (hP : Pic D aC w ad σ H) (hj : ∀ a b, a < wS w → b < wS w → ad a = ad b → a = b) {H0 : Heap} (hS0 : va_S (AW w ad) H0 H locs) (hk : isK w i 21 = true) {j : Int32} {x : Int32} (hin : vp_in j (wN w i)) (hdg : decode cc pc = .ok (.bastore, 1))
    (kk : ∀ (H1 : Heap) (locs1 : List Loc), Pic D aC w ad (sI σ i j.toNatClampNeg (vp_nar .boolean x)) H1 → va_S (AW w ad) H0 H1 locs1 → W p l e R s m args below meth c H1 locs1 cells slots Q (F0 m (pc + 1) ls rest)) : W p l e R s m args below meth c H locs cells slots Q (F0 m pc ls (.int x :: .int j :: .ref (ad i) :: rest)) := by
  have h1 := (hP i (isK_2 hk)).2 (by rw [isK_1 hk]; decide) (by rw [isK_1 hk]; decide)
  rw [isK_1 hk] at h1
  refine W.zast hx hb h1 ((hK.2 1 _ rfl).1 _ _) (fun q => by cases q) (by rw [arrV_size]; exact hin) rfl rfl hdg fun H1 e1 z oq => ?_
  refine kk H1 _ (hP.put hj (isK_2 hk) oq ⟨fun z => absurd z (by rw [isK_1 hk]; decide), fun _ _ => ?_⟩ (fun a ha k => sI_1 σ ha _ k _) (fun a ha k => rfl)) (hS0.put z oq ⟨i, isK_2 hk, rfl⟩)
  rw [e1, isK_1 hk, arrV_store]
  congr 2
  funext q
  by_cases hq : q = j.toNatClampNeg
  · subst hq
    simp [updV, aV, vr, gI, sI, vp_nar]
    try rfl
  · simp [updV, aV, vr, gI, sI, hq]
theorem pw_last (hx : p.tables.exec = Jvm.exec) (hb : c.code = cc) (hK : va_K D vwCl (tysA aC) s) (hP : Pic D aC w ad σ H) (hj : ∀ a b, a < wS w → b < wS w → ad a = ad b → a = b) {H0 : Heap} (hS0 : va_S (AW w ad) H0 H locs) (hk : isK w i 22 = true) {j : Int32} {x : Int64} (hin : vp_in j (wN w i)) (hdg : decode cc pc = .ok (.lastore, 1))
    (kk : ∀ (H1 : Heap) (locs1 : List Loc), Pic D aC w ad (sL σ i j.toNatClampNeg x) H1 → va_S (AW w ad) H0 H1 locs1 → W p l e R s m args below meth c H1 locs1 cells slots Q (F0 m (pc + 1) ls rest)) : W p l e R s m args below meth c H locs cells slots Q (F0 m pc ls (.long x :: .int j :: .ref (ad i) :: rest)) := by
  have h1 := (hP i (isK_2 hk)).2 (by rw [isK_1 hk]; decide) (by rw [isK_1 hk]; decide)
  rw [isK_1 hk] at h1
  refine W.last hx hb h1 ((hK.2 2 _ rfl).1 _ _) (fun q => by cases q) (by rw [arrV_size]; exact hin) rfl rfl hdg fun H1 e1 z oq => ?_
  refine kk H1 _ (hP.put hj (isK_2 hk) oq ⟨fun z => absurd z (by rw [isK_1 hk]; decide), fun _ _ => ?_⟩ (fun a ha k => rfl) (fun a ha k => sL_2 σ ha _ k _)) (hS0.put z oq ⟨i, isK_2 hk, rfl⟩)
  rw [e1, isK_1 hk, arrV_store]
  congr 2
  funext q
  by_cases hq : q = j.toNatClampNeg
  · subst hq
    simp [updV, aV, vr, gL, sL, vp_nar]
    
  · simp [updV, aV, vr, gL, sL, hq]
theorem pw_acopy {a0 a1 : Nat} (hx : p.tables.exec = Jvm.exec) (hb : c.code = cc) (hml : c.maxLocals = ls.size) (hown : s.vm.findClass own = some m.cls) {index : Nat} (hlink : (Cond.methodLink own index arraycopyName).before args s = true) (hnat : (Cond.native arraycopyName).before args s = true) (hstat : (Cond.static arraycopyName).before args s = true) (hini : (Cond.initialized "java/lang/System").before args s = true)
    (hK : va_K D vwCl (tysA aC) s) (hP : Pic D aC w ad σ H) (hj : ∀ a b, a < wS w → b < wS w → ad a = ad b → a = b) {H0 : Heap} (hS : va_S (AW w ad) H0 H locs) (hk0 : isK w a0 20 = true) (hk1 : isK w a1 20 = true)
    {sp dp n : Int32} (h1 : ¬ sp < 0) (h2 : ¬ dp < 0) (h3 : ¬ n < 0) (h4 : sp.toNatClampNeg + n.toNatClampNeg ≤ wN w a0) (h5 : dp.toNatClampNeg + n.toNatClampNeg ≤ wN w a1)
    (hframes : 1 ≤ R.frames) (hlocals : (rest.map fun v => v.category).sum + (nativeFrameWords "java/lang/System" "arraycopy" 5 + 11) ≤ R.locals) (hdg : decode cc pc = .ok (.invokestatic index, 3))
    (kk : ∀ (H1 : Heap) (locs1 : List Loc), Pic D aC w ad (cpI σ a0 a1 sp.toNatClampNeg dp.toNatClampNeg n.toNatClampNeg) H1 → va_S (AW w ad) H0 H1 locs1 → W p l e R s m args below meth c H1 locs1 cells slots Q (F0 m (pc + 3) ls rest)) : W p l e R s m args below meth c H locs cells slots Q (F0 m pc ls (.int n :: .int dp :: .ref (ad a1) :: .int sp :: .ref (ad a0) :: rest)) := by
  have nn : ∀ z : Int32, ¬ z < 0 → z.toInt = (z.toNatClampNeg : Int) := by
    intro z hz
    have hz0 : (0 : Int) ≤ z.toInt := by
      have := Int32.not_lt.mp hz
      simpa using Int32.le_iff_toInt_le.mp this
    show z.toInt = ((z.toInt.toNat : Nat) : Int)
    omega
  intro T hT X
  have hc0 : H[ad a0]? = some (arrV (aC 20) (wN w a0) (fun j => .int (gI σ a0 j))) := by
    have := (hP a0 (isK_2 hk0)).2 (by rw [isK_1 hk0]; decide) (by rw [isK_1 hk0]; decide)
    rw [isK_1 hk0] at this
    exact this
  have hc1 : H[ad a1]? = some (arrV (aC 20) (wN w a1) (fun j => .int (gI σ a1 j))) := by
    have := (hP a1 (isK_2 hk1)).2 (by rw [isK_1 hk1]; decide) (by rw [isK_1 hk1]; decide)
    rw [isK_1 hk1] at this
    exact this
  obtain ⟨-, k0, hq0, cm0, hkk0⟩ := (hK.2 0 _ rfl).1 (wN w a0) (fun j => .int (gI σ a0 j))
  obtain ⟨-, k1, hq1, cm1, hkk1⟩ := (hK.2 0 _ rfl).1 (wN w a1) (fun j => .int (gI σ a1 j))
  obtain ⟨vm', X', step⟩ := X.arraycopy hx hown hlink hnat hstat hini (src := ad a0) (dst := ad a1) (cs := arrV (aC 20) (wN w a0) (fun j => .int (gI σ a0 j))) (cd := arrV (aC 20) (wN w a1) (fun j => .int (gI σ a1 j))) (srcPos := sp) (destPos := dp) (n := n) (by rw [hT]; exact hc0) (by rw [hT]; exact hc1)
    (fun _ h => by cases h) (fun _ h => by cases h) (fun h => by cases h) (fun h => by cases h) hq0 hq1 hkk0 hkk1 (by simp [refKind]) h1 h2 h3
    (by rw [nn sp h1, nn n h3, arrV_size]; omega)
    (by rw [nn dp h2, nn n h3, arrV_size]; omega)
    (fun vm₁ _ i hi => by
      have e : (arrV (aC 20) (wN w a0) (fun j => .int (gI σ a0 j))).slots.getD (sp.toNatClampNeg + i) .null = .int (gI σ a0 (sp.toNatClampNeg + i)) := by
        rw [Array.getD_eq_getD_getElem?, arrV_read _ _ (by omega)]
        rfl
      refine ⟨?_, ?_⟩
      · rw [e]
        rfl
      · rw [e]
        exact trivial)
    (g := F0 m pc ls (.int n :: .int dp :: .ref (ad a1) :: .int sp :: .ref (ad a0) :: rest)) rfl (by rw [hml]) (rest := rest) rfl (by rw [hb]; exact hdg) hframes (by show 2 * 0 + _ + _ ≤ _; omega)
  have e1 : copied (arrV (aC 20) (wN w a0) (fun j => .int (gI σ a0 j))) (arrV (aC 20) (wN w a1) (fun j => .int (gI σ a1 j))) sp dp n = arrV (aC 20) (wN w a1) (fun j => .int (va_cpy (gI σ a0) (gI σ a1) sp.toNatClampNeg dp.toNatClampNeg n.toNatClampNeg j)) := va_copied (fun z => .int z) (aC 20) (aC 20) (gI σ a0) (gI σ a1) h4
  rw [e1] at X' step
  have hl : ad a1 < H.size := (Array.getElem?_eq_some_iff.mp hc1).1
  generalize hcell : arrV (aC 20) (wN w a1) (fun j => .int (va_cpy (gI σ a0) (gI σ a1) sp.toNatClampNeg dp.toNatClampNeg n.toNatClampNeg j)) = cell at X' step
  have hheap : ((T.setVm vm').setCell (ad a1) cell).heap = H.setIfInBounds (ad a1) cell := by rw [← hT]; rfl
  have oq : ∀ q : Nat, q ≠ ad a1 → (H.setIfInBounds (ad a1) cell)[q]? = H[q]? := fun q hq => by simp [Array.getElem?_setIfInBounds, Ne.symm hq]
  have hnew : (H.setIfInBounds (ad a1) cell)[ad a1]? = some cell := by simp [Array.getElem?_setIfInBounds, hl]
  obtain ⟨t, b1, b2⟩ := kk _ _ (hP.put hj (isK_2 hk1) oq ⟨fun z => absurd z (by rw [isK_1 hk1]; decide), fun _ _ => by
      rw [hnew, isK_1 hk1, ← hcell]
      congr 2
      funext j
      simp [aV, vr, gI, cpI, va_cpy]⟩ (fun a ha k => by simp [gI, cpI, ha]) (fun a ha k => rfl)) ⟨by simp; exact hS.1, fun q g1 g2 => by
      rw [oq q (fun e => g2 (by rw [e]; exact ⟨a1, isK_2 hk1, rfl⟩))]
      exact hS.2.1 q g1 g2, fun q hq => by
      rcases List.mem_append.mp hq with h | h
      · exact hS.2.2 q h
      · obtain ⟨z, -, hz⟩ := List.mem_map.mp h
        rw [← hz]
        exact ⟨a1, isK_2 hk1, rfl⟩⟩ _ hheap X'
  exact ⟨t, step t b1, b2⟩
end WROWS
