/-! THE LAW: what a call of either object does -/
def bz (x : Int32) : Int32 := if x = 0 then 0 else 1
def lwA (s : State) : Nat → Prop := fun q => s.heap.size ≤ q
/-- the two objects, side by side -/
def LwT (D : va_G) (aC : Nat → ClassId) (adX adM : Nat → Nat) (bM : Nat) (N M : Ms) (H : Heap) : Prop := bM + 27 ≤ H.size ∧ (∃ σ, RX N σ ∧ Pic D aC wX adX σ H) ∧ (∃ σ, RM M σ ∧ Pic D aC wM adM σ H)
/-- what holds all along the law -/
def LwC (p : Program) (s : State) (m : MethodId) (meth : Method) (c : Code) (b L : Nat) (xs : Nat → Int32) (D : va_G) (aC : Nat → ClassId) (adX adM : Nat → Nat) (bX bM : Nat) : Prop := lw_At p s m meth c b L xs ∧ L ≤ 2048 ∧ KK D aC adX (lwA s) s s.heap ∧ KK D aC adM (lwA s) s s.heap ∧ (∀ i, i < 1175 → adX i = bX + i) ∧ (∀ i, i < 27 → adM i = bM + i) ∧ s.heap.size ≤ bX ∧ bX + 1175 ≤ bM
abbrev LwW (p : Program) (l : Launch) (e : Env) (s : State) (m : MethodId) (below : List Frame) (meth : Method) (c : Code) (b : Nat) (H : Heap) (locs : List Loc) (g : JFrame) : Prop := W p l e room_1 s m #[Value.ref b] below meth c H locs 1202 98509 (lw_Z below #[Value.ref b] s) g
section LAW
variable {p : Program} {l : Launch} {e : Env} {s : State} {m : MethodId} {below : List Frame} {meth : Method} {c : Code} {H : Heap} {locs : List Loc} {b L : Nat} {xs : Nat → Int32} {pc : Nat} {ls : Array Slot} {rest : List Value} {D : va_G} {aC : Nat → ClassId} {adX adM : Nat → Nat} {bX bM : Nat}
theorem lw_arg (C : LwC p s m meth c b L xs D aC adX adM bX bM) (hS : va_S (lwA s) s.heap H locs) {i kk : Nat} {z : Int} (hl : lv_has ls 4 [(3, .int (nI i)), (0, .ref b), (1, .ref (adX 0)), (2, .ref (adM 0))]) (hi : i + 4 ≤ L) (hz : Int32.ofInt z = nI kk) (hk : kk < 4) (d0 : decode code pc = .ok (.aload_n 0, 1)) (d1 : decode code (pc + 1) = .ok (.iload_n 3, 1)) (d2 : decode code (pc + 1 + 1) = .ok (.iconst z, 1)) (d3 : decode code (pc + 1 + 1 + 1) = .ok (.iadd, 1)) (d4 : decode code (pc + 1 + 1 + 1 + 1) = .ok (.iaload, 1))
    (k : LwW p l e s m below meth c b H locs (F0 m (pc + 1 + 1 + 1 + 1 + 1) ls (.int (xs (i + kk)) :: rest))) : LwW p l e s m below meth c b H locs (F0 m pc ls rest) := by
  obtain ⟨⟨hx, hb, hr, hml, hown, hts, hX, hbl, hlocks, hgv⟩, hL, -⟩ := C
  have hbA : ¬ lwA s b := Nat.not_le.mpr hbl
  refine lv_aload_n hx hb d0 rfl (lv_at hl 1 rfl) ?_
  refine lv_iload_n hx hb d1 rfl (lv_at hl 0 rfl) ?_
  refine lv_iconst (v := nI kk) hx hb d2 hz ?_
  refine lv_iadd hx hb d3 ?_
  rw [i_add]
  refine va_sld hx hb hX hbl hbA hS (vp_in_nI (n := i + kk) (N := L) (by omega) (by omega)) d4 ?_
  rw [i_cl (by omega)]
  exact k
theorem lw_bool (C : LwC p s m meth c b L xs D aC adX adM bX bM) {x : Int32} (d0 : decode code pc = .ok (.ifCond .eq 7, 3)) (d1 : decode code (pc + 3) = .ok (.iconst 1, 1)) (d2 : decode code (pc + 3 + 1) = .ok (.goto 4, 3)) (d3 : decode code (pc + 7) = .ok (.iconst 0, 1))
    (k : LwW p l e s m below meth c b H locs (F0 m (pc + 8) ls (.int (bz x) :: rest))) : LwW p l e s m below meth c b H locs (F0 m pc ls (.int x :: rest)) := by
  have hx := C.1.1
  have hb := C.1.2.1
  refine lv_if_eq (tgt := pc + 7) hx hb d0 (by omega) (fun h => ?_) (fun h => ?_)
  · refine lv_iconst (v := 0) hx hb d3 (by decide) ?_
    unfold bz at k
    rw [if_pos h] at k
    exact k
  · refine lv_iconst (v := 1) hx hb d1 (by decide) ?_
    refine lv_goto (tgt := pc + 8) hx hb d2 (by omega) ?_
    unfold bz at k
    rw [if_neg h] at k
    exact k
theorem LwC.ax (C : LwC p s m meth c b L xs D aC adX adM bX bM) : (∀ q, AW wX adX q → lwA s q) ∧ (∀ q, AW wM adM q → lwA s q) ∧ (∀ i k, i < wS wX → k < wS wX → adX i = adX k → i = k) ∧ (∀ i k, i < wS wM → k < wS wM → adM i = adM k → i = k) := by
  obtain ⟨-, -, -, -, aX, aM, z1, z2⟩ := C
  refine ⟨?_, ?_, fun i k hi hk h => ?_, fun i k hi hk h => ?_⟩
  · rintro q ⟨i, h1, h2⟩
    show s.heap.size ≤ q
    rw [h2, aX i h1]; omega
  · rintro q ⟨i, h1, h2⟩
    show s.heap.size ≤ q
    rw [h2, aM i h1]; omega
  · rw [aX i hi, aX k hk] at h; omega
  · rw [aM i hi, aM k hk] at h; omega
theorem lw_callX (C : LwC p s m meth c b L xs D aC adX adM bX bM) (hS : va_S (lwA s) s.heap H locs) {N M : Ms} (hT : LwT D aC adX adM bM N M H) (hsz : ls.size = 4) {op : Int32 × Ms} {idx n : Nat} {wp : WP} (hce : ceOK l wX R_law 8 idx n (some 9) wp) {As : List Value} (hlen : As.length = n - 1) (hwp : ∀ (σ : Sg) (Q : Int32 → Sg → Prop), RX N σ → XDoes op Q → wp (.ref 0 :: As) σ (fun r τ => ∃ v, r = some (.int v) ∧ Q v τ)) (hdg : decode code pc = .ok (.invokevirtual idx, 3)) {st : List Value} (hst : st = (As.map (vr adX)).reverse ++ .ref (adX 0) :: [])
    (kk : ∀ (H1 : Heap) (locs1 : List Loc), LwT D aC adX adM bM op.2 M H1 → va_S (lwA s) s.heap H1 locs1 → LwW p l e s m below meth c b H1 locs1 (F0 m (pc + 3) ls [.int op.1])) : LwW p l e s m below meth c b H locs (F0 m pc ls st) := by
  obtain ⟨a1, a2, a3, a4⟩ := C.ax
  obtain ⟨⟨hx, hb, hr, hml, hown, hts, hX, hbl, hlocks, hgv⟩, hL, kX, kM, aX, aM, z1, z2⟩ := C
  obtain ⟨hz, ⟨σ, h1, h2⟩, τ0, h3, h4⟩ := hT
  refine pw_invR (R := room_1) (h := 8) (own := R_law) (a := 0) (As := As) (rest := []) (n := n) (ci := 9) (wp := wp) hx hb hml hown hts (fun x h => (List.mem_filter.mp h).1) kX a1 a3 h2 hS ⟨by decide, by decide⟩ hsz ⟨by decide, by decide⟩ hce (by decide) (by decide) hlen (by decide) (hwp σ (fun v τ => v = op.1 ∧ RX op.2 τ) h1 (fun τ h => ⟨rfl, h⟩)) hdg hst (fun r τ H1 locs1 hq hP1 hk1 hz1 hS1 => ?_)
  obtain ⟨v, rfl, rfl, hRX⟩ := hq
  refine kk H1 locs1 ⟨by omega, ⟨τ, hRX, hP1⟩, τ0, h3, fun i hi => wC_q (h4 i hi) (hk1 _ ?_ ?_)⟩ hS1
  · have : i < 27 := hi
    rw [aM i hi]; omega
  · rintro ⟨j, j1, j2⟩
    have : j < 1175 := j1
    rw [aM i hi, aX j j1] at j2; omega
theorem lw_callM (C : LwC p s m meth c b L xs D aC adX adM bX bM) (hS : va_S (lwA s) s.heap H locs) {N M : Ms} (hT : LwT D aC adX adM bM N M H) (hsz : ls.size = 4) {op : Int32 × Ms} {idx n : Nat} {wp : WP} (hce : ceOK l wM R_law 8 idx n (some 10) wp) {As : List Value} {v0 : Int32} (hlen : As.length = n - 1) (hwp : ∀ (σ : Sg) (Q : Int32 → Sg → Prop), RM M σ → RefDoes op Q → wp (.ref 0 :: As) σ (fun r τ => ∃ v, r = some (.int v) ∧ Q v τ)) (hdg : decode code pc = .ok (.invokevirtual idx, 3)) {st : List Value} (hst : st = (As.map (vr adM)).reverse ++ .ref (adM 0) :: [.int v0])
    (kk : ∀ (H1 : Heap) (locs1 : List Loc), LwT D aC adX adM bM N op.2 H1 → va_S (lwA s) s.heap H1 locs1 → LwW p l e s m below meth c b H1 locs1 (F0 m (pc + 3) ls [.int op.1, .int v0])) : LwW p l e s m below meth c b H locs (F0 m pc ls st) := by
  obtain ⟨a1, a2, a3, a4⟩ := C.ax
  obtain ⟨⟨hx, hb, hr, hml, hown, hts, hX, hbl, hlocks, hgv⟩, hL, kX, kM, aX, aM, z1, z2⟩ := C
  obtain ⟨hz, ⟨τ0, h3, h4⟩, σ, h1, h2⟩ := hT
  refine pw_invR (R := room_1) (h := 8) (own := R_law) (a := 0) (As := As) (rest := [.int v0]) (n := n) (ci := 10) (wp := wp) hx hb hml hown hts (fun x h => (List.mem_filter.mp h).1) kM a2 a4 h2 hS ⟨by decide, by decide⟩ hsz ⟨by decide, by decide⟩ hce (by decide) (by decide) hlen (show 1 ≤ 8 by decide) (hwp σ (fun v τ => v = op.1 ∧ RM op.2 τ) h1 (fun τ h => ⟨rfl, h⟩)) hdg hst (fun r τ H1 locs1 hq hP1 hk1 hz1 hS1 => ?_)
  obtain ⟨v, rfl, rfl, hRX⟩ := hq
  refine kk H1 locs1 ⟨by omega, ⟨τ0, h3, fun i hi => wC_q (h4 i hi) (hk1 _ ?_ ?_)⟩, τ, hRX, hP1⟩ hS1
  · have : i < 1175 := hi
    rw [aX i hi]; omega
  · rintro ⟨j, j1, j2⟩
    have : i < 1175 := hi
    rw [aX i hi, aM j j1] at j2; omega
end LAW
