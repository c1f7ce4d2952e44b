/-! BUILDING: the constructor of the steps -/
theorem dk_X8_init_0 : decode cX8_init 0 = .ok (.aload_n 0, 1) := by decide +kernel
theorem tk_170 : Cond.methodLink RX8 3 objectInit ∈ big := big_in 170 (by decide +kernel) (by decide +kernel)
theorem dk_X8_init_1 : decode cX8_init 1 = .ok (.invokespecial 3, 3) := by decide +kernel
theorem dk_X8_init_4 : decode cX8_init 4 = .ok (.aload_n 0, 1) := by decide +kernel
theorem dk_X8_init_5 : decode cX8_init 5 = .ok (.sipush 256, 3) := by decide +kernel
theorem tk_171 : Cond.classLink RX8 9 RX7 ∈ big := big_in 171 (by decide +kernel) (by decide +kernel)
theorem dk_X8_init_8 : decode cX8_init 8 = .ok (.anewarray 9, 3) := by decide +kernel
theorem dk_X8_init_11 : decode cX8_init 11 = .ok (.putfield 11, 3) := by decide +kernel
theorem dk_X8_init_14 : decode cX8_init 14 = .ok (.aload_n 0, 1) := by decide +kernel
theorem dk_X8_init_15 : decode cX8_init 15 = .ok (.sipush 256, 3) := by decide +kernel
theorem dk_X8_init_18 : decode cX8_init 18 = .ok (.anewarray 9, 3) := by decide +kernel
theorem dk_X8_init_21 : decode cX8_init 21 = .ok (.putfield 17, 3) := by decide +kernel
theorem dk_X8_init_24 : decode cX8_init 24 = .ok (.aload_n 0, 1) := by decide +kernel
theorem dk_X8_init_25 : decode cX8_init 25 = .ok (.new 9, 3) := by decide +kernel
theorem dk_X8_init_28 : decode cX8_init 28 = .ok (.dup, 1) := by decide +kernel
theorem dk_X8_init_29 : decode cX8_init 29 = .ok (.invokespecial 20, 3) := by decide +kernel
theorem dk_X8_init_32 : decode cX8_init 32 = .ok (.putfield 21, 3) := by decide +kernel
theorem dk_X8_init_35 : decode cX8_init 35 = .ok (.aload_n 0, 1) := by decide +kernel
theorem dk_X8_init_36 : decode cX8_init 36 = .ok (.new 9, 3) := by decide +kernel
theorem dk_X8_init_39 : decode cX8_init 39 = .ok (.dup, 1) := by decide +kernel
theorem dk_X8_init_40 : decode cX8_init 40 = .ok (.invokespecial 20, 3) := by decide +kernel
theorem dk_X8_init_43 : decode cX8_init 43 = .ok (.putfield 25, 3) := by decide +kernel
theorem dk_X8_init_46 : decode cX8_init 46 = .ok (.aload_n 0, 1) := by decide +kernel
theorem dk_X8_init_47 : decode cX8_init 47 = .ok (.new 9, 3) := by decide +kernel
theorem dk_X8_init_50 : decode cX8_init 50 = .ok (.dup, 1) := by decide +kernel
theorem dk_X8_init_51 : decode cX8_init 51 = .ok (.invokespecial 20, 3) := by decide +kernel
theorem dk_X8_init_54 : decode cX8_init 54 = .ok (.putfield 28, 3) := by decide +kernel
theorem dk_X8_init_57 : decode cX8_init 57 = .ok (.aload_n 0, 1) := by decide +kernel
theorem dk_X8_init_58 : decode cX8_init 58 = .ok (.new 9, 3) := by decide +kernel
theorem dk_X8_init_61 : decode cX8_init 61 = .ok (.dup, 1) := by decide +kernel
theorem dk_X8_init_62 : decode cX8_init 62 = .ok (.invokespecial 20, 3) := by decide +kernel
theorem dk_X8_init_65 : decode cX8_init 65 = .ok (.putfield 31, 3) := by decide +kernel
theorem dk_X8_init_68 : decode cX8_init 68 = .ok (.aload_n 0, 1) := by decide +kernel
theorem dk_X8_init_69 : decode cX8_init 69 = .ok (.new 9, 3) := by decide +kernel
theorem dk_X8_init_72 : decode cX8_init 72 = .ok (.dup, 1) := by decide +kernel
theorem dk_X8_init_73 : decode cX8_init 73 = .ok (.invokespecial 20, 3) := by decide +kernel
theorem dk_X8_init_76 : decode cX8_init 76 = .ok (.putfield 34, 3) := by decide +kernel
theorem dk_X8_init_79 : decode cX8_init 79 = .ok (.aload_n 0, 1) := by decide +kernel
theorem dk_X8_init_80 : decode cX8_init 80 = .ok (.new 9, 3) := by decide +kernel
theorem dk_X8_init_83 : decode cX8_init 83 = .ok (.dup, 1) := by decide +kernel
theorem dk_X8_init_84 : decode cX8_init 84 = .ok (.invokespecial 20, 3) := by decide +kernel
theorem dk_X8_init_87 : decode cX8_init 87 = .ok (.putfield 37, 3) := by decide +kernel
theorem dk_X8_init_90 : decode cX8_init 90 = .ok (.aload_n 0, 1) := by decide +kernel
theorem dk_X8_init_91 : decode cX8_init 91 = .ok (.new 9, 3) := by decide +kernel
theorem dk_X8_init_94 : decode cX8_init 94 = .ok (.dup, 1) := by decide +kernel
theorem dk_X8_init_95 : decode cX8_init 95 = .ok (.invokespecial 20, 3) := by decide +kernel
theorem dk_X8_init_98 : decode cX8_init 98 = .ok (.putfield 40, 3) := by decide +kernel
theorem dk_X8_init_101 : decode cX8_init 101 = .ok (.aload_n 0, 1) := by decide +kernel
theorem dk_X8_init_102 : decode cX8_init 102 = .ok (.iconst 1, 1) := by decide +kernel
theorem dk_X8_init_103 : decode cX8_init 103 = .ok (.putfield 43, 3) := by decide +kernel
theorem dk_X8_init_106 : decode cX8_init 106 = .ok (.aload_n 0, 1) := by decide +kernel
theorem dk_X8_init_107 : decode cX8_init 107 = .ok (.aload_n 1, 1) := by decide +kernel
theorem dk_X8_init_108 : decode cX8_init 108 = .ok (.putfield 47, 3) := by decide +kernel
theorem dk_X8_init_111 : decode cX8_init 111 = .ok (.iconst 0, 1) := by decide +kernel
theorem dk_X8_init_112 : decode cX8_init 112 = .ok (.istore_n 2, 1) := by decide +kernel
theorem dk_X8_init_113 : decode cX8_init 113 = .ok (.iload_n 2, 1) := by decide +kernel
theorem dk_X8_init_114 : decode cX8_init 114 = .ok (.sipush 256, 3) := by decide +kernel
theorem dk_X8_init_117 : decode cX8_init 117 = .ok (.if_icmp .ge 35, 3) := by decide +kernel
theorem dk_X8_init_120 : decode cX8_init 120 = .ok (.aload_n 0, 1) := by decide +kernel
theorem dk_X8_init_121 : decode cX8_init 121 = .ok (.getfield 11, 3) := by decide +kernel
theorem dk_X8_init_124 : decode cX8_init 124 = .ok (.iload_n 2, 1) := by decide +kernel
theorem dk_X8_init_125 : decode cX8_init 125 = .ok (.new 9, 3) := by decide +kernel
theorem dk_X8_init_128 : decode cX8_init 128 = .ok (.dup, 1) := by decide +kernel
theorem dk_X8_init_129 : decode cX8_init 129 = .ok (.invokespecial 20, 3) := by decide +kernel
theorem dk_X8_init_132 : decode cX8_init 132 = .ok (.aastore, 1) := by decide +kernel
theorem dk_X8_init_133 : decode cX8_init 133 = .ok (.aload_n 0, 1) := by decide +kernel
theorem dk_X8_init_134 : decode cX8_init 134 = .ok (.getfield 17, 3) := by decide +kernel
theorem dk_X8_init_137 : decode cX8_init 137 = .ok (.iload_n 2, 1) := by decide +kernel
theorem dk_X8_init_138 : decode cX8_init 138 = .ok (.new 9, 3) := by decide +kernel
theorem dk_X8_init_141 : decode cX8_init 141 = .ok (.dup, 1) := by decide +kernel
theorem dk_X8_init_142 : decode cX8_init 142 = .ok (.invokespecial 20, 3) := by decide +kernel
theorem dk_X8_init_145 : decode cX8_init 145 = .ok (.aastore, 1) := by decide +kernel
theorem dk_X8_init_146 : decode cX8_init 146 = .ok (.iinc 2 1, 3) := by decide +kernel
theorem dk_X8_init_149 : decode cX8_init 149 = .ok (.goto (-36), 3) := by decide +kernel
theorem dk_X8_init_152 : decode cX8_init 152 = .ok (.return_, 1) := by decide +kernel
theorem upZ_same (Z : Nat → Option Cell) (a : Nat) (c : Cell) : upZ Z a c a = some c := if_pos rfl
theorem upZ_other {Z : Nat → Option Cell} {a i : Nat} {c : Cell} (h : i ≠ a) : upZ Z a c i = Z i := if_neg h
theorem upd_fill {f : Nat → Value} {r : Nat → Value} {j : Nat} (h : ∀ i, i < j → f i = r i) : ∀ i, i < j + 1 → updV f j (r j) i = r i := by
  intro i hi
  unfold updV
  by_cases e : i = j
  · subst e; rw [if_pos rfl]
  · rw [if_neg e]; exact h i (by omega)
theorem lt_of_nI {a b : Nat} (h : ¬ nI b ≤ nI a) (hb : a < 2 ^ 31) : a < b := by
  rcases Nat.lt_or_ge a b with q | q
  · exact q
  · exact absurd (nI_le q hb) h
theorem fin_X8_init : ∀ k, k < 11 → inL [0, 10, 9, 8, 7, 6, 5, 4, 3, 2, 1] k = true ∨ ((fty 8 k = .int ∨ fty 8 k = .boolean) ∧ gI iX 13 k = 0) := by decide +kernel
set_option maxHeartbeats 4000000 in
set_option maxRecDepth 100000 in
theorem cl8_loop (l : Launch) {D : va_G} {aC : Nat → ClassId} {ad : Nat → Nat} {b : Nat} (had : ∀ i, i < wS wX → ad i = b + i) {p : Program} {e : Env} {s : State} {m : MethodId} {args : Array Value} {below : List Frame} {meth : Method} {c : Code} (hx : p.tables.exec = Jvm.exec) (hb : c.code = cX8_init) (hml : c.maxLocals = 3) (hr : meth.sig.returnType = none) (hlocks : meth.locks = false) (hown : s.vm.findClass RX8 = some m.cls) (hts : ∀ x ∈ Cond.code yX8_init cX8_init 3 none :: big, x.before args s = true) (hin : meth.name = "<init>") (hK : KC D aC ad (AW wX ad) s s.heap) :
    ∀ (n j : Nat), j ≤ 256 → 257 ≤ j + n → ∀ (f g : Nat → Value) (Z : Nat → Option Cell) (H : Heap) (locs : List Loc) (ls : Array Slot), (∀ i, i < j → f i = .ref (ad (30 + 4 * i))) → (∀ i, i < j → g i = .ref (ad (32 + 4 * i))) → Z 14 = some (arrV (aC 23) 256 f) → Z 15 = some (arrV (aC 23) 256 g) → (∀ i, 30 ≤ i → Z i = none) → BuT D aC wX ad iX b 13 8 (30 + 4 * j) [0, 10, 9, 8, 7, 6, 5, 4, 3, 2, 1] [15, 14] Z s.heap H locs → lv_has ls 3 [(2, .int (nI j)), (0, .ref (ad 13)), (1, .ref (ad 1))] →
      W p l e (rmk 2 1040 3107) s m args below meth c H locs (16 + 4 * j) (547 + 10 * j) (MQ below (Qk D aC wX ad iX b 13 1041) args s 1040 3107 (AO b wX 13)) (F0 m 113 ls []) := by
  have hbig : ∀ x ∈ big, x ∈ Cond.code yX8_init cX8_init 3 none :: big := fun x h => List.mem_cons_of_mem _ h
  have hV := hK.1.1
  intro n
  induction n with
  | zero => intro j h1 h2; exact absurd h2 (by omega)
  | succ n ih =>
    intro j hj0 hjn f g Z H locs ls hf hg hZ4 hZ5 hZn hT hl
    refine lv_iload_n hx hb dk_X8_init_113 rfl (lv_at hl 0 rfl) ?_
    refine lv_sipush (v := nI 256) hx hb dk_X8_init_114 (by decide) ?_
    refine lv_icmp_ge (tgt := 152) hx hb dk_X8_init_117 (by decide) (fun hc => ?_) (fun hc => ?_)
    · have hj : j = 256 := by
        rcases Nat.lt_or_ge j 256 with q | q
        · exact absurd hc (nI_ge q (by decide))
        · omega
      subst hj
      have hT := (hT.full rfl hZ5 (by decide) (by decide) (by decide) (by decide) (fun j hj => by rw [hg j hj, (wr_goes j hj).2])).full rfl hZ4 (by decide) (by decide) (by decide) (by decide) (fun j hj => by rw [hf j hj, (wr_goes j hj).1])
      exact ct_ret had hx hb hr hlocks hT (by decide) (by decide) (fun k r hrr hk => by
        cases hrr
        exact fin_X8_init k hk) rfl rfl dk_X8_init_152
    have hj : j < 256 := lt_of_nI hc (by omega)
    refine lv_aload_n hx hb dk_X8_init_120 rfl (lv_at hl 1 rfl) ?_
    refine ct_get (idx := 11) (k := 1) (v := .ref (ad 14)) hx hb hts hbig hown hV hT fto_RX8_11 rfl rfl dk_X8_init_121 ?_
    refine lv_iload_n hx hb dk_X8_init_124 rfl (lv_at hl 0 rfl) ?_
    refine ct_new (n := (30 + 4 * j)) (cn := 7) (C := RX7) (T := TX7) (N := 1) had (by decide) hx hb hts hbig hown hV rfl tyX7_ok lay7 (hbig _ tk_171) (hbig _ tk_173) (hbig _ tk_64) (by show 30 + 4 * j < 1175; omega) (by omega) (by show 16 + 4 * j + 1 ≤ 1040; omega) (by show 547 + 10 * j + 1 ≤ 3107; omega) hT dk_X8_init_125 (fun H hT hPn => ?_)
    refine lv_dup hx hb dk_X8_init_128 rfl ?_
    refine ct_call (n := (30 + 4 * j)) (cn := 7) (rest := [.ref (ad (30 + 4 * j)), .int (nI j), .ref (ad 14)]) (As := []) (cs_X7_init l (ss_goes hj) (by omega)) had (by decide) hx hb hml hown hts hbig hK tk_176 (hbig _ tk_64) (hbig _ tk_175) (Or.inr (by decide +kernel)) rfl (by decide +kernel) ⟨(Nat.le_of_ble_eq_true rfl), (Nat.le_of_ble_eq_true rfl)⟩ ⟨by show 16 + 4 * j + 1 + 1 ≤ 1040; omega, by show 547 + 10 * j + 1 + 4 ≤ 3107; omega⟩ hl.1 (Nat.le_of_ble_eq_true rfl) (by show 30 + 4 * j + 2 ≤ 1175; omega) (by omega) (by omega) hT hPn (hZn _ (by omega)) dk_X8_init_129 rfl (fun H locs hT => ?_)
    refine ct_ast (a := 14) (v := (30 + 4 * j)) (N := 256) (j := j) (cn := 7) (f := f) had (by decide) hx hb hV 3 rfl ⟨_, _, rfl⟩ (by show 30 + 4 * j + 2 ≤ 1175; omega) hT hZ4 (isK_1 (ss_goes hj).1) (by decide) (by omega) (by omega) (by
      rw [inL_ne (by omega), inL_ne (by omega)]; rfl) (by decide) hj (by decide) dk_X8_init_132 (fun H locs hT => ?_)
    have hZ5' : upZ Z 14 (arrV (aC 23) 256 (updV f j (.ref (ad (30 + 4 * j))))) 15 = some (arrV (aC 23) 256 g) := by rw [upZ_other (by decide)]; exact hZ5
    have hZn' : ∀ i, 30 ≤ i → upZ Z 14 (arrV (aC 23) 256 (updV f j (.ref (ad (30 + 4 * j))))) i = none := fun i hi => by rw [upZ_other (by omega)]; exact hZn i hi
    have hT : BuT D aC wX ad iX b 13 8 (32 + 4 * j) [0, 10, 9, 8, 7, 6, 5, 4, 3, 2, 1] [15, 14] (upZ Z 14 (arrV (aC 23) 256 (updV f j (.ref (ad (30 + 4 * j)))))) s.heap H locs := by
      have e1 : 30 + 4 * j + 2 = 32 + 4 * j := by omega
      rw [e1] at hT; exact hT
    refine lv_aload_n hx hb dk_X8_init_133 rfl (lv_at hl 1 rfl) ?_
    refine ct_get (idx := 17) (k := 2) (v := .ref (ad 15)) hx hb hts hbig hown hV hT fto_RX8_17 rfl rfl dk_X8_init_134 ?_
    refine lv_iload_n hx hb dk_X8_init_137 rfl (lv_at hl 0 rfl) ?_
    refine ct_new (n := (32 + 4 * j)) (cn := 7) (C := RX7) (T := TX7) (N := 1) had (by decide) hx hb hts hbig hown hV rfl tyX7_ok lay7 (hbig _ tk_171) (hbig _ tk_173) (hbig _ tk_64) (by show 32 + 4 * j < 1175; omega) (by omega) (by show 16 + 4 * j + 1 + 1 + 1 ≤ 1040; omega) (by show 547 + 10 * j + 1 + 4 + 1 ≤ 3107; omega) hT dk_X8_init_138 (fun H hT hPn => ?_)
    refine lv_dup hx hb dk_X8_init_141 rfl ?_
    refine ct_call (n := (32 + 4 * j)) (cn := 7) (rest := [.ref (ad (32 + 4 * j)), .int (nI j), .ref (ad 15)]) (As := []) (cs_X7_init l (ss_leads hj) (by omega)) had (by decide) hx hb hml hown hts hbig hK tk_176 (hbig _ tk_64) (hbig _ tk_175) (Or.inr (by decide +kernel)) rfl (by decide +kernel) ⟨(Nat.le_of_ble_eq_true rfl), (Nat.le_of_ble_eq_true rfl)⟩ ⟨by show 16 + 4 * j + 1 + 1 + 1 + 1 ≤ 1040; omega, by show 547 + 10 * j + 1 + 4 + 1 + 4 ≤ 3107; omega⟩ hl.1 (Nat.le_of_ble_eq_true rfl) (by show 32 + 4 * j + 2 ≤ 1175; omega) (by omega) (by omega) hT hPn (hZn' _ (by omega)) dk_X8_init_142 rfl (fun H locs hT => ?_)
    refine ct_ast (a := 15) (v := (32 + 4 * j)) (N := 256) (j := j) (cn := 7) (f := g) had (by decide) hx hb hV 3 rfl ⟨_, _, rfl⟩ (by show 32 + 4 * j + 2 ≤ 1175; omega) hT hZ5' (isK_1 (ss_leads hj).1) (by decide) (by omega) (by omega) (by
      rw [inL_ne (by omega), inL_ne (by omega)]; rfl) (by decide) hj (by decide) dk_X8_init_145 (fun H locs hT => ?_)
    refine lv_iinc (v := nI (j + 1)) (lv' := [(2, .int (nI (j + 1))), (0, .ref (ad 13)), (1, .ref (ad 1))]) hx hb dk_X8_init_146 hl (k := 0) rfl (nI_1 j) (by decide) rfl (fun ls hl => ?_)
    refine lv_goto (tgt := 113) hx hb dk_X8_init_149 (by decide) ?_
    have e1 : 32 + 4 * j + 2 = 30 + 4 * (j + 1) := by omega
    rw [e1] at hT
    have e2 : 16 + 4 * j + 1 + 1 + 1 + 1 = 16 + 4 * (j + 1) := by omega
    have e3 : 547 + 10 * j + 1 + 4 + 1 + 4 = 547 + 10 * (j + 1) := by omega
    rw [e2, e3]
    exact ih (j + 1) hj (by omega) _ _ _ H locs ls (upd_fill hf) (upd_fill hg) (by rw [upZ_other (by decide)]; exact upZ_same _ _ _) (upZ_same _ _ _) (fun i hi => by rw [upZ_other (by omega)]; exact hZn' i hi) hT hl
set_option maxHeartbeats 4000000 in
set_option maxRecDepth 100000 in
theorem cs_X8_init (l : Launch) : Cst l wX iX yX8_init cX8_init 3 2 13 8 1041 1040 3107 [.ref 1] := by
  refine cs_of l (by decide +kernel) (Nat.le_of_ble_eq_true rfl) rfl ?_
  intro D aC ad b had p e s m args below meth c ls hx hb hml hr hlocks hown hts hin hK hT hl
  have hbig : ∀ x ∈ big, x ∈ Cond.code yX8_init cX8_init 3 none :: big := fun x h => List.mem_cons_of_mem _ h
  have hV := hK.1.1
  refine lv_aload_n hx hb dk_X8_init_0 rfl (lv_at hl 0 rfl) ?_
  refine W.objInit hx hb hown (hts _ (hbig _ tk_170)) (hts _ (hbig _ tk_79)) (hts _ (hbig _ tk_80)) rfl (hl.1.trans hml.symm) rfl dk_X8_init_1 (Nat.le_of_ble_eq_true rfl) (Nat.le_of_ble_eq_true rfl) ?_
  refine W.eq (g2 := F0 m 4 ls []) rfl ?_
  refine lv_aload_n hx hb dk_X8_init_4 rfl (lv_at hl 0 rfl) ?_
  refine lv_sipush (v := (nI 256)) hx hb dk_X8_init_5 (by decide) ?_
  obtain ⟨_, _, _, _, _, hq14⟩ := (hV.2 3 _ rfl).2
  refine ct_newq (n := 14) (L := 256) (cA := aC 23) had (by decide) hx hb hts hown (hbig _ tk_171) hK.2.1 hq14 (by decide) (Nat.le_of_ble_eq_true rfl) (by decide) (by decide) (Nat.le_of_ble_eq_true rfl) (Nat.le_of_ble_eq_true rfl) hT dk_X8_init_8 (fun H hT => ?_)
  have hT : BuT D aC wX ad iX b 13 8 15 [] [14] (upZ nZ 14 (arrV (aC 23) 256 (fun _ => .null))) s.heap H [] := hT
  refine ct_put (idx := 11) (k := 1) had (by decide) hx hb hts hbig hown hV hin (by decide) hT fto_RX8_11 ⟨_, _, rfl⟩ rfl rfl rfl dk_X8_init_11 (fun H locs hT => ?_)
  have hT : BuT D aC wX ad iX b 13 8 15 [1] [14] (upZ nZ 14 (arrV (aC 23) 256 (fun _ => .null))) s.heap H locs := hT
  refine lv_aload_n hx hb dk_X8_init_14 rfl (lv_at hl 0 rfl) ?_
  refine lv_sipush (v := (nI 256)) hx hb dk_X8_init_15 (by decide) ?_
  obtain ⟨_, _, _, _, _, hq15⟩ := (hV.2 3 _ rfl).2
  refine ct_newq (n := 15) (L := 256) (cA := aC 23) had (by decide) hx hb hts hown (hbig _ tk_171) hK.2.1 hq15 (by decide) (Nat.le_of_ble_eq_true rfl) (by decide) (by decide) (Nat.le_of_ble_eq_true rfl) (Nat.le_of_ble_eq_true rfl) hT dk_X8_init_18 (fun H hT => ?_)
  have hT : BuT D aC wX ad iX b 13 8 16 [1] [15, 14] (upZ (upZ nZ 14 (arrV (aC 23) 256 (fun _ => .null))) 15 (arrV (aC 23) 256 (fun _ => .null))) s.heap H locs := hT
  refine ct_put (idx := 17) (k := 2) had (by decide) hx hb hts hbig hown hV hin (by decide) hT fto_RX8_17 ⟨_, _, rfl⟩ rfl rfl rfl dk_X8_init_21 (fun H locs hT => ?_)
  have hT : BuT D aC wX ad iX b 13 8 16 [2, 1] [15, 14] (upZ (upZ nZ 14 (arrV (aC 23) 256 (fun _ => .null))) 15 (arrV (aC 23) 256 (fun _ => .null))) s.heap H locs := hT
  refine lv_aload_n hx hb dk_X8_init_24 rfl (lv_at hl 0 rfl) ?_
  refine ct_new (n := 16) (cn := 7) (C := RX7) (T := TX7) (N := 1) had (by decide) hx hb hts hbig hown hV rfl tyX7_ok lay7 (hbig _ tk_171) (hbig _ tk_173) (hbig _ tk_64) (by decide) (by decide) (Nat.le_of_ble_eq_true rfl) (Nat.le_of_ble_eq_true rfl) hT dk_X8_init_25 (fun H hT hPn => ?_)
  have hT : BuT D aC wX ad iX b 13 8 17 [2, 1] [16, 15, 14] (upZ (upZ nZ 14 (arrV (aC 23) 256 (fun _ => .null))) 15 (arrV (aC 23) 256 (fun _ => .null))) s.heap H locs := hT
  refine lv_dup hx hb dk_X8_init_28 rfl ?_
  refine ct_call (n := 16) (cn := 7) (rest := [.ref (ad 16), .ref (ad 13)]) (As := []) (cs_X7_init l (o := 16) ⟨by decide, by decide, by decide, by decide⟩ (by decide)) had (by decide) hx hb hml hown hts hbig hK tk_176 (hbig _ tk_64) (hbig _ tk_175) (Or.inr (by decide +kernel)) rfl (by decide +kernel) ⟨(Nat.le_of_ble_eq_true rfl), (Nat.le_of_ble_eq_true rfl)⟩ ⟨(Nat.le_of_ble_eq_true rfl), (Nat.le_of_ble_eq_true rfl)⟩ hl.1 (Nat.le_of_ble_eq_true rfl) (by decide) (by decide) (by decide) hT hPn rfl dk_X8_init_29 rfl (fun H locs hT => ?_)
  have hT : BuT D aC wX ad iX b 13 8 18 [2, 1] [15, 14] (upZ (upZ nZ 14 (arrV (aC 23) 256 (fun _ => .null))) 15 (arrV (aC 23) 256 (fun _ => .null))) s.heap H locs := hT
  refine ct_put (idx := 21) (k := 3) had (by decide) hx hb hts hbig hown hV hin (by decide) hT fto_RX8_21 ⟨_, _, rfl⟩ rfl rfl rfl dk_X8_init_32 (fun H locs hT => ?_)
  have hT : BuT D aC wX ad iX b 13 8 18 [3, 2, 1] [15, 14] (upZ (upZ nZ 14 (arrV (aC 23) 256 (fun _ => .null))) 15 (arrV (aC 23) 256 (fun _ => .null))) s.heap H locs := hT
  refine lv_aload_n hx hb dk_X8_init_35 rfl (lv_at hl 0 rfl) ?_
  refine ct_new (n := 18) (cn := 7) (C := RX7) (T := TX7) (N := 1) had (by decide) hx hb hts hbig hown hV rfl tyX7_ok lay7 (hbig _ tk_171) (hbig _ tk_173) (hbig _ tk_64) (by decide) (by decide) (Nat.le_of_ble_eq_true rfl) (Nat.le_of_ble_eq_true rfl) hT dk_X8_init_36 (fun H hT hPn => ?_)
  have hT : BuT D aC wX ad iX b 13 8 19 [3, 2, 1] [18, 15, 14] (upZ (upZ nZ 14 (arrV (aC 23) 256 (fun _ => .null))) 15 (arrV (aC 23) 256 (fun _ => .null))) s.heap H locs := hT
  refine lv_dup hx hb dk_X8_init_39 rfl ?_
  refine ct_call (n := 18) (cn := 7) (rest := [.ref (ad 18), .ref (ad 13)]) (As := []) (cs_X7_init l (o := 18) ⟨by decide, by decide, by decide, by decide⟩ (by decide)) had (by decide) hx hb hml hown hts hbig hK tk_176 (hbig _ tk_64) (hbig _ tk_175) (Or.inr (by decide +kernel)) rfl (by decide +kernel) ⟨(Nat.le_of_ble_eq_true rfl), (Nat.le_of_ble_eq_true rfl)⟩ ⟨(Nat.le_of_ble_eq_true rfl), (Nat.le_of_ble_eq_true rfl)⟩ hl.1 (Nat.le_of_ble_eq_true rfl) (by decide) (by decide) (by decide) hT hPn rfl dk_X8_init_40 rfl (fun H locs hT => ?_)
  have hT : BuT D aC wX ad iX b 13 8 20 [3, 2, 1] [15, 14] (upZ (upZ nZ 14 (arrV (aC 23) 256 (fun _ => .null))) 15 (arrV (aC 23) 256 (fun _ => .null))) s.heap H locs := hT
  refine ct_put (idx := 25) (k := 4) had (by decide) hx hb hts hbig hown hV hin (by decide) hT fto_RX8_25 ⟨_, _, rfl⟩ rfl rfl rfl dk_X8_init_43 (fun H locs hT => ?_)
  have hT : BuT D aC wX ad iX b 13 8 20 [4, 3, 2, 1] [15, 14] (upZ (upZ nZ 14 (arrV (aC 23) 256 (fun _ => .null))) 15 (arrV (aC 23) 256 (fun _ => .null))) s.heap H locs := hT
  refine lv_aload_n hx hb dk_X8_init_46 rfl (lv_at hl 0 rfl) ?_
  refine ct_new (n := 20) (cn := 7) (C := RX7) (T := TX7) (N := 1) had (by decide) hx hb hts hbig hown hV rfl tyX7_ok lay7 (hbig _ tk_171) (hbig _ tk_173) (hbig _ tk_64) (by decide) (by decide) (Nat.le_of_ble_eq_true rfl) (Nat.le_of_ble_eq_true rfl) hT dk_X8_init_47 (fun H hT hPn => ?_)
  have hT : BuT D aC wX ad iX b 13 8 21 [4, 3, 2, 1] [20, 15, 14] (upZ (upZ nZ 14 (arrV (aC 23) 256 (fun _ => .null))) 15 (arrV (aC 23) 256 (fun _ => .null))) s.heap H locs := hT
  refine lv_dup hx hb dk_X8_init_50 rfl ?_
  refine ct_call (n := 20) (cn := 7) (rest := [.ref (ad 20), .ref (ad 13)]) (As := []) (cs_X7_init l (o := 20) ⟨by decide, by decide, by decide, by decide⟩ (by decide)) had (by decide) hx hb hml hown hts hbig hK tk_176 (hbig _ tk_64) (hbig _ tk_175) (Or.inr (by decide +kernel)) rfl (by decide +kernel) ⟨(Nat.le_of_ble_eq_true rfl), (Nat.le_of_ble_eq_true rfl)⟩ ⟨(Nat.le_of_ble_eq_true rfl), (Nat.le_of_ble_eq_true rfl)⟩ hl.1 (Nat.le_of_ble_eq_true rfl) (by decide) (by decide) (by decide) hT hPn rfl dk_X8_init_51 rfl (fun H locs hT => ?_)
  have hT : BuT D aC wX ad iX b 13 8 22 [4, 3, 2, 1] [15, 14] (upZ (upZ nZ 14 (arrV (aC 23) 256 (fun _ => .null))) 15 (arrV (aC 23) 256 (fun _ => .null))) s.heap H locs := hT
  refine ct_put (idx := 28) (k := 5) had (by decide) hx hb hts hbig hown hV hin (by decide) hT fto_RX8_28 ⟨_, _, rfl⟩ rfl rfl rfl dk_X8_init_54 (fun H locs hT => ?_)
  have hT : BuT D aC wX ad iX b 13 8 22 [5, 4, 3, 2, 1] [15, 14] (upZ (upZ nZ 14 (arrV (aC 23) 256 (fun _ => .null))) 15 (arrV (aC 23) 256 (fun _ => .null))) s.heap H locs := hT
  refine lv_aload_n hx hb dk_X8_init_57 rfl (lv_at hl 0 rfl) ?_
  refine ct_new (n := 22) (cn := 7) (C := RX7) (T := TX7) (N := 1) had (by decide) hx hb hts hbig hown hV rfl tyX7_ok lay7 (hbig _ tk_171) (hbig _ tk_173) (hbig _ tk_64) (by decide) (by decide) (Nat.le_of_ble_eq_true rfl) (Nat.le_of_ble_eq_true rfl) hT dk_X8_init_58 (fun H hT hPn => ?_)
  have hT : BuT D aC wX ad iX b 13 8 23 [5, 4, 3, 2, 1] [22, 15, 14] (upZ (upZ nZ 14 (arrV (aC 23) 256 (fun _ => .null))) 15 (arrV (aC 23) 256 (fun _ => .null))) s.heap H locs := hT
  refine lv_dup hx hb dk_X8_init_61 rfl ?_
  refine ct_call (n := 22) (cn := 7) (rest := [.ref (ad 22), .ref (ad 13)]) (As := []) (cs_X7_init l (o := 22) ⟨by decide, by decide, by decide, by decide⟩ (by decide)) had (by decide) hx hb hml hown hts hbig hK tk_176 (hbig _ tk_64) (hbig _ tk_175) (Or.inr (by decide +kernel)) rfl (by decide +kernel) ⟨(Nat.le_of_ble_eq_true rfl), (Nat.le_of_ble_eq_true rfl)⟩ ⟨(Nat.le_of_ble_eq_true rfl), (Nat.le_of_ble_eq_true rfl)⟩ hl.1 (Nat.le_of_ble_eq_true rfl) (by decide) (by decide) (by decide) hT hPn rfl dk_X8_init_62 rfl (fun H locs hT => ?_)
  have hT : BuT D aC wX ad iX b 13 8 24 [5, 4, 3, 2, 1] [15, 14] (upZ (upZ nZ 14 (arrV (aC 23) 256 (fun _ => .null))) 15 (arrV (aC 23) 256 (fun _ => .null))) s.heap H locs := hT
  refine ct_put (idx := 31) (k := 6) had (by decide) hx hb hts hbig hown hV hin (by decide) hT fto_RX8_31 ⟨_, _, rfl⟩ rfl rfl rfl dk_X8_init_65 (fun H locs hT => ?_)
  have hT : BuT D aC wX ad iX b 13 8 24 [6, 5, 4, 3, 2, 1] [15, 14] (upZ (upZ nZ 14 (arrV (aC 23) 256 (fun _ => .null))) 15 (arrV (aC 23) 256 (fun _ => .null))) s.heap H locs := hT
  refine lv_aload_n hx hb dk_X8_init_68 rfl (lv_at hl 0 rfl) ?_
  refine ct_new (n := 24) (cn := 7) (C := RX7) (T := TX7) (N := 1) had (by decide) hx hb hts hbig hown hV rfl tyX7_ok lay7 (hbig _ tk_171) (hbig _ tk_173) (hbig _ tk_64) (by decide) (by decide) (Nat.le_of_ble_eq_true rfl) (Nat.le_of_ble_eq_true rfl) hT dk_X8_init_69 (fun H hT hPn => ?_)
  have hT : BuT D aC wX ad iX b 13 8 25 [6, 5, 4, 3, 2, 1] [24, 15, 14] (upZ (upZ nZ 14 (arrV (aC 23) 256 (fun _ => .null))) 15 (arrV (aC 23) 256 (fun _ => .null))) s.heap H locs := hT
  refine lv_dup hx hb dk_X8_init_72 rfl ?_
  refine ct_call (n := 24) (cn := 7) (rest := [.ref (ad 24), .ref (ad 13)]) (As := []) (cs_X7_init l (o := 24) ⟨by decide, by decide, by decide, by decide⟩ (by decide)) had (by decide) hx hb hml hown hts hbig hK tk_176 (hbig _ tk_64) (hbig _ tk_175) (Or.inr (by decide +kernel)) rfl (by decide +kernel) ⟨(Nat.le_of_ble_eq_true rfl), (Nat.le_of_ble_eq_true rfl)⟩ ⟨(Nat.le_of_ble_eq_true rfl), (Nat.le_of_ble_eq_true rfl)⟩ hl.1 (Nat.le_of_ble_eq_true rfl) (by decide) (by decide) (by decide) hT hPn rfl dk_X8_init_73 rfl (fun H locs hT => ?_)
  have hT : BuT D aC wX ad iX b 13 8 26 [6, 5, 4, 3, 2, 1] [15, 14] (upZ (upZ nZ 14 (arrV (aC 23) 256 (fun _ => .null))) 15 (arrV (aC 23) 256 (fun _ => .null))) s.heap H locs := hT
  refine ct_put (idx := 34) (k := 7) had (by decide) hx hb hts hbig hown hV hin (by decide) hT fto_RX8_34 ⟨_, _, rfl⟩ rfl rfl rfl dk_X8_init_76 (fun H locs hT => ?_)
  have hT : BuT D aC wX ad iX b 13 8 26 [7, 6, 5, 4, 3, 2, 1] [15, 14] (upZ (upZ nZ 14 (arrV (aC 23) 256 (fun _ => .null))) 15 (arrV (aC 23) 256 (fun _ => .null))) s.heap H locs := hT
  refine lv_aload_n hx hb dk_X8_init_79 rfl (lv_at hl 0 rfl) ?_
  refine ct_new (n := 26) (cn := 7) (C := RX7) (T := TX7) (N := 1) had (by decide) hx hb hts hbig hown hV rfl tyX7_ok lay7 (hbig _ tk_171) (hbig _ tk_173) (hbig _ tk_64) (by decide) (by decide) (Nat.le_of_ble_eq_true rfl) (Nat.le_of_ble_eq_true rfl) hT dk_X8_init_80 (fun H hT hPn => ?_)
  have hT : BuT D aC wX ad iX b 13 8 27 [7, 6, 5, 4, 3, 2, 1] [26, 15, 14] (upZ (upZ nZ 14 (arrV (aC 23) 256 (fun _ => .null))) 15 (arrV (aC 23) 256 (fun _ => .null))) s.heap H locs := hT
  refine lv_dup hx hb dk_X8_init_83 rfl ?_
  refine ct_call (n := 26) (cn := 7) (rest := [.ref (ad 26), .ref (ad 13)]) (As := []) (cs_X7_init l (o := 26) ⟨by decide, by decide, by decide, by decide⟩ (by decide)) had (by decide) hx hb hml hown hts hbig hK tk_176 (hbig _ tk_64) (hbig _ tk_175) (Or.inr (by decide +kernel)) rfl (by decide +kernel) ⟨(Nat.le_of_ble_eq_true rfl), (Nat.le_of_ble_eq_true rfl)⟩ ⟨(Nat.le_of_ble_eq_true rfl), (Nat.le_of_ble_eq_true rfl)⟩ hl.1 (Nat.le_of_ble_eq_true rfl) (by decide) (by decide) (by decide) hT hPn rfl dk_X8_init_84 rfl (fun H locs hT => ?_)
  have hT : BuT D aC wX ad iX b 13 8 28 [7, 6, 5, 4, 3, 2, 1] [15, 14] (upZ (upZ nZ 14 (arrV (aC 23) 256 (fun _ => .null))) 15 (arrV (aC 23) 256 (fun _ => .null))) s.heap H locs := hT
  refine ct_put (idx := 37) (k := 8) had (by decide) hx hb hts hbig hown hV hin (by decide) hT fto_RX8_37 ⟨_, _, rfl⟩ rfl rfl rfl dk_X8_init_87 (fun H locs hT => ?_)
  have hT : BuT D aC wX ad iX b 13 8 28 [8, 7, 6, 5, 4, 3, 2, 1] [15, 14] (upZ (upZ nZ 14 (arrV (aC 23) 256 (fun _ => .null))) 15 (arrV (aC 23) 256 (fun _ => .null))) s.heap H locs := hT
  refine lv_aload_n hx hb dk_X8_init_90 rfl (lv_at hl 0 rfl) ?_
  refine ct_new (n := 28) (cn := 7) (C := RX7) (T := TX7) (N := 1) had (by decide) hx hb hts hbig hown hV rfl tyX7_ok lay7 (hbig _ tk_171) (hbig _ tk_173) (hbig _ tk_64) (by decide) (by decide) (Nat.le_of_ble_eq_true rfl) (Nat.le_of_ble_eq_true rfl) hT dk_X8_init_91 (fun H hT hPn => ?_)
  have hT : BuT D aC wX ad iX b 13 8 29 [8, 7, 6, 5, 4, 3, 2, 1] [28, 15, 14] (upZ (upZ nZ 14 (arrV (aC 23) 256 (fun _ => .null))) 15 (arrV (aC 23) 256 (fun _ => .null))) s.heap H locs := hT
  refine lv_dup hx hb dk_X8_init_94 rfl ?_
  refine ct_call (n := 28) (cn := 7) (rest := [.ref (ad 28), .ref (ad 13)]) (As := []) (cs_X7_init l (o := 28) ⟨by decide, by decide, by decide, by decide⟩ (by decide)) had (by decide) hx hb hml hown hts hbig hK tk_176 (hbig _ tk_64) (hbig _ tk_175) (Or.inr (by decide +kernel)) rfl (by decide +kernel) ⟨(Nat.le_of_ble_eq_true rfl), (Nat.le_of_ble_eq_true rfl)⟩ ⟨(Nat.le_of_ble_eq_true rfl), (Nat.le_of_ble_eq_true rfl)⟩ hl.1 (Nat.le_of_ble_eq_true rfl) (by decide) (by decide) (by decide) hT hPn rfl dk_X8_init_95 rfl (fun H locs hT => ?_)
  have hT : BuT D aC wX ad iX b 13 8 30 [8, 7, 6, 5, 4, 3, 2, 1] [15, 14] (upZ (upZ nZ 14 (arrV (aC 23) 256 (fun _ => .null))) 15 (arrV (aC 23) 256 (fun _ => .null))) s.heap H locs := hT
  refine ct_put (idx := 40) (k := 9) had (by decide) hx hb hts hbig hown hV hin (by decide) hT fto_RX8_40 ⟨_, _, rfl⟩ rfl rfl rfl dk_X8_init_98 (fun H locs hT => ?_)
  have hT : BuT D aC wX ad iX b 13 8 30 [9, 8, 7, 6, 5, 4, 3, 2, 1] [15, 14] (upZ (upZ nZ 14 (arrV (aC 23) 256 (fun _ => .null))) 15 (arrV (aC 23) 256 (fun _ => .null))) s.heap H locs := hT
  refine lv_aload_n hx hb dk_X8_init_101 rfl (lv_at hl 0 rfl) ?_
  refine lv_iconst (v := (nI 1)) hx hb dk_X8_init_102 (by decide) ?_
  refine ct_put (idx := 43) (k := 10) had (by decide) hx hb hts hbig hown hV hin (by decide) hT fto_RX8_43 ⟨_, _, rfl⟩ rfl rfl rfl dk_X8_init_103 (fun H locs hT => ?_)
  have hT : BuT D aC wX ad iX b 13 8 30 [10, 9, 8, 7, 6, 5, 4, 3, 2, 1] [15, 14] (upZ (upZ nZ 14 (arrV (aC 23) 256 (fun _ => .null))) 15 (arrV (aC 23) 256 (fun _ => .null))) s.heap H locs := hT
  refine lv_aload_n hx hb dk_X8_init_106 rfl (lv_at hl 0 rfl) ?_
  refine lv_aload_n hx hb dk_X8_init_107 rfl (lv_at hl 1 rfl) ?_
  refine ct_put (idx := 47) (k := 0) had (by decide) hx hb hts hbig hown hV hin (by decide) hT fto_RX8_47 ⟨_, _, rfl⟩ rfl rfl rfl dk_X8_init_108 (fun H locs hT => ?_)
  have hT : BuT D aC wX ad iX b 13 8 30 [0, 10, 9, 8, 7, 6, 5, 4, 3, 2, 1] [15, 14] (upZ (upZ nZ 14 (arrV (aC 23) 256 (fun _ => .null))) 15 (arrV (aC 23) 256 (fun _ => .null))) s.heap H locs := hT
  refine lv_iconst (v := nI 0) hx hb dk_X8_init_111 (by decide) ?_
  refine lv_istore_n (lv' := [(2, .int (nI 0)), (0, .ref (ad 13)), (1, .ref (ad 1))]) hx hb dk_X8_init_112 rfl hl (by decide) rfl (fun ls hl => ?_)
  exact cl8_loop l had hx hb hml hr hlocks hown hts hin hK 257 0 (by decide) (by decide) _ _ _ H locs ls (fun i hi => absurd hi (Nat.not_lt_zero i)) (fun i hi => absurd hi (Nat.not_lt_zero i)) (by rw [upZ_other (by decide)]; exact upZ_same _ _ _) (upZ_same _ _ _) (fun i hi => by rw [upZ_other (by omega), upZ_other (by omega)]; rfl) hT hl
