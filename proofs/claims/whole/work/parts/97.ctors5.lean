/-! BUILDING: the constructor of the frames -/
theorem dk_X1_init_0 : decode cX1_init 0 = .ok (.aload_n 0, 1) := by decide +kernel
theorem tk_225 : Cond.methodLink RX1 3 objectInit ∈ big := big_in 225 (by decide +kernel) (by decide +kernel)
theorem dk_X1_init_1 : decode cX1_init 1 = .ok (.invokespecial 3, 3) := by decide +kernel
theorem dk_X1_init_4 : decode cX1_init 4 = .ok (.aload_n 0, 1) := by decide +kernel
theorem dk_X1_init_5 : decode cX1_init 5 = .ok (.bipush 25, 2) := by decide +kernel
theorem tk_226 : Cond.classLink RX1 9 RX0 ∈ big := big_in 226 (by decide +kernel) (by decide +kernel)
theorem dk_X1_init_7 : decode cX1_init 7 = .ok (.anewarray 9, 3) := by decide +kernel
theorem dk_X1_init_10 : decode cX1_init 10 = .ok (.putfield 11, 3) := by decide +kernel
theorem dk_X1_init_13 : decode cX1_init 13 = .ok (.aload_n 0, 1) := by decide +kernel
theorem tk_228 : Cond.instantiable RX0 4 ∈ big := big_in 228 (by decide +kernel) (by decide +kernel)
theorem tk_66 : Cond.initialized RX0 ∈ big := big_in 66 (by decide +kernel) (by decide +kernel)
theorem dk_X1_init_14 : decode cX1_init 14 = .ok (.new 9, 3) := by decide +kernel
theorem dk_X1_init_17 : decode cX1_init 17 = .ok (.dup, 1) := by decide +kernel
theorem dk_X1_init_18 : decode cX1_init 18 = .ok (.iconst 0, 1) := by decide +kernel
theorem tk_229 : Cond.methodLink RX1 17 yX0_init ∈ big := big_in 229 (by decide +kernel) (by decide +kernel)
theorem tk_231 : Cond.code yX0_init cX0_init 2 none ∈ big := big_in 231 (by decide +kernel) (by decide +kernel)
theorem tk_230 : Cond.instanceMethod yX0_init ∈ big := big_in 230 (by decide +kernel) (by decide +kernel)
theorem dk_X1_init_19 : decode cX1_init 19 = .ok (.invokespecial 17, 3) := by decide +kernel
theorem dk_X1_init_22 : decode cX1_init 22 = .ok (.putfield 20, 3) := by decide +kernel
theorem dk_X1_init_25 : decode cX1_init 25 = .ok (.aload_n 0, 1) := by decide +kernel
theorem tk_256 : Cond.classLink RX1 24 RX7 ∈ big := big_in 256 (by decide +kernel) (by decide +kernel)
theorem dk_X1_init_26 : decode cX1_init 26 = .ok (.new 24, 3) := by decide +kernel
theorem dk_X1_init_29 : decode cX1_init 29 = .ok (.dup, 1) := by decide +kernel
theorem dk_X1_init_30 : decode cX1_init 30 = .ok (.invokespecial 26, 3) := by decide +kernel
theorem dk_X1_init_33 : decode cX1_init 33 = .ok (.putfield 27, 3) := by decide +kernel
theorem dk_X1_init_36 : decode cX1_init 36 = .ok (.aload_n 0, 1) := by decide +kernel
theorem dk_X1_init_37 : decode cX1_init 37 = .ok (.new 24, 3) := by decide +kernel
theorem dk_X1_init_40 : decode cX1_init 40 = .ok (.dup, 1) := by decide +kernel
theorem dk_X1_init_41 : decode cX1_init 41 = .ok (.invokespecial 26, 3) := by decide +kernel
theorem dk_X1_init_44 : decode cX1_init 44 = .ok (.putfield 31, 3) := by decide +kernel
theorem dk_X1_init_47 : decode cX1_init 47 = .ok (.aload_n 0, 1) := by decide +kernel
theorem dk_X1_init_48 : decode cX1_init 48 = .ok (.aload_n 1, 1) := by decide +kernel
theorem dk_X1_init_49 : decode cX1_init 49 = .ok (.putfield 34, 3) := by decide +kernel
theorem dk_X1_init_52 : decode cX1_init 52 = .ok (.aload_n 0, 1) := by decide +kernel
theorem dk_X1_init_53 : decode cX1_init 53 = .ok (.aload_n 2, 1) := by decide +kernel
theorem dk_X1_init_54 : decode cX1_init 54 = .ok (.putfield 38, 3) := by decide +kernel
theorem dk_X1_init_57 : decode cX1_init 57 = .ok (.iconst 0, 1) := by decide +kernel
theorem dk_X1_init_58 : decode cX1_init 58 = .ok (.istore_n 3, 1) := by decide +kernel
theorem dk_X1_init_59 : decode cX1_init 59 = .ok (.iload_n 3, 1) := by decide +kernel
theorem dk_X1_init_60 : decode cX1_init 60 = .ok (.bipush 24, 2) := by decide +kernel
theorem dk_X1_init_62 : decode cX1_init 62 = .ok (.if_icmp .gt 33, 3) := by decide +kernel
theorem dk_X1_init_65 : decode cX1_init 65 = .ok (.aload_n 0, 1) := by decide +kernel
theorem dk_X1_init_66 : decode cX1_init 66 = .ok (.getfield 11, 3) := by decide +kernel
theorem dk_X1_init_69 : decode cX1_init 69 = .ok (.iload_n 3, 1) := by decide +kernel
theorem dk_X1_init_70 : decode cX1_init 70 = .ok (.new 9, 3) := by decide +kernel
theorem dk_X1_init_73 : decode cX1_init 73 = .ok (.dup, 1) := by decide +kernel
theorem dk_X1_init_74 : decode cX1_init 74 = .ok (.iload_n 3, 1) := by decide +kernel
theorem dk_X1_init_75 : decode cX1_init 75 = .ok (.ifCond .ne 7, 3) := by decide +kernel
theorem dk_X1_init_78 : decode cX1_init 78 = .ok (.iconst 0, 1) := by decide +kernel
theorem dk_X1_init_79 : decode cX1_init 79 = .ok (.goto 6, 3) := by decide +kernel
theorem dk_X1_init_82 : decode cX1_init 82 = .ok (.sipush 200, 3) := by decide +kernel
theorem dk_X1_init_85 : decode cX1_init 85 = .ok (.invokespecial 17, 3) := by decide +kernel
theorem dk_X1_init_88 : decode cX1_init 88 = .ok (.aastore, 1) := by decide +kernel
theorem dk_X1_init_89 : decode cX1_init 89 = .ok (.iinc 3 1, 3) := by decide +kernel
theorem dk_X1_init_92 : decode cX1_init 92 = .ok (.goto (-33), 3) := by decide +kernel
theorem dk_X1_init_95 : decode cX1_init 95 = .ok (.return_, 1) := by decide +kernel
theorem fin_X1_init : ∀ k, k < 6 → inL [1, 0, 5, 4, 3, 2] k = true ∨ ((fty 1 k = .int ∨ fty 1 k = .boolean) ∧ gI iX 1054 k = 0) := by decide +kernel
set_option maxHeartbeats 4000000 in
set_option maxRecDepth 100000 in
theorem cl1_loop (l : Launch) {D : va_G} {aC : Nat → ClassId} {ad : Nat → Nat} {b : Nat} (had : ∀ i, i < wS wX → ad i = b + i) {p : Program} {e : Env} {s : State} {m : MethodId} {args : Array Value} {below : List Frame} {meth : Method} {c : Code} (hx : p.tables.exec = Jvm.exec) (hb : c.code = cX1_init) (hml : c.maxLocals = 4) (hr : meth.sig.returnType = none) (hlocks : meth.locks = false) (hown : s.vm.findClass RX1 = some m.cls) (hts : ∀ x ∈ Cond.code yX1_init cX1_init 4 none :: big, x.before args s = true) (hin : meth.name = "<init>") (hK : KC D aC ad (AW wX ad) s s.heap) :
    ∀ (n j : Nat), j ≤ 25 → 26 ≤ j + n → ∀ (f : Nat → Value) (Z : Nat → Option Cell) (H : Heap) (locs : List Loc) (ls : Array Slot), (∀ i, i < j → f i = .ref (ad (1064 + 4 * i))) → Z 1055 = some (arrV (aC 24) 25 f) → (∀ i, 1064 ≤ i → Z i = none) → BuT D aC wX ad iX b 1054 1 (1064 + 4 * j) [1, 0, 5, 4, 3, 2] [1055] Z s.heap H locs → lv_has ls 4 [(3, .int (nI j)), (0, .ref (ad 1054)), (1, .ref (ad 1)), (2, .ref (ad 13))] →
      W p l e (rmk 3 109 5069) s m args below meth c H locs (9 + 4 * j) (44 + 9 * j + 200 * (j - 1)) (MQ below (Qk D aC wX ad iX b 1054 110) args s 109 5069 (AO b wX 1054)) (F0 m 59 ls []) := by
  have hbig : ∀ x ∈ big, x ∈ Cond.code yX1_init cX1_init 4 none :: big := fun x h => List.mem_cons_of_mem _ h
  have hV := hK.1.1
  intro n
  induction n with
  | zero => intro j h1 h2; exact absurd h2 (by omega)
  | succ n ih =>
    intro j hj0 hjn f Z H locs ls hf hZ hZn hT hl
    refine lv_iload_n hx hb dk_X1_init_59 rfl (lv_at hl 0 rfl) ?_
    refine lv_bipush (v := nI 24) hx hb dk_X1_init_60 (by decide) ?_
    refine lv_icmp_gt (tgt := 95) hx hb dk_X1_init_62 (by decide) (fun hc => ?_) (fun hc => ?_)
    · have hj : j = 25 := by
        rcases Nat.lt_or_ge j 25 with q | q
        · exact absurd hc (by rw [nI_ltI (by decide) (by omega)]; omega)
        · omega
      subst hj
      have hT := hT.full rfl hZ (by decide) (by decide) (by decide) (by decide) (fun j hj => by rw [hf j hj, wr_all j hj])
      exact ct_ret had hx hb hr hlocks hT (by decide) (by decide) (fun k r hrr hk => by
        cases hrr
        exact fin_X1_init k hk) rfl rfl dk_X1_init_95
    have hj : j < 25 := by
      rw [nI_ltI (by decide) (by omega)] at hc; omega
    refine lv_aload_n hx hb dk_X1_init_65 rfl (lv_at hl 1 rfl) ?_
    refine ct_get (idx := 11) (k := 2) (v := .ref (ad 1055)) hx hb hts hbig hown hV hT fto_RX1_11 rfl rfl dk_X1_init_66 ?_
    refine lv_iload_n hx hb dk_X1_init_69 rfl (lv_at hl 0 rfl) ?_
    refine ct_new (n := 1064 + 4 * j) (cn := 0) (C := RX0) (T := TX0) (N := 4) had (by decide) hx hb hts hbig hown hV rfl tyX0_ok lay0 (hbig _ tk_226) (hbig _ tk_228) (hbig _ tk_66) (by show 1064 + 4 * j < 1175; omega) (by omega) (by show 9 + 4 * j + 1 ≤ 109; omega) (by show 44 + 9 * j + 200 * (j - 1) + 4 ≤ 5069; omega) hT dk_X1_init_70 (fun H hT hPn => ?_)
    refine lv_dup hx hb dk_X1_init_73 rfl ?_
    refine lv_iload_n hx hb dk_X1_init_74 rfl (lv_at hl 0 rfl) ?_
    have K : ∀ cap : Nat, cap = (if j = 0 then 0 else 200) → W p l e (rmk 3 109 5069) s m args below meth c H locs (9 + 4 * j + 1) (44 + 9 * j + 200 * (j - 1) + 4) (MQ below (Qk D aC wX ad iX b 1054 110) args s 109 5069 (AO b wX 1054)) (F0 m 85 ls [.int (nI cap), .ref (ad (1064 + 4 * j)), .ref (ad (1064 + 4 * j)), .int (nI j), .ref (ad 1055)]) := by
      intro cap hcap
      have hcl : IsCl (1064 + 4 * j) cap := by rw [hcap]; exact cl_frame hj
      have hc2 : cap + 200 * (j - 1) = 200 * (j + 1 - 1) := by
        rw [hcap]; split <;> omega
      refine ct_call (n := 1064 + 4 * j) (cn := 0) (rest := [.ref (ad (1064 + 4 * j)), .int (nI j), .ref (ad 1055)]) (As := [.int (nI cap)]) (cs_X0_init l hcl (by omega) (by omega)) had (by decide) hx hb hml hown hts hbig hK tk_231 (hbig _ tk_66) (hbig _ tk_230) (Or.inl (hbig _ tk_229)) rfl ⟨by decide +kernel, by decide +kernel, show _ = some 1 by decide +kernel⟩ ⟨(Nat.le_of_ble_eq_true rfl), (Nat.le_of_ble_eq_true rfl)⟩ ⟨by show 9 + 4 * j + 1 + 3 ≤ 109; omega, by show 44 + 9 * j + 200 * (j - 1) + 4 + (cap + 5) ≤ 5069; omega⟩ hl.1 (Nat.le_of_ble_eq_true rfl) (by show 1064 + 4 * j + 4 ≤ 1175; omega) (by omega) (by omega) hT hPn (hZn _ (by omega)) dk_X1_init_85 rfl (fun H locs hT => ?_)
      refine ct_ast (a := 1055) (v := 1064 + 4 * j) (N := 25) (j := j) (cn := 0) (f := f) had (by decide) hx hb hV 4 rfl ⟨_, _, rfl⟩ (by show 1064 + 4 * j + 4 ≤ 1175; omega) hT hZ (isK_1 hcl.1) (by decide) (by omega) (by omega) (by
        rw [inL_ne (by omega)]; rfl) (by decide) hj (by decide) dk_X1_init_88 (fun H locs hT => ?_)
      refine lv_iinc (v := nI (j + 1)) (lv' := [(3, .int (nI (j + 1))), (0, .ref (ad 1054)), (1, .ref (ad 1)), (2, .ref (ad 13))]) hx hb dk_X1_init_89 hl (k := 0) rfl (nI_1 j) (by decide) rfl (fun ls hl => ?_)
      refine lv_goto (tgt := 59) hx hb dk_X1_init_92 (by decide) ?_
      have e1 : 1064 + 4 * j + 4 = 1064 + 4 * (j + 1) := by omega
      rw [e1] at hT
      have e2 : 9 + 4 * j + 1 + 3 = 9 + 4 * (j + 1) := by omega
      have e3 : 44 + 9 * j + 200 * (j - 1) + 4 + (cap + 5) = 44 + 9 * (j + 1) + 200 * (j + 1 - 1) := by omega
      rw [e2, e3]
      exact ih (j + 1) hj (by omega) _ _ H locs ls (upd_fill hf) (upZ_same _ _ _) (fun i hi => by rw [upZ_other (by omega)]; exact hZn i hi) hT hl
    refine lv_if_ne (tgt := 82) hx hb dk_X1_init_75 (by decide) (fun hc => ?_) (fun hc => ?_)
    · have h0 : ¬ j = 0 := fun h => hc (by rw [h]; rfl)
      refine lv_sipush (v := nI 200) hx hb dk_X1_init_82 (by decide) ?_
      exact K 200 (by rw [if_neg h0])
    · have h0 : j = 0 := by
        rcases Nat.eq_zero_or_pos j with q | q
        · exact q
        · exact absurd hc (by
            have := nI_lt q (by omega : j < 2 ^ 31)
            intro h; rw [h] at this; exact absurd this (by decide))
      refine lv_iconst (v := nI 0) hx hb dk_X1_init_78 (by decide) ?_
      refine lv_goto (tgt := 85) hx hb dk_X1_init_79 (by decide) ?_
      exact K 0 (by rw [if_pos h0])
set_option maxHeartbeats 4000000 in
set_option maxRecDepth 100000 in
theorem cs_X1_init (l : Launch) : Cst l wX iX yX1_init cX1_init 4 3 1054 1 110 109 5069 [.ref 1, .ref 13] := by
  refine cs_of l (by decide +kernel) (Nat.le_of_ble_eq_true rfl) rfl ?_
  intro D aC ad b had p e s m args below meth c ls hx hb hml hr hlocks hown hts hin hK hT hl
  have hbig : ∀ x ∈ big, x ∈ Cond.code yX1_init cX1_init 4 none :: big := fun x h => List.mem_cons_of_mem _ h
  have hV := hK.1.1
  refine lv_aload_n hx hb dk_X1_init_0 rfl (lv_at hl 0 rfl) ?_
  refine W.objInit hx hb hown (hts _ (hbig _ tk_225)) (hts _ (hbig _ tk_79)) (hts _ (hbig _ tk_80)) rfl (hl.1.trans hml.symm) rfl dk_X1_init_1 (Nat.le_of_ble_eq_true rfl) (Nat.le_of_ble_eq_true rfl) ?_
  refine W.eq (g2 := F0 m 4 ls []) rfl ?_
  refine lv_aload_n hx hb dk_X1_init_4 rfl (lv_at hl 0 rfl) ?_
  refine lv_bipush (v := (nI 25)) hx hb dk_X1_init_5 (by decide) ?_
  obtain ⟨_, _, _, _, _, hq1055⟩ := (hV.2 4 _ rfl).2
  refine ct_newq (n := 1055) (L := 25) (cA := aC 24) had (by decide) hx hb hts hown (hbig _ tk_226) hK.2.2 hq1055 (by decide) (Nat.le_of_ble_eq_true rfl) (by decide) (by decide) (Nat.le_of_ble_eq_true rfl) (Nat.le_of_ble_eq_true rfl) hT dk_X1_init_7 (fun H hT => ?_)
  have hT : BuT D aC wX ad iX b 1054 1 1056 [] [1055] (upZ nZ 1055 (arrV (aC 24) 25 (fun _ => .null))) s.heap H [] := hT
  refine ct_put (idx := 11) (k := 2) had (by decide) hx hb hts hbig hown hV hin (by decide) hT fto_RX1_11 ⟨_, _, rfl⟩ rfl rfl rfl dk_X1_init_10 (fun H locs hT => ?_)
  have hT : BuT D aC wX ad iX b 1054 1 1056 [2] [1055] (upZ nZ 1055 (arrV (aC 24) 25 (fun _ => .null))) s.heap H locs := hT
  refine lv_aload_n hx hb dk_X1_init_13 rfl (lv_at hl 0 rfl) ?_
  refine ct_new (n := 1056) (cn := 0) (C := RX0) (T := TX0) (N := 4) had (by decide) hx hb hts hbig hown hV rfl tyX0_ok lay0 (hbig _ tk_226) (hbig _ tk_228) (hbig _ tk_66) (by decide) (by decide) (Nat.le_of_ble_eq_true rfl) (Nat.le_of_ble_eq_true rfl) hT dk_X1_init_14 (fun H hT hPn => ?_)
  have hT : BuT D aC wX ad iX b 1054 1 1057 [2] [1056, 1055] (upZ nZ 1055 (arrV (aC 24) 25 (fun _ => .null))) s.heap H locs := hT
  refine lv_dup hx hb dk_X1_init_17 rfl ?_
  refine lv_iconst (v := (nI 0)) hx hb dk_X1_init_18 (by decide) ?_
  refine ct_call (n := 1056) (cn := 0) (rest := [.ref (ad 1056), .ref (ad 1054)]) (As := [.int (nI 0)]) (cs_X0_init l (o := 1056) (cap := 0) ⟨by decide, by decide, by decide, by decide, by decide, by decide, ⟨by decide, by decide, by decide, by decide⟩, by decide⟩ (by decide) (by decide)) had (by decide) hx hb hml hown hts hbig hK tk_231 (hbig _ tk_66) (hbig _ tk_230) (Or.inl (hbig _ tk_229)) rfl (by decide +kernel) ⟨(Nat.le_of_ble_eq_true rfl), (Nat.le_of_ble_eq_true rfl)⟩ ⟨(Nat.le_of_ble_eq_true rfl), (Nat.le_of_ble_eq_true rfl)⟩ hl.1 (Nat.le_of_ble_eq_true rfl) (by decide) (by decide) (by decide) hT hPn rfl dk_X1_init_19 rfl (fun H locs hT => ?_)
  have hT : BuT D aC wX ad iX b 1054 1 1060 [2] [1055] (upZ nZ 1055 (arrV (aC 24) 25 (fun _ => .null))) s.heap H locs := hT
  refine ct_put (idx := 20) (k := 3) had (by decide) hx hb hts hbig hown hV hin (by decide) hT fto_RX1_20 ⟨_, _, rfl⟩ rfl rfl rfl dk_X1_init_22 (fun H locs hT => ?_)
  have hT : BuT D aC wX ad iX b 1054 1 1060 [3, 2] [1055] (upZ nZ 1055 (arrV (aC 24) 25 (fun _ => .null))) s.heap H locs := hT
  refine lv_aload_n hx hb dk_X1_init_25 rfl (lv_at hl 0 rfl) ?_
  refine ct_new (n := 1060) (cn := 7) (C := RX7) (T := TX7) (N := 1) had (by decide) hx hb hts hbig hown hV rfl tyX7_ok lay7 (hbig _ tk_256) (hbig _ tk_173) (hbig _ tk_64) (by decide) (by decide) (Nat.le_of_ble_eq_true rfl) (Nat.le_of_ble_eq_true rfl) hT dk_X1_init_26 (fun H hT hPn => ?_)
  have hT : BuT D aC wX ad iX b 1054 1 1061 [3, 2] [1060, 1055] (upZ nZ 1055 (arrV (aC 24) 25 (fun _ => .null))) s.heap H locs := hT
  refine lv_dup hx hb dk_X1_init_29 rfl ?_
  refine ct_call (n := 1060) (cn := 7) (rest := [.ref (ad 1060), .ref (ad 1054)]) (As := []) (cs_X7_init l (o := 1060) ⟨by decide, by decide, by decide, by decide⟩ (by decide)) had (by decide) hx hb hml hown hts hbig hK tk_176 (hbig _ tk_64) (hbig _ tk_175) (Or.inr (by decide +kernel)) rfl (by decide +kernel) ⟨(Nat.le_of_ble_eq_true rfl), (Nat.le_of_ble_eq_true rfl)⟩ ⟨(Nat.le_of_ble_eq_true rfl), (Nat.le_of_ble_eq_true rfl)⟩ hl.1 (Nat.le_of_ble_eq_true rfl) (by decide) (by decide) (by decide) hT hPn rfl dk_X1_init_30 rfl (fun H locs hT => ?_)
  have hT : BuT D aC wX ad iX b 1054 1 1062 [3, 2] [1055] (upZ nZ 1055 (arrV (aC 24) 25 (fun _ => .null))) s.heap H locs := hT
  refine ct_put (idx := 27) (k := 4) had (by decide) hx hb hts hbig hown hV hin (by decide) hT fto_RX1_27 ⟨_, _, rfl⟩ rfl rfl rfl dk_X1_init_33 (fun H locs hT => ?_)
  have hT : BuT D aC wX ad iX b 1054 1 1062 [4, 3, 2] [1055] (upZ nZ 1055 (arrV (aC 24) 25 (fun _ => .null))) s.heap H locs := hT
  refine lv_aload_n hx hb dk_X1_init_36 rfl (lv_at hl 0 rfl) ?_
  refine ct_new (n := 1062) (cn := 7) (C := RX7) (T := TX7) (N := 1) had (by decide) hx hb hts hbig hown hV rfl tyX7_ok lay7 (hbig _ tk_256) (hbig _ tk_173) (hbig _ tk_64) (by decide) (by decide) (Nat.le_of_ble_eq_true rfl) (Nat.le_of_ble_eq_true rfl) hT dk_X1_init_37 (fun H hT hPn => ?_)
  have hT : BuT D aC wX ad iX b 1054 1 1063 [4, 3, 2] [1062, 1055] (upZ nZ 1055 (arrV (aC 24) 25 (fun _ => .null))) s.heap H locs := hT
  refine lv_dup hx hb dk_X1_init_40 rfl ?_
  refine ct_call (n := 1062) (cn := 7) (rest := [.ref (ad 1062), .ref (ad 1054)]) (As := []) (cs_X7_init l (o := 1062) ⟨by decide, by decide, by decide, by decide⟩ (by decide)) had (by decide) hx hb hml hown hts hbig hK tk_176 (hbig _ tk_64) (hbig _ tk_175) (Or.inr (by decide +kernel)) rfl (by decide +kernel) ⟨(Nat.le_of_ble_eq_true rfl), (Nat.le_of_ble_eq_true rfl)⟩ ⟨(Nat.le_of_ble_eq_true rfl), (Nat.le_of_ble_eq_true rfl)⟩ hl.1 (Nat.le_of_ble_eq_true rfl) (by decide) (by decide) (by decide) hT hPn rfl dk_X1_init_41 rfl (fun H locs hT => ?_)
  have hT : BuT D aC wX ad iX b 1054 1 1064 [4, 3, 2] [1055] (upZ nZ 1055 (arrV (aC 24) 25 (fun _ => .null))) s.heap H locs := hT
  refine ct_put (idx := 31) (k := 5) had (by decide) hx hb hts hbig hown hV hin (by decide) hT fto_RX1_31 ⟨_, _, rfl⟩ rfl rfl rfl dk_X1_init_44 (fun H locs hT => ?_)
  have hT : BuT D aC wX ad iX b 1054 1 1064 [5, 4, 3, 2] [1055] (upZ nZ 1055 (arrV (aC 24) 25 (fun _ => .null))) s.heap H locs := hT
  refine lv_aload_n hx hb dk_X1_init_47 rfl (lv_at hl 0 rfl) ?_
  refine lv_aload_n hx hb dk_X1_init_48 rfl (lv_at hl 1 rfl) ?_
  refine ct_put (idx := 34) (k := 0) had (by decide) hx hb hts hbig hown hV hin (by decide) hT fto_RX1_34 ⟨_, _, rfl⟩ rfl rfl rfl dk_X1_init_49 (fun H locs hT => ?_)
  have hT : BuT D aC wX ad iX b 1054 1 1064 [0, 5, 4, 3, 2] [1055] (upZ nZ 1055 (arrV (aC 24) 25 (fun _ => .null))) s.heap H locs := hT
  refine lv_aload_n hx hb dk_X1_init_52 rfl (lv_at hl 0 rfl) ?_
  refine lv_aload_n hx hb dk_X1_init_53 rfl (lv_at hl 2 rfl) ?_
  refine ct_put (idx := 38) (k := 1) had (by decide) hx hb hts hbig hown hV hin (by decide) hT fto_RX1_38 ⟨_, _, rfl⟩ rfl rfl rfl dk_X1_init_54 (fun H locs hT => ?_)
  have hT : BuT D aC wX ad iX b 1054 1 1064 [1, 0, 5, 4, 3, 2] [1055] (upZ nZ 1055 (arrV (aC 24) 25 (fun _ => .null))) s.heap H locs := hT
  refine lv_iconst (v := nI 0) hx hb dk_X1_init_57 (by decide) ?_
  refine lv_istore_n (lv' := [(3, .int (nI 0)), (0, .ref (ad 1054)), (1, .ref (ad 1)), (2, .ref (ad 13))]) hx hb dk_X1_init_58 rfl hl (by decide) rfl (fun ls hl => ?_)
  exact cl1_loop l had hx hb hml hr hlocks hown hts hin hK 26 0 (by decide) (by decide) _ _ H locs ls (fun i hi => absurd hi (Nat.not_lt_zero i)) (upZ_same _ _ _) (fun i hi => by rw [upZ_other (by omega)]; rfl) hT hl
