/-! BUILDING: the constructors of sets, signs, clauses -/
theorem tk_177 : Cond.methodLink RX7 3 objectInit ∈ big := big_in 177 (by decide +kernel) (by decide +kernel)
theorem tk_79 : Cond.instanceMethod objectInit ∈ big := big_in 79 (by decide +kernel) (by decide +kernel)
theorem tk_80 : Cond.code objectInit ⟨#[0xb1]⟩ 1 none ∈ big := big_in 80 (by decide +kernel) (by decide +kernel)
theorem tk_182 : Cond.arrayClass .long ∈ big := big_in 182 (by decide +kernel) (by decide +kernel)
theorem tk_106 : Cond.arrayClass .int ∈ big := big_in 106 (by decide +kernel) (by decide +kernel)
theorem tk_107 : Cond.arrayClass .boolean ∈ big := big_in 107 (by decide +kernel) (by decide +kernel)
theorem tk_62 : Cond.initialized "java/lang/Math" ∈ big := big_in 62 (by decide +kernel) (by decide +kernel)
theorem dk_X7_init_0 : decode cX7_init 0 = .ok (.aload_n 0, 1) := by decide +kernel
theorem dk_X7_init_1 : decode cX7_init 1 = .ok (.invokespecial 3, 3) := by decide +kernel
theorem dk_X7_init_4 : decode cX7_init 4 = .ok (.aload_n 0, 1) := by decide +kernel
theorem dk_X7_init_5 : decode cX7_init 5 = .ok (.iconst 4, 1) := by decide +kernel
theorem dk_X7_init_6 : decode cX7_init 6 = .ok (.newarray .long, 2) := by decide +kernel
theorem dk_X7_init_8 : decode cX7_init 8 = .ok (.putfield 11, 3) := by decide +kernel
theorem dk_X7_init_11 : decode cX7_init 11 = .ok (.return_, 1) := by decide +kernel
theorem iX_0 {a k : Nat} (h : a ≠ 1) (h2 : a ≠ 1171) (h3 : a ≠ 13) : gI iX a k = 0 := by
  show (if (a = 1 ∧ k = 9) ∨ (a = 1171 ∧ (k = 3 ∨ k = 4)) then (-1 : Int32) else if a = 13 ∧ k = 10 then 1 else 0) = 0
  rw [if_neg (by omega), if_neg (by omega)]
theorem cs_X7_init (l : Launch) {o : Nat} (ho : IsSS o) (hoS : o + 1 < 1175) : Cst l wX iX yX7_init cX7_init 1 1 o 7 2 1 4 [] := by
  refine cs_of l (by decide +kernel) (Nat.le_of_ble_eq_true rfl) rfl ?_
  intro D aC ad b had p e s m args below meth c ls hx hb hml hr hlocks hown hts hin hK hT hl
  have hbig : ∀ x ∈ big, x ∈ Cond.code yX7_init cX7_init 1 none :: big := fun x h => List.mem_cons_of_mem _ h
  have hV := hK.1.1
  have hk0 : wK wX o = 7 := isK_1 ho.1
  have hkA : wK wX (o + 1) = 22 := isK_1 ho.2.2.1
  refine lv_aload_n hx hb dk_X7_init_0 rfl (lv_at hl 0 rfl) ?_
  refine W.objInit hx hb hown (hts _ (hbig _ tk_177)) (hts _ (hbig _ tk_79)) (hts _ (hbig _ tk_80)) rfl (hl.1.trans hml.symm) rfl dk_X7_init_1 (Nat.le_of_ble_eq_true rfl) (Nat.le_of_ble_eq_true rfl) ?_
  refine W.eq (g2 := F0 m 4 ls []) rfl ?_
  refine lv_aload_n hx hb dk_X7_init_4 rfl (lv_at hl 0 rfl) ?_
  refine lv_iconst (v := nI 4) hx hb dk_X7_init_5 (by decide) ?_
  refine ct_newa (kd := 22) (n := o + 1) (L := 4) had (by show o < 1175; omega) hx hb hts (atype := .long) (ty := .long) rfl (hbig _ tk_182) (hV.2 2 _ rfl).2 (by decide) (by decide) (by show _ < 1175; omega) (by omega) hkA (by decide) (by decide) ho.2.2.2 (fun _ => rfl) (Nat.le_of_ble_eq_true rfl) (Nat.le_of_ble_eq_true rfl) hT dk_X7_init_6 (fun H hT => ?_)
  refine ct_put (idx := 11) (k := 0) had (by show o < 1175; omega) hx hb hts hbig hown hV hin (by show _ ≤ 1175; omega) hT fto_RX7_11 ⟨_, _, rfl⟩ (by show Value.ref (ad (wR wX o 0)) = _; rw [ho.2.1]) rfl rfl dk_X7_init_8 (fun H locs hT => ?_)
  exact ct_ret had hx hb hr hlocks hT hk0 (by decide) (fun k r hrr hk => by
    cases hrr
    have : k = 0 := Nat.lt_one_iff.mp hk
    subst this
    exact Or.inl rfl) rfl rfl dk_X7_init_11
theorem tk_92 : Cond.methodLink RX6 3 objectInit ∈ big := big_in 92 (by decide +kernel) (by decide +kernel)
theorem dk_X6_init_0 : decode cX6_init 0 = .ok (.aload_n 0, 1) := by decide +kernel
theorem dk_X6_init_1 : decode cX6_init 1 = .ok (.invokespecial 3, 3) := by decide +kernel
theorem dk_X6_init_4 : decode cX6_init 4 = .ok (.aload_n 0, 1) := by decide +kernel
theorem dk_X6_init_5 : decode cX6_init 5 = .ok (.iload_n 1, 1) := by decide +kernel
theorem dk_X6_init_6 : decode cX6_init 6 = .ok (.iconst 0, 1) := by decide +kernel
theorem dk_X6_init_7 : decode cX6_init 7 = .ok (.invokestatic 9, 3) := by decide +kernel
theorem dk_X6_init_10 : decode cX6_init 10 = .ok (.newarray .int, 2) := by decide +kernel
theorem dk_X6_init_12 : decode cX6_init 12 = .ok (.putfield 15, 3) := by decide +kernel
theorem dk_X6_init_15 : decode cX6_init 15 = .ok (.return_, 1) := by decide +kernel
theorem cs_X6_init (l : Launch) {o cap : Nat} (hk0 : wK wX o = 6) (hr0 : wR wX o 0 = o + 1) (hkA : wK wX (o + 1) = 20) (hnA : wN wX (o + 1) = cap) (hcap : cap ≤ 80) (h1 : 2 ≤ o) (h2 : o + 1 < 13) : Cst l wX iX yX6_init cX6_init 2 1 o 6 2 1 cap [.int (nI cap)] := by
  refine cs_of l (by decide +kernel) (Nat.le_of_ble_eq_true rfl) rfl ?_
  intro D aC ad b had p e s m args below meth c ls hx hb hml hr hlocks hown hts hin hK hT hl
  have hbig : ∀ x ∈ big, x ∈ Cond.code yX6_init cX6_init 2 none :: big := fun x h => List.mem_cons_of_mem _ h
  have hV := hK.1.1
  refine lv_aload_n hx hb dk_X6_init_0 rfl (lv_at hl 0 rfl) ?_
  refine W.objInit hx hb hown (hts _ (hbig _ tk_92)) (hts _ (hbig _ tk_79)) (hts _ (hbig _ tk_80)) rfl (hl.1.trans hml.symm) rfl dk_X6_init_1 (Nat.le_of_ble_eq_true rfl) (Nat.le_of_ble_eq_true rfl) ?_
  refine W.eq (g2 := F0 m 4 ls []) rfl ?_
  refine lv_aload_n hx hb dk_X6_init_4 rfl (lv_at hl 0 rfl) ?_
  refine lv_iload_n hx hb dk_X6_init_5 rfl (lv_at hl 1 rfl) ?_
  refine lv_iconst (v := nI 0) hx hb dk_X6_init_6 (by decide) ?_
  refine va_mmax (own := RX6) hx hb (hml.trans hl.1.symm) hown (hts _ (hbig _ (big_in 93 (by decide +kernel) (by decide +kernel)))) (hts _ (hbig _ (big_in 94 (by decide +kernel) (by decide +kernel)))) (hts _ (hbig _ tk_62)) (hts _ (hbig _ (big_in 95 (by decide +kernel) (by decide +kernel)))) (Nat.le_of_ble_eq_true rfl) (Nat.le_of_ble_eq_true rfl) (by show _ ≤ _; omega) (by show _ ≤ _; omega) dk_X6_init_7 ?_
  rw [if_neg (show ¬ nI cap < nI 0 from nI_pos (by omega))]
  refine ct_newa (kd := 20) (n := o + 1) (L := cap) had (by show o < 1175; omega) hx hb hts (atype := .int) (ty := .int) rfl (hbig _ tk_106) (hV.2 0 _ rfl).2 (by omega) (by show cap * 4 ≤ _; omega) (by show _ < 1175; omega) (by omega) hkA (by decide) (by decide) hnA (fun j => by show Value.int (gI iX (o + 1) j) = _; rw [iX_0 (by omega) (by omega) (by omega)]; rfl) (Nat.le_of_ble_eq_true rfl) (by show 0 + cap ≤ cap; omega) hT dk_X6_init_10 (fun H hT => ?_)
  refine ct_put (idx := 15) (k := 0) had (by show o < 1175; omega) hx hb hts hbig hown hV hin (by show _ ≤ 1175; omega) hT fto_RX6_15 ⟨_, _, rfl⟩ (by show Value.ref (ad (wR wX o 0)) = _; rw [hr0]) rfl rfl dk_X6_init_12 (fun H locs hT => ?_)
  exact ct_ret had hx hb hr hlocks hT hk0 (by decide) (fun k r hrr hk => by
    cases hrr
    have hk : k < 2 := hk
    rcases (show k = 0 ∨ k = 1 by omega) with rfl | rfl
    · exact Or.inl rfl
    · exact Or.inr ⟨Or.inl rfl, iX_0 (by omega) (by omega) (by omega)⟩) rfl (by omega) dk_X6_init_15
theorem tk_232 : Cond.methodLink RX0 1 objectInit ∈ big := big_in 232 (by decide +kernel) (by decide +kernel)
theorem tk_233 : Cond.classLink RX0 7 RX7 ∈ big := big_in 233 (by decide +kernel) (by decide +kernel)
theorem tk_173 : Cond.instantiable RX7 1 ∈ big := big_in 173 (by decide +kernel) (by decide +kernel)
theorem tk_64 : Cond.initialized RX7 ∈ big := big_in 64 (by decide +kernel) (by decide +kernel)
theorem tk_175 : Cond.instanceMethod yX7_init ∈ big := big_in 175 (by decide +kernel) (by decide +kernel)
theorem tk_176 : Cond.code yX7_init cX7_init 1 none ∈ big := big_in 176 (by decide +kernel) (by decide +kernel)
theorem dk_X0_init_0 : decode cX0_init 0 = .ok (.aload_n 0, 1) := by decide +kernel
theorem dk_X0_init_1 : decode cX0_init 1 = .ok (.invokespecial 1, 3) := by decide +kernel
theorem dk_X0_init_4 : decode cX0_init 4 = .ok (.aload_n 0, 1) := by decide +kernel
theorem dk_X0_init_5 : decode cX0_init 5 = .ok (.new 7, 3) := by decide +kernel
theorem dk_X0_init_8 : decode cX0_init 8 = .ok (.dup, 1) := by decide +kernel
theorem dk_X0_init_9 : decode cX0_init 9 = .ok (.invokespecial 9, 3) := by decide +kernel
theorem dk_X0_init_12 : decode cX0_init 12 = .ok (.putfield 10, 3) := by decide +kernel
theorem dk_X0_init_15 : decode cX0_init 15 = .ok (.aload_n 0, 1) := by decide +kernel
theorem dk_X0_init_16 : decode cX0_init 16 = .ok (.iload_n 1, 1) := by decide +kernel
theorem dk_X0_init_17 : decode cX0_init 17 = .ok (.iconst 0, 1) := by decide +kernel
theorem dk_X0_init_18 : decode cX0_init 18 = .ok (.invokestatic 16, 3) := by decide +kernel
theorem dk_X0_init_21 : decode cX0_init 21 = .ok (.newarray .int, 2) := by decide +kernel
theorem dk_X0_init_23 : decode cX0_init 23 = .ok (.putfield 22, 3) := by decide +kernel
theorem dk_X0_init_26 : decode cX0_init 26 = .ok (.return_, 1) := by decide +kernel
theorem nest_X0 : Cond.methodLinkNest RX0 9 yX7_init "FrameProver" ∈ nestW := by decide +kernel
theorem cs_X0_init (l : Launch) {o cap : Nat} (ho : IsCl o cap) (h1 : 1054 ≤ o) (h2 : o ≤ 1167) : Cst l wX iX yX0_init cX0_init 2 2 o 0 4 3 (cap + 5) [.int (nI cap)] := by
  obtain ⟨c1, c2, c3, c4, c5, c6, c7, c8⟩ := ho
  have hk0 : wK wX o = 0 := isK_1 c1
  have hkA : wK wX (o + 3) = 20 := isK_1 c5
  refine cs_of l (by decide +kernel) (Nat.le_of_ble_eq_true rfl) rfl ?_
  intro D aC ad b had p e s m args below meth c ls hx hb hml hr hlocks hown hts hin hK hT hl
  have hbig : ∀ x ∈ big, x ∈ Cond.code yX0_init cX0_init 2 none :: big := fun x h => List.mem_cons_of_mem _ h
  have hV := hK.1.1
  refine lv_aload_n hx hb dk_X0_init_0 rfl (lv_at hl 0 rfl) ?_
  refine W.objInit hx hb hown (hts _ (hbig _ tk_232)) (hts _ (hbig _ tk_79)) (hts _ (hbig _ tk_80)) rfl (hl.1.trans hml.symm) rfl dk_X0_init_1 (Nat.le_of_ble_eq_true rfl) (Nat.le_of_ble_eq_true rfl) ?_
  refine W.eq (g2 := F0 m 4 ls []) rfl ?_
  refine lv_aload_n hx hb dk_X0_init_4 rfl (lv_at hl 0 rfl) ?_
  refine ct_new (n := o + 1) (cn := 7) (C := RX7) (T := TX7) (N := 1) had (by show o < 1175; omega) hx hb hts hbig hown hV rfl tyX7_ok lay7 (hbig _ tk_233) (hbig _ tk_173) (hbig _ tk_64) (by show _ < 1175; omega) (by omega) (Nat.le_of_ble_eq_true rfl) (by show 0 + 1 ≤ cap + 5; omega) hT dk_X0_init_5 (fun H hT hPn => ?_)
  refine lv_dup hx hb dk_X0_init_8 rfl ?_
  refine ct_call (n := o + 1) (cn := 7) (rest := [.ref (ad (o + 1)), .ref (ad o)]) (As := []) (cs_X7_init l c7 (by omega)) had (by show o < 1175; omega) hx hb hml hown hts hbig hK tk_176 (hbig _ tk_64) (hbig _ tk_175) (Or.inr nest_X0) rfl (by decide +kernel) ⟨Nat.le_of_ble_eq_true rfl, Nat.le_of_ble_eq_true rfl⟩ ⟨Nat.le_of_ble_eq_true rfl, by show 0 + 1 + 4 ≤ cap + 5; omega⟩ hl.1 (Nat.le_of_ble_eq_true rfl) (by show _ ≤ 1175; omega) (by omega) (by omega) hT hPn rfl dk_X0_init_9 rfl (fun H locs hT => ?_)
  refine ct_put (idx := 10) (k := 1) had (by show o < 1175; omega) hx hb hts hbig hown hV hin (by show _ ≤ 1175; omega) hT fto_RX0_10 ⟨_, _, rfl⟩ (by show Value.ref (ad (wR wX o 1)) = _; rw [c3]) rfl rfl dk_X0_init_12 (fun H locs hT => ?_)
  refine lv_aload_n hx hb dk_X0_init_15 rfl (lv_at hl 0 rfl) ?_
  refine lv_iload_n hx hb dk_X0_init_16 rfl (lv_at hl 1 rfl) ?_
  refine lv_iconst (v := nI 0) hx hb dk_X0_init_17 (by decide) ?_
  refine va_mmax (own := RX0) hx hb (hml.trans hl.1.symm) hown (hts _ (hbig _ (big_in 235 (by decide +kernel) (by decide +kernel)))) (hts _ (hbig _ (big_in 94 (by decide +kernel) (by decide +kernel)))) (hts _ (hbig _ tk_62)) (hts _ (hbig _ (big_in 95 (by decide +kernel) (by decide +kernel)))) (Nat.le_of_ble_eq_true rfl) (Nat.le_of_ble_eq_true rfl) (Nat.le_of_ble_eq_true rfl) (by show 0 + 1 + 4 ≤ cap + 5; omega) dk_X0_init_18 ?_
  rw [if_neg (show ¬ nI cap < nI 0 from nI_pos (by omega))]
  refine ct_newa (kd := 20) (n := o + 3) (L := cap) had (by show o < 1175; omega) hx hb hts (atype := .int) (ty := .int) rfl (hbig _ tk_106) (hV.2 0 _ rfl).2 (by omega) (by show cap * 4 ≤ _; omega) (by show _ < 1175; omega) (by omega) hkA (by decide) (by decide) c6 (fun j => by show Value.int (gI iX (o + 3) j) = _; rw [iX_0 (by omega) (by omega) (by omega)]; rfl) (Nat.le_of_ble_eq_true rfl) (by show 0 + 1 + 4 + cap ≤ cap + 5; omega) hT dk_X0_init_21 (fun H hT => ?_)
  refine ct_put (idx := 22) (k := 0) had (by show o < 1175; omega) hx hb hts hbig hown hV hin (by show _ ≤ 1175; omega) hT fto_RX0_22 ⟨_, _, rfl⟩ (by show Value.ref (ad (wR wX o 0)) = _; rw [c2]) rfl rfl dk_X0_init_23 (fun H locs hT => ?_)
  exact ct_ret had hx hb hr hlocks hT hk0 (by decide) (fun k r hrr hk => by
    cases hrr
    have hk : k < 4 := hk
    rcases (show k = 0 ∨ k = 1 ∨ k = 2 ∨ k = 3 by omega) with rfl | rfl | rfl | rfl
    · exact Or.inl rfl
    · exact Or.inl rfl
    · exact Or.inr ⟨Or.inl rfl, iX_0 (by omega) (by omega) (by omega)⟩
    · exact Or.inr ⟨Or.inl rfl, iX_0 (by omega) (by omega) (by omega)⟩) rfl (by omega) dk_X0_init_26
