/-! BUILDING: the constructors of the machine, the row, the judge, the proof -/
theorem dk_X3_init_0 : decode cX3_init 0 = .ok (.aload_n 0, 1) := by decide +kernel
theorem tk_86 : Cond.methodLink RX3 3 objectInit ∈ big := big_in 86 (by decide +kernel) (by decide +kernel)
theorem dk_X3_init_1 : decode cX3_init 1 = .ok (.invokespecial 3, 3) := by decide +kernel
theorem dk_X3_init_4 : decode cX3_init 4 = .ok (.aload_n 0, 1) := by decide +kernel
theorem dk_X3_init_5 : decode cX3_init 5 = .ok (.bipush 80, 2) := by decide +kernel
theorem dk_X3_init_7 : decode cX3_init 7 = .ok (.newarray .int, 2) := by decide +kernel
theorem dk_X3_init_9 : decode cX3_init 9 = .ok (.putfield 9, 3) := by decide +kernel
theorem dk_X3_init_12 : decode cX3_init 12 = .ok (.aload_n 0, 1) := by decide +kernel
theorem dk_X3_init_13 : decode cX3_init 13 = .ok (.bipush 80, 2) := by decide +kernel
theorem dk_X3_init_15 : decode cX3_init 15 = .ok (.newarray .int, 2) := by decide +kernel
theorem dk_X3_init_17 : decode cX3_init 17 = .ok (.putfield 15, 3) := by decide +kernel
theorem dk_X3_init_20 : decode cX3_init 20 = .ok (.aload_n 0, 1) := by decide +kernel
theorem dk_X3_init_21 : decode cX3_init 21 = .ok (.bipush 80, 2) := by decide +kernel
theorem dk_X3_init_23 : decode cX3_init 23 = .ok (.newarray .int, 2) := by decide +kernel
theorem dk_X3_init_25 : decode cX3_init 25 = .ok (.putfield 18, 3) := by decide +kernel
theorem dk_X3_init_28 : decode cX3_init 28 = .ok (.aload_n 0, 1) := by decide +kernel
theorem dk_X3_init_29 : decode cX3_init 29 = .ok (.bipush 80, 2) := by decide +kernel
theorem dk_X3_init_31 : decode cX3_init 31 = .ok (.newarray .int, 2) := by decide +kernel
theorem dk_X3_init_33 : decode cX3_init 33 = .ok (.putfield 21, 3) := by decide +kernel
theorem dk_X3_init_36 : decode cX3_init 36 = .ok (.aload_n 0, 1) := by decide +kernel
theorem dk_X3_init_37 : decode cX3_init 37 = .ok (.bipush 8, 2) := by decide +kernel
theorem dk_X3_init_39 : decode cX3_init 39 = .ok (.newarray .int, 2) := by decide +kernel
theorem dk_X3_init_41 : decode cX3_init 41 = .ok (.putfield 24, 3) := by decide +kernel
theorem dk_X3_init_44 : decode cX3_init 44 = .ok (.aload_n 0, 1) := by decide +kernel
theorem dk_X3_init_45 : decode cX3_init 45 = .ok (.bipush 80, 2) := by decide +kernel
theorem dk_X3_init_47 : decode cX3_init 47 = .ok (.newarray .int, 2) := by decide +kernel
theorem dk_X3_init_49 : decode cX3_init 49 = .ok (.putfield 27, 3) := by decide +kernel
theorem dk_X3_init_52 : decode cX3_init 52 = .ok (.aload_n 0, 1) := by decide +kernel
theorem dk_X3_init_53 : decode cX3_init 53 = .ok (.bipush 80, 2) := by decide +kernel
theorem dk_X3_init_55 : decode cX3_init 55 = .ok (.newarray .boolean, 2) := by decide +kernel
theorem dk_X3_init_57 : decode cX3_init 57 = .ok (.putfield 30, 3) := by decide +kernel
theorem dk_X3_init_60 : decode cX3_init 60 = .ok (.aload_n 0, 1) := by decide +kernel
theorem tk_87 : Cond.classLink RX3 34 RX6 ∈ big := big_in 87 (by decide +kernel) (by decide +kernel)
theorem tk_88 : Cond.instantiable RX6 2 ∈ big := big_in 88 (by decide +kernel) (by decide +kernel)
theorem tk_61 : Cond.initialized RX6 ∈ big := big_in 61 (by decide +kernel) (by decide +kernel)
theorem dk_X3_init_61 : decode cX3_init 61 = .ok (.new 34, 3) := by decide +kernel
theorem dk_X3_init_64 : decode cX3_init 64 = .ok (.dup, 1) := by decide +kernel
theorem dk_X3_init_65 : decode cX3_init 65 = .ok (.iconst 4, 1) := by decide +kernel
theorem tk_89 : Cond.methodLink RX3 36 yX6_init ∈ big := big_in 89 (by decide +kernel) (by decide +kernel)
theorem tk_91 : Cond.code yX6_init cX6_init 2 none ∈ big := big_in 91 (by decide +kernel) (by decide +kernel)
theorem tk_90 : Cond.instanceMethod yX6_init ∈ big := big_in 90 (by decide +kernel) (by decide +kernel)
theorem dk_X3_init_66 : decode cX3_init 66 = .ok (.invokespecial 36, 3) := by decide +kernel
theorem dk_X3_init_69 : decode cX3_init 69 = .ok (.putfield 39, 3) := by decide +kernel
theorem dk_X3_init_72 : decode cX3_init 72 = .ok (.aload_n 0, 1) := by decide +kernel
theorem dk_X3_init_73 : decode cX3_init 73 = .ok (.new 34, 3) := by decide +kernel
theorem dk_X3_init_76 : decode cX3_init 76 = .ok (.dup, 1) := by decide +kernel
theorem dk_X3_init_77 : decode cX3_init 77 = .ok (.iconst 3, 1) := by decide +kernel
theorem dk_X3_init_78 : decode cX3_init 78 = .ok (.invokespecial 36, 3) := by decide +kernel
theorem dk_X3_init_81 : decode cX3_init 81 = .ok (.putfield 43, 3) := by decide +kernel
theorem dk_X3_init_84 : decode cX3_init 84 = .ok (.aload_n 0, 1) := by decide +kernel
theorem dk_X3_init_85 : decode cX3_init 85 = .ok (.iconst (-1), 1) := by decide +kernel
theorem dk_X3_init_86 : decode cX3_init 86 = .ok (.putfield 46, 3) := by decide +kernel
theorem dk_X3_init_89 : decode cX3_init 89 = .ok (.return_, 1) := by decide +kernel
theorem fin_X3_init : ∀ k, k < 14 → inL [9, 8, 7, 6, 5, 4, 3, 2, 1, 0] k = true ∨ ((fty 3 k = .int ∨ fty 3 k = .boolean) ∧ gI iX 1 k = 0) := by decide +kernel
set_option maxHeartbeats 4000000 in
set_option maxRecDepth 100000 in
theorem cs_X3_init (l : Launch) : Cst l wX iX yX3_init cX3_init 1 2 1 3 12 11 499 [] := by
  refine cs_of l (by decide +kernel) (Nat.le_of_ble_eq_true rfl) rfl ?_
  intro D aC ad b had p e s m args below meth c ls hx hb hml hr hlocks hown hts hin hK hT hl
  have hbig : ∀ x ∈ big, x ∈ Cond.code yX3_init cX3_init 1 none :: big := fun x h => List.mem_cons_of_mem _ h
  have hV := hK.1.1
  refine lv_aload_n hx hb dk_X3_init_0 rfl (lv_at hl 0 rfl) ?_
  refine W.objInit hx hb hown (hts _ (hbig _ tk_86)) (hts _ (hbig _ tk_79)) (hts _ (hbig _ tk_80)) rfl (hl.1.trans hml.symm) rfl dk_X3_init_1 (Nat.le_of_ble_eq_true rfl) (Nat.le_of_ble_eq_true rfl) ?_
  refine W.eq (g2 := F0 m 4 ls []) rfl ?_
  refine lv_aload_n hx hb dk_X3_init_4 rfl (lv_at hl 0 rfl) ?_
  refine lv_bipush (v := (nI 80)) hx hb dk_X3_init_5 (by decide) ?_
  refine ct_newa (kd := 20) (n := 2) (L := 80) had (by decide) hx hb hts (atype := .int) (ty := .int) rfl (hbig _ tk_106) (hV.2 0 _ rfl).2 (by decide) (Nat.le_of_ble_eq_true rfl) (by decide) (by decide) (by decide) (by decide) (by decide) (by decide) (fun _ => rfl) (Nat.le_of_ble_eq_true rfl) (Nat.le_of_ble_eq_true rfl) hT dk_X3_init_7 (fun H hT => ?_)
  have hT : BuT D aC wX ad iX b 1 3 3 [] [] nZ s.heap H [] := hT
  refine ct_put (idx := 9) (k := 0) had (by decide) hx hb hts hbig hown hV hin (by decide) hT fto_RX3_9 ⟨_, _, rfl⟩ rfl rfl rfl dk_X3_init_9 (fun H locs hT => ?_)
  have hT : BuT D aC wX ad iX b 1 3 3 [0] [] nZ s.heap H locs := hT
  refine lv_aload_n hx hb dk_X3_init_12 rfl (lv_at hl 0 rfl) ?_
  refine lv_bipush (v := (nI 80)) hx hb dk_X3_init_13 (by decide) ?_
  refine ct_newa (kd := 20) (n := 3) (L := 80) had (by decide) hx hb hts (atype := .int) (ty := .int) rfl (hbig _ tk_106) (hV.2 0 _ rfl).2 (by decide) (Nat.le_of_ble_eq_true rfl) (by decide) (by decide) (by decide) (by decide) (by decide) (by decide) (fun _ => rfl) (Nat.le_of_ble_eq_true rfl) (Nat.le_of_ble_eq_true rfl) hT dk_X3_init_15 (fun H hT => ?_)
  have hT : BuT D aC wX ad iX b 1 3 4 [0] [] nZ s.heap H locs := hT
  refine ct_put (idx := 15) (k := 1) had (by decide) hx hb hts hbig hown hV hin (by decide) hT fto_RX3_15 ⟨_, _, rfl⟩ rfl rfl rfl dk_X3_init_17 (fun H locs hT => ?_)
  have hT : BuT D aC wX ad iX b 1 3 4 [1, 0] [] nZ s.heap H locs := hT
  refine lv_aload_n hx hb dk_X3_init_20 rfl (lv_at hl 0 rfl) ?_
  refine lv_bipush (v := (nI 80)) hx hb dk_X3_init_21 (by decide) ?_
  refine ct_newa (kd := 20) (n := 4) (L := 80) had (by decide) hx hb hts (atype := .int) (ty := .int) rfl (hbig _ tk_106) (hV.2 0 _ rfl).2 (by decide) (Nat.le_of_ble_eq_true rfl) (by decide) (by decide) (by decide) (by decide) (by decide) (by decide) (fun _ => rfl) (Nat.le_of_ble_eq_true rfl) (Nat.le_of_ble_eq_true rfl) hT dk_X3_init_23 (fun H hT => ?_)
  have hT : BuT D aC wX ad iX b 1 3 5 [1, 0] [] nZ s.heap H locs := hT
  refine ct_put (idx := 18) (k := 2) had (by decide) hx hb hts hbig hown hV hin (by decide) hT fto_RX3_18 ⟨_, _, rfl⟩ rfl rfl rfl dk_X3_init_25 (fun H locs hT => ?_)
  have hT : BuT D aC wX ad iX b 1 3 5 [2, 1, 0] [] nZ s.heap H locs := hT
  refine lv_aload_n hx hb dk_X3_init_28 rfl (lv_at hl 0 rfl) ?_
  refine lv_bipush (v := (nI 80)) hx hb dk_X3_init_29 (by decide) ?_
  refine ct_newa (kd := 20) (n := 5) (L := 80) had (by decide) hx hb hts (atype := .int) (ty := .int) rfl (hbig _ tk_106) (hV.2 0 _ rfl).2 (by decide) (Nat.le_of_ble_eq_true rfl) (by decide) (by decide) (by decide) (by decide) (by decide) (by decide) (fun _ => rfl) (Nat.le_of_ble_eq_true rfl) (Nat.le_of_ble_eq_true rfl) hT dk_X3_init_31 (fun H hT => ?_)
  have hT : BuT D aC wX ad iX b 1 3 6 [2, 1, 0] [] nZ s.heap H locs := hT
  refine ct_put (idx := 21) (k := 3) had (by decide) hx hb hts hbig hown hV hin (by decide) hT fto_RX3_21 ⟨_, _, rfl⟩ rfl rfl rfl dk_X3_init_33 (fun H locs hT => ?_)
  have hT : BuT D aC wX ad iX b 1 3 6 [3, 2, 1, 0] [] nZ s.heap H locs := hT
  refine lv_aload_n hx hb dk_X3_init_36 rfl (lv_at hl 0 rfl) ?_
  refine lv_bipush (v := (nI 8)) hx hb dk_X3_init_37 (by decide) ?_
  refine ct_newa (kd := 20) (n := 6) (L := 8) had (by decide) hx hb hts (atype := .int) (ty := .int) rfl (hbig _ tk_106) (hV.2 0 _ rfl).2 (by decide) (Nat.le_of_ble_eq_true rfl) (by decide) (by decide) (by decide) (by decide) (by decide) (by decide) (fun _ => rfl) (Nat.le_of_ble_eq_true rfl) (Nat.le_of_ble_eq_true rfl) hT dk_X3_init_39 (fun H hT => ?_)
  have hT : BuT D aC wX ad iX b 1 3 7 [3, 2, 1, 0] [] nZ s.heap H locs := hT
  refine ct_put (idx := 24) (k := 4) had (by decide) hx hb hts hbig hown hV hin (by decide) hT fto_RX3_24 ⟨_, _, rfl⟩ rfl rfl rfl dk_X3_init_41 (fun H locs hT => ?_)
  have hT : BuT D aC wX ad iX b 1 3 7 [4, 3, 2, 1, 0] [] nZ s.heap H locs := hT
  refine lv_aload_n hx hb dk_X3_init_44 rfl (lv_at hl 0 rfl) ?_
  refine lv_bipush (v := (nI 80)) hx hb dk_X3_init_45 (by decide) ?_
  refine ct_newa (kd := 20) (n := 7) (L := 80) had (by decide) hx hb hts (atype := .int) (ty := .int) rfl (hbig _ tk_106) (hV.2 0 _ rfl).2 (by decide) (Nat.le_of_ble_eq_true rfl) (by decide) (by decide) (by decide) (by decide) (by decide) (by decide) (fun _ => rfl) (Nat.le_of_ble_eq_true rfl) (Nat.le_of_ble_eq_true rfl) hT dk_X3_init_47 (fun H hT => ?_)
  have hT : BuT D aC wX ad iX b 1 3 8 [4, 3, 2, 1, 0] [] nZ s.heap H locs := hT
  refine ct_put (idx := 27) (k := 5) had (by decide) hx hb hts hbig hown hV hin (by decide) hT fto_RX3_27 ⟨_, _, rfl⟩ rfl rfl rfl dk_X3_init_49 (fun H locs hT => ?_)
  have hT : BuT D aC wX ad iX b 1 3 8 [5, 4, 3, 2, 1, 0] [] nZ s.heap H locs := hT
  refine lv_aload_n hx hb dk_X3_init_52 rfl (lv_at hl 0 rfl) ?_
  refine lv_bipush (v := (nI 80)) hx hb dk_X3_init_53 (by decide) ?_
  refine ct_newa (kd := 21) (n := 8) (L := 80) had (by decide) hx hb hts (atype := .boolean) (ty := .boolean) rfl (hbig _ tk_107) (hV.2 1 _ rfl).2 (by decide) (Nat.le_of_ble_eq_true rfl) (by decide) (by decide) (by decide) (by decide) (by decide) (by decide) (fun _ => rfl) (Nat.le_of_ble_eq_true rfl) (Nat.le_of_ble_eq_true rfl) hT dk_X3_init_55 (fun H hT => ?_)
  have hT : BuT D aC wX ad iX b 1 3 9 [5, 4, 3, 2, 1, 0] [] nZ s.heap H locs := hT
  refine ct_put (idx := 30) (k := 6) had (by decide) hx hb hts hbig hown hV hin (by decide) hT fto_RX3_30 ⟨_, _, rfl⟩ rfl rfl rfl dk_X3_init_57 (fun H locs hT => ?_)
  have hT : BuT D aC wX ad iX b 1 3 9 [6, 5, 4, 3, 2, 1, 0] [] nZ s.heap H locs := hT
  refine lv_aload_n hx hb dk_X3_init_60 rfl (lv_at hl 0 rfl) ?_
  refine ct_new (n := 9) (cn := 6) (C := RX6) (T := TX6) (N := 2) had (by decide) hx hb hts hbig hown hV rfl tyX6_ok lay6 (hbig _ tk_87) (hbig _ tk_88) (hbig _ tk_61) (by decide) (by decide) (Nat.le_of_ble_eq_true rfl) (Nat.le_of_ble_eq_true rfl) hT dk_X3_init_61 (fun H hT hPn => ?_)
  have hT : BuT D aC wX ad iX b 1 3 10 [6, 5, 4, 3, 2, 1, 0] [9] nZ s.heap H locs := hT
  refine lv_dup hx hb dk_X3_init_64 rfl ?_
  refine lv_iconst (v := (nI 4)) hx hb dk_X3_init_65 (by decide) ?_
  refine ct_call (n := 9) (cn := 6) (rest := [.ref (ad 9), .ref (ad 1)]) (As := [.int (nI 4)]) (cs_X6_init l (o := 9) (cap := 4) (by decide) (by decide) (by decide) (by decide) (by decide) (by decide) (by decide)) had (by decide) hx hb hml hown hts hbig hK tk_91 (hbig _ tk_61) (hbig _ tk_90) (Or.inl (hbig _ tk_89)) rfl (by decide +kernel) ⟨(Nat.le_of_ble_eq_true rfl), (Nat.le_of_ble_eq_true rfl)⟩ ⟨(Nat.le_of_ble_eq_true rfl), (Nat.le_of_ble_eq_true rfl)⟩ hl.1 (Nat.le_of_ble_eq_true rfl) (by decide) (by decide) (by decide) hT hPn rfl dk_X3_init_66 rfl (fun H locs hT => ?_)
  have hT : BuT D aC wX ad iX b 1 3 11 [6, 5, 4, 3, 2, 1, 0] [] nZ s.heap H locs := hT
  refine ct_put (idx := 39) (k := 7) had (by decide) hx hb hts hbig hown hV hin (by decide) hT fto_RX3_39 ⟨_, _, rfl⟩ rfl rfl rfl dk_X3_init_69 (fun H locs hT => ?_)
  have hT : BuT D aC wX ad iX b 1 3 11 [7, 6, 5, 4, 3, 2, 1, 0] [] nZ s.heap H locs := hT
  refine lv_aload_n hx hb dk_X3_init_72 rfl (lv_at hl 0 rfl) ?_
  refine ct_new (n := 11) (cn := 6) (C := RX6) (T := TX6) (N := 2) had (by decide) hx hb hts hbig hown hV rfl tyX6_ok lay6 (hbig _ tk_87) (hbig _ tk_88) (hbig _ tk_61) (by decide) (by decide) (Nat.le_of_ble_eq_true rfl) (Nat.le_of_ble_eq_true rfl) hT dk_X3_init_73 (fun H hT hPn => ?_)
  have hT : BuT D aC wX ad iX b 1 3 12 [7, 6, 5, 4, 3, 2, 1, 0] [11] nZ s.heap H locs := hT
  refine lv_dup hx hb dk_X3_init_76 rfl ?_
  refine lv_iconst (v := (nI 3)) hx hb dk_X3_init_77 (by decide) ?_
  refine ct_call (n := 11) (cn := 6) (rest := [.ref (ad 11), .ref (ad 1)]) (As := [.int (nI 3)]) (cs_X6_init l (o := 11) (cap := 3) (by decide) (by decide) (by decide) (by decide) (by decide) (by decide) (by decide)) had (by decide) hx hb hml hown hts hbig hK tk_91 (hbig _ tk_61) (hbig _ tk_90) (Or.inl (hbig _ tk_89)) rfl (by decide +kernel) ⟨(Nat.le_of_ble_eq_true rfl), (Nat.le_of_ble_eq_true rfl)⟩ ⟨(Nat.le_of_ble_eq_true rfl), (Nat.le_of_ble_eq_true rfl)⟩ hl.1 (Nat.le_of_ble_eq_true rfl) (by decide) (by decide) (by decide) hT hPn rfl dk_X3_init_78 rfl (fun H locs hT => ?_)
  have hT : BuT D aC wX ad iX b 1 3 13 [7, 6, 5, 4, 3, 2, 1, 0] [] nZ s.heap H locs := hT
  refine ct_put (idx := 43) (k := 8) had (by decide) hx hb hts hbig hown hV hin (by decide) hT fto_RX3_43 ⟨_, _, rfl⟩ rfl rfl rfl dk_X3_init_81 (fun H locs hT => ?_)
  have hT : BuT D aC wX ad iX b 1 3 13 [8, 7, 6, 5, 4, 3, 2, 1, 0] [] nZ s.heap H locs := hT
  refine lv_aload_n hx hb dk_X3_init_84 rfl (lv_at hl 0 rfl) ?_
  refine lv_iconst (v := (-1)) hx hb dk_X3_init_85 (by decide) ?_
  refine ct_put (idx := 46) (k := 9) had (by decide) hx hb hts hbig hown hV hin (by decide) hT fto_RX3_46 ⟨_, _, rfl⟩ rfl rfl rfl dk_X3_init_86 (fun H locs hT => ?_)
  have hT : BuT D aC wX ad iX b 1 3 13 [9, 8, 7, 6, 5, 4, 3, 2, 1, 0] [] nZ s.heap H locs := hT
  exact ct_ret had hx hb hr hlocks hT (by decide) (by decide) (fun k r hrr hk => by
    cases hrr
    exact fin_X3_init k hk) rfl rfl dk_X3_init_89
theorem dk_X5_init_0 : decode cX5_init 0 = .ok (.aload_n 0, 1) := by decide +kernel
theorem tk_348 : Cond.methodLink RX5 3 objectInit ∈ big := big_in 348 (by decide +kernel) (by decide +kernel)
theorem dk_X5_init_1 : decode cX5_init 1 = .ok (.invokespecial 3, 3) := by decide +kernel
theorem dk_X5_init_4 : decode cX5_init 4 = .ok (.aload_n 0, 1) := by decide +kernel
theorem dk_X5_init_5 : decode cX5_init 5 = .ok (.bipush 80, 2) := by decide +kernel
theorem dk_X5_init_7 : decode cX5_init 7 = .ok (.newarray .int, 2) := by decide +kernel
theorem dk_X5_init_9 : decode cX5_init 9 = .ok (.putfield 9, 3) := by decide +kernel
theorem dk_X5_init_12 : decode cX5_init 12 = .ok (.return_, 1) := by decide +kernel
theorem fin_X5_init : ∀ k, k < 3 → inL [0] k = true ∨ ((fty 5 k = .int ∨ fty 5 k = .boolean) ∧ gI iX 1172 k = 0) := by decide +kernel
set_option maxHeartbeats 4000000 in
set_option maxRecDepth 100000 in
theorem cs_X5_init (l : Launch) : Cst l wX iX yX5_init cX5_init 1 1 1172 5 2 1 80 [] := by
  refine cs_of l (by decide +kernel) (Nat.le_of_ble_eq_true rfl) rfl ?_
  intro D aC ad b had p e s m args below meth c ls hx hb hml hr hlocks hown hts hin hK hT hl
  have hbig : ∀ x ∈ big, x ∈ Cond.code yX5_init cX5_init 1 none :: big := fun x h => List.mem_cons_of_mem _ h
  have hV := hK.1.1
  refine lv_aload_n hx hb dk_X5_init_0 rfl (lv_at hl 0 rfl) ?_
  refine W.objInit hx hb hown (hts _ (hbig _ tk_348)) (hts _ (hbig _ tk_79)) (hts _ (hbig _ tk_80)) rfl (hl.1.trans hml.symm) rfl dk_X5_init_1 (Nat.le_of_ble_eq_true rfl) (Nat.le_of_ble_eq_true rfl) ?_
  refine W.eq (g2 := F0 m 4 ls []) rfl ?_
  refine lv_aload_n hx hb dk_X5_init_4 rfl (lv_at hl 0 rfl) ?_
  refine lv_bipush (v := (nI 80)) hx hb dk_X5_init_5 (by decide) ?_
  refine ct_newa (kd := 20) (n := 1173) (L := 80) had (by decide) hx hb hts (atype := .int) (ty := .int) rfl (hbig _ tk_106) (hV.2 0 _ rfl).2 (by decide) (Nat.le_of_ble_eq_true rfl) (by decide) (by decide) (by decide) (by decide) (by decide) (by decide) (fun _ => rfl) (Nat.le_of_ble_eq_true rfl) (Nat.le_of_ble_eq_true rfl) hT dk_X5_init_7 (fun H hT => ?_)
  have hT : BuT D aC wX ad iX b 1172 5 1174 [] [] nZ s.heap H [] := hT
  refine ct_put (idx := 9) (k := 0) had (by decide) hx hb hts hbig hown hV hin (by decide) hT fto_RX5_9 ⟨_, _, rfl⟩ rfl rfl rfl dk_X5_init_9 (fun H locs hT => ?_)
  have hT : BuT D aC wX ad iX b 1172 5 1174 [0] [] nZ s.heap H locs := hT
  exact ct_ret had hx hb hr hlocks hT (by decide) (by decide) (fun k r hrr hk => by
    cases hrr
    exact fin_X5_init k hk) rfl rfl dk_X5_init_12
theorem dk_X2_init_0 : decode cX2_init 0 = .ok (.aload_n 0, 1) := by decide +kernel
theorem tk_324 : Cond.methodLink RX2 3 objectInit ∈ big := big_in 324 (by decide +kernel) (by decide +kernel)
theorem dk_X2_init_1 : decode cX2_init 1 = .ok (.invokespecial 3, 3) := by decide +kernel
theorem dk_X2_init_4 : decode cX2_init 4 = .ok (.aload_n 0, 1) := by decide +kernel
theorem dk_X2_init_5 : decode cX2_init 5 = .ok (.iconst (-1), 1) := by decide +kernel
theorem dk_X2_init_6 : decode cX2_init 6 = .ok (.putfield 9, 3) := by decide +kernel
theorem dk_X2_init_9 : decode cX2_init 9 = .ok (.aload_n 0, 1) := by decide +kernel
theorem dk_X2_init_10 : decode cX2_init 10 = .ok (.iconst (-1), 1) := by decide +kernel
theorem dk_X2_init_11 : decode cX2_init 11 = .ok (.putfield 15, 3) := by decide +kernel
theorem dk_X2_init_14 : decode cX2_init 14 = .ok (.aload_n 0, 1) := by decide +kernel
theorem dk_X2_init_15 : decode cX2_init 15 = .ok (.aload_n 1, 1) := by decide +kernel
theorem dk_X2_init_16 : decode cX2_init 16 = .ok (.putfield 18, 3) := by decide +kernel
theorem dk_X2_init_19 : decode cX2_init 19 = .ok (.aload_n 0, 1) := by decide +kernel
theorem dk_X2_init_20 : decode cX2_init 20 = .ok (.aload_n 2, 1) := by decide +kernel
theorem dk_X2_init_21 : decode cX2_init 21 = .ok (.putfield 22, 3) := by decide +kernel
theorem dk_X2_init_24 : decode cX2_init 24 = .ok (.aload_n 0, 1) := by decide +kernel
theorem dk_X2_init_25 : decode cX2_init 25 = .ok (.aload_n 3, 1) := by decide +kernel
theorem dk_X2_init_26 : decode cX2_init 26 = .ok (.putfield 26, 3) := by decide +kernel
theorem dk_X2_init_29 : decode cX2_init 29 = .ok (.return_, 1) := by decide +kernel
theorem fin_X2_init : ∀ k, k < 5 → inL [2, 1, 0, 4, 3] k = true ∨ ((fty 2 k = .int ∨ fty 2 k = .boolean) ∧ gI iX 1171 k = 0) := by decide +kernel
set_option maxHeartbeats 4000000 in
set_option maxRecDepth 100000 in
theorem cs_X2_init (l : Launch) : Cst l wX iX yX2_init cX2_init 4 1 1171 2 1 0 0 [.ref 1, .ref 13, .ref 1167] := by
  refine cs_of l (by decide +kernel) (Nat.le_of_ble_eq_true rfl) rfl ?_
  intro D aC ad b had p e s m args below meth c ls hx hb hml hr hlocks hown hts hin hK hT hl
  have hbig : ∀ x ∈ big, x ∈ Cond.code yX2_init cX2_init 4 none :: big := fun x h => List.mem_cons_of_mem _ h
  have hV := hK.1.1
  refine lv_aload_n hx hb dk_X2_init_0 rfl (lv_at hl 0 rfl) ?_
  refine W.objInit hx hb hown (hts _ (hbig _ tk_324)) (hts _ (hbig _ tk_79)) (hts _ (hbig _ tk_80)) rfl (hl.1.trans hml.symm) rfl dk_X2_init_1 (Nat.le_of_ble_eq_true rfl) (Nat.le_of_ble_eq_true rfl) ?_
  refine W.eq (g2 := F0 m 4 ls []) rfl ?_
  refine lv_aload_n hx hb dk_X2_init_4 rfl (lv_at hl 0 rfl) ?_
  refine lv_iconst (v := (-1)) hx hb dk_X2_init_5 (by decide) ?_
  refine ct_put (idx := 9) (k := 3) had (by decide) hx hb hts hbig hown hV hin (by decide) hT fto_RX2_9 ⟨_, _, rfl⟩ rfl rfl rfl dk_X2_init_6 (fun H locs hT => ?_)
  have hT : BuT D aC wX ad iX b 1171 2 1172 [3] [] nZ s.heap H locs := hT
  refine lv_aload_n hx hb dk_X2_init_9 rfl (lv_at hl 0 rfl) ?_
  refine lv_iconst (v := (-1)) hx hb dk_X2_init_10 (by decide) ?_
  refine ct_put (idx := 15) (k := 4) had (by decide) hx hb hts hbig hown hV hin (by decide) hT fto_RX2_15 ⟨_, _, rfl⟩ rfl rfl rfl dk_X2_init_11 (fun H locs hT => ?_)
  have hT : BuT D aC wX ad iX b 1171 2 1172 [4, 3] [] nZ s.heap H locs := hT
  refine lv_aload_n hx hb dk_X2_init_14 rfl (lv_at hl 0 rfl) ?_
  refine lv_aload_n hx hb dk_X2_init_15 rfl (lv_at hl 1 rfl) ?_
  refine ct_put (idx := 18) (k := 0) had (by decide) hx hb hts hbig hown hV hin (by decide) hT fto_RX2_18 ⟨_, _, rfl⟩ rfl rfl rfl dk_X2_init_16 (fun H locs hT => ?_)
  have hT : BuT D aC wX ad iX b 1171 2 1172 [0, 4, 3] [] nZ s.heap H locs := hT
  refine lv_aload_n hx hb dk_X2_init_19 rfl (lv_at hl 0 rfl) ?_
  refine lv_aload_n hx hb dk_X2_init_20 rfl (lv_at hl 2 rfl) ?_
  refine ct_put (idx := 22) (k := 1) had (by decide) hx hb hts hbig hown hV hin (by decide) hT fto_RX2_22 ⟨_, _, rfl⟩ rfl rfl rfl dk_X2_init_21 (fun H locs hT => ?_)
  have hT : BuT D aC wX ad iX b 1171 2 1172 [1, 0, 4, 3] [] nZ s.heap H locs := hT
  refine lv_aload_n hx hb dk_X2_init_24 rfl (lv_at hl 0 rfl) ?_
  refine lv_aload_n hx hb dk_X2_init_25 rfl (lv_at hl 3 rfl) ?_
  refine ct_put (idx := 26) (k := 2) had (by decide) hx hb hts hbig hown hV hin (by decide) hT fto_RX2_26 ⟨_, _, rfl⟩ rfl rfl rfl dk_X2_init_26 (fun H locs hT => ?_)
  have hT : BuT D aC wX ad iX b 1171 2 1172 [2, 1, 0, 4, 3] [] nZ s.heap H locs := hT
  exact ct_ret had hx hb hr hlocks hT (by decide) (by decide) (fun k r hrr hk => by
    cases hrr
    exact fin_X2_init k hk) rfl rfl dk_X2_init_29
theorem dk_X4_init_0 : decode cX4_init 0 = .ok (.aload_n 0, 1) := by decide +kernel
theorem tk_282 : Cond.methodLink RX4 3 objectInit ∈ big := big_in 282 (by decide +kernel) (by decide +kernel)
theorem dk_X4_init_1 : decode cX4_init 1 = .ok (.invokespecial 3, 3) := by decide +kernel
theorem dk_X4_init_4 : decode cX4_init 4 = .ok (.aload_n 0, 1) := by decide +kernel
theorem dk_X4_init_5 : decode cX4_init 5 = .ok (.bipush 25, 2) := by decide +kernel
theorem dk_X4_init_7 : decode cX4_init 7 = .ok (.newarray .int, 2) := by decide +kernel
theorem dk_X4_init_9 : decode cX4_init 9 = .ok (.putfield 9, 3) := by decide +kernel
theorem dk_X4_init_12 : decode cX4_init 12 = .ok (.aload_n 0, 1) := by decide +kernel
theorem dk_X4_init_13 : decode cX4_init 13 = .ok (.bipush 25, 2) := by decide +kernel
theorem dk_X4_init_15 : decode cX4_init 15 = .ok (.newarray .int, 2) := by decide +kernel
theorem dk_X4_init_17 : decode cX4_init 17 = .ok (.putfield 15, 3) := by decide +kernel
theorem dk_X4_init_20 : decode cX4_init 20 = .ok (.aload_n 0, 1) := by decide +kernel
theorem dk_X4_init_21 : decode cX4_init 21 = .ok (.aload_n 1, 1) := by decide +kernel
theorem dk_X4_init_22 : decode cX4_init 22 = .ok (.putfield 18, 3) := by decide +kernel
theorem dk_X4_init_25 : decode cX4_init 25 = .ok (.aload_n 0, 1) := by decide +kernel
theorem dk_X4_init_26 : decode cX4_init 26 = .ok (.aload_n 2, 1) := by decide +kernel
theorem dk_X4_init_27 : decode cX4_init 27 = .ok (.putfield 22, 3) := by decide +kernel
theorem dk_X4_init_30 : decode cX4_init 30 = .ok (.aload_n 0, 1) := by decide +kernel
theorem dk_X4_init_31 : decode cX4_init 31 = .ok (.aload_n 3, 1) := by decide +kernel
theorem dk_X4_init_32 : decode cX4_init 32 = .ok (.putfield 26, 3) := by decide +kernel
theorem dk_X4_init_35 : decode cX4_init 35 = .ok (.return_, 1) := by decide +kernel
theorem fin_X4_init : ∀ k, k < 10 → inL [2, 1, 0, 4, 3] k = true ∨ ((fty 4 k = .int ∨ fty 4 k = .boolean) ∧ gI iX 1164 k = 0) := by decide +kernel
set_option maxHeartbeats 4000000 in
set_option maxRecDepth 100000 in
theorem cs_X4_init (l : Launch) : Cst l wX iX yX4_init cX4_init 4 1 1164 4 3 2 50 [.ref 1, .ref 13, .ref 1054] := by
  refine cs_of l (by decide +kernel) (Nat.le_of_ble_eq_true rfl) rfl ?_
  intro D aC ad b had p e s m args below meth c ls hx hb hml hr hlocks hown hts hin hK hT hl
  have hbig : ∀ x ∈ big, x ∈ Cond.code yX4_init cX4_init 4 none :: big := fun x h => List.mem_cons_of_mem _ h
  have hV := hK.1.1
  refine lv_aload_n hx hb dk_X4_init_0 rfl (lv_at hl 0 rfl) ?_
  refine W.objInit hx hb hown (hts _ (hbig _ tk_282)) (hts _ (hbig _ tk_79)) (hts _ (hbig _ tk_80)) rfl (hl.1.trans hml.symm) rfl dk_X4_init_1 (Nat.le_of_ble_eq_true rfl) (Nat.le_of_ble_eq_true rfl) ?_
  refine W.eq (g2 := F0 m 4 ls []) rfl ?_
  refine lv_aload_n hx hb dk_X4_init_4 rfl (lv_at hl 0 rfl) ?_
  refine lv_bipush (v := (nI 25)) hx hb dk_X4_init_5 (by decide) ?_
  refine ct_newa (kd := 20) (n := 1165) (L := 25) had (by decide) hx hb hts (atype := .int) (ty := .int) rfl (hbig _ tk_106) (hV.2 0 _ rfl).2 (by decide) (Nat.le_of_ble_eq_true rfl) (by decide) (by decide) (by decide) (by decide) (by decide) (by decide) (fun _ => rfl) (Nat.le_of_ble_eq_true rfl) (Nat.le_of_ble_eq_true rfl) hT dk_X4_init_7 (fun H hT => ?_)
  have hT : BuT D aC wX ad iX b 1164 4 1166 [] [] nZ s.heap H [] := hT
  refine ct_put (idx := 9) (k := 3) had (by decide) hx hb hts hbig hown hV hin (by decide) hT fto_RX4_9 ⟨_, _, rfl⟩ rfl rfl rfl dk_X4_init_9 (fun H locs hT => ?_)
  have hT : BuT D aC wX ad iX b 1164 4 1166 [3] [] nZ s.heap H locs := hT
  refine lv_aload_n hx hb dk_X4_init_12 rfl (lv_at hl 0 rfl) ?_
  refine lv_bipush (v := (nI 25)) hx hb dk_X4_init_13 (by decide) ?_
  refine ct_newa (kd := 20) (n := 1166) (L := 25) had (by decide) hx hb hts (atype := .int) (ty := .int) rfl (hbig _ tk_106) (hV.2 0 _ rfl).2 (by decide) (Nat.le_of_ble_eq_true rfl) (by decide) (by decide) (by decide) (by decide) (by decide) (by decide) (fun _ => rfl) (Nat.le_of_ble_eq_true rfl) (Nat.le_of_ble_eq_true rfl) hT dk_X4_init_15 (fun H hT => ?_)
  have hT : BuT D aC wX ad iX b 1164 4 1167 [3] [] nZ s.heap H locs := hT
  refine ct_put (idx := 15) (k := 4) had (by decide) hx hb hts hbig hown hV hin (by decide) hT fto_RX4_15 ⟨_, _, rfl⟩ rfl rfl rfl dk_X4_init_17 (fun H locs hT => ?_)
  have hT : BuT D aC wX ad iX b 1164 4 1167 [4, 3] [] nZ s.heap H locs := hT
  refine lv_aload_n hx hb dk_X4_init_20 rfl (lv_at hl 0 rfl) ?_
  refine lv_aload_n hx hb dk_X4_init_21 rfl (lv_at hl 1 rfl) ?_
  refine ct_put (idx := 18) (k := 0) had (by decide) hx hb hts hbig hown hV hin (by decide) hT fto_RX4_18 ⟨_, _, rfl⟩ rfl rfl rfl dk_X4_init_22 (fun H locs hT => ?_)
  have hT : BuT D aC wX ad iX b 1164 4 1167 [0, 4, 3] [] nZ s.heap H locs := hT
  refine lv_aload_n hx hb dk_X4_init_25 rfl (lv_at hl 0 rfl) ?_
  refine lv_aload_n hx hb dk_X4_init_26 rfl (lv_at hl 2 rfl) ?_
  refine ct_put (idx := 22) (k := 1) had (by decide) hx hb hts hbig hown hV hin (by decide) hT fto_RX4_22 ⟨_, _, rfl⟩ rfl rfl rfl dk_X4_init_27 (fun H locs hT => ?_)
  have hT : BuT D aC wX ad iX b 1164 4 1167 [1, 0, 4, 3] [] nZ s.heap H locs := hT
  refine lv_aload_n hx hb dk_X4_init_30 rfl (lv_at hl 0 rfl) ?_
  refine lv_aload_n hx hb dk_X4_init_31 rfl (lv_at hl 3 rfl) ?_
  refine ct_put (idx := 26) (k := 2) had (by decide) hx hb hts hbig hown hV hin (by decide) hT fto_RX4_26 ⟨_, _, rfl⟩ rfl rfl rfl dk_X4_init_32 (fun H locs hT => ?_)
  have hT : BuT D aC wX ad iX b 1164 4 1167 [2, 1, 0, 4, 3] [] nZ s.heap H locs := hT
  exact ct_ret had hx hb hr hlocks hT (by decide) (by decide) (fun k r hrr hk => by
    cases hrr
    exact fin_X4_init k hk) rfl rfl dk_X4_init_35
