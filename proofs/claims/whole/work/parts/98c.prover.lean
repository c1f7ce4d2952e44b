/-! BUILDING: the constructor of the class itself -/
theorem dk_X9_init_0 : decode cX9_init 0 = .ok (.aload_n 0, 1) := by decide +kernel
theorem tk_78 : Cond.methodLink RX9 1 objectInit ∈ big := big_in 78 (by decide +kernel) (by decide +kernel)
theorem dk_X9_init_1 : decode cX9_init 1 = .ok (.invokespecial 1, 3) := by decide +kernel
theorem dk_X9_init_4 : decode cX9_init 4 = .ok (.aload_n 0, 1) := by decide +kernel
theorem tk_81 : Cond.classLink RX9 7 RX3 ∈ big := big_in 81 (by decide +kernel) (by decide +kernel)
theorem tk_82 : Cond.instantiable RX3 14 ∈ big := big_in 82 (by decide +kernel) (by decide +kernel)
theorem tk_60 : Cond.initialized RX3 ∈ big := big_in 60 (by decide +kernel) (by decide +kernel)
theorem dk_X9_init_5 : decode cX9_init 5 = .ok (.new 7, 3) := by decide +kernel
theorem dk_X9_init_8 : decode cX9_init 8 = .ok (.dup, 1) := by decide +kernel
theorem tk_85 : Cond.code yX3_init cX3_init 1 none ∈ big := big_in 85 (by decide +kernel) (by decide +kernel)
theorem tk_84 : Cond.instanceMethod yX3_init ∈ big := big_in 84 (by decide +kernel) (by decide +kernel)
theorem dk_X9_init_9 : decode cX9_init 9 = .ok (.invokespecial 9, 3) := by decide +kernel
theorem dk_X9_init_12 : decode cX9_init 12 = .ok (.putfield 10, 3) := by decide +kernel
theorem dk_X9_init_15 : decode cX9_init 15 = .ok (.aload_n 0, 1) := by decide +kernel
theorem tk_165 : Cond.classLink RX9 16 RX8 ∈ big := big_in 165 (by decide +kernel) (by decide +kernel)
theorem tk_166 : Cond.instantiable RX8 11 ∈ big := big_in 166 (by decide +kernel) (by decide +kernel)
theorem tk_63 : Cond.initialized RX8 ∈ big := big_in 63 (by decide +kernel) (by decide +kernel)
theorem dk_X9_init_16 : decode cX9_init 16 = .ok (.new 16, 3) := by decide +kernel
theorem dk_X9_init_19 : decode cX9_init 19 = .ok (.dup, 1) := by decide +kernel
theorem dk_X9_init_20 : decode cX9_init 20 = .ok (.aload_n 0, 1) := by decide +kernel
theorem dk_X9_init_21 : decode cX9_init 21 = .ok (.getfield 10, 3) := by decide +kernel
theorem tk_167 : Cond.methodLink RX9 18 yX8_init ∈ big := big_in 167 (by decide +kernel) (by decide +kernel)
theorem tk_169 : Cond.code yX8_init cX8_init 3 none ∈ big := big_in 169 (by decide +kernel) (by decide +kernel)
theorem tk_168 : Cond.instanceMethod yX8_init ∈ big := big_in 168 (by decide +kernel) (by decide +kernel)
theorem dk_X9_init_24 : decode cX9_init 24 = .ok (.invokespecial 18, 3) := by decide +kernel
theorem dk_X9_init_27 : decode cX9_init 27 = .ok (.putfield 21, 3) := by decide +kernel
theorem dk_X9_init_30 : decode cX9_init 30 = .ok (.aload_n 0, 1) := by decide +kernel
theorem tk_220 : Cond.classLink RX9 25 RX1 ∈ big := big_in 220 (by decide +kernel) (by decide +kernel)
theorem tk_221 : Cond.instantiable RX1 6 ∈ big := big_in 221 (by decide +kernel) (by decide +kernel)
theorem tk_65 : Cond.initialized RX1 ∈ big := big_in 65 (by decide +kernel) (by decide +kernel)
theorem dk_X9_init_31 : decode cX9_init 31 = .ok (.new 25, 3) := by decide +kernel
theorem dk_X9_init_34 : decode cX9_init 34 = .ok (.dup, 1) := by decide +kernel
theorem dk_X9_init_35 : decode cX9_init 35 = .ok (.aload_n 0, 1) := by decide +kernel
theorem dk_X9_init_36 : decode cX9_init 36 = .ok (.getfield 10, 3) := by decide +kernel
theorem dk_X9_init_39 : decode cX9_init 39 = .ok (.aload_n 0, 1) := by decide +kernel
theorem dk_X9_init_40 : decode cX9_init 40 = .ok (.getfield 21, 3) := by decide +kernel
theorem tk_222 : Cond.methodLink RX9 27 yX1_init ∈ big := big_in 222 (by decide +kernel) (by decide +kernel)
theorem tk_224 : Cond.code yX1_init cX1_init 4 none ∈ big := big_in 224 (by decide +kernel) (by decide +kernel)
theorem tk_223 : Cond.instanceMethod yX1_init ∈ big := big_in 223 (by decide +kernel) (by decide +kernel)
theorem dk_X9_init_43 : decode cX9_init 43 = .ok (.invokespecial 27, 3) := by decide +kernel
theorem dk_X9_init_46 : decode cX9_init 46 = .ok (.putfield 30, 3) := by decide +kernel
theorem dk_X9_init_49 : decode cX9_init 49 = .ok (.aload_n 0, 1) := by decide +kernel
theorem tk_277 : Cond.classLink RX9 34 RX4 ∈ big := big_in 277 (by decide +kernel) (by decide +kernel)
theorem tk_278 : Cond.instantiable RX4 10 ∈ big := big_in 278 (by decide +kernel) (by decide +kernel)
theorem tk_67 : Cond.initialized RX4 ∈ big := big_in 67 (by decide +kernel) (by decide +kernel)
theorem dk_X9_init_50 : decode cX9_init 50 = .ok (.new 34, 3) := by decide +kernel
theorem dk_X9_init_53 : decode cX9_init 53 = .ok (.dup, 1) := by decide +kernel
theorem dk_X9_init_54 : decode cX9_init 54 = .ok (.aload_n 0, 1) := by decide +kernel
theorem dk_X9_init_55 : decode cX9_init 55 = .ok (.getfield 10, 3) := by decide +kernel
theorem dk_X9_init_58 : decode cX9_init 58 = .ok (.aload_n 0, 1) := by decide +kernel
theorem dk_X9_init_59 : decode cX9_init 59 = .ok (.getfield 21, 3) := by decide +kernel
theorem dk_X9_init_62 : decode cX9_init 62 = .ok (.aload_n 0, 1) := by decide +kernel
theorem dk_X9_init_63 : decode cX9_init 63 = .ok (.getfield 30, 3) := by decide +kernel
theorem tk_279 : Cond.methodLink RX9 36 yX4_init ∈ big := big_in 279 (by decide +kernel) (by decide +kernel)
theorem tk_281 : Cond.code yX4_init cX4_init 4 none ∈ big := big_in 281 (by decide +kernel) (by decide +kernel)
theorem tk_280 : Cond.instanceMethod yX4_init ∈ big := big_in 280 (by decide +kernel) (by decide +kernel)
theorem dk_X9_init_66 : decode cX9_init 66 = .ok (.invokespecial 36, 3) := by decide +kernel
theorem dk_X9_init_69 : decode cX9_init 69 = .ok (.putfield 39, 3) := by decide +kernel
theorem dk_X9_init_72 : decode cX9_init 72 = .ok (.aload_n 0, 1) := by decide +kernel
theorem tk_317 : Cond.classLink RX9 43 RX0 ∈ big := big_in 317 (by decide +kernel) (by decide +kernel)
theorem dk_X9_init_73 : decode cX9_init 73 = .ok (.new 43, 3) := by decide +kernel
theorem dk_X9_init_76 : decode cX9_init 76 = .ok (.dup, 1) := by decide +kernel
theorem dk_X9_init_77 : decode cX9_init 77 = .ok (.bipush 100, 2) := by decide +kernel
theorem tk_318 : Cond.methodLink RX9 45 yX0_init ∈ big := big_in 318 (by decide +kernel) (by decide +kernel)
theorem dk_X9_init_79 : decode cX9_init 79 = .ok (.invokespecial 45, 3) := by decide +kernel
theorem dk_X9_init_82 : decode cX9_init 82 = .ok (.putfield 48, 3) := by decide +kernel
theorem dk_X9_init_85 : decode cX9_init 85 = .ok (.aload_n 0, 1) := by decide +kernel
theorem tk_319 : Cond.classLink RX9 52 RX2 ∈ big := big_in 319 (by decide +kernel) (by decide +kernel)
theorem tk_320 : Cond.instantiable RX2 5 ∈ big := big_in 320 (by decide +kernel) (by decide +kernel)
theorem tk_68 : Cond.initialized RX2 ∈ big := big_in 68 (by decide +kernel) (by decide +kernel)
theorem dk_X9_init_86 : decode cX9_init 86 = .ok (.new 52, 3) := by decide +kernel
theorem dk_X9_init_89 : decode cX9_init 89 = .ok (.dup, 1) := by decide +kernel
theorem dk_X9_init_90 : decode cX9_init 90 = .ok (.aload_n 0, 1) := by decide +kernel
theorem dk_X9_init_91 : decode cX9_init 91 = .ok (.getfield 10, 3) := by decide +kernel
theorem dk_X9_init_94 : decode cX9_init 94 = .ok (.aload_n 0, 1) := by decide +kernel
theorem dk_X9_init_95 : decode cX9_init 95 = .ok (.getfield 21, 3) := by decide +kernel
theorem dk_X9_init_98 : decode cX9_init 98 = .ok (.aload_n 0, 1) := by decide +kernel
theorem dk_X9_init_99 : decode cX9_init 99 = .ok (.getfield 48, 3) := by decide +kernel
theorem tk_321 : Cond.methodLink RX9 54 yX2_init ∈ big := big_in 321 (by decide +kernel) (by decide +kernel)
theorem tk_323 : Cond.code yX2_init cX2_init 4 none ∈ big := big_in 323 (by decide +kernel) (by decide +kernel)
theorem tk_322 : Cond.instanceMethod yX2_init ∈ big := big_in 322 (by decide +kernel) (by decide +kernel)
theorem dk_X9_init_102 : decode cX9_init 102 = .ok (.invokespecial 54, 3) := by decide +kernel
theorem dk_X9_init_105 : decode cX9_init 105 = .ok (.putfield 57, 3) := by decide +kernel
theorem dk_X9_init_108 : decode cX9_init 108 = .ok (.aload_n 0, 1) := by decide +kernel
theorem tk_343 : Cond.classLink RX9 61 RX5 ∈ big := big_in 343 (by decide +kernel) (by decide +kernel)
theorem tk_344 : Cond.instantiable RX5 3 ∈ big := big_in 344 (by decide +kernel) (by decide +kernel)
theorem tk_69 : Cond.initialized RX5 ∈ big := big_in 69 (by decide +kernel) (by decide +kernel)
theorem dk_X9_init_109 : decode cX9_init 109 = .ok (.new 61, 3) := by decide +kernel
theorem dk_X9_init_112 : decode cX9_init 112 = .ok (.dup, 1) := by decide +kernel
theorem tk_347 : Cond.code yX5_init cX5_init 1 none ∈ big := big_in 347 (by decide +kernel) (by decide +kernel)
theorem tk_346 : Cond.instanceMethod yX5_init ∈ big := big_in 346 (by decide +kernel) (by decide +kernel)
theorem dk_X9_init_113 : decode cX9_init 113 = .ok (.invokespecial 63, 3) := by decide +kernel
theorem dk_X9_init_116 : decode cX9_init 116 = .ok (.putfield 64, 3) := by decide +kernel
theorem dk_X9_init_119 : decode cX9_init 119 = .ok (.aload_n 0, 1) := by decide +kernel
theorem dk_X9_init_120 : decode cX9_init 120 = .ok (.bipush 9, 2) := by decide +kernel
theorem dk_X9_init_122 : decode cX9_init 122 = .ok (.newarray .int, 2) := by decide +kernel
theorem dk_X9_init_124 : decode cX9_init 124 = .ok (.putfield 68, 3) := by decide +kernel
theorem dk_X9_init_127 : decode cX9_init 127 = .ok (.aload_n 0, 1) := by decide +kernel
theorem dk_X9_init_128 : decode cX9_init 128 = .ok (.invokevirtual 72, 3) := by decide +kernel
theorem dk_X9_init_131 : decode cX9_init 131 = .ok (.return_, 1) := by decide +kernel
def Qx (D : va_G) (aC : Nat → ClassId) (ad : Nat → Nat) (b : Nat) : Array Value → State → Outcome → State → Prop := fun _ st oc t =>
  (oc = .returned none ∧ ∃ τ, Pic D aC wX ad τ t.heap ∧ RX zM τ) ∧ va_F (AO b wX 0) st t
theorem fin_X9_init : ∀ k, k < 9 → inL [7, 6, 5, 4, 3, 2, 1, 0] k = true ∨ ((fty 9 k = .int ∨ fty 9 k = .boolean) ∧ gI iX 0 k = 0) := by decide +kernel
/-- all is made -/
theorem BuT.pic {D : va_G} {aC : Nat → ClassId} {w : Wd} {ad : Nat → Nat} {σ : Sg} {b ci n : Nat} {dn : List Nat} {Z : Nat → Option Cell} {H0 H : Heap} {locs : List Loc} (hT : BuT D aC w ad σ b 0 ci n dn [] Z H0 H locs) (hn : n = wS w) (hk : wK w 0 = ci) (hci : ci < 11) (hfin : ∀ k r, vwCl[ci]? = some r → k < r.2.2 → inL dn k = true ∨ ((fty ci k = .int ∨ fty ci k = .boolean) ∧ gI σ 0 k = 0)) : Pic D aC w ad σ H := by
  obtain ⟨t1, t2, t3, t4, t5⟩ := hT
  intro i hi
  by_cases e : i = 0
  · subst e
    refine ⟨fun _ => ?_, fun h => by omega⟩
    rw [hk]
    obtain ⟨r, r1, r2⟩ := t2
    refine ⟨r, r1, r2.to (fun k hkN => ?_)⟩
    unfold pV
    rcases hfin k r r1 hkN with h | ⟨h, h0⟩
    · rw [h]; rfl
    · cases hd : inL dn k
      · rcases h with h | h <;> rw [h] <;> simp [cV, h0, vr, defaultValue]
      · rfl
  · exact t3 i (by omega) (by omega) rfl
theorem lt_iX : ∀ σ : Sg, σ = iX → XMm zM σ ∧ XRo zM σ ∧ (∀ b, 2 ≤ b → b ≤ 8 → gI σ 1174 b = nI (zM 8 b)) ∧ gI σ 1171 3 = e1 (zM 0 14) ∧ gI σ 1171 4 = e1 (zM 0 15) := by
  rintro σ rfl
  exact ⟨⟨by decide, by decide, by decide, by decide, by decide, by decide, by decide, fun p h => absurd h (Nat.not_lt_zero p), fun p h => absurd h (Nat.not_lt_zero p), fun p h => absurd h (Nat.not_lt_zero p), fun p h => absurd h (Nat.not_lt_zero p)⟩, ⟨by decide, fun h => absurd h (by decide), fun p h => absurd h (Nat.not_lt_zero _)⟩, fun b b1 b2 => iX_0 (by decide) (by decide) (by decide), by decide, by decide⟩
set_option maxHeartbeats 4000000 in
set_option maxRecDepth 100000 in
theorem cs_X9_init (l : Launch) (D : va_G) (aC : Nat → ClassId) (ad : Nat → Nat) (b : Nat) (had : ∀ i, i < wS wX → ad i = b + i) : Met l yX9_init (Cond.code yX9_init cX9_init 1 none :: big) (rmk 4 1174 8972) (Pk D aC wX ad iX b 0 9 []) (Qx D aC ad b) 1174 8972 (AO b wX 0) := by
  refine Met.ofW (cc := cX9_init) (maxL := 1) (ret := none) (by decide +kernel) rfl ?_
  intro p e s m args below meth c s₁ B hml hv
  obtain ⟨rfl, hK, hz, hP⟩ := hv
  have hts := atoms_spec (ws := Cond.code yX9_init cX9_init 1 none :: big) B.pre
  have hown : s.vm.findClass RX9 = some m.cls := findClass_of_methodNamed B.named
  have hin : meth.name = "<init>" := ((name_of_methodNamed B.named B.method).1).trans rfl
  have hl := lv_entry ((Value.ref 0 :: []).map (vr ad)) (n := 1) (by rw [lg_len ad]; decide)
  have e1 : (.ref (ad 0) :: ([] : List Value).map (vr ad) : List Value) = (Value.ref 0 :: []).map (vr ad) := rfl
  rw [e1, lg_entry_eq]
  generalize (lg_sl ((Value.ref 0 :: []).map (vr ad)) ++ List.replicate (1 - (lg_sl ((Value.ref 0 :: []).map (vr ad))).length) Slot.unset).toArray = ls at hl ⊢
  have hT : BuT D aC wX ad iX b 0 9 (0 + 1) [] [] nZ s.heap s.heap [] := ⟨hz, hP, fun i h1 h2 => by omega, fun i c hc => (by cases hc), va_S.rf⟩
  rw [lv_args_rel] at hl
  replace hl : lv_has ls 1 ((0, .ref (ad 0)) :: rel ad (arg0 1 [])) := hl
  have hx := B.exec
  have hb := B.bytes
  have hr := B.returns
  have hlocks := B.notSynchronized
  have hbig : ∀ x ∈ big, x ∈ Cond.code yX9_init cX9_init 1 none :: big := fun x h => List.mem_cons_of_mem _ h
  have hV := hK.1.1
  refine lv_aload_n hx hb dk_X9_init_0 rfl (lv_at hl 0 rfl) ?_
  refine W.objInit hx hb hown (hts _ (hbig _ tk_78)) (hts _ (hbig _ tk_79)) (hts _ (hbig _ tk_80)) rfl (hl.1.trans hml.symm) rfl dk_X9_init_1 (Nat.le_of_ble_eq_true rfl) (Nat.le_of_ble_eq_true rfl) ?_
  refine W.eq (g2 := F0 m 4 ls []) rfl ?_
  refine lv_aload_n hx hb dk_X9_init_4 rfl (lv_at hl 0 rfl) ?_
  refine ct_new (n := 1) (cn := 3) (C := RX3) (T := TX3) (N := 14) had (by decide) hx hb hts hbig hown hV rfl tyX3_ok lay3 (hbig _ tk_81) (hbig _ tk_82) (hbig _ tk_60) (by decide) (by decide) (Nat.le_of_ble_eq_true rfl) (Nat.le_of_ble_eq_true rfl) hT dk_X9_init_5 (fun H hT hPn => ?_)
  have hT : BuT D aC wX ad iX b 0 9 2 [] [1] nZ s.heap H [] := hT
  refine lv_dup hx hb dk_X9_init_8 rfl ?_
  refine ct_call (n := 1) (cn := 3) (rest := [.ref (ad 1), .ref (ad 0)]) (As := []) (cs_X3_init l) had (by decide) hx hb hml hown hts hbig hK tk_85 (hbig _ tk_60) (hbig _ tk_84) (Or.inr (by decide +kernel)) rfl (by decide +kernel) ⟨(Nat.le_of_ble_eq_true rfl), (Nat.le_of_ble_eq_true rfl)⟩ ⟨(Nat.le_of_ble_eq_true rfl), (Nat.le_of_ble_eq_true rfl)⟩ hl.1 (Nat.le_of_ble_eq_true rfl) (by decide) (by decide) (by decide) hT hPn rfl dk_X9_init_9 rfl (fun H locs hT => ?_)
  have hT : BuT D aC wX ad iX b 0 9 13 [] [] nZ s.heap H locs := hT
  refine ct_put (idx := 10) (k := 0) had (by decide) hx hb hts hbig hown hV hin (by decide) hT fto_RX9_10 ⟨_, _, rfl⟩ rfl rfl rfl dk_X9_init_12 (fun H locs hT => ?_)
  have hT : BuT D aC wX ad iX b 0 9 13 [0] [] nZ s.heap H locs := hT
  refine lv_aload_n hx hb dk_X9_init_15 rfl (lv_at hl 0 rfl) ?_
  refine ct_new (n := 13) (cn := 8) (C := RX8) (T := TX8) (N := 11) had (by decide) hx hb hts hbig hown hV rfl tyX8_ok lay8 (hbig _ tk_165) (hbig _ tk_166) (hbig _ tk_63) (by decide) (by decide) (Nat.le_of_ble_eq_true rfl) (Nat.le_of_ble_eq_true rfl) hT dk_X9_init_16 (fun H hT hPn => ?_)
  have hT : BuT D aC wX ad iX b 0 9 14 [0] [13] nZ s.heap H locs := hT
  refine lv_dup hx hb dk_X9_init_19 rfl ?_
  refine lv_aload_n hx hb dk_X9_init_20 rfl (lv_at hl 0 rfl) ?_
  refine ct_get (idx := 10) (k := 0) (v := .ref (ad 1)) hx hb hts hbig hown hV hT fto_RX9_10 rfl rfl dk_X9_init_21 ?_
  refine ct_call (n := 13) (cn := 8) (rest := [.ref (ad 13), .ref (ad 0)]) (As := [.ref 1]) (cs_X8_init l) had (by decide) hx hb hml hown hts hbig hK tk_169 (hbig _ tk_63) (hbig _ tk_168) (Or.inl (hbig _ tk_167)) rfl (by decide +kernel) ⟨(Nat.le_of_ble_eq_true rfl), (Nat.le_of_ble_eq_true rfl)⟩ ⟨(Nat.le_of_ble_eq_true rfl), (Nat.le_of_ble_eq_true rfl)⟩ hl.1 (Nat.le_of_ble_eq_true rfl) (by decide) (by decide) (by decide) hT hPn rfl dk_X9_init_24 rfl (fun H locs hT => ?_)
  have hT : BuT D aC wX ad iX b 0 9 1054 [0] [] nZ s.heap H locs := hT
  refine ct_put (idx := 21) (k := 1) had (by decide) hx hb hts hbig hown hV hin (by decide) hT fto_RX9_21 ⟨_, _, rfl⟩ rfl rfl rfl dk_X9_init_27 (fun H locs hT => ?_)
  have hT : BuT D aC wX ad iX b 0 9 1054 [1, 0] [] nZ s.heap H locs := hT
  refine lv_aload_n hx hb dk_X9_init_30 rfl (lv_at hl 0 rfl) ?_
  refine ct_new (n := 1054) (cn := 1) (C := RX1) (T := TX1) (N := 6) had (by decide) hx hb hts hbig hown hV rfl tyX1_ok lay1 (hbig _ tk_220) (hbig _ tk_221) (hbig _ tk_65) (by decide) (by decide) (Nat.le_of_ble_eq_true rfl) (Nat.le_of_ble_eq_true rfl) hT dk_X9_init_31 (fun H hT hPn => ?_)
  have hT : BuT D aC wX ad iX b 0 9 1055 [1, 0] [1054] nZ s.heap H locs := hT
  refine lv_dup hx hb dk_X9_init_34 rfl ?_
  refine lv_aload_n hx hb dk_X9_init_35 rfl (lv_at hl 0 rfl) ?_
  refine ct_get (idx := 10) (k := 0) (v := .ref (ad 1)) hx hb hts hbig hown hV hT fto_RX9_10 rfl rfl dk_X9_init_36 ?_
  refine lv_aload_n hx hb dk_X9_init_39 rfl (lv_at hl 0 rfl) ?_
  refine ct_get (idx := 21) (k := 1) (v := .ref (ad 13)) hx hb hts hbig hown hV hT fto_RX9_21 rfl rfl dk_X9_init_40 ?_
  refine ct_call (n := 1054) (cn := 1) (rest := [.ref (ad 1054), .ref (ad 0)]) (As := [.ref 1, .ref 13]) (cs_X1_init l) had (by decide) hx hb hml hown hts hbig hK tk_224 (hbig _ tk_65) (hbig _ tk_223) (Or.inl (hbig _ tk_222)) rfl (by decide +kernel) ⟨(Nat.le_of_ble_eq_true rfl), (Nat.le_of_ble_eq_true rfl)⟩ ⟨(Nat.le_of_ble_eq_true rfl), (Nat.le_of_ble_eq_true rfl)⟩ hl.1 (Nat.le_of_ble_eq_true rfl) (by decide) (by decide) (by decide) hT hPn rfl dk_X9_init_43 rfl (fun H locs hT => ?_)
  have hT : BuT D aC wX ad iX b 0 9 1164 [1, 0] [] nZ s.heap H locs := hT
  refine ct_put (idx := 30) (k := 2) had (by decide) hx hb hts hbig hown hV hin (by decide) hT fto_RX9_30 ⟨_, _, rfl⟩ rfl rfl rfl dk_X9_init_46 (fun H locs hT => ?_)
  have hT : BuT D aC wX ad iX b 0 9 1164 [2, 1, 0] [] nZ s.heap H locs := hT
  refine lv_aload_n hx hb dk_X9_init_49 rfl (lv_at hl 0 rfl) ?_
  refine ct_new (n := 1164) (cn := 4) (C := RX4) (T := TX4) (N := 10) had (by decide) hx hb hts hbig hown hV rfl tyX4_ok lay4 (hbig _ tk_277) (hbig _ tk_278) (hbig _ tk_67) (by decide) (by decide) (Nat.le_of_ble_eq_true rfl) (Nat.le_of_ble_eq_true rfl) hT dk_X9_init_50 (fun H hT hPn => ?_)
  have hT : BuT D aC wX ad iX b 0 9 1165 [2, 1, 0] [1164] nZ s.heap H locs := hT
  refine lv_dup hx hb dk_X9_init_53 rfl ?_
  refine lv_aload_n hx hb dk_X9_init_54 rfl (lv_at hl 0 rfl) ?_
  refine ct_get (idx := 10) (k := 0) (v := .ref (ad 1)) hx hb hts hbig hown hV hT fto_RX9_10 rfl rfl dk_X9_init_55 ?_
  refine lv_aload_n hx hb dk_X9_init_58 rfl (lv_at hl 0 rfl) ?_
  refine ct_get (idx := 21) (k := 1) (v := .ref (ad 13)) hx hb hts hbig hown hV hT fto_RX9_21 rfl rfl dk_X9_init_59 ?_
  refine lv_aload_n hx hb dk_X9_init_62 rfl (lv_at hl 0 rfl) ?_
  refine ct_get (idx := 30) (k := 2) (v := .ref (ad 1054)) hx hb hts hbig hown hV hT fto_RX9_30 rfl rfl dk_X9_init_63 ?_
  refine ct_call (n := 1164) (cn := 4) (rest := [.ref (ad 1164), .ref (ad 0)]) (As := [.ref 1, .ref 13, .ref 1054]) (cs_X4_init l) had (by decide) hx hb hml hown hts hbig hK tk_281 (hbig _ tk_67) (hbig _ tk_280) (Or.inl (hbig _ tk_279)) rfl (by decide +kernel) ⟨(Nat.le_of_ble_eq_true rfl), (Nat.le_of_ble_eq_true rfl)⟩ ⟨(Nat.le_of_ble_eq_true rfl), (Nat.le_of_ble_eq_true rfl)⟩ hl.1 (Nat.le_of_ble_eq_true rfl) (by decide) (by decide) (by decide) hT hPn rfl dk_X9_init_66 rfl (fun H locs hT => ?_)
  have hT : BuT D aC wX ad iX b 0 9 1167 [2, 1, 0] [] nZ s.heap H locs := hT
  refine ct_put (idx := 39) (k := 3) had (by decide) hx hb hts hbig hown hV hin (by decide) hT fto_RX9_39 ⟨_, _, rfl⟩ rfl rfl rfl dk_X9_init_69 (fun H locs hT => ?_)
  have hT : BuT D aC wX ad iX b 0 9 1167 [3, 2, 1, 0] [] nZ s.heap H locs := hT
  refine lv_aload_n hx hb dk_X9_init_72 rfl (lv_at hl 0 rfl) ?_
  refine ct_new (n := 1167) (cn := 0) (C := RX0) (T := TX0) (N := 4) had (by decide) hx hb hts hbig hown hV rfl tyX0_ok lay0 (hbig _ tk_317) (hbig _ tk_228) (hbig _ tk_66) (by decide) (by decide) (Nat.le_of_ble_eq_true rfl) (Nat.le_of_ble_eq_true rfl) hT dk_X9_init_73 (fun H hT hPn => ?_)
  have hT : BuT D aC wX ad iX b 0 9 1168 [3, 2, 1, 0] [1167] nZ s.heap H locs := hT
  refine lv_dup hx hb dk_X9_init_76 rfl ?_
  refine lv_bipush (v := (nI 100)) hx hb dk_X9_init_77 (by decide) ?_
  refine ct_call (n := 1167) (cn := 0) (rest := [.ref (ad 1167), .ref (ad 0)]) (As := [.int (nI 100)]) (cs_X0_init l (o := 1167) (cap := 100) ⟨by decide, by decide, by decide, by decide, by decide, by decide, ⟨by decide, by decide, by decide, by decide⟩, by decide⟩ (by decide) (by decide)) had (by decide) hx hb hml hown hts hbig hK tk_231 (hbig _ tk_66) (hbig _ tk_230) (Or.inl (hbig _ tk_318)) rfl (by decide +kernel) ⟨(Nat.le_of_ble_eq_true rfl), (Nat.le_of_ble_eq_true rfl)⟩ ⟨(Nat.le_of_ble_eq_true rfl), (Nat.le_of_ble_eq_true rfl)⟩ hl.1 (Nat.le_of_ble_eq_true rfl) (by decide) (by decide) (by decide) hT hPn rfl dk_X9_init_79 rfl (fun H locs hT => ?_)
  have hT : BuT D aC wX ad iX b 0 9 1171 [3, 2, 1, 0] [] nZ s.heap H locs := hT
  refine ct_put (idx := 48) (k := 4) had (by decide) hx hb hts hbig hown hV hin (by decide) hT fto_RX9_48 ⟨_, _, rfl⟩ rfl rfl rfl dk_X9_init_82 (fun H locs hT => ?_)
  have hT : BuT D aC wX ad iX b 0 9 1171 [4, 3, 2, 1, 0] [] nZ s.heap H locs := hT
  refine lv_aload_n hx hb dk_X9_init_85 rfl (lv_at hl 0 rfl) ?_
  refine ct_new (n := 1171) (cn := 2) (C := RX2) (T := TX2) (N := 5) had (by decide) hx hb hts hbig hown hV rfl tyX2_ok lay2 (hbig _ tk_319) (hbig _ tk_320) (hbig _ tk_68) (by decide) (by decide) (Nat.le_of_ble_eq_true rfl) (Nat.le_of_ble_eq_true rfl) hT dk_X9_init_86 (fun H hT hPn => ?_)
  have hT : BuT D aC wX ad iX b 0 9 1172 [4, 3, 2, 1, 0] [1171] nZ s.heap H locs := hT
  refine lv_dup hx hb dk_X9_init_89 rfl ?_
  refine lv_aload_n hx hb dk_X9_init_90 rfl (lv_at hl 0 rfl) ?_
  refine ct_get (idx := 10) (k := 0) (v := .ref (ad 1)) hx hb hts hbig hown hV hT fto_RX9_10 rfl rfl dk_X9_init_91 ?_
  refine lv_aload_n hx hb dk_X9_init_94 rfl (lv_at hl 0 rfl) ?_
  refine ct_get (idx := 21) (k := 1) (v := .ref (ad 13)) hx hb hts hbig hown hV hT fto_RX9_21 rfl rfl dk_X9_init_95 ?_
  refine lv_aload_n hx hb dk_X9_init_98 rfl (lv_at hl 0 rfl) ?_
  refine ct_get (idx := 48) (k := 4) (v := .ref (ad 1167)) hx hb hts hbig hown hV hT fto_RX9_48 rfl rfl dk_X9_init_99 ?_
  refine ct_call (n := 1171) (cn := 2) (rest := [.ref (ad 1171), .ref (ad 0)]) (As := [.ref 1, .ref 13, .ref 1167]) (cs_X2_init l) had (by decide) hx hb hml hown hts hbig hK tk_323 (hbig _ tk_68) (hbig _ tk_322) (Or.inl (hbig _ tk_321)) rfl (by decide +kernel) ⟨(Nat.le_of_ble_eq_true rfl), (Nat.le_of_ble_eq_true rfl)⟩ ⟨(Nat.le_of_ble_eq_true rfl), (Nat.le_of_ble_eq_true rfl)⟩ hl.1 (Nat.le_of_ble_eq_true rfl) (by decide) (by decide) (by decide) hT hPn rfl dk_X9_init_102 rfl (fun H locs hT => ?_)
  have hT : BuT D aC wX ad iX b 0 9 1172 [4, 3, 2, 1, 0] [] nZ s.heap H locs := hT
  refine ct_put (idx := 57) (k := 5) had (by decide) hx hb hts hbig hown hV hin (by decide) hT fto_RX9_57 ⟨_, _, rfl⟩ rfl rfl rfl dk_X9_init_105 (fun H locs hT => ?_)
  have hT : BuT D aC wX ad iX b 0 9 1172 [5, 4, 3, 2, 1, 0] [] nZ s.heap H locs := hT
  refine lv_aload_n hx hb dk_X9_init_108 rfl (lv_at hl 0 rfl) ?_
  refine ct_new (n := 1172) (cn := 5) (C := RX5) (T := TX5) (N := 3) had (by decide) hx hb hts hbig hown hV rfl tyX5_ok lay5 (hbig _ tk_343) (hbig _ tk_344) (hbig _ tk_69) (by decide) (by decide) (Nat.le_of_ble_eq_true rfl) (Nat.le_of_ble_eq_true rfl) hT dk_X9_init_109 (fun H hT hPn => ?_)
  have hT : BuT D aC wX ad iX b 0 9 1173 [5, 4, 3, 2, 1, 0] [1172] nZ s.heap H locs := hT
  refine lv_dup hx hb dk_X9_init_112 rfl ?_
  refine ct_call (n := 1172) (cn := 5) (rest := [.ref (ad 1172), .ref (ad 0)]) (As := []) (cs_X5_init l) had (by decide) hx hb hml hown hts hbig hK tk_347 (hbig _ tk_69) (hbig _ tk_346) (Or.inr (by decide +kernel)) rfl (by decide +kernel) ⟨(Nat.le_of_ble_eq_true rfl), (Nat.le_of_ble_eq_true rfl)⟩ ⟨(Nat.le_of_ble_eq_true rfl), (Nat.le_of_ble_eq_true rfl)⟩ hl.1 (Nat.le_of_ble_eq_true rfl) (by decide) (by decide) (by decide) hT hPn rfl dk_X9_init_113 rfl (fun H locs hT => ?_)
  have hT : BuT D aC wX ad iX b 0 9 1174 [5, 4, 3, 2, 1, 0] [] nZ s.heap H locs := hT
  refine ct_put (idx := 64) (k := 6) had (by decide) hx hb hts hbig hown hV hin (by decide) hT fto_RX9_64 ⟨_, _, rfl⟩ rfl rfl rfl dk_X9_init_116 (fun H locs hT => ?_)
  have hT : BuT D aC wX ad iX b 0 9 1174 [6, 5, 4, 3, 2, 1, 0] [] nZ s.heap H locs := hT
  refine lv_aload_n hx hb dk_X9_init_119 rfl (lv_at hl 0 rfl) ?_
  refine lv_bipush (v := (nI 9)) hx hb dk_X9_init_120 (by decide) ?_
  refine ct_newa (kd := 20) (n := 1174) (L := 9) had (by decide) hx hb hts (atype := .int) (ty := .int) rfl (hbig _ tk_106) (hV.2 0 _ rfl).2 (by decide) (Nat.le_of_ble_eq_true rfl) (by decide) (by decide) (by decide) (by decide) (by decide) (by decide) (fun _ => rfl) (Nat.le_of_ble_eq_true rfl) (Nat.le_of_ble_eq_true rfl) hT dk_X9_init_122 (fun H hT => ?_)
  have hT : BuT D aC wX ad iX b 0 9 1175 [6, 5, 4, 3, 2, 1, 0] [] nZ s.heap H locs := hT
  refine ct_put (idx := 68) (k := 7) had (by decide) hx hb hts hbig hown hV hin (by decide) hT fto_RX9_68 ⟨_, _, rfl⟩ rfl rfl rfl dk_X9_init_124 (fun H locs hT => ?_)
  have hT : BuT D aC wX ad iX b 0 9 1175 [7, 6, 5, 4, 3, 2, 1, 0] [] nZ s.heap H locs := hT
  refine lv_aload_n hx hb dk_X9_init_127 rfl (lv_at hl 0 rfl) ?_
  have hPic : Pic D aC wX ad iX H := hT.pic rfl (by decide) (by decide) (fun k r hrr hk => by
    cases hrr
    exact fin_X9_init k hk)
  have hj : ∀ i k, i < wS wX → k < wS wX → ad i = ad k → i = k := fun i k hi hk h => by
    rw [had i hi, had k hk] at h; omega
  have hAA : ∀ q, AW wX ad q → AO b wX 0 q := by
    rintro q ⟨i, h1, h2⟩
    exact ⟨i, by omega, h1, by rw [h2, had i h1]⟩
  have hS := hT.2.2.2.2
  obtain ⟨z1, z2, z3, z4, z5⟩ := lt_iX iX rfl
  refine pw_invR (R := rmk 4 1174 8972) (h := 4) (own := RX9) (a := 0) (As := []) (rest := []) (n := 1) (ci := 9) (wp := wl_X9_startAnew) (Q' := fun r τ => r = none ∧ RX zM τ) hx hb hml hown hts hbig (hK.1.mono (fun q h => h.AW had)) hAA hj hPic hS ⟨Nat.le_refl _, Nat.le_refl _⟩ hl.1 ⟨Nat.le_refl _, Nat.le_refl _⟩ (Or.inr (Or.inr (Or.inr ⟨yX9_startAnew, cX9_startAnew, 1, none, 3, ct_X9_startAnew l, by decide, by decide, mi_X9_startAnew.1, mi_X9_startAnew.2, ml_RX9_72, mv_X9_startAnew.1, mv_X9_startAnew.2, ⟨_, _, rfl⟩, by decide, by decide +kernel⟩))) (by decide) (by decide) rfl (by decide) ?_ dk_X9_init_128 rfl (fun r τ H1 locs1 hq hP1 hk1 hz1 hS1 => ?_)
  · show wp_X9_startAnew iX _
    refine xs_anew (X := zM) (by rw [chg_zM]; exact WF_zM.1) z1 z2 z3 z4 z5 (fun τ hτ _ => ⟨rfl, ?_⟩)
    rw [chg_zM] at hτ; exact hτ
  · obtain ⟨rfl, hRX⟩ := hq
    exact W.vret hx hb hr (fun t ht hW => ⟨⟨rfl, τ, by rw [ht]; exact hP1, hRX⟩, hS1.F ht⟩) hS1.2.2 dk_X9_init_131 hlocks
