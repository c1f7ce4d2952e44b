/-! BUILDING: the constructor of the reference -/
theorem dk_X10_init_0 : decode cX10_init 0 = .ok (.aload_n 0, 1) := by decide +kernel
theorem tk_1081 : Cond.methodLink RX10 1 objectInit ∈ big := big_in 1081 (by decide +kernel) (by decide +kernel)
theorem dk_X10_init_1 : decode cX10_init 1 = .ok (.invokespecial 1, 3) := by decide +kernel
theorem dk_X10_init_4 : decode cX10_init 4 = .ok (.aload_n 0, 1) := by decide +kernel
theorem dk_X10_init_5 : decode cX10_init 5 = .ok (.bipush 80, 2) := by decide +kernel
theorem dk_X10_init_7 : decode cX10_init 7 = .ok (.newarray .int, 2) := by decide +kernel
theorem dk_X10_init_9 : decode cX10_init 9 = .ok (.putfield 7, 3) := by decide +kernel
theorem dk_X10_init_12 : decode cX10_init 12 = .ok (.aload_n 0, 1) := by decide +kernel
theorem dk_X10_init_13 : decode cX10_init 13 = .ok (.bipush 80, 2) := by decide +kernel
theorem dk_X10_init_15 : decode cX10_init 15 = .ok (.newarray .int, 2) := by decide +kernel
theorem dk_X10_init_17 : decode cX10_init 17 = .ok (.putfield 13, 3) := by decide +kernel
theorem dk_X10_init_20 : decode cX10_init 20 = .ok (.aload_n 0, 1) := by decide +kernel
theorem dk_X10_init_21 : decode cX10_init 21 = .ok (.bipush 80, 2) := by decide +kernel
theorem dk_X10_init_23 : decode cX10_init 23 = .ok (.newarray .int, 2) := by decide +kernel
theorem dk_X10_init_25 : decode cX10_init 25 = .ok (.putfield 16, 3) := by decide +kernel
theorem dk_X10_init_28 : decode cX10_init 28 = .ok (.aload_n 0, 1) := by decide +kernel
theorem dk_X10_init_29 : decode cX10_init 29 = .ok (.bipush 80, 2) := by decide +kernel
theorem dk_X10_init_31 : decode cX10_init 31 = .ok (.newarray .int, 2) := by decide +kernel
theorem dk_X10_init_33 : decode cX10_init 33 = .ok (.putfield 19, 3) := by decide +kernel
theorem dk_X10_init_36 : decode cX10_init 36 = .ok (.aload_n 0, 1) := by decide +kernel
theorem dk_X10_init_37 : decode cX10_init 37 = .ok (.bipush 80, 2) := by decide +kernel
theorem dk_X10_init_39 : decode cX10_init 39 = .ok (.newarray .boolean, 2) := by decide +kernel
theorem dk_X10_init_41 : decode cX10_init 41 = .ok (.putfield 22, 3) := by decide +kernel
theorem dk_X10_init_44 : decode cX10_init 44 = .ok (.aload_n 0, 1) := by decide +kernel
theorem dk_X10_init_45 : decode cX10_init 45 = .ok (.iconst (-1), 1) := by decide +kernel
theorem dk_X10_init_46 : decode cX10_init 46 = .ok (.putfield 26, 3) := by decide +kernel
theorem dk_X10_init_49 : decode cX10_init 49 = .ok (.aload_n 0, 1) := by decide +kernel
theorem dk_X10_init_50 : decode cX10_init 50 = .ok (.iconst 4, 1) := by decide +kernel
theorem dk_X10_init_51 : decode cX10_init 51 = .ok (.newarray .int, 2) := by decide +kernel
theorem dk_X10_init_53 : decode cX10_init 53 = .ok (.putfield 30, 3) := by decide +kernel
theorem dk_X10_init_56 : decode cX10_init 56 = .ok (.aload_n 0, 1) := by decide +kernel
theorem dk_X10_init_57 : decode cX10_init 57 = .ok (.iconst 3, 1) := by decide +kernel
theorem dk_X10_init_58 : decode cX10_init 58 = .ok (.newarray .int, 2) := by decide +kernel
theorem dk_X10_init_60 : decode cX10_init 60 = .ok (.putfield 33, 3) := by decide +kernel
theorem dk_X10_init_63 : decode cX10_init 63 = .ok (.aload_n 0, 1) := by decide +kernel
theorem dk_X10_init_64 : decode cX10_init 64 = .ok (.bipush 9, 2) := by decide +kernel
theorem dk_X10_init_66 : decode cX10_init 66 = .ok (.newarray .int, 2) := by decide +kernel
theorem dk_X10_init_68 : decode cX10_init 68 = .ok (.putfield 36, 3) := by decide +kernel
theorem dk_X10_init_71 : decode cX10_init 71 = .ok (.aload_n 0, 1) := by decide +kernel
theorem dk_X10_init_72 : decode cX10_init 72 = .ok (.sipush 4096, 3) := by decide +kernel
theorem dk_X10_init_75 : decode cX10_init 75 = .ok (.newarray .int, 2) := by decide +kernel
theorem dk_X10_init_77 : decode cX10_init 77 = .ok (.putfield 39, 3) := by decide +kernel
theorem dk_X10_init_80 : decode cX10_init 80 = .ok (.aload_n 0, 1) := by decide +kernel
theorem dk_X10_init_81 : decode cX10_init 81 = .ok (.sipush 4096, 3) := by decide +kernel
theorem dk_X10_init_84 : decode cX10_init 84 = .ok (.newarray .int, 2) := by decide +kernel
theorem dk_X10_init_86 : decode cX10_init 86 = .ok (.putfield 42, 3) := by decide +kernel
theorem dk_X10_init_89 : decode cX10_init 89 = .ok (.aload_n 0, 1) := by decide +kernel
theorem dk_X10_init_90 : decode cX10_init 90 = .ok (.sipush 4096, 3) := by decide +kernel
theorem dk_X10_init_93 : decode cX10_init 93 = .ok (.newarray .boolean, 2) := by decide +kernel
theorem dk_X10_init_95 : decode cX10_init 95 = .ok (.putfield 45, 3) := by decide +kernel
theorem dk_X10_init_98 : decode cX10_init 98 = .ok (.aload_n 0, 1) := by decide +kernel
theorem dk_X10_init_99 : decode cX10_init 99 = .ok (.sipush 5000, 3) := by decide +kernel
theorem dk_X10_init_102 : decode cX10_init 102 = .ok (.newarray .int, 2) := by decide +kernel
theorem dk_X10_init_104 : decode cX10_init 104 = .ok (.putfield 48, 3) := by decide +kernel
theorem dk_X10_init_107 : decode cX10_init 107 = .ok (.aload_n 0, 1) := by decide +kernel
theorem dk_X10_init_108 : decode cX10_init 108 = .ok (.sipush 5000, 3) := by decide +kernel
theorem dk_X10_init_111 : decode cX10_init 111 = .ok (.newarray .int, 2) := by decide +kernel
theorem dk_X10_init_113 : decode cX10_init 113 = .ok (.putfield 51, 3) := by decide +kernel
theorem dk_X10_init_116 : decode cX10_init 116 = .ok (.aload_n 0, 1) := by decide +kernel
theorem dk_X10_init_117 : decode cX10_init 117 = .ok (.bipush 25, 2) := by decide +kernel
theorem dk_X10_init_119 : decode cX10_init 119 = .ok (.newarray .int, 2) := by decide +kernel
theorem dk_X10_init_121 : decode cX10_init 121 = .ok (.putfield 54, 3) := by decide +kernel
theorem dk_X10_init_124 : decode cX10_init 124 = .ok (.aload_n 0, 1) := by decide +kernel
theorem dk_X10_init_125 : decode cX10_init 125 = .ok (.bipush 40, 2) := by decide +kernel
theorem dk_X10_init_127 : decode cX10_init 127 = .ok (.newarray .int, 2) := by decide +kernel
theorem dk_X10_init_129 : decode cX10_init 129 = .ok (.putfield 57, 3) := by decide +kernel
theorem dk_X10_init_132 : decode cX10_init 132 = .ok (.aload_n 0, 1) := by decide +kernel
theorem dk_X10_init_133 : decode cX10_init 133 = .ok (.bipush 40, 2) := by decide +kernel
theorem dk_X10_init_135 : decode cX10_init 135 = .ok (.newarray .int, 2) := by decide +kernel
theorem dk_X10_init_137 : decode cX10_init 137 = .ok (.putfield 60, 3) := by decide +kernel
theorem dk_X10_init_140 : decode cX10_init 140 = .ok (.aload_n 0, 1) := by decide +kernel
theorem dk_X10_init_141 : decode cX10_init 141 = .ok (.sipush 200, 3) := by decide +kernel
theorem dk_X10_init_144 : decode cX10_init 144 = .ok (.newarray .int, 2) := by decide +kernel
theorem dk_X10_init_146 : decode cX10_init 146 = .ok (.putfield 63, 3) := by decide +kernel
theorem dk_X10_init_149 : decode cX10_init 149 = .ok (.aload_n 0, 1) := by decide +kernel
theorem dk_X10_init_150 : decode cX10_init 150 = .ok (.sipush 200, 3) := by decide +kernel
theorem dk_X10_init_153 : decode cX10_init 153 = .ok (.newarray .int, 2) := by decide +kernel
theorem dk_X10_init_155 : decode cX10_init 155 = .ok (.putfield 66, 3) := by decide +kernel
theorem dk_X10_init_158 : decode cX10_init 158 = .ok (.aload_n 0, 1) := by decide +kernel
theorem dk_X10_init_159 : decode cX10_init 159 = .ok (.iconst (-1), 1) := by decide +kernel
theorem dk_X10_init_160 : decode cX10_init 160 = .ok (.putfield 69, 3) := by decide +kernel
theorem dk_X10_init_163 : decode cX10_init 163 = .ok (.aload_n 0, 1) := by decide +kernel
theorem dk_X10_init_164 : decode cX10_init 164 = .ok (.bipush 40, 2) := by decide +kernel
theorem dk_X10_init_166 : decode cX10_init 166 = .ok (.newarray .int, 2) := by decide +kernel
theorem dk_X10_init_168 : decode cX10_init 168 = .ok (.putfield 72, 3) := by decide +kernel
theorem dk_X10_init_171 : decode cX10_init 171 = .ok (.aload_n 0, 1) := by decide +kernel
theorem dk_X10_init_172 : decode cX10_init 172 = .ok (.sipush 256, 3) := by decide +kernel
theorem dk_X10_init_175 : decode cX10_init 175 = .ok (.newarray .int, 2) := by decide +kernel
theorem dk_X10_init_177 : decode cX10_init 177 = .ok (.putfield 75, 3) := by decide +kernel
theorem dk_X10_init_180 : decode cX10_init 180 = .ok (.aload_n 0, 1) := by decide +kernel
theorem dk_X10_init_181 : decode cX10_init 181 = .ok (.bipush 80, 2) := by decide +kernel
theorem dk_X10_init_183 : decode cX10_init 183 = .ok (.newarray .boolean, 2) := by decide +kernel
theorem dk_X10_init_185 : decode cX10_init 185 = .ok (.putfield 78, 3) := by decide +kernel
theorem dk_X10_init_188 : decode cX10_init 188 = .ok (.aload_n 0, 1) := by decide +kernel
theorem tk_1082 : Cond.constant RX10 81 65536 ∈ big := big_in 1082 (by decide +kernel) (by decide +kernel)
theorem dk_X10_init_189 : decode cX10_init 189 = .ok (.ldc 81, 2) := by decide +kernel
theorem dk_X10_init_191 : decode cX10_init 191 = .ok (.newarray .boolean, 2) := by decide +kernel
theorem dk_X10_init_193 : decode cX10_init 193 = .ok (.putfield 82, 3) := by decide +kernel
theorem dk_X10_init_196 : decode cX10_init 196 = .ok (.aload_n 0, 1) := by decide +kernel
theorem dk_X10_init_197 : decode cX10_init 197 = .ok (.bipush 100, 2) := by decide +kernel
theorem dk_X10_init_199 : decode cX10_init 199 = .ok (.newarray .int, 2) := by decide +kernel
theorem dk_X10_init_201 : decode cX10_init 201 = .ok (.putfield 85, 3) := by decide +kernel
theorem dk_X10_init_204 : decode cX10_init 204 = .ok (.aload_n 0, 1) := by decide +kernel
theorem dk_X10_init_205 : decode cX10_init 205 = .ok (.bipush 100, 2) := by decide +kernel
theorem dk_X10_init_207 : decode cX10_init 207 = .ok (.newarray .int, 2) := by decide +kernel
theorem dk_X10_init_209 : decode cX10_init 209 = .ok (.putfield 88, 3) := by decide +kernel
theorem dk_X10_init_212 : decode cX10_init 212 = .ok (.aload_n 0, 1) := by decide +kernel
theorem dk_X10_init_213 : decode cX10_init 213 = .ok (.iconst (-1), 1) := by decide +kernel
theorem dk_X10_init_214 : decode cX10_init 214 = .ok (.putfield 91, 3) := by decide +kernel
theorem dk_X10_init_217 : decode cX10_init 217 = .ok (.aload_n 0, 1) := by decide +kernel
theorem dk_X10_init_218 : decode cX10_init 218 = .ok (.iconst (-1), 1) := by decide +kernel
theorem dk_X10_init_219 : decode cX10_init 219 = .ok (.putfield 94, 3) := by decide +kernel
theorem dk_X10_init_222 : decode cX10_init 222 = .ok (.aload_n 0, 1) := by decide +kernel
theorem dk_X10_init_223 : decode cX10_init 223 = .ok (.bipush 80, 2) := by decide +kernel
theorem dk_X10_init_225 : decode cX10_init 225 = .ok (.newarray .int, 2) := by decide +kernel
theorem dk_X10_init_227 : decode cX10_init 227 = .ok (.putfield 97, 3) := by decide +kernel
theorem dk_X10_init_230 : decode cX10_init 230 = .ok (.aload_n 0, 1) := by decide +kernel
theorem dk_X10_init_231 : decode cX10_init 231 = .ok (.bipush 80, 2) := by decide +kernel
theorem dk_X10_init_233 : decode cX10_init 233 = .ok (.newarray .int, 2) := by decide +kernel
theorem dk_X10_init_235 : decode cX10_init 235 = .ok (.putfield 100, 3) := by decide +kernel
theorem dk_X10_init_238 : decode cX10_init 238 = .ok (.aload_n 0, 1) := by decide +kernel
theorem dk_X10_init_239 : decode cX10_init 239 = .ok (.iconst (-1), 1) := by decide +kernel
theorem dk_X10_init_240 : decode cX10_init 240 = .ok (.putfield 103, 3) := by decide +kernel
theorem dk_X10_init_243 : decode cX10_init 243 = .ok (.return_, 1) := by decide +kernel
theorem fin_X10_init : ∀ k, k < 47 → inL [46, 45, 44, 41, 40, 38, 37, 36, 35, 34, 32, 31, 30, 29, 28, 27, 22, 21, 20, 17, 16, 15, 14, 13, 12, 9, 4, 3, 2, 1, 0] k = true ∨ ((fty 10 k = .int ∨ fty 10 k = .boolean) ∧ gI iM 0 k = 0) := by decide +kernel
set_option maxHeartbeats 4000000 in
set_option maxRecDepth 100000 in
theorem cs_X10_init (l : Launch) : Cst l wM iM yX10_init cX10_init 1 1 0 10 27 26 89481 [] := by
  refine cs_of l (by decide +kernel) (Nat.le_of_ble_eq_true rfl) rfl ?_
  intro D aC ad b had p e s m args below meth c ls hx hb hml hr hlocks hown hts hin hK hT hl
  have hbig : ∀ x ∈ big, x ∈ Cond.code yX10_init cX10_init 1 none :: big := fun x h => List.mem_cons_of_mem _ h
  have hV := hK.1.1
  refine lv_aload_n hx hb dk_X10_init_0 rfl (lv_at hl 0 rfl) ?_
  refine W.objInit hx hb hown (hts _ (hbig _ tk_1081)) (hts _ (hbig _ tk_79)) (hts _ (hbig _ tk_80)) rfl (hl.1.trans hml.symm) rfl dk_X10_init_1 (Nat.le_of_ble_eq_true rfl) (Nat.le_of_ble_eq_true rfl) ?_
  refine W.eq (g2 := F0 m 4 ls []) rfl ?_
  refine lv_aload_n hx hb dk_X10_init_4 rfl (lv_at hl 0 rfl) ?_
  refine lv_bipush (v := (nI 80)) hx hb dk_X10_init_5 (by decide) ?_
  refine ct_newa (kd := 20) (n := 1) (L := 80) had (by decide) hx hb hts (atype := .int) (ty := .int) rfl (hbig _ tk_106) (hV.2 0 _ rfl).2 (by decide) (Nat.le_of_ble_eq_true rfl) (by decide) (by decide) (by decide) (by decide) (by decide) (by decide) (fun _ => rfl) (Nat.le_of_ble_eq_true rfl) (Nat.le_of_ble_eq_true rfl) hT dk_X10_init_7 (fun H hT => ?_)
  have hT : BuT D aC wM ad iM b 0 10 2 [] [] nZ s.heap H [] := hT
  refine ct_put (idx := 7) (k := 0) had (by decide) hx hb hts hbig hown hV hin (by decide) hT fto_RX10_7 ⟨_, _, rfl⟩ rfl rfl rfl dk_X10_init_9 (fun H locs hT => ?_)
  have hT : BuT D aC wM ad iM b 0 10 2 [0] [] nZ s.heap H locs := hT
  refine lv_aload_n hx hb dk_X10_init_12 rfl (lv_at hl 0 rfl) ?_
  refine lv_bipush (v := (nI 80)) hx hb dk_X10_init_13 (by decide) ?_
  refine ct_newa (kd := 20) (n := 2) (L := 80) had (by decide) hx hb hts (atype := .int) (ty := .int) rfl (hbig _ tk_106) (hV.2 0 _ rfl).2 (by decide) (Nat.le_of_ble_eq_true rfl) (by decide) (by decide) (by decide) (by decide) (by decide) (by decide) (fun _ => rfl) (Nat.le_of_ble_eq_true rfl) (Nat.le_of_ble_eq_true rfl) hT dk_X10_init_15 (fun H hT => ?_)
  have hT : BuT D aC wM ad iM b 0 10 3 [0] [] nZ s.heap H locs := hT
  refine ct_put (idx := 13) (k := 1) had (by decide) hx hb hts hbig hown hV hin (by decide) hT fto_RX10_13 ⟨_, _, rfl⟩ rfl rfl rfl dk_X10_init_17 (fun H locs hT => ?_)
  have hT : BuT D aC wM ad iM b 0 10 3 [1, 0] [] nZ s.heap H locs := hT
  refine lv_aload_n hx hb dk_X10_init_20 rfl (lv_at hl 0 rfl) ?_
  refine lv_bipush (v := (nI 80)) hx hb dk_X10_init_21 (by decide) ?_
  refine ct_newa (kd := 20) (n := 3) (L := 80) had (by decide) hx hb hts (atype := .int) (ty := .int) rfl (hbig _ tk_106) (hV.2 0 _ rfl).2 (by decide) (Nat.le_of_ble_eq_true rfl) (by decide) (by decide) (by decide) (by decide) (by decide) (by decide) (fun _ => rfl) (Nat.le_of_ble_eq_true rfl) (Nat.le_of_ble_eq_true rfl) hT dk_X10_init_23 (fun H hT => ?_)
  have hT : BuT D aC wM ad iM b 0 10 4 [1, 0] [] nZ s.heap H locs := hT
  refine ct_put (idx := 16) (k := 2) had (by decide) hx hb hts hbig hown hV hin (by decide) hT fto_RX10_16 ⟨_, _, rfl⟩ rfl rfl rfl dk_X10_init_25 (fun H locs hT => ?_)
  have hT : BuT D aC wM ad iM b 0 10 4 [2, 1, 0] [] nZ s.heap H locs := hT
  refine lv_aload_n hx hb dk_X10_init_28 rfl (lv_at hl 0 rfl) ?_
  refine lv_bipush (v := (nI 80)) hx hb dk_X10_init_29 (by decide) ?_
  refine ct_newa (kd := 20) (n := 4) (L := 80) had (by decide) hx hb hts (atype := .int) (ty := .int) rfl (hbig _ tk_106) (hV.2 0 _ rfl).2 (by decide) (Nat.le_of_ble_eq_true rfl) (by decide) (by decide) (by decide) (by decide) (by decide) (by decide) (fun _ => rfl) (Nat.le_of_ble_eq_true rfl) (Nat.le_of_ble_eq_true rfl) hT dk_X10_init_31 (fun H hT => ?_)
  have hT : BuT D aC wM ad iM b 0 10 5 [2, 1, 0] [] nZ s.heap H locs := hT
  refine ct_put (idx := 19) (k := 3) had (by decide) hx hb hts hbig hown hV hin (by decide) hT fto_RX10_19 ⟨_, _, rfl⟩ rfl rfl rfl dk_X10_init_33 (fun H locs hT => ?_)
  have hT : BuT D aC wM ad iM b 0 10 5 [3, 2, 1, 0] [] nZ s.heap H locs := hT
  refine lv_aload_n hx hb dk_X10_init_36 rfl (lv_at hl 0 rfl) ?_
  refine lv_bipush (v := (nI 80)) hx hb dk_X10_init_37 (by decide) ?_
  refine ct_newa (kd := 21) (n := 5) (L := 80) had (by decide) hx hb hts (atype := .boolean) (ty := .boolean) rfl (hbig _ tk_107) (hV.2 1 _ rfl).2 (by decide) (Nat.le_of_ble_eq_true rfl) (by decide) (by decide) (by decide) (by decide) (by decide) (by decide) (fun _ => rfl) (Nat.le_of_ble_eq_true rfl) (Nat.le_of_ble_eq_true rfl) hT dk_X10_init_39 (fun H hT => ?_)
  have hT : BuT D aC wM ad iM b 0 10 6 [3, 2, 1, 0] [] nZ s.heap H locs := hT
  refine ct_put (idx := 22) (k := 4) had (by decide) hx hb hts hbig hown hV hin (by decide) hT fto_RX10_22 ⟨_, _, rfl⟩ rfl rfl rfl dk_X10_init_41 (fun H locs hT => ?_)
  have hT : BuT D aC wM ad iM b 0 10 6 [4, 3, 2, 1, 0] [] nZ s.heap H locs := hT
  refine lv_aload_n hx hb dk_X10_init_44 rfl (lv_at hl 0 rfl) ?_
  refine lv_iconst (v := (-1)) hx hb dk_X10_init_45 (by decide) ?_
  refine ct_put (idx := 26) (k := 9) had (by decide) hx hb hts hbig hown hV hin (by decide) hT fto_RX10_26 ⟨_, _, rfl⟩ rfl rfl rfl dk_X10_init_46 (fun H locs hT => ?_)
  have hT : BuT D aC wM ad iM b 0 10 6 [9, 4, 3, 2, 1, 0] [] nZ s.heap H locs := hT
  refine lv_aload_n hx hb dk_X10_init_49 rfl (lv_at hl 0 rfl) ?_
  refine lv_iconst (v := (nI 4)) hx hb dk_X10_init_50 (by decide) ?_
  refine ct_newa (kd := 20) (n := 6) (L := 4) had (by decide) hx hb hts (atype := .int) (ty := .int) rfl (hbig _ tk_106) (hV.2 0 _ rfl).2 (by decide) (Nat.le_of_ble_eq_true rfl) (by decide) (by decide) (by decide) (by decide) (by decide) (by decide) (fun _ => rfl) (Nat.le_of_ble_eq_true rfl) (Nat.le_of_ble_eq_true rfl) hT dk_X10_init_51 (fun H hT => ?_)
  have hT : BuT D aC wM ad iM b 0 10 7 [9, 4, 3, 2, 1, 0] [] nZ s.heap H locs := hT
  refine ct_put (idx := 30) (k := 12) had (by decide) hx hb hts hbig hown hV hin (by decide) hT fto_RX10_30 ⟨_, _, rfl⟩ rfl rfl rfl dk_X10_init_53 (fun H locs hT => ?_)
  have hT : BuT D aC wM ad iM b 0 10 7 [12, 9, 4, 3, 2, 1, 0] [] nZ s.heap H locs := hT
  refine lv_aload_n hx hb dk_X10_init_56 rfl (lv_at hl 0 rfl) ?_
  refine lv_iconst (v := (nI 3)) hx hb dk_X10_init_57 (by decide) ?_
  refine ct_newa (kd := 20) (n := 7) (L := 3) had (by decide) hx hb hts (atype := .int) (ty := .int) rfl (hbig _ tk_106) (hV.2 0 _ rfl).2 (by decide) (Nat.le_of_ble_eq_true rfl) (by decide) (by decide) (by decide) (by decide) (by decide) (by decide) (fun _ => rfl) (Nat.le_of_ble_eq_true rfl) (Nat.le_of_ble_eq_true rfl) hT dk_X10_init_58 (fun H hT => ?_)
  have hT : BuT D aC wM ad iM b 0 10 8 [12, 9, 4, 3, 2, 1, 0] [] nZ s.heap H locs := hT
  refine ct_put (idx := 33) (k := 13) had (by decide) hx hb hts hbig hown hV hin (by decide) hT fto_RX10_33 ⟨_, _, rfl⟩ rfl rfl rfl dk_X10_init_60 (fun H locs hT => ?_)
  have hT : BuT D aC wM ad iM b 0 10 8 [13, 12, 9, 4, 3, 2, 1, 0] [] nZ s.heap H locs := hT
  refine lv_aload_n hx hb dk_X10_init_63 rfl (lv_at hl 0 rfl) ?_
  refine lv_bipush (v := (nI 9)) hx hb dk_X10_init_64 (by decide) ?_
  refine ct_newa (kd := 20) (n := 8) (L := 9) had (by decide) hx hb hts (atype := .int) (ty := .int) rfl (hbig _ tk_106) (hV.2 0 _ rfl).2 (by decide) (Nat.le_of_ble_eq_true rfl) (by decide) (by decide) (by decide) (by decide) (by decide) (by decide) (fun _ => rfl) (Nat.le_of_ble_eq_true rfl) (Nat.le_of_ble_eq_true rfl) hT dk_X10_init_66 (fun H hT => ?_)
  have hT : BuT D aC wM ad iM b 0 10 9 [13, 12, 9, 4, 3, 2, 1, 0] [] nZ s.heap H locs := hT
  refine ct_put (idx := 36) (k := 14) had (by decide) hx hb hts hbig hown hV hin (by decide) hT fto_RX10_36 ⟨_, _, rfl⟩ rfl rfl rfl dk_X10_init_68 (fun H locs hT => ?_)
  have hT : BuT D aC wM ad iM b 0 10 9 [14, 13, 12, 9, 4, 3, 2, 1, 0] [] nZ s.heap H locs := hT
  refine lv_aload_n hx hb dk_X10_init_71 rfl (lv_at hl 0 rfl) ?_
  refine lv_sipush (v := (nI 4096)) hx hb dk_X10_init_72 (by decide) ?_
  refine ct_newa (kd := 20) (n := 9) (L := 4096) had (by decide) hx hb hts (atype := .int) (ty := .int) rfl (hbig _ tk_106) (hV.2 0 _ rfl).2 (by decide) (Nat.le_of_ble_eq_true rfl) (by decide) (by decide) (by decide) (by decide) (by decide) (by decide) (fun _ => rfl) (Nat.le_of_ble_eq_true rfl) (Nat.le_of_ble_eq_true rfl) hT dk_X10_init_75 (fun H hT => ?_)
  have hT : BuT D aC wM ad iM b 0 10 10 [14, 13, 12, 9, 4, 3, 2, 1, 0] [] nZ s.heap H locs := hT
  refine ct_put (idx := 39) (k := 15) had (by decide) hx hb hts hbig hown hV hin (by decide) hT fto_RX10_39 ⟨_, _, rfl⟩ rfl rfl rfl dk_X10_init_77 (fun H locs hT => ?_)
  have hT : BuT D aC wM ad iM b 0 10 10 [15, 14, 13, 12, 9, 4, 3, 2, 1, 0] [] nZ s.heap H locs := hT
  refine lv_aload_n hx hb dk_X10_init_80 rfl (lv_at hl 0 rfl) ?_
  refine lv_sipush (v := (nI 4096)) hx hb dk_X10_init_81 (by decide) ?_
  refine ct_newa (kd := 20) (n := 10) (L := 4096) had (by decide) hx hb hts (atype := .int) (ty := .int) rfl (hbig _ tk_106) (hV.2 0 _ rfl).2 (by decide) (Nat.le_of_ble_eq_true rfl) (by decide) (by decide) (by decide) (by decide) (by decide) (by decide) (fun _ => rfl) (Nat.le_of_ble_eq_true rfl) (Nat.le_of_ble_eq_true rfl) hT dk_X10_init_84 (fun H hT => ?_)
  have hT : BuT D aC wM ad iM b 0 10 11 [15, 14, 13, 12, 9, 4, 3, 2, 1, 0] [] nZ s.heap H locs := hT
  refine ct_put (idx := 42) (k := 16) had (by decide) hx hb hts hbig hown hV hin (by decide) hT fto_RX10_42 ⟨_, _, rfl⟩ rfl rfl rfl dk_X10_init_86 (fun H locs hT => ?_)
  have hT : BuT D aC wM ad iM b 0 10 11 [16, 15, 14, 13, 12, 9, 4, 3, 2, 1, 0] [] nZ s.heap H locs := hT
  refine lv_aload_n hx hb dk_X10_init_89 rfl (lv_at hl 0 rfl) ?_
  refine lv_sipush (v := (nI 4096)) hx hb dk_X10_init_90 (by decide) ?_
  refine ct_newa (kd := 21) (n := 11) (L := 4096) had (by decide) hx hb hts (atype := .boolean) (ty := .boolean) rfl (hbig _ tk_107) (hV.2 1 _ rfl).2 (by decide) (Nat.le_of_ble_eq_true rfl) (by decide) (by decide) (by decide) (by decide) (by decide) (by decide) (fun _ => rfl) (Nat.le_of_ble_eq_true rfl) (Nat.le_of_ble_eq_true rfl) hT dk_X10_init_93 (fun H hT => ?_)
  have hT : BuT D aC wM ad iM b 0 10 12 [16, 15, 14, 13, 12, 9, 4, 3, 2, 1, 0] [] nZ s.heap H locs := hT
  refine ct_put (idx := 45) (k := 17) had (by decide) hx hb hts hbig hown hV hin (by decide) hT fto_RX10_45 ⟨_, _, rfl⟩ rfl rfl rfl dk_X10_init_95 (fun H locs hT => ?_)
  have hT : BuT D aC wM ad iM b 0 10 12 [17, 16, 15, 14, 13, 12, 9, 4, 3, 2, 1, 0] [] nZ s.heap H locs := hT
  refine lv_aload_n hx hb dk_X10_init_98 rfl (lv_at hl 0 rfl) ?_
  refine lv_sipush (v := (nI 5000)) hx hb dk_X10_init_99 (by decide) ?_
  refine ct_newa (kd := 20) (n := 12) (L := 5000) had (by decide) hx hb hts (atype := .int) (ty := .int) rfl (hbig _ tk_106) (hV.2 0 _ rfl).2 (by decide) (Nat.le_of_ble_eq_true rfl) (by decide) (by decide) (by decide) (by decide) (by decide) (by decide) (fun _ => rfl) (Nat.le_of_ble_eq_true rfl) (Nat.le_of_ble_eq_true rfl) hT dk_X10_init_102 (fun H hT => ?_)
  have hT : BuT D aC wM ad iM b 0 10 13 [17, 16, 15, 14, 13, 12, 9, 4, 3, 2, 1, 0] [] nZ s.heap H locs := hT
  refine ct_put (idx := 48) (k := 20) had (by decide) hx hb hts hbig hown hV hin (by decide) hT fto_RX10_48 ⟨_, _, rfl⟩ rfl rfl rfl dk_X10_init_104 (fun H locs hT => ?_)
  have hT : BuT D aC wM ad iM b 0 10 13 [20, 17, 16, 15, 14, 13, 12, 9, 4, 3, 2, 1, 0] [] nZ s.heap H locs := hT
  refine lv_aload_n hx hb dk_X10_init_107 rfl (lv_at hl 0 rfl) ?_
  refine lv_sipush (v := (nI 5000)) hx hb dk_X10_init_108 (by decide) ?_
  refine ct_newa (kd := 20) (n := 13) (L := 5000) had (by decide) hx hb hts (atype := .int) (ty := .int) rfl (hbig _ tk_106) (hV.2 0 _ rfl).2 (by decide) (Nat.le_of_ble_eq_true rfl) (by decide) (by decide) (by decide) (by decide) (by decide) (by decide) (fun _ => rfl) (Nat.le_of_ble_eq_true rfl) (Nat.le_of_ble_eq_true rfl) hT dk_X10_init_111 (fun H hT => ?_)
  have hT : BuT D aC wM ad iM b 0 10 14 [20, 17, 16, 15, 14, 13, 12, 9, 4, 3, 2, 1, 0] [] nZ s.heap H locs := hT
  refine ct_put (idx := 51) (k := 21) had (by decide) hx hb hts hbig hown hV hin (by decide) hT fto_RX10_51 ⟨_, _, rfl⟩ rfl rfl rfl dk_X10_init_113 (fun H locs hT => ?_)
  have hT : BuT D aC wM ad iM b 0 10 14 [21, 20, 17, 16, 15, 14, 13, 12, 9, 4, 3, 2, 1, 0] [] nZ s.heap H locs := hT
  refine lv_aload_n hx hb dk_X10_init_116 rfl (lv_at hl 0 rfl) ?_
  refine lv_bipush (v := (nI 25)) hx hb dk_X10_init_117 (by decide) ?_
  refine ct_newa (kd := 20) (n := 14) (L := 25) had (by decide) hx hb hts (atype := .int) (ty := .int) rfl (hbig _ tk_106) (hV.2 0 _ rfl).2 (by decide) (Nat.le_of_ble_eq_true rfl) (by decide) (by decide) (by decide) (by decide) (by decide) (by decide) (fun _ => rfl) (Nat.le_of_ble_eq_true rfl) (Nat.le_of_ble_eq_true rfl) hT dk_X10_init_119 (fun H hT => ?_)
  have hT : BuT D aC wM ad iM b 0 10 15 [21, 20, 17, 16, 15, 14, 13, 12, 9, 4, 3, 2, 1, 0] [] nZ s.heap H locs := hT
  refine ct_put (idx := 54) (k := 22) had (by decide) hx hb hts hbig hown hV hin (by decide) hT fto_RX10_54 ⟨_, _, rfl⟩ rfl rfl rfl dk_X10_init_121 (fun H locs hT => ?_)
  have hT : BuT D aC wM ad iM b 0 10 15 [22, 21, 20, 17, 16, 15, 14, 13, 12, 9, 4, 3, 2, 1, 0] [] nZ s.heap H locs := hT
  refine lv_aload_n hx hb dk_X10_init_124 rfl (lv_at hl 0 rfl) ?_
  refine lv_bipush (v := (nI 40)) hx hb dk_X10_init_125 (by decide) ?_
  refine ct_newa (kd := 20) (n := 15) (L := 40) had (by decide) hx hb hts (atype := .int) (ty := .int) rfl (hbig _ tk_106) (hV.2 0 _ rfl).2 (by decide) (Nat.le_of_ble_eq_true rfl) (by decide) (by decide) (by decide) (by decide) (by decide) (by decide) (fun _ => rfl) (Nat.le_of_ble_eq_true rfl) (Nat.le_of_ble_eq_true rfl) hT dk_X10_init_127 (fun H hT => ?_)
  have hT : BuT D aC wM ad iM b 0 10 16 [22, 21, 20, 17, 16, 15, 14, 13, 12, 9, 4, 3, 2, 1, 0] [] nZ s.heap H locs := hT
  refine ct_put (idx := 57) (k := 27) had (by decide) hx hb hts hbig hown hV hin (by decide) hT fto_RX10_57 ⟨_, _, rfl⟩ rfl rfl rfl dk_X10_init_129 (fun H locs hT => ?_)
  have hT : BuT D aC wM ad iM b 0 10 16 [27, 22, 21, 20, 17, 16, 15, 14, 13, 12, 9, 4, 3, 2, 1, 0] [] nZ s.heap H locs := hT
  refine lv_aload_n hx hb dk_X10_init_132 rfl (lv_at hl 0 rfl) ?_
  refine lv_bipush (v := (nI 40)) hx hb dk_X10_init_133 (by decide) ?_
  refine ct_newa (kd := 20) (n := 16) (L := 40) had (by decide) hx hb hts (atype := .int) (ty := .int) rfl (hbig _ tk_106) (hV.2 0 _ rfl).2 (by decide) (Nat.le_of_ble_eq_true rfl) (by decide) (by decide) (by decide) (by decide) (by decide) (by decide) (fun _ => rfl) (Nat.le_of_ble_eq_true rfl) (Nat.le_of_ble_eq_true rfl) hT dk_X10_init_135 (fun H hT => ?_)
  have hT : BuT D aC wM ad iM b 0 10 17 [27, 22, 21, 20, 17, 16, 15, 14, 13, 12, 9, 4, 3, 2, 1, 0] [] nZ s.heap H locs := hT
  refine ct_put (idx := 60) (k := 28) had (by decide) hx hb hts hbig hown hV hin (by decide) hT fto_RX10_60 ⟨_, _, rfl⟩ rfl rfl rfl dk_X10_init_137 (fun H locs hT => ?_)
  have hT : BuT D aC wM ad iM b 0 10 17 [28, 27, 22, 21, 20, 17, 16, 15, 14, 13, 12, 9, 4, 3, 2, 1, 0] [] nZ s.heap H locs := hT
  refine lv_aload_n hx hb dk_X10_init_140 rfl (lv_at hl 0 rfl) ?_
  refine lv_sipush (v := (nI 200)) hx hb dk_X10_init_141 (by decide) ?_
  refine ct_newa (kd := 20) (n := 17) (L := 200) had (by decide) hx hb hts (atype := .int) (ty := .int) rfl (hbig _ tk_106) (hV.2 0 _ rfl).2 (by decide) (Nat.le_of_ble_eq_true rfl) (by decide) (by decide) (by decide) (by decide) (by decide) (by decide) (fun _ => rfl) (Nat.le_of_ble_eq_true rfl) (Nat.le_of_ble_eq_true rfl) hT dk_X10_init_144 (fun H hT => ?_)
  have hT : BuT D aC wM ad iM b 0 10 18 [28, 27, 22, 21, 20, 17, 16, 15, 14, 13, 12, 9, 4, 3, 2, 1, 0] [] nZ s.heap H locs := hT
  refine ct_put (idx := 63) (k := 29) had (by decide) hx hb hts hbig hown hV hin (by decide) hT fto_RX10_63 ⟨_, _, rfl⟩ rfl rfl rfl dk_X10_init_146 (fun H locs hT => ?_)
  have hT : BuT D aC wM ad iM b 0 10 18 [29, 28, 27, 22, 21, 20, 17, 16, 15, 14, 13, 12, 9, 4, 3, 2, 1, 0] [] nZ s.heap H locs := hT
  refine lv_aload_n hx hb dk_X10_init_149 rfl (lv_at hl 0 rfl) ?_
  refine lv_sipush (v := (nI 200)) hx hb dk_X10_init_150 (by decide) ?_
  refine ct_newa (kd := 20) (n := 18) (L := 200) had (by decide) hx hb hts (atype := .int) (ty := .int) rfl (hbig _ tk_106) (hV.2 0 _ rfl).2 (by decide) (Nat.le_of_ble_eq_true rfl) (by decide) (by decide) (by decide) (by decide) (by decide) (by decide) (fun _ => rfl) (Nat.le_of_ble_eq_true rfl) (Nat.le_of_ble_eq_true rfl) hT dk_X10_init_153 (fun H hT => ?_)
  have hT : BuT D aC wM ad iM b 0 10 19 [29, 28, 27, 22, 21, 20, 17, 16, 15, 14, 13, 12, 9, 4, 3, 2, 1, 0] [] nZ s.heap H locs := hT
  refine ct_put (idx := 66) (k := 30) had (by decide) hx hb hts hbig hown hV hin (by decide) hT fto_RX10_66 ⟨_, _, rfl⟩ rfl rfl rfl dk_X10_init_155 (fun H locs hT => ?_)
  have hT : BuT D aC wM ad iM b 0 10 19 [30, 29, 28, 27, 22, 21, 20, 17, 16, 15, 14, 13, 12, 9, 4, 3, 2, 1, 0] [] nZ s.heap H locs := hT
  refine lv_aload_n hx hb dk_X10_init_158 rfl (lv_at hl 0 rfl) ?_
  refine lv_iconst (v := (-1)) hx hb dk_X10_init_159 (by decide) ?_
  refine ct_put (idx := 69) (k := 31) had (by decide) hx hb hts hbig hown hV hin (by decide) hT fto_RX10_69 ⟨_, _, rfl⟩ rfl rfl rfl dk_X10_init_160 (fun H locs hT => ?_)
  have hT : BuT D aC wM ad iM b 0 10 19 [31, 30, 29, 28, 27, 22, 21, 20, 17, 16, 15, 14, 13, 12, 9, 4, 3, 2, 1, 0] [] nZ s.heap H locs := hT
  refine lv_aload_n hx hb dk_X10_init_163 rfl (lv_at hl 0 rfl) ?_
  refine lv_bipush (v := (nI 40)) hx hb dk_X10_init_164 (by decide) ?_
  refine ct_newa (kd := 20) (n := 19) (L := 40) had (by decide) hx hb hts (atype := .int) (ty := .int) rfl (hbig _ tk_106) (hV.2 0 _ rfl).2 (by decide) (Nat.le_of_ble_eq_true rfl) (by decide) (by decide) (by decide) (by decide) (by decide) (by decide) (fun _ => rfl) (Nat.le_of_ble_eq_true rfl) (Nat.le_of_ble_eq_true rfl) hT dk_X10_init_166 (fun H hT => ?_)
  have hT : BuT D aC wM ad iM b 0 10 20 [31, 30, 29, 28, 27, 22, 21, 20, 17, 16, 15, 14, 13, 12, 9, 4, 3, 2, 1, 0] [] nZ s.heap H locs := hT
  refine ct_put (idx := 72) (k := 32) had (by decide) hx hb hts hbig hown hV hin (by decide) hT fto_RX10_72 ⟨_, _, rfl⟩ rfl rfl rfl dk_X10_init_168 (fun H locs hT => ?_)
  have hT : BuT D aC wM ad iM b 0 10 20 [32, 31, 30, 29, 28, 27, 22, 21, 20, 17, 16, 15, 14, 13, 12, 9, 4, 3, 2, 1, 0] [] nZ s.heap H locs := hT
  refine lv_aload_n hx hb dk_X10_init_171 rfl (lv_at hl 0 rfl) ?_
  refine lv_sipush (v := (nI 256)) hx hb dk_X10_init_172 (by decide) ?_
  refine ct_newa (kd := 20) (n := 20) (L := 256) had (by decide) hx hb hts (atype := .int) (ty := .int) rfl (hbig _ tk_106) (hV.2 0 _ rfl).2 (by decide) (Nat.le_of_ble_eq_true rfl) (by decide) (by decide) (by decide) (by decide) (by decide) (by decide) (fun _ => rfl) (Nat.le_of_ble_eq_true rfl) (Nat.le_of_ble_eq_true rfl) hT dk_X10_init_175 (fun H hT => ?_)
  have hT : BuT D aC wM ad iM b 0 10 21 [32, 31, 30, 29, 28, 27, 22, 21, 20, 17, 16, 15, 14, 13, 12, 9, 4, 3, 2, 1, 0] [] nZ s.heap H locs := hT
  refine ct_put (idx := 75) (k := 34) had (by decide) hx hb hts hbig hown hV hin (by decide) hT fto_RX10_75 ⟨_, _, rfl⟩ rfl rfl rfl dk_X10_init_177 (fun H locs hT => ?_)
  have hT : BuT D aC wM ad iM b 0 10 21 [34, 32, 31, 30, 29, 28, 27, 22, 21, 20, 17, 16, 15, 14, 13, 12, 9, 4, 3, 2, 1, 0] [] nZ s.heap H locs := hT
  refine lv_aload_n hx hb dk_X10_init_180 rfl (lv_at hl 0 rfl) ?_
  refine lv_bipush (v := (nI 80)) hx hb dk_X10_init_181 (by decide) ?_
  refine ct_newa (kd := 21) (n := 21) (L := 80) had (by decide) hx hb hts (atype := .boolean) (ty := .boolean) rfl (hbig _ tk_107) (hV.2 1 _ rfl).2 (by decide) (Nat.le_of_ble_eq_true rfl) (by decide) (by decide) (by decide) (by decide) (by decide) (by decide) (fun _ => rfl) (Nat.le_of_ble_eq_true rfl) (Nat.le_of_ble_eq_true rfl) hT dk_X10_init_183 (fun H hT => ?_)
  have hT : BuT D aC wM ad iM b 0 10 22 [34, 32, 31, 30, 29, 28, 27, 22, 21, 20, 17, 16, 15, 14, 13, 12, 9, 4, 3, 2, 1, 0] [] nZ s.heap H locs := hT
  refine ct_put (idx := 78) (k := 35) had (by decide) hx hb hts hbig hown hV hin (by decide) hT fto_RX10_78 ⟨_, _, rfl⟩ rfl rfl rfl dk_X10_init_185 (fun H locs hT => ?_)
  have hT : BuT D aC wM ad iM b 0 10 22 [35, 34, 32, 31, 30, 29, 28, 27, 22, 21, 20, 17, 16, 15, 14, 13, 12, 9, 4, 3, 2, 1, 0] [] nZ s.heap H locs := hT
  refine lv_aload_n hx hb dk_X10_init_188 rfl (lv_at hl 0 rfl) ?_
  refine lv_ldc (v := nI 65536) hx hb hown (hts _ (hbig _ tk_1082)) dk_X10_init_189 ?_
  refine ct_newa (kd := 21) (n := 22) (L := 65536) had (by decide) hx hb hts (atype := .boolean) (ty := .boolean) rfl (hbig _ tk_107) (hV.2 1 _ rfl).2 (by decide) (Nat.le_of_ble_eq_true rfl) (by decide) (by decide) (by decide) (by decide) (by decide) (by decide) (fun _ => rfl) (Nat.le_of_ble_eq_true rfl) (Nat.le_of_ble_eq_true rfl) hT dk_X10_init_191 (fun H hT => ?_)
  have hT : BuT D aC wM ad iM b 0 10 23 [35, 34, 32, 31, 30, 29, 28, 27, 22, 21, 20, 17, 16, 15, 14, 13, 12, 9, 4, 3, 2, 1, 0] [] nZ s.heap H locs := hT
  refine ct_put (idx := 82) (k := 36) had (by decide) hx hb hts hbig hown hV hin (by decide) hT fto_RX10_82 ⟨_, _, rfl⟩ rfl rfl rfl dk_X10_init_193 (fun H locs hT => ?_)
  have hT : BuT D aC wM ad iM b 0 10 23 [36, 35, 34, 32, 31, 30, 29, 28, 27, 22, 21, 20, 17, 16, 15, 14, 13, 12, 9, 4, 3, 2, 1, 0] [] nZ s.heap H locs := hT
  refine lv_aload_n hx hb dk_X10_init_196 rfl (lv_at hl 0 rfl) ?_
  refine lv_bipush (v := (nI 100)) hx hb dk_X10_init_197 (by decide) ?_
  refine ct_newa (kd := 20) (n := 23) (L := 100) had (by decide) hx hb hts (atype := .int) (ty := .int) rfl (hbig _ tk_106) (hV.2 0 _ rfl).2 (by decide) (Nat.le_of_ble_eq_true rfl) (by decide) (by decide) (by decide) (by decide) (by decide) (by decide) (fun _ => rfl) (Nat.le_of_ble_eq_true rfl) (Nat.le_of_ble_eq_true rfl) hT dk_X10_init_199 (fun H hT => ?_)
  have hT : BuT D aC wM ad iM b 0 10 24 [36, 35, 34, 32, 31, 30, 29, 28, 27, 22, 21, 20, 17, 16, 15, 14, 13, 12, 9, 4, 3, 2, 1, 0] [] nZ s.heap H locs := hT
  refine ct_put (idx := 85) (k := 37) had (by decide) hx hb hts hbig hown hV hin (by decide) hT fto_RX10_85 ⟨_, _, rfl⟩ rfl rfl rfl dk_X10_init_201 (fun H locs hT => ?_)
  have hT : BuT D aC wM ad iM b 0 10 24 [37, 36, 35, 34, 32, 31, 30, 29, 28, 27, 22, 21, 20, 17, 16, 15, 14, 13, 12, 9, 4, 3, 2, 1, 0] [] nZ s.heap H locs := hT
  refine lv_aload_n hx hb dk_X10_init_204 rfl (lv_at hl 0 rfl) ?_
  refine lv_bipush (v := (nI 100)) hx hb dk_X10_init_205 (by decide) ?_
  refine ct_newa (kd := 20) (n := 24) (L := 100) had (by decide) hx hb hts (atype := .int) (ty := .int) rfl (hbig _ tk_106) (hV.2 0 _ rfl).2 (by decide) (Nat.le_of_ble_eq_true rfl) (by decide) (by decide) (by decide) (by decide) (by decide) (by decide) (fun _ => rfl) (Nat.le_of_ble_eq_true rfl) (Nat.le_of_ble_eq_true rfl) hT dk_X10_init_207 (fun H hT => ?_)
  have hT : BuT D aC wM ad iM b 0 10 25 [37, 36, 35, 34, 32, 31, 30, 29, 28, 27, 22, 21, 20, 17, 16, 15, 14, 13, 12, 9, 4, 3, 2, 1, 0] [] nZ s.heap H locs := hT
  refine ct_put (idx := 88) (k := 38) had (by decide) hx hb hts hbig hown hV hin (by decide) hT fto_RX10_88 ⟨_, _, rfl⟩ rfl rfl rfl dk_X10_init_209 (fun H locs hT => ?_)
  have hT : BuT D aC wM ad iM b 0 10 25 [38, 37, 36, 35, 34, 32, 31, 30, 29, 28, 27, 22, 21, 20, 17, 16, 15, 14, 13, 12, 9, 4, 3, 2, 1, 0] [] nZ s.heap H locs := hT
  refine lv_aload_n hx hb dk_X10_init_212 rfl (lv_at hl 0 rfl) ?_
  refine lv_iconst (v := (-1)) hx hb dk_X10_init_213 (by decide) ?_
  refine ct_put (idx := 91) (k := 40) had (by decide) hx hb hts hbig hown hV hin (by decide) hT fto_RX10_91 ⟨_, _, rfl⟩ rfl rfl rfl dk_X10_init_214 (fun H locs hT => ?_)
  have hT : BuT D aC wM ad iM b 0 10 25 [40, 38, 37, 36, 35, 34, 32, 31, 30, 29, 28, 27, 22, 21, 20, 17, 16, 15, 14, 13, 12, 9, 4, 3, 2, 1, 0] [] nZ s.heap H locs := hT
  refine lv_aload_n hx hb dk_X10_init_217 rfl (lv_at hl 0 rfl) ?_
  refine lv_iconst (v := (-1)) hx hb dk_X10_init_218 (by decide) ?_
  refine ct_put (idx := 94) (k := 41) had (by decide) hx hb hts hbig hown hV hin (by decide) hT fto_RX10_94 ⟨_, _, rfl⟩ rfl rfl rfl dk_X10_init_219 (fun H locs hT => ?_)
  have hT : BuT D aC wM ad iM b 0 10 25 [41, 40, 38, 37, 36, 35, 34, 32, 31, 30, 29, 28, 27, 22, 21, 20, 17, 16, 15, 14, 13, 12, 9, 4, 3, 2, 1, 0] [] nZ s.heap H locs := hT
  refine lv_aload_n hx hb dk_X10_init_222 rfl (lv_at hl 0 rfl) ?_
  refine lv_bipush (v := (nI 80)) hx hb dk_X10_init_223 (by decide) ?_
  refine ct_newa (kd := 20) (n := 25) (L := 80) had (by decide) hx hb hts (atype := .int) (ty := .int) rfl (hbig _ tk_106) (hV.2 0 _ rfl).2 (by decide) (Nat.le_of_ble_eq_true rfl) (by decide) (by decide) (by decide) (by decide) (by decide) (by decide) (fun _ => rfl) (Nat.le_of_ble_eq_true rfl) (Nat.le_of_ble_eq_true rfl) hT dk_X10_init_225 (fun H hT => ?_)
  have hT : BuT D aC wM ad iM b 0 10 26 [41, 40, 38, 37, 36, 35, 34, 32, 31, 30, 29, 28, 27, 22, 21, 20, 17, 16, 15, 14, 13, 12, 9, 4, 3, 2, 1, 0] [] nZ s.heap H locs := hT
  refine ct_put (idx := 97) (k := 44) had (by decide) hx hb hts hbig hown hV hin (by decide) hT fto_RX10_97 ⟨_, _, rfl⟩ rfl rfl rfl dk_X10_init_227 (fun H locs hT => ?_)
  have hT : BuT D aC wM ad iM b 0 10 26 [44, 41, 40, 38, 37, 36, 35, 34, 32, 31, 30, 29, 28, 27, 22, 21, 20, 17, 16, 15, 14, 13, 12, 9, 4, 3, 2, 1, 0] [] nZ s.heap H locs := hT
  refine lv_aload_n hx hb dk_X10_init_230 rfl (lv_at hl 0 rfl) ?_
  refine lv_bipush (v := (nI 80)) hx hb dk_X10_init_231 (by decide) ?_
  refine ct_newa (kd := 20) (n := 26) (L := 80) had (by decide) hx hb hts (atype := .int) (ty := .int) rfl (hbig _ tk_106) (hV.2 0 _ rfl).2 (by decide) (Nat.le_of_ble_eq_true rfl) (by decide) (by decide) (by decide) (by decide) (by decide) (by decide) (fun _ => rfl) (Nat.le_of_ble_eq_true rfl) (Nat.le_of_ble_eq_true rfl) hT dk_X10_init_233 (fun H hT => ?_)
  have hT : BuT D aC wM ad iM b 0 10 27 [44, 41, 40, 38, 37, 36, 35, 34, 32, 31, 30, 29, 28, 27, 22, 21, 20, 17, 16, 15, 14, 13, 12, 9, 4, 3, 2, 1, 0] [] nZ s.heap H locs := hT
  refine ct_put (idx := 100) (k := 45) had (by decide) hx hb hts hbig hown hV hin (by decide) hT fto_RX10_100 ⟨_, _, rfl⟩ rfl rfl rfl dk_X10_init_235 (fun H locs hT => ?_)
  have hT : BuT D aC wM ad iM b 0 10 27 [45, 44, 41, 40, 38, 37, 36, 35, 34, 32, 31, 30, 29, 28, 27, 22, 21, 20, 17, 16, 15, 14, 13, 12, 9, 4, 3, 2, 1, 0] [] nZ s.heap H locs := hT
  refine lv_aload_n hx hb dk_X10_init_238 rfl (lv_at hl 0 rfl) ?_
  refine lv_iconst (v := (-1)) hx hb dk_X10_init_239 (by decide) ?_
  refine ct_put (idx := 103) (k := 46) had (by decide) hx hb hts hbig hown hV hin (by decide) hT fto_RX10_103 ⟨_, _, rfl⟩ rfl rfl rfl dk_X10_init_240 (fun H locs hT => ?_)
  have hT : BuT D aC wM ad iM b 0 10 27 [46, 45, 44, 41, 40, 38, 37, 36, 35, 34, 32, 31, 30, 29, 28, 27, 22, 21, 20, 17, 16, 15, 14, 13, 12, 9, 4, 3, 2, 1, 0] [] nZ s.heap H locs := hT
  exact ct_ret had hx hb hr hlocks hT (by decide) (by decide) (fun k r hrr hk => by
    cases hrr
    exact fin_X10_init k hk) rfl rfl dk_X10_init_243
