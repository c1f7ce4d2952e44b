/-! THE LAW: its loop -/
theorem lw_63 (x : Int32) : ∃ v : Nat, v < 64 ∧ x &&& 63 = nI v := by
  refine ⟨(x &&& 63).toBitVec.toNat, ?_, ?_⟩
  · rw [Int32.toBitVec_and, BitVec.toNat_and]
    exact Nat.lt_of_le_of_lt Nat.and_le_right (by decide)
  · apply i_ext
    rw [i_bv, BitVec.ofNat_toNat, BitVec.setWidth_eq]
theorem lw_le {i L : Nat} (hi : i ≤ L) (hL : L ≤ 2048) : (nI L - 4 < nI i ↔ L < i + 4) := by
  by_cases h : 4 ≤ L
  · rw [show (4 : Int32) = nI 4 from rfl, i_sub h, nI_ltI (by omega) (by omega)]; omega
  · have hL4 : L = 0 ∨ L = 1 ∨ L = 2 ∨ L = 3 := by omega
    have hi4 : i = 0 ∨ i = 1 ∨ i = 2 ∨ i = 3 := by omega
    refine ⟨fun _ => by omega, fun _ => ?_⟩
    rcases hL4 with rfl | rfl | rfl | rfl <;> rcases hi4 with rfl | rfl | rfl | rfl <;> decide
section LOOP
variable {p : Program} {l : Launch} {e : Env} {s : State} {m : MethodId} {below : List Frame} {meth : Method} {c : Code} {H : Heap} {locs : List Loc} {b L : Nat} {xs : Nat → Int32} {pc : Nat} {ls : Array Slot} {rest : List Value} {D : va_G} {aC : Nat → ClassId} {adX adM : Nat → Nat} {bX bM : Nat}
set_option maxHeartbeats 4000000 in
set_option maxRecDepth 100000 in
theorem lw_loop (C : LwC p s m meth c b L xs D aC adX adM bX bM) : ∀ (n i : Nat) (M : Ms) (H : Heap) (locs : List Loc) (ls : Array Slot), i ≤ L → L + 1 ≤ i + n → WF M → LwT D aC adX adM bM M M H → va_S (lwA s) s.heap H locs → lv_has ls 4 [(3, .int (nI i)), (0, .ref b), (1, .ref (adX 0)), (2, .ref (adM 0))] → LwW p l e s m below meth c b H locs (F0 m 18 ls []) := by
  have hx := C.1.1
  have hb := C.1.2.1
  have hbl := C.1.2.2.2.2.2.2.2.1
  have hX := C.1.2.2.2.2.2.2.1
  have hL := C.2.1
  have hbA : ¬ lwA s b := Nat.not_le.mpr hbl
  intro n
  induction n with
  | zero => intro i M H locs ls h1 h2; exact absurd h2 (by omega)
  | succ n ih =>
    intro i M H locs ls hiL hn hW hT hS hl
    refine lv_iload_n hx hb dw_18 rfl (lv_at hl 0 rfl) ?_
    refine lv_aload_n hx hb dw_19 rfl (lv_at hl 1 rfl) ?_
    refine va_slen hx hb hX hbl hbA hS dw_20 ?_
    refine lv_iconst (v := 4) hx hb dw_21 (by decide) ?_
    refine lv_isub hx hb dw_22 ?_
    refine lv_icmp_gt (tgt := 1331) hx hb dw_23 (by decide) (fun hc => ?_) (fun hc => ?_)
    · refine lv_iconst (v := 1) hx hb dw_1331 (by decide) ?_
      refine va_forget (fun q hq => hS.2.2 q hq) ?_
      refine W.widen (k := 600000) (n := 7302250) (by decide) (by decide) ?_
      exact lw_ret hx hb C.1.2.2.1 C.1.2.2.2.2.2.2.2.2.1 dw_1332
    · have hi : i + 4 ≤ L := by
        have h2 : ¬ L < i + 4 := fun z => hc ((lw_le hiL hL).mpr z)
        omega
      refine lv_aload_n hx hb dw_26 rfl (lv_at hl 1 rfl) ?_
      refine lv_iload_n hx hb dw_27 rfl (lv_at hl 0 rfl) ?_
      refine va_sld hx hb hX hbl hbA hS (vp_in_nI (n := i) (N := L) (by omega) (by omega)) dw_28 ?_
      refine lv_bipush (v := 63) hx hb dw_29 (by decide) ?_
      refine lv_iand hx hb dw_31 ?_
      obtain ⟨v, hv, ev⟩ := lw_63 (xs (nI i).toNatClampNeg)
      rw [ev]
      have K : ∀ (N : Ms) (H1 : Heap) (locs1 : List Loc), WF N → LwT D aC adX adM bM N N H1 → va_S (lwA s) s.heap H1 locs1 → LwW p l e s m below meth c b H1 locs1 (F0 m 1325 ls []) := by
        intro N H1 locs1 hW1 hT1 hS1
        refine lv_iinc (v := nI (i + 4)) (lv' := [(3, .int (nI (i + 4))), (0, .ref b), (1, .ref (adX 0)), (2, .ref (adM 0))]) hx hb dw_1325 hl (k := 0) rfl (by rw [show Int32.ofInt 4 = nI 4 from rfl, i_add]) (by decide) rfl (fun ls hl => ?_)
        refine lv_goto (tgt := 18) hx hb dw_1328 (by decide) ?_
        exact ih (i + 4) N H1 locs1 ls hi (by omega) hW1 hT1 hS1 hl
      rcases Nat.lt_or_ge v 41 with hv41 | hv41
      case inr =>
        refine lv_tableOut (tgt := 1325) hx hb dw_32 (Or.inr ?_) (by decide) (K M H locs hW hT hS)
        rw [show (nI v).toInt = (v : Int) from nI_toInt (by omega)]
        omega
      rcases (show v = 0 ∨ v = 1 ∨ v = 2 ∨ v = 3 ∨ v = 4 ∨ v = 5 ∨ v = 6 ∨ v = 7 ∨ v = 8 ∨ v = 9 ∨ v = 10 ∨ v = 11 ∨ v = 12 ∨ v = 13 ∨ v = 14 ∨ v = 15 ∨ v = 16 ∨ v = 17 ∨ v = 18 ∨ v = 19 ∨ v = 20 ∨ v = 21 ∨ v = 22 ∨ v = 23 ∨ v = 24 ∨ v = 25 ∨ v = 26 ∨ v = 27 ∨ v = 28 ∨ v = 29 ∨ v = 30 ∨ v = 31 ∨ v = 32 ∨ v = 33 ∨ v = 34 ∨ v = 35 ∨ v = 36 ∨ v = 37 ∨ v = 38 ∨ v = 39 ∨ v = 40 by omega) with rfl | rfl | rfl | rfl | rfl | rfl | rfl | rfl | rfl | rfl | rfl | rfl | rfl | rfl | rfl | rfl | rfl | rfl | rfl | rfl | rfl | rfl | rfl | rfl | rfl | rfl | rfl | rfl | rfl | rfl | rfl | rfl | rfl | rfl | rfl | rfl | rfl | rfl | rfl | rfl | rfl
      · refine lv_tableIn (off := 180) (tgt := 212) C.1.1 C.1.2.1 dw_32 (by decide) (by decide) (by decide) (by decide) ?_
        exact lwa_0 C hS hW hT hi hl K
      · refine lv_tableIn (off := 245) (tgt := 277) C.1.1 C.1.2.1 dw_32 (by decide) (by decide) (by decide) (by decide) ?_
        exact lwa_1 C hS hW hT hi hl K
      · refine lv_tableIn (off := 258) (tgt := 290) C.1.1 C.1.2.1 dw_32 (by decide) (by decide) (by decide) (by decide) ?_
        exact lwa_2 C hS hW hT hi hl K
      · refine lv_tableIn (off := 291) (tgt := 323) C.1.1 C.1.2.1 dw_32 (by decide) (by decide) (by decide) (by decide) ?_
        exact lwa_3 C hS hW hT hi hl K
      · refine lv_tableIn (off := 324) (tgt := 356) C.1.1 C.1.2.1 dw_32 (by decide) (by decide) (by decide) (by decide) ?_
        exact lwa_4 C hS hW hT hi hl K
      · refine lv_tableIn (off := 347) (tgt := 379) C.1.1 C.1.2.1 dw_32 (by decide) (by decide) (by decide) (by decide) ?_
        exact lwa_5 C hS hW hT hi hl K
      · refine lv_tableIn (off := 370) (tgt := 402) C.1.1 C.1.2.1 dw_32 (by decide) (by decide) (by decide) (by decide) ?_
        exact lwa_6 C hS hW hT hi hl K
      · refine lv_tableIn (off := 393) (tgt := 425) C.1.1 C.1.2.1 dw_32 (by decide) (by decide) (by decide) (by decide) ?_
        exact lwa_7 C hS hW hT hi hl K
      · refine lv_tableIn (off := 426) (tgt := 458) C.1.1 C.1.2.1 dw_32 (by decide) (by decide) (by decide) (by decide) ?_
        exact lwa_8 C hS hW hT hi hl K
      · refine lv_tableIn (off := 449) (tgt := 481) C.1.1 C.1.2.1 dw_32 (by decide) (by decide) (by decide) (by decide) ?_
        exact lwa_9 C hS hW hT hi hl K
      · refine lv_tableIn (off := 462) (tgt := 494) C.1.1 C.1.2.1 dw_32 (by decide) (by decide) (by decide) (by decide) ?_
        exact lwa_10 C hS hW hT hi hl K
      · refine lv_tableIn (off := 485) (tgt := 517) C.1.1 C.1.2.1 dw_32 (by decide) (by decide) (by decide) (by decide) ?_
        exact lwa_11 C hS hW hT hi hl K
      · refine lv_tableIn (off := 518) (tgt := 550) C.1.1 C.1.2.1 dw_32 (by decide) (by decide) (by decide) (by decide) ?_
        exact lwa_12 C hS hW hT hi hl K
      · refine lv_tableIn (off := 561) (tgt := 593) C.1.1 C.1.2.1 dw_32 (by decide) (by decide) (by decide) (by decide) ?_
        exact lwa_13 C hS hW hT hi hl K
      · refine lv_tableIn (off := 584) (tgt := 616) C.1.1 C.1.2.1 dw_32 (by decide) (by decide) (by decide) (by decide) ?_
        exact lwa_14 C hS hW hT hi hl K
      · refine lv_tableIn (off := 597) (tgt := 629) C.1.1 C.1.2.1 dw_32 (by decide) (by decide) (by decide) (by decide) ?_
        exact lwa_15 C hS hW hT hi hl K
      · refine lv_tableIn (off := 620) (tgt := 652) C.1.1 C.1.2.1 dw_32 (by decide) (by decide) (by decide) (by decide) ?_
        exact lwa_16 C hS hW hT hi hl K
      · refine lv_tableIn (off := 679) (tgt := 711) C.1.1 C.1.2.1 dw_32 (by decide) (by decide) (by decide) (by decide) ?_
        exact lwa_17 C hS hW hT hi hl K
      · refine lv_tableIn (off := 712) (tgt := 744) C.1.1 C.1.2.1 dw_32 (by decide) (by decide) (by decide) (by decide) ?_
        exact lwa_18 C hS hW hT hi hl K
      · refine lv_tableIn (off := 725) (tgt := 757) C.1.1 C.1.2.1 dw_32 (by decide) (by decide) (by decide) (by decide) ?_
        exact lwa_19 C hS hW hT hi hl K
      · refine lv_tableIn (off := 748) (tgt := 780) C.1.1 C.1.2.1 dw_32 (by decide) (by decide) (by decide) (by decide) ?_
        exact lwa_20 C hS hW hT hi hl K
      · refine lv_tableIn (off := 771) (tgt := 803) C.1.1 C.1.2.1 dw_32 (by decide) (by decide) (by decide) (by decide) ?_
        exact lwa_21 C hS hW hT hi hl K
      · refine lv_tableIn (off := 784) (tgt := 816) C.1.1 C.1.2.1 dw_32 (by decide) (by decide) (by decide) (by decide) ?_
        exact lwa_22 C hS hW hT hi hl K
      · refine lv_tableIn (off := 827) (tgt := 859) C.1.1 C.1.2.1 dw_32 (by decide) (by decide) (by decide) (by decide) ?_
        exact lwa_23 C hS hW hT hi hl K
      · refine lv_tableIn (off := 870) (tgt := 902) C.1.1 C.1.2.1 dw_32 (by decide) (by decide) (by decide) (by decide) ?_
        exact lwa_24 C hS hW hT hi hl K
      · refine lv_tableIn (off := 883) (tgt := 915) C.1.1 C.1.2.1 dw_32 (by decide) (by decide) (by decide) (by decide) ?_
        exact lwa_25 C hS hW hT hi hl K
      · refine lv_tableIn (off := 906) (tgt := 938) C.1.1 C.1.2.1 dw_32 (by decide) (by decide) (by decide) (by decide) ?_
        exact lwa_26 C hS hW hT hi hl K
      · refine lv_tableIn (off := 929) (tgt := 961) C.1.1 C.1.2.1 dw_32 (by decide) (by decide) (by decide) (by decide) ?_
        exact lwa_27 C hS hW hT hi hl K
      · refine lv_tableIn (off := 942) (tgt := 974) C.1.1 C.1.2.1 dw_32 (by decide) (by decide) (by decide) (by decide) ?_
        exact lwa_28 C hS hW hT hi hl K
      · refine lv_tableIn (off := 955) (tgt := 987) C.1.1 C.1.2.1 dw_32 (by decide) (by decide) (by decide) (by decide) ?_
        exact lwa_29 C hS hW hT hi hl K
      · refine lv_tableIn (off := 988) (tgt := 1020) C.1.1 C.1.2.1 dw_32 (by decide) (by decide) (by decide) (by decide) ?_
        exact lwa_30 C hS hW hT hi hl K
      · refine lv_tableIn (off := 1047) (tgt := 1079) C.1.1 C.1.2.1 dw_32 (by decide) (by decide) (by decide) (by decide) ?_
        exact lwa_31 C hS hW hT hi hl K
      · refine lv_tableIn (off := 1060) (tgt := 1092) C.1.1 C.1.2.1 dw_32 (by decide) (by decide) (by decide) (by decide) ?_
        exact lwa_32 C hS hW hT hi hl K
      · refine lv_tableIn (off := 1073) (tgt := 1105) C.1.1 C.1.2.1 dw_32 (by decide) (by decide) (by decide) (by decide) ?_
        exact lwa_33 C hS hW hT hi hl K
      · refine lv_tableIn (off := 1096) (tgt := 1128) C.1.1 C.1.2.1 dw_32 (by decide) (by decide) (by decide) (by decide) ?_
        exact lwa_34 C hS hW hT hi hl K
      · refine lv_tableIn (off := 1109) (tgt := 1141) C.1.1 C.1.2.1 dw_32 (by decide) (by decide) (by decide) (by decide) ?_
        exact lwa_35 C hS hW hT hi hl K
      · refine lv_tableIn (off := 1158) (tgt := 1190) C.1.1 C.1.2.1 dw_32 (by decide) (by decide) (by decide) (by decide) ?_
        exact lwa_36 C hS hW hT hi hl K
      · refine lv_tableIn (off := 1191) (tgt := 1223) C.1.1 C.1.2.1 dw_32 (by decide) (by decide) (by decide) (by decide) ?_
        exact lwa_37 C hS hW hT hi hl K
      · refine lv_tableIn (off := 1204) (tgt := 1236) C.1.1 C.1.2.1 dw_32 (by decide) (by decide) (by decide) (by decide) ?_
        exact lwa_38 C hS hW hT hi hl K
      · refine lv_tableIn (off := 1227) (tgt := 1259) C.1.1 C.1.2.1 dw_32 (by decide) (by decide) (by decide) (by decide) ?_
        exact lwa_39 C hS hW hT hi hl K
      · refine lv_tableIn (off := 1270) (tgt := 1302) C.1.1 C.1.2.1 dw_32 (by decide) (by decide) (by decide) (by decide) ?_
        exact lwa_40 C hS hW hT hi hl K
end LOOP
