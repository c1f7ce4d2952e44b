/-! the methods of the class, and the three of the JDK that it calls -/
def wp_J13_bitCount_95d88 (x0 : Int64) (σ : Sg) (Q : Int32 → Prop) : Prop :=
  Q ((((((((((x0 - (((x0).toUInt64 >>> (((1 : Int32)).toInt64.toUInt64 &&& Int64.toUInt64 63)).toInt64 &&& (6148914691236517205 : Int64))) &&& (3689348814741910323 : Int64)) + ((((x0 - (((x0).toUInt64 >>> (((1 : Int32)).toInt64.toUInt64 &&& Int64.toUInt64 63)).toInt64 &&& (6148914691236517205 : Int64)))).toUInt64 >>> (((2 : Int32)).toInt64.toUInt64 &&& Int64.toUInt64 63)).toInt64 &&& (3689348814741910323 : Int64))) + (((((x0 - (((x0).toUInt64 >>> (((1 : Int32)).toInt64.toUInt64 &&& Int64.toUInt64 63)).toInt64 &&& (6148914691236517205 : Int64))) &&& (3689348814741910323 : Int64)) + ((((x0 - (((x0).toUInt64 >>> (((1 : Int32)).toInt64.toUInt64 &&& Int64.toUInt64 63)).toInt64 &&& (6148914691236517205 : Int64)))).toUInt64 >>> (((2 : Int32)).toInt64.toUInt64 &&& Int64.toUInt64 63)).toInt64 &&& (3689348814741910323 : Int64)))).toUInt64 >>> (((4 : Int32)).toInt64.toUInt64 &&& Int64.toUInt64 63)).toInt64) &&& (1085102592571150095 : Int64)) + (((((((x0 - (((x0).toUInt64 >>> (((1 : Int32)).toInt64.toUInt64 &&& Int64.toUInt64 63)).toInt64 &&& (6148914691236517205 : Int64))) &&& (3689348814741910323 : Int64)) + ((((x0 - (((x0).toUInt64 >>> (((1 : Int32)).toInt64.toUInt64 &&& Int64.toUInt64 63)).toInt64 &&& (6148914691236517205 : Int64)))).toUInt64 >>> (((2 : Int32)).toInt64.toUInt64 &&& Int64.toUInt64 63)).toInt64 &&& (3689348814741910323 : Int64))) + (((((x0 - (((x0).toUInt64 >>> (((1 : Int32)).toInt64.toUInt64 &&& Int64.toUInt64 63)).toInt64 &&& (6148914691236517205 : Int64))) &&& (3689348814741910323 : Int64)) + ((((x0 - (((x0).toUInt64 >>> (((1 : Int32)).toInt64.toUInt64 &&& Int64.toUInt64 63)).toInt64 &&& (6148914691236517205 : Int64)))).toUInt64 >>> (((2 : Int32)).toInt64.toUInt64 &&& Int64.toUInt64 63)).toInt64 &&& (3689348814741910323 : Int64)))).toUInt64 >>> (((4 : Int32)).toInt64.toUInt64 &&& Int64.toUInt64 63)).toInt64) &&& (1085102592571150095 : Int64))).toUInt64 >>> (((8 : Int32)).toInt64.toUInt64 &&& Int64.toUInt64 63)).toInt64) + ((((((((x0 - (((x0).toUInt64 >>> (((1 : Int32)).toInt64.toUInt64 &&& Int64.toUInt64 63)).toInt64 &&& (6148914691236517205 : Int64))) &&& (3689348814741910323 : Int64)) + ((((x0 - (((x0).toUInt64 >>> (((1 : Int32)).toInt64.toUInt64 &&& Int64.toUInt64 63)).toInt64 &&& (6148914691236517205 : Int64)))).toUInt64 >>> (((2 : Int32)).toInt64.toUInt64 &&& Int64.toUInt64 63)).toInt64 &&& (3689348814741910323 : Int64))) + (((((x0 - (((x0).toUInt64 >>> (((1 : Int32)).toInt64.toUInt64 &&& Int64.toUInt64 63)).toInt64 &&& (6148914691236517205 : Int64))) &&& (3689348814741910323 : Int64)) + ((((x0 - (((x0).toUInt64 >>> (((1 : Int32)).toInt64.toUInt64 &&& Int64.toUInt64 63)).toInt64 &&& (6148914691236517205 : Int64)))).toUInt64 >>> (((2 : Int32)).toInt64.toUInt64 &&& Int64.toUInt64 63)).toInt64 &&& (3689348814741910323 : Int64)))).toUInt64 >>> (((4 : Int32)).toInt64.toUInt64 &&& Int64.toUInt64 63)).toInt64) &&& (1085102592571150095 : Int64)) + (((((((x0 - (((x0).toUInt64 >>> (((1 : Int32)).toInt64.toUInt64 &&& Int64.toUInt64 63)).toInt64 &&& (6148914691236517205 : Int64))) &&& (3689348814741910323 : Int64)) + ((((x0 - (((x0).toUInt64 >>> (((1 : Int32)).toInt64.toUInt64 &&& Int64.toUInt64 63)).toInt64 &&& (6148914691236517205 : Int64)))).toUInt64 >>> (((2 : Int32)).toInt64.toUInt64 &&& Int64.toUInt64 63)).toInt64 &&& (3689348814741910323 : Int64))) + (((((x0 - (((x0).toUInt64 >>> (((1 : Int32)).toInt64.toUInt64 &&& Int64.toUInt64 63)).toInt64 &&& (6148914691236517205 : Int64))) &&& (3689348814741910323 : Int64)) + ((((x0 - (((x0).toUInt64 >>> (((1 : Int32)).toInt64.toUInt64 &&& Int64.toUInt64 63)).toInt64 &&& (6148914691236517205 : Int64)))).toUInt64 >>> (((2 : Int32)).toInt64.toUInt64 &&& Int64.toUInt64 63)).toInt64 &&& (3689348814741910323 : Int64)))).toUInt64 >>> (((4 : Int32)).toInt64.toUInt64 &&& Int64.toUInt64 63)).toInt64) &&& (1085102592571150095 : Int64))).toUInt64 >>> (((8 : Int32)).toInt64.toUInt64 &&& Int64.toUInt64 63)).toInt64)).toUInt64 >>> (((16 : Int32)).toInt64.toUInt64 &&& Int64.toUInt64 63)).toInt64) + (((((((((x0 - (((x0).toUInt64 >>> (((1 : Int32)).toInt64.toUInt64 &&& Int64.toUInt64 63)).toInt64 &&& (6148914691236517205 : Int64))) &&& (3689348814741910323 : Int64)) + ((((x0 - (((x0).toUInt64 >>> (((1 : Int32)).toInt64.toUInt64 &&& Int64.toUInt64 63)).toInt64 &&& (6148914691236517205 : Int64)))).toUInt64 >>> (((2 : Int32)).toInt64.toUInt64 &&& Int64.toUInt64 63)).toInt64 &&& (3689348814741910323 : Int64))) + (((((x0 - (((x0).toUInt64 >>> (((1 : Int32)).toInt64.toUInt64 &&& Int64.toUInt64 63)).toInt64 &&& (6148914691236517205 : Int64))) &&& (3689348814741910323 : Int64)) + ((((x0 - (((x0).toUInt64 >>> (((1 : Int32)).toInt64.toUInt64 &&& Int64.toUInt64 63)).toInt64 &&& (6148914691236517205 : Int64)))).toUInt64 >>> (((2 : Int32)).toInt64.toUInt64 &&& Int64.toUInt64 63)).toInt64 &&& (3689348814741910323 : Int64)))).toUInt64 >>> (((4 : Int32)).toInt64.toUInt64 &&& Int64.toUInt64 63)).toInt64) &&& (1085102592571150095 : Int64)) + (((((((x0 - (((x0).toUInt64 >>> (((1 : Int32)).toInt64.toUInt64 &&& Int64.toUInt64 63)).toInt64 &&& (6148914691236517205 : Int64))) &&& (3689348814741910323 : Int64)) + ((((x0 - (((x0).toUInt64 >>> (((1 : Int32)).toInt64.toUInt64 &&& Int64.toUInt64 63)).toInt64 &&& (6148914691236517205 : Int64)))).toUInt64 >>> (((2 : Int32)).toInt64.toUInt64 &&& Int64.toUInt64 63)).toInt64 &&& (3689348814741910323 : Int64))) + (((((x0 - (((x0).toUInt64 >>> (((1 : Int32)).toInt64.toUInt64 &&& Int64.toUInt64 63)).toInt64 &&& (6148914691236517205 : Int64))) &&& (3689348814741910323 : Int64)) + ((((x0 - (((x0).toUInt64 >>> (((1 : Int32)).toInt64.toUInt64 &&& Int64.toUInt64 63)).toInt64 &&& (6148914691236517205 : Int64)))).toUInt64 >>> (((2 : Int32)).toInt64.toUInt64 &&& Int64.toUInt64 63)).toInt64 &&& (3689348814741910323 : Int64)))).toUInt64 >>> (((4 : Int32)).toInt64.toUInt64 &&& Int64.toUInt64 63)).toInt64) &&& (1085102592571150095 : Int64))).toUInt64 >>> (((8 : Int32)).toInt64.toUInt64 &&& Int64.toUInt64 63)).toInt64) + ((((((((x0 - (((x0).toUInt64 >>> (((1 : Int32)).toInt64.toUInt64 &&& Int64.toUInt64 63)).toInt64 &&& (6148914691236517205 : Int64))) &&& (3689348814741910323 : Int64)) + ((((x0 - (((x0).toUInt64 >>> (((1 : Int32)).toInt64.toUInt64 &&& Int64.toUInt64 63)).toInt64 &&& (6148914691236517205 : Int64)))).toUInt64 >>> (((2 : Int32)).toInt64.toUInt64 &&& Int64.toUInt64 63)).toInt64 &&& (3689348814741910323 : Int64))) + (((((x0 - (((x0).toUInt64 >>> (((1 : Int32)).toInt64.toUInt64 &&& Int64.toUInt64 63)).toInt64 &&& (6148914691236517205 : Int64))) &&& (3689348814741910323 : Int64)) + ((((x0 - (((x0).toUInt64 >>> (((1 : Int32)).toInt64.toUInt64 &&& Int64.toUInt64 63)).toInt64 &&& (6148914691236517205 : Int64)))).toUInt64 >>> (((2 : Int32)).toInt64.toUInt64 &&& Int64.toUInt64 63)).toInt64 &&& (3689348814741910323 : Int64)))).toUInt64 >>> (((4 : Int32)).toInt64.toUInt64 &&& Int64.toUInt64 63)).toInt64) &&& (1085102592571150095 : Int64)) + (((((((x0 - (((x0).toUInt64 >>> (((1 : Int32)).toInt64.toUInt64 &&& Int64.toUInt64 63)).toInt64 &&& (6148914691236517205 : Int64))) &&& (3689348814741910323 : Int64)) + ((((x0 - (((x0).toUInt64 >>> (((1 : Int32)).toInt64.toUInt64 &&& Int64.toUInt64 63)).toInt64 &&& (6148914691236517205 : Int64)))).toUInt64 >>> (((2 : Int32)).toInt64.toUInt64 &&& Int64.toUInt64 63)).toInt64 &&& (3689348814741910323 : Int64))) + (((((x0 - (((x0).toUInt64 >>> (((1 : Int32)).toInt64.toUInt64 &&& Int64.toUInt64 63)).toInt64 &&& (6148914691236517205 : Int64))) &&& (3689348814741910323 : Int64)) + ((((x0 - (((x0).toUInt64 >>> (((1 : Int32)).toInt64.toUInt64 &&& Int64.toUInt64 63)).toInt64 &&& (6148914691236517205 : Int64)))).toUInt64 >>> (((2 : Int32)).toInt64.toUInt64 &&& Int64.toUInt64 63)).toInt64 &&& (3689348814741910323 : Int64)))).toUInt64 >>> (((4 : Int32)).toInt64.toUInt64 &&& Int64.toUInt64 63)).toInt64) &&& (1085102592571150095 : Int64))).toUInt64 >>> (((8 : Int32)).toInt64.toUInt64 &&& Int64.toUInt64 63)).toInt64)).toUInt64 >>> (((16 : Int32)).toInt64.toUInt64 &&& Int64.toUInt64 63)).toInt64)).toUInt64 >>> (((32 : Int32)).toInt64.toUInt64 &&& Int64.toUInt64 63)).toInt64)).toInt32 &&& (127 : Int32))
def wl_J13_bitCount_95d88 : WP := fun As σ Q => p1l As (fun x0 r0 => onB r0.isEmpty (wp_J13_bitCount_95d88 x0 σ (fun x => Q (some (.int x)) σ)))
def tb_J13_bitCount_95d88 : List (Nat × Instr × Nat) := [(0, (.lload_n 0, 1)), (1, (.lload_n 0, 1)), (2, (.iconst 1, 1)), (3, (.lushr, 1)), (4, (.ldc2_w 314, 3)), (7, (.land, 1)), (8, (.lsub, 1)), (9, (.lstore_n 0, 1)), (10, (.lload_n 0, 1)), (11, (.ldc2_w 316, 3)), (14, (.land, 1)), (15, (.lload_n 0, 1)), (16, (.iconst 2, 1)), (17, (.lushr, 1)), (18, (.ldc2_w 316, 3)), (21, (.land, 1)), (22, (.ladd, 1)), (23, (.lstore_n 0, 1)), (24, (.lload_n 0, 1)), (25, (.lload_n 0, 1)), (26, (.iconst 4, 1)), (27, (.lushr, 1)), (28, (.ladd, 1)), (29, (.ldc2_w 318, 3)), (32, (.land, 1)), (33, (.lstore_n 0, 1)), (34, (.lload_n 0, 1)), (35, (.lload_n 0, 1)), (36, (.bipush 8, 2)), (38, (.lushr, 1)), (39, (.ladd, 1)), (40, (.lstore_n 0, 1)), (41, (.lload_n 0, 1)), (42, (.lload_n 0, 1)), (43, (.bipush 16, 2)), (45, (.lushr, 1)), (46, (.ladd, 1)), (47, (.lstore_n 0, 1)), (48, (.lload_n 0, 1)), (49, (.lload_n 0, 1)), (50, (.bipush 32, 2)), (52, (.lushr, 1)), (53, (.ladd, 1)), (54, (.lstore_n 0, 1)), (55, (.lload_n 0, 1)), (56, (.l2i, 1)), (57, (.bipush 127, 2)), (59, (.iand, 1)), (60, (.ireturn, 1))]
def ce_J13_bitCount_95d88 : List (Nat × (Nat × Option Nat × WP)) := []
set_option maxRecDepth 100000 in
set_option maxHeartbeats 4000000 in
theorem ct_J13_bitCount_95d88 (l : Launch) : Con l wX yJ13_bitCount_95d88 cJ13_bitCount_95d88 2 (some .int) 0 wl_J13_bitCount_95d88 := by
  refine sxm_ok l (ft := lkp ft_RJ13) (c32 := lkp c32_RJ13) (c64 := lkp c64_RJ13) (ce := lkp ce_J13_bitCount_95d88) (sf := lkp sf_RJ13) (lab := lkp []) (T := tb_J13_bitCount_95d88) (by decide +kernel) ft_RJ13_ok c32_RJ13_ok c64_RJ13_ok (fun x q h => (show ∀ q ∈ ce_J13_bitCount_95d88, ceOK l wX RJ13 0 q.1 q.2.1 q.2.2.1 q.2.2.2 from fun _ h => absurd h List.not_mem_nil) (x, q) (lkp_mem h)) sf_RJ13_ok (by decide +kernel) 400 (fun As σ Q h => ?_)
  replace h := p1l_e h
  obtain ⟨x0, q0, rfl, h⟩ := h
  replace h := onB_e h
  obtain ⟨e9, h⟩ := h
  have e9 := List.isEmpty_iff.mp e9
  subst e9
  refine ⟨Nat.le_of_ble_eq_true rfl, fun P hP => ?_⟩
  exact h 
def wp_X0_isFull (o : Nat) (σ : Sg) (Q : Int32 → Prop) : Prop :=
  onB (isK wX o 0) (onB (isK wX o 0) (onB (isA wX (wR wX o 0)) ((((gI σ o 2) < (nI (wN wX (wR wX o 0))) → (nz (0 : Int32) ∧ Q (0 : Int32))) ∧ (¬ (gI σ o 2) < (nI (wN wX (wR wX o 0))) → (nz (1 : Int32) ∧ Q (1 : Int32)))))))
def wl_X0_isFull : WP := fun As σ Q => p1r As (fun o r0 => onB r0.isEmpty (wp_X0_isFull o σ (fun x => Q (some (.int x)) σ)))
def tb_X0_isFull : List (Nat × Instr × Nat) := [(0, (.aload_n 0, 1)), (1, (.getfield 26, 3)), (4, (.aload_n 0, 1)), (5, (.getfield 22, 3)), (8, (.arraylength, 1)), (9, (.if_icmp .lt 16, 3)), (12, (.iconst 1, 1)), (13, (.goto 17, 3)), (16, (.iconst 0, 1)), (17, (.ireturn, 1))]
def ce_X0_isFull : List (Nat × (Nat × Option Nat × WP)) := []
set_option maxRecDepth 100000 in
set_option maxHeartbeats 4000000 in
theorem ct_X0_isFull (l : Launch) : Con l wX yX0_isFull cX0_isFull 1 (some .boolean) 0 wl_X0_isFull := by
  refine sxm_ok l (ft := lkp ft_RX0) (c32 := lkp c32_RX0) (c64 := lkp c64_RX0) (ce := lkp ce_X0_isFull) (sf := lkp sf_RX0) (lab := lkp []) (T := tb_X0_isFull) (by decide +kernel) ft_RX0_ok c32_RX0_ok c64_RX0_ok (fun x q h => (show ∀ q ∈ ce_X0_isFull, ceOK l wX RX0 0 q.1 q.2.1 q.2.2.1 q.2.2.2 from fun _ h => absurd h List.not_mem_nil) (x, q) (lkp_mem h)) sf_RX0_ok (by decide +kernel) 400 (fun As σ Q h => ?_)
  replace h := p1r_e h
  obtain ⟨o, q0, rfl, h⟩ := h
  replace h := onB_e h
  obtain ⟨e9, h⟩ := h
  have e9 := List.isEmpty_iff.mp e9
  subst e9
  refine ⟨Nat.le_of_ble_eq_true rfl, fun P hP => ?_⟩
  exact h 
def wp_X0_hasIndex (o : Nat) (x1 : Int32) (σ : Sg) (Q : Int32 → Prop) : Prop :=
  ((x1 < 0 → (nz (0 : Int32) ∧ Q (0 : Int32))) ∧ (¬ x1 < 0 → onB (isK wX o 0) (((x1 < (gI σ o 2) → onB (isK wX o 0) (onB (isA wX (wR wX o 0)) (((x1 < (nI (wN wX (wR wX o 0))) → (nz (1 : Int32) ∧ Q (1 : Int32))) ∧ (¬ x1 < (nI (wN wX (wR wX o 0))) → (nz (0 : Int32) ∧ Q (0 : Int32))))))) ∧ (¬ x1 < (gI σ o 2) → (nz (0 : Int32) ∧ Q (0 : Int32)))))))
def wl_X0_hasIndex : WP := fun As σ Q => p1r As (fun o r0 => p1i r0 (fun x1 r1 => onB r1.isEmpty (wp_X0_hasIndex o x1 σ (fun x => Q (some (.int x)) σ))))
def tb_X0_hasIndex : List (Nat × Instr × Nat) := [(0, (.iload_n 1, 1)), (1, (.ifCond .lt 25, 3)), (4, (.iload_n 1, 1)), (5, (.aload_n 0, 1)), (6, (.getfield 26, 3)), (9, (.if_icmp .ge 25, 3)), (12, (.iload_n 1, 1)), (13, (.aload_n 0, 1)), (14, (.getfield 22, 3)), (17, (.arraylength, 1)), (18, (.if_icmp .ge 25, 3)), (21, (.iconst 1, 1)), (22, (.goto 26, 3)), (25, (.iconst 0, 1)), (26, (.ireturn, 1))]
def ce_X0_hasIndex : List (Nat × (Nat × Option Nat × WP)) := []
set_option maxRecDepth 100000 in
set_option maxHeartbeats 4000000 in
theorem ct_X0_hasIndex (l : Launch) : Con l wX yX0_hasIndex cX0_hasIndex 2 (some .boolean) 0 wl_X0_hasIndex := by
  refine sxm_ok l (ft := lkp ft_RX0) (c32 := lkp c32_RX0) (c64 := lkp c64_RX0) (ce := lkp ce_X0_hasIndex) (sf := lkp sf_RX0) (lab := lkp []) (T := tb_X0_hasIndex) (by decide +kernel) ft_RX0_ok c32_RX0_ok c64_RX0_ok (fun x q h => (show ∀ q ∈ ce_X0_hasIndex, ceOK l wX RX0 0 q.1 q.2.1 q.2.2.1 q.2.2.2 from fun _ h => absurd h List.not_mem_nil) (x, q) (lkp_mem h)) sf_RX0_ok (by decide +kernel) 400 (fun As σ Q h => ?_)
  replace h := p1r_e h
  obtain ⟨o, q0, rfl, h⟩ := h
  replace h := p1i_e h
  obtain ⟨x1, q1, rfl, h⟩ := h
  replace h := onB_e h
  obtain ⟨e9, h⟩ := h
  have e9 := List.isEmpty_iff.mp e9
  subst e9
  refine ⟨Nat.le_of_ble_eq_true rfl, fun P hP => ?_⟩
  exact h 
def wp_X0_hasCube (o : Nat) (x1 : Int32) (σ : Sg) (Q : Int32 → Prop) : Prop :=
  ∀ L2 : Int32 → Prop,
  (∀ (x2 : Int32), onB (isK wX o 0) (((x2 < (gI σ o 2) → onB (isK wX o 0) (onB (isA wX (wR wX o 0)) (((x2 < (nI (wN wX (wR wX o 0))) → onB (isK wX o 0) (onB (isK wX (wR wX o 0) 20) ((vp_in x2 (wN wX (wR wX o 0)) ∧ (((gI σ (wR wX o 0) (x2).toNatClampNeg) = x1 → (nz (1 : Int32) ∧ Q (1 : Int32))) ∧ (¬ (gI σ (wR wX o 0) (x2).toNatClampNeg) = x1 → L2 (x2 + (1 : Int32)))))))) ∧ (¬ x2 < (nI (wN wX (wR wX o 0))) → (nz (0 : Int32) ∧ Q (0 : Int32))))))) ∧ (¬ x2 < (gI σ o 2) → (nz (0 : Int32) ∧ Q (0 : Int32))))) → L2 x2) →
  L2 (0 : Int32)
def wl_X0_hasCube : WP := fun As σ Q => p1r As (fun o r0 => p1i r0 (fun x1 r1 => onB r1.isEmpty (wp_X0_hasCube o x1 σ (fun x => Q (some (.int x)) σ))))
def tb_X0_hasCube : List (Nat × Instr × Nat) := [(0, (.iconst 0, 1)), (1, (.istore_n 2, 1)), (2, (.iload_n 2, 1)), (3, (.aload_n 0, 1)), (4, (.getfield 26, 3)), (7, (.if_icmp .ge 37, 3)), (10, (.iload_n 2, 1)), (11, (.aload_n 0, 1)), (12, (.getfield 22, 3)), (15, (.arraylength, 1)), (16, (.if_icmp .ge 37, 3)), (19, (.aload_n 0, 1)), (20, (.getfield 22, 3)), (23, (.iload_n 2, 1)), (24, (.iaload, 1)), (25, (.iload_n 1, 1)), (26, (.if_icmp .ne 31, 3)), (29, (.iconst 1, 1)), (30, (.ireturn, 1)), (31, (.iinc 2 1, 3)), (34, (.goto 2, 3)), (37, (.iconst 0, 1)), (38, (.ireturn, 1))]
def ce_X0_hasCube : List (Nat × (Nat × Option Nat × WP)) := []
set_option maxRecDepth 100000 in
set_option maxHeartbeats 4000000 in
theorem ct_X0_hasCube (l : Launch) : Con l wX yX0_hasCube cX0_hasCube 3 (some .boolean) 0 wl_X0_hasCube := by
  refine sxm_ok l (ft := lkp ft_RX0) (c32 := lkp c32_RX0) (c64 := lkp c64_RX0) (ce := lkp ce_X0_hasCube) (sf := lkp sf_RX0) (lab := lkp [(2, [0, 1, 2])]) (T := tb_X0_hasCube) (by decide +kernel) ft_RX0_ok c32_RX0_ok c64_RX0_ok (fun x q h => (show ∀ q ∈ ce_X0_hasCube, ceOK l wX RX0 0 q.1 q.2.1 q.2.2.1 q.2.2.2 from fun _ h => absurd h List.not_mem_nil) (x, q) (lkp_mem h)) sf_RX0_ok (by decide +kernel) 400 (fun As σ Q h => ?_)
  replace h := p1r_e h
  obtain ⟨o, q0, rfl, h⟩ := h
  replace h := p1i_e h
  obtain ⟨x1, q1, rfl, h⟩ := h
  replace h := onB_e h
  obtain ⟨e9, h⟩ := h
  have e9 := List.isEmpty_iff.mp e9
  subst e9
  refine ⟨Nat.le_of_ble_eq_true rfl, fun P hP => ?_⟩
  exact h (fun x2 => P 2 [.ref o, .int x1, .int x2] σ) (fun x2 hb => hP 2 [.ref o, .int x1, .int x2] σ hb)
def wp_X1_frame (x1 : Int32) (σ : Sg) (Q : Nat → Prop) : Prop :=
  ((x1 < 0 → Q 1056) ∧ (¬ x1 < 0 → (((24 : Int32) < x1 → Q 1056) ∧ (¬ (24 : Int32) < x1 → (vp_in x1 25 ∧ Q (wR wX 1055 (x1).toNatClampNeg))))))
def wl_X1_frame : WP := fun As σ Q => p1r As (fun z0 r0 => onB (Nat.beq z0 1054) (p1i r0 (fun x1 r1 => onB r1.isEmpty (wp_X1_frame x1 σ (fun x => Q (some (.ref x)) σ)))))
def tb_X1_frame : List (Nat × Instr × Nat) := [(0, (.iload_n 1, 1)), (1, (.ifCond .lt 19, 3)), (4, (.iload_n 1, 1)), (5, (.bipush 24, 2)), (7, (.if_icmp .gt 19, 3)), (10, (.aload_n 0, 1)), (11, (.getfield 11, 3)), (14, (.iload_n 1, 1)), (15, (.aaload, 1)), (16, (.goto 23, 3)), (19, (.aload_n 0, 1)), (20, (.getfield 20, 3)), (23, (.areturn, 1))]
def ce_X1_frame : List (Nat × (Nat × Option Nat × WP)) := []
set_option maxRecDepth 100000 in
set_option maxHeartbeats 4000000 in
theorem ct_X1_frame (l : Launch) : Con l wX yX1_frame cX1_frame 2 (some (.object "FrameProver$Clauses")) 0 wl_X1_frame := by
  refine sxm_ok l (ft := lkp ft_RX1) (c32 := lkp c32_RX1) (c64 := lkp c64_RX1) (ce := lkp ce_X1_frame) (sf := lkp sf_RX1) (lab := lkp []) (T := tb_X1_frame) (by decide +kernel) ft_RX1_ok c32_RX1_ok c64_RX1_ok (fun x q h => (show ∀ q ∈ ce_X1_frame, ceOK l wX RX1 0 q.1 q.2.1 q.2.2.1 q.2.2.2 from fun _ h => absurd h List.not_mem_nil) (x, q) (lkp_mem h)) sf_RX1_ok (by decide +kernel) 400 (fun As σ Q h => ?_)
  replace h := p1r_e h
  obtain ⟨z0, q0, rfl, h⟩ := h
  replace h := onB_e h
  obtain ⟨e0, h⟩ := h
  have e0 := Nat.eq_of_beq_eq_true e0
  subst e0
  replace h := p1i_e h
  obtain ⟨x1, q1, rfl, h⟩ := h
  replace h := onB_e h
  obtain ⟨e9, h⟩ := h
  have e9 := List.isEmpty_iff.mp e9
  subst e9
  refine ⟨Nat.le_of_ble_eq_true rfl, fun P hP => ?_⟩
  exact h 
def wp_X3_isFull  (σ : Sg) (Q : Int32 → Prop) : Prop :=
  (((gI σ 1 10) < (80 : Int32) → (nz (0 : Int32) ∧ Q (0 : Int32))) ∧ (¬ (gI σ 1 10) < (80 : Int32) → (nz (1 : Int32) ∧ Q (1 : Int32))))
def wl_X3_isFull : WP := fun As σ Q => p1r As (fun z0 r0 => onB (Nat.beq z0 1) (onB r0.isEmpty (wp_X3_isFull  σ (fun x => Q (some (.int x)) σ))))
def tb_X3_isFull : List (Nat × Instr × Nat) := [(0, (.aload_n 0, 1)), (1, (.getfield 50, 3)), (4, (.bipush 80, 2)), (6, (.if_icmp .lt 13, 3)), (9, (.iconst 1, 1)), (10, (.goto 14, 3)), (13, (.iconst 0, 1)), (14, (.ireturn, 1))]
def ce_X3_isFull : List (Nat × (Nat × Option Nat × WP)) := []
set_option maxRecDepth 100000 in
set_option maxHeartbeats 4000000 in
theorem ct_X3_isFull (l : Launch) : Con l wX yX3_isFull cX3_isFull 1 (some .boolean) 0 wl_X3_isFull := by
  refine sxm_ok l (ft := lkp ft_RX3) (c32 := lkp c32_RX3) (c64 := lkp c64_RX3) (ce := lkp ce_X3_isFull) (sf := lkp sf_RX3) (lab := lkp []) (T := tb_X3_isFull) (by decide +kernel) ft_RX3_ok c32_RX3_ok c64_RX3_ok (fun x q h => (show ∀ q ∈ ce_X3_isFull, ceOK l wX RX3 0 q.1 q.2.1 q.2.2.1 q.2.2.2 from fun _ h => absurd h List.not_mem_nil) (x, q) (lkp_mem h)) sf_RX3_ok (by decide +kernel) 400 (fun As σ Q h => ?_)
  replace h := p1r_e h
  obtain ⟨z0, q0, rfl, h⟩ := h
  replace h := onB_e h
  obtain ⟨e0, h⟩ := h
  have e0 := Nat.eq_of_beq_eq_true e0
  subst e0
  replace h := onB_e h
  obtain ⟨e9, h⟩ := h
  have e9 := List.isEmpty_iff.mp e9
  subst e9
  refine ⟨Nat.le_of_ble_eq_true rfl, fun P hP => ?_⟩
  exact h 
def wp_X3_addPart (x1 : Int32) (x2 : Int32) (x3 : Int32) (σ : Sg) (Q : Int32 → Sg → Prop) : Prop :=
  (((gI σ 1 10) < 0 → Q (-1 : Int32) σ) ∧ (¬ (gI σ 1 10) < 0 → (((gI σ 1 10) < (80 : Int32) → (vp_in (gI σ 1 10) 80 ∧ (vp_in (gI σ 1 10) 80 ∧ (vp_in (gI σ 1 10) 80 ∧ Q (gI σ 1 10) (sI (sI (sI (sI σ 2 ((gI σ 1 10)).toNatClampNeg x1) 3 ((gI σ 1 10)).toNatClampNeg x2) 4 ((gI σ 1 10)).toNatClampNeg x3) 1 10 ((gI (sI (sI (sI σ 2 ((gI σ 1 10)).toNatClampNeg x1) 3 ((gI σ 1 10)).toNatClampNeg x2) 4 ((gI σ 1 10)).toNatClampNeg x3) 1 10) + (1 : Int32))))))) ∧ (¬ (gI σ 1 10) < (80 : Int32) → Q (-1 : Int32) σ))))
def wl_X3_addPart : WP := fun As σ Q => p1r As (fun z0 r0 => onB (Nat.beq z0 1) (p1i r0 (fun x1 r1 => p1i r1 (fun x2 r2 => p1i r2 (fun x3 r3 => onB r3.isEmpty (wp_X3_addPart x1 x2 x3 σ (fun x τ => Q (some (.int x)) τ)))))))
def tb_X3_addPart : List (Nat × Instr × Nat) := [(0, (.aload_n 0, 1)), (1, (.getfield 50, 3)), (4, (.istore 4, 2)), (6, (.iload 4, 2)), (8, (.ifCond .lt 18, 3)), (11, (.iload 4, 2)), (13, (.bipush 80, 2)), (15, (.if_icmp .lt 20, 3)), (18, (.iconst (-1), 1)), (19, (.ireturn, 1)), (20, (.aload_n 0, 1)), (21, (.getfield 9, 3)), (24, (.iload 4, 2)), (26, (.iload_n 1, 1)), (27, (.iastore, 1)), (28, (.aload_n 0, 1)), (29, (.getfield 15, 3)), (32, (.iload 4, 2)), (34, (.iload_n 2, 1)), (35, (.iastore, 1)), (36, (.aload_n 0, 1)), (37, (.getfield 18, 3)), (40, (.iload 4, 2)), (42, (.iload_n 3, 1)), (43, (.iastore, 1)), (44, (.aload_n 0, 1)), (45, (.dup, 1)), (46, (.getfield 50, 3)), (49, (.iconst 1, 1)), (50, (.iadd, 1)), (51, (.putfield 50, 3)), (54, (.iload 4, 2)), (56, (.ireturn, 1))]
def ce_X3_addPart : List (Nat × (Nat × Option Nat × WP)) := []
set_option maxRecDepth 100000 in
set_option maxHeartbeats 4000000 in
theorem ct_X3_addPart (l : Launch) : Con l wX yX3_addPart cX3_addPart 5 (some .int) 0 wl_X3_addPart := by
  refine sxm_ok l (ft := lkp ft_RX3) (c32 := lkp c32_RX3) (c64 := lkp c64_RX3) (ce := lkp ce_X3_addPart) (sf := lkp sf_RX3) (lab := lkp []) (T := tb_X3_addPart) (by decide +kernel) ft_RX3_ok c32_RX3_ok c64_RX3_ok (fun x q h => (show ∀ q ∈ ce_X3_addPart, ceOK l wX RX3 0 q.1 q.2.1 q.2.2.1 q.2.2.2 from fun _ h => absurd h List.not_mem_nil) (x, q) (lkp_mem h)) sf_RX3_ok (by decide +kernel) 400 (fun As σ Q h => ?_)
  replace h := p1r_e h
  obtain ⟨z0, q0, rfl, h⟩ := h
  replace h := onB_e h
  obtain ⟨e0, h⟩ := h
  have e0 := Nat.eq_of_beq_eq_true e0
  subst e0
  replace h := p1i_e h
  obtain ⟨x1, q1, rfl, h⟩ := h
  replace h := p1i_e h
  obtain ⟨x2, q2, rfl, h⟩ := h
  replace h := p1i_e h
  obtain ⟨x3, q3, rfl, h⟩ := h
  replace h := onB_e h
  obtain ⟨e9, h⟩ := h
  have e9 := List.isEmpty_iff.mp e9
  subst e9
  refine ⟨Nat.le_of_ble_eq_true rfl, fun P hP => ?_⟩
  exact h 
def wp_X3_hasPart (x1 : Int32) (σ : Sg) (Q : Int32 → Prop) : Prop :=
  ((x1 < 0 → (nz (0 : Int32) ∧ Q (0 : Int32))) ∧ (¬ x1 < 0 → ((x1 < (gI σ 1 10) → ((x1 < (80 : Int32) → (nz (1 : Int32) ∧ Q (1 : Int32))) ∧ (¬ x1 < (80 : Int32) → (nz (0 : Int32) ∧ Q (0 : Int32))))) ∧ (¬ x1 < (gI σ 1 10) → (nz (0 : Int32) ∧ Q (0 : Int32))))))
def wl_X3_hasPart : WP := fun As σ Q => p1r As (fun z0 r0 => onB (Nat.beq z0 1) (p1i r0 (fun x1 r1 => onB r1.isEmpty (wp_X3_hasPart x1 σ (fun x => Q (some (.int x)) σ)))))
def tb_X3_hasPart : List (Nat × Instr × Nat) := [(0, (.iload_n 1, 1)), (1, (.ifCond .lt 22, 3)), (4, (.iload_n 1, 1)), (5, (.aload_n 0, 1)), (6, (.getfield 50, 3)), (9, (.if_icmp .ge 22, 3)), (12, (.iload_n 1, 1)), (13, (.bipush 80, 2)), (15, (.if_icmp .ge 22, 3)), (18, (.iconst 1, 1)), (19, (.goto 23, 3)), (22, (.iconst 0, 1)), (23, (.ireturn, 1))]
def ce_X3_hasPart : List (Nat × (Nat × Option Nat × WP)) := []
set_option maxRecDepth 100000 in
set_option maxHeartbeats 4000000 in
theorem ct_X3_hasPart (l : Launch) : Con l wX yX3_hasPart cX3_hasPart 2 (some .boolean) 0 wl_X3_hasPart := by
  refine sxm_ok l (ft := lkp ft_RX3) (c32 := lkp c32_RX3) (c64 := lkp c64_RX3) (ce := lkp ce_X3_hasPart) (sf := lkp sf_RX3) (lab := lkp []) (T := tb_X3_hasPart) (by decide +kernel) ft_RX3_ok c32_RX3_ok c64_RX3_ok (fun x q h => (show ∀ q ∈ ce_X3_hasPart, ceOK l wX RX3 0 q.1 q.2.1 q.2.2.1 q.2.2.2 from fun _ h => absurd h List.not_mem_nil) (x, q) (lkp_mem h)) sf_RX3_ok (by decide +kernel) 400 (fun As σ Q h => ?_)
  replace h := p1r_e h
  obtain ⟨z0, q0, rfl, h⟩ := h
  replace h := onB_e h
  obtain ⟨e0, h⟩ := h
  have e0 := Nat.eq_of_beq_eq_true e0
  subst e0
  replace h := p1i_e h
  obtain ⟨x1, q1, rfl, h⟩ := h
  replace h := onB_e h
  obtain ⟨e9, h⟩ := h
  have e9 := List.isEmpty_iff.mp e9
  subst e9
  refine ⟨Nat.le_of_ble_eq_true rfl, fun P hP => ?_⟩
  exact h 
def wp_X3_states  (σ : Sg) (Q : Int32 → Prop) : Prop :=
  Q ((1 : Int32) <<< ((gI σ 1 11) &&& 31))
def wl_X3_states : WP := fun As σ Q => p1r As (fun z0 r0 => onB (Nat.beq z0 1) (onB r0.isEmpty (wp_X3_states  σ (fun x => Q (some (.int x)) σ))))
def tb_X3_states : List (Nat × Instr × Nat) := [(0, (.iconst 1, 1)), (1, (.aload_n 0, 1)), (2, (.getfield 61, 3)), (5, (.ishl, 1)), (6, (.ireturn, 1))]
def ce_X3_states : List (Nat × (Nat × Option Nat × WP)) := []
set_option maxRecDepth 100000 in
set_option maxHeartbeats 4000000 in
theorem ct_X3_states (l : Launch) : Con l wX yX3_states cX3_states 1 (some .int) 0 wl_X3_states := by
  refine sxm_ok l (ft := lkp ft_RX3) (c32 := lkp c32_RX3) (c64 := lkp c64_RX3) (ce := lkp ce_X3_states) (sf := lkp sf_RX3) (lab := lkp []) (T := tb_X3_states) (by decide +kernel) ft_RX3_ok c32_RX3_ok c64_RX3_ok (fun x q h => (show ∀ q ∈ ce_X3_states, ceOK l wX RX3 0 q.1 q.2.1 q.2.2.1 q.2.2.2 from fun _ h => absurd h List.not_mem_nil) (x, q) (lkp_mem h)) sf_RX3_ok (by decide +kernel) 400 (fun As σ Q h => ?_)
  replace h := p1r_e h
  obtain ⟨z0, q0, rfl, h⟩ := h
  replace h := onB_e h
  obtain ⟨e0, h⟩ := h
  have e0 := Nat.eq_of_beq_eq_true e0
  subst e0
  replace h := onB_e h
  obtain ⟨e9, h⟩ := h
  have e9 := List.isEmpty_iff.mp e9
  subst e9
  refine ⟨Nat.le_of_ble_eq_true rfl, fun P hP => ?_⟩
  exact h 
def wp_X3_choicesInAll  (σ : Sg) (Q : Int32 → Prop) : Prop :=
  Q ((1 : Int32) <<< ((gI σ 1 12) &&& 31))
def wl_X3_choicesInAll : WP := fun As σ Q => p1r As (fun z0 r0 => onB (Nat.beq z0 1) (onB r0.isEmpty (wp_X3_choicesInAll  σ (fun x => Q (some (.int x)) σ))))
def tb_X3_choicesInAll : List (Nat × Instr × Nat) := [(0, (.iconst 1, 1)), (1, (.aload_n 0, 1)), (2, (.getfield 67, 3)), (5, (.ishl, 1)), (6, (.ireturn, 1))]
def ce_X3_choicesInAll : List (Nat × (Nat × Option Nat × WP)) := []
set_option maxRecDepth 100000 in
set_option maxHeartbeats 4000000 in
theorem ct_X3_choicesInAll (l : Launch) : Con l wX yX3_choicesInAll cX3_choicesInAll 1 (some .int) 0 wl_X3_choicesInAll := by
  refine sxm_ok l (ft := lkp ft_RX3) (c32 := lkp c32_RX3) (c64 := lkp c64_RX3) (ce := lkp ce_X3_choicesInAll) (sf := lkp sf_RX3) (lab := lkp []) (T := tb_X3_choicesInAll) (by decide +kernel) ft_RX3_ok c32_RX3_ok c64_RX3_ok (fun x q h => (show ∀ q ∈ ce_X3_choicesInAll, ceOK l wX RX3 0 q.1 q.2.1 q.2.2.1 q.2.2.2 from fun _ h => absurd h List.not_mem_nil) (x, q) (lkp_mem h)) sf_RX3_ok (by decide +kernel) 400 (fun As σ Q h => ?_)
  replace h := p1r_e h
  obtain ⟨z0, q0, rfl, h⟩ := h
  replace h := onB_e h
  obtain ⟨e0, h⟩ := h
  have e0 := Nat.eq_of_beq_eq_true e0
  subst e0
  replace h := onB_e h
  obtain ⟨e9, h⟩ := h
  have e9 := List.isEmpty_iff.mp e9
  subst e9
  refine ⟨Nat.le_of_ble_eq_true rfl, fun P hP => ?_⟩
  exact h 
def wp_X3_signLanes (x1 : Int32) (σ : Sg) (Q : Int32 → Prop) : Prop :=
  (((x1 >>> ((1 : Int32) &&& 31)) < 0 → Q (0 : Int32)) ∧ (¬ (x1 >>> ((1 : Int32) &&& 31)) < 0 → (((x1 >>> ((1 : Int32) &&& 31)) < (gI σ 1 10) → (((x1 >>> ((1 : Int32) &&& 31)) < (80 : Int32) → (((x1 &&& (1 : Int32)) = 0 → (vp_in (x1 >>> ((1 : Int32) &&& 31)) 80 ∧ Q (gI σ 7 ((x1 >>> ((1 : Int32) &&& 31))).toNatClampNeg))) ∧ (¬ (x1 &&& (1 : Int32)) = 0 → (vp_in (x1 >>> ((1 : Int32) &&& 31)) 80 ∧ Q (((gI σ 7 ((x1 >>> ((1 : Int32) &&& 31))).toNatClampNeg) ^^^ (-1 : Int32)) &&& (65535 : Int32)))))) ∧ (¬ (x1 >>> ((1 : Int32) &&& 31)) < (80 : Int32) → Q (0 : Int32)))) ∧ (¬ (x1 >>> ((1 : Int32) &&& 31)) < (gI σ 1 10) → Q (0 : Int32)))))
def wl_X3_signLanes : WP := fun As σ Q => p1r As (fun z0 r0 => onB (Nat.beq z0 1) (p1i r0 (fun x1 r1 => onB r1.isEmpty (wp_X3_signLanes x1 σ (fun x => Q (some (.int x)) σ)))))
def tb_X3_signLanes : List (Nat × Instr × Nat) := [(0, (.iload_n 1, 1)), (1, (.iconst 1, 1)), (2, (.ishr, 1)), (3, (.istore_n 2, 1)), (4, (.iload_n 2, 1)), (5, (.ifCond .lt 22, 3)), (8, (.iload_n 2, 1)), (9, (.aload_n 0, 1)), (10, (.getfield 50, 3)), (13, (.if_icmp .ge 22, 3)), (16, (.iload_n 2, 1)), (17, (.bipush 80, 2)), (19, (.if_icmp .lt 24, 3)), (22, (.iconst 0, 1)), (23, (.ireturn, 1)), (24, (.iload_n 1, 1)), (25, (.iconst 1, 1)), (26, (.iand, 1)), (27, (.ifCond .ne 39, 3)), (30, (.aload_n 0, 1)), (31, (.getfield 27, 3)), (34, (.iload_n 2, 1)), (35, (.iaload, 1)), (36, (.goto 50, 3)), (39, (.aload_n 0, 1)), (40, (.getfield 27, 3)), (43, (.iload_n 2, 1)), (44, (.iaload, 1)), (45, (.iconst (-1), 1)), (46, (.ixor, 1)), (47, (.ldc 88, 2)), (49, (.iand, 1)), (50, (.ireturn, 1))]
def ce_X3_signLanes : List (Nat × (Nat × Option Nat × WP)) := []
set_option maxRecDepth 100000 in
set_option maxHeartbeats 4000000 in
theorem ct_X3_signLanes (l : Launch) : Con l wX yX3_signLanes cX3_signLanes 3 (some .int) 0 wl_X3_signLanes := by
  refine sxm_ok l (ft := lkp ft_RX3) (c32 := lkp c32_RX3) (c64 := lkp c64_RX3) (ce := lkp ce_X3_signLanes) (sf := lkp sf_RX3) (lab := lkp []) (T := tb_X3_signLanes) (by decide +kernel) ft_RX3_ok c32_RX3_ok c64_RX3_ok (fun x q h => (show ∀ q ∈ ce_X3_signLanes, ceOK l wX RX3 0 q.1 q.2.1 q.2.2.1 q.2.2.2 from fun _ h => absurd h List.not_mem_nil) (x, q) (lkp_mem h)) sf_RX3_ok (by decide +kernel) 400 (fun As σ Q h => ?_)
  replace h := p1r_e h
  obtain ⟨z0, q0, rfl, h⟩ := h
  replace h := onB_e h
  obtain ⟨e0, h⟩ := h
  have e0 := Nat.eq_of_beq_eq_true e0
  subst e0
  replace h := p1i_e h
  obtain ⟨x1, q1, rfl, h⟩ := h
  replace h := onB_e h
  obtain ⟨e9, h⟩ := h
  have e9 := List.isEmpty_iff.mp e9
  subst e9
  refine ⟨Nat.le_of_ble_eq_true rfl, fun P hP => ?_⟩
  exact h 
def wp_X4_forget  (σ : Sg) (Q : Sg → Prop) : Prop :=
  Q (sI (sI (sI (sI (sI σ 1164 5 (0 : Int32)) 1164 6 (0 : Int32)) 1164 7 (0 : Int32)) 1164 8 (0 : Int32)) 1164 9 (0 : Int32))
def wl_X4_forget : WP := fun As σ Q => p1r As (fun z0 r0 => onB (Nat.beq z0 1164) (onB r0.isEmpty (wp_X4_forget  σ (fun τ => Q none τ))))
def tb_X4_forget : List (Nat × Instr × Nat) := [(0, (.aload_n 0, 1)), (1, (.iconst 0, 1)), (2, (.putfield 30, 3)), (5, (.aload_n 0, 1)), (6, (.iconst 0, 1)), (7, (.putfield 34, 3)), (10, (.aload_n 0, 1)), (11, (.iconst 0, 1)), (12, (.putfield 37, 3)), (15, (.aload_n 0, 1)), (16, (.iconst 0, 1)), (17, (.putfield 40, 3)), (20, (.aload_n 0, 1)), (21, (.iconst 0, 1)), (22, (.putfield 43, 3)), (25, (.return_, 1))]
def ce_X4_forget : List (Nat × (Nat × Option Nat × WP)) := []
set_option maxRecDepth 100000 in
set_option maxHeartbeats 4000000 in
theorem ct_X4_forget (l : Launch) : Con l wX yX4_forget cX4_forget 1 none 0 wl_X4_forget := by
  refine sxm_ok l (ft := lkp ft_RX4) (c32 := lkp c32_RX4) (c64 := lkp c64_RX4) (ce := lkp ce_X4_forget) (sf := lkp sf_RX4) (lab := lkp []) (T := tb_X4_forget) (by decide +kernel) ft_RX4_ok c32_RX4_ok c64_RX4_ok (fun x q h => (show ∀ q ∈ ce_X4_forget, ceOK l wX RX4 0 q.1 q.2.1 q.2.2.1 q.2.2.2 from fun _ h => absurd h List.not_mem_nil) (x, q) (lkp_mem h)) sf_RX4_ok (by decide +kernel) 400 (fun As σ Q h => ?_)
  replace h := p1r_e h
  obtain ⟨z0, q0, rfl, h⟩ := h
  replace h := onB_e h
  obtain ⟨e0, h⟩ := h
  have e0 := Nat.eq_of_beq_eq_true e0
  subst e0
  replace h := onB_e h
  obtain ⟨e9, h⟩ := h
  have e9 := List.isEmpty_iff.mp e9
  subst e9
  refine ⟨Nat.le_of_ble_eq_true rfl, fun P hP => ?_⟩
  exact h 
def wp_X4_addTrouble (x1 : Int32) (x2 : Int32) (σ : Sg) (Q : Sg → Prop) : Prop :=
  (((gI σ 1164 5) < 0 → Q σ) ∧ (¬ (gI σ 1164 5) < 0 → (((gI σ 1164 5) < (nI 25) → (((gI σ 1164 5) < (nI 25) → (vp_in (gI σ 1164 5) 25 ∧ (vp_in (gI (sI σ 1165 ((gI σ 1164 5)).toNatClampNeg x1) 1164 5) 25 ∧ Q (sI (sI (sI σ 1165 ((gI σ 1164 5)).toNatClampNeg x1) 1166 ((gI (sI σ 1165 ((gI σ 1164 5)).toNatClampNeg x1) 1164 5)).toNatClampNeg x2) 1164 5 ((gI (sI (sI σ 1165 ((gI σ 1164 5)).toNatClampNeg x1) 1166 ((gI (sI σ 1165 ((gI σ 1164 5)).toNatClampNeg x1) 1164 5)).toNatClampNeg x2) 1164 5) + (1 : Int32)))))) ∧ (¬ (gI σ 1164 5) < (nI 25) → Q σ))) ∧ (¬ (gI σ 1164 5) < (nI 25) → Q σ))))
def wl_X4_addTrouble : WP := fun As σ Q => p1r As (fun z0 r0 => onB (Nat.beq z0 1164) (p1i r0 (fun x1 r1 => p1i r1 (fun x2 r2 => onB r2.isEmpty (wp_X4_addTrouble x1 x2 σ (fun τ => Q none τ))))))
def tb_X4_addTrouble : List (Nat × Instr × Nat) := [(0, (.aload_n 0, 1)), (1, (.getfield 30, 3)), (4, (.ifCond .lt 61, 3)), (7, (.aload_n 0, 1)), (8, (.getfield 30, 3)), (11, (.aload_n 0, 1)), (12, (.getfield 9, 3)), (15, (.arraylength, 1)), (16, (.if_icmp .ge 61, 3)), (19, (.aload_n 0, 1)), (20, (.getfield 30, 3)), (23, (.aload_n 0, 1)), (24, (.getfield 15, 3)), (27, (.arraylength, 1)), (28, (.if_icmp .ge 61, 3)), (31, (.aload_n 0, 1)), (32, (.getfield 9, 3)), (35, (.aload_n 0, 1)), (36, (.getfield 30, 3)), (39, (.iload_n 1, 1)), (40, (.iastore, 1)), (41, (.aload_n 0, 1)), (42, (.getfield 15, 3)), (45, (.aload_n 0, 1)), (46, (.getfield 30, 3)), (49, (.iload_n 2, 1)), (50, (.iastore, 1)), (51, (.aload_n 0, 1)), (52, (.dup, 1)), (53, (.getfield 30, 3)), (56, (.iconst 1, 1)), (57, (.iadd, 1)), (58, (.putfield 30, 3)), (61, (.return_, 1))]
def ce_X4_addTrouble : List (Nat × (Nat × Option Nat × WP)) := []
set_option maxRecDepth 100000 in
set_option maxHeartbeats 4000000 in
theorem ct_X4_addTrouble (l : Launch) : Con l wX yX4_addTrouble cX4_addTrouble 3 none 0 wl_X4_addTrouble := by
  refine sxm_ok l (ft := lkp ft_RX4) (c32 := lkp c32_RX4) (c64 := lkp c64_RX4) (ce := lkp ce_X4_addTrouble) (sf := lkp sf_RX4) (lab := lkp []) (T := tb_X4_addTrouble) (by decide +kernel) ft_RX4_ok c32_RX4_ok c64_RX4_ok (fun x q h => (show ∀ q ∈ ce_X4_addTrouble, ceOK l wX RX4 0 q.1 q.2.1 q.2.2.1 q.2.2.2 from fun _ h => absurd h List.not_mem_nil) (x, q) (lkp_mem h)) sf_RX4_ok (by decide +kernel) 400 (fun As σ Q h => ?_)
  replace h := p1r_e h
  obtain ⟨z0, q0, rfl, h⟩ := h
  replace h := onB_e h
  obtain ⟨e0, h⟩ := h
  have e0 := Nat.eq_of_beq_eq_true e0
  subst e0
  replace h := p1i_e h
  obtain ⟨x1, q1, rfl, h⟩ := h
  replace h := p1i_e h
  obtain ⟨x2, q2, rfl, h⟩ := h
  replace h := onB_e h
  obtain ⟨e9, h⟩ := h
  have e9 := List.isEmpty_iff.mp e9
  subst e9
  refine ⟨Nat.le_of_ble_eq_true rfl, fun P hP => ?_⟩
  exact h 
def wp_X4_troubleState (x1 : Int32) (σ : Sg) (Q : Int32 → Prop) : Prop :=
  ((x1 < 0 → Q (-1 : Int32)) ∧ (¬ x1 < 0 → ((x1 < (gI σ 1164 5) → ((x1 < (nI 25) → (vp_in x1 25 ∧ Q (gI σ 1165 (x1).toNatClampNeg))) ∧ (¬ x1 < (nI 25) → Q (-1 : Int32)))) ∧ (¬ x1 < (gI σ 1164 5) → Q (-1 : Int32)))))
def wl_X4_troubleState : WP := fun As σ Q => p1r As (fun z0 r0 => onB (Nat.beq z0 1164) (p1i r0 (fun x1 r1 => onB r1.isEmpty (wp_X4_troubleState x1 σ (fun x => Q (some (.int x)) σ)))))
def tb_X4_troubleState : List (Nat × Instr × Nat) := [(0, (.iload_n 1, 1)), (1, (.ifCond .lt 30, 3)), (4, (.iload_n 1, 1)), (5, (.aload_n 0, 1)), (6, (.getfield 30, 3)), (9, (.if_icmp .ge 30, 3)), (12, (.iload_n 1, 1)), (13, (.aload_n 0, 1)), (14, (.getfield 9, 3)), (17, (.arraylength, 1)), (18, (.if_icmp .ge 30, 3)), (21, (.aload_n 0, 1)), (22, (.getfield 9, 3)), (25, (.iload_n 1, 1)), (26, (.iaload, 1)), (27, (.goto 31, 3)), (30, (.iconst (-1), 1)), (31, (.ireturn, 1))]
def ce_X4_troubleState : List (Nat × (Nat × Option Nat × WP)) := []
set_option maxRecDepth 100000 in
set_option maxHeartbeats 4000000 in
theorem ct_X4_troubleState (l : Launch) : Con l wX yX4_troubleState cX4_troubleState 2 (some .int) 0 wl_X4_troubleState := by
  refine sxm_ok l (ft := lkp ft_RX4) (c32 := lkp c32_RX4) (c64 := lkp c64_RX4) (ce := lkp ce_X4_troubleState) (sf := lkp sf_RX4) (lab := lkp []) (T := tb_X4_troubleState) (by decide +kernel) ft_RX4_ok c32_RX4_ok c64_RX4_ok (fun x q h => (show ∀ q ∈ ce_X4_troubleState, ceOK l wX RX4 0 q.1 q.2.1 q.2.2.1 q.2.2.2 from fun _ h => absurd h List.not_mem_nil) (x, q) (lkp_mem h)) sf_RX4_ok (by decide +kernel) 400 (fun As σ Q h => ?_)
  replace h := p1r_e h
  obtain ⟨z0, q0, rfl, h⟩ := h
  replace h := onB_e h
  obtain ⟨e0, h⟩ := h
  have e0 := Nat.eq_of_beq_eq_true e0
  subst e0
  replace h := p1i_e h
  obtain ⟨x1, q1, rfl, h⟩ := h
  replace h := onB_e h
  obtain ⟨e9, h⟩ := h
  have e9 := List.isEmpty_iff.mp e9
  subst e9
  refine ⟨Nat.le_of_ble_eq_true rfl, fun P hP => ?_⟩
  exact h 
def wp_X4_troubleFrame (x1 : Int32) (σ : Sg) (Q : Int32 → Prop) : Prop :=
  ((x1 < 0 → Q (-1 : Int32)) ∧ (¬ x1 < 0 → ((x1 < (gI σ 1164 5) → ((x1 < (nI 25) → (vp_in x1 25 ∧ Q (gI σ 1166 (x1).toNatClampNeg))) ∧ (¬ x1 < (nI 25) → Q (-1 : Int32)))) ∧ (¬ x1 < (gI σ 1164 5) → Q (-1 : Int32)))))
def wl_X4_troubleFrame : WP := fun As σ Q => p1r As (fun z0 r0 => onB (Nat.beq z0 1164) (p1i r0 (fun x1 r1 => onB r1.isEmpty (wp_X4_troubleFrame x1 σ (fun x => Q (some (.int x)) σ)))))
def tb_X4_troubleFrame : List (Nat × Instr × Nat) := [(0, (.iload_n 1, 1)), (1, (.ifCond .lt 30, 3)), (4, (.iload_n 1, 1)), (5, (.aload_n 0, 1)), (6, (.getfield 30, 3)), (9, (.if_icmp .ge 30, 3)), (12, (.iload_n 1, 1)), (13, (.aload_n 0, 1)), (14, (.getfield 15, 3)), (17, (.arraylength, 1)), (18, (.if_icmp .ge 30, 3)), (21, (.aload_n 0, 1)), (22, (.getfield 15, 3)), (25, (.iload_n 1, 1)), (26, (.iaload, 1)), (27, (.goto 31, 3)), (30, (.iconst (-1), 1)), (31, (.ireturn, 1))]
def ce_X4_troubleFrame : List (Nat × (Nat × Option Nat × WP)) := []
set_option maxRecDepth 100000 in
set_option maxHeartbeats 4000000 in
theorem ct_X4_troubleFrame (l : Launch) : Con l wX yX4_troubleFrame cX4_troubleFrame 2 (some .int) 0 wl_X4_troubleFrame := by
  refine sxm_ok l (ft := lkp ft_RX4) (c32 := lkp c32_RX4) (c64 := lkp c64_RX4) (ce := lkp ce_X4_troubleFrame) (sf := lkp sf_RX4) (lab := lkp []) (T := tb_X4_troubleFrame) (by decide +kernel) ft_RX4_ok c32_RX4_ok c64_RX4_ok (fun x q h => (show ∀ q ∈ ce_X4_troubleFrame, ceOK l wX RX4 0 q.1 q.2.1 q.2.2.1 q.2.2.2 from fun _ h => absurd h List.not_mem_nil) (x, q) (lkp_mem h)) sf_RX4_ok (by decide +kernel) 400 (fun As σ Q h => ?_)
  replace h := p1r_e h
  obtain ⟨z0, q0, rfl, h⟩ := h
  replace h := onB_e h
  obtain ⟨e0, h⟩ := h
  have e0 := Nat.eq_of_beq_eq_true e0
  subst e0
  replace h := p1i_e h
  obtain ⟨x1, q1, rfl, h⟩ := h
  replace h := onB_e h
  obtain ⟨e9, h⟩ := h
  have e9 := List.isEmpty_iff.mp e9
  subst e9
  refine ⟨Nat.le_of_ble_eq_true rfl, fun P hP => ?_⟩
  exact h 
def wp_X4_hasWall  (σ : Sg) (Q : Int32 → Prop) : Prop :=
  (((gI σ 1164 6) = (1 : Int32) → (nz (1 : Int32) ∧ Q (1 : Int32))) ∧ (¬ (gI σ 1164 6) = (1 : Int32) → (nz (0 : Int32) ∧ Q (0 : Int32))))
def wl_X4_hasWall : WP := fun As σ Q => p1r As (fun z0 r0 => onB (Nat.beq z0 1164) (onB r0.isEmpty (wp_X4_hasWall  σ (fun x => Q (some (.int x)) σ))))
def tb_X4_hasWall : List (Nat × Instr × Nat) := [(0, (.aload_n 0, 1)), (1, (.getfield 34, 3)), (4, (.iconst 1, 1)), (5, (.if_icmp .ne 12, 3)), (8, (.iconst 1, 1)), (9, (.goto 13, 3)), (12, (.iconst 0, 1)), (13, (.ireturn, 1))]
def ce_X4_hasWall : List (Nat × (Nat × Option Nat × WP)) := []
set_option maxRecDepth 100000 in
set_option maxHeartbeats 4000000 in
theorem ct_X4_hasWall (l : Launch) : Con l wX yX4_hasWall cX4_hasWall 1 (some .boolean) 0 wl_X4_hasWall := by
  refine sxm_ok l (ft := lkp ft_RX4) (c32 := lkp c32_RX4) (c64 := lkp c64_RX4) (ce := lkp ce_X4_hasWall) (sf := lkp sf_RX4) (lab := lkp []) (T := tb_X4_hasWall) (by decide +kernel) ft_RX4_ok c32_RX4_ok c64_RX4_ok (fun x q h => (show ∀ q ∈ ce_X4_hasWall, ceOK l wX RX4 0 q.1 q.2.1 q.2.2.1 q.2.2.2 from fun _ h => absurd h List.not_mem_nil) (x, q) (lkp_mem h)) sf_RX4_ok (by decide +kernel) 400 (fun As σ Q h => ?_)
  replace h := p1r_e h
  obtain ⟨z0, q0, rfl, h⟩ := h
  replace h := onB_e h
  obtain ⟨e0, h⟩ := h
  have e0 := Nat.eq_of_beq_eq_true e0
  subst e0
  replace h := onB_e h
  obtain ⟨e9, h⟩ := h
  have e9 := List.isEmpty_iff.mp e9
  subst e9
  refine ⟨Nat.le_of_ble_eq_true rfl, fun P hP => ?_⟩
  exact h 
def wp_X4_hasWay  (σ : Sg) (Q : Int32 → Prop) : Prop :=
  (((gI σ 1164 6) = (2 : Int32) → (nz (1 : Int32) ∧ Q (1 : Int32))) ∧ (¬ (gI σ 1164 6) = (2 : Int32) → (nz (0 : Int32) ∧ Q (0 : Int32))))
def wl_X4_hasWay : WP := fun As σ Q => p1r As (fun z0 r0 => onB (Nat.beq z0 1164) (onB r0.isEmpty (wp_X4_hasWay  σ (fun x => Q (some (.int x)) σ))))
def tb_X4_hasWay : List (Nat × Instr × Nat) := [(0, (.aload_n 0, 1)), (1, (.getfield 34, 3)), (4, (.iconst 2, 1)), (5, (.if_icmp .ne 12, 3)), (8, (.iconst 1, 1)), (9, (.goto 13, 3)), (12, (.iconst 0, 1)), (13, (.ireturn, 1))]
def ce_X4_hasWay : List (Nat × (Nat × Option Nat × WP)) := []
set_option maxRecDepth 100000 in
set_option maxHeartbeats 4000000 in
theorem ct_X4_hasWay (l : Launch) : Con l wX yX4_hasWay cX4_hasWay 1 (some .boolean) 0 wl_X4_hasWay := by
  refine sxm_ok l (ft := lkp ft_RX4) (c32 := lkp c32_RX4) (c64 := lkp c64_RX4) (ce := lkp ce_X4_hasWay) (sf := lkp sf_RX4) (lab := lkp []) (T := tb_X4_hasWay) (by decide +kernel) ft_RX4_ok c32_RX4_ok c64_RX4_ok (fun x q h => (show ∀ q ∈ ce_X4_hasWay, ceOK l wX RX4 0 q.1 q.2.1 q.2.2.1 q.2.2.2 from fun _ h => absurd h List.not_mem_nil) (x, q) (lkp_mem h)) sf_RX4_ok (by decide +kernel) 400 (fun As σ Q h => ?_)
  replace h := p1r_e h
  obtain ⟨z0, q0, rfl, h⟩ := h
  replace h := onB_e h
  obtain ⟨e0, h⟩ := h
  have e0 := Nat.eq_of_beq_eq_true e0
  subst e0
  replace h := onB_e h
  obtain ⟨e9, h⟩ := h
  have e9 := List.isEmpty_iff.mp e9
  subst e9
  refine ⟨Nat.le_of_ble_eq_true rfl, fun P hP => ?_⟩
  exact h 
def wp_X5_number (x1 : Int32) (σ : Sg) (Q : Int32 → Prop) : Prop :=
  ((x1 < 0 → Q (-1 : Int32)) ∧ (¬ x1 < 0 → ((x1 < (gI σ 1172 1) → ((x1 < (80 : Int32) → (vp_in x1 80 ∧ Q (gI σ 1173 (x1).toNatClampNeg))) ∧ (¬ x1 < (80 : Int32) → Q (-1 : Int32)))) ∧ (¬ x1 < (gI σ 1172 1) → Q (-1 : Int32)))))
def wl_X5_number : WP := fun As σ Q => p1r As (fun z0 r0 => onB (Nat.beq z0 1172) (p1i r0 (fun x1 r1 => onB r1.isEmpty (wp_X5_number x1 σ (fun x => Q (some (.int x)) σ)))))
def tb_X5_number : List (Nat × Instr × Nat) := [(0, (.iload_n 1, 1)), (1, (.ifCond .lt 27, 3)), (4, (.iload_n 1, 1)), (5, (.aload_n 0, 1)), (6, (.getfield 27, 3)), (9, (.if_icmp .ge 27, 3)), (12, (.iload_n 1, 1)), (13, (.bipush 80, 2)), (15, (.if_icmp .ge 27, 3)), (18, (.aload_n 0, 1)), (19, (.getfield 9, 3)), (22, (.iload_n 1, 1)), (23, (.iaload, 1)), (24, (.goto 28, 3)), (27, (.iconst (-1), 1)), (28, (.ireturn, 1))]
def ce_X5_number : List (Nat × (Nat × Option Nat × WP)) := []
set_option maxRecDepth 100000 in
set_option maxHeartbeats 4000000 in
theorem ct_X5_number (l : Launch) : Con l wX yX5_number cX5_number 2 (some .int) 0 wl_X5_number := by
  refine sxm_ok l (ft := lkp ft_RX5) (c32 := lkp c32_RX5) (c64 := lkp c64_RX5) (ce := lkp ce_X5_number) (sf := lkp sf_RX5) (lab := lkp []) (T := tb_X5_number) (by decide +kernel) ft_RX5_ok c32_RX5_ok c64_RX5_ok (fun x q h => (show ∀ q ∈ ce_X5_number, ceOK l wX RX5 0 q.1 q.2.1 q.2.2.1 q.2.2.2 from fun _ h => absurd h List.not_mem_nil) (x, q) (lkp_mem h)) sf_RX5_ok (by decide +kernel) 400 (fun As σ Q h => ?_)
  replace h := p1r_e h
  obtain ⟨z0, q0, rfl, h⟩ := h
  replace h := onB_e h
  obtain ⟨e0, h⟩ := h
  have e0 := Nat.eq_of_beq_eq_true e0
  subst e0
  replace h := p1i_e h
  obtain ⟨x1, q1, rfl, h⟩ := h
  replace h := onB_e h
  obtain ⟨e9, h⟩ := h
  have e9 := List.isEmpty_iff.mp e9
  subst e9
  refine ⟨Nat.le_of_ble_eq_true rfl, fun P hP => ?_⟩
  exact h 
def wp_X5_hasStretch (x1 : Int32) (x2 : Int32) (σ : Sg) (Q : Int32 → Prop) : Prop :=
  ((x1 < 0 → (nz (0 : Int32) ∧ Q (0 : Int32))) ∧ (¬ x1 < 0 → ((x2 < 0 → (nz (0 : Int32) ∧ Q (0 : Int32))) ∧ (¬ x2 < 0 → (((gI σ 1172 1) < x2 → (nz (0 : Int32) ∧ Q (0 : Int32))) ∧ (¬ (gI σ 1172 1) < x2 → ((((gI σ 1172 1) - x2) < x1 → (nz (0 : Int32) ∧ Q (0 : Int32))) ∧ (¬ ((gI σ 1172 1) - x2) < x1 → (nz (1 : Int32) ∧ Q (1 : Int32))))))))))
def wl_X5_hasStretch : WP := fun As σ Q => p1r As (fun z0 r0 => onB (Nat.beq z0 1172) (p1i r0 (fun x1 r1 => p1i r1 (fun x2 r2 => onB r2.isEmpty (wp_X5_hasStretch x1 x2 σ (fun x => Q (some (.int x)) σ))))))
def tb_X5_hasStretch : List (Nat × Instr × Nat) := [(0, (.iload_n 1, 1)), (1, (.ifCond .lt 30, 3)), (4, (.iload_n 2, 1)), (5, (.ifCond .lt 30, 3)), (8, (.iload_n 2, 1)), (9, (.aload_n 0, 1)), (10, (.getfield 27, 3)), (13, (.if_icmp .gt 30, 3)), (16, (.iload_n 1, 1)), (17, (.aload_n 0, 1)), (18, (.getfield 27, 3)), (21, (.iload_n 2, 1)), (22, (.isub, 1)), (23, (.if_icmp .gt 30, 3)), (26, (.iconst 1, 1)), (27, (.goto 31, 3)), (30, (.iconst 0, 1)), (31, (.ireturn, 1))]
def ce_X5_hasStretch : List (Nat × (Nat × Option Nat × WP)) := []
set_option maxRecDepth 100000 in
set_option maxHeartbeats 4000000 in
theorem ct_X5_hasStretch (l : Launch) : Con l wX yX5_hasStretch cX5_hasStretch 3 (some .boolean) 0 wl_X5_hasStretch := by
  refine sxm_ok l (ft := lkp ft_RX5) (c32 := lkp c32_RX5) (c64 := lkp c64_RX5) (ce := lkp ce_X5_hasStretch) (sf := lkp sf_RX5) (lab := lkp []) (T := tb_X5_hasStretch) (by decide +kernel) ft_RX5_ok c32_RX5_ok c64_RX5_ok (fun x q h => (show ∀ q ∈ ce_X5_hasStretch, ceOK l wX RX5 0 q.1 q.2.1 q.2.2.1 q.2.2.2 from fun _ h => absurd h List.not_mem_nil) (x, q) (lkp_mem h)) sf_RX5_ok (by decide +kernel) 400 (fun As σ Q h => ?_)
  replace h := p1r_e h
  obtain ⟨z0, q0, rfl, h⟩ := h
  replace h := onB_e h
  obtain ⟨e0, h⟩ := h
  have e0 := Nat.eq_of_beq_eq_true e0
  subst e0
  replace h := p1i_e h
  obtain ⟨x1, q1, rfl, h⟩ := h
  replace h := p1i_e h
  obtain ⟨x2, q2, rfl, h⟩ := h
  replace h := onB_e h
  obtain ⟨e9, h⟩ := h
  have e9 := List.isEmpty_iff.mp e9
  subst e9
  refine ⟨Nat.le_of_ble_eq_true rfl, fun P hP => ?_⟩
  exact h 
def wp_X6_put (o : Nat) (x1 : Int32) (σ : Sg) (Q : Int32 → Sg → Prop) : Prop :=
  onB (isK wX o 6) ((((gI σ o 1) < 0 → (nz (0 : Int32) ∧ Q (0 : Int32) σ)) ∧ (¬ (gI σ o 1) < 0 → onB (isK wX o 6) (onB (isK wX o 6) (onB (isA wX (wR wX o 0)) ((((gI σ o 1) < (nI (wN wX (wR wX o 0))) → onB (isK wX o 6) (onB (isK wX o 6) (onB (isK wX (wR wX o 0) 20) ((vp_in (gI σ o 1) (wN wX (wR wX o 0)) ∧ onB (isK wX o 6) (onB (isK wX o 6) ((nz (1 : Int32) ∧ Q (1 : Int32) (sI (sI σ (wR wX o 0) ((gI σ o 1)).toNatClampNeg x1) o 1 ((gI (sI σ (wR wX o 0) ((gI σ o 1)).toNatClampNeg x1) o 1) + (1 : Int32))))))))))) ∧ (¬ (gI σ o 1) < (nI (wN wX (wR wX o 0))) → (nz (0 : Int32) ∧ Q (0 : Int32) σ)))))))))
def wl_X6_put : WP := fun As σ Q => p1r As (fun o r0 => p1i r0 (fun x1 r1 => onB r1.isEmpty (wp_X6_put o x1 σ (fun x τ => Q (some (.int x)) τ))))
def tb_X6_put : List (Nat × Instr × Nat) := [(0, (.aload_n 0, 1)), (1, (.getfield 21, 3)), (4, (.ifCond .lt 19, 3)), (7, (.aload_n 0, 1)), (8, (.getfield 21, 3)), (11, (.aload_n 0, 1)), (12, (.getfield 15, 3)), (15, (.arraylength, 1)), (16, (.if_icmp .lt 21, 3)), (19, (.iconst 0, 1)), (20, (.ireturn, 1)), (21, (.aload_n 0, 1)), (22, (.getfield 15, 3)), (25, (.aload_n 0, 1)), (26, (.getfield 21, 3)), (29, (.iload_n 1, 1)), (30, (.iastore, 1)), (31, (.aload_n 0, 1)), (32, (.dup, 1)), (33, (.getfield 21, 3)), (36, (.iconst 1, 1)), (37, (.iadd, 1)), (38, (.putfield 21, 3)), (41, (.iconst 1, 1)), (42, (.ireturn, 1))]
def ce_X6_put : List (Nat × (Nat × Option Nat × WP)) := []
set_option maxRecDepth 100000 in
set_option maxHeartbeats 4000000 in
theorem ct_X6_put (l : Launch) : Con l wX yX6_put cX6_put 2 (some .boolean) 0 wl_X6_put := by
  refine sxm_ok l (ft := lkp ft_RX6) (c32 := lkp c32_RX6) (c64 := lkp c64_RX6) (ce := lkp ce_X6_put) (sf := lkp sf_RX6) (lab := lkp []) (T := tb_X6_put) (by decide +kernel) ft_RX6_ok c32_RX6_ok c64_RX6_ok (fun x q h => (show ∀ q ∈ ce_X6_put, ceOK l wX RX6 0 q.1 q.2.1 q.2.2.1 q.2.2.2 from fun _ h => absurd h List.not_mem_nil) (x, q) (lkp_mem h)) sf_RX6_ok (by decide +kernel) 400 (fun As σ Q h => ?_)
  replace h := p1r_e h
  obtain ⟨o, q0, rfl, h⟩ := h
  replace h := p1i_e h
  obtain ⟨x1, q1, rfl, h⟩ := h
  replace h := onB_e h
  obtain ⟨e9, h⟩ := h
  have e9 := List.isEmpty_iff.mp e9
  subst e9
  refine ⟨Nat.le_of_ble_eq_true rfl, fun P hP => ?_⟩
  exact h 
def wp_X6_signAt (o : Nat) (x1 : Int32) (σ : Sg) (Q : Int32 → Prop) : Prop :=
  ((x1 < 0 → Q (-1 : Int32)) ∧ (¬ x1 < 0 → onB (isK wX o 6) (((x1 < (gI σ o 1) → onB (isK wX o 6) (onB (isA wX (wR wX o 0)) (((x1 < (nI (wN wX (wR wX o 0))) → onB (isK wX o 6) (onB (isK wX (wR wX o 0) 20) ((vp_in x1 (wN wX (wR wX o 0)) ∧ Q (gI σ (wR wX o 0) (x1).toNatClampNeg))))) ∧ (¬ x1 < (nI (wN wX (wR wX o 0))) → Q (-1 : Int32)))))) ∧ (¬ x1 < (gI σ o 1) → Q (-1 : Int32))))))
def wl_X6_signAt : WP := fun As σ Q => p1r As (fun o r0 => p1i r0 (fun x1 r1 => onB r1.isEmpty (wp_X6_signAt o x1 σ (fun x => Q (some (.int x)) σ))))
def tb_X6_signAt : List (Nat × Instr × Nat) := [(0, (.iload_n 1, 1)), (1, (.ifCond .lt 30, 3)), (4, (.iload_n 1, 1)), (5, (.aload_n 0, 1)), (6, (.getfield 21, 3)), (9, (.if_icmp .ge 30, 3)), (12, (.iload_n 1, 1)), (13, (.aload_n 0, 1)), (14, (.getfield 15, 3)), (17, (.arraylength, 1)), (18, (.if_icmp .ge 30, 3)), (21, (.aload_n 0, 1)), (22, (.getfield 15, 3)), (25, (.iload_n 1, 1)), (26, (.iaload, 1)), (27, (.goto 31, 3)), (30, (.iconst (-1), 1)), (31, (.ireturn, 1))]
def ce_X6_signAt : List (Nat × (Nat × Option Nat × WP)) := []
set_option maxRecDepth 100000 in
set_option maxHeartbeats 4000000 in
theorem ct_X6_signAt (l : Launch) : Con l wX yX6_signAt cX6_signAt 2 (some .int) 0 wl_X6_signAt := by
  refine sxm_ok l (ft := lkp ft_RX6) (c32 := lkp c32_RX6) (c64 := lkp c64_RX6) (ce := lkp ce_X6_signAt) (sf := lkp sf_RX6) (lab := lkp []) (T := tb_X6_signAt) (by decide +kernel) ft_RX6_ok c32_RX6_ok c64_RX6_ok (fun x q h => (show ∀ q ∈ ce_X6_signAt, ceOK l wX RX6 0 q.1 q.2.1 q.2.2.1 q.2.2.2 from fun _ h => absurd h List.not_mem_nil) (x, q) (lkp_mem h)) sf_RX6_ok (by decide +kernel) 400 (fun As σ Q h => ?_)
  replace h := p1r_e h
  obtain ⟨o, q0, rfl, h⟩ := h
  replace h := p1i_e h
  obtain ⟨x1, q1, rfl, h⟩ := h
  replace h := onB_e h
  obtain ⟨e9, h⟩ := h
  have e9 := List.isEmpty_iff.mp e9
  subst e9
  refine ⟨Nat.le_of_ble_eq_true rfl, fun P hP => ?_⟩
  exact h 
def wp_X7_has (o : Nat) (x1 : Int32) (σ : Sg) (Q : Int32 → Prop) : Prop :=
  ((x1 < 0 → (nz (0 : Int32) ∧ Q (0 : Int32))) ∧ (¬ x1 < 0 → ((x1 < (256 : Int32) → onB (isK wX o 7) ((¬ (64 : Int32) = 0 ∧ onB (isK wX (wR wX o 0) 22) ((vp_in (x1 / (64 : Int32)) (wN wX (wR wX o 0)) ∧ (¬ (64 : Int32) = 0 ∧ (((lg_cmp ((((gL σ (wR wX o 0) ((x1 / (64 : Int32))).toNatClampNeg)).toUInt64 >>> (((x1 - x1 / (64 : Int32) * (64 : Int32))).toInt64.toUInt64 &&& Int64.toUInt64 63)).toInt64 &&& (1 : Int64)) (1 : Int64)) = 0 → (nz (1 : Int32) ∧ Q (1 : Int32))) ∧ (¬ (lg_cmp ((((gL σ (wR wX o 0) ((x1 / (64 : Int32))).toNatClampNeg)).toUInt64 >>> (((x1 - x1 / (64 : Int32) * (64 : Int32))).toInt64.toUInt64 &&& Int64.toUInt64 63)).toInt64 &&& (1 : Int64)) (1 : Int64)) = 0 → (nz (0 : Int32) ∧ Q (0 : Int32)))))))))) ∧ (¬ x1 < (256 : Int32) → (nz (0 : Int32) ∧ Q (0 : Int32))))))
def wl_X7_has : WP := fun As σ Q => p1r As (fun o r0 => p1i r0 (fun x1 r1 => onB r1.isEmpty (wp_X7_has o x1 σ (fun x => Q (some (.int x)) σ))))
def tb_X7_has : List (Nat × Instr × Nat) := [(0, (.iload_n 1, 1)), (1, (.ifCond .lt 36, 3)), (4, (.iload_n 1, 1)), (5, (.sipush 256, 3)), (8, (.if_icmp .ge 36, 3)), (11, (.aload_n 0, 1)), (12, (.getfield 11, 3)), (15, (.iload_n 1, 1)), (16, (.bipush 64, 2)), (18, (.idiv, 1)), (19, (.laload, 1)), (20, (.iload_n 1, 1)), (21, (.bipush 64, 2)), (23, (.irem, 1)), (24, (.lushr, 1)), (25, (.lconst 1, 1)), (26, (.land, 1)), (27, (.lconst 1, 1)), (28, (.lcmp, 1)), (29, (.ifCond .ne 36, 3)), (32, (.iconst 1, 1)), (33, (.goto 37, 3)), (36, (.iconst 0, 1)), (37, (.ireturn, 1))]
def ce_X7_has : List (Nat × (Nat × Option Nat × WP)) := []
set_option maxRecDepth 100000 in
set_option maxHeartbeats 4000000 in
theorem ct_X7_has (l : Launch) : Con l wX yX7_has cX7_has 2 (some .boolean) 0 wl_X7_has := by
  refine sxm_ok l (ft := lkp ft_RX7) (c32 := lkp c32_RX7) (c64 := lkp c64_RX7) (ce := lkp ce_X7_has) (sf := lkp sf_RX7) (lab := lkp []) (T := tb_X7_has) (by decide +kernel) ft_RX7_ok c32_RX7_ok c64_RX7_ok (fun x q h => (show ∀ q ∈ ce_X7_has, ceOK l wX RX7 0 q.1 q.2.1 q.2.2.1 q.2.2.2 from fun _ h => absurd h List.not_mem_nil) (x, q) (lkp_mem h)) sf_RX7_ok (by decide +kernel) 400 (fun As σ Q h => ?_)
  replace h := p1r_e h
  obtain ⟨o, q0, rfl, h⟩ := h
  replace h := p1i_e h
  obtain ⟨x1, q1, rfl, h⟩ := h
  replace h := onB_e h
  obtain ⟨e9, h⟩ := h
  have e9 := List.isEmpty_iff.mp e9
  subst e9
  refine ⟨Nat.le_of_ble_eq_true rfl, fun P hP => ?_⟩
  exact h 
def wp_X7_put (o : Nat) (x1 : Int32) (σ : Sg) (Q : Sg → Prop) : Prop :=
  ((x1 < 0 → Q σ) ∧ (¬ x1 < 0 → ((x1 < (256 : Int32) → onB (isK wX o 7) ((¬ (64 : Int32) = 0 ∧ onB (isK wX (wR wX o 0) 22) ((vp_in (x1 / (64 : Int32)) (wN wX (wR wX o 0)) ∧ (¬ (64 : Int32) = 0 ∧ onB (isK wX (wR wX o 0) 22) ((vp_in (x1 / (64 : Int32)) (wN wX (wR wX o 0)) ∧ Q (sL σ (wR wX o 0) ((x1 / (64 : Int32))).toNatClampNeg ((gL σ (wR wX o 0) ((x1 / (64 : Int32))).toNatClampNeg) ||| ((1 : Int64) <<< (((x1 - x1 / (64 : Int32) * (64 : Int32))).toInt64 &&& 63)))))))))))) ∧ (¬ x1 < (256 : Int32) → Q σ))))
def wl_X7_put : WP := fun As σ Q => p1r As (fun o r0 => p1i r0 (fun x1 r1 => onB r1.isEmpty (wp_X7_put o x1 σ (fun τ => Q none τ))))
def tb_X7_put : List (Nat × Instr × Nat) := [(0, (.iload_n 1, 1)), (1, (.ifCond .lt 29, 3)), (4, (.iload_n 1, 1)), (5, (.sipush 256, 3)), (8, (.if_icmp .ge 29, 3)), (11, (.aload_n 0, 1)), (12, (.getfield 11, 3)), (15, (.iload_n 1, 1)), (16, (.bipush 64, 2)), (18, (.idiv, 1)), (19, (.dup2, 1)), (20, (.laload, 1)), (21, (.lconst 1, 1)), (22, (.iload_n 1, 1)), (23, (.bipush 64, 2)), (25, (.irem, 1)), (26, (.lshl, 1)), (27, (.lor, 1)), (28, (.lastore, 1)), (29, (.return_, 1))]
def ce_X7_put : List (Nat × (Nat × Option Nat × WP)) := []
set_option maxRecDepth 100000 in
set_option maxHeartbeats 4000000 in
theorem ct_X7_put (l : Launch) : Con l wX yX7_put cX7_put 2 none 0 wl_X7_put := by
  refine sxm_ok l (ft := lkp ft_RX7) (c32 := lkp c32_RX7) (c64 := lkp c64_RX7) (ce := lkp ce_X7_put) (sf := lkp sf_RX7) (lab := lkp []) (T := tb_X7_put) (by decide +kernel) ft_RX7_ok c32_RX7_ok c64_RX7_ok (fun x q h => (show ∀ q ∈ ce_X7_put, ceOK l wX RX7 0 q.1 q.2.1 q.2.2.1 q.2.2.2 from fun _ h => absurd h List.not_mem_nil) (x, q) (lkp_mem h)) sf_RX7_ok (by decide +kernel) 400 (fun As σ Q h => ?_)
  replace h := p1r_e h
  obtain ⟨o, q0, rfl, h⟩ := h
  replace h := p1i_e h
  obtain ⟨x1, q1, rfl, h⟩ := h
  replace h := onB_e h
  obtain ⟨e9, h⟩ := h
  have e9 := List.isEmpty_iff.mp e9
  subst e9
  refine ⟨Nat.le_of_ble_eq_true rfl, fun P hP => ?_⟩
  exact h 
def wp_X7_becomeFirst (o : Nat) (x1 : Int32) (σ : Sg) (Q : Sg → Prop) : Prop :=
  ∀ L2 : Int32 → Sg → Prop,
  (∀ (x2 : Int32) (τ : Sg), ((x2 < (4 : Int32) → (((x1 - (x2 * (64 : Int32))) < (64 : Int32) → onB (isK wX o 7) (((0 < (x1 - (x2 * (64 : Int32))) → onB (isK wX (wR wX o 0) 22) ((vp_in x2 (wN wX (wR wX o 0)) ∧ L2 (x2 + (1 : Int32)) (sL τ (wR wX o 0) (x2).toNatClampNeg (((1 : Int64) <<< (((x1 - (x2 * (64 : Int32)))).toInt64 &&& 63)) - (1 : Int64)))))) ∧ (¬ 0 < (x1 - (x2 * (64 : Int32))) → onB (isK wX (wR wX o 0) 22) ((vp_in x2 (wN wX (wR wX o 0)) ∧ L2 (x2 + (1 : Int32)) (sL τ (wR wX o 0) (x2).toNatClampNeg (0 : Int64)))))))) ∧ (¬ (x1 - (x2 * (64 : Int32))) < (64 : Int32) → onB (isK wX o 7) (onB (isK wX (wR wX o 0) 22) ((vp_in x2 (wN wX (wR wX o 0)) ∧ L2 (x2 + (1 : Int32)) (sL τ (wR wX o 0) (x2).toNatClampNeg (-1 : Int64)))))))) ∧ (¬ x2 < (4 : Int32) → Q τ)) → L2 x2 τ) →
  L2 (0 : Int32) σ
def wl_X7_becomeFirst : WP := fun As σ Q => p1r As (fun o r0 => p1i r0 (fun x1 r1 => onB r1.isEmpty (wp_X7_becomeFirst o x1 σ (fun τ => Q none τ))))
def tb_X7_becomeFirst : List (Nat × Instr × Nat) := [(0, (.iconst 0, 1)), (1, (.istore_n 2, 1)), (2, (.iload_n 2, 1)), (3, (.iconst 4, 1)), (4, (.if_icmp .ge 57, 3)), (7, (.iload_n 1, 1)), (8, (.iload_n 2, 1)), (9, (.bipush 64, 2)), (11, (.imul, 1)), (12, (.isub, 1)), (13, (.istore_n 3, 1)), (14, (.iload_n 3, 1)), (15, (.bipush 64, 2)), (17, (.if_icmp .lt 32, 3)), (20, (.aload_n 0, 1)), (21, (.getfield 11, 3)), (24, (.iload_n 2, 1)), (25, (.ldc2_w 22, 3)), (28, (.lastore, 1)), (29, (.goto 51, 3)), (32, (.aload_n 0, 1)), (33, (.getfield 11, 3)), (36, (.iload_n 2, 1)), (37, (.iload_n 3, 1)), (38, (.ifCond .le 49, 3)), (41, (.lconst 1, 1)), (42, (.iload_n 3, 1)), (43, (.lshl, 1)), (44, (.lconst 1, 1)), (45, (.lsub, 1)), (46, (.goto 50, 3)), (49, (.lconst 0, 1)), (50, (.lastore, 1)), (51, (.iinc 2 1, 3)), (54, (.goto 2, 3)), (57, (.return_, 1))]
def ce_X7_becomeFirst : List (Nat × (Nat × Option Nat × WP)) := []
set_option maxRecDepth 100000 in
set_option maxHeartbeats 4000000 in
theorem ct_X7_becomeFirst (l : Launch) : Con l wX yX7_becomeFirst cX7_becomeFirst 4 none 0 wl_X7_becomeFirst := by
  refine sxm_ok l (ft := lkp ft_RX7) (c32 := lkp c32_RX7) (c64 := lkp c64_RX7) (ce := lkp ce_X7_becomeFirst) (sf := lkp sf_RX7) (lab := lkp [(2, [0, 1, 2])]) (T := tb_X7_becomeFirst) (by decide +kernel) ft_RX7_ok c32_RX7_ok c64_RX7_ok (fun x q h => (show ∀ q ∈ ce_X7_becomeFirst, ceOK l wX RX7 0 q.1 q.2.1 q.2.2.1 q.2.2.2 from fun _ h => absurd h List.not_mem_nil) (x, q) (lkp_mem h)) sf_RX7_ok (by decide +kernel) 400 (fun As σ Q h => ?_)
  replace h := p1r_e h
  obtain ⟨o, q0, rfl, h⟩ := h
  replace h := p1i_e h
  obtain ⟨x1, q1, rfl, h⟩ := h
  replace h := onB_e h
  obtain ⟨e9, h⟩ := h
  have e9 := List.isEmpty_iff.mp e9
  subst e9
  refine ⟨Nat.le_of_ble_eq_true rfl, fun P hP => ?_⟩
  exact h (fun x2 τ => P 2 [.ref o, .int x1, .int x2] τ) (fun x2 τ hb => hP 2 [.ref o, .int x1, .int x2] τ hb)
def wp_X7_wordOfCube (x0 : Int32) (x1 : Int32) (x2 : Int32) (σ : Sg) (Q : Int64 → Prop) : Prop :=
  ∀ L7 : Int64 → Int32 → Prop,
  (∀ (x3 : Int64) (x5 : Int32), ((x5 < (8 : Int32) → ((((x0 >>> (x5 &&& 31)) &&& (1 : Int32)) = (1 : Int32) → ((x5 < (6 : Int32) → (vp_in x5 6 ∧ ((((x1 >>> (x5 &&& 31)) &&& (1 : Int32)) = (1 : Int32) → L7 (x3 &&& (onesL (x5).toNatClampNeg)) (x5 + (1 : Int32))) ∧ (¬ ((x1 >>> (x5 &&& 31)) &&& (1 : Int32)) = (1 : Int32) → L7 (x3 &&& ((onesL (x5).toNatClampNeg) ^^^ (-1 : Int64))) (x5 + (1 : Int32)))))) ∧ (¬ x5 < (6 : Int32) → ((((x1 >>> (x5 &&& 31)) &&& (1 : Int32)) = (1 : Int32) → L7 (x3 &&& (-(((x2 >>> ((x5 - (6 : Int32)) &&& 31))).toInt64 &&& (1 : Int64)))) (x5 + (1 : Int32))) ∧ (¬ ((x1 >>> (x5 &&& 31)) &&& (1 : Int32)) = (1 : Int32) → L7 (x3 &&& ((-(((x2 >>> ((x5 - (6 : Int32)) &&& 31))).toInt64 &&& (1 : Int64))) ^^^ (-1 : Int64))) (x5 + (1 : Int32))))))) ∧ (¬ ((x0 >>> (x5 &&& 31)) &&& (1 : Int32)) = (1 : Int32) → L7 x3 (x5 + (1 : Int32))))) ∧ (¬ x5 < (8 : Int32) → Q x3)) → L7 x3 x5) →
  L7 (-1 : Int64) (0 : Int32)
def wl_X7_wordOfCube : WP := fun As σ Q => p1i As (fun x0 r0 => p1i r0 (fun x1 r1 => p1i r1 (fun x2 r2 => onB r2.isEmpty (wp_X7_wordOfCube x0 x1 x2 σ (fun x => Q (some (.long x)) σ)))))
def tb_X7_wordOfCube : List (Nat × Instr × Nat) := [(0, (.ldc2_w 22, 3)), (3, (.lstore_n 3, 1)), (4, (.iconst 0, 1)), (5, (.istore 5, 2)), (7, (.iload 5, 2)), (9, (.bipush 8, 2)), (11, (.if_icmp .ge 87, 3)), (14, (.iload_n 0, 1)), (15, (.iload 5, 2)), (17, (.ishr, 1)), (18, (.iconst 1, 1)), (19, (.iand, 1)), (20, (.iconst 1, 1)), (21, (.if_icmp .ne 81, 3)), (24, (.iload 5, 2)), (26, (.getstatic 35, 3)), (29, (.arraylength, 1)), (30, (.if_icmp .ge 42, 3)), (33, (.getstatic 35, 3)), (36, (.iload 5, 2)), (38, (.laload, 1)), (39, (.goto 55, 3)), (42, (.iload_n 2, 1)), (43, (.iload 5, 2)), (45, (.getstatic 35, 3)), (48, (.arraylength, 1)), (49, (.isub, 1)), (50, (.ishr, 1)), (51, (.i2l, 1)), (52, (.lconst 1, 1)), (53, (.land, 1)), (54, (.lneg, 1)), (55, (.lstore 6, 2)), (57, (.lload_n 3, 1)), (58, (.iload_n 1, 1)), (59, (.iload 5, 2)), (61, (.ishr, 1)), (62, (.iconst 1, 1)), (63, (.iand, 1)), (64, (.iconst 1, 1)), (65, (.if_icmp .ne 73, 3)), (68, (.lload 6, 2)), (70, (.goto 79, 3)), (73, (.lload 6, 2)), (75, (.ldc2_w 22, 3)), (78, (.lxor, 1)), (79, (.land, 1)), (80, (.lstore_n 3, 1)), (81, (.iinc 5 1, 3)), (84, (.goto 7, 3)), (87, (.lload_n 3, 1)), (88, (.lreturn, 1))]
def ce_X7_wordOfCube : List (Nat × (Nat × Option Nat × WP)) := []
set_option maxRecDepth 100000 in
set_option maxHeartbeats 4000000 in
theorem ct_X7_wordOfCube (l : Launch) : Con l wX yX7_wordOfCube cX7_wordOfCube 8 (some .long) 0 wl_X7_wordOfCube := by
  refine sxm_ok l (ft := lkp ft_RX7) (c32 := lkp c32_RX7) (c64 := lkp c64_RX7) (ce := lkp ce_X7_wordOfCube) (sf := lkp sf_RX7) (lab := lkp [(7, [0, 1, 2, 3, 5])]) (T := tb_X7_wordOfCube) (by decide +kernel) ft_RX7_ok c32_RX7_ok c64_RX7_ok (fun x q h => (show ∀ q ∈ ce_X7_wordOfCube, ceOK l wX RX7 0 q.1 q.2.1 q.2.2.1 q.2.2.2 from fun _ h => absurd h List.not_mem_nil) (x, q) (lkp_mem h)) sf_RX7_ok (by decide +kernel) 400 (fun As σ Q h => ?_)
  replace h := p1i_e h
  obtain ⟨x0, q0, rfl, h⟩ := h
  replace h := p1i_e h
  obtain ⟨x1, q1, rfl, h⟩ := h
  replace h := p1i_e h
  obtain ⟨x2, q2, rfl, h⟩ := h
  replace h := onB_e h
  obtain ⟨e9, h⟩ := h
  have e9 := List.isEmpty_iff.mp e9
  subst e9
  refine ⟨Nat.le_of_ble_eq_true rfl, fun P hP => ?_⟩
  exact h (fun x3 x5 => P 7 [.int x0, .int x1, .int x2, .long x3, .int x5] σ) (fun x3 x5 hb => hP 7 [.int x0, .int x1, .int x2, .long x3, .int x5] σ hb)
def wp_X7_becomeLike (o : Nat) (x1 : Nat) (σ : Sg) (Q : Sg → Prop) : Prop :=
  ∀ L2 : Int32 → Sg → Prop,
  (∀ (x2 : Int32) (τ : Sg), ((x2 < (4 : Int32) → onB (isK wX o 7) (onB (isK wX x1 7) (onB (isK wX (wR wX x1 0) 22) ((vp_in x2 (wN wX (wR wX x1 0)) ∧ onB (isK wX (wR wX o 0) 22) ((vp_in x2 (wN wX (wR wX o 0)) ∧ L2 (x2 + (1 : Int32)) (sL τ (wR wX o 0) (x2).toNatClampNeg (gL τ (wR wX x1 0) (x2).toNatClampNeg))))))))) ∧ (¬ x2 < (4 : Int32) → Q τ)) → L2 x2 τ) →
  L2 (0 : Int32) σ
def wl_X7_becomeLike : WP := fun As σ Q => p1r As (fun o r0 => p1r r0 (fun x1 r1 => onB r1.isEmpty (wp_X7_becomeLike o x1 σ (fun τ => Q none τ))))
def tb_X7_becomeLike : List (Nat × Instr × Nat) := [(0, (.iconst 0, 1)), (1, (.istore_n 2, 1)), (2, (.iload_n 2, 1)), (3, (.iconst 4, 1)), (4, (.if_icmp .ge 25, 3)), (7, (.aload_n 0, 1)), (8, (.getfield 11, 3)), (11, (.iload_n 2, 1)), (12, (.aload_n 1, 1)), (13, (.getfield 11, 3)), (16, (.iload_n 2, 1)), (17, (.laload, 1)), (18, (.lastore, 1)), (19, (.iinc 2 1, 3)), (22, (.goto 2, 3)), (25, (.return_, 1))]
def ce_X7_becomeLike : List (Nat × (Nat × Option Nat × WP)) := []
set_option maxRecDepth 100000 in
set_option maxHeartbeats 4000000 in
theorem ct_X7_becomeLike (l : Launch) : Con l wX yX7_becomeLike cX7_becomeLike 3 none 0 wl_X7_becomeLike := by
  refine sxm_ok l (ft := lkp ft_RX7) (c32 := lkp c32_RX7) (c64 := lkp c64_RX7) (ce := lkp ce_X7_becomeLike) (sf := lkp sf_RX7) (lab := lkp [(2, [0, 1, 2])]) (T := tb_X7_becomeLike) (by decide +kernel) ft_RX7_ok c32_RX7_ok c64_RX7_ok (fun x q h => (show ∀ q ∈ ce_X7_becomeLike, ceOK l wX RX7 0 q.1 q.2.1 q.2.2.1 q.2.2.2 from fun _ h => absurd h List.not_mem_nil) (x, q) (lkp_mem h)) sf_RX7_ok (by decide +kernel) 400 (fun As σ Q h => ?_)
  replace h := p1r_e h
  obtain ⟨o, q0, rfl, h⟩ := h
  replace h := p1r_e h
  obtain ⟨x1, q1, rfl, h⟩ := h
  replace h := onB_e h
  obtain ⟨e9, h⟩ := h
  have e9 := List.isEmpty_iff.mp e9
  subst e9
  refine ⟨Nat.le_of_ble_eq_true rfl, fun P hP => ?_⟩
  exact h (fun x2 τ => P 2 [.ref o, .ref x1, .int x2] τ) (fun x2 τ hb => hP 2 [.ref o, .ref x1, .int x2] τ hb)
def wp_X7_putAll (o : Nat) (x1 : Nat) (σ : Sg) (Q : Sg → Prop) : Prop :=
  ∀ L2 : Int32 → Sg → Prop,
  (∀ (x2 : Int32) (τ : Sg), ((x2 < (4 : Int32) → onB (isK wX o 7) (onB (isK wX (wR wX o 0) 22) ((vp_in x2 (wN wX (wR wX o 0)) ∧ onB (isK wX x1 7) (onB (isK wX (wR wX x1 0) 22) ((vp_in x2 (wN wX (wR wX x1 0)) ∧ onB (isK wX (wR wX o 0) 22) ((vp_in x2 (wN wX (wR wX o 0)) ∧ L2 (x2 + (1 : Int32)) (sL τ (wR wX o 0) (x2).toNatClampNeg ((gL τ (wR wX o 0) (x2).toNatClampNeg) ||| (gL τ (wR wX x1 0) (x2).toNatClampNeg)))))))))))) ∧ (¬ x2 < (4 : Int32) → Q τ)) → L2 x2 τ) →
  L2 (0 : Int32) σ
def wl_X7_putAll : WP := fun As σ Q => p1r As (fun o r0 => p1r r0 (fun x1 r1 => onB r1.isEmpty (wp_X7_putAll o x1 σ (fun τ => Q none τ))))
def tb_X7_putAll : List (Nat × Instr × Nat) := [(0, (.iconst 0, 1)), (1, (.istore_n 2, 1)), (2, (.iload_n 2, 1)), (3, (.iconst 4, 1)), (4, (.if_icmp .ge 28, 3)), (7, (.aload_n 0, 1)), (8, (.getfield 11, 3)), (11, (.iload_n 2, 1)), (12, (.dup2, 1)), (13, (.laload, 1)), (14, (.aload_n 1, 1)), (15, (.getfield 11, 3)), (18, (.iload_n 2, 1)), (19, (.laload, 1)), (20, (.lor, 1)), (21, (.lastore, 1)), (22, (.iinc 2 1, 3)), (25, (.goto 2, 3)), (28, (.return_, 1))]
def ce_X7_putAll : List (Nat × (Nat × Option Nat × WP)) := []
set_option maxRecDepth 100000 in
set_option maxHeartbeats 4000000 in
theorem ct_X7_putAll (l : Launch) : Con l wX yX7_putAll cX7_putAll 3 none 0 wl_X7_putAll := by
  refine sxm_ok l (ft := lkp ft_RX7) (c32 := lkp c32_RX7) (c64 := lkp c64_RX7) (ce := lkp ce_X7_putAll) (sf := lkp sf_RX7) (lab := lkp [(2, [0, 1, 2])]) (T := tb_X7_putAll) (by decide +kernel) ft_RX7_ok c32_RX7_ok c64_RX7_ok (fun x q h => (show ∀ q ∈ ce_X7_putAll, ceOK l wX RX7 0 q.1 q.2.1 q.2.2.1 q.2.2.2 from fun _ h => absurd h List.not_mem_nil) (x, q) (lkp_mem h)) sf_RX7_ok (by decide +kernel) 400 (fun As σ Q h => ?_)
  replace h := p1r_e h
  obtain ⟨o, q0, rfl, h⟩ := h
  replace h := p1r_e h
  obtain ⟨x1, q1, rfl, h⟩ := h
  replace h := onB_e h
  obtain ⟨e9, h⟩ := h
  have e9 := List.isEmpty_iff.mp e9
  subst e9
  refine ⟨Nat.le_of_ble_eq_true rfl, fun P hP => ?_⟩
  exact h (fun x2 τ => P 2 [.ref o, .ref x1, .int x2] τ) (fun x2 τ hb => hP 2 [.ref o, .ref x1, .int x2] τ hb)
def wp_X7_dropAll (o : Nat) (x1 : Nat) (σ : Sg) (Q : Sg → Prop) : Prop :=
  ∀ L2 : Int32 → Sg → Prop,
  (∀ (x2 : Int32) (τ : Sg), ((x2 < (4 : Int32) → onB (isK wX o 7) (onB (isK wX (wR wX o 0) 22) ((vp_in x2 (wN wX (wR wX o 0)) ∧ onB (isK wX x1 7) (onB (isK wX (wR wX x1 0) 22) ((vp_in x2 (wN wX (wR wX x1 0)) ∧ onB (isK wX (wR wX o 0) 22) ((vp_in x2 (wN wX (wR wX o 0)) ∧ L2 (x2 + (1 : Int32)) (sL τ (wR wX o 0) (x2).toNatClampNeg ((gL τ (wR wX o 0) (x2).toNatClampNeg) &&& ((gL τ (wR wX x1 0) (x2).toNatClampNeg) ^^^ (-1 : Int64))))))))))))) ∧ (¬ x2 < (4 : Int32) → Q τ)) → L2 x2 τ) →
  L2 (0 : Int32) σ
def wl_X7_dropAll : WP := fun As σ Q => p1r As (fun o r0 => p1r r0 (fun x1 r1 => onB r1.isEmpty (wp_X7_dropAll o x1 σ (fun τ => Q none τ))))
def tb_X7_dropAll : List (Nat × Instr × Nat) := [(0, (.iconst 0, 1)), (1, (.istore_n 2, 1)), (2, (.iload_n 2, 1)), (3, (.iconst 4, 1)), (4, (.if_icmp .ge 32, 3)), (7, (.aload_n 0, 1)), (8, (.getfield 11, 3)), (11, (.iload_n 2, 1)), (12, (.dup2, 1)), (13, (.laload, 1)), (14, (.aload_n 1, 1)), (15, (.getfield 11, 3)), (18, (.iload_n 2, 1)), (19, (.laload, 1)), (20, (.ldc2_w 22, 3)), (23, (.lxor, 1)), (24, (.land, 1)), (25, (.lastore, 1)), (26, (.iinc 2 1, 3)), (29, (.goto 2, 3)), (32, (.return_, 1))]
def ce_X7_dropAll : List (Nat × (Nat × Option Nat × WP)) := []
set_option maxRecDepth 100000 in
set_option maxHeartbeats 4000000 in
theorem ct_X7_dropAll (l : Launch) : Con l wX yX7_dropAll cX7_dropAll 3 none 0 wl_X7_dropAll := by
  refine sxm_ok l (ft := lkp ft_RX7) (c32 := lkp c32_RX7) (c64 := lkp c64_RX7) (ce := lkp ce_X7_dropAll) (sf := lkp sf_RX7) (lab := lkp [(2, [0, 1, 2])]) (T := tb_X7_dropAll) (by decide +kernel) ft_RX7_ok c32_RX7_ok c64_RX7_ok (fun x q h => (show ∀ q ∈ ce_X7_dropAll, ceOK l wX RX7 0 q.1 q.2.1 q.2.2.1 q.2.2.2 from fun _ h => absurd h List.not_mem_nil) (x, q) (lkp_mem h)) sf_RX7_ok (by decide +kernel) 400 (fun As σ Q h => ?_)
  replace h := p1r_e h
  obtain ⟨o, q0, rfl, h⟩ := h
  replace h := p1r_e h
  obtain ⟨x1, q1, rfl, h⟩ := h
  replace h := onB_e h
  obtain ⟨e9, h⟩ := h
  have e9 := List.isEmpty_iff.mp e9
  subst e9
  refine ⟨Nat.le_of_ble_eq_true rfl, fun P hP => ?_⟩
  exact h (fun x2 τ => P 2 [.ref o, .ref x1, .int x2] τ) (fun x2 τ hb => hP 2 [.ref o, .ref x1, .int x2] τ hb)
def wp_X7_meets (o : Nat) (x1 : Nat) (σ : Sg) (Q : Int32 → Prop) : Prop :=
  ∀ L5 : Int64 → Int32 → Prop,
  (∀ (x2 : Int64) (x4 : Int32), ((x4 < (4 : Int32) → onB (isK wX o 7) (onB (isK wX (wR wX o 0) 22) ((vp_in x4 (wN wX (wR wX o 0)) ∧ onB (isK wX x1 7) (onB (isK wX (wR wX x1 0) 22) ((vp_in x4 (wN wX (wR wX x1 0)) ∧ L5 (x2 ||| ((gL σ (wR wX o 0) (x4).toNatClampNeg) &&& (gL σ (wR wX x1 0) (x4).toNatClampNeg))) (x4 + (1 : Int32))))))))) ∧ (¬ x4 < (4 : Int32) → (((lg_cmp x2 (0 : Int64)) = 0 → (nz (0 : Int32) ∧ Q (0 : Int32))) ∧ (¬ (lg_cmp x2 (0 : Int64)) = 0 → (nz (1 : Int32) ∧ Q (1 : Int32)))))) → L5 x2 x4) →
  L5 (0 : Int64) (0 : Int32)
def wl_X7_meets : WP := fun As σ Q => p1r As (fun o r0 => p1r r0 (fun x1 r1 => onB r1.isEmpty (wp_X7_meets o x1 σ (fun x => Q (some (.int x)) σ))))
def tb_X7_meets : List (Nat × Instr × Nat) := [(0, (.lconst 0, 1)), (1, (.lstore_n 2, 1)), (2, (.iconst 0, 1)), (3, (.istore 4, 2)), (5, (.iload 4, 2)), (7, (.iconst 4, 1)), (8, (.if_icmp .ge 35, 3)), (11, (.lload_n 2, 1)), (12, (.aload_n 0, 1)), (13, (.getfield 11, 3)), (16, (.iload 4, 2)), (18, (.laload, 1)), (19, (.aload_n 1, 1)), (20, (.getfield 11, 3)), (23, (.iload 4, 2)), (25, (.laload, 1)), (26, (.land, 1)), (27, (.lor, 1)), (28, (.lstore_n 2, 1)), (29, (.iinc 4 1, 3)), (32, (.goto 5, 3)), (35, (.lload_n 2, 1)), (36, (.lconst 0, 1)), (37, (.lcmp, 1)), (38, (.ifCond .eq 45, 3)), (41, (.iconst 1, 1)), (42, (.goto 46, 3)), (45, (.iconst 0, 1)), (46, (.ireturn, 1))]
def ce_X7_meets : List (Nat × (Nat × Option Nat × WP)) := []
set_option maxRecDepth 100000 in
set_option maxHeartbeats 4000000 in
theorem ct_X7_meets (l : Launch) : Con l wX yX7_meets cX7_meets 5 (some .boolean) 0 wl_X7_meets := by
  refine sxm_ok l (ft := lkp ft_RX7) (c32 := lkp c32_RX7) (c64 := lkp c64_RX7) (ce := lkp ce_X7_meets) (sf := lkp sf_RX7) (lab := lkp [(5, [0, 1, 2, 4])]) (T := tb_X7_meets) (by decide +kernel) ft_RX7_ok c32_RX7_ok c64_RX7_ok (fun x q h => (show ∀ q ∈ ce_X7_meets, ceOK l wX RX7 0 q.1 q.2.1 q.2.2.1 q.2.2.2 from fun _ h => absurd h List.not_mem_nil) (x, q) (lkp_mem h)) sf_RX7_ok (by decide +kernel) 400 (fun As σ Q h => ?_)
  replace h := p1r_e h
  obtain ⟨o, q0, rfl, h⟩ := h
  replace h := p1r_e h
  obtain ⟨x1, q1, rfl, h⟩ := h
  replace h := onB_e h
  obtain ⟨e9, h⟩ := h
  have e9 := List.isEmpty_iff.mp e9
  subst e9
  refine ⟨Nat.le_of_ble_eq_true rfl, fun P hP => ?_⟩
  exact h (fun x2 x4 => P 5 [.ref o, .ref x1, .long x2, .int x4] σ) (fun x2 x4 hb => hP 5 [.ref o, .ref x1, .long x2, .int x4] σ hb)
def wp_X7_isInside (o : Nat) (x1 : Nat) (σ : Sg) (Q : Int32 → Prop) : Prop :=
  ∀ L5 : Int64 → Int32 → Prop,
  (∀ (x2 : Int64) (x4 : Int32), ((x4 < (4 : Int32) → onB (isK wX o 7) (onB (isK wX (wR wX o 0) 22) ((vp_in x4 (wN wX (wR wX o 0)) ∧ onB (isK wX x1 7) (onB (isK wX (wR wX x1 0) 22) ((vp_in x4 (wN wX (wR wX x1 0)) ∧ L5 (x2 ||| ((gL σ (wR wX o 0) (x4).toNatClampNeg) &&& ((gL σ (wR wX x1 0) (x4).toNatClampNeg) ^^^ (-1 : Int64)))) (x4 + (1 : Int32))))))))) ∧ (¬ x4 < (4 : Int32) → (((lg_cmp x2 (0 : Int64)) = 0 → (nz (1 : Int32) ∧ Q (1 : Int32))) ∧ (¬ (lg_cmp x2 (0 : Int64)) = 0 → (nz (0 : Int32) ∧ Q (0 : Int32)))))) → L5 x2 x4) →
  L5 (0 : Int64) (0 : Int32)
def wl_X7_isInside : WP := fun As σ Q => p1r As (fun o r0 => p1r r0 (fun x1 r1 => onB r1.isEmpty (wp_X7_isInside o x1 σ (fun x => Q (some (.int x)) σ))))
def tb_X7_isInside : List (Nat × Instr × Nat) := [(0, (.lconst 0, 1)), (1, (.lstore_n 2, 1)), (2, (.iconst 0, 1)), (3, (.istore 4, 2)), (5, (.iload 4, 2)), (7, (.iconst 4, 1)), (8, (.if_icmp .ge 39, 3)), (11, (.lload_n 2, 1)), (12, (.aload_n 0, 1)), (13, (.getfield 11, 3)), (16, (.iload 4, 2)), (18, (.laload, 1)), (19, (.aload_n 1, 1)), (20, (.getfield 11, 3)), (23, (.iload 4, 2)), (25, (.laload, 1)), (26, (.ldc2_w 22, 3)), (29, (.lxor, 1)), (30, (.land, 1)), (31, (.lor, 1)), (32, (.lstore_n 2, 1)), (33, (.iinc 4 1, 3)), (36, (.goto 5, 3)), (39, (.lload_n 2, 1)), (40, (.lconst 0, 1)), (41, (.lcmp, 1)), (42, (.ifCond .ne 49, 3)), (45, (.iconst 1, 1)), (46, (.goto 50, 3)), (49, (.iconst 0, 1)), (50, (.ireturn, 1))]
def ce_X7_isInside : List (Nat × (Nat × Option Nat × WP)) := []
set_option maxRecDepth 100000 in
set_option maxHeartbeats 4000000 in
theorem ct_X7_isInside (l : Launch) : Con l wX yX7_isInside cX7_isInside 5 (some .boolean) 0 wl_X7_isInside := by
  refine sxm_ok l (ft := lkp ft_RX7) (c32 := lkp c32_RX7) (c64 := lkp c64_RX7) (ce := lkp ce_X7_isInside) (sf := lkp sf_RX7) (lab := lkp [(5, [0, 1, 2, 4])]) (T := tb_X7_isInside) (by decide +kernel) ft_RX7_ok c32_RX7_ok c64_RX7_ok (fun x q h => (show ∀ q ∈ ce_X7_isInside, ceOK l wX RX7 0 q.1 q.2.1 q.2.2.1 q.2.2.2 from fun _ h => absurd h List.not_mem_nil) (x, q) (lkp_mem h)) sf_RX7_ok (by decide +kernel) 400 (fun As σ Q h => ?_)
  replace h := p1r_e h
  obtain ⟨o, q0, rfl, h⟩ := h
  replace h := p1r_e h
  obtain ⟨x1, q1, rfl, h⟩ := h
  replace h := onB_e h
  obtain ⟨e9, h⟩ := h
  have e9 := List.isEmpty_iff.mp e9
  subst e9
  refine ⟨Nat.le_of_ble_eq_true rfl, fun P hP => ?_⟩
  exact h (fun x2 x4 => P 5 [.ref o, .ref x1, .long x2, .int x4] σ) (fun x2 x4 hb => hP 5 [.ref o, .ref x1, .long x2, .int x4] σ hb)
def wp_X8_from (x1 : Int32) (σ : Sg) (Q : Nat → Prop) : Prop :=
  ((x1 < 0 → Q 16) ∧ (¬ x1 < 0 → ((x1 < (256 : Int32) → (vp_in x1 256 ∧ Q (wR wX 14 (x1).toNatClampNeg))) ∧ (¬ x1 < (256 : Int32) → Q 16))))
def wl_X8_from : WP := fun As σ Q => p1r As (fun z0 r0 => onB (Nat.beq z0 13) (p1i r0 (fun x1 r1 => onB r1.isEmpty (wp_X8_from x1 σ (fun x => Q (some (.ref x)) σ)))))
def tb_X8_from : List (Nat × Instr × Nat) := [(0, (.iload_n 1, 1)), (1, (.ifCond .lt 20, 3)), (4, (.iload_n 1, 1)), (5, (.sipush 256, 3)), (8, (.if_icmp .ge 20, 3)), (11, (.aload_n 0, 1)), (12, (.getfield 11, 3)), (15, (.iload_n 1, 1)), (16, (.aaload, 1)), (17, (.goto 24, 3)), (20, (.aload_n 0, 1)), (21, (.getfield 21, 3)), (24, (.areturn, 1))]
def ce_X8_from : List (Nat × (Nat × Option Nat × WP)) := []
set_option maxRecDepth 100000 in
set_option maxHeartbeats 4000000 in
theorem ct_X8_from (l : Launch) : Con l wX yX8_from cX8_from 2 (some (.object "FrameProver$StateSet")) 0 wl_X8_from := by
  refine sxm_ok l (ft := lkp ft_RX8) (c32 := lkp c32_RX8) (c64 := lkp c64_RX8) (ce := lkp ce_X8_from) (sf := lkp sf_RX8) (lab := lkp []) (T := tb_X8_from) (by decide +kernel) ft_RX8_ok c32_RX8_ok c64_RX8_ok (fun x q h => (show ∀ q ∈ ce_X8_from, ceOK l wX RX8 0 q.1 q.2.1 q.2.2.1 q.2.2.2 from fun _ h => absurd h List.not_mem_nil) (x, q) (lkp_mem h)) sf_RX8_ok (by decide +kernel) 400 (fun As σ Q h => ?_)
  replace h := p1r_e h
  obtain ⟨z0, q0, rfl, h⟩ := h
  replace h := onB_e h
  obtain ⟨e0, h⟩ := h
  have e0 := Nat.eq_of_beq_eq_true e0
  subst e0
  replace h := p1i_e h
  obtain ⟨x1, q1, rfl, h⟩ := h
  replace h := onB_e h
  obtain ⟨e9, h⟩ := h
  have e9 := List.isEmpty_iff.mp e9
  subst e9
  refine ⟨Nat.le_of_ble_eq_true rfl, fun P hP => ?_⟩
  exact h 
def wp_X8_leadsFrom (x1 : Int32) (σ : Sg) (Q : Nat → Prop) : Prop :=
  ((x1 < 0 → Q 16) ∧ (¬ x1 < 0 → ((x1 < (256 : Int32) → (vp_in x1 256 ∧ Q (wR wX 15 (x1).toNatClampNeg))) ∧ (¬ x1 < (256 : Int32) → Q 16))))
def wl_X8_leadsFrom : WP := fun As σ Q => p1r As (fun z0 r0 => onB (Nat.beq z0 13) (p1i r0 (fun x1 r1 => onB r1.isEmpty (wp_X8_leadsFrom x1 σ (fun x => Q (some (.ref x)) σ)))))
def tb_X8_leadsFrom : List (Nat × Instr × Nat) := [(0, (.iload_n 1, 1)), (1, (.ifCond .lt 20, 3)), (4, (.iload_n 1, 1)), (5, (.sipush 256, 3)), (8, (.if_icmp .ge 20, 3)), (11, (.aload_n 0, 1)), (12, (.getfield 17, 3)), (15, (.iload_n 1, 1)), (16, (.aaload, 1)), (17, (.goto 24, 3)), (20, (.aload_n 0, 1)), (21, (.getfield 21, 3)), (24, (.areturn, 1))]
def ce_X8_leadsFrom : List (Nat × (Nat × Option Nat × WP)) := []
set_option maxRecDepth 100000 in
set_option maxHeartbeats 4000000 in
theorem ct_X8_leadsFrom (l : Launch) : Con l wX yX8_leadsFrom cX8_leadsFrom 2 (some (.object "FrameProver$StateSet")) 0 wl_X8_leadsFrom := by
  refine sxm_ok l (ft := lkp ft_RX8) (c32 := lkp c32_RX8) (c64 := lkp c64_RX8) (ce := lkp ce_X8_leadsFrom) (sf := lkp sf_RX8) (lab := lkp []) (T := tb_X8_leadsFrom) (by decide +kernel) ft_RX8_ok c32_RX8_ok c64_RX8_ok (fun x q h => (show ∀ q ∈ ce_X8_leadsFrom, ceOK l wX RX8 0 q.1 q.2.1 q.2.2.1 q.2.2.2 from fun _ h => absurd h List.not_mem_nil) (x, q) (lkp_mem h)) sf_RX8_ok (by decide +kernel) 400 (fun As σ Q h => ?_)
  replace h := p1r_e h
  obtain ⟨z0, q0, rfl, h⟩ := h
  replace h := onB_e h
  obtain ⟨e0, h⟩ := h
  have e0 := Nat.eq_of_beq_eq_true e0
  subst e0
  replace h := p1i_e h
  obtain ⟨x1, q1, rfl, h⟩ := h
  replace h := onB_e h
  obtain ⟨e9, h⟩ := h
  have e9 := List.isEmpty_iff.mp e9
  subst e9
  refine ⟨Nat.le_of_ble_eq_true rfl, fun P hP => ?_⟩
  exact h 
def wp_X9_start  (σ : Sg) (Q : Int32 → Sg → Prop) : Prop :=
  Q (gI (sI σ 0 8 (gI σ 1 13)) 0 8) (sI σ 0 8 (gI σ 1 13))
def wl_X9_start : WP := fun As σ Q => p1r As (fun z0 r0 => onB (Nat.beq z0 0) (onB r0.isEmpty (wp_X9_start  σ (fun x τ => Q (some (.int x)) τ))))
def tb_X9_start : List (Nat × Instr × Nat) := [(0, (.aload_n 0, 1)), (1, (.aload_n 0, 1)), (2, (.getfield 10, 3)), (5, (.getfield 148, 3)), (8, (.putfield 151, 3)), (11, (.aload_n 0, 1)), (12, (.getfield 151, 3)), (15, (.ireturn, 1))]
def ce_X9_start : List (Nat × (Nat × Option Nat × WP)) := []
set_option maxRecDepth 100000 in
set_option maxHeartbeats 4000000 in
theorem ct_X9_start (l : Launch) : Con l wX yX9_start cX9_start 1 (some .int) 0 wl_X9_start := by
  refine sxm_ok l (ft := lkp ft_RX9) (c32 := lkp c32_RX9) (c64 := lkp c64_RX9) (ce := lkp ce_X9_start) (sf := lkp sf_RX9) (lab := lkp []) (T := tb_X9_start) (by decide +kernel) ft_RX9_ok c32_RX9_ok c64_RX9_ok (fun x q h => (show ∀ q ∈ ce_X9_start, ceOK l wX RX9 0 q.1 q.2.1 q.2.2.1 q.2.2.2 from fun _ h => absurd h List.not_mem_nil) (x, q) (lkp_mem h)) sf_RX9_ok (by decide +kernel) 400 (fun As σ Q h => ?_)
  replace h := p1r_e h
  obtain ⟨z0, q0, rfl, h⟩ := h
  replace h := onB_e h
  obtain ⟨e0, h⟩ := h
  have e0 := Nat.eq_of_beq_eq_true e0
  subst e0
  replace h := onB_e h
  obtain ⟨e9, h⟩ := h
  have e9 := List.isEmpty_iff.mp e9
  subst e9
  refine ⟨Nat.le_of_ble_eq_true rfl, fun P hP => ?_⟩
  exact h 
def wp_X9_frames  (σ : Sg) (Q : Int32 → Prop) : Prop :=
  Q (gI σ 1164 7)
def wl_X9_frames : WP := fun As σ Q => p1r As (fun z0 r0 => onB (Nat.beq z0 0) (onB r0.isEmpty (wp_X9_frames  σ (fun x => Q (some (.int x)) σ))))
def tb_X9_frames : List (Nat × Instr × Nat) := [(0, (.aload_n 0, 1)), (1, (.getfield 39, 3)), (4, (.getfield 184, 3)), (7, (.ireturn, 1))]
def ce_X9_frames : List (Nat × (Nat × Option Nat × WP)) := []
set_option maxRecDepth 100000 in
set_option maxHeartbeats 4000000 in
theorem ct_X9_frames (l : Launch) : Con l wX yX9_frames cX9_frames 1 (some .int) 0 wl_X9_frames := by
  refine sxm_ok l (ft := lkp ft_RX9) (c32 := lkp c32_RX9) (c64 := lkp c64_RX9) (ce := lkp ce_X9_frames) (sf := lkp sf_RX9) (lab := lkp []) (T := tb_X9_frames) (by decide +kernel) ft_RX9_ok c32_RX9_ok c64_RX9_ok (fun x q h => (show ∀ q ∈ ce_X9_frames, ceOK l wX RX9 0 q.1 q.2.1 q.2.2.1 q.2.2.2 from fun _ h => absurd h List.not_mem_nil) (x, q) (lkp_mem h)) sf_RX9_ok (by decide +kernel) 400 (fun As σ Q h => ?_)
  replace h := p1r_e h
  obtain ⟨z0, q0, rfl, h⟩ := h
  replace h := onB_e h
  obtain ⟨e0, h⟩ := h
  have e0 := Nat.eq_of_beq_eq_true e0
  subst e0
  replace h := onB_e h
  obtain ⟨e9, h⟩ := h
  have e9 := List.isEmpty_iff.mp e9
  subst e9
  refine ⟨Nat.le_of_ble_eq_true rfl, fun P hP => ?_⟩
  exact h 
def wp_X9_tear  (σ : Sg) (Q : Int32 → Sg → Prop) : Prop :=
  (((gI σ 1172 2) = 0 → (nz (0 : Int32) ∧ Q (0 : Int32) (sI σ 1172 2 (0 : Int32)))) ∧ (¬ (gI σ 1172 2) = 0 → (nz (0 : Int32) ∧ Q (1 : Int32) (sI σ 1172 2 (0 : Int32)))))
def wl_X9_tear : WP := fun As σ Q => p1r As (fun z0 r0 => onB (Nat.beq z0 0) (onB r0.isEmpty (wp_X9_tear  σ (fun x τ => Q (some (.int x)) τ))))
def tb_X9_tear : List (Nat × Instr × Nat) := [(0, (.aload_n 0, 1)), (1, (.getfield 64, 3)), (4, (.getfield 313, 3)), (7, (.ifCond .eq 14, 3)), (10, (.iconst 1, 1)), (11, (.goto 15, 3)), (14, (.iconst 0, 1)), (15, (.istore_n 1, 1)), (16, (.aload_n 0, 1)), (17, (.getfield 64, 3)), (20, (.iconst 0, 1)), (21, (.putfield 313, 3)), (24, (.iload_n 1, 1)), (25, (.ireturn, 1))]
def ce_X9_tear : List (Nat × (Nat × Option Nat × WP)) := []
set_option maxRecDepth 100000 in
set_option maxHeartbeats 4000000 in
theorem ct_X9_tear (l : Launch) : Con l wX yX9_tear cX9_tear 2 (some .int) 0 wl_X9_tear := by
  refine sxm_ok l (ft := lkp ft_RX9) (c32 := lkp c32_RX9) (c64 := lkp c64_RX9) (ce := lkp ce_X9_tear) (sf := lkp sf_RX9) (lab := lkp []) (T := tb_X9_tear) (by decide +kernel) ft_RX9_ok c32_RX9_ok c64_RX9_ok (fun x q h => (show ∀ q ∈ ce_X9_tear, ceOK l wX RX9 0 q.1 q.2.1 q.2.2.1 q.2.2.2 from fun _ h => absurd h List.not_mem_nil) (x, q) (lkp_mem h)) sf_RX9_ok (by decide +kernel) 400 (fun As σ Q h => ?_)
  replace h := p1r_e h
  obtain ⟨z0, q0, rfl, h⟩ := h
  replace h := onB_e h
  obtain ⟨e0, h⟩ := h
  have e0 := Nat.eq_of_beq_eq_true e0
  subst e0
  replace h := onB_e h
  obtain ⟨e9, h⟩ := h
  have e9 := List.isEmpty_iff.mp e9
  subst e9
  refine ⟨Nat.le_of_ble_eq_true rfl, fun P hP => ?_⟩
  exact h 
def wp_X9_refuse (x1 : Int32) (σ : Sg) (Q : Int32 → Sg → Prop) : Prop :=
  (((-2 : Int32) < x1 → Q x1 σ) ∧ (¬ (-2 : Int32) < x1 → ((x1 < (-8 : Int32) → Q x1 σ) ∧ (¬ x1 < (-8 : Int32) → (vp_in (-x1) 9 ∧ (vp_in (-x1) 9 ∧ Q x1 (sI σ 1174 ((-x1)).toNatClampNeg ((gI σ 1174 ((-x1)).toNatClampNeg) + (1 : Int32)))))))))
def wl_X9_refuse : WP := fun As σ Q => p1r As (fun z0 r0 => onB (Nat.beq z0 0) (p1i r0 (fun x1 r1 => onB r1.isEmpty (wp_X9_refuse x1 σ (fun x τ => Q (some (.int x)) τ)))))
def tb_X9_refuse : List (Nat × Instr × Nat) := [(0, (.iload_n 1, 1)), (1, (.bipush (-2), 2)), (3, (.if_icmp .gt 23, 3)), (6, (.iload_n 1, 1)), (7, (.bipush (-8), 2)), (9, (.if_icmp .lt 23, 3)), (12, (.aload_n 0, 1)), (13, (.getfield 68, 3)), (16, (.iload_n 1, 1)), (17, (.ineg, 1)), (18, (.dup2, 1)), (19, (.iaload, 1)), (20, (.iconst 1, 1)), (21, (.iadd, 1)), (22, (.iastore, 1)), (23, (.iload_n 1, 1)), (24, (.ireturn, 1))]
def ce_X9_refuse : List (Nat × (Nat × Option Nat × WP)) := []
set_option maxRecDepth 100000 in
set_option maxHeartbeats 4000000 in
theorem ct_X9_refuse (l : Launch) : Con l wX yX9_refuse cX9_refuse 2 (some .int) 0 wl_X9_refuse := by
  refine sxm_ok l (ft := lkp ft_RX9) (c32 := lkp c32_RX9) (c64 := lkp c64_RX9) (ce := lkp ce_X9_refuse) (sf := lkp sf_RX9) (lab := lkp []) (T := tb_X9_refuse) (by decide +kernel) ft_RX9_ok c32_RX9_ok c64_RX9_ok (fun x q h => (show ∀ q ∈ ce_X9_refuse, ceOK l wX RX9 0 q.1 q.2.1 q.2.2.1 q.2.2.2 from fun _ h => absurd h List.not_mem_nil) (x, q) (lkp_mem h)) sf_RX9_ok (by decide +kernel) 400 (fun As σ Q h => ?_)
  replace h := p1r_e h
  obtain ⟨z0, q0, rfl, h⟩ := h
  replace h := onB_e h
  obtain ⟨e0, h⟩ := h
  have e0 := Nat.eq_of_beq_eq_true e0
  subst e0
  replace h := p1i_e h
  obtain ⟨x1, q1, rfl, h⟩ := h
  replace h := onB_e h
  obtain ⟨e9, h⟩ := h
  have e9 := List.isEmpty_iff.mp e9
  subst e9
  refine ⟨Nat.le_of_ble_eq_true rfl, fun P hP => ?_⟩
  exact h 
def wp_X9_isLaterFrame (x0 : Int32) (σ : Sg) (Q : Int32 → Prop) : Prop :=
  ((x0 < (1 : Int32) → (nz (0 : Int32) ∧ Q (0 : Int32))) ∧ (¬ x0 < (1 : Int32) → (((24 : Int32) < x0 → (nz (0 : Int32) ∧ Q (0 : Int32))) ∧ (¬ (24 : Int32) < x0 → (nz (1 : Int32) ∧ Q (1 : Int32))))))
def wl_X9_isLaterFrame : WP := fun As σ Q => p1i As (fun x0 r0 => onB r0.isEmpty (wp_X9_isLaterFrame x0 σ (fun x => Q (some (.int x)) σ)))
def tb_X9_isLaterFrame : List (Nat × Instr × Nat) := [(0, (.iload_n 0, 1)), (1, (.iconst 1, 1)), (2, (.if_icmp .lt 15, 3)), (5, (.iload_n 0, 1)), (6, (.bipush 24, 2)), (8, (.if_icmp .gt 15, 3)), (11, (.iconst 1, 1)), (12, (.goto 16, 3)), (15, (.iconst 0, 1)), (16, (.ireturn, 1))]
def ce_X9_isLaterFrame : List (Nat × (Nat × Option Nat × WP)) := []
set_option maxRecDepth 100000 in
set_option maxHeartbeats 4000000 in
theorem ct_X9_isLaterFrame (l : Launch) : Con l wX yX9_isLaterFrame cX9_isLaterFrame 1 (some .boolean) 0 wl_X9_isLaterFrame := by
  refine sxm_ok l (ft := lkp ft_RX9) (c32 := lkp c32_RX9) (c64 := lkp c64_RX9) (ce := lkp ce_X9_isLaterFrame) (sf := lkp sf_RX9) (lab := lkp []) (T := tb_X9_isLaterFrame) (by decide +kernel) ft_RX9_ok c32_RX9_ok c64_RX9_ok (fun x q h => (show ∀ q ∈ ce_X9_isLaterFrame, ceOK l wX RX9 0 q.1 q.2.1 q.2.2.1 q.2.2.2 from fun _ h => absurd h List.not_mem_nil) (x, q) (lkp_mem h)) sf_RX9_ok (by decide +kernel) 400 (fun As σ Q h => ?_)
  replace h := p1i_e h
  obtain ⟨x0, q0, rfl, h⟩ := h
  replace h := onB_e h
  obtain ⟨e9, h⟩ := h
  have e9 := List.isEmpty_iff.mp e9
  subst e9
  refine ⟨Nat.le_of_ble_eq_true rfl, fun P hP => ?_⟩
  exact h 
def wp_X9_cubeOf (x0 : Int32) (x1 : Int32) (σ : Sg) (Q : Int32 → Prop) : Prop :=
  Q ((x0 <<< ((8 : Int32) &&& 31)) ||| x1)
def wl_X9_cubeOf : WP := fun As σ Q => p1i As (fun x0 r0 => p1i r0 (fun x1 r1 => onB r1.isEmpty (wp_X9_cubeOf x0 x1 σ (fun x => Q (some (.int x)) σ))))
def tb_X9_cubeOf : List (Nat × Instr × Nat) := [(0, (.iload_n 0, 1)), (1, (.bipush 8, 2)), (3, (.ishl, 1)), (4, (.iload_n 1, 1)), (5, (.ior, 1)), (6, (.ireturn, 1))]
def ce_X9_cubeOf : List (Nat × (Nat × Option Nat × WP)) := []
set_option maxRecDepth 100000 in
set_option maxHeartbeats 4000000 in
theorem ct_X9_cubeOf (l : Launch) : Con l wX yX9_cubeOf cX9_cubeOf 2 (some .int) 0 wl_X9_cubeOf := by
  refine sxm_ok l (ft := lkp ft_RX9) (c32 := lkp c32_RX9) (c64 := lkp c64_RX9) (ce := lkp ce_X9_cubeOf) (sf := lkp sf_RX9) (lab := lkp []) (T := tb_X9_cubeOf) (by decide +kernel) ft_RX9_ok c32_RX9_ok c64_RX9_ok (fun x q h => (show ∀ q ∈ ce_X9_cubeOf, ceOK l wX RX9 0 q.1 q.2.1 q.2.2.1 q.2.2.2 from fun _ h => absurd h List.not_mem_nil) (x, q) (lkp_mem h)) sf_RX9_ok (by decide +kernel) 400 (fun As σ Q h => ?_)
  replace h := p1i_e h
  obtain ⟨x0, q0, rfl, h⟩ := h
  replace h := p1i_e h
  obtain ⟨x1, q1, rfl, h⟩ := h
  replace h := onB_e h
  obtain ⟨e9, h⟩ := h
  have e9 := List.isEmpty_iff.mp e9
  subst e9
  refine ⟨Nat.le_of_ble_eq_true rfl, fun P hP => ?_⟩
  exact h 
def wp_X9_maskOf (x0 : Int32) (σ : Sg) (Q : Int32 → Prop) : Prop :=
  Q (x0 >>> ((8 : Int32) &&& 31))
def wl_X9_maskOf : WP := fun As σ Q => p1i As (fun x0 r0 => onB r0.isEmpty (wp_X9_maskOf x0 σ (fun x => Q (some (.int x)) σ)))
def tb_X9_maskOf : List (Nat × Instr × Nat) := [(0, (.iload_n 0, 1)), (1, (.bipush 8, 2)), (3, (.ishr, 1)), (4, (.ireturn, 1))]
def ce_X9_maskOf : List (Nat × (Nat × Option Nat × WP)) := []
set_option maxRecDepth 100000 in
set_option maxHeartbeats 4000000 in
theorem ct_X9_maskOf (l : Launch) : Con l wX yX9_maskOf cX9_maskOf 1 (some .int) 0 wl_X9_maskOf := by
  refine sxm_ok l (ft := lkp ft_RX9) (c32 := lkp c32_RX9) (c64 := lkp c64_RX9) (ce := lkp ce_X9_maskOf) (sf := lkp sf_RX9) (lab := lkp []) (T := tb_X9_maskOf) (by decide +kernel) ft_RX9_ok c32_RX9_ok c64_RX9_ok (fun x q h => (show ∀ q ∈ ce_X9_maskOf, ceOK l wX RX9 0 q.1 q.2.1 q.2.2.1 q.2.2.2 from fun _ h => absurd h List.not_mem_nil) (x, q) (lkp_mem h)) sf_RX9_ok (by decide +kernel) 400 (fun As σ Q h => ?_)
  replace h := p1i_e h
  obtain ⟨x0, q0, rfl, h⟩ := h
  replace h := onB_e h
  obtain ⟨e9, h⟩ := h
  have e9 := List.isEmpty_iff.mp e9
  subst e9
  refine ⟨Nat.le_of_ble_eq_true rfl, fun P hP => ?_⟩
  exact h 
def wp_X9_valuesOf (x0 : Int32) (σ : Sg) (Q : Int32 → Prop) : Prop :=
  Q (x0 &&& (255 : Int32))
def wl_X9_valuesOf : WP := fun As σ Q => p1i As (fun x0 r0 => onB r0.isEmpty (wp_X9_valuesOf x0 σ (fun x => Q (some (.int x)) σ)))
def tb_X9_valuesOf : List (Nat × Instr × Nat) := [(0, (.iload_n 0, 1)), (1, (.sipush 255, 3)), (4, (.iand, 1)), (5, (.ireturn, 1))]
def ce_X9_valuesOf : List (Nat × (Nat × Option Nat × WP)) := []
set_option maxRecDepth 100000 in
set_option maxHeartbeats 4000000 in
theorem ct_X9_valuesOf (l : Launch) : Con l wX yX9_valuesOf cX9_valuesOf 1 (some .int) 0 wl_X9_valuesOf := by
  refine sxm_ok l (ft := lkp ft_RX9) (c32 := lkp c32_RX9) (c64 := lkp c64_RX9) (ce := lkp ce_X9_valuesOf) (sf := lkp sf_RX9) (lab := lkp []) (T := tb_X9_valuesOf) (by decide +kernel) ft_RX9_ok c32_RX9_ok c64_RX9_ok (fun x q h => (show ∀ q ∈ ce_X9_valuesOf, ceOK l wX RX9 0 q.1 q.2.1 q.2.2.1 q.2.2.2 from fun _ h => absurd h List.not_mem_nil) (x, q) (lkp_mem h)) sf_RX9_ok (by decide +kernel) 400 (fun As σ Q h => ?_)
  replace h := p1i_e h
  obtain ⟨x0, q0, rfl, h⟩ := h
  replace h := onB_e h
  obtain ⟨e9, h⟩ := h
  have e9 := List.isEmpty_iff.mp e9
  subst e9
  refine ⟨Nat.le_of_ble_eq_true rfl, fun P hP => ?_⟩
  exact h 
def wp_X0_restart (o : Nat) (x1 : Int32) (σ : Sg) (Q : Sg → Prop) : Prop :=
  onB (isK wX o 0) (onB (isK wX o 0) (onB (isK wX o 0) (onB (isK wX (wR wX o 1) 7) (wp_X7_becomeFirst (wR wX o 1) x1 (sI (sI σ o 2 (0 : Int32)) o 3 x1) (fun s1 => Q s1)))))
def wl_X0_restart : WP := fun As σ Q => p1r As (fun o r0 => p1i r0 (fun x1 r1 => onB r1.isEmpty (wp_X0_restart o x1 σ (fun τ => Q none τ))))
def tb_X0_restart : List (Nat × Instr × Nat) := [(0, (.aload_n 0, 1)), (1, (.iconst 0, 1)), (2, (.putfield 26, 3)), (5, (.aload_n 0, 1)), (6, (.iload_n 1, 1)), (7, (.putfield 30, 3)), (10, (.aload_n 0, 1)), (11, (.getfield 10, 3)), (14, (.iload_n 1, 1)), (15, (.invokevirtual 33, 3)), (18, (.return_, 1))]
def ce_X0_restart : List (Nat × (Nat × Option Nat × WP)) := [(33, (2, some 7, wl_X7_becomeFirst))]
set_option maxRecDepth 100000 in
set_option maxHeartbeats 4000000 in
theorem ct_X0_restart (l : Launch) : Con l wX yX0_restart cX0_restart 2 none 1 wl_X0_restart := by
  refine sxm_ok l (ft := lkp ft_RX0) (c32 := lkp c32_RX0) (c64 := lkp c64_RX0) (ce := lkp ce_X0_restart) (sf := lkp sf_RX0) (lab := lkp []) (T := tb_X0_restart) (by decide +kernel) ft_RX0_ok c32_RX0_ok c64_RX0_ok (fun x q h => (show ∀ q ∈ ce_X0_restart, ceOK l wX RX0 1 q.1 q.2.1 q.2.2.1 q.2.2.2 from List.forall_mem_cons.mpr ⟨Or.inr (Or.inr (Or.inr ⟨yX7_becomeFirst, cX7_becomeFirst, 4, none, 0, ct_X7_becomeFirst l, by decide, by decide, mi_X7_becomeFirst.1, mi_X7_becomeFirst.2, ml_RX0_33, mv_X7_becomeFirst.1, mv_X7_becomeFirst.2, ⟨_, _, rfl⟩, by decide, by decide +kernel⟩)), fun _ h => absurd h List.not_mem_nil⟩) (x, q) (lkp_mem h)) sf_RX0_ok (by decide +kernel) 400 (fun As σ Q h => ?_)
  replace h := p1r_e h
  obtain ⟨o, q0, rfl, h⟩ := h
  replace h := p1i_e h
  obtain ⟨x1, q1, rfl, h⟩ := h
  replace h := onB_e h
  obtain ⟨e9, h⟩ := h
  have e9 := List.isEmpty_iff.mp e9
  subst e9
  refine ⟨Nat.le_of_ble_eq_true rfl, fun P hP => ?_⟩
  exact h 
def wp_X0_cubeAt (o : Nat) (x1 : Int32) (σ : Sg) (Q : Int32 → Prop) : Prop :=
  onB (isK wX o 0) (wp_X0_hasIndex o x1 σ (fun r1 => ((r1 = 0 → Q (0 : Int32)) ∧ (¬ r1 = 0 → onB (isK wX o 0) (onB (isK wX (wR wX o 0) 20) ((vp_in x1 (wN wX (wR wX o 0)) ∧ Q (gI σ (wR wX o 0) (x1).toNatClampNeg))))))))
def wl_X0_cubeAt : WP := fun As σ Q => p1r As (fun o r0 => p1i r0 (fun x1 r1 => onB r1.isEmpty (wp_X0_cubeAt o x1 σ (fun x => Q (some (.int x)) σ))))
def tb_X0_cubeAt : List (Nat × Instr × Nat) := [(0, (.aload_n 0, 1)), (1, (.iload_n 1, 1)), (2, (.invokevirtual 37, 3)), (5, (.ifCond .eq 17, 3)), (8, (.aload_n 0, 1)), (9, (.getfield 22, 3)), (12, (.iload_n 1, 1)), (13, (.iaload, 1)), (14, (.goto 18, 3)), (17, (.iconst 0, 1)), (18, (.ireturn, 1))]
def ce_X0_cubeAt : List (Nat × (Nat × Option Nat × WP)) := [(37, (2, some 0, wl_X0_hasIndex))]
set_option maxRecDepth 100000 in
set_option maxHeartbeats 4000000 in
theorem ct_X0_cubeAt (l : Launch) : Con l wX yX0_cubeAt cX0_cubeAt 2 (some .int) 1 wl_X0_cubeAt := by
  refine sxm_ok l (ft := lkp ft_RX0) (c32 := lkp c32_RX0) (c64 := lkp c64_RX0) (ce := lkp ce_X0_cubeAt) (sf := lkp sf_RX0) (lab := lkp []) (T := tb_X0_cubeAt) (by decide +kernel) ft_RX0_ok c32_RX0_ok c64_RX0_ok (fun x q h => (show ∀ q ∈ ce_X0_cubeAt, ceOK l wX RX0 1 q.1 q.2.1 q.2.2.1 q.2.2.2 from List.forall_mem_cons.mpr ⟨Or.inr (Or.inr (Or.inr ⟨yX0_hasIndex, cX0_hasIndex, 2, (some .boolean), 0, ct_X0_hasIndex l, by decide, by decide, mi_X0_hasIndex.1, mi_X0_hasIndex.2, ml_RX0_37, mv_X0_hasIndex.1, mv_X0_hasIndex.2, ⟨_, _, rfl⟩, by decide, by decide +kernel⟩)), fun _ h => absurd h List.not_mem_nil⟩) (x, q) (lkp_mem h)) sf_RX0_ok (by decide +kernel) 400 (fun As σ Q h => ?_)
  replace h := p1r_e h
  obtain ⟨o, q0, rfl, h⟩ := h
  replace h := p1i_e h
  obtain ⟨x1, q1, rfl, h⟩ := h
  replace h := onB_e h
  obtain ⟨e9, h⟩ := h
  have e9 := List.isEmpty_iff.mp e9
  subst e9
  refine ⟨Nat.le_of_ble_eq_true rfl, fun P hP => ?_⟩
  exact h 
def wp_X2_leastThatLeadsOut  (σ : Sg) (Q : Int32 → Prop) : Prop :=
  ∀ L2 : Int32 → Prop,
  (∀ (x1 : Int32), wp_X3_states σ (fun r1 => ((x1 < r1 → wp_X7_has 1168 x1 σ (fun r2 => ((r2 = 0 → L2 (x1 + (1 : Int32))) ∧ (¬ r2 = 0 → wp_X8_from x1 σ (fun r3 => onB (isK wX r3 7) (wp_X7_isInside r3 1168 σ (fun r4 => ((r4 = 0 → Q x1) ∧ (¬ r4 = 0 → L2 (x1 + (1 : Int32))))))))))) ∧ (¬ x1 < r1 → Q (-1 : Int32)))) → L2 x1) →
  L2 (0 : Int32)
def wl_X2_leastThatLeadsOut : WP := fun As σ Q => p1r As (fun z0 r0 => onB (Nat.beq z0 1171) (onB r0.isEmpty (wp_X2_leastThatLeadsOut  σ (fun x => Q (some (.int x)) σ))))
def tb_X2_leastThatLeadsOut : List (Nat × Instr × Nat) := [(0, (.iconst 0, 1)), (1, (.istore_n 1, 1)), (2, (.iload_n 1, 1)), (3, (.aload_n 0, 1)), (4, (.getfield 18, 3)), (7, (.invokevirtual 60, 3)), (10, (.if_icmp .ge 56, 3)), (13, (.aload_n 0, 1)), (14, (.getfield 26, 3)), (17, (.getfield 30, 3)), (20, (.iload_n 1, 1)), (21, (.invokevirtual 41, 3)), (24, (.ifCond .eq 50, 3)), (27, (.aload_n 0, 1)), (28, (.getfield 22, 3)), (31, (.iload_n 1, 1)), (32, (.invokevirtual 63, 3)), (35, (.aload_n 0, 1)), (36, (.getfield 26, 3)), (39, (.getfield 30, 3)), (42, (.invokevirtual 67, 3)), (45, (.ifCond .ne 50, 3)), (48, (.iload_n 1, 1)), (49, (.ireturn, 1)), (50, (.iinc 1 1, 3)), (53, (.goto 2, 3)), (56, (.iconst (-1), 1)), (57, (.ireturn, 1))]
def ce_X2_leastThatLeadsOut : List (Nat × (Nat × Option Nat × WP)) := [(60, (1, some 3, wl_X3_states)), (41, (2, some 7, wl_X7_has)), (63, (2, some 8, wl_X8_from)), (67, (2, some 7, wl_X7_isInside))]
set_option maxRecDepth 100000 in
set_option maxHeartbeats 4000000 in
theorem ct_X2_leastThatLeadsOut (l : Launch) : Con l wX yX2_leastThatLeadsOut cX2_leastThatLeadsOut 2 (some .int) 1 wl_X2_leastThatLeadsOut := by
  refine sxm_ok l (ft := lkp ft_RX2) (c32 := lkp c32_RX2) (c64 := lkp c64_RX2) (ce := lkp ce_X2_leastThatLeadsOut) (sf := lkp sf_RX2) (lab := lkp [(2, [0, 1])]) (T := tb_X2_leastThatLeadsOut) (by decide +kernel) ft_RX2_ok c32_RX2_ok c64_RX2_ok (fun x q h => (show ∀ q ∈ ce_X2_leastThatLeadsOut, ceOK l wX RX2 1 q.1 q.2.1 q.2.2.1 q.2.2.2 from List.forall_mem_cons.mpr ⟨Or.inr (Or.inr (Or.inr ⟨yX3_states, cX3_states, 1, (some .int), 0, ct_X3_states l, by decide, by decide, mi_X3_states.1, mi_X3_states.2, ml_RX2_60, mv_X3_states.1, mv_X3_states.2, ⟨_, _, rfl⟩, by decide, by decide +kernel⟩)), List.forall_mem_cons.mpr ⟨Or.inr (Or.inr (Or.inr ⟨yX7_has, cX7_has, 2, (some .boolean), 0, ct_X7_has l, by decide, by decide, mi_X7_has.1, mi_X7_has.2, ml_RX2_41, mv_X7_has.1, mv_X7_has.2, ⟨_, _, rfl⟩, by decide, by decide +kernel⟩)), List.forall_mem_cons.mpr ⟨Or.inr (Or.inr (Or.inr ⟨yX8_from, cX8_from, 2, (some (.object "FrameProver$StateSet")), 0, ct_X8_from l, by decide, by decide, mi_X8_from.1, mi_X8_from.2, ml_RX2_63, mv_X8_from.1, mv_X8_from.2, ⟨_, _, rfl⟩, by decide, by decide +kernel⟩)), List.forall_mem_cons.mpr ⟨Or.inr (Or.inr (Or.inr ⟨yX7_isInside, cX7_isInside, 5, (some .boolean), 0, ct_X7_isInside l, by decide, by decide, mi_X7_isInside.1, mi_X7_isInside.2, ml_RX2_67, mv_X7_isInside.1, mv_X7_isInside.2, ⟨_, _, rfl⟩, by decide, by decide +kernel⟩)), fun _ h => absurd h List.not_mem_nil⟩⟩⟩⟩) (x, q) (lkp_mem h)) sf_RX2_ok (by decide +kernel) 400 (fun As σ Q h => ?_)
  replace h := p1r_e h
  obtain ⟨z0, q0, rfl, h⟩ := h
  replace h := onB_e h
  obtain ⟨e0, h⟩ := h
  have e0 := Nat.eq_of_beq_eq_true e0
  subst e0
  replace h := onB_e h
  obtain ⟨e9, h⟩ := h
  have e9 := List.isEmpty_iff.mp e9
  subst e9
  refine ⟨Nat.le_of_ble_eq_true rfl, fun P hP => ?_⟩
  exact h (fun x1 => P 2 [.ref 1171, .int x1] σ) (fun x1 hb => hP 2 [.ref 1171, .int x1] σ hb)
def wp_X3_addBit (x1 : Int32) (x2 : Int32) (σ : Sg) (Q : Int32 → Sg → Prop) : Prop :=
  ((x2 = 0 → wp_X3_addPart (1 : Int32) ((2 : Int32) * (gI σ 1 10)) (-1 : Int32) σ (fun r1 s2 => wp_X3_hasPart r1 s2 (fun r3 => ((r3 = 0 → Q (-1 : Int32) s2) ∧ (¬ r3 = 0 → (((gI s2 1 11) < 0 → Q (-1 : Int32) s2) ∧ (¬ (gI s2 1 11) < 0 → (((gI s2 1 11) < (8 : Int32) → (vp_in r1 80 ∧ (vp_in (gI (sI s2 5 (r1).toNatClampNeg (gI s2 1 11)) 1 11) 8 ∧ ((x1 = 0 → Q r1 (sI (sI (sI s2 5 (r1).toNatClampNeg (gI s2 1 11)) 6 ((gI (sI s2 5 (r1).toNatClampNeg (gI s2 1 11)) 1 11)).toNatClampNeg r1) 1 11 ((gI (sI (sI s2 5 (r1).toNatClampNeg (gI s2 1 11)) 6 ((gI (sI s2 5 (r1).toNatClampNeg (gI s2 1 11)) 1 11)).toNatClampNeg r1) 1 11) + (1 : Int32)))) ∧ (¬ x1 = 0 → Q r1 (sI (sI (sI (sI s2 5 (r1).toNatClampNeg (gI s2 1 11)) 6 ((gI (sI s2 5 (r1).toNatClampNeg (gI s2 1 11)) 1 11)).toNatClampNeg r1) 1 13 ((gI (sI (sI s2 5 (r1).toNatClampNeg (gI s2 1 11)) 6 ((gI (sI s2 5 (r1).toNatClampNeg (gI s2 1 11)) 1 11)).toNatClampNeg r1) 1 13) ||| ((1 : Int32) <<< ((gI (sI (sI s2 5 (r1).toNatClampNeg (gI s2 1 11)) 6 ((gI (sI s2 5 (r1).toNatClampNeg (gI s2 1 11)) 1 11)).toNatClampNeg r1) 1 11) &&& 31)))) 1 11 ((gI (sI (sI (sI s2 5 (r1).toNatClampNeg (gI s2 1 11)) 6 ((gI (sI s2 5 (r1).toNatClampNeg (gI s2 1 11)) 1 11)).toNatClampNeg r1) 1 13 ((gI (sI (sI s2 5 (r1).toNatClampNeg (gI s2 1 11)) 6 ((gI (sI s2 5 (r1).toNatClampNeg (gI s2 1 11)) 1 11)).toNatClampNeg r1) 1 13) ||| ((1 : Int32) <<< ((gI (sI (sI s2 5 (r1).toNatClampNeg (gI s2 1 11)) 6 ((gI (sI s2 5 (r1).toNatClampNeg (gI s2 1 11)) 1 11)).toNatClampNeg r1) 1 11) &&& 31)))) 1 11) + (1 : Int32)))))))) ∧ (¬ (gI s2 1 11) < (8 : Int32) → Q (-1 : Int32) s2))))))))) ∧ (¬ x2 = 0 → wp_X3_addPart (2 : Int32) ((2 : Int32) * (gI σ 1 10)) (-1 : Int32) σ (fun r4 s5 => wp_X3_hasPart r4 s5 (fun r6 => ((r6 = 0 → Q (-1 : Int32) s5) ∧ (¬ r6 = 0 → (((gI s5 1 11) < 0 → Q (-1 : Int32) s5) ∧ (¬ (gI s5 1 11) < 0 → (((gI s5 1 11) < (8 : Int32) → (vp_in r4 80 ∧ (vp_in (gI (sI s5 5 (r4).toNatClampNeg (gI s5 1 11)) 1 11) 8 ∧ ((x1 = 0 → Q r4 (sI (sI (sI s5 5 (r4).toNatClampNeg (gI s5 1 11)) 6 ((gI (sI s5 5 (r4).toNatClampNeg (gI s5 1 11)) 1 11)).toNatClampNeg r4) 1 11 ((gI (sI (sI s5 5 (r4).toNatClampNeg (gI s5 1 11)) 6 ((gI (sI s5 5 (r4).toNatClampNeg (gI s5 1 11)) 1 11)).toNatClampNeg r4) 1 11) + (1 : Int32)))) ∧ (¬ x1 = 0 → Q r4 (sI (sI (sI (sI s5 5 (r4).toNatClampNeg (gI s5 1 11)) 6 ((gI (sI s5 5 (r4).toNatClampNeg (gI s5 1 11)) 1 11)).toNatClampNeg r4) 1 13 ((gI (sI (sI s5 5 (r4).toNatClampNeg (gI s5 1 11)) 6 ((gI (sI s5 5 (r4).toNatClampNeg (gI s5 1 11)) 1 11)).toNatClampNeg r4) 1 13) ||| ((1 : Int32) <<< ((gI (sI (sI s5 5 (r4).toNatClampNeg (gI s5 1 11)) 6 ((gI (sI s5 5 (r4).toNatClampNeg (gI s5 1 11)) 1 11)).toNatClampNeg r4) 1 11) &&& 31)))) 1 11 ((gI (sI (sI (sI s5 5 (r4).toNatClampNeg (gI s5 1 11)) 6 ((gI (sI s5 5 (r4).toNatClampNeg (gI s5 1 11)) 1 11)).toNatClampNeg r4) 1 13 ((gI (sI (sI s5 5 (r4).toNatClampNeg (gI s5 1 11)) 6 ((gI (sI s5 5 (r4).toNatClampNeg (gI s5 1 11)) 1 11)).toNatClampNeg r4) 1 13) ||| ((1 : Int32) <<< ((gI (sI (sI s5 5 (r4).toNatClampNeg (gI s5 1 11)) 6 ((gI (sI s5 5 (r4).toNatClampNeg (gI s5 1 11)) 1 11)).toNatClampNeg r4) 1 11) &&& 31)))) 1 11) + (1 : Int32)))))))) ∧ (¬ (gI s5 1 11) < (8 : Int32) → Q (-1 : Int32) s5))))))))))
def wl_X3_addBit : WP := fun As σ Q => p1r As (fun z0 r0 => onB (Nat.beq z0 1) (p1i r0 (fun x1 r1 => p1i r1 (fun x2 r2 => onB r2.isEmpty (wp_X3_addBit x1 x2 σ (fun x τ => Q (some (.int x)) τ))))))
def tb_X3_addBit : List (Nat × Instr × Nat) := [(0, (.aload_n 0, 1)), (1, (.iload_n 2, 1)), (2, (.ifCond .eq 9, 3)), (5, (.iconst 2, 1)), (6, (.goto 10, 3)), (9, (.iconst 1, 1)), (10, (.iconst 2, 1)), (11, (.aload_n 0, 1)), (12, (.getfield 50, 3)), (15, (.imul, 1)), (16, (.iconst (-1), 1)), (17, (.invokevirtual 53, 3)), (20, (.istore_n 3, 1)), (21, (.aload_n 0, 1)), (22, (.iload_n 3, 1)), (23, (.invokevirtual 57, 3)), (26, (.ifCond .eq 45, 3)), (29, (.aload_n 0, 1)), (30, (.getfield 61, 3)), (33, (.ifCond .lt 45, 3)), (36, (.aload_n 0, 1)), (37, (.getfield 61, 3)), (40, (.bipush 8, 2)), (42, (.if_icmp .lt 47, 3)), (45, (.iconst (-1), 1)), (46, (.ireturn, 1)), (47, (.aload_n 0, 1)), (48, (.getfield 21, 3)), (51, (.iload_n 3, 1)), (52, (.aload_n 0, 1)), (53, (.getfield 61, 3)), (56, (.iastore, 1)), (57, (.aload_n 0, 1)), (58, (.getfield 24, 3)), (61, (.aload_n 0, 1)), (62, (.getfield 61, 3)), (65, (.iload_n 3, 1)), (66, (.iastore, 1)), (67, (.iload_n 1, 1)), (68, (.ifCond .eq 86, 3)), (71, (.aload_n 0, 1)), (72, (.dup, 1)), (73, (.getfield 64, 3)), (76, (.iconst 1, 1)), (77, (.aload_n 0, 1)), (78, (.getfield 61, 3)), (81, (.ishl, 1)), (82, (.ior, 1)), (83, (.putfield 64, 3)), (86, (.aload_n 0, 1)), (87, (.dup, 1)), (88, (.getfield 61, 3)), (91, (.iconst 1, 1)), (92, (.iadd, 1)), (93, (.putfield 61, 3)), (96, (.iload_n 3, 1)), (97, (.ireturn, 1))]
def ce_X3_addBit : List (Nat × (Nat × Option Nat × WP)) := [(53, (4, some 3, wl_X3_addPart)), (57, (2, some 3, wl_X3_hasPart))]
set_option maxRecDepth 100000 in
set_option maxHeartbeats 4000000 in
theorem ct_X3_addBit (l : Launch) : Con l wX yX3_addBit cX3_addBit 4 (some .int) 1 wl_X3_addBit := by
  refine sxm_ok l (ft := lkp ft_RX3) (c32 := lkp c32_RX3) (c64 := lkp c64_RX3) (ce := lkp ce_X3_addBit) (sf := lkp sf_RX3) (lab := lkp []) (T := tb_X3_addBit) (by decide +kernel) ft_RX3_ok c32_RX3_ok c64_RX3_ok (fun x q h => (show ∀ q ∈ ce_X3_addBit, ceOK l wX RX3 1 q.1 q.2.1 q.2.2.1 q.2.2.2 from List.forall_mem_cons.mpr ⟨Or.inr (Or.inr (Or.inr ⟨yX3_addPart, cX3_addPart, 5, (some .int), 0, ct_X3_addPart l, by decide, by decide, mi_X3_addPart.1, mi_X3_addPart.2, ml_RX3_53, mv_X3_addPart.1, mv_X3_addPart.2, ⟨_, _, rfl⟩, by decide, by decide +kernel⟩)), List.forall_mem_cons.mpr ⟨Or.inr (Or.inr (Or.inr ⟨yX3_hasPart, cX3_hasPart, 2, (some .boolean), 0, ct_X3_hasPart l, by decide, by decide, mi_X3_hasPart.1, mi_X3_hasPart.2, ml_RX3_57, mv_X3_hasPart.1, mv_X3_hasPart.2, ⟨_, _, rfl⟩, by decide, by decide +kernel⟩)), fun _ h => absurd h List.not_mem_nil⟩⟩) (x, q) (lkp_mem h)) sf_RX3_ok (by decide +kernel) 400 (fun As σ Q h => ?_)
  replace h := p1r_e h
  obtain ⟨z0, q0, rfl, h⟩ := h
  replace h := onB_e h
  obtain ⟨e0, h⟩ := h
  have e0 := Nat.eq_of_beq_eq_true e0
  subst e0
  replace h := p1i_e h
  obtain ⟨x1, q1, rfl, h⟩ := h
  replace h := p1i_e h
  obtain ⟨x2, q2, rfl, h⟩ := h
  replace h := onB_e h
  obtain ⟨e9, h⟩ := h
  have e9 := List.isEmpty_iff.mp e9
  subst e9
  refine ⟨Nat.le_of_ble_eq_true rfl, fun P hP => ?_⟩
  exact h 
def wp_X3_addInput  (σ : Sg) (Q : Int32 → Sg → Prop) : Prop :=
  wp_X3_addPart (3 : Int32) (-1 : Int32) (-1 : Int32) σ (fun r1 s2 => wp_X3_hasPart r1 s2 (fun r3 => ((r3 = 0 → Q (-1 : Int32) s2) ∧ (¬ r3 = 0 → (vp_in r1 80 ∧ Q r1 (sI (sI s2 5 (r1).toNatClampNeg (gI s2 1 12)) 1 12 ((gI (sI s2 5 (r1).toNatClampNeg (gI s2 1 12)) 1 12) + (1 : Int32))))))))
def wl_X3_addInput : WP := fun As σ Q => p1r As (fun z0 r0 => onB (Nat.beq z0 1) (onB r0.isEmpty (wp_X3_addInput  σ (fun x τ => Q (some (.int x)) τ))))
def tb_X3_addInput : List (Nat × Instr × Nat) := [(0, (.aload_n 0, 1)), (1, (.iconst 3, 1)), (2, (.iconst (-1), 1)), (3, (.iconst (-1), 1)), (4, (.invokevirtual 53, 3)), (7, (.istore_n 1, 1)), (8, (.aload_n 0, 1)), (9, (.iload_n 1, 1)), (10, (.invokevirtual 57, 3)), (13, (.ifCond .ne 18, 3)), (16, (.iconst (-1), 1)), (17, (.ireturn, 1)), (18, (.aload_n 0, 1)), (19, (.getfield 21, 3)), (22, (.iload_n 1, 1)), (23, (.aload_n 0, 1)), (24, (.getfield 67, 3)), (27, (.iastore, 1)), (28, (.aload_n 0, 1)), (29, (.dup, 1)), (30, (.getfield 67, 3)), (33, (.iconst 1, 1)), (34, (.iadd, 1)), (35, (.putfield 67, 3)), (38, (.iload_n 1, 1)), (39, (.ireturn, 1))]
def ce_X3_addInput : List (Nat × (Nat × Option Nat × WP)) := [(53, (4, some 3, wl_X3_addPart)), (57, (2, some 3, wl_X3_hasPart))]
set_option maxRecDepth 100000 in
set_option maxHeartbeats 4000000 in
theorem ct_X3_addInput (l : Launch) : Con l wX yX3_addInput cX3_addInput 2 (some .int) 1 wl_X3_addInput := by
  refine sxm_ok l (ft := lkp ft_RX3) (c32 := lkp c32_RX3) (c64 := lkp c64_RX3) (ce := lkp ce_X3_addInput) (sf := lkp sf_RX3) (lab := lkp []) (T := tb_X3_addInput) (by decide +kernel) ft_RX3_ok c32_RX3_ok c64_RX3_ok (fun x q h => (show ∀ q ∈ ce_X3_addInput, ceOK l wX RX3 1 q.1 q.2.1 q.2.2.1 q.2.2.2 from List.forall_mem_cons.mpr ⟨Or.inr (Or.inr (Or.inr ⟨yX3_addPart, cX3_addPart, 5, (some .int), 0, ct_X3_addPart l, by decide, by decide, mi_X3_addPart.1, mi_X3_addPart.2, ml_RX3_53, mv_X3_addPart.1, mv_X3_addPart.2, ⟨_, _, rfl⟩, by decide, by decide +kernel⟩)), List.forall_mem_cons.mpr ⟨Or.inr (Or.inr (Or.inr ⟨yX3_hasPart, cX3_hasPart, 2, (some .boolean), 0, ct_X3_hasPart l, by decide, by decide, mi_X3_hasPart.1, mi_X3_hasPart.2, ml_RX3_57, mv_X3_hasPart.1, mv_X3_hasPart.2, ⟨_, _, rfl⟩, by decide, by decide +kernel⟩)), fun _ h => absurd h List.not_mem_nil⟩⟩) (x, q) (lkp_mem h)) sf_RX3_ok (by decide +kernel) 400 (fun As σ Q h => ?_)
  replace h := p1r_e h
  obtain ⟨z0, q0, rfl, h⟩ := h
  replace h := onB_e h
  obtain ⟨e0, h⟩ := h
  have e0 := Nat.eq_of_beq_eq_true e0
  subst e0
  replace h := onB_e h
  obtain ⟨e9, h⟩ := h
  have e9 := List.isEmpty_iff.mp e9
  subst e9
  refine ⟨Nat.le_of_ble_eq_true rfl, fun P hP => ?_⟩
  exact h 
def wp_X3_setNext (x1 : Int32) (x2 : Int32) (σ : Sg) (Q : Int32 → Sg → Prop) : Prop :=
  wp_X3_hasPart x1 σ (fun r1 => ((r1 = 0 → Q (-1 : Int32) σ) ∧ (¬ r1 = 0 → (vp_in x1 80 ∧ (vp_in x1 80 ∧ Q (gI σ 3 (x1).toNatClampNeg) (sI σ 3 (x1).toNatClampNeg x2))))))
def wl_X3_setNext : WP := fun As σ Q => p1r As (fun z0 r0 => onB (Nat.beq z0 1) (p1i r0 (fun x1 r1 => p1i r1 (fun x2 r2 => onB r2.isEmpty (wp_X3_setNext x1 x2 σ (fun x τ => Q (some (.int x)) τ))))))
def tb_X3_setNext : List (Nat × Instr × Nat) := [(0, (.aload_n 0, 1)), (1, (.iload_n 1, 1)), (2, (.invokevirtual 57, 3)), (5, (.ifCond .ne 10, 3)), (8, (.iconst (-1), 1)), (9, (.ireturn, 1)), (10, (.aload_n 0, 1)), (11, (.getfield 15, 3)), (14, (.iload_n 1, 1)), (15, (.iaload, 1)), (16, (.istore_n 3, 1)), (17, (.aload_n 0, 1)), (18, (.getfield 15, 3)), (21, (.iload_n 1, 1)), (22, (.iload_n 2, 1)), (23, (.iastore, 1)), (24, (.iload_n 3, 1)), (25, (.ireturn, 1))]
def ce_X3_setNext : List (Nat × (Nat × Option Nat × WP)) := [(57, (2, some 3, wl_X3_hasPart))]
set_option maxRecDepth 100000 in
set_option maxHeartbeats 4000000 in
theorem ct_X3_setNext (l : Launch) : Con l wX yX3_setNext cX3_setNext 4 (some .int) 1 wl_X3_setNext := by
  refine sxm_ok l (ft := lkp ft_RX3) (c32 := lkp c32_RX3) (c64 := lkp c64_RX3) (ce := lkp ce_X3_setNext) (sf := lkp sf_RX3) (lab := lkp []) (T := tb_X3_setNext) (by decide +kernel) ft_RX3_ok c32_RX3_ok c64_RX3_ok (fun x q h => (show ∀ q ∈ ce_X3_setNext, ceOK l wX RX3 1 q.1 q.2.1 q.2.2.1 q.2.2.2 from List.forall_mem_cons.mpr ⟨Or.inr (Or.inr (Or.inr ⟨yX3_hasPart, cX3_hasPart, 2, (some .boolean), 0, ct_X3_hasPart l, by decide, by decide, mi_X3_hasPart.1, mi_X3_hasPart.2, ml_RX3_57, mv_X3_hasPart.1, mv_X3_hasPart.2, ⟨_, _, rfl⟩, by decide, by decide +kernel⟩)), fun _ h => absurd h List.not_mem_nil⟩) (x, q) (lkp_mem h)) sf_RX3_ok (by decide +kernel) 400 (fun As σ Q h => ?_)
  replace h := p1r_e h
  obtain ⟨z0, q0, rfl, h⟩ := h
  replace h := onB_e h
  obtain ⟨e0, h⟩ := h
  have e0 := Nat.eq_of_beq_eq_true e0
  subst e0
  replace h := p1i_e h
  obtain ⟨x1, q1, rfl, h⟩ := h
  replace h := p1i_e h
  obtain ⟨x2, q2, rfl, h⟩ := h
  replace h := onB_e h
  obtain ⟨e9, h⟩ := h
  have e9 := List.isEmpty_iff.mp e9
  subst e9
  refine ⟨Nat.le_of_ble_eq_true rfl, fun P hP => ?_⟩
  exact h 
def wp_X3_hasSign (x1 : Int32) (σ : Sg) (Q : Int32 → Prop) : Prop :=
  ((x1 < 0 → (nz (0 : Int32) ∧ Q (0 : Int32))) ∧ (¬ x1 < 0 → wp_X3_hasPart (x1 >>> ((1 : Int32) &&& 31)) σ (fun r1 => ((r1 = 0 → (nz (0 : Int32) ∧ Q (0 : Int32))) ∧ (¬ r1 = 0 → (nz (1 : Int32) ∧ Q (1 : Int32)))))))
def wl_X3_hasSign : WP := fun As σ Q => p1r As (fun z0 r0 => onB (Nat.beq z0 1) (p1i r0 (fun x1 r1 => onB r1.isEmpty (wp_X3_hasSign x1 σ (fun x => Q (some (.int x)) σ)))))
def tb_X3_hasSign : List (Nat × Instr × Nat) := [(0, (.iload_n 1, 1)), (1, (.ifCond .lt 18, 3)), (4, (.aload_n 0, 1)), (5, (.iload_n 1, 1)), (6, (.iconst 1, 1)), (7, (.ishr, 1)), (8, (.invokevirtual 57, 3)), (11, (.ifCond .eq 18, 3)), (14, (.iconst 1, 1)), (15, (.goto 19, 3)), (18, (.iconst 0, 1)), (19, (.ireturn, 1))]
def ce_X3_hasSign : List (Nat × (Nat × Option Nat × WP)) := [(57, (2, some 3, wl_X3_hasPart))]
set_option maxRecDepth 100000 in
set_option maxHeartbeats 4000000 in
theorem ct_X3_hasSign (l : Launch) : Con l wX yX3_hasSign cX3_hasSign 2 (some .boolean) 1 wl_X3_hasSign := by
  refine sxm_ok l (ft := lkp ft_RX3) (c32 := lkp c32_RX3) (c64 := lkp c64_RX3) (ce := lkp ce_X3_hasSign) (sf := lkp sf_RX3) (lab := lkp []) (T := tb_X3_hasSign) (by decide +kernel) ft_RX3_ok c32_RX3_ok c64_RX3_ok (fun x q h => (show ∀ q ∈ ce_X3_hasSign, ceOK l wX RX3 1 q.1 q.2.1 q.2.2.1 q.2.2.2 from List.forall_mem_cons.mpr ⟨Or.inr (Or.inr (Or.inr ⟨yX3_hasPart, cX3_hasPart, 2, (some .boolean), 0, ct_X3_hasPart l, by decide, by decide, mi_X3_hasPart.1, mi_X3_hasPart.2, ml_RX3_57, mv_X3_hasPart.1, mv_X3_hasPart.2, ⟨_, _, rfl⟩, by decide, by decide +kernel⟩)), fun _ h => absurd h List.not_mem_nil⟩) (x, q) (lkp_mem h)) sf_RX3_ok (by decide +kernel) 400 (fun As σ Q h => ?_)
  replace h := p1r_e h
  obtain ⟨z0, q0, rfl, h⟩ := h
  replace h := onB_e h
  obtain ⟨e0, h⟩ := h
  have e0 := Nat.eq_of_beq_eq_true e0
  subst e0
  replace h := p1i_e h
  obtain ⟨x1, q1, rfl, h⟩ := h
  replace h := onB_e h
  obtain ⟨e9, h⟩ := h
  have e9 := List.isEmpty_iff.mp e9
  subst e9
  refine ⟨Nat.le_of_ble_eq_true rfl, fun P hP => ?_⟩
  exact h 
def wp_X3_hasState (x1 : Int32) (σ : Sg) (Q : Int32 → Prop) : Prop :=
  ((x1 < 0 → (nz (0 : Int32) ∧ Q (0 : Int32))) ∧ (¬ x1 < 0 → wp_X3_states σ (fun r1 => ((x1 < r1 → (nz (1 : Int32) ∧ Q (1 : Int32))) ∧ (¬ x1 < r1 → (nz (0 : Int32) ∧ Q (0 : Int32)))))))
def wl_X3_hasState : WP := fun As σ Q => p1r As (fun z0 r0 => onB (Nat.beq z0 1) (p1i r0 (fun x1 r1 => onB r1.isEmpty (wp_X3_hasState x1 σ (fun x => Q (some (.int x)) σ)))))
def tb_X3_hasState : List (Nat × Instr × Nat) := [(0, (.iload_n 1, 1)), (1, (.ifCond .lt 16, 3)), (4, (.iload_n 1, 1)), (5, (.aload_n 0, 1)), (6, (.invokevirtual 70, 3)), (9, (.if_icmp .ge 16, 3)), (12, (.iconst 1, 1)), (13, (.goto 17, 3)), (16, (.iconst 0, 1)), (17, (.ireturn, 1))]
def ce_X3_hasState : List (Nat × (Nat × Option Nat × WP)) := [(70, (1, some 3, wl_X3_states))]
set_option maxRecDepth 100000 in
set_option maxHeartbeats 4000000 in
theorem ct_X3_hasState (l : Launch) : Con l wX yX3_hasState cX3_hasState 2 (some .boolean) 1 wl_X3_hasState := by
  refine sxm_ok l (ft := lkp ft_RX3) (c32 := lkp c32_RX3) (c64 := lkp c64_RX3) (ce := lkp ce_X3_hasState) (sf := lkp sf_RX3) (lab := lkp []) (T := tb_X3_hasState) (by decide +kernel) ft_RX3_ok c32_RX3_ok c64_RX3_ok (fun x q h => (show ∀ q ∈ ce_X3_hasState, ceOK l wX RX3 1 q.1 q.2.1 q.2.2.1 q.2.2.2 from List.forall_mem_cons.mpr ⟨Or.inr (Or.inr (Or.inr ⟨yX3_states, cX3_states, 1, (some .int), 0, ct_X3_states l, by decide, by decide, mi_X3_states.1, mi_X3_states.2, ml_RX3_70, mv_X3_states.1, mv_X3_states.2, ⟨_, _, rfl⟩, by decide, by decide +kernel⟩)), fun _ h => absurd h List.not_mem_nil⟩) (x, q) (lkp_mem h)) sf_RX3_ok (by decide +kernel) 400 (fun As σ Q h => ?_)
  replace h := p1r_e h
  obtain ⟨z0, q0, rfl, h⟩ := h
  replace h := onB_e h
  obtain ⟨e0, h⟩ := h
  have e0 := Nat.eq_of_beq_eq_true e0
  subst e0
  replace h := p1i_e h
  obtain ⟨x1, q1, rfl, h⟩ := h
  replace h := onB_e h
  obtain ⟨e9, h⟩ := h
  have e9 := List.isEmpty_iff.mp e9
  subst e9
  refine ⟨Nat.le_of_ble_eq_true rfl, fun P hP => ?_⟩
  exact h 
def wp_X3_hasChoices (x1 : Int32) (σ : Sg) (Q : Int32 → Prop) : Prop :=
  ((x1 < 0 → (nz (0 : Int32) ∧ Q (0 : Int32))) ∧ (¬ x1 < 0 → wp_X3_choicesInAll σ (fun r1 => ((x1 < r1 → (nz (1 : Int32) ∧ Q (1 : Int32))) ∧ (¬ x1 < r1 → (nz (0 : Int32) ∧ Q (0 : Int32)))))))
def wl_X3_hasChoices : WP := fun As σ Q => p1r As (fun z0 r0 => onB (Nat.beq z0 1) (p1i r0 (fun x1 r1 => onB r1.isEmpty (wp_X3_hasChoices x1 σ (fun x => Q (some (.int x)) σ)))))
def tb_X3_hasChoices : List (Nat × Instr × Nat) := [(0, (.iload_n 1, 1)), (1, (.ifCond .lt 16, 3)), (4, (.iload_n 1, 1)), (5, (.aload_n 0, 1)), (6, (.invokevirtual 74, 3)), (9, (.if_icmp .ge 16, 3)), (12, (.iconst 1, 1)), (13, (.goto 17, 3)), (16, (.iconst 0, 1)), (17, (.ireturn, 1))]
def ce_X3_hasChoices : List (Nat × (Nat × Option Nat × WP)) := [(74, (1, some 3, wl_X3_choicesInAll))]
set_option maxRecDepth 100000 in
set_option maxHeartbeats 4000000 in
theorem ct_X3_hasChoices (l : Launch) : Con l wX yX3_hasChoices cX3_hasChoices 2 (some .boolean) 1 wl_X3_hasChoices := by
  refine sxm_ok l (ft := lkp ft_RX3) (c32 := lkp c32_RX3) (c64 := lkp c64_RX3) (ce := lkp ce_X3_hasChoices) (sf := lkp sf_RX3) (lab := lkp []) (T := tb_X3_hasChoices) (by decide +kernel) ft_RX3_ok c32_RX3_ok c64_RX3_ok (fun x q h => (show ∀ q ∈ ce_X3_hasChoices, ceOK l wX RX3 1 q.1 q.2.1 q.2.2.1 q.2.2.2 from List.forall_mem_cons.mpr ⟨Or.inr (Or.inr (Or.inr ⟨yX3_choicesInAll, cX3_choicesInAll, 1, (some .int), 0, ct_X3_choicesInAll l, by decide, by decide, mi_X3_choicesInAll.1, mi_X3_choicesInAll.2, ml_RX3_74, mv_X3_choicesInAll.1, mv_X3_choicesInAll.2, ⟨_, _, rfl⟩, by decide, by decide +kernel⟩)), fun _ h => absurd h List.not_mem_nil⟩) (x, q) (lkp_mem h)) sf_RX3_ok (by decide +kernel) 400 (fun As σ Q h => ?_)
  replace h := p1r_e h
  obtain ⟨z0, q0, rfl, h⟩ := h
  replace h := onB_e h
  obtain ⟨e0, h⟩ := h
  have e0 := Nat.eq_of_beq_eq_true e0
  subst e0
  replace h := p1i_e h
  obtain ⟨x1, q1, rfl, h⟩ := h
  replace h := onB_e h
  obtain ⟨e9, h⟩ := h
  have e9 := List.isEmpty_iff.mp e9
  subst e9
  refine ⟨Nat.le_of_ble_eq_true rfl, fun P hP => ?_⟩
  exact h 
def wp_X3_kindOf (x1 : Int32) (σ : Sg) (Q : Int32 → Prop) : Prop :=
  wp_X3_hasPart x1 σ (fun r1 => ((r1 = 0 → Q (-1 : Int32)) ∧ (¬ r1 = 0 → (vp_in x1 80 ∧ Q (gI σ 2 (x1).toNatClampNeg)))))
def wl_X3_kindOf : WP := fun As σ Q => p1r As (fun z0 r0 => onB (Nat.beq z0 1) (p1i r0 (fun x1 r1 => onB r1.isEmpty (wp_X3_kindOf x1 σ (fun x => Q (some (.int x)) σ)))))
def tb_X3_kindOf : List (Nat × Instr × Nat) := [(0, (.aload_n 0, 1)), (1, (.iload_n 1, 1)), (2, (.invokevirtual 57, 3)), (5, (.ifCond .eq 17, 3)), (8, (.aload_n 0, 1)), (9, (.getfield 9, 3)), (12, (.iload_n 1, 1)), (13, (.iaload, 1)), (14, (.goto 18, 3)), (17, (.iconst (-1), 1)), (18, (.ireturn, 1))]
def ce_X3_kindOf : List (Nat × (Nat × Option Nat × WP)) := [(57, (2, some 3, wl_X3_hasPart))]
set_option maxRecDepth 100000 in
set_option maxHeartbeats 4000000 in
theorem ct_X3_kindOf (l : Launch) : Con l wX yX3_kindOf cX3_kindOf 2 (some .int) 1 wl_X3_kindOf := by
  refine sxm_ok l (ft := lkp ft_RX3) (c32 := lkp c32_RX3) (c64 := lkp c64_RX3) (ce := lkp ce_X3_kindOf) (sf := lkp sf_RX3) (lab := lkp []) (T := tb_X3_kindOf) (by decide +kernel) ft_RX3_ok c32_RX3_ok c64_RX3_ok (fun x q h => (show ∀ q ∈ ce_X3_kindOf, ceOK l wX RX3 1 q.1 q.2.1 q.2.2.1 q.2.2.2 from List.forall_mem_cons.mpr ⟨Or.inr (Or.inr (Or.inr ⟨yX3_hasPart, cX3_hasPart, 2, (some .boolean), 0, ct_X3_hasPart l, by decide, by decide, mi_X3_hasPart.1, mi_X3_hasPart.2, ml_RX3_57, mv_X3_hasPart.1, mv_X3_hasPart.2, ⟨_, _, rfl⟩, by decide, by decide +kernel⟩)), fun _ h => absurd h List.not_mem_nil⟩) (x, q) (lkp_mem h)) sf_RX3_ok (by decide +kernel) 400 (fun As σ Q h => ?_)
  replace h := p1r_e h
  obtain ⟨z0, q0, rfl, h⟩ := h
  replace h := onB_e h
  obtain ⟨e0, h⟩ := h
  have e0 := Nat.eq_of_beq_eq_true e0
  subst e0
  replace h := p1i_e h
  obtain ⟨x1, q1, rfl, h⟩ := h
  replace h := onB_e h
  obtain ⟨e9, h⟩ := h
  have e9 := List.isEmpty_iff.mp e9
  subst e9
  refine ⟨Nat.le_of_ble_eq_true rfl, fun P hP => ?_⟩
  exact h 
def wp_X3_firstSign (x1 : Int32) (σ : Sg) (Q : Int32 → Prop) : Prop :=
  wp_X3_hasPart x1 σ (fun r1 => ((r1 = 0 → Q (-1 : Int32)) ∧ (¬ r1 = 0 → (vp_in x1 80 ∧ Q (gI σ 3 (x1).toNatClampNeg)))))
def wl_X3_firstSign : WP := fun As σ Q => p1r As (fun z0 r0 => onB (Nat.beq z0 1) (p1i r0 (fun x1 r1 => onB r1.isEmpty (wp_X3_firstSign x1 σ (fun x => Q (some (.int x)) σ)))))
def tb_X3_firstSign : List (Nat × Instr × Nat) := [(0, (.aload_n 0, 1)), (1, (.iload_n 1, 1)), (2, (.invokevirtual 57, 3)), (5, (.ifCond .eq 17, 3)), (8, (.aload_n 0, 1)), (9, (.getfield 15, 3)), (12, (.iload_n 1, 1)), (13, (.iaload, 1)), (14, (.goto 18, 3)), (17, (.iconst (-1), 1)), (18, (.ireturn, 1))]
def ce_X3_firstSign : List (Nat × (Nat × Option Nat × WP)) := [(57, (2, some 3, wl_X3_hasPart))]
set_option maxRecDepth 100000 in
set_option maxHeartbeats 4000000 in
theorem ct_X3_firstSign (l : Launch) : Con l wX yX3_firstSign cX3_firstSign 2 (some .int) 1 wl_X3_firstSign := by
  refine sxm_ok l (ft := lkp ft_RX3) (c32 := lkp c32_RX3) (c64 := lkp c64_RX3) (ce := lkp ce_X3_firstSign) (sf := lkp sf_RX3) (lab := lkp []) (T := tb_X3_firstSign) (by decide +kernel) ft_RX3_ok c32_RX3_ok c64_RX3_ok (fun x q h => (show ∀ q ∈ ce_X3_firstSign, ceOK l wX RX3 1 q.1 q.2.1 q.2.2.1 q.2.2.2 from List.forall_mem_cons.mpr ⟨Or.inr (Or.inr (Or.inr ⟨yX3_hasPart, cX3_hasPart, 2, (some .boolean), 0, ct_X3_hasPart l, by decide, by decide, mi_X3_hasPart.1, mi_X3_hasPart.2, ml_RX3_57, mv_X3_hasPart.1, mv_X3_hasPart.2, ⟨_, _, rfl⟩, by decide, by decide +kernel⟩)), fun _ h => absurd h List.not_mem_nil⟩) (x, q) (lkp_mem h)) sf_RX3_ok (by decide +kernel) 400 (fun As σ Q h => ?_)
  replace h := p1r_e h
  obtain ⟨z0, q0, rfl, h⟩ := h
  replace h := onB_e h
  obtain ⟨e0, h⟩ := h
  have e0 := Nat.eq_of_beq_eq_true e0
  subst e0
  replace h := p1i_e h
  obtain ⟨x1, q1, rfl, h⟩ := h
  replace h := onB_e h
  obtain ⟨e9, h⟩ := h
  have e9 := List.isEmpty_iff.mp e9
  subst e9
  refine ⟨Nat.le_of_ble_eq_true rfl, fun P hP => ?_⟩
  exact h 
def wp_X3_secondSign (x1 : Int32) (σ : Sg) (Q : Int32 → Prop) : Prop :=
  wp_X3_hasPart x1 σ (fun r1 => ((r1 = 0 → Q (-1 : Int32)) ∧ (¬ r1 = 0 → (vp_in x1 80 ∧ Q (gI σ 4 (x1).toNatClampNeg)))))
def wl_X3_secondSign : WP := fun As σ Q => p1r As (fun z0 r0 => onB (Nat.beq z0 1) (p1i r0 (fun x1 r1 => onB r1.isEmpty (wp_X3_secondSign x1 σ (fun x => Q (some (.int x)) σ)))))
def tb_X3_secondSign : List (Nat × Instr × Nat) := [(0, (.aload_n 0, 1)), (1, (.iload_n 1, 1)), (2, (.invokevirtual 57, 3)), (5, (.ifCond .eq 17, 3)), (8, (.aload_n 0, 1)), (9, (.getfield 18, 3)), (12, (.iload_n 1, 1)), (13, (.iaload, 1)), (14, (.goto 18, 3)), (17, (.iconst (-1), 1)), (18, (.ireturn, 1))]
def ce_X3_secondSign : List (Nat × (Nat × Option Nat × WP)) := [(57, (2, some 3, wl_X3_hasPart))]
set_option maxRecDepth 100000 in
set_option maxHeartbeats 4000000 in
theorem ct_X3_secondSign (l : Launch) : Con l wX yX3_secondSign cX3_secondSign 2 (some .int) 1 wl_X3_secondSign := by
  refine sxm_ok l (ft := lkp ft_RX3) (c32 := lkp c32_RX3) (c64 := lkp c64_RX3) (ce := lkp ce_X3_secondSign) (sf := lkp sf_RX3) (lab := lkp []) (T := tb_X3_secondSign) (by decide +kernel) ft_RX3_ok c32_RX3_ok c64_RX3_ok (fun x q h => (show ∀ q ∈ ce_X3_secondSign, ceOK l wX RX3 1 q.1 q.2.1 q.2.2.1 q.2.2.2 from List.forall_mem_cons.mpr ⟨Or.inr (Or.inr (Or.inr ⟨yX3_hasPart, cX3_hasPart, 2, (some .boolean), 0, ct_X3_hasPart l, by decide, by decide, mi_X3_hasPart.1, mi_X3_hasPart.2, ml_RX3_57, mv_X3_hasPart.1, mv_X3_hasPart.2, ⟨_, _, rfl⟩, by decide, by decide +kernel⟩)), fun _ h => absurd h List.not_mem_nil⟩) (x, q) (lkp_mem h)) sf_RX3_ok (by decide +kernel) 400 (fun As σ Q h => ?_)
  replace h := p1r_e h
  obtain ⟨z0, q0, rfl, h⟩ := h
  replace h := onB_e h
  obtain ⟨e0, h⟩ := h
  have e0 := Nat.eq_of_beq_eq_true e0
  subst e0
  replace h := p1i_e h
  obtain ⟨x1, q1, rfl, h⟩ := h
  replace h := onB_e h
  obtain ⟨e9, h⟩ := h
  have e9 := List.isEmpty_iff.mp e9
  subst e9
  refine ⟨Nat.le_of_ble_eq_true rfl, fun P hP => ?_⟩
  exact h 
def wp_X3_lanesIn (x1 : Int32) (x2 : Int32) (σ : Sg) (Q : Int32 → Prop) : Prop :=
  wp_X3_hasPart x1 σ (fun r1 => ((r1 = 0 → Q (0 : Int32)) ∧ (¬ r1 = 0 → (vp_in x1 80 ∧ (vp_in x1 80 ∧ (((gI σ 2 (x1).toNatClampNeg) = (0 : Int32) → (vp_in x1 80 ∧ wp_X3_signLanes (gI σ 3 (x1).toNatClampNeg) σ (fun r2 => (vp_in x1 80 ∧ wp_X3_signLanes (gI σ 4 (x1).toNatClampNeg) σ (fun r3 => Q (r2 &&& r3)))))) ∧ (¬ (gI σ 2 (x1).toNatClampNeg) = (0 : Int32) → (((gI σ 2 (x1).toNatClampNeg) = (3 : Int32) → (((gI σ 5 (x1).toNatClampNeg) < 0 → Q (0 : Int32)) ∧ (¬ (gI σ 5 (x1).toNatClampNeg) < 0 → (((gI σ 5 (x1).toNatClampNeg) < (4 : Int32) → (vp_in (gI σ 5 (x1).toNatClampNeg) 4 ∧ Q (inpL ((gI σ 5 (x1).toNatClampNeg)).toNatClampNeg))) ∧ (¬ (gI σ 5 (x1).toNatClampNeg) < (4 : Int32) → Q (0 : Int32)))))) ∧ (¬ (gI σ 2 (x1).toNatClampNeg) = (3 : Int32) → ((((x2 >>> ((gI σ 5 (x1).toNatClampNeg) &&& 31)) &&& (1 : Int32)) = (1 : Int32) → Q (65535 : Int32)) ∧ (¬ ((x2 >>> ((gI σ 5 (x1).toNatClampNeg) &&& 31)) &&& (1 : Int32)) = (1 : Int32) → Q (0 : Int32))))))))))))
def wl_X3_lanesIn : WP := fun As σ Q => p1r As (fun z0 r0 => onB (Nat.beq z0 1) (p1i r0 (fun x1 r1 => p1i r1 (fun x2 r2 => onB r2.isEmpty (wp_X3_lanesIn x1 x2 σ (fun x => Q (some (.int x)) σ))))))
def tb_X3_lanesIn : List (Nat × Instr × Nat) := [(0, (.aload_n 0, 1)), (1, (.iload_n 1, 1)), (2, (.invokevirtual 57, 3)), (5, (.ifCond .ne 10, 3)), (8, (.iconst 0, 1)), (9, (.ireturn, 1)), (10, (.aload_n 0, 1)), (11, (.getfield 21, 3)), (14, (.iload_n 1, 1)), (15, (.iaload, 1)), (16, (.istore_n 3, 1)), (17, (.aload_n 0, 1)), (18, (.getfield 9, 3)), (21, (.iload_n 1, 1)), (22, (.iaload, 1)), (23, (.lookupswitch 69 #[(0, 25), (3, 47)], 25)), (48, (.aload_n 0, 1)), (49, (.aload_n 0, 1)), (50, (.getfield 15, 3)), (53, (.iload_n 1, 1)), (54, (.iaload, 1)), (55, (.invokevirtual 81, 3)), (58, (.aload_n 0, 1)), (59, (.aload_n 0, 1)), (60, (.getfield 18, 3)), (63, (.iload_n 1, 1)), (64, (.iaload, 1)), (65, (.invokevirtual 81, 3)), (68, (.iand, 1)), (69, (.ireturn, 1)), (70, (.iload_n 3, 1)), (71, (.ifCond .lt 90, 3)), (74, (.iload_n 3, 1)), (75, (.getstatic 85, 3)), (78, (.arraylength, 1)), (79, (.if_icmp .ge 90, 3)), (82, (.getstatic 85, 3)), (85, (.iload_n 3, 1)), (86, (.iaload, 1)), (87, (.goto 91, 3)), (90, (.iconst 0, 1)), (91, (.ireturn, 1)), (92, (.iload_n 2, 1)), (93, (.iload_n 3, 1)), (94, (.ishr, 1)), (95, (.iconst 1, 1)), (96, (.iand, 1)), (97, (.iconst 1, 1)), (98, (.if_icmp .ne 106, 3)), (101, (.ldc 88, 2)), (103, (.goto 107, 3)), (106, (.iconst 0, 1)), (107, (.ireturn, 1))]
def ce_X3_lanesIn : List (Nat × (Nat × Option Nat × WP)) := [(57, (2, some 3, wl_X3_hasPart)), (81, (2, some 3, wl_X3_signLanes))]
set_option maxRecDepth 100000 in
set_option maxHeartbeats 4000000 in
theorem ct_X3_lanesIn (l : Launch) : Con l wX yX3_lanesIn cX3_lanesIn 4 (some .int) 1 wl_X3_lanesIn := by
  refine sxm_ok l (ft := lkp ft_RX3) (c32 := lkp c32_RX3) (c64 := lkp c64_RX3) (ce := lkp ce_X3_lanesIn) (sf := lkp sf_RX3) (lab := lkp []) (T := tb_X3_lanesIn) (by decide +kernel) ft_RX3_ok c32_RX3_ok c64_RX3_ok (fun x q h => (show ∀ q ∈ ce_X3_lanesIn, ceOK l wX RX3 1 q.1 q.2.1 q.2.2.1 q.2.2.2 from List.forall_mem_cons.mpr ⟨Or.inr (Or.inr (Or.inr ⟨yX3_hasPart, cX3_hasPart, 2, (some .boolean), 0, ct_X3_hasPart l, by decide, by decide, mi_X3_hasPart.1, mi_X3_hasPart.2, ml_RX3_57, mv_X3_hasPart.1, mv_X3_hasPart.2, ⟨_, _, rfl⟩, by decide, by decide +kernel⟩)), List.forall_mem_cons.mpr ⟨Or.inr (Or.inr (Or.inr ⟨yX3_signLanes, cX3_signLanes, 3, (some .int), 0, ct_X3_signLanes l, by decide, by decide, mi_X3_signLanes.1, mi_X3_signLanes.2, ml_RX3_81, mv_X3_signLanes.1, mv_X3_signLanes.2, ⟨_, _, rfl⟩, by decide, by decide +kernel⟩)), fun _ h => absurd h List.not_mem_nil⟩⟩) (x, q) (lkp_mem h)) sf_RX3_ok (by decide +kernel) 400 (fun As σ Q h => ?_)
  replace h := p1r_e h
  obtain ⟨z0, q0, rfl, h⟩ := h
  replace h := onB_e h
  obtain ⟨e0, h⟩ := h
  have e0 := Nat.eq_of_beq_eq_true e0
  subst e0
  replace h := p1i_e h
  obtain ⟨x1, q1, rfl, h⟩ := h
  replace h := p1i_e h
  obtain ⟨x2, q2, rfl, h⟩ := h
  replace h := onB_e h
  obtain ⟨e9, h⟩ := h
  have e9 := List.isEmpty_iff.mp e9
  subst e9
  refine ⟨Nat.le_of_ble_eq_true rfl, fun P hP => ?_⟩
  exact h 
def wp_X3_partLanes (x1 : Int32) (σ : Sg) (Q : Int32 → Prop) : Prop :=
  wp_X3_hasPart x1 σ (fun r1 => ((r1 = 0 → Q (0 : Int32)) ∧ (¬ r1 = 0 → (vp_in x1 80 ∧ Q (gI σ 7 (x1).toNatClampNeg)))))
def wl_X3_partLanes : WP := fun As σ Q => p1r As (fun z0 r0 => onB (Nat.beq z0 1) (p1i r0 (fun x1 r1 => onB r1.isEmpty (wp_X3_partLanes x1 σ (fun x => Q (some (.int x)) σ)))))
def tb_X3_partLanes : List (Nat × Instr × Nat) := [(0, (.aload_n 0, 1)), (1, (.iload_n 1, 1)), (2, (.invokevirtual 57, 3)), (5, (.ifCond .eq 17, 3)), (8, (.aload_n 0, 1)), (9, (.getfield 27, 3)), (12, (.iload_n 1, 1)), (13, (.iaload, 1)), (14, (.goto 18, 3)), (17, (.iconst 0, 1)), (18, (.ireturn, 1))]
def ce_X3_partLanes : List (Nat × (Nat × Option Nat × WP)) := [(57, (2, some 3, wl_X3_hasPart))]
set_option maxRecDepth 100000 in
set_option maxHeartbeats 4000000 in
theorem ct_X3_partLanes (l : Launch) : Con l wX yX3_partLanes cX3_partLanes 2 (some .int) 1 wl_X3_partLanes := by
  refine sxm_ok l (ft := lkp ft_RX3) (c32 := lkp c32_RX3) (c64 := lkp c64_RX3) (ce := lkp ce_X3_partLanes) (sf := lkp sf_RX3) (lab := lkp []) (T := tb_X3_partLanes) (by decide +kernel) ft_RX3_ok c32_RX3_ok c64_RX3_ok (fun x q h => (show ∀ q ∈ ce_X3_partLanes, ceOK l wX RX3 1 q.1 q.2.1 q.2.2.1 q.2.2.2 from List.forall_mem_cons.mpr ⟨Or.inr (Or.inr (Or.inr ⟨yX3_hasPart, cX3_hasPart, 2, (some .boolean), 0, ct_X3_hasPart l, by decide, by decide, mi_X3_hasPart.1, mi_X3_hasPart.2, ml_RX3_57, mv_X3_hasPart.1, mv_X3_hasPart.2, ⟨_, _, rfl⟩, by decide, by decide +kernel⟩)), fun _ h => absurd h List.not_mem_nil⟩) (x, q) (lkp_mem h)) sf_RX3_ok (by decide +kernel) 400 (fun As σ Q h => ?_)
  replace h := p1r_e h
  obtain ⟨z0, q0, rfl, h⟩ := h
  replace h := onB_e h
  obtain ⟨e0, h⟩ := h
  have e0 := Nat.eq_of_beq_eq_true e0
  subst e0
  replace h := p1i_e h
  obtain ⟨x1, q1, rfl, h⟩ := h
  replace h := onB_e h
  obtain ⟨e9, h⟩ := h
  have e9 := List.isEmpty_iff.mp e9
  subst e9
  refine ⟨Nat.le_of_ble_eq_true rfl, fun P hP => ?_⟩
  exact h 
def wp_X3_rightLanes  (σ : Sg) (Q : Int32 → Prop) : Prop :=
  ∀ L11 : Int32 → Int32 → Prop,
  (∀ (x1 : Int32) (x2 : Int32), ((x2 < (gI σ 9 1) → wp_X6_signAt 9 x2 σ (fun r1 => wp_X3_signLanes r1 σ (fun r2 => L11 (x1 &&& r2) (x2 + (1 : Int32))))) ∧ (¬ x2 < (gI σ 9 1) → Q x1)) → L11 x1 x2) →
  wp_X3_choicesInAll σ (fun r3 => L11 (((1 : Int32) <<< (r3 &&& 31)) - (1 : Int32)) (0 : Int32))
def wl_X3_rightLanes : WP := fun As σ Q => p1r As (fun z0 r0 => onB (Nat.beq z0 1) (onB r0.isEmpty (wp_X3_rightLanes  σ (fun x => Q (some (.int x)) σ))))
def tb_X3_rightLanes : List (Nat × Instr × Nat) := [(0, (.iconst 1, 1)), (1, (.aload_n 0, 1)), (2, (.invokevirtual 74, 3)), (5, (.ishl, 1)), (6, (.iconst 1, 1)), (7, (.isub, 1)), (8, (.istore_n 1, 1)), (9, (.iconst 0, 1)), (10, (.istore_n 2, 1)), (11, (.iload_n 2, 1)), (12, (.aload_n 0, 1)), (13, (.getfield 39, 3)), (16, (.getfield 89, 3)), (19, (.if_icmp .ge 43, 3)), (22, (.iload_n 1, 1)), (23, (.aload_n 0, 1)), (24, (.aload_n 0, 1)), (25, (.getfield 39, 3)), (28, (.iload_n 2, 1)), (29, (.invokevirtual 92, 3)), (32, (.invokevirtual 81, 3)), (35, (.iand, 1)), (36, (.istore_n 1, 1)), (37, (.iinc 2 1, 3)), (40, (.goto 11, 3)), (43, (.iload_n 1, 1)), (44, (.ireturn, 1))]
def ce_X3_rightLanes : List (Nat × (Nat × Option Nat × WP)) := [(74, (1, some 3, wl_X3_choicesInAll)), (92, (2, some 6, wl_X6_signAt)), (81, (2, some 3, wl_X3_signLanes))]
set_option maxRecDepth 100000 in
set_option maxHeartbeats 4000000 in
theorem ct_X3_rightLanes (l : Launch) : Con l wX yX3_rightLanes cX3_rightLanes 3 (some .int) 1 wl_X3_rightLanes := by
  refine sxm_ok l (ft := lkp ft_RX3) (c32 := lkp c32_RX3) (c64 := lkp c64_RX3) (ce := lkp ce_X3_rightLanes) (sf := lkp sf_RX3) (lab := lkp [(11, [0, 1, 2])]) (T := tb_X3_rightLanes) (by decide +kernel) ft_RX3_ok c32_RX3_ok c64_RX3_ok (fun x q h => (show ∀ q ∈ ce_X3_rightLanes, ceOK l wX RX3 1 q.1 q.2.1 q.2.2.1 q.2.2.2 from List.forall_mem_cons.mpr ⟨Or.inr (Or.inr (Or.inr ⟨yX3_choicesInAll, cX3_choicesInAll, 1, (some .int), 0, ct_X3_choicesInAll l, by decide, by decide, mi_X3_choicesInAll.1, mi_X3_choicesInAll.2, ml_RX3_74, mv_X3_choicesInAll.1, mv_X3_choicesInAll.2, ⟨_, _, rfl⟩, by decide, by decide +kernel⟩)), List.forall_mem_cons.mpr ⟨Or.inr (Or.inr (Or.inr ⟨yX6_signAt, cX6_signAt, 2, (some .int), 0, ct_X6_signAt l, by decide, by decide, mi_X6_signAt.1, mi_X6_signAt.2, ml_RX3_92, mv_X6_signAt.1, mv_X6_signAt.2, ⟨_, _, rfl⟩, by decide, by decide +kernel⟩)), List.forall_mem_cons.mpr ⟨Or.inr (Or.inr (Or.inr ⟨yX3_signLanes, cX3_signLanes, 3, (some .int), 0, ct_X3_signLanes l, by decide, by decide, mi_X3_signLanes.1, mi_X3_signLanes.2, ml_RX3_81, mv_X3_signLanes.1, mv_X3_signLanes.2, ⟨_, _, rfl⟩, by decide, by decide +kernel⟩)), fun _ h => absurd h List.not_mem_nil⟩⟩⟩) (x, q) (lkp_mem h)) sf_RX3_ok (by decide +kernel) 400 (fun As σ Q h => ?_)
  replace h := p1r_e h
  obtain ⟨z0, q0, rfl, h⟩ := h
  replace h := onB_e h
  obtain ⟨e0, h⟩ := h
  have e0 := Nat.eq_of_beq_eq_true e0
  subst e0
  replace h := onB_e h
  obtain ⟨e9, h⟩ := h
  have e9 := List.isEmpty_iff.mp e9
  subst e9
  refine ⟨Nat.le_of_ble_eq_true rfl, fun P hP => ?_⟩
  exact h (fun x1 x2 => P 11 [.ref 1, .int x1, .int x2] σ) (fun x1 x2 hb => hP 11 [.ref 1, .int x1, .int x2] σ hb)
def wp_X3_isMarked (x1 : Int32) (σ : Sg) (Q : Int32 → Prop) : Prop :=
  wp_X3_hasPart x1 σ (fun r1 => ((r1 = 0 → (nz (0 : Int32) ∧ Q (0 : Int32))) ∧ (¬ r1 = 0 → (vp_in x1 80 ∧ (((gI σ 8 (x1).toNatClampNeg) = 0 → (nz (0 : Int32) ∧ Q (0 : Int32))) ∧ (¬ (gI σ 8 (x1).toNatClampNeg) = 0 → (nz (1 : Int32) ∧ Q (1 : Int32))))))))
def wl_X3_isMarked : WP := fun As σ Q => p1r As (fun z0 r0 => onB (Nat.beq z0 1) (p1i r0 (fun x1 r1 => onB r1.isEmpty (wp_X3_isMarked x1 σ (fun x => Q (some (.int x)) σ)))))
def tb_X3_isMarked : List (Nat × Instr × Nat) := [(0, (.aload_n 0, 1)), (1, (.iload_n 1, 1)), (2, (.invokevirtual 57, 3)), (5, (.ifCond .eq 21, 3)), (8, (.aload_n 0, 1)), (9, (.getfield 30, 3)), (12, (.iload_n 1, 1)), (13, (.baload, 1)), (14, (.ifCond .eq 21, 3)), (17, (.iconst 1, 1)), (18, (.goto 22, 3)), (21, (.iconst 0, 1)), (22, (.ireturn, 1))]
def ce_X3_isMarked : List (Nat × (Nat × Option Nat × WP)) := [(57, (2, some 3, wl_X3_hasPart))]
set_option maxRecDepth 100000 in
set_option maxHeartbeats 4000000 in
theorem ct_X3_isMarked (l : Launch) : Con l wX yX3_isMarked cX3_isMarked 2 (some .boolean) 1 wl_X3_isMarked := by
  refine sxm_ok l (ft := lkp ft_RX3) (c32 := lkp c32_RX3) (c64 := lkp c64_RX3) (ce := lkp ce_X3_isMarked) (sf := lkp sf_RX3) (lab := lkp []) (T := tb_X3_isMarked) (by decide +kernel) ft_RX3_ok c32_RX3_ok c64_RX3_ok (fun x q h => (show ∀ q ∈ ce_X3_isMarked, ceOK l wX RX3 1 q.1 q.2.1 q.2.2.1 q.2.2.2 from List.forall_mem_cons.mpr ⟨Or.inr (Or.inr (Or.inr ⟨yX3_hasPart, cX3_hasPart, 2, (some .boolean), 0, ct_X3_hasPart l, by decide, by decide, mi_X3_hasPart.1, mi_X3_hasPart.2, ml_RX3_57, mv_X3_hasPart.1, mv_X3_hasPart.2, ⟨_, _, rfl⟩, by decide, by decide +kernel⟩)), fun _ h => absurd h List.not_mem_nil⟩) (x, q) (lkp_mem h)) sf_RX3_ok (by decide +kernel) 400 (fun As σ Q h => ?_)
  replace h := p1r_e h
  obtain ⟨z0, q0, rfl, h⟩ := h
  replace h := onB_e h
  obtain ⟨e0, h⟩ := h
  have e0 := Nat.eq_of_beq_eq_true e0
  subst e0
  replace h := p1i_e h
  obtain ⟨x1, q1, rfl, h⟩ := h
  replace h := onB_e h
  obtain ⟨e9, h⟩ := h
  have e9 := List.isEmpty_iff.mp e9
  subst e9
  refine ⟨Nat.le_of_ble_eq_true rfl, fun P hP => ?_⟩
  exact h 
def wp_X4_begin  (σ : Sg) (Q : Sg → Prop) : Prop :=
  wp_X7_has 18 (gI (sI σ 1164 7 (1 : Int32)) 1 13) (sI σ 1164 7 (1 : Int32)) (fun r1 => ((r1 = 0 → Q (sI σ 1164 7 (1 : Int32))) ∧ (¬ r1 = 0 → Q (sI (sI σ 1164 7 (1 : Int32)) 1164 6 (2 : Int32)))))
def wl_X4_begin : WP := fun As σ Q => p1r As (fun z0 r0 => onB (Nat.beq z0 1164) (onB r0.isEmpty (wp_X4_begin  σ (fun τ => Q none τ))))
def tb_X4_begin : List (Nat × Instr × Nat) := [(0, (.aload_n 0, 1)), (1, (.iconst 1, 1)), (2, (.putfield 37, 3)), (5, (.aload_n 0, 1)), (6, (.getfield 22, 3)), (9, (.getfield 62, 3)), (12, (.aload_n 0, 1)), (13, (.getfield 18, 3)), (16, (.getfield 83, 3)), (19, (.invokevirtual 88, 3)), (22, (.ifCond .eq 30, 3)), (25, (.aload_n 0, 1)), (26, (.iconst 2, 1)), (27, (.putfield 34, 3)), (30, (.return_, 1))]
def ce_X4_begin : List (Nat × (Nat × Option Nat × WP)) := [(88, (2, some 7, wl_X7_has))]
set_option maxRecDepth 100000 in
set_option maxHeartbeats 4000000 in
theorem ct_X4_begin (l : Launch) : Con l wX yX4_begin cX4_begin 1 none 1 wl_X4_begin := by
  refine sxm_ok l (ft := lkp ft_RX4) (c32 := lkp c32_RX4) (c64 := lkp c64_RX4) (ce := lkp ce_X4_begin) (sf := lkp sf_RX4) (lab := lkp []) (T := tb_X4_begin) (by decide +kernel) ft_RX4_ok c32_RX4_ok c64_RX4_ok (fun x q h => (show ∀ q ∈ ce_X4_begin, ceOK l wX RX4 1 q.1 q.2.1 q.2.2.1 q.2.2.2 from List.forall_mem_cons.mpr ⟨Or.inr (Or.inr (Or.inr ⟨yX7_has, cX7_has, 2, (some .boolean), 0, ct_X7_has l, by decide, by decide, mi_X7_has.1, mi_X7_has.2, ml_RX4_88, mv_X7_has.1, mv_X7_has.2, ⟨_, _, rfl⟩, by decide, by decide +kernel⟩)), fun _ h => absurd h List.not_mem_nil⟩) (x, q) (lkp_mem h)) sf_RX4_ok (by decide +kernel) 400 (fun As σ Q h => ?_)
  replace h := p1r_e h
  obtain ⟨z0, q0, rfl, h⟩ := h
  replace h := onB_e h
  obtain ⟨e0, h⟩ := h
  have e0 := Nat.eq_of_beq_eq_true e0
  subst e0
  replace h := onB_e h
  obtain ⟨e9, h⟩ := h
  have e9 := List.isEmpty_iff.mp e9
  subst e9
  refine ⟨Nat.le_of_ble_eq_true rfl, fun P hP => ?_⟩
  exact h 
def wp_X4_waySteps  (σ : Sg) (Q : Int32 → Prop) : Prop :=
  Q (if ((gI σ 1164 5) - (1 : Int32)) < (0 : Int32) then (0 : Int32) else ((gI σ 1164 5) - (1 : Int32)))
def wl_X4_waySteps : WP := fun As σ Q => p1r As (fun z0 r0 => onB (Nat.beq z0 1164) (onB r0.isEmpty (wp_X4_waySteps  σ (fun x => Q (some (.int x)) σ))))
def tb_X4_waySteps : List (Nat × Instr × Nat) := [(0, (.aload_n 0, 1)), (1, (.getfield 30, 3)), (4, (.iconst 1, 1)), (5, (.isub, 1)), (6, (.iconst 0, 1)), (7, (.invokestatic 124, 3)), (10, (.ireturn, 1))]
def ce_X4_waySteps : List (Nat × (Nat × Option Nat × WP)) := [(124, (2, some 98, fun _ _ _ => False))]
set_option maxRecDepth 100000 in
set_option maxHeartbeats 4000000 in
theorem ct_X4_waySteps (l : Launch) : Con l wX yX4_waySteps cX4_waySteps 1 (some .int) 1 wl_X4_waySteps := by
  refine sxm_ok l (ft := lkp ft_RX4) (c32 := lkp c32_RX4) (c64 := lkp c64_RX4) (ce := lkp ce_X4_waySteps) (sf := lkp sf_RX4) (lab := lkp []) (T := tb_X4_waySteps) (by decide +kernel) ft_RX4_ok c32_RX4_ok c64_RX4_ok (fun x q h => (show ∀ q ∈ ce_X4_waySteps, ceOK l wX RX4 1 q.1 q.2.1 q.2.2.1 q.2.2.2 from List.forall_mem_cons.mpr ⟨Or.inr (Or.inl ⟨rfl, by decide, big_in 785 (by decide +kernel) (by decide +kernel), big_in 94 (by decide +kernel) (by decide +kernel), big_in 62 (by decide +kernel) (by decide +kernel), big_in 95 (by decide +kernel) (by decide +kernel)⟩), fun _ h => absurd h List.not_mem_nil⟩) (x, q) (lkp_mem h)) sf_RX4_ok (by decide +kernel) 400 (fun As σ Q h => ?_)
  replace h := p1r_e h
  obtain ⟨z0, q0, rfl, h⟩ := h
  replace h := onB_e h
  obtain ⟨e0, h⟩ := h
  have e0 := Nat.eq_of_beq_eq_true e0
  subst e0
  replace h := onB_e h
  obtain ⟨e9, h⟩ := h
  have e9 := List.isEmpty_iff.mp e9
  subst e9
  refine ⟨Nat.le_of_ble_eq_true rfl, fun P hP => ?_⟩
  exact h 
def wp_X4_stateOfWay (x1 : Int32) (σ : Sg) (Q : Int32 → Prop) : Prop :=
  (((gI σ 1164 5) = 0 → Q (gI σ 1 13)) ∧ (¬ (gI σ 1164 5) = 0 → wp_X4_troubleState (((gI σ 1164 5) - (1 : Int32)) - x1) σ (fun r1 => Q r1)))
def wl_X4_stateOfWay : WP := fun As σ Q => p1r As (fun z0 r0 => onB (Nat.beq z0 1164) (p1i r0 (fun x1 r1 => onB r1.isEmpty (wp_X4_stateOfWay x1 σ (fun x => Q (some (.int x)) σ)))))
def tb_X4_stateOfWay : List (Nat × Instr × Nat) := [(0, (.aload_n 0, 1)), (1, (.getfield 30, 3)), (4, (.ifCond .ne 17, 3)), (7, (.aload_n 0, 1)), (8, (.getfield 18, 3)), (11, (.getfield 83, 3)), (14, (.goto 29, 3)), (17, (.aload_n 0, 1)), (18, (.aload_n 0, 1)), (19, (.getfield 30, 3)), (22, (.iconst 1, 1)), (23, (.isub, 1)), (24, (.iload_n 1, 1)), (25, (.isub, 1)), (26, (.invokevirtual 92, 3)), (29, (.ireturn, 1))]
def ce_X4_stateOfWay : List (Nat × (Nat × Option Nat × WP)) := [(92, (2, some 4, wl_X4_troubleState))]
set_option maxRecDepth 100000 in
set_option maxHeartbeats 4000000 in
theorem ct_X4_stateOfWay (l : Launch) : Con l wX yX4_stateOfWay cX4_stateOfWay 2 (some .int) 1 wl_X4_stateOfWay := by
  refine sxm_ok l (ft := lkp ft_RX4) (c32 := lkp c32_RX4) (c64 := lkp c64_RX4) (ce := lkp ce_X4_stateOfWay) (sf := lkp sf_RX4) (lab := lkp []) (T := tb_X4_stateOfWay) (by decide +kernel) ft_RX4_ok c32_RX4_ok c64_RX4_ok (fun x q h => (show ∀ q ∈ ce_X4_stateOfWay, ceOK l wX RX4 1 q.1 q.2.1 q.2.2.1 q.2.2.2 from List.forall_mem_cons.mpr ⟨Or.inr (Or.inr (Or.inr ⟨yX4_troubleState, cX4_troubleState, 2, (some .int), 0, ct_X4_troubleState l, by decide, by decide, mi_X4_troubleState.1, mi_X4_troubleState.2, ml_RX4_92, mv_X4_troubleState.1, mv_X4_troubleState.2, ⟨_, _, rfl⟩, by decide, by decide +kernel⟩)), fun _ h => absurd h List.not_mem_nil⟩) (x, q) (lkp_mem h)) sf_RX4_ok (by decide +kernel) 400 (fun As σ Q h => ?_)
  replace h := p1r_e h
  obtain ⟨z0, q0, rfl, h⟩ := h
  replace h := onB_e h
  obtain ⟨e0, h⟩ := h
  have e0 := Nat.eq_of_beq_eq_true e0
  subst e0
  replace h := p1i_e h
  obtain ⟨x1, q1, rfl, h⟩ := h
  replace h := onB_e h
  obtain ⟨e9, h⟩ := h
  have e9 := List.isEmpty_iff.mp e9
  subst e9
  refine ⟨Nat.le_of_ble_eq_true rfl, fun P hP => ?_⟩
  exact h 
def wp_X7_becomeEmpty (o : Nat) (σ : Sg) (Q : Sg → Prop) : Prop :=
  onB (isK wX o 7) (wp_X7_becomeFirst o (0 : Int32) σ (fun s1 => Q s1))
def wl_X7_becomeEmpty : WP := fun As σ Q => p1r As (fun o r0 => onB r0.isEmpty (wp_X7_becomeEmpty o σ (fun τ => Q none τ)))
def tb_X7_becomeEmpty : List (Nat × Instr × Nat) := [(0, (.aload_n 0, 1)), (1, (.iconst 0, 1)), (2, (.invokevirtual 15, 3)), (5, (.return_, 1))]
def ce_X7_becomeEmpty : List (Nat × (Nat × Option Nat × WP)) := [(15, (2, some 7, wl_X7_becomeFirst))]
set_option maxRecDepth 100000 in
set_option maxHeartbeats 4000000 in
theorem ct_X7_becomeEmpty (l : Launch) : Con l wX yX7_becomeEmpty cX7_becomeEmpty 1 none 1 wl_X7_becomeEmpty := by
  refine sxm_ok l (ft := lkp ft_RX7) (c32 := lkp c32_RX7) (c64 := lkp c64_RX7) (ce := lkp ce_X7_becomeEmpty) (sf := lkp sf_RX7) (lab := lkp []) (T := tb_X7_becomeEmpty) (by decide +kernel) ft_RX7_ok c32_RX7_ok c64_RX7_ok (fun x q h => (show ∀ q ∈ ce_X7_becomeEmpty, ceOK l wX RX7 1 q.1 q.2.1 q.2.2.1 q.2.2.2 from List.forall_mem_cons.mpr ⟨Or.inr (Or.inr (Or.inr ⟨yX7_becomeFirst, cX7_becomeFirst, 4, none, 0, ct_X7_becomeFirst l, by decide, by decide, mi_X7_becomeFirst.1, mi_X7_becomeFirst.2, ml_RX7_15, mv_X7_becomeFirst.1, mv_X7_becomeFirst.2, ⟨_, _, rfl⟩, by decide, by decide +kernel⟩)), fun _ h => absurd h List.not_mem_nil⟩) (x, q) (lkp_mem h)) sf_RX7_ok (by decide +kernel) 400 (fun As σ Q h => ?_)
  replace h := p1r_e h
  obtain ⟨o, q0, rfl, h⟩ := h
  replace h := onB_e h
  obtain ⟨e9, h⟩ := h
  have e9 := List.isEmpty_iff.mp e9
  subst e9
  refine ⟨Nat.le_of_ble_eq_true rfl, fun P hP => ?_⟩
  exact h 
def wp_X7_becomeOnly (o : Nat) (x1 : Int32) (σ : Sg) (Q : Sg → Prop) : Prop :=
  onB (isK wX o 7) (wp_X7_becomeFirst o (0 : Int32) σ (fun s1 => onB (isK wX o 7) (wp_X7_put o x1 s1 (fun s2 => Q s2))))
def wl_X7_becomeOnly : WP := fun As σ Q => p1r As (fun o r0 => p1i r0 (fun x1 r1 => onB r1.isEmpty (wp_X7_becomeOnly o x1 σ (fun τ => Q none τ))))
def tb_X7_becomeOnly : List (Nat × Instr × Nat) := [(0, (.aload_n 0, 1)), (1, (.iconst 0, 1)), (2, (.invokevirtual 15, 3)), (5, (.aload_n 0, 1)), (6, (.iload_n 1, 1)), (7, (.invokevirtual 19, 3)), (10, (.return_, 1))]
def ce_X7_becomeOnly : List (Nat × (Nat × Option Nat × WP)) := [(15, (2, some 7, wl_X7_becomeFirst)), (19, (2, some 7, wl_X7_put))]
set_option maxRecDepth 100000 in
set_option maxHeartbeats 4000000 in
theorem ct_X7_becomeOnly (l : Launch) : Con l wX yX7_becomeOnly cX7_becomeOnly 2 none 1 wl_X7_becomeOnly := by
  refine sxm_ok l (ft := lkp ft_RX7) (c32 := lkp c32_RX7) (c64 := lkp c64_RX7) (ce := lkp ce_X7_becomeOnly) (sf := lkp sf_RX7) (lab := lkp []) (T := tb_X7_becomeOnly) (by decide +kernel) ft_RX7_ok c32_RX7_ok c64_RX7_ok (fun x q h => (show ∀ q ∈ ce_X7_becomeOnly, ceOK l wX RX7 1 q.1 q.2.1 q.2.2.1 q.2.2.2 from List.forall_mem_cons.mpr ⟨Or.inr (Or.inr (Or.inr ⟨yX7_becomeFirst, cX7_becomeFirst, 4, none, 0, ct_X7_becomeFirst l, by decide, by decide, mi_X7_becomeFirst.1, mi_X7_becomeFirst.2, ml_RX7_15, mv_X7_becomeFirst.1, mv_X7_becomeFirst.2, ⟨_, _, rfl⟩, by decide, by decide +kernel⟩)), List.forall_mem_cons.mpr ⟨Or.inr (Or.inr (Or.inr ⟨yX7_put, cX7_put, 2, none, 0, ct_X7_put l, by decide, by decide, mi_X7_put.1, mi_X7_put.2, ml_RX7_19, mv_X7_put.1, mv_X7_put.2, ⟨_, _, rfl⟩, by decide, by decide +kernel⟩)), fun _ h => absurd h List.not_mem_nil⟩⟩) (x, q) (lkp_mem h)) sf_RX7_ok (by decide +kernel) 400 (fun As σ Q h => ?_)
  replace h := p1r_e h
  obtain ⟨o, q0, rfl, h⟩ := h
  replace h := p1i_e h
  obtain ⟨x1, q1, rfl, h⟩ := h
  replace h := onB_e h
  obtain ⟨e9, h⟩ := h
  have e9 := List.isEmpty_iff.mp e9
  subst e9
  refine ⟨Nat.le_of_ble_eq_true rfl, fun P hP => ?_⟩
  exact h 
def wp_X7_becomeCube (o : Nat) (x1 : Int32) (σ : Sg) (Q : Sg → Prop) : Prop :=
  ∀ L13 : Int32 → Int32 → Int32 → Sg → Prop,
  (∀ (x2 : Int32) (x3 : Int32) (x4 : Int32) (τ : Sg), ((x4 < (4 : Int32) → onB (isK wX o 7) (wp_X7_wordOfCube x2 x3 x4 τ (fun r1 => onB (isK wX (wR wX o 0) 22) ((vp_in x4 (wN wX (wR wX o 0)) ∧ L13 x2 x3 (x4 + (1 : Int32)) (sL τ (wR wX o 0) (x4).toNatClampNeg r1)))))) ∧ (¬ x4 < (4 : Int32) → Q τ)) → L13 x2 x3 x4 τ) →
  wp_X9_maskOf x1 σ (fun r2 => wp_X9_valuesOf x1 σ (fun r3 => L13 r2 r3 (0 : Int32) σ))
def wl_X7_becomeCube : WP := fun As σ Q => p1r As (fun o r0 => p1i r0 (fun x1 r1 => onB r1.isEmpty (wp_X7_becomeCube o x1 σ (fun τ => Q none τ))))
def tb_X7_becomeCube : List (Nat × Instr × Nat) := [(0, (.iload_n 1, 1)), (1, (.invokestatic 24, 3)), (4, (.istore_n 2, 1)), (5, (.iload_n 1, 1)), (6, (.invokestatic 28, 3)), (9, (.istore_n 3, 1)), (10, (.iconst 0, 1)), (11, (.istore 4, 2)), (13, (.iload 4, 2)), (15, (.iconst 4, 1)), (16, (.if_icmp .ge 39, 3)), (19, (.aload_n 0, 1)), (20, (.getfield 11, 3)), (23, (.iload 4, 2)), (25, (.iload_n 2, 1)), (26, (.iload_n 3, 1)), (27, (.iload 4, 2)), (29, (.invokestatic 31, 3)), (32, (.lastore, 1)), (33, (.iinc 4 1, 3)), (36, (.goto 13, 3)), (39, (.return_, 1))]
def ce_X7_becomeCube : List (Nat × (Nat × Option Nat × WP)) := [(24, (1, none, wl_X9_maskOf)), (28, (1, none, wl_X9_valuesOf)), (31, (3, none, wl_X7_wordOfCube))]
set_option maxRecDepth 100000 in
set_option maxHeartbeats 4000000 in
theorem ct_X7_becomeCube (l : Launch) : Con l wX yX7_becomeCube cX7_becomeCube 5 none 1 wl_X7_becomeCube := by
  refine sxm_ok l (ft := lkp ft_RX7) (c32 := lkp c32_RX7) (c64 := lkp c64_RX7) (ce := lkp ce_X7_becomeCube) (sf := lkp sf_RX7) (lab := lkp [(13, [0, 2, 3, 4])]) (T := tb_X7_becomeCube) (by decide +kernel) ft_RX7_ok c32_RX7_ok c64_RX7_ok (fun x q h => (show ∀ q ∈ ce_X7_becomeCube, ceOK l wX RX7 1 q.1 q.2.1 q.2.2.1 q.2.2.2 from List.forall_mem_cons.mpr ⟨Or.inr (Or.inr (Or.inr ⟨yX9_maskOf, cX9_maskOf, 1, (some .int), 0, ct_X9_maskOf l, by decide, by decide, mi_X9_maskOf.1, mi_X9_maskOf.2, Or.inr ml_RX7_24, ms_X9_maskOf, by decide +kernel⟩)), List.forall_mem_cons.mpr ⟨Or.inr (Or.inr (Or.inr ⟨yX9_valuesOf, cX9_valuesOf, 1, (some .int), 0, ct_X9_valuesOf l, by decide, by decide, mi_X9_valuesOf.1, mi_X9_valuesOf.2, Or.inr ml_RX7_28, ms_X9_valuesOf, by decide +kernel⟩)), List.forall_mem_cons.mpr ⟨Or.inr (Or.inr (Or.inr ⟨yX7_wordOfCube, cX7_wordOfCube, 8, (some .long), 0, ct_X7_wordOfCube l, by decide, by decide, mi_X7_wordOfCube.1, mi_X7_wordOfCube.2, Or.inl ml_RX7_31, ms_X7_wordOfCube, by decide +kernel⟩)), fun _ h => absurd h List.not_mem_nil⟩⟩⟩) (x, q) (lkp_mem h)) sf_RX7_ok (by decide +kernel) 400 (fun As σ Q h => ?_)
  replace h := p1r_e h
  obtain ⟨o, q0, rfl, h⟩ := h
  replace h := p1i_e h
  obtain ⟨x1, q1, rfl, h⟩ := h
  replace h := onB_e h
  obtain ⟨e9, h⟩ := h
  have e9 := List.isEmpty_iff.mp e9
  subst e9
  refine ⟨Nat.le_of_ble_eq_true rfl, fun P hP => ?_⟩
  exact h (fun x2 x3 x4 τ => P 13 [.ref o, .int x2, .int x3, .int x4] τ) (fun x2 x3 x4 τ hb => hP 13 [.ref o, .int x2, .int x3, .int x4] τ hb)
def wp_X7_dropCube (o : Nat) (x1 : Int32) (σ : Sg) (Q : Sg → Prop) : Prop :=
  ∀ L13 : Int32 → Int32 → Int32 → Sg → Prop,
  (∀ (x2 : Int32) (x3 : Int32) (x4 : Int32) (τ : Sg), ((x4 < (4 : Int32) → onB (isK wX o 7) (onB (isK wX (wR wX o 0) 22) ((vp_in x4 (wN wX (wR wX o 0)) ∧ wp_X7_wordOfCube x2 x3 x4 τ (fun r1 => onB (isK wX (wR wX o 0) 22) ((vp_in x4 (wN wX (wR wX o 0)) ∧ L13 x2 x3 (x4 + (1 : Int32)) (sL τ (wR wX o 0) (x4).toNatClampNeg ((gL τ (wR wX o 0) (x4).toNatClampNeg) &&& (r1 ^^^ (-1 : Int64))))))))))) ∧ (¬ x4 < (4 : Int32) → Q τ)) → L13 x2 x3 x4 τ) →
  wp_X9_maskOf x1 σ (fun r2 => wp_X9_valuesOf x1 σ (fun r3 => L13 r2 r3 (0 : Int32) σ))
def wl_X7_dropCube : WP := fun As σ Q => p1r As (fun o r0 => p1i r0 (fun x1 r1 => onB r1.isEmpty (wp_X7_dropCube o x1 σ (fun τ => Q none τ))))
def tb_X7_dropCube : List (Nat × Instr × Nat) := [(0, (.iload_n 1, 1)), (1, (.invokestatic 24, 3)), (4, (.istore_n 2, 1)), (5, (.iload_n 1, 1)), (6, (.invokestatic 28, 3)), (9, (.istore_n 3, 1)), (10, (.iconst 0, 1)), (11, (.istore 4, 2)), (13, (.iload 4, 2)), (15, (.iconst 4, 1)), (16, (.if_icmp .ge 46, 3)), (19, (.aload_n 0, 1)), (20, (.getfield 11, 3)), (23, (.iload 4, 2)), (25, (.dup2, 1)), (26, (.laload, 1)), (27, (.iload_n 2, 1)), (28, (.iload_n 3, 1)), (29, (.iload 4, 2)), (31, (.invokestatic 31, 3)), (34, (.ldc2_w 22, 3)), (37, (.lxor, 1)), (38, (.land, 1)), (39, (.lastore, 1)), (40, (.iinc 4 1, 3)), (43, (.goto 13, 3)), (46, (.return_, 1))]
def ce_X7_dropCube : List (Nat × (Nat × Option Nat × WP)) := [(24, (1, none, wl_X9_maskOf)), (28, (1, none, wl_X9_valuesOf)), (31, (3, none, wl_X7_wordOfCube))]
set_option maxRecDepth 100000 in
set_option maxHeartbeats 4000000 in
theorem ct_X7_dropCube (l : Launch) : Con l wX yX7_dropCube cX7_dropCube 5 none 1 wl_X7_dropCube := by
  refine sxm_ok l (ft := lkp ft_RX7) (c32 := lkp c32_RX7) (c64 := lkp c64_RX7) (ce := lkp ce_X7_dropCube) (sf := lkp sf_RX7) (lab := lkp [(13, [0, 2, 3, 4])]) (T := tb_X7_dropCube) (by decide +kernel) ft_RX7_ok c32_RX7_ok c64_RX7_ok (fun x q h => (show ∀ q ∈ ce_X7_dropCube, ceOK l wX RX7 1 q.1 q.2.1 q.2.2.1 q.2.2.2 from List.forall_mem_cons.mpr ⟨Or.inr (Or.inr (Or.inr ⟨yX9_maskOf, cX9_maskOf, 1, (some .int), 0, ct_X9_maskOf l, by decide, by decide, mi_X9_maskOf.1, mi_X9_maskOf.2, Or.inr ml_RX7_24, ms_X9_maskOf, by decide +kernel⟩)), List.forall_mem_cons.mpr ⟨Or.inr (Or.inr (Or.inr ⟨yX9_valuesOf, cX9_valuesOf, 1, (some .int), 0, ct_X9_valuesOf l, by decide, by decide, mi_X9_valuesOf.1, mi_X9_valuesOf.2, Or.inr ml_RX7_28, ms_X9_valuesOf, by decide +kernel⟩)), List.forall_mem_cons.mpr ⟨Or.inr (Or.inr (Or.inr ⟨yX7_wordOfCube, cX7_wordOfCube, 8, (some .long), 0, ct_X7_wordOfCube l, by decide, by decide, mi_X7_wordOfCube.1, mi_X7_wordOfCube.2, Or.inl ml_RX7_31, ms_X7_wordOfCube, by decide +kernel⟩)), fun _ h => absurd h List.not_mem_nil⟩⟩⟩) (x, q) (lkp_mem h)) sf_RX7_ok (by decide +kernel) 400 (fun As σ Q h => ?_)
  replace h := p1r_e h
  obtain ⟨o, q0, rfl, h⟩ := h
  replace h := p1i_e h
  obtain ⟨x1, q1, rfl, h⟩ := h
  replace h := onB_e h
  obtain ⟨e9, h⟩ := h
  have e9 := List.isEmpty_iff.mp e9
  subst e9
  refine ⟨Nat.le_of_ble_eq_true rfl, fun P hP => ?_⟩
  exact h (fun x2 x3 x4 τ => P 13 [.ref o, .int x2, .int x3, .int x4] τ) (fun x2 x3 x4 τ hb => hP 13 [.ref o, .int x2, .int x3, .int x4] τ hb)
def wp_X7_meetsCube (o : Nat) (x1 : Int32) (σ : Sg) (Q : Int32 → Prop) : Prop :=
  ∀ L16 : Int32 → Int32 → Int64 → Int32 → Prop,
  (∀ (x2 : Int32) (x3 : Int32) (x4 : Int64) (x6 : Int32), ((x6 < (4 : Int32) → onB (isK wX o 7) (onB (isK wX (wR wX o 0) 22) ((vp_in x6 (wN wX (wR wX o 0)) ∧ wp_X7_wordOfCube x2 x3 x6 σ (fun r1 => L16 x2 x3 (x4 ||| ((gL σ (wR wX o 0) (x6).toNatClampNeg) &&& r1)) (x6 + (1 : Int32))))))) ∧ (¬ x6 < (4 : Int32) → (((lg_cmp x4 (0 : Int64)) = 0 → (nz (0 : Int32) ∧ Q (0 : Int32))) ∧ (¬ (lg_cmp x4 (0 : Int64)) = 0 → (nz (1 : Int32) ∧ Q (1 : Int32)))))) → L16 x2 x3 x4 x6) →
  wp_X9_maskOf x1 σ (fun r2 => wp_X9_valuesOf x1 σ (fun r3 => L16 r2 r3 (0 : Int64) (0 : Int32)))
def wl_X7_meetsCube : WP := fun As σ Q => p1r As (fun o r0 => p1i r0 (fun x1 r1 => onB r1.isEmpty (wp_X7_meetsCube o x1 σ (fun x => Q (some (.int x)) σ))))
def tb_X7_meetsCube : List (Nat × Instr × Nat) := [(0, (.iload_n 1, 1)), (1, (.invokestatic 24, 3)), (4, (.istore_n 2, 1)), (5, (.iload_n 1, 1)), (6, (.invokestatic 28, 3)), (9, (.istore_n 3, 1)), (10, (.lconst 0, 1)), (11, (.lstore 4, 2)), (13, (.iconst 0, 1)), (14, (.istore 6, 2)), (16, (.iload 6, 2)), (18, (.iconst 4, 1)), (19, (.if_icmp .ge 48, 3)), (22, (.lload 4, 2)), (24, (.aload_n 0, 1)), (25, (.getfield 11, 3)), (28, (.iload 6, 2)), (30, (.laload, 1)), (31, (.iload_n 2, 1)), (32, (.iload_n 3, 1)), (33, (.iload 6, 2)), (35, (.invokestatic 31, 3)), (38, (.land, 1)), (39, (.lor, 1)), (40, (.lstore 4, 2)), (42, (.iinc 6 1, 3)), (45, (.goto 16, 3)), (48, (.lload 4, 2)), (50, (.lconst 0, 1)), (51, (.lcmp, 1)), (52, (.ifCond .eq 59, 3)), (55, (.iconst 1, 1)), (56, (.goto 60, 3)), (59, (.iconst 0, 1)), (60, (.ireturn, 1))]
def ce_X7_meetsCube : List (Nat × (Nat × Option Nat × WP)) := [(24, (1, none, wl_X9_maskOf)), (28, (1, none, wl_X9_valuesOf)), (31, (3, none, wl_X7_wordOfCube))]
set_option maxRecDepth 100000 in
set_option maxHeartbeats 4000000 in
theorem ct_X7_meetsCube (l : Launch) : Con l wX yX7_meetsCube cX7_meetsCube 7 (some .boolean) 1 wl_X7_meetsCube := by
  refine sxm_ok l (ft := lkp ft_RX7) (c32 := lkp c32_RX7) (c64 := lkp c64_RX7) (ce := lkp ce_X7_meetsCube) (sf := lkp sf_RX7) (lab := lkp [(16, [0, 2, 3, 4, 6])]) (T := tb_X7_meetsCube) (by decide +kernel) ft_RX7_ok c32_RX7_ok c64_RX7_ok (fun x q h => (show ∀ q ∈ ce_X7_meetsCube, ceOK l wX RX7 1 q.1 q.2.1 q.2.2.1 q.2.2.2 from List.forall_mem_cons.mpr ⟨Or.inr (Or.inr (Or.inr ⟨yX9_maskOf, cX9_maskOf, 1, (some .int), 0, ct_X9_maskOf l, by decide, by decide, mi_X9_maskOf.1, mi_X9_maskOf.2, Or.inr ml_RX7_24, ms_X9_maskOf, by decide +kernel⟩)), List.forall_mem_cons.mpr ⟨Or.inr (Or.inr (Or.inr ⟨yX9_valuesOf, cX9_valuesOf, 1, (some .int), 0, ct_X9_valuesOf l, by decide, by decide, mi_X9_valuesOf.1, mi_X9_valuesOf.2, Or.inr ml_RX7_28, ms_X9_valuesOf, by decide +kernel⟩)), List.forall_mem_cons.mpr ⟨Or.inr (Or.inr (Or.inr ⟨yX7_wordOfCube, cX7_wordOfCube, 8, (some .long), 0, ct_X7_wordOfCube l, by decide, by decide, mi_X7_wordOfCube.1, mi_X7_wordOfCube.2, Or.inl ml_RX7_31, ms_X7_wordOfCube, by decide +kernel⟩)), fun _ h => absurd h List.not_mem_nil⟩⟩⟩) (x, q) (lkp_mem h)) sf_RX7_ok (by decide +kernel) 400 (fun As σ Q h => ?_)
  replace h := p1r_e h
  obtain ⟨o, q0, rfl, h⟩ := h
  replace h := p1i_e h
  obtain ⟨x1, q1, rfl, h⟩ := h
  replace h := onB_e h
  obtain ⟨e9, h⟩ := h
  have e9 := List.isEmpty_iff.mp e9
  subst e9
  refine ⟨Nat.le_of_ble_eq_true rfl, fun P hP => ?_⟩
  exact h (fun x2 x3 x4 x6 => P 16 [.ref o, .int x2, .int x3, .long x4, .int x6] σ) (fun x2 x3 x4 x6 hb => hP 16 [.ref o, .int x2, .int x3, .long x4, .int x6] σ hb)
def wp_X7_leastCommon (o : Nat) (x1 : Nat) (σ : Sg) (Q : Int32 → Prop) : Prop :=
  ∀ L2 : Int32 → Prop,
  (∀ (x2 : Int32), ((x2 < (256 : Int32) → onB (isK wX o 7) (wp_X7_has o x2 σ (fun r1 => ((r1 = 0 → L2 (x2 + (1 : Int32))) ∧ (¬ r1 = 0 → onB (isK wX x1 7) (wp_X7_has x1 x2 σ (fun r2 => ((r2 = 0 → L2 (x2 + (1 : Int32))) ∧ (¬ r2 = 0 → Q x2))))))))) ∧ (¬ x2 < (256 : Int32) → Q (-1 : Int32))) → L2 x2) →
  L2 (0 : Int32)
def wl_X7_leastCommon : WP := fun As σ Q => p1r As (fun o r0 => p1r r0 (fun x1 r1 => onB r1.isEmpty (wp_X7_leastCommon o x1 σ (fun x => Q (some (.int x)) σ))))
def tb_X7_leastCommon : List (Nat × Instr × Nat) := [(0, (.iconst 0, 1)), (1, (.istore_n 2, 1)), (2, (.iload_n 2, 1)), (3, (.sipush 256, 3)), (6, (.if_icmp .ge 33, 3)), (9, (.aload_n 0, 1)), (10, (.iload_n 2, 1)), (11, (.invokevirtual 38, 3)), (14, (.ifCond .eq 27, 3)), (17, (.aload_n 1, 1)), (18, (.iload_n 2, 1)), (19, (.invokevirtual 38, 3)), (22, (.ifCond .eq 27, 3)), (25, (.iload_n 2, 1)), (26, (.ireturn, 1)), (27, (.iinc 2 1, 3)), (30, (.goto 2, 3)), (33, (.iconst (-1), 1)), (34, (.ireturn, 1))]
def ce_X7_leastCommon : List (Nat × (Nat × Option Nat × WP)) := [(38, (2, some 7, wl_X7_has))]
set_option maxRecDepth 100000 in
set_option maxHeartbeats 4000000 in
theorem ct_X7_leastCommon (l : Launch) : Con l wX yX7_leastCommon cX7_leastCommon 3 (some .int) 1 wl_X7_leastCommon := by
  refine sxm_ok l (ft := lkp ft_RX7) (c32 := lkp c32_RX7) (c64 := lkp c64_RX7) (ce := lkp ce_X7_leastCommon) (sf := lkp sf_RX7) (lab := lkp [(2, [0, 1, 2])]) (T := tb_X7_leastCommon) (by decide +kernel) ft_RX7_ok c32_RX7_ok c64_RX7_ok (fun x q h => (show ∀ q ∈ ce_X7_leastCommon, ceOK l wX RX7 1 q.1 q.2.1 q.2.2.1 q.2.2.2 from List.forall_mem_cons.mpr ⟨Or.inr (Or.inr (Or.inr ⟨yX7_has, cX7_has, 2, (some .boolean), 0, ct_X7_has l, by decide, by decide, mi_X7_has.1, mi_X7_has.2, ml_RX7_38, mv_X7_has.1, mv_X7_has.2, ⟨_, _, rfl⟩, by decide, by decide +kernel⟩)), fun _ h => absurd h List.not_mem_nil⟩) (x, q) (lkp_mem h)) sf_RX7_ok (by decide +kernel) 400 (fun As σ Q h => ?_)
  replace h := p1r_e h
  obtain ⟨o, q0, rfl, h⟩ := h
  replace h := p1r_e h
  obtain ⟨x1, q1, rfl, h⟩ := h
  replace h := onB_e h
  obtain ⟨e9, h⟩ := h
  have e9 := List.isEmpty_iff.mp e9
  subst e9
  refine ⟨Nat.le_of_ble_eq_true rfl, fun P hP => ?_⟩
  exact h (fun x2 => P 2 [.ref o, .ref x1, .int x2] σ) (fun x2 hb => hP 2 [.ref o, .ref x1, .int x2] σ hb)
def wp_X7_leastOutside (o : Nat) (x1 : Nat) (σ : Sg) (Q : Int32 → Prop) : Prop :=
  ∀ L2 : Int32 → Prop,
  (∀ (x2 : Int32), ((x2 < (256 : Int32) → onB (isK wX o 7) (wp_X7_has o x2 σ (fun r1 => ((r1 = 0 → L2 (x2 + (1 : Int32))) ∧ (¬ r1 = 0 → onB (isK wX x1 7) (wp_X7_has x1 x2 σ (fun r2 => ((r2 = 0 → Q x2) ∧ (¬ r2 = 0 → L2 (x2 + (1 : Int32))))))))))) ∧ (¬ x2 < (256 : Int32) → Q (-1 : Int32))) → L2 x2) →
  L2 (0 : Int32)
def wl_X7_leastOutside : WP := fun As σ Q => p1r As (fun o r0 => p1r r0 (fun x1 r1 => onB r1.isEmpty (wp_X7_leastOutside o x1 σ (fun x => Q (some (.int x)) σ))))
def tb_X7_leastOutside : List (Nat × Instr × Nat) := [(0, (.iconst 0, 1)), (1, (.istore_n 2, 1)), (2, (.iload_n 2, 1)), (3, (.sipush 256, 3)), (6, (.if_icmp .ge 33, 3)), (9, (.aload_n 0, 1)), (10, (.iload_n 2, 1)), (11, (.invokevirtual 38, 3)), (14, (.ifCond .eq 27, 3)), (17, (.aload_n 1, 1)), (18, (.iload_n 2, 1)), (19, (.invokevirtual 38, 3)), (22, (.ifCond .ne 27, 3)), (25, (.iload_n 2, 1)), (26, (.ireturn, 1)), (27, (.iinc 2 1, 3)), (30, (.goto 2, 3)), (33, (.iconst (-1), 1)), (34, (.ireturn, 1))]
def ce_X7_leastOutside : List (Nat × (Nat × Option Nat × WP)) := [(38, (2, some 7, wl_X7_has))]
set_option maxRecDepth 100000 in
set_option maxHeartbeats 4000000 in
theorem ct_X7_leastOutside (l : Launch) : Con l wX yX7_leastOutside cX7_leastOutside 3 (some .int) 1 wl_X7_leastOutside := by
  refine sxm_ok l (ft := lkp ft_RX7) (c32 := lkp c32_RX7) (c64 := lkp c64_RX7) (ce := lkp ce_X7_leastOutside) (sf := lkp sf_RX7) (lab := lkp [(2, [0, 1, 2])]) (T := tb_X7_leastOutside) (by decide +kernel) ft_RX7_ok c32_RX7_ok c64_RX7_ok (fun x q h => (show ∀ q ∈ ce_X7_leastOutside, ceOK l wX RX7 1 q.1 q.2.1 q.2.2.1 q.2.2.2 from List.forall_mem_cons.mpr ⟨Or.inr (Or.inr (Or.inr ⟨yX7_has, cX7_has, 2, (some .boolean), 0, ct_X7_has l, by decide, by decide, mi_X7_has.1, mi_X7_has.2, ml_RX7_38, mv_X7_has.1, mv_X7_has.2, ⟨_, _, rfl⟩, by decide, by decide +kernel⟩)), fun _ h => absurd h List.not_mem_nil⟩) (x, q) (lkp_mem h)) sf_RX7_ok (by decide +kernel) 400 (fun As σ Q h => ?_)
  replace h := p1r_e h
  obtain ⟨o, q0, rfl, h⟩ := h
  replace h := p1r_e h
  obtain ⟨x1, q1, rfl, h⟩ := h
  replace h := onB_e h
  obtain ⟨e9, h⟩ := h
  have e9 := List.isEmpty_iff.mp e9
  subst e9
  refine ⟨Nat.le_of_ble_eq_true rfl, fun P hP => ?_⟩
  exact h (fun x2 => P 2 [.ref o, .ref x1, .int x2] σ) (fun x2 hb => hP 2 [.ref o, .ref x1, .int x2] σ hb)
def wp_X7_howMany (o : Nat) (σ : Sg) (Q : Int32 → Prop) : Prop :=
  ∀ L4 : Int32 → Int32 → Prop,
  (∀ (x1 : Int32) (x2 : Int32), ((x2 < (4 : Int32) → onB (isK wX o 7) (onB (isK wX (wR wX o 0) 22) ((vp_in x2 (wN wX (wR wX o 0)) ∧ wp_J13_bitCount_95d88 (gL σ (wR wX o 0) (x2).toNatClampNeg) σ (fun r1 => L4 (x1 + r1) (x2 + (1 : Int32))))))) ∧ (¬ x2 < (4 : Int32) → Q x1)) → L4 x1 x2) →
  L4 (0 : Int32) (0 : Int32)
def wl_X7_howMany : WP := fun As σ Q => p1r As (fun o r0 => onB r0.isEmpty (wp_X7_howMany o σ (fun x => Q (some (.int x)) σ)))
def tb_X7_howMany : List (Nat × Instr × Nat) := [(0, (.iconst 0, 1)), (1, (.istore_n 1, 1)), (2, (.iconst 0, 1)), (3, (.istore_n 2, 1)), (4, (.iload_n 2, 1)), (5, (.iconst 4, 1)), (6, (.if_icmp .ge 27, 3)), (9, (.iload_n 1, 1)), (10, (.aload_n 0, 1)), (11, (.getfield 11, 3)), (14, (.iload_n 2, 1)), (15, (.laload, 1)), (16, (.invokestatic 42, 3)), (19, (.iadd, 1)), (20, (.istore_n 1, 1)), (21, (.iinc 2 1, 3)), (24, (.goto 4, 3)), (27, (.iload_n 1, 1)), (28, (.ireturn, 1))]
def ce_X7_howMany : List (Nat × (Nat × Option Nat × WP)) := [(42, (1, none, wl_J13_bitCount_95d88))]
set_option maxRecDepth 100000 in
set_option maxHeartbeats 4000000 in
theorem ct_X7_howMany (l : Launch) : Con l wX yX7_howMany cX7_howMany 3 (some .int) 1 wl_X7_howMany := by
  refine sxm_ok l (ft := lkp ft_RX7) (c32 := lkp c32_RX7) (c64 := lkp c64_RX7) (ce := lkp ce_X7_howMany) (sf := lkp sf_RX7) (lab := lkp [(4, [0, 1, 2])]) (T := tb_X7_howMany) (by decide +kernel) ft_RX7_ok c32_RX7_ok c64_RX7_ok (fun x q h => (show ∀ q ∈ ce_X7_howMany, ceOK l wX RX7 1 q.1 q.2.1 q.2.2.1 q.2.2.2 from List.forall_mem_cons.mpr ⟨Or.inr (Or.inr (Or.inr ⟨yJ13_bitCount_95d88, cJ13_bitCount_95d88, 2, (some .int), 0, ct_J13_bitCount_95d88 l, by decide, by decide, mi_J13_bitCount_95d88.1, mi_J13_bitCount_95d88.2, Or.inl ml_RX7_42, ms_J13_bitCount_95d88, by decide +kernel⟩)), fun _ h => absurd h List.not_mem_nil⟩) (x, q) (lkp_mem h)) sf_RX7_ok (by decide +kernel) 400 (fun As σ Q h => ?_)
  replace h := p1r_e h
  obtain ⟨o, q0, rfl, h⟩ := h
  replace h := onB_e h
  obtain ⟨e9, h⟩ := h
  have e9 := List.isEmpty_iff.mp e9
  subst e9
  refine ⟨Nat.le_of_ble_eq_true rfl, fun P hP => ?_⟩
  exact h (fun x1 x2 => P 4 [.ref o, .int x1, .int x2] σ) (fun x1 x2 hb => hP 4 [.ref o, .int x1, .int x2] σ hb)
def wp_X8_putAllFrom (x1 : Nat) (x2 : Nat) (σ : Sg) (Q : Sg → Prop) : Prop :=
  ∀ L2 : Int32 → Sg → Prop,
  (∀ (x3 : Int32) (τ : Sg), wp_X3_states τ (fun r1 => ((x3 < r1 → onB (isK wX x1 7) (wp_X7_has x1 x3 τ (fun r2 => ((r2 = 0 → L2 (x3 + (1 : Int32)) τ) ∧ (¬ r2 = 0 → wp_X8_from x3 τ (fun r3 => onB (isK wX x2 7) (wp_X7_putAll x2 r3 τ (fun s4 => L2 (x3 + (1 : Int32)) s4)))))))) ∧ (¬ x3 < r1 → Q τ))) → L2 x3 τ) →
  L2 (0 : Int32) σ
def wl_X8_putAllFrom : WP := fun As σ Q => p1r As (fun z0 r0 => onB (Nat.beq z0 13) (p1r r0 (fun x1 r1 => p1r r1 (fun x2 r2 => onB r2.isEmpty (wp_X8_putAllFrom x1 x2 σ (fun τ => Q none τ))))))
def tb_X8_putAllFrom : List (Nat × Instr × Nat) := [(0, (.iconst 0, 1)), (1, (.istore_n 3, 1)), (2, (.iload_n 3, 1)), (3, (.aload_n 0, 1)), (4, (.getfield 47, 3)), (7, (.invokevirtual 54, 3)), (10, (.if_icmp .ge 36, 3)), (13, (.aload_n 1, 1)), (14, (.iload_n 3, 1)), (15, (.invokevirtual 88, 3)), (18, (.ifCond .eq 30, 3)), (21, (.aload_n 2, 1)), (22, (.aload_n 0, 1)), (23, (.iload_n 3, 1)), (24, (.invokevirtual 70, 3)), (27, (.invokevirtual 92, 3)), (30, (.iinc 3 1, 3)), (33, (.goto 2, 3)), (36, (.return_, 1))]
def ce_X8_putAllFrom : List (Nat × (Nat × Option Nat × WP)) := [(54, (1, some 3, wl_X3_states)), (88, (2, some 7, wl_X7_has)), (70, (2, some 8, wl_X8_from)), (92, (2, some 7, wl_X7_putAll))]
set_option maxRecDepth 100000 in
set_option maxHeartbeats 4000000 in
theorem ct_X8_putAllFrom (l : Launch) : Con l wX yX8_putAllFrom cX8_putAllFrom 4 none 1 wl_X8_putAllFrom := by
  refine sxm_ok l (ft := lkp ft_RX8) (c32 := lkp c32_RX8) (c64 := lkp c64_RX8) (ce := lkp ce_X8_putAllFrom) (sf := lkp sf_RX8) (lab := lkp [(2, [0, 1, 2, 3])]) (T := tb_X8_putAllFrom) (by decide +kernel) ft_RX8_ok c32_RX8_ok c64_RX8_ok (fun x q h => (show ∀ q ∈ ce_X8_putAllFrom, ceOK l wX RX8 1 q.1 q.2.1 q.2.2.1 q.2.2.2 from List.forall_mem_cons.mpr ⟨Or.inr (Or.inr (Or.inr ⟨yX3_states, cX3_states, 1, (some .int), 0, ct_X3_states l, by decide, by decide, mi_X3_states.1, mi_X3_states.2, ml_RX8_54, mv_X3_states.1, mv_X3_states.2, ⟨_, _, rfl⟩, by decide, by decide +kernel⟩)), List.forall_mem_cons.mpr ⟨Or.inr (Or.inr (Or.inr ⟨yX7_has, cX7_has, 2, (some .boolean), 0, ct_X7_has l, by decide, by decide, mi_X7_has.1, mi_X7_has.2, ml_RX8_88, mv_X7_has.1, mv_X7_has.2, ⟨_, _, rfl⟩, by decide, by decide +kernel⟩)), List.forall_mem_cons.mpr ⟨Or.inr (Or.inr (Or.inr ⟨yX8_from, cX8_from, 2, (some (.object "FrameProver$StateSet")), 0, ct_X8_from l, by decide, by decide, mi_X8_from.1, mi_X8_from.2, ml_RX8_70, mv_X8_from.1, mv_X8_from.2, ⟨_, _, rfl⟩, by decide, by decide +kernel⟩)), List.forall_mem_cons.mpr ⟨Or.inr (Or.inr (Or.inr ⟨yX7_putAll, cX7_putAll, 3, none, 0, ct_X7_putAll l, by decide, by decide, mi_X7_putAll.1, mi_X7_putAll.2, ml_RX8_92, mv_X7_putAll.1, mv_X7_putAll.2, ⟨_, _, rfl⟩, by decide, by decide +kernel⟩)), fun _ h => absurd h List.not_mem_nil⟩⟩⟩⟩) (x, q) (lkp_mem h)) sf_RX8_ok (by decide +kernel) 400 (fun As σ Q h => ?_)
  replace h := p1r_e h
  obtain ⟨z0, q0, rfl, h⟩ := h
  replace h := onB_e h
  obtain ⟨e0, h⟩ := h
  have e0 := Nat.eq_of_beq_eq_true e0
  subst e0
  replace h := p1r_e h
  obtain ⟨x1, q1, rfl, h⟩ := h
  replace h := p1r_e h
  obtain ⟨x2, q2, rfl, h⟩ := h
  replace h := onB_e h
  obtain ⟨e9, h⟩ := h
  have e9 := List.isEmpty_iff.mp e9
  subst e9
  refine ⟨Nat.le_of_ble_eq_true rfl, fun P hP => ?_⟩
  exact h (fun x3 τ => P 2 [.ref 13, .ref x1, .ref x2, .int x3] τ) (fun x3 τ hb => hP 2 [.ref 13, .ref x1, .ref x2, .int x3] τ hb)
def wp_X8_closeLeads  (σ : Sg) (Q : Sg → Prop) : Prop :=
  ∀ L10 : Int32 → Int32 → Sg → Prop,
  ∀ L36 : Int32 → Int32 → Sg → Prop,
  ∀ L43 : Int32 → Int32 → Int32 → Sg → Prop,
  (∀ (x1 : Int32) (x2 : Int32) (τ : Sg), ((x2 < x1 → wp_X8_leadsFrom x2 τ (fun r1 => wp_X8_from x2 τ (fun r2 => onB (isK wX r1 7) (wp_X7_becomeLike r1 r2 τ (fun s3 => L10 x1 (x2 + (1 : Int32)) s3))))) ∧ (¬ x2 < x1 → L36 x1 (0 : Int32) τ)) → L10 x1 x2 τ) →
  (∀ (x1 : Int32) (x2 : Int32) (τ : Sg), ((x2 < x1 → L43 x1 x2 (0 : Int32) τ) ∧ (¬ x2 < x1 → Q τ)) → L36 x1 x2 τ) →
  (∀ (x1 : Int32) (x2 : Int32) (x3 : Int32) (τ : Sg), ((x3 < x1 → wp_X8_leadsFrom x3 τ (fun r4 => onB (isK wX r4 7) (wp_X7_has r4 x2 τ (fun r5 => ((r5 = 0 → L43 x1 x2 (x3 + (1 : Int32)) τ) ∧ (¬ r5 = 0 → wp_X8_leadsFrom x3 τ (fun r6 => wp_X8_leadsFrom x2 τ (fun r7 => onB (isK wX r6 7) (wp_X7_putAll r6 r7 τ (fun s8 => L43 x1 x2 (x3 + (1 : Int32)) s8)))))))))) ∧ (¬ x3 < x1 → L36 x1 (x2 + (1 : Int32)) τ)) → L43 x1 x2 x3 τ) →
  wp_X3_states σ (fun r9 => L10 r9 (0 : Int32) σ)
def wl_X8_closeLeads : WP := fun As σ Q => p1r As (fun z0 r0 => onB (Nat.beq z0 13) (onB r0.isEmpty (wp_X8_closeLeads  σ (fun τ => Q none τ))))
def tb_X8_closeLeads : List (Nat × Instr × Nat) := [(0, (.aload_n 0, 1)), (1, (.getfield 47, 3)), (4, (.invokevirtual 54, 3)), (7, (.istore_n 1, 1)), (8, (.iconst 0, 1)), (9, (.istore_n 2, 1)), (10, (.iload_n 2, 1)), (11, (.iload_n 1, 1)), (12, (.if_icmp .ge 34, 3)), (15, (.aload_n 0, 1)), (16, (.iload_n 2, 1)), (17, (.invokevirtual 131, 3)), (20, (.aload_n 0, 1)), (21, (.iload_n 2, 1)), (22, (.invokevirtual 70, 3)), (25, (.invokevirtual 109, 3)), (28, (.iinc 2 1, 3)), (31, (.goto 10, 3)), (34, (.iconst 0, 1)), (35, (.istore_n 2, 1)), (36, (.iload_n 2, 1)), (37, (.iload_n 1, 1)), (38, (.if_icmp .ge 85, 3)), (41, (.iconst 0, 1)), (42, (.istore_n 3, 1)), (43, (.iload_n 3, 1)), (44, (.iload_n 1, 1)), (45, (.if_icmp .ge 79, 3)), (48, (.aload_n 0, 1)), (49, (.iload_n 3, 1)), (50, (.invokevirtual 131, 3)), (53, (.iload_n 2, 1)), (54, (.invokevirtual 88, 3)), (57, (.ifCond .eq 73, 3)), (60, (.aload_n 0, 1)), (61, (.iload_n 3, 1)), (62, (.invokevirtual 131, 3)), (65, (.aload_n 0, 1)), (66, (.iload_n 2, 1)), (67, (.invokevirtual 131, 3)), (70, (.invokevirtual 92, 3)), (73, (.iinc 3 1, 3)), (76, (.goto 43, 3)), (79, (.iinc 2 1, 3)), (82, (.goto 36, 3)), (85, (.return_, 1))]
def ce_X8_closeLeads : List (Nat × (Nat × Option Nat × WP)) := [(54, (1, some 3, wl_X3_states)), (131, (2, some 8, wl_X8_leadsFrom)), (70, (2, some 8, wl_X8_from)), (109, (2, some 7, wl_X7_becomeLike)), (88, (2, some 7, wl_X7_has)), (92, (2, some 7, wl_X7_putAll))]
set_option maxRecDepth 100000 in
set_option maxHeartbeats 4000000 in
theorem ct_X8_closeLeads (l : Launch) : Con l wX yX8_closeLeads cX8_closeLeads 4 none 1 wl_X8_closeLeads := by
  refine sxm_ok l (ft := lkp ft_RX8) (c32 := lkp c32_RX8) (c64 := lkp c64_RX8) (ce := lkp ce_X8_closeLeads) (sf := lkp sf_RX8) (lab := lkp [(10, [0, 1, 2]), (36, [0, 1, 2]), (43, [0, 1, 2, 3])]) (T := tb_X8_closeLeads) (by decide +kernel) ft_RX8_ok c32_RX8_ok c64_RX8_ok (fun x q h => (show ∀ q ∈ ce_X8_closeLeads, ceOK l wX RX8 1 q.1 q.2.1 q.2.2.1 q.2.2.2 from List.forall_mem_cons.mpr ⟨Or.inr (Or.inr (Or.inr ⟨yX3_states, cX3_states, 1, (some .int), 0, ct_X3_states l, by decide, by decide, mi_X3_states.1, mi_X3_states.2, ml_RX8_54, mv_X3_states.1, mv_X3_states.2, ⟨_, _, rfl⟩, by decide, by decide +kernel⟩)), List.forall_mem_cons.mpr ⟨Or.inr (Or.inr (Or.inr ⟨yX8_leadsFrom, cX8_leadsFrom, 2, (some (.object "FrameProver$StateSet")), 0, ct_X8_leadsFrom l, by decide, by decide, mi_X8_leadsFrom.1, mi_X8_leadsFrom.2, ml_RX8_131, mv_X8_leadsFrom.1, mv_X8_leadsFrom.2, ⟨_, _, rfl⟩, by decide, by decide +kernel⟩)), List.forall_mem_cons.mpr ⟨Or.inr (Or.inr (Or.inr ⟨yX8_from, cX8_from, 2, (some (.object "FrameProver$StateSet")), 0, ct_X8_from l, by decide, by decide, mi_X8_from.1, mi_X8_from.2, ml_RX8_70, mv_X8_from.1, mv_X8_from.2, ⟨_, _, rfl⟩, by decide, by decide +kernel⟩)), List.forall_mem_cons.mpr ⟨Or.inr (Or.inr (Or.inr ⟨yX7_becomeLike, cX7_becomeLike, 3, none, 0, ct_X7_becomeLike l, by decide, by decide, mi_X7_becomeLike.1, mi_X7_becomeLike.2, ml_RX8_109, mv_X7_becomeLike.1, mv_X7_becomeLike.2, ⟨_, _, rfl⟩, by decide, by decide +kernel⟩)), List.forall_mem_cons.mpr ⟨Or.inr (Or.inr (Or.inr ⟨yX7_has, cX7_has, 2, (some .boolean), 0, ct_X7_has l, by decide, by decide, mi_X7_has.1, mi_X7_has.2, ml_RX8_88, mv_X7_has.1, mv_X7_has.2, ⟨_, _, rfl⟩, by decide, by decide +kernel⟩)), List.forall_mem_cons.mpr ⟨Or.inr (Or.inr (Or.inr ⟨yX7_putAll, cX7_putAll, 3, none, 0, ct_X7_putAll l, by decide, by decide, mi_X7_putAll.1, mi_X7_putAll.2, ml_RX8_92, mv_X7_putAll.1, mv_X7_putAll.2, ⟨_, _, rfl⟩, by decide, by decide +kernel⟩)), fun _ h => absurd h List.not_mem_nil⟩⟩⟩⟩⟩⟩) (x, q) (lkp_mem h)) sf_RX8_ok (by decide +kernel) 400 (fun As σ Q h => ?_)
  replace h := p1r_e h
  obtain ⟨z0, q0, rfl, h⟩ := h
  replace h := onB_e h
  obtain ⟨e0, h⟩ := h
  have e0 := Nat.eq_of_beq_eq_true e0
  subst e0
  replace h := onB_e h
  obtain ⟨e9, h⟩ := h
  have e9 := List.isEmpty_iff.mp e9
  subst e9
  refine ⟨Nat.le_of_ble_eq_true rfl, fun P hP => ?_⟩
  exact h (fun x1 x2 τ => P 10 [.ref 13, .int x1, .int x2] τ) (fun x1 x2 τ => P 36 [.ref 13, .int x1, .int x2] τ) (fun x1 x2 x3 τ => P 43 [.ref 13, .int x1, .int x2, .int x3] τ) (fun x1 x2 τ hb => hP 10 [.ref 13, .int x1, .int x2] τ hb) (fun x1 x2 τ hb => hP 36 [.ref 13, .int x1, .int x2] τ hb) (fun x1 x2 x3 τ hb => hP 43 [.ref 13, .int x1, .int x2, .int x3] τ hb)
def wp_X9_count (x1 : Int32) (σ : Sg) (Q : Int32 → Sg → Prop) : Prop :=
  ((x1 = (0 : Int32) → Q (gI σ 1 10) σ) ∧ (¬ x1 = (0 : Int32) → ((x1 = (1 : Int32) → Q (gI σ 1 11) σ) ∧ (¬ x1 = (1 : Int32) → ((x1 = (2 : Int32) → Q (gI σ 1 12) σ) ∧ (¬ x1 = (2 : Int32) → ((x1 = (3 : Int32) → Q (((gI σ 1 10) - (gI σ 1 11)) - (gI σ 1 12)) σ) ∧ (¬ x1 = (3 : Int32) → ((x1 = (4 : Int32) → Q (gI σ 9 1) σ) ∧ (¬ x1 = (4 : Int32) → ((x1 = (5 : Int32) → Q (gI σ 11 1) σ) ∧ (¬ x1 = (5 : Int32) → ((x1 = (6 : Int32) → Q (gI σ 1164 8) σ) ∧ (¬ x1 = (6 : Int32) → ((x1 = (7 : Int32) → Q (gI σ 1167 2) σ) ∧ (¬ x1 = (7 : Int32) → wp_X9_refuse (-7 : Int32) σ (fun r1 s2 => Q r1 s2)))))))))))))))))
def wl_X9_count : WP := fun As σ Q => p1r As (fun z0 r0 => onB (Nat.beq z0 0) (p1i r0 (fun x1 r1 => onB r1.isEmpty (wp_X9_count x1 σ (fun x τ => Q (some (.int x)) τ)))))
def tb_X9_count : List (Nat × Instr × Nat) := [(0, (.iload_n 1, 1)), (1, (.tableswitch 133 0 7 #[47, 55, 63, 71, 95, 106, 117, 125], 47)), (48, (.aload_n 0, 1)), (49, (.getfield 10, 3)), (52, (.getfield 136, 3)), (55, (.ireturn, 1)), (56, (.aload_n 0, 1)), (57, (.getfield 10, 3)), (60, (.getfield 79, 3)), (63, (.ireturn, 1)), (64, (.aload_n 0, 1)), (65, (.getfield 10, 3)), (68, (.getfield 91, 3)), (71, (.ireturn, 1)), (72, (.aload_n 0, 1)), (73, (.getfield 10, 3)), (76, (.getfield 136, 3)), (79, (.aload_n 0, 1)), (80, (.getfield 10, 3)), (83, (.getfield 79, 3)), (86, (.isub, 1)), (87, (.aload_n 0, 1)), (88, (.getfield 10, 3)), (91, (.getfield 91, 3)), (94, (.isub, 1)), (95, (.ireturn, 1)), (96, (.aload_n 0, 1)), (97, (.getfield 10, 3)), (100, (.getfield 119, 3)), (103, (.getfield 139, 3)), (106, (.ireturn, 1)), (107, (.aload_n 0, 1)), (108, (.getfield 10, 3)), (111, (.getfield 127, 3)), (114, (.getfield 139, 3)), (117, (.ireturn, 1)), (118, (.aload_n 0, 1)), (119, (.getfield 39, 3)), (122, (.getfield 144, 3)), (125, (.ireturn, 1)), (126, (.aload_n 0, 1)), (127, (.getfield 48, 3)), (130, (.getfield 147, 3)), (133, (.ireturn, 1)), (134, (.aload_n 0, 1)), (135, (.bipush (-7), 2)), (137, (.invokevirtual 83, 3)), (140, (.ireturn, 1))]
def ce_X9_count : List (Nat × (Nat × Option Nat × WP)) := [(83, (2, some 9, wl_X9_refuse))]
set_option maxRecDepth 100000 in
set_option maxHeartbeats 4000000 in
theorem ct_X9_count (l : Launch) : Con l wX yX9_count cX9_count 2 (some .int) 1 wl_X9_count := by
  refine sxm_ok l (ft := lkp ft_RX9) (c32 := lkp c32_RX9) (c64 := lkp c64_RX9) (ce := lkp ce_X9_count) (sf := lkp sf_RX9) (lab := lkp []) (T := tb_X9_count) (by decide +kernel) ft_RX9_ok c32_RX9_ok c64_RX9_ok (fun x q h => (show ∀ q ∈ ce_X9_count, ceOK l wX RX9 1 q.1 q.2.1 q.2.2.1 q.2.2.2 from List.forall_mem_cons.mpr ⟨Or.inr (Or.inr (Or.inr ⟨yX9_refuse, cX9_refuse, 2, (some .int), 0, ct_X9_refuse l, by decide, by decide, mi_X9_refuse.1, mi_X9_refuse.2, ml_RX9_83, mv_X9_refuse.1, mv_X9_refuse.2, ⟨_, _, rfl⟩, by decide, by decide +kernel⟩)), fun _ h => absurd h List.not_mem_nil⟩) (x, q) (lkp_mem h)) sf_RX9_ok (by decide +kernel) 400 (fun As σ Q h => ?_)
  replace h := p1r_e h
  obtain ⟨z0, q0, rfl, h⟩ := h
  replace h := onB_e h
  obtain ⟨e0, h⟩ := h
  have e0 := Nat.eq_of_beq_eq_true e0
  subst e0
  replace h := p1i_e h
  obtain ⟨x1, q1, rfl, h⟩ := h
  replace h := onB_e h
  obtain ⟨e9, h⟩ := h
  have e9 := List.isEmpty_iff.mp e9
  subst e9
  refine ⟨Nat.le_of_ble_eq_true rfl, fun P hP => ?_⟩
  exact h 
def wp_X9_clauses (x1 : Int32) (σ : Sg) (Q : Int32 → Sg → Prop) : Prop :=
  wp_X9_isLaterFrame x1 σ (fun r1 => ((r1 = 0 → wp_X9_refuse (-3 : Int32) σ (fun r2 s3 => Q r2 s3)) ∧ (¬ r1 = 0 → wp_X1_frame x1 σ (fun r4 => onB (isK wX r4 0) (Q (gI σ r4 2) σ)))))
def wl_X9_clauses : WP := fun As σ Q => p1r As (fun z0 r0 => onB (Nat.beq z0 0) (p1i r0 (fun x1 r1 => onB r1.isEmpty (wp_X9_clauses x1 σ (fun x τ => Q (some (.int x)) τ)))))
def tb_X9_clauses : List (Nat × Instr × Nat) := [(0, (.iload_n 1, 1)), (1, (.invokestatic 187, 3)), (4, (.ifCond .ne 14, 3)), (7, (.aload_n 0, 1)), (8, (.bipush (-3), 2)), (10, (.invokevirtual 83, 3)), (13, (.ireturn, 1)), (14, (.aload_n 0, 1)), (15, (.getfield 30, 3)), (18, (.iload_n 1, 1)), (19, (.invokevirtual 190, 3)), (22, (.getfield 147, 3)), (25, (.ireturn, 1))]
def ce_X9_clauses : List (Nat × (Nat × Option Nat × WP)) := [(187, (1, none, wl_X9_isLaterFrame)), (83, (2, some 9, wl_X9_refuse)), (190, (2, some 1, wl_X1_frame))]
set_option maxRecDepth 100000 in
set_option maxHeartbeats 4000000 in
theorem ct_X9_clauses (l : Launch) : Con l wX yX9_clauses cX9_clauses 2 (some .int) 1 wl_X9_clauses := by
  refine sxm_ok l (ft := lkp ft_RX9) (c32 := lkp c32_RX9) (c64 := lkp c64_RX9) (ce := lkp ce_X9_clauses) (sf := lkp sf_RX9) (lab := lkp []) (T := tb_X9_clauses) (by decide +kernel) ft_RX9_ok c32_RX9_ok c64_RX9_ok (fun x q h => (show ∀ q ∈ ce_X9_clauses, ceOK l wX RX9 1 q.1 q.2.1 q.2.2.1 q.2.2.2 from List.forall_mem_cons.mpr ⟨Or.inr (Or.inr (Or.inr ⟨yX9_isLaterFrame, cX9_isLaterFrame, 1, (some .boolean), 0, ct_X9_isLaterFrame l, by decide, by decide, mi_X9_isLaterFrame.1, mi_X9_isLaterFrame.2, Or.inl ml_RX9_187, ms_X9_isLaterFrame, by decide +kernel⟩)), List.forall_mem_cons.mpr ⟨Or.inr (Or.inr (Or.inr ⟨yX9_refuse, cX9_refuse, 2, (some .int), 0, ct_X9_refuse l, by decide, by decide, mi_X9_refuse.1, mi_X9_refuse.2, ml_RX9_83, mv_X9_refuse.1, mv_X9_refuse.2, ⟨_, _, rfl⟩, by decide, by decide +kernel⟩)), List.forall_mem_cons.mpr ⟨Or.inr (Or.inr (Or.inr ⟨yX1_frame, cX1_frame, 2, (some (.object "FrameProver$Clauses")), 0, ct_X1_frame l, by decide, by decide, mi_X1_frame.1, mi_X1_frame.2, ml_RX9_190, mv_X1_frame.1, mv_X1_frame.2, ⟨_, _, rfl⟩, by decide, by decide +kernel⟩)), fun _ h => absurd h List.not_mem_nil⟩⟩⟩) (x, q) (lkp_mem h)) sf_RX9_ok (by decide +kernel) 400 (fun As σ Q h => ?_)
  replace h := p1r_e h
  obtain ⟨z0, q0, rfl, h⟩ := h
  replace h := onB_e h
  obtain ⟨e0, h⟩ := h
  have e0 := Nat.eq_of_beq_eq_true e0
  subst e0
  replace h := p1i_e h
  obtain ⟨x1, q1, rfl, h⟩ := h
  replace h := onB_e h
  obtain ⟨e9, h⟩ := h
  have e9 := List.isEmpty_iff.mp e9
  subst e9
  refine ⟨Nat.le_of_ble_eq_true rfl, fun P hP => ?_⟩
  exact h 
def wp_X9_trouble (x1 : Int32) (x2 : Int32) (σ : Sg) (Q : Int32 → Sg → Prop) : Prop :=
  ((x1 < 0 → wp_X9_refuse (-4 : Int32) σ (fun r1 s2 => Q r1 s2)) ∧ (¬ x1 < 0 → ((x2 = (0 : Int32) → wp_X4_troubleState x1 σ (fun r6 => Q r6 σ)) ∧ (¬ x2 = (0 : Int32) → ((x2 = (1 : Int32) → wp_X4_troubleFrame x1 σ (fun r5 => Q r5 σ)) ∧ (¬ x2 = (1 : Int32) → wp_X9_refuse (-7 : Int32) σ (fun r3 s4 => Q r3 s4)))))))
def wl_X9_trouble : WP := fun As σ Q => p1r As (fun z0 r0 => onB (Nat.beq z0 0) (p1i r0 (fun x1 r1 => p1i r1 (fun x2 r2 => onB r2.isEmpty (wp_X9_trouble x1 x2 σ (fun x τ => Q (some (.int x)) τ))))))
def tb_X9_trouble : List (Nat × Instr × Nat) := [(0, (.iload_n 1, 1)), (1, (.ifCond .ge 11, 3)), (4, (.aload_n 0, 1)), (5, (.bipush (-4), 2)), (7, (.invokevirtual 83, 3)), (10, (.ireturn, 1)), (11, (.iload_n 2, 1)), (12, (.lookupswitch 46 #[(0, 28), (1, 37)], 28)), (40, (.aload_n 0, 1)), (41, (.getfield 39, 3)), (44, (.iload_n 1, 1)), (45, (.invokevirtual 204, 3)), (48, (.ireturn, 1)), (49, (.aload_n 0, 1)), (50, (.getfield 39, 3)), (53, (.iload_n 1, 1)), (54, (.invokevirtual 207, 3)), (57, (.ireturn, 1)), (58, (.aload_n 0, 1)), (59, (.bipush (-7), 2)), (61, (.invokevirtual 83, 3)), (64, (.ireturn, 1))]
def ce_X9_trouble : List (Nat × (Nat × Option Nat × WP)) := [(83, (2, some 9, wl_X9_refuse)), (204, (2, some 4, wl_X4_troubleState)), (207, (2, some 4, wl_X4_troubleFrame))]
set_option maxRecDepth 100000 in
set_option maxHeartbeats 4000000 in
theorem ct_X9_trouble (l : Launch) : Con l wX yX9_trouble cX9_trouble 3 (some .int) 1 wl_X9_trouble := by
  refine sxm_ok l (ft := lkp ft_RX9) (c32 := lkp c32_RX9) (c64 := lkp c64_RX9) (ce := lkp ce_X9_trouble) (sf := lkp sf_RX9) (lab := lkp []) (T := tb_X9_trouble) (by decide +kernel) ft_RX9_ok c32_RX9_ok c64_RX9_ok (fun x q h => (show ∀ q ∈ ce_X9_trouble, ceOK l wX RX9 1 q.1 q.2.1 q.2.2.1 q.2.2.2 from List.forall_mem_cons.mpr ⟨Or.inr (Or.inr (Or.inr ⟨yX9_refuse, cX9_refuse, 2, (some .int), 0, ct_X9_refuse l, by decide, by decide, mi_X9_refuse.1, mi_X9_refuse.2, ml_RX9_83, mv_X9_refuse.1, mv_X9_refuse.2, ⟨_, _, rfl⟩, by decide, by decide +kernel⟩)), List.forall_mem_cons.mpr ⟨Or.inr (Or.inr (Or.inr ⟨yX4_troubleState, cX4_troubleState, 2, (some .int), 0, ct_X4_troubleState l, by decide, by decide, mi_X4_troubleState.1, mi_X4_troubleState.2, ml_RX9_204, mv_X4_troubleState.1, mv_X4_troubleState.2, ⟨_, _, rfl⟩, by decide, by decide +kernel⟩)), List.forall_mem_cons.mpr ⟨Or.inr (Or.inr (Or.inr ⟨yX4_troubleFrame, cX4_troubleFrame, 2, (some .int), 0, ct_X4_troubleFrame l, by decide, by decide, mi_X4_troubleFrame.1, mi_X4_troubleFrame.2, ml_RX9_207, mv_X4_troubleFrame.1, mv_X4_troubleFrame.2, ⟨_, _, rfl⟩, by decide, by decide +kernel⟩)), fun _ h => absurd h List.not_mem_nil⟩⟩⟩) (x, q) (lkp_mem h)) sf_RX9_ok (by decide +kernel) 400 (fun As σ Q h => ?_)
  replace h := p1r_e h
  obtain ⟨z0, q0, rfl, h⟩ := h
  replace h := onB_e h
  obtain ⟨e0, h⟩ := h
  have e0 := Nat.eq_of_beq_eq_true e0
  subst e0
  replace h := p1i_e h
  obtain ⟨x1, q1, rfl, h⟩ := h
  replace h := p1i_e h
  obtain ⟨x2, q2, rfl, h⟩ := h
  replace h := onB_e h
  obtain ⟨e9, h⟩ := h
  have e9 := List.isEmpty_iff.mp e9
  subst e9
  refine ⟨Nat.le_of_ble_eq_true rfl, fun P hP => ?_⟩
  exact h 
def wp_X9_fails (x1 : Int32) (σ : Sg) (Q : Int32 → Sg → Prop) : Prop :=
  ((x1 = (0 : Int32) → Q (gI σ 1171 3) σ) ∧ (¬ x1 = (0 : Int32) → ((x1 = (1 : Int32) → Q (gI σ 1171 4) σ) ∧ (¬ x1 = (1 : Int32) → wp_X9_refuse (-7 : Int32) σ (fun r1 s2 => Q r1 s2)))))
def wl_X9_fails : WP := fun As σ Q => p1r As (fun z0 r0 => onB (Nat.beq z0 0) (p1i r0 (fun x1 r1 => onB r1.isEmpty (wp_X9_fails x1 σ (fun x τ => Q (some (.int x)) τ)))))
def tb_X9_fails : List (Nat × Instr × Nat) := [(0, (.iload_n 1, 1)), (1, (.lookupswitch 43 #[(0, 27), (1, 35)], 27)), (28, (.aload_n 0, 1)), (29, (.getfield 57, 3)), (32, (.getfield 296, 3)), (35, (.ireturn, 1)), (36, (.aload_n 0, 1)), (37, (.getfield 57, 3)), (40, (.getfield 299, 3)), (43, (.ireturn, 1)), (44, (.aload_n 0, 1)), (45, (.bipush (-7), 2)), (47, (.invokevirtual 83, 3)), (50, (.ireturn, 1))]
def ce_X9_fails : List (Nat × (Nat × Option Nat × WP)) := [(83, (2, some 9, wl_X9_refuse))]
set_option maxRecDepth 100000 in
set_option maxHeartbeats 4000000 in
theorem ct_X9_fails (l : Launch) : Con l wX yX9_fails cX9_fails 2 (some .int) 1 wl_X9_fails := by
  refine sxm_ok l (ft := lkp ft_RX9) (c32 := lkp c32_RX9) (c64 := lkp c64_RX9) (ce := lkp ce_X9_fails) (sf := lkp sf_RX9) (lab := lkp []) (T := tb_X9_fails) (by decide +kernel) ft_RX9_ok c32_RX9_ok c64_RX9_ok (fun x q h => (show ∀ q ∈ ce_X9_fails, ceOK l wX RX9 1 q.1 q.2.1 q.2.2.1 q.2.2.2 from List.forall_mem_cons.mpr ⟨Or.inr (Or.inr (Or.inr ⟨yX9_refuse, cX9_refuse, 2, (some .int), 0, ct_X9_refuse l, by decide, by decide, mi_X9_refuse.1, mi_X9_refuse.2, ml_RX9_83, mv_X9_refuse.1, mv_X9_refuse.2, ⟨_, _, rfl⟩, by decide, by decide +kernel⟩)), fun _ h => absurd h List.not_mem_nil⟩) (x, q) (lkp_mem h)) sf_RX9_ok (by decide +kernel) 400 (fun As σ Q h => ?_)
  replace h := p1r_e h
  obtain ⟨z0, q0, rfl, h⟩ := h
  replace h := onB_e h
  obtain ⟨e0, h⟩ := h
  have e0 := Nat.eq_of_beq_eq_true e0
  subst e0
  replace h := p1i_e h
  obtain ⟨x1, q1, rfl, h⟩ := h
  replace h := onB_e h
  obtain ⟨e9, h⟩ := h
  have e9 := List.isEmpty_iff.mp e9
  subst e9
  refine ⟨Nat.le_of_ble_eq_true rfl, fun P hP => ?_⟩
  exact h 
def wp_X9_row (x1 : Int32) (σ : Sg) (Q : Int32 → Sg → Prop) : Prop :=
  (((gI σ 1172 2) = 0 → wp_X9_refuse (-2 : Int32) σ (fun r1 s2 => Q r1 s2)) ∧ (¬ (gI σ 1172 2) = 0 → ((x1 < 0 → wp_X9_refuse (-3 : Int32) σ (fun r3 s4 => Q r3 s4)) ∧ (¬ x1 < 0 → ((x1 < (gI σ 1172 1) → wp_X5_number x1 σ (fun r5 => Q r5 σ)) ∧ (¬ x1 < (gI σ 1172 1) → wp_X9_refuse (-3 : Int32) σ (fun r6 s7 => Q r6 s7)))))))
def wl_X9_row : WP := fun As σ Q => p1r As (fun z0 r0 => onB (Nat.beq z0 0) (p1i r0 (fun x1 r1 => onB r1.isEmpty (wp_X9_row x1 σ (fun x τ => Q (some (.int x)) τ)))))
def tb_X9_row : List (Nat × Instr × Nat) := [(0, (.aload_n 0, 1)), (1, (.getfield 64, 3)), (4, (.getfield 313, 3)), (7, (.ifCond .ne 17, 3)), (10, (.aload_n 0, 1)), (11, (.bipush (-2), 2)), (13, (.invokevirtual 83, 3)), (16, (.ireturn, 1)), (17, (.iload_n 1, 1)), (18, (.ifCond .lt 32, 3)), (21, (.iload_n 1, 1)), (22, (.aload_n 0, 1)), (23, (.getfield 64, 3)), (26, (.getfield 312, 3)), (29, (.if_icmp .lt 39, 3)), (32, (.aload_n 0, 1)), (33, (.bipush (-3), 2)), (35, (.invokevirtual 83, 3)), (38, (.ireturn, 1)), (39, (.aload_n 0, 1)), (40, (.getfield 64, 3)), (43, (.iload_n 1, 1)), (44, (.invokevirtual 317, 3)), (47, (.ireturn, 1))]
def ce_X9_row : List (Nat × (Nat × Option Nat × WP)) := [(83, (2, some 9, wl_X9_refuse)), (317, (2, some 5, wl_X5_number))]
set_option maxRecDepth 100000 in
set_option maxHeartbeats 4000000 in
theorem ct_X9_row (l : Launch) : Con l wX yX9_row cX9_row 2 (some .int) 1 wl_X9_row := by
  refine sxm_ok l (ft := lkp ft_RX9) (c32 := lkp c32_RX9) (c64 := lkp c64_RX9) (ce := lkp ce_X9_row) (sf := lkp sf_RX9) (lab := lkp []) (T := tb_X9_row) (by decide +kernel) ft_RX9_ok c32_RX9_ok c64_RX9_ok (fun x q h => (show ∀ q ∈ ce_X9_row, ceOK l wX RX9 1 q.1 q.2.1 q.2.2.1 q.2.2.2 from List.forall_mem_cons.mpr ⟨Or.inr (Or.inr (Or.inr ⟨yX9_refuse, cX9_refuse, 2, (some .int), 0, ct_X9_refuse l, by decide, by decide, mi_X9_refuse.1, mi_X9_refuse.2, ml_RX9_83, mv_X9_refuse.1, mv_X9_refuse.2, ⟨_, _, rfl⟩, by decide, by decide +kernel⟩)), List.forall_mem_cons.mpr ⟨Or.inr (Or.inr (Or.inr ⟨yX5_number, cX5_number, 2, (some .int), 0, ct_X5_number l, by decide, by decide, mi_X5_number.1, mi_X5_number.2, ml_RX9_317, mv_X5_number.1, mv_X5_number.2, ⟨_, _, rfl⟩, by decide, by decide +kernel⟩)), fun _ h => absurd h List.not_mem_nil⟩⟩) (x, q) (lkp_mem h)) sf_RX9_ok (by decide +kernel) 400 (fun As σ Q h => ?_)
  replace h := p1r_e h
  obtain ⟨z0, q0, rfl, h⟩ := h
  replace h := onB_e h
  obtain ⟨e0, h⟩ := h
  have e0 := Nat.eq_of_beq_eq_true e0
  subst e0
  replace h := p1i_e h
  obtain ⟨x1, q1, rfl, h⟩ := h
  replace h := onB_e h
  obtain ⟨e9, h⟩ := h
  have e9 := List.isEmpty_iff.mp e9
  subst e9
  refine ⟨Nat.le_of_ble_eq_true rfl, fun P hP => ?_⟩
  exact h 
def wp_X9_status (x1 : Int32) (σ : Sg) (Q : Int32 → Sg → Prop) : Prop :=
  (((-2 : Int32) < x1 → wp_X9_refuse (-7 : Int32) σ (fun r1 s2 => Q r1 s2)) ∧ (¬ (-2 : Int32) < x1 → ((x1 < (-8 : Int32) → wp_X9_refuse (-7 : Int32) σ (fun r3 s4 => Q r3 s4)) ∧ (¬ x1 < (-8 : Int32) → (vp_in (-x1) 9 ∧ Q (gI σ 1174 ((-x1)).toNatClampNeg) σ)))))
def wl_X9_status : WP := fun As σ Q => p1r As (fun z0 r0 => onB (Nat.beq z0 0) (p1i r0 (fun x1 r1 => onB r1.isEmpty (wp_X9_status x1 σ (fun x τ => Q (some (.int x)) τ)))))
def tb_X9_status : List (Nat × Instr × Nat) := [(0, (.iload_n 1, 1)), (1, (.bipush (-2), 2)), (3, (.if_icmp .gt 12, 3)), (6, (.iload_n 1, 1)), (7, (.bipush (-8), 2)), (9, (.if_icmp .ge 19, 3)), (12, (.aload_n 0, 1)), (13, (.bipush (-7), 2)), (15, (.invokevirtual 83, 3)), (18, (.ireturn, 1)), (19, (.aload_n 0, 1)), (20, (.getfield 68, 3)), (23, (.iload_n 1, 1)), (24, (.ineg, 1)), (25, (.iaload, 1)), (26, (.ireturn, 1))]
def ce_X9_status : List (Nat × (Nat × Option Nat × WP)) := [(83, (2, some 9, wl_X9_refuse))]
set_option maxRecDepth 100000 in
set_option maxHeartbeats 4000000 in
theorem ct_X9_status (l : Launch) : Con l wX yX9_status cX9_status 2 (some .int) 1 wl_X9_status := by
  refine sxm_ok l (ft := lkp ft_RX9) (c32 := lkp c32_RX9) (c64 := lkp c64_RX9) (ce := lkp ce_X9_status) (sf := lkp sf_RX9) (lab := lkp []) (T := tb_X9_status) (by decide +kernel) ft_RX9_ok c32_RX9_ok c64_RX9_ok (fun x q h => (show ∀ q ∈ ce_X9_status, ceOK l wX RX9 1 q.1 q.2.1 q.2.2.1 q.2.2.2 from List.forall_mem_cons.mpr ⟨Or.inr (Or.inr (Or.inr ⟨yX9_refuse, cX9_refuse, 2, (some .int), 0, ct_X9_refuse l, by decide, by decide, mi_X9_refuse.1, mi_X9_refuse.2, ml_RX9_83, mv_X9_refuse.1, mv_X9_refuse.2, ⟨_, _, rfl⟩, by decide, by decide +kernel⟩)), fun _ h => absurd h List.not_mem_nil⟩) (x, q) (lkp_mem h)) sf_RX9_ok (by decide +kernel) 400 (fun As σ Q h => ?_)
  replace h := p1r_e h
  obtain ⟨z0, q0, rfl, h⟩ := h
  replace h := onB_e h
  obtain ⟨e0, h⟩ := h
  have e0 := Nat.eq_of_beq_eq_true e0
  subst e0
  replace h := p1i_e h
  obtain ⟨x1, q1, rfl, h⟩ := h
  replace h := onB_e h
  obtain ⟨e9, h⟩ := h
  have e9 := List.isEmpty_iff.mp e9
  subst e9
  refine ⟨Nat.le_of_ble_eq_true rfl, fun P hP => ?_⟩
  exact h 
def wp_X9_halfOf (x0 : Int32) (x1 : Int32) (σ : Sg) (Q : Int32 → Prop) : Prop :=
  ((x1 = 0 → wp_X9_maskOf x0 σ (fun r1 => Q r1)) ∧ (¬ x1 = 0 → wp_X9_valuesOf x0 σ (fun r2 => Q r2)))
def wl_X9_halfOf : WP := fun As σ Q => p1i As (fun x0 r0 => p1i r0 (fun x1 r1 => onB r1.isEmpty (wp_X9_halfOf x0 x1 σ (fun x => Q (some (.int x)) σ))))
def tb_X9_halfOf : List (Nat × Instr × Nat) := [(0, (.iload_n 1, 1)), (1, (.ifCond .eq 11, 3)), (4, (.iload_n 0, 1)), (5, (.invokestatic 280, 3)), (8, (.goto 15, 3)), (11, (.iload_n 0, 1)), (12, (.invokestatic 248, 3)), (15, (.ireturn, 1))]
def ce_X9_halfOf : List (Nat × (Nat × Option Nat × WP)) := [(280, (1, none, wl_X9_valuesOf)), (248, (1, none, wl_X9_maskOf))]
set_option maxRecDepth 100000 in
set_option maxHeartbeats 4000000 in
theorem ct_X9_halfOf (l : Launch) : Con l wX yX9_halfOf cX9_halfOf 2 (some .int) 1 wl_X9_halfOf := by
  refine sxm_ok l (ft := lkp ft_RX9) (c32 := lkp c32_RX9) (c64 := lkp c64_RX9) (ce := lkp ce_X9_halfOf) (sf := lkp sf_RX9) (lab := lkp []) (T := tb_X9_halfOf) (by decide +kernel) ft_RX9_ok c32_RX9_ok c64_RX9_ok (fun x q h => (show ∀ q ∈ ce_X9_halfOf, ceOK l wX RX9 1 q.1 q.2.1 q.2.2.1 q.2.2.2 from List.forall_mem_cons.mpr ⟨Or.inr (Or.inr (Or.inr ⟨yX9_valuesOf, cX9_valuesOf, 1, (some .int), 0, ct_X9_valuesOf l, by decide, by decide, mi_X9_valuesOf.1, mi_X9_valuesOf.2, Or.inl ml_RX9_280, ms_X9_valuesOf, by decide +kernel⟩)), List.forall_mem_cons.mpr ⟨Or.inr (Or.inr (Or.inr ⟨yX9_maskOf, cX9_maskOf, 1, (some .int), 0, ct_X9_maskOf l, by decide, by decide, mi_X9_maskOf.1, mi_X9_maskOf.2, Or.inl ml_RX9_248, ms_X9_maskOf, by decide +kernel⟩)), fun _ h => absurd h List.not_mem_nil⟩⟩) (x, q) (lkp_mem h)) sf_RX9_ok (by decide +kernel) 400 (fun As σ Q h => ?_)
  replace h := p1i_e h
  obtain ⟨x0, q0, rfl, h⟩ := h
  replace h := p1i_e h
  obtain ⟨x1, q1, rfl, h⟩ := h
  replace h := onB_e h
  obtain ⟨e9, h⟩ := h
  have e9 := List.isEmpty_iff.mp e9
  subst e9
  refine ⟨Nat.le_of_ble_eq_true rfl, fun P hP => ?_⟩
  exact h 
def wp_X9_isInCube (x0 : Int32) (x1 : Int32) (σ : Sg) (Q : Int32 → Prop) : Prop :=
  wp_X9_maskOf x1 σ (fun r1 => wp_X9_valuesOf x1 σ (fun r2 => (((x0 &&& r1) = r2 → (nz (1 : Int32) ∧ Q (1 : Int32))) ∧ (¬ (x0 &&& r1) = r2 → (nz (0 : Int32) ∧ Q (0 : Int32))))))
def wl_X9_isInCube : WP := fun As σ Q => p1i As (fun x0 r0 => p1i r0 (fun x1 r1 => onB r1.isEmpty (wp_X9_isInCube x0 x1 σ (fun x => Q (some (.int x)) σ))))
def tb_X9_isInCube : List (Nat × Instr × Nat) := [(0, (.iload_n 0, 1)), (1, (.iload_n 1, 1)), (2, (.invokestatic 248, 3)), (5, (.iand, 1)), (6, (.iload_n 1, 1)), (7, (.invokestatic 280, 3)), (10, (.if_icmp .ne 17, 3)), (13, (.iconst 1, 1)), (14, (.goto 18, 3)), (17, (.iconst 0, 1)), (18, (.ireturn, 1))]
def ce_X9_isInCube : List (Nat × (Nat × Option Nat × WP)) := [(248, (1, none, wl_X9_maskOf)), (280, (1, none, wl_X9_valuesOf))]
set_option maxRecDepth 100000 in
set_option maxHeartbeats 4000000 in
theorem ct_X9_isInCube (l : Launch) : Con l wX yX9_isInCube cX9_isInCube 2 (some .boolean) 1 wl_X9_isInCube := by
  refine sxm_ok l (ft := lkp ft_RX9) (c32 := lkp c32_RX9) (c64 := lkp c64_RX9) (ce := lkp ce_X9_isInCube) (sf := lkp sf_RX9) (lab := lkp []) (T := tb_X9_isInCube) (by decide +kernel) ft_RX9_ok c32_RX9_ok c64_RX9_ok (fun x q h => (show ∀ q ∈ ce_X9_isInCube, ceOK l wX RX9 1 q.1 q.2.1 q.2.2.1 q.2.2.2 from List.forall_mem_cons.mpr ⟨Or.inr (Or.inr (Or.inr ⟨yX9_maskOf, cX9_maskOf, 1, (some .int), 0, ct_X9_maskOf l, by decide, by decide, mi_X9_maskOf.1, mi_X9_maskOf.2, Or.inl ml_RX9_248, ms_X9_maskOf, by decide +kernel⟩)), List.forall_mem_cons.mpr ⟨Or.inr (Or.inr (Or.inr ⟨yX9_valuesOf, cX9_valuesOf, 1, (some .int), 0, ct_X9_valuesOf l, by decide, by decide, mi_X9_valuesOf.1, mi_X9_valuesOf.2, Or.inl ml_RX9_280, ms_X9_valuesOf, by decide +kernel⟩)), fun _ h => absurd h List.not_mem_nil⟩⟩) (x, q) (lkp_mem h)) sf_RX9_ok (by decide +kernel) 400 (fun As σ Q h => ?_)
  replace h := p1i_e h
  obtain ⟨x0, q0, rfl, h⟩ := h
  replace h := p1i_e h
  obtain ⟨x1, q1, rfl, h⟩ := h
  replace h := onB_e h
  obtain ⟨e9, h⟩ := h
  have e9 := List.isEmpty_iff.mp e9
  subst e9
  refine ⟨Nat.le_of_ble_eq_true rfl, fun P hP => ?_⟩
  exact h 
def wp_X0_put (o : Nat) (x1 : Int32) (σ : Sg) (Q : Int32 → Sg → Prop) : Prop :=
  onB (isK wX o 0) ((((gI σ o 2) < 0 → (nz (0 : Int32) ∧ Q (0 : Int32) σ)) ∧ (¬ (gI σ o 2) < 0 → onB (isK wX o 0) (onB (isK wX o 0) (onB (isA wX (wR wX o 0)) ((((gI σ o 2) < (nI (wN wX (wR wX o 0))) → onB (isK wX o 0) (onB (isK wX o 0) (onB (isK wX (wR wX o 0) 20) ((vp_in (gI σ o 2) (wN wX (wR wX o 0)) ∧ onB (isK wX o 0) (onB (isK wX o 0) (onB (isK wX o 0) (onB (isK wX (wR wX o 1) 7) (wp_X7_dropCube (wR wX o 1) x1 (sI (sI σ (wR wX o 0) ((gI σ o 2)).toNatClampNeg x1) o 2 ((gI (sI σ (wR wX o 0) ((gI σ o 2)).toNatClampNeg x1) o 2) + (1 : Int32))) (fun s1 => (nz (1 : Int32) ∧ Q (1 : Int32) s1))))))))))) ∧ (¬ (gI σ o 2) < (nI (wN wX (wR wX o 0))) → (nz (0 : Int32) ∧ Q (0 : Int32) σ)))))))))
def wl_X0_put : WP := fun As σ Q => p1r As (fun o r0 => p1i r0 (fun x1 r1 => onB r1.isEmpty (wp_X0_put o x1 σ (fun x τ => Q (some (.int x)) τ))))
def tb_X0_put : List (Nat × Instr × Nat) := [(0, (.aload_n 0, 1)), (1, (.getfield 26, 3)), (4, (.ifCond .lt 19, 3)), (7, (.aload_n 0, 1)), (8, (.getfield 26, 3)), (11, (.aload_n 0, 1)), (12, (.getfield 22, 3)), (15, (.arraylength, 1)), (16, (.if_icmp .lt 21, 3)), (19, (.iconst 0, 1)), (20, (.ireturn, 1)), (21, (.aload_n 0, 1)), (22, (.getfield 22, 3)), (25, (.aload_n 0, 1)), (26, (.getfield 26, 3)), (29, (.iload_n 1, 1)), (30, (.iastore, 1)), (31, (.aload_n 0, 1)), (32, (.dup, 1)), (33, (.getfield 26, 3)), (36, (.iconst 1, 1)), (37, (.iadd, 1)), (38, (.putfield 26, 3)), (41, (.aload_n 0, 1)), (42, (.getfield 10, 3)), (45, (.iload_n 1, 1)), (46, (.invokevirtual 41, 3)), (49, (.iconst 1, 1)), (50, (.ireturn, 1))]
def ce_X0_put : List (Nat × (Nat × Option Nat × WP)) := [(41, (2, some 7, wl_X7_dropCube))]
set_option maxRecDepth 100000 in
set_option maxHeartbeats 4000000 in
theorem ct_X0_put (l : Launch) : Con l wX yX0_put cX0_put 2 (some .boolean) 2 wl_X0_put := by
  refine sxm_ok l (ft := lkp ft_RX0) (c32 := lkp c32_RX0) (c64 := lkp c64_RX0) (ce := lkp ce_X0_put) (sf := lkp sf_RX0) (lab := lkp []) (T := tb_X0_put) (by decide +kernel) ft_RX0_ok c32_RX0_ok c64_RX0_ok (fun x q h => (show ∀ q ∈ ce_X0_put, ceOK l wX RX0 2 q.1 q.2.1 q.2.2.1 q.2.2.2 from List.forall_mem_cons.mpr ⟨Or.inr (Or.inr (Or.inr ⟨yX7_dropCube, cX7_dropCube, 5, none, 1, ct_X7_dropCube l, by decide, by decide, mi_X7_dropCube.1, mi_X7_dropCube.2, ml_RX0_41, mv_X7_dropCube.1, mv_X7_dropCube.2, ⟨_, _, rfl⟩, by decide, by decide +kernel⟩)), fun _ h => absurd h List.not_mem_nil⟩) (x, q) (lkp_mem h)) sf_RX0_ok (by decide +kernel) 400 (fun As σ Q h => ?_)
  replace h := p1r_e h
  obtain ⟨o, q0, rfl, h⟩ := h
  replace h := p1i_e h
  obtain ⟨x1, q1, rfl, h⟩ := h
  replace h := onB_e h
  obtain ⟨e9, h⟩ := h
  have e9 := List.isEmpty_iff.mp e9
  subst e9
  refine ⟨Nat.le_of_ble_eq_true rfl, fun P hP => ?_⟩
  exact h 
def wp_X0_hasAllOf (o : Nat) (x1 : Nat) (σ : Sg) (Q : Int32 → Prop) : Prop :=
  ∀ L2 : Int32 → Prop,
  (∀ (x2 : Int32), onB (isK wX x1 0) (((x2 < (gI σ x1 2) → onB (isK wX x1 0) (wp_X0_cubeAt x1 x2 σ (fun r1 => onB (isK wX o 0) (wp_X0_hasCube o r1 σ (fun r2 => ((r2 = 0 → (nz (0 : Int32) ∧ Q (0 : Int32))) ∧ (¬ r2 = 0 → L2 (x2 + (1 : Int32))))))))) ∧ (¬ x2 < (gI σ x1 2) → (nz (1 : Int32) ∧ Q (1 : Int32))))) → L2 x2) →
  L2 (0 : Int32)
def wl_X0_hasAllOf : WP := fun As σ Q => p1r As (fun o r0 => p1r r0 (fun x1 r1 => onB r1.isEmpty (wp_X0_hasAllOf o x1 σ (fun x => Q (some (.int x)) σ))))
def tb_X0_hasAllOf : List (Nat × Instr × Nat) := [(0, (.iconst 0, 1)), (1, (.istore_n 2, 1)), (2, (.iload_n 2, 1)), (3, (.aload_n 1, 1)), (4, (.getfield 26, 3)), (7, (.if_icmp .ge 30, 3)), (10, (.aload_n 0, 1)), (11, (.aload_n 1, 1)), (12, (.iload_n 2, 1)), (13, (.invokevirtual 44, 3)), (16, (.invokevirtual 48, 3)), (19, (.ifCond .ne 24, 3)), (22, (.iconst 0, 1)), (23, (.ireturn, 1)), (24, (.iinc 2 1, 3)), (27, (.goto 2, 3)), (30, (.iconst 1, 1)), (31, (.ireturn, 1))]
def ce_X0_hasAllOf : List (Nat × (Nat × Option Nat × WP)) := [(44, (2, some 0, wl_X0_cubeAt)), (48, (2, some 0, wl_X0_hasCube))]
set_option maxRecDepth 100000 in
set_option maxHeartbeats 4000000 in
theorem ct_X0_hasAllOf (l : Launch) : Con l wX yX0_hasAllOf cX0_hasAllOf 3 (some .boolean) 2 wl_X0_hasAllOf := by
  refine sxm_ok l (ft := lkp ft_RX0) (c32 := lkp c32_RX0) (c64 := lkp c64_RX0) (ce := lkp ce_X0_hasAllOf) (sf := lkp sf_RX0) (lab := lkp [(2, [0, 1, 2])]) (T := tb_X0_hasAllOf) (by decide +kernel) ft_RX0_ok c32_RX0_ok c64_RX0_ok (fun x q h => (show ∀ q ∈ ce_X0_hasAllOf, ceOK l wX RX0 2 q.1 q.2.1 q.2.2.1 q.2.2.2 from List.forall_mem_cons.mpr ⟨Or.inr (Or.inr (Or.inr ⟨yX0_cubeAt, cX0_cubeAt, 2, (some .int), 1, ct_X0_cubeAt l, by decide, by decide, mi_X0_cubeAt.1, mi_X0_cubeAt.2, ml_RX0_44, mv_X0_cubeAt.1, mv_X0_cubeAt.2, ⟨_, _, rfl⟩, by decide, by decide +kernel⟩)), List.forall_mem_cons.mpr ⟨Or.inr (Or.inr (Or.inr ⟨yX0_hasCube, cX0_hasCube, 3, (some .boolean), 0, ct_X0_hasCube l, by decide, by decide, mi_X0_hasCube.1, mi_X0_hasCube.2, ml_RX0_48, mv_X0_hasCube.1, mv_X0_hasCube.2, ⟨_, _, rfl⟩, by decide, by decide +kernel⟩)), fun _ h => absurd h List.not_mem_nil⟩⟩) (x, q) (lkp_mem h)) sf_RX0_ok (by decide +kernel) 400 (fun As σ Q h => ?_)
  replace h := p1r_e h
  obtain ⟨o, q0, rfl, h⟩ := h
  replace h := p1r_e h
  obtain ⟨x1, q1, rfl, h⟩ := h
  replace h := onB_e h
  obtain ⟨e9, h⟩ := h
  have e9 := List.isEmpty_iff.mp e9
  subst e9
  refine ⟨Nat.le_of_ble_eq_true rfl, fun P hP => ?_⟩
  exact h (fun x2 => P 2 [.ref o, .ref x1, .int x2] σ) (fun x2 hb => hP 2 [.ref o, .ref x1, .int x2] σ hb)
def wp_X0_findLeft (o : Nat) (σ : Sg) (Q : Sg → Prop) : Prop :=
  ∀ L13 : Int32 → Sg → Prop,
  (∀ (x1 : Int32) (τ : Sg), onB (isK wX o 0) (((x1 < (gI τ o 2) → onB (isK wX o 0) (onB (isA wX (wR wX o 0)) (((x1 < (nI (wN wX (wR wX o 0))) → onB (isK wX o 0) (onB (isK wX o 0) (onB (isK wX (wR wX o 0) 20) ((vp_in x1 (wN wX (wR wX o 0)) ∧ onB (isK wX (wR wX o 1) 7) (wp_X7_dropCube (wR wX o 1) (gI τ (wR wX o 0) (x1).toNatClampNeg) τ (fun s1 => L13 (x1 + (1 : Int32)) s1))))))) ∧ (¬ x1 < (nI (wN wX (wR wX o 0))) → Q τ))))) ∧ (¬ x1 < (gI τ o 2) → Q τ))) → L13 x1 τ) →
  onB (isK wX o 0) (onB (isK wX o 0) (onB (isK wX (wR wX o 1) 7) (wp_X7_becomeFirst (wR wX o 1) (gI σ o 3) σ (fun s2 => L13 (0 : Int32) s2))))
def wl_X0_findLeft : WP := fun As σ Q => p1r As (fun o r0 => onB r0.isEmpty (wp_X0_findLeft o σ (fun τ => Q none τ)))
def tb_X0_findLeft : List (Nat × Instr × Nat) := [(0, (.aload_n 0, 1)), (1, (.getfield 10, 3)), (4, (.aload_n 0, 1)), (5, (.getfield 30, 3)), (8, (.invokevirtual 33, 3)), (11, (.iconst 0, 1)), (12, (.istore_n 1, 1)), (13, (.iload_n 1, 1)), (14, (.aload_n 0, 1)), (15, (.getfield 26, 3)), (18, (.if_icmp .ge 49, 3)), (21, (.iload_n 1, 1)), (22, (.aload_n 0, 1)), (23, (.getfield 22, 3)), (26, (.arraylength, 1)), (27, (.if_icmp .ge 49, 3)), (30, (.aload_n 0, 1)), (31, (.getfield 10, 3)), (34, (.aload_n 0, 1)), (35, (.getfield 22, 3)), (38, (.iload_n 1, 1)), (39, (.iaload, 1)), (40, (.invokevirtual 41, 3)), (43, (.iinc 1 1, 3)), (46, (.goto 13, 3)), (49, (.return_, 1))]
def ce_X0_findLeft : List (Nat × (Nat × Option Nat × WP)) := [(33, (2, some 7, wl_X7_becomeFirst)), (41, (2, some 7, wl_X7_dropCube))]
set_option maxRecDepth 100000 in
set_option maxHeartbeats 4000000 in
theorem ct_X0_findLeft (l : Launch) : Con l wX yX0_findLeft cX0_findLeft 2 none 2 wl_X0_findLeft := by
  refine sxm_ok l (ft := lkp ft_RX0) (c32 := lkp c32_RX0) (c64 := lkp c64_RX0) (ce := lkp ce_X0_findLeft) (sf := lkp sf_RX0) (lab := lkp [(13, [0, 1])]) (T := tb_X0_findLeft) (by decide +kernel) ft_RX0_ok c32_RX0_ok c64_RX0_ok (fun x q h => (show ∀ q ∈ ce_X0_findLeft, ceOK l wX RX0 2 q.1 q.2.1 q.2.2.1 q.2.2.2 from List.forall_mem_cons.mpr ⟨Or.inr (Or.inr (Or.inr ⟨yX7_becomeFirst, cX7_becomeFirst, 4, none, 0, ct_X7_becomeFirst l, by decide, by decide, mi_X7_becomeFirst.1, mi_X7_becomeFirst.2, ml_RX0_33, mv_X7_becomeFirst.1, mv_X7_becomeFirst.2, ⟨_, _, rfl⟩, by decide, by decide +kernel⟩)), List.forall_mem_cons.mpr ⟨Or.inr (Or.inr (Or.inr ⟨yX7_dropCube, cX7_dropCube, 5, none, 1, ct_X7_dropCube l, by decide, by decide, mi_X7_dropCube.1, mi_X7_dropCube.2, ml_RX0_41, mv_X7_dropCube.1, mv_X7_dropCube.2, ⟨_, _, rfl⟩, by decide, by decide +kernel⟩)), fun _ h => absurd h List.not_mem_nil⟩⟩) (x, q) (lkp_mem h)) sf_RX0_ok (by decide +kernel) 400 (fun As σ Q h => ?_)
  replace h := p1r_e h
  obtain ⟨o, q0, rfl, h⟩ := h
  replace h := onB_e h
  obtain ⟨e9, h⟩ := h
  have e9 := List.isEmpty_iff.mp e9
  subst e9
  refine ⟨Nat.le_of_ble_eq_true rfl, fun P hP => ?_⟩
  exact h (fun x1 τ => P 13 [.ref o, .int x1] τ) (fun x1 τ hb => hP 13 [.ref o, .int x1] τ hb)
def wp_X1_restart  (σ : Sg) (Q : Sg → Prop) : Prop :=
  ∀ L2 : Int32 → Sg → Prop,
  (∀ (x1 : Int32) (τ : Sg), (((24 : Int32) < x1 → wp_X1_frame (0 : Int32) τ (fun r1 => onB (isK wX r1 0) (onB (isK wX (wR wX r1 1) 7) (wp_X7_becomeOnly (wR wX r1 1) (gI τ 1 13) τ (fun s2 => Q s2))))) ∧ (¬ (24 : Int32) < x1 → (vp_in x1 25 ∧ wp_X3_states τ (fun r3 => onB (isK wX (wR wX 1055 (x1).toNatClampNeg) 0) (wp_X0_restart (wR wX 1055 (x1).toNatClampNeg) r3 τ (fun s4 => L2 (x1 + (1 : Int32)) s4)))))) → L2 x1 τ) →
  L2 (0 : Int32) σ
def wl_X1_restart : WP := fun As σ Q => p1r As (fun z0 r0 => onB (Nat.beq z0 1054) (onB r0.isEmpty (wp_X1_restart  σ (fun τ => Q none τ))))
def tb_X1_restart : List (Nat × Instr × Nat) := [(0, (.iconst 0, 1)), (1, (.istore_n 1, 1)), (2, (.iload_n 1, 1)), (3, (.bipush 24, 2)), (5, (.if_icmp .gt 30, 3)), (8, (.aload_n 0, 1)), (9, (.getfield 11, 3)), (12, (.iload_n 1, 1)), (13, (.aaload, 1)), (14, (.aload_n 0, 1)), (15, (.getfield 34, 3)), (18, (.invokevirtual 42, 3)), (21, (.invokevirtual 48, 3)), (24, (.iinc 1 1, 3)), (27, (.goto 2, 3)), (30, (.aload_n 0, 1)), (31, (.iconst 0, 1)), (32, (.invokevirtual 51, 3)), (35, (.getfield 55, 3)), (38, (.aload_n 0, 1)), (39, (.getfield 34, 3)), (42, (.getfield 58, 3)), (45, (.invokevirtual 62, 3)), (48, (.return_, 1))]
def ce_X1_restart : List (Nat × (Nat × Option Nat × WP)) := [(42, (1, some 3, wl_X3_states)), (48, (2, some 0, wl_X0_restart)), (51, (2, some 1, wl_X1_frame)), (62, (2, some 7, wl_X7_becomeOnly))]
set_option maxRecDepth 100000 in
set_option maxHeartbeats 4000000 in
theorem ct_X1_restart (l : Launch) : Con l wX yX1_restart cX1_restart 2 none 2 wl_X1_restart := by
  refine sxm_ok l (ft := lkp ft_RX1) (c32 := lkp c32_RX1) (c64 := lkp c64_RX1) (ce := lkp ce_X1_restart) (sf := lkp sf_RX1) (lab := lkp [(2, [0, 1])]) (T := tb_X1_restart) (by decide +kernel) ft_RX1_ok c32_RX1_ok c64_RX1_ok (fun x q h => (show ∀ q ∈ ce_X1_restart, ceOK l wX RX1 2 q.1 q.2.1 q.2.2.1 q.2.2.2 from List.forall_mem_cons.mpr ⟨Or.inr (Or.inr (Or.inr ⟨yX3_states, cX3_states, 1, (some .int), 0, ct_X3_states l, by decide, by decide, mi_X3_states.1, mi_X3_states.2, ml_RX1_42, mv_X3_states.1, mv_X3_states.2, ⟨_, _, rfl⟩, by decide, by decide +kernel⟩)), List.forall_mem_cons.mpr ⟨Or.inr (Or.inr (Or.inr ⟨yX0_restart, cX0_restart, 2, none, 1, ct_X0_restart l, by decide, by decide, mi_X0_restart.1, mi_X0_restart.2, ml_RX1_48, mv_X0_restart.1, mv_X0_restart.2, ⟨_, _, rfl⟩, by decide, by decide +kernel⟩)), List.forall_mem_cons.mpr ⟨Or.inr (Or.inr (Or.inr ⟨yX1_frame, cX1_frame, 2, (some (.object "FrameProver$Clauses")), 0, ct_X1_frame l, by decide, by decide, mi_X1_frame.1, mi_X1_frame.2, ml_RX1_51, mv_X1_frame.1, mv_X1_frame.2, ⟨_, _, rfl⟩, by decide, by decide +kernel⟩)), List.forall_mem_cons.mpr ⟨Or.inr (Or.inr (Or.inr ⟨yX7_becomeOnly, cX7_becomeOnly, 2, none, 1, ct_X7_becomeOnly l, by decide, by decide, mi_X7_becomeOnly.1, mi_X7_becomeOnly.2, ml_RX1_62, mv_X7_becomeOnly.1, mv_X7_becomeOnly.2, ⟨_, _, rfl⟩, by decide, by decide +kernel⟩)), fun _ h => absurd h List.not_mem_nil⟩⟩⟩⟩) (x, q) (lkp_mem h)) sf_RX1_ok (by decide +kernel) 400 (fun As σ Q h => ?_)
  replace h := p1r_e h
  obtain ⟨z0, q0, rfl, h⟩ := h
  replace h := onB_e h
  obtain ⟨e0, h⟩ := h
  have e0 := Nat.eq_of_beq_eq_true e0
  subst e0
  replace h := onB_e h
  obtain ⟨e9, h⟩ := h
  have e9 := List.isEmpty_iff.mp e9
  subst e9
  refine ⟨Nat.le_of_ble_eq_true rfl, fun P hP => ?_⟩
  exact h (fun x1 τ => P 2 [.ref 1054, .int x1] τ) (fun x1 τ hb => hP 2 [.ref 1054, .int x1] τ hb)
def wp_X1_leastInto (x1 : Int32) (x2 : Int32) (σ : Sg) (Q : Int32 → Sg → Prop) : Prop :=
  ∀ L20 : Nat → Int32 → Sg → Prop,
  (∀ (x3 : Nat) (x4 : Int32) (τ : Sg), wp_X3_states τ (fun r1 => ((x4 < r1 → onB (isK wX x3 7) (wp_X7_has x3 x4 τ (fun r2 => ((r2 = 0 → L20 x3 (x4 + (1 : Int32)) τ) ∧ (¬ r2 = 0 → wp_X9_isInCube x4 x2 τ (fun r3 => ((r3 = 0 → wp_X8_from x4 τ (fun r4 => onB (isK wX r4 7) (wp_X7_meets r4 1060 τ (fun r5 => ((r5 = 0 → L20 x3 (x4 + (1 : Int32)) τ) ∧ (¬ r5 = 0 → Q x4 τ)))))) ∧ (¬ r3 = 0 → L20 x3 (x4 + (1 : Int32)) τ)))))))) ∧ (¬ x4 < r1 → Q (-1 : Int32) τ))) → L20 x3 x4 τ) →
  wp_X1_frame x1 σ (fun r6 => onB (isK wX r6 0) (wp_X7_becomeCube 1060 x2 σ (fun s7 => L20 (wR wX r6 1) (0 : Int32) s7)))
def wl_X1_leastInto : WP := fun As σ Q => p1r As (fun z0 r0 => onB (Nat.beq z0 1054) (p1i r0 (fun x1 r1 => p1i r1 (fun x2 r2 => onB r2.isEmpty (wp_X1_leastInto x1 x2 σ (fun x τ => Q (some (.int x)) τ))))))
def tb_X1_leastInto : List (Nat × Instr × Nat) := [(0, (.aload_n 0, 1)), (1, (.iload_n 1, 1)), (2, (.invokevirtual 51, 3)), (5, (.getfield 55, 3)), (8, (.astore_n 3, 1)), (9, (.aload_n 0, 1)), (10, (.getfield 27, 3)), (13, (.iload_n 2, 1)), (14, (.invokevirtual 65, 3)), (17, (.iconst 0, 1)), (18, (.istore 4, 2)), (20, (.iload 4, 2)), (22, (.aload_n 0, 1)), (23, (.getfield 34, 3)), (26, (.invokevirtual 42, 3)), (29, (.if_icmp .ge 78, 3)), (32, (.aload_n 3, 1)), (33, (.iload 4, 2)), (35, (.invokevirtual 68, 3)), (38, (.ifCond .eq 72, 3)), (41, (.iload 4, 2)), (43, (.iload_n 2, 1)), (44, (.invokestatic 72, 3)), (47, (.ifCond .ne 72, 3)), (50, (.aload_n 0, 1)), (51, (.getfield 38, 3)), (54, (.iload 4, 2)), (56, (.invokevirtual 76, 3)), (59, (.aload_n 0, 1)), (60, (.getfield 27, 3)), (63, (.invokevirtual 82, 3)), (66, (.ifCond .eq 72, 3)), (69, (.iload 4, 2)), (71, (.ireturn, 1)), (72, (.iinc 4 1, 3)), (75, (.goto 20, 3)), (78, (.iconst (-1), 1)), (79, (.ireturn, 1))]
def ce_X1_leastInto : List (Nat × (Nat × Option Nat × WP)) := [(51, (2, some 1, wl_X1_frame)), (65, (2, some 7, wl_X7_becomeCube)), (42, (1, some 3, wl_X3_states)), (68, (2, some 7, wl_X7_has)), (72, (2, none, wl_X9_isInCube)), (76, (2, some 8, wl_X8_from)), (82, (2, some 7, wl_X7_meets))]
set_option maxRecDepth 100000 in
set_option maxHeartbeats 4000000 in
theorem ct_X1_leastInto (l : Launch) : Con l wX yX1_leastInto cX1_leastInto 5 (some .int) 2 wl_X1_leastInto := by
  refine sxm_ok l (ft := lkp ft_RX1) (c32 := lkp c32_RX1) (c64 := lkp c64_RX1) (ce := lkp ce_X1_leastInto) (sf := lkp sf_RX1) (lab := lkp [(20, [0, 2, 3, 4])]) (T := tb_X1_leastInto) (by decide +kernel) ft_RX1_ok c32_RX1_ok c64_RX1_ok (fun x q h => (show ∀ q ∈ ce_X1_leastInto, ceOK l wX RX1 2 q.1 q.2.1 q.2.2.1 q.2.2.2 from List.forall_mem_cons.mpr ⟨Or.inr (Or.inr (Or.inr ⟨yX1_frame, cX1_frame, 2, (some (.object "FrameProver$Clauses")), 0, ct_X1_frame l, by decide, by decide, mi_X1_frame.1, mi_X1_frame.2, ml_RX1_51, mv_X1_frame.1, mv_X1_frame.2, ⟨_, _, rfl⟩, by decide, by decide +kernel⟩)), List.forall_mem_cons.mpr ⟨Or.inr (Or.inr (Or.inr ⟨yX7_becomeCube, cX7_becomeCube, 5, none, 1, ct_X7_becomeCube l, by decide, by decide, mi_X7_becomeCube.1, mi_X7_becomeCube.2, ml_RX1_65, mv_X7_becomeCube.1, mv_X7_becomeCube.2, ⟨_, _, rfl⟩, by decide, by decide +kernel⟩)), List.forall_mem_cons.mpr ⟨Or.inr (Or.inr (Or.inr ⟨yX3_states, cX3_states, 1, (some .int), 0, ct_X3_states l, by decide, by decide, mi_X3_states.1, mi_X3_states.2, ml_RX1_42, mv_X3_states.1, mv_X3_states.2, ⟨_, _, rfl⟩, by decide, by decide +kernel⟩)), List.forall_mem_cons.mpr ⟨Or.inr (Or.inr (Or.inr ⟨yX7_has, cX7_has, 2, (some .boolean), 0, ct_X7_has l, by decide, by decide, mi_X7_has.1, mi_X7_has.2, ml_RX1_68, mv_X7_has.1, mv_X7_has.2, ⟨_, _, rfl⟩, by decide, by decide +kernel⟩)), List.forall_mem_cons.mpr ⟨Or.inr (Or.inr (Or.inr ⟨yX9_isInCube, cX9_isInCube, 2, (some .boolean), 1, ct_X9_isInCube l, by decide, by decide, mi_X9_isInCube.1, mi_X9_isInCube.2, Or.inr ml_RX1_72, ms_X9_isInCube, by decide +kernel⟩)), List.forall_mem_cons.mpr ⟨Or.inr (Or.inr (Or.inr ⟨yX8_from, cX8_from, 2, (some (.object "FrameProver$StateSet")), 0, ct_X8_from l, by decide, by decide, mi_X8_from.1, mi_X8_from.2, ml_RX1_76, mv_X8_from.1, mv_X8_from.2, ⟨_, _, rfl⟩, by decide, by decide +kernel⟩)), List.forall_mem_cons.mpr ⟨Or.inr (Or.inr (Or.inr ⟨yX7_meets, cX7_meets, 5, (some .boolean), 0, ct_X7_meets l, by decide, by decide, mi_X7_meets.1, mi_X7_meets.2, ml_RX1_82, mv_X7_meets.1, mv_X7_meets.2, ⟨_, _, rfl⟩, by decide, by decide +kernel⟩)), fun _ h => absurd h List.not_mem_nil⟩⟩⟩⟩⟩⟩⟩) (x, q) (lkp_mem h)) sf_RX1_ok (by decide +kernel) 400 (fun As σ Q h => ?_)
  replace h := p1r_e h
  obtain ⟨z0, q0, rfl, h⟩ := h
  replace h := onB_e h
  obtain ⟨e0, h⟩ := h
  have e0 := Nat.eq_of_beq_eq_true e0
  subst e0
  replace h := p1i_e h
  obtain ⟨x1, q1, rfl, h⟩ := h
  replace h := p1i_e h
  obtain ⟨x2, q2, rfl, h⟩ := h
  replace h := onB_e h
  obtain ⟨e9, h⟩ := h
  have e9 := List.isEmpty_iff.mp e9
  subst e9
  refine ⟨Nat.le_of_ble_eq_true rfl, fun P hP => ?_⟩
  exact h (fun x3 x4 τ => P 20 [.ref 1054, .int x2, .ref x3, .int x4] τ) (fun x3 x4 τ hb => hP 20 [.ref 1054, .int x2, .ref x3, .int x4] τ hb)
def wp_X2_fault  (σ : Sg) (Q : Int32 → Prop) : Prop :=
  wp_X7_has 1168 (gI σ 1 13) σ (fun r1 => ((r1 = 0 → Q (1 : Int32)) ∧ (¬ r1 = 0 → wp_X7_meets 1168 18 σ (fun r2 => ((r2 = 0 → wp_X2_leastThatLeadsOut σ (fun r3 => ((r3 = (-1 : Int32) → Q (0 : Int32)) ∧ (¬ r3 = (-1 : Int32) → Q (2 : Int32))))) ∧ (¬ r2 = 0 → Q (3 : Int32)))))))
def wl_X2_fault : WP := fun As σ Q => p1r As (fun z0 r0 => onB (Nat.beq z0 1171) (onB r0.isEmpty (wp_X2_fault  σ (fun x => Q (some (.int x)) σ))))
def tb_X2_fault : List (Nat × Instr × Nat) := [(0, (.aload_n 0, 1)), (1, (.getfield 26, 3)), (4, (.getfield 30, 3)), (7, (.aload_n 0, 1)), (8, (.getfield 18, 3)), (11, (.getfield 36, 3)), (14, (.invokevirtual 41, 3)), (17, (.ifCond .ne 22, 3)), (20, (.iconst 1, 1)), (21, (.ireturn, 1)), (22, (.aload_n 0, 1)), (23, (.getfield 26, 3)), (26, (.getfield 30, 3)), (29, (.aload_n 0, 1)), (30, (.getfield 22, 3)), (33, (.getfield 47, 3)), (36, (.invokevirtual 52, 3)), (39, (.ifCond .eq 44, 3)), (42, (.iconst 3, 1)), (43, (.ireturn, 1)), (44, (.aload_n 0, 1)), (45, (.invokevirtual 56, 3)), (48, (.iconst (-1), 1)), (49, (.if_icmp .ne 56, 3)), (52, (.iconst 0, 1)), (53, (.goto 57, 3)), (56, (.iconst 2, 1)), (57, (.ireturn, 1))]
def ce_X2_fault : List (Nat × (Nat × Option Nat × WP)) := [(41, (2, some 7, wl_X7_has)), (52, (2, some 7, wl_X7_meets)), (56, (1, some 2, wl_X2_leastThatLeadsOut))]
set_option maxRecDepth 100000 in
set_option maxHeartbeats 4000000 in
theorem ct_X2_fault (l : Launch) : Con l wX yX2_fault cX2_fault 1 (some .int) 2 wl_X2_fault := by
  refine sxm_ok l (ft := lkp ft_RX2) (c32 := lkp c32_RX2) (c64 := lkp c64_RX2) (ce := lkp ce_X2_fault) (sf := lkp sf_RX2) (lab := lkp []) (T := tb_X2_fault) (by decide +kernel) ft_RX2_ok c32_RX2_ok c64_RX2_ok (fun x q h => (show ∀ q ∈ ce_X2_fault, ceOK l wX RX2 2 q.1 q.2.1 q.2.2.1 q.2.2.2 from List.forall_mem_cons.mpr ⟨Or.inr (Or.inr (Or.inr ⟨yX7_has, cX7_has, 2, (some .boolean), 0, ct_X7_has l, by decide, by decide, mi_X7_has.1, mi_X7_has.2, ml_RX2_41, mv_X7_has.1, mv_X7_has.2, ⟨_, _, rfl⟩, by decide, by decide +kernel⟩)), List.forall_mem_cons.mpr ⟨Or.inr (Or.inr (Or.inr ⟨yX7_meets, cX7_meets, 5, (some .boolean), 0, ct_X7_meets l, by decide, by decide, mi_X7_meets.1, mi_X7_meets.2, ml_RX2_52, mv_X7_meets.1, mv_X7_meets.2, ⟨_, _, rfl⟩, by decide, by decide +kernel⟩)), List.forall_mem_cons.mpr ⟨Or.inr (Or.inr (Or.inr ⟨yX2_leastThatLeadsOut, cX2_leastThatLeadsOut, 2, (some .int), 1, ct_X2_leastThatLeadsOut l, by decide, by decide, mi_X2_leastThatLeadsOut.1, mi_X2_leastThatLeadsOut.2, ml_RX2_56, mv_X2_leastThatLeadsOut.1, mv_X2_leastThatLeadsOut.2, ⟨_, _, rfl⟩, by decide, by decide +kernel⟩)), fun _ h => absurd h List.not_mem_nil⟩⟩⟩) (x, q) (lkp_mem h)) sf_RX2_ok (by decide +kernel) 400 (fun As σ Q h => ?_)
  replace h := p1r_e h
  obtain ⟨z0, q0, rfl, h⟩ := h
  replace h := onB_e h
  obtain ⟨e0, h⟩ := h
  have e0 := Nat.eq_of_beq_eq_true e0
  subst e0
  replace h := onB_e h
  obtain ⟨e9, h⟩ := h
  have e9 := List.isEmpty_iff.mp e9
  subst e9
  refine ⟨Nat.le_of_ble_eq_true rfl, fun P hP => ?_⟩
  exact h 
def wp_X3_evaluate (x1 : Int32) (σ : Sg) (Q : Sg → Prop) : Prop :=
  ∀ L2 : Int32 → Sg → Prop,
  (∀ (x2 : Int32) (τ : Sg), ((x2 < (gI τ 1 10) → ((x2 < (80 : Int32) → wp_X3_lanesIn x2 x1 τ (fun r1 => (vp_in x2 80 ∧ L2 (x2 + (1 : Int32)) (sI τ 7 (x2).toNatClampNeg r1)))) ∧ (¬ x2 < (80 : Int32) → Q τ))) ∧ (¬ x2 < (gI τ 1 10) → Q τ)) → L2 x2 τ) →
  L2 (0 : Int32) σ
def wl_X3_evaluate : WP := fun As σ Q => p1r As (fun z0 r0 => onB (Nat.beq z0 1) (p1i r0 (fun x1 r1 => onB r1.isEmpty (wp_X3_evaluate x1 σ (fun τ => Q none τ)))))
def tb_X3_evaluate : List (Nat × Instr × Nat) := [(0, (.iconst 0, 1)), (1, (.istore_n 2, 1)), (2, (.iload_n 2, 1)), (3, (.aload_n 0, 1)), (4, (.getfield 50, 3)), (7, (.if_icmp .ge 34, 3)), (10, (.iload_n 2, 1)), (11, (.bipush 80, 2)), (13, (.if_icmp .ge 34, 3)), (16, (.aload_n 0, 1)), (17, (.getfield 27, 3)), (20, (.iload_n 2, 1)), (21, (.aload_n 0, 1)), (22, (.iload_n 2, 1)), (23, (.iload_n 1, 1)), (24, (.invokevirtual 77, 3)), (27, (.iastore, 1)), (28, (.iinc 2 1, 3)), (31, (.goto 2, 3)), (34, (.return_, 1))]
def ce_X3_evaluate : List (Nat × (Nat × Option Nat × WP)) := [(77, (3, some 3, wl_X3_lanesIn))]
set_option maxRecDepth 100000 in
set_option maxHeartbeats 4000000 in
theorem ct_X3_evaluate (l : Launch) : Con l wX yX3_evaluate cX3_evaluate 3 none 2 wl_X3_evaluate := by
  refine sxm_ok l (ft := lkp ft_RX3) (c32 := lkp c32_RX3) (c64 := lkp c64_RX3) (ce := lkp ce_X3_evaluate) (sf := lkp sf_RX3) (lab := lkp [(2, [0, 1, 2])]) (T := tb_X3_evaluate) (by decide +kernel) ft_RX3_ok c32_RX3_ok c64_RX3_ok (fun x q h => (show ∀ q ∈ ce_X3_evaluate, ceOK l wX RX3 2 q.1 q.2.1 q.2.2.1 q.2.2.2 from List.forall_mem_cons.mpr ⟨Or.inr (Or.inr (Or.inr ⟨yX3_lanesIn, cX3_lanesIn, 4, (some .int), 1, ct_X3_lanesIn l, by decide, by decide, mi_X3_lanesIn.1, mi_X3_lanesIn.2, ml_RX3_77, mv_X3_lanesIn.1, mv_X3_lanesIn.2, ⟨_, _, rfl⟩, by decide, by decide +kernel⟩)), fun _ h => absurd h List.not_mem_nil⟩) (x, q) (lkp_mem h)) sf_RX3_ok (by decide +kernel) 400 (fun As σ Q h => ?_)
  replace h := p1r_e h
  obtain ⟨z0, q0, rfl, h⟩ := h
  replace h := onB_e h
  obtain ⟨e0, h⟩ := h
  have e0 := Nat.eq_of_beq_eq_true e0
  subst e0
  replace h := p1i_e h
  obtain ⟨x1, q1, rfl, h⟩ := h
  replace h := onB_e h
  obtain ⟨e9, h⟩ := h
  have e9 := List.isEmpty_iff.mp e9
  subst e9
  refine ⟨Nat.le_of_ble_eq_true rfl, fun P hP => ?_⟩
  exact h (fun x2 τ => P 2 [.ref 1, .int x1, .int x2] τ) (fun x2 τ hb => hP 2 [.ref 1, .int x1, .int x2] τ hb)
def wp_X3_badLanes  (σ : Sg) (Q : Int32 → Prop) : Prop :=
  wp_X3_rightLanes σ (fun r1 => wp_X3_signLanes (gI σ 1 9) σ (fun r2 => Q (r1 &&& r2)))
def wl_X3_badLanes : WP := fun As σ Q => p1r As (fun z0 r0 => onB (Nat.beq z0 1) (onB r0.isEmpty (wp_X3_badLanes  σ (fun x => Q (some (.int x)) σ))))
def tb_X3_badLanes : List (Nat × Instr × Nat) := [(0, (.aload_n 0, 1)), (1, (.invokevirtual 95, 3)), (4, (.aload_n 0, 1)), (5, (.aload_n 0, 1)), (6, (.getfield 46, 3)), (9, (.invokevirtual 81, 3)), (12, (.iand, 1)), (13, (.ireturn, 1))]
def ce_X3_badLanes : List (Nat × (Nat × Option Nat × WP)) := [(95, (1, some 3, wl_X3_rightLanes)), (81, (2, some 3, wl_X3_signLanes))]
set_option maxRecDepth 100000 in
set_option maxHeartbeats 4000000 in
theorem ct_X3_badLanes (l : Launch) : Con l wX yX3_badLanes cX3_badLanes 1 (some .int) 2 wl_X3_badLanes := by
  refine sxm_ok l (ft := lkp ft_RX3) (c32 := lkp c32_RX3) (c64 := lkp c64_RX3) (ce := lkp ce_X3_badLanes) (sf := lkp sf_RX3) (lab := lkp []) (T := tb_X3_badLanes) (by decide +kernel) ft_RX3_ok c32_RX3_ok c64_RX3_ok (fun x q h => (show ∀ q ∈ ce_X3_badLanes, ceOK l wX RX3 2 q.1 q.2.1 q.2.2.1 q.2.2.2 from List.forall_mem_cons.mpr ⟨Or.inr (Or.inr (Or.inr ⟨yX3_rightLanes, cX3_rightLanes, 3, (some .int), 1, ct_X3_rightLanes l, by decide, by decide, mi_X3_rightLanes.1, mi_X3_rightLanes.2, ml_RX3_95, mv_X3_rightLanes.1, mv_X3_rightLanes.2, ⟨_, _, rfl⟩, by decide, by decide +kernel⟩)), List.forall_mem_cons.mpr ⟨Or.inr (Or.inr (Or.inr ⟨yX3_signLanes, cX3_signLanes, 3, (some .int), 0, ct_X3_signLanes l, by decide, by decide, mi_X3_signLanes.1, mi_X3_signLanes.2, ml_RX3_81, mv_X3_signLanes.1, mv_X3_signLanes.2, ⟨_, _, rfl⟩, by decide, by decide +kernel⟩)), fun _ h => absurd h List.not_mem_nil⟩⟩) (x, q) (lkp_mem h)) sf_RX3_ok (by decide +kernel) 400 (fun As σ Q h => ?_)
  replace h := p1r_e h
  obtain ⟨z0, q0, rfl, h⟩ := h
  replace h := onB_e h
  obtain ⟨e0, h⟩ := h
  have e0 := Nat.eq_of_beq_eq_true e0
  subst e0
  replace h := onB_e h
  obtain ⟨e9, h⟩ := h
  have e9 := List.isEmpty_iff.mp e9
  subst e9
  refine ⟨Nat.le_of_ble_eq_true rfl, fun P hP => ?_⟩
  exact h 
def wp_X3_isRight (x1 : Int32) (σ : Sg) (Q : Int32 → Prop) : Prop :=
  wp_X3_rightLanes σ (fun r1 => ((((r1 >>> (x1 &&& 31)) &&& (1 : Int32)) = (1 : Int32) → (nz (1 : Int32) ∧ Q (1 : Int32))) ∧ (¬ ((r1 >>> (x1 &&& 31)) &&& (1 : Int32)) = (1 : Int32) → (nz (0 : Int32) ∧ Q (0 : Int32)))))
def wl_X3_isRight : WP := fun As σ Q => p1r As (fun z0 r0 => onB (Nat.beq z0 1) (p1i r0 (fun x1 r1 => onB r1.isEmpty (wp_X3_isRight x1 σ (fun x => Q (some (.int x)) σ)))))
def tb_X3_isRight : List (Nat × Instr × Nat) := [(0, (.aload_n 0, 1)), (1, (.invokevirtual 95, 3)), (4, (.iload_n 1, 1)), (5, (.ishr, 1)), (6, (.iconst 1, 1)), (7, (.iand, 1)), (8, (.iconst 1, 1)), (9, (.if_icmp .ne 16, 3)), (12, (.iconst 1, 1)), (13, (.goto 17, 3)), (16, (.iconst 0, 1)), (17, (.ireturn, 1))]
def ce_X3_isRight : List (Nat × (Nat × Option Nat × WP)) := [(95, (1, some 3, wl_X3_rightLanes))]
set_option maxRecDepth 100000 in
set_option maxHeartbeats 4000000 in
theorem ct_X3_isRight (l : Launch) : Con l wX yX3_isRight cX3_isRight 2 (some .boolean) 2 wl_X3_isRight := by
  refine sxm_ok l (ft := lkp ft_RX3) (c32 := lkp c32_RX3) (c64 := lkp c64_RX3) (ce := lkp ce_X3_isRight) (sf := lkp sf_RX3) (lab := lkp []) (T := tb_X3_isRight) (by decide +kernel) ft_RX3_ok c32_RX3_ok c64_RX3_ok (fun x q h => (show ∀ q ∈ ce_X3_isRight, ceOK l wX RX3 2 q.1 q.2.1 q.2.2.1 q.2.2.2 from List.forall_mem_cons.mpr ⟨Or.inr (Or.inr (Or.inr ⟨yX3_rightLanes, cX3_rightLanes, 3, (some .int), 1, ct_X3_rightLanes l, by decide, by decide, mi_X3_rightLanes.1, mi_X3_rightLanes.2, ml_RX3_95, mv_X3_rightLanes.1, mv_X3_rightLanes.2, ⟨_, _, rfl⟩, by decide, by decide +kernel⟩)), fun _ h => absurd h List.not_mem_nil⟩) (x, q) (lkp_mem h)) sf_RX3_ok (by decide +kernel) 400 (fun As σ Q h => ?_)
  replace h := p1r_e h
  obtain ⟨z0, q0, rfl, h⟩ := h
  replace h := onB_e h
  obtain ⟨e0, h⟩ := h
  have e0 := Nat.eq_of_beq_eq_true e0
  subst e0
  replace h := p1i_e h
  obtain ⟨x1, q1, rfl, h⟩ := h
  replace h := onB_e h
  obtain ⟨e9, h⟩ := h
  have e9 := List.isEmpty_iff.mp e9
  subst e9
  refine ⟨Nat.le_of_ble_eq_true rfl, fun P hP => ?_⟩
  exact h 
def wp_X3_stateAfter (x1 : Int32) (σ : Sg) (Q : Int32 → Prop) : Prop :=
  ∀ L4 : Int32 → Int32 → Prop,
  (∀ (x2 : Int32) (x3 : Int32), ((x3 < (gI σ 1 11) → ((x3 < (8 : Int32) → (vp_in x3 8 ∧ wp_X3_firstSign (gI σ 6 (x3).toNatClampNeg) σ (fun r1 => wp_X3_signLanes r1 σ (fun r2 => L4 (x2 ||| (((r2 >>> (x1 &&& 31)) &&& (1 : Int32)) <<< (x3 &&& 31))) (x3 + (1 : Int32)))))) ∧ (¬ x3 < (8 : Int32) → Q x2))) ∧ (¬ x3 < (gI σ 1 11) → Q x2)) → L4 x2 x3) →
  L4 (0 : Int32) (0 : Int32)
def wl_X3_stateAfter : WP := fun As σ Q => p1r As (fun z0 r0 => onB (Nat.beq z0 1) (p1i r0 (fun x1 r1 => onB r1.isEmpty (wp_X3_stateAfter x1 σ (fun x => Q (some (.int x)) σ)))))
def tb_X3_stateAfter : List (Nat × Instr × Nat) := [(0, (.iconst 0, 1)), (1, (.istore_n 2, 1)), (2, (.iconst 0, 1)), (3, (.istore_n 3, 1)), (4, (.iload_n 3, 1)), (5, (.aload_n 0, 1)), (6, (.getfield 61, 3)), (9, (.if_icmp .ge 51, 3)), (12, (.iload_n 3, 1)), (13, (.bipush 8, 2)), (15, (.if_icmp .ge 51, 3)), (18, (.aload_n 0, 1)), (19, (.aload_n 0, 1)), (20, (.aload_n 0, 1)), (21, (.getfield 24, 3)), (24, (.iload_n 3, 1)), (25, (.iaload, 1)), (26, (.invokevirtual 98, 3)), (29, (.invokevirtual 81, 3)), (32, (.istore 4, 2)), (34, (.iload_n 2, 1)), (35, (.iload 4, 2)), (37, (.iload_n 1, 1)), (38, (.ishr, 1)), (39, (.iconst 1, 1)), (40, (.iand, 1)), (41, (.iload_n 3, 1)), (42, (.ishl, 1)), (43, (.ior, 1)), (44, (.istore_n 2, 1)), (45, (.iinc 3 1, 3)), (48, (.goto 4, 3)), (51, (.iload_n 2, 1)), (52, (.ireturn, 1))]
def ce_X3_stateAfter : List (Nat × (Nat × Option Nat × WP)) := [(98, (2, some 3, wl_X3_firstSign)), (81, (2, some 3, wl_X3_signLanes))]
set_option maxRecDepth 100000 in
set_option maxHeartbeats 4000000 in
theorem ct_X3_stateAfter (l : Launch) : Con l wX yX3_stateAfter cX3_stateAfter 5 (some .int) 2 wl_X3_stateAfter := by
  refine sxm_ok l (ft := lkp ft_RX3) (c32 := lkp c32_RX3) (c64 := lkp c64_RX3) (ce := lkp ce_X3_stateAfter) (sf := lkp sf_RX3) (lab := lkp [(4, [0, 1, 2, 3])]) (T := tb_X3_stateAfter) (by decide +kernel) ft_RX3_ok c32_RX3_ok c64_RX3_ok (fun x q h => (show ∀ q ∈ ce_X3_stateAfter, ceOK l wX RX3 2 q.1 q.2.1 q.2.2.1 q.2.2.2 from List.forall_mem_cons.mpr ⟨Or.inr (Or.inr (Or.inr ⟨yX3_firstSign, cX3_firstSign, 2, (some .int), 1, ct_X3_firstSign l, by decide, by decide, mi_X3_firstSign.1, mi_X3_firstSign.2, ml_RX3_98, mv_X3_firstSign.1, mv_X3_firstSign.2, ⟨_, _, rfl⟩, by decide, by decide +kernel⟩)), List.forall_mem_cons.mpr ⟨Or.inr (Or.inr (Or.inr ⟨yX3_signLanes, cX3_signLanes, 3, (some .int), 0, ct_X3_signLanes l, by decide, by decide, mi_X3_signLanes.1, mi_X3_signLanes.2, ml_RX3_81, mv_X3_signLanes.1, mv_X3_signLanes.2, ⟨_, _, rfl⟩, by decide, by decide +kernel⟩)), fun _ h => absurd h List.not_mem_nil⟩⟩) (x, q) (lkp_mem h)) sf_RX3_ok (by decide +kernel) 400 (fun As σ Q h => ?_)
  replace h := p1r_e h
  obtain ⟨z0, q0, rfl, h⟩ := h
  replace h := onB_e h
  obtain ⟨e0, h⟩ := h
  have e0 := Nat.eq_of_beq_eq_true e0
  subst e0
  replace h := p1i_e h
  obtain ⟨x1, q1, rfl, h⟩ := h
  replace h := onB_e h
  obtain ⟨e9, h⟩ := h
  have e9 := List.isEmpty_iff.mp e9
  subst e9
  refine ⟨Nat.le_of_ble_eq_true rfl, fun P hP => ?_⟩
  exact h (fun x2 x3 => P 4 [.ref 1, .int x1, .int x2, .int x3] σ) (fun x2 x3 hb => hP 4 [.ref 1, .int x1, .int x2, .int x3] σ hb)
def wp_X3_markSign (x1 : Int32) (σ : Sg) (Q : Sg → Prop) : Prop :=
  wp_X3_hasSign x1 σ (fun r1 => ((r1 = 0 → Q σ) ∧ (¬ r1 = 0 → (vp_in (x1 >>> ((1 : Int32) &&& 31)) 80 ∧ Q (sI σ 8 ((x1 >>> ((1 : Int32) &&& 31))).toNatClampNeg (vp_nar .boolean (1 : Int32)))))))
def wl_X3_markSign : WP := fun As σ Q => p1r As (fun z0 r0 => onB (Nat.beq z0 1) (p1i r0 (fun x1 r1 => onB r1.isEmpty (wp_X3_markSign x1 σ (fun τ => Q none τ)))))
def tb_X3_markSign : List (Nat × Instr × Nat) := [(0, (.aload_n 0, 1)), (1, (.iload_n 1, 1)), (2, (.invokevirtual 119, 3)), (5, (.ifCond .eq 17, 3)), (8, (.aload_n 0, 1)), (9, (.getfield 30, 3)), (12, (.iload_n 1, 1)), (13, (.iconst 1, 1)), (14, (.ishr, 1)), (15, (.iconst 1, 1)), (16, (.bastore, 1)), (17, (.return_, 1))]
def ce_X3_markSign : List (Nat × (Nat × Option Nat × WP)) := [(119, (2, some 3, wl_X3_hasSign))]
set_option maxRecDepth 100000 in
set_option maxHeartbeats 4000000 in
theorem ct_X3_markSign (l : Launch) : Con l wX yX3_markSign cX3_markSign 2 none 2 wl_X3_markSign := by
  refine sxm_ok l (ft := lkp ft_RX3) (c32 := lkp c32_RX3) (c64 := lkp c64_RX3) (ce := lkp ce_X3_markSign) (sf := lkp sf_RX3) (lab := lkp []) (T := tb_X3_markSign) (by decide +kernel) ft_RX3_ok c32_RX3_ok c64_RX3_ok (fun x q h => (show ∀ q ∈ ce_X3_markSign, ceOK l wX RX3 2 q.1 q.2.1 q.2.2.1 q.2.2.2 from List.forall_mem_cons.mpr ⟨Or.inr (Or.inr (Or.inr ⟨yX3_hasSign, cX3_hasSign, 2, (some .boolean), 1, ct_X3_hasSign l, by decide, by decide, mi_X3_hasSign.1, mi_X3_hasSign.2, ml_RX3_119, mv_X3_hasSign.1, mv_X3_hasSign.2, ⟨_, _, rfl⟩, by decide, by decide +kernel⟩)), fun _ h => absurd h List.not_mem_nil⟩) (x, q) (lkp_mem h)) sf_RX3_ok (by decide +kernel) 400 (fun As σ Q h => ?_)
  replace h := p1r_e h
  obtain ⟨z0, q0, rfl, h⟩ := h
  replace h := onB_e h
  obtain ⟨e0, h⟩ := h
  have e0 := Nat.eq_of_beq_eq_true e0
  subst e0
  replace h := p1i_e h
  obtain ⟨x1, q1, rfl, h⟩ := h
  replace h := onB_e h
  obtain ⟨e9, h⟩ := h
  have e9 := List.isEmpty_iff.mp e9
  subst e9
  refine ⟨Nat.le_of_ble_eq_true rfl, fun P hP => ?_⟩
  exact h 
def wp_X5_layOut (x2 : Int32) (σ : Sg) (Q : Sg → Prop) : Prop :=
  ∀ L15 : Int32 → Sg → Prop,
  (∀ (x3 : Int32) (τ : Sg), ((x3 < (gI τ 1172 1) → ((x3 < (80 : Int32) → wp_X3_partLanes x3 τ (fun r1 => (vp_in x3 80 ∧ L15 (x3 + (1 : Int32)) (sI τ 1173 (x3).toNatClampNeg ((r1 >>> (x2 &&& 31)) &&& (1 : Int32)))))) ∧ (¬ x3 < (80 : Int32) → (nz (1 : Int32) ∧ Q (sI τ 1172 2 (1 : Int32)))))) ∧ (¬ x3 < (gI τ 1172 1) → (nz (1 : Int32) ∧ Q (sI τ 1172 2 (1 : Int32))))) → L15 x3 τ) →
  L15 (0 : Int32) (sI σ 1172 1 (if (80 : Int32) < (gI σ 1 10) then (80 : Int32) else (gI σ 1 10)))
def wl_X5_layOut : WP := fun As σ Q => p1r As (fun z0 r0 => onB (Nat.beq z0 1172) (p1r r0 (fun z1 r1 => onB (Nat.beq z1 1) (p1i r1 (fun x2 r2 => onB r2.isEmpty (wp_X5_layOut x2 σ (fun τ => Q none τ)))))))
def tb_X5_layOut : List (Nat × Instr × Nat) := [(0, (.aload_n 0, 1)), (1, (.aload_n 1, 1)), (2, (.getfield 15, 3)), (5, (.bipush 80, 2)), (7, (.invokestatic 21, 3)), (10, (.putfield 27, 3)), (13, (.iconst 0, 1)), (14, (.istore_n 3, 1)), (15, (.iload_n 3, 1)), (16, (.aload_n 0, 1)), (17, (.getfield 27, 3)), (20, (.if_icmp .ge 50, 3)), (23, (.iload_n 3, 1)), (24, (.bipush 80, 2)), (26, (.if_icmp .ge 50, 3)), (29, (.aload_n 0, 1)), (30, (.getfield 9, 3)), (33, (.iload_n 3, 1)), (34, (.aload_n 1, 1)), (35, (.iload_n 3, 1)), (36, (.invokevirtual 30, 3)), (39, (.iload_n 2, 1)), (40, (.ishr, 1)), (41, (.iconst 1, 1)), (42, (.iand, 1)), (43, (.iastore, 1)), (44, (.iinc 3 1, 3)), (47, (.goto 15, 3)), (50, (.aload_n 0, 1)), (51, (.iconst 1, 1)), (52, (.putfield 34, 3)), (55, (.return_, 1))]
def ce_X5_layOut : List (Nat × (Nat × Option Nat × WP)) := [(21, (2, some 97, fun _ _ _ => False)), (30, (2, some 3, wl_X3_partLanes))]
set_option maxRecDepth 100000 in
set_option maxHeartbeats 4000000 in
theorem ct_X5_layOut (l : Launch) : Con l wX yX5_layOut cX5_layOut 4 none 2 wl_X5_layOut := by
  refine sxm_ok l (ft := lkp ft_RX5) (c32 := lkp c32_RX5) (c64 := lkp c64_RX5) (ce := lkp ce_X5_layOut) (sf := lkp sf_RX5) (lab := lkp [(15, [0, 1, 2, 3])]) (T := tb_X5_layOut) (by decide +kernel) ft_RX5_ok c32_RX5_ok c64_RX5_ok (fun x q h => (show ∀ q ∈ ce_X5_layOut, ceOK l wX RX5 2 q.1 q.2.1 q.2.2.1 q.2.2.2 from List.forall_mem_cons.mpr ⟨Or.inr (Or.inr (Or.inl ⟨rfl, by decide, big_in 1037 (by decide +kernel) (by decide +kernel), big_in 1038 (by decide +kernel) (by decide +kernel), big_in 62 (by decide +kernel) (by decide +kernel), big_in 1039 (by decide +kernel) (by decide +kernel)⟩)), List.forall_mem_cons.mpr ⟨Or.inr (Or.inr (Or.inr ⟨yX3_partLanes, cX3_partLanes, 2, (some .int), 1, ct_X3_partLanes l, by decide, by decide, mi_X3_partLanes.1, mi_X3_partLanes.2, ml_RX5_30, mv_X3_partLanes.1, mv_X3_partLanes.2, ⟨_, _, rfl⟩, by decide, by decide +kernel⟩)), fun _ h => absurd h List.not_mem_nil⟩⟩) (x, q) (lkp_mem h)) sf_RX5_ok (by decide +kernel) 400 (fun As σ Q h => ?_)
  replace h := p1r_e h
  obtain ⟨z0, q0, rfl, h⟩ := h
  replace h := onB_e h
  obtain ⟨e0, h⟩ := h
  have e0 := Nat.eq_of_beq_eq_true e0
  subst e0
  replace h := p1r_e h
  obtain ⟨z1, q1, rfl, h⟩ := h
  replace h := onB_e h
  obtain ⟨e1, h⟩ := h
  have e1 := Nat.eq_of_beq_eq_true e1
  subst e1
  replace h := p1i_e h
  obtain ⟨x2, q2, rfl, h⟩ := h
  replace h := onB_e h
  obtain ⟨e9, h⟩ := h
  have e9 := List.isEmpty_iff.mp e9
  subst e9
  refine ⟨Nat.le_of_ble_eq_true rfl, fun P hP => ?_⟩
  exact h (fun x3 τ => P 15 [.ref 1172, .ref 1, .int x2, .int x3] τ) (fun x3 τ hb => hP 15 [.ref 1172, .ref 1, .int x2, .int x3] τ hb)
def wp_X5_moveStretch (x1 : Int32) (x2 : Int32) (x3 : Int32) (σ : Sg) (Q : Sg → Prop) : Prop :=
  wp_X5_hasStretch x1 x3 σ (fun r1 => ((r1 = 0 → Q σ) ∧ (¬ r1 = 0 → wp_X5_hasStretch x2 x3 σ (fun r2 => ((r2 = 0 → Q σ) ∧ (¬ r2 = 0 → (¬ x1 < 0 ∧ ¬ x2 < 0 ∧ ¬ x3 < 0 ∧ (x1).toNatClampNeg + (x3).toNatClampNeg ≤ 80 ∧ (x2).toNatClampNeg + (x3).toNatClampNeg ≤ 80 ∧ Q (cpI σ 1173 1173 (x1).toNatClampNeg (x2).toNatClampNeg (x3).toNatClampNeg))))))))
def wl_X5_moveStretch : WP := fun As σ Q => p1r As (fun z0 r0 => onB (Nat.beq z0 1172) (p1i r0 (fun x1 r1 => p1i r1 (fun x2 r2 => p1i r2 (fun x3 r3 => onB r3.isEmpty (wp_X5_moveStretch x1 x2 x3 σ (fun τ => Q none τ)))))))
def tb_X5_moveStretch : List (Nat × Instr × Nat) := [(0, (.aload_n 0, 1)), (1, (.iload_n 1, 1)), (2, (.iload_n 3, 1)), (3, (.invokevirtual 38, 3)), (6, (.ifCond .eq 32, 3)), (9, (.aload_n 0, 1)), (10, (.iload_n 2, 1)), (11, (.iload_n 3, 1)), (12, (.invokevirtual 38, 3)), (15, (.ifCond .eq 32, 3)), (18, (.aload_n 0, 1)), (19, (.getfield 9, 3)), (22, (.iload_n 1, 1)), (23, (.aload_n 0, 1)), (24, (.getfield 9, 3)), (27, (.iload_n 2, 1)), (28, (.iload_n 3, 1)), (29, (.invokestatic 42, 3)), (32, (.return_, 1))]
def ce_X5_moveStretch : List (Nat × (Nat × Option Nat × WP)) := [(38, (3, some 5, wl_X5_hasStretch)), (42, (5, some 99, fun _ _ _ => False))]
set_option maxRecDepth 100000 in
set_option maxHeartbeats 4000000 in
theorem ct_X5_moveStretch (l : Launch) : Con l wX yX5_moveStretch cX5_moveStretch 4 none 2 wl_X5_moveStretch := by
  refine sxm_ok l (ft := lkp ft_RX5) (c32 := lkp c32_RX5) (c64 := lkp c64_RX5) (ce := lkp ce_X5_moveStretch) (sf := lkp sf_RX5) (lab := lkp []) (T := tb_X5_moveStretch) (by decide +kernel) ft_RX5_ok c32_RX5_ok c64_RX5_ok (fun x q h => (show ∀ q ∈ ce_X5_moveStretch, ceOK l wX RX5 2 q.1 q.2.1 q.2.2.1 q.2.2.2 from List.forall_mem_cons.mpr ⟨Or.inr (Or.inr (Or.inr ⟨yX5_hasStretch, cX5_hasStretch, 3, (some .boolean), 0, ct_X5_hasStretch l, by decide, by decide, mi_X5_hasStretch.1, mi_X5_hasStretch.2, ml_RX5_38, mv_X5_hasStretch.1, mv_X5_hasStretch.2, ⟨_, _, rfl⟩, by decide, by decide +kernel⟩)), List.forall_mem_cons.mpr ⟨Or.inl ⟨rfl, by decide, big_in 1069 (by decide +kernel) (by decide +kernel), big_in 1071 (by decide +kernel) (by decide +kernel), big_in 1070 (by decide +kernel) (by decide +kernel), big_in 72 (by decide +kernel) (by decide +kernel)⟩, fun _ h => absurd h List.not_mem_nil⟩⟩) (x, q) (lkp_mem h)) sf_RX5_ok (by decide +kernel) 400 (fun As σ Q h => ?_)
  replace h := p1r_e h
  obtain ⟨z0, q0, rfl, h⟩ := h
  replace h := onB_e h
  obtain ⟨e0, h⟩ := h
  have e0 := Nat.eq_of_beq_eq_true e0
  subst e0
  replace h := p1i_e h
  obtain ⟨x1, q1, rfl, h⟩ := h
  replace h := p1i_e h
  obtain ⟨x2, q2, rfl, h⟩ := h
  replace h := p1i_e h
  obtain ⟨x3, q3, rfl, h⟩ := h
  replace h := onB_e h
  obtain ⟨e9, h⟩ := h
  have e9 := List.isEmpty_iff.mp e9
  subst e9
  refine ⟨Nat.le_of_ble_eq_true rfl, fun P hP => ?_⟩
  exact h 
def wp_X8_beginReach  (σ : Sg) (Q : Sg → Prop) : Prop :=
  wp_X7_becomeOnly 20 (gI σ 1 13) σ (fun s1 => wp_X7_becomeOnly 22 (gI s1 1 13) s1 (fun s2 => Q s2))
def wl_X8_beginReach : WP := fun As σ Q => p1r As (fun z0 r0 => onB (Nat.beq z0 13) (onB r0.isEmpty (wp_X8_beginReach  σ (fun τ => Q none τ))))
def tb_X8_beginReach : List (Nat × Instr × Nat) := [(0, (.aload_n 0, 1)), (1, (.getfield 28, 3)), (4, (.aload_n 0, 1)), (5, (.getfield 47, 3)), (8, (.getfield 95, 3)), (11, (.invokevirtual 99, 3)), (14, (.aload_n 0, 1)), (15, (.getfield 31, 3)), (18, (.aload_n 0, 1)), (19, (.getfield 47, 3)), (22, (.getfield 95, 3)), (25, (.invokevirtual 99, 3)), (28, (.return_, 1))]
def ce_X8_beginReach : List (Nat × (Nat × Option Nat × WP)) := [(99, (2, some 7, wl_X7_becomeOnly))]
set_option maxRecDepth 100000 in
set_option maxHeartbeats 4000000 in
theorem ct_X8_beginReach (l : Launch) : Con l wX yX8_beginReach cX8_beginReach 1 none 2 wl_X8_beginReach := by
  refine sxm_ok l (ft := lkp ft_RX8) (c32 := lkp c32_RX8) (c64 := lkp c64_RX8) (ce := lkp ce_X8_beginReach) (sf := lkp sf_RX8) (lab := lkp []) (T := tb_X8_beginReach) (by decide +kernel) ft_RX8_ok c32_RX8_ok c64_RX8_ok (fun x q h => (show ∀ q ∈ ce_X8_beginReach, ceOK l wX RX8 2 q.1 q.2.1 q.2.2.1 q.2.2.2 from List.forall_mem_cons.mpr ⟨Or.inr (Or.inr (Or.inr ⟨yX7_becomeOnly, cX7_becomeOnly, 2, none, 1, ct_X7_becomeOnly l, by decide, by decide, mi_X7_becomeOnly.1, mi_X7_becomeOnly.2, ml_RX8_99, mv_X7_becomeOnly.1, mv_X7_becomeOnly.2, ⟨_, _, rfl⟩, by decide, by decide +kernel⟩)), fun _ h => absurd h List.not_mem_nil⟩) (x, q) (lkp_mem h)) sf_RX8_ok (by decide +kernel) 400 (fun As σ Q h => ?_)
  replace h := p1r_e h
  obtain ⟨z0, q0, rfl, h⟩ := h
  replace h := onB_e h
  obtain ⟨e0, h⟩ := h
  have e0 := Nat.eq_of_beq_eq_true e0
  subst e0
  replace h := onB_e h
  obtain ⟨e9, h⟩ := h
  have e9 := List.isEmpty_iff.mp e9
  subst e9
  refine ⟨Nat.le_of_ble_eq_true rfl, fun P hP => ?_⟩
  exact h 
def wp_X8_reachOn  (σ : Sg) (Q : Int32 → Sg → Prop) : Prop :=
  wp_X7_becomeEmpty 24 σ (fun s1 => wp_X8_putAllFrom 22 24 s1 (fun s2 => wp_X7_dropAll 24 20 s2 (fun s3 => wp_X7_becomeLike 22 24 s3 (fun s4 => wp_X7_putAll 20 24 s4 (fun s5 => wp_X7_howMany 22 s5 (fun r6 => ((0 < r6 → (nz (1 : Int32) ∧ Q (1 : Int32) s5)) ∧ (¬ 0 < r6 → (nz (0 : Int32) ∧ Q (0 : Int32) s5)))))))))
def wl_X8_reachOn : WP := fun As σ Q => p1r As (fun z0 r0 => onB (Nat.beq z0 13) (onB r0.isEmpty (wp_X8_reachOn  σ (fun x τ => Q (some (.int x)) τ))))
def tb_X8_reachOn : List (Nat × Instr × Nat) := [(0, (.aload_n 0, 1)), (1, (.getfield 34, 3)), (4, (.invokevirtual 51, 3)), (7, (.aload_n 0, 1)), (8, (.aload_n 0, 1)), (9, (.getfield 31, 3)), (12, (.aload_n 0, 1)), (13, (.getfield 34, 3)), (16, (.invokevirtual 102, 3)), (19, (.aload_n 0, 1)), (20, (.getfield 34, 3)), (23, (.aload_n 0, 1)), (24, (.getfield 28, 3)), (27, (.invokevirtual 106, 3)), (30, (.aload_n 0, 1)), (31, (.getfield 31, 3)), (34, (.aload_n 0, 1)), (35, (.getfield 34, 3)), (38, (.invokevirtual 109, 3)), (41, (.aload_n 0, 1)), (42, (.getfield 28, 3)), (45, (.aload_n 0, 1)), (46, (.getfield 34, 3)), (49, (.invokevirtual 92, 3)), (52, (.aload_n 0, 1)), (53, (.getfield 31, 3)), (56, (.invokevirtual 112, 3)), (59, (.ifCond .le 66, 3)), (62, (.iconst 1, 1)), (63, (.goto 67, 3)), (66, (.iconst 0, 1)), (67, (.ireturn, 1))]
def ce_X8_reachOn : List (Nat × (Nat × Option Nat × WP)) := [(51, (1, some 7, wl_X7_becomeEmpty)), (102, (3, some 8, wl_X8_putAllFrom)), (106, (2, some 7, wl_X7_dropAll)), (109, (2, some 7, wl_X7_becomeLike)), (92, (2, some 7, wl_X7_putAll)), (112, (1, some 7, wl_X7_howMany))]
set_option maxRecDepth 100000 in
set_option maxHeartbeats 4000000 in
theorem ct_X8_reachOn (l : Launch) : Con l wX yX8_reachOn cX8_reachOn 1 (some .boolean) 2 wl_X8_reachOn := by
  refine sxm_ok l (ft := lkp ft_RX8) (c32 := lkp c32_RX8) (c64 := lkp c64_RX8) (ce := lkp ce_X8_reachOn) (sf := lkp sf_RX8) (lab := lkp []) (T := tb_X8_reachOn) (by decide +kernel) ft_RX8_ok c32_RX8_ok c64_RX8_ok (fun x q h => (show ∀ q ∈ ce_X8_reachOn, ceOK l wX RX8 2 q.1 q.2.1 q.2.2.1 q.2.2.2 from List.forall_mem_cons.mpr ⟨Or.inr (Or.inr (Or.inr ⟨yX7_becomeEmpty, cX7_becomeEmpty, 1, none, 1, ct_X7_becomeEmpty l, by decide, by decide, mi_X7_becomeEmpty.1, mi_X7_becomeEmpty.2, ml_RX8_51, mv_X7_becomeEmpty.1, mv_X7_becomeEmpty.2, ⟨_, _, rfl⟩, by decide, by decide +kernel⟩)), List.forall_mem_cons.mpr ⟨Or.inr (Or.inr (Or.inr ⟨yX8_putAllFrom, cX8_putAllFrom, 4, none, 1, ct_X8_putAllFrom l, by decide, by decide, mi_X8_putAllFrom.1, mi_X8_putAllFrom.2, ml_RX8_102, mv_X8_putAllFrom.1, mv_X8_putAllFrom.2, ⟨_, _, rfl⟩, by decide, by decide +kernel⟩)), List.forall_mem_cons.mpr ⟨Or.inr (Or.inr (Or.inr ⟨yX7_dropAll, cX7_dropAll, 3, none, 0, ct_X7_dropAll l, by decide, by decide, mi_X7_dropAll.1, mi_X7_dropAll.2, ml_RX8_106, mv_X7_dropAll.1, mv_X7_dropAll.2, ⟨_, _, rfl⟩, by decide, by decide +kernel⟩)), List.forall_mem_cons.mpr ⟨Or.inr (Or.inr (Or.inr ⟨yX7_becomeLike, cX7_becomeLike, 3, none, 0, ct_X7_becomeLike l, by decide, by decide, mi_X7_becomeLike.1, mi_X7_becomeLike.2, ml_RX8_109, mv_X7_becomeLike.1, mv_X7_becomeLike.2, ⟨_, _, rfl⟩, by decide, by decide +kernel⟩)), List.forall_mem_cons.mpr ⟨Or.inr (Or.inr (Or.inr ⟨yX7_putAll, cX7_putAll, 3, none, 0, ct_X7_putAll l, by decide, by decide, mi_X7_putAll.1, mi_X7_putAll.2, ml_RX8_92, mv_X7_putAll.1, mv_X7_putAll.2, ⟨_, _, rfl⟩, by decide, by decide +kernel⟩)), List.forall_mem_cons.mpr ⟨Or.inr (Or.inr (Or.inr ⟨yX7_howMany, cX7_howMany, 3, (some .int), 1, ct_X7_howMany l, by decide, by decide, mi_X7_howMany.1, mi_X7_howMany.2, ml_RX8_112, mv_X7_howMany.1, mv_X7_howMany.2, ⟨_, _, rfl⟩, by decide, by decide +kernel⟩)), fun _ h => absurd h List.not_mem_nil⟩⟩⟩⟩⟩⟩) (x, q) (lkp_mem h)) sf_RX8_ok (by decide +kernel) 400 (fun As σ Q h => ?_)
  replace h := p1r_e h
  obtain ⟨z0, q0, rfl, h⟩ := h
  replace h := onB_e h
  obtain ⟨e0, h⟩ := h
  have e0 := Nat.eq_of_beq_eq_true e0
  subst e0
  replace h := onB_e h
  obtain ⟨e9, h⟩ := h
  have e9 := List.isEmpty_iff.mp e9
  subst e9
  refine ⟨Nat.le_of_ble_eq_true rfl, fun P hP => ?_⟩
  exact h 
def wp_X8_findCircle (x1 : Int32) (σ : Sg) (Q : Sg → Prop) : Prop :=
  ∀ L9 : Int32 → Sg → Prop,
  (∀ (x2 : Int32) (τ : Sg), wp_X3_states τ (fun r1 => ((x2 < r1 → wp_X8_leadsFrom x1 τ (fun r2 => onB (isK wX r2 7) (wp_X7_has r2 x2 τ (fun r3 => ((r3 = 0 → L9 (x2 + (1 : Int32)) τ) ∧ (¬ r3 = 0 → wp_X8_leadsFrom x2 τ (fun r4 => onB (isK wX r4 7) (wp_X7_has r4 x1 τ (fun r5 => ((r5 = 0 → L9 (x2 + (1 : Int32)) τ) ∧ (¬ r5 = 0 → wp_X7_put 26 x2 τ (fun s6 => L9 (x2 + (1 : Int32)) s6)))))))))))) ∧ (¬ x2 < r1 → Q τ))) → L9 x2 τ) →
  wp_X7_becomeEmpty 26 σ (fun s7 => L9 (0 : Int32) s7)
def wl_X8_findCircle : WP := fun As σ Q => p1r As (fun z0 r0 => onB (Nat.beq z0 13) (p1i r0 (fun x1 r1 => onB r1.isEmpty (wp_X8_findCircle x1 σ (fun τ => Q none τ)))))
def tb_X8_findCircle : List (Nat × Instr × Nat) := [(0, (.aload_n 0, 1)), (1, (.getfield 37, 3)), (4, (.invokevirtual 51, 3)), (7, (.iconst 0, 1)), (8, (.istore_n 2, 1)), (9, (.iload_n 2, 1)), (10, (.aload_n 0, 1)), (11, (.getfield 47, 3)), (14, (.invokevirtual 54, 3)), (17, (.if_icmp .ge 58, 3)), (20, (.aload_n 0, 1)), (21, (.iload_n 1, 1)), (22, (.invokevirtual 131, 3)), (25, (.iload_n 2, 1)), (26, (.invokevirtual 88, 3)), (29, (.ifCond .eq 52, 3)), (32, (.aload_n 0, 1)), (33, (.iload_n 2, 1)), (34, (.invokevirtual 131, 3)), (37, (.iload_n 1, 1)), (38, (.invokevirtual 88, 3)), (41, (.ifCond .eq 52, 3)), (44, (.aload_n 0, 1)), (45, (.getfield 37, 3)), (48, (.iload_n 2, 1)), (49, (.invokevirtual 67, 3)), (52, (.iinc 2 1, 3)), (55, (.goto 9, 3)), (58, (.return_, 1))]
def ce_X8_findCircle : List (Nat × (Nat × Option Nat × WP)) := [(51, (1, some 7, wl_X7_becomeEmpty)), (54, (1, some 3, wl_X3_states)), (131, (2, some 8, wl_X8_leadsFrom)), (88, (2, some 7, wl_X7_has)), (67, (2, some 7, wl_X7_put))]
set_option maxRecDepth 100000 in
set_option maxHeartbeats 4000000 in
theorem ct_X8_findCircle (l : Launch) : Con l wX yX8_findCircle cX8_findCircle 3 none 2 wl_X8_findCircle := by
  refine sxm_ok l (ft := lkp ft_RX8) (c32 := lkp c32_RX8) (c64 := lkp c64_RX8) (ce := lkp ce_X8_findCircle) (sf := lkp sf_RX8) (lab := lkp [(9, [0, 1, 2])]) (T := tb_X8_findCircle) (by decide +kernel) ft_RX8_ok c32_RX8_ok c64_RX8_ok (fun x q h => (show ∀ q ∈ ce_X8_findCircle, ceOK l wX RX8 2 q.1 q.2.1 q.2.2.1 q.2.2.2 from List.forall_mem_cons.mpr ⟨Or.inr (Or.inr (Or.inr ⟨yX7_becomeEmpty, cX7_becomeEmpty, 1, none, 1, ct_X7_becomeEmpty l, by decide, by decide, mi_X7_becomeEmpty.1, mi_X7_becomeEmpty.2, ml_RX8_51, mv_X7_becomeEmpty.1, mv_X7_becomeEmpty.2, ⟨_, _, rfl⟩, by decide, by decide +kernel⟩)), List.forall_mem_cons.mpr ⟨Or.inr (Or.inr (Or.inr ⟨yX3_states, cX3_states, 1, (some .int), 0, ct_X3_states l, by decide, by decide, mi_X3_states.1, mi_X3_states.2, ml_RX8_54, mv_X3_states.1, mv_X3_states.2, ⟨_, _, rfl⟩, by decide, by decide +kernel⟩)), List.forall_mem_cons.mpr ⟨Or.inr (Or.inr (Or.inr ⟨yX8_leadsFrom, cX8_leadsFrom, 2, (some (.object "FrameProver$StateSet")), 0, ct_X8_leadsFrom l, by decide, by decide, mi_X8_leadsFrom.1, mi_X8_leadsFrom.2, ml_RX8_131, mv_X8_leadsFrom.1, mv_X8_leadsFrom.2, ⟨_, _, rfl⟩, by decide, by decide +kernel⟩)), List.forall_mem_cons.mpr ⟨Or.inr (Or.inr (Or.inr ⟨yX7_has, cX7_has, 2, (some .boolean), 0, ct_X7_has l, by decide, by decide, mi_X7_has.1, mi_X7_has.2, ml_RX8_88, mv_X7_has.1, mv_X7_has.2, ⟨_, _, rfl⟩, by decide, by decide +kernel⟩)), List.forall_mem_cons.mpr ⟨Or.inr (Or.inr (Or.inr ⟨yX7_put, cX7_put, 2, none, 0, ct_X7_put l, by decide, by decide, mi_X7_put.1, mi_X7_put.2, ml_RX8_67, mv_X7_put.1, mv_X7_put.2, ⟨_, _, rfl⟩, by decide, by decide +kernel⟩)), fun _ h => absurd h List.not_mem_nil⟩⟩⟩⟩⟩) (x, q) (lkp_mem h)) sf_RX8_ok (by decide +kernel) 400 (fun As σ Q h => ?_)
  replace h := p1r_e h
  obtain ⟨z0, q0, rfl, h⟩ := h
  replace h := onB_e h
  obtain ⟨e0, h⟩ := h
  have e0 := Nat.eq_of_beq_eq_true e0
  subst e0
  replace h := p1i_e h
  obtain ⟨x1, q1, rfl, h⟩ := h
  replace h := onB_e h
  obtain ⟨e9, h⟩ := h
  have e9 := List.isEmpty_iff.mp e9
  subst e9
  refine ⟨Nat.le_of_ble_eq_true rfl, fun P hP => ?_⟩
  exact h (fun x2 τ => P 9 [.ref 13, .int x1, .int x2] τ) (fun x2 τ hb => hP 9 [.ref 13, .int x1, .int x2] τ hb)
def wp_X9_part (x1 : Int32) (x2 : Int32) (σ : Sg) (Q : Int32 → Sg → Prop) : Prop :=
  wp_X3_hasPart x1 σ (fun r1 => ((r1 = 0 → wp_X9_refuse (-3 : Int32) σ (fun r2 s3 => Q r2 s3)) ∧ (¬ r1 = 0 → ((x2 = (0 : Int32) → wp_X3_kindOf x1 σ (fun r8 => Q r8 σ)) ∧ (¬ x2 = (0 : Int32) → ((x2 = (1 : Int32) → wp_X3_firstSign x1 σ (fun r7 => Q r7 σ)) ∧ (¬ x2 = (1 : Int32) → ((x2 = (2 : Int32) → wp_X3_secondSign x1 σ (fun r6 => Q r6 σ)) ∧ (¬ x2 = (2 : Int32) → wp_X9_refuse (-7 : Int32) σ (fun r4 s5 => Q r4 s5))))))))))
def wl_X9_part : WP := fun As σ Q => p1r As (fun z0 r0 => onB (Nat.beq z0 0) (p1i r0 (fun x1 r1 => p1i r1 (fun x2 r2 => onB r2.isEmpty (wp_X9_part x1 x2 σ (fun x τ => Q (some (.int x)) τ))))))
def tb_X9_part : List (Nat × Instr × Nat) := [(0, (.aload_n 0, 1)), (1, (.getfield 10, 3)), (4, (.iload_n 1, 1)), (5, (.invokevirtual 106, 3)), (8, (.ifCond .ne 18, 3)), (11, (.aload_n 0, 1)), (12, (.bipush (-3), 2)), (14, (.invokevirtual 83, 3)), (17, (.ireturn, 1)), (18, (.iload_n 2, 1)), (19, (.tableswitch 52 0 2 #[25, 34, 43], 25)), (44, (.aload_n 0, 1)), (45, (.getfield 10, 3)), (48, (.iload_n 1, 1)), (49, (.invokevirtual 109, 3)), (52, (.ireturn, 1)), (53, (.aload_n 0, 1)), (54, (.getfield 10, 3)), (57, (.iload_n 1, 1)), (58, (.invokevirtual 130, 3)), (61, (.ireturn, 1)), (62, (.aload_n 0, 1)), (63, (.getfield 10, 3)), (66, (.iload_n 1, 1)), (67, (.invokevirtual 133, 3)), (70, (.ireturn, 1)), (71, (.aload_n 0, 1)), (72, (.bipush (-7), 2)), (74, (.invokevirtual 83, 3)), (77, (.ireturn, 1))]
def ce_X9_part : List (Nat × (Nat × Option Nat × WP)) := [(106, (2, some 3, wl_X3_hasPart)), (83, (2, some 9, wl_X9_refuse)), (109, (2, some 3, wl_X3_kindOf)), (130, (2, some 3, wl_X3_firstSign)), (133, (2, some 3, wl_X3_secondSign))]
set_option maxRecDepth 100000 in
set_option maxHeartbeats 4000000 in
theorem ct_X9_part (l : Launch) : Con l wX yX9_part cX9_part 3 (some .int) 2 wl_X9_part := by
  refine sxm_ok l (ft := lkp ft_RX9) (c32 := lkp c32_RX9) (c64 := lkp c64_RX9) (ce := lkp ce_X9_part) (sf := lkp sf_RX9) (lab := lkp []) (T := tb_X9_part) (by decide +kernel) ft_RX9_ok c32_RX9_ok c64_RX9_ok (fun x q h => (show ∀ q ∈ ce_X9_part, ceOK l wX RX9 2 q.1 q.2.1 q.2.2.1 q.2.2.2 from List.forall_mem_cons.mpr ⟨Or.inr (Or.inr (Or.inr ⟨yX3_hasPart, cX3_hasPart, 2, (some .boolean), 0, ct_X3_hasPart l, by decide, by decide, mi_X3_hasPart.1, mi_X3_hasPart.2, ml_RX9_106, mv_X3_hasPart.1, mv_X3_hasPart.2, ⟨_, _, rfl⟩, by decide, by decide +kernel⟩)), List.forall_mem_cons.mpr ⟨Or.inr (Or.inr (Or.inr ⟨yX9_refuse, cX9_refuse, 2, (some .int), 0, ct_X9_refuse l, by decide, by decide, mi_X9_refuse.1, mi_X9_refuse.2, ml_RX9_83, mv_X9_refuse.1, mv_X9_refuse.2, ⟨_, _, rfl⟩, by decide, by decide +kernel⟩)), List.forall_mem_cons.mpr ⟨Or.inr (Or.inr (Or.inr ⟨yX3_kindOf, cX3_kindOf, 2, (some .int), 1, ct_X3_kindOf l, by decide, by decide, mi_X3_kindOf.1, mi_X3_kindOf.2, ml_RX9_109, mv_X3_kindOf.1, mv_X3_kindOf.2, ⟨_, _, rfl⟩, by decide, by decide +kernel⟩)), List.forall_mem_cons.mpr ⟨Or.inr (Or.inr (Or.inr ⟨yX3_firstSign, cX3_firstSign, 2, (some .int), 1, ct_X3_firstSign l, by decide, by decide, mi_X3_firstSign.1, mi_X3_firstSign.2, ml_RX9_130, mv_X3_firstSign.1, mv_X3_firstSign.2, ⟨_, _, rfl⟩, by decide, by decide +kernel⟩)), List.forall_mem_cons.mpr ⟨Or.inr (Or.inr (Or.inr ⟨yX3_secondSign, cX3_secondSign, 2, (some .int), 1, ct_X3_secondSign l, by decide, by decide, mi_X3_secondSign.1, mi_X3_secondSign.2, ml_RX9_133, mv_X3_secondSign.1, mv_X3_secondSign.2, ⟨_, _, rfl⟩, by decide, by decide +kernel⟩)), fun _ h => absurd h List.not_mem_nil⟩⟩⟩⟩⟩) (x, q) (lkp_mem h)) sf_RX9_ok (by decide +kernel) 400 (fun As σ Q h => ?_)
  replace h := p1r_e h
  obtain ⟨z0, q0, rfl, h⟩ := h
  replace h := onB_e h
  obtain ⟨e0, h⟩ := h
  have e0 := Nat.eq_of_beq_eq_true e0
  subst e0
  replace h := p1i_e h
  obtain ⟨x1, q1, rfl, h⟩ := h
  replace h := p1i_e h
  obtain ⟨x2, q2, rfl, h⟩ := h
  replace h := onB_e h
  obtain ⟨e9, h⟩ := h
  have e9 := List.isEmpty_iff.mp e9
  subst e9
  refine ⟨Nat.le_of_ble_eq_true rfl, fun P hP => ?_⟩
  exact h 
def wp_X9_clause (x1 : Int32) (x2 : Int32) (x3 : Int32) (σ : Sg) (Q : Int32 → Sg → Prop) : Prop :=
  wp_X9_isLaterFrame x1 σ (fun r1 => ((r1 = 0 → wp_X9_refuse (-3 : Int32) σ (fun r2 s3 => Q r2 s3)) ∧ (¬ r1 = 0 → wp_X1_frame x1 σ (fun r4 => onB (isK wX r4 0) (wp_X0_hasIndex r4 x2 σ (fun r5 => ((r5 = 0 → wp_X9_refuse (-3 : Int32) σ (fun r6 s7 => Q r6 s7)) ∧ (¬ r5 = 0 → wp_X1_frame x1 σ (fun r8 => onB (isK wX r8 0) (wp_X0_cubeAt r8 x2 σ (fun r9 => wp_X9_halfOf r9 x3 σ (fun r10 => Q r10 σ))))))))))))
def wl_X9_clause : WP := fun As σ Q => p1r As (fun z0 r0 => onB (Nat.beq z0 0) (p1i r0 (fun x1 r1 => p1i r1 (fun x2 r2 => p1i r2 (fun x3 r3 => onB r3.isEmpty (wp_X9_clause x1 x2 x3 σ (fun x τ => Q (some (.int x)) τ)))))))
def tb_X9_clause : List (Nat × Instr × Nat) := [(0, (.iload_n 1, 1)), (1, (.invokestatic 187, 3)), (4, (.ifCond .eq 22, 3)), (7, (.aload_n 0, 1)), (8, (.getfield 30, 3)), (11, (.iload_n 1, 1)), (12, (.invokevirtual 190, 3)), (15, (.iload_n 2, 1)), (16, (.invokevirtual 194, 3)), (19, (.ifCond .ne 29, 3)), (22, (.aload_n 0, 1)), (23, (.bipush (-3), 2)), (25, (.invokevirtual 83, 3)), (28, (.ireturn, 1)), (29, (.aload_n 0, 1)), (30, (.getfield 30, 3)), (33, (.iload_n 1, 1)), (34, (.invokevirtual 190, 3)), (37, (.iload_n 2, 1)), (38, (.invokevirtual 197, 3)), (41, (.iload_n 3, 1)), (42, (.invokestatic 200, 3)), (45, (.ireturn, 1))]
def ce_X9_clause : List (Nat × (Nat × Option Nat × WP)) := [(187, (1, none, wl_X9_isLaterFrame)), (190, (2, some 1, wl_X1_frame)), (194, (2, some 0, wl_X0_hasIndex)), (83, (2, some 9, wl_X9_refuse)), (197, (2, some 0, wl_X0_cubeAt)), (200, (2, none, wl_X9_halfOf))]
set_option maxRecDepth 100000 in
set_option maxHeartbeats 4000000 in
theorem ct_X9_clause (l : Launch) : Con l wX yX9_clause cX9_clause 4 (some .int) 2 wl_X9_clause := by
  refine sxm_ok l (ft := lkp ft_RX9) (c32 := lkp c32_RX9) (c64 := lkp c64_RX9) (ce := lkp ce_X9_clause) (sf := lkp sf_RX9) (lab := lkp []) (T := tb_X9_clause) (by decide +kernel) ft_RX9_ok c32_RX9_ok c64_RX9_ok (fun x q h => (show ∀ q ∈ ce_X9_clause, ceOK l wX RX9 2 q.1 q.2.1 q.2.2.1 q.2.2.2 from List.forall_mem_cons.mpr ⟨Or.inr (Or.inr (Or.inr ⟨yX9_isLaterFrame, cX9_isLaterFrame, 1, (some .boolean), 0, ct_X9_isLaterFrame l, by decide, by decide, mi_X9_isLaterFrame.1, mi_X9_isLaterFrame.2, Or.inl ml_RX9_187, ms_X9_isLaterFrame, by decide +kernel⟩)), List.forall_mem_cons.mpr ⟨Or.inr (Or.inr (Or.inr ⟨yX1_frame, cX1_frame, 2, (some (.object "FrameProver$Clauses")), 0, ct_X1_frame l, by decide, by decide, mi_X1_frame.1, mi_X1_frame.2, ml_RX9_190, mv_X1_frame.1, mv_X1_frame.2, ⟨_, _, rfl⟩, by decide, by decide +kernel⟩)), List.forall_mem_cons.mpr ⟨Or.inr (Or.inr (Or.inr ⟨yX0_hasIndex, cX0_hasIndex, 2, (some .boolean), 0, ct_X0_hasIndex l, by decide, by decide, mi_X0_hasIndex.1, mi_X0_hasIndex.2, ml_RX9_194, mv_X0_hasIndex.1, mv_X0_hasIndex.2, ⟨_, _, rfl⟩, by decide, by decide +kernel⟩)), List.forall_mem_cons.mpr ⟨Or.inr (Or.inr (Or.inr ⟨yX9_refuse, cX9_refuse, 2, (some .int), 0, ct_X9_refuse l, by decide, by decide, mi_X9_refuse.1, mi_X9_refuse.2, ml_RX9_83, mv_X9_refuse.1, mv_X9_refuse.2, ⟨_, _, rfl⟩, by decide, by decide +kernel⟩)), List.forall_mem_cons.mpr ⟨Or.inr (Or.inr (Or.inr ⟨yX0_cubeAt, cX0_cubeAt, 2, (some .int), 1, ct_X0_cubeAt l, by decide, by decide, mi_X0_cubeAt.1, mi_X0_cubeAt.2, ml_RX9_197, mv_X0_cubeAt.1, mv_X0_cubeAt.2, ⟨_, _, rfl⟩, by decide, by decide +kernel⟩)), List.forall_mem_cons.mpr ⟨Or.inr (Or.inr (Or.inr ⟨yX9_halfOf, cX9_halfOf, 2, (some .int), 1, ct_X9_halfOf l, by decide, by decide, mi_X9_halfOf.1, mi_X9_halfOf.2, Or.inl ml_RX9_200, ms_X9_halfOf, by decide +kernel⟩)), fun _ h => absurd h List.not_mem_nil⟩⟩⟩⟩⟩⟩) (x, q) (lkp_mem h)) sf_RX9_ok (by decide +kernel) 400 (fun As σ Q h => ?_)
  replace h := p1r_e h
  obtain ⟨z0, q0, rfl, h⟩ := h
  replace h := onB_e h
  obtain ⟨e0, h⟩ := h
  have e0 := Nat.eq_of_beq_eq_true e0
  subst e0
  replace h := p1i_e h
  obtain ⟨x1, q1, rfl, h⟩ := h
  replace h := p1i_e h
  obtain ⟨x2, q2, rfl, h⟩ := h
  replace h := p1i_e h
  obtain ⟨x3, q3, rfl, h⟩ := h
  replace h := onB_e h
  obtain ⟨e9, h⟩ := h
  have e9 := List.isEmpty_iff.mp e9
  subst e9
  refine ⟨Nat.le_of_ble_eq_true rfl, fun P hP => ?_⟩
  exact h 
def wp_X9_way  (σ : Sg) (Q : Int32 → Sg → Prop) : Prop :=
  wp_X4_hasWay σ (fun r1 => ((r1 = 0 → wp_X9_refuse (-2 : Int32) σ (fun r2 s3 => Q r2 s3)) ∧ (¬ r1 = 0 → wp_X4_waySteps σ (fun r4 => Q r4 σ))))
def wl_X9_way : WP := fun As σ Q => p1r As (fun z0 r0 => onB (Nat.beq z0 0) (onB r0.isEmpty (wp_X9_way  σ (fun x τ => Q (some (.int x)) τ))))
def tb_X9_way : List (Nat × Instr × Nat) := [(0, (.aload_n 0, 1)), (1, (.getfield 39, 3)), (4, (.invokevirtual 210, 3)), (7, (.ifCond .ne 17, 3)), (10, (.aload_n 0, 1)), (11, (.bipush (-2), 2)), (13, (.invokevirtual 83, 3)), (16, (.ireturn, 1)), (17, (.aload_n 0, 1)), (18, (.getfield 39, 3)), (21, (.invokevirtual 213, 3)), (24, (.ireturn, 1))]
def ce_X9_way : List (Nat × (Nat × Option Nat × WP)) := [(210, (1, some 4, wl_X4_hasWay)), (83, (2, some 9, wl_X9_refuse)), (213, (1, some 4, wl_X4_waySteps))]
set_option maxRecDepth 100000 in
set_option maxHeartbeats 4000000 in
theorem ct_X9_way (l : Launch) : Con l wX yX9_way cX9_way 1 (some .int) 2 wl_X9_way := by
  refine sxm_ok l (ft := lkp ft_RX9) (c32 := lkp c32_RX9) (c64 := lkp c64_RX9) (ce := lkp ce_X9_way) (sf := lkp sf_RX9) (lab := lkp []) (T := tb_X9_way) (by decide +kernel) ft_RX9_ok c32_RX9_ok c64_RX9_ok (fun x q h => (show ∀ q ∈ ce_X9_way, ceOK l wX RX9 2 q.1 q.2.1 q.2.2.1 q.2.2.2 from List.forall_mem_cons.mpr ⟨Or.inr (Or.inr (Or.inr ⟨yX4_hasWay, cX4_hasWay, 1, (some .boolean), 0, ct_X4_hasWay l, by decide, by decide, mi_X4_hasWay.1, mi_X4_hasWay.2, ml_RX9_210, mv_X4_hasWay.1, mv_X4_hasWay.2, ⟨_, _, rfl⟩, by decide, by decide +kernel⟩)), List.forall_mem_cons.mpr ⟨Or.inr (Or.inr (Or.inr ⟨yX9_refuse, cX9_refuse, 2, (some .int), 0, ct_X9_refuse l, by decide, by decide, mi_X9_refuse.1, mi_X9_refuse.2, ml_RX9_83, mv_X9_refuse.1, mv_X9_refuse.2, ⟨_, _, rfl⟩, by decide, by decide +kernel⟩)), List.forall_mem_cons.mpr ⟨Or.inr (Or.inr (Or.inr ⟨yX4_waySteps, cX4_waySteps, 1, (some .int), 1, ct_X4_waySteps l, by decide, by decide, mi_X4_waySteps.1, mi_X4_waySteps.2, ml_RX9_213, mv_X4_waySteps.1, mv_X4_waySteps.2, ⟨_, _, rfl⟩, by decide, by decide +kernel⟩)), fun _ h => absurd h List.not_mem_nil⟩⟩⟩) (x, q) (lkp_mem h)) sf_RX9_ok (by decide +kernel) 400 (fun As σ Q h => ?_)
  replace h := p1r_e h
  obtain ⟨z0, q0, rfl, h⟩ := h
  replace h := onB_e h
  obtain ⟨e0, h⟩ := h
  have e0 := Nat.eq_of_beq_eq_true e0
  subst e0
  replace h := onB_e h
  obtain ⟨e9, h⟩ := h
  have e9 := List.isEmpty_iff.mp e9
  subst e9
  refine ⟨Nat.le_of_ble_eq_true rfl, fun P hP => ?_⟩
  exact h 
def wp_X9_wayState (x1 : Int32) (σ : Sg) (Q : Int32 → Sg → Prop) : Prop :=
  wp_X4_hasWay σ (fun r1 => ((r1 = 0 → wp_X9_refuse (-2 : Int32) σ (fun r2 s3 => Q r2 s3)) ∧ (¬ r1 = 0 → ((x1 < 0 → wp_X9_refuse (-3 : Int32) σ (fun r4 s5 => Q r4 s5)) ∧ (¬ x1 < 0 → wp_X4_waySteps σ (fun r6 => ((r6 < x1 → wp_X9_refuse (-3 : Int32) σ (fun r7 s8 => Q r7 s8)) ∧ (¬ r6 < x1 → wp_X4_stateOfWay x1 σ (fun r9 => Q r9 σ)))))))))
def wl_X9_wayState : WP := fun As σ Q => p1r As (fun z0 r0 => onB (Nat.beq z0 0) (p1i r0 (fun x1 r1 => onB r1.isEmpty (wp_X9_wayState x1 σ (fun x τ => Q (some (.int x)) τ)))))
def tb_X9_wayState : List (Nat × Instr × Nat) := [(0, (.aload_n 0, 1)), (1, (.getfield 39, 3)), (4, (.invokevirtual 210, 3)), (7, (.ifCond .ne 17, 3)), (10, (.aload_n 0, 1)), (11, (.bipush (-2), 2)), (13, (.invokevirtual 83, 3)), (16, (.ireturn, 1)), (17, (.iload_n 1, 1)), (18, (.ifCond .lt 32, 3)), (21, (.iload_n 1, 1)), (22, (.aload_n 0, 1)), (23, (.getfield 39, 3)), (26, (.invokevirtual 213, 3)), (29, (.if_icmp .le 39, 3)), (32, (.aload_n 0, 1)), (33, (.bipush (-3), 2)), (35, (.invokevirtual 83, 3)), (38, (.ireturn, 1)), (39, (.aload_n 0, 1)), (40, (.getfield 39, 3)), (43, (.iload_n 1, 1)), (44, (.invokevirtual 216, 3)), (47, (.ireturn, 1))]
def ce_X9_wayState : List (Nat × (Nat × Option Nat × WP)) := [(210, (1, some 4, wl_X4_hasWay)), (83, (2, some 9, wl_X9_refuse)), (213, (1, some 4, wl_X4_waySteps)), (216, (2, some 4, wl_X4_stateOfWay))]
set_option maxRecDepth 100000 in
set_option maxHeartbeats 4000000 in
theorem ct_X9_wayState (l : Launch) : Con l wX yX9_wayState cX9_wayState 2 (some .int) 2 wl_X9_wayState := by
  refine sxm_ok l (ft := lkp ft_RX9) (c32 := lkp c32_RX9) (c64 := lkp c64_RX9) (ce := lkp ce_X9_wayState) (sf := lkp sf_RX9) (lab := lkp []) (T := tb_X9_wayState) (by decide +kernel) ft_RX9_ok c32_RX9_ok c64_RX9_ok (fun x q h => (show ∀ q ∈ ce_X9_wayState, ceOK l wX RX9 2 q.1 q.2.1 q.2.2.1 q.2.2.2 from List.forall_mem_cons.mpr ⟨Or.inr (Or.inr (Or.inr ⟨yX4_hasWay, cX4_hasWay, 1, (some .boolean), 0, ct_X4_hasWay l, by decide, by decide, mi_X4_hasWay.1, mi_X4_hasWay.2, ml_RX9_210, mv_X4_hasWay.1, mv_X4_hasWay.2, ⟨_, _, rfl⟩, by decide, by decide +kernel⟩)), List.forall_mem_cons.mpr ⟨Or.inr (Or.inr (Or.inr ⟨yX9_refuse, cX9_refuse, 2, (some .int), 0, ct_X9_refuse l, by decide, by decide, mi_X9_refuse.1, mi_X9_refuse.2, ml_RX9_83, mv_X9_refuse.1, mv_X9_refuse.2, ⟨_, _, rfl⟩, by decide, by decide +kernel⟩)), List.forall_mem_cons.mpr ⟨Or.inr (Or.inr (Or.inr ⟨yX4_waySteps, cX4_waySteps, 1, (some .int), 1, ct_X4_waySteps l, by decide, by decide, mi_X4_waySteps.1, mi_X4_waySteps.2, ml_RX9_213, mv_X4_waySteps.1, mv_X4_waySteps.2, ⟨_, _, rfl⟩, by decide, by decide +kernel⟩)), List.forall_mem_cons.mpr ⟨Or.inr (Or.inr (Or.inr ⟨yX4_stateOfWay, cX4_stateOfWay, 2, (some .int), 1, ct_X4_stateOfWay l, by decide, by decide, mi_X4_stateOfWay.1, mi_X4_stateOfWay.2, ml_RX9_216, mv_X4_stateOfWay.1, mv_X4_stateOfWay.2, ⟨_, _, rfl⟩, by decide, by decide +kernel⟩)), fun _ h => absurd h List.not_mem_nil⟩⟩⟩⟩) (x, q) (lkp_mem h)) sf_RX9_ok (by decide +kernel) 400 (fun As σ Q h => ?_)
  replace h := p1r_e h
  obtain ⟨z0, q0, rfl, h⟩ := h
  replace h := onB_e h
  obtain ⟨e0, h⟩ := h
  have e0 := Nat.eq_of_beq_eq_true e0
  subst e0
  replace h := p1i_e h
  obtain ⟨x1, q1, rfl, h⟩ := h
  replace h := onB_e h
  obtain ⟨e9, h⟩ := h
  have e9 := List.isEmpty_iff.mp e9
  subst e9
  refine ⟨Nat.le_of_ble_eq_true rfl, fun P hP => ?_⟩
  exact h 
def wp_X9_clear  (σ : Sg) (Q : Int32 → Sg → Prop) : Prop :=
  wp_X3_states σ (fun r1 => wp_X0_restart 1167 r1 σ (fun s2 => Q (gI σ 1167 2) s2))
def wl_X9_clear : WP := fun As σ Q => p1r As (fun z0 r0 => onB (Nat.beq z0 0) (onB r0.isEmpty (wp_X9_clear  σ (fun x τ => Q (some (.int x)) τ))))
def tb_X9_clear : List (Nat × Instr × Nat) := [(0, (.aload_n 0, 1)), (1, (.getfield 48, 3)), (4, (.getfield 147, 3)), (7, (.istore_n 1, 1)), (8, (.aload_n 0, 1)), (9, (.getfield 48, 3)), (12, (.aload_n 0, 1)), (13, (.getfield 10, 3)), (16, (.invokevirtual 287, 3)), (19, (.invokevirtual 290, 3)), (22, (.iload_n 1, 1)), (23, (.ireturn, 1))]
def ce_X9_clear : List (Nat × (Nat × Option Nat × WP)) := [(287, (1, some 3, wl_X3_states)), (290, (2, some 0, wl_X0_restart))]
set_option maxRecDepth 100000 in
set_option maxHeartbeats 4000000 in
theorem ct_X9_clear (l : Launch) : Con l wX yX9_clear cX9_clear 2 (some .int) 2 wl_X9_clear := by
  refine sxm_ok l (ft := lkp ft_RX9) (c32 := lkp c32_RX9) (c64 := lkp c64_RX9) (ce := lkp ce_X9_clear) (sf := lkp sf_RX9) (lab := lkp []) (T := tb_X9_clear) (by decide +kernel) ft_RX9_ok c32_RX9_ok c64_RX9_ok (fun x q h => (show ∀ q ∈ ce_X9_clear, ceOK l wX RX9 2 q.1 q.2.1 q.2.2.1 q.2.2.2 from List.forall_mem_cons.mpr ⟨Or.inr (Or.inr (Or.inr ⟨yX3_states, cX3_states, 1, (some .int), 0, ct_X3_states l, by decide, by decide, mi_X3_states.1, mi_X3_states.2, ml_RX9_287, mv_X3_states.1, mv_X3_states.2, ⟨_, _, rfl⟩, by decide, by decide +kernel⟩)), List.forall_mem_cons.mpr ⟨Or.inr (Or.inr (Or.inr ⟨yX0_restart, cX0_restart, 2, none, 1, ct_X0_restart l, by decide, by decide, mi_X0_restart.1, mi_X0_restart.2, ml_RX9_290, mv_X0_restart.1, mv_X0_restart.2, ⟨_, _, rfl⟩, by decide, by decide +kernel⟩)), fun _ h => absurd h List.not_mem_nil⟩⟩) (x, q) (lkp_mem h)) sf_RX9_ok (by decide +kernel) 400 (fun As σ Q h => ?_)
  replace h := p1r_e h
  obtain ⟨z0, q0, rfl, h⟩ := h
  replace h := onB_e h
  obtain ⟨e0, h⟩ := h
  have e0 := Nat.eq_of_beq_eq_true e0
  subst e0
  replace h := onB_e h
  obtain ⟨e9, h⟩ := h
  have e9 := List.isEmpty_iff.mp e9
  subst e9
  refine ⟨Nat.le_of_ble_eq_true rfl, fun P hP => ?_⟩
  exact h 
def wp_X9_listed (x1 : Int32) (x2 : Int32) (σ : Sg) (Q : Int32 → Sg → Prop) : Prop :=
  wp_X0_hasIndex 1167 x1 σ (fun r1 => ((r1 = 0 → wp_X9_refuse (-3 : Int32) σ (fun r2 s3 => Q r2 s3)) ∧ (¬ r1 = 0 → wp_X0_cubeAt 1167 x1 σ (fun r4 => wp_X9_halfOf r4 x2 σ (fun r5 => Q r5 σ)))))
def wl_X9_listed : WP := fun As σ Q => p1r As (fun z0 r0 => onB (Nat.beq z0 0) (p1i r0 (fun x1 r1 => p1i r1 (fun x2 r2 => onB r2.isEmpty (wp_X9_listed x1 x2 σ (fun x τ => Q (some (.int x)) τ))))))
def tb_X9_listed : List (Nat × Instr × Nat) := [(0, (.aload_n 0, 1)), (1, (.getfield 48, 3)), (4, (.iload_n 1, 1)), (5, (.invokevirtual 194, 3)), (8, (.ifCond .ne 18, 3)), (11, (.aload_n 0, 1)), (12, (.bipush (-3), 2)), (14, (.invokevirtual 83, 3)), (17, (.ireturn, 1)), (18, (.aload_n 0, 1)), (19, (.getfield 48, 3)), (22, (.iload_n 1, 1)), (23, (.invokevirtual 197, 3)), (26, (.iload_n 2, 1)), (27, (.invokestatic 200, 3)), (30, (.ireturn, 1))]
def ce_X9_listed : List (Nat × (Nat × Option Nat × WP)) := [(194, (2, some 0, wl_X0_hasIndex)), (83, (2, some 9, wl_X9_refuse)), (197, (2, some 0, wl_X0_cubeAt)), (200, (2, none, wl_X9_halfOf))]
set_option maxRecDepth 100000 in
set_option maxHeartbeats 4000000 in
theorem ct_X9_listed (l : Launch) : Con l wX yX9_listed cX9_listed 3 (some .int) 2 wl_X9_listed := by
  refine sxm_ok l (ft := lkp ft_RX9) (c32 := lkp c32_RX9) (c64 := lkp c64_RX9) (ce := lkp ce_X9_listed) (sf := lkp sf_RX9) (lab := lkp []) (T := tb_X9_listed) (by decide +kernel) ft_RX9_ok c32_RX9_ok c64_RX9_ok (fun x q h => (show ∀ q ∈ ce_X9_listed, ceOK l wX RX9 2 q.1 q.2.1 q.2.2.1 q.2.2.2 from List.forall_mem_cons.mpr ⟨Or.inr (Or.inr (Or.inr ⟨yX0_hasIndex, cX0_hasIndex, 2, (some .boolean), 0, ct_X0_hasIndex l, by decide, by decide, mi_X0_hasIndex.1, mi_X0_hasIndex.2, ml_RX9_194, mv_X0_hasIndex.1, mv_X0_hasIndex.2, ⟨_, _, rfl⟩, by decide, by decide +kernel⟩)), List.forall_mem_cons.mpr ⟨Or.inr (Or.inr (Or.inr ⟨yX9_refuse, cX9_refuse, 2, (some .int), 0, ct_X9_refuse l, by decide, by decide, mi_X9_refuse.1, mi_X9_refuse.2, ml_RX9_83, mv_X9_refuse.1, mv_X9_refuse.2, ⟨_, _, rfl⟩, by decide, by decide +kernel⟩)), List.forall_mem_cons.mpr ⟨Or.inr (Or.inr (Or.inr ⟨yX0_cubeAt, cX0_cubeAt, 2, (some .int), 1, ct_X0_cubeAt l, by decide, by decide, mi_X0_cubeAt.1, mi_X0_cubeAt.2, ml_RX9_197, mv_X0_cubeAt.1, mv_X0_cubeAt.2, ⟨_, _, rfl⟩, by decide, by decide +kernel⟩)), List.forall_mem_cons.mpr ⟨Or.inr (Or.inr (Or.inr ⟨yX9_halfOf, cX9_halfOf, 2, (some .int), 1, ct_X9_halfOf l, by decide, by decide, mi_X9_halfOf.1, mi_X9_halfOf.2, Or.inl ml_RX9_200, ms_X9_halfOf, by decide +kernel⟩)), fun _ h => absurd h List.not_mem_nil⟩⟩⟩⟩) (x, q) (lkp_mem h)) sf_RX9_ok (by decide +kernel) 400 (fun As σ Q h => ?_)
  replace h := p1r_e h
  obtain ⟨z0, q0, rfl, h⟩ := h
  replace h := onB_e h
  obtain ⟨e0, h⟩ := h
  have e0 := Nat.eq_of_beq_eq_true e0
  subst e0
  replace h := p1i_e h
  obtain ⟨x1, q1, rfl, h⟩ := h
  replace h := p1i_e h
  obtain ⟨x2, q2, rfl, h⟩ := h
  replace h := onB_e h
  obtain ⟨e9, h⟩ := h
  have e9 := List.isEmpty_iff.mp e9
  subst e9
  refine ⟨Nat.le_of_ble_eq_true rfl, fun P hP => ?_⟩
  exact h 
def wp_X9_isCube (x1 : Int32) (x2 : Int32) (σ : Sg) (Q : Int32 → Prop) : Prop :=
  wp_X3_hasState x1 σ (fun r1 => ((r1 = 0 → (nz (0 : Int32) ∧ Q (0 : Int32))) ∧ (¬ r1 = 0 → (((x2 &&& (x1 ^^^ (-1 : Int32))) = 0 → (nz (1 : Int32) ∧ Q (1 : Int32))) ∧ (¬ (x2 &&& (x1 ^^^ (-1 : Int32))) = 0 → (nz (0 : Int32) ∧ Q (0 : Int32)))))))
def wl_X9_isCube : WP := fun As σ Q => p1r As (fun z0 r0 => onB (Nat.beq z0 0) (p1i r0 (fun x1 r1 => p1i r1 (fun x2 r2 => onB r2.isEmpty (wp_X9_isCube x1 x2 σ (fun x => Q (some (.int x)) σ))))))
def tb_X9_isCube : List (Nat × Instr × Nat) := [(0, (.aload_n 0, 1)), (1, (.getfield 10, 3)), (4, (.iload_n 1, 1)), (5, (.invokevirtual 169, 3)), (8, (.ifCond .eq 23, 3)), (11, (.iload_n 2, 1)), (12, (.iload_n 1, 1)), (13, (.iconst (-1), 1)), (14, (.ixor, 1)), (15, (.iand, 1)), (16, (.ifCond .ne 23, 3)), (19, (.iconst 1, 1)), (20, (.goto 24, 3)), (23, (.iconst 0, 1)), (24, (.ireturn, 1))]
def ce_X9_isCube : List (Nat × (Nat × Option Nat × WP)) := [(169, (2, some 3, wl_X3_hasState))]
set_option maxRecDepth 100000 in
set_option maxHeartbeats 4000000 in
theorem ct_X9_isCube (l : Launch) : Con l wX yX9_isCube cX9_isCube 3 (some .boolean) 2 wl_X9_isCube := by
  refine sxm_ok l (ft := lkp ft_RX9) (c32 := lkp c32_RX9) (c64 := lkp c64_RX9) (ce := lkp ce_X9_isCube) (sf := lkp sf_RX9) (lab := lkp []) (T := tb_X9_isCube) (by decide +kernel) ft_RX9_ok c32_RX9_ok c64_RX9_ok (fun x q h => (show ∀ q ∈ ce_X9_isCube, ceOK l wX RX9 2 q.1 q.2.1 q.2.2.1 q.2.2.2 from List.forall_mem_cons.mpr ⟨Or.inr (Or.inr (Or.inr ⟨yX3_hasState, cX3_hasState, 2, (some .boolean), 1, ct_X3_hasState l, by decide, by decide, mi_X3_hasState.1, mi_X3_hasState.2, ml_RX9_169, mv_X3_hasState.1, mv_X3_hasState.2, ⟨_, _, rfl⟩, by decide, by decide +kernel⟩)), fun _ h => absurd h List.not_mem_nil⟩) (x, q) (lkp_mem h)) sf_RX9_ok (by decide +kernel) 400 (fun As σ Q h => ?_)
  replace h := p1r_e h
  obtain ⟨z0, q0, rfl, h⟩ := h
  replace h := onB_e h
  obtain ⟨e0, h⟩ := h
  have e0 := Nat.eq_of_beq_eq_true e0
  subst e0
  replace h := p1i_e h
  obtain ⟨x1, q1, rfl, h⟩ := h
  replace h := p1i_e h
  obtain ⟨x2, q2, rfl, h⟩ := h
  replace h := onB_e h
  obtain ⟨e9, h⟩ := h
  have e9 := List.isEmpty_iff.mp e9
  subst e9
  refine ⟨Nat.le_of_ble_eq_true rfl, fun P hP => ?_⟩
  exact h 
def wp_X0_becomeLike (o : Nat) (x1 : Nat) (σ : Sg) (Q : Sg → Prop) : Prop :=
  ∀ L10 : Int32 → Sg → Prop,
  (∀ (x2 : Int32) (τ : Sg), onB (isK wX x1 0) (((x2 < (gI τ x1 2) → onB (isK wX x1 0) (wp_X0_cubeAt x1 x2 τ (fun r1 => onB (isK wX o 0) (wp_X0_put o r1 τ (fun r2 s3 => L10 (x2 + (1 : Int32)) s3))))) ∧ (¬ x2 < (gI τ x1 2) → Q τ))) → L10 x2 τ) →
  onB (isK wX o 0) (onB (isK wX o 0) (wp_X0_restart o (gI σ o 3) σ (fun s4 => L10 (0 : Int32) s4)))
def wl_X0_becomeLike : WP := fun As σ Q => p1r As (fun o r0 => p1r r0 (fun x1 r1 => onB r1.isEmpty (wp_X0_becomeLike o x1 σ (fun τ => Q none τ))))
def tb_X0_becomeLike : List (Nat × Instr × Nat) := [(0, (.aload_n 0, 1)), (1, (.aload_n 0, 1)), (2, (.getfield 30, 3)), (5, (.invokevirtual 51, 3)), (8, (.iconst 0, 1)), (9, (.istore_n 2, 1)), (10, (.iload_n 2, 1)), (11, (.aload_n 1, 1)), (12, (.getfield 26, 3)), (15, (.if_icmp .ge 34, 3)), (18, (.aload_n 0, 1)), (19, (.aload_n 1, 1)), (20, (.iload_n 2, 1)), (21, (.invokevirtual 44, 3)), (24, (.invokevirtual 54, 3)), (27, (.pop, 1)), (28, (.iinc 2 1, 3)), (31, (.goto 10, 3)), (34, (.return_, 1))]
def ce_X0_becomeLike : List (Nat × (Nat × Option Nat × WP)) := [(51, (2, some 0, wl_X0_restart)), (44, (2, some 0, wl_X0_cubeAt)), (54, (2, some 0, wl_X0_put))]
set_option maxRecDepth 100000 in
set_option maxHeartbeats 4000000 in
theorem ct_X0_becomeLike (l : Launch) : Con l wX yX0_becomeLike cX0_becomeLike 3 none 3 wl_X0_becomeLike := by
  refine sxm_ok l (ft := lkp ft_RX0) (c32 := lkp c32_RX0) (c64 := lkp c64_RX0) (ce := lkp ce_X0_becomeLike) (sf := lkp sf_RX0) (lab := lkp [(10, [0, 1, 2])]) (T := tb_X0_becomeLike) (by decide +kernel) ft_RX0_ok c32_RX0_ok c64_RX0_ok (fun x q h => (show ∀ q ∈ ce_X0_becomeLike, ceOK l wX RX0 3 q.1 q.2.1 q.2.2.1 q.2.2.2 from List.forall_mem_cons.mpr ⟨Or.inr (Or.inr (Or.inr ⟨yX0_restart, cX0_restart, 2, none, 1, ct_X0_restart l, by decide, by decide, mi_X0_restart.1, mi_X0_restart.2, ml_RX0_51, mv_X0_restart.1, mv_X0_restart.2, ⟨_, _, rfl⟩, by decide, by decide +kernel⟩)), List.forall_mem_cons.mpr ⟨Or.inr (Or.inr (Or.inr ⟨yX0_cubeAt, cX0_cubeAt, 2, (some .int), 1, ct_X0_cubeAt l, by decide, by decide, mi_X0_cubeAt.1, mi_X0_cubeAt.2, ml_RX0_44, mv_X0_cubeAt.1, mv_X0_cubeAt.2, ⟨_, _, rfl⟩, by decide, by decide +kernel⟩)), List.forall_mem_cons.mpr ⟨Or.inr (Or.inr (Or.inr ⟨yX0_put, cX0_put, 2, (some .boolean), 2, ct_X0_put l, by decide, by decide, mi_X0_put.1, mi_X0_put.2, ml_RX0_54, mv_X0_put.1, mv_X0_put.2, ⟨_, _, rfl⟩, by decide, by decide +kernel⟩)), fun _ h => absurd h List.not_mem_nil⟩⟩⟩) (x, q) (lkp_mem h)) sf_RX0_ok (by decide +kernel) 400 (fun As σ Q h => ?_)
  replace h := p1r_e h
  obtain ⟨o, q0, rfl, h⟩ := h
  replace h := p1r_e h
  obtain ⟨x1, q1, rfl, h⟩ := h
  replace h := onB_e h
  obtain ⟨e9, h⟩ := h
  have e9 := List.isEmpty_iff.mp e9
  subst e9
  refine ⟨Nat.le_of_ble_eq_true rfl, fun P hP => ?_⟩
  exact h (fun x2 τ => P 10 [.ref o, .ref x1, .int x2] τ) (fun x2 τ hb => hP 10 [.ref o, .ref x1, .int x2] τ hb)
def wp_X0_change (o : Nat) (x1 : Int32) (x2 : Int32) (σ : Sg) (Q : Sg → Prop) : Prop :=
  onB (isK wX o 0) (wp_X0_hasIndex o x1 σ (fun r1 => ((r1 = 0 → Q σ) ∧ (¬ r1 = 0 → onB (isK wX o 0) (onB (isK wX (wR wX o 0) 20) ((vp_in x1 (wN wX (wR wX o 0)) ∧ onB (isK wX o 0) (wp_X0_findLeft o (sI σ (wR wX o 0) (x1).toNatClampNeg x2) (fun s2 => Q s2)))))))))
def wl_X0_change : WP := fun As σ Q => p1r As (fun o r0 => p1i r0 (fun x1 r1 => p1i r1 (fun x2 r2 => onB r2.isEmpty (wp_X0_change o x1 x2 σ (fun τ => Q none τ)))))
def tb_X0_change : List (Nat × Instr × Nat) := [(0, (.aload_n 0, 1)), (1, (.iload_n 1, 1)), (2, (.invokevirtual 37, 3)), (5, (.ifCond .eq 19, 3)), (8, (.aload_n 0, 1)), (9, (.getfield 22, 3)), (12, (.iload_n 1, 1)), (13, (.iload_n 2, 1)), (14, (.iastore, 1)), (15, (.aload_n 0, 1)), (16, (.invokevirtual 57, 3)), (19, (.return_, 1))]
def ce_X0_change : List (Nat × (Nat × Option Nat × WP)) := [(37, (2, some 0, wl_X0_hasIndex)), (57, (1, some 0, wl_X0_findLeft))]
set_option maxRecDepth 100000 in
set_option maxHeartbeats 4000000 in
theorem ct_X0_change (l : Launch) : Con l wX yX0_change cX0_change 3 none 3 wl_X0_change := by
  refine sxm_ok l (ft := lkp ft_RX0) (c32 := lkp c32_RX0) (c64 := lkp c64_RX0) (ce := lkp ce_X0_change) (sf := lkp sf_RX0) (lab := lkp []) (T := tb_X0_change) (by decide +kernel) ft_RX0_ok c32_RX0_ok c64_RX0_ok (fun x q h => (show ∀ q ∈ ce_X0_change, ceOK l wX RX0 3 q.1 q.2.1 q.2.2.1 q.2.2.2 from List.forall_mem_cons.mpr ⟨Or.inr (Or.inr (Or.inr ⟨yX0_hasIndex, cX0_hasIndex, 2, (some .boolean), 0, ct_X0_hasIndex l, by decide, by decide, mi_X0_hasIndex.1, mi_X0_hasIndex.2, ml_RX0_37, mv_X0_hasIndex.1, mv_X0_hasIndex.2, ⟨_, _, rfl⟩, by decide, by decide +kernel⟩)), List.forall_mem_cons.mpr ⟨Or.inr (Or.inr (Or.inr ⟨yX0_findLeft, cX0_findLeft, 2, none, 2, ct_X0_findLeft l, by decide, by decide, mi_X0_findLeft.1, mi_X0_findLeft.2, ml_RX0_57, mv_X0_findLeft.1, mv_X0_findLeft.2, ⟨_, _, rfl⟩, by decide, by decide +kernel⟩)), fun _ h => absurd h List.not_mem_nil⟩⟩) (x, q) (lkp_mem h)) sf_RX0_ok (by decide +kernel) 400 (fun As σ Q h => ?_)
  replace h := p1r_e h
  obtain ⟨o, q0, rfl, h⟩ := h
  replace h := p1i_e h
  obtain ⟨x1, q1, rfl, h⟩ := h
  replace h := p1i_e h
  obtain ⟨x2, q2, rfl, h⟩ := h
  replace h := onB_e h
  obtain ⟨e9, h⟩ := h
  have e9 := List.isEmpty_iff.mp e9
  subst e9
  refine ⟨Nat.le_of_ble_eq_true rfl, fun P hP => ?_⟩
  exact h 
def wp_X0_takeOut (o : Nat) (x1 : Int32) (σ : Sg) (Q : Sg → Prop) : Prop :=
  ∀ L11 : Int32 → Sg → Prop,
  (∀ (x2 : Int32) (τ : Sg), onB (isK wX o 0) ((((x2 + (1 : Int32)) < (gI τ o 2) → onB (isK wX o 0) (onB (isA wX (wR wX o 0)) ((((x2 + (1 : Int32)) < (nI (wN wX (wR wX o 0))) → onB (isK wX o 0) (onB (isK wX o 0) (onB (isK wX (wR wX o 0) 20) ((vp_in (x2 + (1 : Int32)) (wN wX (wR wX o 0)) ∧ onB (isK wX (wR wX o 0) 20) ((vp_in x2 (wN wX (wR wX o 0)) ∧ L11 (x2 + (1 : Int32)) (sI τ (wR wX o 0) (x2).toNatClampNeg (gI τ (wR wX o 0) ((x2 + (1 : Int32))).toNatClampNeg))))))))) ∧ (¬ (x2 + (1 : Int32)) < (nI (wN wX (wR wX o 0))) → onB (isK wX o 0) (onB (isK wX o 0) (onB (isK wX o 0) (wp_X0_findLeft o (sI τ o 2 ((gI τ o 2) - (1 : Int32))) (fun s1 => Q s1))))))))) ∧ (¬ (x2 + (1 : Int32)) < (gI τ o 2) → onB (isK wX o 0) (onB (isK wX o 0) (onB (isK wX o 0) (wp_X0_findLeft o (sI τ o 2 ((gI τ o 2) - (1 : Int32))) (fun s2 => Q s2))))))) → L11 x2 τ) →
  onB (isK wX o 0) (wp_X0_hasIndex o x1 σ (fun r3 => ((r3 = 0 → Q σ) ∧ (¬ r3 = 0 → L11 x1 σ))))
def wl_X0_takeOut : WP := fun As σ Q => p1r As (fun o r0 => p1i r0 (fun x1 r1 => onB r1.isEmpty (wp_X0_takeOut o x1 σ (fun τ => Q none τ))))
def tb_X0_takeOut : List (Nat × Instr × Nat) := [(0, (.aload_n 0, 1)), (1, (.iload_n 1, 1)), (2, (.invokevirtual 37, 3)), (5, (.ifCond .ne 9, 3)), (8, (.return_, 1)), (9, (.iload_n 1, 1)), (10, (.istore_n 2, 1)), (11, (.iload_n 2, 1)), (12, (.iconst 1, 1)), (13, (.iadd, 1)), (14, (.aload_n 0, 1)), (15, (.getfield 26, 3)), (18, (.if_icmp .ge 52, 3)), (21, (.iload_n 2, 1)), (22, (.iconst 1, 1)), (23, (.iadd, 1)), (24, (.aload_n 0, 1)), (25, (.getfield 22, 3)), (28, (.arraylength, 1)), (29, (.if_icmp .ge 52, 3)), (32, (.aload_n 0, 1)), (33, (.getfield 22, 3)), (36, (.iload_n 2, 1)), (37, (.aload_n 0, 1)), (38, (.getfield 22, 3)), (41, (.iload_n 2, 1)), (42, (.iconst 1, 1)), (43, (.iadd, 1)), (44, (.iaload, 1)), (45, (.iastore, 1)), (46, (.iinc 2 1, 3)), (49, (.goto 11, 3)), (52, (.aload_n 0, 1)), (53, (.dup, 1)), (54, (.getfield 26, 3)), (57, (.iconst 1, 1)), (58, (.isub, 1)), (59, (.putfield 26, 3)), (62, (.aload_n 0, 1)), (63, (.invokevirtual 57, 3)), (66, (.return_, 1))]
def ce_X0_takeOut : List (Nat × (Nat × Option Nat × WP)) := [(37, (2, some 0, wl_X0_hasIndex)), (57, (1, some 0, wl_X0_findLeft))]
set_option maxRecDepth 100000 in
set_option maxHeartbeats 4000000 in
theorem ct_X0_takeOut (l : Launch) : Con l wX yX0_takeOut cX0_takeOut 3 none 3 wl_X0_takeOut := by
  refine sxm_ok l (ft := lkp ft_RX0) (c32 := lkp c32_RX0) (c64 := lkp c64_RX0) (ce := lkp ce_X0_takeOut) (sf := lkp sf_RX0) (lab := lkp [(11, [0, 2])]) (T := tb_X0_takeOut) (by decide +kernel) ft_RX0_ok c32_RX0_ok c64_RX0_ok (fun x q h => (show ∀ q ∈ ce_X0_takeOut, ceOK l wX RX0 3 q.1 q.2.1 q.2.2.1 q.2.2.2 from List.forall_mem_cons.mpr ⟨Or.inr (Or.inr (Or.inr ⟨yX0_hasIndex, cX0_hasIndex, 2, (some .boolean), 0, ct_X0_hasIndex l, by decide, by decide, mi_X0_hasIndex.1, mi_X0_hasIndex.2, ml_RX0_37, mv_X0_hasIndex.1, mv_X0_hasIndex.2, ⟨_, _, rfl⟩, by decide, by decide +kernel⟩)), List.forall_mem_cons.mpr ⟨Or.inr (Or.inr (Or.inr ⟨yX0_findLeft, cX0_findLeft, 2, none, 2, ct_X0_findLeft l, by decide, by decide, mi_X0_findLeft.1, mi_X0_findLeft.2, ml_RX0_57, mv_X0_findLeft.1, mv_X0_findLeft.2, ⟨_, _, rfl⟩, by decide, by decide +kernel⟩)), fun _ h => absurd h List.not_mem_nil⟩⟩) (x, q) (lkp_mem h)) sf_RX0_ok (by decide +kernel) 400 (fun As σ Q h => ?_)
  replace h := p1r_e h
  obtain ⟨o, q0, rfl, h⟩ := h
  replace h := p1i_e h
  obtain ⟨x1, q1, rfl, h⟩ := h
  replace h := onB_e h
  obtain ⟨e9, h⟩ := h
  have e9 := List.isEmpty_iff.mp e9
  subst e9
  refine ⟨Nat.le_of_ble_eq_true rfl, fun P hP => ?_⟩
  exact h (fun x2 τ => P 11 [.ref o, .int x2] τ) (fun x2 τ hb => hP 11 [.ref o, .int x2] τ hb)
def wp_X0_putBack (o : Nat) (x1 : Int32) (x2 : Int32) (σ : Sg) (Q : Sg → Prop) : Prop :=
  ∀ L25 : Int32 → Sg → Prop,
  (∀ (x3 : Int32) (τ : Sg), ((x1 < x3 → onB (isK wX o 0) (onB (isK wX o 0) (onB (isK wX (wR wX o 0) 20) ((vp_in (x3 - (1 : Int32)) (wN wX (wR wX o 0)) ∧ onB (isK wX (wR wX o 0) 20) ((vp_in x3 (wN wX (wR wX o 0)) ∧ L25 (x3 + (-1 : Int32)) (sI τ (wR wX o 0) (x3).toNatClampNeg (gI τ (wR wX o 0) ((x3 - (1 : Int32))).toNatClampNeg))))))))) ∧ (¬ x1 < x3 → onB (isK wX o 0) (onB (isK wX (wR wX o 0) 20) ((vp_in x1 (wN wX (wR wX o 0)) ∧ onB (isK wX o 0) (onB (isK wX o 0) (onB (isK wX o 0) (wp_X0_findLeft o (sI (sI τ (wR wX o 0) (x1).toNatClampNeg x2) o 2 ((gI (sI τ (wR wX o 0) (x1).toNatClampNeg x2) o 2) + (1 : Int32))) (fun s1 => Q s1))))))))) → L25 x3 τ) →
  ((x1 < 0 → Q σ) ∧ (¬ x1 < 0 → onB (isK wX o 0) ((((gI σ o 2) < x1 → Q σ) ∧ (¬ (gI σ o 2) < x1 → onB (isK wX o 0) (wp_X0_isFull o σ (fun r2 => ((r2 = 0 → onB (isK wX o 0) (L25 (gI σ o 2) σ)) ∧ (¬ r2 = 0 → Q σ)))))))))
def wl_X0_putBack : WP := fun As σ Q => p1r As (fun o r0 => p1i r0 (fun x1 r1 => p1i r1 (fun x2 r2 => onB r2.isEmpty (wp_X0_putBack o x1 x2 σ (fun τ => Q none τ)))))
def tb_X0_putBack : List (Nat × Instr × Nat) := [(0, (.iload_n 1, 1)), (1, (.ifCond .lt 19, 3)), (4, (.iload_n 1, 1)), (5, (.aload_n 0, 1)), (6, (.getfield 26, 3)), (9, (.if_icmp .gt 19, 3)), (12, (.aload_n 0, 1)), (13, (.invokevirtual 60, 3)), (16, (.ifCond .eq 20, 3)), (19, (.return_, 1)), (20, (.aload_n 0, 1)), (21, (.getfield 26, 3)), (24, (.istore_n 3, 1)), (25, (.iload_n 3, 1)), (26, (.iload_n 1, 1)), (27, (.if_icmp .le 50, 3)), (30, (.aload_n 0, 1)), (31, (.getfield 22, 3)), (34, (.iload_n 3, 1)), (35, (.aload_n 0, 1)), (36, (.getfield 22, 3)), (39, (.iload_n 3, 1)), (40, (.iconst 1, 1)), (41, (.isub, 1)), (42, (.iaload, 1)), (43, (.iastore, 1)), (44, (.iinc 3 (-1), 3)), (47, (.goto 25, 3)), (50, (.aload_n 0, 1)), (51, (.getfield 22, 3)), (54, (.iload_n 1, 1)), (55, (.iload_n 2, 1)), (56, (.iastore, 1)), (57, (.aload_n 0, 1)), (58, (.dup, 1)), (59, (.getfield 26, 3)), (62, (.iconst 1, 1)), (63, (.iadd, 1)), (64, (.putfield 26, 3)), (67, (.aload_n 0, 1)), (68, (.invokevirtual 57, 3)), (71, (.return_, 1))]
def ce_X0_putBack : List (Nat × (Nat × Option Nat × WP)) := [(60, (1, some 0, wl_X0_isFull)), (57, (1, some 0, wl_X0_findLeft))]
set_option maxRecDepth 100000 in
set_option maxHeartbeats 4000000 in
theorem ct_X0_putBack (l : Launch) : Con l wX yX0_putBack cX0_putBack 4 none 3 wl_X0_putBack := by
  refine sxm_ok l (ft := lkp ft_RX0) (c32 := lkp c32_RX0) (c64 := lkp c64_RX0) (ce := lkp ce_X0_putBack) (sf := lkp sf_RX0) (lab := lkp [(25, [0, 1, 2, 3])]) (T := tb_X0_putBack) (by decide +kernel) ft_RX0_ok c32_RX0_ok c64_RX0_ok (fun x q h => (show ∀ q ∈ ce_X0_putBack, ceOK l wX RX0 3 q.1 q.2.1 q.2.2.1 q.2.2.2 from List.forall_mem_cons.mpr ⟨Or.inr (Or.inr (Or.inr ⟨yX0_isFull, cX0_isFull, 1, (some .boolean), 0, ct_X0_isFull l, by decide, by decide, mi_X0_isFull.1, mi_X0_isFull.2, ml_RX0_60, mv_X0_isFull.1, mv_X0_isFull.2, ⟨_, _, rfl⟩, by decide, by decide +kernel⟩)), List.forall_mem_cons.mpr ⟨Or.inr (Or.inr (Or.inr ⟨yX0_findLeft, cX0_findLeft, 2, none, 2, ct_X0_findLeft l, by decide, by decide, mi_X0_findLeft.1, mi_X0_findLeft.2, ml_RX0_57, mv_X0_findLeft.1, mv_X0_findLeft.2, ⟨_, _, rfl⟩, by decide, by decide +kernel⟩)), fun _ h => absurd h List.not_mem_nil⟩⟩) (x, q) (lkp_mem h)) sf_RX0_ok (by decide +kernel) 400 (fun As σ Q h => ?_)
  replace h := p1r_e h
  obtain ⟨o, q0, rfl, h⟩ := h
  replace h := p1i_e h
  obtain ⟨x1, q1, rfl, h⟩ := h
  replace h := p1i_e h
  obtain ⟨x2, q2, rfl, h⟩ := h
  replace h := onB_e h
  obtain ⟨e9, h⟩ := h
  have e9 := List.isEmpty_iff.mp e9
  subst e9
  refine ⟨Nat.le_of_ble_eq_true rfl, fun P hP => ?_⟩
  exact h (fun x3 τ => P 25 [.ref o, .int x1, .int x2, .int x3] τ) (fun x3 τ hb => hP 25 [.ref o, .int x1, .int x2, .int x3] τ hb)
def wp_X1_canKeepOut (x1 : Int32) (x2 : Int32) (σ : Sg) (Q : Int32 → Sg → Prop) : Prop :=
  wp_X9_isInCube (gI σ 1 13) x2 σ (fun r1 => ((r1 = 0 → wp_X1_leastInto (x1 - (1 : Int32)) x2 σ (fun r2 s3 => ((r2 = (-1 : Int32) → (nz (1 : Int32) ∧ Q (1 : Int32) s3)) ∧ (¬ r2 = (-1 : Int32) → (nz (0 : Int32) ∧ Q (0 : Int32) s3))))) ∧ (¬ r1 = 0 → (nz (0 : Int32) ∧ Q (0 : Int32) σ))))
def wl_X1_canKeepOut : WP := fun As σ Q => p1r As (fun z0 r0 => onB (Nat.beq z0 1054) (p1i r0 (fun x1 r1 => p1i r1 (fun x2 r2 => onB r2.isEmpty (wp_X1_canKeepOut x1 x2 σ (fun x τ => Q (some (.int x)) τ))))))
def tb_X1_canKeepOut : List (Nat × Instr × Nat) := [(0, (.aload_n 0, 1)), (1, (.getfield 34, 3)), (4, (.getfield 58, 3)), (7, (.iload_n 2, 1)), (8, (.invokestatic 72, 3)), (11, (.ifCond .ne 30, 3)), (14, (.aload_n 0, 1)), (15, (.iload_n 1, 1)), (16, (.iconst 1, 1)), (17, (.isub, 1)), (18, (.iload_n 2, 1)), (19, (.invokevirtual 86, 3)), (22, (.iconst (-1), 1)), (23, (.if_icmp .ne 30, 3)), (26, (.iconst 1, 1)), (27, (.goto 31, 3)), (30, (.iconst 0, 1)), (31, (.ireturn, 1))]
def ce_X1_canKeepOut : List (Nat × (Nat × Option Nat × WP)) := [(72, (2, none, wl_X9_isInCube)), (86, (3, some 1, wl_X1_leastInto))]
set_option maxRecDepth 100000 in
set_option maxHeartbeats 4000000 in
theorem ct_X1_canKeepOut (l : Launch) : Con l wX yX1_canKeepOut cX1_canKeepOut 3 (some .boolean) 3 wl_X1_canKeepOut := by
  refine sxm_ok l (ft := lkp ft_RX1) (c32 := lkp c32_RX1) (c64 := lkp c64_RX1) (ce := lkp ce_X1_canKeepOut) (sf := lkp sf_RX1) (lab := lkp []) (T := tb_X1_canKeepOut) (by decide +kernel) ft_RX1_ok c32_RX1_ok c64_RX1_ok (fun x q h => (show ∀ q ∈ ce_X1_canKeepOut, ceOK l wX RX1 3 q.1 q.2.1 q.2.2.1 q.2.2.2 from List.forall_mem_cons.mpr ⟨Or.inr (Or.inr (Or.inr ⟨yX9_isInCube, cX9_isInCube, 2, (some .boolean), 1, ct_X9_isInCube l, by decide, by decide, mi_X9_isInCube.1, mi_X9_isInCube.2, Or.inr ml_RX1_72, ms_X9_isInCube, by decide +kernel⟩)), List.forall_mem_cons.mpr ⟨Or.inr (Or.inr (Or.inr ⟨yX1_leastInto, cX1_leastInto, 5, (some .int), 2, ct_X1_leastInto l, by decide, by decide, mi_X1_leastInto.1, mi_X1_leastInto.2, ml_RX1_86, mv_X1_leastInto.1, mv_X1_leastInto.2, ⟨_, _, rfl⟩, by decide, by decide +kernel⟩)), fun _ h => absurd h List.not_mem_nil⟩⟩) (x, q) (lkp_mem h)) sf_RX1_ok (by decide +kernel) 400 (fun As σ Q h => ?_)
  replace h := p1r_e h
  obtain ⟨z0, q0, rfl, h⟩ := h
  replace h := onB_e h
  obtain ⟨e0, h⟩ := h
  have e0 := Nat.eq_of_beq_eq_true e0
  subst e0
  replace h := p1i_e h
  obtain ⟨x1, q1, rfl, h⟩ := h
  replace h := p1i_e h
  obtain ⟨x2, q2, rfl, h⟩ := h
  replace h := onB_e h
  obtain ⟨e9, h⟩ := h
  have e9 := List.isEmpty_iff.mp e9
  subst e9
  refine ⟨Nat.le_of_ble_eq_true rfl, fun P hP => ?_⟩
  exact h 
def wp_X1_widened (x1 : Int32) (x2 : Int32) (σ : Sg) (Q : Int32 → Sg → Prop) : Prop :=
  ∀ L5 : Int32 → Int32 → Sg → Prop,
  (∀ (x3 : Int32) (x4 : Int32) (τ : Sg), ((x4 < (gI τ 1 11) → wp_X9_maskOf x3 τ (fun r1 => (((r1 &&& ((1 : Int32) <<< (x4 &&& 31))) = 0 → L5 x3 (x4 + (1 : Int32)) τ) ∧ (¬ (r1 &&& ((1 : Int32) <<< (x4 &&& 31))) = 0 → wp_X9_maskOf x3 τ (fun r2 => wp_X9_valuesOf x3 τ (fun r3 => wp_X9_cubeOf (r2 &&& (((1 : Int32) <<< (x4 &&& 31)) ^^^ (-1 : Int32))) (r3 &&& (((1 : Int32) <<< (x4 &&& 31)) ^^^ (-1 : Int32))) τ (fun r4 => wp_X9_isInCube (gI τ 1 13) r4 τ (fun r5 => ((r5 = 0 → wp_X1_leastInto (x1 - (1 : Int32)) r4 τ (fun r6 s7 => ((r6 = (-1 : Int32) → L5 r4 (x4 + (1 : Int32)) s7) ∧ (¬ r6 = (-1 : Int32) → L5 x3 (x4 + (1 : Int32)) s7)))) ∧ (¬ r5 = 0 → L5 x3 (x4 + (1 : Int32)) τ)))))))))) ∧ (¬ x4 < (gI τ 1 11) → Q x3 τ)) → L5 x3 x4 τ) →
  L5 x2 (0 : Int32) σ
def wl_X1_widened : WP := fun As σ Q => p1r As (fun z0 r0 => onB (Nat.beq z0 1054) (p1i r0 (fun x1 r1 => p1i r1 (fun x2 r2 => onB r2.isEmpty (wp_X1_widened x1 x2 σ (fun x τ => Q (some (.int x)) τ))))))
def tb_X1_widened : List (Nat × Instr × Nat) := [(0, (.iload_n 2, 1)), (1, (.istore_n 3, 1)), (2, (.iconst 0, 1)), (3, (.istore 4, 2)), (5, (.iload 4, 2)), (7, (.aload_n 0, 1)), (8, (.getfield 34, 3)), (11, (.getfield 90, 3)), (14, (.if_icmp .ge 93, 3)), (17, (.iconst 1, 1)), (18, (.iload 4, 2)), (20, (.ishl, 1)), (21, (.istore 5, 2)), (23, (.iload_n 3, 1)), (24, (.invokestatic 93, 3)), (27, (.iload 5, 2)), (29, (.iand, 1)), (30, (.ifCond .eq 87, 3)), (33, (.iload_n 3, 1)), (34, (.invokestatic 93, 3)), (37, (.iload 5, 2)), (39, (.iconst (-1), 1)), (40, (.ixor, 1)), (41, (.iand, 1)), (42, (.iload_n 3, 1)), (43, (.invokestatic 97, 3)), (46, (.iload 5, 2)), (48, (.iconst (-1), 1)), (49, (.ixor, 1)), (50, (.iand, 1)), (51, (.invokestatic 100, 3)), (54, (.istore 6, 2)), (56, (.aload_n 0, 1)), (57, (.getfield 34, 3)), (60, (.getfield 58, 3)), (63, (.iload 6, 2)), (65, (.invokestatic 72, 3)), (68, (.ifCond .ne 87, 3)), (71, (.aload_n 0, 1)), (72, (.iload_n 1, 1)), (73, (.iconst 1, 1)), (74, (.isub, 1)), (75, (.iload 6, 2)), (77, (.invokevirtual 86, 3)), (80, (.iconst (-1), 1)), (81, (.if_icmp .ne 87, 3)), (84, (.iload 6, 2)), (86, (.istore_n 3, 1)), (87, (.iinc 4 1, 3)), (90, (.goto 5, 3)), (93, (.iload_n 3, 1)), (94, (.ireturn, 1))]
def ce_X1_widened : List (Nat × (Nat × Option Nat × WP)) := [(93, (1, none, wl_X9_maskOf)), (97, (1, none, wl_X9_valuesOf)), (100, (2, none, wl_X9_cubeOf)), (72, (2, none, wl_X9_isInCube)), (86, (3, some 1, wl_X1_leastInto))]
set_option maxRecDepth 100000 in
set_option maxHeartbeats 4000000 in
theorem ct_X1_widened (l : Launch) : Con l wX yX1_widened cX1_widened 7 (some .int) 3 wl_X1_widened := by
  refine sxm_ok l (ft := lkp ft_RX1) (c32 := lkp c32_RX1) (c64 := lkp c64_RX1) (ce := lkp ce_X1_widened) (sf := lkp sf_RX1) (lab := lkp [(5, [0, 1, 3, 4])]) (T := tb_X1_widened) (by decide +kernel) ft_RX1_ok c32_RX1_ok c64_RX1_ok (fun x q h => (show ∀ q ∈ ce_X1_widened, ceOK l wX RX1 3 q.1 q.2.1 q.2.2.1 q.2.2.2 from List.forall_mem_cons.mpr ⟨Or.inr (Or.inr (Or.inr ⟨yX9_maskOf, cX9_maskOf, 1, (some .int), 0, ct_X9_maskOf l, by decide, by decide, mi_X9_maskOf.1, mi_X9_maskOf.2, Or.inr ml_RX1_93, ms_X9_maskOf, by decide +kernel⟩)), List.forall_mem_cons.mpr ⟨Or.inr (Or.inr (Or.inr ⟨yX9_valuesOf, cX9_valuesOf, 1, (some .int), 0, ct_X9_valuesOf l, by decide, by decide, mi_X9_valuesOf.1, mi_X9_valuesOf.2, Or.inr ml_RX1_97, ms_X9_valuesOf, by decide +kernel⟩)), List.forall_mem_cons.mpr ⟨Or.inr (Or.inr (Or.inr ⟨yX9_cubeOf, cX9_cubeOf, 2, (some .int), 0, ct_X9_cubeOf l, by decide, by decide, mi_X9_cubeOf.1, mi_X9_cubeOf.2, Or.inr ml_RX1_100, ms_X9_cubeOf, by decide +kernel⟩)), List.forall_mem_cons.mpr ⟨Or.inr (Or.inr (Or.inr ⟨yX9_isInCube, cX9_isInCube, 2, (some .boolean), 1, ct_X9_isInCube l, by decide, by decide, mi_X9_isInCube.1, mi_X9_isInCube.2, Or.inr ml_RX1_72, ms_X9_isInCube, by decide +kernel⟩)), List.forall_mem_cons.mpr ⟨Or.inr (Or.inr (Or.inr ⟨yX1_leastInto, cX1_leastInto, 5, (some .int), 2, ct_X1_leastInto l, by decide, by decide, mi_X1_leastInto.1, mi_X1_leastInto.2, ml_RX1_86, mv_X1_leastInto.1, mv_X1_leastInto.2, ⟨_, _, rfl⟩, by decide, by decide +kernel⟩)), fun _ h => absurd h List.not_mem_nil⟩⟩⟩⟩⟩) (x, q) (lkp_mem h)) sf_RX1_ok (by decide +kernel) 400 (fun As σ Q h => ?_)
  replace h := p1r_e h
  obtain ⟨z0, q0, rfl, h⟩ := h
  replace h := onB_e h
  obtain ⟨e0, h⟩ := h
  have e0 := Nat.eq_of_beq_eq_true e0
  subst e0
  replace h := p1i_e h
  obtain ⟨x1, q1, rfl, h⟩ := h
  replace h := p1i_e h
  obtain ⟨x2, q2, rfl, h⟩ := h
  replace h := onB_e h
  obtain ⟨e9, h⟩ := h
  have e9 := List.isEmpty_iff.mp e9
  subst e9
  refine ⟨Nat.le_of_ble_eq_true rfl, fun P hP => ?_⟩
  exact h (fun x3 x4 τ => P 5 [.ref 1054, .int x1, .int x3, .int x4] τ) (fun x3 x4 τ hb => hP 5 [.ref 1054, .int x1, .int x3, .int x4] τ hb)
def wp_X1_putUpTo (x1 : Int32) (x2 : Int32) (σ : Sg) (Q : Int32 → Sg → Prop) : Prop :=
  ∀ L2 : Int32 → Sg → Prop,
  ∀ L35 : Int32 → Sg → Prop,
  (∀ (x3 : Int32) (τ : Sg), ((x1 < x3 → L35 (1 : Int32) τ) ∧ (¬ x1 < x3 → (((24 : Int32) < x3 → L35 (1 : Int32) τ) ∧ (¬ (24 : Int32) < x3 → (vp_in x3 25 ∧ onB (isK wX (wR wX 1055 (x3).toNatClampNeg) 0) (wp_X0_isFull (wR wX 1055 (x3).toNatClampNeg) τ (fun r1 => ((r1 = 0 → L2 (x3 + (1 : Int32)) τ) ∧ (¬ r1 = 0 → (nz (0 : Int32) ∧ Q (0 : Int32) τ)))))))))) → L2 x3 τ) →
  (∀ (x3 : Int32) (τ : Sg), ((x1 < x3 → (nz (1 : Int32) ∧ Q (1 : Int32) τ)) ∧ (¬ x1 < x3 → (((24 : Int32) < x3 → (nz (1 : Int32) ∧ Q (1 : Int32) τ)) ∧ (¬ (24 : Int32) < x3 → (vp_in x3 25 ∧ onB (isK wX (wR wX 1055 (x3).toNatClampNeg) 0) (wp_X0_put (wR wX 1055 (x3).toNatClampNeg) x2 τ (fun r2 s3 => L35 (x3 + (1 : Int32)) s3))))))) → L35 x3 τ) →
  L2 (1 : Int32) σ
def wl_X1_putUpTo : WP := fun As σ Q => p1r As (fun z0 r0 => onB (Nat.beq z0 1054) (p1i r0 (fun x1 r1 => p1i r1 (fun x2 r2 => onB r2.isEmpty (wp_X1_putUpTo x1 x2 σ (fun x τ => Q (some (.int x)) τ))))))
def tb_X1_putUpTo : List (Nat × Instr × Nat) := [(0, (.iconst 1, 1)), (1, (.istore_n 3, 1)), (2, (.iload_n 3, 1)), (3, (.iload_n 1, 1)), (4, (.if_icmp .gt 33, 3)), (7, (.iload_n 3, 1)), (8, (.bipush 24, 2)), (10, (.if_icmp .gt 33, 3)), (13, (.aload_n 0, 1)), (14, (.getfield 11, 3)), (17, (.iload_n 3, 1)), (18, (.aaload, 1)), (19, (.invokevirtual 103, 3)), (22, (.ifCond .eq 27, 3)), (25, (.iconst 0, 1)), (26, (.ireturn, 1)), (27, (.iinc 3 1, 3)), (30, (.goto 2, 3)), (33, (.iconst 1, 1)), (34, (.istore_n 3, 1)), (35, (.iload_n 3, 1)), (36, (.iload_n 1, 1)), (37, (.if_icmp .gt 63, 3)), (40, (.iload_n 3, 1)), (41, (.bipush 24, 2)), (43, (.if_icmp .gt 63, 3)), (46, (.aload_n 0, 1)), (47, (.getfield 11, 3)), (50, (.iload_n 3, 1)), (51, (.aaload, 1)), (52, (.iload_n 2, 1)), (53, (.invokevirtual 107, 3)), (56, (.pop, 1)), (57, (.iinc 3 1, 3)), (60, (.goto 35, 3)), (63, (.iconst 1, 1)), (64, (.ireturn, 1))]
def ce_X1_putUpTo : List (Nat × (Nat × Option Nat × WP)) := [(103, (1, some 0, wl_X0_isFull)), (107, (2, some 0, wl_X0_put))]
set_option maxRecDepth 100000 in
set_option maxHeartbeats 4000000 in
theorem ct_X1_putUpTo (l : Launch) : Con l wX yX1_putUpTo cX1_putUpTo 4 (some .boolean) 3 wl_X1_putUpTo := by
  refine sxm_ok l (ft := lkp ft_RX1) (c32 := lkp c32_RX1) (c64 := lkp c64_RX1) (ce := lkp ce_X1_putUpTo) (sf := lkp sf_RX1) (lab := lkp [(2, [0, 1, 2, 3]), (35, [0, 1, 2, 3])]) (T := tb_X1_putUpTo) (by decide +kernel) ft_RX1_ok c32_RX1_ok c64_RX1_ok (fun x q h => (show ∀ q ∈ ce_X1_putUpTo, ceOK l wX RX1 3 q.1 q.2.1 q.2.2.1 q.2.2.2 from List.forall_mem_cons.mpr ⟨Or.inr (Or.inr (Or.inr ⟨yX0_isFull, cX0_isFull, 1, (some .boolean), 0, ct_X0_isFull l, by decide, by decide, mi_X0_isFull.1, mi_X0_isFull.2, ml_RX1_103, mv_X0_isFull.1, mv_X0_isFull.2, ⟨_, _, rfl⟩, by decide, by decide +kernel⟩)), List.forall_mem_cons.mpr ⟨Or.inr (Or.inr (Or.inr ⟨yX0_put, cX0_put, 2, (some .boolean), 2, ct_X0_put l, by decide, by decide, mi_X0_put.1, mi_X0_put.2, ml_RX1_107, mv_X0_put.1, mv_X0_put.2, ⟨_, _, rfl⟩, by decide, by decide +kernel⟩)), fun _ h => absurd h List.not_mem_nil⟩⟩) (x, q) (lkp_mem h)) sf_RX1_ok (by decide +kernel) 400 (fun As σ Q h => ?_)
  replace h := p1r_e h
  obtain ⟨z0, q0, rfl, h⟩ := h
  replace h := onB_e h
  obtain ⟨e0, h⟩ := h
  have e0 := Nat.eq_of_beq_eq_true e0
  subst e0
  replace h := p1i_e h
  obtain ⟨x1, q1, rfl, h⟩ := h
  replace h := p1i_e h
  obtain ⟨x2, q2, rfl, h⟩ := h
  replace h := onB_e h
  obtain ⟨e9, h⟩ := h
  have e9 := List.isEmpty_iff.mp e9
  subst e9
  refine ⟨Nat.le_of_ble_eq_true rfl, fun P hP => ?_⟩
  exact h (fun x3 τ => P 2 [.ref 1054, .int x1, .int x2, .int x3] τ) (fun x3 τ => P 35 [.ref 1054, .int x1, .int x2, .int x3] τ) (fun x3 τ hb => hP 2 [.ref 1054, .int x1, .int x2, .int x3] τ hb) (fun x3 τ hb => hP 35 [.ref 1054, .int x1, .int x2, .int x3] τ hb)
def wp_X1_pushOn (x1 : Int32) (σ : Sg) (Q : Int32 → Sg → Prop) : Prop :=
  ∀ L39 : Nat → Nat → Int32 → Sg → Prop,
  (∀ (x2 : Nat) (x3 : Nat) (x4 : Int32) (τ : Sg), onB (isK wX x2 0) (((x4 < (gI τ x2 2) → onB (isK wX x2 0) (wp_X0_cubeAt x2 x4 τ (fun r1 => onB (isK wX x3 0) (wp_X0_hasCube x3 r1 τ (fun r2 => ((r2 = 0 → wp_X7_meetsCube 1062 r1 τ (fun r3 => ((r3 = 0 → onB (isK wX x3 0) (wp_X0_put x3 r1 τ (fun r4 s5 => ((r4 = 0 → (nz (0 : Int32) ∧ Q (0 : Int32) s5)) ∧ (¬ r4 = 0 → L39 x2 x3 (x4 + (1 : Int32)) s5))))) ∧ (¬ r3 = 0 → L39 x2 x3 (x4 + (1 : Int32)) τ)))) ∧ (¬ r2 = 0 → L39 x2 x3 (x4 + (1 : Int32)) τ))))))) ∧ (¬ x4 < (gI τ x2 2) → (nz (1 : Int32) ∧ Q (1 : Int32) τ)))) → L39 x2 x3 x4 τ) →
  wp_X1_frame x1 σ (fun r6 => wp_X1_frame (x1 + (1 : Int32)) σ (fun r7 => wp_X7_becomeEmpty 1062 σ (fun s8 => onB (isK wX r6 0) (wp_X8_putAllFrom (wR wX r6 1) 1062 s8 (fun s9 => L39 r6 r7 (0 : Int32) s9)))))
def wl_X1_pushOn : WP := fun As σ Q => p1r As (fun z0 r0 => onB (Nat.beq z0 1054) (p1i r0 (fun x1 r1 => onB r1.isEmpty (wp_X1_pushOn x1 σ (fun x τ => Q (some (.int x)) τ)))))
def tb_X1_pushOn : List (Nat × Instr × Nat) := [(0, (.aload_n 0, 1)), (1, (.iload_n 1, 1)), (2, (.invokevirtual 51, 3)), (5, (.astore_n 2, 1)), (6, (.aload_n 0, 1)), (7, (.iload_n 1, 1)), (8, (.iconst 1, 1)), (9, (.iadd, 1)), (10, (.invokevirtual 51, 3)), (13, (.astore_n 3, 1)), (14, (.aload_n 0, 1)), (15, (.getfield 31, 3)), (18, (.invokevirtual 110, 3)), (21, (.aload_n 0, 1)), (22, (.getfield 38, 3)), (25, (.aload_n 2, 1)), (26, (.getfield 55, 3)), (29, (.aload_n 0, 1)), (30, (.getfield 31, 3)), (33, (.invokevirtual 113, 3)), (36, (.iconst 0, 1)), (37, (.istore 4, 2)), (39, (.iload 4, 2)), (41, (.aload_n 2, 1)), (42, (.getfield 117, 3)), (45, (.if_icmp .ge 94, 3)), (48, (.aload_n 2, 1)), (49, (.iload 4, 2)), (51, (.invokevirtual 120, 3)), (54, (.istore 5, 2)), (56, (.aload_n 3, 1)), (57, (.iload 5, 2)), (59, (.invokevirtual 123, 3)), (62, (.ifCond .ne 88, 3)), (65, (.aload_n 0, 1)), (66, (.getfield 31, 3)), (69, (.iload 5, 2)), (71, (.invokevirtual 126, 3)), (74, (.ifCond .ne 88, 3)), (77, (.aload_n 3, 1)), (78, (.iload 5, 2)), (80, (.invokevirtual 107, 3)), (83, (.ifCond .ne 88, 3)), (86, (.iconst 0, 1)), (87, (.ireturn, 1)), (88, (.iinc 4 1, 3)), (91, (.goto 39, 3)), (94, (.iconst 1, 1)), (95, (.ireturn, 1))]
def ce_X1_pushOn : List (Nat × (Nat × Option Nat × WP)) := [(51, (2, some 1, wl_X1_frame)), (110, (1, some 7, wl_X7_becomeEmpty)), (113, (3, some 8, wl_X8_putAllFrom)), (120, (2, some 0, wl_X0_cubeAt)), (123, (2, some 0, wl_X0_hasCube)), (126, (2, some 7, wl_X7_meetsCube)), (107, (2, some 0, wl_X0_put))]
set_option maxRecDepth 100000 in
set_option maxHeartbeats 4000000 in
theorem ct_X1_pushOn (l : Launch) : Con l wX yX1_pushOn cX1_pushOn 6 (some .boolean) 3 wl_X1_pushOn := by
  refine sxm_ok l (ft := lkp ft_RX1) (c32 := lkp c32_RX1) (c64 := lkp c64_RX1) (ce := lkp ce_X1_pushOn) (sf := lkp sf_RX1) (lab := lkp [(39, [0, 2, 3, 4])]) (T := tb_X1_pushOn) (by decide +kernel) ft_RX1_ok c32_RX1_ok c64_RX1_ok (fun x q h => (show ∀ q ∈ ce_X1_pushOn, ceOK l wX RX1 3 q.1 q.2.1 q.2.2.1 q.2.2.2 from List.forall_mem_cons.mpr ⟨Or.inr (Or.inr (Or.inr ⟨yX1_frame, cX1_frame, 2, (some (.object "FrameProver$Clauses")), 0, ct_X1_frame l, by decide, by decide, mi_X1_frame.1, mi_X1_frame.2, ml_RX1_51, mv_X1_frame.1, mv_X1_frame.2, ⟨_, _, rfl⟩, by decide, by decide +kernel⟩)), List.forall_mem_cons.mpr ⟨Or.inr (Or.inr (Or.inr ⟨yX7_becomeEmpty, cX7_becomeEmpty, 1, none, 1, ct_X7_becomeEmpty l, by decide, by decide, mi_X7_becomeEmpty.1, mi_X7_becomeEmpty.2, ml_RX1_110, mv_X7_becomeEmpty.1, mv_X7_becomeEmpty.2, ⟨_, _, rfl⟩, by decide, by decide +kernel⟩)), List.forall_mem_cons.mpr ⟨Or.inr (Or.inr (Or.inr ⟨yX8_putAllFrom, cX8_putAllFrom, 4, none, 1, ct_X8_putAllFrom l, by decide, by decide, mi_X8_putAllFrom.1, mi_X8_putAllFrom.2, ml_RX1_113, mv_X8_putAllFrom.1, mv_X8_putAllFrom.2, ⟨_, _, rfl⟩, by decide, by decide +kernel⟩)), List.forall_mem_cons.mpr ⟨Or.inr (Or.inr (Or.inr ⟨yX0_cubeAt, cX0_cubeAt, 2, (some .int), 1, ct_X0_cubeAt l, by decide, by decide, mi_X0_cubeAt.1, mi_X0_cubeAt.2, ml_RX1_120, mv_X0_cubeAt.1, mv_X0_cubeAt.2, ⟨_, _, rfl⟩, by decide, by decide +kernel⟩)), List.forall_mem_cons.mpr ⟨Or.inr (Or.inr (Or.inr ⟨yX0_hasCube, cX0_hasCube, 3, (some .boolean), 0, ct_X0_hasCube l, by decide, by decide, mi_X0_hasCube.1, mi_X0_hasCube.2, ml_RX1_123, mv_X0_hasCube.1, mv_X0_hasCube.2, ⟨_, _, rfl⟩, by decide, by decide +kernel⟩)), List.forall_mem_cons.mpr ⟨Or.inr (Or.inr (Or.inr ⟨yX7_meetsCube, cX7_meetsCube, 7, (some .boolean), 1, ct_X7_meetsCube l, by decide, by decide, mi_X7_meetsCube.1, mi_X7_meetsCube.2, ml_RX1_126, mv_X7_meetsCube.1, mv_X7_meetsCube.2, ⟨_, _, rfl⟩, by decide, by decide +kernel⟩)), List.forall_mem_cons.mpr ⟨Or.inr (Or.inr (Or.inr ⟨yX0_put, cX0_put, 2, (some .boolean), 2, ct_X0_put l, by decide, by decide, mi_X0_put.1, mi_X0_put.2, ml_RX1_107, mv_X0_put.1, mv_X0_put.2, ⟨_, _, rfl⟩, by decide, by decide +kernel⟩)), fun _ h => absurd h List.not_mem_nil⟩⟩⟩⟩⟩⟩⟩) (x, q) (lkp_mem h)) sf_RX1_ok (by decide +kernel) 400 (fun As σ Q h => ?_)
  replace h := p1r_e h
  obtain ⟨z0, q0, rfl, h⟩ := h
  replace h := onB_e h
  obtain ⟨e0, h⟩ := h
  have e0 := Nat.eq_of_beq_eq_true e0
  subst e0
  replace h := p1i_e h
  obtain ⟨x1, q1, rfl, h⟩ := h
  replace h := onB_e h
  obtain ⟨e9, h⟩ := h
  have e9 := List.isEmpty_iff.mp e9
  subst e9
  refine ⟨Nat.le_of_ble_eq_true rfl, fun P hP => ?_⟩
  exact h (fun x2 x3 x4 τ => P 39 [.ref 1054, .ref x2, .ref x3, .int x4] τ) (fun x2 x3 x4 τ hb => hP 39 [.ref 1054, .ref x2, .ref x3, .int x4] τ hb)
def wp_X2_judgeList  (σ : Sg) (Q : Int32 → Sg → Prop) : Prop :=
  wp_X2_fault σ (fun r1 => ((r1 = (1 : Int32) → Q r1 (sI (sI (sI σ 1171 3 (-1 : Int32)) 1171 4 (-1 : Int32)) 1171 3 (gI (sI (sI σ 1171 3 (-1 : Int32)) 1171 4 (-1 : Int32)) 1 13))) ∧ (¬ r1 = (1 : Int32) → ((r1 = (3 : Int32) → wp_X7_leastCommon 1168 18 (sI (sI σ 1171 3 (-1 : Int32)) 1171 4 (-1 : Int32)) (fun r2 => Q r1 (sI (sI (sI σ 1171 3 (-1 : Int32)) 1171 4 (-1 : Int32)) 1171 3 r2))) ∧ (¬ r1 = (3 : Int32) → ((r1 = (2 : Int32) → wp_X2_leastThatLeadsOut (sI (sI σ 1171 3 (-1 : Int32)) 1171 4 (-1 : Int32)) (fun r3 => wp_X8_from (gI (sI (sI (sI σ 1171 3 (-1 : Int32)) 1171 4 (-1 : Int32)) 1171 3 r3) 1171 3) (sI (sI (sI σ 1171 3 (-1 : Int32)) 1171 4 (-1 : Int32)) 1171 3 r3) (fun r4 => onB (isK wX r4 7) (wp_X7_leastOutside r4 1168 (sI (sI (sI σ 1171 3 (-1 : Int32)) 1171 4 (-1 : Int32)) 1171 3 r3) (fun r5 => Q r1 (sI (sI (sI (sI σ 1171 3 (-1 : Int32)) 1171 4 (-1 : Int32)) 1171 3 r3) 1171 4 r5)))))) ∧ (¬ r1 = (2 : Int32) → Q r1 (sI (sI σ 1171 3 (-1 : Int32)) 1171 4 (-1 : Int32)))))))))
def wl_X2_judgeList : WP := fun As σ Q => p1r As (fun z0 r0 => onB (Nat.beq z0 1171) (onB r0.isEmpty (wp_X2_judgeList  σ (fun x τ => Q (some (.int x)) τ))))
def tb_X2_judgeList : List (Nat × Instr × Nat) := [(0, (.aload_n 0, 1)), (1, (.invokevirtual 70, 3)), (4, (.istore_n 1, 1)), (5, (.aload_n 0, 1)), (6, (.iconst (-1), 1)), (7, (.putfield 9, 3)), (10, (.aload_n 0, 1)), (11, (.iconst (-1), 1)), (12, (.putfield 15, 3)), (15, (.iload_n 1, 1)), (16, (.iconst 1, 1)), (17, (.if_icmp .ne 34, 3)), (20, (.aload_n 0, 1)), (21, (.aload_n 0, 1)), (22, (.getfield 18, 3)), (25, (.getfield 36, 3)), (28, (.putfield 9, 3)), (31, (.goto 101, 3)), (34, (.iload_n 1, 1)), (35, (.iconst 3, 1)), (36, (.if_icmp .ne 63, 3)), (39, (.aload_n 0, 1)), (40, (.aload_n 0, 1)), (41, (.getfield 26, 3)), (44, (.getfield 30, 3)), (47, (.aload_n 0, 1)), (48, (.getfield 22, 3)), (51, (.getfield 47, 3)), (54, (.invokevirtual 73, 3)), (57, (.putfield 9, 3)), (60, (.goto 101, 3)), (63, (.iload_n 1, 1)), (64, (.iconst 2, 1)), (65, (.if_icmp .ne 101, 3)), (68, (.aload_n 0, 1)), (69, (.aload_n 0, 1)), (70, (.invokevirtual 56, 3)), (73, (.putfield 9, 3)), (76, (.aload_n 0, 1)), (77, (.aload_n 0, 1)), (78, (.getfield 22, 3)), (81, (.aload_n 0, 1)), (82, (.getfield 9, 3)), (85, (.invokevirtual 63, 3)), (88, (.aload_n 0, 1)), (89, (.getfield 26, 3)), (92, (.getfield 30, 3)), (95, (.invokevirtual 77, 3)), (98, (.putfield 15, 3)), (101, (.iload_n 1, 1)), (102, (.ireturn, 1))]
def ce_X2_judgeList : List (Nat × (Nat × Option Nat × WP)) := [(70, (1, some 2, wl_X2_fault)), (73, (2, some 7, wl_X7_leastCommon)), (56, (1, some 2, wl_X2_leastThatLeadsOut)), (63, (2, some 8, wl_X8_from)), (77, (2, some 7, wl_X7_leastOutside))]
set_option maxRecDepth 100000 in
set_option maxHeartbeats 4000000 in
theorem ct_X2_judgeList (l : Launch) : Con l wX yX2_judgeList cX2_judgeList 2 (some .int) 3 wl_X2_judgeList := by
  refine sxm_ok l (ft := lkp ft_RX2) (c32 := lkp c32_RX2) (c64 := lkp c64_RX2) (ce := lkp ce_X2_judgeList) (sf := lkp sf_RX2) (lab := lkp []) (T := tb_X2_judgeList) (by decide +kernel) ft_RX2_ok c32_RX2_ok c64_RX2_ok (fun x q h => (show ∀ q ∈ ce_X2_judgeList, ceOK l wX RX2 3 q.1 q.2.1 q.2.2.1 q.2.2.2 from List.forall_mem_cons.mpr ⟨Or.inr (Or.inr (Or.inr ⟨yX2_fault, cX2_fault, 1, (some .int), 2, ct_X2_fault l, by decide, by decide, mi_X2_fault.1, mi_X2_fault.2, ml_RX2_70, mv_X2_fault.1, mv_X2_fault.2, ⟨_, _, rfl⟩, by decide, by decide +kernel⟩)), List.forall_mem_cons.mpr ⟨Or.inr (Or.inr (Or.inr ⟨yX7_leastCommon, cX7_leastCommon, 3, (some .int), 1, ct_X7_leastCommon l, by decide, by decide, mi_X7_leastCommon.1, mi_X7_leastCommon.2, ml_RX2_73, mv_X7_leastCommon.1, mv_X7_leastCommon.2, ⟨_, _, rfl⟩, by decide, by decide +kernel⟩)), List.forall_mem_cons.mpr ⟨Or.inr (Or.inr (Or.inr ⟨yX2_leastThatLeadsOut, cX2_leastThatLeadsOut, 2, (some .int), 1, ct_X2_leastThatLeadsOut l, by decide, by decide, mi_X2_leastThatLeadsOut.1, mi_X2_leastThatLeadsOut.2, ml_RX2_56, mv_X2_leastThatLeadsOut.1, mv_X2_leastThatLeadsOut.2, ⟨_, _, rfl⟩, by decide, by decide +kernel⟩)), List.forall_mem_cons.mpr ⟨Or.inr (Or.inr (Or.inr ⟨yX8_from, cX8_from, 2, (some (.object "FrameProver$StateSet")), 0, ct_X8_from l, by decide, by decide, mi_X8_from.1, mi_X8_from.2, ml_RX2_63, mv_X8_from.1, mv_X8_from.2, ⟨_, _, rfl⟩, by decide, by decide +kernel⟩)), List.forall_mem_cons.mpr ⟨Or.inr (Or.inr (Or.inr ⟨yX7_leastOutside, cX7_leastOutside, 3, (some .int), 1, ct_X7_leastOutside l, by decide, by decide, mi_X7_leastOutside.1, mi_X7_leastOutside.2, ml_RX2_77, mv_X7_leastOutside.1, mv_X7_leastOutside.2, ⟨_, _, rfl⟩, by decide, by decide +kernel⟩)), fun _ h => absurd h List.not_mem_nil⟩⟩⟩⟩⟩) (x, q) (lkp_mem h)) sf_RX2_ok (by decide +kernel) 400 (fun As σ Q h => ?_)
  replace h := p1r_e h
  obtain ⟨z0, q0, rfl, h⟩ := h
  replace h := onB_e h
  obtain ⟨e0, h⟩ := h
  have e0 := Nat.eq_of_beq_eq_true e0
  subst e0
  replace h := onB_e h
  obtain ⟨e9, h⟩ := h
  have e9 := List.isEmpty_iff.mp e9
  subst e9
  refine ⟨Nat.le_of_ble_eq_true rfl, fun P hP => ?_⟩
  exact h 
def wp_X3_leastChoicesTo (x1 : Int32) (σ : Sg) (Q : Int32 → Prop) : Prop :=
  ∀ L7 : Int32 → Int32 → Prop,
  (∀ (x2 : Int32) (x3 : Int32), wp_X3_choicesInAll σ (fun r1 => ((x3 < r1 → ((((x2 >>> (x3 &&& 31)) &&& (1 : Int32)) = (1 : Int32) → wp_X3_stateAfter x3 σ (fun r2 => ((r2 = x1 → Q x3) ∧ (¬ r2 = x1 → L7 x2 (x3 + (1 : Int32)))))) ∧ (¬ ((x2 >>> (x3 &&& 31)) &&& (1 : Int32)) = (1 : Int32) → L7 x2 (x3 + (1 : Int32))))) ∧ (¬ x3 < r1 → Q (-1 : Int32)))) → L7 x2 x3) →
  wp_X3_rightLanes σ (fun r3 => L7 r3 (0 : Int32))
def wl_X3_leastChoicesTo : WP := fun As σ Q => p1r As (fun z0 r0 => onB (Nat.beq z0 1) (p1i r0 (fun x1 r1 => onB r1.isEmpty (wp_X3_leastChoicesTo x1 σ (fun x => Q (some (.int x)) σ)))))
def tb_X3_leastChoicesTo : List (Nat × Instr × Nat) := [(0, (.aload_n 0, 1)), (1, (.invokevirtual 95, 3)), (4, (.istore_n 2, 1)), (5, (.iconst 0, 1)), (6, (.istore_n 3, 1)), (7, (.iload_n 3, 1)), (8, (.aload_n 0, 1)), (9, (.invokevirtual 74, 3)), (12, (.if_icmp .ge 41, 3)), (15, (.iload_n 2, 1)), (16, (.iload_n 3, 1)), (17, (.ishr, 1)), (18, (.iconst 1, 1)), (19, (.iand, 1)), (20, (.iconst 1, 1)), (21, (.if_icmp .ne 35, 3)), (24, (.aload_n 0, 1)), (25, (.iload_n 3, 1)), (26, (.invokevirtual 101, 3)), (29, (.iload_n 1, 1)), (30, (.if_icmp .ne 35, 3)), (33, (.iload_n 3, 1)), (34, (.ireturn, 1)), (35, (.iinc 3 1, 3)), (38, (.goto 7, 3)), (41, (.iconst (-1), 1)), (42, (.ireturn, 1))]
def ce_X3_leastChoicesTo : List (Nat × (Nat × Option Nat × WP)) := [(95, (1, some 3, wl_X3_rightLanes)), (74, (1, some 3, wl_X3_choicesInAll)), (101, (2, some 3, wl_X3_stateAfter))]
set_option maxRecDepth 100000 in
set_option maxHeartbeats 4000000 in
theorem ct_X3_leastChoicesTo (l : Launch) : Con l wX yX3_leastChoicesTo cX3_leastChoicesTo 4 (some .int) 3 wl_X3_leastChoicesTo := by
  refine sxm_ok l (ft := lkp ft_RX3) (c32 := lkp c32_RX3) (c64 := lkp c64_RX3) (ce := lkp ce_X3_leastChoicesTo) (sf := lkp sf_RX3) (lab := lkp [(7, [0, 1, 2, 3])]) (T := tb_X3_leastChoicesTo) (by decide +kernel) ft_RX3_ok c32_RX3_ok c64_RX3_ok (fun x q h => (show ∀ q ∈ ce_X3_leastChoicesTo, ceOK l wX RX3 3 q.1 q.2.1 q.2.2.1 q.2.2.2 from List.forall_mem_cons.mpr ⟨Or.inr (Or.inr (Or.inr ⟨yX3_rightLanes, cX3_rightLanes, 3, (some .int), 1, ct_X3_rightLanes l, by decide, by decide, mi_X3_rightLanes.1, mi_X3_rightLanes.2, ml_RX3_95, mv_X3_rightLanes.1, mv_X3_rightLanes.2, ⟨_, _, rfl⟩, by decide, by decide +kernel⟩)), List.forall_mem_cons.mpr ⟨Or.inr (Or.inr (Or.inr ⟨yX3_choicesInAll, cX3_choicesInAll, 1, (some .int), 0, ct_X3_choicesInAll l, by decide, by decide, mi_X3_choicesInAll.1, mi_X3_choicesInAll.2, ml_RX3_74, mv_X3_choicesInAll.1, mv_X3_choicesInAll.2, ⟨_, _, rfl⟩, by decide, by decide +kernel⟩)), List.forall_mem_cons.mpr ⟨Or.inr (Or.inr (Or.inr ⟨yX3_stateAfter, cX3_stateAfter, 5, (some .int), 2, ct_X3_stateAfter l, by decide, by decide, mi_X3_stateAfter.1, mi_X3_stateAfter.2, ml_RX3_101, mv_X3_stateAfter.1, mv_X3_stateAfter.2, ⟨_, _, rfl⟩, by decide, by decide +kernel⟩)), fun _ h => absurd h List.not_mem_nil⟩⟩⟩) (x, q) (lkp_mem h)) sf_RX3_ok (by decide +kernel) 400 (fun As σ Q h => ?_)
  replace h := p1r_e h
  obtain ⟨z0, q0, rfl, h⟩ := h
  replace h := onB_e h
  obtain ⟨e0, h⟩ := h
  have e0 := Nat.eq_of_beq_eq_true e0
  subst e0
  replace h := p1i_e h
  obtain ⟨x1, q1, rfl, h⟩ := h
  replace h := onB_e h
  obtain ⟨e9, h⟩ := h
  have e9 := List.isEmpty_iff.mp e9
  subst e9
  refine ⟨Nat.le_of_ble_eq_true rfl, fun P hP => ?_⟩
  exact h (fun x2 x3 => P 7 [.ref 1, .int x1, .int x2, .int x3] σ) (fun x2 x3 hb => hP 7 [.ref 1, .int x1, .int x2, .int x3] σ hb)
def wp_X3_leastChoicesOfBad  (σ : Sg) (Q : Int32 → Prop) : Prop :=
  ∀ L7 : Int32 → Int32 → Prop,
  (∀ (x1 : Int32) (x2 : Int32), wp_X3_choicesInAll σ (fun r1 => ((x2 < r1 → ((((x1 >>> (x2 &&& 31)) &&& (1 : Int32)) = (1 : Int32) → Q x2) ∧ (¬ ((x1 >>> (x2 &&& 31)) &&& (1 : Int32)) = (1 : Int32) → L7 x1 (x2 + (1 : Int32))))) ∧ (¬ x2 < r1 → Q (-1 : Int32)))) → L7 x1 x2) →
  wp_X3_badLanes σ (fun r2 => L7 r2 (0 : Int32))
def wl_X3_leastChoicesOfBad : WP := fun As σ Q => p1r As (fun z0 r0 => onB (Nat.beq z0 1) (onB r0.isEmpty (wp_X3_leastChoicesOfBad  σ (fun x => Q (some (.int x)) σ))))
def tb_X3_leastChoicesOfBad : List (Nat × Instr × Nat) := [(0, (.aload_n 0, 1)), (1, (.invokevirtual 104, 3)), (4, (.istore_n 1, 1)), (5, (.iconst 0, 1)), (6, (.istore_n 2, 1)), (7, (.iload_n 2, 1)), (8, (.aload_n 0, 1)), (9, (.invokevirtual 74, 3)), (12, (.if_icmp .ge 32, 3)), (15, (.iload_n 1, 1)), (16, (.iload_n 2, 1)), (17, (.ishr, 1)), (18, (.iconst 1, 1)), (19, (.iand, 1)), (20, (.iconst 1, 1)), (21, (.if_icmp .ne 26, 3)), (24, (.iload_n 2, 1)), (25, (.ireturn, 1)), (26, (.iinc 2 1, 3)), (29, (.goto 7, 3)), (32, (.iconst (-1), 1)), (33, (.ireturn, 1))]
def ce_X3_leastChoicesOfBad : List (Nat × (Nat × Option Nat × WP)) := [(104, (1, some 3, wl_X3_badLanes)), (74, (1, some 3, wl_X3_choicesInAll))]
set_option maxRecDepth 100000 in
set_option maxHeartbeats 4000000 in
theorem ct_X3_leastChoicesOfBad (l : Launch) : Con l wX yX3_leastChoicesOfBad cX3_leastChoicesOfBad 3 (some .int) 3 wl_X3_leastChoicesOfBad := by
  refine sxm_ok l (ft := lkp ft_RX3) (c32 := lkp c32_RX3) (c64 := lkp c64_RX3) (ce := lkp ce_X3_leastChoicesOfBad) (sf := lkp sf_RX3) (lab := lkp [(7, [0, 1, 2])]) (T := tb_X3_leastChoicesOfBad) (by decide +kernel) ft_RX3_ok c32_RX3_ok c64_RX3_ok (fun x q h => (show ∀ q ∈ ce_X3_leastChoicesOfBad, ceOK l wX RX3 3 q.1 q.2.1 q.2.2.1 q.2.2.2 from List.forall_mem_cons.mpr ⟨Or.inr (Or.inr (Or.inr ⟨yX3_badLanes, cX3_badLanes, 1, (some .int), 2, ct_X3_badLanes l, by decide, by decide, mi_X3_badLanes.1, mi_X3_badLanes.2, ml_RX3_104, mv_X3_badLanes.1, mv_X3_badLanes.2, ⟨_, _, rfl⟩, by decide, by decide +kernel⟩)), List.forall_mem_cons.mpr ⟨Or.inr (Or.inr (Or.inr ⟨yX3_choicesInAll, cX3_choicesInAll, 1, (some .int), 0, ct_X3_choicesInAll l, by decide, by decide, mi_X3_choicesInAll.1, mi_X3_choicesInAll.2, ml_RX3_74, mv_X3_choicesInAll.1, mv_X3_choicesInAll.2, ⟨_, _, rfl⟩, by decide, by decide +kernel⟩)), fun _ h => absurd h List.not_mem_nil⟩⟩) (x, q) (lkp_mem h)) sf_RX3_ok (by decide +kernel) 400 (fun As σ Q h => ?_)
  replace h := p1r_e h
  obtain ⟨z0, q0, rfl, h⟩ := h
  replace h := onB_e h
  obtain ⟨e0, h⟩ := h
  have e0 := Nat.eq_of_beq_eq_true e0
  subst e0
  replace h := onB_e h
  obtain ⟨e9, h⟩ := h
  have e9 := List.isEmpty_iff.mp e9
  subst e9
  refine ⟨Nat.le_of_ble_eq_true rfl, fun P hP => ?_⟩
  exact h (fun x1 x2 => P 7 [.ref 1, .int x1, .int x2] σ) (fun x1 x2 hb => hP 7 [.ref 1, .int x1, .int x2] σ hb)
def wp_X3_markPass  (σ : Sg) (Q : Sg → Prop) : Prop :=
  ∀ L7 : Int32 → Sg → Prop,
  (∀ (x1 : Int32) (τ : Sg), ((x1 < 0 → Q τ) ∧ (¬ x1 < 0 → wp_X3_isMarked x1 τ (fun r1 => ((r1 = 0 → L7 (x1 + (-1 : Int32)) τ) ∧ (¬ r1 = 0 → wp_X3_firstSign x1 τ (fun r2 => wp_X3_markSign r2 τ (fun s3 => wp_X3_secondSign x1 s3 (fun r4 => wp_X3_markSign r4 s3 (fun s5 => L7 (x1 + (-1 : Int32)) s5))))))))) → L7 x1 τ) →
  L7 ((gI σ 1 10) - (1 : Int32)) σ
def wl_X3_markPass : WP := fun As σ Q => p1r As (fun z0 r0 => onB (Nat.beq z0 1) (onB r0.isEmpty (wp_X3_markPass  σ (fun τ => Q none τ))))
def tb_X3_markPass : List (Nat × Instr × Nat) := [(0, (.aload_n 0, 1)), (1, (.getfield 50, 3)), (4, (.iconst 1, 1)), (5, (.isub, 1)), (6, (.istore_n 1, 1)), (7, (.iload_n 1, 1)), (8, (.ifCond .lt 43, 3)), (11, (.aload_n 0, 1)), (12, (.iload_n 1, 1)), (13, (.invokevirtual 113, 3)), (16, (.ifCond .eq 37, 3)), (19, (.aload_n 0, 1)), (20, (.aload_n 0, 1)), (21, (.iload_n 1, 1)), (22, (.invokevirtual 98, 3)), (25, (.invokevirtual 107, 3)), (28, (.aload_n 0, 1)), (29, (.aload_n 0, 1)), (30, (.iload_n 1, 1)), (31, (.invokevirtual 116, 3)), (34, (.invokevirtual 107, 3)), (37, (.iinc 1 (-1), 3)), (40, (.goto 7, 3)), (43, (.return_, 1))]
def ce_X3_markPass : List (Nat × (Nat × Option Nat × WP)) := [(113, (2, some 3, wl_X3_isMarked)), (98, (2, some 3, wl_X3_firstSign)), (107, (2, some 3, wl_X3_markSign)), (116, (2, some 3, wl_X3_secondSign))]
set_option maxRecDepth 100000 in
set_option maxHeartbeats 4000000 in
theorem ct_X3_markPass (l : Launch) : Con l wX yX3_markPass cX3_markPass 2 none 3 wl_X3_markPass := by
  refine sxm_ok l (ft := lkp ft_RX3) (c32 := lkp c32_RX3) (c64 := lkp c64_RX3) (ce := lkp ce_X3_markPass) (sf := lkp sf_RX3) (lab := lkp [(7, [0, 1])]) (T := tb_X3_markPass) (by decide +kernel) ft_RX3_ok c32_RX3_ok c64_RX3_ok (fun x q h => (show ∀ q ∈ ce_X3_markPass, ceOK l wX RX3 3 q.1 q.2.1 q.2.2.1 q.2.2.2 from List.forall_mem_cons.mpr ⟨Or.inr (Or.inr (Or.inr ⟨yX3_isMarked, cX3_isMarked, 2, (some .boolean), 1, ct_X3_isMarked l, by decide, by decide, mi_X3_isMarked.1, mi_X3_isMarked.2, ml_RX3_113, mv_X3_isMarked.1, mv_X3_isMarked.2, ⟨_, _, rfl⟩, by decide, by decide +kernel⟩)), List.forall_mem_cons.mpr ⟨Or.inr (Or.inr (Or.inr ⟨yX3_firstSign, cX3_firstSign, 2, (some .int), 1, ct_X3_firstSign l, by decide, by decide, mi_X3_firstSign.1, mi_X3_firstSign.2, ml_RX3_98, mv_X3_firstSign.1, mv_X3_firstSign.2, ⟨_, _, rfl⟩, by decide, by decide +kernel⟩)), List.forall_mem_cons.mpr ⟨Or.inr (Or.inr (Or.inr ⟨yX3_markSign, cX3_markSign, 2, none, 2, ct_X3_markSign l, by decide, by decide, mi_X3_markSign.1, mi_X3_markSign.2, ml_RX3_107, mv_X3_markSign.1, mv_X3_markSign.2, ⟨_, _, rfl⟩, by decide, by decide +kernel⟩)), List.forall_mem_cons.mpr ⟨Or.inr (Or.inr (Or.inr ⟨yX3_secondSign, cX3_secondSign, 2, (some .int), 1, ct_X3_secondSign l, by decide, by decide, mi_X3_secondSign.1, mi_X3_secondSign.2, ml_RX3_116, mv_X3_secondSign.1, mv_X3_secondSign.2, ⟨_, _, rfl⟩, by decide, by decide +kernel⟩)), fun _ h => absurd h List.not_mem_nil⟩⟩⟩⟩) (x, q) (lkp_mem h)) sf_RX3_ok (by decide +kernel) 400 (fun As σ Q h => ?_)
  replace h := p1r_e h
  obtain ⟨z0, q0, rfl, h⟩ := h
  replace h := onB_e h
  obtain ⟨e0, h⟩ := h
  have e0 := Nat.eq_of_beq_eq_true e0
  subst e0
  replace h := onB_e h
  obtain ⟨e9, h⟩ := h
  have e9 := List.isEmpty_iff.mp e9
  subst e9
  refine ⟨Nat.le_of_ble_eq_true rfl, fun P hP => ?_⟩
  exact h (fun x1 τ => P 7 [.ref 1, .int x1] τ) (fun x1 τ hb => hP 7 [.ref 1, .int x1] τ hb)
def wp_X8_renewFrom (x1 : Nat) (σ : Sg) (Q : Sg → Prop) : Prop :=
  ∀ L14 : Int32 → Int32 → Sg → Prop,
  (∀ (x2 : Int32) (x3 : Int32) (τ : Sg), wp_X3_choicesInAll τ (fun r1 => ((x3 < r1 → ((((x2 >>> (x3 &&& 31)) &&& (1 : Int32)) = (1 : Int32) → wp_X3_stateAfter x3 τ (fun r2 => onB (isK wX x1 7) (wp_X7_put x1 r2 τ (fun s3 => L14 x2 (x3 + (1 : Int32)) s3)))) ∧ (¬ ((x2 >>> (x3 &&& 31)) &&& (1 : Int32)) = (1 : Int32) → L14 x2 (x3 + (1 : Int32)) τ))) ∧ (¬ x3 < r1 → Q τ))) → L14 x2 x3 τ) →
  onB (isK wX x1 7) (wp_X7_becomeEmpty x1 σ (fun s4 => wp_X3_rightLanes s4 (fun r5 => L14 r5 (0 : Int32) s4)))
def wl_X8_renewFrom : WP := fun As σ Q => p1r As (fun z0 r0 => onB (Nat.beq z0 13) (p1r r0 (fun x1 r1 => onB r1.isEmpty (wp_X8_renewFrom x1 σ (fun τ => Q none τ)))))
def tb_X8_renewFrom : List (Nat × Instr × Nat) := [(0, (.aload_n 1, 1)), (1, (.invokevirtual 51, 3)), (4, (.aload_n 0, 1)), (5, (.getfield 47, 3)), (8, (.invokevirtual 78, 3)), (11, (.istore_n 2, 1)), (12, (.iconst 0, 1)), (13, (.istore_n 3, 1)), (14, (.iload_n 3, 1)), (15, (.aload_n 0, 1)), (16, (.getfield 47, 3)), (19, (.invokevirtual 81, 3)), (22, (.if_icmp .ge 52, 3)), (25, (.iload_n 2, 1)), (26, (.iload_n 3, 1)), (27, (.ishr, 1)), (28, (.iconst 1, 1)), (29, (.iand, 1)), (30, (.iconst 1, 1)), (31, (.if_icmp .ne 46, 3)), (34, (.aload_n 1, 1)), (35, (.aload_n 0, 1)), (36, (.getfield 47, 3)), (39, (.iload_n 3, 1)), (40, (.invokevirtual 84, 3)), (43, (.invokevirtual 67, 3)), (46, (.iinc 3 1, 3)), (49, (.goto 14, 3)), (52, (.return_, 1))]
def ce_X8_renewFrom : List (Nat × (Nat × Option Nat × WP)) := [(51, (1, some 7, wl_X7_becomeEmpty)), (78, (1, some 3, wl_X3_rightLanes)), (81, (1, some 3, wl_X3_choicesInAll)), (84, (2, some 3, wl_X3_stateAfter)), (67, (2, some 7, wl_X7_put))]
set_option maxRecDepth 100000 in
set_option maxHeartbeats 4000000 in
theorem ct_X8_renewFrom (l : Launch) : Con l wX yX8_renewFrom cX8_renewFrom 4 none 3 wl_X8_renewFrom := by
  refine sxm_ok l (ft := lkp ft_RX8) (c32 := lkp c32_RX8) (c64 := lkp c64_RX8) (ce := lkp ce_X8_renewFrom) (sf := lkp sf_RX8) (lab := lkp [(14, [0, 1, 2, 3])]) (T := tb_X8_renewFrom) (by decide +kernel) ft_RX8_ok c32_RX8_ok c64_RX8_ok (fun x q h => (show ∀ q ∈ ce_X8_renewFrom, ceOK l wX RX8 3 q.1 q.2.1 q.2.2.1 q.2.2.2 from List.forall_mem_cons.mpr ⟨Or.inr (Or.inr (Or.inr ⟨yX7_becomeEmpty, cX7_becomeEmpty, 1, none, 1, ct_X7_becomeEmpty l, by decide, by decide, mi_X7_becomeEmpty.1, mi_X7_becomeEmpty.2, ml_RX8_51, mv_X7_becomeEmpty.1, mv_X7_becomeEmpty.2, ⟨_, _, rfl⟩, by decide, by decide +kernel⟩)), List.forall_mem_cons.mpr ⟨Or.inr (Or.inr (Or.inr ⟨yX3_rightLanes, cX3_rightLanes, 3, (some .int), 1, ct_X3_rightLanes l, by decide, by decide, mi_X3_rightLanes.1, mi_X3_rightLanes.2, ml_RX8_78, mv_X3_rightLanes.1, mv_X3_rightLanes.2, ⟨_, _, rfl⟩, by decide, by decide +kernel⟩)), List.forall_mem_cons.mpr ⟨Or.inr (Or.inr (Or.inr ⟨yX3_choicesInAll, cX3_choicesInAll, 1, (some .int), 0, ct_X3_choicesInAll l, by decide, by decide, mi_X3_choicesInAll.1, mi_X3_choicesInAll.2, ml_RX8_81, mv_X3_choicesInAll.1, mv_X3_choicesInAll.2, ⟨_, _, rfl⟩, by decide, by decide +kernel⟩)), List.forall_mem_cons.mpr ⟨Or.inr (Or.inr (Or.inr ⟨yX3_stateAfter, cX3_stateAfter, 5, (some .int), 2, ct_X3_stateAfter l, by decide, by decide, mi_X3_stateAfter.1, mi_X3_stateAfter.2, ml_RX8_84, mv_X3_stateAfter.1, mv_X3_stateAfter.2, ⟨_, _, rfl⟩, by decide, by decide +kernel⟩)), List.forall_mem_cons.mpr ⟨Or.inr (Or.inr (Or.inr ⟨yX7_put, cX7_put, 2, none, 0, ct_X7_put l, by decide, by decide, mi_X7_put.1, mi_X7_put.2, ml_RX8_67, mv_X7_put.1, mv_X7_put.2, ⟨_, _, rfl⟩, by decide, by decide +kernel⟩)), fun _ h => absurd h List.not_mem_nil⟩⟩⟩⟩⟩) (x, q) (lkp_mem h)) sf_RX8_ok (by decide +kernel) 400 (fun As σ Q h => ?_)
  replace h := p1r_e h
  obtain ⟨z0, q0, rfl, h⟩ := h
  replace h := onB_e h
  obtain ⟨e0, h⟩ := h
  have e0 := Nat.eq_of_beq_eq_true e0
  subst e0
  replace h := p1r_e h
  obtain ⟨x1, q1, rfl, h⟩ := h
  replace h := onB_e h
  obtain ⟨e9, h⟩ := h
  have e9 := List.isEmpty_iff.mp e9
  subst e9
  refine ⟨Nat.le_of_ble_eq_true rfl, fun P hP => ?_⟩
  exact h (fun x2 x3 τ => P 14 [.ref 13, .ref x1, .int x2, .int x3] τ) (fun x2 x3 τ hb => hP 14 [.ref 13, .ref x1, .int x2, .int x3] τ hb)
def wp_X8_reached (x1 : Int32) (σ : Sg) (Q : Nat → Sg → Prop) : Prop :=
  ∀ L8 : Int32 → Int32 → Sg → Prop,
  (∀ (x2 : Int32) (x3 : Int32) (τ : Sg), ((x2 = 0 → Q 20 τ) ∧ (¬ x2 = 0 → ((x3 < x1 → ((x3 < (256 : Int32) → wp_X8_reachOn τ (fun r1 s2 => L8 r1 (x3 + (1 : Int32)) s2)) ∧ (¬ x3 < (256 : Int32) → Q 20 τ))) ∧ (¬ x3 < x1 → Q 20 τ)))) → L8 x2 x3 τ) →
  wp_X8_beginReach σ (fun s3 => L8 (1 : Int32) (0 : Int32) s3)
def wl_X8_reached : WP := fun As σ Q => p1r As (fun z0 r0 => onB (Nat.beq z0 13) (p1i r0 (fun x1 r1 => onB r1.isEmpty (wp_X8_reached x1 σ (fun x τ => Q (some (.ref x)) τ)))))
def tb_X8_reached : List (Nat × Instr × Nat) := [(0, (.aload_n 0, 1)), (1, (.invokevirtual 115, 3)), (4, (.iconst 1, 1)), (5, (.istore_n 2, 1)), (6, (.iconst 0, 1)), (7, (.istore_n 3, 1)), (8, (.iload_n 2, 1)), (9, (.ifCond .eq 35, 3)), (12, (.iload_n 3, 1)), (13, (.iload_n 1, 1)), (14, (.if_icmp .ge 35, 3)), (17, (.iload_n 3, 1)), (18, (.sipush 256, 3)), (21, (.if_icmp .ge 35, 3)), (24, (.aload_n 0, 1)), (25, (.invokevirtual 118, 3)), (28, (.istore_n 2, 1)), (29, (.iinc 3 1, 3)), (32, (.goto 8, 3)), (35, (.aload_n 0, 1)), (36, (.getfield 28, 3)), (39, (.areturn, 1))]
def ce_X8_reached : List (Nat × (Nat × Option Nat × WP)) := [(115, (1, some 8, wl_X8_beginReach)), (118, (1, some 8, wl_X8_reachOn))]
set_option maxRecDepth 100000 in
set_option maxHeartbeats 4000000 in
theorem ct_X8_reached (l : Launch) : Con l wX yX8_reached cX8_reached 4 (some (.object "FrameProver$StateSet")) 3 wl_X8_reached := by
  refine sxm_ok l (ft := lkp ft_RX8) (c32 := lkp c32_RX8) (c64 := lkp c64_RX8) (ce := lkp ce_X8_reached) (sf := lkp sf_RX8) (lab := lkp [(8, [0, 1, 2, 3])]) (T := tb_X8_reached) (by decide +kernel) ft_RX8_ok c32_RX8_ok c64_RX8_ok (fun x q h => (show ∀ q ∈ ce_X8_reached, ceOK l wX RX8 3 q.1 q.2.1 q.2.2.1 q.2.2.2 from List.forall_mem_cons.mpr ⟨Or.inr (Or.inr (Or.inr ⟨yX8_beginReach, cX8_beginReach, 1, none, 2, ct_X8_beginReach l, by decide, by decide, mi_X8_beginReach.1, mi_X8_beginReach.2, ml_RX8_115, mv_X8_beginReach.1, mv_X8_beginReach.2, ⟨_, _, rfl⟩, by decide, by decide +kernel⟩)), List.forall_mem_cons.mpr ⟨Or.inr (Or.inr (Or.inr ⟨yX8_reachOn, cX8_reachOn, 1, (some .boolean), 2, ct_X8_reachOn l, by decide, by decide, mi_X8_reachOn.1, mi_X8_reachOn.2, ml_RX8_118, mv_X8_reachOn.1, mv_X8_reachOn.2, ⟨_, _, rfl⟩, by decide, by decide +kernel⟩)), fun _ h => absurd h List.not_mem_nil⟩⟩) (x, q) (lkp_mem h)) sf_RX8_ok (by decide +kernel) 400 (fun As σ Q h => ?_)
  replace h := p1r_e h
  obtain ⟨z0, q0, rfl, h⟩ := h
  replace h := onB_e h
  obtain ⟨e0, h⟩ := h
  have e0 := Nat.eq_of_beq_eq_true e0
  subst e0
  replace h := p1i_e h
  obtain ⟨x1, q1, rfl, h⟩ := h
  replace h := onB_e h
  obtain ⟨e9, h⟩ := h
  have e9 := List.isEmpty_iff.mp e9
  subst e9
  refine ⟨Nat.le_of_ble_eq_true rfl, fun P hP => ?_⟩
  exact h (fun x2 x3 τ => P 8 [.ref 13, .int x1, .int x2, .int x3] τ) (fun x2 x3 τ hb => hP 8 [.ref 13, .int x1, .int x2, .int x3] τ hb)
def wp_X8_fewestToBad  (σ : Sg) (Q : Int32 → Sg → Prop) : Prop :=
  ∀ L6 : Int32 → Sg → Prop,
  (∀ (x1 : Int32) (τ : Sg), ((x1 < (256 : Int32) → wp_X7_meets 22 18 τ (fun r1 => ((r1 = 0 → wp_X8_reachOn τ (fun r2 s3 => ((r2 = 0 → Q (-1 : Int32) s3) ∧ (¬ r2 = 0 → L6 (x1 + (1 : Int32)) s3)))) ∧ (¬ r1 = 0 → Q x1 τ)))) ∧ (¬ x1 < (256 : Int32) → Q (-1 : Int32) τ)) → L6 x1 τ) →
  wp_X8_beginReach σ (fun s4 => L6 (0 : Int32) s4)
def wl_X8_fewestToBad : WP := fun As σ Q => p1r As (fun z0 r0 => onB (Nat.beq z0 13) (onB r0.isEmpty (wp_X8_fewestToBad  σ (fun x τ => Q (some (.int x)) τ))))
def tb_X8_fewestToBad : List (Nat × Instr × Nat) := [(0, (.aload_n 0, 1)), (1, (.invokevirtual 115, 3)), (4, (.iconst 0, 1)), (5, (.istore_n 1, 1)), (6, (.iload_n 1, 1)), (7, (.sipush 256, 3)), (10, (.if_icmp .ge 44, 3)), (13, (.aload_n 0, 1)), (14, (.getfield 31, 3)), (17, (.aload_n 0, 1)), (18, (.getfield 25, 3)), (21, (.invokevirtual 122, 3)), (24, (.ifCond .eq 29, 3)), (27, (.iload_n 1, 1)), (28, (.ireturn, 1)), (29, (.aload_n 0, 1)), (30, (.invokevirtual 118, 3)), (33, (.ifCond .ne 38, 3)), (36, (.iconst (-1), 1)), (37, (.ireturn, 1)), (38, (.iinc 1 1, 3)), (41, (.goto 6, 3)), (44, (.iconst (-1), 1)), (45, (.ireturn, 1))]
def ce_X8_fewestToBad : List (Nat × (Nat × Option Nat × WP)) := [(115, (1, some 8, wl_X8_beginReach)), (122, (2, some 7, wl_X7_meets)), (118, (1, some 8, wl_X8_reachOn))]
set_option maxRecDepth 100000 in
set_option maxHeartbeats 4000000 in
theorem ct_X8_fewestToBad (l : Launch) : Con l wX yX8_fewestToBad cX8_fewestToBad 2 (some .int) 3 wl_X8_fewestToBad := by
  refine sxm_ok l (ft := lkp ft_RX8) (c32 := lkp c32_RX8) (c64 := lkp c64_RX8) (ce := lkp ce_X8_fewestToBad) (sf := lkp sf_RX8) (lab := lkp [(6, [0, 1])]) (T := tb_X8_fewestToBad) (by decide +kernel) ft_RX8_ok c32_RX8_ok c64_RX8_ok (fun x q h => (show ∀ q ∈ ce_X8_fewestToBad, ceOK l wX RX8 3 q.1 q.2.1 q.2.2.1 q.2.2.2 from List.forall_mem_cons.mpr ⟨Or.inr (Or.inr (Or.inr ⟨yX8_beginReach, cX8_beginReach, 1, none, 2, ct_X8_beginReach l, by decide, by decide, mi_X8_beginReach.1, mi_X8_beginReach.2, ml_RX8_115, mv_X8_beginReach.1, mv_X8_beginReach.2, ⟨_, _, rfl⟩, by decide, by decide +kernel⟩)), List.forall_mem_cons.mpr ⟨Or.inr (Or.inr (Or.inr ⟨yX7_meets, cX7_meets, 5, (some .boolean), 0, ct_X7_meets l, by decide, by decide, mi_X7_meets.1, mi_X7_meets.2, ml_RX8_122, mv_X7_meets.1, mv_X7_meets.2, ⟨_, _, rfl⟩, by decide, by decide +kernel⟩)), List.forall_mem_cons.mpr ⟨Or.inr (Or.inr (Or.inr ⟨yX8_reachOn, cX8_reachOn, 1, (some .boolean), 2, ct_X8_reachOn l, by decide, by decide, mi_X8_reachOn.1, mi_X8_reachOn.2, ml_RX8_118, mv_X8_reachOn.1, mv_X8_reachOn.2, ⟨_, _, rfl⟩, by decide, by decide +kernel⟩)), fun _ h => absurd h List.not_mem_nil⟩⟩⟩) (x, q) (lkp_mem h)) sf_RX8_ok (by decide +kernel) 400 (fun As σ Q h => ?_)
  replace h := p1r_e h
  obtain ⟨z0, q0, rfl, h⟩ := h
  replace h := onB_e h
  obtain ⟨e0, h⟩ := h
  have e0 := Nat.eq_of_beq_eq_true e0
  subst e0
  replace h := onB_e h
  obtain ⟨e9, h⟩ := h
  have e9 := List.isEmpty_iff.mp e9
  subst e9
  refine ⟨Nat.le_of_ble_eq_true rfl, fun P hP => ?_⟩
  exact h (fun x1 τ => P 6 [.ref 13, .int x1] τ) (fun x1 τ hb => hP 6 [.ref 13, .int x1] τ hb)
def wp_X8_isInCircle (x1 : Int32) (σ : Sg) (Q : Int32 → Sg → Prop) : Prop :=
  ∀ L2 : Int32 → Sg → Prop,
  ∀ L52 : Int32 → Int32 → Int32 → Sg → Prop,
  (∀ (x2 : Int32) (τ : Sg), wp_X3_states τ (fun r1 => ((x2 < r1 → wp_X7_has 26 x2 τ (fun r2 => ((r2 = 0 → L2 (x2 + (1 : Int32)) τ) ∧ (¬ r2 = 0 → wp_X3_evaluate x2 τ (fun s3 => wp_X3_rightLanes s3 (fun r4 => wp_X3_signLanes x1 s3 (fun r5 => L52 x2 (r4 &&& r5) (0 : Int32) s3))))))) ∧ (¬ x2 < r1 → (nz (0 : Int32) ∧ Q (0 : Int32) τ)))) → L2 x2 τ) →
  (∀ (x2 : Int32) (x3 : Int32) (x4 : Int32) (τ : Sg), wp_X3_choicesInAll τ (fun r6 => ((x4 < r6 → ((((x3 >>> (x4 &&& 31)) &&& (1 : Int32)) = (1 : Int32) → wp_X3_stateAfter x4 τ (fun r7 => wp_X7_has 26 r7 τ (fun r8 => ((r8 = 0 → L52 x2 x3 (x4 + (1 : Int32)) τ) ∧ (¬ r8 = 0 → (nz (1 : Int32) ∧ Q (1 : Int32) τ)))))) ∧ (¬ ((x3 >>> (x4 &&& 31)) &&& (1 : Int32)) = (1 : Int32) → L52 x2 x3 (x4 + (1 : Int32)) τ))) ∧ (¬ x4 < r6 → L2 (x2 + (1 : Int32)) τ))) → L52 x2 x3 x4 τ) →
  L2 (0 : Int32) σ
def wl_X8_isInCircle : WP := fun As σ Q => p1r As (fun z0 r0 => onB (Nat.beq z0 13) (p1i r0 (fun x1 r1 => onB r1.isEmpty (wp_X8_isInCircle x1 σ (fun x τ => Q (some (.int x)) τ)))))
def tb_X8_isInCircle : List (Nat × Instr × Nat) := [(0, (.iconst 0, 1)), (1, (.istore_n 2, 1)), (2, (.iload_n 2, 1)), (3, (.aload_n 0, 1)), (4, (.getfield 47, 3)), (7, (.invokevirtual 54, 3)), (10, (.if_icmp .ge 107, 3)), (13, (.aload_n 0, 1)), (14, (.getfield 37, 3)), (17, (.iload_n 2, 1)), (18, (.invokevirtual 88, 3)), (21, (.ifCond .eq 101, 3)), (24, (.aload_n 0, 1)), (25, (.getfield 47, 3)), (28, (.iload_n 2, 1)), (29, (.invokevirtual 60, 3)), (32, (.aload_n 0, 1)), (33, (.getfield 47, 3)), (36, (.invokevirtual 78, 3)), (39, (.aload_n 0, 1)), (40, (.getfield 47, 3)), (43, (.iload_n 1, 1)), (44, (.invokevirtual 155, 3)), (47, (.iand, 1)), (48, (.istore_n 3, 1)), (49, (.iconst 0, 1)), (50, (.istore 4, 2)), (52, (.iload 4, 2)), (54, (.aload_n 0, 1)), (55, (.getfield 47, 3)), (58, (.invokevirtual 81, 3)), (61, (.if_icmp .ge 101, 3)), (64, (.iload_n 3, 1)), (65, (.iload 4, 2)), (67, (.ishr, 1)), (68, (.iconst 1, 1)), (69, (.iand, 1)), (70, (.iconst 1, 1)), (71, (.if_icmp .ne 95, 3)), (74, (.aload_n 0, 1)), (75, (.getfield 37, 3)), (78, (.aload_n 0, 1)), (79, (.getfield 47, 3)), (82, (.iload 4, 2)), (84, (.invokevirtual 84, 3)), (87, (.invokevirtual 88, 3)), (90, (.ifCond .eq 95, 3)), (93, (.iconst 1, 1)), (94, (.ireturn, 1)), (95, (.iinc 4 1, 3)), (98, (.goto 52, 3)), (101, (.iinc 2 1, 3)), (104, (.goto 2, 3)), (107, (.iconst 0, 1)), (108, (.ireturn, 1))]
def ce_X8_isInCircle : List (Nat × (Nat × Option Nat × WP)) := [(54, (1, some 3, wl_X3_states)), (88, (2, some 7, wl_X7_has)), (60, (2, some 3, wl_X3_evaluate)), (78, (1, some 3, wl_X3_rightLanes)), (155, (2, some 3, wl_X3_signLanes)), (81, (1, some 3, wl_X3_choicesInAll)), (84, (2, some 3, wl_X3_stateAfter))]
set_option maxRecDepth 100000 in
set_option maxHeartbeats 4000000 in
theorem ct_X8_isInCircle (l : Launch) : Con l wX yX8_isInCircle cX8_isInCircle 5 (some .boolean) 3 wl_X8_isInCircle := by
  refine sxm_ok l (ft := lkp ft_RX8) (c32 := lkp c32_RX8) (c64 := lkp c64_RX8) (ce := lkp ce_X8_isInCircle) (sf := lkp sf_RX8) (lab := lkp [(2, [0, 1, 2]), (52, [0, 1, 2, 3, 4])]) (T := tb_X8_isInCircle) (by decide +kernel) ft_RX8_ok c32_RX8_ok c64_RX8_ok (fun x q h => (show ∀ q ∈ ce_X8_isInCircle, ceOK l wX RX8 3 q.1 q.2.1 q.2.2.1 q.2.2.2 from List.forall_mem_cons.mpr ⟨Or.inr (Or.inr (Or.inr ⟨yX3_states, cX3_states, 1, (some .int), 0, ct_X3_states l, by decide, by decide, mi_X3_states.1, mi_X3_states.2, ml_RX8_54, mv_X3_states.1, mv_X3_states.2, ⟨_, _, rfl⟩, by decide, by decide +kernel⟩)), List.forall_mem_cons.mpr ⟨Or.inr (Or.inr (Or.inr ⟨yX7_has, cX7_has, 2, (some .boolean), 0, ct_X7_has l, by decide, by decide, mi_X7_has.1, mi_X7_has.2, ml_RX8_88, mv_X7_has.1, mv_X7_has.2, ⟨_, _, rfl⟩, by decide, by decide +kernel⟩)), List.forall_mem_cons.mpr ⟨Or.inr (Or.inr (Or.inr ⟨yX3_evaluate, cX3_evaluate, 3, none, 2, ct_X3_evaluate l, by decide, by decide, mi_X3_evaluate.1, mi_X3_evaluate.2, ml_RX8_60, mv_X3_evaluate.1, mv_X3_evaluate.2, ⟨_, _, rfl⟩, by decide, by decide +kernel⟩)), List.forall_mem_cons.mpr ⟨Or.inr (Or.inr (Or.inr ⟨yX3_rightLanes, cX3_rightLanes, 3, (some .int), 1, ct_X3_rightLanes l, by decide, by decide, mi_X3_rightLanes.1, mi_X3_rightLanes.2, ml_RX8_78, mv_X3_rightLanes.1, mv_X3_rightLanes.2, ⟨_, _, rfl⟩, by decide, by decide +kernel⟩)), List.forall_mem_cons.mpr ⟨Or.inr (Or.inr (Or.inr ⟨yX3_signLanes, cX3_signLanes, 3, (some .int), 0, ct_X3_signLanes l, by decide, by decide, mi_X3_signLanes.1, mi_X3_signLanes.2, ml_RX8_155, mv_X3_signLanes.1, mv_X3_signLanes.2, ⟨_, _, rfl⟩, by decide, by decide +kernel⟩)), List.forall_mem_cons.mpr ⟨Or.inr (Or.inr (Or.inr ⟨yX3_choicesInAll, cX3_choicesInAll, 1, (some .int), 0, ct_X3_choicesInAll l, by decide, by decide, mi_X3_choicesInAll.1, mi_X3_choicesInAll.2, ml_RX8_81, mv_X3_choicesInAll.1, mv_X3_choicesInAll.2, ⟨_, _, rfl⟩, by decide, by decide +kernel⟩)), List.forall_mem_cons.mpr ⟨Or.inr (Or.inr (Or.inr ⟨yX3_stateAfter, cX3_stateAfter, 5, (some .int), 2, ct_X3_stateAfter l, by decide, by decide, mi_X3_stateAfter.1, mi_X3_stateAfter.2, ml_RX8_84, mv_X3_stateAfter.1, mv_X3_stateAfter.2, ⟨_, _, rfl⟩, by decide, by decide +kernel⟩)), fun _ h => absurd h List.not_mem_nil⟩⟩⟩⟩⟩⟩⟩) (x, q) (lkp_mem h)) sf_RX8_ok (by decide +kernel) 400 (fun As σ Q h => ?_)
  replace h := p1r_e h
  obtain ⟨z0, q0, rfl, h⟩ := h
  replace h := onB_e h
  obtain ⟨e0, h⟩ := h
  have e0 := Nat.eq_of_beq_eq_true e0
  subst e0
  replace h := p1i_e h
  obtain ⟨x1, q1, rfl, h⟩ := h
  replace h := onB_e h
  obtain ⟨e9, h⟩ := h
  have e9 := List.isEmpty_iff.mp e9
  subst e9
  refine ⟨Nat.le_of_ble_eq_true rfl, fun P hP => ?_⟩
  exact h (fun x2 τ => P 2 [.ref 13, .int x1, .int x2] τ) (fun x2 x3 x4 τ => P 52 [.ref 13, .int x1, .int x2, .int x3, .int x4] τ) (fun x2 τ hb => hP 2 [.ref 13, .int x1, .int x2] τ hb) (fun x2 x3 x4 τ hb => hP 52 [.ref 13, .int x1, .int x2, .int x3, .int x4] τ hb)
def wp_X9_step (x1 : Int32) (σ : Sg) (Q : Int32 → Sg → Prop) : Prop :=
  wp_X3_hasChoices x1 σ (fun r1 => ((r1 = 0 → wp_X9_refuse (-3 : Int32) σ (fun r2 s3 => Q r2 s3)) ∧ (¬ r1 = 0 → wp_X3_evaluate (gI σ 0 8) σ (fun s4 => wp_X3_isRight x1 s4 (fun r5 => ((r5 = 0 → wp_X9_refuse (-7 : Int32) s4 (fun r6 s7 => Q r6 s7)) ∧ (¬ r5 = 0 → wp_X3_stateAfter x1 s4 (fun r8 => Q (gI (sI s4 0 8 r8) 0 8) (sI s4 0 8 r8)))))))))
def wl_X9_step : WP := fun As σ Q => p1r As (fun z0 r0 => onB (Nat.beq z0 0) (p1i r0 (fun x1 r1 => onB r1.isEmpty (wp_X9_step x1 σ (fun x τ => Q (some (.int x)) τ)))))
def tb_X9_step : List (Nat × Instr × Nat) := [(0, (.aload_n 0, 1)), (1, (.getfield 10, 3)), (4, (.iload_n 1, 1)), (5, (.invokevirtual 154, 3)), (8, (.ifCond .ne 18, 3)), (11, (.aload_n 0, 1)), (12, (.bipush (-3), 2)), (14, (.invokevirtual 83, 3)), (17, (.ireturn, 1)), (18, (.aload_n 0, 1)), (19, (.getfield 10, 3)), (22, (.aload_n 0, 1)), (23, (.getfield 151, 3)), (26, (.invokevirtual 157, 3)), (29, (.aload_n 0, 1)), (30, (.getfield 10, 3)), (33, (.iload_n 1, 1)), (34, (.invokevirtual 160, 3)), (37, (.ifCond .ne 47, 3)), (40, (.aload_n 0, 1)), (41, (.bipush (-7), 2)), (43, (.invokevirtual 83, 3)), (46, (.ireturn, 1)), (47, (.aload_n 0, 1)), (48, (.aload_n 0, 1)), (49, (.getfield 10, 3)), (52, (.iload_n 1, 1)), (53, (.invokevirtual 163, 3)), (56, (.putfield 151, 3)), (59, (.aload_n 0, 1)), (60, (.getfield 151, 3)), (63, (.ireturn, 1))]
def ce_X9_step : List (Nat × (Nat × Option Nat × WP)) := [(154, (2, some 3, wl_X3_hasChoices)), (83, (2, some 9, wl_X9_refuse)), (157, (2, some 3, wl_X3_evaluate)), (160, (2, some 3, wl_X3_isRight)), (163, (2, some 3, wl_X3_stateAfter))]
set_option maxRecDepth 100000 in
set_option maxHeartbeats 4000000 in
theorem ct_X9_step (l : Launch) : Con l wX yX9_step cX9_step 2 (some .int) 3 wl_X9_step := by
  refine sxm_ok l (ft := lkp ft_RX9) (c32 := lkp c32_RX9) (c64 := lkp c64_RX9) (ce := lkp ce_X9_step) (sf := lkp sf_RX9) (lab := lkp []) (T := tb_X9_step) (by decide +kernel) ft_RX9_ok c32_RX9_ok c64_RX9_ok (fun x q h => (show ∀ q ∈ ce_X9_step, ceOK l wX RX9 3 q.1 q.2.1 q.2.2.1 q.2.2.2 from List.forall_mem_cons.mpr ⟨Or.inr (Or.inr (Or.inr ⟨yX3_hasChoices, cX3_hasChoices, 2, (some .boolean), 1, ct_X3_hasChoices l, by decide, by decide, mi_X3_hasChoices.1, mi_X3_hasChoices.2, ml_RX9_154, mv_X3_hasChoices.1, mv_X3_hasChoices.2, ⟨_, _, rfl⟩, by decide, by decide +kernel⟩)), List.forall_mem_cons.mpr ⟨Or.inr (Or.inr (Or.inr ⟨yX9_refuse, cX9_refuse, 2, (some .int), 0, ct_X9_refuse l, by decide, by decide, mi_X9_refuse.1, mi_X9_refuse.2, ml_RX9_83, mv_X9_refuse.1, mv_X9_refuse.2, ⟨_, _, rfl⟩, by decide, by decide +kernel⟩)), List.forall_mem_cons.mpr ⟨Or.inr (Or.inr (Or.inr ⟨yX3_evaluate, cX3_evaluate, 3, none, 2, ct_X3_evaluate l, by decide, by decide, mi_X3_evaluate.1, mi_X3_evaluate.2, ml_RX9_157, mv_X3_evaluate.1, mv_X3_evaluate.2, ⟨_, _, rfl⟩, by decide, by decide +kernel⟩)), List.forall_mem_cons.mpr ⟨Or.inr (Or.inr (Or.inr ⟨yX3_isRight, cX3_isRight, 2, (some .boolean), 2, ct_X3_isRight l, by decide, by decide, mi_X3_isRight.1, mi_X3_isRight.2, ml_RX9_160, mv_X3_isRight.1, mv_X3_isRight.2, ⟨_, _, rfl⟩, by decide, by decide +kernel⟩)), List.forall_mem_cons.mpr ⟨Or.inr (Or.inr (Or.inr ⟨yX3_stateAfter, cX3_stateAfter, 5, (some .int), 2, ct_X3_stateAfter l, by decide, by decide, mi_X3_stateAfter.1, mi_X3_stateAfter.2, ml_RX9_163, mv_X3_stateAfter.1, mv_X3_stateAfter.2, ⟨_, _, rfl⟩, by decide, by decide +kernel⟩)), fun _ h => absurd h List.not_mem_nil⟩⟩⟩⟩⟩) (x, q) (lkp_mem h)) sf_RX9_ok (by decide +kernel) 400 (fun As σ Q h => ?_)
  replace h := p1r_e h
  obtain ⟨z0, q0, rfl, h⟩ := h
  replace h := onB_e h
  obtain ⟨e0, h⟩ := h
  have e0 := Nat.eq_of_beq_eq_true e0
  subst e0
  replace h := p1i_e h
  obtain ⟨x1, q1, rfl, h⟩ := h
  replace h := onB_e h
  obtain ⟨e9, h⟩ := h
  have e9 := List.isEmpty_iff.mp e9
  subst e9
  refine ⟨Nat.le_of_ble_eq_true rfl, fun P hP => ?_⟩
  exact h 
def wp_X9_value (x1 : Int32) (x2 : Int32) (σ : Sg) (Q : Int32 → Sg → Prop) : Prop :=
  wp_X3_hasSign x1 σ (fun r1 => ((r1 = 0 → wp_X9_refuse (-3 : Int32) σ (fun r2 s3 => Q r2 s3)) ∧ (¬ r1 = 0 → wp_X3_hasChoices x2 σ (fun r4 => ((r4 = 0 → wp_X9_refuse (-3 : Int32) σ (fun r5 s6 => Q r5 s6)) ∧ (¬ r4 = 0 → wp_X3_evaluate (gI σ 0 8) σ (fun s7 => wp_X3_signLanes x1 s7 (fun r8 => Q ((r8 >>> (x2 &&& 31)) &&& (1 : Int32)) s7))))))))
def wl_X9_value : WP := fun As σ Q => p1r As (fun z0 r0 => onB (Nat.beq z0 0) (p1i r0 (fun x1 r1 => p1i r1 (fun x2 r2 => onB r2.isEmpty (wp_X9_value x1 x2 σ (fun x τ => Q (some (.int x)) τ))))))
def tb_X9_value : List (Nat × Instr × Nat) := [(0, (.aload_n 0, 1)), (1, (.getfield 10, 3)), (4, (.iload_n 1, 1)), (5, (.invokevirtual 98, 3)), (8, (.ifCond .eq 22, 3)), (11, (.aload_n 0, 1)), (12, (.getfield 10, 3)), (15, (.iload_n 2, 1)), (16, (.invokevirtual 154, 3)), (19, (.ifCond .ne 29, 3)), (22, (.aload_n 0, 1)), (23, (.bipush (-3), 2)), (25, (.invokevirtual 83, 3)), (28, (.ireturn, 1)), (29, (.aload_n 0, 1)), (30, (.getfield 10, 3)), (33, (.aload_n 0, 1)), (34, (.getfield 151, 3)), (37, (.invokevirtual 157, 3)), (40, (.aload_n 0, 1)), (41, (.getfield 10, 3)), (44, (.iload_n 1, 1)), (45, (.invokevirtual 166, 3)), (48, (.iload_n 2, 1)), (49, (.ishr, 1)), (50, (.iconst 1, 1)), (51, (.iand, 1)), (52, (.ireturn, 1))]
def ce_X9_value : List (Nat × (Nat × Option Nat × WP)) := [(98, (2, some 3, wl_X3_hasSign)), (154, (2, some 3, wl_X3_hasChoices)), (83, (2, some 9, wl_X9_refuse)), (157, (2, some 3, wl_X3_evaluate)), (166, (2, some 3, wl_X3_signLanes))]
set_option maxRecDepth 100000 in
set_option maxHeartbeats 4000000 in
theorem ct_X9_value (l : Launch) : Con l wX yX9_value cX9_value 3 (some .int) 3 wl_X9_value := by
  refine sxm_ok l (ft := lkp ft_RX9) (c32 := lkp c32_RX9) (c64 := lkp c64_RX9) (ce := lkp ce_X9_value) (sf := lkp sf_RX9) (lab := lkp []) (T := tb_X9_value) (by decide +kernel) ft_RX9_ok c32_RX9_ok c64_RX9_ok (fun x q h => (show ∀ q ∈ ce_X9_value, ceOK l wX RX9 3 q.1 q.2.1 q.2.2.1 q.2.2.2 from List.forall_mem_cons.mpr ⟨Or.inr (Or.inr (Or.inr ⟨yX3_hasSign, cX3_hasSign, 2, (some .boolean), 1, ct_X3_hasSign l, by decide, by decide, mi_X3_hasSign.1, mi_X3_hasSign.2, ml_RX9_98, mv_X3_hasSign.1, mv_X3_hasSign.2, ⟨_, _, rfl⟩, by decide, by decide +kernel⟩)), List.forall_mem_cons.mpr ⟨Or.inr (Or.inr (Or.inr ⟨yX3_hasChoices, cX3_hasChoices, 2, (some .boolean), 1, ct_X3_hasChoices l, by decide, by decide, mi_X3_hasChoices.1, mi_X3_hasChoices.2, ml_RX9_154, mv_X3_hasChoices.1, mv_X3_hasChoices.2, ⟨_, _, rfl⟩, by decide, by decide +kernel⟩)), List.forall_mem_cons.mpr ⟨Or.inr (Or.inr (Or.inr ⟨yX9_refuse, cX9_refuse, 2, (some .int), 0, ct_X9_refuse l, by decide, by decide, mi_X9_refuse.1, mi_X9_refuse.2, ml_RX9_83, mv_X9_refuse.1, mv_X9_refuse.2, ⟨_, _, rfl⟩, by decide, by decide +kernel⟩)), List.forall_mem_cons.mpr ⟨Or.inr (Or.inr (Or.inr ⟨yX3_evaluate, cX3_evaluate, 3, none, 2, ct_X3_evaluate l, by decide, by decide, mi_X3_evaluate.1, mi_X3_evaluate.2, ml_RX9_157, mv_X3_evaluate.1, mv_X3_evaluate.2, ⟨_, _, rfl⟩, by decide, by decide +kernel⟩)), List.forall_mem_cons.mpr ⟨Or.inr (Or.inr (Or.inr ⟨yX3_signLanes, cX3_signLanes, 3, (some .int), 0, ct_X3_signLanes l, by decide, by decide, mi_X3_signLanes.1, mi_X3_signLanes.2, ml_RX9_166, mv_X3_signLanes.1, mv_X3_signLanes.2, ⟨_, _, rfl⟩, by decide, by decide +kernel⟩)), fun _ h => absurd h List.not_mem_nil⟩⟩⟩⟩⟩) (x, q) (lkp_mem h)) sf_RX9_ok (by decide +kernel) 400 (fun As σ Q h => ?_)
  replace h := p1r_e h
  obtain ⟨z0, q0, rfl, h⟩ := h
  replace h := onB_e h
  obtain ⟨e0, h⟩ := h
  have e0 := Nat.eq_of_beq_eq_true e0
  subst e0
  replace h := p1i_e h
  obtain ⟨x1, q1, rfl, h⟩ := h
  replace h := p1i_e h
  obtain ⟨x2, q2, rfl, h⟩ := h
  replace h := onB_e h
  obtain ⟨e9, h⟩ := h
  have e9 := List.isEmpty_iff.mp e9
  subst e9
  refine ⟨Nat.le_of_ble_eq_true rfl, fun P hP => ?_⟩
  exact h 
def wp_X9_at (x1 : Int32) (x2 : Int32) (x3 : Int32) (σ : Sg) (Q : Int32 → Sg → Prop) : Prop :=
  wp_X3_hasState x1 σ (fun r1 => ((r1 = 0 → wp_X9_refuse (-3 : Int32) σ (fun r2 s3 => Q r2 s3)) ∧ (¬ r1 = 0 → wp_X3_hasChoices x2 σ (fun r4 => ((r4 = 0 → wp_X9_refuse (-3 : Int32) σ (fun r5 s6 => Q r5 s6)) ∧ (¬ r4 = 0 → wp_X3_evaluate x1 σ (fun s7 => ((x3 = (0 : Int32) → wp_X3_isRight x2 s7 (fun r12 => ((r12 = 0 → Q (-1 : Int32) s7) ∧ (¬ r12 = 0 → wp_X3_stateAfter x2 s7 (fun r13 => Q r13 s7))))) ∧ (¬ x3 = (0 : Int32) → ((x3 = (1 : Int32) → wp_X3_rightLanes s7 (fun r11 => Q ((r11 >>> (x2 &&& 31)) &&& (1 : Int32)) s7)) ∧ (¬ x3 = (1 : Int32) → ((x3 = (2 : Int32) → wp_X3_badLanes s7 (fun r10 => Q ((r10 >>> (x2 &&& 31)) &&& (1 : Int32)) s7)) ∧ (¬ x3 = (2 : Int32) → wp_X9_refuse (-7 : Int32) s7 (fun r8 s9 => Q r8 s9))))))))))))))
def wl_X9_at : WP := fun As σ Q => p1r As (fun z0 r0 => onB (Nat.beq z0 0) (p1i r0 (fun x1 r1 => p1i r1 (fun x2 r2 => p1i r2 (fun x3 r3 => onB r3.isEmpty (wp_X9_at x1 x2 x3 σ (fun x τ => Q (some (.int x)) τ)))))))
def tb_X9_at : List (Nat × Instr × Nat) := [(0, (.aload_n 0, 1)), (1, (.getfield 10, 3)), (4, (.iload_n 1, 1)), (5, (.invokevirtual 169, 3)), (8, (.ifCond .eq 22, 3)), (11, (.aload_n 0, 1)), (12, (.getfield 10, 3)), (15, (.iload_n 2, 1)), (16, (.invokevirtual 154, 3)), (19, (.ifCond .ne 29, 3)), (22, (.aload_n 0, 1)), (23, (.bipush (-3), 2)), (25, (.invokevirtual 83, 3)), (28, (.ireturn, 1)), (29, (.aload_n 0, 1)), (30, (.getfield 10, 3)), (33, (.iload_n 1, 1)), (34, (.invokevirtual 157, 3)), (37, (.iload_n 3, 1)), (38, (.tableswitch 74 0 2 #[26, 50, 62], 26)), (64, (.aload_n 0, 1)), (65, (.getfield 10, 3)), (68, (.iload_n 2, 1)), (69, (.invokevirtual 160, 3)), (72, (.ifCond .eq 86, 3)), (75, (.aload_n 0, 1)), (76, (.getfield 10, 3)), (79, (.iload_n 2, 1)), (80, (.invokevirtual 163, 3)), (83, (.goto 87, 3)), (86, (.iconst (-1), 1)), (87, (.ireturn, 1)), (88, (.aload_n 0, 1)), (89, (.getfield 10, 3)), (92, (.invokevirtual 172, 3)), (95, (.iload_n 2, 1)), (96, (.ishr, 1)), (97, (.iconst 1, 1)), (98, (.iand, 1)), (99, (.ireturn, 1)), (100, (.aload_n 0, 1)), (101, (.getfield 10, 3)), (104, (.invokevirtual 175, 3)), (107, (.iload_n 2, 1)), (108, (.ishr, 1)), (109, (.iconst 1, 1)), (110, (.iand, 1)), (111, (.ireturn, 1)), (112, (.aload_n 0, 1)), (113, (.bipush (-7), 2)), (115, (.invokevirtual 83, 3)), (118, (.ireturn, 1))]
def ce_X9_at : List (Nat × (Nat × Option Nat × WP)) := [(169, (2, some 3, wl_X3_hasState)), (154, (2, some 3, wl_X3_hasChoices)), (83, (2, some 9, wl_X9_refuse)), (157, (2, some 3, wl_X3_evaluate)), (160, (2, some 3, wl_X3_isRight)), (163, (2, some 3, wl_X3_stateAfter)), (172, (1, some 3, wl_X3_rightLanes)), (175, (1, some 3, wl_X3_badLanes))]
set_option maxRecDepth 100000 in
set_option maxHeartbeats 4000000 in
theorem ct_X9_at (l : Launch) : Con l wX yX9_at cX9_at 4 (some .int) 3 wl_X9_at := by
  refine sxm_ok l (ft := lkp ft_RX9) (c32 := lkp c32_RX9) (c64 := lkp c64_RX9) (ce := lkp ce_X9_at) (sf := lkp sf_RX9) (lab := lkp []) (T := tb_X9_at) (by decide +kernel) ft_RX9_ok c32_RX9_ok c64_RX9_ok (fun x q h => (show ∀ q ∈ ce_X9_at, ceOK l wX RX9 3 q.1 q.2.1 q.2.2.1 q.2.2.2 from List.forall_mem_cons.mpr ⟨Or.inr (Or.inr (Or.inr ⟨yX3_hasState, cX3_hasState, 2, (some .boolean), 1, ct_X3_hasState l, by decide, by decide, mi_X3_hasState.1, mi_X3_hasState.2, ml_RX9_169, mv_X3_hasState.1, mv_X3_hasState.2, ⟨_, _, rfl⟩, by decide, by decide +kernel⟩)), List.forall_mem_cons.mpr ⟨Or.inr (Or.inr (Or.inr ⟨yX3_hasChoices, cX3_hasChoices, 2, (some .boolean), 1, ct_X3_hasChoices l, by decide, by decide, mi_X3_hasChoices.1, mi_X3_hasChoices.2, ml_RX9_154, mv_X3_hasChoices.1, mv_X3_hasChoices.2, ⟨_, _, rfl⟩, by decide, by decide +kernel⟩)), List.forall_mem_cons.mpr ⟨Or.inr (Or.inr (Or.inr ⟨yX9_refuse, cX9_refuse, 2, (some .int), 0, ct_X9_refuse l, by decide, by decide, mi_X9_refuse.1, mi_X9_refuse.2, ml_RX9_83, mv_X9_refuse.1, mv_X9_refuse.2, ⟨_, _, rfl⟩, by decide, by decide +kernel⟩)), List.forall_mem_cons.mpr ⟨Or.inr (Or.inr (Or.inr ⟨yX3_evaluate, cX3_evaluate, 3, none, 2, ct_X3_evaluate l, by decide, by decide, mi_X3_evaluate.1, mi_X3_evaluate.2, ml_RX9_157, mv_X3_evaluate.1, mv_X3_evaluate.2, ⟨_, _, rfl⟩, by decide, by decide +kernel⟩)), List.forall_mem_cons.mpr ⟨Or.inr (Or.inr (Or.inr ⟨yX3_isRight, cX3_isRight, 2, (some .boolean), 2, ct_X3_isRight l, by decide, by decide, mi_X3_isRight.1, mi_X3_isRight.2, ml_RX9_160, mv_X3_isRight.1, mv_X3_isRight.2, ⟨_, _, rfl⟩, by decide, by decide +kernel⟩)), List.forall_mem_cons.mpr ⟨Or.inr (Or.inr (Or.inr ⟨yX3_stateAfter, cX3_stateAfter, 5, (some .int), 2, ct_X3_stateAfter l, by decide, by decide, mi_X3_stateAfter.1, mi_X3_stateAfter.2, ml_RX9_163, mv_X3_stateAfter.1, mv_X3_stateAfter.2, ⟨_, _, rfl⟩, by decide, by decide +kernel⟩)), List.forall_mem_cons.mpr ⟨Or.inr (Or.inr (Or.inr ⟨yX3_rightLanes, cX3_rightLanes, 3, (some .int), 1, ct_X3_rightLanes l, by decide, by decide, mi_X3_rightLanes.1, mi_X3_rightLanes.2, ml_RX9_172, mv_X3_rightLanes.1, mv_X3_rightLanes.2, ⟨_, _, rfl⟩, by decide, by decide +kernel⟩)), List.forall_mem_cons.mpr ⟨Or.inr (Or.inr (Or.inr ⟨yX3_badLanes, cX3_badLanes, 1, (some .int), 2, ct_X3_badLanes l, by decide, by decide, mi_X3_badLanes.1, mi_X3_badLanes.2, ml_RX9_175, mv_X3_badLanes.1, mv_X3_badLanes.2, ⟨_, _, rfl⟩, by decide, by decide +kernel⟩)), fun _ h => absurd h List.not_mem_nil⟩⟩⟩⟩⟩⟩⟩⟩) (x, q) (lkp_mem h)) sf_RX9_ok (by decide +kernel) 400 (fun As σ Q h => ?_)
  replace h := p1r_e h
  obtain ⟨z0, q0, rfl, h⟩ := h
  replace h := onB_e h
  obtain ⟨e0, h⟩ := h
  have e0 := Nat.eq_of_beq_eq_true e0
  subst e0
  replace h := p1i_e h
  obtain ⟨x1, q1, rfl, h⟩ := h
  replace h := p1i_e h
  obtain ⟨x2, q2, rfl, h⟩ := h
  replace h := p1i_e h
  obtain ⟨x3, q3, rfl, h⟩ := h
  replace h := onB_e h
  obtain ⟨e9, h⟩ := h
  have e9 := List.isEmpty_iff.mp e9
  subst e9
  refine ⟨Nat.le_of_ble_eq_true rfl, fun P hP => ?_⟩
  exact h 
def wp_X9_list (x1 : Int32) (x2 : Int32) (σ : Sg) (Q : Int32 → Sg → Prop) : Prop :=
  wp_X9_isCube x1 x2 σ (fun r1 => ((r1 = 0 → wp_X9_refuse (-7 : Int32) σ (fun r2 s3 => Q r2 s3)) ∧ (¬ r1 = 0 → wp_X9_cubeOf x1 x2 σ (fun r4 => wp_X0_put 1167 r4 σ (fun r5 s6 => ((r5 = 0 → wp_X9_refuse (-8 : Int32) s6 (fun r7 s8 => Q r7 s8)) ∧ (¬ r5 = 0 → Q (gI s6 1167 2) s6)))))))
def wl_X9_list : WP := fun As σ Q => p1r As (fun z0 r0 => onB (Nat.beq z0 0) (p1i r0 (fun x1 r1 => p1i r1 (fun x2 r2 => onB r2.isEmpty (wp_X9_list x1 x2 σ (fun x τ => Q (some (.int x)) τ))))))
def tb_X9_list : List (Nat × Instr × Nat) := [(0, (.aload_n 0, 1)), (1, (.iload_n 1, 1)), (2, (.iload_n 2, 1)), (3, (.invokevirtual 232, 3)), (6, (.ifCond .ne 16, 3)), (9, (.aload_n 0, 1)), (10, (.bipush (-7), 2)), (12, (.invokevirtual 83, 3)), (15, (.ireturn, 1)), (16, (.aload_n 0, 1)), (17, (.getfield 48, 3)), (20, (.iload_n 1, 1)), (21, (.iload_n 2, 1)), (22, (.invokestatic 236, 3)), (25, (.invokevirtual 277, 3)), (28, (.ifCond .ne 38, 3)), (31, (.aload_n 0, 1)), (32, (.bipush (-8), 2)), (34, (.invokevirtual 83, 3)), (37, (.ireturn, 1)), (38, (.aload_n 0, 1)), (39, (.getfield 48, 3)), (42, (.getfield 147, 3)), (45, (.ireturn, 1))]
def ce_X9_list : List (Nat × (Nat × Option Nat × WP)) := [(232, (3, some 9, wl_X9_isCube)), (83, (2, some 9, wl_X9_refuse)), (236, (2, none, wl_X9_cubeOf)), (277, (2, some 0, wl_X0_put))]
set_option maxRecDepth 100000 in
set_option maxHeartbeats 4000000 in
theorem ct_X9_list (l : Launch) : Con l wX yX9_list cX9_list 3 (some .int) 3 wl_X9_list := by
  refine sxm_ok l (ft := lkp ft_RX9) (c32 := lkp c32_RX9) (c64 := lkp c64_RX9) (ce := lkp ce_X9_list) (sf := lkp sf_RX9) (lab := lkp []) (T := tb_X9_list) (by decide +kernel) ft_RX9_ok c32_RX9_ok c64_RX9_ok (fun x q h => (show ∀ q ∈ ce_X9_list, ceOK l wX RX9 3 q.1 q.2.1 q.2.2.1 q.2.2.2 from List.forall_mem_cons.mpr ⟨Or.inr (Or.inr (Or.inr ⟨yX9_isCube, cX9_isCube, 3, (some .boolean), 2, ct_X9_isCube l, by decide, by decide, mi_X9_isCube.1, mi_X9_isCube.2, ml_RX9_232, mv_X9_isCube.1, mv_X9_isCube.2, ⟨_, _, rfl⟩, by decide, by decide +kernel⟩)), List.forall_mem_cons.mpr ⟨Or.inr (Or.inr (Or.inr ⟨yX9_refuse, cX9_refuse, 2, (some .int), 0, ct_X9_refuse l, by decide, by decide, mi_X9_refuse.1, mi_X9_refuse.2, ml_RX9_83, mv_X9_refuse.1, mv_X9_refuse.2, ⟨_, _, rfl⟩, by decide, by decide +kernel⟩)), List.forall_mem_cons.mpr ⟨Or.inr (Or.inr (Or.inr ⟨yX9_cubeOf, cX9_cubeOf, 2, (some .int), 0, ct_X9_cubeOf l, by decide, by decide, mi_X9_cubeOf.1, mi_X9_cubeOf.2, Or.inl ml_RX9_236, ms_X9_cubeOf, by decide +kernel⟩)), List.forall_mem_cons.mpr ⟨Or.inr (Or.inr (Or.inr ⟨yX0_put, cX0_put, 2, (some .boolean), 2, ct_X0_put l, by decide, by decide, mi_X0_put.1, mi_X0_put.2, ml_RX9_277, mv_X0_put.1, mv_X0_put.2, ⟨_, _, rfl⟩, by decide, by decide +kernel⟩)), fun _ h => absurd h List.not_mem_nil⟩⟩⟩⟩) (x, q) (lkp_mem h)) sf_RX9_ok (by decide +kernel) 400 (fun As σ Q h => ?_)
  replace h := p1r_e h
  obtain ⟨z0, q0, rfl, h⟩ := h
  replace h := onB_e h
  obtain ⟨e0, h⟩ := h
  have e0 := Nat.eq_of_beq_eq_true e0
  subst e0
  replace h := p1i_e h
  obtain ⟨x1, q1, rfl, h⟩ := h
  replace h := p1i_e h
  obtain ⟨x2, q2, rfl, h⟩ := h
  replace h := onB_e h
  obtain ⟨e9, h⟩ := h
  have e9 := List.isEmpty_iff.mp e9
  subst e9
  refine ⟨Nat.le_of_ble_eq_true rfl, fun P hP => ?_⟩
  exact h 
def wp_X9_lay (x1 : Int32) (x2 : Int32) (σ : Sg) (Q : Int32 → Sg → Prop) : Prop :=
  wp_X3_hasState x1 σ (fun r1 => ((r1 = 0 → wp_X9_refuse (-3 : Int32) σ (fun r2 s3 => Q r2 s3)) ∧ (¬ r1 = 0 → wp_X3_hasChoices x2 σ (fun r4 => ((r4 = 0 → wp_X9_refuse (-3 : Int32) σ (fun r5 s6 => Q r5 s6)) ∧ (¬ r4 = 0 → wp_X3_evaluate x1 σ (fun s7 => wp_X5_layOut x2 s7 (fun s8 => Q (gI s8 1172 1) s8))))))))
def wl_X9_lay : WP := fun As σ Q => p1r As (fun z0 r0 => onB (Nat.beq z0 0) (p1i r0 (fun x1 r1 => p1i r1 (fun x2 r2 => onB r2.isEmpty (wp_X9_lay x1 x2 σ (fun x τ => Q (some (.int x)) τ))))))
def tb_X9_lay : List (Nat × Instr × Nat) := [(0, (.aload_n 0, 1)), (1, (.getfield 10, 3)), (4, (.iload_n 1, 1)), (5, (.invokevirtual 169, 3)), (8, (.ifCond .eq 22, 3)), (11, (.aload_n 0, 1)), (12, (.getfield 10, 3)), (15, (.iload_n 2, 1)), (16, (.invokevirtual 154, 3)), (19, (.ifCond .ne 29, 3)), (22, (.aload_n 0, 1)), (23, (.bipush (-3), 2)), (25, (.invokevirtual 83, 3)), (28, (.ireturn, 1)), (29, (.aload_n 0, 1)), (30, (.getfield 10, 3)), (33, (.iload_n 1, 1)), (34, (.invokevirtual 157, 3)), (37, (.aload_n 0, 1)), (38, (.getfield 64, 3)), (41, (.aload_n 0, 1)), (42, (.getfield 10, 3)), (45, (.iload_n 2, 1)), (46, (.invokevirtual 308, 3)), (49, (.aload_n 0, 1)), (50, (.getfield 64, 3)), (53, (.getfield 312, 3)), (56, (.ireturn, 1))]
def ce_X9_lay : List (Nat × (Nat × Option Nat × WP)) := [(169, (2, some 3, wl_X3_hasState)), (154, (2, some 3, wl_X3_hasChoices)), (83, (2, some 9, wl_X9_refuse)), (157, (2, some 3, wl_X3_evaluate)), (308, (3, some 5, wl_X5_layOut))]
set_option maxRecDepth 100000 in
set_option maxHeartbeats 4000000 in
theorem ct_X9_lay (l : Launch) : Con l wX yX9_lay cX9_lay 3 (some .int) 3 wl_X9_lay := by
  refine sxm_ok l (ft := lkp ft_RX9) (c32 := lkp c32_RX9) (c64 := lkp c64_RX9) (ce := lkp ce_X9_lay) (sf := lkp sf_RX9) (lab := lkp []) (T := tb_X9_lay) (by decide +kernel) ft_RX9_ok c32_RX9_ok c64_RX9_ok (fun x q h => (show ∀ q ∈ ce_X9_lay, ceOK l wX RX9 3 q.1 q.2.1 q.2.2.1 q.2.2.2 from List.forall_mem_cons.mpr ⟨Or.inr (Or.inr (Or.inr ⟨yX3_hasState, cX3_hasState, 2, (some .boolean), 1, ct_X3_hasState l, by decide, by decide, mi_X3_hasState.1, mi_X3_hasState.2, ml_RX9_169, mv_X3_hasState.1, mv_X3_hasState.2, ⟨_, _, rfl⟩, by decide, by decide +kernel⟩)), List.forall_mem_cons.mpr ⟨Or.inr (Or.inr (Or.inr ⟨yX3_hasChoices, cX3_hasChoices, 2, (some .boolean), 1, ct_X3_hasChoices l, by decide, by decide, mi_X3_hasChoices.1, mi_X3_hasChoices.2, ml_RX9_154, mv_X3_hasChoices.1, mv_X3_hasChoices.2, ⟨_, _, rfl⟩, by decide, by decide +kernel⟩)), List.forall_mem_cons.mpr ⟨Or.inr (Or.inr (Or.inr ⟨yX9_refuse, cX9_refuse, 2, (some .int), 0, ct_X9_refuse l, by decide, by decide, mi_X9_refuse.1, mi_X9_refuse.2, ml_RX9_83, mv_X9_refuse.1, mv_X9_refuse.2, ⟨_, _, rfl⟩, by decide, by decide +kernel⟩)), List.forall_mem_cons.mpr ⟨Or.inr (Or.inr (Or.inr ⟨yX3_evaluate, cX3_evaluate, 3, none, 2, ct_X3_evaluate l, by decide, by decide, mi_X3_evaluate.1, mi_X3_evaluate.2, ml_RX9_157, mv_X3_evaluate.1, mv_X3_evaluate.2, ⟨_, _, rfl⟩, by decide, by decide +kernel⟩)), List.forall_mem_cons.mpr ⟨Or.inr (Or.inr (Or.inr ⟨yX5_layOut, cX5_layOut, 4, none, 2, ct_X5_layOut l, by decide, by decide, mi_X5_layOut.1, mi_X5_layOut.2, ml_RX9_308, mv_X5_layOut.1, mv_X5_layOut.2, ⟨_, _, rfl⟩, by decide, by decide +kernel⟩)), fun _ h => absurd h List.not_mem_nil⟩⟩⟩⟩⟩) (x, q) (lkp_mem h)) sf_RX9_ok (by decide +kernel) 400 (fun As σ Q h => ?_)
  replace h := p1r_e h
  obtain ⟨z0, q0, rfl, h⟩ := h
  replace h := onB_e h
  obtain ⟨e0, h⟩ := h
  have e0 := Nat.eq_of_beq_eq_true e0
  subst e0
  replace h := p1i_e h
  obtain ⟨x1, q1, rfl, h⟩ := h
  replace h := p1i_e h
  obtain ⟨x2, q2, rfl, h⟩ := h
  replace h := onB_e h
  obtain ⟨e9, h⟩ := h
  have e9 := List.isEmpty_iff.mp e9
  subst e9
  refine ⟨Nat.le_of_ble_eq_true rfl, fun P hP => ?_⟩
  exact h 
def wp_X9_copy (x1 : Int32) (x2 : Int32) (x3 : Int32) (σ : Sg) (Q : Int32 → Sg → Prop) : Prop :=
  (((gI σ 1172 2) = 0 → wp_X9_refuse (-2 : Int32) σ (fun r1 s2 => Q r1 s2)) ∧ (¬ (gI σ 1172 2) = 0 → ((x3 < 0 → wp_X9_refuse (-4 : Int32) σ (fun r3 s4 => Q r3 s4)) ∧ (¬ x3 < 0 → wp_X5_hasStretch x1 x3 σ (fun r5 => ((r5 = 0 → wp_X9_refuse (-6 : Int32) σ (fun r6 s7 => Q r6 s7)) ∧ (¬ r5 = 0 → wp_X5_hasStretch x2 x3 σ (fun r8 => ((r8 = 0 → wp_X9_refuse (-6 : Int32) σ (fun r9 s10 => Q r9 s10)) ∧ (¬ r8 = 0 → wp_X5_moveStretch x1 x2 x3 σ (fun s11 => Q x3 s11)))))))))))
def wl_X9_copy : WP := fun As σ Q => p1r As (fun z0 r0 => onB (Nat.beq z0 0) (p1i r0 (fun x1 r1 => p1i r1 (fun x2 r2 => p1i r2 (fun x3 r3 => onB r3.isEmpty (wp_X9_copy x1 x2 x3 σ (fun x τ => Q (some (.int x)) τ)))))))
def tb_X9_copy : List (Nat × Instr × Nat) := [(0, (.aload_n 0, 1)), (1, (.getfield 64, 3)), (4, (.getfield 313, 3)), (7, (.ifCond .ne 17, 3)), (10, (.aload_n 0, 1)), (11, (.bipush (-2), 2)), (13, (.invokevirtual 83, 3)), (16, (.ireturn, 1)), (17, (.iload_n 3, 1)), (18, (.ifCond .ge 28, 3)), (21, (.aload_n 0, 1)), (22, (.bipush (-4), 2)), (24, (.invokevirtual 83, 3)), (27, (.ireturn, 1)), (28, (.aload_n 0, 1)), (29, (.getfield 64, 3)), (32, (.iload_n 1, 1)), (33, (.iload_n 3, 1)), (34, (.invokevirtual 320, 3)), (37, (.ifCond .eq 52, 3)), (40, (.aload_n 0, 1)), (41, (.getfield 64, 3)), (44, (.iload_n 2, 1)), (45, (.iload_n 3, 1)), (46, (.invokevirtual 320, 3)), (49, (.ifCond .ne 59, 3)), (52, (.aload_n 0, 1)), (53, (.bipush (-6), 2)), (55, (.invokevirtual 83, 3)), (58, (.ireturn, 1)), (59, (.aload_n 0, 1)), (60, (.getfield 64, 3)), (63, (.iload_n 1, 1)), (64, (.iload_n 2, 1)), (65, (.iload_n 3, 1)), (66, (.invokevirtual 323, 3)), (69, (.iload_n 3, 1)), (70, (.ireturn, 1))]
def ce_X9_copy : List (Nat × (Nat × Option Nat × WP)) := [(83, (2, some 9, wl_X9_refuse)), (320, (3, some 5, wl_X5_hasStretch)), (323, (4, some 5, wl_X5_moveStretch))]
set_option maxRecDepth 100000 in
set_option maxHeartbeats 4000000 in
theorem ct_X9_copy (l : Launch) : Con l wX yX9_copy cX9_copy 4 (some .int) 3 wl_X9_copy := by
  refine sxm_ok l (ft := lkp ft_RX9) (c32 := lkp c32_RX9) (c64 := lkp c64_RX9) (ce := lkp ce_X9_copy) (sf := lkp sf_RX9) (lab := lkp []) (T := tb_X9_copy) (by decide +kernel) ft_RX9_ok c32_RX9_ok c64_RX9_ok (fun x q h => (show ∀ q ∈ ce_X9_copy, ceOK l wX RX9 3 q.1 q.2.1 q.2.2.1 q.2.2.2 from List.forall_mem_cons.mpr ⟨Or.inr (Or.inr (Or.inr ⟨yX9_refuse, cX9_refuse, 2, (some .int), 0, ct_X9_refuse l, by decide, by decide, mi_X9_refuse.1, mi_X9_refuse.2, ml_RX9_83, mv_X9_refuse.1, mv_X9_refuse.2, ⟨_, _, rfl⟩, by decide, by decide +kernel⟩)), List.forall_mem_cons.mpr ⟨Or.inr (Or.inr (Or.inr ⟨yX5_hasStretch, cX5_hasStretch, 3, (some .boolean), 0, ct_X5_hasStretch l, by decide, by decide, mi_X5_hasStretch.1, mi_X5_hasStretch.2, ml_RX9_320, mv_X5_hasStretch.1, mv_X5_hasStretch.2, ⟨_, _, rfl⟩, by decide, by decide +kernel⟩)), List.forall_mem_cons.mpr ⟨Or.inr (Or.inr (Or.inr ⟨yX5_moveStretch, cX5_moveStretch, 4, none, 2, ct_X5_moveStretch l, by decide, by decide, mi_X5_moveStretch.1, mi_X5_moveStretch.2, ml_RX9_323, mv_X5_moveStretch.1, mv_X5_moveStretch.2, ⟨_, _, rfl⟩, by decide, by decide +kernel⟩)), fun _ h => absurd h List.not_mem_nil⟩⟩⟩) (x, q) (lkp_mem h)) sf_RX9_ok (by decide +kernel) 400 (fun As σ Q h => ?_)
  replace h := p1r_e h
  obtain ⟨z0, q0, rfl, h⟩ := h
  replace h := onB_e h
  obtain ⟨e0, h⟩ := h
  have e0 := Nat.eq_of_beq_eq_true e0
  subst e0
  replace h := p1i_e h
  obtain ⟨x1, q1, rfl, h⟩ := h
  replace h := p1i_e h
  obtain ⟨x2, q2, rfl, h⟩ := h
  replace h := p1i_e h
  obtain ⟨x3, q3, rfl, h⟩ := h
  replace h := onB_e h
  obtain ⟨e9, h⟩ := h
  have e9 := List.isEmpty_iff.mp e9
  subst e9
  refine ⟨Nat.le_of_ble_eq_true rfl, fun P hP => ?_⟩
  exact h 
def wp_X9_startAnew  (σ : Sg) (Q : Sg → Prop) : Prop :=
  (nz (1 : Int32) ∧ wp_X1_restart (sI σ 13 10 (1 : Int32)) (fun s1 => wp_X4_forget s1 (fun s2 => wp_X3_states s2 (fun r3 => wp_X0_restart 1167 r3 s2 (fun s4 => Q (sI s4 0 8 (gI s4 1 13)))))))
def wl_X9_startAnew : WP := fun As σ Q => p1r As (fun z0 r0 => onB (Nat.beq z0 0) (onB r0.isEmpty (wp_X9_startAnew  σ (fun τ => Q none τ))))
def tb_X9_startAnew : List (Nat × Instr × Nat) := [(0, (.aload_n 0, 1)), (1, (.getfield 21, 3)), (4, (.iconst 1, 1)), (5, (.putfield 327, 3)), (8, (.aload_n 0, 1)), (9, (.getfield 30, 3)), (12, (.invokevirtual 330, 3)), (15, (.aload_n 0, 1)), (16, (.getfield 39, 3)), (19, (.invokevirtual 332, 3)), (22, (.aload_n 0, 1)), (23, (.getfield 48, 3)), (26, (.aload_n 0, 1)), (27, (.getfield 10, 3)), (30, (.invokevirtual 287, 3)), (33, (.invokevirtual 290, 3)), (36, (.aload_n 0, 1)), (37, (.aload_n 0, 1)), (38, (.getfield 10, 3)), (41, (.getfield 148, 3)), (44, (.putfield 151, 3)), (47, (.return_, 1))]
def ce_X9_startAnew : List (Nat × (Nat × Option Nat × WP)) := [(330, (1, some 1, wl_X1_restart)), (332, (1, some 4, wl_X4_forget)), (287, (1, some 3, wl_X3_states)), (290, (2, some 0, wl_X0_restart))]
set_option maxRecDepth 100000 in
set_option maxHeartbeats 4000000 in
theorem ct_X9_startAnew (l : Launch) : Con l wX yX9_startAnew cX9_startAnew 1 none 3 wl_X9_startAnew := by
  refine sxm_ok l (ft := lkp ft_RX9) (c32 := lkp c32_RX9) (c64 := lkp c64_RX9) (ce := lkp ce_X9_startAnew) (sf := lkp sf_RX9) (lab := lkp []) (T := tb_X9_startAnew) (by decide +kernel) ft_RX9_ok c32_RX9_ok c64_RX9_ok (fun x q h => (show ∀ q ∈ ce_X9_startAnew, ceOK l wX RX9 3 q.1 q.2.1 q.2.2.1 q.2.2.2 from List.forall_mem_cons.mpr ⟨Or.inr (Or.inr (Or.inr ⟨yX1_restart, cX1_restart, 2, none, 2, ct_X1_restart l, by decide, by decide, mi_X1_restart.1, mi_X1_restart.2, ml_RX9_330, mv_X1_restart.1, mv_X1_restart.2, ⟨_, _, rfl⟩, by decide, by decide +kernel⟩)), List.forall_mem_cons.mpr ⟨Or.inr (Or.inr (Or.inr ⟨yX4_forget, cX4_forget, 1, none, 0, ct_X4_forget l, by decide, by decide, mi_X4_forget.1, mi_X4_forget.2, ml_RX9_332, mv_X4_forget.1, mv_X4_forget.2, ⟨_, _, rfl⟩, by decide, by decide +kernel⟩)), List.forall_mem_cons.mpr ⟨Or.inr (Or.inr (Or.inr ⟨yX3_states, cX3_states, 1, (some .int), 0, ct_X3_states l, by decide, by decide, mi_X3_states.1, mi_X3_states.2, ml_RX9_287, mv_X3_states.1, mv_X3_states.2, ⟨_, _, rfl⟩, by decide, by decide +kernel⟩)), List.forall_mem_cons.mpr ⟨Or.inr (Or.inr (Or.inr ⟨yX0_restart, cX0_restart, 2, none, 1, ct_X0_restart l, by decide, by decide, mi_X0_restart.1, mi_X0_restart.2, ml_RX9_290, mv_X0_restart.1, mv_X0_restart.2, ⟨_, _, rfl⟩, by decide, by decide +kernel⟩)), fun _ h => absurd h List.not_mem_nil⟩⟩⟩⟩) (x, q) (lkp_mem h)) sf_RX9_ok (by decide +kernel) 400 (fun As σ Q h => ?_)
  replace h := p1r_e h
  obtain ⟨z0, q0, rfl, h⟩ := h
  replace h := onB_e h
  obtain ⟨e0, h⟩ := h
  have e0 := Nat.eq_of_beq_eq_true e0
  subst e0
  replace h := onB_e h
  obtain ⟨e9, h⟩ := h
  have e9 := List.isEmpty_iff.mp e9
  subst e9
  refine ⟨Nat.le_of_ble_eq_true rfl, fun P hP => ?_⟩
  exact h 
def wp_X2_shrinkList  (σ : Sg) (Q : Int32 → Sg → Prop) : Prop :=
  ∀ L12 : Int32 → Int32 → Int32 → Sg → Prop,
  (∀ (x1 : Int32) (x2 : Int32) (x3 : Int32) (τ : Sg), ((x3 < x1 → wp_X0_cubeAt 1167 x2 τ (fun r1 => wp_X0_takeOut 1167 x2 τ (fun s2 => wp_X2_fault s2 (fun r3 => ((r3 = 0 → L12 x1 x2 (x3 + (1 : Int32)) s2) ∧ (¬ r3 = 0 → wp_X0_putBack 1167 x2 r1 s2 (fun s4 => L12 x1 (x2 + (1 : Int32)) (x3 + (1 : Int32)) s4))))))) ∧ (¬ x3 < x1 → Q x2 τ)) → L12 x1 x2 x3 τ) →
  L12 (gI σ 1167 2) (0 : Int32) (0 : Int32) σ
def wl_X2_shrinkList : WP := fun As σ Q => p1r As (fun z0 r0 => onB (Nat.beq z0 1171) (onB r0.isEmpty (wp_X2_shrinkList  σ (fun x τ => Q (some (.int x)) τ))))
def tb_X2_shrinkList : List (Nat × Instr × Nat) := [(0, (.aload_n 0, 1)), (1, (.getfield 26, 3)), (4, (.getfield 80, 3)), (7, (.istore_n 1, 1)), (8, (.iconst 0, 1)), (9, (.istore_n 2, 1)), (10, (.iconst 0, 1)), (11, (.istore_n 3, 1)), (12, (.iload_n 3, 1)), (13, (.iload_n 1, 1)), (14, (.if_icmp .ge 61, 3)), (17, (.aload_n 0, 1)), (18, (.getfield 26, 3)), (21, (.iload_n 2, 1)), (22, (.invokevirtual 83, 3)), (25, (.istore 4, 2)), (27, (.aload_n 0, 1)), (28, (.getfield 26, 3)), (31, (.iload_n 2, 1)), (32, (.invokevirtual 87, 3)), (35, (.aload_n 0, 1)), (36, (.invokevirtual 70, 3)), (39, (.ifCond .eq 55, 3)), (42, (.aload_n 0, 1)), (43, (.getfield 26, 3)), (46, (.iload_n 2, 1)), (47, (.iload 4, 2)), (49, (.invokevirtual 91, 3)), (52, (.iinc 2 1, 3)), (55, (.iinc 3 1, 3)), (58, (.goto 12, 3)), (61, (.iload_n 2, 1)), (62, (.ireturn, 1))]
def ce_X2_shrinkList : List (Nat × (Nat × Option Nat × WP)) := [(83, (2, some 0, wl_X0_cubeAt)), (87, (2, some 0, wl_X0_takeOut)), (70, (1, some 2, wl_X2_fault)), (91, (3, some 0, wl_X0_putBack))]
set_option maxRecDepth 100000 in
set_option maxHeartbeats 4000000 in
theorem ct_X2_shrinkList (l : Launch) : Con l wX yX2_shrinkList cX2_shrinkList 5 (some .int) 4 wl_X2_shrinkList := by
  refine sxm_ok l (ft := lkp ft_RX2) (c32 := lkp c32_RX2) (c64 := lkp c64_RX2) (ce := lkp ce_X2_shrinkList) (sf := lkp sf_RX2) (lab := lkp [(12, [0, 1, 2, 3])]) (T := tb_X2_shrinkList) (by decide +kernel) ft_RX2_ok c32_RX2_ok c64_RX2_ok (fun x q h => (show ∀ q ∈ ce_X2_shrinkList, ceOK l wX RX2 4 q.1 q.2.1 q.2.2.1 q.2.2.2 from List.forall_mem_cons.mpr ⟨Or.inr (Or.inr (Or.inr ⟨yX0_cubeAt, cX0_cubeAt, 2, (some .int), 1, ct_X0_cubeAt l, by decide, by decide, mi_X0_cubeAt.1, mi_X0_cubeAt.2, ml_RX2_83, mv_X0_cubeAt.1, mv_X0_cubeAt.2, ⟨_, _, rfl⟩, by decide, by decide +kernel⟩)), List.forall_mem_cons.mpr ⟨Or.inr (Or.inr (Or.inr ⟨yX0_takeOut, cX0_takeOut, 3, none, 3, ct_X0_takeOut l, by decide, by decide, mi_X0_takeOut.1, mi_X0_takeOut.2, ml_RX2_87, mv_X0_takeOut.1, mv_X0_takeOut.2, ⟨_, _, rfl⟩, by decide, by decide +kernel⟩)), List.forall_mem_cons.mpr ⟨Or.inr (Or.inr (Or.inr ⟨yX2_fault, cX2_fault, 1, (some .int), 2, ct_X2_fault l, by decide, by decide, mi_X2_fault.1, mi_X2_fault.2, ml_RX2_70, mv_X2_fault.1, mv_X2_fault.2, ⟨_, _, rfl⟩, by decide, by decide +kernel⟩)), List.forall_mem_cons.mpr ⟨Or.inr (Or.inr (Or.inr ⟨yX0_putBack, cX0_putBack, 4, none, 3, ct_X0_putBack l, by decide, by decide, mi_X0_putBack.1, mi_X0_putBack.2, ml_RX2_91, mv_X0_putBack.1, mv_X0_putBack.2, ⟨_, _, rfl⟩, by decide, by decide +kernel⟩)), fun _ h => absurd h List.not_mem_nil⟩⟩⟩⟩) (x, q) (lkp_mem h)) sf_RX2_ok (by decide +kernel) 400 (fun As σ Q h => ?_)
  replace h := p1r_e h
  obtain ⟨z0, q0, rfl, h⟩ := h
  replace h := onB_e h
  obtain ⟨e0, h⟩ := h
  have e0 := Nat.eq_of_beq_eq_true e0
  subst e0
  replace h := onB_e h
  obtain ⟨e9, h⟩ := h
  have e9 := List.isEmpty_iff.mp e9
  subst e9
  refine ⟨Nat.le_of_ble_eq_true rfl, fun P hP => ?_⟩
  exact h (fun x1 x2 x3 τ => P 12 [.ref 1171, .int x1, .int x2, .int x3] τ) (fun x1 x2 x3 τ hb => hP 12 [.ref 1171, .int x1, .int x2, .int x3] τ hb)
def wp_X3_coneBits  (σ : Sg) (Q : Int32 → Sg → Prop) : Prop :=
  ∀ L2 : Int32 → Sg → Prop,
  ∀ L31 : Int32 → Sg → Prop,
  ∀ L62 : Int32 → Sg → Prop,
  ∀ L82 : Int32 → Int32 → Sg → Prop,
  (∀ (x1 : Int32) (τ : Sg), ((x1 < (80 : Int32) → (vp_in x1 80 ∧ L2 (x1 + (1 : Int32)) (sI τ 8 (x1).toNatClampNeg (vp_nar .boolean (0 : Int32))))) ∧ (¬ x1 < (80 : Int32) → wp_X3_markSign (gI τ 1 9) τ (fun s1 => L31 (0 : Int32) s1))) → L2 x1 τ) →
  (∀ (x1 : Int32) (τ : Sg), ((x1 < (gI τ 9 1) → wp_X6_signAt 9 x1 τ (fun r2 => wp_X3_markSign r2 τ (fun s3 => L31 (x1 + (1 : Int32)) s3))) ∧ (¬ x1 < (gI τ 9 1) → L62 (0 : Int32) τ)) → L31 x1 τ) →
  (∀ (x1 : Int32) (τ : Sg), (((8 : Int32) < x1 → L82 (0 : Int32) (0 : Int32) τ) ∧ (¬ (8 : Int32) < x1 → wp_X3_markPass τ (fun s4 => L62 (x1 + (1 : Int32)) s4))) → L62 x1 τ) →
  (∀ (x1 : Int32) (x2 : Int32) (τ : Sg), ((x2 < (gI τ 1 11) → ((x2 < (8 : Int32) → (vp_in x2 8 ∧ wp_X3_isMarked (gI τ 6 (x2).toNatClampNeg) τ (fun r5 => ((r5 = 0 → L82 x1 (x2 + (1 : Int32)) τ) ∧ (¬ r5 = 0 → L82 (x1 ||| ((1 : Int32) <<< (x2 &&& 31))) (x2 + (1 : Int32)) τ))))) ∧ (¬ x2 < (8 : Int32) → Q x1 τ))) ∧ (¬ x2 < (gI τ 1 11) → Q x1 τ)) → L82 x1 x2 τ) →
  L2 (0 : Int32) σ
def wl_X3_coneBits : WP := fun As σ Q => p1r As (fun z0 r0 => onB (Nat.beq z0 1) (onB r0.isEmpty (wp_X3_coneBits  σ (fun x τ => Q (some (.int x)) τ))))
def tb_X3_coneBits : List (Nat × Instr × Nat) := [(0, (.iconst 0, 1)), (1, (.istore_n 1, 1)), (2, (.iload_n 1, 1)), (3, (.bipush 80, 2)), (5, (.if_icmp .ge 21, 3)), (8, (.aload_n 0, 1)), (9, (.getfield 30, 3)), (12, (.iload_n 1, 1)), (13, (.iconst 0, 1)), (14, (.bastore, 1)), (15, (.iinc 1 1, 3)), (18, (.goto 2, 3)), (21, (.aload_n 0, 1)), (22, (.aload_n 0, 1)), (23, (.getfield 46, 3)), (26, (.invokevirtual 107, 3)), (29, (.iconst 0, 1)), (30, (.istore_n 1, 1)), (31, (.iload_n 1, 1)), (32, (.aload_n 0, 1)), (33, (.getfield 39, 3)), (36, (.getfield 89, 3)), (39, (.if_icmp .ge 60, 3)), (42, (.aload_n 0, 1)), (43, (.aload_n 0, 1)), (44, (.getfield 39, 3)), (47, (.iload_n 1, 1)), (48, (.invokevirtual 92, 3)), (51, (.invokevirtual 107, 3)), (54, (.iinc 1 1, 3)), (57, (.goto 31, 3)), (60, (.iconst 0, 1)), (61, (.istore_n 1, 1)), (62, (.iload_n 1, 1)), (63, (.bipush 8, 2)), (65, (.if_icmp .gt 78, 3)), (68, (.aload_n 0, 1)), (69, (.invokevirtual 110, 3)), (72, (.iinc 1 1, 3)), (75, (.goto 62, 3)), (78, (.iconst 0, 1)), (79, (.istore_n 1, 1)), (80, (.iconst 0, 1)), (81, (.istore_n 2, 1)), (82, (.iload_n 2, 1)), (83, (.aload_n 0, 1)), (84, (.getfield 61, 3)), (87, (.if_icmp .ge 121, 3)), (90, (.iload_n 2, 1)), (91, (.bipush 8, 2)), (93, (.if_icmp .ge 121, 3)), (96, (.aload_n 0, 1)), (97, (.aload_n 0, 1)), (98, (.getfield 24, 3)), (101, (.iload_n 2, 1)), (102, (.iaload, 1)), (103, (.invokevirtual 113, 3)), (106, (.ifCond .eq 115, 3)), (109, (.iload_n 1, 1)), (110, (.iconst 1, 1)), (111, (.iload_n 2, 1)), (112, (.ishl, 1)), (113, (.ior, 1)), (114, (.istore_n 1, 1)), (115, (.iinc 2 1, 3)), (118, (.goto 82, 3)), (121, (.iload_n 1, 1)), (122, (.ireturn, 1))]
def ce_X3_coneBits : List (Nat × (Nat × Option Nat × WP)) := [(107, (2, some 3, wl_X3_markSign)), (92, (2, some 6, wl_X6_signAt)), (110, (1, some 3, wl_X3_markPass)), (113, (2, some 3, wl_X3_isMarked))]
set_option maxRecDepth 100000 in
set_option maxHeartbeats 4000000 in
theorem ct_X3_coneBits (l : Launch) : Con l wX yX3_coneBits cX3_coneBits 3 (some .int) 4 wl_X3_coneBits := by
  refine sxm_ok l (ft := lkp ft_RX3) (c32 := lkp c32_RX3) (c64 := lkp c64_RX3) (ce := lkp ce_X3_coneBits) (sf := lkp sf_RX3) (lab := lkp [(2, [0, 1]), (31, [0, 1]), (62, [0, 1]), (82, [0, 1, 2])]) (T := tb_X3_coneBits) (by decide +kernel) ft_RX3_ok c32_RX3_ok c64_RX3_ok (fun x q h => (show ∀ q ∈ ce_X3_coneBits, ceOK l wX RX3 4 q.1 q.2.1 q.2.2.1 q.2.2.2 from List.forall_mem_cons.mpr ⟨Or.inr (Or.inr (Or.inr ⟨yX3_markSign, cX3_markSign, 2, none, 2, ct_X3_markSign l, by decide, by decide, mi_X3_markSign.1, mi_X3_markSign.2, ml_RX3_107, mv_X3_markSign.1, mv_X3_markSign.2, ⟨_, _, rfl⟩, by decide, by decide +kernel⟩)), List.forall_mem_cons.mpr ⟨Or.inr (Or.inr (Or.inr ⟨yX6_signAt, cX6_signAt, 2, (some .int), 0, ct_X6_signAt l, by decide, by decide, mi_X6_signAt.1, mi_X6_signAt.2, ml_RX3_92, mv_X6_signAt.1, mv_X6_signAt.2, ⟨_, _, rfl⟩, by decide, by decide +kernel⟩)), List.forall_mem_cons.mpr ⟨Or.inr (Or.inr (Or.inr ⟨yX3_markPass, cX3_markPass, 2, none, 3, ct_X3_markPass l, by decide, by decide, mi_X3_markPass.1, mi_X3_markPass.2, ml_RX3_110, mv_X3_markPass.1, mv_X3_markPass.2, ⟨_, _, rfl⟩, by decide, by decide +kernel⟩)), List.forall_mem_cons.mpr ⟨Or.inr (Or.inr (Or.inr ⟨yX3_isMarked, cX3_isMarked, 2, (some .boolean), 1, ct_X3_isMarked l, by decide, by decide, mi_X3_isMarked.1, mi_X3_isMarked.2, ml_RX3_113, mv_X3_isMarked.1, mv_X3_isMarked.2, ⟨_, _, rfl⟩, by decide, by decide +kernel⟩)), fun _ h => absurd h List.not_mem_nil⟩⟩⟩⟩) (x, q) (lkp_mem h)) sf_RX3_ok (by decide +kernel) 400 (fun As σ Q h => ?_)
  replace h := p1r_e h
  obtain ⟨z0, q0, rfl, h⟩ := h
  replace h := onB_e h
  obtain ⟨e0, h⟩ := h
  have e0 := Nat.eq_of_beq_eq_true e0
  subst e0
  replace h := onB_e h
  obtain ⟨e9, h⟩ := h
  have e9 := List.isEmpty_iff.mp e9
  subst e9
  refine ⟨Nat.le_of_ble_eq_true rfl, fun P hP => ?_⟩
  exact h (fun x1 τ => P 2 [.ref 1, .int x1] τ) (fun x1 τ => P 31 [.ref 1, .int x1] τ) (fun x1 τ => P 62 [.ref 1, .int x1] τ) (fun x1 x2 τ => P 82 [.ref 1, .int x1, .int x2] τ) (fun x1 τ hb => hP 2 [.ref 1, .int x1] τ hb) (fun x1 τ hb => hP 31 [.ref 1, .int x1] τ hb) (fun x1 τ hb => hP 62 [.ref 1, .int x1] τ hb) (fun x1 x2 τ hb => hP 82 [.ref 1, .int x1, .int x2] τ hb)
def wp_X4_look  (σ : Sg) (Q : Sg → Prop) : Prop :=
  wp_X4_troubleState ((gI σ 1164 5) - (1 : Int32)) σ (fun r1 => wp_X4_troubleFrame ((gI σ 1164 5) - (1 : Int32)) σ (fun r2 => ((r1 = (gI σ 1 13) → Q (sI σ 1164 6 (2 : Int32))) ∧ (¬ r1 = (gI σ 1 13) → wp_X1_frame r2 σ (fun r3 => onB (isK wX r3 0) (onB (isK wX (wR wX r3 1) 7) (wp_X7_has (wR wX r3 1) r1 σ (fun r4 => ((r4 = 0 → Q (sI σ 1164 5 ((gI σ 1164 5) - (1 : Int32)))) ∧ (¬ r4 = 0 → wp_X3_states σ (fun r5 => wp_X9_cubeOf (r5 - (1 : Int32)) r1 σ (fun r6 => wp_X1_leastInto (r2 - (1 : Int32)) r6 σ (fun r7 s8 => ((r7 = (-1 : Int32) → wp_X1_widened r2 r6 s8 (fun r9 s10 => wp_X1_putUpTo r2 r9 s10 (fun r11 s12 => ((r11 = 0 → Q (sI s12 1164 6 (3 : Int32))) ∧ (¬ r11 = 0 → Q (sI s12 1164 5 ((gI s12 1164 5) - (1 : Int32)))))))) ∧ (¬ r7 = (-1 : Int32) → wp_X4_addTrouble r7 (r2 - (1 : Int32)) s8 (fun s13 => Q s13))))))))))))))))
def wl_X4_look : WP := fun As σ Q => p1r As (fun z0 r0 => onB (Nat.beq z0 1164) (onB r0.isEmpty (wp_X4_look  σ (fun τ => Q none τ))))
def tb_X4_look : List (Nat × Instr × Nat) := [(0, (.aload_n 0, 1)), (1, (.aload_n 0, 1)), (2, (.getfield 30, 3)), (5, (.iconst 1, 1)), (6, (.isub, 1)), (7, (.invokevirtual 92, 3)), (10, (.istore_n 1, 1)), (11, (.aload_n 0, 1)), (12, (.aload_n 0, 1)), (13, (.getfield 30, 3)), (16, (.iconst 1, 1)), (17, (.isub, 1)), (18, (.invokevirtual 96, 3)), (21, (.istore_n 2, 1)), (22, (.iload_n 1, 1)), (23, (.aload_n 0, 1)), (24, (.getfield 18, 3)), (27, (.getfield 83, 3)), (30, (.if_icmp .ne 39, 3)), (33, (.aload_n 0, 1)), (34, (.iconst 2, 1)), (35, (.putfield 34, 3)), (38, (.return_, 1)), (39, (.aload_n 0, 1)), (40, (.getfield 26, 3)), (43, (.iload_n 2, 1)), (44, (.invokevirtual 50, 3)), (47, (.getfield 56, 3)), (50, (.iload_n 1, 1)), (51, (.invokevirtual 88, 3)), (54, (.ifCond .ne 68, 3)), (57, (.aload_n 0, 1)), (58, (.dup, 1)), (59, (.getfield 30, 3)), (62, (.iconst 1, 1)), (63, (.isub, 1)), (64, (.putfield 30, 3)), (67, (.return_, 1)), (68, (.aload_n 0, 1)), (69, (.getfield 18, 3)), (72, (.invokevirtual 99, 3)), (75, (.iconst 1, 1)), (76, (.isub, 1)), (77, (.iload_n 1, 1)), (78, (.invokestatic 103, 3)), (81, (.istore_n 3, 1)), (82, (.aload_n 0, 1)), (83, (.getfield 26, 3)), (86, (.iload_n 2, 1)), (87, (.iconst 1, 1)), (88, (.isub, 1)), (89, (.iload_n 3, 1)), (90, (.invokevirtual 107, 3)), (93, (.istore 4, 2)), (95, (.iload 4, 2)), (97, (.iconst (-1), 1)), (98, (.if_icmp .eq 113, 3)), (101, (.aload_n 0, 1)), (102, (.iload 4, 2)), (104, (.iload_n 2, 1)), (105, (.iconst 1, 1)), (106, (.isub, 1)), (107, (.invokevirtual 73, 3)), (110, (.goto 151, 3)), (113, (.aload_n 0, 1)), (114, (.getfield 26, 3)), (117, (.iload_n 2, 1)), (118, (.aload_n 0, 1)), (119, (.getfield 26, 3)), (122, (.iload_n 2, 1)), (123, (.iload_n 3, 1)), (124, (.invokevirtual 110, 3)), (127, (.invokevirtual 113, 3)), (130, (.ifCond .eq 146, 3)), (133, (.aload_n 0, 1)), (134, (.dup, 1)), (135, (.getfield 30, 3)), (138, (.iconst 1, 1)), (139, (.isub, 1)), (140, (.putfield 30, 3)), (143, (.goto 151, 3)), (146, (.aload_n 0, 1)), (147, (.iconst 3, 1)), (148, (.putfield 34, 3)), (151, (.return_, 1))]
def ce_X4_look : List (Nat × (Nat × Option Nat × WP)) := [(92, (2, some 4, wl_X4_troubleState)), (96, (2, some 4, wl_X4_troubleFrame)), (50, (2, some 1, wl_X1_frame)), (88, (2, some 7, wl_X7_has)), (99, (1, some 3, wl_X3_states)), (103, (2, none, wl_X9_cubeOf)), (107, (3, some 1, wl_X1_leastInto)), (73, (3, some 4, wl_X4_addTrouble)), (110, (3, some 1, wl_X1_widened)), (113, (3, some 1, wl_X1_putUpTo))]
set_option maxRecDepth 100000 in
set_option maxHeartbeats 4000000 in
theorem ct_X4_look (l : Launch) : Con l wX yX4_look cX4_look 5 none 4 wl_X4_look := by
  refine sxm_ok l (ft := lkp ft_RX4) (c32 := lkp c32_RX4) (c64 := lkp c64_RX4) (ce := lkp ce_X4_look) (sf := lkp sf_RX4) (lab := lkp []) (T := tb_X4_look) (by decide +kernel) ft_RX4_ok c32_RX4_ok c64_RX4_ok (fun x q h => (show ∀ q ∈ ce_X4_look, ceOK l wX RX4 4 q.1 q.2.1 q.2.2.1 q.2.2.2 from List.forall_mem_cons.mpr ⟨Or.inr (Or.inr (Or.inr ⟨yX4_troubleState, cX4_troubleState, 2, (some .int), 0, ct_X4_troubleState l, by decide, by decide, mi_X4_troubleState.1, mi_X4_troubleState.2, ml_RX4_92, mv_X4_troubleState.1, mv_X4_troubleState.2, ⟨_, _, rfl⟩, by decide, by decide +kernel⟩)), List.forall_mem_cons.mpr ⟨Or.inr (Or.inr (Or.inr ⟨yX4_troubleFrame, cX4_troubleFrame, 2, (some .int), 0, ct_X4_troubleFrame l, by decide, by decide, mi_X4_troubleFrame.1, mi_X4_troubleFrame.2, ml_RX4_96, mv_X4_troubleFrame.1, mv_X4_troubleFrame.2, ⟨_, _, rfl⟩, by decide, by decide +kernel⟩)), List.forall_mem_cons.mpr ⟨Or.inr (Or.inr (Or.inr ⟨yX1_frame, cX1_frame, 2, (some (.object "FrameProver$Clauses")), 0, ct_X1_frame l, by decide, by decide, mi_X1_frame.1, mi_X1_frame.2, ml_RX4_50, mv_X1_frame.1, mv_X1_frame.2, ⟨_, _, rfl⟩, by decide, by decide +kernel⟩)), List.forall_mem_cons.mpr ⟨Or.inr (Or.inr (Or.inr ⟨yX7_has, cX7_has, 2, (some .boolean), 0, ct_X7_has l, by decide, by decide, mi_X7_has.1, mi_X7_has.2, ml_RX4_88, mv_X7_has.1, mv_X7_has.2, ⟨_, _, rfl⟩, by decide, by decide +kernel⟩)), List.forall_mem_cons.mpr ⟨Or.inr (Or.inr (Or.inr ⟨yX3_states, cX3_states, 1, (some .int), 0, ct_X3_states l, by decide, by decide, mi_X3_states.1, mi_X3_states.2, ml_RX4_99, mv_X3_states.1, mv_X3_states.2, ⟨_, _, rfl⟩, by decide, by decide +kernel⟩)), List.forall_mem_cons.mpr ⟨Or.inr (Or.inr (Or.inr ⟨yX9_cubeOf, cX9_cubeOf, 2, (some .int), 0, ct_X9_cubeOf l, by decide, by decide, mi_X9_cubeOf.1, mi_X9_cubeOf.2, Or.inr ml_RX4_103, ms_X9_cubeOf, by decide +kernel⟩)), List.forall_mem_cons.mpr ⟨Or.inr (Or.inr (Or.inr ⟨yX1_leastInto, cX1_leastInto, 5, (some .int), 2, ct_X1_leastInto l, by decide, by decide, mi_X1_leastInto.1, mi_X1_leastInto.2, ml_RX4_107, mv_X1_leastInto.1, mv_X1_leastInto.2, ⟨_, _, rfl⟩, by decide, by decide +kernel⟩)), List.forall_mem_cons.mpr ⟨Or.inr (Or.inr (Or.inr ⟨yX4_addTrouble, cX4_addTrouble, 3, none, 0, ct_X4_addTrouble l, by decide, by decide, mi_X4_addTrouble.1, mi_X4_addTrouble.2, ml_RX4_73, mv_X4_addTrouble.1, mv_X4_addTrouble.2, ⟨_, _, rfl⟩, by decide, by decide +kernel⟩)), List.forall_mem_cons.mpr ⟨Or.inr (Or.inr (Or.inr ⟨yX1_widened, cX1_widened, 7, (some .int), 3, ct_X1_widened l, by decide, by decide, mi_X1_widened.1, mi_X1_widened.2, ml_RX4_110, mv_X1_widened.1, mv_X1_widened.2, ⟨_, _, rfl⟩, by decide, by decide +kernel⟩)), List.forall_mem_cons.mpr ⟨Or.inr (Or.inr (Or.inr ⟨yX1_putUpTo, cX1_putUpTo, 4, (some .boolean), 3, ct_X1_putUpTo l, by decide, by decide, mi_X1_putUpTo.1, mi_X1_putUpTo.2, ml_RX4_113, mv_X1_putUpTo.1, mv_X1_putUpTo.2, ⟨_, _, rfl⟩, by decide, by decide +kernel⟩)), fun _ h => absurd h List.not_mem_nil⟩⟩⟩⟩⟩⟩⟩⟩⟩⟩) (x, q) (lkp_mem h)) sf_RX4_ok (by decide +kernel) 400 (fun As σ Q h => ?_)
  replace h := p1r_e h
  obtain ⟨z0, q0, rfl, h⟩ := h
  replace h := onB_e h
  obtain ⟨e0, h⟩ := h
  have e0 := Nat.eq_of_beq_eq_true e0
  subst e0
  replace h := onB_e h
  obtain ⟨e9, h⟩ := h
  have e9 := List.isEmpty_iff.mp e9
  subst e9
  refine ⟨Nat.le_of_ble_eq_true rfl, fun P hP => ?_⟩
  exact h 
def wp_X4_push  (σ : Sg) (Q : Sg → Prop) : Prop :=
  ∀ L2 : Int32 → Sg → Prop,
  ∀ L41 : Int32 → Sg → Prop,
  (∀ (x1 : Int32) (τ : Sg), (((gI τ 1164 7) < x1 → L41 (1 : Int32) τ) ∧ (¬ (gI τ 1164 7) < x1 → ((x1 < (24 : Int32) → wp_X1_pushOn x1 τ (fun r1 s2 => ((r1 = 0 → Q (sI s2 1164 6 (3 : Int32))) ∧ (¬ r1 = 0 → L2 (x1 + (1 : Int32)) s2)))) ∧ (¬ x1 < (24 : Int32) → L41 (1 : Int32) τ)))) → L2 x1 τ) →
  (∀ (x1 : Int32) (τ : Sg), (((gI τ 1164 7) < x1 → ((((gI τ 1164 7) + (1 : Int32)) < (24 : Int32) → Q (sI τ 1164 7 ((gI τ 1164 7) + (1 : Int32)))) ∧ (¬ ((gI τ 1164 7) + (1 : Int32)) < (24 : Int32) → Q (sI τ 1164 6 (3 : Int32))))) ∧ (¬ (gI τ 1164 7) < x1 → ((x1 < (24 : Int32) → wp_X1_frame (x1 + (1 : Int32)) τ (fun r3 => wp_X1_frame x1 τ (fun r4 => onB (isK wX r3 0) (wp_X0_hasAllOf r3 r4 τ (fun r5 => ((r5 = 0 → L41 (x1 + (1 : Int32)) τ) ∧ (¬ r5 = 0 → Q (sI (sI τ 1164 9 x1) 1164 6 (1 : Int32))))))))) ∧ (¬ x1 < (24 : Int32) → ((((gI τ 1164 7) + (1 : Int32)) < (24 : Int32) → Q (sI τ 1164 7 ((gI τ 1164 7) + (1 : Int32)))) ∧ (¬ ((gI τ 1164 7) + (1 : Int32)) < (24 : Int32) → Q (sI τ 1164 6 (3 : Int32)))))))) → L41 x1 τ) →
  L2 (1 : Int32) σ
def wl_X4_push : WP := fun As σ Q => p1r As (fun z0 r0 => onB (Nat.beq z0 1164) (onB r0.isEmpty (wp_X4_push  σ (fun τ => Q none τ))))
def tb_X4_push : List (Nat × Instr × Nat) := [(0, (.iconst 1, 1)), (1, (.istore_n 1, 1)), (2, (.iload_n 1, 1)), (3, (.aload_n 0, 1)), (4, (.getfield 37, 3)), (7, (.if_icmp .gt 39, 3)), (10, (.iload_n 1, 1)), (11, (.bipush 24, 2)), (13, (.if_icmp .ge 39, 3)), (16, (.aload_n 0, 1)), (17, (.getfield 26, 3)), (20, (.iload_n 1, 1)), (21, (.invokevirtual 117, 3)), (24, (.ifCond .ne 33, 3)), (27, (.aload_n 0, 1)), (28, (.iconst 3, 1)), (29, (.putfield 34, 3)), (32, (.return_, 1)), (33, (.iinc 1 1, 3)), (36, (.goto 2, 3)), (39, (.iconst 1, 1)), (40, (.istore_n 1, 1)), (41, (.iload_n 1, 1)), (42, (.aload_n 0, 1)), (43, (.getfield 37, 3)), (46, (.if_icmp .gt 96, 3)), (49, (.iload_n 1, 1)), (50, (.bipush 24, 2)), (52, (.if_icmp .ge 96, 3)), (55, (.aload_n 0, 1)), (56, (.getfield 26, 3)), (59, (.iload_n 1, 1)), (60, (.iconst 1, 1)), (61, (.iadd, 1)), (62, (.invokevirtual 50, 3)), (65, (.aload_n 0, 1)), (66, (.getfield 26, 3)), (69, (.iload_n 1, 1)), (70, (.invokevirtual 50, 3)), (73, (.invokevirtual 120, 3)), (76, (.ifCond .eq 90, 3)), (79, (.aload_n 0, 1)), (80, (.iload_n 1, 1)), (81, (.putfield 43, 3)), (84, (.aload_n 0, 1)), (85, (.iconst 1, 1)), (86, (.putfield 34, 3)), (89, (.return_, 1)), (90, (.iinc 1 1, 3)), (93, (.goto 41, 3)), (96, (.aload_n 0, 1)), (97, (.getfield 37, 3)), (100, (.iconst 1, 1)), (101, (.iadd, 1)), (102, (.bipush 24, 2)), (104, (.if_icmp .lt 115, 3)), (107, (.aload_n 0, 1)), (108, (.iconst 3, 1)), (109, (.putfield 34, 3)), (112, (.goto 125, 3)), (115, (.aload_n 0, 1)), (116, (.dup, 1)), (117, (.getfield 37, 3)), (120, (.iconst 1, 1)), (121, (.iadd, 1)), (122, (.putfield 37, 3)), (125, (.return_, 1))]
def ce_X4_push : List (Nat × (Nat × Option Nat × WP)) := [(117, (2, some 1, wl_X1_pushOn)), (50, (2, some 1, wl_X1_frame)), (120, (2, some 0, wl_X0_hasAllOf))]
set_option maxRecDepth 100000 in
set_option maxHeartbeats 4000000 in
theorem ct_X4_push (l : Launch) : Con l wX yX4_push cX4_push 2 none 4 wl_X4_push := by
  refine sxm_ok l (ft := lkp ft_RX4) (c32 := lkp c32_RX4) (c64 := lkp c64_RX4) (ce := lkp ce_X4_push) (sf := lkp sf_RX4) (lab := lkp [(2, [0, 1]), (41, [0, 1])]) (T := tb_X4_push) (by decide +kernel) ft_RX4_ok c32_RX4_ok c64_RX4_ok (fun x q h => (show ∀ q ∈ ce_X4_push, ceOK l wX RX4 4 q.1 q.2.1 q.2.2.1 q.2.2.2 from List.forall_mem_cons.mpr ⟨Or.inr (Or.inr (Or.inr ⟨yX1_pushOn, cX1_pushOn, 6, (some .boolean), 3, ct_X1_pushOn l, by decide, by decide, mi_X1_pushOn.1, mi_X1_pushOn.2, ml_RX4_117, mv_X1_pushOn.1, mv_X1_pushOn.2, ⟨_, _, rfl⟩, by decide, by decide +kernel⟩)), List.forall_mem_cons.mpr ⟨Or.inr (Or.inr (Or.inr ⟨yX1_frame, cX1_frame, 2, (some (.object "FrameProver$Clauses")), 0, ct_X1_frame l, by decide, by decide, mi_X1_frame.1, mi_X1_frame.2, ml_RX4_50, mv_X1_frame.1, mv_X1_frame.2, ⟨_, _, rfl⟩, by decide, by decide +kernel⟩)), List.forall_mem_cons.mpr ⟨Or.inr (Or.inr (Or.inr ⟨yX0_hasAllOf, cX0_hasAllOf, 3, (some .boolean), 2, ct_X0_hasAllOf l, by decide, by decide, mi_X0_hasAllOf.1, mi_X0_hasAllOf.2, ml_RX4_120, mv_X0_hasAllOf.1, mv_X0_hasAllOf.2, ⟨_, _, rfl⟩, by decide, by decide +kernel⟩)), fun _ h => absurd h List.not_mem_nil⟩⟩⟩) (x, q) (lkp_mem h)) sf_RX4_ok (by decide +kernel) 400 (fun As σ Q h => ?_)
  replace h := p1r_e h
  obtain ⟨z0, q0, rfl, h⟩ := h
  replace h := onB_e h
  obtain ⟨e0, h⟩ := h
  have e0 := Nat.eq_of_beq_eq_true e0
  subst e0
  replace h := onB_e h
  obtain ⟨e9, h⟩ := h
  have e9 := List.isEmpty_iff.mp e9
  subst e9
  refine ⟨Nat.le_of_ble_eq_true rfl, fun P hP => ?_⟩
  exact h (fun x1 τ => P 2 [.ref 1164, .int x1] τ) (fun x1 τ => P 41 [.ref 1164, .int x1] τ) (fun x1 τ hb => hP 2 [.ref 1164, .int x1] τ hb) (fun x1 τ hb => hP 41 [.ref 1164, .int x1] τ hb)
def wp_X4_choiceOfWay (x1 : Int32) (σ : Sg) (Q : Int32 → Sg → Prop) : Prop :=
  wp_X4_stateOfWay x1 σ (fun r1 => wp_X3_evaluate r1 σ (fun s2 => wp_X4_waySteps s2 (fun r3 => ((x1 < r3 → wp_X4_stateOfWay (x1 + (1 : Int32)) s2 (fun r4 => wp_X3_leastChoicesTo r4 s2 (fun r5 => Q r5 s2))) ∧ (¬ x1 < r3 → wp_X3_leastChoicesOfBad s2 (fun r6 => Q r6 s2))))))
def wl_X4_choiceOfWay : WP := fun As σ Q => p1r As (fun z0 r0 => onB (Nat.beq z0 1164) (p1i r0 (fun x1 r1 => onB r1.isEmpty (wp_X4_choiceOfWay x1 σ (fun x τ => Q (some (.int x)) τ)))))
def tb_X4_choiceOfWay : List (Nat × Instr × Nat) := [(0, (.aload_n 0, 1)), (1, (.getfield 18, 3)), (4, (.aload_n 0, 1)), (5, (.iload_n 1, 1)), (6, (.invokevirtual 129, 3)), (9, (.invokevirtual 132, 3)), (12, (.iload_n 1, 1)), (13, (.aload_n 0, 1)), (14, (.invokevirtual 136, 3)), (17, (.if_icmp .lt 28, 3)), (20, (.aload_n 0, 1)), (21, (.getfield 18, 3)), (24, (.invokevirtual 139, 3)), (27, (.ireturn, 1)), (28, (.aload_n 0, 1)), (29, (.getfield 18, 3)), (32, (.aload_n 0, 1)), (33, (.iload_n 1, 1)), (34, (.iconst 1, 1)), (35, (.iadd, 1)), (36, (.invokevirtual 129, 3)), (39, (.invokevirtual 142, 3)), (42, (.ireturn, 1))]
def ce_X4_choiceOfWay : List (Nat × (Nat × Option Nat × WP)) := [(129, (2, some 4, wl_X4_stateOfWay)), (132, (2, some 3, wl_X3_evaluate)), (136, (1, some 4, wl_X4_waySteps)), (139, (1, some 3, wl_X3_leastChoicesOfBad)), (142, (2, some 3, wl_X3_leastChoicesTo))]
set_option maxRecDepth 100000 in
set_option maxHeartbeats 4000000 in
theorem ct_X4_choiceOfWay (l : Launch) : Con l wX yX4_choiceOfWay cX4_choiceOfWay 2 (some .int) 4 wl_X4_choiceOfWay := by
  refine sxm_ok l (ft := lkp ft_RX4) (c32 := lkp c32_RX4) (c64 := lkp c64_RX4) (ce := lkp ce_X4_choiceOfWay) (sf := lkp sf_RX4) (lab := lkp []) (T := tb_X4_choiceOfWay) (by decide +kernel) ft_RX4_ok c32_RX4_ok c64_RX4_ok (fun x q h => (show ∀ q ∈ ce_X4_choiceOfWay, ceOK l wX RX4 4 q.1 q.2.1 q.2.2.1 q.2.2.2 from List.forall_mem_cons.mpr ⟨Or.inr (Or.inr (Or.inr ⟨yX4_stateOfWay, cX4_stateOfWay, 2, (some .int), 1, ct_X4_stateOfWay l, by decide, by decide, mi_X4_stateOfWay.1, mi_X4_stateOfWay.2, ml_RX4_129, mv_X4_stateOfWay.1, mv_X4_stateOfWay.2, ⟨_, _, rfl⟩, by decide, by decide +kernel⟩)), List.forall_mem_cons.mpr ⟨Or.inr (Or.inr (Or.inr ⟨yX3_evaluate, cX3_evaluate, 3, none, 2, ct_X3_evaluate l, by decide, by decide, mi_X3_evaluate.1, mi_X3_evaluate.2, ml_RX4_132, mv_X3_evaluate.1, mv_X3_evaluate.2, ⟨_, _, rfl⟩, by decide, by decide +kernel⟩)), List.forall_mem_cons.mpr ⟨Or.inr (Or.inr (Or.inr ⟨yX4_waySteps, cX4_waySteps, 1, (some .int), 1, ct_X4_waySteps l, by decide, by decide, mi_X4_waySteps.1, mi_X4_waySteps.2, ml_RX4_136, mv_X4_waySteps.1, mv_X4_waySteps.2, ⟨_, _, rfl⟩, by decide, by decide +kernel⟩)), List.forall_mem_cons.mpr ⟨Or.inr (Or.inr (Or.inr ⟨yX3_leastChoicesOfBad, cX3_leastChoicesOfBad, 3, (some .int), 3, ct_X3_leastChoicesOfBad l, by decide, by decide, mi_X3_leastChoicesOfBad.1, mi_X3_leastChoicesOfBad.2, ml_RX4_139, mv_X3_leastChoicesOfBad.1, mv_X3_leastChoicesOfBad.2, ⟨_, _, rfl⟩, by decide, by decide +kernel⟩)), List.forall_mem_cons.mpr ⟨Or.inr (Or.inr (Or.inr ⟨yX3_leastChoicesTo, cX3_leastChoicesTo, 4, (some .int), 3, ct_X3_leastChoicesTo l, by decide, by decide, mi_X3_leastChoicesTo.1, mi_X3_leastChoicesTo.2, ml_RX4_142, mv_X3_leastChoicesTo.1, mv_X3_leastChoicesTo.2, ⟨_, _, rfl⟩, by decide, by decide +kernel⟩)), fun _ h => absurd h List.not_mem_nil⟩⟩⟩⟩⟩) (x, q) (lkp_mem h)) sf_RX4_ok (by decide +kernel) 400 (fun As σ Q h => ?_)
  replace h := p1r_e h
  obtain ⟨z0, q0, rfl, h⟩ := h
  replace h := onB_e h
  obtain ⟨e0, h⟩ := h
  have e0 := Nat.eq_of_beq_eq_true e0
  subst e0
  replace h := p1i_e h
  obtain ⟨x1, q1, rfl, h⟩ := h
  replace h := onB_e h
  obtain ⟨e9, h⟩ := h
  have e9 := List.isEmpty_iff.mp e9
  subst e9
  refine ⟨Nat.le_of_ble_eq_true rfl, fun P hP => ?_⟩
  exact h 
def wp_X8_renew  (σ : Sg) (Q : Sg → Prop) : Prop :=
  ∀ L22 : Int32 → Sg → Prop,
  (∀ (x1 : Int32) (τ : Sg), wp_X3_states τ (fun r1 => ((x1 < r1 → wp_X3_evaluate x1 τ (fun s2 => wp_X3_badLanes s2 (fun r3 => ((r3 = 0 → wp_X8_from x1 s2 (fun r4 => wp_X8_renewFrom r4 s2 (fun s5 => L22 (x1 + (1 : Int32)) s5))) ∧ (¬ r3 = 0 → wp_X7_put 18 x1 s2 (fun s6 => wp_X8_from x1 s6 (fun r7 => wp_X8_renewFrom r7 s6 (fun s8 => L22 (x1 + (1 : Int32)) s8)))))))) ∧ (¬ x1 < r1 → Q τ))) → L22 x1 τ) →
  (((gI σ 13 10) = 0 → Q σ) ∧ (¬ (gI σ 13 10) = 0 → (nz (0 : Int32) ∧ wp_X7_becomeEmpty 18 (sI σ 13 10 (0 : Int32)) (fun s9 => L22 (0 : Int32) s9))))
def wl_X8_renew : WP := fun As σ Q => p1r As (fun z0 r0 => onB (Nat.beq z0 13) (onB r0.isEmpty (wp_X8_renew  σ (fun τ => Q none τ))))
def tb_X8_renew : List (Nat × Instr × Nat) := [(0, (.aload_n 0, 1)), (1, (.getfield 43, 3)), (4, (.ifCond .ne 8, 3)), (7, (.return_, 1)), (8, (.aload_n 0, 1)), (9, (.iconst 0, 1)), (10, (.putfield 43, 3)), (13, (.aload_n 0, 1)), (14, (.getfield 25, 3)), (17, (.invokevirtual 51, 3)), (20, (.iconst 0, 1)), (21, (.istore_n 1, 1)), (22, (.iload_n 1, 1)), (23, (.aload_n 0, 1)), (24, (.getfield 47, 3)), (27, (.invokevirtual 54, 3)), (30, (.if_icmp .ge 74, 3)), (33, (.aload_n 0, 1)), (34, (.getfield 47, 3)), (37, (.iload_n 1, 1)), (38, (.invokevirtual 60, 3)), (41, (.aload_n 0, 1)), (42, (.getfield 47, 3)), (45, (.invokevirtual 64, 3)), (48, (.ifCond .eq 59, 3)), (51, (.aload_n 0, 1)), (52, (.getfield 25, 3)), (55, (.iload_n 1, 1)), (56, (.invokevirtual 67, 3)), (59, (.aload_n 0, 1)), (60, (.aload_n 0, 1)), (61, (.iload_n 1, 1)), (62, (.invokevirtual 70, 3)), (65, (.invokevirtual 74, 3)), (68, (.iinc 1 1, 3)), (71, (.goto 22, 3)), (74, (.return_, 1))]
def ce_X8_renew : List (Nat × (Nat × Option Nat × WP)) := [(51, (1, some 7, wl_X7_becomeEmpty)), (54, (1, some 3, wl_X3_states)), (60, (2, some 3, wl_X3_evaluate)), (64, (1, some 3, wl_X3_badLanes)), (67, (2, some 7, wl_X7_put)), (70, (2, some 8, wl_X8_from)), (74, (2, some 8, wl_X8_renewFrom))]
set_option maxRecDepth 100000 in
set_option maxHeartbeats 4000000 in
theorem ct_X8_renew (l : Launch) : Con l wX yX8_renew cX8_renew 2 none 4 wl_X8_renew := by
  refine sxm_ok l (ft := lkp ft_RX8) (c32 := lkp c32_RX8) (c64 := lkp c64_RX8) (ce := lkp ce_X8_renew) (sf := lkp sf_RX8) (lab := lkp [(22, [0, 1])]) (T := tb_X8_renew) (by decide +kernel) ft_RX8_ok c32_RX8_ok c64_RX8_ok (fun x q h => (show ∀ q ∈ ce_X8_renew, ceOK l wX RX8 4 q.1 q.2.1 q.2.2.1 q.2.2.2 from List.forall_mem_cons.mpr ⟨Or.inr (Or.inr (Or.inr ⟨yX7_becomeEmpty, cX7_becomeEmpty, 1, none, 1, ct_X7_becomeEmpty l, by decide, by decide, mi_X7_becomeEmpty.1, mi_X7_becomeEmpty.2, ml_RX8_51, mv_X7_becomeEmpty.1, mv_X7_becomeEmpty.2, ⟨_, _, rfl⟩, by decide, by decide +kernel⟩)), List.forall_mem_cons.mpr ⟨Or.inr (Or.inr (Or.inr ⟨yX3_states, cX3_states, 1, (some .int), 0, ct_X3_states l, by decide, by decide, mi_X3_states.1, mi_X3_states.2, ml_RX8_54, mv_X3_states.1, mv_X3_states.2, ⟨_, _, rfl⟩, by decide, by decide +kernel⟩)), List.forall_mem_cons.mpr ⟨Or.inr (Or.inr (Or.inr ⟨yX3_evaluate, cX3_evaluate, 3, none, 2, ct_X3_evaluate l, by decide, by decide, mi_X3_evaluate.1, mi_X3_evaluate.2, ml_RX8_60, mv_X3_evaluate.1, mv_X3_evaluate.2, ⟨_, _, rfl⟩, by decide, by decide +kernel⟩)), List.forall_mem_cons.mpr ⟨Or.inr (Or.inr (Or.inr ⟨yX3_badLanes, cX3_badLanes, 1, (some .int), 2, ct_X3_badLanes l, by decide, by decide, mi_X3_badLanes.1, mi_X3_badLanes.2, ml_RX8_64, mv_X3_badLanes.1, mv_X3_badLanes.2, ⟨_, _, rfl⟩, by decide, by decide +kernel⟩)), List.forall_mem_cons.mpr ⟨Or.inr (Or.inr (Or.inr ⟨yX7_put, cX7_put, 2, none, 0, ct_X7_put l, by decide, by decide, mi_X7_put.1, mi_X7_put.2, ml_RX8_67, mv_X7_put.1, mv_X7_put.2, ⟨_, _, rfl⟩, by decide, by decide +kernel⟩)), List.forall_mem_cons.mpr ⟨Or.inr (Or.inr (Or.inr ⟨yX8_from, cX8_from, 2, (some (.object "FrameProver$StateSet")), 0, ct_X8_from l, by decide, by decide, mi_X8_from.1, mi_X8_from.2, ml_RX8_70, mv_X8_from.1, mv_X8_from.2, ⟨_, _, rfl⟩, by decide, by decide +kernel⟩)), List.forall_mem_cons.mpr ⟨Or.inr (Or.inr (Or.inr ⟨yX8_renewFrom, cX8_renewFrom, 4, none, 3, ct_X8_renewFrom l, by decide, by decide, mi_X8_renewFrom.1, mi_X8_renewFrom.2, ml_RX8_74, mv_X8_renewFrom.1, mv_X8_renewFrom.2, ⟨_, _, rfl⟩, by decide, by decide +kernel⟩)), fun _ h => absurd h List.not_mem_nil⟩⟩⟩⟩⟩⟩⟩) (x, q) (lkp_mem h)) sf_RX8_ok (by decide +kernel) 400 (fun As σ Q h => ?_)
  replace h := p1r_e h
  obtain ⟨z0, q0, rfl, h⟩ := h
  replace h := onB_e h
  obtain ⟨e0, h⟩ := h
  have e0 := Nat.eq_of_beq_eq_true e0
  subst e0
  replace h := onB_e h
  obtain ⟨e9, h⟩ := h
  have e9 := List.isEmpty_iff.mp e9
  subst e9
  refine ⟨Nat.le_of_ble_eq_true rfl, fun P hP => ?_⟩
  exact h (fun x1 τ => P 22 [.ref 13, .int x1] τ) (fun x1 τ hb => hP 22 [.ref 13, .int x1] τ hb)
def wp_X8_isCircleFair  (σ : Sg) (Q : Int32 → Sg → Prop) : Prop :=
  ∀ L2 : Int32 → Sg → Prop,
  (∀ (x1 : Int32) (τ : Sg), ((x1 < (gI τ 11 1) → wp_X6_signAt 11 x1 τ (fun r1 => wp_X8_isInCircle r1 τ (fun r2 s3 => ((r2 = 0 → (nz (0 : Int32) ∧ Q (0 : Int32) s3)) ∧ (¬ r2 = 0 → L2 (x1 + (1 : Int32)) s3))))) ∧ (¬ x1 < (gI τ 11 1) → (nz (1 : Int32) ∧ Q (1 : Int32) τ))) → L2 x1 τ) →
  L2 (0 : Int32) σ
def wl_X8_isCircleFair : WP := fun As σ Q => p1r As (fun z0 r0 => onB (Nat.beq z0 13) (onB r0.isEmpty (wp_X8_isCircleFair  σ (fun x τ => Q (some (.int x)) τ))))
def tb_X8_isCircleFair : List (Nat × Instr × Nat) := [(0, (.iconst 0, 1)), (1, (.istore_n 1, 1)), (2, (.iload_n 1, 1)), (3, (.aload_n 0, 1)), (4, (.getfield 47, 3)), (7, (.getfield 140, 3)), (10, (.getfield 144, 3)), (13, (.if_icmp .ge 42, 3)), (16, (.aload_n 0, 1)), (17, (.aload_n 0, 1)), (18, (.getfield 47, 3)), (21, (.getfield 140, 3)), (24, (.iload_n 1, 1)), (25, (.invokevirtual 149, 3)), (28, (.invokevirtual 152, 3)), (31, (.ifCond .ne 36, 3)), (34, (.iconst 0, 1)), (35, (.ireturn, 1)), (36, (.iinc 1 1, 3)), (39, (.goto 2, 3)), (42, (.iconst 1, 1)), (43, (.ireturn, 1))]
def ce_X8_isCircleFair : List (Nat × (Nat × Option Nat × WP)) := [(149, (2, some 6, wl_X6_signAt)), (152, (2, some 8, wl_X8_isInCircle))]
set_option maxRecDepth 100000 in
set_option maxHeartbeats 4000000 in
theorem ct_X8_isCircleFair (l : Launch) : Con l wX yX8_isCircleFair cX8_isCircleFair 2 (some .boolean) 4 wl_X8_isCircleFair := by
  refine sxm_ok l (ft := lkp ft_RX8) (c32 := lkp c32_RX8) (c64 := lkp c64_RX8) (ce := lkp ce_X8_isCircleFair) (sf := lkp sf_RX8) (lab := lkp [(2, [0, 1])]) (T := tb_X8_isCircleFair) (by decide +kernel) ft_RX8_ok c32_RX8_ok c64_RX8_ok (fun x q h => (show ∀ q ∈ ce_X8_isCircleFair, ceOK l wX RX8 4 q.1 q.2.1 q.2.2.1 q.2.2.2 from List.forall_mem_cons.mpr ⟨Or.inr (Or.inr (Or.inr ⟨yX6_signAt, cX6_signAt, 2, (some .int), 0, ct_X6_signAt l, by decide, by decide, mi_X6_signAt.1, mi_X6_signAt.2, ml_RX8_149, mv_X6_signAt.1, mv_X6_signAt.2, ⟨_, _, rfl⟩, by decide, by decide +kernel⟩)), List.forall_mem_cons.mpr ⟨Or.inr (Or.inr (Or.inr ⟨yX8_isInCircle, cX8_isInCircle, 5, (some .boolean), 3, ct_X8_isInCircle l, by decide, by decide, mi_X8_isInCircle.1, mi_X8_isInCircle.2, ml_RX8_152, mv_X8_isInCircle.1, mv_X8_isInCircle.2, ⟨_, _, rfl⟩, by decide, by decide +kernel⟩)), fun _ h => absurd h List.not_mem_nil⟩⟩) (x, q) (lkp_mem h)) sf_RX8_ok (by decide +kernel) 400 (fun As σ Q h => ?_)
  replace h := p1r_e h
  obtain ⟨z0, q0, rfl, h⟩ := h
  replace h := onB_e h
  obtain ⟨e0, h⟩ := h
  have e0 := Nat.eq_of_beq_eq_true e0
  subst e0
  replace h := onB_e h
  obtain ⟨e9, h⟩ := h
  have e9 := List.isEmpty_iff.mp e9
  subst e9
  refine ⟨Nat.le_of_ble_eq_true rfl, fun P hP => ?_⟩
  exact h (fun x1 τ => P 2 [.ref 13, .int x1] τ) (fun x1 τ hb => hP 2 [.ref 13, .int x1] τ hb)
def wp_X9_bit (x1 : Int32) (x2 : Int32) (σ : Sg) (Q : Int32 → Sg → Prop) : Prop :=
  wp_X3_isFull σ (fun r1 => ((r1 = 0 → (((gI σ 1 11) < (8 : Int32) → wp_X3_addBit x1 x2 σ (fun r2 s3 => wp_X9_startAnew s3 (fun s4 => Q r2 s4))) ∧ (¬ (gI σ 1 11) < (8 : Int32) → wp_X9_refuse (-8 : Int32) σ (fun r5 s6 => Q r5 s6)))) ∧ (¬ r1 = 0 → wp_X9_refuse (-8 : Int32) σ (fun r7 s8 => Q r7 s8))))
def wl_X9_bit : WP := fun As σ Q => p1r As (fun z0 r0 => onB (Nat.beq z0 0) (p1i r0 (fun x1 r1 => p1i r1 (fun x2 r2 => onB r2.isEmpty (wp_X9_bit x1 x2 σ (fun x τ => Q (some (.int x)) τ))))))
def tb_X9_bit : List (Nat × Instr × Nat) := [(0, (.aload_n 0, 1)), (1, (.getfield 10, 3)), (4, (.invokevirtual 75, 3)), (7, (.ifCond .ne 22, 3)), (10, (.aload_n 0, 1)), (11, (.getfield 10, 3)), (14, (.getfield 79, 3)), (17, (.bipush 8, 2)), (19, (.if_icmp .lt 29, 3)), (22, (.aload_n 0, 1)), (23, (.bipush (-8), 2)), (25, (.invokevirtual 83, 3)), (28, (.ireturn, 1)), (29, (.aload_n 0, 1)), (30, (.getfield 10, 3)), (33, (.iload_n 1, 1)), (34, (.iload_n 2, 1)), (35, (.invokevirtual 87, 3)), (38, (.istore_n 3, 1)), (39, (.aload_n 0, 1)), (40, (.invokevirtual 72, 3)), (43, (.iload_n 3, 1)), (44, (.ireturn, 1))]
def ce_X9_bit : List (Nat × (Nat × Option Nat × WP)) := [(75, (1, some 3, wl_X3_isFull)), (83, (2, some 9, wl_X9_refuse)), (87, (3, some 3, wl_X3_addBit)), (72, (1, some 9, wl_X9_startAnew))]
set_option maxRecDepth 100000 in
set_option maxHeartbeats 4000000 in
theorem ct_X9_bit (l : Launch) : Con l wX yX9_bit cX9_bit 4 (some .int) 4 wl_X9_bit := by
  refine sxm_ok l (ft := lkp ft_RX9) (c32 := lkp c32_RX9) (c64 := lkp c64_RX9) (ce := lkp ce_X9_bit) (sf := lkp sf_RX9) (lab := lkp []) (T := tb_X9_bit) (by decide +kernel) ft_RX9_ok c32_RX9_ok c64_RX9_ok (fun x q h => (show ∀ q ∈ ce_X9_bit, ceOK l wX RX9 4 q.1 q.2.1 q.2.2.1 q.2.2.2 from List.forall_mem_cons.mpr ⟨Or.inr (Or.inr (Or.inr ⟨yX3_isFull, cX3_isFull, 1, (some .boolean), 0, ct_X3_isFull l, by decide, by decide, mi_X3_isFull.1, mi_X3_isFull.2, ml_RX9_75, mv_X3_isFull.1, mv_X3_isFull.2, ⟨_, _, rfl⟩, by decide, by decide +kernel⟩)), List.forall_mem_cons.mpr ⟨Or.inr (Or.inr (Or.inr ⟨yX9_refuse, cX9_refuse, 2, (some .int), 0, ct_X9_refuse l, by decide, by decide, mi_X9_refuse.1, mi_X9_refuse.2, ml_RX9_83, mv_X9_refuse.1, mv_X9_refuse.2, ⟨_, _, rfl⟩, by decide, by decide +kernel⟩)), List.forall_mem_cons.mpr ⟨Or.inr (Or.inr (Or.inr ⟨yX3_addBit, cX3_addBit, 4, (some .int), 1, ct_X3_addBit l, by decide, by decide, mi_X3_addBit.1, mi_X3_addBit.2, ml_RX9_87, mv_X3_addBit.1, mv_X3_addBit.2, ⟨_, _, rfl⟩, by decide, by decide +kernel⟩)), List.forall_mem_cons.mpr ⟨Or.inr (Or.inr (Or.inr ⟨yX9_startAnew, cX9_startAnew, 1, none, 3, ct_X9_startAnew l, by decide, by decide, mi_X9_startAnew.1, mi_X9_startAnew.2, ml_RX9_72, mv_X9_startAnew.1, mv_X9_startAnew.2, ⟨_, _, rfl⟩, by decide, by decide +kernel⟩)), fun _ h => absurd h List.not_mem_nil⟩⟩⟩⟩) (x, q) (lkp_mem h)) sf_RX9_ok (by decide +kernel) 400 (fun As σ Q h => ?_)
  replace h := p1r_e h
  obtain ⟨z0, q0, rfl, h⟩ := h
  replace h := onB_e h
  obtain ⟨e0, h⟩ := h
  have e0 := Nat.eq_of_beq_eq_true e0
  subst e0
  replace h := p1i_e h
  obtain ⟨x1, q1, rfl, h⟩ := h
  replace h := p1i_e h
  obtain ⟨x2, q2, rfl, h⟩ := h
  replace h := onB_e h
  obtain ⟨e9, h⟩ := h
  have e9 := List.isEmpty_iff.mp e9
  subst e9
  refine ⟨Nat.le_of_ble_eq_true rfl, fun P hP => ?_⟩
  exact h 
def wp_X9_input  (σ : Sg) (Q : Int32 → Sg → Prop) : Prop :=
  wp_X3_isFull σ (fun r1 => ((r1 = 0 → (((gI σ 1 12) < (4 : Int32) → wp_X3_addInput σ (fun r2 s3 => wp_X9_startAnew s3 (fun s4 => Q r2 s4))) ∧ (¬ (gI σ 1 12) < (4 : Int32) → wp_X9_refuse (-8 : Int32) σ (fun r5 s6 => Q r5 s6)))) ∧ (¬ r1 = 0 → wp_X9_refuse (-8 : Int32) σ (fun r7 s8 => Q r7 s8))))
def wl_X9_input : WP := fun As σ Q => p1r As (fun z0 r0 => onB (Nat.beq z0 0) (onB r0.isEmpty (wp_X9_input  σ (fun x τ => Q (some (.int x)) τ))))
def tb_X9_input : List (Nat × Instr × Nat) := [(0, (.aload_n 0, 1)), (1, (.getfield 10, 3)), (4, (.invokevirtual 75, 3)), (7, (.ifCond .ne 21, 3)), (10, (.aload_n 0, 1)), (11, (.getfield 10, 3)), (14, (.getfield 91, 3)), (17, (.iconst 4, 1)), (18, (.if_icmp .lt 28, 3)), (21, (.aload_n 0, 1)), (22, (.bipush (-8), 2)), (24, (.invokevirtual 83, 3)), (27, (.ireturn, 1)), (28, (.aload_n 0, 1)), (29, (.getfield 10, 3)), (32, (.invokevirtual 94, 3)), (35, (.istore_n 1, 1)), (36, (.aload_n 0, 1)), (37, (.invokevirtual 72, 3)), (40, (.iload_n 1, 1)), (41, (.ireturn, 1))]
def ce_X9_input : List (Nat × (Nat × Option Nat × WP)) := [(75, (1, some 3, wl_X3_isFull)), (83, (2, some 9, wl_X9_refuse)), (94, (1, some 3, wl_X3_addInput)), (72, (1, some 9, wl_X9_startAnew))]
set_option maxRecDepth 100000 in
set_option maxHeartbeats 4000000 in
theorem ct_X9_input (l : Launch) : Con l wX yX9_input cX9_input 2 (some .int) 4 wl_X9_input := by
  refine sxm_ok l (ft := lkp ft_RX9) (c32 := lkp c32_RX9) (c64 := lkp c64_RX9) (ce := lkp ce_X9_input) (sf := lkp sf_RX9) (lab := lkp []) (T := tb_X9_input) (by decide +kernel) ft_RX9_ok c32_RX9_ok c64_RX9_ok (fun x q h => (show ∀ q ∈ ce_X9_input, ceOK l wX RX9 4 q.1 q.2.1 q.2.2.1 q.2.2.2 from List.forall_mem_cons.mpr ⟨Or.inr (Or.inr (Or.inr ⟨yX3_isFull, cX3_isFull, 1, (some .boolean), 0, ct_X3_isFull l, by decide, by decide, mi_X3_isFull.1, mi_X3_isFull.2, ml_RX9_75, mv_X3_isFull.1, mv_X3_isFull.2, ⟨_, _, rfl⟩, by decide, by decide +kernel⟩)), List.forall_mem_cons.mpr ⟨Or.inr (Or.inr (Or.inr ⟨yX9_refuse, cX9_refuse, 2, (some .int), 0, ct_X9_refuse l, by decide, by decide, mi_X9_refuse.1, mi_X9_refuse.2, ml_RX9_83, mv_X9_refuse.1, mv_X9_refuse.2, ⟨_, _, rfl⟩, by decide, by decide +kernel⟩)), List.forall_mem_cons.mpr ⟨Or.inr (Or.inr (Or.inr ⟨yX3_addInput, cX3_addInput, 2, (some .int), 1, ct_X3_addInput l, by decide, by decide, mi_X3_addInput.1, mi_X3_addInput.2, ml_RX9_94, mv_X3_addInput.1, mv_X3_addInput.2, ⟨_, _, rfl⟩, by decide, by decide +kernel⟩)), List.forall_mem_cons.mpr ⟨Or.inr (Or.inr (Or.inr ⟨yX9_startAnew, cX9_startAnew, 1, none, 3, ct_X9_startAnew l, by decide, by decide, mi_X9_startAnew.1, mi_X9_startAnew.2, ml_RX9_72, mv_X9_startAnew.1, mv_X9_startAnew.2, ⟨_, _, rfl⟩, by decide, by decide +kernel⟩)), fun _ h => absurd h List.not_mem_nil⟩⟩⟩⟩) (x, q) (lkp_mem h)) sf_RX9_ok (by decide +kernel) 400 (fun As σ Q h => ?_)
  replace h := p1r_e h
  obtain ⟨z0, q0, rfl, h⟩ := h
  replace h := onB_e h
  obtain ⟨e0, h⟩ := h
  have e0 := Nat.eq_of_beq_eq_true e0
  subst e0
  replace h := onB_e h
  obtain ⟨e9, h⟩ := h
  have e9 := List.isEmpty_iff.mp e9
  subst e9
  refine ⟨Nat.le_of_ble_eq_true rfl, fun P hP => ?_⟩
  exact h 
def wp_X9_gate (x1 : Int32) (x2 : Int32) (σ : Sg) (Q : Int32 → Sg → Prop) : Prop :=
  wp_X3_hasSign x1 σ (fun r1 => ((r1 = 0 → wp_X9_refuse (-3 : Int32) σ (fun r2 s3 => Q r2 s3)) ∧ (¬ r1 = 0 → wp_X3_hasSign x2 σ (fun r4 => ((r4 = 0 → wp_X9_refuse (-3 : Int32) σ (fun r5 s6 => Q r5 s6)) ∧ (¬ r4 = 0 → wp_X3_isFull σ (fun r7 => ((r7 = 0 → wp_X3_addPart (0 : Int32) x1 x2 σ (fun r8 s9 => wp_X9_startAnew s9 (fun s10 => Q r8 s10))) ∧ (¬ r7 = 0 → wp_X9_refuse (-8 : Int32) σ (fun r11 s12 => Q r11 s12))))))))))
def wl_X9_gate : WP := fun As σ Q => p1r As (fun z0 r0 => onB (Nat.beq z0 0) (p1i r0 (fun x1 r1 => p1i r1 (fun x2 r2 => onB r2.isEmpty (wp_X9_gate x1 x2 σ (fun x τ => Q (some (.int x)) τ))))))
def tb_X9_gate : List (Nat × Instr × Nat) := [(0, (.aload_n 0, 1)), (1, (.getfield 10, 3)), (4, (.iload_n 1, 1)), (5, (.invokevirtual 98, 3)), (8, (.ifCond .eq 22, 3)), (11, (.aload_n 0, 1)), (12, (.getfield 10, 3)), (15, (.iload_n 2, 1)), (16, (.invokevirtual 98, 3)), (19, (.ifCond .ne 29, 3)), (22, (.aload_n 0, 1)), (23, (.bipush (-3), 2)), (25, (.invokevirtual 83, 3)), (28, (.ireturn, 1)), (29, (.aload_n 0, 1)), (30, (.getfield 10, 3)), (33, (.invokevirtual 75, 3)), (36, (.ifCond .eq 46, 3)), (39, (.aload_n 0, 1)), (40, (.bipush (-8), 2)), (42, (.invokevirtual 83, 3)), (45, (.ireturn, 1)), (46, (.aload_n 0, 1)), (47, (.getfield 10, 3)), (50, (.iconst 0, 1)), (51, (.iload_n 1, 1)), (52, (.iload_n 2, 1)), (53, (.invokevirtual 102, 3)), (56, (.istore_n 3, 1)), (57, (.aload_n 0, 1)), (58, (.invokevirtual 72, 3)), (61, (.iload_n 3, 1)), (62, (.ireturn, 1))]
def ce_X9_gate : List (Nat × (Nat × Option Nat × WP)) := [(98, (2, some 3, wl_X3_hasSign)), (83, (2, some 9, wl_X9_refuse)), (75, (1, some 3, wl_X3_isFull)), (102, (4, some 3, wl_X3_addPart)), (72, (1, some 9, wl_X9_startAnew))]
set_option maxRecDepth 100000 in
set_option maxHeartbeats 4000000 in
theorem ct_X9_gate (l : Launch) : Con l wX yX9_gate cX9_gate 4 (some .int) 4 wl_X9_gate := by
  refine sxm_ok l (ft := lkp ft_RX9) (c32 := lkp c32_RX9) (c64 := lkp c64_RX9) (ce := lkp ce_X9_gate) (sf := lkp sf_RX9) (lab := lkp []) (T := tb_X9_gate) (by decide +kernel) ft_RX9_ok c32_RX9_ok c64_RX9_ok (fun x q h => (show ∀ q ∈ ce_X9_gate, ceOK l wX RX9 4 q.1 q.2.1 q.2.2.1 q.2.2.2 from List.forall_mem_cons.mpr ⟨Or.inr (Or.inr (Or.inr ⟨yX3_hasSign, cX3_hasSign, 2, (some .boolean), 1, ct_X3_hasSign l, by decide, by decide, mi_X3_hasSign.1, mi_X3_hasSign.2, ml_RX9_98, mv_X3_hasSign.1, mv_X3_hasSign.2, ⟨_, _, rfl⟩, by decide, by decide +kernel⟩)), List.forall_mem_cons.mpr ⟨Or.inr (Or.inr (Or.inr ⟨yX9_refuse, cX9_refuse, 2, (some .int), 0, ct_X9_refuse l, by decide, by decide, mi_X9_refuse.1, mi_X9_refuse.2, ml_RX9_83, mv_X9_refuse.1, mv_X9_refuse.2, ⟨_, _, rfl⟩, by decide, by decide +kernel⟩)), List.forall_mem_cons.mpr ⟨Or.inr (Or.inr (Or.inr ⟨yX3_isFull, cX3_isFull, 1, (some .boolean), 0, ct_X3_isFull l, by decide, by decide, mi_X3_isFull.1, mi_X3_isFull.2, ml_RX9_75, mv_X3_isFull.1, mv_X3_isFull.2, ⟨_, _, rfl⟩, by decide, by decide +kernel⟩)), List.forall_mem_cons.mpr ⟨Or.inr (Or.inr (Or.inr ⟨yX3_addPart, cX3_addPart, 5, (some .int), 0, ct_X3_addPart l, by decide, by decide, mi_X3_addPart.1, mi_X3_addPart.2, ml_RX9_102, mv_X3_addPart.1, mv_X3_addPart.2, ⟨_, _, rfl⟩, by decide, by decide +kernel⟩)), List.forall_mem_cons.mpr ⟨Or.inr (Or.inr (Or.inr ⟨yX9_startAnew, cX9_startAnew, 1, none, 3, ct_X9_startAnew l, by decide, by decide, mi_X9_startAnew.1, mi_X9_startAnew.2, ml_RX9_72, mv_X9_startAnew.1, mv_X9_startAnew.2, ⟨_, _, rfl⟩, by decide, by decide +kernel⟩)), fun _ h => absurd h List.not_mem_nil⟩⟩⟩⟩⟩) (x, q) (lkp_mem h)) sf_RX9_ok (by decide +kernel) 400 (fun As σ Q h => ?_)
  replace h := p1r_e h
  obtain ⟨z0, q0, rfl, h⟩ := h
  replace h := onB_e h
  obtain ⟨e0, h⟩ := h
  have e0 := Nat.eq_of_beq_eq_true e0
  subst e0
  replace h := p1i_e h
  obtain ⟨x1, q1, rfl, h⟩ := h
  replace h := p1i_e h
  obtain ⟨x2, q2, rfl, h⟩ := h
  replace h := onB_e h
  obtain ⟨e9, h⟩ := h
  have e9 := List.isEmpty_iff.mp e9
  subst e9
  refine ⟨Nat.le_of_ble_eq_true rfl, fun P hP => ?_⟩
  exact h 
def wp_X9_next (x1 : Int32) (x2 : Int32) (σ : Sg) (Q : Int32 → Sg → Prop) : Prop :=
  wp_X3_hasPart x1 σ (fun r1 => ((r1 = 0 → wp_X9_refuse (-3 : Int32) σ (fun r2 s3 => Q r2 s3)) ∧ (¬ r1 = 0 → wp_X3_hasSign x2 σ (fun r4 => ((r4 = 0 → wp_X9_refuse (-3 : Int32) σ (fun r5 s6 => Q r5 s6)) ∧ (¬ r4 = 0 → wp_X3_kindOf x1 σ (fun r7 => ((r7 = (1 : Int32) → wp_X3_setNext x1 x2 σ (fun r8 s9 => wp_X9_startAnew s9 (fun s10 => Q r8 s10))) ∧ (¬ r7 = (1 : Int32) → wp_X9_refuse (-5 : Int32) σ (fun r11 s12 => Q r11 s12))))))))))
def wl_X9_next : WP := fun As σ Q => p1r As (fun z0 r0 => onB (Nat.beq z0 0) (p1i r0 (fun x1 r1 => p1i r1 (fun x2 r2 => onB r2.isEmpty (wp_X9_next x1 x2 σ (fun x τ => Q (some (.int x)) τ))))))
def tb_X9_next : List (Nat × Instr × Nat) := [(0, (.aload_n 0, 1)), (1, (.getfield 10, 3)), (4, (.iload_n 1, 1)), (5, (.invokevirtual 106, 3)), (8, (.ifCond .eq 22, 3)), (11, (.aload_n 0, 1)), (12, (.getfield 10, 3)), (15, (.iload_n 2, 1)), (16, (.invokevirtual 98, 3)), (19, (.ifCond .ne 29, 3)), (22, (.aload_n 0, 1)), (23, (.bipush (-3), 2)), (25, (.invokevirtual 83, 3)), (28, (.ireturn, 1)), (29, (.aload_n 0, 1)), (30, (.getfield 10, 3)), (33, (.iload_n 1, 1)), (34, (.invokevirtual 109, 3)), (37, (.iconst 1, 1)), (38, (.if_icmp .eq 48, 3)), (41, (.aload_n 0, 1)), (42, (.bipush (-5), 2)), (44, (.invokevirtual 83, 3)), (47, (.ireturn, 1)), (48, (.aload_n 0, 1)), (49, (.getfield 10, 3)), (52, (.iload_n 1, 1)), (53, (.iload_n 2, 1)), (54, (.invokevirtual 112, 3)), (57, (.istore_n 3, 1)), (58, (.aload_n 0, 1)), (59, (.invokevirtual 72, 3)), (62, (.iload_n 3, 1)), (63, (.ireturn, 1))]
def ce_X9_next : List (Nat × (Nat × Option Nat × WP)) := [(106, (2, some 3, wl_X3_hasPart)), (98, (2, some 3, wl_X3_hasSign)), (83, (2, some 9, wl_X9_refuse)), (109, (2, some 3, wl_X3_kindOf)), (112, (3, some 3, wl_X3_setNext)), (72, (1, some 9, wl_X9_startAnew))]
set_option maxRecDepth 100000 in
set_option maxHeartbeats 4000000 in
theorem ct_X9_next (l : Launch) : Con l wX yX9_next cX9_next 4 (some .int) 4 wl_X9_next := by
  refine sxm_ok l (ft := lkp ft_RX9) (c32 := lkp c32_RX9) (c64 := lkp c64_RX9) (ce := lkp ce_X9_next) (sf := lkp sf_RX9) (lab := lkp []) (T := tb_X9_next) (by decide +kernel) ft_RX9_ok c32_RX9_ok c64_RX9_ok (fun x q h => (show ∀ q ∈ ce_X9_next, ceOK l wX RX9 4 q.1 q.2.1 q.2.2.1 q.2.2.2 from List.forall_mem_cons.mpr ⟨Or.inr (Or.inr (Or.inr ⟨yX3_hasPart, cX3_hasPart, 2, (some .boolean), 0, ct_X3_hasPart l, by decide, by decide, mi_X3_hasPart.1, mi_X3_hasPart.2, ml_RX9_106, mv_X3_hasPart.1, mv_X3_hasPart.2, ⟨_, _, rfl⟩, by decide, by decide +kernel⟩)), List.forall_mem_cons.mpr ⟨Or.inr (Or.inr (Or.inr ⟨yX3_hasSign, cX3_hasSign, 2, (some .boolean), 1, ct_X3_hasSign l, by decide, by decide, mi_X3_hasSign.1, mi_X3_hasSign.2, ml_RX9_98, mv_X3_hasSign.1, mv_X3_hasSign.2, ⟨_, _, rfl⟩, by decide, by decide +kernel⟩)), List.forall_mem_cons.mpr ⟨Or.inr (Or.inr (Or.inr ⟨yX9_refuse, cX9_refuse, 2, (some .int), 0, ct_X9_refuse l, by decide, by decide, mi_X9_refuse.1, mi_X9_refuse.2, ml_RX9_83, mv_X9_refuse.1, mv_X9_refuse.2, ⟨_, _, rfl⟩, by decide, by decide +kernel⟩)), List.forall_mem_cons.mpr ⟨Or.inr (Or.inr (Or.inr ⟨yX3_kindOf, cX3_kindOf, 2, (some .int), 1, ct_X3_kindOf l, by decide, by decide, mi_X3_kindOf.1, mi_X3_kindOf.2, ml_RX9_109, mv_X3_kindOf.1, mv_X3_kindOf.2, ⟨_, _, rfl⟩, by decide, by decide +kernel⟩)), List.forall_mem_cons.mpr ⟨Or.inr (Or.inr (Or.inr ⟨yX3_setNext, cX3_setNext, 4, (some .int), 1, ct_X3_setNext l, by decide, by decide, mi_X3_setNext.1, mi_X3_setNext.2, ml_RX9_112, mv_X3_setNext.1, mv_X3_setNext.2, ⟨_, _, rfl⟩, by decide, by decide +kernel⟩)), List.forall_mem_cons.mpr ⟨Or.inr (Or.inr (Or.inr ⟨yX9_startAnew, cX9_startAnew, 1, none, 3, ct_X9_startAnew l, by decide, by decide, mi_X9_startAnew.1, mi_X9_startAnew.2, ml_RX9_72, mv_X9_startAnew.1, mv_X9_startAnew.2, ⟨_, _, rfl⟩, by decide, by decide +kernel⟩)), fun _ h => absurd h List.not_mem_nil⟩⟩⟩⟩⟩⟩) (x, q) (lkp_mem h)) sf_RX9_ok (by decide +kernel) 400 (fun As σ Q h => ?_)
  replace h := p1r_e h
  obtain ⟨z0, q0, rfl, h⟩ := h
  replace h := onB_e h
  obtain ⟨e0, h⟩ := h
  have e0 := Nat.eq_of_beq_eq_true e0
  subst e0
  replace h := p1i_e h
  obtain ⟨x1, q1, rfl, h⟩ := h
  replace h := p1i_e h
  obtain ⟨x2, q2, rfl, h⟩ := h
  replace h := onB_e h
  obtain ⟨e9, h⟩ := h
  have e9 := List.isEmpty_iff.mp e9
  subst e9
  refine ⟨Nat.le_of_ble_eq_true rfl, fun P hP => ?_⟩
  exact h 
def wp_X9_bad (x1 : Int32) (σ : Sg) (Q : Int32 → Sg → Prop) : Prop :=
  ((x1 = (-1 : Int32) → wp_X9_startAnew (sI σ 1 9 x1) (fun s1 => Q (gI σ 1 9) s1)) ∧ (¬ x1 = (-1 : Int32) → wp_X3_hasSign x1 σ (fun r2 => ((r2 = 0 → wp_X9_refuse (-3 : Int32) σ (fun r3 s4 => Q r3 s4)) ∧ (¬ r2 = 0 → wp_X9_startAnew (sI σ 1 9 x1) (fun s5 => Q (gI σ 1 9) s5))))))
def wl_X9_bad : WP := fun As σ Q => p1r As (fun z0 r0 => onB (Nat.beq z0 0) (p1i r0 (fun x1 r1 => onB r1.isEmpty (wp_X9_bad x1 σ (fun x τ => Q (some (.int x)) τ)))))
def tb_X9_bad : List (Nat × Instr × Nat) := [(0, (.iload_n 1, 1)), (1, (.iconst (-1), 1)), (2, (.if_icmp .eq 23, 3)), (5, (.aload_n 0, 1)), (6, (.getfield 10, 3)), (9, (.iload_n 1, 1)), (10, (.invokevirtual 98, 3)), (13, (.ifCond .ne 23, 3)), (16, (.aload_n 0, 1)), (17, (.bipush (-3), 2)), (19, (.invokevirtual 83, 3)), (22, (.ireturn, 1)), (23, (.aload_n 0, 1)), (24, (.getfield 10, 3)), (27, (.getfield 116, 3)), (30, (.istore_n 2, 1)), (31, (.aload_n 0, 1)), (32, (.getfield 10, 3)), (35, (.iload_n 1, 1)), (36, (.putfield 116, 3)), (39, (.aload_n 0, 1)), (40, (.invokevirtual 72, 3)), (43, (.iload_n 2, 1)), (44, (.ireturn, 1))]
def ce_X9_bad : List (Nat × (Nat × Option Nat × WP)) := [(98, (2, some 3, wl_X3_hasSign)), (83, (2, some 9, wl_X9_refuse)), (72, (1, some 9, wl_X9_startAnew))]
set_option maxRecDepth 100000 in
set_option maxHeartbeats 4000000 in
theorem ct_X9_bad (l : Launch) : Con l wX yX9_bad cX9_bad 3 (some .int) 4 wl_X9_bad := by
  refine sxm_ok l (ft := lkp ft_RX9) (c32 := lkp c32_RX9) (c64 := lkp c64_RX9) (ce := lkp ce_X9_bad) (sf := lkp sf_RX9) (lab := lkp []) (T := tb_X9_bad) (by decide +kernel) ft_RX9_ok c32_RX9_ok c64_RX9_ok (fun x q h => (show ∀ q ∈ ce_X9_bad, ceOK l wX RX9 4 q.1 q.2.1 q.2.2.1 q.2.2.2 from List.forall_mem_cons.mpr ⟨Or.inr (Or.inr (Or.inr ⟨yX3_hasSign, cX3_hasSign, 2, (some .boolean), 1, ct_X3_hasSign l, by decide, by decide, mi_X3_hasSign.1, mi_X3_hasSign.2, ml_RX9_98, mv_X3_hasSign.1, mv_X3_hasSign.2, ⟨_, _, rfl⟩, by decide, by decide +kernel⟩)), List.forall_mem_cons.mpr ⟨Or.inr (Or.inr (Or.inr ⟨yX9_refuse, cX9_refuse, 2, (some .int), 0, ct_X9_refuse l, by decide, by decide, mi_X9_refuse.1, mi_X9_refuse.2, ml_RX9_83, mv_X9_refuse.1, mv_X9_refuse.2, ⟨_, _, rfl⟩, by decide, by decide +kernel⟩)), List.forall_mem_cons.mpr ⟨Or.inr (Or.inr (Or.inr ⟨yX9_startAnew, cX9_startAnew, 1, none, 3, ct_X9_startAnew l, by decide, by decide, mi_X9_startAnew.1, mi_X9_startAnew.2, ml_RX9_72, mv_X9_startAnew.1, mv_X9_startAnew.2, ⟨_, _, rfl⟩, by decide, by decide +kernel⟩)), fun _ h => absurd h List.not_mem_nil⟩⟩⟩) (x, q) (lkp_mem h)) sf_RX9_ok (by decide +kernel) 400 (fun As σ Q h => ?_)
  replace h := p1r_e h
  obtain ⟨z0, q0, rfl, h⟩ := h
  replace h := onB_e h
  obtain ⟨e0, h⟩ := h
  have e0 := Nat.eq_of_beq_eq_true e0
  subst e0
  replace h := p1i_e h
  obtain ⟨x1, q1, rfl, h⟩ := h
  replace h := onB_e h
  obtain ⟨e9, h⟩ := h
  have e9 := List.isEmpty_iff.mp e9
  subst e9
  refine ⟨Nat.le_of_ble_eq_true rfl, fun P hP => ?_⟩
  exact h 
def wp_X9_take  (σ : Sg) (Q : Int32 → Sg → Prop) : Prop :=
  wp_X4_hasWall σ (fun r1 => ((r1 = 0 → wp_X9_refuse (-2 : Int32) σ (fun r2 s3 => Q r2 s3)) ∧ (¬ r1 = 0 → wp_X1_frame (gI σ 1164 9) σ (fun r4 => onB (isK wX r4 0) ((((100 : Int32) < (gI σ r4 2) → wp_X9_refuse (-8 : Int32) σ (fun r5 s6 => Q r5 s6)) ∧ (¬ (100 : Int32) < (gI σ r4 2) → wp_X0_becomeLike 1167 r4 σ (fun s7 => Q (gI s7 1167 2) s7))))))))
def wl_X9_take : WP := fun As σ Q => p1r As (fun z0 r0 => onB (Nat.beq z0 0) (onB r0.isEmpty (wp_X9_take  σ (fun x τ => Q (some (.int x)) τ))))
def tb_X9_take : List (Nat × Instr × Nat) := [(0, (.aload_n 0, 1)), (1, (.getfield 39, 3)), (4, (.invokevirtual 222, 3)), (7, (.ifCond .ne 17, 3)), (10, (.aload_n 0, 1)), (11, (.bipush (-2), 2)), (13, (.invokevirtual 83, 3)), (16, (.ireturn, 1)), (17, (.aload_n 0, 1)), (18, (.getfield 30, 3)), (21, (.aload_n 0, 1)), (22, (.getfield 39, 3)), (25, (.getfield 225, 3)), (28, (.invokevirtual 190, 3)), (31, (.astore_n 1, 1)), (32, (.aload_n 1, 1)), (33, (.getfield 147, 3)), (36, (.bipush 100, 2)), (38, (.if_icmp .le 48, 3)), (41, (.aload_n 0, 1)), (42, (.bipush (-8), 2)), (44, (.invokevirtual 83, 3)), (47, (.ireturn, 1)), (48, (.aload_n 0, 1)), (49, (.getfield 48, 3)), (52, (.aload_n 1, 1)), (53, (.invokevirtual 228, 3)), (56, (.aload_n 0, 1)), (57, (.getfield 48, 3)), (60, (.getfield 147, 3)), (63, (.ireturn, 1))]
def ce_X9_take : List (Nat × (Nat × Option Nat × WP)) := [(222, (1, some 4, wl_X4_hasWall)), (83, (2, some 9, wl_X9_refuse)), (190, (2, some 1, wl_X1_frame)), (228, (2, some 0, wl_X0_becomeLike))]
set_option maxRecDepth 100000 in
set_option maxHeartbeats 4000000 in
theorem ct_X9_take (l : Launch) : Con l wX yX9_take cX9_take 2 (some .int) 4 wl_X9_take := by
  refine sxm_ok l (ft := lkp ft_RX9) (c32 := lkp c32_RX9) (c64 := lkp c64_RX9) (ce := lkp ce_X9_take) (sf := lkp sf_RX9) (lab := lkp []) (T := tb_X9_take) (by decide +kernel) ft_RX9_ok c32_RX9_ok c64_RX9_ok (fun x q h => (show ∀ q ∈ ce_X9_take, ceOK l wX RX9 4 q.1 q.2.1 q.2.2.1 q.2.2.2 from List.forall_mem_cons.mpr ⟨Or.inr (Or.inr (Or.inr ⟨yX4_hasWall, cX4_hasWall, 1, (some .boolean), 0, ct_X4_hasWall l, by decide, by decide, mi_X4_hasWall.1, mi_X4_hasWall.2, ml_RX9_222, mv_X4_hasWall.1, mv_X4_hasWall.2, ⟨_, _, rfl⟩, by decide, by decide +kernel⟩)), List.forall_mem_cons.mpr ⟨Or.inr (Or.inr (Or.inr ⟨yX9_refuse, cX9_refuse, 2, (some .int), 0, ct_X9_refuse l, by decide, by decide, mi_X9_refuse.1, mi_X9_refuse.2, ml_RX9_83, mv_X9_refuse.1, mv_X9_refuse.2, ⟨_, _, rfl⟩, by decide, by decide +kernel⟩)), List.forall_mem_cons.mpr ⟨Or.inr (Or.inr (Or.inr ⟨yX1_frame, cX1_frame, 2, (some (.object "FrameProver$Clauses")), 0, ct_X1_frame l, by decide, by decide, mi_X1_frame.1, mi_X1_frame.2, ml_RX9_190, mv_X1_frame.1, mv_X1_frame.2, ⟨_, _, rfl⟩, by decide, by decide +kernel⟩)), List.forall_mem_cons.mpr ⟨Or.inr (Or.inr (Or.inr ⟨yX0_becomeLike, cX0_becomeLike, 3, none, 3, ct_X0_becomeLike l, by decide, by decide, mi_X0_becomeLike.1, mi_X0_becomeLike.2, ml_RX9_228, mv_X0_becomeLike.1, mv_X0_becomeLike.2, ⟨_, _, rfl⟩, by decide, by decide +kernel⟩)), fun _ h => absurd h List.not_mem_nil⟩⟩⟩⟩) (x, q) (lkp_mem h)) sf_RX9_ok (by decide +kernel) 400 (fun As σ Q h => ?_)
  replace h := p1r_e h
  obtain ⟨z0, q0, rfl, h⟩ := h
  replace h := onB_e h
  obtain ⟨e0, h⟩ := h
  have e0 := Nat.eq_of_beq_eq_true e0
  subst e0
  replace h := onB_e h
  obtain ⟨e9, h⟩ := h
  have e9 := List.isEmpty_iff.mp e9
  subst e9
  refine ⟨Nat.le_of_ble_eq_true rfl, fun P hP => ?_⟩
  exact h 
def wp_X9_forge (x1 : Int32) (x2 : Int32) (x3 : Int32) (σ : Sg) (Q : Int32 → Sg → Prop) : Prop :=
  wp_X0_hasIndex 1167 x1 σ (fun r1 => ((r1 = 0 → wp_X9_refuse (-3 : Int32) σ (fun r2 s3 => Q r2 s3)) ∧ (¬ r1 = 0 → ((x2 < 0 → wp_X9_refuse (-3 : Int32) σ (fun r4 s5 => Q r4 s5)) ∧ (¬ x2 < 0 → ((x2 < (gI σ 1 11) → wp_X0_cubeAt 1167 x1 σ (fun r6 => wp_X9_maskOf r6 σ (fun r7 => ((((r7 >>> (x2 &&& 31)) &&& (1 : Int32)) = (1 : Int32) → ((x3 = 0 → (((1 : Int32) = 0 → wp_X9_refuse (-7 : Int32) σ (fun r8 s9 => Q r8 s9)) ∧ (¬ (1 : Int32) = 0 → ((x3 = 0 → wp_X9_maskOf r6 σ (fun r10 => wp_X9_valuesOf r6 σ (fun r11 => wp_X9_cubeOf r10 (r11 ^^^ ((1 : Int32) <<< (x2 &&& 31))) σ (fun r12 => wp_X0_change 1167 x1 r12 σ (fun s13 => Q (1 : Int32) s13))))) ∧ (¬ x3 = 0 → wp_X9_maskOf r6 σ (fun r14 => wp_X9_valuesOf r6 σ (fun r15 => wp_X9_cubeOf (r14 ^^^ ((1 : Int32) <<< (x2 &&& 31))) (r15 &&& (((1 : Int32) <<< (x2 &&& 31)) ^^^ (-1 : Int32))) σ (fun r16 => wp_X0_change 1167 x1 r16 σ (fun s17 => Q (1 : Int32) s17))))))))) ∧ (¬ x3 = 0 → ((x3 = 0 → wp_X9_maskOf r6 σ (fun r18 => wp_X9_valuesOf r6 σ (fun r19 => wp_X9_cubeOf r18 (r19 ^^^ ((1 : Int32) <<< (x2 &&& 31))) σ (fun r20 => wp_X0_change 1167 x1 r20 σ (fun s21 => Q (1 : Int32) s21))))) ∧ (¬ x3 = 0 → wp_X9_maskOf r6 σ (fun r22 => wp_X9_valuesOf r6 σ (fun r23 => wp_X9_cubeOf (r22 ^^^ ((1 : Int32) <<< (x2 &&& 31))) (r23 &&& (((1 : Int32) <<< (x2 &&& 31)) ^^^ (-1 : Int32))) σ (fun r24 => wp_X0_change 1167 x1 r24 σ (fun s25 => Q (1 : Int32) s25))))))))) ∧ (¬ ((r7 >>> (x2 &&& 31)) &&& (1 : Int32)) = (1 : Int32) → ((x3 = 0 → (((0 : Int32) = 0 → wp_X9_refuse (-7 : Int32) σ (fun r26 s27 => Q r26 s27)) ∧ (¬ (0 : Int32) = 0 → ((x3 = 0 → wp_X9_maskOf r6 σ (fun r28 => wp_X9_valuesOf r6 σ (fun r29 => wp_X9_cubeOf r28 (r29 ^^^ ((1 : Int32) <<< (x2 &&& 31))) σ (fun r30 => wp_X0_change 1167 x1 r30 σ (fun s31 => Q (1 : Int32) s31))))) ∧ (¬ x3 = 0 → wp_X9_maskOf r6 σ (fun r32 => wp_X9_valuesOf r6 σ (fun r33 => wp_X9_cubeOf (r32 ^^^ ((1 : Int32) <<< (x2 &&& 31))) (r33 &&& (((1 : Int32) <<< (x2 &&& 31)) ^^^ (-1 : Int32))) σ (fun r34 => wp_X0_change 1167 x1 r34 σ (fun s35 => Q (1 : Int32) s35))))))))) ∧ (¬ x3 = 0 → ((x3 = 0 → wp_X9_maskOf r6 σ (fun r36 => wp_X9_valuesOf r6 σ (fun r37 => wp_X9_cubeOf r36 (r37 ^^^ ((1 : Int32) <<< (x2 &&& 31))) σ (fun r38 => wp_X0_change 1167 x1 r38 σ (fun s39 => Q (1 : Int32) s39))))) ∧ (¬ x3 = 0 → wp_X9_maskOf r6 σ (fun r40 => wp_X9_valuesOf r6 σ (fun r41 => wp_X9_cubeOf (r40 ^^^ ((1 : Int32) <<< (x2 &&& 31))) (r41 &&& (((1 : Int32) <<< (x2 &&& 31)) ^^^ (-1 : Int32))) σ (fun r42 => wp_X0_change 1167 x1 r42 σ (fun s43 => Q (1 : Int32) s43))))))))))))) ∧ (¬ x2 < (gI σ 1 11) → wp_X9_refuse (-3 : Int32) σ (fun r44 s45 => Q r44 s45))))))))
def wl_X9_forge : WP := fun As σ Q => p1r As (fun z0 r0 => onB (Nat.beq z0 0) (p1i r0 (fun x1 r1 => p1i r1 (fun x2 r2 => p1i r2 (fun x3 r3 => onB r3.isEmpty (wp_X9_forge x1 x2 x3 σ (fun x τ => Q (some (.int x)) τ)))))))
def tb_X9_forge : List (Nat × Instr × Nat) := [(0, (.aload_n 0, 1)), (1, (.getfield 48, 3)), (4, (.iload_n 1, 1)), (5, (.invokevirtual 194, 3)), (8, (.ifCond .eq 26, 3)), (11, (.iload_n 2, 1)), (12, (.ifCond .lt 26, 3)), (15, (.iload_n 2, 1)), (16, (.aload_n 0, 1)), (17, (.getfield 10, 3)), (20, (.getfield 79, 3)), (23, (.if_icmp .lt 33, 3)), (26, (.aload_n 0, 1)), (27, (.bipush (-3), 2)), (29, (.invokevirtual 83, 3)), (32, (.ireturn, 1)), (33, (.aload_n 0, 1)), (34, (.getfield 48, 3)), (37, (.iload_n 1, 1)), (38, (.invokevirtual 197, 3)), (41, (.istore 4, 2)), (43, (.iload 4, 2)), (45, (.invokestatic 248, 3)), (48, (.iload_n 2, 1)), (49, (.ishr, 1)), (50, (.iconst 1, 1)), (51, (.iand, 1)), (52, (.iconst 1, 1)), (53, (.if_icmp .ne 60, 3)), (56, (.iconst 1, 1)), (57, (.goto 61, 3)), (60, (.iconst 0, 1)), (61, (.istore 5, 2)), (63, (.iload_n 3, 1)), (64, (.ifCond .ne 79, 3)), (67, (.iload 5, 2)), (69, (.ifCond .ne 79, 3)), (72, (.aload_n 0, 1)), (73, (.bipush (-7), 2)), (75, (.invokevirtual 83, 3)), (78, (.ireturn, 1)), (79, (.iconst 1, 1)), (80, (.iload_n 2, 1)), (81, (.ishl, 1)), (82, (.istore 6, 2)), (84, (.iload_n 3, 1)), (85, (.ifCond .ne 115, 3)), (88, (.aload_n 0, 1)), (89, (.getfield 48, 3)), (92, (.iload_n 1, 1)), (93, (.iload 4, 2)), (95, (.invokestatic 248, 3)), (98, (.iload 4, 2)), (100, (.invokestatic 280, 3)), (103, (.iload 6, 2)), (105, (.ixor, 1)), (106, (.invokestatic 236, 3)), (109, (.invokevirtual 283, 3)), (112, (.goto 144, 3)), (115, (.aload_n 0, 1)), (116, (.getfield 48, 3)), (119, (.iload_n 1, 1)), (120, (.iload 4, 2)), (122, (.invokestatic 248, 3)), (125, (.iload 6, 2)), (127, (.ixor, 1)), (128, (.iload 4, 2)), (130, (.invokestatic 280, 3)), (133, (.iload 6, 2)), (135, (.iconst (-1), 1)), (136, (.ixor, 1)), (137, (.iand, 1)), (138, (.invokestatic 236, 3)), (141, (.invokevirtual 283, 3)), (144, (.iconst 1, 1)), (145, (.ireturn, 1))]
def ce_X9_forge : List (Nat × (Nat × Option Nat × WP)) := [(194, (2, some 0, wl_X0_hasIndex)), (83, (2, some 9, wl_X9_refuse)), (197, (2, some 0, wl_X0_cubeAt)), (248, (1, none, wl_X9_maskOf)), (280, (1, none, wl_X9_valuesOf)), (236, (2, none, wl_X9_cubeOf)), (283, (3, some 0, wl_X0_change))]
set_option maxRecDepth 100000 in
set_option maxHeartbeats 4000000 in
theorem ct_X9_forge (l : Launch) : Con l wX yX9_forge cX9_forge 7 (some .int) 4 wl_X9_forge := by
  refine sxm_ok l (ft := lkp ft_RX9) (c32 := lkp c32_RX9) (c64 := lkp c64_RX9) (ce := lkp ce_X9_forge) (sf := lkp sf_RX9) (lab := lkp []) (T := tb_X9_forge) (by decide +kernel) ft_RX9_ok c32_RX9_ok c64_RX9_ok (fun x q h => (show ∀ q ∈ ce_X9_forge, ceOK l wX RX9 4 q.1 q.2.1 q.2.2.1 q.2.2.2 from List.forall_mem_cons.mpr ⟨Or.inr (Or.inr (Or.inr ⟨yX0_hasIndex, cX0_hasIndex, 2, (some .boolean), 0, ct_X0_hasIndex l, by decide, by decide, mi_X0_hasIndex.1, mi_X0_hasIndex.2, ml_RX9_194, mv_X0_hasIndex.1, mv_X0_hasIndex.2, ⟨_, _, rfl⟩, by decide, by decide +kernel⟩)), List.forall_mem_cons.mpr ⟨Or.inr (Or.inr (Or.inr ⟨yX9_refuse, cX9_refuse, 2, (some .int), 0, ct_X9_refuse l, by decide, by decide, mi_X9_refuse.1, mi_X9_refuse.2, ml_RX9_83, mv_X9_refuse.1, mv_X9_refuse.2, ⟨_, _, rfl⟩, by decide, by decide +kernel⟩)), List.forall_mem_cons.mpr ⟨Or.inr (Or.inr (Or.inr ⟨yX0_cubeAt, cX0_cubeAt, 2, (some .int), 1, ct_X0_cubeAt l, by decide, by decide, mi_X0_cubeAt.1, mi_X0_cubeAt.2, ml_RX9_197, mv_X0_cubeAt.1, mv_X0_cubeAt.2, ⟨_, _, rfl⟩, by decide, by decide +kernel⟩)), List.forall_mem_cons.mpr ⟨Or.inr (Or.inr (Or.inr ⟨yX9_maskOf, cX9_maskOf, 1, (some .int), 0, ct_X9_maskOf l, by decide, by decide, mi_X9_maskOf.1, mi_X9_maskOf.2, Or.inl ml_RX9_248, ms_X9_maskOf, by decide +kernel⟩)), List.forall_mem_cons.mpr ⟨Or.inr (Or.inr (Or.inr ⟨yX9_valuesOf, cX9_valuesOf, 1, (some .int), 0, ct_X9_valuesOf l, by decide, by decide, mi_X9_valuesOf.1, mi_X9_valuesOf.2, Or.inl ml_RX9_280, ms_X9_valuesOf, by decide +kernel⟩)), List.forall_mem_cons.mpr ⟨Or.inr (Or.inr (Or.inr ⟨yX9_cubeOf, cX9_cubeOf, 2, (some .int), 0, ct_X9_cubeOf l, by decide, by decide, mi_X9_cubeOf.1, mi_X9_cubeOf.2, Or.inl ml_RX9_236, ms_X9_cubeOf, by decide +kernel⟩)), List.forall_mem_cons.mpr ⟨Or.inr (Or.inr (Or.inr ⟨yX0_change, cX0_change, 3, none, 3, ct_X0_change l, by decide, by decide, mi_X0_change.1, mi_X0_change.2, ml_RX9_283, mv_X0_change.1, mv_X0_change.2, ⟨_, _, rfl⟩, by decide, by decide +kernel⟩)), fun _ h => absurd h List.not_mem_nil⟩⟩⟩⟩⟩⟩⟩) (x, q) (lkp_mem h)) sf_RX9_ok (by decide +kernel) 400 (fun As σ Q h => ?_)
  replace h := p1r_e h
  obtain ⟨z0, q0, rfl, h⟩ := h
  replace h := onB_e h
  obtain ⟨e0, h⟩ := h
  have e0 := Nat.eq_of_beq_eq_true e0
  subst e0
  replace h := p1i_e h
  obtain ⟨x1, q1, rfl, h⟩ := h
  replace h := p1i_e h
  obtain ⟨x2, q2, rfl, h⟩ := h
  replace h := p1i_e h
  obtain ⟨x3, q3, rfl, h⟩ := h
  replace h := onB_e h
  obtain ⟨e9, h⟩ := h
  have e9 := List.isEmpty_iff.mp e9
  subst e9
  refine ⟨Nat.le_of_ble_eq_true rfl, fun P hP => ?_⟩
  exact h 
def wp_X9_addSign (x1 : Int32) (x2 : Nat) (σ : Sg) (Q : Int32 → Sg → Prop) : Prop :=
  wp_X3_hasSign x1 σ (fun r1 => ((r1 = 0 → wp_X9_refuse (-3 : Int32) σ (fun r2 s3 => Q r2 s3)) ∧ (¬ r1 = 0 → onB (isK wX x2 6) (wp_X6_put x2 x1 σ (fun r4 s5 => ((r4 = 0 → wp_X9_refuse (-8 : Int32) s5 (fun r6 s7 => Q r6 s7)) ∧ (¬ r4 = 0 → wp_X9_startAnew s5 (fun s8 => onB (isK wX x2 6) (Q (gI s8 x2 1) s8)))))))))
def wl_X9_addSign : WP := fun As σ Q => p1r As (fun z0 r0 => onB (Nat.beq z0 0) (p1i r0 (fun x1 r1 => p1r r1 (fun x2 r2 => onB r2.isEmpty (wp_X9_addSign x1 x2 σ (fun x τ => Q (some (.int x)) τ))))))
def tb_X9_addSign : List (Nat × Instr × Nat) := [(0, (.aload_n 0, 1)), (1, (.getfield 10, 3)), (4, (.iload_n 1, 1)), (5, (.invokevirtual 98, 3)), (8, (.ifCond .ne 18, 3)), (11, (.aload_n 0, 1)), (12, (.bipush (-3), 2)), (14, (.invokevirtual 83, 3)), (17, (.ireturn, 1)), (18, (.aload_n 2, 1)), (19, (.iload_n 1, 1)), (20, (.invokevirtual 335, 3)), (23, (.ifCond .ne 33, 3)), (26, (.aload_n 0, 1)), (27, (.bipush (-8), 2)), (29, (.invokevirtual 83, 3)), (32, (.ireturn, 1)), (33, (.aload_n 0, 1)), (34, (.invokevirtual 72, 3)), (37, (.aload_n 2, 1)), (38, (.getfield 139, 3)), (41, (.ireturn, 1))]
def ce_X9_addSign : List (Nat × (Nat × Option Nat × WP)) := [(98, (2, some 3, wl_X3_hasSign)), (83, (2, some 9, wl_X9_refuse)), (335, (2, some 6, wl_X6_put)), (72, (1, some 9, wl_X9_startAnew))]
set_option maxRecDepth 100000 in
set_option maxHeartbeats 4000000 in
theorem ct_X9_addSign (l : Launch) : Con l wX yX9_addSign cX9_addSign 3 (some .int) 4 wl_X9_addSign := by
  refine sxm_ok l (ft := lkp ft_RX9) (c32 := lkp c32_RX9) (c64 := lkp c64_RX9) (ce := lkp ce_X9_addSign) (sf := lkp sf_RX9) (lab := lkp []) (T := tb_X9_addSign) (by decide +kernel) ft_RX9_ok c32_RX9_ok c64_RX9_ok (fun x q h => (show ∀ q ∈ ce_X9_addSign, ceOK l wX RX9 4 q.1 q.2.1 q.2.2.1 q.2.2.2 from List.forall_mem_cons.mpr ⟨Or.inr (Or.inr (Or.inr ⟨yX3_hasSign, cX3_hasSign, 2, (some .boolean), 1, ct_X3_hasSign l, by decide, by decide, mi_X3_hasSign.1, mi_X3_hasSign.2, ml_RX9_98, mv_X3_hasSign.1, mv_X3_hasSign.2, ⟨_, _, rfl⟩, by decide, by decide +kernel⟩)), List.forall_mem_cons.mpr ⟨Or.inr (Or.inr (Or.inr ⟨yX9_refuse, cX9_refuse, 2, (some .int), 0, ct_X9_refuse l, by decide, by decide, mi_X9_refuse.1, mi_X9_refuse.2, ml_RX9_83, mv_X9_refuse.1, mv_X9_refuse.2, ⟨_, _, rfl⟩, by decide, by decide +kernel⟩)), List.forall_mem_cons.mpr ⟨Or.inr (Or.inr (Or.inr ⟨yX6_put, cX6_put, 2, (some .boolean), 0, ct_X6_put l, by decide, by decide, mi_X6_put.1, mi_X6_put.2, ml_RX9_335, mv_X6_put.1, mv_X6_put.2, ⟨_, _, rfl⟩, by decide, by decide +kernel⟩)), List.forall_mem_cons.mpr ⟨Or.inr (Or.inr (Or.inr ⟨yX9_startAnew, cX9_startAnew, 1, none, 3, ct_X9_startAnew l, by decide, by decide, mi_X9_startAnew.1, mi_X9_startAnew.2, ml_RX9_72, mv_X9_startAnew.1, mv_X9_startAnew.2, ⟨_, _, rfl⟩, by decide, by decide +kernel⟩)), fun _ h => absurd h List.not_mem_nil⟩⟩⟩⟩) (x, q) (lkp_mem h)) sf_RX9_ok (by decide +kernel) 400 (fun As σ Q h => ?_)
  replace h := p1r_e h
  obtain ⟨z0, q0, rfl, h⟩ := h
  replace h := onB_e h
  obtain ⟨e0, h⟩ := h
  have e0 := Nat.eq_of_beq_eq_true e0
  subst e0
  replace h := p1i_e h
  obtain ⟨x1, q1, rfl, h⟩ := h
  replace h := p1r_e h
  obtain ⟨x2, q2, rfl, h⟩ := h
  replace h := onB_e h
  obtain ⟨e9, h⟩ := h
  have e9 := List.isEmpty_iff.mp e9
  subst e9
  refine ⟨Nat.le_of_ble_eq_true rfl, fun P hP => ?_⟩
  exact h 
def wp_X4_goOn (x1 : Int32) (σ : Sg) (Q : Int32 → Sg → Prop) : Prop :=
  ∀ L15 : Int32 → Int32 → Sg → Prop,
  (∀ (x2 : Int32) (x3 : Int32) (τ : Sg), ((x3 < (1000000 : Int32) → (((gI τ 1164 6) = 0 → ((0 < (gI τ 1164 5) → (((-1 : Int32) = (-1 : Int32) → (((gI τ 1164 5) = 0 → wp_X4_push τ (fun s1 => L15 x2 (x3 + (1 : Int32)) s1)) ∧ (¬ (gI τ 1164 5) = 0 → ((0 < x2 → wp_X4_look (sI τ 1164 8 ((gI τ 1164 8) + (1 : Int32))) (fun s2 => L15 (x2 + (-1 : Int32)) (x3 + (1 : Int32)) s2)) ∧ (¬ 0 < x2 → Q (0 : Int32) τ))))) ∧ (¬ (-1 : Int32) = (-1 : Int32) → wp_X4_addTrouble (-1 : Int32) (gI τ 1164 7) τ (fun s3 => L15 x2 (x3 + (1 : Int32)) s3)))) ∧ (¬ 0 < (gI τ 1164 5) → wp_X1_frame (gI τ 1164 7) τ (fun r4 => onB (isK wX r4 0) (onB (isK wX (wR wX r4 1) 7) (wp_X7_leastCommon (wR wX r4 1) 18 τ (fun r5 => ((r5 = (-1 : Int32) → (((gI τ 1164 5) = 0 → wp_X4_push τ (fun s6 => L15 x2 (x3 + (1 : Int32)) s6)) ∧ (¬ (gI τ 1164 5) = 0 → ((0 < x2 → wp_X4_look (sI τ 1164 8 ((gI τ 1164 8) + (1 : Int32))) (fun s7 => L15 (x2 + (-1 : Int32)) (x3 + (1 : Int32)) s7)) ∧ (¬ 0 < x2 → Q (0 : Int32) τ))))) ∧ (¬ r5 = (-1 : Int32) → wp_X4_addTrouble r5 (gI τ 1164 7) τ (fun s8 => L15 x2 (x3 + (1 : Int32)) s8)))))))))) ∧ (¬ (gI τ 1164 6) = 0 → Q (gI τ 1164 6) τ))) ∧ (¬ x3 < (1000000 : Int32) → Q (gI τ 1164 6) τ)) → L15 x2 x3 τ) →
  (((gI σ 1164 7) = 0 → wp_X4_begin σ (fun s9 => L15 x1 (0 : Int32) s9)) ∧ (¬ (gI σ 1164 7) = 0 → L15 x1 (0 : Int32) σ))
def wl_X4_goOn : WP := fun As σ Q => p1r As (fun z0 r0 => onB (Nat.beq z0 1164) (p1i r0 (fun x1 r1 => onB r1.isEmpty (wp_X4_goOn x1 σ (fun x τ => Q (some (.int x)) τ)))))
def tb_X4_goOn : List (Nat × Instr × Nat) := [(0, (.aload_n 0, 1)), (1, (.getfield 37, 3)), (4, (.ifCond .ne 11, 3)), (7, (.aload_n 0, 1)), (8, (.invokevirtual 46, 3)), (11, (.iload_n 1, 1)), (12, (.istore_n 2, 1)), (13, (.iconst 0, 1)), (14, (.istore_n 3, 1)), (15, (.iload_n 3, 1)), (16, (.ldc 49, 2)), (18, (.if_icmp .ge 130, 3)), (21, (.aload_n 0, 1)), (22, (.getfield 34, 3)), (25, (.ifCond .ne 130, 3)), (28, (.aload_n 0, 1)), (29, (.getfield 30, 3)), (32, (.ifCond .le 39, 3)), (35, (.iconst (-1), 1)), (36, (.goto 63, 3)), (39, (.aload_n 0, 1)), (40, (.getfield 26, 3)), (43, (.aload_n 0, 1)), (44, (.getfield 37, 3)), (47, (.invokevirtual 50, 3)), (50, (.getfield 56, 3)), (53, (.aload_n 0, 1)), (54, (.getfield 22, 3)), (57, (.getfield 62, 3)), (60, (.invokevirtual 67, 3)), (63, (.istore 4, 2)), (65, (.iload 4, 2)), (67, (.iconst (-1), 1)), (68, (.if_icmp .eq 84, 3)), (71, (.aload_n 0, 1)), (72, (.iload 4, 2)), (74, (.aload_n 0, 1)), (75, (.getfield 37, 3)), (78, (.invokevirtual 73, 3)), (81, (.goto 124, 3)), (84, (.aload_n 0, 1)), (85, (.getfield 30, 3)), (88, (.ifCond .ne 98, 3)), (91, (.aload_n 0, 1)), (92, (.invokevirtual 77, 3)), (95, (.goto 124, 3)), (98, (.iload_n 2, 1)), (99, (.ifCond .le 122, 3)), (102, (.iinc 2 (-1), 3)), (105, (.aload_n 0, 1)), (106, (.dup, 1)), (107, (.getfield 40, 3)), (110, (.iconst 1, 1)), (111, (.iadd, 1)), (112, (.putfield 40, 3)), (115, (.aload_n 0, 1)), (116, (.invokevirtual 80, 3)), (119, (.goto 124, 3)), (122, (.iconst 0, 1)), (123, (.ireturn, 1)), (124, (.iinc 3 1, 3)), (127, (.goto 15, 3)), (130, (.aload_n 0, 1)), (131, (.getfield 34, 3)), (134, (.ireturn, 1))]
def ce_X4_goOn : List (Nat × (Nat × Option Nat × WP)) := [(46, (1, some 4, wl_X4_begin)), (50, (2, some 1, wl_X1_frame)), (67, (2, some 7, wl_X7_leastCommon)), (73, (3, some 4, wl_X4_addTrouble)), (77, (1, some 4, wl_X4_push)), (80, (1, some 4, wl_X4_look))]
set_option maxRecDepth 100000 in
set_option maxHeartbeats 4000000 in
theorem ct_X4_goOn (l : Launch) : Con l wX yX4_goOn cX4_goOn 5 (some .int) 5 wl_X4_goOn := by
  refine sxm_ok l (ft := lkp ft_RX4) (c32 := lkp c32_RX4) (c64 := lkp c64_RX4) (ce := lkp ce_X4_goOn) (sf := lkp sf_RX4) (lab := lkp [(15, [0, 2, 3])]) (T := tb_X4_goOn) (by decide +kernel) ft_RX4_ok c32_RX4_ok c64_RX4_ok (fun x q h => (show ∀ q ∈ ce_X4_goOn, ceOK l wX RX4 5 q.1 q.2.1 q.2.2.1 q.2.2.2 from List.forall_mem_cons.mpr ⟨Or.inr (Or.inr (Or.inr ⟨yX4_begin, cX4_begin, 1, none, 1, ct_X4_begin l, by decide, by decide, mi_X4_begin.1, mi_X4_begin.2, ml_RX4_46, mv_X4_begin.1, mv_X4_begin.2, ⟨_, _, rfl⟩, by decide, by decide +kernel⟩)), List.forall_mem_cons.mpr ⟨Or.inr (Or.inr (Or.inr ⟨yX1_frame, cX1_frame, 2, (some (.object "FrameProver$Clauses")), 0, ct_X1_frame l, by decide, by decide, mi_X1_frame.1, mi_X1_frame.2, ml_RX4_50, mv_X1_frame.1, mv_X1_frame.2, ⟨_, _, rfl⟩, by decide, by decide +kernel⟩)), List.forall_mem_cons.mpr ⟨Or.inr (Or.inr (Or.inr ⟨yX7_leastCommon, cX7_leastCommon, 3, (some .int), 1, ct_X7_leastCommon l, by decide, by decide, mi_X7_leastCommon.1, mi_X7_leastCommon.2, ml_RX4_67, mv_X7_leastCommon.1, mv_X7_leastCommon.2, ⟨_, _, rfl⟩, by decide, by decide +kernel⟩)), List.forall_mem_cons.mpr ⟨Or.inr (Or.inr (Or.inr ⟨yX4_addTrouble, cX4_addTrouble, 3, none, 0, ct_X4_addTrouble l, by decide, by decide, mi_X4_addTrouble.1, mi_X4_addTrouble.2, ml_RX4_73, mv_X4_addTrouble.1, mv_X4_addTrouble.2, ⟨_, _, rfl⟩, by decide, by decide +kernel⟩)), List.forall_mem_cons.mpr ⟨Or.inr (Or.inr (Or.inr ⟨yX4_push, cX4_push, 2, none, 4, ct_X4_push l, by decide, by decide, mi_X4_push.1, mi_X4_push.2, ml_RX4_77, mv_X4_push.1, mv_X4_push.2, ⟨_, _, rfl⟩, by decide, by decide +kernel⟩)), List.forall_mem_cons.mpr ⟨Or.inr (Or.inr (Or.inr ⟨yX4_look, cX4_look, 5, none, 4, ct_X4_look l, by decide, by decide, mi_X4_look.1, mi_X4_look.2, ml_RX4_80, mv_X4_look.1, mv_X4_look.2, ⟨_, _, rfl⟩, by decide, by decide +kernel⟩)), fun _ h => absurd h List.not_mem_nil⟩⟩⟩⟩⟩⟩) (x, q) (lkp_mem h)) sf_RX4_ok (by decide +kernel) 400 (fun As σ Q h => ?_)
  replace h := p1r_e h
  obtain ⟨z0, q0, rfl, h⟩ := h
  replace h := onB_e h
  obtain ⟨e0, h⟩ := h
  have e0 := Nat.eq_of_beq_eq_true e0
  subst e0
  replace h := p1i_e h
  obtain ⟨x1, q1, rfl, h⟩ := h
  replace h := onB_e h
  obtain ⟨e9, h⟩ := h
  have e9 := List.isEmpty_iff.mp e9
  subst e9
  refine ⟨Nat.le_of_ble_eq_true rfl, fun P hP => ?_⟩
  exact h (fun x2 x3 τ => P 15 [.ref 1164, .int x2, .int x3] τ) (fun x2 x3 τ hb => hP 15 [.ref 1164, .int x2, .int x3] τ hb)
def wp_X8_leastForEver  (σ : Sg) (Q : Int32 → Sg → Prop) : Prop :=
  ∀ L21 : Nat → Int32 → Sg → Prop,
  (∀ (x1 : Nat) (x2 : Int32) (τ : Sg), wp_X3_states τ (fun r1 => ((x2 < r1 → onB (isK wX x1 7) (wp_X7_has x1 x2 τ (fun r2 => ((r2 = 0 → L21 x1 (x2 + (1 : Int32)) τ) ∧ (¬ r2 = 0 → wp_X7_has 28 x2 τ (fun r3 => ((r3 = 0 → wp_X8_leadsFrom x2 τ (fun r4 => onB (isK wX r4 7) (wp_X7_has r4 x2 τ (fun r5 => ((r5 = 0 → L21 x1 (x2 + (1 : Int32)) τ) ∧ (¬ r5 = 0 → wp_X8_findCircle x2 τ (fun s6 => wp_X7_putAll 28 26 s6 (fun s7 => wp_X8_isCircleFair s7 (fun r8 s9 => ((r8 = 0 → L21 x1 (x2 + (1 : Int32)) s9) ∧ (¬ r8 = 0 → Q x2 s9))))))))))) ∧ (¬ r3 = 0 → L21 x1 (x2 + (1 : Int32)) τ)))))))) ∧ (¬ x2 < r1 → Q (-1 : Int32) τ))) → L21 x1 x2 τ) →
  wp_X8_closeLeads σ (fun s10 => wp_X8_reached (256 : Int32) s10 (fun r11 s12 => wp_X7_becomeEmpty 28 s12 (fun s13 => L21 r11 (0 : Int32) s13)))
def wl_X8_leastForEver : WP := fun As σ Q => p1r As (fun z0 r0 => onB (Nat.beq z0 13) (onB r0.isEmpty (wp_X8_leastForEver  σ (fun x τ => Q (some (.int x)) τ))))
def tb_X8_leastForEver : List (Nat × Instr × Nat) := [(0, (.aload_n 0, 1)), (1, (.invokevirtual 126, 3)), (4, (.aload_n 0, 1)), (5, (.sipush 256, 3)), (8, (.invokevirtual 129, 3)), (11, (.astore_n 1, 1)), (12, (.aload_n 0, 1)), (13, (.getfield 40, 3)), (16, (.invokevirtual 51, 3)), (19, (.iconst 0, 1)), (20, (.istore_n 2, 1)), (21, (.iload_n 2, 1)), (22, (.aload_n 0, 1)), (23, (.getfield 47, 3)), (26, (.invokevirtual 54, 3)), (29, (.if_icmp .ge 94, 3)), (32, (.aload_n 1, 1)), (33, (.iload_n 2, 1)), (34, (.invokevirtual 88, 3)), (37, (.ifCond .eq 88, 3)), (40, (.aload_n 0, 1)), (41, (.getfield 40, 3)), (44, (.iload_n 2, 1)), (45, (.invokevirtual 88, 3)), (48, (.ifCond .ne 88, 3)), (51, (.aload_n 0, 1)), (52, (.iload_n 2, 1)), (53, (.invokevirtual 131, 3)), (56, (.iload_n 2, 1)), (57, (.invokevirtual 88, 3)), (60, (.ifCond .eq 88, 3)), (63, (.aload_n 0, 1)), (64, (.iload_n 2, 1)), (65, (.invokevirtual 134, 3)), (68, (.aload_n 0, 1)), (69, (.getfield 40, 3)), (72, (.aload_n 0, 1)), (73, (.getfield 37, 3)), (76, (.invokevirtual 92, 3)), (79, (.aload_n 0, 1)), (80, (.invokevirtual 137, 3)), (83, (.ifCond .eq 88, 3)), (86, (.iload_n 2, 1)), (87, (.ireturn, 1)), (88, (.iinc 2 1, 3)), (91, (.goto 21, 3)), (94, (.iconst (-1), 1)), (95, (.ireturn, 1))]
def ce_X8_leastForEver : List (Nat × (Nat × Option Nat × WP)) := [(126, (1, some 8, wl_X8_closeLeads)), (129, (2, some 8, wl_X8_reached)), (51, (1, some 7, wl_X7_becomeEmpty)), (54, (1, some 3, wl_X3_states)), (88, (2, some 7, wl_X7_has)), (131, (2, some 8, wl_X8_leadsFrom)), (134, (2, some 8, wl_X8_findCircle)), (92, (2, some 7, wl_X7_putAll)), (137, (1, some 8, wl_X8_isCircleFair))]
set_option maxRecDepth 100000 in
set_option maxHeartbeats 4000000 in
theorem ct_X8_leastForEver (l : Launch) : Con l wX yX8_leastForEver cX8_leastForEver 3 (some .int) 5 wl_X8_leastForEver := by
  refine sxm_ok l (ft := lkp ft_RX8) (c32 := lkp c32_RX8) (c64 := lkp c64_RX8) (ce := lkp ce_X8_leastForEver) (sf := lkp sf_RX8) (lab := lkp [(21, [0, 1, 2])]) (T := tb_X8_leastForEver) (by decide +kernel) ft_RX8_ok c32_RX8_ok c64_RX8_ok (fun x q h => (show ∀ q ∈ ce_X8_leastForEver, ceOK l wX RX8 5 q.1 q.2.1 q.2.2.1 q.2.2.2 from List.forall_mem_cons.mpr ⟨Or.inr (Or.inr (Or.inr ⟨yX8_closeLeads, cX8_closeLeads, 4, none, 1, ct_X8_closeLeads l, by decide, by decide, mi_X8_closeLeads.1, mi_X8_closeLeads.2, ml_RX8_126, mv_X8_closeLeads.1, mv_X8_closeLeads.2, ⟨_, _, rfl⟩, by decide, by decide +kernel⟩)), List.forall_mem_cons.mpr ⟨Or.inr (Or.inr (Or.inr ⟨yX8_reached, cX8_reached, 4, (some (.object "FrameProver$StateSet")), 3, ct_X8_reached l, by decide, by decide, mi_X8_reached.1, mi_X8_reached.2, ml_RX8_129, mv_X8_reached.1, mv_X8_reached.2, ⟨_, _, rfl⟩, by decide, by decide +kernel⟩)), List.forall_mem_cons.mpr ⟨Or.inr (Or.inr (Or.inr ⟨yX7_becomeEmpty, cX7_becomeEmpty, 1, none, 1, ct_X7_becomeEmpty l, by decide, by decide, mi_X7_becomeEmpty.1, mi_X7_becomeEmpty.2, ml_RX8_51, mv_X7_becomeEmpty.1, mv_X7_becomeEmpty.2, ⟨_, _, rfl⟩, by decide, by decide +kernel⟩)), List.forall_mem_cons.mpr ⟨Or.inr (Or.inr (Or.inr ⟨yX3_states, cX3_states, 1, (some .int), 0, ct_X3_states l, by decide, by decide, mi_X3_states.1, mi_X3_states.2, ml_RX8_54, mv_X3_states.1, mv_X3_states.2, ⟨_, _, rfl⟩, by decide, by decide +kernel⟩)), List.forall_mem_cons.mpr ⟨Or.inr (Or.inr (Or.inr ⟨yX7_has, cX7_has, 2, (some .boolean), 0, ct_X7_has l, by decide, by decide, mi_X7_has.1, mi_X7_has.2, ml_RX8_88, mv_X7_has.1, mv_X7_has.2, ⟨_, _, rfl⟩, by decide, by decide +kernel⟩)), List.forall_mem_cons.mpr ⟨Or.inr (Or.inr (Or.inr ⟨yX8_leadsFrom, cX8_leadsFrom, 2, (some (.object "FrameProver$StateSet")), 0, ct_X8_leadsFrom l, by decide, by decide, mi_X8_leadsFrom.1, mi_X8_leadsFrom.2, ml_RX8_131, mv_X8_leadsFrom.1, mv_X8_leadsFrom.2, ⟨_, _, rfl⟩, by decide, by decide +kernel⟩)), List.forall_mem_cons.mpr ⟨Or.inr (Or.inr (Or.inr ⟨yX8_findCircle, cX8_findCircle, 3, none, 2, ct_X8_findCircle l, by decide, by decide, mi_X8_findCircle.1, mi_X8_findCircle.2, ml_RX8_134, mv_X8_findCircle.1, mv_X8_findCircle.2, ⟨_, _, rfl⟩, by decide, by decide +kernel⟩)), List.forall_mem_cons.mpr ⟨Or.inr (Or.inr (Or.inr ⟨yX7_putAll, cX7_putAll, 3, none, 0, ct_X7_putAll l, by decide, by decide, mi_X7_putAll.1, mi_X7_putAll.2, ml_RX8_92, mv_X7_putAll.1, mv_X7_putAll.2, ⟨_, _, rfl⟩, by decide, by decide +kernel⟩)), List.forall_mem_cons.mpr ⟨Or.inr (Or.inr (Or.inr ⟨yX8_isCircleFair, cX8_isCircleFair, 2, (some .boolean), 4, ct_X8_isCircleFair l, by decide, by decide, mi_X8_isCircleFair.1, mi_X8_isCircleFair.2, ml_RX8_137, mv_X8_isCircleFair.1, mv_X8_isCircleFair.2, ⟨_, _, rfl⟩, by decide, by decide +kernel⟩)), fun _ h => absurd h List.not_mem_nil⟩⟩⟩⟩⟩⟩⟩⟩⟩) (x, q) (lkp_mem h)) sf_RX8_ok (by decide +kernel) 400 (fun As σ Q h => ?_)
  replace h := p1r_e h
  obtain ⟨z0, q0, rfl, h⟩ := h
  replace h := onB_e h
  obtain ⟨e0, h⟩ := h
  have e0 := Nat.eq_of_beq_eq_true e0
  subst e0
  replace h := onB_e h
  obtain ⟨e9, h⟩ := h
  have e9 := List.isEmpty_iff.mp e9
  subst e9
  refine ⟨Nat.le_of_ble_eq_true rfl, fun P hP => ?_⟩
  exact h (fun x1 x2 τ => P 21 [.ref 13, .ref x1, .int x2] τ) (fun x1 x2 τ hb => hP 21 [.ref 13, .ref x1, .int x2] τ hb)
def wp_X9_assume (x1 : Int32) (σ : Sg) (Q : Int32 → Sg → Prop) : Prop :=
  wp_X9_addSign x1 9 σ (fun r1 s2 => Q r1 s2)
def wl_X9_assume : WP := fun As σ Q => p1r As (fun z0 r0 => onB (Nat.beq z0 0) (p1i r0 (fun x1 r1 => onB r1.isEmpty (wp_X9_assume x1 σ (fun x τ => Q (some (.int x)) τ)))))
def tb_X9_assume : List (Nat × Instr × Nat) := [(0, (.aload_n 0, 1)), (1, (.iload_n 1, 1)), (2, (.aload_n 0, 1)), (3, (.getfield 10, 3)), (6, (.getfield 119, 3)), (9, (.invokevirtual 123, 3)), (12, (.ireturn, 1))]
def ce_X9_assume : List (Nat × (Nat × Option Nat × WP)) := [(123, (3, some 9, wl_X9_addSign))]
set_option maxRecDepth 100000 in
set_option maxHeartbeats 4000000 in
theorem ct_X9_assume (l : Launch) : Con l wX yX9_assume cX9_assume 2 (some .int) 5 wl_X9_assume := by
  refine sxm_ok l (ft := lkp ft_RX9) (c32 := lkp c32_RX9) (c64 := lkp c64_RX9) (ce := lkp ce_X9_assume) (sf := lkp sf_RX9) (lab := lkp []) (T := tb_X9_assume) (by decide +kernel) ft_RX9_ok c32_RX9_ok c64_RX9_ok (fun x q h => (show ∀ q ∈ ce_X9_assume, ceOK l wX RX9 5 q.1 q.2.1 q.2.2.1 q.2.2.2 from List.forall_mem_cons.mpr ⟨Or.inr (Or.inr (Or.inr ⟨yX9_addSign, cX9_addSign, 3, (some .int), 4, ct_X9_addSign l, by decide, by decide, mi_X9_addSign.1, mi_X9_addSign.2, ml_RX9_123, mv_X9_addSign.1, mv_X9_addSign.2, ⟨_, _, rfl⟩, by decide, by decide +kernel⟩)), fun _ h => absurd h List.not_mem_nil⟩) (x, q) (lkp_mem h)) sf_RX9_ok (by decide +kernel) 400 (fun As σ Q h => ?_)
  replace h := p1r_e h
  obtain ⟨z0, q0, rfl, h⟩ := h
  replace h := onB_e h
  obtain ⟨e0, h⟩ := h
  have e0 := Nat.eq_of_beq_eq_true e0
  subst e0
  replace h := p1i_e h
  obtain ⟨x1, q1, rfl, h⟩ := h
  replace h := onB_e h
  obtain ⟨e9, h⟩ := h
  have e9 := List.isEmpty_iff.mp e9
  subst e9
  refine ⟨Nat.le_of_ble_eq_true rfl, fun P hP => ?_⟩
  exact h 
def wp_X9_fair (x1 : Int32) (σ : Sg) (Q : Int32 → Sg → Prop) : Prop :=
  wp_X9_addSign x1 11 σ (fun r1 s2 => Q r1 s2)
def wl_X9_fair : WP := fun As σ Q => p1r As (fun z0 r0 => onB (Nat.beq z0 0) (p1i r0 (fun x1 r1 => onB r1.isEmpty (wp_X9_fair x1 σ (fun x τ => Q (some (.int x)) τ)))))
def tb_X9_fair : List (Nat × Instr × Nat) := [(0, (.aload_n 0, 1)), (1, (.iload_n 1, 1)), (2, (.aload_n 0, 1)), (3, (.getfield 10, 3)), (6, (.getfield 127, 3)), (9, (.invokevirtual 123, 3)), (12, (.ireturn, 1))]
def ce_X9_fair : List (Nat × (Nat × Option Nat × WP)) := [(123, (3, some 9, wl_X9_addSign))]
set_option maxRecDepth 100000 in
set_option maxHeartbeats 4000000 in
theorem ct_X9_fair (l : Launch) : Con l wX yX9_fair cX9_fair 2 (some .int) 5 wl_X9_fair := by
  refine sxm_ok l (ft := lkp ft_RX9) (c32 := lkp c32_RX9) (c64 := lkp c64_RX9) (ce := lkp ce_X9_fair) (sf := lkp sf_RX9) (lab := lkp []) (T := tb_X9_fair) (by decide +kernel) ft_RX9_ok c32_RX9_ok c64_RX9_ok (fun x q h => (show ∀ q ∈ ce_X9_fair, ceOK l wX RX9 5 q.1 q.2.1 q.2.2.1 q.2.2.2 from List.forall_mem_cons.mpr ⟨Or.inr (Or.inr (Or.inr ⟨yX9_addSign, cX9_addSign, 3, (some .int), 4, ct_X9_addSign l, by decide, by decide, mi_X9_addSign.1, mi_X9_addSign.2, ml_RX9_123, mv_X9_addSign.1, mv_X9_addSign.2, ⟨_, _, rfl⟩, by decide, by decide +kernel⟩)), fun _ h => absurd h List.not_mem_nil⟩) (x, q) (lkp_mem h)) sf_RX9_ok (by decide +kernel) 400 (fun As σ Q h => ?_)
  replace h := p1r_e h
  obtain ⟨z0, q0, rfl, h⟩ := h
  replace h := onB_e h
  obtain ⟨e0, h⟩ := h
  have e0 := Nat.eq_of_beq_eq_true e0
  subst e0
  replace h := p1i_e h
  obtain ⟨x1, q1, rfl, h⟩ := h
  replace h := onB_e h
  obtain ⟨e9, h⟩ := h
  have e9 := List.isEmpty_iff.mp e9
  subst e9
  refine ⟨Nat.le_of_ble_eq_true rfl, fun P hP => ?_⟩
  exact h 
def wp_X9_wayChoice (x1 : Int32) (σ : Sg) (Q : Int32 → Sg → Prop) : Prop :=
  wp_X4_hasWay σ (fun r1 => ((r1 = 0 → wp_X9_refuse (-2 : Int32) σ (fun r2 s3 => Q r2 s3)) ∧ (¬ r1 = 0 → ((x1 < 0 → wp_X9_refuse (-3 : Int32) σ (fun r4 s5 => Q r4 s5)) ∧ (¬ x1 < 0 → wp_X4_waySteps σ (fun r6 => ((r6 < x1 → wp_X9_refuse (-3 : Int32) σ (fun r7 s8 => Q r7 s8)) ∧ (¬ r6 < x1 → wp_X4_choiceOfWay x1 σ (fun r9 s10 => Q r9 s10)))))))))
def wl_X9_wayChoice : WP := fun As σ Q => p1r As (fun z0 r0 => onB (Nat.beq z0 0) (p1i r0 (fun x1 r1 => onB r1.isEmpty (wp_X9_wayChoice x1 σ (fun x τ => Q (some (.int x)) τ)))))
def tb_X9_wayChoice : List (Nat × Instr × Nat) := [(0, (.aload_n 0, 1)), (1, (.getfield 39, 3)), (4, (.invokevirtual 210, 3)), (7, (.ifCond .ne 17, 3)), (10, (.aload_n 0, 1)), (11, (.bipush (-2), 2)), (13, (.invokevirtual 83, 3)), (16, (.ireturn, 1)), (17, (.iload_n 1, 1)), (18, (.ifCond .lt 32, 3)), (21, (.iload_n 1, 1)), (22, (.aload_n 0, 1)), (23, (.getfield 39, 3)), (26, (.invokevirtual 213, 3)), (29, (.if_icmp .le 39, 3)), (32, (.aload_n 0, 1)), (33, (.bipush (-3), 2)), (35, (.invokevirtual 83, 3)), (38, (.ireturn, 1)), (39, (.aload_n 0, 1)), (40, (.getfield 39, 3)), (43, (.iload_n 1, 1)), (44, (.invokevirtual 219, 3)), (47, (.ireturn, 1))]
def ce_X9_wayChoice : List (Nat × (Nat × Option Nat × WP)) := [(210, (1, some 4, wl_X4_hasWay)), (83, (2, some 9, wl_X9_refuse)), (213, (1, some 4, wl_X4_waySteps)), (219, (2, some 4, wl_X4_choiceOfWay))]
set_option maxRecDepth 100000 in
set_option maxHeartbeats 4000000 in
theorem ct_X9_wayChoice (l : Launch) : Con l wX yX9_wayChoice cX9_wayChoice 2 (some .int) 5 wl_X9_wayChoice := by
  refine sxm_ok l (ft := lkp ft_RX9) (c32 := lkp c32_RX9) (c64 := lkp c64_RX9) (ce := lkp ce_X9_wayChoice) (sf := lkp sf_RX9) (lab := lkp []) (T := tb_X9_wayChoice) (by decide +kernel) ft_RX9_ok c32_RX9_ok c64_RX9_ok (fun x q h => (show ∀ q ∈ ce_X9_wayChoice, ceOK l wX RX9 5 q.1 q.2.1 q.2.2.1 q.2.2.2 from List.forall_mem_cons.mpr ⟨Or.inr (Or.inr (Or.inr ⟨yX4_hasWay, cX4_hasWay, 1, (some .boolean), 0, ct_X4_hasWay l, by decide, by decide, mi_X4_hasWay.1, mi_X4_hasWay.2, ml_RX9_210, mv_X4_hasWay.1, mv_X4_hasWay.2, ⟨_, _, rfl⟩, by decide, by decide +kernel⟩)), List.forall_mem_cons.mpr ⟨Or.inr (Or.inr (Or.inr ⟨yX9_refuse, cX9_refuse, 2, (some .int), 0, ct_X9_refuse l, by decide, by decide, mi_X9_refuse.1, mi_X9_refuse.2, ml_RX9_83, mv_X9_refuse.1, mv_X9_refuse.2, ⟨_, _, rfl⟩, by decide, by decide +kernel⟩)), List.forall_mem_cons.mpr ⟨Or.inr (Or.inr (Or.inr ⟨yX4_waySteps, cX4_waySteps, 1, (some .int), 1, ct_X4_waySteps l, by decide, by decide, mi_X4_waySteps.1, mi_X4_waySteps.2, ml_RX9_213, mv_X4_waySteps.1, mv_X4_waySteps.2, ⟨_, _, rfl⟩, by decide, by decide +kernel⟩)), List.forall_mem_cons.mpr ⟨Or.inr (Or.inr (Or.inr ⟨yX4_choiceOfWay, cX4_choiceOfWay, 2, (some .int), 4, ct_X4_choiceOfWay l, by decide, by decide, mi_X4_choiceOfWay.1, mi_X4_choiceOfWay.2, ml_RX9_219, mv_X4_choiceOfWay.1, mv_X4_choiceOfWay.2, ⟨_, _, rfl⟩, by decide, by decide +kernel⟩)), fun _ h => absurd h List.not_mem_nil⟩⟩⟩⟩) (x, q) (lkp_mem h)) sf_RX9_ok (by decide +kernel) 400 (fun As σ Q h => ?_)
  replace h := p1r_e h
  obtain ⟨z0, q0, rfl, h⟩ := h
  replace h := onB_e h
  obtain ⟨e0, h⟩ := h
  have e0 := Nat.eq_of_beq_eq_true e0
  subst e0
  replace h := p1i_e h
  obtain ⟨x1, q1, rfl, h⟩ := h
  replace h := onB_e h
  obtain ⟨e9, h⟩ := h
  have e9 := List.isEmpty_iff.mp e9
  subst e9
  refine ⟨Nat.le_of_ble_eq_true rfl, fun P hP => ?_⟩
  exact h 
def wp_X9_ask (x1 : Int32) (x2 : Int32) (x3 : Int32) (σ : Sg) (Q : Int32 → Sg → Prop) : Prop :=
  ((x1 = 0 → wp_X9_isCube x2 x3 σ (fun r1 => ((r1 = 0 → wp_X9_refuse (-7 : Int32) σ (fun r2 s3 => Q r2 s3)) ∧ (¬ r1 = 0 → wp_X8_renew σ (fun s4 => wp_X9_cubeOf x2 x3 s4 (fun r5 => wp_X1_leastInto x1 r5 s4 (fun r6 s7 => Q r6 s7))))))) ∧ (¬ x1 = 0 → wp_X9_isLaterFrame x1 σ (fun r8 => ((r8 = 0 → wp_X9_refuse (-3 : Int32) σ (fun r9 s10 => Q r9 s10)) ∧ (¬ r8 = 0 → wp_X9_isCube x2 x3 σ (fun r11 => ((r11 = 0 → wp_X9_refuse (-7 : Int32) σ (fun r12 s13 => Q r12 s13)) ∧ (¬ r11 = 0 → wp_X8_renew σ (fun s14 => wp_X9_cubeOf x2 x3 s14 (fun r15 => wp_X1_leastInto x1 r15 s14 (fun r16 s17 => Q r16 s17)))))))))))
def wl_X9_ask : WP := fun As σ Q => p1r As (fun z0 r0 => onB (Nat.beq z0 0) (p1i r0 (fun x1 r1 => p1i r1 (fun x2 r2 => p1i r2 (fun x3 r3 => onB r3.isEmpty (wp_X9_ask x1 x2 x3 σ (fun x τ => Q (some (.int x)) τ)))))))
def tb_X9_ask : List (Nat × Instr × Nat) := [(0, (.iload_n 1, 1)), (1, (.ifCond .eq 18, 3)), (4, (.iload_n 1, 1)), (5, (.invokestatic 187, 3)), (8, (.ifCond .ne 18, 3)), (11, (.aload_n 0, 1)), (12, (.bipush (-3), 2)), (14, (.invokevirtual 83, 3)), (17, (.ireturn, 1)), (18, (.aload_n 0, 1)), (19, (.iload_n 2, 1)), (20, (.iload_n 3, 1)), (21, (.invokevirtual 232, 3)), (24, (.ifCond .ne 34, 3)), (27, (.aload_n 0, 1)), (28, (.bipush (-7), 2)), (30, (.invokevirtual 83, 3)), (33, (.ireturn, 1)), (34, (.aload_n 0, 1)), (35, (.getfield 21, 3)), (38, (.invokevirtual 178, 3)), (41, (.aload_n 0, 1)), (42, (.getfield 30, 3)), (45, (.iload_n 1, 1)), (46, (.iload_n 2, 1)), (47, (.iload_n 3, 1)), (48, (.invokestatic 236, 3)), (51, (.invokevirtual 239, 3)), (54, (.ireturn, 1))]
def ce_X9_ask : List (Nat × (Nat × Option Nat × WP)) := [(187, (1, none, wl_X9_isLaterFrame)), (83, (2, some 9, wl_X9_refuse)), (232, (3, some 9, wl_X9_isCube)), (178, (1, some 8, wl_X8_renew)), (236, (2, none, wl_X9_cubeOf)), (239, (3, some 1, wl_X1_leastInto))]
set_option maxRecDepth 100000 in
set_option maxHeartbeats 4000000 in
theorem ct_X9_ask (l : Launch) : Con l wX yX9_ask cX9_ask 4 (some .int) 5 wl_X9_ask := by
  refine sxm_ok l (ft := lkp ft_RX9) (c32 := lkp c32_RX9) (c64 := lkp c64_RX9) (ce := lkp ce_X9_ask) (sf := lkp sf_RX9) (lab := lkp []) (T := tb_X9_ask) (by decide +kernel) ft_RX9_ok c32_RX9_ok c64_RX9_ok (fun x q h => (show ∀ q ∈ ce_X9_ask, ceOK l wX RX9 5 q.1 q.2.1 q.2.2.1 q.2.2.2 from List.forall_mem_cons.mpr ⟨Or.inr (Or.inr (Or.inr ⟨yX9_isLaterFrame, cX9_isLaterFrame, 1, (some .boolean), 0, ct_X9_isLaterFrame l, by decide, by decide, mi_X9_isLaterFrame.1, mi_X9_isLaterFrame.2, Or.inl ml_RX9_187, ms_X9_isLaterFrame, by decide +kernel⟩)), List.forall_mem_cons.mpr ⟨Or.inr (Or.inr (Or.inr ⟨yX9_refuse, cX9_refuse, 2, (some .int), 0, ct_X9_refuse l, by decide, by decide, mi_X9_refuse.1, mi_X9_refuse.2, ml_RX9_83, mv_X9_refuse.1, mv_X9_refuse.2, ⟨_, _, rfl⟩, by decide, by decide +kernel⟩)), List.forall_mem_cons.mpr ⟨Or.inr (Or.inr (Or.inr ⟨yX9_isCube, cX9_isCube, 3, (some .boolean), 2, ct_X9_isCube l, by decide, by decide, mi_X9_isCube.1, mi_X9_isCube.2, ml_RX9_232, mv_X9_isCube.1, mv_X9_isCube.2, ⟨_, _, rfl⟩, by decide, by decide +kernel⟩)), List.forall_mem_cons.mpr ⟨Or.inr (Or.inr (Or.inr ⟨yX8_renew, cX8_renew, 2, none, 4, ct_X8_renew l, by decide, by decide, mi_X8_renew.1, mi_X8_renew.2, ml_RX9_178, mv_X8_renew.1, mv_X8_renew.2, ⟨_, _, rfl⟩, by decide, by decide +kernel⟩)), List.forall_mem_cons.mpr ⟨Or.inr (Or.inr (Or.inr ⟨yX9_cubeOf, cX9_cubeOf, 2, (some .int), 0, ct_X9_cubeOf l, by decide, by decide, mi_X9_cubeOf.1, mi_X9_cubeOf.2, Or.inl ml_RX9_236, ms_X9_cubeOf, by decide +kernel⟩)), List.forall_mem_cons.mpr ⟨Or.inr (Or.inr (Or.inr ⟨yX1_leastInto, cX1_leastInto, 5, (some .int), 2, ct_X1_leastInto l, by decide, by decide, mi_X1_leastInto.1, mi_X1_leastInto.2, ml_RX9_239, mv_X1_leastInto.1, mv_X1_leastInto.2, ⟨_, _, rfl⟩, by decide, by decide +kernel⟩)), fun _ h => absurd h List.not_mem_nil⟩⟩⟩⟩⟩⟩) (x, q) (lkp_mem h)) sf_RX9_ok (by decide +kernel) 400 (fun As σ Q h => ?_)
  replace h := p1r_e h
  obtain ⟨z0, q0, rfl, h⟩ := h
  replace h := onB_e h
  obtain ⟨e0, h⟩ := h
  have e0 := Nat.eq_of_beq_eq_true e0
  subst e0
  replace h := p1i_e h
  obtain ⟨x1, q1, rfl, h⟩ := h
  replace h := p1i_e h
  obtain ⟨x2, q2, rfl, h⟩ := h
  replace h := p1i_e h
  obtain ⟨x3, q3, rfl, h⟩ := h
  replace h := onB_e h
  obtain ⟨e9, h⟩ := h
  have e9 := List.isEmpty_iff.mp e9
  subst e9
  refine ⟨Nat.le_of_ble_eq_true rfl, fun P hP => ?_⟩
  exact h 
def wp_X9_widen (x1 : Int32) (x2 : Int32) (x3 : Int32) (σ : Sg) (Q : Int32 → Sg → Prop) : Prop :=
  wp_X9_isLaterFrame x1 σ (fun r1 => ((r1 = 0 → wp_X9_refuse (-3 : Int32) σ (fun r2 s3 => Q r2 s3)) ∧ (¬ r1 = 0 → wp_X9_isCube x2 x3 σ (fun r4 => ((r4 = 0 → wp_X9_refuse (-7 : Int32) σ (fun r5 s6 => Q r5 s6)) ∧ (¬ r4 = 0 → wp_X8_renew σ (fun s7 => wp_X9_cubeOf x2 x3 s7 (fun r8 => wp_X1_canKeepOut x1 r8 s7 (fun r9 s10 => ((r9 = 0 → wp_X9_refuse (-7 : Int32) s10 (fun r11 s12 => Q r11 s12)) ∧ (¬ r9 = 0 → wp_X1_widened x1 r8 s10 (fun r13 s14 => wp_X9_maskOf r13 s14 (fun r15 => Q r15 s14)))))))))))))
def wl_X9_widen : WP := fun As σ Q => p1r As (fun z0 r0 => onB (Nat.beq z0 0) (p1i r0 (fun x1 r1 => p1i r1 (fun x2 r2 => p1i r2 (fun x3 r3 => onB r3.isEmpty (wp_X9_widen x1 x2 x3 σ (fun x τ => Q (some (.int x)) τ)))))))
def tb_X9_widen : List (Nat × Instr × Nat) := [(0, (.iload_n 1, 1)), (1, (.invokestatic 187, 3)), (4, (.ifCond .ne 14, 3)), (7, (.aload_n 0, 1)), (8, (.bipush (-3), 2)), (10, (.invokevirtual 83, 3)), (13, (.ireturn, 1)), (14, (.aload_n 0, 1)), (15, (.iload_n 2, 1)), (16, (.iload_n 3, 1)), (17, (.invokevirtual 232, 3)), (20, (.ifCond .ne 30, 3)), (23, (.aload_n 0, 1)), (24, (.bipush (-7), 2)), (26, (.invokevirtual 83, 3)), (29, (.ireturn, 1)), (30, (.aload_n 0, 1)), (31, (.getfield 21, 3)), (34, (.invokevirtual 178, 3)), (37, (.iload_n 2, 1)), (38, (.iload_n 3, 1)), (39, (.invokestatic 236, 3)), (42, (.istore 4, 2)), (44, (.aload_n 0, 1)), (45, (.getfield 30, 3)), (48, (.iload_n 1, 1)), (49, (.iload 4, 2)), (51, (.invokevirtual 242, 3)), (54, (.ifCond .ne 64, 3)), (57, (.aload_n 0, 1)), (58, (.bipush (-7), 2)), (60, (.invokevirtual 83, 3)), (63, (.ireturn, 1)), (64, (.aload_n 0, 1)), (65, (.getfield 30, 3)), (68, (.iload_n 1, 1)), (69, (.iload 4, 2)), (71, (.invokevirtual 245, 3)), (74, (.invokestatic 248, 3)), (77, (.ireturn, 1))]
def ce_X9_widen : List (Nat × (Nat × Option Nat × WP)) := [(187, (1, none, wl_X9_isLaterFrame)), (83, (2, some 9, wl_X9_refuse)), (232, (3, some 9, wl_X9_isCube)), (178, (1, some 8, wl_X8_renew)), (236, (2, none, wl_X9_cubeOf)), (242, (3, some 1, wl_X1_canKeepOut)), (245, (3, some 1, wl_X1_widened)), (248, (1, none, wl_X9_maskOf))]
set_option maxRecDepth 100000 in
set_option maxHeartbeats 4000000 in
theorem ct_X9_widen (l : Launch) : Con l wX yX9_widen cX9_widen 5 (some .int) 5 wl_X9_widen := by
  refine sxm_ok l (ft := lkp ft_RX9) (c32 := lkp c32_RX9) (c64 := lkp c64_RX9) (ce := lkp ce_X9_widen) (sf := lkp sf_RX9) (lab := lkp []) (T := tb_X9_widen) (by decide +kernel) ft_RX9_ok c32_RX9_ok c64_RX9_ok (fun x q h => (show ∀ q ∈ ce_X9_widen, ceOK l wX RX9 5 q.1 q.2.1 q.2.2.1 q.2.2.2 from List.forall_mem_cons.mpr ⟨Or.inr (Or.inr (Or.inr ⟨yX9_isLaterFrame, cX9_isLaterFrame, 1, (some .boolean), 0, ct_X9_isLaterFrame l, by decide, by decide, mi_X9_isLaterFrame.1, mi_X9_isLaterFrame.2, Or.inl ml_RX9_187, ms_X9_isLaterFrame, by decide +kernel⟩)), List.forall_mem_cons.mpr ⟨Or.inr (Or.inr (Or.inr ⟨yX9_refuse, cX9_refuse, 2, (some .int), 0, ct_X9_refuse l, by decide, by decide, mi_X9_refuse.1, mi_X9_refuse.2, ml_RX9_83, mv_X9_refuse.1, mv_X9_refuse.2, ⟨_, _, rfl⟩, by decide, by decide +kernel⟩)), List.forall_mem_cons.mpr ⟨Or.inr (Or.inr (Or.inr ⟨yX9_isCube, cX9_isCube, 3, (some .boolean), 2, ct_X9_isCube l, by decide, by decide, mi_X9_isCube.1, mi_X9_isCube.2, ml_RX9_232, mv_X9_isCube.1, mv_X9_isCube.2, ⟨_, _, rfl⟩, by decide, by decide +kernel⟩)), List.forall_mem_cons.mpr ⟨Or.inr (Or.inr (Or.inr ⟨yX8_renew, cX8_renew, 2, none, 4, ct_X8_renew l, by decide, by decide, mi_X8_renew.1, mi_X8_renew.2, ml_RX9_178, mv_X8_renew.1, mv_X8_renew.2, ⟨_, _, rfl⟩, by decide, by decide +kernel⟩)), List.forall_mem_cons.mpr ⟨Or.inr (Or.inr (Or.inr ⟨yX9_cubeOf, cX9_cubeOf, 2, (some .int), 0, ct_X9_cubeOf l, by decide, by decide, mi_X9_cubeOf.1, mi_X9_cubeOf.2, Or.inl ml_RX9_236, ms_X9_cubeOf, by decide +kernel⟩)), List.forall_mem_cons.mpr ⟨Or.inr (Or.inr (Or.inr ⟨yX1_canKeepOut, cX1_canKeepOut, 3, (some .boolean), 3, ct_X1_canKeepOut l, by decide, by decide, mi_X1_canKeepOut.1, mi_X1_canKeepOut.2, ml_RX9_242, mv_X1_canKeepOut.1, mv_X1_canKeepOut.2, ⟨_, _, rfl⟩, by decide, by decide +kernel⟩)), List.forall_mem_cons.mpr ⟨Or.inr (Or.inr (Or.inr ⟨yX1_widened, cX1_widened, 7, (some .int), 3, ct_X1_widened l, by decide, by decide, mi_X1_widened.1, mi_X1_widened.2, ml_RX9_245, mv_X1_widened.1, mv_X1_widened.2, ⟨_, _, rfl⟩, by decide, by decide +kernel⟩)), List.forall_mem_cons.mpr ⟨Or.inr (Or.inr (Or.inr ⟨yX9_maskOf, cX9_maskOf, 1, (some .int), 0, ct_X9_maskOf l, by decide, by decide, mi_X9_maskOf.1, mi_X9_maskOf.2, Or.inl ml_RX9_248, ms_X9_maskOf, by decide +kernel⟩)), fun _ h => absurd h List.not_mem_nil⟩⟩⟩⟩⟩⟩⟩⟩) (x, q) (lkp_mem h)) sf_RX9_ok (by decide +kernel) 400 (fun As σ Q h => ?_)
  replace h := p1r_e h
  obtain ⟨z0, q0, rfl, h⟩ := h
  replace h := onB_e h
  obtain ⟨e0, h⟩ := h
  have e0 := Nat.eq_of_beq_eq_true e0
  subst e0
  replace h := p1i_e h
  obtain ⟨x1, q1, rfl, h⟩ := h
  replace h := p1i_e h
  obtain ⟨x2, q2, rfl, h⟩ := h
  replace h := p1i_e h
  obtain ⟨x3, q3, rfl, h⟩ := h
  replace h := onB_e h
  obtain ⟨e9, h⟩ := h
  have e9 := List.isEmpty_iff.mp e9
  subst e9
  refine ⟨Nat.le_of_ble_eq_true rfl, fun P hP => ?_⟩
  exact h 
def wp_X9_shortest  (σ : Sg) (Q : Int32 → Sg → Prop) : Prop :=
  wp_X8_renew σ (fun s1 => wp_X8_fewestToBad s1 (fun r2 s3 => Q r2 s3))
def wl_X9_shortest : WP := fun As σ Q => p1r As (fun z0 r0 => onB (Nat.beq z0 0) (onB r0.isEmpty (wp_X9_shortest  σ (fun x τ => Q (some (.int x)) τ))))
def tb_X9_shortest : List (Nat × Instr × Nat) := [(0, (.aload_n 0, 1)), (1, (.getfield 21, 3)), (4, (.invokevirtual 178, 3)), (7, (.aload_n 0, 1)), (8, (.getfield 21, 3)), (11, (.invokevirtual 251, 3)), (14, (.ireturn, 1))]
def ce_X9_shortest : List (Nat × (Nat × Option Nat × WP)) := [(178, (1, some 8, wl_X8_renew)), (251, (1, some 8, wl_X8_fewestToBad))]
set_option maxRecDepth 100000 in
set_option maxHeartbeats 4000000 in
theorem ct_X9_shortest (l : Launch) : Con l wX yX9_shortest cX9_shortest 1 (some .int) 5 wl_X9_shortest := by
  refine sxm_ok l (ft := lkp ft_RX9) (c32 := lkp c32_RX9) (c64 := lkp c64_RX9) (ce := lkp ce_X9_shortest) (sf := lkp sf_RX9) (lab := lkp []) (T := tb_X9_shortest) (by decide +kernel) ft_RX9_ok c32_RX9_ok c64_RX9_ok (fun x q h => (show ∀ q ∈ ce_X9_shortest, ceOK l wX RX9 5 q.1 q.2.1 q.2.2.1 q.2.2.2 from List.forall_mem_cons.mpr ⟨Or.inr (Or.inr (Or.inr ⟨yX8_renew, cX8_renew, 2, none, 4, ct_X8_renew l, by decide, by decide, mi_X8_renew.1, mi_X8_renew.2, ml_RX9_178, mv_X8_renew.1, mv_X8_renew.2, ⟨_, _, rfl⟩, by decide, by decide +kernel⟩)), List.forall_mem_cons.mpr ⟨Or.inr (Or.inr (Or.inr ⟨yX8_fewestToBad, cX8_fewestToBad, 2, (some .int), 3, ct_X8_fewestToBad l, by decide, by decide, mi_X8_fewestToBad.1, mi_X8_fewestToBad.2, ml_RX9_251, mv_X8_fewestToBad.1, mv_X8_fewestToBad.2, ⟨_, _, rfl⟩, by decide, by decide +kernel⟩)), fun _ h => absurd h List.not_mem_nil⟩⟩) (x, q) (lkp_mem h)) sf_RX9_ok (by decide +kernel) 400 (fun As σ Q h => ?_)
  replace h := p1r_e h
  obtain ⟨z0, q0, rfl, h⟩ := h
  replace h := onB_e h
  obtain ⟨e0, h⟩ := h
  have e0 := Nat.eq_of_beq_eq_true e0
  subst e0
  replace h := onB_e h
  obtain ⟨e9, h⟩ := h
  have e9 := List.isEmpty_iff.mp e9
  subst e9
  refine ⟨Nat.le_of_ble_eq_true rfl, fun P hP => ?_⟩
  exact h 
def wp_X9_within (x1 : Int32) (σ : Sg) (Q : Int32 → Sg → Prop) : Prop :=
  ((x1 < 0 → wp_X9_refuse (-4 : Int32) σ (fun r1 s2 => Q r1 s2)) ∧ (¬ x1 < 0 → wp_X8_renew σ (fun s3 => wp_X8_reached x1 s3 (fun r4 s5 => onB (isK wX r4 7) (wp_X7_howMany r4 s5 (fun r6 => Q r6 s5))))))
def wl_X9_within : WP := fun As σ Q => p1r As (fun z0 r0 => onB (Nat.beq z0 0) (p1i r0 (fun x1 r1 => onB r1.isEmpty (wp_X9_within x1 σ (fun x τ => Q (some (.int x)) τ)))))
def tb_X9_within : List (Nat × Instr × Nat) := [(0, (.iload_n 1, 1)), (1, (.ifCond .ge 11, 3)), (4, (.aload_n 0, 1)), (5, (.bipush (-4), 2)), (7, (.invokevirtual 83, 3)), (10, (.ireturn, 1)), (11, (.aload_n 0, 1)), (12, (.getfield 21, 3)), (15, (.invokevirtual 178, 3)), (18, (.aload_n 0, 1)), (19, (.getfield 21, 3)), (22, (.iload_n 1, 1)), (23, (.invokevirtual 254, 3)), (26, (.invokevirtual 258, 3)), (29, (.ireturn, 1))]
def ce_X9_within : List (Nat × (Nat × Option Nat × WP)) := [(83, (2, some 9, wl_X9_refuse)), (178, (1, some 8, wl_X8_renew)), (254, (2, some 8, wl_X8_reached)), (258, (1, some 7, wl_X7_howMany))]
set_option maxRecDepth 100000 in
set_option maxHeartbeats 4000000 in
theorem ct_X9_within (l : Launch) : Con l wX yX9_within cX9_within 2 (some .int) 5 wl_X9_within := by
  refine sxm_ok l (ft := lkp ft_RX9) (c32 := lkp c32_RX9) (c64 := lkp c64_RX9) (ce := lkp ce_X9_within) (sf := lkp sf_RX9) (lab := lkp []) (T := tb_X9_within) (by decide +kernel) ft_RX9_ok c32_RX9_ok c64_RX9_ok (fun x q h => (show ∀ q ∈ ce_X9_within, ceOK l wX RX9 5 q.1 q.2.1 q.2.2.1 q.2.2.2 from List.forall_mem_cons.mpr ⟨Or.inr (Or.inr (Or.inr ⟨yX9_refuse, cX9_refuse, 2, (some .int), 0, ct_X9_refuse l, by decide, by decide, mi_X9_refuse.1, mi_X9_refuse.2, ml_RX9_83, mv_X9_refuse.1, mv_X9_refuse.2, ⟨_, _, rfl⟩, by decide, by decide +kernel⟩)), List.forall_mem_cons.mpr ⟨Or.inr (Or.inr (Or.inr ⟨yX8_renew, cX8_renew, 2, none, 4, ct_X8_renew l, by decide, by decide, mi_X8_renew.1, mi_X8_renew.2, ml_RX9_178, mv_X8_renew.1, mv_X8_renew.2, ⟨_, _, rfl⟩, by decide, by decide +kernel⟩)), List.forall_mem_cons.mpr ⟨Or.inr (Or.inr (Or.inr ⟨yX8_reached, cX8_reached, 4, (some (.object "FrameProver$StateSet")), 3, ct_X8_reached l, by decide, by decide, mi_X8_reached.1, mi_X8_reached.2, ml_RX9_254, mv_X8_reached.1, mv_X8_reached.2, ⟨_, _, rfl⟩, by decide, by decide +kernel⟩)), List.forall_mem_cons.mpr ⟨Or.inr (Or.inr (Or.inr ⟨yX7_howMany, cX7_howMany, 3, (some .int), 1, ct_X7_howMany l, by decide, by decide, mi_X7_howMany.1, mi_X7_howMany.2, ml_RX9_258, mv_X7_howMany.1, mv_X7_howMany.2, ⟨_, _, rfl⟩, by decide, by decide +kernel⟩)), fun _ h => absurd h List.not_mem_nil⟩⟩⟩⟩) (x, q) (lkp_mem h)) sf_RX9_ok (by decide +kernel) 400 (fun As σ Q h => ?_)
  replace h := p1r_e h
  obtain ⟨z0, q0, rfl, h⟩ := h
  replace h := onB_e h
  obtain ⟨e0, h⟩ := h
  have e0 := Nat.eq_of_beq_eq_true e0
  subst e0
  replace h := p1i_e h
  obtain ⟨x1, q1, rfl, h⟩ := h
  replace h := onB_e h
  obtain ⟨e9, h⟩ := h
  have e9 := List.isEmpty_iff.mp e9
  subst e9
  refine ⟨Nat.le_of_ble_eq_true rfl, fun P hP => ?_⟩
  exact h 
def wp_X9_keeps (x1 : Int32) (σ : Sg) (Q : Int32 → Sg → Prop) : Prop :=
  wp_X9_isLaterFrame x1 σ (fun r1 => ((r1 = 0 → wp_X9_refuse (-3 : Int32) σ (fun r2 s3 => Q r2 s3)) ∧ (¬ r1 = 0 → wp_X8_renew σ (fun s4 => wp_X8_reached x1 s4 (fun r5 s6 => wp_X1_frame x1 s6 (fun r7 => onB (isK wX r7 0) (onB (isK wX r5 7) (wp_X7_isInside r5 (wR wX r7 1) s6 (fun r8 => ((r8 = 0 → Q (0 : Int32) s6) ∧ (¬ r8 = 0 → Q (1 : Int32) s6)))))))))))
def wl_X9_keeps : WP := fun As σ Q => p1r As (fun z0 r0 => onB (Nat.beq z0 0) (p1i r0 (fun x1 r1 => onB r1.isEmpty (wp_X9_keeps x1 σ (fun x τ => Q (some (.int x)) τ)))))
def tb_X9_keeps : List (Nat × Instr × Nat) := [(0, (.iload_n 1, 1)), (1, (.invokestatic 187, 3)), (4, (.ifCond .ne 14, 3)), (7, (.aload_n 0, 1)), (8, (.bipush (-3), 2)), (10, (.invokevirtual 83, 3)), (13, (.ireturn, 1)), (14, (.aload_n 0, 1)), (15, (.getfield 21, 3)), (18, (.invokevirtual 178, 3)), (21, (.aload_n 0, 1)), (22, (.getfield 21, 3)), (25, (.iload_n 1, 1)), (26, (.invokevirtual 254, 3)), (29, (.aload_n 0, 1)), (30, (.getfield 30, 3)), (33, (.iload_n 1, 1)), (34, (.invokevirtual 190, 3)), (37, (.getfield 263, 3)), (40, (.invokevirtual 267, 3)), (43, (.ifCond .eq 50, 3)), (46, (.iconst 1, 1)), (47, (.goto 51, 3)), (50, (.iconst 0, 1)), (51, (.ireturn, 1))]
def ce_X9_keeps : List (Nat × (Nat × Option Nat × WP)) := [(187, (1, none, wl_X9_isLaterFrame)), (83, (2, some 9, wl_X9_refuse)), (178, (1, some 8, wl_X8_renew)), (254, (2, some 8, wl_X8_reached)), (190, (2, some 1, wl_X1_frame)), (267, (2, some 7, wl_X7_isInside))]
set_option maxRecDepth 100000 in
set_option maxHeartbeats 4000000 in
theorem ct_X9_keeps (l : Launch) : Con l wX yX9_keeps cX9_keeps 2 (some .int) 5 wl_X9_keeps := by
  refine sxm_ok l (ft := lkp ft_RX9) (c32 := lkp c32_RX9) (c64 := lkp c64_RX9) (ce := lkp ce_X9_keeps) (sf := lkp sf_RX9) (lab := lkp []) (T := tb_X9_keeps) (by decide +kernel) ft_RX9_ok c32_RX9_ok c64_RX9_ok (fun x q h => (show ∀ q ∈ ce_X9_keeps, ceOK l wX RX9 5 q.1 q.2.1 q.2.2.1 q.2.2.2 from List.forall_mem_cons.mpr ⟨Or.inr (Or.inr (Or.inr ⟨yX9_isLaterFrame, cX9_isLaterFrame, 1, (some .boolean), 0, ct_X9_isLaterFrame l, by decide, by decide, mi_X9_isLaterFrame.1, mi_X9_isLaterFrame.2, Or.inl ml_RX9_187, ms_X9_isLaterFrame, by decide +kernel⟩)), List.forall_mem_cons.mpr ⟨Or.inr (Or.inr (Or.inr ⟨yX9_refuse, cX9_refuse, 2, (some .int), 0, ct_X9_refuse l, by decide, by decide, mi_X9_refuse.1, mi_X9_refuse.2, ml_RX9_83, mv_X9_refuse.1, mv_X9_refuse.2, ⟨_, _, rfl⟩, by decide, by decide +kernel⟩)), List.forall_mem_cons.mpr ⟨Or.inr (Or.inr (Or.inr ⟨yX8_renew, cX8_renew, 2, none, 4, ct_X8_renew l, by decide, by decide, mi_X8_renew.1, mi_X8_renew.2, ml_RX9_178, mv_X8_renew.1, mv_X8_renew.2, ⟨_, _, rfl⟩, by decide, by decide +kernel⟩)), List.forall_mem_cons.mpr ⟨Or.inr (Or.inr (Or.inr ⟨yX8_reached, cX8_reached, 4, (some (.object "FrameProver$StateSet")), 3, ct_X8_reached l, by decide, by decide, mi_X8_reached.1, mi_X8_reached.2, ml_RX9_254, mv_X8_reached.1, mv_X8_reached.2, ⟨_, _, rfl⟩, by decide, by decide +kernel⟩)), List.forall_mem_cons.mpr ⟨Or.inr (Or.inr (Or.inr ⟨yX1_frame, cX1_frame, 2, (some (.object "FrameProver$Clauses")), 0, ct_X1_frame l, by decide, by decide, mi_X1_frame.1, mi_X1_frame.2, ml_RX9_190, mv_X1_frame.1, mv_X1_frame.2, ⟨_, _, rfl⟩, by decide, by decide +kernel⟩)), List.forall_mem_cons.mpr ⟨Or.inr (Or.inr (Or.inr ⟨yX7_isInside, cX7_isInside, 5, (some .boolean), 0, ct_X7_isInside l, by decide, by decide, mi_X7_isInside.1, mi_X7_isInside.2, ml_RX9_267, mv_X7_isInside.1, mv_X7_isInside.2, ⟨_, _, rfl⟩, by decide, by decide +kernel⟩)), fun _ h => absurd h List.not_mem_nil⟩⟩⟩⟩⟩⟩) (x, q) (lkp_mem h)) sf_RX9_ok (by decide +kernel) 400 (fun As σ Q h => ?_)
  replace h := p1r_e h
  obtain ⟨z0, q0, rfl, h⟩ := h
  replace h := onB_e h
  obtain ⟨e0, h⟩ := h
  have e0 := Nat.eq_of_beq_eq_true e0
  subst e0
  replace h := p1i_e h
  obtain ⟨x1, q1, rfl, h⟩ := h
  replace h := onB_e h
  obtain ⟨e9, h⟩ := h
  have e9 := List.isEmpty_iff.mp e9
  subst e9
  refine ⟨Nat.le_of_ble_eq_true rfl, fun P hP => ?_⟩
  exact h 
def wp_X9_cone  (σ : Sg) (Q : Int32 → Sg → Prop) : Prop :=
  (((gI σ 1 9) = (-1 : Int32) → wp_X9_refuse (-2 : Int32) σ (fun r1 s2 => Q r1 s2)) ∧ (¬ (gI σ 1 9) = (-1 : Int32) → wp_X3_coneBits σ (fun r3 s4 => Q r3 s4)))
def wl_X9_cone : WP := fun As σ Q => p1r As (fun z0 r0 => onB (Nat.beq z0 0) (onB r0.isEmpty (wp_X9_cone  σ (fun x τ => Q (some (.int x)) τ))))
def tb_X9_cone : List (Nat × Instr × Nat) := [(0, (.aload_n 0, 1)), (1, (.getfield 10, 3)), (4, (.getfield 116, 3)), (7, (.iconst (-1), 1)), (8, (.if_icmp .ne 18, 3)), (11, (.aload_n 0, 1)), (12, (.bipush (-2), 2)), (14, (.invokevirtual 83, 3)), (17, (.ireturn, 1)), (18, (.aload_n 0, 1)), (19, (.getfield 10, 3)), (22, (.invokevirtual 271, 3)), (25, (.ireturn, 1))]
def ce_X9_cone : List (Nat × (Nat × Option Nat × WP)) := [(83, (2, some 9, wl_X9_refuse)), (271, (1, some 3, wl_X3_coneBits))]
set_option maxRecDepth 100000 in
set_option maxHeartbeats 4000000 in
theorem ct_X9_cone (l : Launch) : Con l wX yX9_cone cX9_cone 1 (some .int) 5 wl_X9_cone := by
  refine sxm_ok l (ft := lkp ft_RX9) (c32 := lkp c32_RX9) (c64 := lkp c64_RX9) (ce := lkp ce_X9_cone) (sf := lkp sf_RX9) (lab := lkp []) (T := tb_X9_cone) (by decide +kernel) ft_RX9_ok c32_RX9_ok c64_RX9_ok (fun x q h => (show ∀ q ∈ ce_X9_cone, ceOK l wX RX9 5 q.1 q.2.1 q.2.2.1 q.2.2.2 from List.forall_mem_cons.mpr ⟨Or.inr (Or.inr (Or.inr ⟨yX9_refuse, cX9_refuse, 2, (some .int), 0, ct_X9_refuse l, by decide, by decide, mi_X9_refuse.1, mi_X9_refuse.2, ml_RX9_83, mv_X9_refuse.1, mv_X9_refuse.2, ⟨_, _, rfl⟩, by decide, by decide +kernel⟩)), List.forall_mem_cons.mpr ⟨Or.inr (Or.inr (Or.inr ⟨yX3_coneBits, cX3_coneBits, 3, (some .int), 4, ct_X3_coneBits l, by decide, by decide, mi_X3_coneBits.1, mi_X3_coneBits.2, ml_RX9_271, mv_X3_coneBits.1, mv_X3_coneBits.2, ⟨_, _, rfl⟩, by decide, by decide +kernel⟩)), fun _ h => absurd h List.not_mem_nil⟩⟩) (x, q) (lkp_mem h)) sf_RX9_ok (by decide +kernel) 400 (fun As σ Q h => ?_)
  replace h := p1r_e h
  obtain ⟨z0, q0, rfl, h⟩ := h
  replace h := onB_e h
  obtain ⟨e0, h⟩ := h
  have e0 := Nat.eq_of_beq_eq_true e0
  subst e0
  replace h := onB_e h
  obtain ⟨e9, h⟩ := h
  have e9 := List.isEmpty_iff.mp e9
  subst e9
  refine ⟨Nat.le_of_ble_eq_true rfl, fun P hP => ?_⟩
  exact h 
def wp_X9_judge  (σ : Sg) (Q : Int32 → Sg → Prop) : Prop :=
  wp_X8_renew σ (fun s1 => wp_X2_judgeList s1 (fun r2 s3 => Q r2 s3))
def wl_X9_judge : WP := fun As σ Q => p1r As (fun z0 r0 => onB (Nat.beq z0 0) (onB r0.isEmpty (wp_X9_judge  σ (fun x τ => Q (some (.int x)) τ))))
def tb_X9_judge : List (Nat × Instr × Nat) := [(0, (.aload_n 0, 1)), (1, (.getfield 21, 3)), (4, (.invokevirtual 178, 3)), (7, (.aload_n 0, 1)), (8, (.getfield 57, 3)), (11, (.invokevirtual 293, 3)), (14, (.ireturn, 1))]
def ce_X9_judge : List (Nat × (Nat × Option Nat × WP)) := [(178, (1, some 8, wl_X8_renew)), (293, (1, some 2, wl_X2_judgeList))]
set_option maxRecDepth 100000 in
set_option maxHeartbeats 4000000 in
theorem ct_X9_judge (l : Launch) : Con l wX yX9_judge cX9_judge 1 (some .int) 5 wl_X9_judge := by
  refine sxm_ok l (ft := lkp ft_RX9) (c32 := lkp c32_RX9) (c64 := lkp c64_RX9) (ce := lkp ce_X9_judge) (sf := lkp sf_RX9) (lab := lkp []) (T := tb_X9_judge) (by decide +kernel) ft_RX9_ok c32_RX9_ok c64_RX9_ok (fun x q h => (show ∀ q ∈ ce_X9_judge, ceOK l wX RX9 5 q.1 q.2.1 q.2.2.1 q.2.2.2 from List.forall_mem_cons.mpr ⟨Or.inr (Or.inr (Or.inr ⟨yX8_renew, cX8_renew, 2, none, 4, ct_X8_renew l, by decide, by decide, mi_X8_renew.1, mi_X8_renew.2, ml_RX9_178, mv_X8_renew.1, mv_X8_renew.2, ⟨_, _, rfl⟩, by decide, by decide +kernel⟩)), List.forall_mem_cons.mpr ⟨Or.inr (Or.inr (Or.inr ⟨yX2_judgeList, cX2_judgeList, 2, (some .int), 3, ct_X2_judgeList l, by decide, by decide, mi_X2_judgeList.1, mi_X2_judgeList.2, ml_RX9_293, mv_X2_judgeList.1, mv_X2_judgeList.2, ⟨_, _, rfl⟩, by decide, by decide +kernel⟩)), fun _ h => absurd h List.not_mem_nil⟩⟩) (x, q) (lkp_mem h)) sf_RX9_ok (by decide +kernel) 400 (fun As σ Q h => ?_)
  replace h := p1r_e h
  obtain ⟨z0, q0, rfl, h⟩ := h
  replace h := onB_e h
  obtain ⟨e0, h⟩ := h
  have e0 := Nat.eq_of_beq_eq_true e0
  subst e0
  replace h := onB_e h
  obtain ⟨e9, h⟩ := h
  have e9 := List.isEmpty_iff.mp e9
  subst e9
  refine ⟨Nat.le_of_ble_eq_true rfl, fun P hP => ?_⟩
  exact h 
def wp_X9_small  (σ : Sg) (Q : Int32 → Sg → Prop) : Prop :=
  wp_X8_renew σ (fun s1 => wp_X2_fault s1 (fun r2 => ((r2 = 0 → wp_X2_shrinkList s1 (fun r3 s4 => Q r3 s4)) ∧ (¬ r2 = 0 → wp_X9_refuse (-7 : Int32) s1 (fun r5 s6 => Q r5 s6)))))
def wl_X9_small : WP := fun As σ Q => p1r As (fun z0 r0 => onB (Nat.beq z0 0) (onB r0.isEmpty (wp_X9_small  σ (fun x τ => Q (some (.int x)) τ))))
def tb_X9_small : List (Nat × Instr × Nat) := [(0, (.aload_n 0, 1)), (1, (.getfield 21, 3)), (4, (.invokevirtual 178, 3)), (7, (.aload_n 0, 1)), (8, (.getfield 57, 3)), (11, (.invokevirtual 302, 3)), (14, (.ifCond .eq 24, 3)), (17, (.aload_n 0, 1)), (18, (.bipush (-7), 2)), (20, (.invokevirtual 83, 3)), (23, (.ireturn, 1)), (24, (.aload_n 0, 1)), (25, (.getfield 57, 3)), (28, (.invokevirtual 305, 3)), (31, (.ireturn, 1))]
def ce_X9_small : List (Nat × (Nat × Option Nat × WP)) := [(178, (1, some 8, wl_X8_renew)), (302, (1, some 2, wl_X2_fault)), (83, (2, some 9, wl_X9_refuse)), (305, (1, some 2, wl_X2_shrinkList))]
set_option maxRecDepth 100000 in
set_option maxHeartbeats 4000000 in
theorem ct_X9_small (l : Launch) : Con l wX yX9_small cX9_small 1 (some .int) 5 wl_X9_small := by
  refine sxm_ok l (ft := lkp ft_RX9) (c32 := lkp c32_RX9) (c64 := lkp c64_RX9) (ce := lkp ce_X9_small) (sf := lkp sf_RX9) (lab := lkp []) (T := tb_X9_small) (by decide +kernel) ft_RX9_ok c32_RX9_ok c64_RX9_ok (fun x q h => (show ∀ q ∈ ce_X9_small, ceOK l wX RX9 5 q.1 q.2.1 q.2.2.1 q.2.2.2 from List.forall_mem_cons.mpr ⟨Or.inr (Or.inr (Or.inr ⟨yX8_renew, cX8_renew, 2, none, 4, ct_X8_renew l, by decide, by decide, mi_X8_renew.1, mi_X8_renew.2, ml_RX9_178, mv_X8_renew.1, mv_X8_renew.2, ⟨_, _, rfl⟩, by decide, by decide +kernel⟩)), List.forall_mem_cons.mpr ⟨Or.inr (Or.inr (Or.inr ⟨yX2_fault, cX2_fault, 1, (some .int), 2, ct_X2_fault l, by decide, by decide, mi_X2_fault.1, mi_X2_fault.2, ml_RX9_302, mv_X2_fault.1, mv_X2_fault.2, ⟨_, _, rfl⟩, by decide, by decide +kernel⟩)), List.forall_mem_cons.mpr ⟨Or.inr (Or.inr (Or.inr ⟨yX9_refuse, cX9_refuse, 2, (some .int), 0, ct_X9_refuse l, by decide, by decide, mi_X9_refuse.1, mi_X9_refuse.2, ml_RX9_83, mv_X9_refuse.1, mv_X9_refuse.2, ⟨_, _, rfl⟩, by decide, by decide +kernel⟩)), List.forall_mem_cons.mpr ⟨Or.inr (Or.inr (Or.inr ⟨yX2_shrinkList, cX2_shrinkList, 5, (some .int), 4, ct_X2_shrinkList l, by decide, by decide, mi_X2_shrinkList.1, mi_X2_shrinkList.2, ml_RX9_305, mv_X2_shrinkList.1, mv_X2_shrinkList.2, ⟨_, _, rfl⟩, by decide, by decide +kernel⟩)), fun _ h => absurd h List.not_mem_nil⟩⟩⟩⟩) (x, q) (lkp_mem h)) sf_RX9_ok (by decide +kernel) 400 (fun As σ Q h => ?_)
  replace h := p1r_e h
  obtain ⟨z0, q0, rfl, h⟩ := h
  replace h := onB_e h
  obtain ⟨e0, h⟩ := h
  have e0 := Nat.eq_of_beq_eq_true e0
  subst e0
  replace h := onB_e h
  obtain ⟨e9, h⟩ := h
  have e9 := List.isEmpty_iff.mp e9
  subst e9
  refine ⟨Nat.le_of_ble_eq_true rfl, fun P hP => ?_⟩
  exact h 
def wp_X9_prove (x1 : Int32) (σ : Sg) (Q : Int32 → Sg → Prop) : Prop :=
  ((x1 < 0 → wp_X9_refuse (-4 : Int32) σ (fun r1 s2 => Q r1 s2)) ∧ (¬ x1 < 0 → ((x1 = 0 → wp_X9_refuse (-7 : Int32) σ (fun r3 s4 => Q r3 s4)) ∧ (¬ x1 = 0 → (((5000 : Int32) < x1 → wp_X9_refuse (-7 : Int32) σ (fun r5 s6 => Q r5 s6)) ∧ (¬ (5000 : Int32) < x1 → wp_X8_renew σ (fun s7 => wp_X4_goOn x1 s7 (fun r8 s9 => Q r8 s9))))))))
def wl_X9_prove : WP := fun As σ Q => p1r As (fun z0 r0 => onB (Nat.beq z0 0) (p1i r0 (fun x1 r1 => onB r1.isEmpty (wp_X9_prove x1 σ (fun x τ => Q (some (.int x)) τ)))))
def tb_X9_prove : List (Nat × Instr × Nat) := [(0, (.iload_n 1, 1)), (1, (.ifCond .ge 11, 3)), (4, (.aload_n 0, 1)), (5, (.bipush (-4), 2)), (7, (.invokevirtual 83, 3)), (10, (.ireturn, 1)), (11, (.iload_n 1, 1)), (12, (.ifCond .eq 22, 3)), (15, (.iload_n 1, 1)), (16, (.sipush 5000, 3)), (19, (.if_icmp .le 29, 3)), (22, (.aload_n 0, 1)), (23, (.bipush (-7), 2)), (25, (.invokevirtual 83, 3)), (28, (.ireturn, 1)), (29, (.aload_n 0, 1)), (30, (.getfield 21, 3)), (33, (.invokevirtual 178, 3)), (36, (.aload_n 0, 1)), (37, (.getfield 39, 3)), (40, (.iload_n 1, 1)), (41, (.invokevirtual 181, 3)), (44, (.ireturn, 1))]
def ce_X9_prove : List (Nat × (Nat × Option Nat × WP)) := [(83, (2, some 9, wl_X9_refuse)), (178, (1, some 8, wl_X8_renew)), (181, (2, some 4, wl_X4_goOn))]
set_option maxRecDepth 100000 in
set_option maxHeartbeats 4000000 in
theorem ct_X9_prove (l : Launch) : Con l wX yX9_prove cX9_prove 2 (some .int) 6 wl_X9_prove := by
  refine sxm_ok l (ft := lkp ft_RX9) (c32 := lkp c32_RX9) (c64 := lkp c64_RX9) (ce := lkp ce_X9_prove) (sf := lkp sf_RX9) (lab := lkp []) (T := tb_X9_prove) (by decide +kernel) ft_RX9_ok c32_RX9_ok c64_RX9_ok (fun x q h => (show ∀ q ∈ ce_X9_prove, ceOK l wX RX9 6 q.1 q.2.1 q.2.2.1 q.2.2.2 from List.forall_mem_cons.mpr ⟨Or.inr (Or.inr (Or.inr ⟨yX9_refuse, cX9_refuse, 2, (some .int), 0, ct_X9_refuse l, by decide, by decide, mi_X9_refuse.1, mi_X9_refuse.2, ml_RX9_83, mv_X9_refuse.1, mv_X9_refuse.2, ⟨_, _, rfl⟩, by decide, by decide +kernel⟩)), List.forall_mem_cons.mpr ⟨Or.inr (Or.inr (Or.inr ⟨yX8_renew, cX8_renew, 2, none, 4, ct_X8_renew l, by decide, by decide, mi_X8_renew.1, mi_X8_renew.2, ml_RX9_178, mv_X8_renew.1, mv_X8_renew.2, ⟨_, _, rfl⟩, by decide, by decide +kernel⟩)), List.forall_mem_cons.mpr ⟨Or.inr (Or.inr (Or.inr ⟨yX4_goOn, cX4_goOn, 5, (some .int), 5, ct_X4_goOn l, by decide, by decide, mi_X4_goOn.1, mi_X4_goOn.2, ml_RX9_181, mv_X4_goOn.1, mv_X4_goOn.2, ⟨_, _, rfl⟩, by decide, by decide +kernel⟩)), fun _ h => absurd h List.not_mem_nil⟩⟩⟩) (x, q) (lkp_mem h)) sf_RX9_ok (by decide +kernel) 400 (fun As σ Q h => ?_)
  replace h := p1r_e h
  obtain ⟨z0, q0, rfl, h⟩ := h
  replace h := onB_e h
  obtain ⟨e0, h⟩ := h
  have e0 := Nat.eq_of_beq_eq_true e0
  subst e0
  replace h := p1i_e h
  obtain ⟨x1, q1, rfl, h⟩ := h
  replace h := onB_e h
  obtain ⟨e9, h⟩ := h
  have e9 := List.isEmpty_iff.mp e9
  subst e9
  refine ⟨Nat.le_of_ble_eq_true rfl, fun P hP => ?_⟩
  exact h 
def wp_X9_live  (σ : Sg) (Q : Int32 → Sg → Prop) : Prop :=
  wp_X8_renew σ (fun s1 => wp_X8_leastForEver s1 (fun r2 s3 => Q r2 s3))
def wl_X9_live : WP := fun As σ Q => p1r As (fun z0 r0 => onB (Nat.beq z0 0) (onB r0.isEmpty (wp_X9_live  σ (fun x τ => Q (some (.int x)) τ))))
def tb_X9_live : List (Nat × Instr × Nat) := [(0, (.aload_n 0, 1)), (1, (.getfield 21, 3)), (4, (.invokevirtual 178, 3)), (7, (.aload_n 0, 1)), (8, (.getfield 21, 3)), (11, (.invokevirtual 274, 3)), (14, (.ireturn, 1))]
def ce_X9_live : List (Nat × (Nat × Option Nat × WP)) := [(178, (1, some 8, wl_X8_renew)), (274, (1, some 8, wl_X8_leastForEver))]
set_option maxRecDepth 100000 in
set_option maxHeartbeats 4000000 in
theorem ct_X9_live (l : Launch) : Con l wX yX9_live cX9_live 1 (some .int) 6 wl_X9_live := by
  refine sxm_ok l (ft := lkp ft_RX9) (c32 := lkp c32_RX9) (c64 := lkp c64_RX9) (ce := lkp ce_X9_live) (sf := lkp sf_RX9) (lab := lkp []) (T := tb_X9_live) (by decide +kernel) ft_RX9_ok c32_RX9_ok c64_RX9_ok (fun x q h => (show ∀ q ∈ ce_X9_live, ceOK l wX RX9 6 q.1 q.2.1 q.2.2.1 q.2.2.2 from List.forall_mem_cons.mpr ⟨Or.inr (Or.inr (Or.inr ⟨yX8_renew, cX8_renew, 2, none, 4, ct_X8_renew l, by decide, by decide, mi_X8_renew.1, mi_X8_renew.2, ml_RX9_178, mv_X8_renew.1, mv_X8_renew.2, ⟨_, _, rfl⟩, by decide, by decide +kernel⟩)), List.forall_mem_cons.mpr ⟨Or.inr (Or.inr (Or.inr ⟨yX8_leastForEver, cX8_leastForEver, 3, (some .int), 5, ct_X8_leastForEver l, by decide, by decide, mi_X8_leastForEver.1, mi_X8_leastForEver.2, ml_RX9_274, mv_X8_leastForEver.1, mv_X8_leastForEver.2, ⟨_, _, rfl⟩, by decide, by decide +kernel⟩)), fun _ h => absurd h List.not_mem_nil⟩⟩) (x, q) (lkp_mem h)) sf_RX9_ok (by decide +kernel) 400 (fun As σ Q h => ?_)
  replace h := p1r_e h
  obtain ⟨z0, q0, rfl, h⟩ := h
  replace h := onB_e h
  obtain ⟨e0, h⟩ := h
  have e0 := Nat.eq_of_beq_eq_true e0
  subst e0
  replace h := onB_e h
  obtain ⟨e9, h⟩ := h
  have e9 := List.isEmpty_iff.mp e9
  subst e9
  refine ⟨Nat.le_of_ble_eq_true rfl, fun P hP => ?_⟩
  exact h 
