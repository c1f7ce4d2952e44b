/-! THE SHAPES of the two worlds, and what the pool entries say -/
def lkD : List Nat → Nat → Nat
  | [], _ => 0
  | a :: _, 0 => a
  | _ :: r, n + 1 => lkD r n
def wMK (i : Nat) : Nat := lkD [10, 20, 20, 20, 20, 21, 20, 20, 20, 20, 20, 21, 20, 20, 20, 20, 20, 20, 20, 20, 20, 21, 21, 20, 20, 20, 20] i
def wMN (i : Nat) : Nat := lkD [0, 80, 80, 80, 80, 80, 4, 3, 9, 4096, 4096, 4096, 5000, 5000, 25, 40, 40, 200, 200, 40, 256, 80, 65536, 100, 100, 80, 80] i
def wMR (_ k : Nat) : Nat := lkD [1, 2, 3, 4, 5, 0, 0, 0, 0, 0, 0, 0, 6, 7, 8, 9, 10, 11, 0, 0, 12, 13, 14, 0, 0, 0, 0, 15, 16, 17, 18, 0, 19, 0, 20, 21, 22, 23, 24, 0, 0, 0, 0, 0, 25, 26, 0] k
def wM : Wd := (wMK, wMN, wMR, 27)
def wXK (i : Nat) : Nat := bif Nat.blt i 30 then lkD [9, 3, 20, 20, 20, 20, 20, 20, 21, 6, 20, 6, 20, 8, 23, 23, 7, 22, 7, 22, 7, 22, 7, 22, 7, 22, 7, 22, 7, 22] i else bif Nat.blt i 1054 then (bif Nat.beq (i % 2) 0 then 7 else 22) else bif Nat.blt i 1064 then lkD [1, 24, 0, 7, 22, 20, 7, 22, 7, 22] (i - 1054) else bif Nat.blt i 1164 then lkD [0, 7, 22, 20] (i % 4) else lkD [4, 20, 20, 0, 7, 22, 20, 2, 5, 20, 20] (i - 1164)
def wXN (i : Nat) : Nat := bif Nat.blt i 30 then lkD [0, 0, 80, 80, 80, 80, 8, 80, 80, 0, 4, 0, 3, 0, 256, 256, 0, 4, 0, 4, 0, 4, 0, 4, 0, 4, 0, 4, 0, 4] i else bif Nat.blt i 1054 then (bif Nat.beq (i % 2) 0 then 0 else 4) else bif Nat.blt i 1064 then lkD [0, 25, 0, 0, 4, 0, 0, 4, 0, 4] (i - 1054) else bif Nat.blt i 1164 then (bif Nat.beq i 1067 then 0 else lkD [0, 0, 4, 200] (i % 4)) else lkD [0, 25, 25, 0, 0, 4, 100, 0, 0, 80, 9] (i - 1164)
def wXS : Nat → Nat → Nat := fun i k =>
  bif Nat.beq i 0 then lkD [1, 13, 1054, 1164, 1167, 1171, 1172, 1174] k else
  bif Nat.beq i 1 then lkD [2, 3, 4, 5, 6, 7, 8, 9, 11] k else
  bif Nat.beq i 13 then lkD [1, 14, 15, 16, 18, 20, 22, 24, 26, 28] k else
  bif Nat.beq i 1054 then lkD [1, 13, 1055, 1056, 1060, 1062] k else
  bif Nat.beq i 1164 then lkD [1, 13, 1054, 1165, 1166] k else
  bif Nat.beq i 1171 then lkD [1, 13, 1167] k else
  bif Nat.beq i 1172 then lkD [1173] k else
  bif Nat.beq i 14 then 30 + 4 * k else bif Nat.beq i 15 then 32 + 4 * k else bif Nat.beq i 1055 then 1064 + 4 * k else 0
def wXR (i k : Nat) : Nat := bif Nat.beq (wXK i) 7 then i + 1 else bif Nat.beq (wXK i) 0 then (bif Nat.beq k 0 then i + 3 else i + 1) else bif Nat.beq (wXK i) 6 then i + 1 else wXS i k
def wX : Wd := (wXK, wXN, wXR, 1175)
theorem fcl0 {own : String} {idx k : Nat} (hk : k < 4) (hl : Cond.fieldLink own idx RX0 (TX0 k).2.1 (TX0 k).2.2.1 ∈ big) (hC : (TX0 k).1 = RX0) (hf : (TX0 k).2.2.2 = ffin 0 k) : ftOK own idx 0 k := ⟨RX0, TX0, 4, rfl, by decide, hk, hl, hC, tyX0_ok, nmX0, lay0, hf⟩
theorem fcl1 {own : String} {idx k : Nat} (hk : k < 6) (hl : Cond.fieldLink own idx RX1 (TX1 k).2.1 (TX1 k).2.2.1 ∈ big) (hC : (TX1 k).1 = RX1) (hf : (TX1 k).2.2.2 = ffin 1 k) : ftOK own idx 1 k := ⟨RX1, TX1, 6, rfl, by decide, hk, hl, hC, tyX1_ok, nmX1, lay1, hf⟩
theorem fcl2 {own : String} {idx k : Nat} (hk : k < 5) (hl : Cond.fieldLink own idx RX2 (TX2 k).2.1 (TX2 k).2.2.1 ∈ big) (hC : (TX2 k).1 = RX2) (hf : (TX2 k).2.2.2 = ffin 2 k) : ftOK own idx 2 k := ⟨RX2, TX2, 5, rfl, by decide, hk, hl, hC, tyX2_ok, nmX2, lay2, hf⟩
theorem fcl3 {own : String} {idx k : Nat} (hk : k < 14) (hl : Cond.fieldLink own idx RX3 (TX3 k).2.1 (TX3 k).2.2.1 ∈ big) (hC : (TX3 k).1 = RX3) (hf : (TX3 k).2.2.2 = ffin 3 k) : ftOK own idx 3 k := ⟨RX3, TX3, 14, rfl, by decide, hk, hl, hC, tyX3_ok, nmX3, lay3, hf⟩
theorem fcl4 {own : String} {idx k : Nat} (hk : k < 10) (hl : Cond.fieldLink own idx RX4 (TX4 k).2.1 (TX4 k).2.2.1 ∈ big) (hC : (TX4 k).1 = RX4) (hf : (TX4 k).2.2.2 = ffin 4 k) : ftOK own idx 4 k := ⟨RX4, TX4, 10, rfl, by decide, hk, hl, hC, tyX4_ok, nmX4, lay4, hf⟩
theorem fcl5 {own : String} {idx k : Nat} (hk : k < 3) (hl : Cond.fieldLink own idx RX5 (TX5 k).2.1 (TX5 k).2.2.1 ∈ big) (hC : (TX5 k).1 = RX5) (hf : (TX5 k).2.2.2 = ffin 5 k) : ftOK own idx 5 k := ⟨RX5, TX5, 3, rfl, by decide, hk, hl, hC, tyX5_ok, nmX5, lay5, hf⟩
theorem fcl6 {own : String} {idx k : Nat} (hk : k < 2) (hl : Cond.fieldLink own idx RX6 (TX6 k).2.1 (TX6 k).2.2.1 ∈ big) (hC : (TX6 k).1 = RX6) (hf : (TX6 k).2.2.2 = ffin 6 k) : ftOK own idx 6 k := ⟨RX6, TX6, 2, rfl, by decide, hk, hl, hC, tyX6_ok, nmX6, lay6, hf⟩
theorem fcl7 {own : String} {idx k : Nat} (hk : k < 1) (hl : Cond.fieldLink own idx RX7 (TX7 k).2.1 (TX7 k).2.2.1 ∈ big) (hC : (TX7 k).1 = RX7) (hf : (TX7 k).2.2.2 = ffin 7 k) : ftOK own idx 7 k := ⟨RX7, TX7, 1, rfl, by decide, hk, hl, hC, tyX7_ok, nmX7, lay7, hf⟩
theorem fcl8 {own : String} {idx k : Nat} (hk : k < 11) (hl : Cond.fieldLink own idx RX8 (TX8 k).2.1 (TX8 k).2.2.1 ∈ big) (hC : (TX8 k).1 = RX8) (hf : (TX8 k).2.2.2 = ffin 8 k) : ftOK own idx 8 k := ⟨RX8, TX8, 11, rfl, by decide, hk, hl, hC, tyX8_ok, nmX8, lay8, hf⟩
theorem fcl9 {own : String} {idx k : Nat} (hk : k < 9) (hl : Cond.fieldLink own idx RX9 (TX9 k).2.1 (TX9 k).2.2.1 ∈ big) (hC : (TX9 k).1 = RX9) (hf : (TX9 k).2.2.2 = ffin 9 k) : ftOK own idx 9 k := ⟨RX9, TX9, 9, rfl, by decide, hk, hl, hC, tyX9_ok, nmX9, lay9, hf⟩
theorem fcl10 {own : String} {idx k : Nat} (hk : k < 47) (hl : Cond.fieldLink own idx RX10 (TX10 k).2.1 (TX10 k).2.2.1 ∈ big) (hC : (TX10 k).1 = RX10) (hf : (TX10 k).2.2.2 = ffin 10 k) : ftOK own idx 10 k := ⟨RX10, TX10, 47, rfl, by decide, hk, hl, hC, tyX10_ok, nmX10, lay10, hf⟩
theorem fto_RX0_10 : ftOK RX0 10 0 1 := fcl0 (by decide) (big_in 237 (by decide +kernel) (by decide +kernel)) rfl rfl
theorem fto_RX0_22 : ftOK RX0 22 0 0 := fcl0 (by decide) (big_in 236 (by decide +kernel) (by decide +kernel)) rfl rfl
theorem fto_RX0_26 : ftOK RX0 26 0 2 := fcl0 (by decide) (big_in 242 (by decide +kernel) (by decide +kernel)) rfl rfl
theorem fto_RX0_30 : ftOK RX0 30 0 3 := fcl0 (by decide) (big_in 246 (by decide +kernel) (by decide +kernel)) rfl rfl
def ft_RX0 : List (Nat × (Nat × Nat)) := [(10, (0, 1)), (22, (0, 0)), (26, (0, 2)), (30, (0, 3))]
theorem ft_RX0_ok : ∀ x f, lkp ft_RX0 x = some f → ftOK RX0 x f.1 f.2 := fun x f h => (show ∀ q ∈ ft_RX0, ftOK RX0 q.1 q.2.1 q.2.2 from List.forall_mem_cons.mpr ⟨fto_RX0_10, List.forall_mem_cons.mpr ⟨fto_RX0_22, List.forall_mem_cons.mpr ⟨fto_RX0_26, List.forall_mem_cons.mpr ⟨fto_RX0_30, fun _ h => absurd h List.not_mem_nil⟩⟩⟩⟩) (x, f) (lkp_mem h)
def c32_RX0 : List (Nat × Int32) := []
theorem c32_RX0_ok : ∀ x v, lkp c32_RX0 x = some v → Cond.constant RX0 x v ∈ big := fun x f h => (show ∀ q ∈ c32_RX0, Cond.constant RX0 q.1 q.2 ∈ big from fun _ h => absurd h List.not_mem_nil) (x, f) (lkp_mem h)
def c64_RX0 : List (Nat × Int64) := []
theorem c64_RX0_ok : ∀ x v, lkp c64_RX0 x = some v → Cond.constantLong RX0 x v ∈ big := fun x f h => (show ∀ q ∈ c64_RX0, Cond.constantLong RX0 q.1 q.2 ∈ big from fun _ h => absurd h List.not_mem_nil) (x, f) (lkp_mem h)
def sf_RX0 : List (Nat × Bool) := []
theorem sf_RX0_ok : ∀ x b, lkp sf_RX0 x = some b → (bif b then Cond.fieldLink RX0 x "FrameProver$StateSet" "ONES" "[J" else Cond.fieldLink RX0 x "FrameProver$Machine" "INPUT_LANES" "[I") ∈ big := fun x f h => (show ∀ q ∈ sf_RX0, (bif q.2 then Cond.fieldLink RX0 q.1 "FrameProver$StateSet" "ONES" "[J" else Cond.fieldLink RX0 q.1 "FrameProver$Machine" "INPUT_LANES" "[I") ∈ big from fun _ h => absurd h List.not_mem_nil) (x, f) (lkp_mem h)
theorem fto_RX1_11 : ftOK RX1 11 1 2 := fcl1 (by decide) (big_in 260 (by decide +kernel) (by decide +kernel)) rfl rfl
theorem fto_RX1_20 : ftOK RX1 20 1 3 := fcl1 (by decide) (big_in 261 (by decide +kernel) (by decide +kernel)) rfl rfl
theorem fto_RX1_27 : ftOK RX1 27 1 4 := fcl1 (by decide) (big_in 262 (by decide +kernel) (by decide +kernel)) rfl rfl
theorem fto_RX1_31 : ftOK RX1 31 1 5 := fcl1 (by decide) (big_in 263 (by decide +kernel) (by decide +kernel)) rfl rfl
theorem fto_RX1_34 : ftOK RX1 34 1 0 := fcl1 (by decide) (big_in 258 (by decide +kernel) (by decide +kernel)) rfl rfl
theorem fto_RX1_38 : ftOK RX1 38 1 1 := fcl1 (by decide) (big_in 259 (by decide +kernel) (by decide +kernel)) rfl rfl
theorem fto_RX1_55 : ftOK RX1 55 0 1 := fcl0 (by decide) (big_in 239 (by decide +kernel) (by decide +kernel)) rfl rfl
theorem fto_RX1_58 : ftOK RX1 58 3 13 := fcl3 (by decide) (big_in 131 (by decide +kernel) (by decide +kernel)) rfl rfl
theorem fto_RX1_90 : ftOK RX1 90 3 11 := fcl3 (by decide) (big_in 127 (by decide +kernel) (by decide +kernel)) rfl rfl
theorem fto_RX1_117 : ftOK RX1 117 0 2 := fcl0 (by decide) (big_in 244 (by decide +kernel) (by decide +kernel)) rfl rfl
def ft_RX1 : List (Nat × (Nat × Nat)) := [(11, (1, 2)), (20, (1, 3)), (27, (1, 4)), (31, (1, 5)), (34, (1, 0)), (38, (1, 1)), (55, (0, 1)), (58, (3, 13)), (90, (3, 11)), (117, (0, 2))]
theorem ft_RX1_ok : ∀ x f, lkp ft_RX1 x = some f → ftOK RX1 x f.1 f.2 := fun x f h => (show ∀ q ∈ ft_RX1, ftOK RX1 q.1 q.2.1 q.2.2 from List.forall_mem_cons.mpr ⟨fto_RX1_11, List.forall_mem_cons.mpr ⟨fto_RX1_20, List.forall_mem_cons.mpr ⟨fto_RX1_27, List.forall_mem_cons.mpr ⟨fto_RX1_31, List.forall_mem_cons.mpr ⟨fto_RX1_34, List.forall_mem_cons.mpr ⟨fto_RX1_38, List.forall_mem_cons.mpr ⟨fto_RX1_55, List.forall_mem_cons.mpr ⟨fto_RX1_58, List.forall_mem_cons.mpr ⟨fto_RX1_90, List.forall_mem_cons.mpr ⟨fto_RX1_117, fun _ h => absurd h List.not_mem_nil⟩⟩⟩⟩⟩⟩⟩⟩⟩⟩) (x, f) (lkp_mem h)
def c32_RX1 : List (Nat × Int32) := []
theorem c32_RX1_ok : ∀ x v, lkp c32_RX1 x = some v → Cond.constant RX1 x v ∈ big := fun x f h => (show ∀ q ∈ c32_RX1, Cond.constant RX1 q.1 q.2 ∈ big from fun _ h => absurd h List.not_mem_nil) (x, f) (lkp_mem h)
def c64_RX1 : List (Nat × Int64) := []
theorem c64_RX1_ok : ∀ x v, lkp c64_RX1 x = some v → Cond.constantLong RX1 x v ∈ big := fun x f h => (show ∀ q ∈ c64_RX1, Cond.constantLong RX1 q.1 q.2 ∈ big from fun _ h => absurd h List.not_mem_nil) (x, f) (lkp_mem h)
def sf_RX1 : List (Nat × Bool) := []
theorem sf_RX1_ok : ∀ x b, lkp sf_RX1 x = some b → (bif b then Cond.fieldLink RX1 x "FrameProver$StateSet" "ONES" "[J" else Cond.fieldLink RX1 x "FrameProver$Machine" "INPUT_LANES" "[I") ∈ big := fun x f h => (show ∀ q ∈ sf_RX1, (bif q.2 then Cond.fieldLink RX1 q.1 "FrameProver$StateSet" "ONES" "[J" else Cond.fieldLink RX1 q.1 "FrameProver$Machine" "INPUT_LANES" "[I") ∈ big from fun _ h => absurd h List.not_mem_nil) (x, f) (lkp_mem h)
theorem fto_RX2_9 : ftOK RX2 9 2 3 := fcl2 (by decide) (big_in 328 (by decide +kernel) (by decide +kernel)) rfl rfl
theorem fto_RX2_15 : ftOK RX2 15 2 4 := fcl2 (by decide) (big_in 330 (by decide +kernel) (by decide +kernel)) rfl rfl
theorem fto_RX2_18 : ftOK RX2 18 2 0 := fcl2 (by decide) (big_in 325 (by decide +kernel) (by decide +kernel)) rfl rfl
theorem fto_RX2_22 : ftOK RX2 22 2 1 := fcl2 (by decide) (big_in 326 (by decide +kernel) (by decide +kernel)) rfl rfl
theorem fto_RX2_26 : ftOK RX2 26 2 2 := fcl2 (by decide) (big_in 327 (by decide +kernel) (by decide +kernel)) rfl rfl
theorem fto_RX2_30 : ftOK RX2 30 0 1 := fcl0 (by decide) (big_in 238 (by decide +kernel) (by decide +kernel)) rfl rfl
theorem fto_RX2_36 : ftOK RX2 36 3 13 := fcl3 (by decide) (big_in 130 (by decide +kernel) (by decide +kernel)) rfl rfl
theorem fto_RX2_47 : ftOK RX2 47 8 4 := fcl8 (by decide) (big_in 188 (by decide +kernel) (by decide +kernel)) rfl rfl
theorem fto_RX2_80 : ftOK RX2 80 0 2 := fcl0 (by decide) (big_in 243 (by decide +kernel) (by decide +kernel)) rfl rfl
def ft_RX2 : List (Nat × (Nat × Nat)) := [(9, (2, 3)), (15, (2, 4)), (18, (2, 0)), (22, (2, 1)), (26, (2, 2)), (30, (0, 1)), (36, (3, 13)), (47, (8, 4)), (80, (0, 2))]
theorem ft_RX2_ok : ∀ x f, lkp ft_RX2 x = some f → ftOK RX2 x f.1 f.2 := fun x f h => (show ∀ q ∈ ft_RX2, ftOK RX2 q.1 q.2.1 q.2.2 from List.forall_mem_cons.mpr ⟨fto_RX2_9, List.forall_mem_cons.mpr ⟨fto_RX2_15, List.forall_mem_cons.mpr ⟨fto_RX2_18, List.forall_mem_cons.mpr ⟨fto_RX2_22, List.forall_mem_cons.mpr ⟨fto_RX2_26, List.forall_mem_cons.mpr ⟨fto_RX2_30, List.forall_mem_cons.mpr ⟨fto_RX2_36, List.forall_mem_cons.mpr ⟨fto_RX2_47, List.forall_mem_cons.mpr ⟨fto_RX2_80, fun _ h => absurd h List.not_mem_nil⟩⟩⟩⟩⟩⟩⟩⟩⟩) (x, f) (lkp_mem h)
def c32_RX2 : List (Nat × Int32) := []
theorem c32_RX2_ok : ∀ x v, lkp c32_RX2 x = some v → Cond.constant RX2 x v ∈ big := fun x f h => (show ∀ q ∈ c32_RX2, Cond.constant RX2 q.1 q.2 ∈ big from fun _ h => absurd h List.not_mem_nil) (x, f) (lkp_mem h)
def c64_RX2 : List (Nat × Int64) := []
theorem c64_RX2_ok : ∀ x v, lkp c64_RX2 x = some v → Cond.constantLong RX2 x v ∈ big := fun x f h => (show ∀ q ∈ c64_RX2, Cond.constantLong RX2 q.1 q.2 ∈ big from fun _ h => absurd h List.not_mem_nil) (x, f) (lkp_mem h)
def sf_RX2 : List (Nat × Bool) := []
theorem sf_RX2_ok : ∀ x b, lkp sf_RX2 x = some b → (bif b then Cond.fieldLink RX2 x "FrameProver$StateSet" "ONES" "[J" else Cond.fieldLink RX2 x "FrameProver$Machine" "INPUT_LANES" "[I") ∈ big := fun x f h => (show ∀ q ∈ sf_RX2, (bif q.2 then Cond.fieldLink RX2 q.1 "FrameProver$StateSet" "ONES" "[J" else Cond.fieldLink RX2 q.1 "FrameProver$Machine" "INPUT_LANES" "[I") ∈ big from fun _ h => absurd h List.not_mem_nil) (x, f) (lkp_mem h)
theorem fto_RX3_9 : ftOK RX3 9 3 0 := fcl3 (by decide) (big_in 108 (by decide +kernel) (by decide +kernel)) rfl rfl
theorem fto_RX3_15 : ftOK RX3 15 3 1 := fcl3 (by decide) (big_in 109 (by decide +kernel) (by decide +kernel)) rfl rfl
theorem fto_RX3_18 : ftOK RX3 18 3 2 := fcl3 (by decide) (big_in 110 (by decide +kernel) (by decide +kernel)) rfl rfl
theorem fto_RX3_21 : ftOK RX3 21 3 3 := fcl3 (by decide) (big_in 111 (by decide +kernel) (by decide +kernel)) rfl rfl
theorem fto_RX3_24 : ftOK RX3 24 3 4 := fcl3 (by decide) (big_in 112 (by decide +kernel) (by decide +kernel)) rfl rfl
theorem fto_RX3_27 : ftOK RX3 27 3 5 := fcl3 (by decide) (big_in 113 (by decide +kernel) (by decide +kernel)) rfl rfl
theorem fto_RX3_30 : ftOK RX3 30 3 6 := fcl3 (by decide) (big_in 114 (by decide +kernel) (by decide +kernel)) rfl rfl
theorem fto_RX3_39 : ftOK RX3 39 3 7 := fcl3 (by decide) (big_in 115 (by decide +kernel) (by decide +kernel)) rfl rfl
theorem fto_RX3_43 : ftOK RX3 43 3 8 := fcl3 (by decide) (big_in 117 (by decide +kernel) (by decide +kernel)) rfl rfl
theorem fto_RX3_46 : ftOK RX3 46 3 9 := fcl3 (by decide) (big_in 120 (by decide +kernel) (by decide +kernel)) rfl rfl
theorem fto_RX3_50 : ftOK RX3 50 3 10 := fcl3 (by decide) (big_in 122 (by decide +kernel) (by decide +kernel)) rfl rfl
theorem fto_RX3_61 : ftOK RX3 61 3 11 := fcl3 (by decide) (big_in 126 (by decide +kernel) (by decide +kernel)) rfl rfl
theorem fto_RX3_64 : ftOK RX3 64 3 13 := fcl3 (by decide) (big_in 133 (by decide +kernel) (by decide +kernel)) rfl rfl
theorem fto_RX3_67 : ftOK RX3 67 3 12 := fcl3 (by decide) (big_in 129 (by decide +kernel) (by decide +kernel)) rfl rfl
theorem fto_RX3_89 : ftOK RX3 89 6 1 := fcl6 (by decide) (big_in 100 (by decide +kernel) (by decide +kernel)) rfl rfl
def ft_RX3 : List (Nat × (Nat × Nat)) := [(9, (3, 0)), (15, (3, 1)), (18, (3, 2)), (21, (3, 3)), (24, (3, 4)), (27, (3, 5)), (30, (3, 6)), (39, (3, 7)), (43, (3, 8)), (46, (3, 9)), (50, (3, 10)), (61, (3, 11)), (64, (3, 13)), (67, (3, 12)), (89, (6, 1))]
theorem ft_RX3_ok : ∀ x f, lkp ft_RX3 x = some f → ftOK RX3 x f.1 f.2 := fun x f h => (show ∀ q ∈ ft_RX3, ftOK RX3 q.1 q.2.1 q.2.2 from List.forall_mem_cons.mpr ⟨fto_RX3_9, List.forall_mem_cons.mpr ⟨fto_RX3_15, List.forall_mem_cons.mpr ⟨fto_RX3_18, List.forall_mem_cons.mpr ⟨fto_RX3_21, List.forall_mem_cons.mpr ⟨fto_RX3_24, List.forall_mem_cons.mpr ⟨fto_RX3_27, List.forall_mem_cons.mpr ⟨fto_RX3_30, List.forall_mem_cons.mpr ⟨fto_RX3_39, List.forall_mem_cons.mpr ⟨fto_RX3_43, List.forall_mem_cons.mpr ⟨fto_RX3_46, List.forall_mem_cons.mpr ⟨fto_RX3_50, List.forall_mem_cons.mpr ⟨fto_RX3_61, List.forall_mem_cons.mpr ⟨fto_RX3_64, List.forall_mem_cons.mpr ⟨fto_RX3_67, List.forall_mem_cons.mpr ⟨fto_RX3_89, fun _ h => absurd h List.not_mem_nil⟩⟩⟩⟩⟩⟩⟩⟩⟩⟩⟩⟩⟩⟩⟩) (x, f) (lkp_mem h)
def c32_RX3 : List (Nat × Int32) := [(88, 65535)]
theorem c32_RX3_ok : ∀ x v, lkp c32_RX3 x = some v → Cond.constant RX3 x v ∈ big := fun x f h => (show ∀ q ∈ c32_RX3, Cond.constant RX3 q.1 q.2 ∈ big from List.forall_mem_cons.mpr ⟨big_in 547 (by decide +kernel) (by decide +kernel), fun _ h => absurd h List.not_mem_nil⟩) (x, f) (lkp_mem h)
def c64_RX3 : List (Nat × Int64) := []
theorem c64_RX3_ok : ∀ x v, lkp c64_RX3 x = some v → Cond.constantLong RX3 x v ∈ big := fun x f h => (show ∀ q ∈ c64_RX3, Cond.constantLong RX3 q.1 q.2 ∈ big from fun _ h => absurd h List.not_mem_nil) (x, f) (lkp_mem h)
def sf_RX3 : List (Nat × Bool) := [(85, false)]
theorem sf_RX3_ok : ∀ x b, lkp sf_RX3 x = some b → (bif b then Cond.fieldLink RX3 x "FrameProver$StateSet" "ONES" "[J" else Cond.fieldLink RX3 x "FrameProver$Machine" "INPUT_LANES" "[I") ∈ big := fun x f h => (show ∀ q ∈ sf_RX3, (bif q.2 then Cond.fieldLink RX3 q.1 "FrameProver$StateSet" "ONES" "[J" else Cond.fieldLink RX3 q.1 "FrameProver$Machine" "INPUT_LANES" "[I") ∈ big from List.forall_mem_cons.mpr ⟨big_in 548 (by decide +kernel) (by decide +kernel), fun _ h => absurd h List.not_mem_nil⟩) (x, f) (lkp_mem h)
theorem fto_RX4_9 : ftOK RX4 9 4 3 := fcl4 (by decide) (big_in 286 (by decide +kernel) (by decide +kernel)) rfl rfl
theorem fto_RX4_15 : ftOK RX4 15 4 4 := fcl4 (by decide) (big_in 287 (by decide +kernel) (by decide +kernel)) rfl rfl
theorem fto_RX4_18 : ftOK RX4 18 4 0 := fcl4 (by decide) (big_in 283 (by decide +kernel) (by decide +kernel)) rfl rfl
theorem fto_RX4_22 : ftOK RX4 22 4 1 := fcl4 (by decide) (big_in 284 (by decide +kernel) (by decide +kernel)) rfl rfl
theorem fto_RX4_26 : ftOK RX4 26 4 2 := fcl4 (by decide) (big_in 285 (by decide +kernel) (by decide +kernel)) rfl rfl
theorem fto_RX4_30 : ftOK RX4 30 4 5 := fcl4 (by decide) (big_in 288 (by decide +kernel) (by decide +kernel)) rfl rfl
theorem fto_RX4_34 : ftOK RX4 34 4 6 := fcl4 (by decide) (big_in 289 (by decide +kernel) (by decide +kernel)) rfl rfl
theorem fto_RX4_37 : ftOK RX4 37 4 7 := fcl4 (by decide) (big_in 290 (by decide +kernel) (by decide +kernel)) rfl rfl
theorem fto_RX4_40 : ftOK RX4 40 4 8 := fcl4 (by decide) (big_in 292 (by decide +kernel) (by decide +kernel)) rfl rfl
theorem fto_RX4_43 : ftOK RX4 43 4 9 := fcl4 (by decide) (big_in 294 (by decide +kernel) (by decide +kernel)) rfl rfl
theorem fto_RX4_56 : ftOK RX4 56 0 1 := fcl0 (by decide) (big_in 240 (by decide +kernel) (by decide +kernel)) rfl rfl
theorem fto_RX4_62 : ftOK RX4 62 8 4 := fcl8 (by decide) (big_in 189 (by decide +kernel) (by decide +kernel)) rfl rfl
theorem fto_RX4_83 : ftOK RX4 83 3 13 := fcl3 (by decide) (big_in 132 (by decide +kernel) (by decide +kernel)) rfl rfl
def ft_RX4 : List (Nat × (Nat × Nat)) := [(9, (4, 3)), (15, (4, 4)), (18, (4, 0)), (22, (4, 1)), (26, (4, 2)), (30, (4, 5)), (34, (4, 6)), (37, (4, 7)), (40, (4, 8)), (43, (4, 9)), (56, (0, 1)), (62, (8, 4)), (83, (3, 13))]
theorem ft_RX4_ok : ∀ x f, lkp ft_RX4 x = some f → ftOK RX4 x f.1 f.2 := fun x f h => (show ∀ q ∈ ft_RX4, ftOK RX4 q.1 q.2.1 q.2.2 from List.forall_mem_cons.mpr ⟨fto_RX4_9, List.forall_mem_cons.mpr ⟨fto_RX4_15, List.forall_mem_cons.mpr ⟨fto_RX4_18, List.forall_mem_cons.mpr ⟨fto_RX4_22, List.forall_mem_cons.mpr ⟨fto_RX4_26, List.forall_mem_cons.mpr ⟨fto_RX4_30, List.forall_mem_cons.mpr ⟨fto_RX4_34, List.forall_mem_cons.mpr ⟨fto_RX4_37, List.forall_mem_cons.mpr ⟨fto_RX4_40, List.forall_mem_cons.mpr ⟨fto_RX4_43, List.forall_mem_cons.mpr ⟨fto_RX4_56, List.forall_mem_cons.mpr ⟨fto_RX4_62, List.forall_mem_cons.mpr ⟨fto_RX4_83, fun _ h => absurd h List.not_mem_nil⟩⟩⟩⟩⟩⟩⟩⟩⟩⟩⟩⟩⟩) (x, f) (lkp_mem h)
def c32_RX4 : List (Nat × Int32) := [(49, 1000000)]
theorem c32_RX4_ok : ∀ x v, lkp c32_RX4 x = some v → Cond.constant RX4 x v ∈ big := fun x f h => (show ∀ q ∈ c32_RX4, Cond.constant RX4 q.1 q.2 ∈ big from List.forall_mem_cons.mpr ⟨big_in 625 (by decide +kernel) (by decide +kernel), fun _ h => absurd h List.not_mem_nil⟩) (x, f) (lkp_mem h)
def c64_RX4 : List (Nat × Int64) := []
theorem c64_RX4_ok : ∀ x v, lkp c64_RX4 x = some v → Cond.constantLong RX4 x v ∈ big := fun x f h => (show ∀ q ∈ c64_RX4, Cond.constantLong RX4 q.1 q.2 ∈ big from fun _ h => absurd h List.not_mem_nil) (x, f) (lkp_mem h)
def sf_RX4 : List (Nat × Bool) := []
theorem sf_RX4_ok : ∀ x b, lkp sf_RX4 x = some b → (bif b then Cond.fieldLink RX4 x "FrameProver$StateSet" "ONES" "[J" else Cond.fieldLink RX4 x "FrameProver$Machine" "INPUT_LANES" "[I") ∈ big := fun x f h => (show ∀ q ∈ sf_RX4, (bif q.2 then Cond.fieldLink RX4 q.1 "FrameProver$StateSet" "ONES" "[J" else Cond.fieldLink RX4 q.1 "FrameProver$Machine" "INPUT_LANES" "[I") ∈ big from fun _ h => absurd h List.not_mem_nil) (x, f) (lkp_mem h)
theorem fto_RX5_9 : ftOK RX5 9 5 0 := fcl5 (by decide) (big_in 349 (by decide +kernel) (by decide +kernel)) rfl rfl
theorem fto_RX5_15 : ftOK RX5 15 3 10 := fcl3 (by decide) (big_in 123 (by decide +kernel) (by decide +kernel)) rfl rfl
theorem fto_RX5_27 : ftOK RX5 27 5 1 := fcl5 (by decide) (big_in 350 (by decide +kernel) (by decide +kernel)) rfl rfl
theorem fto_RX5_34 : ftOK RX5 34 5 2 := fcl5 (by decide) (big_in 352 (by decide +kernel) (by decide +kernel)) rfl rfl
def ft_RX5 : List (Nat × (Nat × Nat)) := [(9, (5, 0)), (15, (3, 10)), (27, (5, 1)), (34, (5, 2))]
theorem ft_RX5_ok : ∀ x f, lkp ft_RX5 x = some f → ftOK RX5 x f.1 f.2 := fun x f h => (show ∀ q ∈ ft_RX5, ftOK RX5 q.1 q.2.1 q.2.2 from List.forall_mem_cons.mpr ⟨fto_RX5_9, List.forall_mem_cons.mpr ⟨fto_RX5_15, List.forall_mem_cons.mpr ⟨fto_RX5_27, List.forall_mem_cons.mpr ⟨fto_RX5_34, fun _ h => absurd h List.not_mem_nil⟩⟩⟩⟩) (x, f) (lkp_mem h)
def c32_RX5 : List (Nat × Int32) := []
theorem c32_RX5_ok : ∀ x v, lkp c32_RX5 x = some v → Cond.constant RX5 x v ∈ big := fun x f h => (show ∀ q ∈ c32_RX5, Cond.constant RX5 q.1 q.2 ∈ big from fun _ h => absurd h List.not_mem_nil) (x, f) (lkp_mem h)
def c64_RX5 : List (Nat × Int64) := []
theorem c64_RX5_ok : ∀ x v, lkp c64_RX5 x = some v → Cond.constantLong RX5 x v ∈ big := fun x f h => (show ∀ q ∈ c64_RX5, Cond.constantLong RX5 q.1 q.2 ∈ big from fun _ h => absurd h List.not_mem_nil) (x, f) (lkp_mem h)
def sf_RX5 : List (Nat × Bool) := []
theorem sf_RX5_ok : ∀ x b, lkp sf_RX5 x = some b → (bif b then Cond.fieldLink RX5 x "FrameProver$StateSet" "ONES" "[J" else Cond.fieldLink RX5 x "FrameProver$Machine" "INPUT_LANES" "[I") ∈ big := fun x f h => (show ∀ q ∈ sf_RX5, (bif q.2 then Cond.fieldLink RX5 q.1 "FrameProver$StateSet" "ONES" "[J" else Cond.fieldLink RX5 q.1 "FrameProver$Machine" "INPUT_LANES" "[I") ∈ big from fun _ h => absurd h List.not_mem_nil) (x, f) (lkp_mem h)
theorem fto_RX6_15 : ftOK RX6 15 6 0 := fcl6 (by decide) (big_in 96 (by decide +kernel) (by decide +kernel)) rfl rfl
theorem fto_RX6_21 : ftOK RX6 21 6 1 := fcl6 (by decide) (big_in 97 (by decide +kernel) (by decide +kernel)) rfl rfl
def ft_RX6 : List (Nat × (Nat × Nat)) := [(15, (6, 0)), (21, (6, 1))]
theorem ft_RX6_ok : ∀ x f, lkp ft_RX6 x = some f → ftOK RX6 x f.1 f.2 := fun x f h => (show ∀ q ∈ ft_RX6, ftOK RX6 q.1 q.2.1 q.2.2 from List.forall_mem_cons.mpr ⟨fto_RX6_15, List.forall_mem_cons.mpr ⟨fto_RX6_21, fun _ h => absurd h List.not_mem_nil⟩⟩) (x, f) (lkp_mem h)
def c32_RX6 : List (Nat × Int32) := []
theorem c32_RX6_ok : ∀ x v, lkp c32_RX6 x = some v → Cond.constant RX6 x v ∈ big := fun x f h => (show ∀ q ∈ c32_RX6, Cond.constant RX6 q.1 q.2 ∈ big from fun _ h => absurd h List.not_mem_nil) (x, f) (lkp_mem h)
def c64_RX6 : List (Nat × Int64) := []
theorem c64_RX6_ok : ∀ x v, lkp c64_RX6 x = some v → Cond.constantLong RX6 x v ∈ big := fun x f h => (show ∀ q ∈ c64_RX6, Cond.constantLong RX6 q.1 q.2 ∈ big from fun _ h => absurd h List.not_mem_nil) (x, f) (lkp_mem h)
def sf_RX6 : List (Nat × Bool) := []
theorem sf_RX6_ok : ∀ x b, lkp sf_RX6 x = some b → (bif b then Cond.fieldLink RX6 x "FrameProver$StateSet" "ONES" "[J" else Cond.fieldLink RX6 x "FrameProver$Machine" "INPUT_LANES" "[I") ∈ big := fun x f h => (show ∀ q ∈ sf_RX6, (bif q.2 then Cond.fieldLink RX6 q.1 "FrameProver$StateSet" "ONES" "[J" else Cond.fieldLink RX6 q.1 "FrameProver$Machine" "INPUT_LANES" "[I") ∈ big from fun _ h => absurd h List.not_mem_nil) (x, f) (lkp_mem h)
theorem fto_RX7_11 : ftOK RX7 11 7 0 := fcl7 (by decide) (big_in 178 (by decide +kernel) (by decide +kernel)) rfl rfl
def ft_RX7 : List (Nat × (Nat × Nat)) := [(11, (7, 0))]
theorem ft_RX7_ok : ∀ x f, lkp ft_RX7 x = some f → ftOK RX7 x f.1 f.2 := fun x f h => (show ∀ q ∈ ft_RX7, ftOK RX7 q.1 q.2.1 q.2.2 from List.forall_mem_cons.mpr ⟨fto_RX7_11, fun _ h => absurd h List.not_mem_nil⟩) (x, f) (lkp_mem h)
def c32_RX7 : List (Nat × Int32) := []
theorem c32_RX7_ok : ∀ x v, lkp c32_RX7 x = some v → Cond.constant RX7 x v ∈ big := fun x f h => (show ∀ q ∈ c32_RX7, Cond.constant RX7 q.1 q.2 ∈ big from fun _ h => absurd h List.not_mem_nil) (x, f) (lkp_mem h)
def c64_RX7 : List (Nat × Int64) := [(22, -1)]
theorem c64_RX7_ok : ∀ x v, lkp c64_RX7 x = some v → Cond.constantLong RX7 x v ∈ big := fun x f h => (show ∀ q ∈ c64_RX7, Cond.constantLong RX7 q.1 q.2 ∈ big from List.forall_mem_cons.mpr ⟨big_in 381 (by decide +kernel) (by decide +kernel), fun _ h => absurd h List.not_mem_nil⟩) (x, f) (lkp_mem h)
def sf_RX7 : List (Nat × Bool) := [(35, true)]
theorem sf_RX7_ok : ∀ x b, lkp sf_RX7 x = some b → (bif b then Cond.fieldLink RX7 x "FrameProver$StateSet" "ONES" "[J" else Cond.fieldLink RX7 x "FrameProver$Machine" "INPUT_LANES" "[I") ∈ big := fun x f h => (show ∀ q ∈ sf_RX7, (bif q.2 then Cond.fieldLink RX7 q.1 "FrameProver$StateSet" "ONES" "[J" else Cond.fieldLink RX7 q.1 "FrameProver$Machine" "INPUT_LANES" "[I") ∈ big from List.forall_mem_cons.mpr ⟨big_in 679 (by decide +kernel) (by decide +kernel), fun _ h => absurd h List.not_mem_nil⟩) (x, f) (lkp_mem h)
theorem fto_RX8_11 : ftOK RX8 11 8 1 := fcl8 (by decide) (big_in 184 (by decide +kernel) (by decide +kernel)) rfl rfl
theorem fto_RX8_17 : ftOK RX8 17 8 2 := fcl8 (by decide) (big_in 185 (by decide +kernel) (by decide +kernel)) rfl rfl
theorem fto_RX8_21 : ftOK RX8 21 8 3 := fcl8 (by decide) (big_in 186 (by decide +kernel) (by decide +kernel)) rfl rfl
theorem fto_RX8_25 : ftOK RX8 25 8 4 := fcl8 (by decide) (big_in 187 (by decide +kernel) (by decide +kernel)) rfl rfl
theorem fto_RX8_28 : ftOK RX8 28 8 5 := fcl8 (by decide) (big_in 190 (by decide +kernel) (by decide +kernel)) rfl rfl
theorem fto_RX8_31 : ftOK RX8 31 8 6 := fcl8 (by decide) (big_in 191 (by decide +kernel) (by decide +kernel)) rfl rfl
theorem fto_RX8_34 : ftOK RX8 34 8 7 := fcl8 (by decide) (big_in 192 (by decide +kernel) (by decide +kernel)) rfl rfl
theorem fto_RX8_37 : ftOK RX8 37 8 8 := fcl8 (by decide) (big_in 193 (by decide +kernel) (by decide +kernel)) rfl rfl
theorem fto_RX8_40 : ftOK RX8 40 8 9 := fcl8 (by decide) (big_in 194 (by decide +kernel) (by decide +kernel)) rfl rfl
theorem fto_RX8_43 : ftOK RX8 43 8 10 := fcl8 (by decide) (big_in 195 (by decide +kernel) (by decide +kernel)) rfl rfl
theorem fto_RX8_47 : ftOK RX8 47 8 0 := fcl8 (by decide) (big_in 183 (by decide +kernel) (by decide +kernel)) rfl rfl
theorem fto_RX8_95 : ftOK RX8 95 3 13 := fcl3 (by decide) (big_in 134 (by decide +kernel) (by decide +kernel)) rfl rfl
theorem fto_RX8_140 : ftOK RX8 140 3 8 := fcl3 (by decide) (big_in 119 (by decide +kernel) (by decide +kernel)) rfl rfl
theorem fto_RX8_144 : ftOK RX8 144 6 1 := fcl6 (by decide) (big_in 99 (by decide +kernel) (by decide +kernel)) rfl rfl
def ft_RX8 : List (Nat × (Nat × Nat)) := [(11, (8, 1)), (17, (8, 2)), (21, (8, 3)), (25, (8, 4)), (28, (8, 5)), (31, (8, 6)), (34, (8, 7)), (37, (8, 8)), (40, (8, 9)), (43, (8, 10)), (47, (8, 0)), (95, (3, 13)), (140, (3, 8)), (144, (6, 1))]
theorem ft_RX8_ok : ∀ x f, lkp ft_RX8 x = some f → ftOK RX8 x f.1 f.2 := fun x f h => (show ∀ q ∈ ft_RX8, ftOK RX8 q.1 q.2.1 q.2.2 from List.forall_mem_cons.mpr ⟨fto_RX8_11, List.forall_mem_cons.mpr ⟨fto_RX8_17, List.forall_mem_cons.mpr ⟨fto_RX8_21, List.forall_mem_cons.mpr ⟨fto_RX8_25, List.forall_mem_cons.mpr ⟨fto_RX8_28, List.forall_mem_cons.mpr ⟨fto_RX8_31, List.forall_mem_cons.mpr ⟨fto_RX8_34, List.forall_mem_cons.mpr ⟨fto_RX8_37, List.forall_mem_cons.mpr ⟨fto_RX8_40, List.forall_mem_cons.mpr ⟨fto_RX8_43, List.forall_mem_cons.mpr ⟨fto_RX8_47, List.forall_mem_cons.mpr ⟨fto_RX8_95, List.forall_mem_cons.mpr ⟨fto_RX8_140, List.forall_mem_cons.mpr ⟨fto_RX8_144, fun _ h => absurd h List.not_mem_nil⟩⟩⟩⟩⟩⟩⟩⟩⟩⟩⟩⟩⟩⟩) (x, f) (lkp_mem h)
def c32_RX8 : List (Nat × Int32) := []
theorem c32_RX8_ok : ∀ x v, lkp c32_RX8 x = some v → Cond.constant RX8 x v ∈ big := fun x f h => (show ∀ q ∈ c32_RX8, Cond.constant RX8 q.1 q.2 ∈ big from fun _ h => absurd h List.not_mem_nil) (x, f) (lkp_mem h)
def c64_RX8 : List (Nat × Int64) := []
theorem c64_RX8_ok : ∀ x v, lkp c64_RX8 x = some v → Cond.constantLong RX8 x v ∈ big := fun x f h => (show ∀ q ∈ c64_RX8, Cond.constantLong RX8 q.1 q.2 ∈ big from fun _ h => absurd h List.not_mem_nil) (x, f) (lkp_mem h)
def sf_RX8 : List (Nat × Bool) := []
theorem sf_RX8_ok : ∀ x b, lkp sf_RX8 x = some b → (bif b then Cond.fieldLink RX8 x "FrameProver$StateSet" "ONES" "[J" else Cond.fieldLink RX8 x "FrameProver$Machine" "INPUT_LANES" "[I") ∈ big := fun x f h => (show ∀ q ∈ sf_RX8, (bif q.2 then Cond.fieldLink RX8 q.1 "FrameProver$StateSet" "ONES" "[J" else Cond.fieldLink RX8 q.1 "FrameProver$Machine" "INPUT_LANES" "[I") ∈ big from fun _ h => absurd h List.not_mem_nil) (x, f) (lkp_mem h)
theorem fto_RX9_10 : ftOK RX9 10 9 0 := fcl9 (by decide) (big_in 401 (by decide +kernel) (by decide +kernel)) rfl rfl
theorem fto_RX9_21 : ftOK RX9 21 9 1 := fcl9 (by decide) (big_in 402 (by decide +kernel) (by decide +kernel)) rfl rfl
theorem fto_RX9_30 : ftOK RX9 30 9 2 := fcl9 (by decide) (big_in 403 (by decide +kernel) (by decide +kernel)) rfl rfl
theorem fto_RX9_39 : ftOK RX9 39 9 3 := fcl9 (by decide) (big_in 404 (by decide +kernel) (by decide +kernel)) rfl rfl
theorem fto_RX9_48 : ftOK RX9 48 9 4 := fcl9 (by decide) (big_in 405 (by decide +kernel) (by decide +kernel)) rfl rfl
theorem fto_RX9_57 : ftOK RX9 57 9 5 := fcl9 (by decide) (big_in 406 (by decide +kernel) (by decide +kernel)) rfl rfl
theorem fto_RX9_64 : ftOK RX9 64 9 6 := fcl9 (by decide) (big_in 407 (by decide +kernel) (by decide +kernel)) rfl rfl
theorem fto_RX9_68 : ftOK RX9 68 9 7 := fcl9 (by decide) (big_in 408 (by decide +kernel) (by decide +kernel)) rfl rfl
theorem fto_RX9_79 : ftOK RX9 79 3 11 := fcl3 (by decide) (big_in 125 (by decide +kernel) (by decide +kernel)) rfl rfl
theorem fto_RX9_91 : ftOK RX9 91 3 12 := fcl3 (by decide) (big_in 128 (by decide +kernel) (by decide +kernel)) rfl rfl
theorem fto_RX9_116 : ftOK RX9 116 3 9 := fcl3 (by decide) (big_in 121 (by decide +kernel) (by decide +kernel)) rfl rfl
theorem fto_RX9_119 : ftOK RX9 119 3 7 := fcl3 (by decide) (big_in 116 (by decide +kernel) (by decide +kernel)) rfl rfl
theorem fto_RX9_127 : ftOK RX9 127 3 8 := fcl3 (by decide) (big_in 118 (by decide +kernel) (by decide +kernel)) rfl rfl
theorem fto_RX9_136 : ftOK RX9 136 3 10 := fcl3 (by decide) (big_in 124 (by decide +kernel) (by decide +kernel)) rfl rfl
theorem fto_RX9_139 : ftOK RX9 139 6 1 := fcl6 (by decide) (big_in 98 (by decide +kernel) (by decide +kernel)) rfl rfl
theorem fto_RX9_144 : ftOK RX9 144 4 8 := fcl4 (by decide) (big_in 293 (by decide +kernel) (by decide +kernel)) rfl rfl
theorem fto_RX9_147 : ftOK RX9 147 0 2 := fcl0 (by decide) (big_in 245 (by decide +kernel) (by decide +kernel)) rfl rfl
theorem fto_RX9_148 : ftOK RX9 148 3 13 := fcl3 (by decide) (big_in 135 (by decide +kernel) (by decide +kernel)) rfl rfl
theorem fto_RX9_151 : ftOK RX9 151 9 8 := fcl9 (by decide) (big_in 409 (by decide +kernel) (by decide +kernel)) rfl rfl
theorem fto_RX9_184 : ftOK RX9 184 4 7 := fcl4 (by decide) (big_in 291 (by decide +kernel) (by decide +kernel)) rfl rfl
theorem fto_RX9_225 : ftOK RX9 225 4 9 := fcl4 (by decide) (big_in 295 (by decide +kernel) (by decide +kernel)) rfl rfl
theorem fto_RX9_263 : ftOK RX9 263 0 1 := fcl0 (by decide) (big_in 241 (by decide +kernel) (by decide +kernel)) rfl rfl
theorem fto_RX9_296 : ftOK RX9 296 2 3 := fcl2 (by decide) (big_in 329 (by decide +kernel) (by decide +kernel)) rfl rfl
theorem fto_RX9_299 : ftOK RX9 299 2 4 := fcl2 (by decide) (big_in 331 (by decide +kernel) (by decide +kernel)) rfl rfl
theorem fto_RX9_312 : ftOK RX9 312 5 1 := fcl5 (by decide) (big_in 351 (by decide +kernel) (by decide +kernel)) rfl rfl
theorem fto_RX9_313 : ftOK RX9 313 5 2 := fcl5 (by decide) (big_in 353 (by decide +kernel) (by decide +kernel)) rfl rfl
theorem fto_RX9_327 : ftOK RX9 327 8 10 := fcl8 (by decide) (big_in 196 (by decide +kernel) (by decide +kernel)) rfl rfl
def ft_RX9 : List (Nat × (Nat × Nat)) := [(10, (9, 0)), (21, (9, 1)), (30, (9, 2)), (39, (9, 3)), (48, (9, 4)), (57, (9, 5)), (64, (9, 6)), (68, (9, 7)), (79, (3, 11)), (91, (3, 12)), (116, (3, 9)), (119, (3, 7)), (127, (3, 8)), (136, (3, 10)), (139, (6, 1)), (144, (4, 8)), (147, (0, 2)), (148, (3, 13)), (151, (9, 8)), (184, (4, 7)), (225, (4, 9)), (263, (0, 1)), (296, (2, 3)), (299, (2, 4)), (312, (5, 1)), (313, (5, 2)), (327, (8, 10))]
theorem ft_RX9_ok : ∀ x f, lkp ft_RX9 x = some f → ftOK RX9 x f.1 f.2 := fun x f h => (show ∀ q ∈ ft_RX9, ftOK RX9 q.1 q.2.1 q.2.2 from List.forall_mem_cons.mpr ⟨fto_RX9_10, List.forall_mem_cons.mpr ⟨fto_RX9_21, List.forall_mem_cons.mpr ⟨fto_RX9_30, List.forall_mem_cons.mpr ⟨fto_RX9_39, List.forall_mem_cons.mpr ⟨fto_RX9_48, List.forall_mem_cons.mpr ⟨fto_RX9_57, List.forall_mem_cons.mpr ⟨fto_RX9_64, List.forall_mem_cons.mpr ⟨fto_RX9_68, List.forall_mem_cons.mpr ⟨fto_RX9_79, List.forall_mem_cons.mpr ⟨fto_RX9_91, List.forall_mem_cons.mpr ⟨fto_RX9_116, List.forall_mem_cons.mpr ⟨fto_RX9_119, List.forall_mem_cons.mpr ⟨fto_RX9_127, List.forall_mem_cons.mpr ⟨fto_RX9_136, List.forall_mem_cons.mpr ⟨fto_RX9_139, List.forall_mem_cons.mpr ⟨fto_RX9_144, List.forall_mem_cons.mpr ⟨fto_RX9_147, List.forall_mem_cons.mpr ⟨fto_RX9_148, List.forall_mem_cons.mpr ⟨fto_RX9_151, List.forall_mem_cons.mpr ⟨fto_RX9_184, List.forall_mem_cons.mpr ⟨fto_RX9_225, List.forall_mem_cons.mpr ⟨fto_RX9_263, List.forall_mem_cons.mpr ⟨fto_RX9_296, List.forall_mem_cons.mpr ⟨fto_RX9_299, List.forall_mem_cons.mpr ⟨fto_RX9_312, List.forall_mem_cons.mpr ⟨fto_RX9_313, List.forall_mem_cons.mpr ⟨fto_RX9_327, fun _ h => absurd h List.not_mem_nil⟩⟩⟩⟩⟩⟩⟩⟩⟩⟩⟩⟩⟩⟩⟩⟩⟩⟩⟩⟩⟩⟩⟩⟩⟩⟩⟩) (x, f) (lkp_mem h)
def c32_RX9 : List (Nat × Int32) := []
theorem c32_RX9_ok : ∀ x v, lkp c32_RX9 x = some v → Cond.constant RX9 x v ∈ big := fun x f h => (show ∀ q ∈ c32_RX9, Cond.constant RX9 q.1 q.2 ∈ big from fun _ h => absurd h List.not_mem_nil) (x, f) (lkp_mem h)
def c64_RX9 : List (Nat × Int64) := []
theorem c64_RX9_ok : ∀ x v, lkp c64_RX9 x = some v → Cond.constantLong RX9 x v ∈ big := fun x f h => (show ∀ q ∈ c64_RX9, Cond.constantLong RX9 q.1 q.2 ∈ big from fun _ h => absurd h List.not_mem_nil) (x, f) (lkp_mem h)
def sf_RX9 : List (Nat × Bool) := []
theorem sf_RX9_ok : ∀ x b, lkp sf_RX9 x = some b → (bif b then Cond.fieldLink RX9 x "FrameProver$StateSet" "ONES" "[J" else Cond.fieldLink RX9 x "FrameProver$Machine" "INPUT_LANES" "[I") ∈ big := fun x f h => (show ∀ q ∈ sf_RX9, (bif q.2 then Cond.fieldLink RX9 q.1 "FrameProver$StateSet" "ONES" "[J" else Cond.fieldLink RX9 q.1 "FrameProver$Machine" "INPUT_LANES" "[I") ∈ big from fun _ h => absurd h List.not_mem_nil) (x, f) (lkp_mem h)
theorem fto_RX10_7 : ftOK RX10 7 10 0 := fcl10 (by decide) (big_in 1083 (by decide +kernel) (by decide +kernel)) rfl rfl
theorem fto_RX10_13 : ftOK RX10 13 10 1 := fcl10 (by decide) (big_in 1084 (by decide +kernel) (by decide +kernel)) rfl rfl
theorem fto_RX10_16 : ftOK RX10 16 10 2 := fcl10 (by decide) (big_in 1085 (by decide +kernel) (by decide +kernel)) rfl rfl
theorem fto_RX10_19 : ftOK RX10 19 10 3 := fcl10 (by decide) (big_in 1086 (by decide +kernel) (by decide +kernel)) rfl rfl
theorem fto_RX10_22 : ftOK RX10 22 10 4 := fcl10 (by decide) (big_in 1087 (by decide +kernel) (by decide +kernel)) rfl rfl
theorem fto_RX10_26 : ftOK RX10 26 10 9 := fcl10 (by decide) (big_in 1092 (by decide +kernel) (by decide +kernel)) rfl rfl
theorem fto_RX10_30 : ftOK RX10 30 10 12 := fcl10 (by decide) (big_in 1095 (by decide +kernel) (by decide +kernel)) rfl rfl
theorem fto_RX10_33 : ftOK RX10 33 10 13 := fcl10 (by decide) (big_in 1096 (by decide +kernel) (by decide +kernel)) rfl rfl
theorem fto_RX10_36 : ftOK RX10 36 10 14 := fcl10 (by decide) (big_in 1097 (by decide +kernel) (by decide +kernel)) rfl rfl
theorem fto_RX10_39 : ftOK RX10 39 10 15 := fcl10 (by decide) (big_in 1098 (by decide +kernel) (by decide +kernel)) rfl rfl
theorem fto_RX10_42 : ftOK RX10 42 10 16 := fcl10 (by decide) (big_in 1099 (by decide +kernel) (by decide +kernel)) rfl rfl
theorem fto_RX10_45 : ftOK RX10 45 10 17 := fcl10 (by decide) (big_in 1100 (by decide +kernel) (by decide +kernel)) rfl rfl
theorem fto_RX10_48 : ftOK RX10 48 10 20 := fcl10 (by decide) (big_in 1103 (by decide +kernel) (by decide +kernel)) rfl rfl
theorem fto_RX10_51 : ftOK RX10 51 10 21 := fcl10 (by decide) (big_in 1104 (by decide +kernel) (by decide +kernel)) rfl rfl
theorem fto_RX10_54 : ftOK RX10 54 10 22 := fcl10 (by decide) (big_in 1105 (by decide +kernel) (by decide +kernel)) rfl rfl
theorem fto_RX10_57 : ftOK RX10 57 10 27 := fcl10 (by decide) (big_in 1110 (by decide +kernel) (by decide +kernel)) rfl rfl
theorem fto_RX10_60 : ftOK RX10 60 10 28 := fcl10 (by decide) (big_in 1111 (by decide +kernel) (by decide +kernel)) rfl rfl
theorem fto_RX10_63 : ftOK RX10 63 10 29 := fcl10 (by decide) (big_in 1112 (by decide +kernel) (by decide +kernel)) rfl rfl
theorem fto_RX10_66 : ftOK RX10 66 10 30 := fcl10 (by decide) (big_in 1113 (by decide +kernel) (by decide +kernel)) rfl rfl
theorem fto_RX10_69 : ftOK RX10 69 10 31 := fcl10 (by decide) (big_in 1114 (by decide +kernel) (by decide +kernel)) rfl rfl
theorem fto_RX10_72 : ftOK RX10 72 10 32 := fcl10 (by decide) (big_in 1115 (by decide +kernel) (by decide +kernel)) rfl rfl
theorem fto_RX10_75 : ftOK RX10 75 10 34 := fcl10 (by decide) (big_in 1117 (by decide +kernel) (by decide +kernel)) rfl rfl
theorem fto_RX10_78 : ftOK RX10 78 10 35 := fcl10 (by decide) (big_in 1118 (by decide +kernel) (by decide +kernel)) rfl rfl
theorem fto_RX10_82 : ftOK RX10 82 10 36 := fcl10 (by decide) (big_in 1119 (by decide +kernel) (by decide +kernel)) rfl rfl
theorem fto_RX10_85 : ftOK RX10 85 10 37 := fcl10 (by decide) (big_in 1120 (by decide +kernel) (by decide +kernel)) rfl rfl
theorem fto_RX10_88 : ftOK RX10 88 10 38 := fcl10 (by decide) (big_in 1121 (by decide +kernel) (by decide +kernel)) rfl rfl
theorem fto_RX10_91 : ftOK RX10 91 10 40 := fcl10 (by decide) (big_in 1123 (by decide +kernel) (by decide +kernel)) rfl rfl
theorem fto_RX10_94 : ftOK RX10 94 10 41 := fcl10 (by decide) (big_in 1124 (by decide +kernel) (by decide +kernel)) rfl rfl
theorem fto_RX10_97 : ftOK RX10 97 10 44 := fcl10 (by decide) (big_in 1127 (by decide +kernel) (by decide +kernel)) rfl rfl
theorem fto_RX10_100 : ftOK RX10 100 10 45 := fcl10 (by decide) (big_in 1128 (by decide +kernel) (by decide +kernel)) rfl rfl
theorem fto_RX10_103 : ftOK RX10 103 10 46 := fcl10 (by decide) (big_in 1129 (by decide +kernel) (by decide +kernel)) rfl rfl
theorem fto_RX10_106 : ftOK RX10 106 10 6 := fcl10 (by decide) (big_in 1089 (by decide +kernel) (by decide +kernel)) rfl rfl
theorem fto_RX10_109 : ftOK RX10 109 10 7 := fcl10 (by decide) (big_in 1090 (by decide +kernel) (by decide +kernel)) rfl rfl
theorem fto_RX10_112 : ftOK RX10 112 10 5 := fcl10 (by decide) (big_in 1088 (by decide +kernel) (by decide +kernel)) rfl rfl
theorem fto_RX10_122 : ftOK RX10 122 10 8 := fcl10 (by decide) (big_in 1091 (by decide +kernel) (by decide +kernel)) rfl rfl
theorem fto_RX10_137 : ftOK RX10 137 10 10 := fcl10 (by decide) (big_in 1093 (by decide +kernel) (by decide +kernel)) rfl rfl
theorem fto_RX10_140 : ftOK RX10 140 10 11 := fcl10 (by decide) (big_in 1094 (by decide +kernel) (by decide +kernel)) rfl rfl
theorem fto_RX10_148 : ftOK RX10 148 10 25 := fcl10 (by decide) (big_in 1108 (by decide +kernel) (by decide +kernel)) rfl rfl
theorem fto_RX10_151 : ftOK RX10 151 10 39 := fcl10 (by decide) (big_in 1122 (by decide +kernel) (by decide +kernel)) rfl rfl
theorem fto_RX10_157 : ftOK RX10 157 10 18 := fcl10 (by decide) (big_in 1101 (by decide +kernel) (by decide +kernel)) rfl rfl
theorem fto_RX10_179 : ftOK RX10 179 10 19 := fcl10 (by decide) (big_in 1102 (by decide +kernel) (by decide +kernel)) rfl rfl
theorem fto_RX10_188 : ftOK RX10 188 10 23 := fcl10 (by decide) (big_in 1106 (by decide +kernel) (by decide +kernel)) rfl rfl
theorem fto_RX10_191 : ftOK RX10 191 10 24 := fcl10 (by decide) (big_in 1107 (by decide +kernel) (by decide +kernel)) rfl rfl
theorem fto_RX10_194 : ftOK RX10 194 10 26 := fcl10 (by decide) (big_in 1109 (by decide +kernel) (by decide +kernel)) rfl rfl
theorem fto_RX10_197 : ftOK RX10 197 10 33 := fcl10 (by decide) (big_in 1116 (by decide +kernel) (by decide +kernel)) rfl rfl
theorem fto_RX10_278 : ftOK RX10 278 10 42 := fcl10 (by decide) (big_in 1125 (by decide +kernel) (by decide +kernel)) rfl rfl
theorem fto_RX10_281 : ftOK RX10 281 10 43 := fcl10 (by decide) (big_in 1126 (by decide +kernel) (by decide +kernel)) rfl rfl
def ft_RX10 : List (Nat × (Nat × Nat)) := [(7, (10, 0)), (13, (10, 1)), (16, (10, 2)), (19, (10, 3)), (22, (10, 4)), (26, (10, 9)), (30, (10, 12)), (33, (10, 13)), (36, (10, 14)), (39, (10, 15)), (42, (10, 16)), (45, (10, 17)), (48, (10, 20)), (51, (10, 21)), (54, (10, 22)), (57, (10, 27)), (60, (10, 28)), (63, (10, 29)), (66, (10, 30)), (69, (10, 31)), (72, (10, 32)), (75, (10, 34)), (78, (10, 35)), (82, (10, 36)), (85, (10, 37)), (88, (10, 38)), (91, (10, 40)), (94, (10, 41)), (97, (10, 44)), (100, (10, 45)), (103, (10, 46)), (106, (10, 6)), (109, (10, 7)), (112, (10, 5)), (122, (10, 8)), (137, (10, 10)), (140, (10, 11)), (148, (10, 25)), (151, (10, 39)), (157, (10, 18)), (179, (10, 19)), (188, (10, 23)), (191, (10, 24)), (194, (10, 26)), (197, (10, 33)), (278, (10, 42)), (281, (10, 43))]
theorem ft_RX10_ok : ∀ x f, lkp ft_RX10 x = some f → ftOK RX10 x f.1 f.2 := fun x f h => (show ∀ q ∈ ft_RX10, ftOK RX10 q.1 q.2.1 q.2.2 from List.forall_mem_cons.mpr ⟨fto_RX10_7, List.forall_mem_cons.mpr ⟨fto_RX10_13, List.forall_mem_cons.mpr ⟨fto_RX10_16, List.forall_mem_cons.mpr ⟨fto_RX10_19, List.forall_mem_cons.mpr ⟨fto_RX10_22, List.forall_mem_cons.mpr ⟨fto_RX10_26, List.forall_mem_cons.mpr ⟨fto_RX10_30, List.forall_mem_cons.mpr ⟨fto_RX10_33, List.forall_mem_cons.mpr ⟨fto_RX10_36, List.forall_mem_cons.mpr ⟨fto_RX10_39, List.forall_mem_cons.mpr ⟨fto_RX10_42, List.forall_mem_cons.mpr ⟨fto_RX10_45, List.forall_mem_cons.mpr ⟨fto_RX10_48, List.forall_mem_cons.mpr ⟨fto_RX10_51, List.forall_mem_cons.mpr ⟨fto_RX10_54, List.forall_mem_cons.mpr ⟨fto_RX10_57, List.forall_mem_cons.mpr ⟨fto_RX10_60, List.forall_mem_cons.mpr ⟨fto_RX10_63, List.forall_mem_cons.mpr ⟨fto_RX10_66, List.forall_mem_cons.mpr ⟨fto_RX10_69, List.forall_mem_cons.mpr ⟨fto_RX10_72, List.forall_mem_cons.mpr ⟨fto_RX10_75, List.forall_mem_cons.mpr ⟨fto_RX10_78, List.forall_mem_cons.mpr ⟨fto_RX10_82, List.forall_mem_cons.mpr ⟨fto_RX10_85, List.forall_mem_cons.mpr ⟨fto_RX10_88, List.forall_mem_cons.mpr ⟨fto_RX10_91, List.forall_mem_cons.mpr ⟨fto_RX10_94, List.forall_mem_cons.mpr ⟨fto_RX10_97, List.forall_mem_cons.mpr ⟨fto_RX10_100, List.forall_mem_cons.mpr ⟨fto_RX10_103, List.forall_mem_cons.mpr ⟨fto_RX10_106, List.forall_mem_cons.mpr ⟨fto_RX10_109, List.forall_mem_cons.mpr ⟨fto_RX10_112, List.forall_mem_cons.mpr ⟨fto_RX10_122, List.forall_mem_cons.mpr ⟨fto_RX10_137, List.forall_mem_cons.mpr ⟨fto_RX10_140, List.forall_mem_cons.mpr ⟨fto_RX10_148, List.forall_mem_cons.mpr ⟨fto_RX10_151, List.forall_mem_cons.mpr ⟨fto_RX10_157, List.forall_mem_cons.mpr ⟨fto_RX10_179, List.forall_mem_cons.mpr ⟨fto_RX10_188, List.forall_mem_cons.mpr ⟨fto_RX10_191, List.forall_mem_cons.mpr ⟨fto_RX10_194, List.forall_mem_cons.mpr ⟨fto_RX10_197, List.forall_mem_cons.mpr ⟨fto_RX10_278, List.forall_mem_cons.mpr ⟨fto_RX10_281, fun _ h => absurd h List.not_mem_nil⟩⟩⟩⟩⟩⟩⟩⟩⟩⟩⟩⟩⟩⟩⟩⟩⟩⟩⟩⟩⟩⟩⟩⟩⟩⟩⟩⟩⟩⟩⟩⟩⟩⟩⟩⟩⟩⟩⟩⟩⟩⟩⟩⟩⟩⟩⟩) (x, f) (lkp_mem h)
def c32_RX10 : List (Nat × Int32) := [(81, 65536)]
theorem c32_RX10_ok : ∀ x v, lkp c32_RX10 x = some v → Cond.constant RX10 x v ∈ big := fun x f h => (show ∀ q ∈ c32_RX10, Cond.constant RX10 q.1 q.2 ∈ big from List.forall_mem_cons.mpr ⟨big_in 1082 (by decide +kernel) (by decide +kernel), fun _ h => absurd h List.not_mem_nil⟩) (x, f) (lkp_mem h)
def c64_RX10 : List (Nat × Int64) := [(143, 2), (250, 5000), (264, 24), (290, -8), (292, -2)]
theorem c64_RX10_ok : ∀ x v, lkp c64_RX10 x = some v → Cond.constantLong RX10 x v ∈ big := fun x f h => (show ∀ q ∈ c64_RX10, Cond.constantLong RX10 q.1 q.2 ∈ big from List.forall_mem_cons.mpr ⟨big_in 1276 (by decide +kernel) (by decide +kernel), List.forall_mem_cons.mpr ⟨big_in 1337 (by decide +kernel) (by decide +kernel), List.forall_mem_cons.mpr ⟨big_in 1444 (by decide +kernel) (by decide +kernel), List.forall_mem_cons.mpr ⟨big_in 1545 (by decide +kernel) (by decide +kernel), List.forall_mem_cons.mpr ⟨big_in 1546 (by decide +kernel) (by decide +kernel), fun _ h => absurd h List.not_mem_nil⟩⟩⟩⟩⟩) (x, f) (lkp_mem h)
def sf_RX10 : List (Nat × Bool) := []
theorem sf_RX10_ok : ∀ x b, lkp sf_RX10 x = some b → (bif b then Cond.fieldLink RX10 x "FrameProver$StateSet" "ONES" "[J" else Cond.fieldLink RX10 x "FrameProver$Machine" "INPUT_LANES" "[I") ∈ big := fun x f h => (show ∀ q ∈ sf_RX10, (bif q.2 then Cond.fieldLink RX10 q.1 "FrameProver$StateSet" "ONES" "[J" else Cond.fieldLink RX10 q.1 "FrameProver$Machine" "INPUT_LANES" "[I") ∈ big from fun _ h => absurd h List.not_mem_nil) (x, f) (lkp_mem h)
def ft_RJ13 : List (Nat × (Nat × Nat)) := []
theorem ft_RJ13_ok : ∀ x f, lkp ft_RJ13 x = some f → ftOK RJ13 x f.1 f.2 := fun x f h => (show ∀ q ∈ ft_RJ13, ftOK RJ13 q.1 q.2.1 q.2.2 from fun _ h => absurd h List.not_mem_nil) (x, f) (lkp_mem h)
def c32_RJ13 : List (Nat × Int32) := []
theorem c32_RJ13_ok : ∀ x v, lkp c32_RJ13 x = some v → Cond.constant RJ13 x v ∈ big := fun x f h => (show ∀ q ∈ c32_RJ13, Cond.constant RJ13 q.1 q.2 ∈ big from fun _ h => absurd h List.not_mem_nil) (x, f) (lkp_mem h)
def c64_RJ13 : List (Nat × Int64) := [(314, 6148914691236517205), (316, 3689348814741910323), (318, 1085102592571150095)]
theorem c64_RJ13_ok : ∀ x v, lkp c64_RJ13 x = some v → Cond.constantLong RJ13 x v ∈ big := fun x f h => (show ∀ q ∈ c64_RJ13, Cond.constantLong RJ13 q.1 q.2 ∈ big from List.forall_mem_cons.mpr ⟨big_in 882 (by decide +kernel) (by decide +kernel), List.forall_mem_cons.mpr ⟨big_in 883 (by decide +kernel) (by decide +kernel), List.forall_mem_cons.mpr ⟨big_in 884 (by decide +kernel) (by decide +kernel), fun _ h => absurd h List.not_mem_nil⟩⟩⟩) (x, f) (lkp_mem h)
def sf_RJ13 : List (Nat × Bool) := []
theorem sf_RJ13_ok : ∀ x b, lkp sf_RJ13 x = some b → (bif b then Cond.fieldLink RJ13 x "FrameProver$StateSet" "ONES" "[J" else Cond.fieldLink RJ13 x "FrameProver$Machine" "INPUT_LANES" "[I") ∈ big := fun x f h => (show ∀ q ∈ sf_RJ13, (bif q.2 then Cond.fieldLink RJ13 q.1 "FrameProver$StateSet" "ONES" "[J" else Cond.fieldLink RJ13 q.1 "FrameProver$Machine" "INPUT_LANES" "[I") ∈ big from fun _ h => absurd h List.not_mem_nil) (x, f) (lkp_mem h)
def ft_RJ9 : List (Nat × (Nat × Nat)) := []
theorem ft_RJ9_ok : ∀ x f, lkp ft_RJ9 x = some f → ftOK RJ9 x f.1 f.2 := fun x f h => (show ∀ q ∈ ft_RJ9, ftOK RJ9 q.1 q.2.1 q.2.2 from fun _ h => absurd h List.not_mem_nil) (x, f) (lkp_mem h)
def c32_RJ9 : List (Nat × Int32) := []
theorem c32_RJ9_ok : ∀ x v, lkp c32_RJ9 x = some v → Cond.constant RJ9 x v ∈ big := fun x f h => (show ∀ q ∈ c32_RJ9, Cond.constant RJ9 q.1 q.2 ∈ big from fun _ h => absurd h List.not_mem_nil) (x, f) (lkp_mem h)
def c64_RJ9 : List (Nat × Int64) := []
theorem c64_RJ9_ok : ∀ x v, lkp c64_RJ9 x = some v → Cond.constantLong RJ9 x v ∈ big := fun x f h => (show ∀ q ∈ c64_RJ9, Cond.constantLong RJ9 q.1 q.2 ∈ big from fun _ h => absurd h List.not_mem_nil) (x, f) (lkp_mem h)
def sf_RJ9 : List (Nat × Bool) := []
theorem sf_RJ9_ok : ∀ x b, lkp sf_RJ9 x = some b → (bif b then Cond.fieldLink RJ9 x "FrameProver$StateSet" "ONES" "[J" else Cond.fieldLink RJ9 x "FrameProver$Machine" "INPUT_LANES" "[I") ∈ big := fun x f h => (show ∀ q ∈ sf_RJ9, (bif q.2 then Cond.fieldLink RJ9 q.1 "FrameProver$StateSet" "ONES" "[J" else Cond.fieldLink RJ9 q.1 "FrameProver$Machine" "INPUT_LANES" "[I") ∈ big from fun _ h => absurd h List.not_mem_nil) (x, f) (lkp_mem h)
