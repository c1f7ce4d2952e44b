/-! the methods of the reference -/
def wp_X10_isIn (x0 : Int64) (x2 : Int64) (x4 : Int64) (σ : Sg) (Q : Int32 → Prop) : Prop :=
  (((lg_cmp x0 x2) < 0 → (nz (0 : Int32) ∧ Q (0 : Int32))) ∧ (¬ (lg_cmp x0 x2) < 0 → ((0 < (lg_cmp x0 x4) → (nz (0 : Int32) ∧ Q (0 : Int32))) ∧ (¬ 0 < (lg_cmp x0 x4) → (nz (1 : Int32) ∧ Q (1 : Int32))))))
def wl_X10_isIn : WP := fun As σ Q => p1l As (fun x0 r0 => p1l r0 (fun x2 r1 => p1l r1 (fun x4 r2 => onB r2.isEmpty (wp_X10_isIn x0 x2 x4 σ (fun x => Q (some (.int x)) σ)))))
def tb_X10_isIn : List (Nat × Instr × Nat) := [(0, (.lload_n 0, 1)), (1, (.lload_n 2, 1)), (2, (.lcmp, 1)), (3, (.ifCond .lt 17, 3)), (6, (.lload_n 0, 1)), (7, (.lload 4, 2)), (9, (.lcmp, 1)), (10, (.ifCond .gt 17, 3)), (13, (.iconst 1, 1)), (14, (.goto 18, 3)), (17, (.iconst 0, 1)), (18, (.ireturn, 1))]
def ce_X10_isIn : List (Nat × (Nat × Option Nat × WP)) := []
set_option maxRecDepth 100000 in
set_option maxHeartbeats 4000000 in
theorem ct_X10_isIn (l : Launch) : Con l wM yX10_isIn cX10_isIn 6 (some .boolean) 0 wl_X10_isIn := by
  refine sxm_ok l (ft := lkp ft_RX10) (c32 := lkp c32_RX10) (c64 := lkp c64_RX10) (ce := lkp ce_X10_isIn) (sf := lkp sf_RX10) (lab := lkp []) (T := tb_X10_isIn) (by decide +kernel) ft_RX10_ok c32_RX10_ok c64_RX10_ok (fun x q h => (show ∀ q ∈ ce_X10_isIn, ceOK l wM RX10 0 q.1 q.2.1 q.2.2.1 q.2.2.2 from fun _ h => absurd h List.not_mem_nil) (x, q) (lkp_mem h)) sf_RX10_ok (by decide +kernel) 400 (fun As σ Q h => ?_)
  replace h := p1l_e h
  obtain ⟨x0, q0, rfl, h⟩ := h
  replace h := p1l_e h
  obtain ⟨x2, q1, rfl, h⟩ := h
  replace h := p1l_e h
  obtain ⟨x4, q2, rfl, h⟩ := h
  replace h := onB_e h
  obtain ⟨e9, h⟩ := h
  have e9 := List.isEmpty_iff.mp e9
  subst e9
  refine ⟨Nat.le_of_ble_eq_true rfl, fun P hP => ?_⟩
  exact h 
def wp_X10_no (x1 : Int32) (σ : Sg) (Q : Int32 → Sg → Prop) : Prop :=
  (vp_in (-x1) 9 ∧ (vp_in (-x1) 9 ∧ Q x1 (sI σ 8 ((-x1)).toNatClampNeg ((gI σ 8 ((-x1)).toNatClampNeg) + (1 : Int32)))))
def wl_X10_no : WP := fun As σ Q => p1r As (fun z0 r0 => onB (Nat.beq z0 0) (p1i r0 (fun x1 r1 => onB r1.isEmpty (wp_X10_no x1 σ (fun x τ => Q (some (.int x)) τ)))))
def tb_X10_no : List (Nat × Instr × Nat) := [(0, (.aload_n 0, 1)), (1, (.getfield 36, 3)), (4, (.iload_n 1, 1)), (5, (.ineg, 1)), (6, (.dup2, 1)), (7, (.iaload, 1)), (8, (.iconst 1, 1)), (9, (.iadd, 1)), (10, (.iastore, 1)), (11, (.iload_n 1, 1)), (12, (.ireturn, 1))]
def ce_X10_no : List (Nat × (Nat × Option Nat × WP)) := []
set_option maxRecDepth 100000 in
set_option maxHeartbeats 4000000 in
theorem ct_X10_no (l : Launch) : Con l wM yX10_no cX10_no 2 (some .int) 0 wl_X10_no := by
  refine sxm_ok l (ft := lkp ft_RX10) (c32 := lkp c32_RX10) (c64 := lkp c64_RX10) (ce := lkp ce_X10_no) (sf := lkp sf_RX10) (lab := lkp []) (T := tb_X10_no) (by decide +kernel) ft_RX10_ok c32_RX10_ok c64_RX10_ok (fun x q h => (show ∀ q ∈ ce_X10_no, ceOK l wM RX10 0 q.1 q.2.1 q.2.2.1 q.2.2.2 from fun _ h => absurd h List.not_mem_nil) (x, q) (lkp_mem h)) sf_RX10_ok (by decide +kernel) 400 (fun As σ Q h => ?_)
  replace h := p1r_e h
  obtain ⟨z0, q0, rfl, h⟩ := h
  replace h := onB_e h
  obtain ⟨e0, h⟩ := h
  have e0 := Nat.eq_of_beq_eq_true e0
  subst e0
  replace h := p1i_e h
  obtain ⟨x1, q1, rfl, h⟩ := h
  replace h := onB_e h
  obtain ⟨e9, h⟩ := h
  have e9 := List.isEmpty_iff.mp e9
  subst e9
  refine ⟨Nat.le_of_ble_eq_true rfl, fun P hP => ?_⟩
  exact h 
def wp_X10_states  (σ : Sg) (Q : Int32 → Prop) : Prop :=
  Q ((1 : Int32) <<< ((gI σ 0 6) &&& 31))
def wl_X10_states : WP := fun As σ Q => p1r As (fun z0 r0 => onB (Nat.beq z0 0) (onB r0.isEmpty (wp_X10_states  σ (fun x => Q (some (.int x)) σ))))
def tb_X10_states : List (Nat × Instr × Nat) := [(0, (.iconst 1, 1)), (1, (.aload_n 0, 1)), (2, (.getfield 106, 3)), (5, (.ishl, 1)), (6, (.ireturn, 1))]
def ce_X10_states : List (Nat × (Nat × Option Nat × WP)) := []
set_option maxRecDepth 100000 in
set_option maxHeartbeats 4000000 in
theorem ct_X10_states (l : Launch) : Con l wM yX10_states cX10_states 1 (some .int) 0 wl_X10_states := by
  refine sxm_ok l (ft := lkp ft_RX10) (c32 := lkp c32_RX10) (c64 := lkp c64_RX10) (ce := lkp ce_X10_states) (sf := lkp sf_RX10) (lab := lkp []) (T := tb_X10_states) (by decide +kernel) ft_RX10_ok c32_RX10_ok c64_RX10_ok (fun x q h => (show ∀ q ∈ ce_X10_states, ceOK l wM RX10 0 q.1 q.2.1 q.2.2.1 q.2.2.2 from fun _ h => absurd h List.not_mem_nil) (x, q) (lkp_mem h)) sf_RX10_ok (by decide +kernel) 400 (fun As σ Q h => ?_)
  replace h := p1r_e h
  obtain ⟨z0, q0, rfl, h⟩ := h
  replace h := onB_e h
  obtain ⟨e0, h⟩ := h
  have e0 := Nat.eq_of_beq_eq_true e0
  subst e0
  replace h := onB_e h
  obtain ⟨e9, h⟩ := h
  have e9 := List.isEmpty_iff.mp e9
  subst e9
  refine ⟨Nat.le_of_ble_eq_true rfl, fun P hP => ?_⟩
  exact h 
def wp_X10_ways  (σ : Sg) (Q : Int32 → Prop) : Prop :=
  Q ((1 : Int32) <<< ((gI σ 0 7) &&& 31))
def wl_X10_ways : WP := fun As σ Q => p1r As (fun z0 r0 => onB (Nat.beq z0 0) (onB r0.isEmpty (wp_X10_ways  σ (fun x => Q (some (.int x)) σ))))
def tb_X10_ways : List (Nat × Instr × Nat) := [(0, (.iconst 1, 1)), (1, (.aload_n 0, 1)), (2, (.getfield 109, 3)), (5, (.ishl, 1)), (6, (.ireturn, 1))]
def ce_X10_ways : List (Nat × (Nat × Option Nat × WP)) := []
set_option maxRecDepth 100000 in
set_option maxHeartbeats 4000000 in
theorem ct_X10_ways (l : Launch) : Con l wM yX10_ways cX10_ways 1 (some .int) 0 wl_X10_ways := by
  refine sxm_ok l (ft := lkp ft_RX10) (c32 := lkp c32_RX10) (c64 := lkp c64_RX10) (ce := lkp ce_X10_ways) (sf := lkp sf_RX10) (lab := lkp []) (T := tb_X10_ways) (by decide +kernel) ft_RX10_ok c32_RX10_ok c64_RX10_ok (fun x q h => (show ∀ q ∈ ce_X10_ways, ceOK l wM RX10 0 q.1 q.2.1 q.2.2.1 q.2.2.2 from fun _ h => absurd h List.not_mem_nil) (x, q) (lkp_mem h)) sf_RX10_ok (by decide +kernel) 400 (fun As σ Q h => ?_)
  replace h := p1r_e h
  obtain ⟨z0, q0, rfl, h⟩ := h
  replace h := onB_e h
  obtain ⟨e0, h⟩ := h
  have e0 := Nat.eq_of_beq_eq_true e0
  subst e0
  replace h := onB_e h
  obtain ⟨e9, h⟩ := h
  have e9 := List.isEmpty_iff.mp e9
  subst e9
  refine ⟨Nat.le_of_ble_eq_true rfl, fun P hP => ?_⟩
  exact h 
def wp_X10_isSign (x1 : Int32) (σ : Sg) (Q : Int32 → Prop) : Prop :=
  ((x1 < 0 → (nz (0 : Int32) ∧ Q (0 : Int32))) ∧ (¬ x1 < 0 → ((x1 < ((2 : Int32) * (gI σ 0 5)) → (nz (1 : Int32) ∧ Q (1 : Int32))) ∧ (¬ x1 < ((2 : Int32) * (gI σ 0 5)) → (nz (0 : Int32) ∧ Q (0 : Int32))))))
def wl_X10_isSign : WP := fun As σ Q => p1r As (fun z0 r0 => onB (Nat.beq z0 0) (p1i r0 (fun x1 r1 => onB r1.isEmpty (wp_X10_isSign x1 σ (fun x => Q (some (.int x)) σ)))))
def tb_X10_isSign : List (Nat × Instr × Nat) := [(0, (.iload_n 1, 1)), (1, (.ifCond .lt 18, 3)), (4, (.iload_n 1, 1)), (5, (.iconst 2, 1)), (6, (.aload_n 0, 1)), (7, (.getfield 112, 3)), (10, (.imul, 1)), (11, (.if_icmp .ge 18, 3)), (14, (.iconst 1, 1)), (15, (.goto 19, 3)), (18, (.iconst 0, 1)), (19, (.ireturn, 1))]
def ce_X10_isSign : List (Nat × (Nat × Option Nat × WP)) := []
set_option maxRecDepth 100000 in
set_option maxHeartbeats 4000000 in
theorem ct_X10_isSign (l : Launch) : Con l wM yX10_isSign cX10_isSign 2 (some .boolean) 0 wl_X10_isSign := by
  refine sxm_ok l (ft := lkp ft_RX10) (c32 := lkp c32_RX10) (c64 := lkp c64_RX10) (ce := lkp ce_X10_isSign) (sf := lkp sf_RX10) (lab := lkp []) (T := tb_X10_isSign) (by decide +kernel) ft_RX10_ok c32_RX10_ok c64_RX10_ok (fun x q h => (show ∀ q ∈ ce_X10_isSign, ceOK l wM RX10 0 q.1 q.2.1 q.2.2.1 q.2.2.2 from fun _ h => absurd h List.not_mem_nil) (x, q) (lkp_mem h)) sf_RX10_ok (by decide +kernel) 400 (fun As σ Q h => ?_)
  replace h := p1r_e h
  obtain ⟨z0, q0, rfl, h⟩ := h
  replace h := onB_e h
  obtain ⟨e0, h⟩ := h
  have e0 := Nat.eq_of_beq_eq_true e0
  subst e0
  replace h := p1i_e h
  obtain ⟨x1, q1, rfl, h⟩ := h
  replace h := onB_e h
  obtain ⟨e9, h⟩ := h
  have e9 := List.isEmpty_iff.mp e9
  subst e9
  refine ⟨Nat.le_of_ble_eq_true rfl, fun P hP => ?_⟩
  exact h 
def wp_X10_sorted (x1 : Int32) (σ : Sg) (Q : Int32 → Prop) : Prop :=
  ∀ L4 : Int32 → Int32 → Prop,
  (∀ (x2 : Int32) (x3 : Int32), ((x3 < (gI σ 0 5) → (vp_in x3 80 ∧ (((gI σ 1 (x3).toNatClampNeg) = x1 → L4 (x2 + (1 : Int32)) (x3 + (1 : Int32))) ∧ (¬ (gI σ 1 (x3).toNatClampNeg) = x1 → L4 (x2 + (0 : Int32)) (x3 + (1 : Int32)))))) ∧ (¬ x3 < (gI σ 0 5) → Q x2)) → L4 x2 x3) →
  L4 (0 : Int32) (0 : Int32)
def wl_X10_sorted : WP := fun As σ Q => p1r As (fun z0 r0 => onB (Nat.beq z0 0) (p1i r0 (fun x1 r1 => onB r1.isEmpty (wp_X10_sorted x1 σ (fun x => Q (some (.int x)) σ)))))
def tb_X10_sorted : List (Nat × Instr × Nat) := [(0, (.iconst 0, 1)), (1, (.istore_n 2, 1)), (2, (.iconst 0, 1)), (3, (.istore_n 3, 1)), (4, (.iload_n 3, 1)), (5, (.aload_n 0, 1)), (6, (.getfield 112, 3)), (9, (.if_icmp .ge 36, 3)), (12, (.iload_n 2, 1)), (13, (.aload_n 0, 1)), (14, (.getfield 7, 3)), (17, (.iload_n 3, 1)), (18, (.iaload, 1)), (19, (.iload_n 1, 1)), (20, (.if_icmp .ne 27, 3)), (23, (.iconst 1, 1)), (24, (.goto 28, 3)), (27, (.iconst 0, 1)), (28, (.iadd, 1)), (29, (.istore_n 2, 1)), (30, (.iinc 3 1, 3)), (33, (.goto 4, 3)), (36, (.iload_n 2, 1)), (37, (.ireturn, 1))]
def ce_X10_sorted : List (Nat × (Nat × Option Nat × WP)) := []
set_option maxRecDepth 100000 in
set_option maxHeartbeats 4000000 in
theorem ct_X10_sorted (l : Launch) : Con l wM yX10_sorted cX10_sorted 4 (some .int) 0 wl_X10_sorted := by
  refine sxm_ok l (ft := lkp ft_RX10) (c32 := lkp c32_RX10) (c64 := lkp c64_RX10) (ce := lkp ce_X10_sorted) (sf := lkp sf_RX10) (lab := lkp [(4, [0, 1, 2, 3])]) (T := tb_X10_sorted) (by decide +kernel) ft_RX10_ok c32_RX10_ok c64_RX10_ok (fun x q h => (show ∀ q ∈ ce_X10_sorted, ceOK l wM RX10 0 q.1 q.2.1 q.2.2.1 q.2.2.2 from fun _ h => absurd h List.not_mem_nil) (x, q) (lkp_mem h)) sf_RX10_ok (by decide +kernel) 400 (fun As σ Q h => ?_)
  replace h := p1r_e h
  obtain ⟨z0, q0, rfl, h⟩ := h
  replace h := onB_e h
  obtain ⟨e0, h⟩ := h
  have e0 := Nat.eq_of_beq_eq_true e0
  subst e0
  replace h := p1i_e h
  obtain ⟨x1, q1, rfl, h⟩ := h
  replace h := onB_e h
  obtain ⟨e9, h⟩ := h
  have e9 := List.isEmpty_iff.mp e9
  subst e9
  refine ⟨Nat.le_of_ble_eq_true rfl, fun P hP => ?_⟩
  exact h (fun x2 x3 => P 4 [.ref 0, .int x1, .int x2, .int x3] σ) (fun x2 x3 hb => hP 4 [.ref 0, .int x1, .int x2, .int x3] σ hb)
def wp_X10_is (x1 : Int32) (σ : Sg) (Q : Int32 → Prop) : Prop :=
  (¬ (2 : Int32) = 0 ∧ (vp_in (x1 / (2 : Int32)) 80 ∧ (¬ (2 : Int32) = 0 ∧ (((x1 - x1 / (2 : Int32) * (2 : Int32)) = (1 : Int32) → (((gI σ 5 ((x1 / (2 : Int32))).toNatClampNeg) = (1 : Int32) → (nz (0 : Int32) ∧ Q (0 : Int32))) ∧ (¬ (gI σ 5 ((x1 / (2 : Int32))).toNatClampNeg) = (1 : Int32) → (nz (1 : Int32) ∧ Q (1 : Int32))))) ∧ (¬ (x1 - x1 / (2 : Int32) * (2 : Int32)) = (1 : Int32) → (((gI σ 5 ((x1 / (2 : Int32))).toNatClampNeg) = (0 : Int32) → (nz (0 : Int32) ∧ Q (0 : Int32))) ∧ (¬ (gI σ 5 ((x1 / (2 : Int32))).toNatClampNeg) = (0 : Int32) → (nz (1 : Int32) ∧ Q (1 : Int32)))))))))
def wl_X10_is : WP := fun As σ Q => p1r As (fun z0 r0 => onB (Nat.beq z0 0) (p1i r0 (fun x1 r1 => onB r1.isEmpty (wp_X10_is x1 σ (fun x => Q (some (.int x)) σ)))))
def tb_X10_is : List (Nat × Instr × Nat) := [(0, (.aload_n 0, 1)), (1, (.getfield 22, 3)), (4, (.iload_n 1, 1)), (5, (.iconst 2, 1)), (6, (.idiv, 1)), (7, (.baload, 1)), (8, (.iload_n 1, 1)), (9, (.iconst 2, 1)), (10, (.irem, 1)), (11, (.iconst 1, 1)), (12, (.if_icmp .ne 19, 3)), (15, (.iconst 1, 1)), (16, (.goto 20, 3)), (19, (.iconst 0, 1)), (20, (.if_icmp .eq 27, 3)), (23, (.iconst 1, 1)), (24, (.goto 28, 3)), (27, (.iconst 0, 1)), (28, (.ireturn, 1))]
def ce_X10_is : List (Nat × (Nat × Option Nat × WP)) := []
set_option maxRecDepth 100000 in
set_option maxHeartbeats 4000000 in
theorem ct_X10_is (l : Launch) : Con l wM yX10_is cX10_is 2 (some .boolean) 0 wl_X10_is := by
  refine sxm_ok l (ft := lkp ft_RX10) (c32 := lkp c32_RX10) (c64 := lkp c64_RX10) (ce := lkp ce_X10_is) (sf := lkp sf_RX10) (lab := lkp []) (T := tb_X10_is) (by decide +kernel) ft_RX10_ok c32_RX10_ok c64_RX10_ok (fun x q h => (show ∀ q ∈ ce_X10_is, ceOK l wM RX10 0 q.1 q.2.1 q.2.2.1 q.2.2.2 from fun _ h => absurd h List.not_mem_nil) (x, q) (lkp_mem h)) sf_RX10_ok (by decide +kernel) 400 (fun As σ Q h => ?_)
  replace h := p1r_e h
  obtain ⟨z0, q0, rfl, h⟩ := h
  replace h := onB_e h
  obtain ⟨e0, h⟩ := h
  have e0 := Nat.eq_of_beq_eq_true e0
  subst e0
  replace h := p1i_e h
  obtain ⟨x1, q1, rfl, h⟩ := h
  replace h := onB_e h
  obtain ⟨e9, h⟩ := h
  have e9 := List.isEmpty_iff.mp e9
  subst e9
  refine ⟨Nat.le_of_ble_eq_true rfl, fun P hP => ?_⟩
  exact h 
def wp_X10_start  (σ : Sg) (Q : Int32 → Sg → Prop) : Prop :=
  Q (gI (sI σ 0 19 (gI σ 0 8)) 0 19) (sI σ 0 19 (gI σ 0 8))
def wl_X10_start : WP := fun As σ Q => p1r As (fun z0 r0 => onB (Nat.beq z0 0) (onB r0.isEmpty (wp_X10_start  σ (fun x τ => Q (some (.int x)) τ))))
def tb_X10_start : List (Nat × Instr × Nat) := [(0, (.aload_n 0, 1)), (1, (.aload_n 0, 1)), (2, (.getfield 122, 3)), (5, (.putfield 179, 3)), (8, (.aload_n 0, 1)), (9, (.getfield 179, 3)), (12, (.ireturn, 1))]
def ce_X10_start : List (Nat × (Nat × Option Nat × WP)) := []
set_option maxRecDepth 100000 in
set_option maxHeartbeats 4000000 in
theorem ct_X10_start (l : Launch) : Con l wM yX10_start cX10_start 1 (some .int) 0 wl_X10_start := by
  refine sxm_ok l (ft := lkp ft_RX10) (c32 := lkp c32_RX10) (c64 := lkp c64_RX10) (ce := lkp ce_X10_start) (sf := lkp sf_RX10) (lab := lkp []) (T := tb_X10_start) (by decide +kernel) ft_RX10_ok c32_RX10_ok c64_RX10_ok (fun x q h => (show ∀ q ∈ ce_X10_start, ceOK l wM RX10 0 q.1 q.2.1 q.2.2.1 q.2.2.2 from fun _ h => absurd h List.not_mem_nil) (x, q) (lkp_mem h)) sf_RX10_ok (by decide +kernel) 400 (fun As σ Q h => ?_)
  replace h := p1r_e h
  obtain ⟨z0, q0, rfl, h⟩ := h
  replace h := onB_e h
  obtain ⟨e0, h⟩ := h
  have e0 := Nat.eq_of_beq_eq_true e0
  subst e0
  replace h := onB_e h
  obtain ⟨e9, h⟩ := h
  have e9 := List.isEmpty_iff.mp e9
  subst e9
  refine ⟨Nat.le_of_ble_eq_true rfl, fun P hP => ?_⟩
  exact h 
def wp_X10_changes  (σ : Sg) (Q : Sg → Prop) : Prop :=
  ∀ L7 : Int32 → Sg → Prop,
  (∀ (x1 : Int32) (τ : Sg), (((24 : Int32) < x1 → Q (sI (sI (sI (sI (sI (sI (sI (sI τ 0 23 (0 : Int32)) 0 24 (0 : Int32)) 0 25 (0 : Int32)) 0 26 (0 : Int32)) 0 31 (-1 : Int32)) 0 33 (0 : Int32)) 0 39 (0 : Int32)) 0 19 (gI (sI (sI (sI (sI (sI (sI (sI τ 0 23 (0 : Int32)) 0 24 (0 : Int32)) 0 25 (0 : Int32)) 0 26 (0 : Int32)) 0 31 (-1 : Int32)) 0 33 (0 : Int32)) 0 39 (0 : Int32)) 0 8))) ∧ (¬ (24 : Int32) < x1 → (vp_in x1 25 ∧ L7 (x1 + (1 : Int32)) (sI τ 14 (x1).toNatClampNeg (0 : Int32))))) → L7 x1 τ) →
  (nz (0 : Int32) ∧ L7 (0 : Int32) (sI σ 0 18 (0 : Int32)))
def wl_X10_changes : WP := fun As σ Q => p1r As (fun z0 r0 => onB (Nat.beq z0 0) (onB r0.isEmpty (wp_X10_changes  σ (fun τ => Q none τ))))
def tb_X10_changes : List (Nat × Instr × Nat) := [(0, (.aload_n 0, 1)), (1, (.iconst 0, 1)), (2, (.putfield 157, 3)), (5, (.iconst 0, 1)), (6, (.istore_n 1, 1)), (7, (.iload_n 1, 1)), (8, (.bipush 24, 2)), (10, (.if_icmp .gt 26, 3)), (13, (.aload_n 0, 1)), (14, (.getfield 54, 3)), (17, (.iload_n 1, 1)), (18, (.iconst 0, 1)), (19, (.iastore, 1)), (20, (.iinc 1 1, 3)), (23, (.goto 7, 3)), (26, (.aload_n 0, 1)), (27, (.iconst 0, 1)), (28, (.putfield 188, 3)), (31, (.aload_n 0, 1)), (32, (.iconst 0, 1)), (33, (.putfield 191, 3)), (36, (.aload_n 0, 1)), (37, (.iconst 0, 1)), (38, (.putfield 148, 3)), (41, (.aload_n 0, 1)), (42, (.iconst 0, 1)), (43, (.putfield 194, 3)), (46, (.aload_n 0, 1)), (47, (.iconst (-1), 1)), (48, (.putfield 69, 3)), (51, (.aload_n 0, 1)), (52, (.iconst 0, 1)), (53, (.putfield 197, 3)), (56, (.aload_n 0, 1)), (57, (.iconst 0, 1)), (58, (.putfield 151, 3)), (61, (.aload_n 0, 1)), (62, (.aload_n 0, 1)), (63, (.getfield 122, 3)), (66, (.putfield 179, 3)), (69, (.return_, 1))]
def ce_X10_changes : List (Nat × (Nat × Option Nat × WP)) := []
set_option maxRecDepth 100000 in
set_option maxHeartbeats 4000000 in
theorem ct_X10_changes (l : Launch) : Con l wM yX10_changes cX10_changes 2 none 0 wl_X10_changes := by
  refine sxm_ok l (ft := lkp ft_RX10) (c32 := lkp c32_RX10) (c64 := lkp c64_RX10) (ce := lkp ce_X10_changes) (sf := lkp sf_RX10) (lab := lkp [(7, [0, 1])]) (T := tb_X10_changes) (by decide +kernel) ft_RX10_ok c32_RX10_ok c64_RX10_ok (fun x q h => (show ∀ q ∈ ce_X10_changes, ceOK l wM RX10 0 q.1 q.2.1 q.2.2.1 q.2.2.2 from fun _ h => absurd h List.not_mem_nil) (x, q) (lkp_mem h)) sf_RX10_ok (by decide +kernel) 400 (fun As σ Q h => ?_)
  replace h := p1r_e h
  obtain ⟨z0, q0, rfl, h⟩ := h
  replace h := onB_e h
  obtain ⟨e0, h⟩ := h
  have e0 := Nat.eq_of_beq_eq_true e0
  subst e0
  replace h := onB_e h
  obtain ⟨e9, h⟩ := h
  have e9 := List.isEmpty_iff.mp e9
  subst e9
  refine ⟨Nat.le_of_ble_eq_true rfl, fun P hP => ?_⟩
  exact h (fun x1 τ => P 7 [.ref 0, .int x1] τ) (fun x1 τ hb => hP 7 [.ref 0, .int x1] τ hb)
def wp_X10_isInCube (x0 : Int32) (x1 : Int32) (x2 : Int32) (σ : Sg) (Q : Int32 → Prop) : Prop :=
  (((x0 &&& x1) = x2 → (nz (1 : Int32) ∧ Q (1 : Int32))) ∧ (¬ (x0 &&& x1) = x2 → (nz (0 : Int32) ∧ Q (0 : Int32))))
def wl_X10_isInCube : WP := fun As σ Q => p1i As (fun x0 r0 => p1i r0 (fun x1 r1 => p1i r1 (fun x2 r2 => onB r2.isEmpty (wp_X10_isInCube x0 x1 x2 σ (fun x => Q (some (.int x)) σ)))))
def tb_X10_isInCube : List (Nat × Instr × Nat) := [(0, (.iload_n 0, 1)), (1, (.iload_n 1, 1)), (2, (.iand, 1)), (3, (.iload_n 2, 1)), (4, (.if_icmp .ne 11, 3)), (7, (.iconst 1, 1)), (8, (.goto 12, 3)), (11, (.iconst 0, 1)), (12, (.ireturn, 1))]
def ce_X10_isInCube : List (Nat × (Nat × Option Nat × WP)) := []
set_option maxRecDepth 100000 in
set_option maxHeartbeats 4000000 in
theorem ct_X10_isInCube (l : Launch) : Con l wM yX10_isInCube cX10_isInCube 3 (some .boolean) 0 wl_X10_isInCube := by
  refine sxm_ok l (ft := lkp ft_RX10) (c32 := lkp c32_RX10) (c64 := lkp c64_RX10) (ce := lkp ce_X10_isInCube) (sf := lkp sf_RX10) (lab := lkp []) (T := tb_X10_isInCube) (by decide +kernel) ft_RX10_ok c32_RX10_ok c64_RX10_ok (fun x q h => (show ∀ q ∈ ce_X10_isInCube, ceOK l wM RX10 0 q.1 q.2.1 q.2.2.1 q.2.2.2 from fun _ h => absurd h List.not_mem_nil) (x, q) (lkp_mem h)) sf_RX10_ok (by decide +kernel) 400 (fun As σ Q h => ?_)
  replace h := p1i_e h
  obtain ⟨x0, q0, rfl, h⟩ := h
  replace h := p1i_e h
  obtain ⟨x1, q1, rfl, h⟩ := h
  replace h := p1i_e h
  obtain ⟨x2, q2, rfl, h⟩ := h
  replace h := onB_e h
  obtain ⟨e9, h⟩ := h
  have e9 := List.isEmpty_iff.mp e9
  subst e9
  refine ⟨Nat.le_of_ble_eq_true rfl, fun P hP => ?_⟩
  exact h 
def wp_X10_keep (x1 : Int32) (x2 : Int32) (x3 : Int32) (σ : Sg) (Q : Sg → Prop) : Prop :=
  (vp_in x1 25 ∧ (vp_in (((200 : Int32) * x1) + (gI σ 14 (x1).toNatClampNeg)) 5000 ∧ (vp_in (((200 : Int32) * x1) + (gI σ 14 (x1).toNatClampNeg)) 5000 ∧ (vp_in x1 25 ∧ (vp_in x1 25 ∧ Q (sI (sI (sI σ 12 ((((200 : Int32) * x1) + (gI σ 14 (x1).toNatClampNeg))).toNatClampNeg x2) 13 ((((200 : Int32) * x1) + (gI σ 14 (x1).toNatClampNeg))).toNatClampNeg x3) 14 (x1).toNatClampNeg ((gI (sI (sI σ 12 ((((200 : Int32) * x1) + (gI σ 14 (x1).toNatClampNeg))).toNatClampNeg x2) 13 ((((200 : Int32) * x1) + (gI σ 14 (x1).toNatClampNeg))).toNatClampNeg x3) 14 (x1).toNatClampNeg) + (1 : Int32))))))))
def wl_X10_keep : WP := fun As σ Q => p1r As (fun z0 r0 => onB (Nat.beq z0 0) (p1i r0 (fun x1 r1 => p1i r1 (fun x2 r2 => p1i r2 (fun x3 r3 => onB r3.isEmpty (wp_X10_keep x1 x2 x3 σ (fun τ => Q none τ)))))))
def tb_X10_keep : List (Nat × Instr × Nat) := [(0, (.sipush 200, 3)), (3, (.iload_n 1, 1)), (4, (.imul, 1)), (5, (.aload_n 0, 1)), (6, (.getfield 54, 3)), (9, (.iload_n 1, 1)), (10, (.iaload, 1)), (11, (.iadd, 1)), (12, (.istore 4, 2)), (14, (.aload_n 0, 1)), (15, (.getfield 48, 3)), (18, (.iload 4, 2)), (20, (.iload_n 2, 1)), (21, (.iastore, 1)), (22, (.aload_n 0, 1)), (23, (.getfield 51, 3)), (26, (.iload 4, 2)), (28, (.iload_n 3, 1)), (29, (.iastore, 1)), (30, (.aload_n 0, 1)), (31, (.getfield 54, 3)), (34, (.iload_n 1, 1)), (35, (.dup2, 1)), (36, (.iaload, 1)), (37, (.iconst 1, 1)), (38, (.iadd, 1)), (39, (.iastore, 1)), (40, (.return_, 1))]
def ce_X10_keep : List (Nat × (Nat × Option Nat × WP)) := []
set_option maxRecDepth 100000 in
set_option maxHeartbeats 4000000 in
theorem ct_X10_keep (l : Launch) : Con l wM yX10_keep cX10_keep 5 none 0 wl_X10_keep := by
  refine sxm_ok l (ft := lkp ft_RX10) (c32 := lkp c32_RX10) (c64 := lkp c64_RX10) (ce := lkp ce_X10_keep) (sf := lkp sf_RX10) (lab := lkp []) (T := tb_X10_keep) (by decide +kernel) ft_RX10_ok c32_RX10_ok c64_RX10_ok (fun x q h => (show ∀ q ∈ ce_X10_keep, ceOK l wM RX10 0 q.1 q.2.1 q.2.2.1 q.2.2.2 from fun _ h => absurd h List.not_mem_nil) (x, q) (lkp_mem h)) sf_RX10_ok (by decide +kernel) 400 (fun As σ Q h => ?_)
  replace h := p1r_e h
  obtain ⟨z0, q0, rfl, h⟩ := h
  replace h := onB_e h
  obtain ⟨e0, h⟩ := h
  have e0 := Nat.eq_of_beq_eq_true e0
  subst e0
  replace h := p1i_e h
  obtain ⟨x1, q1, rfl, h⟩ := h
  replace h := p1i_e h
  obtain ⟨x2, q2, rfl, h⟩ := h
  replace h := p1i_e h
  obtain ⟨x3, q3, rfl, h⟩ := h
  replace h := onB_e h
  obtain ⟨e9, h⟩ := h
  have e9 := List.isEmpty_iff.mp e9
  subst e9
  refine ⟨Nat.le_of_ble_eq_true rfl, fun P hP => ?_⟩
  exact h 
def wp_X10_meet (x1 : Int32) (x2 : Int32) (σ : Sg) (Q : Sg → Prop) : Prop :=
  (vp_in (gI σ 0 26) 40 ∧ (vp_in (gI (sI σ 15 ((gI σ 0 26)).toNatClampNeg x1) 0 26) 40 ∧ Q (sI (sI (sI σ 15 ((gI σ 0 26)).toNatClampNeg x1) 16 ((gI (sI σ 15 ((gI σ 0 26)).toNatClampNeg x1) 0 26)).toNatClampNeg x2) 0 26 ((gI (sI (sI σ 15 ((gI σ 0 26)).toNatClampNeg x1) 16 ((gI (sI σ 15 ((gI σ 0 26)).toNatClampNeg x1) 0 26)).toNatClampNeg x2) 0 26) + (1 : Int32)))))
def wl_X10_meet : WP := fun As σ Q => p1r As (fun z0 r0 => onB (Nat.beq z0 0) (p1i r0 (fun x1 r1 => p1i r1 (fun x2 r2 => onB r2.isEmpty (wp_X10_meet x1 x2 σ (fun τ => Q none τ))))))
def tb_X10_meet : List (Nat × Instr × Nat) := [(0, (.aload_n 0, 1)), (1, (.getfield 57, 3)), (4, (.aload_n 0, 1)), (5, (.getfield 194, 3)), (8, (.iload_n 1, 1)), (9, (.iastore, 1)), (10, (.aload_n 0, 1)), (11, (.getfield 60, 3)), (14, (.aload_n 0, 1)), (15, (.getfield 194, 3)), (18, (.iload_n 2, 1)), (19, (.iastore, 1)), (20, (.aload_n 0, 1)), (21, (.dup, 1)), (22, (.getfield 194, 3)), (25, (.iconst 1, 1)), (26, (.iadd, 1)), (27, (.putfield 194, 3)), (30, (.return_, 1))]
def ce_X10_meet : List (Nat × (Nat × Option Nat × WP)) := []
set_option maxRecDepth 100000 in
set_option maxHeartbeats 4000000 in
theorem ct_X10_meet (l : Launch) : Con l wM yX10_meet cX10_meet 3 none 0 wl_X10_meet := by
  refine sxm_ok l (ft := lkp ft_RX10) (c32 := lkp c32_RX10) (c64 := lkp c64_RX10) (ce := lkp ce_X10_meet) (sf := lkp sf_RX10) (lab := lkp []) (T := tb_X10_meet) (by decide +kernel) ft_RX10_ok c32_RX10_ok c64_RX10_ok (fun x q h => (show ∀ q ∈ ce_X10_meet, ceOK l wM RX10 0 q.1 q.2.1 q.2.2.1 q.2.2.2 from fun _ h => absurd h List.not_mem_nil) (x, q) (lkp_mem h)) sf_RX10_ok (by decide +kernel) 400 (fun As σ Q h => ?_)
  replace h := p1r_e h
  obtain ⟨z0, q0, rfl, h⟩ := h
  replace h := onB_e h
  obtain ⟨e0, h⟩ := h
  have e0 := Nat.eq_of_beq_eq_true e0
  subst e0
  replace h := p1i_e h
  obtain ⟨x1, q1, rfl, h⟩ := h
  replace h := p1i_e h
  obtain ⟨x2, q2, rfl, h⟩ := h
  replace h := onB_e h
  obtain ⟨e9, h⟩ := h
  have e9 := List.isEmpty_iff.mp e9
  subst e9
  refine ⟨Nat.le_of_ble_eq_true rfl, fun P hP => ?_⟩
  exact h 
def wp_X10_tellWay  (σ : Sg) (Q : Sg → Prop) : Prop :=
  ∀ L10 : Int32 → Sg → Prop,
  (∀ (x1 : Int32) (τ : Sg), ((x1 < (gI τ 0 26) → (vp_in (((gI τ 0 26) - (1 : Int32)) - x1) 40 ∧ (vp_in x1 40 ∧ L10 (x1 + (1 : Int32)) (sI τ 19 (x1).toNatClampNeg (gI τ 15 ((((gI τ 0 26) - (1 : Int32)) - x1)).toNatClampNeg))))) ∧ (¬ x1 < (gI τ 0 26) → Q (sI τ 0 24 (2 : Int32)))) → L10 x1 τ) →
  L10 (0 : Int32) (sI σ 0 33 (gI σ 0 26))
def wl_X10_tellWay : WP := fun As σ Q => p1r As (fun z0 r0 => onB (Nat.beq z0 0) (onB r0.isEmpty (wp_X10_tellWay  σ (fun τ => Q none τ))))
def tb_X10_tellWay : List (Nat × Instr × Nat) := [(0, (.aload_n 0, 1)), (1, (.aload_n 0, 1)), (2, (.getfield 194, 3)), (5, (.putfield 197, 3)), (8, (.iconst 0, 1)), (9, (.istore_n 1, 1)), (10, (.iload_n 1, 1)), (11, (.aload_n 0, 1)), (12, (.getfield 194, 3)), (15, (.if_icmp .ge 43, 3)), (18, (.aload_n 0, 1)), (19, (.getfield 72, 3)), (22, (.iload_n 1, 1)), (23, (.aload_n 0, 1)), (24, (.getfield 57, 3)), (27, (.aload_n 0, 1)), (28, (.getfield 194, 3)), (31, (.iconst 1, 1)), (32, (.isub, 1)), (33, (.iload_n 1, 1)), (34, (.isub, 1)), (35, (.iaload, 1)), (36, (.iastore, 1)), (37, (.iinc 1 1, 3)), (40, (.goto 10, 3)), (43, (.aload_n 0, 1)), (44, (.iconst 2, 1)), (45, (.putfield 191, 3)), (48, (.return_, 1))]
def ce_X10_tellWay : List (Nat × (Nat × Option Nat × WP)) := []
set_option maxRecDepth 100000 in
set_option maxHeartbeats 4000000 in
theorem ct_X10_tellWay (l : Launch) : Con l wM yX10_tellWay cX10_tellWay 2 none 0 wl_X10_tellWay := by
  refine sxm_ok l (ft := lkp ft_RX10) (c32 := lkp c32_RX10) (c64 := lkp c64_RX10) (ce := lkp ce_X10_tellWay) (sf := lkp sf_RX10) (lab := lkp [(10, [0, 1])]) (T := tb_X10_tellWay) (by decide +kernel) ft_RX10_ok c32_RX10_ok c64_RX10_ok (fun x q h => (show ∀ q ∈ ce_X10_tellWay, ceOK l wM RX10 0 q.1 q.2.1 q.2.2.1 q.2.2.2 from fun _ h => absurd h List.not_mem_nil) (x, q) (lkp_mem h)) sf_RX10_ok (by decide +kernel) 400 (fun As σ Q h => ?_)
  replace h := p1r_e h
  obtain ⟨z0, q0, rfl, h⟩ := h
  replace h := onB_e h
  obtain ⟨e0, h⟩ := h
  have e0 := Nat.eq_of_beq_eq_true e0
  subst e0
  replace h := onB_e h
  obtain ⟨e9, h⟩ := h
  have e9 := List.isEmpty_iff.mp e9
  subst e9
  refine ⟨Nat.le_of_ble_eq_true rfl, fun P hP => ?_⟩
  exact h (fun x1 τ => P 10 [.ref 0, .int x1] τ) (fun x1 τ hb => hP 10 [.ref 0, .int x1] τ hb)
def wp_X10_has (x1 : Int32) (x2 : Int32) (x3 : Int32) (σ : Sg) (Q : Int32 → Prop) : Prop :=
  ∀ L6 : Int32 → Int32 → Prop,
  (∀ (x4 : Int32) (x5 : Int32), (vp_in x1 25 ∧ ((x5 < (gI σ 14 (x1).toNatClampNeg) → ((x4 = 0 → (vp_in (((200 : Int32) * x1) + x5) 5000 ∧ (((gI σ 12 ((((200 : Int32) * x1) + x5)).toNatClampNeg) = x2 → (vp_in (((200 : Int32) * x1) + x5) 5000 ∧ (((gI σ 13 ((((200 : Int32) * x1) + x5)).toNatClampNeg) = x3 → L6 (1 : Int32) (x5 + (1 : Int32))) ∧ (¬ (gI σ 13 ((((200 : Int32) * x1) + x5)).toNatClampNeg) = x3 → L6 (0 : Int32) (x5 + (1 : Int32)))))) ∧ (¬ (gI σ 12 ((((200 : Int32) * x1) + x5)).toNatClampNeg) = x2 → L6 (0 : Int32) (x5 + (1 : Int32)))))) ∧ (¬ x4 = 0 → L6 (1 : Int32) (x5 + (1 : Int32))))) ∧ (¬ x5 < (gI σ 14 (x1).toNatClampNeg) → (nz x4 ∧ Q x4)))) → L6 x4 x5) →
  L6 (0 : Int32) (0 : Int32)
def wl_X10_has : WP := fun As σ Q => p1r As (fun z0 r0 => onB (Nat.beq z0 0) (p1i r0 (fun x1 r1 => p1i r1 (fun x2 r2 => p1i r2 (fun x3 r3 => onB r3.isEmpty (wp_X10_has x1 x2 x3 σ (fun x => Q (some (.int x)) σ)))))))
def tb_X10_has : List (Nat × Instr × Nat) := [(0, (.iconst 0, 1)), (1, (.istore 4, 2)), (3, (.iconst 0, 1)), (4, (.istore 5, 2)), (6, (.iload 5, 2)), (8, (.aload_n 0, 1)), (9, (.getfield 54, 3)), (12, (.iload_n 1, 1)), (13, (.iaload, 1)), (14, (.if_icmp .ge 69, 3)), (17, (.iload 4, 2)), (19, (.ifCond .ne 56, 3)), (22, (.aload_n 0, 1)), (23, (.getfield 48, 3)), (26, (.sipush 200, 3)), (29, (.iload_n 1, 1)), (30, (.imul, 1)), (31, (.iload 5, 2)), (33, (.iadd, 1)), (34, (.iaload, 1)), (35, (.iload_n 2, 1)), (36, (.if_icmp .ne 60, 3)), (39, (.aload_n 0, 1)), (40, (.getfield 51, 3)), (43, (.sipush 200, 3)), (46, (.iload_n 1, 1)), (47, (.imul, 1)), (48, (.iload 5, 2)), (50, (.iadd, 1)), (51, (.iaload, 1)), (52, (.iload_n 3, 1)), (53, (.if_icmp .ne 60, 3)), (56, (.iconst 1, 1)), (57, (.goto 61, 3)), (60, (.iconst 0, 1)), (61, (.istore 4, 2)), (63, (.iinc 5 1, 3)), (66, (.goto 6, 3)), (69, (.iload 4, 2)), (71, (.ireturn, 1))]
def ce_X10_has : List (Nat × (Nat × Option Nat × WP)) := []
set_option maxRecDepth 100000 in
set_option maxHeartbeats 4000000 in
theorem ct_X10_has (l : Launch) : Con l wM yX10_has cX10_has 6 (some .boolean) 0 wl_X10_has := by
  refine sxm_ok l (ft := lkp ft_RX10) (c32 := lkp c32_RX10) (c64 := lkp c64_RX10) (ce := lkp ce_X10_has) (sf := lkp sf_RX10) (lab := lkp [(6, [0, 1, 2, 3, 4, 5])]) (T := tb_X10_has) (by decide +kernel) ft_RX10_ok c32_RX10_ok c64_RX10_ok (fun x q h => (show ∀ q ∈ ce_X10_has, ceOK l wM RX10 0 q.1 q.2.1 q.2.2.1 q.2.2.2 from fun _ h => absurd h List.not_mem_nil) (x, q) (lkp_mem h)) sf_RX10_ok (by decide +kernel) 400 (fun As σ Q h => ?_)
  replace h := p1r_e h
  obtain ⟨z0, q0, rfl, h⟩ := h
  replace h := onB_e h
  obtain ⟨e0, h⟩ := h
  have e0 := Nat.eq_of_beq_eq_true e0
  subst e0
  replace h := p1i_e h
  obtain ⟨x1, q1, rfl, h⟩ := h
  replace h := p1i_e h
  obtain ⟨x2, q2, rfl, h⟩ := h
  replace h := p1i_e h
  obtain ⟨x3, q3, rfl, h⟩ := h
  replace h := onB_e h
  obtain ⟨e9, h⟩ := h
  have e9 := List.isEmpty_iff.mp e9
  subst e9
  refine ⟨Nat.le_of_ble_eq_true rfl, fun P hP => ?_⟩
  exact h (fun x4 x5 => P 6 [.ref 0, .int x1, .int x2, .int x3, .int x4, .int x5] σ) (fun x4 x5 hb => hP 6 [.ref 0, .int x1, .int x2, .int x3, .int x4, .int x5] σ hb)
def wp_X10_frames  (σ : Sg) (Q : Int32 → Prop) : Prop :=
  Q (gI σ 0 23)
def wl_X10_frames : WP := fun As σ Q => p1r As (fun z0 r0 => onB (Nat.beq z0 0) (onB r0.isEmpty (wp_X10_frames  σ (fun x => Q (some (.int x)) σ))))
def tb_X10_frames : List (Nat × Instr × Nat) := [(0, (.aload_n 0, 1)), (1, (.getfield 188, 3)), (4, (.ireturn, 1))]
def ce_X10_frames : List (Nat × (Nat × Option Nat × WP)) := []
set_option maxRecDepth 100000 in
set_option maxHeartbeats 4000000 in
theorem ct_X10_frames (l : Launch) : Con l wM yX10_frames cX10_frames 1 (some .int) 0 wl_X10_frames := by
  refine sxm_ok l (ft := lkp ft_RX10) (c32 := lkp c32_RX10) (c64 := lkp c64_RX10) (ce := lkp ce_X10_frames) (sf := lkp sf_RX10) (lab := lkp []) (T := tb_X10_frames) (by decide +kernel) ft_RX10_ok c32_RX10_ok c64_RX10_ok (fun x q h => (show ∀ q ∈ ce_X10_frames, ceOK l wM RX10 0 q.1 q.2.1 q.2.2.1 q.2.2.2 from fun _ h => absurd h List.not_mem_nil) (x, q) (lkp_mem h)) sf_RX10_ok (by decide +kernel) 400 (fun As σ Q h => ?_)
  replace h := p1r_e h
  obtain ⟨z0, q0, rfl, h⟩ := h
  replace h := onB_e h
  obtain ⟨e0, h⟩ := h
  have e0 := Nat.eq_of_beq_eq_true e0
  subst e0
  replace h := onB_e h
  obtain ⟨e9, h⟩ := h
  have e9 := List.isEmpty_iff.mp e9
  subst e9
  refine ⟨Nat.le_of_ble_eq_true rfl, fun P hP => ?_⟩
  exact h 
def wp_X10_isFrame (x0 : Int32) (σ : Sg) (Q : Int32 → Prop) : Prop :=
  ((x0 < (1 : Int32) → (nz (0 : Int32) ∧ Q (0 : Int32))) ∧ (¬ x0 < (1 : Int32) → (((24 : Int32) < x0 → (nz (0 : Int32) ∧ Q (0 : Int32))) ∧ (¬ (24 : Int32) < x0 → (nz (1 : Int32) ∧ Q (1 : Int32))))))
def wl_X10_isFrame : WP := fun As σ Q => p1i As (fun x0 r0 => onB r0.isEmpty (wp_X10_isFrame x0 σ (fun x => Q (some (.int x)) σ)))
def tb_X10_isFrame : List (Nat × Instr × Nat) := [(0, (.iload_n 0, 1)), (1, (.iconst 1, 1)), (2, (.if_icmp .lt 15, 3)), (5, (.iload_n 0, 1)), (6, (.bipush 24, 2)), (8, (.if_icmp .gt 15, 3)), (11, (.iconst 1, 1)), (12, (.goto 16, 3)), (15, (.iconst 0, 1)), (16, (.ireturn, 1))]
def ce_X10_isFrame : List (Nat × (Nat × Option Nat × WP)) := []
set_option maxRecDepth 100000 in
set_option maxHeartbeats 4000000 in
theorem ct_X10_isFrame (l : Launch) : Con l wM yX10_isFrame cX10_isFrame 1 (some .boolean) 0 wl_X10_isFrame := by
  refine sxm_ok l (ft := lkp ft_RX10) (c32 := lkp c32_RX10) (c64 := lkp c64_RX10) (ce := lkp ce_X10_isFrame) (sf := lkp sf_RX10) (lab := lkp []) (T := tb_X10_isFrame) (by decide +kernel) ft_RX10_ok c32_RX10_ok c64_RX10_ok (fun x q h => (show ∀ q ∈ ce_X10_isFrame, ceOK l wM RX10 0 q.1 q.2.1 q.2.2.1 q.2.2.2 from fun _ h => absurd h List.not_mem_nil) (x, q) (lkp_mem h)) sf_RX10_ok (by decide +kernel) 400 (fun As σ Q h => ?_)
  replace h := p1i_e h
  obtain ⟨x0, q0, rfl, h⟩ := h
  replace h := onB_e h
  obtain ⟨e9, h⟩ := h
  have e9 := List.isEmpty_iff.mp e9
  subst e9
  refine ⟨Nat.le_of_ble_eq_true rfl, fun P hP => ?_⟩
  exact h 
def wp_X10_clear  (σ : Sg) (Q : Int32 → Sg → Prop) : Prop :=
  Q (gI σ 0 39) (sI σ 0 39 (0 : Int32))
def wl_X10_clear : WP := fun As σ Q => p1r As (fun z0 r0 => onB (Nat.beq z0 0) (onB r0.isEmpty (wp_X10_clear  σ (fun x τ => Q (some (.int x)) τ))))
def tb_X10_clear : List (Nat × Instr × Nat) := [(0, (.aload_n 0, 1)), (1, (.getfield 151, 3)), (4, (.istore_n 1, 1)), (5, (.aload_n 0, 1)), (6, (.iconst 0, 1)), (7, (.putfield 151, 3)), (10, (.iload_n 1, 1)), (11, (.ireturn, 1))]
def ce_X10_clear : List (Nat × (Nat × Option Nat × WP)) := []
set_option maxRecDepth 100000 in
set_option maxHeartbeats 4000000 in
theorem ct_X10_clear (l : Launch) : Con l wM yX10_clear cX10_clear 2 (some .int) 0 wl_X10_clear := by
  refine sxm_ok l (ft := lkp ft_RX10) (c32 := lkp c32_RX10) (c64 := lkp c64_RX10) (ce := lkp ce_X10_clear) (sf := lkp sf_RX10) (lab := lkp []) (T := tb_X10_clear) (by decide +kernel) ft_RX10_ok c32_RX10_ok c64_RX10_ok (fun x q h => (show ∀ q ∈ ce_X10_clear, ceOK l wM RX10 0 q.1 q.2.1 q.2.2.1 q.2.2.2 from fun _ h => absurd h List.not_mem_nil) (x, q) (lkp_mem h)) sf_RX10_ok (by decide +kernel) 400 (fun As σ Q h => ?_)
  replace h := p1r_e h
  obtain ⟨z0, q0, rfl, h⟩ := h
  replace h := onB_e h
  obtain ⟨e0, h⟩ := h
  have e0 := Nat.eq_of_beq_eq_true e0
  subst e0
  replace h := onB_e h
  obtain ⟨e9, h⟩ := h
  have e9 := List.isEmpty_iff.mp e9
  subst e9
  refine ⟨Nat.le_of_ble_eq_true rfl, fun P hP => ?_⟩
  exact h 
def wp_X10_tear  (σ : Sg) (Q : Int32 → Sg → Prop) : Prop :=
  (((gI σ 0 46) < 0 → Q (0 : Int32) (sI σ 0 46 (-1 : Int32))) ∧ (¬ (gI σ 0 46) < 0 → Q (1 : Int32) (sI σ 0 46 (-1 : Int32))))
def wl_X10_tear : WP := fun As σ Q => p1r As (fun z0 r0 => onB (Nat.beq z0 0) (onB r0.isEmpty (wp_X10_tear  σ (fun x τ => Q (some (.int x)) τ))))
def tb_X10_tear : List (Nat × Instr × Nat) := [(0, (.aload_n 0, 1)), (1, (.getfield 103, 3)), (4, (.ifCond .lt 11, 3)), (7, (.iconst 1, 1)), (8, (.goto 12, 3)), (11, (.iconst 0, 1)), (12, (.istore_n 1, 1)), (13, (.aload_n 0, 1)), (14, (.iconst (-1), 1)), (15, (.putfield 103, 3)), (18, (.iload_n 1, 1)), (19, (.ireturn, 1))]
def ce_X10_tear : List (Nat × (Nat × Option Nat × WP)) := []
set_option maxRecDepth 100000 in
set_option maxHeartbeats 4000000 in
theorem ct_X10_tear (l : Launch) : Con l wM yX10_tear cX10_tear 2 (some .int) 0 wl_X10_tear := by
  refine sxm_ok l (ft := lkp ft_RX10) (c32 := lkp c32_RX10) (c64 := lkp c64_RX10) (ce := lkp ce_X10_tear) (sf := lkp sf_RX10) (lab := lkp []) (T := tb_X10_tear) (by decide +kernel) ft_RX10_ok c32_RX10_ok c64_RX10_ok (fun x q h => (show ∀ q ∈ ce_X10_tear, ceOK l wM RX10 0 q.1 q.2.1 q.2.2.1 q.2.2.2 from fun _ h => absurd h List.not_mem_nil) (x, q) (lkp_mem h)) sf_RX10_ok (by decide +kernel) 400 (fun As σ Q h => ?_)
  replace h := p1r_e h
  obtain ⟨z0, q0, rfl, h⟩ := h
  replace h := onB_e h
  obtain ⟨e0, h⟩ := h
  have e0 := Nat.eq_of_beq_eq_true e0
  subst e0
  replace h := onB_e h
  obtain ⟨e9, h⟩ := h
  have e9 := List.isEmpty_iff.mp e9
  subst e9
  refine ⟨Nat.le_of_ble_eq_true rfl, fun P hP => ?_⟩
  exact h 
def wp_X10_adds (x1 : Int32) (x2 : Int32) (x3 : Int32) (σ : Sg) (Q : Int32 → Sg → Prop) : Prop :=
  (vp_in (gI σ 0 5) 80 ∧ (vp_in (gI σ 0 5) 80 ∧ (vp_in (gI σ 0 5) 80 ∧ wp_X10_changes (sI (sI (sI (sI σ 0 5 ((gI σ 0 5) + (1 : Int32))) 1 ((gI σ 0 5)).toNatClampNeg x1) 2 ((gI σ 0 5)).toNatClampNeg x2) 3 ((gI σ 0 5)).toNatClampNeg x3) (fun s1 => Q (gI σ 0 5) s1))))
def wl_X10_adds : WP := fun As σ Q => p1r As (fun z0 r0 => onB (Nat.beq z0 0) (p1i r0 (fun x1 r1 => p1i r1 (fun x2 r2 => p1i r2 (fun x3 r3 => onB r3.isEmpty (wp_X10_adds x1 x2 x3 σ (fun x τ => Q (some (.int x)) τ)))))))
def tb_X10_adds : List (Nat × Instr × Nat) := [(0, (.aload_n 0, 1)), (1, (.getfield 112, 3)), (4, (.istore 4, 2)), (6, (.aload_n 0, 1)), (7, (.dup, 1)), (8, (.getfield 112, 3)), (11, (.iconst 1, 1)), (12, (.iadd, 1)), (13, (.putfield 112, 3)), (16, (.aload_n 0, 1)), (17, (.getfield 7, 3)), (20, (.iload 4, 2)), (22, (.iload_n 1, 1)), (23, (.iastore, 1)), (24, (.aload_n 0, 1)), (25, (.getfield 13, 3)), (28, (.iload 4, 2)), (30, (.iload_n 2, 1)), (31, (.iastore, 1)), (32, (.aload_n 0, 1)), (33, (.getfield 16, 3)), (36, (.iload 4, 2)), (38, (.iload_n 3, 1)), (39, (.iastore, 1)), (40, (.aload_n 0, 1)), (41, (.invokevirtual 115, 3)), (44, (.iload 4, 2)), (46, (.ireturn, 1))]
def ce_X10_adds : List (Nat × (Nat × Option Nat × WP)) := [(115, (1, some 10, wl_X10_changes))]
set_option maxRecDepth 100000 in
set_option maxHeartbeats 4000000 in
theorem ct_X10_adds (l : Launch) : Con l wM yX10_adds cX10_adds 5 (some .int) 1 wl_X10_adds := by
  refine sxm_ok l (ft := lkp ft_RX10) (c32 := lkp c32_RX10) (c64 := lkp c64_RX10) (ce := lkp ce_X10_adds) (sf := lkp sf_RX10) (lab := lkp []) (T := tb_X10_adds) (by decide +kernel) ft_RX10_ok c32_RX10_ok c64_RX10_ok (fun x q h => (show ∀ q ∈ ce_X10_adds, ceOK l wM RX10 1 q.1 q.2.1 q.2.2.1 q.2.2.2 from List.forall_mem_cons.mpr ⟨Or.inr (Or.inr (Or.inr ⟨yX10_changes, cX10_changes, 2, none, 0, ct_X10_changes l, by decide, by decide, mi_X10_changes.1, mi_X10_changes.2, ml_RX10_115, mv_X10_changes.1, mv_X10_changes.2, ⟨_, _, rfl⟩, by decide, by decide +kernel⟩)), fun _ h => absurd h List.not_mem_nil⟩) (x, q) (lkp_mem h)) sf_RX10_ok (by decide +kernel) 400 (fun As σ Q h => ?_)
  replace h := p1r_e h
  obtain ⟨z0, q0, rfl, h⟩ := h
  replace h := onB_e h
  obtain ⟨e0, h⟩ := h
  have e0 := Nat.eq_of_beq_eq_true e0
  subst e0
  replace h := p1i_e h
  obtain ⟨x1, q1, rfl, h⟩ := h
  replace h := p1i_e h
  obtain ⟨x2, q2, rfl, h⟩ := h
  replace h := p1i_e h
  obtain ⟨x3, q3, rfl, h⟩ := h
  replace h := onB_e h
  obtain ⟨e9, h⟩ := h
  have e9 := List.isEmpty_iff.mp e9
  subst e9
  refine ⟨Nat.le_of_ble_eq_true rfl, fun P hP => ?_⟩
  exact h 
def wp_X10_next (x1 : Int32) (x2 : Int32) (σ : Sg) (Q : Int32 → Sg → Prop) : Prop :=
  wp_X10_isIn (x1).toInt64 (0 : Int64) (((gI σ 0 5) - (1 : Int32))).toInt64 σ (fun r1 => ((r1 = 0 → wp_X10_no (-3 : Int32) σ (fun r2 s3 => Q r2 s3)) ∧ (¬ r1 = 0 → wp_X10_isSign x2 σ (fun r4 => ((r4 = 0 → wp_X10_no (-3 : Int32) σ (fun r5 s6 => Q r5 s6)) ∧ (¬ r4 = 0 → (vp_in x1 80 ∧ (((gI σ 1 (x1).toNatClampNeg) = (1 : Int32) → (vp_in x1 80 ∧ (vp_in x1 80 ∧ wp_X10_changes (sI σ 2 (x1).toNatClampNeg x2) (fun s7 => Q (gI σ 2 (x1).toNatClampNeg) s7)))) ∧ (¬ (gI σ 1 (x1).toNatClampNeg) = (1 : Int32) → wp_X10_no (-5 : Int32) σ (fun r8 s9 => Q r8 s9))))))))))
def wl_X10_next : WP := fun As σ Q => p1r As (fun z0 r0 => onB (Nat.beq z0 0) (p1i r0 (fun x1 r1 => p1i r1 (fun x2 r2 => onB r2.isEmpty (wp_X10_next x1 x2 σ (fun x τ => Q (some (.int x)) τ))))))
def tb_X10_next : List (Nat × Instr × Nat) := [(0, (.iload_n 1, 1)), (1, (.i2l, 1)), (2, (.lconst 0, 1)), (3, (.aload_n 0, 1)), (4, (.getfield 112, 3)), (7, (.iconst 1, 1)), (8, (.isub, 1)), (9, (.i2l, 1)), (10, (.invokestatic 133, 3)), (13, (.ifCond .eq 24, 3)), (16, (.aload_n 0, 1)), (17, (.iload_n 2, 1)), (18, (.invokevirtual 129, 3)), (21, (.ifCond .ne 31, 3)), (24, (.aload_n 0, 1)), (25, (.bipush (-3), 2)), (27, (.invokevirtual 118, 3)), (30, (.ireturn, 1)), (31, (.aload_n 0, 1)), (32, (.getfield 7, 3)), (35, (.iload_n 1, 1)), (36, (.iaload, 1)), (37, (.iconst 1, 1)), (38, (.if_icmp .eq 48, 3)), (41, (.aload_n 0, 1)), (42, (.bipush (-5), 2)), (44, (.invokevirtual 118, 3)), (47, (.ireturn, 1)), (48, (.aload_n 0, 1)), (49, (.getfield 13, 3)), (52, (.iload_n 1, 1)), (53, (.iaload, 1)), (54, (.istore_n 3, 1)), (55, (.aload_n 0, 1)), (56, (.getfield 13, 3)), (59, (.iload_n 1, 1)), (60, (.iload_n 2, 1)), (61, (.iastore, 1)), (62, (.aload_n 0, 1)), (63, (.invokevirtual 115, 3)), (66, (.iload_n 3, 1)), (67, (.ireturn, 1))]
def ce_X10_next : List (Nat × (Nat × Option Nat × WP)) := [(133, (3, none, wl_X10_isIn)), (129, (2, some 10, wl_X10_isSign)), (118, (2, some 10, wl_X10_no)), (115, (1, some 10, wl_X10_changes))]
set_option maxRecDepth 100000 in
set_option maxHeartbeats 4000000 in
theorem ct_X10_next (l : Launch) : Con l wM yX10_next cX10_next 4 (some .int) 1 wl_X10_next := by
  refine sxm_ok l (ft := lkp ft_RX10) (c32 := lkp c32_RX10) (c64 := lkp c64_RX10) (ce := lkp ce_X10_next) (sf := lkp sf_RX10) (lab := lkp []) (T := tb_X10_next) (by decide +kernel) ft_RX10_ok c32_RX10_ok c64_RX10_ok (fun x q h => (show ∀ q ∈ ce_X10_next, ceOK l wM RX10 1 q.1 q.2.1 q.2.2.1 q.2.2.2 from List.forall_mem_cons.mpr ⟨Or.inr (Or.inr (Or.inr ⟨yX10_isIn, cX10_isIn, 6, (some .boolean), 0, ct_X10_isIn l, by decide, by decide, mi_X10_isIn.1, mi_X10_isIn.2, Or.inl ml_RX10_133, ms_X10_isIn, by decide +kernel⟩)), List.forall_mem_cons.mpr ⟨Or.inr (Or.inr (Or.inr ⟨yX10_isSign, cX10_isSign, 2, (some .boolean), 0, ct_X10_isSign l, by decide, by decide, mi_X10_isSign.1, mi_X10_isSign.2, ml_RX10_129, mv_X10_isSign.1, mv_X10_isSign.2, ⟨_, _, rfl⟩, by decide, by decide +kernel⟩)), List.forall_mem_cons.mpr ⟨Or.inr (Or.inr (Or.inr ⟨yX10_no, cX10_no, 2, (some .int), 0, ct_X10_no l, by decide, by decide, mi_X10_no.1, mi_X10_no.2, ml_RX10_118, mv_X10_no.1, mv_X10_no.2, ⟨_, _, rfl⟩, by decide, by decide +kernel⟩)), List.forall_mem_cons.mpr ⟨Or.inr (Or.inr (Or.inr ⟨yX10_changes, cX10_changes, 2, none, 0, ct_X10_changes l, by decide, by decide, mi_X10_changes.1, mi_X10_changes.2, ml_RX10_115, mv_X10_changes.1, mv_X10_changes.2, ⟨_, _, rfl⟩, by decide, by decide +kernel⟩)), fun _ h => absurd h List.not_mem_nil⟩⟩⟩⟩) (x, q) (lkp_mem h)) sf_RX10_ok (by decide +kernel) 400 (fun As σ Q h => ?_)
  replace h := p1r_e h
  obtain ⟨z0, q0, rfl, h⟩ := h
  replace h := onB_e h
  obtain ⟨e0, h⟩ := h
  have e0 := Nat.eq_of_beq_eq_true e0
  subst e0
  replace h := p1i_e h
  obtain ⟨x1, q1, rfl, h⟩ := h
  replace h := p1i_e h
  obtain ⟨x2, q2, rfl, h⟩ := h
  replace h := onB_e h
  obtain ⟨e9, h⟩ := h
  have e9 := List.isEmpty_iff.mp e9
  subst e9
  refine ⟨Nat.le_of_ble_eq_true rfl, fun P hP => ?_⟩
  exact h 
def wp_X10_bad (x1 : Int32) (σ : Sg) (Q : Int32 → Sg → Prop) : Prop :=
  ((x1 = (-1 : Int32) → wp_X10_changes (sI σ 0 9 x1) (fun s1 => Q (gI σ 0 9) s1)) ∧ (¬ x1 = (-1 : Int32) → wp_X10_isSign x1 σ (fun r2 => ((r2 = 0 → wp_X10_no (-3 : Int32) σ (fun r3 s4 => Q r3 s4)) ∧ (¬ r2 = 0 → wp_X10_changes (sI σ 0 9 x1) (fun s5 => Q (gI σ 0 9) s5))))))
def wl_X10_bad : WP := fun As σ Q => p1r As (fun z0 r0 => onB (Nat.beq z0 0) (p1i r0 (fun x1 r1 => onB r1.isEmpty (wp_X10_bad x1 σ (fun x τ => Q (some (.int x)) τ)))))
def tb_X10_bad : List (Nat × Instr × Nat) := [(0, (.iload_n 1, 1)), (1, (.iconst (-1), 1)), (2, (.if_icmp .eq 20, 3)), (5, (.aload_n 0, 1)), (6, (.iload_n 1, 1)), (7, (.invokevirtual 129, 3)), (10, (.ifCond .ne 20, 3)), (13, (.aload_n 0, 1)), (14, (.bipush (-3), 2)), (16, (.invokevirtual 118, 3)), (19, (.ireturn, 1)), (20, (.aload_n 0, 1)), (21, (.getfield 26, 3)), (24, (.istore_n 2, 1)), (25, (.aload_n 0, 1)), (26, (.iload_n 1, 1)), (27, (.putfield 26, 3)), (30, (.aload_n 0, 1)), (31, (.invokevirtual 115, 3)), (34, (.iload_n 2, 1)), (35, (.ireturn, 1))]
def ce_X10_bad : List (Nat × (Nat × Option Nat × WP)) := [(129, (2, some 10, wl_X10_isSign)), (118, (2, some 10, wl_X10_no)), (115, (1, some 10, wl_X10_changes))]
set_option maxRecDepth 100000 in
set_option maxHeartbeats 4000000 in
theorem ct_X10_bad (l : Launch) : Con l wM yX10_bad cX10_bad 3 (some .int) 1 wl_X10_bad := by
  refine sxm_ok l (ft := lkp ft_RX10) (c32 := lkp c32_RX10) (c64 := lkp c64_RX10) (ce := lkp ce_X10_bad) (sf := lkp sf_RX10) (lab := lkp []) (T := tb_X10_bad) (by decide +kernel) ft_RX10_ok c32_RX10_ok c64_RX10_ok (fun x q h => (show ∀ q ∈ ce_X10_bad, ceOK l wM RX10 1 q.1 q.2.1 q.2.2.1 q.2.2.2 from List.forall_mem_cons.mpr ⟨Or.inr (Or.inr (Or.inr ⟨yX10_isSign, cX10_isSign, 2, (some .boolean), 0, ct_X10_isSign l, by decide, by decide, mi_X10_isSign.1, mi_X10_isSign.2, ml_RX10_129, mv_X10_isSign.1, mv_X10_isSign.2, ⟨_, _, rfl⟩, by decide, by decide +kernel⟩)), List.forall_mem_cons.mpr ⟨Or.inr (Or.inr (Or.inr ⟨yX10_no, cX10_no, 2, (some .int), 0, ct_X10_no l, by decide, by decide, mi_X10_no.1, mi_X10_no.2, ml_RX10_118, mv_X10_no.1, mv_X10_no.2, ⟨_, _, rfl⟩, by decide, by decide +kernel⟩)), List.forall_mem_cons.mpr ⟨Or.inr (Or.inr (Or.inr ⟨yX10_changes, cX10_changes, 2, none, 0, ct_X10_changes l, by decide, by decide, mi_X10_changes.1, mi_X10_changes.2, ml_RX10_115, mv_X10_changes.1, mv_X10_changes.2, ⟨_, _, rfl⟩, by decide, by decide +kernel⟩)), fun _ h => absurd h List.not_mem_nil⟩⟩⟩) (x, q) (lkp_mem h)) sf_RX10_ok (by decide +kernel) 400 (fun As σ Q h => ?_)
  replace h := p1r_e h
  obtain ⟨z0, q0, rfl, h⟩ := h
  replace h := onB_e h
  obtain ⟨e0, h⟩ := h
  have e0 := Nat.eq_of_beq_eq_true e0
  subst e0
  replace h := p1i_e h
  obtain ⟨x1, q1, rfl, h⟩ := h
  replace h := onB_e h
  obtain ⟨e9, h⟩ := h
  have e9 := List.isEmpty_iff.mp e9
  subst e9
  refine ⟨Nat.le_of_ble_eq_true rfl, fun P hP => ?_⟩
  exact h 
def wp_X10_assume (x1 : Int32) (σ : Sg) (Q : Int32 → Sg → Prop) : Prop :=
  wp_X10_isSign x1 σ (fun r1 => ((r1 = 0 → wp_X10_no (-3 : Int32) σ (fun r2 s3 => Q r2 s3)) ∧ (¬ r1 = 0 → (((gI σ 0 10) = (4 : Int32) → wp_X10_no (-8 : Int32) σ (fun r4 s5 => Q r4 s5)) ∧ (¬ (gI σ 0 10) = (4 : Int32) → (vp_in (gI σ 0 10) 4 ∧ wp_X10_changes (sI (sI σ 6 ((gI σ 0 10)).toNatClampNeg x1) 0 10 ((gI (sI σ 6 ((gI σ 0 10)).toNatClampNeg x1) 0 10) + (1 : Int32))) (fun s6 => Q (gI s6 0 10) s6)))))))
def wl_X10_assume : WP := fun As σ Q => p1r As (fun z0 r0 => onB (Nat.beq z0 0) (p1i r0 (fun x1 r1 => onB r1.isEmpty (wp_X10_assume x1 σ (fun x τ => Q (some (.int x)) τ)))))
def tb_X10_assume : List (Nat × Instr × Nat) := [(0, (.aload_n 0, 1)), (1, (.iload_n 1, 1)), (2, (.invokevirtual 129, 3)), (5, (.ifCond .ne 15, 3)), (8, (.aload_n 0, 1)), (9, (.bipush (-3), 2)), (11, (.invokevirtual 118, 3)), (14, (.ireturn, 1)), (15, (.aload_n 0, 1)), (16, (.getfield 137, 3)), (19, (.iconst 4, 1)), (20, (.if_icmp .ne 30, 3)), (23, (.aload_n 0, 1)), (24, (.bipush (-8), 2)), (26, (.invokevirtual 118, 3)), (29, (.ireturn, 1)), (30, (.aload_n 0, 1)), (31, (.getfield 30, 3)), (34, (.aload_n 0, 1)), (35, (.getfield 137, 3)), (38, (.iload_n 1, 1)), (39, (.iastore, 1)), (40, (.aload_n 0, 1)), (41, (.dup, 1)), (42, (.getfield 137, 3)), (45, (.iconst 1, 1)), (46, (.iadd, 1)), (47, (.putfield 137, 3)), (50, (.aload_n 0, 1)), (51, (.invokevirtual 115, 3)), (54, (.aload_n 0, 1)), (55, (.getfield 137, 3)), (58, (.ireturn, 1))]
def ce_X10_assume : List (Nat × (Nat × Option Nat × WP)) := [(129, (2, some 10, wl_X10_isSign)), (118, (2, some 10, wl_X10_no)), (115, (1, some 10, wl_X10_changes))]
set_option maxRecDepth 100000 in
set_option maxHeartbeats 4000000 in
theorem ct_X10_assume (l : Launch) : Con l wM yX10_assume cX10_assume 2 (some .int) 1 wl_X10_assume := by
  refine sxm_ok l (ft := lkp ft_RX10) (c32 := lkp c32_RX10) (c64 := lkp c64_RX10) (ce := lkp ce_X10_assume) (sf := lkp sf_RX10) (lab := lkp []) (T := tb_X10_assume) (by decide +kernel) ft_RX10_ok c32_RX10_ok c64_RX10_ok (fun x q h => (show ∀ q ∈ ce_X10_assume, ceOK l wM RX10 1 q.1 q.2.1 q.2.2.1 q.2.2.2 from List.forall_mem_cons.mpr ⟨Or.inr (Or.inr (Or.inr ⟨yX10_isSign, cX10_isSign, 2, (some .boolean), 0, ct_X10_isSign l, by decide, by decide, mi_X10_isSign.1, mi_X10_isSign.2, ml_RX10_129, mv_X10_isSign.1, mv_X10_isSign.2, ⟨_, _, rfl⟩, by decide, by decide +kernel⟩)), List.forall_mem_cons.mpr ⟨Or.inr (Or.inr (Or.inr ⟨yX10_no, cX10_no, 2, (some .int), 0, ct_X10_no l, by decide, by decide, mi_X10_no.1, mi_X10_no.2, ml_RX10_118, mv_X10_no.1, mv_X10_no.2, ⟨_, _, rfl⟩, by decide, by decide +kernel⟩)), List.forall_mem_cons.mpr ⟨Or.inr (Or.inr (Or.inr ⟨yX10_changes, cX10_changes, 2, none, 0, ct_X10_changes l, by decide, by decide, mi_X10_changes.1, mi_X10_changes.2, ml_RX10_115, mv_X10_changes.1, mv_X10_changes.2, ⟨_, _, rfl⟩, by decide, by decide +kernel⟩)), fun _ h => absurd h List.not_mem_nil⟩⟩⟩) (x, q) (lkp_mem h)) sf_RX10_ok (by decide +kernel) 400 (fun As σ Q h => ?_)
  replace h := p1r_e h
  obtain ⟨z0, q0, rfl, h⟩ := h
  replace h := onB_e h
  obtain ⟨e0, h⟩ := h
  have e0 := Nat.eq_of_beq_eq_true e0
  subst e0
  replace h := p1i_e h
  obtain ⟨x1, q1, rfl, h⟩ := h
  replace h := onB_e h
  obtain ⟨e9, h⟩ := h
  have e9 := List.isEmpty_iff.mp e9
  subst e9
  refine ⟨Nat.le_of_ble_eq_true rfl, fun P hP => ?_⟩
  exact h 
def wp_X10_fair (x1 : Int32) (σ : Sg) (Q : Int32 → Sg → Prop) : Prop :=
  wp_X10_isSign x1 σ (fun r1 => ((r1 = 0 → wp_X10_no (-3 : Int32) σ (fun r2 s3 => Q r2 s3)) ∧ (¬ r1 = 0 → (((gI σ 0 11) = (3 : Int32) → wp_X10_no (-8 : Int32) σ (fun r4 s5 => Q r4 s5)) ∧ (¬ (gI σ 0 11) = (3 : Int32) → (vp_in (gI σ 0 11) 3 ∧ wp_X10_changes (sI (sI σ 7 ((gI σ 0 11)).toNatClampNeg x1) 0 11 ((gI (sI σ 7 ((gI σ 0 11)).toNatClampNeg x1) 0 11) + (1 : Int32))) (fun s6 => Q (gI s6 0 11) s6)))))))
def wl_X10_fair : WP := fun As σ Q => p1r As (fun z0 r0 => onB (Nat.beq z0 0) (p1i r0 (fun x1 r1 => onB r1.isEmpty (wp_X10_fair x1 σ (fun x τ => Q (some (.int x)) τ)))))
def tb_X10_fair : List (Nat × Instr × Nat) := [(0, (.aload_n 0, 1)), (1, (.iload_n 1, 1)), (2, (.invokevirtual 129, 3)), (5, (.ifCond .ne 15, 3)), (8, (.aload_n 0, 1)), (9, (.bipush (-3), 2)), (11, (.invokevirtual 118, 3)), (14, (.ireturn, 1)), (15, (.aload_n 0, 1)), (16, (.getfield 140, 3)), (19, (.iconst 3, 1)), (20, (.if_icmp .ne 30, 3)), (23, (.aload_n 0, 1)), (24, (.bipush (-8), 2)), (26, (.invokevirtual 118, 3)), (29, (.ireturn, 1)), (30, (.aload_n 0, 1)), (31, (.getfield 33, 3)), (34, (.aload_n 0, 1)), (35, (.getfield 140, 3)), (38, (.iload_n 1, 1)), (39, (.iastore, 1)), (40, (.aload_n 0, 1)), (41, (.dup, 1)), (42, (.getfield 140, 3)), (45, (.iconst 1, 1)), (46, (.iadd, 1)), (47, (.putfield 140, 3)), (50, (.aload_n 0, 1)), (51, (.invokevirtual 115, 3)), (54, (.aload_n 0, 1)), (55, (.getfield 140, 3)), (58, (.ireturn, 1))]
def ce_X10_fair : List (Nat × (Nat × Option Nat × WP)) := [(129, (2, some 10, wl_X10_isSign)), (118, (2, some 10, wl_X10_no)), (115, (1, some 10, wl_X10_changes))]
set_option maxRecDepth 100000 in
set_option maxHeartbeats 4000000 in
theorem ct_X10_fair (l : Launch) : Con l wM yX10_fair cX10_fair 2 (some .int) 1 wl_X10_fair := by
  refine sxm_ok l (ft := lkp ft_RX10) (c32 := lkp c32_RX10) (c64 := lkp c64_RX10) (ce := lkp ce_X10_fair) (sf := lkp sf_RX10) (lab := lkp []) (T := tb_X10_fair) (by decide +kernel) ft_RX10_ok c32_RX10_ok c64_RX10_ok (fun x q h => (show ∀ q ∈ ce_X10_fair, ceOK l wM RX10 1 q.1 q.2.1 q.2.2.1 q.2.2.2 from List.forall_mem_cons.mpr ⟨Or.inr (Or.inr (Or.inr ⟨yX10_isSign, cX10_isSign, 2, (some .boolean), 0, ct_X10_isSign l, by decide, by decide, mi_X10_isSign.1, mi_X10_isSign.2, ml_RX10_129, mv_X10_isSign.1, mv_X10_isSign.2, ⟨_, _, rfl⟩, by decide, by decide +kernel⟩)), List.forall_mem_cons.mpr ⟨Or.inr (Or.inr (Or.inr ⟨yX10_no, cX10_no, 2, (some .int), 0, ct_X10_no l, by decide, by decide, mi_X10_no.1, mi_X10_no.2, ml_RX10_118, mv_X10_no.1, mv_X10_no.2, ⟨_, _, rfl⟩, by decide, by decide +kernel⟩)), List.forall_mem_cons.mpr ⟨Or.inr (Or.inr (Or.inr ⟨yX10_changes, cX10_changes, 2, none, 0, ct_X10_changes l, by decide, by decide, mi_X10_changes.1, mi_X10_changes.2, ml_RX10_115, mv_X10_changes.1, mv_X10_changes.2, ⟨_, _, rfl⟩, by decide, by decide +kernel⟩)), fun _ h => absurd h List.not_mem_nil⟩⟩⟩) (x, q) (lkp_mem h)) sf_RX10_ok (by decide +kernel) 400 (fun As σ Q h => ?_)
  replace h := p1r_e h
  obtain ⟨z0, q0, rfl, h⟩ := h
  replace h := onB_e h
  obtain ⟨e0, h⟩ := h
  have e0 := Nat.eq_of_beq_eq_true e0
  subst e0
  replace h := p1i_e h
  obtain ⟨x1, q1, rfl, h⟩ := h
  replace h := onB_e h
  obtain ⟨e9, h⟩ := h
  have e9 := List.isEmpty_iff.mp e9
  subst e9
  refine ⟨Nat.le_of_ble_eq_true rfl, fun P hP => ?_⟩
  exact h 
def wp_X10_part (x1 : Int32) (x2 : Int32) (σ : Sg) (Q : Int32 → Sg → Prop) : Prop :=
  wp_X10_isIn (x1).toInt64 (0 : Int64) (((gI σ 0 5) - (1 : Int32))).toInt64 σ (fun r1 => ((r1 = 0 → wp_X10_no (-3 : Int32) σ (fun r2 s3 => Q r2 s3)) ∧ (¬ r1 = 0 → wp_X10_isIn (x2).toInt64 (0 : Int64) (2 : Int64) σ (fun r4 => ((r4 = 0 → wp_X10_no (-7 : Int32) σ (fun r5 s6 => Q r5 s6)) ∧ (¬ r4 = 0 → ((x2 = 0 → (vp_in x1 80 ∧ Q (gI σ 1 (x1).toNatClampNeg) σ)) ∧ (¬ x2 = 0 → ((x2 = (1 : Int32) → (vp_in x1 80 ∧ Q (gI σ 2 (x1).toNatClampNeg) σ)) ∧ (¬ x2 = (1 : Int32) → (vp_in x1 80 ∧ Q (gI σ 3 (x1).toNatClampNeg) σ)))))))))))
def wl_X10_part : WP := fun As σ Q => p1r As (fun z0 r0 => onB (Nat.beq z0 0) (p1i r0 (fun x1 r1 => p1i r1 (fun x2 r2 => onB r2.isEmpty (wp_X10_part x1 x2 σ (fun x τ => Q (some (.int x)) τ))))))
def tb_X10_part : List (Nat × Instr × Nat) := [(0, (.iload_n 1, 1)), (1, (.i2l, 1)), (2, (.lconst 0, 1)), (3, (.aload_n 0, 1)), (4, (.getfield 112, 3)), (7, (.iconst 1, 1)), (8, (.isub, 1)), (9, (.i2l, 1)), (10, (.invokestatic 133, 3)), (13, (.ifCond .ne 23, 3)), (16, (.aload_n 0, 1)), (17, (.bipush (-3), 2)), (19, (.invokevirtual 118, 3)), (22, (.ireturn, 1)), (23, (.iload_n 2, 1)), (24, (.i2l, 1)), (25, (.lconst 0, 1)), (26, (.ldc2_w 143, 3)), (29, (.invokestatic 133, 3)), (32, (.ifCond .ne 42, 3)), (35, (.aload_n 0, 1)), (36, (.bipush (-7), 2)), (38, (.invokevirtual 118, 3)), (41, (.ireturn, 1)), (42, (.iload_n 2, 1)), (43, (.ifCond .ne 55, 3)), (46, (.aload_n 0, 1)), (47, (.getfield 7, 3)), (50, (.iload_n 1, 1)), (51, (.iaload, 1)), (52, (.goto 75, 3)), (55, (.iload_n 2, 1)), (56, (.iconst 1, 1)), (57, (.if_icmp .ne 69, 3)), (60, (.aload_n 0, 1)), (61, (.getfield 13, 3)), (64, (.iload_n 1, 1)), (65, (.iaload, 1)), (66, (.goto 75, 3)), (69, (.aload_n 0, 1)), (70, (.getfield 16, 3)), (73, (.iload_n 1, 1)), (74, (.iaload, 1)), (75, (.ireturn, 1))]
def ce_X10_part : List (Nat × (Nat × Option Nat × WP)) := [(133, (3, none, wl_X10_isIn)), (118, (2, some 10, wl_X10_no))]
set_option maxRecDepth 100000 in
set_option maxHeartbeats 4000000 in
theorem ct_X10_part (l : Launch) : Con l wM yX10_part cX10_part 3 (some .int) 1 wl_X10_part := by
  refine sxm_ok l (ft := lkp ft_RX10) (c32 := lkp c32_RX10) (c64 := lkp c64_RX10) (ce := lkp ce_X10_part) (sf := lkp sf_RX10) (lab := lkp []) (T := tb_X10_part) (by decide +kernel) ft_RX10_ok c32_RX10_ok c64_RX10_ok (fun x q h => (show ∀ q ∈ ce_X10_part, ceOK l wM RX10 1 q.1 q.2.1 q.2.2.1 q.2.2.2 from List.forall_mem_cons.mpr ⟨Or.inr (Or.inr (Or.inr ⟨yX10_isIn, cX10_isIn, 6, (some .boolean), 0, ct_X10_isIn l, by decide, by decide, mi_X10_isIn.1, mi_X10_isIn.2, Or.inl ml_RX10_133, ms_X10_isIn, by decide +kernel⟩)), List.forall_mem_cons.mpr ⟨Or.inr (Or.inr (Or.inr ⟨yX10_no, cX10_no, 2, (some .int), 0, ct_X10_no l, by decide, by decide, mi_X10_no.1, mi_X10_no.2, ml_RX10_118, mv_X10_no.1, mv_X10_no.2, ⟨_, _, rfl⟩, by decide, by decide +kernel⟩)), fun _ h => absurd h List.not_mem_nil⟩⟩) (x, q) (lkp_mem h)) sf_RX10_ok (by decide +kernel) 400 (fun As σ Q h => ?_)
  replace h := p1r_e h
  obtain ⟨z0, q0, rfl, h⟩ := h
  replace h := onB_e h
  obtain ⟨e0, h⟩ := h
  have e0 := Nat.eq_of_beq_eq_true e0
  subst e0
  replace h := p1i_e h
  obtain ⟨x1, q1, rfl, h⟩ := h
  replace h := p1i_e h
  obtain ⟨x2, q2, rfl, h⟩ := h
  replace h := onB_e h
  obtain ⟨e9, h⟩ := h
  have e9 := List.isEmpty_iff.mp e9
  subst e9
  refine ⟨Nat.le_of_ble_eq_true rfl, fun P hP => ?_⟩
  exact h 
def wp_X10_count (x1 : Int32) (σ : Sg) (Q : Int32 → Sg → Prop) : Prop :=
  ((x1 = (0 : Int32) → Q (gI σ 0 5) σ) ∧ (¬ x1 = (0 : Int32) → ((x1 = (1 : Int32) → Q (gI σ 0 6) σ) ∧ (¬ x1 = (1 : Int32) → ((x1 = (2 : Int32) → Q (gI σ 0 7) σ) ∧ (¬ x1 = (2 : Int32) → ((x1 = (3 : Int32) → wp_X10_sorted (0 : Int32) σ (fun r3 => Q r3 σ)) ∧ (¬ x1 = (3 : Int32) → ((x1 = (4 : Int32) → Q (gI σ 0 10) σ) ∧ (¬ x1 = (4 : Int32) → ((x1 = (5 : Int32) → Q (gI σ 0 11) σ) ∧ (¬ x1 = (5 : Int32) → ((x1 = (6 : Int32) → Q (gI σ 0 25) σ) ∧ (¬ x1 = (6 : Int32) → ((x1 = (7 : Int32) → Q (gI σ 0 39) σ) ∧ (¬ x1 = (7 : Int32) → wp_X10_no (-7 : Int32) σ (fun r1 s2 => Q r1 s2)))))))))))))))))
def wl_X10_count : WP := fun As σ Q => p1r As (fun z0 r0 => onB (Nat.beq z0 0) (p1i r0 (fun x1 r1 => onB r1.isEmpty (wp_X10_count x1 σ (fun x τ => Q (some (.int x)) τ)))))
def tb_X10_count : List (Nat × Instr × Nat) := [(0, (.iload_n 1, 1)), (1, (.tableswitch 88 0 7 #[47, 52, 57, 62, 68, 73, 78, 83], 47)), (48, (.aload_n 0, 1)), (49, (.getfield 112, 3)), (52, (.ireturn, 1)), (53, (.aload_n 0, 1)), (54, (.getfield 106, 3)), (57, (.ireturn, 1)), (58, (.aload_n 0, 1)), (59, (.getfield 109, 3)), (62, (.ireturn, 1)), (63, (.aload_n 0, 1)), (64, (.iconst 0, 1)), (65, (.invokevirtual 145, 3)), (68, (.ireturn, 1)), (69, (.aload_n 0, 1)), (70, (.getfield 137, 3)), (73, (.ireturn, 1)), (74, (.aload_n 0, 1)), (75, (.getfield 140, 3)), (78, (.ireturn, 1)), (79, (.aload_n 0, 1)), (80, (.getfield 148, 3)), (83, (.ireturn, 1)), (84, (.aload_n 0, 1)), (85, (.getfield 151, 3)), (88, (.ireturn, 1)), (89, (.aload_n 0, 1)), (90, (.bipush (-7), 2)), (92, (.invokevirtual 118, 3)), (95, (.ireturn, 1))]
def ce_X10_count : List (Nat × (Nat × Option Nat × WP)) := [(145, (2, some 10, wl_X10_sorted)), (118, (2, some 10, wl_X10_no))]
set_option maxRecDepth 100000 in
set_option maxHeartbeats 4000000 in
theorem ct_X10_count (l : Launch) : Con l wM yX10_count cX10_count 2 (some .int) 1 wl_X10_count := by
  refine sxm_ok l (ft := lkp ft_RX10) (c32 := lkp c32_RX10) (c64 := lkp c64_RX10) (ce := lkp ce_X10_count) (sf := lkp sf_RX10) (lab := lkp []) (T := tb_X10_count) (by decide +kernel) ft_RX10_ok c32_RX10_ok c64_RX10_ok (fun x q h => (show ∀ q ∈ ce_X10_count, ceOK l wM RX10 1 q.1 q.2.1 q.2.2.1 q.2.2.2 from List.forall_mem_cons.mpr ⟨Or.inr (Or.inr (Or.inr ⟨yX10_sorted, cX10_sorted, 4, (some .int), 0, ct_X10_sorted l, by decide, by decide, mi_X10_sorted.1, mi_X10_sorted.2, ml_RX10_145, mv_X10_sorted.1, mv_X10_sorted.2, ⟨_, _, rfl⟩, by decide, by decide +kernel⟩)), List.forall_mem_cons.mpr ⟨Or.inr (Or.inr (Or.inr ⟨yX10_no, cX10_no, 2, (some .int), 0, ct_X10_no l, by decide, by decide, mi_X10_no.1, mi_X10_no.2, ml_RX10_118, mv_X10_no.1, mv_X10_no.2, ⟨_, _, rfl⟩, by decide, by decide +kernel⟩)), fun _ h => absurd h List.not_mem_nil⟩⟩) (x, q) (lkp_mem h)) sf_RX10_ok (by decide +kernel) 400 (fun As σ Q h => ?_)
  replace h := p1r_e h
  obtain ⟨z0, q0, rfl, h⟩ := h
  replace h := onB_e h
  obtain ⟨e0, h⟩ := h
  have e0 := Nat.eq_of_beq_eq_true e0
  subst e0
  replace h := p1i_e h
  obtain ⟨x1, q1, rfl, h⟩ := h
  replace h := onB_e h
  obtain ⟨e9, h⟩ := h
  have e9 := List.isEmpty_iff.mp e9
  subst e9
  refine ⟨Nat.le_of_ble_eq_true rfl, fun P hP => ?_⟩
  exact h 
def wp_X10_show (x1 : Int32) (x2 : Int32) (σ : Sg) (Q : Sg → Prop) : Prop :=
  ∀ L2 : Int32 → Sg → Prop,
  (∀ (x3 : Int32) (τ : Sg), ((x3 < (gI τ 0 5) → (vp_in x3 80 ∧ (((gI τ 1 (x3).toNatClampNeg) = (3 : Int32) → (vp_in x3 80 ∧ ((((x2 >>> ((gI τ 4 (x3).toNatClampNeg) &&& 31)) &&& (1 : Int32)) = (1 : Int32) → (vp_in x3 80 ∧ L2 (x3 + (1 : Int32)) (sI τ 5 (x3).toNatClampNeg (vp_nar .boolean (1 : Int32))))) ∧ (¬ ((x2 >>> ((gI τ 4 (x3).toNatClampNeg) &&& 31)) &&& (1 : Int32)) = (1 : Int32) → (vp_in x3 80 ∧ L2 (x3 + (1 : Int32)) (sI τ 5 (x3).toNatClampNeg (vp_nar .boolean (0 : Int32)))))))) ∧ (¬ (gI τ 1 (x3).toNatClampNeg) = (3 : Int32) → (vp_in x3 80 ∧ (((gI τ 1 (x3).toNatClampNeg) = 0 → (vp_in x3 80 ∧ wp_X10_is (gI τ 2 (x3).toNatClampNeg) τ (fun r1 => ((r1 = 0 → (vp_in x3 80 ∧ L2 (x3 + (1 : Int32)) (sI τ 5 (x3).toNatClampNeg (vp_nar .boolean (0 : Int32))))) ∧ (¬ r1 = 0 → (vp_in x3 80 ∧ wp_X10_is (gI τ 3 (x3).toNatClampNeg) τ (fun r2 => ((r2 = 0 → (vp_in x3 80 ∧ L2 (x3 + (1 : Int32)) (sI τ 5 (x3).toNatClampNeg (vp_nar .boolean (0 : Int32))))) ∧ (¬ r2 = 0 → (vp_in x3 80 ∧ L2 (x3 + (1 : Int32)) (sI τ 5 (x3).toNatClampNeg (vp_nar .boolean (1 : Int32))))))))))))) ∧ (¬ (gI τ 1 (x3).toNatClampNeg) = 0 → (vp_in x3 80 ∧ ((((x1 >>> ((gI τ 4 (x3).toNatClampNeg) &&& 31)) &&& (1 : Int32)) = (1 : Int32) → (vp_in x3 80 ∧ L2 (x3 + (1 : Int32)) (sI τ 5 (x3).toNatClampNeg (vp_nar .boolean (1 : Int32))))) ∧ (¬ ((x1 >>> ((gI τ 4 (x3).toNatClampNeg) &&& 31)) &&& (1 : Int32)) = (1 : Int32) → (vp_in x3 80 ∧ L2 (x3 + (1 : Int32)) (sI τ 5 (x3).toNatClampNeg (vp_nar .boolean (0 : Int32)))))))))))))) ∧ (¬ x3 < (gI τ 0 5) → Q τ)) → L2 x3 τ) →
  L2 (0 : Int32) σ
def wl_X10_show : WP := fun As σ Q => p1r As (fun z0 r0 => onB (Nat.beq z0 0) (p1i r0 (fun x1 r1 => p1i r1 (fun x2 r2 => onB r2.isEmpty (wp_X10_show x1 x2 σ (fun τ => Q none τ))))))
def tb_X10_show : List (Nat × Instr × Nat) := [(0, (.iconst 0, 1)), (1, (.istore_n 3, 1)), (2, (.iload_n 3, 1)), (3, (.aload_n 0, 1)), (4, (.getfield 112, 3)), (7, (.if_icmp .ge 128, 3)), (10, (.aload_n 0, 1)), (11, (.getfield 7, 3)), (14, (.iload_n 3, 1)), (15, (.iaload, 1)), (16, (.iconst 3, 1)), (17, (.if_icmp .ne 48, 3)), (20, (.aload_n 0, 1)), (21, (.getfield 22, 3)), (24, (.iload_n 3, 1)), (25, (.iload_n 2, 1)), (26, (.aload_n 0, 1)), (27, (.getfield 19, 3)), (30, (.iload_n 3, 1)), (31, (.iaload, 1)), (32, (.ishr, 1)), (33, (.iconst 1, 1)), (34, (.iand, 1)), (35, (.iconst 1, 1)), (36, (.if_icmp .ne 43, 3)), (39, (.iconst 1, 1)), (40, (.goto 44, 3)), (43, (.iconst 0, 1)), (44, (.bastore, 1)), (45, (.goto 122, 3)), (48, (.aload_n 0, 1)), (49, (.getfield 7, 3)), (52, (.iload_n 3, 1)), (53, (.iaload, 1)), (54, (.ifCond .ne 97, 3)), (57, (.aload_n 0, 1)), (58, (.getfield 22, 3)), (61, (.iload_n 3, 1)), (62, (.aload_n 0, 1)), (63, (.aload_n 0, 1)), (64, (.getfield 13, 3)), (67, (.iload_n 3, 1)), (68, (.iaload, 1)), (69, (.invokevirtual 154, 3)), (72, (.ifCond .eq 92, 3)), (75, (.aload_n 0, 1)), (76, (.aload_n 0, 1)), (77, (.getfield 16, 3)), (80, (.iload_n 3, 1)), (81, (.iaload, 1)), (82, (.invokevirtual 154, 3)), (85, (.ifCond .eq 92, 3)), (88, (.iconst 1, 1)), (89, (.goto 93, 3)), (92, (.iconst 0, 1)), (93, (.bastore, 1)), (94, (.goto 122, 3)), (97, (.aload_n 0, 1)), (98, (.getfield 22, 3)), (101, (.iload_n 3, 1)), (102, (.iload_n 1, 1)), (103, (.aload_n 0, 1)), (104, (.getfield 19, 3)), (107, (.iload_n 3, 1)), (108, (.iaload, 1)), (109, (.ishr, 1)), (110, (.iconst 1, 1)), (111, (.iand, 1)), (112, (.iconst 1, 1)), (113, (.if_icmp .ne 120, 3)), (116, (.iconst 1, 1)), (117, (.goto 121, 3)), (120, (.iconst 0, 1)), (121, (.bastore, 1)), (122, (.iinc 3 1, 3)), (125, (.goto 2, 3)), (128, (.return_, 1))]
def ce_X10_show : List (Nat × (Nat × Option Nat × WP)) := [(154, (2, some 10, wl_X10_is))]
set_option maxRecDepth 100000 in
set_option maxHeartbeats 4000000 in
theorem ct_X10_show (l : Launch) : Con l wM yX10_show cX10_show 4 none 1 wl_X10_show := by
  refine sxm_ok l (ft := lkp ft_RX10) (c32 := lkp c32_RX10) (c64 := lkp c64_RX10) (ce := lkp ce_X10_show) (sf := lkp sf_RX10) (lab := lkp [(2, [0, 1, 2, 3])]) (T := tb_X10_show) (by decide +kernel) ft_RX10_ok c32_RX10_ok c64_RX10_ok (fun x q h => (show ∀ q ∈ ce_X10_show, ceOK l wM RX10 1 q.1 q.2.1 q.2.2.1 q.2.2.2 from List.forall_mem_cons.mpr ⟨Or.inr (Or.inr (Or.inr ⟨yX10_is, cX10_is, 2, (some .boolean), 0, ct_X10_is l, by decide, by decide, mi_X10_is.1, mi_X10_is.2, ml_RX10_154, mv_X10_is.1, mv_X10_is.2, ⟨_, _, rfl⟩, by decide, by decide +kernel⟩)), fun _ h => absurd h List.not_mem_nil⟩) (x, q) (lkp_mem h)) sf_RX10_ok (by decide +kernel) 400 (fun As σ Q h => ?_)
  replace h := p1r_e h
  obtain ⟨z0, q0, rfl, h⟩ := h
  replace h := onB_e h
  obtain ⟨e0, h⟩ := h
  have e0 := Nat.eq_of_beq_eq_true e0
  subst e0
  replace h := p1i_e h
  obtain ⟨x1, q1, rfl, h⟩ := h
  replace h := p1i_e h
  obtain ⟨x2, q2, rfl, h⟩ := h
  replace h := onB_e h
  obtain ⟨e9, h⟩ := h
  have e9 := List.isEmpty_iff.mp e9
  subst e9
  refine ⟨Nat.le_of_ble_eq_true rfl, fun P hP => ?_⟩
  exact h (fun x3 τ => P 2 [.ref 0, .int x1, .int x2, .int x3] τ) (fun x3 τ hb => hP 2 [.ref 0, .int x1, .int x2, .int x3] τ hb)
def wp_X10_isRight  (σ : Sg) (Q : Int32 → Prop) : Prop :=
  ∀ L4 : Int32 → Int32 → Prop,
  (∀ (x1 : Int32) (x2 : Int32), ((x2 < (gI σ 0 10) → ((x1 = 0 → L4 (0 : Int32) (x2 + (1 : Int32))) ∧ (¬ x1 = 0 → (vp_in x2 4 ∧ wp_X10_is (gI σ 6 (x2).toNatClampNeg) σ (fun r1 => ((r1 = 0 → L4 (0 : Int32) (x2 + (1 : Int32))) ∧ (¬ r1 = 0 → L4 (1 : Int32) (x2 + (1 : Int32))))))))) ∧ (¬ x2 < (gI σ 0 10) → (nz x1 ∧ Q x1))) → L4 x1 x2) →
  L4 (1 : Int32) (0 : Int32)
def wl_X10_isRight : WP := fun As σ Q => p1r As (fun z0 r0 => onB (Nat.beq z0 0) (onB r0.isEmpty (wp_X10_isRight  σ (fun x => Q (some (.int x)) σ))))
def tb_X10_isRight : List (Nat × Instr × Nat) := [(0, (.iconst 1, 1)), (1, (.istore_n 1, 1)), (2, (.iconst 0, 1)), (3, (.istore_n 2, 1)), (4, (.iload_n 2, 1)), (5, (.aload_n 0, 1)), (6, (.getfield 137, 3)), (9, (.if_icmp .ge 41, 3)), (12, (.iload_n 1, 1)), (13, (.ifCond .eq 33, 3)), (16, (.aload_n 0, 1)), (17, (.aload_n 0, 1)), (18, (.getfield 30, 3)), (21, (.iload_n 2, 1)), (22, (.iaload, 1)), (23, (.invokevirtual 154, 3)), (26, (.ifCond .eq 33, 3)), (29, (.iconst 1, 1)), (30, (.goto 34, 3)), (33, (.iconst 0, 1)), (34, (.istore_n 1, 1)), (35, (.iinc 2 1, 3)), (38, (.goto 4, 3)), (41, (.iload_n 1, 1)), (42, (.ireturn, 1))]
def ce_X10_isRight : List (Nat × (Nat × Option Nat × WP)) := [(154, (2, some 10, wl_X10_is))]
set_option maxRecDepth 100000 in
set_option maxHeartbeats 4000000 in
theorem ct_X10_isRight (l : Launch) : Con l wM yX10_isRight cX10_isRight 3 (some .boolean) 1 wl_X10_isRight := by
  refine sxm_ok l (ft := lkp ft_RX10) (c32 := lkp c32_RX10) (c64 := lkp c64_RX10) (ce := lkp ce_X10_isRight) (sf := lkp sf_RX10) (lab := lkp [(4, [0, 1, 2])]) (T := tb_X10_isRight) (by decide +kernel) ft_RX10_ok c32_RX10_ok c64_RX10_ok (fun x q h => (show ∀ q ∈ ce_X10_isRight, ceOK l wM RX10 1 q.1 q.2.1 q.2.2.1 q.2.2.2 from List.forall_mem_cons.mpr ⟨Or.inr (Or.inr (Or.inr ⟨yX10_is, cX10_is, 2, (some .boolean), 0, ct_X10_is l, by decide, by decide, mi_X10_is.1, mi_X10_is.2, ml_RX10_154, mv_X10_is.1, mv_X10_is.2, ⟨_, _, rfl⟩, by decide, by decide +kernel⟩)), fun _ h => absurd h List.not_mem_nil⟩) (x, q) (lkp_mem h)) sf_RX10_ok (by decide +kernel) 400 (fun As σ Q h => ?_)
  replace h := p1r_e h
  obtain ⟨z0, q0, rfl, h⟩ := h
  replace h := onB_e h
  obtain ⟨e0, h⟩ := h
  have e0 := Nat.eq_of_beq_eq_true e0
  subst e0
  replace h := onB_e h
  obtain ⟨e9, h⟩ := h
  have e9 := List.isEmpty_iff.mp e9
  subst e9
  refine ⟨Nat.le_of_ble_eq_true rfl, fun P hP => ?_⟩
  exact h (fun x1 x2 => P 4 [.ref 0, .int x1, .int x2] σ) (fun x1 x2 hb => hP 4 [.ref 0, .int x1, .int x2] σ hb)
def wp_X10_comes  (σ : Sg) (Q : Int32 → Prop) : Prop :=
  ∀ L4 : Int32 → Int32 → Prop,
  (∀ (x1 : Int32) (x2 : Int32), ((x2 < (gI σ 0 5) → (vp_in x2 80 ∧ (((gI σ 1 (x2).toNatClampNeg) = (1 : Int32) → (vp_in x2 80 ∧ wp_X10_is (gI σ 2 (x2).toNatClampNeg) σ (fun r1 => ((r1 = 0 → L4 x1 (x2 + (1 : Int32))) ∧ (¬ r1 = 0 → (vp_in x2 80 ∧ L4 (x1 ||| ((1 : Int32) <<< ((gI σ 4 (x2).toNatClampNeg) &&& 31))) (x2 + (1 : Int32)))))))) ∧ (¬ (gI σ 1 (x2).toNatClampNeg) = (1 : Int32) → (vp_in x2 80 ∧ (((gI σ 1 (x2).toNatClampNeg) = (2 : Int32) → (vp_in x2 80 ∧ wp_X10_is (gI σ 2 (x2).toNatClampNeg) σ (fun r2 => ((r2 = 0 → L4 x1 (x2 + (1 : Int32))) ∧ (¬ r2 = 0 → (vp_in x2 80 ∧ L4 (x1 ||| ((1 : Int32) <<< ((gI σ 4 (x2).toNatClampNeg) &&& 31))) (x2 + (1 : Int32)))))))) ∧ (¬ (gI σ 1 (x2).toNatClampNeg) = (2 : Int32) → L4 x1 (x2 + (1 : Int32))))))))) ∧ (¬ x2 < (gI σ 0 5) → Q x1)) → L4 x1 x2) →
  L4 (0 : Int32) (0 : Int32)
def wl_X10_comes : WP := fun As σ Q => p1r As (fun z0 r0 => onB (Nat.beq z0 0) (onB r0.isEmpty (wp_X10_comes  σ (fun x => Q (some (.int x)) σ))))
def tb_X10_comes : List (Nat × Instr × Nat) := [(0, (.iconst 0, 1)), (1, (.istore_n 1, 1)), (2, (.iconst 0, 1)), (3, (.istore_n 2, 1)), (4, (.iload_n 2, 1)), (5, (.aload_n 0, 1)), (6, (.getfield 112, 3)), (9, (.if_icmp .ge 62, 3)), (12, (.aload_n 0, 1)), (13, (.getfield 7, 3)), (16, (.iload_n 2, 1)), (17, (.iaload, 1)), (18, (.iconst 1, 1)), (19, (.if_icmp .eq 32, 3)), (22, (.aload_n 0, 1)), (23, (.getfield 7, 3)), (26, (.iload_n 2, 1)), (27, (.iaload, 1)), (28, (.iconst 2, 1)), (29, (.if_icmp .ne 56, 3)), (32, (.aload_n 0, 1)), (33, (.aload_n 0, 1)), (34, (.getfield 13, 3)), (37, (.iload_n 2, 1)), (38, (.iaload, 1)), (39, (.invokevirtual 154, 3)), (42, (.ifCond .eq 56, 3)), (45, (.iload_n 1, 1)), (46, (.iconst 1, 1)), (47, (.aload_n 0, 1)), (48, (.getfield 19, 3)), (51, (.iload_n 2, 1)), (52, (.iaload, 1)), (53, (.ishl, 1)), (54, (.ior, 1)), (55, (.istore_n 1, 1)), (56, (.iinc 2 1, 3)), (59, (.goto 4, 3)), (62, (.iload_n 1, 1)), (63, (.ireturn, 1))]
def ce_X10_comes : List (Nat × (Nat × Option Nat × WP)) := [(154, (2, some 10, wl_X10_is))]
set_option maxRecDepth 100000 in
set_option maxHeartbeats 4000000 in
theorem ct_X10_comes (l : Launch) : Con l wM yX10_comes cX10_comes 3 (some .int) 1 wl_X10_comes := by
  refine sxm_ok l (ft := lkp ft_RX10) (c32 := lkp c32_RX10) (c64 := lkp c64_RX10) (ce := lkp ce_X10_comes) (sf := lkp sf_RX10) (lab := lkp [(4, [0, 1, 2])]) (T := tb_X10_comes) (by decide +kernel) ft_RX10_ok c32_RX10_ok c64_RX10_ok (fun x q h => (show ∀ q ∈ ce_X10_comes, ceOK l wM RX10 1 q.1 q.2.1 q.2.2.1 q.2.2.2 from List.forall_mem_cons.mpr ⟨Or.inr (Or.inr (Or.inr ⟨yX10_is, cX10_is, 2, (some .boolean), 0, ct_X10_is l, by decide, by decide, mi_X10_is.1, mi_X10_is.2, ml_RX10_154, mv_X10_is.1, mv_X10_is.2, ⟨_, _, rfl⟩, by decide, by decide +kernel⟩)), fun _ h => absurd h List.not_mem_nil⟩) (x, q) (lkp_mem h)) sf_RX10_ok (by decide +kernel) 400 (fun As σ Q h => ?_)
  replace h := p1r_e h
  obtain ⟨z0, q0, rfl, h⟩ := h
  replace h := onB_e h
  obtain ⟨e0, h⟩ := h
  have e0 := Nat.eq_of_beq_eq_true e0
  subst e0
  replace h := onB_e h
  obtain ⟨e9, h⟩ := h
  have e9 := List.isEmpty_iff.mp e9
  subst e9
  refine ⟨Nat.le_of_ble_eq_true rfl, fun P hP => ?_⟩
  exact h (fun x1 x2 => P 4 [.ref 0, .int x1, .int x2] σ) (fun x1 x2 hb => hP 4 [.ref 0, .int x1, .int x2] σ hb)
def wp_X10_isBadState (x1 : Int32) (σ : Sg) (Q : Int32 → Prop) : Prop :=
  ∀ L4 : Int32 → Int32 → Prop,
  (∀ (x2 : Int32) (x3 : Int32), wp_X10_ways σ (fun r1 => ((x3 < r1 → ((x2 = 0 → (vp_in (((16 : Int32) * x1) + x3) 4096 ∧ (((gI σ 11 ((((16 : Int32) * x1) + x3)).toNatClampNeg) = 0 → L4 (0 : Int32) (x3 + (1 : Int32))) ∧ (¬ (gI σ 11 ((((16 : Int32) * x1) + x3)).toNatClampNeg) = 0 → L4 (1 : Int32) (x3 + (1 : Int32)))))) ∧ (¬ x2 = 0 → L4 (1 : Int32) (x3 + (1 : Int32))))) ∧ (¬ x3 < r1 → (nz x2 ∧ Q x2)))) → L4 x2 x3) →
  L4 (0 : Int32) (0 : Int32)
def wl_X10_isBadState : WP := fun As σ Q => p1r As (fun z0 r0 => onB (Nat.beq z0 0) (p1i r0 (fun x1 r1 => onB r1.isEmpty (wp_X10_isBadState x1 σ (fun x => Q (some (.int x)) σ)))))
def tb_X10_isBadState : List (Nat × Instr × Nat) := [(0, (.iconst 0, 1)), (1, (.istore_n 2, 1)), (2, (.iconst 0, 1)), (3, (.istore_n 3, 1)), (4, (.iload_n 3, 1)), (5, (.aload_n 0, 1)), (6, (.invokevirtual 165, 3)), (9, (.if_icmp .ge 42, 3)), (12, (.iload_n 2, 1)), (13, (.ifCond .ne 30, 3)), (16, (.aload_n 0, 1)), (17, (.getfield 45, 3)), (20, (.bipush 16, 2)), (22, (.iload_n 1, 1)), (23, (.imul, 1)), (24, (.iload_n 3, 1)), (25, (.iadd, 1)), (26, (.baload, 1)), (27, (.ifCond .eq 34, 3)), (30, (.iconst 1, 1)), (31, (.goto 35, 3)), (34, (.iconst 0, 1)), (35, (.istore_n 2, 1)), (36, (.iinc 3 1, 3)), (39, (.goto 4, 3)), (42, (.iload_n 2, 1)), (43, (.ireturn, 1))]
def ce_X10_isBadState : List (Nat × (Nat × Option Nat × WP)) := [(165, (1, some 10, wl_X10_ways))]
set_option maxRecDepth 100000 in
set_option maxHeartbeats 4000000 in
theorem ct_X10_isBadState (l : Launch) : Con l wM yX10_isBadState cX10_isBadState 4 (some .boolean) 1 wl_X10_isBadState := by
  refine sxm_ok l (ft := lkp ft_RX10) (c32 := lkp c32_RX10) (c64 := lkp c64_RX10) (ce := lkp ce_X10_isBadState) (sf := lkp sf_RX10) (lab := lkp [(4, [0, 1, 2, 3])]) (T := tb_X10_isBadState) (by decide +kernel) ft_RX10_ok c32_RX10_ok c64_RX10_ok (fun x q h => (show ∀ q ∈ ce_X10_isBadState, ceOK l wM RX10 1 q.1 q.2.1 q.2.2.1 q.2.2.2 from List.forall_mem_cons.mpr ⟨Or.inr (Or.inr (Or.inr ⟨yX10_ways, cX10_ways, 1, (some .int), 0, ct_X10_ways l, by decide, by decide, mi_X10_ways.1, mi_X10_ways.2, ml_RX10_165, mv_X10_ways.1, mv_X10_ways.2, ⟨_, _, rfl⟩, by decide, by decide +kernel⟩)), fun _ h => absurd h List.not_mem_nil⟩) (x, q) (lkp_mem h)) sf_RX10_ok (by decide +kernel) 400 (fun As σ Q h => ?_)
  replace h := p1r_e h
  obtain ⟨z0, q0, rfl, h⟩ := h
  replace h := onB_e h
  obtain ⟨e0, h⟩ := h
  have e0 := Nat.eq_of_beq_eq_true e0
  subst e0
  replace h := p1i_e h
  obtain ⟨x1, q1, rfl, h⟩ := h
  replace h := onB_e h
  obtain ⟨e9, h⟩ := h
  have e9 := List.isEmpty_iff.mp e9
  subst e9
  refine ⟨Nat.le_of_ble_eq_true rfl, fun P hP => ?_⟩
  exact h (fun x2 x3 => P 4 [.ref 0, .int x1, .int x2, .int x3] σ) (fun x2 x3 hb => hP 4 [.ref 0, .int x1, .int x2, .int x3] σ hb)
def wp_X10_leads (x1 : Int32) (x2 : Int32) (σ : Sg) (Q : Int32 → Prop) : Prop :=
  ∀ L5 : Int32 → Int32 → Prop,
  (∀ (x3 : Int32) (x4 : Int32), wp_X10_ways σ (fun r1 => ((x4 < r1 → ((x3 = 0 → (vp_in (((16 : Int32) * x1) + x4) 4096 ∧ (((gI σ 9 ((((16 : Int32) * x1) + x4)).toNatClampNeg) = x2 → L5 (1 : Int32) (x4 + (1 : Int32))) ∧ (¬ (gI σ 9 ((((16 : Int32) * x1) + x4)).toNatClampNeg) = x2 → L5 (0 : Int32) (x4 + (1 : Int32)))))) ∧ (¬ x3 = 0 → L5 (1 : Int32) (x4 + (1 : Int32))))) ∧ (¬ x4 < r1 → (nz x3 ∧ Q x3)))) → L5 x3 x4) →
  L5 (0 : Int32) (0 : Int32)
def wl_X10_leads : WP := fun As σ Q => p1r As (fun z0 r0 => onB (Nat.beq z0 0) (p1i r0 (fun x1 r1 => p1i r1 (fun x2 r2 => onB r2.isEmpty (wp_X10_leads x1 x2 σ (fun x => Q (some (.int x)) σ))))))
def tb_X10_leads : List (Nat × Instr × Nat) := [(0, (.iconst 0, 1)), (1, (.istore_n 3, 1)), (2, (.iconst 0, 1)), (3, (.istore 4, 2)), (5, (.iload 4, 2)), (7, (.aload_n 0, 1)), (8, (.invokevirtual 165, 3)), (11, (.if_icmp .ge 46, 3)), (14, (.iload_n 3, 1)), (15, (.ifCond .ne 34, 3)), (18, (.aload_n 0, 1)), (19, (.getfield 39, 3)), (22, (.bipush 16, 2)), (24, (.iload_n 1, 1)), (25, (.imul, 1)), (26, (.iload 4, 2)), (28, (.iadd, 1)), (29, (.iaload, 1)), (30, (.iload_n 2, 1)), (31, (.if_icmp .ne 38, 3)), (34, (.iconst 1, 1)), (35, (.goto 39, 3)), (38, (.iconst 0, 1)), (39, (.istore_n 3, 1)), (40, (.iinc 4 1, 3)), (43, (.goto 5, 3)), (46, (.iload_n 3, 1)), (47, (.ireturn, 1))]
def ce_X10_leads : List (Nat × (Nat × Option Nat × WP)) := [(165, (1, some 10, wl_X10_ways))]
set_option maxRecDepth 100000 in
set_option maxHeartbeats 4000000 in
theorem ct_X10_leads (l : Launch) : Con l wM yX10_leads cX10_leads 5 (some .boolean) 1 wl_X10_leads := by
  refine sxm_ok l (ft := lkp ft_RX10) (c32 := lkp c32_RX10) (c64 := lkp c64_RX10) (ce := lkp ce_X10_leads) (sf := lkp sf_RX10) (lab := lkp [(5, [0, 1, 2, 3, 4])]) (T := tb_X10_leads) (by decide +kernel) ft_RX10_ok c32_RX10_ok c64_RX10_ok (fun x q h => (show ∀ q ∈ ce_X10_leads, ceOK l wM RX10 1 q.1 q.2.1 q.2.2.1 q.2.2.2 from List.forall_mem_cons.mpr ⟨Or.inr (Or.inr (Or.inr ⟨yX10_ways, cX10_ways, 1, (some .int), 0, ct_X10_ways l, by decide, by decide, mi_X10_ways.1, mi_X10_ways.2, ml_RX10_165, mv_X10_ways.1, mv_X10_ways.2, ⟨_, _, rfl⟩, by decide, by decide +kernel⟩)), fun _ h => absurd h List.not_mem_nil⟩) (x, q) (lkp_mem h)) sf_RX10_ok (by decide +kernel) 400 (fun As σ Q h => ?_)
  replace h := p1r_e h
  obtain ⟨z0, q0, rfl, h⟩ := h
  replace h := onB_e h
  obtain ⟨e0, h⟩ := h
  have e0 := Nat.eq_of_beq_eq_true e0
  subst e0
  replace h := p1i_e h
  obtain ⟨x1, q1, rfl, h⟩ := h
  replace h := p1i_e h
  obtain ⟨x2, q2, rfl, h⟩ := h
  replace h := onB_e h
  obtain ⟨e9, h⟩ := h
  have e9 := List.isEmpty_iff.mp e9
  subst e9
  refine ⟨Nat.le_of_ble_eq_true rfl, fun P hP => ?_⟩
  exact h (fun x3 x4 => P 5 [.ref 0, .int x1, .int x2, .int x3, .int x4] σ) (fun x3 x4 hb => hP 5 [.ref 0, .int x1, .int x2, .int x3, .int x4] σ hb)
def wp_X10_isState (x1 : Int32) (σ : Sg) (Q : Int32 → Prop) : Prop :=
  ((x1 < 0 → (nz (0 : Int32) ∧ Q (0 : Int32))) ∧ (¬ x1 < 0 → wp_X10_states σ (fun r1 => ((x1 < r1 → (nz (1 : Int32) ∧ Q (1 : Int32))) ∧ (¬ x1 < r1 → (nz (0 : Int32) ∧ Q (0 : Int32)))))))
def wl_X10_isState : WP := fun As σ Q => p1r As (fun z0 r0 => onB (Nat.beq z0 0) (p1i r0 (fun x1 r1 => onB r1.isEmpty (wp_X10_isState x1 σ (fun x => Q (some (.int x)) σ)))))
def tb_X10_isState : List (Nat × Instr × Nat) := [(0, (.iload_n 1, 1)), (1, (.ifCond .lt 16, 3)), (4, (.iload_n 1, 1)), (5, (.aload_n 0, 1)), (6, (.invokevirtual 161, 3)), (9, (.if_icmp .ge 16, 3)), (12, (.iconst 1, 1)), (13, (.goto 17, 3)), (16, (.iconst 0, 1)), (17, (.ireturn, 1))]
def ce_X10_isState : List (Nat × (Nat × Option Nat × WP)) := [(161, (1, some 10, wl_X10_states))]
set_option maxRecDepth 100000 in
set_option maxHeartbeats 4000000 in
theorem ct_X10_isState (l : Launch) : Con l wM yX10_isState cX10_isState 2 (some .boolean) 1 wl_X10_isState := by
  refine sxm_ok l (ft := lkp ft_RX10) (c32 := lkp c32_RX10) (c64 := lkp c64_RX10) (ce := lkp ce_X10_isState) (sf := lkp sf_RX10) (lab := lkp []) (T := tb_X10_isState) (by decide +kernel) ft_RX10_ok c32_RX10_ok c64_RX10_ok (fun x q h => (show ∀ q ∈ ce_X10_isState, ceOK l wM RX10 1 q.1 q.2.1 q.2.2.1 q.2.2.2 from List.forall_mem_cons.mpr ⟨Or.inr (Or.inr (Or.inr ⟨yX10_states, cX10_states, 1, (some .int), 0, ct_X10_states l, by decide, by decide, mi_X10_states.1, mi_X10_states.2, ml_RX10_161, mv_X10_states.1, mv_X10_states.2, ⟨_, _, rfl⟩, by decide, by decide +kernel⟩)), fun _ h => absurd h List.not_mem_nil⟩) (x, q) (lkp_mem h)) sf_RX10_ok (by decide +kernel) 400 (fun As σ Q h => ?_)
  replace h := p1r_e h
  obtain ⟨z0, q0, rfl, h⟩ := h
  replace h := onB_e h
  obtain ⟨e0, h⟩ := h
  have e0 := Nat.eq_of_beq_eq_true e0
  subst e0
  replace h := p1i_e h
  obtain ⟨x1, q1, rfl, h⟩ := h
  replace h := onB_e h
  obtain ⟨e9, h⟩ := h
  have e9 := List.isEmpty_iff.mp e9
  subst e9
  refine ⟨Nat.le_of_ble_eq_true rfl, fun P hP => ?_⟩
  exact h 
def wp_X10_isInFrame (x1 : Int32) (x2 : Int32) (σ : Sg) (Q : Int32 → Prop) : Prop :=
  ∀ L20 : Int32 → Prop,
  (∀ (x3 : Int32), (vp_in x2 25 ∧ ((x3 < (gI σ 14 (x2).toNatClampNeg) → (vp_in (((200 : Int32) * x2) + x3) 5000 ∧ (vp_in (((200 : Int32) * x2) + x3) 5000 ∧ wp_X10_isInCube x1 (gI σ 12 ((((200 : Int32) * x2) + x3)).toNatClampNeg) (gI σ 13 ((((200 : Int32) * x2) + x3)).toNatClampNeg) σ (fun r1 => ((r1 = 0 → L20 (x3 + (1 : Int32))) ∧ (¬ r1 = 0 → (nz (0 : Int32) ∧ Q (0 : Int32)))))))) ∧ (¬ x3 < (gI σ 14 (x2).toNatClampNeg) → (nz (1 : Int32) ∧ Q (1 : Int32))))) → L20 x3) →
  ((x2 = 0 → ((x1 = (gI σ 0 8) → (nz (1 : Int32) ∧ Q (1 : Int32))) ∧ (¬ x1 = (gI σ 0 8) → (nz (0 : Int32) ∧ Q (0 : Int32))))) ∧ (¬ x2 = 0 → L20 (0 : Int32)))
def wl_X10_isInFrame : WP := fun As σ Q => p1r As (fun z0 r0 => onB (Nat.beq z0 0) (p1i r0 (fun x1 r1 => p1i r1 (fun x2 r2 => onB r2.isEmpty (wp_X10_isInFrame x1 x2 σ (fun x => Q (some (.int x)) σ))))))
def tb_X10_isInFrame : List (Nat × Instr × Nat) := [(0, (.iload_n 2, 1)), (1, (.ifCond .ne 18, 3)), (4, (.iload_n 1, 1)), (5, (.aload_n 0, 1)), (6, (.getfield 122, 3)), (9, (.if_icmp .ne 16, 3)), (12, (.iconst 1, 1)), (13, (.goto 17, 3)), (16, (.iconst 0, 1)), (17, (.ireturn, 1)), (18, (.iconst 0, 1)), (19, (.istore_n 3, 1)), (20, (.iload_n 3, 1)), (21, (.aload_n 0, 1)), (22, (.getfield 54, 3)), (25, (.iload_n 2, 1)), (26, (.iaload, 1)), (27, (.if_icmp .ge 69, 3)), (30, (.iload_n 1, 1)), (31, (.aload_n 0, 1)), (32, (.getfield 48, 3)), (35, (.sipush 200, 3)), (38, (.iload_n 2, 1)), (39, (.imul, 1)), (40, (.iload_n 3, 1)), (41, (.iadd, 1)), (42, (.iaload, 1)), (43, (.aload_n 0, 1)), (44, (.getfield 51, 3)), (47, (.sipush 200, 3)), (50, (.iload_n 2, 1)), (51, (.imul, 1)), (52, (.iload_n 3, 1)), (53, (.iadd, 1)), (54, (.iaload, 1)), (55, (.invokestatic 200, 3)), (58, (.ifCond .eq 63, 3)), (61, (.iconst 0, 1)), (62, (.ireturn, 1)), (63, (.iinc 3 1, 3)), (66, (.goto 20, 3)), (69, (.iconst 1, 1)), (70, (.ireturn, 1))]
def ce_X10_isInFrame : List (Nat × (Nat × Option Nat × WP)) := [(200, (3, none, wl_X10_isInCube))]
set_option maxRecDepth 100000 in
set_option maxHeartbeats 4000000 in
theorem ct_X10_isInFrame (l : Launch) : Con l wM yX10_isInFrame cX10_isInFrame 4 (some .boolean) 1 wl_X10_isInFrame := by
  refine sxm_ok l (ft := lkp ft_RX10) (c32 := lkp c32_RX10) (c64 := lkp c64_RX10) (ce := lkp ce_X10_isInFrame) (sf := lkp sf_RX10) (lab := lkp [(20, [0, 1, 2, 3])]) (T := tb_X10_isInFrame) (by decide +kernel) ft_RX10_ok c32_RX10_ok c64_RX10_ok (fun x q h => (show ∀ q ∈ ce_X10_isInFrame, ceOK l wM RX10 1 q.1 q.2.1 q.2.2.1 q.2.2.2 from List.forall_mem_cons.mpr ⟨Or.inr (Or.inr (Or.inr ⟨yX10_isInCube, cX10_isInCube, 3, (some .boolean), 0, ct_X10_isInCube l, by decide, by decide, mi_X10_isInCube.1, mi_X10_isInCube.2, Or.inl ml_RX10_200, ms_X10_isInCube, by decide +kernel⟩)), fun _ h => absurd h List.not_mem_nil⟩) (x, q) (lkp_mem h)) sf_RX10_ok (by decide +kernel) 400 (fun As σ Q h => ?_)
  replace h := p1r_e h
  obtain ⟨z0, q0, rfl, h⟩ := h
  replace h := onB_e h
  obtain ⟨e0, h⟩ := h
  have e0 := Nat.eq_of_beq_eq_true e0
  subst e0
  replace h := p1i_e h
  obtain ⟨x1, q1, rfl, h⟩ := h
  replace h := p1i_e h
  obtain ⟨x2, q2, rfl, h⟩ := h
  replace h := onB_e h
  obtain ⟨e9, h⟩ := h
  have e9 := List.isEmpty_iff.mp e9
  subst e9
  refine ⟨Nat.le_of_ble_eq_true rfl, fun P hP => ?_⟩
  exact h (fun x3 => P 20 [.ref 0, .int x1, .int x2, .int x3] σ) (fun x3 hb => hP 20 [.ref 0, .int x1, .int x2, .int x3] σ hb)
def wp_X10_leadsInto (x1 : Int32) (x2 : Int32) (x3 : Int32) (σ : Sg) (Q : Int32 → Prop) : Prop :=
  ∀ L6 : Int32 → Int32 → Prop,
  (∀ (x4 : Int32) (x5 : Int32), wp_X10_ways σ (fun r1 => ((x5 < r1 → ((x4 = 0 → (vp_in (((16 : Int32) * x1) + x5) 4096 ∧ (((gI σ 9 ((((16 : Int32) * x1) + x5)).toNatClampNeg) < 0 → L6 (0 : Int32) (x5 + (1 : Int32))) ∧ (¬ (gI σ 9 ((((16 : Int32) * x1) + x5)).toNatClampNeg) < 0 → (vp_in (((16 : Int32) * x1) + x5) 4096 ∧ wp_X10_isInCube (gI σ 9 ((((16 : Int32) * x1) + x5)).toNatClampNeg) x2 x3 σ (fun r2 => ((r2 = 0 → L6 (0 : Int32) (x5 + (1 : Int32))) ∧ (¬ r2 = 0 → L6 (1 : Int32) (x5 + (1 : Int32)))))))))) ∧ (¬ x4 = 0 → L6 (1 : Int32) (x5 + (1 : Int32))))) ∧ (¬ x5 < r1 → (nz x4 ∧ Q x4)))) → L6 x4 x5) →
  L6 (0 : Int32) (0 : Int32)
def wl_X10_leadsInto : WP := fun As σ Q => p1r As (fun z0 r0 => onB (Nat.beq z0 0) (p1i r0 (fun x1 r1 => p1i r1 (fun x2 r2 => p1i r2 (fun x3 r3 => onB r3.isEmpty (wp_X10_leadsInto x1 x2 x3 σ (fun x => Q (some (.int x)) σ)))))))
def tb_X10_leadsInto : List (Nat × Instr × Nat) := [(0, (.iconst 0, 1)), (1, (.istore 4, 2)), (3, (.iconst 0, 1)), (4, (.istore 5, 2)), (6, (.iload 5, 2)), (8, (.aload_n 0, 1)), (9, (.invokevirtual 165, 3)), (12, (.if_icmp .ge 68, 3)), (15, (.iload 4, 2)), (17, (.ifCond .ne 55, 3)), (20, (.aload_n 0, 1)), (21, (.getfield 39, 3)), (24, (.bipush 16, 2)), (26, (.iload_n 1, 1)), (27, (.imul, 1)), (28, (.iload 5, 2)), (30, (.iadd, 1)), (31, (.iaload, 1)), (32, (.ifCond .lt 59, 3)), (35, (.aload_n 0, 1)), (36, (.getfield 39, 3)), (39, (.bipush 16, 2)), (41, (.iload_n 1, 1)), (42, (.imul, 1)), (43, (.iload 5, 2)), (45, (.iadd, 1)), (46, (.iaload, 1)), (47, (.iload_n 2, 1)), (48, (.iload_n 3, 1)), (49, (.invokestatic 200, 3)), (52, (.ifCond .eq 59, 3)), (55, (.iconst 1, 1)), (56, (.goto 60, 3)), (59, (.iconst 0, 1)), (60, (.istore 4, 2)), (62, (.iinc 5 1, 3)), (65, (.goto 6, 3)), (68, (.iload 4, 2)), (70, (.ireturn, 1))]
def ce_X10_leadsInto : List (Nat × (Nat × Option Nat × WP)) := [(165, (1, some 10, wl_X10_ways)), (200, (3, none, wl_X10_isInCube))]
set_option maxRecDepth 100000 in
set_option maxHeartbeats 4000000 in
theorem ct_X10_leadsInto (l : Launch) : Con l wM yX10_leadsInto cX10_leadsInto 6 (some .boolean) 1 wl_X10_leadsInto := by
  refine sxm_ok l (ft := lkp ft_RX10) (c32 := lkp c32_RX10) (c64 := lkp c64_RX10) (ce := lkp ce_X10_leadsInto) (sf := lkp sf_RX10) (lab := lkp [(6, [0, 1, 2, 3, 4, 5])]) (T := tb_X10_leadsInto) (by decide +kernel) ft_RX10_ok c32_RX10_ok c64_RX10_ok (fun x q h => (show ∀ q ∈ ce_X10_leadsInto, ceOK l wM RX10 1 q.1 q.2.1 q.2.2.1 q.2.2.2 from List.forall_mem_cons.mpr ⟨Or.inr (Or.inr (Or.inr ⟨yX10_ways, cX10_ways, 1, (some .int), 0, ct_X10_ways l, by decide, by decide, mi_X10_ways.1, mi_X10_ways.2, ml_RX10_165, mv_X10_ways.1, mv_X10_ways.2, ⟨_, _, rfl⟩, by decide, by decide +kernel⟩)), List.forall_mem_cons.mpr ⟨Or.inr (Or.inr (Or.inr ⟨yX10_isInCube, cX10_isInCube, 3, (some .boolean), 0, ct_X10_isInCube l, by decide, by decide, mi_X10_isInCube.1, mi_X10_isInCube.2, Or.inl ml_RX10_200, ms_X10_isInCube, by decide +kernel⟩)), fun _ h => absurd h List.not_mem_nil⟩⟩) (x, q) (lkp_mem h)) sf_RX10_ok (by decide +kernel) 400 (fun As σ Q h => ?_)
  replace h := p1r_e h
  obtain ⟨z0, q0, rfl, h⟩ := h
  replace h := onB_e h
  obtain ⟨e0, h⟩ := h
  have e0 := Nat.eq_of_beq_eq_true e0
  subst e0
  replace h := p1i_e h
  obtain ⟨x1, q1, rfl, h⟩ := h
  replace h := p1i_e h
  obtain ⟨x2, q2, rfl, h⟩ := h
  replace h := p1i_e h
  obtain ⟨x3, q3, rfl, h⟩ := h
  replace h := onB_e h
  obtain ⟨e9, h⟩ := h
  have e9 := List.isEmpty_iff.mp e9
  subst e9
  refine ⟨Nat.le_of_ble_eq_true rfl, fun P hP => ?_⟩
  exact h (fun x4 x5 => P 6 [.ref 0, .int x1, .int x2, .int x3, .int x4, .int x5] σ) (fun x4 x5 hb => hP 6 [.ref 0, .int x1, .int x2, .int x3, .int x4, .int x5] σ hb)
def wp_X10_hasAll (x1 : Int32) (σ : Sg) (Q : Int32 → Prop) : Prop :=
  ∀ L4 : Int32 → Int32 → Prop,
  (∀ (x2 : Int32) (x3 : Int32), (vp_in x1 25 ∧ ((x3 < (gI σ 14 (x1).toNatClampNeg) → ((x2 = 0 → L4 (0 : Int32) (x3 + (1 : Int32))) ∧ (¬ x2 = 0 → (vp_in (((200 : Int32) * x1) + x3) 5000 ∧ (vp_in (((200 : Int32) * x1) + x3) 5000 ∧ wp_X10_has (x1 + (1 : Int32)) (gI σ 12 ((((200 : Int32) * x1) + x3)).toNatClampNeg) (gI σ 13 ((((200 : Int32) * x1) + x3)).toNatClampNeg) σ (fun r1 => ((r1 = 0 → L4 (0 : Int32) (x3 + (1 : Int32))) ∧ (¬ r1 = 0 → L4 (1 : Int32) (x3 + (1 : Int32)))))))))) ∧ (¬ x3 < (gI σ 14 (x1).toNatClampNeg) → (nz x2 ∧ Q x2)))) → L4 x2 x3) →
  L4 (1 : Int32) (0 : Int32)
def wl_X10_hasAll : WP := fun As σ Q => p1r As (fun z0 r0 => onB (Nat.beq z0 0) (p1i r0 (fun x1 r1 => onB r1.isEmpty (wp_X10_hasAll x1 σ (fun x => Q (some (.int x)) σ)))))
def tb_X10_hasAll : List (Nat × Instr × Nat) := [(0, (.iconst 1, 1)), (1, (.istore_n 2, 1)), (2, (.iconst 0, 1)), (3, (.istore_n 3, 1)), (4, (.iload_n 3, 1)), (5, (.aload_n 0, 1)), (6, (.getfield 54, 3)), (9, (.iload_n 1, 1)), (10, (.iaload, 1)), (11, (.if_icmp .ge 64, 3)), (14, (.iload_n 2, 1)), (15, (.ifCond .eq 56, 3)), (18, (.aload_n 0, 1)), (19, (.iload_n 1, 1)), (20, (.iconst 1, 1)), (21, (.iadd, 1)), (22, (.aload_n 0, 1)), (23, (.getfield 48, 3)), (26, (.sipush 200, 3)), (29, (.iload_n 1, 1)), (30, (.imul, 1)), (31, (.iload_n 3, 1)), (32, (.iadd, 1)), (33, (.iaload, 1)), (34, (.aload_n 0, 1)), (35, (.getfield 51, 3)), (38, (.sipush 200, 3)), (41, (.iload_n 1, 1)), (42, (.imul, 1)), (43, (.iload_n 3, 1)), (44, (.iadd, 1)), (45, (.iaload, 1)), (46, (.invokevirtual 234, 3)), (49, (.ifCond .eq 56, 3)), (52, (.iconst 1, 1)), (53, (.goto 57, 3)), (56, (.iconst 0, 1)), (57, (.istore_n 2, 1)), (58, (.iinc 3 1, 3)), (61, (.goto 4, 3)), (64, (.iload_n 2, 1)), (65, (.ireturn, 1))]
def ce_X10_hasAll : List (Nat × (Nat × Option Nat × WP)) := [(234, (4, some 10, wl_X10_has))]
set_option maxRecDepth 100000 in
set_option maxHeartbeats 4000000 in
theorem ct_X10_hasAll (l : Launch) : Con l wM yX10_hasAll cX10_hasAll 4 (some .boolean) 1 wl_X10_hasAll := by
  refine sxm_ok l (ft := lkp ft_RX10) (c32 := lkp c32_RX10) (c64 := lkp c64_RX10) (ce := lkp ce_X10_hasAll) (sf := lkp sf_RX10) (lab := lkp [(4, [0, 1, 2, 3])]) (T := tb_X10_hasAll) (by decide +kernel) ft_RX10_ok c32_RX10_ok c64_RX10_ok (fun x q h => (show ∀ q ∈ ce_X10_hasAll, ceOK l wM RX10 1 q.1 q.2.1 q.2.2.1 q.2.2.2 from List.forall_mem_cons.mpr ⟨Or.inr (Or.inr (Or.inr ⟨yX10_has, cX10_has, 6, (some .boolean), 0, ct_X10_has l, by decide, by decide, mi_X10_has.1, mi_X10_has.2, ml_RX10_234, mv_X10_has.1, mv_X10_has.2, ⟨_, _, rfl⟩, by decide, by decide +kernel⟩)), fun _ h => absurd h List.not_mem_nil⟩) (x, q) (lkp_mem h)) sf_RX10_ok (by decide +kernel) 400 (fun As σ Q h => ?_)
  replace h := p1r_e h
  obtain ⟨z0, q0, rfl, h⟩ := h
  replace h := onB_e h
  obtain ⟨e0, h⟩ := h
  have e0 := Nat.eq_of_beq_eq_true e0
  subst e0
  replace h := p1i_e h
  obtain ⟨x1, q1, rfl, h⟩ := h
  replace h := onB_e h
  obtain ⟨e9, h⟩ := h
  have e9 := List.isEmpty_iff.mp e9
  subst e9
  refine ⟨Nat.le_of_ble_eq_true rfl, fun P hP => ?_⟩
  exact h (fun x2 x3 => P 4 [.ref 0, .int x1, .int x2, .int x3] σ) (fun x2 x3 hb => hP 4 [.ref 0, .int x1, .int x2, .int x3] σ hb)
def wp_X10_clauses (x1 : Int32) (σ : Sg) (Q : Int32 → Sg → Prop) : Prop :=
  wp_X10_isFrame x1 σ (fun r1 => ((r1 = 0 → wp_X10_no (-3 : Int32) σ (fun r2 s3 => Q r2 s3)) ∧ (¬ r1 = 0 → (vp_in x1 25 ∧ Q (gI σ 14 (x1).toNatClampNeg) σ))))
def wl_X10_clauses : WP := fun As σ Q => p1r As (fun z0 r0 => onB (Nat.beq z0 0) (p1i r0 (fun x1 r1 => onB r1.isEmpty (wp_X10_clauses x1 σ (fun x τ => Q (some (.int x)) τ)))))
def tb_X10_clauses : List (Nat × Instr × Nat) := [(0, (.iload_n 1, 1)), (1, (.invokestatic 261, 3)), (4, (.ifCond .eq 16, 3)), (7, (.aload_n 0, 1)), (8, (.getfield 54, 3)), (11, (.iload_n 1, 1)), (12, (.iaload, 1)), (13, (.goto 22, 3)), (16, (.aload_n 0, 1)), (17, (.bipush (-3), 2)), (19, (.invokevirtual 118, 3)), (22, (.ireturn, 1))]
def ce_X10_clauses : List (Nat × (Nat × Option Nat × WP)) := [(261, (1, none, wl_X10_isFrame)), (118, (2, some 10, wl_X10_no))]
set_option maxRecDepth 100000 in
set_option maxHeartbeats 4000000 in
theorem ct_X10_clauses (l : Launch) : Con l wM yX10_clauses cX10_clauses 2 (some .int) 1 wl_X10_clauses := by
  refine sxm_ok l (ft := lkp ft_RX10) (c32 := lkp c32_RX10) (c64 := lkp c64_RX10) (ce := lkp ce_X10_clauses) (sf := lkp sf_RX10) (lab := lkp []) (T := tb_X10_clauses) (by decide +kernel) ft_RX10_ok c32_RX10_ok c64_RX10_ok (fun x q h => (show ∀ q ∈ ce_X10_clauses, ceOK l wM RX10 1 q.1 q.2.1 q.2.2.1 q.2.2.2 from List.forall_mem_cons.mpr ⟨Or.inr (Or.inr (Or.inr ⟨yX10_isFrame, cX10_isFrame, 1, (some .boolean), 0, ct_X10_isFrame l, by decide, by decide, mi_X10_isFrame.1, mi_X10_isFrame.2, Or.inl ml_RX10_261, ms_X10_isFrame, by decide +kernel⟩)), List.forall_mem_cons.mpr ⟨Or.inr (Or.inr (Or.inr ⟨yX10_no, cX10_no, 2, (some .int), 0, ct_X10_no l, by decide, by decide, mi_X10_no.1, mi_X10_no.2, ml_RX10_118, mv_X10_no.1, mv_X10_no.2, ⟨_, _, rfl⟩, by decide, by decide +kernel⟩)), fun _ h => absurd h List.not_mem_nil⟩⟩) (x, q) (lkp_mem h)) sf_RX10_ok (by decide +kernel) 400 (fun As σ Q h => ?_)
  replace h := p1r_e h
  obtain ⟨z0, q0, rfl, h⟩ := h
  replace h := onB_e h
  obtain ⟨e0, h⟩ := h
  have e0 := Nat.eq_of_beq_eq_true e0
  subst e0
  replace h := p1i_e h
  obtain ⟨x1, q1, rfl, h⟩ := h
  replace h := onB_e h
  obtain ⟨e9, h⟩ := h
  have e9 := List.isEmpty_iff.mp e9
  subst e9
  refine ⟨Nat.le_of_ble_eq_true rfl, fun P hP => ?_⟩
  exact h 
def wp_X10_clause (x1 : Int32) (x2 : Int32) (x3 : Int32) (σ : Sg) (Q : Int32 → Sg → Prop) : Prop :=
  wp_X10_isFrame x1 σ (fun r1 => ((r1 = 0 → wp_X10_no (-3 : Int32) σ (fun r2 s3 => Q r2 s3)) ∧ (¬ r1 = 0 → (vp_in x1 25 ∧ wp_X10_isIn (x2).toInt64 (0 : Int64) (((gI σ 14 (x1).toNatClampNeg) - (1 : Int32))).toInt64 σ (fun r4 => ((r4 = 0 → wp_X10_no (-3 : Int32) σ (fun r5 s6 => Q r5 s6)) ∧ (¬ r4 = 0 → ((x3 = 0 → (vp_in (((200 : Int32) * x1) + x2) 5000 ∧ Q (gI σ 12 ((((200 : Int32) * x1) + x2)).toNatClampNeg) σ)) ∧ (¬ x3 = 0 → (vp_in (((200 : Int32) * x1) + x2) 5000 ∧ Q (gI σ 13 ((((200 : Int32) * x1) + x2)).toNatClampNeg) σ))))))))))
def wl_X10_clause : WP := fun As σ Q => p1r As (fun z0 r0 => onB (Nat.beq z0 0) (p1i r0 (fun x1 r1 => p1i r1 (fun x2 r2 => p1i r2 (fun x3 r3 => onB r3.isEmpty (wp_X10_clause x1 x2 x3 σ (fun x τ => Q (some (.int x)) τ)))))))
def tb_X10_clause : List (Nat × Instr × Nat) := [(0, (.iload_n 1, 1)), (1, (.invokestatic 261, 3)), (4, (.ifCond .eq 25, 3)), (7, (.iload_n 2, 1)), (8, (.i2l, 1)), (9, (.lconst 0, 1)), (10, (.aload_n 0, 1)), (11, (.getfield 54, 3)), (14, (.iload_n 1, 1)), (15, (.iaload, 1)), (16, (.iconst 1, 1)), (17, (.isub, 1)), (18, (.i2l, 1)), (19, (.invokestatic 133, 3)), (22, (.ifCond .ne 32, 3)), (25, (.aload_n 0, 1)), (26, (.bipush (-3), 2)), (28, (.invokevirtual 118, 3)), (31, (.ireturn, 1)), (32, (.iload_n 3, 1)), (33, (.ifCond .eq 51, 3)), (36, (.aload_n 0, 1)), (37, (.getfield 51, 3)), (40, (.sipush 200, 3)), (43, (.iload_n 1, 1)), (44, (.imul, 1)), (45, (.iload_n 2, 1)), (46, (.iadd, 1)), (47, (.iaload, 1)), (48, (.goto 63, 3)), (51, (.aload_n 0, 1)), (52, (.getfield 48, 3)), (55, (.sipush 200, 3)), (58, (.iload_n 1, 1)), (59, (.imul, 1)), (60, (.iload_n 2, 1)), (61, (.iadd, 1)), (62, (.iaload, 1)), (63, (.ireturn, 1))]
def ce_X10_clause : List (Nat × (Nat × Option Nat × WP)) := [(261, (1, none, wl_X10_isFrame)), (133, (3, none, wl_X10_isIn)), (118, (2, some 10, wl_X10_no))]
set_option maxRecDepth 100000 in
set_option maxHeartbeats 4000000 in
theorem ct_X10_clause (l : Launch) : Con l wM yX10_clause cX10_clause 4 (some .int) 1 wl_X10_clause := by
  refine sxm_ok l (ft := lkp ft_RX10) (c32 := lkp c32_RX10) (c64 := lkp c64_RX10) (ce := lkp ce_X10_clause) (sf := lkp sf_RX10) (lab := lkp []) (T := tb_X10_clause) (by decide +kernel) ft_RX10_ok c32_RX10_ok c64_RX10_ok (fun x q h => (show ∀ q ∈ ce_X10_clause, ceOK l wM RX10 1 q.1 q.2.1 q.2.2.1 q.2.2.2 from List.forall_mem_cons.mpr ⟨Or.inr (Or.inr (Or.inr ⟨yX10_isFrame, cX10_isFrame, 1, (some .boolean), 0, ct_X10_isFrame l, by decide, by decide, mi_X10_isFrame.1, mi_X10_isFrame.2, Or.inl ml_RX10_261, ms_X10_isFrame, by decide +kernel⟩)), List.forall_mem_cons.mpr ⟨Or.inr (Or.inr (Or.inr ⟨yX10_isIn, cX10_isIn, 6, (some .boolean), 0, ct_X10_isIn l, by decide, by decide, mi_X10_isIn.1, mi_X10_isIn.2, Or.inl ml_RX10_133, ms_X10_isIn, by decide +kernel⟩)), List.forall_mem_cons.mpr ⟨Or.inr (Or.inr (Or.inr ⟨yX10_no, cX10_no, 2, (some .int), 0, ct_X10_no l, by decide, by decide, mi_X10_no.1, mi_X10_no.2, ml_RX10_118, mv_X10_no.1, mv_X10_no.2, ⟨_, _, rfl⟩, by decide, by decide +kernel⟩)), fun _ h => absurd h List.not_mem_nil⟩⟩⟩) (x, q) (lkp_mem h)) sf_RX10_ok (by decide +kernel) 400 (fun As σ Q h => ?_)
  replace h := p1r_e h
  obtain ⟨z0, q0, rfl, h⟩ := h
  replace h := onB_e h
  obtain ⟨e0, h⟩ := h
  have e0 := Nat.eq_of_beq_eq_true e0
  subst e0
  replace h := p1i_e h
  obtain ⟨x1, q1, rfl, h⟩ := h
  replace h := p1i_e h
  obtain ⟨x2, q2, rfl, h⟩ := h
  replace h := p1i_e h
  obtain ⟨x3, q3, rfl, h⟩ := h
  replace h := onB_e h
  obtain ⟨e9, h⟩ := h
  have e9 := List.isEmpty_iff.mp e9
  subst e9
  refine ⟨Nat.le_of_ble_eq_true rfl, fun P hP => ?_⟩
  exact h 
def wp_X10_trouble (x1 : Int32) (x2 : Int32) (σ : Sg) (Q : Int32 → Sg → Prop) : Prop :=
  ((x1 < 0 → wp_X10_no (-4 : Int32) σ (fun r1 s2 => Q r1 s2)) ∧ (¬ x1 < 0 → wp_X10_isIn (x2).toInt64 (0 : Int64) (1 : Int64) σ (fun r3 => ((r3 = 0 → wp_X10_no (-7 : Int32) σ (fun r4 s5 => Q r4 s5)) ∧ (¬ r3 = 0 → ((x1 < (gI σ 0 26) → ((x2 = 0 → (vp_in x1 40 ∧ Q (gI σ 15 (x1).toNatClampNeg) σ)) ∧ (¬ x2 = 0 → (vp_in x1 40 ∧ Q (gI σ 16 (x1).toNatClampNeg) σ)))) ∧ (¬ x1 < (gI σ 0 26) → Q (-1 : Int32) σ)))))))
def wl_X10_trouble : WP := fun As σ Q => p1r As (fun z0 r0 => onB (Nat.beq z0 0) (p1i r0 (fun x1 r1 => p1i r1 (fun x2 r2 => onB r2.isEmpty (wp_X10_trouble x1 x2 σ (fun x τ => Q (some (.int x)) τ))))))
def tb_X10_trouble : List (Nat × Instr × Nat) := [(0, (.iload_n 1, 1)), (1, (.ifCond .ge 11, 3)), (4, (.aload_n 0, 1)), (5, (.bipush (-4), 2)), (7, (.invokevirtual 118, 3)), (10, (.ireturn, 1)), (11, (.iload_n 2, 1)), (12, (.i2l, 1)), (13, (.lconst 0, 1)), (14, (.lconst 1, 1)), (15, (.invokestatic 133, 3)), (18, (.ifCond .ne 28, 3)), (21, (.aload_n 0, 1)), (22, (.bipush (-7), 2)), (24, (.invokevirtual 118, 3)), (27, (.ireturn, 1)), (28, (.iload_n 1, 1)), (29, (.aload_n 0, 1)), (30, (.getfield 194, 3)), (33, (.if_icmp .lt 38, 3)), (36, (.iconst (-1), 1)), (37, (.ireturn, 1)), (38, (.iload_n 2, 1)), (39, (.ifCond .ne 51, 3)), (42, (.aload_n 0, 1)), (43, (.getfield 57, 3)), (46, (.iload_n 1, 1)), (47, (.iaload, 1)), (48, (.goto 57, 3)), (51, (.aload_n 0, 1)), (52, (.getfield 60, 3)), (55, (.iload_n 1, 1)), (56, (.iaload, 1)), (57, (.ireturn, 1))]
def ce_X10_trouble : List (Nat × (Nat × Option Nat × WP)) := [(118, (2, some 10, wl_X10_no)), (133, (3, none, wl_X10_isIn))]
set_option maxRecDepth 100000 in
set_option maxHeartbeats 4000000 in
theorem ct_X10_trouble (l : Launch) : Con l wM yX10_trouble cX10_trouble 3 (some .int) 1 wl_X10_trouble := by
  refine sxm_ok l (ft := lkp ft_RX10) (c32 := lkp c32_RX10) (c64 := lkp c64_RX10) (ce := lkp ce_X10_trouble) (sf := lkp sf_RX10) (lab := lkp []) (T := tb_X10_trouble) (by decide +kernel) ft_RX10_ok c32_RX10_ok c64_RX10_ok (fun x q h => (show ∀ q ∈ ce_X10_trouble, ceOK l wM RX10 1 q.1 q.2.1 q.2.2.1 q.2.2.2 from List.forall_mem_cons.mpr ⟨Or.inr (Or.inr (Or.inr ⟨yX10_no, cX10_no, 2, (some .int), 0, ct_X10_no l, by decide, by decide, mi_X10_no.1, mi_X10_no.2, ml_RX10_118, mv_X10_no.1, mv_X10_no.2, ⟨_, _, rfl⟩, by decide, by decide +kernel⟩)), List.forall_mem_cons.mpr ⟨Or.inr (Or.inr (Or.inr ⟨yX10_isIn, cX10_isIn, 6, (some .boolean), 0, ct_X10_isIn l, by decide, by decide, mi_X10_isIn.1, mi_X10_isIn.2, Or.inl ml_RX10_133, ms_X10_isIn, by decide +kernel⟩)), fun _ h => absurd h List.not_mem_nil⟩⟩) (x, q) (lkp_mem h)) sf_RX10_ok (by decide +kernel) 400 (fun As σ Q h => ?_)
  replace h := p1r_e h
  obtain ⟨z0, q0, rfl, h⟩ := h
  replace h := onB_e h
  obtain ⟨e0, h⟩ := h
  have e0 := Nat.eq_of_beq_eq_true e0
  subst e0
  replace h := p1i_e h
  obtain ⟨x1, q1, rfl, h⟩ := h
  replace h := p1i_e h
  obtain ⟨x2, q2, rfl, h⟩ := h
  replace h := onB_e h
  obtain ⟨e9, h⟩ := h
  have e9 := List.isEmpty_iff.mp e9
  subst e9
  refine ⟨Nat.le_of_ble_eq_true rfl, fun P hP => ?_⟩
  exact h 
def wp_X10_way  (σ : Sg) (Q : Int32 → Sg → Prop) : Prop :=
  (((gI σ 0 33) = 0 → wp_X10_no (-2 : Int32) σ (fun r1 s2 => Q r1 s2)) ∧ (¬ (gI σ 0 33) = 0 → Q ((gI σ 0 33) - (1 : Int32)) σ))
def wl_X10_way : WP := fun As σ Q => p1r As (fun z0 r0 => onB (Nat.beq z0 0) (onB r0.isEmpty (wp_X10_way  σ (fun x τ => Q (some (.int x)) τ))))
def tb_X10_way : List (Nat × Instr × Nat) := [(0, (.aload_n 0, 1)), (1, (.getfield 197, 3)), (4, (.ifCond .ne 16, 3)), (7, (.aload_n 0, 1)), (8, (.bipush (-2), 2)), (10, (.invokevirtual 118, 3)), (13, (.goto 22, 3)), (16, (.aload_n 0, 1)), (17, (.getfield 197, 3)), (20, (.iconst 1, 1)), (21, (.isub, 1)), (22, (.ireturn, 1))]
def ce_X10_way : List (Nat × (Nat × Option Nat × WP)) := [(118, (2, some 10, wl_X10_no))]
set_option maxRecDepth 100000 in
set_option maxHeartbeats 4000000 in
theorem ct_X10_way (l : Launch) : Con l wM yX10_way cX10_way 1 (some .int) 1 wl_X10_way := by
  refine sxm_ok l (ft := lkp ft_RX10) (c32 := lkp c32_RX10) (c64 := lkp c64_RX10) (ce := lkp ce_X10_way) (sf := lkp sf_RX10) (lab := lkp []) (T := tb_X10_way) (by decide +kernel) ft_RX10_ok c32_RX10_ok c64_RX10_ok (fun x q h => (show ∀ q ∈ ce_X10_way, ceOK l wM RX10 1 q.1 q.2.1 q.2.2.1 q.2.2.2 from List.forall_mem_cons.mpr ⟨Or.inr (Or.inr (Or.inr ⟨yX10_no, cX10_no, 2, (some .int), 0, ct_X10_no l, by decide, by decide, mi_X10_no.1, mi_X10_no.2, ml_RX10_118, mv_X10_no.1, mv_X10_no.2, ⟨_, _, rfl⟩, by decide, by decide +kernel⟩)), fun _ h => absurd h List.not_mem_nil⟩) (x, q) (lkp_mem h)) sf_RX10_ok (by decide +kernel) 400 (fun As σ Q h => ?_)
  replace h := p1r_e h
  obtain ⟨z0, q0, rfl, h⟩ := h
  replace h := onB_e h
  obtain ⟨e0, h⟩ := h
  have e0 := Nat.eq_of_beq_eq_true e0
  subst e0
  replace h := onB_e h
  obtain ⟨e9, h⟩ := h
  have e9 := List.isEmpty_iff.mp e9
  subst e9
  refine ⟨Nat.le_of_ble_eq_true rfl, fun P hP => ?_⟩
  exact h 
def wp_X10_wayState (x1 : Int32) (σ : Sg) (Q : Int32 → Sg → Prop) : Prop :=
  (((gI σ 0 33) = 0 → wp_X10_no (-2 : Int32) σ (fun r1 s2 => Q r1 s2)) ∧ (¬ (gI σ 0 33) = 0 → wp_X10_isIn (x1).toInt64 (0 : Int64) (((gI σ 0 33) - (1 : Int32))).toInt64 σ (fun r3 => ((r3 = 0 → wp_X10_no (-3 : Int32) σ (fun r4 s5 => Q r4 s5)) ∧ (¬ r3 = 0 → (vp_in x1 40 ∧ Q (gI σ 19 (x1).toNatClampNeg) σ))))))
def wl_X10_wayState : WP := fun As σ Q => p1r As (fun z0 r0 => onB (Nat.beq z0 0) (p1i r0 (fun x1 r1 => onB r1.isEmpty (wp_X10_wayState x1 σ (fun x τ => Q (some (.int x)) τ)))))
def tb_X10_wayState : List (Nat × Instr × Nat) := [(0, (.aload_n 0, 1)), (1, (.getfield 197, 3)), (4, (.ifCond .ne 14, 3)), (7, (.aload_n 0, 1)), (8, (.bipush (-2), 2)), (10, (.invokevirtual 118, 3)), (13, (.ireturn, 1)), (14, (.iload_n 1, 1)), (15, (.i2l, 1)), (16, (.lconst 0, 1)), (17, (.aload_n 0, 1)), (18, (.getfield 197, 3)), (21, (.iconst 1, 1)), (22, (.isub, 1)), (23, (.i2l, 1)), (24, (.invokestatic 133, 3)), (27, (.ifCond .eq 39, 3)), (30, (.aload_n 0, 1)), (31, (.getfield 72, 3)), (34, (.iload_n 1, 1)), (35, (.iaload, 1)), (36, (.goto 45, 3)), (39, (.aload_n 0, 1)), (40, (.bipush (-3), 2)), (42, (.invokevirtual 118, 3)), (45, (.ireturn, 1))]
def ce_X10_wayState : List (Nat × (Nat × Option Nat × WP)) := [(118, (2, some 10, wl_X10_no)), (133, (3, none, wl_X10_isIn))]
set_option maxRecDepth 100000 in
set_option maxHeartbeats 4000000 in
theorem ct_X10_wayState (l : Launch) : Con l wM yX10_wayState cX10_wayState 2 (some .int) 1 wl_X10_wayState := by
  refine sxm_ok l (ft := lkp ft_RX10) (c32 := lkp c32_RX10) (c64 := lkp c64_RX10) (ce := lkp ce_X10_wayState) (sf := lkp sf_RX10) (lab := lkp []) (T := tb_X10_wayState) (by decide +kernel) ft_RX10_ok c32_RX10_ok c64_RX10_ok (fun x q h => (show ∀ q ∈ ce_X10_wayState, ceOK l wM RX10 1 q.1 q.2.1 q.2.2.1 q.2.2.2 from List.forall_mem_cons.mpr ⟨Or.inr (Or.inr (Or.inr ⟨yX10_no, cX10_no, 2, (some .int), 0, ct_X10_no l, by decide, by decide, mi_X10_no.1, mi_X10_no.2, ml_RX10_118, mv_X10_no.1, mv_X10_no.2, ⟨_, _, rfl⟩, by decide, by decide +kernel⟩)), List.forall_mem_cons.mpr ⟨Or.inr (Or.inr (Or.inr ⟨yX10_isIn, cX10_isIn, 6, (some .boolean), 0, ct_X10_isIn l, by decide, by decide, mi_X10_isIn.1, mi_X10_isIn.2, Or.inl ml_RX10_133, ms_X10_isIn, by decide +kernel⟩)), fun _ h => absurd h List.not_mem_nil⟩⟩) (x, q) (lkp_mem h)) sf_RX10_ok (by decide +kernel) 400 (fun As σ Q h => ?_)
  replace h := p1r_e h
  obtain ⟨z0, q0, rfl, h⟩ := h
  replace h := onB_e h
  obtain ⟨e0, h⟩ := h
  have e0 := Nat.eq_of_beq_eq_true e0
  subst e0
  replace h := p1i_e h
  obtain ⟨x1, q1, rfl, h⟩ := h
  replace h := onB_e h
  obtain ⟨e9, h⟩ := h
  have e9 := List.isEmpty_iff.mp e9
  subst e9
  refine ⟨Nat.le_of_ble_eq_true rfl, fun P hP => ?_⟩
  exact h 
def wp_X10_isCube (x1 : Int32) (x2 : Int32) (σ : Sg) (Q : Int32 → Prop) : Prop :=
  wp_X10_states σ (fun r1 => wp_X10_isIn (x1).toInt64 (0 : Int64) ((r1 - (1 : Int32))).toInt64 σ (fun r2 => ((r2 = 0 → (nz (0 : Int32) ∧ Q (0 : Int32))) ∧ (¬ r2 = 0 → ((x2 < 0 → (nz (0 : Int32) ∧ Q (0 : Int32))) ∧ (¬ x2 < 0 → (((x2 &&& (x1 ^^^ (-1 : Int32))) = 0 → (nz (1 : Int32) ∧ Q (1 : Int32))) ∧ (¬ (x2 &&& (x1 ^^^ (-1 : Int32))) = 0 → (nz (0 : Int32) ∧ Q (0 : Int32))))))))))
def wl_X10_isCube : WP := fun As σ Q => p1r As (fun z0 r0 => onB (Nat.beq z0 0) (p1i r0 (fun x1 r1 => p1i r1 (fun x2 r2 => onB r2.isEmpty (wp_X10_isCube x1 x2 σ (fun x => Q (some (.int x)) σ))))))
def tb_X10_isCube : List (Nat × Instr × Nat) := [(0, (.iload_n 1, 1)), (1, (.i2l, 1)), (2, (.lconst 0, 1)), (3, (.aload_n 0, 1)), (4, (.invokevirtual 161, 3)), (7, (.iconst 1, 1)), (8, (.isub, 1)), (9, (.i2l, 1)), (10, (.invokestatic 133, 3)), (13, (.ifCond .eq 32, 3)), (16, (.iload_n 2, 1)), (17, (.ifCond .lt 32, 3)), (20, (.iload_n 2, 1)), (21, (.iload_n 1, 1)), (22, (.iconst (-1), 1)), (23, (.ixor, 1)), (24, (.iand, 1)), (25, (.ifCond .ne 32, 3)), (28, (.iconst 1, 1)), (29, (.goto 33, 3)), (32, (.iconst 0, 1)), (33, (.ireturn, 1))]
def ce_X10_isCube : List (Nat × (Nat × Option Nat × WP)) := [(161, (1, some 10, wl_X10_states)), (133, (3, none, wl_X10_isIn))]
set_option maxRecDepth 100000 in
set_option maxHeartbeats 4000000 in
theorem ct_X10_isCube (l : Launch) : Con l wM yX10_isCube cX10_isCube 3 (some .boolean) 1 wl_X10_isCube := by
  refine sxm_ok l (ft := lkp ft_RX10) (c32 := lkp c32_RX10) (c64 := lkp c64_RX10) (ce := lkp ce_X10_isCube) (sf := lkp sf_RX10) (lab := lkp []) (T := tb_X10_isCube) (by decide +kernel) ft_RX10_ok c32_RX10_ok c64_RX10_ok (fun x q h => (show ∀ q ∈ ce_X10_isCube, ceOK l wM RX10 1 q.1 q.2.1 q.2.2.1 q.2.2.2 from List.forall_mem_cons.mpr ⟨Or.inr (Or.inr (Or.inr ⟨yX10_states, cX10_states, 1, (some .int), 0, ct_X10_states l, by decide, by decide, mi_X10_states.1, mi_X10_states.2, ml_RX10_161, mv_X10_states.1, mv_X10_states.2, ⟨_, _, rfl⟩, by decide, by decide +kernel⟩)), List.forall_mem_cons.mpr ⟨Or.inr (Or.inr (Or.inr ⟨yX10_isIn, cX10_isIn, 6, (some .boolean), 0, ct_X10_isIn l, by decide, by decide, mi_X10_isIn.1, mi_X10_isIn.2, Or.inl ml_RX10_133, ms_X10_isIn, by decide +kernel⟩)), fun _ h => absurd h List.not_mem_nil⟩⟩) (x, q) (lkp_mem h)) sf_RX10_ok (by decide +kernel) 400 (fun As σ Q h => ?_)
  replace h := p1r_e h
  obtain ⟨z0, q0, rfl, h⟩ := h
  replace h := onB_e h
  obtain ⟨e0, h⟩ := h
  have e0 := Nat.eq_of_beq_eq_true e0
  subst e0
  replace h := p1i_e h
  obtain ⟨x1, q1, rfl, h⟩ := h
  replace h := p1i_e h
  obtain ⟨x2, q2, rfl, h⟩ := h
  replace h := onB_e h
  obtain ⟨e9, h⟩ := h
  have e9 := List.isEmpty_iff.mp e9
  subst e9
  refine ⟨Nat.le_of_ble_eq_true rfl, fun P hP => ?_⟩
  exact h 
def wp_X10_cone  (σ : Sg) (Q : Int32 → Sg → Prop) : Prop :=
  ∀ L16 : Int32 → Sg → Prop,
  ∀ L53 : Int32 → Sg → Prop,
  ∀ L83 : Int32 → Sg → Prop,
  ∀ L93 : Int32 → Int32 → Sg → Prop,
  ∀ L176 : Int32 → Int32 → Sg → Prop,
  (∀ (x1 : Int32) (τ : Sg), ((x1 < (gI τ 0 5) → (¬ (2 : Int32) = 0 ∧ ((x1 = ((gI τ 0 9) / (2 : Int32)) → (vp_in x1 80 ∧ L16 (x1 + (1 : Int32)) (sI τ 21 (x1).toNatClampNeg (vp_nar .boolean (1 : Int32))))) ∧ (¬ x1 = ((gI τ 0 9) / (2 : Int32)) → (vp_in x1 80 ∧ L16 (x1 + (1 : Int32)) (sI τ 21 (x1).toNatClampNeg (vp_nar .boolean (0 : Int32)))))))) ∧ (¬ x1 < (gI τ 0 5) → L53 (0 : Int32) τ)) → L16 x1 τ) →
  (∀ (x1 : Int32) (τ : Sg), ((x1 < (gI τ 0 10) → (vp_in x1 4 ∧ (¬ (2 : Int32) = 0 ∧ (vp_in ((gI τ 6 (x1).toNatClampNeg) / (2 : Int32)) 80 ∧ L53 (x1 + (1 : Int32)) (sI τ 21 (((gI τ 6 (x1).toNatClampNeg) / (2 : Int32))).toNatClampNeg (vp_nar .boolean (1 : Int32))))))) ∧ (¬ x1 < (gI τ 0 10) → L83 (0 : Int32) τ)) → L53 x1 τ) →
  (∀ (x1 : Int32) (τ : Sg), ((x1 < (gI τ 0 5) → L93 x1 (0 : Int32) τ) ∧ (¬ x1 < (gI τ 0 5) → L176 (0 : Int32) (0 : Int32) τ)) → L83 x1 τ) →
  (∀ (x1 : Int32) (x2 : Int32) (τ : Sg), ((x2 < (gI τ 0 5) → (vp_in x2 80 ∧ (((gI τ 21 (x2).toNatClampNeg) = 0 → L93 x1 (x2 + (1 : Int32)) τ) ∧ (¬ (gI τ 21 (x2).toNatClampNeg) = 0 → (vp_in x2 80 ∧ (((gI τ 1 (x2).toNatClampNeg) = (3 : Int32) → L93 x1 (x2 + (1 : Int32)) τ) ∧ (¬ (gI τ 1 (x2).toNatClampNeg) = (3 : Int32) → (vp_in x2 80 ∧ (¬ (2 : Int32) = 0 ∧ (vp_in ((gI τ 2 (x2).toNatClampNeg) / (2 : Int32)) 80 ∧ (vp_in x2 80 ∧ (((gI (sI τ 21 (((gI τ 2 (x2).toNatClampNeg) / (2 : Int32))).toNatClampNeg (vp_nar .boolean (1 : Int32))) 1 (x2).toNatClampNeg) = 0 → (vp_in x2 80 ∧ (¬ (2 : Int32) = 0 ∧ (vp_in ((gI (sI τ 21 (((gI τ 2 (x2).toNatClampNeg) / (2 : Int32))).toNatClampNeg (vp_nar .boolean (1 : Int32))) 3 (x2).toNatClampNeg) / (2 : Int32)) 80 ∧ L93 x1 (x2 + (1 : Int32)) (sI (sI τ 21 (((gI τ 2 (x2).toNatClampNeg) / (2 : Int32))).toNatClampNeg (vp_nar .boolean (1 : Int32))) 21 (((gI (sI τ 21 (((gI τ 2 (x2).toNatClampNeg) / (2 : Int32))).toNatClampNeg (vp_nar .boolean (1 : Int32))) 3 (x2).toNatClampNeg) / (2 : Int32))).toNatClampNeg (vp_nar .boolean (1 : Int32))))))) ∧ (¬ (gI (sI τ 21 (((gI τ 2 (x2).toNatClampNeg) / (2 : Int32))).toNatClampNeg (vp_nar .boolean (1 : Int32))) 1 (x2).toNatClampNeg) = 0 → L93 x1 (x2 + (1 : Int32)) (sI τ 21 (((gI τ 2 (x2).toNatClampNeg) / (2 : Int32))).toNatClampNeg (vp_nar .boolean (1 : Int32)))))))))))))))) ∧ (¬ x2 < (gI τ 0 5) → L83 (x1 + (1 : Int32)) τ)) → L93 x1 x2 τ) →
  (∀ (x1 : Int32) (x2 : Int32) (τ : Sg), ((x2 < (gI τ 0 5) → (vp_in x2 80 ∧ (((gI τ 21 (x2).toNatClampNeg) = 0 → L176 (x1 ||| (0 : Int32)) (x2 + (1 : Int32)) τ) ∧ (¬ (gI τ 21 (x2).toNatClampNeg) = 0 → (vp_in x2 80 ∧ (((gI τ 1 (x2).toNatClampNeg) = (1 : Int32) → (vp_in x2 80 ∧ L176 (x1 ||| ((1 : Int32) <<< ((gI τ 4 (x2).toNatClampNeg) &&& 31))) (x2 + (1 : Int32)) τ)) ∧ (¬ (gI τ 1 (x2).toNatClampNeg) = (1 : Int32) → (vp_in x2 80 ∧ (((gI τ 1 (x2).toNatClampNeg) = (2 : Int32) → (vp_in x2 80 ∧ L176 (x1 ||| ((1 : Int32) <<< ((gI τ 4 (x2).toNatClampNeg) &&& 31))) (x2 + (1 : Int32)) τ)) ∧ (¬ (gI τ 1 (x2).toNatClampNeg) = (2 : Int32) → L176 (x1 ||| (0 : Int32)) (x2 + (1 : Int32)) τ)))))))))) ∧ (¬ x2 < (gI τ 0 5) → Q x1 τ)) → L176 x1 x2 τ) →
  (((gI σ 0 9) < 0 → wp_X10_no (-2 : Int32) σ (fun r1 s2 => Q r1 s2)) ∧ (¬ (gI σ 0 9) < 0 → L16 (0 : Int32) σ))
def wl_X10_cone : WP := fun As σ Q => p1r As (fun z0 r0 => onB (Nat.beq z0 0) (onB r0.isEmpty (wp_X10_cone  σ (fun x τ => Q (some (.int x)) τ))))
def tb_X10_cone : List (Nat × Instr × Nat) := [(0, (.aload_n 0, 1)), (1, (.getfield 26, 3)), (4, (.ifCond .ge 14, 3)), (7, (.aload_n 0, 1)), (8, (.bipush (-2), 2)), (10, (.invokevirtual 118, 3)), (13, (.ireturn, 1)), (14, (.iconst 0, 1)), (15, (.istore_n 1, 1)), (16, (.iload_n 1, 1)), (17, (.aload_n 0, 1)), (18, (.getfield 112, 3)), (21, (.if_icmp .ge 51, 3)), (24, (.aload_n 0, 1)), (25, (.getfield 78, 3)), (28, (.iload_n 1, 1)), (29, (.iload_n 1, 1)), (30, (.aload_n 0, 1)), (31, (.getfield 26, 3)), (34, (.iconst 2, 1)), (35, (.idiv, 1)), (36, (.if_icmp .ne 43, 3)), (39, (.iconst 1, 1)), (40, (.goto 44, 3)), (43, (.iconst 0, 1)), (44, (.bastore, 1)), (45, (.iinc 1 1, 3)), (48, (.goto 16, 3)), (51, (.iconst 0, 1)), (52, (.istore_n 1, 1)), (53, (.iload_n 1, 1)), (54, (.aload_n 0, 1)), (55, (.getfield 137, 3)), (58, (.if_icmp .ge 81, 3)), (61, (.aload_n 0, 1)), (62, (.getfield 78, 3)), (65, (.aload_n 0, 1)), (66, (.getfield 30, 3)), (69, (.iload_n 1, 1)), (70, (.iaload, 1)), (71, (.iconst 2, 1)), (72, (.idiv, 1)), (73, (.iconst 1, 1)), (74, (.bastore, 1)), (75, (.iinc 1 1, 3)), (78, (.goto 53, 3)), (81, (.iconst 0, 1)), (82, (.istore_n 1, 1)), (83, (.iload_n 1, 1)), (84, (.aload_n 0, 1)), (85, (.getfield 112, 3)), (88, (.if_icmp .ge 172, 3)), (91, (.iconst 0, 1)), (92, (.istore_n 2, 1)), (93, (.iload_n 2, 1)), (94, (.aload_n 0, 1)), (95, (.getfield 112, 3)), (98, (.if_icmp .ge 166, 3)), (101, (.aload_n 0, 1)), (102, (.getfield 78, 3)), (105, (.iload_n 2, 1)), (106, (.baload, 1)), (107, (.ifCond .eq 160, 3)), (110, (.aload_n 0, 1)), (111, (.getfield 7, 3)), (114, (.iload_n 2, 1)), (115, (.iaload, 1)), (116, (.iconst 3, 1)), (117, (.if_icmp .ne 123, 3)), (120, (.goto 160, 3)), (123, (.aload_n 0, 1)), (124, (.getfield 78, 3)), (127, (.aload_n 0, 1)), (128, (.getfield 13, 3)), (131, (.iload_n 2, 1)), (132, (.iaload, 1)), (133, (.iconst 2, 1)), (134, (.idiv, 1)), (135, (.iconst 1, 1)), (136, (.bastore, 1)), (137, (.aload_n 0, 1)), (138, (.getfield 7, 3)), (141, (.iload_n 2, 1)), (142, (.iaload, 1)), (143, (.ifCond .ne 160, 3)), (146, (.aload_n 0, 1)), (147, (.getfield 78, 3)), (150, (.aload_n 0, 1)), (151, (.getfield 16, 3)), (154, (.iload_n 2, 1)), (155, (.iaload, 1)), (156, (.iconst 2, 1)), (157, (.idiv, 1)), (158, (.iconst 1, 1)), (159, (.bastore, 1)), (160, (.iinc 2 1, 3)), (163, (.goto 93, 3)), (166, (.iinc 1 1, 3)), (169, (.goto 83, 3)), (172, (.iconst 0, 1)), (173, (.istore_n 1, 1)), (174, (.iconst 0, 1)), (175, (.istore_n 2, 1)), (176, (.iload_n 2, 1)), (177, (.aload_n 0, 1)), (178, (.getfield 112, 3)), (181, (.if_icmp .ge 234, 3)), (184, (.iload_n 1, 1)), (185, (.aload_n 0, 1)), (186, (.getfield 78, 3)), (189, (.iload_n 2, 1)), (190, (.baload, 1)), (191, (.ifCond .eq 225, 3)), (194, (.aload_n 0, 1)), (195, (.getfield 7, 3)), (198, (.iload_n 2, 1)), (199, (.iaload, 1)), (200, (.iconst 1, 1)), (201, (.if_icmp .eq 214, 3)), (204, (.aload_n 0, 1)), (205, (.getfield 7, 3)), (208, (.iload_n 2, 1)), (209, (.iaload, 1)), (210, (.iconst 2, 1)), (211, (.if_icmp .ne 225, 3)), (214, (.iconst 1, 1)), (215, (.aload_n 0, 1)), (216, (.getfield 19, 3)), (219, (.iload_n 2, 1)), (220, (.iaload, 1)), (221, (.ishl, 1)), (222, (.goto 226, 3)), (225, (.iconst 0, 1)), (226, (.ior, 1)), (227, (.istore_n 1, 1)), (228, (.iinc 2 1, 3)), (231, (.goto 176, 3)), (234, (.iload_n 1, 1)), (235, (.ireturn, 1))]
def ce_X10_cone : List (Nat × (Nat × Option Nat × WP)) := [(118, (2, some 10, wl_X10_no))]
set_option maxRecDepth 100000 in
set_option maxHeartbeats 4000000 in
theorem ct_X10_cone (l : Launch) : Con l wM yX10_cone cX10_cone 3 (some .int) 1 wl_X10_cone := by
  refine sxm_ok l (ft := lkp ft_RX10) (c32 := lkp c32_RX10) (c64 := lkp c64_RX10) (ce := lkp ce_X10_cone) (sf := lkp sf_RX10) (lab := lkp [(16, [0, 1]), (53, [0, 1]), (83, [0, 1]), (93, [0, 1, 2]), (176, [0, 1, 2])]) (T := tb_X10_cone) (by decide +kernel) ft_RX10_ok c32_RX10_ok c64_RX10_ok (fun x q h => (show ∀ q ∈ ce_X10_cone, ceOK l wM RX10 1 q.1 q.2.1 q.2.2.1 q.2.2.2 from List.forall_mem_cons.mpr ⟨Or.inr (Or.inr (Or.inr ⟨yX10_no, cX10_no, 2, (some .int), 0, ct_X10_no l, by decide, by decide, mi_X10_no.1, mi_X10_no.2, ml_RX10_118, mv_X10_no.1, mv_X10_no.2, ⟨_, _, rfl⟩, by decide, by decide +kernel⟩)), fun _ h => absurd h List.not_mem_nil⟩) (x, q) (lkp_mem h)) sf_RX10_ok (by decide +kernel) 400 (fun As σ Q h => ?_)
  replace h := p1r_e h
  obtain ⟨z0, q0, rfl, h⟩ := h
  replace h := onB_e h
  obtain ⟨e0, h⟩ := h
  have e0 := Nat.eq_of_beq_eq_true e0
  subst e0
  replace h := onB_e h
  obtain ⟨e9, h⟩ := h
  have e9 := List.isEmpty_iff.mp e9
  subst e9
  refine ⟨Nat.le_of_ble_eq_true rfl, fun P hP => ?_⟩
  exact h (fun x1 τ => P 16 [.ref 0, .int x1] τ) (fun x1 τ => P 53 [.ref 0, .int x1] τ) (fun x1 τ => P 83 [.ref 0, .int x1] τ) (fun x1 x2 τ => P 93 [.ref 0, .int x1, .int x2] τ) (fun x1 x2 τ => P 176 [.ref 0, .int x1, .int x2] τ) (fun x1 τ hb => hP 16 [.ref 0, .int x1] τ hb) (fun x1 τ hb => hP 53 [.ref 0, .int x1] τ hb) (fun x1 τ hb => hP 83 [.ref 0, .int x1] τ hb) (fun x1 x2 τ hb => hP 93 [.ref 0, .int x1, .int x2] τ hb) (fun x1 x2 τ hb => hP 176 [.ref 0, .int x1, .int x2] τ hb)
def wp_X10_fairAround (x1 : Int32) (σ : Sg) (Q : Int32 → Prop) : Prop :=
  ∀ L4 : Int32 → Int32 → Prop,
  ∀ L53 : Int32 → Int32 → Int32 → Prop,
  (∀ (x2 : Int32) (x3 : Int32), wp_X10_states σ (fun r1 => ((x3 < r1 → ((x3 = x1 → L53 x2 x3 (0 : Int32)) ∧ (¬ x3 = x1 → (vp_in (((256 : Int32) * x1) + x3) 65536 ∧ (((gI σ 22 ((((256 : Int32) * x1) + x3)).toNatClampNeg) = 0 → L4 x2 (x3 + (1 : Int32))) ∧ (¬ (gI σ 22 ((((256 : Int32) * x1) + x3)).toNatClampNeg) = 0 → (vp_in (((256 : Int32) * x3) + x1) 65536 ∧ (((gI σ 22 ((((256 : Int32) * x3) + x1)).toNatClampNeg) = 0 → L4 x2 (x3 + (1 : Int32))) ∧ (¬ (gI σ 22 ((((256 : Int32) * x3) + x1)).toNatClampNeg) = 0 → L53 x2 x3 (0 : Int32)))))))))) ∧ (¬ x3 < r1 → Q x2))) → L4 x2 x3) →
  (∀ (x2 : Int32) (x3 : Int32) (x4 : Int32), wp_X10_ways σ (fun r2 => ((x4 < r2 → (vp_in (((16 : Int32) * x3) + x4) 4096 ∧ (((gI σ 9 ((((16 : Int32) * x3) + x4)).toNatClampNeg) < 0 → L53 x2 x3 (x4 + (1 : Int32))) ∧ (¬ (gI σ 9 ((((16 : Int32) * x3) + x4)).toNatClampNeg) < 0 → (((gI σ 9 ((((16 : Int32) * x3) + x4)).toNatClampNeg) = x1 → (vp_in (((16 : Int32) * x3) + x4) 4096 ∧ L53 (x2 ||| (gI σ 10 ((((16 : Int32) * x3) + x4)).toNatClampNeg)) x3 (x4 + (1 : Int32)))) ∧ (¬ (gI σ 9 ((((16 : Int32) * x3) + x4)).toNatClampNeg) = x1 → (vp_in (((256 : Int32) * (gI σ 9 ((((16 : Int32) * x3) + x4)).toNatClampNeg)) + x1) 65536 ∧ (((gI σ 22 ((((256 : Int32) * (gI σ 9 ((((16 : Int32) * x3) + x4)).toNatClampNeg)) + x1)).toNatClampNeg) = 0 → L53 x2 x3 (x4 + (1 : Int32))) ∧ (¬ (gI σ 22 ((((256 : Int32) * (gI σ 9 ((((16 : Int32) * x3) + x4)).toNatClampNeg)) + x1)).toNatClampNeg) = 0 → (vp_in (((16 : Int32) * x3) + x4) 4096 ∧ L53 (x2 ||| (gI σ 10 ((((16 : Int32) * x3) + x4)).toNatClampNeg)) x3 (x4 + (1 : Int32)))))))))))) ∧ (¬ x4 < r2 → L4 x2 (x3 + (1 : Int32))))) → L53 x2 x3 x4) →
  L4 (0 : Int32) (0 : Int32)
def wl_X10_fairAround : WP := fun As σ Q => p1r As (fun z0 r0 => onB (Nat.beq z0 0) (p1i r0 (fun x1 r1 => onB r1.isEmpty (wp_X10_fairAround x1 σ (fun x => Q (some (.int x)) σ)))))
def tb_X10_fairAround : List (Nat × Instr × Nat) := [(0, (.iconst 0, 1)), (1, (.istore_n 2, 1)), (2, (.iconst 0, 1)), (3, (.istore_n 3, 1)), (4, (.iload_n 3, 1)), (5, (.aload_n 0, 1)), (6, (.invokevirtual 161, 3)), (9, (.if_icmp .ge 130, 3)), (12, (.iload_n 3, 1)), (13, (.iload_n 1, 1)), (14, (.if_icmp .eq 50, 3)), (17, (.aload_n 0, 1)), (18, (.getfield 82, 3)), (21, (.sipush 256, 3)), (24, (.iload_n 1, 1)), (25, (.imul, 1)), (26, (.iload_n 3, 1)), (27, (.iadd, 1)), (28, (.baload, 1)), (29, (.ifCond .eq 124, 3)), (32, (.aload_n 0, 1)), (33, (.getfield 82, 3)), (36, (.sipush 256, 3)), (39, (.iload_n 3, 1)), (40, (.imul, 1)), (41, (.iload_n 1, 1)), (42, (.iadd, 1)), (43, (.baload, 1)), (44, (.ifCond .ne 50, 3)), (47, (.goto 124, 3)), (50, (.iconst 0, 1)), (51, (.istore 4, 2)), (53, (.iload 4, 2)), (55, (.aload_n 0, 1)), (56, (.invokevirtual 165, 3)), (59, (.if_icmp .ge 124, 3)), (62, (.aload_n 0, 1)), (63, (.getfield 39, 3)), (66, (.bipush 16, 2)), (68, (.iload_n 3, 1)), (69, (.imul, 1)), (70, (.iload 4, 2)), (72, (.iadd, 1)), (73, (.iaload, 1)), (74, (.istore 5, 2)), (76, (.iload 5, 2)), (78, (.ifCond .lt 118, 3)), (81, (.iload 5, 2)), (83, (.iload_n 1, 1)), (84, (.if_icmp .eq 103, 3)), (87, (.aload_n 0, 1)), (88, (.getfield 82, 3)), (91, (.sipush 256, 3)), (94, (.iload 5, 2)), (96, (.imul, 1)), (97, (.iload_n 1, 1)), (98, (.iadd, 1)), (99, (.baload, 1)), (100, (.ifCond .eq 118, 3)), (103, (.iload_n 2, 1)), (104, (.aload_n 0, 1)), (105, (.getfield 42, 3)), (108, (.bipush 16, 2)), (110, (.iload_n 3, 1)), (111, (.imul, 1)), (112, (.iload 4, 2)), (114, (.iadd, 1)), (115, (.iaload, 1)), (116, (.ior, 1)), (117, (.istore_n 2, 1)), (118, (.iinc 4 1, 3)), (121, (.goto 53, 3)), (124, (.iinc 3 1, 3)), (127, (.goto 4, 3)), (130, (.iload_n 2, 1)), (131, (.ireturn, 1))]
def ce_X10_fairAround : List (Nat × (Nat × Option Nat × WP)) := [(161, (1, some 10, wl_X10_states)), (165, (1, some 10, wl_X10_ways))]
set_option maxRecDepth 100000 in
set_option maxHeartbeats 4000000 in
theorem ct_X10_fairAround (l : Launch) : Con l wM yX10_fairAround cX10_fairAround 6 (some .int) 1 wl_X10_fairAround := by
  refine sxm_ok l (ft := lkp ft_RX10) (c32 := lkp c32_RX10) (c64 := lkp c64_RX10) (ce := lkp ce_X10_fairAround) (sf := lkp sf_RX10) (lab := lkp [(4, [0, 1, 2, 3]), (53, [0, 1, 2, 3, 4])]) (T := tb_X10_fairAround) (by decide +kernel) ft_RX10_ok c32_RX10_ok c64_RX10_ok (fun x q h => (show ∀ q ∈ ce_X10_fairAround, ceOK l wM RX10 1 q.1 q.2.1 q.2.2.1 q.2.2.2 from List.forall_mem_cons.mpr ⟨Or.inr (Or.inr (Or.inr ⟨yX10_states, cX10_states, 1, (some .int), 0, ct_X10_states l, by decide, by decide, mi_X10_states.1, mi_X10_states.2, ml_RX10_161, mv_X10_states.1, mv_X10_states.2, ⟨_, _, rfl⟩, by decide, by decide +kernel⟩)), List.forall_mem_cons.mpr ⟨Or.inr (Or.inr (Or.inr ⟨yX10_ways, cX10_ways, 1, (some .int), 0, ct_X10_ways l, by decide, by decide, mi_X10_ways.1, mi_X10_ways.2, ml_RX10_165, mv_X10_ways.1, mv_X10_ways.2, ⟨_, _, rfl⟩, by decide, by decide +kernel⟩)), fun _ h => absurd h List.not_mem_nil⟩⟩) (x, q) (lkp_mem h)) sf_RX10_ok (by decide +kernel) 400 (fun As σ Q h => ?_)
  replace h := p1r_e h
  obtain ⟨z0, q0, rfl, h⟩ := h
  replace h := onB_e h
  obtain ⟨e0, h⟩ := h
  have e0 := Nat.eq_of_beq_eq_true e0
  subst e0
  replace h := p1i_e h
  obtain ⟨x1, q1, rfl, h⟩ := h
  replace h := onB_e h
  obtain ⟨e9, h⟩ := h
  have e9 := List.isEmpty_iff.mp e9
  subst e9
  refine ⟨Nat.le_of_ble_eq_true rfl, fun P hP => ?_⟩
  exact h (fun x2 x3 => P 4 [.ref 0, .int x1, .int x2, .int x3] σ) (fun x2 x3 x4 => P 53 [.ref 0, .int x1, .int x2, .int x3, .int x4] σ) (fun x2 x3 hb => hP 4 [.ref 0, .int x1, .int x2, .int x3] σ hb) (fun x2 x3 x4 hb => hP 53 [.ref 0, .int x1, .int x2, .int x3, .int x4] σ hb)
def wp_X10_take  (σ : Sg) (Q : Int32 → Sg → Prop) : Prop :=
  ∀ L40 : Int32 → Sg → Prop,
  (∀ (x1 : Int32) (τ : Sg), ((x1 < (gI τ 0 31) → (vp_in x1 200 ∧ (vp_in x1 100 ∧ (vp_in x1 200 ∧ (vp_in x1 100 ∧ L40 (x1 + (1 : Int32)) (sI (sI τ 23 (x1).toNatClampNeg (gI τ 17 (x1).toNatClampNeg)) 24 (x1).toNatClampNeg (gI (sI τ 23 (x1).toNatClampNeg (gI τ 17 (x1).toNatClampNeg)) 18 (x1).toNatClampNeg))))))) ∧ (¬ x1 < (gI τ 0 31) → Q (gI τ 0 39) τ)) → L40 x1 τ) →
  (((gI σ 0 31) < 0 → wp_X10_no (-2 : Int32) σ (fun r1 s2 => Q r1 s2)) ∧ (¬ (gI σ 0 31) < 0 → (((100 : Int32) < (gI σ 0 31) → wp_X10_no (-8 : Int32) σ (fun r3 s4 => Q r3 s4)) ∧ (¬ (100 : Int32) < (gI σ 0 31) → L40 (0 : Int32) (sI σ 0 39 (gI σ 0 31))))))
def wl_X10_take : WP := fun As σ Q => p1r As (fun z0 r0 => onB (Nat.beq z0 0) (onB r0.isEmpty (wp_X10_take  σ (fun x τ => Q (some (.int x)) τ))))
def tb_X10_take : List (Nat × Instr × Nat) := [(0, (.aload_n 0, 1)), (1, (.getfield 69, 3)), (4, (.ifCond .ge 14, 3)), (7, (.aload_n 0, 1)), (8, (.bipush (-2), 2)), (10, (.invokevirtual 118, 3)), (13, (.ireturn, 1)), (14, (.aload_n 0, 1)), (15, (.getfield 69, 3)), (18, (.bipush 100, 2)), (20, (.if_icmp .le 30, 3)), (23, (.aload_n 0, 1)), (24, (.bipush (-8), 2)), (26, (.invokevirtual 118, 3)), (29, (.ireturn, 1)), (30, (.aload_n 0, 1)), (31, (.aload_n 0, 1)), (32, (.getfield 69, 3)), (35, (.putfield 151, 3)), (38, (.iconst 0, 1)), (39, (.istore_n 1, 1)), (40, (.iload_n 1, 1)), (41, (.aload_n 0, 1)), (42, (.getfield 69, 3)), (45, (.if_icmp .ge 78, 3)), (48, (.aload_n 0, 1)), (49, (.getfield 85, 3)), (52, (.iload_n 1, 1)), (53, (.aload_n 0, 1)), (54, (.getfield 63, 3)), (57, (.iload_n 1, 1)), (58, (.iaload, 1)), (59, (.iastore, 1)), (60, (.aload_n 0, 1)), (61, (.getfield 88, 3)), (64, (.iload_n 1, 1)), (65, (.aload_n 0, 1)), (66, (.getfield 66, 3)), (69, (.iload_n 1, 1)), (70, (.iaload, 1)), (71, (.iastore, 1)), (72, (.iinc 1 1, 3)), (75, (.goto 40, 3)), (78, (.aload_n 0, 1)), (79, (.getfield 151, 3)), (82, (.ireturn, 1))]
def ce_X10_take : List (Nat × (Nat × Option Nat × WP)) := [(118, (2, some 10, wl_X10_no))]
set_option maxRecDepth 100000 in
set_option maxHeartbeats 4000000 in
theorem ct_X10_take (l : Launch) : Con l wM yX10_take cX10_take 2 (some .int) 1 wl_X10_take := by
  refine sxm_ok l (ft := lkp ft_RX10) (c32 := lkp c32_RX10) (c64 := lkp c64_RX10) (ce := lkp ce_X10_take) (sf := lkp sf_RX10) (lab := lkp [(40, [0, 1])]) (T := tb_X10_take) (by decide +kernel) ft_RX10_ok c32_RX10_ok c64_RX10_ok (fun x q h => (show ∀ q ∈ ce_X10_take, ceOK l wM RX10 1 q.1 q.2.1 q.2.2.1 q.2.2.2 from List.forall_mem_cons.mpr ⟨Or.inr (Or.inr (Or.inr ⟨yX10_no, cX10_no, 2, (some .int), 0, ct_X10_no l, by decide, by decide, mi_X10_no.1, mi_X10_no.2, ml_RX10_118, mv_X10_no.1, mv_X10_no.2, ⟨_, _, rfl⟩, by decide, by decide +kernel⟩)), fun _ h => absurd h List.not_mem_nil⟩) (x, q) (lkp_mem h)) sf_RX10_ok (by decide +kernel) 400 (fun As σ Q h => ?_)
  replace h := p1r_e h
  obtain ⟨z0, q0, rfl, h⟩ := h
  replace h := onB_e h
  obtain ⟨e0, h⟩ := h
  have e0 := Nat.eq_of_beq_eq_true e0
  subst e0
  replace h := onB_e h
  obtain ⟨e9, h⟩ := h
  have e9 := List.isEmpty_iff.mp e9
  subst e9
  refine ⟨Nat.le_of_ble_eq_true rfl, fun P hP => ?_⟩
  exact h (fun x1 τ => P 40 [.ref 0, .int x1] τ) (fun x1 τ hb => hP 40 [.ref 0, .int x1] τ hb)
def wp_X10_forge (x1 : Int32) (x2 : Int32) (x3 : Int32) (σ : Sg) (Q : Int32 → Sg → Prop) : Prop :=
  wp_X10_isIn (x1).toInt64 (0 : Int64) (((gI σ 0 39) - (1 : Int32))).toInt64 σ (fun r1 => ((r1 = 0 → wp_X10_no (-3 : Int32) σ (fun r2 s3 => Q r2 s3)) ∧ (¬ r1 = 0 → wp_X10_isIn (x2).toInt64 (0 : Int64) (((gI σ 0 6) - (1 : Int32))).toInt64 σ (fun r4 => ((r4 = 0 → wp_X10_no (-3 : Int32) σ (fun r5 s6 => Q r5 s6)) ∧ (¬ r4 = 0 → (vp_in x1 100 ∧ (((((gI σ 23 (x1).toNatClampNeg) >>> (x2 &&& 31)) &&& (1 : Int32)) = (1 : Int32) → ((x3 = 0 → (((1 : Int32) = 0 → wp_X10_no (-7 : Int32) σ (fun r7 s8 => Q r7 s8)) ∧ (¬ (1 : Int32) = 0 → ((x3 = 0 → (vp_in x1 100 ∧ (vp_in x1 100 ∧ Q (1 : Int32) (sI σ 24 (x1).toNatClampNeg ((gI σ 24 (x1).toNatClampNeg) ^^^ ((1 : Int32) <<< (x2 &&& 31))))))) ∧ (¬ x3 = 0 → (vp_in x1 100 ∧ (vp_in x1 100 ∧ (vp_in x1 100 ∧ (vp_in x1 100 ∧ Q (1 : Int32) (sI (sI σ 23 (x1).toNatClampNeg ((gI σ 23 (x1).toNatClampNeg) ^^^ ((1 : Int32) <<< (x2 &&& 31)))) 24 (x1).toNatClampNeg ((gI (sI σ 23 (x1).toNatClampNeg ((gI σ 23 (x1).toNatClampNeg) ^^^ ((1 : Int32) <<< (x2 &&& 31)))) 24 (x1).toNatClampNeg) &&& (((1 : Int32) <<< (x2 &&& 31)) ^^^ (-1 : Int32))))))))))))) ∧ (¬ x3 = 0 → ((x3 = 0 → (vp_in x1 100 ∧ (vp_in x1 100 ∧ Q (1 : Int32) (sI σ 24 (x1).toNatClampNeg ((gI σ 24 (x1).toNatClampNeg) ^^^ ((1 : Int32) <<< (x2 &&& 31))))))) ∧ (¬ x3 = 0 → (vp_in x1 100 ∧ (vp_in x1 100 ∧ (vp_in x1 100 ∧ (vp_in x1 100 ∧ Q (1 : Int32) (sI (sI σ 23 (x1).toNatClampNeg ((gI σ 23 (x1).toNatClampNeg) ^^^ ((1 : Int32) <<< (x2 &&& 31)))) 24 (x1).toNatClampNeg ((gI (sI σ 23 (x1).toNatClampNeg ((gI σ 23 (x1).toNatClampNeg) ^^^ ((1 : Int32) <<< (x2 &&& 31)))) 24 (x1).toNatClampNeg) &&& (((1 : Int32) <<< (x2 &&& 31)) ^^^ (-1 : Int32))))))))))))) ∧ (¬ (((gI σ 23 (x1).toNatClampNeg) >>> (x2 &&& 31)) &&& (1 : Int32)) = (1 : Int32) → ((x3 = 0 → (((0 : Int32) = 0 → wp_X10_no (-7 : Int32) σ (fun r9 s10 => Q r9 s10)) ∧ (¬ (0 : Int32) = 0 → ((x3 = 0 → (vp_in x1 100 ∧ (vp_in x1 100 ∧ Q (1 : Int32) (sI σ 24 (x1).toNatClampNeg ((gI σ 24 (x1).toNatClampNeg) ^^^ ((1 : Int32) <<< (x2 &&& 31))))))) ∧ (¬ x3 = 0 → (vp_in x1 100 ∧ (vp_in x1 100 ∧ (vp_in x1 100 ∧ (vp_in x1 100 ∧ Q (1 : Int32) (sI (sI σ 23 (x1).toNatClampNeg ((gI σ 23 (x1).toNatClampNeg) ^^^ ((1 : Int32) <<< (x2 &&& 31)))) 24 (x1).toNatClampNeg ((gI (sI σ 23 (x1).toNatClampNeg ((gI σ 23 (x1).toNatClampNeg) ^^^ ((1 : Int32) <<< (x2 &&& 31)))) 24 (x1).toNatClampNeg) &&& (((1 : Int32) <<< (x2 &&& 31)) ^^^ (-1 : Int32))))))))))))) ∧ (¬ x3 = 0 → ((x3 = 0 → (vp_in x1 100 ∧ (vp_in x1 100 ∧ Q (1 : Int32) (sI σ 24 (x1).toNatClampNeg ((gI σ 24 (x1).toNatClampNeg) ^^^ ((1 : Int32) <<< (x2 &&& 31))))))) ∧ (¬ x3 = 0 → (vp_in x1 100 ∧ (vp_in x1 100 ∧ (vp_in x1 100 ∧ (vp_in x1 100 ∧ Q (1 : Int32) (sI (sI σ 23 (x1).toNatClampNeg ((gI σ 23 (x1).toNatClampNeg) ^^^ ((1 : Int32) <<< (x2 &&& 31)))) 24 (x1).toNatClampNeg ((gI (sI σ 23 (x1).toNatClampNeg ((gI σ 23 (x1).toNatClampNeg) ^^^ ((1 : Int32) <<< (x2 &&& 31)))) 24 (x1).toNatClampNeg) &&& (((1 : Int32) <<< (x2 &&& 31)) ^^^ (-1 : Int32)))))))))))))))))))))
def wl_X10_forge : WP := fun As σ Q => p1r As (fun z0 r0 => onB (Nat.beq z0 0) (p1i r0 (fun x1 r1 => p1i r1 (fun x2 r2 => p1i r2 (fun x3 r3 => onB r3.isEmpty (wp_X10_forge x1 x2 x3 σ (fun x τ => Q (some (.int x)) τ)))))))
def tb_X10_forge : List (Nat × Instr × Nat) := [(0, (.iload_n 1, 1)), (1, (.i2l, 1)), (2, (.lconst 0, 1)), (3, (.aload_n 0, 1)), (4, (.getfield 151, 3)), (7, (.iconst 1, 1)), (8, (.isub, 1)), (9, (.i2l, 1)), (10, (.invokestatic 133, 3)), (13, (.ifCond .eq 32, 3)), (16, (.iload_n 2, 1)), (17, (.i2l, 1)), (18, (.lconst 0, 1)), (19, (.aload_n 0, 1)), (20, (.getfield 106, 3)), (23, (.iconst 1, 1)), (24, (.isub, 1)), (25, (.i2l, 1)), (26, (.invokestatic 133, 3)), (29, (.ifCond .ne 39, 3)), (32, (.aload_n 0, 1)), (33, (.bipush (-3), 2)), (35, (.invokevirtual 118, 3)), (38, (.ireturn, 1)), (39, (.aload_n 0, 1)), (40, (.getfield 85, 3)), (43, (.iload_n 1, 1)), (44, (.iaload, 1)), (45, (.iload_n 2, 1)), (46, (.ishr, 1)), (47, (.iconst 1, 1)), (48, (.iand, 1)), (49, (.iconst 1, 1)), (50, (.if_icmp .ne 57, 3)), (53, (.iconst 1, 1)), (54, (.goto 58, 3)), (57, (.iconst 0, 1)), (58, (.istore 4, 2)), (60, (.iload_n 3, 1)), (61, (.ifCond .ne 76, 3)), (64, (.iload 4, 2)), (66, (.ifCond .ne 76, 3)), (69, (.aload_n 0, 1)), (70, (.bipush (-7), 2)), (72, (.invokevirtual 118, 3)), (75, (.ireturn, 1)), (76, (.iload_n 3, 1)), (77, (.ifCond .eq 109, 3)), (80, (.aload_n 0, 1)), (81, (.getfield 85, 3)), (84, (.iload_n 1, 1)), (85, (.dup2, 1)), (86, (.iaload, 1)), (87, (.iconst 1, 1)), (88, (.iload_n 2, 1)), (89, (.ishl, 1)), (90, (.ixor, 1)), (91, (.iastore, 1)), (92, (.aload_n 0, 1)), (93, (.getfield 88, 3)), (96, (.iload_n 1, 1)), (97, (.dup2, 1)), (98, (.iaload, 1)), (99, (.iconst 1, 1)), (100, (.iload_n 2, 1)), (101, (.ishl, 1)), (102, (.iconst (-1), 1)), (103, (.ixor, 1)), (104, (.iand, 1)), (105, (.iastore, 1)), (106, (.goto 121, 3)), (109, (.aload_n 0, 1)), (110, (.getfield 88, 3)), (113, (.iload_n 1, 1)), (114, (.dup2, 1)), (115, (.iaload, 1)), (116, (.iconst 1, 1)), (117, (.iload_n 2, 1)), (118, (.ishl, 1)), (119, (.ixor, 1)), (120, (.iastore, 1)), (121, (.iconst 1, 1)), (122, (.ireturn, 1))]
def ce_X10_forge : List (Nat × (Nat × Option Nat × WP)) := [(133, (3, none, wl_X10_isIn)), (118, (2, some 10, wl_X10_no))]
set_option maxRecDepth 100000 in
set_option maxHeartbeats 4000000 in
theorem ct_X10_forge (l : Launch) : Con l wM yX10_forge cX10_forge 5 (some .int) 1 wl_X10_forge := by
  refine sxm_ok l (ft := lkp ft_RX10) (c32 := lkp c32_RX10) (c64 := lkp c64_RX10) (ce := lkp ce_X10_forge) (sf := lkp sf_RX10) (lab := lkp []) (T := tb_X10_forge) (by decide +kernel) ft_RX10_ok c32_RX10_ok c64_RX10_ok (fun x q h => (show ∀ q ∈ ce_X10_forge, ceOK l wM RX10 1 q.1 q.2.1 q.2.2.1 q.2.2.2 from List.forall_mem_cons.mpr ⟨Or.inr (Or.inr (Or.inr ⟨yX10_isIn, cX10_isIn, 6, (some .boolean), 0, ct_X10_isIn l, by decide, by decide, mi_X10_isIn.1, mi_X10_isIn.2, Or.inl ml_RX10_133, ms_X10_isIn, by decide +kernel⟩)), List.forall_mem_cons.mpr ⟨Or.inr (Or.inr (Or.inr ⟨yX10_no, cX10_no, 2, (some .int), 0, ct_X10_no l, by decide, by decide, mi_X10_no.1, mi_X10_no.2, ml_RX10_118, mv_X10_no.1, mv_X10_no.2, ⟨_, _, rfl⟩, by decide, by decide +kernel⟩)), fun _ h => absurd h List.not_mem_nil⟩⟩) (x, q) (lkp_mem h)) sf_RX10_ok (by decide +kernel) 400 (fun As σ Q h => ?_)
  replace h := p1r_e h
  obtain ⟨z0, q0, rfl, h⟩ := h
  replace h := onB_e h
  obtain ⟨e0, h⟩ := h
  have e0 := Nat.eq_of_beq_eq_true e0
  subst e0
  replace h := p1i_e h
  obtain ⟨x1, q1, rfl, h⟩ := h
  replace h := p1i_e h
  obtain ⟨x2, q2, rfl, h⟩ := h
  replace h := p1i_e h
  obtain ⟨x3, q3, rfl, h⟩ := h
  replace h := onB_e h
  obtain ⟨e9, h⟩ := h
  have e9 := List.isEmpty_iff.mp e9
  subst e9
  refine ⟨Nat.le_of_ble_eq_true rfl, fun P hP => ?_⟩
  exact h 
def wp_X10_isLeft (x1 : Int32) (x2 : Int32) (σ : Sg) (Q : Int32 → Prop) : Prop :=
  ∀ L2 : Int32 → Prop,
  (∀ (x3 : Int32), ((x3 < (gI σ 0 39) → ((x3 = x2 → L2 (x3 + (1 : Int32))) ∧ (¬ x3 = x2 → (vp_in x3 100 ∧ (vp_in x3 100 ∧ wp_X10_isInCube x1 (gI σ 23 (x3).toNatClampNeg) (gI σ 24 (x3).toNatClampNeg) σ (fun r1 => ((r1 = 0 → L2 (x3 + (1 : Int32))) ∧ (¬ r1 = 0 → (nz (0 : Int32) ∧ Q (0 : Int32)))))))))) ∧ (¬ x3 < (gI σ 0 39) → (nz (1 : Int32) ∧ Q (1 : Int32)))) → L2 x3) →
  L2 (0 : Int32)
def wl_X10_isLeft : WP := fun As σ Q => p1r As (fun z0 r0 => onB (Nat.beq z0 0) (p1i r0 (fun x1 r1 => p1i r1 (fun x2 r2 => onB r2.isEmpty (wp_X10_isLeft x1 x2 σ (fun x => Q (some (.int x)) σ))))))
def tb_X10_isLeft : List (Nat × Instr × Nat) := [(0, (.iconst 0, 1)), (1, (.istore_n 3, 1)), (2, (.iload_n 3, 1)), (3, (.aload_n 0, 1)), (4, (.getfield 151, 3)), (7, (.if_icmp .ge 42, 3)), (10, (.iload_n 3, 1)), (11, (.iload_n 2, 1)), (12, (.if_icmp .eq 36, 3)), (15, (.iload_n 1, 1)), (16, (.aload_n 0, 1)), (17, (.getfield 85, 3)), (20, (.iload_n 3, 1)), (21, (.iaload, 1)), (22, (.aload_n 0, 1)), (23, (.getfield 88, 3)), (26, (.iload_n 3, 1)), (27, (.iaload, 1)), (28, (.invokestatic 200, 3)), (31, (.ifCond .eq 36, 3)), (34, (.iconst 0, 1)), (35, (.ireturn, 1)), (36, (.iinc 3 1, 3)), (39, (.goto 2, 3)), (42, (.iconst 1, 1)), (43, (.ireturn, 1))]
def ce_X10_isLeft : List (Nat × (Nat × Option Nat × WP)) := [(200, (3, none, wl_X10_isInCube))]
set_option maxRecDepth 100000 in
set_option maxHeartbeats 4000000 in
theorem ct_X10_isLeft (l : Launch) : Con l wM yX10_isLeft cX10_isLeft 4 (some .boolean) 1 wl_X10_isLeft := by
  refine sxm_ok l (ft := lkp ft_RX10) (c32 := lkp c32_RX10) (c64 := lkp c64_RX10) (ce := lkp ce_X10_isLeft) (sf := lkp sf_RX10) (lab := lkp [(2, [0, 1, 2, 3])]) (T := tb_X10_isLeft) (by decide +kernel) ft_RX10_ok c32_RX10_ok c64_RX10_ok (fun x q h => (show ∀ q ∈ ce_X10_isLeft, ceOK l wM RX10 1 q.1 q.2.1 q.2.2.1 q.2.2.2 from List.forall_mem_cons.mpr ⟨Or.inr (Or.inr (Or.inr ⟨yX10_isInCube, cX10_isInCube, 3, (some .boolean), 0, ct_X10_isInCube l, by decide, by decide, mi_X10_isInCube.1, mi_X10_isInCube.2, Or.inl ml_RX10_200, ms_X10_isInCube, by decide +kernel⟩)), fun _ h => absurd h List.not_mem_nil⟩) (x, q) (lkp_mem h)) sf_RX10_ok (by decide +kernel) 400 (fun As σ Q h => ?_)
  replace h := p1r_e h
  obtain ⟨z0, q0, rfl, h⟩ := h
  replace h := onB_e h
  obtain ⟨e0, h⟩ := h
  have e0 := Nat.eq_of_beq_eq_true e0
  subst e0
  replace h := p1i_e h
  obtain ⟨x1, q1, rfl, h⟩ := h
  replace h := p1i_e h
  obtain ⟨x2, q2, rfl, h⟩ := h
  replace h := onB_e h
  obtain ⟨e9, h⟩ := h
  have e9 := List.isEmpty_iff.mp e9
  subst e9
  refine ⟨Nat.le_of_ble_eq_true rfl, fun P hP => ?_⟩
  exact h (fun x3 => P 2 [.ref 0, .int x1, .int x2, .int x3] σ) (fun x3 hb => hP 2 [.ref 0, .int x1, .int x2, .int x3] σ hb)
def wp_X10_fails (x1 : Int32) (σ : Sg) (Q : Int32 → Sg → Prop) : Prop :=
  wp_X10_isIn (x1).toInt64 (0 : Int64) (1 : Int64) σ (fun r1 => ((r1 = 0 → wp_X10_no (-7 : Int32) σ (fun r2 s3 => Q r2 s3)) ∧ (¬ r1 = 0 → ((x1 = 0 → Q (gI σ 0 40) σ) ∧ (¬ x1 = 0 → Q (gI σ 0 41) σ)))))
def wl_X10_fails : WP := fun As σ Q => p1r As (fun z0 r0 => onB (Nat.beq z0 0) (p1i r0 (fun x1 r1 => onB r1.isEmpty (wp_X10_fails x1 σ (fun x τ => Q (some (.int x)) τ)))))
def tb_X10_fails : List (Nat × Instr × Nat) := [(0, (.iload_n 1, 1)), (1, (.i2l, 1)), (2, (.lconst 0, 1)), (3, (.lconst 1, 1)), (4, (.invokestatic 133, 3)), (7, (.ifCond .ne 17, 3)), (10, (.aload_n 0, 1)), (11, (.bipush (-7), 2)), (13, (.invokevirtual 118, 3)), (16, (.ireturn, 1)), (17, (.iload_n 1, 1)), (18, (.ifCond .ne 28, 3)), (21, (.aload_n 0, 1)), (22, (.getfield 91, 3)), (25, (.goto 32, 3)), (28, (.aload_n 0, 1)), (29, (.getfield 94, 3)), (32, (.ireturn, 1))]
def ce_X10_fails : List (Nat × (Nat × Option Nat × WP)) := [(133, (3, none, wl_X10_isIn)), (118, (2, some 10, wl_X10_no))]
set_option maxRecDepth 100000 in
set_option maxHeartbeats 4000000 in
theorem ct_X10_fails (l : Launch) : Con l wM yX10_fails cX10_fails 2 (some .int) 1 wl_X10_fails := by
  refine sxm_ok l (ft := lkp ft_RX10) (c32 := lkp c32_RX10) (c64 := lkp c64_RX10) (ce := lkp ce_X10_fails) (sf := lkp sf_RX10) (lab := lkp []) (T := tb_X10_fails) (by decide +kernel) ft_RX10_ok c32_RX10_ok c64_RX10_ok (fun x q h => (show ∀ q ∈ ce_X10_fails, ceOK l wM RX10 1 q.1 q.2.1 q.2.2.1 q.2.2.2 from List.forall_mem_cons.mpr ⟨Or.inr (Or.inr (Or.inr ⟨yX10_isIn, cX10_isIn, 6, (some .boolean), 0, ct_X10_isIn l, by decide, by decide, mi_X10_isIn.1, mi_X10_isIn.2, Or.inl ml_RX10_133, ms_X10_isIn, by decide +kernel⟩)), List.forall_mem_cons.mpr ⟨Or.inr (Or.inr (Or.inr ⟨yX10_no, cX10_no, 2, (some .int), 0, ct_X10_no l, by decide, by decide, mi_X10_no.1, mi_X10_no.2, ml_RX10_118, mv_X10_no.1, mv_X10_no.2, ⟨_, _, rfl⟩, by decide, by decide +kernel⟩)), fun _ h => absurd h List.not_mem_nil⟩⟩) (x, q) (lkp_mem h)) sf_RX10_ok (by decide +kernel) 400 (fun As σ Q h => ?_)
  replace h := p1r_e h
  obtain ⟨z0, q0, rfl, h⟩ := h
  replace h := onB_e h
  obtain ⟨e0, h⟩ := h
  have e0 := Nat.eq_of_beq_eq_true e0
  subst e0
  replace h := p1i_e h
  obtain ⟨x1, q1, rfl, h⟩ := h
  replace h := onB_e h
  obtain ⟨e9, h⟩ := h
  have e9 := List.isEmpty_iff.mp e9
  subst e9
  refine ⟨Nat.le_of_ble_eq_true rfl, fun P hP => ?_⟩
  exact h 
def wp_X10_listed (x1 : Int32) (x2 : Int32) (σ : Sg) (Q : Int32 → Sg → Prop) : Prop :=
  wp_X10_isIn (x1).toInt64 (0 : Int64) (((gI σ 0 39) - (1 : Int32))).toInt64 σ (fun r1 => ((r1 = 0 → wp_X10_no (-3 : Int32) σ (fun r2 s3 => Q r2 s3)) ∧ (¬ r1 = 0 → ((x2 = 0 → (vp_in x1 100 ∧ Q (gI σ 23 (x1).toNatClampNeg) σ)) ∧ (¬ x2 = 0 → (vp_in x1 100 ∧ Q (gI σ 24 (x1).toNatClampNeg) σ))))))
def wl_X10_listed : WP := fun As σ Q => p1r As (fun z0 r0 => onB (Nat.beq z0 0) (p1i r0 (fun x1 r1 => p1i r1 (fun x2 r2 => onB r2.isEmpty (wp_X10_listed x1 x2 σ (fun x τ => Q (some (.int x)) τ))))))
def tb_X10_listed : List (Nat × Instr × Nat) := [(0, (.iload_n 1, 1)), (1, (.i2l, 1)), (2, (.lconst 0, 1)), (3, (.aload_n 0, 1)), (4, (.getfield 151, 3)), (7, (.iconst 1, 1)), (8, (.isub, 1)), (9, (.i2l, 1)), (10, (.invokestatic 133, 3)), (13, (.ifCond .ne 23, 3)), (16, (.aload_n 0, 1)), (17, (.bipush (-3), 2)), (19, (.invokevirtual 118, 3)), (22, (.ireturn, 1)), (23, (.iload_n 2, 1)), (24, (.ifCond .eq 36, 3)), (27, (.aload_n 0, 1)), (28, (.getfield 88, 3)), (31, (.iload_n 1, 1)), (32, (.iaload, 1)), (33, (.goto 42, 3)), (36, (.aload_n 0, 1)), (37, (.getfield 85, 3)), (40, (.iload_n 1, 1)), (41, (.iaload, 1)), (42, (.ireturn, 1))]
def ce_X10_listed : List (Nat × (Nat × Option Nat × WP)) := [(133, (3, none, wl_X10_isIn)), (118, (2, some 10, wl_X10_no))]
set_option maxRecDepth 100000 in
set_option maxHeartbeats 4000000 in
theorem ct_X10_listed (l : Launch) : Con l wM yX10_listed cX10_listed 3 (some .int) 1 wl_X10_listed := by
  refine sxm_ok l (ft := lkp ft_RX10) (c32 := lkp c32_RX10) (c64 := lkp c64_RX10) (ce := lkp ce_X10_listed) (sf := lkp sf_RX10) (lab := lkp []) (T := tb_X10_listed) (by decide +kernel) ft_RX10_ok c32_RX10_ok c64_RX10_ok (fun x q h => (show ∀ q ∈ ce_X10_listed, ceOK l wM RX10 1 q.1 q.2.1 q.2.2.1 q.2.2.2 from List.forall_mem_cons.mpr ⟨Or.inr (Or.inr (Or.inr ⟨yX10_isIn, cX10_isIn, 6, (some .boolean), 0, ct_X10_isIn l, by decide, by decide, mi_X10_isIn.1, mi_X10_isIn.2, Or.inl ml_RX10_133, ms_X10_isIn, by decide +kernel⟩)), List.forall_mem_cons.mpr ⟨Or.inr (Or.inr (Or.inr ⟨yX10_no, cX10_no, 2, (some .int), 0, ct_X10_no l, by decide, by decide, mi_X10_no.1, mi_X10_no.2, ml_RX10_118, mv_X10_no.1, mv_X10_no.2, ⟨_, _, rfl⟩, by decide, by decide +kernel⟩)), fun _ h => absurd h List.not_mem_nil⟩⟩) (x, q) (lkp_mem h)) sf_RX10_ok (by decide +kernel) 400 (fun As σ Q h => ?_)
  replace h := p1r_e h
  obtain ⟨z0, q0, rfl, h⟩ := h
  replace h := onB_e h
  obtain ⟨e0, h⟩ := h
  have e0 := Nat.eq_of_beq_eq_true e0
  subst e0
  replace h := p1i_e h
  obtain ⟨x1, q1, rfl, h⟩ := h
  replace h := p1i_e h
  obtain ⟨x2, q2, rfl, h⟩ := h
  replace h := onB_e h
  obtain ⟨e9, h⟩ := h
  have e9 := List.isEmpty_iff.mp e9
  subst e9
  refine ⟨Nat.le_of_ble_eq_true rfl, fun P hP => ?_⟩
  exact h 
def wp_X10_row (x1 : Int32) (σ : Sg) (Q : Int32 → Sg → Prop) : Prop :=
  (((gI σ 0 46) < 0 → wp_X10_no (-2 : Int32) σ (fun r1 s2 => Q r1 s2)) ∧ (¬ (gI σ 0 46) < 0 → wp_X10_isIn (x1).toInt64 (0 : Int64) (((gI σ 0 46) - (1 : Int32))).toInt64 σ (fun r3 => ((r3 = 0 → wp_X10_no (-3 : Int32) σ (fun r4 s5 => Q r4 s5)) ∧ (¬ r3 = 0 → (vp_in x1 80 ∧ Q (gI σ 25 (x1).toNatClampNeg) σ))))))
def wl_X10_row : WP := fun As σ Q => p1r As (fun z0 r0 => onB (Nat.beq z0 0) (p1i r0 (fun x1 r1 => onB r1.isEmpty (wp_X10_row x1 σ (fun x τ => Q (some (.int x)) τ)))))
def tb_X10_row : List (Nat × Instr × Nat) := [(0, (.aload_n 0, 1)), (1, (.getfield 103, 3)), (4, (.ifCond .ge 14, 3)), (7, (.aload_n 0, 1)), (8, (.bipush (-2), 2)), (10, (.invokevirtual 118, 3)), (13, (.ireturn, 1)), (14, (.iload_n 1, 1)), (15, (.i2l, 1)), (16, (.lconst 0, 1)), (17, (.aload_n 0, 1)), (18, (.getfield 103, 3)), (21, (.iconst 1, 1)), (22, (.isub, 1)), (23, (.i2l, 1)), (24, (.invokestatic 133, 3)), (27, (.ifCond .eq 39, 3)), (30, (.aload_n 0, 1)), (31, (.getfield 97, 3)), (34, (.iload_n 1, 1)), (35, (.iaload, 1)), (36, (.goto 45, 3)), (39, (.aload_n 0, 1)), (40, (.bipush (-3), 2)), (42, (.invokevirtual 118, 3)), (45, (.ireturn, 1))]
def ce_X10_row : List (Nat × (Nat × Option Nat × WP)) := [(118, (2, some 10, wl_X10_no)), (133, (3, none, wl_X10_isIn))]
set_option maxRecDepth 100000 in
set_option maxHeartbeats 4000000 in
theorem ct_X10_row (l : Launch) : Con l wM yX10_row cX10_row 2 (some .int) 1 wl_X10_row := by
  refine sxm_ok l (ft := lkp ft_RX10) (c32 := lkp c32_RX10) (c64 := lkp c64_RX10) (ce := lkp ce_X10_row) (sf := lkp sf_RX10) (lab := lkp []) (T := tb_X10_row) (by decide +kernel) ft_RX10_ok c32_RX10_ok c64_RX10_ok (fun x q h => (show ∀ q ∈ ce_X10_row, ceOK l wM RX10 1 q.1 q.2.1 q.2.2.1 q.2.2.2 from List.forall_mem_cons.mpr ⟨Or.inr (Or.inr (Or.inr ⟨yX10_no, cX10_no, 2, (some .int), 0, ct_X10_no l, by decide, by decide, mi_X10_no.1, mi_X10_no.2, ml_RX10_118, mv_X10_no.1, mv_X10_no.2, ⟨_, _, rfl⟩, by decide, by decide +kernel⟩)), List.forall_mem_cons.mpr ⟨Or.inr (Or.inr (Or.inr ⟨yX10_isIn, cX10_isIn, 6, (some .boolean), 0, ct_X10_isIn l, by decide, by decide, mi_X10_isIn.1, mi_X10_isIn.2, Or.inl ml_RX10_133, ms_X10_isIn, by decide +kernel⟩)), fun _ h => absurd h List.not_mem_nil⟩⟩) (x, q) (lkp_mem h)) sf_RX10_ok (by decide +kernel) 400 (fun As σ Q h => ?_)
  replace h := p1r_e h
  obtain ⟨z0, q0, rfl, h⟩ := h
  replace h := onB_e h
  obtain ⟨e0, h⟩ := h
  have e0 := Nat.eq_of_beq_eq_true e0
  subst e0
  replace h := p1i_e h
  obtain ⟨x1, q1, rfl, h⟩ := h
  replace h := onB_e h
  obtain ⟨e9, h⟩ := h
  have e9 := List.isEmpty_iff.mp e9
  subst e9
  refine ⟨Nat.le_of_ble_eq_true rfl, fun P hP => ?_⟩
  exact h 
def wp_X10_copy (x1 : Int32) (x2 : Int32) (x3 : Int32) (σ : Sg) (Q : Int32 → Sg → Prop) : Prop :=
  ∀ L71 : Int32 → Sg → Prop,
  ∀ L102 : Int32 → Sg → Prop,
  (∀ (x4 : Int32) (τ : Sg), ((x4 < x3 → (vp_in (x1 + x4) 80 ∧ (vp_in x4 80 ∧ L71 (x4 + (1 : Int32)) (sI τ 26 (x4).toNatClampNeg (gI τ 25 ((x1 + x4)).toNatClampNeg))))) ∧ (¬ x4 < x3 → L102 (0 : Int32) τ)) → L71 x4 τ) →
  (∀ (x4 : Int32) (τ : Sg), ((x4 < x3 → (vp_in x4 80 ∧ (vp_in (x2 + x4) 80 ∧ L102 (x4 + (1 : Int32)) (sI τ 25 ((x2 + x4)).toNatClampNeg (gI τ 26 (x4).toNatClampNeg))))) ∧ (¬ x4 < x3 → Q x3 τ)) → L102 x4 τ) →
  (((gI σ 0 46) < 0 → wp_X10_no (-2 : Int32) σ (fun r1 s2 => Q r1 s2)) ∧ (¬ (gI σ 0 46) < 0 → ((x3 < 0 → wp_X10_no (-4 : Int32) σ (fun r3 s4 => Q r3 s4)) ∧ (¬ x3 < 0 → ((x1 < 0 → wp_X10_no (-6 : Int32) σ (fun r5 s6 => Q r5 s6)) ∧ (¬ x1 < 0 → ((x2 < 0 → wp_X10_no (-6 : Int32) σ (fun r7 s8 => Q r7 s8)) ∧ (¬ x2 < 0 → ((0 < (lg_cmp ((x1).toInt64 + (x3).toInt64) ((gI σ 0 46)).toInt64) → wp_X10_no (-6 : Int32) σ (fun r9 s10 => Q r9 s10)) ∧ (¬ 0 < (lg_cmp ((x1).toInt64 + (x3).toInt64) ((gI σ 0 46)).toInt64) → ((0 < (lg_cmp ((x2).toInt64 + (x3).toInt64) ((gI σ 0 46)).toInt64) → wp_X10_no (-6 : Int32) σ (fun r11 s12 => Q r11 s12)) ∧ (¬ 0 < (lg_cmp ((x2).toInt64 + (x3).toInt64) ((gI σ 0 46)).toInt64) → L71 (0 : Int32) σ))))))))))))
def wl_X10_copy : WP := fun As σ Q => p1r As (fun z0 r0 => onB (Nat.beq z0 0) (p1i r0 (fun x1 r1 => p1i r1 (fun x2 r2 => p1i r2 (fun x3 r3 => onB r3.isEmpty (wp_X10_copy x1 x2 x3 σ (fun x τ => Q (some (.int x)) τ)))))))
def tb_X10_copy : List (Nat × Instr × Nat) := [(0, (.aload_n 0, 1)), (1, (.getfield 103, 3)), (4, (.ifCond .ge 14, 3)), (7, (.aload_n 0, 1)), (8, (.bipush (-2), 2)), (10, (.invokevirtual 118, 3)), (13, (.ireturn, 1)), (14, (.iload_n 3, 1)), (15, (.ifCond .ge 25, 3)), (18, (.aload_n 0, 1)), (19, (.bipush (-4), 2)), (21, (.invokevirtual 118, 3)), (24, (.ireturn, 1)), (25, (.iload_n 1, 1)), (26, (.ifCond .lt 61, 3)), (29, (.iload_n 2, 1)), (30, (.ifCond .lt 61, 3)), (33, (.iload_n 1, 1)), (34, (.i2l, 1)), (35, (.iload_n 3, 1)), (36, (.i2l, 1)), (37, (.ladd, 1)), (38, (.aload_n 0, 1)), (39, (.getfield 103, 3)), (42, (.i2l, 1)), (43, (.lcmp, 1)), (44, (.ifCond .gt 61, 3)), (47, (.iload_n 2, 1)), (48, (.i2l, 1)), (49, (.iload_n 3, 1)), (50, (.i2l, 1)), (51, (.ladd, 1)), (52, (.aload_n 0, 1)), (53, (.getfield 103, 3)), (56, (.i2l, 1)), (57, (.lcmp, 1)), (58, (.ifCond .le 68, 3)), (61, (.aload_n 0, 1)), (62, (.bipush (-6), 2)), (64, (.invokevirtual 118, 3)), (67, (.ireturn, 1)), (68, (.iconst 0, 1)), (69, (.istore 4, 2)), (71, (.iload 4, 2)), (73, (.iload_n 3, 1)), (74, (.if_icmp .ge 99, 3)), (77, (.aload_n 0, 1)), (78, (.getfield 100, 3)), (81, (.iload 4, 2)), (83, (.aload_n 0, 1)), (84, (.getfield 97, 3)), (87, (.iload_n 1, 1)), (88, (.iload 4, 2)), (90, (.iadd, 1)), (91, (.iaload, 1)), (92, (.iastore, 1)), (93, (.iinc 4 1, 3)), (96, (.goto 71, 3)), (99, (.iconst 0, 1)), (100, (.istore 4, 2)), (102, (.iload 4, 2)), (104, (.iload_n 3, 1)), (105, (.if_icmp .ge 130, 3)), (108, (.aload_n 0, 1)), (109, (.getfield 97, 3)), (112, (.iload_n 2, 1)), (113, (.iload 4, 2)), (115, (.iadd, 1)), (116, (.aload_n 0, 1)), (117, (.getfield 100, 3)), (120, (.iload 4, 2)), (122, (.iaload, 1)), (123, (.iastore, 1)), (124, (.iinc 4 1, 3)), (127, (.goto 102, 3)), (130, (.iload_n 3, 1)), (131, (.ireturn, 1))]
def ce_X10_copy : List (Nat × (Nat × Option Nat × WP)) := [(118, (2, some 10, wl_X10_no))]
set_option maxRecDepth 100000 in
set_option maxHeartbeats 4000000 in
theorem ct_X10_copy (l : Launch) : Con l wM yX10_copy cX10_copy 5 (some .int) 1 wl_X10_copy := by
  refine sxm_ok l (ft := lkp ft_RX10) (c32 := lkp c32_RX10) (c64 := lkp c64_RX10) (ce := lkp ce_X10_copy) (sf := lkp sf_RX10) (lab := lkp [(71, [0, 1, 2, 3, 4]), (102, [0, 2, 3, 4])]) (T := tb_X10_copy) (by decide +kernel) ft_RX10_ok c32_RX10_ok c64_RX10_ok (fun x q h => (show ∀ q ∈ ce_X10_copy, ceOK l wM RX10 1 q.1 q.2.1 q.2.2.1 q.2.2.2 from List.forall_mem_cons.mpr ⟨Or.inr (Or.inr (Or.inr ⟨yX10_no, cX10_no, 2, (some .int), 0, ct_X10_no l, by decide, by decide, mi_X10_no.1, mi_X10_no.2, ml_RX10_118, mv_X10_no.1, mv_X10_no.2, ⟨_, _, rfl⟩, by decide, by decide +kernel⟩)), fun _ h => absurd h List.not_mem_nil⟩) (x, q) (lkp_mem h)) sf_RX10_ok (by decide +kernel) 400 (fun As σ Q h => ?_)
  replace h := p1r_e h
  obtain ⟨z0, q0, rfl, h⟩ := h
  replace h := onB_e h
  obtain ⟨e0, h⟩ := h
  have e0 := Nat.eq_of_beq_eq_true e0
  subst e0
  replace h := p1i_e h
  obtain ⟨x1, q1, rfl, h⟩ := h
  replace h := p1i_e h
  obtain ⟨x2, q2, rfl, h⟩ := h
  replace h := p1i_e h
  obtain ⟨x3, q3, rfl, h⟩ := h
  replace h := onB_e h
  obtain ⟨e9, h⟩ := h
  have e9 := List.isEmpty_iff.mp e9
  subst e9
  refine ⟨Nat.le_of_ble_eq_true rfl, fun P hP => ?_⟩
  exact h (fun x4 τ => P 71 [.ref 0, .int x1, .int x2, .int x3, .int x4] τ) (fun x4 τ => P 102 [.ref 0, .int x2, .int x3, .int x4] τ) (fun x4 τ hb => hP 71 [.ref 0, .int x1, .int x2, .int x3, .int x4] τ hb) (fun x4 τ hb => hP 102 [.ref 0, .int x2, .int x3, .int x4] τ hb)
def wp_X10_status (x1 : Int32) (σ : Sg) (Q : Int32 → Sg → Prop) : Prop :=
  wp_X10_isIn (x1).toInt64 (-8 : Int64) (-2 : Int64) σ (fun r1 => ((r1 = 0 → wp_X10_no (-7 : Int32) σ (fun r2 s3 => Q r2 s3)) ∧ (¬ r1 = 0 → (vp_in (-x1) 9 ∧ Q (gI σ 8 ((-x1)).toNatClampNeg) σ))))
def wl_X10_status : WP := fun As σ Q => p1r As (fun z0 r0 => onB (Nat.beq z0 0) (p1i r0 (fun x1 r1 => onB r1.isEmpty (wp_X10_status x1 σ (fun x τ => Q (some (.int x)) τ)))))
def tb_X10_status : List (Nat × Instr × Nat) := [(0, (.iload_n 1, 1)), (1, (.i2l, 1)), (2, (.ldc2_w 290, 3)), (5, (.ldc2_w 292, 3)), (8, (.invokestatic 133, 3)), (11, (.ifCond .eq 24, 3)), (14, (.aload_n 0, 1)), (15, (.getfield 36, 3)), (18, (.iload_n 1, 1)), (19, (.ineg, 1)), (20, (.iaload, 1)), (21, (.goto 30, 3)), (24, (.aload_n 0, 1)), (25, (.bipush (-7), 2)), (27, (.invokevirtual 118, 3)), (30, (.ireturn, 1))]
def ce_X10_status : List (Nat × (Nat × Option Nat × WP)) := [(133, (3, none, wl_X10_isIn)), (118, (2, some 10, wl_X10_no))]
set_option maxRecDepth 100000 in
set_option maxHeartbeats 4000000 in
theorem ct_X10_status (l : Launch) : Con l wM yX10_status cX10_status 2 (some .int) 1 wl_X10_status := by
  refine sxm_ok l (ft := lkp ft_RX10) (c32 := lkp c32_RX10) (c64 := lkp c64_RX10) (ce := lkp ce_X10_status) (sf := lkp sf_RX10) (lab := lkp []) (T := tb_X10_status) (by decide +kernel) ft_RX10_ok c32_RX10_ok c64_RX10_ok (fun x q h => (show ∀ q ∈ ce_X10_status, ceOK l wM RX10 1 q.1 q.2.1 q.2.2.1 q.2.2.2 from List.forall_mem_cons.mpr ⟨Or.inr (Or.inr (Or.inr ⟨yX10_isIn, cX10_isIn, 6, (some .boolean), 0, ct_X10_isIn l, by decide, by decide, mi_X10_isIn.1, mi_X10_isIn.2, Or.inl ml_RX10_133, ms_X10_isIn, by decide +kernel⟩)), List.forall_mem_cons.mpr ⟨Or.inr (Or.inr (Or.inr ⟨yX10_no, cX10_no, 2, (some .int), 0, ct_X10_no l, by decide, by decide, mi_X10_no.1, mi_X10_no.2, ml_RX10_118, mv_X10_no.1, mv_X10_no.2, ⟨_, _, rfl⟩, by decide, by decide +kernel⟩)), fun _ h => absurd h List.not_mem_nil⟩⟩) (x, q) (lkp_mem h)) sf_RX10_ok (by decide +kernel) 400 (fun As σ Q h => ?_)
  replace h := p1r_e h
  obtain ⟨z0, q0, rfl, h⟩ := h
  replace h := onB_e h
  obtain ⟨e0, h⟩ := h
  have e0 := Nat.eq_of_beq_eq_true e0
  subst e0
  replace h := p1i_e h
  obtain ⟨x1, q1, rfl, h⟩ := h
  replace h := onB_e h
  obtain ⟨e9, h⟩ := h
  have e9 := List.isEmpty_iff.mp e9
  subst e9
  refine ⟨Nat.le_of_ble_eq_true rfl, fun P hP => ?_⟩
  exact h 
def wp_X10_bit (x1 : Int32) (x2 : Int32) (σ : Sg) (Q : Int32 → Sg → Prop) : Prop :=
  (((gI σ 0 5) = (80 : Int32) → wp_X10_no (-8 : Int32) σ (fun r1 s2 => Q r1 s2)) ∧ (¬ (gI σ 0 5) = (80 : Int32) → (((gI σ 0 6) = (8 : Int32) → wp_X10_no (-8 : Int32) σ (fun r3 s4 => Q r3 s4)) ∧ (¬ (gI σ 0 6) = (8 : Int32) → ((x1 = 0 → (vp_in (gI σ 0 5) 80 ∧ ((x2 = 0 → wp_X10_adds (1 : Int32) ((2 : Int32) * (gI (sI (sI σ 4 ((gI σ 0 5)).toNatClampNeg (gI σ 0 6)) 0 6 ((gI (sI σ 4 ((gI σ 0 5)).toNatClampNeg (gI σ 0 6)) 0 6) + (1 : Int32))) 0 5)) (-1 : Int32) (sI (sI σ 4 ((gI σ 0 5)).toNatClampNeg (gI σ 0 6)) 0 6 ((gI (sI σ 4 ((gI σ 0 5)).toNatClampNeg (gI σ 0 6)) 0 6) + (1 : Int32))) (fun r5 s6 => Q r5 s6)) ∧ (¬ x2 = 0 → wp_X10_adds (2 : Int32) ((2 : Int32) * (gI (sI (sI σ 4 ((gI σ 0 5)).toNatClampNeg (gI σ 0 6)) 0 6 ((gI (sI σ 4 ((gI σ 0 5)).toNatClampNeg (gI σ 0 6)) 0 6) + (1 : Int32))) 0 5)) (-1 : Int32) (sI (sI σ 4 ((gI σ 0 5)).toNatClampNeg (gI σ 0 6)) 0 6 ((gI (sI σ 4 ((gI σ 0 5)).toNatClampNeg (gI σ 0 6)) 0 6) + (1 : Int32))) (fun r7 s8 => Q r7 s8))))) ∧ (¬ x1 = 0 → (vp_in (gI (sI σ 0 8 ((gI σ 0 8) ||| ((1 : Int32) <<< ((gI σ 0 6) &&& 31)))) 0 5) 80 ∧ ((x2 = 0 → wp_X10_adds (1 : Int32) ((2 : Int32) * (gI (sI (sI (sI σ 0 8 ((gI σ 0 8) ||| ((1 : Int32) <<< ((gI σ 0 6) &&& 31)))) 4 ((gI (sI σ 0 8 ((gI σ 0 8) ||| ((1 : Int32) <<< ((gI σ 0 6) &&& 31)))) 0 5)).toNatClampNeg (gI (sI σ 0 8 ((gI σ 0 8) ||| ((1 : Int32) <<< ((gI σ 0 6) &&& 31)))) 0 6)) 0 6 ((gI (sI (sI σ 0 8 ((gI σ 0 8) ||| ((1 : Int32) <<< ((gI σ 0 6) &&& 31)))) 4 ((gI (sI σ 0 8 ((gI σ 0 8) ||| ((1 : Int32) <<< ((gI σ 0 6) &&& 31)))) 0 5)).toNatClampNeg (gI (sI σ 0 8 ((gI σ 0 8) ||| ((1 : Int32) <<< ((gI σ 0 6) &&& 31)))) 0 6)) 0 6) + (1 : Int32))) 0 5)) (-1 : Int32) (sI (sI (sI σ 0 8 ((gI σ 0 8) ||| ((1 : Int32) <<< ((gI σ 0 6) &&& 31)))) 4 ((gI (sI σ 0 8 ((gI σ 0 8) ||| ((1 : Int32) <<< ((gI σ 0 6) &&& 31)))) 0 5)).toNatClampNeg (gI (sI σ 0 8 ((gI σ 0 8) ||| ((1 : Int32) <<< ((gI σ 0 6) &&& 31)))) 0 6)) 0 6 ((gI (sI (sI σ 0 8 ((gI σ 0 8) ||| ((1 : Int32) <<< ((gI σ 0 6) &&& 31)))) 4 ((gI (sI σ 0 8 ((gI σ 0 8) ||| ((1 : Int32) <<< ((gI σ 0 6) &&& 31)))) 0 5)).toNatClampNeg (gI (sI σ 0 8 ((gI σ 0 8) ||| ((1 : Int32) <<< ((gI σ 0 6) &&& 31)))) 0 6)) 0 6) + (1 : Int32))) (fun r9 s10 => Q r9 s10)) ∧ (¬ x2 = 0 → wp_X10_adds (2 : Int32) ((2 : Int32) * (gI (sI (sI (sI σ 0 8 ((gI σ 0 8) ||| ((1 : Int32) <<< ((gI σ 0 6) &&& 31)))) 4 ((gI (sI σ 0 8 ((gI σ 0 8) ||| ((1 : Int32) <<< ((gI σ 0 6) &&& 31)))) 0 5)).toNatClampNeg (gI (sI σ 0 8 ((gI σ 0 8) ||| ((1 : Int32) <<< ((gI σ 0 6) &&& 31)))) 0 6)) 0 6 ((gI (sI (sI σ 0 8 ((gI σ 0 8) ||| ((1 : Int32) <<< ((gI σ 0 6) &&& 31)))) 4 ((gI (sI σ 0 8 ((gI σ 0 8) ||| ((1 : Int32) <<< ((gI σ 0 6) &&& 31)))) 0 5)).toNatClampNeg (gI (sI σ 0 8 ((gI σ 0 8) ||| ((1 : Int32) <<< ((gI σ 0 6) &&& 31)))) 0 6)) 0 6) + (1 : Int32))) 0 5)) (-1 : Int32) (sI (sI (sI σ 0 8 ((gI σ 0 8) ||| ((1 : Int32) <<< ((gI σ 0 6) &&& 31)))) 4 ((gI (sI σ 0 8 ((gI σ 0 8) ||| ((1 : Int32) <<< ((gI σ 0 6) &&& 31)))) 0 5)).toNatClampNeg (gI (sI σ 0 8 ((gI σ 0 8) ||| ((1 : Int32) <<< ((gI σ 0 6) &&& 31)))) 0 6)) 0 6 ((gI (sI (sI σ 0 8 ((gI σ 0 8) ||| ((1 : Int32) <<< ((gI σ 0 6) &&& 31)))) 4 ((gI (sI σ 0 8 ((gI σ 0 8) ||| ((1 : Int32) <<< ((gI σ 0 6) &&& 31)))) 0 5)).toNatClampNeg (gI (sI σ 0 8 ((gI σ 0 8) ||| ((1 : Int32) <<< ((gI σ 0 6) &&& 31)))) 0 6)) 0 6) + (1 : Int32))) (fun r11 s12 => Q r11 s12))))))))))
def wl_X10_bit : WP := fun As σ Q => p1r As (fun z0 r0 => onB (Nat.beq z0 0) (p1i r0 (fun x1 r1 => p1i r1 (fun x2 r2 => onB r2.isEmpty (wp_X10_bit x1 x2 σ (fun x τ => Q (some (.int x)) τ))))))
def tb_X10_bit : List (Nat × Instr × Nat) := [(0, (.aload_n 0, 1)), (1, (.getfield 112, 3)), (4, (.bipush 80, 2)), (6, (.if_icmp .eq 18, 3)), (9, (.aload_n 0, 1)), (10, (.getfield 106, 3)), (13, (.bipush 8, 2)), (15, (.if_icmp .ne 25, 3)), (18, (.aload_n 0, 1)), (19, (.bipush (-8), 2)), (21, (.invokevirtual 118, 3)), (24, (.ireturn, 1)), (25, (.iload_n 1, 1)), (26, (.ifCond .eq 44, 3)), (29, (.aload_n 0, 1)), (30, (.dup, 1)), (31, (.getfield 122, 3)), (34, (.iconst 1, 1)), (35, (.aload_n 0, 1)), (36, (.getfield 106, 3)), (39, (.ishl, 1)), (40, (.ior, 1)), (41, (.putfield 122, 3)), (44, (.aload_n 0, 1)), (45, (.getfield 19, 3)), (48, (.aload_n 0, 1)), (49, (.getfield 112, 3)), (52, (.aload_n 0, 1)), (53, (.getfield 106, 3)), (56, (.iastore, 1)), (57, (.aload_n 0, 1)), (58, (.dup, 1)), (59, (.getfield 106, 3)), (62, (.iconst 1, 1)), (63, (.iadd, 1)), (64, (.putfield 106, 3)), (67, (.aload_n 0, 1)), (68, (.iload_n 2, 1)), (69, (.ifCond .eq 76, 3)), (72, (.iconst 2, 1)), (73, (.goto 77, 3)), (76, (.iconst 1, 1)), (77, (.iconst 2, 1)), (78, (.aload_n 0, 1)), (79, (.getfield 112, 3)), (82, (.imul, 1)), (83, (.iconst (-1), 1)), (84, (.invokevirtual 125, 3)), (87, (.ireturn, 1))]
def ce_X10_bit : List (Nat × (Nat × Option Nat × WP)) := [(118, (2, some 10, wl_X10_no)), (125, (4, some 10, wl_X10_adds))]
set_option maxRecDepth 100000 in
set_option maxHeartbeats 4000000 in
theorem ct_X10_bit (l : Launch) : Con l wM yX10_bit cX10_bit 3 (some .int) 2 wl_X10_bit := by
  refine sxm_ok l (ft := lkp ft_RX10) (c32 := lkp c32_RX10) (c64 := lkp c64_RX10) (ce := lkp ce_X10_bit) (sf := lkp sf_RX10) (lab := lkp []) (T := tb_X10_bit) (by decide +kernel) ft_RX10_ok c32_RX10_ok c64_RX10_ok (fun x q h => (show ∀ q ∈ ce_X10_bit, ceOK l wM RX10 2 q.1 q.2.1 q.2.2.1 q.2.2.2 from List.forall_mem_cons.mpr ⟨Or.inr (Or.inr (Or.inr ⟨yX10_no, cX10_no, 2, (some .int), 0, ct_X10_no l, by decide, by decide, mi_X10_no.1, mi_X10_no.2, ml_RX10_118, mv_X10_no.1, mv_X10_no.2, ⟨_, _, rfl⟩, by decide, by decide +kernel⟩)), List.forall_mem_cons.mpr ⟨Or.inr (Or.inr (Or.inr ⟨yX10_adds, cX10_adds, 5, (some .int), 1, ct_X10_adds l, by decide, by decide, mi_X10_adds.1, mi_X10_adds.2, ml_RX10_125, mv_X10_adds.1, mv_X10_adds.2, ⟨_, _, rfl⟩, by decide, by decide +kernel⟩)), fun _ h => absurd h List.not_mem_nil⟩⟩) (x, q) (lkp_mem h)) sf_RX10_ok (by decide +kernel) 400 (fun As σ Q h => ?_)
  replace h := p1r_e h
  obtain ⟨z0, q0, rfl, h⟩ := h
  replace h := onB_e h
  obtain ⟨e0, h⟩ := h
  have e0 := Nat.eq_of_beq_eq_true e0
  subst e0
  replace h := p1i_e h
  obtain ⟨x1, q1, rfl, h⟩ := h
  replace h := p1i_e h
  obtain ⟨x2, q2, rfl, h⟩ := h
  replace h := onB_e h
  obtain ⟨e9, h⟩ := h
  have e9 := List.isEmpty_iff.mp e9
  subst e9
  refine ⟨Nat.le_of_ble_eq_true rfl, fun P hP => ?_⟩
  exact h 
def wp_X10_input  (σ : Sg) (Q : Int32 → Sg → Prop) : Prop :=
  (((gI σ 0 5) = (80 : Int32) → wp_X10_no (-8 : Int32) σ (fun r1 s2 => Q r1 s2)) ∧ (¬ (gI σ 0 5) = (80 : Int32) → (((gI σ 0 7) = (4 : Int32) → wp_X10_no (-8 : Int32) σ (fun r3 s4 => Q r3 s4)) ∧ (¬ (gI σ 0 7) = (4 : Int32) → (vp_in (gI σ 0 5) 80 ∧ wp_X10_adds (3 : Int32) (-1 : Int32) (-1 : Int32) (sI (sI σ 4 ((gI σ 0 5)).toNatClampNeg (gI σ 0 7)) 0 7 ((gI (sI σ 4 ((gI σ 0 5)).toNatClampNeg (gI σ 0 7)) 0 7) + (1 : Int32))) (fun r5 s6 => Q r5 s6))))))
def wl_X10_input : WP := fun As σ Q => p1r As (fun z0 r0 => onB (Nat.beq z0 0) (onB r0.isEmpty (wp_X10_input  σ (fun x τ => Q (some (.int x)) τ))))
def tb_X10_input : List (Nat × Instr × Nat) := [(0, (.aload_n 0, 1)), (1, (.getfield 112, 3)), (4, (.bipush 80, 2)), (6, (.if_icmp .eq 17, 3)), (9, (.aload_n 0, 1)), (10, (.getfield 109, 3)), (13, (.iconst 4, 1)), (14, (.if_icmp .ne 24, 3)), (17, (.aload_n 0, 1)), (18, (.bipush (-8), 2)), (20, (.invokevirtual 118, 3)), (23, (.ireturn, 1)), (24, (.aload_n 0, 1)), (25, (.getfield 19, 3)), (28, (.aload_n 0, 1)), (29, (.getfield 112, 3)), (32, (.aload_n 0, 1)), (33, (.getfield 109, 3)), (36, (.iastore, 1)), (37, (.aload_n 0, 1)), (38, (.dup, 1)), (39, (.getfield 109, 3)), (42, (.iconst 1, 1)), (43, (.iadd, 1)), (44, (.putfield 109, 3)), (47, (.aload_n 0, 1)), (48, (.iconst 3, 1)), (49, (.iconst (-1), 1)), (50, (.iconst (-1), 1)), (51, (.invokevirtual 125, 3)), (54, (.ireturn, 1))]
def ce_X10_input : List (Nat × (Nat × Option Nat × WP)) := [(118, (2, some 10, wl_X10_no)), (125, (4, some 10, wl_X10_adds))]
set_option maxRecDepth 100000 in
set_option maxHeartbeats 4000000 in
theorem ct_X10_input (l : Launch) : Con l wM yX10_input cX10_input 1 (some .int) 2 wl_X10_input := by
  refine sxm_ok l (ft := lkp ft_RX10) (c32 := lkp c32_RX10) (c64 := lkp c64_RX10) (ce := lkp ce_X10_input) (sf := lkp sf_RX10) (lab := lkp []) (T := tb_X10_input) (by decide +kernel) ft_RX10_ok c32_RX10_ok c64_RX10_ok (fun x q h => (show ∀ q ∈ ce_X10_input, ceOK l wM RX10 2 q.1 q.2.1 q.2.2.1 q.2.2.2 from List.forall_mem_cons.mpr ⟨Or.inr (Or.inr (Or.inr ⟨yX10_no, cX10_no, 2, (some .int), 0, ct_X10_no l, by decide, by decide, mi_X10_no.1, mi_X10_no.2, ml_RX10_118, mv_X10_no.1, mv_X10_no.2, ⟨_, _, rfl⟩, by decide, by decide +kernel⟩)), List.forall_mem_cons.mpr ⟨Or.inr (Or.inr (Or.inr ⟨yX10_adds, cX10_adds, 5, (some .int), 1, ct_X10_adds l, by decide, by decide, mi_X10_adds.1, mi_X10_adds.2, ml_RX10_125, mv_X10_adds.1, mv_X10_adds.2, ⟨_, _, rfl⟩, by decide, by decide +kernel⟩)), fun _ h => absurd h List.not_mem_nil⟩⟩) (x, q) (lkp_mem h)) sf_RX10_ok (by decide +kernel) 400 (fun As σ Q h => ?_)
  replace h := p1r_e h
  obtain ⟨z0, q0, rfl, h⟩ := h
  replace h := onB_e h
  obtain ⟨e0, h⟩ := h
  have e0 := Nat.eq_of_beq_eq_true e0
  subst e0
  replace h := onB_e h
  obtain ⟨e9, h⟩ := h
  have e9 := List.isEmpty_iff.mp e9
  subst e9
  refine ⟨Nat.le_of_ble_eq_true rfl, fun P hP => ?_⟩
  exact h 
def wp_X10_gate (x1 : Int32) (x2 : Int32) (σ : Sg) (Q : Int32 → Sg → Prop) : Prop :=
  wp_X10_isSign x1 σ (fun r1 => ((r1 = 0 → wp_X10_no (-3 : Int32) σ (fun r2 s3 => Q r2 s3)) ∧ (¬ r1 = 0 → wp_X10_isSign x2 σ (fun r4 => ((r4 = 0 → wp_X10_no (-3 : Int32) σ (fun r5 s6 => Q r5 s6)) ∧ (¬ r4 = 0 → (((gI σ 0 5) = (80 : Int32) → wp_X10_no (-8 : Int32) σ (fun r7 s8 => Q r7 s8)) ∧ (¬ (gI σ 0 5) = (80 : Int32) → wp_X10_adds (0 : Int32) x1 x2 σ (fun r9 s10 => Q r9 s10)))))))))
def wl_X10_gate : WP := fun As σ Q => p1r As (fun z0 r0 => onB (Nat.beq z0 0) (p1i r0 (fun x1 r1 => p1i r1 (fun x2 r2 => onB r2.isEmpty (wp_X10_gate x1 x2 σ (fun x τ => Q (some (.int x)) τ))))))
def tb_X10_gate : List (Nat × Instr × Nat) := [(0, (.aload_n 0, 1)), (1, (.iload_n 1, 1)), (2, (.invokevirtual 129, 3)), (5, (.ifCond .eq 16, 3)), (8, (.aload_n 0, 1)), (9, (.iload_n 2, 1)), (10, (.invokevirtual 129, 3)), (13, (.ifCond .ne 23, 3)), (16, (.aload_n 0, 1)), (17, (.bipush (-3), 2)), (19, (.invokevirtual 118, 3)), (22, (.ireturn, 1)), (23, (.aload_n 0, 1)), (24, (.getfield 112, 3)), (27, (.bipush 80, 2)), (29, (.if_icmp .ne 41, 3)), (32, (.aload_n 0, 1)), (33, (.bipush (-8), 2)), (35, (.invokevirtual 118, 3)), (38, (.goto 48, 3)), (41, (.aload_n 0, 1)), (42, (.iconst 0, 1)), (43, (.iload_n 1, 1)), (44, (.iload_n 2, 1)), (45, (.invokevirtual 125, 3)), (48, (.ireturn, 1))]
def ce_X10_gate : List (Nat × (Nat × Option Nat × WP)) := [(129, (2, some 10, wl_X10_isSign)), (118, (2, some 10, wl_X10_no)), (125, (4, some 10, wl_X10_adds))]
set_option maxRecDepth 100000 in
set_option maxHeartbeats 4000000 in
theorem ct_X10_gate (l : Launch) : Con l wM yX10_gate cX10_gate 3 (some .int) 2 wl_X10_gate := by
  refine sxm_ok l (ft := lkp ft_RX10) (c32 := lkp c32_RX10) (c64 := lkp c64_RX10) (ce := lkp ce_X10_gate) (sf := lkp sf_RX10) (lab := lkp []) (T := tb_X10_gate) (by decide +kernel) ft_RX10_ok c32_RX10_ok c64_RX10_ok (fun x q h => (show ∀ q ∈ ce_X10_gate, ceOK l wM RX10 2 q.1 q.2.1 q.2.2.1 q.2.2.2 from List.forall_mem_cons.mpr ⟨Or.inr (Or.inr (Or.inr ⟨yX10_isSign, cX10_isSign, 2, (some .boolean), 0, ct_X10_isSign l, by decide, by decide, mi_X10_isSign.1, mi_X10_isSign.2, ml_RX10_129, mv_X10_isSign.1, mv_X10_isSign.2, ⟨_, _, rfl⟩, by decide, by decide +kernel⟩)), List.forall_mem_cons.mpr ⟨Or.inr (Or.inr (Or.inr ⟨yX10_no, cX10_no, 2, (some .int), 0, ct_X10_no l, by decide, by decide, mi_X10_no.1, mi_X10_no.2, ml_RX10_118, mv_X10_no.1, mv_X10_no.2, ⟨_, _, rfl⟩, by decide, by decide +kernel⟩)), List.forall_mem_cons.mpr ⟨Or.inr (Or.inr (Or.inr ⟨yX10_adds, cX10_adds, 5, (some .int), 1, ct_X10_adds l, by decide, by decide, mi_X10_adds.1, mi_X10_adds.2, ml_RX10_125, mv_X10_adds.1, mv_X10_adds.2, ⟨_, _, rfl⟩, by decide, by decide +kernel⟩)), fun _ h => absurd h List.not_mem_nil⟩⟩⟩) (x, q) (lkp_mem h)) sf_RX10_ok (by decide +kernel) 400 (fun As σ Q h => ?_)
  replace h := p1r_e h
  obtain ⟨z0, q0, rfl, h⟩ := h
  replace h := onB_e h
  obtain ⟨e0, h⟩ := h
  have e0 := Nat.eq_of_beq_eq_true e0
  subst e0
  replace h := p1i_e h
  obtain ⟨x1, q1, rfl, h⟩ := h
  replace h := p1i_e h
  obtain ⟨x2, q2, rfl, h⟩ := h
  replace h := onB_e h
  obtain ⟨e9, h⟩ := h
  have e9 := List.isEmpty_iff.mp e9
  subst e9
  refine ⟨Nat.le_of_ble_eq_true rfl, fun P hP => ?_⟩
  exact h 
def wp_X10_table  (σ : Sg) (Q : Sg → Prop) : Prop :=
  ∀ L15 : Int32 → Sg → Prop,
  ∀ L25 : Int32 → Int32 → Sg → Prop,
  ∀ L115 : Int32 → Int32 → Int32 → Int32 → Sg → Prop,
  (∀ (x1 : Int32) (τ : Sg), wp_X10_states τ (fun r1 => ((x1 < r1 → L25 x1 (0 : Int32) τ) ∧ (¬ x1 < r1 → Q τ))) → L15 x1 τ) →
  (∀ (x1 : Int32) (x2 : Int32) (τ : Sg), wp_X10_ways τ (fun r2 => ((x2 < r2 → wp_X10_show x1 x2 τ (fun s3 => wp_X10_isRight s3 (fun r4 => ((r4 = 0 → (vp_in (((16 : Int32) * x1) + x2) 4096 ∧ (vp_in (((16 : Int32) * x1) + x2) 4096 ∧ (((gI (sI s3 9 ((((16 : Int32) * x1) + x2)).toNatClampNeg (-1 : Int32)) 9 ((((16 : Int32) * x1) + x2)).toNatClampNeg) < 0 → (vp_in (((16 : Int32) * x1) + x2) 4096 ∧ (vp_in (((16 : Int32) * x1) + x2) 4096 ∧ L115 x1 x2 (((16 : Int32) * x1) + x2) (0 : Int32) (sI (sI (sI s3 9 ((((16 : Int32) * x1) + x2)).toNatClampNeg (-1 : Int32)) 11 ((((16 : Int32) * x1) + x2)).toNatClampNeg (vp_nar .boolean (0 : Int32))) 10 ((((16 : Int32) * x1) + x2)).toNatClampNeg (0 : Int32))))) ∧ (¬ (gI (sI s3 9 ((((16 : Int32) * x1) + x2)).toNatClampNeg (-1 : Int32)) 9 ((((16 : Int32) * x1) + x2)).toNatClampNeg) < 0 → (((gI (sI s3 9 ((((16 : Int32) * x1) + x2)).toNatClampNeg (-1 : Int32)) 0 9) < 0 → (vp_in (((16 : Int32) * x1) + x2) 4096 ∧ (vp_in (((16 : Int32) * x1) + x2) 4096 ∧ L115 x1 x2 (((16 : Int32) * x1) + x2) (0 : Int32) (sI (sI (sI s3 9 ((((16 : Int32) * x1) + x2)).toNatClampNeg (-1 : Int32)) 11 ((((16 : Int32) * x1) + x2)).toNatClampNeg (vp_nar .boolean (0 : Int32))) 10 ((((16 : Int32) * x1) + x2)).toNatClampNeg (0 : Int32))))) ∧ (¬ (gI (sI s3 9 ((((16 : Int32) * x1) + x2)).toNatClampNeg (-1 : Int32)) 0 9) < 0 → wp_X10_is (gI (sI s3 9 ((((16 : Int32) * x1) + x2)).toNatClampNeg (-1 : Int32)) 0 9) (sI s3 9 ((((16 : Int32) * x1) + x2)).toNatClampNeg (-1 : Int32)) (fun r5 => ((r5 = 0 → (vp_in (((16 : Int32) * x1) + x2) 4096 ∧ (vp_in (((16 : Int32) * x1) + x2) 4096 ∧ L115 x1 x2 (((16 : Int32) * x1) + x2) (0 : Int32) (sI (sI (sI s3 9 ((((16 : Int32) * x1) + x2)).toNatClampNeg (-1 : Int32)) 11 ((((16 : Int32) * x1) + x2)).toNatClampNeg (vp_nar .boolean (0 : Int32))) 10 ((((16 : Int32) * x1) + x2)).toNatClampNeg (0 : Int32))))) ∧ (¬ r5 = 0 → (vp_in (((16 : Int32) * x1) + x2) 4096 ∧ (vp_in (((16 : Int32) * x1) + x2) 4096 ∧ L115 x1 x2 (((16 : Int32) * x1) + x2) (0 : Int32) (sI (sI (sI s3 9 ((((16 : Int32) * x1) + x2)).toNatClampNeg (-1 : Int32)) 11 ((((16 : Int32) * x1) + x2)).toNatClampNeg (vp_nar .boolean (1 : Int32))) 10 ((((16 : Int32) * x1) + x2)).toNatClampNeg (0 : Int32)))))))))))))) ∧ (¬ r4 = 0 → wp_X10_comes s3 (fun r6 => (vp_in (((16 : Int32) * x1) + x2) 4096 ∧ (vp_in (((16 : Int32) * x1) + x2) 4096 ∧ (((gI (sI s3 9 ((((16 : Int32) * x1) + x2)).toNatClampNeg r6) 9 ((((16 : Int32) * x1) + x2)).toNatClampNeg) < 0 → (vp_in (((16 : Int32) * x1) + x2) 4096 ∧ (vp_in (((16 : Int32) * x1) + x2) 4096 ∧ L115 x1 x2 (((16 : Int32) * x1) + x2) (0 : Int32) (sI (sI (sI s3 9 ((((16 : Int32) * x1) + x2)).toNatClampNeg r6) 11 ((((16 : Int32) * x1) + x2)).toNatClampNeg (vp_nar .boolean (0 : Int32))) 10 ((((16 : Int32) * x1) + x2)).toNatClampNeg (0 : Int32))))) ∧ (¬ (gI (sI s3 9 ((((16 : Int32) * x1) + x2)).toNatClampNeg r6) 9 ((((16 : Int32) * x1) + x2)).toNatClampNeg) < 0 → (((gI (sI s3 9 ((((16 : Int32) * x1) + x2)).toNatClampNeg r6) 0 9) < 0 → (vp_in (((16 : Int32) * x1) + x2) 4096 ∧ (vp_in (((16 : Int32) * x1) + x2) 4096 ∧ L115 x1 x2 (((16 : Int32) * x1) + x2) (0 : Int32) (sI (sI (sI s3 9 ((((16 : Int32) * x1) + x2)).toNatClampNeg r6) 11 ((((16 : Int32) * x1) + x2)).toNatClampNeg (vp_nar .boolean (0 : Int32))) 10 ((((16 : Int32) * x1) + x2)).toNatClampNeg (0 : Int32))))) ∧ (¬ (gI (sI s3 9 ((((16 : Int32) * x1) + x2)).toNatClampNeg r6) 0 9) < 0 → wp_X10_is (gI (sI s3 9 ((((16 : Int32) * x1) + x2)).toNatClampNeg r6) 0 9) (sI s3 9 ((((16 : Int32) * x1) + x2)).toNatClampNeg r6) (fun r7 => ((r7 = 0 → (vp_in (((16 : Int32) * x1) + x2) 4096 ∧ (vp_in (((16 : Int32) * x1) + x2) 4096 ∧ L115 x1 x2 (((16 : Int32) * x1) + x2) (0 : Int32) (sI (sI (sI s3 9 ((((16 : Int32) * x1) + x2)).toNatClampNeg r6) 11 ((((16 : Int32) * x1) + x2)).toNatClampNeg (vp_nar .boolean (0 : Int32))) 10 ((((16 : Int32) * x1) + x2)).toNatClampNeg (0 : Int32))))) ∧ (¬ r7 = 0 → (vp_in (((16 : Int32) * x1) + x2) 4096 ∧ (vp_in (((16 : Int32) * x1) + x2) 4096 ∧ L115 x1 x2 (((16 : Int32) * x1) + x2) (0 : Int32) (sI (sI (sI s3 9 ((((16 : Int32) * x1) + x2)).toNatClampNeg r6) 11 ((((16 : Int32) * x1) + x2)).toNatClampNeg (vp_nar .boolean (1 : Int32))) 10 ((((16 : Int32) * x1) + x2)).toNatClampNeg (0 : Int32))))))))))))))))))) ∧ (¬ x2 < r2 → L15 (x1 + (1 : Int32)) τ))) → L25 x1 x2 τ) →
  (∀ (x1 : Int32) (x2 : Int32) (x3 : Int32) (x4 : Int32) (τ : Sg), ((x4 < (gI τ 0 11) → (vp_in x3 4096 ∧ (vp_in x4 3 ∧ wp_X10_is (gI τ 7 (x4).toNatClampNeg) τ (fun r8 => ((r8 = 0 → (vp_in x3 4096 ∧ L115 x1 x2 x3 (x4 + (1 : Int32)) (sI τ 10 (x3).toNatClampNeg ((gI τ 10 (x3).toNatClampNeg) ||| (0 : Int32))))) ∧ (¬ r8 = 0 → (vp_in x3 4096 ∧ L115 x1 x2 x3 (x4 + (1 : Int32)) (sI τ 10 (x3).toNatClampNeg ((gI τ 10 (x3).toNatClampNeg) ||| ((1 : Int32) <<< (x4 &&& 31))))))))))) ∧ (¬ x4 < (gI τ 0 11) → L25 x1 (x2 + (1 : Int32)) τ)) → L115 x1 x2 x3 x4 τ) →
  (((gI σ 0 18) = 0 → (nz (1 : Int32) ∧ L15 (0 : Int32) (sI σ 0 18 (1 : Int32)))) ∧ (¬ (gI σ 0 18) = 0 → Q σ))
def wl_X10_table : WP := fun As σ Q => p1r As (fun z0 r0 => onB (Nat.beq z0 0) (onB r0.isEmpty (wp_X10_table  σ (fun τ => Q none τ))))
def tb_X10_table : List (Nat × Instr × Nat) := [(0, (.aload_n 0, 1)), (1, (.getfield 157, 3)), (4, (.ifCond .eq 8, 3)), (7, (.return_, 1)), (8, (.aload_n 0, 1)), (9, (.iconst 1, 1)), (10, (.putfield 157, 3)), (13, (.iconst 0, 1)), (14, (.istore_n 1, 1)), (15, (.iload_n 1, 1)), (16, (.aload_n 0, 1)), (17, (.invokevirtual 161, 3)), (20, (.if_icmp .ge 173, 3)), (23, (.iconst 0, 1)), (24, (.istore_n 2, 1)), (25, (.iload_n 2, 1)), (26, (.aload_n 0, 1)), (27, (.invokevirtual 165, 3)), (30, (.if_icmp .ge 167, 3)), (33, (.bipush 16, 2)), (35, (.iload_n 1, 1)), (36, (.imul, 1)), (37, (.iload_n 2, 1)), (38, (.iadd, 1)), (39, (.istore_n 3, 1)), (40, (.aload_n 0, 1)), (41, (.iload_n 1, 1)), (42, (.iload_n 2, 1)), (43, (.invokevirtual 168, 3)), (46, (.aload_n 0, 1)), (47, (.getfield 39, 3)), (50, (.iload_n 3, 1)), (51, (.aload_n 0, 1)), (52, (.invokevirtual 172, 3)), (55, (.ifCond .eq 65, 3)), (58, (.aload_n 0, 1)), (59, (.invokevirtual 176, 3)), (62, (.goto 66, 3)), (65, (.iconst (-1), 1)), (66, (.iastore, 1)), (67, (.aload_n 0, 1)), (68, (.getfield 45, 3)), (71, (.iload_n 3, 1)), (72, (.aload_n 0, 1)), (73, (.getfield 39, 3)), (76, (.iload_n 3, 1)), (77, (.iaload, 1)), (78, (.ifCond .lt 103, 3)), (81, (.aload_n 0, 1)), (82, (.getfield 26, 3)), (85, (.ifCond .lt 103, 3)), (88, (.aload_n 0, 1)), (89, (.aload_n 0, 1)), (90, (.getfield 26, 3)), (93, (.invokevirtual 154, 3)), (96, (.ifCond .eq 103, 3)), (99, (.iconst 1, 1)), (100, (.goto 104, 3)), (103, (.iconst 0, 1)), (104, (.bastore, 1)), (105, (.aload_n 0, 1)), (106, (.getfield 42, 3)), (109, (.iload_n 3, 1)), (110, (.iconst 0, 1)), (111, (.iastore, 1)), (112, (.iconst 0, 1)), (113, (.istore 4, 2)), (115, (.iload 4, 2)), (117, (.aload_n 0, 1)), (118, (.getfield 140, 3)), (121, (.if_icmp .ge 161, 3)), (124, (.aload_n 0, 1)), (125, (.getfield 42, 3)), (128, (.iload_n 3, 1)), (129, (.dup2, 1)), (130, (.iaload, 1)), (131, (.aload_n 0, 1)), (132, (.aload_n 0, 1)), (133, (.getfield 33, 3)), (136, (.iload 4, 2)), (138, (.iaload, 1)), (139, (.invokevirtual 154, 3)), (142, (.ifCond .eq 152, 3)), (145, (.iconst 1, 1)), (146, (.iload 4, 2)), (148, (.ishl, 1)), (149, (.goto 153, 3)), (152, (.iconst 0, 1)), (153, (.ior, 1)), (154, (.iastore, 1)), (155, (.iinc 4 1, 3)), (158, (.goto 115, 3)), (161, (.iinc 2 1, 3)), (164, (.goto 25, 3)), (167, (.iinc 1 1, 3)), (170, (.goto 15, 3)), (173, (.return_, 1))]
def ce_X10_table : List (Nat × (Nat × Option Nat × WP)) := [(161, (1, some 10, wl_X10_states)), (165, (1, some 10, wl_X10_ways)), (168, (3, some 10, wl_X10_show)), (172, (1, some 10, wl_X10_isRight)), (176, (1, some 10, wl_X10_comes)), (154, (2, some 10, wl_X10_is))]
set_option maxRecDepth 100000 in
set_option maxHeartbeats 4000000 in
theorem ct_X10_table (l : Launch) : Con l wM yX10_table cX10_table 5 none 2 wl_X10_table := by
  refine sxm_ok l (ft := lkp ft_RX10) (c32 := lkp c32_RX10) (c64 := lkp c64_RX10) (ce := lkp ce_X10_table) (sf := lkp sf_RX10) (lab := lkp [(15, [0, 1]), (25, [0, 1, 2]), (115, [0, 1, 2, 3, 4])]) (T := tb_X10_table) (by decide +kernel) ft_RX10_ok c32_RX10_ok c64_RX10_ok (fun x q h => (show ∀ q ∈ ce_X10_table, ceOK l wM RX10 2 q.1 q.2.1 q.2.2.1 q.2.2.2 from List.forall_mem_cons.mpr ⟨Or.inr (Or.inr (Or.inr ⟨yX10_states, cX10_states, 1, (some .int), 0, ct_X10_states l, by decide, by decide, mi_X10_states.1, mi_X10_states.2, ml_RX10_161, mv_X10_states.1, mv_X10_states.2, ⟨_, _, rfl⟩, by decide, by decide +kernel⟩)), List.forall_mem_cons.mpr ⟨Or.inr (Or.inr (Or.inr ⟨yX10_ways, cX10_ways, 1, (some .int), 0, ct_X10_ways l, by decide, by decide, mi_X10_ways.1, mi_X10_ways.2, ml_RX10_165, mv_X10_ways.1, mv_X10_ways.2, ⟨_, _, rfl⟩, by decide, by decide +kernel⟩)), List.forall_mem_cons.mpr ⟨Or.inr (Or.inr (Or.inr ⟨yX10_show, cX10_show, 4, none, 1, ct_X10_show l, by decide, by decide, mi_X10_show.1, mi_X10_show.2, ml_RX10_168, mv_X10_show.1, mv_X10_show.2, ⟨_, _, rfl⟩, by decide, by decide +kernel⟩)), List.forall_mem_cons.mpr ⟨Or.inr (Or.inr (Or.inr ⟨yX10_isRight, cX10_isRight, 3, (some .boolean), 1, ct_X10_isRight l, by decide, by decide, mi_X10_isRight.1, mi_X10_isRight.2, ml_RX10_172, mv_X10_isRight.1, mv_X10_isRight.2, ⟨_, _, rfl⟩, by decide, by decide +kernel⟩)), List.forall_mem_cons.mpr ⟨Or.inr (Or.inr (Or.inr ⟨yX10_comes, cX10_comes, 3, (some .int), 1, ct_X10_comes l, by decide, by decide, mi_X10_comes.1, mi_X10_comes.2, ml_RX10_176, mv_X10_comes.1, mv_X10_comes.2, ⟨_, _, rfl⟩, by decide, by decide +kernel⟩)), List.forall_mem_cons.mpr ⟨Or.inr (Or.inr (Or.inr ⟨yX10_is, cX10_is, 2, (some .boolean), 0, ct_X10_is l, by decide, by decide, mi_X10_is.1, mi_X10_is.2, ml_RX10_154, mv_X10_is.1, mv_X10_is.2, ⟨_, _, rfl⟩, by decide, by decide +kernel⟩)), fun _ h => absurd h List.not_mem_nil⟩⟩⟩⟩⟩⟩) (x, q) (lkp_mem h)) sf_RX10_ok (by decide +kernel) 400 (fun As σ Q h => ?_)
  replace h := p1r_e h
  obtain ⟨z0, q0, rfl, h⟩ := h
  replace h := onB_e h
  obtain ⟨e0, h⟩ := h
  have e0 := Nat.eq_of_beq_eq_true e0
  subst e0
  replace h := onB_e h
  obtain ⟨e9, h⟩ := h
  have e9 := List.isEmpty_iff.mp e9
  subst e9
  refine ⟨Nat.le_of_ble_eq_true rfl, fun P hP => ?_⟩
  exact h (fun x1 τ => P 15 [.ref 0, .int x1] τ) (fun x1 x2 τ => P 25 [.ref 0, .int x1, .int x2] τ) (fun x1 x2 x3 x4 τ => P 115 [.ref 0, .int x1, .int x2, .int x3, .int x4] τ) (fun x1 τ hb => hP 15 [.ref 0, .int x1] τ hb) (fun x1 x2 τ hb => hP 25 [.ref 0, .int x1, .int x2] τ hb) (fun x1 x2 x3 x4 τ hb => hP 115 [.ref 0, .int x1, .int x2, .int x3, .int x4] τ hb)
def wp_X10_value (x1 : Int32) (x2 : Int32) (σ : Sg) (Q : Int32 → Sg → Prop) : Prop :=
  wp_X10_isSign x1 σ (fun r1 => ((r1 = 0 → wp_X10_no (-3 : Int32) σ (fun r2 s3 => Q r2 s3)) ∧ (¬ r1 = 0 → wp_X10_ways σ (fun r4 => wp_X10_isIn (x2).toInt64 (0 : Int64) ((r4 - (1 : Int32))).toInt64 σ (fun r5 => ((r5 = 0 → wp_X10_no (-3 : Int32) σ (fun r6 s7 => Q r6 s7)) ∧ (¬ r5 = 0 → wp_X10_show (gI σ 0 19) x2 σ (fun s8 => wp_X10_is x1 s8 (fun r9 => ((r9 = 0 → Q (0 : Int32) s8) ∧ (¬ r9 = 0 → Q (1 : Int32) s8)))))))))))
def wl_X10_value : WP := fun As σ Q => p1r As (fun z0 r0 => onB (Nat.beq z0 0) (p1i r0 (fun x1 r1 => p1i r1 (fun x2 r2 => onB r2.isEmpty (wp_X10_value x1 x2 σ (fun x τ => Q (some (.int x)) τ))))))
def tb_X10_value : List (Nat × Instr × Nat) := [(0, (.aload_n 0, 1)), (1, (.iload_n 1, 1)), (2, (.invokevirtual 129, 3)), (5, (.ifCond .eq 24, 3)), (8, (.iload_n 2, 1)), (9, (.i2l, 1)), (10, (.lconst 0, 1)), (11, (.aload_n 0, 1)), (12, (.invokevirtual 165, 3)), (15, (.iconst 1, 1)), (16, (.isub, 1)), (17, (.i2l, 1)), (18, (.invokestatic 133, 3)), (21, (.ifCond .ne 31, 3)), (24, (.aload_n 0, 1)), (25, (.bipush (-3), 2)), (27, (.invokevirtual 118, 3)), (30, (.ireturn, 1)), (31, (.aload_n 0, 1)), (32, (.aload_n 0, 1)), (33, (.getfield 179, 3)), (36, (.iload_n 2, 1)), (37, (.invokevirtual 168, 3)), (40, (.aload_n 0, 1)), (41, (.iload_n 1, 1)), (42, (.invokevirtual 154, 3)), (45, (.ifCond .eq 52, 3)), (48, (.iconst 1, 1)), (49, (.goto 53, 3)), (52, (.iconst 0, 1)), (53, (.ireturn, 1))]
def ce_X10_value : List (Nat × (Nat × Option Nat × WP)) := [(129, (2, some 10, wl_X10_isSign)), (165, (1, some 10, wl_X10_ways)), (133, (3, none, wl_X10_isIn)), (118, (2, some 10, wl_X10_no)), (168, (3, some 10, wl_X10_show)), (154, (2, some 10, wl_X10_is))]
set_option maxRecDepth 100000 in
set_option maxHeartbeats 4000000 in
theorem ct_X10_value (l : Launch) : Con l wM yX10_value cX10_value 3 (some .int) 2 wl_X10_value := by
  refine sxm_ok l (ft := lkp ft_RX10) (c32 := lkp c32_RX10) (c64 := lkp c64_RX10) (ce := lkp ce_X10_value) (sf := lkp sf_RX10) (lab := lkp []) (T := tb_X10_value) (by decide +kernel) ft_RX10_ok c32_RX10_ok c64_RX10_ok (fun x q h => (show ∀ q ∈ ce_X10_value, ceOK l wM RX10 2 q.1 q.2.1 q.2.2.1 q.2.2.2 from List.forall_mem_cons.mpr ⟨Or.inr (Or.inr (Or.inr ⟨yX10_isSign, cX10_isSign, 2, (some .boolean), 0, ct_X10_isSign l, by decide, by decide, mi_X10_isSign.1, mi_X10_isSign.2, ml_RX10_129, mv_X10_isSign.1, mv_X10_isSign.2, ⟨_, _, rfl⟩, by decide, by decide +kernel⟩)), List.forall_mem_cons.mpr ⟨Or.inr (Or.inr (Or.inr ⟨yX10_ways, cX10_ways, 1, (some .int), 0, ct_X10_ways l, by decide, by decide, mi_X10_ways.1, mi_X10_ways.2, ml_RX10_165, mv_X10_ways.1, mv_X10_ways.2, ⟨_, _, rfl⟩, by decide, by decide +kernel⟩)), List.forall_mem_cons.mpr ⟨Or.inr (Or.inr (Or.inr ⟨yX10_isIn, cX10_isIn, 6, (some .boolean), 0, ct_X10_isIn l, by decide, by decide, mi_X10_isIn.1, mi_X10_isIn.2, Or.inl ml_RX10_133, ms_X10_isIn, by decide +kernel⟩)), List.forall_mem_cons.mpr ⟨Or.inr (Or.inr (Or.inr ⟨yX10_no, cX10_no, 2, (some .int), 0, ct_X10_no l, by decide, by decide, mi_X10_no.1, mi_X10_no.2, ml_RX10_118, mv_X10_no.1, mv_X10_no.2, ⟨_, _, rfl⟩, by decide, by decide +kernel⟩)), List.forall_mem_cons.mpr ⟨Or.inr (Or.inr (Or.inr ⟨yX10_show, cX10_show, 4, none, 1, ct_X10_show l, by decide, by decide, mi_X10_show.1, mi_X10_show.2, ml_RX10_168, mv_X10_show.1, mv_X10_show.2, ⟨_, _, rfl⟩, by decide, by decide +kernel⟩)), List.forall_mem_cons.mpr ⟨Or.inr (Or.inr (Or.inr ⟨yX10_is, cX10_is, 2, (some .boolean), 0, ct_X10_is l, by decide, by decide, mi_X10_is.1, mi_X10_is.2, ml_RX10_154, mv_X10_is.1, mv_X10_is.2, ⟨_, _, rfl⟩, by decide, by decide +kernel⟩)), fun _ h => absurd h List.not_mem_nil⟩⟩⟩⟩⟩⟩) (x, q) (lkp_mem h)) sf_RX10_ok (by decide +kernel) 400 (fun As σ Q h => ?_)
  replace h := p1r_e h
  obtain ⟨z0, q0, rfl, h⟩ := h
  replace h := onB_e h
  obtain ⟨e0, h⟩ := h
  have e0 := Nat.eq_of_beq_eq_true e0
  subst e0
  replace h := p1i_e h
  obtain ⟨x1, q1, rfl, h⟩ := h
  replace h := p1i_e h
  obtain ⟨x2, q2, rfl, h⟩ := h
  replace h := onB_e h
  obtain ⟨e9, h⟩ := h
  have e9 := List.isEmpty_iff.mp e9
  subst e9
  refine ⟨Nat.le_of_ble_eq_true rfl, fun P hP => ?_⟩
  exact h 
def wp_X10_asked (x1 : Int32) (x2 : Int32) (x3 : Int32) (σ : Sg) (Q : Int32 → Prop) : Prop :=
  ∀ L3 : Int32 → Prop,
  (∀ (x4 : Int32), wp_X10_states σ (fun r1 => ((x4 < r1 → wp_X10_isInCube x4 x2 x3 σ (fun r2 => ((r2 = 0 → wp_X10_isInFrame x4 x1 σ (fun r3 => ((r3 = 0 → L3 (x4 + (1 : Int32))) ∧ (¬ r3 = 0 → wp_X10_leadsInto x4 x2 x3 σ (fun r4 => ((r4 = 0 → L3 (x4 + (1 : Int32))) ∧ (¬ r4 = 0 → Q x4))))))) ∧ (¬ r2 = 0 → L3 (x4 + (1 : Int32)))))) ∧ (¬ x4 < r1 → Q (-1 : Int32)))) → L3 x4) →
  L3 (0 : Int32)
def wl_X10_asked : WP := fun As σ Q => p1r As (fun z0 r0 => onB (Nat.beq z0 0) (p1i r0 (fun x1 r1 => p1i r1 (fun x2 r2 => p1i r2 (fun x3 r3 => onB r3.isEmpty (wp_X10_asked x1 x2 x3 σ (fun x => Q (some (.int x)) σ)))))))
def tb_X10_asked : List (Nat × Instr × Nat) := [(0, (.iconst 0, 1)), (1, (.istore 4, 2)), (3, (.iload 4, 2)), (5, (.aload_n 0, 1)), (6, (.invokevirtual 161, 3)), (9, (.if_icmp .ge 52, 3)), (12, (.iload 4, 2)), (14, (.iload_n 2, 1)), (15, (.iload_n 3, 1)), (16, (.invokestatic 200, 3)), (19, (.ifCond .ne 46, 3)), (22, (.aload_n 0, 1)), (23, (.iload 4, 2)), (25, (.iload_n 1, 1)), (26, (.invokevirtual 204, 3)), (29, (.ifCond .eq 46, 3)), (32, (.aload_n 0, 1)), (33, (.iload 4, 2)), (35, (.iload_n 2, 1)), (36, (.iload_n 3, 1)), (37, (.invokevirtual 208, 3)), (40, (.ifCond .eq 46, 3)), (43, (.iload 4, 2)), (45, (.ireturn, 1)), (46, (.iinc 4 1, 3)), (49, (.goto 3, 3)), (52, (.iconst (-1), 1)), (53, (.ireturn, 1))]
def ce_X10_asked : List (Nat × (Nat × Option Nat × WP)) := [(161, (1, some 10, wl_X10_states)), (200, (3, none, wl_X10_isInCube)), (204, (3, some 10, wl_X10_isInFrame)), (208, (4, some 10, wl_X10_leadsInto))]
set_option maxRecDepth 100000 in
set_option maxHeartbeats 4000000 in
theorem ct_X10_asked (l : Launch) : Con l wM yX10_asked cX10_asked 5 (some .int) 2 wl_X10_asked := by
  refine sxm_ok l (ft := lkp ft_RX10) (c32 := lkp c32_RX10) (c64 := lkp c64_RX10) (ce := lkp ce_X10_asked) (sf := lkp sf_RX10) (lab := lkp [(3, [0, 1, 2, 3, 4])]) (T := tb_X10_asked) (by decide +kernel) ft_RX10_ok c32_RX10_ok c64_RX10_ok (fun x q h => (show ∀ q ∈ ce_X10_asked, ceOK l wM RX10 2 q.1 q.2.1 q.2.2.1 q.2.2.2 from List.forall_mem_cons.mpr ⟨Or.inr (Or.inr (Or.inr ⟨yX10_states, cX10_states, 1, (some .int), 0, ct_X10_states l, by decide, by decide, mi_X10_states.1, mi_X10_states.2, ml_RX10_161, mv_X10_states.1, mv_X10_states.2, ⟨_, _, rfl⟩, by decide, by decide +kernel⟩)), List.forall_mem_cons.mpr ⟨Or.inr (Or.inr (Or.inr ⟨yX10_isInCube, cX10_isInCube, 3, (some .boolean), 0, ct_X10_isInCube l, by decide, by decide, mi_X10_isInCube.1, mi_X10_isInCube.2, Or.inl ml_RX10_200, ms_X10_isInCube, by decide +kernel⟩)), List.forall_mem_cons.mpr ⟨Or.inr (Or.inr (Or.inr ⟨yX10_isInFrame, cX10_isInFrame, 4, (some .boolean), 1, ct_X10_isInFrame l, by decide, by decide, mi_X10_isInFrame.1, mi_X10_isInFrame.2, ml_RX10_204, mv_X10_isInFrame.1, mv_X10_isInFrame.2, ⟨_, _, rfl⟩, by decide, by decide +kernel⟩)), List.forall_mem_cons.mpr ⟨Or.inr (Or.inr (Or.inr ⟨yX10_leadsInto, cX10_leadsInto, 6, (some .boolean), 1, ct_X10_leadsInto l, by decide, by decide, mi_X10_leadsInto.1, mi_X10_leadsInto.2, ml_RX10_208, mv_X10_leadsInto.1, mv_X10_leadsInto.2, ⟨_, _, rfl⟩, by decide, by decide +kernel⟩)), fun _ h => absurd h List.not_mem_nil⟩⟩⟩⟩) (x, q) (lkp_mem h)) sf_RX10_ok (by decide +kernel) 400 (fun As σ Q h => ?_)
  replace h := p1r_e h
  obtain ⟨z0, q0, rfl, h⟩ := h
  replace h := onB_e h
  obtain ⟨e0, h⟩ := h
  have e0 := Nat.eq_of_beq_eq_true e0
  subst e0
  replace h := p1i_e h
  obtain ⟨x1, q1, rfl, h⟩ := h
  replace h := p1i_e h
  obtain ⟨x2, q2, rfl, h⟩ := h
  replace h := p1i_e h
  obtain ⟨x3, q3, rfl, h⟩ := h
  replace h := onB_e h
  obtain ⟨e9, h⟩ := h
  have e9 := List.isEmpty_iff.mp e9
  subst e9
  refine ⟨Nat.le_of_ble_eq_true rfl, fun P hP => ?_⟩
  exact h (fun x4 => P 3 [.ref 0, .int x1, .int x2, .int x3, .int x4] σ) (fun x4 hb => hP 3 [.ref 0, .int x1, .int x2, .int x3, .int x4] σ hb)
def wp_X10_forerunner (x1 : Int32) (x2 : Int32) (σ : Sg) (Q : Int32 → Prop) : Prop :=
  ∀ L2 : Int32 → Prop,
  (∀ (x3 : Int32), wp_X10_states σ (fun r1 => ((x3 < r1 → ((x3 = x1 → L2 (x3 + (1 : Int32))) ∧ (¬ x3 = x1 → wp_X10_isInFrame x3 x2 σ (fun r2 => ((r2 = 0 → L2 (x3 + (1 : Int32))) ∧ (¬ r2 = 0 → wp_X10_leads x3 x1 σ (fun r3 => ((r3 = 0 → L2 (x3 + (1 : Int32))) ∧ (¬ r3 = 0 → Q x3))))))))) ∧ (¬ x3 < r1 → Q (-1 : Int32)))) → L2 x3) →
  L2 (0 : Int32)
def wl_X10_forerunner : WP := fun As σ Q => p1r As (fun z0 r0 => onB (Nat.beq z0 0) (p1i r0 (fun x1 r1 => p1i r1 (fun x2 r2 => onB r2.isEmpty (wp_X10_forerunner x1 x2 σ (fun x => Q (some (.int x)) σ))))))
def tb_X10_forerunner : List (Nat × Instr × Nat) := [(0, (.iconst 0, 1)), (1, (.istore_n 3, 1)), (2, (.iload_n 3, 1)), (3, (.aload_n 0, 1)), (4, (.invokevirtual 161, 3)), (7, (.if_icmp .ge 41, 3)), (10, (.iload_n 3, 1)), (11, (.iload_n 1, 1)), (12, (.if_icmp .eq 35, 3)), (15, (.aload_n 0, 1)), (16, (.iload_n 3, 1)), (17, (.iload_n 2, 1)), (18, (.invokevirtual 204, 3)), (21, (.ifCond .eq 35, 3)), (24, (.aload_n 0, 1)), (25, (.iload_n 3, 1)), (26, (.iload_n 1, 1)), (27, (.invokevirtual 214, 3)), (30, (.ifCond .eq 35, 3)), (33, (.iload_n 3, 1)), (34, (.ireturn, 1)), (35, (.iinc 3 1, 3)), (38, (.goto 2, 3)), (41, (.iconst (-1), 1)), (42, (.ireturn, 1))]
def ce_X10_forerunner : List (Nat × (Nat × Option Nat × WP)) := [(161, (1, some 10, wl_X10_states)), (204, (3, some 10, wl_X10_isInFrame)), (214, (3, some 10, wl_X10_leads))]
set_option maxRecDepth 100000 in
set_option maxHeartbeats 4000000 in
theorem ct_X10_forerunner (l : Launch) : Con l wM yX10_forerunner cX10_forerunner 4 (some .int) 2 wl_X10_forerunner := by
  refine sxm_ok l (ft := lkp ft_RX10) (c32 := lkp c32_RX10) (c64 := lkp c64_RX10) (ce := lkp ce_X10_forerunner) (sf := lkp sf_RX10) (lab := lkp [(2, [0, 1, 2, 3])]) (T := tb_X10_forerunner) (by decide +kernel) ft_RX10_ok c32_RX10_ok c64_RX10_ok (fun x q h => (show ∀ q ∈ ce_X10_forerunner, ceOK l wM RX10 2 q.1 q.2.1 q.2.2.1 q.2.2.2 from List.forall_mem_cons.mpr ⟨Or.inr (Or.inr (Or.inr ⟨yX10_states, cX10_states, 1, (some .int), 0, ct_X10_states l, by decide, by decide, mi_X10_states.1, mi_X10_states.2, ml_RX10_161, mv_X10_states.1, mv_X10_states.2, ⟨_, _, rfl⟩, by decide, by decide +kernel⟩)), List.forall_mem_cons.mpr ⟨Or.inr (Or.inr (Or.inr ⟨yX10_isInFrame, cX10_isInFrame, 4, (some .boolean), 1, ct_X10_isInFrame l, by decide, by decide, mi_X10_isInFrame.1, mi_X10_isInFrame.2, ml_RX10_204, mv_X10_isInFrame.1, mv_X10_isInFrame.2, ⟨_, _, rfl⟩, by decide, by decide +kernel⟩)), List.forall_mem_cons.mpr ⟨Or.inr (Or.inr (Or.inr ⟨yX10_leads, cX10_leads, 5, (some .boolean), 1, ct_X10_leads l, by decide, by decide, mi_X10_leads.1, mi_X10_leads.2, ml_RX10_214, mv_X10_leads.1, mv_X10_leads.2, ⟨_, _, rfl⟩, by decide, by decide +kernel⟩)), fun _ h => absurd h List.not_mem_nil⟩⟩⟩) (x, q) (lkp_mem h)) sf_RX10_ok (by decide +kernel) 400 (fun As σ Q h => ?_)
  replace h := p1r_e h
  obtain ⟨z0, q0, rfl, h⟩ := h
  replace h := onB_e h
  obtain ⟨e0, h⟩ := h
  have e0 := Nat.eq_of_beq_eq_true e0
  subst e0
  replace h := p1i_e h
  obtain ⟨x1, q1, rfl, h⟩ := h
  replace h := p1i_e h
  obtain ⟨x2, q2, rfl, h⟩ := h
  replace h := onB_e h
  obtain ⟨e9, h⟩ := h
  have e9 := List.isEmpty_iff.mp e9
  subst e9
  refine ⟨Nat.le_of_ble_eq_true rfl, fun P hP => ?_⟩
  exact h (fun x3 => P 2 [.ref 0, .int x1, .int x2, .int x3] σ) (fun x3 hb => hP 2 [.ref 0, .int x1, .int x2, .int x3] σ hb)
def wp_X10_isShut (x1 : Int32) (x2 : Int32) (x3 : Int32) (σ : Sg) (Q : Int32 → Prop) : Prop :=
  ∀ L3 : Int32 → Prop,
  (∀ (x4 : Int32), wp_X10_states σ (fun r1 => ((x4 < r1 → wp_X10_isInFrame x4 x1 σ (fun r2 => ((r2 = 0 → L3 (x4 + (1 : Int32))) ∧ (¬ r2 = 0 → wp_X10_leadsInto x4 x2 x3 σ (fun r3 => ((r3 = 0 → L3 (x4 + (1 : Int32))) ∧ (¬ r3 = 0 → (nz (0 : Int32) ∧ Q (0 : Int32))))))))) ∧ (¬ x4 < r1 → (nz (1 : Int32) ∧ Q (1 : Int32))))) → L3 x4) →
  L3 (0 : Int32)
def wl_X10_isShut : WP := fun As σ Q => p1r As (fun z0 r0 => onB (Nat.beq z0 0) (p1i r0 (fun x1 r1 => p1i r1 (fun x2 r2 => p1i r2 (fun x3 r3 => onB r3.isEmpty (wp_X10_isShut x1 x2 x3 σ (fun x => Q (some (.int x)) σ)))))))
def tb_X10_isShut : List (Nat × Instr × Nat) := [(0, (.iconst 0, 1)), (1, (.istore 4, 2)), (3, (.iload 4, 2)), (5, (.aload_n 0, 1)), (6, (.invokevirtual 161, 3)), (9, (.if_icmp .ge 41, 3)), (12, (.aload_n 0, 1)), (13, (.iload 4, 2)), (15, (.iload_n 1, 1)), (16, (.invokevirtual 204, 3)), (19, (.ifCond .eq 35, 3)), (22, (.aload_n 0, 1)), (23, (.iload 4, 2)), (25, (.iload_n 2, 1)), (26, (.iload_n 3, 1)), (27, (.invokevirtual 208, 3)), (30, (.ifCond .eq 35, 3)), (33, (.iconst 0, 1)), (34, (.ireturn, 1)), (35, (.iinc 4 1, 3)), (38, (.goto 3, 3)), (41, (.iconst 1, 1)), (42, (.ireturn, 1))]
def ce_X10_isShut : List (Nat × (Nat × Option Nat × WP)) := [(161, (1, some 10, wl_X10_states)), (204, (3, some 10, wl_X10_isInFrame)), (208, (4, some 10, wl_X10_leadsInto))]
set_option maxRecDepth 100000 in
set_option maxHeartbeats 4000000 in
theorem ct_X10_isShut (l : Launch) : Con l wM yX10_isShut cX10_isShut 5 (some .boolean) 2 wl_X10_isShut := by
  refine sxm_ok l (ft := lkp ft_RX10) (c32 := lkp c32_RX10) (c64 := lkp c64_RX10) (ce := lkp ce_X10_isShut) (sf := lkp sf_RX10) (lab := lkp [(3, [0, 1, 2, 3, 4])]) (T := tb_X10_isShut) (by decide +kernel) ft_RX10_ok c32_RX10_ok c64_RX10_ok (fun x q h => (show ∀ q ∈ ce_X10_isShut, ceOK l wM RX10 2 q.1 q.2.1 q.2.2.1 q.2.2.2 from List.forall_mem_cons.mpr ⟨Or.inr (Or.inr (Or.inr ⟨yX10_states, cX10_states, 1, (some .int), 0, ct_X10_states l, by decide, by decide, mi_X10_states.1, mi_X10_states.2, ml_RX10_161, mv_X10_states.1, mv_X10_states.2, ⟨_, _, rfl⟩, by decide, by decide +kernel⟩)), List.forall_mem_cons.mpr ⟨Or.inr (Or.inr (Or.inr ⟨yX10_isInFrame, cX10_isInFrame, 4, (some .boolean), 1, ct_X10_isInFrame l, by decide, by decide, mi_X10_isInFrame.1, mi_X10_isInFrame.2, ml_RX10_204, mv_X10_isInFrame.1, mv_X10_isInFrame.2, ⟨_, _, rfl⟩, by decide, by decide +kernel⟩)), List.forall_mem_cons.mpr ⟨Or.inr (Or.inr (Or.inr ⟨yX10_leadsInto, cX10_leadsInto, 6, (some .boolean), 1, ct_X10_leadsInto l, by decide, by decide, mi_X10_leadsInto.1, mi_X10_leadsInto.2, ml_RX10_208, mv_X10_leadsInto.1, mv_X10_leadsInto.2, ⟨_, _, rfl⟩, by decide, by decide +kernel⟩)), fun _ h => absurd h List.not_mem_nil⟩⟩⟩) (x, q) (lkp_mem h)) sf_RX10_ok (by decide +kernel) 400 (fun As σ Q h => ?_)
  replace h := p1r_e h
  obtain ⟨z0, q0, rfl, h⟩ := h
  replace h := onB_e h
  obtain ⟨e0, h⟩ := h
  have e0 := Nat.eq_of_beq_eq_true e0
  subst e0
  replace h := p1i_e h
  obtain ⟨x1, q1, rfl, h⟩ := h
  replace h := p1i_e h
  obtain ⟨x2, q2, rfl, h⟩ := h
  replace h := p1i_e h
  obtain ⟨x3, q3, rfl, h⟩ := h
  replace h := onB_e h
  obtain ⟨e9, h⟩ := h
  have e9 := List.isEmpty_iff.mp e9
  subst e9
  refine ⟨Nat.le_of_ble_eq_true rfl, fun P hP => ?_⟩
  exact h (fun x4 => P 3 [.ref 0, .int x1, .int x2, .int x3, .int x4] σ) (fun x4 hb => hP 3 [.ref 0, .int x1, .int x2, .int x3, .int x4] σ hb)
def wp_X10_hasTrouble  (σ : Sg) (Q : Int32 → Sg → Prop) : Prop :=
  ∀ L2 : Int32 → Sg → Prop,
  (∀ (x1 : Int32) (τ : Sg), wp_X10_states τ (fun r1 => ((x1 < r1 → wp_X10_isInFrame x1 (gI τ 0 23) τ (fun r2 => ((r2 = 0 → L2 (x1 + (1 : Int32)) τ) ∧ (¬ r2 = 0 → wp_X10_isBadState x1 τ (fun r3 => ((r3 = 0 → L2 (x1 + (1 : Int32)) τ) ∧ (¬ r3 = 0 → wp_X10_meet x1 (gI τ 0 23) τ (fun s4 => (nz (1 : Int32) ∧ Q (1 : Int32) s4))))))))) ∧ (¬ x1 < r1 → (nz (0 : Int32) ∧ Q (0 : Int32) τ)))) → L2 x1 τ) →
  L2 (0 : Int32) σ
def wl_X10_hasTrouble : WP := fun As σ Q => p1r As (fun z0 r0 => onB (Nat.beq z0 0) (onB r0.isEmpty (wp_X10_hasTrouble  σ (fun x τ => Q (some (.int x)) τ))))
def tb_X10_hasTrouble : List (Nat × Instr × Nat) := [(0, (.iconst 0, 1)), (1, (.istore_n 1, 1)), (2, (.iload_n 1, 1)), (3, (.aload_n 0, 1)), (4, (.invokevirtual 161, 3)), (7, (.if_icmp .ge 50, 3)), (10, (.aload_n 0, 1)), (11, (.iload_n 1, 1)), (12, (.aload_n 0, 1)), (13, (.getfield 188, 3)), (16, (.invokevirtual 204, 3)), (19, (.ifCond .eq 44, 3)), (22, (.aload_n 0, 1)), (23, (.iload_n 1, 1)), (24, (.invokevirtual 247, 3)), (27, (.ifCond .ne 33, 3)), (30, (.goto 44, 3)), (33, (.aload_n 0, 1)), (34, (.iload_n 1, 1)), (35, (.aload_n 0, 1)), (36, (.getfield 188, 3)), (39, (.invokevirtual 224, 3)), (42, (.iconst 1, 1)), (43, (.ireturn, 1)), (44, (.iinc 1 1, 3)), (47, (.goto 2, 3)), (50, (.iconst 0, 1)), (51, (.ireturn, 1))]
def ce_X10_hasTrouble : List (Nat × (Nat × Option Nat × WP)) := [(161, (1, some 10, wl_X10_states)), (204, (3, some 10, wl_X10_isInFrame)), (247, (2, some 10, wl_X10_isBadState)), (224, (3, some 10, wl_X10_meet))]
set_option maxRecDepth 100000 in
set_option maxHeartbeats 4000000 in
theorem ct_X10_hasTrouble (l : Launch) : Con l wM yX10_hasTrouble cX10_hasTrouble 2 (some .boolean) 2 wl_X10_hasTrouble := by
  refine sxm_ok l (ft := lkp ft_RX10) (c32 := lkp c32_RX10) (c64 := lkp c64_RX10) (ce := lkp ce_X10_hasTrouble) (sf := lkp sf_RX10) (lab := lkp [(2, [0, 1])]) (T := tb_X10_hasTrouble) (by decide +kernel) ft_RX10_ok c32_RX10_ok c64_RX10_ok (fun x q h => (show ∀ q ∈ ce_X10_hasTrouble, ceOK l wM RX10 2 q.1 q.2.1 q.2.2.1 q.2.2.2 from List.forall_mem_cons.mpr ⟨Or.inr (Or.inr (Or.inr ⟨yX10_states, cX10_states, 1, (some .int), 0, ct_X10_states l, by decide, by decide, mi_X10_states.1, mi_X10_states.2, ml_RX10_161, mv_X10_states.1, mv_X10_states.2, ⟨_, _, rfl⟩, by decide, by decide +kernel⟩)), List.forall_mem_cons.mpr ⟨Or.inr (Or.inr (Or.inr ⟨yX10_isInFrame, cX10_isInFrame, 4, (some .boolean), 1, ct_X10_isInFrame l, by decide, by decide, mi_X10_isInFrame.1, mi_X10_isInFrame.2, ml_RX10_204, mv_X10_isInFrame.1, mv_X10_isInFrame.2, ⟨_, _, rfl⟩, by decide, by decide +kernel⟩)), List.forall_mem_cons.mpr ⟨Or.inr (Or.inr (Or.inr ⟨yX10_isBadState, cX10_isBadState, 4, (some .boolean), 1, ct_X10_isBadState l, by decide, by decide, mi_X10_isBadState.1, mi_X10_isBadState.2, ml_RX10_247, mv_X10_isBadState.1, mv_X10_isBadState.2, ⟨_, _, rfl⟩, by decide, by decide +kernel⟩)), List.forall_mem_cons.mpr ⟨Or.inr (Or.inr (Or.inr ⟨yX10_meet, cX10_meet, 3, none, 0, ct_X10_meet l, by decide, by decide, mi_X10_meet.1, mi_X10_meet.2, ml_RX10_224, mv_X10_meet.1, mv_X10_meet.2, ⟨_, _, rfl⟩, by decide, by decide +kernel⟩)), fun _ h => absurd h List.not_mem_nil⟩⟩⟩⟩) (x, q) (lkp_mem h)) sf_RX10_ok (by decide +kernel) 400 (fun As σ Q h => ?_)
  replace h := p1r_e h
  obtain ⟨z0, q0, rfl, h⟩ := h
  replace h := onB_e h
  obtain ⟨e0, h⟩ := h
  have e0 := Nat.eq_of_beq_eq_true e0
  subst e0
  replace h := onB_e h
  obtain ⟨e9, h⟩ := h
  have e9 := List.isEmpty_iff.mp e9
  subst e9
  refine ⟨Nat.le_of_ble_eq_true rfl, fun P hP => ?_⟩
  exact h (fun x1 τ => P 2 [.ref 0, .int x1] τ) (fun x1 τ hb => hP 2 [.ref 0, .int x1] τ hb)
def wp_X10_list (x1 : Int32) (x2 : Int32) (σ : Sg) (Q : Int32 → Sg → Prop) : Prop :=
  wp_X10_isCube x1 x2 σ (fun r1 => ((r1 = 0 → wp_X10_no (-7 : Int32) σ (fun r2 s3 => Q r2 s3)) ∧ (¬ r1 = 0 → (((gI σ 0 39) = (100 : Int32) → wp_X10_no (-8 : Int32) σ (fun r4 s5 => Q r4 s5)) ∧ (¬ (gI σ 0 39) = (100 : Int32) → (vp_in (gI σ 0 39) 100 ∧ (vp_in (gI (sI σ 23 ((gI σ 0 39)).toNatClampNeg x1) 0 39) 100 ∧ Q (gI (sI (sI (sI σ 23 ((gI σ 0 39)).toNatClampNeg x1) 24 ((gI (sI σ 23 ((gI σ 0 39)).toNatClampNeg x1) 0 39)).toNatClampNeg x2) 0 39 ((gI (sI (sI σ 23 ((gI σ 0 39)).toNatClampNeg x1) 24 ((gI (sI σ 23 ((gI σ 0 39)).toNatClampNeg x1) 0 39)).toNatClampNeg x2) 0 39) + (1 : Int32))) 0 39) (sI (sI (sI σ 23 ((gI σ 0 39)).toNatClampNeg x1) 24 ((gI (sI σ 23 ((gI σ 0 39)).toNatClampNeg x1) 0 39)).toNatClampNeg x2) 0 39 ((gI (sI (sI σ 23 ((gI σ 0 39)).toNatClampNeg x1) 24 ((gI (sI σ 23 ((gI σ 0 39)).toNatClampNeg x1) 0 39)).toNatClampNeg x2) 0 39) + (1 : Int32))))))))))
def wl_X10_list : WP := fun As σ Q => p1r As (fun z0 r0 => onB (Nat.beq z0 0) (p1i r0 (fun x1 r1 => p1i r1 (fun x2 r2 => onB r2.isEmpty (wp_X10_list x1 x2 σ (fun x τ => Q (some (.int x)) τ))))))
def tb_X10_list : List (Nat × Instr × Nat) := [(0, (.aload_n 0, 1)), (1, (.iload_n 1, 1)), (2, (.iload_n 2, 1)), (3, (.invokevirtual 266, 3)), (6, (.ifCond .ne 16, 3)), (9, (.aload_n 0, 1)), (10, (.bipush (-7), 2)), (12, (.invokevirtual 118, 3)), (15, (.ireturn, 1)), (16, (.aload_n 0, 1)), (17, (.getfield 151, 3)), (20, (.bipush 100, 2)), (22, (.if_icmp .ne 32, 3)), (25, (.aload_n 0, 1)), (26, (.bipush (-8), 2)), (28, (.invokevirtual 118, 3)), (31, (.ireturn, 1)), (32, (.aload_n 0, 1)), (33, (.getfield 85, 3)), (36, (.aload_n 0, 1)), (37, (.getfield 151, 3)), (40, (.iload_n 1, 1)), (41, (.iastore, 1)), (42, (.aload_n 0, 1)), (43, (.getfield 88, 3)), (46, (.aload_n 0, 1)), (47, (.getfield 151, 3)), (50, (.iload_n 2, 1)), (51, (.iastore, 1)), (52, (.aload_n 0, 1)), (53, (.dup, 1)), (54, (.getfield 151, 3)), (57, (.iconst 1, 1)), (58, (.iadd, 1)), (59, (.putfield 151, 3)), (62, (.aload_n 0, 1)), (63, (.getfield 151, 3)), (66, (.ireturn, 1))]
def ce_X10_list : List (Nat × (Nat × Option Nat × WP)) := [(266, (3, some 10, wl_X10_isCube)), (118, (2, some 10, wl_X10_no))]
set_option maxRecDepth 100000 in
set_option maxHeartbeats 4000000 in
theorem ct_X10_list (l : Launch) : Con l wM yX10_list cX10_list 3 (some .int) 2 wl_X10_list := by
  refine sxm_ok l (ft := lkp ft_RX10) (c32 := lkp c32_RX10) (c64 := lkp c64_RX10) (ce := lkp ce_X10_list) (sf := lkp sf_RX10) (lab := lkp []) (T := tb_X10_list) (by decide +kernel) ft_RX10_ok c32_RX10_ok c64_RX10_ok (fun x q h => (show ∀ q ∈ ce_X10_list, ceOK l wM RX10 2 q.1 q.2.1 q.2.2.1 q.2.2.2 from List.forall_mem_cons.mpr ⟨Or.inr (Or.inr (Or.inr ⟨yX10_isCube, cX10_isCube, 3, (some .boolean), 1, ct_X10_isCube l, by decide, by decide, mi_X10_isCube.1, mi_X10_isCube.2, ml_RX10_266, mv_X10_isCube.1, mv_X10_isCube.2, ⟨_, _, rfl⟩, by decide, by decide +kernel⟩)), List.forall_mem_cons.mpr ⟨Or.inr (Or.inr (Or.inr ⟨yX10_no, cX10_no, 2, (some .int), 0, ct_X10_no l, by decide, by decide, mi_X10_no.1, mi_X10_no.2, ml_RX10_118, mv_X10_no.1, mv_X10_no.2, ⟨_, _, rfl⟩, by decide, by decide +kernel⟩)), fun _ h => absurd h List.not_mem_nil⟩⟩) (x, q) (lkp_mem h)) sf_RX10_ok (by decide +kernel) 400 (fun As σ Q h => ?_)
  replace h := p1r_e h
  obtain ⟨z0, q0, rfl, h⟩ := h
  replace h := onB_e h
  obtain ⟨e0, h⟩ := h
  have e0 := Nat.eq_of_beq_eq_true e0
  subst e0
  replace h := p1i_e h
  obtain ⟨x1, q1, rfl, h⟩ := h
  replace h := p1i_e h
  obtain ⟨x2, q2, rfl, h⟩ := h
  replace h := onB_e h
  obtain ⟨e9, h⟩ := h
  have e9 := List.isEmpty_iff.mp e9
  subst e9
  refine ⟨Nat.le_of_ble_eq_true rfl, fun P hP => ?_⟩
  exact h 
def wp_X10_lay (x1 : Int32) (x2 : Int32) (σ : Sg) (Q : Int32 → Sg → Prop) : Prop :=
  ∀ L47 : Int32 → Sg → Prop,
  (∀ (x3 : Int32) (τ : Sg), ((x3 < (gI τ 0 5) → (vp_in x3 80 ∧ (((gI τ 5 (x3).toNatClampNeg) = 0 → (vp_in x3 80 ∧ L47 (x3 + (1 : Int32)) (sI τ 25 (x3).toNatClampNeg (0 : Int32)))) ∧ (¬ (gI τ 5 (x3).toNatClampNeg) = 0 → (vp_in x3 80 ∧ L47 (x3 + (1 : Int32)) (sI τ 25 (x3).toNatClampNeg (1 : Int32))))))) ∧ (¬ x3 < (gI τ 0 5) → Q (gI τ 0 5) τ)) → L47 x3 τ) →
  wp_X10_isState x1 σ (fun r1 => ((r1 = 0 → wp_X10_no (-3 : Int32) σ (fun r2 s3 => Q r2 s3)) ∧ (¬ r1 = 0 → wp_X10_ways σ (fun r4 => wp_X10_isIn (x2).toInt64 (0 : Int64) ((r4 - (1 : Int32))).toInt64 σ (fun r5 => ((r5 = 0 → wp_X10_no (-3 : Int32) σ (fun r6 s7 => Q r6 s7)) ∧ (¬ r5 = 0 → wp_X10_show x1 x2 σ (fun s8 => L47 (0 : Int32) (sI s8 0 46 (gI s8 0 5))))))))))
def wl_X10_lay : WP := fun As σ Q => p1r As (fun z0 r0 => onB (Nat.beq z0 0) (p1i r0 (fun x1 r1 => p1i r1 (fun x2 r2 => onB r2.isEmpty (wp_X10_lay x1 x2 σ (fun x τ => Q (some (.int x)) τ))))))
def tb_X10_lay : List (Nat × Instr × Nat) := [(0, (.aload_n 0, 1)), (1, (.iload_n 1, 1)), (2, (.invokevirtual 185, 3)), (5, (.ifCond .eq 24, 3)), (8, (.iload_n 2, 1)), (9, (.i2l, 1)), (10, (.lconst 0, 1)), (11, (.aload_n 0, 1)), (12, (.invokevirtual 165, 3)), (15, (.iconst 1, 1)), (16, (.isub, 1)), (17, (.i2l, 1)), (18, (.invokestatic 133, 3)), (21, (.ifCond .ne 31, 3)), (24, (.aload_n 0, 1)), (25, (.bipush (-3), 2)), (27, (.invokevirtual 118, 3)), (30, (.ireturn, 1)), (31, (.aload_n 0, 1)), (32, (.iload_n 1, 1)), (33, (.iload_n 2, 1)), (34, (.invokevirtual 168, 3)), (37, (.aload_n 0, 1)), (38, (.aload_n 0, 1)), (39, (.getfield 112, 3)), (42, (.putfield 103, 3)), (45, (.iconst 0, 1)), (46, (.istore_n 3, 1)), (47, (.iload_n 3, 1)), (48, (.aload_n 0, 1)), (49, (.getfield 112, 3)), (52, (.if_icmp .ge 81, 3)), (55, (.aload_n 0, 1)), (56, (.getfield 97, 3)), (59, (.iload_n 3, 1)), (60, (.aload_n 0, 1)), (61, (.getfield 22, 3)), (64, (.iload_n 3, 1)), (65, (.baload, 1)), (66, (.ifCond .eq 73, 3)), (69, (.iconst 1, 1)), (70, (.goto 74, 3)), (73, (.iconst 0, 1)), (74, (.iastore, 1)), (75, (.iinc 3 1, 3)), (78, (.goto 47, 3)), (81, (.aload_n 0, 1)), (82, (.getfield 112, 3)), (85, (.ireturn, 1))]
def ce_X10_lay : List (Nat × (Nat × Option Nat × WP)) := [(185, (2, some 10, wl_X10_isState)), (165, (1, some 10, wl_X10_ways)), (133, (3, none, wl_X10_isIn)), (118, (2, some 10, wl_X10_no)), (168, (3, some 10, wl_X10_show))]
set_option maxRecDepth 100000 in
set_option maxHeartbeats 4000000 in
theorem ct_X10_lay (l : Launch) : Con l wM yX10_lay cX10_lay 4 (some .int) 2 wl_X10_lay := by
  refine sxm_ok l (ft := lkp ft_RX10) (c32 := lkp c32_RX10) (c64 := lkp c64_RX10) (ce := lkp ce_X10_lay) (sf := lkp sf_RX10) (lab := lkp [(47, [0, 3])]) (T := tb_X10_lay) (by decide +kernel) ft_RX10_ok c32_RX10_ok c64_RX10_ok (fun x q h => (show ∀ q ∈ ce_X10_lay, ceOK l wM RX10 2 q.1 q.2.1 q.2.2.1 q.2.2.2 from List.forall_mem_cons.mpr ⟨Or.inr (Or.inr (Or.inr ⟨yX10_isState, cX10_isState, 2, (some .boolean), 1, ct_X10_isState l, by decide, by decide, mi_X10_isState.1, mi_X10_isState.2, ml_RX10_185, mv_X10_isState.1, mv_X10_isState.2, ⟨_, _, rfl⟩, by decide, by decide +kernel⟩)), List.forall_mem_cons.mpr ⟨Or.inr (Or.inr (Or.inr ⟨yX10_ways, cX10_ways, 1, (some .int), 0, ct_X10_ways l, by decide, by decide, mi_X10_ways.1, mi_X10_ways.2, ml_RX10_165, mv_X10_ways.1, mv_X10_ways.2, ⟨_, _, rfl⟩, by decide, by decide +kernel⟩)), List.forall_mem_cons.mpr ⟨Or.inr (Or.inr (Or.inr ⟨yX10_isIn, cX10_isIn, 6, (some .boolean), 0, ct_X10_isIn l, by decide, by decide, mi_X10_isIn.1, mi_X10_isIn.2, Or.inl ml_RX10_133, ms_X10_isIn, by decide +kernel⟩)), List.forall_mem_cons.mpr ⟨Or.inr (Or.inr (Or.inr ⟨yX10_no, cX10_no, 2, (some .int), 0, ct_X10_no l, by decide, by decide, mi_X10_no.1, mi_X10_no.2, ml_RX10_118, mv_X10_no.1, mv_X10_no.2, ⟨_, _, rfl⟩, by decide, by decide +kernel⟩)), List.forall_mem_cons.mpr ⟨Or.inr (Or.inr (Or.inr ⟨yX10_show, cX10_show, 4, none, 1, ct_X10_show l, by decide, by decide, mi_X10_show.1, mi_X10_show.2, ml_RX10_168, mv_X10_show.1, mv_X10_show.2, ⟨_, _, rfl⟩, by decide, by decide +kernel⟩)), fun _ h => absurd h List.not_mem_nil⟩⟩⟩⟩⟩) (x, q) (lkp_mem h)) sf_RX10_ok (by decide +kernel) 400 (fun As σ Q h => ?_)
  replace h := p1r_e h
  obtain ⟨z0, q0, rfl, h⟩ := h
  replace h := onB_e h
  obtain ⟨e0, h⟩ := h
  have e0 := Nat.eq_of_beq_eq_true e0
  subst e0
  replace h := p1i_e h
  obtain ⟨x1, q1, rfl, h⟩ := h
  replace h := p1i_e h
  obtain ⟨x2, q2, rfl, h⟩ := h
  replace h := onB_e h
  obtain ⟨e9, h⟩ := h
  have e9 := List.isEmpty_iff.mp e9
  subst e9
  refine ⟨Nat.le_of_ble_eq_true rfl, fun P hP => ?_⟩
  exact h (fun x3 τ => P 47 [.ref 0, .int x3] τ) (fun x3 τ hb => hP 47 [.ref 0, .int x3] τ hb)
def wp_X10_step (x1 : Int32) (σ : Sg) (Q : Int32 → Sg → Prop) : Prop :=
  wp_X10_ways σ (fun r1 => wp_X10_isIn (x1).toInt64 (0 : Int64) ((r1 - (1 : Int32))).toInt64 σ (fun r2 => ((r2 = 0 → wp_X10_no (-3 : Int32) σ (fun r3 s4 => Q r3 s4)) ∧ (¬ r2 = 0 → wp_X10_table σ (fun s5 => (vp_in (((16 : Int32) * (gI s5 0 19)) + x1) 4096 ∧ (((gI s5 9 ((((16 : Int32) * (gI s5 0 19)) + x1)).toNatClampNeg) < 0 → wp_X10_no (-7 : Int32) s5 (fun r6 s7 => Q r6 s7)) ∧ (¬ (gI s5 9 ((((16 : Int32) * (gI s5 0 19)) + x1)).toNatClampNeg) < 0 → Q (gI s5 9 ((((16 : Int32) * (gI s5 0 19)) + x1)).toNatClampNeg) (sI s5 0 19 (gI s5 9 ((((16 : Int32) * (gI s5 0 19)) + x1)).toNatClampNeg))))))))))
def wl_X10_step : WP := fun As σ Q => p1r As (fun z0 r0 => onB (Nat.beq z0 0) (p1i r0 (fun x1 r1 => onB r1.isEmpty (wp_X10_step x1 σ (fun x τ => Q (some (.int x)) τ)))))
def tb_X10_step : List (Nat × Instr × Nat) := [(0, (.iload_n 1, 1)), (1, (.i2l, 1)), (2, (.lconst 0, 1)), (3, (.aload_n 0, 1)), (4, (.invokevirtual 165, 3)), (7, (.iconst 1, 1)), (8, (.isub, 1)), (9, (.i2l, 1)), (10, (.invokestatic 133, 3)), (13, (.ifCond .ne 23, 3)), (16, (.aload_n 0, 1)), (17, (.bipush (-3), 2)), (19, (.invokevirtual 118, 3)), (22, (.ireturn, 1)), (23, (.aload_n 0, 1)), (24, (.invokevirtual 182, 3)), (27, (.aload_n 0, 1)), (28, (.getfield 39, 3)), (31, (.bipush 16, 2)), (33, (.aload_n 0, 1)), (34, (.getfield 179, 3)), (37, (.imul, 1)), (38, (.iload_n 1, 1)), (39, (.iadd, 1)), (40, (.iaload, 1)), (41, (.istore_n 2, 1)), (42, (.iload_n 2, 1)), (43, (.ifCond .ge 53, 3)), (46, (.aload_n 0, 1)), (47, (.bipush (-7), 2)), (49, (.invokevirtual 118, 3)), (52, (.ireturn, 1)), (53, (.aload_n 0, 1)), (54, (.iload_n 2, 1)), (55, (.putfield 179, 3)), (58, (.iload_n 2, 1)), (59, (.ireturn, 1))]
def ce_X10_step : List (Nat × (Nat × Option Nat × WP)) := [(165, (1, some 10, wl_X10_ways)), (133, (3, none, wl_X10_isIn)), (118, (2, some 10, wl_X10_no)), (182, (1, some 10, wl_X10_table))]
set_option maxRecDepth 100000 in
set_option maxHeartbeats 4000000 in
theorem ct_X10_step (l : Launch) : Con l wM yX10_step cX10_step 3 (some .int) 3 wl_X10_step := by
  refine sxm_ok l (ft := lkp ft_RX10) (c32 := lkp c32_RX10) (c64 := lkp c64_RX10) (ce := lkp ce_X10_step) (sf := lkp sf_RX10) (lab := lkp []) (T := tb_X10_step) (by decide +kernel) ft_RX10_ok c32_RX10_ok c64_RX10_ok (fun x q h => (show ∀ q ∈ ce_X10_step, ceOK l wM RX10 3 q.1 q.2.1 q.2.2.1 q.2.2.2 from List.forall_mem_cons.mpr ⟨Or.inr (Or.inr (Or.inr ⟨yX10_ways, cX10_ways, 1, (some .int), 0, ct_X10_ways l, by decide, by decide, mi_X10_ways.1, mi_X10_ways.2, ml_RX10_165, mv_X10_ways.1, mv_X10_ways.2, ⟨_, _, rfl⟩, by decide, by decide +kernel⟩)), List.forall_mem_cons.mpr ⟨Or.inr (Or.inr (Or.inr ⟨yX10_isIn, cX10_isIn, 6, (some .boolean), 0, ct_X10_isIn l, by decide, by decide, mi_X10_isIn.1, mi_X10_isIn.2, Or.inl ml_RX10_133, ms_X10_isIn, by decide +kernel⟩)), List.forall_mem_cons.mpr ⟨Or.inr (Or.inr (Or.inr ⟨yX10_no, cX10_no, 2, (some .int), 0, ct_X10_no l, by decide, by decide, mi_X10_no.1, mi_X10_no.2, ml_RX10_118, mv_X10_no.1, mv_X10_no.2, ⟨_, _, rfl⟩, by decide, by decide +kernel⟩)), List.forall_mem_cons.mpr ⟨Or.inr (Or.inr (Or.inr ⟨yX10_table, cX10_table, 5, none, 2, ct_X10_table l, by decide, by decide, mi_X10_table.1, mi_X10_table.2, ml_RX10_182, mv_X10_table.1, mv_X10_table.2, ⟨_, _, rfl⟩, by decide, by decide +kernel⟩)), fun _ h => absurd h List.not_mem_nil⟩⟩⟩⟩) (x, q) (lkp_mem h)) sf_RX10_ok (by decide +kernel) 400 (fun As σ Q h => ?_)
  replace h := p1r_e h
  obtain ⟨z0, q0, rfl, h⟩ := h
  replace h := onB_e h
  obtain ⟨e0, h⟩ := h
  have e0 := Nat.eq_of_beq_eq_true e0
  subst e0
  replace h := p1i_e h
  obtain ⟨x1, q1, rfl, h⟩ := h
  replace h := onB_e h
  obtain ⟨e9, h⟩ := h
  have e9 := List.isEmpty_iff.mp e9
  subst e9
  refine ⟨Nat.le_of_ble_eq_true rfl, fun P hP => ?_⟩
  exact h 
def wp_X10_at (x1 : Int32) (x2 : Int32) (x3 : Int32) (σ : Sg) (Q : Int32 → Sg → Prop) : Prop :=
  wp_X10_isState x1 σ (fun r1 => ((r1 = 0 → wp_X10_no (-3 : Int32) σ (fun r2 s3 => Q r2 s3)) ∧ (¬ r1 = 0 → wp_X10_ways σ (fun r4 => wp_X10_isIn (x2).toInt64 (0 : Int64) ((r4 - (1 : Int32))).toInt64 σ (fun r5 => ((r5 = 0 → wp_X10_no (-3 : Int32) σ (fun r6 s7 => Q r6 s7)) ∧ (¬ r5 = 0 → wp_X10_isIn (x3).toInt64 (0 : Int64) (2 : Int64) σ (fun r8 => ((r8 = 0 → wp_X10_no (-7 : Int32) σ (fun r9 s10 => Q r9 s10)) ∧ (¬ r8 = 0 → wp_X10_table σ (fun s11 => ((x3 = 0 → (vp_in (((16 : Int32) * x1) + x2) 4096 ∧ Q (gI s11 9 ((((16 : Int32) * x1) + x2)).toNatClampNeg) s11)) ∧ (¬ x3 = 0 → ((x3 = (1 : Int32) → (vp_in (((16 : Int32) * x1) + x2) 4096 ∧ (((gI s11 9 ((((16 : Int32) * x1) + x2)).toNatClampNeg) < 0 → Q (0 : Int32) s11) ∧ (¬ (gI s11 9 ((((16 : Int32) * x1) + x2)).toNatClampNeg) < 0 → Q (1 : Int32) s11)))) ∧ (¬ x3 = (1 : Int32) → (vp_in (((16 : Int32) * x1) + x2) 4096 ∧ (((gI s11 11 ((((16 : Int32) * x1) + x2)).toNatClampNeg) = 0 → Q (0 : Int32) s11) ∧ (¬ (gI s11 11 ((((16 : Int32) * x1) + x2)).toNatClampNeg) = 0 → Q (1 : Int32) s11))))))))))))))))))
def wl_X10_at : WP := fun As σ Q => p1r As (fun z0 r0 => onB (Nat.beq z0 0) (p1i r0 (fun x1 r1 => p1i r1 (fun x2 r2 => p1i r2 (fun x3 r3 => onB r3.isEmpty (wp_X10_at x1 x2 x3 σ (fun x τ => Q (some (.int x)) τ)))))))
def tb_X10_at : List (Nat × Instr × Nat) := [(0, (.aload_n 0, 1)), (1, (.iload_n 1, 1)), (2, (.invokevirtual 185, 3)), (5, (.ifCond .eq 24, 3)), (8, (.iload_n 2, 1)), (9, (.i2l, 1)), (10, (.lconst 0, 1)), (11, (.aload_n 0, 1)), (12, (.invokevirtual 165, 3)), (15, (.iconst 1, 1)), (16, (.isub, 1)), (17, (.i2l, 1)), (18, (.invokestatic 133, 3)), (21, (.ifCond .ne 31, 3)), (24, (.aload_n 0, 1)), (25, (.bipush (-3), 2)), (27, (.invokevirtual 118, 3)), (30, (.ireturn, 1)), (31, (.iload_n 3, 1)), (32, (.i2l, 1)), (33, (.lconst 0, 1)), (34, (.ldc2_w 143, 3)), (37, (.invokestatic 133, 3)), (40, (.ifCond .ne 50, 3)), (43, (.aload_n 0, 1)), (44, (.bipush (-7), 2)), (46, (.invokevirtual 118, 3)), (49, (.ireturn, 1)), (50, (.aload_n 0, 1)), (51, (.invokevirtual 182, 3)), (54, (.bipush 16, 2)), (56, (.iload_n 1, 1)), (57, (.imul, 1)), (58, (.iload_n 2, 1)), (59, (.iadd, 1)), (60, (.istore 4, 2)), (62, (.iload_n 3, 1)), (63, (.ifCond .ne 76, 3)), (66, (.aload_n 0, 1)), (67, (.getfield 39, 3)), (70, (.iload 4, 2)), (72, (.iaload, 1)), (73, (.goto 114, 3)), (76, (.iload_n 3, 1)), (77, (.iconst 1, 1)), (78, (.if_icmp .ne 99, 3)), (81, (.aload_n 0, 1)), (82, (.getfield 39, 3)), (85, (.iload 4, 2)), (87, (.iaload, 1)), (88, (.ifCond .lt 95, 3)), (91, (.iconst 1, 1)), (92, (.goto 114, 3)), (95, (.iconst 0, 1)), (96, (.goto 114, 3)), (99, (.aload_n 0, 1)), (100, (.getfield 45, 3)), (103, (.iload 4, 2)), (105, (.baload, 1)), (106, (.ifCond .eq 113, 3)), (109, (.iconst 1, 1)), (110, (.goto 114, 3)), (113, (.iconst 0, 1)), (114, (.ireturn, 1))]
def ce_X10_at : List (Nat × (Nat × Option Nat × WP)) := [(185, (2, some 10, wl_X10_isState)), (165, (1, some 10, wl_X10_ways)), (133, (3, none, wl_X10_isIn)), (118, (2, some 10, wl_X10_no)), (182, (1, some 10, wl_X10_table))]
set_option maxRecDepth 100000 in
set_option maxHeartbeats 4000000 in
theorem ct_X10_at (l : Launch) : Con l wM yX10_at cX10_at 5 (some .int) 3 wl_X10_at := by
  refine sxm_ok l (ft := lkp ft_RX10) (c32 := lkp c32_RX10) (c64 := lkp c64_RX10) (ce := lkp ce_X10_at) (sf := lkp sf_RX10) (lab := lkp []) (T := tb_X10_at) (by decide +kernel) ft_RX10_ok c32_RX10_ok c64_RX10_ok (fun x q h => (show ∀ q ∈ ce_X10_at, ceOK l wM RX10 3 q.1 q.2.1 q.2.2.1 q.2.2.2 from List.forall_mem_cons.mpr ⟨Or.inr (Or.inr (Or.inr ⟨yX10_isState, cX10_isState, 2, (some .boolean), 1, ct_X10_isState l, by decide, by decide, mi_X10_isState.1, mi_X10_isState.2, ml_RX10_185, mv_X10_isState.1, mv_X10_isState.2, ⟨_, _, rfl⟩, by decide, by decide +kernel⟩)), List.forall_mem_cons.mpr ⟨Or.inr (Or.inr (Or.inr ⟨yX10_ways, cX10_ways, 1, (some .int), 0, ct_X10_ways l, by decide, by decide, mi_X10_ways.1, mi_X10_ways.2, ml_RX10_165, mv_X10_ways.1, mv_X10_ways.2, ⟨_, _, rfl⟩, by decide, by decide +kernel⟩)), List.forall_mem_cons.mpr ⟨Or.inr (Or.inr (Or.inr ⟨yX10_isIn, cX10_isIn, 6, (some .boolean), 0, ct_X10_isIn l, by decide, by decide, mi_X10_isIn.1, mi_X10_isIn.2, Or.inl ml_RX10_133, ms_X10_isIn, by decide +kernel⟩)), List.forall_mem_cons.mpr ⟨Or.inr (Or.inr (Or.inr ⟨yX10_no, cX10_no, 2, (some .int), 0, ct_X10_no l, by decide, by decide, mi_X10_no.1, mi_X10_no.2, ml_RX10_118, mv_X10_no.1, mv_X10_no.2, ⟨_, _, rfl⟩, by decide, by decide +kernel⟩)), List.forall_mem_cons.mpr ⟨Or.inr (Or.inr (Or.inr ⟨yX10_table, cX10_table, 5, none, 2, ct_X10_table l, by decide, by decide, mi_X10_table.1, mi_X10_table.2, ml_RX10_182, mv_X10_table.1, mv_X10_table.2, ⟨_, _, rfl⟩, by decide, by decide +kernel⟩)), fun _ h => absurd h List.not_mem_nil⟩⟩⟩⟩⟩) (x, q) (lkp_mem h)) sf_RX10_ok (by decide +kernel) 400 (fun As σ Q h => ?_)
  replace h := p1r_e h
  obtain ⟨z0, q0, rfl, h⟩ := h
  replace h := onB_e h
  obtain ⟨e0, h⟩ := h
  have e0 := Nat.eq_of_beq_eq_true e0
  subst e0
  replace h := p1i_e h
  obtain ⟨x1, q1, rfl, h⟩ := h
  replace h := p1i_e h
  obtain ⟨x2, q2, rfl, h⟩ := h
  replace h := p1i_e h
  obtain ⟨x3, q3, rfl, h⟩ := h
  replace h := onB_e h
  obtain ⟨e9, h⟩ := h
  have e9 := List.isEmpty_iff.mp e9
  subst e9
  refine ⟨Nat.le_of_ble_eq_true rfl, fun P hP => ?_⟩
  exact h 
def wp_X10_widened (x1 : Int32) (x2 : Int32) (x3 : Int32) (σ : Sg) (Q : Int32 → Prop) : Prop :=
  ∀ L6 : Int32 → Int32 → Prop,
  (∀ (x4 : Int32) (x5 : Int32), ((x5 < (gI σ 0 6) → (((x4 &&& (((1 : Int32) <<< (x5 &&& 31)) ^^^ (-1 : Int32))) = x4 → L6 x4 (x5 + (1 : Int32))) ∧ (¬ (x4 &&& (((1 : Int32) <<< (x5 &&& 31)) ^^^ (-1 : Int32))) = x4 → wp_X10_isInCube (gI σ 0 8) (x4 &&& (((1 : Int32) <<< (x5 &&& 31)) ^^^ (-1 : Int32))) (x3 &&& (x4 &&& (((1 : Int32) <<< (x5 &&& 31)) ^^^ (-1 : Int32)))) σ (fun r1 => ((r1 = 0 → wp_X10_asked (x1 - (1 : Int32)) (x4 &&& (((1 : Int32) <<< (x5 &&& 31)) ^^^ (-1 : Int32))) (x3 &&& (x4 &&& (((1 : Int32) <<< (x5 &&& 31)) ^^^ (-1 : Int32)))) σ (fun r2 => ((r2 < 0 → L6 (x4 &&& (((1 : Int32) <<< (x5 &&& 31)) ^^^ (-1 : Int32))) (x5 + (1 : Int32))) ∧ (¬ r2 < 0 → L6 x4 (x5 + (1 : Int32)))))) ∧ (¬ r1 = 0 → L6 x4 (x5 + (1 : Int32)))))))) ∧ (¬ x5 < (gI σ 0 6) → Q x4)) → L6 x4 x5) →
  L6 x2 (0 : Int32)
def wl_X10_widened : WP := fun As σ Q => p1r As (fun z0 r0 => onB (Nat.beq z0 0) (p1i r0 (fun x1 r1 => p1i r1 (fun x2 r2 => p1i r2 (fun x3 r3 => onB r3.isEmpty (wp_X10_widened x1 x2 x3 σ (fun x => Q (some (.int x)) σ)))))))
def tb_X10_widened : List (Nat × Instr × Nat) := [(0, (.iload_n 2, 1)), (1, (.istore 4, 2)), (3, (.iconst 0, 1)), (4, (.istore 5, 2)), (6, (.iload 5, 2)), (8, (.aload_n 0, 1)), (9, (.getfield 106, 3)), (12, (.if_icmp .ge 75, 3)), (15, (.iload 4, 2)), (17, (.iconst 1, 1)), (18, (.iload 5, 2)), (20, (.ishl, 1)), (21, (.iconst (-1), 1)), (22, (.ixor, 1)), (23, (.iand, 1)), (24, (.istore 6, 2)), (26, (.iload 6, 2)), (28, (.iload 4, 2)), (30, (.if_icmp .eq 69, 3)), (33, (.aload_n 0, 1)), (34, (.getfield 122, 3)), (37, (.iload 6, 2)), (39, (.iload_n 3, 1)), (40, (.iload 6, 2)), (42, (.iand, 1)), (43, (.invokestatic 200, 3)), (46, (.ifCond .ne 69, 3)), (49, (.aload_n 0, 1)), (50, (.iload_n 1, 1)), (51, (.iconst 1, 1)), (52, (.isub, 1)), (53, (.iload 6, 2)), (55, (.iload_n 3, 1)), (56, (.iload 6, 2)), (58, (.iand, 1)), (59, (.invokevirtual 211, 3)), (62, (.ifCond .ge 69, 3)), (65, (.iload 6, 2)), (67, (.istore 4, 2)), (69, (.iinc 5 1, 3)), (72, (.goto 6, 3)), (75, (.iload 4, 2)), (77, (.ireturn, 1))]
def ce_X10_widened : List (Nat × (Nat × Option Nat × WP)) := [(200, (3, none, wl_X10_isInCube)), (211, (4, some 10, wl_X10_asked))]
set_option maxRecDepth 100000 in
set_option maxHeartbeats 4000000 in
theorem ct_X10_widened (l : Launch) : Con l wM yX10_widened cX10_widened 7 (some .int) 3 wl_X10_widened := by
  refine sxm_ok l (ft := lkp ft_RX10) (c32 := lkp c32_RX10) (c64 := lkp c64_RX10) (ce := lkp ce_X10_widened) (sf := lkp sf_RX10) (lab := lkp [(6, [0, 1, 3, 4, 5])]) (T := tb_X10_widened) (by decide +kernel) ft_RX10_ok c32_RX10_ok c64_RX10_ok (fun x q h => (show ∀ q ∈ ce_X10_widened, ceOK l wM RX10 3 q.1 q.2.1 q.2.2.1 q.2.2.2 from List.forall_mem_cons.mpr ⟨Or.inr (Or.inr (Or.inr ⟨yX10_isInCube, cX10_isInCube, 3, (some .boolean), 0, ct_X10_isInCube l, by decide, by decide, mi_X10_isInCube.1, mi_X10_isInCube.2, Or.inl ml_RX10_200, ms_X10_isInCube, by decide +kernel⟩)), List.forall_mem_cons.mpr ⟨Or.inr (Or.inr (Or.inr ⟨yX10_asked, cX10_asked, 5, (some .int), 2, ct_X10_asked l, by decide, by decide, mi_X10_asked.1, mi_X10_asked.2, ml_RX10_211, mv_X10_asked.1, mv_X10_asked.2, ⟨_, _, rfl⟩, by decide, by decide +kernel⟩)), fun _ h => absurd h List.not_mem_nil⟩⟩) (x, q) (lkp_mem h)) sf_RX10_ok (by decide +kernel) 400 (fun As σ Q h => ?_)
  replace h := p1r_e h
  obtain ⟨z0, q0, rfl, h⟩ := h
  replace h := onB_e h
  obtain ⟨e0, h⟩ := h
  have e0 := Nat.eq_of_beq_eq_true e0
  subst e0
  replace h := p1i_e h
  obtain ⟨x1, q1, rfl, h⟩ := h
  replace h := p1i_e h
  obtain ⟨x2, q2, rfl, h⟩ := h
  replace h := p1i_e h
  obtain ⟨x3, q3, rfl, h⟩ := h
  replace h := onB_e h
  obtain ⟨e9, h⟩ := h
  have e9 := List.isEmpty_iff.mp e9
  subst e9
  refine ⟨Nat.le_of_ble_eq_true rfl, fun P hP => ?_⟩
  exact h (fun x4 x5 => P 6 [.ref 0, .int x1, .int x3, .int x4, .int x5] σ) (fun x4 x5 hb => hP 6 [.ref 0, .int x1, .int x3, .int x4, .int x5] σ hb)
def wp_X10_push (x1 : Int32) (σ : Sg) (Q : Sg → Prop) : Prop :=
  ∀ L2 : Int32 → Sg → Prop,
  (∀ (x2 : Int32) (τ : Sg), (vp_in x1 25 ∧ ((x2 < (gI τ 14 (x1).toNatClampNeg) → (((gI τ 0 24) = 0 → (vp_in (((200 : Int32) * x1) + x2) 5000 ∧ (vp_in (((200 : Int32) * x1) + x2) 5000 ∧ wp_X10_has (x1 + (1 : Int32)) (gI τ 12 ((((200 : Int32) * x1) + x2)).toNatClampNeg) (gI τ 13 ((((200 : Int32) * x1) + x2)).toNatClampNeg) τ (fun r1 => ((r1 = 0 → (vp_in (((200 : Int32) * x1) + x2) 5000 ∧ (vp_in (((200 : Int32) * x1) + x2) 5000 ∧ wp_X10_isShut x1 (gI τ 12 ((((200 : Int32) * x1) + x2)).toNatClampNeg) (gI τ 13 ((((200 : Int32) * x1) + x2)).toNatClampNeg) τ (fun r2 => ((r2 = 0 → L2 (x2 + (1 : Int32)) τ) ∧ (¬ r2 = 0 → (vp_in (x1 + (1 : Int32)) 25 ∧ (((gI τ 14 ((x1 + (1 : Int32))).toNatClampNeg) = (200 : Int32) → L2 (x2 + (1 : Int32)) (sI τ 0 24 (3 : Int32))) ∧ (¬ (gI τ 14 ((x1 + (1 : Int32))).toNatClampNeg) = (200 : Int32) → (vp_in (((200 : Int32) * x1) + x2) 5000 ∧ (vp_in (((200 : Int32) * x1) + x2) 5000 ∧ wp_X10_keep (x1 + (1 : Int32)) (gI τ 12 ((((200 : Int32) * x1) + x2)).toNatClampNeg) (gI τ 13 ((((200 : Int32) * x1) + x2)).toNatClampNeg) τ (fun s3 => L2 (x2 + (1 : Int32)) s3)))))))))))) ∧ (¬ r1 = 0 → L2 (x2 + (1 : Int32)) τ)))))) ∧ (¬ (gI τ 0 24) = 0 → Q τ))) ∧ (¬ x2 < (gI τ 14 (x1).toNatClampNeg) → Q τ))) → L2 x2 τ) →
  L2 (0 : Int32) σ
def wl_X10_push : WP := fun As σ Q => p1r As (fun z0 r0 => onB (Nat.beq z0 0) (p1i r0 (fun x1 r1 => onB r1.isEmpty (wp_X10_push x1 σ (fun τ => Q none τ)))))
def tb_X10_push : List (Nat × Instr × Nat) := [(0, (.iconst 0, 1)), (1, (.istore_n 2, 1)), (2, (.iload_n 2, 1)), (3, (.aload_n 0, 1)), (4, (.getfield 54, 3)), (7, (.iload_n 1, 1)), (8, (.iaload, 1)), (9, (.if_icmp .ge 119, 3)), (12, (.aload_n 0, 1)), (13, (.getfield 191, 3)), (16, (.ifCond .ne 119, 3)), (19, (.sipush 200, 3)), (22, (.iload_n 1, 1)), (23, (.imul, 1)), (24, (.iload_n 2, 1)), (25, (.iadd, 1)), (26, (.istore_n 3, 1)), (27, (.aload_n 0, 1)), (28, (.iload_n 1, 1)), (29, (.iconst 1, 1)), (30, (.iadd, 1)), (31, (.aload_n 0, 1)), (32, (.getfield 48, 3)), (35, (.iload_n 3, 1)), (36, (.iaload, 1)), (37, (.aload_n 0, 1)), (38, (.getfield 51, 3)), (41, (.iload_n 3, 1)), (42, (.iaload, 1)), (43, (.invokevirtual 234, 3)), (46, (.ifCond .ne 113, 3)), (49, (.aload_n 0, 1)), (50, (.iload_n 1, 1)), (51, (.aload_n 0, 1)), (52, (.getfield 48, 3)), (55, (.iload_n 3, 1)), (56, (.iaload, 1)), (57, (.aload_n 0, 1)), (58, (.getfield 51, 3)), (61, (.iload_n 3, 1)), (62, (.iaload, 1)), (63, (.invokevirtual 237, 3)), (66, (.ifCond .ne 72, 3)), (69, (.goto 113, 3)), (72, (.aload_n 0, 1)), (73, (.getfield 54, 3)), (76, (.iload_n 1, 1)), (77, (.iconst 1, 1)), (78, (.iadd, 1)), (79, (.iaload, 1)), (80, (.sipush 200, 3)), (83, (.if_icmp .ne 94, 3)), (86, (.aload_n 0, 1)), (87, (.iconst 3, 1)), (88, (.putfield 191, 3)), (91, (.goto 113, 3)), (94, (.aload_n 0, 1)), (95, (.iload_n 1, 1)), (96, (.iconst 1, 1)), (97, (.iadd, 1)), (98, (.aload_n 0, 1)), (99, (.getfield 48, 3)), (102, (.iload_n 3, 1)), (103, (.iaload, 1)), (104, (.aload_n 0, 1)), (105, (.getfield 51, 3)), (108, (.iload_n 3, 1)), (109, (.iaload, 1)), (110, (.invokevirtual 230, 3)), (113, (.iinc 2 1, 3)), (116, (.goto 2, 3)), (119, (.return_, 1))]
def ce_X10_push : List (Nat × (Nat × Option Nat × WP)) := [(234, (4, some 10, wl_X10_has)), (237, (4, some 10, wl_X10_isShut)), (230, (4, some 10, wl_X10_keep))]
set_option maxRecDepth 100000 in
set_option maxHeartbeats 4000000 in
theorem ct_X10_push (l : Launch) : Con l wM yX10_push cX10_push 4 none 3 wl_X10_push := by
  refine sxm_ok l (ft := lkp ft_RX10) (c32 := lkp c32_RX10) (c64 := lkp c64_RX10) (ce := lkp ce_X10_push) (sf := lkp sf_RX10) (lab := lkp [(2, [0, 1, 2])]) (T := tb_X10_push) (by decide +kernel) ft_RX10_ok c32_RX10_ok c64_RX10_ok (fun x q h => (show ∀ q ∈ ce_X10_push, ceOK l wM RX10 3 q.1 q.2.1 q.2.2.1 q.2.2.2 from List.forall_mem_cons.mpr ⟨Or.inr (Or.inr (Or.inr ⟨yX10_has, cX10_has, 6, (some .boolean), 0, ct_X10_has l, by decide, by decide, mi_X10_has.1, mi_X10_has.2, ml_RX10_234, mv_X10_has.1, mv_X10_has.2, ⟨_, _, rfl⟩, by decide, by decide +kernel⟩)), List.forall_mem_cons.mpr ⟨Or.inr (Or.inr (Or.inr ⟨yX10_isShut, cX10_isShut, 5, (some .boolean), 2, ct_X10_isShut l, by decide, by decide, mi_X10_isShut.1, mi_X10_isShut.2, ml_RX10_237, mv_X10_isShut.1, mv_X10_isShut.2, ⟨_, _, rfl⟩, by decide, by decide +kernel⟩)), List.forall_mem_cons.mpr ⟨Or.inr (Or.inr (Or.inr ⟨yX10_keep, cX10_keep, 5, none, 0, ct_X10_keep l, by decide, by decide, mi_X10_keep.1, mi_X10_keep.2, ml_RX10_230, mv_X10_keep.1, mv_X10_keep.2, ⟨_, _, rfl⟩, by decide, by decide +kernel⟩)), fun _ h => absurd h List.not_mem_nil⟩⟩⟩) (x, q) (lkp_mem h)) sf_RX10_ok (by decide +kernel) 400 (fun As σ Q h => ?_)
  replace h := p1r_e h
  obtain ⟨z0, q0, rfl, h⟩ := h
  replace h := onB_e h
  obtain ⟨e0, h⟩ := h
  have e0 := Nat.eq_of_beq_eq_true e0
  subst e0
  replace h := p1i_e h
  obtain ⟨x1, q1, rfl, h⟩ := h
  replace h := onB_e h
  obtain ⟨e9, h⟩ := h
  have e9 := List.isEmpty_iff.mp e9
  subst e9
  refine ⟨Nat.le_of_ble_eq_true rfl, fun P hP => ?_⟩
  exact h (fun x2 τ => P 2 [.ref 0, .int x1, .int x2] τ) (fun x2 τ hb => hP 2 [.ref 0, .int x1, .int x2] τ hb)
def wp_X10_wayChoice (x1 : Int32) (σ : Sg) (Q : Int32 → Sg → Prop) : Prop :=
  ∀ L43 : Int32 → Sg → Prop,
  (∀ (x2 : Int32) (τ : Sg), wp_X10_ways τ (fun r1 => ((x2 < r1 → (vp_in x1 40 ∧ ((x1 = ((gI τ 0 33) - (1 : Int32)) → (vp_in (((16 : Int32) * (gI τ 19 (x1).toNatClampNeg)) + x2) 4096 ∧ (((gI τ 11 ((((16 : Int32) * (gI τ 19 (x1).toNatClampNeg)) + x2)).toNatClampNeg) = 0 → L43 (x2 + (1 : Int32)) τ) ∧ (¬ (gI τ 11 ((((16 : Int32) * (gI τ 19 (x1).toNatClampNeg)) + x2)).toNatClampNeg) = 0 → Q x2 τ)))) ∧ (¬ x1 = ((gI τ 0 33) - (1 : Int32)) → (vp_in (((16 : Int32) * (gI τ 19 (x1).toNatClampNeg)) + x2) 4096 ∧ (vp_in (x1 + (1 : Int32)) 40 ∧ (((gI τ 9 ((((16 : Int32) * (gI τ 19 (x1).toNatClampNeg)) + x2)).toNatClampNeg) = (gI τ 19 ((x1 + (1 : Int32))).toNatClampNeg) → Q x2 τ) ∧ (¬ (gI τ 9 ((((16 : Int32) * (gI τ 19 (x1).toNatClampNeg)) + x2)).toNatClampNeg) = (gI τ 19 ((x1 + (1 : Int32))).toNatClampNeg) → L43 (x2 + (1 : Int32)) τ)))))))) ∧ (¬ x2 < r1 → Q (-1 : Int32) τ))) → L43 x2 τ) →
  (((gI σ 0 33) = 0 → wp_X10_no (-2 : Int32) σ (fun r2 s3 => Q r2 s3)) ∧ (¬ (gI σ 0 33) = 0 → wp_X10_isIn (x1).toInt64 (0 : Int64) (((gI σ 0 33) - (1 : Int32))).toInt64 σ (fun r4 => ((r4 = 0 → wp_X10_no (-3 : Int32) σ (fun r5 s6 => Q r5 s6)) ∧ (¬ r4 = 0 → wp_X10_table σ (fun s7 => L43 (0 : Int32) s7))))))
def wl_X10_wayChoice : WP := fun As σ Q => p1r As (fun z0 r0 => onB (Nat.beq z0 0) (p1i r0 (fun x1 r1 => onB r1.isEmpty (wp_X10_wayChoice x1 σ (fun x τ => Q (some (.int x)) τ)))))
def tb_X10_wayChoice : List (Nat × Instr × Nat) := [(0, (.aload_n 0, 1)), (1, (.getfield 197, 3)), (4, (.ifCond .ne 14, 3)), (7, (.aload_n 0, 1)), (8, (.bipush (-2), 2)), (10, (.invokevirtual 118, 3)), (13, (.ireturn, 1)), (14, (.iload_n 1, 1)), (15, (.i2l, 1)), (16, (.lconst 0, 1)), (17, (.aload_n 0, 1)), (18, (.getfield 197, 3)), (21, (.iconst 1, 1)), (22, (.isub, 1)), (23, (.i2l, 1)), (24, (.invokestatic 133, 3)), (27, (.ifCond .ne 37, 3)), (30, (.aload_n 0, 1)), (31, (.bipush (-3), 2)), (33, (.invokevirtual 118, 3)), (36, (.ireturn, 1)), (37, (.aload_n 0, 1)), (38, (.invokevirtual 182, 3)), (41, (.iconst 0, 1)), (42, (.istore_n 2, 1)), (43, (.iload_n 2, 1)), (44, (.aload_n 0, 1)), (45, (.invokevirtual 165, 3)), (48, (.if_icmp .ge 110, 3)), (51, (.bipush 16, 2)), (53, (.aload_n 0, 1)), (54, (.getfield 72, 3)), (57, (.iload_n 1, 1)), (58, (.iaload, 1)), (59, (.imul, 1)), (60, (.iload_n 2, 1)), (61, (.iadd, 1)), (62, (.istore_n 3, 1)), (63, (.iload_n 1, 1)), (64, (.aload_n 0, 1)), (65, (.getfield 197, 3)), (68, (.iconst 1, 1)), (69, (.isub, 1)), (70, (.if_icmp .ne 85, 3)), (73, (.aload_n 0, 1)), (74, (.getfield 45, 3)), (77, (.iload_n 3, 1)), (78, (.baload, 1)), (79, (.ifCond .eq 104, 3)), (82, (.goto 102, 3)), (85, (.aload_n 0, 1)), (86, (.getfield 39, 3)), (89, (.iload_n 3, 1)), (90, (.iaload, 1)), (91, (.aload_n 0, 1)), (92, (.getfield 72, 3)), (95, (.iload_n 1, 1)), (96, (.iconst 1, 1)), (97, (.iadd, 1)), (98, (.iaload, 1)), (99, (.if_icmp .ne 104, 3)), (102, (.iload_n 2, 1)), (103, (.ireturn, 1)), (104, (.iinc 2 1, 3)), (107, (.goto 43, 3)), (110, (.iconst (-1), 1)), (111, (.ireturn, 1))]
def ce_X10_wayChoice : List (Nat × (Nat × Option Nat × WP)) := [(118, (2, some 10, wl_X10_no)), (133, (3, none, wl_X10_isIn)), (182, (1, some 10, wl_X10_table)), (165, (1, some 10, wl_X10_ways))]
set_option maxRecDepth 100000 in
set_option maxHeartbeats 4000000 in
theorem ct_X10_wayChoice (l : Launch) : Con l wM yX10_wayChoice cX10_wayChoice 4 (some .int) 3 wl_X10_wayChoice := by
  refine sxm_ok l (ft := lkp ft_RX10) (c32 := lkp c32_RX10) (c64 := lkp c64_RX10) (ce := lkp ce_X10_wayChoice) (sf := lkp sf_RX10) (lab := lkp [(43, [0, 1, 2])]) (T := tb_X10_wayChoice) (by decide +kernel) ft_RX10_ok c32_RX10_ok c64_RX10_ok (fun x q h => (show ∀ q ∈ ce_X10_wayChoice, ceOK l wM RX10 3 q.1 q.2.1 q.2.2.1 q.2.2.2 from List.forall_mem_cons.mpr ⟨Or.inr (Or.inr (Or.inr ⟨yX10_no, cX10_no, 2, (some .int), 0, ct_X10_no l, by decide, by decide, mi_X10_no.1, mi_X10_no.2, ml_RX10_118, mv_X10_no.1, mv_X10_no.2, ⟨_, _, rfl⟩, by decide, by decide +kernel⟩)), List.forall_mem_cons.mpr ⟨Or.inr (Or.inr (Or.inr ⟨yX10_isIn, cX10_isIn, 6, (some .boolean), 0, ct_X10_isIn l, by decide, by decide, mi_X10_isIn.1, mi_X10_isIn.2, Or.inl ml_RX10_133, ms_X10_isIn, by decide +kernel⟩)), List.forall_mem_cons.mpr ⟨Or.inr (Or.inr (Or.inr ⟨yX10_table, cX10_table, 5, none, 2, ct_X10_table l, by decide, by decide, mi_X10_table.1, mi_X10_table.2, ml_RX10_182, mv_X10_table.1, mv_X10_table.2, ⟨_, _, rfl⟩, by decide, by decide +kernel⟩)), List.forall_mem_cons.mpr ⟨Or.inr (Or.inr (Or.inr ⟨yX10_ways, cX10_ways, 1, (some .int), 0, ct_X10_ways l, by decide, by decide, mi_X10_ways.1, mi_X10_ways.2, ml_RX10_165, mv_X10_ways.1, mv_X10_ways.2, ⟨_, _, rfl⟩, by decide, by decide +kernel⟩)), fun _ h => absurd h List.not_mem_nil⟩⟩⟩⟩) (x, q) (lkp_mem h)) sf_RX10_ok (by decide +kernel) 400 (fun As σ Q h => ?_)
  replace h := p1r_e h
  obtain ⟨z0, q0, rfl, h⟩ := h
  replace h := onB_e h
  obtain ⟨e0, h⟩ := h
  have e0 := Nat.eq_of_beq_eq_true e0
  subst e0
  replace h := p1i_e h
  obtain ⟨x1, q1, rfl, h⟩ := h
  replace h := onB_e h
  obtain ⟨e9, h⟩ := h
  have e9 := List.isEmpty_iff.mp e9
  subst e9
  refine ⟨Nat.le_of_ble_eq_true rfl, fun P hP => ?_⟩
  exact h (fun x2 τ => P 43 [.ref 0, .int x1, .int x2] τ) (fun x2 τ hb => hP 43 [.ref 0, .int x1, .int x2] τ hb)
def wp_X10_ask (x1 : Int32) (x2 : Int32) (x3 : Int32) (σ : Sg) (Q : Int32 → Sg → Prop) : Prop :=
  wp_X10_isIn (x1).toInt64 (0 : Int64) (24 : Int64) σ (fun r1 => ((r1 = 0 → wp_X10_no (-3 : Int32) σ (fun r2 s3 => Q r2 s3)) ∧ (¬ r1 = 0 → wp_X10_isCube x2 x3 σ (fun r4 => ((r4 = 0 → wp_X10_no (-7 : Int32) σ (fun r5 s6 => Q r5 s6)) ∧ (¬ r4 = 0 → wp_X10_table σ (fun s7 => wp_X10_asked x1 x2 x3 s7 (fun r8 => Q r8 s7))))))))
def wl_X10_ask : WP := fun As σ Q => p1r As (fun z0 r0 => onB (Nat.beq z0 0) (p1i r0 (fun x1 r1 => p1i r1 (fun x2 r2 => p1i r2 (fun x3 r3 => onB r3.isEmpty (wp_X10_ask x1 x2 x3 σ (fun x τ => Q (some (.int x)) τ)))))))
def tb_X10_ask : List (Nat × Instr × Nat) := [(0, (.iload_n 1, 1)), (1, (.i2l, 1)), (2, (.lconst 0, 1)), (3, (.ldc2_w 264, 3)), (6, (.invokestatic 133, 3)), (9, (.ifCond .ne 19, 3)), (12, (.aload_n 0, 1)), (13, (.bipush (-3), 2)), (15, (.invokevirtual 118, 3)), (18, (.ireturn, 1)), (19, (.aload_n 0, 1)), (20, (.iload_n 2, 1)), (21, (.iload_n 3, 1)), (22, (.invokevirtual 266, 3)), (25, (.ifCond .ne 35, 3)), (28, (.aload_n 0, 1)), (29, (.bipush (-7), 2)), (31, (.invokevirtual 118, 3)), (34, (.ireturn, 1)), (35, (.aload_n 0, 1)), (36, (.invokevirtual 182, 3)), (39, (.aload_n 0, 1)), (40, (.iload_n 1, 1)), (41, (.iload_n 2, 1)), (42, (.iload_n 3, 1)), (43, (.invokevirtual 211, 3)), (46, (.ireturn, 1))]
def ce_X10_ask : List (Nat × (Nat × Option Nat × WP)) := [(133, (3, none, wl_X10_isIn)), (118, (2, some 10, wl_X10_no)), (266, (3, some 10, wl_X10_isCube)), (182, (1, some 10, wl_X10_table)), (211, (4, some 10, wl_X10_asked))]
set_option maxRecDepth 100000 in
set_option maxHeartbeats 4000000 in
theorem ct_X10_ask (l : Launch) : Con l wM yX10_ask cX10_ask 4 (some .int) 3 wl_X10_ask := by
  refine sxm_ok l (ft := lkp ft_RX10) (c32 := lkp c32_RX10) (c64 := lkp c64_RX10) (ce := lkp ce_X10_ask) (sf := lkp sf_RX10) (lab := lkp []) (T := tb_X10_ask) (by decide +kernel) ft_RX10_ok c32_RX10_ok c64_RX10_ok (fun x q h => (show ∀ q ∈ ce_X10_ask, ceOK l wM RX10 3 q.1 q.2.1 q.2.2.1 q.2.2.2 from List.forall_mem_cons.mpr ⟨Or.inr (Or.inr (Or.inr ⟨yX10_isIn, cX10_isIn, 6, (some .boolean), 0, ct_X10_isIn l, by decide, by decide, mi_X10_isIn.1, mi_X10_isIn.2, Or.inl ml_RX10_133, ms_X10_isIn, by decide +kernel⟩)), List.forall_mem_cons.mpr ⟨Or.inr (Or.inr (Or.inr ⟨yX10_no, cX10_no, 2, (some .int), 0, ct_X10_no l, by decide, by decide, mi_X10_no.1, mi_X10_no.2, ml_RX10_118, mv_X10_no.1, mv_X10_no.2, ⟨_, _, rfl⟩, by decide, by decide +kernel⟩)), List.forall_mem_cons.mpr ⟨Or.inr (Or.inr (Or.inr ⟨yX10_isCube, cX10_isCube, 3, (some .boolean), 1, ct_X10_isCube l, by decide, by decide, mi_X10_isCube.1, mi_X10_isCube.2, ml_RX10_266, mv_X10_isCube.1, mv_X10_isCube.2, ⟨_, _, rfl⟩, by decide, by decide +kernel⟩)), List.forall_mem_cons.mpr ⟨Or.inr (Or.inr (Or.inr ⟨yX10_table, cX10_table, 5, none, 2, ct_X10_table l, by decide, by decide, mi_X10_table.1, mi_X10_table.2, ml_RX10_182, mv_X10_table.1, mv_X10_table.2, ⟨_, _, rfl⟩, by decide, by decide +kernel⟩)), List.forall_mem_cons.mpr ⟨Or.inr (Or.inr (Or.inr ⟨yX10_asked, cX10_asked, 5, (some .int), 2, ct_X10_asked l, by decide, by decide, mi_X10_asked.1, mi_X10_asked.2, ml_RX10_211, mv_X10_asked.1, mv_X10_asked.2, ⟨_, _, rfl⟩, by decide, by decide +kernel⟩)), fun _ h => absurd h List.not_mem_nil⟩⟩⟩⟩⟩) (x, q) (lkp_mem h)) sf_RX10_ok (by decide +kernel) 400 (fun As σ Q h => ?_)
  replace h := p1r_e h
  obtain ⟨z0, q0, rfl, h⟩ := h
  replace h := onB_e h
  obtain ⟨e0, h⟩ := h
  have e0 := Nat.eq_of_beq_eq_true e0
  subst e0
  replace h := p1i_e h
  obtain ⟨x1, q1, rfl, h⟩ := h
  replace h := p1i_e h
  obtain ⟨x2, q2, rfl, h⟩ := h
  replace h := p1i_e h
  obtain ⟨x3, q3, rfl, h⟩ := h
  replace h := onB_e h
  obtain ⟨e9, h⟩ := h
  have e9 := List.isEmpty_iff.mp e9
  subst e9
  refine ⟨Nat.le_of_ble_eq_true rfl, fun P hP => ?_⟩
  exact h 
def wp_X10_findFar (x1 : Int32) (σ : Sg) (Q : Sg → Prop) : Prop :=
  ∀ L6 : Int32 → Sg → Prop,
  ∀ L36 : Int32 → Sg → Prop,
  ∀ L46 : Int32 → Int32 → Sg → Prop,
  ∀ L57 : Int32 → Int32 → Int32 → Sg → Prop,
  (∀ (x2 : Int32) (τ : Sg), wp_X10_states τ (fun r1 => ((x2 < r1 → (vp_in x2 256 ∧ L6 (x2 + (1 : Int32)) (sI τ 20 (x2).toNatClampNeg (-1 : Int32)))) ∧ (¬ x2 < r1 → (vp_in x1 256 ∧ L36 (0 : Int32) (sI τ 20 (x1).toNatClampNeg (0 : Int32)))))) → L6 x2 τ) →
  (∀ (x2 : Int32) (τ : Sg), wp_X10_states τ (fun r2 => ((x2 < r2 → L46 x2 (0 : Int32) τ) ∧ (¬ x2 < r2 → Q τ))) → L36 x2 τ) →
  (∀ (x2 : Int32) (x3 : Int32) (τ : Sg), wp_X10_states τ (fun r3 => ((x3 < r3 → L57 x2 x3 (0 : Int32) τ) ∧ (¬ x3 < r3 → L36 (x2 + (1 : Int32)) τ))) → L46 x2 x3 τ) →
  (∀ (x2 : Int32) (x3 : Int32) (x4 : Int32) (τ : Sg), wp_X10_ways τ (fun r4 => ((x4 < r4 → (vp_in x3 256 ∧ (((gI τ 20 (x3).toNatClampNeg) = x2 → (vp_in (((16 : Int32) * x3) + x4) 4096 ∧ (((gI τ 9 ((((16 : Int32) * x3) + x4)).toNatClampNeg) < 0 → L57 x2 x3 (x4 + (1 : Int32)) τ) ∧ (¬ (gI τ 9 ((((16 : Int32) * x3) + x4)).toNatClampNeg) < 0 → (vp_in (gI τ 9 ((((16 : Int32) * x3) + x4)).toNatClampNeg) 256 ∧ (((gI τ 20 ((gI τ 9 ((((16 : Int32) * x3) + x4)).toNatClampNeg)).toNatClampNeg) < 0 → (vp_in (gI τ 9 ((((16 : Int32) * x3) + x4)).toNatClampNeg) 256 ∧ L57 x2 x3 (x4 + (1 : Int32)) (sI τ 20 ((gI τ 9 ((((16 : Int32) * x3) + x4)).toNatClampNeg)).toNatClampNeg (x2 + (1 : Int32))))) ∧ (¬ (gI τ 20 ((gI τ 9 ((((16 : Int32) * x3) + x4)).toNatClampNeg)).toNatClampNeg) < 0 → L57 x2 x3 (x4 + (1 : Int32)) τ))))))) ∧ (¬ (gI τ 20 (x3).toNatClampNeg) = x2 → L46 x2 (x3 + (1 : Int32)) τ)))) ∧ (¬ x4 < r4 → L46 x2 (x3 + (1 : Int32)) τ))) → L57 x2 x3 x4 τ) →
  wp_X10_table σ (fun s5 => L6 (0 : Int32) s5)
def wl_X10_findFar : WP := fun As σ Q => p1r As (fun z0 r0 => onB (Nat.beq z0 0) (p1i r0 (fun x1 r1 => onB r1.isEmpty (wp_X10_findFar x1 σ (fun τ => Q none τ)))))
def tb_X10_findFar : List (Nat × Instr × Nat) := [(0, (.aload_n 0, 1)), (1, (.invokevirtual 182, 3)), (4, (.iconst 0, 1)), (5, (.istore_n 2, 1)), (6, (.iload_n 2, 1)), (7, (.aload_n 0, 1)), (8, (.invokevirtual 161, 3)), (11, (.if_icmp .ge 27, 3)), (14, (.aload_n 0, 1)), (15, (.getfield 75, 3)), (18, (.iload_n 2, 1)), (19, (.iconst (-1), 1)), (20, (.iastore, 1)), (21, (.iinc 2 1, 3)), (24, (.goto 6, 3)), (27, (.aload_n 0, 1)), (28, (.getfield 75, 3)), (31, (.iload_n 1, 1)), (32, (.iconst 0, 1)), (33, (.iastore, 1)), (34, (.iconst 0, 1)), (35, (.istore_n 2, 1)), (36, (.iload_n 2, 1)), (37, (.aload_n 0, 1)), (38, (.invokevirtual 161, 3)), (41, (.if_icmp .ge 133, 3)), (44, (.iconst 0, 1)), (45, (.istore_n 3, 1)), (46, (.iload_n 3, 1)), (47, (.aload_n 0, 1)), (48, (.invokevirtual 161, 3)), (51, (.if_icmp .ge 127, 3)), (54, (.iconst 0, 1)), (55, (.istore 4, 2)), (57, (.iload 4, 2)), (59, (.aload_n 0, 1)), (60, (.invokevirtual 165, 3)), (63, (.if_icmp .ge 121, 3)), (66, (.aload_n 0, 1)), (67, (.getfield 75, 3)), (70, (.iload_n 3, 1)), (71, (.iaload, 1)), (72, (.iload_n 2, 1)), (73, (.if_icmp .ne 121, 3)), (76, (.aload_n 0, 1)), (77, (.getfield 39, 3)), (80, (.bipush 16, 2)), (82, (.iload_n 3, 1)), (83, (.imul, 1)), (84, (.iload 4, 2)), (86, (.iadd, 1)), (87, (.iaload, 1)), (88, (.istore 5, 2)), (90, (.iload 5, 2)), (92, (.ifCond .lt 115, 3)), (95, (.aload_n 0, 1)), (96, (.getfield 75, 3)), (99, (.iload 5, 2)), (101, (.iaload, 1)), (102, (.ifCond .ge 115, 3)), (105, (.aload_n 0, 1)), (106, (.getfield 75, 3)), (109, (.iload 5, 2)), (111, (.iload_n 2, 1)), (112, (.iconst 1, 1)), (113, (.iadd, 1)), (114, (.iastore, 1)), (115, (.iinc 4 1, 3)), (118, (.goto 57, 3)), (121, (.iinc 3 1, 3)), (124, (.goto 46, 3)), (127, (.iinc 2 1, 3)), (130, (.goto 36, 3)), (133, (.return_, 1))]
def ce_X10_findFar : List (Nat × (Nat × Option Nat × WP)) := [(182, (1, some 10, wl_X10_table)), (161, (1, some 10, wl_X10_states)), (165, (1, some 10, wl_X10_ways))]
set_option maxRecDepth 100000 in
set_option maxHeartbeats 4000000 in
theorem ct_X10_findFar (l : Launch) : Con l wM yX10_findFar cX10_findFar 6 none 3 wl_X10_findFar := by
  refine sxm_ok l (ft := lkp ft_RX10) (c32 := lkp c32_RX10) (c64 := lkp c64_RX10) (ce := lkp ce_X10_findFar) (sf := lkp sf_RX10) (lab := lkp [(6, [0, 1, 2]), (36, [0, 2]), (46, [0, 2, 3]), (57, [0, 2, 3, 4])]) (T := tb_X10_findFar) (by decide +kernel) ft_RX10_ok c32_RX10_ok c64_RX10_ok (fun x q h => (show ∀ q ∈ ce_X10_findFar, ceOK l wM RX10 3 q.1 q.2.1 q.2.2.1 q.2.2.2 from List.forall_mem_cons.mpr ⟨Or.inr (Or.inr (Or.inr ⟨yX10_table, cX10_table, 5, none, 2, ct_X10_table l, by decide, by decide, mi_X10_table.1, mi_X10_table.2, ml_RX10_182, mv_X10_table.1, mv_X10_table.2, ⟨_, _, rfl⟩, by decide, by decide +kernel⟩)), List.forall_mem_cons.mpr ⟨Or.inr (Or.inr (Or.inr ⟨yX10_states, cX10_states, 1, (some .int), 0, ct_X10_states l, by decide, by decide, mi_X10_states.1, mi_X10_states.2, ml_RX10_161, mv_X10_states.1, mv_X10_states.2, ⟨_, _, rfl⟩, by decide, by decide +kernel⟩)), List.forall_mem_cons.mpr ⟨Or.inr (Or.inr (Or.inr ⟨yX10_ways, cX10_ways, 1, (some .int), 0, ct_X10_ways l, by decide, by decide, mi_X10_ways.1, mi_X10_ways.2, ml_RX10_165, mv_X10_ways.1, mv_X10_ways.2, ⟨_, _, rfl⟩, by decide, by decide +kernel⟩)), fun _ h => absurd h List.not_mem_nil⟩⟩⟩) (x, q) (lkp_mem h)) sf_RX10_ok (by decide +kernel) 400 (fun As σ Q h => ?_)
  replace h := p1r_e h
  obtain ⟨z0, q0, rfl, h⟩ := h
  replace h := onB_e h
  obtain ⟨e0, h⟩ := h
  have e0 := Nat.eq_of_beq_eq_true e0
  subst e0
  replace h := p1i_e h
  obtain ⟨x1, q1, rfl, h⟩ := h
  replace h := onB_e h
  obtain ⟨e9, h⟩ := h
  have e9 := List.isEmpty_iff.mp e9
  subst e9
  refine ⟨Nat.le_of_ble_eq_true rfl, fun P hP => ?_⟩
  exact h (fun x2 τ => P 6 [.ref 0, .int x1, .int x2] τ) (fun x2 τ => P 36 [.ref 0, .int x2] τ) (fun x2 x3 τ => P 46 [.ref 0, .int x2, .int x3] τ) (fun x2 x3 x4 τ => P 57 [.ref 0, .int x2, .int x3, .int x4] τ) (fun x2 τ hb => hP 6 [.ref 0, .int x1, .int x2] τ hb) (fun x2 τ hb => hP 36 [.ref 0, .int x2] τ hb) (fun x2 x3 τ hb => hP 46 [.ref 0, .int x2, .int x3] τ hb) (fun x2 x3 x4 τ hb => hP 57 [.ref 0, .int x2, .int x3, .int x4] τ hb)
def wp_X10_findComes  (σ : Sg) (Q : Sg → Prop) : Prop :=
  ∀ L6 : Int32 → Sg → Prop,
  ∀ L27 : Int32 → Sg → Prop,
  ∀ L37 : Int32 → Int32 → Sg → Prop,
  ∀ L96 : Int32 → Sg → Prop,
  ∀ L106 : Int32 → Int32 → Sg → Prop,
  ∀ L116 : Int32 → Int32 → Int32 → Sg → Prop,
  (∀ (x1 : Int32) (τ : Sg), ((x1 < (65536 : Int32) → (vp_in x1 65536 ∧ L6 (x1 + (1 : Int32)) (sI τ 22 (x1).toNatClampNeg (vp_nar .boolean (0 : Int32))))) ∧ (¬ x1 < (65536 : Int32) → L27 (0 : Int32) τ)) → L6 x1 τ) →
  (∀ (x1 : Int32) (τ : Sg), wp_X10_states τ (fun r1 => ((x1 < r1 → L37 x1 (0 : Int32) τ) ∧ (¬ x1 < r1 → L96 (0 : Int32) τ))) → L27 x1 τ) →
  (∀ (x1 : Int32) (x2 : Int32) (τ : Sg), wp_X10_ways τ (fun r2 => ((x2 < r2 → (vp_in (((16 : Int32) * x1) + x2) 4096 ∧ (((gI τ 9 ((((16 : Int32) * x1) + x2)).toNatClampNeg) < 0 → L37 x1 (x2 + (1 : Int32)) τ) ∧ (¬ (gI τ 9 ((((16 : Int32) * x1) + x2)).toNatClampNeg) < 0 → (vp_in (((16 : Int32) * x1) + x2) 4096 ∧ (vp_in (((256 : Int32) * x1) + (gI τ 9 ((((16 : Int32) * x1) + x2)).toNatClampNeg)) 65536 ∧ L37 x1 (x2 + (1 : Int32)) (sI τ 22 ((((256 : Int32) * x1) + (gI τ 9 ((((16 : Int32) * x1) + x2)).toNatClampNeg))).toNatClampNeg (vp_nar .boolean (1 : Int32))))))))) ∧ (¬ x2 < r2 → L27 (x1 + (1 : Int32)) τ))) → L37 x1 x2 τ) →
  (∀ (x1 : Int32) (τ : Sg), wp_X10_states τ (fun r3 => ((x1 < r3 → L106 x1 (0 : Int32) τ) ∧ (¬ x1 < r3 → Q τ))) → L96 x1 τ) →
  (∀ (x1 : Int32) (x2 : Int32) (τ : Sg), wp_X10_states τ (fun r4 => ((x2 < r4 → L116 x1 x2 (0 : Int32) τ) ∧ (¬ x2 < r4 → L96 (x1 + (1 : Int32)) τ))) → L106 x1 x2 τ) →
  (∀ (x1 : Int32) (x2 : Int32) (x3 : Int32) (τ : Sg), wp_X10_states τ (fun r5 => ((x3 < r5 → (vp_in (((256 : Int32) * x2) + x1) 65536 ∧ (((gI τ 22 ((((256 : Int32) * x2) + x1)).toNatClampNeg) = 0 → L106 x1 (x2 + (1 : Int32)) τ) ∧ (¬ (gI τ 22 ((((256 : Int32) * x2) + x1)).toNatClampNeg) = 0 → (vp_in (((256 : Int32) * x2) + x3) 65536 ∧ (((gI τ 22 ((((256 : Int32) * x2) + x3)).toNatClampNeg) = 0 → (vp_in (((256 : Int32) * x1) + x3) 65536 ∧ (((gI τ 22 ((((256 : Int32) * x1) + x3)).toNatClampNeg) = 0 → (vp_in (((256 : Int32) * x2) + x3) 65536 ∧ L116 x1 x2 (x3 + (1 : Int32)) (sI τ 22 ((((256 : Int32) * x2) + x3)).toNatClampNeg (vp_nar .boolean (0 : Int32))))) ∧ (¬ (gI τ 22 ((((256 : Int32) * x1) + x3)).toNatClampNeg) = 0 → (vp_in (((256 : Int32) * x2) + x3) 65536 ∧ L116 x1 x2 (x3 + (1 : Int32)) (sI τ 22 ((((256 : Int32) * x2) + x3)).toNatClampNeg (vp_nar .boolean (1 : Int32)))))))) ∧ (¬ (gI τ 22 ((((256 : Int32) * x2) + x3)).toNatClampNeg) = 0 → (vp_in (((256 : Int32) * x2) + x3) 65536 ∧ L116 x1 x2 (x3 + (1 : Int32)) (sI τ 22 ((((256 : Int32) * x2) + x3)).toNatClampNeg (vp_nar .boolean (1 : Int32))))))))))) ∧ (¬ x3 < r5 → L106 x1 (x2 + (1 : Int32)) τ))) → L116 x1 x2 x3 τ) →
  wp_X10_table σ (fun s6 => L6 (0 : Int32) s6)
def wl_X10_findComes : WP := fun As σ Q => p1r As (fun z0 r0 => onB (Nat.beq z0 0) (onB r0.isEmpty (wp_X10_findComes  σ (fun τ => Q none τ))))
def tb_X10_findComes : List (Nat × Instr × Nat) := [(0, (.aload_n 0, 1)), (1, (.invokevirtual 182, 3)), (4, (.iconst 0, 1)), (5, (.istore_n 1, 1)), (6, (.iload_n 1, 1)), (7, (.ldc 81, 2)), (9, (.if_icmp .ge 25, 3)), (12, (.aload_n 0, 1)), (13, (.getfield 82, 3)), (16, (.iload_n 1, 1)), (17, (.iconst 0, 1)), (18, (.bastore, 1)), (19, (.iinc 1 1, 3)), (22, (.goto 6, 3)), (25, (.iconst 0, 1)), (26, (.istore_n 1, 1)), (27, (.iload_n 1, 1)), (28, (.aload_n 0, 1)), (29, (.invokevirtual 161, 3)), (32, (.if_icmp .ge 94, 3)), (35, (.iconst 0, 1)), (36, (.istore_n 2, 1)), (37, (.iload_n 2, 1)), (38, (.aload_n 0, 1)), (39, (.invokevirtual 165, 3)), (42, (.if_icmp .ge 88, 3)), (45, (.aload_n 0, 1)), (46, (.getfield 39, 3)), (49, (.bipush 16, 2)), (51, (.iload_n 1, 1)), (52, (.imul, 1)), (53, (.iload_n 2, 1)), (54, (.iadd, 1)), (55, (.iaload, 1)), (56, (.ifCond .lt 82, 3)), (59, (.aload_n 0, 1)), (60, (.getfield 82, 3)), (63, (.sipush 256, 3)), (66, (.iload_n 1, 1)), (67, (.imul, 1)), (68, (.aload_n 0, 1)), (69, (.getfield 39, 3)), (72, (.bipush 16, 2)), (74, (.iload_n 1, 1)), (75, (.imul, 1)), (76, (.iload_n 2, 1)), (77, (.iadd, 1)), (78, (.iaload, 1)), (79, (.iadd, 1)), (80, (.iconst 1, 1)), (81, (.bastore, 1)), (82, (.iinc 2 1, 3)), (85, (.goto 37, 3)), (88, (.iinc 1 1, 3)), (91, (.goto 27, 3)), (94, (.iconst 0, 1)), (95, (.istore_n 1, 1)), (96, (.iload_n 1, 1)), (97, (.aload_n 0, 1)), (98, (.invokevirtual 161, 3)), (101, (.if_icmp .ge 204, 3)), (104, (.iconst 0, 1)), (105, (.istore_n 2, 1)), (106, (.iload_n 2, 1)), (107, (.aload_n 0, 1)), (108, (.invokevirtual 161, 3)), (111, (.if_icmp .ge 198, 3)), (114, (.iconst 0, 1)), (115, (.istore_n 3, 1)), (116, (.iload_n 3, 1)), (117, (.aload_n 0, 1)), (118, (.invokevirtual 161, 3)), (121, (.if_icmp .ge 192, 3)), (124, (.aload_n 0, 1)), (125, (.getfield 82, 3)), (128, (.sipush 256, 3)), (131, (.iload_n 2, 1)), (132, (.imul, 1)), (133, (.iload_n 1, 1)), (134, (.iadd, 1)), (135, (.baload, 1)), (136, (.ifCond .eq 192, 3)), (139, (.aload_n 0, 1)), (140, (.getfield 82, 3)), (143, (.sipush 256, 3)), (146, (.iload_n 2, 1)), (147, (.imul, 1)), (148, (.iload_n 3, 1)), (149, (.iadd, 1)), (150, (.aload_n 0, 1)), (151, (.getfield 82, 3)), (154, (.sipush 256, 3)), (157, (.iload_n 2, 1)), (158, (.imul, 1)), (159, (.iload_n 3, 1)), (160, (.iadd, 1)), (161, (.baload, 1)), (162, (.ifCond .ne 180, 3)), (165, (.aload_n 0, 1)), (166, (.getfield 82, 3)), (169, (.sipush 256, 3)), (172, (.iload_n 1, 1)), (173, (.imul, 1)), (174, (.iload_n 3, 1)), (175, (.iadd, 1)), (176, (.baload, 1)), (177, (.ifCond .eq 184, 3)), (180, (.iconst 1, 1)), (181, (.goto 185, 3)), (184, (.iconst 0, 1)), (185, (.bastore, 1)), (186, (.iinc 3 1, 3)), (189, (.goto 116, 3)), (192, (.iinc 2 1, 3)), (195, (.goto 106, 3)), (198, (.iinc 1 1, 3)), (201, (.goto 96, 3)), (204, (.return_, 1))]
def ce_X10_findComes : List (Nat × (Nat × Option Nat × WP)) := [(182, (1, some 10, wl_X10_table)), (161, (1, some 10, wl_X10_states)), (165, (1, some 10, wl_X10_ways))]
set_option maxRecDepth 100000 in
set_option maxHeartbeats 4000000 in
theorem ct_X10_findComes (l : Launch) : Con l wM yX10_findComes cX10_findComes 4 none 3 wl_X10_findComes := by
  refine sxm_ok l (ft := lkp ft_RX10) (c32 := lkp c32_RX10) (c64 := lkp c64_RX10) (ce := lkp ce_X10_findComes) (sf := lkp sf_RX10) (lab := lkp [(6, [0, 1]), (27, [0, 1]), (37, [0, 1, 2]), (96, [0, 1]), (106, [0, 1, 2]), (116, [0, 1, 2, 3])]) (T := tb_X10_findComes) (by decide +kernel) ft_RX10_ok c32_RX10_ok c64_RX10_ok (fun x q h => (show ∀ q ∈ ce_X10_findComes, ceOK l wM RX10 3 q.1 q.2.1 q.2.2.1 q.2.2.2 from List.forall_mem_cons.mpr ⟨Or.inr (Or.inr (Or.inr ⟨yX10_table, cX10_table, 5, none, 2, ct_X10_table l, by decide, by decide, mi_X10_table.1, mi_X10_table.2, ml_RX10_182, mv_X10_table.1, mv_X10_table.2, ⟨_, _, rfl⟩, by decide, by decide +kernel⟩)), List.forall_mem_cons.mpr ⟨Or.inr (Or.inr (Or.inr ⟨yX10_states, cX10_states, 1, (some .int), 0, ct_X10_states l, by decide, by decide, mi_X10_states.1, mi_X10_states.2, ml_RX10_161, mv_X10_states.1, mv_X10_states.2, ⟨_, _, rfl⟩, by decide, by decide +kernel⟩)), List.forall_mem_cons.mpr ⟨Or.inr (Or.inr (Or.inr ⟨yX10_ways, cX10_ways, 1, (some .int), 0, ct_X10_ways l, by decide, by decide, mi_X10_ways.1, mi_X10_ways.2, ml_RX10_165, mv_X10_ways.1, mv_X10_ways.2, ⟨_, _, rfl⟩, by decide, by decide +kernel⟩)), fun _ h => absurd h List.not_mem_nil⟩⟩⟩) (x, q) (lkp_mem h)) sf_RX10_ok (by decide +kernel) 400 (fun As σ Q h => ?_)
  replace h := p1r_e h
  obtain ⟨z0, q0, rfl, h⟩ := h
  replace h := onB_e h
  obtain ⟨e0, h⟩ := h
  have e0 := Nat.eq_of_beq_eq_true e0
  subst e0
  replace h := onB_e h
  obtain ⟨e9, h⟩ := h
  have e9 := List.isEmpty_iff.mp e9
  subst e9
  refine ⟨Nat.le_of_ble_eq_true rfl, fun P hP => ?_⟩
  exact h (fun x1 τ => P 6 [.ref 0, .int x1] τ) (fun x1 τ => P 27 [.ref 0, .int x1] τ) (fun x1 x2 τ => P 37 [.ref 0, .int x1, .int x2] τ) (fun x1 τ => P 96 [.ref 0, .int x1] τ) (fun x1 x2 τ => P 106 [.ref 0, .int x1, .int x2] τ) (fun x1 x2 x3 τ => P 116 [.ref 0, .int x1, .int x2, .int x3] τ) (fun x1 τ hb => hP 6 [.ref 0, .int x1] τ hb) (fun x1 τ hb => hP 27 [.ref 0, .int x1] τ hb) (fun x1 x2 τ hb => hP 37 [.ref 0, .int x1, .int x2] τ hb) (fun x1 τ hb => hP 96 [.ref 0, .int x1] τ hb) (fun x1 x2 τ hb => hP 106 [.ref 0, .int x1, .int x2] τ hb) (fun x1 x2 x3 τ hb => hP 116 [.ref 0, .int x1, .int x2, .int x3] τ hb)
def wp_X10_judged (x1 : Int32) (σ : Sg) (Q : Int32 → Sg → Prop) : Prop :=
  ∀ L33 : Int32 → Sg → Prop,
  ∀ L73 : Int32 → Sg → Prop,
  ∀ L88 : Int32 → Int32 → Sg → Prop,
  (∀ (x2 : Int32) (τ : Sg), wp_X10_states τ (fun r1 => ((x2 < r1 → wp_X10_isLeft x2 x1 (sI τ 0 42 x2) (fun r2 => ((r2 = 0 → L33 (x2 + (1 : Int32)) (sI τ 0 42 x2)) ∧ (¬ r2 = 0 → wp_X10_isBadState x2 (sI τ 0 42 x2) (fun r3 => ((r3 = 0 → L33 (x2 + (1 : Int32)) (sI τ 0 42 x2)) ∧ (¬ r3 = 0 → Q (3 : Int32) (sI τ 0 42 x2)))))))) ∧ (¬ x2 < r1 → L73 (0 : Int32) τ))) → L33 x2 τ) →
  (∀ (x2 : Int32) (τ : Sg), wp_X10_states τ (fun r4 => ((x2 < r4 → L88 x2 (0 : Int32) (sI τ 0 42 x2)) ∧ (¬ x2 < r4 → Q (0 : Int32) τ))) → L73 x2 τ) →
  (∀ (x2 : Int32) (x3 : Int32) (τ : Sg), wp_X10_states τ (fun r5 => ((x3 < r5 → wp_X10_isLeft x2 x1 τ (fun r6 => ((r6 = 0 → L73 (x2 + (1 : Int32)) τ) ∧ (¬ r6 = 0 → wp_X10_isLeft x3 x1 (sI τ 0 43 x3) (fun r7 => ((r7 = 0 → wp_X10_leads x2 x3 (sI τ 0 43 x3) (fun r8 => ((r8 = 0 → L88 x2 (x3 + (1 : Int32)) (sI τ 0 43 x3)) ∧ (¬ r8 = 0 → Q (2 : Int32) (sI τ 0 43 x3))))) ∧ (¬ r7 = 0 → L88 x2 (x3 + (1 : Int32)) (sI τ 0 43 x3)))))))) ∧ (¬ x3 < r5 → L73 (x2 + (1 : Int32)) τ))) → L88 x2 x3 τ) →
  wp_X10_table σ (fun s9 => wp_X10_isLeft (gI (sI (sI s9 0 42 (gI s9 0 8)) 0 43 (-1 : Int32)) 0 8) x1 (sI (sI s9 0 42 (gI s9 0 8)) 0 43 (-1 : Int32)) (fun r10 => ((r10 = 0 → Q (1 : Int32) (sI (sI s9 0 42 (gI s9 0 8)) 0 43 (-1 : Int32))) ∧ (¬ r10 = 0 → L33 (0 : Int32) (sI (sI s9 0 42 (gI s9 0 8)) 0 43 (-1 : Int32))))))
def wl_X10_judged : WP := fun As σ Q => p1r As (fun z0 r0 => onB (Nat.beq z0 0) (p1i r0 (fun x1 r1 => onB r1.isEmpty (wp_X10_judged x1 σ (fun x τ => Q (some (.int x)) τ)))))
def tb_X10_judged : List (Nat × Instr × Nat) := [(0, (.aload_n 0, 1)), (1, (.invokevirtual 182, 3)), (4, (.aload_n 0, 1)), (5, (.aload_n 0, 1)), (6, (.getfield 122, 3)), (9, (.putfield 278, 3)), (12, (.aload_n 0, 1)), (13, (.iconst (-1), 1)), (14, (.putfield 281, 3)), (17, (.aload_n 0, 1)), (18, (.aload_n 0, 1)), (19, (.getfield 122, 3)), (22, (.iload_n 1, 1)), (23, (.invokevirtual 284, 3)), (26, (.ifCond .ne 31, 3)), (29, (.iconst 1, 1)), (30, (.ireturn, 1)), (31, (.iconst 0, 1)), (32, (.istore_n 2, 1)), (33, (.iload_n 2, 1)), (34, (.aload_n 0, 1)), (35, (.invokevirtual 161, 3)), (38, (.if_icmp .ge 71, 3)), (41, (.aload_n 0, 1)), (42, (.iload_n 2, 1)), (43, (.putfield 278, 3)), (46, (.aload_n 0, 1)), (47, (.iload_n 2, 1)), (48, (.iload_n 1, 1)), (49, (.invokevirtual 284, 3)), (52, (.ifCond .eq 65, 3)), (55, (.aload_n 0, 1)), (56, (.iload_n 2, 1)), (57, (.invokevirtual 247, 3)), (60, (.ifCond .eq 65, 3)), (63, (.iconst 3, 1)), (64, (.ireturn, 1)), (65, (.iinc 2 1, 3)), (68, (.goto 33, 3)), (71, (.iconst 0, 1)), (72, (.istore_n 2, 1)), (73, (.iload_n 2, 1)), (74, (.aload_n 0, 1)), (75, (.invokevirtual 161, 3)), (78, (.if_icmp .ge 142, 3)), (81, (.aload_n 0, 1)), (82, (.iload_n 2, 1)), (83, (.putfield 278, 3)), (86, (.iconst 0, 1)), (87, (.istore_n 3, 1)), (88, (.iload_n 3, 1)), (89, (.aload_n 0, 1)), (90, (.invokevirtual 161, 3)), (93, (.if_icmp .ge 136, 3)), (96, (.aload_n 0, 1)), (97, (.iload_n 2, 1)), (98, (.iload_n 1, 1)), (99, (.invokevirtual 284, 3)), (102, (.ifCond .eq 136, 3)), (105, (.aload_n 0, 1)), (106, (.iload_n 3, 1)), (107, (.putfield 281, 3)), (110, (.aload_n 0, 1)), (111, (.iload_n 3, 1)), (112, (.iload_n 1, 1)), (113, (.invokevirtual 284, 3)), (116, (.ifCond .ne 130, 3)), (119, (.aload_n 0, 1)), (120, (.iload_n 2, 1)), (121, (.iload_n 3, 1)), (122, (.invokevirtual 214, 3)), (125, (.ifCond .eq 130, 3)), (128, (.iconst 2, 1)), (129, (.ireturn, 1)), (130, (.iinc 3 1, 3)), (133, (.goto 88, 3)), (136, (.iinc 2 1, 3)), (139, (.goto 73, 3)), (142, (.iconst 0, 1)), (143, (.ireturn, 1))]
def ce_X10_judged : List (Nat × (Nat × Option Nat × WP)) := [(182, (1, some 10, wl_X10_table)), (284, (3, some 10, wl_X10_isLeft)), (161, (1, some 10, wl_X10_states)), (247, (2, some 10, wl_X10_isBadState)), (214, (3, some 10, wl_X10_leads))]
set_option maxRecDepth 100000 in
set_option maxHeartbeats 4000000 in
theorem ct_X10_judged (l : Launch) : Con l wM yX10_judged cX10_judged 4 (some .int) 3 wl_X10_judged := by
  refine sxm_ok l (ft := lkp ft_RX10) (c32 := lkp c32_RX10) (c64 := lkp c64_RX10) (ce := lkp ce_X10_judged) (sf := lkp sf_RX10) (lab := lkp [(33, [0, 1, 2]), (73, [0, 1, 2]), (88, [0, 1, 2, 3])]) (T := tb_X10_judged) (by decide +kernel) ft_RX10_ok c32_RX10_ok c64_RX10_ok (fun x q h => (show ∀ q ∈ ce_X10_judged, ceOK l wM RX10 3 q.1 q.2.1 q.2.2.1 q.2.2.2 from List.forall_mem_cons.mpr ⟨Or.inr (Or.inr (Or.inr ⟨yX10_table, cX10_table, 5, none, 2, ct_X10_table l, by decide, by decide, mi_X10_table.1, mi_X10_table.2, ml_RX10_182, mv_X10_table.1, mv_X10_table.2, ⟨_, _, rfl⟩, by decide, by decide +kernel⟩)), List.forall_mem_cons.mpr ⟨Or.inr (Or.inr (Or.inr ⟨yX10_isLeft, cX10_isLeft, 4, (some .boolean), 1, ct_X10_isLeft l, by decide, by decide, mi_X10_isLeft.1, mi_X10_isLeft.2, ml_RX10_284, mv_X10_isLeft.1, mv_X10_isLeft.2, ⟨_, _, rfl⟩, by decide, by decide +kernel⟩)), List.forall_mem_cons.mpr ⟨Or.inr (Or.inr (Or.inr ⟨yX10_states, cX10_states, 1, (some .int), 0, ct_X10_states l, by decide, by decide, mi_X10_states.1, mi_X10_states.2, ml_RX10_161, mv_X10_states.1, mv_X10_states.2, ⟨_, _, rfl⟩, by decide, by decide +kernel⟩)), List.forall_mem_cons.mpr ⟨Or.inr (Or.inr (Or.inr ⟨yX10_isBadState, cX10_isBadState, 4, (some .boolean), 1, ct_X10_isBadState l, by decide, by decide, mi_X10_isBadState.1, mi_X10_isBadState.2, ml_RX10_247, mv_X10_isBadState.1, mv_X10_isBadState.2, ⟨_, _, rfl⟩, by decide, by decide +kernel⟩)), List.forall_mem_cons.mpr ⟨Or.inr (Or.inr (Or.inr ⟨yX10_leads, cX10_leads, 5, (some .boolean), 1, ct_X10_leads l, by decide, by decide, mi_X10_leads.1, mi_X10_leads.2, ml_RX10_214, mv_X10_leads.1, mv_X10_leads.2, ⟨_, _, rfl⟩, by decide, by decide +kernel⟩)), fun _ h => absurd h List.not_mem_nil⟩⟩⟩⟩⟩) (x, q) (lkp_mem h)) sf_RX10_ok (by decide +kernel) 400 (fun As σ Q h => ?_)
  replace h := p1r_e h
  obtain ⟨z0, q0, rfl, h⟩ := h
  replace h := onB_e h
  obtain ⟨e0, h⟩ := h
  have e0 := Nat.eq_of_beq_eq_true e0
  subst e0
  replace h := p1i_e h
  obtain ⟨x1, q1, rfl, h⟩ := h
  replace h := onB_e h
  obtain ⟨e9, h⟩ := h
  have e9 := List.isEmpty_iff.mp e9
  subst e9
  refine ⟨Nat.le_of_ble_eq_true rfl, fun P hP => ?_⟩
  exact h (fun x2 τ => P 33 [.ref 0, .int x1, .int x2] τ) (fun x2 τ => P 73 [.ref 0, .int x1, .int x2] τ) (fun x2 x3 τ => P 88 [.ref 0, .int x1, .int x2, .int x3] τ) (fun x2 τ hb => hP 33 [.ref 0, .int x1, .int x2] τ hb) (fun x2 τ hb => hP 73 [.ref 0, .int x1, .int x2] τ hb) (fun x2 x3 τ hb => hP 88 [.ref 0, .int x1, .int x2, .int x3] τ hb)
def wp_X10_lookAt  (σ : Sg) (Q : Sg → Prop) : Prop :=
  ∀ L109 : Int32 → Int32 → Int32 → Int32 → Int32 → Sg → Prop,
  ∀ L160 : Int32 → Int32 → Int32 → Int32 → Sg → Prop,
  (∀ (x1 : Int32) (x2 : Int32) (x4 : Int32) (x5 : Int32) (x6 : Int32) (τ : Sg), ((x2 < x6 → ((x5 = 0 → Q (sI τ 0 24 (3 : Int32))) ∧ (¬ x5 = 0 → L160 x1 x2 x4 (1 : Int32) τ))) ∧ (¬ x2 < x6 → ((x5 = 0 → L109 x1 x2 x4 (0 : Int32) (x6 + (1 : Int32)) τ) ∧ (¬ x5 = 0 → (vp_in x6 25 ∧ (((gI τ 14 (x6).toNatClampNeg) < (200 : Int32) → L109 x1 x2 x4 (1 : Int32) (x6 + (1 : Int32)) τ) ∧ (¬ (gI τ 14 (x6).toNatClampNeg) < (200 : Int32) → L109 x1 x2 x4 (0 : Int32) (x6 + (1 : Int32)) τ))))))) → L109 x1 x2 x4 x5 x6 τ) →
  (∀ (x1 : Int32) (x2 : Int32) (x4 : Int32) (x6 : Int32) (τ : Sg), ((x2 < x6 → Q (sI τ 0 26 ((gI τ 0 26) - (1 : Int32)))) ∧ (¬ x2 < x6 → wp_X10_keep x6 x4 (x1 &&& x4) τ (fun s1 => L160 x1 x2 x4 (x6 + (1 : Int32)) s1))) → L160 x1 x2 x4 x6 τ) →
  (vp_in ((gI (sI σ 0 25 ((gI σ 0 25) + (1 : Int32))) 0 26) - (1 : Int32)) 40 ∧ (vp_in ((gI (sI σ 0 25 ((gI σ 0 25) + (1 : Int32))) 0 26) - (1 : Int32)) 40 ∧ (((gI (sI σ 0 25 ((gI σ 0 25) + (1 : Int32))) 15 (((gI (sI σ 0 25 ((gI σ 0 25) + (1 : Int32))) 0 26) - (1 : Int32))).toNatClampNeg) = (gI (sI σ 0 25 ((gI σ 0 25) + (1 : Int32))) 0 8) → wp_X10_tellWay (sI σ 0 25 ((gI σ 0 25) + (1 : Int32))) (fun s2 => Q s2)) ∧ (¬ (gI (sI σ 0 25 ((gI σ 0 25) + (1 : Int32))) 15 (((gI (sI σ 0 25 ((gI σ 0 25) + (1 : Int32))) 0 26) - (1 : Int32))).toNatClampNeg) = (gI (sI σ 0 25 ((gI σ 0 25) + (1 : Int32))) 0 8) → wp_X10_isInFrame (gI (sI σ 0 25 ((gI σ 0 25) + (1 : Int32))) 15 (((gI (sI σ 0 25 ((gI σ 0 25) + (1 : Int32))) 0 26) - (1 : Int32))).toNatClampNeg) (gI (sI σ 0 25 ((gI σ 0 25) + (1 : Int32))) 16 (((gI (sI σ 0 25 ((gI σ 0 25) + (1 : Int32))) 0 26) - (1 : Int32))).toNatClampNeg) (sI σ 0 25 ((gI σ 0 25) + (1 : Int32))) (fun r3 => ((r3 = 0 → Q (sI (sI σ 0 25 ((gI σ 0 25) + (1 : Int32))) 0 26 ((gI (sI σ 0 25 ((gI σ 0 25) + (1 : Int32))) 0 26) - (1 : Int32)))) ∧ (¬ r3 = 0 → wp_X10_forerunner (gI (sI σ 0 25 ((gI σ 0 25) + (1 : Int32))) 15 (((gI (sI σ 0 25 ((gI σ 0 25) + (1 : Int32))) 0 26) - (1 : Int32))).toNatClampNeg) ((gI (sI σ 0 25 ((gI σ 0 25) + (1 : Int32))) 16 (((gI (sI σ 0 25 ((gI σ 0 25) + (1 : Int32))) 0 26) - (1 : Int32))).toNatClampNeg) - (1 : Int32)) (sI σ 0 25 ((gI σ 0 25) + (1 : Int32))) (fun r4 => ((r4 < 0 → wp_X10_states (sI σ 0 25 ((gI σ 0 25) + (1 : Int32))) (fun r5 => wp_X10_widened (gI (sI σ 0 25 ((gI σ 0 25) + (1 : Int32))) 16 (((gI (sI σ 0 25 ((gI σ 0 25) + (1 : Int32))) 0 26) - (1 : Int32))).toNatClampNeg) (r5 - (1 : Int32)) (gI (sI σ 0 25 ((gI σ 0 25) + (1 : Int32))) 15 (((gI (sI σ 0 25 ((gI σ 0 25) + (1 : Int32))) 0 26) - (1 : Int32))).toNatClampNeg) (sI σ 0 25 ((gI σ 0 25) + (1 : Int32))) (fun r6 => L109 (gI (sI σ 0 25 ((gI σ 0 25) + (1 : Int32))) 15 (((gI (sI σ 0 25 ((gI σ 0 25) + (1 : Int32))) 0 26) - (1 : Int32))).toNatClampNeg) (gI (sI σ 0 25 ((gI σ 0 25) + (1 : Int32))) 16 (((gI (sI σ 0 25 ((gI σ 0 25) + (1 : Int32))) 0 26) - (1 : Int32))).toNatClampNeg) r6 (1 : Int32) (1 : Int32) (sI σ 0 25 ((gI σ 0 25) + (1 : Int32)))))) ∧ (¬ r4 < 0 → wp_X10_meet r4 ((gI (sI σ 0 25 ((gI σ 0 25) + (1 : Int32))) 16 (((gI (sI σ 0 25 ((gI σ 0 25) + (1 : Int32))) 0 26) - (1 : Int32))).toNatClampNeg) - (1 : Int32)) (sI σ 0 25 ((gI σ 0 25) + (1 : Int32))) (fun s7 => Q s7)))))))))))
def wl_X10_lookAt : WP := fun As σ Q => p1r As (fun z0 r0 => onB (Nat.beq z0 0) (onB r0.isEmpty (wp_X10_lookAt  σ (fun τ => Q none τ))))
def tb_X10_lookAt : List (Nat × Instr × Nat) := [(0, (.aload_n 0, 1)), (1, (.dup, 1)), (2, (.getfield 148, 3)), (5, (.iconst 1, 1)), (6, (.iadd, 1)), (7, (.putfield 148, 3)), (10, (.aload_n 0, 1)), (11, (.getfield 57, 3)), (14, (.aload_n 0, 1)), (15, (.getfield 194, 3)), (18, (.iconst 1, 1)), (19, (.isub, 1)), (20, (.iaload, 1)), (21, (.istore_n 1, 1)), (22, (.aload_n 0, 1)), (23, (.getfield 60, 3)), (26, (.aload_n 0, 1)), (27, (.getfield 194, 3)), (30, (.iconst 1, 1)), (31, (.isub, 1)), (32, (.iaload, 1)), (33, (.istore_n 2, 1)), (34, (.iload_n 1, 1)), (35, (.aload_n 0, 1)), (36, (.getfield 122, 3)), (39, (.if_icmp .ne 47, 3)), (42, (.aload_n 0, 1)), (43, (.invokevirtual 217, 3)), (46, (.return_, 1)), (47, (.aload_n 0, 1)), (48, (.iload_n 1, 1)), (49, (.iload_n 2, 1)), (50, (.invokevirtual 204, 3)), (53, (.ifCond .ne 67, 3)), (56, (.aload_n 0, 1)), (57, (.dup, 1)), (58, (.getfield 194, 3)), (61, (.iconst 1, 1)), (62, (.isub, 1)), (63, (.putfield 194, 3)), (66, (.return_, 1)), (67, (.aload_n 0, 1)), (68, (.iload_n 1, 1)), (69, (.iload_n 2, 1)), (70, (.iconst 1, 1)), (71, (.isub, 1)), (72, (.invokevirtual 220, 3)), (75, (.istore_n 3, 1)), (76, (.iload_n 3, 1)), (77, (.ifCond .lt 89, 3)), (80, (.aload_n 0, 1)), (81, (.iload_n 3, 1)), (82, (.iload_n 2, 1)), (83, (.iconst 1, 1)), (84, (.isub, 1)), (85, (.invokevirtual 224, 3)), (88, (.return_, 1)), (89, (.aload_n 0, 1)), (90, (.iload_n 2, 1)), (91, (.aload_n 0, 1)), (92, (.invokevirtual 161, 3)), (95, (.iconst 1, 1)), (96, (.isub, 1)), (97, (.iload_n 1, 1)), (98, (.invokevirtual 227, 3)), (101, (.istore 4, 2)), (103, (.iconst 1, 1)), (104, (.istore 5, 2)), (106, (.iconst 1, 1)), (107, (.istore 6, 2)), (109, (.iload 6, 2)), (111, (.iload_n 2, 1)), (112, (.if_icmp .gt 146, 3)), (115, (.iload 5, 2)), (117, (.ifCond .eq 137, 3)), (120, (.aload_n 0, 1)), (121, (.getfield 54, 3)), (124, (.iload 6, 2)), (126, (.iaload, 1)), (127, (.sipush 200, 3)), (130, (.if_icmp .ge 137, 3)), (133, (.iconst 1, 1)), (134, (.goto 138, 3)), (137, (.iconst 0, 1)), (138, (.istore 5, 2)), (140, (.iinc 6 1, 3)), (143, (.goto 109, 3)), (146, (.iload 5, 2)), (148, (.ifCond .ne 157, 3)), (151, (.aload_n 0, 1)), (152, (.iconst 3, 1)), (153, (.putfield 191, 3)), (156, (.return_, 1)), (157, (.iconst 1, 1)), (158, (.istore 6, 2)), (160, (.iload 6, 2)), (162, (.iload_n 2, 1)), (163, (.if_icmp .gt 184, 3)), (166, (.aload_n 0, 1)), (167, (.iload 6, 2)), (169, (.iload 4, 2)), (171, (.iload_n 1, 1)), (172, (.iload 4, 2)), (174, (.iand, 1)), (175, (.invokevirtual 230, 3)), (178, (.iinc 6 1, 3)), (181, (.goto 160, 3)), (184, (.aload_n 0, 1)), (185, (.dup, 1)), (186, (.getfield 194, 3)), (189, (.iconst 1, 1)), (190, (.isub, 1)), (191, (.putfield 194, 3)), (194, (.return_, 1))]
def ce_X10_lookAt : List (Nat × (Nat × Option Nat × WP)) := [(217, (1, some 10, wl_X10_tellWay)), (204, (3, some 10, wl_X10_isInFrame)), (220, (3, some 10, wl_X10_forerunner)), (224, (3, some 10, wl_X10_meet)), (161, (1, some 10, wl_X10_states)), (227, (4, some 10, wl_X10_widened)), (230, (4, some 10, wl_X10_keep))]
set_option maxRecDepth 100000 in
set_option maxHeartbeats 4000000 in
theorem ct_X10_lookAt (l : Launch) : Con l wM yX10_lookAt cX10_lookAt 7 none 4 wl_X10_lookAt := by
  refine sxm_ok l (ft := lkp ft_RX10) (c32 := lkp c32_RX10) (c64 := lkp c64_RX10) (ce := lkp ce_X10_lookAt) (sf := lkp sf_RX10) (lab := lkp [(109, [0, 1, 2, 4, 5, 6]), (160, [0, 1, 2, 4, 6])]) (T := tb_X10_lookAt) (by decide +kernel) ft_RX10_ok c32_RX10_ok c64_RX10_ok (fun x q h => (show ∀ q ∈ ce_X10_lookAt, ceOK l wM RX10 4 q.1 q.2.1 q.2.2.1 q.2.2.2 from List.forall_mem_cons.mpr ⟨Or.inr (Or.inr (Or.inr ⟨yX10_tellWay, cX10_tellWay, 2, none, 0, ct_X10_tellWay l, by decide, by decide, mi_X10_tellWay.1, mi_X10_tellWay.2, ml_RX10_217, mv_X10_tellWay.1, mv_X10_tellWay.2, ⟨_, _, rfl⟩, by decide, by decide +kernel⟩)), List.forall_mem_cons.mpr ⟨Or.inr (Or.inr (Or.inr ⟨yX10_isInFrame, cX10_isInFrame, 4, (some .boolean), 1, ct_X10_isInFrame l, by decide, by decide, mi_X10_isInFrame.1, mi_X10_isInFrame.2, ml_RX10_204, mv_X10_isInFrame.1, mv_X10_isInFrame.2, ⟨_, _, rfl⟩, by decide, by decide +kernel⟩)), List.forall_mem_cons.mpr ⟨Or.inr (Or.inr (Or.inr ⟨yX10_forerunner, cX10_forerunner, 4, (some .int), 2, ct_X10_forerunner l, by decide, by decide, mi_X10_forerunner.1, mi_X10_forerunner.2, ml_RX10_220, mv_X10_forerunner.1, mv_X10_forerunner.2, ⟨_, _, rfl⟩, by decide, by decide +kernel⟩)), List.forall_mem_cons.mpr ⟨Or.inr (Or.inr (Or.inr ⟨yX10_meet, cX10_meet, 3, none, 0, ct_X10_meet l, by decide, by decide, mi_X10_meet.1, mi_X10_meet.2, ml_RX10_224, mv_X10_meet.1, mv_X10_meet.2, ⟨_, _, rfl⟩, by decide, by decide +kernel⟩)), List.forall_mem_cons.mpr ⟨Or.inr (Or.inr (Or.inr ⟨yX10_states, cX10_states, 1, (some .int), 0, ct_X10_states l, by decide, by decide, mi_X10_states.1, mi_X10_states.2, ml_RX10_161, mv_X10_states.1, mv_X10_states.2, ⟨_, _, rfl⟩, by decide, by decide +kernel⟩)), List.forall_mem_cons.mpr ⟨Or.inr (Or.inr (Or.inr ⟨yX10_widened, cX10_widened, 7, (some .int), 3, ct_X10_widened l, by decide, by decide, mi_X10_widened.1, mi_X10_widened.2, ml_RX10_227, mv_X10_widened.1, mv_X10_widened.2, ⟨_, _, rfl⟩, by decide, by decide +kernel⟩)), List.forall_mem_cons.mpr ⟨Or.inr (Or.inr (Or.inr ⟨yX10_keep, cX10_keep, 5, none, 0, ct_X10_keep l, by decide, by decide, mi_X10_keep.1, mi_X10_keep.2, ml_RX10_230, mv_X10_keep.1, mv_X10_keep.2, ⟨_, _, rfl⟩, by decide, by decide +kernel⟩)), fun _ h => absurd h List.not_mem_nil⟩⟩⟩⟩⟩⟩⟩) (x, q) (lkp_mem h)) sf_RX10_ok (by decide +kernel) 400 (fun As σ Q h => ?_)
  replace h := p1r_e h
  obtain ⟨z0, q0, rfl, h⟩ := h
  replace h := onB_e h
  obtain ⟨e0, h⟩ := h
  have e0 := Nat.eq_of_beq_eq_true e0
  subst e0
  replace h := onB_e h
  obtain ⟨e9, h⟩ := h
  have e9 := List.isEmpty_iff.mp e9
  subst e9
  refine ⟨Nat.le_of_ble_eq_true rfl, fun P hP => ?_⟩
  exact h (fun x1 x2 x4 x5 x6 τ => P 109 [.ref 0, .int x1, .int x2, .int x4, .int x5, .int x6] τ) (fun x1 x2 x4 x6 τ => P 160 [.ref 0, .int x1, .int x2, .int x4, .int x6] τ) (fun x1 x2 x4 x5 x6 τ hb => hP 109 [.ref 0, .int x1, .int x2, .int x4, .int x5, .int x6] τ hb) (fun x1 x2 x4 x6 τ hb => hP 160 [.ref 0, .int x1, .int x2, .int x4, .int x6] τ hb)
def wp_X10_pushAll  (σ : Sg) (Q : Sg → Prop) : Prop :=
  ∀ L2 : Int32 → Sg → Prop,
  ∀ L30 : Int32 → Sg → Prop,
  ∀ L68 : Int32 → Int32 → Sg → Prop,
  (∀ (x1 : Int32) (τ : Sg), (((gI τ 0 23) < x1 → L30 (1 : Int32) τ) ∧ (¬ (gI τ 0 23) < x1 → (((gI τ 0 24) = 0 → wp_X10_push x1 τ (fun s1 => L2 (x1 + (1 : Int32)) s1)) ∧ (¬ (gI τ 0 24) = 0 → L30 (1 : Int32) τ)))) → L2 x1 τ) →
  (∀ (x1 : Int32) (τ : Sg), (((gI τ 0 23) < x1 → (((gI τ 0 24) = 0 → ((((gI τ 0 23) + (1 : Int32)) = (24 : Int32) → (((gI (sI τ 0 24 (3 : Int32)) 0 24) = 0 → Q (sI (sI τ 0 24 (3 : Int32)) 0 23 ((gI (sI τ 0 24 (3 : Int32)) 0 23) + (1 : Int32)))) ∧ (¬ (gI (sI τ 0 24 (3 : Int32)) 0 24) = 0 → Q (sI τ 0 24 (3 : Int32))))) ∧ (¬ ((gI τ 0 23) + (1 : Int32)) = (24 : Int32) → (((gI τ 0 24) = 0 → Q (sI τ 0 23 ((gI τ 0 23) + (1 : Int32)))) ∧ (¬ (gI τ 0 24) = 0 → Q τ))))) ∧ (¬ (gI τ 0 24) = 0 → (((gI τ 0 24) = 0 → Q (sI τ 0 23 ((gI τ 0 23) + (1 : Int32)))) ∧ (¬ (gI τ 0 24) = 0 → Q τ))))) ∧ (¬ (gI τ 0 23) < x1 → (((gI τ 0 24) = 0 → wp_X10_hasAll x1 τ (fun r2 => ((r2 = 0 → L30 (x1 + (1 : Int32)) τ) ∧ (¬ r2 = 0 → (vp_in x1 25 ∧ L68 x1 (0 : Int32) (sI τ 0 31 (gI τ 14 (x1).toNatClampNeg))))))) ∧ (¬ (gI τ 0 24) = 0 → (((gI τ 0 24) = 0 → ((((gI τ 0 23) + (1 : Int32)) = (24 : Int32) → (((gI (sI τ 0 24 (3 : Int32)) 0 24) = 0 → Q (sI (sI τ 0 24 (3 : Int32)) 0 23 ((gI (sI τ 0 24 (3 : Int32)) 0 23) + (1 : Int32)))) ∧ (¬ (gI (sI τ 0 24 (3 : Int32)) 0 24) = 0 → Q (sI τ 0 24 (3 : Int32))))) ∧ (¬ ((gI τ 0 23) + (1 : Int32)) = (24 : Int32) → (((gI τ 0 24) = 0 → Q (sI τ 0 23 ((gI τ 0 23) + (1 : Int32)))) ∧ (¬ (gI τ 0 24) = 0 → Q τ))))) ∧ (¬ (gI τ 0 24) = 0 → (((gI τ 0 24) = 0 → Q (sI τ 0 23 ((gI τ 0 23) + (1 : Int32)))) ∧ (¬ (gI τ 0 24) = 0 → Q τ)))))))) → L30 x1 τ) →
  (∀ (x1 : Int32) (x2 : Int32) (τ : Sg), ((x2 < (gI τ 0 31) → (vp_in (((200 : Int32) * x1) + x2) 5000 ∧ (vp_in x2 200 ∧ (vp_in (((200 : Int32) * x1) + x2) 5000 ∧ (vp_in x2 200 ∧ L68 x1 (x2 + (1 : Int32)) (sI (sI τ 17 (x2).toNatClampNeg (gI τ 12 ((((200 : Int32) * x1) + x2)).toNatClampNeg)) 18 (x2).toNatClampNeg (gI (sI τ 17 (x2).toNatClampNeg (gI τ 12 ((((200 : Int32) * x1) + x2)).toNatClampNeg)) 13 ((((200 : Int32) * x1) + x2)).toNatClampNeg))))))) ∧ (¬ x2 < (gI τ 0 31) → L30 (x1 + (1 : Int32)) (sI τ 0 24 (1 : Int32)))) → L68 x1 x2 τ) →
  L2 (1 : Int32) σ
def wl_X10_pushAll : WP := fun As σ Q => p1r As (fun z0 r0 => onB (Nat.beq z0 0) (onB r0.isEmpty (wp_X10_pushAll  σ (fun τ => Q none τ))))
def tb_X10_pushAll : List (Nat × Instr × Nat) := [(0, (.iconst 1, 1)), (1, (.istore_n 1, 1)), (2, (.iload_n 1, 1)), (3, (.aload_n 0, 1)), (4, (.getfield 188, 3)), (7, (.if_icmp .gt 28, 3)), (10, (.aload_n 0, 1)), (11, (.getfield 191, 3)), (14, (.ifCond .ne 28, 3)), (17, (.aload_n 0, 1)), (18, (.iload_n 1, 1)), (19, (.invokevirtual 240, 3)), (22, (.iinc 1 1, 3)), (25, (.goto 2, 3)), (28, (.iconst 1, 1)), (29, (.istore_n 1, 1)), (30, (.iload_n 1, 1)), (31, (.aload_n 0, 1)), (32, (.getfield 188, 3)), (35, (.if_icmp .gt 129, 3)), (38, (.aload_n 0, 1)), (39, (.getfield 191, 3)), (42, (.ifCond .ne 129, 3)), (45, (.aload_n 0, 1)), (46, (.iload_n 1, 1)), (47, (.invokevirtual 244, 3)), (50, (.ifCond .ne 56, 3)), (53, (.goto 123, 3)), (56, (.aload_n 0, 1)), (57, (.aload_n 0, 1)), (58, (.getfield 54, 3)), (61, (.iload_n 1, 1)), (62, (.iaload, 1)), (63, (.putfield 69, 3)), (66, (.iconst 0, 1)), (67, (.istore_n 2, 1)), (68, (.iload_n 2, 1)), (69, (.aload_n 0, 1)), (70, (.getfield 69, 3)), (73, (.if_icmp .ge 118, 3)), (76, (.aload_n 0, 1)), (77, (.getfield 63, 3)), (80, (.iload_n 2, 1)), (81, (.aload_n 0, 1)), (82, (.getfield 48, 3)), (85, (.sipush 200, 3)), (88, (.iload_n 1, 1)), (89, (.imul, 1)), (90, (.iload_n 2, 1)), (91, (.iadd, 1)), (92, (.iaload, 1)), (93, (.iastore, 1)), (94, (.aload_n 0, 1)), (95, (.getfield 66, 3)), (98, (.iload_n 2, 1)), (99, (.aload_n 0, 1)), (100, (.getfield 51, 3)), (103, (.sipush 200, 3)), (106, (.iload_n 1, 1)), (107, (.imul, 1)), (108, (.iload_n 2, 1)), (109, (.iadd, 1)), (110, (.iaload, 1)), (111, (.iastore, 1)), (112, (.iinc 2 1, 3)), (115, (.goto 68, 3)), (118, (.aload_n 0, 1)), (119, (.iconst 1, 1)), (120, (.putfield 191, 3)), (123, (.iinc 1 1, 3)), (126, (.goto 30, 3)), (129, (.aload_n 0, 1)), (130, (.getfield 191, 3)), (133, (.ifCond .ne 152, 3)), (136, (.aload_n 0, 1)), (137, (.getfield 188, 3)), (140, (.iconst 1, 1)), (141, (.iadd, 1)), (142, (.bipush 24, 2)), (144, (.if_icmp .ne 152, 3)), (147, (.aload_n 0, 1)), (148, (.iconst 3, 1)), (149, (.putfield 191, 3)), (152, (.aload_n 0, 1)), (153, (.getfield 191, 3)), (156, (.ifCond .ne 169, 3)), (159, (.aload_n 0, 1)), (160, (.dup, 1)), (161, (.getfield 188, 3)), (164, (.iconst 1, 1)), (165, (.iadd, 1)), (166, (.putfield 188, 3)), (169, (.return_, 1))]
def ce_X10_pushAll : List (Nat × (Nat × Option Nat × WP)) := [(240, (2, some 10, wl_X10_push)), (244, (2, some 10, wl_X10_hasAll))]
set_option maxRecDepth 100000 in
set_option maxHeartbeats 4000000 in
theorem ct_X10_pushAll (l : Launch) : Con l wM yX10_pushAll cX10_pushAll 3 none 4 wl_X10_pushAll := by
  refine sxm_ok l (ft := lkp ft_RX10) (c32 := lkp c32_RX10) (c64 := lkp c64_RX10) (ce := lkp ce_X10_pushAll) (sf := lkp sf_RX10) (lab := lkp [(2, [0, 1]), (30, [0, 1]), (68, [0, 1, 2])]) (T := tb_X10_pushAll) (by decide +kernel) ft_RX10_ok c32_RX10_ok c64_RX10_ok (fun x q h => (show ∀ q ∈ ce_X10_pushAll, ceOK l wM RX10 4 q.1 q.2.1 q.2.2.1 q.2.2.2 from List.forall_mem_cons.mpr ⟨Or.inr (Or.inr (Or.inr ⟨yX10_push, cX10_push, 4, none, 3, ct_X10_push l, by decide, by decide, mi_X10_push.1, mi_X10_push.2, ml_RX10_240, mv_X10_push.1, mv_X10_push.2, ⟨_, _, rfl⟩, by decide, by decide +kernel⟩)), List.forall_mem_cons.mpr ⟨Or.inr (Or.inr (Or.inr ⟨yX10_hasAll, cX10_hasAll, 4, (some .boolean), 1, ct_X10_hasAll l, by decide, by decide, mi_X10_hasAll.1, mi_X10_hasAll.2, ml_RX10_244, mv_X10_hasAll.1, mv_X10_hasAll.2, ⟨_, _, rfl⟩, by decide, by decide +kernel⟩)), fun _ h => absurd h List.not_mem_nil⟩⟩) (x, q) (lkp_mem h)) sf_RX10_ok (by decide +kernel) 400 (fun As σ Q h => ?_)
  replace h := p1r_e h
  obtain ⟨z0, q0, rfl, h⟩ := h
  replace h := onB_e h
  obtain ⟨e0, h⟩ := h
  have e0 := Nat.eq_of_beq_eq_true e0
  subst e0
  replace h := onB_e h
  obtain ⟨e9, h⟩ := h
  have e9 := List.isEmpty_iff.mp e9
  subst e9
  refine ⟨Nat.le_of_ble_eq_true rfl, fun P hP => ?_⟩
  exact h (fun x1 τ => P 2 [.ref 0, .int x1] τ) (fun x1 τ => P 30 [.ref 0, .int x1] τ) (fun x1 x2 τ => P 68 [.ref 0, .int x1, .int x2] τ) (fun x1 τ hb => hP 2 [.ref 0, .int x1] τ hb) (fun x1 τ hb => hP 30 [.ref 0, .int x1] τ hb) (fun x1 x2 τ hb => hP 68 [.ref 0, .int x1, .int x2] τ hb)
def wp_X10_widen (x1 : Int32) (x2 : Int32) (x3 : Int32) (σ : Sg) (Q : Int32 → Sg → Prop) : Prop :=
  wp_X10_isFrame x1 σ (fun r1 => ((r1 = 0 → wp_X10_no (-3 : Int32) σ (fun r2 s3 => Q r2 s3)) ∧ (¬ r1 = 0 → wp_X10_isCube x2 x3 σ (fun r4 => ((r4 = 0 → wp_X10_no (-7 : Int32) σ (fun r5 s6 => Q r5 s6)) ∧ (¬ r4 = 0 → wp_X10_isInCube (gI σ 0 8) x2 x3 σ (fun r7 => ((r7 = 0 → wp_X10_table σ (fun s8 => wp_X10_asked (x1 - (1 : Int32)) x2 x3 s8 (fun r9 => ((r9 < 0 → wp_X10_widened x1 x2 x3 s8 (fun r10 => Q r10 s8)) ∧ (¬ r9 < 0 → wp_X10_no (-7 : Int32) s8 (fun r11 s12 => Q r11 s12)))))) ∧ (¬ r7 = 0 → wp_X10_no (-7 : Int32) σ (fun r13 s14 => Q r13 s14))))))))))
def wl_X10_widen : WP := fun As σ Q => p1r As (fun z0 r0 => onB (Nat.beq z0 0) (p1i r0 (fun x1 r1 => p1i r1 (fun x2 r2 => p1i r2 (fun x3 r3 => onB r3.isEmpty (wp_X10_widen x1 x2 x3 σ (fun x τ => Q (some (.int x)) τ)))))))
def tb_X10_widen : List (Nat × Instr × Nat) := [(0, (.iload_n 1, 1)), (1, (.invokestatic 261, 3)), (4, (.ifCond .ne 14, 3)), (7, (.aload_n 0, 1)), (8, (.bipush (-3), 2)), (10, (.invokevirtual 118, 3)), (13, (.ireturn, 1)), (14, (.aload_n 0, 1)), (15, (.iload_n 2, 1)), (16, (.iload_n 3, 1)), (17, (.invokevirtual 266, 3)), (20, (.ifCond .eq 35, 3)), (23, (.aload_n 0, 1)), (24, (.getfield 122, 3)), (27, (.iload_n 2, 1)), (28, (.iload_n 3, 1)), (29, (.invokestatic 200, 3)), (32, (.ifCond .eq 42, 3)), (35, (.aload_n 0, 1)), (36, (.bipush (-7), 2)), (38, (.invokevirtual 118, 3)), (41, (.ireturn, 1)), (42, (.aload_n 0, 1)), (43, (.invokevirtual 182, 3)), (46, (.aload_n 0, 1)), (47, (.iload_n 1, 1)), (48, (.iconst 1, 1)), (49, (.isub, 1)), (50, (.iload_n 2, 1)), (51, (.iload_n 3, 1)), (52, (.invokevirtual 211, 3)), (55, (.ifCond .lt 67, 3)), (58, (.aload_n 0, 1)), (59, (.bipush (-7), 2)), (61, (.invokevirtual 118, 3)), (64, (.goto 74, 3)), (67, (.aload_n 0, 1)), (68, (.iload_n 1, 1)), (69, (.iload_n 2, 1)), (70, (.iload_n 3, 1)), (71, (.invokevirtual 227, 3)), (74, (.ireturn, 1))]
def ce_X10_widen : List (Nat × (Nat × Option Nat × WP)) := [(261, (1, none, wl_X10_isFrame)), (118, (2, some 10, wl_X10_no)), (266, (3, some 10, wl_X10_isCube)), (200, (3, none, wl_X10_isInCube)), (182, (1, some 10, wl_X10_table)), (211, (4, some 10, wl_X10_asked)), (227, (4, some 10, wl_X10_widened))]
set_option maxRecDepth 100000 in
set_option maxHeartbeats 4000000 in
theorem ct_X10_widen (l : Launch) : Con l wM yX10_widen cX10_widen 4 (some .int) 4 wl_X10_widen := by
  refine sxm_ok l (ft := lkp ft_RX10) (c32 := lkp c32_RX10) (c64 := lkp c64_RX10) (ce := lkp ce_X10_widen) (sf := lkp sf_RX10) (lab := lkp []) (T := tb_X10_widen) (by decide +kernel) ft_RX10_ok c32_RX10_ok c64_RX10_ok (fun x q h => (show ∀ q ∈ ce_X10_widen, ceOK l wM RX10 4 q.1 q.2.1 q.2.2.1 q.2.2.2 from List.forall_mem_cons.mpr ⟨Or.inr (Or.inr (Or.inr ⟨yX10_isFrame, cX10_isFrame, 1, (some .boolean), 0, ct_X10_isFrame l, by decide, by decide, mi_X10_isFrame.1, mi_X10_isFrame.2, Or.inl ml_RX10_261, ms_X10_isFrame, by decide +kernel⟩)), List.forall_mem_cons.mpr ⟨Or.inr (Or.inr (Or.inr ⟨yX10_no, cX10_no, 2, (some .int), 0, ct_X10_no l, by decide, by decide, mi_X10_no.1, mi_X10_no.2, ml_RX10_118, mv_X10_no.1, mv_X10_no.2, ⟨_, _, rfl⟩, by decide, by decide +kernel⟩)), List.forall_mem_cons.mpr ⟨Or.inr (Or.inr (Or.inr ⟨yX10_isCube, cX10_isCube, 3, (some .boolean), 1, ct_X10_isCube l, by decide, by decide, mi_X10_isCube.1, mi_X10_isCube.2, ml_RX10_266, mv_X10_isCube.1, mv_X10_isCube.2, ⟨_, _, rfl⟩, by decide, by decide +kernel⟩)), List.forall_mem_cons.mpr ⟨Or.inr (Or.inr (Or.inr ⟨yX10_isInCube, cX10_isInCube, 3, (some .boolean), 0, ct_X10_isInCube l, by decide, by decide, mi_X10_isInCube.1, mi_X10_isInCube.2, Or.inl ml_RX10_200, ms_X10_isInCube, by decide +kernel⟩)), List.forall_mem_cons.mpr ⟨Or.inr (Or.inr (Or.inr ⟨yX10_table, cX10_table, 5, none, 2, ct_X10_table l, by decide, by decide, mi_X10_table.1, mi_X10_table.2, ml_RX10_182, mv_X10_table.1, mv_X10_table.2, ⟨_, _, rfl⟩, by decide, by decide +kernel⟩)), List.forall_mem_cons.mpr ⟨Or.inr (Or.inr (Or.inr ⟨yX10_asked, cX10_asked, 5, (some .int), 2, ct_X10_asked l, by decide, by decide, mi_X10_asked.1, mi_X10_asked.2, ml_RX10_211, mv_X10_asked.1, mv_X10_asked.2, ⟨_, _, rfl⟩, by decide, by decide +kernel⟩)), List.forall_mem_cons.mpr ⟨Or.inr (Or.inr (Or.inr ⟨yX10_widened, cX10_widened, 7, (some .int), 3, ct_X10_widened l, by decide, by decide, mi_X10_widened.1, mi_X10_widened.2, ml_RX10_227, mv_X10_widened.1, mv_X10_widened.2, ⟨_, _, rfl⟩, by decide, by decide +kernel⟩)), fun _ h => absurd h List.not_mem_nil⟩⟩⟩⟩⟩⟩⟩) (x, q) (lkp_mem h)) sf_RX10_ok (by decide +kernel) 400 (fun As σ Q h => ?_)
  replace h := p1r_e h
  obtain ⟨z0, q0, rfl, h⟩ := h
  replace h := onB_e h
  obtain ⟨e0, h⟩ := h
  have e0 := Nat.eq_of_beq_eq_true e0
  subst e0
  replace h := p1i_e h
  obtain ⟨x1, q1, rfl, h⟩ := h
  replace h := p1i_e h
  obtain ⟨x2, q2, rfl, h⟩ := h
  replace h := p1i_e h
  obtain ⟨x3, q3, rfl, h⟩ := h
  replace h := onB_e h
  obtain ⟨e9, h⟩ := h
  have e9 := List.isEmpty_iff.mp e9
  subst e9
  refine ⟨Nat.le_of_ble_eq_true rfl, fun P hP => ?_⟩
  exact h 
def wp_X10_shortest  (σ : Sg) (Q : Int32 → Sg → Prop) : Prop :=
  ∀ L12 : Int32 → Int32 → Sg → Prop,
  (∀ (x1 : Int32) (x2 : Int32) (τ : Sg), wp_X10_states τ (fun r1 => ((x2 < r1 → (vp_in x2 256 ∧ (((gI τ 20 (x2).toNatClampNeg) < 0 → L12 x1 (x2 + (1 : Int32)) τ) ∧ (¬ (gI τ 20 (x2).toNatClampNeg) < 0 → wp_X10_isBadState x2 τ (fun r2 => ((r2 = 0 → L12 x1 (x2 + (1 : Int32)) τ) ∧ (¬ r2 = 0 → ((x1 < 0 → (vp_in x2 256 ∧ L12 (gI τ 20 (x2).toNatClampNeg) (x2 + (1 : Int32)) τ)) ∧ (¬ x1 < 0 → (vp_in x2 256 ∧ (((gI τ 20 (x2).toNatClampNeg) < x1 → (vp_in x2 256 ∧ L12 (gI τ 20 (x2).toNatClampNeg) (x2 + (1 : Int32)) τ)) ∧ (¬ (gI τ 20 (x2).toNatClampNeg) < x1 → L12 x1 (x2 + (1 : Int32)) τ)))))))))))) ∧ (¬ x2 < r1 → Q x1 τ))) → L12 x1 x2 τ) →
  wp_X10_findFar (gI σ 0 8) σ (fun s3 => L12 (-1 : Int32) (0 : Int32) s3)
def wl_X10_shortest : WP := fun As σ Q => p1r As (fun z0 r0 => onB (Nat.beq z0 0) (onB r0.isEmpty (wp_X10_shortest  σ (fun x τ => Q (some (.int x)) τ))))
def tb_X10_shortest : List (Nat × Instr × Nat) := [(0, (.aload_n 0, 1)), (1, (.aload_n 0, 1)), (2, (.getfield 122, 3)), (5, (.invokevirtual 269, 3)), (8, (.iconst (-1), 1)), (9, (.istore_n 1, 1)), (10, (.iconst 0, 1)), (11, (.istore_n 2, 1)), (12, (.iload_n 2, 1)), (13, (.aload_n 0, 1)), (14, (.invokevirtual 161, 3)), (17, (.if_icmp .ge 64, 3)), (20, (.aload_n 0, 1)), (21, (.getfield 75, 3)), (24, (.iload_n 2, 1)), (25, (.iaload, 1)), (26, (.ifCond .lt 58, 3)), (29, (.aload_n 0, 1)), (30, (.iload_n 2, 1)), (31, (.invokevirtual 247, 3)), (34, (.ifCond .eq 58, 3)), (37, (.iload_n 1, 1)), (38, (.ifCond .lt 51, 3)), (41, (.aload_n 0, 1)), (42, (.getfield 75, 3)), (45, (.iload_n 2, 1)), (46, (.iaload, 1)), (47, (.iload_n 1, 1)), (48, (.if_icmp .ge 58, 3)), (51, (.aload_n 0, 1)), (52, (.getfield 75, 3)), (55, (.iload_n 2, 1)), (56, (.iaload, 1)), (57, (.istore_n 1, 1)), (58, (.iinc 2 1, 3)), (61, (.goto 12, 3)), (64, (.iload_n 1, 1)), (65, (.ireturn, 1))]
def ce_X10_shortest : List (Nat × (Nat × Option Nat × WP)) := [(269, (2, some 10, wl_X10_findFar)), (161, (1, some 10, wl_X10_states)), (247, (2, some 10, wl_X10_isBadState))]
set_option maxRecDepth 100000 in
set_option maxHeartbeats 4000000 in
theorem ct_X10_shortest (l : Launch) : Con l wM yX10_shortest cX10_shortest 3 (some .int) 4 wl_X10_shortest := by
  refine sxm_ok l (ft := lkp ft_RX10) (c32 := lkp c32_RX10) (c64 := lkp c64_RX10) (ce := lkp ce_X10_shortest) (sf := lkp sf_RX10) (lab := lkp [(12, [0, 1, 2])]) (T := tb_X10_shortest) (by decide +kernel) ft_RX10_ok c32_RX10_ok c64_RX10_ok (fun x q h => (show ∀ q ∈ ce_X10_shortest, ceOK l wM RX10 4 q.1 q.2.1 q.2.2.1 q.2.2.2 from List.forall_mem_cons.mpr ⟨Or.inr (Or.inr (Or.inr ⟨yX10_findFar, cX10_findFar, 6, none, 3, ct_X10_findFar l, by decide, by decide, mi_X10_findFar.1, mi_X10_findFar.2, ml_RX10_269, mv_X10_findFar.1, mv_X10_findFar.2, ⟨_, _, rfl⟩, by decide, by decide +kernel⟩)), List.forall_mem_cons.mpr ⟨Or.inr (Or.inr (Or.inr ⟨yX10_states, cX10_states, 1, (some .int), 0, ct_X10_states l, by decide, by decide, mi_X10_states.1, mi_X10_states.2, ml_RX10_161, mv_X10_states.1, mv_X10_states.2, ⟨_, _, rfl⟩, by decide, by decide +kernel⟩)), List.forall_mem_cons.mpr ⟨Or.inr (Or.inr (Or.inr ⟨yX10_isBadState, cX10_isBadState, 4, (some .boolean), 1, ct_X10_isBadState l, by decide, by decide, mi_X10_isBadState.1, mi_X10_isBadState.2, ml_RX10_247, mv_X10_isBadState.1, mv_X10_isBadState.2, ⟨_, _, rfl⟩, by decide, by decide +kernel⟩)), fun _ h => absurd h List.not_mem_nil⟩⟩⟩) (x, q) (lkp_mem h)) sf_RX10_ok (by decide +kernel) 400 (fun As σ Q h => ?_)
  replace h := p1r_e h
  obtain ⟨z0, q0, rfl, h⟩ := h
  replace h := onB_e h
  obtain ⟨e0, h⟩ := h
  have e0 := Nat.eq_of_beq_eq_true e0
  subst e0
  replace h := onB_e h
  obtain ⟨e9, h⟩ := h
  have e9 := List.isEmpty_iff.mp e9
  subst e9
  refine ⟨Nat.le_of_ble_eq_true rfl, fun P hP => ?_⟩
  exact h (fun x1 x2 τ => P 12 [.ref 0, .int x1, .int x2] τ) (fun x1 x2 τ hb => hP 12 [.ref 0, .int x1, .int x2] τ hb)
def wp_X10_within (x1 : Int32) (σ : Sg) (Q : Int32 → Sg → Prop) : Prop :=
  ∀ L23 : Int32 → Int32 → Sg → Prop,
  (∀ (x2 : Int32) (x3 : Int32) (τ : Sg), wp_X10_states τ (fun r1 => ((x3 < r1 → (vp_in x3 256 ∧ (((gI τ 20 (x3).toNatClampNeg) < 0 → L23 (x2 + (0 : Int32)) (x3 + (1 : Int32)) τ) ∧ (¬ (gI τ 20 (x3).toNatClampNeg) < 0 → (vp_in x3 256 ∧ ((x1 < (gI τ 20 (x3).toNatClampNeg) → L23 (x2 + (0 : Int32)) (x3 + (1 : Int32)) τ) ∧ (¬ x1 < (gI τ 20 (x3).toNatClampNeg) → L23 (x2 + (1 : Int32)) (x3 + (1 : Int32)) τ))))))) ∧ (¬ x3 < r1 → Q x2 τ))) → L23 x2 x3 τ) →
  ((x1 < 0 → wp_X10_no (-4 : Int32) σ (fun r2 s3 => Q r2 s3)) ∧ (¬ x1 < 0 → wp_X10_findFar (gI σ 0 8) σ (fun s4 => L23 (0 : Int32) (0 : Int32) s4)))
def wl_X10_within : WP := fun As σ Q => p1r As (fun z0 r0 => onB (Nat.beq z0 0) (p1i r0 (fun x1 r1 => onB r1.isEmpty (wp_X10_within x1 σ (fun x τ => Q (some (.int x)) τ)))))
def tb_X10_within : List (Nat × Instr × Nat) := [(0, (.iload_n 1, 1)), (1, (.ifCond .ge 11, 3)), (4, (.aload_n 0, 1)), (5, (.bipush (-4), 2)), (7, (.invokevirtual 118, 3)), (10, (.ireturn, 1)), (11, (.aload_n 0, 1)), (12, (.aload_n 0, 1)), (13, (.getfield 122, 3)), (16, (.invokevirtual 269, 3)), (19, (.iconst 0, 1)), (20, (.istore_n 2, 1)), (21, (.iconst 0, 1)), (22, (.istore_n 3, 1)), (23, (.iload_n 3, 1)), (24, (.aload_n 0, 1)), (25, (.invokevirtual 161, 3)), (28, (.if_icmp .ge 64, 3)), (31, (.iload_n 2, 1)), (32, (.aload_n 0, 1)), (33, (.getfield 75, 3)), (36, (.iload_n 3, 1)), (37, (.iaload, 1)), (38, (.ifCond .lt 55, 3)), (41, (.aload_n 0, 1)), (42, (.getfield 75, 3)), (45, (.iload_n 3, 1)), (46, (.iaload, 1)), (47, (.iload_n 1, 1)), (48, (.if_icmp .gt 55, 3)), (51, (.iconst 1, 1)), (52, (.goto 56, 3)), (55, (.iconst 0, 1)), (56, (.iadd, 1)), (57, (.istore_n 2, 1)), (58, (.iinc 3 1, 3)), (61, (.goto 23, 3)), (64, (.iload_n 2, 1)), (65, (.ireturn, 1))]
def ce_X10_within : List (Nat × (Nat × Option Nat × WP)) := [(118, (2, some 10, wl_X10_no)), (269, (2, some 10, wl_X10_findFar)), (161, (1, some 10, wl_X10_states))]
set_option maxRecDepth 100000 in
set_option maxHeartbeats 4000000 in
theorem ct_X10_within (l : Launch) : Con l wM yX10_within cX10_within 4 (some .int) 4 wl_X10_within := by
  refine sxm_ok l (ft := lkp ft_RX10) (c32 := lkp c32_RX10) (c64 := lkp c64_RX10) (ce := lkp ce_X10_within) (sf := lkp sf_RX10) (lab := lkp [(23, [0, 1, 2, 3])]) (T := tb_X10_within) (by decide +kernel) ft_RX10_ok c32_RX10_ok c64_RX10_ok (fun x q h => (show ∀ q ∈ ce_X10_within, ceOK l wM RX10 4 q.1 q.2.1 q.2.2.1 q.2.2.2 from List.forall_mem_cons.mpr ⟨Or.inr (Or.inr (Or.inr ⟨yX10_no, cX10_no, 2, (some .int), 0, ct_X10_no l, by decide, by decide, mi_X10_no.1, mi_X10_no.2, ml_RX10_118, mv_X10_no.1, mv_X10_no.2, ⟨_, _, rfl⟩, by decide, by decide +kernel⟩)), List.forall_mem_cons.mpr ⟨Or.inr (Or.inr (Or.inr ⟨yX10_findFar, cX10_findFar, 6, none, 3, ct_X10_findFar l, by decide, by decide, mi_X10_findFar.1, mi_X10_findFar.2, ml_RX10_269, mv_X10_findFar.1, mv_X10_findFar.2, ⟨_, _, rfl⟩, by decide, by decide +kernel⟩)), List.forall_mem_cons.mpr ⟨Or.inr (Or.inr (Or.inr ⟨yX10_states, cX10_states, 1, (some .int), 0, ct_X10_states l, by decide, by decide, mi_X10_states.1, mi_X10_states.2, ml_RX10_161, mv_X10_states.1, mv_X10_states.2, ⟨_, _, rfl⟩, by decide, by decide +kernel⟩)), fun _ h => absurd h List.not_mem_nil⟩⟩⟩) (x, q) (lkp_mem h)) sf_RX10_ok (by decide +kernel) 400 (fun As σ Q h => ?_)
  replace h := p1r_e h
  obtain ⟨z0, q0, rfl, h⟩ := h
  replace h := onB_e h
  obtain ⟨e0, h⟩ := h
  have e0 := Nat.eq_of_beq_eq_true e0
  subst e0
  replace h := p1i_e h
  obtain ⟨x1, q1, rfl, h⟩ := h
  replace h := onB_e h
  obtain ⟨e9, h⟩ := h
  have e9 := List.isEmpty_iff.mp e9
  subst e9
  refine ⟨Nat.le_of_ble_eq_true rfl, fun P hP => ?_⟩
  exact h (fun x2 x3 τ => P 23 [.ref 0, .int x1, .int x2, .int x3] τ) (fun x2 x3 τ hb => hP 23 [.ref 0, .int x1, .int x2, .int x3] τ hb)
def wp_X10_keeps (x1 : Int32) (σ : Sg) (Q : Int32 → Sg → Prop) : Prop :=
  ∀ L26 : Int32 → Int32 → Sg → Prop,
  (∀ (x2 : Int32) (x3 : Int32) (τ : Sg), wp_X10_states τ (fun r1 => ((x3 < r1 → ((x2 = 0 → L26 (0 : Int32) (x3 + (1 : Int32)) τ) ∧ (¬ x2 = 0 → (vp_in x3 256 ∧ (((gI τ 20 (x3).toNatClampNeg) < 0 → L26 (1 : Int32) (x3 + (1 : Int32)) τ) ∧ (¬ (gI τ 20 (x3).toNatClampNeg) < 0 → (vp_in x3 256 ∧ ((x1 < (gI τ 20 (x3).toNatClampNeg) → L26 (1 : Int32) (x3 + (1 : Int32)) τ) ∧ (¬ x1 < (gI τ 20 (x3).toNatClampNeg) → wp_X10_isInFrame x3 x1 τ (fun r2 => ((r2 = 0 → L26 (0 : Int32) (x3 + (1 : Int32)) τ) ∧ (¬ r2 = 0 → L26 (1 : Int32) (x3 + (1 : Int32)) τ)))))))))))) ∧ (¬ x3 < r1 → ((x2 = 0 → Q (0 : Int32) τ) ∧ (¬ x2 = 0 → Q (1 : Int32) τ))))) → L26 x2 x3 τ) →
  wp_X10_isFrame x1 σ (fun r3 => ((r3 = 0 → wp_X10_no (-3 : Int32) σ (fun r4 s5 => Q r4 s5)) ∧ (¬ r3 = 0 → wp_X10_findFar (gI σ 0 8) σ (fun s6 => L26 (1 : Int32) (0 : Int32) s6))))
def wl_X10_keeps : WP := fun As σ Q => p1r As (fun z0 r0 => onB (Nat.beq z0 0) (p1i r0 (fun x1 r1 => onB r1.isEmpty (wp_X10_keeps x1 σ (fun x τ => Q (some (.int x)) τ)))))
def tb_X10_keeps : List (Nat × Instr × Nat) := [(0, (.iload_n 1, 1)), (1, (.invokestatic 261, 3)), (4, (.ifCond .ne 14, 3)), (7, (.aload_n 0, 1)), (8, (.bipush (-3), 2)), (10, (.invokevirtual 118, 3)), (13, (.ireturn, 1)), (14, (.aload_n 0, 1)), (15, (.aload_n 0, 1)), (16, (.getfield 122, 3)), (19, (.invokevirtual 269, 3)), (22, (.iconst 1, 1)), (23, (.istore_n 2, 1)), (24, (.iconst 0, 1)), (25, (.istore_n 3, 1)), (26, (.iload_n 3, 1)), (27, (.aload_n 0, 1)), (28, (.invokevirtual 161, 3)), (31, (.if_icmp .ge 78, 3)), (34, (.iload_n 2, 1)), (35, (.ifCond .eq 70, 3)), (38, (.aload_n 0, 1)), (39, (.getfield 75, 3)), (42, (.iload_n 3, 1)), (43, (.iaload, 1)), (44, (.ifCond .lt 66, 3)), (47, (.aload_n 0, 1)), (48, (.getfield 75, 3)), (51, (.iload_n 3, 1)), (52, (.iaload, 1)), (53, (.iload_n 1, 1)), (54, (.if_icmp .gt 66, 3)), (57, (.aload_n 0, 1)), (58, (.iload_n 3, 1)), (59, (.iload_n 1, 1)), (60, (.invokevirtual 204, 3)), (63, (.ifCond .eq 70, 3)), (66, (.iconst 1, 1)), (67, (.goto 71, 3)), (70, (.iconst 0, 1)), (71, (.istore_n 2, 1)), (72, (.iinc 3 1, 3)), (75, (.goto 26, 3)), (78, (.iload_n 2, 1)), (79, (.ifCond .eq 86, 3)), (82, (.iconst 1, 1)), (83, (.goto 87, 3)), (86, (.iconst 0, 1)), (87, (.ireturn, 1))]
def ce_X10_keeps : List (Nat × (Nat × Option Nat × WP)) := [(261, (1, none, wl_X10_isFrame)), (118, (2, some 10, wl_X10_no)), (269, (2, some 10, wl_X10_findFar)), (161, (1, some 10, wl_X10_states)), (204, (3, some 10, wl_X10_isInFrame))]
set_option maxRecDepth 100000 in
set_option maxHeartbeats 4000000 in
theorem ct_X10_keeps (l : Launch) : Con l wM yX10_keeps cX10_keeps 4 (some .int) 4 wl_X10_keeps := by
  refine sxm_ok l (ft := lkp ft_RX10) (c32 := lkp c32_RX10) (c64 := lkp c64_RX10) (ce := lkp ce_X10_keeps) (sf := lkp sf_RX10) (lab := lkp [(26, [0, 1, 2, 3])]) (T := tb_X10_keeps) (by decide +kernel) ft_RX10_ok c32_RX10_ok c64_RX10_ok (fun x q h => (show ∀ q ∈ ce_X10_keeps, ceOK l wM RX10 4 q.1 q.2.1 q.2.2.1 q.2.2.2 from List.forall_mem_cons.mpr ⟨Or.inr (Or.inr (Or.inr ⟨yX10_isFrame, cX10_isFrame, 1, (some .boolean), 0, ct_X10_isFrame l, by decide, by decide, mi_X10_isFrame.1, mi_X10_isFrame.2, Or.inl ml_RX10_261, ms_X10_isFrame, by decide +kernel⟩)), List.forall_mem_cons.mpr ⟨Or.inr (Or.inr (Or.inr ⟨yX10_no, cX10_no, 2, (some .int), 0, ct_X10_no l, by decide, by decide, mi_X10_no.1, mi_X10_no.2, ml_RX10_118, mv_X10_no.1, mv_X10_no.2, ⟨_, _, rfl⟩, by decide, by decide +kernel⟩)), List.forall_mem_cons.mpr ⟨Or.inr (Or.inr (Or.inr ⟨yX10_findFar, cX10_findFar, 6, none, 3, ct_X10_findFar l, by decide, by decide, mi_X10_findFar.1, mi_X10_findFar.2, ml_RX10_269, mv_X10_findFar.1, mv_X10_findFar.2, ⟨_, _, rfl⟩, by decide, by decide +kernel⟩)), List.forall_mem_cons.mpr ⟨Or.inr (Or.inr (Or.inr ⟨yX10_states, cX10_states, 1, (some .int), 0, ct_X10_states l, by decide, by decide, mi_X10_states.1, mi_X10_states.2, ml_RX10_161, mv_X10_states.1, mv_X10_states.2, ⟨_, _, rfl⟩, by decide, by decide +kernel⟩)), List.forall_mem_cons.mpr ⟨Or.inr (Or.inr (Or.inr ⟨yX10_isInFrame, cX10_isInFrame, 4, (some .boolean), 1, ct_X10_isInFrame l, by decide, by decide, mi_X10_isInFrame.1, mi_X10_isInFrame.2, ml_RX10_204, mv_X10_isInFrame.1, mv_X10_isInFrame.2, ⟨_, _, rfl⟩, by decide, by decide +kernel⟩)), fun _ h => absurd h List.not_mem_nil⟩⟩⟩⟩⟩) (x, q) (lkp_mem h)) sf_RX10_ok (by decide +kernel) 400 (fun As σ Q h => ?_)
  replace h := p1r_e h
  obtain ⟨z0, q0, rfl, h⟩ := h
  replace h := onB_e h
  obtain ⟨e0, h⟩ := h
  have e0 := Nat.eq_of_beq_eq_true e0
  subst e0
  replace h := p1i_e h
  obtain ⟨x1, q1, rfl, h⟩ := h
  replace h := onB_e h
  obtain ⟨e9, h⟩ := h
  have e9 := List.isEmpty_iff.mp e9
  subst e9
  refine ⟨Nat.le_of_ble_eq_true rfl, fun P hP => ?_⟩
  exact h (fun x2 x3 τ => P 26 [.ref 0, .int x1, .int x2, .int x3] τ) (fun x2 x3 τ hb => hP 26 [.ref 0, .int x1, .int x2, .int x3] τ hb)
def wp_X10_live  (σ : Sg) (Q : Int32 → Sg → Prop) : Prop :=
  ∀ L6 : Int32 → Sg → Prop,
  (∀ (x1 : Int32) (τ : Sg), wp_X10_states τ (fun r1 => ((x1 < r1 → (vp_in (((256 : Int32) * x1) + x1) 65536 ∧ (((gI τ 22 ((((256 : Int32) * x1) + x1)).toNatClampNeg) = 0 → (((0 : Int32) = 0 → L6 (x1 + (1 : Int32)) τ) ∧ (¬ (0 : Int32) = 0 → wp_X10_fairAround x1 τ (fun r2 => ((r2 = (((1 : Int32) <<< ((gI τ 0 11) &&& 31)) - (1 : Int32)) → Q x1 τ) ∧ (¬ r2 = (((1 : Int32) <<< ((gI τ 0 11) &&& 31)) - (1 : Int32)) → L6 (x1 + (1 : Int32)) τ)))))) ∧ (¬ (gI τ 22 ((((256 : Int32) * x1) + x1)).toNatClampNeg) = 0 → ((x1 = (gI τ 0 8) → (((1 : Int32) = 0 → L6 (x1 + (1 : Int32)) τ) ∧ (¬ (1 : Int32) = 0 → wp_X10_fairAround x1 τ (fun r3 => ((r3 = (((1 : Int32) <<< ((gI τ 0 11) &&& 31)) - (1 : Int32)) → Q x1 τ) ∧ (¬ r3 = (((1 : Int32) <<< ((gI τ 0 11) &&& 31)) - (1 : Int32)) → L6 (x1 + (1 : Int32)) τ)))))) ∧ (¬ x1 = (gI τ 0 8) → (vp_in (((256 : Int32) * (gI τ 0 8)) + x1) 65536 ∧ (((gI τ 22 ((((256 : Int32) * (gI τ 0 8)) + x1)).toNatClampNeg) = 0 → (((0 : Int32) = 0 → L6 (x1 + (1 : Int32)) τ) ∧ (¬ (0 : Int32) = 0 → wp_X10_fairAround x1 τ (fun r4 => ((r4 = (((1 : Int32) <<< ((gI τ 0 11) &&& 31)) - (1 : Int32)) → Q x1 τ) ∧ (¬ r4 = (((1 : Int32) <<< ((gI τ 0 11) &&& 31)) - (1 : Int32)) → L6 (x1 + (1 : Int32)) τ)))))) ∧ (¬ (gI τ 22 ((((256 : Int32) * (gI τ 0 8)) + x1)).toNatClampNeg) = 0 → (((1 : Int32) = 0 → L6 (x1 + (1 : Int32)) τ) ∧ (¬ (1 : Int32) = 0 → wp_X10_fairAround x1 τ (fun r5 => ((r5 = (((1 : Int32) <<< ((gI τ 0 11) &&& 31)) - (1 : Int32)) → Q x1 τ) ∧ (¬ r5 = (((1 : Int32) <<< ((gI τ 0 11) &&& 31)) - (1 : Int32)) → L6 (x1 + (1 : Int32)) τ)))))))))))))) ∧ (¬ x1 < r1 → Q (-1 : Int32) τ))) → L6 x1 τ) →
  wp_X10_findComes σ (fun s6 => L6 (0 : Int32) s6)
def wl_X10_live : WP := fun As σ Q => p1r As (fun z0 r0 => onB (Nat.beq z0 0) (onB r0.isEmpty (wp_X10_live  σ (fun x τ => Q (some (.int x)) τ))))
def tb_X10_live : List (Nat × Instr × Nat) := [(0, (.aload_n 0, 1)), (1, (.invokevirtual 272, 3)), (4, (.iconst 0, 1)), (5, (.istore_n 1, 1)), (6, (.iload_n 1, 1)), (7, (.aload_n 0, 1)), (8, (.invokevirtual 161, 3)), (11, (.if_icmp .ge 89, 3)), (14, (.aload_n 0, 1)), (15, (.getfield 82, 3)), (18, (.sipush 256, 3)), (21, (.iload_n 1, 1)), (22, (.imul, 1)), (23, (.iload_n 1, 1)), (24, (.iadd, 1)), (25, (.baload, 1)), (26, (.ifCond .eq 59, 3)), (29, (.iload_n 1, 1)), (30, (.aload_n 0, 1)), (31, (.getfield 122, 3)), (34, (.if_icmp .eq 55, 3)), (37, (.aload_n 0, 1)), (38, (.getfield 82, 3)), (41, (.sipush 256, 3)), (44, (.aload_n 0, 1)), (45, (.getfield 122, 3)), (48, (.imul, 1)), (49, (.iload_n 1, 1)), (50, (.iadd, 1)), (51, (.baload, 1)), (52, (.ifCond .eq 59, 3)), (55, (.iconst 1, 1)), (56, (.goto 60, 3)), (59, (.iconst 0, 1)), (60, (.istore_n 2, 1)), (61, (.iload_n 2, 1)), (62, (.ifCond .eq 83, 3)), (65, (.aload_n 0, 1)), (66, (.iload_n 1, 1)), (67, (.invokevirtual 275, 3)), (70, (.iconst 1, 1)), (71, (.aload_n 0, 1)), (72, (.getfield 140, 3)), (75, (.ishl, 1)), (76, (.iconst 1, 1)), (77, (.isub, 1)), (78, (.if_icmp .ne 83, 3)), (81, (.iload_n 1, 1)), (82, (.ireturn, 1)), (83, (.iinc 1 1, 3)), (86, (.goto 6, 3)), (89, (.iconst (-1), 1)), (90, (.ireturn, 1))]
def ce_X10_live : List (Nat × (Nat × Option Nat × WP)) := [(272, (1, some 10, wl_X10_findComes)), (161, (1, some 10, wl_X10_states)), (275, (2, some 10, wl_X10_fairAround))]
set_option maxRecDepth 100000 in
set_option maxHeartbeats 4000000 in
theorem ct_X10_live (l : Launch) : Con l wM yX10_live cX10_live 3 (some .int) 4 wl_X10_live := by
  refine sxm_ok l (ft := lkp ft_RX10) (c32 := lkp c32_RX10) (c64 := lkp c64_RX10) (ce := lkp ce_X10_live) (sf := lkp sf_RX10) (lab := lkp [(6, [0, 1])]) (T := tb_X10_live) (by decide +kernel) ft_RX10_ok c32_RX10_ok c64_RX10_ok (fun x q h => (show ∀ q ∈ ce_X10_live, ceOK l wM RX10 4 q.1 q.2.1 q.2.2.1 q.2.2.2 from List.forall_mem_cons.mpr ⟨Or.inr (Or.inr (Or.inr ⟨yX10_findComes, cX10_findComes, 4, none, 3, ct_X10_findComes l, by decide, by decide, mi_X10_findComes.1, mi_X10_findComes.2, ml_RX10_272, mv_X10_findComes.1, mv_X10_findComes.2, ⟨_, _, rfl⟩, by decide, by decide +kernel⟩)), List.forall_mem_cons.mpr ⟨Or.inr (Or.inr (Or.inr ⟨yX10_states, cX10_states, 1, (some .int), 0, ct_X10_states l, by decide, by decide, mi_X10_states.1, mi_X10_states.2, ml_RX10_161, mv_X10_states.1, mv_X10_states.2, ⟨_, _, rfl⟩, by decide, by decide +kernel⟩)), List.forall_mem_cons.mpr ⟨Or.inr (Or.inr (Or.inr ⟨yX10_fairAround, cX10_fairAround, 6, (some .int), 1, ct_X10_fairAround l, by decide, by decide, mi_X10_fairAround.1, mi_X10_fairAround.2, ml_RX10_275, mv_X10_fairAround.1, mv_X10_fairAround.2, ⟨_, _, rfl⟩, by decide, by decide +kernel⟩)), fun _ h => absurd h List.not_mem_nil⟩⟩⟩) (x, q) (lkp_mem h)) sf_RX10_ok (by decide +kernel) 400 (fun As σ Q h => ?_)
  replace h := p1r_e h
  obtain ⟨z0, q0, rfl, h⟩ := h
  replace h := onB_e h
  obtain ⟨e0, h⟩ := h
  have e0 := Nat.eq_of_beq_eq_true e0
  subst e0
  replace h := onB_e h
  obtain ⟨e9, h⟩ := h
  have e9 := List.isEmpty_iff.mp e9
  subst e9
  refine ⟨Nat.le_of_ble_eq_true rfl, fun P hP => ?_⟩
  exact h (fun x1 τ => P 6 [.ref 0, .int x1] τ) (fun x1 τ hb => hP 6 [.ref 0, .int x1] τ hb)
def wp_X10_judge  (σ : Sg) (Q : Int32 → Sg → Prop) : Prop :=
  wp_X10_judged (-1 : Int32) σ (fun r1 s2 => ((r1 = 0 → ((r1 = (2 : Int32) → Q r1 (sI (sI s2 0 40 (-1 : Int32)) 0 41 (gI (sI s2 0 40 (-1 : Int32)) 0 43))) ∧ (¬ r1 = (2 : Int32) → Q r1 (sI (sI s2 0 40 (-1 : Int32)) 0 41 (-1 : Int32))))) ∧ (¬ r1 = 0 → ((r1 = (2 : Int32) → Q r1 (sI (sI s2 0 40 (gI s2 0 42)) 0 41 (gI (sI s2 0 40 (gI s2 0 42)) 0 43))) ∧ (¬ r1 = (2 : Int32) → Q r1 (sI (sI s2 0 40 (gI s2 0 42)) 0 41 (-1 : Int32)))))))
def wl_X10_judge : WP := fun As σ Q => p1r As (fun z0 r0 => onB (Nat.beq z0 0) (onB r0.isEmpty (wp_X10_judge  σ (fun x τ => Q (some (.int x)) τ))))
def tb_X10_judge : List (Nat × Instr × Nat) := [(0, (.aload_n 0, 1)), (1, (.iconst (-1), 1)), (2, (.invokevirtual 287, 3)), (5, (.istore_n 1, 1)), (6, (.aload_n 0, 1)), (7, (.iload_n 1, 1)), (8, (.ifCond .ne 15, 3)), (11, (.iconst (-1), 1)), (12, (.goto 19, 3)), (15, (.aload_n 0, 1)), (16, (.getfield 278, 3)), (19, (.putfield 91, 3)), (22, (.aload_n 0, 1)), (23, (.iload_n 1, 1)), (24, (.iconst 2, 1)), (25, (.if_icmp .ne 35, 3)), (28, (.aload_n 0, 1)), (29, (.getfield 281, 3)), (32, (.goto 36, 3)), (35, (.iconst (-1), 1)), (36, (.putfield 94, 3)), (39, (.iload_n 1, 1)), (40, (.ireturn, 1))]
def ce_X10_judge : List (Nat × (Nat × Option Nat × WP)) := [(287, (2, some 10, wl_X10_judged))]
set_option maxRecDepth 100000 in
set_option maxHeartbeats 4000000 in
theorem ct_X10_judge (l : Launch) : Con l wM yX10_judge cX10_judge 2 (some .int) 4 wl_X10_judge := by
  refine sxm_ok l (ft := lkp ft_RX10) (c32 := lkp c32_RX10) (c64 := lkp c64_RX10) (ce := lkp ce_X10_judge) (sf := lkp sf_RX10) (lab := lkp []) (T := tb_X10_judge) (by decide +kernel) ft_RX10_ok c32_RX10_ok c64_RX10_ok (fun x q h => (show ∀ q ∈ ce_X10_judge, ceOK l wM RX10 4 q.1 q.2.1 q.2.2.1 q.2.2.2 from List.forall_mem_cons.mpr ⟨Or.inr (Or.inr (Or.inr ⟨yX10_judged, cX10_judged, 4, (some .int), 3, ct_X10_judged l, by decide, by decide, mi_X10_judged.1, mi_X10_judged.2, ml_RX10_287, mv_X10_judged.1, mv_X10_judged.2, ⟨_, _, rfl⟩, by decide, by decide +kernel⟩)), fun _ h => absurd h List.not_mem_nil⟩) (x, q) (lkp_mem h)) sf_RX10_ok (by decide +kernel) 400 (fun As σ Q h => ?_)
  replace h := p1r_e h
  obtain ⟨z0, q0, rfl, h⟩ := h
  replace h := onB_e h
  obtain ⟨e0, h⟩ := h
  have e0 := Nat.eq_of_beq_eq_true e0
  subst e0
  replace h := onB_e h
  obtain ⟨e9, h⟩ := h
  have e9 := List.isEmpty_iff.mp e9
  subst e9
  refine ⟨Nat.le_of_ble_eq_true rfl, fun P hP => ?_⟩
  exact h 
def wp_X10_small  (σ : Sg) (Q : Int32 → Sg → Prop) : Prop :=
  ∀ L17 : Int32 → Sg → Prop,
  ∀ L51 : Int32 → Int32 → Sg → Prop,
  (∀ (x1 : Int32) (τ : Sg), ((x1 < (gI τ 0 39) → wp_X10_judged x1 τ (fun r1 s2 => ((r1 = 0 → L51 x1 x1 (sI s2 0 39 ((gI s2 0 39) - (1 : Int32)))) ∧ (¬ r1 = 0 → L17 (x1 + (1 : Int32)) s2)))) ∧ (¬ x1 < (gI τ 0 39) → Q (gI τ 0 39) τ)) → L17 x1 τ) →
  (∀ (x1 : Int32) (x2 : Int32) (τ : Sg), ((x2 < (gI τ 0 39) → (vp_in (x2 + (1 : Int32)) 100 ∧ (vp_in x2 100 ∧ (vp_in (x2 + (1 : Int32)) 100 ∧ (vp_in x2 100 ∧ L51 x1 (x2 + (1 : Int32)) (sI (sI τ 23 (x2).toNatClampNeg (gI τ 23 ((x2 + (1 : Int32))).toNatClampNeg)) 24 (x2).toNatClampNeg (gI (sI τ 23 (x2).toNatClampNeg (gI τ 23 ((x2 + (1 : Int32))).toNatClampNeg)) 24 ((x2 + (1 : Int32))).toNatClampNeg))))))) ∧ (¬ x2 < (gI τ 0 39) → L17 x1 τ)) → L51 x1 x2 τ) →
  wp_X10_judged (-1 : Int32) σ (fun r3 s4 => ((r3 = 0 → L17 (0 : Int32) s4) ∧ (¬ r3 = 0 → wp_X10_no (-7 : Int32) s4 (fun r5 s6 => Q r5 s6))))
def wl_X10_small : WP := fun As σ Q => p1r As (fun z0 r0 => onB (Nat.beq z0 0) (onB r0.isEmpty (wp_X10_small  σ (fun x τ => Q (some (.int x)) τ))))
def tb_X10_small : List (Nat × Instr × Nat) := [(0, (.aload_n 0, 1)), (1, (.iconst (-1), 1)), (2, (.invokevirtual 287, 3)), (5, (.ifCond .eq 15, 3)), (8, (.aload_n 0, 1)), (9, (.bipush (-7), 2)), (11, (.invokevirtual 118, 3)), (14, (.ireturn, 1)), (15, (.iconst 0, 1)), (16, (.istore_n 1, 1)), (17, (.iload_n 1, 1)), (18, (.aload_n 0, 1)), (19, (.getfield 151, 3)), (22, (.if_icmp .ge 96, 3)), (25, (.aload_n 0, 1)), (26, (.iload_n 1, 1)), (27, (.invokevirtual 287, 3)), (30, (.ifCond .eq 39, 3)), (33, (.iinc 1 1, 3)), (36, (.goto 17, 3)), (39, (.aload_n 0, 1)), (40, (.dup, 1)), (41, (.getfield 151, 3)), (44, (.iconst 1, 1)), (45, (.isub, 1)), (46, (.putfield 151, 3)), (49, (.iload_n 1, 1)), (50, (.istore_n 2, 1)), (51, (.iload_n 2, 1)), (52, (.aload_n 0, 1)), (53, (.getfield 151, 3)), (56, (.if_icmp .ge 93, 3)), (59, (.aload_n 0, 1)), (60, (.getfield 85, 3)), (63, (.iload_n 2, 1)), (64, (.aload_n 0, 1)), (65, (.getfield 85, 3)), (68, (.iload_n 2, 1)), (69, (.iconst 1, 1)), (70, (.iadd, 1)), (71, (.iaload, 1)), (72, (.iastore, 1)), (73, (.aload_n 0, 1)), (74, (.getfield 88, 3)), (77, (.iload_n 2, 1)), (78, (.aload_n 0, 1)), (79, (.getfield 88, 3)), (82, (.iload_n 2, 1)), (83, (.iconst 1, 1)), (84, (.iadd, 1)), (85, (.iaload, 1)), (86, (.iastore, 1)), (87, (.iinc 2 1, 3)), (90, (.goto 51, 3)), (93, (.goto 17, 3)), (96, (.aload_n 0, 1)), (97, (.getfield 151, 3)), (100, (.ireturn, 1))]
def ce_X10_small : List (Nat × (Nat × Option Nat × WP)) := [(287, (2, some 10, wl_X10_judged)), (118, (2, some 10, wl_X10_no))]
set_option maxRecDepth 100000 in
set_option maxHeartbeats 4000000 in
theorem ct_X10_small (l : Launch) : Con l wM yX10_small cX10_small 3 (some .int) 4 wl_X10_small := by
  refine sxm_ok l (ft := lkp ft_RX10) (c32 := lkp c32_RX10) (c64 := lkp c64_RX10) (ce := lkp ce_X10_small) (sf := lkp sf_RX10) (lab := lkp [(17, [0, 1]), (51, [0, 1, 2])]) (T := tb_X10_small) (by decide +kernel) ft_RX10_ok c32_RX10_ok c64_RX10_ok (fun x q h => (show ∀ q ∈ ce_X10_small, ceOK l wM RX10 4 q.1 q.2.1 q.2.2.1 q.2.2.2 from List.forall_mem_cons.mpr ⟨Or.inr (Or.inr (Or.inr ⟨yX10_judged, cX10_judged, 4, (some .int), 3, ct_X10_judged l, by decide, by decide, mi_X10_judged.1, mi_X10_judged.2, ml_RX10_287, mv_X10_judged.1, mv_X10_judged.2, ⟨_, _, rfl⟩, by decide, by decide +kernel⟩)), List.forall_mem_cons.mpr ⟨Or.inr (Or.inr (Or.inr ⟨yX10_no, cX10_no, 2, (some .int), 0, ct_X10_no l, by decide, by decide, mi_X10_no.1, mi_X10_no.2, ml_RX10_118, mv_X10_no.1, mv_X10_no.2, ⟨_, _, rfl⟩, by decide, by decide +kernel⟩)), fun _ h => absurd h List.not_mem_nil⟩⟩) (x, q) (lkp_mem h)) sf_RX10_ok (by decide +kernel) 400 (fun As σ Q h => ?_)
  replace h := p1r_e h
  obtain ⟨z0, q0, rfl, h⟩ := h
  replace h := onB_e h
  obtain ⟨e0, h⟩ := h
  have e0 := Nat.eq_of_beq_eq_true e0
  subst e0
  replace h := onB_e h
  obtain ⟨e9, h⟩ := h
  have e9 := List.isEmpty_iff.mp e9
  subst e9
  refine ⟨Nat.le_of_ble_eq_true rfl, fun P hP => ?_⟩
  exact h (fun x1 τ => P 17 [.ref 0, .int x1] τ) (fun x1 x2 τ => P 51 [.ref 0, .int x1, .int x2] τ) (fun x1 τ hb => hP 17 [.ref 0, .int x1] τ hb) (fun x1 x2 τ hb => hP 51 [.ref 0, .int x1, .int x2] τ hb)
def wp_X10_prove (x1 : Int32) (σ : Sg) (Q : Int32 → Sg → Prop) : Prop :=
  ∀ L77 : Int32 → Sg → Prop,
  (∀ (x2 : Int32) (τ : Sg), (((gI τ 0 24) = 0 → (((gI τ 0 26) = 0 → wp_X10_hasTrouble τ (fun r1 s2 => ((r1 = 0 → wp_X10_pushAll s2 (fun s3 => L77 x2 s3)) ∧ (¬ r1 = 0 → L77 x2 s2)))) ∧ (¬ (gI τ 0 26) = 0 → ((x2 = 0 → Q (0 : Int32) τ) ∧ (¬ x2 = 0 → wp_X10_lookAt τ (fun s4 => L77 (x2 + (-1 : Int32)) s4)))))) ∧ (¬ (gI τ 0 24) = 0 → Q (gI τ 0 24) τ)) → L77 x2 τ) →
  ((x1 < 0 → wp_X10_no (-4 : Int32) σ (fun r5 s6 => Q r5 s6)) ∧ (¬ x1 < 0 → wp_X10_isIn (x1).toInt64 (1 : Int64) (5000 : Int64) σ (fun r7 => ((r7 = 0 → wp_X10_no (-7 : Int32) σ (fun r8 s9 => Q r8 s9)) ∧ (¬ r7 = 0 → wp_X10_table σ (fun s10 => (((gI s10 0 23) = 0 → wp_X10_isBadState (gI (sI s10 0 23 (1 : Int32)) 0 8) (sI s10 0 23 (1 : Int32)) (fun r11 => ((r11 = 0 → L77 x1 (sI s10 0 23 (1 : Int32))) ∧ (¬ r11 = 0 → wp_X10_meet (gI (sI s10 0 23 (1 : Int32)) 0 8) (0 : Int32) (sI s10 0 23 (1 : Int32)) (fun s12 => wp_X10_tellWay s12 (fun s13 => L77 x1 (sI s13 0 26 (0 : Int32)))))))) ∧ (¬ (gI s10 0 23) = 0 → L77 x1 s10))))))))
def wl_X10_prove : WP := fun As σ Q => p1r As (fun z0 r0 => onB (Nat.beq z0 0) (p1i r0 (fun x1 r1 => onB r1.isEmpty (wp_X10_prove x1 σ (fun x τ => Q (some (.int x)) τ)))))
def tb_X10_prove : List (Nat × Instr × Nat) := [(0, (.iload_n 1, 1)), (1, (.ifCond .ge 11, 3)), (4, (.aload_n 0, 1)), (5, (.bipush (-4), 2)), (7, (.invokevirtual 118, 3)), (10, (.ireturn, 1)), (11, (.iload_n 1, 1)), (12, (.i2l, 1)), (13, (.lconst 1, 1)), (14, (.ldc2_w 250, 3)), (17, (.invokestatic 133, 3)), (20, (.ifCond .ne 30, 3)), (23, (.aload_n 0, 1)), (24, (.bipush (-7), 2)), (26, (.invokevirtual 118, 3)), (29, (.ireturn, 1)), (30, (.aload_n 0, 1)), (31, (.invokevirtual 182, 3)), (34, (.aload_n 0, 1)), (35, (.getfield 188, 3)), (38, (.ifCond .ne 75, 3)), (41, (.aload_n 0, 1)), (42, (.iconst 1, 1)), (43, (.putfield 188, 3)), (46, (.aload_n 0, 1)), (47, (.aload_n 0, 1)), (48, (.getfield 122, 3)), (51, (.invokevirtual 247, 3)), (54, (.ifCond .eq 75, 3)), (57, (.aload_n 0, 1)), (58, (.aload_n 0, 1)), (59, (.getfield 122, 3)), (62, (.iconst 0, 1)), (63, (.invokevirtual 224, 3)), (66, (.aload_n 0, 1)), (67, (.invokevirtual 217, 3)), (70, (.aload_n 0, 1)), (71, (.iconst 0, 1)), (72, (.putfield 194, 3)), (75, (.iload_n 1, 1)), (76, (.istore_n 2, 1)), (77, (.aload_n 0, 1)), (78, (.getfield 191, 3)), (81, (.ifCond .ne 121, 3)), (84, (.aload_n 0, 1)), (85, (.getfield 194, 3)), (88, (.ifCond .ne 105, 3)), (91, (.aload_n 0, 1)), (92, (.invokevirtual 252, 3)), (95, (.ifCond .ne 77, 3)), (98, (.aload_n 0, 1)), (99, (.invokevirtual 255, 3)), (102, (.goto 77, 3)), (105, (.iload_n 2, 1)), (106, (.ifCond .ne 111, 3)), (109, (.iconst 0, 1)), (110, (.ireturn, 1)), (111, (.iinc 2 (-1), 3)), (114, (.aload_n 0, 1)), (115, (.invokevirtual 258, 3)), (118, (.goto 77, 3)), (121, (.aload_n 0, 1)), (122, (.getfield 191, 3)), (125, (.ireturn, 1))]
def ce_X10_prove : List (Nat × (Nat × Option Nat × WP)) := [(118, (2, some 10, wl_X10_no)), (133, (3, none, wl_X10_isIn)), (182, (1, some 10, wl_X10_table)), (247, (2, some 10, wl_X10_isBadState)), (224, (3, some 10, wl_X10_meet)), (217, (1, some 10, wl_X10_tellWay)), (252, (1, some 10, wl_X10_hasTrouble)), (255, (1, some 10, wl_X10_pushAll)), (258, (1, some 10, wl_X10_lookAt))]
set_option maxRecDepth 100000 in
set_option maxHeartbeats 4000000 in
theorem ct_X10_prove (l : Launch) : Con l wM yX10_prove cX10_prove 3 (some .int) 5 wl_X10_prove := by
  refine sxm_ok l (ft := lkp ft_RX10) (c32 := lkp c32_RX10) (c64 := lkp c64_RX10) (ce := lkp ce_X10_prove) (sf := lkp sf_RX10) (lab := lkp [(77, [0, 2])]) (T := tb_X10_prove) (by decide +kernel) ft_RX10_ok c32_RX10_ok c64_RX10_ok (fun x q h => (show ∀ q ∈ ce_X10_prove, ceOK l wM RX10 5 q.1 q.2.1 q.2.2.1 q.2.2.2 from List.forall_mem_cons.mpr ⟨Or.inr (Or.inr (Or.inr ⟨yX10_no, cX10_no, 2, (some .int), 0, ct_X10_no l, by decide, by decide, mi_X10_no.1, mi_X10_no.2, ml_RX10_118, mv_X10_no.1, mv_X10_no.2, ⟨_, _, rfl⟩, by decide, by decide +kernel⟩)), List.forall_mem_cons.mpr ⟨Or.inr (Or.inr (Or.inr ⟨yX10_isIn, cX10_isIn, 6, (some .boolean), 0, ct_X10_isIn l, by decide, by decide, mi_X10_isIn.1, mi_X10_isIn.2, Or.inl ml_RX10_133, ms_X10_isIn, by decide +kernel⟩)), List.forall_mem_cons.mpr ⟨Or.inr (Or.inr (Or.inr ⟨yX10_table, cX10_table, 5, none, 2, ct_X10_table l, by decide, by decide, mi_X10_table.1, mi_X10_table.2, ml_RX10_182, mv_X10_table.1, mv_X10_table.2, ⟨_, _, rfl⟩, by decide, by decide +kernel⟩)), List.forall_mem_cons.mpr ⟨Or.inr (Or.inr (Or.inr ⟨yX10_isBadState, cX10_isBadState, 4, (some .boolean), 1, ct_X10_isBadState l, by decide, by decide, mi_X10_isBadState.1, mi_X10_isBadState.2, ml_RX10_247, mv_X10_isBadState.1, mv_X10_isBadState.2, ⟨_, _, rfl⟩, by decide, by decide +kernel⟩)), List.forall_mem_cons.mpr ⟨Or.inr (Or.inr (Or.inr ⟨yX10_meet, cX10_meet, 3, none, 0, ct_X10_meet l, by decide, by decide, mi_X10_meet.1, mi_X10_meet.2, ml_RX10_224, mv_X10_meet.1, mv_X10_meet.2, ⟨_, _, rfl⟩, by decide, by decide +kernel⟩)), List.forall_mem_cons.mpr ⟨Or.inr (Or.inr (Or.inr ⟨yX10_tellWay, cX10_tellWay, 2, none, 0, ct_X10_tellWay l, by decide, by decide, mi_X10_tellWay.1, mi_X10_tellWay.2, ml_RX10_217, mv_X10_tellWay.1, mv_X10_tellWay.2, ⟨_, _, rfl⟩, by decide, by decide +kernel⟩)), List.forall_mem_cons.mpr ⟨Or.inr (Or.inr (Or.inr ⟨yX10_hasTrouble, cX10_hasTrouble, 2, (some .boolean), 2, ct_X10_hasTrouble l, by decide, by decide, mi_X10_hasTrouble.1, mi_X10_hasTrouble.2, ml_RX10_252, mv_X10_hasTrouble.1, mv_X10_hasTrouble.2, ⟨_, _, rfl⟩, by decide, by decide +kernel⟩)), List.forall_mem_cons.mpr ⟨Or.inr (Or.inr (Or.inr ⟨yX10_pushAll, cX10_pushAll, 3, none, 4, ct_X10_pushAll l, by decide, by decide, mi_X10_pushAll.1, mi_X10_pushAll.2, ml_RX10_255, mv_X10_pushAll.1, mv_X10_pushAll.2, ⟨_, _, rfl⟩, by decide, by decide +kernel⟩)), List.forall_mem_cons.mpr ⟨Or.inr (Or.inr (Or.inr ⟨yX10_lookAt, cX10_lookAt, 7, none, 4, ct_X10_lookAt l, by decide, by decide, mi_X10_lookAt.1, mi_X10_lookAt.2, ml_RX10_258, mv_X10_lookAt.1, mv_X10_lookAt.2, ⟨_, _, rfl⟩, by decide, by decide +kernel⟩)), fun _ h => absurd h List.not_mem_nil⟩⟩⟩⟩⟩⟩⟩⟩⟩) (x, q) (lkp_mem h)) sf_RX10_ok (by decide +kernel) 400 (fun As σ Q h => ?_)
  replace h := p1r_e h
  obtain ⟨z0, q0, rfl, h⟩ := h
  replace h := onB_e h
  obtain ⟨e0, h⟩ := h
  have e0 := Nat.eq_of_beq_eq_true e0
  subst e0
  replace h := p1i_e h
  obtain ⟨x1, q1, rfl, h⟩ := h
  replace h := onB_e h
  obtain ⟨e9, h⟩ := h
  have e9 := List.isEmpty_iff.mp e9
  subst e9
  refine ⟨Nat.le_of_ble_eq_true rfl, fun P hP => ?_⟩
  exact h (fun x2 τ => P 77 [.ref 0, .int x2] τ) (fun x2 τ hb => hP 77 [.ref 0, .int x2] τ hb)
