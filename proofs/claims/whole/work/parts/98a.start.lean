/-! THE START: the state of all zeros; and that the asking calls keep the state sound -/
def zM : Ms := fun _ _ => 0
theorem chg_zM : chgM zM = zM := by
  funext a k
  unfold chgM
  split
  · rfl
  · split
    · rfl
    · split <;> rfl
theorem WF_zM : WF zM := by
  refine ⟨⟨by decide, by decide, by decide, by decide, by decide, by decide, by decide, by decide, fun p h => absurd h (Nat.not_lt_zero p), fun p h => absurd h (Nat.not_lt_zero p), fun p h => absurd h (Nat.not_lt_zero p), fun p h => absurd h (Nat.not_lt_zero p)⟩, ⟨by decide, by decide, fun k hk => ?_, fun p h => absurd h (Nat.not_lt_zero p), fun _ => ⟨rfl, rfl⟩, fun h => absurd h (by decide)⟩, ⟨by decide, fun p h => absurd h (Nat.not_lt_zero p), by decide, by decide, by decide⟩, rfl⟩
  exact ⟨by show 0 ≤ _; omega, fun p h => absurd h (Nat.not_lt_zero p)⟩
theorem iM_0 {a k : Nat} (h : a ≠ 0) : gI iM a k = 0 := by
  show (if a = 0 ∧ (k = 9 ∨ k = 31 ∨ k = 40 ∨ k = 41 ∨ k = 46) then (-1 : Int32) else 0) = 0
  rw [if_neg (by omega)]
theorem RM_zM : RM zM iM := by
  refine ⟨⟨⟨by decide, by decide, by decide, by decide, by decide, by decide, by decide, fun p h => absurd h (Nat.not_lt_zero p), fun p h => absurd h (Nat.not_lt_zero p), fun p h => absurd h (Nat.not_lt_zero p)⟩, ⟨by decide, by decide, by decide, by decide, fun p h => absurd h (Nat.not_lt_zero p), fun k k1 k2 => ⟨iM_0 (by decide), fun p h => absurd h (Nat.not_lt_zero p)⟩, by decide, fun h => absurd h (by decide), by decide, fun p h => absurd h (Nat.not_lt_zero p)⟩, ⟨by decide, fun b b1 b2 => iM_0 (by decide), by decide, fun p h => absurd h (Nat.not_lt_zero p), by decide, by decide, by decide, fun p h => absurd h (Nat.not_lt_zero _)⟩⟩, Or.inl (by decide)⟩
theorem WF_part {M : Ms} (hW : WF M) (x y : Int32) : WF (op_part x y M).2 := by
  unfold op_part; repeat' split
  all_goals first | exact WF_rf hW _ | exact hW
theorem WF_count {M : Ms} (hW : WF M) (x : Int32) : WF (op_count x M).2 := by
  unfold op_count; repeat' split
  all_goals first | exact WF_rf hW _ | exact hW
theorem WF_start {M : Ms} (hW : WF M) : WF (op_start M).2 := WF_run hW hW.1.2.2.2.2.2.1
theorem WF_value {M : Ms} (hW : WF M) (x y : Int32) : WF (op_value x y M).2 := by
  unfold op_value; repeat' split
  all_goals first | exact WF_rf hW _ | exact hW
theorem WF_at {M : Ms} (hW : WF M) (x y z : Int32) : WF (op_at x y z M).2 := by
  unfold op_at; repeat' split
  all_goals first | exact WF_rf hW _ | exact hW
theorem WF_frames {M : Ms} (hW : WF M) : WF (op_frames M).2 := hW
theorem WF_clauses {M : Ms} (hW : WF M) (x : Int32) : WF (op_clauses x M).2 := by
  unfold op_clauses; repeat' split
  all_goals first | exact WF_rf hW _ | exact hW
theorem WF_clause {M : Ms} (hW : WF M) (x y z : Int32) : WF (op_clause x y z M).2 := by
  unfold op_clause; repeat' split
  all_goals first | exact WF_rf hW _ | exact hW
theorem WF_trouble {M : Ms} (hW : WF M) (x y : Int32) : WF (op_trouble x y M).2 := by
  unfold op_trouble; repeat' split
  all_goals first | exact WF_rf hW _ | exact hW
theorem WF_way {M : Ms} (hW : WF M) : WF (op_way M).2 := by
  unfold op_way; repeat' split
  all_goals first | exact WF_rf hW _ | exact hW
theorem WF_wayState {M : Ms} (hW : WF M) (x : Int32) : WF (op_wayState x M).2 := by
  unfold op_wayState; repeat' split
  all_goals first | exact WF_rf hW _ | exact hW
theorem WF_wayChoice {M : Ms} (hW : WF M) (x : Int32) : WF (op_wayChoice x M).2 := by
  unfold op_wayChoice; repeat' split
  all_goals first | exact WF_rf hW _ | exact hW
theorem WF_ask {M : Ms} (hW : WF M) (x y z : Int32) : WF (op_ask x y z M).2 := by
  unfold op_ask; repeat' split
  all_goals first | exact WF_rf hW _ | exact hW
theorem WF_widen {M : Ms} (hW : WF M) (x y z : Int32) : WF (op_widen x y z M).2 := by
  unfold op_widen; repeat' split
  all_goals first | exact WF_rf hW _ | exact hW
theorem WF_shortest {M : Ms} (hW : WF M) : WF (op_shortest M).2 := hW
theorem WF_within {M : Ms} (hW : WF M) (x : Int32) : WF (op_within x M).2 := by
  unfold op_within; repeat' split
  all_goals first | exact WF_rf hW _ | exact hW
theorem WF_keeps {M : Ms} (hW : WF M) (x : Int32) : WF (op_keeps x M).2 := by
  unfold op_keeps; repeat' split
  all_goals first | exact WF_rf hW _ | exact hW
theorem WF_cone {M : Ms} (hW : WF M) : WF (op_cone M).2 := by
  unfold op_cone; repeat' split
  all_goals first | exact WF_rf hW _ | exact hW
theorem WF_live {M : Ms} (hW : WF M) : WF (op_live M).2 := hW
theorem WF_fails {M : Ms} (hW : WF M) (x : Int32) : WF (op_fails x M).2 := by
  unfold op_fails; repeat' split
  all_goals first | exact WF_rf hW _ | exact hW
theorem WF_listed {M : Ms} (hW : WF M) (x y : Int32) : WF (op_listed x y M).2 := by
  unfold op_listed; repeat' split
  all_goals first | exact WF_rf hW _ | exact hW
theorem WF_status {M : Ms} (hW : WF M) (x : Int32) : WF (op_status x M).2 := by
  unfold op_status; repeat' split
  all_goals first | exact WF_rf hW _ | exact hW
theorem WF_row {M : Ms} (hW : WF M) (x : Int32) : WF (op_row x M).2 := by
  unfold op_row; repeat' split
  all_goals first | exact WF_rf hW _ | exact hW
