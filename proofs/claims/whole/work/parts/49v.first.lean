/-! THE FIRST MEMORY, AND ALL PAIRS (wip/whole/f) -/
theorem ja_M1 : JA q_M1 := by
  have c10 : ∀ j, j < 10 → j = 0 ∨ j = 1 ∨ j = 2 ∨ j = 3 ∨ j = 4 ∨ j = 5 ∨ j = 6 ∨ j = 7 ∨ j = 8 ∨ j = 9 := fun j h => by omega
  refine ⟨0, 0, ⟨Nat.zero_le _, rfl, rfl, fun j h => by omega, fun i h => by omega, fun j _ h => ?_, rfl, rfl, rfl, ?_, ?_, ?_⟩, ⟨0, Nat.zero_le _, rfl, rfl, fun i h => by omega⟩, Or.inl ⟨rfl, ?_⟩, ⟨0, 0, Nat.le_refl _, Nat.zero_le _, rfl, rfl, rfl, rfl, fun i h => by omega⟩, ⟨0, Nat.zero_le _, rfl, rfl, fun h => by omega, fun f h => ?_, rfl, rfl, rfl, rfl⟩, ⟨rfl, Or.inl rfl, fun h => ?_⟩, ⟨Nat.zero_le _, rfl, rfl, fun i h => by omega, 0, by omega, rfl, rfl, fun i h => by omega⟩, fun s h => Or.inl ?_⟩
  · rcases c10 j h with rfl | rfl | rfl | rfl | rfl | rfl | rfl | rfl | rfl | rfl <;> rfl
  · have e : q_M1.1 6 50 = 1 := rfl
    rw [e]
    exact ⟨by decide, by decide⟩
  · have e : q_M1.1 6 51 = 1 := rfl
    rw [e]
    exact ⟨by decide, by decide⟩
  · have e : q_M1.1 6 52 = 0 := rfl
    rw [e]
    exact ⟨by decide, by decide⟩
  · have e : q_M1.1 17 1 = 0 := rfl
    rw [e]
    decide
  · have e1 : q_M1.1 67 f = 0 := rfl
    have e2 : q_M1.1 23 f = -1 := by
      rcases c10 f h with rfl | rfl | rfl | rfl | rfl | rfl | rfl | rfl | rfl | rfl <;> rfl
    rw [e1, e2]
    exact ⟨by decide, by decide, by decide⟩
  · have e : q_M1.1 48 44 = 0 := rfl
    rw [e] at h
    exact absurd h (by decide)
  · have : s = 0 ∨ s = 1 ∨ s = 2 ∨ s = 3 ∨ s = 4 ∨ s = 5 := by omega
    rcases this with rfl | rfl | rfl | rfl | rfl | rfl <;> exact ⟨rfl, rfl⟩
theorem q_pairs (sl : Nat) (sx : Nat → Int32) : QPairs sl sx JA := ⟨p_farm, p_farms, p_mend, p_of, p_feed, p_law, p_rung, p_does, p_signs, p_round, p_ends, p_often, p_late, p_spare, p_send, p_changesIt, p_byWhom, p_church, p_alike, p_judge, p_kinds, p_howFar, p_which, p_asTold, p_deaf, p_drawn, p_pass, p_tell, p_day, p_led, p_image, p_back, p_undo, p_redo, p_body, p_act, p_trace, p_keep, p_row, p_put, p_element, p_shift, p_taken, p_count⟩
