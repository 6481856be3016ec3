/-! ===== the start ===== -/
theorem st_four {p : Nat → Prop} (h0 : p 0) (h1 : p 1) (h2 : p 2) (h3 : p 3) : ∀ t, t < 4 → p t := by
  intro t ht
  rcases (by omega : t = 0 ∨ t = 1 ∨ t = 2 ∨ t = 3) with rfl | rfl | rfl | rfl
  · exact h0
  · exact h1
  · exact h2
  · exact h3
theorem st_seven {p : Nat → Prop} (h0 : p 0) (h1 : p 1) (h2 : p 2) (h3 : p 3) (h4 : p 4) (h5 : p 5) (h6 : p 6) : ∀ t, t < 7 → p t := by
  intro t ht
  rcases (by omega : t = 0 ∨ t = 1 ∨ t = 2 ∨ t = 3 ∨ t = 4 ∨ t = 5 ∨ t = 6) with rfl | rfl | rfl | rfl | rfl | rfl | rfl
  · exact h0
  · exact h1
  · exact h2
  · exact h3
  · exact h4
  · exact h5
  · exact h6
theorem rl_start : Rl r0 g0 u0 h0m := by
  have no : ∀ {q : Prop} {i : Nat}, i < 0 → q := fun h => absurd h (by omega)
  refine ⟨⟨0, 0, rfl, rfl, rfl, rfl, rfl, by omega, by omega, ?_, ?_, fun p h => no h, fun p h => no h, fun p _ => Or.inl rfl, fun p h => no h, fun c w h _ => no h, fun c h => no h, fun c k h _ => no h, fun c h => no h, fun c h => no h, fun c _ => Or.inl rfl⟩, ?_, ?_, ⟨rfl, Or.inl rfl⟩, ⟨0, by omega, rfl, rfl, fun i h => no h⟩, ⟨0, by omega, rfl, rfl, fun i h => absurd h (by omega)⟩, ?_, ?_, ⟨0, by omega, rfl, rfl, fun i h => no h⟩⟩
  · exact st_four ⟨rfl, 50, by omega, by omega, rfl⟩ ⟨rfl, 50, by omega, by omega, rfl⟩ ⟨rfl, 50, by omega, by omega, rfl⟩ ⟨rfl, 50, by omega, by omega, rfl⟩
  · exact st_seven ⟨rfl, 2, by omega, rfl⟩ ⟨rfl, 4, by omega, rfl⟩ ⟨rfl, 1, by omega, rfl⟩ ⟨rfl, 3, by omega, rfl⟩ ⟨rfl, 3, by omega, rfl⟩ ⟨rfl, 5, by omega, rfl⟩ ⟨rfl, 2, by omega, rfl⟩
  · exact st_seven rfl rfl rfl rfl rfl rfl rfl
  · refine ⟨[], by rw [List.length_nil]; omega, fun c h => absurd h List.not_mem_nil, rfl, rfl, by rw [List.flatMap_nil, List.length_nil]; omega, rfl, fun i h => ?_, by rw [List.flatMap_nil, List.length_nil]; omega, fun i h => ?_, fun j h => ?_⟩
    · rw [List.flatMap_nil, List.length_nil] at h; exact no h
    · rw [List.flatMap_nil, List.length_nil] at h; exact no h
    · rw [List.length_nil] at h; exact no h
  · exact st_four ⟨rfl, Or.inl rfl⟩ ⟨rfl, Or.inl rfl⟩ ⟨rfl, Or.inl rfl⟩ ⟨rfl, Or.inl rfl⟩
  · exact st_four (Or.inl ⟨rfl, rfl⟩) (Or.inl ⟨rfl, rfl⟩) (Or.inl ⟨rfl, rfl⟩) (Or.inl ⟨rfl, rfl⟩)
theorem ops_of (hr : Op_rules Rl) : Ops Rl := ⟨op_feed, hr, op_size, op_person, op_personOf, op_join, op_claim, op_claimOf, op_seat, op_set, op_tie, op_tied, op_hang, op_steps, op_turned, op_score, op_lot, op_seen, op_without, op_hold, op_odds, op_likely, op_best, op_says, op_found, op_rate, op_right, op_seed, op_draw, op_prove, op_row, op_alterRow, op_judge, op_sheet, op_put, op_item, op_shelf, op_taken, op_act, op_trace, op_many, op_keep, op_again⟩
