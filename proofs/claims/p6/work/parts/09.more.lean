theorem g_fit {r : Int32} (h : r = 0 ∨ r = 1) : fits .boolean (.int r) = true := by
  rcases h with h | h <;> rw [h] <;> rfl
