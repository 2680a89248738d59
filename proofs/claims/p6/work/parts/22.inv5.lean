theorem DR.zero {f : Nat → Int32} (h : DR f) {k : Nat} : DR (upd f k 0) := fun p hp => by
  by_cases q : p = k
  · rw [q, upd_eq]; decide
  · rw [upd_ne q]; exact h p hp
theorem DR0 : DR (fun _ => 0) := fun _ _ => (show 0 ≤ ((0 : Int32)).toInt ∧ ((0 : Int32)).toInt ≤ 2 by decide)
