/-! the worlds of fresh objects -/
def sg0 : Sg := fun n =>
  bif Nat.beq n 0 then (fun i => bif Nat.beq i 6 then 200 else bif Nat.beq i 7 then 3 else 0)
  else bif Nat.beq n 13 || Nat.beq n 15 || Nat.beq n 17 || Nat.beq n 19 then (fun i => bif Nat.beq i 1 then -1 else 0)
  else bif Nat.beq n 21 || Nat.beq n 87 then (fun i => bif Nat.beq i 10 then -1 else 0)
  else bif Nat.beq n 26 || Nat.beq n 92 then (fun i => bif Nat.beq i 6 then -1 else 0)
  else bif Nat.beq n 30 || Nat.beq n 96 then (fun _ => -1)
  else bif Nat.beq n 38 || Nat.beq n 104 then (fun i => bif Nat.beq i 0 then 1 else 0)
  else bif Nat.beq n 45 || Nat.beq n 111 then (fun i => bif Nat.beq i 0 then 2 else 0)
  else bif Nat.beq n 52 || Nat.beq n 118 then (fun i => bif Nat.beq i 0 then 3 else 0)
  else bif Nat.beq n 59 || Nat.beq n 125 then (fun i => bif Nat.beq i 0 then 4 else 0)
  else bif Nat.beq n 66 || Nat.beq n 132 then (fun i => bif Nat.beq i 0 then 5 else 0)
  else bif Nat.beq n 73 || Nat.beq n 139 then (fun i => bif Nat.beq i 0 then 6 else 0)
  else bif Nat.beq n 80 || Nat.beq n 146 then (fun i => bif Nat.beq i 0 then 7 else 0)
  else fun _ => 0
def sgR0 : Sg := fun n =>
  bif Nat.beq n 0 then (fun i => bif Nat.beq i 9 then 200 else bif Nat.beq i 10 then 3 else 0)
  else bif Nat.beq n 1 then (upd (upd (upd (upd (fun _ => 0) 0 (-1)) 1 (-1)) 2 (-1)) 3 (-1))
  else fun _ => 0
theorem lt8 {i : Nat} (h : i < 8) : i = 0 ∨ i = 1 ∨ i = 2 ∨ i = 3 ∨ i = 4 ∨ i = 5 ∨ i = 6 ∨ i = 7 := by omega
theorem lt4 {i : Nat} (h : i < 4) : i = 0 ∨ i = 1 ∨ i = 2 ∨ i = 3 := by omega
theorem at_ext {D : va_G} {cl : List vw_C} {a : Nat} {cA : ClassId} {n : Nat} {f g : Nat → Option Nat} {H : Heap} (hfg : ∀ i, i < n → f i = g i) (h : va_at D cl (a, .inl (cA, n, .inr (.inr (.inr (.inr f))))) H) : va_at D cl (a, .inl (cA, n, .inr (.inr (.inr (.inr g))))) H := by
  have e : arrV cA n (fun j => va_rf (f j)) = arrV cA n (fun j => va_rf (g j)) := by
    unfold arrV
    have : (fun j : Fin n => va_rf (f j.val)) = (fun j : Fin n => va_rf (g j.val)) := by
      funext j
      rw [hfg j.val j.isLt]
    rw [this]
  show H[a]? = some (arrV cA n (fun j => va_rf (g j)))
  rw [← e]
  exact h
theorem Wd_inv {N : Nat} {cf : Nat → (Nat → Int32) → Nat × va_E} {σ : Sg} {k : Nat} {q : Nat × va_E} (h : (Wd N cf σ)[k]? = some q) : k < N ∧ q = cf k (σ k) := by
  by_cases hk : k < N
  · rw [Wd_at hk rfl] at h
    exact ⟨hk, (Option.some.inj h).symm⟩
  · unfold Wd at h
    rw [List.getElem?_eq_none (by rw [List.length_map, List.length_range]; omega)] at h
    cases h
def LC (u : Nat → Nat) (cI cT cS : ClassId) : va_W := [((u 0), .inr (7, [.ref (u 1), .ref (u 6), .ref (u 12), .ref (u 21), .ref (u 87), .ref (u 9), .int 200, .int 3, .int 0, .int 0, .int 0, .int 0, .int 0, .int 0])), ((u 1), .inr (3, [.ref (u 2), .ref (u 3), .ref (u 4), .ref (u 5), .int 0])), ((u 2), .inl (cI, 24, .inl (fun _ => 0))), ((u 3), .inl (cI, 24, .inl (fun _ => 0))), ((u 4), .inl (cI, 24, .inl (fun _ => 0))), ((u 5), .inl (cI, 24, .inl (fun _ => 0))), ((u 6), .inr (4, [.ref (u 7), .ref (u 8)])), ((u 7), .inl (cI, 8, .inl (fun _ => 0))), ((u 8), .inl (cI, 8, .inl (fun _ => 0))), ((u 9), .inr (4, [.ref (u 10), .ref (u 11)])), ((u 10), .inl (cI, 8, .inl (fun _ => 0))), ((u 11), .inl (cI, 8, .inl (fun _ => 0))), ((u 12), .inl (cS, 4, .inr (.inr (.inr (.inr (va_up (va_up (va_up (va_up (fun _ => none) 0 (some (u 13))) 1 (some (u 15))) 2 (some (u 17))) 3 (some (u 19)))))))), ((u 13), .inr (5, [.ref (u 14), .int (-1), .int 0])), ((u 14), .inl (cI, 60, .inl (fun _ => 0))), ((u 15), .inr (5, [.ref (u 16), .int (-1), .int 0])), ((u 16), .inl (cI, 60, .inl (fun _ => 0))), ((u 17), .inr (5, [.ref (u 18), .int (-1), .int 0])), ((u 18), .inl (cI, 60, .inl (fun _ => 0))), ((u 19), .inr (5, [.ref (u 20), .int (-1), .int 0])), ((u 20), .inl (cI, 60, .inl (fun _ => 0))), ((u 21), .inr (2, [.ref (u 1), .ref (u 22), .ref (u 26), .ref (u 25), .int 0, .int 0, .int 0, .int 0, .int 0, .int 0, .null, .int 0])), ((u 22), .inr (4, [.ref (u 23), .ref (u 24)])), ((u 23), .inl (cI, 8, .inl (fun _ => 0))), ((u 24), .inl (cI, 8, .inl (fun _ => 0))), ((u 25), .inr (0, [.int 0, .int 0, .int 0, .int 0, .int 0, .int 0])), ((u 26), .inr (1, [.ref (u 27), .ref (u 28), .ref (u 29), .ref (u 30), .int 0, .int 0, .null])), ((u 27), .inl (cT, 8, .inr (.inr (.inr (.inr (va_up (va_up (va_up (va_up (va_up (va_up (va_up (va_up (fun _ => none) 0 (some (u 31))) 1 (some (u 38))) 2 (some (u 45))) 3 (some (u 52))) 4 (some (u 59))) 5 (some (u 66))) 6 (some (u 73))) 7 (some (u 80)))))))), ((u 28), .inl (cI, 24, .inl (fun _ => 0))), ((u 29), .inl (cI, 24, .inl (fun _ => 0))), ((u 30), .inl (cT, 24, .inr (.inr (.inr (.inr (fun _ => none)))))), ((u 31), .inr (6, [.int 0, .ref (u 32), .ref (u 33), .ref (u 34), .ref (u 35), .ref (u 36), .ref (u 37), .int 0, .int 0, .int 0, .int 0, .int 0])), ((u 32), .inl (cI, 16, .inl (fun _ => 0))), ((u 33), .inl (cI, 16, .inl (fun _ => 0))), ((u 34), .inl (cI, 16, .inl (fun _ => 0))), ((u 35), .inl (cI, 16, .inl (fun _ => 0))), ((u 36), .inl (cI, 16, .inl (fun _ => 0))), ((u 37), .inl (cI, 16, .inl (fun _ => 0))), ((u 38), .inr (6, [.int 1, .ref (u 39), .ref (u 40), .ref (u 41), .ref (u 42), .ref (u 43), .ref (u 44), .int 0, .int 0, .int 0, .int 0, .int 0])), ((u 39), .inl (cI, 16, .inl (fun _ => 0))), ((u 40), .inl (cI, 16, .inl (fun _ => 0))), ((u 41), .inl (cI, 16, .inl (fun _ => 0))), ((u 42), .inl (cI, 16, .inl (fun _ => 0))), ((u 43), .inl (cI, 16, .inl (fun _ => 0))), ((u 44), .inl (cI, 16, .inl (fun _ => 0))), ((u 45), .inr (6, [.int 2, .ref (u 46), .ref (u 47), .ref (u 48), .ref (u 49), .ref (u 50), .ref (u 51), .int 0, .int 0, .int 0, .int 0, .int 0])), ((u 46), .inl (cI, 16, .inl (fun _ => 0))), ((u 47), .inl (cI, 16, .inl (fun _ => 0))), ((u 48), .inl (cI, 16, .inl (fun _ => 0))), ((u 49), .inl (cI, 16, .inl (fun _ => 0))), ((u 50), .inl (cI, 16, .inl (fun _ => 0))), ((u 51), .inl (cI, 16, .inl (fun _ => 0))), ((u 52), .inr (6, [.int 3, .ref (u 53), .ref (u 54), .ref (u 55), .ref (u 56), .ref (u 57), .ref (u 58), .int 0, .int 0, .int 0, .int 0, .int 0])), ((u 53), .inl (cI, 16, .inl (fun _ => 0))), ((u 54), .inl (cI, 16, .inl (fun _ => 0))), ((u 55), .inl (cI, 16, .inl (fun _ => 0))), ((u 56), .inl (cI, 16, .inl (fun _ => 0))), ((u 57), .inl (cI, 16, .inl (fun _ => 0))), ((u 58), .inl (cI, 16, .inl (fun _ => 0))), ((u 59), .inr (6, [.int 4, .ref (u 60), .ref (u 61), .ref (u 62), .ref (u 63), .ref (u 64), .ref (u 65), .int 0, .int 0, .int 0, .int 0, .int 0])), ((u 60), .inl (cI, 16, .inl (fun _ => 0))), ((u 61), .inl (cI, 16, .inl (fun _ => 0))), ((u 62), .inl (cI, 16, .inl (fun _ => 0))), ((u 63), .inl (cI, 16, .inl (fun _ => 0))), ((u 64), .inl (cI, 16, .inl (fun _ => 0))), ((u 65), .inl (cI, 16, .inl (fun _ => 0))), ((u 66), .inr (6, [.int 5, .ref (u 67), .ref (u 68), .ref (u 69), .ref (u 70), .ref (u 71), .ref (u 72), .int 0, .int 0, .int 0, .int 0, .int 0])), ((u 67), .inl (cI, 16, .inl (fun _ => 0))), ((u 68), .inl (cI, 16, .inl (fun _ => 0))), ((u 69), .inl (cI, 16, .inl (fun _ => 0))), ((u 70), .inl (cI, 16, .inl (fun _ => 0))), ((u 71), .inl (cI, 16, .inl (fun _ => 0))), ((u 72), .inl (cI, 16, .inl (fun _ => 0))), ((u 73), .inr (6, [.int 6, .ref (u 74), .ref (u 75), .ref (u 76), .ref (u 77), .ref (u 78), .ref (u 79), .int 0, .int 0, .int 0, .int 0, .int 0])), ((u 74), .inl (cI, 16, .inl (fun _ => 0))), ((u 75), .inl (cI, 16, .inl (fun _ => 0))), ((u 76), .inl (cI, 16, .inl (fun _ => 0))), ((u 77), .inl (cI, 16, .inl (fun _ => 0))), ((u 78), .inl (cI, 16, .inl (fun _ => 0))), ((u 79), .inl (cI, 16, .inl (fun _ => 0))), ((u 80), .inr (6, [.int 7, .ref (u 81), .ref (u 82), .ref (u 83), .ref (u 84), .ref (u 85), .ref (u 86), .int 0, .int 0, .int 0, .int 0, .int 0])), ((u 81), .inl (cI, 16, .inl (fun _ => 0))), ((u 82), .inl (cI, 16, .inl (fun _ => 0))), ((u 83), .inl (cI, 16, .inl (fun _ => 0))), ((u 84), .inl (cI, 16, .inl (fun _ => 0))), ((u 85), .inl (cI, 16, .inl (fun _ => 0))), ((u 86), .inl (cI, 16, .inl (fun _ => 0))), ((u 87), .inr (2, [.ref (u 1), .ref (u 88), .ref (u 92), .ref (u 91), .int 0, .int 0, .int 0, .int 0, .int 0, .int 0, .null, .int 0])), ((u 88), .inr (4, [.ref (u 89), .ref (u 90)])), ((u 89), .inl (cI, 8, .inl (fun _ => 0))), ((u 90), .inl (cI, 8, .inl (fun _ => 0))), ((u 91), .inr (0, [.int 0, .int 0, .int 0, .int 0, .int 0, .int 0])), ((u 92), .inr (1, [.ref (u 93), .ref (u 94), .ref (u 95), .ref (u 96), .int 0, .int 0, .null])), ((u 93), .inl (cT, 8, .inr (.inr (.inr (.inr (va_up (va_up (va_up (va_up (va_up (va_up (va_up (va_up (fun _ => none) 0 (some (u 97))) 1 (some (u 104))) 2 (some (u 111))) 3 (some (u 118))) 4 (some (u 125))) 5 (some (u 132))) 6 (some (u 139))) 7 (some (u 146)))))))), ((u 94), .inl (cI, 24, .inl (fun _ => 0))), ((u 95), .inl (cI, 24, .inl (fun _ => 0))), ((u 96), .inl (cT, 24, .inr (.inr (.inr (.inr (fun _ => none)))))), ((u 97), .inr (6, [.int 0, .ref (u 98), .ref (u 99), .ref (u 100), .ref (u 101), .ref (u 102), .ref (u 103), .int 0, .int 0, .int 0, .int 0, .int 0])), ((u 98), .inl (cI, 16, .inl (fun _ => 0))), ((u 99), .inl (cI, 16, .inl (fun _ => 0))), ((u 100), .inl (cI, 16, .inl (fun _ => 0))), ((u 101), .inl (cI, 16, .inl (fun _ => 0))), ((u 102), .inl (cI, 16, .inl (fun _ => 0))), ((u 103), .inl (cI, 16, .inl (fun _ => 0))), ((u 104), .inr (6, [.int 1, .ref (u 105), .ref (u 106), .ref (u 107), .ref (u 108), .ref (u 109), .ref (u 110), .int 0, .int 0, .int 0, .int 0, .int 0])), ((u 105), .inl (cI, 16, .inl (fun _ => 0))), ((u 106), .inl (cI, 16, .inl (fun _ => 0))), ((u 107), .inl (cI, 16, .inl (fun _ => 0))), ((u 108), .inl (cI, 16, .inl (fun _ => 0))), ((u 109), .inl (cI, 16, .inl (fun _ => 0))), ((u 110), .inl (cI, 16, .inl (fun _ => 0))), ((u 111), .inr (6, [.int 2, .ref (u 112), .ref (u 113), .ref (u 114), .ref (u 115), .ref (u 116), .ref (u 117), .int 0, .int 0, .int 0, .int 0, .int 0])), ((u 112), .inl (cI, 16, .inl (fun _ => 0))), ((u 113), .inl (cI, 16, .inl (fun _ => 0))), ((u 114), .inl (cI, 16, .inl (fun _ => 0))), ((u 115), .inl (cI, 16, .inl (fun _ => 0))), ((u 116), .inl (cI, 16, .inl (fun _ => 0))), ((u 117), .inl (cI, 16, .inl (fun _ => 0))), ((u 118), .inr (6, [.int 3, .ref (u 119), .ref (u 120), .ref (u 121), .ref (u 122), .ref (u 123), .ref (u 124), .int 0, .int 0, .int 0, .int 0, .int 0])), ((u 119), .inl (cI, 16, .inl (fun _ => 0))), ((u 120), .inl (cI, 16, .inl (fun _ => 0))), ((u 121), .inl (cI, 16, .inl (fun _ => 0))), ((u 122), .inl (cI, 16, .inl (fun _ => 0))), ((u 123), .inl (cI, 16, .inl (fun _ => 0))), ((u 124), .inl (cI, 16, .inl (fun _ => 0))), ((u 125), .inr (6, [.int 4, .ref (u 126), .ref (u 127), .ref (u 128), .ref (u 129), .ref (u 130), .ref (u 131), .int 0, .int 0, .int 0, .int 0, .int 0])), ((u 126), .inl (cI, 16, .inl (fun _ => 0))), ((u 127), .inl (cI, 16, .inl (fun _ => 0))), ((u 128), .inl (cI, 16, .inl (fun _ => 0))), ((u 129), .inl (cI, 16, .inl (fun _ => 0))), ((u 130), .inl (cI, 16, .inl (fun _ => 0))), ((u 131), .inl (cI, 16, .inl (fun _ => 0))), ((u 132), .inr (6, [.int 5, .ref (u 133), .ref (u 134), .ref (u 135), .ref (u 136), .ref (u 137), .ref (u 138), .int 0, .int 0, .int 0, .int 0, .int 0])), ((u 133), .inl (cI, 16, .inl (fun _ => 0))), ((u 134), .inl (cI, 16, .inl (fun _ => 0))), ((u 135), .inl (cI, 16, .inl (fun _ => 0))), ((u 136), .inl (cI, 16, .inl (fun _ => 0))), ((u 137), .inl (cI, 16, .inl (fun _ => 0))), ((u 138), .inl (cI, 16, .inl (fun _ => 0))), ((u 139), .inr (6, [.int 6, .ref (u 140), .ref (u 141), .ref (u 142), .ref (u 143), .ref (u 144), .ref (u 145), .int 0, .int 0, .int 0, .int 0, .int 0])), ((u 140), .inl (cI, 16, .inl (fun _ => 0))), ((u 141), .inl (cI, 16, .inl (fun _ => 0))), ((u 142), .inl (cI, 16, .inl (fun _ => 0))), ((u 143), .inl (cI, 16, .inl (fun _ => 0))), ((u 144), .inl (cI, 16, .inl (fun _ => 0))), ((u 145), .inl (cI, 16, .inl (fun _ => 0))), ((u 146), .inr (6, [.int 7, .ref (u 147), .ref (u 148), .ref (u 149), .ref (u 150), .ref (u 151), .ref (u 152), .int 0, .int 0, .int 0, .int 0, .int 0])), ((u 147), .inl (cI, 16, .inl (fun _ => 0))), ((u 148), .inl (cI, 16, .inl (fun _ => 0))), ((u 149), .inl (cI, 16, .inl (fun _ => 0))), ((u 150), .inl (cI, 16, .inl (fun _ => 0))), ((u 151), .inl (cI, 16, .inl (fun _ => 0))), ((u 152), .inl (cI, 16, .inl (fun _ => 0)))]
def LR (u : Nat → Nat) (cI : ClassId) : va_W := [((u 0), .inr (8, [.ref (u 1), .ref (u 2), .ref (u 3), .ref (u 4), .int 0, .int 0, .ref (u 5), .ref (u 6), .ref (u 7), .int 200, .int 3, .ref (u 8), .ref (u 9), .int 0, .int 0, .int 0, .int 0, .int 0, .int 0, .int 0, .int 0, .int 0, .int 0, .ref (u 10), .ref (u 11), .int 0, .ref (u 12), .ref (u 13), .ref (u 14), .ref (u 15), .ref (u 16), .ref (u 17), .ref (u 18), .ref (u 19), .ref (u 20), .ref (u 21), .ref (u 22), .int 0, .int 0, .int 0, .int 0, .int 0, .int 0, .int 0, .int 0, .ref (u 23)])), ((u 1), .inl (cI, 4, .inl (upd (upd (upd (upd (fun _ => 0) 0 (-1)) 1 (-1)) 2 (-1)) 3 (-1)))), ((u 2), .inl (cI, 4, .inl (fun _ => 0))), ((u 3), .inl (cI, 240, .inl (fun _ => 0))), ((u 4), .inl (cI, 60, .inl (fun _ => 0))), ((u 5), .inl (cI, 96, .inl (fun _ => 0))), ((u 6), .inl (cI, 8, .inl (fun _ => 0))), ((u 7), .inl (cI, 8, .inl (fun _ => 0))), ((u 8), .inl (cI, 8, .inl (fun _ => 0))), ((u 9), .inl (cI, 8, .inl (fun _ => 0))), ((u 10), .inl (cI, 24, .inl (fun _ => 0))), ((u 11), .inl (cI, 24, .inl (fun _ => 0))), ((u 12), .inl (cI, 8, .inl (fun _ => 0))), ((u 13), .inl (cI, 8, .inl (fun _ => 0))), ((u 14), .inl (cI, 8, .inl (fun _ => 0))), ((u 15), .inl (cI, 8, .inl (fun _ => 0))), ((u 16), .inl (cI, 8, .inl (fun _ => 0))), ((u 17), .inl (cI, 144, .inl (fun _ => 0))), ((u 18), .inl (cI, 144, .inl (fun _ => 0))), ((u 19), .inl (cI, 144, .inl (fun _ => 0))), ((u 20), .inl (cI, 144, .inl (fun _ => 0))), ((u 21), .inl (cI, 144, .inl (fun _ => 0))), ((u 22), .inl (cI, 144, .inl (fun _ => 0))), ((u 23), .inl (cI, 16, .inl (fun _ => 0)))]
set_option maxRecDepth 100000 in
theorem mkC {D : va_G} {u : Nat → Nat} {cI cT cS : ClassId} {H : Heap} (h : va_P D vwCl (LC u cI cT cS) H) : va_P D vwCl (Wd 153 (cfC u cI cT cS) sg0) H := by
  intro k q hq
  obtain ⟨hk, rfl⟩ := Wd_inv hq
  clear hq
  match k, hk with
  | 0, _ => exact h 0 _ rfl
  | 1, _ => exact h 1 _ rfl
  | 2, _ => exact h 2 _ rfl
  | 3, _ => exact h 3 _ rfl
  | 4, _ => exact h 4 _ rfl
  | 5, _ => exact h 5 _ rfl
  | 6, _ => exact h 6 _ rfl
  | 7, _ => exact h 7 _ rfl
  | 8, _ => exact h 8 _ rfl
  | 9, _ => exact h 9 _ rfl
  | 10, _ => exact h 10 _ rfl
  | 11, _ => exact h 11 _ rfl
  | 12, _ => exact at_ext (fun i hi => by rcases lt4 hi with rfl | rfl | rfl | rfl <;> rfl) (h 12 _ rfl)
  | 13, _ => exact h 13 _ rfl
  | 14, _ => exact h 14 _ rfl
  | 15, _ => exact h 15 _ rfl
  | 16, _ => exact h 16 _ rfl
  | 17, _ => exact h 17 _ rfl
  | 18, _ => exact h 18 _ rfl
  | 19, _ => exact h 19 _ rfl
  | 20, _ => exact h 20 _ rfl
  | 21, _ => exact h 21 _ rfl
  | 22, _ => exact h 22 _ rfl
  | 23, _ => exact h 23 _ rfl
  | 24, _ => exact h 24 _ rfl
  | 25, _ => exact h 25 _ rfl
  | 26, _ => exact h 26 _ rfl
  | 27, _ => exact at_ext (fun i hi => by rcases lt8 hi with rfl | rfl | rfl | rfl | rfl | rfl | rfl | rfl <;> rfl) (h 27 _ rfl)
  | 28, _ => exact h 28 _ rfl
  | 29, _ => exact h 29 _ rfl
  | 30, _ => exact at_ext (fun i hi => rfl) (h 30 _ rfl)
  | 31, _ => exact h 31 _ rfl
  | 32, _ => exact h 32 _ rfl
  | 33, _ => exact h 33 _ rfl
  | 34, _ => exact h 34 _ rfl
  | 35, _ => exact h 35 _ rfl
  | 36, _ => exact h 36 _ rfl
  | 37, _ => exact h 37 _ rfl
  | 38, _ => exact h 38 _ rfl
  | 39, _ => exact h 39 _ rfl
  | 40, _ => exact h 40 _ rfl
  | 41, _ => exact h 41 _ rfl
  | 42, _ => exact h 42 _ rfl
  | 43, _ => exact h 43 _ rfl
  | 44, _ => exact h 44 _ rfl
  | 45, _ => exact h 45 _ rfl
  | 46, _ => exact h 46 _ rfl
  | 47, _ => exact h 47 _ rfl
  | 48, _ => exact h 48 _ rfl
  | 49, _ => exact h 49 _ rfl
  | 50, _ => exact h 50 _ rfl
  | 51, _ => exact h 51 _ rfl
  | 52, _ => exact h 52 _ rfl
  | 53, _ => exact h 53 _ rfl
  | 54, _ => exact h 54 _ rfl
  | 55, _ => exact h 55 _ rfl
  | 56, _ => exact h 56 _ rfl
  | 57, _ => exact h 57 _ rfl
  | 58, _ => exact h 58 _ rfl
  | 59, _ => exact h 59 _ rfl
  | 60, _ => exact h 60 _ rfl
  | 61, _ => exact h 61 _ rfl
  | 62, _ => exact h 62 _ rfl
  | 63, _ => exact h 63 _ rfl
  | 64, _ => exact h 64 _ rfl
  | 65, _ => exact h 65 _ rfl
  | 66, _ => exact h 66 _ rfl
  | 67, _ => exact h 67 _ rfl
  | 68, _ => exact h 68 _ rfl
  | 69, _ => exact h 69 _ rfl
  | 70, _ => exact h 70 _ rfl
  | 71, _ => exact h 71 _ rfl
  | 72, _ => exact h 72 _ rfl
  | 73, _ => exact h 73 _ rfl
  | 74, _ => exact h 74 _ rfl
  | 75, _ => exact h 75 _ rfl
  | 76, _ => exact h 76 _ rfl
  | 77, _ => exact h 77 _ rfl
  | 78, _ => exact h 78 _ rfl
  | 79, _ => exact h 79 _ rfl
  | 80, _ => exact h 80 _ rfl
  | 81, _ => exact h 81 _ rfl
  | 82, _ => exact h 82 _ rfl
  | 83, _ => exact h 83 _ rfl
  | 84, _ => exact h 84 _ rfl
  | 85, _ => exact h 85 _ rfl
  | 86, _ => exact h 86 _ rfl
  | 87, _ => exact h 87 _ rfl
  | 88, _ => exact h 88 _ rfl
  | 89, _ => exact h 89 _ rfl
  | 90, _ => exact h 90 _ rfl
  | 91, _ => exact h 91 _ rfl
  | 92, _ => exact h 92 _ rfl
  | 93, _ => exact at_ext (fun i hi => by rcases lt8 hi with rfl | rfl | rfl | rfl | rfl | rfl | rfl | rfl <;> rfl) (h 93 _ rfl)
  | 94, _ => exact h 94 _ rfl
  | 95, _ => exact h 95 _ rfl
  | 96, _ => exact at_ext (fun i hi => rfl) (h 96 _ rfl)
  | 97, _ => exact h 97 _ rfl
  | 98, _ => exact h 98 _ rfl
  | 99, _ => exact h 99 _ rfl
  | 100, _ => exact h 100 _ rfl
  | 101, _ => exact h 101 _ rfl
  | 102, _ => exact h 102 _ rfl
  | 103, _ => exact h 103 _ rfl
  | 104, _ => exact h 104 _ rfl
  | 105, _ => exact h 105 _ rfl
  | 106, _ => exact h 106 _ rfl
  | 107, _ => exact h 107 _ rfl
  | 108, _ => exact h 108 _ rfl
  | 109, _ => exact h 109 _ rfl
  | 110, _ => exact h 110 _ rfl
  | 111, _ => exact h 111 _ rfl
  | 112, _ => exact h 112 _ rfl
  | 113, _ => exact h 113 _ rfl
  | 114, _ => exact h 114 _ rfl
  | 115, _ => exact h 115 _ rfl
  | 116, _ => exact h 116 _ rfl
  | 117, _ => exact h 117 _ rfl
  | 118, _ => exact h 118 _ rfl
  | 119, _ => exact h 119 _ rfl
  | 120, _ => exact h 120 _ rfl
  | 121, _ => exact h 121 _ rfl
  | 122, _ => exact h 122 _ rfl
  | 123, _ => exact h 123 _ rfl
  | 124, _ => exact h 124 _ rfl
  | 125, _ => exact h 125 _ rfl
  | 126, _ => exact h 126 _ rfl
  | 127, _ => exact h 127 _ rfl
  | 128, _ => exact h 128 _ rfl
  | 129, _ => exact h 129 _ rfl
  | 130, _ => exact h 130 _ rfl
  | 131, _ => exact h 131 _ rfl
  | 132, _ => exact h 132 _ rfl
  | 133, _ => exact h 133 _ rfl
  | 134, _ => exact h 134 _ rfl
  | 135, _ => exact h 135 _ rfl
  | 136, _ => exact h 136 _ rfl
  | 137, _ => exact h 137 _ rfl
  | 138, _ => exact h 138 _ rfl
  | 139, _ => exact h 139 _ rfl
  | 140, _ => exact h 140 _ rfl
  | 141, _ => exact h 141 _ rfl
  | 142, _ => exact h 142 _ rfl
  | 143, _ => exact h 143 _ rfl
  | 144, _ => exact h 144 _ rfl
  | 145, _ => exact h 145 _ rfl
  | 146, _ => exact h 146 _ rfl
  | 147, _ => exact h 147 _ rfl
  | 148, _ => exact h 148 _ rfl
  | 149, _ => exact h 149 _ rfl
  | 150, _ => exact h 150 _ rfl
  | 151, _ => exact h 151 _ rfl
  | 152, _ => exact h 152 _ rfl
  | n + 153, hk => exact absurd hk (by omega)
set_option maxRecDepth 100000 in
theorem LC_ad (u : Nat → Nat) (cI cT cS : ClassId) : (LC u cI cT cS).map (fun q => q.1) = (List.range 153).map u := rfl
theorem mkD {L : va_W} {N : Nat} {u : Nat → Nat} {cf : Nat → (Nat → Int32) → Nat × va_E} {σ : Sg} {A : Nat → Prop} (ha : L.map (fun q => q.1) = (List.range N).map u) (hc : ∀ n r, (cf n r).1 = u n) (h : va_D A L) : va_D A (Wd N cf σ) := by
  have key : ∀ (k : Nat) (q : Nat × va_E), (Wd N cf σ)[k]? = some q → ∃ e, L[k]? = some (q.1, e) := fun k q hq => by
    obtain ⟨hk, rfl⟩ := Wd_inv hq
    have e1 : (L.map (fun q => q.1))[k]? = some (u k) := by
      rw [ha, List.getElem?_map, List.getElem?_range hk]
      rfl
    rw [List.getElem?_map] at e1
    cases hL : L[k]? with
    | none => rw [hL] at e1; cases e1
    | some p =>
      rw [hL] at e1
      have e2 : p.1 = u k := Option.some.inj e1
      exact ⟨p.2, by rw [hc, ← e2]⟩
  refine ⟨fun i j p q hi hj hpq => ?_, fun k q hq => ?_⟩
  · obtain ⟨a, ha1⟩ := key i p hi
    obtain ⟨b, hb1⟩ := key j q hj
    exact h.1 i j _ _ ha1 hb1 hpq
  · obtain ⟨a, ha1⟩ := key k q hq
    exact h.2 k (q.1, a) ha1
theorem mkCD {A : Nat → Prop} {u : Nat → Nat} {cI cT cS : ClassId} (h : va_D A (LC u cI cT cS)) : va_D A (Wd 153 (cfC u cI cT cS) sg0) := mkD (LC_ad u cI cT cS) (fun _ _ => rfl) h
set_option maxRecDepth 100000 in
theorem mkR {D : va_G} {u : Nat → Nat} {cI : ClassId} {H : Heap} (h : va_P D vwCl (LR u cI) H) : va_P D vwCl (Wd 24 (cfR u cI) sgR0) H := by
  intro k q hq
  obtain ⟨hk, rfl⟩ := Wd_inv hq
  clear hq
  match k, hk with
  | 0, _ => exact h 0 _ rfl
  | 1, _ => exact h 1 _ rfl
  | 2, _ => exact h 2 _ rfl
  | 3, _ => exact h 3 _ rfl
  | 4, _ => exact h 4 _ rfl
  | 5, _ => exact h 5 _ rfl
  | 6, _ => exact h 6 _ rfl
  | 7, _ => exact h 7 _ rfl
  | 8, _ => exact h 8 _ rfl
  | 9, _ => exact h 9 _ rfl
  | 10, _ => exact h 10 _ rfl
  | 11, _ => exact h 11 _ rfl
  | 12, _ => exact h 12 _ rfl
  | 13, _ => exact h 13 _ rfl
  | 14, _ => exact h 14 _ rfl
  | 15, _ => exact h 15 _ rfl
  | 16, _ => exact h 16 _ rfl
  | 17, _ => exact h 17 _ rfl
  | 18, _ => exact h 18 _ rfl
  | 19, _ => exact h 19 _ rfl
  | 20, _ => exact h 20 _ rfl
  | 21, _ => exact h 21 _ rfl
  | 22, _ => exact h 22 _ rfl
  | 23, _ => exact h 23 _ rfl
  | n + 24, hk => exact absurd hk (by omega)
theorem LR_ad (u : Nat → Nat) (cI : ClassId) : (LR u cI).map (fun q => q.1) = (List.range 24).map u := rfl
theorem mkRD {A : Nat → Prop} {u : Nat → Nat} {cI : ClassId} (h : va_D A (LR u cI)) : va_D A (Wd 24 (cfR u cI) sgR0) := mkD (LR_ad u cI) (fun _ _ => rfl) h
