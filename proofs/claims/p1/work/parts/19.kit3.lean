def mixPn : Nat → Int64 → Int64
  | 0, h => h
  | n + 1, h => mixL [-2147483648, -2147483648, -2147483648, -2147483648, 0, 0, -1] (mixPn n h)
theorem g_nat60 {x : Int32} (h : 0 ≤ x.toInt ∧ x.toInt ≤ 60) : ∃ N : Nat, N ≤ 60 ∧ x = nI N := by
  refine ⟨x.toInt.toNat, by omega, Int32.toInt_inj.mp ?_⟩
  rw [nI_toInt (by omega)]
  omega
theorem g_in60 {x y : Int32} {i k : Nat} (ey : y = nI k + x) (ex : x = nI i) (h : k + i < 240) : vp_in y 240 := by
  rw [ey, ex, nI_add]
  exact vp_in_nI h (by decide)
