/-! both roundings agree -/
theorem NE0 {m : Int64} {n : Nat} (hm : m.toInt = (n : Int)) {e : Int32} (he : -400 ≤ e.toInt ∧ e.toInt ≤ 400) (s : Int32) : zb_X10_nearest_10 m e s = some (zf_X1_nearest s m e) := by
  have hn : n < 2 ^ 63 := by have := m.toInt_lt; omega
  have t24 : (24 : Int32).toInt = 24 := rfl
  have t23 : (23 : Int32).toInt = 23 := rfl
  have t1 : (1 : Int32).toInt = 1 := rfl
  have tm : (-149 : Int32).toInt = -149 := rfl
  unfold zb_X10_nearest_10 zf_X1_nearest
  by_cases m0 : m = 0
  · rw [if_pos m0, if_pos m0]
  · have n1 : 1 ≤ n := by
      rcases Nat.eq_zero_or_pos n with h | h
      · subst h
        have hx0 : m = 0 := Int64.toInt_inj.mp hm
        exact absurd hx0 m0
      · exact h
    rw [if_neg m0, if_neg m0, lengthR hm, obd_some, lengthC hm n1]
    obtain ⟨k, k1, k2, k3, k4⟩ := blS n1 hn
    rw [k2]
    clear k2
    have a1 : (nI (k + 1) - 24).toInt = (k : Int) - 23 := by
      rw [gl_sub rfl (nI_toInt (n := k + 1) (by omega)) t24 (by omega)]
      omega
    have a2 : nI (k + 1) - 23 - 1 = nI (k + 1) - 24 := by
      apply Int32.toInt_inj.mp
      have : (nI (k + 1) - 23).toInt = (k : Int) - 22 := by
        rw [gl_sub rfl (nI_toInt (n := k + 1) (by omega)) t23 (by omega)]
        omega
      rw [a1, gl_sub rfl this t1 (by omega)]
      omega
    have a3 : ((-149 : Int32) - e).toInt = -149 - e.toInt := gl_sub rfl tm rfl (by omega)
    rw [letb_eq, letb_eq, letb_eq, a2]
    clear a2
    generalize nI (k + 1) - 24 = X at a1 ⊢
    generalize (-149 : Int32) - e = Y at a3 ⊢
    have a4 : (e + X).toInt = e.toInt + ((k : Int) - 23) := by
      clear k3 k4 hn
      exact gl_add rfl rfl a1 (by omega)
    by_cases c : -149 ≤ e.toInt + ((k : Int) - 23)
    · have c1 : (-149 : Int32) ≤ e + X := by rw [Int32.le_iff_toInt_le, a4, tm]; exact c
      have c2 : ¬ X < Y := by
        rw [Int32.lt_iff_toInt_lt, a1, a3]
        clear k3 k4 hn
        omega
      rw [if_pos c1, if_neg c2]
      exact NE1 hm k3 k4 k1 he (Or.inl ⟨a1, by rw [a1]; exact c⟩)
    · have c1 : ¬ (-149 : Int32) ≤ e + X := by rw [Int32.le_iff_toInt_le, a4, tm]; exact c
      have c2 : X < Y := by
        rw [Int32.lt_iff_toInt_lt, a1, a3]
        clear k3 k4 hn
        omega
      rw [if_neg c1, if_pos c2]
      exact NE1 hm k3 k4 k1 he (Or.inr ⟨a3, by rw [a3]; clear k3 k4 hn; omega⟩)
theorem NE {m : Int64} {n : Nat} (hm : m.toInt = (n : Int)) {e : Int32} (he : -400 ≤ e.toInt ∧ e.toInt ≤ 400) (g : Bool) : zf_X10_nearest g m e = some (zf_X1_nearest (if g = true then (-2147483648 : Int32) else 0) m e) := by
  unfold zf_X10_nearest
  cases g
  · exact NE0 hm he 0
  · exact NE0 hm he (-2147483648)
