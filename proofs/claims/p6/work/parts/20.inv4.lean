/-! how long one step of the reference can go on -/
def PH (dr : Nat → Int32) (tr rec mn sk : Int32) : Int := 20 * (48 - sm dr 24) + (if tr = -1 then (if rec = 0 then (if sk = 0 then 12 else 1) else (if 0 < mn.toInt then 13 else 2)) else 11 - tr.toInt)
theorem g_nIm1 {n : Nat} (h : n < 2 ^ 31) : ¬ nI n = -1 := fun q => by
  have h9 := congrArg Int32.toInt q
  rw [nI_toInt h] at h9
  have h8 : ((-1 : Int32)).toInt = -1 := rfl
  omega
theorem PH_t {dr : Nat → Int32} {t : Nat} {rec mn sk : Int32} (h : t < 8) : PH dr (nI t) rec mn sk = 20 * (48 - sm dr 24) + (11 - (t : Int)) := by
  unfold PH
  rw [if_neg (g_nIm1 (by omega)), nI_toInt (by omega)]
theorem PH_0 {dr : Nat → Int32} {mn sk : Int32} (h : sk = 0) : PH dr (-1) 0 mn sk = 20 * (48 - sm dr 24) + 12 := by
  unfold PH
  rw [if_pos rfl, if_pos rfl, if_pos h]
theorem PH_s {dr : Nat → Int32} {mn : Int32} : PH dr (-1) 0 mn 1 = 20 * (48 - sm dr 24) + 1 := by
  unfold PH
  rw [if_pos rfl, if_pos rfl, if_neg (by decide)]
theorem PH_r1 {dr : Nat → Int32} {mn sk : Int32} (h : 0 < mn.toInt) : PH dr (-1) 1 mn sk = 20 * (48 - sm dr 24) + 13 := by
  unfold PH
  rw [if_pos rfl, if_neg (by decide), if_pos h]
theorem PH_r0 {dr : Nat → Int32} {sk : Int32} : PH dr (-1) 1 0 sk = 20 * (48 - sm dr 24) + 2 := by
  unfold PH
  rw [if_pos rfl, if_neg (by decide), if_neg (by decide)]
theorem PH_rge {dr : Nat → Int32} {mn sk : Int32} : 20 * (48 - sm dr 24) + 2 ≤ PH dr (-1) 1 mn sk := by
  unfold PH
  rw [if_pos rfl, if_neg (by decide)]
  split <;> omega
theorem PH_nn {T : Nat} {dr le : Nat → Int32} {tr ey rec mn sk : Int32} (hT : T ≤ 8) (hd : DR dr) (ht : tr = -1 ∨ ∃ t e : Nat, t < T ∧ tr = nI t ∧ ey = nI e ∧ (e : Int) < (le t).toInt) : 0 ≤ PH dr tr rec mn sk := by
  have h := sm_in hd 24 (Nat.le_refl 24)
  rcases ht with q | ⟨t, e, q1, q2, _⟩
  · unfold PH
    rw [if_pos q]
    split
    · split <;> omega
    · split <;> omega
  · rw [q2, PH_t (by omega)]
    omega
theorem RT.some {f g : Nat → Int32} {p a : Int32} {n : Nat} (h : RT f g p a n) (c : ¬ a = -1) : ∃ t, t < n ∧ a = nI t ∧ f t = p ∧ g t = -1 := by
  rcases h with ⟨q, _⟩ | q
  · exact absurd q c
  · exact q
