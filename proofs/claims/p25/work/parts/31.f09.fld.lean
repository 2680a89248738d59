/-! the fields of a float -/
theorem toIntU (x : Int32) : x.toInt = if x.toBitVec.toNat < 2147483648 then (x.toBitVec.toNat : Int) else (x.toBitVec.toNat : Int) - 4294967296 := by
  show x.toBitVec.toInt = _
  have hU : x.toBitVec.toNat < 4294967296 := x.toBitVec.isLt
  rw [BitVec.toInt_eq_toNat_cond]
  split <;> split <;> omega
theorem andm (x : Int32) {j : Nat} (hj : j ≤ 31) (M : Int32) (hM : M.toBitVec.toNat = 2 ^ j - 1) : x &&& M = nI (x.toBitVec.toNat % 2 ^ j) := by
  apply Int32.toBitVec_inj.mp
  apply BitVec.eq_of_toNat_eq
  have h1 : x.toBitVec.toNat % 2 ^ j < 2 ^ j := Nat.mod_lt _ (Nat.two_pow_pos j)
  have h2 : 2 ^ j ≤ 2 ^ 31 := Nat.pow_le_pow_right (by decide) hj
  rw [nI_vec (by omega), Int32.toBitVec_and, BitVec.toNat_and, hM, Nat.and_two_pow_sub_one_eq_mod]
theorem shr23 (y : Int32) : (y >>> ((23 : Int32) &&& 31)).toInt = y.toInt / 8388608 := by
  show (y.toBitVec.sshiftRight' (((23 : Int32) &&& 31).toBitVec.smod 32)).toInt = _
  rw [BitVec.sshiftRight_eq', show (((23 : Int32) &&& 31).toBitVec.smod 32).toNat = 23 by decide, BitVec.toInt_sshiftRight, Int.shiftRight_eq_div_pow]
  rfl
theorem andE (U : Nat) : U &&& (255 <<< 23) = (U / 8388608 % 256) * 8388608 := by
  have e : (U / 8388608 % 256) * 8388608 = ((U >>> 23) &&& 255) <<< 23 := by
    rw [show (255 : Nat) = 2 ^ 8 - 1 from rfl, Nat.and_two_pow_sub_one_eq_mod, Nat.shiftRight_eq_div_pow, Nat.shiftLeft_eq]
  rw [e]
  apply Nat.eq_of_testBit_eq
  intro i
  rw [Nat.testBit_and, Nat.testBit_shiftLeft, Nat.testBit_shiftLeft, Nat.testBit_and, Nat.testBit_shiftRight]
  by_cases h : i ≥ 23
  · rw [show 23 + (i - 23) = i by omega]
    simp [h]
  · simp [h]
theorem andS (U : Nat) : U &&& (1 <<< 31) = (U / 2147483648 % 2) * 2147483648 := by
  have e : (U / 2147483648 % 2) * 2147483648 = ((U >>> 31) &&& 1) <<< 31 := by
    rw [show (1 : Nat) = 2 ^ 1 - 1 from rfl, Nat.and_two_pow_sub_one_eq_mod, Nat.shiftRight_eq_div_pow, Nat.shiftLeft_eq]
  rw [e]
  apply Nat.eq_of_testBit_eq
  intro i
  rw [Nat.testBit_and, Nat.testBit_shiftLeft, Nat.testBit_shiftLeft, Nat.testBit_and, Nat.testBit_shiftRight]
  by_cases h : i ≥ 31
  · rw [show 31 + (i - 31) = i by omega]
    simp [h]
  · simp [h]
def FD (x : Int32) (ex f : Nat) : Prop := ex < 256 ∧ f < 8388608 ∧ (x &&& (2147483647 : Int32)) = nI (ex * 8388608 + f) ∧ (x >>> ((23 : Int32) &&& 31)) &&& (255 : Int32) = nI ex ∧ (x &&& (8388607 : Int32)) = nI f ∧ ((x &&& (2139095040 : Int32)) = 0 ↔ ex = 0)
theorem fdU (x : Int32) : FD x (x.toBitVec.toNat / 8388608 % 256) (x.toBitVec.toNat % 8388608) := by
  have hU : x.toBitVec.toNat < 4294967296 := x.toBitVec.isLt
  refine ⟨by omega, by omega, ?_, ?_, ?_, ?_⟩
  · rw [andm x (j := 31) (by decide) 2147483647 rfl]
    rw [show x.toBitVec.toNat % 2 ^ 31 = x.toBitVec.toNat / 8388608 % 256 * 8388608 + x.toBitVec.toNat % 8388608 by omega]
  · rw [andm _ (j := 8) (by decide) 255 rfl]
    have h1 := shr23 x
    have h2 := toIntU x
    have h3 := toIntU (x >>> ((23 : Int32) &&& 31))
    generalize (x >>> ((23 : Int32) &&& 31)) = y at *
    have hY : y.toBitVec.toNat < 4294967296 := y.toBitVec.isLt
    have : y.toBitVec.toNat % 2 ^ 8 = x.toBitVec.toNat / 8388608 % 256 := by
      split at h2 <;> split at h3 <;> omega
    rw [this]
  · rw [andm x (j := 23) (by decide) 8388607 rfl]
  · have t : (x &&& (2139095040 : Int32)).toBitVec.toNat = (x.toBitVec.toNat / 8388608 % 256) * 8388608 := by
      rw [Int32.toBitVec_and, BitVec.toNat_and, show (2139095040 : Int32).toBitVec.toNat = 255 <<< 23 from rfl, andE]
    constructor
    · intro z
      rw [z] at t
      have : (0 : Int32).toBitVec.toNat = 0 := rfl
      omega
    · intro z
      apply Int32.toBitVec_inj.mp
      apply BitVec.eq_of_toNat_eq
      rw [t, z]
      rfl
theorem fd (x : Int32) : ∃ ex f, FD x ex f := ⟨_, _, fdU x⟩
def pE (ex : Nat) : Int := if ex = 0 then -149 else (ex : Int) - 150
def pF (ex f : Nat) : Nat := if ex = 0 then f else f + 8388608
theorem powR {x : Int32} {ex f : Nat} (h : FD x ex f) : (zf_X10_powerOf x).toInt = pE ex := by
  obtain ⟨h1, h2, h3, h4, h5, h6⟩ := h
  have c : (150 : Int32).toInt = 150 := rfl
  unfold zf_X10_powerOf zb_X10_powerOf_18 pE
  rw [letb_eq, h4]
  by_cases z : ex = 0
  · subst z
    rw [if_pos (show nI 0 = 0 from rfl), if_pos rfl]
    rfl
  · rw [if_neg (show ¬ nI ex = 0 from fun w => z (nI_inj (b := 0) (by omega) (by decide) w)), if_neg z, gl_sub rfl (nI_toInt (n := ex) (by omega)) c (by omega)]
theorem powC {x : Int32} {ex f : Nat} (h : FD x ex f) : (zf_X1_scale x).toInt = pE ex := by
  obtain ⟨h1, h2, h3, h4, h5, h6⟩ := h
  have c : (1 : Int32).toInt = 1 := rfl
  have c2 : (-149 : Int32).toInt = -149 := rfl
  unfold zf_X1_scale pE
  have e : (nI (ex * 8388608 + f)) >>> ((23 : Int32) &&& 31) = nI ex := by
    apply Int32.toInt_inj.mp
    rw [shr23, nI_toInt (by omega), nI_toInt (by omega)]
    omega
  rw [h3, e, letb_eq]
  by_cases z : ex = 0
  · subst z
    rfl
  · rw [if_neg (show ¬ nI ex < (1 : Int32) from nI_nlt (b := 1) (by omega) (by omega)), if_neg z]
    have a : (nI ex - 1).toInt = (ex : Int) - 1 := gl_sub rfl (nI_toInt (n := ex) (by omega)) c (by omega)
    rw [gl_add rfl a c2 (by omega)]
    omega
theorem powEq (x : Int32) : zf_X1_scale x = zf_X10_powerOf x := by
  obtain ⟨ex, f, h⟩ := fd x
  exact Int32.toInt_inj.mp ((powC h).trans (powR h).symm)
theorem plR {x : Int32} {ex f : Nat} (h : FD x ex f) : (zf_X10_placesOf x).toInt = (pF ex f : Int) := by
  obtain ⟨h1, h2, h3, h4, h5, h6⟩ := h
  unfold zf_X10_placesOf zb_X10_placesOf_29 pF
  rw [letb_eq, h4, h5]
  by_cases z : ex = 0
  · subst z
    rw [if_pos (show nI 0 = 0 from rfl), if_pos rfl, Int32.toInt_toInt64, nI_toInt (by omega)]
  · rw [if_neg (show ¬ nI ex = 0 from fun w => z (nI_inj (b := 0) (by omega) (by decide) w)), if_neg z, Int32.toInt_toInt64]
    have e : nI f ||| (8388608 : Int32) = nI (f + 8388608) := by
      rw [Int32.or_comm]
      exact (or23 (E := 1) (f := f) (by decide) h2).trans (by rw [show 1 * 8388608 + f = f + 8388608 by omega])
    rw [e, nI_toInt (by omega)]
theorem sgC {x : Int32} {ex f : Nat} (h : FD x ex f) : (zf_X1_signed x).toInt = if 0 ≤ x then (pF ex f : Int) else -(pF ex f : Int) := by
  obtain ⟨h1, h2, h3, h4, h5, h6⟩ := h
  unfold zf_X1_signed zb_X1_signed_19 zb_X1_signed_29 pF
  rw [letb_eq, letb_eq, h5]
  have e0 : (nI f).toInt64.toInt = (f : Int) := by rw [Int32.toInt_toInt64, nI_toInt (by omega)]
  have e1 : ((nI f).toInt64 + (8388608 : Int64)).toInt = ((f + 8388608 : Nat) : Int) := by
    rw [g_addL rfl e0 rfl (by show _ ≤ (f : Int) + 8388608 ∧ (f : Int) + 8388608 ≤ _; omega)]
    rfl
  by_cases z : ex = 0
  · rw [if_pos (h6.mpr z), if_pos z]
    by_cases y : 0 ≤ x
    · rw [if_pos y, if_pos y, e0]
    · rw [if_neg y, if_neg y, g_negL rfl e0 (by omega)]
  · rw [if_neg (fun w => z (h6.mp w)), if_neg z]
    by_cases y : 0 ≤ x
    · rw [if_pos y, if_pos y, e1]
    · rw [if_neg y, if_neg y, g_negL rfl e1 (by omega)]
theorem pF_lt {ex f : Nat} (h : f < 8388608) : pF ex f < 16777216 := by unfold pF; split <;> omega
/-- the sign bit -/
def sgn (x : Int32) : Int32 := if 0 ≤ x then 0 else (-2147483648 : Int32)
theorem sgn_and (x : Int32) : x &&& (-2147483648 : Int32) = sgn x := by
  have hU : x.toBitVec.toNat < 4294967296 := x.toBitVec.isLt
  have h2 := toIntU x
  have t0 : (0 : Int32).toInt = 0 := rfl
  apply Int32.toBitVec_inj.mp
  apply BitVec.eq_of_toNat_eq
  rw [Int32.toBitVec_and, BitVec.toNat_and, show (-2147483648 : Int32).toBitVec.toNat = 1 <<< 31 from rfl, andS]
  unfold sgn
  by_cases c : x.toBitVec.toNat < 2147483648
  · rw [if_pos c] at h2
    rw [if_pos (by rw [Int32.le_iff_toInt_le, t0]; omega), show x.toBitVec.toNat / 2147483648 % 2 = 0 by omega]
    rfl
  · rw [if_neg c] at h2
    rw [if_neg (by rw [Int32.le_iff_toInt_le, t0]; omega), show x.toBitVec.toNat / 2147483648 % 2 = 1 by omega]
    rfl
theorem sgn_xor (x y : Int32) : (x ^^^ y) &&& (-2147483648 : Int32) = if (0 ≤ x ↔ 0 ≤ y) then 0 else (-2147483648 : Int32) := by
  have e : (x ^^^ y) &&& (-2147483648 : Int32) = (x &&& (-2147483648 : Int32)) ^^^ (y &&& (-2147483648 : Int32)) := by
    apply Int32.toBitVec_inj.mp
    rw [Int32.toBitVec_and, Int32.toBitVec_xor, Int32.toBitVec_xor, Int32.toBitVec_and, Int32.toBitVec_and]
    ext i
    simp only [BitVec.getElem_and, BitVec.getElem_xor]
    cases x.toBitVec[i] <;> cases y.toBitVec[i] <;> simp
  rw [e, sgn_and, sgn_and]
  unfold sgn
  by_cases a : 0 ≤ x <;> by_cases b : 0 ≤ y <;> simp [a, b] <;> rfl
theorem sgn_and2 (x y : Int32) : (x &&& y) &&& (-2147483648 : Int32) = if 0 ≤ x ∨ 0 ≤ y then 0 else (-2147483648 : Int32) := by
  have e : (x &&& y) &&& (-2147483648 : Int32) = (x &&& (-2147483648 : Int32)) &&& (y &&& (-2147483648 : Int32)) := by
    apply Int32.toBitVec_inj.mp
    rw [Int32.toBitVec_and, Int32.toBitVec_and, Int32.toBitVec_and, Int32.toBitVec_and, Int32.toBitVec_and]
    ext i
    simp only [BitVec.getElem_and]
    cases x.toBitVec[i] <;> cases y.toBitVec[i] <;> simp
  rw [e, sgn_and, sgn_and]
  unfold sgn
  by_cases a : 0 ≤ x <;> by_cases b : 0 ≤ y <;> simp [a, b] <;> rfl
theorem fe_nan (x : Int32) : zf_X10_isNan x = zf_X1_isNan x := rfl
theorem fe_less (x y : Int32) : zf_X10_isLess x y = zf_X1_isLess x y := rfl
