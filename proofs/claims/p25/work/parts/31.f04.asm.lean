/-! the last lines of both roundings -/
theorem v23 : ∀ E, E < 256 → nI E <<< ((23 : Int32) &&& 31) = nI (E * 8388608) := by
  intro E hE
  apply Int32.toBitVec_inj.mp
  apply BitVec.eq_of_toNat_eq
  show ((nI E).toBitVec <<< (((23 : Int32) &&& 31).toBitVec.smod 32)).toNat = _
  rw [BitVec.shiftLeft_eq', show (((23 : Int32) &&& 31).toBitVec.smod 32).toNat = 23 by decide, BitVec.toNat_shiftLeft, nI_vec (by omega), nI_vec (by omega), Nat.shiftLeft_eq]
  omega
theorem and23 {q : Nat} (h : q < 2 ^ 31) : nI q &&& (8388607 : Int32) = nI (q % 8388608) := by
  apply Int32.toBitVec_inj.mp
  apply BitVec.eq_of_toNat_eq
  rw [Int32.toBitVec_and, BitVec.toNat_and, nI_vec (by omega), nI_vec (by omega), show (8388607 : Int32).toBitVec.toNat = 2 ^ 23 - 1 from rfl, Nat.and_two_pow_sub_one_eq_mod]
theorem or23 {E f : Nat} (hE : E < 256) (hf : f < 8388608) : nI (E * 8388608) ||| nI f = nI (E * 8388608 + f) := by
  apply Int32.toBitVec_inj.mp
  apply BitVec.eq_of_toNat_eq
  rw [Int32.toBitVec_or, BitVec.toNat_or, nI_vec (by omega), nI_vec (by omega), nI_vec (by omega), show E * 8388608 = E <<< 23 by rw [Nat.shiftLeft_eq], Nat.shiftLeft_add_eq_or_of_lt (by omega)]
theorem asmR {s e b : Int32} {E Q : Nat} {w1 w0 : Int64} (hq : (w1 + w0).toInt = (Q : Int)) (hQ : Q ≤ 16777216) (hE : e.toInt + b.toInt + 149 = (E : Int)) (hE2 : E < 2000) (hn : 0 < E → 8388608 ≤ Q) : zb_X10_nearest_191 e b s w0 w1 = some (if nI E < (254 : Int32) then s ||| ((nI E <<< ((23 : Int32) &&& 31)) + nI Q) else s ||| (2139095040 : Int32)) := by
  have he := e.toInt_lt
  have he' := e.le_toInt
  have c1 : (16777216 : Int64).toInt = 16777216 := rfl
  have c2 : (8388608 : Int64).toInt = 8388608 := rfl
  have c3 : (150 : Int32).toInt = 150 := rfl
  unfold zb_X10_nearest_191 zb_X10_nearest_217 zb_X10_nearest_272
  rw [letb_eq, letb_eq]
  have hsum : (e + b).toInt = (E : Int) - 149 := by
    rw [gl_add rfl rfl rfl (by omega)]
    omega
  have key : ∀ E', E' < 256 → ∀ f, f < 8388608 → s ||| nI E' <<< ((23 : Int32) &&& 31) ||| nI f = s ||| nI (E' * 8388608 + f) := fun E' h f hf => by
    rw [v23 E' h, Int32.or_assoc, or23 h hf]
  by_cases q24 : Q = 16777216
  · subst q24
    have e1 : (w1 + w0) = (16777216 : Int64) := Int64.toInt_inj.mp (by rw [hq, c1]; rfl)
    have e2 : (e + b + 1 + 150) = nI (E + 2) := by
      apply Int32.toInt_inj.mp
      have a1 : (e + b + 1).toInt = (E : Int) - 149 + 1 := gl_add rfl hsum rfl (by omega)
      rw [gl_add rfl a1 c3 (by omega), nI_toInt (by omega)]
      omega
    rw [if_pos e1, if_pos (show (8388608 : Int64) ≤ 8388608 by decide), letb_eq, e2]
    by_cases k : E < 253
    · rw [if_pos (show nI (E + 2) < (255 : Int32) from nI_lt (b := 255) (by omega) (by decide)), if_pos (show nI E < (254 : Int32) from nI_lt (b := 254) (by omega) (by decide)), show ((8388608 : Int64).toInt32 &&& (8388607 : Int32)) = nI 0 by decide, key (E + 2) (by omega) 0 (by decide), v23 E (by omega), nI_add]
      rw [show (E + 2) * 8388608 + 0 = E * 8388608 + 16777216 by omega]
    · rw [if_neg (show ¬ nI (E + 2) < (255 : Int32) from nI_nlt (b := 255) (by omega) (by omega))]
      by_cases k2 : E = 253
      · subst k2
        rfl
      · rw [if_neg (show ¬ nI E < (254 : Int32) from nI_nlt (b := 254) (by omega) (by omega))]
  · have e1 : ¬ (w1 + w0) = (16777216 : Int64) := fun z => by rw [z, c1] at hq; omega
    have e2 : (w1 + w0).toInt32 = nI Q := lo32 hq (by omega)
    have e3 : (e + b + 150) = nI (E + 1) := by
      apply Int32.toInt_inj.mp
      rw [gl_add rfl hsum c3 (by omega), nI_toInt (by omega)]
      omega
    rw [if_neg e1, e2, e3]
    by_cases q23 : 8388608 ≤ Q
    · rw [if_pos (by rw [Int64.le_iff_toInt_le, hq, c2]; omega), letb_eq]
      by_cases k : E < 254
      · rw [if_pos (show nI (E + 1) < (255 : Int32) from nI_lt (b := 255) (by omega) (by decide)), if_pos (show nI E < (254 : Int32) from nI_lt (b := 254) (by omega) (by decide)), and23 (by omega), key (E + 1) (by omega) _ (by omega), v23 E (by omega), nI_add]
        rw [show (E + 1) * 8388608 + Q % 8388608 = E * 8388608 + Q by omega]
      · rw [if_neg (show ¬ nI (E + 1) < (255 : Int32) from nI_nlt (b := 255) (by omega) (by omega)), if_neg (show ¬ nI E < (254 : Int32) from nI_nlt (b := 254) (by omega) (by omega))]
    · have E0 : E = 0 := by
        rcases Nat.eq_zero_or_pos E with h | h
        · exact h
        · exact absurd (hn h) q23
      subst E0
      rw [if_neg (by rw [Int64.le_iff_toInt_le, hq, c2]; omega), if_pos (show nI 0 < (254 : Int32) by decide), v23 0 (by decide), nI_add, Nat.zero_mul, Nat.zero_add]
