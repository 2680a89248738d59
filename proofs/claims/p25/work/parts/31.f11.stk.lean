/-! sums: what lies far below counts only by its sign -/
theorem shlS (x : Int64) {k : Nat} (h : k < 64) (h1 : -9223372036854775808 ≤ x.toInt * 2 ^ k ∧ x.toInt * 2 ^ k < 9223372036854775808) : (x <<< ((nI k).toInt64 &&& 63)).toInt = x.toInt * 2 ^ k := by
  rw [k63 k h]
  show (x.toBitVec <<< ((Int64.ofNat k).toBitVec.smod 64)).toInt = _
  rw [BitVec.shiftLeft_eq', smod63 k h, BitVec.toInt_shiftLeft]
  have c : (x.toBitVec.toNat : Int) = x.toInt ∨ (x.toBitVec.toNat : Int) = x.toInt + ((2 ^ 64 : Nat) : Int) := by
    have := BitVec.toInt_eq_toNat_cond x.toBitVec
    show _ = x.toBitVec.toInt ∨ _ = x.toBitVec.toInt + _
    split at this <;> omega
  rw [Nat.shiftLeft_eq, Int.natCast_mul]
  have hc : ((2 ^ k : Nat) : Int) = (2 : Int) ^ k := by push_cast; rfl
  rw [hc]
  rcases c with c | c
  · rw [c]
    exact Int.bmod_eq_of_le (by omega) (by omega)
  · rw [c, Int.add_mul, Int.add_mul_bmod_self_left]
    exact Int.bmod_eq_of_le (by omega) (by omega)
theorem rqA {n A B W : Nat} (hB : 1 ≤ B) (hn : n = W + A * 2 ^ B) (hW : W < 2 ^ (B - 1)) : rq n (B : Int) = A := by
  have e : 2 ^ B = 2 ^ (B - 1) * 2 := by rw [← Nat.pow_succ, show (B - 1).succ = B by omega]
  have h1 : n % 2 ^ B = W := by rw [hn, Nat.add_mul_mod_self_right, Nat.mod_eq_of_lt (by omega)]
  have h2 : n / 2 ^ B = A := by rw [hn, Nat.add_mul_div_right _ _ (Nat.two_pow_pos B), Nat.div_eq_of_lt (by omega), Nat.zero_add]
  unfold rq
  rw [if_neg (by omega), Int.toNat_natCast, h1, h2, if_neg (by omega)]
theorem rqB {n A B W : Nat} (hB : 1 ≤ B) (hn : n + W = (A + 1) * 2 ^ B) (hW0 : 0 < W) (hW : W < 2 ^ (B - 1)) : rq n (B : Int) = A + 1 := by
  have e : 2 ^ B = 2 ^ (B - 1) * 2 := by rw [← Nat.pow_succ, show (B - 1).succ = B by omega]
  have hn' : n = (2 ^ B - W) + A * 2 ^ B := by rw [Nat.add_mul] at hn; omega
  have h1 : n % 2 ^ B = 2 ^ B - W := by rw [hn', Nat.add_mul_mod_self_right, Nat.mod_eq_of_lt (by omega)]
  have h2 : n / 2 ^ B = A := by rw [hn', Nat.add_mul_div_right _ _ (Nat.two_pow_pos B), Nat.div_eq_of_lt (by omega), Nat.zero_add]
  unfold rq
  rw [if_neg (by omega), Int.toNat_natCast, h1, h2, if_pos (by omega)]
theorem STK36 {m : Int64} {A W E : Nat} (hA1 : 8388608 ≤ A) (hA2 : A < 16777216) (hW1 : 0 < W) (hW2 : W < 16777216) (hm : m.toInt = ((A * 68719476736 + W : Nat) : Int) ∨ m.toInt = ((A * 68719476736 - W : Nat) : Int)) {e : Int32} {p : Int} (he : e.toInt = p - 36) (hp : -112 ≤ p ∧ p ≤ 104) (hE : p + 149 = (E : Int)) (s : Int32) : zf_X1_nearest s m e = rn s E A := by
  have w1 : W < 2 ^ (36 - 1) := by omega
  have w2 : W < 2 ^ (35 - 1) := by omega
  rcases hm with hm | hm
  · have r : rq (A * 68719476736 + W) ((36 : Nat) : Int) = A := rqA (W := W) (by decide) (by omega) w1
    rw [NV (b := ((36 : Nat) : Int)) (k := 59) (E := E) hm (by omega) (by omega) (by decide) (by omega) (by omega) (by omega) (Or.inl (by decide)) s, r]
  · by_cases c : A = 8388608
    · subst c
      have r : rq (8388608 * 68719476736 - W) ((35 : Nat) : Int) = 16777215 + 1 := rqB (W := W) (by decide) (by omega) hW1 w2
      rw [NV (b := ((35 : Nat) : Int)) (k := 58) (E := E - 1) hm (by omega) (by omega) (by decide) (by omega) (by omega) (by omega) (Or.inl (by decide)) s, r]
      unfold rn
      rw [if_pos (by omega), if_pos (by omega), show (E - 1) * 8388608 + (16777215 + 1) = E * 8388608 + 8388608 by omega]
    · obtain ⟨A', rfl⟩ : ∃ A', A = A' + 1 := ⟨A - 1, by omega⟩
      have r : rq ((A' + 1) * 68719476736 - W) ((36 : Nat) : Int) = A' + 1 := rqB (W := W) (by decide) (by omega) hW1 w1
      rw [NV (b := ((36 : Nat) : Int)) (k := 59) (E := E) hm (by omega) (by omega) (by decide) (by omega) (by omega) (by omega) (Or.inl (by decide)) s, r]
theorem STK37 {m : Int64} {A W E : Nat} (hA1 : 8388608 ≤ A) (hA2 : A < 16777216) (hW1 : 0 < W) (hW2 : W < 16777216) (hm : m.toInt = ((A * 137438953472 + W : Nat) : Int) ∨ m.toInt = ((A * 137438953472 - W : Nat) : Int)) {e : Int32} {p : Int} (he : e.toInt = p - 37) (hp : -112 ≤ p ∧ p ≤ 104) (hE : p + 149 = (E : Int)) (s : Int32) : zf_X1_nearest s m e = rn s E A := by
  have w1 : W < 2 ^ (37 - 1) := by omega
  have w2 : W < 2 ^ (36 - 1) := by omega
  rcases hm with hm | hm
  · have r : rq (A * 137438953472 + W) ((37 : Nat) : Int) = A := rqA (W := W) (by decide) (by omega) w1
    rw [NV (b := ((37 : Nat) : Int)) (k := 60) (E := E) hm (by omega) (by omega) (by decide) (by omega) (by omega) (by omega) (Or.inl (by decide)) s, r]
  · by_cases c : A = 8388608
    · subst c
      have r : rq (8388608 * 137438953472 - W) ((36 : Nat) : Int) = 16777215 + 1 := rqB (W := W) (by decide) (by omega) hW1 w2
      rw [NV (b := ((36 : Nat) : Int)) (k := 59) (E := E - 1) hm (by omega) (by omega) (by decide) (by omega) (by omega) (by omega) (Or.inl (by decide)) s, r]
      unfold rn
      rw [if_pos (by omega), if_pos (by omega), show (E - 1) * 8388608 + (16777215 + 1) = E * 8388608 + 8388608 by omega]
    · obtain ⟨A', rfl⟩ : ∃ A', A = A' + 1 := ⟨A - 1, by omega⟩
      have r : rq ((A' + 1) * 137438953472 - W) ((37 : Nat) : Int) = A' + 1 := rqB (W := W) (by decide) (by omega) hW1 w1
      rw [NV (b := ((37 : Nat) : Int)) (k := 60) (E := E) hm (by omega) (by omega) (by decide) (by omega) (by omega) (by omega) (Or.inl (by decide)) s, r]
theorem STK38 {m : Int64} {A W E : Nat} (hA1 : 8388608 ≤ A) (hA2 : A < 16777216) (hW1 : 0 < W) (hW2 : W < 16777216) (hm : m.toInt = ((A * 274877906944 + W : Nat) : Int) ∨ m.toInt = ((A * 274877906944 - W : Nat) : Int)) {e : Int32} {p : Int} (he : e.toInt = p - 38) (hp : -112 ≤ p ∧ p ≤ 104) (hE : p + 149 = (E : Int)) (s : Int32) : zf_X1_nearest s m e = rn s E A := by
  have w1 : W < 2 ^ (38 - 1) := by omega
  have w2 : W < 2 ^ (37 - 1) := by omega
  rcases hm with hm | hm
  · have r : rq (A * 274877906944 + W) ((38 : Nat) : Int) = A := rqA (W := W) (by decide) (by omega) w1
    rw [NV (b := ((38 : Nat) : Int)) (k := 61) (E := E) hm (by omega) (by omega) (by decide) (by omega) (by omega) (by omega) (Or.inl (by decide)) s, r]
  · by_cases c : A = 8388608
    · subst c
      have r : rq (8388608 * 274877906944 - W) ((37 : Nat) : Int) = 16777215 + 1 := rqB (W := W) (by decide) (by omega) hW1 w2
      rw [NV (b := ((37 : Nat) : Int)) (k := 60) (E := E - 1) hm (by omega) (by omega) (by decide) (by omega) (by omega) (by omega) (Or.inl (by decide)) s, r]
      unfold rn
      rw [if_pos (by omega), if_pos (by omega), show (E - 1) * 8388608 + (16777215 + 1) = E * 8388608 + 8388608 by omega]
    · obtain ⟨A', rfl⟩ : ∃ A', A = A' + 1 := ⟨A - 1, by omega⟩
      have r : rq ((A' + 1) * 274877906944 - W) ((38 : Nat) : Int) = A' + 1 := rqB (W := W) (by decide) (by omega) hW1 w1
      rw [NV (b := ((38 : Nat) : Int)) (k := 61) (E := E) hm (by omega) (by omega) (by decide) (by omega) (by omega) (by omega) (Or.inl (by decide)) s, r]
theorem STK {m : Int64} {A j W E : Nat} (hj : j = 36 ∨ j = 37 ∨ j = 38) (hA1 : 8388608 ≤ A) (hA2 : A < 16777216) (hW1 : 0 < W) (hW2 : W < 16777216) (hm : m.toInt = ((A * 2 ^ j + W : Nat) : Int) ∨ m.toInt = ((A * 2 ^ j - W : Nat) : Int)) {e : Int32} {p : Int} (he : e.toInt = p - j) (hp : -112 ≤ p ∧ p ≤ 104) (hE : p + 149 = (E : Int)) (s : Int32) : zf_X1_nearest s m e = rn s E A := by
  rcases hj with rfl | rfl | rfl
  · exact STK36 hA1 hA2 hW1 hW2 hm he hp hE s
  · exact STK37 hA1 hA2 hW1 hW2 hm he hp hE s
  · exact STK38 hA1 hA2 hW1 hW2 hm he hp hE s
