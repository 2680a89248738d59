/-! quotient and rest of both roundings -/
theorem blS {n : Nat} (h1 : 1 ≤ n) (h2 : n < 2 ^ 63) : ∃ k, k < 63 ∧ bl 63 n = k + 1 ∧ 2 ^ k ≤ n ∧ n < 2 ^ (k + 1) := by
  have a := Nat.log2_self_le (n := n) (by omega)
  have b := Nat.lt_log2_self (n := n)
  refine ⟨n.log2, ?_, blU 63 n _ h2 a b, a, b⟩
  exact (Nat.pow_lt_pow_iff_right (by decide : 1 < 2)).mp (Nat.lt_of_le_of_lt a h2)
theorem one_shl {B : Nat} (h : B ≤ 62) : ((1 : Int64) <<< ((nI B).toInt64 &&& 63)).toInt = 2 ^ B := by
  have hp : (2 : Int) ^ B ≤ 2 ^ 62 := by
    have := Nat.pow_le_pow_right (n := 2) (by decide) h
    exact_mod_cast this
  have e : (1 : Int64).toInt = 1 := rfl
  rw [shlL 1 (by omega) (by rw [e]; decide) (by rw [e]; omega), e, Int.one_mul]
theorem restR {m : Int64} {n B : Nat} (hm : m.toInt = (n : Int)) (hB : B ≤ 62) : (m &&& (((1 : Int64) <<< ((nI B).toInt64 &&& 63)) - (1 : Int64))).toInt = ((n % 2 ^ B : Nat) : Int) := by
  have hn : n < 2 ^ 63 := by have := m.toInt_lt; omega
  have hp : 2 ^ B ≤ 2 ^ 62 := Nat.pow_le_pow_right (by decide) hB
  have h0 : 0 < 2 ^ B := Nat.two_pow_pos B
  have e1 : (((1 : Int64) <<< ((nI B).toInt64 &&& 63)) - (1 : Int64)).toInt = ((2 ^ B - 1 : Nat) : Int) := by
    rw [g_subL rfl (one_shl hB) rfl (by
      show _ ≤ (2 : Int) ^ B - 1 ∧ (2 : Int) ^ B - 1 ≤ _
      have : ((2 ^ B : Nat) : Int) = (2 : Int) ^ B := by push_cast; rfl
      omega)]
    show (2 : Int) ^ B - 1 = _
    have : ((2 ^ B : Nat) : Int) = (2 : Int) ^ B := by push_cast; rfl
    omega
  have t : (m &&& (((1 : Int64) <<< ((nI B).toInt64 &&& 63)) - (1 : Int64))).toBitVec.toNat = n % 2 ^ B := by
    rw [Int64.toBitVec_and, BitVec.toNat_and, toU hm, toU e1, Nat.and_two_pow_sub_one_eq_mod]
  show (m &&& (((1 : Int64) <<< ((nI B).toInt64 &&& 63)) - (1 : Int64))).toBitVec.toInt = _
  have hl : n % 2 ^ B < 2 ^ B := Nat.mod_lt _ h0
  rw [BitVec.toInt_eq_toNat_cond, t, if_pos (by omega)]
theorem quoT {m : Int64} {n B : Nat} (hm : m.toInt = (n : Int)) (hB : B ≤ 62) : (m >>> ((nI B).toInt64 &&& 63)).toInt = ((n / 2 ^ B : Nat) : Int) := by
  rw [shrL m (by omega), hm]
  push_cast
  rfl
theorem restC {m : Int64} {n B : Nat} (hm : m.toInt = (n : Int)) (hB : B ≤ 62) : (m - ((m >>> ((nI B).toInt64 &&& 63)) <<< ((nI B).toInt64 &&& 63))).toInt = ((n % 2 ^ B : Nat) : Int) := by
  have hn : n < 2 ^ 63 := by have := m.toInt_lt; omega
  have hd := Nat.div_add_mod n (2 ^ B)
  have hq := quoT hm hB
  have hc : ((2 ^ B : Nat) : Int) = (2 : Int) ^ B := by push_cast; rfl
  have hmul : ((n / 2 ^ B : Nat) : Int) * 2 ^ B = ((2 ^ B * (n / 2 ^ B) : Nat) : Int) := by rw [← hc, ← Int.natCast_mul, Nat.mul_comm]
  have e1 : ((m >>> ((nI B).toInt64 &&& 63)) <<< ((nI B).toInt64 &&& 63)).toInt = ((2 ^ B * (n / 2 ^ B) : Nat) : Int) := by
    rw [shlL _ (by omega) (by rw [hq]; generalize n / 2 ^ B = z; omega) (by rw [hq, hmul]; omega), hq, hmul]
  rw [g_subL rfl hm e1 (by omega)]
  omega
theorem restE {m : Int64} {n B : Nat} (hm : m.toInt = (n : Int)) (hB : B ≤ 62) : (m - ((m >>> ((nI B).toInt64 &&& 63)) <<< ((nI B).toInt64 &&& 63))) = (m &&& (((1 : Int64) <<< ((nI B).toInt64 &&& 63)) - (1 : Int64))) := Int64.toInt_inj.mp ((restC hm hB).trans (restR hm hB).symm)
