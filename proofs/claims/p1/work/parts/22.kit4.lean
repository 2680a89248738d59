theorem gjoin {α : Type} {p : Program} {l : Launch} {e : Env} {R : Room} {s : State} {m : MethodId} {args : Array Value} {below : List Frame} {meth : Method} {c : Code} {H0 : Heap} {L0 : List Loc} {cells slots : Nat} {Q : State → Prop} {g : JFrame} (pc2 : Nat) (Inv : α → Heap → List Loc → Array Slot → Prop) (k1 : ∀ (y : α) (H : Heap) (locs : List Loc) (ls : Array Slot), Inv y H locs ls → W p l e R s m args below meth c H locs cells slots Q (F0 m pc2 ls [])) (k2 : (∀ (y : α) (H : Heap) (locs : List Loc) (ls : Array Slot), Inv y H locs ls → W p l e R s m args below meth c H locs cells slots Q (F0 m pc2 ls [])) → W p l e R s m args below meth c H0 L0 cells slots Q g) : W p l e R s m args below meth c H0 L0 cells slots Q g := k2 k1
theorem g_mask23 (x : Int32) : 0 ≤ (x &&& 8388607).toInt ∧ (x &&& 8388607).toInt ≤ 8388607 := by
  have h1 : (x &&& 8388607).toBitVec = x.toBitVec &&& 8388607#32 := rfl
  have h2 : (x.toBitVec &&& 8388607#32).toNat ≤ 8388607 := by
    rw [BitVec.toNat_and]
    exact Nat.and_le_right
  have h3 : (x &&& 8388607).toInt = ((x.toBitVec &&& 8388607#32).toNat : Int) := by
    show (x &&& 8388607).toBitVec.toInt = _
    rw [h1, BitVec.toInt_eq_toNat_of_lt (by omega)]
  rw [h3]
  omega
theorem g_mask24 (x : Int32) : 0 ≤ (x &&& 8388607 ||| 8388608).toInt ∧ (x &&& 8388607 ||| 8388608).toInt < 16777216 := by
  have h1 : (x &&& 8388607 ||| 8388608).toBitVec = x.toBitVec &&& 8388607#32 ||| 8388608#32 := rfl
  have h0 : (x.toBitVec &&& 8388607#32).toNat < 2 ^ 24 := by
    rw [BitVec.toNat_and]
    exact Nat.lt_of_le_of_lt Nat.and_le_right (by decide)
  have h2 : (x.toBitVec &&& 8388607#32 ||| 8388608#32).toNat < 2 ^ 24 := by
    rw [BitVec.toNat_or]
    exact Nat.or_lt_two_pow h0 (by decide)
  have h3 : (x &&& 8388607 ||| 8388608).toInt = ((x.toBitVec &&& 8388607#32 ||| 8388608#32).toNat : Int) := by
    show (x &&& 8388607 ||| 8388608).toBitVec.toInt = _
    rw [h1, BitVec.toInt_eq_toNat_of_lt (by omega)]
  rw [h3]
  omega
theorem g_shr1 (y : Int64) : (y >>> ((1 : Int32).toInt64 &&& 63)).toInt = y.toInt / 2 := by
  have h1 : ((1 : Int32).toInt64 &&& 63) = (1 : Int64) := by decide
  rw [h1]
  have h2 : (y >>> (1 : Int64)).toInt = (y.toBitVec.sshiftRight' ((1 : Int64).toBitVec.smod 64)).toInt := rfl
  have h3 : ((1 : Int64).toBitVec.smod 64).toNat = 1 := by decide
  rw [h2, BitVec.toInt_sshiftRight', h3, Int.shiftRight_eq_div_pow]
  rfl
theorem g_neg64 {x : Int64} (h : x.toInt < 0 ∧ -2147483648 ≤ x.toInt) : 0 ≤ (-x).toInt := by
  obtain ⟨h1, h2⟩ := h
  rw [Int64.toInt_neg, show (2 ^ 64 : Nat) = 18446744073709551616 from rfl, Int.bmod_eq_of_le (by omega) (by omega)]
  omega
theorem g_mul64 {a b : Int64} (ha : 0 ≤ a.toInt ∧ a.toInt < 16777216) (hb : 0 ≤ b.toInt ∧ b.toInt < 16777216) : 0 ≤ (a * b).toInt := by
  have h1 : 0 ≤ a.toInt * b.toInt := Int.mul_nonneg ha.1 hb.1
  have h2 : a.toInt * b.toInt ≤ 16777216 * 16777216 := Int.mul_le_mul (by omega) (by omega) hb.1 (by decide)
  rw [Int64.toInt_mul, show (2 ^ 64 : Nat) = 18446744073709551616 from rfl]
  generalize a.toInt * b.toInt = z at h1 h2
  rw [Int.bmod_eq_of_le (by omega) (by omega)]
  exact h1
