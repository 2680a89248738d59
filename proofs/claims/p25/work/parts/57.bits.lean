/-! registers as bits -/
def bt (s : Int32) (y : Nat) : Bool := s.toBitVec.getLsbD y
def bi (y : Nat) : Int32 := (1 : Int32) <<< (nI y &&& 31)
theorem bi_vec {y : Nat} (h : y < 8) : (bi y).toBitVec = BitVec.twoPow 32 y := by
  have : y = 0 ∨ y = 1 ∨ y = 2 ∨ y = 3 ∨ y = 4 ∨ y = 5 ∨ y = 6 ∨ y = 7 := by omega
  rcases this with rfl | rfl | rfl | rfl | rfl | rfl | rfl | rfl <;> decide
theorem isIn_bt (s : Int32) {y : Nat} (h : y < 8) : zf_X10_isIn s (nI y) = bt s y := by
  unfold zf_X10_isIn zb_X10_isIn_14 bt
  have e : (s >>> (nI y &&& 31)).toBitVec = s.toBitVec.sshiftRight y := by
    have : y = 0 ∨ y = 1 ∨ y = 2 ∨ y = 3 ∨ y = 4 ∨ y = 5 ∨ y = 6 ∨ y = 7 := by omega
    rcases this with rfl | rfl | rfl | rfl | rfl | rfl | rfl | rfl <;> rfl
  have e3 : (s.toBitVec.sshiftRight y).getLsbD 0 = s.toBitVec.getLsbD y := by
    rw [BitVec.getLsbD_sshiftRight, if_pos (by omega)]
    simp
  have e2 : ((s >>> (nI y &&& 31)) &&& (1 : Int32)).toBitVec = if s.toBitVec.getLsbD y then BitVec.twoPow 32 0 else 0#32 := by
    rw [Int32.toBitVec_and, e, show (1 : Int32).toBitVec = BitVec.twoPow 32 0 from rfl, BitVec.and_twoPow, e3]
  cases hb : s.toBitVec.getLsbD y with
  | true =>
    rw [hb] at e2
    rw [if_pos (Int32.toBitVec_inj.mp e2)]
  | false =>
    rw [hb] at e2
    rw [if_neg (fun q => by rw [q] at e2; exact absurd e2 (by decide))]
theorem bi_and (s : Int32) {y : Nat} (h : y < 8) : bi y &&& (s ^^^ (-1 : Int32)) = if bt s y then 0 else bi y := by
  apply Int32.toBitVec_inj.mp
  rw [Int32.toBitVec_and, bi_vec h, BitVec.and_comm, BitVec.and_twoPow, Int32.toBitVec_xor, show (-1 : Int32).toBitVec = BitVec.allOnes 32 from rfl, BitVec.getLsbD_xor, BitVec.getLsbD_allOnes]
  unfold bt
  cases s.toBitVec.getLsbD y with
  | true => simp; intro q; omega
  | false => simp [show y < 32 by omega, bi_vec h]
theorem bt_or (a b : Int32) (y : Nat) : bt (a ||| b) y = (bt a y || bt b y) := by
  unfold bt
  rw [Int32.toBitVec_or, BitVec.getLsbD_or]
theorem bt_bi {y z : Nat} (hy : y < 8) (hz : z < 8) : bt (bi y) z = decide (y = z) := by
  unfold bt
  rw [bi_vec hy, BitVec.getLsbD_twoPow]
  by_cases q : y = z
  · simp [q, show z < 32 by omega]
  · simp [q]
theorem or_and3 (a b c : Int32) : (a ||| b) &&& c = (a &&& c) ||| (b &&& c) := by
  apply Int32.toBitVec_inj.mp
  simp only [Int32.toBitVec_and, Int32.toBitVec_or]
  ext i
  simp
  cases a.toBitVec[i] <;> cases b.toBitVec[i] <;> cases c.toBitVec[i] <;> rfl
theorem and_nn (a b c : Int32) : (a &&& (b ^^^ (-1 : Int32))) &&& (c ^^^ (-1 : Int32)) = a &&& ((b ||| c) ^^^ (-1 : Int32)) := by
  apply Int32.toBitVec_inj.mp
  simp only [Int32.toBitVec_and, Int32.toBitVec_or, Int32.toBitVec_xor, show (-1 : Int32).toBitVec = BitVec.allOnes 32 from rfl]
  ext i
  simp only [BitVec.getElem_and, BitVec.getElem_or, BitVec.getElem_xor, BitVec.getElem_allOnes]
  cases a.toBitVec[i] <;> cases b.toBitVec[i] <;> cases c.toBitVec[i] <;> rfl
theorem bc0 : zf_J6_bitCount_0f7a4 0 = 0 := by decide
theorem bc1 {y : Nat} (h : y < 8) : zf_J6_bitCount_0f7a4 (bi y) = 1 := by
  have : y = 0 ∨ y = 1 ∨ y = 2 ∨ y = 3 ∨ y = 4 ∨ y = 5 ∨ y = 6 ∨ y = 7 := by omega
  rcases this with rfl | rfl | rfl | rfl | rfl | rfl | rfl | rfl <;> decide
theorem bc2 {y z : Nat} (hy : y < 8) (hz : z < 8) (h : y ≠ z) : zf_J6_bitCount_0f7a4 (bi y ||| bi z) = 2 := by
  have : ∀ y, y < 8 → ∀ z, z < 8 → y ≠ z → zf_J6_bitCount_0f7a4 (bi y ||| bi z) = 2 := by decide
  exact this y hy z hz h
