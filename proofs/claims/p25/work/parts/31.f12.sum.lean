/-! sums round alike -/
def nr (s : Int32) (n : Nat) (e : Int32) : Int32 := zf_X1_nearest s (Int64.ofNat n) e
theorem ofN63 {n : Nat} (h : n < 2 ^ 63) : (Int64.ofNat n).toInt = (n : Int) := Int64.toInt_ofNat_of_lt h
theorem nr_eq {m : Int64} {n : Nat} (hm : m.toInt = (n : Int)) (s e : Int32) : zf_X1_nearest s m e = nr s n e := by
  have : m = Int64.ofNat n := Int64.toInt_inj.mp (by rw [hm, ofN63 (by have := m.toInt_lt; omega)])
  rw [this]
  rfl
def out2 (g l : Int32) (T : Int) (e : Int32) : Int32 := if T = 0 then (if 0 ≤ g ∨ 0 ≤ l then 0 else (-2147483648 : Int32)) else nr (if 0 ≤ T then 0 else (-2147483648 : Int32)) T.natAbs e
def tt (g l : Int32) (X W : Nat) : Int := (if 0 ≤ g then (X : Int) else -(X : Int)) + (if 0 ≤ l then (W : Int) else -(W : Int))
theorem ref166 {g l : Int32} {w0 w1 : Int64} {T : Int} (h : (w1 + w0).toInt = T) (hT : -4611686018427387904 < T ∧ T < 4611686018427387904) : zb_X10_plus_166 l g w0 w1 = some (out2 g l T (zf_X10_powerOf g - 36)) := by
  have t0 : (0 : Int64).toInt = 0 := rfl
  have c36 : (36 : Int32).toInt = 36 := rfl
  have he : -400 ≤ (zf_X10_powerOf g - 36).toInt ∧ (zf_X10_powerOf g - 36).toInt ≤ 400 := by
    obtain ⟨ex, f, h⟩ := fd g
    have i1 := pE_in h.1
    rw [gl_sub rfl (powR h) c36 (by omega)]
    omega
  unfold zb_X10_plus_166 out2
  rw [letb_eq]
  generalize w1 + w0 = S at h
  by_cases z : T = 0
  · have s0 : S = 0 := Int64.toInt_inj.mp (by rw [h, z]; rfl)
    rw [if_pos s0, if_pos z]
    unfold zb_X10_plus_189 zb_X10_plus_190
    by_cases a : 0 ≤ g
    · rw [if_pos a, if_pos (Or.inl a)]
    · rw [if_neg a]
      by_cases b : 0 ≤ l
      · rw [if_pos b, if_pos (Or.inr b)]
      · rw [if_neg b, if_neg (fun w => w.elim a b)]
  · have s0 : ¬ S = 0 := fun w => z (by rw [← h, w]; rfl)
    rw [if_neg s0, if_neg z]
    unfold zb_X10_plus_203 zb_X10_plus_218
    by_cases a : 0 ≤ T
    · have a' : (0 : Int64) ≤ S := by rw [Int64.le_iff_toInt_le, t0, h]; exact a
      have hm : S.toInt = ((T.natAbs : Nat) : Int) := by omega
      rw [if_pos a', if_pos a', if_pos a, NE hm he false, obd_some, if_neg Bool.false_ne_true, nr_eq hm]
    · have a' : ¬ (0 : Int64) ≤ S := by rw [Int64.le_iff_toInt_le, t0, h]; exact a
      have hm : (-S).toInt = ((T.natAbs : Nat) : Int) := by rw [g_negL rfl h (by omega)]; omega
      rw [if_neg a', if_neg a', if_neg a, NE hm he true, obd_some, if_pos rfl, nr_eq hm]
theorem cls135 {a0 a1 g l : Int32} {j : Nat} {W : Int64} {T : Int} (hz : ((a0 &&& a1) &&& (-2147483648 : Int32)) = if 0 ≤ g ∨ 0 ≤ l then 0 else (-2147483648 : Int32)) (h : ((zf_X1_signed g <<< ((nI j).toInt64 &&& 63)) + W).toInt = T) (hT : -4611686018427387904 < T ∧ T < 4611686018427387904) : zb_X1_sum_135 a0 a1 (nI j) g W = out2 g l T (zf_X1_scale g - nI j) := by
  have t0 : (0 : Int64).toInt = 0 := rfl
  unfold zb_X1_sum_135 zb_X1_sum_178 out2
  rw [letb_eq]
  generalize (zf_X1_signed g <<< ((nI j).toInt64 &&& 63)) + W = S at h
  by_cases z : T = 0
  · have s0 : S = 0 := Int64.toInt_inj.mp (by rw [h, z]; rfl)
    rw [if_pos s0, if_pos z, hz, s0]
    unfold zf_X1_nearest
    rw [if_pos (by decide)]
  · have s0 : ¬ S = 0 := fun w => z (by rw [← h, w]; rfl)
    have ea : (if 0 < S then S else -S) = Int64.ofNat T.natAbs := absEq (ofN63 (by omega)) (by omega)
    rw [if_neg s0, if_neg z, ea]
    by_cases a : 0 ≤ T
    · have a' : (0 : Int64) ≤ S := by rw [Int64.le_iff_toInt_le, t0, h]; exact a
      rw [if_pos a', if_pos a]
      rfl
    · have a' : ¬ (0 : Int64) ≤ S := by rw [Int64.le_iff_toInt_le, t0, h]; exact a
      rw [if_neg a', if_neg a]
      rfl
theorem outScale {g l e e' : Int32} {T : Int} {i : Nat} (hi : (T * 2 ^ i).natAbs < 2 ^ 62) (he : -400 ≤ e.toInt ∧ e.toInt ≤ 400) (he' : -400 ≤ e'.toInt ∧ e'.toInt ≤ 400) (hee : e'.toInt = e.toInt - i) : out2 g l (T * 2 ^ i) e' = out2 g l T e := by
  have hp : (0 : Int) < 2 ^ i := Int.pow_pos (by decide)
  unfold out2
  by_cases z : T = 0
  · rw [if_pos (by rw [z, Int.zero_mul]), if_pos z]
  · have z' : ¬ T * 2 ^ i = 0 := fun w => by
      rcases Int.mul_eq_zero.mp w with w | w <;> omega
    have sg : 0 ≤ T * 2 ^ i ↔ 0 ≤ T := by
      constructor
      · intro w
        exact Int.not_lt.mp (fun y => absurd (Int.mul_neg_of_neg_of_pos y hp) (by omega))
      · intro w
        exact Int.mul_nonneg w (by omega)
    have hab : (T * 2 ^ i).natAbs = T.natAbs * 2 ^ i := by rw [Int.natAbs_mul, Int.natAbs_pow]; rfl
    have hp2 := Nat.two_pow_pos i
    have hle : T.natAbs ≤ T.natAbs * 2 ^ i := Nat.le_mul_of_pos_right _ hp2
    rw [hab] at hi
    have ns : ∀ s, nr s (T.natAbs * 2 ^ i) e' = nr s T.natAbs e := fun s => NSC (ofN63 (by omega)) (ofN63 (by omega)) hi he he' hee s
    rw [if_neg z', if_neg z, hab, ns]
    by_cases a : 0 ≤ T
    · rw [if_pos (sg.mpr a), if_pos a]
    · rw [if_neg (fun w => a (sg.mp w)), if_neg a]
theorem outStk {g l e : Int32} {G W j E : Nat} (hj : j = 36 ∨ j = 37 ∨ j = 38) (hA1 : 8388608 ≤ G) (hA2 : G < 16777216) (hW1 : 0 < W) (hW2 : W < 16777216) {p : Int} (he : e.toInt = p - j) (hp : -112 ≤ p ∧ p ≤ 104) (hE : p + 149 = (E : Int)) : out2 g l (tt g l (G * 2 ^ j) W) e = rn (sgn g) E G := by
  have big : W < G * 2 ^ j ∧ G * 2 ^ j + W < 2 ^ 63 := by rcases hj with rfl | rfl | rfl <;> omega
  have st : ∀ s, nr s (G * 2 ^ j + W) e = rn s E G := fun s => STK hj hA1 hA2 hW1 hW2 (Or.inl (ofN63 (by omega))) he hp hE s
  have st' : ∀ s, nr s (G * 2 ^ j - W) e = rn s E G := fun s => STK hj hA1 hA2 hW1 hW2 (Or.inr (ofN63 (by omega))) he hp hE s
  unfold out2 tt sgn
  generalize G * 2 ^ j = X at *
  by_cases a : 0 ≤ g <;> by_cases b : 0 ≤ l
  · rw [if_pos a, if_pos b, if_pos a, if_neg (by omega), if_pos (by omega), show ((X : Int) + (W : Int)).natAbs = X + W by omega, st]
  · rw [if_pos a, if_neg b, if_pos a, if_neg (by omega), if_pos (by omega), show ((X : Int) + -(W : Int)).natAbs = X - W by omega, st']
  · rw [if_neg a, if_pos b, if_neg a, if_neg (by omega), if_neg (by omega), show (-(X : Int) + (W : Int)).natAbs = X - W by omega, st']
  · rw [if_neg a, if_neg b, if_neg a, if_neg (by omega), if_neg (by omega), show (-(X : Int) + -(W : Int)).natAbs = X + W by omega, st]
theorem sigT {x : Int64} (h : -16777216 < x.toInt ∧ x.toInt < 16777216) : (zf_J13_signum_95d88 x).toInt64.toInt = if x.toInt = 0 then 0 else if 0 < x.toInt then 1 else -1 := by
  have t0 : (0 : Int64).toInt = 0 := rfl
  have t1 : (-1 : Int64).toInt = -1 := rfl
  have hs := shrL x (k := 63) (by decide)
  unfold zf_J13_signum_95d88
  rw [show (63 : Int32) = nI 63 from rfl]
  by_cases z : x.toInt = 0
  · have : x = 0 := Int64.toInt_inj.mp (z.trans t0.symm)
    subst this
    decide
  · rw [if_neg z]
    by_cases p : 0 < x.toInt
    · have e1 : x >>> ((nI 63).toInt64 &&& 63) = 0 := Int64.toInt_inj.mp (by rw [hs, t0]; omega)
      have e2 : ((-x).toUInt64 >>> ((nI 63).toInt64.toUInt64 &&& Int64.toUInt64 63)).toInt64 = 1 := by
        apply Int64.toBitVec_inj.mp
        apply BitVec.eq_of_toNat_eq
        show ((-x).toUInt64 >>> ((nI 63).toInt64.toUInt64 &&& Int64.toUInt64 63)).toNat = 1
        rw [UInt64.toNat_shiftRight, show ((nI 63).toInt64.toUInt64 &&& Int64.toUInt64 63).toNat % 64 = 63 by decide, Nat.shiftRight_eq_div_pow]
        show (-x).toBitVec.toNat / 2 ^ 63 = 1
        have n1 : (-x).toInt = -x.toInt := g_negL rfl rfl (by omega)
        have n2 := BitVec.toInt_eq_toNat_cond (-x).toBitVec
        have n3 : (-x).toBitVec.toInt = -x.toInt := n1
        have n4 := (-x).toBitVec.isLt
        split at n2 <;> omega
      rw [if_pos p, e1, e2]
      decide
    · have e1 : x >>> ((nI 63).toInt64 &&& 63) = -1 := Int64.toInt_inj.mp (by rw [hs, t1]; omega)
      rw [if_neg p, e1]
      have e2 : ∀ y : Int64, (-1 : Int64) ||| y = -1 := fun y => by
        apply Int64.toBitVec_inj.mp
        rw [Int64.toBitVec_or, show (-1 : Int64).toBitVec = BitVec.allOnes 64 by decide, BitVec.allOnes_or]
      rw [e2]
      decide
theorem ttScale (g l : Int32) (X W P : Nat) : tt g l (X * P) (W * P) = tt g l X W * (P : Int) := by
  unfold tt
  by_cases a : 0 ≤ g <;> by_cases b : 0 ≤ l
  · rw [if_pos a, if_pos b, if_pos a, if_pos b, Int.natCast_mul, Int.natCast_mul, Int.add_mul]
  · rw [if_pos a, if_neg b, if_pos a, if_neg b, Int.natCast_mul, Int.natCast_mul, Int.add_mul, Int.neg_mul]
  · rw [if_neg a, if_pos b, if_neg a, if_pos b, Int.natCast_mul, Int.natCast_mul, Int.add_mul, Int.neg_mul]
  · rw [if_neg a, if_neg b, if_neg a, if_neg b, Int.natCast_mul, Int.natCast_mul, Int.add_mul, Int.neg_mul, Int.neg_mul]
theorem tt_in (g l : Int32) {X W : Nat} (h : X + W < 2 ^ 62) : (-4611686018427387904 < tt g l X W ∧ tt g l X W < 4611686018427387904) ∧ (tt g l X W).natAbs < 2 ^ 62 := by
  unfold tt
  by_cases a : 0 ≤ g <;> by_cases b : 0 ≤ l <;> simp only [a, b, if_true, if_false] <;> omega
