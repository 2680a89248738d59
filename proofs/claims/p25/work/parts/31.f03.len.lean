/-! the class's length is the reference's -/
theorem bl0 : ∀ f, bl f 0 = 0
  | 0 => rfl
  | f + 1 => by rw [bl, if_pos rfl]
theorem blU : ∀ (f n k : Nat), n < 2 ^ f → 2 ^ k ≤ n → n < 2 ^ (k + 1) → bl f n = k + 1 := by
  intro f
  induction f with
  | zero =>
    intro n k h1 h2 h3
    have := Nat.two_pow_pos k
    omega
  | succ f ih =>
    intro n k h1 h2 h3
    have hp := Nat.two_pow_pos k
    rw [bl, if_neg (by omega)]
    cases k with
    | zero =>
      have : n = 1 := by omega
      subst this
      rw [show (1 : Nat) / 2 = 0 from rfl, bl0]
    | succ k =>
      rw [Nat.pow_succ] at h1 h2 h3
      rw [ih (n / 2) k (by omega) (by omega) (by omega)]
theorem LZ.bl {c v : Nat} {x : Int32} (h : LZ c v x) (hc : c < 64) (hv : v < 2 ^ 63) : nI (c + 1) - x = nI (bl 63 v) := by
  obtain ⟨r, h1, rfl, h3, h4⟩ := h
  rw [blU 63 v (c - r) hv h3 h4]
  apply Int32.toInt_inj.mp
  rw [gl_sub rfl (nI_toInt (n := c + 1) (by omega)) (nI_toInt (n := r) (by omega)) (by omega), nI_toInt (by omega)]
  omega
theorem toU {x : Int64} {n : Nat} (hx : x.toInt = (n : Int)) : x.toBitVec.toNat = n := by
  have h0 : x.toBitVec.toInt = (n : Int) := hx
  have := BitVec.toInt_eq_toNat_cond x.toBitVec
  split at this <;> omega
theorem lo32 {x : Int64} {n : Nat} (hx : x.toInt = (n : Int)) (hn : n < 2 ^ 31) : x.toInt32 = nI n := by
  apply Int32.toInt_inj.mp
  rw [Int64.toInt_toInt32, hx, nI_toInt hn]
  exact Int.bmod_eq_of_le (by omega) (by omega)
theorem hi32 {x : Int64} {n : Nat} (hx : x.toInt = (n : Int)) : ((x.toUInt64 >>> ((32 : Int32).toInt64.toUInt64 &&& Int64.toUInt64 63)).toInt64).toInt32 = nI (n / 2 ^ 32) := by
  have hn : n < 2 ^ 63 := by have := x.toInt_lt; omega
  have e : ((32 : Int32).toInt64.toUInt64 &&& Int64.toUInt64 63) = UInt64.ofNat 32 := by decide
  rw [e]
  have t : (x.toUInt64 >>> UInt64.ofNat 32).toNat = n / 2 ^ 32 := by
    rw [UInt64.toNat_shiftRight, show (UInt64.ofNat 32).toNat % 64 = 32 by decide, Nat.shiftRight_eq_div_pow]
    congr 1
    exact toU hx
  refine lo32 ?_ (by omega)
  show (x.toUInt64 >>> UInt64.ofNat 32).toBitVec.toInt = _
  rw [BitVec.toInt_eq_toNat_cond]
  have t' : (x.toUInt64 >>> UInt64.ofNat 32).toBitVec.toNat = n / 2 ^ 32 := t
  rw [t', if_pos (by omega)]
theorem lengthC {x : Int64} {n : Nat} (hx : x.toInt = (n : Int)) (h1 : 1 ≤ n) : (64 : Int32) - zf_J13_numberOfLeadingZeros_95d88 x = nI (bl 63 n) := by
  have hn : n < 2 ^ 63 := by have := x.toInt_lt; omega
  unfold zf_J13_numberOfLeadingZeros_95d88 zb_J13_numberOfLeadingZeros_95d88_25
  rw [hi32 hx, letb_eq]
  by_cases q : n < 2 ^ 32
  · rw [show n / 2 ^ 32 = 0 by omega, if_pos (show nI 0 = 0 from rfl)]
    by_cases q2 : n < 2 ^ 31
    · rw [lo32 hx q2]
      have h := lz32 h1 q2
      have e := h.bl (by decide) hn
      obtain ⟨r, r1, r2, _⟩ := h
      rw [r2] at e ⊢
      rw [← e]
      apply Int32.toInt_inj.mp
      have a1 : ((32 : Int32) + nI r).toInt = 32 + (r : Int) := gl_add rfl rfl (nI_toInt (by omega)) (by omega)
      rw [gl_sub rfl rfl a1 (by show (-2147483648 : Int) ≤ 64 - (32 + (r : Int)) ∧ 64 - (32 + (r : Int)) ≤ 2147483647; omega), gl_sub rfl (nI_toInt (n := 31 + 1) (by decide)) (nI_toInt (n := r) (by omega)) (by omega)]
      show (64 : Int) - (32 + (r : Int)) = _
      omega
    · have e : x.toInt32.toInt = (n : Int) - 4294967296 := by
        rw [Int64.toInt_toInt32, hx]
        have : ((n : Int)).bmod (2 ^ 32) = (n : Int) - 4294967296 := by
          rw [Int.bmod_def]
          split <;> omega
        exact this
      have t0 : (0 : Int32).toInt = 0 := rfl
      unfold zf_J6_numberOfLeadingZeros_0f7a4 zb_J6_numberOfLeadingZeros_0f7a4_14
      rw [if_neg (fun z => by rw [Int32.lt_iff_toInt_lt, e, t0] at z; omega), if_neg (fun z => by rw [z, t0] at e; omega), blU 63 n 31 hn (by omega) (by omega)]
      rfl
  · have h := lz32 (v := n / 2 ^ 32) (by omega) (by omega)
    rw [if_neg (show ¬ nI (n / 2 ^ 32) = 0 from fun z => by have := nI_inj (b := 0) (by omega) (by decide) z; omega)]
    have h2 : LZ 63 n _ := LZ.up (c := 63) (s := 32) h (by decide)
    exact h2.bl (by decide) hn
