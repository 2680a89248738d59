/-! numbers: what an int's arithmetic is while nothing overflows -/
theorem gl_add {x a b : Int32} {A B : Int} (e : x = a + b) (ha : a.toInt = A) (hb : b.toInt = B) (h : -2147483648 ≤ A + B ∧ A + B ≤ 2147483647) : x.toInt = A + B := by
  rw [e, Int32.toInt_add, ha, hb, show (2 ^ 32 : Nat) = 4294967296 from rfl, Int.bmod_eq_of_le (by omega) (by omega)]
theorem gl_sub {x a b : Int32} {A B : Int} (e : x = a - b) (ha : a.toInt = A) (hb : b.toInt = B) (h : -2147483648 ≤ A - B ∧ A - B ≤ 2147483647) : x.toInt = A - B := by
  rw [e, Int32.toInt_sub, ha, hb, show (2 ^ 32 : Nat) = 4294967296 from rfl, Int.bmod_eq_of_le (by omega) (by omega)]
theorem gl_mul {x a b : Int32} {A B : Int} (e : x = a * b) (ha : a.toInt = A) (hb : b.toInt = B) (h : -2147483648 ≤ A * B ∧ A * B ≤ 2147483647) : x.toInt = A * B := by
  rw [e, Int32.toInt_mul, ha, hb, show (2 ^ 32 : Nat) = 4294967296 from rfl]
  generalize A * B = z at h
  rw [Int.bmod_eq_of_le (by omega) (by omega)]
theorem gl_rem8 {x a : Int32} (e : x = a - a / 8 * 8) : (-7 ≤ x.toInt ∧ x.toInt ≤ 7) ∧ (0 ≤ a.toInt → 0 ≤ x.toInt) := by
  have h1 := a.le_toInt
  have h2 := a.toInt_lt
  have hd : (a / 8).toInt = a.toInt.tdiv 8 := Int32.toInt_div_of_ne_right a 8 (by decide)
  have hq : (0 ≤ a.toInt ∧ a.toInt.tdiv 8 = a.toInt / 8) ∨ (a.toInt < 0 ∧ a.toInt.tdiv 8 = -((-a.toInt) / 8)) := by
    by_cases h0 : 0 ≤ a.toInt
    · exact Or.inl ⟨h0, Int.tdiv_eq_ediv_of_nonneg h0⟩
    · refine Or.inr ⟨by omega, ?_⟩
      have h3 : (-a.toInt).tdiv 8 = (-a.toInt) / 8 := Int.tdiv_eq_ediv_of_nonneg (by omega)
      rw [← h3, Int.neg_tdiv, Int.neg_neg]
  generalize a.toInt.tdiv 8 = z at hd hq
  have hm : (a / 8 * 8).toInt = z * 8 := gl_mul rfl hd (show ((8 : Int32)).toInt = 8 from rfl) (by omega)
  have hx : x.toInt = a.toInt - z * 8 := gl_sub e rfl hm (by omega)
  rw [hx]
  omega
theorem g_clamp (x : Int32) : x.toNatClampNeg = x.toInt.toNat := rfl
theorem g_inI {x : Int32} {N : Nat} (h : 0 ≤ x.toInt ∧ x.toInt < (N : Int)) : vp_in x N := vp_in_iff.mpr h
/-- codes as the reference keeps them: four numbers a point -/
def CV (f : Nat → Int32) : Prop := ∀ j : Nat, j < 24 → (0 ≤ (f (4 * j + 1)).toInt ∧ (f (4 * j + 1)).toInt ≤ 23) ∧ (0 ≤ (f (4 * j + 3)).toInt ∧ (f (4 * j + 3)).toInt ≤ 7)
theorem CV.a {f : Nat → Int32} (h : CV f) {x p : Int32} (hp : 0 ≤ p.toInt ∧ p.toInt < 24) (hx : x.toInt = 4 * p.toInt + 1) : 0 ≤ (f x.toNatClampNeg).toInt ∧ (f x.toNatClampNeg).toInt ≤ 23 := by
  have e : x.toNatClampNeg = 4 * p.toInt.toNat + 1 := by rw [g_clamp]; omega
  rw [e]
  exact (h _ (by omega)).1
theorem CV.c {f : Nat → Int32} (h : CV f) {x p : Int32} (hp : 0 ≤ p.toInt ∧ p.toInt < 24) (hx : x.toInt = 4 * p.toInt + 3) : 0 ≤ (f x.toNatClampNeg).toInt ∧ (f x.toNatClampNeg).toInt ≤ 7 := by
  have e : x.toNatClampNeg = 4 * p.toInt.toNat + 3 := by rw [g_clamp]; omega
  rw [e]
  exact (h _ (by omega)).2
theorem CV0 : CV (fun _ => 0) := fun j _ => (show (0 ≤ ((0 : Int32)).toInt ∧ ((0 : Int32)).toInt ≤ 23) ∧ (0 ≤ ((0 : Int32)).toInt ∧ ((0 : Int32)).toInt ≤ 7) by decide)
theorem g_nar {r : Int32} (h : r = 0 ∨ r = 1) : narrow .boolean (.int r) = .int r := by
  rcases h with h | h <;> rw [h] <;> rfl
theorem g_smod : ∀ m : Fin 37, ((nI m.val).toInt64 &&& 63).toBitVec.smod 64 = BitVec.ofNat 64 m.val := by decide
theorem g_shl {x a : Int64} {n : Int32} (e : x = a <<< (n.toInt64 &&& 63)) (ha : 0 ≤ a.toInt ∧ a.toInt < 16777216) (hn : 0 ≤ n.toInt ∧ n.toInt ≤ 36) : 0 ≤ x.toInt ∧ x.toInt < 1152921504606846976 := by
  obtain ⟨j, hj, rfl⟩ : ∃ j : Nat, j ≤ 36 ∧ n = nI j := by
    refine ⟨n.toInt.toNat, by omega, Int32.toInt_inj.mp ?_⟩
    rw [nI_toInt (by omega)]
    omega
  have hs := g_smod ⟨j, by omega⟩
  have hb : x.toBitVec = a.toBitVec <<< (BitVec.ofNat 64 j) := by rw [e, ← hs]; rfl
  have haN : a.toBitVec.toNat < 16777216 := by
    have h := a.toBitVec.isLt
    have h2 : a.toBitVec.toInt = a.toInt := rfl
    rw [BitVec.toInt_eq_toNat_cond] at h2
    split at h2 <;> omega
  have hx : x.toBitVec.toNat = a.toBitVec.toNat * 2 ^ j % 2 ^ 64 := by
    rw [hb, BitVec.shiftLeft_eq', BitVec.toNat_shiftLeft, BitVec.toNat_ofNat, Nat.mod_eq_of_lt (show j < 2 ^ 64 by omega), Nat.shiftLeft_eq]
  have hj2 : 2 ^ j ≤ 2 ^ 36 := Nat.pow_le_pow_right (by decide) hj
  have hm : a.toBitVec.toNat * 2 ^ j ≤ 16777215 * 2 ^ 36 := Nat.mul_le_mul (by omega) hj2
  have hl : x.toBitVec.toNat < 1152921504606846976 := by
    rw [hx, Nat.mod_eq_of_lt (by omega)]
    omega
  have hi : x.toInt = (x.toBitVec.toNat : Int) := by
    show x.toBitVec.toInt = _
    exact BitVec.toInt_eq_toNat_of_lt (by omega)
  rw [hi]
  omega
theorem g_addL {x a b : Int64} {A B : Int} (e : x = a + b) (ha : a.toInt = A) (hb : b.toInt = B) (h : -9223372036854775808 ≤ A + B ∧ A + B ≤ 9223372036854775807) : x.toInt = A + B := by
  rw [e, Int64.toInt_add, ha, hb, show (2 ^ 64 : Nat) = 18446744073709551616 from rfl, Int.bmod_eq_of_le (by omega) (by omega)]
theorem g_subL {x a b : Int64} {A B : Int} (e : x = a - b) (ha : a.toInt = A) (hb : b.toInt = B) (h : -9223372036854775808 ≤ A - B ∧ A - B ≤ 9223372036854775807) : x.toInt = A - B := by
  rw [e, Int64.toInt_sub, ha, hb, show (2 ^ 64 : Nat) = 18446744073709551616 from rfl, Int.bmod_eq_of_le (by omega) (by omega)]
theorem g_negL {x a : Int64} {A : Int} (e : x = -a) (ha : a.toInt = A) (h : -9223372036854775808 ≤ -A ∧ -A ≤ 9223372036854775807) : x.toInt = -A := by
  rw [e, Int64.toInt_neg, ha, show (2 ^ 64 : Nat) = 18446744073709551616 from rfl, Int.bmod_eq_of_le (by omega) (by omega)]
theorem g_mul32 {x : Int64} {a b : Int32} (e : x = a.toInt64 * b.toInt64) : -9223372036854775808 < x.toInt := by
  have ha := a.le_toInt
  have ha2 := a.toInt_lt
  have hb := b.le_toInt
  have hb2 := b.toInt_lt
  have h : (a.toInt * b.toInt).natAbs ≤ 2147483648 * 2147483648 := by
    rw [Int.natAbs_mul]
    exact Nat.mul_le_mul (by omega) (by omega)
  rw [e, Int64.toInt_mul, Int32.toInt_toInt64, Int32.toInt_toInt64, show (2 ^ 64 : Nat) = 18446744073709551616 from rfl]
  generalize a.toInt * b.toInt = z at h
  rw [Int.bmod_eq_of_le (by omega) (by omega)]
  omega
theorem g_add32 {x : Int64} {a b : Int32} (e : x = a.toInt64 + b.toInt64) : -9223372036854775808 < x.toInt := by
  have ha := a.le_toInt
  have ha2 := a.toInt_lt
  have hb := b.le_toInt
  have hb2 := b.toInt_lt
  rw [g_addL e (Int32.toInt_toInt64 a) (Int32.toInt_toInt64 b) (by omega)]
  omega
theorem g_sub32 {x : Int64} {a b : Int32} (e : x = a.toInt64 - b.toInt64) : -9223372036854775808 < x.toInt := by
  have ha := a.le_toInt
  have ha2 := a.toInt_lt
  have hb := b.le_toInt
  have hb2 := b.toInt_lt
  rw [g_subL e (Int32.toInt_toInt64 a) (Int32.toInt_toInt64 b) (by omega)]
  omega
theorem g_and255 {x a : Int32} (e : x = a &&& 255) : 0 ≤ x.toInt ∧ x.toInt ≤ 255 := by
  have h1 : (a &&& 255).toBitVec = a.toBitVec &&& 255#32 := rfl
  have h2 : (a.toBitVec &&& 255#32).toNat ≤ 255 := by
    rw [BitVec.toNat_and]
    exact Nat.and_le_right
  have h3 : x.toInt = ((a.toBitVec &&& 255#32).toNat : Int) := by
    rw [e]
    show (a &&& 255).toBitVec.toInt = _
    rw [h1, BitVec.toInt_eq_toNat_of_lt (by omega)]
  rw [h3]
  omega
/-- the power of a float's last place -/
def pw (x : Int32) : Int32 := if (x >>> (23 &&& 31)) &&& 255 = 0 then -149 else ((x >>> (23 &&& 31)) &&& 255) - 150
theorem pw_in (x : Int32) : -149 ≤ (pw x).toInt ∧ (pw x).toInt ≤ 105 := by
  have h := g_and255 (x := (x >>> (23 &&& 31)) &&& 255) rfl
  unfold pw
  generalize (x >>> (23 &&& 31)) &&& 255 = z at h
  by_cases hz : z = 0
  · rw [if_pos hz]
    decide
  · rw [if_neg hz]
    have h2 : (z - 150).toInt = z.toInt - 150 := gl_sub (x := z - 150) (a := z) (b := 150) rfl rfl (show ((150 : Int32)).toInt = 150 from rfl) (by omega)
    rw [h2]
    have hz0 : z.toInt ≠ 0 := fun q => hz (Int32.toInt_inj.mp q)
    omega
