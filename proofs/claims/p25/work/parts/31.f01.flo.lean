/-! floats: shifts and lengths as numbers -/
theorem k63 : ∀ k, k < 64 → (nI k).toInt64 &&& 63 = Int64.ofNat k := by decide
theorem smod63 : ∀ k, k < 64 → ((Int64.ofNat k).toBitVec.smod 64).toNat = k := by decide
theorem shrL (x : Int64) {k : Nat} (h : k < 64) : (x >>> ((nI k).toInt64 &&& 63)).toInt = x.toInt / 2 ^ k := by
  rw [k63 k h]
  show (x.toBitVec.sshiftRight' ((Int64.ofNat k).toBitVec.smod 64)).toInt = _
  rw [BitVec.sshiftRight_eq', smod63 k h, BitVec.toInt_sshiftRight, Int.shiftRight_eq_div_pow]
  rfl
theorem shlL (x : Int64) {k : Nat} (h : k < 64) (h0 : 0 ≤ x.toInt) (h1 : x.toInt * 2 ^ k < 9223372036854775808) : (x <<< ((nI k).toInt64 &&& 63)).toInt = x.toInt * 2 ^ k := by
  rw [k63 k h]
  show (x.toBitVec <<< ((Int64.ofNat k).toBitVec.smod 64)).toInt = _
  rw [BitVec.shiftLeft_eq', smod63 k h, BitVec.toInt_shiftLeft]
  have e : (x.toBitVec.toNat : Int) = x.toInt := by
    have := BitVec.toInt_eq_toNat_cond x.toBitVec
    have h0' : 0 ≤ x.toBitVec.toInt := h0
    show _ = x.toBitVec.toInt
    split at this <;> omega
  have e2 : ((x.toBitVec.toNat <<< k : Nat) : Int) = x.toInt * 2 ^ k := by
    rw [Nat.shiftLeft_eq]
    push_cast
    rw [e]
  rw [e2]
  have : (0 : Int) ≤ x.toInt * 2 ^ k := Int.mul_nonneg h0 (Int.pow_nonneg (by decide))
  exact Int.bmod_eq_of_le (by omega) (by omega)
/-- bit length -/
def bl : Nat → Nat → Nat
  | 0, _ => 0
  | f + 1, n => if n = 0 then 0 else bl f (n / 2) + 1
theorem lenLoop : ∀ (f n N : Nat) (x : Int64) (c : Nat), x.toInt = (n : Int) → n < 2 ^ f → f < N → c + f < 1000 → lp (X := Int64 × Int32) zl_X10_lengthOf_4 N (x, nI c) = some (0, nI (c + bl f n)) := by
  intro f
  induction f with
  | zero =>
    intro n N x c hx hn hN hc
    obtain ⟨k, rfl⟩ : ∃ k, N = k + 1 := ⟨N - 1, by omega⟩
    have : n = 0 := by omega
    subst this
    have hx0 : x = 0 := Int64.toInt_inj.mp hx
    subst hx0
    exact lp_false (by unfold zl_X10_lengthOf_4; rw [if_pos rfl]; rfl)
  | succ f ih =>
    intro n N x c hx hn hN hc
    obtain ⟨k, rfl⟩ : ∃ k, N = k + 1 := ⟨N - 1, by omega⟩
    by_cases q : n = 0
    · subst q
      have hx0 : x = 0 := Int64.toInt_inj.mp hx
      subst hx0
      exact lp_false (by unfold zl_X10_lengthOf_4; rw [if_pos rfl]; rfl)
    · have hx0 : ¬ x = 0 := fun z => by rw [z] at hx; have : (0 : Int64).toInt = 0 := rfl; omega
      have e : (x >>> ((1 : Int32).toInt64 &&& 63)).toInt = ((n / 2 : Nat) : Int) := by
        have := shrL x (k := 1) (by decide)
        rw [show ((1 : Int32)) = nI 1 from rfl, this, hx]
        omega
      rw [lp_true (y := (x >>> ((1 : Int32).toInt64 &&& 63), nI (c + 1))) (by unfold zl_X10_lengthOf_4; rw [if_neg hx0, letb_eq, nI_1])]
      rw [ih (n / 2) k _ (c + 1) e (by rw [Nat.pow_succ] at hn; omega) (by omega) (by omega), bl, if_neg q, Nat.add_assoc, Nat.add_comm 1]
theorem lengthR {n : Nat} {x : Int64} (hx : x.toInt = (n : Int)) : zf_X10_lengthOf x = some (nI (bl 63 n)) := by
  have hn : n < 2 ^ 63 := by have := x.toInt_lt; omega
  unfold zf_X10_lengthOf
  have := lenLoop 63 n 1000 x 0 hx hn (by decide) (by decide)
  rw [show (0 : Int32) = nI 0 from rfl, this, obd_some, Nat.zero_add]
