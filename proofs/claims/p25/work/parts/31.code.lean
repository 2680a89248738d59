/-! the program: what both sides hold of it -/
def PC (κ : Sg) (n : Nat) (kd aa zz : Nat → Nat) (bb : Nat → Int32) : Prop := κ 1 4 = nI n ∧ ∀ j, j < 24 → κ 2 j = nI (kd j) ∧ κ 3 j = nI (aa j) ∧ κ 4 j = bb j ∧ κ 5 j = nI (zz j)
def PR (ρ : Sg) (n : Nat) (kd aa zz : Nat → Nat) (bb : Nat → Int32) : Prop := ρ 0 5 = nI n ∧ ∀ j, j < 24 → ρ 5 (4 * j) = nI (kd j) ∧ ρ 5 (4 * j + 1) = nI (aa j) ∧ ρ 5 (4 * j + 2) = bb j ∧ ρ 5 (4 * j + 3) = nI (zz j)
def PW (n : Nat) (kd aa zz : Nat → Nat) : Prop := n ≤ 24 ∧ ∀ j, j < 24 → kd j ≤ 9 ∧ aa j < 24 ∧ zz j < 8
def yy (bb : Nat → Int32) (j : Nat) : Nat := ((bb j).toInt % 8).toNat
theorem yy_lt (bb : Nat → Int32) (j : Nat) : yy bb j < 8 := by unfold yy; omega
theorem rem8 (a : Int32) : (a - a / 8 * 8).toInt = a.toInt.tmod 8 := by
  have h1 := a.le_toInt
  have h2 := a.toInt_lt
  have hd : (a / 8).toInt = a.toInt.tdiv 8 := Int32.toInt_div_of_ne_right a 8 (by decide)
  have h3 : a.toInt.tmod 8 = a.toInt - 8 * a.toInt.tdiv 8 := Int.tmod_def _ _
  have h4 : -8 < a.toInt.tmod 8 ∧ a.toInt.tmod 8 < 8 ∧ (0 ≤ a.toInt → 0 ≤ a.toInt.tmod 8) ∧ (a.toInt < 0 → a.toInt.tmod 8 ≤ 0) := by
    refine ⟨Int.lt_tmod_of_pos a.toInt (by decide), Int.tmod_lt_of_pos _ (by decide), fun h => Int.tmod_nonneg 8 h, fun h => ?_⟩
    have := Int.tmod_nonneg 8 (show 0 ≤ -a.toInt by omega)
    rw [Int.neg_tmod] at this
    omega
  generalize a.toInt.tdiv 8 = z at *
  have hm : (a / 8 * 8).toInt = z * 8 := gl_mul rfl hd (show ((8 : Int32)).toInt = 8 from rfl) (by omega)
  rw [gl_sub rfl rfl hm (by omega), h3]
  omega
theorem tm8 (z : Int) : z % 8 = if 0 ≤ z ∨ z.tmod 8 = 0 then z.tmod 8 else z.tmod 8 + 8 := by
  by_cases h : 0 ≤ z
  · rw [if_pos (Or.inl h), Int.tmod_eq_emod_of_nonneg h]
  · have h0 := Int.tmod_def z 8
    have h1 : -8 < z.tmod 8 := Int.lt_tmod_of_pos z (by decide)
    have h2 : z.tmod 8 ≤ 0 := by
      have := Int.tmod_nonneg 8 (show 0 ≤ -z by omega)
      rw [Int.neg_tmod] at this
      omega
    split <;> omega
theorem xor8 (b : Int32) : (0 ≤ b ^^^ 8) ↔ 0 ≤ b.toInt := by
  rw [Int32.le_iff_toInt_le]
  show 0 ≤ (b ^^^ 8).toBitVec.toInt ↔ 0 ≤ b.toBitVec.toInt
  have h1 : (b ^^^ 8).toBitVec = b.toBitVec ^^^ 8#32 := rfl
  have h2 : (8#32).msb = false := by decide
  have h3 : (b.toBitVec ^^^ 8#32).msb = b.toBitVec.msb := by rw [BitVec.msb_xor, h2, Bool.xor_false]
  rw [BitVec.msb_eq_toInt, BitVec.msb_eq_toInt, decide_eq_decide] at h3
  rw [h1]
  omega
theorem fmod8 (b : Int32) : zf_J9_floorMod_7cf53 b 8 = some (nI (b.toInt % 8).toNat) := by
  have hr := rem8 b
  have ht := tm8 b.toInt
  have h1 : -8 < b.toInt.tmod 8 := Int.lt_tmod_of_pos _ (by decide)
  have h2 : b.toInt.tmod 8 < 8 := Int.tmod_lt_of_pos _ (by decide)
  have hz : (0 : Int32).toInt = 0 := rfl
  unfold zf_J9_floorMod_7cf53 nzd letb zb_J9_floorMod_7cf53_18
  rw [if_neg (by decide)]
  have key : ∀ x : Int32, x.toInt = b.toInt % 8 → some x = some (nI (b.toInt % 8).toNat) := by
    intro x hx
    congr 1
    apply Int32.toInt_inj.mp
    rw [hx, nI_toInt (by omega)]
    omega
  show (if 0 ≤ b ^^^ 8 then some (b - b / 8 * 8) else if b - b / 8 * 8 = 0 then some (b - b / 8 * 8) else some (b - b / 8 * 8 + 8)) = _
  by_cases hb : 0 ≤ b ^^^ 8
  · rw [if_pos hb]
    rw [xor8] at hb
    exact key _ (by rw [hr, ht, if_pos (Or.inl hb)])
  · rw [if_neg hb]
    rw [xor8] at hb
    by_cases h0 : b - b / 8 * 8 = 0
    · rw [if_pos h0]
      have h3 : b.toInt.tmod 8 = 0 := by rw [← hr, h0]; rfl
      exact key _ (by rw [hr, ht, if_pos (Or.inr h3)])
    · rw [if_neg h0]
      have h3 : ¬ b.toInt.tmod 8 = 0 := fun q => h0 (Int32.toInt_inj.mp (by rw [hr, q]; rfl))
      refine key _ ?_
      rw [gl_add rfl hr (show ((8 : Int32)).toInt = 8 from rfl) (by omega), ht, if_neg (by omega)]
section CodeRows
variable {κ ρ : Sg} {n : Nat} {kd aa zz : Nat → Nat} {bb : Nat → Int32} {j : Nat}
theorem n4 {j : Nat} : (4 : Int32) * nI j = nI (4 * j) := nI_mul 4 j
theorem xC (h : PC κ n kd aa zz bb) (w : PW n kd aa zz) (hj : j < 24) : zf_X4_x (nI j) κ = some (nI (aa j % 8)) := by
  unfold zf_X4_x
  rw [bd_nI hj (by decide), nI_clamp (by omega), (h.2 j hj).2.1, fmod8, obd_some]
  have := (w.2 j hj).2.1
  rw [nI_toInt (by omega)]
  congr 2
theorem yC (h : PC κ n kd aa zz bb) (hj : j < 24) : zf_X4_y (nI j) κ = some (nI (yy bb j)) := by
  unfold zf_X4_y
  rw [bd_nI hj (by decide), nI_clamp (by omega), (h.2 j hj).2.2.1, fmod8, obd_some]
  rfl
theorem zC (h : PC κ n kd aa zz bb) (hj : j < 24) : zf_X4_z (nI j) κ = some (nI (zz j)) := by
  unfold zf_X4_z
  rw [bd_nI hj (by decide), nI_clamp (by omega), (h.2 j hj).2.2.2]
theorem kR (h : PR ρ n kd aa zz bb) (hj : j < 24) : ρ 5 ((4 : Int32) * nI j).toNatClampNeg = nI (kd j) := by
  rw [n4, nI_clamp (by omega)]; exact (h.2 j hj).1
theorem b4 {α : Type} {k : Option α} (hj : j < 24) : bd ((4 : Int32) * nI j) 96 k = k := by rw [n4, bd_nI (by omega) (by decide)]
theorem xR (h : PR ρ n kd aa zz bb) (w : PW n kd aa zz) (hj : j < 24) : zf_X10_x (nI j) ρ = some (nI (aa j % 8)) := by
  have e : (4 : Int32) * nI j + 1 = nI (4 * j + 1) := by rw [n4]; exact nI_1 _
  have ha := (w.2 j hj).2.1
  unfold zf_X10_x
  rw [e, bd_nI (by omega) (by decide), nI_clamp (by omega), (h.2 j hj).2.1]
  congr 1
  apply Int32.toInt_inj.mp
  rw [rem8, nI_toInt (by omega), nI_toInt (by omega), Int.tmod_eq_emod_of_nonneg (by omega)]
  omega
theorem yR (h : PR ρ n kd aa zz bb) (hj : j < 24) : zf_X10_y (nI j) ρ = some (nI (yy bb j)) := by
  have e : (4 : Int32) * nI j + 2 = nI (4 * j + 2) := by rw [n4]; exact nI_add _ 2
  unfold zf_X10_y
  rw [e, bd_nI (by omega) (by decide), nI_clamp (by omega), (h.2 j hj).2.2.1]
  congr 1
  apply Int32.toInt_inj.mp
  have h0 := rem8 (bb j)
  have ht := tm8 (bb j).toInt
  have h1 : -8 < (bb j).toInt.tmod 8 := Int.lt_tmod_of_pos _ (by decide)
  have h2 : (bb j).toInt.tmod 8 < 8 := Int.tmod_lt_of_pos _ (by decide)
  have h3 : (bb j - bb j / 8 * 8 + 8).toInt = (bb j).toInt.tmod 8 + 8 := gl_add rfl h0 (show ((8 : Int32)).toInt = 8 from rfl) (by omega)
  rw [rem8, h3, nI_toInt (by have := yy_lt bb j; omega), Int.tmod_eq_emod_of_nonneg (by omega)]
  unfold yy
  split at ht <;> omega
theorem zR (h : PR ρ n kd aa zz bb) (hj : j < 24) : zf_X10_z (nI j) ρ = some (nI (zz j)) := by
  have e : (4 : Int32) * nI j + 3 = nI (4 * j + 3) := by rw [n4]; exact nI_add _ 3
  unfold zf_X10_z
  rw [e, bd_nI (by omega) (by decide), nI_clamp (by omega), (h.2 j hj).2.2.2]
end CodeRows
