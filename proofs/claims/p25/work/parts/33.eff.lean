/-! what the code at a point would do: one function for both sides -/
def wOut (v : Int64) : Int32 × Int32 := if v = v.toInt32.toInt64 then (0, v.toInt32) else (1, zf_X1_ofWhole v)
def wOp (k : Nat) (a b : Int64) : Int64 := if k = 2 then a + b else if k = 3 then a - b else a * b
def fOp (k : Nat) (x y : Int32) : Int32 := if k = 4 then zf_X1_product x y else if k = 3 then zf_X1_sum x (zf_X1_opposite y) else zf_X1_sum x y
def aOut (k : Nat) (ky by' kz bz : Int32) : Int32 × Int32 := if ky = 0 ∧ kz = 0 then wOut (wOp k by'.toInt64 bz.toInt64) else (1, fOp k (zf_X1_ofRegister ky by') (zf_X1_ofRegister kz bz))
def hOut (kz bz : Int32) : Int32 × Int32 := if kz = 0 ∧ bz &&& 1 = 0 then (0, bz / 2) else (1, zf_X1_product (zf_X1_ofRegister kz bz) 1056964608)
def lOut (ky by' kz bz : Int32) : Bool := if ky = 0 ∧ kz = 0 then decide (by' < bz) else zf_X1_isLess (zf_X1_ofRegister ky by') (zf_X1_ofRegister kz bz)
def eOut (k : Nat) (ky by' kz bz b : Int32) : Int32 × Int32 :=
  if k = 0 then (0, b) else if k = 1 then (kz, bz) else if k ≤ 4 then aOut k ky by' kz bz else if k = 5 then hOut kz bz else (0, 0)
def eJmp (k : Nat) (ky by' kz bz : Int32) : Bool := if k = 6 then lOut ky by' kz bz else if k = 7 then true else if k = 8 then decide (kz = 0) else false
def eWay (k : Nat) (o : Int32 × Int32) (j : Bool) : Int32 := if 2 ≤ k ∧ k ≤ 5 then o.1 else if k = 6 ∨ k = 8 then b2i j else 0
theorem combineC (M k : Nat) (hk : k = 2 ∨ k = 3 ∨ k = 4) (by' bz : Int32) (κ : Sg) : zf_X0_combine M (nI k) by' bz κ = su (su κ (M + 4) 4 (aOut k (κ (M + 4) 0) by' (κ (M + 4) 1) bz).1) (M + 4) 5 (aOut k (κ (M + 4) 0) by' (κ (M + 4) 1) bz).2 := by
  unfold zf_X0_combine zb_X0_combine_103 zb_X0_combine_53 zb_X0_combine_70 zb_X0_combine_83 zb_X0_combine_99 zb_X0_combine_157 zb_X0_combine_160 zf_X0_become letb aOut wOut wOp fOp
  by_cases h1 : κ (M + 4) 0 = 0 <;> by_cases h2 : κ (M + 4) 1 = 0 <;> rcases hk with rfl | rfl | rfl <;> simp [h1, h2, nI] <;> split <;> simp [b2i]
theorem halveC (M : Nat) (bz : Int32) (κ : Sg) : zf_X0_halve M bz κ = su (su κ (M + 4) 4 (hOut (κ (M + 4) 1) bz).1) (M + 4) 5 (hOut (κ (M + 4) 1) bz).2 := by
  unfold zf_X0_halve zb_X0_halve_24 zb_X0_halve_42 zf_X0_become letb hOut
  by_cases h1 : κ (M + 4) 1 = 0 <;> by_cases h2 : bz &&& 1 = 0 <;> simp [h1, h2]
theorem lessC (M : Nat) (by' bz : Int32) (κ : Sg) : zf_X0_isLess M by' bz κ = lOut (κ (M + 4) 0) by' (κ (M + 4) 1) bz := by
  unfold zf_X0_isLess zb_X0_isLess_24 zb_X0_isLess_25 lOut
  by_cases h1 : κ (M + 4) 0 = 0 <;> by_cases h2 : κ (M + 4) 1 = 0 <;> simp [h1, h2]
  by_cases h3 : bz ≤ by'
  · have h5 := Int32.not_lt.mpr h3
    simp [h3, h5]
  · have h5 := Int32.not_le.mp h3
    simp [h3, h5]
theorem rem2 (a : Int32) : (a - a / 2 * 2 = 0) ↔ a &&& 1 = 0 := by
  have h1 := a.le_toInt
  have h2 := a.toInt_lt
  have hd : (a / 2).toInt = a.toInt.tdiv 2 := Int32.toInt_div_of_ne_right a 2 (by decide)
  have h3 : a.toInt.tmod 2 = a.toInt - 2 * a.toInt.tdiv 2 := Int.tmod_def _ _
  have h4 : -2 < a.toInt.tmod 2 ∧ a.toInt.tmod 2 < 2 ∧ (0 ≤ a.toInt → 0 ≤ a.toInt.tmod 2) ∧ (a.toInt < 0 → a.toInt.tmod 2 ≤ 0) := by
    refine ⟨Int.lt_tmod_of_pos a.toInt (by decide), Int.tmod_lt_of_pos _ (by decide), fun h => Int.tmod_nonneg 2 h, fun h => ?_⟩
    have := Int.tmod_nonneg 2 (show 0 ≤ -a.toInt by omega)
    rw [Int.neg_tmod] at this
    omega
  generalize a.toInt.tdiv 2 = z at *
  have hm : (a / 2 * 2).toInt = z * 2 := gl_mul rfl hd (show ((2 : Int32)).toInt = 2 from rfl) (by omega)
  have hs : (a - a / 2 * 2).toInt = a.toInt - z * 2 := gl_sub rfl rfl hm (by omega)
  have hn : (a &&& 1).toBitVec.toNat = a.toBitVec.toNat % 2 := by
    show (a.toBitVec &&& 1#32).toNat = _
    rw [BitVec.toNat_and]
    exact Nat.and_one_is_mod _
  have hi : a.toInt = a.toBitVec.toInt := rfl
  rw [BitVec.toInt_eq_toNat_cond] at hi
  have hl := a.toBitVec.isLt
  constructor
  · intro q
    have q0 : a.toInt - z * 2 = 0 := by rw [← hs, q]; rfl
    apply Int32.toBitVec_inj.mp
    apply BitVec.eq_of_toNat_eq
    rw [hn]
    show _ = 0
    split at hi <;> omega
  · intro q
    rw [q] at hn
    have q0 : 0 = a.toBitVec.toNat % 2 := hn
    apply Int32.toInt_inj.mp
    rw [hs]
    show _ = (0 : Int)
    split at hi <;> omega
section Ref
variable {ρ : Sg}
def KV (ρ : Sg) : Prop := ∀ j, j < 8 → ρ 8 j = 0 ∨ ρ 8 j = 1
theorem asFloatR (h : KV ρ) {r : Nat} (hr : r < 8) : zf_X10_asFloat (nI r) ρ = some (zf_X1_ofRegister (ρ 8 r) (ρ 9 r)) := by
  unfold zf_X10_asFloat zb_X10_asFloat_29
  rw [bd_nI hr (by decide), nI_clamp (by omega)]
  rcases h r hr with q | q
  · rw [q, if_neg (by decide), fe_reg, obd_some]
  · rw [q, if_pos rfl]
    rfl
theorem i64_32 (a : Int32) : -2147483648 ≤ a.toInt64.toInt ∧ a.toInt64.toInt ≤ 2147483647 := by
  rw [Int32.toInt_toInt64]
  have h1 := a.le_toInt
  have h2 := a.toInt_lt
  omega
theorem wOp_in (k : Nat) (a b : Int32) : -4611686018427387904 ≤ (wOp k a.toInt64 b.toInt64).toInt ∧ (wOp k a.toInt64 b.toInt64).toInt ≤ 4611686018427387904 := by
  have ha := i64_32 a
  have hb := i64_32 b
  generalize a.toInt64 = x at *
  generalize b.toInt64 = y at *
  unfold wOp
  split
  · rw [Int64.toInt_add, show (2 ^ 64 : Nat) = 18446744073709551616 from rfl, Int.bmod_eq_of_le (by omega) (by omega)]
    omega
  · split
    · rw [Int64.toInt_sub, show (2 ^ 64 : Nat) = 18446744073709551616 from rfl, Int.bmod_eq_of_le (by omega) (by omega)]
      omega
    · have h1 : x.toInt * y.toInt ≤ 4611686018427387904 ∧ -4611686018427387904 ≤ x.toInt * y.toInt := by
        have e1 : (x.toInt * y.toInt).natAbs = x.toInt.natAbs * y.toInt.natAbs := Int.natAbs_mul _ _
        have e2 : x.toInt.natAbs * y.toInt.natAbs ≤ 2147483648 * 2147483648 := Nat.mul_le_mul (by omega) (by omega)
        generalize x.toInt * y.toInt = z at *
        omega
      rw [Int64.toInt_mul, show (2 ^ 64 : Nat) = 18446744073709551616 from rfl]
      generalize x.toInt * y.toInt = z at *
      rw [Int.bmod_eq_of_le (by omega) (by omega)]
      omega
theorem wholeR (v : Int64) (h : -4611686018427387904 ≤ v.toInt ∧ v.toInt ≤ 4611686018427387904) : zf_X10_whole v ρ = some (su (su ρ 0 13 (wOut v).1) 0 14 (wOut v).2) := by
  unfold zf_X10_whole zb_X10_whole_14 zb_X10_whole_34 wOut
  by_cases q : v = v.toInt32.toInt64
  · rw [if_pos q, if_pos q, if_pos (by rfl)]
    rfl
  · rw [if_neg q, if_neg q, if_neg (by decide), fe_floatOf v h, obd_some]
    rfl
theorem sumsR (h : KV ρ) {k y z : Nat} (hk : k = 2 ∨ k = 3 ∨ k = 4) (hy : y < 8) (hz : z < 8) : zf_X10_sums (nI k) (nI y) (nI z) ρ = some (su (su ρ 0 13 (aOut k (ρ 8 y) (ρ 9 y) (ρ 8 z) (ρ 9 z)).1) 0 14 (aOut k (ρ 8 y) (ρ 9 y) (ρ 8 z) (ρ 9 z)).2) := by
  unfold zf_X10_sums zb_X10_sums_74 zb_X10_sums_68 zb_X10_sums_131 zb_X10_sums_134 aOut fOp
  have w2 := wholeR (ρ := ρ) ((ρ 9 y).toInt64 + (ρ 9 z).toInt64) (wOp_in 2 (ρ 9 y) (ρ 9 z))
  have w3 := wholeR (ρ := ρ) ((ρ 9 y).toInt64 - (ρ 9 z).toInt64) (wOp_in 3 (ρ 9 y) (ρ 9 z))
  have w4 := wholeR (ρ := ρ) ((ρ 9 y).toInt64 * (ρ 9 z).toInt64) (wOp_in 4 (ρ 9 y) (ρ 9 z))
  rw [bd_nI hy (by decide), bd_nI hz (by decide), nI_clamp (by omega), nI_clamp (by omega), asFloatR h hy, asFloatR h hz]
  simp only [obd_some, letb_eq, fe_plus, fe_minus, fe_product]
  by_cases h1 : ρ 8 y = 0 <;> by_cases h2 : ρ 8 z = 0 <;> rcases hk with rfl | rfl | rfl <;> simp [h1, h2, nI, w2, w3, w4, obd_some, wOp]
theorem halvesR (h : KV ρ) {z : Nat} (hz : z < 8) : zf_X10_halves (nI z) ρ = some (su (su ρ 0 13 (hOut (ρ 8 z) (ρ 9 z)).1) 0 14 (hOut (ρ 8 z) (ρ 9 z)).2) := by
  unfold zf_X10_halves zb_X10_halves_24 zb_X10_halves_25 zb_X10_halves_36 zb_X10_halves_65 hOut
  have hv : ∀ x, KV (su ρ 0 13 x) := fun x j hj => by rw [su_ap]; exact h j hj
  rw [bd_nI hz (by decide), nI_clamp (by omega)]
  simp only [asFloatR (hv _) hz, obd_some, fe_product, rem2, su_ap]
  by_cases h1 : ρ 8 z = 0 <;> by_cases h2 : ρ 9 z &&& 1 = 0 <;> simp [h1, h2, b2i, bd_nI hz]
theorem lessR (h : KV ρ) {y z : Nat} (hy : y < 8) (hz : z < 8) : zf_X10_less (nI y) (nI z) ρ = some (lOut (ρ 8 y) (ρ 9 y) (ρ 8 z) (ρ 9 z)) := by
  unfold zf_X10_less zb_X10_less_41 zb_X10_less_54 lOut
  rw [bd_nI hy (by decide), bd_nI hz (by decide), nI_clamp (by omega), nI_clamp (by omega), asFloatR h hy, asFloatR h hz]
  simp only [obd_some, fe_less]
  by_cases h1 : ρ 8 y = 0 <;> by_cases h2 : ρ 8 z = 0 <;> simp [h1, h2]
  by_cases h3 : ρ 9 z ≤ ρ 9 y
  · have h5 := Int32.not_lt.mpr h3
    simp [h3, h5]
  · have h5 := Int32.not_le.mp h3
    simp [h3, h5]
end Ref
section Pair
variable {κ ρ : Sg} {n : Nat} {kd aa zz : Nat → Nat} {bb : Nat → Int32} {p M : Nat}
theorem k10 {x : Nat} (h : x ≤ 9) : x = 0 ∨ x = 1 ∨ x = 2 ∨ x = 3 ∨ x = 4 ∨ x = 5 ∨ x = 6 ∨ x = 7 ∨ x = 8 ∨ x = 9 := by omega
def FE (M : Nat) (κ κ' : Sg) (k : Nat) (ky by' kz bz b : Int32) : Prop := (∀ n, n ≠ M + 4 → κ' n = κ n) ∧ κ' (M + 4) 0 = ky ∧ κ' (M + 4) 1 = kz ∧ κ' (M + 4) 2 = eWay k (eOut k ky by' kz bz b) (eJmp k ky by' kz bz) ∧ κ' (M + 4) 3 = b2i (eJmp k ky by' kz bz) ∧ (k ≤ 5 → κ' (M + 4) 4 = (eOut k ky by' kz bz b).1 ∧ κ' (M + 4) 5 = (eOut k ky by' kz bz b).2)
theorem foreseeC (h : PC κ n kd aa zz bb) (w : PW n kd aa zz) (hp : p < 24) : ∃ κ', zf_X0_foresee M (nI p) (M + 1) κ = some κ' ∧ FE M κ κ' (kd p) (κ (M + 2) (yy bb p)) (κ (M + 3) (yy bb p)) (κ (M + 2) (zz p)) (κ (M + 3) (zz p)) (bb p) := by
  have hy := yy_lt bb p
  have hz := (w.2 p hp).2.2
  unfold zf_X0_foresee
  rw [yC h hp, zC h hp]
  simp only [obd_some, letb_eq]
  rw [bd_nI hp (by decide), bd_nI hy (by decide), bd_nI hz (by decide), nI_clamp (by omega), nI_clamp (by omega), nI_clamp (by omega), (h.2 p hp).1, (h.2 p hp).2.2.1]
  have d1 : ∀ (x : Nat) (s : Sg) (i : Nat) (v : Int32), su s (M + 4) i v (M + 1 + 1) x = s (M + 2) x := fun x s i v => by rw [su_ap, if_neg (by omega)]
  have d2 : ∀ (x : Nat) (s : Sg) (i : Nat) (v : Int32), su s (M + 4) i v (M + 1 + 2) x = s (M + 3) x := fun x s i v => by rw [su_ap, if_neg (by omega)]
  have d3 : ∀ (x : Nat) (s : Sg) (i : Nat) (v : Int32), su s (M + 4) i v (M + 2) x = s (M + 2) x := fun x s i v => by rw [su_ap, if_neg (by omega)]
  have d4 : ∀ (x : Nat) (s : Sg) (i : Nat) (v : Int32), su s (M + 4) i v (M + 3) x = s (M + 3) x := fun x s i v => by rw [su_ap, if_neg (by omega)]
  have d5 : κ (M + 1 + 1) = κ (M + 2) := rfl
  simp only [zb_X0_foresee_276, zb_X0_foresee_115, zb_X0_foresee_216, zb_X0_foresee_257, zb_X0_foresee_273, zf_X0_become, halveC, lessC, letb_eq, d1, d2, d3, d4, d5]
  have c2 : ∀ (a b : Int32) (s : Sg), zf_X0_combine M 2 a b s = _ := combineC M 2 (by simp)
  have c3 : ∀ (a b : Int32) (s : Sg), zf_X0_combine M 3 a b s = _ := combineC M 3 (by simp)
  have c4 : ∀ (a b : Int32) (s : Sg), zf_X0_combine M 4 a b s = _ := combineC M 4 (by simp)
  have b1 : ∀ (k : Option Sg), bd (nI (yy bb p)) 8 k = k := fun k => bd_nI hy (by decide)
  have b2 : ∀ (k : Option Sg), bd (nI (zz p)) 8 k = k := fun k => bd_nI hz (by decide)
  have n1 : (nI (yy bb p)).toNatClampNeg = yy bb p := nI_clamp (by omega)
  have n2 : (nI (zz p)).toNatClampNeg = zz p := nI_clamp (by omega)
  have l0 : nI 0 = (0 : Int32) := rfl
  have l1 : nI 1 = (1 : Int32) := rfl
  have l2 : nI 2 = (2 : Int32) := rfl
  have l3 : nI 3 = (3 : Int32) := rfl
  have l4 : nI 4 = (4 : Int32) := rfl
  have l5 : nI 5 = (5 : Int32) := rfl
  have l6 : nI 6 = (6 : Int32) := rfl
  have l7 : nI 7 = (7 : Int32) := rfl
  have l8 : nI 8 = (8 : Int32) := rfl
  have l9 : nI 9 = (9 : Int32) := rfl
  rcases k10 (w.2 p hp).1 with e | e | e | e | e | e | e | e | e | e <;> rw [e] <;> simp only [l0, l1, l2, l3, l4, l5, l6, l7, l8, l9, c2, c3, c4, b1, b2, n1, n2, d1, d2, d3, d4, su_ap] <;> simp [FE, eOut, eWay, eJmp, su_ap]
  all_goals try exact ⟨fun n hn => by simp only [su_ne _ hn], rfl⟩
  · cases lOut (κ (M + 2) (yy bb p)) (κ (M + 3) (yy bb p)) (κ (M + 2) (zz p)) (κ (M + 3) (zz p)) <;> simp [b2i, su_ap] <;> exact fun n hn => by simp only [su_ne _ hn]
  · by_cases q : κ (M + 2) (zz p) = 0 <;> simp [q, b2i, su_ap] <;> exact fun n hn => by simp only [su_ne _ hn]
def RE (ρ ρ' : Sg) (k : Nat) (ky by' kz bz b : Int32) : Prop := (∀ n, n ≠ 0 → ρ' n = ρ n) ∧ (∀ i, i ≠ 13 → i ≠ 14 → i ≠ 15 → ρ' 0 i = ρ 0 i) ∧ ρ' 0 13 = (eOut k ky by' kz bz b).1 ∧ ρ' 0 14 = (eOut k ky by' kz bz b).2 ∧ ρ' 0 15 = b2i (eJmp k ky by' kz bz)
theorem PR.su0 (h : PR ρ n kd aa zz bb) {i : Nat} {v : Int32} (hi : i ≠ 5) : PR (su ρ 0 i v) n kd aa zz bb := by
  unfold PR at *
  refine ⟨by rw [su_ap, if_pos rfl, if_neg (by omega)]; exact h.1, fun j hj => ?_⟩
  simp only [su_ne ρ (show 5 ≠ 0 by decide)]
  exact h.2 j hj
theorem KV.su0 (h : KV ρ) {i : Nat} {v : Int32} : KV (su ρ 0 i v) := fun j hj => by rw [su_ne ρ (show 8 ≠ 0 by decide)]; exact h j hj
theorem preparesR (h : PR ρ n kd aa zz bb) (w : PW n kd aa zz) (hK : KV ρ) (hp : p < 24) : ∃ ρ', zf_X10_prepares (nI p) ρ = some ρ' ∧ RE ρ ρ' (kd p) (ρ 8 (yy bb p)) (ρ 9 (yy bb p)) (ρ 8 (zz p)) (ρ 9 (zz p)) (bb p) := by
  have hy := yy_lt bb p
  have hz := (w.2 p hp).2.2
  have h3 : PR (su (su (su ρ 0 15 0) 0 13 0) 0 14 0) n kd aa zz bb := ((h.su0 (by decide)).su0 (by decide)).su0 (by decide)
  have h4 : ∀ x, PR (su (su (su (su ρ 0 15 0) 0 13 0) 0 14 0) 0 13 x) n kd aa zz bb := fun x => h3.su0 (by decide)
  have K3 : KV (su (su (su ρ 0 15 0) 0 13 0) 0 14 0) := hK.su0.su0.su0
  have e2 : (4 : Int32) * nI p + 2 = nI (4 * p + 2) := by rw [n4]; exact nI_add _ 2
  unfold zf_X10_prepares zb_X10_prepares_124 zb_X10_prepares_202 zb_X10_prepares_208
  rw [b4 hp, kR h hp, e2, nI_clamp (show 4 * p + 2 < 2 ^ 31 by omega), (h.2 p hp).2.2.1]
  have b1 : ∀ (k : Option Sg), bd (nI (4 * p + 2)) 96 k = k := fun k => bd_nI (by omega) (by decide)
  have b2 : ∀ (k : Option Sg), bd (nI (zz p)) 8 k = k := fun k => bd_nI hz (by decide)
  have n1 : (nI (yy bb p)).toNatClampNeg = yy bb p := nI_clamp (by omega)
  have n2 : (nI (zz p)).toNatClampNeg = zz p := nI_clamp (by omega)
  have s2 := sumsR K3 (k := 2) (by simp) hy hz
  have s3 := sumsR K3 (k := 3) (by simp) hy hz
  have s4 := sumsR K3 (k := 4) (by simp) hy hz
  have l0 : nI 0 = (0 : Int32) := rfl
  have l1 : nI 1 = (1 : Int32) := rfl
  have l2 : nI 2 = (2 : Int32) := rfl
  have l3 : nI 3 = (3 : Int32) := rfl
  have l4 : nI 4 = (4 : Int32) := rfl
  have l5 : nI 5 = (5 : Int32) := rfl
  have l6 : nI 6 = (6 : Int32) := rfl
  have l7 : nI 7 = (7 : Int32) := rfl
  have l8 : nI 8 = (8 : Int32) := rfl
  have l9 : nI 9 = (9 : Int32) := rfl
  rw [l2] at s2
  rw [l3] at s3
  rw [l4] at s4
  simp only [letb_eq, yR h3 hp, zR h3 hp, zR (h4 _) hp, obd_some, b1, b2, n2, halvesR K3 hz, lessR K3 hy hz]
  rcases k10 (w.2 p hp).1 with e | e | e | e | e | e | e | e | e | e <;> rw [e] <;> simp only [l0, l1, l2, l3, l4, l5, l6, l7, l8, l9, s2, s3, s4, obd_some, su_ap] <;> simp [RE, eOut, eWay, eJmp, su_ap]
  all_goals try exact ⟨fun n hn => by simp only [su_ne _ hn], fun i a b c => by simp [a, b, c], rfl⟩
  all_goals try exact ⟨fun n hn => by simp only [su_ne _ hn], fun i a b c => by simp [a, b, c]⟩
  by_cases q : ρ 8 (zz p) = 0 <;> simp [q, b2i, su_ap] <;> exact ⟨fun n hn => by simp only [su_ne _ hn], fun i a b c => by simp [a, b, c]⟩
theorem wayR (h : PR ρ n kd aa zz bb) (w : PW n kd aa zz) (hp : p < 24) {o : Int32 × Int32} {j : Bool} (h1 : ρ 0 13 = o.1) (h2 : ρ 0 15 = b2i j) : zf_X10_wayOf (nI p) ρ = some (eWay (kd p) o j) := by
  unfold zf_X10_wayOf zb_X10_wayOf_42 zb_X10_wayOf_58
  rw [b4 hp, kR h hp]
  simp only [letb_eq, in_eq, h1, h2]
  have l0 : nI 0 = (0 : Int32) := rfl
  have l1 : nI 1 = (1 : Int32) := rfl
  have l2 : nI 2 = (2 : Int32) := rfl
  have l3 : nI 3 = (3 : Int32) := rfl
  have l4 : nI 4 = (4 : Int32) := rfl
  have l5 : nI 5 = (5 : Int32) := rfl
  have l6 : nI 6 = (6 : Int32) := rfl
  have l7 : nI 7 = (7 : Int32) := rfl
  have l8 : nI 8 = (8 : Int32) := rfl
  have l9 : nI 9 = (9 : Int32) := rfl
  rcases k10 (w.2 p hp).1 with e | e | e | e | e | e | e | e | e | e <;> rw [e] <;> simp only [l0, l1, l2, l3, l4, l5, l6, l7, l8, l9] <;> cases j <;> simp [eWay, b2i]
end Pair
