/-! sums: the class's and the reference's -/
theorem refT {g l : Int32} {e22 w : Int64} {X W : Nat} (he : e22.toInt = (X : Int)) (hw : w.toInt = (W : Int)) (h : X + W < 2 ^ 62) : zb_X10_plus_140 e22 l g w = some (out2 g l (tt g l X W) (zf_X10_powerOf g - 36)) := by
  obtain ⟨hT, _⟩ := tt_in g l h
  have n1 : (-e22).toInt = -(X : Int) := g_negL rfl he (by omega)
  have n2 : (-w).toInt = -(W : Int) := g_negL rfl hw (by omega)
  unfold zb_X10_plus_140 zb_X10_plus_154
  unfold tt at hT ⊢
  by_cases a : 0 ≤ g <;> by_cases b : 0 ≤ l
  · rw [if_pos a, if_pos b] at hT
    rw [if_pos a, if_pos b, if_pos a, if_pos b]
    exact ref166 (g_addL rfl he hw (by omega)) hT
  · rw [if_pos a, if_neg b] at hT
    rw [if_pos a, if_neg b, if_pos a, if_neg b]
    exact ref166 (g_addL rfl he n2 (by omega)) hT
  · rw [if_neg a, if_pos b] at hT
    rw [if_neg a, if_pos b, if_neg a, if_pos b]
    exact ref166 (g_addL rfl n1 hw (by omega)) hT
  · rw [if_neg a, if_neg b] at hT
    rw [if_neg a, if_neg b, if_neg a, if_neg b]
    exact ref166 (g_addL rfl n1 n2 (by omega)) hT
theorem clsT {a0 a1 g l : Int32} {G W j : Nat} {w : Int64} (hz : ((a0 &&& a1) &&& (-2147483648 : Int32)) = if 0 ≤ g ∨ 0 ≤ l then 0 else (-2147483648 : Int32)) (sg : (zf_X1_signed g).toInt = if 0 ≤ g then (G : Int) else -(G : Int)) (hw : w.toInt = if 0 ≤ l then (W : Int) else -(W : Int)) (hj : j ≤ 38) (hG : G < 16777216) (hW : W < 16777216) : zb_X1_sum_135 a0 a1 (nI j) g w = out2 g l (tt g l (G * 2 ^ j) W) (zf_X1_scale g - nI j) := by
  have hp : 2 ^ j ≤ 2 ^ 38 := Nat.pow_le_pow_right (by decide) hj
  have hX : G * 2 ^ j ≤ 16777215 * 2 ^ 38 := Nat.mul_le_mul (by omega) hp
  have hc : ((2 ^ j : Nat) : Int) = (2 : Int) ^ j := by push_cast; rfl
  have hXc : ((G * 2 ^ j : Nat) : Int) = (G : Int) * 2 ^ j := by rw [Int.natCast_mul, hc]
  obtain ⟨hT, _⟩ := tt_in g l (X := G * 2 ^ j) (W := W) (by omega)
  have sh : (zf_X1_signed g <<< ((nI j).toInt64 &&& 63)).toInt = if 0 ≤ g then ((G * 2 ^ j : Nat) : Int) else -((G * 2 ^ j : Nat) : Int) := by
    by_cases a : 0 ≤ g
    · rw [if_pos a] at sg
      rw [if_pos a, shlS _ (by omega) (by rw [sg, ← hXc]; omega), sg, hXc]
    · rw [if_neg a] at sg
      rw [if_neg a, shlS _ (by omega) (by rw [sg, Int.neg_mul, ← hXc]; omega), sg, Int.neg_mul, hXc]
  refine cls135 hz ?_ hT
  unfold tt
  refine g_addL rfl sh hw ?_
  unfold tt at hT
  omega
theorem sumC {a0 a1 g l : Int32} {eg fg el fl : Nat} (hg : FD g eg fg) (hl : FD l el fl) (hfin : eg ≤ 254) (hle : pE el ≤ pE eg) (hz : ((a0 &&& a1) &&& (-2147483648 : Int32)) = if 0 ≤ g ∨ 0 ≤ l then 0 else (-2147483648 : Int32)) : zb_X10_plus_85 g l = some (zb_X1_sum_88 a0 a1 g l) := by
  have t0 : (0 : Int64).toInt = 0 := rfl
  have c36 : (36 : Int32).toInt = 36 := rfl
  have pg := powR hg
  have pl := powR hl
  have ig := pE_in hg.1
  have il := pE_in hl.1
  obtain ⟨D, hD⟩ : ∃ D : Nat, pE eg - pE el = (D : Int) := ⟨(pE eg - pE el).toNat, by omega⟩
  have eD : zf_X10_powerOf g - zf_X10_powerOf l = nI D := Int32.toInt_inj.mp (by rw [gl_sub rfl pg pl (by omega), nI_toInt (by omega), hD])
  have g1 := pF_lt (ex := eg) hg.2.1
  have l1 := pF_lt (ex := el) hl.2.1
  have gn : 37 ≤ D → 8388608 ≤ pF eg fg := fun h => by
    unfold pE at hD
    unfold pF
    by_cases z : eg = 0
    · rw [if_pos z] at hD
      split at hD <;> omega
    · rw [if_neg z]
      omega
  have up : pE eg ≤ 104 := by unfold pE; split <;> omega
  have rg := plR hg
  have rl := plR hl
  have sg := sgC hg
  have sl := sgC hl
  generalize pF eg fg = G at *
  generalize pF el fl = L at *
  have e22 : (zf_X10_placesOf g <<< ((36 : Int32).toInt64 &&& 63)).toInt = ((G * 2 ^ 36 : Nat) : Int) := by
    rw [show (36 : Int32) = nI 36 from rfl, shlL _ (by decide) (by omega) (by omega), rg]
    omega
  have qe : ∀ j : Nat, j ≤ 38 → (zf_X10_powerOf g - nI j).toInt = pE eg - j := fun j hj => gl_sub rfl pg (nI_toInt (n := j) (by omega)) (by omega)
  have q36 : (zf_X10_powerOf g - 36).toInt = pE eg - 36 := gl_sub rfl pg c36 (by omega)
  unfold zb_X10_plus_85 zb_X1_sum_88
  rw [letb_eq, letb_eq, letb_eq, letb_eq, powEq g, powEq l, eD]
  generalize zf_X10_placesOf g <<< ((36 : Int32).toInt64 &&& 63) = V at e22
  by_cases c : D ≤ 36
  · rw [if_neg (show ¬ (36 : Int32) < nI D from nI_nlt (a := 36) c (by omega)), if_neg (show ¬ (38 : Int32) < nI D from nI_nlt (a := 38) (by omega) (by omega)), if_pos (show nI D ≤ (38 : Int32) from nI_le (b := 38) (by omega) (by decide))]
    obtain ⟨i, hi⟩ : ∃ i, D + i = 36 := ⟨36 - D, by omega⟩
    have ei : (36 : Int32) - nI D = nI i := Int32.toInt_inj.mp (by rw [gl_sub rfl c36 (nI_toInt (n := D) (by omega)) (by omega), nI_toInt (by omega)]; omega)
    have hpi : 2 ^ i ≤ 2 ^ 36 := Nat.pow_le_pow_right (by decide) (by omega)
    have hLi : L * 2 ^ i ≤ 16777215 * 2 ^ 36 := Nat.mul_le_mul (by omega) hpi
    have hc : ((2 ^ i : Nat) : Int) = (2 : Int) ^ i := by push_cast; rfl
    have hw : (zf_X10_placesOf l <<< ((nI i).toInt64 &&& 63)).toInt = ((L * 2 ^ i : Nat) : Int) := by
      have hLc : (L : Int) * 2 ^ i = ((L * 2 ^ i : Nat) : Int) := by rw [Int.natCast_mul, hc]
      rw [shlL _ (by omega) (by omega) (by rw [rl, hLc]; omega), rl, hLc]
    rw [ei, refT e22 hw (by omega), clsT hz sg sl (by omega) g1 l1]
    congr 1
    have hX : G * 2 ^ 36 = G * 2 ^ D * 2 ^ i := by rw [Nat.mul_assoc, ← Nat.pow_add, hi]
    obtain ⟨_, hna⟩ := tt_in g l (X := G * 2 ^ 36) (W := L * 2 ^ i) (by omega)
    rw [hX, ttScale, hc] at hna
    rw [hX, ttScale, hc, powEq g]
    exact outScale hna (by rw [qe D (by omega)]; omega) (by rw [q36]; omega) (by rw [q36, qe D (by omega)]; omega)
  · rw [if_pos (show (36 : Int32) < nI D from nI_lt (a := 36) (by omega) (by omega))]
    have hr : (if zf_X10_placesOf l = (0 : Int64) then zb_X10_plus_140 V l g (0 : Int64) else zb_X10_plus_140 V l g (1 : Int64)) = some (out2 g l (tt g l (G * 2 ^ 36) (if L = 0 then 0 else 1)) (zf_X10_powerOf g - 36)) := by
      by_cases z : L = 0
      · rw [if_pos (Int64.toInt_inj.mp (by rw [rl, z]; rfl)), if_pos z]
        exact refT e22 rfl (by omega)
      · rw [if_neg (fun y => z (by rw [y, t0] at rl; omega)), if_neg z]
        exact refT e22 rfl (by omega)
    rw [hr]
    obtain ⟨j, W, hj, hW0, hW, hcl⟩ : ∃ j W, (j = 36 ∨ j = 37 ∨ j = 38) ∧ (W = 0 ↔ L = 0) ∧ W < 16777216 ∧ (if nI D ≤ (38 : Int32) then zb_X1_sum_135 a0 a1 (if (38 : Int32) < nI D then (38 : Int32) else nI D) g (zf_X1_signed l) else zb_X1_sum_135 a0 a1 (if (38 : Int32) < nI D then (38 : Int32) else nI D) g (zf_J13_signum_95d88 (zf_X1_signed l)).toInt64) = out2 g l (tt g l (G * 2 ^ j) W) (zf_X1_scale g - nI j) := by
      by_cases c2 : D ≤ 38
      · refine ⟨D, L, by omega, Iff.rfl, l1, ?_⟩
        rw [if_neg (show ¬ (38 : Int32) < nI D from nI_nlt (a := 38) (by omega) (by omega)), if_pos (show nI D ≤ (38 : Int32) from nI_le (b := 38) (by omega) (by decide))]
        exact clsT hz sg sl (by omega) g1 l1
      · refine ⟨38, if L = 0 then 0 else 1, Or.inr (Or.inr rfl), by split <;> omega, by split <;> omega, ?_⟩
        have n38 : ¬ nI D ≤ (38 : Int32) := by
          rw [Int32.le_iff_toInt_le, nI_toInt (by omega)]
          show ¬ (D : Int) ≤ 38
          omega
        rw [if_pos (show (38 : Int32) < nI D from nI_lt (a := 38) (by omega) (by omega)), if_neg n38]
        refine clsT (j := 38) hz sg ?_ (by decide) g1 (by split <;> omega)
        rw [sigT (by rw [sl]; split <;> omega), sl]
        by_cases b : 0 ≤ l
        · rw [if_pos b, if_pos b]
          by_cases z : L = 0
          · rw [if_pos (by omega), if_pos z]
            rfl
          · rw [if_neg (by omega), if_pos (by omega), if_neg z]
            rfl
        · rw [if_neg b, if_neg b]
          by_cases z : L = 0
          · rw [if_pos (by omega), if_pos z]
            rfl
          · rw [if_neg (by omega), if_neg (by omega), if_neg z]
            rfl
    rw [hcl]
    congr 1
    have G1 := gn (by omega)
    by_cases z : L = 0
    · have W0 := hW0.mpr z
      subst W0
      rw [if_pos z, powEq g]
      obtain ⟨i, hi⟩ : ∃ i, 36 + i = j := ⟨j - 36, by omega⟩
      have hX : G * 2 ^ j = G * 2 ^ 36 * 2 ^ i := by rw [Nat.mul_assoc, ← Nat.pow_add, hi]
      have hc : ((2 ^ i : Nat) : Int) = (2 : Int) ^ i := by push_cast; rfl
      have e : tt g l (G * 2 ^ j) 0 = tt g l (G * 2 ^ 36) 0 * 2 ^ i := by
        have := ttScale g l (G * 2 ^ 36) 0 (2 ^ i)
        rw [Nat.zero_mul, hc] at this
        rw [hX, this]
      obtain ⟨_, hna⟩ := tt_in g l (X := G * 2 ^ j) (W := 0) (by rcases hj with rfl | rfl | rfl <;> omega)
      rw [e] at hna
      rw [e]
      exact (outScale hna (by rw [q36]; omega) (by rw [qe j (by omega)]; omega) (by rw [q36, qe j (by omega)]; omega)).symm
    · have W0 : 0 < W := Nat.pos_of_ne_zero (fun y => z (hW0.mp y))
      obtain ⟨E, hE⟩ : ∃ E : Nat, pE eg + 149 = (E : Int) := ⟨(pE eg + 149).toNat, by omega⟩
      rw [if_neg z, outStk (j := 36) (W := 1) (E := E) (Or.inl rfl) G1 g1 (by decide) (by decide) (p := pE eg) q36 (by omega) hE, powEq g, outStk hj (W := W) (E := E) G1 g1 W0 hW (p := pE eg) (qe j (by omega)) (by omega) hE]
theorem fin_ex {x : Int32} {ex f : Nat} (h : FD x ex f) (n : ¬ zf_X1_isNan x = true) (i : ¬ zf_X1_isInfinite x = true) : ex ≤ 254 := by
  have c1 : (2139095040 : Int32).toInt = 2139095040 := rfl
  obtain ⟨h1, h2, h3, _⟩ := h
  unfold zf_X1_isNan zb_X1_isNan_14 at n
  unfold zf_X1_isInfinite zb_X1_isInfinite_14 at i
  rw [h3] at n i
  have n' : nI (ex * 8388608 + f) ≤ (2139095040 : Int32) := Decidable.byContradiction (fun z => n (by rw [if_neg z]))
  have i' : ¬ nI (ex * 8388608 + f) = (2139095040 : Int32) := fun z => i (by rw [if_pos z])
  rw [Int32.le_iff_toInt_le, c1, nI_toInt (by omega)] at n'
  have i2 : ¬ ((ex * 8388608 + f : Nat) : Int) = 2139095040 := fun z => i' (Int32.toInt_inj.mp (by rw [nI_toInt (by omega), c1]; exact z))
  omega
theorem fe_plus (x y : Int32) : zf_X10_plus x y = some (zf_X1_sum x y) := by
  unfold zf_X10_plus zf_X1_sum
  rw [fe_nan, fe_nan, show zf_X10_isEndless x = zf_X1_isInfinite x from rfl, show zf_X10_isEndless y = zf_X1_isInfinite y from rfl, powEq, powEq]
  by_cases n1 : zf_X1_isNan x = true
  · rw [if_pos n1, if_pos n1]
    rfl
  rw [if_neg n1, if_neg n1]
  by_cases n2 : zf_X1_isNan y = true
  · rw [if_pos n2, if_pos n2]
    rfl
  rw [if_neg n2, if_neg n2]
  by_cases i1 : zf_X1_isInfinite x = true
  · rw [if_pos i1, if_pos i1]
    by_cases i2 : zf_X1_isInfinite y = true
    · rw [if_pos i2, if_pos i2]
      by_cases q : x = y
      · rw [if_pos q, if_pos q]
        rfl
      · rw [if_neg q, if_neg q]
        rfl
    · rw [if_neg i2, if_neg i2]
      rfl
  rw [if_neg i1, if_neg i1]
  by_cases i2 : zf_X1_isInfinite y = true
  · rw [if_pos i2, if_pos i2]
  rw [if_neg i2, if_neg i2]
  obtain ⟨ex, fx, hx⟩ := fd x
  obtain ⟨ey, fy, hy⟩ := fd y
  have wx := fin_ex hx n1 i1
  have wy := fin_ex hy n2 i2
  have px := powR hx
  have py := powR hy
  have hlt : zf_X10_powerOf x < zf_X10_powerOf y ↔ pE ex < pE ey := by rw [Int32.lt_iff_toInt_lt, px, py]
  unfold zb_X10_plus_68 zb_X1_sum_68 zb_X1_sum_78
  by_cases c : zf_X10_powerOf x < zf_X10_powerOf y
  · rw [if_pos c, if_pos c, if_pos c, if_neg Bool.false_ne_true, if_neg Bool.false_ne_true]
    have := hlt.mp c
    refine sumC hy hx wy (by omega) ?_
    rw [sgn_and2]
    by_cases a : 0 ≤ x <;> by_cases b : 0 ≤ y <;> simp [a, b]
  · rw [if_neg c, if_neg c, if_neg c, if_pos rfl, if_pos rfl]
    have : ¬ pE ex < pE ey := fun z => c (hlt.mpr z)
    exact sumC hx hy wx (by omega) (sgn_and2 x y)
theorem fe_minus (x y : Int32) : zf_X10_minus x y = some (zf_X1_sum x (zf_X1_opposite y)) := by
  unfold zf_X10_minus zb_X10_minus_20
  rw [fe_nan, fe_plus, obd_some, show zf_X10_turned y = zf_X1_opposite y from rfl]
  by_cases n : zf_X1_isNan y = true
  · rw [if_pos n]
    have n' : zf_X1_isNan (zf_X1_opposite y) = true := by
      have e : (y ^^^ (-2147483648 : Int32)) &&& (2147483647 : Int32) = y &&& (2147483647 : Int32) := by
        apply Int32.toBitVec_inj.mp
        rw [Int32.toBitVec_and, Int32.toBitVec_and, Int32.toBitVec_xor]
        ext i hi
        simp only [BitVec.getElem_and, BitVec.getElem_xor]
        have key : ∀ i (hi : i < 32), ((-2147483648 : Int32).toBitVec[i] && (2147483647 : Int32).toBitVec[i]) = false := by decide
        have k := key i hi
        revert k
        cases y.toBitVec[i] <;> cases (-2147483648 : Int32).toBitVec[i] <;> cases (2147483647 : Int32).toBitVec[i] <;> simp
      unfold zf_X1_isNan zf_X1_opposite at *
      rw [e]
      exact n
    unfold zf_X1_sum zb_X1_sum_14
    rw [if_pos n']
    by_cases n1 : zf_X1_isNan x = true
    · rw [if_pos n1]
    · rw [if_neg n1]
  · rw [if_neg n]
