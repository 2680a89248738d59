/-! wholes, products and quarters round alike -/
theorem g_mulL {x a b : Int64} {A B : Int} (e : x = a * b) (ha : a.toInt = A) (hb : b.toInt = B) (h : -9223372036854775808 ≤ A * B ∧ A * B ≤ 9223372036854775807) : x.toInt = A * B := by
  rw [e, Int64.toInt_mul, ha, hb]
  exact Int.bmod_eq_of_le (by omega) (by omega)
theorem absEq {P Q : Int64} {N : Nat} (hQ : Q.toInt = (N : Int)) (hP : P.toInt = (N : Int) ∨ P.toInt = -(N : Int)) : (if 0 < P then P else -P) = Q := by
  have t0 : (0 : Int64).toInt = 0 := rfl
  have hl := Q.toInt_lt
  apply Int64.toInt_inj.mp
  by_cases z : 0 < P
  · rw [if_pos z, hQ]
    rw [Int64.lt_iff_toInt_lt, t0] at z
    omega
  · rw [if_neg z, hQ]
    rw [Int64.lt_iff_toInt_lt, t0] at z
    rw [g_negL rfl rfl (by omega)]
    omega
theorem fe_floatOf (v : Int64) (h : -4611686018427387904 ≤ v.toInt ∧ v.toInt ≤ 4611686018427387904) : zf_X10_floatOf v = some (zf_X1_ofWhole v) := by
  have t0 : (0 : Int64).toInt = 0 := rfl
  unfold zf_X10_floatOf zf_X1_ofWhole zb_X10_floatOf_11 zb_X1_ofWhole_12 zb_X10_floatOf_23
  by_cases c : (0 : Int64) ≤ v
  · have c' : 0 ≤ v.toInt := by rw [Int64.le_iff_toInt_le, t0] at c; exact c
    have hv : v.toInt = ((v.toInt.toNat : Nat) : Int) := by omega
    have ea : (if 0 < v then v else -v) = v := absEq hv (Or.inl hv)
    rw [if_pos c, if_pos c, if_pos c, ea, NE hv (e := 0) (by decide) false, obd_some, if_neg Bool.false_ne_true]
  · have c' : ¬ 0 ≤ v.toInt := by rw [Int64.le_iff_toInt_le, t0] at c; exact c
    have hv : (-v).toInt = (((-v.toInt).toNat : Nat) : Int) := by rw [g_negL rfl rfl (by omega)]; omega
    have ea : (if 0 < v then v else -v) = -v := absEq hv (Or.inr (by omega))
    rw [if_neg c, if_neg c, if_neg c, ea, NE hv (e := 0) (by decide) true, obd_some, if_pos rfl]
theorem ofReg0 (b : Int32) : zf_X1_ofRegister 0 b = zf_X1_ofWhole b.toInt64 := by
  have t0 : (0 : Int64).toInt = 0 := rfl
  have t0' : (0 : Int32).toInt = 0 := rfl
  unfold zf_X1_ofRegister zf_X1_ofWhole zb_X1_ofRegister_22 zb_X1_ofWhole_12
  rw [if_neg (show ¬ (0 : Int32) = 1 by decide), sgn_and]
  unfold sgn
  by_cases c : 0 ≤ b
  · have c' : (0 : Int64) ≤ b.toInt64 := by
      rw [Int64.le_iff_toInt_le, t0, Int32.toInt_toInt64]
      rw [Int32.le_iff_toInt_le, t0'] at c
      exact c
    rw [if_pos c, if_pos c']
  · have c' : ¬ (0 : Int64) ≤ b.toInt64 := by
      rw [Int64.le_iff_toInt_le, t0, Int32.toInt_toInt64]
      rw [Int32.le_iff_toInt_le, t0'] at c
      exact c
    rw [if_neg c, if_neg c']
theorem b32 (b : Int32) : -4611686018427387904 ≤ b.toInt64.toInt ∧ b.toInt64.toInt ≤ 4611686018427387904 := by
  have h1 := b.toInt_lt
  have h2 := b.le_toInt
  rw [Int32.toInt_toInt64]
  omega
theorem fe_reg (b : Int32) : zf_X10_floatOf b.toInt64 = some (zf_X1_ofRegister 0 b) := by
  rw [fe_floatOf _ (b32 b), ofReg0]
theorem pE_in {ex : Nat} (h : ex < 256) : -149 ≤ pE ex ∧ pE ex ≤ 105 := by unfold pE; split <;> omega
theorem prodM (x y : Int32) : ∃ N : Nat, N < 2 ^ 48 ∧ (zf_X10_placesOf x * zf_X10_placesOf y).toInt = (N : Int) ∧ (if 0 < zf_X1_signed x * zf_X1_signed y then zf_X1_signed x * zf_X1_signed y else -(zf_X1_signed x * zf_X1_signed y)) = zf_X10_placesOf x * zf_X10_placesOf y := by
  obtain ⟨ex, f, h⟩ := fd x
  obtain ⟨ey, g, h'⟩ := fd y
  have l1 := pF_lt (ex := ex) h.2.1
  have l2 := pF_lt (ex := ey) h'.2.1
  have p1 := plR h
  have p2 := plR h'
  have s1 := sgC h
  have s2 := sgC h'
  generalize pF ex f = F at *
  generalize pF ey g = G at *
  have hl : F * G < 2 ^ 48 := by
    have : F * G ≤ 16777215 * 16777215 := Nat.mul_le_mul (by omega) (by omega)
    omega
  have hc : ((F * G : Nat) : Int) = (F : Int) * (G : Int) := Int.natCast_mul F G
  have e1 : (zf_X10_placesOf x * zf_X10_placesOf y).toInt = ((F * G : Nat) : Int) := by
    rw [g_mulL rfl p1 p2 (by rw [← hc]; omega), hc]
  refine ⟨F * G, hl, e1, absEq e1 ?_⟩
  by_cases a : 0 ≤ x <;> by_cases b : 0 ≤ y
  · rw [if_pos a] at s1
    rw [if_pos b] at s2
    rw [g_mulL rfl s1 s2 (by rw [← hc]; omega), hc]
    exact Or.inl rfl
  · rw [if_pos a] at s1
    rw [if_neg b] at s2
    rw [g_mulL rfl s1 s2 (by rw [Int.mul_neg, ← hc]; omega), Int.mul_neg, hc]
    exact Or.inr rfl
  · rw [if_neg a] at s1
    rw [if_pos b] at s2
    rw [g_mulL rfl s1 s2 (by rw [Int.neg_mul, ← hc]; omega), Int.neg_mul, hc]
    exact Or.inr rfl
  · rw [if_neg a] at s1
    rw [if_neg b] at s2
    rw [g_mulL rfl s1 s2 (by rw [Int.neg_mul_neg, ← hc]; omega), Int.neg_mul_neg, hc]
    exact Or.inl rfl
theorem prodR (x y : Int32) : (if 0 ≤ x then zb_X10_product_26 x y false else zb_X10_product_26 x y true) = zb_X10_product_43 x y (if (0 ≤ x ↔ 0 ≤ y) then false else true) := by
  unfold zb_X10_product_26 zb_X10_product_35
  by_cases a : 0 ≤ x <;> by_cases b : 0 ≤ y <;> simp [a, b, b2i]
theorem fe_product (x y : Int32) : zf_X10_product x y = some (zf_X1_product x y) := by
  unfold zf_X10_product zf_X1_product
  rw [fe_nan, fe_nan]
  by_cases n1 : zf_X1_isNan x = true
  · rw [if_pos n1, if_pos n1]
    rfl
  · rw [if_neg n1, if_neg n1]
    by_cases n2 : zf_X1_isNan y = true
    · rw [if_pos n2, if_pos n2]
      rfl
    · rw [if_neg n2, if_neg n2, letb_eq, prodR, sgn_xor]
      obtain ⟨g, hg, hs⟩ : ∃ g : Bool, (if (0 ≤ x ↔ 0 ≤ y) then false else true) = g ∧ (if (0 ≤ x ↔ 0 ≤ y) then 0 else (-2147483648 : Int32)) = (if g = true then (-2147483648 : Int32) else 0) := by
        refine ⟨_, rfl, ?_⟩
        by_cases c : (0 ≤ x ↔ 0 ≤ y)
        · rw [if_pos c, if_pos c, if_neg Bool.false_ne_true]
        · rw [if_neg c, if_neg c, if_pos rfl]
      rw [hg, hs]
      unfold zb_X10_product_43 zb_X10_product_58 zb_X1_product_38 zb_X1_product_52 zb_X1_product_61
      rw [show zf_X10_isEndless x = zf_X1_isInfinite x from rfl, show zf_X10_isEndless y = zf_X1_isInfinite y from rfl]
      have zx : (zf_X1_isZero x = true) ↔ (x &&& (2147483647 : Int32)) = 0 := by
        unfold zf_X1_isZero zb_X1_isZero_12
        by_cases c : (x &&& (2147483647 : Int32)) = 0 <;> simp [c]
      have zy : (zf_X1_isZero y = true) ↔ (y &&& (2147483647 : Int32)) = 0 := by
        unfold zf_X1_isZero zb_X1_isZero_12
        by_cases c : (y &&& (2147483647 : Int32)) = 0 <;> simp [c]
      have inf : zb_X10_product_63 x y g true = some (if zf_X1_isZero x = true then 2143289344 else if zf_X1_isZero y = true then 2143289344 else (if g = true then (-2147483648 : Int32) else 0) ||| (2139095040 : Int32)) := by
        unfold zb_X10_product_63 zb_X10_product_78 zb_X10_product_83 zb_X10_product_110
        by_cases c : (x &&& (2147483647 : Int32)) = 0
        · rw [if_pos c, if_pos (zx.mpr c), if_pos rfl, if_pos rfl]
        · rw [if_neg c, if_neg (fun z => c (zx.mp z))]
          by_cases c2 : (y &&& (2147483647 : Int32)) = 0
          · rw [if_pos c2, if_pos (zy.mpr c2), if_pos rfl, if_pos rfl]
          · rw [if_neg c2, if_neg (fun z => c2 (zy.mp z)), if_pos rfl, if_neg Bool.false_ne_true]
            cases g <;> rfl
      have fin : zb_X10_product_63 x y g false = some (zf_X1_nearest (if g = true then (-2147483648 : Int32) else 0) (if 0 < zf_X1_signed x * zf_X1_signed y then zf_X1_signed x * zf_X1_signed y else -(zf_X1_signed x * zf_X1_signed y)) (zf_X1_scale x + zf_X1_scale y)) := by
        obtain ⟨N, hN, e1, e2⟩ := prodM x y
        have he : -400 ≤ (zf_X10_powerOf x + zf_X10_powerOf y).toInt ∧ (zf_X10_powerOf x + zf_X10_powerOf y).toInt ≤ 400 := by
          obtain ⟨ex, f, h⟩ := fd x
          obtain ⟨ey, f', h'⟩ := fd y
          have i1 := pE_in h.1
          have i2 := pE_in h'.1
          rw [gl_add rfl (powR h) (powR h') (by omega)]
          omega
        rw [e2, powEq, powEq]
        have r : ∀ w, zb_X10_product_83 x y false g w = some (zf_X1_nearest (if g = true then (-2147483648 : Int32) else 0) (zf_X10_placesOf x * zf_X10_placesOf y) (zf_X10_powerOf x + zf_X10_powerOf y)) := fun w => by
          unfold zb_X10_product_83
          rw [if_neg Bool.false_ne_true, NE e1 he g, obd_some]
        unfold zb_X10_product_63 zb_X10_product_78
        rw [r, r]
        repeat' split
        all_goals rfl
      rw [inf, fin]
      by_cases i1 : zf_X1_isInfinite x = true
      · rw [if_pos i1, if_pos i1]
      · rw [if_neg i1, if_neg i1]
        by_cases i2 : zf_X1_isInfinite y = true
        · rw [if_pos i2, if_pos i2]
        · rw [if_neg i2, if_neg i2]
/-- a whole's rounding lies in its place -/
theorem rq_in {n k : Nat} (h1 : 2 ^ k ≤ n) (h2 : n < 2 ^ (k + 1)) : 8388608 ≤ rq n ((k : Int) - 23) ∧ rq n ((k : Int) - 23) ≤ 16777216 := by
  unfold rq
  by_cases c : (k : Int) - 23 ≤ 0
  · rw [if_pos c]
    obtain ⟨B, hB⟩ : ∃ B : Nat, k + B = 23 := ⟨23 - k, by omega⟩
    rw [show (-((k : Int) - 23)).toNat = B by omega]
    have a : 2 ^ k * 2 ^ B ≤ n * 2 ^ B := Nat.mul_le_mul_right _ h1
    have b : n * 2 ^ B < 2 ^ (k + 1) * 2 ^ B := Nat.mul_lt_mul_of_pos_right h2 (Nat.two_pow_pos B)
    rw [← Nat.pow_add, hB] at a
    rw [← Nat.pow_add, show k + 1 + B = 24 by omega] at b
    omega
  · rw [if_neg c]
    obtain ⟨B, hB⟩ : ∃ B : Nat, k = 23 + B := ⟨k - 23, by omega⟩
    rw [show ((k : Int) - 23).toNat = B by omega]
    have hp := Nat.two_pow_pos B
    have a : 8388608 ≤ n / 2 ^ B := by
      rw [Nat.le_div_iff_mul_le hp]
      rw [hB, Nat.pow_add] at h1
      omega
    have b : n / 2 ^ B < 16777216 := by
      rw [Nat.div_lt_iff_lt_mul hp]
      rw [hB, show 23 + B + 1 = 24 + B by omega, Nat.pow_add 2 24 B] at h2
      omega
    split <;> omega
theorem orS {s : Int32} {V : Nat} (hs : s = 0 ∨ s = (-2147483648 : Int32)) (hV : V < 2147483648) : (s ||| nI V).toBitVec.toNat % 2147483648 = V ∧ (0 ≤ (s ||| nI V) ↔ s = 0) := by
  have t0 : (0 : Int32).toInt = 0 := rfl
  have h2 := toIntU (s ||| nI V)
  have e : (s ||| nI V).toBitVec.toNat = s.toBitVec.toNat ||| V := by rw [Int32.toBitVec_or, BitVec.toNat_or, nI_vec (by omega)]
  rcases hs with rfl | rfl
  · have e2 : ((0 : Int32) ||| nI V).toBitVec.toNat = V := by rw [e, show (0 : Int32).toBitVec.toNat = 0 from rfl, Nat.zero_or]
    rw [Int32.le_iff_toInt_le, t0, h2, e2, if_pos hV]
    exact ⟨by omega, by simp⟩
  · have e2 : ((-2147483648 : Int32) ||| nI V).toBitVec.toNat = 2147483648 + V := by
      rw [e, show (-2147483648 : Int32).toBitVec.toNat = 1 <<< 31 from rfl, ← Nat.shiftLeft_add_eq_or_of_lt (by omega)]
      rfl
    rw [Int32.le_iff_toInt_le, t0, h2, e2, if_neg (by omega)]
    refine ⟨by omega, ?_⟩
    constructor
    · intro z
      omega
    · intro z
      exact absurd z (by decide)
theorem ar71 {y ex f k Q V V' P : Nat} (hP : P = 8388608) (h0 : y + 3 = ex) (hV : ex * P + f = V) (hV0 : V = (k + 126) * P + Q) (hV' : V' = (k + 124) * P + Q) : y * P + (f + P) = V' := by
  subst h0
  rw [Nat.add_mul] at hV hV0 hV'
  clear hP
  omega
theorem quart {m : Int64} {n : Nat} (hm : m.toInt = (n : Int)) (h1 : 1 ≤ n) (h2 : n ≤ 2147483648) {s : Int32} (hs : s = 0 ∨ s = (-2147483648 : Int32)) : zf_X1_product (zf_X1_nearest s m 0) 1048576000 = zf_X1_nearest s m (-2) := by
  obtain ⟨k, k1, k3, k4⟩ := lgS h1 (by omega)
  have k5 : k < 32 := (Nat.pow_lt_pow_iff_right (by decide : 1 < 2)).mp (Nat.lt_of_le_of_lt k3 (by omega : n < 2 ^ 32))
  have t0 : (0 : Int32).toInt = 0 := rfl
  have t2 : (-2 : Int32).toInt = -2 := rfl
  rw [NV (b := (k : Int) - 23) (E := k + 126) hm k3 k4 k1 (by decide) (Or.inl ⟨rfl, by omega⟩) (by omega) (Or.inl (by omega)) s]
  rw [NV (b := (k : Int) - 23) (E := k + 124) hm k3 k4 k1 (by decide) (Or.inl ⟨rfl, by omega⟩) (by omega) (Or.inl (by omega)) s]
  obtain ⟨q1, q2⟩ := rq_in k3 k4
  generalize rq n ((k : Int) - 23) = Q at *
  obtain ⟨V, hV0⟩ : ∃ V, V = (k + 126) * 8388608 + Q := ⟨_, rfl⟩
  have e1 : rn s (k + 126) Q = s ||| nI V := by
    unfold rn
    rw [if_pos (by omega), hV0]
  rw [e1]
  clear e1
  obtain ⟨o1, o2⟩ := orS hs (V := V) (by omega)
  have hF := fdU (s ||| nI V)
  generalize s ||| nI V = r at o1 o2 hF ⊢
  obtain ⟨ex, f, hx, hf, hF⟩ : ∃ ex f, ex = r.toBitVec.toNat / 8388608 % 256 ∧ f = r.toBitVec.toNat % 8388608 ∧ FD r ex f := ⟨_, _, rfl, rfl, hF⟩
  have hV : ex * 8388608 + f = V := by omega
  have c1 : (2139095040 : Int32).toInt = 2139095040 := rfl
  have hr : (r &&& (2147483647 : Int32)).toInt = (V : Int) := by
    rw [hF.2.2.1, hV, nI_toInt (by omega)]
  have nn : ¬ zf_X1_isNan r = true := by
    unfold zf_X1_isNan zb_X1_isNan_14
    rw [if_pos (by rw [Int32.le_iff_toInt_le, hr, c1]; omega)]
    exact Bool.false_ne_true
  have ni : ¬ zf_X1_isInfinite r = true := by
    unfold zf_X1_isInfinite zb_X1_isInfinite_14
    rw [if_neg (fun z => by rw [z, c1] at hr; omega)]
    exact Bool.false_ne_true
  unfold zf_X1_product
  rw [if_neg nn, if_neg (by decide), letb_eq, if_neg ni, if_neg (by decide), sgn_xor]
  have es : (if (0 ≤ r ↔ 0 ≤ (1048576000 : Int32)) then 0 else (-2147483648 : Int32)) = s := by
    by_cases z : s = 0
    · rw [if_pos (iff_of_true (o2.mpr z) (by decide)), z]
    · rw [if_neg (fun w => z (o2.mp (w.mpr (by decide))))]
      exact (hs.resolve_left z).symm
  rw [es]
  have d1 : (zf_X1_signed 1048576000).toInt = 8388608 := by decide
  have d2 : (zf_X1_scale 1048576000).toInt = -25 := by decide
  have s1 := sgC hF
  have s2 := powC hF
  have fF : pF ex f < 16777216 := pF_lt (by have := hF.2.1; exact this)
  obtain ⟨M, hM⟩ : ∃ M : Int64, M.toInt = ((pF ex f * 2 ^ 23 : Nat) : Int) := ⟨Int64.ofNat (pF ex f * 2 ^ 23), by
    rw [Int64.toInt_ofNat_of_lt (by omega)]⟩
  have ea : (if 0 < zf_X1_signed r * zf_X1_signed 1048576000 then zf_X1_signed r * zf_X1_signed 1048576000 else -(zf_X1_signed r * zf_X1_signed 1048576000)) = M := by
    refine absEq hM ?_
    by_cases a : 0 ≤ r
    · rw [if_pos a] at s1
      rw [g_mulL rfl s1 d1 (by omega)]
      exact Or.inl (by omega)
    · rw [if_neg a] at s1
      rw [g_mulL rfl s1 d1 (by omega)]
      exact Or.inr (by omega)
  rw [ea]
  have s3 : (zf_X1_scale r + zf_X1_scale 1048576000).toInt = pE ex + -25 := gl_add rfl s2 d2 (by have := pE_in hF.1; omega)
  generalize zf_X1_scale r + zf_X1_scale 1048576000 = e at s3 ⊢
  clear ea s1 s2 d1 d2 es nn ni
  have i2 := pE_in hF.1
  have e0 : ¬ ex = 0 := by omega
  have hpF : pF ex f = f + 8388608 := by unfold pF; rw [if_neg e0]
  have hpE : pE ex = (ex : Int) - 150 := by unfold pE; rw [if_neg e0]
  have h46 : rq (pF ex f * 2 ^ 23) 23 = pF ex f := by
    have := rq_scale (pF ex f) 23 0
    rw [show (0 : Int) + ((23 : Nat) : Int) = 23 by decide] at this
    rw [this]
    unfold rq
    rw [if_pos (by decide)]
    show pF ex f * 2 ^ 0 = _
    omega
  obtain ⟨y, h3⟩ : ∃ y, y + 3 = ex := ⟨ex - 3, by omega⟩
  rw [NV (b := 23) (k := 46) (E := y) hM (by omega) (by omega) (by decide) (by omega) (Or.inl ⟨by decide, by omega⟩) (by omega) (Or.inl (by decide)) s, h46]
  obtain ⟨V', hV'⟩ : ∃ V', V' = (k + 124) * 8388608 + Q := ⟨_, rfl⟩
  have e2 : rn s (k + 124) Q = s ||| nI V' := by
    unfold rn
    rw [if_pos (by omega), hV']
  rw [e2]
  unfold rn
  have e3 : y * 8388608 + pF ex f = V' := by rw [hpF]; exact ar71 rfl h3 hV hV0 hV'
  rw [if_pos (by omega), e3]
theorem fe_quarter (v : Int32) : ∃ r, zf_X10_floatOf v.toInt64 = some r ∧ zf_X10_product r 1048576000 = some (zf_X1_quarterOf v.toInt64) := by
  refine ⟨_, fe_floatOf _ (b32 v), ?_⟩
  rw [fe_product]
  congr 1
  have t0 : (0 : Int64).toInt = 0 := rfl
  have h1 := v.toInt_lt
  have h2 := v.le_toInt
  have hv := Int32.toInt_toInt64 v
  generalize v.toInt64 = w at hv
  by_cases z : w = 0
  · subst z
    decide
  · have nz : ¬ w.toInt = 0 := fun y => z (Int64.toInt_inj.mp (y.trans t0.symm))
    obtain ⟨n, hn⟩ : ∃ n : Nat, (n : Int) = w.toInt ∨ (n : Int) = -w.toInt := ⟨w.toInt.natAbs, by omega⟩
    have hm : (if 0 < w then w else -w).toInt = (w.toInt.natAbs : Int) := by
      by_cases y : 0 < w
      · rw [if_pos y]
        rw [Int64.lt_iff_toInt_lt, t0] at y
        omega
      · rw [if_neg y, g_negL rfl rfl (by omega)]
        rw [Int64.lt_iff_toInt_lt, t0] at y
        omega
    unfold zf_X1_ofWhole zf_X1_quarterOf zb_X1_ofWhole_12 zb_X1_quarterOf_12
    by_cases y : (0 : Int64) ≤ w
    · rw [if_pos y, if_pos y]
      exact quart hm (by omega) (by omega) (Or.inl rfl)
    · rw [if_neg y, if_neg y]
      exact quart hm (by omega) (by omega) (Or.inr rfl)
