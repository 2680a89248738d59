/-! both roundings agree, once the cut is known -/
theorem NE1 {m : Int64} {n k : Nat} (hm : m.toInt = (n : Int)) (h1 : 2 ^ k ≤ n) (h2 : n < 2 ^ (k + 1)) (hk : k < 63) {e b s : Int32} (he : -400 ≤ e.toInt ∧ e.toInt ≤ 400) (hb : (b.toInt = (k : Int) - 23 ∧ -149 ≤ e.toInt + b.toInt) ∨ (b.toInt = -149 - e.toInt ∧ (k : Int) - 23 ≤ b.toInt)) : zb_X10_nearest_50 m e s b = some (letb ((e + b) - (-149 : Int32)) (fun e5 => (if e5 < (254 : Int32) then (if b ≤ (62 : Int32) then letb (m <<< ((if (-b) < (0 : Int32) then (0 : Int32) else (-b)).toInt64 &&& 63)) (fun e8 => (if b ≤ 0 then (zb_X1_nearest_136 s e8 e5) else letb (m >>> (b.toInt64 &&& 63)) (fun e10 => letb (m - (e10 <<< (b.toInt64 &&& 63))) (fun e11 => letb ((1 : Int64) <<< ((b - (1 : Int32)).toInt64 &&& 63)) (fun e12 => (if e12 < e11 then (zb_X1_nearest_130 s e10 e5) else (if e11 = e12 then (if (e10 &&& (1 : Int64)) = (1 : Int64) then (zb_X1_nearest_130 s e10 e5) else (zb_X1_nearest_136 s e10 e5)) else (zb_X1_nearest_136 s e10 e5)))))))) else s) else (s ||| (2139095040 : Int32))))) := by
  have t0 : (0 : Int32).toInt = 0 := rfl
  have t62 : (62 : Int32).toInt = 62 := rfl
  have tm : (-149 : Int32).toInt = -149 := rfl
  obtain ⟨E, hE⟩ : ∃ E : Nat, e.toInt + b.toInt + 149 = (E : Int) := ⟨(e.toInt + b.toInt + 149).toNat, by omega⟩
  have e5 : e + b - (-149 : Int32) = nI E := by
    apply Int32.toInt_inj.mp
    have a : (e + b).toInt = e.toInt + b.toInt := gl_add rfl rfl rfl (by omega)
    rw [gl_sub rfl a tm (by omega), nI_toInt (by omega)]
    omega
  rw [letb_eq, e5]
  unfold zb_X10_nearest_50
  by_cases c0 : 0 < b.toInt
  · have p0 : (0 : Int32) < b := by rw [Int32.lt_iff_toInt_lt, t0]; exact c0
    have p0' : ¬ b ≤ (0 : Int32) := by rw [Int32.le_iff_toInt_le, t0]; omega
    rw [if_pos p0]
    by_cases c6 : b.toInt ≤ 62
    · have p6 : b ≤ (62 : Int32) := by rw [Int32.le_iff_toInt_le, t62]; exact c6
      rw [if_pos p6, if_pos p6, letb_eq, if_neg p0']
      unfold zb_X10_nearest_80 zb_X10_nearest_110
      rw [if_pos p0, if_pos p6, if_pos p0, if_pos p6]
      obtain ⟨B, B1, rfl⟩ := ex_nI (x := b) (n := 63) (by omega)
      rw [nI_toInt (by omega)] at hb hE c0 c6
      rw [letb_eq, letb_eq, letb_eq, restE hm (by omega)]
      have hq := quoT hm (B := B) (by omega)
      generalize (1 : Int64) <<< ((nI B - (1 : Int32)).toInt64 &&& 63) = H
      generalize m &&& (((1 : Int64) <<< ((nI B).toInt64 &&& 63)) - (1 : Int64)) = R
      generalize m >>> ((nI B).toInt64 &&& 63) = q at hq
      have hp : 0 < 2 ^ B := Nat.two_pow_pos B
      have hQ : n / 2 ^ B < 16777216 := by
        rw [Nat.div_lt_iff_lt_mul hp]
        have : 2 ^ (k + 1) ≤ 2 ^ (24 + B) := Nat.pow_le_pow_right (by decide) (by omega)
        rw [Nat.pow_add 2 24 B] at this
        omega
      have hN : 0 < E → 8388608 ≤ n / 2 ^ B := fun h => by
        rw [Nat.le_div_iff_mul_le hp]
        have e' : k = 23 + B := by omega
        rw [e', Nat.pow_add] at h1
        omega
      generalize n / 2 ^ B = Q at *
      have hB' : (nI B).toInt = (B : Int) := nI_toInt (by omega)
      have up : zb_X10_nearest_172 e q (nI B) s = some (if nI E < (254 : Int32) then zb_X1_nearest_130 s q (nI E) else s ||| (2139095040 : Int32)) := by
        have hq1 : (q + 1).toInt = ((Q + 1 : Nat) : Int) := by
          rw [g_addL rfl hq rfl (by show _ ≤ (Q : Int) + 1 ∧ (Q : Int) + 1 ≤ _; omega)]
          rfl
        unfold zb_X10_nearest_172 zb_X10_nearest_177 zb_X1_nearest_130 zb_X1_nearest_136
        rw [if_pos rfl, asmR hq1 (by omega) (by rw [hB']; exact hE) (by omega) (fun h => by have := hN h; omega), letb_eq, lo32 hq1 (by omega)]
      have dn : zb_X10_nearest_176 e q (nI B) s = some (if nI E < (254 : Int32) then zb_X1_nearest_136 s q (nI E) else s ||| (2139095040 : Int32)) := by
        have hq1 : (q + 0).toInt = ((Q : Nat) : Int) := by
          rw [g_addL rfl hq rfl (by show _ ≤ (Q : Int) + 0 ∧ (Q : Int) + 0 ≤ _; omega)]
          show (Q : Int) + 0 = _
          omega
        unfold zb_X10_nearest_176 zb_X10_nearest_177 zb_X1_nearest_136
        rw [if_neg (by decide), asmR hq1 (by omega) (by rw [hB']; exact hE) (by omega) hN, lo32 hq (by omega)]
      unfold zb_X10_nearest_140
      rw [up, dn, if_neg p0']
      repeat' split
      all_goals first | rfl | contradiction
    · have p6 : ¬ b ≤ (62 : Int32) := by rw [Int32.le_iff_toInt_le, t62]; exact c6
      have E0 : E = 0 := by omega
      subst E0
      unfold zb_X10_nearest_80 zb_X10_nearest_110
      rw [if_neg p6, if_neg p6, if_pos p0, if_neg p6, if_pos p0, if_neg p6]
      unfold zb_X10_nearest_140 zb_X10_nearest_176 zb_X10_nearest_177
      rw [if_neg (by decide), if_neg (by decide), if_neg (by decide), asmR (Q := 0) (E := 0) rfl (by decide) hE (by decide) (fun h => absurd h (by decide)), if_pos (show nI 0 < (254 : Int32) by decide)]
      rw [v23 0 (by decide), nI_add]
      simp [nI]
  · have p0 : ¬ (0 : Int32) < b := by rw [Int32.lt_iff_toInt_lt, t0]; exact c0
    have p0' : b ≤ (0 : Int32) := by rw [Int32.le_iff_toInt_le, t0]; omega
    have p6 : b ≤ (62 : Int32) := by rw [Int32.le_iff_toInt_le, t62]; omega
    have hneg : (-b).toInt = -b.toInt := by
      have := gl_sub (x := 0 - b) rfl t0 rfl (by omega)
      rw [show -b = 0 - b by simp, this]
      omega
    rw [if_neg p0, if_pos p6, letb_eq, if_pos p0', if_neg (show ¬ (-b) < (0 : Int32) by rw [Int32.lt_iff_toInt_lt, t0, hneg]; omega)]
    unfold zb_X10_nearest_80 zb_X10_nearest_110
    rw [if_neg p0, if_neg p0]
    unfold zb_X10_nearest_140 zb_X10_nearest_176 zb_X10_nearest_177
    rw [if_neg (by decide), if_neg (by decide), if_neg (by decide)]
    obtain ⟨B, B1, hB⟩ := ex_nI (x := -b) (n := 24) (by rw [hneg]; omega)
    have hBb : b.toInt = -(B : Int) := by
      rw [hB, nI_toInt (by omega)] at hneg
      omega
    rw [hB]
    have hc : ((2 ^ B : Nat) : Int) = (2 : Int) ^ B := by push_cast; rfl
    have hl : n * 2 ^ B < 16777216 := by
      have a : n * 2 ^ B < 2 ^ (k + 1) * 2 ^ B := Nat.mul_lt_mul_of_pos_right h2 (Nat.two_pow_pos B)
      rw [← Nat.pow_add] at a
      have : 2 ^ (k + 1 + B) ≤ 2 ^ 24 := Nat.pow_le_pow_right (by decide) (by omega)
      omega
    have hmul : (n : Int) * 2 ^ B = ((n * 2 ^ B : Nat) : Int) := by rw [← hc, ← Int.natCast_mul]
    have hq : (m <<< ((nI B).toInt64 &&& 63)).toInt = ((n * 2 ^ B : Nat) : Int) := by
      rw [shlL m (by omega) (by rw [hm]; omega) (by rw [hm, hmul]; omega), hm, hmul]
    have hN : 0 < E → 8388608 ≤ n * 2 ^ B := fun h => by
      have a : 2 ^ k * 2 ^ B ≤ n * 2 ^ B := Nat.mul_le_mul_right _ h1
      rw [← Nat.pow_add, show k + B = 23 by omega] at a
      omega
    generalize m <<< ((nI B).toInt64 &&& 63) = q at hq
    generalize n * 2 ^ B = Q at *
    have hq1 : (q + 0).toInt = ((Q : Nat) : Int) := by
      rw [g_addL rfl hq rfl (by show _ ≤ (Q : Int) + 0 ∧ (Q : Int) + 0 ≤ _; omega)]
      show (Q : Int) + 0 = _
      omega
    unfold zb_X1_nearest_136
    rw [asmR hq1 (by omega) hE (by omega) hN, lo32 hq (by omega)]
