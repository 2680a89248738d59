/-! the rounding as a number -/
theorem lgS {n : Nat} (h1 : 1 ≤ n) (h2 : n < 2 ^ 63) : ∃ k, k < 63 ∧ 2 ^ k ≤ n ∧ n < 2 ^ (k + 1) := by
  obtain ⟨k, k1, _, k3, k4⟩ := blS h1 h2
  exact ⟨k, k1, k3, k4⟩
def rq (n : Nat) (b : Int) : Nat :=
  if b ≤ 0 then n * 2 ^ (-b).toNat
  else if 2 ^ (b.toNat - 1) < n % 2 ^ b.toNat ∨ (n % 2 ^ b.toNat = 2 ^ (b.toNat - 1) ∧ (n / 2 ^ b.toNat) % 2 = 1) then n / 2 ^ b.toNat + 1 else n / 2 ^ b.toNat
def rn (s : Int32) (E Q : Nat) : Int32 := if E < 254 then s ||| nI (E * 8388608 + Q) else s ||| (2139095040 : Int32)
theorem and1 {q : Int64} {Q : Nat} (h : q.toInt = (Q : Int)) : (q &&& (1 : Int64)) = 1 ↔ Q % 2 = 1 := by
  have t : (q &&& (1 : Int64)).toBitVec.toNat = Q % 2 := by
    rw [Int64.toBitVec_and, BitVec.toNat_and, toU h, show (1 : Int64).toBitVec.toNat = 2 ^ 1 - 1 from rfl, Nat.and_two_pow_sub_one_eq_mod]
  constructor
  · intro z
    rw [z] at t
    have : (1 : Int64).toBitVec.toNat = 1 := rfl
    omega
  · intro z
    apply Int64.toBitVec_inj.mp
    apply BitVec.eq_of_toNat_eq
    rw [t, z]
    rfl
theorem NV {m : Int64} {n k E : Nat} (hm : m.toInt = (n : Int)) (h1 : 2 ^ k ≤ n) (h2 : n < 2 ^ (k + 1)) (hk : k < 63) {e : Int32} {b : Int} (he : -400 ≤ e.toInt ∧ e.toInt ≤ 400) (hb : (b = (k : Int) - 23 ∧ -149 ≤ e.toInt + b) ∨ (b = -149 - e.toInt ∧ (k : Int) - 23 ≤ b)) (hE : e.toInt + b + 149 = (E : Int)) (hs : b ≤ 62 ∨ n < 2 ^ 62) (s : Int32) : zf_X1_nearest s m e = rn s E (rq n b) := by
  have hn : n < 2 ^ 63 := by have := m.toInt_lt; omega
  have n1 : 1 ≤ n := Nat.le_trans (Nat.two_pow_pos k) h1
  have t0 : (0 : Int32).toInt = 0 := rfl
  have t62 : (62 : Int32).toInt = 62 := rfl
  have t24 : (24 : Int32).toInt = 24 := rfl
  have t23 : (23 : Int32).toInt = 23 := rfl
  have t1 : (1 : Int32).toInt = 1 := rfl
  have tm : (-149 : Int32).toInt = -149 := rfl
  have m0 : ¬ m = 0 := fun z => by rw [z] at hm; have : (0 : Int64).toInt = 0 := rfl; omega
  unfold zf_X1_nearest
  rw [if_neg m0, lengthC hm n1, blU 63 n k hn h1 h2, letb_eq]
  have a1 : (nI (k + 1) - 24).toInt = (k : Int) - 23 := by
    rw [gl_sub rfl (nI_toInt (n := k + 1) (by omega)) t24 (by omega)]
    omega
  have a2 : nI (k + 1) - 23 - 1 = nI (k + 1) - 24 := by
    apply Int32.toInt_inj.mp
    have : (nI (k + 1) - 23).toInt = (k : Int) - 22 := by
      rw [gl_sub rfl (nI_toInt (n := k + 1) (by omega)) t23 (by omega)]
      omega
    rw [a1, gl_sub rfl this t1 (by omega)]
    omega
  have a3 : ((-149 : Int32) - e).toInt = -149 - e.toInt := gl_sub rfl tm rfl (by omega)
  rw [a2]
  clear a2
  generalize nI (k + 1) - 24 = X at a1 ⊢
  generalize hY : (-149 : Int32) - e = Y at a3 ⊢
  clear hY
  obtain ⟨β, hβ, hβb⟩ : ∃ β : Int32, (if X < Y then Y else X) = β ∧ β.toInt = b := by
    refine ⟨_, rfl, ?_⟩
    clear h1 h2 hn hs
    by_cases c : X < Y
    · rw [if_pos c, a3]
      rw [Int32.lt_iff_toInt_lt, a1, a3] at c
      omega
    · rw [if_neg c, a1]
      rw [Int32.lt_iff_toInt_lt, a1, a3] at c
      omega
  rw [hβ, letb_eq, letb_eq]
  have e5 : e + β - (-149 : Int32) = nI E := by
    apply Int32.toInt_inj.mp
    have a : (e + β).toInt = e.toInt + b := gl_add rfl rfl hβb (by omega)
    rw [gl_sub rfl a tm (by omega), nI_toInt (by omega)]
    omega
  rw [e5]
  unfold rn
  by_cases cE : E < 254
  · rw [if_pos (show nI E < (254 : Int32) from nI_lt (b := 254) cE (by decide)), if_pos cE]
    by_cases c6 : b ≤ 62
    · have p6 : β ≤ (62 : Int32) := by rw [Int32.le_iff_toInt_le, t62, hβb]; exact c6
      rw [if_pos p6, letb_eq]
      by_cases c0 : b ≤ 0
      · have p0 : β ≤ (0 : Int32) := by rw [Int32.le_iff_toInt_le, t0, hβb]; exact c0
        have hneg : (-β).toInt = -b := by
          have := gl_sub (x := 0 - β) rfl t0 hβb (by omega)
          rw [show -β = 0 - β by simp, this]
          omega
        rw [if_pos p0, if_neg (show ¬ (-β) < (0 : Int32) by rw [Int32.lt_iff_toInt_lt, t0, hneg]; omega)]
        obtain ⟨B, B1, hB⟩ := ex_nI (x := -β) (n := 24) (by rw [hneg]; omega)
        have hBb : b = -(B : Int) := by
          rw [hB, nI_toInt (by omega)] at hneg
          omega
        have eB : (-b).toNat = B := by omega
        rw [hB]
        unfold rq
        rw [if_pos c0, eB]
        have hc : ((2 ^ B : Nat) : Int) = (2 : Int) ^ B := by push_cast; rfl
        have hl : n * 2 ^ B < 16777216 := by
          have a : n * 2 ^ B < 2 ^ (k + 1) * 2 ^ B := Nat.mul_lt_mul_of_pos_right h2 (Nat.two_pow_pos B)
          rw [← Nat.pow_add] at a
          have : 2 ^ (k + 1 + B) ≤ 2 ^ 24 := Nat.pow_le_pow_right (by decide) (by omega)
          omega
        have hmul : (n : Int) * 2 ^ B = ((n * 2 ^ B : Nat) : Int) := by rw [← hc, ← Int.natCast_mul]
        have hq : (m <<< ((nI B).toInt64 &&& 63)).toInt = ((n * 2 ^ B : Nat) : Int) := by
          rw [shlL m (by omega) (by rw [hm]; omega) (by rw [hm, hmul]; omega), hm, hmul]
        unfold zb_X1_nearest_136
        rw [lo32 hq (by omega), v23 E (by omega), nI_add]
      · have p0 : ¬ β ≤ (0 : Int32) := by rw [Int32.le_iff_toInt_le, t0, hβb]; exact c0
        rw [if_neg p0]
        obtain ⟨B, B1, rfl⟩ := ex_nI (x := β) (n := 63) (by omega)
        rw [nI_toInt (by omega)] at hβb
        have eB : b.toNat = B := by omega
        have hB1 : nI B - (1 : Int32) = nI (B - 1) := by
          apply Int32.toInt_inj.mp
          rw [gl_sub rfl (nI_toInt (n := B) (by omega)) t1 (by omega), nI_toInt (by omega)]
          omega
        rw [letb_eq, letb_eq, letb_eq, hB1]
        have hq := quoT hm (B := B) (by omega)
        have hr := restC hm (B := B) (by omega)
        have hh := one_shl (B := B - 1) (by omega)
        have hc : ((2 ^ (B - 1) : Nat) : Int) = (2 : Int) ^ (B - 1) := by push_cast; rfl
        rw [← hc] at hh
        unfold rq
        rw [if_neg c0, eB]
        have hp : 0 < 2 ^ B := Nat.two_pow_pos B
        have hQ : n / 2 ^ B < 16777216 := by
          rw [Nat.div_lt_iff_lt_mul hp]
          have : 2 ^ (k + 1) ≤ 2 ^ (24 + B) := Nat.pow_le_pow_right (by decide) (by omega)
          rw [Nat.pow_add 2 24 B] at this
          omega
        generalize (1 : Int64) <<< ((nI (B - 1)).toInt64 &&& 63) = H at hh
        generalize m - (m >>> ((nI B).toInt64 &&& 63) <<< ((nI B).toInt64 &&& 63)) = R at hr
        generalize m >>> ((nI B).toInt64 &&& 63) = q at hq
        generalize n / 2 ^ B = Q at *
        generalize n % 2 ^ B = W at *
        generalize 2 ^ (B - 1) = Z at *
        have i1 : H < R ↔ Z < W := by rw [Int64.lt_iff_toInt_lt, hh, hr]; omega
        have i2 : R = H ↔ W = Z := by
          rw [← Int64.toInt_inj, hh, hr]
          omega
        have i3 := and1 hq
        have up : zb_X1_nearest_130 s q (nI E) = s ||| nI (E * 8388608 + (Q + 1)) := by
          have hq1 : (q + 1).toInt = ((Q + 1 : Nat) : Int) := by
            rw [g_addL rfl hq rfl (by show _ ≤ (Q : Int) + 1 ∧ (Q : Int) + 1 ≤ _; omega)]
            rfl
          unfold zb_X1_nearest_130 zb_X1_nearest_136
          rw [letb_eq, lo32 hq1 (by omega), v23 E (by omega), nI_add]
        have dn : zb_X1_nearest_136 s q (nI E) = s ||| nI (E * 8388608 + Q) := by
          unfold zb_X1_nearest_136
          rw [lo32 hq (by omega), v23 E (by omega), nI_add]
        rw [up, dn]
        by_cases j1 : Z < W
        · rw [if_pos (i1.mpr j1), if_pos (Or.inl j1)]
        · rw [if_neg (fun z => j1 (i1.mp z))]
          by_cases j2 : W = Z
          · rw [if_pos (i2.mpr j2)]
            by_cases j3 : Q % 2 = 1
            · rw [if_pos (i3.mpr j3), if_pos (Or.inr ⟨j2, j3⟩)]
            · rw [if_neg (fun z => j3 (i3.mp z)), if_neg (fun z => z.elim j1 (fun w => j3 w.2))]
          · rw [if_neg (fun z => j2 (i2.mp z)), if_neg (fun z => z.elim j1 (fun w => j2 w.1))]
    · have p6 : ¬ β ≤ (62 : Int32) := by rw [Int32.le_iff_toInt_le, t62, hβb]; exact c6
      have n62 : n < 2 ^ 62 := hs.resolve_left c6
      have E0 : E = 0 := by omega
      subst E0
      have hb63 : 62 ≤ b.toNat - 1 := by omega
      have w1 : 2 ^ 62 ≤ 2 ^ (b.toNat - 1) := Nat.pow_le_pow_right (by decide) hb63
      have w2 : 2 ^ (b.toNat - 1) ≤ 2 ^ b.toNat := Nat.pow_le_pow_right (by decide) (by omega)
      unfold rq
      rw [if_neg p6, if_neg (by omega : ¬ b ≤ 0), Nat.mod_eq_of_lt (by omega), Nat.div_eq_of_lt (by omega), if_neg (by omega)]
      simp [nI]
  · rw [if_neg (show ¬ nI E < (254 : Int32) from nI_nlt (b := 254) (by omega) (by omega)), if_neg cE]
/-- scaling -/
theorem rq_scale (n j : Nat) (b : Int) : rq (n * 2 ^ j) (b + j) = rq n b := by
  unfold rq
  by_cases c : b ≤ 0
  · rw [if_pos c]
    by_cases c2 : b + j ≤ 0
    · rw [if_pos c2, Nat.mul_assoc, ← Nat.pow_add]
      rw [show j + (-(b + (j : Int))).toNat = (-b).toNat by omega]
    · rw [if_neg c2]
      have e : n * 2 ^ j = (n * 2 ^ (-b).toNat) * 2 ^ (b + j).toNat := by
        rw [Nat.mul_assoc, ← Nat.pow_add, show (-b).toNat + (b + (j : Int)).toNat = j by omega]
      have hp := Nat.two_pow_pos (b + j).toNat
      have hp2 := Nat.two_pow_pos ((b + j).toNat - 1)
      rw [e, Nat.mul_mod_left, Nat.mul_div_cancel _ hp, if_neg (by omega)]
  · rw [if_neg c, if_neg (show ¬ b + j ≤ 0 by omega)]
    obtain ⟨B, rfl⟩ : ∃ B : Nat, b = ((B + 1 : Nat) : Int) := ⟨b.toNat - 1, by omega⟩
    have e1 : (((B + 1 : Nat) : Int) + (j : Int)).toNat = (B + 1) + j := by omega
    have e2 : (((B + 1 : Nat) : Int)).toNat = B + 1 := by omega
    rw [e1, e2, show B + 1 + j - 1 = B + j by omega, show B + 1 - 1 = B by omega, Nat.pow_add 2 (B + 1) j, Nat.mul_mod_mul_right, Nat.mul_div_mul_right _ _ (Nat.two_pow_pos j), Nat.pow_add 2 B j]
    have hp := Nat.two_pow_pos j
    have l1 : (2 ^ B * 2 ^ j < n % 2 ^ (B + 1) * 2 ^ j) ↔ 2 ^ B < n % 2 ^ (B + 1) := Nat.mul_lt_mul_right hp
    have l2 : (n % 2 ^ (B + 1) * 2 ^ j = 2 ^ B * 2 ^ j) ↔ n % 2 ^ (B + 1) = 2 ^ B := Nat.mul_left_inj (by omega)
    simp only [l1, l2]
/-- one value, two spellings -/
theorem NSC {m m' : Int64} {n j : Nat} (hm : m.toInt = (n : Int)) (hm' : m'.toInt = ((n * 2 ^ j : Nat) : Int)) (hn' : n * 2 ^ j < 2 ^ 62) {e e' : Int32} (he : -400 ≤ e.toInt ∧ e.toInt ≤ 400) (he' : -400 ≤ e'.toInt ∧ e'.toInt ≤ 400) (hee : e'.toInt = e.toInt - j) (s : Int32) : zf_X1_nearest s m' e' = zf_X1_nearest s m e := by
  have hp := Nat.two_pow_pos j
  rcases Nat.eq_zero_or_pos n with h0 | h0
  · subst h0
    have x1 : m = 0 := Int64.toInt_inj.mp hm
    have x2 : m' = 0 := Int64.toInt_inj.mp (by rw [hm', Nat.zero_mul]; rfl)
    subst x1
    subst x2
    unfold zf_X1_nearest
    rw [if_pos rfl, if_pos rfl]
  · have nle : n ≤ n * 2 ^ j := Nat.le_mul_of_pos_right n hp
    have hn : n < 2 ^ 62 := Nat.lt_of_le_of_lt nle hn'
    obtain ⟨k, k1, k3, k4⟩ := lgS h0 (by omega)
    have g1 : 2 ^ (k + j) ≤ n * 2 ^ j := by rw [Nat.pow_add]; exact Nat.mul_le_mul_right _ k3
    have g2 : n * 2 ^ j < 2 ^ (k + j + 1) := by
      rw [show k + j + 1 = (k + 1) + j by omega, Nat.pow_add]
      exact Nat.mul_lt_mul_of_pos_right k4 hp
    have g3 : k + j < 63 := (Nat.pow_lt_pow_iff_right (by decide : 1 < 2)).mp (Nat.lt_of_le_of_lt g1 (by omega : n * 2 ^ j < 2 ^ 63))
    obtain ⟨b, hb⟩ : ∃ b : Int, (b = (k : Int) - 23 ∧ -149 ≤ e.toInt + b) ∨ (b = -149 - e.toInt ∧ (k : Int) - 23 ≤ b) := by
      by_cases c : -149 ≤ e.toInt + ((k : Int) - 23)
      · exact ⟨_, Or.inl ⟨rfl, c⟩⟩
      · exact ⟨_, Or.inr ⟨rfl, by omega⟩⟩
    obtain ⟨E, hE⟩ : ∃ E : Nat, e.toInt + b + 149 = (E : Int) := ⟨(e.toInt + b + 149).toNat, by omega⟩
    rw [NV hm k3 k4 k1 he hb hE (Or.inr hn) s, NV (b := b + j) (E := E) hm' g1 g2 g3 he' (by omega) (by omega) (Or.inr hn') s, rq_scale]
