/-! leading zeros -/
theorem nI_vec {n : Nat} (h : n < 2 ^ 32) : (nI n).toBitVec.toNat = n := by
  show (BitVec.ofNat 32 n).toNat = n
  rw [BitVec.toNat_ofNat, Nat.mod_eq_of_lt h]
theorem u31 : ∀ s, s < 32 → ((nI s).toUInt32 &&& Int32.toUInt32 31) = UInt32.ofNat s := by decide
theorem u31n : ∀ s, s < 32 → (UInt32.ofNat s).toNat % 32 = s := by decide
theorem ushr {n s : Nat} (hn : n < 2 ^ 32) (hs : s < 32) : ((nI n).toUInt32 >>> ((nI s).toUInt32 &&& Int32.toUInt32 31)).toInt32 = nI (n / 2 ^ s) := by
  rw [u31 s hs]
  apply Int32.toBitVec_inj.mp
  apply BitVec.eq_of_toNat_eq
  have hd : n / 2 ^ s ≤ n := Nat.div_le_self _ _
  rw [nI_vec (by omega)]
  show ((nI n).toUInt32 >>> UInt32.ofNat s).toNat = _
  rw [UInt32.toNat_shiftRight, u31n s hs, Nat.shiftRight_eq_div_pow]
  congr 1
  exact nI_vec hn
/-- r leading zeros of v, seen from c -/
def LZ (c v : Nat) (x : Int32) : Prop := ∃ r, r ≤ c ∧ x = nI r ∧ 2 ^ (c - r) ≤ v ∧ v < 2 ^ (c - r + 1)
theorem LZ.up {c v s : Nat} {x : Int32} (h : LZ (c - s) (v / 2 ^ s) x) (hs : s ≤ c) : LZ c v x := by
  obtain ⟨r, h1, h2, h3, h4⟩ := h
  have hp : 0 < 2 ^ s := Nat.two_pow_pos s
  refine ⟨r, by omega, h2, ?_, ?_⟩
  · have e : c - r = (c - s - r) + s := by omega
    rw [e, Nat.pow_add]
    exact (Nat.le_div_iff_mul_le hp).mp h3
  · have e : c - r + 1 = (c - s - r + 1) + s := by omega
    rw [e, Nat.pow_add]
    exact (Nat.div_lt_iff_lt_mul hp).mp h4
theorem lz73 {c v : Nat} (hc : c < 64) (h1 : 1 ≤ c) (hv : 1 ≤ v) (h4 : v < 4) : LZ c v (zb_J6_numberOfLeadingZeros_0f7a4_73 (nI c) (nI v)) := by
  unfold zb_J6_numberOfLeadingZeros_0f7a4_73
  rw [show (1 : Int32) = nI 1 from rfl, ushr (by omega) (by decide)]
  have : v = 1 ∨ v = 2 ∨ v = 3 := by omega
  have e1 : nI c - nI 0 = nI c := by apply Int32.toInt_inj.mp; rw [gl_sub rfl (nI_toInt (n := c) (by omega)) (nI_toInt (n := 0) (by decide)) (by omega), nI_toInt (by omega)]; omega
  have e2 : nI c - nI 1 = nI (c - 1) := by apply Int32.toInt_inj.mp; rw [gl_sub rfl (nI_toInt (n := c) (by omega)) (nI_toInt (n := 1) (by decide)) (by omega), nI_toInt (by omega)]; omega
  rcases this with rfl | rfl | rfl
  · exact ⟨c, Nat.le_refl _, e1, by rw [Nat.sub_self]; decide, by rw [Nat.sub_self]; decide⟩
  · exact ⟨c - 1, by omega, e2, by rw [show c - (c - 1) = 1 by omega]; decide, by rw [show c - (c - 1) = 1 by omega]; decide⟩
  · exact ⟨c - 1, by omega, e2, by rw [show c - (c - 1) = 1 by omega]; decide, by rw [show c - (c - 1) = 1 by omega]; decide⟩
theorem nI_subk {c s : Nat} (h : s ≤ c) (hc : c < 64) (m : Int32) (hm : m.toInt = -(s : Int)) : nI c + m = nI (c - s) := by
  apply Int32.toInt_inj.mp
  rw [gl_add rfl (nI_toInt (n := c) (by omega)) hm (by omega), nI_toInt (by omega)]
  omega
theorem lz61 {c v : Nat} (hc : c < 64) (h1 : 3 ≤ c) (hv : 1 ≤ v) (h4 : v < 16) : LZ c v (zb_J6_numberOfLeadingZeros_0f7a4_61 (nI c) (nI v)) := by
  unfold zb_J6_numberOfLeadingZeros_0f7a4_61
  by_cases q : v < 4
  · rw [if_pos (show nI v < (4 : Int32) from nI_lt (b := 4) q (by decide))]
    exact lz73 hc (by omega) hv q
  · rw [if_neg (show ¬ nI v < (4 : Int32) from nI_nlt (b := 4) (by omega) (by omega)), letb_eq, show (2 : Int32) = nI 2 from rfl, ushr (by omega) (by decide), nI_subk (s := 2) (by omega) hc _ rfl]
    exact (lz73 (c := c - 2) (v := v / 2 ^ 2) (by omega) (by omega) (by omega) (by omega)).up (by omega)
theorem lz48 {c v : Nat} (hc : c < 64) (h1 : 7 ≤ c) (hv : 1 ≤ v) (h4 : v < 256) : LZ c v (zb_J6_numberOfLeadingZeros_0f7a4_48 (nI c) (nI v)) := by
  unfold zb_J6_numberOfLeadingZeros_0f7a4_48
  by_cases q : v < 16
  · rw [if_pos (show nI v < (16 : Int32) from nI_lt (b := 16) q (by decide))]
    exact lz61 hc (by omega) hv q
  · rw [if_neg (show ¬ nI v < (16 : Int32) from nI_nlt (b := 16) (by omega) (by omega)), letb_eq, show (4 : Int32) = nI 4 from rfl, ushr (by omega) (by decide), nI_subk (s := 4) (by omega) hc _ rfl]
    exact (lz61 (c := c - 4) (v := v / 2 ^ 4) (by omega) (by omega) (by omega) (by omega)).up (by omega)
theorem lz33 {c v : Nat} (hc : c < 64) (h1 : 15 ≤ c) (hv : 1 ≤ v) (h4 : v < 65536) : LZ c v (zb_J6_numberOfLeadingZeros_0f7a4_33 (nI c) (nI v)) := by
  unfold zb_J6_numberOfLeadingZeros_0f7a4_33
  by_cases q : v < 256
  · rw [if_pos (show nI v < (256 : Int32) from nI_lt (b := 256) q (by decide))]
    exact lz48 hc (by omega) hv q
  · rw [if_neg (show ¬ nI v < (256 : Int32) from nI_nlt (b := 256) (by omega) (by omega)), letb_eq, show (8 : Int32) = nI 8 from rfl, ushr (by omega) (by decide), nI_subk (s := 8) (by omega) hc _ rfl]
    exact (lz48 (c := c - 8) (v := v / 2 ^ 8) (by omega) (by omega) (by omega) (by omega)).up (by omega)
theorem lz32 {v : Nat} (hv : 1 ≤ v) (h4 : v < 2 ^ 31) : LZ 31 v (zf_J6_numberOfLeadingZeros_0f7a4 (nI v)) := by
  unfold zf_J6_numberOfLeadingZeros_0f7a4
  rw [if_pos (show (0 : Int32) < nI v from nI_lt (a := 0) (by omega) h4)]
  by_cases q : v < 65536
  · rw [if_pos (show nI v < (65536 : Int32) from nI_lt (b := 65536) q (by decide))]
    exact lz33 (c := 31) (by decide) (by decide) hv q
  · rw [if_neg (show ¬ nI v < (65536 : Int32) from nI_nlt (b := 65536) (by omega) (by omega)), letb_eq, show (16 : Int32) = nI 16 from rfl, ushr (by omega) (by decide)]
    exact (lz33 (c := 31 - 16) (v := v / 2 ^ 16) (by omega) (by omega) (by omega) (by omega)).up (by omega)
