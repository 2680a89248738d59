section Fails
variable {M : Nat} {κ ρ : Sg} {n : Nat} {kd aa zz : Nat → Nat} {bb : Nat → Int32} {P c e : Nat}
def flv (k : Nat) (ry rz rw ky kz w : Int32) : Bool := (decide (k = 2 ∨ k = 3 ∨ k = 4 ∨ k = 6) && decide (ry ≠ ky)) || (decide (k = 1 ∨ k = 2 ∨ k = 3 ∨ k = 4 ∨ k = 5 ∨ k = 6 ∨ k = 8) && decide (rz ≠ kz)) || decide (rw ≠ w)
theorem lits : nI 0 = (0 : Int32) ∧ nI 1 = (1 : Int32) ∧ nI 2 = (2 : Int32) ∧ nI 3 = (3 : Int32) ∧ nI 4 = (4 : Int32) ∧ nI 5 = (5 : Int32) ∧ nI 6 = (6 : Int32) ∧ nI 7 = (7 : Int32) ∧ nI 8 = (8 : Int32) ∧ nI 9 = (9 : Int32) := ⟨rfl, rfl, rfl, rfl, rfl, rfl, rfl, rfl, rfl, rfl⟩
theorem readsYC (h : PC κ n kd aa zz bb) (w : PW n kd aa zz) (hp : P < 24) : zf_X4_readsY (nI P) κ = some (decide (kd P = 2 ∨ kd P = 3 ∨ kd P = 4 ∨ kd P = 6)) := by
  obtain ⟨l0, l1, l2, l3, l4, l5, l6, l7, l8, l9⟩ := lits
  unfold zf_X4_readsY zb_X4_readsY_20 zb_X4_readsY_31 zb_X4_readsY_36
  rw [bd_nI hp (by decide), bd_nI hp (by decide), nI_clamp (by omega), (h.2 P hp).1]
  rcases k10 (w.2 P hp).1 with e | e | e | e | e | e | e | e | e | e <;> rw [e] <;> simp only [l0, l1, l2, l3, l4, l5, l6, l7, l8, l9] <;> simp
theorem readsZC (h : PC κ n kd aa zz bb) (w : PW n kd aa zz) (hp : P < 24) : zf_X4_readsZ (nI P) κ = some (decide (kd P = 1 ∨ kd P = 2 ∨ kd P = 3 ∨ kd P = 4 ∨ kd P = 5 ∨ kd P = 6 ∨ kd P = 8)) := by
  obtain ⟨l0, l1, l2, l3, l4, l5, l6, l7, l8, l9⟩ := lits
  unfold zf_X4_readsZ zb_X4_readsZ_39 zb_X4_readsZ_44
  rw [readsYC h w hp, obd_some, bd_nI hp (by decide), nI_clamp (by omega), (h.2 P hp).1]
  rcases k10 (w.2 P hp).1 with e | e | e | e | e | e | e | e | e | e <;> rw [e] <;> simp only [l0, l1, l2, l3, l4, l5, l6, l7, l8, l9] <;> simp
theorem writesXC (h : PC κ n kd aa zz bb) (w : PW n kd aa zz) (hp : P < 24) : zf_X4_writesX (nI P) κ = some (decide (kd P ≤ 5)) := by
  obtain ⟨l0, l1, l2, l3, l4, l5, l6, l7, l8, l9⟩ := lits
  unfold zf_X4_writesX zb_X4_writesX_15
  rw [bd_nI hp (by decide), nI_clamp (by omega), (h.2 P hp).1]
  rcases k10 (w.2 P hp).1 with e | e | e | e | e | e | e | e | e | e <;> rw [e] <;> simp only [l0, l1, l2, l3, l4, l5, l6, l7, l8, l9] <;> simp
theorem writesOutR {k : Nat} (hk : k ≤ 9) : zf_X10_writesOut (nI k) = decide (k ≤ 5) := by
  obtain ⟨l0, l1, l2, l3, l4, l5, l6, l7, l8, l9⟩ := lits
  rcases k10 hk with e | e | e | e | e | e | e | e | e | e <;> subst e <;> rfl
theorem failsC (h : PC κ n kd aa zz bb) (w : PW n kd aa zz) (hE : EN M κ ρ c e P) (he : e < 16) : zf_X8_fails (M + 10 + 7 * c) (nI e) M κ = some (flv (kd P) (ρ 18 (16 * c + e)) (ρ 19 (16 * c + e)) (ρ 20 (16 * c + e)) (κ (M + 4) 0) (κ (M + 4) 1) (κ (M + 4) 2)) := by
  obtain ⟨h1, h2, h3, h4, h5, h6, h7, h8⟩ := hE
  unfold zf_X8_fails zb_X8_fails_30 zb_X8_fails_52 zb_X8_fails_65 zb_X8_fails_70
  rw [bd_nI he (by decide), bd_nI he (by decide), nI_clamp (by omega), h3, h4, h5, h6]
  simp only [letb_eq, readsYC h w h1, readsZC h w h1, obd_some, bd_nI he (show 16 < 2 ^ 31 by decide)]
  unfold flv
  by_cases a : (kd P = 2 ∨ kd P = 3 ∨ kd P = 4 ∨ kd P = 6) <;> by_cases b : (kd P = 1 ∨ kd P = 2 ∨ kd P = 3 ∨ kd P = 4 ∨ kd P = 5 ∨ kd P = 6 ∨ kd P = 8) <;> by_cases c1 : ρ 18 (16 * c + e) = κ (M + 4) 0 <;> by_cases c2 : ρ 19 (16 * c + e) = κ (M + 4) 1 <;> by_cases c3 : ρ 20 (16 * c + e) = κ (M + 4) 2 <;> simp [a, b, c1, c2, c3]
theorem failsR (h : PR ρ n kd aa zz bb) (w : PW n kd aa zz) (hp : P < 24) (hP : ρ 0 16 = nI P) (hc : ρ 0 37 = nI c) (hc8 : c < 8) (he : ρ 0 38 = nI e) (he16 : e < 16) {o : Int32 × Int32} {j : Bool} (h1 : ρ 0 13 = o.1) (h2 : ρ 0 15 = b2i j) : zf_X10_fails ρ = some (flv (kd P) (ρ 18 (16 * c + e)) (ρ 19 (16 * c + e)) (ρ 20 (16 * c + e)) (ρ 8 (yy bb P)) (ρ 8 (zz P)) (eWay (kd P) o j)) := by
  obtain ⟨l0, l1, l2, l3, l4, l5, l6, l7, l8, l9⟩ := lits
  have hy := yy_lt bb P
  have hz := (w.2 P hp).2.2
  have e16 : (16 : Int32) * nI c + nI e = nI (16 * c + e) := by rw [show (16 : Int32) = nI 16 from rfl, nI_mul, nI_add]
  unfold zf_X10_fails zb_X10_fails_46 zb_X10_fails_51 zb_X10_fails_72 zb_X10_fails_77 zb_X10_fails_105 zb_X10_fails_132 zb_X10_fails_149 zb_X10_fails_154
  have b1 : ∀ (k : Option Bool), bd (nI (16 * c + e)) 144 k = k := fun k => bd_nI (by omega) (by decide)
  have b2 : ∀ (k : Option Bool), bd (nI (zz P)) 8 k = k := fun k => bd_nI hz (by decide)
  have b3 : ∀ (k : Option Bool), bd (nI (yy bb P)) 8 k = k := fun k => bd_nI hy (by decide)
  have n1 : (nI (yy bb P)).toNatClampNeg = yy bb P := nI_clamp (by omega)
  have n2 : (nI (zz P)).toNatClampNeg = zz P := nI_clamp (by omega)
  have n3 : (nI (16 * c + e)).toNatClampNeg = 16 * c + e := nI_clamp (by omega)
  simp only [letb_eq, hc, he, e16, hP, b4 hp, kR h hp, yR h hp, zR h hp, wayR h w hp h1 h2, obd_some, b1, b2, b3, n1, n2, n3]
  unfold flv
  rcases k10 (w.2 P hp).1 with q | q | q | q | q | q | q | q | q | q <;> rw [q] <;> simp only [l0, l1, l2, l3, l4, l5, l6, l7, l8, l9] <;> by_cases c1 : ρ 18 (16 * c + e) = ρ 8 (yy bb P) <;> by_cases c2 : ρ 19 (16 * c + e) = ρ 8 (zz P) <;> simp [c1, c2] <;> split <;> simp_all
theorem nx_way (w : PW n kd aa zz) (hp : P < 24) (ky by' kz bz b : Int32) : nx kd aa P (eWay (kd P) (eOut (kd P) ky by' kz bz b) (eJmp (kd P) ky by' kz bz)) = if eJmp (kd P) ky by' kz bz = true then aa P else P + 1 := by
  unfold nx eWay eJmp
  rcases k10 (w.2 P hp).1 with q | q | q | q | q | q | q | q | q | q <;> simp [q]
  · cases lOut ky by' kz bz <;> simp [b2i]
  · by_cases z : kz = 0 <;> simp [z, b2i]
end Fails
