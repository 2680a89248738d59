/-! sheets: copy, read -/
theorem hasSpanC (k : Nat) (a x : Int32) (κ : Sg) {z : Nat} (hz : z ≤ 60) (e : κ k 2 = nI z) : (zf_X6_hasSpan k a x κ = true) ↔ (0 ≤ a.toInt ∧ 0 ≤ x.toInt ∧ a.toInt + x.toInt ≤ (z : Int)) := by
  have t0 : (0 : Int32).toInt = 0 := rfl
  unfold zf_X6_hasSpan zb_X6_hasSpan_30 zb_X6_hasSpan_31
  rw [e]
  by_cases h : 0 ≤ a.toInt ∧ a.toInt ≤ (z : Int)
  · have e2 : (nI z - a).toInt = (z : Int) - a.toInt := gl_sub rfl (nI_toInt (by omega)) rfl (by omega)
    simp only [Int32.lt_iff_toInt_lt, t0, e2, nI_toInt (show z < 2 ^ 31 by omega)]
    constructor
    · intro h
      repeat' split at h
      all_goals first | (cases h; done) | omega
    · intro h
      repeat' split
      all_goals first | rfl | omega
  · have e3 : a < 0 ∨ nI z < a := by
      rw [Int32.lt_iff_toInt_lt, Int32.lt_iff_toInt_lt, t0, nI_toInt (show z < 2 ^ 31 by omega)]
      omega
    constructor
    · intro h
      repeat' split at h
      all_goals first | (cases h; done) | (rcases e3 with e3 | e3 <;> contradiction)
    · intro h
      omega
theorem copyUp {s p m : Nat} (h : 60 * s + p + m ≤ 240) (hm : m ≤ 60) (ρ : Sg) : ∃ y, lp (X := Int32 × Sg) (zl_X10_copy_120 (nI s) (nI p) (nI m)) 1000 ((0 : Int32), ρ) = some y ∧ (∀ i, i ≠ 4 → y.2 i = ρ i) ∧ ∀ i, i < m → y.2 4 i = ρ 3 (60 * s + p + i) := by
  refine lp_for (body := zl_X10_copy_120 (nI s) (nI p) (nI m)) (x := ((0 : Int32), ρ)) (fun i x => x.1 = nI i ∧ (∀ k, k ≠ 4 → x.2 k = ρ k) ∧ ∀ j, j < i → x.2 4 j = ρ 3 (60 * s + p + j)) (fun x => (∀ i, i ≠ 4 → x.2 i = ρ i) ∧ ∀ i, i < m → x.2 4 i = ρ 3 (60 * s + p + i)) m (by omega) ⟨rfl, fun _ _ => rfl, fun j hj => absurd hj (Nat.not_lt_zero j)⟩ ?_ ?_
  · rintro i ⟨x, τ⟩ hi ⟨e1, e2, e3⟩
    have e1' : x = nI i := e1
    subst e1'
    dsimp only at e1 e2 e3
    have e6 : (60 : Int32) * nI s + nI p + nI i = nI (60 * s + p + i) := by rw [show (60 : Int32) = nI 60 from rfl, nI_mul, nI_add, nI_add]
    unfold zl_X10_copy_120
    simp only []
    rw [if_neg (nI_ge hi (by omega)), e6, bd_nI (by omega) (by decide), bd_nI (by omega) (by decide), nI_clamp (show 60 * s + p + i < 2 ^ 31 by omega), nI_clamp (show i < 2 ^ 31 by omega), nI_1, e2 3 (by decide)]
    refine ⟨_, rfl, rfl, fun k hk => (su_ne _ hk).trans (e2 k hk), fun j hj => ?_⟩
    show su τ 4 i (ρ 3 (60 * s + p + i)) 4 j = _
    by_cases q : j = i
    · subst q
      rw [su_hit rfl]
    · rw [su_ap, if_pos rfl, if_neg q]
      exact e3 j (by omega)
  · rintro ⟨x, τ⟩ ⟨e1, e2, e3⟩
    have e1' : x = nI m := e1
    subst e1'
    dsimp only at e1 e2 e3
    unfold zl_X10_copy_120
    simp only []
    rw [if_pos (nI_le (Nat.le_refl _) (by omega))]
    exact ⟨_, rfl, e2, e3⟩
theorem copyDown {s p m : Nat} (h : 60 * s + p + m ≤ 240) (hm : m ≤ 60) (ρ : Sg) : ∃ y, lp (X := Int32 × Sg) (zl_X10_copy_157 (nI s) (nI p) (nI m)) 1000 ((0 : Int32), ρ) = some y ∧ (∀ i, i ≠ 3 → y.2 i = ρ i) ∧ ∀ j, y.2 3 j = if 60 * s + p ≤ j ∧ j < 60 * s + p + m then ρ 4 (j - (60 * s + p)) else ρ 3 j := by
  refine lp_for (body := zl_X10_copy_157 (nI s) (nI p) (nI m)) (x := ((0 : Int32), ρ)) (fun i x => x.1 = nI i ∧ (∀ k, k ≠ 3 → x.2 k = ρ k) ∧ ∀ j, x.2 3 j = if 60 * s + p ≤ j ∧ j < 60 * s + p + i then ρ 4 (j - (60 * s + p)) else ρ 3 j) (fun x => (∀ i, i ≠ 3 → x.2 i = ρ i) ∧ ∀ j, x.2 3 j = if 60 * s + p ≤ j ∧ j < 60 * s + p + m then ρ 4 (j - (60 * s + p)) else ρ 3 j) m (by omega) ⟨rfl, fun _ _ => rfl, fun j => by rw [if_neg (by omega)]⟩ ?_ ?_
  · rintro i ⟨x, τ⟩ hi ⟨e1, e2, e3⟩
    have e1' : x = nI i := e1
    subst e1'
    dsimp only at e1 e2 e3
    have e6 : (60 : Int32) * nI s + nI p + nI i = nI (60 * s + p + i) := by rw [show (60 : Int32) = nI 60 from rfl, nI_mul, nI_add, nI_add]
    unfold zl_X10_copy_157
    simp only []
    rw [if_neg (nI_ge hi (by omega)), e6, bd_nI (by omega) (by decide), bd_nI (by omega) (by decide), nI_clamp (show 60 * s + p + i < 2 ^ 31 by omega), nI_clamp (show i < 2 ^ 31 by omega), nI_1, e2 4 (by decide)]
    refine ⟨_, rfl, rfl, fun k hk => (su_ne _ hk).trans (e2 k hk), fun j => ?_⟩
    show su τ 3 (60 * s + p + i) (ρ 4 i) 3 j = _
    by_cases q : j = 60 * s + p + i
    · subst q
      rw [su_hit rfl, if_pos (by omega)]
      congr 1
      omega
    · rw [su_ap, if_pos rfl, if_neg q, e3 j]
      by_cases q2 : 60 * s + p ≤ j ∧ j < 60 * s + p + i
      · rw [if_pos q2, if_pos (by omega)]
      · rw [if_neg q2, if_neg (by omega)]
  · rintro ⟨x, τ⟩ ⟨e1, e2, e3⟩
    have e1' : x = nI m := e1
    subst e1'
    dsimp only at e1 e2 e3
    unfold zl_X10_copy_157
    simp only []
    rw [if_pos (nI_le (Nat.le_refl _) (by omega))]
    exact ⟨_, rfl, e2, e3⟩
section Face4
variable {κ ρ κ' ρ' : Sg}
theorem copyS (h : Rel κ ρ) (s p t q m : Int32) : SIM (zf_X9_copy s p t q m κ) (zf_X10_copy s p t q m ρ) := by
  have t0 : (0 : Int32).toInt = 0 := rfl
  unfold zf_X9_copy zf_X10_copy zb_X9_copy_14 zb_X10_copy_14 zb_X9_copy_49 zb_X10_copy_35 zb_X9_copy_97 zb_X10_copy_111 zf_X9_found zf_X10_finds zf_X6_isLost zb_X6_isLost_13
  by_cases hs : 0 ≤ s.toInt ∧ s.toInt < 4
  · rw [if_pos ((isShC s).mpr hs), if_pos ((isShR s).mpr hs)]
    by_cases ht : 0 ≤ t.toInt ∧ t.toInt < 4
    · rw [if_pos ((isShC t).mpr ht), if_pos ((isShR t).mpr ht)]
      obtain ⟨s', s1, rfl⟩ := ex_nI (x := s) (n := 4) (by omega)
      obtain ⟨t', t1, rfl⟩ := ex_nI (x := t) (n := 4) (by omega)
      rw [bd_nI s1 (by decide), bd_nI s1 (by decide), bd_nI t1 (by decide), bd_nI t1 (by decide), nI_clamp (show s' < 2 ^ 31 by omega), nI_clamp (show t' < 2 ^ 31 by omega)]
      rcases h.2.2.1.2 s' s1 with ⟨z1, z2⟩ | ⟨f, z, z1, z2, z3, z4, z5, z6, z7⟩
      · rw [z1, z2, if_pos (by decide), if_pos (by decide)]
        exact ⟨_, _, _, rfl, rfl, foundS h 1⟩
      · have e1 : ¬ nI f = -1 := nI_ne_neg (by omega)
        rw [z3, z4, if_neg e1, if_neg (by decide), if_neg (show ¬ nI f < 0 from fun q => by rw [Int32.lt_iff_toInt_lt, nI_toInt (by omega), t0] at q; omega)]
        rcases h.2.2.1.2 t' t1 with ⟨y1, y2⟩ | ⟨g, y, y1, y2, y3, y4, y5, y6, y7⟩
        · rw [y1, y2, if_pos (by decide), if_neg (by decide)]
          exact ⟨_, _, _, rfl, rfl, foundS h 1⟩
        · have e2 : ¬ nI g = -1 := nI_ne_neg (by omega)
          rw [y3, y4, if_neg e2, if_neg (by decide), if_pos (nI_pos' (by omega))]
          by_cases hf : nI f = nI g
          · rw [if_pos hf, if_pos hf]
            have bad : SIM (some ((-10 - 2 : Int32), su κ 0 8 2)) (some ((-10 - 2 : Int32), su ρ 0 4 2)) := ⟨_, _, _, rfl, rfl, foundS h 2⟩
            have r1 := p.toInt_lt
            have r2 := q.toInt_lt
            have r3 := m.toInt_lt
            have r4 := p.le_toInt
            have r5 := q.le_toInt
            have r6 := m.le_toInt
            have l1 : (p.toInt64 + m.toInt64).toInt = p.toInt + m.toInt := by
              rw [Int64.toInt_add, Int32.toInt_toInt64, Int32.toInt_toInt64, show (2 ^ 64 : Nat) = 18446744073709551616 from rfl, Int.bmod_eq_of_le (by omega) (by omega)]
            have l2 : (q.toInt64 + m.toInt64).toInt = q.toInt + m.toInt := by
              rw [Int64.toInt_add, Int32.toInt_toInt64, Int32.toInt_toInt64, show (2 ^ 64 : Nat) = 18446744073709551616 from rfl, Int.bmod_eq_of_le (by omega) (by omega)]
            simp only [hasSpanC _ p m κ z2 z5, hasSpanC _ q m κ y2 y5, z6, y6, Int32.lt_iff_toInt_lt, Int64.lt_iff_toInt_lt, Int64.le_iff_toInt_le, l1, l2, t0, Int32.toInt_toInt64, nI_toInt (show z < 2 ^ 31 by omega), nI_toInt (show y < 2 ^ 31 by omega)]
            by_cases hp : 0 ≤ p.toInt ∧ 0 ≤ q.toInt ∧ 0 ≤ m.toInt ∧ p.toInt + m.toInt ≤ (z : Int) ∧ q.toInt + m.toInt ≤ (y : Int)
            · rw [if_pos (by omega), if_pos (by omega), if_neg (by omega), if_neg (by omega), if_neg (by omega), if_neg (by omega), if_pos (by omega)]
              obtain ⟨p', p1, rfl⟩ := ex_nI (x := p) (n := 61) (by omega)
              obtain ⟨q', q1, rfl⟩ := ex_nI (x := q) (n := 61) (by omega)
              obtain ⟨m', m1, rfl⟩ := ex_nI (x := m) (n := 61) (by omega)
              rw [nI_toInt (by omega), nI_toInt (by omega), nI_toInt (by omega)] at hp
              unfold cpd
              rw [nI_toInt (show p' < 2 ^ 31 by omega), nI_toInt (show q' < 2 ^ 31 by omega), nI_toInt (show m' < 2 ^ 31 by omega), if_pos (by omega)]
              obtain ⟨⟨i1, ρ1⟩, a1, a2, a3⟩ := copyUp (s := s') (p := p') (m := m') (by omega) (by omega) ρ
              dsimp only at a2 a3
              rw [a1, obd_some]
              obtain ⟨⟨i2, ρ2⟩, b1, b2, b3⟩ := copyDown (s := t') (p := q') (m := m') (by omega) (by omega) ρ1
              dsimp only at b2 b3
              rw [b1, obd_some]
              have rn : ∀ i, i ≠ 3 → i ≠ 4 → ρ2 i = ρ i := fun i x y => (b2 i x).trans (a2 i y)
              have c1 : ∀ i, i ≠ 13 + 2 * t' + 1 → cpy κ (13 + 2 * s' + 1) (13 + 2 * t' + 1) (nI p') (nI q') (nI m') i = κ i := fun i hi => sr_ne _ _ hi
              have c2 : ∀ i, cpy κ (13 + 2 * s' + 1) (13 + 2 * t' + 1) (nI p') (nI q') (nI m') (13 + 2 * t' + 1) i = if q' ≤ i ∧ i < q' + m' then κ (13 + 2 * s' + 1) (p' + (i - q')) else κ (13 + 2 * t' + 1) i := fun i => by
                unfold cpy
                rw [sr_same, nI_clamp (show p' < 2 ^ 31 by omega), nI_clamp (show q' < 2 ^ 31 by omega), nI_clamp (show m' < 2 ^ 31 by omega)]
                rfl
              generalize cpy κ (13 + 2 * s' + 1) (13 + 2 * t' + 1) (nI p') (nI q') (nI m') = κ2 at c1 c2
              refine ⟨_, κ2, ρ2, rfl, rfl, h.sh ⟨fun i p q => c1 i (by omega), fun j _ => by rw [c1 0 (by omega)]⟩ (rn 5 (by decide) (by decide)) (rn 6 (by decide) (by decide)) (rn 7 (by decide) (by decide)) (fun i _ => by rw [rn 0 (by decide) (by decide)]) (h.2.2.1.one (s := t') (by rw [c1 0 (by omega), rn 0 (by decide) (by decide)]; exact h.2.2.1.1) ?_ (fun i _ _ p q => c1 i q) (fun t ht => by rw [rn 1 (by decide) (by decide), rn 2 (by decide) (by decide)]; exact ⟨rfl, rfl⟩) (fun i hi => by rw [b3, if_neg (by omega), a2 3 (by decide)]))⟩
              refine Or.inr ⟨g, y, y1, y2, by rw [c1 _ (by omega)]; exact y3, by rw [rn 1 (by decide) (by decide)]; exact y4, by rw [c1 _ (by omega)]; exact y5, by rw [rn 2 (by decide) (by decide)]; exact y6, fun i hi => ?_⟩
              rw [c2, b3]
              by_cases k : q' ≤ i ∧ i < q' + m'
              · rw [if_pos k, if_pos (by omega), a3 _ (by omega), z7 _ (by omega)]
                congr 1
                omega
              · rw [if_neg k, if_neg (by omega), a2 3 (by decide)]
                exact y7 i hi
            · by_cases k1 : 0 ≤ p.toInt ∧ 0 ≤ m.toInt ∧ p.toInt + m.toInt ≤ (z : Int)
              · rw [if_pos k1, if_neg (by omega), if_neg (by omega)]
                by_cases k2 : q.toInt < 0
                · rw [if_pos k2]; exact bad
                · rw [if_neg k2, if_neg (by omega), if_neg (by omega), if_neg (by omega)]; exact bad
              · rw [if_neg k1]
                by_cases k2 : p.toInt < 0
                · rw [if_pos k2]; exact bad
                · rw [if_neg k2]
                  by_cases k3 : q.toInt < 0
                  · rw [if_pos k3]; exact bad
                  · rw [if_neg k3]
                    by_cases k4 : m.toInt < 0
                    · rw [if_pos k4]; exact bad
                    · rw [if_neg k4, if_pos (by omega)]; exact bad
          · rw [if_neg hf, if_neg hf]
            exact ⟨_, _, _, rfl, rfl, foundS h 4⟩
    · rw [if_neg (fun q => ht ((isShC t).mp q)), if_neg (fun q => ht ((isShR t).mp q))]
      exact ⟨_, _, _, rfl, rfl, h⟩
  · rw [if_neg (fun q => hs ((isShC s).mp q)), if_neg (fun q => hs ((isShR s).mp q))]
    exact ⟨_, _, _, rfl, rfl, h⟩
end Face4
