/-! sheets: copy, read -/
theorem hasSpanC (k : Nat) (a x : Int32) (κ : Sg) {z : Nat} (hz : z ≤ 60) (e : κ k 2 = nI z) : (zf_X6_hasSpan k a x κ = true) ↔ (0 ≤ a.toInt ∧ 0 ≤ x.toInt ∧ a.toInt + x.toInt ≤ (z : Int)) := by
  have t0 : (0 : Int32).toInt = 0 := rfl
  unfold zf_X6_hasSpan zb_X6_hasSpan_30 zb_X6_hasSpan_31
  rw [e]
  by_cases h : 0 ≤ a.toInt ∧ a.toInt ≤ (z : Int)
  · have e2 : (nI z - a).toInt = (z : Int) - a.toInt := gl_sub rfl (nI_toInt (by omega)) rfl (by omega)
    simp only [Int32.lt_iff_toInt_lt, t0, e2, nI_toInt (show z < 2 ^ 31 by omega)]
    constructor
    · intro h
      repeat' split at h
      all_goals first | (cases h; done) | omega
    · intro h
      repeat' split
      all_goals first | rfl | omega
  · have e3 : a < 0 ∨ nI z < a := by
      rw [Int32.lt_iff_toInt_lt, Int32.lt_iff_toInt_lt, t0, nI_toInt (show z < 2 ^ 31 by omega)]
      omega
    constructor
    · intro h
      repeat' split at h
      all_goals first | (cases h; done) | (rcases e3 with e3 | e3 <;> contradiction)
    · intro h
      omega
theorem copyUp {s p m : Nat} (h : 60 * s + p + m ≤ 240) (hm : m ≤ 60) (ρ : Sg) : ∃ y, lp (X := Int32 × Sg) (zl_X10_copy_120 (nI s) (nI p) (nI m)) 1000 ((0 : Int32), ρ) = some y ∧ (∀ i, i ≠ 4 → y.2 i = ρ i) ∧ ∀ i, i < m → y.2 4 i = ρ 3 (60 * s + p + i) := by
  refine lp_for (body := zl_X10_copy_120 (nI s) (nI p) (nI m)) (x := ((0 : Int32), ρ)) (fun i x => x.1 = nI i ∧ (∀ k, k ≠ 4 → x.2 k = ρ k) ∧ ∀ j, j < i → x.2 4 j = ρ 3 (60 * s + p + j)) (fun x => (∀ i, i ≠ 4 → x.2 i = ρ i) ∧ ∀ i, i < m → x.2 4 i = ρ 3 (60 * s + p + i)) m (by omega) ⟨rfl, fun _ _ => rfl, fun j hj => absurd hj (Nat.not_lt_zero j)⟩ ?_ ?_
  · rintro i ⟨x, τ⟩ hi ⟨e1, e2, e3⟩
    have e1' : x = nI i := e1
    subst e1'
    dsimp only at e1 e2 e3
    have e6 : (60 : Int32) * nI s + nI p + nI i = nI (60 * s + p + i) := by rw [show (60 : Int32) = nI 60 from rfl, nI_mul, nI_add, nI_add]
    unfold zl_X10_copy_120
    simp only []
    rw [if_neg (nI_ge hi (by omega)), e6, bd_nI (by omega) (by decide), bd_nI (by omega) (by decide), nI_clamp (show 60 * s + p + i < 2 ^ 31 by omega), nI_clamp (show i < 2 ^ 31 by omega), nI_1, e2 3 (by decide)]
    refine ⟨_, rfl, rfl, fun k hk => (su_ne _ hk).trans (e2 k hk), fun j hj => ?_⟩
    show su τ 4 i (ρ 3 (60 * s + p + i)) 4 j = _
    by_cases q : j = i
    · subst q
      rw [su_hit rfl]
    · rw [su_ap, if_pos rfl, if_neg q]
      exact e3 j (by omega)
  · rintro ⟨x, τ⟩ ⟨e1, e2, e3⟩
    have e1' : x = nI m := e1
    subst e1'
    dsimp only at e1 e2 e3
    unfold zl_X10_copy_120
    simp only []
    rw [if_pos (nI_le (Nat.le_refl _) (by omega))]
    exact ⟨_, rfl, e2, e3⟩
theorem copyDown {s p m : Nat} (h : 60 * s + p + m ≤ 240) (hm : m ≤ 60) (ρ : Sg) : ∃ y, lp (X := Int32 × Sg) (zl_X10_copy_157 (nI s) (nI p) (nI m)) 1000 ((0 : Int32), ρ) = some y ∧ (∀ i, i ≠ 3 → y.2 i = ρ i) ∧ ∀ j, y.2 3 j = if 60 * s + p ≤ j ∧ j < 60 * s + p + m then ρ 4 (j - (60 * s + p)) else ρ 3 j := by
  refine lp_for (body := zl_X10_copy_157 (nI s) (nI p) (nI m)) (x := ((0 : Int32), ρ)) (fun i x => x.1 = nI i ∧ (∀ k, k ≠ 3 → x.2 k = ρ k) ∧ ∀ j, x.2 3 j = if 60 * s + p ≤ j ∧ j < 60 * s + p + i then ρ 4 (j - (60 * s + p)) else ρ 3 j) (fun x => (∀ i, i ≠ 3 → x.2 i = ρ i) ∧ ∀ j, x.2 3 j = if 60 * s + p ≤ j ∧ j < 60 * s + p + m then ρ 4 (j - (60 * s + p)) else ρ 3 j) m (by omega) ⟨rfl, fun _ _ => rfl, fun j => by rw [if_neg (by omega)]⟩ ?_ ?_
  · rintro i ⟨x, τ⟩ hi ⟨e1, e2, e3⟩
    have e1' : x = nI i := e1
    subst e1'
    dsimp only at e1 e2 e3
    have e6 : (60 : Int32) * nI s + nI p + nI i = nI (60 * s + p + i) := by rw [show (60 : Int32) = nI 60 from rfl, nI_mul, nI_add, nI_add]
    unfold zl_X10_copy_157
    simp only []
    rw [if_neg (nI_ge hi (by omega)), e6, bd_nI (by omega) (by decide), bd_nI (by omega) (by decide), nI_clamp (show 60 * s + p + i < 2 ^ 31 by omega), nI_clamp (show i < 2 ^ 31 by omega), nI_1, e2 4 (by decide)]
    refine ⟨_, rfl, rfl, fun k hk => (su_ne _ hk).trans (e2 k hk), fun j => ?_⟩
    show su τ 3 (60 * s + p + i) (ρ 4 i) 3 j = _
    by_cases q : j = 60 * s + p + i
    · subst q
      rw [su_hit rfl, if_pos (by omega)]
      congr 1
      omega
    · rw [su_ap, if_pos rfl, if_neg q, e3 j]
      by_cases q2 : 60 * s + p ≤ j ∧ j < 60 * s + p + i
      · rw [if_pos q2, if_pos (by omega)]
      · rw [if_neg q2, if_neg (by omega)]
  · rintro ⟨x, τ⟩ ⟨e1, e2, e3⟩
    have e1' : x = nI m := e1
    subst e1'
    dsimp only at e1 e2 e3
    unfold zl_X10_copy_157
    simp only []
    rw [if_pos (nI_le (Nat.le_refl _) (by omega))]
    exact ⟨_, rfl, e2, e3⟩
section Face4
variable {κ ρ κ' ρ' : Sg}
theorem copyS (h : Rel κ ρ) (s p t q m : Int32) : SIM (zf_X9_copy s p t q m κ) (zf_X10_copy s p t q m ρ) := by
  have t0 : (0 : Int32).toInt = 0 := rfl
  unfold zf_X9_copy zf_X10_copy zb_X9_copy_14 zb_X10_copy_14 zb_X9_copy_49 zb_X10_copy_35 zb_X9_copy_97 zb_X10_copy_111 zf_X9_found zf_X10_finds zf_X6_isLost zb_X6_isLost_13
  by_cases hs : 0 ≤ s.toInt ∧ s.toInt < 4
  · rw [if_pos ((isShC s).mpr hs), if_pos ((isShR s).mpr hs)]
    by_cases ht : 0 ≤ t.toInt ∧ t.toInt < 4
    · rw [if_pos ((isShC t).mpr ht), if_pos ((isShR t).mpr ht)]
      obtain ⟨s', s1, rfl⟩ := ex_nI (x := s) (n := 4) (by omega)
      obtain ⟨t', t1, rfl⟩ := ex_nI (x := t) (n := 4) (by omega)
      rw [bd_nI s1 (by decide), bd_nI s1 (by decide), bd_nI t1 (by decide), bd_nI t1 (by decide), nI_clamp (show s' < 2 ^ 31 by omega), nI_clamp (show t' < 2 ^ 31 by omega)]
      rcases h.2.2.1.2 s' s1 with ⟨z1, z2⟩ | ⟨f, z, z1, z2, z3, z4, z5, z6, z7⟩
      · rw [z1, z2, if_pos (by decide), if_pos (by decide)]
        exact ⟨_, _, _, rfl, rfl, foundS h 1⟩
      · have e1 : ¬ nI f = -1 := nI_ne_neg (by omega)
        rw [z3, z4, if_neg e1, if_neg (by decide), if_neg (show ¬ nI f < 0 from fun q => by rw [Int32.lt_iff_toInt_lt, nI_toInt (by omega), t0] at q; omega)]
        rcases h.2.2.1.2 t' t1 with ⟨y1, y2⟩ | ⟨g, y, y1, y2, y3, y4, y5, y6, y7⟩
        · rw [y1, y2, if_pos (by decide), if_neg (by decide)]
          exact ⟨_, _, _, rfl, rfl, foundS h 1⟩
        · have e2 : ¬ nI g = -1 := nI_ne_neg (by omega)
          rw [y3, y4, if_neg e2, if_neg (by decide), if_pos (nI_pos' (by omega))]
          by_cases hf : nI f = nI g
          · rw [if_pos hf, if_pos hf]
            have bad : SIM (some ((-10 - 2 : Int32), su κ 0 8 2)) (some ((-10 - 2 : Int32), su ρ 0 4 2)) := ⟨_, _, _, rfl, rfl, foundS h 2⟩
            have r1 := p.toInt_lt
            have r2 := q.toInt_lt
            have r3 := m.toInt_lt
            have r4 := p.le_toInt
            have r5 := q.le_toInt
            have r6 := m.le_toInt
            have l1 : (p.toInt64 + m.toInt64).toInt = p.toInt + m.toInt := by
              rw [Int64.toInt_add, Int32.toInt_toInt64, Int32.toInt_toInt64, show (2 ^ 64 : Nat) = 18446744073709551616 from rfl, Int.bmod_eq_of_le (by omega) (by omega)]
            have l2 : (q.toInt64 + m.toInt64).toInt = q.toInt + m.toInt := by
              rw [Int64.toInt_add, Int32.toInt_toInt64, Int32.toInt_toInt64, show (2 ^ 64 : Nat) = 18446744073709551616 from rfl, Int.bmod_eq_of_le (by omega) (by omega)]
            simp only [hasSpanC _ p m κ z2 z5, hasSpanC _ q m κ y2 y5, z6, y6, Int32.lt_iff_toInt_lt, Int64.lt_iff_toInt_lt, Int64.le_iff_toInt_le, l1, l2, t0, Int32.toInt_toInt64, nI_toInt (show z < 2 ^ 31 by omega), nI_toInt (show y < 2 ^ 31 by omega)]
            by_cases hp : 0 ≤ p.toInt ∧ 0 ≤ q.toInt ∧ 0 ≤ m.toInt ∧ p.toInt + m.toInt ≤ (z : Int) ∧ q.toInt + m.toInt ≤ (y : Int)
            · rw [if_pos (by omega), if_pos (by omega), if_neg (by omega), if_neg (by omega), if_neg (by omega), if_neg (by omega), if_pos (by omega)]
              obtain ⟨p', p1, rfl⟩ := ex_nI (x := p) (n := 61) (by omega)
              obtain ⟨q', q1, rfl⟩ := ex_nI (x := q) (n := 61) (by omega)
              obtain ⟨m', m1, rfl⟩ := ex_nI (x := m) (n := 61) (by omega)
              rw [nI_toInt (by omega), nI_toInt (by omega), nI_toInt (by omega)] at hp
              unfold cpd
              rw [nI_toInt (show p' < 2 ^ 31 by omega), nI_toInt (show q' < 2 ^ 31 by omega), nI_toInt (show m' < 2 ^ 31 by omega), if_pos (by omega)]
              obtain ⟨⟨i1, ρ1⟩, a1, a2, a3⟩ := copyUp (s := s') (p := p') (m := m') (by omega) (by omega) ρ
              dsimp only at a2 a3
              rw [a1, obd_some]
              obtain ⟨⟨i2, ρ2⟩, b1, b2, b3⟩ := copyDown (s := t') (p := q') (m := m') (by omega) (by omega) ρ1
              dsimp only at b2 b3
              rw [b1, obd_some]
              have rn : ∀ i, i ≠ 3 → i ≠ 4 → ρ2 i = ρ i := fun i x y => (b2 i x).trans (a2 i y)
              have c1 : ∀ i, i ≠ 13 + 2 * t' + 1 → cpy κ (13 + 2 * s' + 1) (13 + 2 * t' + 1) (nI p') (nI q') (nI m') i = κ i := fun i hi => sr_ne _ _ hi
              have c2 : ∀ i, cpy κ (13 + 2 * s' + 1) (13 + 2 * t' + 1) (nI p') (nI q') (nI m') (13 + 2 * t' + 1) i = if q' ≤ i ∧ i < q' + m' then κ (13 + 2 * s' + 1) (p' + (i - q')) else κ (13 + 2 * t' + 1) i := fun i => by
                unfold cpy
                rw [sr_same, nI_clamp (show p' < 2 ^ 31 by omega), nI_clamp (show q' < 2 ^ 31 by omega), nI_clamp (show m' < 2 ^ 31 by omega)]
                rfl
              generalize cpy κ (13 + 2 * s' + 1) (13 + 2 * t' + 1) (nI p') (nI q') (nI m') = κ2 at c1 c2
              refine ⟨_, κ2, ρ2, rfl, rfl, h.sh ⟨fun i p q => c1 i (by omega), fun j _ => by rw [c1 0 (by omega)]⟩ (rn 5 (by decide) (by decide)) (rn 6 (by decide) (by decide)) (rn 7 (by decide) (by decide)) (fun i _ => by rw [rn 0 (by decide) (by decide)]) (h.2.2.1.one (s := t') (by rw [c1 0 (by omega), rn 0 (by decide) (by decide)]; exact h.2.2.1.1) ?_ (fun i _ _ p q => c1 i q) (fun t ht => by rw [rn 1 (by decide) (by decide), rn 2 (by decide) (by decide)]; exact ⟨rfl, rfl⟩) (fun i hi => by rw [b3, if_neg (by omega), a2 3 (by decide)]))⟩
              refine Or.inr ⟨g, y, y1, y2, by rw [c1 _ (by omega)]; exact y3, by rw [rn 1 (by decide) (by decide)]; exact y4, by rw [c1 _ (by omega)]; exact y5, by rw [rn 2 (by decide) (by decide)]; exact y6, fun i hi => ?_⟩
              rw [c2, b3]
              by_cases k : q' ≤ i ∧ i < q' + m'
              · rw [if_pos k, if_pos (by omega), a3 _ (by omega), z7 _ (by omega)]
                congr 1
                omega
              · rw [if_neg k, if_neg (by omega), a2 3 (by decide)]
                exact y7 i hi
            · by_cases k1 : 0 ≤ p.toInt ∧ 0 ≤ m.toInt ∧ p.toInt + m.toInt ≤ (z : Int)
              · rw [if_pos k1, if_neg (by omega), if_neg (by omega)]
                by_cases k2 : q.toInt < 0
                · rw [if_pos k2]; exact bad
                · rw [if_neg k2, if_neg (by omega), if_neg (by omega), if_neg (by omega)]; exact bad
              · rw [if_neg k1]
                by_cases k2 : p.toInt < 0
                · rw [if_pos k2]; exact bad
                · rw [if_neg k2]
                  by_cases k3 : q.toInt < 0
                  · rw [if_pos k3]; exact bad
                  · rw [if_neg k3]
                    by_cases k4 : m.toInt < 0
                    · rw [if_pos k4]; exact bad
                    · rw [if_neg k4, if_pos (by omega)]; exact bad
          · rw [if_neg hf, if_neg hf]
            exact ⟨_, _, _, rfl, rfl, foundS h 4⟩
    · rw [if_neg (fun q => ht ((isShC t).mp q)), if_neg (fun q => ht ((isShR t).mp q))]
      exact ⟨_, _, _, rfl, rfl, h⟩
  · rw [if_neg (fun q => hs ((isShC s).mp q)), if_neg (fun q => hs ((isShR s).mp q))]
    exact ⟨_, _, _, rfl, rfl, h⟩
theorem forget_put (κ : Sg) (n : Nat) (k a b c m : Int32) : zf_X9_forgetRuns (su (su (su (su (su (zf_X9_forgetRuns κ) 2 n k) 3 n a) 4 n b) 5 n c) 1 4 m) = zf_X9_forgetRuns (su (su (su (su (su κ 2 n k) 3 n a) 4 n b) 5 n c) 1 4 m) := by
  unfold zf_X9_forgetRuns
  funext i j
  by_cases q : i = 0
  · subst q
    simp only [su_ap]
    simp
    repeat' split
    all_goals first | rfl | contradiction
  · simp only [su_ap, if_neg q]
theorem forget_ne (κ : Sg) {i : Nat} (h : i ≠ 0) : zf_X9_forgetRuns κ i = κ i := by
  unfold zf_X9_forgetRuns
  simp (disch := omega) only [su_ne]
theorem addStep (h : Rel (zf_X9_forgetRuns κ) ρ) (k a b c : Int32) : (okc k a b c ∧ ¬ (24 : Int32) ≤ κ 1 4 ∧ ∃ κ1 r ρ1, zf_X4_append k a b c κ = some κ1 ∧ zf_X10_add k a b c ρ = some (r, ρ1) ∧ ¬ r < 0 ∧ Rel (zf_X9_forgetRuns κ1) ρ1 ∧ ρ1 1 = ρ 1) ∨ ((¬ okc k a b c ∨ (24 : Int32) ≤ κ 1 4) ∧ ∃ r : Int32, r < 0 ∧ zf_X10_add k a b c ρ = some (r, ρ)) := by
  have t0 : (0 : Int32).toInt = 0 := rfl
  have h' := h
  obtain ⟨⟨n, kd, aa, zz, bb, L, hr, ⟨i1, i2, i3, i4, i5, i6⟩, b', c', d, e, f⟩, g, s, _, _, _⟩ := h'
  have hn := i3.1
  have i7 : κ 1 4 = nI n := by rw [← forget_ne κ (i := 1) (by decide)]; exact i1.1
  unfold zf_X10_add
  by_cases ho : okc k a b c
  · rw [if_pos ((isCodeR k a b c).mpr ho), i7, i2.1]
    by_cases q : n = 24
    · subst q
      rw [if_pos (show nI 24 = (24 : Int32) from rfl)]
      exact Or.inr ⟨Or.inr (by decide), -4, by decide, rfl⟩
    · rw [if_neg (show ¬ nI n = (24 : Int32) from fun z => q (nI_inj (a := n) (b := 24) (by omega) (by decide) z))]
      unfold zf_X4_append zf_X4_put
      rw [i7, bd_nI (by omega) (by decide), obd_some, nI_clamp (by omega), laysR (by omega), obd_some]
      have x1 : su (su (su (su κ 2 n k) 3 n a) 4 n b) 5 n c 1 4 = nI n := by simp (disch := omega) only [su_ne]; exact i7
      have x2 : su (su (su (su ρ 5 (4 * n) k) 5 (4 * n + 1) a) 5 (4 * n + 2) b) 5 (4 * n + 3) c 0 5 = nI n := by simp (disch := omega) only [su_ne]; exact i2.1
      rw [x1, x2, nI_1]
      have := putS h (p := n) (by omega) ho (n + 1) (by omega) rfl rfl
      rw [forget_put] at this
      exact Or.inl ⟨ho, nI_ge (a := n) (b := 24) (by omega) (by decide), _, _, _, rfl, rfl, fun z => by rw [Int32.lt_iff_toInt_lt, nI_toInt (by omega), t0] at z; omega, this, by simp (disch := omega) only [su_ne]⟩
  · rw [if_neg (fun z => ho ((isCodeR k a b c).mp z))]
    exact Or.inr ⟨Or.inl ho, -2, by decide, rfl⟩
theorem readLoop {s : Nat} (hs : s < 4) : ∀ (d n f1 f2 : Nat) (κ ρ : Sg), n + d = 15 → d < f1 → d + 1 < f2 → Rel (zf_X9_forgetRuns κ) ρ → ρ 1 s ≠ -1 → ∃ a m b κ' ρ', lp (X := Int32 × Int32 × Sg) (zl_X9_read_35 (nI s)) f1 (nI (4 * n), nI n, κ) = some (a, m, κ') ∧ lp (X := Bool × Int32 × Sg) (zl_X10_read_29 (nI s)) f2 (true, nI n, ρ) = some (b, m, ρ') ∧ Rel (zf_X9_forgetRuns κ') ρ' := by
  intro d
  induction d with
  | zero =>
    intro n f1 f2 κ ρ hd h1 h2 h h3
    obtain ⟨f1, rfl⟩ : ∃ m, f1 = m + 1 := ⟨f1 - 1, by omega⟩
    obtain ⟨f2, rfl⟩ : ∃ m, f2 = m + 1 := ⟨f2 - 1, by omega⟩
    have hn : n = 15 := by omega
    subst hn
    rcases h.2.2.1.2 s hs with ⟨z1, z2⟩ | ⟨f, z, z1, z2, z3, z4, z5, z6, z7⟩
    · exact absurd z2 h3
    · rw [forget_ne κ (by omega)] at z5
      refine ⟨_, _, _, _, _, lp_false (y := (nI 60, nI 15, κ)) ?_, lp_false (y := (true, nI 15, ρ)) ?_, h⟩
      · unfold zl_X9_read_35
        simp only []
        rw [nI_clamp (show s < 2 ^ 31 by omega), z5, if_pos (show nI z ≤ nI (4 * 15) + 3 from nI_le (a := z) (b := 63) (by omega) (by decide))]
      · unfold zl_X10_read_29
        simp only []
        rw [if_pos trivial, bd_nI hs (by decide), nI_clamp (show s < 2 ^ 31 by omega), z6, if_pos (show nI z < (4 : Int32) * nI 15 + 4 from nI_lt (a := z) (b := 64) (by omega) (by decide))]
  | succ d ih =>
    intro n f1 f2 κ ρ hd h1 h2 h h3
    obtain ⟨f1, rfl⟩ : ∃ m, f1 = m + 1 := ⟨f1 - 1, by omega⟩
    obtain ⟨f2, rfl⟩ : ∃ m, f2 = m + 1 := ⟨f2 - 1, by omega⟩
    rcases h.2.2.1.2 s hs with ⟨z1, z2⟩ | ⟨f, z, z1, z2, z3, z4, z5, z6, z7⟩
    · exact absurd z2 h3
    · rw [forget_ne κ (by omega)] at z5 z7
      have q1 : nI (4 * n) + 1 = nI (4 * n + 1) := nI_add _ 1
      have q2 : nI (4 * n) + 2 = nI (4 * n + 2) := nI_add _ 2
      have q3 : nI (4 * n) + 3 = nI (4 * n + 3) := nI_add _ 3
      have q4 : nI (4 * n) + 4 = nI (4 * (n + 1)) := nI_add _ 4
      have q5 : (4 : Int32) * nI n = nI (4 * n) := nI_mul 4 n
      have q6 : (4 : Int32) * nI n + 4 = nI (4 * n + 4) := by rw [q5]; exact nI_add _ 4
      have p0 : (60 : Int32) * nI s + (4 : Int32) * nI n = nI (60 * s + 4 * n) := by rw [q5, show (60 : Int32) = nI 60 from rfl, nI_mul, nI_add]
      have p1 : nI (60 * s + 4 * n) + 1 = nI (60 * s + 4 * n + 1) := nI_add _ 1
      have p2 : nI (60 * s + 4 * n) + 2 = nI (60 * s + 4 * n + 2) := nI_add _ 2
      have p3 : nI (60 * s + 4 * n) + 3 = nI (60 * s + 4 * n + 3) := nI_add _ 3
      by_cases hz : z ≤ 4 * n + 3
      · refine ⟨_, _, _, _, _, lp_false (y := (nI (4 * n), nI n, κ)) ?_, lp_false (y := (true, nI n, ρ)) ?_, h⟩
        · unfold zl_X9_read_35
          simp only []
          rw [nI_clamp (show s < 2 ^ 31 by omega), z5, q3, if_pos (nI_le hz (by omega))]
        · unfold zl_X10_read_29
          simp only []
          rw [if_pos trivial, bd_nI hs (by decide), nI_clamp (show s < 2 ^ 31 by omega), z6, q6, if_pos (nI_lt (by omega) (by omega))]
      · have bC : zl_X9_read_35 (nI s) (nI (4 * n), nI n, κ) = if (24 : Int32) ≤ κ 1 4 then some (false, (nI (4 * n), nI n, κ)) else if zf_X4_allows (ρ 3 (60 * s + 4 * n)) (ρ 3 (60 * s + 4 * n + 1)) (ρ 3 (60 * s + 4 * n + 2)) (ρ 3 (60 * s + 4 * n + 3)) = true then obd (zf_X4_append (ρ 3 (60 * s + 4 * n)) (ρ 3 (60 * s + 4 * n + 1)) (ρ 3 (60 * s + 4 * n + 2)) (ρ 3 (60 * s + 4 * n + 3)) κ) (fun σ14 => some (true, (nI (4 * (n + 1)), nI (n + 1), σ14))) else some (false, (nI (4 * n), nI n, κ)) := by
          unfold zl_X9_read_35
          simp only []
          rw [nI_clamp (show s < 2 ^ 31 by omega), z5, q1, q2, q3, q4, if_neg (nI_ge (by omega) (by omega)), bd_nI (by omega) (by decide), bd_nI (by omega) (by decide), bd_nI (by omega) (by decide), bd_nI (by omega) (by decide), nI_clamp (show 4 * n < 2 ^ 31 by omega), nI_clamp (show 4 * n + 1 < 2 ^ 31 by omega), nI_clamp (show 4 * n + 2 < 2 ^ 31 by omega), nI_clamp (show 4 * n + 3 < 2 ^ 31 by omega), z7 (4 * n) (by omega), z7 (4 * n + 1) (by omega), z7 (4 * n + 2) (by omega), z7 (4 * n + 3) (by omega), nI_1]
          rfl
        have bR : zl_X10_read_29 (nI s) (true, nI n, ρ) = bnd (zf_X10_add (ρ 3 (60 * s + 4 * n)) (ρ 3 (60 * s + 4 * n + 1)) (ρ 3 (60 * s + 4 * n + 2)) (ρ 3 (60 * s + 4 * n + 3)) ρ) (fun r13 σ13 => (if r13 < 0 then some (true, (false, nI n + 0, σ13)) else some (true, (true, nI n + 1, σ13)))) := by
          unfold zl_X10_read_29
          simp only []
          rw [if_pos trivial, bd_nI hs (by decide), nI_clamp (show s < 2 ^ 31 by omega), z6, q6, if_neg (nI_nlt (by omega) (by omega)), letb_eq, p0, p1, p2, p3, bd_nI (by omega) (by decide), bd_nI (by omega) (by decide), bd_nI (by omega) (by decide), bd_nI (by omega) (by decide), nI_clamp (by omega), nI_clamp (by omega), nI_clamp (by omega), nI_clamp (by omega)]
          rfl
        rcases addStep h (ρ 3 (60 * s + 4 * n)) (ρ 3 (60 * s + 4 * n + 1)) (ρ 3 (60 * s + 4 * n + 2)) (ρ 3 (60 * s + 4 * n + 3)) with ⟨o1, o2, κ1, r, ρ1, o3, o4, o5, o6, o7⟩ | ⟨o1, r, o2, o3⟩
        · rw [if_neg o2, if_pos ((allowsC _ _ _ _).mpr o1), o3, obd_some] at bC
          rw [o4, bnd_some, if_neg o5, nI_1] at bR
          rw [lp_true bC, lp_true bR]
          exact ih (n + 1) f1 f2 κ1 ρ1 (by omega) (by omega) (by omega) o6 (by rw [o7]; exact h3)
        · have bC' : zl_X9_read_35 (nI s) (nI (4 * n), nI n, κ) = some (false, (nI (4 * n), nI n, κ)) := by
            rw [bC]
            by_cases y : (24 : Int32) ≤ κ 1 4
            · rw [if_pos y]
            · rw [if_neg y, if_neg (fun w => o1.elim (fun v => v ((allowsC _ _ _ _).mp w)) y)]
          rw [o3, bnd_some, if_pos o2, show nI n + 0 = nI n from nI_add n 0] at bR
          obtain ⟨f2, rfl⟩ : ∃ m, f2 = m + 1 := ⟨f2 - 1, by omega⟩
          rw [lp_true bR]
          refine ⟨_, _, _, _, _, lp_false bC', lp_false (y := (false, nI n, ρ)) ?_, h⟩
          unfold zl_X10_read_29
          simp only []
          rw [if_neg (by decide)]
theorem readS (h : Rel κ ρ) (s : Int32) : SIM (zf_X9_read s κ) (zf_X10_read s ρ) := by
  unfold zf_X9_read zf_X10_read zf_X9_found zf_X10_finds zf_X6_isLost zb_X6_isLost_13
  by_cases hs : 0 ≤ s.toInt ∧ s.toInt < 4
  · rw [if_pos ((isShC s).mpr hs), if_pos ((isShR s).mpr hs)]
    obtain ⟨s', s1, rfl⟩ := ex_nI (x := s) (n := 4) (by omega)
    rw [bd_nI s1 (by decide), bd_nI s1 (by decide), nI_clamp (show s' < 2 ^ 31 by omega)]
    rcases h.2.2.1.2 s' s1 with ⟨z1, z2⟩ | ⟨f, z, z1, z2, z3, z4, z5, z6, z7⟩
    · rw [z1, z2, if_pos (by decide), if_neg (by decide)]
      exact ⟨_, _, _, rfl, rfl, foundS h 1⟩
    · have e1 : ¬ nI f = -1 := nI_ne_neg (by omega)
      rw [z3, z4, if_neg e1, if_neg (by decide), if_pos (nI_pos' (by omega))]
      have h0 : Rel (zf_X9_forgetRuns κ) ρ := by
        obtain ⟨⟨n, kd, aa, zz, bb, L, hr, a, b', c', d, e, f⟩, g, s, _, _, _⟩ := h
        exact Rel.new a b' c' d e f g s
      obtain ⟨a, m, b, κ', ρ', x1, x2, x3⟩ := readLoop s1 15 0 1000 1000 κ ρ rfl (by decide) (by decide) h0 (by rw [z4]; exact e1)
      have x1' : lp (X := Int32 × Int32 × Sg) (zl_X9_read_35 (nI s')) 1000 ((0 : Int32), (0 : Int32), κ) = some (a, m, κ') := x1
      have x2' : lp (X := Bool × Int32 × Sg) (zl_X10_read_29 (nI s')) 1000 (true, (0 : Int32), ρ) = some (b, m, ρ') := x2
      rw [x1', x2', obd_some, obd_some]
      exact ⟨_, _, _, rfl, rfl, x3⟩
  · rw [if_neg (fun q => hs ((isShC s).mp q)), if_neg (fun q => hs ((isShR s).mp q))]
    exact ⟨_, _, _, rfl, rfl, h⟩
end Face4
