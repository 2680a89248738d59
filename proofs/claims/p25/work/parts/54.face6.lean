/-! facts of a run: value, ends, heat, trace, entry, count -/
def smn (f : Nat → Nat) : Nat → Int32
  | 0 => 0
  | k + 1 => smn f k + nI (f k)
theorem lt5 {x : Nat} (h : x < 6) : x = 0 ∨ x = 1 ∨ x = 2 ∨ x = 3 ∨ x = 4 ∨ x = 5 := by omega
theorem ofR {x : Int32} {n : Nat} (h : ¬ (0 ≤ x.toInt ∧ x.toInt ≤ (n : Int))) (k : Nat) (hk : k ≤ n) (hn : n < 2 ^ 31) : ¬ x = nI k := fun q => h (by rw [q, nI_toInt (by omega)]; omega)
section Face6
variable {κ ρ κ' ρ' : Sg} {kd aa : Nat → Nat} {T : Nat} {hd ln : Nat → Nat} {pt : Nat → Nat → Nat} {P S : Nat}
theorem factS {k : Nat} (h : ∀ j, j < 8 → κ (k + 1) j = ρ 8 j ∧ κ (k + 2) j = ρ 9 j) (a b : Int32) : ∃ r, zf_X5_fact k a b κ = some r ∧ (if (zf_X10_isRegister a) = true then (if (zf_X10_isTwo b) = true then obd (zf_X10_valueBy a b ρ) (fun r7 => some (r7, ρ)) else some ((-2147483648 : Int32), ρ)) else some ((-2147483648 : Int32), ρ)) = some (r, ρ) := by
  have t0 : (0 : Int32).toInt = 0 := rfl
  have t1 : (1 : Int32).toInt = 1 := rfl
  unfold zf_X5_fact zb_X5_fact_16 zb_X5_fact_38 zf_X10_valueBy zb_X10_valueBy_19
  by_cases ha : 0 ≤ a.toInt ∧ a.toInt < 8
  · rw [if_pos ((isRegC a).mpr ha), if_pos ((isRegR a).mpr ha)]
    obtain ⟨a', a1, rfl⟩ := ex_nI (x := a) (n := 8) (by omega)
    by_cases hb : 0 ≤ b.toInt ∧ b.toInt ≤ 1
    · rw [if_pos ((isTwoR b).mpr hb)]
      obtain ⟨b', b1, rfl⟩ := ex_nI (x := b) (n := 2) (by omega)
      have : b' = 0 ∨ b' = 1 := by omega
      rcases this with rfl | rfl
      · rw [if_neg (by decide), if_pos (by decide), if_pos (by decide), if_pos (by decide), bd_nI a1 (by decide), bd_nI a1 (by decide), nI_clamp (by omega), (h a' a1).1]
        exact ⟨_, rfl, rfl⟩
      · rw [if_neg (by decide), if_pos (by decide), if_neg (by decide), if_neg (by decide), bd_nI a1 (by decide), bd_nI a1 (by decide), nI_clamp (by omega), (h a' a1).2]
        exact ⟨_, rfl, rfl⟩
    · rw [if_neg (fun q => hb ((isTwoR b).mp q))]
      by_cases h0 : b.toInt < 0
      · rw [if_pos (by rw [Int32.lt_iff_toInt_lt, t0]; exact h0)]
        exact ⟨_, rfl, rfl⟩
      · rw [if_neg (by rw [Int32.lt_iff_toInt_lt, t0]; exact h0), if_neg (by rw [Int32.le_iff_toInt_le, t1]; omega)]
        exact ⟨_, rfl, rfl⟩
  · rw [if_neg (fun q => ha ((isRegC a).mp q)), if_neg (fun q => ha ((isRegR a).mp q))]
    exact ⟨_, rfl, rfl⟩
theorem valueS (h : Rel κ ρ) (a b : Int32) : SIM (zf_X9_value a b κ) (zf_X10_value a b ρ) := by
  obtain ⟨κ', ρ', e1, e2, e3, ⟨n, kd, aa, zz, bb, T, hd, ln, pt, P, S, f1, f2, f3, f4, f5⟩, e5⟩ := refreshRunS h
  unfold zf_X9_value zf_X10_value zb_X10_value_31 zb_X10_value_33
  rw [e1, e2, obd_some, obd_some]
  obtain ⟨r, r1, r2⟩ := factS (κ := κ') (ρ := ρ') (k := 21 + 1) (fun j hj => ⟨(f4.2.1 j hj).1, (f4.2.1 j hj).2.1⟩) a b
  rw [r1, r2, obd_some]
  exact ⟨_, _, _, rfl, rfl, e3⟩
theorem endFactS (h : ST 21 κ ρ kd aa T hd ln pt P S) {a : Int32} (ha : a ≠ 0) : (if (zf_X10_in (a.toInt64) (0 : Int64) (5 : Int64)) = true then some ((zf_X10_endsBy a ρ), ρ) else some ((-2 : Int32), ρ)) = some (zf_X9_endFact a κ, ρ) := by
  obtain ⟨⟨s1, s2, s3, s4, s5, s6⟩, _⟩ := h
  have j0 : (0 : Int64).toInt = 0 := rfl
  have j5 : (5 : Int64).toInt = 5 := rfl
  unfold zf_X9_endFact zf_X10_endsBy
  simp only [in_eq, j0, j5, decide_eq_true_eq]
  by_cases hb : 0 ≤ a.toInt ∧ a.toInt ≤ 5
  · rw [if_pos hb]
    obtain ⟨a', b1, rfl⟩ := ex_nI (x := a) (n := 6) (by omega)
    rcases lt5 b1 with rfl | rfl | rfl | rfl | rfl | rfl
    · exact absurd rfl ha
    all_goals
      repeat rw [if_neg (by decide)]
      try rw [if_pos (by decide)]
      repeat rw [if_neg (by decide)]
      try rw [if_pos (by decide)]
    · rw [s1, s2]
    · rw [s3]
    · rw [s4]
    · rw [s5]
    · rw [s6]
  · rw [if_neg hb, if_neg (show ¬ a = 0 from ofR hb 0 (by decide) (by decide)), if_neg (show ¬ a = 1 from ofR hb 1 (by decide) (by decide)), if_neg (show ¬ a = 2 from ofR hb 2 (by decide) (by decide)), if_neg (show ¬ a = 3 from ofR hb 3 (by decide) (by decide)), if_neg (show ¬ a = 4 from ofR hb 4 (by decide) (by decide)), if_neg (show ¬ a = 5 from ofR hb 5 (by decide) (by decide))]
theorem endsS (h : Rel κ ρ) {a : Int32} (ha : a ≠ 0) : SIM (zf_X9_ends a κ) (zf_X10_ends a ρ) := by
  obtain ⟨κ', ρ', e1, e2, e3, ⟨n, kd, aa, zz, bb, T, hd, ln, pt, P, S, f1, f2, f3, f4, f5⟩, e5⟩ := refreshRunS h
  unfold zf_X9_ends zf_X10_ends zb_X10_ends_30
  rw [e1, e2, obd_some, obd_some, endFactS f4 ha]
  exact ⟨_, _, _, rfl, rfl, e3⟩
theorem hasC (h : TC 21 κ ρ T hd ln pt) (a : Int32) : (zf_X2_has 21 a κ = true) ↔ (0 ≤ a.toInt ∧ a.toInt < (T : Int)) := by
  have t0 : (0 : Int32).toInt = 0 := rfl
  have hT := h.1
  have h1 := h.2.2.1
  unfold zf_X2_has zb_X2_has_16 zb_X2_has_17
  rw [h1]
  simp only [Int32.lt_iff_toInt_lt, Int32.le_iff_toInt_le, t0, nI_toInt (show T < 2 ^ 31 by omega)]
  constructor
  · intro h
    repeat' split at h
    all_goals first | (cases h; done) | omega
  · intro h
    repeat' split
    all_goals first | rfl | omega
theorem isTraceR (h : TC 21 κ ρ T hd ln pt) (a : Int32) : (zf_X10_isTrace a ρ = true) ↔ (0 ≤ a.toInt ∧ a.toInt < (T : Int)) := by
  have j0 : (0 : Int64).toInt = 0 := rfl
  have hT := h.1
  have e2 : (nI T - 1).toInt = (T : Int) - 1 := gl_sub rfl (nI_toInt (by omega)) rfl (by omega)
  unfold zf_X10_isTrace
  rw [h.2.1]
  simp only [in_eq, j0, Int32.toInt_toInt64, e2, decide_eq_true_eq]
  omega
theorem traceFactS (h : TC 21 κ ρ T hd ln pt) (a b : Int32) : ∃ r, zf_X9_traceFact a b κ = some r ∧ zf_X10_traceOf a b ρ = some r := by
  have j0 : (0 : Int64).toInt = 0 := rfl
  have j4 : (4 : Int64).toInt = 4 := rfl
  have hT := h.1
  unfold zf_X9_traceFact zf_X10_traceOf zb_X10_traceOf_29 zb_X10_traceOf_31 zf_X10_traceBy
  by_cases ha : 0 ≤ a.toInt ∧ a.toInt < (T : Int)
  · rw [if_pos ((hasC h a).mpr ha), if_pos ((isTraceR h a).mpr ha)]
    obtain ⟨k, k1, rfl⟩ := ex_nI ha
    obtain ⟨h1, h2, h3, h4, h5, h6, h7, h8, h9, h10⟩ := h.2.2.2.2.1 k k1
    simp only [in_eq, j0, j4, decide_eq_true_eq]
    rw [bd_nI (by omega) (by decide), nI_clamp (by omega)]
    by_cases hb : 0 ≤ b.toInt ∧ b.toInt ≤ 4
    · rw [if_pos hb]
      obtain ⟨b', b1, rfl⟩ := ex_nI (x := b) (n := 5) (by omega)
      have : b' = 0 ∨ b' = 1 ∨ b' = 2 ∨ b' = 3 ∨ b' = 4 := by omega
      rcases this with rfl | rfl | rfl | rfl | rfl
      all_goals
        repeat rw [if_neg (by decide)]
        try rw [if_pos (by decide)]
        repeat rw [if_neg (by decide)]
        try rw [if_pos (by decide)]
        rw [bd_nI (by omega) (by decide), obd_some]
      · rw [h4, h5]; exact ⟨_, rfl, rfl⟩
      · rw [h8]; exact ⟨_, rfl, rfl⟩
      · rw [h9]; exact ⟨_, rfl, rfl⟩
      · rw [h6, h7]; exact ⟨_, rfl, rfl⟩
      · rw [h10]; exact ⟨_, rfl, rfl⟩
    · rw [if_neg hb, if_neg (show ¬ b = 0 from ofR hb 0 (by decide) (by decide)), if_neg (show ¬ b = 1 from ofR hb 1 (by decide) (by decide)), if_neg (show ¬ b = 2 from ofR hb 2 (by decide) (by decide)), if_neg (show ¬ b = 3 from ofR hb 3 (by decide) (by decide)), if_neg (show ¬ b = 4 from ofR hb 4 (by decide) (by decide))]
      exact ⟨_, rfl, rfl⟩
  · rw [if_neg (fun q => ha ((hasC h a).mp q)), if_neg (fun q => ha ((isTraceR h a).mp q))]
    exact ⟨_, rfl, rfl⟩
theorem traceS (h : Rel κ ρ) (a b : Int32) : SIM (zf_X9_trace a b κ) (zf_X10_trace a b ρ) := by
  obtain ⟨κ', ρ', e1, e2, e3, ⟨n, kd, aa, zz, bb, T, hd, ln, pt, P, S, f1, f2, f3, f4, f5⟩, e5⟩ := refreshRunS h
  unfold zf_X9_trace zf_X10_trace
  obtain ⟨r, r1, r2⟩ := traceFactS f4.2.2.2.1 a b
  rw [e1, e2, obd_some, obd_some, r1, r2, obd_some, obd_some]
  exact ⟨_, _, _, rfl, rfl, e3⟩
theorem hasEntryS (h : TC 21 κ ρ T hd ln pt) (a b : Int32) : (zf_X2_hasEntry 21 a b κ = some true ∧ zf_X10_isEntry a b ρ = some true ∧ ∃ k e, k < T ∧ e < ln k ∧ a = nI k ∧ b = nI e) ∨ (zf_X2_hasEntry 21 a b κ = some false ∧ zf_X10_isEntry a b ρ = some false ∧ ¬ ∃ k e, k < T ∧ e < ln k ∧ a = nI k ∧ b = nI e) := by
  have t0 : (0 : Int32).toInt = 0 := rfl
  have j0 : (0 : Int64).toInt = 0 := rfl
  have hT := h.1
  unfold zf_X2_hasEntry zf_X10_isEntry zb_X2_hasEntry_29 zb_X2_hasEntry_30 zb_X10_isEntry_30 zb_X10_isEntry_31
  by_cases ha : 0 ≤ a.toInt ∧ a.toInt < (T : Int)
  · rw [if_pos ((hasC h a).mpr ha), if_pos ((isTraceR h a).mpr ha)]
    obtain ⟨k, k1, rfl⟩ := ex_nI ha
    obtain ⟨h1, h2, h3, h4, h5, h6, h7, h8, h9, h10⟩ := h.2.2.2.2.1 k k1
    have e2 : (nI (ln k) - 1).toInt = (ln k : Int) - 1 := gl_sub rfl (nI_toInt (by omega)) rfl (by omega)
    rw [bd_nI (by omega) (by decide), bd_nI (by omega) (by decide), nI_clamp (by omega), h6, h7]
    simp only [in_eq, j0, Int32.toInt_toInt64, e2, decide_eq_true_eq, Int32.lt_iff_toInt_lt, Int32.le_iff_toInt_le, t0, nI_toInt (show ln k < 2 ^ 31 by omega)]
    by_cases hb : 0 ≤ b.toInt ∧ b.toInt < (ln k : Int)
    · rw [if_neg (by omega), if_neg (by omega), if_pos (by omega)]
      obtain ⟨e, e3, rfl⟩ := ex_nI hb
      exact Or.inl ⟨rfl, rfl, k, e, k1, e3, rfl, rfl⟩
    · rw [if_neg (show ¬ (0 ≤ b.toInt ∧ b.toInt ≤ (ln k : Int) - 1) by omega)]
      refine Or.inr ⟨?_, rfl, ?_⟩
      · by_cases hz : b.toInt < 0
        · rw [if_pos hz]
        · rw [if_neg hz, if_pos (by omega)]
      · rintro ⟨k', e, q1, q2, q3, rfl⟩
        have : k = k' := nI_inj (by omega) (by omega) q3
        subst this
        rw [nI_toInt (by omega)] at hb
        omega
  · rw [if_neg (fun q => ha ((hasC h a).mp q)), if_neg (fun q => ha ((isTraceR h a).mp q))]
    refine Or.inr ⟨rfl, rfl, ?_⟩
    rintro ⟨k', e, q1, q2, rfl, q4⟩
    rw [nI_toInt (by omega)] at ha
    omega
theorem entryFactS (h : TC 21 κ ρ T hd ln pt) (a e b : Int32) : ∃ r, zf_X9_entryFact a e b κ = some r ∧ zf_X10_entryOf a e b ρ = some r := by
  have j0 : (0 : Int64).toInt = 0 := rfl
  have j5 : (5 : Int64).toInt = 5 := rfl
  have hT := h.1
  unfold zf_X9_entryFact zf_X10_entryOf zb_X10_entryOf_35 zb_X10_entryOf_37 zf_X10_entryBy
  rcases hasEntryS h a e with ⟨x1, x2, k, i, k1, i1, rfl, rfl⟩ | ⟨x1, x2, x3⟩
  · rw [x1, x2, obd_some, obd_some, if_pos rfl, if_pos rfl]
    obtain ⟨h1, h2, h3, _⟩ := h.2.2.2.2.1 k k1
    obtain ⟨g1, g2, g3, g4, g5, g6, g7, g8⟩ := h.2.2.2.2.2 k i k1 i1
    simp only [in_eq, j0, j5, decide_eq_true_eq]
    have e6 : (16 : Int32) * nI k + nI i = nI (16 * k + i) := by rw [show (16 : Int32) = nI 16 from rfl, nI_mul, nI_add]
    rw [e6, bd_nI (by omega) (by decide), nI_clamp (show k < 2 ^ 31 by omega), nI_clamp (show i < 2 ^ 31 by omega), nI_clamp (show 16 * k + i < 2 ^ 31 by omega)]
    by_cases hb : 0 ≤ b.toInt ∧ b.toInt ≤ 5
    · rw [if_pos hb]
      obtain ⟨b', b1, rfl⟩ := ex_nI (x := b) (n := 6) (by omega)
      rcases lt5 b1 with rfl | rfl | rfl | rfl | rfl | rfl
      all_goals
        repeat rw [if_neg (by decide)]
        try rw [if_pos (by decide)]
        repeat rw [if_neg (by decide)]
        try rw [if_pos (by decide)]
        rw [bd_nI (show i < 16 by omega) (by decide), bd_nI (show 16 * k + i < 144 by omega) (by decide), obd_some]
      · rw [g2, g3]; exact ⟨_, rfl, rfl⟩
      · rw [g4]; exact ⟨_, rfl, rfl⟩
      · rw [g5]; exact ⟨_, rfl, rfl⟩
      · rw [g6]; exact ⟨_, rfl, rfl⟩
      · rw [g7]; exact ⟨_, rfl, rfl⟩
      · rw [g8]; exact ⟨_, rfl, rfl⟩
    · rw [if_neg hb, if_neg (show ¬ b = 0 from ofR hb 0 (by decide) (by decide)), if_neg (show ¬ b = 1 from ofR hb 1 (by decide) (by decide)), if_neg (show ¬ b = 2 from ofR hb 2 (by decide) (by decide)), if_neg (show ¬ b = 3 from ofR hb 3 (by decide) (by decide)), if_neg (show ¬ b = 4 from ofR hb 4 (by decide) (by decide)), if_neg (show ¬ b = 5 from ofR hb 5 (by decide) (by decide))]
      exact ⟨_, rfl, rfl⟩
  · rw [x1, x2, obd_some, obd_some, if_neg (by decide), if_neg (by decide)]
    exact ⟨_, rfl, rfl⟩
theorem entryS (h : Rel κ ρ) (a e b : Int32) : SIM (zf_X9_entry a e b κ) (zf_X10_entry a e b ρ) := by
  obtain ⟨κ', ρ', e1, e2, e3, ⟨n, kd, aa, zz, bb, T, hd, ln, pt, P, S, f1, f2, f3, f4, f5⟩, e5⟩ := refreshRunS h
  unfold zf_X9_entry zf_X10_entry
  obtain ⟨r, r1, r2⟩ := entryFactS f4.2.2.2.1 a e b
  rw [e1, e2, obd_some, obd_some, r1, r2, obd_some, obd_some]
  exact ⟨_, _, _, rfl, rfl, e3⟩
theorem heatFactS (h : ST 21 κ ρ kd aa T hd ln pt P S) (a b : Int32) : ∃ r, zf_X2_heatFact 21 a b κ = some r ∧ (if (zf_X10_in (a.toInt64) (0 : Int64) (23 : Int64)) = true then (if (zf_X10_in (b.toInt64) (0 : Int64) (2 : Int64)) = true then obd (zf_X10_heatBy a b ρ) (fun r7 => some (r7, ρ)) else some ((-2 : Int32), ρ)) else some ((-2 : Int32), ρ)) = some (r, ρ) := by
  have t0 : (0 : Int32).toInt = 0 := rfl
  have t24 : (24 : Int32).toInt = 24 := rfl
  have j0 : (0 : Int64).toInt = 0 := rfl
  have j2 : (2 : Int64).toInt = 2 := rfl
  have j23 : (23 : Int64).toInt = 23 := rfl
  obtain ⟨_, _, s3, s4, _, s6⟩ := h
  have hT := s4.1
  unfold zf_X2_heatFact zb_X2_heatFact_10 zb_X2_heatFact_85 zb_X2_heatFact_62 zf_X10_heatBy zb_X10_heatBy_41
  simp only [in_eq, j0, j2, j23, decide_eq_true_eq]
  by_cases ha : 0 ≤ a.toInt ∧ a.toInt ≤ 23
  · rw [if_pos ha, if_neg (show ¬ a < 0 by rw [Int32.lt_iff_toInt_lt, t0]; omega), if_pos (show a < 24 by rw [Int32.lt_iff_toInt_lt, t24]; omega)]
    obtain ⟨p, p1, rfl⟩ := ex_nI (x := a) (n := 24) (by omega)
    obtain ⟨g1, g2, x, d, g3, g4, g5, g6⟩ := s3 p p1
    rw [nI_clamp (show p < 2 ^ 31 by omega)]
    by_cases hb : 0 ≤ b.toInt ∧ b.toInt ≤ 2
    · rw [if_pos hb]
      obtain ⟨b', b1, rfl⟩ := ex_nI (x := b) (n := 3) (by omega)
      have : b' = 0 ∨ b' = 1 ∨ b' = 2 := by omega
      rcases this with rfl | rfl | rfl
      · rw [if_pos (show nI 0 = 0 from rfl), if_pos (show nI 0 = 0 from rfl), bd_nI p1 (by decide), bd_nI p1 (by decide), g1]
        exact ⟨_, rfl, rfl⟩
      · rw [if_neg (show ¬ nI 1 = 0 by decide), if_neg (show ¬ nI 1 = 0 by decide), if_pos (show nI 1 = 1 from rfl), if_pos (show nI 1 = 1 from rfl), bd_nI p1 (by decide), bd_nI p1 (by decide), g2, g4]
        have : d = 0 ∨ d = 1 ∨ d = 2 := by omega
        rcases this with rfl | rfl | rfl
        · rw [if_pos (by decide), if_pos (by decide)]; exact ⟨_, rfl, rfl⟩
        · rw [if_pos (by decide), if_pos (by decide)]; exact ⟨_, rfl, rfl⟩
        · rw [if_neg (by decide), if_neg (by decide)]; exact ⟨_, rfl, rfl⟩
      · rw [if_neg (show ¬ nI 2 = 0 by decide), if_neg (show ¬ nI 2 = 0 by decide), if_neg (show ¬ nI 2 = 1 by decide), if_neg (show ¬ nI 2 = 1 by decide), if_pos (show nI 2 = 2 from rfl), bd_nI p1 (by decide)]
        obtain ⟨o, o1, o2⟩ := s6 p p1
        rw [rootR s4 p1 o2, obd_some, o1]
        cases o with
        | none =>
          rw [show cM 21 none = -1 from rfl, if_pos rfl]
          exact ⟨_, rfl, rfl⟩
        | some r =>
          have hr : r < T := o2.1
          rw [show cM 21 (some r) = nI (21 + 10 + 7 * r) from rfl, if_neg (nI_ne_neg (by omega)), tk_nI (isTr_k isM_21 (by omega)), nI_clamp (by omega), s4.2.2.2.1 r (by omega)]
          exact ⟨_, rfl, rfl⟩
    · rw [if_neg hb, if_neg (show ¬ b = 0 from ofR hb 0 (by decide) (by decide)), if_neg (show ¬ b = 1 from ofR hb 1 (by decide) (by decide)), if_neg (show ¬ b = 2 from ofR hb 2 (by decide) (by decide))]
      exact ⟨_, rfl, rfl⟩
  · rw [if_neg ha]
    by_cases hz : a < 0
    · rw [if_pos hz]
      exact ⟨_, rfl, rfl⟩
    · rw [if_neg hz, if_neg (fun q => by rw [Int32.lt_iff_toInt_lt] at q hz; omega)]
      exact ⟨_, rfl, rfl⟩
theorem heatS (h : Rel κ ρ) (a b : Int32) : SIM (zf_X9_heat a b κ) (zf_X10_heat a b ρ) := by
  obtain ⟨κ', ρ', e1, e2, e3, ⟨n, kd, aa, zz, bb, T, hd, ln, pt, P, S, f1, f2, f3, f4, f5⟩, e5⟩ := refreshRunS h
  unfold zf_X9_heat zf_X10_heat zb_X10_heat_41 zb_X10_heat_43
  obtain ⟨r, r1, r2⟩ := heatFactS f4 a b
  rw [e1, e2, obd_some, obd_some, r1, r2, obd_some]
  exact ⟨_, _, _, rfl, rfl, e3⟩
theorem allC (h : TC 21 κ ρ T hd ln pt) : zf_X2_entriesInAll 21 κ = some (smn ln T) := by
  have hT := h.1
  have key : ∃ y, lp (X := Int32 × Int32) (zl_X2_entriesInAll_4 21 κ) 1000 ((0 : Int32), (0 : Int32)) = some y ∧ y.2 = smn ln T := by
    refine lp_for (X := Int32 × Int32) (fun i x => x.1 = nI i ∧ x.2 = smn ln i) (fun y => y.2 = smn ln T) T (by omega) ⟨rfl, rfl⟩ ?_ ?_
    · rintro i ⟨x, v⟩ hi ⟨e1, e2⟩
      dsimp only at e1 e2
      subst e1 e2
      unfold zl_X2_entriesInAll_4
      simp only []
      rw [h.2.2.1, if_neg (nI_ge hi (by omega)), bd_nI (by omega) (by decide), letb_eq, nI_clamp (by omega), (h.2.2.2.2.1 i hi).2.2.2.2.2.2.1, nI_1]
      exact ⟨_, rfl, rfl, rfl⟩
    · rintro ⟨x, v⟩ ⟨e1, e2⟩
      dsimp only at e1 e2
      subst e1 e2
      unfold zl_X2_entriesInAll_4
      simp only []
      rw [h.2.2.1, if_pos (nI_le (Nat.le_refl _) (by omega))]
      exact ⟨_, rfl, rfl⟩
  obtain ⟨y, y1, y2⟩ := key
  unfold zf_X2_entriesInAll
  rw [y1, obd_some, y2]
theorem allR (h : TC 21 κ ρ T hd ln pt) : zf_X10_allEntries ρ = some (smn ln T) := by
  have hT := h.1
  have key : ∃ y, lp (X := Int32 × Int32) (zl_X10_allEntries_4 ρ) 1000 ((0 : Int32), (0 : Int32)) = some y ∧ y.2 = smn ln T := by
    refine lp_for (X := Int32 × Int32) (fun i x => x.1 = nI i ∧ x.2 = smn ln i) (fun y => y.2 = smn ln T) T (by omega) ⟨rfl, rfl⟩ ?_ ?_
    · rintro i ⟨x, v⟩ hi ⟨e1, e2⟩
      dsimp only at e1 e2
      subst e1 e2
      unfold zl_X10_allEntries_4
      simp only []
      rw [h.2.1, if_neg (nI_ge hi (by omega)), bd_nI (by omega) (by decide), letb_eq, nI_clamp (by omega), (h.2.2.2.2.1 i hi).2.2.2.2.2.1, nI_1]
      exact ⟨_, rfl, rfl, rfl⟩
    · rintro ⟨x, v⟩ ⟨e1, e2⟩
      dsimp only at e1 e2
      subst e1 e2
      unfold zl_X10_allEntries_4
      simp only []
      rw [h.2.1, if_pos (nI_le (Nat.le_refl _) (by omega))]
      exact ⟨_, rfl, rfl⟩
  obtain ⟨y, y1, y2⟩ := key
  unfold zf_X10_allEntries
  rw [y1, obd_some, y2]
theorem countS (h : Rel κ ρ) (a : Int32) : SIM (zf_X9_count a κ) (zf_X10_count a ρ) := by
  obtain ⟨κ', ρ', e1, e2, e3, ⟨n, kd, aa, zz, bb, T, hd, ln, pt, P, S, f1, f2, f3, f4, f5⟩, e5⟩ := refreshRunS h
  obtain ⟨⟨n', kd', aa', zz', bb', L, hr, ⟨i1, i2, i3, i4, i5, i6⟩, b', c', d, e, f⟩, g, s, _, _, _⟩ := id e3
  obtain ⟨⟨s1, s2, s3, s4, s5, s6⟩, _, _, hTC, _⟩ := f4
  unfold zf_X9_count zf_X10_count zf_X9_countFact zb_X10_count_80 zf_X10_endsBy
  rw [e1, e2, obd_some, obd_some, i1.1, i2.1, b', i5, e, f, hTC.2.1, hTC.2.2.1, allC hTC, allR hTC, s.1, obd_some, s3, s4, s5]
  by_cases a0 : a = 0
  · rw [if_pos a0, if_pos a0]; exact ⟨_, _, _, rfl, rfl, e3⟩
  rw [if_neg a0, if_neg a0]
  by_cases a1 : a = 1
  · rw [if_pos a1, if_pos a1]; exact ⟨_, _, _, rfl, rfl, e3⟩
  rw [if_neg a1, if_neg a1]
  by_cases a2 : a = 2
  · rw [if_pos a2, if_pos a2]; exact ⟨_, _, _, rfl, rfl, e3⟩
  rw [if_neg a2, if_neg a2]
  by_cases a3 : a = 3
  · rw [if_pos a3, if_pos a3]; exact ⟨_, _, _, rfl, rfl, e3⟩
  rw [if_neg a3, if_neg a3]
  by_cases a4 : a = 4
  · rw [if_pos a4, if_pos a4]; subst a4; exact ⟨_, _, _, rfl, rfl, e3⟩
  rw [if_neg a4, if_neg a4]
  by_cases a5 : a = 5
  · rw [if_pos a5, if_pos a5]; subst a5; exact ⟨_, _, _, rfl, rfl, e3⟩
  rw [if_neg a5, if_neg a5]
  by_cases a6 : a = 6
  · rw [if_pos a6, if_pos a6]; subst a6; exact ⟨_, _, _, rfl, rfl, e3⟩
  rw [if_neg a6, if_neg a6]
  by_cases a7 : a = 7
  · rw [if_pos a7, if_pos a7]; exact ⟨_, _, _, rfl, rfl, e3⟩
  rw [if_neg a7, if_neg a7]
  by_cases a8 : a = 8
  · rw [if_pos a8, if_pos a8]; exact ⟨_, _, _, rfl, rfl, e3⟩
  rw [if_neg a8, if_neg a8]
  exact ⟨_, _, _, rfl, rfl, e3⟩
end Face6
