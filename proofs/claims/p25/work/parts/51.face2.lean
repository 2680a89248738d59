/-! limits, sheets -/
theorem isShC (x : Int32) : (zf_X9_isSheet x = true) ↔ (0 ≤ x.toInt ∧ x.toInt < 4) := by
  have i0 : (0 : Int32).toInt = 0 := rfl
  have i4 : (4 : Int32).toInt = 4 := rfl
  unfold zf_X9_isSheet
  simp only [Int32.lt_iff_toInt_lt, Int32.le_iff_toInt_le, i0, i4]
  constructor
  · intro h
    repeat' split at h
    all_goals first | (cases h; done) | omega
  · intro h
    repeat' split
    all_goals first | rfl | omega
theorem isShR (x : Int32) : (zf_X10_isSheet x = true) ↔ (0 ≤ x.toInt ∧ x.toInt < 4) := by
  have j0 : (0 : Int64).toInt = 0 := rfl
  have j3 : (3 : Int64).toInt = 3 := rfl
  unfold zf_X10_isSheet
  simp only [in_eq, j0, j3, decide_eq_true_eq]
  omega
theorem isFmC (x : Int32) : (zf_X6_isForm x = true) ↔ (0 ≤ x.toInt ∧ x.toInt ≤ 2) := by
  have i0 : (0 : Int32).toInt = 0 := rfl
  have i4 : (2 : Int32).toInt = 2 := rfl
  unfold zf_X6_isForm zb_X6_isForm_13 zb_X6_isForm_14
  simp only [Int32.lt_iff_toInt_lt, Int32.le_iff_toInt_le, i0, i4]
  constructor
  · intro h
    repeat' split at h
    all_goals first | (cases h; done) | omega
  · intro h
    repeat' split
    all_goals first | rfl | omega
theorem isFmR (x : Int32) : (zf_X10_in x.toInt64 0 2 = true) ↔ (0 ≤ x.toInt ∧ x.toInt ≤ 2) := by
  have j0 : (0 : Int64).toInt = 0 := rfl
  have j3 : (2 : Int64).toInt = 2 := rfl
  simp only [in_eq, j0, j3, decide_eq_true_eq]
section Face2
variable {κ ρ κ' ρ' : Sg} {n : Nat} {kd aa zz : Nat → Nat} {bb : Nat → Int32} {hr L : Nat}
theorem setS (h : Rel κ ρ) (w v : Int32) : ∃ r κ' ρ', zf_X9_set w v κ = (r, κ') ∧ zf_X10_set w v ρ = (r, ρ') ∧ Rel κ' ρ' := by
  have h' := h
  obtain ⟨⟨n, kd, aa, zz, bb, L, hr, ⟨i1, i2, i3, i4, i5, i6⟩, b', c', d, e, f⟩, g, s, _, _, _⟩ := h'
  have j0 : (0 : Int64).toInt = 0 := rfl
  have j6 : (600 : Int64).toInt = 600 := rfl
  have j2 : (2 : Int64).toInt = 2 := rfl
  have j9 : (9 : Int64).toInt = 9 := rfl
  have t0 : (0 : Int32).toInt = 0 := rfl
  have t6 : (600 : Int32).toInt = 600 := rfl
  have t2 : (2 : Int32).toInt = 2 := rfl
  have t9 : (9 : Int32).toInt = 9 := rfl
  have bad : ∃ r κ' ρ', ((-2 : Int32), κ) = (r, κ') ∧ ((-2 : Int32), ρ) = (r, ρ') ∧ Rel κ' ρ' := ⟨_, _, _, rfl, rfl, h⟩
  have c28 : ∃ r κ' ρ', zb_X9_set_28 w v κ = (r, κ') ∧ zb_X10_set_28 w v ρ = (r, ρ') ∧ Rel κ' ρ' := by
    unfold zb_X9_set_28 zb_X10_set_28 zb_X9_set_57 zb_X10_set_59 zb_X9_set_60
    by_cases w1 : w = 1
    · rw [if_pos w1, if_pos w1]
      simp only [in_eq, j2, j9, decide_eq_true_eq, Int32.lt_iff_toInt_lt, t2, t9]
      by_cases hv : 2 ≤ v.toInt ∧ v.toInt ≤ 9
      · rw [if_neg (by omega), if_neg (by omega), if_pos hv, letb_eq, letb_eq, letb_eq]
        obtain ⟨x, x1, rfl⟩ := ex_nI (x := v) (n := 10) (by omega)
        rw [nI_toInt (by omega)] at hv
        refine ⟨_, _, _, rfl, by rw [e, f], ?_⟩
        refine Rel.new (n := n) (L := L) (hr := x) (kd := kd) (aa := aa) (zz := zz) (bb := bb) ⟨i1.fr5 (fun i a b => by simp (disch := omega) only [su_ne]), ?_, i3, i4, by simp [su_ap]; exact i5, fun j hj => ?_⟩ (by simp [su_ap]; exact b') (by omega) (by omega) (by simp [su_ap]) (by simp [su_ap]) (g.fr (fun i x y => by simp (disch := omega) only [su_ne])) ?_
        · exact ⟨by simp [su_ap]; exact i2.1, fun j hj => by simp (disch := omega) only [su_ne]; exact i2.2 j hj⟩
        · simp (disch := omega) only [su_ne]; exact i6 j hj
        · refine ⟨by simp [su_ap]; exact s.1, fun t ht => ?_⟩
          have := s.2 t ht
          unfold SH1 at *
          simp (disch := omega) only [su_ne]
          exact this
      · rw [if_neg hv]
        by_cases z : v.toInt < 2
        · rw [if_pos z]; exact bad
        · rw [if_neg z, if_pos (by omega)]; exact bad
    · rw [if_neg w1, if_neg w1]
      exact bad
  unfold zf_X9_set zf_X10_set
  by_cases w0 : w = 0
  · rw [if_pos w0, if_pos w0]
    simp only [in_eq, j0, j6, decide_eq_true_eq, Int32.lt_iff_toInt_lt, t0, t6]
    by_cases hv : 0 ≤ v.toInt ∧ v.toInt ≤ 600
    · unfold zb_X9_set_60
      rw [if_neg (by omega), if_neg (by omega), if_pos hv, letb_eq, letb_eq, letb_eq]
      obtain ⟨x, x1, rfl⟩ := ex_nI (x := v) (n := 601) (by omega)
      refine ⟨_, _, _, rfl, by rw [b', i5], ?_⟩
      refine Rel.new (n := n) (L := x) (hr := hr) (kd := kd) (aa := aa) (zz := zz) (bb := bb) ⟨i1.fr5 (fun i a b => by simp (disch := omega) only [su_ne]), ?_, i3, by omega, by simp [su_ap], fun j hj => ?_⟩ (by simp [su_ap]) c' d (by simp [su_ap]; exact e) (by simp [su_ap]; exact f) (g.fr (fun i x y => by simp (disch := omega) only [su_ne])) ?_
      · exact ⟨by simp [su_ap]; exact i2.1, fun j hj => by simp (disch := omega) only [su_ne]; exact i2.2 j hj⟩
      · simp (disch := omega) only [su_ne]; exact i6 j hj
      · refine ⟨by simp [su_ap]; exact s.1, fun t ht => ?_⟩
        have := s.2 t ht
        unfold SH1 at *
        simp (disch := omega) only [su_ne]
        exact this
    · rw [if_neg hv]
      by_cases z : v.toInt < 0
      · rw [if_pos z]; exact c28
      · rw [if_neg z, if_pos (by omega)]; exact c28
  · rw [if_neg w0, if_neg w0]
    exact c28
theorem SHR.one (h : SHR κ ρ) {s : Nat} (h0 : κ' 0 8 = ρ' 0 4) (hs : SH1 κ' ρ' s) (k : ∀ i, 13 ≤ i → i ≤ 20 → i ≠ 13 + 2 * s → i ≠ 13 + 2 * s + 1 → κ' i = κ i) (r1 : ∀ t, t ≠ s → ρ' 1 t = ρ 1 t ∧ ρ' 2 t = ρ 2 t) (r3 : ∀ i, i < 60 * s ∨ 60 * s + 60 ≤ i → ρ' 3 i = ρ 3 i) : SHR κ' ρ' := by
  refine ⟨h0, fun t ht => ?_⟩
  by_cases q : t = s
  · subst q; exact hs
  · have := h.2 t ht
    unfold SH1 at *
    rw [k _ (by omega) (by omega) (by omega) (by omega), k (13 + 2 * t + 1) (by omega) (by omega) (by omega) (by omega), (r1 t q).1, (r1 t q).2]
    rcases this with z | ⟨f, y, z1, z2, z3, z4, z5, z6, z7⟩
    · exact Or.inl z
    · exact Or.inr ⟨f, y, z1, z2, z3, z4, z5, z6, fun i hi => by rw [r3 _ (by omega)]; exact z7 i hi⟩
/-- a finding on both sides -/
theorem foundS (h : Rel κ ρ) (x : Int32) : Rel (su κ 0 8 x) (su ρ 0 4 x) := by
  refine h.sh ⟨fun i a b => by simp (disch := omega) only [su_ne], fun j hj => by simp [su_ap, hj]⟩ (by simp (disch := omega) only [su_ne]) (by simp (disch := omega) only [su_ne]) (by simp (disch := omega) only [su_ne]) (fun i hi => by simp [su_ap, hi]) ⟨by simp [su_ap], fun t ht => ?_⟩
  have := h.2.2.1.2 t ht
  unfold SH1 at *
  simp (disch := omega) only [su_ne]
  exact this
theorem zeroItems {s z : Nat} (hs : s < 4) (hz : z ≤ 60) (ρ : Sg) : ∃ y, lp (X := Int32 × Sg) (zl_X10_sheet_55 (nI s) (nI z)) 1000 ((0 : Int32), ρ) = some y ∧ (∀ i, i ≠ 3 → y.2 i = ρ i) ∧ (∀ i, i < z → y.2 3 (60 * s + i) = 0) ∧ ∀ i, i < 60 * s ∨ 60 * s + 60 ≤ i → y.2 3 i = ρ 3 i := by
  refine lp_for (body := zl_X10_sheet_55 (nI s) (nI z)) (x := ((0 : Int32), ρ)) (fun i x => x.1 = nI i ∧ (∀ k, k ≠ 3 → x.2 k = ρ k) ∧ (∀ j, j < i → x.2 3 (60 * s + j) = 0) ∧ ∀ j, j < 60 * s ∨ 60 * s + 60 ≤ j → x.2 3 j = ρ 3 j) (fun x => (∀ i, i ≠ 3 → x.2 i = ρ i) ∧ (∀ i, i < z → x.2 3 (60 * s + i) = 0) ∧ ∀ i, i < 60 * s ∨ 60 * s + 60 ≤ i → x.2 3 i = ρ 3 i) z (by omega) ⟨rfl, fun _ _ => rfl, fun j hj => absurd hj (Nat.not_lt_zero j), fun _ _ => rfl⟩ ?_ ?_
  · rintro i ⟨x, τ⟩ hi ⟨e1, e2, e3, e4⟩
    have e1' : x = nI i := e1
    subst e1'
    dsimp only at e1 e2 e3 e4
    have e6 : (60 : Int32) * nI s + nI i = nI (60 * s + i) := by rw [show (60 : Int32) = nI 60 from rfl, nI_mul, nI_add]
    unfold zl_X10_sheet_55
    simp only []
    rw [if_neg (nI_ge hi (by omega)), e6, bd_nI (by omega) (by decide), nI_clamp (by omega), nI_1]
    refine ⟨_, rfl, rfl, fun k hk => (su_ne _ hk).trans (e2 k hk), fun j hj => ?_, fun j hj => ?_⟩
    · show su τ 3 (60 * s + i) 0 3 (60 * s + j) = 0
      rw [su_ap, if_pos rfl]
      split
      · rfl
      · exact e3 j (by omega)
    · show su τ 3 (60 * s + i) 0 3 j = _
      rw [su_ap, if_pos rfl, if_neg (by omega)]
      exact e4 j hj
  · rintro ⟨x, τ⟩ ⟨e1, e2, e3, e4⟩
    have e1' : x = nI z := e1
    subst e1'
    dsimp only at e1 e2 e3 e4
    unfold zl_X10_sheet_55
    simp only []
    rw [if_pos (nI_le (Nat.le_refl _) (by omega))]
    exact ⟨_, rfl, e2, e3, e4⟩
theorem sheetS (h : Rel κ ρ) (s f z : Int32) : SIM (zf_X9_sheet s f z κ) (zf_X10_sheet s f z ρ) := by
  have t0 : (0 : Int32).toInt = 0 := rfl
  have t6 : (60 : Int32).toInt = 60 := rfl
  unfold zf_X9_sheet zf_X10_sheet zb_X9_sheet_20 zb_X10_sheet_25 zf_X9_found zf_X10_finds
  by_cases hs : 0 ≤ s.toInt ∧ s.toInt < 4
  · rw [if_pos ((isShC s).mpr hs), if_pos ((isShR s).mpr hs)]
    by_cases hf : 0 ≤ f.toInt ∧ f.toInt ≤ 2
    · rw [if_pos ((isFmC f).mpr hf), if_pos ((isFmR f).mpr hf)]
      by_cases h6 : z ≤ 60
      · rw [if_pos h6, if_pos h6]
        by_cases h0 : 0 ≤ z
        · rw [if_pos h0, if_pos h0]
          rw [Int32.le_iff_toInt_le] at h6 h0
          obtain ⟨s', s1, rfl⟩ := ex_nI (x := s) (n := 4) (by omega)
          obtain ⟨f', f1, rfl⟩ := ex_nI (x := f) (n := 3) (by omega)
          obtain ⟨z', z1, rfl⟩ := ex_nI (x := z) (n := 61) (by omega)
          rw [bd_nI s1 (by decide), bd_nI s1 (by decide), nI_clamp (show s' < 2 ^ 31 by omega)]
          unfold zf_X6_renew
          obtain ⟨κ1, a1, a2, a3⟩ := fillS (13 + 2 * s' + 1) 60 0 (su (su κ (13 + 2 * s') 1 (nI f')) (13 + 2 * s') 2 (nI z')) (by decide)
          rw [a1, obd_some, obd_some]
          obtain ⟨y, b1, b2, b3, b4⟩ := zeroItems (s := s') (z := z') s1 (by omega) (su (su ρ 1 s' (nI f')) 2 s' (nI z'))
          rw [b1, obd_some]
          have kn : ∀ i, i ≠ 13 + 2 * s' → i ≠ 13 + 2 * s' + 1 → κ1 i = κ i := fun i p q => by rw [a2 i q]; simp (disch := omega) only [su_ne]
          have rn : ∀ i, i ≠ 1 → i ≠ 2 → i ≠ 3 → y.2 i = ρ i := fun i p q r => by rw [b2 i r]; simp (disch := omega) only [su_ne]
          refine ⟨_, _, _, rfl, rfl, h.sh ⟨fun i p q => kn i (by omega) (by omega), fun j _ => by rw [kn 0 (by omega) (by omega)]⟩ (rn 5 (by decide) (by decide) (by decide)) (rn 6 (by decide) (by decide) (by decide)) (rn 7 (by decide) (by decide) (by decide)) (fun i _ => by rw [rn 0 (by decide) (by decide) (by decide)]) (h.2.2.1.one (s := s') (by rw [kn 0 (by omega) (by omega), rn 0 (by decide) (by decide) (by decide)]; exact h.2.2.1.1) ?_ (fun i _ _ p q => kn i p q) (fun t ht => by rw [b2 1 (by decide), b2 2 (by decide)]; simp [su_ap, ht]) (fun i hi => by rw [b4 i hi]; simp (disch := omega) only [su_ne]))⟩
          refine Or.inr ⟨f', z', by omega, by omega, ?_, ?_, ?_, ?_, fun i hi => ?_⟩
          · rw [a2 _ (by omega)]; simp [su_ap]
          · rw [b2 1 (by decide)]; simp [su_ap]
          · rw [a2 _ (by omega)]; simp [su_ap]
          · rw [b2 2 (by decide)]; simp [su_ap]
          · rw [a3 i (by omega), b3 i hi]
        · rw [if_neg h0, if_neg h0]
          exact ⟨_, _, _, rfl, rfl, foundS h 5⟩
      · rw [if_neg h6, if_neg h6]
        exact ⟨_, _, _, rfl, rfl, h⟩
    · rw [if_neg (fun q => hf ((isFmC f).mp q)), if_neg (fun q => hf ((isFmR f).mp q))]
      exact ⟨_, _, _, rfl, rfl, h⟩
  · rw [if_neg (fun q => hs ((isShC s).mp q)), if_neg (fun q => hs ((isShR s).mp q))]
    exact ⟨_, _, _, rfl, rfl, h⟩
end Face2
