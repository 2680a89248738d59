/-! the face: code, registers, limits -/
def SIM (x y : Option (Int32 × Sg)) : Prop := ∃ r κ' ρ', x = some (r, κ') ∧ y = some (r, ρ') ∧ Rel κ' ρ'
def okc (k a b c : Int32) : Prop := (0 ≤ k.toInt ∧ k.toInt ≤ 9) ∧ (0 ≤ a.toInt ∧ a.toInt ≤ 23) ∧ (-30000 ≤ b.toInt ∧ b.toInt ≤ 30000) ∧ (0 ≤ c.toInt ∧ c.toInt ≤ 7)
theorem i32c : (0 : Int32).toInt = 0 ∧ (9 : Int32).toInt = 9 ∧ (24 : Int32).toInt = 24 ∧ (-30000 : Int32).toInt = -30000 ∧ (30000 : Int32).toInt = 30000 ∧ (8 : Int32).toInt = 8 ∧ (1 : Int32).toInt = 1 ∧ (2 : Int32).toInt = 2 ∧ (3 : Int32).toInt = 3 ∧ (60 : Int32).toInt = 60 ∧ (600 : Int32).toInt = 600 := ⟨rfl, rfl, rfl, rfl, rfl, rfl, rfl, rfl, rfl, rfl, rfl⟩
theorem i64c : (0 : Int64).toInt = 0 ∧ (9 : Int64).toInt = 9 ∧ (23 : Int64).toInt = 23 ∧ (-30000 : Int64).toInt = -30000 ∧ (30000 : Int64).toInt = 30000 ∧ (7 : Int64).toInt = 7 ∧ (1 : Int64).toInt = 1 ∧ (2 : Int64).toInt = 2 ∧ (3 : Int64).toInt = 3 ∧ (4 : Int64).toInt = 4 ∧ (5 : Int64).toInt = 5 ∧ (600 : Int64).toInt = 600 := ⟨rfl, rfl, rfl, rfl, rfl, rfl, rfl, rfl, rfl, rfl, rfl, rfl⟩
theorem allowsC (k a b c : Int32) : (zf_X4_allows k a b c = true) ↔ okc k a b c := by
  obtain ⟨i0, i9, i24, im, i3, i8, _⟩ := i32c
  unfold zf_X4_allows zb_X4_allows_48 zb_X4_allows_49 okc
  simp only [Int32.lt_iff_toInt_lt, Int32.le_iff_toInt_le, i0, i9, i24, im, i3, i8]
  constructor
  · intro h
    repeat' split at h
    all_goals first | (cases h; done) | omega
  · intro h
    repeat' split
    all_goals first | rfl | omega
theorem isCodeR (k a b c : Int32) : (zf_X10_isCode k a b c = true) ↔ okc k a b c := by
  obtain ⟨j0, j9, j23, jm, j3, j7, _⟩ := i64c
  unfold zf_X10_isCode zb_X10_isCode_54 zb_X10_isCode_55 okc
  simp only [in_eq, j0, j9, j23, jm, j3, j7, decide_eq_true_eq]
  constructor
  · intro h
    repeat' split at h
    all_goals first | (cases h; done) | omega
  · intro h
    repeat' split
    all_goals first | rfl | omega
theorem isRegC (x : Int32) : (zf_X9_isRegister x = true) ↔ (0 ≤ x.toInt ∧ x.toInt < 8) := by
  obtain ⟨i0, i9, i24, im, i3, i8, _⟩ := i32c
  unfold zf_X9_isRegister
  simp only [Int32.lt_iff_toInt_lt, Int32.le_iff_toInt_le, i0, i8]
  constructor
  · intro h
    repeat' split at h
    all_goals first | (cases h; done) | omega
  · intro h
    repeat' split
    all_goals first | rfl | omega
theorem isRegR (x : Int32) : (zf_X10_isRegister x = true) ↔ (0 ≤ x.toInt ∧ x.toInt < 8) := by
  obtain ⟨j0, j9, j23, jm, j3, j7, _⟩ := i64c
  unfold zf_X10_isRegister
  simp only [in_eq, j0, j7, decide_eq_true_eq]
  omega
theorem isTwoR (x : Int32) : (zf_X10_isTwo x = true) ↔ (0 ≤ x.toInt ∧ x.toInt ≤ 1) := by
  obtain ⟨j0, j9, j23, jm, j3, j7, j1, _⟩ := i64c
  unfold zf_X10_isTwo
  simp only [in_eq, j0, j1, decide_eq_true_eq]
section Face1
variable {κ ρ κ' ρ' : Sg} {n : Nat} {kd aa zz : Nat → Nat} {bb : Nat → Int32} {hr L : Nat}
def bu (f : Nat → Int32) (p : Nat) (x : Int32) : Nat → Int32 := fun j => if j = p then x else f j
theorem PC.put {p k a c : Nat} {b : Int32} (h : PC κ n kd aa zz bb) : PC (su (su (su (su κ 2 p (nI k)) 3 p (nI a)) 4 p b) 5 p (nI c)) n (up1 kd p k) (up1 aa p a) (up1 zz p c) (bu bb p b) := by
  refine ⟨by simp (disch := omega) only [su_ne]; exact h.1, fun j hj => ?_⟩
  have := h.2 j hj
  by_cases q : j = p
  · subst q
    simp [su_ap, up1, bu]
  · simp [su_ap, up1, bu, q]
    exact this
theorem PR.put {p k a c : Nat} {b : Int32} (h : PR ρ n kd aa zz bb) : PR (su (su (su (su ρ 5 (4 * p) (nI k)) 5 (4 * p + 1) (nI a)) 5 (4 * p + 2) b) 5 (4 * p + 3) (nI c)) n (up1 kd p k) (up1 aa p a) (up1 zz p c) (bu bb p b) := by
  refine ⟨by simp (disch := omega) only [su_ne]; exact h.1, fun j hj => ?_⟩
  obtain ⟨h1, h2, h3, h4⟩ := h.2 j hj
  unfold up1 bu
  refine ⟨?_, ?_, ?_, ?_⟩
  all_goals
    by_cases q : j = p
    · subst q
      simp (disch := omega) [su_ap]
    · rw [if_neg q, su_ap, su_ap, su_ap, su_ap, if_pos rfl, if_pos rfl, if_pos rfl, if_pos rfl, if_neg (by omega), if_neg (by omega), if_neg (by omega), if_neg (by omega)]
      assumption
theorem PC.fr5 (h : PC κ n kd aa zz bb) (h1 : ∀ i, 1 ≤ i → i ≤ 5 → κ' i = κ i) : PC κ' n kd aa zz bb := by
  unfold PC at *
  rw [h1 1 (by decide) (by decide), h1 2 (by decide) (by decide), h1 3 (by decide) (by decide), h1 4 (by decide) (by decide), h1 5 (by decide) (by decide)]
  exact h
theorem PR.fr5 (h : PR ρ n kd aa zz bb) (h1 : ρ' 5 = ρ 5) (h2 : ρ' 0 = ρ 0) : PR ρ' n kd aa zz bb := by
  unfold PR at *
  rw [h1, h2]
  exact h
theorem laysR {p : Nat} (hp : p < 24) (k a b c : Int32) : zf_X10_lays (nI p) k a b c ρ = some (su (su (su (su ρ 5 (4 * p) k) 5 (4 * p + 1) a) 5 (4 * p + 2) b) 5 (4 * p + 3) c) := by
  have e1 : (4 : Int32) * nI p + 1 = nI (4 * p + 1) := by rw [n4]; exact nI_add _ 1
  have e2 : (4 : Int32) * nI p + 2 = nI (4 * p + 2) := by rw [n4]; exact nI_add _ 2
  have e3 : (4 : Int32) * nI p + 3 = nI (4 * p + 3) := by rw [n4]; exact nI_add _ 3
  unfold zf_X10_lays
  rw [e1, e2, e3, n4, bd_nI (by omega) (by decide), bd_nI (by omega) (by decide), bd_nI (by omega) (by decide), bd_nI (by omega) (by decide), nI_clamp (by omega), nI_clamp (by omega), nI_clamp (by omega), nI_clamp (by omega)]
/-- inputs change: nothing is up to date any more -/
theorem Rel.new (h1 : IN κ ρ n kd aa zz bb L) (h2 : κ 0 6 = nI L) (h3 : 2 ≤ hr) (h4 : hr ≤ 9) (h5 : κ 0 7 = nI hr) (h6 : ρ 0 10 = nI hr) (h7 : NUM κ) (h8 : SHR κ ρ) : Rel (zf_X9_forgetRuns κ) ρ := by
  unfold zf_X9_forgetRuns
  have e0 : ∀ i, i ≠ 0 → su (su (su κ 0 9 0) 0 10 0) 0 11 0 i = κ i := fun i hi => by simp (disch := omega) only [su_ne]
  have e1 : ∀ j, j ≠ 9 → j ≠ 10 → j ≠ 11 → su (su (su κ 0 9 0) 0 10 0) 0 11 0 0 j = κ 0 j := fun j a b c => by simp [su_ap, a, b, c]
  exact ⟨⟨n, kd, aa, zz, bb, L, hr, h1.fr (fun i a b => e0 i (by omega)) ⟨fun _ _ _ => rfl, fun _ _ => rfl⟩, by rw [e1 6 (by decide) (by decide) (by decide)]; exact h2, h3, h4, by rw [e1 7 (by decide) (by decide) (by decide)]; exact h5, h6⟩, h7.fr (fun i a b => by rw [e0 i (by omega)]), h8.fr (fun i a b => e0 i (by omega)) (e1 8 (by decide) (by decide) (by decide)) ⟨fun _ _ _ => rfl, fun _ _ => rfl⟩, Or.inl (by simp [su_ap]), Or.inl (by simp [su_ap]), Or.inl (by simp [su_ap])⟩
theorem okc_nI {k a b c : Int32} (h : okc k a b c) : ∃ k' a' c', k' ≤ 9 ∧ a' < 24 ∧ c' < 8 ∧ k = nI k' ∧ a = nI a' ∧ c = nI c' := by
  obtain ⟨h1, h2, h3, h4⟩ := h
  obtain ⟨k', x1, x2⟩ := ex_nI (x := k) (n := 10) (by omega)
  obtain ⟨a', y1, y2⟩ := ex_nI (x := a) (n := 24) (by omega)
  obtain ⟨c', z1, z2⟩ := ex_nI (x := c) (n := 8) (by omega)
  exact ⟨k', a', c', by omega, y1, z1, x2, y2, z2⟩
theorem PW.put {p k a c : Nat} (h : PW n kd aa zz) (hk : k ≤ 9) (ha : a < 24) (hc : c < 8) : PW n (up1 kd p k) (up1 aa p a) (up1 zz p c) := by
  refine ⟨h.1, fun j hj => ?_⟩
  have := h.2 j hj
  unfold up1
  split
  · exact ⟨hk, ha, hc⟩
  · exact this
theorem putS (h : Rel κ ρ) {p : Nat} (hp : p < 24) {k a b c : Int32} (ho : okc k a b c) (m : Nat) (hm : m ≤ 24) (hκ : κ' = su (su (su (su κ 2 p k) 3 p a) 4 p b) 5 p c) (hρ : ρ' = su (su (su (su ρ 5 (4 * p) k) 5 (4 * p + 1) a) 5 (4 * p + 2) b) 5 (4 * p + 3) c) : Rel (zf_X9_forgetRuns (su κ' 1 4 (nI m))) (su ρ' 0 5 (nI m)) := by
  obtain ⟨⟨n, kd, aa, zz, bb, L, hr, ⟨i1, i2, i3, i4, i5, i6⟩, b', c', d, e, f⟩, g, s, _, _, _⟩ := h
  obtain ⟨k', a', c'', q1, q2, q3, rfl, rfl, rfl⟩ := okc_nI ho
  subst hκ hρ
  have u1 := i1.put (p := p) (k := k') (a := a') (c := c'') (b := b)
  have u2 := i2.put (p := p) (k := k') (a := a') (c := c'') (b := b)
  have u3 := i3.put (p := p) q1 q2 q3
  generalize hx : su (su (su (su κ 2 p (nI k')) 3 p (nI a')) 4 p b) 5 p (nI c'') = κ1 at *
  generalize hy : su (su (su (su ρ 5 (4 * p) (nI k')) 5 (4 * p + 1) (nI a')) 5 (4 * p + 2) b) 5 (4 * p + 3) (nI c'') = ρ1 at *
  have k1 : ∀ i, i < 2 ∨ 5 < i → su κ1 1 4 (nI m) i = if i = 1 then su κ 1 4 (nI m) i else κ i := fun i hi => by
    rw [← hx]
    split
    · rename_i z; subst z; funext j; simp [su_ap]
    · simp (disch := omega) only [su_ne]
  have k2 : ∀ i, i ≠ 1 → i < 2 ∨ 5 < i → su κ1 1 4 (nI m) i = κ i := fun i z hi => by rw [k1 i hi, if_neg z]
  have r1 : ∀ i, i ≠ 0 → i ≠ 5 → su ρ1 0 5 (nI m) i = ρ i := fun i z z2 => by rw [← hy]; simp (disch := omega) only [su_ne]
  have r0 : ∀ i, i ≠ 5 → su ρ1 0 5 (nI m) 0 i = ρ 0 i := fun i z => by rw [su_ap, if_pos rfl, if_neg z, ← hy]; simp (disch := omega) only [su_ne]
  refine Rel.new (n := m) (L := L) (hr := hr) (bb := bu bb p b) ⟨⟨?_, fun j hj => ?_⟩, ⟨?_, fun j hj => ?_⟩, ⟨hm, u3.2⟩, i4, ?_, fun j hj => ?_⟩ ?_ c' d ?_ ?_ ?_ ?_
  · simp [su_ap]
  · simp (disch := omega) only [su_ne]; exact u1.2 j hj
  · simp [su_ap]
  · simp (disch := omega) only [su_ne]; exact u2.2 j hj
  · rw [r0 9 (by decide)]; exact i5
  · rw [k2 7 (by decide) (by decide), k2 8 (by decide) (by decide), r1 6 (by decide) (by decide), r1 7 (by decide) (by decide)]; exact i6 j hj
  · rw [k2 0 (by decide) (by decide)]; exact b'
  · rw [k2 0 (by decide) (by decide)]; exact e
  · rw [r0 10 (by decide)]; exact f
  · exact g.fr (fun i x y => by rw [k2 i (by omega) (by omega)])
  · obtain ⟨s1, s2⟩ := s
    refine ⟨by rw [k2 0 (by decide) (by decide), r0 4 (by decide)]; exact s1, fun t ht => ?_⟩
    have := s2 t ht
    unfold SH1 at *
    rw [k2 (13 + 2 * t) (by omega) (by omega), k2 (13 + 2 * t + 1) (by omega) (by omega), r1 1 (by decide) (by decide), r1 2 (by decide) (by decide), r1 3 (by decide) (by decide)]
    exact this
theorem addS (h : Rel κ ρ) (k a b c : Int32) : SIM (zf_X9_add k a b c κ) (zf_X10_add k a b c ρ) := by
  have h' := h
  obtain ⟨⟨n, kd, aa, zz, bb, L, hr, ⟨i1, i2, i3, i4, i5, i6⟩, b', c', d, e, f⟩, g, s, _, _, _⟩ := h'
  have hn := i3.1
  unfold zf_X9_add zf_X10_add
  by_cases ho : okc k a b c
  · rw [if_pos ((allowsC k a b c).mpr ho), if_pos ((isCodeR k a b c).mpr ho), i1.1, i2.1]
    by_cases q : n = 24
    · subst q
      rw [if_neg (show ¬ nI 24 < (24 : Int32) from nI_nlt (a := 24) (b := 24) (by decide) (by decide)), if_pos (show nI 24 = (24 : Int32) from rfl)]
      exact ⟨_, _, _, rfl, rfl, h⟩
    · rw [if_pos (show nI n < (24 : Int32) from nI_lt (a := n) (b := 24) (by omega) (by decide)), if_neg (show ¬ nI n = (24 : Int32) from fun z => q (nI_inj (a := n) (b := 24) (by omega) (by decide) z))]
      unfold zf_X4_append zf_X4_put
      rw [i1.1, bd_nI (by omega) (by decide), obd_some, obd_some, nI_clamp (by omega), laysR (by omega), obd_some, letb_eq]
      have x1 : su (su (su (su κ 2 n k) 3 n a) 4 n b) 5 n c 1 4 = nI n := by simp (disch := omega) only [su_ne]; exact i1.1
      have x2 : su (su (su (su ρ 5 (4 * n) k) 5 (4 * n + 1) a) 5 (4 * n + 2) b) 5 (4 * n + 3) c 0 5 = nI n := by simp (disch := omega) only [su_ne]; exact i2.1
      rw [x1, x2, nI_1]
      have := putS h (p := n) (by omega) ho (n + 1) (by omega) rfl rfl
      refine ⟨nI (n + 1), _, _, ?_, rfl, this⟩
      rfl
  · rw [if_neg (fun z => ho ((allowsC k a b c).mp z)), if_neg (fun z => ho ((isCodeR k a b c).mp z))]
    exact ⟨_, _, _, rfl, rfl, h⟩
theorem su_idem {σ : Sg} {n i : Nat} {v : Int32} (h : σ n i = v) : su σ n i v = σ := by
  funext a j
  rw [su_ap]
  split
  · rename_i e
    split
    · rename_i e2
      rw [e, e2, h]
    · rfl
  · rfl
theorem holdsC (h : PC κ n kd aa zz bb) (hn : n ≤ 24) (x : Int32) : (zf_X4_holds x κ = true) ↔ (0 ≤ x.toInt ∧ x.toInt < n) := by
  obtain ⟨i0, _⟩ := i32c
  unfold zf_X4_holds zb_X4_holds_16 zb_X4_holds_17
  rw [h.1]
  simp only [Int32.lt_iff_toInt_lt, Int32.le_iff_toInt_le, i0, nI_toInt (show n < 2 ^ 31 by omega)]
  constructor
  · intro h
    repeat' split at h
    all_goals first | (cases h; done) | omega
  · intro h
    repeat' split
    all_goals first | rfl | omega
theorem isPointR (h : PR ρ n kd aa zz bb) (hn : n ≤ 24) (x : Int32) : (zf_X10_isPoint x ρ = true) ↔ (0 ≤ x.toInt ∧ x.toInt < n) := by
  obtain ⟨j0, _⟩ := i64c
  unfold zf_X10_isPoint
  have e : (nI n - 1).toInt = (n : Int) - 1 := gl_sub rfl (nI_toInt (by omega)) rfl (by omega)
  rw [h.1, in_eq, j0, Int32.toInt_toInt64, e]
  simp only [decide_eq_true_eq]
  omega
theorem alterS (h : Rel κ ρ) (p k a b c : Int32) : SIM (zf_X9_alter p k a b c κ) (zf_X10_alter p k a b c ρ) := by
  have h' := h
  obtain ⟨⟨n, kd, aa, zz, bb, L, hr, ⟨i1, i2, i3, i4, i5, i6⟩, b', c', d, e, f⟩, g, s, _, _, _⟩ := h'
  have hn := i3.1
  unfold zf_X9_alter zf_X10_alter zb_X9_alter_23 zb_X10_alter_20
  by_cases hp : 0 ≤ p.toInt ∧ p.toInt < n
  · rw [if_pos ((holdsC i1 hn p).mpr hp), if_pos ((isPointR i2 hn p).mpr hp)]
    by_cases ho : okc k a b c
    · rw [if_pos ((allowsC k a b c).mpr ho), if_pos ((isCodeR k a b c).mpr ho)]
      obtain ⟨q, q1, rfl⟩ := ex_nI hp
      unfold zf_X4_put
      rw [bd_nI (by omega) (by decide), nI_clamp (by omega), obd_some, laysR (by omega), obd_some, letb_eq]
      have := putS h (p := q) (by omega) ho n hn rfl rfl
      rw [show su (su (su (su (su κ 2 q k) 3 q a) 4 q b) 5 q c) 1 4 (nI n) = su (su (su (su κ 2 q k) 3 q a) 4 q b) 5 q c from su_idem (by simp (disch := omega) only [su_ne]; exact i1.1), show su (su (su (su (su ρ 5 (4 * q) k) 5 (4 * q + 1) a) 5 (4 * q + 2) b) 5 (4 * q + 3) c) 0 5 (nI n) = su (su (su (su ρ 5 (4 * q) k) 5 (4 * q + 1) a) 5 (4 * q + 2) b) 5 (4 * q + 3) c from su_idem (by simp (disch := omega) only [su_ne]; exact i2.1)] at this
      exact ⟨1, _, _, rfl, rfl, this⟩
    · rw [if_neg (fun z => ho ((allowsC k a b c).mp z)), if_neg (fun z => ho ((isCodeR k a b c).mp z))]
      exact ⟨_, _, _, rfl, rfl, h⟩
  · rw [if_neg (fun z => hp ((holdsC i1 hn p).mp z)), if_neg (fun z => hp ((isPointR i2 hn p).mp z))]
    exact ⟨_, _, _, rfl, rfl, h⟩
theorem backS (h : Rel κ ρ) : ∃ r κ' ρ', zf_X9_back κ = (r, κ') ∧ zf_X10_back ρ = (r, ρ') ∧ Rel κ' ρ' := by
  have h' := h
  obtain ⟨⟨n, kd, aa, zz, bb, L, hr, ⟨i1, i2, i3, i4, i5, i6⟩, b', c', d, e, f⟩, g, s, _, _, _⟩ := h'
  have hn := i3.1
  unfold zf_X9_back zf_X10_back
  rw [i1.1, i2.1]
  by_cases q : n = 0
  · subst q
    rw [if_pos (show nI 0 = (0 : Int32) from rfl), if_pos (show nI 0 = (0 : Int32) from rfl)]
    exact ⟨_, _, _, rfl, rfl, h⟩
  · have q0 : ¬ nI n = (0 : Int32) := fun z => q (nI_inj (a := n) (b := 0) (by omega) (by decide) z)
    obtain ⟨m, rfl⟩ : ∃ m, n = m + 1 := ⟨n - 1, by omega⟩
    rw [if_neg q0, if_neg q0, letb_eq, nI_pred]
    refine ⟨nI m, zf_X9_forgetRuns (su κ 1 4 (nI m)), su ρ 0 5 (nI m), ?_, rfl, ?_⟩
    · rfl
    · refine Rel.new (n := m) (L := L) (hr := hr) (kd := kd) (aa := aa) (zz := zz) (bb := bb) ⟨⟨by simp [su_ap], fun j hj => ?_⟩, ⟨by simp [su_ap], fun j hj => ?_⟩, ⟨by omega, i3.2⟩, i4, by simp [su_ap]; exact i5, fun j hj => ?_⟩ ?_ c' d ?_ (by simp [su_ap]; exact f) ?_ ?_
      · simp (disch := omega) only [su_ne]; exact i1.2 j hj
      · simp (disch := omega) only [su_ne]; exact i2.2 j hj
      · simp (disch := omega) only [su_ne]; exact i6 j hj
      · simp (disch := omega) only [su_ne]; exact b'
      · simp (disch := omega) only [su_ne]; exact e
      · exact g.fr (fun i x y => by simp (disch := omega) only [su_ne])
      · obtain ⟨s1, s2⟩ := s
        refine ⟨by rw [su_ne κ (by decide), su_ap, if_pos rfl, if_neg (by decide)]; exact s1, fun t ht => ?_⟩
        have := s2 t ht
        unfold SH1 at *
        simp (disch := omega) only [su_ne]
        exact this
theorem codeS (h : Rel κ ρ) (p w : Int32) : ∃ r, zf_X9_code p w κ = some r ∧ zf_X10_code p w ρ = some r := by
  obtain ⟨⟨n, kd, aa, zz, bb, L, hr, ⟨i1, i2, i3, i4, i5, i6⟩, b', c', d, e, f⟩, g, s, _, _, _⟩ := h
  have hn := i3.1
  obtain ⟨j0, _, _, _, _, _, _, _, j3, _⟩ := i64c
  unfold zf_X9_code zf_X9_codeFact zf_X10_code zb_X10_code_33 zb_X10_code_35
  rw [obd_id, in_eq, j0, j3]
  by_cases hp : 0 ≤ p.toInt ∧ p.toInt < n
  · rw [if_pos ((holdsC i1 hn p).mpr hp), if_pos ((isPointR i2 hn p).mpr hp)]
    obtain ⟨q, q1, rfl⟩ := ex_nI hp
    have hq : q < 24 := by omega
    obtain ⟨c1, c2, c3, c4⟩ := i1.2 q hq
    obtain ⟨r1, r2, r3, r4⟩ := i2.2 q hq
    by_cases hw : 0 ≤ w.toInt ∧ w.toInt ≤ 3
    · rw [if_pos (show decide (0 ≤ w.toInt ∧ w.toInt ≤ 3) = true by simpa using hw), nI_clamp (show q < 2 ^ 31 by omega), c1, c2, c3, c4]
      simp only [bd_nI hq (show 24 < 2 ^ 31 by decide)]
      obtain ⟨v, v1, rfl⟩ := ex_nI (x := w) (n := 4) (by omega)
      have e4 : (4 : Int32) * nI q + nI v = nI (4 * q + v) := by rw [n4]; exact nI_add _ v
      rw [e4, bd_nI (by omega) (by decide), nI_clamp (by omega)]
      have hv : v = 0 ∨ v = 1 ∨ v = 2 ∨ v = 3 := by omega
      obtain ⟨l0, l1, l2, l3, _⟩ := lits
      rcases hv with rfl | rfl | rfl | rfl
      · rw [if_pos l0]; exact ⟨_, rfl, by rw [show 4 * q + 0 = 4 * q by omega, r1]⟩
      · rw [l1, if_neg (by decide), if_pos rfl]; exact ⟨_, rfl, by rw [r2]⟩
      · rw [l2, if_neg (by decide), if_neg (by decide), if_pos rfl]; exact ⟨_, rfl, by rw [r3]⟩
      · rw [l3, if_neg (by decide), if_neg (by decide), if_neg (by decide), if_pos rfl]; exact ⟨_, rfl, by rw [r4]⟩
    · rw [if_neg (show ¬ decide (0 ≤ w.toInt ∧ w.toInt ≤ 3) = true by simpa using hw)]
      have nw : ∀ v : Int32, 0 ≤ v.toInt ∧ v.toInt ≤ 3 → ¬ w = v := fun v hv q => by subst q; exact hw hv
      rw [if_neg (nw 0 (by decide)), if_neg (nw 1 (by decide)), if_neg (nw 2 (by decide)), if_neg (nw 3 (by decide))]
      exact ⟨_, rfl, rfl⟩
  · rw [if_neg (fun z => hp ((holdsC i1 hn p).mp z)), if_neg (fun z => hp ((isPointR i2 hn p).mp z))]
    exact ⟨_, rfl, rfl⟩
theorem loadS (h : Rel κ ρ) (r k v : Int32) : SIM (zf_X9_load r k v κ) (zf_X10_load r k v ρ) := by
  have h' := h
  obtain ⟨⟨n, kd, aa, zz, bb, L, hr, ⟨i1, i2, i3, i4, i5, i6⟩, b', c', d, e, f⟩, g, s, _, _, _⟩ := h'
  obtain ⟨i0, _, _, _, _, _, i01, _⟩ := i32c
  unfold zf_X9_load zf_X10_load zb_X9_load_16 zb_X10_load_14
  by_cases hrg : 0 ≤ r.toInt ∧ r.toInt < 8
  · rw [if_pos ((isRegC r).mpr hrg), if_pos ((isRegR r).mpr hrg)]
    by_cases hk : 0 ≤ k.toInt ∧ k.toInt ≤ 1
    · rw [if_pos ((isTwoR k).mpr hk), if_neg (by rw [Int32.lt_iff_toInt_lt, i0]; omega), if_pos (by rw [Int32.le_iff_toInt_le, i01]; omega)]
      obtain ⟨q, q1, rfl⟩ := ex_nI (x := r) (n := 8) (by omega)
      have hk2 : k = 0 ∨ k = 1 := by
        have : k.toInt = 0 ∨ k.toInt = 1 := by omega
        rcases this with z | z
        · exact Or.inl (Int32.toInt_inj.mp (by rw [z]; rfl))
        · exact Or.inr (Int32.toInt_inj.mp (by rw [z]; rfl))
      have fin : ∀ x : Int32, SIM (zb_X9_load_38 (nI q) k κ x) (zb_X10_load_47 (nI q) k ρ x) := by
        intro x
        unfold zb_X9_load_38 zb_X10_load_47 zf_X5_put
        rw [bd_nI q1 (by decide), bd_nI q1 (by decide), nI_clamp (by omega), obd_some, letb_eq]
        refine ⟨1, _, _, rfl, rfl, ?_⟩
        refine Rel.new (n := n) (L := L) (hr := hr) (kd := kd) (aa := aa) (zz := zz) (bb := bb) ⟨?_, ?_, i3, i4, by simp (disch := omega) only [su_ne]; exact i5, fun j hj => ?_⟩ ?_ c' d ?_ ?_ ?_ ?_
        · exact i1.fr5 (fun i a b => by simp (disch := omega) only [su_ne])
        · exact i2.fr5 (by simp (disch := omega) only [su_ne]) (by simp (disch := omega) only [su_ne])
        · have := i6 j hj
          by_cases z : j = q
          · subst z
            simp [su_ap]
            exact hk2
          · simp [su_ap, z]
            exact this
        · simp (disch := omega) only [su_ne]; exact b'
        · simp (disch := omega) only [su_ne]; exact e
        · simp (disch := omega) only [su_ne]; exact f
        · exact g.fr (fun i x y => by simp (disch := omega) only [su_ne])
        · obtain ⟨s1, s2⟩ := s
          refine ⟨by simp (disch := omega) only [su_ne]; exact s1, fun t ht => ?_⟩
          have := s2 t ht
          unfold SH1 at *
          simp (disch := omega) only [su_ne]
          exact this
      rw [bd_nI q1 (by decide)]
      rcases hk2 with z | z
      · rw [if_pos z, if_pos z]
        exact fin v
      · rw [if_neg (by rw [z]; decide), if_neg (by rw [z]; decide)]
        obtain ⟨y, y1, y2⟩ := fe_quarter v
        rw [y1, obd_some, y2, obd_some]
        exact fin _
    · rw [if_neg (fun z => hk ((isTwoR k).mp z))]
      by_cases z : k < 0
      · rw [if_pos z]
        exact ⟨_, _, _, rfl, rfl, h⟩
      · rw [if_neg z, if_neg (by rw [Int32.lt_iff_toInt_lt, i0] at z; rw [Int32.le_iff_toInt_le, i01]; omega)]
        exact ⟨_, _, _, rfl, rfl, h⟩
  · rw [if_neg (fun z => hrg ((isRegC r).mp z)), if_neg (fun z => hrg ((isRegR r).mp z))]
    exact ⟨_, _, _, rfl, rfl, h⟩
end Face1
