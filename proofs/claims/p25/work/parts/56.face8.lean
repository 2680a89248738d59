/-! what a trace's entries write: snapshot, writes, write -/
/-- the register that a place writes, as a bit -/
def wb (kd aa : Nat → Nat) (q : Nat) : Int32 := if kd q ≤ 5 then (1 : Int32) <<< (nI (aa q % 8) &&& 31) else 0
def wA (kd aa : Nat → Nat) (f : Nat → Nat) : Nat → Int32
  | 0 => 0
  | m + 1 => wA kd aa f m ||| wb kd aa (f m)
section Face8
variable {κ ρ κ' ρ' : Sg} {n : Nat} {kd aa zz : Nat → Nat} {bb : Nat → Int32} {T : Nat} {hd ln : Nat → Nat} {pt : Nat → Nat → Nat} {P S : Nat}
theorem writtenAtC {q : Nat} (h : PC κ n kd aa zz bb) (w : PW n kd aa zz) (hq : q < 24) : zf_X7_writtenAt (nI q) κ = some (wb kd aa q) := by
  have hk := (w.2 q hq).1
  unfold zf_X7_writtenAt zf_X4_writesX zb_X4_writesX_15 zb_X7_writtenAt_19 wb
  rw [bd_nI hq (by decide), nI_clamp (by omega), (h.2 q hq).1, xC h w hq]
  by_cases k : kd q ≤ 5
  · rw [if_neg (show ¬ (5 : Int32) < nI (kd q) from nI_nlt (a := 5) (b := kd q) (by omega) (by omega)), obd_some, if_pos rfl, obd_some, if_pos k]
  · rw [if_pos (show (5 : Int32) < nI (kd q) from nI_lt (a := 5) (b := kd q) (by omega) (by omega)), obd_some, if_neg (by decide), if_neg k]
theorem aheadC {k m : Nat} (h : PC κ n kd aa zz bb) (w : PW n kd aa zz) (ht : TC 21 κ ρ T hd ln pt) (hk : k < T) (hm : m ≤ ln k) : zf_X7_writtenAhead (21 + 10 + 7 * k) (nI m) κ = some (wA kd aa (pt k) m) := by
  obtain ⟨h1, h2, h3, h4, h5, h6, h7, _⟩ := ht.2.2.2.2.1 k hk
  have key : ∃ y, lp (X := Int32 × Int32) (zl_X7_writtenAhead_5 (21 + 10 + 7 * k) (nI m) κ) 1000 ((0 : Int32), (0 : Int32)) = some y ∧ y.2 = wA kd aa (pt k) m := by
    refine lp_for (X := Int32 × Int32) (fun i x => x.1 = nI i ∧ x.2 = wA kd aa (pt k) i) (fun y => y.2 = wA kd aa (pt k) m) m (by omega) ⟨rfl, rfl⟩ ?_ ?_
    · rintro i ⟨x, v⟩ hi ⟨e1, e2⟩
      dsimp only at e1 e2
      subst e1 e2
      obtain ⟨g1, g2, g3, _⟩ := ht.2.2.2.2.2 k i hk (by omega)
      unfold zl_X7_writtenAhead_5
      simp only []
      rw [if_neg (nI_ge hi (by omega)), h7, if_neg (nI_ge (show i < ln k by omega) (by omega)), bd_nI (by omega) (by decide), nI_clamp (by omega), g3, writtenAtC h w g1, obd_some, letb_eq, nI_1]
      exact ⟨_, rfl, rfl, rfl⟩
    · rintro ⟨x, v⟩ ⟨e1, e2⟩
      dsimp only at e1 e2
      subst e1 e2
      unfold zl_X7_writtenAhead_5
      simp only []
      rw [if_pos (nI_le (Nat.le_refl _) (by omega))]
      exact ⟨_, rfl, rfl⟩
  obtain ⟨y, y1, y2⟩ := key
  unfold zf_X7_writtenAhead
  rw [y1, obd_some, y2]
theorem aheadRR {k m : Nat} (h : PR ρ n kd aa zz bb) (w : PW n kd aa zz) (ht : TC 21 κ ρ T hd ln pt) (hk : k < T) (hm : m ≤ ln k) : zf_X10_writtenAhead (nI k) (nI m) ρ = some (wA kd aa (pt k) m) := by
  obtain ⟨h1, h2, h3, h4, h5, h6, h7, _⟩ := ht.2.2.2.2.1 k hk
  have hT := ht.1
  have key : ∃ y, lp (X := Int32 × Int32) (zl_X10_writtenAhead_5 (nI k) (nI m) ρ) 1000 ((0 : Int32), (0 : Int32)) = some y ∧ y.2 = wA kd aa (pt k) m := by
    refine lp_for (X := Int32 × Int32) (fun i x => x.1 = nI i ∧ x.2 = wA kd aa (pt k) i) (fun y => y.2 = wA kd aa (pt k) m) m (by omega) ⟨rfl, rfl⟩ ?_ ?_
    · rintro i ⟨x, v⟩ hi ⟨e1, e2⟩
      dsimp only at e1 e2
      subst e1 e2
      obtain ⟨g1, g2, g3, _⟩ := ht.2.2.2.2.2 k i hk (by omega)
      have hkd := (w.2 _ g1).1
      have e6 : (16 : Int32) * nI k + nI i = nI (16 * k + i) := by rw [show (16 : Int32) = nI 16 from rfl, nI_mul, nI_add]
      unfold zl_X10_writtenAhead_5 zb_X10_writtenAhead_53 zf_X10_writesOut zb_X10_writesOut_11
      simp only []
      rw [if_neg (nI_ge hi (by omega)), e6, bd_nI (by omega) (by decide), nI_clamp (show 16 * k + i < 2 ^ 31 by omega), letb_eq, g2, b4 g1, kR h g1, xR h w g1, nI_1]
      by_cases q : kd (pt k i) ≤ 5
      · rw [if_neg (show ¬ (6 : Int32) ≤ nI (kd (pt k i)) from nI_ge (a := kd (pt k i)) (b := 6) (by omega) (by omega)), if_pos rfl, obd_some, letb_eq]
        exact ⟨_, rfl, rfl, by rw [wA, wb, if_pos q]⟩
      · rw [if_pos (show (6 : Int32) ≤ nI (kd (pt k i)) from nI_le (a := 6) (b := kd (pt k i)) (by omega) (by omega)), if_neg (by decide), letb_eq]
        exact ⟨_, rfl, rfl, by rw [wA, wb, if_neg q]⟩
    · rintro ⟨x, v⟩ ⟨e1, e2⟩
      dsimp only at e1 e2
      subst e1 e2
      unfold zl_X10_writtenAhead_5
      simp only []
      rw [if_pos (nI_le (Nat.le_refl _) (by omega))]
      exact ⟨_, rfl, rfl⟩
  obtain ⟨y, y1, y2⟩ := key
  unfold zf_X10_writtenAhead
  rw [y1, obd_some, y2]
theorem snapFactS (h : PC κ n kd aa zz bb) (hR : PR ρ n kd aa zz bb) (w : PW n kd aa zz) (ht : TC 21 κ ρ T hd ln pt) (a e b : Int32) : ∃ r, zf_X9_snapshotFact a e b κ = some r ∧ zf_X10_snapshotOf a e b ρ = some r := by
  have t0 : (0 : Int32).toInt = 0 := rfl
  have t1 : (1 : Int32).toInt = 1 := rfl
  have hT := ht.1
  unfold zf_X9_snapshotFact zf_X10_snapshotOf zb_X9_snapshotFact_24 zb_X9_snapshotFact_79 zb_X10_snapshotOf_26 zb_X10_snapshotOf_28 zf_X10_snapshotBy zb_X10_snapshotBy_38
  rcases hasEntryS ht a e with ⟨x1, x2, k, i, k1, i1, rfl, rfl⟩ | ⟨x1, x2, x3⟩
  · rw [x1, x2, obd_some, obd_some, if_pos rfl, if_pos rfl]
    obtain ⟨h1, h2, h3, _⟩ := ht.2.2.2.2.1 k k1
    by_cases hb : 0 ≤ b.toInt ∧ b.toInt ≤ 1
    · rw [if_pos ((isTwoR b).mpr hb), if_neg (show ¬ b < 0 by rw [Int32.lt_iff_toInt_lt, t0]; omega), if_pos (show b ≤ 1 by rw [Int32.le_iff_toInt_le, t1]; omega), bd_nI (by omega) (by decide), nI_clamp (by omega), aheadC h w ht k1 (Nat.le_of_lt i1), aheadRR hR w ht k1 (Nat.le_of_lt i1), obd_some, obd_some]
      by_cases b0 : b = 0
      · rw [if_pos b0, if_pos b0]
        exact ⟨_, rfl, rfl⟩
      · rw [if_neg b0, if_neg b0]
        by_cases i0 : i = 0
        · subst i0
          rw [if_pos (show nI 0 = 0 from rfl)]
          have z : zf_X7_writtenAhead (21 + 10 + 7 * k) (nI 0 - 1) κ = some 0 := by
            unfold zf_X7_writtenAhead
            rw [show (1000 : Nat) = 999 + 1 from rfl, lp_false (y := ((0 : Int32), (0 : Int32))) (by unfold zl_X7_writtenAhead_5; rw [if_pos (show nI 0 - 1 ≤ 0 by decide)])]
            rfl
          rw [z, obd_some]
          exact ⟨_, rfl, by rw [wA]; rfl⟩
        · obtain ⟨i, rfl⟩ : ∃ j, i = j + 1 := ⟨i - 1, by omega⟩
          have z : nI (i + 1) - 1 = nI i := by rw [← nI_1]; exact Int32.add_sub_cancel _ _
          rw [if_neg (show ¬ nI (i + 1) = 0 from fun q => by have := nI_inj (a := i + 1) (b := 0) (by omega) (by decide) q; omega), z, aheadC h w ht k1 (show i ≤ ln k by omega), aheadRR hR w ht k1 (show i ≤ ln k by omega), obd_some, obd_some]
          exact ⟨_, rfl, rfl⟩
    · rw [if_neg (fun q => hb ((isTwoR b).mp q))]
      by_cases hz : b.toInt < 0
      · rw [if_pos (show b < 0 by rw [Int32.lt_iff_toInt_lt, t0]; omega)]
        exact ⟨_, rfl, rfl⟩
      · rw [if_neg (show ¬ b < 0 by rw [Int32.lt_iff_toInt_lt, t0]; omega), if_neg (show ¬ b ≤ 1 by rw [Int32.le_iff_toInt_le, t1]; omega)]
        exact ⟨_, rfl, rfl⟩
  · rw [x1, x2, obd_some, obd_some, if_neg (by decide), if_neg (by decide)]
    exact ⟨_, rfl, rfl⟩
theorem snapshotS (h : Rel κ ρ) (a e b : Int32) : SIM (zf_X9_snapshot a e b κ) (zf_X10_snapshot a e b ρ) := by
  obtain ⟨κ', ρ', e1, e2, e3, ⟨n, kd, aa, zz, bb, T, hd, ln, pt, P, S, f1, f2, f3, f4, f5⟩, e5⟩ := refreshRunS h
  unfold zf_X9_snapshot zf_X10_snapshot
  obtain ⟨r, r1, r2⟩ := snapFactS f1 f2 f3 f4.2.2.2.1 a e b
  rw [e1, e2, obd_some, obd_some, r1, r2, obd_some, obd_some]
  exact ⟨_, _, _, rfl, rfl, e3⟩
theorem writesFactS (h : PC κ n kd aa zz bb) (hR : PR ρ n kd aa zz bb) (w : PW n kd aa zz) (ht : TC 21 κ ρ T hd ln pt) (a : Int32) : ∃ r, zf_X9_writtenBy a κ = some r ∧ zf_X10_writesOf a ρ = some r := by
  have hT := ht.1
  unfold zf_X9_writtenBy zf_X10_writesOf zb_X10_writesOf_24
  by_cases ha : 0 ≤ a.toInt ∧ a.toInt < (T : Int)
  · rw [if_pos ((hasC ht a).mpr ha), if_pos ((isTraceR ht a).mpr ha)]
    obtain ⟨k, k1, rfl⟩ := ex_nI ha
    obtain ⟨h1, h2, h3, h4, h5, h6, h7, _⟩ := ht.2.2.2.2.1 k k1
    rw [bd_nI (by omega) (by decide), bd_nI (by omega) (by decide), nI_clamp (by omega), h6, h7, aheadC h w ht k1 (Nat.le_refl _), aheadRR hR w ht k1 (Nat.le_refl _)]
    exact ⟨_, rfl, rfl⟩
  · rw [if_neg (fun q => ha ((hasC ht a).mp q)), if_neg (fun q => ha ((isTraceR ht a).mp q))]
    exact ⟨_, rfl, rfl⟩
theorem writesS (h : Rel κ ρ) (a : Int32) : SIM (zf_X9_writes a κ) (zf_X10_writes a ρ) := by
  obtain ⟨κ', ρ', e1, e2, e3, ⟨n, kd, aa, zz, bb, T, hd, ln, pt, P, S, f1, f2, f3, f4, f5⟩, e5⟩ := refreshRunS h
  unfold zf_X9_writes zf_X10_writes
  obtain ⟨r, r1, r2⟩ := writesFactS f1 f2 f3 f4.2.2.2.1 a
  rw [e1, e2, obd_some, obd_some, r1, r2, obd_some, obd_some]
  exact ⟨_, _, _, rfl, rfl, e3⟩
theorem lowerC {k i : Nat} (hi : i < 60) (v : Int32) : zf_X6_lower k (nI i) v κ = some (su κ (k + 1) i (zf_X10_cut (κ k 1) v)) := by
  unfold zf_X6_lower zb_X6_lower_31 zf_X10_cut zb_X10_cut_20
  rw [bd_nI hi (by decide), bd_nI hi (by decide), bd_nI hi (by decide), nI_clamp (by omega)]
  by_cases q0 : κ k 1 = 0
  · rw [if_pos q0, if_pos q0]
  · rw [if_neg q0, if_neg q0]
    by_cases q1 : κ k 1 = 1
    · rw [if_pos q1, if_pos q1]
    · rw [if_neg q1, if_neg q1]
theorem writeLoopC {s k m : Nat} (hs : s < 4) (ht : TC 21 κ ρ T hd ln pt) (hk : k < T) (hm : m ≤ ln k) : ∃ y, lp (X := Int32 × Sg) (zl_X9_write_79 (nI k) (nI s) (nI m)) 1000 ((0 : Int32), κ) = some y ∧ (∀ j, j ≠ 13 + 2 * s + 1 → y.2 j = κ j) ∧ ∀ j, y.2 (13 + 2 * s + 1) j = if j < m then zf_X10_cut (κ (13 + 2 * s) 1) (nI (pt k j)) else κ (13 + 2 * s + 1) j := by
  obtain ⟨h1, h2, h3, _⟩ := ht.2.2.2.2.1 k hk
  have hT := ht.1
  refine lp_for (X := Int32 × Sg) (fun i x => x.1 = nI i ∧ (∀ j, j ≠ 13 + 2 * s + 1 → x.2 j = κ j) ∧ ∀ j, x.2 (13 + 2 * s + 1) j = if j < i then zf_X10_cut (κ (13 + 2 * s) 1) (nI (pt k j)) else κ (13 + 2 * s + 1) j) (fun y => (∀ j, j ≠ 13 + 2 * s + 1 → y.2 j = κ j) ∧ ∀ j, y.2 (13 + 2 * s + 1) j = if j < m then zf_X10_cut (κ (13 + 2 * s) 1) (nI (pt k j)) else κ (13 + 2 * s + 1) j) m (by omega) ⟨rfl, fun _ _ => rfl, fun j => by rw [if_neg (by omega)]⟩ ?_ ?_
  · rintro i ⟨x, τ⟩ hi ⟨e1, e2, e3⟩
    dsimp only at e1 e2 e3
    subst e1
    obtain ⟨g1, g2, g3, _⟩ := ht.2.2.2.2.2 k i hk (by omega)
    unfold zl_X9_write_79
    simp only []
    rw [if_neg (nI_ge hi (by omega)), bd_nI (by omega) (by decide), nI_clamp (show i < 2 ^ 31 by omega), nI_clamp (show k < 2 ^ 31 by omega), nI_clamp (show s < 2 ^ 31 by omega), lowerC (by omega), obd_some, e2 (21 + 10 + 7 * k + 1) (by omega), g3, e2 (13 + 2 * s) (by omega), nI_1]
    refine ⟨_, rfl, rfl, fun j hj => (su_ne _ hj).trans (e2 j hj), fun j => ?_⟩
    show su τ (13 + 2 * s + 1) i _ (13 + 2 * s + 1) j = _
    by_cases q : j = i
    · subst q
      rw [su_hit rfl, if_pos (by omega)]
    · rw [su_rf rfl q rfl, e3 j]
      by_cases q2 : j < i
      · rw [if_pos q2, if_pos (by omega)]
      · rw [if_neg q2, if_neg (by omega)]
  · rintro ⟨x, τ⟩ ⟨e1, e2, e3⟩
    dsimp only at e1 e2 e3
    subst e1
    unfold zl_X9_write_79
    simp only []
    rw [if_pos (nI_le (Nat.le_refl _) (by omega))]
    exact ⟨_, rfl, e2, e3⟩
theorem writeLoopR {s k m : Nat} (hs : s < 4) (ht : TC 21 κ ρ T hd ln pt) (hk : k < T) (hm : m ≤ ln k) : ∃ y, lp (X := Int32 × Sg) (zl_X10_write_60 (nI k) (nI s) (nI m)) 1000 ((0 : Int32), ρ) = some y ∧ (∀ j, j ≠ 3 → y.2 j = ρ j) ∧ ∀ j, y.2 3 j = if 60 * s ≤ j ∧ j < 60 * s + m then zf_X10_cut (ρ 1 s) (nI (pt k (j - 60 * s))) else ρ 3 j := by
  obtain ⟨h1, h2, h3, _⟩ := ht.2.2.2.2.1 k hk
  have hT := ht.1
  refine lp_for (X := Int32 × Sg) (fun i x => x.1 = nI i ∧ (∀ j, j ≠ 3 → x.2 j = ρ j) ∧ ∀ j, x.2 3 j = if 60 * s ≤ j ∧ j < 60 * s + i then zf_X10_cut (ρ 1 s) (nI (pt k (j - 60 * s))) else ρ 3 j) (fun y => (∀ j, j ≠ 3 → y.2 j = ρ j) ∧ ∀ j, y.2 3 j = if 60 * s ≤ j ∧ j < 60 * s + m then zf_X10_cut (ρ 1 s) (nI (pt k (j - 60 * s))) else ρ 3 j) m (by omega) ⟨rfl, fun _ _ => rfl, fun j => by rw [if_neg (by omega)]⟩ ?_ ?_
  · rintro i ⟨x, τ⟩ hi ⟨e1, e2, e3⟩
    dsimp only at e1 e2 e3
    subst e1
    obtain ⟨g1, g2, g3, _⟩ := ht.2.2.2.2.2 k i hk (by omega)
    have e6 : (16 : Int32) * nI k + nI i = nI (16 * k + i) := by rw [show (16 : Int32) = nI 16 from rfl, nI_mul, nI_add]
    have e7 : (60 : Int32) * nI s + nI i = nI (60 * s + i) := by rw [show (60 : Int32) = nI 60 from rfl, nI_mul, nI_add]
    unfold zl_X10_write_60
    simp only []
    rw [if_neg (nI_ge hi (by omega)), e6, e7, bd_nI hs (by decide), bd_nI (by omega) (by decide), bd_nI (by omega) (by decide), nI_clamp (show s < 2 ^ 31 by omega), nI_clamp (show 16 * k + i < 2 ^ 31 by omega), nI_clamp (show 60 * s + i < 2 ^ 31 by omega), e2 17 (by decide), e2 1 (by decide), g2, nI_1]
    refine ⟨_, rfl, rfl, fun j hj => (su_ne _ hj).trans (e2 j hj), fun j => ?_⟩
    show su τ 3 (60 * s + i) _ 3 j = _
    by_cases q : j = 60 * s + i
    · subst q
      rw [su_hit rfl, if_pos (by omega), show 60 * s + i - 60 * s = i by omega]
    · rw [su_rf rfl q rfl, e3 j]
      by_cases q2 : 60 * s ≤ j ∧ j < 60 * s + i
      · rw [if_pos q2, if_pos (by omega)]
      · rw [if_neg q2, if_neg (by omega)]
  · rintro ⟨x, τ⟩ ⟨e1, e2, e3⟩
    dsimp only at e1 e2 e3
    subst e1
    unfold zl_X10_write_60
    simp only []
    rw [if_pos (nI_le (Nat.le_refl _) (by omega))]
    exact ⟨_, rfl, e2, e3⟩
theorem writeS (h : Rel κ ρ) (a s : Int32) : SIM (zf_X9_write a s κ) (zf_X10_write a s ρ) := by
  have t0 : (0 : Int32).toInt = 0 := rfl
  obtain ⟨κ', ρ', e1, e2, e3, ⟨n, kd, aa, zz, bb, T, hd, ln, pt, P, S, f1, f2, f3, f4, f5⟩, e5⟩ := refreshRunS h
  have ht := f4.2.2.2.1
  have hT := ht.1
  unfold zf_X9_write zf_X10_write zb_X9_write_25 zb_X10_write_23 zf_X9_found zf_X10_finds zf_X6_isLost zb_X6_isLost_13 zf_X10_lesser zb_X10_lesser_10
  rw [e1, e2, obd_some, obd_some]
  by_cases ha : 0 ≤ a.toInt ∧ a.toInt < (T : Int)
  · rw [if_pos ((hasC ht a).mpr ha), if_pos ((isTraceR ht a).mpr ha)]
    obtain ⟨k, k1, rfl⟩ := ex_nI ha
    obtain ⟨h1, h2, h3, h4, h5, h6, h7, _⟩ := ht.2.2.2.2.1 k k1
    by_cases hs : 0 ≤ s.toInt ∧ s.toInt < 4
    · rw [if_pos ((isShC s).mpr hs), if_pos ((isShR s).mpr hs)]
      obtain ⟨s', s1, rfl⟩ := ex_nI (x := s) (n := 4) (by omega)
      rw [bd_nI s1 (by decide), bd_nI s1 (by decide), nI_clamp (show s' < 2 ^ 31 by omega)]
      rcases e3.2.2.1.2 s' s1 with ⟨z1, z2⟩ | ⟨f, z, z1, z2, z3, z4, z5, z6, z7⟩
      · rw [z1, z2, if_pos (by decide), if_neg (by decide)]
        exact ⟨_, _, _, rfl, rfl, foundS e3 1⟩
      · have e1' : ¬ nI f = -1 := nI_ne_neg (by omega)
        rw [z3, z4, if_neg e1', if_neg (by decide), if_pos (nI_pos' (by omega)), bd_nI (by omega) (by decide), bd_nI (by omega) (by decide), nI_clamp (show k < 2 ^ 31 by omega), h6, h7, z5, z6]
        obtain ⟨m, m0, m1, m2, m3⟩ : ∃ m, m ≤ z ∧ m ≤ ln k ∧ (if nI z < nI (ln k) then nI z else nI (ln k)) = nI m ∧ (if nI (ln k) ≤ nI z then nI (ln k) else nI z) = nI m := by
          by_cases q : z < ln k
          · exact ⟨z, by omega, by omega, by rw [if_pos (nI_lt q (by omega))], by rw [if_neg (nI_ge q (by omega))]⟩
          · exact ⟨ln k, by omega, by omega, by rw [if_neg (nI_nlt (by omega) (by omega))], by rw [if_pos (nI_le (by omega) (by omega))]⟩
        rw [m2, m3, letb_eq, letb_eq]
        obtain ⟨⟨i1, κ2⟩, c0, c1, c2⟩ := writeLoopC s1 ht k1 m1
        obtain ⟨⟨i2, ρ2⟩, d0, d1, d2⟩ := writeLoopR s1 ht k1 m1
        dsimp only at c1 c2 d1 d2
        rw [c0, d0, obd_some, obd_some]
        refine ⟨_, κ2, ρ2, rfl, rfl, e3.sh ⟨fun i p q => c1 i (by omega), fun j _ => by rw [c1 0 (by omega)]⟩ (d1 5 (by decide)) (d1 6 (by decide)) (d1 7 (by decide)) (fun i _ => by rw [d1 0 (by decide)]) (e3.2.2.1.one (s := s') (by rw [c1 0 (by omega), d1 0 (by decide)]; exact e3.2.2.1.1) ?_ (fun i _ _ p q => c1 i q) (fun t ht => by rw [d1 1 (by decide), d1 2 (by decide)]; exact ⟨rfl, rfl⟩) (fun i hi => by rw [d2, if_neg (by omega)]))⟩
        refine Or.inr ⟨f, z, z1, z2, by rw [c1 _ (by omega)]; exact z3, by rw [d1 1 (by decide)]; exact z4, by rw [c1 _ (by omega)]; exact z5, by rw [d1 2 (by decide)]; exact z6, fun i hi => ?_⟩
        rw [c2, d2, z3, z4]
        by_cases q : i < m
        · rw [if_pos q, if_pos (by omega), show 60 * s' + i - 60 * s' = i by omega]
        · rw [if_neg q, if_neg (by omega)]
          exact z7 i hi
    · rw [if_neg (fun q => hs ((isShC s).mp q)), if_neg (fun q => hs ((isShR s).mp q))]
      exact ⟨_, _, _, rfl, rfl, e3⟩
  · rw [if_neg (fun q => ha ((hasC ht a).mp q)), if_neg (fun q => ha ((isTraceR ht a).mp q))]
    exact ⟨_, _, _, rfl, rfl, e3⟩
end Face8
