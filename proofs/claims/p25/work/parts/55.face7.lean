/-! the plain run, the better threshold -/
section Face7
variable {κ ρ κ' ρ' : Sg}
theorem Rel.keep (h : Rel κ ρ) (k1 : ∀ i, 1 ≤ i → i ≤ 9 ∨ (12 ≤ i ∧ i < 87) → κ' i = κ i) (k0 : ∀ j, j < 10 → κ' 0 j = κ 0 j) (hn : NUM κ') (h2 : F2 κ') (h3 : F3 κ') (hf : FR ρ ρ') : Rel κ' ρ' := by
  obtain ⟨⟨n, kd, aa, zz, bb, L, hr, a, b, c, d, e, f⟩, g, s, i, _, _⟩ := h
  have hs : SAM κ' κ := fun i p q => k1 i p (by omega)
  refine ⟨⟨n, kd, aa, zz, bb, L, hr, a.fr hs hf, by rw [k0 6 (by decide)]; exact b, c, d, by rw [k0 7 (by decide)]; exact e, by rw [hf.2 10 (by decide)]; exact f⟩, hn, s.fr (fun i p q => k1 i (by omega) (by omega)) (k0 8 (by decide)) hf, ?_, h2, h3⟩
  rcases i with i | ⟨κ0, κ1, i1, i2, i3, i4⟩
  · exact Or.inl (by rw [k0 9 (by decide)]; exact i)
  · exact Or.inr ⟨κ0, κ1, i1.trans hs.symm, i2, by rw [k0 6 (by decide), k0 7 (by decide)]; exact i3, fun i p q => by rw [k1 i (by omega) (by omega)]; exact i4 i p q⟩
theorem F3.fr2 (h : F3 κ) (hs : SAM κ' κ) (k : ∀ j, j = 6 ∨ 11 ≤ j → κ' 0 j = κ 0 j) : F3 κ' := by
  rcases h with h | ⟨C, a, b, c⟩
  · exact Or.inl (by rw [k 11 (by decide)]; exact h)
  · refine Or.inr ⟨C, fun v x y => ?_, by rw [k 12 (by decide)]; exact b, by rw [k 13 (by decide)]; exact c⟩
    obtain ⟨κ0, κ1, p, q, r, s⟩ := a v x y
    exact ⟨κ0, κ1, p.trans hs.symm, q, by rw [k 6 (by decide)]; exact r, s⟩
theorem F2.fr2 (h : F2 κ) (hs : SAM κ' κ) (k : ∀ j, j = 6 ∨ j = 10 → κ' 0 j = κ 0 j) (k1 : κ' 10 = κ 10) (k2 : κ' 11 = κ 11) : F2 κ' := by
  rcases h with h | ⟨κ0, κ1, a, b, c, d⟩
  · exact Or.inl (by rw [k 10 (by decide)]; exact h)
  · exact Or.inr ⟨κ0, κ1, a.trans hs.symm, b, by rw [k 6 (by decide)]; exact c, fun j hj => by rw [k1, k2]; exact d j hj⟩
theorem refreshPlainS (h : Rel κ ρ) : ∃ κ' ρ', zf_X9_refreshPlain κ = some κ' ∧ zf_X10_runs 0 ρ = some ρ' ∧ Rel κ' ρ' ∧ (∀ j, j < 8 → κ' 10 j = ρ' 8 j ∧ κ' 11 j = ρ' 9 j) ∧ FR ρ ρ' ∧ (∀ i, 1 ≤ i → i ≤ 9 ∨ (12 ≤ i ∧ i < 87) → κ' i = κ i) ∧ ∀ j, j ≠ 10 → κ' 0 j = κ 0 j := by
  have h' := h
  obtain ⟨⟨n, kd, aa, zz, bb, L, hr, a, b, c, d, e, f⟩, g, s, i, j, l⟩ := h'
  unfold zf_X9_refreshPlain zb_X9_refreshPlain_43
  by_cases q : κ 0 10 = 0
  · rw [if_pos q, b]
    obtain ⟨κ1, ρ1, x1, x2, ⟨T, hd, ln, pt, P, S, x3, x3'⟩, x4, x5⟩ := goS (hr := 0) (M := 87) (hc := 2147483647) isM_87 a (fun k hk => (g k hk).2) (Or.inr ⟨rfl, rfl⟩)
    rw [x1, obd_some]
    obtain ⟨κ2, b1, b2, b3⟩ := becomeS 9 (87 + 1) κ1 (by decide) (by decide) (by decide)
    rw [b1, obd_some]
    obtain ⟨u1, u2, u3⟩ := su9 κ2 10 1
    have kk : ∀ i, 1 ≤ i → i ≤ 9 ∨ (12 ≤ i ∧ i < 87) → su κ2 0 10 1 i = κ i := fun i p q => by rw [u1 i (by omega), b2 i (by omega) (by omega), x4 i (by omega)]
    have k0 : ∀ j, j ≠ 10 → su κ2 0 10 1 0 j = κ 0 j := fun j hj => by rw [u2 j hj, b2 0 (by decide) (by decide), x4 0 (by omega)]
    have hs : SAM (su κ2 0 10 1) κ := fun i p q => kk i p (by omega)
    refine ⟨_, ρ1, rfl, x2, h.keep kk (fun j hj => k0 j (by omega)) ?_ ?_ (l.fr2 hs (fun j hj => k0 j (by omega))) x5, fun j hj => ?_, x5, kk, k0⟩
    · intro k hk
      rw [kk (21 + 10 + 7 * k) (by omega) (by omega), u1 _ (by omega), b2 _ (by omega) (by omega)]
      exact ⟨(g k hk).1, x3.2.2.2.1.2.2.2.1 k hk⟩
    · refine Or.inr ⟨κ, κ1, hs.symm, g, by rw [k0 6 (by decide), b]; exact x1, fun j hj => ?_⟩
      rw [u1 10 (by decide), u1 11 (by decide)]
      exact b3 j hj
    · rw [u1 10 (by decide), u1 11 (by decide)]
      obtain ⟨r1, r2, _⟩ := x3.2.1 j hj
      exact ⟨(b3 j hj).1.trans r1, (b3 j hj).2.trans r2⟩
  · rw [if_neg q]
    rcases j with j | ⟨κ0, κ1, i1, i2, i3, i4⟩
    · exact absurd j q
    · have a0 : IN κ0 ρ n kd aa zz bb L := a.fr i1 ⟨fun _ _ _ => rfl, fun _ _ => rfl⟩
      obtain ⟨κ2, ρ1, x1, x2, ⟨T, hd, ln, pt, P, S, x3, x3'⟩, x4, x5⟩ := goS (hr := 0) (M := 87) (hc := 2147483647) isM_87 a0 (fun k hk => (i2 k hk).2) (Or.inr ⟨rfl, rfl⟩)
      rw [b, x1] at i3
      have e1 : κ2 = κ1 := Option.some.inj i3
      subst e1
      refine ⟨κ, ρ1, rfl, x2, h.fr x5, fun j hj => ?_, x5, fun _ _ _ => rfl, fun _ _ => rfl⟩
      obtain ⟨r1, r2, _⟩ := x3.2.1 j hj
      exact ⟨(i4 j hj).1.trans r1, (i4 j hj).2.trans r2⟩
theorem plainFS (h : Rel κ ρ) (a b : Int32) : SIM (zf_X9_plain a b κ) (zf_X10_plain a b ρ) := by
  obtain ⟨κ', ρ', e1, e2, e3, e4, e5⟩ := refreshPlainS h
  unfold zf_X9_plain zf_X10_plain zb_X10_plain_28 zb_X10_plain_30
  rw [e1, e2, obd_some, obd_some]
  obtain ⟨r, r1, r2⟩ := factS (κ := κ') (ρ := ρ') (k := 9) e4 a b
  rw [r1, r2, obd_some]
  exact ⟨_, _, _, rfl, rfl, e3⟩
/-- what a run with a threshold comes to -/
def cv (ρ : Sg) (v : Nat) : Int32 := match zf_X10_runs (nI v) ρ with
  | some σ => σ 0 18
  | none => 0
theorem cvS {n : Nat} {kd aa zz : Nat → Nat} {bb : Nat → Int32} {L v : Nat} (h : IN κ ρ n kd aa zz bb L) (hn : NUM κ) (h2 : 2 ≤ v) (h9 : v ≤ 9) : (∃ c, c ≤ 600 ∧ cv ρ v = nI c) ∧ ∀ κ0 ρ0, SAM κ0 κ → NUM κ0 → FR ρ ρ0 → ∃ κ1 ρ1, zf_X3_go 87 6 (nI L) (nI v) κ0 = some κ1 ∧ zf_X10_runs (nI v) ρ0 = some ρ1 ∧ κ1 87 8 = cv ρ v ∧ ρ1 0 18 = cv ρ v ∧ FC 87 κ0 κ1 ∧ FR ρ0 ρ1 ∧ ∀ k, k < 8 → κ1 (87 + 10 + 7 * k) 0 = nI k := by
  have hh : HH (nI v) v := Or.inl ⟨rfl, h2, h9⟩
  have f0 : FR ρ ρ := ⟨fun _ _ _ => rfl, fun _ _ => rfl⟩
  obtain ⟨κa, ρa, a1, a2, a3, a4, a5, c, c1, c2⟩ := goS' isM_87 h (fun k hk => (hn k hk).2) hh
  have e : cv ρ v = nI c := by unfold cv; rw [a2]; exact c2
  refine ⟨⟨c, c1, e⟩, fun κ0 ρ0 hs h0 hf => ?_⟩
  obtain ⟨κb, ρb, b1, b2, ⟨T, hd, ln, pt, P, S, b3, _⟩, b4, b5, _⟩ := goS' isM_87 (h.fr hs f0) (fun k hk => (h0 k hk).2) hh
  obtain ⟨κd, ρd, d1, d2, ⟨T', hd', ln', pt', P', S', d3, _⟩, d4, d5, _⟩ := goS' isM_87 (h.fr hs hf) (fun k hk => (h0 k hk).2) hh
  have x1 : κb = κd := Option.some.inj (b1.symm.trans d1)
  have x2 : ρb = ρa := Option.some.inj (b2.symm.trans a2)
  subst x1 x2
  have y1 : κb 87 8 = cv ρ v := by rw [e, ← c2]; exact b3.1.2.2.2.1
  exact ⟨κb, ρd, d1, d2, y1, by rw [← y1]; exact d3.1.2.2.2.1.symm, d4, d5, d3.2.2.2.1.2.2.2.1⟩
theorem bst_congr {C D : Nat → Int32} : ∀ k, (∀ v, 2 ≤ v → v < k + 2 → C v = D v) → bst C k = bst D k
  | 0, _ => rfl
  | k + 1, h => by
    have ih := bst_congr k (fun v a b => h v a (by omega))
    unfold bst
    rw [ih, h (k + 2) (by omega) (by omega)]
def brs (C : Nat → Int32) : Nat → Int32 × Int32
  | 0 => (-1, -1)
  | k + 1 => if C (k + 2) ≤ (brs C k).2 then brs C k else (nI (k + 2), C (k + 2))
theorem brs_bst {C : Nat → Int32} {c : Nat} (h0 : c ≤ 600) (h : C 2 = nI c) : ∀ k, brs C (k + 1) = bst C (k + 1)
  | 0 => by
    have t0 : (0 : Int32).toInt = 0 := rfl
    have tm : (-1 : Int32).toInt = -1 := rfl
    unfold brs bst
    show (if C 2 ≤ -1 then ((-1 : Int32), (-1 : Int32)) else (nI 2, C 2)) = if C 2 ≤ 0 then ((2 : Int32), (0 : Int32)) else (nI 2, C 2)
    rw [h, if_neg (fun q => by rw [Int32.le_iff_toInt_le, nI_toInt (by omega), tm] at q; omega)]
    by_cases q : c = 0
    · subst q
      rw [if_pos (by decide)]
      rfl
    · rw [if_neg (fun z => by rw [Int32.le_iff_toInt_le, nI_toInt (by omega), t0] at z; omega)]
  | k + 1 => by
    have ih := brs_bst h0 h k
    rw [brs, bst, ih]
theorem betterLoopC {n : Nat} {kd aa zz : Nat → Nat} {bb : Nat → Int32} {L : Nat} (h : IN κ ρ n kd aa zz bb L) (hL : κ 0 6 = nI L) (hn : NUM κ) : ∃ y, lp (X := Int32 × Sg) zl_X9_refreshBetter_20 1000 ((2 : Int32), su (su κ 0 12 (2 : Int32)) 0 13 (0 : Int32)) = some y ∧ y.2 0 12 = (bst (cv ρ) 8).1 ∧ y.2 0 13 = (bst (cv ρ) 8).2 ∧ NUM y.2 ∧ (∀ i, i ≠ 0 → i < 87 → y.2 i = κ i) ∧ ∀ j, j ≠ 12 → j ≠ 13 → y.2 0 j = κ 0 j := by
  refine lp_for (X := Int32 × Sg) (fun i x => x.1 = nI (i + 2) ∧ x.2 0 12 = (bst (cv ρ) i).1 ∧ x.2 0 13 = (bst (cv ρ) i).2 ∧ NUM x.2 ∧ (∀ i, i ≠ 0 → i < 87 → x.2 i = κ i) ∧ ∀ j, j ≠ 12 → j ≠ 13 → x.2 0 j = κ 0 j) (fun y => y.2 0 12 = (bst (cv ρ) 8).1 ∧ y.2 0 13 = (bst (cv ρ) 8).2 ∧ NUM y.2 ∧ (∀ i, i ≠ 0 → i < 87 → y.2 i = κ i) ∧ ∀ j, j ≠ 12 → j ≠ 13 → y.2 0 j = κ 0 j) 8 (by decide) ⟨rfl, by simp [su_ap]; rfl, by simp [su_ap]; rfl, hn.fr (fun i a b => by simp (disch := omega) only [su_ne]), fun i a b => by simp (disch := omega) only [su_ne], fun j a b => by simp [su_ap, a, b]⟩ ?_ ?_
  · rintro i ⟨x, τ⟩ hi ⟨e1, e2, e3, e4, e5, e6⟩
    dsimp only at e1 e2 e3 e4 e5 e6
    subst e1
    obtain ⟨_, hc⟩ := cvS h hn (v := i + 2) (by omega) (by omega)
    obtain ⟨κ1, ρ1, g1, g2, g3, g4, g5, g6, g7⟩ := hc τ ρ (fun i a b => e5 i (by omega) (by omega)) e4 ⟨fun _ _ _ => rfl, fun _ _ => rfl⟩
    have k0 : ∀ j, κ1 0 j = τ 0 j := fun j => by rw [g5 0 (by omega)]
    have kn : ∀ i, i < 87 → κ1 i = τ i := fun i hi => g5 i (by omega)
    have nm : NUM κ1 := fun k hk => ⟨by rw [kn _ (by omega)]; exact (e4 k hk).1, g7 k hk⟩
    unfold zl_X9_refreshBetter_20 zb_X9_refreshBetter_72
    simp only []
    rw [if_neg (show ¬ (9 : Int32) < nI (i + 2) from nI_nlt (a := 9) (b := i + 2) (by omega) (by omega)), e6 6 (by decide) (by decide), hL, g1, obd_some, g3, k0 13, e3, nI_1]
    by_cases q : cv ρ (i + 2) ≤ (bst (cv ρ) i).2
    · rw [if_pos q]
      have eb : bst (cv ρ) (i + 1) = bst (cv ρ) i := by rw [bst, if_pos q]
      refine ⟨_, rfl, rfl, ?_, ?_, nm, fun j a b => ?_, fun j a b => ?_⟩
      · rw [eb]; exact (k0 12).trans e2
      · rw [eb]; exact (k0 13).trans e3
      · exact (kn j b).trans (e5 j a b)
      · exact (k0 j).trans (e6 j a b)
    · rw [if_neg q]
      have eb : bst (cv ρ) (i + 1) = (nI (i + 2), cv ρ (i + 2)) := by rw [bst, if_neg q]
      refine ⟨_, rfl, rfl, ?_, ?_, nm.fr (fun i a b => by simp (disch := omega) only [su_ne]), fun j a b => ?_, fun j a b => ?_⟩
      · rw [eb]; simp [su_ap]
      · rw [eb]; simp [su_ap]
      · show su (su κ1 0 12 _) 0 13 _ j = κ j
        rw [su_ne _ a, su_ne _ a]
        exact (kn j b).trans (e5 j a b)
      · show su (su κ1 0 12 _) 0 13 _ 0 j = κ 0 j
        rw [su_rf rfl b rfl, su_rf rfl a rfl]
        exact (k0 j).trans (e6 j a b)
  · rintro ⟨x, τ⟩ ⟨e1, e2, e3, e4, e5, e6⟩
    dsimp only at e1 e2 e3 e4 e5 e6
    subst e1
    unfold zl_X9_refreshBetter_20
    simp only []
    rw [if_pos (show (9 : Int32) < nI (8 + 2) by decide)]
    exact ⟨_, rfl, e2, e3, e4, e5, e6⟩
theorem betterLoopR {n : Nat} {kd aa zz : Nat → Nat} {bb : Nat → Int32} {L : Nat} (h : IN κ ρ n kd aa zz bb L) (hn : NUM κ) : ∃ y, lp (X := Int32 × Int32 × Int32 × Sg) zl_X10_betterBy_7 1000 ((2 : Int32), (-1 : Int32), (-1 : Int32), ρ) = some y ∧ y.2.2.1 = (bst (cv ρ) 8).1 ∧ y.2.1 = (bst (cv ρ) 8).2 ∧ FR ρ y.2.2.2 := by
  obtain ⟨⟨c, c1, c2⟩, _⟩ := cvS h hn (v := 2) (by omega) (by omega)
  have hb : brs (cv ρ) 8 = bst (cv ρ) 8 := brs_bst c1 c2 7
  rw [← hb]
  refine lp_for (X := Int32 × Int32 × Int32 × Sg) (fun i x => x.1 = nI (i + 2) ∧ x.2.2.1 = (brs (cv ρ) i).1 ∧ x.2.1 = (brs (cv ρ) i).2 ∧ FR ρ x.2.2.2) (fun y => y.2.2.1 = (brs (cv ρ) 8).1 ∧ y.2.1 = (brs (cv ρ) 8).2 ∧ FR ρ y.2.2.2) 8 (by decide) ⟨rfl, rfl, rfl, ⟨fun _ _ _ => rfl, fun _ _ => rfl⟩⟩ ?_ ?_
  · rintro i ⟨x, b, t, τ⟩ hi ⟨e1, e2, e3, e4⟩
    dsimp only at e1 e2 e3 e4
    subst e1
    obtain ⟨_, hc⟩ := cvS h hn (v := i + 2) (by omega) (by omega)
    obtain ⟨κ1, ρ1, g1, g2, g3, g4, g5, g6, g7⟩ := hc κ τ (fun _ _ _ => rfl) hn e4
    unfold zl_X10_betterBy_7 zb_X10_betterBy_34 zf_X10_greater zb_X10_greater_10
    simp only []
    rw [if_neg (show ¬ (10 : Int32) ≤ nI (i + 2) from nI_ge (a := i + 2) (b := 10) (by omega) (by omega)), g2, obd_some, g4, letb_eq, nI_1]
    by_cases q : cv ρ (i + 2) ≤ b
    · rw [if_pos q]
      have eb : brs (cv ρ) (i + 1) = brs (cv ρ) i := by rw [brs, if_pos (by rw [← e3]; exact q)]
      exact ⟨_, rfl, rfl, by rw [eb]; exact e2, by rw [eb]; show (if cv ρ (i + 2) ≤ b then b else cv ρ (i + 2)) = _; rw [if_pos q]; exact e3, e4.trans g6⟩
    · rw [if_neg q]
      have eb : brs (cv ρ) (i + 1) = (nI (i + 2), cv ρ (i + 2)) := by rw [brs, if_neg (by rw [← e3]; exact q)]
      exact ⟨_, rfl, rfl, by rw [eb], by rw [eb]; show (if cv ρ (i + 2) ≤ b then b else cv ρ (i + 2)) = _; rw [if_neg q], e4.trans g6⟩
  · rintro ⟨x, b, t, τ⟩ ⟨e1, e2, e3, e4⟩
    dsimp only at e1 e2 e3 e4
    subst e1
    unfold zl_X10_betterBy_7
    simp only []
    rw [if_pos (show (10 : Int32) ≤ nI (8 + 2) by decide)]
    exact ⟨_, rfl, e2, e3, e4⟩
theorem refreshBetterS (h : Rel κ ρ) : ∃ κ', zf_X9_refreshBetter κ = some κ' ∧ Rel κ' ρ ∧ κ' 0 12 = (bst (cv ρ) 8).1 ∧ κ' 0 13 = (bst (cv ρ) 8).2 ∧ (∀ i, 1 ≤ i → i < 87 → κ' i = κ i) ∧ ∀ j, j < 11 → κ' 0 j = κ 0 j := by
  have h' := h
  obtain ⟨⟨n, kd, aa, zz, bb, L, hr, a, b, c, d, e, f⟩, g, s, i, j, l⟩ := h'
  unfold zf_X9_refreshBetter
  by_cases q : κ 0 11 = 0
  · rw [if_pos q]
    obtain ⟨⟨x, τ⟩, y1, y2, y3, y4, y5, y6⟩ := betterLoopC a b g
    dsimp only at y2 y3 y4 y5 y6
    rw [y1, obd_some]
    obtain ⟨u1, u2, u3⟩ := su9 τ 11 1
    have hs : SAM (su τ 0 11 1) κ := fun i p q => by rw [u1 i (by omega), y5 i (by omega) (by omega)]
    have k0 : ∀ j, j < 11 → su τ 0 11 1 0 j = κ 0 j := fun j hj => by rw [u2 j (by omega), y6 j (by omega) (by omega)]
    refine ⟨su τ 0 11 1, rfl, h.keep (fun i p q => by rw [u1 i (by omega), y5 i (by omega) (by omega)]) (fun j hj => k0 j (by omega)) (y4.fr (fun i p q => by rw [u1 i (by omega)])) (j.fr2 hs (fun j hj => k0 j (by omega)) (by rw [u1 10 (by decide), y5 10 (by decide) (by decide)]) (by rw [u1 11 (by decide), y5 11 (by decide) (by decide)])) ?_ ⟨fun _ _ _ => rfl, fun _ _ => rfl⟩, by rw [u2 12 (by decide)]; exact y2, by rw [u2 13 (by decide)]; exact y3, fun i p q => by rw [u1 i (by omega), y5 i (by omega) (by omega)], k0⟩
    refine Or.inr ⟨cv ρ, fun v p q => ?_, by rw [u2 12 (by decide)]; exact y2, by rw [u2 13 (by decide)]; exact y3⟩
    obtain ⟨_, hc⟩ := cvS a g p q
    obtain ⟨κ1, ρ1, g1, g2, g3, _⟩ := hc κ ρ (fun _ _ _ => rfl) g ⟨fun _ _ _ => rfl, fun _ _ => rfl⟩
    exact ⟨κ, κ1, hs.symm, g, by rw [k0 6 (by decide), b]; exact g1, g3⟩
  · rw [if_neg q]
    rcases l with l | ⟨C, l1, l2, l3⟩
    · exact absurd l q
    · have hC : bst C 8 = bst (cv ρ) 8 := by
        refine bst_congr 8 (fun v p q => ?_)
        obtain ⟨κ0, κ1, p1, p2, p3, p4⟩ := l1 v p (by omega)
        obtain ⟨_, hc⟩ := cvS a g p (show v ≤ 9 by omega)
        obtain ⟨κ2, ρ1, g1, g2, g3, _⟩ := hc κ0 ρ p1 p2 ⟨fun _ _ _ => rfl, fun _ _ => rfl⟩
        rw [b, g1] at p3
        rw [← p4, ← g3, Option.some.inj p3]
      exact ⟨κ, rfl, h, by rw [← hC]; exact l2, by rw [← hC]; exact l3, fun _ _ _ => rfl, fun _ _ => rfl⟩
theorem betterS (h : Rel κ ρ) (a : Int32) : SIM (zf_X9_better a κ) (zf_X10_better a ρ) := by
  obtain ⟨κ', e1, e2, e3, e4, _⟩ := refreshBetterS h
  obtain ⟨⟨n, kd, aa, zz, bb, L, hr, i, _⟩, g, _⟩ := id h
  obtain ⟨⟨x, b, t, τ⟩, y1, y2, y3, y4⟩ := betterLoopR i g
  dsimp only at y2 y3 y4
  unfold zf_X9_better zf_X10_better zb_X10_better_17 zf_X9_betterFact zf_X10_betterBy zb_X10_betterBy_59
  rw [e1, y1, obd_some, obd_some, e3, e4]
  by_cases ha : 0 ≤ a.toInt ∧ a.toInt ≤ 1
  · rw [if_pos ((isTwoR a).mpr ha)]
    obtain ⟨a', a1, rfl⟩ := ex_nI (x := a) (n := 2) (by omega)
    have : a' = 0 ∨ a' = 1 := by omega
    rcases this with rfl | rfl
    · rw [if_pos (show nI 0 = 0 from rfl), if_pos (show nI 0 = 0 from rfl), bnd_some]
      exact ⟨_, _, _, rfl, by rw [← y2], e2.fr y4⟩
    · rw [if_neg (show ¬ nI 1 = 0 by decide), if_neg (show ¬ nI 1 = 0 by decide), if_pos (show nI 1 = 1 from rfl), bnd_some]
      exact ⟨_, _, _, rfl, by rw [← y3], e2.fr y4⟩
  · rw [if_neg (fun q => ha ((isTwoR a).mp q)), if_neg (show ¬ a = 0 from ofR ha 0 (by decide) (by decide)), if_neg (show ¬ a = 1 from ofR ha 1 (by decide) (by decide))]
    exact ⟨_, _, _, rfl, rfl, e2⟩
end Face7
