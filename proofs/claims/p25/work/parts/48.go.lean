section Go
variable {M : Nat} {κ ρ κ' ρ' : Sg} {n : Nat} {kd aa zz : Nat → Nat} {bb : Nat → Int32} {T hr : Nat} {hd ln : Nat → Nat} {pt : Nat → Nat → Nat} {P P' S hN m : Nat}
theorem fillS (a len : Nat) (v : Int32) (σ : Sg) (hl : len < 1000) : ∃ σ', zf_J7_fill_53178 a len v σ = some σ' ∧ (∀ i, i ≠ a → σ' i = σ i) ∧ ∀ j, j < len → σ' a j = v := by
  unfold zf_J7_fill_53178
  rw [letb_eq]
  obtain ⟨y, h1, h2⟩ := lp_for (body := zl_J7_fill_53178_5 a len v (nI len)) (x := ((0 : Int32), σ)) (fun i x => x.1 = nI i ∧ (∀ k, k ≠ a → x.2 k = σ k) ∧ ∀ j, j < i → x.2 a j = v) (fun x => (∀ i, i ≠ a → x.2 i = σ i) ∧ ∀ j, j < len → x.2 a j = v) len hl ⟨rfl, fun _ _ => rfl, fun j hj => absurd hj (Nat.not_lt_zero j)⟩ (by
      rintro i ⟨x, τ⟩ hi ⟨e1, e2, e3⟩
      have e1' : x = nI i := e1
      subst e1'
      dsimp only at e1 e2 e3
      unfold zl_J7_fill_53178_5
      simp only []
      rw [if_neg (nI_ge hi (by omega)), bd_nI hi (by omega), nI_clamp (by omega), nI_1]
      refine ⟨_, rfl, rfl, fun k hk => (su_ne _ hk).trans (e2 k hk), fun j hj => ?_⟩
      show su τ a i v a j = v
      rw [su_ap, if_pos rfl]
      split
      · rfl
      · exact e3 j (by omega)) (by
      rintro ⟨x, τ⟩ ⟨e1, e2, e3⟩
      have e1' : x = nI len := e1
      subst e1'
      dsimp only at e1 e2 e3
      unfold zl_J7_fill_53178_5
      simp only []
      rw [if_pos (nI_le (Nat.le_refl _) (by omega))]
      exact ⟨_, rfl, e2, e3⟩)
  rw [h1, obd_some]
  exact ⟨_, rfl, h2⟩
theorem becomeS (g k : Nat) (σ : Sg) (h1 : g + 1 ≠ k + 2) (h2 : g + 2 ≠ k + 1) (h3 : g ≠ k) : ∃ σ', zf_X5_become g k σ = some σ' ∧ (∀ i, i ≠ g + 1 → i ≠ g + 2 → σ' i = σ i) ∧ ∀ j, j < 8 → σ' (g + 1) j = σ (k + 1) j ∧ σ' (g + 2) j = σ (k + 2) j := by
  unfold zf_X5_become
  obtain ⟨y, h1, h2⟩ := lp_for (body := zl_X5_become_2 g k) (x := ((0 : Int32), σ)) (fun i x => x.1 = nI i ∧ (∀ i, i ≠ g + 1 → i ≠ g + 2 → x.2 i = σ i) ∧ ∀ j, j < i → x.2 (g + 1) j = σ (k + 1) j ∧ x.2 (g + 2) j = σ (k + 2) j) (fun x => (∀ i, i ≠ g + 1 → i ≠ g + 2 → x.2 i = σ i) ∧ ∀ j, j < 8 → x.2 (g + 1) j = σ (k + 1) j ∧ x.2 (g + 2) j = σ (k + 2) j) 8 (by decide) ⟨rfl, fun _ _ _ => rfl, fun j hj => absurd hj (Nat.not_lt_zero j)⟩ (by
      rintro i ⟨x, τ⟩ hi ⟨e1, e2, e3⟩
      have e1' : x = nI i := e1
      subst e1'
      dsimp only at e1 e2 e3
      unfold zl_X5_become_2 zf_X5_put
      simp only []
      rw [if_neg (show ¬ (8 : Int32) ≤ nI i from nI_ge (a := i) (b := 8) hi (by decide)), bd_nI hi (by decide), bd_nI hi (by decide), obd_some, nI_clamp (by omega), nI_1]
      refine ⟨_, rfl, rfl, fun q h5 h6 => by simp (disch := omega) only [su_ne]; exact e2 q h5 h6, fun j hj => ?_⟩
      have f1 := e2 (k + 1) (by omega) (by omega)
      have f2 := e2 (k + 2) (by omega) (by omega)
      show su (su τ (g + 1) i (τ (k + 1) i)) (g + 2) i (τ (k + 2) i) (g + 1) j = _ ∧ su (su τ (g + 1) i (τ (k + 1) i)) (g + 2) i (τ (k + 2) i) (g + 2) j = _
      have f3 := e3 j
      by_cases z : j = i
      · subst z
        simp [su_ap, f1, f2]
      · have := f3 (by omega)
        simp [su_ap, z]
        exact this) (by
      rintro ⟨x, τ⟩ ⟨e1, e2, e3⟩
      have e1' : x = nI 8 := e1
      subst e1'
      dsimp only at e1 e2 e3
      unfold zl_X5_become_2
      simp only []
      rw [if_pos (show (8 : Int32) ≤ nI 8 from nI_le (a := 8) (b := 8) (by decide) (by decide))]
      exact ⟨_, rfl, e2, e3⟩)
  rw [h1, obd_some]
  exact ⟨_, rfl, h2⟩
theorem clearS (M : Nat) (κ : Sg) : ∃ κ', zf_X2_clear M κ = some κ' ∧ (∀ i, i ≠ M + 5 → i ≠ M + 7 → i ≠ M + 8 → i ≠ M + 9 → κ' i = κ i) ∧ (∀ j, j < 24 → κ' (M + 7) j = 0 ∧ κ' (M + 8) j = 0 ∧ κ' (M + 9) j = -1) ∧ κ' (M + 5) 4 = 0 ∧ κ' (M + 5) 5 = 0 ∧ κ' (M + 5) 6 = -1 := by
  unfold zf_X2_clear
  obtain ⟨κ1, a1, a2, a3⟩ := fillS (M + 7) 24 0 κ (by decide)
  obtain ⟨κ2, b1, b2, b3⟩ := fillS (M + 8) 24 0 κ1 (by decide)
  rw [a1, obd_some, b1, obd_some]
  obtain ⟨y, h1, h2, h3⟩ := lp_for (body := zl_X2_clear_18 M) (x := ((0 : Int32), κ2)) (fun i x => x.1 = nI i ∧ (∀ k, k ≠ M + 9 → x.2 k = κ2 k) ∧ ∀ j, j < i → x.2 (M + 9) j = -1) (fun x => (∀ i, i ≠ M + 9 → x.2 i = κ2 i) ∧ ∀ j, j < 24 → x.2 (M + 9) j = -1) 24 (by decide) ⟨rfl, fun _ _ => rfl, fun j hj => absurd hj (Nat.not_lt_zero j)⟩ (by
      rintro i ⟨x, τ⟩ hi ⟨e1, e2, e3⟩
      have e1' : x = nI i := e1
      subst e1'
      dsimp only at e1 e2 e3
      unfold zl_X2_clear_18
      simp only []
      rw [if_neg (show ¬ (24 : Int32) ≤ nI i from nI_ge (a := i) (b := 24) hi (by decide)), bd_nI hi (by omega), nI_clamp (by omega), nI_1]
      refine ⟨_, rfl, rfl, fun k hk => (su_ne _ hk).trans (e2 k hk), fun j hj => ?_⟩
      show su τ (M + 9) i (-1) (M + 9) j = -1
      rw [su_ap, if_pos rfl]
      split
      · rfl
      · exact e3 j (by omega)) (by
      rintro ⟨x, τ⟩ ⟨e1, e2, e3⟩
      have e1' : x = nI 24 := e1
      subst e1'
      dsimp only at e1 e2 e3
      unfold zl_X2_clear_18
      simp only []
      rw [if_pos (show (24 : Int32) ≤ nI 24 from nI_le (a := 24) (b := 24) (by decide) (by decide))]
      exact ⟨_, rfl, e2, e3⟩)
  rw [h1, obd_some]
  refine ⟨_, rfl, fun i c1 c2 c3 c4 => ?_, fun j hj => ⟨?_, ?_, ?_⟩, ?_, ?_, ?_⟩
  · simp (disch := omega) only [su_ne]
    rw [h2 i c4, b2 i c3, a2 i c2]
  · simp (disch := omega) only [su_ne]
    rw [h2 _ (by omega), b2 _ (by omega)]
    exact a3 j hj
  · simp (disch := omega) only [su_ne]
    rw [h2 _ (by omega)]
    exact b3 j hj
  · simp (disch := omega) only [su_ne]
    exact h3 j hj
  · simp [su_ap]
  · simp [su_ap]
  · simp [su_ap]
theorem copyR (ρ : Sg) : ∃ y, lp (X := Int32 × Sg) zl_X10_runs_2 1000 ((0 : Int32), ρ) = some y ∧ (∀ i, i ≠ 8 → i ≠ 9 → y.2 i = ρ i) ∧ ∀ j, j < 8 → y.2 8 j = ρ 6 j ∧ y.2 9 j = ρ 7 j := by
  refine lp_for (body := zl_X10_runs_2) (x := ((0 : Int32), ρ)) (fun i x => x.1 = nI i ∧ (∀ i, i ≠ 8 → i ≠ 9 → x.2 i = ρ i) ∧ ∀ j, j < i → x.2 8 j = ρ 6 j ∧ x.2 9 j = ρ 7 j) (fun x => (∀ i, i ≠ 8 → i ≠ 9 → x.2 i = ρ i) ∧ ∀ j, j < 8 → x.2 8 j = ρ 6 j ∧ x.2 9 j = ρ 7 j) 8 (by decide) ⟨rfl, fun _ _ _ => rfl, fun j hj => absurd hj (Nat.not_lt_zero j)⟩ ?_ ?_
  · rintro i ⟨x, τ⟩ hi ⟨e1, e2, e3⟩
    have e1' : x = nI i := e1
    subst e1'
    dsimp only at e1 e2 e3
    unfold zl_X10_runs_2
    simp only []
    rw [if_neg (show ¬ (8 : Int32) ≤ nI i from nI_ge (a := i) (b := 8) hi (by decide)), bd_nI hi (by decide), nI_clamp (by omega), nI_1]
    refine ⟨_, rfl, rfl, fun q h5 h6 => by simp (disch := omega) only [su_ne]; exact e2 q h5 h6, fun j hj => ?_⟩
    have f1 := e2 6 (by omega) (by omega)
    have f2 := e2 7 (by omega) (by omega)
    have f3 := e3 j
    by_cases z : j = i
    · subst z
      simp [su_ap, f1, f2]
    · have := f3 (by omega)
      simp [su_ap, z]
      exact this
  · rintro ⟨x, τ⟩ ⟨e1, e2, e3⟩
    have e1' : x = nI 8 := e1
    subst e1'
    dsimp only at e1 e2 e3
    unfold zl_X10_runs_2
    simp only []
    rw [if_pos (show (8 : Int32) ≤ nI 8 from nI_le (a := 8) (b := 8) (by decide) (by decide))]
    exact ⟨_, rfl, e2, e3⟩
theorem zeroR (ρ : Sg) : ∃ y, lp (X := Int32 × Sg) zl_X10_runs_40 1000 ((0 : Int32), ρ) = some y ∧ (∀ i, i ≠ 10 → i ≠ 11 → y.2 i = ρ i) ∧ ∀ j, j < 24 → y.2 10 j = 0 ∧ y.2 11 j = 0 := by
  refine lp_for (body := zl_X10_runs_40) (x := ((0 : Int32), ρ)) (fun i x => x.1 = nI i ∧ (∀ i, i ≠ 10 → i ≠ 11 → x.2 i = ρ i) ∧ ∀ j, j < i → x.2 10 j = 0 ∧ x.2 11 j = 0) (fun x => (∀ i, i ≠ 10 → i ≠ 11 → x.2 i = ρ i) ∧ ∀ j, j < 24 → x.2 10 j = 0 ∧ x.2 11 j = 0) 24 (by decide) ⟨rfl, fun _ _ _ => rfl, fun j hj => absurd hj (Nat.not_lt_zero j)⟩ ?_ ?_
  · rintro i ⟨x, τ⟩ hi ⟨e1, e2, e3⟩
    have e1' : x = nI i := e1
    subst e1'
    dsimp only at e1 e2 e3
    unfold zl_X10_runs_40
    simp only []
    rw [if_neg (show ¬ (24 : Int32) ≤ nI i from nI_ge (a := i) (b := 24) hi (by decide)), bd_nI hi (by decide), nI_clamp (by omega), nI_1]
    refine ⟨_, rfl, rfl, fun q h5 h6 => by simp (disch := omega) only [su_ne]; exact e2 q h5 h6, fun j hj => ?_⟩
    have f3 := e3 j
    by_cases z : j = i
    · subst z
      simp [su_ap]
    · have := f3 (by omega)
      simp [su_ap, z]
      exact this
  · rintro ⟨x, τ⟩ ⟨e1, e2, e3⟩
    have e1' : x = nI 24 := e1
    subst e1'
    dsimp only at e1 e2 e3
    unfold zl_X10_runs_40
    simp only []
    rw [if_pos (show (24 : Int32) ≤ nI 24 from nI_le (a := 24) (b := 24) (by decide) (by decide))]
    exact ⟨_, rfl, e2, e3⟩
/-- what a run begins from -/
def IN (κ ρ : Sg) (n : Nat) (kd aa zz : Nat → Nat) (bb : Nat → Int32) (L : Nat) : Prop := PC κ n kd aa zz bb ∧ PR ρ n kd aa zz bb ∧ PW n kd aa zz ∧ L ≤ 600 ∧ ρ 0 9 = nI L ∧ ∀ j, j < 8 → κ 7 j = ρ 6 j ∧ κ 8 j = ρ 7 j ∧ (ρ 6 j = 0 ∨ ρ 6 j = 1)
/-- what it comes to -/
def RO1 (M : Nat) (κ ρ : Sg) (kd aa : Nat → Nat) : Prop := ∃ T hd ln pt P S, ST M κ ρ kd aa T hd ln pt P S ∧ NR M κ ρ
theorem goS' (hM : isM M) {L : Nat} (hi : IN κ ρ n kd aa zz bb L) (hnum : ∀ k, k < 8 → κ (M + 10 + 7 * k) 0 = nI k) {hc : Int32} (hh : HH hc hr) : ∃ κ' ρ', zf_X3_go M 6 (nI L) hc κ = some κ' ∧ zf_X10_runs (nI hr) ρ = some ρ' ∧ RO1 M κ' ρ' kd aa ∧ FC M κ κ' ∧ FR ρ ρ' ∧ ∃ c, c ≤ 600 ∧ ρ' 0 18 = nI c := by
  obtain ⟨hpc, hpr, w, hL, h9, hld⟩ := hi
  have hn := w.1
  have hml := M_lt hM
  have hm21 : 21 ≤ M := by rcases hM with rfl | rfl <;> decide
  -- the class's start
  obtain ⟨κ1, a1, a2, a3, a4, a5, a6⟩ := clearS M κ
  obtain ⟨κ2, b1, b2, b3⟩ := becomeS (M + 1) 6 κ1 (by omega) (by omega) (by omega)
  generalize hk3 : su (su (su (su (su (su κ2 M 4 hc) M 7 0) M 8 0) M 9 0) M 10 (-1)) M 6 0 = κ3
  have k3n : ∀ i, i ≠ M → κ3 i = κ2 i := fun i q => by rw [← hk3]; simp (disch := omega) only [su_ne]
  have hpc3 : PC κ3 n kd aa zz bb := hpc.fr (fun i q => by rw [k3n i (by omega), b2 i (by omega) (by omega), a2 i (by omega) (by omega) (by omega) (by omega)])
  have hmv := moveToC hM hpc3 w (q := 0) (by decide)
  generalize hk4 : mv M κ3 n 0 = κ4 at hmv
  have k4n : ∀ i, i ≠ M → κ4 i = κ2 i := fun i q => by rw [← hk4, mv_ne q, k3n i q]
  have k4M : ∀ i, i ≠ 5 → i ≠ 6 → κ4 M i = κ3 M i := fun i p q => by rw [← hk4, mv_M p q]
  -- the reference's start
  obtain ⟨y1, c1, c2, c3⟩ := copyR ρ
  obtain ⟨y2, d1, d2, d3⟩ := zeroR y1.2
  generalize hr3 : su (su (su (su (su (su (su (su (su (su y2.2 0 16 0) 0 17 0) 0 18 0) 0 19 0) 0 20 0) 0 25 0) 0 37 (-1)) 0 39 0) 0 44 0) 0 22 1 = ρ3
  have r3n : ∀ i, i ≠ 0 → ρ3 i = y2.2 i := fun i q => by rw [← hr3]; simp (disch := omega) only [su_ne]
  have fr3 : FR ρ ρ3 := by
    refine ⟨fun i p q => by rw [r3n i (by omega), d2 i (by omega) (by omega), c2 i (by omega) (by omega)], fun i q => ?_⟩
    rw [← c2 0 (by decide) (by decide), ← d2 0 (by decide) (by decide), ← hr3]
    exact (su_rf rfl (by omega) (su_rf rfl (by omega) (su_rf rfl (by omega) (su_rf rfl (by omega) (su_rf rfl (by omega) (su_rf rfl (by omega) (su_rf rfl (by omega) (su_rf rfl (by omega) (su_rf rfl (by omega) (su_rf rfl (by omega) rfl))))))))))
  have hpr3 : PR ρ3 n kd aa zz bb := hpr.fr fr3
  have fc4 : FC M κ κ4 := fun i q => by rw [k4n i (by omega), b2 i (by omega) (by omega), a2 i (by omega) (by omega) (by omega) (by omega)]
  have hpc4 : PC κ4 n kd aa zz bb := hpc.fr (fun i q => fc4 i (by omega))
  have e6 : κ4 M 6 = if 0 < n then 0 else 2 := by rw [← hk4, mv_6, ← hk3]; simp [su_ap]
  have hST : ST M κ4 ρ3 kd aa 0 (fun _ => 0) (fun _ => 1) (fun _ _ => 0) 0 0 := by
    refine ⟨⟨?_, ?_, ?_, ?_, ?_, ?_⟩, ?_, ?_, ⟨by decide, ?_, ?_, fun k hk => ?_, fun k hk => absurd hk (Nat.not_lt_zero k), fun k e hk => absurd hk (Nat.not_lt_zero k)⟩, fun k hk => absurd hk (Nat.not_lt_zero k), fun p hp => ⟨none, ?_, fun k hk => absurd hk (Nat.not_lt_zero k)⟩⟩
    · rw [← hk4]; exact mv_5
    · rw [← hr3]; simp [su_ap, nI_0]
    · rw [k4M 7 (by decide) (by decide), ← hk3, ← hr3]; simp [su_ap]
    · rw [k4M 8 (by decide) (by decide), ← hk3, ← hr3]; simp [su_ap]
    · rw [k4M 9 (by decide) (by decide), ← hk3, ← hr3]; simp [su_ap]
    · rw [k4n (M + 5) (by omega), b2 _ (by omega) (by omega), a5, ← hr3]; simp [su_ap]
    · intro j hj
      obtain ⟨l1, l2, l3⟩ := hld j hj
      have x1 := (b3 j hj).1
      have x2 := (b3 j hj).2
      rw [a2 7 (by omega) (by omega) (by omega) (by omega)] at x1
      rw [a2 8 (by omega) (by omega) (by omega) (by omega)] at x2
      rw [k4n (M + 2) (by omega), k4n (M + 3) (by omega), r3n 8 (by decide), r3n 9 (by decide), d2 8 (by decide) (by decide), d2 9 (by decide) (by decide), (c3 j hj).1, (c3 j hj).2]
      exact ⟨x1.trans l1, x2.trans l2, l3⟩
    · intro p hp
      rw [k4n (M + 7) (by omega), k4n (M + 8) (by omega), b2 (M + 7) (by omega) (by omega), b2 (M + 8) (by omega) (by omega), r3n 10 (by decide), r3n 11 (by decide), (a3 p hp).1, (a3 p hp).2.1, (d3 p hp).1, (d3 p hp).2]
      exact ⟨rfl, rfl, 0, 0, nI_0.symm, nI_0.symm, Nat.le_refl _, by decide⟩
    · rw [← hr3]; simp [su_ap, nI_0]
    · rw [k4n (M + 5) (by omega), b2 _ (by omega) (by omega), a4, nI_0]
    · rw [k4n _ (by omega), b2 _ (by omega) (by omega), a2 _ (by omega) (by omega) (by omega) (by omega)]
      exact hnum k hk
    · rw [k4n (M + 9) (by omega), b2 _ (by omega) (by omega)]
      exact (a3 p hp).2.2
  have hNR : NR M κ4 ρ3 := ⟨by rw [k4n _ (by omega), b2 _ (by omega) (by omega)]; exact a6, by rw [← hr3]; simp [su_ap]⟩
  have hNC : NC M κ4 ρ3 := ⟨by rw [k4M 10 (by decide) (by decide), ← hk3]; simp [su_ap], by rw [← hr3]; simp [su_ap]⟩
  have hHB : HB ρ3 hr 0 (fun _ => 0) none := fun p hp hp0 hp1 => by
    rw [r3n 10 (by decide), (d3 p hp).1] at hp1
    have : (0 : Int32).toInt = 0 := rfl
    omega
  obtain ⟨κ5, ρ5, x, S', i1, i2, i3, i4, i5, i6⟩ := runL (hr := hr) hM w hL L κ4 ρ3 0 0 _ _ _ 0 (by omega) hpc4 hpr3 (by rw [fr3.2 9 (by decide)]; exact h9) hST (Or.inr ⟨hNR, hHB, Or.inr hNC⟩) (by rw [k4M 4 (by decide) (by decide), ← hk3]; simp [su_ap]; exact hh) (fun _ => ⟨rfl, hNR.2⟩) (by rw [← hr3]; simp [su_ap]) (by decide) e6 (by rw [← hr3]; simp [su_ap]) (by rw [← hr3]; simp [su_ap, nI_0]) ⟨0, Nat.le_refl _, by rw [← hr3]; simp [su_ap, nI_0]⟩
  have eC : zf_X3_go M 6 (nI L) hc κ = obd (zf_X2_drop M κ5) (fun σ15 => some σ15) := by
    unfold zf_X3_go
    rw [a1, obd_some, b1, obd_some, hk3, letb_eq, show (0 : Int32) = nI 0 from rfl, hmv, i1 1000 (by omega), obd_some]
  have eR : zf_X10_runs (nI hr) ρ = if ρ5 0 39 = 0 then some ρ5 else zf_X10_lets ρ5 := by
    unfold zf_X10_runs zb_X10_runs_190
    rw [c1, obd_some, d1, obd_some, hr3, i2 1000 (by omega), obd_some]
    simp only [obd_id]
  rw [eC, eR, obd_id]
  obtain ⟨T, hd, ln, pt, P, f1, f2⟩ := i3
  rcases f2 with ⟨hN, m, f2⟩ | f2
  · rw [if_neg (by rw [f2.2.1]; decide)]
    obtain ⟨κ6, ρ6, g1, g2, g3, g4, g5, g6, g7, g8, g9, g10⟩ := dropS (hh := 0) hM f1 f2 (fun p _ q => absurd q (Nat.lt_irrefl 0))
    exact ⟨κ6, ρ6, g1, g2, ⟨T, hd, ln, pt, P, S', g3, g4⟩, (fc4.trans i4).trans g6.1, (fr3.trans i5).trans g7.1, by rw [g7.2.1 18 (by decide)]; exact i6⟩
  · rw [if_pos f2.2]
    refine ⟨κ5, ρ5, ?_, rfl, ⟨T, hd, ln, pt, P, S', f1, f2⟩, fc4.trans i4, fr3.trans i5, i6⟩
    unfold zf_X2_drop
    rw [if_pos f2.1]
theorem goS (hM : isM M) {L : Nat} (hi : IN κ ρ n kd aa zz bb L) (hnum : ∀ k, k < 8 → κ (M + 10 + 7 * k) 0 = nI k) {hc : Int32} (hh : HH hc hr) : ∃ κ' ρ', zf_X3_go M 6 (nI L) hc κ = some κ' ∧ zf_X10_runs (nI hr) ρ = some ρ' ∧ RO1 M κ' ρ' kd aa ∧ FC M κ κ' ∧ FR ρ ρ' := by
  obtain ⟨a, b, c, d, e, f, g, _⟩ := goS' hM hi hnum hh
  exact ⟨a, b, c, d, e, f, g⟩
end Go
