/-! how often a trace may be left at one point -/
def cn (q : Nat → Bool) : Nat → Nat
  | 0 => 0
  | n + 1 => cn q n + (if q n = true then 1 else 0)
theorem cn_le {p q : Nat → Bool} : ∀ T, (∀ k, k < T → p k = true → q k = true) → cn p T ≤ cn q T
  | 0, _ => Nat.le_refl _
  | n + 1, h => by
    have := cn_le n (fun k hk => h k (by omega))
    have h2 := h n (by omega)
    show cn p n + (if p n = true then 1 else 0) ≤ cn q n + (if q n = true then 1 else 0)
    split
    · rename_i c
      rw [if_pos (h2 c)]
      omega
    · omega
theorem cn_lt {p q : Nat → Bool} : ∀ T c, c < T → (∀ k, k < T → p k = true → q k = true) → p c = false → q c = true → cn p T < cn q T
  | 0, c, hc, _, _, _ => absurd hc (Nat.not_lt_zero c)
  | n + 1, c, hc, h, h1, h2 => by
    show cn p n + (if p n = true then 1 else 0) < cn q n + (if q n = true then 1 else 0)
    rcases Nat.lt_or_ge c n with z | z
    · have := cn_lt n c z (fun k hk => h k (by omega)) h1 h2
      have h3 := h n (by omega)
      split
      · rename_i d
        rw [if_pos (h3 d)]
        omega
      · omega
    · have e : c = n := by omega
      subst e
      have := cn_le c (fun k hk => h k (by omega))
      rw [h1, h2]
      simp
      omega
theorem cn_add {p q : Nat → Bool} : ∀ T, (∀ k, k < T → ¬ (p k = true ∧ q k = true)) → cn p T + cn q T ≤ T
  | 0, _ => Nat.le_refl _
  | n + 1, h => by
    have := cn_add n (fun k hk => h k (by omega))
    have h2 := h n (by omega)
    show cn p n + (if p n = true then 1 else 0) + (cn q n + (if q n = true then 1 else 0)) ≤ n + 1
    split <;> split
    · rename_i a b
      exact absurd ⟨a, b⟩ h2
    · omega
    · omega
    · omega
def mu (T : Nat) (hd : Nat → Nat) (P c : Nat) : Nat := cn (fun k => decide (c < k ∧ hd k = hd c)) T + (if hd c = P then 0 else cn (fun k => decide (hd k = P)) T) + 1
theorem mu_le {T : Nat} {hd : Nat → Nat} {P c : Nat} (hc : c < T) : mu T hd P c ≤ T := by
  have h1 : cn (fun k => decide (c < k ∧ hd k = hd c)) T < cn (fun k => decide (hd k = hd c)) T := cn_lt T c hc (fun k _ h => by simp at *; exact h.2) (by simp) (by simp)
  unfold mu
  by_cases z : hd c = P
  · rw [if_pos z]
    have := cn_add (p := fun k => decide (hd k = hd c)) (q := fun _ => false) T (fun k _ h => by simp at h)
    omega
  · rw [if_neg z]
    have := cn_add (p := fun k => decide (hd k = hd c)) (q := fun k => decide (hd k = P)) T (fun k _ h => by simp at h; exact z (h.1.symm.trans h.2))
    omega
theorem mu_lt {T : Nat} {hd : Nat → Nat} {P c c' : Nat} (hc : c' < T) (h : (c < c' ∧ hd c' = hd c) ∨ (hd c' = P ∧ hd c ≠ P)) : mu T hd P c' < mu T hd P c := by
  unfold mu
  rcases h with ⟨h1, h2⟩ | ⟨h1, h2⟩
  · rw [h2]
    have : cn (fun k => decide (c' < k ∧ hd k = hd c)) T < cn (fun k => decide (c < k ∧ hd k = hd c)) T := cn_lt T c' hc (fun k _ h => by simp at *; exact ⟨by omega, h.2⟩) (by simp) (by simp [h1, h2])
    omega
  · rw [if_pos h1, if_neg h2, h1]
    have : cn (fun k => decide (c' < k ∧ hd k = P)) T < cn (fun k => decide (hd k = P)) T := cn_lt T c' hc (fun k _ h => by simp at *; exact h.2) (by simp) (by simp [h1])
    omega
section Step
variable {M : Nat} {κ ρ κ' ρ' : Sg} {n : Nat} {kd aa zz : Nat → Nat} {bb : Nat → Int32} {T hr : Nat} {hd ln : Nat → Nat} {pt : Nat → Nat → Nat} {P P' S hN m : Nat}
theorem ST.frQ (h : ST M κ ρ kd aa T hd ln pt P S) (h1 : ∀ n, n ≠ 0 → ρ' n = ρ n) (h2 : ∀ i, 16 ≤ i → ρ' 0 i = ρ 0 i) : ST M κ ρ' kd aa T hd ln pt P S := by
  obtain ⟨s1, s2, s3, s4, s5, s6⟩ := h
  refine ⟨?_, ?_, ?_, s4.fr (fun _ _ _ => rfl) rfl (fun n a b => h1 n (by omega)) (h2 25 (by decide)), s5.fr (h1 _ (by decide)) (h1 _ (by decide)) (h1 _ (by decide)), s6.fr rfl (h1 _ (by decide))⟩
  · unfold SC at *
    rw [h2 16 (by decide), h2 17 (by decide), h2 18 (by decide), h2 19 (by decide), h2 20 (by decide)]
    exact s1
  · unfold RG at *
    rw [h1 8 (by decide), h1 9 (by decide)]
    exact s2
  · unfold HT at *
    rw [h1 10 (by decide), h1 11 (by decide)]
    exact s3
theorem RC.frQ (h : RC M κ ρ kd aa T hd ln pt P hN m) (h1 : ∀ n, n ≠ 0 → ρ' n = ρ n) (h2 : ∀ i, 16 ≤ i → ρ' 0 i = ρ 0 i) : RC M κ ρ' kd aa T hd ln pt P hN m := by
  unfold RC RCa EN at *
  rw [h1 11 (by decide), h1 17 (by decide), h1 18 (by decide), h1 19 (by decide), h1 20 (by decide), h1 21 (by decide), h1 22 (by decide), h2 39 (by decide), h2 40 (by decide), h2 41 (by decide), h2 42 (by decide), h2 43 (by decide)]
  exact h
/-- the state at the head of the run's loop -/
def MODE (M : Nat) (κ ρ : Sg) (kd aa : Nat → Nat) (hr T : Nat) (hd ln : Nat → Nat) (pt : Nat → Nat → Nat) (P : Nat) : Prop := (∃ hN m, RC M κ ρ kd aa T hd ln pt P hN m ∧ NC M κ ρ ∧ HB ρ hr T hd (some hN)) ∨ (NR M κ ρ ∧ HB ρ hr T hd none ∧ ((∃ c e, CU M κ ρ T ln pt P c e) ∨ NC M κ ρ))
/-- what one step comes to -/
def RES (M : Nat) (κ ρ κ' ρ' : Sg) (kd aa : Nat → Nat) (n hr T : Nat) (hd ln : Nat → Nat) (S : Nat) : Prop := FC M κ κ' ∧ FR ρ ρ' ∧ κ' M 4 = κ M 4 ∧ T17 ρ ρ' ∧ ρ' 0 44 = 0 ∧ ∃ pt' P', P' ≤ 24 ∧ ST M κ' ρ' kd aa T hd ln pt' P' (S + 1) ∧ (hr = 0 → ρ' 0 39 = 0) ∧
  ((((∃ hN m, RCa M κ' ρ' T hN m) ∨ NR M κ' ρ') ∧ κ' M 6 = 1 ∧ ρ' 0 22 = 0 ∧ ρ' 0 21 = 1) ∨ (MODE M κ' ρ' kd aa hr T hd ln pt' P' ∧ κ' M 6 = (if P' < n then κ M 6 else 2) ∧ ρ' 0 22 = ρ 0 22))
def RUN (a1 : Int32) (N : Nat) (ρ : Sg) : Option (Bool × Sg) := obd (zb_X10_step_62 a1 ρ) (fun y => if y.1 = true then lp (zl_X10_step_2 a1) N y.2 else some y.2)
theorem lp_none {X : Type} {body : X → Option (Bool × X)} {n : Nat} {x : X} (h : body x = none) : lp body (n + 1) x = none := by unfold lp; rw [h]
theorem lp_RUN {a1 : Int32} {N : Nat} {ρ0 ρ : Sg} (h : zl_X10_step_2 a1 (false, ρ0) = zb_X10_step_62 a1 ρ) : lp (zl_X10_step_2 a1) (N + 1) (false, ρ0) = RUN a1 N ρ := by
  unfold RUN
  rw [← h]
  cases hx : zl_X10_step_2 a1 (false, ρ0) with
  | none => rw [lp_none hx]; rfl
  | some y =>
    obtain ⟨b, z⟩ := y
    cases b with
    | true => rw [lp_true hx]; rfl
    | false => rw [lp_false hx]; rfl
theorem lp_done {a1 : Int32} {N : Nat} {ρ : Sg} : lp (zl_X10_step_2 a1) (N + 1) (true, ρ) = some (true, ρ) := lp_false (if_pos rfl)
theorem EC.fr (h : EC M κ ρ kd zz bb P) (w : PW n kd aa zz) (hp : P < 24) (h4 : κ' (M + 4) = κ (M + 4)) (h8 : ∀ j, j < 8 → ρ' 8 j = ρ 8 j) (h9 : ∀ j, j < 8 → ρ' 9 j = ρ 9 j) : EC M κ' ρ' kd zz bb P := by
  have hy := yy_lt bb P
  have hz := (w.2 P hp).2.2
  unfold EC ew eo ej at *
  rw [h4, h8 _ hy, h8 _ hz, h9 _ hy, h9 _ hz]
  exact h
theorem ew_fr (h8 : ρ' 8 = ρ 8) (h9 : ρ' 9 = ρ 9) : ew ρ' kd zz bb P = ew ρ kd zz bb P := by unfold ew eo ej; rw [h8, h9]
theorem goesPlain_eq (a1 : Int32) {ρ2 : Sg} (hP : ρ 0 16 = nI P) (h : zf_X10_prepares (nI P) ρ = some ρ2) : zf_X10_goesPlain a1 ρ = if ρ2 0 39 = 0 then zb_X10_goesPlain_21 a1 (nI P) ρ2 else obd (zf_X10_notes ρ2) (fun σ5 => zb_X10_goesPlain_21 a1 (nI P) σ5) := by
  unfold zf_X10_goesPlain
  rw [letb_eq, hP, h, obd_some]
theorem readyNC (hM : isM M) (w : PW n kd aa zz) (hPn : P < n) (hS6 : S < 1000) {i : Nat} (hpc : PC κ n kd aa zz bb) (hpr : PR ρ n kd aa zz bb) (hc : EC M κ ρ kd zz bb P) (hs : ST M κ ρ kd aa T hd ln pt P S) (hm : (∃ hN m, RC M κ ρ kd aa T hd ln pt P hN m ∧ NC M κ ρ ∧ m < 16 ∧ HB ρ hr T hd (some hN)) ∨ (NR M κ ρ ∧ HB ρ hr T hd none ∧ NC M κ ρ)) (hh : HH (κ M 4) hr) (hz : hr = 0 → ρ 0 39 = 0) :
    ∃ κ1 j κ' ρ', (∀ N, 0 < N → lp (zl_X3_getReady_39 M) N (nI i, κ) = some (j, κ1)) ∧ zf_X3_doStep M κ1 = some κ' ∧ (∀ N, 0 < N → RUN (nI hr) N ρ = some (true, ρ')) ∧ RES M κ ρ κ' ρ' kd aa n hr T hd ln S := by
  have hn := w.1
  have hp : P < 24 := by omega
  have hNC : NC M κ ρ := by
    rcases hm with ⟨_, _, _, h, _⟩ | ⟨_, _, h⟩ <;> exact h
  have hkv : KV ρ := fun j hj => (hs.2.1 j hj).2.2
  obtain ⟨ρ2, p1, p2, p3, p4⟩ := preparesS hpr w hkv hp
  have p4' : ∀ i, 16 ≤ i → ρ2 0 i = ρ 0 i := fun i hi => p4 i (by omega) (by omega) (by omega)
  have fr2 : FR ρ ρ2 := ⟨fun i a b => p3 i (by omega), fun i hi => p4 i (by omega) (by omega) (by omega)⟩
  have hs2 := hs.frQ p3 p4'
  have hc2 : EC M κ ρ2 kd zz bb P := hc.fr w hp rfl (fun j _ => by rw [p3 8 (by decide)]) (fun j _ => by rw [p3 9 (by decide)])
  have hNC2 : NC M κ ρ2 := ⟨hNC.1, by rw [p4' 37 (by decide)]; exact hNC.2⟩
  have gl : ∀ N, 0 < N → lp (zl_X3_getReady_39 M) N (nI i, κ) = some (nI i, κ) := by
    intro N hN
    obtain ⟨k, rfl⟩ : ∃ k, N = k + 1 := ⟨N - 1, by omega⟩
    apply lp_false
    unfold zl_X3_getReady_39
    split
    · rfl
    · rw [if_pos hNC.1]
  have key : ∃ κ' ρ', zf_X3_doStep M κ = some κ' ∧ zf_X10_goesPlain (nI hr) ρ = some ρ' ∧ RES M κ ρ κ' ρ' kd aa n hr T hd ln S := by
    rw [goesPlain_eq (nI hr) hs.1.2.1 p1]
    rcases hm with ⟨hN, m, h1, _, h2, h3⟩ | ⟨h1, h2, _⟩
    · have h1' := h1.frQ p3 p4'
      have hrn0 : hr ≠ 0 := fun q => by have := hz q; rw [h1.1.2.1] at this; exact absurd this (by decide)
      rw [if_neg (by rw [h1'.1.2.1]; decide)]
      obtain ⟨κ', ρ', e1, e2, e3, e4, e5, e6, e7, e8⟩ := recS hM hpc (hpr.fr fr2) w hPn hs2 h1' hNC2 h2 (h3.fr (p3 10 (by decide)) (p3 11 (by decide)) (p3 13 (by decide))) hc2 p2 (nI hr)
      refine ⟨κ', ρ', e1, e2, e3, fr2.trans e4, e5, by unfold T17 at *; rw [← p4' 17 (by decide), ← p4' 18 (by decide)]; exact e6, e7, ?_⟩
      rcases e8 with ⟨f1, f2, f3, f4, f5⟩ | ⟨P', f1, f2, f3, f4, f5, f6⟩
      · exact ⟨_, P, by omega, f1, fun q => absurd q hrn0, Or.inl ⟨Or.inl ⟨_, _, f2⟩, f3, f4, f5⟩⟩
      · refine ⟨_, P', f1, f2, fun q => absurd q hrn0, Or.inr ⟨?_, f5, by rw [f6, p4' 22 (by decide)]⟩⟩
        rcases f4 with ⟨g1, g2⟩ | ⟨g1, g2⟩
        · exact Or.inl ⟨_, _, g1, f3, g2⟩
        · exact Or.inr ⟨g1, g2, Or.inr f3⟩
    · have h1' : NR M κ ρ2 := ⟨h1.1, by rw [p4' 39 (by decide)]; exact h1.2⟩
      rw [if_pos h1'.2]
      obtain ⟨κ', ρ', e1, e2, e3, e4, e5, e6, e7, e8⟩ := plainS hM hpc (hpr.fr fr2) w hPn hs2 hS6 h1' hNC2 (h2.fr (p3 10 (by decide)) (p3 11 (by decide)) (p3 13 (by decide))) hh hc2 p2
      refine ⟨κ', ρ', e1, e2, e3, fr2.trans e4, e5, by unfold T17 at *; rw [← p4' 17 (by decide), ← p4' 18 (by decide)]; exact e6, e7, ?_⟩
      rcases e8 with ⟨f1, f2, f3, f4, f5⟩ | ⟨P', f1, f2, f3, f4, f5, f6⟩
      · exact ⟨_, P, by omega, f1, fun _ => f2.2, Or.inl ⟨Or.inr f2, f3, f4, f5⟩⟩
      · refine ⟨_, P', f1, f2, ?_, Or.inr ⟨?_, f5, by rw [f6, p4' 22 (by decide)]⟩⟩
        · intro q
          rcases f4 with ⟨g1, g2, g3⟩ | ⟨g1, g2⟩
          · exact absurd q g3
          · exact g1.2
        · rcases f4 with ⟨g1, g2, g3⟩ | ⟨g1, g2⟩
          · exact Or.inl ⟨_, _, g1, f3, g2⟩
          · exact Or.inr ⟨g1, g2, Or.inr f3⟩
  obtain ⟨κ', ρ', e1, e2, e3⟩ := key
  refine ⟨κ, nI i, κ', ρ', gl, e1, fun N hN => ?_, e3⟩
  obtain ⟨k, rfl⟩ : ∃ k, N = k + 1 := ⟨N - 1, by omega⟩
  unfold RUN zb_X10_step_62 zb_X10_step_117
  rw [if_pos hNC.2, e2, obd_some, obd_some, if_pos rfl]
  exact lp_done
theorem readyS (hM : isM M) (w : PW n kd aa zz) (hPn : P < n) (hS6 : S < 1000) : ∀ (u : Nat) (κ ρ : Sg) (i : Nat), PC κ n kd aa zz bb → PR ρ n kd aa zz bb → EC M κ ρ kd zz bb P → SET M κ ρ kd aa hr T hd ln pt P S → HH (κ M 4) hr → (hr = 0 → T = 0 ∧ ρ 0 39 = 0) → (ρ 0 44 = 0 ∨ NC M κ ρ) → (∀ c e, CU M κ ρ T ln pt P c e → i + mu T hd P c ≤ 8 ∧ mu T hd P c ≤ u) →
    ∃ κ1 j κ' ρ', (∀ N, u < N → lp (zl_X3_getReady_39 M) N (nI i, κ) = some (j, κ1)) ∧ zf_X3_doStep M κ1 = some κ' ∧ (∀ N, u < N → RUN (nI hr) N ρ = some (true, ρ')) ∧ RES M κ ρ κ' ρ' kd aa n hr T hd ln S := by
  have hn := w.1
  have hp : P < 24 := by omega
  have hml := M_lt hM
  have hm21 : 21 ≤ M := by rcases hM with rfl | rfl <;> decide
  intro u
  induction u with
  | zero =>
    intro κ ρ i hpc hpr hc hs hh hz h44 hmu
    obtain ⟨s, hm⟩ := hs
    refine readyNC hM w hPn hS6 hpc hpr hc s ?_ hh (fun q => (hz q).2)
    rcases hm with h | ⟨h1, h2, ⟨c, e, h3⟩ | h3⟩
    · exact Or.inl h
    · have := (hmu c e h3).2
      unfold mu at this
      omega
    · exact Or.inr ⟨h1, h2, h3⟩
  | succ u ih =>
    intro κ ρ i hpc hpr hc hs hh hz h44 hmu
    have hs' := hs
    obtain ⟨s, hm⟩ := hs'
    rcases hm with h | ⟨h1, h2, ⟨c, e, h3⟩ | h3⟩
    · obtain ⟨κ1, j, κ', ρ', a, b, c, d⟩ := readyNC (i := i) hM w hPn hS6 hpc hpr hc s (Or.inl h) hh (fun q => (hz q).2)
      exact ⟨κ1, j, κ', ρ', fun N hN => a N (by omega), b, fun N hN => c N (by omega), d⟩
    · obtain ⟨m1, m2⟩ := hmu c e h3
      have hmu1 : 1 ≤ mu T hd P c := by unfold mu; omega
      have h3' := h3
      obtain ⟨c1, c2, c3, c4, c5, c6, c7⟩ := h3'
      have t8 := s.2.2.2.1.1
      have hT : hr ≠ 0 := fun q => by have := (hz q).1; omega
      have hhn : κ M 4 = nI hr := by rcases hh with h | h; exact h.1; exact absurd h.1 hT
      have r44 : ρ 0 44 = 0 := by
        rcases h44 with h | h
        · exact h
        · have := h.1; rw [c3] at this; exact absurd this (nI_ne_neg (by omega))
      have hl16 := (s.2.2.2.1.2.2.2.2.1 c c1).2.2.1
      have hEN := s.2.2.2.1.2.2.2.2.2 c e c1 c2
      rw [c7] at hEN
      have hkv : KV ρ := fun j hj => (s.2.1 j hj).2.2
      obtain ⟨ρ2, p1, p2, p3, p4⟩ := preparesS hpr w hkv hp
      have p4' : ∀ i, 16 ≤ i → ρ2 0 i = ρ 0 i := fun i hi => p4 i (by omega) (by omega) (by omega)
      have fr2 : FR ρ ρ2 := ⟨fun i a b => p3 i (by omega), fun i hi => p4 i (by omega) (by omega) (by omega)⟩
      have hs2 := s.frQ p3 p4'
      have hc2 : EC M κ ρ2 kd zz bb P := hc.fr w hp rfl (fun j _ => by rw [p3 8 (by decide)]) (fun j _ => by rw [p3 9 (by decide)])
      have h1' : NR M κ ρ2 := ⟨h1.1, by rw [p4' 39 (by decide)]; exact h1.2⟩
      have hCU2 : CU M κ ρ2 T ln pt P c e := ⟨c1, c2, c3, by rw [p4' 37 (by decide)]; exact c4, c5, by rw [p4' 38 (by decide)]; exact c6, c7⟩
      have hHB2 := h2.fr (ρ' := ρ2) (p3 10 (by decide)) (p3 11 (by decide)) (p3 13 (by decide))
      have hEN2 : EN M κ ρ2 c e P := by
        unfold EN at *
        rw [p3 17 (by decide), p3 18 (by decide), p3 19 (by decide), p3 20 (by decide), p3 21 (by decide), p3 22 (by decide)]
        exact hEN
      have fC := failsC hpc w hEN2 (by omega)
      rw [hc2.1, hc2.2.1, hc2.2.2.1] at fC
      have fR := failsR (c := c) (e := e) (hpr.fr fr2) w hp hs2.1.2.1 hCU2.2.2.2.1 (by omega) hCU2.2.2.2.2.2.1 (by omega) p2.1 p2.2.2
      have hgl : ∀ _ : Nat, zl_X3_getReady_39 M (nI i, κ) = if flv (kd P) (ρ2 18 (16 * c + e)) (ρ2 19 (16 * c + e)) (ρ2 20 (16 * c + e)) (ρ2 8 (yy bb P)) (ρ2 8 (zz P)) (ew ρ2 kd zz bb P) = true then obd (zf_X3_leave M κ) (fun σ14 => some (true, (nI (i + 1), σ14))) else some (false, (nI i, κ)) := by
        intro N
        unfold zl_X3_getReady_39
        simp only []
        rw [if_neg (show ¬ (8 : Int32) ≤ nI i from nI_ge (a := i) (b := 8) (by omega) (by decide)), c3, if_neg (nI_ne_neg (by omega)), tk_nI (isTr_k hM (by omega)), nI_clamp (show M + 10 + 7 * c < 2 ^ 31 by omega), c5, fC, obd_some, nI_1]
      have hrun : ∀ N, RUN (nI hr) N ρ = if flv (kd P) (ρ2 18 (16 * c + e)) (ρ2 19 (16 * c + e)) (ρ2 20 (16 * c + e)) (ρ2 8 (yy bb P)) (ρ2 8 (zz P)) (ew ρ2 kd zz bb P) = true then obd (zf_X10_leaves (nI hr) ρ2) (fun σ22 => lp (zl_X10_step_2 (nI hr)) N (false, σ22)) else obd (zf_X10_goesCompiled ρ2) (fun σ24 => lp (zl_X10_step_2 (nI hr)) N (true, σ24)) := by
        intro N
        unfold RUN zb_X10_step_62 zb_X10_step_100 zb_X10_step_117
        rw [if_neg (by rw [c4]; exact nI_ne_neg (by omega)), s.1.2.1, p1, obd_some, fR, obd_some]
        unfold ew
        split
        · rw [if_neg (by decide), obd_obd]
          congr 1
        · rw [if_pos rfl, obd_obd]
          congr 1
      cases hf : flv (kd P) (ρ2 18 (16 * c + e)) (ρ2 19 (16 * c + e)) (ρ2 20 (16 * c + e)) (ρ2 8 (yy bb P)) (ρ2 8 (zz P)) (ew ρ2 kd zz bb P) with
      | true =>
        obtain ⟨κa, ρ1, ρa, l1, l2, l3, l4, l5, l6, l7⟩ := leaveS hM hs2 hp h1' hCU2 hHB2 (by rw [p4' 44 (by decide)]; exact r44) hhn
        have hpca : PC κa n kd aa zz bb := hpc.fr (fun j hj => l5.1 j (by omega))
        have hpra : PR ρa n kd aa zz bb := (hpr.fr fr2).fr l6.1
        have hg := l4.1.2.1
        have hca : EC M κa ρa kd zz bb P := hc2.fr w hp (l5.2.1 _ (by omega) (by omega)) (fun j hj => by rw [← (hg j hj).1, ← (hs2.2.1 j hj).1, l5.2.1 _ (by omega) (by omega)]) (fun j hj => by rw [← (hg j hj).2.1, ← (hs2.2.1 j hj).2.1, l5.2.1 _ (by omega) (by omega)])
        have hseta : SET M κa ρa kd aa hr T hd ln pt P S := by
          obtain ⟨q1, q2 | ⟨q3, q4, ⟨c', e', q5, _⟩ | q5⟩⟩ := l4
          · exact ⟨q1, Or.inl q2⟩
          · exact ⟨q1, Or.inr ⟨q3, q4, Or.inl ⟨c', e', q5⟩⟩⟩
          · exact ⟨q1, Or.inr ⟨q3, q4, Or.inr q5⟩⟩
        have hmua : ∀ c' e', CU M κa ρa T ln pt P c' e' → (i + 1) + mu T hd P c' ≤ 8 ∧ mu T hd P c' ≤ u := by
          intro c' e' hc'
          obtain ⟨q1, ⟨_, _, _, q2, _⟩ | ⟨q3, q4, ⟨c0, e0, q5, q6⟩ | q5⟩⟩ := l4
          · have := q2.1; rw [hc'.2.2.1] at this; exact absurd this (nI_ne_neg (by have := hc'.1; omega))
          · have e1 : c' = c0 := by
              have := hc'.2.2.1.symm.trans q5.2.2.1
              have := nI_inj (by have := hc'.1; omega) (by have := q5.1; omega) this
              omega
            subst e1
            have := mu_lt (P := P) hc'.1 q6
            omega
          · have := q5.1; rw [hc'.2.2.1] at this; exact absurd this (nI_ne_neg (by have := hc'.1; omega))
        obtain ⟨κ1, j, κ', ρ', i1, i2, i3, i4⟩ := ih κa ρa (i + 1) hpca hpra hca hseta (by rw [l5.2.2 4 (by decide)]; exact hh) (fun q => absurd q hT) l7 hmua
        refine ⟨κ1, j, κ', ρ', fun N hN => ?_, i2, fun N hN => ?_, ?_⟩
        · obtain ⟨k, rfl⟩ : ∃ k, N = k + 1 := ⟨N - 1, by omega⟩
          rw [lp_true (y := (nI (i + 1), κa)) (by rw [hgl 0, if_pos hf, l1, obd_some])]
          exact i1 k (by omega)
        · obtain ⟨k, rfl⟩ : ∃ k, N = k + 1 := ⟨N - 1, by omega⟩
          rw [hrun, if_pos hf, l2, obd_some, lp_RUN l3]
          exact i3 k (by omega)
        · obtain ⟨v1, v2, v3, v4, v5, pt', P', v6, v7, v8, v9⟩ := i4
          refine ⟨l5.1.trans v1, (fr2.trans l6.1).trans v2, by rw [v3, l5.2.2 4 (by decide)], by unfold T17 at *; rw [← p4' 17 (by decide), ← p4' 18 (by decide), ← l6.2.1 17 (by decide) (by decide), ← l6.2.1 18 (by decide) (by decide)]; exact v4, v5, pt', P', v6, v7, v8, ?_⟩
          rcases v9 with x | ⟨x1, x2, x3⟩
          · exact Or.inl x
          · exact Or.inr ⟨x1, by rw [x2, l5.2.2 6 (by decide)], by rw [x3, l6.2.2, p4' 22 (by decide)]⟩
      | false =>
        have hwy : ρ2 20 (16 * c + e) = ew ρ2 kd zz bb P := by
          unfold flv at hf
          simp at hf
          exact hf.2
        obtain ⟨κ', ρ', P', e1, e2, e3, e4, e5, e6, e7, e8, e9, e10, e11, e12, e13, e14⟩ := compiledS hM hpc (hpr.fr fr2) w hPn hs2 h1' hCU2 hHB2 hc2 p2 hwy
        refine ⟨κ, nI i, κ', ρ', fun N hN => ?_, e1, fun N hN => ?_, ?_⟩
        · obtain ⟨k, rfl⟩ : ∃ k, N = k + 1 := ⟨N - 1, by omega⟩
          apply lp_false
          rw [hgl 0, hf, if_neg (by decide)]
        · obtain ⟨k, rfl⟩ : ∃ k, N = k + 1 := ⟨N - 1, by omega⟩
          rw [hrun, hf, if_neg (by decide), e2, obd_some]
          exact lp_done
        · exact ⟨e13, fr2.trans e14, e9, by unfold T17 at *; rw [← p4' 17 (by decide), ← p4' 18 (by decide)]; exact e12, by rw [e11, p4' 44 (by decide)]; exact r44, pt, P', e7, e3, fun q => absurd q hT, Or.inr ⟨Or.inr ⟨e4, e5, Or.inl e6⟩, e8, by rw [e10, p4' 22 (by decide)]⟩⟩
    · obtain ⟨κ1, j, κ', ρ', a, b, c, d⟩ := readyNC (i := i) hM w hPn hS6 hpc hpr hc s (Or.inr ⟨h1, h2, h3⟩) hh (fun q => (hz q).2)
      exact ⟨κ1, j, κ', ρ', fun N hN => a N (by omega), b, fun N hN => c N (by omega), d⟩
end Step
