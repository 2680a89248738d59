/-! what class and reference hold alike between calls -/
def NUM (κ : Sg) : Prop := ∀ k, k < 8 → κ (21 + 10 + 7 * k) 0 = nI k ∧ κ (87 + 10 + 7 * k) 0 = nI k
def SAM (κ0 κ : Sg) : Prop := ∀ i, 1 ≤ i → i ≤ 8 → κ0 i = κ i
def SH1 (κ ρ : Sg) (s : Nat) : Prop := (κ (13 + 2 * s) 1 = -1 ∧ ρ 1 s = -1) ∨ ∃ f z, f ≤ 2 ∧ z ≤ 60 ∧ κ (13 + 2 * s) 1 = nI f ∧ ρ 1 s = nI f ∧ κ (13 + 2 * s) 2 = nI z ∧ ρ 2 s = nI z ∧ ∀ i, i < z → κ (13 + 2 * s + 1) i = ρ 3 (60 * s + i)
def SHR (κ ρ : Sg) : Prop := κ 0 8 = ρ 0 4 ∧ ∀ s, s < 4 → SH1 κ ρ s
def F1 (κ : Sg) : Prop := κ 0 9 = 0 ∨ ∃ κ0 κ1, SAM κ0 κ ∧ NUM κ0 ∧ zf_X3_go 21 6 (κ 0 6) (κ 0 7) κ0 = some κ1 ∧ ∀ i, 21 ≤ i → i < 87 → κ i = κ1 i
def F2 (κ : Sg) : Prop := κ 0 10 = 0 ∨ ∃ κ0 κ1, SAM κ0 κ ∧ NUM κ0 ∧ zf_X3_go 87 6 (κ 0 6) 2147483647 κ0 = some κ1 ∧ ∀ j, j < 8 → κ 10 j = κ1 89 j ∧ κ 11 j = κ1 90 j
/-- the best of the first k candidates, from 2 on -/
def bst (C : Nat → Int32) : Nat → Int32 × Int32
  | 0 => (2, 0)
  | k + 1 => if C (k + 2) ≤ (bst C k).2 then bst C k else (nI (k + 2), C (k + 2))
def F3 (κ : Sg) : Prop := κ 0 11 = 0 ∨ ∃ C : Nat → Int32, (∀ v, 2 ≤ v → v ≤ 9 → ∃ κ0 κ1, SAM κ0 κ ∧ NUM κ0 ∧ zf_X3_go 87 6 (κ 0 6) (nI v) κ0 = some κ1 ∧ κ1 87 8 = C v) ∧ κ 0 12 = (bst C 8).1 ∧ κ 0 13 = (bst C 8).2
def Rel (κ ρ : Sg) : Prop := (∃ n kd aa zz bb L hr, IN κ ρ n kd aa zz bb L ∧ κ 0 6 = nI L ∧ 2 ≤ hr ∧ hr ≤ 9 ∧ κ 0 7 = nI hr ∧ ρ 0 10 = nI hr) ∧ NUM κ ∧ SHR κ ρ ∧ F1 κ ∧ F2 κ ∧ F3 κ
section Rel
variable {κ ρ κ' ρ' : Sg} {M n : Nat} {kd aa zz : Nat → Nat} {bb : Nat → Int32} {T hr L : Nat} {hd ln : Nat → Nat} {pt : Nat → Nat → Nat} {P S : Nat}
theorem IN.fr (h : IN κ ρ n kd aa zz bb L) (h1 : SAM κ' κ) (h2 : FR ρ ρ') : IN κ' ρ' n kd aa zz bb L := by
  obtain ⟨a, b, c, d, e, f⟩ := h
  refine ⟨?_, b.fr h2, c, d, by rw [h2.2 9 (by decide)]; exact e, fun j hj => ?_⟩
  · unfold PC at *
    rw [h1 1 (by decide) (by decide), h1 2 (by decide) (by decide), h1 3 (by decide) (by decide), h1 4 (by decide) (by decide), h1 5 (by decide) (by decide)]
    exact a
  · rw [h1 7 (by decide) (by decide), h1 8 (by decide) (by decide), h2.1 6 (by decide) (by decide), h2.1 7 (by decide) (by decide)]
    exact f j hj
theorem SHR.fr (h : SHR κ ρ) (h1 : ∀ i, 13 ≤ i → i ≤ 20 → κ' i = κ i) (h2 : κ' 0 8 = κ 0 8) (h3 : FR ρ ρ') : SHR κ' ρ' := by
  refine ⟨by rw [h2, h3.2 4 (by decide)]; exact h.1, fun s hs => ?_⟩
  have := h.2 s hs
  unfold SH1 at *
  rw [h1 _ (by omega) (by omega), h1 (13 + 2 * s + 1) (by omega) (by omega), h3.1 1 (by decide) (by decide), h3.1 2 (by decide) (by decide), h3.1 3 (by decide) (by decide)]
  exact this
/-- a change that leaves what runs are made of, and what is kept of them -/
def KK (κ κ' : Sg) : Prop := (∀ i, 1 ≤ i → i ≤ 11 ∨ 21 ≤ i → κ' i = κ i) ∧ ∀ j, j ≠ 8 → κ' 0 j = κ 0 j
theorem KK.sam (h : KK κ κ') : SAM κ' κ := fun i a b => h.1 i a (by omega)
theorem SAM.symm (h : SAM κ κ') : SAM κ' κ := fun i a b => (h i a b).symm
theorem SAM.trans {κ'' : Sg} (h : SAM κ κ') (k : SAM κ' κ'') : SAM κ κ'' := fun i a b => (h i a b).trans (k i a b)
theorem F1.fr (h : F1 κ) (k : KK κ κ') : F1 κ' := by
  rcases h with h | ⟨κ0, κ1, a, b, c, d⟩
  · exact Or.inl (by rw [k.2 9 (by decide)]; exact h)
  · exact Or.inr ⟨κ0, κ1, a.trans k.sam.symm, b, by rw [k.2 6 (by decide), k.2 7 (by decide)]; exact c, fun i x y => by rw [k.1 i (by omega) (by omega)]; exact d i x y⟩
theorem F2.fr (h : F2 κ) (k : KK κ κ') : F2 κ' := by
  rcases h with h | ⟨κ0, κ1, a, b, c, d⟩
  · exact Or.inl (by rw [k.2 10 (by decide)]; exact h)
  · exact Or.inr ⟨κ0, κ1, a.trans k.sam.symm, b, by rw [k.2 6 (by decide)]; exact c, fun j hj => by rw [k.1 10 (by decide) (by decide), k.1 11 (by decide) (by decide)]; exact d j hj⟩
theorem F3.fr (h : F3 κ) (k : KK κ κ') : F3 κ' := by
  rcases h with h | ⟨C, a, b, c⟩
  · exact Or.inl (by rw [k.2 11 (by decide)]; exact h)
  · refine Or.inr ⟨C, fun v x y => ?_, by rw [k.2 12 (by decide)]; exact b, by rw [k.2 13 (by decide)]; exact c⟩
    obtain ⟨κ0, κ1, p, q, r, s⟩ := a v x y
    exact ⟨κ0, κ1, p.trans k.sam.symm, q, by rw [k.2 6 (by decide)]; exact r, s⟩
theorem NUM.fr (h : NUM κ) (k : ∀ i, 21 ≤ i → i < 153 → κ' i 0 = κ i 0) : NUM κ' := fun j hj => by rw [k _ (by omega) (by omega), k _ (by omega) (by omega)]; exact h j hj
/-- sheets change, the rest stays -/
theorem Rel.sh (h : Rel κ ρ) (k : KK κ κ') (r5 : ρ' 5 = ρ 5) (r6 : ρ' 6 = ρ 6) (r7 : ρ' 7 = ρ 7) (r0 : ∀ i, i ≠ 4 → ρ' 0 i = ρ 0 i) (hs : SHR κ' ρ') : Rel κ' ρ' := by
  obtain ⟨⟨n, kd, aa, zz, bb, L, hr, a, b, c, d, e, f⟩, g, _, i, j, l⟩ := h
  refine ⟨⟨n, kd, aa, zz, bb, L, hr, ?_, by rw [k.2 6 (by decide)]; exact b, c, d, by rw [k.2 7 (by decide)]; exact e, by rw [r0 10 (by decide)]; exact f⟩, g.fr (fun i x y => by rw [k.1 i (by omega) (by omega)]), hs, i.fr k, j.fr k, l.fr k⟩
  obtain ⟨a1, a2, a3, a4, a5, a6⟩ := a
  refine ⟨?_, ?_, a3, a4, by rw [r0 9 (by decide)]; exact a5, fun j hj => ?_⟩
  · unfold PC at *
    rw [k.sam 1 (by decide) (by decide), k.sam 2 (by decide) (by decide), k.sam 3 (by decide) (by decide), k.sam 4 (by decide) (by decide), k.sam 5 (by decide) (by decide)]
    exact a1
  · unfold PR at *
    rw [r5, r0 5 (by decide)]
    exact a2
  · rw [k.sam 7 (by decide) (by decide), k.sam 8 (by decide) (by decide), r6, r7]
    exact a6 j hj
theorem Rel.fr (h : Rel κ ρ) (k : FR ρ ρ') : Rel κ ρ' := by
  obtain ⟨⟨n, kd, aa, zz, bb, L, hr, a, b, c, d, e, f⟩, g, s, i, j, l⟩ := h
  exact ⟨⟨n, kd, aa, zz, bb, L, hr, a.fr (fun _ _ _ => rfl) k, b, c, d, e, by rw [k.2 10 (by decide)]; exact f⟩, g, s.fr (fun _ _ _ => rfl) rfl k, i, j, l⟩
theorem ST.frB (h : ST M κ ρ kd aa T hd ln pt P S) (h1 : ∀ i, M ≤ i → i < M + 66 → κ' i = κ i) : ST M κ' ρ kd aa T hd ln pt P S := by
  obtain ⟨s1, s2, s3, s4, s5, s6⟩ := h
  refine ⟨?_, ?_, ?_, s4.fr (fun i a b => h1 i (by omega) (by omega)) (by rw [h1 (M + 5) (by omega) (by omega)]) (fun _ _ _ => rfl) rfl, s5, s6.fr (h1 _ (by omega) (by omega)) rfl⟩
  · unfold SC at *
    rw [h1 M (by omega) (by omega), h1 (M + 5) (by omega) (by omega)]
    exact s1
  · unfold RG at *
    rw [h1 (M + 2) (by omega) (by omega), h1 (M + 3) (by omega) (by omega)]
    exact s2
  · unfold HT at *
    rw [h1 (M + 7) (by omega) (by omega), h1 (M + 8) (by omega) (by omega)]
    exact s3
/-- behind a run that is up to date -/
def FRE (κ ρ : Sg) : Prop := ∃ n kd aa zz bb T hd ln pt P S, PC κ n kd aa zz bb ∧ PR ρ n kd aa zz bb ∧ PW n kd aa zz ∧ ST 21 κ ρ kd aa T hd ln pt P S ∧ NR 21 κ ρ
theorem su9 (κ : Sg) (j : Nat) (v : Int32) : (∀ i, i ≠ 0 → su κ 0 j v i = κ i) ∧ (∀ i, i ≠ j → su κ 0 j v 0 i = κ 0 i) ∧ su κ 0 j v 0 j = v := ⟨fun i hi => su_ne κ hi, fun i hi => by rw [su_ap, if_pos rfl, if_neg hi], su_hit rfl⟩
theorem refreshRunS (h : Rel κ ρ) : ∃ κ' ρ', zf_X9_refreshRun κ = some κ' ∧ zf_X10_runs (ρ 0 10) ρ = some ρ' ∧ Rel κ' ρ' ∧ FRE κ' ρ' ∧ FR ρ ρ' ∧ (∀ i, 1 ≤ i → i < 21 → κ' i = κ i) ∧ (∀ j, j ≠ 9 → κ' 0 j = κ 0 j) ∧ κ' 0 9 ≠ 0 := by
  have h' := h
  obtain ⟨⟨n, kd, aa, zz, bb, L, hr, a, b, c, d, e, f⟩, g, s, i, j, l⟩ := h'
  unfold zf_X9_refreshRun zb_X9_refreshRun_31
  rw [f]
  by_cases q : κ 0 9 = 0
  · rw [if_pos q, b, e]
    obtain ⟨κ1, ρ1, x1, x2, ⟨T, hd, ln, pt, P, S, x3, x3'⟩, x4, x5⟩ := goS (hr := hr) (M := 21) (hc := nI hr) isM_21 a (fun k hk => (g k hk).1) (Or.inl ⟨rfl, c, d⟩)
    rw [x1, x2, obd_some]
    obtain ⟨u1, u2, u3⟩ := su9 κ1 9 1
    have hs : SAM (su κ1 0 9 1) κ := fun i p q => by rw [u1 i (by omega), x4 i (by omega)]
    have k0 : ∀ j, j ≠ 9 → su κ1 0 9 1 0 j = κ 0 j := fun j hj => by rw [u2 j hj, x4 0 (by omega)]
    have hST : ST 21 (su κ1 0 9 1) ρ1 kd aa T hd ln pt P S := x3.frB (fun i p q => u1 i (by omega))
    have hNR : NR 21 (su κ1 0 9 1) ρ1 := ⟨by rw [u1 _ (by decide)]; exact x3'.1, x3'.2⟩
    refine ⟨_, ρ1, rfl, rfl, ⟨⟨n, kd, aa, zz, bb, L, hr, a.fr hs x5, by rw [k0 6 (by decide)]; exact b, c, d, by rw [k0 7 (by decide)]; exact e, by rw [x5.2 10 (by decide)]; exact f⟩, ?_, s.fr (fun i p q => by rw [u1 i (by omega), x4 i (by omega)]) (k0 8 (by decide)) x5, ?_, ?_, ?_⟩, ⟨n, kd, aa, zz, bb, T, hd, ln, pt, P, S, (a.fr hs x5).1, (a.fr hs x5).2.1, a.2.2.1, hST, hNR⟩, x5, fun i p q => by rw [u1 i (by omega), x4 i (by omega)], k0, by rw [u3]; decide⟩
    · intro k hk
      rw [u1 _ (by omega), u1 _ (by omega), x4 (87 + 10 + 7 * k) (by omega)]
      exact ⟨x3.2.2.2.1.2.2.2.1 k hk, (g k hk).2⟩
    · exact Or.inr ⟨κ, κ1, fun i p q => by rw [u1 i (by omega), x4 i (by omega)], g, by rw [k0 6 (by decide), k0 7 (by decide), b, e]; exact x1, fun i p q => u1 i (by omega)⟩
    · rcases j with j | ⟨κ0, κ2, j1, j2, j3, j4⟩
      · exact Or.inl (by rw [k0 10 (by decide)]; exact j)
      · exact Or.inr ⟨κ0, κ2, j1.trans hs.symm, j2, by rw [k0 6 (by decide)]; exact j3, fun j hj => by rw [u1 10 (by decide), u1 11 (by decide), x4 10 (by omega), x4 11 (by omega)]; exact j4 j hj⟩
    · rcases l with l | ⟨C, l1, l2, l3⟩
      · exact Or.inl (by rw [k0 11 (by decide)]; exact l)
      · refine Or.inr ⟨C, fun v p q => ?_, by rw [k0 12 (by decide)]; exact l2, by rw [k0 13 (by decide)]; exact l3⟩
        obtain ⟨κ0, κ2, p1, p2, p3, p4⟩ := l1 v p q
        exact ⟨κ0, κ2, p1.trans hs.symm, p2, by rw [k0 6 (by decide)]; exact p3, p4⟩
  · rw [if_neg q]
    rcases i with i | ⟨κ0, κ1, i1, i2, i3, i4⟩
    · exact absurd i q
    · have a0 : IN κ0 ρ n kd aa zz bb L := a.fr i1 ⟨fun _ _ _ => rfl, fun _ _ => rfl⟩
      obtain ⟨κ2, ρ1, x1, x2, ⟨T, hd, ln, pt, P, S, x3, x3'⟩, x4, x5⟩ := goS (hr := hr) (M := 21) (hc := nI hr) isM_21 a0 (fun k hk => (i2 k hk).1) (Or.inl ⟨rfl, c, d⟩)
      rw [b, e, x1] at i3
      have e1 : κ2 = κ1 := Option.some.inj i3
      subst e1
      refine ⟨κ, ρ1, rfl, x2, h.fr x5, ⟨n, kd, aa, zz, bb, T, hd, ln, pt, P, S, a.1, a.2.1.fr x5, a.2.2.1, x3.frB (fun i p q => i4 i p (by omega)), ⟨by rw [i4 _ (by omega) (by omega)]; exact x3'.1, x3'.2⟩⟩, x5, fun _ _ _ => rfl, fun _ _ => rfl, q⟩
end Rel
