/-! the plain run, the better threshold -/
section Face7
variable {κ ρ κ' ρ' : Sg}
theorem Rel.keep (h : Rel κ ρ) (k1 : ∀ i, 1 ≤ i → i ≤ 9 ∨ (12 ≤ i ∧ i < 87) → κ' i = κ i) (k0 : ∀ j, j < 10 → κ' 0 j = κ 0 j) (hn : NUM κ') (h2 : F2 κ') (h3 : F3 κ') (hf : FR ρ ρ') : Rel κ' ρ' := by
  obtain ⟨⟨n, kd, aa, zz, bb, L, hr, a, b, c, d, e, f⟩, g, s, i, _, _⟩ := h
  have hs : SAM κ' κ := fun i p q => k1 i p (by omega)
  refine ⟨⟨n, kd, aa, zz, bb, L, hr, a.fr hs hf, by rw [k0 6 (by decide)]; exact b, c, d, by rw [k0 7 (by decide)]; exact e, by rw [hf.2 10 (by decide)]; exact f⟩, hn, s.fr (fun i p q => k1 i (by omega) (by omega)) (k0 8 (by decide)) hf, ?_, h2, h3⟩
  rcases i with i | ⟨κ0, κ1, i1, i2, i3, i4⟩
  · exact Or.inl (by rw [k0 9 (by decide)]; exact i)
  · exact Or.inr ⟨κ0, κ1, i1.trans hs.symm, i2, by rw [k0 6 (by decide), k0 7 (by decide)]; exact i3, fun i p q => by rw [k1 i (by omega) (by omega)]; exact i4 i p q⟩
theorem F3.fr2 (h : F3 κ) (hs : SAM κ' κ) (k : ∀ j, j = 6 ∨ 11 ≤ j → κ' 0 j = κ 0 j) : F3 κ' := by
  rcases h with h | ⟨C, a, b, c⟩
  · exact Or.inl (by rw [k 11 (by decide)]; exact h)
  · refine Or.inr ⟨C, fun v x y => ?_, by rw [k 12 (by decide)]; exact b, by rw [k 13 (by decide)]; exact c⟩
    obtain ⟨κ0, κ1, p, q, r, s⟩ := a v x y
    exact ⟨κ0, κ1, p.trans hs.symm, q, by rw [k 6 (by decide)]; exact r, s⟩
theorem F2.fr2 (h : F2 κ) (hs : SAM κ' κ) (k : ∀ j, j = 6 ∨ j = 10 → κ' 0 j = κ 0 j) (k1 : κ' 10 = κ 10) (k2 : κ' 11 = κ 11) : F2 κ' := by
  rcases h with h | ⟨κ0, κ1, a, b, c, d⟩
  · exact Or.inl (by rw [k 10 (by decide)]; exact h)
  · exact Or.inr ⟨κ0, κ1, a.trans hs.symm, b, by rw [k 6 (by decide)]; exact c, fun j hj => by rw [k1, k2]; exact d j hj⟩
theorem refreshPlainS (h : Rel κ ρ) : ∃ κ' ρ', zf_X9_refreshPlain κ = some κ' ∧ zf_X10_runs 0 ρ = some ρ' ∧ Rel κ' ρ' ∧ (∀ j, j < 8 → κ' 10 j = ρ' 8 j ∧ κ' 11 j = ρ' 9 j) ∧ FR ρ ρ' ∧ (∀ i, 1 ≤ i → i ≤ 9 ∨ (12 ≤ i ∧ i < 87) → κ' i = κ i) ∧ ∀ j, j ≠ 10 → κ' 0 j = κ 0 j := by
  have h' := h
  obtain ⟨⟨n, kd, aa, zz, bb, L, hr, a, b, c, d, e, f⟩, g, s, i, j, l⟩ := h'
  unfold zf_X9_refreshPlain zb_X9_refreshPlain_43
  by_cases q : κ 0 10 = 0
  · rw [if_pos q, b]
    obtain ⟨κ1, ρ1, x1, x2, ⟨T, hd, ln, pt, P, S, x3, x3'⟩, x4, x5⟩ := goS (hr := 0) (M := 87) (hc := 2147483647) isM_87 a (fun k hk => (g k hk).2) (Or.inr ⟨rfl, rfl⟩)
    rw [x1, obd_some]
    obtain ⟨κ2, b1, b2, b3⟩ := becomeS 9 (87 + 1) κ1 (by decide) (by decide) (by decide)
    rw [b1, obd_some]
    obtain ⟨u1, u2, u3⟩ := su9 κ2 10 1
    have kk : ∀ i, 1 ≤ i → i ≤ 9 ∨ (12 ≤ i ∧ i < 87) → su κ2 0 10 1 i = κ i := fun i p q => by rw [u1 i (by omega), b2 i (by omega) (by omega), x4 i (by omega)]
    have k0 : ∀ j, j ≠ 10 → su κ2 0 10 1 0 j = κ 0 j := fun j hj => by rw [u2 j hj, b2 0 (by decide) (by decide), x4 0 (by omega)]
    have hs : SAM (su κ2 0 10 1) κ := fun i p q => kk i p (by omega)
    refine ⟨_, ρ1, rfl, x2, h.keep kk (fun j hj => k0 j (by omega)) ?_ ?_ (l.fr2 hs (fun j hj => k0 j (by omega))) x5, fun j hj => ?_, x5, kk, k0⟩
    · intro k hk
      rw [kk (21 + 10 + 7 * k) (by omega) (by omega), u1 _ (by omega), b2 _ (by omega) (by omega)]
      exact ⟨(g k hk).1, x3.2.2.2.1.2.2.2.1 k hk⟩
    · refine Or.inr ⟨κ, κ1, hs.symm, g, by rw [k0 6 (by decide), b]; exact x1, fun j hj => ?_⟩
      rw [u1 10 (by decide), u1 11 (by decide)]
      exact b3 j hj
    · rw [u1 10 (by decide), u1 11 (by decide)]
      obtain ⟨r1, r2, _⟩ := x3.2.1 j hj
      exact ⟨(b3 j hj).1.trans r1, (b3 j hj).2.trans r2⟩
  · rw [if_neg q]
    rcases j with j | ⟨κ0, κ1, i1, i2, i3, i4⟩
    · exact absurd j q
    · have a0 : IN κ0 ρ n kd aa zz bb L := a.fr i1 ⟨fun _ _ _ => rfl, fun _ _ => rfl⟩
      obtain ⟨κ2, ρ1, x1, x2, ⟨T, hd, ln, pt, P, S, x3, x3'⟩, x4, x5⟩ := goS (hr := 0) (M := 87) (hc := 2147483647) isM_87 a0 (fun k hk => (i2 k hk).2) (Or.inr ⟨rfl, rfl⟩)
      rw [b, x1] at i3
      have e1 : κ2 = κ1 := Option.some.inj i3
      subst e1
      refine ⟨κ, ρ1, rfl, x2, h.fr x5, fun j hj => ?_, x5, fun _ _ _ => rfl, fun _ _ => rfl⟩
      obtain ⟨r1, r2, _⟩ := x3.2.1 j hj
      exact ⟨(i4 j hj).1.trans r1, (i4 j hj).2.trans r2⟩
theorem plainFS (h : Rel κ ρ) (a b : Int32) : SIM (zf_X9_plain a b κ) (zf_X10_plain a b ρ) := by
  obtain ⟨κ', ρ', e1, e2, e3, e4, e5⟩ := refreshPlainS h
  unfold zf_X9_plain zf_X10_plain zb_X10_plain_28 zb_X10_plain_30
  rw [e1, e2, obd_some, obd_some]
  obtain ⟨r, r1, r2⟩ := factS (κ := κ') (ρ := ρ') (k := 9) e4 a b
  rw [r1, r2, obd_some]
  exact ⟨_, _, _, rfl, rfl, e3⟩
end Face7
