section Keep
variable {M : Nat} {κ ρ : Sg} {kd aa : Nat → Nat} {T : Nat} {hd ln : Nat → Nat} {pt : Nat → Nat → Nat} {P S hN m : Nat}
def up1 (f : Nat → Nat) (T x : Nat) : Nat → Nat := fun k => if k = T then x else f k
theorem up1_eq {f : Nat → Nat} {T x : Nat} : up1 f T x T = x := by unfold up1; rw [if_pos rfl]
theorem up1_ne {f : Nat → Nat} {T x k : Nat} (h : k ≠ T) : up1 f T x k = f k := by unfold up1; rw [if_neg h]
/-- kept as a root -/
theorem keepC0 (hM : isM M) (hr : RC M κ ρ kd aa T hd ln pt P hN m) (h0 : ρ 0 41 = -1) : zf_X2_keep M κ = some (su (su (su κ (M + 9) hN (nI (M + 10 + 7 * T))) (M + 5) 4 (κ (M + 5) 4 + 1)) (M + 5) 6 (-1)) := by
  obtain ⟨⟨h1, h2, h3, h4, h5, h6, h7, h8, h9, h10, h11, h12, h13⟩, _, _⟩ := hr
  have := M_lt hM
  unfold zf_X2_keep zb_X2_keep_68
  rw [h1, if_neg (nI_ne_neg (by omega)), tk_nI (isTr_k hM h3), nI_clamp (by omega), h10, if_pos h0, h7, bd_nI h4 (by decide), nI_clamp (by omega)]
  simp (disch := omega) only [su_ne]
theorem closesR0 (h : TC M κ ρ T hd ln pt) (hr : RC M κ ρ kd aa T hd ln pt P hN m) (h0 : ρ 0 41 = -1) : zf_X10_closes ρ = some (su (su (su (su (su (su (su ρ 0 39 0) 12 T (nI hN)) 13 T (-1)) 14 T (ρ 0 42)) 15 T (nI m)) 16 T 0) 0 25 (nI (T + 1))) := by
  obtain ⟨⟨h1, h2, h3, h4, h5, h6, h7, h8, h9, h10, h11, h12, h13⟩, _, _⟩ := hr
  have ht := h.2.1
  unfold zf_X10_closes zb_X10_closes_96
  rw [ht, bd_nI h3 (by decide), if_pos h0, nI_clamp (by omega), h6, h8, h0]
  simp [su_ap, ht, nI_1]
/-- kept as a branch of k at e -/
theorem keepC1 (hM : isM M) (h : TC M κ ρ T hd ln pt) (hr : RC M κ ρ kd aa T hd ln pt P hN m) {k e : Nat} (hk : k < T) (he : e < ln k) (h0 : ρ 0 41 = nI k) (h01 : ρ 0 42 = nI e) : zf_X2_keep M κ = some (su (su (su κ (M + 10 + 7 * k + 6) e (nI T)) (M + 5) 4 (κ (M + 5) 4 + 1)) (M + 5) 6 (-1)) := by
  obtain ⟨⟨h1, h2, h3, h4, h5, h6, h7, h8, h9, h10, h11, h12, h13⟩, _, _⟩ := hr
  have := M_lt hM
  have hl := (h.2.2.2.2.1 k hk).2.2.1
  have hn := h.2.2.2.1 T h3
  unfold zf_X2_keep zb_X2_keep_68
  rw [h1, if_neg (nI_ne_neg (by omega)), tk_nI (isTr_k hM h3), nI_clamp (by omega), h10, h0, if_neg (nI_ne_neg (by omega)), bd_nI (by omega) (by decide), h11, h01, bd_nI (by omega) (by decide), nI_clamp (by omega), nI_clamp (by omega), hn]
  simp (disch := omega) only [su_ne]
theorem closesR1 (h : TC M κ ρ T hd ln pt) (hr : RC M κ ρ kd aa T hd ln pt P hN m) {k e : Nat} (hk : k < T) (he : e < ln k) (h0 : ρ 0 41 = nI k) (h01 : ρ 0 42 = nI e) : zf_X10_closes ρ = some (su (su (su (su (su (su (su (su ρ 0 39 0) 12 T (nI hN)) 13 T (nI k)) 14 T (nI e)) 15 T (nI m)) 16 T 0) 22 (16 * k + e) (nI T)) 0 25 (nI (T + 1))) := by
  obtain ⟨⟨h1, h2, h3, h4, h5, h6, h7, h8, h9, h10, h11, h12, h13⟩, _, _⟩ := hr
  have ht := h.2.1
  have hl := (h.2.2.2.2.1 k hk).2.2.1
  have e16 : (16 : Int32) * nI k + nI e = nI (16 * k + e) := by rw [show (16 : Int32) = nI 16 from rfl, nI_mul, nI_add]
  unfold zf_X10_closes zb_X10_closes_96
  rw [ht, bd_nI h3 (by decide), h0, if_neg (nI_ne_neg (by omega)), h01, e16, bd_nI (by omega) (by decide), nI_clamp (by omega), nI_clamp (by omega), h6, h8]
  simp [su_ap, ht, nI_1]
theorem keepS (hM : isM M) (h : ST M κ ρ kd aa T hd ln pt P S) (hr : RC M κ ρ kd aa T hd ln pt P hN m) (hm : 0 < m) (hP : P = hN) {hh : Nat} (hB : HB ρ hh T hd (some hN)) : ∃ κ' ρ', zf_X2_keep M κ = some κ' ∧ zf_X10_closes ρ = some ρ' ∧ ST M κ' ρ' kd aa (T + 1) (up1 hd T hN) (up1 ln T m) pt P S ∧ NR M κ' ρ' ∧ HB ρ' hh (T + 1) (up1 hd T hN) none ∧ KF M κ κ' ∧ RF ρ ρ' ∧ κ' M = κ M ∧ ρ' 0 37 = ρ 0 37 ∧ ρ' 0 38 = ρ 0 38 := by
  obtain ⟨s1, s2, s3, s4, s5, s6⟩ := h
  have hr' := hr
  obtain ⟨⟨h1, h2, h3, h4, h5, h6, h7, h8, h9, h10, h11, h12, h13⟩, hE, hst⟩ := hr'
  have s4' := s4
  obtain ⟨t1, t2, t3, t4, t5, t6⟩ := s4'
  rcases hst with ⟨h0, hs⟩ | ⟨k, e, hk, he, h0, h01, hs1, hs2⟩
  · refine ⟨_, _, keepC0 hM hr h0, closesR0 s4 hr h0, ⟨?_, ?_, ?_, ?_, ?_, ?_⟩, ?_, ?_, ?_, ?_, ?_, ?_, ?_⟩
    · unfold SC at *
      grind [su_ap]
    · unfold RG at *
      grind [su_ap]
    · unfold HT at *
      grind [su_ap]
    · refine ⟨by omega, by simp [su_ap], by simp [su_ap, t3, nI_1], fun k hk => by simp (disch := omega) only [su_ne]; exact t4 k hk, fun k hk => ?_, fun k e hk he => ?_⟩
      · by_cases q : k = T
        · subst q
          unfold HD
          simp (disch := omega) only [su_ne, up1_eq]
          simp [su_ap]
          grind
        · have := t5 k (by omega)
          unfold HD at *
          simp (disch := omega) only [su_ne, up1_ne q]
          simp [su_ap, q]
          exact this
      · by_cases q : k = T
        · subst q
          rw [up1_eq] at he
          have := (hE e he).1
          unfold EN at *
          simp (disch := omega) only [su_ne]
          exact this
        · rw [up1_ne q] at he
          have := t6 k e (by omega) he
          unfold EN at *
          simp (disch := omega) only [su_ne]
          exact this
    · intro k hk
      by_cases q : k = T
      · subst q
        refine ⟨⟨k, by omega, rfl, by simp [su_ap]⟩, fun _ => by rw [up1_eq]; grind, fun e he => ?_⟩
        rw [up1_eq] at he
        obtain ⟨a1, a2, a3, a4⟩ := hE e he
        simp (disch := omega) only [su_ne]
        rw [up1_eq, up1_eq, ← hP]
        exact ⟨a3, a4, Or.inl a2⟩
      · obtain ⟨⟨r, g1, g2, g3⟩, g4, g5⟩ := s5 k (by omega)
        refine ⟨⟨r, by omega, by rw [up1_ne (by omega), up1_ne q]; exact g2, by simp [su_ap]; grind⟩, fun z => by rw [up1_ne q]; exact g4 (by simpa [su_ap, q] using z), fun e he => ?_⟩
        rw [up1_ne q] at he
        obtain ⟨a1, a2, a3⟩ := g5 e he
        simp (disch := omega) only [su_ne]
        rw [up1_ne q, up1_ne q]
        refine ⟨a1, a2, ?_⟩
        rcases a3 with z | ⟨k', z1, z2, z3, z4, z5⟩
        · exact Or.inl z
        · exact Or.inr ⟨k', z1, by omega, z3, by rw [up1_ne (by omega)]; exact z4, z5⟩
    · intro p hp
      by_cases q : p = hN
      · subst q
        refine ⟨some T, by simp [su_ap, cM], by omega, up1_eq, by simp [su_ap], fun k a b => by omega⟩
      · obtain ⟨x, a, b⟩ := s6 p hp
        refine ⟨x, by simp [su_ap, q]; exact a, ?_⟩
        cases x with
        | none =>
          intro k hk
          by_cases z : k = T
          · subst z; rw [up1_eq]; exact fun w => q w.1.symm
          · rw [up1_ne z]; simp [su_ap, z]; exact fun w1 w2 => b k (by omega) ⟨w1, w2⟩
        | some r =>
          obtain ⟨b1, b2, b3, b4⟩ := b
          refine ⟨by omega, by rw [up1_ne (by omega)]; exact b2, by simp [su_ap]; grind, fun k k1 k2 => ?_⟩
          by_cases z : k = T
          · subst z; rw [up1_eq]; exact fun w => q w.1.symm
          · rw [up1_ne z]; simp [su_ap, z]; exact fun w1 w2 => b4 k k1 (by omega) ⟨w1, w2⟩
    · exact ⟨by simp [su_ap], by simp [su_ap]⟩
    · intro p hp hp0
      simp (disch := omega) only [su_ne]
      intro hh1
      rcases hB p hp hp0 hh1 with z | ⟨k, z1, z2, z3⟩ | z | z
      · exact Or.inl z
      · exact Or.inr (Or.inl ⟨k, by omega, by rw [up1_ne (by omega)]; exact z2, by simp [su_ap]; grind⟩)
      · omega
      · exact Or.inr (Or.inl ⟨T, by omega, by rw [up1_eq]; exact Option.some.inj z, by simp [su_ap]⟩)
    · refine ⟨fun n hn => by simp (disch := omega) only [su_ne], fun n hn hn2 => by simp (disch := omega) only [su_ne], fun i hi => by simp (disch := omega) only [su_ne]⟩
    · refine ⟨⟨fun n h1 h2 => by simp (disch := omega) only [su_ne], fun i hi => ?_⟩, fun i hi => ?_, ?_, ?_⟩ <;> grind [su_ap]
    · simp (disch := omega) only [su_ne]
    · grind [su_ap]
    · grind [su_ap]
  · have hlk := (t5 k hk).2.2.1
    have nk : ¬ nI k = -1 := nI_ne_neg (by omega)
    refine ⟨_, _, keepC1 hM s4 hr hk he h0 h01, closesR1 s4 hr hk he h0 h01, ⟨?_, ?_, ?_, ?_, ?_, ?_⟩, ?_, ?_, ?_, ?_, ?_, ?_, ?_⟩
    · unfold SC at *
      grind [su_ap]
    · unfold RG at *
      grind [su_ap]
    · unfold HT at *
      grind [su_ap]
    · refine ⟨by omega, by simp [su_ap], by simp (disch := omega) [su_ap, t3, nI_1], fun k hk => by simp (disch := omega) only [su_ne]; exact t4 k hk, fun j hj => ?_, fun j i hj hi => ?_⟩
      · by_cases q : j = T
        · subst q
          unfold HD
          simp (disch := omega) only [su_ne, up1_eq]
          simp [su_ap]
          grind
        · have := t5 j (by omega)
          unfold HD at *
          simp (disch := omega) only [su_ne, up1_ne q]
          simp [su_ap, q]
          exact this
      · by_cases q : j = T
        · subst q
          rw [up1_eq] at hi
          have := (hE i hi).1
          unfold EN at *
          simp (disch := omega) only [su_ne]
          rw [su_ap, if_pos rfl, if_neg (by omega)]
          simp (disch := omega) only [su_ne]
          exact this
        · rw [up1_ne q] at hi
          have := t6 j i (by omega) hi
          have hl2 := (t5 j (by omega)).2.2.1
          unfold EN at *
          simp (disch := omega) only [su_ne]
          obtain ⟨g1, g2, g3, g4, g5, g6, g7, g8⟩ := this
          refine ⟨g1, g2, g3, g4, g5, g6, g7, ?_⟩
          by_cases z : j = k ∧ i = e
          · rw [z.1, z.2, su_ap, su_ap, if_pos rfl, if_pos rfl, if_pos rfl, if_pos rfl]
          · rw [su_ap, su_ap, if_pos rfl, if_neg (show ¬ 16 * j + i = 16 * k + e by omega)]
            simp (disch := omega) only [su_ne]
            rw [← g8]
            by_cases z2 : M + 10 + 7 * j + 6 = M + 10 + 7 * k + 6
            · rw [if_pos z2, if_neg (by omega)]
            · rw [if_neg z2]
    · intro j hj
      by_cases q : j = T
      · subst q
        obtain ⟨⟨r, g1, g2, g3⟩, _, _⟩ := s5 k hk
        refine ⟨⟨r, by omega, by rw [up1_ne (by omega), up1_eq, g2, hs1], by simp [su_ap]; grind⟩, fun z => absurd (by simpa [su_ap] using z) nk, fun i hi => ?_⟩
        rw [up1_eq] at hi
        obtain ⟨a1, a2, a3, a4⟩ := hE i hi
        simp (disch := omega) only [su_ne]
        rw [up1_eq, up1_eq, ← hP]
        refine ⟨a3, a4, Or.inl ?_⟩
        rw [su_ap, if_pos rfl, if_neg (by omega)]
        simp (disch := omega) only [su_ne]
        exact a2
      · obtain ⟨⟨r, g1, g2, g3⟩, g4, g5⟩ := s5 j (by omega)
        have hl2 := (t5 j (by omega)).2.2.1
        refine ⟨⟨r, by omega, by rw [up1_ne (by omega), up1_ne q]; exact g2, by simp [su_ap]; grind⟩, fun z => by rw [up1_ne q]; exact g4 (by simpa [su_ap, q] using z), fun i hi => ?_⟩
        rw [up1_ne q] at hi
        obtain ⟨a1, a2, a3⟩ := g5 i hi
        simp (disch := omega) only [su_ne]
        rw [up1_ne q, up1_ne q]
        refine ⟨a1, a2, ?_⟩
        by_cases z : j = k ∧ i = e
        · obtain ⟨rfl, rfl⟩ := z
          refine Or.inr ⟨T, by omega, by omega, by rw [su_ap, if_pos rfl, if_pos rfl], by rw [up1_eq]; exact hs1.symm, ?_⟩
          rw [← hs2, if_neg (by omega)]
        · rw [su_ap, if_pos rfl, if_neg (show ¬ 16 * j + i = 16 * k + e by omega)]
          simp (disch := omega) only [su_ne]
          rcases a3 with z | ⟨k', z1, z2, z3, z4, z5⟩
          · exact Or.inl z
          · exact Or.inr ⟨k', z1, by omega, z3, by rw [up1_ne (by omega)]; exact z4, z5⟩
    · intro p hp
      obtain ⟨x, a, b⟩ := s6 p hp
      refine ⟨x, by simp (disch := omega) only [su_ne]; exact a, ?_⟩
      cases x with
      | none =>
        intro j hj
        by_cases z : j = T
        · subst z; exact fun w => nk (by simpa [su_ap] using w.2)
        · rw [up1_ne z]; simp [su_ap, z]; exact fun w1 w2 => b j (by omega) ⟨w1, w2⟩
      | some r =>
        obtain ⟨b1, b2, b3, b4⟩ := b
        refine ⟨by omega, by rw [up1_ne (by omega)]; exact b2, by simp [su_ap]; grind, fun j k1 k2 => ?_⟩
        by_cases z : j = T
        · subst z; exact fun w => nk (by simpa [su_ap] using w.2)
        · rw [up1_ne z]; simp [su_ap, z]; exact fun w1 w2 => b4 j k1 (by omega) ⟨w1, w2⟩
    · exact ⟨by simp [su_ap], by simp [su_ap]⟩
    · intro p hp hp0
      simp (disch := omega) only [su_ne]
      intro hh1
      rcases hB p hp hp0 hh1 with z | ⟨j, z1, z2, z3⟩ | z | z
      · exact Or.inl z
      · exact Or.inr (Or.inl ⟨j, by omega, by rw [up1_ne (by omega)]; exact z2, by simp [su_ap]; grind⟩)
      · omega
      · obtain ⟨⟨r, g1, g2, g3⟩, _, _⟩ := s5 k hk
        exact Or.inr (Or.inl ⟨r, by omega, by rw [up1_ne (by omega), g2, hs1]; exact Option.some.inj z, by simp [su_ap]; grind⟩)
    · refine ⟨fun n hn => by simp (disch := omega) only [su_ne], fun n hn hn2 => by simp (disch := omega) only [su_ne], fun i hi => by simp (disch := omega) only [su_ne]⟩
    · refine ⟨⟨fun n h1 h2 => by simp (disch := omega) only [su_ne], fun i hi => ?_⟩, fun i hi => ?_, ?_, ?_⟩ <;> grind [su_ap]
    · simp (disch := omega) only [su_ne]
    · grind [su_ap]
    · grind [su_ap]
end Keep
