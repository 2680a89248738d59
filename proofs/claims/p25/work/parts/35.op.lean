/-! the state within a step, and what each small act does to it -/
def SC (M : Nat) (κ ρ : Sg) (P : Nat) : Prop := κ M 5 = nI P ∧ ρ 0 16 = nI P ∧ κ M 7 = ρ 0 17 ∧ κ M 8 = ρ 0 18 ∧ κ M 9 = ρ 0 19 ∧ κ (M + 5) 5 = ρ 0 20
def RG (M : Nat) (κ ρ : Sg) : Prop := ∀ j, j < 8 → κ (M + 2) j = ρ 8 j ∧ κ (M + 3) j = ρ 9 j ∧ (ρ 8 j = 0 ∨ ρ 8 j = 1)
def HT (M : Nat) (κ ρ : Sg) (S : Nat) : Prop := ∀ p, p < 24 → κ (M + 7) p = ρ 10 p ∧ κ (M + 8) p = ρ 11 p ∧ ∃ h d, ρ 10 p = nI h ∧ ρ 11 p = nI d ∧ h ≤ S ∧ d ≤ 2
def NR (M : Nat) (κ ρ : Sg) : Prop := κ (M + 5) 6 = -1 ∧ ρ 0 39 = 0
def RCa (M : Nat) (κ ρ : Sg) (T hN m : Nat) : Prop :=
  κ (M + 5) 6 = nI (M + 10 + 7 * T) ∧ ρ 0 39 = 1 ∧ T < 8 ∧ hN < 24 ∧ m ≤ 16 ∧ ρ 0 40 = nI hN ∧ κ (M + 10 + 7 * T) 7 = nI hN ∧ ρ 0 43 = nI m ∧ κ (M + 10 + 7 * T) 10 = nI m ∧ κ (M + 10 + 7 * T) 8 = ρ 0 41 ∧ κ (M + 10 + 7 * T) 9 = ρ 0 42 ∧ κ (M + 10 + 7 * T) 11 = 0 ∧ ∃ d, ρ 11 hN = nI d ∧ d < 2
def RC (M : Nat) (κ ρ : Sg) (kd aa : Nat → Nat) (T : Nat) (hd ln : Nat → Nat) (pt : Nat → Nat → Nat) (P hN m : Nat) : Prop :=
  RCa M κ ρ T hN m ∧
  (∀ e, e < m → EN M κ ρ T e (pt T e) ∧ ρ 22 (16 * T + e) = -1 ∧ kd (pt T e) ≠ 9 ∧ nx kd aa (pt T e) (ρ 20 (16 * T + e)) = (if e + 1 < m then pt T (e + 1) else P)) ∧
  ((ρ 0 41 = -1 ∧ (if m = 0 then P else pt T 0) = hN) ∨ ∃ k e, k < T ∧ e < ln k ∧ ρ 0 41 = nI k ∧ ρ 0 42 = nI e ∧ hd k = hN ∧ (if m = 0 then P else pt T 0) = pt k e)
def CU (M : Nat) (κ ρ : Sg) (T : Nat) (ln : Nat → Nat) (pt : Nat → Nat → Nat) (P c e : Nat) : Prop := c < T ∧ e < ln c ∧ κ M 10 = nI (M + 10 + 7 * c) ∧ ρ 0 37 = nI c ∧ κ M 11 = nI e ∧ ρ 0 38 = nI e ∧ pt c e = P
def NC (M : Nat) (κ ρ : Sg) : Prop := κ M 10 = -1 ∧ ρ 0 37 = -1
def ST (M : Nat) (κ ρ : Sg) (kd aa : Nat → Nat) (T : Nat) (hd ln : Nat → Nat) (pt : Nat → Nat → Nat) (P S : Nat) : Prop := SC M κ ρ P ∧ RG M κ ρ ∧ HT M κ ρ S ∧ TC M κ ρ T hd ln pt ∧ GT ρ kd aa T hd ln pt ∧ RT1 M κ ρ T hd
def FC (M : Nat) (κ κ' : Sg) : Prop := ∀ n, n < M ∨ M + 66 ≤ n → κ' n = κ n
def FR (ρ ρ' : Sg) : Prop := (∀ n, 1 ≤ n → n ≤ 7 ∨ 23 ≤ n → ρ' n = ρ n) ∧ ∀ i, i < 13 → ρ' 0 i = ρ 0 i
/-- what the small acts ahead of a step leave alone -/
def KF (M : Nat) (κ κ' : Sg) : Prop := FC M κ κ' ∧ (∀ n, M + 2 ≤ n → n ≤ M + 4 → κ' n = κ n) ∧ ∀ i, i < 9 → κ' M i = κ M i
def RF (ρ ρ' : Sg) : Prop := FR ρ ρ' ∧ (∀ i, i < 19 → ρ' 0 i = ρ 0 i) ∧ ρ' 0 22 = ρ 0 22 ∧ ρ' 0 44 = ρ 0 44
theorem KF.refl (M : Nat) (κ : Sg) : KF M κ κ := ⟨fun _ _ => rfl, fun _ _ _ => rfl, fun _ _ => rfl⟩
theorem RF.refl (ρ : Sg) : RF ρ ρ := ⟨⟨fun _ _ _ => rfl, fun _ _ => rfl⟩, fun _ _ => rfl, rfl, rfl⟩
theorem FC.trans {M : Nat} {a b c : Sg} (h : FC M a b) (k : FC M b c) : FC M a c := fun n hn => (k n hn).trans (h n hn)
theorem FR.trans {a b c : Sg} (h : FR a b) (k : FR b c) : FR a c := ⟨fun n h1 h2 => (k.1 n h1 h2).trans (h.1 n h1 h2), fun i hi => (k.2 i hi).trans (h.2 i hi)⟩
theorem KF.trans {M : Nat} {a b c : Sg} (h : KF M a b) (k : KF M b c) : KF M a c := ⟨h.1.trans k.1, fun n a b => (k.2.1 n a b).trans (h.2.1 n a b), fun i hi => (k.2.2 i hi).trans (h.2.2 i hi)⟩
theorem RF.trans {a b c : Sg} (h : RF a b) (k : RF b c) : RF a c := ⟨h.1.trans k.1, fun i hi => (k.2.1 i hi).trans (h.2.1 i hi), k.2.2.1.trans h.2.2.1, k.2.2.2.trans h.2.2.2⟩
def HB (ρ : Sg) (hr T : Nat) (hd : Nat → Nat) (x : Option Nat) : Prop := ∀ p, p < 24 → 0 < hr → (hr : Int) ≤ (ρ 10 p).toInt → 2 ≤ (ρ 11 p).toInt ∨ (∃ k, k < T ∧ hd k = p ∧ ρ 13 k = -1) ∨ T = 8 ∨ x = some p
theorem isTr_k {M k : Nat} (h : isM M) (hk : k < 8) : isTr (M + 10 + 7 * k) := by
  have := isTr_M (i := nI k) h (by rw [nI_toInt (by omega)]; omega)
  rwa [nI_clamp (by omega)] at this
theorem M_lt {M : Nat} (h : isM M) : M < 88 := by rcases h with rfl | rfl <;> decide
section Ops
variable {M : Nat} {κ ρ : Sg} {kd aa : Nat → Nat} {T : Nat} {hd ln : Nat → Nat} {pt : Nat → Nat → Nat} {P S hN m : Nat}
theorem dropC (hM : isM M) (hr : RCa M κ ρ T hN m) : zf_X2_drop M κ = some (su (su (su (su κ (M + 7) hN 0) (M + 8) hN (κ (M + 8) hN + 1)) (M + 5) 5 (κ (M + 5) 5 + 1)) (M + 5) 6 (-1)) := by
  obtain ⟨h1, h2, h3, h4, h5, h6, h7, h8, h9, h10, h11, h12, h13⟩ := hr
  have := M_lt hM
  have ht := isTr_k hM h3
  unfold zf_X2_drop
  rw [h1, if_neg (nI_ne_neg (by omega)), tk_nI ht, nI_clamp (by omega), h7, bd_nI h4 (by decide), nI_clamp (by omega)]
theorem letsR (hr : RCa M κ ρ T hN m) : zf_X10_lets ρ = some (su (su (su (su ρ 0 39 0) 0 20 (ρ 0 20 + 1)) 10 hN 0) 11 hN (ρ 11 hN + 1)) := by
  obtain ⟨h1, h2, h3, h4, h5, h6, h7, h8, h9, h10, h11, h12, h13⟩ := hr
  unfold zf_X10_lets
  rw [h6, bd_nI h4 (by decide), nI_clamp (by omega)]
theorem dropS (hM : isM M) (h : ST M κ ρ kd aa T hd ln pt P S) (hr : RCa M κ ρ T hN m) {hh : Nat} (hB : HB ρ hh T hd (some hN)) : ∃ κ' ρ', zf_X2_drop M κ = some κ' ∧ zf_X10_lets ρ = some ρ' ∧ ST M κ' ρ' kd aa T hd ln pt P S ∧ NR M κ' ρ' ∧ HB ρ' hh T hd none ∧ KF M κ κ' ∧ RF ρ ρ' ∧ κ' M = κ M ∧ ρ' 0 37 = ρ 0 37 ∧ ρ' 0 38 = ρ 0 38 := by
  refine ⟨_, _, dropC hM hr, letsR hr, ?_, ?_, ?_, ?_, ?_, ?_, ?_, ?_⟩
  · obtain ⟨h1, h2, h3, h4, h5, h6, h7, h8, h9, h10, h11, h12, h13⟩ := hr
    obtain ⟨s1, s2, s3, s4, s5, s6⟩ := h
    refine ⟨?_, ?_, ?_, ?_, ?_, ?_⟩
    · unfold SC at *
      grind [su_ap]
    · unfold RG at *
      grind [su_ap]
    · intro p hp
      obtain ⟨a, b, h, d, c1, c2, c3, c4⟩ := s3 p hp
      obtain ⟨d0, e1, e2⟩ := h13
      by_cases q : p = hN
      · subst q
        refine ⟨by simp [su_ap], by simp [su_ap, b], 0, d0 + 1, by simp [su_ap, nI_0], ?_, by omega, by omega⟩
        simp [su_ap, e1, nI_1]
      · exact ⟨by simp [su_ap, q, a], by simp [su_ap, q, b], h, d, by simp [su_ap, q, c1], by simp [su_ap, q, c2], c3, c4⟩
    · exact s4.fr (fun n a b => by simp (disch := omega) only [su_ne]) (by simp [su_ap]) (fun n a b => by simp (disch := omega) only [su_ne]) (by simp [su_ap])
    · exact s5.fr (by simp (disch := omega) only [su_ne]) (by simp (disch := omega) only [su_ne]) (by simp (disch := omega) only [su_ne])
    · exact s6.fr (by simp (disch := omega) only [su_ne]) (by simp (disch := omega) only [su_ne])
  · exact ⟨by simp [su_ap], by simp [su_ap]⟩
  · intro p hp hp0
    by_cases q : p = hN
    · subst q
      rw [show su (su (su (su ρ 0 39 0) 0 20 (ρ 0 20 + 1)) 10 p 0) 11 p (ρ 11 p + 1) 10 p = 0 by simp [su_ap]]
      intro z
      have : (0 : Int32).toInt = 0 := rfl
      omega
    · have e1 : su (su (su (su ρ 0 39 0) 0 20 (ρ 0 20 + 1)) 10 hN 0) 11 hN (ρ 11 hN + 1) 10 p = ρ 10 p := by simp [su_ap, q]
      have e2 : su (su (su (su ρ 0 39 0) 0 20 (ρ 0 20 + 1)) 10 hN 0) 11 hN (ρ 11 hN + 1) 11 p = ρ 11 p := by simp [su_ap, q]
      rw [e1, e2]
      simp (disch := omega) only [su_ne]
      intro z
      rcases hB p hp hp0 z with w | w | w | w
      · exact Or.inl w
      · exact Or.inr (Or.inl w)
      · exact Or.inr (Or.inr (Or.inl w))
      · exact absurd (Option.some.inj w).symm q
  · refine ⟨fun n hn => by simp (disch := omega) only [su_ne], fun n hn hn2 => by simp (disch := omega) only [su_ne], fun i hi => by simp (disch := omega) only [su_ne]⟩
  · refine ⟨⟨fun n h1 h2 => by simp (disch := omega) only [su_ne], fun i hi => ?_⟩, fun i hi => ?_, ?_, ?_⟩ <;> grind [su_ap]
  · simp (disch := omega) only [su_ne]
  · grind [su_ap]
  · grind [su_ap]
end Ops
