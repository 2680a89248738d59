section Plain
variable {M : Nat} {κ ρ κ' ρ' : Sg} {n : Nat} {kd aa zz : Nat → Nat} {bb : Nat → Int32} {T hr : Nat} {hd ln : Nat → Nat} {pt : Nat → Nat → Nat} {P P' S hN m q : Nat}
def HH (x : Int32) (hr : Nat) : Prop := (x = nI hr ∧ 2 ≤ hr ∧ hr ≤ 9) ∨ (hr = 0 ∧ x = 2147483647)
theorem warmS (hM : isM M) (h : ST M κ ρ kd aa T hd ln pt q (S + 1)) (hS : HT M κ ρ S) (hS6 : S < 1000) (hq : q < 24) (h1 : NR M κ ρ) (h2 : NC M κ ρ) (h3 : HB ρ hr T hd none) (hh : HH (κ M 4) hr) :
    ∃ κ' ρ', zf_X3_warm M κ = some κ' ∧ zf_X10_jumped (nI hr) ρ = some ρ' ∧ ST M κ' ρ' kd aa T hd ln pt q (S + 1) ∧ NC M κ' ρ' ∧ ((RC M κ' ρ' kd aa T hd ln pt q q 0 ∧ HB ρ' hr T hd (some q) ∧ hr ≠ 0) ∨ (NR M κ' ρ' ∧ HB ρ' hr T hd none)) ∧ κ' M = κ M ∧ FC M κ κ' ∧ RF ρ ρ' := by
  have hml := M_lt hM
  have h' := h
  obtain ⟨s1, s2, s3, s4, s5, s6⟩ := h'
  obtain ⟨a1, a2, x, d, a3, a4, a5, a6⟩ := hS q hq
  have n1 : (nI q).toNatClampNeg = q := nI_clamp (by omega)
  have ex1 : nI x + 1 = nI (x + 1) := nI_1 x
  -- one more
  generalize hk1 : su κ (M + 7) q (nI (x + 1)) = κ1
  generalize hr1 : su ρ 10 q (nI (x + 1)) = ρ1
  have k1n : ∀ i, i ≠ M + 7 → κ1 i = κ i := fun i hi => by rw [← hk1]; simp (disch := omega) only [su_ne]
  have r1n : ∀ i, i ≠ 10 → ρ1 i = ρ i := fun i hi => by rw [← hr1]; simp (disch := omega) only [su_ne]
  have hST : ST M κ1 ρ1 kd aa T hd ln pt q (S + 1) := by
    refine ⟨?_, ?_, ?_, s4.fr (fun i a b => k1n i (by omega)) (by rw [k1n _ (by omega)]) (fun i a b => r1n i (by omega)) (by rw [r1n 0 (by decide)]), s5.fr (r1n _ (by decide)) (r1n _ (by decide)) (r1n _ (by decide)), s6.fr (k1n _ (by omega)) (r1n _ (by decide))⟩
    · unfold SC at *
      rw [k1n M (by omega), k1n (M + 5) (by omega), r1n 0 (by decide)]
      exact s1
    · unfold RG at *
      rw [k1n (M + 2) (by omega), k1n (M + 3) (by omega), r1n 8 (by decide), r1n 9 (by decide)]
      exact s2
    · intro p hp
      obtain ⟨b1, b2, y, dd, b3, b4, b5, b6⟩ := s3 p hp
      rw [k1n (M + 8) (by omega), r1n 11 (by decide)]
      by_cases z : p = q
      · subst z
        refine ⟨by rw [← hk1, ← hr1]; simp [su_ap], b2, x + 1, dd, by rw [← hr1]; simp [su_ap], b4, by omega, b6⟩
      · refine ⟨by rw [← hk1, ← hr1]; simp [su_ap, z]; exact b1, b2, y, dd, by rw [← hr1]; simp [su_ap, z]; exact b3, b4, b5, b6⟩
  have hNR1 : NR M κ1 ρ1 := ⟨by rw [k1n _ (by omega)]; exact h1.1, by rw [r1n 0 (by decide)]; exact h1.2⟩
  have hNC1 : NC M κ1 ρ1 := ⟨by rw [k1n _ (by omega)]; exact h2.1, by rw [r1n 0 (by decide)]; exact h2.2⟩
  have fc1 : FC M κ κ1 := fun i hi => k1n i (by omega)
  have rf1 : RF ρ ρ1 := ⟨⟨fun i u v => r1n i (by omega), fun i hi => by rw [r1n 0 (by decide)]⟩, fun i hi => by rw [r1n 0 (by decide)], by rw [r1n 0 (by decide)], by rw [r1n 0 (by decide)]⟩
  obtain ⟨o, o1, o2⟩ := s6 q hq
  have hroot : zf_X10_rootOf (nI q) ρ1 = some (cR o) := rootR hST.2.2.2.1 hq (o2.fr (r1n _ (by decide)))
  have t8 := s4.1
  have toI : (nI x).toInt = (x : Int) := nI_toInt (by omega)
  have toD : (nI d).toInt = (d : Int) := nI_toInt (by omega)
  -- what the class and the reference do
  have eC : zf_X3_warm M κ = if nI (x + 1) = κ M 4 then (if cM M o = -1 then (if 8 ≤ T then some κ1 else if 2 ≤ d then some κ1 else zf_X2_startRecording M (nI q) (-1) (-1) κ1) else some κ1) else some κ1 := by
    unfold zf_X3_warm zb_X3_warm_77 zf_X2_mayRecord zb_X2_mayRecord_23 zb_X2_mayRecord_24
    have p8 : ((8 : Int32) ≤ nI T) = (8 ≤ T) := propext (nI_leI (a := 8) (b := T) (by decide) (by omega))
    have p2 : ((2 : Int32) ≤ nI d) = (2 ≤ d) := propext (nI_leI (a := 2) (b := d) (by decide) (by omega))
    have f1 : κ1 (M + 5) 4 = nI T := by rw [k1n _ (by omega)]; exact s4.2.2.1
    have f2 : κ1 (M + 8) q = nI d := by rw [k1n _ (by omega), a2, a4]
    rw [s1.1, bd_nI hq (by decide), n1, a1, a3, ex1, hk1, o1]
    simp only [f1, f2, p8, p2, bd_nI hq (show 24 < 2 ^ 31 by decide), n1, obd_id]
    by_cases z1 : 8 ≤ T
    · simp only [z1, if_true, obd_some, Bool.false_eq_true, if_false]
    · by_cases z2 : 2 ≤ d
      · simp only [z1, z2, if_true, obd_some, Bool.false_eq_true, if_false]
      · simp only [z1, z2, if_true, obd_some, if_false]
  have eR : zf_X10_jumped (nI hr) ρ = if hr = 0 then some ρ1 else if x + 1 < hr then some ρ1 else if 2 ≤ d then some ρ1 else if cR o = -1 then (if 8 ≤ T then some ρ1 else some (zf_X10_begins (nI q) (-1) (-1) ρ1)) else some ρ1 := by
    have hr9 : hr < 2 ^ 31 := by rcases hh with ⟨_, _, u⟩ | ⟨u, _⟩ <;> omega
    unfold zf_X10_jumped zb_X10_jumped_97
    have p8 : ((8 : Int32) ≤ nI T) = (8 ≤ T) := propext (nI_leI (a := 8) (b := T) (by decide) (by omega))
    have p2 : ((2 : Int32) ≤ nI d) = (2 ≤ d) := propext (nI_leI (a := 2) (b := d) (by decide) (by omega))
    have p0 : (nI hr ≤ 0) = (hr = 0) := propext ⟨fun u => by rcases Nat.eq_zero_or_pos hr with v | v; exact v; exact absurd u (nI_nle v hr9), fun u => by rw [u, nI_0]; exact Int32.le_refl 0⟩
    have p1 : (nI (x + 1) < nI hr) = (x + 1 < hr) := propext (nI_ltI (by omega) hr9)
    rw [if_pos h1.2, s1.2.1, bd_nI hq (by decide), n1, a3, ex1, hr1, a4, s4.2.1, hroot]
    simp only [p8, p2, p0, p1, obd_some, letb_eq]
  have base : ∀ (hb : HB ρ1 hr T hd none), ∃ κ' ρ', some κ1 = some κ' ∧ some ρ1 = some ρ' ∧ ST M κ' ρ' kd aa T hd ln pt q (S + 1) ∧ NC M κ' ρ' ∧ ((RC M κ' ρ' kd aa T hd ln pt q q 0 ∧ HB ρ' hr T hd (some q) ∧ hr ≠ 0) ∨ (NR M κ' ρ' ∧ HB ρ' hr T hd none)) ∧ κ' M = κ M ∧ FC M κ κ' ∧ RF ρ ρ' :=
    fun hb => ⟨κ1, ρ1, rfl, rfl, hST, hNC1, Or.inr ⟨hNR1, hb⟩, k1n M (by omega), fc1, rf1⟩
  have hbo : ∀ (X : Option Nat), (0 < hr → hr ≤ x + 1 → 2 ≤ d ∨ (∃ k, k < T ∧ hd k = q ∧ ρ 13 k = -1) ∨ T = 8 ∨ X = some q) → HB ρ1 hr T hd X := by
    intro X hX p hp hp0 hp1
    rw [r1n 11 (by decide), r1n 13 (by decide)]
    by_cases z : p = q
    · subst z
      rw [← hr1, show su ρ 10 p (nI (x + 1)) 10 p = nI (x + 1) by simp [su_ap], nI_toInt (by omega)] at hp1
      rw [a4, toD]
      rcases hX hp0 (by omega) with u | u | u | u
      · exact Or.inl (by omega)
      · exact Or.inr (Or.inl u)
      · exact Or.inr (Or.inr (Or.inl u))
      · exact Or.inr (Or.inr (Or.inr u))
    · rw [← hr1, show su ρ 10 q (nI (x + 1)) 10 p = ρ 10 p by simp [su_ap, z]] at hp1
      rcases h3 p hp hp0 hp1 with u | u | u | u
      · exact Or.inl u
      · exact Or.inr (Or.inl u)
      · exact Or.inr (Or.inr (Or.inl u))
      · cases u
  have hold : 0 < hr → hr ≤ x → 2 ≤ d ∨ (∃ k, k < T ∧ hd k = q ∧ ρ 13 k = -1) ∨ T = 8 := by
    intro u v
    rcases h3 q hq u (by rw [a3, toI]; omega) with y | y | y | y
    · rw [a4, toD] at y
      exact Or.inl (by omega)
    · exact Or.inr (Or.inl y)
    · exact Or.inr (Or.inr y)
    · cases y
  rw [eC, eR]
  rcases hh with ⟨g1, g2, g3⟩ | ⟨g1, g2⟩
  · rw [g1, if_neg (show ¬ hr = 0 by omega)]
    have pe : (nI (x + 1) = nI hr) = (x + 1 = hr) := propext (nI_eq (by omega) (by omega))
    simp only [pe]
    cases o with
    | some r =>
      obtain ⟨o3, o4, o5, _⟩ := o2
      have c1 : ¬ cM M (some r) = -1 := nI_ne_neg (by omega)
      have c2 : ¬ cR (some r) = -1 := nI_ne_neg (by omega)
      simp only [c1, c2, if_false, ite_self]
      exact base (hbo none (fun _ _ => Or.inr (Or.inl ⟨r, o3, o4, o5⟩)))
    | none =>
      have c1 : cM M none = -1 := rfl
      have c2 : cR none = -1 := rfl
      simp only [c1, c2, if_true]
      by_cases z8 : 8 ≤ T
      · simp only [z8, if_true, ite_self]
        exact base (hbo none (fun _ _ => Or.inr (Or.inr (Or.inl (by omega)))))
      · by_cases z2 : 2 ≤ d
        · simp only [z8, z2, if_true, if_false, ite_self]
          exact base (hbo none (fun _ _ => Or.inl z2))
        · simp only [z8, z2, if_false]
          rcases Nat.lt_trichotomy (x + 1) hr with v | v | v
          · rw [if_neg (by omega), if_pos v]
            exact base (hbo none (fun _ u => by omega))
          · rw [if_pos v, if_neg (by omega)]
            obtain ⟨κ2, w1, w2, w3, w4, w5, w6, w7, w8⟩ := startS (b := -1) (c := -1) hM hST (by omega) hq ⟨d, by rw [r1n 11 (by decide)]; exact a4, by omega⟩ (Or.inl ⟨rfl, rfl⟩)
            refine ⟨κ2, _, w1, rfl, w2, ⟨by rw [w4]; exact hNC1.1, by rw [w7]; exact hNC1.2⟩, Or.inl ⟨w3, (hbo (some q) (fun _ _ => Or.inr (Or.inr (Or.inr rfl)))).fr (w8 10 (by decide)) (w8 11 (by decide)) (w8 13 (by decide)), by omega⟩, by rw [w4, k1n M (by omega)], fc1.trans w5.1, rf1.trans w6⟩
          · exfalso
            rcases hold (by omega) (by omega) with y | ⟨k, y1, y2, y3⟩ | y
            · omega
            · exact o2 k y1 ⟨y2, y3⟩
            · omega
  · rw [if_pos g1, g2, if_neg (fun u => by have := congrArg Int32.toInt u; rw [nI_toInt (by omega)] at this; have e : (2147483647 : Int32).toInt = 2147483647 := rfl; omega)]
    exact base (hbo none (fun u _ => by omega))
theorem plainS (hM : isM M) (hpc : PC κ n kd aa zz bb) (hpr : PR ρ n kd aa zz bb) (w : PW n kd aa zz) (hPn : P < n) (h : ST M κ ρ kd aa T hd ln pt P S) (hS6 : S < 1000) (h1 : NR M κ ρ) (hNC : NC M κ ρ) (h3 : HB ρ hr T hd none) (hh : HH (κ M 4) hr) (hc : EC M κ ρ kd zz bb P) (hr' : ER ρ kd zz bb P) :
    ∃ κ' ρ', zf_X3_doStep M κ = some κ' ∧ zb_X10_goesPlain_21 (nI hr) (nI P) ρ = some ρ' ∧ FC M κ κ' ∧ FR ρ ρ' ∧ κ' M 4 = κ M 4 ∧ T17 ρ ρ' ∧ ρ' 0 44 = 0 ∧
      ((ST M κ' ρ' kd aa T hd ln pt P (S + 1) ∧ NR M κ' ρ' ∧ κ' M 6 = 1 ∧ ρ' 0 22 = 0 ∧ ρ' 0 21 = 1) ∨
      ∃ P', P' ≤ 24 ∧ ST M κ' ρ' kd aa T hd ln pt P' (S + 1) ∧ NC M κ' ρ' ∧ ((RC M κ' ρ' kd aa T hd ln pt P' P' 0 ∧ HB ρ' hr T hd (some P') ∧ hr ≠ 0) ∨ (NR M κ' ρ' ∧ HB ρ' hr T hd none)) ∧ κ' M 6 = (if P' < n then κ M 6 else 2) ∧ ρ' 0 22 = ρ 0 22) := by
  have hn := w.1
  have hp : P < 24 := by omega
  have hml := M_lt hM
  have hm21 : 21 ≤ M := by rcases hM with rfl | rfl <;> decide
  have h' := h
  obtain ⟨s1, s2, s3, s4, s5, s6⟩ := h'
  have hq := nP_le (ρ := ρ) (bb := bb) w hPn
  generalize hka : su κ M 7 (κ M 7 + 1) = κa
  have ka_ne : ∀ i, i ≠ M → κa i = κ i := fun i hi => by rw [← hka]; simp (disch := omega) only [su_ne]
  have ka_M : ∀ i, i ≠ 7 → κa M i = κ M i := fun i a => by rw [← hka]; simp [su_ap, a]
  have hca : EC M κa ρ kd zz bb P := by unfold EC at *; rw [ka_ne (M + 4) (by omega)]; exact hc
  have hpca : PC κa n kd aa zz bb := hpc.fr (fun i hi => ka_ne i (by omega))
  have e32 : zf_X3_doStep M κ = zb_X3_doStep_57 M (nI P) κa := by
    unfold zf_X3_doStep zb_X3_doStep_32
    rw [letb_eq, s1.1, if_pos hNC.1, hka, ka_ne (M + 5) (by omega), if_pos h1.1]
  rw [e32, doStep57 hM hpca w hp hca, plainR hpr w hp s1.2.1 hq hr']
  have hg : RG M κa ρ := by
    unfold RG at *
    rw [ka_ne (M + 2) (by omega), ka_ne (M + 3) (by omega)]
    exact s2
  have hput := hg.put w hp hca hr'
  have common : ∀ (κz ρz : Sg) (q : Nat), (∀ i, i ≠ M → κz i = pC M κa kd aa P i) → (∀ i, i ≠ 5 → i ≠ 6 → κz M i = κa M i) → κz M 5 = nI q → (∀ i, i ≠ 0 → ρz i = aR ρ kd aa P q i) → (∀ i, i ≠ 21 → i ≠ 22 → ρz 0 i = aR ρ kd aa P q 0 i) → ST M κz ρz kd aa T hd ln pt q (S + 1) ∧ HT M κz ρz S ∧ FC M κ κz ∧ FR ρ ρz ∧ κz M 4 = κ M 4 ∧ T17 ρ ρz ∧ ρz 0 44 = 0 ∧ NC M κz ρz ∧ NR M κz ρz ∧ HB ρz hr T hd none := by
    intro κz ρz q z1 z2 z5 z3 z4
    have kz2 : ∀ i, i ≠ M → i ≠ M + 2 → i ≠ M + 3 → κz i = κ i := fun i a b c => by rw [z1 i a, pC_ne b c, ka_ne i a]
    have rz : ∀ i, i ≠ 0 → i ≠ 8 → i ≠ 9 → ρz i = ρ i := fun i a b c => by rw [z3 i a, aR_ne a b c]
    have rz0 : ∀ i, i ≠ 16 → i ≠ 17 → i ≠ 44 → i ≠ 21 → i ≠ 22 → ρz 0 i = ρ 0 i := fun i a b c d e => by rw [z4 i d e, aR_0 a b c]
    have r17 : ρz 0 17 = ρ 0 17 + 1 := by rw [z4 17 (by decide) (by decide), aR_17]
    refine ⟨?_, ?_, fun i hi => kz2 i (by omega) (by omega) (by omega), ⟨fun i a b => rz i (by omega) (by omega) (by omega), fun i hi => rz0 i (by omega) (by omega) (by omega) (by omega) (by omega)⟩, by rw [z2 4 (by decide) (by decide), ka_M 4 (by decide)], ⟨r17, Or.inl (rz0 18 (by decide) (by decide) (by decide) (by decide) (by decide))⟩, by rw [z4 44 (by decide) (by decide), aR_44], ⟨by rw [z2 10 (by decide) (by decide), ka_M 10 (by decide)]; exact hNC.1, by rw [rz0 37 (by decide) (by decide) (by decide) (by decide) (by decide)]; exact hNC.2⟩, ⟨by rw [kz2 _ (by omega) (by omega) (by omega)]; exact h1.1, by rw [rz0 39 (by decide) (by decide) (by decide) (by decide) (by decide)]; exact h1.2⟩, h3.fr (rz 10 (by decide) (by decide) (by decide)) (rz 11 (by decide) (by decide) (by decide)) (rz 13 (by decide) (by decide) (by decide))⟩
    · refine h.move kz2 rz ?_ ?_ (rz0 25 (by decide) (by decide) (by decide) (by decide) (by decide))
      · obtain ⟨a1', a2, a3, a4, a5, a6⟩ := s1
        refine ⟨z5, by rw [z4 16 (by decide) (by decide), aR_16], ?_, ?_, ?_, ?_⟩
        · rw [z2 7 (by decide) (by decide), r17, ← hka]; simp [su_ap, a3]
        · rw [z2 8 (by decide) (by decide), ka_M 8 (by decide), rz0 18 (by decide) (by decide) (by decide) (by decide) (by decide)]; exact a4
        · rw [z2 9 (by decide) (by decide), ka_M 9 (by decide), rz0 19 (by decide) (by decide) (by decide) (by decide) (by decide)]; exact a5
        · rw [kz2 (M + 5) (by omega) (by omega) (by omega), rz0 20 (by decide) (by decide) (by decide) (by decide) (by decide)]; exact a6
      · unfold RG at *
        rw [z1 (M + 2) (by omega), z1 (M + 3) (by omega), z3 8 (by decide), z3 9 (by decide), aR_r (Or.inl rfl), aR_r (Or.inr rfl)]
        exact hput
    · unfold HT at *
      rw [kz2 (M + 7) (by omega) (by omega) (by omega), kz2 (M + 8) (by omega) (by omega) (by omega), rz 10 (by decide) (by decide) (by decide), rz 11 (by decide) (by decide) (by decide)]
      exact s3
  by_cases k9 : kd P = 9
  · rw [if_pos k9, if_pos k9]
    have hnR : nR ρ kd aa zz bb P = P := by unfold nR ej eJmp; simp [k9]
    rw [hnR]
    obtain ⟨x1, x0, x2, x3, x4, x5, x6, x7, x8, x10⟩ := common (su (pC M κa kd aa P) M 6 1) (su (su (aR ρ kd aa P P) 0 22 0) 0 21 1) P (fun i a => by simp (disch := omega) only [su_ne]) (fun i a b => by rw [su_ap, if_pos rfl, if_neg b, pC_ne (by omega) (by omega)]) (by rw [su_ap, if_pos rfl, if_neg (by decide), pC_ne (by omega) (by omega), ka_M 5 (by decide)]; exact s1.1) (fun i a => by simp (disch := omega) only [su_ne]) (fun i a b => by simp [su_ap, a, b])
    exact ⟨_, _, rfl, rfl, x2, x3, x4, x5, x6, Or.inl ⟨x1, x8, by simp [su_ap], by simp [su_ap], by simp [su_ap]⟩⟩
  · rw [if_neg k9, if_neg k9]
    generalize hqe : nP ρ kd aa zz bb P = q at *
    have hmv : zb_X3_doStep_143 M (nI P) (nI q) (pC M κa kd aa P) = zf_X3_goOn M (ej ρ kd zz bb P && decide (q ≤ P)) (mv M (pC M κa kd aa P) n q) := doStep143 hM (hpca.fr (fun i hi => pC_ne (by omega) (by omega))) w hp (by rw [pC_ne (by omega) (by omega)]; exact hca.2.2.2.1) hq
    rw [hmv]
    obtain ⟨x1, x0, x2, x3, x4, x5, x6, x7, x8, x10⟩ := common (mv M (pC M κa kd aa P) n q) (aR ρ kd aa P q) q (fun i a => mv_ne a) (fun i a b => by rw [mv_M a b, pC_ne (by omega) (by omega)]) mv_5 (fun i a => rfl) (fun i a b => rfl)
    generalize hkm : mv M (pC M κa kd aa P) n q = κm at *
    generalize hra : aR ρ kd aa P q = ρa at *
    have y6 : κm M 6 = if q < n then κ M 6 else 2 := by rw [← hkm, mv_6, pC_ne (by omega) (by omega), ka_M 6 (by decide)]
    have y22 : ρa 0 22 = ρ 0 22 := by rw [← hra, aR_0 (by decide) (by decide) (by decide)]
    have eG : zf_X3_goOn M (ej ρ kd zz bb P && decide (q ≤ P)) κm = if (ej ρ kd zz bb P && decide (q ≤ P)) = true then zf_X3_warm M κm else some κm := by
      unfold zf_X3_goOn zb_X3_goOn_98
      rw [letb_eq, if_pos x7.1, if_pos x8.1]
      simp only [obd_id]
    rw [eG]
    by_cases b : (ej ρ kd zz bb P && decide (q ≤ P)) = true
    · rw [if_pos b, if_pos b]
      have hqP : q ≤ P := by simp at b; exact b.2
      obtain ⟨κ1, ρ1, k1, k2, k3, k4, k5, k6, k7, k8⟩ := warmS hM x1 x0 hS6 (by omega) x8 x7 x10 (by rw [x4]; exact hh)
      exact ⟨κ1, ρ1, k1, k2, x2.trans k7, x3.trans k8.1, by rw [k6]; exact x4, ⟨by rw [k8.2.1 17 (by decide)]; exact x5.1, by rw [k8.2.1 18 (by decide)]; exact x5.2⟩, by rw [k8.2.2.2]; exact x6, Or.inr ⟨q, hq, k3, k4, k5, by rw [k6]; exact y6, by rw [k8.2.2.1]; exact y22⟩⟩
    · rw [if_neg b, if_neg b]
      exact ⟨κm, ρa, rfl, rfl, x2, x3, x4, x5, x6, Or.inr ⟨q, hq, x1, x7, Or.inr ⟨x8, x10⟩, y6, y22⟩⟩
end Plain
