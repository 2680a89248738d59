section RecS
variable {M : Nat} {κ ρ κ' ρ' : Sg} {n : Nat} {kd aa zz : Nat → Nat} {bb : Nat → Int32} {T hr : Nat} {hd ln : Nat → Nat} {pt : Nat → Nat → Nat} {P P' S hN m : Nat}
theorem RC.frM (h : RC M κ ρ kd aa T hd ln pt P hN m) (h1 : ∀ i, i ≠ M → κ' i = κ i) : RC M κ' ρ kd aa T hd ln pt P hN m := by
  unfold RC RCa EN at *
  rw [h1 (M + 5) (by omega), h1 (M + 10 + 7 * T) (by omega), h1 (M + 10 + 7 * T + 1) (by omega), h1 (M + 10 + 7 * T + 2) (by omega), h1 (M + 10 + 7 * T + 3) (by omega), h1 (M + 10 + 7 * T + 4) (by omega), h1 (M + 10 + 7 * T + 5) (by omega), h1 (M + 10 + 7 * T + 6) (by omega)]
  exact h
theorem ER.fr (h : ER ρ kd zz bb P) (h8 : ρ' 8 = ρ 8) (h9 : ρ' 9 = ρ 9) (h1 : ∀ i, 13 ≤ i → i ≤ 15 → ρ' 0 i = ρ 0 i) : ER ρ' kd zz bb P ∧ eo ρ' kd zz bb P = eo ρ kd zz bb P ∧ ej ρ' kd zz bb P = ej ρ kd zz bb P := by
  unfold ER eo ej at *
  rw [h8, h9, h1 13 (by decide) (by decide), h1 14 (by decide) (by decide), h1 15 (by decide) (by decide)]
  exact ⟨h, rfl, rfl⟩
def aR (ρ : Sg) (kd aa : Nat → Nat) (P q : Nat) : Sg := su (su (pR (su ρ 0 44 0) kd aa P) 0 16 (nI q)) 0 17 (ρ 0 17 + 1)
theorem aR_ne {q i : Nat} (h0 : i ≠ 0) (h8 : i ≠ 8) (h9 : i ≠ 9) : aR ρ kd aa P q i = ρ i := by
  unfold aR; simp (disch := omega) only [su_ne]; rw [pR_ne h8 h9]; simp (disch := omega) only [su_ne]
theorem aR_0 {q i : Nat} (h : i ≠ 16) (h7 : i ≠ 17) (h4 : i ≠ 44) : aR ρ kd aa P q 0 i = ρ 0 i := by
  unfold aR; simp [su_ap, h, h7, pR_ne, h4]
theorem aR_44 {q : Nat} : aR ρ kd aa P q 0 44 = 0 := by unfold aR; simp [su_ap, pR_ne]
theorem aR_16 {q : Nat} : aR ρ kd aa P q 0 16 = nI q := by unfold aR; simp [su_ap]
theorem aR_17 {q : Nat} : aR ρ kd aa P q 0 17 = ρ 0 17 + 1 := by unfold aR; simp [su_ap]
theorem aR_r {q i : Nat} (h : i = 8 ∨ i = 9) : aR ρ kd aa P q i = pR ρ kd aa P i := by
  unfold aR pR
  by_cases z : kd P ≤ 5
  · rcases h with rfl | rfl <;> simp only [z, if_true] <;> funext j <;> simp [su_ap]
  · rcases h with rfl | rfl <;> simp only [z, if_false] <;> simp (disch := omega) only [su_ne]
theorem plainR (hpr : PR ρ n kd aa zz bb) (w : PW n kd aa zz) (hp : P < 24) (hP : ρ 0 16 = nI P) (hq : nP ρ kd aa zz bb P ≤ 24) (hr' : ER ρ kd zz bb P) (a1 : Int32) : zb_X10_goesPlain_21 a1 (nI P) ρ = if kd P = 9 then some (su (su (aR ρ kd aa P (nR ρ kd aa zz bb P)) 0 22 0) 0 21 1) else if (ej ρ kd zz bb P && decide (nP ρ kd aa zz bb P ≤ P)) = true then zf_X10_jumped a1 (aR ρ kd aa P (nP ρ kd aa zz bb P)) else some (aR ρ kd aa P (nP ρ kd aa zz bb P)) := by
  obtain ⟨e1, e2, e3⟩ := hr'.fr (ρ' := su ρ 0 44 0) (by simp (disch := omega) only [su_ne]) (by simp (disch := omega) only [su_ne]) (fun i a b => by simp [su_ap]; omega)
  have hp44 : PR (su ρ 0 44 0) n kd aa zz bb := hpr.su0 (by decide)
  have enR : nR (su ρ 0 44 0) kd aa zz bb P = nR ρ kd aa zz bb P := by unfold nR; rw [e3]
  unfold zb_X10_goesPlain_21 zb_X10_goesPlain_76
  rw [appliesR hp44 w hp (by simp [su_ap]; exact hP) e1, obd_some, enR]
  have f17 : su ρ 0 44 0 0 17 = ρ 0 17 := by simp [su_ap]
  rw [f17]
  show bd ((4 : Int32) * nI P) 96 (if aR ρ kd aa P (nR ρ kd aa zz bb P) 5 ((4 : Int32) * nI P).toNatClampNeg = 9 then some (su (su (aR ρ kd aa P (nR ρ kd aa zz bb P)) 0 22 0) 0 21 1) else if aR ρ kd aa P (nR ρ kd aa zz bb P) 0 15 = 0 then some (aR ρ kd aa P (nR ρ kd aa zz bb P)) else if nI P < aR ρ kd aa P (nR ρ kd aa zz bb P) 0 16 then some (aR ρ kd aa P (nR ρ kd aa zz bb P)) else obd (zf_X10_jumped a1 (aR ρ kd aa P (nR ρ kd aa zz bb P))) (fun σ13 => some σ13)) = _
  have k9 : (nI (kd P) = (9 : Int32)) = (kd P = 9) := propext (nI_eq (a := kd P) (b := 9) (by have := (w.2 P hp).1; omega) (by decide))
  rw [b4 hp, aR_ne (by decide) (by decide) (by decide), kR hpr hp, aR_0 (by decide) (by decide) (by decide), hr'.2.2, aR_16]
  simp only [k9, obd_id]
  by_cases z : kd P = 9
  · rw [if_pos z, if_pos z]
  · rw [if_neg z, if_neg z]
    have hnR : nR ρ kd aa zz bb P = nP ρ kd aa zz bb P := by unfold nR nP; split <;> simp [z]
    rw [hnR]
    have p1 : (nI P < nI (nP ρ kd aa zz bb P)) = (P < nP ρ kd aa zz bb P) := propext (nI_ltI (by omega) (by omega))
    simp only [p1]
    cases q : ej ρ kd zz bb P
    · simp [b2i]
    · by_cases z2 : P < nP ρ kd aa zz bb P
      · have : ¬ nP ρ kd aa zz bb P ≤ P := by omega
        simp [b2i, z2, this]
      · have : nP ρ kd aa zz bb P ≤ P := by omega
        simp [b2i, z2, this]
theorem recS (hM : isM M) (hpc : PC κ n kd aa zz bb) (hpr : PR ρ n kd aa zz bb) (w : PW n kd aa zz) (hPn : P < n) (h : ST M κ ρ kd aa T hd ln pt P S) (hR : RC M κ ρ kd aa T hd ln pt P hN m) (hNC : NC M κ ρ) (hm : m < 16) (h3 : HB ρ hr T hd (some hN)) (hc : EC M κ ρ kd zz bb P) (hr' : ER ρ kd zz bb P) (a1 : Int32) :
    ∃ κ' ρ', zf_X3_doStep M κ = some κ' ∧ obd (zf_X10_notes ρ) (fun σ5 => zb_X10_goesPlain_21 a1 (nI P) σ5) = some ρ' ∧ FC M κ κ' ∧ FR ρ ρ' ∧ κ' M 4 = κ M 4 ∧ T17 ρ ρ' ∧ ρ' 0 44 = 0 ∧
      ((ST M κ' ρ' kd aa T hd ln (up2 pt T m P) P (S + 1) ∧ RCa M κ' ρ' T hN (m + 1) ∧ κ' M 6 = 1 ∧ ρ' 0 22 = 0 ∧ ρ' 0 21 = 1) ∨
      ∃ P', P' ≤ 24 ∧ ST M κ' ρ' kd aa T hd ln (up2 pt T m P) P' (S + 1) ∧ NC M κ' ρ' ∧ ((RC M κ' ρ' kd aa T hd ln (up2 pt T m P) P' hN (m + 1) ∧ HB ρ' hr T hd (some hN)) ∨ (NR M κ' ρ' ∧ HB ρ' hr T hd none)) ∧ κ' M 6 = (if P' < n then κ M 6 else 2) ∧ ρ' 0 22 = ρ 0 22) := by
  have hn := w.1
  have hp : P < 24 := by omega
  have hml := M_lt hM
  have hm21 : 21 ≤ M := by rcases hM with rfl | rfl <;> decide
  have h' := h
  obtain ⟨s1, s2, s3, s4, s5, s6⟩ := h'
  have hRa := hR.1
  obtain ⟨r1, r2, r3, r4, r5, r6, r7, r8, r9, r10, r11, r12, r13⟩ := hRa
  have hq := nP_le (ρ := ρ) (bb := bb) w hPn
  -- the class
  generalize hka : su κ M 7 (κ M 7 + 1) = κa
  have ka_ne : ∀ i, i ≠ M → κa i = κ i := fun i hi => by rw [← hka]; simp (disch := omega) only [su_ne]
  have ka_M : ∀ i, i ≠ 7 → κa M i = κ M i := fun i a => by rw [← hka]; simp [su_ap, a]
  have hRa' := hR.frM ka_ne
  have hca : EC M κa ρ kd zz bb P := by unfold EC at *; rw [ka_ne (M + 4) (by omega)]; exact hc
  generalize hkn : nC M κa T m P = κn
  have kn_ne : ∀ i, i < M + 10 + 7 * T ∨ M + 17 + 7 * T ≤ i → κn i = κa i := fun i hi => by rw [← hkn]; exact nC_ne hi
  have hpcn : PC κn n kd aa zz bb := hpc.fr (fun i hi => by rw [kn_ne i (by omega), ka_ne i (by omega)])
  have hcn : EC M κn ρ kd zz bb P := by unfold EC at *; rw [kn_ne (M + 4) (by omega)]; exact hca
  have e32 : zf_X3_doStep M κ = zb_X3_doStep_57 M (nI P) κn := by
    unfold zf_X3_doStep zb_X3_doStep_32
    rw [letb_eq, s1.1, if_pos hNC.1, hka, ka_ne (M + 5) (by omega), r1, if_neg (nI_ne_neg (by omega)), tk_nI (isTr_k hM r3), nI_clamp (show M + 10 + 7 * T < 2 ^ 31 by omega), appendC (by rw [ka_ne _ (by omega)]; exact r9) hm, obd_some, hkn]
  rw [e32, doStep57 hM hpcn w hp hcn]
  -- the reference
  rw [notesR hpr w hp s1.2.1 s4.2.1 r3 r8 hm hr', obd_some]
  generalize hrn : nN ρ T m P (yy bb P) (zz P) (ew ρ kd zz bb P) = ρn
  have rn_ne : ∀ i, i ≠ 0 → i < 17 ∨ 22 < i → ρn i = ρ i := fun i a b => by rw [← hrn]; exact nN_ne a b
  have rn_0 : ∀ i, i ≠ 43 → ρn 0 i = ρ 0 i := fun i a => by rw [← hrn]; exact nN_0 a
  have rn_i : ∀ k i, k ≠ 0 → i ≠ 16 * T + m → ρn k i = ρ k i := fun k i a b => by rw [← hrn]; exact nN_i a b
  have hprn : PR ρn n kd aa zz bb := hpr.fr ⟨fun i a b => rn_ne i (by omega) (by omega), fun i hi => rn_0 i (by omega)⟩
  obtain ⟨ern, en2, en3⟩ := hr'.fr (ρ' := ρn) (rn_ne 8 (by decide) (by decide)) (rn_ne 9 (by decide) (by decide)) (fun i a b => rn_0 i (by omega))
  have enP : nP ρn kd aa zz bb P = nP ρ kd aa zz bb P := by unfold nP; rw [en3]
  have enR : nR ρn kd aa zz bb P = nR ρ kd aa zz bb P := by unfold nR; rw [en3]
  rw [plainR hprn w hp (by rw [rn_0 16 (by decide)]; exact s1.2.1) (by rw [enP]; exact hq) ern, enP, enR, en3]
  have hg : RG M κn ρn := by
    unfold RG at *
    rw [kn_ne (M + 2) (by omega), kn_ne (M + 3) (by omega), ka_ne (M + 2) (by omega), ka_ne (M + 3) (by omega), rn_ne 8 (by decide) (by decide), rn_ne 9 (by decide) (by decide)]
    exact s2
  have hcn' : EC M κn ρn kd zz bb P := by
    unfold EC ew at *
    rw [en2, en3, rn_ne 8 (by decide) (by decide)]
    exact hcn
  have hput := hg.put w hp hcn' ern
  -- what holds whatever the next point is
  have common : ∀ (κz ρz : Sg) (q : Nat), (∀ i, i ≠ M → κz i = pC M κn kd aa P i) → (∀ i, i ≠ 5 → i ≠ 6 → κz M i = κn M i) → κz M 5 = nI q → (∀ i, i ≠ 0 → ρz i = aR ρn kd aa P q i) → (∀ i, i ≠ 21 → i ≠ 22 → ρz 0 i = aR ρn kd aa P q 0 i) → ST M κz ρz kd aa T hd ln (up2 pt T m P) q (S + 1) ∧ FC M κ κz ∧ FR ρ ρz ∧ κz M 4 = κ M 4 ∧ T17 ρ ρz ∧ ρz 0 44 = 0 ∧ NC M κz ρz ∧ RCa M κz ρz T hN (m + 1) ∧ (kd P ≠ 9 → q = nP ρ kd aa zz bb P → RC M κz ρz kd aa T hd ln (up2 pt T m P) q hN (m + 1)) ∧ HB ρz hr T hd (some hN) := by
    intro κz ρz q z1 z2 z5 z3 z4
    have kz : ∀ i, i ≠ M → i ≠ M + 2 → i ≠ M + 3 → κz i = κn i := fun i a b c => by rw [z1 i a, pC_ne b c]
    have kz2 : ∀ i, i ≠ M → i ≠ M + 2 → i ≠ M + 3 → i < M + 10 + 7 * T ∨ M + 17 + 7 * T ≤ i → κz i = κ i := fun i a b c d => by rw [kz i a b c, kn_ne i d, ka_ne i a]
    have rz : ∀ i, i ≠ 0 → i ≠ 8 → i ≠ 9 → ρz i = ρn i := fun i a b c => by rw [z3 i a, aR_ne a b c]
    have rz0 : ∀ i, i ≠ 16 → i ≠ 17 → i ≠ 44 → i ≠ 21 → i ≠ 22 → i ≠ 43 → ρz 0 i = ρ 0 i := fun i a b c d e f => by rw [z4 i d e, aR_0 a b c, rn_0 i f]
    have hM7 : κn M = κa M := kn_ne M (by omega)
    have r17 : ρz 0 17 = ρ 0 17 + 1 := by rw [z4 17 (by decide) (by decide), aR_17, rn_0 17 (by decide)]
    have hnote := RC.note (κ' := κz) (ρ' := ρz) w hp hRa' hm hca (fun i a b => by rw [kz i (by omega) (by omega) (by omega), ← hkn]) (by rw [kz2 _ (by omega) (by omega) (by omega) (by omega), ka_ne _ (by omega)]) (fun i a b => by rw [rz i (by omega) (by omega) (by omega), ← hrn]) (fun i a b => rz0 i (by omega) (by omega) (by omega) (by omega) (by omega) (by omega)) (by rw [z4 43 (by decide) (by decide), aR_0 (by decide) (by decide) (by decide), ← hrn]; unfold nN; simp [su_ap]) (by rw [rz 11 (by decide) (by decide) (by decide), rn_ne 11 (by decide) (by decide)])
    refine ⟨?_, fun i hi => kz2 i (by omega) (by omega) (by omega) (by omega), ⟨fun i a b => by rw [rz i (by omega) (by omega) (by omega), rn_ne i (by omega) (by omega)], fun i hi => rz0 i (by omega) (by omega) (by omega) (by omega) (by omega) (by omega)⟩, by rw [z2 4 (by decide) (by decide), hM7, ka_M 4 (by decide)], ⟨r17, Or.inl (rz0 18 (by decide) (by decide) (by decide) (by decide) (by decide) (by decide))⟩, by rw [z4 44 (by decide) (by decide), aR_44], ⟨by rw [z2 10 (by decide) (by decide), hM7, ka_M 10 (by decide)]; exact hNC.1, by rw [rz0 37 (by decide) (by decide) (by decide) (by decide) (by decide) (by decide)]; exact hNC.2⟩, hnote.1, fun k9 hqe => by rw [hqe]; exact hnote.2 k9, h3.fr (by rw [rz 10 (by decide) (by decide) (by decide), rn_ne 10 (by decide) (by decide)]) (by rw [rz 11 (by decide) (by decide) (by decide), rn_ne 11 (by decide) (by decide)]) (by rw [rz 13 (by decide) (by decide) (by decide), rn_ne 13 (by decide) (by decide)])⟩
    refine h.move2 kz2 (by rw [kz _ (by omega) (by omega) (by omega), ← hkn, nC_h (by decide), ka_ne _ (by omega)]) (fun i a b c d => by rw [rz i a b c, rn_ne i a d]) (fun k i a b hi => by rw [rz k (by omega) (by omega) (by omega), rn_i k i (by omega) (by omega)]) ?_ ?_ (rz0 25 (by decide) (by decide) (by decide) (by decide) (by decide) (by decide))
    · obtain ⟨a1', a2, a3, a4, a5, a6⟩ := s1
      refine ⟨z5, by rw [z4 16 (by decide) (by decide), aR_16], ?_, ?_, ?_, ?_⟩
      · rw [z2 7 (by decide) (by decide), hM7, r17, ← hka]; simp [su_ap, a3]
      · rw [z2 8 (by decide) (by decide), hM7, ka_M 8 (by decide), rz0 18 (by decide) (by decide) (by decide) (by decide) (by decide) (by decide)]; exact a4
      · rw [z2 9 (by decide) (by decide), hM7, ka_M 9 (by decide), rz0 19 (by decide) (by decide) (by decide) (by decide) (by decide) (by decide)]; exact a5
      · rw [kz2 (M + 5) (by omega) (by omega) (by omega) (by omega), rz0 20 (by decide) (by decide) (by decide) (by decide) (by decide) (by decide)]; exact a6
    · unfold RG at *
      rw [z1 (M + 2) (by omega), z1 (M + 3) (by omega), z3 8 (by decide), z3 9 (by decide), aR_r (Or.inl rfl), aR_r (Or.inr rfl)]
      exact hput
  have hM7 : κn M = κa M := kn_ne M (by omega)
  by_cases k9 : kd P = 9
  · rw [if_pos k9, if_pos k9]
    have hnR : nR ρ kd aa zz bb P = P := by unfold nR ej eJmp; simp [k9]
    rw [hnR]
    obtain ⟨x1, x2, x3, x4, x5, x6, x7, x8, x9, x10⟩ := common (su (pC M κn kd aa P) M 6 1) (su (su (aR ρn kd aa P P) 0 22 0) 0 21 1) P (fun i a => by simp (disch := omega) only [su_ne]) (fun i a b => by rw [su_ap, if_pos rfl, if_neg b, pC_ne (by omega) (by omega)]) (by rw [su_ap, if_pos rfl, if_neg (by decide), pC_ne (by omega) (by omega), hM7, ka_M 5 (by decide)]; exact s1.1) (fun i a => by simp (disch := omega) only [su_ne]) (fun i a b => by simp [su_ap, a, b])
    exact ⟨_, _, rfl, rfl, x2, x3, x4, x5, x6, Or.inl ⟨x1, x8, by simp [su_ap], by simp [su_ap], by simp [su_ap]⟩⟩
  · rw [if_neg k9, if_neg k9]
    generalize hqe : nP ρ kd aa zz bb P = q at *
    have hmv : zb_X3_doStep_143 M (nI P) (nI q) (pC M κn kd aa P) = zf_X3_goOn M (ej ρ kd zz bb P && decide (q ≤ P)) (mv M (pC M κn kd aa P) n q) := doStep143 hM (hpcn.fr (fun i hi => pC_ne (by omega) (by omega))) w hp (by rw [pC_ne (by omega) (by omega)]; exact hcn.2.2.2.1) hq
    rw [hmv]
    obtain ⟨x1, x2, x3, x4, x5, x6, x7, x8, x9, x10⟩ := common (mv M (pC M κn kd aa P) n q) (aR ρn kd aa P q) q (fun i a => mv_ne a) (fun i a b => by rw [mv_M a b, pC_ne (by omega) (by omega)]) mv_5 (fun i a => rfl) (fun i a b => rfl)
    generalize hkm : mv M (pC M κn kd aa P) n q = κm at *
    generalize hra : aR ρn kd aa P q = ρa at *
    have y6 : κm M 6 = if q < n then κ M 6 else 2 := by rw [← hkm, mv_6, pC_ne (by omega) (by omega), hM7, ka_M 6 (by decide)]
    have y22 : ρa 0 22 = ρ 0 22 := by rw [← hra, aR_0 (by decide) (by decide) (by decide), rn_0 22 (by decide)]
    have x8' := x8
    obtain ⟨u1, u2, u3, u4, u5, u6, u7, u8, u9, u10, u11, u12, u13⟩ := x8'
    have eG : zf_X3_goOn M (ej ρ kd zz bb P && decide (q ≤ P)) κm = if (ej ρ kd zz bb P && decide (q ≤ P)) = true then (if q = hN then some κm else zf_X2_drop M κm) else some κm := by
      unfold zf_X3_goOn zb_X3_goOn_98
      have p1 : (nI q = nI hN) = (q = hN) := propext (nI_eq (by omega) (by omega))
      rw [letb_eq, if_pos x7.1, u1, if_neg (nI_ne_neg (by omega)), tk_nI (isTr_k hM r3), nI_clamp (show M + 10 + 7 * T < 2 ^ 31 by omega), u7, x1.1.1]
      simp only [p1, obd_id]
    have eJ : zf_X10_jumped a1 ρa = if q = hN then some ρa else zf_X10_lets ρa := by
      unfold zf_X10_jumped zb_X10_jumped_22
      have p1 : (nI q = nI hN) = (q = hN) := propext (nI_eq (by omega) (by omega))
      rw [if_neg (by rw [u2]; decide), u6, x1.1.2.1]
      simp only [p1, obd_id]
    have stay : ∃ κ' ρ', some κm = some κ' ∧ some ρa = some ρ' ∧ FC M κ κ' ∧ FR ρ ρ' ∧ κ' M 4 = κ M 4 ∧ T17 ρ ρ' ∧ ρ' 0 44 = 0 ∧ ((ST M κ' ρ' kd aa T hd ln (up2 pt T m P) P (S + 1) ∧ RCa M κ' ρ' T hN (m + 1) ∧ κ' M 6 = 1 ∧ ρ' 0 22 = 0 ∧ ρ' 0 21 = 1) ∨ ∃ P', P' ≤ 24 ∧ ST M κ' ρ' kd aa T hd ln (up2 pt T m P) P' (S + 1) ∧ NC M κ' ρ' ∧ ((RC M κ' ρ' kd aa T hd ln (up2 pt T m P) P' hN (m + 1) ∧ HB ρ' hr T hd (some hN)) ∨ (NR M κ' ρ' ∧ HB ρ' hr T hd none)) ∧ κ' M 6 = (if P' < n then κ M 6 else 2) ∧ ρ' 0 22 = ρ 0 22) :=
      ⟨κm, ρa, rfl, rfl, x2, x3, x4, x5, x6, Or.inr ⟨q, hq, x1, x7, Or.inl ⟨x9 k9 rfl, x10⟩, y6, y22⟩⟩
    rw [eG, eJ]
    by_cases b : (ej ρ kd zz bb P && decide (q ≤ P)) = true
    · rw [if_pos b, if_pos b]
      by_cases z : q = hN
      · rw [if_pos z, if_pos z]
        exact stay
      · rw [if_neg z, if_neg z]
        obtain ⟨κ1, ρ1, k1, k2, k3, k4, k5, k6, k7, k8, k9', k10⟩ := dropS hM x1 x8 x10
        exact ⟨κ1, ρ1, k1, k2, x2.trans k6.1, x3.trans k7.1, by rw [k8]; exact x4, ⟨by rw [k7.2.1 17 (by decide)]; exact x5.1, by rw [k7.2.1 18 (by decide)]; exact x5.2⟩, by rw [k7.2.2.2]; exact x6, Or.inr ⟨q, hq, k3, ⟨by rw [k8]; exact x7.1, by rw [k9']; exact x7.2⟩, Or.inr ⟨k4, k5⟩, by rw [k8]; exact y6, by rw [k7.2.2.1]; exact y22⟩⟩
    · rw [if_neg b, if_neg b]
      exact stay
end RecS
