/-- a step more, perhaps one more in compiled code -/
def T17 (ρ ρ' : Sg) : Prop := ρ' 0 17 = ρ 0 17 + 1 ∧ (ρ' 0 18 = ρ 0 18 ∨ ρ' 0 18 = ρ 0 18 + 1)
section Comp
variable {M : Nat} {κ ρ : Sg} {n : Nat} {kd aa zz : Nat → Nat} {bb : Nat → Int32} {T hr : Nat} {hd ln : Nat → Nat} {pt : Nat → Nat → Nat} {P S c e : Nat}
theorem mv_ne {q i : Nat} (h : i ≠ M) : mv M κ n q i = κ i := by unfold mv; split <;> simp (disch := omega) only [su_ne]
theorem mv_M {q i : Nat} (h5 : i ≠ 5) (h6 : i ≠ 6) : mv M κ n q M i = κ M i := by unfold mv; split <;> simp [su_ap, h5, h6]
theorem mv_5 {q : Nat} : mv M κ n q M 5 = nI q := by unfold mv; split <;> simp [su_ap]
theorem mv_6 {q : Nat} : mv M κ n q M 6 = if q < n then κ M 6 else 2 := by unfold mv; split <;> simp [su_ap]
theorem compiledS (hM : isM M) (hpc : PC κ n kd aa zz bb) (hpr : PR ρ n kd aa zz bb) (w : PW n kd aa zz) (hPn : P < n) (h : ST M κ ρ kd aa T hd ln pt P S) (h1 : NR M κ ρ) (hC : CU M κ ρ T ln pt P c e) (h3 : HB ρ hr T hd none) (hc : EC M κ ρ kd zz bb P) (hr' : ER ρ kd zz bb P) (hw : ρ 20 (16 * c + e) = ew ρ kd zz bb P) :
    ∃ κ' ρ' P', zf_X3_doStep M κ = some κ' ∧ zf_X10_goesCompiled ρ = some ρ' ∧ ST M κ' ρ' kd aa T hd ln pt P' (S + 1) ∧ NR M κ' ρ' ∧ HB ρ' hr T hd none ∧ (∃ c' e', CU M κ' ρ' T ln pt P' c' e') ∧ P' ≤ 24 ∧ κ' M 6 = (if P' < n then κ M 6 else 2) ∧ κ' M 4 = κ M 4 ∧ ρ' 0 22 = ρ 0 22 ∧ ρ' 0 44 = ρ 0 44 ∧ T17 ρ ρ' ∧ FC M κ κ' ∧ FR ρ ρ' := by
  have hn := w.1
  have hp : P < 24 := by omega
  have hml := M_lt hM
  have hm21 : 21 ≤ M := by rcases hM with rfl | rfl <;> decide
  have h' := h
  obtain ⟨s1, s2, s3, s4, s5, s6⟩ := h'
  obtain ⟨t1, t2, t3, t4, t5, t6⟩ := s4
  have hC' := hC
  obtain ⟨c1, c2, c3, c4, c5, c6, c7⟩ := hC'
  obtain ⟨d1, d2, d3, d4, d5, d6, d7, d8, d9, d10⟩ := t5 c c1
  obtain ⟨g9, gx, _⟩ := (s5 c c1).2.2 e c2
  rw [c7] at g9 gx
  rw [hw, nP_nx w hp] at gx
  have hq := nP_le (ρ := ρ) (bb := bb) w hPn
  have hnR : nR ρ kd aa zz bb P = nP ρ kd aa zz bb P := by unfold nR nP; split <;> simp [g9]
  generalize hqe : nP ρ kd aa zz bb P = q at *
  -- the class
  generalize hka : su (su κ M 7 (κ M 7 + 1)) M 8 (κ M 8 + 1) = κa
  have ka_ne : ∀ i, i ≠ M → κa i = κ i := fun i hi => by rw [← hka]; simp (disch := omega) only [su_ne]
  have ka_M : ∀ i, i ≠ 7 → i ≠ 8 → κa M i = κ M i := fun i a b => by rw [← hka]; simp [su_ap, a, b]
  have hpca : PC κa n kd aa zz bb := hpc.fr (fun i hi => ka_ne i (by omega))
  have hca : EC M κa ρ kd zz bb P := by unfold EC at *; rw [ka_ne (M + 4) (by omega)]; exact hc
  generalize hkm : mv M (pC M κa kd aa P) n q = κm
  have km_ne : ∀ i, i ≠ M → i ≠ M + 2 → i ≠ M + 3 → κm i = κ i := fun i a b c => by rw [← hkm, mv_ne a, pC_ne b c, ka_ne i a]
  have km_M : ∀ i, i ≠ 5 → i ≠ 6 → κm M i = κa M i := fun i a b => by rw [← hkm, mv_M a b, pC_ne (by omega) (by omega)]
  have eC : zf_X3_doStep M κ = zf_X3_goOn M (ej ρ kd zz bb P && decide (q ≤ P)) κm := by
    unfold zf_X3_doStep zb_X3_doStep_32
    rw [letb_eq, s1.1, if_neg (by rw [c3]; exact nI_ne_neg (by omega)), hka, if_pos (by rw [ka_ne _ (by omega)]; exact h1.1), doStep57 hM hpca w hp hca, if_neg g9, hqe, doStep143 hM (hpca.fr (fun i hi => pC_ne (by omega) (by omega))) w hp (by rw [pC_ne (by omega) (by omega)]; exact hca.2.2.2.1) hq, hkm]
  have m10 : κm M 10 = nI (M + 10 + 7 * c) := by rw [km_M 10 (by decide) (by decide), ka_M 10 (by decide) (by decide)]; exact c3
  have m11 : κm M 11 = nI e := by rw [km_M 11 (by decide) (by decide), ka_M 11 (by decide) (by decide)]; exact c5
  have n1 : (nI (M + 10 + 7 * c)).toNatClampNeg = M + 10 + 7 * c := nI_clamp (by omega)
  have eG : zf_X3_goOn M (ej ρ kd zz bb P && decide (q ≤ P)) κm = if e + 1 < ln c then some (su κm M 11 (nI (e + 1))) else zf_X3_begin M (κm (M + 9) (hd c)) (su κm M 11 (nI (e + 1))) := by
    unfold zf_X3_goOn zb_X3_goOn_98
    have p1 : (nI (e + 1) < nI (ln c)) = (e + 1 < ln c) := propext (nI_ltI (by omega) (by omega))
    rw [letb_eq, m10, if_neg (nI_ne_neg (by omega)), tk_nI (isTr_k hM (by omega)), n1, m11, nI_1, km_ne (M + 10 + 7 * c) (by omega) (by omega) (by omega), d7, d5, bd_nI d1 (by decide), nI_clamp (show hd c < 2 ^ 31 by omega)]
    simp only [p1, obd_id]
  -- the reference
  generalize hra : su (su (pR ρ kd aa P) 0 16 (nI q)) 0 17 (ρ 0 17 + 1) = ρa
  have ra_ne : ∀ i, i ≠ 0 → i ≠ 8 → i ≠ 9 → ρa i = ρ i := fun i a b c => by rw [← hra]; simp (disch := omega) only [su_ne]; exact pR_ne b c
  have ra_0 : ∀ i, i ≠ 16 → i ≠ 17 → ρa 0 i = ρ 0 i := fun i a b => by rw [← hra]; simp [su_ap, a, b, pR_ne]
  generalize hrb : su (su ρa 0 18 (ρa 0 18 + 1)) 0 38 (nI (e + 1)) = ρb
  have rb_ne : ∀ i, i ≠ 0 → ρb i = ρa i := fun i a => by rw [← hrb]; simp (disch := omega) only [su_ne]
  have rb_0 : ∀ i, i ≠ 18 → i ≠ 38 → ρb 0 i = ρa 0 i := fun i a b => by rw [← hrb]; simp [su_ap, a, b]
  have eR : zf_X10_goesCompiled ρ = if e + 1 < ln c then some ρb else obd (zf_X10_rootOf (nI (hd c)) ρb) (fun r5 => zf_X10_enters r5 ρb) := by
    unfold zf_X10_goesCompiled zb_X10_goesCompiled_57
    have p1 : (nI (e + 1) = nI (ln c)) = (e + 1 = ln c) := propext (nI_eq (by omega) (by omega))
    rw [appliesR hpr w hp s1.2.1 hr', hnR, hra, obd_some, ra_0 37 (by decide) (by decide), c4, bd_nI (by omega) (by decide), nI_clamp (show c < 2 ^ 31 by omega), ra_0 38 (by decide) (by decide), c6, nI_1, hrb, ra_ne 15 (by decide) (by decide) (by decide), d6, ra_ne 12 (by decide) (by decide) (by decide), d4]
    simp only [p1, obd_id]
    by_cases z : e + 1 < ln c
    · rw [if_pos z, if_neg (by omega)]
    · rw [if_neg z, if_pos (by omega)]
  -- both behind it
  have rb16 : ρb 0 16 = nI q := by rw [rb_0 16 (by decide) (by decide), ← hra]; simp [su_ap]
  have rb17 : ρb 0 17 = ρ 0 17 + 1 := by rw [rb_0 17 (by decide) (by decide), ← hra]; simp [su_ap]
  have rb18 : ρb 0 18 = ρ 0 18 + 1 := by rw [← hrb]; simp [su_ap]; exact ra_0 18 (by decide) (by decide)
  generalize hkb : su κm M 11 (nI (e + 1)) = κb
  have kb_ne : ∀ i, i ≠ M → κb i = κm i := fun i a => by rw [← hkb]; simp (disch := omega) only [su_ne]
  have kb_M : ∀ i, i ≠ 11 → κb M i = κm M i := fun i a => by rw [← hkb]; simp [su_ap, a]
  have hST : ST M κb ρb kd aa T hd ln pt q (S + 1) := by
    refine h.move (fun i a b c => by rw [kb_ne i a, km_ne i a b c]) (fun i a b c => by rw [rb_ne i a, ra_ne i a b c]) ?_ ?_ (by rw [rb_0 25 (by decide) (by decide), ra_0 25 (by decide) (by decide)])
    · obtain ⟨a1, a2, a3, a4, a5, a6⟩ := s1
      refine ⟨?_, rb16, ?_, ?_, ?_, ?_⟩
      · rw [kb_M 5 (by decide), ← hkm]; exact mv_5
      · rw [kb_M 7 (by decide), km_M 7 (by decide) (by decide), rb17, ← hka]; simp [su_ap, a3]
      · rw [kb_M 8 (by decide), km_M 8 (by decide) (by decide), rb18, ← hka]; simp [su_ap, a4]
      · rw [kb_M 9 (by decide), km_M 9 (by decide) (by decide), ka_M 9 (by decide) (by decide), rb_0 19 (by decide) (by decide), ra_0 19 (by decide) (by decide)]; exact a5
      · rw [kb_ne (M + 5) (by omega), km_ne (M + 5) (by omega) (by omega) (by omega), rb_0 20 (by decide) (by decide), ra_0 20 (by decide) (by decide)]; exact a6
    · have hg : RG M κa ρ := by unfold RG at *; rw [ka_ne (M + 2) (by omega), ka_ne (M + 3) (by omega)]; exact s2
      have := hg.put w hp hca hr'
      unfold RG at *
      rw [kb_ne (M + 2) (by omega), kb_ne (M + 3) (by omega), rb_ne 8 (by decide), rb_ne 9 (by decide), ← hkm, mv_ne (show M + 2 ≠ M by omega), mv_ne (show M + 3 ≠ M by omega), ← hra]
      simp (disch := omega) only [su_ne]
      exact this
  have hNR : NR M κb ρb := ⟨by rw [kb_ne _ (by omega), km_ne _ (by omega) (by omega) (by omega)]; exact h1.1, by rw [rb_0 39 (by decide) (by decide), ra_0 39 (by decide) (by decide)]; exact h1.2⟩
  have hHB : HB ρb hr T hd none := h3.fr (by rw [rb_ne _ (by decide), ra_ne _ (by decide) (by decide) (by decide)]) (by rw [rb_ne _ (by decide), ra_ne _ (by decide) (by decide) (by decide)]) (by rw [rb_ne _ (by decide), ra_ne _ (by decide) (by decide) (by decide)])
  have k6 : κb M 6 = if q < n then κ M 6 else 2 := by
    rw [kb_M 6 (by decide), ← hkm, mv_6, pC_ne (by omega) (by omega), ka_M 6 (by decide) (by decide)]
  have k4 : κb M 4 = κ M 4 := by rw [kb_M 4 (by decide), km_M 4 (by decide) (by decide), ka_M 4 (by decide) (by decide)]
  have fc : FC M κ κb := fun i hi => by rw [kb_ne i (by omega), km_ne i (by omega) (by omega) (by omega)]
  have fr : FR ρ ρb := ⟨fun i a b => by rw [rb_ne i (by omega), ra_ne i (by omega) (by omega) (by omega)], fun i hi => by rw [rb_0 i (by omega) (by omega), ra_0 i (by omega) (by omega)]⟩
  rw [eC, eG, eR]
  by_cases z : e + 1 < ln c
  · rw [if_pos z, if_pos z]
    rw [if_pos z] at gx
    exact ⟨κb, ρb, q, by rw [← hkb], rfl, hST, hNR, hHB, ⟨c, e + 1, c1, z, by rw [kb_M 10 (by decide)]; exact m10, by rw [rb_0 37 (by decide) (by decide), ra_0 37 (by decide) (by decide)]; exact c4, by rw [← hkb]; simp [su_ap], by rw [← hrb]; simp [su_ap], gx.symm⟩, hq, k6, k4, by rw [rb_0 22 (by decide) (by decide), ra_0 22 (by decide) (by decide)], by rw [rb_0 44 (by decide) (by decide), ra_0 44 (by decide) (by decide)], ⟨rb17, Or.inr rb18⟩, fc, fr⟩
  · rw [if_neg z, if_neg z]
    rw [if_neg z] at gx
    obtain ⟨_, _, _, u4, u5, u6⟩ := hST
    obtain ⟨x, x1, x2⟩ := u6 (hd c) d1
    rw [rootR u4 d1 x2, obd_some, hkb, ← kb_ne (M + 9) (by omega), x1]
    obtain ⟨⟨r, r1, r2, r3⟩, _, _⟩ := s5 c c1
    cases x with
    | none => exact absurd ⟨r2, by rw [rb_ne 13 (by decide), ra_ne 13 (by decide) (by decide) (by decide)]; exact r3⟩ (x2 r r1)
    | some r0 =>
      obtain ⟨y1, y2, y3, y4⟩ := x2
      have hST : ST M κb ρb kd aa T hd ln pt q (S + 1) := ⟨by assumption, by assumption, by assumption, u4, u5, u6⟩
      obtain ⟨κ', ρ', e1, e2, e3, e4, e5, e6, e7, e8, e9⟩ := beginS hM hST y1 (((u5 r0 y1).2.1 y3).trans (y2.trans gx.symm))
      refine ⟨κ', ρ', q, e1, e2, e3, ⟨by rw [e7]; exact hNR.1, by rw [e5]; exact hNR.2⟩, hHB.fr (e6 10 (by decide) (by decide)) (e6 11 (by decide) (by decide)) (e6 13 (by decide) (by decide)), ⟨r0, 0, e4⟩, hq, by rw [e8.2.2 6 (by decide)]; exact k6, by rw [e8.2.2 4 (by decide)]; exact k4, ?_, ?_, ?_, fc.trans e8.1, fr.trans e9.1⟩
      · rw [e9.2.2.1, rb_0 22 (by decide) (by decide), ra_0 22 (by decide) (by decide)]
      · rw [e9.2.2.2, rb_0 44 (by decide) (by decide), ra_0 44 (by decide) (by decide)]
      · exact ⟨by rw [e9.2.1 17 (by decide)]; exact rb17, Or.inr (by rw [e9.2.1 18 (by decide)]; exact rb18)⟩
end Comp
