/-! one step: registers, the next point -/
section Move
variable {M : Nat} {κ ρ κ' ρ' : Sg} {n : Nat} {kd aa zz : Nat → Nat} {bb : Nat → Int32} {T hr : Nat} {hd ln : Nat → Nat} {pt : Nat → Nat → Nat} {P P' S c e : Nat}
theorem TC.fr2 (h : TC M κ ρ T hd ln pt) (h1 : ∀ n, M + 10 ≤ n → n < M + 10 + 7 * T → κ' n = κ n) (h2 : κ' (M + 5) 4 = κ (M + 5) 4) (h3 : ∀ n, 12 ≤ n → n ≤ 16 → ρ' n = ρ n) (h4 : ρ' 0 25 = ρ 0 25) (h5 : ∀ n i, 17 ≤ n → n ≤ 22 → i < 16 * T → ρ' n i = ρ n i) (h6 : ∀ k, k < 8 → κ' (M + 10 + 7 * k) 0 = κ (M + 10 + 7 * k) 0) {pt' : Nat → Nat → Nat} (h7 : ∀ k e, k < T → pt' k e = pt k e) : TC M κ' ρ' T hd ln pt' := by
  obtain ⟨a, b, c, d, e, f⟩ := h
  refine ⟨a, by rw [h4]; exact b, by rw [h2]; exact c, fun k hk => by rw [h6 k hk]; exact d k hk, fun k hk => ?_, fun k e' hk he => ?_⟩
  · have := e k hk
    unfold HD at *
    rw [h1 _ (by omega) (by omega), h3 12 (by decide) (by decide), h3 13 (by decide) (by decide), h3 14 (by decide) (by decide), h3 15 (by decide) (by decide), h3 16 (by decide) (by decide)]
    exact this
  · have := f k e' hk he
    have hl := (e k hk).2.2.1
    rw [h7 k e' hk]
    unfold EN at *
    rw [h1 (M + 10 + 7 * k + 1) (by omega) (by omega), h1 (M + 10 + 7 * k + 2) (by omega) (by omega), h1 (M + 10 + 7 * k + 3) (by omega) (by omega), h1 (M + 10 + 7 * k + 4) (by omega) (by omega), h1 (M + 10 + 7 * k + 5) (by omega) (by omega), h1 (M + 10 + 7 * k + 6) (by omega) (by omega), h5 17 _ (by decide) (by decide) (by omega), h5 18 _ (by decide) (by decide) (by omega), h5 19 _ (by decide) (by decide) (by omega), h5 20 _ (by decide) (by decide) (by omega), h5 21 _ (by decide) (by decide) (by omega), h5 22 _ (by decide) (by decide) (by omega)]
    exact this
theorem GT.fr2 (h : GT ρ kd aa T hd ln pt) (hl : ∀ k, k < T → ln k ≤ 16) (hl0 : ∀ k, k < T → 1 ≤ ln k) (h1 : ρ' 13 = ρ 13) (h5 : ∀ n i, 17 ≤ n → n ≤ 22 → i < 16 * T → ρ' n i = ρ n i) {pt' : Nat → Nat → Nat} (h7 : ∀ k e, k < T → pt' k e = pt k e) : GT ρ' kd aa T hd ln pt' := by
  intro k hk
  obtain ⟨a, b, c⟩ := h k hk
  have := hl k hk
  rw [h1]
  refine ⟨a, fun z => by rw [h7 k 0 hk]; exact b z, fun e he => ?_⟩
  obtain ⟨c1, c2, c3⟩ := c e he
  rw [h7 k e hk, h7 k (e + 1) hk, h5 20 _ (by decide) (by decide) (by omega), h5 22 _ (by decide) (by decide) (by omega)]
  refine ⟨c1, c2, ?_⟩
  rcases c3 with z | ⟨k', z1, z2, z3, z4, z5⟩
  · exact Or.inl z
  · exact Or.inr ⟨k', z1, z2, z3, z4, by rw [h7 k' 0 z2]; exact z5⟩
theorem HT.mono {S' : Nat} (h : HT M κ ρ S) (hs : S ≤ S') : HT M κ ρ S' := fun p hp => by
  obtain ⟨a, b, x, d, c1, c2, c3, c4⟩ := h p hp
  exact ⟨a, b, x, d, c1, c2, by omega, c4⟩
/-- registers and point move on; the rest stays -/
theorem ST.move (h : ST M κ ρ kd aa T hd ln pt P S) (h1 : ∀ n, n ≠ M → n ≠ M + 2 → n ≠ M + 3 → κ' n = κ n) (h2 : ∀ n, n ≠ 0 → n ≠ 8 → n ≠ 9 → ρ' n = ρ n) (h3 : SC M κ' ρ' P') (h4 : RG M κ' ρ') (h5 : ρ' 0 25 = ρ 0 25) : ST M κ' ρ' kd aa T hd ln pt P' (S + 1) := by
  obtain ⟨s1, s2, s3, s4, s5, s6⟩ := h
  refine ⟨h3, h4, ?_, s4.fr (fun n a b => h1 n (by omega) (by omega) (by omega)) (by rw [h1 (M + 5) (by omega) (by omega) (by omega)]) (fun n a b => h2 n (by omega) (by omega) (by omega)) h5, s5.fr (h2 _ (by decide) (by decide) (by decide)) (h2 _ (by decide) (by decide) (by decide)) (h2 _ (by decide) (by decide) (by decide)), s6.fr (h1 _ (by omega) (by omega) (by omega)) (h2 _ (by decide) (by decide) (by decide))⟩
  have := s3.mono (Nat.le_succ S)
  unfold HT at *
  rw [h1 (M + 7) (by omega) (by omega) (by omega), h1 (M + 8) (by omega) (by omega) (by omega), h2 10 (by decide) (by decide) (by decide), h2 11 (by decide) (by decide) (by decide)]
  exact this
/-- what the effect of the code at the point is, as both sides hold it -/
def ky (ρ : Sg) (bb : Nat → Int32) (P : Nat) : Int32 := ρ 8 (yy bb P)
def eo (ρ : Sg) (kd zz : Nat → Nat) (bb : Nat → Int32) (P : Nat) : Int32 × Int32 := eOut (kd P) (ρ 8 (yy bb P)) (ρ 9 (yy bb P)) (ρ 8 (zz P)) (ρ 9 (zz P)) (bb P)
def ej (ρ : Sg) (kd zz : Nat → Nat) (bb : Nat → Int32) (P : Nat) : Bool := eJmp (kd P) (ρ 8 (yy bb P)) (ρ 9 (yy bb P)) (ρ 8 (zz P)) (ρ 9 (zz P))
def ew (ρ : Sg) (kd zz : Nat → Nat) (bb : Nat → Int32) (P : Nat) : Int32 := eWay (kd P) (eo ρ kd zz bb P) (ej ρ kd zz bb P)
def EC (M : Nat) (κ ρ : Sg) (kd zz : Nat → Nat) (bb : Nat → Int32) (P : Nat) : Prop := κ (M + 4) 0 = ρ 8 (yy bb P) ∧ κ (M + 4) 1 = ρ 8 (zz P) ∧ κ (M + 4) 2 = ew ρ kd zz bb P ∧ κ (M + 4) 3 = b2i (ej ρ kd zz bb P) ∧ (kd P ≤ 5 → κ (M + 4) 4 = (eo ρ kd zz bb P).1 ∧ κ (M + 4) 5 = (eo ρ kd zz bb P).2)
def ER (ρ : Sg) (kd zz : Nat → Nat) (bb : Nat → Int32) (P : Nat) : Prop := ρ 0 13 = (eo ρ kd zz bb P).1 ∧ ρ 0 14 = (eo ρ kd zz bb P).2 ∧ ρ 0 15 = b2i (ej ρ kd zz bb P)
theorem eOut_kind (k : Nat) (a b c' d x : Int32) (h : c' = 0 ∨ c' = 1) : (eOut k a b c' d x).1 = 0 ∨ (eOut k a b c' d x).1 = 1 := by
  unfold eOut aOut hOut wOut
  grind
theorem foreseeS (hpc : PC κ n kd aa zz bb) (w : PW n kd aa zz) (hg : RG M κ ρ) (hp : P < 24) : ∃ κ', zf_X0_foresee M (nI P) (M + 1) κ = some κ' ∧ EC M κ' ρ kd zz bb P ∧ ∀ n, n ≠ M + 4 → κ' n = κ n := by
  have hf := foreseeC (M := M) hpc w hp
  have hy := hg _ (yy_lt bb P)
  have hz := hg _ (w.2 P hp).2.2
  rw [hy.1, hy.2.1, hz.1, hz.2.1] at hf
  obtain ⟨κ', h1, h2, h3, h4, h5, h6, h7⟩ := hf
  exact ⟨κ', h1, ⟨h3, h4, h5, h6, h7⟩, h2⟩
theorem preparesS (hpr : PR ρ n kd aa zz bb) (w : PW n kd aa zz) (hk : KV ρ) (hp : P < 24) : ∃ ρ', zf_X10_prepares (nI P) ρ = some ρ' ∧ ER ρ' kd zz bb P ∧ (∀ n, n ≠ 0 → ρ' n = ρ n) ∧ ∀ i, i ≠ 13 → i ≠ 14 → i ≠ 15 → ρ' 0 i = ρ 0 i := by
  obtain ⟨ρ', h1, h2, h3, h4, h5, h6⟩ := preparesR hpr w hk hp
  refine ⟨ρ', h1, ?_, h2, h3⟩
  unfold ER eo ej
  rw [h2 8 (by decide), h2 9 (by decide)]
  exact ⟨h4, h5, h6⟩
/-- the next point -/
def nP (ρ : Sg) (kd aa zz : Nat → Nat) (bb : Nat → Int32) (P : Nat) : Nat := if ej ρ kd zz bb P = true then aa P else P + 1
def pC (M : Nat) (κ : Sg) (kd aa : Nat → Nat) (P : Nat) : Sg := if kd P ≤ 5 then su (su κ (M + 2) (aa P % 8) (κ (M + 4) 4)) (M + 3) (aa P % 8) (κ (M + 4) 5) else κ
def pR (ρ : Sg) (kd aa : Nat → Nat) (P : Nat) : Sg := if kd P ≤ 5 then su (su ρ 8 (aa P % 8) (ρ 0 13)) 9 (aa P % 8) (ρ 0 14) else ρ
theorem pC_ne {i : Nat} (h1 : i ≠ M + 2) (h2 : i ≠ M + 3) : pC M κ kd aa P i = κ i := by
  unfold pC; split
  · simp (disch := omega) only [su_ne]
  · rfl
theorem pR_ne {i : Nat} (h1 : i ≠ 8) (h2 : i ≠ 9) : pR ρ kd aa P i = ρ i := by
  unfold pR; split
  · simp (disch := omega) only [su_ne]
  · rfl
theorem RG.put (w : PW n kd aa zz) (hp : P < 24) (hg : RG M κ ρ) (hc : EC M κ ρ kd zz bb P) (hr : ER ρ kd zz bb P) : RG M (pC M κ kd aa P) (pR ρ kd aa P) := by
  unfold pC pR
  split
  · rename_i q
    intro j hj
    obtain ⟨a, b, c⟩ := hg j hj
    have hz := (hg _ (w.2 P hp).2.2).2.2
    have h1 := (hc.2.2.2.2 q)
    have h2 := eOut_kind (kd P) (ρ 8 (yy bb P)) (ρ 9 (yy bb P)) (ρ 8 (zz P)) (ρ 9 (zz P)) (bb P) hz
    rw [h1.1, h1.2, hr.1, hr.2.1]
    by_cases z : j = aa P % 8
    · subst z
      refine ⟨?_, ?_, ?_⟩
      · grind [su_ap]
      · grind [su_ap]
      · simp [su_ap]
        exact h2
    · simp [su_ap, z]
      exact ⟨a, b, c⟩
  · exact hg
theorem PC.fr (h : PC κ n kd aa zz bb) (h1 : ∀ i, i < 21 → κ' i = κ i) : PC κ' n kd aa zz bb := by
  unfold PC at *
  rw [h1 1 (by decide), h1 2 (by decide), h1 3 (by decide), h1 4 (by decide), h1 5 (by decide)]
  exact h
theorem PR.fr (h : PR ρ n kd aa zz bb) (h1 : FR ρ ρ') : PR ρ' n kd aa zz bb := by
  unfold PR at *
  rw [h1.2 5 (by decide), h1.1 5 (by decide) (by decide)]
  exact h
def mv (M : Nat) (κ : Sg) (n q : Nat) : Sg := if q < n then su κ M 5 (nI q) else su (su κ M 5 (nI q)) M 6 2
theorem moveToC (hM : isM M) (hpc : PC κ n kd aa zz bb) (w : PW n kd aa zz) {q : Nat} (hq : q ≤ 24) : zf_X3_moveTo M (nI q) κ = mv M κ n q := by
  have hm : 1 ≠ M := by rcases hM with rfl | rfl <;> decide
  have hn := w.1
  unfold zf_X3_moveTo zb_X3_moveTo_21 zf_X4_holds zb_X4_holds_16 zb_X4_holds_17 mv
  rw [su_ne κ hm, hpc.1]
  have p0 : (nI q < 0) = False := eq_false (nI_pos (by omega))
  have p1 : (nI n ≤ nI q) = (n ≤ q) := propext (nI_leI (by omega) (by omega))
  simp only [p0, p1, if_false]
  by_cases z : q < n
  · have : ¬ n ≤ q := by omega
    simp [z, this]
  · have : n ≤ q := by omega
    simp [z, this]
theorem doStep57 (hM : isM M) (hpc : PC κ n kd aa zz bb) (w : PW n kd aa zz) (hp : P < 24) (hc : EC M κ ρ kd zz bb P) : zb_X3_doStep_57 M (nI P) κ = if kd P = 9 then some (su (pC M κ kd aa P) M 6 1) else zb_X3_doStep_143 M (nI P) (nI (nP ρ kd aa zz bb P)) (pC M κ kd aa P) := by
  have hml : 21 ≤ M := by rcases hM with rfl | rfl <;> decide
  have hx : aa P % 8 < 8 := by omega
  have hpc2 : PC (pC M κ kd aa P) n kd aa zz bb := hpc.fr (fun i hi => pC_ne (by omega) (by omega))
  have n1 : (nI P).toNatClampNeg = P := nI_clamp (by omega)
  have n2 : (nI (aa P % 8)).toNatClampNeg = aa P % 8 := nI_clamp (by omega)
  have key : zb_X3_doStep_57 M (nI P) κ = zb_X3_doStep_97 M (nI P) (pC M κ kd aa P) := by
    unfold zb_X3_doStep_57
    rw [writesXC hpc w hp, obd_some, xC hpc w hp, obd_some]
    unfold zf_X5_put pC
    rw [bd_nI hx (by decide), n2, obd_some]
    by_cases z : kd P ≤ 5 <;> simp [z]
  rw [key]
  unfold zb_X3_doStep_97
  have k9 : (nI (kd P) = (9 : Int32)) = (kd P = 9) := propext (nI_eq (a := kd P) (b := 9) (by have := (w.2 P hp).1; omega) (by decide))
  have hj : pC M κ kd aa P (M + 4) 3 = b2i (ej ρ kd zz bb P) := by rw [pC_ne (by omega) (by omega)]; exact hc.2.2.2.1
  have e1 : nI P + 1 = nI (P + 1) := nI_1 P
  simp only [bd_nI hp (show 24 < 2 ^ 31 by decide), n1, (hpc2.2 P hp).1, (hpc2.2 P hp).2.1, k9, hj, e1]
  unfold nP
  by_cases z : kd P = 9
  · simp [z]
  · cases q : ej ρ kd zz bb P <;> simp [z, b2i]
theorem doStep143 (hM : isM M) (hpc : PC κ n kd aa zz bb) (w : PW n kd aa zz) (hp : P < 24) (hj : κ (M + 4) 3 = b2i (ej ρ kd zz bb P)) {q : Nat} (hq : q ≤ 24) : zb_X3_doStep_143 M (nI P) (nI q) κ = zf_X3_goOn M (ej ρ kd zz bb P && decide (q ≤ P)) (mv M κ n q) := by
  unfold zb_X3_doStep_143 zb_X3_doStep_169 zb_X3_doStep_170
  rw [moveToC hM hpc w hq]
  have h4 : mv M κ n q (M + 4) 3 = b2i (ej ρ kd zz bb P) := by
    rw [← hj]; unfold mv; split <;> simp (disch := omega) only [su_ne]
  have h5 : mv M κ n q M 5 = nI q := by
    unfold mv; split <;> simp [su_ap]
  have p1 : (nI P < nI q) = (P < q) := propext (nI_ltI (by omega) (by omega))
  simp only [letb_eq, h4, h5, p1, obd_id]
  cases z : ej ρ kd zz bb P
  · simp [b2i]
  · by_cases z2 : P < q
    · have : ¬ q ≤ P := by omega
      simp [b2i, z2, this]
    · have : q ≤ P := by omega
      simp [b2i, z2, this]
def nR (ρ : Sg) (kd aa zz : Nat → Nat) (bb : Nat → Int32) (P : Nat) : Nat := if ej ρ kd zz bb P = true then aa P else if kd P = 9 then P else P + 1
theorem appliesR (hpr : PR ρ n kd aa zz bb) (w : PW n kd aa zz) (hp : P < 24) (hP : ρ 0 16 = nI P) (hr : ER ρ kd zz bb P) : zf_X10_applies ρ = some (su (su (pR ρ kd aa P) 0 16 (nI (nR ρ kd aa zz bb P))) 0 17 (ρ 0 17 + 1)) := by
  have hx : aa P % 8 < 8 := by omega
  have n2 : (nI (aa P % 8)).toNatClampNeg = aa P % 8 := nI_clamp (by omega)
  have hp8 : ∀ x, PR (su ρ 8 (aa P % 8) x) n kd aa zz bb := fun x => hpr.fr ⟨fun n h1 h2 => by simp (disch := omega) only [su_ne], fun i hi => by simp (disch := omega) only [su_ne]⟩
  have hp2 : PR (pR ρ kd aa P) n kd aa zz bb := hpr.fr ⟨fun n h1 h2 => pR_ne (by omega) (by omega), fun i hi => by rw [pR_ne (by decide) (by decide)]⟩
  have key : zf_X10_applies ρ = zb_X10_applies_49 (nI (kd P)) (nI P) (pR ρ kd aa P) := by
    unfold zf_X10_applies
    rw [hP, letb_eq, b4 hp, kR hpr hp, letb_eq, writesOutR (w.2 P hp).1, xR hpr w hp, obd_some, bd_nI hx (by decide), n2, xR (hp8 _) w hp, obd_some, bd_nI hx (by decide), n2]
    unfold pR
    by_cases z : kd P ≤ 5 <;> simp [z]
  rw [key]
  unfold zb_X10_applies_49 zb_X10_applies_83
  have k9 : (nI (kd P) = (9 : Int32)) = (kd P = 9) := propext (nI_eq (a := kd P) (b := 9) (by have := (w.2 P hp).1; omega) (by decide))
  have e1 : nI P + 1 = nI (P + 1) := nI_1 P
  have e4 : (4 : Int32) * nI P + 1 = nI (4 * P + 1) := by rw [n4]; exact nI_1 _
  have e5 : (nI (4 * P + 1)).toNatClampNeg = 4 * P + 1 := nI_clamp (by omega)
  have f0 : pR ρ kd aa P 0 = ρ 0 := pR_ne (by decide) (by decide)
  simp only [f0, hr.2.2, k9, e1, e4, e5, (hp2.2 P hp).2.1, bd_nI (show 4 * P + 1 < 96 by omega) (show 96 < 2 ^ 31 by decide)]
  unfold nR
  cases z : ej ρ kd zz bb P
  · by_cases z2 : kd P = 9 <;> simp [b2i, z2]
  · simp [b2i]
theorem nP_le (w : PW n kd aa zz) (hp : P < n) : nP ρ kd aa zz bb P ≤ 24 := by
  have := w.1
  have := (w.2 P (by omega)).2.1
  unfold nP
  split <;> omega
theorem nP_nx (w : PW n kd aa zz) (hp : P < 24) : nx kd aa P (ew ρ kd zz bb P) = nP ρ kd aa zz bb P := by
  unfold ew eo ej nP ej
  exact nx_way w hp _ _ _ _ _
end Move
