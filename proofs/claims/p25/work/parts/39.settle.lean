/-! ahead of a step: recordings are judged, a trace may begin -/
def SETC (M : Nat) (κ : Sg) : Option Sg := obd (zf_X3_judgeRecording M κ) (fun κ1 => if κ1 (M + 5) 6 = -1 then (if κ1 M 10 = -1 then bd (κ1 M 5) 24 (zf_X3_begin M (κ1 (M + 9) (κ1 M 5).toNatClampNeg) κ1) else some κ1) else some κ1)
def SET (M : Nat) (κ ρ : Sg) (kd aa : Nat → Nat) (hr T : Nat) (hd ln : Nat → Nat) (pt : Nat → Nat → Nat) (P S : Nat) : Prop := ST M κ ρ kd aa T hd ln pt P S ∧ ((∃ hN m, RC M κ ρ kd aa T hd ln pt P hN m ∧ NC M κ ρ ∧ m < 16 ∧ HB ρ hr T hd (some hN)) ∨ (NR M κ ρ ∧ HB ρ hr T hd none ∧ ((∃ c e, CU M κ ρ T ln pt P c e) ∨ NC M κ ρ)))
/-- the same, and a trace that runs is at its head -/
def SEH (M : Nat) (κ ρ : Sg) (kd aa : Nat → Nat) (hr T : Nat) (hd ln : Nat → Nat) (pt : Nat → Nat → Nat) (P S : Nat) : Prop := ST M κ ρ kd aa T hd ln pt P S ∧ ((∃ hN m, RC M κ ρ kd aa T hd ln pt P hN m ∧ NC M κ ρ ∧ m < 16 ∧ HB ρ hr T hd (some hN)) ∨ (NR M κ ρ ∧ HB ρ hr T hd none ∧ ((∃ c e, CU M κ ρ T ln pt P c e ∧ hd c = P) ∨ NC M κ ρ)))
theorem SEH.set {M : Nat} {κ ρ : Sg} {kd aa : Nat → Nat} {hr T : Nat} {hd ln : Nat → Nat} {pt : Nat → Nat → Nat} {P S : Nat} (h : SEH M κ ρ kd aa hr T hd ln pt P S) : SET M κ ρ kd aa hr T hd ln pt P S := by
  obtain ⟨a, b | ⟨c, d, ⟨x, y, e, _⟩ | f⟩⟩ := h
  · exact ⟨a, Or.inl b⟩
  · exact ⟨a, Or.inr ⟨c, d, Or.inl ⟨x, y, e⟩⟩⟩
  · exact ⟨a, Or.inr ⟨c, d, Or.inr f⟩⟩
theorem obd_obd {α β γ : Type} (x : Option α) (f : α → Option β) (g : β → Option γ) : obd (obd x f) g = obd x (fun a => obd (f a) g) := by cases x <;> rfl
theorem bd_obd {α β : Type} (i : Int32) (n : Nat) (x : Option α) (g : α → Option β) : obd (bd i n x) g = bd i n (obd x g) := by unfold bd; split <;> rfl
theorem getReady_eq (M : Nat) (κ : Sg) : zf_X3_getReady M κ = obd (SETC M κ) (zb_X3_getReady_37 M) := by
  unfold zf_X3_getReady SETC
  rw [obd_obd]
  congr 1
  funext κ1
  by_cases h1 : κ1 (M + 5) 6 = -1
  · by_cases h2 : κ1 M 10 = -1
    · simp only [h1, h2, if_true, bd_obd]
    · simp only [h1, h2, if_true, if_false, obd_some]
  · simp only [h1, if_false, obd_some]
section Settle
variable {M : Nat} {κ ρ : Sg} {kd aa : Nat → Nat} {T hr : Nat} {hd ln : Nat → Nat} {pt : Nat → Nat → Nat} {P S hN m : Nat}
theorem step2_eq (a1 : Int32) (ρ : Sg) : zl_X10_step_2 a1 (false, ρ) = if ρ 0 39 = 0 then zb_X10_step_17 a1 ρ else obd (zf_X10_aheadOfStep ρ) (fun σ3 => zb_X10_step_17 a1 σ3) := if_neg Bool.false_ne_true
theorem obd_id {α : Type} (x : Option α) : obd x (fun a => some a) = x := by cases x <;> rfl
theorem judgeC (hM : isM M) (h1 : κ M 5 = nI P) (hP : P < 24) (hr1 : RCa M κ ρ T hN m) : zf_X3_judgeRecording M κ = if P = hN then (if m = 0 then some κ else zf_X2_keep M κ) else (if m = 16 then zf_X2_drop M κ else if κ (M + 9) P = -1 then some κ else zf_X2_drop M κ) := by
  obtain ⟨r1, r2, r3, r4, r5, r6, r7, r8, r9, r10, r11, r12, r13⟩ := hr1
  have hml := M_lt hM
  unfold zf_X3_judgeRecording zb_X3_judgeRecording_65 zb_X3_judgeRecording_72
  have n1 : ¬ nI (M + 10 + 7 * T) = -1 := nI_ne_neg (by omega)
  have n2 : (nI (M + 10 + 7 * T)).toNatClampNeg = M + 10 + 7 * T := nI_clamp (by omega)
  have n3 : (nI P).toNatClampNeg = P := nI_clamp (by omega)
  have n4 : (nI P = nI hN) = (P = hN) := propext (nI_eq (by omega) (by omega))
  have n5 : (nI m ≤ 0) = (m = 0) := propext ⟨fun q => by rcases Nat.eq_zero_or_pos m with z | z; exact z; exact absurd q (nI_nle z (by omega)), fun q => by rw [q, nI_0]; exact Int32.le_refl 0⟩
  have n6 : ((16 : Int32) ≤ nI m) = (m = 16) := propext ⟨fun q => by rcases Nat.lt_or_ge m 16 with z | z; exact absurd q (nI_ge (a := m) (b := 16) z (by decide)); omega, fun q => by rw [q]; exact nI_le (a := 16) (b := 16) (by decide) (by decide)⟩
  simp only [letb_eq, r1, n1, if_false, tk_nI (isTr_k hM r3), n2, h1, r7, r9, n3, n4, n5, n6, obd_id, bd_nI hP (show 24 < 2 ^ 31 by decide)]
theorem aheadR (h1 : ρ 0 16 = nI P) (hP : P < 24) (hr1 : RCa M κ ρ T hN m) : zf_X10_aheadOfStep ρ = if P = hN then (if m = 0 then some ρ else zf_X10_closes ρ) else (if m = 16 then zf_X10_lets ρ else obd (zf_X10_rootOf (nI P) ρ) (fun r => if r = -1 then some ρ else zf_X10_lets ρ)) := by
  obtain ⟨r1, r2, r3, r4, r5, r6, r7, r8, r9, r10, r11, r12, r13⟩ := hr1
  unfold zf_X10_aheadOfStep zb_X10_aheadOfStep_25 zb_X10_aheadOfStep_57 zb_X10_aheadOfStep_61
  have n4 : (nI P = nI hN) = (P = hN) := propext (nI_eq (by omega) (by omega))
  have n5 : (nI m ≤ 0) = (m = 0) := propext ⟨fun q => by rcases Nat.eq_zero_or_pos m with z | z; exact z; exact absurd q (nI_nle z (by omega)), fun q => by rw [q, nI_0]; exact Int32.le_refl 0⟩
  have n6 : (nI m = (16 : Int32)) = (m = 16) := propext (nI_eq (a := m) (b := 16) (by omega) (by decide))
  simp only [h1, r6, r8, n4, n5, n6, obd_id]
  by_cases q : P = hN <;> by_cases q2 : m = 0 <;> simp [q, q2]
theorem rootS (hM : isM M) (h : ST M κ ρ kd aa T hd ln pt P S) (hP : P < 24) (h1 : NR M κ ρ) (h2 : NC M κ ρ) (h3 : HB ρ hr T hd none) (h4 : ρ 0 44 = 0) (a1 : Int32) : ∃ κ' ρ', bd (κ M 5) 24 (zf_X3_begin M (κ (M + 9) (κ M 5).toNatClampNeg) κ) = some κ' ∧ zb_X10_step_17 a1 ρ = zb_X10_step_62 a1 ρ' ∧ SEH M κ' ρ' kd aa hr T hd ln pt P S ∧ KF M κ κ' ∧ RF ρ ρ' ∧ ρ' 0 39 = ρ 0 39 := by
  have h' := h
  obtain ⟨s1, s2, s3, s4, s5, s6⟩ := h'
  obtain ⟨x, hx, ho⟩ := s6 P hP
  have hrt := rootR s4 hP ho
  rw [s1.1, bd_nI hP (by decide), nI_clamp (by omega), hx]
  unfold zb_X10_step_17 zb_X10_step_51
  rw [if_pos h1.2, if_pos h2.2, if_pos h4, s1.2.1, hrt, obd_some]
  cases x with
  | none =>
    obtain ⟨κ', e1, e2, e3, e4, e5⟩ := beginN h
    refine ⟨κ', ρ, e1, if_pos rfl, ⟨e2, Or.inr ⟨⟨?_, h1.2⟩, h3, Or.inr ⟨e3, h2.2⟩⟩⟩, e5, RF.refl ρ, rfl⟩
    rw [e4 _ (by omega)]
    exact h1.1
  | some r =>
    obtain ⟨r1, r2, r3, r4⟩ := ho
    have h8 := s4.1
    obtain ⟨κ', ρ', e1, e2, e3, e4, e5, e6, e7, e8, e9⟩ := beginS hM h r1 (((s5 r r1).2.1 r3).trans r2)
    refine ⟨κ', ρ', e1, ?_, ⟨e3, Or.inr ⟨⟨by rw [e7]; exact h1.1, by rw [e5]; exact h1.2⟩, h3.fr (e6 10 (by decide) (by decide)) (e6 11 (by decide) (by decide)) (e6 13 (by decide) (by decide)), Or.inl ⟨r, 0, e4, r2⟩⟩⟩, e8, e9, e5⟩
    show (if nI r = -1 then _ else _) = _
    rw [if_neg (nI_ne_neg (by omega))]
    show obd (zf_X10_enters (nI r) ρ) _ = _
    rw [e2, obd_some]
theorem settleR (hM : isM M) (h : ST M κ ρ kd aa T hd ln pt P S) (hP : P < 24) (hr1 : RC M κ ρ kd aa T hd ln pt P hN m) (h2 : NC M κ ρ) (h3 : HB ρ hr T hd (some hN)) (h4 : ρ 0 44 = 0) (a1 : Int32) : ∃ κ' ρ' T' hd' ln', SETC M κ = some κ' ∧ zl_X10_step_2 a1 (false, ρ) = zb_X10_step_62 a1 ρ' ∧ SEH M κ' ρ' kd aa hr T' hd' ln' pt P S ∧ KF M κ κ' ∧ RF ρ ρ' ∧ (m = 0 → T' = T ∧ hd' = hd ∧ ln' = ln) ∧ (P = hN → m = 0 → ¬ κ' (M + 5) 6 = -1) := by
  have h' := h
  obtain ⟨s1, s2, s3, s4, s5, s6⟩ := h'
  have hra := hr1.1
  obtain ⟨r1, r2, r3, r4, r5, r6, r7, r8, r9, r10, r11, r12, r13⟩ := hra
  have hml := M_lt hM
  have nk : ¬ nI (M + 10 + 7 * T) = -1 := nI_ne_neg (by omega)
  have e0 : zl_X10_step_2 a1 (false, ρ) = obd (zf_X10_aheadOfStep ρ) (fun σ3 => zb_X10_step_17 a1 σ3) := by
    rw [step2_eq, if_neg (by rw [r2]; decide)]
  have stay : ∀ (q : m < 16), ∃ κ' ρ' T' hd' ln', (obd (some κ) (fun κ1 => if κ1 (M + 5) 6 = -1 then (if κ1 M 10 = -1 then bd (κ1 M 5) 24 (zf_X3_begin M (κ1 (M + 9) (κ1 M 5).toNatClampNeg) κ1) else some κ1) else some κ1)) = some κ' ∧ obd (some ρ) (fun σ3 => zb_X10_step_17 a1 σ3) = zb_X10_step_62 a1 ρ' ∧ SEH M κ' ρ' kd aa hr T' hd' ln' pt P S ∧ KF M κ κ' ∧ RF ρ ρ' ∧ (m = 0 → T' = T ∧ hd' = hd ∧ ln' = ln) ∧ (P = hN → m = 0 → ¬ κ' (M + 5) 6 = -1) := by
    intro q
    refine ⟨κ, ρ, T, hd, ln, ?_, ?_, ⟨h, Or.inl ⟨hN, m, hr1, h2, q, h3⟩⟩, KF.refl M κ, RF.refl ρ, fun _ => ⟨rfl, rfl, rfl⟩, fun _ _ => by rw [r1]; exact nk⟩
    · rw [obd_some, if_neg (by rw [r1]; exact nk)]
    · rw [obd_some]
      unfold zb_X10_step_17 zb_X10_step_39 zb_X10_step_51
      rw [if_neg (by rw [r2]; decide), if_pos rfl]
  have hdrop : ∃ κ' ρ', obd (zf_X2_drop M κ) (fun κ1 => if κ1 (M + 5) 6 = -1 then (if κ1 M 10 = -1 then bd (κ1 M 5) 24 (zf_X3_begin M (κ1 (M + 9) (κ1 M 5).toNatClampNeg) κ1) else some κ1) else some κ1) = some κ' ∧ obd (zf_X10_lets ρ) (fun σ3 => zb_X10_step_17 a1 σ3) = zb_X10_step_62 a1 ρ' ∧ SEH M κ' ρ' kd aa hr T hd ln pt P S ∧ KF M κ κ' ∧ RF ρ ρ' := by
    obtain ⟨κ1, ρ1, k1, k2, k3, k4, k5, k6, k7, k8, k9, k10⟩ := dropS hM h hr1.1 h3
    rw [k1, k2, obd_some, obd_some, if_pos k4.1, if_pos (by rw [k8]; exact h2.1)]
    obtain ⟨κ2, ρ2, w1, w2, w3, w4, w5, _⟩ := rootS hM k3 hP k4 ⟨by rw [k8]; exact h2.1, by rw [k9]; exact h2.2⟩ k5 (by rw [k7.2.2.2]; exact h4) a1
    exact ⟨κ2, ρ2, w1, w2, w3, k6.trans w4, k7.trans w5⟩
  unfold SETC
  rw [e0, judgeC hM s1.1 hP hr1.1, aheadR s1.2.1 hP hr1.1]
  by_cases q : P = hN
  · rw [if_pos q, if_pos q]
    by_cases qm : m = 0
    · rw [if_pos qm, if_pos qm]
      exact stay (by omega)
    · rw [if_neg qm, if_neg qm]
      obtain ⟨κ1, ρ1, k1, k2, k3, k4, k5, k6, k7, k8, k9, k10⟩ := keepS hM h hr1 (by omega) q h3
      rw [k1, k2, obd_some, obd_some, if_pos k4.1, if_pos (by rw [k8]; exact h2.1)]
      obtain ⟨κ2, ρ2, w1, w2, w3, w4, w5, _⟩ := rootS hM k3 hP k4 ⟨by rw [k8]; exact h2.1, by rw [k9]; exact h2.2⟩ k5 (by rw [k7.2.2.2]; exact h4) a1
      exact ⟨κ2, ρ2, _, _, _, w1, w2, w3, k6.trans w4, k7.trans w5, fun z => absurd z qm, fun _ z => absurd z qm⟩
  · rw [if_neg q, if_neg q]
    obtain ⟨x, hx, ho⟩ := s6 P hP
    have hrt := rootR s4 hP ho
    obtain ⟨κ', ρ', d1, d2, d3, d4, d5⟩ := hdrop
    by_cases qm : m = 16
    · rw [if_pos qm, if_pos qm]
      exact ⟨κ', ρ', T, hd, ln, d1, d2, d3, d4, d5, fun _ => ⟨rfl, rfl, rfl⟩, fun z => absurd z q⟩
    · rw [if_neg qm, if_neg qm, hx, hrt, obd_some]
      cases x with
      | none =>
        rw [if_pos (show cM M none = -1 from rfl), if_pos (show cR none = -1 from rfl)]
        exact stay (by omega)
      | some r =>
        have h8 := s4.1
        have hr8 := ho.1
        rw [if_neg (show ¬ cM M (some r) = -1 from nI_ne_neg (by omega)), if_neg (show ¬ cR (some r) = -1 from nI_ne_neg (by omega))]
        exact ⟨κ', ρ', T, hd, ln, d1, d2, d3, d4, d5, fun _ => ⟨rfl, rfl, rfl⟩, fun z => absurd z q⟩
/-- nothing is recorded and no trace runs -/
theorem settleN (hM : isM M) (h : ST M κ ρ kd aa T hd ln pt P S) (hP : P < 24) (h1 : NR M κ ρ) (h2 : NC M κ ρ) (h3 : HB ρ hr T hd none) (h4 : ρ 0 44 = 0) (a1 : Int32) : ∃ κ' ρ', SETC M κ = some κ' ∧ zl_X10_step_2 a1 (false, ρ) = zb_X10_step_62 a1 ρ' ∧ SEH M κ' ρ' kd aa hr T hd ln pt P S ∧ KF M κ κ' ∧ RF ρ ρ' ∧ ρ' 0 39 = ρ 0 39 := by
  obtain ⟨κ', ρ', e1, e2, e3, e4, e5, e6⟩ := rootS hM h hP h1 h2 h3 h4 a1
  refine ⟨κ', ρ', ?_, ?_, e3, e4, e5, e6⟩
  · unfold SETC zf_X3_judgeRecording
    rw [letb_eq, if_pos h1.1, obd_some, if_pos h1.1, if_pos h2.1]
    exact e1
  · rw [step2_eq, if_pos h1.2]
    exact e2
/-- a trace runs -/
theorem settleC (hM : isM M) (h1 : NR M κ ρ) {c e : Nat} (h8 : T ≤ 8) (h2 : CU M κ ρ T ln pt P c e) (a1 : Int32) : SETC M κ = some κ ∧ zl_X10_step_2 a1 (false, ρ) = zb_X10_step_62 a1 ρ := by
  have hml := M_lt hM
  obtain ⟨c1, c2, c3, c4, c5, c6, c7⟩ := h2
  constructor
  · unfold SETC zf_X3_judgeRecording
    rw [letb_eq, if_pos h1.1, obd_some, if_pos h1.1, if_neg (by rw [c3]; exact nI_ne_neg (by omega))]
  · rw [step2_eq]
    unfold zb_X10_step_17 zb_X10_step_39 zb_X10_step_51
    rw [if_pos h1.2, if_pos h1.2, if_neg (by rw [c4]; exact nI_ne_neg (by omega)), if_pos rfl]
end Settle
