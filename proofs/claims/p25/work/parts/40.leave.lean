/-! a trace is left -/
def RW (ρ ρ' : Sg) : Prop := FR ρ ρ' ∧ (∀ i, 16 ≤ i → i < 19 → ρ' 0 i = ρ 0 i) ∧ ρ' 0 22 = ρ 0 22
theorem RW.trans {a b c : Sg} (h : RW a b) (k : RW b c) : RW a c := ⟨h.1.trans k.1, fun i h1 h2 => (k.2.1 i h1 h2).trans (h.2.1 i h1 h2), k.2.2.trans h.2.2⟩
theorem RF.rw {a b : Sg} (h : RF a b) : RW a b := ⟨h.1, fun i _ h2 => h.2.1 i h2, h.2.2.1⟩
theorem RW.refl (ρ : Sg) : RW ρ ρ := (RF.refl ρ).rw
def SEL (M : Nat) (κ ρ : Sg) (kd aa : Nat → Nat) (hr T : Nat) (hd ln : Nat → Nat) (pt : Nat → Nat → Nat) (P S c : Nat) : Prop := ST M κ ρ kd aa T hd ln pt P S ∧ ((∃ hN m, RC M κ ρ kd aa T hd ln pt P hN m ∧ NC M κ ρ ∧ m < 16 ∧ HB ρ hr T hd (some hN)) ∨ (NR M κ ρ ∧ HB ρ hr T hd none ∧ ((∃ c' e', CU M κ ρ T ln pt P c' e' ∧ ((c < c' ∧ hd c' = hd c) ∨ (hd c' = P ∧ hd c ≠ P))) ∨ NC M κ ρ)))
section Leave
variable {M : Nat} {κ ρ : Sg} {kd aa : Nat → Nat} {T hr : Nat} {hd ln : Nat → Nat} {pt : Nat → Nat → Nat} {P S c e : Nat}
theorem hitS (h : ST M κ ρ kd aa T hd ln pt P S) (hc : c < T) (he : e < ln c) : ST M (su (su (su κ M 9 (κ M 9 + 1)) (M + 10 + 7 * c + 5) e (κ (M + 10 + 7 * c + 5) e + 1)) M 10 (-1)) (su (su ρ 0 19 (ρ 0 19 + 1)) 21 (16 * c + e) (ρ 21 (16 * c + e) + 1)) kd aa T hd ln pt P S := by
  obtain ⟨s1, s2, s3, s4, s5, s6⟩ := h
  obtain ⟨t1, t2, t3, t4, t5, t6⟩ := s4
  have hl := (t5 c hc).2.2.1
  refine ⟨?_, ?_, ?_, ⟨t1, ?_, ?_, fun j hj => ?_, fun j hj => ?_, fun j i hj hi => ?_⟩, ?_, ?_⟩
  · unfold SC at *
    grind [su_ap]
  · unfold RG at *
    grind [su_ap]
  · unfold HT at *
    grind [su_ap]
  · simp [su_ap]; exact t2
  · simp (disch := omega) only [su_ne]; exact t3
  · simp (disch := omega) only [su_ne]; exact t4 j hj
  · have := t5 j hj
    unfold HD at *
    simp (disch := omega) only [su_ne]
    exact this
  · have := t6 j i hj hi
    have h0 := t6 c e hc he
    have hl2 := (t5 j hj).2.2.1
    unfold EN at *
    simp (disch := omega) only [su_ne]
    obtain ⟨g1, g2, g3, g4, g5, g6, g7, g8⟩ := this
    refine ⟨g1, g2, g3, g4, g5, g6, ?_, g8⟩
    by_cases z : j = c ∧ i = e
    · obtain ⟨rfl, rfl⟩ := z
      rw [su_hit rfl, su_hit rfl, g7]
    · have L1 : ∀ v, su (su κ M 9 (κ M 9 + 1)) (M + 10 + 7 * c + 5) e v (M + 10 + 7 * j + 5) i = κ (M + 10 + 7 * j + 5) i := fun v => by
        by_cases z2 : j = c
        · exact su_rf (by omega) (by omega) (by simp (disch := omega) only [su_ne])
        · simp (disch := omega) only [su_ne]
      have R1 : ∀ v, su (su ρ 0 19 (ρ 0 19 + 1)) 21 (16 * c + e) v 21 (16 * j + i) = ρ 21 (16 * j + i) := fun v => su_rf rfl (by omega) (by simp (disch := omega) only [su_ne])
      rw [L1, R1, g7]
  · exact s5.fr (by simp (disch := omega) only [su_ne]) (by simp (disch := omega) only [su_ne]) (by simp (disch := omega) only [su_ne])
  · exact s6.fr (by simp (disch := omega) only [su_ne]) (by simp (disch := omega) only [su_ne])
theorem ST.fr0 {ρ' : Sg} (h : ST M κ ρ kd aa T hd ln pt P S) (h1 : ∀ n, n ≠ 0 → ρ' n = ρ n) (h2 : ∀ i, i ≠ 37 → i ≠ 44 → ρ' 0 i = ρ 0 i) : ST M κ ρ' kd aa T hd ln pt P S := by
  obtain ⟨s1, s2, s3, s4, s5, s6⟩ := h
  refine ⟨?_, ?_, ?_, s4.fr (fun _ _ _ => rfl) rfl (fun n a b => h1 n (by omega)) (h2 25 (by decide) (by decide)), s5.fr (h1 _ (by decide)) (h1 _ (by decide)) (h1 _ (by decide)), s6.fr rfl (h1 _ (by decide))⟩
  · unfold SC at *
    rw [h2 16 (by decide) (by decide), h2 17 (by decide) (by decide), h2 18 (by decide) (by decide), h2 19 (by decide) (by decide), h2 20 (by decide) (by decide)]
    exact s1
  · unfold RG at *
    rw [h1 8 (by decide), h1 9 (by decide)]
    exact s2
  · unfold HT at *
    rw [h1 10 (by decide), h1 11 (by decide)]
    exact s3
theorem RC.fr0 {ρ' : Sg} {hN m : Nat} (h : RC M κ ρ kd aa T hd ln pt P hN m) (h1 : ∀ n, n ≠ 0 → ρ' n = ρ n) (h2 : ∀ i, i ≠ 37 → i ≠ 44 → ρ' 0 i = ρ 0 i) : RC M κ ρ' kd aa T hd ln pt P hN m := by
  unfold RC RCa EN at *
  rw [h1 11 (by decide), h1 17 (by decide), h1 18 (by decide), h1 19 (by decide), h1 20 (by decide), h1 21 (by decide), h1 22 (by decide), h2 39 (by decide) (by decide), h2 40 (by decide) (by decide), h2 41 (by decide) (by decide), h2 42 (by decide) (by decide), h2 43 (by decide) (by decide)]
  exact h
theorem leaveS (hM : isM M) (h : ST M κ ρ kd aa T hd ln pt P S) (hP : P < 24) (h1 : NR M κ ρ) (hC : CU M κ ρ T ln pt P c e) (h3 : HB ρ hr T hd none) (h4 : ρ 0 44 = 0) (hh : κ M 4 = nI hr) : ∃ κ' ρ1 ρ', zf_X3_leave M κ = some κ' ∧ zf_X10_leaves (nI hr) ρ = some ρ1 ∧ zl_X10_step_2 (nI hr) (false, ρ1) = zb_X10_step_62 (nI hr) ρ' ∧ SEL M κ' ρ' kd aa hr T hd ln pt P S c ∧ KF M κ κ' ∧ RW ρ ρ' ∧ (ρ' 0 44 = 0 ∨ NC M κ' ρ') := by
  have hH := hitS h hC.1 hC.2.1
  have h' := h
  obtain ⟨s1, s2, s3, s4, s5, s6⟩ := h'
  obtain ⟨t1, t2, t3, t4, t5, t6⟩ := s4
  have hC' := hC
  obtain ⟨c1, c2, c3, c4, c5, c6, c7⟩ := hC'
  obtain ⟨d1, d2, d3, d4, d5, d6, d7, d8, d9, d10⟩ := t5 c c1
  have hml := M_lt hM
  obtain ⟨g1, g2, g3, g4, g5, g6, g7, g8⟩ := t6 c e c1 c2
  have hbr := ((s5 c c1).2.2 e c2).2.2
  have n1 : (nI (M + 10 + 7 * c)).toNatClampNeg = M + 10 + 7 * c := nI_clamp (by omega)
  have n2 : (nI e).toNatClampNeg = e := nI_clamp (by omega)
  have n3 : (nI c).toNatClampNeg = c := nI_clamp (by omega)
  have n5 : (nI (hd c)).toNatClampNeg = hd c := nI_clamp (by omega)
  have e16 : (16 : Int32) * nI c + nI e = nI (16 * c + e) := by rw [show (16 : Int32) = nI 16 from rfl, nI_mul, nI_add]
  have n6 : (nI (16 * c + e)).toNatClampNeg = 16 * c + e := nI_clamp (by omega)
  have tkk : ∀ (k : Option Sg), tk (nI (M + 10 + 7 * c)) k = k := fun k => tk_nI (isTr_k hM (by omega))
  have b1 : ∀ (k : Option Sg), bd (nI e) 16 k = k := fun k => bd_nI (by omega) (by decide)
  have b2 : ∀ (k : Option Sg), bd (nI c) 8 k = k := fun k => bd_nI (by omega) (by decide)
  have b3 : ∀ (k : Option Sg), bd (nI (16 * c + e)) 144 k = k := fun k => bd_nI (by omega) (by decide)
  have b4' : ∀ (k : Option Sg), bd (nI (hd c)) 24 k = k := fun k => bd_nI d1 (by decide)
  unfold zf_X3_leave zf_X10_leaves zb_X3_leave_145 zb_X10_leaves_109 zb_X10_leaves_114 zf_X2_has zb_X2_has_16 zb_X2_has_17 zf_X2_mayRecord zb_X2_mayRecord_23 zb_X2_mayRecord_24
  simp only [letb_eq, c3, c4, c5, c6, n1, n2, n3, e16, n6, tkk, b1, b2, b3, g7, g8, d4, d5, hh, n5, b4', t2, t4 c (by omega)]
  generalize hκ : su (su (su κ M 9 (κ M 9 + 1)) (M + 10 + 7 * c + 5) e (ρ 21 (16 * c + e) + 1)) M 10 (-1) = κ1
  generalize hρ : su (su ρ 0 19 (ρ 0 19 + 1)) 21 (16 * c + e) (ρ 21 (16 * c + e) + 1) = ρ1
  rw [g7, hκ, hρ] at hH
  have kf1 : KF M κ κ1 := by
    rw [← hκ]
    refine ⟨fun n hn => by simp (disch := omega) only [su_ne], fun n hn hn2 => by simp (disch := omega) only [su_ne], fun i hi => ?_⟩
    grind [su_ap]
  have rl1 : RF ρ ρ1 := by
    rw [← hρ]
    refine ⟨⟨fun n h1 h2 => by simp (disch := omega) only [su_ne], fun i hi => ?_⟩, fun i hi => ?_, ?_, ?_⟩ <;> grind [su_ap]
  have nr1 : NR M κ1 ρ1 := by
    rw [← hκ, ← hρ]
    exact ⟨by simp (disch := omega) only [su_ne]; exact h1.1, by simp [su_ap]; exact h1.2⟩
  have hb1 : HB ρ1 hr T hd none := h3.fr (by rw [← hρ]; simp (disch := omega) only [su_ne]) (by rw [← hρ]; simp (disch := omega) only [su_ne]) (by rw [← hρ]; simp (disch := omega) only [su_ne])
  have k10 : κ1 M 10 = -1 := by rw [← hκ]; simp [su_ap]
  have k54 : κ1 (M + 5) 4 = nI T := by rw [← hκ]; simp (disch := omega) only [su_ne]; exact t3
  have r44 : ρ1 0 44 = 0 := by rw [rl1.2.2.2]; exact h4
  have rn : ∀ n, n ≠ 0 → n ≠ 21 → ρ1 n = ρ n := fun n a b => by rw [← hρ]; simp (disch := omega) only [su_ne]
  have skip : ∃ κ' ρ2 ρ', some κ1 = some κ' ∧ some (su (su ρ1 0 44 1) 0 37 (-1)) = some ρ2 ∧ zl_X10_step_2 (nI hr) (false, ρ2) = zb_X10_step_62 (nI hr) ρ' ∧ SEL M κ' ρ' kd aa hr T hd ln pt P S c ∧ KF M κ κ' ∧ RW ρ ρ' ∧ (ρ' 0 44 = 0 ∨ NC M κ' ρ') := by
    have nc : NC M κ1 (su (su ρ1 0 44 1) 0 37 (-1)) := ⟨k10, by simp [su_ap]⟩
    refine ⟨κ1, _, su (su ρ1 0 44 1) 0 37 (-1), rfl, rfl, ?_, ⟨hH.fr0 (fun n hn => by simp (disch := omega) only [su_ne]) (fun i a b => by simp [su_ap, a, b]), Or.inr ⟨⟨nr1.1, by simp [su_ap]; exact nr1.2⟩, hb1.fr (by simp (disch := omega) only [su_ne]) (by simp (disch := omega) only [su_ne]) (by simp (disch := omega) only [su_ne]), Or.inr nc⟩⟩, kf1, rl1.rw.trans ?_, Or.inr nc⟩
    · rw [step2_eq, if_pos (by simp [su_ap]; exact nr1.2)]
      unfold zb_X10_step_17 zb_X10_step_39 zb_X10_step_51
      rw [if_pos (by simp [su_ap]; exact nr1.2), if_pos (by simp [su_ap]), if_neg (by simp [su_ap]), if_pos rfl]
    · refine ⟨⟨fun n h1 h2 => by simp (disch := omega) only [su_ne], fun i hi => ?_⟩, fun i hi hi2 => ?_, ?_⟩ <;> grind [su_ap]
  have hm1 : ((-1 : Int32) < 0) = True := by decide
  rcases hbr with hb | ⟨k', z1, z2, z3, z4, z5⟩
  · simp only [hb, hm1, if_true, Bool.false_eq_true, if_false]
    by_cases qh : ρ 21 (16 * c + e) + 1 = nI hr
    · obtain ⟨_, x2, hh', dd, x3, x4, x5, x6⟩ := s3 (hd c) d1
      have x2' : κ1 (M + 8) (hd c) = nI dd := by rw [← hκ]; simp (disch := omega) only [su_ne]; rw [x2, x4]
      have p8 : ((8 : Int32) ≤ nI T) = (8 ≤ T) := propext (nI_leI (a := 8) (b := T) (by decide) (by omega))
      have p2 : ((2 : Int32) ≤ nI dd) = (2 ≤ dd) := propext (nI_leI (a := 2) (b := dd) (by decide) (by omega))
      have bdb : ∀ (k : Option Bool), bd (nI (hd c)) 24 k = k := fun k => bd_nI d1 (by decide)
      simp only [qh, if_true, k54, x2', x4, p8, p2, bdb]
      by_cases q8 : 8 ≤ T
      · by_cases qd : 2 ≤ dd
        · simp only [q8, qd, if_true, obd_some, Bool.false_eq_true, if_false]
          exact skip
        · simp only [q8, qd, if_true, obd_some, Bool.false_eq_true, if_false]
          exact skip
      · by_cases qd : 2 ≤ dd
        · simp only [q8, qd, if_true, obd_some, Bool.false_eq_true, if_false]
          exact skip
        · simp only [q8, qd, if_true, obd_some, if_false]
          obtain ⟨κ2, w1, w2, w3, w4, w5, w6, w7, w8⟩ := startS (b := nI c) (c := nI e) hM hH (by omega) d1 ⟨dd, by rw [rn 11 (by decide) (by decide)]; exact x4, by omega⟩ (Or.inr ⟨c, e, c1, c2, rfl, rfl, rfl, c7.symm⟩)
          generalize hρ2 : zf_X10_begins (nI (hd c)) (nI c) (nI e) ρ1 = ρ2 at *
          have f1 : ∀ n, n ≠ 0 → su ρ2 0 37 (-1) n = ρ2 n := fun n hn => by simp (disch := omega) only [su_ne]
          have f2 : ∀ i, i ≠ 37 → i ≠ 44 → su ρ2 0 37 (-1) 0 i = ρ2 0 i := fun i a b => by simp [su_ap, a]
          have nc : NC M κ2 (su ρ2 0 37 (-1)) := ⟨by rw [w4]; exact k10, by simp [su_ap]⟩
          have hb2 : HB (su ρ2 0 37 (-1)) hr T hd (some (hd c)) := by
            have := hb1.fr (ρ' := su ρ2 0 37 (-1)) (by rw [f1 10 (by decide), w8 10 (by decide)]) (by rw [f1 11 (by decide), w8 11 (by decide)]) (by rw [f1 13 (by decide), w8 13 (by decide)])
            intro p hp hp0 hq
            rcases this p hp hp0 hq with y | y | y | y
            · exact Or.inl y
            · exact Or.inr (Or.inl y)
            · exact Or.inr (Or.inr (Or.inl y))
            · cases y
          have hRC := w3.fr0 f1 f2
          obtain ⟨κ3, ρ3, T', hd', ln', v1, v2, v3, v4, v5, v6, v7⟩ := settleR hM (w2.fr0 f1 f2) hP hRC nc hb2 (by rw [show su ρ2 0 37 (-1) 0 44 = ρ2 0 44 by simp [su_ap], w6.2.2.2]; exact r44) (nI hr)
          obtain ⟨rfl, rfl, rfl⟩ := v6 rfl
          have hj : ∀ σ, zf_X3_judgeRecording M κ2 = some σ → σ M = κ2 M := by
            intro σ hσ
            rw [judgeC hM w2.1.1 hP w3.1] at hσ
            have hd9 := dropC hM w3.1
            split at hσ
            · rw [if_pos rfl] at hσ
              rw [← Option.some.inj hσ]
            · rw [if_neg (by decide)] at hσ
              split at hσ
              · rw [← Option.some.inj hσ]
              · rw [hd9] at hσ
                rw [← Option.some.inj hσ]
                simp (disch := omega) only [su_ne]
          refine ⟨κ3, _, ρ3, ?_, rfl, v2, ?_, (kf1.trans w5).trans v4, ((rl1.trans w6).rw.trans ?_).trans v5.rw, ?_⟩
          · rw [w1, obd_some]
            unfold SETC at v1
            obtain ⟨σ, u1, u2⟩ := obd_inv v1
            rw [u1, obd_some]
            rw [hj σ u1, w4, k10, if_pos rfl] at u2
            simp only [obd_id]
            rw [show σ M = κ2 M from hj σ u1, w4]
            exact u2
          · obtain ⟨y1, y2 | ⟨y3, y4, y5⟩⟩ := v3
            · exact ⟨y1, Or.inl y2⟩
            · refine ⟨y1, Or.inr ⟨y3, y4, ?_⟩⟩
              rcases y5 with ⟨c', e', y6, y7⟩ | y6
              · refine Or.inl ⟨c', e', y6, Or.inr ⟨y7, fun q => v7 q.symm rfl y3.1⟩⟩
              · exact Or.inr y6
          · refine ⟨⟨fun n h1 h2 => by simp (disch := omega) only [su_ne], fun i hi => ?_⟩, fun i hi hi2 => ?_, ?_⟩ <;> grind [su_ap]
          · refine Or.inl ?_
            rw [v5.2.2.2, show su ρ2 0 37 (-1) 0 44 = ρ2 0 44 by simp [su_ap], w6.2.2.2]
            exact r44
    · simp only [qh, if_false]
      exact skip
  · have hk8 : k' < 8 := by omega
    have p0 : (nI k' < 0) = False := eq_false (nI_pos (by omega))
    have p1 : (nI T ≤ nI k') = False := eq_false (nI_ge (a := k') (b := T) z2 (by omega))
    have p2 : (nI k' = -1) = False := eq_false (nI_ne_neg (by omega))
    have b8 : ∀ (k : Option Sg), bd (nI k') 8 k = k := fun k => bd_nI hk8 (by decide)
    have n8 : (nI k').toNatClampNeg = k' := nI_clamp (by omega)
    simp only [z3, k54, p0, p1, p2, if_false, if_true, b8, n8, obd_id]
    obtain ⟨κ2, ρ2, w1, w2, w3, w4, w5, w6, w7, w8, w9⟩ := beginS hM hH z2 (z5.trans c7)
    have nr2 : NR M κ2 ρ2 := ⟨by rw [w7]; exact nr1.1, by rw [w5]; exact nr1.2⟩
    refine ⟨κ2, ρ2, ρ2, w1, w2, (settleC hM nr2 t1 w4 (nI hr)).2, ⟨w3, Or.inr ⟨nr2, hb1.fr (w6 10 (by decide) (by decide)) (w6 11 (by decide) (by decide)) (w6 13 (by decide) (by decide)), Or.inl ⟨k', 0, w4, Or.inl ⟨z1, z4⟩⟩⟩⟩, kf1.trans w8, (rl1.trans w9).rw, Or.inl ?_⟩
    rw [w9.2.2.2]
    exact r44
end Leave
