section RunL
variable {M : Nat} {κ ρ κ' ρ' : Sg} {n : Nat} {kd aa zz : Nat → Nat} {bb : Nat → Int32} {T hr : Nat} {hd ln : Nat → Nat} {pt : Nat → Nat → Nat} {P P' S hN m : Nat}
theorem ST.frE (h : ST M κ ρ kd aa T hd ln pt P S) (h1 : ∀ i, i ≠ M + 4 → κ' i = κ i) : ST M κ' ρ kd aa T hd ln pt P S := by
  obtain ⟨s1, s2, s3, s4, s5, s6⟩ := h
  refine ⟨?_, ?_, ?_, s4.fr (fun i a b => h1 i (by omega)) (by rw [h1 (M + 5) (by omega)]) (fun _ _ _ => rfl) rfl, s5, s6.fr (h1 _ (by omega)) rfl⟩
  · unfold SC at *
    rw [h1 M (by omega), h1 (M + 5) (by omega)]
    exact s1
  · unfold RG at *
    rw [h1 (M + 2) (by omega), h1 (M + 3) (by omega)]
    exact s2
  · unfold HT at *
    rw [h1 (M + 7) (by omega), h1 (M + 8) (by omega)]
    exact s3
theorem RC.frE (h : RC M κ ρ kd aa T hd ln pt P hN m) (h1 : ∀ i, i ≠ M + 4 → κ' i = κ i) : RC M κ' ρ kd aa T hd ln pt P hN m := by
  unfold RC RCa EN at *
  rw [h1 (M + 5) (by omega), h1 (M + 10 + 7 * T) (by omega), h1 (M + 10 + 7 * T + 1) (by omega), h1 (M + 10 + 7 * T + 2) (by omega), h1 (M + 10 + 7 * T + 3) (by omega), h1 (M + 10 + 7 * T + 4) (by omega), h1 (M + 10 + 7 * T + 5) (by omega), h1 (M + 10 + 7 * T + 6) (by omega)]
  exact h
/-- one step of the class and one of the reference -/
theorem stepS (hM : isM M) (w : PW n kd aa zz) (hPn : P < n) (hS6 : S < 1000) (hpc : PC κ n kd aa zz bb) (hpr : PR ρ n kd aa zz bb) (h : ST M κ ρ kd aa T hd ln pt P S) (hm : MODE M κ ρ kd aa hr T hd ln pt P) (hh : HH (κ M 4) hr) (hz : hr = 0 → T = 0 ∧ ρ 0 39 = 0) (h44 : ρ 0 44 = 0) :
    ∃ κf κr κ' ρ' T' hd' ln', zf_X0_foresee M (κ M 5) (M + 1) κ = some κf ∧ zf_X3_getReady M κf = some κr ∧ zf_X3_doStep M κr = some κ' ∧ zf_X10_step (nI hr) ρ = some ρ' ∧ (hr = 0 → T' = 0) ∧ RES M κ ρ κ' ρ' kd aa n hr T' hd' ln' S := by
  have hn := w.1
  have hp : P < 24 := by omega
  have hml := M_lt hM
  have hm21 : 21 ≤ M := by rcases hM with rfl | rfl <;> decide
  obtain ⟨κf, f1, f2, f3⟩ := foreseeS hpc w h.2.1 hp
  have hf := h.frE f3
  -- settle
  have key : ∃ κs ρs T' hd' ln', SETC M κf = some κs ∧ zl_X10_step_2 (nI hr) (false, ρ) = zb_X10_step_62 (nI hr) ρs ∧ SET M κs ρs kd aa hr T' hd' ln' pt P S ∧ KF M κf κs ∧ RF ρ ρs ∧ (hr = 0 → T' = 0 ∧ ρs 0 39 = 0) := by
    rcases hm with ⟨hN, m, m1, m2, m3⟩ | ⟨m1, m2, ⟨c, e, m3⟩ | m3⟩
    · obtain ⟨κs, ρs, T', hd', ln', e1, e2, e3, e4, e5, _, _⟩ := settleR hM hf hp (m1.frE f3) ⟨by rw [f3 M (by omega)]; exact m2.1, m2.2⟩ m3 h44 (nI hr)
      refine ⟨κs, ρs, T', hd', ln', e1, e2, e3.set, e4, e5, fun q => ?_⟩
      have := (hz q).2
      rw [m1.1.2.1] at this
      exact absurd this (by decide)
    · have c1 : CU M κf ρ T ln pt P c e := by unfold CU at *; rw [f3 M (by omega)]; exact m3
      have n1 : NR M κf ρ := ⟨by rw [f3 _ (by omega)]; exact m1.1, m1.2⟩
      obtain ⟨e1, e2⟩ := settleC hM n1 h.2.2.2.1.1 c1 (nI hr)
      exact ⟨κf, ρ, T, hd, ln, e1, e2, ⟨hf, Or.inr ⟨n1, m2, Or.inl ⟨c, e, c1⟩⟩⟩, KF.refl M κf, RF.refl ρ, hz⟩
    · have n1 : NR M κf ρ := ⟨by rw [f3 _ (by omega)]; exact m1.1, m1.2⟩
      obtain ⟨κs, ρs, e1, e2, e3, e4, e5, e6⟩ := settleN hM hf hp n1 ⟨by rw [f3 M (by omega)]; exact m3.1, m3.2⟩ m2 h44 (nI hr)
      exact ⟨κs, ρs, T, hd, ln, e1, e2, e3.set, e4, e5, fun q => ⟨(hz q).1, by rw [e6]; exact (hz q).2⟩⟩
  obtain ⟨κs, ρs, T', hd', ln', e1, e2, e3, e4, e5, e6⟩ := key
  have hpcs : PC κs n kd aa zz bb := hpc.fr (fun i hi => by rw [e4.1 i (by omega), f3 i (by omega)])
  have hprs : PR ρs n kd aa zz bb := hpr.fr e5.1
  have hcs : EC M κs ρs kd zz bb P := f2.fr w hp (e4.2.1 _ (by omega) (by omega)) (fun j hj => by rw [← (e3.1.2.1 j hj).1, ← (hf.2.1 j hj).1, e4.2.1 _ (by omega) (by omega)]) (fun j hj => by rw [← (e3.1.2.1 j hj).2.1, ← (hf.2.1 j hj).2.1, e4.2.1 _ (by omega) (by omega)])
  have k4 : κs M 4 = κ M 4 := by rw [e4.2.2 4 (by decide), f3 M (by omega)]
  have t8 := e3.1.2.2.2.1.1
  obtain ⟨κ1, j, κ', ρ', r1, r2, r3, r4⟩ := readyS (bb := bb) hM w hPn hS6 8 κs ρs 0 hpcs hprs hcs e3 (by rw [k4]; exact hh) e6 (Or.inl (by rw [e5.2.2.2]; exact h44)) (fun c e hc => by have := mu_le (P := P) (hd := hd') hc.1; omega)
  refine ⟨κf, κ1, κ', ρ', T', hd', ln', by rw [h.1.1]; exact f1, ?_, r2, ?_, fun q => (e6 q).1, ?_⟩
  · rw [getReady_eq, e1, obd_some]
    unfold zb_X3_getReady_37
    rw [show ((0 : Int32), κs) = (nI 0, κs) from rfl, r1 1000 (by decide), obd_some]
  · unfold zf_X10_step
    rw [lp_RUN (N := 999) e2, r3 999 (by decide), obd_some]
  · obtain ⟨v1, v2, v3, v4, v5, pt', P', v6, v7, v8, v9⟩ := r4
    refine ⟨fun i hi => by rw [v1 i hi, e4.1 i hi, f3 i (by omega)], e5.1.trans v2, by rw [v3, k4], by unfold T17 at *; rw [← e5.2.1 17 (by decide), ← e5.2.1 18 (by decide)]; exact v4, v5, pt', P', v6, v7, v8, ?_⟩
    rcases v9 with x | ⟨x1, x2, x3⟩
    · exact Or.inl x
    · exact Or.inr ⟨x1, by rw [x2, e4.2.2 6 (by decide), f3 M (by omega)], by rw [x3, e5.2.2.1]⟩
/-- where the run has ended -/
def FIN (M : Nat) (κ ρ : Sg) (kd aa : Nat → Nat) (S : Nat) : Prop := ∃ T hd ln pt P, ST M κ ρ kd aa T hd ln pt P S ∧ ((∃ hN m, RCa M κ ρ T hN m) ∨ NR M κ ρ)
theorem FIN.eds {i : Nat} {v : Int32} (h : FIN M κ ρ kd aa S) (hi : i = 21 ∨ i = 22) : FIN M κ (su ρ 0 i v) kd aa S := by
  obtain ⟨T, hd, ln, pt, P, h1, h2⟩ := h
  refine ⟨T, hd, ln, pt, P, ?_, ?_⟩
  · obtain ⟨s1, s2, s3, s4, s5, s6⟩ := h1
    have e0 : ∀ n, n ≠ 0 → su ρ 0 i v n = ρ n := fun n hn => su_ne ρ hn
    have e1 : ∀ j, j ≠ i → su ρ 0 i v 0 j = ρ 0 j := fun j hj => by rw [su_ap, if_pos rfl, if_neg hj]
    refine ⟨?_, ?_, ?_, s4.fr (fun _ _ _ => rfl) rfl (fun n a b => e0 n (by omega)) (e1 25 (by omega)), s5.fr (e0 _ (by decide)) (e0 _ (by decide)) (e0 _ (by decide)), s6.fr rfl (e0 _ (by decide))⟩
    · unfold SC at *
      rw [e1 16 (by omega), e1 17 (by omega), e1 18 (by omega), e1 19 (by omega), e1 20 (by omega)]
      exact s1
    · unfold RG at *
      rw [e0 8 (by decide), e0 9 (by decide)]
      exact s2
    · unfold HT at *
      rw [e0 10 (by decide), e0 11 (by decide)]
      exact s3
  · have e1 : ∀ j, j ≠ i → su ρ 0 i v 0 j = ρ 0 j := fun j hj => by rw [su_ap, if_pos rfl, if_neg hj]
    rcases h2 with ⟨hN, m, h⟩ | h
    · refine Or.inl ⟨hN, m, ?_⟩
      unfold RCa at *
      rw [e1 39 (by omega), e1 40 (by omega), e1 41 (by omega), e1 42 (by omega), e1 43 (by omega), su_ne ρ (show 11 ≠ 0 by decide)]
      exact h
    · exact Or.inr ⟨h.1, by rw [e1 39 (by omega)]; exact h.2⟩
theorem runL (hM : isM M) (w : PW n kd aa zz) {L : Nat} (hL : L ≤ 600) : ∀ (d : Nat) (κ ρ : Sg) (S T : Nat) (hd ln : Nat → Nat) (pt : Nat → Nat → Nat) (P : Nat), S + d = L → PC κ n kd aa zz bb → PR ρ n kd aa zz bb → ρ 0 9 = nI L → ST M κ ρ kd aa T hd ln pt P S → MODE M κ ρ kd aa hr T hd ln pt P → HH (κ M 4) hr → (hr = 0 → T = 0 ∧ ρ 0 39 = 0) → ρ 0 44 = 0 → P ≤ 24 → κ M 6 = (if P < n then 0 else 2) → ρ 0 22 = 1 → ρ 0 17 = nI S → (∃ c, c ≤ S ∧ ρ 0 18 = nI c) →
    ∃ κ' ρ' x S', (∀ N, d < N → lp (zl_X3_go_53 M (nI L)) N (nI S, κ) = some (x, κ')) ∧ (∀ N, d + 1 < N → lp (zl_X10_runs_116 (nI hr)) N ρ = some ρ') ∧ FIN M κ' ρ' kd aa S' ∧ FC M κ κ' ∧ FR ρ ρ' ∧ ∃ c, c ≤ 600 ∧ ρ' 0 18 = nI c := by
  have hn := w.1
  have hm21 : 21 ≤ M := by rcases hM with rfl | rfl <;> decide
  have fin : ∀ (κ ρ : Sg) (S T : Nat) (hd ln : Nat → Nat) (pt : Nat → Nat → Nat) (P : Nat), ST M κ ρ kd aa T hd ln pt P S → MODE M κ ρ kd aa hr T hd ln pt P → FIN M κ ρ kd aa S := by
    intro κ ρ S T hd ln pt P h hm
    refine ⟨T, hd, ln, pt, P, h, ?_⟩
    rcases hm with ⟨hN, m, m1, _⟩ | ⟨m1, _⟩
    · exact Or.inl ⟨hN, m, m1.1⟩
    · exact Or.inr m1
  have frs : ∀ (ρ : Sg) (a b : Int32), FR ρ (su (su ρ 0 22 a) 0 21 b) := fun ρ a b => ⟨fun i h1 h2 => by simp (disch := omega) only [su_ne], fun i hi => by grind [su_ap]⟩
  -- the reference sets its end and goes out
  have out : ∀ (ρ : Sg) (b : Int32) (k : Nat), lp (zl_X10_runs_116 (nI hr)) (k + 1) (su (su ρ 0 22 0) 0 21 b) = some (su (su ρ 0 22 0) 0 21 b) := fun ρ b k => lp_false (by unfold zl_X10_runs_116; rw [if_pos (by simp [su_ap])])
  intro d
  induction d with
  | zero =>
    intro κ ρ S T hd ln pt P hSd hpc hpr h9 h hm hh hz h44 hP24 h6 h22 h17 h18
    have e : S = L := by omega
    subst e
    refine ⟨κ, su (su ρ 0 22 0) 0 21 0, nI S, S, fun N hN => ?_, fun N hN => ?_, ((fin κ ρ S T hd ln pt P h hm).eds (Or.inr rfl)).eds (Or.inl rfl), fun _ _ => rfl, frs ρ 0 0, h18.elim fun c hc => ⟨c, by omega, by simp [su_ap]; exact hc.2⟩⟩
    · obtain ⟨k, rfl⟩ : ∃ k, N = k + 1 := ⟨N - 1, by omega⟩
      exact lp_false (by unfold zl_X3_go_53; rw [if_pos (nI_le (Nat.le_refl S) (by omega))])
    · obtain ⟨k, rfl⟩ : ∃ k, N = k + 2 := ⟨N - 2, by omega⟩
      rw [lp_true (n := k + 1) (y := su (su ρ 0 22 0) 0 21 0) (by unfold zl_X10_runs_116; rw [if_neg (by rw [h22]; decide), if_pos (by rw [h17, h9])])]
      exact out ρ 0 k
  | succ d ih =>
    intro κ ρ S T hd ln pt P hSd hpc hpr h9 h hm hh hz h44 hP24 h6 h22 h17 h18
    have hSL : ¬ nI L ≤ nI S := nI_ge (by omega) (by omega)
    have hne : ¬ ρ 0 17 = ρ 0 9 := by rw [h17, h9]; exact fun q => by have := nI_inj (by omega) (by omega) q; omega
    by_cases hPn : P < n
    · rw [if_pos hPn] at h6
      have hlt : ρ 0 16 < ρ 0 5 := by rw [h.1.2.1, hpr.1]; exact nI_lt hPn (by omega)
      obtain ⟨κf, κr, κ1, ρ1, T', hd', ln', a1, a2, a3, a4, a5, r⟩ := stepS hM w hPn (by omega) hpc hpr h hm hh hz h44
      obtain ⟨v1, v2, v3, v4, v5, pt', P', v6, v7, v8, v9⟩ := r
      have h18' : ∃ c, c ≤ S + 1 ∧ ρ1 0 18 = nI c := by
        obtain ⟨c, c1, c2⟩ := h18
        rcases v4.2 with q | q
        · exact ⟨c, by omega, by rw [q]; exact c2⟩
        · exact ⟨c + 1, by omega, by rw [q, c2, nI_1]⟩
      have bC : zl_X3_go_53 M (nI L) (nI S, κ) = some (true, (nI (S + 1), κ1)) := by
        unfold zl_X3_go_53
        simp only []
        rw [if_neg hSL, if_pos h6, a1, obd_some, a2, obd_some, a3, obd_some, nI_1]
      have bR : zl_X10_runs_116 (nI hr) ρ = some (true, ρ1) := by
        unfold zl_X10_runs_116
        rw [if_neg (by rw [h22]; decide), if_neg hne, if_pos hlt, a4, obd_some]
      have hpc1 : PC κ1 n kd aa zz bb := hpc.fr (fun i hi => v1 i (by omega))
      have hpr1 : PR ρ1 n kd aa zz bb := hpr.fr v2
      rcases v9 with ⟨x1, x2, x3, x4⟩ | ⟨x1, x2, x3⟩
      · refine ⟨κ1, ρ1, nI (S + 1), S + 1, fun N hN => ?_, fun N hN => ?_, ⟨T', hd', ln', pt', P', v7, x1⟩, v1, v2, h18'.elim fun c hc => ⟨c, by omega, hc.2⟩⟩
        · obtain ⟨k, rfl⟩ : ∃ k, N = k + 2 := ⟨N - 2, by omega⟩
          rw [lp_true (n := k + 1) bC]
          apply lp_false
          unfold zl_X3_go_53
          simp only []
          split
          · rfl
          · rw [if_neg (by rw [x2]; decide)]
        · obtain ⟨k, rfl⟩ : ∃ k, N = k + 2 := ⟨N - 2, by omega⟩
          rw [lp_true (n := k + 1) bR]
          apply lp_false
          unfold zl_X10_runs_116
          rw [if_pos x3]
      · obtain ⟨κ', ρ', x, S', i1, i2, i3, i4, i5, i6⟩ := ih κ1 ρ1 (S + 1) T' hd' ln' pt' P' (by omega) hpc1 hpr1 (by rw [v2.2 9 (by decide)]; exact h9) v7 x1 (by rw [v3]; exact hh) (fun q => ⟨a5 q, v8 q⟩) v5 v6 (by rw [x2, h6]) (by rw [x3]; exact h22) (by rw [v4.1, h17, nI_1]) h18'
        refine ⟨κ', ρ', x, S', fun N hN => ?_, fun N hN => ?_, i3, v1.trans i4, v2.trans i5, i6⟩
        · obtain ⟨k, rfl⟩ : ∃ k, N = k + 1 := ⟨N - 1, by omega⟩
          rw [lp_true (n := k) bC]
          exact i1 k (by omega)
        · obtain ⟨k, rfl⟩ : ∃ k, N = k + 1 := ⟨N - 1, by omega⟩
          rw [lp_true (n := k) bR]
          exact i2 k (by omega)
    · rw [if_neg hPn] at h6
      refine ⟨κ, su (su ρ 0 22 0) 0 21 2, nI S, S, fun N hN => ?_, fun N hN => ?_, ((fin κ ρ S T hd ln pt P h hm).eds (Or.inr rfl)).eds (Or.inl rfl), fun _ _ => rfl, frs ρ 0 2, h18.elim fun c hc => ⟨c, by omega, by simp [su_ap]; exact hc.2⟩⟩
      · obtain ⟨k, rfl⟩ : ∃ k, N = k + 1 := ⟨N - 1, by omega⟩
        apply lp_false
        unfold zl_X3_go_53
        simp only []
        rw [if_neg hSL, if_neg (by rw [h6]; decide)]
      · obtain ⟨k, rfl⟩ : ∃ k, N = k + 2 := ⟨N - 2, by omega⟩
        rw [lp_true (n := k + 1) (y := su (su ρ 0 22 0) 0 21 2) (by unfold zl_X10_runs_116; rw [if_neg (by rw [h22]; decide), if_neg hne, if_neg (by rw [h.1.2.1, hpr.1]; exact nI_nlt (by omega) (by omega))])]
        exact out ρ 2 k
end RunL
