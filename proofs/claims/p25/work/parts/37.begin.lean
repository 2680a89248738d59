section Begin
variable {M : Nat} {κ ρ : Sg} {kd aa : Nat → Nat} {T : Nat} {hd ln : Nat → Nat} {pt : Nat → Nat → Nat} {P S hN m k : Nat}
theorem HB.fr {ρ' : Sg} {hr : Nat} {x : Option Nat} (h : HB ρ hr T hd x) (h1 : ρ' 10 = ρ 10) (h2 : ρ' 11 = ρ 11) (h3 : ρ' 13 = ρ 13) : HB ρ' hr T hd x := by
  unfold HB at *
  rw [h1, h2, h3]
  exact h
theorem beginC (hM : isM M) (h : TC M κ ρ T hd ln pt) (hk : k < T) : zf_X3_begin M (nI (M + 10 + 7 * k)) κ = some (su (su (su κ M 10 (nI (M + 10 + 7 * k))) M 11 0) (M + 10 + 7 * k) 11 (κ (M + 10 + 7 * k) 11 + 1)) := by
  have := M_lt hM
  have h8 := h.1
  unfold zf_X3_begin zb_X3_begin_24
  rw [if_neg (nI_ne_neg (by omega)), tk_nI (isTr_k hM (by omega)), nI_clamp (by omega)]
theorem entersR (h : TC M κ ρ T hd ln pt) (hk : k < T) : zf_X10_enters (nI k) ρ = some (su (su (su ρ 0 37 (nI k)) 0 38 0) 16 k (ρ 16 k + 1)) := by
  have h8 := h.1
  unfold zf_X10_enters
  rw [bd_nI (by omega) (by decide), nI_clamp (by omega)]
theorem beginS (hM : isM M) (h : ST M κ ρ kd aa T hd ln pt P S) (hk : k < T) (hp : pt k 0 = P) : ∃ κ' ρ', zf_X3_begin M (nI (M + 10 + 7 * k)) κ = some κ' ∧ zf_X10_enters (nI k) ρ = some ρ' ∧ ST M κ' ρ' kd aa T hd ln pt P S ∧ CU M κ' ρ' T ln pt P k 0 ∧ ρ' 0 39 = ρ 0 39 ∧ (∀ n, n ≠ 0 → n ≠ 16 → ρ' n = ρ n) ∧ κ' (M + 5) = κ (M + 5) ∧ KF M κ κ' ∧ RF ρ ρ' := by
  obtain ⟨s1, s2, s3, s4, s5, s6⟩ := h
  have s4' := s4
  obtain ⟨t1, t2, t3, t4, t5, t6⟩ := s4'
  refine ⟨_, _, beginC hM s4 hk, entersR s4 hk, ⟨?_, ?_, ?_, ?_, ?_, ?_⟩, ?_, ?_, ?_, ?_, ?_, ?_⟩
  · unfold SC at *
    grind [su_ap]
  · unfold RG at *
    grind [su_ap]
  · unfold HT at *
    grind [su_ap]
  · refine ⟨t1, by simp [su_ap]; exact t2, by simp (disch := omega) only [su_ne]; exact t3, fun j hj => ?_, fun j hj => ?_, fun j i hj hi => ?_⟩
    · have := t4 j hj
      grind [su_ap]
    · have := t5 j hj
      have := t5 k hk
      unfold HD at *
      grind [su_ap]
    · have := t6 j i hj hi
      unfold EN at *
      simp (disch := omega) only [su_ne]
      exact this
  · exact s5.fr (by simp (disch := omega) only [su_ne]) (by simp (disch := omega) only [su_ne]) (by simp (disch := omega) only [su_ne])
  · exact s6.fr (by simp (disch := omega) only [su_ne]) (by simp (disch := omega) only [su_ne])
  · have hl := (t5 k hk).2.1
    refine ⟨hk, by omega, ?_, ?_, ?_, ?_, hp⟩ <;> grind [su_ap, nI_0]
  · grind [su_ap]
  · intro n h1 h2
    simp (disch := omega) only [su_ne]
  · simp (disch := omega) only [su_ne]
  · refine ⟨fun n hn => by simp (disch := omega) only [su_ne], fun n hn hn2 => by simp (disch := omega) only [su_ne], fun i hi => ?_⟩
    grind [su_ap]
  · refine ⟨⟨fun n h1 h2 => by simp (disch := omega) only [su_ne], fun i hi => ?_⟩, fun i hi => ?_, ?_, ?_⟩ <;> grind [su_ap]
/-- no trace to begin: null again -/
theorem beginN (h : ST M κ ρ kd aa T hd ln pt P S) : ∃ κ', zf_X3_begin M (-1) κ = some κ' ∧ ST M κ' ρ kd aa T hd ln pt P S ∧ κ' M 10 = -1 ∧ (∀ n, n ≠ M → κ' n = κ n) ∧ KF M κ κ' := by
  obtain ⟨s1, s2, s3, s4, s5, s6⟩ := h
  unfold zf_X3_begin zb_X3_begin_24
  rw [if_pos rfl]
  refine ⟨_, rfl, ⟨?_, ?_, ?_, ?_, ?_, ?_⟩, ?_, ?_, ?_⟩
  · unfold SC at *
    grind [su_ap]
  · unfold RG at *
    grind [su_ap]
  · unfold HT at *
    grind [su_ap]
  · exact s4.fr (fun n a b => by simp (disch := omega) only [su_ne]) (by simp (disch := omega) only [su_ne]) (fun n a b => rfl) rfl
  · exact s5
  · exact s6.fr (by simp (disch := omega) only [su_ne]) rfl
  · simp [su_ap]
  · intro n hn
    simp (disch := omega) only [su_ne]
  · refine ⟨fun n hn => by simp (disch := omega) only [su_ne], fun n hn hn2 => by simp (disch := omega) only [su_ne], fun i hi => ?_⟩
    grind [su_ap]
theorem startC (hM : isM M) (h : TC M κ ρ T hd ln pt) (h8 : T < 8) (a b c : Int32) : zf_X2_startRecording M a b c κ = some (su (su (su (su (su (su κ (M + 5) 6 (nI (M + 10 + 7 * T))) (M + 10 + 7 * T) 7 a) (M + 10 + 7 * T) 8 b) (M + 10 + 7 * T) 9 c) (M + 10 + 7 * T) 10 0) (M + 10 + 7 * T) 11 0) := by
  have := M_lt hM
  unfold zf_X2_startRecording zf_X8_restart
  rw [h.2.2.1, bd_nI h8 (by decide), nI_clamp (by omega), tk_nI (isTr_k hM h8), nI_clamp (by omega), letb_eq]
theorem startS (hM : isM M) (h : ST M κ ρ kd aa T hd ln pt P S) (h8 : T < 8) (hh : hN < 24) (hd2 : ∃ d, ρ 11 hN = nI d ∧ d < 2) {b c : Int32} (hbc : (b = -1 ∧ P = hN) ∨ ∃ k e, k < T ∧ e < ln k ∧ b = nI k ∧ c = nI e ∧ hd k = hN ∧ P = pt k e) : ∃ κ', zf_X2_startRecording M (nI hN) b c κ = some κ' ∧ ST M κ' (zf_X10_begins (nI hN) b c ρ) kd aa T hd ln pt P S ∧ RC M κ' (zf_X10_begins (nI hN) b c ρ) kd aa T hd ln pt P hN 0 ∧ κ' M = κ M ∧ KF M κ κ' ∧ RF ρ (zf_X10_begins (nI hN) b c ρ) ∧ zf_X10_begins (nI hN) b c ρ 0 37 = ρ 0 37 ∧ (∀ n, n ≠ 0 → zf_X10_begins (nI hN) b c ρ n = ρ n) := by
  obtain ⟨s1, s2, s3, s4, s5, s6⟩ := h
  have s4' := s4
  obtain ⟨t1, t2, t3, t4, t5, t6⟩ := s4'
  refine ⟨_, startC hM s4 h8 _ b c, ?_, ?_, ?_, ?_, ?_, ?_, ?_⟩ <;> (try unfold zf_X10_begins)
  · refine ⟨?_, ?_, ?_, ?_, ?_, ?_⟩
    · unfold SC at *
      grind [su_ap]
    · unfold RG at *
      grind [su_ap]
    · unfold HT at *
      grind [su_ap]
    · refine ⟨t1, by simp [su_ap]; exact t2, ?_, fun j hj => ?_, fun j hj => ?_, fun j i hj hi => ?_⟩
      · grind [su_ap]
      · have := t4 j hj
        grind [su_ap]
      · have := t5 j hj
        unfold HD at *
        simp (disch := omega) only [su_ne]
        exact this
      · have := t6 j i hj hi
        unfold EN at *
        simp (disch := omega) only [su_ne]
        exact this
    · exact s5.fr (by simp (disch := omega) only [su_ne]) (by simp (disch := omega) only [su_ne]) (by simp (disch := omega) only [su_ne])
    · exact s6.fr (by simp (disch := omega) only [su_ne]) (by simp (disch := omega) only [su_ne])
  · refine ⟨?_, fun e he => absurd he (Nat.not_lt_zero e), ?_⟩
    · unfold RCa
      simp (disch := omega) only [su_ne]
      simp [su_ap]
      first | exact ⟨h8, hh, hd2⟩ | exact ⟨h8, hh, rfl, hd2⟩ | (refine ⟨h8, hh, ?_⟩; simpa [nI_0] using hd2)
    · simp [su_ap]
      rcases hbc with ⟨a1, a2⟩ | ⟨k, e, a1, a2, a3, a4, a5, a6⟩
      · exact Or.inl ⟨a1, a2⟩
      · exact Or.inr ⟨k, a1, e, a2, a3, a4, a5, a6⟩
  · simp (disch := omega) only [su_ne]
  · refine ⟨fun n hn => by simp (disch := omega) only [su_ne], fun n hn hn2 => by simp (disch := omega) only [su_ne], fun i hi => by simp (disch := omega) only [su_ne]⟩
  · refine ⟨⟨fun n h1 h2 => by simp (disch := omega) only [su_ne], fun i hi => ?_⟩, fun i hi => ?_, ?_, ?_⟩ <;> grind [su_ap]
  · grind [su_ap]
  · intro n hn
    simp (disch := omega) only [su_ne]
end Begin
