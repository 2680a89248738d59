/-! sheets: lose, lay, get, copy -/
section Face3
variable {κ ρ κ' ρ' : Sg} {n : Nat} {kd aa zz : Nat → Nat} {bb : Nat → Int32} {hr L : Nat}
theorem neg1 : (-1 : Int32).toInt = -1 := rfl
theorem loseS (h : Rel κ ρ) (s : Int32) : SIM (zf_X9_lose s κ) (zf_X10_lose s ρ) := by
  have t0 : (0 : Int32).toInt = 0 := rfl
  unfold zf_X9_lose zf_X10_lose zf_X9_found zf_X10_finds zf_X6_isLost zb_X6_isLost_13
  by_cases hs : 0 ≤ s.toInt ∧ s.toInt < 4
  · rw [if_pos ((isShC s).mpr hs), if_pos ((isShR s).mpr hs)]
    obtain ⟨s', s1, rfl⟩ := ex_nI (x := s) (n := 4) (by omega)
    rw [bd_nI s1 (by decide), bd_nI s1 (by decide), nI_clamp (show s' < 2 ^ 31 by omega)]
    rcases h.2.2.1.2 s' s1 with ⟨z1, z2⟩ | ⟨f, z, z1, z2, z3, z4, z5, z6, z7⟩
    · rw [z1, z2, if_pos (by decide), if_neg (by decide)]
      exact ⟨_, _, _, rfl, rfl, foundS h 1⟩
    · have e1 : ¬ nI f = -1 := nI_ne_neg (by omega)
      rw [z3, z4, if_neg e1, if_neg (by decide), if_pos (nI_pos' (by omega)), z5, z6, letb_eq]
      unfold zf_X6_renew
      obtain ⟨κ1, a1, a2, a3⟩ := fillS (13 + 2 * s' + 1) 60 0 (su (su κ (13 + 2 * s') 1 (-1)) (13 + 2 * s') 2 0) (by decide)
      rw [a1, obd_some, obd_some]
      have kn : ∀ i, i ≠ 13 + 2 * s' → i ≠ 13 + 2 * s' + 1 → κ1 i = κ i := fun i p q => by rw [a2 i q]; simp (disch := omega) only [su_ne]
      refine ⟨_, _, _, rfl, rfl, h.sh ⟨fun i p q => kn i (by omega) (by omega), fun j _ => by rw [kn 0 (by omega) (by omega)]⟩ (by simp (disch := omega) only [su_ne]) (by simp (disch := omega) only [su_ne]) (by simp (disch := omega) only [su_ne]) (fun i _ => by simp (disch := omega) only [su_ne]) (h.2.2.1.one (s := s') (by rw [kn 0 (by omega) (by omega)]; simp (disch := omega) only [su_ne]; exact h.2.2.1.1) (Or.inl ⟨?_, by simp [su_ap]⟩) (fun i _ _ p q => kn i p q) (fun t ht => by simp [su_ap, ht]) (fun i hi => by simp (disch := omega) only [su_ne]))⟩
      rw [a2 _ (by omega)]; simp [su_ap]
  · rw [if_neg (fun q => hs ((isShC s).mp q)), if_neg (fun q => hs ((isShR s).mp q))]
    exact ⟨_, _, _, rfl, rfl, h⟩
/-- what an item, treated as of a form, would make -/
theorem faultS {s : Nat} (hs : s < 4) (h : SH1 κ ρ s) (f i : Int32) : (∃ e : Int32, e ≠ 0 ∧ zf_X6_faultAt (13 + 2 * s) f i κ = e ∧ zf_X10_lacks (nI s) f i ρ = some (-10 - e, su ρ 0 4 e) ∧ (-10 - e : Int32) ≠ 0) ∨ (zf_X6_faultAt (13 + 2 * s) f i κ = 0 ∧ zf_X10_lacks (nI s) f i ρ = some (0, ρ) ∧ ∃ f' z j, f' ≤ 2 ∧ z ≤ 60 ∧ j < z ∧ f = nI f' ∧ i = nI j ∧ κ (13 + 2 * s) 1 = nI f' ∧ ρ 1 s = nI f' ∧ κ (13 + 2 * s) 2 = nI z ∧ ρ 2 s = nI z ∧ ∀ i, i < z → κ (13 + 2 * s + 1) i = ρ 3 (60 * s + i)) := by
  have t0 : (0 : Int32).toInt = 0 := rfl
  have j0 : (0 : Int64).toInt = 0 := rfl
  unfold zf_X6_faultAt zf_X10_lacks zf_X6_isLost zb_X6_isLost_13 zb_X6_faultAt_31 zb_X6_faultAt_36 zb_X10_lacks_58 zf_X10_finds
  rw [bd_nI hs (by decide), nI_clamp (show s < 2 ^ 31 by omega)]
  rcases h with ⟨z1, z2⟩ | ⟨f', z, z1, z2, z3, z4, z5, z6, z7⟩
  · rw [z1, z2, if_pos (by decide), if_neg (by decide)]
    exact Or.inl ⟨1, by decide, rfl, rfl, by decide⟩
  · have e1 : ¬ nI f' = -1 := nI_ne_neg (by omega)
    rw [z3, z4, if_neg e1, if_neg (by decide), if_pos (nI_pos' (by omega))]
    by_cases hf : nI f' = f
    · rw [if_pos hf, if_pos hf, z5, z6]
      have e2 : (nI z - 1).toInt = (z : Int) - 1 := gl_sub rfl (nI_toInt (by omega)) rfl (by omega)
      simp only [in_eq, j0, Int32.toInt_toInt64, e2, decide_eq_true_eq, Int32.lt_iff_toInt_lt, t0, nI_toInt (show z < 2 ^ 31 by omega)]
      by_cases hi : 0 ≤ i.toInt ∧ i.toInt < (z : Int)
      · rw [if_neg (by omega), if_pos hi.2, if_pos (by omega)]
        obtain ⟨j, j1, rfl⟩ := ex_nI hi
        exact Or.inr ⟨rfl, rfl, f', z, j, z1, z2, j1, hf.symm, rfl, rfl, rfl, rfl, rfl, z7⟩
      · rw [if_neg (show ¬ (0 ≤ i.toInt ∧ i.toInt ≤ (z : Int) - 1) by omega)]
        by_cases hz : i.toInt < 0
        · rw [if_pos hz]
          exact Or.inl ⟨2, by decide, rfl, rfl, by decide⟩
        · rw [if_neg hz, if_neg (by omega)]
          exact Or.inl ⟨2, by decide, rfl, rfl, by decide⟩
    · rw [if_neg hf, if_neg hf]
      exact Or.inl ⟨3, by decide, rfl, rfl, by decide⟩
theorem layS (h : Rel κ ρ) (s f i v : Int32) : SIM (zf_X9_lay s f i v κ) (zf_X10_lay s f i v ρ) := by
  unfold zf_X9_lay zf_X10_lay zb_X9_lay_14 zb_X10_lay_19
  by_cases hs : 0 ≤ s.toInt ∧ s.toInt < 4
  · rw [if_pos ((isShC s).mpr hs), if_pos ((isShR s).mpr hs)]
    by_cases hf : 0 ≤ f.toInt ∧ f.toInt ≤ 2
    · rw [if_pos ((isFmC f).mpr hf), if_pos ((isFmR f).mpr hf)]
      obtain ⟨s', s1, rfl⟩ := ex_nI (x := s) (n := 4) (by omega)
      rw [bd_nI s1 (by decide), nI_clamp (show s' < 2 ^ 31 by omega)]
      rcases faultS s1 (h.2.2.1.2 s' s1) f i with ⟨e, e0, e1, e2, e3⟩ | ⟨e1, e2, f', z, j, z1, z2, j1, rfl, rfl, z3, z4, z5, z6, z7⟩
      · rw [e1, e2, letb_eq, if_neg e0, bnd_some, if_neg e3]
        unfold zf_X9_found
        exact ⟨_, _, _, rfl, rfl, foundS h e⟩
      · have e6 : (60 : Int32) * nI s' + nI j = nI (60 * s' + j) := by rw [show (60 : Int32) = nI 60 from rfl, nI_mul, nI_add]
        rw [e1, e2, letb_eq, if_pos rfl, bnd_some, if_pos rfl, e6, bd_nI (by omega) (by decide), nI_clamp (by omega)]
        have key : ∀ x : Int32, SIM (obd (zb_X6_lower_31 (13 + 2 * s') (nI j) κ x) (fun σ9 => some ((1 : Int32), σ9))) (some ((1 : Int32), su ρ 3 (60 * s' + j) x)) := by
          intro x
          unfold zb_X6_lower_31
          rw [bd_nI (by omega) (by decide), nI_clamp (by omega), obd_some]
          refine ⟨_, _, _, rfl, rfl, h.sh ⟨fun i p q => by simp (disch := omega) only [su_ne], fun j _ => by simp (disch := omega) only [su_ne]⟩ (by simp (disch := omega) only [su_ne]) (by simp (disch := omega) only [su_ne]) (by simp (disch := omega) only [su_ne]) (fun i _ => by simp (disch := omega) only [su_ne]) (h.2.2.1.one (s := s') (by simp (disch := omega) only [su_ne]; exact h.2.2.1.1) ?_ (fun i _ _ p q => by simp (disch := omega) only [su_ne]) (fun t ht => by simp (disch := omega) only [su_ne]; exact ⟨trivial, trivial⟩) (fun i hi => by rw [su_ap, if_pos rfl, if_neg (by omega)]))⟩
          refine Or.inr ⟨f', z, z1, z2, by simp (disch := omega) only [su_ne]; exact z3, by simp (disch := omega) only [su_ne]; exact z4, by simp (disch := omega) only [su_ne]; exact z5, by simp (disch := omega) only [su_ne]; exact z6, fun i hi => ?_⟩
          by_cases q : i = j
          · subst q
            rw [su_hit rfl, su_hit rfl]
          · rw [su_rf rfl q rfl, su_rf rfl (by omega) rfl]
            exact z7 i hi
        unfold zf_X6_lower zf_X10_cut zb_X10_cut_20
        rw [z3]
        by_cases q0 : nI f' = 0
        · rw [if_pos q0, if_pos q0]
          exact key _
        · rw [if_neg q0, if_neg q0]
          by_cases q1 : nI f' = 1
          · rw [if_pos q1, if_pos q1]
            exact key _
          · rw [if_neg q1, if_neg q1]
            exact key _
    · rw [if_neg (fun q => hf ((isFmC f).mp q)), if_neg (fun q => hf ((isFmR f).mp q))]
      exact ⟨_, _, _, rfl, rfl, h⟩
  · rw [if_neg (fun q => hs ((isShC s).mp q)), if_neg (fun q => hs ((isShR s).mp q))]
    exact ⟨_, _, _, rfl, rfl, h⟩
theorem getS (h : Rel κ ρ) (s f i : Int32) : SIM (zf_X9_get s f i κ) (zf_X10_get s f i ρ) := by
  unfold zf_X9_get zf_X10_get zb_X9_get_14 zb_X10_get_29
  by_cases hs : 0 ≤ s.toInt ∧ s.toInt < 4
  · rw [if_pos ((isShC s).mpr hs), if_pos ((isShR s).mpr hs)]
    by_cases hf : 0 ≤ f.toInt ∧ f.toInt ≤ 2
    · rw [if_pos ((isFmC f).mpr hf), if_pos ((isFmR f).mpr hf)]
      obtain ⟨s', s1, rfl⟩ := ex_nI (x := s) (n := 4) (by omega)
      rw [bd_nI s1 (by decide), nI_clamp (show s' < 2 ^ 31 by omega)]
      rcases faultS s1 (h.2.2.1.2 s' s1) f i with ⟨e, e0, e1, e2, e3⟩ | ⟨e1, e2, f', z, j, z1, z2, j1, rfl, rfl, z3, z4, z5, z6, z7⟩
      · rw [e1, e2, letb_eq, if_neg e0, bnd_some, if_neg e3]
        exact ⟨_, _, _, rfl, rfl, foundS h e⟩
      · have e6 : (60 : Int32) * nI s' + nI j = nI (60 * s' + j) := by rw [show (60 : Int32) = nI 60 from rfl, nI_mul, nI_add]
        rw [e1, e2, letb_eq, if_pos rfl, bnd_some, if_pos rfl, e6, bd_nI (by omega) (by decide), nI_clamp (show 60 * s' + j < 2 ^ 31 by omega), bd_nI (by omega) (by decide), nI_clamp (show j < 2 ^ 31 by omega), z7 j j1]
        exact ⟨_, _, _, rfl, rfl, h⟩
    · rw [if_neg (fun q => hf ((isFmC f).mp q)), if_neg (fun q => hf ((isFmR f).mp q))]
      exact ⟨_, _, _, rfl, rfl, h⟩
  · rw [if_neg (fun q => hs ((isShC s).mp q)), if_neg (fun q => hs ((isShR s).mp q))]
    exact ⟨_, _, _, rfl, rfl, h⟩
end Face3
