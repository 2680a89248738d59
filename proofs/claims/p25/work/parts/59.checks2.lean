section Checks2
variable {κ ρ κ' ρ' : Sg} {n : Nat} {kd aa zz : Nat → Nat} {bb : Nat → Int32} {T : Nat} {hd ln : Nat → Nat} {pt : Nat → Nat → Nat} {P S : Nat}
theorem b2z : b2i false = 0 ∧ b2i true = 1 := ⟨rfl, rfl⟩
theorem refStep (w : PW n kd aa zz) {q : Nat} (hq : q < 24) (W c2 c1 c0 s : Int32) : (c2 + b2i (Yk (kd q) && (!bt s (yy bb q) && !bt W (yy bb q))) + b2i ((Zk (kd q) && !(Yk (kd q) && decide (yy bb q = zz q))) && (!bt (s ||| (if Yk (kd q) then bi (yy bb q) else 0)) (zz q) && !bt W (zz q))), c1 + b2i (Yk (kd q) && !bt s (yy bb q)) + b2i ((Zk (kd q) && !(Yk (kd q) && decide (yy bb q = zz q))) && !bt (s ||| (if Yk (kd q) then bi (yy bb q) else 0)) (zz q)), c0 + b2i (Yk (kd q)) + b2i (Zk (kd q) && !(Yk (kd q) && decide (yy bb q = zz q))), (s ||| (if Yk (kd q) then bi (yy bb q) else 0) ||| (if (Zk (kd q) && !(Yk (kd q) && decide (yy bb q = zz q))) then bi (zz q) else 0)) ||| (if kd q = 8 then bi (zz q) else 0) ||| wb kd aa q) = cks kd aa zz bb W q (c2, c1, c0, s) := by
  have hy := yy_lt bb q
  have hz := (w.2 q hq).2.2
  obtain ⟨z0, z1⟩ := b2z
  by_cases v : Yk (kd q) = true
  · have k8 : kd q ≠ 8 := fun e => by rw [e] at v; exact absurd v (by decide)
    have u : Zk (kd q) = true := by
      unfold Yk at v
      unfold Zk
      simp only [decide_eq_true_eq] at v ⊢
      omega
    have r : rm kd zz bb q = bi (yy bb q) ||| bi (zz q) := by unfold rm; rw [if_pos v, if_pos (Or.inl u)]
    unfold cks
    rw [if_neg k8, if_neg k8, r, v, u, and_nn, cnt2 _ hy hz, cnt2 _ hy hz, cnt0 hy hz]
    generalize yy bb q = y at *
    generalize zz q = z at *
    simp only [bt_or, bt_bi hy hz, if_true, Bool.true_and, z1]
    by_cases e : y = z
    · subst e
      simp [z0]
      rw [Int32.or_assoc]
    · simp [e]
      refine ⟨?_, ?_, ?_, ?_⟩
      · cases bt s y <;> cases bt W y <;> cases bt s z <;> cases bt W z <;> simp [Int32.add_assoc]
      · rw [Int32.add_assoc]
      · rw [z1, Int32.add_assoc]
      · simp only [Int32.or_assoc]
  · by_cases u : Zk (kd q) = true
    · have k8 : kd q ≠ 8 := fun e => by rw [e] at u; exact absurd u (by decide)
      have r : rm kd zz bb q = bi (zz q) := by unfold rm; rw [if_neg v, if_pos (Or.inl u)]; simp
      have v' : Yk (kd q) = false := by simpa using v
      unfold cks
      rw [if_neg k8, if_neg k8, r, v', u, and_nn, cnt1 _ hz, cnt1 _ hz, bc1 hz]
      simp [bt_or, z0, z1, Int32.or_assoc]
    · have v' : Yk (kd q) = false := by simpa using v
      have u' : Zk (kd q) = false := by simpa using u
      by_cases k8 : kd q = 8
      · have r : rm kd zz bb q = bi (zz q) := by unfold rm; rw [if_neg v, if_pos (Or.inr k8)]; simp
        unfold cks
        rw [if_pos k8, if_pos k8, r, v', u']
        simp [z0, Int32.or_assoc]
      · have r : rm kd zz bb q = 0 := by unfold rm; rw [if_neg v, if_neg (fun z => z.elim u k8)]; simp
        unfold cks
        rw [if_neg k8, if_neg k8, r, v', u']
        simp [z0, bc0]
theorem loopC {k m : Nat} {W : Int32} (h : PC κ n kd aa zz bb) (w : PW n kd aa zz) (ht : TC 21 κ ρ T hd ln pt) (hk : k < T) : ∃ y, lp (X := Int32 × Int32 × Int32 × Int32 × Int32) (zl_X7_checksOf_25 (21 + 10 + 7 * k) κ W) 1000 ((0 : Int32), (0 : Int32), (0 : Int32), (0 : Int32), (0 : Int32)) = some y ∧ y.2 = ckA kd aa zz bb W (pt k) (ln k) := by
  obtain ⟨h1, h2, h3, h4, h5, h6, h7, _⟩ := ht.2.2.2.2.1 k hk
  refine lp_for (X := Int32 × Int32 × Int32 × Int32 × Int32) (fun i x => x.1 = nI i ∧ x.2 = ckA kd aa zz bb W (pt k) i) (fun y => y.2 = ckA kd aa zz bb W (pt k) (ln k)) (ln k) (by omega) ⟨rfl, rfl⟩ ?_ ?_
  · rintro i ⟨x, c2, c1, c0, s⟩ hi ⟨e1, e2⟩
    dsimp only at e1 e2
    subst e1
    obtain ⟨g1, g2, g3, _⟩ := ht.2.2.2.2.2 k i hk hi
    have g9 := (w.2 _ g1).1
    unfold zl_X7_checksOf_25 zb_X7_checksOf_107
    simp only []
    rw [if_neg (by rw [h7]; exact nI_ge hi (by omega)), bd_nI (by omega) (by decide), letb_eq, nI_clamp (show i < 2 ^ 31 by omega), g3, readAtC h w g1, obd_some, bd_nI g1 (by decide), nI_clamp (show pt k i < 2 ^ 31 by omega), (h.2 _ g1).1, writtenAtC h w g1, nI_1]
    simp only [obd_some, letb_eq]
    rw [ckA, ← e2]
    unfold cks
    by_cases k8 : kd (pt k i) = 8
    · rw [if_pos (by rw [k8]; rfl), if_pos k8]
      exact ⟨_, rfl, rfl, rfl⟩
    · rw [if_neg (show ¬ nI (kd (pt k i)) = 8 from fun z => k8 (nI_inj (b := 8) (by omega) (by decide) z)), if_neg k8]
      exact ⟨_, rfl, rfl, rfl⟩
  · rintro ⟨x, c2, c1, c0, s⟩ ⟨e1, e2⟩
    dsimp only at e1 e2
    subst e1
    unfold zl_X7_checksOf_25
    simp only []
    rw [if_pos (by rw [h7]; exact nI_le (Nat.le_refl _) (by omega))]
    exact ⟨_, rfl, e2⟩
theorem loopR {k : Nat} {W : Int32} (h : PR ρ n kd aa zz bb) (w : PW n kd aa zz) (ht : TC 21 κ ρ T hd ln pt) (hk : k < T) : ∃ y, lp (X := Int32 × Int32 × Int32 × Int32 × Int32) (zl_X10_checksBy_27 (nI k) ρ W) 1000 ((0 : Int32), (0 : Int32), (0 : Int32), (0 : Int32), (0 : Int32)) = some y ∧ y.2 = ckA kd aa zz bb W (pt k) (ln k) := by
  obtain ⟨h1, h2, h3, h4, h5, h6, h7, _⟩ := ht.2.2.2.2.1 k hk
  have hT := ht.1
  refine lp_for (X := Int32 × Int32 × Int32 × Int32 × Int32) (fun i x => x.1 = nI i ∧ x.2 = ckA kd aa zz bb W (pt k) i) (fun y => y.2 = ckA kd aa zz bb W (pt k) (ln k)) (ln k) (by omega) ⟨rfl, rfl⟩ ?_ ?_
  · rintro i ⟨x, c2, c1, c0, s⟩ hi ⟨e1, e2⟩
    dsimp only at e1 e2
    subst e1
    obtain ⟨g1, g2, g3, _⟩ := ht.2.2.2.2.2 k i hk hi
    have g9 := (w.2 _ g1).1
    have e6 : (16 : Int32) * nI k + nI i = nI (16 * k + i) := by rw [show (16 : Int32) = nI 16 from rfl, nI_mul, nI_add]
    unfold zl_X10_checksBy_27
    simp only []
    rw [bd_nI (by omega) (by decide), nI_clamp (show k < 2 ^ 31 by omega), if_neg (by rw [h6]; exact nI_ge hi (by omega)), e6, bd_nI (by omega) (by decide), letb_eq, nI_clamp (show 16 * k + i < 2 ^ 31 by omega), g2, b4 g1, kR h g1, letb_eq, kindR g9]
    unfold zb_X10_checksBy_117 zb_X10_checksBy_311 zb_X10_checksBy_336 zf_X10_writesOut zb_X10_writesOut_11
    simp only []
    rw [sidesR h w g1, obd_some, zR h g1, obd_some, xR h w g1]
    simp only [obd_some, letb_eq]
    rw [nI_1, ckA, ← e2, ← refStep w g1]
    generalize hq : pt k i = q at *
    by_cases k8 : kd q = 8
    · rw [if_pos (show nI (kd q) = 8 by rw [k8]; rfl), if_pos (show (6 : Int32) ≤ nI (kd q) by rw [k8]; decide), if_neg (by decide), if_pos k8, wb, if_neg (show ¬ kd q ≤ 5 by omega)]
      exact ⟨_, rfl, rfl, rfl⟩
    · rw [if_neg (show ¬ nI (kd q) = 8 from fun z => k8 (nI_inj (b := 8) (by omega) (by decide) z)), if_neg k8, wb]
      by_cases k5 : kd q ≤ 5
      · rw [if_neg (show ¬ (6 : Int32) ≤ nI (kd q) from nI_ge (a := kd q) (b := 6) (by omega) (by decide)), if_pos rfl, if_pos k5]
        exact ⟨_, rfl, rfl, rfl⟩
      · rw [if_pos (show (6 : Int32) ≤ nI (kd q) from nI_le (a := 6) (b := kd q) (by omega) (by omega)), if_neg (by decide), if_neg k5]
        exact ⟨_, rfl, rfl, rfl⟩
  · rintro ⟨x, c2, c1, c0, s⟩ ⟨e1, e2⟩
    dsimp only at e1 e2
    subst e1
    unfold zl_X10_checksBy_27
    simp only []
    rw [bd_nI (by omega) (by decide), nI_clamp (show k < 2 ^ 31 by omega), if_pos (by rw [h6]; exact nI_le (Nat.le_refl _) (by omega))]
    exact ⟨_, rfl, e2⟩
theorem checkFactS (h : PC κ n kd aa zz bb) (hR : PR ρ n kd aa zz bb) (w : PW n kd aa zz) (ht : TC 21 κ ρ T hd ln pt) (a b : Int32) : ∃ r, zf_X9_checkFact a b κ = some r ∧ zf_X10_checksOf a b ρ = some r := by
  have j0 : (0 : Int64).toInt = 0 := rfl
  have j2 : (2 : Int64).toInt = 2 := rfl
  have hT := ht.1
  unfold zf_X9_checkFact zf_X10_checksOf zb_X10_checksOf_29 zb_X10_checksOf_31 zf_X7_checksOf zf_X10_checksBy zb_X10_checksBy_366
  by_cases ha : 0 ≤ a.toInt ∧ a.toInt < (T : Int)
  · rw [if_pos ((hasC ht a).mpr ha), if_pos ((isTraceR ht a).mpr ha)]
    obtain ⟨k, k1, rfl⟩ := ex_nI ha
    obtain ⟨h1, h2, h3, h4, h5, h6, h7, _⟩ := ht.2.2.2.2.1 k k1
    simp only [in_eq, j0, j2, decide_eq_true_eq]
    rw [bd_nI (by omega) (by decide), bd_nI (by omega) (by decide), nI_clamp (by omega), h6, h7, aheadC h w ht k1 (Nat.le_refl _), aheadRR hR w ht k1 (Nat.le_refl _), obd_some, obd_some]
    obtain ⟨y, y1, y2⟩ := loopC (m := 0) (W := wA kd aa (pt k) (ln k)) h w ht k1
    obtain ⟨x, x1, x2⟩ := loopR (W := wA kd aa (pt k) (ln k)) hR w ht k1
    rw [y1, x1, obd_some, obd_some, y2, x2]
    by_cases hb : 0 ≤ b.toInt ∧ b.toInt ≤ 2
    · rw [if_pos hb]
      by_cases b0 : b = 0
      · rw [if_pos b0, if_pos b0]; exact ⟨_, rfl, rfl⟩
      · rw [if_neg b0, if_neg b0]
        by_cases b1 : b = 1
        · rw [if_pos b1, if_pos b1]; exact ⟨_, rfl, rfl⟩
        · rw [if_neg b1, if_neg b1]
          obtain ⟨b', b3, rfl⟩ := ex_nI (x := b) (n := 3) (by omega)
          have : b' = 0 ∨ b' = 1 ∨ b' = 2 := by omega
          rcases this with rfl | rfl | rfl
          · exact absurd rfl b0
          · exact absurd rfl b1
          · rw [if_pos (show nI 2 = 2 from rfl)]; exact ⟨_, rfl, rfl⟩
    · rw [if_neg hb, if_neg (show ¬ b = 0 from ofR hb 0 (by decide) (by decide)), if_neg (show ¬ b = 1 from ofR hb 1 (by decide) (by decide)), if_neg (show ¬ b = 2 from ofR hb 2 (by decide) (by decide))]
      exact ⟨_, rfl, rfl⟩
  · rw [if_neg (fun q => ha ((hasC ht a).mp q)), if_neg (fun q => ha ((isTraceR ht a).mp q))]
    exact ⟨_, rfl, rfl⟩
theorem checksS (h : Rel κ ρ) (a b : Int32) : SIM (zf_X9_checks a b κ) (zf_X10_checks a b ρ) := by
  obtain ⟨κ', ρ', e1, e2, e3, ⟨n, kd, aa, zz, bb, T, hd, ln, pt, P, S, f1, f2, f3, f4, f5⟩, e5⟩ := refreshRunS h
  unfold zf_X9_checks zf_X10_checks
  obtain ⟨r, r1, r2⟩ := checkFactS f1 f2 f3 f4.2.2.2.1 a b
  rw [e1, e2, obd_some, obd_some, r1, r2, obd_some, obd_some]
  exact ⟨_, _, _, rfl, rfl, e3⟩
end Checks2
