section Rec
variable {M : Nat} {κ ρ κ' ρ' : Sg} {n : Nat} {kd aa zz : Nat → Nat} {bb : Nat → Int32} {T hr : Nat} {hd ln : Nat → Nat} {pt : Nat → Nat → Nat} {P P' S hN m : Nat}
def up2 (f : Nat → Nat → Nat) (T m x : Nat) : Nat → Nat → Nat := fun k e => if k = T ∧ e = m then x else f k e
/-- registers, point and the recording's cells move on -/
theorem ST.move2 (h : ST M κ ρ kd aa T hd ln pt P S) (h1 : ∀ n, n ≠ M → n ≠ M + 2 → n ≠ M + 3 → n < M + 10 + 7 * T ∨ M + 17 + 7 * T ≤ n → κ' n = κ n) (h0 : κ' (M + 10 + 7 * T) 0 = κ (M + 10 + 7 * T) 0) (h2 : ∀ n, n ≠ 0 → n ≠ 8 → n ≠ 9 → n < 17 ∨ 22 < n → ρ' n = ρ n) (h6 : ∀ n i, 17 ≤ n → n ≤ 22 → i < 16 * T → ρ' n i = ρ n i) (h3 : SC M κ' ρ' P') (h4 : RG M κ' ρ') (h5 : ρ' 0 25 = ρ 0 25) {x : Nat} : ST M κ' ρ' kd aa T hd ln (up2 pt T m x) P' (S + 1) := by
  obtain ⟨s1, s2, s3, s4, s5, s6⟩ := h
  have hp : ∀ k e, k < T → up2 pt T m x k e = pt k e := fun k e hk => by unfold up2; rw [if_neg (by omega)]
  refine ⟨h3, h4, ?_, s4.fr2 (fun n a b => h1 n (by omega) (by omega) (by omega) (by omega)) (by rw [h1 (M + 5) (by omega) (by omega) (by omega) (by omega)]) (fun n a b => h2 n (by omega) (by omega) (by omega) (by omega)) h5 h6 (fun k hk => ?_) hp, s5.fr2 (fun k hk => (s4.2.2.2.2.1 k hk).2.2.1) (fun k hk => (s4.2.2.2.2.1 k hk).2.1) (h2 _ (by decide) (by decide) (by decide) (by decide)) h6 hp, s6.fr (h1 _ (by omega) (by omega) (by omega) (by omega)) (h2 _ (by decide) (by decide) (by decide) (by decide))⟩
  · have := s3.mono (Nat.le_succ S)
    unfold HT at *
    rw [h1 (M + 7) (by omega) (by omega) (by omega) (by omega), h1 (M + 8) (by omega) (by omega) (by omega) (by omega), h2 10 (by decide) (by decide) (by decide) (by decide), h2 11 (by decide) (by decide) (by decide) (by decide)]
    exact this
  · by_cases z : k = T
    · rw [z]; exact h0
    · rw [h1 _ (by omega) (by omega) (by omega) (by omega)]
def nC (M : Nat) (κ : Sg) (T m P : Nat) : Sg := su (su (su (su (su (su (su κ (M + 10 + 7 * T + 1) m (nI P)) (M + 10 + 7 * T + 2) m (κ (M + 4) 0)) (M + 10 + 7 * T + 3) m (κ (M + 4) 1)) (M + 10 + 7 * T + 4) m (κ (M + 4) 2)) (M + 10 + 7 * T + 5) m 0) (M + 10 + 7 * T + 6) m (-1)) (M + 10 + 7 * T) 10 (nI (m + 1))
def nN (ρ : Sg) (T m P y z : Nat) (w : Int32) : Sg := su (su (su (su (su (su (su ρ 17 (16 * T + m) (nI P)) 18 (16 * T + m) (ρ 8 y)) 19 (16 * T + m) (ρ 8 z)) 20 (16 * T + m) w) 21 (16 * T + m) 0) 22 (16 * T + m) (-1)) 0 43 (nI (m + 1))
theorem appendC (h9 : κ (M + 10 + 7 * T) 10 = nI m) (hm : m < 16) : zf_X8_append (M + 10 + 7 * T) (nI P) M κ = some (nC M κ T m P) := by
  have p1 : (nI m < (16 : Int32)) = True := eq_true (nI_lt (a := m) (b := 16) hm (by decide))
  have n1 : (nI m).toNatClampNeg = m := nI_clamp (by omega)
  unfold zf_X8_append nC
  simp only [h9, p1, if_true, bd_nI hm (show 16 < 2 ^ 31 by decide), n1, nI_1]
theorem notesR (hpr : PR ρ n kd aa zz bb) (w : PW n kd aa zz) (hp : P < 24) (hP : ρ 0 16 = nI P) (hT : ρ 0 25 = nI T) (h8 : T < 8) (hm : ρ 0 43 = nI m) (hm16 : m < 16) (hr' : ER ρ kd zz bb P) : zf_X10_notes ρ = some (nN ρ T m P (yy bb P) (zz P) (ew ρ kd zz bb P)) := by
  have hy := yy_lt bb P
  have hz := (w.2 P hp).2.2
  have e16 : (16 : Int32) * nI T + nI m = nI (16 * T + m) := by rw [show (16 : Int32) = nI 16 from rfl, nI_mul, nI_add]
  have n1 : (nI (16 * T + m)).toNatClampNeg = 16 * T + m := nI_clamp (by omega)
  have n2 : (nI (yy bb P)).toNatClampNeg = yy bb P := nI_clamp (by omega)
  have n3 : (nI (zz P)).toNatClampNeg = zz P := nI_clamp (by omega)
  have q1 : ∀ a, PR (su ρ 17 (16 * T + m) a) n kd aa zz bb := fun a => hpr.fr ⟨fun n h1 h2 => by simp (disch := omega) only [su_ne], fun i hi => by simp (disch := omega) only [su_ne]⟩
  have q2 : ∀ a b, PR (su (su ρ 17 (16 * T + m) a) 18 (16 * T + m) b) n kd aa zz bb := fun a b => (q1 a).fr ⟨fun n h1 h2 => by simp (disch := omega) only [su_ne], fun i hi => by simp (disch := omega) only [su_ne]⟩
  have q3 : ∀ a b c, PR (su (su (su ρ 17 (16 * T + m) a) 18 (16 * T + m) b) 19 (16 * T + m) c) n kd aa zz bb := fun a b c => (q2 a b).fr ⟨fun n h1 h2 => by simp (disch := omega) only [su_ne], fun i hi => by simp (disch := omega) only [su_ne]⟩
  have q4 : ∀ a b c, zf_X10_wayOf (nI P) (su (su (su ρ 17 (16 * T + m) a) 18 (16 * T + m) b) 19 (16 * T + m) c) = some (ew ρ kd zz bb P) := fun a b c => by
    unfold ew
    exact wayR (q3 a b c) w hp (by simp (disch := omega) only [su_ne]; exact hr'.1) (by simp (disch := omega) only [su_ne]; exact hr'.2.2)
  unfold zf_X10_notes nN
  simp only [letb_eq, hT, hm, hP, e16, n1, bd_nI (show 16 * T + m < 144 by omega) (show 144 < 2 ^ 31 by decide), yR (q1 _) hp, zR (q2 _ _) hp, q4, obd_some, bd_nI hy (show 8 < 2 ^ 31 by decide), bd_nI hz (show 8 < 2 ^ 31 by decide), n2, n3, nI_1]
theorem nC_ne {i : Nat} (h : i < M + 10 + 7 * T ∨ M + 17 + 7 * T ≤ i) : nC M κ T m P i = κ i := by
  unfold nC; simp (disch := omega) only [su_ne]
theorem nC_h {i : Nat} (h : i ≠ 10) : nC M κ T m P (M + 10 + 7 * T) i = κ (M + 10 + 7 * T) i := by
  unfold nC; rw [su_ap, if_pos rfl, if_neg h]; simp (disch := omega) only [su_ne]
theorem nN_ne {y z i : Nat} {w : Int32} (h0 : i ≠ 0) (h : i < 17 ∨ 22 < i) : nN ρ T m P y z w i = ρ i := by
  unfold nN; simp (disch := omega) only [su_ne]
theorem nN_0 {y z i : Nat} {w : Int32} (h0 : i ≠ 43) : nN ρ T m P y z w 0 i = ρ 0 i := by
  unfold nN; rw [su_ap, if_pos rfl, if_neg h0]; simp (disch := omega) only [su_ne]
theorem nN_i {y z k i : Nat} {w : Int32} (h0 : k ≠ 0) (h : i ≠ 16 * T + m) : nN ρ T m P y z w k i = ρ k i := by
  unfold nN; simp [su_ap, h0, h]
/-- the recording has one entry more -/
theorem RC.note (w : PW n kd aa zz) (hp : P < 24) (hr0 : RC M κ ρ kd aa T hd ln pt P hN m) (hm : m < 16) (hc : EC M κ ρ kd zz bb P)
    (k1 : ∀ i, M + 10 + 7 * T ≤ i → i < M + 17 + 7 * T → κ' i = nC M κ T m P i) (k2 : κ' (M + 5) = κ (M + 5)) (r1 : ∀ i, 17 ≤ i → i ≤ 22 → ρ' i = nN ρ T m P (yy bb P) (zz P) (ew ρ kd zz bb P) i) (r2 : ∀ i, 39 ≤ i → i ≤ 42 → ρ' 0 i = ρ 0 i) (r3 : ρ' 0 43 = nI (m + 1)) (r4 : ρ' 11 = ρ 11) :
    RCa M κ' ρ' T hN (m + 1) ∧ (kd P ≠ 9 → RC M κ' ρ' kd aa T hd ln (up2 pt T m P) (nP ρ kd aa zz bb P) hN (m + 1)) := by
  obtain ⟨⟨h1, h2, h3, h4, h5, h6, h7, h8, h9, h10, h11, h12, h13⟩, hE, hst⟩ := hr0
  have A : RCa M κ' ρ' T hN (m + 1) := by
    refine ⟨by rw [k2]; exact h1, by rw [r2 39 (by decide) (by decide)]; exact h2, h3, h4, by omega, by rw [r2 40 (by decide) (by decide)]; exact h6, ?_, r3, ?_, ?_, ?_, ?_, by rw [r4]; exact h13⟩
    · rw [k1 _ (by omega) (by omega), nC_h (by decide)]; exact h7
    · rw [k1 _ (by omega) (by omega)]; unfold nC; simp [su_ap]
    · rw [k1 _ (by omega) (by omega), nC_h (by decide), r2 41 (by decide) (by decide)]; exact h10
    · rw [k1 _ (by omega) (by omega), nC_h (by decide), r2 42 (by decide) (by decide)]; exact h11
    · rw [k1 _ (by omega) (by omega), nC_h (by decide)]; exact h12
  refine ⟨A, fun k9 => ⟨A, fun e he => ?_, ?_⟩⟩
  · have u1 := k1 (M + 10 + 7 * T + 1) (by omega) (by omega)
    have u2 := k1 (M + 10 + 7 * T + 2) (by omega) (by omega)
    have u3 := k1 (M + 10 + 7 * T + 3) (by omega) (by omega)
    have u4 := k1 (M + 10 + 7 * T + 4) (by omega) (by omega)
    have u5 := k1 (M + 10 + 7 * T + 5) (by omega) (by omega)
    have u6 := k1 (M + 10 + 7 * T + 6) (by omega) (by omega)
    unfold EN
    rw [u1, u2, u3, u4, u5, u6, r1 17 (by decide) (by decide), r1 18 (by decide) (by decide), r1 19 (by decide) (by decide), r1 20 (by decide) (by decide), r1 21 (by decide) (by decide), r1 22 (by decide) (by decide)]
    by_cases q : e = m
    · subst q
      have x1 : up2 pt T e P T e = P := by unfold up2; rw [if_pos ⟨rfl, rfl⟩]
      have x2 : nN ρ T e P (yy bb P) (zz P) (ew ρ kd zz bb P) 20 (16 * T + e) = ew ρ kd zz bb P := by unfold nN; simp [su_ap]
      rw [x1, x2, if_neg (by omega), nP_nx w hp]
      obtain ⟨c1, c2, c3, c4, c5⟩ := hc
      unfold nC nN
      refine ⟨⟨hp, ?_, ?_, ?_, ?_, ?_, ?_, ?_⟩, ?_, k9, rfl⟩
      all_goals simp [su_ap]
      · exact c1
      · exact c2
      · exact c3
    · obtain ⟨a1, a2, a3, a4⟩ := hE e (by omega)
      have x1 : up2 pt T m P T e = pt T e := by unfold up2; rw [if_neg (by omega)]
      have x2 : (if e + 1 < m + 1 then up2 pt T m P T (e + 1) else nP ρ kd aa zz bb P) = if e + 1 < m then pt T (e + 1) else P := by
        rw [if_pos (by omega)]
        unfold up2
        by_cases z : e + 1 = m
        · rw [if_pos ⟨rfl, z⟩, if_neg (by omega)]
        · rw [if_neg (by omega), if_pos (by omega)]
      rw [x1, x2]
      have y1 : ∀ k, k ≠ 0 → nN ρ T m P (yy bb P) (zz P) (ew ρ kd zz bb P) k (16 * T + e) = ρ k (16 * T + e) := fun k hk => nN_i hk (by omega)
      have y2 : ∀ j, 1 ≤ j → j ≤ 6 → nC M κ T m P (M + 10 + 7 * T + j) e = κ (M + 10 + 7 * T + j) e := fun j j1 j2 => by
        unfold nC
        rw [su_ne _ (show M + 10 + 7 * T + j ≠ M + 10 + 7 * T by omega)]
        simp [su_ap, q]
      rw [y1 17 (by decide), y1 18 (by decide), y1 19 (by decide), y1 20 (by decide), y1 21 (by decide), y1 22 (by decide), y2 1 (by decide) (by decide), y2 2 (by decide) (by decide), y2 3 (by decide) (by decide), y2 4 (by decide) (by decide), y2 5 (by decide) (by decide), y2 6 (by decide) (by decide)]
      exact ⟨a1, a2, a3, a4⟩
  · have x0 : (if m + 1 = 0 then nP ρ kd aa zz bb P else up2 pt T m P T 0) = if m = 0 then P else pt T 0 := by
      rw [if_neg (by omega)]
      unfold up2
      by_cases z : m = 0
      · rw [if_pos ⟨rfl, z.symm⟩, if_pos z]
      · rw [if_neg (by omega), if_neg z]
    rw [x0, r2 41 (by decide) (by decide), r2 42 (by decide) (by decide)]
    rcases hst with z | ⟨k, e, z1, z2, z3, z4, z5, z6⟩
    · exact Or.inl z
    · refine Or.inr ⟨k, e, z1, z2, z3, z4, z5, ?_⟩
      rw [z6]
      unfold up2
      rw [if_neg (by omega)]
end Rec
