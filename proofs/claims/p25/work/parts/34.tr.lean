/-! traces: what class and reference hold of them -/
def EN (M : Nat) (κ ρ : Sg) (k e q : Nat) : Prop := q < 24 ∧ ρ 17 (16 * k + e) = nI q ∧ κ (M + 10 + 7 * k + 1) e = nI q ∧ κ (M + 10 + 7 * k + 2) e = ρ 18 (16 * k + e) ∧ κ (M + 10 + 7 * k + 3) e = ρ 19 (16 * k + e) ∧ κ (M + 10 + 7 * k + 4) e = ρ 20 (16 * k + e) ∧ κ (M + 10 + 7 * k + 5) e = ρ 21 (16 * k + e) ∧ κ (M + 10 + 7 * k + 6) e = ρ 22 (16 * k + e)
def HD (M : Nat) (κ ρ : Sg) (hd ln : Nat → Nat) (k : Nat) : Prop := hd k < 24 ∧ 1 ≤ ln k ∧ ln k ≤ 16 ∧ ρ 12 k = nI (hd k) ∧ κ (M + 10 + 7 * k) 7 = nI (hd k) ∧ ρ 15 k = nI (ln k) ∧ κ (M + 10 + 7 * k) 10 = nI (ln k) ∧ κ (M + 10 + 7 * k) 8 = ρ 13 k ∧ κ (M + 10 + 7 * k) 9 = ρ 14 k ∧ κ (M + 10 + 7 * k) 11 = ρ 16 k
def TC (M : Nat) (κ ρ : Sg) (T : Nat) (hd ln : Nat → Nat) (pt : Nat → Nat → Nat) : Prop := T ≤ 8 ∧ ρ 0 25 = nI T ∧ κ (M + 5) 4 = nI T ∧ (∀ k, k < 8 → κ (M + 10 + 7 * k) 0 = nI k) ∧ (∀ k, k < T → HD M κ ρ hd ln k) ∧ ∀ k e, k < T → e < ln k → EN M κ ρ k e (pt k e)
def nx (kd aa : Nat → Nat) (p : Nat) (w : Int32) : Nat := if kd p = 7 ∨ ((kd p = 6 ∨ kd p = 8) ∧ w = 1) then aa p else p + 1
def GT (ρ : Sg) (kd aa : Nat → Nat) (T : Nat) (hd ln : Nat → Nat) (pt : Nat → Nat → Nat) : Prop := ∀ k, k < T → (∃ r, r < T ∧ hd r = hd k ∧ ρ 13 r = -1) ∧ (ρ 13 k = -1 → pt k 0 = hd k) ∧ ∀ e, e < ln k → kd (pt k e) ≠ 9 ∧ nx kd aa (pt k e) (ρ 20 (16 * k + e)) = (if e + 1 < ln k then pt k (e + 1) else hd k) ∧ (ρ 22 (16 * k + e) = -1 ∨ ∃ k', k < k' ∧ k' < T ∧ ρ 22 (16 * k + e) = nI k' ∧ hd k' = hd k ∧ pt k' 0 = pt k e)
def RO (ρ : Sg) (T : Nat) (hd : Nat → Nat) (p : Nat) (x : Option Nat) : Prop := match x with
  | none => ∀ k, k < T → ¬ (hd k = p ∧ ρ 13 k = -1)
  | some r => r < T ∧ hd r = p ∧ ρ 13 r = -1 ∧ ∀ k, r < k → k < T → ¬ (hd k = p ∧ ρ 13 k = -1)
/-- a trace as memory's reference, as the reference's number -/
def cM (M : Nat) (x : Option Nat) : Int32 := match x with
  | none => -1
  | some r => nI (M + 10 + 7 * r)
def cR (x : Option Nat) : Int32 := match x with
  | none => -1
  | some r => nI r
def RT1 (M : Nat) (κ ρ : Sg) (T : Nat) (hd : Nat → Nat) : Prop := ∀ p, p < 24 → ∃ x, κ (M + 9) p = cM M x ∧ RO ρ T hd p x
/-- what only the traces' cells and rows decide stays, where those stay -/
theorem TC.fr {M : Nat} {κ ρ κ' ρ' : Sg} {T : Nat} {hd ln : Nat → Nat} {pt : Nat → Nat → Nat} (h : TC M κ ρ T hd ln pt) (h1 : ∀ n, M + 10 ≤ n → n < M + 66 → κ' n = κ n) (h2 : κ' (M + 5) 4 = κ (M + 5) 4) (h3 : ∀ n, 12 ≤ n → n ≤ 22 → ρ' n = ρ n) (h4 : ρ' 0 25 = ρ 0 25) : TC M κ' ρ' T hd ln pt := by
  obtain ⟨a, b, c, d, e, f⟩ := h
  refine ⟨a, by rw [h4]; exact b, by rw [h2]; exact c, fun k hk => by rw [h1 _ (by omega) (by omega)]; exact d k hk, fun k hk => ?_, fun k e hk he => ?_⟩
  · have := e k hk
    unfold HD at *
    rw [h1 _ (by omega) (by omega), h3 12 (by decide) (by decide), h3 13 (by decide) (by decide), h3 14 (by decide) (by decide), h3 15 (by decide) (by decide), h3 16 (by decide) (by decide)]
    exact this
  · have := f k e hk he
    unfold EN at *
    rw [h1 (M + 10 + 7 * k + 1) (by omega) (by omega), h1 (M + 10 + 7 * k + 2) (by omega) (by omega), h1 (M + 10 + 7 * k + 3) (by omega) (by omega), h1 (M + 10 + 7 * k + 4) (by omega) (by omega), h1 (M + 10 + 7 * k + 5) (by omega) (by omega), h1 (M + 10 + 7 * k + 6) (by omega) (by omega), h3 17 (by decide) (by decide), h3 18 (by decide) (by decide), h3 19 (by decide) (by decide), h3 20 (by decide) (by decide), h3 21 (by decide) (by decide), h3 22 (by decide) (by decide)]
    exact this
theorem GT.fr {ρ ρ' : Sg} {kd aa : Nat → Nat} {T : Nat} {hd ln : Nat → Nat} {pt : Nat → Nat → Nat} (h : GT ρ kd aa T hd ln pt) (h1 : ρ' 13 = ρ 13) (h2 : ρ' 20 = ρ 20) (h3 : ρ' 22 = ρ 22) : GT ρ' kd aa T hd ln pt := by
  unfold GT at *
  rw [h1, h2, h3]
  exact h
theorem RO.fr {ρ ρ' : Sg} {T : Nat} {hd : Nat → Nat} {p : Nat} {x : Option Nat} (h : RO ρ T hd p x) (h1 : ρ' 13 = ρ 13) : RO ρ' T hd p x := by
  unfold RO at *
  rw [h1]
  exact h
theorem RT1.fr {M : Nat} {κ ρ κ' ρ' : Sg} {T : Nat} {hd : Nat → Nat} (h : RT1 M κ ρ T hd) (h1 : κ' (M + 9) = κ (M + 9)) (h2 : ρ' 13 = ρ 13) : RT1 M κ' ρ' T hd := fun p hp => by
  obtain ⟨x, a, b⟩ := h p hp
  exact ⟨x, by rw [h1]; exact a, b.fr h2⟩
theorem rootR {M : Nat} {κ ρ : Sg} {T : Nat} {hd ln : Nat → Nat} {pt : Nat → Nat → Nat} (h : TC M κ ρ T hd ln pt) {p : Nat} {x : Option Nat} (hp : p < 24) (hx : RO ρ T hd p x) : zf_X10_rootOf (nI p) ρ = some (cR x) := by
  obtain ⟨t8, ht, _, _, hh, _⟩ := h
  unfold zf_X10_rootOf
  have key : ∃ y : Int32 × Int32, lp (X := Int32 × Int32) (zl_X10_rootOf_4 (nI p) ρ) 1000 (0, -1) = some y ∧ y.2 = cR x := by
    refine lp_for (fun i y => y.1 = nI i ∧ ∃ z, y.2 = cR z ∧ RO ρ i hd p z) _ T (by omega) ⟨rfl, none, rfl, fun k hk => absurd hk (Nat.not_lt_zero k)⟩ ?_ ?_
    · rintro i ⟨a, b⟩ hi ⟨h1, z, h2, h3⟩
      have h1' : a = nI i := h1
      have h2' : b = cR z := h2
      subst h1' h2'
      have hk := (hh i hi).2.2.2.1
      have hb := (hh i hi).1
      unfold zl_X10_rootOf_4 zb_X10_rootOf_36 zb_X10_rootOf_37
      simp only []
      rw [ht, if_neg (nI_ge hi (by omega)), bd_nI (by omega) (by decide), nI_clamp (by omega), hk, nI_1]
      by_cases q1 : hd i = p
      · by_cases q2 : ρ 13 i = -1
        · rw [if_pos (by rw [q1]), if_pos q2]
          refine ⟨_, rfl, rfl, some i, rfl, ⟨by omega, q1, q2, fun k a b => by omega⟩⟩
        · rw [if_pos (by rw [q1]), if_neg q2]
          refine ⟨_, rfl, rfl, z, rfl, ?_⟩
          cases z with
          | none => exact fun k hk q => (by rcases Nat.lt_or_ge k i with c | c; exact h3 k c q; exact q2 ((show k = i by omega) ▸ q.2))
          | some r => exact ⟨by have := h3.1; omega, h3.2.1, h3.2.2.1, fun k hk hk2 q => (by rcases Nat.lt_or_ge k i with c | c; exact h3.2.2.2 k hk c q; exact q2 ((show k = i by omega) ▸ q.2))⟩
      · rw [if_neg (fun q => q1 (nI_inj (by omega) (by omega) q))]
        refine ⟨_, rfl, rfl, z, rfl, ?_⟩
        cases z with
        | none => exact fun k hk q => (by rcases Nat.lt_or_ge k i with c | c; exact h3 k c q; exact q1 ((show k = i by omega) ▸ q.1))
        | some r => exact ⟨by have := h3.1; omega, h3.2.1, h3.2.2.1, fun k hk hk2 q => (by rcases Nat.lt_or_ge k i with c | c; exact h3.2.2.2 k hk c q; exact q1 ((show k = i by omega) ▸ q.1))⟩
    · rintro ⟨a, b⟩ ⟨h1, z, h2, h3⟩
      have h1' : a = nI T := h1
      have h2' : b = cR z := h2
      subst h1' h2'
      unfold zl_X10_rootOf_4
      simp only []
      rw [ht, if_pos (nI_le (Nat.le_refl _) (by omega))]
      refine ⟨_, rfl, ?_⟩
      show cR z = cR x
      cases z with
      | none => cases x with
        | none => rfl
        | some r => exact absurd ⟨hx.2.1, hx.2.2.1⟩ (h3 r hx.1)
      | some q => cases x with
        | none => exact absurd ⟨h3.2.1, h3.2.2.1⟩ (hx q h3.1)
        | some r =>
          rcases Nat.lt_trichotomy q r with c | c | c
          · exact absurd ⟨hx.2.1, hx.2.2.1⟩ (h3.2.2.2 r c hx.1)
          · rw [c]
          · exact absurd ⟨h3.2.1, h3.2.2.1⟩ (hx.2.2.2 q c h3.1)
  obtain ⟨y, hy, e⟩ := key
  rw [hy, obd_some, e]
