/-! pure rows: memory, bounds, loops, small numbers -/
theorem su_ap (σ : Sg) (n i : Nat) (v : Int32) (a j : Nat) : su σ n i v a j = if a = n then (if j = i then v else σ a j) else σ a j := by
  by_cases h : a = n
  · rw [if_pos h]
    subst h
    unfold su
    rw [sr_same]
    rfl
  · rw [if_neg h]
    unfold su
    rw [sr_ne _ _ h]
theorem su_ne (σ : Sg) {n i : Nat} {v : Int32} {a : Nat} (h : a ≠ n) : su σ n i v a = σ a := by
  unfold su; rw [sr_ne _ _ h]
theorem bd_ok {α : Type} {i : Int32} {n : Nat} {k : Option α} (h : 0 ≤ i.toInt ∧ i.toInt < (n : Int)) : bd i n k = k := if_pos h
theorem bd_nI {α : Type} {p n : Nat} {k : Option α} (h : p < n) (hn : n < 2 ^ 31) : bd (nI p) n k = k := bd_ok (by rw [nI_toInt (by omega)]; omega)
theorem tk_ok {α : Type} {x : Int32} {k : Option α} (h : isTr x.toNatClampNeg) (h0 : 0 ≤ x.toInt) : tk x k = k := if_pos ⟨List.contains_iff_mem.mpr h, h0⟩
theorem tk_nI {α : Type} {p : Nat} {k : Option α} (h : isTr p) : tk (nI p) k = k := by
  have := isTr_lt h
  exact tk_ok (by rw [nI_clamp (by omega)]; exact h) (by rw [nI_toInt (by omega)]; omega)
theorem obd_some {α β : Type} (a : α) (k : α → Option β) : obd (some a) k = k a := rfl
theorem bnd_some {α β : Type} (a : α) (σ : Sg) (k : α → Sg → Option β) : bnd (some (a, σ)) k = k a σ := rfl
theorem letb_eq {α β : Type} (x : α) (k : α → β) : letb x k = k x := rfl
theorem lp_true {X : Type} {body : X → Option (Bool × X)} {n : Nat} {x y : X} (h : body x = some (true, y)) : lp body (n + 1) x = lp body n y := by
  show (match body x with | none => none | some (true, y) => lp body n y | some (false, y) => some y) = _
  rw [h]
theorem lp_false {X : Type} {body : X → Option (Bool × X)} {n : Nat} {x y : X} (h : body x = some (false, y)) : lp body (n + 1) x = some y := by
  show (match body x with | none => none | some (true, y) => lp body n y | some (false, y) => some y) = _
  rw [h]
/-- a counted loop -/
theorem lp_cnt {X : Type} {body : X → Option (Bool × X)} (I : Nat → X → Prop) (Q : X → Prop) (N : Nat) (h1 : ∀ i x, i < N → I i x → ∃ y, body x = some (true, y) ∧ I (i + 1) y) (h2 : ∀ x, I N x → ∃ y, body x = some (false, y) ∧ Q y) : ∀ (d n i : Nat) (x : X), i + d = N → d < n → I i x → ∃ y, lp body n x = some y ∧ Q y := by
  intro d
  induction d with
  | zero =>
    intro n i x hi hn hx
    have e : i = N := by omega
    subst e
    obtain ⟨m, rfl⟩ : ∃ m, n = m + 1 := ⟨n - 1, by omega⟩
    obtain ⟨y, hy, hq⟩ := h2 x hx
    exact ⟨y, lp_false hy, hq⟩
  | succ d ih =>
    intro n i x hi hn hx
    obtain ⟨m, rfl⟩ : ∃ m, n = m + 1 := ⟨n - 1, by omega⟩
    obtain ⟨y, hy, hq⟩ := h1 i x (by omega) hx
    obtain ⟨z, hz, hQ⟩ := ih m (i + 1) y (by omega) (by omega) hq
    exact ⟨z, by rw [lp_true hy]; exact hz, hQ⟩
theorem lp_for {X : Type} {body : X → Option (Bool × X)} (I : Nat → X → Prop) (Q : X → Prop) (N : Nat) (hN : N < 1000) {x : X} (h0 : I 0 x) (h1 : ∀ i x, i < N → I i x → ∃ y, body x = some (true, y) ∧ I (i + 1) y) (h2 : ∀ x, I N x → ∃ y, body x = some (false, y) ∧ Q y) : ∃ y, lp body 1000 x = some y ∧ Q y :=
  lp_cnt I Q N h1 h2 N 1000 0 x (by omega) hN h0
/-- a loop with a measure -/
theorem lp_msr {X : Type} {body : X → Option (Bool × X)} (I : X → Prop) (μ : X → Nat) (Q : X → Prop) (h1 : ∀ x, I x → (∃ y, body x = some (true, y) ∧ I y ∧ μ y < μ x) ∨ ∃ y, body x = some (false, y) ∧ Q y) : ∀ (n : Nat) (x : X), μ x < n → I x → ∃ y, lp body n x = some y ∧ Q y := by
  intro n
  induction n with
  | zero => intro x h; omega
  | succ n ih =>
    intro x hm hx
    rcases h1 x hx with ⟨y, hy, hI, hl⟩ | ⟨y, hy, hq⟩
    · obtain ⟨z, hz, hQ⟩ := ih y (by omega) hI
      exact ⟨z, by rw [lp_true hy]; exact hz, hQ⟩
    · exact ⟨y, lp_false hy, hq⟩
theorem nI_mul (a b : Nat) : nI a * nI b = nI (a * b) := (Int32.ofNat_mul a b).symm
theorem nl (n : Nat) : (OfNat.ofNat n : Int32) = nI n := rfl
theorem nI_ne_neg {n : Nat} (h : n < 2 ^ 31) : ¬ nI n = -1 := fun q => by
  have := nI_toInt h
  rw [q] at this
  have h1 : (-1 : Int32).toInt = -1 := rfl
  omega
theorem nI_inj {a b : Nat} (ha : a < 2 ^ 31) (hb : b < 2 ^ 31) (h : nI a = nI b) : a = b := (nI_eq ha hb).mp h
theorem ex_nI {x : Int32} {n : Nat} (h : 0 ≤ x.toInt ∧ x.toInt < (n : Int)) : ∃ j, j < n ∧ x = nI j := by
  refine ⟨x.toInt.toNat, by omega, Int32.toInt_inj.mp ?_⟩
  have := x.toInt_lt
  rw [nI_toInt (by omega)]
  omega
theorem Bool_ite {c : Prop} [Decidable c] : (if c then true else false) = decide c := by by_cases h : c <;> simp [h]
theorem in_eq (x : Int32) (a b : Int64) : zf_X10_in x.toInt64 a b = decide (a.toInt ≤ x.toInt ∧ x.toInt ≤ b.toInt) := by
  unfold zf_X10_in zb_X10_in_17 zb_X10_in_18
  simp only [Int64.lt_iff_toInt_lt, Int32.toInt_toInt64]
  by_cases h1 : x.toInt < a.toInt
  · rw [if_pos h1]; simp; omega
  · rw [if_neg h1]
    by_cases h2 : b.toInt < x.toInt
    · rw [if_pos h2]; simp; omega
    · rw [if_neg h2]; simp; omega
