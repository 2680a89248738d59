/-! the reference's traces: what always holds of them -/
def RT (f g : Nat → Int32) (p a : Int32) (n : Nat) : Prop := (a = -1 ∧ ∀ t, t < n → ¬ (f t = p ∧ g t = -1)) ∨ ∃ t, t < n ∧ a = nI t ∧ f t = p ∧ g t = -1
theorem RT.zero {f g : Nat → Int32} {p : Int32} : RT f g p (-1) 0 := Or.inl ⟨rfl, fun t h => absurd h (Nat.not_lt_zero t)⟩
theorem RT.keep1 {f g : Nat → Int32} {p a : Int32} {n : Nat} (h : RT f g p a n) (c : ¬ f n = p) : RT f g p a (n + 1) := by
  rcases h with ⟨h1, h2⟩ | ⟨t, h1, h2⟩
  · refine Or.inl ⟨h1, fun t ht q => ?_⟩
    rcases Nat.lt_or_ge t n with k | k
    · exact h2 t k q
    · have e : t = n := by omega
      exact c (e ▸ q.1)
  · exact Or.inr ⟨t, by omega, h2⟩
theorem RT.keep2 {f g : Nat → Int32} {p a : Int32} {n : Nat} (h : RT f g p a n) (c : ¬ g n = -1) : RT f g p a (n + 1) := by
  rcases h with ⟨h1, h2⟩ | ⟨t, h1, h2⟩
  · refine Or.inl ⟨h1, fun t ht q => ?_⟩
    rcases Nat.lt_or_ge t n with k | k
    · exact h2 t k q
    · have e : t = n := by omega
      exact c (e ▸ q.2)
  · exact Or.inr ⟨t, by omega, h2⟩
theorem RT.take {f g : Nat → Int32} {p : Int32} {n : Nat} (hf : f n = p) (hg : g n = -1) : RT f g p (nI n) (n + 1) := Or.inr ⟨n, by omega, rfl, hf, hg⟩
/-- the closed traces, T of them: heads hd, parents pa, lengths le, branches br -/
def RI (T : Nat) (hd pa le br : Nat → Int32) : Prop := T ≤ 8 ∧ ∀ t, t < T → (0 ≤ (hd t).toInt ∧ (hd t).toInt < 24) ∧ (1 ≤ (le t).toInt ∧ (le t).toInt ≤ 16) ∧ (∃ r, r < T ∧ hd r = hd t ∧ pa r = -1) ∧ ∀ e : Nat, (e : Int) < (le t).toInt → br (16 * t + e) = -1 ∨ ∃ k : Nat, t < k ∧ k < T ∧ br (16 * t + e) = nI k
/-- a recording: its head, its parent and fork, how many entries -/
def RR (T : Nat) (hd le br dr : Nat → Int32) (hN pN fN mn : Int32) : Prop := T < 8 ∧ (0 ≤ hN.toInt ∧ hN.toInt < 24) ∧ (0 ≤ mn.toInt ∧ mn.toInt ≤ 16) ∧ (dr hN.toNatClampNeg).toInt < 2 ∧ (∀ e : Nat, (e : Int) < mn.toInt → br (16 * T + e) = -1) ∧ (pN = -1 ∨ ∃ k e : Nat, k < T ∧ pN = nI k ∧ fN = nI e ∧ (e : Int) < (le k).toInt ∧ hd k = hN)
def DR (dr : Nat → Int32) : Prop := ∀ p, p < 24 → 0 ≤ (dr p).toInt ∧ (dr p).toInt ≤ 2
theorem RI0 (hd pa le br : Nat → Int32) : RI 0 hd pa le br := ⟨by decide, fun t h => absurd h (Nat.not_lt_zero t)⟩
theorem upd_ne {f : Nat → Int32} {k j : Nat} {x : Int32} (h : j ≠ k) : upd f k x j = f j := by unfold upd; rw [if_neg h]
theorem upd_eq {f : Nat → Int32} {k : Nat} {x : Int32} : upd f k x k = x := by unfold upd; rw [if_pos rfl]
/-- noting an entry leaves the closed traces as they are -/
theorem RI.note {T : Nat} {hd pa le br : Nat → Int32} (h : RI T hd pa le br) {i : Nat} {x : Int32} (hi : 16 * T ≤ i) : RI T hd pa le (upd br i x) := by
  refine ⟨h.1, fun t ht => ?_⟩
  obtain ⟨a, b, c, d⟩ := h.2 t ht
  refine ⟨a, b, c, fun e he => ?_⟩
  rw [upd_ne (by omega)]
  exact d e he
/-- a recording is closed: one trace more -/
theorem RI.close {T : Nat} {hd pa le br dr : Nat → Int32} {hN pN fN mn : Int32} (h : RI T hd pa le br) (r : RR T hd le br dr hN pN fN mn) (h1 : 0 < mn.toInt) (br' : Nat → Int32) (hb : (pN = -1 ∧ br' = br) ∨ (∃ k e : Nat, pN = nI k ∧ fN = nI e ∧ k < T ∧ (e : Int) < (le k).toInt ∧ hd k = hN ∧ br' = upd br (16 * k + e) (nI T))) : RI (T + 1) (upd hd T hN) (upd pa T pN) (upd le T mn) br' := by
  obtain ⟨r1, r2, r3, r4, r5, r6⟩ := r
  refine ⟨by omega, fun t ht => ?_⟩
  rcases Nat.lt_or_ge t T with k | k
  · obtain ⟨a, b, ⟨q, q1, q2, q3⟩, d⟩ := h.2 t k
    rw [upd_ne (show t ≠ T by omega), upd_ne (show t ≠ T by omega)]
    refine ⟨a, b, ⟨q, by omega, ?_, ?_⟩, fun e he => ?_⟩
    · rw [upd_ne (show q ≠ T by omega)]; exact q2
    · rw [upd_ne (show q ≠ T by omega)]; exact q3
    · rcases hb with ⟨_, hb⟩ | ⟨k2, e2, p1, p2, p3, p4, p5, hb⟩
      · rw [hb]
        rcases d e he with z | ⟨k3, z1, z2, z3⟩
        · exact Or.inl z
        · exact Or.inr ⟨k3, z1, by omega, z3⟩
      · rw [hb]
        by_cases hq : 16 * t + e = 16 * k2 + e2
        · obtain ⟨_, b2, _, _⟩ := h.2 k2 p3
          refine Or.inr ⟨T, by omega, by omega, ?_⟩
          rw [hq, upd_eq]
        · rw [upd_ne hq]
          rcases d e he with z | ⟨k3, z1, z2, z3⟩
          · exact Or.inl z
          · exact Or.inr ⟨k3, z1, by omega, z3⟩
  · have e : t = T := by omega
    subst e
    rw [upd_eq, upd_eq]
    refine ⟨r2, ⟨by omega, r3.2⟩, ?_, fun e he => ?_⟩
    · rcases hb with ⟨hp, _⟩ | ⟨k2, e2, p1, p2, p3, p4, p5, _⟩
      · exact ⟨t, by omega, upd_eq, by rw [upd_eq, hp]⟩
      · obtain ⟨_, _, ⟨q, q1, q2, q3⟩, _⟩ := h.2 k2 p3
        refine ⟨q, by omega, ?_, ?_⟩
        · rw [upd_ne (show q ≠ t by omega), q2, p5]
        · rw [upd_ne (show q ≠ t by omega), q3]
    · rcases hb with ⟨_, hb⟩ | ⟨k2, e2, p1, p2, p3, p4, p5, hb⟩
      · rw [hb]; exact Or.inl (r5 e he)
      · obtain ⟨_, b2, _, _⟩ := h.2 k2 p3
        rw [hb, upd_ne (by omega)]
        exact Or.inl (r5 e he)
