/-! drops, counted -/
def sm (f : Nat → Int32) : Nat → Int
  | 0 => 0
  | n + 1 => sm f n + (f n).toInt
theorem sm_ge {f : Nat → Int32} {k : Nat} {x : Int32} : ∀ n, n ≤ k → sm (upd f k x) n = sm f n
  | 0, _ => rfl
  | n + 1, h => by
    show sm (upd f k x) n + (upd f k x n).toInt = sm f n + (f n).toInt
    rw [sm_ge n (by omega), upd_ne (by omega)]
theorem sm_upd {f : Nat → Int32} {k : Nat} {x : Int32} : ∀ n, k < n → sm (upd f k x) n = sm f n - (f k).toInt + x.toInt
  | 0, h => absurd h (Nat.not_lt_zero k)
  | n + 1, h => by
    show sm (upd f k x) n + (upd f k x n).toInt = sm f n + (f n).toInt - (f k).toInt + x.toInt
    rcases Nat.lt_or_ge k n with q | q
    · rw [sm_upd n q, upd_ne (by omega)]
      omega
    · have e : k = n := by omega
      subst e
      rw [sm_ge k (Nat.le_refl k), upd_eq]
      omega
theorem sm_in {f : Nat → Int32} (h : DR f) : ∀ n, n ≤ 24 → 0 ≤ sm f n ∧ sm f n ≤ 2 * n
  | 0, _ => ⟨Int.le_refl 0, Int.le_refl 0⟩
  | n + 1, hn => by
    have h1 := sm_in h n (by omega)
    have h2 := h n (by omega)
    show 0 ≤ sm f n + (f n).toInt ∧ sm f n + (f n).toInt ≤ 2 * ((n + 1 : Nat) : Int)
    omega
theorem DR.lets {f : Nat → Int32} (h : DR f) {k : Nat} {x : Int32} (hk : k < 24) (h2 : (f k).toInt < 2) (hx : x = f k + 1) : DR (upd f k x) ∧ sm (upd f k x) 24 = sm f 24 + 1 := by
  have h0 := h k hk
  have hxi : x.toInt = (f k).toInt + 1 := gl_add hx rfl (show ((1 : Int32)).toInt = 1 from rfl) (by omega)
  refine ⟨fun p hp => ?_, ?_⟩
  · by_cases q : p = k
    · subst q
      rw [upd_eq]
      omega
    · rw [upd_ne q]
      exact h p hp
  · rw [sm_upd 24 hk]
    omega
theorem RR.fork {T : Nat} {hd le br dr : Nat → Int32} {hN pN fN mn : Int32} (h : RR T hd le br dr hN pN fN mn) {pa : Nat → Int32} (hi : RI T hd pa le br) : pN = -1 ∨ ∃ k e : Nat, k < T ∧ pN = nI k ∧ fN = nI e ∧ e < 16 := by
  rcases h.2.2.2.2.2 with q | ⟨k, e, a, b, c, d, _⟩
  · exact Or.inl q
  · have h3 := (hi.2 k a).2.1
    exact Or.inr ⟨k, e, a, b, c, by omega⟩
theorem RI.closed {T : Nat} {hd pa le br dr nb : Nat → Int32} {hN pN fN mn : Int32} (h : RI T hd pa le br) (r : RR T hd le br dr hN pN fN mn) (h1 : 0 < mn.toInt) (hb : (pN = -1 ∧ nb = br) ∨ (∃ k e : Nat, k < T ∧ pN = nI k ∧ fN = nI e ∧ e < 16 ∧ nb = upd br (16 * k + e) (nI T))) : RI (T + 1) (upd hd T hN) (upd pa T pN) (upd le T mn) nb := by
  refine h.close r h1 nb ?_
  rcases hb with q | ⟨k, e, a, b, c, d, q⟩
  · exact Or.inl q
  · rcases r.2.2.2.2.2 with z | ⟨k2, e2, z1, z2, z3, z4, z5⟩
    · exfalso
      rw [z] at b
      have h9 := congrArg Int32.toInt b
      rw [nI_toInt (by have := h.1; omega)] at h9
      have h8 : ((-1 : Int32)).toInt = -1 := rfl
      omega
    · have ek : k = k2 := (nI_eq (by have := h.1; omega) (by have := h.1; omega)).mp (b.symm.trans z2)
      have h3 := (h.2 k2 z1).2.1
      have ee : e = e2 := (nI_eq (by omega) (by omega)).mp (c.symm.trans z3)
      subst ek
      subst ee
      exact Or.inr ⟨k, e, b, c, a, z4, z5, q⟩
