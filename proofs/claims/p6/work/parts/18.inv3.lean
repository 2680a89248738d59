def AT (f : Nat → Int32) : Prop := ∀ i, i < 144 → 0 ≤ (f i).toInt ∧ (f i).toInt < 24
theorem AT.upd {f : Nat → Int32} (h : AT f) {k : Nat} {x : Int32} (hx : 0 ≤ x.toInt ∧ x.toInt < 24) : AT (upd f k x) := fun i hi => by
  by_cases q : i = k
  · rw [q, upd_eq]; exact hx
  · rw [upd_ne q]; exact h i hi
theorem AT0 : AT (fun _ => 0) := fun _ _ => (show 0 ≤ ((0 : Int32)).toInt ∧ ((0 : Int32)).toInt < 24 by decide)
theorem RR.note {T : Nat} {hd pa le br dr : Nat → Int32} {hN pN fN mn nm : Int32} (h : RR T hd le br dr hN pN fN mn) (hi : RI T hd pa le br) (hm : 0 ≤ mn.toInt ∧ mn.toInt ≤ 15) (hn : nm.toInt = mn.toInt + 1) : RR T hd le (upd br (16 * T + mn.toInt.toNat) (-1)) dr hN pN fN nm := by
  obtain ⟨r1, r2, r3, r4, r5, r6⟩ := h
  refine ⟨r1, r2, by omega, r4, fun e he => ?_, r6⟩
  by_cases q : 16 * T + e = 16 * T + mn.toInt.toNat
  · rw [q, upd_eq]
  · rw [upd_ne q]
    exact r5 e (by omega)
