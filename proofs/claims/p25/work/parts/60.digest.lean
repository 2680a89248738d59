/-! digest ends on both sides; ends of every kind end -/
theorem lp_any {A : Type} {body : Int32 × A → Option (Bool × (Int32 × A))} (N : Nat) (hN : N < 1000) (h1 : ∀ i a, i < N → ∃ b, body (nI i, a) = some (true, (nI (i + 1), b))) (h2 : ∀ a, ∃ y, body (nI N, a) = some (false, y)) (a : A) : ∃ y, lp (X := Int32 × A) body 1000 ((0 : Int32), a) = some y := by
  obtain ⟨y, hy, _⟩ := lp_for (X := Int32 × A) (body := body) (x := ((0 : Int32), a)) (fun i x => x.1 = nI i) (fun _ => True) N hN rfl (by
    rintro i ⟨x, b⟩ hi e
    dsimp only at e
    subst e
    obtain ⟨c, hc⟩ := h1 i b hi
    exact ⟨_, hc, rfl⟩) (by
    rintro ⟨x, b⟩ e
    dsimp only at e
    subst e
    obtain ⟨c, hc⟩ := h2 b
    exact ⟨_, hc, trivial⟩)
  exact ⟨y, hy⟩
theorem lp_mix {body : Int32 × Int64 → Option (Bool × (Int32 × Int64))} {F : Int32 → Option Int32} (N : Nat) (hN : N < 1000) (hb : ∀ x, body x = if nI N ≤ x.1 then some (false, (x.1, x.2)) else obd (F x.1) (fun r => letb (((31 : Int64) * x.2) + (r.toInt64)) (fun e => some (true, ((x.1 + (1 : Int32)), e))))) (hF : ∀ i, i < N → ∃ r, F (nI i) = some r) (a : Int64) : ∃ y, lp (X := Int32 × Int64) body 1000 ((0 : Int32), a) = some y := by
  refine lp_any N hN (fun i a hi => ?_) (fun a => ?_) a
  · obtain ⟨r, hr⟩ := hF i hi
    rw [hb]
    simp only []
    rw [if_neg (nI_ge hi (by omega)), hr, obd_some, letb_eq, nI_1]
    exact ⟨_, rfl⟩
  · rw [hb, if_pos (nI_le (Nat.le_refl _) (by omega))]
    exact ⟨_, rfl⟩
theorem lp_mix2 {body : Int32 × Int64 → Option (Bool × (Int32 × Int64))} {F : Int64 → Int32 → Option Int64} (N : Nat) (hN : N < 1000) (hb : ∀ x, body x = if nI N ≤ x.1 then some (false, (x.1, x.2)) else obd (F x.2 x.1) (fun r => some (true, ((x.1 + (1 : Int32)), r)))) (hF : ∀ i a, i < N → ∃ r, F a (nI i) = some r) (a : Int64) : ∃ y, lp (X := Int32 × Int64) body 1000 ((0 : Int32), a) = some y := by
  refine lp_any N hN (fun i a hi => ?_) (fun a => ?_) a
  · obtain ⟨r, hr⟩ := hF i a hi
    rw [hb]
    simp only []
    rw [if_neg (nI_ge hi (by omega)), hr, obd_some, nI_1]
    exact ⟨_, rfl⟩
  · rw [hb, if_pos (nI_le (Nat.le_refl _) (by omega))]
    exact ⟨_, rfl⟩
section Dig
variable {κ ρ κ' ρ' : Sg} {n : Nat} {kd aa zz : Nat → Nat} {bb : Nat → Int32} {T : Nat} {hd ln : Nat → Nat} {pt : Nat → Nat → Nat} {P S : Nat}
theorem factT (k : Nat) (a b : Int32) : ∃ r, zf_X5_fact k a b κ = some r := by
  obtain ⟨r, h, _⟩ := factS (κ := κ) (ρ := fun n j => if n = 8 then κ (k + 1) j else κ (k + 2) j) (k := k) (fun j _ => ⟨rfl, rfl⟩) a b
  exact ⟨r, h⟩
theorem countT (h : TC 21 κ ρ T hd ln pt) (a : Int32) : ∃ r, zf_X9_countFact a κ = some r := by
  unfold zf_X9_countFact
  rw [allC h]
  repeat' split
  all_goals exact ⟨_, rfl⟩
theorem codeT (h : PC κ n kd aa zz bb) (hn : n ≤ 24) (a b : Int32) : ∃ r, zf_X9_codeFact a b κ = some r := by
  unfold zf_X9_codeFact
  by_cases q : 0 ≤ a.toInt ∧ a.toInt < n
  · rw [if_pos ((holdsC h hn a).mpr q), bd_ok (by omega), bd_ok (by omega), bd_ok (by omega), bd_ok (by omega)]
    repeat' split
    all_goals exact ⟨_, rfl⟩
  · rw [if_neg (fun z => q ((holdsC h hn a).mp z))]
    exact ⟨_, rfl⟩
theorem pointT (h : PC κ n kd aa zz bb) (w : PW n kd aa zz) (hs : ST 21 κ ρ kd aa T hd ln pt P S) (v : Int64) (a : Int32) : ∃ r, zf_X9_mixPoint v a κ = some r := by
  unfold zf_X9_mixPoint
  obtain ⟨y, hy⟩ := lp_mix (body := zl_X9_mixPoint_6 a κ) (F := fun x => zf_X9_codeFact a x κ) 4 (by decide) (fun _ => rfl) (fun i _ => codeT h w.1 _ _) v
  rw [hy, obd_some]
  obtain ⟨z, hz⟩ := lp_mix (body := zl_X9_mixPoint_38 a κ) (F := fun x => zf_X2_heatFact 21 a x κ) 3 (by decide) (fun _ => rfl) (fun i _ => by obtain ⟨r, q, _⟩ := heatFactS hs a (nI i); exact ⟨r, q⟩) y.2
  rw [hz]
  exact ⟨_, rfl⟩
theorem regT (v : Int64) (a : Int32) : ∃ r, zf_X9_mixRegister v a κ = some r := by
  unfold zf_X9_mixRegister
  obtain ⟨r1, h1⟩ := factT (κ := κ) (21 + 1) a 0
  obtain ⟨r2, h2⟩ := factT (κ := κ) (21 + 1) a 1
  obtain ⟨r3, h3⟩ := factT (κ := κ) 9 a 0
  obtain ⟨r4, h4⟩ := factT (κ := κ) 9 a 1
  rw [h1, obd_some, letb_eq, h2, obd_some, letb_eq, h3, obd_some, letb_eq, h4, obd_some]
  exact ⟨_, rfl⟩
theorem traceT (h : PC κ n kd aa zz bb) (hR : PR ρ n kd aa zz bb) (w : PW n kd aa zz) (ht : TC 21 κ ρ T hd ln pt) (v : Int64) (a : Int32) : ∃ r, zf_X9_mixTrace v a κ = some r := by
  unfold zf_X9_mixTrace
  obtain ⟨y, hy⟩ := lp_mix (body := zl_X9_mixTrace_6 a κ) (F := fun x => zf_X9_traceFact a x κ) 5 (by decide) (fun _ => rfl) (fun i _ => by obtain ⟨r, q, _⟩ := traceFactS ht a (nI i); exact ⟨r, q⟩) v
  rw [hy, obd_some]
  obtain ⟨z, hz⟩ := lp_mix (body := zl_X9_mixTrace_38 a κ) (F := fun x => zf_X9_checkFact a x κ) 3 (by decide) (fun _ => rfl) (fun i _ => by obtain ⟨r, q, _⟩ := checkFactS h hR w ht a (nI i); exact ⟨r, q⟩) y.2
  rw [hz, obd_some]
  obtain ⟨r, hr, _⟩ := writesFactS h hR w ht a
  rw [hr, obd_some, letb_eq]
  obtain ⟨u, hu⟩ := lp_any (body := zl_X9_mixTrace_85 a κ) 16 (by decide) (fun i b hi => by
    unfold zl_X9_mixTrace_85
    simp only []
    obtain ⟨t, ht'⟩ := lp_mix (body := zl_X9_mixTrace_95 a κ (nI i, b)) (F := fun x => zf_X9_entryFact a (nI i) x κ) 6 (by decide) (fun _ => rfl) (fun j _ => by obtain ⟨r, q, _⟩ := entryFactS ht a (nI i) (nI j); exact ⟨r, q⟩) b
    obtain ⟨s1, q1, _⟩ := snapFactS h hR w ht a (nI i) 0
    obtain ⟨s2, q2, _⟩ := snapFactS h hR w ht a (nI i) 1
    rw [if_neg (show ¬ (16 : Int32) ≤ nI i from nI_ge (a := i) (b := 16) hi (by decide)), ht', obd_some, q1, obd_some, letb_eq, q2, obd_some, letb_eq, nI_1]
    exact ⟨_, rfl⟩) (fun b => by
    unfold zl_X9_mixTrace_85
    simp only []
    rw [if_pos (show (16 : Int32) ≤ nI 16 by decide)]
    exact ⟨_, rfl⟩) (((31 : Int64) * z.2) + r.toInt64)
  rw [hu]
  exact ⟨_, rfl⟩
theorem digC (h : Rel κ ρ) : ∃ r κ', zf_X9_digest κ = some (r, κ') ∧ Rel κ' ρ := by
  obtain ⟨κ1, ρ1, a1, a2, a3, ⟨n, kd, aa, zz, bb, T, hd, ln, pt, P, S, f1, f2, f3, f4, f5⟩, a5, a6, a7, a8⟩ := refreshRunS h
  obtain ⟨κ2, ρ2, b1, b2, b3, b4, b5, b6, b7⟩ := refreshPlainS a3
  obtain ⟨κ3, c1, c2, c3, c4, c5, c6⟩ := refreshBetterS b3
  have k3 : ∀ i, 1 ≤ i → i ≤ 9 ∨ (12 ≤ i ∧ i < 87) → κ3 i = κ1 i := fun i p q => by rw [c5 i p (by omega), b6 i p q]
  have hp : PC κ3 n kd aa zz bb := f1.fr5 (fun i p q => k3 i p (by omega))
  have hst : ST 21 κ3 ρ1 kd aa T hd ln pt P S := f4.frB (fun i p q => k3 i (by omega) (by omega))
  have ht := hst.2.2.2.1
  have hf : FR ρ2 ρ := ⟨fun i p q => by rw [b5.1 i p q, a5.1 i p q], fun i p => by rw [b5.2 i p, a5.2 i p]⟩
  unfold zf_X9_digest
  rw [a1, obd_some, b1, obd_some, c1, obd_some]
  obtain ⟨y1, h1⟩ := lp_mix (body := zl_X9_digest_18 κ3) (F := fun x => zf_X9_countFact x κ3) 8 (by decide) (fun _ => rfl) (fun i _ => countT ht _) 17
  rw [h1, obd_some]
  obtain ⟨y2, h2⟩ := lp_mix (body := zl_X9_digest_45 κ3) (F := fun x => some (zf_X9_endFact x κ3)) 6 (by decide) (fun _ => rfl) (fun i _ => ⟨_, rfl⟩) y1.2
  rw [h2, obd_some]
  obtain ⟨y3, h3⟩ := lp_mix2 (body := zl_X9_digest_72 κ3) (F := fun v x => zf_X9_mixRegister v x κ3) 8 (by decide) (fun _ => rfl) (fun i v _ => regT _ _) y2.2
  rw [h3, obd_some]
  obtain ⟨y4, h4⟩ := lp_mix2 (body := zl_X9_digest_93 κ3) (F := fun v x => zf_X9_mixPoint v x κ3) 24 (by decide) (fun _ => rfl) (fun i v _ => pointT hp f3 hst _ _) y3.2
  rw [h4, obd_some]
  obtain ⟨y5, h5⟩ := lp_mix2 (body := zl_X9_digest_114 κ3) (F := fun v x => zf_X9_mixTrace v x κ3) 8 (by decide) (fun _ => rfl) (fun i v _ => traceT hp f2 f3 ht _ _) y4.2
  rw [h5, obd_some]
  exact ⟨_, _, rfl, c2.fr hf⟩
theorem endsT (h : Rel κ ρ) (a : Int32) : ∃ r r' κ' ρ', zf_X9_ends a κ = some (r, κ') ∧ zf_X10_ends a ρ = some (r', ρ') ∧ Rel κ' ρ' ∧ (a ≠ 0 → r = r') := by
  by_cases q : a = 0
  · obtain ⟨κ', ρ', e1, e2, e3, _⟩ := refreshRunS h
    subst q
    unfold zf_X9_ends zf_X10_ends zb_X10_ends_30
    rw [e1, e2, obd_some, obd_some, if_pos (by decide)]
    exact ⟨_, _, _, _, rfl, rfl, e3, fun z => absurd rfl z⟩
  · obtain ⟨r, κ', ρ', e1, e2, e3⟩ := endsS h q
    exact ⟨r, r, κ', ρ', e1, e2, e3, fun _ => rfl⟩
end Dig
