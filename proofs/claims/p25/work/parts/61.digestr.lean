/-! digest of the reference ends -/
/-- what the relation reads of the reference -/
def FR7 (ρ ρ' : Sg) : Prop := (∀ n, 1 ≤ n → n ≤ 7 → ρ' n = ρ n) ∧ ∀ i, i < 13 → ρ' 0 i = ρ 0 i
section DigR
variable {κ ρ κ' ρ' ρ'' : Sg} {n : Nat} {kd aa zz : Nat → Nat} {bb : Nat → Int32} {T : Nat} {hd ln : Nat → Nat} {pt : Nat → Nat → Nat} {P S : Nat}
theorem FR.to7 (h : FR ρ ρ') : FR7 ρ ρ' := ⟨fun n a b => h.1 n a (Or.inl b), h.2⟩
theorem FR7.trans (h : FR7 ρ ρ') (k : FR7 ρ' ρ'') : FR7 ρ ρ'' := ⟨fun n a b => (k.1 n a b).trans (h.1 n a b), fun i a => (k.2 i a).trans (h.2 i a)⟩
theorem FR7.refl : FR7 ρ ρ := ⟨fun _ _ _ => rfl, fun _ _ => rfl⟩
theorem Rel.fr7 (h : Rel κ ρ) (k : FR7 ρ ρ') : Rel κ ρ' := by
  have := h.fr (ρ' := fun n => if n ≤ 7 then ρ' n else ρ n) ⟨fun n a b => by
    show (if n ≤ 7 then ρ' n else ρ n) = ρ n
    by_cases q : n ≤ 7
    · rw [if_pos q, k.1 n a q]
    · rw [if_neg q], fun i hi => k.2 i hi⟩
  exact this
theorem countR (h : Rel κ ρ) (a : Int32) : ∃ r ρ', zf_X10_count a ρ = some (r, ρ') ∧ FR ρ ρ' := by
  obtain ⟨κ', ρ', e1, e2, e3, ⟨n, kd, aa, zz, bb, T, hd, ln, pt, P, S, f1, f2, f3, f4, f5⟩, e5, _⟩ := refreshRunS h
  unfold zf_X10_count zb_X10_count_80
  rw [e2, obd_some, allR f4.2.2.2.1]
  repeat' split
  all_goals exact ⟨_, _, rfl, e5⟩
theorem betterR (h : Rel κ ρ) (a : Int32) : ∃ r ρ', zf_X10_betterBy a ρ = some (r, ρ') ∧ FR ρ ρ' := by
  obtain ⟨⟨n, kd, aa, zz, bb, L, hr, i, _⟩, g, _⟩ := id h
  obtain ⟨⟨x, b, t, τ⟩, y1, y2, y3, y4⟩ := betterLoopR i g
  unfold zf_X10_betterBy zb_X10_betterBy_59
  rw [y1, obd_some]
  split
  all_goals exact ⟨_, _, rfl, y4⟩
theorem half16 : ∀ i, i < 16 → 0 ≤ (nI i / 2).toInt ∧ (nI i / 2).toInt < 8 := by decide
theorem valueT {a : Int32} (h : 0 ≤ a.toInt ∧ a.toInt < 8) (b : Int32) : ∃ r, zf_X10_valueBy a b ρ = some r := by
  unfold zf_X10_valueBy zb_X10_valueBy_19
  rw [bd_ok (by omega), bd_ok (by omega)]
  split
  all_goals exact ⟨_, rfl⟩
theorem heatT (hs : ST 21 κ ρ kd aa T hd ln pt P S) {i j : Nat} (hi : i < 24) (hj : j < 3) : ∃ r, zf_X10_heatBy (nI i) (nI j) ρ = some r := by
  have j0 : (0 : Int64).toInt = 0 := rfl
  have j2 : (2 : Int64).toInt = 2 := rfl
  have j23 : (23 : Int64).toInt = 23 := rfl
  obtain ⟨r, _, h⟩ := heatFactS hs (nI i) (nI j)
  simp only [in_eq, j0, j2, j23, decide_eq_true_eq, nI_toInt (show i < 2 ^ 31 by omega), nI_toInt (show j < 2 ^ 31 by omega)] at h
  rw [if_pos (by omega), if_pos (by omega)] at h
  cases q : zf_X10_heatBy (nI i) (nI j) ρ with
  | none => rw [q] at h; cases h
  | some v => exact ⟨v, rfl⟩
theorem tellsT (h : PC κ n kd aa zz bb) (hR : PR ρ n kd aa zz bb) (w : PW n kd aa zz) (ht : TC 21 κ ρ T hd ln pt) (v : Int64) (a : Int32) : ∃ r, zf_X10_tellsTrace v a ρ = some r := by
  unfold zf_X10_tellsTrace
  obtain ⟨y, hy⟩ := lp_mix (body := zl_X10_tellsTrace_6 a ρ) (F := fun x => zf_X10_traceOf a x ρ) 5 (by decide) (fun _ => rfl) (fun i _ => by obtain ⟨r, _, q⟩ := traceFactS ht a (nI i); exact ⟨r, q⟩) v
  rw [hy, obd_some]
  obtain ⟨z, hz⟩ := lp_mix (body := zl_X10_tellsTrace_38 a ρ) (F := fun x => zf_X10_checksOf a x ρ) 3 (by decide) (fun _ => rfl) (fun i _ => by obtain ⟨r, _, q⟩ := checkFactS h hR w ht a (nI i); exact ⟨r, q⟩) y.2
  rw [hz, obd_some]
  obtain ⟨r, _, hr⟩ := writesFactS h hR w ht a
  rw [hr, obd_some, letb_eq]
  obtain ⟨u, hu⟩ := lp_any (body := zl_X10_tellsTrace_85 a ρ) 16 (by decide) (fun i b hi => by
    unfold zl_X10_tellsTrace_85
    simp only []
    obtain ⟨t, ht'⟩ := lp_mix (body := zl_X10_tellsTrace_95 a ρ (nI i, b)) (F := fun x => zf_X10_entryOf a (nI i) x ρ) 6 (by decide) (fun _ => rfl) (fun j _ => by obtain ⟨r, _, q⟩ := entryFactS ht a (nI i) (nI j); exact ⟨r, q⟩) b
    obtain ⟨t2, ht2⟩ := lp_mix (body := zl_X10_tellsTrace_130 a ρ (nI i, b)) (F := fun x => zf_X10_snapshotOf a (nI i) x ρ) 2 (by decide) (fun _ => rfl) (fun j _ => by obtain ⟨r, _, q⟩ := snapFactS h hR w ht a (nI i) (nI j); exact ⟨r, q⟩) t.2
    rw [if_neg (show ¬ (16 : Int32) ≤ nI i from nI_ge (a := i) (b := 16) hi (by decide)), ht', obd_some, ht2, obd_some, nI_1]
    exact ⟨_, rfl⟩) (fun b => by
    unfold zl_X10_tellsTrace_85
    simp only []
    rw [if_pos (show (16 : Int32) ≤ nI 16 by decide)]
    exact ⟨_, rfl⟩) (((31 : Int64) * z.2) + r.toInt64)
  rw [hu]
  exact ⟨_, rfl⟩
theorem dig6 (h : Rel κ ρ) (v : Int64) : ∃ y, lp (X := Int32 × Int64 × Sg) zl_X10_digest_6 1000 ((0 : Int32), v, ρ) = some y ∧ FR7 ρ y.2.2 := by
  refine lp_for (X := Int32 × Int64 × Sg) (fun i x => x.1 = nI i ∧ FR7 ρ x.2.2) (fun y => FR7 ρ y.2.2) 8 (by decide) ⟨rfl, FR7.refl⟩ ?_ ?_
  · rintro i ⟨x, e, τ⟩ hi ⟨e1, e2⟩
    dsimp only at e1 e2
    subst e1
    obtain ⟨r, τ', c1, c2⟩ := countR (h.fr7 e2) (nI i)
    unfold zl_X10_digest_6
    simp only []
    rw [if_neg (show ¬ (8 : Int32) ≤ nI i from nI_ge (a := i) (b := 8) hi (by decide)), c1, bnd_some, letb_eq, nI_1]
    exact ⟨_, rfl, rfl, e2.trans c2.to7⟩
  · rintro ⟨x, e, τ⟩ ⟨e1, e2⟩
    dsimp only at e1 e2
    subst e1
    unfold zl_X10_digest_6
    simp only []
    rw [if_pos (show (8 : Int32) ≤ nI 8 by decide)]
    exact ⟨_, rfl, e2⟩
theorem dig60 : ∃ y, lp (X := Int32 × Sg) zl_X10_digest_60 1000 ((0 : Int32), ρ) = some y ∧ FR7 ρ y.2 := by
  refine lp_for (X := Int32 × Sg) (fun i x => x.1 = nI i ∧ FR7 ρ x.2) (fun y => FR7 ρ y.2) 16 (by decide) ⟨rfl, FR7.refl⟩ ?_ ?_
  · rintro i ⟨x, τ⟩ hi ⟨e1, e2⟩
    dsimp only at e1 e2
    subst e1
    obtain ⟨r, hr⟩ := valueT (ρ := τ) (half16 i hi) (nI i - nI i / 2 * 2)
    unfold zl_X10_digest_60
    simp only []
    rw [if_neg (show ¬ (16 : Int32) ≤ nI i from nI_ge (a := i) (b := 16) hi (by decide)), hr, obd_some, bd_nI hi (by decide), nI_1]
    exact ⟨_, rfl, rfl, e2.trans ⟨fun n a b => by simp (disch := omega) only [su_ne], fun i _ => by simp (disch := omega) only [su_ne]⟩⟩
  · rintro ⟨x, τ⟩ ⟨e1, e2⟩
    dsimp only at e1 e2
    subst e1
    unfold zl_X10_digest_60
    simp only []
    rw [if_pos (show (16 : Int32) ≤ nI 16 by decide)]
    exact ⟨_, rfl, e2⟩
theorem dig95 (v : Int64) : ∃ y, lp (X := Int32 × Int64) (zl_X10_digest_95 ρ) 1000 ((0 : Int32), v) = some y := by
  refine lp_any 8 (by decide) (fun i a hi => ?_) (fun a => ?_) v
  · have e1 : (2 : Int32) * nI i = nI (2 * i) := nI_mul 2 i
    have e2 : nI (2 * i) + 1 = nI (2 * i + 1) := nI_add _ 1
    obtain ⟨r, hr⟩ := valueT (ρ := ρ) (a := nI i) (by rw [nI_toInt (by omega)]; omega) 0
    obtain ⟨r2, hr2⟩ := valueT (ρ := ρ) (a := nI i) (by rw [nI_toInt (by omega)]; omega) 1
    unfold zl_X10_digest_95
    simp only []
    rw [if_neg (show ¬ (8 : Int32) ≤ nI i from nI_ge (a := i) (b := 8) hi (by decide)), e1, e2, bd_nI (by omega) (by decide), letb_eq, bd_nI (by omega) (by decide), letb_eq, hr, obd_some, letb_eq, hr2, obd_some, letb_eq, nI_1]
    exact ⟨_, rfl⟩
  · unfold zl_X10_digest_95
    simp only []
    rw [if_pos (show (8 : Int32) ≤ nI 8 by decide)]
    exact ⟨_, rfl⟩
theorem dig179 (h : Rel κ ρ) (hs : ST 21 κ' ρ kd aa T hd ln pt P S) (v : Int64) : ∃ y, lp (X := Int32 × Int64) (zl_X10_digest_179 ρ) 1000 ((0 : Int32), v) = some y := by
  refine lp_any 24 (by decide) (fun i a hi => ?_) (fun a => ?_) v
  · obtain ⟨y, hy⟩ := lp_mix (body := zl_X10_digest_188 ρ (nI i, a)) (F := fun x => zf_X10_code (nI i) x ρ) 4 (by decide) (fun _ => rfl) (fun j _ => by obtain ⟨r, _, q⟩ := codeS h (nI i) (nI j); exact ⟨r, q⟩) a
    obtain ⟨z, hz⟩ := lp_mix (body := zl_X10_digest_218 ρ (nI i, a)) (F := fun x => zf_X10_heatBy (nI i) x ρ) 3 (by decide) (fun _ => rfl) (fun j hj => heatT hs hi hj) y.2
    unfold zl_X10_digest_179
    simp only []
    rw [if_neg (show ¬ (24 : Int32) ≤ nI i from nI_ge (a := i) (b := 24) hi (by decide)), hy, obd_some, hz, obd_some, nI_1]
    exact ⟨_, rfl⟩
  · unfold zl_X10_digest_179
    simp only []
    rw [if_pos (show (24 : Int32) ≤ nI 24 by decide)]
    exact ⟨_, rfl⟩
theorem digR (h : Rel κ ρ) : ∃ r ρ', zf_X10_digest ρ = some (r, ρ') ∧ FR7 ρ ρ' := by
  unfold zf_X10_digest
  obtain ⟨y6, a1, a2⟩ := dig6 h 17
  rw [a1, obd_some]
  obtain ⟨y33, b1⟩ := lp_mix (body := zl_X10_digest_33 y6) (F := fun x => some (zf_X10_endsBy x y6.2.2)) 6 (by decide) (fun _ => rfl) (fun i _ => ⟨_, rfl⟩) y6.2.1
  rw [b1, obd_some]
  obtain ⟨y60, c1, c2⟩ := dig60 (ρ := y6.2.2)
  rw [c1, obd_some]
  have f1 : FR7 ρ y60.2 := a2.trans c2
  obtain ⟨κ1, ρ1, d1, d2, d3, d4, d5, _⟩ := refreshPlainS (h.fr7 f1)
  rw [d2, obd_some]
  obtain ⟨y95, e1⟩ := dig95 (ρ := ρ1) y33.2
  rw [e1, obd_some]
  have f2 : FR7 ρ ρ1 := f1.trans d5.to7
  obtain ⟨κ2, ρ2, g1, g2, g3, ⟨n, kd, aa, zz, bb, T, hd, ln, pt, P, S, p1, p2, p3, p4, p5⟩, g5, _⟩ := refreshRunS (h.fr7 f2)
  rw [g2, obd_some]
  obtain ⟨y179, h1⟩ := dig179 g3 p4 y95.2
  rw [h1, obd_some]
  obtain ⟨y253, h2⟩ := lp_mix2 (body := zl_X10_digest_253 ρ2) (F := fun v x => zf_X10_tellsTrace v x ρ2) 8 (by decide) (fun _ => rfl) (fun i v _ => tellsT p1 p2 p3 p4.2.2.2.1 _ _) y179.2
  rw [h2, obd_some]
  obtain ⟨r3, ρ3, i1, i2⟩ := betterR g3 0
  rw [i1, bnd_some, letb_eq]
  obtain ⟨r4, ρ4, j1, j2⟩ := betterR (g3.fr i2) 1
  rw [j1, bnd_some]
  exact ⟨_, _, rfl, ((f2.trans g5.to7).trans i2.to7).trans j2.to7⟩
theorem digestT (h : Rel κ ρ) : ∃ r r' κ' ρ', zf_X9_digest κ = some (r, κ') ∧ zf_X10_digest ρ = some (r', ρ') ∧ Rel κ' ρ' := by
  obtain ⟨r, κ', a1, a2⟩ := digC h
  obtain ⟨r', ρ', b1, b2⟩ := digR h
  exact ⟨r, r', κ', ρ', a1, b1, a2.fr7 b2⟩
end DigR
