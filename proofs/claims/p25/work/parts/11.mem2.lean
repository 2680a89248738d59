section WR2
variable {p : Program} {l : Launch} {e : Env} {R : Room} {s : State} {m : MethodId} {args : Array Value} {below : List Frame} {meth : Method} {c : Code} {H : Heap} {locs : List Loc} {cells slots : Nat} {Q : State → Prop} {pc : Nat} {ls : Array Slot} {rest st0 : List Value} {D : va_G} {A0 : Nat → Prop} {H0 : Heap} {cc : ByteArray} {cI cT cS : ClassId} {σ : Sg} {ad : Nat → Nat} {b : Nat} {x : Int32}
theorem waldS (hx : p.tables.exec = Jvm.exec) (hb : c.code = cc) (hK : gK D (gTY cI cT cS) s) (hP : va_P D vwCl (Wd 153 (cfC ad cI cT cS) σ) H) {i : Int32} (hi : 0 ≤ i.toInt ∧ i.toInt < ((4 : Nat) : Int)) (hdg : decode cc pc = .ok (.aaload, 1)) (kk : W p l e R s m args below meth c H locs cells slots Q (F0 m (pc + 1) ls (.ref (ad (13 + 2 * i.toNatClampNeg)) :: rest))) : W p l e R s m args below meth c H locs cells slots Q (F0 m pc ls (.int i :: .ref (ad 12) :: rest)) :=
  waldq (t0 := 2) hx hb hK hP qSh rfl hi hdg kk
theorem waldT (hx : p.tables.exec = Jvm.exec) (hb : c.code = cc) (hK : gK D (gTY cI cT cS) s) (hP : va_P D vwCl (Wd 153 (cfC ad cI cT cS) σ) H) (hM : isM b) {i : Int32} (hi : 0 ≤ i.toInt ∧ i.toInt < ((8 : Nat) : Int)) (hdg : decode cc pc = .ok (.aaload, 1)) (kk : W p l e R s m args below meth c H locs cells slots Q (F0 m (pc + 1) ls (.ref (ad (b + 10 + 7 * i.toNatClampNeg)) :: rest))) : W p l e R s m args below meth c H locs cells slots Q (F0 m pc ls (.int i :: .ref (ad (b + 6)) :: rest)) :=
  waldq (t0 := 1) hx hb hK hP (qTr hM) rfl hi hdg kk
theorem waldR (hx : p.tables.exec = Jvm.exec) (hb : c.code = cc) (hK : gK D (gTY cI cT cS) s) (hP : va_P D vwCl (Wd 153 (cfC ad cI cT cS) σ) H) (hM : isM b) {i : Int32} (hi : 0 ≤ i.toInt ∧ i.toInt < ((24 : Nat) : Int)) (hdg : decode cc pc = .ok (.aaload, 1)) (kk : W p l e R s m args below meth c H locs cells slots Q (F0 m (pc + 1) ls (rv ad (σ (b + 9) i.toNatClampNeg) :: rest))) : W p l e R s m args below meth c H locs cells slots Q (F0 m pc ls (.int i :: .ref (ad (b + 9)) :: rest)) :=
  waldq (t0 := 1) hx hb hK hP (qRt hM) rfl hi hdg kk
theorem lw_aload_n (hx : p.tables.exec = Jvm.exec) (hb : c.code = cc) {k : Fin 4} {i : Nat} (hdg : decode cc pc = .ok (.aload_n k, 1)) (hi : (k : Nat) = i) (hl : ls[i]? = some (.val (rv ad x))) (kk : W p l e R s m args below meth c H locs cells slots Q (F0 m (pc + 1) ls (rv ad x :: rest))) : W p l e R s m args below meth c H locs cells slots Q (F0 m pc ls rest) := by
  by_cases q : x = -1
  · rw [rv_null ad q] at hl kk; exact lv_aload_nN hx hb hdg hi hl kk
  · rw [rv_ref ad q] at hl kk; exact lv_aload_n hx hb hdg hi hl kk
theorem lw_aload (hx : p.tables.exec = Jvm.exec) (hb : c.code = cc) {i : Nat} (hdg : decode cc pc = .ok (.aload i, 2)) (hl : ls[i]? = some (.val (rv ad x))) (kk : W p l e R s m args below meth c H locs cells slots Q (F0 m (pc + 2) ls (rv ad x :: rest))) : W p l e R s m args below meth c H locs cells slots Q (F0 m pc ls rest) := by
  by_cases q : x = -1
  · rw [rv_null ad q] at hl kk; exact lv_aloadN hx hb hdg hl kk
  · rw [rv_ref ad q] at hl kk; exact lv_aload hx hb hdg hl kk
theorem lw_astore_n (hx : p.tables.exec = Jvm.exec) (hb : c.code = cc) {k : Fin 4} {i nL : Nat} {lv lv' : List (Nat × Value)} (hdg : decode cc pc = .ok (.astore_n k, 1)) (hi : (k : Nat) = i) (h : lv_has ls nL lv) (hn : i < nL) (hl : (i, rv ad x) :: lv.filter (fun q => !(q.1 == i) && !(q.1 + 1 == i && q.2.category == 2)) = lv') (kk : ∀ ls' : Array Slot, lv_has ls' nL lv' → W p l e R s m args below meth c H locs cells slots Q (F0 m (pc + 1) ls' rest)) : W p l e R s m args below meth c H locs cells slots Q (F0 m pc ls (rv ad x :: rest)) := by
  by_cases q : x = -1
  · rw [rv_null ad q] at hl ⊢; exact lv_astore_nN hx hb hdg hi h hn hl kk
  · rw [rv_ref ad q] at hl ⊢; exact lv_astore_n hx hb hdg hi h hn hl kk
theorem lw_astore (hx : p.tables.exec = Jvm.exec) (hb : c.code = cc) {i nL : Nat} {lv lv' : List (Nat × Value)} (hdg : decode cc pc = .ok (.astore i, 2)) (h : lv_has ls nL lv) (hn : i < nL) (hl : (i, rv ad x) :: lv.filter (fun q => !(q.1 == i) && !(q.1 + 1 == i && q.2.category == 2)) = lv') (kk : ∀ ls' : Array Slot, lv_has ls' nL lv' → W p l e R s m args below meth c H locs cells slots Q (F0 m (pc + 2) ls' rest)) : W p l e R s m args below meth c H locs cells slots Q (F0 m pc ls (rv ad x :: rest)) := by
  by_cases q : x = -1
  · rw [rv_null ad q] at hl ⊢; exact lv_astoreN hx hb hdg h hn hl kk
  · rw [rv_ref ad q] at hl ⊢; exact lv_astore hx hb hdg h hn hl kk
end WR2
def nzd {α : Type} (y : Int32) (k : Option α) : Option α := if y = 0 then none else k
theorem nz_inv {α : Type} {y : Int32} {k : Option α} {o : α} (h : nzd y k = some o) : (¬ y = 0) ∧ k = some o := by
  unfold nzd at h
  split at h
  · cases h
  · rename_i c; exact ⟨c, h⟩
theorem su_hit {σ : Sg} {n a i : Nat} {v : Int32} (h : a = n) : su σ n i v a i = v := by
  subst h; unfold su; rw [sr_same]; unfold upd; rw [if_pos rfl]
theorem su_rf {σ : Sg} {n a i j : Nat} {v x : Int32} (h : a = n) (hj : j ≠ i) (e : σ a j = x) : su σ n i v a j = x := by
  subst h; unfold su; rw [sr_same]; unfold upd; rw [if_neg hj]; exact e
theorem su_rd {σ : Sg} {n a i j : Nat} {v x : Int32} (h : a ≠ n) (e : σ a j = x) : su σ n i v a j = x := by
  unfold su; rw [sr_ne _ _ h]; exact e
theorem ne_lM {M n k : Nat} (h : isM M) (hn : n < 21) : n ≠ M + k := by rcases h with rfl | rfl <;> omega
theorem ne_lM0 {M n : Nat} (h : isM M) (hn : n < 21) : n ≠ M := by rcases h with rfl | rfl <;> omega
theorem ne_lT {t n k : Nat} (h : isTr t) (hn : n < 21) : n ≠ t + k := by have := isTr_or h; omega
theorem ne_lT0 {t n : Nat} (h : isTr t) (hn : n < 21) : n ≠ t := by have := isTr_or h; omega
theorem ne_MT11 {M t k j : Nat} (h : isM M) (ht : isTr t) (hk : k < 10) (hj : j < 7) : M + k ≠ t + j := by have := isTr_or ht; rcases h with rfl | rfl <;> omega
theorem ne_MT10 {M t k : Nat} (h : isM M) (ht : isTr t) (hk : k < 10) : M + k ≠ t := ne_MT11 (j := 0) h ht hk (by decide)
theorem ne_MT01 {M t j : Nat} (h : isM M) (ht : isTr t) (hj : j < 7) : M ≠ t + j := ne_MT11 (k := 0) h ht (by decide) hj
theorem ne_MT00 {M t : Nat} (h : isM M) (ht : isTr t) : M ≠ t := ne_MT11 (k := 0) (j := 0) h ht (by decide) (by decide)
