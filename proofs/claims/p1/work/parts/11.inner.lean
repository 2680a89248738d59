def oc_J7_fill_53178 : List Cond := []
def vc_J7_fill_53178 : List Cond := .code yJ7_fill_53178 cJ7_fill_53178 4 none :: (oc_J7_fill_53178)
theorem gd_c_J7_fill_53178 : (vc_J7_fill_53178).all goodWord = true := by decide +kernel
set_option maxHeartbeats 4000000 in
set_option maxRecDepth 100000 in
theorem c_J7_fill_53178 (l : Launch) (dC : Nat → ClassId) (dI : Nat → Nat → Nat) (cI cT cS : ClassId) (sz : Nat) (h0 : Nat) (N : Nat) (hN : N < 2 ^ 31) : gCV (S := Unit) l yJ7_fill_53178 vc_J7_fill_53178 ({ frames := 0, cells := 0, slots := 0, locals := 0 }) (dC, dI) (gTY cI cT cS) sz [.ref h0, .int 0] [(h0, .inl (cI, N, .inl (fun _ => 0)))] (fun u => True) (fun _ => [(h0, .inl (cI, N, .inl (fun _ => 0)))]) 0 0 := by
  refine Met.ofW (cc := cJ7_fill_53178) (maxL := 4) (ret := none) (by decide) rfl ?_
  intro p e s m args below meth c s₁ B hml hv
  obtain ⟨rfl, hsz, hP, hK, hD0⟩ := hv
  have hx := B.exec
  have hb := B.bytes
  have hr := B.returns
  have hts := atoms_spec (ws := vc_J7_fill_53178) B.pre
  have hown : s.vm.findClass RJ7 = some m.cls := findClass_of_methodNamed B.named
  have hlocks := B.notSynchronized
  subst hsz
  have hD := hD0.self (sz := s.heap.size)
  generalize hAe : va_A [(h0, .inl (cI, N, .inl (fun _ => 0)))] s.heap.size = A at hD ⊢
  have hA : ∀ q : Nat, s.heap.size ≤ q → A q := fun q h => by rw [← hAe]; exact Or.inr h
  refine gstart (fun H locs hHe hLe => ?_)
  have hS : va_S A s.heap H locs := by rw [← hHe, ← hLe]; exact va_S.rf
  replace hP : va_P (dC, dI) vwCl [(h0, .inl (cI, N, .inl (fun _ => 0)))] H := by rw [← hHe]; exact hP
  clear hHe hLe
  have hl := lv_entry ([.ref h0, .int 0]) (n := 4) (Nat.le_of_ble_eq_true rfl)
  rw [lg_entry_eq]
  generalize (lg_sl ([.ref h0, .int 0]) ++ List.replicate (4 - (lg_sl ([.ref h0, .int 0])).length) Slot.unset).toArray = ls at hl ⊢
  replace hl : lv_has ls 4 [(0, .ref h0), (1, .int 0)] := hl
  refine lv_iconst (v := 0) hx hb dJ7_fill_53178_0 (by decide) ?_
  refine lv_istore_n (lv' := [(2, .int 0), (0, .ref h0), (1, .int 0)]) hx hb dJ7_fill_53178_1 rfl hl (by decide) rfl (fun ls hl => ?_)
  refine lv_aload_n hx hb dJ7_fill_53178_2 rfl (lv_at hl 1 rfl) ?_
  refine va_alen (v := nI N) hx hb hK.1 hP 0 0 rfl rfl rfl dJ7_fill_53178_3 ?_
  refine lv_istore_n (lv' := [(3, .int (nI N)), (2, .int 0), (0, .ref h0), (1, .int 0)]) hx hb dJ7_fill_53178_4 rfl hl (by decide) rfl (fun ls hl => ?_)
  obtain ⟨x1, ex1⟩ : ∃ x : Int32, x = nI 0 := ⟨_, rfl⟩
  replace hl : lv_has ls 4 [(3, .int (nI N)), (2, .int x1), (0, .ref h0), (1, .int 0)] := by rw [ex1]; exact hl
  obtain ⟨i1, hi1b, ex1b⟩ : ∃ j : Nat, j ≤ N ∧ x1 = nI j := ⟨0, by first | decide | omega, ex1⟩
  clear ex1
  obtain ⟨n1, hn1⟩ : ∃ n : Nat, N + 1 ≤ i1 + n := ⟨N + 1, by omega⟩
  induction n1 generalizing i1 x1  H locs ls with
  | zero => exact absurd hn1 (by omega)
  | succ n1 ih1 =>
    refine lv_iload_n hx hb dJ7_fill_53178_5 rfl (lv_at hl 1 rfl) ?_
    refine lv_iload_n hx hb dJ7_fill_53178_6 rfl (lv_at hl 0 rfl) ?_
    refine lv_icmp_ge (tgt := 20) hx hb dJ7_fill_53178_7 (by decide) (fun c_2 => ?_) (fun c_2 => ?_)
    · skip
      have gc_2 : i1 = N := g_lx N (by first | rfl | decide | assumption) ex1b hi1b (by first | decide | omega) c_2
      refine W.widen (k := 0) (n := 0) (Nat.le_of_ble_eq_true rfl) (Nat.le_of_ble_eq_true rfl) ?_
      have hP9 := hP.sub (ws' := [(h0, .inl (cI, N, .inl (fun _ => 0)))]) [0] rfl
      have hD9 := hD.sub (ws' := [(h0, .inl (cI, N, .inl (fun _ => 0)))]) [0] (by decide) rfl
      exact W.vret hx hb hr (fun t ht hW => ⟨⟨(), rfl, trivial, by rw [ht]; exact hP9, hD9⟩, hS.F ht⟩) hS.2.2 dJ7_fill_53178_20
    · skip
      have gc_2 : i1 < N := g_ln N (by first | rfl | decide | assumption) ex1b hi1b (by first | decide | omega) c_2
      refine lv_aload_n hx hb dJ7_fill_53178_10 rfl (lv_at hl 2 rfl) ?_
      refine lv_iload_n hx hb dJ7_fill_53178_11 rfl (lv_at hl 1 rfl) ?_
      refine lv_iload_n hx hb dJ7_fill_53178_12 rfl (lv_at hl 3 rfl) ?_
      refine va_iast hx hb hK.1 hP hD hS 0 0 rfl rfl (by rw [ex1b]; exact vp_in_nI (by omega) (by omega)) dJ7_fill_53178_13 (fun H locs hP hD hS => ?_)
      replace hP : va_P (dC, dI) vwCl [(h0, .inl (cI, N, .inl (upd (fun _ => 0) x1.toNatClampNeg 0)))] H := hP
      replace hD : va_D A [(h0, .inl (cI, N, .inl (upd (fun _ => 0) x1.toNatClampNeg 0)))] := hD
      simp only [g_upd0] at hP hD
      obtain ⟨x_3, ex_3⟩ : ∃ y : Int32, y = x1 + 1 := ⟨_, rfl⟩
      refine lv_iinc (v := x_3) (lv' := [(2, .int x_3), (3, .int (nI N)), (0, .ref h0), (1, .int 0)]) hx hb dJ7_fill_53178_14 hl (k := 1) rfl (by rw [ex_3]; rfl) (by decide) rfl (fun ls hl => ?_)
      refine lv_goto (tgt := 5) hx hb dJ7_fill_53178_17 (by decide) ?_
      replace hP := hP.sub (ws' := [(h0, .inl (cI, N, .inl (fun _ => 0)))]) [0] rfl
      replace hl := lv_sub (l' := [(3, .int (nI N)), (2, .int x_3), (0, .ref h0), (1, .int 0)]) hl [1, 0, 2, 3] rfl
      apply ih1 (i1 := i1 + 1) (x1 := x_3)  (H := H) (locs := locs) (ls := ls) <;> first | with_reducible assumption | omega | exact (by rw [ex_3, ex1b]; exact nI_1 _)
def oc_X5_put : List Cond := [.fieldLink RX5 9 "TraceTrees$Registers" "kind" "[I", .fieldLink RX5 15 "TraceTrees$Registers" "bits" "[I"]
def vc_X5_put : List Cond := .code yX5_put cX5_put 4 none :: (oc_X5_put ++ (wsX50))
theorem iw_c_X5_put_X5 : ∀ w ∈ wsX50, w ∈ vc_X5_put := fun _ h => List.mem_cons_of_mem _ (List.mem_append_right _ (h))
theorem gd_c_X5_put : (vc_X5_put).all goodWord = true := by decide +kernel
set_option maxHeartbeats 4000000 in
set_option maxRecDepth 100000 in
theorem c_X5_put (l : Launch) (dC : Nat → ClassId) (dI : Nat → Nat → Nat) (cI cT cS : ClassId) (sz : Nat) (h0 : Nat) (ka : Nat) (ba : Nat) (kf : Nat → Int32) (bf : Nat → Int32) (p1 : Int32) (p2 : Int32) (p3 : Int32) (hv : vp_in p1 8) : gCV (S := Unit) l yX5_put vc_X5_put ({ frames := 0, cells := 0, slots := 0, locals := 0 }) (dC, dI) (gTY cI cT cS) sz [.ref h0, .int p1, .int p2, .int p3] [(h0, .inr (4, [.ref ka, .ref ba])), (ka, .inl (cI, 8, .inl kf)), (ba, .inl (cI, 8, .inl bf))] (fun u => True) (fun _ => [(h0, .inr (4, [.ref ka, .ref ba])), (ka, .inl (cI, 8, .inl (upd kf p1.toNatClampNeg p2))), (ba, .inl (cI, 8, .inl (upd bf p1.toNatClampNeg p3)))]) 0 0 := by
  refine Met.ofW (cc := cX5_put) (maxL := 4) (ret := none) (by decide) rfl ?_
  intro p e s m args below meth c s₁ B hml hv
  obtain ⟨rfl, hsz, hP, hK, hD0⟩ := hv
  have hx := B.exec
  have hb := B.bytes
  have hr := B.returns
  have hts := atoms_spec (ws := vc_X5_put) B.pre
  have hown : s.vm.findClass RX5 = some m.cls := findClass_of_methodNamed B.named
  have hlocks := B.notSynchronized
  subst hsz
  have hD := hD0.self (sz := s.heap.size)
  generalize hAe : va_A [(h0, .inr (4, [.ref ka, .ref ba])), (ka, .inl (cI, 8, .inl kf)), (ba, .inl (cI, 8, .inl bf))] s.heap.size = A at hD ⊢
  have hA : ∀ q : Nat, s.heap.size ≤ q → A q := fun q h => by rw [← hAe]; exact Or.inr h
  refine gstart (fun H locs hHe hLe => ?_)
  have hS : va_S A s.heap H locs := by rw [← hHe, ← hLe]; exact va_S.rf
  replace hP : va_P (dC, dI) vwCl [(h0, .inr (4, [.ref ka, .ref ba])), (ka, .inl (cI, 8, .inl kf)), (ba, .inl (cI, 8, .inl bf))] H := by rw [← hHe]; exact hP
  clear hHe hLe
  have hl := lv_entry ([.ref h0, .int p1, .int p2, .int p3]) (n := 4) (Nat.le_of_ble_eq_true rfl)
  rw [lg_entry_eq]
  generalize (lg_sl ([.ref h0, .int p1, .int p2, .int p3]) ++ List.replicate (4 - (lg_sl ([.ref h0, .int p1, .int p2, .int p3])).length) Slot.unset).toArray = ls at hl ⊢
  replace hl : lv_has ls 4 [(0, .ref h0), (1, .int p1), (2, .int p2), (3, .int p3)] := hl
  refine lv_aload_n hx hb dX5_put_0 rfl (lv_at hl 0 rfl) ?_
  refine va_get (D := (dC, dI)) (ci := 4) (v := .ref ka) (C := RX5) (T := TX5) (N := 2) hx hb hts iw_c_X5_put_X5 hown hK.1 hP 0 rfl rfl 0 (by decide) (hts (.fieldLink RX5 9 "TraceTrees$Registers" "kind" "[I") (List.mem_of_getElem? (i := 1) rfl)) (fun _ h9 => h9) rfl dX5_put_1 ?_
  refine lv_iload_n hx hb dX5_put_4 rfl (lv_at hl 1 rfl) ?_
  refine lv_iload_n hx hb dX5_put_5 rfl (lv_at hl 2 rfl) ?_
  refine va_iast hx hb hK.1 hP hD hS 1 0 rfl rfl hv dX5_put_6 (fun H locs hP hD hS => ?_)
  replace hP : va_P (dC, dI) vwCl [(h0, .inr (4, [.ref ka, .ref ba])), (ka, .inl (cI, 8, .inl (upd kf p1.toNatClampNeg p2))), (ba, .inl (cI, 8, .inl bf))] H := hP
  replace hD : va_D A [(h0, .inr (4, [.ref ka, .ref ba])), (ka, .inl (cI, 8, .inl (upd kf p1.toNatClampNeg p2))), (ba, .inl (cI, 8, .inl bf))] := hD
  refine lv_aload_n hx hb dX5_put_7 rfl (lv_at hl 0 rfl) ?_
  refine va_get (D := (dC, dI)) (ci := 4) (v := .ref ba) (C := RX5) (T := TX5) (N := 2) hx hb hts iw_c_X5_put_X5 hown hK.1 hP 0 rfl rfl 1 (by decide) (hts (.fieldLink RX5 15 "TraceTrees$Registers" "bits" "[I") (List.mem_of_getElem? (i := 2) rfl)) (fun _ h9 => h9) rfl dX5_put_8 ?_
  refine lv_iload_n hx hb dX5_put_11 rfl (lv_at hl 1 rfl) ?_
  refine lv_iload_n hx hb dX5_put_12 rfl (lv_at hl 3 rfl) ?_
  refine va_iast hx hb hK.1 hP hD hS 2 0 rfl rfl hv dX5_put_13 (fun H locs hP hD hS => ?_)
  replace hP : va_P (dC, dI) vwCl [(h0, .inr (4, [.ref ka, .ref ba])), (ka, .inl (cI, 8, .inl (upd kf p1.toNatClampNeg p2))), (ba, .inl (cI, 8, .inl (upd bf p1.toNatClampNeg p3)))] H := hP
  replace hD : va_D A [(h0, .inr (4, [.ref ka, .ref ba])), (ka, .inl (cI, 8, .inl (upd kf p1.toNatClampNeg p2))), (ba, .inl (cI, 8, .inl (upd bf p1.toNatClampNeg p3)))] := hD
  refine W.widen (k := 0) (n := 0) (Nat.le_of_ble_eq_true rfl) (Nat.le_of_ble_eq_true rfl) ?_
  have hP9 := hP.sub (ws' := [(h0, .inr (4, [.ref ka, .ref ba])), (ka, .inl (cI, 8, .inl (upd kf p1.toNatClampNeg p2))), (ba, .inl (cI, 8, .inl (upd bf p1.toNatClampNeg p3)))]) [0, 1, 2] rfl
  have hD9 := hD.sub (ws' := [(h0, .inr (4, [.ref ka, .ref ba])), (ka, .inl (cI, 8, .inl (upd kf p1.toNatClampNeg p2))), (ba, .inl (cI, 8, .inl (upd bf p1.toNatClampNeg p3)))]) [0, 1, 2] (by decide) rfl
  exact W.vret hx hb hr (fun t ht hW => ⟨⟨(), rfl, trivial, by rw [ht]; exact hP9, hD9⟩, hS.F ht⟩) hS.2.2 dX5_put_14
def oc_X5_become : List Cond := [.fieldLink RX5 9 "TraceTrees$Registers" "kind" "[I", .fieldLink RX5 15 "TraceTrees$Registers" "bits" "[I", .methodLink RX5 18 yX5_put, .instanceMethod yX5_put, .selects RX5 yX5_put yX5_put, .initialized RX5]
def vc_X5_become : List Cond := .code yX5_become cX5_become 3 none :: (oc_X5_become ++ (wsX50 ++ (vc_X5_put)))
theorem iw_c_X5_become_X5 : ∀ w ∈ wsX50, w ∈ vc_X5_become := fun _ h => List.mem_cons_of_mem _ (List.mem_append_right _ (List.mem_append_left _ h))
theorem ic_c_X5_become_c_X5_put : ∀ w ∈ vc_X5_put, w ∈ vc_X5_become := fun _ h => List.mem_cons_of_mem _ (List.mem_append_right _ (List.mem_append_right _ (h)))
theorem gd_c_X5_become : (vc_X5_become).all goodWord = true := by decide +kernel
set_option maxHeartbeats 4000000 in
set_option maxRecDepth 100000 in
theorem c_X5_become (l : Launch) (dC : Nat → ClassId) (dI : Nat → Nat → Nat) (cI cT cS : ClassId) (sz : Nat) (h0 : Nat) (h1 : Nat) (a1 : Nat) (a2 : Nat) (b1 : Nat) (b2 : Nat)  : gCV (S := Unit) l yX5_become vc_X5_become ({ frames := 1, cells := 0, slots := 0, locals := 23 }) (dC, dI) (gTY cI cT cS) sz [.ref h0, .ref h1] [(h0, .inr (4, [.ref a1, .ref a2])), (a1, .inl (cI, 8, .inl (fun _ => 0))), (a2, .inl (cI, 8, .inl (fun _ => 0))), (h1, .inr (4, [.ref b1, .ref b2])), (b1, .inl (cI, 8, .inl (fun _ => 0))), (b2, .inl (cI, 8, .inl (fun _ => 0)))] (fun u => True) (fun _ => [(h0, .inr (4, [.ref a1, .ref a2])), (a1, .inl (cI, 8, .inl (fun _ => 0))), (a2, .inl (cI, 8, .inl (fun _ => 0))), (h1, .inr (4, [.ref b1, .ref b2])), (b1, .inl (cI, 8, .inl (fun _ => 0))), (b2, .inl (cI, 8, .inl (fun _ => 0)))]) 0 0 := by
  refine Met.ofW (cc := cX5_become) (maxL := 3) (ret := none) (by decide) rfl ?_
  intro p e s m args below meth c s₁ B hml hv
  obtain ⟨rfl, hsz, hP, hK, hD0⟩ := hv
  have hx := B.exec
  have hb := B.bytes
  have hr := B.returns
  have hts := atoms_spec (ws := vc_X5_become) B.pre
  have hown : s.vm.findClass RX5 = some m.cls := findClass_of_methodNamed B.named
  have hlocks := B.notSynchronized
  subst hsz
  have hD := hD0.self (sz := s.heap.size)
  generalize hAe : va_A [(h0, .inr (4, [.ref a1, .ref a2])), (a1, .inl (cI, 8, .inl (fun _ => 0))), (a2, .inl (cI, 8, .inl (fun _ => 0))), (h1, .inr (4, [.ref b1, .ref b2])), (b1, .inl (cI, 8, .inl (fun _ => 0))), (b2, .inl (cI, 8, .inl (fun _ => 0)))] s.heap.size = A at hD ⊢
  have hA : ∀ q : Nat, s.heap.size ≤ q → A q := fun q h => by rw [← hAe]; exact Or.inr h
  refine gstart (fun H locs hHe hLe => ?_)
  have hS : va_S A s.heap H locs := by rw [← hHe, ← hLe]; exact va_S.rf
  replace hP : va_P (dC, dI) vwCl [(h0, .inr (4, [.ref a1, .ref a2])), (a1, .inl (cI, 8, .inl (fun _ => 0))), (a2, .inl (cI, 8, .inl (fun _ => 0))), (h1, .inr (4, [.ref b1, .ref b2])), (b1, .inl (cI, 8, .inl (fun _ => 0))), (b2, .inl (cI, 8, .inl (fun _ => 0)))] H := by rw [← hHe]; exact hP
  clear hHe hLe
  have hl := lv_entry ([.ref h0, .ref h1]) (n := 3) (Nat.le_of_ble_eq_true rfl)
  rw [lg_entry_eq]
  generalize (lg_sl ([.ref h0, .ref h1]) ++ List.replicate (3 - (lg_sl ([.ref h0, .ref h1])).length) Slot.unset).toArray = ls at hl ⊢
  replace hl : lv_has ls 3 [(0, .ref h0), (1, .ref h1)] := hl
  refine lv_iconst (v := 0) hx hb dX5_become_0 (by decide) ?_
  refine lv_istore_n (lv' := [(2, .int 0), (0, .ref h0), (1, .ref h1)]) hx hb dX5_become_1 rfl hl (by decide) rfl (fun ls hl => ?_)
  obtain ⟨x1, ex1⟩ : ∃ x : Int32, x = nI 0 := ⟨_, rfl⟩
  replace hl : lv_has ls 3 [(2, .int x1), (0, .ref h0), (1, .ref h1)] := by rw [ex1]; exact hl
  obtain ⟨i1, hi1b, ex1b⟩ : ∃ j : Nat, j ≤ 8 ∧ x1 = nI j := ⟨0, by first | decide | omega, ex1⟩
  clear ex1
  obtain ⟨n1, hn1⟩ : ∃ n : Nat, 8 + 1 ≤ i1 + n := ⟨8 + 1, by omega⟩
  induction n1 generalizing i1 x1  H locs ls with
  | zero => exact absurd hn1 (by omega)
  | succ n1 ih1 =>
    refine lv_iload_n hx hb dX5_become_2 rfl (lv_at hl 0 rfl) ?_
    refine lv_bipush (v := 8) hx hb dX5_become_3 (by decide) ?_
    refine lv_icmp_ge (tgt := 31) hx hb dX5_become_5 (by decide) (fun c_2 => ?_) (fun c_2 => ?_)
    · skip
      have gc_2 : i1 = 8 := g_lx 8 (by first | rfl | decide | assumption) ex1b hi1b (by first | decide | omega) c_2
      subst gc_2
      refine W.widen (k := 0) (n := 0) (Nat.le_of_ble_eq_true rfl) (Nat.le_of_ble_eq_true rfl) ?_
      have hP9 := hP.sub (ws' := [(h0, .inr (4, [.ref a1, .ref a2])), (a1, .inl (cI, 8, .inl (fun _ => 0))), (a2, .inl (cI, 8, .inl (fun _ => 0))), (h1, .inr (4, [.ref b1, .ref b2])), (b1, .inl (cI, 8, .inl (fun _ => 0))), (b2, .inl (cI, 8, .inl (fun _ => 0)))]) [0, 1, 2, 3, 4, 5] rfl
      have hD9 := hD.sub (ws' := [(h0, .inr (4, [.ref a1, .ref a2])), (a1, .inl (cI, 8, .inl (fun _ => 0))), (a2, .inl (cI, 8, .inl (fun _ => 0))), (h1, .inr (4, [.ref b1, .ref b2])), (b1, .inl (cI, 8, .inl (fun _ => 0))), (b2, .inl (cI, 8, .inl (fun _ => 0)))]) [0, 1, 2, 3, 4, 5] (by decide) rfl
      exact W.vret hx hb hr (fun t ht hW => ⟨⟨(), rfl, trivial, by rw [ht]; exact hP9, hD9⟩, hS.F ht⟩) hS.2.2 dX5_become_31
    · skip
      have gc_2 : i1 < 8 := g_ln 8 (by first | rfl | decide | assumption) ex1b hi1b (by first | decide | omega) c_2
      refine lv_aload_n hx hb dX5_become_8 rfl (lv_at hl 1 rfl) ?_
      refine lv_iload_n hx hb dX5_become_9 rfl (lv_at hl 0 rfl) ?_
      refine lv_aload_n hx hb dX5_become_10 rfl (lv_at hl 2 rfl) ?_
      refine va_get (D := (dC, dI)) (ci := 4) (v := .ref b1) (C := RX5) (T := TX5) (N := 2) hx hb hts iw_c_X5_become_X5 hown hK.1 hP 3 rfl rfl 0 (by decide) (hts (.fieldLink RX5 9 "TraceTrees$Registers" "kind" "[I") (List.mem_of_getElem? (i := 1) rfl)) (fun _ h9 => h9) rfl dX5_become_11 ?_
      refine lv_iload_n hx hb dX5_become_14 rfl (lv_at hl 0 rfl) ?_
      refine va_iald hx hb hK.1 hP 4 0 rfl rfl (by rw [ex1b]; exact vp_in_nI (by omega) (by omega)) dX5_become_15 ?_
      refine W.eq (g2 := F0 m 16 ls [.int 0, .int x1, .ref h0]) rfl ?_
      refine lv_aload_n hx hb dX5_become_16 rfl (lv_at hl 2 rfl) ?_
      refine va_get (D := (dC, dI)) (ci := 4) (v := .ref b2) (C := RX5) (T := TX5) (N := 2) hx hb hts iw_c_X5_become_X5 hown hK.1 hP 3 rfl rfl 1 (by decide) (hts (.fieldLink RX5 15 "TraceTrees$Registers" "bits" "[I") (List.mem_of_getElem? (i := 2) rfl)) (fun _ h9 => h9) rfl dX5_become_17 ?_
      refine lv_iload_n hx hb dX5_become_20 rfl (lv_at hl 0 rfl) ?_
      refine va_iald hx hb hK.1 hP 5 0 rfl rfl (by rw [ex1b]; exact vp_in_nI (by omega) (by omega)) dX5_become_21 ?_
      refine W.eq (g2 := F0 m 22 ls [.int 0, .int 0, .int x1, .ref h0]) rfl ?_
      refine gcallv (S := Unit) (wc := [(h0, .inr (4, [.ref a1, .ref a2])), (a1, .inl (cI, 8, .inl (fun _ => 0))), (a2, .inl (cI, 8, .inl (fun _ => 0)))]) (wr := [(h1, .inr (4, [.ref b1, .ref b2])), (b1, .inl (cI, 8, .inl (fun _ => 0))), (b2, .inl (cI, 8, .inl (fun _ => 0)))]) (w1 := fun _ => [(h0, .inr (4, [.ref a1, .ref a2])), (a1, .inl (cI, 8, .inl (upd (fun _ => 0) x1.toNatClampNeg 0))), (a2, .inl (cI, 8, .inl (upd (fun _ => 0) x1.toNatClampNeg 0)))]) (va_runV (As := [.int x1, .int 0, .int 0]) (rest := []) ⟨hx, hb, hml, hown, hts⟩ (c_X5_put l dC dI cI cT cS H.size h0 a1 a2 (fun _ => 0) (fun _ => 0) x1 0 0 (by rw [ex1b]; exact vp_in_nI (by omega) (by omega))) (cwV 3 hts (gWV (List.mem_of_getElem? (i := 3) rfl) (List.mem_of_getElem? (i := 4) rfl) (List.mem_of_getElem? (i := 5) rfl) (List.mem_of_getElem? (i := 6) rfl) ic_c_X5_become_c_X5_put gd_c_X5_put) rfl rfl rfl (by decide +kernel) ⟨(Nat.le_of_ble_eq_true rfl), (Nat.le_of_ble_eq_true rfl)⟩) (gpV 0 4 (hP.sub (ws' := [(h0, .inr (4, [.ref a1, .ref a2])), (a1, .inl (cI, 8, .inl (fun _ => 0))), (a2, .inl (cI, 8, .inl (fun _ => 0)))]) [0, 1, 2] rfl) hK (hD.sub (ws' := [(h0, .inr (4, [.ref a1, .ref a2])), (a1, .inl (cI, 8, .inl (fun _ => 0))), (a2, .inl (cI, 8, .inl (fun _ => 0)))]) [0, 1, 2] (by decide) rfl) rfl rfl) rfl rfl hl.1 rfl (lv_room (Nat.le_of_ble_eq_true rfl)) dX5_become_22 ⟨(Nat.le_of_ble_eq_true rfl), (Nat.le_of_ble_eq_true rfl)⟩) hP hD hS hA [0, 1, 2] [3, 4, 5] rfl rfl (by decide) (by decide) (fun ur_3 H locs wr_3 hP hD hS => ?_)
      replace hP : va_P (dC, dI) vwCl [(h1, .inr (4, [.ref b1, .ref b2])), (b1, .inl (cI, 8, .inl (fun _ => 0))), (b2, .inl (cI, 8, .inl (fun _ => 0))), (h0, .inr (4, [.ref a1, .ref a2])), (a1, .inl (cI, 8, .inl (upd (fun _ => 0) x1.toNatClampNeg 0))), (a2, .inl (cI, 8, .inl (upd (fun _ => 0) x1.toNatClampNeg 0)))] H := hP
      replace hD : va_D A [(h1, .inr (4, [.ref b1, .ref b2])), (b1, .inl (cI, 8, .inl (fun _ => 0))), (b2, .inl (cI, 8, .inl (fun _ => 0))), (h0, .inr (4, [.ref a1, .ref a2])), (a1, .inl (cI, 8, .inl (upd (fun _ => 0) x1.toNatClampNeg 0))), (a2, .inl (cI, 8, .inl (upd (fun _ => 0) x1.toNatClampNeg 0)))] := hD
      simp only [g_upd0] at hP hD
      obtain ⟨x_4, ex_4⟩ : ∃ y : Int32, y = x1 + 1 := ⟨_, rfl⟩
      refine lv_iinc (v := x_4) (lv' := [(2, .int x_4), (0, .ref h0), (1, .ref h1)]) hx hb dX5_become_25 hl (k := 0) rfl (by rw [ex_4]; rfl) (by decide) rfl (fun ls hl => ?_)
      refine lv_goto (tgt := 2) hx hb dX5_become_28 (by decide) ?_
      replace hP := hP.sub (ws' := [(h0, .inr (4, [.ref a1, .ref a2])), (a1, .inl (cI, 8, .inl (fun _ => 0))), (a2, .inl (cI, 8, .inl (fun _ => 0))), (h1, .inr (4, [.ref b1, .ref b2])), (b1, .inl (cI, 8, .inl (fun _ => 0))), (b2, .inl (cI, 8, .inl (fun _ => 0)))]) [3, 4, 5, 0, 1, 2] rfl
      replace hl := lv_sub (l' := [(2, .int x_4), (0, .ref h0), (1, .ref h1)]) hl [0, 1, 2] rfl
      apply ih1 (i1 := i1 + 1) (x1 := x_4)  (H := H) (locs := locs) (ls := ls) <;> first | with_reducible assumption | omega | exact (by rw [ex_4, ex1b]; exact nI_1 _)
def oc_X2_clear : List Cond := [.fieldLink RX2 17 "TraceTrees$Forest" "heat" "[I", .methodLink RX2 30 yJ7_fill_53178, .static yJ7_fill_53178, .initialized RJ7, .fieldLink RX2 21 "TraceTrees$Forest" "drops" "[I", .fieldLink RX2 36 "TraceTrees$Forest" "size" "I", .fieldLink RX2 40 "TraceTrees$Forest" "dropped" "I", .fieldLink RX2 43 "TraceTrees$Forest" "recording" "LTraceTrees$Trace;", .fieldLink RX2 24 "TraceTrees$Forest" "root" "[LTraceTrees$Trace;"]
def vc_X2_clear : List Cond := .code yX2_clear cX2_clear 2 none :: (oc_X2_clear ++ (wsX20 ++ (vc_J7_fill_53178)))
theorem iw_c_X2_clear_X2 : ∀ w ∈ wsX20, w ∈ vc_X2_clear := fun _ h => List.mem_cons_of_mem _ (List.mem_append_right _ (List.mem_append_left _ h))
theorem ic_c_X2_clear_c_J7_fill_53178 : ∀ w ∈ vc_J7_fill_53178, w ∈ vc_X2_clear := fun _ h => List.mem_cons_of_mem _ (List.mem_append_right _ (List.mem_append_right _ (h)))
theorem gd_c_X2_clear : (vc_X2_clear).all goodWord = true := by decide +kernel
set_option maxHeartbeats 4000000 in
set_option maxRecDepth 100000 in
theorem c_X2_clear (l : Launch) (dC : Nat → ClassId) (dI : Nat → Nat → Nat) (cI cT cS : ClassId) (sz : Nat) (h0 : Nat) (tq : Nat) (hq : Nat) (dq : Nat) (rq : Nat) (s0 : Int32) (d0 : Int32)  : gCV (S := Unit) l yX2_clear vc_X2_clear ({ frames := 1, cells := 0, slots := 0, locals := 23 }) (dC, dI) (gTY cI cT cS) sz [.ref h0] [(h0, .inr (1, [.ref tq, .ref hq, .ref dq, .ref rq, .int s0, .int d0, .null])), (hq, .inl (cI, 24, .inl (fun _ => 0))), (dq, .inl (cI, 24, .inl (fun _ => 0))), (rq, .inl (cT, 24, .inr (.inr (.inr (.inr (fun _ => none))))))] (fun u => True) (fun _ => [(h0, .inr (1, [.ref tq, .ref hq, .ref dq, .ref rq, .int 0, .int 0, .null])), (hq, .inl (cI, 24, .inl (fun _ => 0))), (dq, .inl (cI, 24, .inl (fun _ => 0))), (rq, .inl (cT, 24, .inr (.inr (.inr (.inr (fun _ => none))))))]) 0 0 := by
  refine Met.ofW (cc := cX2_clear) (maxL := 2) (ret := none) (by decide) rfl ?_
  intro p e s m args below meth c s₁ B hml hv
  obtain ⟨rfl, hsz, hP, hK, hD0⟩ := hv
  have hx := B.exec
  have hb := B.bytes
  have hr := B.returns
  have hts := atoms_spec (ws := vc_X2_clear) B.pre
  have hown : s.vm.findClass RX2 = some m.cls := findClass_of_methodNamed B.named
  have hlocks := B.notSynchronized
  subst hsz
  have hD := hD0.self (sz := s.heap.size)
  generalize hAe : va_A [(h0, .inr (1, [.ref tq, .ref hq, .ref dq, .ref rq, .int s0, .int d0, .null])), (hq, .inl (cI, 24, .inl (fun _ => 0))), (dq, .inl (cI, 24, .inl (fun _ => 0))), (rq, .inl (cT, 24, .inr (.inr (.inr (.inr (fun _ => none))))))] s.heap.size = A at hD ⊢
  have hA : ∀ q : Nat, s.heap.size ≤ q → A q := fun q h => by rw [← hAe]; exact Or.inr h
  refine gstart (fun H locs hHe hLe => ?_)
  have hS : va_S A s.heap H locs := by rw [← hHe, ← hLe]; exact va_S.rf
  replace hP : va_P (dC, dI) vwCl [(h0, .inr (1, [.ref tq, .ref hq, .ref dq, .ref rq, .int s0, .int d0, .null])), (hq, .inl (cI, 24, .inl (fun _ => 0))), (dq, .inl (cI, 24, .inl (fun _ => 0))), (rq, .inl (cT, 24, .inr (.inr (.inr (.inr (fun _ => none))))))] H := by rw [← hHe]; exact hP
  clear hHe hLe
  have hl := lv_entry ([.ref h0]) (n := 2) (Nat.le_of_ble_eq_true rfl)
  rw [lg_entry_eq]
  generalize (lg_sl ([.ref h0]) ++ List.replicate (2 - (lg_sl ([.ref h0])).length) Slot.unset).toArray = ls at hl ⊢
  replace hl : lv_has ls 2 [(0, .ref h0)] := hl
  refine lv_aload_n hx hb dX2_clear_0 rfl (lv_at hl 0 rfl) ?_
  refine va_get (D := (dC, dI)) (ci := 1) (v := .ref hq) (C := RX2) (T := TX2) (N := 7) hx hb hts iw_c_X2_clear_X2 hown hK.1 hP 0 rfl rfl 1 (by decide) (hts (.fieldLink RX2 17 "TraceTrees$Forest" "heat" "[I") (List.mem_of_getElem? (i := 1) rfl)) (fun _ h9 => h9) rfl dX2_clear_1 ?_
  refine lv_iconst (v := 0) hx hb dX2_clear_4 (by decide) ?_
  refine gcallv (S := Unit) (wc := [(hq, .inl (cI, 24, .inl (fun _ => 0)))]) (wr := [(h0, .inr (1, [.ref tq, .ref hq, .ref dq, .ref rq, .int s0, .int d0, .null])), (dq, .inl (cI, 24, .inl (fun _ => 0))), (rq, .inl (cT, 24, .inr (.inr (.inr (.inr (fun _ => none))))))]) (w1 := fun _ => [(hq, .inl (cI, 24, .inl (fun _ => 0)))]) (va_runS (As := [.ref hq, .int 0]) (rest := []) ⟨hx, hb, hml, hown, hts⟩ (c_J7_fill_53178 l dC dI cI cT cS H.size hq 24 (by first | assumption | decide | omega)) (va_cwS 2 hts (gWS (List.mem_of_getElem? (i := 2) rfl) (List.mem_of_getElem? (i := 3) rfl) (List.mem_of_getElem? (i := 4) rfl) ic_c_X2_clear_c_J7_fill_53178 gd_c_J7_fill_53178) rfl rfl rfl (by decide +kernel) ⟨(Nat.le_of_ble_eq_true rfl), (Nat.le_of_ble_eq_true rfl)⟩) (gpS (hP.sub (ws' := [(hq, .inl (cI, 24, .inl (fun _ => 0)))]) [1] rfl) hK (hD.sub (ws' := [(hq, .inl (cI, 24, .inl (fun _ => 0)))]) [1] (by decide) rfl)) rfl rfl hl.1 rfl (lv_room (Nat.le_of_ble_eq_true rfl)) dX2_clear_5 ⟨(Nat.le_of_ble_eq_true rfl), (Nat.le_of_ble_eq_true rfl)⟩) hP hD hS hA [1] [0, 2, 3] rfl rfl (by decide) (by decide) (fun ur_1 H locs wr_1 hP hD hS => ?_)
  replace hP : va_P (dC, dI) vwCl [(h0, .inr (1, [.ref tq, .ref hq, .ref dq, .ref rq, .int s0, .int d0, .null])), (dq, .inl (cI, 24, .inl (fun _ => 0))), (rq, .inl (cT, 24, .inr (.inr (.inr (.inr (fun _ => none)))))), (hq, .inl (cI, 24, .inl (fun _ => 0)))] H := hP
  replace hD : va_D A [(h0, .inr (1, [.ref tq, .ref hq, .ref dq, .ref rq, .int s0, .int d0, .null])), (dq, .inl (cI, 24, .inl (fun _ => 0))), (rq, .inl (cT, 24, .inr (.inr (.inr (.inr (fun _ => none)))))), (hq, .inl (cI, 24, .inl (fun _ => 0)))] := hD
  refine lv_aload_n hx hb dX2_clear_8 rfl (lv_at hl 0 rfl) ?_
  refine va_get (D := (dC, dI)) (ci := 1) (v := .ref dq) (C := RX2) (T := TX2) (N := 7) hx hb hts iw_c_X2_clear_X2 hown hK.1 hP 0 rfl rfl 2 (by decide) (hts (.fieldLink RX2 21 "TraceTrees$Forest" "drops" "[I") (List.mem_of_getElem? (i := 5) rfl)) (fun _ h9 => h9) rfl dX2_clear_9 ?_
  refine lv_iconst (v := 0) hx hb dX2_clear_12 (by decide) ?_
  refine gcallv (S := Unit) (wc := [(dq, .inl (cI, 24, .inl (fun _ => 0)))]) (wr := [(h0, .inr (1, [.ref tq, .ref hq, .ref dq, .ref rq, .int s0, .int d0, .null])), (rq, .inl (cT, 24, .inr (.inr (.inr (.inr (fun _ => none)))))), (hq, .inl (cI, 24, .inl (fun _ => 0)))]) (w1 := fun _ => [(dq, .inl (cI, 24, .inl (fun _ => 0)))]) (va_runS (As := [.ref dq, .int 0]) (rest := []) ⟨hx, hb, hml, hown, hts⟩ (c_J7_fill_53178 l dC dI cI cT cS H.size dq 24 (by first | assumption | decide | omega)) (va_cwS 2 hts (gWS (List.mem_of_getElem? (i := 2) rfl) (List.mem_of_getElem? (i := 3) rfl) (List.mem_of_getElem? (i := 4) rfl) ic_c_X2_clear_c_J7_fill_53178 gd_c_J7_fill_53178) rfl rfl rfl (by decide +kernel) ⟨(Nat.le_of_ble_eq_true rfl), (Nat.le_of_ble_eq_true rfl)⟩) (gpS (hP.sub (ws' := [(dq, .inl (cI, 24, .inl (fun _ => 0)))]) [1] rfl) hK (hD.sub (ws' := [(dq, .inl (cI, 24, .inl (fun _ => 0)))]) [1] (by decide) rfl)) rfl rfl hl.1 rfl (lv_room (Nat.le_of_ble_eq_true rfl)) dX2_clear_13 ⟨(Nat.le_of_ble_eq_true rfl), (Nat.le_of_ble_eq_true rfl)⟩) hP hD hS hA [1] [0, 2, 3] rfl rfl (by decide) (by decide) (fun ur_2 H locs wr_2 hP hD hS => ?_)
  replace hP : va_P (dC, dI) vwCl [(h0, .inr (1, [.ref tq, .ref hq, .ref dq, .ref rq, .int s0, .int d0, .null])), (rq, .inl (cT, 24, .inr (.inr (.inr (.inr (fun _ => none)))))), (hq, .inl (cI, 24, .inl (fun _ => 0))), (dq, .inl (cI, 24, .inl (fun _ => 0)))] H := hP
  replace hD : va_D A [(h0, .inr (1, [.ref tq, .ref hq, .ref dq, .ref rq, .int s0, .int d0, .null])), (rq, .inl (cT, 24, .inr (.inr (.inr (.inr (fun _ => none)))))), (hq, .inl (cI, 24, .inl (fun _ => 0))), (dq, .inl (cI, 24, .inl (fun _ => 0)))] := hD
  refine lv_iconst (v := 0) hx hb dX2_clear_16 (by decide) ?_
  refine lv_istore_n (lv' := [(1, .int 0), (0, .ref h0)]) hx hb dX2_clear_17 rfl hl (by decide) rfl (fun ls hl => ?_)
  obtain ⟨x3, ex3⟩ : ∃ x : Int32, x = nI 0 := ⟨_, rfl⟩
  replace hl : lv_has ls 2 [(1, .int x3), (0, .ref h0)] := by rw [ex3]; exact hl
  obtain ⟨i3, hi3b, ex3b⟩ : ∃ j : Nat, j ≤ 24 ∧ x3 = nI j := ⟨0, by first | decide | omega, ex3⟩
  clear ex3
  obtain ⟨n3, hn3⟩ : ∃ n : Nat, 24 + 1 ≤ i3 + n := ⟨24 + 1, by omega⟩
  induction n3 generalizing i3 x3  H locs ls with
  | zero => exact absurd hn3 (by omega)
  | succ n3 ih3 =>
    refine lv_iload_n hx hb dX2_clear_18 rfl (lv_at hl 0 rfl) ?_
    refine lv_bipush (v := 24) hx hb dX2_clear_19 (by decide) ?_
    refine lv_icmp_ge (tgt := 37) hx hb dX2_clear_21 (by decide) (fun c_4 => ?_) (fun c_4 => ?_)
    · skip
      have gc_4 : i3 = 24 := g_lx 24 (by first | rfl | decide | assumption) ex3b hi3b (by first | decide | omega) c_4
      subst gc_4
      refine lv_aload_n hx hb dX2_clear_37 rfl (lv_at hl 1 rfl) ?_
      refine lv_iconst (v := 0) hx hb dX2_clear_38 (by decide) ?_
      refine va_put (D := (dC, dI)) (ci := 1) (v := .int 0) (ty := tyX2 4) (C := RX2) (T := TX2) (N := 7) hx hb hts iw_c_X2_clear_X2 tyX2 tyX2_ok nmX2 hown hK.1 hP hD hS 0 rfl rfl 4 (by decide) (hts (.fieldLink RX2 36 "TraceTrees$Forest" "size" "I") (List.mem_of_getElem? (i := 6) rfl)) (fun _ h9 => h9) rfl (tyX2_ok 4 (by decide)) rfl rfl (Nat.le_of_ble_eq_true rfl) dX2_clear_39 (fun H locs hP hD hS => ?_)
      replace hP : va_P (dC, dI) vwCl [(h0, .inr (1, [.ref tq, .ref hq, .ref dq, .ref rq, .int 0, .int d0, .null])), (rq, .inl (cT, 24, .inr (.inr (.inr (.inr (fun _ => none)))))), (hq, .inl (cI, 24, .inl (fun _ => 0))), (dq, .inl (cI, 24, .inl (fun _ => 0)))] H := hP
      replace hD : va_D A [(h0, .inr (1, [.ref tq, .ref hq, .ref dq, .ref rq, .int 0, .int d0, .null])), (rq, .inl (cT, 24, .inr (.inr (.inr (.inr (fun _ => none)))))), (hq, .inl (cI, 24, .inl (fun _ => 0))), (dq, .inl (cI, 24, .inl (fun _ => 0)))] := hD
      refine lv_aload_n hx hb dX2_clear_42 rfl (lv_at hl 1 rfl) ?_
      refine lv_iconst (v := 0) hx hb dX2_clear_43 (by decide) ?_
      refine va_put (D := (dC, dI)) (ci := 1) (v := .int 0) (ty := tyX2 5) (C := RX2) (T := TX2) (N := 7) hx hb hts iw_c_X2_clear_X2 tyX2 tyX2_ok nmX2 hown hK.1 hP hD hS 0 rfl rfl 5 (by decide) (hts (.fieldLink RX2 40 "TraceTrees$Forest" "dropped" "I") (List.mem_of_getElem? (i := 7) rfl)) (fun _ h9 => h9) rfl (tyX2_ok 5 (by decide)) rfl rfl (Nat.le_of_ble_eq_true rfl) dX2_clear_44 (fun H locs hP hD hS => ?_)
      replace hP : va_P (dC, dI) vwCl [(h0, .inr (1, [.ref tq, .ref hq, .ref dq, .ref rq, .int 0, .int 0, .null])), (rq, .inl (cT, 24, .inr (.inr (.inr (.inr (fun _ => none)))))), (hq, .inl (cI, 24, .inl (fun _ => 0))), (dq, .inl (cI, 24, .inl (fun _ => 0)))] H := hP
      replace hD : va_D A [(h0, .inr (1, [.ref tq, .ref hq, .ref dq, .ref rq, .int 0, .int 0, .null])), (rq, .inl (cT, 24, .inr (.inr (.inr (.inr (fun _ => none)))))), (hq, .inl (cI, 24, .inl (fun _ => 0))), (dq, .inl (cI, 24, .inl (fun _ => 0)))] := hD
      refine lv_aload_n hx hb dX2_clear_47 rfl (lv_at hl 1 rfl) ?_
      refine lv_null hx hb dX2_clear_48 ?_
      refine va_put (D := (dC, dI)) (ci := 1) (v := .null) (ty := tyX2 6) (C := RX2) (T := TX2) (N := 7) hx hb hts iw_c_X2_clear_X2 tyX2 tyX2_ok nmX2 hown hK.1 hP hD hS 0 rfl rfl 6 (by decide) (hts (.fieldLink RX2 43 "TraceTrees$Forest" "recording" "LTraceTrees$Trace;") (List.mem_of_getElem? (i := 8) rfl)) (fun _ h9 => h9) rfl (tyX2_ok 6 (by decide)) rfl rfl (Nat.le_of_ble_eq_true rfl) dX2_clear_49 (fun H locs hP hD hS => ?_)
      replace hP : va_P (dC, dI) vwCl [(h0, .inr (1, [.ref tq, .ref hq, .ref dq, .ref rq, .int 0, .int 0, .null])), (rq, .inl (cT, 24, .inr (.inr (.inr (.inr (fun _ => none)))))), (hq, .inl (cI, 24, .inl (fun _ => 0))), (dq, .inl (cI, 24, .inl (fun _ => 0)))] H := hP
      replace hD : va_D A [(h0, .inr (1, [.ref tq, .ref hq, .ref dq, .ref rq, .int 0, .int 0, .null])), (rq, .inl (cT, 24, .inr (.inr (.inr (.inr (fun _ => none)))))), (hq, .inl (cI, 24, .inl (fun _ => 0))), (dq, .inl (cI, 24, .inl (fun _ => 0)))] := hD
      refine W.widen (k := 0) (n := 0) (Nat.le_of_ble_eq_true rfl) (Nat.le_of_ble_eq_true rfl) ?_
      have hP9 := hP.sub (ws' := [(h0, .inr (1, [.ref tq, .ref hq, .ref dq, .ref rq, .int 0, .int 0, .null])), (hq, .inl (cI, 24, .inl (fun _ => 0))), (dq, .inl (cI, 24, .inl (fun _ => 0))), (rq, .inl (cT, 24, .inr (.inr (.inr (.inr (fun _ => none))))))]) [0, 2, 3, 1] rfl
      have hD9 := hD.sub (ws' := [(h0, .inr (1, [.ref tq, .ref hq, .ref dq, .ref rq, .int 0, .int 0, .null])), (hq, .inl (cI, 24, .inl (fun _ => 0))), (dq, .inl (cI, 24, .inl (fun _ => 0))), (rq, .inl (cT, 24, .inr (.inr (.inr (.inr (fun _ => none))))))]) [0, 2, 3, 1] (by decide) rfl
      exact W.vret hx hb hr (fun t ht hW => ⟨⟨(), rfl, trivial, by rw [ht]; exact hP9, hD9⟩, hS.F ht⟩) hS.2.2 dX2_clear_52
    · skip
      have gc_4 : i3 < 24 := g_ln 24 (by first | rfl | decide | assumption) ex3b hi3b (by first | decide | omega) c_4
      refine lv_aload_n hx hb dX2_clear_24 rfl (lv_at hl 1 rfl) ?_
      refine va_get (D := (dC, dI)) (ci := 1) (v := .ref rq) (C := RX2) (T := TX2) (N := 7) hx hb hts iw_c_X2_clear_X2 hown hK.1 hP 0 rfl rfl 3 (by decide) (hts (.fieldLink RX2 24 "TraceTrees$Forest" "root" "[LTraceTrees$Trace;") (List.mem_of_getElem? (i := 9) rfl)) (fun _ h9 => h9) rfl dX2_clear_25 ?_
      refine lv_iload_n hx hb dX2_clear_28 rfl (lv_at hl 0 rfl) ?_
      refine lv_null hx hb dX2_clear_29 ?_
      refine va_astqN hx hb hK.1 hP hD hS 1 1 rfl rfl (by rw [ex3b]; exact vp_in_nI (by omega) (by omega)) dX2_clear_30 (fun H locs hP hD hS => ?_)
      replace hP : va_P (dC, dI) vwCl [(h0, .inr (1, [.ref tq, .ref hq, .ref dq, .ref rq, .int s0, .int d0, .null])), (rq, .inl (cT, 24, .inr (.inr (.inr (.inr (va_up (fun _ => none) x3.toNatClampNeg none)))))), (hq, .inl (cI, 24, .inl (fun _ => 0))), (dq, .inl (cI, 24, .inl (fun _ => 0)))] H := hP
      replace hD : va_D A [(h0, .inr (1, [.ref tq, .ref hq, .ref dq, .ref rq, .int s0, .int d0, .null])), (rq, .inl (cT, 24, .inr (.inr (.inr (.inr (va_up (fun _ => none) x3.toNatClampNeg none)))))), (hq, .inl (cI, 24, .inl (fun _ => 0))), (dq, .inl (cI, 24, .inl (fun _ => 0)))] := hD
      simp only [g_upN] at hP hD
      obtain ⟨x_5, ex_5⟩ : ∃ y : Int32, y = x3 + 1 := ⟨_, rfl⟩
      refine lv_iinc (v := x_5) (lv' := [(1, .int x_5), (0, .ref h0)]) hx hb dX2_clear_31 hl (k := 0) rfl (by rw [ex_5]; rfl) (by decide) rfl (fun ls hl => ?_)
      refine lv_goto (tgt := 18) hx hb dX2_clear_34 (by decide) ?_
      replace hP := hP.sub (ws' := [(h0, .inr (1, [.ref tq, .ref hq, .ref dq, .ref rq, .int s0, .int d0, .null])), (rq, .inl (cT, 24, .inr (.inr (.inr (.inr (fun _ => none)))))), (hq, .inl (cI, 24, .inl (fun _ => 0))), (dq, .inl (cI, 24, .inl (fun _ => 0)))]) [0, 1, 2, 3] rfl
      replace hl := lv_sub (l' := [(1, .int x_5), (0, .ref h0)]) hl [0, 1] rfl
      apply ih3 (i3 := i3 + 1) (x3 := x_5)  (H := H) (locs := locs) (ls := ls) <;> first | with_reducible assumption | omega | exact (by rw [ex_5, ex3b]; exact nI_1 _)
def oc_X2_drop : List Cond := [.fieldLink RX2 43 "TraceTrees$Forest" "recording" "LTraceTrees$Trace;"]
def vc_X2_drop : List Cond := .code yX2_drop cX2_drop 1 none :: (oc_X2_drop ++ (wsX20))
theorem iw_c_X2_drop_X2 : ∀ w ∈ wsX20, w ∈ vc_X2_drop := fun _ h => List.mem_cons_of_mem _ (List.mem_append_right _ (h))
theorem gd_c_X2_drop : (vc_X2_drop).all goodWord = true := by decide +kernel
set_option maxHeartbeats 4000000 in
set_option maxRecDepth 100000 in
theorem c_X2_drop (l : Launch) (dC : Nat → ClassId) (dI : Nat → Nat → Nat) (cI cT cS : ClassId) (sz : Nat) (h0 : Nat) (tq : Nat) (hq : Nat) (dq : Nat) (rq : Nat) (s0 : Int32) (d0 : Int32)  : gCV (S := Unit) l yX2_drop vc_X2_drop ({ frames := 0, cells := 0, slots := 0, locals := 0 }) (dC, dI) (gTY cI cT cS) sz [.ref h0] [(h0, .inr (1, [.ref tq, .ref hq, .ref dq, .ref rq, .int s0, .int d0, .null]))] (fun u => True) (fun _ => [(h0, .inr (1, [.ref tq, .ref hq, .ref dq, .ref rq, .int s0, .int d0, .null]))]) 0 0 := by
  refine Met.ofW (cc := cX2_drop) (maxL := 1) (ret := none) (by decide) rfl ?_
  intro p e s m args below meth c s₁ B hml hv
  obtain ⟨rfl, hsz, hP, hK, hD0⟩ := hv
  have hx := B.exec
  have hb := B.bytes
  have hr := B.returns
  have hts := atoms_spec (ws := vc_X2_drop) B.pre
  have hown : s.vm.findClass RX2 = some m.cls := findClass_of_methodNamed B.named
  have hlocks := B.notSynchronized
  subst hsz
  have hD := hD0.self (sz := s.heap.size)
  generalize hAe : va_A [(h0, .inr (1, [.ref tq, .ref hq, .ref dq, .ref rq, .int s0, .int d0, .null]))] s.heap.size = A at hD ⊢
  have hA : ∀ q : Nat, s.heap.size ≤ q → A q := fun q h => by rw [← hAe]; exact Or.inr h
  refine gstart (fun H locs hHe hLe => ?_)
  have hS : va_S A s.heap H locs := by rw [← hHe, ← hLe]; exact va_S.rf
  replace hP : va_P (dC, dI) vwCl [(h0, .inr (1, [.ref tq, .ref hq, .ref dq, .ref rq, .int s0, .int d0, .null]))] H := by rw [← hHe]; exact hP
  clear hHe hLe
  have hl := lv_entry ([.ref h0]) (n := 1) (Nat.le_of_ble_eq_true rfl)
  rw [lg_entry_eq]
  generalize (lg_sl ([.ref h0]) ++ List.replicate (1 - (lg_sl ([.ref h0])).length) Slot.unset).toArray = ls at hl ⊢
  replace hl : lv_has ls 1 [(0, .ref h0)] := hl
  refine lv_aload_n hx hb dX2_drop_0 rfl (lv_at hl 0 rfl) ?_
  refine va_get (D := (dC, dI)) (ci := 1) (v := .null) (C := RX2) (T := TX2) (N := 7) hx hb hts iw_c_X2_drop_X2 hown hK.1 hP 0 rfl rfl 6 (by decide) (hts (.fieldLink RX2 43 "TraceTrees$Forest" "recording" "LTraceTrees$Trace;") (List.mem_of_getElem? (i := 1) rfl)) (fun _ h9 => h9) rfl dX2_drop_1 ?_
  refine lv_ifnonnullN hx hb dX2_drop_4 ?_
  refine W.widen (k := 0) (n := 0) (Nat.le_of_ble_eq_true rfl) (Nat.le_of_ble_eq_true rfl) ?_
  have hP9 := hP.sub (ws' := [(h0, .inr (1, [.ref tq, .ref hq, .ref dq, .ref rq, .int s0, .int d0, .null]))]) [0] rfl
  have hD9 := hD.sub (ws' := [(h0, .inr (1, [.ref tq, .ref hq, .ref dq, .ref rq, .int s0, .int d0, .null]))]) [0] (by decide) rfl
  exact W.vret hx hb hr (fun t ht hW => ⟨⟨(), rfl, trivial, by rw [ht]; exact hP9, hD9⟩, hS.F ht⟩) hS.2.2 dX2_drop_7
def oc_X4_holds : List Cond := [.fieldLink RX4 24 "TraceTrees$Program" "size" "I"]
def vc_X4_holds : List Cond := .code yX4_holds cX4_holds 2 (some .boolean) :: (oc_X4_holds ++ (wsX40))
theorem iw_c_X4_holds_X4 : ∀ w ∈ wsX40, w ∈ vc_X4_holds := fun _ h => List.mem_cons_of_mem _ (List.mem_append_right _ (h))
theorem gd_c_X4_holds : (vc_X4_holds).all goodWord = true := by decide +kernel
set_option maxHeartbeats 4000000 in
set_option maxRecDepth 100000 in
theorem c_X4_holds (l : Launch) (dC : Nat → ClassId) (dI : Nat → Nat → Nat) (cI cT cS : ClassId) (sz : Nat) (h0 : Nat) (ka : Nat) (aa : Nat) (ba : Nat) (ca : Nat) (sz0 : Int32) (p1 : Int32)  : gCI (S := Unit) l yX4_holds vc_X4_holds ({ frames := 0, cells := 0, slots := 0, locals := 0 }) (dC, dI) (gTY cI cT cS) sz [.ref h0, .int p1] [(h0, .inr (3, [.ref ka, .ref aa, .ref ba, .ref ca, .int sz0]))] (fun r u => r = if 0 ≤ p1.toInt ∧ p1.toInt < sz0.toInt then 1 else 0) (fun _ => [(h0, .inr (3, [.ref ka, .ref aa, .ref ba, .ref ca, .int sz0]))]) 0 0 := by
  refine Met.ofW (cc := cX4_holds) (maxL := 2) (ret := (some .boolean)) (by decide) rfl ?_
  intro p e s m args below meth c s₁ B hml hv
  obtain ⟨rfl, hsz, hP, hK, hD0⟩ := hv
  have hx := B.exec
  have hb := B.bytes
  have hr := B.returns
  have hts := atoms_spec (ws := vc_X4_holds) B.pre
  have hown : s.vm.findClass RX4 = some m.cls := findClass_of_methodNamed B.named
  have hlocks := B.notSynchronized
  subst hsz
  have hD := hD0.self (sz := s.heap.size)
  generalize hAe : va_A [(h0, .inr (3, [.ref ka, .ref aa, .ref ba, .ref ca, .int sz0]))] s.heap.size = A at hD ⊢
  have hA : ∀ q : Nat, s.heap.size ≤ q → A q := fun q h => by rw [← hAe]; exact Or.inr h
  refine gstart (fun H locs hHe hLe => ?_)
  have hS : va_S A s.heap H locs := by rw [← hHe, ← hLe]; exact va_S.rf
  replace hP : va_P (dC, dI) vwCl [(h0, .inr (3, [.ref ka, .ref aa, .ref ba, .ref ca, .int sz0]))] H := by rw [← hHe]; exact hP
  clear hHe hLe
  have hl := lv_entry ([.ref h0, .int p1]) (n := 2) (Nat.le_of_ble_eq_true rfl)
  rw [lg_entry_eq]
  generalize (lg_sl ([.ref h0, .int p1]) ++ List.replicate (2 - (lg_sl ([.ref h0, .int p1])).length) Slot.unset).toArray = ls at hl ⊢
  replace hl : lv_has ls 2 [(0, .ref h0), (1, .int p1)] := hl
  refine lv_iload_n hx hb dX4_holds_0 rfl (lv_at hl 1 rfl) ?_
  refine lv_if_lt (tgt := 16) hx hb dX4_holds_1 (by decide) (fun c_1 => ?_) (fun c_1 => ?_)
  · skip
    refine lv_iconst (v := 0) hx hb dX4_holds_16 (by decide) ?_
    refine W.widen (k := 0) (n := 0) (Nat.le_of_ble_eq_true rfl) (Nat.le_of_ble_eq_true rfl) ?_
    have hP9 := hP.sub (ws' := [(h0, .inr (3, [.ref ka, .ref aa, .ref ba, .ref ca, .int sz0]))]) [0] rfl
    have hD9 := hD.sub (ws' := [(h0, .inr (3, [.ref ka, .ref aa, .ref ba, .ref ca, .int sz0]))]) [0] (by decide) rfl
    exact W.zret (v := 0) hx hb hr rfl (fun t ht hW => ⟨⟨0, (), rfl, (if_neg (by (try simp only [← Int32.toInt_inj, Int32.lt_iff_toInt_lt, Int32.le_iff_toInt_le, ← Int64.toInt_inj, Int64.lt_iff_toInt_lt, Int64.le_iff_toInt_le, Int32.toInt_toInt64, (show (0 : Int32).toInt = 0 from rfl), (show (1 : Int32).toInt = 1 from rfl), (show (0 : Int64).toInt = 0 from rfl)] at c_1); omega)).symm, by rw [ht]; exact hP9, hD9⟩, hS.F ht⟩) hS.2.2 dX4_holds_17
  · skip
    refine lv_iload_n hx hb dX4_holds_4 rfl (lv_at hl 1 rfl) ?_
    refine lv_aload_n hx hb dX4_holds_5 rfl (lv_at hl 0 rfl) ?_
    refine va_get (D := (dC, dI)) (ci := 3) (v := .int sz0) (C := RX4) (T := TX4) (N := 5) hx hb hts iw_c_X4_holds_X4 hown hK.1 hP 0 rfl rfl 4 (by decide) (hts (.fieldLink RX4 24 "TraceTrees$Program" "size" "I") (List.mem_of_getElem? (i := 1) rfl)) (fun _ h9 => h9) rfl dX4_holds_6 ?_
    refine lv_icmp_ge (tgt := 16) hx hb dX4_holds_9 (by decide) (fun c_2 => ?_) (fun c_2 => ?_)
    · skip
      refine lv_iconst (v := 0) hx hb dX4_holds_16 (by decide) ?_
      refine W.widen (k := 0) (n := 0) (Nat.le_of_ble_eq_true rfl) (Nat.le_of_ble_eq_true rfl) ?_
      have hP9 := hP.sub (ws' := [(h0, .inr (3, [.ref ka, .ref aa, .ref ba, .ref ca, .int sz0]))]) [0] rfl
      have hD9 := hD.sub (ws' := [(h0, .inr (3, [.ref ka, .ref aa, .ref ba, .ref ca, .int sz0]))]) [0] (by decide) rfl
      exact W.zret (v := 0) hx hb hr rfl (fun t ht hW => ⟨⟨0, (), rfl, (if_neg (by (try simp only [← Int32.toInt_inj, Int32.lt_iff_toInt_lt, Int32.le_iff_toInt_le, ← Int64.toInt_inj, Int64.lt_iff_toInt_lt, Int64.le_iff_toInt_le, Int32.toInt_toInt64, (show (0 : Int32).toInt = 0 from rfl), (show (1 : Int32).toInt = 1 from rfl), (show (0 : Int64).toInt = 0 from rfl)] at c_1); (try simp only [← Int32.toInt_inj, Int32.lt_iff_toInt_lt, Int32.le_iff_toInt_le, ← Int64.toInt_inj, Int64.lt_iff_toInt_lt, Int64.le_iff_toInt_le, Int32.toInt_toInt64, (show (0 : Int32).toInt = 0 from rfl), (show (1 : Int32).toInt = 1 from rfl), (show (0 : Int64).toInt = 0 from rfl)] at c_2); omega)).symm, by rw [ht]; exact hP9, hD9⟩, hS.F ht⟩) hS.2.2 dX4_holds_17
    · skip
      refine lv_iconst (v := 1) hx hb dX4_holds_12 (by decide) ?_
      refine lv_goto (tgt := 17) hx hb dX4_holds_13 (by decide) ?_
      refine W.widen (k := 0) (n := 0) (Nat.le_of_ble_eq_true rfl) (Nat.le_of_ble_eq_true rfl) ?_
      have hP9 := hP.sub (ws' := [(h0, .inr (3, [.ref ka, .ref aa, .ref ba, .ref ca, .int sz0]))]) [0] rfl
      have hD9 := hD.sub (ws' := [(h0, .inr (3, [.ref ka, .ref aa, .ref ba, .ref ca, .int sz0]))]) [0] (by decide) rfl
      exact W.zret (v := 1) hx hb hr rfl (fun t ht hW => ⟨⟨1, (), rfl, (if_pos (by (try simp only [← Int32.toInt_inj, Int32.lt_iff_toInt_lt, Int32.le_iff_toInt_le, ← Int64.toInt_inj, Int64.lt_iff_toInt_lt, Int64.le_iff_toInt_le, Int32.toInt_toInt64, (show (0 : Int32).toInt = 0 from rfl), (show (1 : Int32).toInt = 1 from rfl), (show (0 : Int64).toInt = 0 from rfl)] at c_1); (try simp only [← Int32.toInt_inj, Int32.lt_iff_toInt_lt, Int32.le_iff_toInt_le, ← Int64.toInt_inj, Int64.lt_iff_toInt_lt, Int64.le_iff_toInt_le, Int32.toInt_toInt64, (show (0 : Int32).toInt = 0 from rfl), (show (1 : Int32).toInt = 1 from rfl), (show (0 : Int64).toInt = 0 from rfl)] at c_2); omega)).symm, by rw [ht]; exact hP9, hD9⟩, hS.F ht⟩) hS.2.2 dX4_holds_17
def oc_X3_moveTo : List Cond := [.fieldLink RX3 67 "TraceTrees$Machine" "point" "I", .fieldLink RX3 32 "TraceTrees$Machine" "program" "LTraceTrees$Program;", .methodLink RX3 83 yX4_holds, .instanceMethod yX4_holds, .selects RX4 yX4_holds yX4_holds, .initialized RX4, .fieldLink RX3 60 "TraceTrees$Machine" "how" "I"]
def vc_X3_moveTo : List Cond := .code yX3_moveTo cX3_moveTo 2 none :: (oc_X3_moveTo ++ (wsX30 ++ (vc_X4_holds)))
theorem iw_c_X3_moveTo_X3 : ∀ w ∈ wsX30, w ∈ vc_X3_moveTo := fun _ h => List.mem_cons_of_mem _ (List.mem_append_right _ (List.mem_append_left _ h))
theorem ic_c_X3_moveTo_c_X4_holds : ∀ w ∈ vc_X4_holds, w ∈ vc_X3_moveTo := fun _ h => List.mem_cons_of_mem _ (List.mem_append_right _ (List.mem_append_right _ (h)))
theorem gd_c_X3_moveTo : (vc_X3_moveTo).all goodWord = true := by decide +kernel
set_option maxHeartbeats 4000000 in
set_option maxRecDepth 100000 in
theorem c_X3_moveTo (l : Launch) (dC : Nat → ClassId) (dI : Nat → Nat → Nat) (cI cT cS : ClassId) (sz : Nat) (h0 : Nat) (pq : Nat) (rq : Nat) (fq : Nat) (eq : Nat) (ka : Nat) (aa : Nat) (ba : Nat) (ca : Nat) (hot0 : Int32) (pt0 : Int32) (how0 : Int32) (st0 : Int32) (co0 : Int32) (ex0 : Int32) (at0 : Int32)  : gCV (S := Unit) l yX3_moveTo vc_X3_moveTo ({ frames := 1, cells := 0, slots := 0, locals := 21 }) (dC, dI) (gTY cI cT cS) sz [.ref h0, .int 0] [(h0, .inr (2, [.ref pq, .ref rq, .ref fq, .ref eq, .int hot0, .int pt0, .int how0, .int st0, .int co0, .int ex0, .null, .int at0])), (pq, .inr (3, [.ref ka, .ref aa, .ref ba, .ref ca, .int 0]))] (fun u => True) (fun _ => [(h0, .inr (2, [.ref pq, .ref rq, .ref fq, .ref eq, .int hot0, .int 0, .int 2, .int st0, .int co0, .int ex0, .null, .int at0])), (pq, .inr (3, [.ref ka, .ref aa, .ref ba, .ref ca, .int 0]))]) 0 0 := by
  refine Met.ofW (cc := cX3_moveTo) (maxL := 2) (ret := none) (by decide) rfl ?_
  intro p e s m args below meth c s₁ B hml hv
  obtain ⟨rfl, hsz, hP, hK, hD0⟩ := hv
  have hx := B.exec
  have hb := B.bytes
  have hr := B.returns
  have hts := atoms_spec (ws := vc_X3_moveTo) B.pre
  have hown : s.vm.findClass RX3 = some m.cls := findClass_of_methodNamed B.named
  have hlocks := B.notSynchronized
  subst hsz
  have hD := hD0.self (sz := s.heap.size)
  generalize hAe : va_A [(h0, .inr (2, [.ref pq, .ref rq, .ref fq, .ref eq, .int hot0, .int pt0, .int how0, .int st0, .int co0, .int ex0, .null, .int at0])), (pq, .inr (3, [.ref ka, .ref aa, .ref ba, .ref ca, .int 0]))] s.heap.size = A at hD ⊢
  have hA : ∀ q : Nat, s.heap.size ≤ q → A q := fun q h => by rw [← hAe]; exact Or.inr h
  refine gstart (fun H locs hHe hLe => ?_)
  have hS : va_S A s.heap H locs := by rw [← hHe, ← hLe]; exact va_S.rf
  replace hP : va_P (dC, dI) vwCl [(h0, .inr (2, [.ref pq, .ref rq, .ref fq, .ref eq, .int hot0, .int pt0, .int how0, .int st0, .int co0, .int ex0, .null, .int at0])), (pq, .inr (3, [.ref ka, .ref aa, .ref ba, .ref ca, .int 0]))] H := by rw [← hHe]; exact hP
  clear hHe hLe
  have hl := lv_entry ([.ref h0, .int 0]) (n := 2) (Nat.le_of_ble_eq_true rfl)
  rw [lg_entry_eq]
  generalize (lg_sl ([.ref h0, .int 0]) ++ List.replicate (2 - (lg_sl ([.ref h0, .int 0])).length) Slot.unset).toArray = ls at hl ⊢
  replace hl : lv_has ls 2 [(0, .ref h0), (1, .int 0)] := hl
  refine lv_aload_n hx hb dX3_moveTo_0 rfl (lv_at hl 0 rfl) ?_
  refine lv_iload_n hx hb dX3_moveTo_1 rfl (lv_at hl 1 rfl) ?_
  refine va_put (D := (dC, dI)) (ci := 2) (v := .int 0) (ty := tyX3 5) (C := RX3) (T := TX3) (N := 12) hx hb hts iw_c_X3_moveTo_X3 tyX3 tyX3_ok nmX3 hown hK.1 hP hD hS 0 rfl rfl 5 (by decide) (hts (.fieldLink RX3 67 "TraceTrees$Machine" "point" "I") (List.mem_of_getElem? (i := 1) rfl)) (fun _ h9 => h9) rfl (tyX3_ok 5 (by decide)) rfl rfl (Nat.le_of_ble_eq_true rfl) dX3_moveTo_2 (fun H locs hP hD hS => ?_)
  replace hP : va_P (dC, dI) vwCl [(h0, .inr (2, [.ref pq, .ref rq, .ref fq, .ref eq, .int hot0, .int 0, .int how0, .int st0, .int co0, .int ex0, .null, .int at0])), (pq, .inr (3, [.ref ka, .ref aa, .ref ba, .ref ca, .int 0]))] H := hP
  replace hD : va_D A [(h0, .inr (2, [.ref pq, .ref rq, .ref fq, .ref eq, .int hot0, .int 0, .int how0, .int st0, .int co0, .int ex0, .null, .int at0])), (pq, .inr (3, [.ref ka, .ref aa, .ref ba, .ref ca, .int 0]))] := hD
  refine lv_aload_n hx hb dX3_moveTo_5 rfl (lv_at hl 0 rfl) ?_
  refine va_get (D := (dC, dI)) (ci := 2) (v := .ref pq) (C := RX3) (T := TX3) (N := 12) hx hb hts iw_c_X3_moveTo_X3 hown hK.1 hP 0 rfl rfl 0 (by decide) (hts (.fieldLink RX3 32 "TraceTrees$Machine" "program" "LTraceTrees$Program;") (List.mem_of_getElem? (i := 2) rfl)) (fun _ h9 => h9) rfl dX3_moveTo_6 ?_
  refine lv_iload_n hx hb dX3_moveTo_9 rfl (lv_at hl 1 rfl) ?_
  refine gcalli (S := Unit) (wc := [(pq, .inr (3, [.ref ka, .ref aa, .ref ba, .ref ca, .int 0]))]) (wr := [(h0, .inr (2, [.ref pq, .ref rq, .ref fq, .ref eq, .int hot0, .int 0, .int how0, .int st0, .int co0, .int ex0, .null, .int at0]))]) (w1 := fun _ => [(pq, .inr (3, [.ref ka, .ref aa, .ref ba, .ref ca, .int 0]))]) (va_runV (As := [.int 0]) (rest := []) ⟨hx, hb, hml, hown, hts⟩ (c_X4_holds l dC dI cI cT cS H.size pq ka aa ba ca 0 0 ) (cwV 1 hts (gWV (List.mem_of_getElem? (i := 3) rfl) (List.mem_of_getElem? (i := 4) rfl) (List.mem_of_getElem? (i := 5) rfl) (List.mem_of_getElem? (i := 6) rfl) ic_c_X3_moveTo_c_X4_holds gd_c_X4_holds) rfl rfl rfl (by decide +kernel) ⟨(Nat.le_of_ble_eq_true rfl), (Nat.le_of_ble_eq_true rfl)⟩) (gpV 0 3 (hP.sub (ws' := [(pq, .inr (3, [.ref ka, .ref aa, .ref ba, .ref ca, .int 0]))]) [1] rfl) hK (hD.sub (ws' := [(pq, .inr (3, [.ref ka, .ref aa, .ref ba, .ref ca, .int 0]))]) [1] (by decide) rfl) rfl rfl) rfl rfl hl.1 rfl (lv_room (Nat.le_of_ble_eq_true rfl)) dX3_moveTo_10 ⟨(Nat.le_of_ble_eq_true rfl), (Nat.le_of_ble_eq_true rfl)⟩) hP hD hS hA [1] [0] rfl rfl (by decide) (by decide) (fun r_1 ur_1 H locs wr_1 hP hD hS => ?_)
  replace hP : va_P (dC, dI) vwCl [(h0, .inr (2, [.ref pq, .ref rq, .ref fq, .ref eq, .int hot0, .int 0, .int how0, .int st0, .int co0, .int ex0, .null, .int at0])), (pq, .inr (3, [.ref ka, .ref aa, .ref ba, .ref ca, .int 0]))] H := hP
  replace hD : va_D A [(h0, .inr (2, [.ref pq, .ref rq, .ref fq, .ref eq, .int hot0, .int 0, .int how0, .int st0, .int co0, .int ex0, .null, .int at0])), (pq, .inr (3, [.ref ka, .ref aa, .ref ba, .ref ca, .int 0]))] := hD
  obtain rfl : r_1 = 0 := (by have h0 := wr_1; exact h0.trans (if_neg (by rw [show ((0 : Int32)).toInt = 0 from rfl]; omega)))
  refine lv_if_ne (tgt := 21) hx hb dX3_moveTo_13 (by decide) (fun c_2 => ?_) (fun c_2 => ?_)
  · skip
    exact absurd c_2 (by decide)
  · skip
    refine lv_aload_n hx hb dX3_moveTo_16 rfl (lv_at hl 0 rfl) ?_
    refine lv_iconst (v := 2) hx hb dX3_moveTo_17 (by decide) ?_
    refine va_put (D := (dC, dI)) (ci := 2) (v := .int 2) (ty := tyX3 6) (C := RX3) (T := TX3) (N := 12) hx hb hts iw_c_X3_moveTo_X3 tyX3 tyX3_ok nmX3 hown hK.1 hP hD hS 0 rfl rfl 6 (by decide) (hts (.fieldLink RX3 60 "TraceTrees$Machine" "how" "I") (List.mem_of_getElem? (i := 7) rfl)) (fun _ h9 => h9) rfl (tyX3_ok 6 (by decide)) rfl rfl (Nat.le_of_ble_eq_true rfl) dX3_moveTo_18 (fun H locs hP hD hS => ?_)
    replace hP : va_P (dC, dI) vwCl [(h0, .inr (2, [.ref pq, .ref rq, .ref fq, .ref eq, .int hot0, .int 0, .int 2, .int st0, .int co0, .int ex0, .null, .int at0])), (pq, .inr (3, [.ref ka, .ref aa, .ref ba, .ref ca, .int 0]))] H := hP
    replace hD : va_D A [(h0, .inr (2, [.ref pq, .ref rq, .ref fq, .ref eq, .int hot0, .int 0, .int 2, .int st0, .int co0, .int ex0, .null, .int at0])), (pq, .inr (3, [.ref ka, .ref aa, .ref ba, .ref ca, .int 0]))] := hD
    refine W.widen (k := 0) (n := 0) (Nat.le_of_ble_eq_true rfl) (Nat.le_of_ble_eq_true rfl) ?_
    have hP9 := hP.sub (ws' := [(h0, .inr (2, [.ref pq, .ref rq, .ref fq, .ref eq, .int hot0, .int 0, .int 2, .int st0, .int co0, .int ex0, .null, .int at0])), (pq, .inr (3, [.ref ka, .ref aa, .ref ba, .ref ca, .int 0]))]) [0, 1] rfl
    have hD9 := hD.sub (ws' := [(h0, .inr (2, [.ref pq, .ref rq, .ref fq, .ref eq, .int hot0, .int 0, .int 2, .int st0, .int co0, .int ex0, .null, .int at0])), (pq, .inr (3, [.ref ka, .ref aa, .ref ba, .ref ca, .int 0]))]) [0, 1] (by decide) rfl
    exact W.vret hx hb hr (fun t ht hW => ⟨⟨(), rfl, trivial, by rw [ht]; exact hP9, hD9⟩, hS.F ht⟩) hS.2.2 dX3_moveTo_21
def oc_X3_go : List Cond := [.fieldLink RX3 21 "TraceTrees$Machine" "forest" "LTraceTrees$Forest;", .methodLink RX3 36 yX2_clear, .instanceMethod yX2_clear, .selects RX2 yX2_clear yX2_clear, .initialized RX2, .fieldLink RX3 12 "TraceTrees$Machine" "registers" "LTraceTrees$Registers;", .methodLink RX3 39 yX5_become, .instanceMethod yX5_become, .selects RX5 yX5_become yX5_become, .initialized RX5, .fieldLink RX3 43 "TraceTrees$Machine" "hot" "I", .fieldLink RX3 47 "TraceTrees$Machine" "steps" "I", .fieldLink RX3 50 "TraceTrees$Machine" "compiled" "I", .fieldLink RX3 53 "TraceTrees$Machine" "exits" "I", .fieldLink RX3 56 "TraceTrees$Machine" "current" "LTraceTrees$Trace;", .fieldLink RX3 60 "TraceTrees$Machine" "how" "I", .methodLink RX3 63 yX3_moveTo, .instanceMethod yX3_moveTo, .selects RX3 yX3_moveTo yX3_moveTo, .initialized RX3, .methodLink RX3 80 yX2_drop, .instanceMethod yX2_drop, .selects RX2 yX2_drop yX2_drop]
def vc_X3_go : List Cond := .code yX3_go cX3_go 5 none :: (oc_X3_go ++ (wsX30 ++ (vc_X2_clear ++ (vc_X5_become ++ (vc_X3_moveTo ++ (vc_X2_drop))))))
theorem iw_c_X3_go_X3 : ∀ w ∈ wsX30, w ∈ vc_X3_go := fun _ h => List.mem_cons_of_mem _ (List.mem_append_right _ (List.mem_append_left _ h))
theorem ic_c_X3_go_c_X2_clear : ∀ w ∈ vc_X2_clear, w ∈ vc_X3_go := fun _ h => List.mem_cons_of_mem _ (List.mem_append_right _ (List.mem_append_right _ (List.mem_append_left _ h)))
theorem ic_c_X3_go_c_X5_become : ∀ w ∈ vc_X5_become, w ∈ vc_X3_go := fun _ h => List.mem_cons_of_mem _ (List.mem_append_right _ (List.mem_append_right _ (List.mem_append_right _ (List.mem_append_left _ h))))
theorem ic_c_X3_go_c_X3_moveTo : ∀ w ∈ vc_X3_moveTo, w ∈ vc_X3_go := fun _ h => List.mem_cons_of_mem _ (List.mem_append_right _ (List.mem_append_right _ (List.mem_append_right _ (List.mem_append_right _ (List.mem_append_left _ h)))))
theorem ic_c_X3_go_c_X2_drop : ∀ w ∈ vc_X2_drop, w ∈ vc_X3_go := fun _ h => List.mem_cons_of_mem _ (List.mem_append_right _ (List.mem_append_right _ (List.mem_append_right _ (List.mem_append_right _ (List.mem_append_right _ (h))))))
theorem gd_c_X3_go : (vc_X3_go).all goodWord = true := by decide +kernel
set_option maxHeartbeats 4000000 in
set_option maxRecDepth 100000 in
theorem c_X3_go (l : Launch) (dC : Nat → ClassId) (dI : Nat → Nat → Nat) (cI cT cS : ClassId) (sz : Nat) (h0 : Nat) (h1 : Nat) (pq : Nat) (rq : Nat) (fq : Nat) (eq : Nat) (ka : Nat) (aa : Nat) (ba : Nat) (ca : Nat) (r1 : Nat) (r2 : Nat) (tq : Nat) (hq : Nat) (dq : Nat) (oq : Nat) (l1 : Nat) (l2 : Nat) (hot0 : Int32) (pt0 : Int32) (how0 : Int32) (st0 : Int32) (co0 : Int32) (ex0 : Int32) (at0 : Int32) (s0 : Int32) (d0 : Int32) (p2 : Int32) (p3 : Int32)  : gCV (S := Unit) l yX3_go vc_X3_go ({ frames := 2, cells := 0, slots := 0, locals := 45 }) (dC, dI) (gTY cI cT cS) sz [.ref h0, .ref h1, .int p2, .int p3] [(h0, .inr (2, [.ref pq, .ref rq, .ref fq, .ref eq, .int hot0, .int pt0, .int how0, .int st0, .int co0, .int ex0, .null, .int at0])), (pq, .inr (3, [.ref ka, .ref aa, .ref ba, .ref ca, .int 0])), (rq, .inr (4, [.ref r1, .ref r2])), (r1, .inl (cI, 8, .inl (fun _ => 0))), (r2, .inl (cI, 8, .inl (fun _ => 0))), (fq, .inr (1, [.ref tq, .ref hq, .ref dq, .ref oq, .int s0, .int d0, .null])), (hq, .inl (cI, 24, .inl (fun _ => 0))), (dq, .inl (cI, 24, .inl (fun _ => 0))), (oq, .inl (cT, 24, .inr (.inr (.inr (.inr (fun _ => none)))))), (h1, .inr (4, [.ref l1, .ref l2])), (l1, .inl (cI, 8, .inl (fun _ => 0))), (l2, .inl (cI, 8, .inl (fun _ => 0)))] (fun u => True) (fun _ => [(h0, .inr (2, [.ref pq, .ref rq, .ref fq, .ref eq, .int p3, .int 0, .int 2, .int 0, .int 0, .int 0, .null, .int at0])), (pq, .inr (3, [.ref ka, .ref aa, .ref ba, .ref ca, .int 0])), (rq, .inr (4, [.ref r1, .ref r2])), (r1, .inl (cI, 8, .inl (fun _ => 0))), (r2, .inl (cI, 8, .inl (fun _ => 0))), (fq, .inr (1, [.ref tq, .ref hq, .ref dq, .ref oq, .int 0, .int 0, .null])), (hq, .inl (cI, 24, .inl (fun _ => 0))), (dq, .inl (cI, 24, .inl (fun _ => 0))), (oq, .inl (cT, 24, .inr (.inr (.inr (.inr (fun _ => none)))))), (h1, .inr (4, [.ref l1, .ref l2])), (l1, .inl (cI, 8, .inl (fun _ => 0))), (l2, .inl (cI, 8, .inl (fun _ => 0)))]) 0 0 := by
  refine Met.ofW (cc := cX3_go) (maxL := 5) (ret := none) (by decide) rfl ?_
  intro p e s m args below meth c s₁ B hml hv
  obtain ⟨rfl, hsz, hP, hK, hD0⟩ := hv
  have hx := B.exec
  have hb := B.bytes
  have hr := B.returns
  have hts := atoms_spec (ws := vc_X3_go) B.pre
  have hown : s.vm.findClass RX3 = some m.cls := findClass_of_methodNamed B.named
  have hlocks := B.notSynchronized
  subst hsz
  have hD := hD0.self (sz := s.heap.size)
  generalize hAe : va_A [(h0, .inr (2, [.ref pq, .ref rq, .ref fq, .ref eq, .int hot0, .int pt0, .int how0, .int st0, .int co0, .int ex0, .null, .int at0])), (pq, .inr (3, [.ref ka, .ref aa, .ref ba, .ref ca, .int 0])), (rq, .inr (4, [.ref r1, .ref r2])), (r1, .inl (cI, 8, .inl (fun _ => 0))), (r2, .inl (cI, 8, .inl (fun _ => 0))), (fq, .inr (1, [.ref tq, .ref hq, .ref dq, .ref oq, .int s0, .int d0, .null])), (hq, .inl (cI, 24, .inl (fun _ => 0))), (dq, .inl (cI, 24, .inl (fun _ => 0))), (oq, .inl (cT, 24, .inr (.inr (.inr (.inr (fun _ => none)))))), (h1, .inr (4, [.ref l1, .ref l2])), (l1, .inl (cI, 8, .inl (fun _ => 0))), (l2, .inl (cI, 8, .inl (fun _ => 0)))] s.heap.size = A at hD ⊢
  have hA : ∀ q : Nat, s.heap.size ≤ q → A q := fun q h => by rw [← hAe]; exact Or.inr h
  refine gstart (fun H locs hHe hLe => ?_)
  have hS : va_S A s.heap H locs := by rw [← hHe, ← hLe]; exact va_S.rf
  replace hP : va_P (dC, dI) vwCl [(h0, .inr (2, [.ref pq, .ref rq, .ref fq, .ref eq, .int hot0, .int pt0, .int how0, .int st0, .int co0, .int ex0, .null, .int at0])), (pq, .inr (3, [.ref ka, .ref aa, .ref ba, .ref ca, .int 0])), (rq, .inr (4, [.ref r1, .ref r2])), (r1, .inl (cI, 8, .inl (fun _ => 0))), (r2, .inl (cI, 8, .inl (fun _ => 0))), (fq, .inr (1, [.ref tq, .ref hq, .ref dq, .ref oq, .int s0, .int d0, .null])), (hq, .inl (cI, 24, .inl (fun _ => 0))), (dq, .inl (cI, 24, .inl (fun _ => 0))), (oq, .inl (cT, 24, .inr (.inr (.inr (.inr (fun _ => none)))))), (h1, .inr (4, [.ref l1, .ref l2])), (l1, .inl (cI, 8, .inl (fun _ => 0))), (l2, .inl (cI, 8, .inl (fun _ => 0)))] H := by rw [← hHe]; exact hP
  clear hHe hLe
  have hl := lv_entry ([.ref h0, .ref h1, .int p2, .int p3]) (n := 5) (Nat.le_of_ble_eq_true rfl)
  rw [lg_entry_eq]
  generalize (lg_sl ([.ref h0, .ref h1, .int p2, .int p3]) ++ List.replicate (5 - (lg_sl ([.ref h0, .ref h1, .int p2, .int p3])).length) Slot.unset).toArray = ls at hl ⊢
  replace hl : lv_has ls 5 [(0, .ref h0), (1, .ref h1), (2, .int p2), (3, .int p3)] := hl
  refine lv_aload_n hx hb dX3_go_0 rfl (lv_at hl 0 rfl) ?_
  refine va_get (D := (dC, dI)) (ci := 2) (v := .ref fq) (C := RX3) (T := TX3) (N := 12) hx hb hts iw_c_X3_go_X3 hown hK.1 hP 0 rfl rfl 2 (by decide) (hts (.fieldLink RX3 21 "TraceTrees$Machine" "forest" "LTraceTrees$Forest;") (List.mem_of_getElem? (i := 1) rfl)) (fun _ h9 => h9) rfl dX3_go_1 ?_
  refine gcallv (S := Unit) (wc := [(fq, .inr (1, [.ref tq, .ref hq, .ref dq, .ref oq, .int s0, .int d0, .null])), (hq, .inl (cI, 24, .inl (fun _ => 0))), (dq, .inl (cI, 24, .inl (fun _ => 0))), (oq, .inl (cT, 24, .inr (.inr (.inr (.inr (fun _ => none))))))]) (wr := [(h0, .inr (2, [.ref pq, .ref rq, .ref fq, .ref eq, .int hot0, .int pt0, .int how0, .int st0, .int co0, .int ex0, .null, .int at0])), (pq, .inr (3, [.ref ka, .ref aa, .ref ba, .ref ca, .int 0])), (rq, .inr (4, [.ref r1, .ref r2])), (r1, .inl (cI, 8, .inl (fun _ => 0))), (r2, .inl (cI, 8, .inl (fun _ => 0))), (h1, .inr (4, [.ref l1, .ref l2])), (l1, .inl (cI, 8, .inl (fun _ => 0))), (l2, .inl (cI, 8, .inl (fun _ => 0)))]) (w1 := fun _ => [(fq, .inr (1, [.ref tq, .ref hq, .ref dq, .ref oq, .int 0, .int 0, .null])), (hq, .inl (cI, 24, .inl (fun _ => 0))), (dq, .inl (cI, 24, .inl (fun _ => 0))), (oq, .inl (cT, 24, .inr (.inr (.inr (.inr (fun _ => none))))))]) (va_runV (As := []) (rest := []) ⟨hx, hb, hml, hown, hts⟩ (c_X2_clear l dC dI cI cT cS H.size fq tq hq dq oq s0 d0 ) (cwV 0 hts (gWV (List.mem_of_getElem? (i := 2) rfl) (List.mem_of_getElem? (i := 3) rfl) (List.mem_of_getElem? (i := 4) rfl) (List.mem_of_getElem? (i := 5) rfl) ic_c_X3_go_c_X2_clear gd_c_X2_clear) rfl rfl rfl (by decide +kernel) ⟨(Nat.le_of_ble_eq_true rfl), (Nat.le_of_ble_eq_true rfl)⟩) (gpV 0 1 (hP.sub (ws' := [(fq, .inr (1, [.ref tq, .ref hq, .ref dq, .ref oq, .int s0, .int d0, .null])), (hq, .inl (cI, 24, .inl (fun _ => 0))), (dq, .inl (cI, 24, .inl (fun _ => 0))), (oq, .inl (cT, 24, .inr (.inr (.inr (.inr (fun _ => none))))))]) [5, 6, 7, 8] rfl) hK (hD.sub (ws' := [(fq, .inr (1, [.ref tq, .ref hq, .ref dq, .ref oq, .int s0, .int d0, .null])), (hq, .inl (cI, 24, .inl (fun _ => 0))), (dq, .inl (cI, 24, .inl (fun _ => 0))), (oq, .inl (cT, 24, .inr (.inr (.inr (.inr (fun _ => none))))))]) [5, 6, 7, 8] (by decide) rfl) rfl rfl) rfl rfl hl.1 rfl (lv_room (Nat.le_of_ble_eq_true rfl)) dX3_go_4 ⟨(Nat.le_of_ble_eq_true rfl), (Nat.le_of_ble_eq_true rfl)⟩) hP hD hS hA [5, 6, 7, 8] [0, 1, 2, 3, 4, 9, 10, 11] rfl rfl (by decide) (by decide) (fun ur_1 H locs wr_1 hP hD hS => ?_)
  replace hP : va_P (dC, dI) vwCl [(h0, .inr (2, [.ref pq, .ref rq, .ref fq, .ref eq, .int hot0, .int pt0, .int how0, .int st0, .int co0, .int ex0, .null, .int at0])), (pq, .inr (3, [.ref ka, .ref aa, .ref ba, .ref ca, .int 0])), (rq, .inr (4, [.ref r1, .ref r2])), (r1, .inl (cI, 8, .inl (fun _ => 0))), (r2, .inl (cI, 8, .inl (fun _ => 0))), (h1, .inr (4, [.ref l1, .ref l2])), (l1, .inl (cI, 8, .inl (fun _ => 0))), (l2, .inl (cI, 8, .inl (fun _ => 0))), (fq, .inr (1, [.ref tq, .ref hq, .ref dq, .ref oq, .int 0, .int 0, .null])), (hq, .inl (cI, 24, .inl (fun _ => 0))), (dq, .inl (cI, 24, .inl (fun _ => 0))), (oq, .inl (cT, 24, .inr (.inr (.inr (.inr (fun _ => none))))))] H := hP
  replace hD : va_D A [(h0, .inr (2, [.ref pq, .ref rq, .ref fq, .ref eq, .int hot0, .int pt0, .int how0, .int st0, .int co0, .int ex0, .null, .int at0])), (pq, .inr (3, [.ref ka, .ref aa, .ref ba, .ref ca, .int 0])), (rq, .inr (4, [.ref r1, .ref r2])), (r1, .inl (cI, 8, .inl (fun _ => 0))), (r2, .inl (cI, 8, .inl (fun _ => 0))), (h1, .inr (4, [.ref l1, .ref l2])), (l1, .inl (cI, 8, .inl (fun _ => 0))), (l2, .inl (cI, 8, .inl (fun _ => 0))), (fq, .inr (1, [.ref tq, .ref hq, .ref dq, .ref oq, .int 0, .int 0, .null])), (hq, .inl (cI, 24, .inl (fun _ => 0))), (dq, .inl (cI, 24, .inl (fun _ => 0))), (oq, .inl (cT, 24, .inr (.inr (.inr (.inr (fun _ => none))))))] := hD
  refine lv_aload_n hx hb dX3_go_7 rfl (lv_at hl 0 rfl) ?_
  refine va_get (D := (dC, dI)) (ci := 2) (v := .ref rq) (C := RX3) (T := TX3) (N := 12) hx hb hts iw_c_X3_go_X3 hown hK.1 hP 0 rfl rfl 1 (by decide) (hts (.fieldLink RX3 12 "TraceTrees$Machine" "registers" "LTraceTrees$Registers;") (List.mem_of_getElem? (i := 6) rfl)) (fun _ h9 => h9) rfl dX3_go_8 ?_
  refine lv_aload_n hx hb dX3_go_11 rfl (lv_at hl 1 rfl) ?_
  refine gcallv (S := Unit) (wc := [(rq, .inr (4, [.ref r1, .ref r2])), (r1, .inl (cI, 8, .inl (fun _ => 0))), (r2, .inl (cI, 8, .inl (fun _ => 0))), (h1, .inr (4, [.ref l1, .ref l2])), (l1, .inl (cI, 8, .inl (fun _ => 0))), (l2, .inl (cI, 8, .inl (fun _ => 0)))]) (wr := [(h0, .inr (2, [.ref pq, .ref rq, .ref fq, .ref eq, .int hot0, .int pt0, .int how0, .int st0, .int co0, .int ex0, .null, .int at0])), (pq, .inr (3, [.ref ka, .ref aa, .ref ba, .ref ca, .int 0])), (fq, .inr (1, [.ref tq, .ref hq, .ref dq, .ref oq, .int 0, .int 0, .null])), (hq, .inl (cI, 24, .inl (fun _ => 0))), (dq, .inl (cI, 24, .inl (fun _ => 0))), (oq, .inl (cT, 24, .inr (.inr (.inr (.inr (fun _ => none))))))]) (w1 := fun _ => [(rq, .inr (4, [.ref r1, .ref r2])), (r1, .inl (cI, 8, .inl (fun _ => 0))), (r2, .inl (cI, 8, .inl (fun _ => 0))), (h1, .inr (4, [.ref l1, .ref l2])), (l1, .inl (cI, 8, .inl (fun _ => 0))), (l2, .inl (cI, 8, .inl (fun _ => 0)))]) (va_runV (As := [.ref h1]) (rest := []) ⟨hx, hb, hml, hown, hts⟩ (c_X5_become l dC dI cI cT cS H.size rq h1 r1 r2 l1 l2 ) (cwV 1 hts (gWV (List.mem_of_getElem? (i := 7) rfl) (List.mem_of_getElem? (i := 8) rfl) (List.mem_of_getElem? (i := 9) rfl) (List.mem_of_getElem? (i := 10) rfl) ic_c_X3_go_c_X5_become gd_c_X5_become) rfl rfl rfl (by decide +kernel) ⟨(Nat.le_of_ble_eq_true rfl), (Nat.le_of_ble_eq_true rfl)⟩) (gpV 0 4 (hP.sub (ws' := [(rq, .inr (4, [.ref r1, .ref r2])), (r1, .inl (cI, 8, .inl (fun _ => 0))), (r2, .inl (cI, 8, .inl (fun _ => 0))), (h1, .inr (4, [.ref l1, .ref l2])), (l1, .inl (cI, 8, .inl (fun _ => 0))), (l2, .inl (cI, 8, .inl (fun _ => 0)))]) [2, 3, 4, 5, 6, 7] rfl) hK (hD.sub (ws' := [(rq, .inr (4, [.ref r1, .ref r2])), (r1, .inl (cI, 8, .inl (fun _ => 0))), (r2, .inl (cI, 8, .inl (fun _ => 0))), (h1, .inr (4, [.ref l1, .ref l2])), (l1, .inl (cI, 8, .inl (fun _ => 0))), (l2, .inl (cI, 8, .inl (fun _ => 0)))]) [2, 3, 4, 5, 6, 7] (by decide) rfl) rfl rfl) rfl rfl hl.1 rfl (lv_room (Nat.le_of_ble_eq_true rfl)) dX3_go_12 ⟨(Nat.le_of_ble_eq_true rfl), (Nat.le_of_ble_eq_true rfl)⟩) hP hD hS hA [2, 3, 4, 5, 6, 7] [0, 1, 8, 9, 10, 11] rfl rfl (by decide) (by decide) (fun ur_2 H locs wr_2 hP hD hS => ?_)
  replace hP : va_P (dC, dI) vwCl [(h0, .inr (2, [.ref pq, .ref rq, .ref fq, .ref eq, .int hot0, .int pt0, .int how0, .int st0, .int co0, .int ex0, .null, .int at0])), (pq, .inr (3, [.ref ka, .ref aa, .ref ba, .ref ca, .int 0])), (fq, .inr (1, [.ref tq, .ref hq, .ref dq, .ref oq, .int 0, .int 0, .null])), (hq, .inl (cI, 24, .inl (fun _ => 0))), (dq, .inl (cI, 24, .inl (fun _ => 0))), (oq, .inl (cT, 24, .inr (.inr (.inr (.inr (fun _ => none)))))), (rq, .inr (4, [.ref r1, .ref r2])), (r1, .inl (cI, 8, .inl (fun _ => 0))), (r2, .inl (cI, 8, .inl (fun _ => 0))), (h1, .inr (4, [.ref l1, .ref l2])), (l1, .inl (cI, 8, .inl (fun _ => 0))), (l2, .inl (cI, 8, .inl (fun _ => 0)))] H := hP
  replace hD : va_D A [(h0, .inr (2, [.ref pq, .ref rq, .ref fq, .ref eq, .int hot0, .int pt0, .int how0, .int st0, .int co0, .int ex0, .null, .int at0])), (pq, .inr (3, [.ref ka, .ref aa, .ref ba, .ref ca, .int 0])), (fq, .inr (1, [.ref tq, .ref hq, .ref dq, .ref oq, .int 0, .int 0, .null])), (hq, .inl (cI, 24, .inl (fun _ => 0))), (dq, .inl (cI, 24, .inl (fun _ => 0))), (oq, .inl (cT, 24, .inr (.inr (.inr (.inr (fun _ => none)))))), (rq, .inr (4, [.ref r1, .ref r2])), (r1, .inl (cI, 8, .inl (fun _ => 0))), (r2, .inl (cI, 8, .inl (fun _ => 0))), (h1, .inr (4, [.ref l1, .ref l2])), (l1, .inl (cI, 8, .inl (fun _ => 0))), (l2, .inl (cI, 8, .inl (fun _ => 0)))] := hD
  refine lv_aload_n hx hb dX3_go_15 rfl (lv_at hl 0 rfl) ?_
  refine lv_iload_n hx hb dX3_go_16 rfl (lv_at hl 3 rfl) ?_
  refine va_put (D := (dC, dI)) (ci := 2) (v := .int p3) (ty := tyX3 4) (C := RX3) (T := TX3) (N := 12) hx hb hts iw_c_X3_go_X3 tyX3 tyX3_ok nmX3 hown hK.1 hP hD hS 0 rfl rfl 4 (by decide) (hts (.fieldLink RX3 43 "TraceTrees$Machine" "hot" "I") (List.mem_of_getElem? (i := 11) rfl)) (fun _ h9 => h9) rfl (tyX3_ok 4 (by decide)) rfl rfl (Nat.le_of_ble_eq_true rfl) dX3_go_17 (fun H locs hP hD hS => ?_)
  replace hP : va_P (dC, dI) vwCl [(h0, .inr (2, [.ref pq, .ref rq, .ref fq, .ref eq, .int p3, .int pt0, .int how0, .int st0, .int co0, .int ex0, .null, .int at0])), (pq, .inr (3, [.ref ka, .ref aa, .ref ba, .ref ca, .int 0])), (fq, .inr (1, [.ref tq, .ref hq, .ref dq, .ref oq, .int 0, .int 0, .null])), (hq, .inl (cI, 24, .inl (fun _ => 0))), (dq, .inl (cI, 24, .inl (fun _ => 0))), (oq, .inl (cT, 24, .inr (.inr (.inr (.inr (fun _ => none)))))), (rq, .inr (4, [.ref r1, .ref r2])), (r1, .inl (cI, 8, .inl (fun _ => 0))), (r2, .inl (cI, 8, .inl (fun _ => 0))), (h1, .inr (4, [.ref l1, .ref l2])), (l1, .inl (cI, 8, .inl (fun _ => 0))), (l2, .inl (cI, 8, .inl (fun _ => 0)))] H := hP
  replace hD : va_D A [(h0, .inr (2, [.ref pq, .ref rq, .ref fq, .ref eq, .int p3, .int pt0, .int how0, .int st0, .int co0, .int ex0, .null, .int at0])), (pq, .inr (3, [.ref ka, .ref aa, .ref ba, .ref ca, .int 0])), (fq, .inr (1, [.ref tq, .ref hq, .ref dq, .ref oq, .int 0, .int 0, .null])), (hq, .inl (cI, 24, .inl (fun _ => 0))), (dq, .inl (cI, 24, .inl (fun _ => 0))), (oq, .inl (cT, 24, .inr (.inr (.inr (.inr (fun _ => none)))))), (rq, .inr (4, [.ref r1, .ref r2])), (r1, .inl (cI, 8, .inl (fun _ => 0))), (r2, .inl (cI, 8, .inl (fun _ => 0))), (h1, .inr (4, [.ref l1, .ref l2])), (l1, .inl (cI, 8, .inl (fun _ => 0))), (l2, .inl (cI, 8, .inl (fun _ => 0)))] := hD
  refine lv_aload_n hx hb dX3_go_20 rfl (lv_at hl 0 rfl) ?_
  refine lv_iconst (v := 0) hx hb dX3_go_21 (by decide) ?_
  refine va_put (D := (dC, dI)) (ci := 2) (v := .int 0) (ty := tyX3 7) (C := RX3) (T := TX3) (N := 12) hx hb hts iw_c_X3_go_X3 tyX3 tyX3_ok nmX3 hown hK.1 hP hD hS 0 rfl rfl 7 (by decide) (hts (.fieldLink RX3 47 "TraceTrees$Machine" "steps" "I") (List.mem_of_getElem? (i := 12) rfl)) (fun _ h9 => h9) rfl (tyX3_ok 7 (by decide)) rfl rfl (Nat.le_of_ble_eq_true rfl) dX3_go_22 (fun H locs hP hD hS => ?_)
  replace hP : va_P (dC, dI) vwCl [(h0, .inr (2, [.ref pq, .ref rq, .ref fq, .ref eq, .int p3, .int pt0, .int how0, .int 0, .int co0, .int ex0, .null, .int at0])), (pq, .inr (3, [.ref ka, .ref aa, .ref ba, .ref ca, .int 0])), (fq, .inr (1, [.ref tq, .ref hq, .ref dq, .ref oq, .int 0, .int 0, .null])), (hq, .inl (cI, 24, .inl (fun _ => 0))), (dq, .inl (cI, 24, .inl (fun _ => 0))), (oq, .inl (cT, 24, .inr (.inr (.inr (.inr (fun _ => none)))))), (rq, .inr (4, [.ref r1, .ref r2])), (r1, .inl (cI, 8, .inl (fun _ => 0))), (r2, .inl (cI, 8, .inl (fun _ => 0))), (h1, .inr (4, [.ref l1, .ref l2])), (l1, .inl (cI, 8, .inl (fun _ => 0))), (l2, .inl (cI, 8, .inl (fun _ => 0)))] H := hP
  replace hD : va_D A [(h0, .inr (2, [.ref pq, .ref rq, .ref fq, .ref eq, .int p3, .int pt0, .int how0, .int 0, .int co0, .int ex0, .null, .int at0])), (pq, .inr (3, [.ref ka, .ref aa, .ref ba, .ref ca, .int 0])), (fq, .inr (1, [.ref tq, .ref hq, .ref dq, .ref oq, .int 0, .int 0, .null])), (hq, .inl (cI, 24, .inl (fun _ => 0))), (dq, .inl (cI, 24, .inl (fun _ => 0))), (oq, .inl (cT, 24, .inr (.inr (.inr (.inr (fun _ => none)))))), (rq, .inr (4, [.ref r1, .ref r2])), (r1, .inl (cI, 8, .inl (fun _ => 0))), (r2, .inl (cI, 8, .inl (fun _ => 0))), (h1, .inr (4, [.ref l1, .ref l2])), (l1, .inl (cI, 8, .inl (fun _ => 0))), (l2, .inl (cI, 8, .inl (fun _ => 0)))] := hD
  refine lv_aload_n hx hb dX3_go_25 rfl (lv_at hl 0 rfl) ?_
  refine lv_iconst (v := 0) hx hb dX3_go_26 (by decide) ?_
  refine va_put (D := (dC, dI)) (ci := 2) (v := .int 0) (ty := tyX3 8) (C := RX3) (T := TX3) (N := 12) hx hb hts iw_c_X3_go_X3 tyX3 tyX3_ok nmX3 hown hK.1 hP hD hS 0 rfl rfl 8 (by decide) (hts (.fieldLink RX3 50 "TraceTrees$Machine" "compiled" "I") (List.mem_of_getElem? (i := 13) rfl)) (fun _ h9 => h9) rfl (tyX3_ok 8 (by decide)) rfl rfl (Nat.le_of_ble_eq_true rfl) dX3_go_27 (fun H locs hP hD hS => ?_)
  replace hP : va_P (dC, dI) vwCl [(h0, .inr (2, [.ref pq, .ref rq, .ref fq, .ref eq, .int p3, .int pt0, .int how0, .int 0, .int 0, .int ex0, .null, .int at0])), (pq, .inr (3, [.ref ka, .ref aa, .ref ba, .ref ca, .int 0])), (fq, .inr (1, [.ref tq, .ref hq, .ref dq, .ref oq, .int 0, .int 0, .null])), (hq, .inl (cI, 24, .inl (fun _ => 0))), (dq, .inl (cI, 24, .inl (fun _ => 0))), (oq, .inl (cT, 24, .inr (.inr (.inr (.inr (fun _ => none)))))), (rq, .inr (4, [.ref r1, .ref r2])), (r1, .inl (cI, 8, .inl (fun _ => 0))), (r2, .inl (cI, 8, .inl (fun _ => 0))), (h1, .inr (4, [.ref l1, .ref l2])), (l1, .inl (cI, 8, .inl (fun _ => 0))), (l2, .inl (cI, 8, .inl (fun _ => 0)))] H := hP
  replace hD : va_D A [(h0, .inr (2, [.ref pq, .ref rq, .ref fq, .ref eq, .int p3, .int pt0, .int how0, .int 0, .int 0, .int ex0, .null, .int at0])), (pq, .inr (3, [.ref ka, .ref aa, .ref ba, .ref ca, .int 0])), (fq, .inr (1, [.ref tq, .ref hq, .ref dq, .ref oq, .int 0, .int 0, .null])), (hq, .inl (cI, 24, .inl (fun _ => 0))), (dq, .inl (cI, 24, .inl (fun _ => 0))), (oq, .inl (cT, 24, .inr (.inr (.inr (.inr (fun _ => none)))))), (rq, .inr (4, [.ref r1, .ref r2])), (r1, .inl (cI, 8, .inl (fun _ => 0))), (r2, .inl (cI, 8, .inl (fun _ => 0))), (h1, .inr (4, [.ref l1, .ref l2])), (l1, .inl (cI, 8, .inl (fun _ => 0))), (l2, .inl (cI, 8, .inl (fun _ => 0)))] := hD
  refine lv_aload_n hx hb dX3_go_30 rfl (lv_at hl 0 rfl) ?_
  refine lv_iconst (v := 0) hx hb dX3_go_31 (by decide) ?_
  refine va_put (D := (dC, dI)) (ci := 2) (v := .int 0) (ty := tyX3 9) (C := RX3) (T := TX3) (N := 12) hx hb hts iw_c_X3_go_X3 tyX3 tyX3_ok nmX3 hown hK.1 hP hD hS 0 rfl rfl 9 (by decide) (hts (.fieldLink RX3 53 "TraceTrees$Machine" "exits" "I") (List.mem_of_getElem? (i := 14) rfl)) (fun _ h9 => h9) rfl (tyX3_ok 9 (by decide)) rfl rfl (Nat.le_of_ble_eq_true rfl) dX3_go_32 (fun H locs hP hD hS => ?_)
  replace hP : va_P (dC, dI) vwCl [(h0, .inr (2, [.ref pq, .ref rq, .ref fq, .ref eq, .int p3, .int pt0, .int how0, .int 0, .int 0, .int 0, .null, .int at0])), (pq, .inr (3, [.ref ka, .ref aa, .ref ba, .ref ca, .int 0])), (fq, .inr (1, [.ref tq, .ref hq, .ref dq, .ref oq, .int 0, .int 0, .null])), (hq, .inl (cI, 24, .inl (fun _ => 0))), (dq, .inl (cI, 24, .inl (fun _ => 0))), (oq, .inl (cT, 24, .inr (.inr (.inr (.inr (fun _ => none)))))), (rq, .inr (4, [.ref r1, .ref r2])), (r1, .inl (cI, 8, .inl (fun _ => 0))), (r2, .inl (cI, 8, .inl (fun _ => 0))), (h1, .inr (4, [.ref l1, .ref l2])), (l1, .inl (cI, 8, .inl (fun _ => 0))), (l2, .inl (cI, 8, .inl (fun _ => 0)))] H := hP
  replace hD : va_D A [(h0, .inr (2, [.ref pq, .ref rq, .ref fq, .ref eq, .int p3, .int pt0, .int how0, .int 0, .int 0, .int 0, .null, .int at0])), (pq, .inr (3, [.ref ka, .ref aa, .ref ba, .ref ca, .int 0])), (fq, .inr (1, [.ref tq, .ref hq, .ref dq, .ref oq, .int 0, .int 0, .null])), (hq, .inl (cI, 24, .inl (fun _ => 0))), (dq, .inl (cI, 24, .inl (fun _ => 0))), (oq, .inl (cT, 24, .inr (.inr (.inr (.inr (fun _ => none)))))), (rq, .inr (4, [.ref r1, .ref r2])), (r1, .inl (cI, 8, .inl (fun _ => 0))), (r2, .inl (cI, 8, .inl (fun _ => 0))), (h1, .inr (4, [.ref l1, .ref l2])), (l1, .inl (cI, 8, .inl (fun _ => 0))), (l2, .inl (cI, 8, .inl (fun _ => 0)))] := hD
  refine lv_aload_n hx hb dX3_go_35 rfl (lv_at hl 0 rfl) ?_
  refine lv_null hx hb dX3_go_36 ?_
  refine va_put (D := (dC, dI)) (ci := 2) (v := .null) (ty := tyX3 10) (C := RX3) (T := TX3) (N := 12) hx hb hts iw_c_X3_go_X3 tyX3 tyX3_ok nmX3 hown hK.1 hP hD hS 0 rfl rfl 10 (by decide) (hts (.fieldLink RX3 56 "TraceTrees$Machine" "current" "LTraceTrees$Trace;") (List.mem_of_getElem? (i := 15) rfl)) (fun _ h9 => h9) rfl (tyX3_ok 10 (by decide)) rfl rfl (Nat.le_of_ble_eq_true rfl) dX3_go_37 (fun H locs hP hD hS => ?_)
  replace hP : va_P (dC, dI) vwCl [(h0, .inr (2, [.ref pq, .ref rq, .ref fq, .ref eq, .int p3, .int pt0, .int how0, .int 0, .int 0, .int 0, .null, .int at0])), (pq, .inr (3, [.ref ka, .ref aa, .ref ba, .ref ca, .int 0])), (fq, .inr (1, [.ref tq, .ref hq, .ref dq, .ref oq, .int 0, .int 0, .null])), (hq, .inl (cI, 24, .inl (fun _ => 0))), (dq, .inl (cI, 24, .inl (fun _ => 0))), (oq, .inl (cT, 24, .inr (.inr (.inr (.inr (fun _ => none)))))), (rq, .inr (4, [.ref r1, .ref r2])), (r1, .inl (cI, 8, .inl (fun _ => 0))), (r2, .inl (cI, 8, .inl (fun _ => 0))), (h1, .inr (4, [.ref l1, .ref l2])), (l1, .inl (cI, 8, .inl (fun _ => 0))), (l2, .inl (cI, 8, .inl (fun _ => 0)))] H := hP
  replace hD : va_D A [(h0, .inr (2, [.ref pq, .ref rq, .ref fq, .ref eq, .int p3, .int pt0, .int how0, .int 0, .int 0, .int 0, .null, .int at0])), (pq, .inr (3, [.ref ka, .ref aa, .ref ba, .ref ca, .int 0])), (fq, .inr (1, [.ref tq, .ref hq, .ref dq, .ref oq, .int 0, .int 0, .null])), (hq, .inl (cI, 24, .inl (fun _ => 0))), (dq, .inl (cI, 24, .inl (fun _ => 0))), (oq, .inl (cT, 24, .inr (.inr (.inr (.inr (fun _ => none)))))), (rq, .inr (4, [.ref r1, .ref r2])), (r1, .inl (cI, 8, .inl (fun _ => 0))), (r2, .inl (cI, 8, .inl (fun _ => 0))), (h1, .inr (4, [.ref l1, .ref l2])), (l1, .inl (cI, 8, .inl (fun _ => 0))), (l2, .inl (cI, 8, .inl (fun _ => 0)))] := hD
  refine lv_aload_n hx hb dX3_go_40 rfl (lv_at hl 0 rfl) ?_
  refine lv_iconst (v := 0) hx hb dX3_go_41 (by decide) ?_
  refine va_put (D := (dC, dI)) (ci := 2) (v := .int 0) (ty := tyX3 6) (C := RX3) (T := TX3) (N := 12) hx hb hts iw_c_X3_go_X3 tyX3 tyX3_ok nmX3 hown hK.1 hP hD hS 0 rfl rfl 6 (by decide) (hts (.fieldLink RX3 60 "TraceTrees$Machine" "how" "I") (List.mem_of_getElem? (i := 16) rfl)) (fun _ h9 => h9) rfl (tyX3_ok 6 (by decide)) rfl rfl (Nat.le_of_ble_eq_true rfl) dX3_go_42 (fun H locs hP hD hS => ?_)
  replace hP : va_P (dC, dI) vwCl [(h0, .inr (2, [.ref pq, .ref rq, .ref fq, .ref eq, .int p3, .int pt0, .int 0, .int 0, .int 0, .int 0, .null, .int at0])), (pq, .inr (3, [.ref ka, .ref aa, .ref ba, .ref ca, .int 0])), (fq, .inr (1, [.ref tq, .ref hq, .ref dq, .ref oq, .int 0, .int 0, .null])), (hq, .inl (cI, 24, .inl (fun _ => 0))), (dq, .inl (cI, 24, .inl (fun _ => 0))), (oq, .inl (cT, 24, .inr (.inr (.inr (.inr (fun _ => none)))))), (rq, .inr (4, [.ref r1, .ref r2])), (r1, .inl (cI, 8, .inl (fun _ => 0))), (r2, .inl (cI, 8, .inl (fun _ => 0))), (h1, .inr (4, [.ref l1, .ref l2])), (l1, .inl (cI, 8, .inl (fun _ => 0))), (l2, .inl (cI, 8, .inl (fun _ => 0)))] H := hP
  replace hD : va_D A [(h0, .inr (2, [.ref pq, .ref rq, .ref fq, .ref eq, .int p3, .int pt0, .int 0, .int 0, .int 0, .int 0, .null, .int at0])), (pq, .inr (3, [.ref ka, .ref aa, .ref ba, .ref ca, .int 0])), (fq, .inr (1, [.ref tq, .ref hq, .ref dq, .ref oq, .int 0, .int 0, .null])), (hq, .inl (cI, 24, .inl (fun _ => 0))), (dq, .inl (cI, 24, .inl (fun _ => 0))), (oq, .inl (cT, 24, .inr (.inr (.inr (.inr (fun _ => none)))))), (rq, .inr (4, [.ref r1, .ref r2])), (r1, .inl (cI, 8, .inl (fun _ => 0))), (r2, .inl (cI, 8, .inl (fun _ => 0))), (h1, .inr (4, [.ref l1, .ref l2])), (l1, .inl (cI, 8, .inl (fun _ => 0))), (l2, .inl (cI, 8, .inl (fun _ => 0)))] := hD
  refine lv_aload_n hx hb dX3_go_45 rfl (lv_at hl 0 rfl) ?_
  refine lv_iconst (v := 0) hx hb dX3_go_46 (by decide) ?_
  refine gcallv (S := Unit) (wc := [(h0, .inr (2, [.ref pq, .ref rq, .ref fq, .ref eq, .int p3, .int pt0, .int 0, .int 0, .int 0, .int 0, .null, .int at0])), (pq, .inr (3, [.ref ka, .ref aa, .ref ba, .ref ca, .int 0]))]) (wr := [(fq, .inr (1, [.ref tq, .ref hq, .ref dq, .ref oq, .int 0, .int 0, .null])), (hq, .inl (cI, 24, .inl (fun _ => 0))), (dq, .inl (cI, 24, .inl (fun _ => 0))), (oq, .inl (cT, 24, .inr (.inr (.inr (.inr (fun _ => none)))))), (rq, .inr (4, [.ref r1, .ref r2])), (r1, .inl (cI, 8, .inl (fun _ => 0))), (r2, .inl (cI, 8, .inl (fun _ => 0))), (h1, .inr (4, [.ref l1, .ref l2])), (l1, .inl (cI, 8, .inl (fun _ => 0))), (l2, .inl (cI, 8, .inl (fun _ => 0)))]) (w1 := fun _ => [(h0, .inr (2, [.ref pq, .ref rq, .ref fq, .ref eq, .int p3, .int 0, .int 2, .int 0, .int 0, .int 0, .null, .int at0])), (pq, .inr (3, [.ref ka, .ref aa, .ref ba, .ref ca, .int 0]))]) (va_runV (As := [.int 0]) (rest := []) ⟨hx, hb, hml, hown, hts⟩ (c_X3_moveTo l dC dI cI cT cS H.size h0 pq rq fq eq ka aa ba ca p3 pt0 0 0 0 0 at0 ) (cwV 1 hts (gWV (List.mem_of_getElem? (i := 17) rfl) (List.mem_of_getElem? (i := 18) rfl) (List.mem_of_getElem? (i := 19) rfl) (List.mem_of_getElem? (i := 20) rfl) ic_c_X3_go_c_X3_moveTo gd_c_X3_moveTo) rfl rfl rfl (by decide +kernel) ⟨(Nat.le_of_ble_eq_true rfl), (Nat.le_of_ble_eq_true rfl)⟩) (gpV 0 2 (hP.sub (ws' := [(h0, .inr (2, [.ref pq, .ref rq, .ref fq, .ref eq, .int p3, .int pt0, .int 0, .int 0, .int 0, .int 0, .null, .int at0])), (pq, .inr (3, [.ref ka, .ref aa, .ref ba, .ref ca, .int 0]))]) [0, 1] rfl) hK (hD.sub (ws' := [(h0, .inr (2, [.ref pq, .ref rq, .ref fq, .ref eq, .int p3, .int pt0, .int 0, .int 0, .int 0, .int 0, .null, .int at0])), (pq, .inr (3, [.ref ka, .ref aa, .ref ba, .ref ca, .int 0]))]) [0, 1] (by decide) rfl) rfl rfl) rfl rfl hl.1 rfl (lv_room (Nat.le_of_ble_eq_true rfl)) dX3_go_47 ⟨(Nat.le_of_ble_eq_true rfl), (Nat.le_of_ble_eq_true rfl)⟩) hP hD hS hA [0, 1] [2, 3, 4, 5, 6, 7, 8, 9, 10, 11] rfl rfl (by decide) (by decide) (fun ur_3 H locs wr_3 hP hD hS => ?_)
  replace hP : va_P (dC, dI) vwCl [(fq, .inr (1, [.ref tq, .ref hq, .ref dq, .ref oq, .int 0, .int 0, .null])), (hq, .inl (cI, 24, .inl (fun _ => 0))), (dq, .inl (cI, 24, .inl (fun _ => 0))), (oq, .inl (cT, 24, .inr (.inr (.inr (.inr (fun _ => none)))))), (rq, .inr (4, [.ref r1, .ref r2])), (r1, .inl (cI, 8, .inl (fun _ => 0))), (r2, .inl (cI, 8, .inl (fun _ => 0))), (h1, .inr (4, [.ref l1, .ref l2])), (l1, .inl (cI, 8, .inl (fun _ => 0))), (l2, .inl (cI, 8, .inl (fun _ => 0))), (h0, .inr (2, [.ref pq, .ref rq, .ref fq, .ref eq, .int p3, .int 0, .int 2, .int 0, .int 0, .int 0, .null, .int at0])), (pq, .inr (3, [.ref ka, .ref aa, .ref ba, .ref ca, .int 0]))] H := hP
  replace hD : va_D A [(fq, .inr (1, [.ref tq, .ref hq, .ref dq, .ref oq, .int 0, .int 0, .null])), (hq, .inl (cI, 24, .inl (fun _ => 0))), (dq, .inl (cI, 24, .inl (fun _ => 0))), (oq, .inl (cT, 24, .inr (.inr (.inr (.inr (fun _ => none)))))), (rq, .inr (4, [.ref r1, .ref r2])), (r1, .inl (cI, 8, .inl (fun _ => 0))), (r2, .inl (cI, 8, .inl (fun _ => 0))), (h1, .inr (4, [.ref l1, .ref l2])), (l1, .inl (cI, 8, .inl (fun _ => 0))), (l2, .inl (cI, 8, .inl (fun _ => 0))), (h0, .inr (2, [.ref pq, .ref rq, .ref fq, .ref eq, .int p3, .int 0, .int 2, .int 0, .int 0, .int 0, .null, .int at0])), (pq, .inr (3, [.ref ka, .ref aa, .ref ba, .ref ca, .int 0]))] := hD
  refine lv_iconst (v := 0) hx hb dX3_go_50 (by decide) ?_
  refine lv_istore (lv' := [(4, .int 0), (0, .ref h0), (1, .ref h1), (2, .int p2), (3, .int p3)]) hx hb dX3_go_51 hl (by decide) rfl (fun ls hl => ?_)
  refine lv_iload hx hb dX3_go_53 (lv_at hl 0 rfl) ?_
  refine lv_iload_n hx hb dX3_go_55 rfl (lv_at hl 3 rfl) ?_
  refine lv_icmp_ge (tgt := 99) hx hb dX3_go_56 (by decide) (fun c_4 => ?_) (fun c_4 => ?_)
  · skip
    refine lv_aload_n hx hb dX3_go_99 rfl (lv_at hl 1 rfl) ?_
    refine va_get (D := (dC, dI)) (ci := 2) (v := .ref fq) (C := RX3) (T := TX3) (N := 12) hx hb hts iw_c_X3_go_X3 hown hK.1 hP 10 rfl rfl 2 (by decide) (hts (.fieldLink RX3 21 "TraceTrees$Machine" "forest" "LTraceTrees$Forest;") (List.mem_of_getElem? (i := 1) rfl)) (fun _ h9 => h9) rfl dX3_go_100 ?_
    refine gcallv (S := Unit) (wc := [(fq, .inr (1, [.ref tq, .ref hq, .ref dq, .ref oq, .int 0, .int 0, .null]))]) (wr := [(hq, .inl (cI, 24, .inl (fun _ => 0))), (dq, .inl (cI, 24, .inl (fun _ => 0))), (oq, .inl (cT, 24, .inr (.inr (.inr (.inr (fun _ => none)))))), (rq, .inr (4, [.ref r1, .ref r2])), (r1, .inl (cI, 8, .inl (fun _ => 0))), (r2, .inl (cI, 8, .inl (fun _ => 0))), (h1, .inr (4, [.ref l1, .ref l2])), (l1, .inl (cI, 8, .inl (fun _ => 0))), (l2, .inl (cI, 8, .inl (fun _ => 0))), (h0, .inr (2, [.ref pq, .ref rq, .ref fq, .ref eq, .int p3, .int 0, .int 2, .int 0, .int 0, .int 0, .null, .int at0])), (pq, .inr (3, [.ref ka, .ref aa, .ref ba, .ref ca, .int 0]))]) (w1 := fun _ => [(fq, .inr (1, [.ref tq, .ref hq, .ref dq, .ref oq, .int 0, .int 0, .null]))]) (va_runV (As := []) (rest := []) ⟨hx, hb, hml, hown, hts⟩ (c_X2_drop l dC dI cI cT cS H.size fq tq hq dq oq 0 0 ) (cwV 0 hts (gWV (List.mem_of_getElem? (i := 21) rfl) (List.mem_of_getElem? (i := 22) rfl) (List.mem_of_getElem? (i := 23) rfl) (List.mem_of_getElem? (i := 5) rfl) ic_c_X3_go_c_X2_drop gd_c_X2_drop) rfl rfl rfl (by decide +kernel) ⟨(Nat.le_of_ble_eq_true rfl), (Nat.le_of_ble_eq_true rfl)⟩) (gpV 0 1 (hP.sub (ws' := [(fq, .inr (1, [.ref tq, .ref hq, .ref dq, .ref oq, .int 0, .int 0, .null]))]) [0] rfl) hK (hD.sub (ws' := [(fq, .inr (1, [.ref tq, .ref hq, .ref dq, .ref oq, .int 0, .int 0, .null]))]) [0] (by decide) rfl) rfl rfl) rfl rfl hl.1 rfl (lv_room (Nat.le_of_ble_eq_true rfl)) dX3_go_103 ⟨(Nat.le_of_ble_eq_true rfl), (Nat.le_of_ble_eq_true rfl)⟩) hP hD hS hA [0] [1, 2, 3, 4, 5, 6, 7, 8, 9, 10, 11] rfl rfl (by decide) (by decide) (fun ur_5 H locs wr_5 hP hD hS => ?_)
    replace hP : va_P (dC, dI) vwCl [(hq, .inl (cI, 24, .inl (fun _ => 0))), (dq, .inl (cI, 24, .inl (fun _ => 0))), (oq, .inl (cT, 24, .inr (.inr (.inr (.inr (fun _ => none)))))), (rq, .inr (4, [.ref r1, .ref r2])), (r1, .inl (cI, 8, .inl (fun _ => 0))), (r2, .inl (cI, 8, .inl (fun _ => 0))), (h1, .inr (4, [.ref l1, .ref l2])), (l1, .inl (cI, 8, .inl (fun _ => 0))), (l2, .inl (cI, 8, .inl (fun _ => 0))), (h0, .inr (2, [.ref pq, .ref rq, .ref fq, .ref eq, .int p3, .int 0, .int 2, .int 0, .int 0, .int 0, .null, .int at0])), (pq, .inr (3, [.ref ka, .ref aa, .ref ba, .ref ca, .int 0])), (fq, .inr (1, [.ref tq, .ref hq, .ref dq, .ref oq, .int 0, .int 0, .null]))] H := hP
    replace hD : va_D A [(hq, .inl (cI, 24, .inl (fun _ => 0))), (dq, .inl (cI, 24, .inl (fun _ => 0))), (oq, .inl (cT, 24, .inr (.inr (.inr (.inr (fun _ => none)))))), (rq, .inr (4, [.ref r1, .ref r2])), (r1, .inl (cI, 8, .inl (fun _ => 0))), (r2, .inl (cI, 8, .inl (fun _ => 0))), (h1, .inr (4, [.ref l1, .ref l2])), (l1, .inl (cI, 8, .inl (fun _ => 0))), (l2, .inl (cI, 8, .inl (fun _ => 0))), (h0, .inr (2, [.ref pq, .ref rq, .ref fq, .ref eq, .int p3, .int 0, .int 2, .int 0, .int 0, .int 0, .null, .int at0])), (pq, .inr (3, [.ref ka, .ref aa, .ref ba, .ref ca, .int 0])), (fq, .inr (1, [.ref tq, .ref hq, .ref dq, .ref oq, .int 0, .int 0, .null]))] := hD
    refine W.widen (k := 0) (n := 0) (Nat.le_of_ble_eq_true rfl) (Nat.le_of_ble_eq_true rfl) ?_
    have hP9 := hP.sub (ws' := [(h0, .inr (2, [.ref pq, .ref rq, .ref fq, .ref eq, .int p3, .int 0, .int 2, .int 0, .int 0, .int 0, .null, .int at0])), (pq, .inr (3, [.ref ka, .ref aa, .ref ba, .ref ca, .int 0])), (rq, .inr (4, [.ref r1, .ref r2])), (r1, .inl (cI, 8, .inl (fun _ => 0))), (r2, .inl (cI, 8, .inl (fun _ => 0))), (fq, .inr (1, [.ref tq, .ref hq, .ref dq, .ref oq, .int 0, .int 0, .null])), (hq, .inl (cI, 24, .inl (fun _ => 0))), (dq, .inl (cI, 24, .inl (fun _ => 0))), (oq, .inl (cT, 24, .inr (.inr (.inr (.inr (fun _ => none)))))), (h1, .inr (4, [.ref l1, .ref l2])), (l1, .inl (cI, 8, .inl (fun _ => 0))), (l2, .inl (cI, 8, .inl (fun _ => 0)))]) [9, 10, 3, 4, 5, 11, 0, 1, 2, 6, 7, 8] rfl
    have hD9 := hD.sub (ws' := [(h0, .inr (2, [.ref pq, .ref rq, .ref fq, .ref eq, .int p3, .int 0, .int 2, .int 0, .int 0, .int 0, .null, .int at0])), (pq, .inr (3, [.ref ka, .ref aa, .ref ba, .ref ca, .int 0])), (rq, .inr (4, [.ref r1, .ref r2])), (r1, .inl (cI, 8, .inl (fun _ => 0))), (r2, .inl (cI, 8, .inl (fun _ => 0))), (fq, .inr (1, [.ref tq, .ref hq, .ref dq, .ref oq, .int 0, .int 0, .null])), (hq, .inl (cI, 24, .inl (fun _ => 0))), (dq, .inl (cI, 24, .inl (fun _ => 0))), (oq, .inl (cT, 24, .inr (.inr (.inr (.inr (fun _ => none)))))), (h1, .inr (4, [.ref l1, .ref l2])), (l1, .inl (cI, 8, .inl (fun _ => 0))), (l2, .inl (cI, 8, .inl (fun _ => 0)))]) [9, 10, 3, 4, 5, 11, 0, 1, 2, 6, 7, 8] (by decide) rfl
    exact W.vret hx hb hr (fun t ht hW => ⟨⟨(), rfl, trivial, by rw [ht]; exact hP9, hD9⟩, hS.F ht⟩) hS.2.2 dX3_go_106
  · skip
    refine lv_aload_n hx hb dX3_go_59 rfl (lv_at hl 1 rfl) ?_
    refine va_get (D := (dC, dI)) (ci := 2) (v := .int 2) (C := RX3) (T := TX3) (N := 12) hx hb hts iw_c_X3_go_X3 hown hK.1 hP 10 rfl rfl 6 (by decide) (hts (.fieldLink RX3 60 "TraceTrees$Machine" "how" "I") (List.mem_of_getElem? (i := 16) rfl)) (fun _ h9 => h9) rfl dX3_go_60 ?_
    refine lv_if_ne (tgt := 99) hx hb dX3_go_63 (by decide) (fun c_6 => ?_) (fun c_6 => ?_)
    · skip
      refine lv_aload_n hx hb dX3_go_99 rfl (lv_at hl 1 rfl) ?_
      refine va_get (D := (dC, dI)) (ci := 2) (v := .ref fq) (C := RX3) (T := TX3) (N := 12) hx hb hts iw_c_X3_go_X3 hown hK.1 hP 10 rfl rfl 2 (by decide) (hts (.fieldLink RX3 21 "TraceTrees$Machine" "forest" "LTraceTrees$Forest;") (List.mem_of_getElem? (i := 1) rfl)) (fun _ h9 => h9) rfl dX3_go_100 ?_
      refine gcallv (S := Unit) (wc := [(fq, .inr (1, [.ref tq, .ref hq, .ref dq, .ref oq, .int 0, .int 0, .null]))]) (wr := [(hq, .inl (cI, 24, .inl (fun _ => 0))), (dq, .inl (cI, 24, .inl (fun _ => 0))), (oq, .inl (cT, 24, .inr (.inr (.inr (.inr (fun _ => none)))))), (rq, .inr (4, [.ref r1, .ref r2])), (r1, .inl (cI, 8, .inl (fun _ => 0))), (r2, .inl (cI, 8, .inl (fun _ => 0))), (h1, .inr (4, [.ref l1, .ref l2])), (l1, .inl (cI, 8, .inl (fun _ => 0))), (l2, .inl (cI, 8, .inl (fun _ => 0))), (h0, .inr (2, [.ref pq, .ref rq, .ref fq, .ref eq, .int p3, .int 0, .int 2, .int 0, .int 0, .int 0, .null, .int at0])), (pq, .inr (3, [.ref ka, .ref aa, .ref ba, .ref ca, .int 0]))]) (w1 := fun _ => [(fq, .inr (1, [.ref tq, .ref hq, .ref dq, .ref oq, .int 0, .int 0, .null]))]) (va_runV (As := []) (rest := []) ⟨hx, hb, hml, hown, hts⟩ (c_X2_drop l dC dI cI cT cS H.size fq tq hq dq oq 0 0 ) (cwV 0 hts (gWV (List.mem_of_getElem? (i := 21) rfl) (List.mem_of_getElem? (i := 22) rfl) (List.mem_of_getElem? (i := 23) rfl) (List.mem_of_getElem? (i := 5) rfl) ic_c_X3_go_c_X2_drop gd_c_X2_drop) rfl rfl rfl (by decide +kernel) ⟨(Nat.le_of_ble_eq_true rfl), (Nat.le_of_ble_eq_true rfl)⟩) (gpV 0 1 (hP.sub (ws' := [(fq, .inr (1, [.ref tq, .ref hq, .ref dq, .ref oq, .int 0, .int 0, .null]))]) [0] rfl) hK (hD.sub (ws' := [(fq, .inr (1, [.ref tq, .ref hq, .ref dq, .ref oq, .int 0, .int 0, .null]))]) [0] (by decide) rfl) rfl rfl) rfl rfl hl.1 rfl (lv_room (Nat.le_of_ble_eq_true rfl)) dX3_go_103 ⟨(Nat.le_of_ble_eq_true rfl), (Nat.le_of_ble_eq_true rfl)⟩) hP hD hS hA [0] [1, 2, 3, 4, 5, 6, 7, 8, 9, 10, 11] rfl rfl (by decide) (by decide) (fun ur_7 H locs wr_7 hP hD hS => ?_)
      replace hP : va_P (dC, dI) vwCl [(hq, .inl (cI, 24, .inl (fun _ => 0))), (dq, .inl (cI, 24, .inl (fun _ => 0))), (oq, .inl (cT, 24, .inr (.inr (.inr (.inr (fun _ => none)))))), (rq, .inr (4, [.ref r1, .ref r2])), (r1, .inl (cI, 8, .inl (fun _ => 0))), (r2, .inl (cI, 8, .inl (fun _ => 0))), (h1, .inr (4, [.ref l1, .ref l2])), (l1, .inl (cI, 8, .inl (fun _ => 0))), (l2, .inl (cI, 8, .inl (fun _ => 0))), (h0, .inr (2, [.ref pq, .ref rq, .ref fq, .ref eq, .int p3, .int 0, .int 2, .int 0, .int 0, .int 0, .null, .int at0])), (pq, .inr (3, [.ref ka, .ref aa, .ref ba, .ref ca, .int 0])), (fq, .inr (1, [.ref tq, .ref hq, .ref dq, .ref oq, .int 0, .int 0, .null]))] H := hP
      replace hD : va_D A [(hq, .inl (cI, 24, .inl (fun _ => 0))), (dq, .inl (cI, 24, .inl (fun _ => 0))), (oq, .inl (cT, 24, .inr (.inr (.inr (.inr (fun _ => none)))))), (rq, .inr (4, [.ref r1, .ref r2])), (r1, .inl (cI, 8, .inl (fun _ => 0))), (r2, .inl (cI, 8, .inl (fun _ => 0))), (h1, .inr (4, [.ref l1, .ref l2])), (l1, .inl (cI, 8, .inl (fun _ => 0))), (l2, .inl (cI, 8, .inl (fun _ => 0))), (h0, .inr (2, [.ref pq, .ref rq, .ref fq, .ref eq, .int p3, .int 0, .int 2, .int 0, .int 0, .int 0, .null, .int at0])), (pq, .inr (3, [.ref ka, .ref aa, .ref ba, .ref ca, .int 0])), (fq, .inr (1, [.ref tq, .ref hq, .ref dq, .ref oq, .int 0, .int 0, .null]))] := hD
      refine W.widen (k := 0) (n := 0) (Nat.le_of_ble_eq_true rfl) (Nat.le_of_ble_eq_true rfl) ?_
      have hP9 := hP.sub (ws' := [(h0, .inr (2, [.ref pq, .ref rq, .ref fq, .ref eq, .int p3, .int 0, .int 2, .int 0, .int 0, .int 0, .null, .int at0])), (pq, .inr (3, [.ref ka, .ref aa, .ref ba, .ref ca, .int 0])), (rq, .inr (4, [.ref r1, .ref r2])), (r1, .inl (cI, 8, .inl (fun _ => 0))), (r2, .inl (cI, 8, .inl (fun _ => 0))), (fq, .inr (1, [.ref tq, .ref hq, .ref dq, .ref oq, .int 0, .int 0, .null])), (hq, .inl (cI, 24, .inl (fun _ => 0))), (dq, .inl (cI, 24, .inl (fun _ => 0))), (oq, .inl (cT, 24, .inr (.inr (.inr (.inr (fun _ => none)))))), (h1, .inr (4, [.ref l1, .ref l2])), (l1, .inl (cI, 8, .inl (fun _ => 0))), (l2, .inl (cI, 8, .inl (fun _ => 0)))]) [9, 10, 3, 4, 5, 11, 0, 1, 2, 6, 7, 8] rfl
      have hD9 := hD.sub (ws' := [(h0, .inr (2, [.ref pq, .ref rq, .ref fq, .ref eq, .int p3, .int 0, .int 2, .int 0, .int 0, .int 0, .null, .int at0])), (pq, .inr (3, [.ref ka, .ref aa, .ref ba, .ref ca, .int 0])), (rq, .inr (4, [.ref r1, .ref r2])), (r1, .inl (cI, 8, .inl (fun _ => 0))), (r2, .inl (cI, 8, .inl (fun _ => 0))), (fq, .inr (1, [.ref tq, .ref hq, .ref dq, .ref oq, .int 0, .int 0, .null])), (hq, .inl (cI, 24, .inl (fun _ => 0))), (dq, .inl (cI, 24, .inl (fun _ => 0))), (oq, .inl (cT, 24, .inr (.inr (.inr (.inr (fun _ => none)))))), (h1, .inr (4, [.ref l1, .ref l2])), (l1, .inl (cI, 8, .inl (fun _ => 0))), (l2, .inl (cI, 8, .inl (fun _ => 0)))]) [9, 10, 3, 4, 5, 11, 0, 1, 2, 6, 7, 8] (by decide) rfl
      exact W.vret hx hb hr (fun t ht hW => ⟨⟨(), rfl, trivial, by rw [ht]; exact hP9, hD9⟩, hS.F ht⟩) hS.2.2 dX3_go_106
    · skip
      exact absurd c_6 (by decide)
def oc_X4_put : List Cond := [.fieldLink RX4 9 "TraceTrees$Program" "kind" "[I", .fieldLink RX4 15 "TraceTrees$Program" "a" "[I", .fieldLink RX4 18 "TraceTrees$Program" "b" "[I", .fieldLink RX4 21 "TraceTrees$Program" "c" "[I"]
def vc_X4_put : List Cond := .code yX4_put cX4_put 6 none :: (oc_X4_put ++ (wsX40))
theorem iw_c_X4_put_X4 : ∀ w ∈ wsX40, w ∈ vc_X4_put := fun _ h => List.mem_cons_of_mem _ (List.mem_append_right _ (h))
theorem gd_c_X4_put : (vc_X4_put).all goodWord = true := by decide +kernel
set_option maxHeartbeats 4000000 in
set_option maxRecDepth 100000 in
theorem c_X4_put (l : Launch) (dC : Nat → ClassId) (dI : Nat → Nat → Nat) (cI cT cS : ClassId) (sz : Nat) (h0 : Nat) (ka : Nat) (aa : Nat) (ba : Nat) (ca : Nat) (kf : Nat → Int32) (af : Nat → Int32) (bf : Nat → Int32) (cf : Nat → Int32) (sz0 : Int32) (p1 : Int32) (p2 : Int32) (p3 : Int32) (p4 : Int32) (p5 : Int32) (hv : vp_in p1 24) : gCV (S := Unit) l yX4_put vc_X4_put ({ frames := 0, cells := 0, slots := 0, locals := 0 }) (dC, dI) (gTY cI cT cS) sz [.ref h0, .int p1, .int p2, .int p3, .int p4, .int p5] [(h0, .inr (3, [.ref ka, .ref aa, .ref ba, .ref ca, .int sz0])), (ka, .inl (cI, 24, .inl kf)), (aa, .inl (cI, 24, .inl af)), (ba, .inl (cI, 24, .inl bf)), (ca, .inl (cI, 24, .inl cf))] (fun u => True) (fun _ => [(h0, .inr (3, [.ref ka, .ref aa, .ref ba, .ref ca, .int sz0])), (ka, .inl (cI, 24, .inl (upd kf p1.toNatClampNeg p2))), (aa, .inl (cI, 24, .inl (upd af p1.toNatClampNeg p3))), (ba, .inl (cI, 24, .inl (upd bf p1.toNatClampNeg p4))), (ca, .inl (cI, 24, .inl (upd cf p1.toNatClampNeg p5)))]) 0 0 := by
  refine Met.ofW (cc := cX4_put) (maxL := 6) (ret := none) (by decide) rfl ?_
  intro p e s m args below meth c s₁ B hml hv
  obtain ⟨rfl, hsz, hP, hK, hD0⟩ := hv
  have hx := B.exec
  have hb := B.bytes
  have hr := B.returns
  have hts := atoms_spec (ws := vc_X4_put) B.pre
  have hown : s.vm.findClass RX4 = some m.cls := findClass_of_methodNamed B.named
  have hlocks := B.notSynchronized
  subst hsz
  have hD := hD0.self (sz := s.heap.size)
  generalize hAe : va_A [(h0, .inr (3, [.ref ka, .ref aa, .ref ba, .ref ca, .int sz0])), (ka, .inl (cI, 24, .inl kf)), (aa, .inl (cI, 24, .inl af)), (ba, .inl (cI, 24, .inl bf)), (ca, .inl (cI, 24, .inl cf))] s.heap.size = A at hD ⊢
  have hA : ∀ q : Nat, s.heap.size ≤ q → A q := fun q h => by rw [← hAe]; exact Or.inr h
  refine gstart (fun H locs hHe hLe => ?_)
  have hS : va_S A s.heap H locs := by rw [← hHe, ← hLe]; exact va_S.rf
  replace hP : va_P (dC, dI) vwCl [(h0, .inr (3, [.ref ka, .ref aa, .ref ba, .ref ca, .int sz0])), (ka, .inl (cI, 24, .inl kf)), (aa, .inl (cI, 24, .inl af)), (ba, .inl (cI, 24, .inl bf)), (ca, .inl (cI, 24, .inl cf))] H := by rw [← hHe]; exact hP
  clear hHe hLe
  have hl := lv_entry ([.ref h0, .int p1, .int p2, .int p3, .int p4, .int p5]) (n := 6) (Nat.le_of_ble_eq_true rfl)
  rw [lg_entry_eq]
  generalize (lg_sl ([.ref h0, .int p1, .int p2, .int p3, .int p4, .int p5]) ++ List.replicate (6 - (lg_sl ([.ref h0, .int p1, .int p2, .int p3, .int p4, .int p5])).length) Slot.unset).toArray = ls at hl ⊢
  replace hl : lv_has ls 6 [(0, .ref h0), (1, .int p1), (2, .int p2), (3, .int p3), (4, .int p4), (5, .int p5)] := hl
  refine lv_aload_n hx hb dX4_put_0 rfl (lv_at hl 0 rfl) ?_
  refine va_get (D := (dC, dI)) (ci := 3) (v := .ref ka) (C := RX4) (T := TX4) (N := 5) hx hb hts iw_c_X4_put_X4 hown hK.1 hP 0 rfl rfl 0 (by decide) (hts (.fieldLink RX4 9 "TraceTrees$Program" "kind" "[I") (List.mem_of_getElem? (i := 1) rfl)) (fun _ h9 => h9) rfl dX4_put_1 ?_
  refine lv_iload_n hx hb dX4_put_4 rfl (lv_at hl 1 rfl) ?_
  refine lv_iload_n hx hb dX4_put_5 rfl (lv_at hl 2 rfl) ?_
  refine va_iast hx hb hK.1 hP hD hS 1 0 rfl rfl hv dX4_put_6 (fun H locs hP hD hS => ?_)
  replace hP : va_P (dC, dI) vwCl [(h0, .inr (3, [.ref ka, .ref aa, .ref ba, .ref ca, .int sz0])), (ka, .inl (cI, 24, .inl (upd kf p1.toNatClampNeg p2))), (aa, .inl (cI, 24, .inl af)), (ba, .inl (cI, 24, .inl bf)), (ca, .inl (cI, 24, .inl cf))] H := hP
  replace hD : va_D A [(h0, .inr (3, [.ref ka, .ref aa, .ref ba, .ref ca, .int sz0])), (ka, .inl (cI, 24, .inl (upd kf p1.toNatClampNeg p2))), (aa, .inl (cI, 24, .inl af)), (ba, .inl (cI, 24, .inl bf)), (ca, .inl (cI, 24, .inl cf))] := hD
  refine lv_aload_n hx hb dX4_put_7 rfl (lv_at hl 0 rfl) ?_
  refine va_get (D := (dC, dI)) (ci := 3) (v := .ref aa) (C := RX4) (T := TX4) (N := 5) hx hb hts iw_c_X4_put_X4 hown hK.1 hP 0 rfl rfl 1 (by decide) (hts (.fieldLink RX4 15 "TraceTrees$Program" "a" "[I") (List.mem_of_getElem? (i := 2) rfl)) (fun _ h9 => h9) rfl dX4_put_8 ?_
  refine lv_iload_n hx hb dX4_put_11 rfl (lv_at hl 1 rfl) ?_
  refine lv_iload_n hx hb dX4_put_12 rfl (lv_at hl 3 rfl) ?_
  refine va_iast hx hb hK.1 hP hD hS 2 0 rfl rfl hv dX4_put_13 (fun H locs hP hD hS => ?_)
  replace hP : va_P (dC, dI) vwCl [(h0, .inr (3, [.ref ka, .ref aa, .ref ba, .ref ca, .int sz0])), (ka, .inl (cI, 24, .inl (upd kf p1.toNatClampNeg p2))), (aa, .inl (cI, 24, .inl (upd af p1.toNatClampNeg p3))), (ba, .inl (cI, 24, .inl bf)), (ca, .inl (cI, 24, .inl cf))] H := hP
  replace hD : va_D A [(h0, .inr (3, [.ref ka, .ref aa, .ref ba, .ref ca, .int sz0])), (ka, .inl (cI, 24, .inl (upd kf p1.toNatClampNeg p2))), (aa, .inl (cI, 24, .inl (upd af p1.toNatClampNeg p3))), (ba, .inl (cI, 24, .inl bf)), (ca, .inl (cI, 24, .inl cf))] := hD
  refine lv_aload_n hx hb dX4_put_14 rfl (lv_at hl 0 rfl) ?_
  refine va_get (D := (dC, dI)) (ci := 3) (v := .ref ba) (C := RX4) (T := TX4) (N := 5) hx hb hts iw_c_X4_put_X4 hown hK.1 hP 0 rfl rfl 2 (by decide) (hts (.fieldLink RX4 18 "TraceTrees$Program" "b" "[I") (List.mem_of_getElem? (i := 3) rfl)) (fun _ h9 => h9) rfl dX4_put_15 ?_
  refine lv_iload_n hx hb dX4_put_18 rfl (lv_at hl 1 rfl) ?_
  refine lv_iload hx hb dX4_put_19 (lv_at hl 4 rfl) ?_
  refine va_iast hx hb hK.1 hP hD hS 3 0 rfl rfl hv dX4_put_21 (fun H locs hP hD hS => ?_)
  replace hP : va_P (dC, dI) vwCl [(h0, .inr (3, [.ref ka, .ref aa, .ref ba, .ref ca, .int sz0])), (ka, .inl (cI, 24, .inl (upd kf p1.toNatClampNeg p2))), (aa, .inl (cI, 24, .inl (upd af p1.toNatClampNeg p3))), (ba, .inl (cI, 24, .inl (upd bf p1.toNatClampNeg p4))), (ca, .inl (cI, 24, .inl cf))] H := hP
  replace hD : va_D A [(h0, .inr (3, [.ref ka, .ref aa, .ref ba, .ref ca, .int sz0])), (ka, .inl (cI, 24, .inl (upd kf p1.toNatClampNeg p2))), (aa, .inl (cI, 24, .inl (upd af p1.toNatClampNeg p3))), (ba, .inl (cI, 24, .inl (upd bf p1.toNatClampNeg p4))), (ca, .inl (cI, 24, .inl cf))] := hD
  refine lv_aload_n hx hb dX4_put_22 rfl (lv_at hl 0 rfl) ?_
  refine va_get (D := (dC, dI)) (ci := 3) (v := .ref ca) (C := RX4) (T := TX4) (N := 5) hx hb hts iw_c_X4_put_X4 hown hK.1 hP 0 rfl rfl 3 (by decide) (hts (.fieldLink RX4 21 "TraceTrees$Program" "c" "[I") (List.mem_of_getElem? (i := 4) rfl)) (fun _ h9 => h9) rfl dX4_put_23 ?_
  refine lv_iload_n hx hb dX4_put_26 rfl (lv_at hl 1 rfl) ?_
  refine lv_iload hx hb dX4_put_27 (lv_at hl 5 rfl) ?_
  refine va_iast hx hb hK.1 hP hD hS 4 0 rfl rfl hv dX4_put_29 (fun H locs hP hD hS => ?_)
  replace hP : va_P (dC, dI) vwCl [(h0, .inr (3, [.ref ka, .ref aa, .ref ba, .ref ca, .int sz0])), (ka, .inl (cI, 24, .inl (upd kf p1.toNatClampNeg p2))), (aa, .inl (cI, 24, .inl (upd af p1.toNatClampNeg p3))), (ba, .inl (cI, 24, .inl (upd bf p1.toNatClampNeg p4))), (ca, .inl (cI, 24, .inl (upd cf p1.toNatClampNeg p5)))] H := hP
  replace hD : va_D A [(h0, .inr (3, [.ref ka, .ref aa, .ref ba, .ref ca, .int sz0])), (ka, .inl (cI, 24, .inl (upd kf p1.toNatClampNeg p2))), (aa, .inl (cI, 24, .inl (upd af p1.toNatClampNeg p3))), (ba, .inl (cI, 24, .inl (upd bf p1.toNatClampNeg p4))), (ca, .inl (cI, 24, .inl (upd cf p1.toNatClampNeg p5)))] := hD
  refine W.widen (k := 0) (n := 0) (Nat.le_of_ble_eq_true rfl) (Nat.le_of_ble_eq_true rfl) ?_
  have hP9 := hP.sub (ws' := [(h0, .inr (3, [.ref ka, .ref aa, .ref ba, .ref ca, .int sz0])), (ka, .inl (cI, 24, .inl (upd kf p1.toNatClampNeg p2))), (aa, .inl (cI, 24, .inl (upd af p1.toNatClampNeg p3))), (ba, .inl (cI, 24, .inl (upd bf p1.toNatClampNeg p4))), (ca, .inl (cI, 24, .inl (upd cf p1.toNatClampNeg p5)))]) [0, 1, 2, 3, 4] rfl
  have hD9 := hD.sub (ws' := [(h0, .inr (3, [.ref ka, .ref aa, .ref ba, .ref ca, .int sz0])), (ka, .inl (cI, 24, .inl (upd kf p1.toNatClampNeg p2))), (aa, .inl (cI, 24, .inl (upd af p1.toNatClampNeg p3))), (ba, .inl (cI, 24, .inl (upd bf p1.toNatClampNeg p4))), (ca, .inl (cI, 24, .inl (upd cf p1.toNatClampNeg p5)))]) [0, 1, 2, 3, 4] (by decide) rfl
  exact W.vret hx hb hr (fun t ht hW => ⟨⟨(), rfl, trivial, by rw [ht]; exact hP9, hD9⟩, hS.F ht⟩) hS.2.2 dX4_put_30
def oc_X4_append : List Cond := [.fieldLink RX4 24 "TraceTrees$Program" "size" "I", .methodLink RX4 28 yX4_put, .instanceMethod yX4_put, .selects RX4 yX4_put yX4_put, .initialized RX4]
def vc_X4_append : List Cond := .code yX4_append cX4_append 5 none :: (oc_X4_append ++ (wsX40 ++ (vc_X4_put)))
theorem iw_c_X4_append_X4 : ∀ w ∈ wsX40, w ∈ vc_X4_append := fun _ h => List.mem_cons_of_mem _ (List.mem_append_right _ (List.mem_append_left _ h))
theorem ic_c_X4_append_c_X4_put : ∀ w ∈ vc_X4_put, w ∈ vc_X4_append := fun _ h => List.mem_cons_of_mem _ (List.mem_append_right _ (List.mem_append_right _ (h)))
theorem gd_c_X4_append : (vc_X4_append).all goodWord = true := by decide +kernel
set_option maxHeartbeats 4000000 in
set_option maxRecDepth 100000 in
theorem c_X4_append (l : Launch) (dC : Nat → ClassId) (dI : Nat → Nat → Nat) (cI cT cS : ClassId) (sz : Nat) (h0 : Nat) (ka : Nat) (aa : Nat) (ba : Nat) (ca : Nat) (p1 : Int32) (p2 : Int32) (p3 : Int32) (p4 : Int32)  : gCV (S := Unit) l yX4_append vc_X4_append ({ frames := 1, cells := 0, slots := 0, locals := 25 }) (dC, dI) (gTY cI cT cS) sz [.ref h0, .int p1, .int p2, .int p3, .int p4] [(h0, .inr (3, [.ref ka, .ref aa, .ref ba, .ref ca, .int 0])), (ka, .inl (cI, 24, .inl (fun _ => 0))), (aa, .inl (cI, 24, .inl (fun _ => 0))), (ba, .inl (cI, 24, .inl (fun _ => 0))), (ca, .inl (cI, 24, .inl (fun _ => 0)))] (fun u => True) (fun _ => [(h0, .inr (3, [.ref ka, .ref aa, .ref ba, .ref ca, .int 1])), (ka, .inl (cI, 24, .inl (upd (fun _ => 0) 0 p1))), (aa, .inl (cI, 24, .inl (upd (fun _ => 0) 0 p2))), (ba, .inl (cI, 24, .inl (upd (fun _ => 0) 0 p3))), (ca, .inl (cI, 24, .inl (upd (fun _ => 0) 0 p4)))]) 0 0 := by
  refine Met.ofW (cc := cX4_append) (maxL := 5) (ret := none) (by decide) rfl ?_
  intro p e s m args below meth c s₁ B hml hv
  obtain ⟨rfl, hsz, hP, hK, hD0⟩ := hv
  have hx := B.exec
  have hb := B.bytes
  have hr := B.returns
  have hts := atoms_spec (ws := vc_X4_append) B.pre
  have hown : s.vm.findClass RX4 = some m.cls := findClass_of_methodNamed B.named
  have hlocks := B.notSynchronized
  subst hsz
  have hD := hD0.self (sz := s.heap.size)
  generalize hAe : va_A [(h0, .inr (3, [.ref ka, .ref aa, .ref ba, .ref ca, .int 0])), (ka, .inl (cI, 24, .inl (fun _ => 0))), (aa, .inl (cI, 24, .inl (fun _ => 0))), (ba, .inl (cI, 24, .inl (fun _ => 0))), (ca, .inl (cI, 24, .inl (fun _ => 0)))] s.heap.size = A at hD ⊢
  have hA : ∀ q : Nat, s.heap.size ≤ q → A q := fun q h => by rw [← hAe]; exact Or.inr h
  refine gstart (fun H locs hHe hLe => ?_)
  have hS : va_S A s.heap H locs := by rw [← hHe, ← hLe]; exact va_S.rf
  replace hP : va_P (dC, dI) vwCl [(h0, .inr (3, [.ref ka, .ref aa, .ref ba, .ref ca, .int 0])), (ka, .inl (cI, 24, .inl (fun _ => 0))), (aa, .inl (cI, 24, .inl (fun _ => 0))), (ba, .inl (cI, 24, .inl (fun _ => 0))), (ca, .inl (cI, 24, .inl (fun _ => 0)))] H := by rw [← hHe]; exact hP
  clear hHe hLe
  have hl := lv_entry ([.ref h0, .int p1, .int p2, .int p3, .int p4]) (n := 5) (Nat.le_of_ble_eq_true rfl)
  rw [lg_entry_eq]
  generalize (lg_sl ([.ref h0, .int p1, .int p2, .int p3, .int p4]) ++ List.replicate (5 - (lg_sl ([.ref h0, .int p1, .int p2, .int p3, .int p4])).length) Slot.unset).toArray = ls at hl ⊢
  replace hl : lv_has ls 5 [(0, .ref h0), (1, .int p1), (2, .int p2), (3, .int p3), (4, .int p4)] := hl
  refine lv_aload_n hx hb dX4_append_0 rfl (lv_at hl 0 rfl) ?_
  refine lv_aload_n hx hb dX4_append_1 rfl (lv_at hl 0 rfl) ?_
  refine va_get (D := (dC, dI)) (ci := 3) (v := .int 0) (C := RX4) (T := TX4) (N := 5) hx hb hts iw_c_X4_append_X4 hown hK.1 hP 0 rfl rfl 4 (by decide) (hts (.fieldLink RX4 24 "TraceTrees$Program" "size" "I") (List.mem_of_getElem? (i := 1) rfl)) (fun _ h9 => h9) rfl dX4_append_2 ?_
  refine lv_iload_n hx hb dX4_append_5 rfl (lv_at hl 1 rfl) ?_
  refine lv_iload_n hx hb dX4_append_6 rfl (lv_at hl 2 rfl) ?_
  refine lv_iload_n hx hb dX4_append_7 rfl (lv_at hl 3 rfl) ?_
  refine lv_iload hx hb dX4_append_8 (lv_at hl 4 rfl) ?_
  refine gcallv (S := Unit) (wc := [(h0, .inr (3, [.ref ka, .ref aa, .ref ba, .ref ca, .int 0])), (ka, .inl (cI, 24, .inl (fun _ => 0))), (aa, .inl (cI, 24, .inl (fun _ => 0))), (ba, .inl (cI, 24, .inl (fun _ => 0))), (ca, .inl (cI, 24, .inl (fun _ => 0)))]) (wr := []) (w1 := fun _ => [(h0, .inr (3, [.ref ka, .ref aa, .ref ba, .ref ca, .int 0])), (ka, .inl (cI, 24, .inl (upd (fun _ => 0) 0 p1))), (aa, .inl (cI, 24, .inl (upd (fun _ => 0) 0 p2))), (ba, .inl (cI, 24, .inl (upd (fun _ => 0) 0 p3))), (ca, .inl (cI, 24, .inl (upd (fun _ => 0) 0 p4)))]) (va_runV (As := [.int 0, .int p1, .int p2, .int p3, .int p4]) (rest := []) ⟨hx, hb, hml, hown, hts⟩ (c_X4_put l dC dI cI cT cS H.size h0 ka aa ba ca (fun _ => 0) (fun _ => 0) (fun _ => 0) (fun _ => 0) 0 0 p1 p2 p3 p4 (g_in (by decide))) (cwV 5 hts (gWV (List.mem_of_getElem? (i := 2) rfl) (List.mem_of_getElem? (i := 3) rfl) (List.mem_of_getElem? (i := 4) rfl) (List.mem_of_getElem? (i := 5) rfl) ic_c_X4_append_c_X4_put gd_c_X4_put) rfl rfl rfl (by decide +kernel) ⟨(Nat.le_of_ble_eq_true rfl), (Nat.le_of_ble_eq_true rfl)⟩) (gpV 0 3 (hP.sub (ws' := [(h0, .inr (3, [.ref ka, .ref aa, .ref ba, .ref ca, .int 0])), (ka, .inl (cI, 24, .inl (fun _ => 0))), (aa, .inl (cI, 24, .inl (fun _ => 0))), (ba, .inl (cI, 24, .inl (fun _ => 0))), (ca, .inl (cI, 24, .inl (fun _ => 0)))]) [0, 1, 2, 3, 4] rfl) hK (hD.sub (ws' := [(h0, .inr (3, [.ref ka, .ref aa, .ref ba, .ref ca, .int 0])), (ka, .inl (cI, 24, .inl (fun _ => 0))), (aa, .inl (cI, 24, .inl (fun _ => 0))), (ba, .inl (cI, 24, .inl (fun _ => 0))), (ca, .inl (cI, 24, .inl (fun _ => 0)))]) [0, 1, 2, 3, 4] (by decide) rfl) rfl rfl) rfl rfl hl.1 rfl (lv_room (Nat.le_of_ble_eq_true rfl)) dX4_append_10 ⟨(Nat.le_of_ble_eq_true rfl), (Nat.le_of_ble_eq_true rfl)⟩) hP hD hS hA [0, 1, 2, 3, 4] [] rfl rfl (by decide) (by decide) (fun ur_1 H locs wr_1 hP hD hS => ?_)
  replace hP : va_P (dC, dI) vwCl [(h0, .inr (3, [.ref ka, .ref aa, .ref ba, .ref ca, .int 0])), (ka, .inl (cI, 24, .inl (upd (fun _ => 0) 0 p1))), (aa, .inl (cI, 24, .inl (upd (fun _ => 0) 0 p2))), (ba, .inl (cI, 24, .inl (upd (fun _ => 0) 0 p3))), (ca, .inl (cI, 24, .inl (upd (fun _ => 0) 0 p4)))] H := hP
  replace hD : va_D A [(h0, .inr (3, [.ref ka, .ref aa, .ref ba, .ref ca, .int 0])), (ka, .inl (cI, 24, .inl (upd (fun _ => 0) 0 p1))), (aa, .inl (cI, 24, .inl (upd (fun _ => 0) 0 p2))), (ba, .inl (cI, 24, .inl (upd (fun _ => 0) 0 p3))), (ca, .inl (cI, 24, .inl (upd (fun _ => 0) 0 p4)))] := hD
  refine lv_aload_n hx hb dX4_append_13 rfl (lv_at hl 0 rfl) ?_
  refine lv_dup hx hb dX4_append_14 rfl ?_
  refine va_get (D := (dC, dI)) (ci := 3) (v := .int 0) (C := RX4) (T := TX4) (N := 5) hx hb hts iw_c_X4_append_X4 hown hK.1 hP 0 rfl rfl 4 (by decide) (hts (.fieldLink RX4 24 "TraceTrees$Program" "size" "I") (List.mem_of_getElem? (i := 1) rfl)) (fun _ h9 => h9) rfl dX4_append_15 ?_
  refine lv_iconst (v := 1) hx hb dX4_append_18 (by decide) ?_
  refine lv_iadd hx hb dX4_append_19 ?_
  refine lv_topi (fun x_2 ex_2 => ?_)
  obtain rfl : x_2 = 1 := ex_2.trans (by decide)
  refine va_put (D := (dC, dI)) (ci := 3) (v := .int 1) (ty := tyX4 4) (C := RX4) (T := TX4) (N := 5) hx hb hts iw_c_X4_append_X4 tyX4 tyX4_ok nmX4 hown hK.1 hP hD hS 0 rfl rfl 4 (by decide) (hts (.fieldLink RX4 24 "TraceTrees$Program" "size" "I") (List.mem_of_getElem? (i := 1) rfl)) (fun _ h9 => h9) rfl (tyX4_ok 4 (by decide)) rfl rfl (Nat.le_of_ble_eq_true rfl) dX4_append_20 (fun H locs hP hD hS => ?_)
  replace hP : va_P (dC, dI) vwCl [(h0, .inr (3, [.ref ka, .ref aa, .ref ba, .ref ca, .int 1])), (ka, .inl (cI, 24, .inl (upd (fun _ => 0) 0 p1))), (aa, .inl (cI, 24, .inl (upd (fun _ => 0) 0 p2))), (ba, .inl (cI, 24, .inl (upd (fun _ => 0) 0 p3))), (ca, .inl (cI, 24, .inl (upd (fun _ => 0) 0 p4)))] H := hP
  replace hD : va_D A [(h0, .inr (3, [.ref ka, .ref aa, .ref ba, .ref ca, .int 1])), (ka, .inl (cI, 24, .inl (upd (fun _ => 0) 0 p1))), (aa, .inl (cI, 24, .inl (upd (fun _ => 0) 0 p2))), (ba, .inl (cI, 24, .inl (upd (fun _ => 0) 0 p3))), (ca, .inl (cI, 24, .inl (upd (fun _ => 0) 0 p4)))] := hD
  refine W.widen (k := 0) (n := 0) (Nat.le_of_ble_eq_true rfl) (Nat.le_of_ble_eq_true rfl) ?_
  have hP9 := hP.sub (ws' := [(h0, .inr (3, [.ref ka, .ref aa, .ref ba, .ref ca, .int 1])), (ka, .inl (cI, 24, .inl (upd (fun _ => 0) 0 p1))), (aa, .inl (cI, 24, .inl (upd (fun _ => 0) 0 p2))), (ba, .inl (cI, 24, .inl (upd (fun _ => 0) 0 p3))), (ca, .inl (cI, 24, .inl (upd (fun _ => 0) 0 p4)))]) [0, 1, 2, 3, 4] rfl
  have hD9 := hD.sub (ws' := [(h0, .inr (3, [.ref ka, .ref aa, .ref ba, .ref ca, .int 1])), (ka, .inl (cI, 24, .inl (upd (fun _ => 0) 0 p1))), (aa, .inl (cI, 24, .inl (upd (fun _ => 0) 0 p2))), (ba, .inl (cI, 24, .inl (upd (fun _ => 0) 0 p3))), (ca, .inl (cI, 24, .inl (upd (fun _ => 0) 0 p4)))]) [0, 1, 2, 3, 4] (by decide) rfl
  exact W.vret hx hb hr (fun t ht hW => ⟨⟨(), rfl, trivial, by rw [ht]; exact hP9, hD9⟩, hS.F ht⟩) hS.2.2 dX4_append_23
def oc_X6_isLost : List Cond := [.fieldLink RX6 15 "TraceTrees$Sheet" "form" "I"]
def vc_X6_isLost : List Cond := .code yX6_isLost cX6_isLost 1 (some .boolean) :: (oc_X6_isLost ++ (wsX60))
theorem iw_c_X6_isLost_X6 : ∀ w ∈ wsX60, w ∈ vc_X6_isLost := fun _ h => List.mem_cons_of_mem _ (List.mem_append_right _ (h))
theorem gd_c_X6_isLost : (vc_X6_isLost).all goodWord = true := by decide +kernel
set_option maxHeartbeats 4000000 in
set_option maxRecDepth 100000 in
theorem c_X6_isLost (l : Launch) (dC : Nat → ClassId) (dI : Nat → Nat → Nat) (cI cT cS : ClassId) (sz : Nat) (h0 : Nat) (it : Nat) (n0 : Int32)  : gCI (S := Unit) l yX6_isLost vc_X6_isLost ({ frames := 0, cells := 0, slots := 0, locals := 0 }) (dC, dI) (gTY cI cT cS) sz [.ref h0] [(h0, .inr (5, [.ref it, .int (-1), .int n0]))] (fun r u => r = 1) (fun _ => [(h0, .inr (5, [.ref it, .int (-1), .int n0]))]) 0 0 := by
  refine Met.ofW (cc := cX6_isLost) (maxL := 1) (ret := (some .boolean)) (by decide) rfl ?_
  intro p e s m args below meth c s₁ B hml hv
  obtain ⟨rfl, hsz, hP, hK, hD0⟩ := hv
  have hx := B.exec
  have hb := B.bytes
  have hr := B.returns
  have hts := atoms_spec (ws := vc_X6_isLost) B.pre
  have hown : s.vm.findClass RX6 = some m.cls := findClass_of_methodNamed B.named
  have hlocks := B.notSynchronized
  subst hsz
  have hD := hD0.self (sz := s.heap.size)
  generalize hAe : va_A [(h0, .inr (5, [.ref it, .int (-1), .int n0]))] s.heap.size = A at hD ⊢
  have hA : ∀ q : Nat, s.heap.size ≤ q → A q := fun q h => by rw [← hAe]; exact Or.inr h
  refine gstart (fun H locs hHe hLe => ?_)
  have hS : va_S A s.heap H locs := by rw [← hHe, ← hLe]; exact va_S.rf
  replace hP : va_P (dC, dI) vwCl [(h0, .inr (5, [.ref it, .int (-1), .int n0]))] H := by rw [← hHe]; exact hP
  clear hHe hLe
  have hl := lv_entry ([.ref h0]) (n := 1) (Nat.le_of_ble_eq_true rfl)
  rw [lg_entry_eq]
  generalize (lg_sl ([.ref h0]) ++ List.replicate (1 - (lg_sl ([.ref h0])).length) Slot.unset).toArray = ls at hl ⊢
  replace hl : lv_has ls 1 [(0, .ref h0)] := hl
  refine lv_aload_n hx hb dX6_isLost_0 rfl (lv_at hl 0 rfl) ?_
  refine va_get (D := (dC, dI)) (ci := 5) (v := .int (-1)) (C := RX6) (T := TX6) (N := 3) hx hb hts iw_c_X6_isLost_X6 hown hK.1 hP 0 rfl rfl 1 (by decide) (hts (.fieldLink RX6 15 "TraceTrees$Sheet" "form" "I") (List.mem_of_getElem? (i := 1) rfl)) (fun _ h9 => h9) rfl dX6_isLost_1 ?_
  refine lv_iconst (v := (-1)) hx hb dX6_isLost_4 (by decide) ?_
  refine lv_icmp_ne (tgt := 12) hx hb dX6_isLost_5 (by decide) (fun c_1 => ?_) (fun c_1 => ?_)
  · skip
    exact absurd c_1 (by decide)
  · skip
    refine lv_iconst (v := 1) hx hb dX6_isLost_8 (by decide) ?_
    refine lv_goto (tgt := 13) hx hb dX6_isLost_9 (by decide) ?_
    refine W.widen (k := 0) (n := 0) (Nat.le_of_ble_eq_true rfl) (Nat.le_of_ble_eq_true rfl) ?_
    have hP9 := hP.sub (ws' := [(h0, .inr (5, [.ref it, .int (-1), .int n0]))]) [0] rfl
    have hD9 := hD.sub (ws' := [(h0, .inr (5, [.ref it, .int (-1), .int n0]))]) [0] (by decide) rfl
    exact W.zret (v := 1) hx hb hr rfl (fun t ht hW => ⟨⟨1, (), rfl, rfl, by rw [ht]; exact hP9, hD9⟩, hS.F ht⟩) hS.2.2 dX6_isLost_13
def oc_X6_renew : List Cond := [.fieldLink RX6 15 "TraceTrees$Sheet" "form" "I", .fieldLink RX6 19 "TraceTrees$Sheet" "size" "I", .fieldLink RX6 9 "TraceTrees$Sheet" "items" "[I", .methodLink RX6 22 yJ7_fill_53178, .static yJ7_fill_53178, .initialized RJ7]
def vc_X6_renew : List Cond := .code yX6_renew cX6_renew 3 none :: (oc_X6_renew ++ (wsX60 ++ (vc_J7_fill_53178)))
theorem iw_c_X6_renew_X6 : ∀ w ∈ wsX60, w ∈ vc_X6_renew := fun _ h => List.mem_cons_of_mem _ (List.mem_append_right _ (List.mem_append_left _ h))
theorem ic_c_X6_renew_c_J7_fill_53178 : ∀ w ∈ vc_J7_fill_53178, w ∈ vc_X6_renew := fun _ h => List.mem_cons_of_mem _ (List.mem_append_right _ (List.mem_append_right _ (h)))
theorem gd_c_X6_renew : (vc_X6_renew).all goodWord = true := by decide +kernel
set_option maxHeartbeats 4000000 in
set_option maxRecDepth 100000 in
theorem c_X6_renew (l : Launch) (dC : Nat → ClassId) (dI : Nat → Nat → Nat) (cI cT cS : ClassId) (sz : Nat) (h0 : Nat) (it : Nat) (f0 : Int32) (n0 : Int32) (p1 : Int32) (p2 : Int32)  : gCV (S := Unit) l yX6_renew vc_X6_renew ({ frames := 1, cells := 0, slots := 0, locals := 23 }) (dC, dI) (gTY cI cT cS) sz [.ref h0, .int p1, .int p2] [(h0, .inr (5, [.ref it, .int f0, .int n0])), (it, .inl (cI, 60, .inl (fun _ => 0)))] (fun u => True) (fun _ => [(h0, .inr (5, [.ref it, .int p1, .int p2])), (it, .inl (cI, 60, .inl (fun _ => 0)))]) 0 0 := by
  refine Met.ofW (cc := cX6_renew) (maxL := 3) (ret := none) (by decide) rfl ?_
  intro p e s m args below meth c s₁ B hml hv
  obtain ⟨rfl, hsz, hP, hK, hD0⟩ := hv
  have hx := B.exec
  have hb := B.bytes
  have hr := B.returns
  have hts := atoms_spec (ws := vc_X6_renew) B.pre
  have hown : s.vm.findClass RX6 = some m.cls := findClass_of_methodNamed B.named
  have hlocks := B.notSynchronized
  subst hsz
  have hD := hD0.self (sz := s.heap.size)
  generalize hAe : va_A [(h0, .inr (5, [.ref it, .int f0, .int n0])), (it, .inl (cI, 60, .inl (fun _ => 0)))] s.heap.size = A at hD ⊢
  have hA : ∀ q : Nat, s.heap.size ≤ q → A q := fun q h => by rw [← hAe]; exact Or.inr h
  refine gstart (fun H locs hHe hLe => ?_)
  have hS : va_S A s.heap H locs := by rw [← hHe, ← hLe]; exact va_S.rf
  replace hP : va_P (dC, dI) vwCl [(h0, .inr (5, [.ref it, .int f0, .int n0])), (it, .inl (cI, 60, .inl (fun _ => 0)))] H := by rw [← hHe]; exact hP
  clear hHe hLe
  have hl := lv_entry ([.ref h0, .int p1, .int p2]) (n := 3) (Nat.le_of_ble_eq_true rfl)
  rw [lg_entry_eq]
  generalize (lg_sl ([.ref h0, .int p1, .int p2]) ++ List.replicate (3 - (lg_sl ([.ref h0, .int p1, .int p2])).length) Slot.unset).toArray = ls at hl ⊢
  replace hl : lv_has ls 3 [(0, .ref h0), (1, .int p1), (2, .int p2)] := hl
  refine lv_aload_n hx hb dX6_renew_0 rfl (lv_at hl 0 rfl) ?_
  refine lv_iload_n hx hb dX6_renew_1 rfl (lv_at hl 1 rfl) ?_
  refine va_put (D := (dC, dI)) (ci := 5) (v := .int p1) (ty := tyX6 1) (C := RX6) (T := TX6) (N := 3) hx hb hts iw_c_X6_renew_X6 tyX6 tyX6_ok nmX6 hown hK.1 hP hD hS 0 rfl rfl 1 (by decide) (hts (.fieldLink RX6 15 "TraceTrees$Sheet" "form" "I") (List.mem_of_getElem? (i := 1) rfl)) (fun _ h9 => h9) rfl (tyX6_ok 1 (by decide)) rfl rfl (Nat.le_of_ble_eq_true rfl) dX6_renew_2 (fun H locs hP hD hS => ?_)
  replace hP : va_P (dC, dI) vwCl [(h0, .inr (5, [.ref it, .int p1, .int n0])), (it, .inl (cI, 60, .inl (fun _ => 0)))] H := hP
  replace hD : va_D A [(h0, .inr (5, [.ref it, .int p1, .int n0])), (it, .inl (cI, 60, .inl (fun _ => 0)))] := hD
  refine lv_aload_n hx hb dX6_renew_5 rfl (lv_at hl 0 rfl) ?_
  refine lv_iload_n hx hb dX6_renew_6 rfl (lv_at hl 2 rfl) ?_
  refine va_put (D := (dC, dI)) (ci := 5) (v := .int p2) (ty := tyX6 2) (C := RX6) (T := TX6) (N := 3) hx hb hts iw_c_X6_renew_X6 tyX6 tyX6_ok nmX6 hown hK.1 hP hD hS 0 rfl rfl 2 (by decide) (hts (.fieldLink RX6 19 "TraceTrees$Sheet" "size" "I") (List.mem_of_getElem? (i := 2) rfl)) (fun _ h9 => h9) rfl (tyX6_ok 2 (by decide)) rfl rfl (Nat.le_of_ble_eq_true rfl) dX6_renew_7 (fun H locs hP hD hS => ?_)
  replace hP : va_P (dC, dI) vwCl [(h0, .inr (5, [.ref it, .int p1, .int p2])), (it, .inl (cI, 60, .inl (fun _ => 0)))] H := hP
  replace hD : va_D A [(h0, .inr (5, [.ref it, .int p1, .int p2])), (it, .inl (cI, 60, .inl (fun _ => 0)))] := hD
  refine lv_aload_n hx hb dX6_renew_10 rfl (lv_at hl 0 rfl) ?_
  refine va_get (D := (dC, dI)) (ci := 5) (v := .ref it) (C := RX6) (T := TX6) (N := 3) hx hb hts iw_c_X6_renew_X6 hown hK.1 hP 0 rfl rfl 0 (by decide) (hts (.fieldLink RX6 9 "TraceTrees$Sheet" "items" "[I") (List.mem_of_getElem? (i := 3) rfl)) (fun _ h9 => h9) rfl dX6_renew_11 ?_
  refine lv_iconst (v := 0) hx hb dX6_renew_14 (by decide) ?_
  refine gcallv (S := Unit) (wc := [(it, .inl (cI, 60, .inl (fun _ => 0)))]) (wr := [(h0, .inr (5, [.ref it, .int p1, .int p2]))]) (w1 := fun _ => [(it, .inl (cI, 60, .inl (fun _ => 0)))]) (va_runS (As := [.ref it, .int 0]) (rest := []) ⟨hx, hb, hml, hown, hts⟩ (c_J7_fill_53178 l dC dI cI cT cS H.size it 60 (by first | assumption | decide | omega)) (va_cwS 2 hts (gWS (List.mem_of_getElem? (i := 4) rfl) (List.mem_of_getElem? (i := 5) rfl) (List.mem_of_getElem? (i := 6) rfl) ic_c_X6_renew_c_J7_fill_53178 gd_c_J7_fill_53178) rfl rfl rfl (by decide +kernel) ⟨(Nat.le_of_ble_eq_true rfl), (Nat.le_of_ble_eq_true rfl)⟩) (gpS (hP.sub (ws' := [(it, .inl (cI, 60, .inl (fun _ => 0)))]) [1] rfl) hK (hD.sub (ws' := [(it, .inl (cI, 60, .inl (fun _ => 0)))]) [1] (by decide) rfl)) rfl rfl hl.1 rfl (lv_room (Nat.le_of_ble_eq_true rfl)) dX6_renew_15 ⟨(Nat.le_of_ble_eq_true rfl), (Nat.le_of_ble_eq_true rfl)⟩) hP hD hS hA [1] [0] rfl rfl (by decide) (by decide) (fun ur_1 H locs wr_1 hP hD hS => ?_)
  replace hP : va_P (dC, dI) vwCl [(h0, .inr (5, [.ref it, .int p1, .int p2])), (it, .inl (cI, 60, .inl (fun _ => 0)))] H := hP
  replace hD : va_D A [(h0, .inr (5, [.ref it, .int p1, .int p2])), (it, .inl (cI, 60, .inl (fun _ => 0)))] := hD
  refine W.widen (k := 0) (n := 0) (Nat.le_of_ble_eq_true rfl) (Nat.le_of_ble_eq_true rfl) ?_
  have hP9 := hP.sub (ws' := [(h0, .inr (5, [.ref it, .int p1, .int p2])), (it, .inl (cI, 60, .inl (fun _ => 0)))]) [0, 1] rfl
  have hD9 := hD.sub (ws' := [(h0, .inr (5, [.ref it, .int p1, .int p2])), (it, .inl (cI, 60, .inl (fun _ => 0)))]) [0, 1] (by decide) rfl
  exact W.vret hx hb hr (fun t ht hW => ⟨⟨(), rfl, trivial, by rw [ht]; exact hP9, hD9⟩, hS.F ht⟩) hS.2.2 dX6_renew_18
def oc_X6_faultAt : List Cond := [.methodLink RX6 28 yX6_isLost, .instanceMethod yX6_isLost, .selects RX6 yX6_isLost yX6_isLost, .initialized RX6]
def vc_X6_faultAt : List Cond := .code yX6_faultAt cX6_faultAt 3 (some .int) :: (oc_X6_faultAt ++ (vc_X6_isLost))
theorem ic_c_X6_faultAt_c_X6_isLost : ∀ w ∈ vc_X6_isLost, w ∈ vc_X6_faultAt := fun _ h => List.mem_cons_of_mem _ (List.mem_append_right _ (h))
theorem gd_c_X6_faultAt : (vc_X6_faultAt).all goodWord = true := by decide +kernel
set_option maxHeartbeats 4000000 in
set_option maxRecDepth 100000 in
theorem c_X6_faultAt (l : Launch) (dC : Nat → ClassId) (dI : Nat → Nat → Nat) (cI cT cS : ClassId) (sz : Nat) (h0 : Nat) (it : Nat) (n0 : Int32) (p1 : Int32) (p2 : Int32)  : gCI (S := Unit) l yX6_faultAt vc_X6_faultAt ({ frames := 1, cells := 0, slots := 0, locals := 20 }) (dC, dI) (gTY cI cT cS) sz [.ref h0, .int p1, .int p2] [(h0, .inr (5, [.ref it, .int (-1), .int n0]))] (fun r u => r = 1) (fun _ => [(h0, .inr (5, [.ref it, .int (-1), .int n0]))]) 0 0 := by
  refine Met.ofW (cc := cX6_faultAt) (maxL := 3) (ret := (some .int)) (by decide) rfl ?_
  intro p e s m args below meth c s₁ B hml hv
  obtain ⟨rfl, hsz, hP, hK, hD0⟩ := hv
  have hx := B.exec
  have hb := B.bytes
  have hr := B.returns
  have hts := atoms_spec (ws := vc_X6_faultAt) B.pre
  have hown : s.vm.findClass RX6 = some m.cls := findClass_of_methodNamed B.named
  have hlocks := B.notSynchronized
  subst hsz
  have hD := hD0.self (sz := s.heap.size)
  generalize hAe : va_A [(h0, .inr (5, [.ref it, .int (-1), .int n0]))] s.heap.size = A at hD ⊢
  have hA : ∀ q : Nat, s.heap.size ≤ q → A q := fun q h => by rw [← hAe]; exact Or.inr h
  refine gstart (fun H locs hHe hLe => ?_)
  have hS : va_S A s.heap H locs := by rw [← hHe, ← hLe]; exact va_S.rf
  replace hP : va_P (dC, dI) vwCl [(h0, .inr (5, [.ref it, .int (-1), .int n0]))] H := by rw [← hHe]; exact hP
  clear hHe hLe
  have hl := lv_entry ([.ref h0, .int p1, .int p2]) (n := 3) (Nat.le_of_ble_eq_true rfl)
  rw [lg_entry_eq]
  generalize (lg_sl ([.ref h0, .int p1, .int p2]) ++ List.replicate (3 - (lg_sl ([.ref h0, .int p1, .int p2])).length) Slot.unset).toArray = ls at hl ⊢
  replace hl : lv_has ls 3 [(0, .ref h0), (1, .int p1), (2, .int p2)] := hl
  refine lv_aload_n hx hb dX6_faultAt_0 rfl (lv_at hl 0 rfl) ?_
  refine gcalli (S := Unit) (wc := [(h0, .inr (5, [.ref it, .int (-1), .int n0]))]) (wr := []) (w1 := fun _ => [(h0, .inr (5, [.ref it, .int (-1), .int n0]))]) (va_runV (As := []) (rest := []) ⟨hx, hb, hml, hown, hts⟩ (c_X6_isLost l dC dI cI cT cS H.size h0 it n0 ) (cwV 0 hts (gWV (List.mem_of_getElem? (i := 1) rfl) (List.mem_of_getElem? (i := 2) rfl) (List.mem_of_getElem? (i := 3) rfl) (List.mem_of_getElem? (i := 4) rfl) ic_c_X6_faultAt_c_X6_isLost gd_c_X6_isLost) rfl rfl rfl (by decide +kernel) ⟨(Nat.le_of_ble_eq_true rfl), (Nat.le_of_ble_eq_true rfl)⟩) (gpV 0 5 (hP.sub (ws' := [(h0, .inr (5, [.ref it, .int (-1), .int n0]))]) [0] rfl) hK (hD.sub (ws' := [(h0, .inr (5, [.ref it, .int (-1), .int n0]))]) [0] (by decide) rfl) rfl rfl) rfl rfl hl.1 rfl (lv_room (Nat.le_of_ble_eq_true rfl)) dX6_faultAt_1 ⟨(Nat.le_of_ble_eq_true rfl), (Nat.le_of_ble_eq_true rfl)⟩) hP hD hS hA [0] [] rfl rfl (by decide) (by decide) (fun r_1 ur_1 H locs wr_1 hP hD hS => ?_)
  replace hP : va_P (dC, dI) vwCl [(h0, .inr (5, [.ref it, .int (-1), .int n0]))] H := hP
  replace hD : va_D A [(h0, .inr (5, [.ref it, .int (-1), .int n0]))] := hD
  obtain rfl : r_1 = 1 := (wr_1)
  refine lv_if_eq (tgt := 9) hx hb dX6_faultAt_4 (by decide) (fun c_2 => ?_) (fun c_2 => ?_)
  · skip
    exact absurd c_2 (by decide)
  · skip
    refine lv_iconst (v := 1) hx hb dX6_faultAt_7 (by decide) ?_
    refine W.widen (k := 0) (n := 0) (Nat.le_of_ble_eq_true rfl) (Nat.le_of_ble_eq_true rfl) ?_
    have hP9 := hP.sub (ws' := [(h0, .inr (5, [.ref it, .int (-1), .int n0]))]) [0] rfl
    have hD9 := hD.sub (ws' := [(h0, .inr (5, [.ref it, .int (-1), .int n0]))]) [0] (by decide) rfl
    exact W.iret (v := 1) hx hb hr (fun t ht hW => ⟨⟨1, (), rfl, rfl, by rw [ht]; exact hP9, hD9⟩, hS.F ht⟩) hS.2.2 dX6_faultAt_8
def oc_X2_has : List Cond := [.fieldLink RX2 36 "TraceTrees$Forest" "size" "I"]
def vc_X2_has : List Cond := .code yX2_has cX2_has 2 (some .boolean) :: (oc_X2_has ++ (wsX20))
theorem iw_c_X2_has_X2 : ∀ w ∈ wsX20, w ∈ vc_X2_has := fun _ h => List.mem_cons_of_mem _ (List.mem_append_right _ (h))
theorem gd_c_X2_has : (vc_X2_has).all goodWord = true := by decide +kernel
set_option maxHeartbeats 4000000 in
set_option maxRecDepth 100000 in
theorem c_X2_has (l : Launch) (dC : Nat → ClassId) (dI : Nat → Nat → Nat) (cI cT cS : ClassId) (sz : Nat) (h0 : Nat) (tq : Nat) (hq : Nat) (dq : Nat) (rq : Nat) (d0 : Int32) (p1 : Int32)  : gCI (S := Unit) l yX2_has vc_X2_has ({ frames := 0, cells := 0, slots := 0, locals := 0 }) (dC, dI) (gTY cI cT cS) sz [.ref h0, .int p1] [(h0, .inr (1, [.ref tq, .ref hq, .ref dq, .ref rq, .int 0, .int d0, .null]))] (fun r u => r = 0) (fun _ => [(h0, .inr (1, [.ref tq, .ref hq, .ref dq, .ref rq, .int 0, .int d0, .null]))]) 0 0 := by
  refine Met.ofW (cc := cX2_has) (maxL := 2) (ret := (some .boolean)) (by decide) rfl ?_
  intro p e s m args below meth c s₁ B hml hv
  obtain ⟨rfl, hsz, hP, hK, hD0⟩ := hv
  have hx := B.exec
  have hb := B.bytes
  have hr := B.returns
  have hts := atoms_spec (ws := vc_X2_has) B.pre
  have hown : s.vm.findClass RX2 = some m.cls := findClass_of_methodNamed B.named
  have hlocks := B.notSynchronized
  subst hsz
  have hD := hD0.self (sz := s.heap.size)
  generalize hAe : va_A [(h0, .inr (1, [.ref tq, .ref hq, .ref dq, .ref rq, .int 0, .int d0, .null]))] s.heap.size = A at hD ⊢
  have hA : ∀ q : Nat, s.heap.size ≤ q → A q := fun q h => by rw [← hAe]; exact Or.inr h
  refine gstart (fun H locs hHe hLe => ?_)
  have hS : va_S A s.heap H locs := by rw [← hHe, ← hLe]; exact va_S.rf
  replace hP : va_P (dC, dI) vwCl [(h0, .inr (1, [.ref tq, .ref hq, .ref dq, .ref rq, .int 0, .int d0, .null]))] H := by rw [← hHe]; exact hP
  clear hHe hLe
  have hl := lv_entry ([.ref h0, .int p1]) (n := 2) (Nat.le_of_ble_eq_true rfl)
  rw [lg_entry_eq]
  generalize (lg_sl ([.ref h0, .int p1]) ++ List.replicate (2 - (lg_sl ([.ref h0, .int p1])).length) Slot.unset).toArray = ls at hl ⊢
  replace hl : lv_has ls 2 [(0, .ref h0), (1, .int p1)] := hl
  refine lv_iload_n hx hb dX2_has_0 rfl (lv_at hl 1 rfl) ?_
  refine lv_if_lt (tgt := 16) hx hb dX2_has_1 (by decide) (fun c_1 => ?_) (fun c_1 => ?_)
  · skip
    refine lv_iconst (v := 0) hx hb dX2_has_16 (by decide) ?_
    refine W.widen (k := 0) (n := 0) (Nat.le_of_ble_eq_true rfl) (Nat.le_of_ble_eq_true rfl) ?_
    have hP9 := hP.sub (ws' := [(h0, .inr (1, [.ref tq, .ref hq, .ref dq, .ref rq, .int 0, .int d0, .null]))]) [0] rfl
    have hD9 := hD.sub (ws' := [(h0, .inr (1, [.ref tq, .ref hq, .ref dq, .ref rq, .int 0, .int d0, .null]))]) [0] (by decide) rfl
    exact W.zret (v := 0) hx hb hr rfl (fun t ht hW => ⟨⟨0, (), rfl, rfl, by rw [ht]; exact hP9, hD9⟩, hS.F ht⟩) hS.2.2 dX2_has_17
  · skip
    refine lv_iload_n hx hb dX2_has_4 rfl (lv_at hl 1 rfl) ?_
    refine lv_aload_n hx hb dX2_has_5 rfl (lv_at hl 0 rfl) ?_
    refine va_get (D := (dC, dI)) (ci := 1) (v := .int 0) (C := RX2) (T := TX2) (N := 7) hx hb hts iw_c_X2_has_X2 hown hK.1 hP 0 rfl rfl 4 (by decide) (hts (.fieldLink RX2 36 "TraceTrees$Forest" "size" "I") (List.mem_of_getElem? (i := 1) rfl)) (fun _ h9 => h9) rfl dX2_has_6 ?_
    refine lv_icmp_ge (tgt := 16) hx hb dX2_has_9 (by decide) (fun c_2 => ?_) (fun c_2 => ?_)
    · skip
      refine lv_iconst (v := 0) hx hb dX2_has_16 (by decide) ?_
      refine W.widen (k := 0) (n := 0) (Nat.le_of_ble_eq_true rfl) (Nat.le_of_ble_eq_true rfl) ?_
      have hP9 := hP.sub (ws' := [(h0, .inr (1, [.ref tq, .ref hq, .ref dq, .ref rq, .int 0, .int d0, .null]))]) [0] rfl
      have hD9 := hD.sub (ws' := [(h0, .inr (1, [.ref tq, .ref hq, .ref dq, .ref rq, .int 0, .int d0, .null]))]) [0] (by decide) rfl
      exact W.zret (v := 0) hx hb hr rfl (fun t ht hW => ⟨⟨0, (), rfl, rfl, by rw [ht]; exact hP9, hD9⟩, hS.F ht⟩) hS.2.2 dX2_has_17
    · skip
      exfalso; (try simp only [← Int32.toInt_inj, Int32.lt_iff_toInt_lt, Int32.le_iff_toInt_le, ← Int64.toInt_inj, Int64.lt_iff_toInt_lt, Int64.le_iff_toInt_le, Int32.toInt_toInt64, (show (0 : Int32).toInt = 0 from rfl), (show (1 : Int32).toInt = 1 from rfl), (show (0 : Int64).toInt = 0 from rfl)] at c_1); (try simp only [← Int32.toInt_inj, Int32.lt_iff_toInt_lt, Int32.le_iff_toInt_le, ← Int64.toInt_inj, Int64.lt_iff_toInt_lt, Int64.le_iff_toInt_le, Int32.toInt_toInt64, (show (0 : Int32).toInt = 0 from rfl), (show (1 : Int32).toInt = 1 from rfl), (show (0 : Int64).toInt = 0 from rfl)] at c_2); omega
def oc_X2_hasEntry : List Cond := [.methodLink RX2 47 yX2_has, .instanceMethod yX2_has, .selects RX2 yX2_has yX2_has, .initialized RX2]
def vc_X2_hasEntry : List Cond := .code yX2_hasEntry cX2_hasEntry 3 (some .boolean) :: (oc_X2_hasEntry ++ (vc_X2_has))
theorem ic_c_X2_hasEntry_c_X2_has : ∀ w ∈ vc_X2_has, w ∈ vc_X2_hasEntry := fun _ h => List.mem_cons_of_mem _ (List.mem_append_right _ (h))
theorem gd_c_X2_hasEntry : (vc_X2_hasEntry).all goodWord = true := by decide +kernel
set_option maxHeartbeats 4000000 in
set_option maxRecDepth 100000 in
theorem c_X2_hasEntry (l : Launch) (dC : Nat → ClassId) (dI : Nat → Nat → Nat) (cI cT cS : ClassId) (sz : Nat) (h0 : Nat) (tq : Nat) (hq : Nat) (dq : Nat) (rq : Nat) (d0 : Int32) (p1 : Int32) (p2 : Int32)  : gCI (S := Unit) l yX2_hasEntry vc_X2_hasEntry ({ frames := 1, cells := 0, slots := 0, locals := 21 }) (dC, dI) (gTY cI cT cS) sz [.ref h0, .int p1, .int p2] [(h0, .inr (1, [.ref tq, .ref hq, .ref dq, .ref rq, .int 0, .int d0, .null]))] (fun r u => r = 0) (fun _ => [(h0, .inr (1, [.ref tq, .ref hq, .ref dq, .ref rq, .int 0, .int d0, .null]))]) 0 0 := by
  refine Met.ofW (cc := cX2_hasEntry) (maxL := 3) (ret := (some .boolean)) (by decide) rfl ?_
  intro p e s m args below meth c s₁ B hml hv
  obtain ⟨rfl, hsz, hP, hK, hD0⟩ := hv
  have hx := B.exec
  have hb := B.bytes
  have hr := B.returns
  have hts := atoms_spec (ws := vc_X2_hasEntry) B.pre
  have hown : s.vm.findClass RX2 = some m.cls := findClass_of_methodNamed B.named
  have hlocks := B.notSynchronized
  subst hsz
  have hD := hD0.self (sz := s.heap.size)
  generalize hAe : va_A [(h0, .inr (1, [.ref tq, .ref hq, .ref dq, .ref rq, .int 0, .int d0, .null]))] s.heap.size = A at hD ⊢
  have hA : ∀ q : Nat, s.heap.size ≤ q → A q := fun q h => by rw [← hAe]; exact Or.inr h
  refine gstart (fun H locs hHe hLe => ?_)
  have hS : va_S A s.heap H locs := by rw [← hHe, ← hLe]; exact va_S.rf
  replace hP : va_P (dC, dI) vwCl [(h0, .inr (1, [.ref tq, .ref hq, .ref dq, .ref rq, .int 0, .int d0, .null]))] H := by rw [← hHe]; exact hP
  clear hHe hLe
  have hl := lv_entry ([.ref h0, .int p1, .int p2]) (n := 3) (Nat.le_of_ble_eq_true rfl)
  rw [lg_entry_eq]
  generalize (lg_sl ([.ref h0, .int p1, .int p2]) ++ List.replicate (3 - (lg_sl ([.ref h0, .int p1, .int p2])).length) Slot.unset).toArray = ls at hl ⊢
  replace hl : lv_has ls 3 [(0, .ref h0), (1, .int p1), (2, .int p2)] := hl
  refine lv_aload_n hx hb dX2_hasEntry_0 rfl (lv_at hl 0 rfl) ?_
  refine lv_iload_n hx hb dX2_hasEntry_1 rfl (lv_at hl 1 rfl) ?_
  refine gcalli (S := Unit) (wc := [(h0, .inr (1, [.ref tq, .ref hq, .ref dq, .ref rq, .int 0, .int d0, .null]))]) (wr := []) (w1 := fun _ => [(h0, .inr (1, [.ref tq, .ref hq, .ref dq, .ref rq, .int 0, .int d0, .null]))]) (va_runV (As := [.int p1]) (rest := []) ⟨hx, hb, hml, hown, hts⟩ (c_X2_has l dC dI cI cT cS H.size h0 tq hq dq rq d0 p1 ) (cwV 1 hts (gWV (List.mem_of_getElem? (i := 1) rfl) (List.mem_of_getElem? (i := 2) rfl) (List.mem_of_getElem? (i := 3) rfl) (List.mem_of_getElem? (i := 4) rfl) ic_c_X2_hasEntry_c_X2_has gd_c_X2_has) rfl rfl rfl (by decide +kernel) ⟨(Nat.le_of_ble_eq_true rfl), (Nat.le_of_ble_eq_true rfl)⟩) (gpV 0 1 (hP.sub (ws' := [(h0, .inr (1, [.ref tq, .ref hq, .ref dq, .ref rq, .int 0, .int d0, .null]))]) [0] rfl) hK (hD.sub (ws' := [(h0, .inr (1, [.ref tq, .ref hq, .ref dq, .ref rq, .int 0, .int d0, .null]))]) [0] (by decide) rfl) rfl rfl) rfl rfl hl.1 rfl (lv_room (Nat.le_of_ble_eq_true rfl)) dX2_hasEntry_2 ⟨(Nat.le_of_ble_eq_true rfl), (Nat.le_of_ble_eq_true rfl)⟩) hP hD hS hA [0] [] rfl rfl (by decide) (by decide) (fun r_1 ur_1 H locs wr_1 hP hD hS => ?_)
  replace hP : va_P (dC, dI) vwCl [(h0, .inr (1, [.ref tq, .ref hq, .ref dq, .ref rq, .int 0, .int d0, .null]))] H := hP
  replace hD : va_D A [(h0, .inr (1, [.ref tq, .ref hq, .ref dq, .ref rq, .int 0, .int d0, .null]))] := hD
  obtain rfl : r_1 = 0 := (wr_1)
  refine lv_if_eq (tgt := 29) hx hb dX2_hasEntry_5 (by decide) (fun c_2 => ?_) (fun c_2 => ?_)
  · skip
    refine lv_iconst (v := 0) hx hb dX2_hasEntry_29 (by decide) ?_
    refine W.widen (k := 0) (n := 0) (Nat.le_of_ble_eq_true rfl) (Nat.le_of_ble_eq_true rfl) ?_
    have hP9 := hP.sub (ws' := [(h0, .inr (1, [.ref tq, .ref hq, .ref dq, .ref rq, .int 0, .int d0, .null]))]) [0] rfl
    have hD9 := hD.sub (ws' := [(h0, .inr (1, [.ref tq, .ref hq, .ref dq, .ref rq, .int 0, .int d0, .null]))]) [0] (by decide) rfl
    exact W.zret (v := 0) hx hb hr rfl (fun t ht hW => ⟨⟨0, (), rfl, rfl, by rw [ht]; exact hP9, hD9⟩, hS.F ht⟩) hS.2.2 dX2_hasEntry_30
  · skip
    exact absurd c_2 (by decide)
def oc_X2_entriesInAll : List Cond := [.fieldLink RX2 36 "TraceTrees$Forest" "size" "I"]
def vc_X2_entriesInAll : List Cond := .code yX2_entriesInAll cX2_entriesInAll 3 (some .int) :: (oc_X2_entriesInAll ++ (wsX20))
theorem iw_c_X2_entriesInAll_X2 : ∀ w ∈ wsX20, w ∈ vc_X2_entriesInAll := fun _ h => List.mem_cons_of_mem _ (List.mem_append_right _ (h))
theorem gd_c_X2_entriesInAll : (vc_X2_entriesInAll).all goodWord = true := by decide +kernel
set_option maxHeartbeats 4000000 in
set_option maxRecDepth 100000 in
theorem c_X2_entriesInAll (l : Launch) (dC : Nat → ClassId) (dI : Nat → Nat → Nat) (cI cT cS : ClassId) (sz : Nat) (h0 : Nat) (tq : Nat) (hq : Nat) (dq : Nat) (rq : Nat) (d0 : Int32)  : gCI (S := Unit) l yX2_entriesInAll vc_X2_entriesInAll ({ frames := 0, cells := 0, slots := 0, locals := 0 }) (dC, dI) (gTY cI cT cS) sz [.ref h0] [(h0, .inr (1, [.ref tq, .ref hq, .ref dq, .ref rq, .int 0, .int d0, .null]))] (fun r u => r = 0) (fun _ => [(h0, .inr (1, [.ref tq, .ref hq, .ref dq, .ref rq, .int 0, .int d0, .null]))]) 0 0 := by
  refine Met.ofW (cc := cX2_entriesInAll) (maxL := 3) (ret := (some .int)) (by decide) rfl ?_
  intro p e s m args below meth c s₁ B hml hv
  obtain ⟨rfl, hsz, hP, hK, hD0⟩ := hv
  have hx := B.exec
  have hb := B.bytes
  have hr := B.returns
  have hts := atoms_spec (ws := vc_X2_entriesInAll) B.pre
  have hown : s.vm.findClass RX2 = some m.cls := findClass_of_methodNamed B.named
  have hlocks := B.notSynchronized
  subst hsz
  have hD := hD0.self (sz := s.heap.size)
  generalize hAe : va_A [(h0, .inr (1, [.ref tq, .ref hq, .ref dq, .ref rq, .int 0, .int d0, .null]))] s.heap.size = A at hD ⊢
  have hA : ∀ q : Nat, s.heap.size ≤ q → A q := fun q h => by rw [← hAe]; exact Or.inr h
  refine gstart (fun H locs hHe hLe => ?_)
  have hS : va_S A s.heap H locs := by rw [← hHe, ← hLe]; exact va_S.rf
  replace hP : va_P (dC, dI) vwCl [(h0, .inr (1, [.ref tq, .ref hq, .ref dq, .ref rq, .int 0, .int d0, .null]))] H := by rw [← hHe]; exact hP
  clear hHe hLe
  have hl := lv_entry ([.ref h0]) (n := 3) (Nat.le_of_ble_eq_true rfl)
  rw [lg_entry_eq]
  generalize (lg_sl ([.ref h0]) ++ List.replicate (3 - (lg_sl ([.ref h0])).length) Slot.unset).toArray = ls at hl ⊢
  replace hl : lv_has ls 3 [(0, .ref h0)] := hl
  refine lv_iconst (v := 0) hx hb dX2_entriesInAll_0 (by decide) ?_
  refine lv_istore_n (lv' := [(1, .int 0), (0, .ref h0)]) hx hb dX2_entriesInAll_1 rfl hl (by decide) rfl (fun ls hl => ?_)
  refine lv_iconst (v := 0) hx hb dX2_entriesInAll_2 (by decide) ?_
  refine lv_istore_n (lv' := [(2, .int 0), (1, .int 0), (0, .ref h0)]) hx hb dX2_entriesInAll_3 rfl hl (by decide) rfl (fun ls hl => ?_)
  refine lv_iload_n hx hb dX2_entriesInAll_4 rfl (lv_at hl 0 rfl) ?_
  refine lv_aload_n hx hb dX2_entriesInAll_5 rfl (lv_at hl 2 rfl) ?_
  refine va_get (D := (dC, dI)) (ci := 1) (v := .int 0) (C := RX2) (T := TX2) (N := 7) hx hb hts iw_c_X2_entriesInAll_X2 hown hK.1 hP 0 rfl rfl 4 (by decide) (hts (.fieldLink RX2 36 "TraceTrees$Forest" "size" "I") (List.mem_of_getElem? (i := 1) rfl)) (fun _ h9 => h9) rfl dX2_entriesInAll_6 ?_
  refine lv_icmp_ge (tgt := 30) hx hb dX2_entriesInAll_9 (by decide) (fun c_1 => ?_) (fun c_1 => ?_)
  · skip
    refine lv_iload_n hx hb dX2_entriesInAll_30 rfl (lv_at hl 1 rfl) ?_
    refine W.widen (k := 0) (n := 0) (Nat.le_of_ble_eq_true rfl) (Nat.le_of_ble_eq_true rfl) ?_
    have hP9 := hP.sub (ws' := [(h0, .inr (1, [.ref tq, .ref hq, .ref dq, .ref rq, .int 0, .int d0, .null]))]) [0] rfl
    have hD9 := hD.sub (ws' := [(h0, .inr (1, [.ref tq, .ref hq, .ref dq, .ref rq, .int 0, .int d0, .null]))]) [0] (by decide) rfl
    exact W.iret (v := 0) hx hb hr (fun t ht hW => ⟨⟨0, (), rfl, rfl, by rw [ht]; exact hP9, hD9⟩, hS.F ht⟩) hS.2.2 dX2_entriesInAll_31
  · skip
    exact absurd c_1 (by decide)
