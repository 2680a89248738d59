def zf_X9_forgetRuns (σ : Sg) : Sg := su (su (su σ 0 9 (0 : Int32)) 0 10 (0 : Int32)) 0 11 (0 : Int32)
def oc_X9_forgetRuns : List Cond := [.fieldLink RX9 217 "TraceTrees" "runIsFresh" "Z", .fieldLink RX9 221 "TraceTrees" "plainIsFresh" "Z", .fieldLink RX9 224 "TraceTrees" "betterIsFresh" "Z"]
def vc_X9_forgetRuns : List Cond := .code yX9_forgetRuns cX9_forgetRuns 1 none :: (oc_X9_forgetRuns ++ (wsX90))
theorem iw_X9_forgetRuns_X9 : ∀ w ∈ wsX90, w ∈ vc_X9_forgetRuns := fun _ h => List.mem_cons_of_mem _ (List.mem_append_right _ (h))
theorem gd_c_X9_forgetRuns : (vc_X9_forgetRuns).all goodWord = true := gall_cons rfl (gall_app (by decide +kernel) gw_X9)
set_option maxHeartbeats 4000000 in
set_option maxRecDepth 100000 in
theorem c_X9_forgetRuns (l : Launch) (dC : Nat → ClassId) (dI : Nat → Nat → Nat) (cI cT cS : ClassId) (sz : Nat) (ad : Nat → Nat) (σ : Sg) (o : Sg) (h : zf_X9_forgetRuns σ = o) : gCV (S := Unit) l yX9_forgetRuns vc_X9_forgetRuns { frames := 0, cells := 0, slots := 0, locals := 0 } (dC, dI) (gTY cI cT cS) sz [.ref (ad 0)] (Wd 153 (cfC ad cI cT cS) σ) (fun (_ : Unit) => True) (fun (_ : Unit) => (Wd 153 (cfC ad cI cT cS) o)) 0 0 := by
  refine Met.ofW (cc := cX9_forgetRuns) (maxL := 1) (ret := none) (by decide) rfl ?_
  intro p e s m args below meth c s₁ B hml hv
  obtain ⟨rfl, hsz, hP, hK, hD0⟩ := hv
  have hx := B.exec
  have hb := B.bytes
  have hr := B.returns
  have hts := atoms_spec (ws := vc_X9_forgetRuns) B.pre
  have hown : s.vm.findClass RX9 = some m.cls := findClass_of_methodNamed B.named
  have hlocks := B.notSynchronized
  subst hsz
  have hD := hD0.self (sz := s.heap.size)
  generalize hAe : va_A (Wd 153 (cfC ad cI cT cS) σ) s.heap.size = A at hD ⊢
  have hA : ∀ q : Nat, s.heap.size ≤ q → A q := fun q h => by rw [← hAe]; exact Or.inr h
  clear hAe hD0
  refine gstart (fun H locs hHe hLe => ?_)
  have hS : va_S A s.heap H locs := by rw [← hHe, ← hLe]; exact va_S.rf
  replace hP : va_P (dC, dI) vwCl (Wd 153 (cfC ad cI cT cS) σ) H := by rw [← hHe]; exact hP
  clear hHe hLe
  have hl := lv_entry ([.ref (ad 0)]) (n := 1) (Nat.le_of_ble_eq_true rfl)
  rw [lg_entry_eq]
  generalize (lg_sl ([.ref (ad 0)]) ++ List.replicate (1 - (lg_sl ([.ref (ad 0)])).length) Slot.unset).toArray = ls at hl ⊢
  replace hl : lv_has ls 1 [(0, .ref (ad 0))] := hl
  unfold zf_X9_forgetRuns at h
  refine lv_aload_n hx hb dX9_forgetRuns_0 rfl (lv_at hl 0 rfl) ?_
  refine lv_iconst (v := 0) hx hb dX9_forgetRuns_1 (by decide) ?_
  refine pf_X9_9 (Or.inl rfl) hx hb hts iw_X9_forgetRuns_X9 hown hK hP hD hS (hts (.fieldLink RX9 217 "TraceTrees" "runIsFresh" "Z") (List.mem_of_getElem? (i := 1) rfl)) dX9_forgetRuns_2 (fun H locs hP hD hS => ?_)
  refine lv_aload_n hx hb dX9_forgetRuns_5 rfl (lv_at hl 0 rfl) ?_
  refine lv_iconst (v := 0) hx hb dX9_forgetRuns_6 (by decide) ?_
  refine pf_X9_10 (Or.inl rfl) hx hb hts iw_X9_forgetRuns_X9 hown hK hP hD hS (hts (.fieldLink RX9 221 "TraceTrees" "plainIsFresh" "Z") (List.mem_of_getElem? (i := 2) rfl)) dX9_forgetRuns_7 (fun H locs hP hD hS => ?_)
  refine lv_aload_n hx hb dX9_forgetRuns_10 rfl (lv_at hl 0 rfl) ?_
  refine lv_iconst (v := 0) hx hb dX9_forgetRuns_11 (by decide) ?_
  refine pf_X9_11 (Or.inl rfl) hx hb hts iw_X9_forgetRuns_X9 hown hK hP hD hS (hts (.fieldLink RX9 224 "TraceTrees" "betterIsFresh" "Z") (List.mem_of_getElem? (i := 3) rfl)) dX9_forgetRuns_12 (fun H locs hP hD hS => ?_)
  have h9 := h
  exact wretv hx hb hr hlocks hP hD hS trivial (by rw [← h9]) dX9_forgetRuns_15
def zf_X9_add (a1 : Int32) (a2 : Int32) (a3 : Int32) (a4 : Int32) (σ : Sg) : Option (Int32 × Sg) := (if (zf_X4_allows a1 a2 a3 a4) = true then (if (σ 1 4) < (24 : Int32) then obd (zf_X4_append a1 a2 a3 a4 σ) (fun σ4 => letb (zf_X9_forgetRuns σ4) (fun q6 => some ((q6 1 4), q6))) else some ((-4 : Int32), σ)) else some ((-2 : Int32), σ))
def oc_X9_add : List Cond := [.methodLink RX9 52 yX4_allows, .static yX4_allows, .initialized RX4, .fieldLink RX9 10 "TraceTrees" "program" "LTraceTrees$Program;", .fieldLink RX9 56 "TraceTrees$Program" "size" "I", .methodLink RX9 59 yX4_append, .instanceMethod yX4_append, .selects RX4 yX4_append yX4_append, .methodLink RX9 63 yX9_forgetRuns, .instanceMethod yX9_forgetRuns, .selects RX9 yX9_forgetRuns yX9_forgetRuns, .initialized RX9]
def vc_X9_add : List Cond := .code yX9_add cX9_add 5 (some .int) :: (oc_X9_add ++ (wsX90 ++ (wsX40 ++ (vc_X4_allows ++ (vc_X4_append ++ (vc_X9_forgetRuns))))))
theorem iw_X9_add_X9 : ∀ w ∈ wsX90, w ∈ vc_X9_add := fun _ h => List.mem_cons_of_mem _ (List.mem_append_right _ (List.mem_append_left _ h))
theorem iw_X9_add_X4 : ∀ w ∈ wsX40, w ∈ vc_X9_add := fun _ h => List.mem_cons_of_mem _ (List.mem_append_right _ (List.mem_append_right _ (List.mem_append_left _ h)))
theorem ic_X9_add_c_X4_allows : ∀ w ∈ vc_X4_allows, w ∈ vc_X9_add := fun _ h => List.mem_cons_of_mem _ (List.mem_append_right _ (List.mem_append_right _ (List.mem_append_right _ (List.mem_append_left _ h))))
theorem ic_X9_add_c_X4_append : ∀ w ∈ vc_X4_append, w ∈ vc_X9_add := fun _ h => List.mem_cons_of_mem _ (List.mem_append_right _ (List.mem_append_right _ (List.mem_append_right _ (List.mem_append_right _ (List.mem_append_left _ h)))))
theorem ic_X9_add_c_X9_forgetRuns : ∀ w ∈ vc_X9_forgetRuns, w ∈ vc_X9_add := fun _ h => List.mem_cons_of_mem _ (List.mem_append_right _ (List.mem_append_right _ (List.mem_append_right _ (List.mem_append_right _ (List.mem_append_right _ (h))))))
theorem gd_c_X9_add : (vc_X9_add).all goodWord = true := gall_cons rfl (gall_app (by decide +kernel) (gall_app gw_X9 (gall_app gw_X4 (gall_app gd_c_X4_allows (gall_app gd_c_X4_append gd_c_X9_forgetRuns)))))
set_option maxHeartbeats 4000000 in
set_option maxRecDepth 100000 in
theorem c_X9_add (l : Launch) (dC : Nat → ClassId) (dI : Nat → Nat → Nat) (cI cT cS : ClassId) (sz : Nat) (ad : Nat → Nat) (a1 : Int32) (a2 : Int32) (a3 : Int32) (a4 : Int32) (σ : Sg) (o : Int32 × Sg) (h : zf_X9_add a1 a2 a3 a4 σ = some o) : gCI (S := Unit) l yX9_add vc_X9_add { frames := 2, cells := 0, slots := 0, locals := 49 } (dC, dI) (gTY cI cT cS) sz [.ref (ad 0), .int a1, .int a2, .int a3, .int a4] (Wd 153 (cfC ad cI cT cS) σ) (fun (r : Int32) (_ : Unit) => r = o.1) (fun (_ : Unit) => (Wd 153 (cfC ad cI cT cS) o.2)) 0 0 := by
  refine Met.ofW (cc := cX9_add) (maxL := 5) (ret := (some .int)) (by decide) rfl ?_
  intro p e s m args below meth c s₁ B hml hv
  obtain ⟨rfl, hsz, hP, hK, hD0⟩ := hv
  have hx := B.exec
  have hb := B.bytes
  have hr := B.returns
  have hts := atoms_spec (ws := vc_X9_add) B.pre
  have hown : s.vm.findClass RX9 = some m.cls := findClass_of_methodNamed B.named
  have hlocks := B.notSynchronized
  subst hsz
  have hD := hD0.self (sz := s.heap.size)
  generalize hAe : va_A (Wd 153 (cfC ad cI cT cS) σ) s.heap.size = A at hD ⊢
  have hA : ∀ q : Nat, s.heap.size ≤ q → A q := fun q h => by rw [← hAe]; exact Or.inr h
  clear hAe hD0
  refine gstart (fun H locs hHe hLe => ?_)
  have hS : va_S A s.heap H locs := by rw [← hHe, ← hLe]; exact va_S.rf
  replace hP : va_P (dC, dI) vwCl (Wd 153 (cfC ad cI cT cS) σ) H := by rw [← hHe]; exact hP
  clear hHe hLe
  have hl := lv_entry ([.ref (ad 0), .int a1, .int a2, .int a3, .int a4]) (n := 5) (Nat.le_of_ble_eq_true rfl)
  rw [lg_entry_eq]
  generalize (lg_sl ([.ref (ad 0), .int a1, .int a2, .int a3, .int a4]) ++ List.replicate (5 - (lg_sl ([.ref (ad 0), .int a1, .int a2, .int a3, .int a4])).length) Slot.unset).toArray = ls at hl ⊢
  replace hl : lv_has ls 5 [(0, .ref (ad 0)), (1, .int a1), (2, .int a2), (3, .int a3), (4, .int a4)] := hl
  unfold zf_X9_add at h
  refine lv_iload_n hx hb dX9_add_0 rfl (lv_at hl 1 rfl) ?_
  refine lv_iload_n hx hb dX9_add_1 rfl (lv_at hl 2 rfl) ?_
  refine lv_iload_n hx hb dX9_add_2 rfl (lv_at hl 3 rfl) ?_
  refine lv_iload hx hb dX9_add_3 (lv_at hl 4 rfl) ?_
  refine wcalli (S := Unit) (va_runS (As := [.int a1, .int a2, .int a3, .int a4]) (rest := []) ⟨hx, hb, hml, hown, hts⟩ (c_X4_allows l dC dI cI cT cS H.size (Wd 153 (cfC ad cI cT cS) σ)  a1 a2 a3 a4 _ rfl) (va_cwS 4 hts (gWS (List.mem_of_getElem? (i := 1) rfl) (List.mem_of_getElem? (i := 2) rfl) (List.mem_of_getElem? (i := 3) rfl) ic_X9_add_c_X4_allows gd_c_X4_allows) rfl rfl rfl (by decide +kernel) ⟨(Nat.le_of_ble_eq_true rfl), (Nat.le_of_ble_eq_true rfl)⟩) (gpS hP hK hD) rfl rfl hl.1 rfl (lv_room (Nat.le_of_ble_eq_true rfl)) dX9_add_5 ⟨(Nat.le_of_ble_eq_true rfl), (Nat.le_of_ble_eq_true rfl)⟩) hP hD hS hA (fun rr1 _ H locs hr1 hP hD hS => ?_)
  refine lv_nm (y := b2i (zf_X4_allows a1 a2 a3 a4)) hr1 ?_
  refine lv_if_ne (tgt := 14) hx hb dX9_add_8 (by decide) (fun c2 => ?_) (fun c2 => ?_)
  · replace h := ifp (b2i_1 c2) h
    refine lv_aload_n hx hb dX9_add_14 rfl (lv_at hl 0 rfl) ?_
    refine gf_X9_0 hx hb hts iw_X9_add_X9 hown hK hP (hts (.fieldLink RX9 10 "TraceTrees" "program" "LTraceTrees$Program;") (List.mem_of_getElem? (i := 4) rfl)) dX9_add_15 ?_
    refine gf_X4_4 hx hb hts iw_X9_add_X4 hown hK hP (hts (.fieldLink RX9 56 "TraceTrees$Program" "size" "I") (List.mem_of_getElem? (i := 5) rfl)) dX9_add_18 ?_
    refine lv_bipush (v := 24) hx hb dX9_add_21 (by decide) ?_
    refine lv_icmp_lt (tgt := 29) hx hb dX9_add_23 (by decide) (fun c3 => ?_) (fun c3 => ?_)
    · replace h := ifp (c3) h
      refine lv_aload_n hx hb dX9_add_29 rfl (lv_at hl 0 rfl) ?_
      refine gf_X9_0 hx hb hts iw_X9_add_X9 hown hK hP (hts (.fieldLink RX9 10 "TraceTrees" "program" "LTraceTrees$Program;") (List.mem_of_getElem? (i := 4) rfl)) dX9_add_30 ?_
      refine lv_iload_n hx hb dX9_add_33 rfl (lv_at hl 1 rfl) ?_
      refine lv_iload_n hx hb dX9_add_34 rfl (lv_at hl 2 rfl) ?_
      refine lv_iload_n hx hb dX9_add_35 rfl (lv_at hl 3 rfl) ?_
      refine lv_iload hx hb dX9_add_36 (lv_at hl 4 rfl) ?_
      obtain ⟨σ4, hc4, h⟩ := obd_inv h
      refine wcallv (S := Unit) (va_runV (As := [.int a1, .int a2, .int a3, .int a4]) (rest := []) ⟨hx, hb, hml, hown, hts⟩ (c_X4_append l dC dI cI cT cS H.size ad  a1 a2 a3 a4 σ _ hc4) (cwV 4 hts (gWV (List.mem_of_getElem? (i := 6) rfl) (List.mem_of_getElem? (i := 7) rfl) (List.mem_of_getElem? (i := 8) rfl) (List.mem_of_getElem? (i := 3) rfl) ic_X9_add_c_X4_append gd_c_X4_append) rfl rfl rfl (by decide +kernel) ⟨(Nat.le_of_ble_eq_true rfl), (Nat.le_of_ble_eq_true rfl)⟩) (wpV (q := (RX4, TX4, 5)) hP hK hD oX4 rfl) rfl rfl hl.1 rfl (lv_room (Nat.le_of_ble_eq_true rfl)) dX9_add_38 ⟨(Nat.le_of_ble_eq_true rfl), (Nat.le_of_ble_eq_true rfl)⟩) hP hD hS hA (fun _ H locs hr5 hP hD hS => ?_)
      replace hP : va_P (dC, dI) vwCl (Wd 153 (cfC ad cI cT cS) σ4) H := hP
      replace hD : va_D A (Wd 153 (cfC ad cI cT cS) σ4) := hD
      refine lv_aload_n hx hb dX9_add_41 rfl (lv_at hl 0 rfl) ?_
      obtain ⟨q6, hc6, h⟩ := letb_inv h
      refine wcallv (S := Unit) (va_runV (As := []) (rest := []) ⟨hx, hb, hml, hown, hts⟩ (c_X9_forgetRuns l dC dI cI cT cS H.size ad   σ4 _ hc6) (cwV 0 hts (gWV (List.mem_of_getElem? (i := 9) rfl) (List.mem_of_getElem? (i := 10) rfl) (List.mem_of_getElem? (i := 11) rfl) (List.mem_of_getElem? (i := 12) rfl) ic_X9_add_c_X9_forgetRuns gd_c_X9_forgetRuns) rfl rfl rfl (by decide +kernel) ⟨(Nat.le_of_ble_eq_true rfl), (Nat.le_of_ble_eq_true rfl)⟩) (wpV (q := (RX9, TX9, 14)) hP hK hD oX9 rfl) rfl rfl hl.1 rfl (lv_room (Nat.le_of_ble_eq_true rfl)) dX9_add_42 ⟨(Nat.le_of_ble_eq_true rfl), (Nat.le_of_ble_eq_true rfl)⟩) hP hD hS hA (fun _ H locs hr7 hP hD hS => ?_)
      replace hP : va_P (dC, dI) vwCl (Wd 153 (cfC ad cI cT cS) q6) H := hP
      replace hD : va_D A (Wd 153 (cfC ad cI cT cS) q6) := hD
      refine lv_aload_n hx hb dX9_add_45 rfl (lv_at hl 0 rfl) ?_
      refine gf_X9_0 hx hb hts iw_X9_add_X9 hown hK hP (hts (.fieldLink RX9 10 "TraceTrees" "program" "LTraceTrees$Program;") (List.mem_of_getElem? (i := 4) rfl)) dX9_add_46 ?_
      refine gf_X4_4 hx hb hts iw_X9_add_X4 hown hK hP (hts (.fieldLink RX9 56 "TraceTrees$Program" "size" "I") (List.mem_of_getElem? (i := 5) rfl)) dX9_add_49 ?_
      have h9 := Option.some.inj h
      exact wreti hx hb hr hlocks hP hD hS (by show _ = _; rw [← h9]; first | done | rfl) (by rw [← h9]) dX9_add_52
    · replace h := ifn (c3) h
      refine lv_bipush (v := (-4)) hx hb dX9_add_26 (by decide) ?_
      have h9 := Option.some.inj h
      exact wreti hx hb hr hlocks hP hD hS (by show _ = _; rw [← h9]; first | done | rfl) (by rw [← h9]) dX9_add_28
  · replace h := ifn (b2i_0 c2) h
    refine lv_bipush (v := (-2)) hx hb dX9_add_11 (by decide) ?_
    have h9 := Option.some.inj h
    exact wreti hx hb hr hlocks hP hD hS (by show _ = _; rw [← h9]; first | done | rfl) (by rw [← h9]) dX9_add_13
def zb_X9_alter_23 (σ : Sg) : Option (Int32 × Sg) := some ((-2 : Int32), σ)
def zf_X9_alter (a1 : Int32) (a2 : Int32) (a3 : Int32) (a4 : Int32) (a5 : Int32) (σ : Sg) : Option (Int32 × Sg) := (if (zf_X4_holds a1 σ) = true then (if (zf_X4_allows a2 a3 a4 a5) = true then obd (zf_X4_put a1 a2 a3 a4 a5 σ) (fun σ5 => letb (zf_X9_forgetRuns σ5) (fun q7 => some ((1 : Int32), q7))) else (zb_X9_alter_23 σ)) else (zb_X9_alter_23 σ))
def oc_X9_alter : List Cond := [.fieldLink RX9 10 "TraceTrees" "program" "LTraceTrees$Program;", .methodLink RX9 66 yX4_holds, .instanceMethod yX4_holds, .selects RX4 yX4_holds yX4_holds, .initialized RX4, .methodLink RX9 52 yX4_allows, .static yX4_allows, .methodLink RX9 70 yX4_put, .instanceMethod yX4_put, .selects RX4 yX4_put yX4_put, .methodLink RX9 63 yX9_forgetRuns, .instanceMethod yX9_forgetRuns, .selects RX9 yX9_forgetRuns yX9_forgetRuns, .initialized RX9]
def vc_X9_alter : List Cond := .code yX9_alter cX9_alter 6 (some .int) :: (oc_X9_alter ++ (wsX90 ++ (vc_X4_holds ++ (vc_X4_allows ++ (vc_X4_put ++ (vc_X9_forgetRuns))))))
theorem iw_X9_alter_X9 : ∀ w ∈ wsX90, w ∈ vc_X9_alter := fun _ h => List.mem_cons_of_mem _ (List.mem_append_right _ (List.mem_append_left _ h))
theorem ic_X9_alter_c_X4_holds : ∀ w ∈ vc_X4_holds, w ∈ vc_X9_alter := fun _ h => List.mem_cons_of_mem _ (List.mem_append_right _ (List.mem_append_right _ (List.mem_append_left _ h)))
theorem ic_X9_alter_c_X4_allows : ∀ w ∈ vc_X4_allows, w ∈ vc_X9_alter := fun _ h => List.mem_cons_of_mem _ (List.mem_append_right _ (List.mem_append_right _ (List.mem_append_right _ (List.mem_append_left _ h))))
theorem ic_X9_alter_c_X4_put : ∀ w ∈ vc_X4_put, w ∈ vc_X9_alter := fun _ h => List.mem_cons_of_mem _ (List.mem_append_right _ (List.mem_append_right _ (List.mem_append_right _ (List.mem_append_right _ (List.mem_append_left _ h)))))
theorem ic_X9_alter_c_X9_forgetRuns : ∀ w ∈ vc_X9_forgetRuns, w ∈ vc_X9_alter := fun _ h => List.mem_cons_of_mem _ (List.mem_append_right _ (List.mem_append_right _ (List.mem_append_right _ (List.mem_append_right _ (List.mem_append_right _ (h))))))
theorem gd_c_X9_alter : (vc_X9_alter).all goodWord = true := gall_cons rfl (gall_app (by decide +kernel) (gall_app gw_X9 (gall_app gd_c_X4_holds (gall_app gd_c_X4_allows (gall_app gd_c_X4_put gd_c_X9_forgetRuns)))))
set_option maxHeartbeats 4000000 in
set_option maxRecDepth 100000 in
theorem c_X9_alter (l : Launch) (dC : Nat → ClassId) (dI : Nat → Nat → Nat) (cI cT cS : ClassId) (sz : Nat) (ad : Nat → Nat) (a1 : Int32) (a2 : Int32) (a3 : Int32) (a4 : Int32) (a5 : Int32) (σ : Sg) (o : Int32 × Sg) (h : zf_X9_alter a1 a2 a3 a4 a5 σ = some o) : gCI (S := Unit) l yX9_alter vc_X9_alter { frames := 1, cells := 0, slots := 0, locals := 25 } (dC, dI) (gTY cI cT cS) sz [.ref (ad 0), .int a1, .int a2, .int a3, .int a4, .int a5] (Wd 153 (cfC ad cI cT cS) σ) (fun (r : Int32) (_ : Unit) => r = o.1) (fun (_ : Unit) => (Wd 153 (cfC ad cI cT cS) o.2)) 0 0 := by
  refine Met.ofW (cc := cX9_alter) (maxL := 6) (ret := (some .int)) (by decide) rfl ?_
  intro p e s m args below meth c s₁ B hml hv
  obtain ⟨rfl, hsz, hP, hK, hD0⟩ := hv
  have hx := B.exec
  have hb := B.bytes
  have hr := B.returns
  have hts := atoms_spec (ws := vc_X9_alter) B.pre
  have hown : s.vm.findClass RX9 = some m.cls := findClass_of_methodNamed B.named
  have hlocks := B.notSynchronized
  subst hsz
  have hD := hD0.self (sz := s.heap.size)
  generalize hAe : va_A (Wd 153 (cfC ad cI cT cS) σ) s.heap.size = A at hD ⊢
  have hA : ∀ q : Nat, s.heap.size ≤ q → A q := fun q h => by rw [← hAe]; exact Or.inr h
  clear hAe hD0
  refine gstart (fun H locs hHe hLe => ?_)
  have hS : va_S A s.heap H locs := by rw [← hHe, ← hLe]; exact va_S.rf
  replace hP : va_P (dC, dI) vwCl (Wd 153 (cfC ad cI cT cS) σ) H := by rw [← hHe]; exact hP
  clear hHe hLe
  have hl := lv_entry ([.ref (ad 0), .int a1, .int a2, .int a3, .int a4, .int a5]) (n := 6) (Nat.le_of_ble_eq_true rfl)
  rw [lg_entry_eq]
  generalize (lg_sl ([.ref (ad 0), .int a1, .int a2, .int a3, .int a4, .int a5]) ++ List.replicate (6 - (lg_sl ([.ref (ad 0), .int a1, .int a2, .int a3, .int a4, .int a5])).length) Slot.unset).toArray = ls at hl ⊢
  replace hl : lv_has ls 6 [(0, .ref (ad 0)), (1, .int a1), (2, .int a2), (3, .int a3), (4, .int a4), (5, .int a5)] := hl
  unfold zf_X9_alter at h
  have J23 : ∀  (H : Heap) (locs : List Loc) (ls : Array Slot), zb_X9_alter_23 σ = some o → va_P (dC, dI) vwCl (Wd 153 (cfC ad cI cT cS) σ) H → va_D A (Wd 153 (cfC ad cI cT cS) σ) → va_S A s.heap H locs → lv_has ls 6 [] → W p l e (headSpec vc_X9_alter { frames := 1, cells := 0, slots := 0, locals := 25 }).room s m (List.toArray (α := Value) [.ref (ad 0), .int a1, .int a2, .int a3, .int a4, .int a5]) below meth c H locs 0 0 (MQ below (va_Qi (fun (r : Int32) (_ : Unit) => r = o.1) (gB (dC, dI) A (fun (_ : Unit) => (Wd 153 (cfC ad cI cT cS) o.2))) A) (List.toArray (α := Value) [.ref (ad 0), .int a1, .int a2, .int a3, .int a4, .int a5]) s 0 0 A) (F0 m 23 ls []) := by
    intro  H locs ls h hP hD hS hl
    unfold zb_X9_alter_23 at h
    refine lv_bipush (v := (-2)) hx hb dX9_alter_23 (by decide) ?_
    have h9 := Option.some.inj h
    exact wreti hx hb hr hlocks hP hD hS (by show _ = _; rw [← h9]; first | done | rfl) (by rw [← h9]) dX9_alter_25
  refine lv_aload_n hx hb dX9_alter_0 rfl (lv_at hl 0 rfl) ?_
  refine gf_X9_0 hx hb hts iw_X9_alter_X9 hown hK hP (hts (.fieldLink RX9 10 "TraceTrees" "program" "LTraceTrees$Program;") (List.mem_of_getElem? (i := 1) rfl)) dX9_alter_1 ?_
  refine lv_iload_n hx hb dX9_alter_4 rfl (lv_at hl 1 rfl) ?_
  refine wcalli (S := Unit) (va_runV (As := [.int a1]) (rest := []) ⟨hx, hb, hml, hown, hts⟩ (c_X4_holds l dC dI cI cT cS H.size ad  a1 σ _ rfl) (cwV 1 hts (gWV (List.mem_of_getElem? (i := 2) rfl) (List.mem_of_getElem? (i := 3) rfl) (List.mem_of_getElem? (i := 4) rfl) (List.mem_of_getElem? (i := 5) rfl) ic_X9_alter_c_X4_holds gd_c_X4_holds) rfl rfl rfl (by decide +kernel) ⟨(Nat.le_of_ble_eq_true rfl), (Nat.le_of_ble_eq_true rfl)⟩) (wpV (q := (RX4, TX4, 5)) hP hK hD oX4 rfl) rfl rfl hl.1 rfl (lv_room (Nat.le_of_ble_eq_true rfl)) dX9_alter_5 ⟨(Nat.le_of_ble_eq_true rfl), (Nat.le_of_ble_eq_true rfl)⟩) hP hD hS hA (fun rr1 _ H locs hr1 hP hD hS => ?_)
  refine lv_nm (y := b2i (zf_X4_holds a1 σ)) hr1 ?_
  refine lv_if_eq (tgt := 23) hx hb dX9_alter_8 (by decide) (fun c2 => ?_) (fun c2 => ?_)
  · replace h := ifn (b2i_0 c2) h
    exact J23  H locs ls h hP hD hS (lv_sub (l' := []) hl [] rfl)
  · replace h := ifp (b2i_1 c2) h
    refine lv_iload_n hx hb dX9_alter_11 rfl (lv_at hl 2 rfl) ?_
    refine lv_iload_n hx hb dX9_alter_12 rfl (lv_at hl 3 rfl) ?_
    refine lv_iload hx hb dX9_alter_13 (lv_at hl 4 rfl) ?_
    refine lv_iload hx hb dX9_alter_15 (lv_at hl 5 rfl) ?_
    refine wcalli (S := Unit) (va_runS (As := [.int a2, .int a3, .int a4, .int a5]) (rest := []) ⟨hx, hb, hml, hown, hts⟩ (c_X4_allows l dC dI cI cT cS H.size (Wd 153 (cfC ad cI cT cS) σ)  a2 a3 a4 a5 _ rfl) (va_cwS 4 hts (gWS (List.mem_of_getElem? (i := 6) rfl) (List.mem_of_getElem? (i := 7) rfl) (List.mem_of_getElem? (i := 5) rfl) ic_X9_alter_c_X4_allows gd_c_X4_allows) rfl rfl rfl (by decide +kernel) ⟨(Nat.le_of_ble_eq_true rfl), (Nat.le_of_ble_eq_true rfl)⟩) (gpS hP hK hD) rfl rfl hl.1 rfl (lv_room (Nat.le_of_ble_eq_true rfl)) dX9_alter_17 ⟨(Nat.le_of_ble_eq_true rfl), (Nat.le_of_ble_eq_true rfl)⟩) hP hD hS hA (fun rr3 _ H locs hr3 hP hD hS => ?_)
    refine lv_nm (y := b2i (zf_X4_allows a2 a3 a4 a5)) hr3 ?_
    refine lv_if_ne (tgt := 26) hx hb dX9_alter_20 (by decide) (fun c4 => ?_) (fun c4 => ?_)
    · replace h := ifp (b2i_1 c4) h
      refine lv_aload_n hx hb dX9_alter_26 rfl (lv_at hl 0 rfl) ?_
      refine gf_X9_0 hx hb hts iw_X9_alter_X9 hown hK hP (hts (.fieldLink RX9 10 "TraceTrees" "program" "LTraceTrees$Program;") (List.mem_of_getElem? (i := 1) rfl)) dX9_alter_27 ?_
      refine lv_iload_n hx hb dX9_alter_30 rfl (lv_at hl 1 rfl) ?_
      refine lv_iload_n hx hb dX9_alter_31 rfl (lv_at hl 2 rfl) ?_
      refine lv_iload_n hx hb dX9_alter_32 rfl (lv_at hl 3 rfl) ?_
      refine lv_iload hx hb dX9_alter_33 (lv_at hl 4 rfl) ?_
      refine lv_iload hx hb dX9_alter_35 (lv_at hl 5 rfl) ?_
      obtain ⟨σ5, hc5, h⟩ := obd_inv h
      refine wcallv (S := Unit) (va_runV (As := [.int a1, .int a2, .int a3, .int a4, .int a5]) (rest := []) ⟨hx, hb, hml, hown, hts⟩ (c_X4_put l dC dI cI cT cS H.size ad  a1 a2 a3 a4 a5 σ _ hc5) (cwV 5 hts (gWV (List.mem_of_getElem? (i := 8) rfl) (List.mem_of_getElem? (i := 9) rfl) (List.mem_of_getElem? (i := 10) rfl) (List.mem_of_getElem? (i := 5) rfl) ic_X9_alter_c_X4_put gd_c_X4_put) rfl rfl rfl (by decide +kernel) ⟨(Nat.le_of_ble_eq_true rfl), (Nat.le_of_ble_eq_true rfl)⟩) (wpV (q := (RX4, TX4, 5)) hP hK hD oX4 rfl) rfl rfl hl.1 rfl (lv_room (Nat.le_of_ble_eq_true rfl)) dX9_alter_37 ⟨(Nat.le_of_ble_eq_true rfl), (Nat.le_of_ble_eq_true rfl)⟩) hP hD hS hA (fun _ H locs hr6 hP hD hS => ?_)
      replace hP : va_P (dC, dI) vwCl (Wd 153 (cfC ad cI cT cS) σ5) H := hP
      replace hD : va_D A (Wd 153 (cfC ad cI cT cS) σ5) := hD
      refine lv_aload_n hx hb dX9_alter_40 rfl (lv_at hl 0 rfl) ?_
      obtain ⟨q7, hc7, h⟩ := letb_inv h
      refine wcallv (S := Unit) (va_runV (As := []) (rest := []) ⟨hx, hb, hml, hown, hts⟩ (c_X9_forgetRuns l dC dI cI cT cS H.size ad   σ5 _ hc7) (cwV 0 hts (gWV (List.mem_of_getElem? (i := 11) rfl) (List.mem_of_getElem? (i := 12) rfl) (List.mem_of_getElem? (i := 13) rfl) (List.mem_of_getElem? (i := 14) rfl) ic_X9_alter_c_X9_forgetRuns gd_c_X9_forgetRuns) rfl rfl rfl (by decide +kernel) ⟨(Nat.le_of_ble_eq_true rfl), (Nat.le_of_ble_eq_true rfl)⟩) (wpV (q := (RX9, TX9, 14)) hP hK hD oX9 rfl) rfl rfl hl.1 rfl (lv_room (Nat.le_of_ble_eq_true rfl)) dX9_alter_41 ⟨(Nat.le_of_ble_eq_true rfl), (Nat.le_of_ble_eq_true rfl)⟩) hP hD hS hA (fun _ H locs hr8 hP hD hS => ?_)
      replace hP : va_P (dC, dI) vwCl (Wd 153 (cfC ad cI cT cS) q7) H := hP
      replace hD : va_D A (Wd 153 (cfC ad cI cT cS) q7) := hD
      refine lv_iconst (v := 1) hx hb dX9_alter_44 (by decide) ?_
      have h9 := Option.some.inj h
      exact wreti hx hb hr hlocks hP hD hS (by show _ = _; rw [← h9]; first | done | rfl) (by rw [← h9]) dX9_alter_45
    · replace h := ifn (b2i_0 c4) h
      exact J23  H locs ls h hP hD hS (lv_sub (l' := []) hl [] rfl)
def zf_X9_back (σ : Sg) : Int32 × Sg := (if (σ 1 4) = 0 then ((-3 : Int32), σ) else letb (zf_X9_forgetRuns (su σ 1 4 ((σ 1 4) - (1 : Int32)))) (fun q2 => ((q2 1 4), q2)))
def oc_X9_back : List Cond := [.fieldLink RX9 10 "TraceTrees" "program" "LTraceTrees$Program;", .fieldLink RX9 56 "TraceTrees$Program" "size" "I", .methodLink RX9 63 yX9_forgetRuns, .instanceMethod yX9_forgetRuns, .selects RX9 yX9_forgetRuns yX9_forgetRuns, .initialized RX9]
def vc_X9_back : List Cond := .code yX9_back cX9_back 1 (some .int) :: (oc_X9_back ++ (wsX90 ++ (wsX40 ++ (vc_X9_forgetRuns))))
theorem iw_X9_back_X9 : ∀ w ∈ wsX90, w ∈ vc_X9_back := fun _ h => List.mem_cons_of_mem _ (List.mem_append_right _ (List.mem_append_left _ h))
theorem iw_X9_back_X4 : ∀ w ∈ wsX40, w ∈ vc_X9_back := fun _ h => List.mem_cons_of_mem _ (List.mem_append_right _ (List.mem_append_right _ (List.mem_append_left _ h)))
theorem ic_X9_back_c_X9_forgetRuns : ∀ w ∈ vc_X9_forgetRuns, w ∈ vc_X9_back := fun _ h => List.mem_cons_of_mem _ (List.mem_append_right _ (List.mem_append_right _ (List.mem_append_right _ (h))))
theorem gd_c_X9_back : (vc_X9_back).all goodWord = true := gall_cons rfl (gall_app (by decide +kernel) (gall_app gw_X9 (gall_app gw_X4 gd_c_X9_forgetRuns)))
set_option maxHeartbeats 4000000 in
set_option maxRecDepth 100000 in
theorem c_X9_back (l : Launch) (dC : Nat → ClassId) (dI : Nat → Nat → Nat) (cI cT cS : ClassId) (sz : Nat) (ad : Nat → Nat) (σ : Sg) (o : Int32 × Sg) (h : zf_X9_back σ = o) : gCI (S := Unit) l yX9_back vc_X9_back { frames := 1, cells := 0, slots := 0, locals := 20 } (dC, dI) (gTY cI cT cS) sz [.ref (ad 0)] (Wd 153 (cfC ad cI cT cS) σ) (fun (r : Int32) (_ : Unit) => r = o.1) (fun (_ : Unit) => (Wd 153 (cfC ad cI cT cS) o.2)) 0 0 := by
  refine Met.ofW (cc := cX9_back) (maxL := 1) (ret := (some .int)) (by decide) rfl ?_
  intro p e s m args below meth c s₁ B hml hv
  obtain ⟨rfl, hsz, hP, hK, hD0⟩ := hv
  have hx := B.exec
  have hb := B.bytes
  have hr := B.returns
  have hts := atoms_spec (ws := vc_X9_back) B.pre
  have hown : s.vm.findClass RX9 = some m.cls := findClass_of_methodNamed B.named
  have hlocks := B.notSynchronized
  subst hsz
  have hD := hD0.self (sz := s.heap.size)
  generalize hAe : va_A (Wd 153 (cfC ad cI cT cS) σ) s.heap.size = A at hD ⊢
  have hA : ∀ q : Nat, s.heap.size ≤ q → A q := fun q h => by rw [← hAe]; exact Or.inr h
  clear hAe hD0
  refine gstart (fun H locs hHe hLe => ?_)
  have hS : va_S A s.heap H locs := by rw [← hHe, ← hLe]; exact va_S.rf
  replace hP : va_P (dC, dI) vwCl (Wd 153 (cfC ad cI cT cS) σ) H := by rw [← hHe]; exact hP
  clear hHe hLe
  have hl := lv_entry ([.ref (ad 0)]) (n := 1) (Nat.le_of_ble_eq_true rfl)
  rw [lg_entry_eq]
  generalize (lg_sl ([.ref (ad 0)]) ++ List.replicate (1 - (lg_sl ([.ref (ad 0)])).length) Slot.unset).toArray = ls at hl ⊢
  replace hl : lv_has ls 1 [(0, .ref (ad 0))] := hl
  unfold zf_X9_back at h
  refine lv_aload_n hx hb dX9_back_0 rfl (lv_at hl 0 rfl) ?_
  refine gf_X9_0 hx hb hts iw_X9_back_X9 hown hK hP (hts (.fieldLink RX9 10 "TraceTrees" "program" "LTraceTrees$Program;") (List.mem_of_getElem? (i := 1) rfl)) dX9_back_1 ?_
  refine gf_X4_4 hx hb hts iw_X9_back_X4 hown hK hP (hts (.fieldLink RX9 56 "TraceTrees$Program" "size" "I") (List.mem_of_getElem? (i := 2) rfl)) dX9_back_4 ?_
  refine lv_if_ne (tgt := 13) hx hb dX9_back_7 (by decide) (fun c1 => ?_) (fun c1 => ?_)
  · replace h := ifn (c1) h
    refine lv_aload_n hx hb dX9_back_13 rfl (lv_at hl 0 rfl) ?_
    refine gf_X9_0 hx hb hts iw_X9_back_X9 hown hK hP (hts (.fieldLink RX9 10 "TraceTrees" "program" "LTraceTrees$Program;") (List.mem_of_getElem? (i := 1) rfl)) dX9_back_14 ?_
    refine lv_dup hx hb dX9_back_17 rfl ?_
    refine gf_X4_4 hx hb hts iw_X9_back_X4 hown hK hP (hts (.fieldLink RX9 56 "TraceTrees$Program" "size" "I") (List.mem_of_getElem? (i := 2) rfl)) dX9_back_18 ?_
    refine lv_iconst (v := 1) hx hb dX9_back_21 (by decide) ?_
    refine lv_isub hx hb dX9_back_22 ?_
    refine pf_X4_4 hx hb hts iw_X9_back_X4 hown hK hP hD hS (hts (.fieldLink RX9 56 "TraceTrees$Program" "size" "I") (List.mem_of_getElem? (i := 2) rfl)) dX9_back_23 (fun H locs hP hD hS => ?_)
    refine lv_aload_n hx hb dX9_back_26 rfl (lv_at hl 0 rfl) ?_
    obtain ⟨q2, hc2, h⟩ := letb_inv h
    refine wcallv (S := Unit) (va_runV (As := []) (rest := []) ⟨hx, hb, hml, hown, hts⟩ (c_X9_forgetRuns l dC dI cI cT cS H.size ad   (su σ 1 4 ((σ 1 4) - (1 : Int32))) _ hc2) (cwV 0 hts (gWV (List.mem_of_getElem? (i := 3) rfl) (List.mem_of_getElem? (i := 4) rfl) (List.mem_of_getElem? (i := 5) rfl) (List.mem_of_getElem? (i := 6) rfl) ic_X9_back_c_X9_forgetRuns gd_c_X9_forgetRuns) rfl rfl rfl (by decide +kernel) ⟨(Nat.le_of_ble_eq_true rfl), (Nat.le_of_ble_eq_true rfl)⟩) (wpV (q := (RX9, TX9, 14)) hP hK hD oX9 rfl) rfl rfl hl.1 rfl (lv_room (Nat.le_of_ble_eq_true rfl)) dX9_back_27 ⟨(Nat.le_of_ble_eq_true rfl), (Nat.le_of_ble_eq_true rfl)⟩) hP hD hS hA (fun _ H locs hr3 hP hD hS => ?_)
    replace hP : va_P (dC, dI) vwCl (Wd 153 (cfC ad cI cT cS) q2) H := hP
    replace hD : va_D A (Wd 153 (cfC ad cI cT cS) q2) := hD
    refine lv_aload_n hx hb dX9_back_30 rfl (lv_at hl 0 rfl) ?_
    refine gf_X9_0 hx hb hts iw_X9_back_X9 hown hK hP (hts (.fieldLink RX9 10 "TraceTrees" "program" "LTraceTrees$Program;") (List.mem_of_getElem? (i := 1) rfl)) dX9_back_31 ?_
    refine gf_X4_4 hx hb hts iw_X9_back_X4 hown hK hP (hts (.fieldLink RX9 56 "TraceTrees$Program" "size" "I") (List.mem_of_getElem? (i := 2) rfl)) dX9_back_34 ?_
    have h9 := h
    exact wreti hx hb hr hlocks hP hD hS (by show _ = _; rw [← h9]; first | done | rfl) (by rw [← h9]) dX9_back_37
  · replace h := ifp (c1) h
    refine lv_bipush (v := (-3)) hx hb dX9_back_10 (by decide) ?_
    have h9 := h
    exact wreti hx hb hr hlocks hP hD hS (by show _ = _; rw [← h9]; first | done | rfl) (by rw [← h9]) dX9_back_12
def zf_X9_codeFact (a1 : Int32) (a2 : Int32) (σ : Sg) : Option (Int32) := (if (zf_X4_holds a1 σ) = true then (if a2 = 0 then bd a1 24 (some (σ 2 a1.toNatClampNeg)) else (if a2 = 1 then bd a1 24 (some (σ 3 a1.toNatClampNeg)) else (if a2 = 2 then bd a1 24 (some (σ 4 a1.toNatClampNeg)) else (if a2 = 3 then bd a1 24 (some (σ 5 a1.toNatClampNeg)) else some (-2147483648 : Int32))))) else some (-2147483648 : Int32))
def oc_X9_codeFact : List Cond := [.fieldLink RX9 10 "TraceTrees" "program" "LTraceTrees$Program;", .methodLink RX9 66 yX4_holds, .instanceMethod yX4_holds, .selects RX4 yX4_holds yX4_holds, .initialized RX4, .fieldLink RX9 245 "TraceTrees$Program" "kind" "[I", .fieldLink RX9 248 "TraceTrees$Program" "a" "[I", .fieldLink RX9 251 "TraceTrees$Program" "b" "[I", .fieldLink RX9 254 "TraceTrees$Program" "c" "[I", .constant RX9 165 (-2147483648)]
def vc_X9_codeFact : List Cond := .code yX9_codeFact cX9_codeFact 3 (some .int) :: (oc_X9_codeFact ++ (wsX90 ++ (wsX40 ++ (vc_X4_holds))))
theorem iw_X9_codeFact_X9 : ∀ w ∈ wsX90, w ∈ vc_X9_codeFact := fun _ h => List.mem_cons_of_mem _ (List.mem_append_right _ (List.mem_append_left _ h))
theorem iw_X9_codeFact_X4 : ∀ w ∈ wsX40, w ∈ vc_X9_codeFact := fun _ h => List.mem_cons_of_mem _ (List.mem_append_right _ (List.mem_append_right _ (List.mem_append_left _ h)))
theorem ic_X9_codeFact_c_X4_holds : ∀ w ∈ vc_X4_holds, w ∈ vc_X9_codeFact := fun _ h => List.mem_cons_of_mem _ (List.mem_append_right _ (List.mem_append_right _ (List.mem_append_right _ (h))))
theorem gd_c_X9_codeFact : (vc_X9_codeFact).all goodWord = true := gall_cons rfl (gall_app (by decide +kernel) (gall_app gw_X9 (gall_app gw_X4 gd_c_X4_holds)))
set_option maxHeartbeats 4000000 in
set_option maxRecDepth 100000 in
theorem c_X9_codeFact (l : Launch) (dC : Nat → ClassId) (dI : Nat → Nat → Nat) (cI cT cS : ClassId) (sz : Nat) (ad : Nat → Nat) (a1 : Int32) (a2 : Int32) (σ : Sg) (o : Int32) (h : zf_X9_codeFact a1 a2 σ = some o) : gCI (S := Unit) l yX9_codeFact vc_X9_codeFact { frames := 1, cells := 0, slots := 0, locals := 21 } (dC, dI) (gTY cI cT cS) sz [.ref (ad 0), .int a1, .int a2] (Wd 153 (cfC ad cI cT cS) σ) (fun (r : Int32) (_ : Unit) => r = o) (fun (_ : Unit) => (Wd 153 (cfC ad cI cT cS) σ)) 0 0 := by
  refine Met.ofW (cc := cX9_codeFact) (maxL := 3) (ret := (some .int)) (by decide) rfl ?_
  intro p e s m args below meth c s₁ B hml hv
  obtain ⟨rfl, hsz, hP, hK, hD0⟩ := hv
  have hx := B.exec
  have hb := B.bytes
  have hr := B.returns
  have hts := atoms_spec (ws := vc_X9_codeFact) B.pre
  have hown : s.vm.findClass RX9 = some m.cls := findClass_of_methodNamed B.named
  have hlocks := B.notSynchronized
  subst hsz
  have hD := hD0.self (sz := s.heap.size)
  generalize hAe : va_A (Wd 153 (cfC ad cI cT cS) σ) s.heap.size = A at hD ⊢
  have hA : ∀ q : Nat, s.heap.size ≤ q → A q := fun q h => by rw [← hAe]; exact Or.inr h
  clear hAe hD0
  refine gstart (fun H locs hHe hLe => ?_)
  have hS : va_S A s.heap H locs := by rw [← hHe, ← hLe]; exact va_S.rf
  replace hP : va_P (dC, dI) vwCl (Wd 153 (cfC ad cI cT cS) σ) H := by rw [← hHe]; exact hP
  clear hHe hLe
  have hl := lv_entry ([.ref (ad 0), .int a1, .int a2]) (n := 3) (Nat.le_of_ble_eq_true rfl)
  rw [lg_entry_eq]
  generalize (lg_sl ([.ref (ad 0), .int a1, .int a2]) ++ List.replicate (3 - (lg_sl ([.ref (ad 0), .int a1, .int a2])).length) Slot.unset).toArray = ls at hl ⊢
  replace hl : lv_has ls 3 [(0, .ref (ad 0)), (1, .int a1), (2, .int a2)] := hl
  unfold zf_X9_codeFact at h
  refine lv_aload_n hx hb dX9_codeFact_0 rfl (lv_at hl 0 rfl) ?_
  refine gf_X9_0 hx hb hts iw_X9_codeFact_X9 hown hK hP (hts (.fieldLink RX9 10 "TraceTrees" "program" "LTraceTrees$Program;") (List.mem_of_getElem? (i := 1) rfl)) dX9_codeFact_1 ?_
  refine lv_iload_n hx hb dX9_codeFact_4 rfl (lv_at hl 1 rfl) ?_
  refine wcalli (S := Unit) (va_runV (As := [.int a1]) (rest := []) ⟨hx, hb, hml, hown, hts⟩ (c_X4_holds l dC dI cI cT cS H.size ad  a1 σ _ rfl) (cwV 1 hts (gWV (List.mem_of_getElem? (i := 2) rfl) (List.mem_of_getElem? (i := 3) rfl) (List.mem_of_getElem? (i := 4) rfl) (List.mem_of_getElem? (i := 5) rfl) ic_X9_codeFact_c_X4_holds gd_c_X4_holds) rfl rfl rfl (by decide +kernel) ⟨(Nat.le_of_ble_eq_true rfl), (Nat.le_of_ble_eq_true rfl)⟩) (wpV (q := (RX4, TX4, 5)) hP hK hD oX4 rfl) rfl rfl hl.1 rfl (lv_room (Nat.le_of_ble_eq_true rfl)) dX9_codeFact_5 ⟨(Nat.le_of_ble_eq_true rfl), (Nat.le_of_ble_eq_true rfl)⟩) hP hD hS hA (fun rr1 _ H locs hr1 hP hD hS => ?_)
  refine lv_nm (y := b2i (zf_X4_holds a1 σ)) hr1 ?_
  refine lv_if_ne (tgt := 14) hx hb dX9_codeFact_8 (by decide) (fun c2 => ?_) (fun c2 => ?_)
  · replace h := ifp (b2i_1 c2) h
    refine lv_iload_n hx hb dX9_codeFact_14 rfl (lv_at hl 2 rfl) ?_
    by_cases c3 : a2 = 0
    · replace h := ifp c3 h
      refine lv_tableIn (off := 29) (tgt := 44) hx hb dX9_codeFact_15 (by rw [c3]; decide) (by rw [c3]; decide) (by rw [c3]; decide) (by decide) ?_
      refine lv_aload_n hx hb dX9_codeFact_44 rfl (lv_at hl 0 rfl) ?_
      refine gf_X9_0 hx hb hts iw_X9_codeFact_X9 hown hK hP (hts (.fieldLink RX9 10 "TraceTrees" "program" "LTraceTrees$Program;") (List.mem_of_getElem? (i := 1) rfl)) dX9_codeFact_45 ?_
      refine gf_X4_0 hx hb hts iw_X9_codeFact_X4 hown hK hP (hts (.fieldLink RX9 245 "TraceTrees$Program" "kind" "[I") (List.mem_of_getElem? (i := 6) rfl)) dX9_codeFact_48 ?_
      refine lv_iload_n hx hb dX9_codeFact_51 rfl (lv_at hl 1 rfl) ?_
      obtain ⟨hi4, h⟩ := bd_inv h
      refine wald hx hb hK hP aP2 hi4 dX9_codeFact_52 ?_
      have h9 := Option.some.inj h
      exact wreti hx hb hr hlocks hP hD hS (by show _ = _; rw [← h9]; first | done | rfl) rfl dX9_codeFact_53
    replace h := ifn c3 h
    by_cases c5 : a2 = 1
    · replace h := ifp c5 h
      refine lv_tableIn (off := 39) (tgt := 54) hx hb dX9_codeFact_15 (by rw [c5]; decide) (by rw [c5]; decide) (by rw [c5]; decide) (by decide) ?_
      refine lv_aload_n hx hb dX9_codeFact_54 rfl (lv_at hl 0 rfl) ?_
      refine gf_X9_0 hx hb hts iw_X9_codeFact_X9 hown hK hP (hts (.fieldLink RX9 10 "TraceTrees" "program" "LTraceTrees$Program;") (List.mem_of_getElem? (i := 1) rfl)) dX9_codeFact_55 ?_
      refine gf_X4_1 hx hb hts iw_X9_codeFact_X4 hown hK hP (hts (.fieldLink RX9 248 "TraceTrees$Program" "a" "[I") (List.mem_of_getElem? (i := 7) rfl)) dX9_codeFact_58 ?_
      refine lv_iload_n hx hb dX9_codeFact_61 rfl (lv_at hl 1 rfl) ?_
      obtain ⟨hi6, h⟩ := bd_inv h
      refine wald hx hb hK hP aP3 hi6 dX9_codeFact_62 ?_
      have h9 := Option.some.inj h
      exact wreti hx hb hr hlocks hP hD hS (by show _ = _; rw [← h9]; first | done | rfl) rfl dX9_codeFact_63
    replace h := ifn c5 h
    by_cases c7 : a2 = 2
    · replace h := ifp c7 h
      refine lv_tableIn (off := 49) (tgt := 64) hx hb dX9_codeFact_15 (by rw [c7]; decide) (by rw [c7]; decide) (by rw [c7]; decide) (by decide) ?_
      refine lv_aload_n hx hb dX9_codeFact_64 rfl (lv_at hl 0 rfl) ?_
      refine gf_X9_0 hx hb hts iw_X9_codeFact_X9 hown hK hP (hts (.fieldLink RX9 10 "TraceTrees" "program" "LTraceTrees$Program;") (List.mem_of_getElem? (i := 1) rfl)) dX9_codeFact_65 ?_
      refine gf_X4_2 hx hb hts iw_X9_codeFact_X4 hown hK hP (hts (.fieldLink RX9 251 "TraceTrees$Program" "b" "[I") (List.mem_of_getElem? (i := 8) rfl)) dX9_codeFact_68 ?_
      refine lv_iload_n hx hb dX9_codeFact_71 rfl (lv_at hl 1 rfl) ?_
      obtain ⟨hi8, h⟩ := bd_inv h
      refine wald hx hb hK hP aP4 hi8 dX9_codeFact_72 ?_
      have h9 := Option.some.inj h
      exact wreti hx hb hr hlocks hP hD hS (by show _ = _; rw [← h9]; first | done | rfl) rfl dX9_codeFact_73
    replace h := ifn c7 h
    by_cases c9 : a2 = 3
    · replace h := ifp c9 h
      refine lv_tableIn (off := 59) (tgt := 74) hx hb dX9_codeFact_15 (by rw [c9]; decide) (by rw [c9]; decide) (by rw [c9]; decide) (by decide) ?_
      refine lv_aload_n hx hb dX9_codeFact_74 rfl (lv_at hl 0 rfl) ?_
      refine gf_X9_0 hx hb hts iw_X9_codeFact_X9 hown hK hP (hts (.fieldLink RX9 10 "TraceTrees" "program" "LTraceTrees$Program;") (List.mem_of_getElem? (i := 1) rfl)) dX9_codeFact_75 ?_
      refine gf_X4_3 hx hb hts iw_X9_codeFact_X4 hown hK hP (hts (.fieldLink RX9 254 "TraceTrees$Program" "c" "[I") (List.mem_of_getElem? (i := 9) rfl)) dX9_codeFact_78 ?_
      refine lv_iload_n hx hb dX9_codeFact_81 rfl (lv_at hl 1 rfl) ?_
      obtain ⟨hi10, h⟩ := bd_inv h
      refine wald hx hb hK hP aP5 hi10 dX9_codeFact_82 ?_
      have h9 := Option.some.inj h
      exact wreti hx hb hr hlocks hP hD hS (by show _ = _; rw [← h9]; first | done | rfl) rfl dX9_codeFact_83
    replace h := ifn c9 h
    refine lv_tableOut (tgt := 84) hx hb dX9_codeFact_15 (by have := lv_neT c3 (a := 0) (by decide); have := lv_neT c5 (a := 1) (by decide); have := lv_neT c7 (a := 2) (by decide); have := lv_neT c9 (a := 3) (by decide); omega) (by decide) ?_
    refine lv_ldc (v := (-2147483648)) hx hb hown (hts (.constant RX9 165 (-2147483648)) (List.mem_of_getElem? (i := 10) rfl)) dX9_codeFact_84 ?_
    have h9 := Option.some.inj h
    exact wreti hx hb hr hlocks hP hD hS (by show _ = _; rw [← h9]; first | done | rfl) rfl dX9_codeFact_86
  · replace h := ifn (b2i_0 c2) h
    refine lv_ldc (v := (-2147483648)) hx hb hown (hts (.constant RX9 165 (-2147483648)) (List.mem_of_getElem? (i := 10) rfl)) dX9_codeFact_11 ?_
    have h9 := Option.some.inj h
    exact wreti hx hb hr hlocks hP hD hS (by show _ = _; rw [← h9]; first | done | rfl) rfl dX9_codeFact_13
def zf_X9_code (a1 : Int32) (a2 : Int32) (σ : Sg) : Option (Int32) := obd (zf_X9_codeFact a1 a2 σ) (fun r1 => some r1)
def oc_X9_code : List Cond := [.methodLink RX9 74 yX9_codeFact, .instanceMethod yX9_codeFact, .selects RX9 yX9_codeFact yX9_codeFact, .initialized RX9]
def vc_X9_code : List Cond := .code yX9_code cX9_code 3 (some .int) :: (oc_X9_code ++ (vc_X9_codeFact))
theorem ic_X9_code_c_X9_codeFact : ∀ w ∈ vc_X9_codeFact, w ∈ vc_X9_code := fun _ h => List.mem_cons_of_mem _ (List.mem_append_right _ (h))
theorem gd_c_X9_code : (vc_X9_code).all goodWord = true := gall_cons rfl (gall_app (by decide +kernel) gd_c_X9_codeFact)
set_option maxHeartbeats 4000000 in
set_option maxRecDepth 100000 in
theorem c_X9_code (l : Launch) (dC : Nat → ClassId) (dI : Nat → Nat → Nat) (cI cT cS : ClassId) (sz : Nat) (ad : Nat → Nat) (a1 : Int32) (a2 : Int32) (σ : Sg) (o : Int32) (h : zf_X9_code a1 a2 σ = some o) : gCI (S := Unit) l yX9_code vc_X9_code { frames := 2, cells := 0, slots := 0, locals := 43 } (dC, dI) (gTY cI cT cS) sz [.ref (ad 0), .int a1, .int a2] (Wd 153 (cfC ad cI cT cS) σ) (fun (r : Int32) (_ : Unit) => r = o) (fun (_ : Unit) => (Wd 153 (cfC ad cI cT cS) σ)) 0 0 := by
  refine Met.ofW (cc := cX9_code) (maxL := 3) (ret := (some .int)) (by decide) rfl ?_
  intro p e s m args below meth c s₁ B hml hv
  obtain ⟨rfl, hsz, hP, hK, hD0⟩ := hv
  have hx := B.exec
  have hb := B.bytes
  have hr := B.returns
  have hts := atoms_spec (ws := vc_X9_code) B.pre
  have hown : s.vm.findClass RX9 = some m.cls := findClass_of_methodNamed B.named
  have hlocks := B.notSynchronized
  subst hsz
  have hD := hD0.self (sz := s.heap.size)
  generalize hAe : va_A (Wd 153 (cfC ad cI cT cS) σ) s.heap.size = A at hD ⊢
  have hA : ∀ q : Nat, s.heap.size ≤ q → A q := fun q h => by rw [← hAe]; exact Or.inr h
  clear hAe hD0
  refine gstart (fun H locs hHe hLe => ?_)
  have hS : va_S A s.heap H locs := by rw [← hHe, ← hLe]; exact va_S.rf
  replace hP : va_P (dC, dI) vwCl (Wd 153 (cfC ad cI cT cS) σ) H := by rw [← hHe]; exact hP
  clear hHe hLe
  have hl := lv_entry ([.ref (ad 0), .int a1, .int a2]) (n := 3) (Nat.le_of_ble_eq_true rfl)
  rw [lg_entry_eq]
  generalize (lg_sl ([.ref (ad 0), .int a1, .int a2]) ++ List.replicate (3 - (lg_sl ([.ref (ad 0), .int a1, .int a2])).length) Slot.unset).toArray = ls at hl ⊢
  replace hl : lv_has ls 3 [(0, .ref (ad 0)), (1, .int a1), (2, .int a2)] := hl
  unfold zf_X9_code at h
  refine lv_aload_n hx hb dX9_code_0 rfl (lv_at hl 0 rfl) ?_
  refine lv_iload_n hx hb dX9_code_1 rfl (lv_at hl 1 rfl) ?_
  refine lv_iload_n hx hb dX9_code_2 rfl (lv_at hl 2 rfl) ?_
  obtain ⟨r1, hc1, h⟩ := obd_inv h
  refine wcalli (S := Unit) (va_runV (As := [.int a1, .int a2]) (rest := []) ⟨hx, hb, hml, hown, hts⟩ (c_X9_codeFact l dC dI cI cT cS H.size ad  a1 a2 σ _ hc1) (cwV 2 hts (gWV (List.mem_of_getElem? (i := 1) rfl) (List.mem_of_getElem? (i := 2) rfl) (List.mem_of_getElem? (i := 3) rfl) (List.mem_of_getElem? (i := 4) rfl) ic_X9_code_c_X9_codeFact gd_c_X9_codeFact) rfl rfl rfl (by decide +kernel) ⟨(Nat.le_of_ble_eq_true rfl), (Nat.le_of_ble_eq_true rfl)⟩) (wpV (q := (RX9, TX9, 14)) hP hK hD oX9 rfl) rfl rfl hl.1 rfl (lv_room (Nat.le_of_ble_eq_true rfl)) dX9_code_3 ⟨(Nat.le_of_ble_eq_true rfl), (Nat.le_of_ble_eq_true rfl)⟩) hP hD hS hA (fun rr2 _ H locs hr2 hP hD hS => ?_)
  refine lv_nm (y := r1) hr2 ?_
  have h9 := Option.some.inj h
  exact wreti hx hb hr hlocks hP hD hS (by show _ = _; rw [← h9]; first | done | rfl) rfl dX9_code_6
def zb_X9_load_16 (σ : Sg) : Option (Int32 × Sg) := some ((-2 : Int32), σ)
def zb_X9_load_38 (a1 : Int32) (a2 : Int32) (σ : Sg) (w0_38 : Int32) : Option (Int32 × Sg) := obd (zf_X5_put 6 a1 a2 w0_38 σ) (fun σ7 => letb (zf_X9_forgetRuns σ7) (fun q9 => some ((1 : Int32), q9)))
def zf_X9_load (a1 : Int32) (a2 : Int32) (a3 : Int32) (σ : Sg) : Option (Int32 × Sg) := (if (zf_X9_isRegister a1) = true then (if a2 < 0 then (zb_X9_load_16 σ) else (if a2 ≤ (1 : Int32) then (if a2 = 0 then (zb_X9_load_38 a1 a2 σ a3) else (zb_X9_load_38 a1 a2 σ (zf_X1_quarterOf (a3.toInt64)))) else (zb_X9_load_16 σ))) else (zb_X9_load_16 σ))
def oc_X9_load : List Cond := [.methodLink RX9 78 yX9_isRegister, .static yX9_isRegister, .initialized RX9, .fieldLink RX9 19 "TraceTrees" "loaded" "LTraceTrees$Registers;", .methodLink RX9 81 yX1_quarterOf, .static yX1_quarterOf, .initialized RX1, .methodLink RX9 87 yX5_put, .instanceMethod yX5_put, .selects RX5 yX5_put yX5_put, .initialized RX5, .methodLink RX9 63 yX9_forgetRuns, .instanceMethod yX9_forgetRuns, .selects RX9 yX9_forgetRuns yX9_forgetRuns]
def vc_X9_load : List Cond := .code yX9_load cX9_load 4 (some .int) :: (oc_X9_load ++ (wsX90 ++ (vc_X9_isRegister ++ (vc_X1_quarterOf ++ (vc_X5_put ++ (vc_X9_forgetRuns))))))
theorem iw_X9_load_X9 : ∀ w ∈ wsX90, w ∈ vc_X9_load := fun _ h => List.mem_cons_of_mem _ (List.mem_append_right _ (List.mem_append_left _ h))
theorem ic_X9_load_c_X9_isRegister : ∀ w ∈ vc_X9_isRegister, w ∈ vc_X9_load := fun _ h => List.mem_cons_of_mem _ (List.mem_append_right _ (List.mem_append_right _ (List.mem_append_left _ h)))
theorem ic_X9_load_c_X1_quarterOf : ∀ w ∈ vc_X1_quarterOf, w ∈ vc_X9_load := fun _ h => List.mem_cons_of_mem _ (List.mem_append_right _ (List.mem_append_right _ (List.mem_append_right _ (List.mem_append_left _ h))))
theorem ic_X9_load_c_X5_put : ∀ w ∈ vc_X5_put, w ∈ vc_X9_load := fun _ h => List.mem_cons_of_mem _ (List.mem_append_right _ (List.mem_append_right _ (List.mem_append_right _ (List.mem_append_right _ (List.mem_append_left _ h)))))
theorem ic_X9_load_c_X9_forgetRuns : ∀ w ∈ vc_X9_forgetRuns, w ∈ vc_X9_load := fun _ h => List.mem_cons_of_mem _ (List.mem_append_right _ (List.mem_append_right _ (List.mem_append_right _ (List.mem_append_right _ (List.mem_append_right _ (h))))))
theorem gd_c_X9_load : (vc_X9_load).all goodWord = true := gall_cons rfl (gall_app (by decide +kernel) (gall_app gw_X9 (gall_app gd_c_X9_isRegister (gall_app gd_c_X1_quarterOf (gall_app gd_c_X5_put gd_c_X9_forgetRuns)))))
set_option maxHeartbeats 4000000 in
set_option maxRecDepth 100000 in
theorem c_X9_load (l : Launch) (dC : Nat → ClassId) (dI : Nat → Nat → Nat) (cI cT cS : ClassId) (sz : Nat) (ad : Nat → Nat) (a1 : Int32) (a2 : Int32) (a3 : Int32) (σ : Sg) (o : Int32 × Sg) (h : zf_X9_load a1 a2 a3 σ = some o) : gCI (S := Unit) l yX9_load vc_X9_load { frames := 4, cells := 0, slots := 0, locals := 96 } (dC, dI) (gTY cI cT cS) sz [.ref (ad 0), .int a1, .int a2, .int a3] (Wd 153 (cfC ad cI cT cS) σ) (fun (r : Int32) (_ : Unit) => r = o.1) (fun (_ : Unit) => (Wd 153 (cfC ad cI cT cS) o.2)) 0 0 := by
  refine Met.ofW (cc := cX9_load) (maxL := 4) (ret := (some .int)) (by decide) rfl ?_
  intro p e s m args below meth c s₁ B hml hv
  obtain ⟨rfl, hsz, hP, hK, hD0⟩ := hv
  have hx := B.exec
  have hb := B.bytes
  have hr := B.returns
  have hts := atoms_spec (ws := vc_X9_load) B.pre
  have hown : s.vm.findClass RX9 = some m.cls := findClass_of_methodNamed B.named
  have hlocks := B.notSynchronized
  subst hsz
  have hD := hD0.self (sz := s.heap.size)
  generalize hAe : va_A (Wd 153 (cfC ad cI cT cS) σ) s.heap.size = A at hD ⊢
  have hA : ∀ q : Nat, s.heap.size ≤ q → A q := fun q h => by rw [← hAe]; exact Or.inr h
  clear hAe hD0
  refine gstart (fun H locs hHe hLe => ?_)
  have hS : va_S A s.heap H locs := by rw [← hHe, ← hLe]; exact va_S.rf
  replace hP : va_P (dC, dI) vwCl (Wd 153 (cfC ad cI cT cS) σ) H := by rw [← hHe]; exact hP
  clear hHe hLe
  have hl := lv_entry ([.ref (ad 0), .int a1, .int a2, .int a3]) (n := 4) (Nat.le_of_ble_eq_true rfl)
  rw [lg_entry_eq]
  generalize (lg_sl ([.ref (ad 0), .int a1, .int a2, .int a3]) ++ List.replicate (4 - (lg_sl ([.ref (ad 0), .int a1, .int a2, .int a3])).length) Slot.unset).toArray = ls at hl ⊢
  replace hl : lv_has ls 4 [(0, .ref (ad 0)), (1, .int a1), (2, .int a2), (3, .int a3)] := hl
  unfold zf_X9_load at h
  have J16 : ∀  (H : Heap) (locs : List Loc) (ls : Array Slot), zb_X9_load_16 σ = some o → va_P (dC, dI) vwCl (Wd 153 (cfC ad cI cT cS) σ) H → va_D A (Wd 153 (cfC ad cI cT cS) σ) → va_S A s.heap H locs → lv_has ls 4 [] → W p l e (headSpec vc_X9_load { frames := 4, cells := 0, slots := 0, locals := 96 }).room s m (List.toArray (α := Value) [.ref (ad 0), .int a1, .int a2, .int a3]) below meth c H locs 0 0 (MQ below (va_Qi (fun (r : Int32) (_ : Unit) => r = o.1) (gB (dC, dI) A (fun (_ : Unit) => (Wd 153 (cfC ad cI cT cS) o.2))) A) (List.toArray (α := Value) [.ref (ad 0), .int a1, .int a2, .int a3]) s 0 0 A) (F0 m 16 ls []) := by
    intro  H locs ls h hP hD hS hl
    unfold zb_X9_load_16 at h
    refine lv_bipush (v := (-2)) hx hb dX9_load_16 (by decide) ?_
    have h9 := Option.some.inj h
    exact wreti hx hb hr hlocks hP hD hS (by show _ = _; rw [← h9]; first | done | rfl) (by rw [← h9]) dX9_load_18
  have J38 : ∀ (w0_38 : Int32) (H : Heap) (locs : List Loc) (ls : Array Slot), zb_X9_load_38 a1 a2 σ w0_38 = some o → va_P (dC, dI) vwCl (Wd 153 (cfC ad cI cT cS) σ) H → va_D A (Wd 153 (cfC ad cI cT cS) σ) → va_S A s.heap H locs → lv_has ls 4 [(0, .ref (ad 0))] → W p l e (headSpec vc_X9_load { frames := 4, cells := 0, slots := 0, locals := 96 }).room s m (List.toArray (α := Value) [.ref (ad 0), .int a1, .int a2, .int a3]) below meth c H locs 0 0 (MQ below (va_Qi (fun (r : Int32) (_ : Unit) => r = o.1) (gB (dC, dI) A (fun (_ : Unit) => (Wd 153 (cfC ad cI cT cS) o.2))) A) (List.toArray (α := Value) [.ref (ad 0), .int a1, .int a2, .int a3]) s 0 0 A) (F0 m 38 ls [.int w0_38, .int a2, .int a1, .ref (ad 6)]) := by
    intro w0_38 H locs ls h hP hD hS hl
    unfold zb_X9_load_38 at h
    obtain ⟨σ7, hc7, h⟩ := obd_inv h
    refine wcallv (S := Unit) (va_runV (As := [.int a1, .int a2, .int w0_38]) (rest := []) ⟨hx, hb, hml, hown, hts⟩ (c_X5_put l dC dI cI cT cS H.size ad 6 isRg_6 a1 a2 w0_38 σ _ hc7) (cwV 3 hts (gWV (List.mem_of_getElem? (i := 8) rfl) (List.mem_of_getElem? (i := 9) rfl) (List.mem_of_getElem? (i := 10) rfl) (List.mem_of_getElem? (i := 11) rfl) ic_X9_load_c_X5_put gd_c_X5_put) rfl rfl rfl (by decide +kernel) ⟨(Nat.le_of_ble_eq_true rfl), (Nat.le_of_ble_eq_true rfl)⟩) (wpV (q := (RX5, TX5, 2)) hP hK hD (oX5 isRg_6) rfl) rfl rfl hl.1 rfl (lv_room (Nat.le_of_ble_eq_true rfl)) dX9_load_38 ⟨(Nat.le_of_ble_eq_true rfl), (Nat.le_of_ble_eq_true rfl)⟩) hP hD hS hA (fun _ H locs hr8 hP hD hS => ?_)
    replace hP : va_P (dC, dI) vwCl (Wd 153 (cfC ad cI cT cS) σ7) H := hP
    replace hD : va_D A (Wd 153 (cfC ad cI cT cS) σ7) := hD
    refine lv_aload_n hx hb dX9_load_41 rfl (lv_at hl 0 rfl) ?_
    obtain ⟨q9, hc9, h⟩ := letb_inv h
    refine wcallv (S := Unit) (va_runV (As := []) (rest := []) ⟨hx, hb, hml, hown, hts⟩ (c_X9_forgetRuns l dC dI cI cT cS H.size ad   σ7 _ hc9) (cwV 0 hts (gWV (List.mem_of_getElem? (i := 12) rfl) (List.mem_of_getElem? (i := 13) rfl) (List.mem_of_getElem? (i := 14) rfl) (List.mem_of_getElem? (i := 3) rfl) ic_X9_load_c_X9_forgetRuns gd_c_X9_forgetRuns) rfl rfl rfl (by decide +kernel) ⟨(Nat.le_of_ble_eq_true rfl), (Nat.le_of_ble_eq_true rfl)⟩) (wpV (q := (RX9, TX9, 14)) hP hK hD oX9 rfl) rfl rfl hl.1 rfl (lv_room (Nat.le_of_ble_eq_true rfl)) dX9_load_42 ⟨(Nat.le_of_ble_eq_true rfl), (Nat.le_of_ble_eq_true rfl)⟩) hP hD hS hA (fun _ H locs hr10 hP hD hS => ?_)
    replace hP : va_P (dC, dI) vwCl (Wd 153 (cfC ad cI cT cS) q9) H := hP
    replace hD : va_D A (Wd 153 (cfC ad cI cT cS) q9) := hD
    refine lv_iconst (v := 1) hx hb dX9_load_45 (by decide) ?_
    have h9 := Option.some.inj h
    exact wreti hx hb hr hlocks hP hD hS (by show _ = _; rw [← h9]; first | done | rfl) (by rw [← h9]) dX9_load_46
  refine lv_iload_n hx hb dX9_load_0 rfl (lv_at hl 1 rfl) ?_
  refine wcalli (S := Unit) (va_runS (As := [.int a1]) (rest := []) ⟨hx, hb, hml, hown, hts⟩ (c_X9_isRegister l dC dI cI cT cS H.size (Wd 153 (cfC ad cI cT cS) σ)  a1 _ rfl) (va_cwS 1 hts (gWS (List.mem_of_getElem? (i := 1) rfl) (List.mem_of_getElem? (i := 2) rfl) (List.mem_of_getElem? (i := 3) rfl) ic_X9_load_c_X9_isRegister gd_c_X9_isRegister) rfl rfl rfl (by decide +kernel) ⟨(Nat.le_of_ble_eq_true rfl), (Nat.le_of_ble_eq_true rfl)⟩) (gpS hP hK hD) rfl rfl hl.1 rfl (lv_room (Nat.le_of_ble_eq_true rfl)) dX9_load_1 ⟨(Nat.le_of_ble_eq_true rfl), (Nat.le_of_ble_eq_true rfl)⟩) hP hD hS hA (fun rr1 _ H locs hr1 hP hD hS => ?_)
  refine lv_nm (y := b2i (zf_X9_isRegister a1)) hr1 ?_
  refine lv_if_eq (tgt := 16) hx hb dX9_load_4 (by decide) (fun c2 => ?_) (fun c2 => ?_)
  · replace h := ifn (b2i_0 c2) h
    exact J16  H locs ls h hP hD hS (lv_sub (l' := []) hl [] rfl)
  · replace h := ifp (b2i_1 c2) h
    refine lv_iload_n hx hb dX9_load_7 rfl (lv_at hl 2 rfl) ?_
    refine lv_if_lt (tgt := 16) hx hb dX9_load_8 (by decide) (fun c3 => ?_) (fun c3 => ?_)
    · replace h := ifp (c3) h
      exact J16  H locs ls h hP hD hS (lv_sub (l' := []) hl [] rfl)
    · replace h := ifn (c3) h
      refine lv_iload_n hx hb dX9_load_11 rfl (lv_at hl 2 rfl) ?_
      refine lv_iconst (v := 1) hx hb dX9_load_12 (by decide) ?_
      refine lv_icmp_le (tgt := 19) hx hb dX9_load_13 (by decide) (fun c4 => ?_) (fun c4 => ?_)
      · replace h := ifp (c4) h
        refine lv_aload_n hx hb dX9_load_19 rfl (lv_at hl 0 rfl) ?_
        refine gf_X9_1 hx hb hts iw_X9_load_X9 hown hK hP (hts (.fieldLink RX9 19 "TraceTrees" "loaded" "LTraceTrees$Registers;") (List.mem_of_getElem? (i := 4) rfl)) dX9_load_20 ?_
        refine lv_iload_n hx hb dX9_load_23 rfl (lv_at hl 1 rfl) ?_
        refine lv_iload_n hx hb dX9_load_24 rfl (lv_at hl 2 rfl) ?_
        refine lv_iload_n hx hb dX9_load_25 rfl (lv_at hl 2 rfl) ?_
        refine lv_if_ne (tgt := 33) hx hb dX9_load_26 (by decide) (fun c5 => ?_) (fun c5 => ?_)
        · replace h := ifn (c5) h
          refine lv_iload_n hx hb dX9_load_33 rfl (lv_at hl 3 rfl) ?_
          refine lv_i2l hx hb dX9_load_34 rfl ?_
          refine wcalli (S := Unit) (va_runS (As := [.long (a3.toInt64)]) (rest := [.int a2, .int a1, .ref (ad 6)]) ⟨hx, hb, hml, hown, hts⟩ (c_X1_quarterOf l dC dI cI cT cS H.size (Wd 153 (cfC ad cI cT cS) σ)  (a3.toInt64) _ rfl) (va_cwS 1 hts (gWS (List.mem_of_getElem? (i := 5) rfl) (List.mem_of_getElem? (i := 6) rfl) (List.mem_of_getElem? (i := 7) rfl) ic_X9_load_c_X1_quarterOf gd_c_X1_quarterOf) rfl rfl rfl (by decide +kernel) ⟨(Nat.le_of_ble_eq_true rfl), (Nat.le_of_ble_eq_true rfl)⟩) (gpS hP hK hD) rfl rfl hl.1 rfl (lv_room (Nat.le_of_ble_eq_true rfl)) dX9_load_35 ⟨(Nat.le_of_ble_eq_true rfl), (Nat.le_of_ble_eq_true rfl)⟩) hP hD hS hA (fun rr6 _ H locs hr6 hP hD hS => ?_)
          refine lv_nm (y := (zf_X1_quarterOf (a3.toInt64))) hr6 ?_
          exact J38 (zf_X1_quarterOf (a3.toInt64)) H locs ls h hP hD hS (lv_sub (l' := [(0, .ref (ad 0))]) hl [0] rfl)
        · replace h := ifp (c5) h
          refine lv_iload_n hx hb dX9_load_29 rfl (lv_at hl 3 rfl) ?_
          refine lv_goto (tgt := 38) hx hb dX9_load_30 (by decide) ?_
          exact J38 a3 H locs ls h hP hD hS (lv_sub (l' := [(0, .ref (ad 0))]) hl [0] rfl)
      · replace h := ifn (c4) h
        exact J16  H locs ls h hP hD hS (lv_sub (l' := []) hl [] rfl)
def zb_X9_set_60 (v3_60 : Int32) (σb60 : Sg) : Int32 × Sg := letb (zf_X9_forgetRuns σb60) (fun q9 => (v3_60, q9))
def zb_X9_set_57 (σ : Sg) : Int32 × Sg := ((-2 : Int32), σ)
def zb_X9_set_28 (a1 : Int32) (a2 : Int32) (σ : Sg) : Int32 × Sg := (if a1 = (1 : Int32) then (if a2 < (2 : Int32) then (zb_X9_set_57 σ) else (if (9 : Int32) < a2 then (zb_X9_set_57 σ) else letb (σ 0 7) (fun e8 => (zb_X9_set_60 e8 (su σ 0 7 a2))))) else (zb_X9_set_57 σ))
def zf_X9_set (a1 : Int32) (a2 : Int32) (σ : Sg) : Int32 × Sg := (if a1 = 0 then (if a2 < 0 then (zb_X9_set_28 a1 a2 σ) else (if (600 : Int32) < a2 then (zb_X9_set_28 a1 a2 σ) else letb (σ 0 6) (fun e4 => (zb_X9_set_60 e4 (su σ 0 6 a2))))) else (zb_X9_set_28 a1 a2 σ))
def oc_X9_set : List Cond := [.fieldLink RX9 45 "TraceTrees" "limit" "I", .fieldLink RX9 49 "TraceTrees" "hot" "I", .methodLink RX9 63 yX9_forgetRuns, .instanceMethod yX9_forgetRuns, .selects RX9 yX9_forgetRuns yX9_forgetRuns, .initialized RX9]
def vc_X9_set : List Cond := .code yX9_set cX9_set 4 (some .int) :: (oc_X9_set ++ (wsX90 ++ (vc_X9_forgetRuns)))
theorem iw_X9_set_X9 : ∀ w ∈ wsX90, w ∈ vc_X9_set := fun _ h => List.mem_cons_of_mem _ (List.mem_append_right _ (List.mem_append_left _ h))
theorem ic_X9_set_c_X9_forgetRuns : ∀ w ∈ vc_X9_forgetRuns, w ∈ vc_X9_set := fun _ h => List.mem_cons_of_mem _ (List.mem_append_right _ (List.mem_append_right _ (h)))
theorem gd_c_X9_set : (vc_X9_set).all goodWord = true := gall_cons rfl (gall_app (by decide +kernel) (gall_app gw_X9 gd_c_X9_forgetRuns))
set_option maxHeartbeats 4000000 in
set_option maxRecDepth 100000 in
theorem c_X9_set (l : Launch) (dC : Nat → ClassId) (dI : Nat → Nat → Nat) (cI cT cS : ClassId) (sz : Nat) (ad : Nat → Nat) (a1 : Int32) (a2 : Int32) (σ : Sg) (o : Int32 × Sg) (h : zf_X9_set a1 a2 σ = o) : gCI (S := Unit) l yX9_set vc_X9_set { frames := 1, cells := 0, slots := 0, locals := 20 } (dC, dI) (gTY cI cT cS) sz [.ref (ad 0), .int a1, .int a2] (Wd 153 (cfC ad cI cT cS) σ) (fun (r : Int32) (_ : Unit) => r = o.1) (fun (_ : Unit) => (Wd 153 (cfC ad cI cT cS) o.2)) 0 0 := by
  refine Met.ofW (cc := cX9_set) (maxL := 4) (ret := (some .int)) (by decide) rfl ?_
  intro p e s m args below meth c s₁ B hml hv
  obtain ⟨rfl, hsz, hP, hK, hD0⟩ := hv
  have hx := B.exec
  have hb := B.bytes
  have hr := B.returns
  have hts := atoms_spec (ws := vc_X9_set) B.pre
  have hown : s.vm.findClass RX9 = some m.cls := findClass_of_methodNamed B.named
  have hlocks := B.notSynchronized
  subst hsz
  have hD := hD0.self (sz := s.heap.size)
  generalize hAe : va_A (Wd 153 (cfC ad cI cT cS) σ) s.heap.size = A at hD ⊢
  have hA : ∀ q : Nat, s.heap.size ≤ q → A q := fun q h => by rw [← hAe]; exact Or.inr h
  clear hAe hD0
  refine gstart (fun H locs hHe hLe => ?_)
  have hS : va_S A s.heap H locs := by rw [← hHe, ← hLe]; exact va_S.rf
  replace hP : va_P (dC, dI) vwCl (Wd 153 (cfC ad cI cT cS) σ) H := by rw [← hHe]; exact hP
  clear hHe hLe
  have hl := lv_entry ([.ref (ad 0), .int a1, .int a2]) (n := 4) (Nat.le_of_ble_eq_true rfl)
  rw [lg_entry_eq]
  generalize (lg_sl ([.ref (ad 0), .int a1, .int a2]) ++ List.replicate (4 - (lg_sl ([.ref (ad 0), .int a1, .int a2])).length) Slot.unset).toArray = ls at hl ⊢
  replace hl : lv_has ls 4 [(0, .ref (ad 0)), (1, .int a1), (2, .int a2)] := hl
  unfold zf_X9_set at h
  have J60 : ∀ (v3_60 : Int32) (σb60 : Sg) (H : Heap) (locs : List Loc) (ls : Array Slot), zb_X9_set_60 v3_60 σb60 = o → va_P (dC, dI) vwCl (Wd 153 (cfC ad cI cT cS) σb60) H → va_D A (Wd 153 (cfC ad cI cT cS) σb60) → va_S A s.heap H locs → lv_has ls 4 [(3, .int v3_60), (0, .ref (ad 0))] → W p l e (headSpec vc_X9_set { frames := 1, cells := 0, slots := 0, locals := 20 }).room s m (List.toArray (α := Value) [.ref (ad 0), .int a1, .int a2]) below meth c H locs 0 0 (MQ below (va_Qi (fun (r : Int32) (_ : Unit) => r = o.1) (gB (dC, dI) A (fun (_ : Unit) => (Wd 153 (cfC ad cI cT cS) o.2))) A) (List.toArray (α := Value) [.ref (ad 0), .int a1, .int a2]) s 0 0 A) (F0 m 60 ls []) := by
    intro v3_60 σb60 H locs ls h hP hD hS hl
    unfold zb_X9_set_60 at h
    refine lv_aload_n hx hb dX9_set_60 rfl (lv_at hl 1 rfl) ?_
    obtain ⟨q9, hc9, h⟩ := letb_inv h
    refine wcallv (S := Unit) (va_runV (As := []) (rest := []) ⟨hx, hb, hml, hown, hts⟩ (c_X9_forgetRuns l dC dI cI cT cS H.size ad   σb60 _ hc9) (cwV 0 hts (gWV (List.mem_of_getElem? (i := 3) rfl) (List.mem_of_getElem? (i := 4) rfl) (List.mem_of_getElem? (i := 5) rfl) (List.mem_of_getElem? (i := 6) rfl) ic_X9_set_c_X9_forgetRuns gd_c_X9_forgetRuns) rfl rfl rfl (by decide +kernel) ⟨(Nat.le_of_ble_eq_true rfl), (Nat.le_of_ble_eq_true rfl)⟩) (wpV (q := (RX9, TX9, 14)) hP hK hD oX9 rfl) rfl rfl hl.1 rfl (lv_room (Nat.le_of_ble_eq_true rfl)) dX9_set_61 ⟨(Nat.le_of_ble_eq_true rfl), (Nat.le_of_ble_eq_true rfl)⟩) hP hD hS hA (fun _ H locs hr10 hP hD hS => ?_)
    replace hP : va_P (dC, dI) vwCl (Wd 153 (cfC ad cI cT cS) q9) H := hP
    replace hD : va_D A (Wd 153 (cfC ad cI cT cS) q9) := hD
    refine lv_iload_n hx hb dX9_set_64 rfl (lv_at hl 0 rfl) ?_
    have h9 := h
    exact wreti hx hb hr hlocks hP hD hS (by show _ = _; rw [← h9]; first | done | rfl) (by rw [← h9]) dX9_set_65
  have J57 : ∀  (H : Heap) (locs : List Loc) (ls : Array Slot), zb_X9_set_57 σ = o → va_P (dC, dI) vwCl (Wd 153 (cfC ad cI cT cS) σ) H → va_D A (Wd 153 (cfC ad cI cT cS) σ) → va_S A s.heap H locs → lv_has ls 4 [] → W p l e (headSpec vc_X9_set { frames := 1, cells := 0, slots := 0, locals := 20 }).room s m (List.toArray (α := Value) [.ref (ad 0), .int a1, .int a2]) below meth c H locs 0 0 (MQ below (va_Qi (fun (r : Int32) (_ : Unit) => r = o.1) (gB (dC, dI) A (fun (_ : Unit) => (Wd 153 (cfC ad cI cT cS) o.2))) A) (List.toArray (α := Value) [.ref (ad 0), .int a1, .int a2]) s 0 0 A) (F0 m 57 ls []) := by
    intro  H locs ls h hP hD hS hl
    unfold zb_X9_set_57 at h
    refine lv_bipush (v := (-2)) hx hb dX9_set_57 (by decide) ?_
    have h9 := h
    exact wreti hx hb hr hlocks hP hD hS (by show _ = _; rw [← h9]; first | done | rfl) (by rw [← h9]) dX9_set_59
  have J28 : ∀  (H : Heap) (locs : List Loc) (ls : Array Slot), zb_X9_set_28 a1 a2 σ = o → va_P (dC, dI) vwCl (Wd 153 (cfC ad cI cT cS) σ) H → va_D A (Wd 153 (cfC ad cI cT cS) σ) → va_S A s.heap H locs → lv_has ls 4 [(0, .ref (ad 0)), (1, .int a1), (2, .int a2)] → W p l e (headSpec vc_X9_set { frames := 1, cells := 0, slots := 0, locals := 20 }).room s m (List.toArray (α := Value) [.ref (ad 0), .int a1, .int a2]) below meth c H locs 0 0 (MQ below (va_Qi (fun (r : Int32) (_ : Unit) => r = o.1) (gB (dC, dI) A (fun (_ : Unit) => (Wd 153 (cfC ad cI cT cS) o.2))) A) (List.toArray (α := Value) [.ref (ad 0), .int a1, .int a2]) s 0 0 A) (F0 m 28 ls []) := by
    intro  H locs ls h hP hD hS hl
    unfold zb_X9_set_28 at h
    refine lv_iload_n hx hb dX9_set_28 rfl (lv_at hl 1 rfl) ?_
    refine lv_iconst (v := 1) hx hb dX9_set_29 (by decide) ?_
    refine lv_icmp_ne (tgt := 57) hx hb dX9_set_30 (by decide) (fun c5 => ?_) (fun c5 => ?_)
    · replace h := ifn (c5) h
      exact J57  H locs ls h hP hD hS (lv_sub (l' := []) hl [] rfl)
    · replace h := ifp (c5) h
      refine lv_iload_n hx hb dX9_set_33 rfl (lv_at hl 2 rfl) ?_
      refine lv_iconst (v := 2) hx hb dX9_set_34 (by decide) ?_
      refine lv_icmp_lt (tgt := 57) hx hb dX9_set_35 (by decide) (fun c6 => ?_) (fun c6 => ?_)
      · replace h := ifp (c6) h
        exact J57  H locs ls h hP hD hS (lv_sub (l' := []) hl [] rfl)
      · replace h := ifn (c6) h
        refine lv_iload_n hx hb dX9_set_38 rfl (lv_at hl 2 rfl) ?_
        refine lv_bipush (v := 9) hx hb dX9_set_39 (by decide) ?_
        refine lv_icmp_gt (tgt := 57) hx hb dX9_set_41 (by decide) (fun c7 => ?_) (fun c7 => ?_)
        · replace h := ifp (c7) h
          exact J57  H locs ls h hP hD hS (lv_sub (l' := []) hl [] rfl)
        · replace h := ifn (c7) h
          refine lv_aload_n hx hb dX9_set_44 rfl (lv_at hl 0 rfl) ?_
          refine gf_X9_7 hx hb hts iw_X9_set_X9 hown hK hP (hts (.fieldLink RX9 49 "TraceTrees" "hot" "I") (List.mem_of_getElem? (i := 2) rfl)) dX9_set_45 ?_
          obtain ⟨e8, he8, h⟩ := letb_inv h
          refine lv_nm he8 ?_
          refine lv_istore_n (lv' := [(3, .int e8), (0, .ref (ad 0)), (1, .int a1), (2, .int a2)]) hx hb dX9_set_48 rfl hl (by decide) rfl (fun ls hl => ?_)
          refine lv_aload_n hx hb dX9_set_49 rfl (lv_at hl 1 rfl) ?_
          refine lv_iload_n hx hb dX9_set_50 rfl (lv_at hl 3 rfl) ?_
          refine pf_X9_7 hx hb hts iw_X9_set_X9 hown hK hP hD hS (hts (.fieldLink RX9 49 "TraceTrees" "hot" "I") (List.mem_of_getElem? (i := 2) rfl)) dX9_set_51 (fun H locs hP hD hS => ?_)
          refine lv_goto (tgt := 60) hx hb dX9_set_54 (by decide) ?_
          exact J60 e8 (su σ 0 7 a2) H locs ls h hP hD hS (lv_sub (l' := [(3, .int e8), (0, .ref (ad 0))]) hl [0, 1] rfl)
  refine lv_iload_n hx hb dX9_set_0 rfl (lv_at hl 1 rfl) ?_
  refine lv_if_ne (tgt := 28) hx hb dX9_set_1 (by decide) (fun c1 => ?_) (fun c1 => ?_)
  · replace h := ifn (c1) h
    exact J28  H locs ls h hP hD hS (lv_sub (l' := [(0, .ref (ad 0)), (1, .int a1), (2, .int a2)]) hl [0, 1, 2] rfl)
  · replace h := ifp (c1) h
    refine lv_iload_n hx hb dX9_set_4 rfl (lv_at hl 2 rfl) ?_
    refine lv_if_lt (tgt := 28) hx hb dX9_set_5 (by decide) (fun c2 => ?_) (fun c2 => ?_)
    · replace h := ifp (c2) h
      exact J28  H locs ls h hP hD hS (lv_sub (l' := [(0, .ref (ad 0)), (1, .int a1), (2, .int a2)]) hl [0, 1, 2] rfl)
    · replace h := ifn (c2) h
      refine lv_iload_n hx hb dX9_set_8 rfl (lv_at hl 2 rfl) ?_
      refine lv_sipush (v := 600) hx hb dX9_set_9 (by decide) ?_
      refine lv_icmp_gt (tgt := 28) hx hb dX9_set_12 (by decide) (fun c3 => ?_) (fun c3 => ?_)
      · replace h := ifp (c3) h
        exact J28  H locs ls h hP hD hS (lv_sub (l' := [(0, .ref (ad 0)), (1, .int a1), (2, .int a2)]) hl [0, 1, 2] rfl)
      · replace h := ifn (c3) h
        refine lv_aload_n hx hb dX9_set_15 rfl (lv_at hl 0 rfl) ?_
        refine gf_X9_6 hx hb hts iw_X9_set_X9 hown hK hP (hts (.fieldLink RX9 45 "TraceTrees" "limit" "I") (List.mem_of_getElem? (i := 1) rfl)) dX9_set_16 ?_
        obtain ⟨e4, he4, h⟩ := letb_inv h
        refine lv_nm he4 ?_
        refine lv_istore_n (lv' := [(3, .int e4), (0, .ref (ad 0)), (1, .int a1), (2, .int a2)]) hx hb dX9_set_19 rfl hl (by decide) rfl (fun ls hl => ?_)
        refine lv_aload_n hx hb dX9_set_20 rfl (lv_at hl 1 rfl) ?_
        refine lv_iload_n hx hb dX9_set_21 rfl (lv_at hl 3 rfl) ?_
        refine pf_X9_6 hx hb hts iw_X9_set_X9 hown hK hP hD hS (hts (.fieldLink RX9 45 "TraceTrees" "limit" "I") (List.mem_of_getElem? (i := 1) rfl)) dX9_set_22 (fun H locs hP hD hS => ?_)
        refine lv_goto (tgt := 60) hx hb dX9_set_25 (by decide) ?_
        exact J60 e4 (su σ 0 6 a2) H locs ls h hP hD hS (lv_sub (l' := [(3, .int e4), (0, .ref (ad 0))]) hl [0, 1] rfl)
def zf_X9_found (a1 : Int32) (σ : Sg) : Int32 × Sg := (((-10 : Int32) - a1), su σ 0 8 a1)
def oc_X9_found : List Cond := [.fieldLink RX9 166 "TraceTrees" "finding" "I"]
def vc_X9_found : List Cond := .code yX9_found cX9_found 2 (some .int) :: (oc_X9_found ++ (wsX90))
theorem iw_X9_found_X9 : ∀ w ∈ wsX90, w ∈ vc_X9_found := fun _ h => List.mem_cons_of_mem _ (List.mem_append_right _ (h))
theorem gd_c_X9_found : (vc_X9_found).all goodWord = true := gall_cons rfl (gall_app (by decide +kernel) gw_X9)
set_option maxHeartbeats 4000000 in
set_option maxRecDepth 100000 in
theorem c_X9_found (l : Launch) (dC : Nat → ClassId) (dI : Nat → Nat → Nat) (cI cT cS : ClassId) (sz : Nat) (ad : Nat → Nat) (a1 : Int32) (σ : Sg) (o : Int32 × Sg) (h : zf_X9_found a1 σ = o) : gCI (S := Unit) l yX9_found vc_X9_found { frames := 0, cells := 0, slots := 0, locals := 0 } (dC, dI) (gTY cI cT cS) sz [.ref (ad 0), .int a1] (Wd 153 (cfC ad cI cT cS) σ) (fun (r : Int32) (_ : Unit) => r = o.1) (fun (_ : Unit) => (Wd 153 (cfC ad cI cT cS) o.2)) 0 0 := by
  refine Met.ofW (cc := cX9_found) (maxL := 2) (ret := (some .int)) (by decide) rfl ?_
  intro p e s m args below meth c s₁ B hml hv
  obtain ⟨rfl, hsz, hP, hK, hD0⟩ := hv
  have hx := B.exec
  have hb := B.bytes
  have hr := B.returns
  have hts := atoms_spec (ws := vc_X9_found) B.pre
  have hown : s.vm.findClass RX9 = some m.cls := findClass_of_methodNamed B.named
  have hlocks := B.notSynchronized
  subst hsz
  have hD := hD0.self (sz := s.heap.size)
  generalize hAe : va_A (Wd 153 (cfC ad cI cT cS) σ) s.heap.size = A at hD ⊢
  have hA : ∀ q : Nat, s.heap.size ≤ q → A q := fun q h => by rw [← hAe]; exact Or.inr h
  clear hAe hD0
  refine gstart (fun H locs hHe hLe => ?_)
  have hS : va_S A s.heap H locs := by rw [← hHe, ← hLe]; exact va_S.rf
  replace hP : va_P (dC, dI) vwCl (Wd 153 (cfC ad cI cT cS) σ) H := by rw [← hHe]; exact hP
  clear hHe hLe
  have hl := lv_entry ([.ref (ad 0), .int a1]) (n := 2) (Nat.le_of_ble_eq_true rfl)
  rw [lg_entry_eq]
  generalize (lg_sl ([.ref (ad 0), .int a1]) ++ List.replicate (2 - (lg_sl ([.ref (ad 0), .int a1])).length) Slot.unset).toArray = ls at hl ⊢
  replace hl : lv_has ls 2 [(0, .ref (ad 0)), (1, .int a1)] := hl
  unfold zf_X9_found at h
  refine lv_aload_n hx hb dX9_found_0 rfl (lv_at hl 0 rfl) ?_
  refine lv_iload_n hx hb dX9_found_1 rfl (lv_at hl 1 rfl) ?_
  refine pf_X9_8 hx hb hts iw_X9_found_X9 hown hK hP hD hS (hts (.fieldLink RX9 166 "TraceTrees" "finding" "I") (List.mem_of_getElem? (i := 1) rfl)) dX9_found_2 (fun H locs hP hD hS => ?_)
  refine lv_bipush (v := (-10)) hx hb dX9_found_5 (by decide) ?_
  refine lv_iload_n hx hb dX9_found_7 rfl (lv_at hl 1 rfl) ?_
  refine lv_isub hx hb dX9_found_8 ?_
  have h9 := h
  exact wreti hx hb hr hlocks hP hD hS (by show _ = _; rw [← h9]; first | done | rfl) (by rw [← h9]) dX9_found_9
def zl_X9_read_35 (a1 : Int32) (x35 : Int32 × Int32 × Sg) : Option (Bool × (Int32 × Int32 × Sg)) := (if (x35.2.2 (13 + 2 * a1.toNatClampNeg) 2) ≤ (x35.1 + (3 : Int32)) then some (false, (x35.1, x35.2.1, x35.2.2)) else (if (24 : Int32) ≤ (x35.2.2 1 4) then some (false, (x35.1, x35.2.1, x35.2.2)) else bd x35.1 60 (bd (x35.1 + (1 : Int32)) 60 (bd (x35.1 + (2 : Int32)) 60 (bd (x35.1 + (3 : Int32)) 60 ((if (zf_X4_allows (x35.2.2 ((13 + 2 * a1.toNatClampNeg) + 1) x35.1.toNatClampNeg) (x35.2.2 ((13 + 2 * a1.toNatClampNeg) + 1) (x35.1 + (1 : Int32)).toNatClampNeg) (x35.2.2 ((13 + 2 * a1.toNatClampNeg) + 1) (x35.1 + (2 : Int32)).toNatClampNeg) (x35.2.2 ((13 + 2 * a1.toNatClampNeg) + 1) (x35.1 + (3 : Int32)).toNatClampNeg)) = true then obd (zf_X4_append (x35.2.2 ((13 + 2 * a1.toNatClampNeg) + 1) x35.1.toNatClampNeg) (x35.2.2 ((13 + 2 * a1.toNatClampNeg) + 1) (x35.1 + (1 : Int32)).toNatClampNeg) (x35.2.2 ((13 + 2 * a1.toNatClampNeg) + 1) (x35.1 + (2 : Int32)).toNatClampNeg) (x35.2.2 ((13 + 2 * a1.toNatClampNeg) + 1) (x35.1 + (3 : Int32)).toNatClampNeg) x35.2.2) (fun σ14 => some (true, ((x35.1 + (4 : Int32)), (x35.2.1 + (1 : Int32)), σ14))) else some (false, (x35.1, x35.2.1, x35.2.2)))))))))
def zf_X9_read (a1 : Int32) (σ : Sg) : Option (Int32 × Sg) := (if (zf_X9_isSheet a1) = true then bd a1 4 ((if (zf_X6_isLost (13 + 2 * a1.toNatClampNeg) σ) = true then letb (zf_X9_found (1 : Int32) σ) (fun q18 => some (q18.1, q18.2)) else obd (lp (X := Int32 × Int32 × Sg) (zl_X9_read_35 a1) 1000 ((0 : Int32), (0 : Int32), σ)) (fun y35 => letb (zf_X9_forgetRuns y35.2.2) (fun q16 => some (y35.2.1, q16))))) else some ((-2 : Int32), σ))
def oc_X9_read : List Cond := [.methodLink RX9 90 yX9_isSheet, .static yX9_isSheet, .initialized RX9, .fieldLink RX9 40 "TraceTrees" "sheets" "[LTraceTrees$Sheet;", .methodLink RX9 93 yX6_isLost, .instanceMethod yX6_isLost, .selects RX6 yX6_isLost yX6_isLost, .initialized RX6, .fieldLink RX9 101 "TraceTrees$Sheet" "size" "I", .fieldLink RX9 10 "TraceTrees" "program" "LTraceTrees$Program;", .fieldLink RX9 56 "TraceTrees$Program" "size" "I", .fieldLink RX9 102 "TraceTrees$Sheet" "items" "[I", .methodLink RX9 52 yX4_allows, .static yX4_allows, .initialized RX4, .methodLink RX9 59 yX4_append, .instanceMethod yX4_append, .selects RX4 yX4_append yX4_append, .methodLink RX9 63 yX9_forgetRuns, .instanceMethod yX9_forgetRuns, .selects RX9 yX9_forgetRuns yX9_forgetRuns, .methodLink RX9 97 yX9_found, .instanceMethod yX9_found, .selects RX9 yX9_found yX9_found]
def vc_X9_read : List Cond := .code yX9_read cX9_read 5 (some .int) :: (oc_X9_read ++ (wsX90 ++ (wsX60 ++ (wsX40 ++ (vc_X9_isSheet ++ (vc_X6_isLost ++ (vc_X4_allows ++ (vc_X4_append ++ (vc_X9_forgetRuns ++ (vc_X9_found))))))))))
theorem iw_X9_read_X9 : ∀ w ∈ wsX90, w ∈ vc_X9_read := fun _ h => List.mem_cons_of_mem _ (List.mem_append_right _ (List.mem_append_left _ h))
theorem iw_X9_read_X6 : ∀ w ∈ wsX60, w ∈ vc_X9_read := fun _ h => List.mem_cons_of_mem _ (List.mem_append_right _ (List.mem_append_right _ (List.mem_append_left _ h)))
theorem iw_X9_read_X4 : ∀ w ∈ wsX40, w ∈ vc_X9_read := fun _ h => List.mem_cons_of_mem _ (List.mem_append_right _ (List.mem_append_right _ (List.mem_append_right _ (List.mem_append_left _ h))))
theorem ic_X9_read_c_X9_isSheet : ∀ w ∈ vc_X9_isSheet, w ∈ vc_X9_read := fun _ h => List.mem_cons_of_mem _ (List.mem_append_right _ (List.mem_append_right _ (List.mem_append_right _ (List.mem_append_right _ (List.mem_append_left _ h)))))
theorem ic_X9_read_c_X6_isLost : ∀ w ∈ vc_X6_isLost, w ∈ vc_X9_read := fun _ h => List.mem_cons_of_mem _ (List.mem_append_right _ (List.mem_append_right _ (List.mem_append_right _ (List.mem_append_right _ (List.mem_append_right _ (List.mem_append_left _ h))))))
theorem ic_X9_read_c_X4_allows : ∀ w ∈ vc_X4_allows, w ∈ vc_X9_read := fun _ h => List.mem_cons_of_mem _ (List.mem_append_right _ (List.mem_append_right _ (List.mem_append_right _ (List.mem_append_right _ (List.mem_append_right _ (List.mem_append_right _ (List.mem_append_left _ h)))))))
theorem ic_X9_read_c_X4_append : ∀ w ∈ vc_X4_append, w ∈ vc_X9_read := fun _ h => List.mem_cons_of_mem _ (List.mem_append_right _ (List.mem_append_right _ (List.mem_append_right _ (List.mem_append_right _ (List.mem_append_right _ (List.mem_append_right _ (List.mem_append_right _ (List.mem_append_left _ h))))))))
theorem ic_X9_read_c_X9_forgetRuns : ∀ w ∈ vc_X9_forgetRuns, w ∈ vc_X9_read := fun _ h => List.mem_cons_of_mem _ (List.mem_append_right _ (List.mem_append_right _ (List.mem_append_right _ (List.mem_append_right _ (List.mem_append_right _ (List.mem_append_right _ (List.mem_append_right _ (List.mem_append_right _ (List.mem_append_left _ h)))))))))
theorem ic_X9_read_c_X9_found : ∀ w ∈ vc_X9_found, w ∈ vc_X9_read := fun _ h => List.mem_cons_of_mem _ (List.mem_append_right _ (List.mem_append_right _ (List.mem_append_right _ (List.mem_append_right _ (List.mem_append_right _ (List.mem_append_right _ (List.mem_append_right _ (List.mem_append_right _ (List.mem_append_right _ (h))))))))))
theorem gd_c_X9_read : (vc_X9_read).all goodWord = true := gall_cons rfl (gall_app (by decide +kernel) (gall_app gw_X9 (gall_app gw_X6 (gall_app gw_X4 (gall_app gd_c_X9_isSheet (gall_app gd_c_X6_isLost (gall_app gd_c_X4_allows (gall_app gd_c_X4_append (gall_app gd_c_X9_forgetRuns gd_c_X9_found)))))))))
set_option maxHeartbeats 4000000 in
set_option maxRecDepth 100000 in
theorem c_X9_read (l : Launch) (dC : Nat → ClassId) (dI : Nat → Nat → Nat) (cI cT cS : ClassId) (sz : Nat) (ad : Nat → Nat) (a1 : Int32) (σ : Sg) (o : Int32 × Sg) (h : zf_X9_read a1 σ = some o) : gCI (S := Unit) l yX9_read vc_X9_read { frames := 2, cells := 0, slots := 0, locals := 49 } (dC, dI) (gTY cI cT cS) sz [.ref (ad 0), .int a1] (Wd 153 (cfC ad cI cT cS) σ) (fun (r : Int32) (_ : Unit) => r = o.1) (fun (_ : Unit) => (Wd 153 (cfC ad cI cT cS) o.2)) 0 0 := by
  refine Met.ofW (cc := cX9_read) (maxL := 5) (ret := (some .int)) (by decide) rfl ?_
  intro p e s m args below meth c s₁ B hml hv
  obtain ⟨rfl, hsz, hP, hK, hD0⟩ := hv
  have hx := B.exec
  have hb := B.bytes
  have hr := B.returns
  have hts := atoms_spec (ws := vc_X9_read) B.pre
  have hown : s.vm.findClass RX9 = some m.cls := findClass_of_methodNamed B.named
  have hlocks := B.notSynchronized
  subst hsz
  have hD := hD0.self (sz := s.heap.size)
  generalize hAe : va_A (Wd 153 (cfC ad cI cT cS) σ) s.heap.size = A at hD ⊢
  have hA : ∀ q : Nat, s.heap.size ≤ q → A q := fun q h => by rw [← hAe]; exact Or.inr h
  clear hAe hD0
  refine gstart (fun H locs hHe hLe => ?_)
  have hS : va_S A s.heap H locs := by rw [← hHe, ← hLe]; exact va_S.rf
  replace hP : va_P (dC, dI) vwCl (Wd 153 (cfC ad cI cT cS) σ) H := by rw [← hHe]; exact hP
  clear hHe hLe
  have hl := lv_entry ([.ref (ad 0), .int a1]) (n := 5) (Nat.le_of_ble_eq_true rfl)
  rw [lg_entry_eq]
  generalize (lg_sl ([.ref (ad 0), .int a1]) ++ List.replicate (5 - (lg_sl ([.ref (ad 0), .int a1])).length) Slot.unset).toArray = ls at hl ⊢
  replace hl : lv_has ls 5 [(0, .ref (ad 0)), (1, .int a1)] := hl
  unfold zf_X9_read at h
  refine lv_iload_n hx hb dX9_read_0 rfl (lv_at hl 1 rfl) ?_
  refine wcalli (S := Unit) (va_runS (As := [.int a1]) (rest := []) ⟨hx, hb, hml, hown, hts⟩ (c_X9_isSheet l dC dI cI cT cS H.size (Wd 153 (cfC ad cI cT cS) σ)  a1 _ rfl) (va_cwS 1 hts (gWS (List.mem_of_getElem? (i := 1) rfl) (List.mem_of_getElem? (i := 2) rfl) (List.mem_of_getElem? (i := 3) rfl) ic_X9_read_c_X9_isSheet gd_c_X9_isSheet) rfl rfl rfl (by decide +kernel) ⟨(Nat.le_of_ble_eq_true rfl), (Nat.le_of_ble_eq_true rfl)⟩) (gpS hP hK hD) rfl rfl hl.1 rfl (lv_room (Nat.le_of_ble_eq_true rfl)) dX9_read_1 ⟨(Nat.le_of_ble_eq_true rfl), (Nat.le_of_ble_eq_true rfl)⟩) hP hD hS hA (fun rr1 _ H locs hr1 hP hD hS => ?_)
  refine lv_nm (y := b2i (zf_X9_isSheet a1)) hr1 ?_
  refine lv_if_ne (tgt := 10) hx hb dX9_read_4 (by decide) (fun c2 => ?_) (fun c2 => ?_)
  · replace h := ifp (b2i_1 c2) h
    refine lv_aload_n hx hb dX9_read_10 rfl (lv_at hl 0 rfl) ?_
    refine gf_X9_2 hx hb hts iw_X9_read_X9 hown hK hP (hts (.fieldLink RX9 40 "TraceTrees" "sheets" "[LTraceTrees$Sheet;") (List.mem_of_getElem? (i := 4) rfl)) dX9_read_11 ?_
    refine lv_iload_n hx hb dX9_read_14 rfl (lv_at hl 1 rfl) ?_
    obtain ⟨hi3, h⟩ := bd_inv h
    refine waldS hx hb hK hP hi3 dX9_read_15 ?_
    refine lv_astore_n (lv' := [(2, .ref (ad (13 + 2 * a1.toNatClampNeg))), (0, .ref (ad 0)), (1, .int a1)]) hx hb dX9_read_16 rfl hl (by decide) rfl (fun ls hl => ?_)
    refine lv_aload_n hx hb dX9_read_17 rfl (lv_at hl 0 rfl) ?_
    refine wcalli (S := Unit) (va_runV (As := []) (rest := []) ⟨hx, hb, hml, hown, hts⟩ (c_X6_isLost l dC dI cI cT cS H.size ad (13 + 2 * a1.toNatClampNeg) (isSh_i hi3)  σ _ rfl) (cwV 0 hts (gWV (List.mem_of_getElem? (i := 5) rfl) (List.mem_of_getElem? (i := 6) rfl) (List.mem_of_getElem? (i := 7) rfl) (List.mem_of_getElem? (i := 8) rfl) ic_X9_read_c_X6_isLost gd_c_X6_isLost) rfl rfl rfl (by decide +kernel) ⟨(Nat.le_of_ble_eq_true rfl), (Nat.le_of_ble_eq_true rfl)⟩) (wpV (q := (RX6, TX6, 3)) hP hK hD (oX6 (isSh_i hi3)) rfl) rfl rfl hl.1 rfl (lv_room (Nat.le_of_ble_eq_true rfl)) dX9_read_18 ⟨(Nat.le_of_ble_eq_true rfl), (Nat.le_of_ble_eq_true rfl)⟩) hP hD hS hA (fun rr4 _ H locs hr4 hP hD hS => ?_)
    refine lv_nm (y := b2i (zf_X6_isLost (13 + 2 * a1.toNatClampNeg) σ)) hr4 ?_
    refine lv_if_eq (tgt := 30) hx hb dX9_read_21 (by decide) (fun c5 => ?_) (fun c5 => ?_)
    · replace h := ifn (b2i_0 c5) h
      refine lv_iconst (v := 0) hx hb dX9_read_30 (by decide) ?_
      refine lv_istore_n (lv' := [(3, .int (0 : Int32)), (2, .ref (ad (13 + 2 * a1.toNatClampNeg))), (0, .ref (ad 0)), (1, .int a1)]) hx hb dX9_read_31 rfl hl (by decide) rfl (fun ls hl => ?_)
      refine lv_iconst (v := 0) hx hb dX9_read_32 (by decide) ?_
      refine lv_istore (lv' := [(4, .int (0 : Int32)), (3, .int (0 : Int32)), (2, .ref (ad (13 + 2 * a1.toNatClampNeg))), (0, .ref (ad 0)), (1, .int a1)]) hx hb dX9_read_33 hl (by decide) rfl (fun ls hl => ?_)
      obtain ⟨y35, hlp35, h⟩ := obd_inv h
      refine lp_W (fun x35 : Int32 × Int32 × Sg => ∀ (H : Heap) (locs : List Loc) (ls : Array Slot), va_P (dC, dI) vwCl (Wd 153 (cfC ad cI cT cS) x35.2.2) H → va_D A (Wd 153 (cfC ad cI cT cS) x35.2.2) → va_S A s.heap H locs → lv_has ls 5 [(4, .int x35.1), (3, .int x35.2.1), (2, .ref (ad (13 + 2 * a1.toNatClampNeg))), (0, .ref (ad 0))] → W p l e (headSpec vc_X9_read { frames := 2, cells := 0, slots := 0, locals := 49 }).room s m (List.toArray (α := Value) [.ref (ad 0), .int a1]) below meth c H locs 0 0 (MQ below (va_Qi (fun (r : Int32) (_ : Unit) => r = o.1) (gB (dC, dI) A (fun (_ : Unit) => (Wd 153 (cfC ad cI cT cS) o.2))) A) (List.toArray (α := Value) [.ref (ad 0), .int a1]) s 0 0 A) (F0 m 35 ls [])) (fun y35 : Int32 × Int32 × Sg => ∀ (H : Heap) (locs : List Loc) (ls : Array Slot), va_P (dC, dI) vwCl (Wd 153 (cfC ad cI cT cS) y35.2.2) H → va_D A (Wd 153 (cfC ad cI cT cS) y35.2.2) → va_S A s.heap H locs → lv_has ls 5 [(3, .int y35.2.1), (0, .ref (ad 0))] → W p l e (headSpec vc_X9_read { frames := 2, cells := 0, slots := 0, locals := 49 }).room s m (List.toArray (α := Value) [.ref (ad 0), .int a1]) below meth c H locs 0 0 (MQ below (va_Qi (fun (r : Int32) (_ : Unit) => r = o.1) (gB (dC, dI) A (fun (_ : Unit) => (Wd 153 (cfC ad cI cT cS) o.2))) A) (List.toArray (α := Value) [.ref (ad 0), .int a1]) s 0 0 A) (F0 m 151 ls [])) ?_ 1000 ((0 : Int32), (0 : Int32), σ) y35 hlp35 ?_ H locs ls hP hD hS (lv_sub (l' := [(4, .int (0 : Int32)), (3, .int (0 : Int32)), (2, .ref (ad (13 + 2 * a1.toNatClampNeg))), (0, .ref (ad 0))]) hl [0, 1, 2, 3] rfl)
      · intro x35 yy35 h ht35 hf35 H locs ls hP hD hS hl
        unfold zl_X9_read_35 at h
        refine lv_iload hx hb dX9_read_35 (lv_at hl 0 rfl) ?_
        refine lv_iconst (v := 3) hx hb dX9_read_37 (by decide) ?_
        refine lv_iadd hx hb dX9_read_38 ?_
        refine lv_aload_n hx hb dX9_read_39 rfl (lv_at hl 2 rfl) ?_
        refine gf_X6_2 (isSh_i hi3) hx hb hts iw_X9_read_X6 hown hK hP (hts (.fieldLink RX9 101 "TraceTrees$Sheet" "size" "I") (List.mem_of_getElem? (i := 9) rfl)) dX9_read_40 ?_
        refine lv_icmp_ge (tgt := 151) hx hb dX9_read_43 (by decide) (fun c6 => ?_) (fun c6 => ?_)
        · replace h := ifp (c6) h
          obtain rfl := Option.some.inj h
          exact hf35 rfl H locs ls hP hD hS (lv_sub (l' := [(3, .int x35.2.1), (0, .ref (ad 0))]) hl [1, 3] rfl)
        · replace h := ifn (c6) h
          refine lv_aload_n hx hb dX9_read_46 rfl (lv_at hl 3 rfl) ?_
          refine gf_X9_0 hx hb hts iw_X9_read_X9 hown hK hP (hts (.fieldLink RX9 10 "TraceTrees" "program" "LTraceTrees$Program;") (List.mem_of_getElem? (i := 10) rfl)) dX9_read_47 ?_
          refine gf_X4_4 hx hb hts iw_X9_read_X4 hown hK hP (hts (.fieldLink RX9 56 "TraceTrees$Program" "size" "I") (List.mem_of_getElem? (i := 11) rfl)) dX9_read_50 ?_
          refine lv_bipush (v := 24) hx hb dX9_read_53 (by decide) ?_
          refine lv_icmp_ge (tgt := 151) hx hb dX9_read_55 (by decide) (fun c7 => ?_) (fun c7 => ?_)
          · replace h := ifp (c7) h
            obtain rfl := Option.some.inj h
            exact hf35 rfl H locs ls hP hD hS (lv_sub (l' := [(3, .int x35.2.1), (0, .ref (ad 0))]) hl [1, 3] rfl)
          · replace h := ifn (c7) h
            refine lv_aload_n hx hb dX9_read_58 rfl (lv_at hl 2 rfl) ?_
            refine gf_X6_0 (isSh_i hi3) hx hb hts iw_X9_read_X6 hown hK hP (hts (.fieldLink RX9 102 "TraceTrees$Sheet" "items" "[I") (List.mem_of_getElem? (i := 12) rfl)) dX9_read_59 ?_
            refine lv_iload hx hb dX9_read_62 (lv_at hl 0 rfl) ?_
            obtain ⟨hi8, h⟩ := bd_inv h
            refine wald hx hb hK hP (aS1 (isSh_i hi3)) hi8 dX9_read_64 ?_
            refine lv_aload_n hx hb dX9_read_65 rfl (lv_at hl 2 rfl) ?_
            refine gf_X6_0 (isSh_i hi3) hx hb hts iw_X9_read_X6 hown hK hP (hts (.fieldLink RX9 102 "TraceTrees$Sheet" "items" "[I") (List.mem_of_getElem? (i := 12) rfl)) dX9_read_66 ?_
            refine lv_iload hx hb dX9_read_69 (lv_at hl 0 rfl) ?_
            refine lv_iconst (v := 1) hx hb dX9_read_71 (by decide) ?_
            refine lv_iadd hx hb dX9_read_72 ?_
            obtain ⟨hi9, h⟩ := bd_inv h
            refine wald hx hb hK hP (aS1 (isSh_i hi3)) hi9 dX9_read_73 ?_
            refine lv_aload_n hx hb dX9_read_74 rfl (lv_at hl 2 rfl) ?_
            refine gf_X6_0 (isSh_i hi3) hx hb hts iw_X9_read_X6 hown hK hP (hts (.fieldLink RX9 102 "TraceTrees$Sheet" "items" "[I") (List.mem_of_getElem? (i := 12) rfl)) dX9_read_75 ?_
            refine lv_iload hx hb dX9_read_78 (lv_at hl 0 rfl) ?_
            refine lv_iconst (v := 2) hx hb dX9_read_80 (by decide) ?_
            refine lv_iadd hx hb dX9_read_81 ?_
            obtain ⟨hi10, h⟩ := bd_inv h
            refine wald hx hb hK hP (aS1 (isSh_i hi3)) hi10 dX9_read_82 ?_
            refine lv_aload_n hx hb dX9_read_83 rfl (lv_at hl 2 rfl) ?_
            refine gf_X6_0 (isSh_i hi3) hx hb hts iw_X9_read_X6 hown hK hP (hts (.fieldLink RX9 102 "TraceTrees$Sheet" "items" "[I") (List.mem_of_getElem? (i := 12) rfl)) dX9_read_84 ?_
            refine lv_iload hx hb dX9_read_87 (lv_at hl 0 rfl) ?_
            refine lv_iconst (v := 3) hx hb dX9_read_89 (by decide) ?_
            refine lv_iadd hx hb dX9_read_90 ?_
            obtain ⟨hi11, h⟩ := bd_inv h
            refine wald hx hb hK hP (aS1 (isSh_i hi3)) hi11 dX9_read_91 ?_
            refine wcalli (S := Unit) (va_runS (As := [.int (x35.2.2 ((13 + 2 * a1.toNatClampNeg) + 1) x35.1.toNatClampNeg), .int (x35.2.2 ((13 + 2 * a1.toNatClampNeg) + 1) (x35.1 + (1 : Int32)).toNatClampNeg), .int (x35.2.2 ((13 + 2 * a1.toNatClampNeg) + 1) (x35.1 + (2 : Int32)).toNatClampNeg), .int (x35.2.2 ((13 + 2 * a1.toNatClampNeg) + 1) (x35.1 + (3 : Int32)).toNatClampNeg)]) (rest := []) ⟨hx, hb, hml, hown, hts⟩ (c_X4_allows l dC dI cI cT cS H.size (Wd 153 (cfC ad cI cT cS) x35.2.2)  (x35.2.2 ((13 + 2 * a1.toNatClampNeg) + 1) x35.1.toNatClampNeg) (x35.2.2 ((13 + 2 * a1.toNatClampNeg) + 1) (x35.1 + (1 : Int32)).toNatClampNeg) (x35.2.2 ((13 + 2 * a1.toNatClampNeg) + 1) (x35.1 + (2 : Int32)).toNatClampNeg) (x35.2.2 ((13 + 2 * a1.toNatClampNeg) + 1) (x35.1 + (3 : Int32)).toNatClampNeg) _ rfl) (va_cwS 4 hts (gWS (List.mem_of_getElem? (i := 13) rfl) (List.mem_of_getElem? (i := 14) rfl) (List.mem_of_getElem? (i := 15) rfl) ic_X9_read_c_X4_allows gd_c_X4_allows) rfl rfl rfl (by decide +kernel) ⟨(Nat.le_of_ble_eq_true rfl), (Nat.le_of_ble_eq_true rfl)⟩) (gpS hP hK hD) rfl rfl hl.1 rfl (lv_room (Nat.le_of_ble_eq_true rfl)) dX9_read_92 ⟨(Nat.le_of_ble_eq_true rfl), (Nat.le_of_ble_eq_true rfl)⟩) hP hD hS hA (fun rr12 _ H locs hr12 hP hD hS => ?_)
            refine lv_nm (y := b2i (zf_X4_allows (x35.2.2 ((13 + 2 * a1.toNatClampNeg) + 1) x35.1.toNatClampNeg) (x35.2.2 ((13 + 2 * a1.toNatClampNeg) + 1) (x35.1 + (1 : Int32)).toNatClampNeg) (x35.2.2 ((13 + 2 * a1.toNatClampNeg) + 1) (x35.1 + (2 : Int32)).toNatClampNeg) (x35.2.2 ((13 + 2 * a1.toNatClampNeg) + 1) (x35.1 + (3 : Int32)).toNatClampNeg))) hr12 ?_
            refine lv_if_ne (tgt := 101) hx hb dX9_read_95 (by decide) (fun c13 => ?_) (fun c13 => ?_)
            · replace h := ifp (b2i_1 c13) h
              refine lv_aload_n hx hb dX9_read_101 rfl (lv_at hl 3 rfl) ?_
              refine gf_X9_0 hx hb hts iw_X9_read_X9 hown hK hP (hts (.fieldLink RX9 10 "TraceTrees" "program" "LTraceTrees$Program;") (List.mem_of_getElem? (i := 10) rfl)) dX9_read_102 ?_
              refine lv_aload_n hx hb dX9_read_105 rfl (lv_at hl 2 rfl) ?_
              refine gf_X6_0 (isSh_i hi3) hx hb hts iw_X9_read_X6 hown hK hP (hts (.fieldLink RX9 102 "TraceTrees$Sheet" "items" "[I") (List.mem_of_getElem? (i := 12) rfl)) dX9_read_106 ?_
              refine lv_iload hx hb dX9_read_109 (lv_at hl 0 rfl) ?_
              refine wald hx hb hK hP (aS1 (isSh_i hi3)) hi8 dX9_read_111 ?_
              refine lv_aload_n hx hb dX9_read_112 rfl (lv_at hl 2 rfl) ?_
              refine gf_X6_0 (isSh_i hi3) hx hb hts iw_X9_read_X6 hown hK hP (hts (.fieldLink RX9 102 "TraceTrees$Sheet" "items" "[I") (List.mem_of_getElem? (i := 12) rfl)) dX9_read_113 ?_
              refine lv_iload hx hb dX9_read_116 (lv_at hl 0 rfl) ?_
              refine lv_iconst (v := 1) hx hb dX9_read_118 (by decide) ?_
              refine lv_iadd hx hb dX9_read_119 ?_
              refine wald hx hb hK hP (aS1 (isSh_i hi3)) hi9 dX9_read_120 ?_
              refine lv_aload_n hx hb dX9_read_121 rfl (lv_at hl 2 rfl) ?_
              refine gf_X6_0 (isSh_i hi3) hx hb hts iw_X9_read_X6 hown hK hP (hts (.fieldLink RX9 102 "TraceTrees$Sheet" "items" "[I") (List.mem_of_getElem? (i := 12) rfl)) dX9_read_122 ?_
              refine lv_iload hx hb dX9_read_125 (lv_at hl 0 rfl) ?_
              refine lv_iconst (v := 2) hx hb dX9_read_127 (by decide) ?_
              refine lv_iadd hx hb dX9_read_128 ?_
              refine wald hx hb hK hP (aS1 (isSh_i hi3)) hi10 dX9_read_129 ?_
              refine lv_aload_n hx hb dX9_read_130 rfl (lv_at hl 2 rfl) ?_
              refine gf_X6_0 (isSh_i hi3) hx hb hts iw_X9_read_X6 hown hK hP (hts (.fieldLink RX9 102 "TraceTrees$Sheet" "items" "[I") (List.mem_of_getElem? (i := 12) rfl)) dX9_read_131 ?_
              refine lv_iload hx hb dX9_read_134 (lv_at hl 0 rfl) ?_
              refine lv_iconst (v := 3) hx hb dX9_read_136 (by decide) ?_
              refine lv_iadd hx hb dX9_read_137 ?_
              refine wald hx hb hK hP (aS1 (isSh_i hi3)) hi11 dX9_read_138 ?_
              obtain ⟨σ14, hc14, h⟩ := obd_inv h
              refine wcallv (S := Unit) (va_runV (As := [.int (x35.2.2 ((13 + 2 * a1.toNatClampNeg) + 1) x35.1.toNatClampNeg), .int (x35.2.2 ((13 + 2 * a1.toNatClampNeg) + 1) (x35.1 + (1 : Int32)).toNatClampNeg), .int (x35.2.2 ((13 + 2 * a1.toNatClampNeg) + 1) (x35.1 + (2 : Int32)).toNatClampNeg), .int (x35.2.2 ((13 + 2 * a1.toNatClampNeg) + 1) (x35.1 + (3 : Int32)).toNatClampNeg)]) (rest := []) ⟨hx, hb, hml, hown, hts⟩ (c_X4_append l dC dI cI cT cS H.size ad  (x35.2.2 ((13 + 2 * a1.toNatClampNeg) + 1) x35.1.toNatClampNeg) (x35.2.2 ((13 + 2 * a1.toNatClampNeg) + 1) (x35.1 + (1 : Int32)).toNatClampNeg) (x35.2.2 ((13 + 2 * a1.toNatClampNeg) + 1) (x35.1 + (2 : Int32)).toNatClampNeg) (x35.2.2 ((13 + 2 * a1.toNatClampNeg) + 1) (x35.1 + (3 : Int32)).toNatClampNeg) x35.2.2 _ hc14) (cwV 4 hts (gWV (List.mem_of_getElem? (i := 16) rfl) (List.mem_of_getElem? (i := 17) rfl) (List.mem_of_getElem? (i := 18) rfl) (List.mem_of_getElem? (i := 15) rfl) ic_X9_read_c_X4_append gd_c_X4_append) rfl rfl rfl (by decide +kernel) ⟨(Nat.le_of_ble_eq_true rfl), (Nat.le_of_ble_eq_true rfl)⟩) (wpV (q := (RX4, TX4, 5)) hP hK hD oX4 rfl) rfl rfl hl.1 rfl (lv_room (Nat.le_of_ble_eq_true rfl)) dX9_read_139 ⟨(Nat.le_of_ble_eq_true rfl), (Nat.le_of_ble_eq_true rfl)⟩) hP hD hS hA (fun _ H locs hr15 hP hD hS => ?_)
              replace hP : va_P (dC, dI) vwCl (Wd 153 (cfC ad cI cT cS) σ14) H := hP
              replace hD : va_D A (Wd 153 (cfC ad cI cT cS) σ14) := hD
              refine lv_iinc (v := (x35.2.1 + (1 : Int32))) (lv' := [(3, .int (x35.2.1 + (1 : Int32))), (4, .int x35.1), (2, .ref (ad (13 + 2 * a1.toNatClampNeg))), (0, .ref (ad 0))]) hx hb dX9_read_142 hl (k := 1) rfl rfl (by decide) rfl (fun ls hl => ?_)
              refine lv_iinc (v := (x35.1 + (4 : Int32))) (lv' := [(4, .int (x35.1 + (4 : Int32))), (3, .int (x35.2.1 + (1 : Int32))), (2, .ref (ad (13 + 2 * a1.toNatClampNeg))), (0, .ref (ad 0))]) hx hb dX9_read_145 hl (k := 1) rfl rfl (by decide) rfl (fun ls hl => ?_)
              refine lv_goto (tgt := 35) hx hb dX9_read_148 (by decide) ?_
              obtain rfl := Option.some.inj h
              exact ht35 rfl H locs ls hP hD hS (lv_sub (l' := [(4, .int (x35.1 + (4 : Int32))), (3, .int (x35.2.1 + (1 : Int32))), (2, .ref (ad (13 + 2 * a1.toNatClampNeg))), (0, .ref (ad 0))]) hl [0, 1, 2, 3] rfl)
            · replace h := ifn (b2i_0 c13) h
              refine lv_goto (tgt := 151) hx hb dX9_read_98 (by decide) ?_
              obtain rfl := Option.some.inj h
              exact hf35 rfl H locs ls hP hD hS (lv_sub (l' := [(3, .int x35.2.1), (0, .ref (ad 0))]) hl [1, 3] rfl)
      · intro H locs ls hP hD hS hl
        refine lv_aload_n hx hb dX9_read_151 rfl (lv_at hl 1 rfl) ?_
        obtain ⟨q16, hc16, h⟩ := letb_inv h
        refine wcallv (S := Unit) (va_runV (As := []) (rest := []) ⟨hx, hb, hml, hown, hts⟩ (c_X9_forgetRuns l dC dI cI cT cS H.size ad   y35.2.2 _ hc16) (cwV 0 hts (gWV (List.mem_of_getElem? (i := 19) rfl) (List.mem_of_getElem? (i := 20) rfl) (List.mem_of_getElem? (i := 21) rfl) (List.mem_of_getElem? (i := 3) rfl) ic_X9_read_c_X9_forgetRuns gd_c_X9_forgetRuns) rfl rfl rfl (by decide +kernel) ⟨(Nat.le_of_ble_eq_true rfl), (Nat.le_of_ble_eq_true rfl)⟩) (wpV (q := (RX9, TX9, 14)) hP hK hD oX9 rfl) rfl rfl hl.1 rfl (lv_room (Nat.le_of_ble_eq_true rfl)) dX9_read_152 ⟨(Nat.le_of_ble_eq_true rfl), (Nat.le_of_ble_eq_true rfl)⟩) hP hD hS hA (fun _ H locs hr17 hP hD hS => ?_)
        replace hP : va_P (dC, dI) vwCl (Wd 153 (cfC ad cI cT cS) q16) H := hP
        replace hD : va_D A (Wd 153 (cfC ad cI cT cS) q16) := hD
        refine lv_iload_n hx hb dX9_read_155 rfl (lv_at hl 0 rfl) ?_
        have h9 := Option.some.inj h
        exact wreti hx hb hr hlocks hP hD hS (by show _ = _; rw [← h9]; first | done | rfl) (by rw [← h9]) dX9_read_156
    · replace h := ifp (b2i_1 c5) h
      refine lv_aload_n hx hb dX9_read_24 rfl (lv_at hl 1 rfl) ?_
      refine lv_iconst (v := 1) hx hb dX9_read_25 (by decide) ?_
      obtain ⟨q18, hc18, h⟩ := letb_inv h
      refine wcalli (S := Unit) (va_runV (As := [.int (1 : Int32)]) (rest := []) ⟨hx, hb, hml, hown, hts⟩ (c_X9_found l dC dI cI cT cS H.size ad  (1 : Int32) σ _ hc18) (cwV 1 hts (gWV (List.mem_of_getElem? (i := 22) rfl) (List.mem_of_getElem? (i := 23) rfl) (List.mem_of_getElem? (i := 24) rfl) (List.mem_of_getElem? (i := 3) rfl) ic_X9_read_c_X9_found gd_c_X9_found) rfl rfl rfl (by decide +kernel) ⟨(Nat.le_of_ble_eq_true rfl), (Nat.le_of_ble_eq_true rfl)⟩) (wpV (q := (RX9, TX9, 14)) hP hK hD oX9 rfl) rfl rfl hl.1 rfl (lv_room (Nat.le_of_ble_eq_true rfl)) dX9_read_26 ⟨(Nat.le_of_ble_eq_true rfl), (Nat.le_of_ble_eq_true rfl)⟩) hP hD hS hA (fun rr19 _ H locs hr19 hP hD hS => ?_)
      replace hP : va_P (dC, dI) vwCl (Wd 153 (cfC ad cI cT cS) q18.2) H := hP
      replace hD : va_D A (Wd 153 (cfC ad cI cT cS) q18.2) := hD
      refine lv_nm (y := q18.1) hr19 ?_
      have h9 := Option.some.inj h
      exact wreti hx hb hr hlocks hP hD hS (by show _ = _; rw [← h9]; first | done | rfl) (by rw [← h9]) dX9_read_29
  · replace h := ifn (b2i_0 c2) h
    refine lv_bipush (v := (-2)) hx hb dX9_read_7 (by decide) ?_
    have h9 := Option.some.inj h
    exact wreti hx hb hr hlocks hP hD hS (by show _ = _; rw [← h9]; first | done | rfl) (by rw [← h9]) dX9_read_9
def zb_X9_refreshRun_31 (σb31 : Sg) : Option (Sg) := some σb31
def zf_X9_refreshRun (σ : Sg) : Option (Sg) := (if (σ 0 9) = 0 then obd (zf_X3_go 21 6 (σ 0 6) (σ 0 7) σ) (fun σ2 => (zb_X9_refreshRun_31 (su σ2 0 9 (1 : Int32)))) else (zb_X9_refreshRun_31 σ))
def oc_X9_refreshRun : List Cond := [.fieldLink RX9 217 "TraceTrees" "runIsFresh" "Z", .fieldLink RX9 31 "TraceTrees" "machine" "LTraceTrees$Machine;", .fieldLink RX9 19 "TraceTrees" "loaded" "LTraceTrees$Registers;", .fieldLink RX9 45 "TraceTrees" "limit" "I", .fieldLink RX9 49 "TraceTrees" "hot" "I", .methodLink RX9 227 yX3_go, .instanceMethod yX3_go, .selects RX3 yX3_go yX3_go, .initialized RX3]
def vc_X9_refreshRun : List Cond := .code yX9_refreshRun cX9_refreshRun 1 none :: (oc_X9_refreshRun ++ (wsX90 ++ (vc_X3_go)))
theorem iw_X9_refreshRun_X9 : ∀ w ∈ wsX90, w ∈ vc_X9_refreshRun := fun _ h => List.mem_cons_of_mem _ (List.mem_append_right _ (List.mem_append_left _ h))
theorem ic_X9_refreshRun_c_X3_go : ∀ w ∈ vc_X3_go, w ∈ vc_X9_refreshRun := fun _ h => List.mem_cons_of_mem _ (List.mem_append_right _ (List.mem_append_right _ (h)))
theorem gd_c_X9_refreshRun : (vc_X9_refreshRun).all goodWord = true := gall_cons rfl (gall_app (by decide +kernel) (gall_app gw_X9 gd_c_X3_go))
set_option maxHeartbeats 4000000 in
set_option maxRecDepth 100000 in
theorem c_X9_refreshRun (l : Launch) (dC : Nat → ClassId) (dI : Nat → Nat → Nat) (cI cT cS : ClassId) (sz : Nat) (ad : Nat → Nat) (σ : Sg) (o : Sg) (h : zf_X9_refreshRun σ = some o) : gCV (S := Unit) l yX9_refreshRun vc_X9_refreshRun { frames := 7, cells := 0, slots := 0, locals := 186 } (dC, dI) (gTY cI cT cS) sz [.ref (ad 0)] (Wd 153 (cfC ad cI cT cS) σ) (fun (_ : Unit) => True) (fun (_ : Unit) => (Wd 153 (cfC ad cI cT cS) o)) 0 0 := by
  refine Met.ofW (cc := cX9_refreshRun) (maxL := 1) (ret := none) (by decide) rfl ?_
  intro p e s m args below meth c s₁ B hml hv
  obtain ⟨rfl, hsz, hP, hK, hD0⟩ := hv
  have hx := B.exec
  have hb := B.bytes
  have hr := B.returns
  have hts := atoms_spec (ws := vc_X9_refreshRun) B.pre
  have hown : s.vm.findClass RX9 = some m.cls := findClass_of_methodNamed B.named
  have hlocks := B.notSynchronized
  subst hsz
  have hD := hD0.self (sz := s.heap.size)
  generalize hAe : va_A (Wd 153 (cfC ad cI cT cS) σ) s.heap.size = A at hD ⊢
  have hA : ∀ q : Nat, s.heap.size ≤ q → A q := fun q h => by rw [← hAe]; exact Or.inr h
  clear hAe hD0
  refine gstart (fun H locs hHe hLe => ?_)
  have hS : va_S A s.heap H locs := by rw [← hHe, ← hLe]; exact va_S.rf
  replace hP : va_P (dC, dI) vwCl (Wd 153 (cfC ad cI cT cS) σ) H := by rw [← hHe]; exact hP
  clear hHe hLe
  have hl := lv_entry ([.ref (ad 0)]) (n := 1) (Nat.le_of_ble_eq_true rfl)
  rw [lg_entry_eq]
  generalize (lg_sl ([.ref (ad 0)]) ++ List.replicate (1 - (lg_sl ([.ref (ad 0)])).length) Slot.unset).toArray = ls at hl ⊢
  replace hl : lv_has ls 1 [(0, .ref (ad 0))] := hl
  unfold zf_X9_refreshRun at h
  have J31 : ∀ (σb31 : Sg) (H : Heap) (locs : List Loc) (ls : Array Slot), zb_X9_refreshRun_31 σb31 = some o → va_P (dC, dI) vwCl (Wd 153 (cfC ad cI cT cS) σb31) H → va_D A (Wd 153 (cfC ad cI cT cS) σb31) → va_S A s.heap H locs → lv_has ls 1 [] → W p l e (headSpec vc_X9_refreshRun { frames := 7, cells := 0, slots := 0, locals := 186 }).room s m (List.toArray (α := Value) [.ref (ad 0)]) below meth c H locs 0 0 (MQ below (va_Qv (fun (_ : Unit) => True) (gB (dC, dI) A (fun (_ : Unit) => (Wd 153 (cfC ad cI cT cS) o))) A) (List.toArray (α := Value) [.ref (ad 0)]) s 0 0 A) (F0 m 31 ls []) := by
    intro σb31 H locs ls h hP hD hS hl
    unfold zb_X9_refreshRun_31 at h
    have h9 := Option.some.inj h
    exact wretv hx hb hr hlocks hP hD hS trivial (by rw [← h9]) dX9_refreshRun_31
  refine lv_aload_n hx hb dX9_refreshRun_0 rfl (lv_at hl 0 rfl) ?_
  refine gf_X9_9 hx hb hts iw_X9_refreshRun_X9 hown hK hP (hts (.fieldLink RX9 217 "TraceTrees" "runIsFresh" "Z") (List.mem_of_getElem? (i := 1) rfl)) dX9_refreshRun_1 ?_
  refine lv_if_ne (tgt := 31) hx hb dX9_refreshRun_4 (by decide) (fun c1 => ?_) (fun c1 => ?_)
  · replace h := ifn (c1) h
    exact J31 σ H locs ls h hP hD hS (lv_sub (l' := []) hl [] rfl)
  · replace h := ifp (c1) h
    refine lv_aload_n hx hb dX9_refreshRun_7 rfl (lv_at hl 0 rfl) ?_
    refine gf_X9_3 hx hb hts iw_X9_refreshRun_X9 hown hK hP (hts (.fieldLink RX9 31 "TraceTrees" "machine" "LTraceTrees$Machine;") (List.mem_of_getElem? (i := 2) rfl)) dX9_refreshRun_8 ?_
    refine lv_aload_n hx hb dX9_refreshRun_11 rfl (lv_at hl 0 rfl) ?_
    refine gf_X9_1 hx hb hts iw_X9_refreshRun_X9 hown hK hP (hts (.fieldLink RX9 19 "TraceTrees" "loaded" "LTraceTrees$Registers;") (List.mem_of_getElem? (i := 3) rfl)) dX9_refreshRun_12 ?_
    refine lv_aload_n hx hb dX9_refreshRun_15 rfl (lv_at hl 0 rfl) ?_
    refine gf_X9_6 hx hb hts iw_X9_refreshRun_X9 hown hK hP (hts (.fieldLink RX9 45 "TraceTrees" "limit" "I") (List.mem_of_getElem? (i := 4) rfl)) dX9_refreshRun_16 ?_
    refine lv_aload_n hx hb dX9_refreshRun_19 rfl (lv_at hl 0 rfl) ?_
    refine gf_X9_7 hx hb hts iw_X9_refreshRun_X9 hown hK hP (hts (.fieldLink RX9 49 "TraceTrees" "hot" "I") (List.mem_of_getElem? (i := 5) rfl)) dX9_refreshRun_20 ?_
    obtain ⟨σ2, hc2, h⟩ := obd_inv h
    refine wcallv (S := Unit) (va_runV (As := [.ref (ad 6), .int (σ 0 6), .int (σ 0 7)]) (rest := []) ⟨hx, hb, hml, hown, hts⟩ (c_X3_go l dC dI cI cT cS H.size ad 21 isM_21 6 isRg_6 (σ 0 6) (σ 0 7) σ _ hc2) (cwV 3 hts (gWV (List.mem_of_getElem? (i := 6) rfl) (List.mem_of_getElem? (i := 7) rfl) (List.mem_of_getElem? (i := 8) rfl) (List.mem_of_getElem? (i := 9) rfl) ic_X9_refreshRun_c_X3_go gd_c_X3_go) rfl rfl rfl (by decide +kernel) ⟨(Nat.le_of_ble_eq_true rfl), (Nat.le_of_ble_eq_true rfl)⟩) (wpV (q := (RX3, TX3, 12)) hP hK hD (oX3 isM_21) rfl) rfl rfl hl.1 rfl (lv_room (Nat.le_of_ble_eq_true rfl)) dX9_refreshRun_23 ⟨(Nat.le_of_ble_eq_true rfl), (Nat.le_of_ble_eq_true rfl)⟩) hP hD hS hA (fun _ H locs hr3 hP hD hS => ?_)
    replace hP : va_P (dC, dI) vwCl (Wd 153 (cfC ad cI cT cS) σ2) H := hP
    replace hD : va_D A (Wd 153 (cfC ad cI cT cS) σ2) := hD
    refine lv_aload_n hx hb dX9_refreshRun_26 rfl (lv_at hl 0 rfl) ?_
    refine lv_iconst (v := 1) hx hb dX9_refreshRun_27 (by decide) ?_
    refine pf_X9_9 (Or.inr rfl) hx hb hts iw_X9_refreshRun_X9 hown hK hP hD hS (hts (.fieldLink RX9 217 "TraceTrees" "runIsFresh" "Z") (List.mem_of_getElem? (i := 1) rfl)) dX9_refreshRun_28 (fun H locs hP hD hS => ?_)
    exact J31 (su σ2 0 9 (1 : Int32)) H locs ls h hP hD hS (lv_sub (l' := []) hl [] rfl)
def zf_X9_value (a1 : Int32) (a2 : Int32) (σ : Sg) : Option (Int32 × Sg) := obd (zf_X9_refreshRun σ) (fun σ1 => obd (zf_X5_fact (21 + 1) a1 a2 σ1) (fun r3 => some (r3, σ1)))
def oc_X9_value : List Cond := [.methodLink RX9 106 yX9_refreshRun, .instanceMethod yX9_refreshRun, .selects RX9 yX9_refreshRun yX9_refreshRun, .initialized RX9, .fieldLink RX9 31 "TraceTrees" "machine" "LTraceTrees$Machine;", .fieldLink RX9 109 "TraceTrees$Machine" "registers" "LTraceTrees$Registers;", .methodLink RX9 112 yX5_fact, .instanceMethod yX5_fact, .selects RX5 yX5_fact yX5_fact, .initialized RX5]
def vc_X9_value : List Cond := .code yX9_value cX9_value 3 (some .int) :: (oc_X9_value ++ (wsX90 ++ (wsX30 ++ (vc_X9_refreshRun ++ (vc_X5_fact)))))
theorem iw_X9_value_X9 : ∀ w ∈ wsX90, w ∈ vc_X9_value := fun _ h => List.mem_cons_of_mem _ (List.mem_append_right _ (List.mem_append_left _ h))
theorem iw_X9_value_X3 : ∀ w ∈ wsX30, w ∈ vc_X9_value := fun _ h => List.mem_cons_of_mem _ (List.mem_append_right _ (List.mem_append_right _ (List.mem_append_left _ h)))
theorem ic_X9_value_c_X9_refreshRun : ∀ w ∈ vc_X9_refreshRun, w ∈ vc_X9_value := fun _ h => List.mem_cons_of_mem _ (List.mem_append_right _ (List.mem_append_right _ (List.mem_append_right _ (List.mem_append_left _ h))))
theorem ic_X9_value_c_X5_fact : ∀ w ∈ vc_X5_fact, w ∈ vc_X9_value := fun _ h => List.mem_cons_of_mem _ (List.mem_append_right _ (List.mem_append_right _ (List.mem_append_right _ (List.mem_append_right _ (h)))))
theorem gd_c_X9_value : (vc_X9_value).all goodWord = true := gall_cons rfl (gall_app (by decide +kernel) (gall_app gw_X9 (gall_app gw_X3 (gall_app gd_c_X9_refreshRun gd_c_X5_fact))))
set_option maxHeartbeats 4000000 in
set_option maxRecDepth 100000 in
theorem c_X9_value (l : Launch) (dC : Nat → ClassId) (dI : Nat → Nat → Nat) (cI cT cS : ClassId) (sz : Nat) (ad : Nat → Nat) (a1 : Int32) (a2 : Int32) (σ : Sg) (o : Int32 × Sg) (h : zf_X9_value a1 a2 σ = some o) : gCI (S := Unit) l yX9_value vc_X9_value { frames := 8, cells := 0, slots := 0, locals := 206 } (dC, dI) (gTY cI cT cS) sz [.ref (ad 0), .int a1, .int a2] (Wd 153 (cfC ad cI cT cS) σ) (fun (r : Int32) (_ : Unit) => r = o.1) (fun (_ : Unit) => (Wd 153 (cfC ad cI cT cS) o.2)) 0 0 := by
  refine Met.ofW (cc := cX9_value) (maxL := 3) (ret := (some .int)) (by decide) rfl ?_
  intro p e s m args below meth c s₁ B hml hv
  obtain ⟨rfl, hsz, hP, hK, hD0⟩ := hv
  have hx := B.exec
  have hb := B.bytes
  have hr := B.returns
  have hts := atoms_spec (ws := vc_X9_value) B.pre
  have hown : s.vm.findClass RX9 = some m.cls := findClass_of_methodNamed B.named
  have hlocks := B.notSynchronized
  subst hsz
  have hD := hD0.self (sz := s.heap.size)
  generalize hAe : va_A (Wd 153 (cfC ad cI cT cS) σ) s.heap.size = A at hD ⊢
  have hA : ∀ q : Nat, s.heap.size ≤ q → A q := fun q h => by rw [← hAe]; exact Or.inr h
  clear hAe hD0
  refine gstart (fun H locs hHe hLe => ?_)
  have hS : va_S A s.heap H locs := by rw [← hHe, ← hLe]; exact va_S.rf
  replace hP : va_P (dC, dI) vwCl (Wd 153 (cfC ad cI cT cS) σ) H := by rw [← hHe]; exact hP
  clear hHe hLe
  have hl := lv_entry ([.ref (ad 0), .int a1, .int a2]) (n := 3) (Nat.le_of_ble_eq_true rfl)
  rw [lg_entry_eq]
  generalize (lg_sl ([.ref (ad 0), .int a1, .int a2]) ++ List.replicate (3 - (lg_sl ([.ref (ad 0), .int a1, .int a2])).length) Slot.unset).toArray = ls at hl ⊢
  replace hl : lv_has ls 3 [(0, .ref (ad 0)), (1, .int a1), (2, .int a2)] := hl
  unfold zf_X9_value at h
  refine lv_aload_n hx hb dX9_value_0 rfl (lv_at hl 0 rfl) ?_
  obtain ⟨σ1, hc1, h⟩ := obd_inv h
  refine wcallv (S := Unit) (va_runV (As := []) (rest := []) ⟨hx, hb, hml, hown, hts⟩ (c_X9_refreshRun l dC dI cI cT cS H.size ad   σ _ hc1) (cwV 0 hts (gWV (List.mem_of_getElem? (i := 1) rfl) (List.mem_of_getElem? (i := 2) rfl) (List.mem_of_getElem? (i := 3) rfl) (List.mem_of_getElem? (i := 4) rfl) ic_X9_value_c_X9_refreshRun gd_c_X9_refreshRun) rfl rfl rfl (by decide +kernel) ⟨(Nat.le_of_ble_eq_true rfl), (Nat.le_of_ble_eq_true rfl)⟩) (wpV (q := (RX9, TX9, 14)) hP hK hD oX9 rfl) rfl rfl hl.1 rfl (lv_room (Nat.le_of_ble_eq_true rfl)) dX9_value_1 ⟨(Nat.le_of_ble_eq_true rfl), (Nat.le_of_ble_eq_true rfl)⟩) hP hD hS hA (fun _ H locs hr2 hP hD hS => ?_)
  replace hP : va_P (dC, dI) vwCl (Wd 153 (cfC ad cI cT cS) σ1) H := hP
  replace hD : va_D A (Wd 153 (cfC ad cI cT cS) σ1) := hD
  refine lv_aload_n hx hb dX9_value_4 rfl (lv_at hl 0 rfl) ?_
  refine gf_X9_3 hx hb hts iw_X9_value_X9 hown hK hP (hts (.fieldLink RX9 31 "TraceTrees" "machine" "LTraceTrees$Machine;") (List.mem_of_getElem? (i := 5) rfl)) dX9_value_5 ?_
  refine gf_X3_1 isM_21 hx hb hts iw_X9_value_X3 hown hK hP (hts (.fieldLink RX9 109 "TraceTrees$Machine" "registers" "LTraceTrees$Registers;") (List.mem_of_getElem? (i := 6) rfl)) dX9_value_8 ?_
  refine lv_iload_n hx hb dX9_value_11 rfl (lv_at hl 1 rfl) ?_
  refine lv_iload_n hx hb dX9_value_12 rfl (lv_at hl 2 rfl) ?_
  obtain ⟨r3, hc3, h⟩ := obd_inv h
  refine wcalli (S := Unit) (va_runV (As := [.int a1, .int a2]) (rest := []) ⟨hx, hb, hml, hown, hts⟩ (c_X5_fact l dC dI cI cT cS H.size ad (21 + 1) (isRg_M isM_21) a1 a2 σ1 _ hc3) (cwV 2 hts (gWV (List.mem_of_getElem? (i := 7) rfl) (List.mem_of_getElem? (i := 8) rfl) (List.mem_of_getElem? (i := 9) rfl) (List.mem_of_getElem? (i := 10) rfl) ic_X9_value_c_X5_fact gd_c_X5_fact) rfl rfl rfl (by decide +kernel) ⟨(Nat.le_of_ble_eq_true rfl), (Nat.le_of_ble_eq_true rfl)⟩) (wpV (q := (RX5, TX5, 2)) hP hK hD (oX5 (isRg_M isM_21)) rfl) rfl rfl hl.1 rfl (lv_room (Nat.le_of_ble_eq_true rfl)) dX9_value_13 ⟨(Nat.le_of_ble_eq_true rfl), (Nat.le_of_ble_eq_true rfl)⟩) hP hD hS hA (fun rr4 _ H locs hr4 hP hD hS => ?_)
  refine lv_nm (y := r3) hr4 ?_
  have h9 := Option.some.inj h
  exact wreti hx hb hr hlocks hP hD hS (by show _ = _; rw [← h9]; first | done | rfl) (by rw [← h9]) dX9_value_16
def zb_X9_refreshPlain_43 (σb43 : Sg) : Option (Sg) := some σb43
def zf_X9_refreshPlain (σ : Sg) : Option (Sg) := (if (σ 0 10) = 0 then obd (zf_X3_go 87 6 (σ 0 6) (2147483647 : Int32) σ) (fun σ2 => obd (zf_X5_become 9 (87 + 1) σ2) (fun σ4 => (zb_X9_refreshPlain_43 (su σ4 0 10 (1 : Int32))))) else (zb_X9_refreshPlain_43 σ))
def oc_X9_refreshPlain : List Cond := [.fieldLink RX9 221 "TraceTrees" "plainIsFresh" "Z", .fieldLink RX9 35 "TraceTrees" "trial" "LTraceTrees$Machine;", .fieldLink RX9 19 "TraceTrees" "loaded" "LTraceTrees$Registers;", .fieldLink RX9 45 "TraceTrees" "limit" "I", .constant RX9 231 (2147483647), .methodLink RX9 227 yX3_go, .instanceMethod yX3_go, .selects RX3 yX3_go yX3_go, .initialized RX3, .fieldLink RX9 23 "TraceTrees" "plainEnd" "LTraceTrees$Registers;", .fieldLink RX9 109 "TraceTrees$Machine" "registers" "LTraceTrees$Registers;", .methodLink RX9 232 yX5_become, .instanceMethod yX5_become, .selects RX5 yX5_become yX5_become, .initialized RX5]
def vc_X9_refreshPlain : List Cond := .code yX9_refreshPlain cX9_refreshPlain 1 none :: (oc_X9_refreshPlain ++ (wsX90 ++ (wsX30 ++ (vc_X3_go ++ (vc_X5_become)))))
theorem iw_X9_refreshPlain_X9 : ∀ w ∈ wsX90, w ∈ vc_X9_refreshPlain := fun _ h => List.mem_cons_of_mem _ (List.mem_append_right _ (List.mem_append_left _ h))
theorem iw_X9_refreshPlain_X3 : ∀ w ∈ wsX30, w ∈ vc_X9_refreshPlain := fun _ h => List.mem_cons_of_mem _ (List.mem_append_right _ (List.mem_append_right _ (List.mem_append_left _ h)))
theorem ic_X9_refreshPlain_c_X3_go : ∀ w ∈ vc_X3_go, w ∈ vc_X9_refreshPlain := fun _ h => List.mem_cons_of_mem _ (List.mem_append_right _ (List.mem_append_right _ (List.mem_append_right _ (List.mem_append_left _ h))))
theorem ic_X9_refreshPlain_c_X5_become : ∀ w ∈ vc_X5_become, w ∈ vc_X9_refreshPlain := fun _ h => List.mem_cons_of_mem _ (List.mem_append_right _ (List.mem_append_right _ (List.mem_append_right _ (List.mem_append_right _ (h)))))
theorem gd_c_X9_refreshPlain : (vc_X9_refreshPlain).all goodWord = true := gall_cons rfl (gall_app (by decide +kernel) (gall_app gw_X9 (gall_app gw_X3 (gall_app gd_c_X3_go gd_c_X5_become))))
set_option maxHeartbeats 4000000 in
set_option maxRecDepth 100000 in
theorem c_X9_refreshPlain (l : Launch) (dC : Nat → ClassId) (dI : Nat → Nat → Nat) (cI cT cS : ClassId) (sz : Nat) (ad : Nat → Nat) (σ : Sg) (o : Sg) (h : zf_X9_refreshPlain σ = some o) : gCV (S := Unit) l yX9_refreshPlain vc_X9_refreshPlain { frames := 7, cells := 0, slots := 0, locals := 186 } (dC, dI) (gTY cI cT cS) sz [.ref (ad 0)] (Wd 153 (cfC ad cI cT cS) σ) (fun (_ : Unit) => True) (fun (_ : Unit) => (Wd 153 (cfC ad cI cT cS) o)) 0 0 := by
  refine Met.ofW (cc := cX9_refreshPlain) (maxL := 1) (ret := none) (by decide) rfl ?_
  intro p e s m args below meth c s₁ B hml hv
  obtain ⟨rfl, hsz, hP, hK, hD0⟩ := hv
  have hx := B.exec
  have hb := B.bytes
  have hr := B.returns
  have hts := atoms_spec (ws := vc_X9_refreshPlain) B.pre
  have hown : s.vm.findClass RX9 = some m.cls := findClass_of_methodNamed B.named
  have hlocks := B.notSynchronized
  subst hsz
  have hD := hD0.self (sz := s.heap.size)
  generalize hAe : va_A (Wd 153 (cfC ad cI cT cS) σ) s.heap.size = A at hD ⊢
  have hA : ∀ q : Nat, s.heap.size ≤ q → A q := fun q h => by rw [← hAe]; exact Or.inr h
  clear hAe hD0
  refine gstart (fun H locs hHe hLe => ?_)
  have hS : va_S A s.heap H locs := by rw [← hHe, ← hLe]; exact va_S.rf
  replace hP : va_P (dC, dI) vwCl (Wd 153 (cfC ad cI cT cS) σ) H := by rw [← hHe]; exact hP
  clear hHe hLe
  have hl := lv_entry ([.ref (ad 0)]) (n := 1) (Nat.le_of_ble_eq_true rfl)
  rw [lg_entry_eq]
  generalize (lg_sl ([.ref (ad 0)]) ++ List.replicate (1 - (lg_sl ([.ref (ad 0)])).length) Slot.unset).toArray = ls at hl ⊢
  replace hl : lv_has ls 1 [(0, .ref (ad 0))] := hl
  unfold zf_X9_refreshPlain at h
  have J43 : ∀ (σb43 : Sg) (H : Heap) (locs : List Loc) (ls : Array Slot), zb_X9_refreshPlain_43 σb43 = some o → va_P (dC, dI) vwCl (Wd 153 (cfC ad cI cT cS) σb43) H → va_D A (Wd 153 (cfC ad cI cT cS) σb43) → va_S A s.heap H locs → lv_has ls 1 [] → W p l e (headSpec vc_X9_refreshPlain { frames := 7, cells := 0, slots := 0, locals := 186 }).room s m (List.toArray (α := Value) [.ref (ad 0)]) below meth c H locs 0 0 (MQ below (va_Qv (fun (_ : Unit) => True) (gB (dC, dI) A (fun (_ : Unit) => (Wd 153 (cfC ad cI cT cS) o))) A) (List.toArray (α := Value) [.ref (ad 0)]) s 0 0 A) (F0 m 43 ls []) := by
    intro σb43 H locs ls h hP hD hS hl
    unfold zb_X9_refreshPlain_43 at h
    have h9 := Option.some.inj h
    exact wretv hx hb hr hlocks hP hD hS trivial (by rw [← h9]) dX9_refreshPlain_43
  refine lv_aload_n hx hb dX9_refreshPlain_0 rfl (lv_at hl 0 rfl) ?_
  refine gf_X9_10 hx hb hts iw_X9_refreshPlain_X9 hown hK hP (hts (.fieldLink RX9 221 "TraceTrees" "plainIsFresh" "Z") (List.mem_of_getElem? (i := 1) rfl)) dX9_refreshPlain_1 ?_
  refine lv_if_ne (tgt := 43) hx hb dX9_refreshPlain_4 (by decide) (fun c1 => ?_) (fun c1 => ?_)
  · replace h := ifn (c1) h
    exact J43 σ H locs ls h hP hD hS (lv_sub (l' := []) hl [] rfl)
  · replace h := ifp (c1) h
    refine lv_aload_n hx hb dX9_refreshPlain_7 rfl (lv_at hl 0 rfl) ?_
    refine gf_X9_4 hx hb hts iw_X9_refreshPlain_X9 hown hK hP (hts (.fieldLink RX9 35 "TraceTrees" "trial" "LTraceTrees$Machine;") (List.mem_of_getElem? (i := 2) rfl)) dX9_refreshPlain_8 ?_
    refine lv_aload_n hx hb dX9_refreshPlain_11 rfl (lv_at hl 0 rfl) ?_
    refine gf_X9_1 hx hb hts iw_X9_refreshPlain_X9 hown hK hP (hts (.fieldLink RX9 19 "TraceTrees" "loaded" "LTraceTrees$Registers;") (List.mem_of_getElem? (i := 3) rfl)) dX9_refreshPlain_12 ?_
    refine lv_aload_n hx hb dX9_refreshPlain_15 rfl (lv_at hl 0 rfl) ?_
    refine gf_X9_6 hx hb hts iw_X9_refreshPlain_X9 hown hK hP (hts (.fieldLink RX9 45 "TraceTrees" "limit" "I") (List.mem_of_getElem? (i := 4) rfl)) dX9_refreshPlain_16 ?_
    refine lv_ldc (v := 2147483647) hx hb hown (hts (.constant RX9 231 (2147483647)) (List.mem_of_getElem? (i := 5) rfl)) dX9_refreshPlain_19 ?_
    obtain ⟨σ2, hc2, h⟩ := obd_inv h
    refine wcallv (S := Unit) (va_runV (As := [.ref (ad 6), .int (σ 0 6), .int (2147483647 : Int32)]) (rest := []) ⟨hx, hb, hml, hown, hts⟩ (c_X3_go l dC dI cI cT cS H.size ad 87 isM_87 6 isRg_6 (σ 0 6) (2147483647 : Int32) σ _ hc2) (cwV 3 hts (gWV (List.mem_of_getElem? (i := 6) rfl) (List.mem_of_getElem? (i := 7) rfl) (List.mem_of_getElem? (i := 8) rfl) (List.mem_of_getElem? (i := 9) rfl) ic_X9_refreshPlain_c_X3_go gd_c_X3_go) rfl rfl rfl (by decide +kernel) ⟨(Nat.le_of_ble_eq_true rfl), (Nat.le_of_ble_eq_true rfl)⟩) (wpV (q := (RX3, TX3, 12)) hP hK hD (oX3 isM_87) rfl) rfl rfl hl.1 rfl (lv_room (Nat.le_of_ble_eq_true rfl)) dX9_refreshPlain_21 ⟨(Nat.le_of_ble_eq_true rfl), (Nat.le_of_ble_eq_true rfl)⟩) hP hD hS hA (fun _ H locs hr3 hP hD hS => ?_)
    replace hP : va_P (dC, dI) vwCl (Wd 153 (cfC ad cI cT cS) σ2) H := hP
    replace hD : va_D A (Wd 153 (cfC ad cI cT cS) σ2) := hD
    refine lv_aload_n hx hb dX9_refreshPlain_24 rfl (lv_at hl 0 rfl) ?_
    refine gf_X9_5 hx hb hts iw_X9_refreshPlain_X9 hown hK hP (hts (.fieldLink RX9 23 "TraceTrees" "plainEnd" "LTraceTrees$Registers;") (List.mem_of_getElem? (i := 10) rfl)) dX9_refreshPlain_25 ?_
    refine lv_aload_n hx hb dX9_refreshPlain_28 rfl (lv_at hl 0 rfl) ?_
    refine gf_X9_4 hx hb hts iw_X9_refreshPlain_X9 hown hK hP (hts (.fieldLink RX9 35 "TraceTrees" "trial" "LTraceTrees$Machine;") (List.mem_of_getElem? (i := 2) rfl)) dX9_refreshPlain_29 ?_
    refine gf_X3_1 isM_87 hx hb hts iw_X9_refreshPlain_X3 hown hK hP (hts (.fieldLink RX9 109 "TraceTrees$Machine" "registers" "LTraceTrees$Registers;") (List.mem_of_getElem? (i := 11) rfl)) dX9_refreshPlain_32 ?_
    obtain ⟨σ4, hc4, h⟩ := obd_inv h
    refine wcallv (S := Unit) (va_runV (As := [.ref (ad (87 + 1))]) (rest := []) ⟨hx, hb, hml, hown, hts⟩ (c_X5_become l dC dI cI cT cS H.size ad 9 isRg_9 (87 + 1) (isRg_M isM_87)  σ2 _ hc4) (cwV 1 hts (gWV (List.mem_of_getElem? (i := 12) rfl) (List.mem_of_getElem? (i := 13) rfl) (List.mem_of_getElem? (i := 14) rfl) (List.mem_of_getElem? (i := 15) rfl) ic_X9_refreshPlain_c_X5_become gd_c_X5_become) rfl rfl rfl (by decide +kernel) ⟨(Nat.le_of_ble_eq_true rfl), (Nat.le_of_ble_eq_true rfl)⟩) (wpV (q := (RX5, TX5, 2)) hP hK hD (oX5 isRg_9) rfl) rfl rfl hl.1 rfl (lv_room (Nat.le_of_ble_eq_true rfl)) dX9_refreshPlain_35 ⟨(Nat.le_of_ble_eq_true rfl), (Nat.le_of_ble_eq_true rfl)⟩) hP hD hS hA (fun _ H locs hr5 hP hD hS => ?_)
    replace hP : va_P (dC, dI) vwCl (Wd 153 (cfC ad cI cT cS) σ4) H := hP
    replace hD : va_D A (Wd 153 (cfC ad cI cT cS) σ4) := hD
    refine lv_aload_n hx hb dX9_refreshPlain_38 rfl (lv_at hl 0 rfl) ?_
    refine lv_iconst (v := 1) hx hb dX9_refreshPlain_39 (by decide) ?_
    refine pf_X9_10 (Or.inr rfl) hx hb hts iw_X9_refreshPlain_X9 hown hK hP hD hS (hts (.fieldLink RX9 221 "TraceTrees" "plainIsFresh" "Z") (List.mem_of_getElem? (i := 1) rfl)) dX9_refreshPlain_40 (fun H locs hP hD hS => ?_)
    exact J43 (su σ4 0 10 (1 : Int32)) H locs ls h hP hD hS (lv_sub (l' := []) hl [] rfl)
def zf_X9_plain (a1 : Int32) (a2 : Int32) (σ : Sg) : Option (Int32 × Sg) := obd (zf_X9_refreshPlain σ) (fun σ1 => obd (zf_X5_fact 9 a1 a2 σ1) (fun r3 => some (r3, σ1)))
def oc_X9_plain : List Cond := [.methodLink RX9 115 yX9_refreshPlain, .instanceMethod yX9_refreshPlain, .selects RX9 yX9_refreshPlain yX9_refreshPlain, .initialized RX9, .fieldLink RX9 23 "TraceTrees" "plainEnd" "LTraceTrees$Registers;", .methodLink RX9 112 yX5_fact, .instanceMethod yX5_fact, .selects RX5 yX5_fact yX5_fact, .initialized RX5]
def vc_X9_plain : List Cond := .code yX9_plain cX9_plain 3 (some .int) :: (oc_X9_plain ++ (wsX90 ++ (vc_X9_refreshPlain ++ (vc_X5_fact))))
theorem iw_X9_plain_X9 : ∀ w ∈ wsX90, w ∈ vc_X9_plain := fun _ h => List.mem_cons_of_mem _ (List.mem_append_right _ (List.mem_append_left _ h))
theorem ic_X9_plain_c_X9_refreshPlain : ∀ w ∈ vc_X9_refreshPlain, w ∈ vc_X9_plain := fun _ h => List.mem_cons_of_mem _ (List.mem_append_right _ (List.mem_append_right _ (List.mem_append_left _ h)))
theorem ic_X9_plain_c_X5_fact : ∀ w ∈ vc_X5_fact, w ∈ vc_X9_plain := fun _ h => List.mem_cons_of_mem _ (List.mem_append_right _ (List.mem_append_right _ (List.mem_append_right _ (h))))
theorem gd_c_X9_plain : (vc_X9_plain).all goodWord = true := gall_cons rfl (gall_app (by decide +kernel) (gall_app gw_X9 (gall_app gd_c_X9_refreshPlain gd_c_X5_fact)))
set_option maxHeartbeats 4000000 in
set_option maxRecDepth 100000 in
theorem c_X9_plain (l : Launch) (dC : Nat → ClassId) (dI : Nat → Nat → Nat) (cI cT cS : ClassId) (sz : Nat) (ad : Nat → Nat) (a1 : Int32) (a2 : Int32) (σ : Sg) (o : Int32 × Sg) (h : zf_X9_plain a1 a2 σ = some o) : gCI (S := Unit) l yX9_plain vc_X9_plain { frames := 8, cells := 0, slots := 0, locals := 206 } (dC, dI) (gTY cI cT cS) sz [.ref (ad 0), .int a1, .int a2] (Wd 153 (cfC ad cI cT cS) σ) (fun (r : Int32) (_ : Unit) => r = o.1) (fun (_ : Unit) => (Wd 153 (cfC ad cI cT cS) o.2)) 0 0 := by
  refine Met.ofW (cc := cX9_plain) (maxL := 3) (ret := (some .int)) (by decide) rfl ?_
  intro p e s m args below meth c s₁ B hml hv
  obtain ⟨rfl, hsz, hP, hK, hD0⟩ := hv
  have hx := B.exec
  have hb := B.bytes
  have hr := B.returns
  have hts := atoms_spec (ws := vc_X9_plain) B.pre
  have hown : s.vm.findClass RX9 = some m.cls := findClass_of_methodNamed B.named
  have hlocks := B.notSynchronized
  subst hsz
  have hD := hD0.self (sz := s.heap.size)
  generalize hAe : va_A (Wd 153 (cfC ad cI cT cS) σ) s.heap.size = A at hD ⊢
  have hA : ∀ q : Nat, s.heap.size ≤ q → A q := fun q h => by rw [← hAe]; exact Or.inr h
  clear hAe hD0
  refine gstart (fun H locs hHe hLe => ?_)
  have hS : va_S A s.heap H locs := by rw [← hHe, ← hLe]; exact va_S.rf
  replace hP : va_P (dC, dI) vwCl (Wd 153 (cfC ad cI cT cS) σ) H := by rw [← hHe]; exact hP
  clear hHe hLe
  have hl := lv_entry ([.ref (ad 0), .int a1, .int a2]) (n := 3) (Nat.le_of_ble_eq_true rfl)
  rw [lg_entry_eq]
  generalize (lg_sl ([.ref (ad 0), .int a1, .int a2]) ++ List.replicate (3 - (lg_sl ([.ref (ad 0), .int a1, .int a2])).length) Slot.unset).toArray = ls at hl ⊢
  replace hl : lv_has ls 3 [(0, .ref (ad 0)), (1, .int a1), (2, .int a2)] := hl
  unfold zf_X9_plain at h
  refine lv_aload_n hx hb dX9_plain_0 rfl (lv_at hl 0 rfl) ?_
  obtain ⟨σ1, hc1, h⟩ := obd_inv h
  refine wcallv (S := Unit) (va_runV (As := []) (rest := []) ⟨hx, hb, hml, hown, hts⟩ (c_X9_refreshPlain l dC dI cI cT cS H.size ad   σ _ hc1) (cwV 0 hts (gWV (List.mem_of_getElem? (i := 1) rfl) (List.mem_of_getElem? (i := 2) rfl) (List.mem_of_getElem? (i := 3) rfl) (List.mem_of_getElem? (i := 4) rfl) ic_X9_plain_c_X9_refreshPlain gd_c_X9_refreshPlain) rfl rfl rfl (by decide +kernel) ⟨(Nat.le_of_ble_eq_true rfl), (Nat.le_of_ble_eq_true rfl)⟩) (wpV (q := (RX9, TX9, 14)) hP hK hD oX9 rfl) rfl rfl hl.1 rfl (lv_room (Nat.le_of_ble_eq_true rfl)) dX9_plain_1 ⟨(Nat.le_of_ble_eq_true rfl), (Nat.le_of_ble_eq_true rfl)⟩) hP hD hS hA (fun _ H locs hr2 hP hD hS => ?_)
  replace hP : va_P (dC, dI) vwCl (Wd 153 (cfC ad cI cT cS) σ1) H := hP
  replace hD : va_D A (Wd 153 (cfC ad cI cT cS) σ1) := hD
  refine lv_aload_n hx hb dX9_plain_4 rfl (lv_at hl 0 rfl) ?_
  refine gf_X9_5 hx hb hts iw_X9_plain_X9 hown hK hP (hts (.fieldLink RX9 23 "TraceTrees" "plainEnd" "LTraceTrees$Registers;") (List.mem_of_getElem? (i := 5) rfl)) dX9_plain_5 ?_
  refine lv_iload_n hx hb dX9_plain_8 rfl (lv_at hl 1 rfl) ?_
  refine lv_iload_n hx hb dX9_plain_9 rfl (lv_at hl 2 rfl) ?_
  obtain ⟨r3, hc3, h⟩ := obd_inv h
  refine wcalli (S := Unit) (va_runV (As := [.int a1, .int a2]) (rest := []) ⟨hx, hb, hml, hown, hts⟩ (c_X5_fact l dC dI cI cT cS H.size ad 9 isRg_9 a1 a2 σ1 _ hc3) (cwV 2 hts (gWV (List.mem_of_getElem? (i := 6) rfl) (List.mem_of_getElem? (i := 7) rfl) (List.mem_of_getElem? (i := 8) rfl) (List.mem_of_getElem? (i := 9) rfl) ic_X9_plain_c_X5_fact gd_c_X5_fact) rfl rfl rfl (by decide +kernel) ⟨(Nat.le_of_ble_eq_true rfl), (Nat.le_of_ble_eq_true rfl)⟩) (wpV (q := (RX5, TX5, 2)) hP hK hD (oX5 isRg_9) rfl) rfl rfl hl.1 rfl (lv_room (Nat.le_of_ble_eq_true rfl)) dX9_plain_10 ⟨(Nat.le_of_ble_eq_true rfl), (Nat.le_of_ble_eq_true rfl)⟩) hP hD hS hA (fun rr4 _ H locs hr4 hP hD hS => ?_)
  refine lv_nm (y := r3) hr4 ?_
  have h9 := Option.some.inj h
  exact wreti hx hb hr hlocks hP hD hS (by show _ = _; rw [← h9]; first | done | rfl) (by rw [← h9]) dX9_plain_13
def zf_X9_endFact (a1 : Int32) (σ : Sg) : Int32 := (if a1 = 0 then (σ 21 6) else (if a1 = 1 then (σ 21 5) else (if a1 = 2 then (σ 21 7) else (if a1 = 3 then (σ 21 8) else (if a1 = 4 then (σ 21 9) else (if a1 = 5 then (σ (21 + 5) 5) else (-2 : Int32)))))))
def oc_X9_endFact : List Cond := [.fieldLink RX9 31 "TraceTrees" "machine" "LTraceTrees$Machine;", .fieldLink RX9 257 "TraceTrees$Machine" "how" "I", .fieldLink RX9 260 "TraceTrees$Machine" "point" "I", .fieldLink RX9 262 "TraceTrees$Machine" "steps" "I", .fieldLink RX9 242 "TraceTrees$Machine" "compiled" "I", .fieldLink RX9 265 "TraceTrees$Machine" "exits" "I", .fieldLink RX9 121 "TraceTrees$Machine" "forest" "LTraceTrees$Forest;", .fieldLink RX9 268 "TraceTrees$Forest" "dropped" "I"]
def vc_X9_endFact : List Cond := .code yX9_endFact cX9_endFact 2 (some .int) :: (oc_X9_endFact ++ (wsX90 ++ (wsX30 ++ (wsX20))))
theorem iw_X9_endFact_X9 : ∀ w ∈ wsX90, w ∈ vc_X9_endFact := fun _ h => List.mem_cons_of_mem _ (List.mem_append_right _ (List.mem_append_left _ h))
theorem iw_X9_endFact_X3 : ∀ w ∈ wsX30, w ∈ vc_X9_endFact := fun _ h => List.mem_cons_of_mem _ (List.mem_append_right _ (List.mem_append_right _ (List.mem_append_left _ h)))
theorem iw_X9_endFact_X2 : ∀ w ∈ wsX20, w ∈ vc_X9_endFact := fun _ h => List.mem_cons_of_mem _ (List.mem_append_right _ (List.mem_append_right _ (List.mem_append_right _ (h))))
theorem gd_c_X9_endFact : (vc_X9_endFact).all goodWord = true := gall_cons rfl (gall_app (by decide +kernel) (gall_app gw_X9 (gall_app gw_X3 gw_X2)))
set_option maxHeartbeats 4000000 in
set_option maxRecDepth 100000 in
theorem c_X9_endFact (l : Launch) (dC : Nat → ClassId) (dI : Nat → Nat → Nat) (cI cT cS : ClassId) (sz : Nat) (ad : Nat → Nat) (a1 : Int32) (σ : Sg) (o : Int32) (h : zf_X9_endFact a1 σ = o) : gCI (S := Unit) l yX9_endFact vc_X9_endFact { frames := 0, cells := 0, slots := 0, locals := 0 } (dC, dI) (gTY cI cT cS) sz [.ref (ad 0), .int a1] (Wd 153 (cfC ad cI cT cS) σ) (fun (r : Int32) (_ : Unit) => r = o) (fun (_ : Unit) => (Wd 153 (cfC ad cI cT cS) σ)) 0 0 := by
  refine Met.ofW (cc := cX9_endFact) (maxL := 2) (ret := (some .int)) (by decide) rfl ?_
  intro p e s m args below meth c s₁ B hml hv
  obtain ⟨rfl, hsz, hP, hK, hD0⟩ := hv
  have hx := B.exec
  have hb := B.bytes
  have hr := B.returns
  have hts := atoms_spec (ws := vc_X9_endFact) B.pre
  have hown : s.vm.findClass RX9 = some m.cls := findClass_of_methodNamed B.named
  have hlocks := B.notSynchronized
  subst hsz
  have hD := hD0.self (sz := s.heap.size)
  generalize hAe : va_A (Wd 153 (cfC ad cI cT cS) σ) s.heap.size = A at hD ⊢
  have hA : ∀ q : Nat, s.heap.size ≤ q → A q := fun q h => by rw [← hAe]; exact Or.inr h
  clear hAe hD0
  refine gstart (fun H locs hHe hLe => ?_)
  have hS : va_S A s.heap H locs := by rw [← hHe, ← hLe]; exact va_S.rf
  replace hP : va_P (dC, dI) vwCl (Wd 153 (cfC ad cI cT cS) σ) H := by rw [← hHe]; exact hP
  clear hHe hLe
  have hl := lv_entry ([.ref (ad 0), .int a1]) (n := 2) (Nat.le_of_ble_eq_true rfl)
  rw [lg_entry_eq]
  generalize (lg_sl ([.ref (ad 0), .int a1]) ++ List.replicate (2 - (lg_sl ([.ref (ad 0), .int a1])).length) Slot.unset).toArray = ls at hl ⊢
  replace hl : lv_has ls 2 [(0, .ref (ad 0)), (1, .int a1)] := hl
  unfold zf_X9_endFact at h
  refine lv_iload_n hx hb dX9_endFact_0 rfl (lv_at hl 1 rfl) ?_
  by_cases c1 : a1 = 0
  · replace h := ifp c1 h
    refine lv_tableIn (off := 39) (tgt := 40) hx hb dX9_endFact_1 (by rw [c1]; decide) (by rw [c1]; decide) (by rw [c1]; decide) (by decide) ?_
    refine lv_aload_n hx hb dX9_endFact_40 rfl (lv_at hl 0 rfl) ?_
    refine gf_X9_3 hx hb hts iw_X9_endFact_X9 hown hK hP (hts (.fieldLink RX9 31 "TraceTrees" "machine" "LTraceTrees$Machine;") (List.mem_of_getElem? (i := 1) rfl)) dX9_endFact_41 ?_
    refine gf_X3_6 isM_21 hx hb hts iw_X9_endFact_X3 hown hK hP (hts (.fieldLink RX9 257 "TraceTrees$Machine" "how" "I") (List.mem_of_getElem? (i := 2) rfl)) dX9_endFact_44 ?_
    have h9 := h
    exact wreti hx hb hr hlocks hP hD hS (by show _ = _; rw [← h9]; first | done | rfl) rfl dX9_endFact_47
  replace h := ifn c1 h
  by_cases c2 : a1 = 1
  · replace h := ifp c2 h
    refine lv_tableIn (off := 47) (tgt := 48) hx hb dX9_endFact_1 (by rw [c2]; decide) (by rw [c2]; decide) (by rw [c2]; decide) (by decide) ?_
    refine lv_aload_n hx hb dX9_endFact_48 rfl (lv_at hl 0 rfl) ?_
    refine gf_X9_3 hx hb hts iw_X9_endFact_X9 hown hK hP (hts (.fieldLink RX9 31 "TraceTrees" "machine" "LTraceTrees$Machine;") (List.mem_of_getElem? (i := 1) rfl)) dX9_endFact_49 ?_
    refine gf_X3_5 isM_21 hx hb hts iw_X9_endFact_X3 hown hK hP (hts (.fieldLink RX9 260 "TraceTrees$Machine" "point" "I") (List.mem_of_getElem? (i := 3) rfl)) dX9_endFact_52 ?_
    have h9 := h
    exact wreti hx hb hr hlocks hP hD hS (by show _ = _; rw [← h9]; first | done | rfl) rfl dX9_endFact_55
  replace h := ifn c2 h
  by_cases c3 : a1 = 2
  · replace h := ifp c3 h
    refine lv_tableIn (off := 55) (tgt := 56) hx hb dX9_endFact_1 (by rw [c3]; decide) (by rw [c3]; decide) (by rw [c3]; decide) (by decide) ?_
    refine lv_aload_n hx hb dX9_endFact_56 rfl (lv_at hl 0 rfl) ?_
    refine gf_X9_3 hx hb hts iw_X9_endFact_X9 hown hK hP (hts (.fieldLink RX9 31 "TraceTrees" "machine" "LTraceTrees$Machine;") (List.mem_of_getElem? (i := 1) rfl)) dX9_endFact_57 ?_
    refine gf_X3_7 isM_21 hx hb hts iw_X9_endFact_X3 hown hK hP (hts (.fieldLink RX9 262 "TraceTrees$Machine" "steps" "I") (List.mem_of_getElem? (i := 4) rfl)) dX9_endFact_60 ?_
    have h9 := h
    exact wreti hx hb hr hlocks hP hD hS (by show _ = _; rw [← h9]; first | done | rfl) rfl dX9_endFact_63
  replace h := ifn c3 h
  by_cases c4 : a1 = 3
  · replace h := ifp c4 h
    refine lv_tableIn (off := 63) (tgt := 64) hx hb dX9_endFact_1 (by rw [c4]; decide) (by rw [c4]; decide) (by rw [c4]; decide) (by decide) ?_
    refine lv_aload_n hx hb dX9_endFact_64 rfl (lv_at hl 0 rfl) ?_
    refine gf_X9_3 hx hb hts iw_X9_endFact_X9 hown hK hP (hts (.fieldLink RX9 31 "TraceTrees" "machine" "LTraceTrees$Machine;") (List.mem_of_getElem? (i := 1) rfl)) dX9_endFact_65 ?_
    refine gf_X3_8 isM_21 hx hb hts iw_X9_endFact_X3 hown hK hP (hts (.fieldLink RX9 242 "TraceTrees$Machine" "compiled" "I") (List.mem_of_getElem? (i := 5) rfl)) dX9_endFact_68 ?_
    have h9 := h
    exact wreti hx hb hr hlocks hP hD hS (by show _ = _; rw [← h9]; first | done | rfl) rfl dX9_endFact_71
  replace h := ifn c4 h
  by_cases c5 : a1 = 4
  · replace h := ifp c5 h
    refine lv_tableIn (off := 71) (tgt := 72) hx hb dX9_endFact_1 (by rw [c5]; decide) (by rw [c5]; decide) (by rw [c5]; decide) (by decide) ?_
    refine lv_aload_n hx hb dX9_endFact_72 rfl (lv_at hl 0 rfl) ?_
    refine gf_X9_3 hx hb hts iw_X9_endFact_X9 hown hK hP (hts (.fieldLink RX9 31 "TraceTrees" "machine" "LTraceTrees$Machine;") (List.mem_of_getElem? (i := 1) rfl)) dX9_endFact_73 ?_
    refine gf_X3_9 isM_21 hx hb hts iw_X9_endFact_X3 hown hK hP (hts (.fieldLink RX9 265 "TraceTrees$Machine" "exits" "I") (List.mem_of_getElem? (i := 6) rfl)) dX9_endFact_76 ?_
    have h9 := h
    exact wreti hx hb hr hlocks hP hD hS (by show _ = _; rw [← h9]; first | done | rfl) rfl dX9_endFact_79
  replace h := ifn c5 h
  by_cases c6 : a1 = 5
  · replace h := ifp c6 h
    refine lv_tableIn (off := 79) (tgt := 80) hx hb dX9_endFact_1 (by rw [c6]; decide) (by rw [c6]; decide) (by rw [c6]; decide) (by decide) ?_
    refine lv_aload_n hx hb dX9_endFact_80 rfl (lv_at hl 0 rfl) ?_
    refine gf_X9_3 hx hb hts iw_X9_endFact_X9 hown hK hP (hts (.fieldLink RX9 31 "TraceTrees" "machine" "LTraceTrees$Machine;") (List.mem_of_getElem? (i := 1) rfl)) dX9_endFact_81 ?_
    refine gf_X3_2 isM_21 hx hb hts iw_X9_endFact_X3 hown hK hP (hts (.fieldLink RX9 121 "TraceTrees$Machine" "forest" "LTraceTrees$Forest;") (List.mem_of_getElem? (i := 7) rfl)) dX9_endFact_84 ?_
    refine gf_X2_5 isM_21 hx hb hts iw_X9_endFact_X2 hown hK hP (hts (.fieldLink RX9 268 "TraceTrees$Forest" "dropped" "I") (List.mem_of_getElem? (i := 8) rfl)) dX9_endFact_87 ?_
    have h9 := h
    exact wreti hx hb hr hlocks hP hD hS (by show _ = _; rw [← h9]; first | done | rfl) rfl dX9_endFact_90
  replace h := ifn c6 h
  refine lv_tableOut (tgt := 91) hx hb dX9_endFact_1 (by have := lv_neT c1 (a := 0) (by decide); have := lv_neT c2 (a := 1) (by decide); have := lv_neT c3 (a := 2) (by decide); have := lv_neT c4 (a := 3) (by decide); have := lv_neT c5 (a := 4) (by decide); have := lv_neT c6 (a := 5) (by decide); omega) (by decide) ?_
  refine lv_bipush (v := (-2)) hx hb dX9_endFact_91 (by decide) ?_
  have h9 := h
  exact wreti hx hb hr hlocks hP hD hS (by show _ = _; rw [← h9]; first | done | rfl) rfl dX9_endFact_93
def zf_X9_ends (a1 : Int32) (σ : Sg) : Option (Int32 × Sg) := obd (zf_X9_refreshRun σ) (fun σ1 => some ((zf_X9_endFact a1 σ1), σ1))
def oc_X9_ends : List Cond := [.methodLink RX9 106 yX9_refreshRun, .instanceMethod yX9_refreshRun, .selects RX9 yX9_refreshRun yX9_refreshRun, .initialized RX9, .methodLink RX9 118 yX9_endFact, .instanceMethod yX9_endFact, .selects RX9 yX9_endFact yX9_endFact]
def vc_X9_ends : List Cond := .code yX9_ends cX9_ends 2 (some .int) :: (oc_X9_ends ++ (vc_X9_refreshRun ++ (vc_X9_endFact)))
theorem ic_X9_ends_c_X9_refreshRun : ∀ w ∈ vc_X9_refreshRun, w ∈ vc_X9_ends := fun _ h => List.mem_cons_of_mem _ (List.mem_append_right _ (List.mem_append_left _ h))
theorem ic_X9_ends_c_X9_endFact : ∀ w ∈ vc_X9_endFact, w ∈ vc_X9_ends := fun _ h => List.mem_cons_of_mem _ (List.mem_append_right _ (List.mem_append_right _ (h)))
theorem gd_c_X9_ends : (vc_X9_ends).all goodWord = true := gall_cons rfl (gall_app (by decide +kernel) (gall_app gd_c_X9_refreshRun gd_c_X9_endFact))
set_option maxHeartbeats 4000000 in
set_option maxRecDepth 100000 in
theorem c_X9_ends (l : Launch) (dC : Nat → ClassId) (dI : Nat → Nat → Nat) (cI cT cS : ClassId) (sz : Nat) (ad : Nat → Nat) (a1 : Int32) (σ : Sg) (o : Int32 × Sg) (h : zf_X9_ends a1 σ = some o) : gCI (S := Unit) l yX9_ends vc_X9_ends { frames := 8, cells := 0, slots := 0, locals := 206 } (dC, dI) (gTY cI cT cS) sz [.ref (ad 0), .int a1] (Wd 153 (cfC ad cI cT cS) σ) (fun (r : Int32) (_ : Unit) => r = o.1) (fun (_ : Unit) => (Wd 153 (cfC ad cI cT cS) o.2)) 0 0 := by
  refine Met.ofW (cc := cX9_ends) (maxL := 2) (ret := (some .int)) (by decide) rfl ?_
  intro p e s m args below meth c s₁ B hml hv
  obtain ⟨rfl, hsz, hP, hK, hD0⟩ := hv
  have hx := B.exec
  have hb := B.bytes
  have hr := B.returns
  have hts := atoms_spec (ws := vc_X9_ends) B.pre
  have hown : s.vm.findClass RX9 = some m.cls := findClass_of_methodNamed B.named
  have hlocks := B.notSynchronized
  subst hsz
  have hD := hD0.self (sz := s.heap.size)
  generalize hAe : va_A (Wd 153 (cfC ad cI cT cS) σ) s.heap.size = A at hD ⊢
  have hA : ∀ q : Nat, s.heap.size ≤ q → A q := fun q h => by rw [← hAe]; exact Or.inr h
  clear hAe hD0
  refine gstart (fun H locs hHe hLe => ?_)
  have hS : va_S A s.heap H locs := by rw [← hHe, ← hLe]; exact va_S.rf
  replace hP : va_P (dC, dI) vwCl (Wd 153 (cfC ad cI cT cS) σ) H := by rw [← hHe]; exact hP
  clear hHe hLe
  have hl := lv_entry ([.ref (ad 0), .int a1]) (n := 2) (Nat.le_of_ble_eq_true rfl)
  rw [lg_entry_eq]
  generalize (lg_sl ([.ref (ad 0), .int a1]) ++ List.replicate (2 - (lg_sl ([.ref (ad 0), .int a1])).length) Slot.unset).toArray = ls at hl ⊢
  replace hl : lv_has ls 2 [(0, .ref (ad 0)), (1, .int a1)] := hl
  unfold zf_X9_ends at h
  refine lv_aload_n hx hb dX9_ends_0 rfl (lv_at hl 0 rfl) ?_
  obtain ⟨σ1, hc1, h⟩ := obd_inv h
  refine wcallv (S := Unit) (va_runV (As := []) (rest := []) ⟨hx, hb, hml, hown, hts⟩ (c_X9_refreshRun l dC dI cI cT cS H.size ad   σ _ hc1) (cwV 0 hts (gWV (List.mem_of_getElem? (i := 1) rfl) (List.mem_of_getElem? (i := 2) rfl) (List.mem_of_getElem? (i := 3) rfl) (List.mem_of_getElem? (i := 4) rfl) ic_X9_ends_c_X9_refreshRun gd_c_X9_refreshRun) rfl rfl rfl (by decide +kernel) ⟨(Nat.le_of_ble_eq_true rfl), (Nat.le_of_ble_eq_true rfl)⟩) (wpV (q := (RX9, TX9, 14)) hP hK hD oX9 rfl) rfl rfl hl.1 rfl (lv_room (Nat.le_of_ble_eq_true rfl)) dX9_ends_1 ⟨(Nat.le_of_ble_eq_true rfl), (Nat.le_of_ble_eq_true rfl)⟩) hP hD hS hA (fun _ H locs hr2 hP hD hS => ?_)
  replace hP : va_P (dC, dI) vwCl (Wd 153 (cfC ad cI cT cS) σ1) H := hP
  replace hD : va_D A (Wd 153 (cfC ad cI cT cS) σ1) := hD
  refine lv_aload_n hx hb dX9_ends_4 rfl (lv_at hl 0 rfl) ?_
  refine lv_iload_n hx hb dX9_ends_5 rfl (lv_at hl 1 rfl) ?_
  refine wcalli (S := Unit) (va_runV (As := [.int a1]) (rest := []) ⟨hx, hb, hml, hown, hts⟩ (c_X9_endFact l dC dI cI cT cS H.size ad  a1 σ1 _ rfl) (cwV 1 hts (gWV (List.mem_of_getElem? (i := 5) rfl) (List.mem_of_getElem? (i := 6) rfl) (List.mem_of_getElem? (i := 7) rfl) (List.mem_of_getElem? (i := 4) rfl) ic_X9_ends_c_X9_endFact gd_c_X9_endFact) rfl rfl rfl (by decide +kernel) ⟨(Nat.le_of_ble_eq_true rfl), (Nat.le_of_ble_eq_true rfl)⟩) (wpV (q := (RX9, TX9, 14)) hP hK hD oX9 rfl) rfl rfl hl.1 rfl (lv_room (Nat.le_of_ble_eq_true rfl)) dX9_ends_6 ⟨(Nat.le_of_ble_eq_true rfl), (Nat.le_of_ble_eq_true rfl)⟩) hP hD hS hA (fun rr3 _ H locs hr3 hP hD hS => ?_)
  refine lv_nm (y := (zf_X9_endFact a1 σ1)) hr3 ?_
  have h9 := Option.some.inj h
  exact wreti hx hb hr hlocks hP hD hS (by show _ = _; rw [← h9]; first | done | rfl) (by rw [← h9]) dX9_ends_9
def zf_X9_heat (a1 : Int32) (a2 : Int32) (σ : Sg) : Option (Int32 × Sg) := obd (zf_X9_refreshRun σ) (fun σ1 => obd (zf_X2_heatFact 21 a1 a2 σ1) (fun r3 => some (r3, σ1)))
def oc_X9_heat : List Cond := [.methodLink RX9 106 yX9_refreshRun, .instanceMethod yX9_refreshRun, .selects RX9 yX9_refreshRun yX9_refreshRun, .initialized RX9, .fieldLink RX9 31 "TraceTrees" "machine" "LTraceTrees$Machine;", .fieldLink RX9 121 "TraceTrees$Machine" "forest" "LTraceTrees$Forest;", .methodLink RX9 125 yX2_heatFact, .instanceMethod yX2_heatFact, .selects RX2 yX2_heatFact yX2_heatFact, .initialized RX2]
def vc_X9_heat : List Cond := .code yX9_heat cX9_heat 3 (some .int) :: (oc_X9_heat ++ (wsX90 ++ (wsX30 ++ (vc_X9_refreshRun ++ (vc_X2_heatFact)))))
theorem iw_X9_heat_X9 : ∀ w ∈ wsX90, w ∈ vc_X9_heat := fun _ h => List.mem_cons_of_mem _ (List.mem_append_right _ (List.mem_append_left _ h))
theorem iw_X9_heat_X3 : ∀ w ∈ wsX30, w ∈ vc_X9_heat := fun _ h => List.mem_cons_of_mem _ (List.mem_append_right _ (List.mem_append_right _ (List.mem_append_left _ h)))
theorem ic_X9_heat_c_X9_refreshRun : ∀ w ∈ vc_X9_refreshRun, w ∈ vc_X9_heat := fun _ h => List.mem_cons_of_mem _ (List.mem_append_right _ (List.mem_append_right _ (List.mem_append_right _ (List.mem_append_left _ h))))
theorem ic_X9_heat_c_X2_heatFact : ∀ w ∈ vc_X2_heatFact, w ∈ vc_X9_heat := fun _ h => List.mem_cons_of_mem _ (List.mem_append_right _ (List.mem_append_right _ (List.mem_append_right _ (List.mem_append_right _ (h)))))
theorem gd_c_X9_heat : (vc_X9_heat).all goodWord = true := gall_cons rfl (gall_app (by decide +kernel) (gall_app gw_X9 (gall_app gw_X3 (gall_app gd_c_X9_refreshRun gd_c_X2_heatFact))))
set_option maxHeartbeats 4000000 in
set_option maxRecDepth 100000 in
theorem c_X9_heat (l : Launch) (dC : Nat → ClassId) (dI : Nat → Nat → Nat) (cI cT cS : ClassId) (sz : Nat) (ad : Nat → Nat) (a1 : Int32) (a2 : Int32) (σ : Sg) (o : Int32 × Sg) (h : zf_X9_heat a1 a2 σ = some o) : gCI (S := Unit) l yX9_heat vc_X9_heat { frames := 8, cells := 0, slots := 0, locals := 206 } (dC, dI) (gTY cI cT cS) sz [.ref (ad 0), .int a1, .int a2] (Wd 153 (cfC ad cI cT cS) σ) (fun (r : Int32) (_ : Unit) => r = o.1) (fun (_ : Unit) => (Wd 153 (cfC ad cI cT cS) o.2)) 0 0 := by
  refine Met.ofW (cc := cX9_heat) (maxL := 3) (ret := (some .int)) (by decide) rfl ?_
  intro p e s m args below meth c s₁ B hml hv
  obtain ⟨rfl, hsz, hP, hK, hD0⟩ := hv
  have hx := B.exec
  have hb := B.bytes
  have hr := B.returns
  have hts := atoms_spec (ws := vc_X9_heat) B.pre
  have hown : s.vm.findClass RX9 = some m.cls := findClass_of_methodNamed B.named
  have hlocks := B.notSynchronized
  subst hsz
  have hD := hD0.self (sz := s.heap.size)
  generalize hAe : va_A (Wd 153 (cfC ad cI cT cS) σ) s.heap.size = A at hD ⊢
  have hA : ∀ q : Nat, s.heap.size ≤ q → A q := fun q h => by rw [← hAe]; exact Or.inr h
  clear hAe hD0
  refine gstart (fun H locs hHe hLe => ?_)
  have hS : va_S A s.heap H locs := by rw [← hHe, ← hLe]; exact va_S.rf
  replace hP : va_P (dC, dI) vwCl (Wd 153 (cfC ad cI cT cS) σ) H := by rw [← hHe]; exact hP
  clear hHe hLe
  have hl := lv_entry ([.ref (ad 0), .int a1, .int a2]) (n := 3) (Nat.le_of_ble_eq_true rfl)
  rw [lg_entry_eq]
  generalize (lg_sl ([.ref (ad 0), .int a1, .int a2]) ++ List.replicate (3 - (lg_sl ([.ref (ad 0), .int a1, .int a2])).length) Slot.unset).toArray = ls at hl ⊢
  replace hl : lv_has ls 3 [(0, .ref (ad 0)), (1, .int a1), (2, .int a2)] := hl
  unfold zf_X9_heat at h
  refine lv_aload_n hx hb dX9_heat_0 rfl (lv_at hl 0 rfl) ?_
  obtain ⟨σ1, hc1, h⟩ := obd_inv h
  refine wcallv (S := Unit) (va_runV (As := []) (rest := []) ⟨hx, hb, hml, hown, hts⟩ (c_X9_refreshRun l dC dI cI cT cS H.size ad   σ _ hc1) (cwV 0 hts (gWV (List.mem_of_getElem? (i := 1) rfl) (List.mem_of_getElem? (i := 2) rfl) (List.mem_of_getElem? (i := 3) rfl) (List.mem_of_getElem? (i := 4) rfl) ic_X9_heat_c_X9_refreshRun gd_c_X9_refreshRun) rfl rfl rfl (by decide +kernel) ⟨(Nat.le_of_ble_eq_true rfl), (Nat.le_of_ble_eq_true rfl)⟩) (wpV (q := (RX9, TX9, 14)) hP hK hD oX9 rfl) rfl rfl hl.1 rfl (lv_room (Nat.le_of_ble_eq_true rfl)) dX9_heat_1 ⟨(Nat.le_of_ble_eq_true rfl), (Nat.le_of_ble_eq_true rfl)⟩) hP hD hS hA (fun _ H locs hr2 hP hD hS => ?_)
  replace hP : va_P (dC, dI) vwCl (Wd 153 (cfC ad cI cT cS) σ1) H := hP
  replace hD : va_D A (Wd 153 (cfC ad cI cT cS) σ1) := hD
  refine lv_aload_n hx hb dX9_heat_4 rfl (lv_at hl 0 rfl) ?_
  refine gf_X9_3 hx hb hts iw_X9_heat_X9 hown hK hP (hts (.fieldLink RX9 31 "TraceTrees" "machine" "LTraceTrees$Machine;") (List.mem_of_getElem? (i := 5) rfl)) dX9_heat_5 ?_
  refine gf_X3_2 isM_21 hx hb hts iw_X9_heat_X3 hown hK hP (hts (.fieldLink RX9 121 "TraceTrees$Machine" "forest" "LTraceTrees$Forest;") (List.mem_of_getElem? (i := 6) rfl)) dX9_heat_8 ?_
  refine lv_iload_n hx hb dX9_heat_11 rfl (lv_at hl 1 rfl) ?_
  refine lv_iload_n hx hb dX9_heat_12 rfl (lv_at hl 2 rfl) ?_
  obtain ⟨r3, hc3, h⟩ := obd_inv h
  refine wcalli (S := Unit) (va_runV (As := [.int a1, .int a2]) (rest := []) ⟨hx, hb, hml, hown, hts⟩ (c_X2_heatFact l dC dI cI cT cS H.size ad 21 isM_21 a1 a2 σ1 _ hc3) (cwV 2 hts (gWV (List.mem_of_getElem? (i := 7) rfl) (List.mem_of_getElem? (i := 8) rfl) (List.mem_of_getElem? (i := 9) rfl) (List.mem_of_getElem? (i := 10) rfl) ic_X9_heat_c_X2_heatFact gd_c_X2_heatFact) rfl rfl rfl (by decide +kernel) ⟨(Nat.le_of_ble_eq_true rfl), (Nat.le_of_ble_eq_true rfl)⟩) (wpV (q := (RX2, TX2, 7)) hP hK hD (oX2 isM_21) rfl) rfl rfl hl.1 rfl (lv_room (Nat.le_of_ble_eq_true rfl)) dX9_heat_13 ⟨(Nat.le_of_ble_eq_true rfl), (Nat.le_of_ble_eq_true rfl)⟩) hP hD hS hA (fun rr4 _ H locs hr4 hP hD hS => ?_)
  refine lv_nm (y := r3) hr4 ?_
  have h9 := Option.some.inj h
  exact wreti hx hb hr hlocks hP hD hS (by show _ = _; rw [← h9]; first | done | rfl) (by rw [← h9]) dX9_heat_16
def zf_X9_traceFact (a1 : Int32) (a2 : Int32) (σ : Sg) : Option (Int32) := (if (zf_X2_has 21 a1 σ) = true then bd a1 8 ((if a2 = 0 then some (σ (21 + 10 + 7 * a1.toNatClampNeg) 7) else (if a2 = 1 then some (σ (21 + 10 + 7 * a1.toNatClampNeg) 8) else (if a2 = 2 then some (σ (21 + 10 + 7 * a1.toNatClampNeg) 9) else (if a2 = 3 then some (σ (21 + 10 + 7 * a1.toNatClampNeg) 10) else (if a2 = 4 then some (σ (21 + 10 + 7 * a1.toNatClampNeg) 11) else some (-2 : Int32))))))) else some (-2 : Int32))
def oc_X9_traceFact : List Cond := [.fieldLink RX9 31 "TraceTrees" "machine" "LTraceTrees$Machine;", .fieldLink RX9 121 "TraceTrees$Machine" "forest" "LTraceTrees$Forest;", .methodLink RX9 182 yX2_has, .instanceMethod yX2_has, .selects RX2 yX2_has yX2_has, .initialized RX2, .fieldLink RX9 185 "TraceTrees$Forest" "traces" "[LTraceTrees$Trace;", .fieldLink RX9 271 "TraceTrees$Trace" "head" "I", .fieldLink RX9 274 "TraceTrees$Trace" "stem" "I", .fieldLink RX9 277 "TraceTrees$Trace" "stemEntry" "I", .fieldLink RX9 189 "TraceTrees$Trace" "size" "I", .fieldLink RX9 280 "TraceTrees$Trace" "begun" "I"]
def vc_X9_traceFact : List Cond := .code yX9_traceFact cX9_traceFact 4 (some .int) :: (oc_X9_traceFact ++ (wsX90 ++ (wsX30 ++ (wsX20 ++ (wsX80 ++ (vc_X2_has))))))
theorem iw_X9_traceFact_X9 : ∀ w ∈ wsX90, w ∈ vc_X9_traceFact := fun _ h => List.mem_cons_of_mem _ (List.mem_append_right _ (List.mem_append_left _ h))
theorem iw_X9_traceFact_X3 : ∀ w ∈ wsX30, w ∈ vc_X9_traceFact := fun _ h => List.mem_cons_of_mem _ (List.mem_append_right _ (List.mem_append_right _ (List.mem_append_left _ h)))
theorem iw_X9_traceFact_X2 : ∀ w ∈ wsX20, w ∈ vc_X9_traceFact := fun _ h => List.mem_cons_of_mem _ (List.mem_append_right _ (List.mem_append_right _ (List.mem_append_right _ (List.mem_append_left _ h))))
theorem iw_X9_traceFact_X8 : ∀ w ∈ wsX80, w ∈ vc_X9_traceFact := fun _ h => List.mem_cons_of_mem _ (List.mem_append_right _ (List.mem_append_right _ (List.mem_append_right _ (List.mem_append_right _ (List.mem_append_left _ h)))))
theorem ic_X9_traceFact_c_X2_has : ∀ w ∈ vc_X2_has, w ∈ vc_X9_traceFact := fun _ h => List.mem_cons_of_mem _ (List.mem_append_right _ (List.mem_append_right _ (List.mem_append_right _ (List.mem_append_right _ (List.mem_append_right _ (h))))))
theorem gd_c_X9_traceFact : (vc_X9_traceFact).all goodWord = true := gall_cons rfl (gall_app (by decide +kernel) (gall_app gw_X9 (gall_app gw_X3 (gall_app gw_X2 (gall_app gw_X8 gd_c_X2_has)))))
set_option maxHeartbeats 4000000 in
set_option maxRecDepth 100000 in
theorem c_X9_traceFact (l : Launch) (dC : Nat → ClassId) (dI : Nat → Nat → Nat) (cI cT cS : ClassId) (sz : Nat) (ad : Nat → Nat) (a1 : Int32) (a2 : Int32) (σ : Sg) (o : Int32) (h : zf_X9_traceFact a1 a2 σ = some o) : gCI (S := Unit) l yX9_traceFact vc_X9_traceFact { frames := 1, cells := 0, slots := 0, locals := 21 } (dC, dI) (gTY cI cT cS) sz [.ref (ad 0), .int a1, .int a2] (Wd 153 (cfC ad cI cT cS) σ) (fun (r : Int32) (_ : Unit) => r = o) (fun (_ : Unit) => (Wd 153 (cfC ad cI cT cS) σ)) 0 0 := by
  refine Met.ofW (cc := cX9_traceFact) (maxL := 4) (ret := (some .int)) (by decide) rfl ?_
  intro p e s m args below meth c s₁ B hml hv
  obtain ⟨rfl, hsz, hP, hK, hD0⟩ := hv
  have hx := B.exec
  have hb := B.bytes
  have hr := B.returns
  have hts := atoms_spec (ws := vc_X9_traceFact) B.pre
  have hown : s.vm.findClass RX9 = some m.cls := findClass_of_methodNamed B.named
  have hlocks := B.notSynchronized
  subst hsz
  have hD := hD0.self (sz := s.heap.size)
  generalize hAe : va_A (Wd 153 (cfC ad cI cT cS) σ) s.heap.size = A at hD ⊢
  have hA : ∀ q : Nat, s.heap.size ≤ q → A q := fun q h => by rw [← hAe]; exact Or.inr h
  clear hAe hD0
  refine gstart (fun H locs hHe hLe => ?_)
  have hS : va_S A s.heap H locs := by rw [← hHe, ← hLe]; exact va_S.rf
  replace hP : va_P (dC, dI) vwCl (Wd 153 (cfC ad cI cT cS) σ) H := by rw [← hHe]; exact hP
  clear hHe hLe
  have hl := lv_entry ([.ref (ad 0), .int a1, .int a2]) (n := 4) (Nat.le_of_ble_eq_true rfl)
  rw [lg_entry_eq]
  generalize (lg_sl ([.ref (ad 0), .int a1, .int a2]) ++ List.replicate (4 - (lg_sl ([.ref (ad 0), .int a1, .int a2])).length) Slot.unset).toArray = ls at hl ⊢
  replace hl : lv_has ls 4 [(0, .ref (ad 0)), (1, .int a1), (2, .int a2)] := hl
  unfold zf_X9_traceFact at h
  refine lv_aload_n hx hb dX9_traceFact_0 rfl (lv_at hl 0 rfl) ?_
  refine gf_X9_3 hx hb hts iw_X9_traceFact_X9 hown hK hP (hts (.fieldLink RX9 31 "TraceTrees" "machine" "LTraceTrees$Machine;") (List.mem_of_getElem? (i := 1) rfl)) dX9_traceFact_1 ?_
  refine gf_X3_2 isM_21 hx hb hts iw_X9_traceFact_X3 hown hK hP (hts (.fieldLink RX9 121 "TraceTrees$Machine" "forest" "LTraceTrees$Forest;") (List.mem_of_getElem? (i := 2) rfl)) dX9_traceFact_4 ?_
  refine lv_iload_n hx hb dX9_traceFact_7 rfl (lv_at hl 1 rfl) ?_
  refine wcalli (S := Unit) (va_runV (As := [.int a1]) (rest := []) ⟨hx, hb, hml, hown, hts⟩ (c_X2_has l dC dI cI cT cS H.size ad 21 isM_21 a1 σ _ rfl) (cwV 1 hts (gWV (List.mem_of_getElem? (i := 3) rfl) (List.mem_of_getElem? (i := 4) rfl) (List.mem_of_getElem? (i := 5) rfl) (List.mem_of_getElem? (i := 6) rfl) ic_X9_traceFact_c_X2_has gd_c_X2_has) rfl rfl rfl (by decide +kernel) ⟨(Nat.le_of_ble_eq_true rfl), (Nat.le_of_ble_eq_true rfl)⟩) (wpV (q := (RX2, TX2, 7)) hP hK hD (oX2 isM_21) rfl) rfl rfl hl.1 rfl (lv_room (Nat.le_of_ble_eq_true rfl)) dX9_traceFact_8 ⟨(Nat.le_of_ble_eq_true rfl), (Nat.le_of_ble_eq_true rfl)⟩) hP hD hS hA (fun rr1 _ H locs hr1 hP hD hS => ?_)
  refine lv_nm (y := b2i (zf_X2_has 21 a1 σ)) hr1 ?_
  refine lv_if_ne (tgt := 17) hx hb dX9_traceFact_11 (by decide) (fun c2 => ?_) (fun c2 => ?_)
  · replace h := ifp (b2i_1 c2) h
    refine lv_aload_n hx hb dX9_traceFact_17 rfl (lv_at hl 0 rfl) ?_
    refine gf_X9_3 hx hb hts iw_X9_traceFact_X9 hown hK hP (hts (.fieldLink RX9 31 "TraceTrees" "machine" "LTraceTrees$Machine;") (List.mem_of_getElem? (i := 1) rfl)) dX9_traceFact_18 ?_
    refine gf_X3_2 isM_21 hx hb hts iw_X9_traceFact_X3 hown hK hP (hts (.fieldLink RX9 121 "TraceTrees$Machine" "forest" "LTraceTrees$Forest;") (List.mem_of_getElem? (i := 2) rfl)) dX9_traceFact_21 ?_
    refine gf_X2_0 isM_21 hx hb hts iw_X9_traceFact_X2 hown hK hP (hts (.fieldLink RX9 185 "TraceTrees$Forest" "traces" "[LTraceTrees$Trace;") (List.mem_of_getElem? (i := 7) rfl)) dX9_traceFact_24 ?_
    refine lv_iload_n hx hb dX9_traceFact_27 rfl (lv_at hl 1 rfl) ?_
    obtain ⟨hi3, h⟩ := bd_inv h
    refine waldT hx hb hK hP isM_21 hi3 dX9_traceFact_28 ?_
    refine lv_astore_n (lv' := [(3, .ref (ad (21 + 10 + 7 * a1.toNatClampNeg))), (0, .ref (ad 0)), (1, .int a1), (2, .int a2)]) hx hb dX9_traceFact_29 rfl hl (by decide) rfl (fun ls hl => ?_)
    refine lv_iload_n hx hb dX9_traceFact_30 rfl (lv_at hl 3 rfl) ?_
    by_cases c4 : a2 = 0
    · replace h := ifp c4 h
      refine lv_tableIn (off := 33) (tgt := 64) hx hb dX9_traceFact_31 (by rw [c4]; decide) (by rw [c4]; decide) (by rw [c4]; decide) (by decide) ?_
      refine lv_aload_n hx hb dX9_traceFact_64 rfl (lv_at hl 0 rfl) ?_
      refine gf_X8_7 (isTr_M isM_21 hi3) hx hb hts iw_X9_traceFact_X8 hown hK hP (hts (.fieldLink RX9 271 "TraceTrees$Trace" "head" "I") (List.mem_of_getElem? (i := 8) rfl)) dX9_traceFact_65 ?_
      have h9 := Option.some.inj h
      exact wreti hx hb hr hlocks hP hD hS (by show _ = _; rw [← h9]; first | done | rfl) rfl dX9_traceFact_68
    replace h := ifn c4 h
    by_cases c5 : a2 = 1
    · replace h := ifp c5 h
      refine lv_tableIn (off := 38) (tgt := 69) hx hb dX9_traceFact_31 (by rw [c5]; decide) (by rw [c5]; decide) (by rw [c5]; decide) (by decide) ?_
      refine lv_aload_n hx hb dX9_traceFact_69 rfl (lv_at hl 0 rfl) ?_
      refine gf_X8_8 (isTr_M isM_21 hi3) hx hb hts iw_X9_traceFact_X8 hown hK hP (hts (.fieldLink RX9 274 "TraceTrees$Trace" "stem" "I") (List.mem_of_getElem? (i := 9) rfl)) dX9_traceFact_70 ?_
      have h9 := Option.some.inj h
      exact wreti hx hb hr hlocks hP hD hS (by show _ = _; rw [← h9]; first | done | rfl) rfl dX9_traceFact_73
    replace h := ifn c5 h
    by_cases c6 : a2 = 2
    · replace h := ifp c6 h
      refine lv_tableIn (off := 43) (tgt := 74) hx hb dX9_traceFact_31 (by rw [c6]; decide) (by rw [c6]; decide) (by rw [c6]; decide) (by decide) ?_
      refine lv_aload_n hx hb dX9_traceFact_74 rfl (lv_at hl 0 rfl) ?_
      refine gf_X8_9 (isTr_M isM_21 hi3) hx hb hts iw_X9_traceFact_X8 hown hK hP (hts (.fieldLink RX9 277 "TraceTrees$Trace" "stemEntry" "I") (List.mem_of_getElem? (i := 10) rfl)) dX9_traceFact_75 ?_
      have h9 := Option.some.inj h
      exact wreti hx hb hr hlocks hP hD hS (by show _ = _; rw [← h9]; first | done | rfl) rfl dX9_traceFact_78
    replace h := ifn c6 h
    by_cases c7 : a2 = 3
    · replace h := ifp c7 h
      refine lv_tableIn (off := 48) (tgt := 79) hx hb dX9_traceFact_31 (by rw [c7]; decide) (by rw [c7]; decide) (by rw [c7]; decide) (by decide) ?_
      refine lv_aload_n hx hb dX9_traceFact_79 rfl (lv_at hl 0 rfl) ?_
      refine gf_X8_10 (isTr_M isM_21 hi3) hx hb hts iw_X9_traceFact_X8 hown hK hP (hts (.fieldLink RX9 189 "TraceTrees$Trace" "size" "I") (List.mem_of_getElem? (i := 11) rfl)) dX9_traceFact_80 ?_
      have h9 := Option.some.inj h
      exact wreti hx hb hr hlocks hP hD hS (by show _ = _; rw [← h9]; first | done | rfl) rfl dX9_traceFact_83
    replace h := ifn c7 h
    by_cases c8 : a2 = 4
    · replace h := ifp c8 h
      refine lv_tableIn (off := 53) (tgt := 84) hx hb dX9_traceFact_31 (by rw [c8]; decide) (by rw [c8]; decide) (by rw [c8]; decide) (by decide) ?_
      refine lv_aload_n hx hb dX9_traceFact_84 rfl (lv_at hl 0 rfl) ?_
      refine gf_X8_11 (isTr_M isM_21 hi3) hx hb hts iw_X9_traceFact_X8 hown hK hP (hts (.fieldLink RX9 280 "TraceTrees$Trace" "begun" "I") (List.mem_of_getElem? (i := 12) rfl)) dX9_traceFact_85 ?_
      have h9 := Option.some.inj h
      exact wreti hx hb hr hlocks hP hD hS (by show _ = _; rw [← h9]; first | done | rfl) rfl dX9_traceFact_88
    replace h := ifn c8 h
    refine lv_tableOut (tgt := 89) hx hb dX9_traceFact_31 (by have := lv_neT c4 (a := 0) (by decide); have := lv_neT c5 (a := 1) (by decide); have := lv_neT c6 (a := 2) (by decide); have := lv_neT c7 (a := 3) (by decide); have := lv_neT c8 (a := 4) (by decide); omega) (by decide) ?_
    refine lv_bipush (v := (-2)) hx hb dX9_traceFact_89 (by decide) ?_
    have h9 := Option.some.inj h
    exact wreti hx hb hr hlocks hP hD hS (by show _ = _; rw [← h9]; first | done | rfl) rfl dX9_traceFact_91
  · replace h := ifn (b2i_0 c2) h
    refine lv_bipush (v := (-2)) hx hb dX9_traceFact_14 (by decide) ?_
    have h9 := Option.some.inj h
    exact wreti hx hb hr hlocks hP hD hS (by show _ = _; rw [← h9]; first | done | rfl) rfl dX9_traceFact_16
def zf_X9_trace (a1 : Int32) (a2 : Int32) (σ : Sg) : Option (Int32 × Sg) := obd (zf_X9_refreshRun σ) (fun σ1 => obd (zf_X9_traceFact a1 a2 σ1) (fun r3 => some (r3, σ1)))
def oc_X9_trace : List Cond := [.methodLink RX9 106 yX9_refreshRun, .instanceMethod yX9_refreshRun, .selects RX9 yX9_refreshRun yX9_refreshRun, .initialized RX9, .methodLink RX9 130 yX9_traceFact, .instanceMethod yX9_traceFact, .selects RX9 yX9_traceFact yX9_traceFact]
def vc_X9_trace : List Cond := .code yX9_trace cX9_trace 3 (some .int) :: (oc_X9_trace ++ (vc_X9_refreshRun ++ (vc_X9_traceFact)))
theorem ic_X9_trace_c_X9_refreshRun : ∀ w ∈ vc_X9_refreshRun, w ∈ vc_X9_trace := fun _ h => List.mem_cons_of_mem _ (List.mem_append_right _ (List.mem_append_left _ h))
theorem ic_X9_trace_c_X9_traceFact : ∀ w ∈ vc_X9_traceFact, w ∈ vc_X9_trace := fun _ h => List.mem_cons_of_mem _ (List.mem_append_right _ (List.mem_append_right _ (h)))
theorem gd_c_X9_trace : (vc_X9_trace).all goodWord = true := gall_cons rfl (gall_app (by decide +kernel) (gall_app gd_c_X9_refreshRun gd_c_X9_traceFact))
set_option maxHeartbeats 4000000 in
set_option maxRecDepth 100000 in
theorem c_X9_trace (l : Launch) (dC : Nat → ClassId) (dI : Nat → Nat → Nat) (cI cT cS : ClassId) (sz : Nat) (ad : Nat → Nat) (a1 : Int32) (a2 : Int32) (σ : Sg) (o : Int32 × Sg) (h : zf_X9_trace a1 a2 σ = some o) : gCI (S := Unit) l yX9_trace vc_X9_trace { frames := 8, cells := 0, slots := 0, locals := 206 } (dC, dI) (gTY cI cT cS) sz [.ref (ad 0), .int a1, .int a2] (Wd 153 (cfC ad cI cT cS) σ) (fun (r : Int32) (_ : Unit) => r = o.1) (fun (_ : Unit) => (Wd 153 (cfC ad cI cT cS) o.2)) 0 0 := by
  refine Met.ofW (cc := cX9_trace) (maxL := 3) (ret := (some .int)) (by decide) rfl ?_
  intro p e s m args below meth c s₁ B hml hv
  obtain ⟨rfl, hsz, hP, hK, hD0⟩ := hv
  have hx := B.exec
  have hb := B.bytes
  have hr := B.returns
  have hts := atoms_spec (ws := vc_X9_trace) B.pre
  have hown : s.vm.findClass RX9 = some m.cls := findClass_of_methodNamed B.named
  have hlocks := B.notSynchronized
  subst hsz
  have hD := hD0.self (sz := s.heap.size)
  generalize hAe : va_A (Wd 153 (cfC ad cI cT cS) σ) s.heap.size = A at hD ⊢
  have hA : ∀ q : Nat, s.heap.size ≤ q → A q := fun q h => by rw [← hAe]; exact Or.inr h
  clear hAe hD0
  refine gstart (fun H locs hHe hLe => ?_)
  have hS : va_S A s.heap H locs := by rw [← hHe, ← hLe]; exact va_S.rf
  replace hP : va_P (dC, dI) vwCl (Wd 153 (cfC ad cI cT cS) σ) H := by rw [← hHe]; exact hP
  clear hHe hLe
  have hl := lv_entry ([.ref (ad 0), .int a1, .int a2]) (n := 3) (Nat.le_of_ble_eq_true rfl)
  rw [lg_entry_eq]
  generalize (lg_sl ([.ref (ad 0), .int a1, .int a2]) ++ List.replicate (3 - (lg_sl ([.ref (ad 0), .int a1, .int a2])).length) Slot.unset).toArray = ls at hl ⊢
  replace hl : lv_has ls 3 [(0, .ref (ad 0)), (1, .int a1), (2, .int a2)] := hl
  unfold zf_X9_trace at h
  refine lv_aload_n hx hb dX9_trace_0 rfl (lv_at hl 0 rfl) ?_
  obtain ⟨σ1, hc1, h⟩ := obd_inv h
  refine wcallv (S := Unit) (va_runV (As := []) (rest := []) ⟨hx, hb, hml, hown, hts⟩ (c_X9_refreshRun l dC dI cI cT cS H.size ad   σ _ hc1) (cwV 0 hts (gWV (List.mem_of_getElem? (i := 1) rfl) (List.mem_of_getElem? (i := 2) rfl) (List.mem_of_getElem? (i := 3) rfl) (List.mem_of_getElem? (i := 4) rfl) ic_X9_trace_c_X9_refreshRun gd_c_X9_refreshRun) rfl rfl rfl (by decide +kernel) ⟨(Nat.le_of_ble_eq_true rfl), (Nat.le_of_ble_eq_true rfl)⟩) (wpV (q := (RX9, TX9, 14)) hP hK hD oX9 rfl) rfl rfl hl.1 rfl (lv_room (Nat.le_of_ble_eq_true rfl)) dX9_trace_1 ⟨(Nat.le_of_ble_eq_true rfl), (Nat.le_of_ble_eq_true rfl)⟩) hP hD hS hA (fun _ H locs hr2 hP hD hS => ?_)
  replace hP : va_P (dC, dI) vwCl (Wd 153 (cfC ad cI cT cS) σ1) H := hP
  replace hD : va_D A (Wd 153 (cfC ad cI cT cS) σ1) := hD
  refine lv_aload_n hx hb dX9_trace_4 rfl (lv_at hl 0 rfl) ?_
  refine lv_iload_n hx hb dX9_trace_5 rfl (lv_at hl 1 rfl) ?_
  refine lv_iload_n hx hb dX9_trace_6 rfl (lv_at hl 2 rfl) ?_
  obtain ⟨r3, hc3, h⟩ := obd_inv h
  refine wcalli (S := Unit) (va_runV (As := [.int a1, .int a2]) (rest := []) ⟨hx, hb, hml, hown, hts⟩ (c_X9_traceFact l dC dI cI cT cS H.size ad  a1 a2 σ1 _ hc3) (cwV 2 hts (gWV (List.mem_of_getElem? (i := 5) rfl) (List.mem_of_getElem? (i := 6) rfl) (List.mem_of_getElem? (i := 7) rfl) (List.mem_of_getElem? (i := 4) rfl) ic_X9_trace_c_X9_traceFact gd_c_X9_traceFact) rfl rfl rfl (by decide +kernel) ⟨(Nat.le_of_ble_eq_true rfl), (Nat.le_of_ble_eq_true rfl)⟩) (wpV (q := (RX9, TX9, 14)) hP hK hD oX9 rfl) rfl rfl hl.1 rfl (lv_room (Nat.le_of_ble_eq_true rfl)) dX9_trace_7 ⟨(Nat.le_of_ble_eq_true rfl), (Nat.le_of_ble_eq_true rfl)⟩) hP hD hS hA (fun rr4 _ H locs hr4 hP hD hS => ?_)
  refine lv_nm (y := r3) hr4 ?_
  have h9 := Option.some.inj h
  exact wreti hx hb hr hlocks hP hD hS (by show _ = _; rw [← h9]; first | done | rfl) (by rw [← h9]) dX9_trace_10
def zf_X9_entryFact (a1 : Int32) (a2 : Int32) (a3 : Int32) (σ : Sg) : Option (Int32) := obd (zf_X2_hasEntry 21 a1 a2 σ) (fun r1 => (if r1 = true then bd a1 8 ((if a3 = 0 then bd a2 16 (some (σ ((21 + 10 + 7 * a1.toNatClampNeg) + 1) a2.toNatClampNeg)) else (if a3 = 1 then bd a2 16 (some (σ ((21 + 10 + 7 * a1.toNatClampNeg) + 2) a2.toNatClampNeg)) else (if a3 = 2 then bd a2 16 (some (σ ((21 + 10 + 7 * a1.toNatClampNeg) + 3) a2.toNatClampNeg)) else (if a3 = 3 then bd a2 16 (some (σ ((21 + 10 + 7 * a1.toNatClampNeg) + 4) a2.toNatClampNeg)) else (if a3 = 4 then bd a2 16 (some (σ ((21 + 10 + 7 * a1.toNatClampNeg) + 5) a2.toNatClampNeg)) else (if a3 = 5 then bd a2 16 (some (σ ((21 + 10 + 7 * a1.toNatClampNeg) + 6) a2.toNatClampNeg)) else some (-2 : Int32)))))))) else some (-2 : Int32)))
def oc_X9_entryFact : List Cond := [.fieldLink RX9 31 "TraceTrees" "machine" "LTraceTrees$Machine;", .fieldLink RX9 121 "TraceTrees$Machine" "forest" "LTraceTrees$Forest;", .methodLink RX9 283 yX2_hasEntry, .instanceMethod yX2_hasEntry, .selects RX2 yX2_hasEntry yX2_hasEntry, .initialized RX2, .fieldLink RX9 185 "TraceTrees$Forest" "traces" "[LTraceTrees$Trace;", .fieldLink RX9 197 "TraceTrees$Trace" "point" "[I", .fieldLink RX9 286 "TraceTrees$Trace" "kindY" "[I", .fieldLink RX9 289 "TraceTrees$Trace" "kindZ" "[I", .fieldLink RX9 292 "TraceTrees$Trace" "way" "[I", .fieldLink RX9 295 "TraceTrees$Trace" "hits" "[I", .fieldLink RX9 298 "TraceTrees$Trace" "branch" "[I"]
def vc_X9_entryFact : List Cond := .code yX9_entryFact cX9_entryFact 5 (some .int) :: (oc_X9_entryFact ++ (wsX90 ++ (wsX30 ++ (wsX20 ++ (wsX80 ++ (vc_X2_hasEntry))))))
theorem iw_X9_entryFact_X9 : ∀ w ∈ wsX90, w ∈ vc_X9_entryFact := fun _ h => List.mem_cons_of_mem _ (List.mem_append_right _ (List.mem_append_left _ h))
theorem iw_X9_entryFact_X3 : ∀ w ∈ wsX30, w ∈ vc_X9_entryFact := fun _ h => List.mem_cons_of_mem _ (List.mem_append_right _ (List.mem_append_right _ (List.mem_append_left _ h)))
theorem iw_X9_entryFact_X2 : ∀ w ∈ wsX20, w ∈ vc_X9_entryFact := fun _ h => List.mem_cons_of_mem _ (List.mem_append_right _ (List.mem_append_right _ (List.mem_append_right _ (List.mem_append_left _ h))))
theorem iw_X9_entryFact_X8 : ∀ w ∈ wsX80, w ∈ vc_X9_entryFact := fun _ h => List.mem_cons_of_mem _ (List.mem_append_right _ (List.mem_append_right _ (List.mem_append_right _ (List.mem_append_right _ (List.mem_append_left _ h)))))
theorem ic_X9_entryFact_c_X2_hasEntry : ∀ w ∈ vc_X2_hasEntry, w ∈ vc_X9_entryFact := fun _ h => List.mem_cons_of_mem _ (List.mem_append_right _ (List.mem_append_right _ (List.mem_append_right _ (List.mem_append_right _ (List.mem_append_right _ (h))))))
theorem gd_c_X9_entryFact : (vc_X9_entryFact).all goodWord = true := gall_cons rfl (gall_app (by decide +kernel) (gall_app gw_X9 (gall_app gw_X3 (gall_app gw_X2 (gall_app gw_X8 gd_c_X2_hasEntry)))))
set_option maxHeartbeats 4000000 in
set_option maxRecDepth 100000 in
theorem c_X9_entryFact (l : Launch) (dC : Nat → ClassId) (dI : Nat → Nat → Nat) (cI cT cS : ClassId) (sz : Nat) (ad : Nat → Nat) (a1 : Int32) (a2 : Int32) (a3 : Int32) (σ : Sg) (o : Int32) (h : zf_X9_entryFact a1 a2 a3 σ = some o) : gCI (S := Unit) l yX9_entryFact vc_X9_entryFact { frames := 2, cells := 0, slots := 0, locals := 43 } (dC, dI) (gTY cI cT cS) sz [.ref (ad 0), .int a1, .int a2, .int a3] (Wd 153 (cfC ad cI cT cS) σ) (fun (r : Int32) (_ : Unit) => r = o) (fun (_ : Unit) => (Wd 153 (cfC ad cI cT cS) σ)) 0 0 := by
  refine Met.ofW (cc := cX9_entryFact) (maxL := 5) (ret := (some .int)) (by decide) rfl ?_
  intro p e s m args below meth c s₁ B hml hv
  obtain ⟨rfl, hsz, hP, hK, hD0⟩ := hv
  have hx := B.exec
  have hb := B.bytes
  have hr := B.returns
  have hts := atoms_spec (ws := vc_X9_entryFact) B.pre
  have hown : s.vm.findClass RX9 = some m.cls := findClass_of_methodNamed B.named
  have hlocks := B.notSynchronized
  subst hsz
  have hD := hD0.self (sz := s.heap.size)
  generalize hAe : va_A (Wd 153 (cfC ad cI cT cS) σ) s.heap.size = A at hD ⊢
  have hA : ∀ q : Nat, s.heap.size ≤ q → A q := fun q h => by rw [← hAe]; exact Or.inr h
  clear hAe hD0
  refine gstart (fun H locs hHe hLe => ?_)
  have hS : va_S A s.heap H locs := by rw [← hHe, ← hLe]; exact va_S.rf
  replace hP : va_P (dC, dI) vwCl (Wd 153 (cfC ad cI cT cS) σ) H := by rw [← hHe]; exact hP
  clear hHe hLe
  have hl := lv_entry ([.ref (ad 0), .int a1, .int a2, .int a3]) (n := 5) (Nat.le_of_ble_eq_true rfl)
  rw [lg_entry_eq]
  generalize (lg_sl ([.ref (ad 0), .int a1, .int a2, .int a3]) ++ List.replicate (5 - (lg_sl ([.ref (ad 0), .int a1, .int a2, .int a3])).length) Slot.unset).toArray = ls at hl ⊢
  replace hl : lv_has ls 5 [(0, .ref (ad 0)), (1, .int a1), (2, .int a2), (3, .int a3)] := hl
  unfold zf_X9_entryFact at h
  refine lv_aload_n hx hb dX9_entryFact_0 rfl (lv_at hl 0 rfl) ?_
  refine gf_X9_3 hx hb hts iw_X9_entryFact_X9 hown hK hP (hts (.fieldLink RX9 31 "TraceTrees" "machine" "LTraceTrees$Machine;") (List.mem_of_getElem? (i := 1) rfl)) dX9_entryFact_1 ?_
  refine gf_X3_2 isM_21 hx hb hts iw_X9_entryFact_X3 hown hK hP (hts (.fieldLink RX9 121 "TraceTrees$Machine" "forest" "LTraceTrees$Forest;") (List.mem_of_getElem? (i := 2) rfl)) dX9_entryFact_4 ?_
  refine lv_iload_n hx hb dX9_entryFact_7 rfl (lv_at hl 1 rfl) ?_
  refine lv_iload_n hx hb dX9_entryFact_8 rfl (lv_at hl 2 rfl) ?_
  obtain ⟨r1, hc1, h⟩ := obd_inv h
  refine wcalli (S := Unit) (va_runV (As := [.int a1, .int a2]) (rest := []) ⟨hx, hb, hml, hown, hts⟩ (c_X2_hasEntry l dC dI cI cT cS H.size ad 21 isM_21 a1 a2 σ _ hc1) (cwV 2 hts (gWV (List.mem_of_getElem? (i := 3) rfl) (List.mem_of_getElem? (i := 4) rfl) (List.mem_of_getElem? (i := 5) rfl) (List.mem_of_getElem? (i := 6) rfl) ic_X9_entryFact_c_X2_hasEntry gd_c_X2_hasEntry) rfl rfl rfl (by decide +kernel) ⟨(Nat.le_of_ble_eq_true rfl), (Nat.le_of_ble_eq_true rfl)⟩) (wpV (q := (RX2, TX2, 7)) hP hK hD (oX2 isM_21) rfl) rfl rfl hl.1 rfl (lv_room (Nat.le_of_ble_eq_true rfl)) dX9_entryFact_9 ⟨(Nat.le_of_ble_eq_true rfl), (Nat.le_of_ble_eq_true rfl)⟩) hP hD hS hA (fun rr2 _ H locs hr2 hP hD hS => ?_)
  refine lv_nm (y := b2i r1) hr2 ?_
  refine lv_if_ne (tgt := 18) hx hb dX9_entryFact_12 (by decide) (fun c3 => ?_) (fun c3 => ?_)
  · replace h := ifp (b2i_1 c3) h
    refine lv_aload_n hx hb dX9_entryFact_18 rfl (lv_at hl 0 rfl) ?_
    refine gf_X9_3 hx hb hts iw_X9_entryFact_X9 hown hK hP (hts (.fieldLink RX9 31 "TraceTrees" "machine" "LTraceTrees$Machine;") (List.mem_of_getElem? (i := 1) rfl)) dX9_entryFact_19 ?_
    refine gf_X3_2 isM_21 hx hb hts iw_X9_entryFact_X3 hown hK hP (hts (.fieldLink RX9 121 "TraceTrees$Machine" "forest" "LTraceTrees$Forest;") (List.mem_of_getElem? (i := 2) rfl)) dX9_entryFact_22 ?_
    refine gf_X2_0 isM_21 hx hb hts iw_X9_entryFact_X2 hown hK hP (hts (.fieldLink RX9 185 "TraceTrees$Forest" "traces" "[LTraceTrees$Trace;") (List.mem_of_getElem? (i := 7) rfl)) dX9_entryFact_25 ?_
    refine lv_iload_n hx hb dX9_entryFact_28 rfl (lv_at hl 1 rfl) ?_
    obtain ⟨hi4, h⟩ := bd_inv h
    refine waldT hx hb hK hP isM_21 hi4 dX9_entryFact_29 ?_
    refine lv_astore (lv' := [(4, .ref (ad (21 + 10 + 7 * a1.toNatClampNeg))), (0, .ref (ad 0)), (1, .int a1), (2, .int a2), (3, .int a3)]) hx hb dX9_entryFact_30 hl (by decide) rfl (fun ls hl => ?_)
    refine lv_iload_n hx hb dX9_entryFact_32 rfl (lv_at hl 4 rfl) ?_
    by_cases c5 : a3 = 0
    · replace h := ifp c5 h
      refine lv_tableIn (off := 39) (tgt := 72) hx hb dX9_entryFact_33 (by rw [c5]; decide) (by rw [c5]; decide) (by rw [c5]; decide) (by decide) ?_
      refine lv_aload hx hb dX9_entryFact_72 (lv_at hl 0 rfl) ?_
      refine gf_X8_1 (isTr_M isM_21 hi4) hx hb hts iw_X9_entryFact_X8 hown hK hP (hts (.fieldLink RX9 197 "TraceTrees$Trace" "point" "[I") (List.mem_of_getElem? (i := 8) rfl)) dX9_entryFact_74 ?_
      refine lv_iload_n hx hb dX9_entryFact_77 rfl (lv_at hl 3 rfl) ?_
      obtain ⟨hi6, h⟩ := bd_inv h
      refine wald hx hb hK hP (aT1 (isTr_M isM_21 hi4)) hi6 dX9_entryFact_78 ?_
      have h9 := Option.some.inj h
      exact wreti hx hb hr hlocks hP hD hS (by show _ = _; rw [← h9]; first | done | rfl) rfl dX9_entryFact_79
    replace h := ifn c5 h
    by_cases c7 : a3 = 1
    · replace h := ifp c7 h
      refine lv_tableIn (off := 47) (tgt := 80) hx hb dX9_entryFact_33 (by rw [c7]; decide) (by rw [c7]; decide) (by rw [c7]; decide) (by decide) ?_
      refine lv_aload hx hb dX9_entryFact_80 (lv_at hl 0 rfl) ?_
      refine gf_X8_2 (isTr_M isM_21 hi4) hx hb hts iw_X9_entryFact_X8 hown hK hP (hts (.fieldLink RX9 286 "TraceTrees$Trace" "kindY" "[I") (List.mem_of_getElem? (i := 9) rfl)) dX9_entryFact_82 ?_
      refine lv_iload_n hx hb dX9_entryFact_85 rfl (lv_at hl 3 rfl) ?_
      obtain ⟨hi8, h⟩ := bd_inv h
      refine wald hx hb hK hP (aT2 (isTr_M isM_21 hi4)) hi8 dX9_entryFact_86 ?_
      have h9 := Option.some.inj h
      exact wreti hx hb hr hlocks hP hD hS (by show _ = _; rw [← h9]; first | done | rfl) rfl dX9_entryFact_87
    replace h := ifn c7 h
    by_cases c9 : a3 = 2
    · replace h := ifp c9 h
      refine lv_tableIn (off := 55) (tgt := 88) hx hb dX9_entryFact_33 (by rw [c9]; decide) (by rw [c9]; decide) (by rw [c9]; decide) (by decide) ?_
      refine lv_aload hx hb dX9_entryFact_88 (lv_at hl 0 rfl) ?_
      refine gf_X8_3 (isTr_M isM_21 hi4) hx hb hts iw_X9_entryFact_X8 hown hK hP (hts (.fieldLink RX9 289 "TraceTrees$Trace" "kindZ" "[I") (List.mem_of_getElem? (i := 10) rfl)) dX9_entryFact_90 ?_
      refine lv_iload_n hx hb dX9_entryFact_93 rfl (lv_at hl 3 rfl) ?_
      obtain ⟨hi10, h⟩ := bd_inv h
      refine wald hx hb hK hP (aT3 (isTr_M isM_21 hi4)) hi10 dX9_entryFact_94 ?_
      have h9 := Option.some.inj h
      exact wreti hx hb hr hlocks hP hD hS (by show _ = _; rw [← h9]; first | done | rfl) rfl dX9_entryFact_95
    replace h := ifn c9 h
    by_cases c11 : a3 = 3
    · replace h := ifp c11 h
      refine lv_tableIn (off := 63) (tgt := 96) hx hb dX9_entryFact_33 (by rw [c11]; decide) (by rw [c11]; decide) (by rw [c11]; decide) (by decide) ?_
      refine lv_aload hx hb dX9_entryFact_96 (lv_at hl 0 rfl) ?_
      refine gf_X8_4 (isTr_M isM_21 hi4) hx hb hts iw_X9_entryFact_X8 hown hK hP (hts (.fieldLink RX9 292 "TraceTrees$Trace" "way" "[I") (List.mem_of_getElem? (i := 11) rfl)) dX9_entryFact_98 ?_
      refine lv_iload_n hx hb dX9_entryFact_101 rfl (lv_at hl 3 rfl) ?_
      obtain ⟨hi12, h⟩ := bd_inv h
      refine wald hx hb hK hP (aT4 (isTr_M isM_21 hi4)) hi12 dX9_entryFact_102 ?_
      have h9 := Option.some.inj h
      exact wreti hx hb hr hlocks hP hD hS (by show _ = _; rw [← h9]; first | done | rfl) rfl dX9_entryFact_103
    replace h := ifn c11 h
    by_cases c13 : a3 = 4
    · replace h := ifp c13 h
      refine lv_tableIn (off := 71) (tgt := 104) hx hb dX9_entryFact_33 (by rw [c13]; decide) (by rw [c13]; decide) (by rw [c13]; decide) (by decide) ?_
      refine lv_aload hx hb dX9_entryFact_104 (lv_at hl 0 rfl) ?_
      refine gf_X8_5 (isTr_M isM_21 hi4) hx hb hts iw_X9_entryFact_X8 hown hK hP (hts (.fieldLink RX9 295 "TraceTrees$Trace" "hits" "[I") (List.mem_of_getElem? (i := 12) rfl)) dX9_entryFact_106 ?_
      refine lv_iload_n hx hb dX9_entryFact_109 rfl (lv_at hl 3 rfl) ?_
      obtain ⟨hi14, h⟩ := bd_inv h
      refine wald hx hb hK hP (aT5 (isTr_M isM_21 hi4)) hi14 dX9_entryFact_110 ?_
      have h9 := Option.some.inj h
      exact wreti hx hb hr hlocks hP hD hS (by show _ = _; rw [← h9]; first | done | rfl) rfl dX9_entryFact_111
    replace h := ifn c13 h
    by_cases c15 : a3 = 5
    · replace h := ifp c15 h
      refine lv_tableIn (off := 79) (tgt := 112) hx hb dX9_entryFact_33 (by rw [c15]; decide) (by rw [c15]; decide) (by rw [c15]; decide) (by decide) ?_
      refine lv_aload hx hb dX9_entryFact_112 (lv_at hl 0 rfl) ?_
      refine gf_X8_6 (isTr_M isM_21 hi4) hx hb hts iw_X9_entryFact_X8 hown hK hP (hts (.fieldLink RX9 298 "TraceTrees$Trace" "branch" "[I") (List.mem_of_getElem? (i := 13) rfl)) dX9_entryFact_114 ?_
      refine lv_iload_n hx hb dX9_entryFact_117 rfl (lv_at hl 3 rfl) ?_
      obtain ⟨hi16, h⟩ := bd_inv h
      refine wald hx hb hK hP (aT6 (isTr_M isM_21 hi4)) hi16 dX9_entryFact_118 ?_
      have h9 := Option.some.inj h
      exact wreti hx hb hr hlocks hP hD hS (by show _ = _; rw [← h9]; first | done | rfl) rfl dX9_entryFact_119
    replace h := ifn c15 h
    refine lv_tableOut (tgt := 120) hx hb dX9_entryFact_33 (by have := lv_neT c5 (a := 0) (by decide); have := lv_neT c7 (a := 1) (by decide); have := lv_neT c9 (a := 2) (by decide); have := lv_neT c11 (a := 3) (by decide); have := lv_neT c13 (a := 4) (by decide); have := lv_neT c15 (a := 5) (by decide); omega) (by decide) ?_
    refine lv_bipush (v := (-2)) hx hb dX9_entryFact_120 (by decide) ?_
    have h9 := Option.some.inj h
    exact wreti hx hb hr hlocks hP hD hS (by show _ = _; rw [← h9]; first | done | rfl) rfl dX9_entryFact_122
  · replace h := ifn (b2i_0 c3) h
    refine lv_bipush (v := (-2)) hx hb dX9_entryFact_15 (by decide) ?_
    have h9 := Option.some.inj h
    exact wreti hx hb hr hlocks hP hD hS (by show _ = _; rw [← h9]; first | done | rfl) rfl dX9_entryFact_17
def zf_X9_entry (a1 : Int32) (a2 : Int32) (a3 : Int32) (σ : Sg) : Option (Int32 × Sg) := obd (zf_X9_refreshRun σ) (fun σ1 => obd (zf_X9_entryFact a1 a2 a3 σ1) (fun r3 => some (r3, σ1)))
def oc_X9_entry : List Cond := [.methodLink RX9 106 yX9_refreshRun, .instanceMethod yX9_refreshRun, .selects RX9 yX9_refreshRun yX9_refreshRun, .initialized RX9, .methodLink RX9 133 yX9_entryFact, .instanceMethod yX9_entryFact, .selects RX9 yX9_entryFact yX9_entryFact]
def vc_X9_entry : List Cond := .code yX9_entry cX9_entry 4 (some .int) :: (oc_X9_entry ++ (vc_X9_refreshRun ++ (vc_X9_entryFact)))
theorem ic_X9_entry_c_X9_refreshRun : ∀ w ∈ vc_X9_refreshRun, w ∈ vc_X9_entry := fun _ h => List.mem_cons_of_mem _ (List.mem_append_right _ (List.mem_append_left _ h))
theorem ic_X9_entry_c_X9_entryFact : ∀ w ∈ vc_X9_entryFact, w ∈ vc_X9_entry := fun _ h => List.mem_cons_of_mem _ (List.mem_append_right _ (List.mem_append_right _ (h)))
theorem gd_c_X9_entry : (vc_X9_entry).all goodWord = true := gall_cons rfl (gall_app (by decide +kernel) (gall_app gd_c_X9_refreshRun gd_c_X9_entryFact))
set_option maxHeartbeats 4000000 in
set_option maxRecDepth 100000 in
theorem c_X9_entry (l : Launch) (dC : Nat → ClassId) (dI : Nat → Nat → Nat) (cI cT cS : ClassId) (sz : Nat) (ad : Nat → Nat) (a1 : Int32) (a2 : Int32) (a3 : Int32) (σ : Sg) (o : Int32 × Sg) (h : zf_X9_entry a1 a2 a3 σ = some o) : gCI (S := Unit) l yX9_entry vc_X9_entry { frames := 8, cells := 0, slots := 0, locals := 206 } (dC, dI) (gTY cI cT cS) sz [.ref (ad 0), .int a1, .int a2, .int a3] (Wd 153 (cfC ad cI cT cS) σ) (fun (r : Int32) (_ : Unit) => r = o.1) (fun (_ : Unit) => (Wd 153 (cfC ad cI cT cS) o.2)) 0 0 := by
  refine Met.ofW (cc := cX9_entry) (maxL := 4) (ret := (some .int)) (by decide) rfl ?_
  intro p e s m args below meth c s₁ B hml hv
  obtain ⟨rfl, hsz, hP, hK, hD0⟩ := hv
  have hx := B.exec
  have hb := B.bytes
  have hr := B.returns
  have hts := atoms_spec (ws := vc_X9_entry) B.pre
  have hown : s.vm.findClass RX9 = some m.cls := findClass_of_methodNamed B.named
  have hlocks := B.notSynchronized
  subst hsz
  have hD := hD0.self (sz := s.heap.size)
  generalize hAe : va_A (Wd 153 (cfC ad cI cT cS) σ) s.heap.size = A at hD ⊢
  have hA : ∀ q : Nat, s.heap.size ≤ q → A q := fun q h => by rw [← hAe]; exact Or.inr h
  clear hAe hD0
  refine gstart (fun H locs hHe hLe => ?_)
  have hS : va_S A s.heap H locs := by rw [← hHe, ← hLe]; exact va_S.rf
  replace hP : va_P (dC, dI) vwCl (Wd 153 (cfC ad cI cT cS) σ) H := by rw [← hHe]; exact hP
  clear hHe hLe
  have hl := lv_entry ([.ref (ad 0), .int a1, .int a2, .int a3]) (n := 4) (Nat.le_of_ble_eq_true rfl)
  rw [lg_entry_eq]
  generalize (lg_sl ([.ref (ad 0), .int a1, .int a2, .int a3]) ++ List.replicate (4 - (lg_sl ([.ref (ad 0), .int a1, .int a2, .int a3])).length) Slot.unset).toArray = ls at hl ⊢
  replace hl : lv_has ls 4 [(0, .ref (ad 0)), (1, .int a1), (2, .int a2), (3, .int a3)] := hl
  unfold zf_X9_entry at h
  refine lv_aload_n hx hb dX9_entry_0 rfl (lv_at hl 0 rfl) ?_
  obtain ⟨σ1, hc1, h⟩ := obd_inv h
  refine wcallv (S := Unit) (va_runV (As := []) (rest := []) ⟨hx, hb, hml, hown, hts⟩ (c_X9_refreshRun l dC dI cI cT cS H.size ad   σ _ hc1) (cwV 0 hts (gWV (List.mem_of_getElem? (i := 1) rfl) (List.mem_of_getElem? (i := 2) rfl) (List.mem_of_getElem? (i := 3) rfl) (List.mem_of_getElem? (i := 4) rfl) ic_X9_entry_c_X9_refreshRun gd_c_X9_refreshRun) rfl rfl rfl (by decide +kernel) ⟨(Nat.le_of_ble_eq_true rfl), (Nat.le_of_ble_eq_true rfl)⟩) (wpV (q := (RX9, TX9, 14)) hP hK hD oX9 rfl) rfl rfl hl.1 rfl (lv_room (Nat.le_of_ble_eq_true rfl)) dX9_entry_1 ⟨(Nat.le_of_ble_eq_true rfl), (Nat.le_of_ble_eq_true rfl)⟩) hP hD hS hA (fun _ H locs hr2 hP hD hS => ?_)
  replace hP : va_P (dC, dI) vwCl (Wd 153 (cfC ad cI cT cS) σ1) H := hP
  replace hD : va_D A (Wd 153 (cfC ad cI cT cS) σ1) := hD
  refine lv_aload_n hx hb dX9_entry_4 rfl (lv_at hl 0 rfl) ?_
  refine lv_iload_n hx hb dX9_entry_5 rfl (lv_at hl 1 rfl) ?_
  refine lv_iload_n hx hb dX9_entry_6 rfl (lv_at hl 2 rfl) ?_
  refine lv_iload_n hx hb dX9_entry_7 rfl (lv_at hl 3 rfl) ?_
  obtain ⟨r3, hc3, h⟩ := obd_inv h
  refine wcalli (S := Unit) (va_runV (As := [.int a1, .int a2, .int a3]) (rest := []) ⟨hx, hb, hml, hown, hts⟩ (c_X9_entryFact l dC dI cI cT cS H.size ad  a1 a2 a3 σ1 _ hc3) (cwV 3 hts (gWV (List.mem_of_getElem? (i := 5) rfl) (List.mem_of_getElem? (i := 6) rfl) (List.mem_of_getElem? (i := 7) rfl) (List.mem_of_getElem? (i := 4) rfl) ic_X9_entry_c_X9_entryFact gd_c_X9_entryFact) rfl rfl rfl (by decide +kernel) ⟨(Nat.le_of_ble_eq_true rfl), (Nat.le_of_ble_eq_true rfl)⟩) (wpV (q := (RX9, TX9, 14)) hP hK hD oX9 rfl) rfl rfl hl.1 rfl (lv_room (Nat.le_of_ble_eq_true rfl)) dX9_entry_8 ⟨(Nat.le_of_ble_eq_true rfl), (Nat.le_of_ble_eq_true rfl)⟩) hP hD hS hA (fun rr4 _ H locs hr4 hP hD hS => ?_)
  refine lv_nm (y := r3) hr4 ?_
  have h9 := Option.some.inj h
  exact wreti hx hb hr hlocks hP hD hS (by show _ = _; rw [← h9]; first | done | rfl) (by rw [← h9]) dX9_entry_11
def zf_X9_checkFact (a1 : Int32) (a2 : Int32) (σ : Sg) : Option (Int32) := (if (zf_X2_has 21 a1 σ) = true then bd a1 8 (obd (zf_X7_checksOf (21 + 10 + 7 * a1.toNatClampNeg) a2 σ) (fun r4 => some r4)) else some (-2 : Int32))
def oc_X9_checkFact : List Cond := [.fieldLink RX9 31 "TraceTrees" "machine" "LTraceTrees$Machine;", .fieldLink RX9 121 "TraceTrees$Machine" "forest" "LTraceTrees$Forest;", .methodLink RX9 182 yX2_has, .instanceMethod yX2_has, .selects RX2 yX2_has yX2_has, .initialized RX2, .fieldLink RX9 10 "TraceTrees" "program" "LTraceTrees$Program;", .fieldLink RX9 185 "TraceTrees$Forest" "traces" "[LTraceTrees$Trace;", .methodLink RX9 301 yX7_checksOf, .static yX7_checksOf, .initialized RX7]
def vc_X9_checkFact : List Cond := .code yX9_checkFact cX9_checkFact 3 (some .int) :: (oc_X9_checkFact ++ (wsX90 ++ (wsX30 ++ (wsX20 ++ (vc_X2_has ++ (vc_X7_checksOf))))))
theorem iw_X9_checkFact_X9 : ∀ w ∈ wsX90, w ∈ vc_X9_checkFact := fun _ h => List.mem_cons_of_mem _ (List.mem_append_right _ (List.mem_append_left _ h))
theorem iw_X9_checkFact_X3 : ∀ w ∈ wsX30, w ∈ vc_X9_checkFact := fun _ h => List.mem_cons_of_mem _ (List.mem_append_right _ (List.mem_append_right _ (List.mem_append_left _ h)))
theorem iw_X9_checkFact_X2 : ∀ w ∈ wsX20, w ∈ vc_X9_checkFact := fun _ h => List.mem_cons_of_mem _ (List.mem_append_right _ (List.mem_append_right _ (List.mem_append_right _ (List.mem_append_left _ h))))
theorem ic_X9_checkFact_c_X2_has : ∀ w ∈ vc_X2_has, w ∈ vc_X9_checkFact := fun _ h => List.mem_cons_of_mem _ (List.mem_append_right _ (List.mem_append_right _ (List.mem_append_right _ (List.mem_append_right _ (List.mem_append_left _ h)))))
theorem ic_X9_checkFact_c_X7_checksOf : ∀ w ∈ vc_X7_checksOf, w ∈ vc_X9_checkFact := fun _ h => List.mem_cons_of_mem _ (List.mem_append_right _ (List.mem_append_right _ (List.mem_append_right _ (List.mem_append_right _ (List.mem_append_right _ (h))))))
theorem gd_c_X9_checkFact : (vc_X9_checkFact).all goodWord = true := gall_cons rfl (gall_app (by decide +kernel) (gall_app gw_X9 (gall_app gw_X3 (gall_app gw_X2 (gall_app gd_c_X2_has gd_c_X7_checksOf)))))
set_option maxHeartbeats 4000000 in
set_option maxRecDepth 100000 in
theorem c_X9_checkFact (l : Launch) (dC : Nat → ClassId) (dI : Nat → Nat → Nat) (cI cT cS : ClassId) (sz : Nat) (ad : Nat → Nat) (a1 : Int32) (a2 : Int32) (σ : Sg) (o : Int32) (h : zf_X9_checkFact a1 a2 σ = some o) : gCI (S := Unit) l yX9_checkFact vc_X9_checkFact { frames := 5, cells := 0, slots := 0, locals := 118 } (dC, dI) (gTY cI cT cS) sz [.ref (ad 0), .int a1, .int a2] (Wd 153 (cfC ad cI cT cS) σ) (fun (r : Int32) (_ : Unit) => r = o) (fun (_ : Unit) => (Wd 153 (cfC ad cI cT cS) σ)) 0 0 := by
  refine Met.ofW (cc := cX9_checkFact) (maxL := 3) (ret := (some .int)) (by decide) rfl ?_
  intro p e s m args below meth c s₁ B hml hv
  obtain ⟨rfl, hsz, hP, hK, hD0⟩ := hv
  have hx := B.exec
  have hb := B.bytes
  have hr := B.returns
  have hts := atoms_spec (ws := vc_X9_checkFact) B.pre
  have hown : s.vm.findClass RX9 = some m.cls := findClass_of_methodNamed B.named
  have hlocks := B.notSynchronized
  subst hsz
  have hD := hD0.self (sz := s.heap.size)
  generalize hAe : va_A (Wd 153 (cfC ad cI cT cS) σ) s.heap.size = A at hD ⊢
  have hA : ∀ q : Nat, s.heap.size ≤ q → A q := fun q h => by rw [← hAe]; exact Or.inr h
  clear hAe hD0
  refine gstart (fun H locs hHe hLe => ?_)
  have hS : va_S A s.heap H locs := by rw [← hHe, ← hLe]; exact va_S.rf
  replace hP : va_P (dC, dI) vwCl (Wd 153 (cfC ad cI cT cS) σ) H := by rw [← hHe]; exact hP
  clear hHe hLe
  have hl := lv_entry ([.ref (ad 0), .int a1, .int a2]) (n := 3) (Nat.le_of_ble_eq_true rfl)
  rw [lg_entry_eq]
  generalize (lg_sl ([.ref (ad 0), .int a1, .int a2]) ++ List.replicate (3 - (lg_sl ([.ref (ad 0), .int a1, .int a2])).length) Slot.unset).toArray = ls at hl ⊢
  replace hl : lv_has ls 3 [(0, .ref (ad 0)), (1, .int a1), (2, .int a2)] := hl
  unfold zf_X9_checkFact at h
  refine lv_aload_n hx hb dX9_checkFact_0 rfl (lv_at hl 0 rfl) ?_
  refine gf_X9_3 hx hb hts iw_X9_checkFact_X9 hown hK hP (hts (.fieldLink RX9 31 "TraceTrees" "machine" "LTraceTrees$Machine;") (List.mem_of_getElem? (i := 1) rfl)) dX9_checkFact_1 ?_
  refine gf_X3_2 isM_21 hx hb hts iw_X9_checkFact_X3 hown hK hP (hts (.fieldLink RX9 121 "TraceTrees$Machine" "forest" "LTraceTrees$Forest;") (List.mem_of_getElem? (i := 2) rfl)) dX9_checkFact_4 ?_
  refine lv_iload_n hx hb dX9_checkFact_7 rfl (lv_at hl 1 rfl) ?_
  refine wcalli (S := Unit) (va_runV (As := [.int a1]) (rest := []) ⟨hx, hb, hml, hown, hts⟩ (c_X2_has l dC dI cI cT cS H.size ad 21 isM_21 a1 σ _ rfl) (cwV 1 hts (gWV (List.mem_of_getElem? (i := 3) rfl) (List.mem_of_getElem? (i := 4) rfl) (List.mem_of_getElem? (i := 5) rfl) (List.mem_of_getElem? (i := 6) rfl) ic_X9_checkFact_c_X2_has gd_c_X2_has) rfl rfl rfl (by decide +kernel) ⟨(Nat.le_of_ble_eq_true rfl), (Nat.le_of_ble_eq_true rfl)⟩) (wpV (q := (RX2, TX2, 7)) hP hK hD (oX2 isM_21) rfl) rfl rfl hl.1 rfl (lv_room (Nat.le_of_ble_eq_true rfl)) dX9_checkFact_8 ⟨(Nat.le_of_ble_eq_true rfl), (Nat.le_of_ble_eq_true rfl)⟩) hP hD hS hA (fun rr1 _ H locs hr1 hP hD hS => ?_)
  refine lv_nm (y := b2i (zf_X2_has 21 a1 σ)) hr1 ?_
  refine lv_if_ne (tgt := 17) hx hb dX9_checkFact_11 (by decide) (fun c2 => ?_) (fun c2 => ?_)
  · replace h := ifp (b2i_1 c2) h
    refine lv_aload_n hx hb dX9_checkFact_17 rfl (lv_at hl 0 rfl) ?_
    refine gf_X9_0 hx hb hts iw_X9_checkFact_X9 hown hK hP (hts (.fieldLink RX9 10 "TraceTrees" "program" "LTraceTrees$Program;") (List.mem_of_getElem? (i := 7) rfl)) dX9_checkFact_18 ?_
    refine lv_aload_n hx hb dX9_checkFact_21 rfl (lv_at hl 0 rfl) ?_
    refine gf_X9_3 hx hb hts iw_X9_checkFact_X9 hown hK hP (hts (.fieldLink RX9 31 "TraceTrees" "machine" "LTraceTrees$Machine;") (List.mem_of_getElem? (i := 1) rfl)) dX9_checkFact_22 ?_
    refine gf_X3_2 isM_21 hx hb hts iw_X9_checkFact_X3 hown hK hP (hts (.fieldLink RX9 121 "TraceTrees$Machine" "forest" "LTraceTrees$Forest;") (List.mem_of_getElem? (i := 2) rfl)) dX9_checkFact_25 ?_
    refine gf_X2_0 isM_21 hx hb hts iw_X9_checkFact_X2 hown hK hP (hts (.fieldLink RX9 185 "TraceTrees$Forest" "traces" "[LTraceTrees$Trace;") (List.mem_of_getElem? (i := 8) rfl)) dX9_checkFact_28 ?_
    refine lv_iload_n hx hb dX9_checkFact_31 rfl (lv_at hl 1 rfl) ?_
    obtain ⟨hi3, h⟩ := bd_inv h
    refine waldT hx hb hK hP isM_21 hi3 dX9_checkFact_32 ?_
    refine lv_iload_n hx hb dX9_checkFact_33 rfl (lv_at hl 2 rfl) ?_
    obtain ⟨r4, hc4, h⟩ := obd_inv h
    refine wcalli (S := Unit) (va_runS (As := [.ref (ad 1), .ref (ad (21 + 10 + 7 * a1.toNatClampNeg)), .int a2]) (rest := []) ⟨hx, hb, hml, hown, hts⟩ (c_X7_checksOf l dC dI cI cT cS H.size ad (21 + 10 + 7 * a1.toNatClampNeg) (isTr_M isM_21 hi3) a2 σ _ hc4) (va_cwS 3 hts (gWS (List.mem_of_getElem? (i := 9) rfl) (List.mem_of_getElem? (i := 10) rfl) (List.mem_of_getElem? (i := 11) rfl) ic_X9_checkFact_c_X7_checksOf gd_c_X7_checksOf) rfl rfl rfl (by decide +kernel) ⟨(Nat.le_of_ble_eq_true rfl), (Nat.le_of_ble_eq_true rfl)⟩) (gpS hP hK hD) rfl rfl hl.1 rfl (lv_room (Nat.le_of_ble_eq_true rfl)) dX9_checkFact_34 ⟨(Nat.le_of_ble_eq_true rfl), (Nat.le_of_ble_eq_true rfl)⟩) hP hD hS hA (fun rr5 _ H locs hr5 hP hD hS => ?_)
    refine lv_nm (y := r4) hr5 ?_
    have h9 := Option.some.inj h
    exact wreti hx hb hr hlocks hP hD hS (by show _ = _; rw [← h9]; first | done | rfl) rfl dX9_checkFact_37
  · replace h := ifn (b2i_0 c2) h
    refine lv_bipush (v := (-2)) hx hb dX9_checkFact_14 (by decide) ?_
    have h9 := Option.some.inj h
    exact wreti hx hb hr hlocks hP hD hS (by show _ = _; rw [← h9]; first | done | rfl) rfl dX9_checkFact_16
def zf_X9_checks (a1 : Int32) (a2 : Int32) (σ : Sg) : Option (Int32 × Sg) := obd (zf_X9_refreshRun σ) (fun σ1 => obd (zf_X9_checkFact a1 a2 σ1) (fun r3 => some (r3, σ1)))
def oc_X9_checks : List Cond := [.methodLink RX9 106 yX9_refreshRun, .instanceMethod yX9_refreshRun, .selects RX9 yX9_refreshRun yX9_refreshRun, .initialized RX9, .methodLink RX9 137 yX9_checkFact, .instanceMethod yX9_checkFact, .selects RX9 yX9_checkFact yX9_checkFact]
def vc_X9_checks : List Cond := .code yX9_checks cX9_checks 3 (some .int) :: (oc_X9_checks ++ (vc_X9_refreshRun ++ (vc_X9_checkFact)))
theorem ic_X9_checks_c_X9_refreshRun : ∀ w ∈ vc_X9_refreshRun, w ∈ vc_X9_checks := fun _ h => List.mem_cons_of_mem _ (List.mem_append_right _ (List.mem_append_left _ h))
theorem ic_X9_checks_c_X9_checkFact : ∀ w ∈ vc_X9_checkFact, w ∈ vc_X9_checks := fun _ h => List.mem_cons_of_mem _ (List.mem_append_right _ (List.mem_append_right _ (h)))
theorem gd_c_X9_checks : (vc_X9_checks).all goodWord = true := gall_cons rfl (gall_app (by decide +kernel) (gall_app gd_c_X9_refreshRun gd_c_X9_checkFact))
set_option maxHeartbeats 4000000 in
set_option maxRecDepth 100000 in
theorem c_X9_checks (l : Launch) (dC : Nat → ClassId) (dI : Nat → Nat → Nat) (cI cT cS : ClassId) (sz : Nat) (ad : Nat → Nat) (a1 : Int32) (a2 : Int32) (σ : Sg) (o : Int32 × Sg) (h : zf_X9_checks a1 a2 σ = some o) : gCI (S := Unit) l yX9_checks vc_X9_checks { frames := 8, cells := 0, slots := 0, locals := 206 } (dC, dI) (gTY cI cT cS) sz [.ref (ad 0), .int a1, .int a2] (Wd 153 (cfC ad cI cT cS) σ) (fun (r : Int32) (_ : Unit) => r = o.1) (fun (_ : Unit) => (Wd 153 (cfC ad cI cT cS) o.2)) 0 0 := by
  refine Met.ofW (cc := cX9_checks) (maxL := 3) (ret := (some .int)) (by decide) rfl ?_
  intro p e s m args below meth c s₁ B hml hv
  obtain ⟨rfl, hsz, hP, hK, hD0⟩ := hv
  have hx := B.exec
  have hb := B.bytes
  have hr := B.returns
  have hts := atoms_spec (ws := vc_X9_checks) B.pre
  have hown : s.vm.findClass RX9 = some m.cls := findClass_of_methodNamed B.named
  have hlocks := B.notSynchronized
  subst hsz
  have hD := hD0.self (sz := s.heap.size)
  generalize hAe : va_A (Wd 153 (cfC ad cI cT cS) σ) s.heap.size = A at hD ⊢
  have hA : ∀ q : Nat, s.heap.size ≤ q → A q := fun q h => by rw [← hAe]; exact Or.inr h
  clear hAe hD0
  refine gstart (fun H locs hHe hLe => ?_)
  have hS : va_S A s.heap H locs := by rw [← hHe, ← hLe]; exact va_S.rf
  replace hP : va_P (dC, dI) vwCl (Wd 153 (cfC ad cI cT cS) σ) H := by rw [← hHe]; exact hP
  clear hHe hLe
  have hl := lv_entry ([.ref (ad 0), .int a1, .int a2]) (n := 3) (Nat.le_of_ble_eq_true rfl)
  rw [lg_entry_eq]
  generalize (lg_sl ([.ref (ad 0), .int a1, .int a2]) ++ List.replicate (3 - (lg_sl ([.ref (ad 0), .int a1, .int a2])).length) Slot.unset).toArray = ls at hl ⊢
  replace hl : lv_has ls 3 [(0, .ref (ad 0)), (1, .int a1), (2, .int a2)] := hl
  unfold zf_X9_checks at h
  refine lv_aload_n hx hb dX9_checks_0 rfl (lv_at hl 0 rfl) ?_
  obtain ⟨σ1, hc1, h⟩ := obd_inv h
  refine wcallv (S := Unit) (va_runV (As := []) (rest := []) ⟨hx, hb, hml, hown, hts⟩ (c_X9_refreshRun l dC dI cI cT cS H.size ad   σ _ hc1) (cwV 0 hts (gWV (List.mem_of_getElem? (i := 1) rfl) (List.mem_of_getElem? (i := 2) rfl) (List.mem_of_getElem? (i := 3) rfl) (List.mem_of_getElem? (i := 4) rfl) ic_X9_checks_c_X9_refreshRun gd_c_X9_refreshRun) rfl rfl rfl (by decide +kernel) ⟨(Nat.le_of_ble_eq_true rfl), (Nat.le_of_ble_eq_true rfl)⟩) (wpV (q := (RX9, TX9, 14)) hP hK hD oX9 rfl) rfl rfl hl.1 rfl (lv_room (Nat.le_of_ble_eq_true rfl)) dX9_checks_1 ⟨(Nat.le_of_ble_eq_true rfl), (Nat.le_of_ble_eq_true rfl)⟩) hP hD hS hA (fun _ H locs hr2 hP hD hS => ?_)
  replace hP : va_P (dC, dI) vwCl (Wd 153 (cfC ad cI cT cS) σ1) H := hP
  replace hD : va_D A (Wd 153 (cfC ad cI cT cS) σ1) := hD
  refine lv_aload_n hx hb dX9_checks_4 rfl (lv_at hl 0 rfl) ?_
  refine lv_iload_n hx hb dX9_checks_5 rfl (lv_at hl 1 rfl) ?_
  refine lv_iload_n hx hb dX9_checks_6 rfl (lv_at hl 2 rfl) ?_
  obtain ⟨r3, hc3, h⟩ := obd_inv h
  refine wcalli (S := Unit) (va_runV (As := [.int a1, .int a2]) (rest := []) ⟨hx, hb, hml, hown, hts⟩ (c_X9_checkFact l dC dI cI cT cS H.size ad  a1 a2 σ1 _ hc3) (cwV 2 hts (gWV (List.mem_of_getElem? (i := 5) rfl) (List.mem_of_getElem? (i := 6) rfl) (List.mem_of_getElem? (i := 7) rfl) (List.mem_of_getElem? (i := 4) rfl) ic_X9_checks_c_X9_checkFact gd_c_X9_checkFact) rfl rfl rfl (by decide +kernel) ⟨(Nat.le_of_ble_eq_true rfl), (Nat.le_of_ble_eq_true rfl)⟩) (wpV (q := (RX9, TX9, 14)) hP hK hD oX9 rfl) rfl rfl hl.1 rfl (lv_room (Nat.le_of_ble_eq_true rfl)) dX9_checks_7 ⟨(Nat.le_of_ble_eq_true rfl), (Nat.le_of_ble_eq_true rfl)⟩) hP hD hS hA (fun rr4 _ H locs hr4 hP hD hS => ?_)
  refine lv_nm (y := r3) hr4 ?_
  have h9 := Option.some.inj h
  exact wreti hx hb hr hlocks hP hD hS (by show _ = _; rw [← h9]; first | done | rfl) (by rw [← h9]) dX9_checks_10
def zb_X9_snapshotFact_24  : Option (Int32) := some (-2 : Int32)
def zb_X9_snapshotFact_79 (w0_79 : Int32) : Option (Int32) := some w0_79
def zf_X9_snapshotFact (a1 : Int32) (a2 : Int32) (a3 : Int32) (σ : Sg) : Option (Int32) := obd (zf_X2_hasEntry 21 a1 a2 σ) (fun r1 => (if r1 = true then (if a3 < 0 then zb_X9_snapshotFact_24 else (if a3 ≤ (1 : Int32) then bd a1 8 (obd (zf_X7_writtenAhead (21 + 10 + 7 * a1.toNatClampNeg) a2 σ) (fun r7 => (if a3 = 0 then (zb_X9_snapshotFact_79 r7) else obd (zf_X7_writtenAhead (21 + 10 + 7 * a1.toNatClampNeg) (a2 - (1 : Int32)) σ) (fun r10 => (zb_X9_snapshotFact_79 (r7 &&& (r10 ^^^ (-1 : Int32)))))))) else zb_X9_snapshotFact_24)) else zb_X9_snapshotFact_24))
def oc_X9_snapshotFact : List Cond := [.fieldLink RX9 31 "TraceTrees" "machine" "LTraceTrees$Machine;", .fieldLink RX9 121 "TraceTrees$Machine" "forest" "LTraceTrees$Forest;", .methodLink RX9 283 yX2_hasEntry, .instanceMethod yX2_hasEntry, .selects RX2 yX2_hasEntry yX2_hasEntry, .initialized RX2, .fieldLink RX9 185 "TraceTrees$Forest" "traces" "[LTraceTrees$Trace;", .fieldLink RX9 10 "TraceTrees" "program" "LTraceTrees$Program;", .methodLink RX9 307 yX7_writtenAhead, .static yX7_writtenAhead, .initialized RX7]
def vc_X9_snapshotFact : List Cond := .code yX9_snapshotFact cX9_snapshotFact 6 (some .int) :: (oc_X9_snapshotFact ++ (wsX90 ++ (wsX30 ++ (wsX20 ++ (vc_X2_hasEntry ++ (vc_X7_writtenAhead))))))
theorem iw_X9_snapshotFact_X9 : ∀ w ∈ wsX90, w ∈ vc_X9_snapshotFact := fun _ h => List.mem_cons_of_mem _ (List.mem_append_right _ (List.mem_append_left _ h))
theorem iw_X9_snapshotFact_X3 : ∀ w ∈ wsX30, w ∈ vc_X9_snapshotFact := fun _ h => List.mem_cons_of_mem _ (List.mem_append_right _ (List.mem_append_right _ (List.mem_append_left _ h)))
theorem iw_X9_snapshotFact_X2 : ∀ w ∈ wsX20, w ∈ vc_X9_snapshotFact := fun _ h => List.mem_cons_of_mem _ (List.mem_append_right _ (List.mem_append_right _ (List.mem_append_right _ (List.mem_append_left _ h))))
theorem ic_X9_snapshotFact_c_X2_hasEntry : ∀ w ∈ vc_X2_hasEntry, w ∈ vc_X9_snapshotFact := fun _ h => List.mem_cons_of_mem _ (List.mem_append_right _ (List.mem_append_right _ (List.mem_append_right _ (List.mem_append_right _ (List.mem_append_left _ h)))))
theorem ic_X9_snapshotFact_c_X7_writtenAhead : ∀ w ∈ vc_X7_writtenAhead, w ∈ vc_X9_snapshotFact := fun _ h => List.mem_cons_of_mem _ (List.mem_append_right _ (List.mem_append_right _ (List.mem_append_right _ (List.mem_append_right _ (List.mem_append_right _ (h))))))
theorem gd_c_X9_snapshotFact : (vc_X9_snapshotFact).all goodWord = true := gall_cons rfl (gall_app (by decide +kernel) (gall_app gw_X9 (gall_app gw_X3 (gall_app gw_X2 (gall_app gd_c_X2_hasEntry gd_c_X7_writtenAhead)))))
set_option maxHeartbeats 4000000 in
set_option maxRecDepth 100000 in
theorem c_X9_snapshotFact (l : Launch) (dC : Nat → ClassId) (dI : Nat → Nat → Nat) (cI cT cS : ClassId) (sz : Nat) (ad : Nat → Nat) (a1 : Int32) (a2 : Int32) (a3 : Int32) (σ : Sg) (o : Int32) (h : zf_X9_snapshotFact a1 a2 a3 σ = some o) : gCI (S := Unit) l yX9_snapshotFact vc_X9_snapshotFact { frames := 4, cells := 0, slots := 0, locals := 88 } (dC, dI) (gTY cI cT cS) sz [.ref (ad 0), .int a1, .int a2, .int a3] (Wd 153 (cfC ad cI cT cS) σ) (fun (r : Int32) (_ : Unit) => r = o) (fun (_ : Unit) => (Wd 153 (cfC ad cI cT cS) σ)) 0 0 := by
  refine Met.ofW (cc := cX9_snapshotFact) (maxL := 6) (ret := (some .int)) (by decide) rfl ?_
  intro p e s m args below meth c s₁ B hml hv
  obtain ⟨rfl, hsz, hP, hK, hD0⟩ := hv
  have hx := B.exec
  have hb := B.bytes
  have hr := B.returns
  have hts := atoms_spec (ws := vc_X9_snapshotFact) B.pre
  have hown : s.vm.findClass RX9 = some m.cls := findClass_of_methodNamed B.named
  have hlocks := B.notSynchronized
  subst hsz
  have hD := hD0.self (sz := s.heap.size)
  generalize hAe : va_A (Wd 153 (cfC ad cI cT cS) σ) s.heap.size = A at hD ⊢
  have hA : ∀ q : Nat, s.heap.size ≤ q → A q := fun q h => by rw [← hAe]; exact Or.inr h
  clear hAe hD0
  refine gstart (fun H locs hHe hLe => ?_)
  have hS : va_S A s.heap H locs := by rw [← hHe, ← hLe]; exact va_S.rf
  replace hP : va_P (dC, dI) vwCl (Wd 153 (cfC ad cI cT cS) σ) H := by rw [← hHe]; exact hP
  clear hHe hLe
  have hl := lv_entry ([.ref (ad 0), .int a1, .int a2, .int a3]) (n := 6) (Nat.le_of_ble_eq_true rfl)
  rw [lg_entry_eq]
  generalize (lg_sl ([.ref (ad 0), .int a1, .int a2, .int a3]) ++ List.replicate (6 - (lg_sl ([.ref (ad 0), .int a1, .int a2, .int a3])).length) Slot.unset).toArray = ls at hl ⊢
  replace hl : lv_has ls 6 [(0, .ref (ad 0)), (1, .int a1), (2, .int a2), (3, .int a3)] := hl
  unfold zf_X9_snapshotFact at h
  have J24 : ∀  (H : Heap) (locs : List Loc) (ls : Array Slot), zb_X9_snapshotFact_24 = some o → va_P (dC, dI) vwCl (Wd 153 (cfC ad cI cT cS) σ) H → va_D A (Wd 153 (cfC ad cI cT cS) σ) → va_S A s.heap H locs → lv_has ls 6 [] → W p l e (headSpec vc_X9_snapshotFact { frames := 4, cells := 0, slots := 0, locals := 88 }).room s m (List.toArray (α := Value) [.ref (ad 0), .int a1, .int a2, .int a3]) below meth c H locs 0 0 (MQ below (va_Qi (fun (r : Int32) (_ : Unit) => r = o) (gB (dC, dI) A (fun (_ : Unit) => (Wd 153 (cfC ad cI cT cS) σ))) A) (List.toArray (α := Value) [.ref (ad 0), .int a1, .int a2, .int a3]) s 0 0 A) (F0 m 24 ls []) := by
    intro  H locs ls h hP hD hS hl
    unfold zb_X9_snapshotFact_24 at h
    refine lv_bipush (v := (-2)) hx hb dX9_snapshotFact_24 (by decide) ?_
    have h9 := Option.some.inj h
    exact wreti hx hb hr hlocks hP hD hS (by show _ = _; rw [← h9]; first | done | rfl) rfl dX9_snapshotFact_26
  have J79 : ∀ (w0_79 : Int32) (H : Heap) (locs : List Loc) (ls : Array Slot), zb_X9_snapshotFact_79 w0_79 = some o → va_P (dC, dI) vwCl (Wd 153 (cfC ad cI cT cS) σ) H → va_D A (Wd 153 (cfC ad cI cT cS) σ) → va_S A s.heap H locs → lv_has ls 6 [] → W p l e (headSpec vc_X9_snapshotFact { frames := 4, cells := 0, slots := 0, locals := 88 }).room s m (List.toArray (α := Value) [.ref (ad 0), .int a1, .int a2, .int a3]) below meth c H locs 0 0 (MQ below (va_Qi (fun (r : Int32) (_ : Unit) => r = o) (gB (dC, dI) A (fun (_ : Unit) => (Wd 153 (cfC ad cI cT cS) σ))) A) (List.toArray (α := Value) [.ref (ad 0), .int a1, .int a2, .int a3]) s 0 0 A) (F0 m 79 ls [.int w0_79]) := by
    intro w0_79 H locs ls h hP hD hS hl
    unfold zb_X9_snapshotFact_79 at h
    have h9 := Option.some.inj h
    exact wreti hx hb hr hlocks hP hD hS (by show _ = _; rw [← h9]; first | done | rfl) rfl dX9_snapshotFact_79
  refine lv_aload_n hx hb dX9_snapshotFact_0 rfl (lv_at hl 0 rfl) ?_
  refine gf_X9_3 hx hb hts iw_X9_snapshotFact_X9 hown hK hP (hts (.fieldLink RX9 31 "TraceTrees" "machine" "LTraceTrees$Machine;") (List.mem_of_getElem? (i := 1) rfl)) dX9_snapshotFact_1 ?_
  refine gf_X3_2 isM_21 hx hb hts iw_X9_snapshotFact_X3 hown hK hP (hts (.fieldLink RX9 121 "TraceTrees$Machine" "forest" "LTraceTrees$Forest;") (List.mem_of_getElem? (i := 2) rfl)) dX9_snapshotFact_4 ?_
  refine lv_iload_n hx hb dX9_snapshotFact_7 rfl (lv_at hl 1 rfl) ?_
  refine lv_iload_n hx hb dX9_snapshotFact_8 rfl (lv_at hl 2 rfl) ?_
  obtain ⟨r1, hc1, h⟩ := obd_inv h
  refine wcalli (S := Unit) (va_runV (As := [.int a1, .int a2]) (rest := []) ⟨hx, hb, hml, hown, hts⟩ (c_X2_hasEntry l dC dI cI cT cS H.size ad 21 isM_21 a1 a2 σ _ hc1) (cwV 2 hts (gWV (List.mem_of_getElem? (i := 3) rfl) (List.mem_of_getElem? (i := 4) rfl) (List.mem_of_getElem? (i := 5) rfl) (List.mem_of_getElem? (i := 6) rfl) ic_X9_snapshotFact_c_X2_hasEntry gd_c_X2_hasEntry) rfl rfl rfl (by decide +kernel) ⟨(Nat.le_of_ble_eq_true rfl), (Nat.le_of_ble_eq_true rfl)⟩) (wpV (q := (RX2, TX2, 7)) hP hK hD (oX2 isM_21) rfl) rfl rfl hl.1 rfl (lv_room (Nat.le_of_ble_eq_true rfl)) dX9_snapshotFact_9 ⟨(Nat.le_of_ble_eq_true rfl), (Nat.le_of_ble_eq_true rfl)⟩) hP hD hS hA (fun rr2 _ H locs hr2 hP hD hS => ?_)
  refine lv_nm (y := b2i r1) hr2 ?_
  refine lv_if_eq (tgt := 24) hx hb dX9_snapshotFact_12 (by decide) (fun c3 => ?_) (fun c3 => ?_)
  · replace h := ifn (b2i_0 c3) h
    exact J24  H locs ls h hP hD hS (lv_sub (l' := []) hl [] rfl)
  · replace h := ifp (b2i_1 c3) h
    refine lv_iload_n hx hb dX9_snapshotFact_15 rfl (lv_at hl 3 rfl) ?_
    refine lv_if_lt (tgt := 24) hx hb dX9_snapshotFact_16 (by decide) (fun c4 => ?_) (fun c4 => ?_)
    · replace h := ifp (c4) h
      exact J24  H locs ls h hP hD hS (lv_sub (l' := []) hl [] rfl)
    · replace h := ifn (c4) h
      refine lv_iload_n hx hb dX9_snapshotFact_19 rfl (lv_at hl 3 rfl) ?_
      refine lv_iconst (v := 1) hx hb dX9_snapshotFact_20 (by decide) ?_
      refine lv_icmp_le (tgt := 27) hx hb dX9_snapshotFact_21 (by decide) (fun c5 => ?_) (fun c5 => ?_)
      · replace h := ifp (c5) h
        refine lv_aload_n hx hb dX9_snapshotFact_27 rfl (lv_at hl 0 rfl) ?_
        refine gf_X9_3 hx hb hts iw_X9_snapshotFact_X9 hown hK hP (hts (.fieldLink RX9 31 "TraceTrees" "machine" "LTraceTrees$Machine;") (List.mem_of_getElem? (i := 1) rfl)) dX9_snapshotFact_28 ?_
        refine gf_X3_2 isM_21 hx hb hts iw_X9_snapshotFact_X3 hown hK hP (hts (.fieldLink RX9 121 "TraceTrees$Machine" "forest" "LTraceTrees$Forest;") (List.mem_of_getElem? (i := 2) rfl)) dX9_snapshotFact_31 ?_
        refine gf_X2_0 isM_21 hx hb hts iw_X9_snapshotFact_X2 hown hK hP (hts (.fieldLink RX9 185 "TraceTrees$Forest" "traces" "[LTraceTrees$Trace;") (List.mem_of_getElem? (i := 7) rfl)) dX9_snapshotFact_34 ?_
        refine lv_iload_n hx hb dX9_snapshotFact_37 rfl (lv_at hl 1 rfl) ?_
        obtain ⟨hi6, h⟩ := bd_inv h
        refine waldT hx hb hK hP isM_21 hi6 dX9_snapshotFact_38 ?_
        refine lv_astore (lv' := [(4, .ref (ad (21 + 10 + 7 * a1.toNatClampNeg))), (0, .ref (ad 0)), (1, .int a1), (2, .int a2), (3, .int a3)]) hx hb dX9_snapshotFact_39 hl (by decide) rfl (fun ls hl => ?_)
        refine lv_aload_n hx hb dX9_snapshotFact_41 rfl (lv_at hl 1 rfl) ?_
        refine gf_X9_0 hx hb hts iw_X9_snapshotFact_X9 hown hK hP (hts (.fieldLink RX9 10 "TraceTrees" "program" "LTraceTrees$Program;") (List.mem_of_getElem? (i := 8) rfl)) dX9_snapshotFact_42 ?_
        refine lv_aload hx hb dX9_snapshotFact_45 (lv_at hl 0 rfl) ?_
        refine lv_iload_n hx hb dX9_snapshotFact_47 rfl (lv_at hl 3 rfl) ?_
        obtain ⟨r7, hc7, h⟩ := obd_inv h
        refine wcalli (S := Unit) (va_runS (As := [.ref (ad 1), .ref (ad (21 + 10 + 7 * a1.toNatClampNeg)), .int a2]) (rest := []) ⟨hx, hb, hml, hown, hts⟩ (c_X7_writtenAhead l dC dI cI cT cS H.size ad (21 + 10 + 7 * a1.toNatClampNeg) (isTr_M isM_21 hi6) a2 σ _ hc7) (va_cwS 3 hts (gWS (List.mem_of_getElem? (i := 9) rfl) (List.mem_of_getElem? (i := 10) rfl) (List.mem_of_getElem? (i := 11) rfl) ic_X9_snapshotFact_c_X7_writtenAhead gd_c_X7_writtenAhead) rfl rfl rfl (by decide +kernel) ⟨(Nat.le_of_ble_eq_true rfl), (Nat.le_of_ble_eq_true rfl)⟩) (gpS hP hK hD) rfl rfl hl.1 rfl (lv_room (Nat.le_of_ble_eq_true rfl)) dX9_snapshotFact_48 ⟨(Nat.le_of_ble_eq_true rfl), (Nat.le_of_ble_eq_true rfl)⟩) hP hD hS hA (fun rr8 _ H locs hr8 hP hD hS => ?_)
        refine lv_nm (y := r7) hr8 ?_
        refine lv_istore (lv' := [(5, .int r7), (4, .ref (ad (21 + 10 + 7 * a1.toNatClampNeg))), (0, .ref (ad 0)), (1, .int a1), (2, .int a2), (3, .int a3)]) hx hb dX9_snapshotFact_51 hl (by decide) rfl (fun ls hl => ?_)
        refine lv_iload_n hx hb dX9_snapshotFact_53 rfl (lv_at hl 5 rfl) ?_
        refine lv_if_ne (tgt := 62) hx hb dX9_snapshotFact_54 (by decide) (fun c9 => ?_) (fun c9 => ?_)
        · replace h := ifn (c9) h
          refine lv_iload hx hb dX9_snapshotFact_62 (lv_at hl 0 rfl) ?_
          refine lv_aload_n hx hb dX9_snapshotFact_64 rfl (lv_at hl 2 rfl) ?_
          refine gf_X9_0 hx hb hts iw_X9_snapshotFact_X9 hown hK hP (hts (.fieldLink RX9 10 "TraceTrees" "program" "LTraceTrees$Program;") (List.mem_of_getElem? (i := 8) rfl)) dX9_snapshotFact_65 ?_
          refine lv_aload hx hb dX9_snapshotFact_68 (lv_at hl 1 rfl) ?_
          refine lv_iload_n hx hb dX9_snapshotFact_70 rfl (lv_at hl 4 rfl) ?_
          refine lv_iconst (v := 1) hx hb dX9_snapshotFact_71 (by decide) ?_
          refine lv_isub hx hb dX9_snapshotFact_72 ?_
          obtain ⟨r10, hc10, h⟩ := obd_inv h
          refine wcalli (S := Unit) (va_runS (As := [.ref (ad 1), .ref (ad (21 + 10 + 7 * a1.toNatClampNeg)), .int (a2 - (1 : Int32))]) (rest := [.int r7]) ⟨hx, hb, hml, hown, hts⟩ (c_X7_writtenAhead l dC dI cI cT cS H.size ad (21 + 10 + 7 * a1.toNatClampNeg) (isTr_M isM_21 hi6) (a2 - (1 : Int32)) σ _ hc10) (va_cwS 3 hts (gWS (List.mem_of_getElem? (i := 9) rfl) (List.mem_of_getElem? (i := 10) rfl) (List.mem_of_getElem? (i := 11) rfl) ic_X9_snapshotFact_c_X7_writtenAhead gd_c_X7_writtenAhead) rfl rfl rfl (by decide +kernel) ⟨(Nat.le_of_ble_eq_true rfl), (Nat.le_of_ble_eq_true rfl)⟩) (gpS hP hK hD) rfl rfl hl.1 rfl (lv_room (Nat.le_of_ble_eq_true rfl)) dX9_snapshotFact_73 ⟨(Nat.le_of_ble_eq_true rfl), (Nat.le_of_ble_eq_true rfl)⟩) hP hD hS hA (fun rr11 _ H locs hr11 hP hD hS => ?_)
          refine lv_nm (y := r10) hr11 ?_
          refine lv_iconst (v := (-1)) hx hb dX9_snapshotFact_76 (by decide) ?_
          refine lv_ixor hx hb dX9_snapshotFact_77 ?_
          refine lv_iand hx hb dX9_snapshotFact_78 ?_
          exact J79 (r7 &&& (r10 ^^^ (-1 : Int32))) H locs ls h hP hD hS (lv_sub (l' := []) hl [] rfl)
        · replace h := ifp (c9) h
          refine lv_iload hx hb dX9_snapshotFact_57 (lv_at hl 0 rfl) ?_
          refine lv_goto (tgt := 79) hx hb dX9_snapshotFact_59 (by decide) ?_
          exact J79 r7 H locs ls h hP hD hS (lv_sub (l' := []) hl [] rfl)
      · replace h := ifn (c5) h
        exact J24  H locs ls h hP hD hS (lv_sub (l' := []) hl [] rfl)
def zf_X9_snapshot (a1 : Int32) (a2 : Int32) (a3 : Int32) (σ : Sg) : Option (Int32 × Sg) := obd (zf_X9_refreshRun σ) (fun σ1 => obd (zf_X9_snapshotFact a1 a2 a3 σ1) (fun r3 => some (r3, σ1)))
def oc_X9_snapshot : List Cond := [.methodLink RX9 106 yX9_refreshRun, .instanceMethod yX9_refreshRun, .selects RX9 yX9_refreshRun yX9_refreshRun, .initialized RX9, .methodLink RX9 140 yX9_snapshotFact, .instanceMethod yX9_snapshotFact, .selects RX9 yX9_snapshotFact yX9_snapshotFact]
def vc_X9_snapshot : List Cond := .code yX9_snapshot cX9_snapshot 4 (some .int) :: (oc_X9_snapshot ++ (vc_X9_refreshRun ++ (vc_X9_snapshotFact)))
theorem ic_X9_snapshot_c_X9_refreshRun : ∀ w ∈ vc_X9_refreshRun, w ∈ vc_X9_snapshot := fun _ h => List.mem_cons_of_mem _ (List.mem_append_right _ (List.mem_append_left _ h))
theorem ic_X9_snapshot_c_X9_snapshotFact : ∀ w ∈ vc_X9_snapshotFact, w ∈ vc_X9_snapshot := fun _ h => List.mem_cons_of_mem _ (List.mem_append_right _ (List.mem_append_right _ (h)))
theorem gd_c_X9_snapshot : (vc_X9_snapshot).all goodWord = true := gall_cons rfl (gall_app (by decide +kernel) (gall_app gd_c_X9_refreshRun gd_c_X9_snapshotFact))
set_option maxHeartbeats 4000000 in
set_option maxRecDepth 100000 in
theorem c_X9_snapshot (l : Launch) (dC : Nat → ClassId) (dI : Nat → Nat → Nat) (cI cT cS : ClassId) (sz : Nat) (ad : Nat → Nat) (a1 : Int32) (a2 : Int32) (a3 : Int32) (σ : Sg) (o : Int32 × Sg) (h : zf_X9_snapshot a1 a2 a3 σ = some o) : gCI (S := Unit) l yX9_snapshot vc_X9_snapshot { frames := 8, cells := 0, slots := 0, locals := 206 } (dC, dI) (gTY cI cT cS) sz [.ref (ad 0), .int a1, .int a2, .int a3] (Wd 153 (cfC ad cI cT cS) σ) (fun (r : Int32) (_ : Unit) => r = o.1) (fun (_ : Unit) => (Wd 153 (cfC ad cI cT cS) o.2)) 0 0 := by
  refine Met.ofW (cc := cX9_snapshot) (maxL := 4) (ret := (some .int)) (by decide) rfl ?_
  intro p e s m args below meth c s₁ B hml hv
  obtain ⟨rfl, hsz, hP, hK, hD0⟩ := hv
  have hx := B.exec
  have hb := B.bytes
  have hr := B.returns
  have hts := atoms_spec (ws := vc_X9_snapshot) B.pre
  have hown : s.vm.findClass RX9 = some m.cls := findClass_of_methodNamed B.named
  have hlocks := B.notSynchronized
  subst hsz
  have hD := hD0.self (sz := s.heap.size)
  generalize hAe : va_A (Wd 153 (cfC ad cI cT cS) σ) s.heap.size = A at hD ⊢
  have hA : ∀ q : Nat, s.heap.size ≤ q → A q := fun q h => by rw [← hAe]; exact Or.inr h
  clear hAe hD0
  refine gstart (fun H locs hHe hLe => ?_)
  have hS : va_S A s.heap H locs := by rw [← hHe, ← hLe]; exact va_S.rf
  replace hP : va_P (dC, dI) vwCl (Wd 153 (cfC ad cI cT cS) σ) H := by rw [← hHe]; exact hP
  clear hHe hLe
  have hl := lv_entry ([.ref (ad 0), .int a1, .int a2, .int a3]) (n := 4) (Nat.le_of_ble_eq_true rfl)
  rw [lg_entry_eq]
  generalize (lg_sl ([.ref (ad 0), .int a1, .int a2, .int a3]) ++ List.replicate (4 - (lg_sl ([.ref (ad 0), .int a1, .int a2, .int a3])).length) Slot.unset).toArray = ls at hl ⊢
  replace hl : lv_has ls 4 [(0, .ref (ad 0)), (1, .int a1), (2, .int a2), (3, .int a3)] := hl
  unfold zf_X9_snapshot at h
  refine lv_aload_n hx hb dX9_snapshot_0 rfl (lv_at hl 0 rfl) ?_
  obtain ⟨σ1, hc1, h⟩ := obd_inv h
  refine wcallv (S := Unit) (va_runV (As := []) (rest := []) ⟨hx, hb, hml, hown, hts⟩ (c_X9_refreshRun l dC dI cI cT cS H.size ad   σ _ hc1) (cwV 0 hts (gWV (List.mem_of_getElem? (i := 1) rfl) (List.mem_of_getElem? (i := 2) rfl) (List.mem_of_getElem? (i := 3) rfl) (List.mem_of_getElem? (i := 4) rfl) ic_X9_snapshot_c_X9_refreshRun gd_c_X9_refreshRun) rfl rfl rfl (by decide +kernel) ⟨(Nat.le_of_ble_eq_true rfl), (Nat.le_of_ble_eq_true rfl)⟩) (wpV (q := (RX9, TX9, 14)) hP hK hD oX9 rfl) rfl rfl hl.1 rfl (lv_room (Nat.le_of_ble_eq_true rfl)) dX9_snapshot_1 ⟨(Nat.le_of_ble_eq_true rfl), (Nat.le_of_ble_eq_true rfl)⟩) hP hD hS hA (fun _ H locs hr2 hP hD hS => ?_)
  replace hP : va_P (dC, dI) vwCl (Wd 153 (cfC ad cI cT cS) σ1) H := hP
  replace hD : va_D A (Wd 153 (cfC ad cI cT cS) σ1) := hD
  refine lv_aload_n hx hb dX9_snapshot_4 rfl (lv_at hl 0 rfl) ?_
  refine lv_iload_n hx hb dX9_snapshot_5 rfl (lv_at hl 1 rfl) ?_
  refine lv_iload_n hx hb dX9_snapshot_6 rfl (lv_at hl 2 rfl) ?_
  refine lv_iload_n hx hb dX9_snapshot_7 rfl (lv_at hl 3 rfl) ?_
  obtain ⟨r3, hc3, h⟩ := obd_inv h
  refine wcalli (S := Unit) (va_runV (As := [.int a1, .int a2, .int a3]) (rest := []) ⟨hx, hb, hml, hown, hts⟩ (c_X9_snapshotFact l dC dI cI cT cS H.size ad  a1 a2 a3 σ1 _ hc3) (cwV 3 hts (gWV (List.mem_of_getElem? (i := 5) rfl) (List.mem_of_getElem? (i := 6) rfl) (List.mem_of_getElem? (i := 7) rfl) (List.mem_of_getElem? (i := 4) rfl) ic_X9_snapshot_c_X9_snapshotFact gd_c_X9_snapshotFact) rfl rfl rfl (by decide +kernel) ⟨(Nat.le_of_ble_eq_true rfl), (Nat.le_of_ble_eq_true rfl)⟩) (wpV (q := (RX9, TX9, 14)) hP hK hD oX9 rfl) rfl rfl hl.1 rfl (lv_room (Nat.le_of_ble_eq_true rfl)) dX9_snapshot_8 ⟨(Nat.le_of_ble_eq_true rfl), (Nat.le_of_ble_eq_true rfl)⟩) hP hD hS hA (fun rr4 _ H locs hr4 hP hD hS => ?_)
  refine lv_nm (y := r3) hr4 ?_
  have h9 := Option.some.inj h
  exact wreti hx hb hr hlocks hP hD hS (by show _ = _; rw [← h9]; first | done | rfl) (by rw [← h9]) dX9_snapshot_11
def zf_X9_writtenBy (a1 : Int32) (σ : Sg) : Option (Int32) := (if (zf_X2_has 21 a1 σ) = true then bd a1 8 (obd (zf_X7_writtenAhead (21 + 10 + 7 * a1.toNatClampNeg) (σ (21 + 10 + 7 * a1.toNatClampNeg) 10) σ) (fun r4 => some r4)) else some (-2 : Int32))
def oc_X9_writtenBy : List Cond := [.fieldLink RX9 31 "TraceTrees" "machine" "LTraceTrees$Machine;", .fieldLink RX9 121 "TraceTrees$Machine" "forest" "LTraceTrees$Forest;", .methodLink RX9 182 yX2_has, .instanceMethod yX2_has, .selects RX2 yX2_has yX2_has, .initialized RX2, .fieldLink RX9 185 "TraceTrees$Forest" "traces" "[LTraceTrees$Trace;", .fieldLink RX9 10 "TraceTrees" "program" "LTraceTrees$Program;", .fieldLink RX9 189 "TraceTrees$Trace" "size" "I", .methodLink RX9 307 yX7_writtenAhead, .static yX7_writtenAhead, .initialized RX7]
def vc_X9_writtenBy : List Cond := .code yX9_writtenBy cX9_writtenBy 3 (some .int) :: (oc_X9_writtenBy ++ (wsX90 ++ (wsX30 ++ (wsX20 ++ (wsX80 ++ (vc_X2_has ++ (vc_X7_writtenAhead)))))))
theorem iw_X9_writtenBy_X9 : ∀ w ∈ wsX90, w ∈ vc_X9_writtenBy := fun _ h => List.mem_cons_of_mem _ (List.mem_append_right _ (List.mem_append_left _ h))
theorem iw_X9_writtenBy_X3 : ∀ w ∈ wsX30, w ∈ vc_X9_writtenBy := fun _ h => List.mem_cons_of_mem _ (List.mem_append_right _ (List.mem_append_right _ (List.mem_append_left _ h)))
theorem iw_X9_writtenBy_X2 : ∀ w ∈ wsX20, w ∈ vc_X9_writtenBy := fun _ h => List.mem_cons_of_mem _ (List.mem_append_right _ (List.mem_append_right _ (List.mem_append_right _ (List.mem_append_left _ h))))
theorem iw_X9_writtenBy_X8 : ∀ w ∈ wsX80, w ∈ vc_X9_writtenBy := fun _ h => List.mem_cons_of_mem _ (List.mem_append_right _ (List.mem_append_right _ (List.mem_append_right _ (List.mem_append_right _ (List.mem_append_left _ h)))))
theorem ic_X9_writtenBy_c_X2_has : ∀ w ∈ vc_X2_has, w ∈ vc_X9_writtenBy := fun _ h => List.mem_cons_of_mem _ (List.mem_append_right _ (List.mem_append_right _ (List.mem_append_right _ (List.mem_append_right _ (List.mem_append_right _ (List.mem_append_left _ h))))))
theorem ic_X9_writtenBy_c_X7_writtenAhead : ∀ w ∈ vc_X7_writtenAhead, w ∈ vc_X9_writtenBy := fun _ h => List.mem_cons_of_mem _ (List.mem_append_right _ (List.mem_append_right _ (List.mem_append_right _ (List.mem_append_right _ (List.mem_append_right _ (List.mem_append_right _ (h)))))))
theorem gd_c_X9_writtenBy : (vc_X9_writtenBy).all goodWord = true := gall_cons rfl (gall_app (by decide +kernel) (gall_app gw_X9 (gall_app gw_X3 (gall_app gw_X2 (gall_app gw_X8 (gall_app gd_c_X2_has gd_c_X7_writtenAhead))))))
set_option maxHeartbeats 4000000 in
set_option maxRecDepth 100000 in
theorem c_X9_writtenBy (l : Launch) (dC : Nat → ClassId) (dI : Nat → Nat → Nat) (cI cT cS : ClassId) (sz : Nat) (ad : Nat → Nat) (a1 : Int32) (σ : Sg) (o : Int32) (h : zf_X9_writtenBy a1 σ = some o) : gCI (S := Unit) l yX9_writtenBy vc_X9_writtenBy { frames := 4, cells := 0, slots := 0, locals := 88 } (dC, dI) (gTY cI cT cS) sz [.ref (ad 0), .int a1] (Wd 153 (cfC ad cI cT cS) σ) (fun (r : Int32) (_ : Unit) => r = o) (fun (_ : Unit) => (Wd 153 (cfC ad cI cT cS) σ)) 0 0 := by
  refine Met.ofW (cc := cX9_writtenBy) (maxL := 3) (ret := (some .int)) (by decide) rfl ?_
  intro p e s m args below meth c s₁ B hml hv
  obtain ⟨rfl, hsz, hP, hK, hD0⟩ := hv
  have hx := B.exec
  have hb := B.bytes
  have hr := B.returns
  have hts := atoms_spec (ws := vc_X9_writtenBy) B.pre
  have hown : s.vm.findClass RX9 = some m.cls := findClass_of_methodNamed B.named
  have hlocks := B.notSynchronized
  subst hsz
  have hD := hD0.self (sz := s.heap.size)
  generalize hAe : va_A (Wd 153 (cfC ad cI cT cS) σ) s.heap.size = A at hD ⊢
  have hA : ∀ q : Nat, s.heap.size ≤ q → A q := fun q h => by rw [← hAe]; exact Or.inr h
  clear hAe hD0
  refine gstart (fun H locs hHe hLe => ?_)
  have hS : va_S A s.heap H locs := by rw [← hHe, ← hLe]; exact va_S.rf
  replace hP : va_P (dC, dI) vwCl (Wd 153 (cfC ad cI cT cS) σ) H := by rw [← hHe]; exact hP
  clear hHe hLe
  have hl := lv_entry ([.ref (ad 0), .int a1]) (n := 3) (Nat.le_of_ble_eq_true rfl)
  rw [lg_entry_eq]
  generalize (lg_sl ([.ref (ad 0), .int a1]) ++ List.replicate (3 - (lg_sl ([.ref (ad 0), .int a1])).length) Slot.unset).toArray = ls at hl ⊢
  replace hl : lv_has ls 3 [(0, .ref (ad 0)), (1, .int a1)] := hl
  unfold zf_X9_writtenBy at h
  refine lv_aload_n hx hb dX9_writtenBy_0 rfl (lv_at hl 0 rfl) ?_
  refine gf_X9_3 hx hb hts iw_X9_writtenBy_X9 hown hK hP (hts (.fieldLink RX9 31 "TraceTrees" "machine" "LTraceTrees$Machine;") (List.mem_of_getElem? (i := 1) rfl)) dX9_writtenBy_1 ?_
  refine gf_X3_2 isM_21 hx hb hts iw_X9_writtenBy_X3 hown hK hP (hts (.fieldLink RX9 121 "TraceTrees$Machine" "forest" "LTraceTrees$Forest;") (List.mem_of_getElem? (i := 2) rfl)) dX9_writtenBy_4 ?_
  refine lv_iload_n hx hb dX9_writtenBy_7 rfl (lv_at hl 1 rfl) ?_
  refine wcalli (S := Unit) (va_runV (As := [.int a1]) (rest := []) ⟨hx, hb, hml, hown, hts⟩ (c_X2_has l dC dI cI cT cS H.size ad 21 isM_21 a1 σ _ rfl) (cwV 1 hts (gWV (List.mem_of_getElem? (i := 3) rfl) (List.mem_of_getElem? (i := 4) rfl) (List.mem_of_getElem? (i := 5) rfl) (List.mem_of_getElem? (i := 6) rfl) ic_X9_writtenBy_c_X2_has gd_c_X2_has) rfl rfl rfl (by decide +kernel) ⟨(Nat.le_of_ble_eq_true rfl), (Nat.le_of_ble_eq_true rfl)⟩) (wpV (q := (RX2, TX2, 7)) hP hK hD (oX2 isM_21) rfl) rfl rfl hl.1 rfl (lv_room (Nat.le_of_ble_eq_true rfl)) dX9_writtenBy_8 ⟨(Nat.le_of_ble_eq_true rfl), (Nat.le_of_ble_eq_true rfl)⟩) hP hD hS hA (fun rr1 _ H locs hr1 hP hD hS => ?_)
  refine lv_nm (y := b2i (zf_X2_has 21 a1 σ)) hr1 ?_
  refine lv_if_ne (tgt := 17) hx hb dX9_writtenBy_11 (by decide) (fun c2 => ?_) (fun c2 => ?_)
  · replace h := ifp (b2i_1 c2) h
    refine lv_aload_n hx hb dX9_writtenBy_17 rfl (lv_at hl 0 rfl) ?_
    refine gf_X9_3 hx hb hts iw_X9_writtenBy_X9 hown hK hP (hts (.fieldLink RX9 31 "TraceTrees" "machine" "LTraceTrees$Machine;") (List.mem_of_getElem? (i := 1) rfl)) dX9_writtenBy_18 ?_
    refine gf_X3_2 isM_21 hx hb hts iw_X9_writtenBy_X3 hown hK hP (hts (.fieldLink RX9 121 "TraceTrees$Machine" "forest" "LTraceTrees$Forest;") (List.mem_of_getElem? (i := 2) rfl)) dX9_writtenBy_21 ?_
    refine gf_X2_0 isM_21 hx hb hts iw_X9_writtenBy_X2 hown hK hP (hts (.fieldLink RX9 185 "TraceTrees$Forest" "traces" "[LTraceTrees$Trace;") (List.mem_of_getElem? (i := 7) rfl)) dX9_writtenBy_24 ?_
    refine lv_iload_n hx hb dX9_writtenBy_27 rfl (lv_at hl 1 rfl) ?_
    obtain ⟨hi3, h⟩ := bd_inv h
    refine waldT hx hb hK hP isM_21 hi3 dX9_writtenBy_28 ?_
    refine lv_astore_n (lv' := [(2, .ref (ad (21 + 10 + 7 * a1.toNatClampNeg))), (0, .ref (ad 0)), (1, .int a1)]) hx hb dX9_writtenBy_29 rfl hl (by decide) rfl (fun ls hl => ?_)
    refine lv_aload_n hx hb dX9_writtenBy_30 rfl (lv_at hl 1 rfl) ?_
    refine gf_X9_0 hx hb hts iw_X9_writtenBy_X9 hown hK hP (hts (.fieldLink RX9 10 "TraceTrees" "program" "LTraceTrees$Program;") (List.mem_of_getElem? (i := 8) rfl)) dX9_writtenBy_31 ?_
    refine lv_aload_n hx hb dX9_writtenBy_34 rfl (lv_at hl 0 rfl) ?_
    refine lv_aload_n hx hb dX9_writtenBy_35 rfl (lv_at hl 0 rfl) ?_
    refine gf_X8_10 (isTr_M isM_21 hi3) hx hb hts iw_X9_writtenBy_X8 hown hK hP (hts (.fieldLink RX9 189 "TraceTrees$Trace" "size" "I") (List.mem_of_getElem? (i := 9) rfl)) dX9_writtenBy_36 ?_
    obtain ⟨r4, hc4, h⟩ := obd_inv h
    refine wcalli (S := Unit) (va_runS (As := [.ref (ad 1), .ref (ad (21 + 10 + 7 * a1.toNatClampNeg)), .int (σ (21 + 10 + 7 * a1.toNatClampNeg) 10)]) (rest := []) ⟨hx, hb, hml, hown, hts⟩ (c_X7_writtenAhead l dC dI cI cT cS H.size ad (21 + 10 + 7 * a1.toNatClampNeg) (isTr_M isM_21 hi3) (σ (21 + 10 + 7 * a1.toNatClampNeg) 10) σ _ hc4) (va_cwS 3 hts (gWS (List.mem_of_getElem? (i := 10) rfl) (List.mem_of_getElem? (i := 11) rfl) (List.mem_of_getElem? (i := 12) rfl) ic_X9_writtenBy_c_X7_writtenAhead gd_c_X7_writtenAhead) rfl rfl rfl (by decide +kernel) ⟨(Nat.le_of_ble_eq_true rfl), (Nat.le_of_ble_eq_true rfl)⟩) (gpS hP hK hD) rfl rfl hl.1 rfl (lv_room (Nat.le_of_ble_eq_true rfl)) dX9_writtenBy_39 ⟨(Nat.le_of_ble_eq_true rfl), (Nat.le_of_ble_eq_true rfl)⟩) hP hD hS hA (fun rr5 _ H locs hr5 hP hD hS => ?_)
    refine lv_nm (y := r4) hr5 ?_
    have h9 := Option.some.inj h
    exact wreti hx hb hr hlocks hP hD hS (by show _ = _; rw [← h9]; first | done | rfl) rfl dX9_writtenBy_42
  · replace h := ifn (b2i_0 c2) h
    refine lv_bipush (v := (-2)) hx hb dX9_writtenBy_14 (by decide) ?_
    have h9 := Option.some.inj h
    exact wreti hx hb hr hlocks hP hD hS (by show _ = _; rw [← h9]; first | done | rfl) rfl dX9_writtenBy_16
def zf_X9_writes (a1 : Int32) (σ : Sg) : Option (Int32 × Sg) := obd (zf_X9_refreshRun σ) (fun σ1 => obd (zf_X9_writtenBy a1 σ1) (fun r3 => some (r3, σ1)))
def oc_X9_writes : List Cond := [.methodLink RX9 106 yX9_refreshRun, .instanceMethod yX9_refreshRun, .selects RX9 yX9_refreshRun yX9_refreshRun, .initialized RX9, .methodLink RX9 143 yX9_writtenBy, .instanceMethod yX9_writtenBy, .selects RX9 yX9_writtenBy yX9_writtenBy]
def vc_X9_writes : List Cond := .code yX9_writes cX9_writes 2 (some .int) :: (oc_X9_writes ++ (vc_X9_refreshRun ++ (vc_X9_writtenBy)))
theorem ic_X9_writes_c_X9_refreshRun : ∀ w ∈ vc_X9_refreshRun, w ∈ vc_X9_writes := fun _ h => List.mem_cons_of_mem _ (List.mem_append_right _ (List.mem_append_left _ h))
theorem ic_X9_writes_c_X9_writtenBy : ∀ w ∈ vc_X9_writtenBy, w ∈ vc_X9_writes := fun _ h => List.mem_cons_of_mem _ (List.mem_append_right _ (List.mem_append_right _ (h)))
theorem gd_c_X9_writes : (vc_X9_writes).all goodWord = true := gall_cons rfl (gall_app (by decide +kernel) (gall_app gd_c_X9_refreshRun gd_c_X9_writtenBy))
set_option maxHeartbeats 4000000 in
set_option maxRecDepth 100000 in
theorem c_X9_writes (l : Launch) (dC : Nat → ClassId) (dI : Nat → Nat → Nat) (cI cT cS : ClassId) (sz : Nat) (ad : Nat → Nat) (a1 : Int32) (σ : Sg) (o : Int32 × Sg) (h : zf_X9_writes a1 σ = some o) : gCI (S := Unit) l yX9_writes vc_X9_writes { frames := 8, cells := 0, slots := 0, locals := 206 } (dC, dI) (gTY cI cT cS) sz [.ref (ad 0), .int a1] (Wd 153 (cfC ad cI cT cS) σ) (fun (r : Int32) (_ : Unit) => r = o.1) (fun (_ : Unit) => (Wd 153 (cfC ad cI cT cS) o.2)) 0 0 := by
  refine Met.ofW (cc := cX9_writes) (maxL := 2) (ret := (some .int)) (by decide) rfl ?_
  intro p e s m args below meth c s₁ B hml hv
  obtain ⟨rfl, hsz, hP, hK, hD0⟩ := hv
  have hx := B.exec
  have hb := B.bytes
  have hr := B.returns
  have hts := atoms_spec (ws := vc_X9_writes) B.pre
  have hown : s.vm.findClass RX9 = some m.cls := findClass_of_methodNamed B.named
  have hlocks := B.notSynchronized
  subst hsz
  have hD := hD0.self (sz := s.heap.size)
  generalize hAe : va_A (Wd 153 (cfC ad cI cT cS) σ) s.heap.size = A at hD ⊢
  have hA : ∀ q : Nat, s.heap.size ≤ q → A q := fun q h => by rw [← hAe]; exact Or.inr h
  clear hAe hD0
  refine gstart (fun H locs hHe hLe => ?_)
  have hS : va_S A s.heap H locs := by rw [← hHe, ← hLe]; exact va_S.rf
  replace hP : va_P (dC, dI) vwCl (Wd 153 (cfC ad cI cT cS) σ) H := by rw [← hHe]; exact hP
  clear hHe hLe
  have hl := lv_entry ([.ref (ad 0), .int a1]) (n := 2) (Nat.le_of_ble_eq_true rfl)
  rw [lg_entry_eq]
  generalize (lg_sl ([.ref (ad 0), .int a1]) ++ List.replicate (2 - (lg_sl ([.ref (ad 0), .int a1])).length) Slot.unset).toArray = ls at hl ⊢
  replace hl : lv_has ls 2 [(0, .ref (ad 0)), (1, .int a1)] := hl
  unfold zf_X9_writes at h
  refine lv_aload_n hx hb dX9_writes_0 rfl (lv_at hl 0 rfl) ?_
  obtain ⟨σ1, hc1, h⟩ := obd_inv h
  refine wcallv (S := Unit) (va_runV (As := []) (rest := []) ⟨hx, hb, hml, hown, hts⟩ (c_X9_refreshRun l dC dI cI cT cS H.size ad   σ _ hc1) (cwV 0 hts (gWV (List.mem_of_getElem? (i := 1) rfl) (List.mem_of_getElem? (i := 2) rfl) (List.mem_of_getElem? (i := 3) rfl) (List.mem_of_getElem? (i := 4) rfl) ic_X9_writes_c_X9_refreshRun gd_c_X9_refreshRun) rfl rfl rfl (by decide +kernel) ⟨(Nat.le_of_ble_eq_true rfl), (Nat.le_of_ble_eq_true rfl)⟩) (wpV (q := (RX9, TX9, 14)) hP hK hD oX9 rfl) rfl rfl hl.1 rfl (lv_room (Nat.le_of_ble_eq_true rfl)) dX9_writes_1 ⟨(Nat.le_of_ble_eq_true rfl), (Nat.le_of_ble_eq_true rfl)⟩) hP hD hS hA (fun _ H locs hr2 hP hD hS => ?_)
  replace hP : va_P (dC, dI) vwCl (Wd 153 (cfC ad cI cT cS) σ1) H := hP
  replace hD : va_D A (Wd 153 (cfC ad cI cT cS) σ1) := hD
  refine lv_aload_n hx hb dX9_writes_4 rfl (lv_at hl 0 rfl) ?_
  refine lv_iload_n hx hb dX9_writes_5 rfl (lv_at hl 1 rfl) ?_
  obtain ⟨r3, hc3, h⟩ := obd_inv h
  refine wcalli (S := Unit) (va_runV (As := [.int a1]) (rest := []) ⟨hx, hb, hml, hown, hts⟩ (c_X9_writtenBy l dC dI cI cT cS H.size ad  a1 σ1 _ hc3) (cwV 1 hts (gWV (List.mem_of_getElem? (i := 5) rfl) (List.mem_of_getElem? (i := 6) rfl) (List.mem_of_getElem? (i := 7) rfl) (List.mem_of_getElem? (i := 4) rfl) ic_X9_writes_c_X9_writtenBy gd_c_X9_writtenBy) rfl rfl rfl (by decide +kernel) ⟨(Nat.le_of_ble_eq_true rfl), (Nat.le_of_ble_eq_true rfl)⟩) (wpV (q := (RX9, TX9, 14)) hP hK hD oX9 rfl) rfl rfl hl.1 rfl (lv_room (Nat.le_of_ble_eq_true rfl)) dX9_writes_6 ⟨(Nat.le_of_ble_eq_true rfl), (Nat.le_of_ble_eq_true rfl)⟩) hP hD hS hA (fun rr4 _ H locs hr4 hP hD hS => ?_)
  refine lv_nm (y := r3) hr4 ?_
  have h9 := Option.some.inj h
  exact wreti hx hb hr hlocks hP hD hS (by show _ = _; rw [← h9]; first | done | rfl) (by rw [← h9]) dX9_writes_9
def zf_X9_betterFact (a1 : Int32) (σ : Sg) : Int32 := (if a1 = 0 then (σ 0 12) else (if a1 = 1 then (σ 0 13) else (-2 : Int32)))
def oc_X9_betterFact : List Cond := [.fieldLink RX9 236 "TraceTrees" "betterHot" "I", .fieldLink RX9 239 "TraceTrees" "betterCompiled" "I"]
def vc_X9_betterFact : List Cond := .code yX9_betterFact cX9_betterFact 2 (some .int) :: (oc_X9_betterFact ++ (wsX90))
theorem iw_X9_betterFact_X9 : ∀ w ∈ wsX90, w ∈ vc_X9_betterFact := fun _ h => List.mem_cons_of_mem _ (List.mem_append_right _ (h))
theorem gd_c_X9_betterFact : (vc_X9_betterFact).all goodWord = true := gall_cons rfl (gall_app (by decide +kernel) gw_X9)
set_option maxHeartbeats 4000000 in
set_option maxRecDepth 100000 in
theorem c_X9_betterFact (l : Launch) (dC : Nat → ClassId) (dI : Nat → Nat → Nat) (cI cT cS : ClassId) (sz : Nat) (ad : Nat → Nat) (a1 : Int32) (σ : Sg) (o : Int32) (h : zf_X9_betterFact a1 σ = o) : gCI (S := Unit) l yX9_betterFact vc_X9_betterFact { frames := 0, cells := 0, slots := 0, locals := 0 } (dC, dI) (gTY cI cT cS) sz [.ref (ad 0), .int a1] (Wd 153 (cfC ad cI cT cS) σ) (fun (r : Int32) (_ : Unit) => r = o) (fun (_ : Unit) => (Wd 153 (cfC ad cI cT cS) σ)) 0 0 := by
  refine Met.ofW (cc := cX9_betterFact) (maxL := 2) (ret := (some .int)) (by decide) rfl ?_
  intro p e s m args below meth c s₁ B hml hv
  obtain ⟨rfl, hsz, hP, hK, hD0⟩ := hv
  have hx := B.exec
  have hb := B.bytes
  have hr := B.returns
  have hts := atoms_spec (ws := vc_X9_betterFact) B.pre
  have hown : s.vm.findClass RX9 = some m.cls := findClass_of_methodNamed B.named
  have hlocks := B.notSynchronized
  subst hsz
  have hD := hD0.self (sz := s.heap.size)
  generalize hAe : va_A (Wd 153 (cfC ad cI cT cS) σ) s.heap.size = A at hD ⊢
  have hA : ∀ q : Nat, s.heap.size ≤ q → A q := fun q h => by rw [← hAe]; exact Or.inr h
  clear hAe hD0
  refine gstart (fun H locs hHe hLe => ?_)
  have hS : va_S A s.heap H locs := by rw [← hHe, ← hLe]; exact va_S.rf
  replace hP : va_P (dC, dI) vwCl (Wd 153 (cfC ad cI cT cS) σ) H := by rw [← hHe]; exact hP
  clear hHe hLe
  have hl := lv_entry ([.ref (ad 0), .int a1]) (n := 2) (Nat.le_of_ble_eq_true rfl)
  rw [lg_entry_eq]
  generalize (lg_sl ([.ref (ad 0), .int a1]) ++ List.replicate (2 - (lg_sl ([.ref (ad 0), .int a1])).length) Slot.unset).toArray = ls at hl ⊢
  replace hl : lv_has ls 2 [(0, .ref (ad 0)), (1, .int a1)] := hl
  unfold zf_X9_betterFact at h
  refine lv_iload_n hx hb dX9_betterFact_0 rfl (lv_at hl 1 rfl) ?_
  by_cases c1 : a1 = 0
  · replace h := ifp c1 h
    refine lv_lookup (off := 27) (tgt := 28) hx hb dX9_betterFact_1 (by decide) (by rw [c1]; decide) (by decide) ?_
    refine lv_aload_n hx hb dX9_betterFact_28 rfl (lv_at hl 0 rfl) ?_
    refine gf_X9_12 hx hb hts iw_X9_betterFact_X9 hown hK hP (hts (.fieldLink RX9 236 "TraceTrees" "betterHot" "I") (List.mem_of_getElem? (i := 1) rfl)) dX9_betterFact_29 ?_
    have h9 := h
    exact wreti hx hb hr hlocks hP hD hS (by show _ = _; rw [← h9]; first | done | rfl) rfl dX9_betterFact_32
  replace h := ifn c1 h
  by_cases c2 : a1 = 1
  · replace h := ifp c2 h
    refine lv_lookup (off := 32) (tgt := 33) hx hb dX9_betterFact_1 (by decide) (by rw [c2]; decide) (by decide) ?_
    refine lv_aload_n hx hb dX9_betterFact_33 rfl (lv_at hl 0 rfl) ?_
    refine gf_X9_13 hx hb hts iw_X9_betterFact_X9 hown hK hP (hts (.fieldLink RX9 239 "TraceTrees" "betterCompiled" "I") (List.mem_of_getElem? (i := 2) rfl)) dX9_betterFact_34 ?_
    have h9 := h
    exact wreti hx hb hr hlocks hP hD hS (by show _ = _; rw [← h9]; first | done | rfl) rfl dX9_betterFact_37
  replace h := ifn c2 h
  refine lv_lookup (off := 37) (tgt := 38) hx hb dX9_betterFact_1 (by decide) (by show Op.lookupswitch.offset [(0, 27), (1, 32)] 37 _ = _; rw [lv_osw c1 (by decide), lv_osw c2 (by decide)]; rfl) (by decide) ?_
  refine lv_bipush (v := (-2)) hx hb dX9_betterFact_38 (by decide) ?_
  have h9 := h
  exact wreti hx hb hr hlocks hP hD hS (by show _ = _; rw [← h9]; first | done | rfl) rfl dX9_betterFact_40
def zb_X9_refreshBetter_72 (x20 : Int32 × Sg) (σb72 : Sg) : Option (Bool × (Int32 × Sg)) := some (true, ((x20.1 + (1 : Int32)), σb72))
def zl_X9_refreshBetter_20  (x20 : Int32 × Sg) : Option (Bool × (Int32 × Sg)) := (if (9 : Int32) < x20.1 then some (false, (x20.1, x20.2)) else obd (zf_X3_go 87 6 (x20.2 0 6) x20.1 x20.2) (fun σ3 => (if (σ3 87 8) ≤ (σ3 0 13) then (zb_X9_refreshBetter_72 x20 σ3) else (zb_X9_refreshBetter_72 x20 (su (su σ3 0 12 x20.1) 0 13 (σ3 87 8))))))
def zf_X9_refreshBetter (σ : Sg) : Option (Sg) := (if (σ 0 11) = 0 then obd (lp (X := Int32 × Sg) zl_X9_refreshBetter_20 1000 ((2 : Int32), su (su σ 0 12 (2 : Int32)) 0 13 (0 : Int32))) (fun y20 => some (su y20.2 0 11 (1 : Int32))) else some σ)
def oc_X9_refreshBetter : List Cond := [.fieldLink RX9 224 "TraceTrees" "betterIsFresh" "Z", .fieldLink RX9 236 "TraceTrees" "betterHot" "I", .fieldLink RX9 239 "TraceTrees" "betterCompiled" "I", .fieldLink RX9 35 "TraceTrees" "trial" "LTraceTrees$Machine;", .fieldLink RX9 19 "TraceTrees" "loaded" "LTraceTrees$Registers;", .fieldLink RX9 45 "TraceTrees" "limit" "I", .methodLink RX9 227 yX3_go, .instanceMethod yX3_go, .selects RX3 yX3_go yX3_go, .initialized RX3, .fieldLink RX9 242 "TraceTrees$Machine" "compiled" "I"]
def vc_X9_refreshBetter : List Cond := .code yX9_refreshBetter cX9_refreshBetter 2 none :: (oc_X9_refreshBetter ++ (wsX90 ++ (wsX30 ++ (vc_X3_go))))
theorem iw_X9_refreshBetter_X9 : ∀ w ∈ wsX90, w ∈ vc_X9_refreshBetter := fun _ h => List.mem_cons_of_mem _ (List.mem_append_right _ (List.mem_append_left _ h))
theorem iw_X9_refreshBetter_X3 : ∀ w ∈ wsX30, w ∈ vc_X9_refreshBetter := fun _ h => List.mem_cons_of_mem _ (List.mem_append_right _ (List.mem_append_right _ (List.mem_append_left _ h)))
theorem ic_X9_refreshBetter_c_X3_go : ∀ w ∈ vc_X3_go, w ∈ vc_X9_refreshBetter := fun _ h => List.mem_cons_of_mem _ (List.mem_append_right _ (List.mem_append_right _ (List.mem_append_right _ (h))))
theorem gd_c_X9_refreshBetter : (vc_X9_refreshBetter).all goodWord = true := gall_cons rfl (gall_app (by decide +kernel) (gall_app gw_X9 (gall_app gw_X3 gd_c_X3_go)))
set_option maxHeartbeats 4000000 in
set_option maxRecDepth 100000 in
theorem c_X9_refreshBetter (l : Launch) (dC : Nat → ClassId) (dI : Nat → Nat → Nat) (cI cT cS : ClassId) (sz : Nat) (ad : Nat → Nat) (σ : Sg) (o : Sg) (h : zf_X9_refreshBetter σ = some o) : gCV (S := Unit) l yX9_refreshBetter vc_X9_refreshBetter { frames := 7, cells := 0, slots := 0, locals := 186 } (dC, dI) (gTY cI cT cS) sz [.ref (ad 0)] (Wd 153 (cfC ad cI cT cS) σ) (fun (_ : Unit) => True) (fun (_ : Unit) => (Wd 153 (cfC ad cI cT cS) o)) 0 0 := by
  refine Met.ofW (cc := cX9_refreshBetter) (maxL := 2) (ret := none) (by decide) rfl ?_
  intro p e s m args below meth c s₁ B hml hv
  obtain ⟨rfl, hsz, hP, hK, hD0⟩ := hv
  have hx := B.exec
  have hb := B.bytes
  have hr := B.returns
  have hts := atoms_spec (ws := vc_X9_refreshBetter) B.pre
  have hown : s.vm.findClass RX9 = some m.cls := findClass_of_methodNamed B.named
  have hlocks := B.notSynchronized
  subst hsz
  have hD := hD0.self (sz := s.heap.size)
  generalize hAe : va_A (Wd 153 (cfC ad cI cT cS) σ) s.heap.size = A at hD ⊢
  have hA : ∀ q : Nat, s.heap.size ≤ q → A q := fun q h => by rw [← hAe]; exact Or.inr h
  clear hAe hD0
  refine gstart (fun H locs hHe hLe => ?_)
  have hS : va_S A s.heap H locs := by rw [← hHe, ← hLe]; exact va_S.rf
  replace hP : va_P (dC, dI) vwCl (Wd 153 (cfC ad cI cT cS) σ) H := by rw [← hHe]; exact hP
  clear hHe hLe
  have hl := lv_entry ([.ref (ad 0)]) (n := 2) (Nat.le_of_ble_eq_true rfl)
  rw [lg_entry_eq]
  generalize (lg_sl ([.ref (ad 0)]) ++ List.replicate (2 - (lg_sl ([.ref (ad 0)])).length) Slot.unset).toArray = ls at hl ⊢
  replace hl : lv_has ls 2 [(0, .ref (ad 0))] := hl
  unfold zf_X9_refreshBetter at h
  refine lv_aload_n hx hb dX9_refreshBetter_0 rfl (lv_at hl 0 rfl) ?_
  refine gf_X9_11 hx hb hts iw_X9_refreshBetter_X9 hown hK hP (hts (.fieldLink RX9 224 "TraceTrees" "betterIsFresh" "Z") (List.mem_of_getElem? (i := 1) rfl)) dX9_refreshBetter_1 ?_
  refine lv_if_eq (tgt := 8) hx hb dX9_refreshBetter_4 (by decide) (fun c1 => ?_) (fun c1 => ?_)
  · replace h := ifp (c1) h
    refine lv_aload_n hx hb dX9_refreshBetter_8 rfl (lv_at hl 0 rfl) ?_
    refine lv_iconst (v := 2) hx hb dX9_refreshBetter_9 (by decide) ?_
    refine pf_X9_12 hx hb hts iw_X9_refreshBetter_X9 hown hK hP hD hS (hts (.fieldLink RX9 236 "TraceTrees" "betterHot" "I") (List.mem_of_getElem? (i := 2) rfl)) dX9_refreshBetter_10 (fun H locs hP hD hS => ?_)
    refine lv_aload_n hx hb dX9_refreshBetter_13 rfl (lv_at hl 0 rfl) ?_
    refine lv_iconst (v := 0) hx hb dX9_refreshBetter_14 (by decide) ?_
    refine pf_X9_13 hx hb hts iw_X9_refreshBetter_X9 hown hK hP hD hS (hts (.fieldLink RX9 239 "TraceTrees" "betterCompiled" "I") (List.mem_of_getElem? (i := 3) rfl)) dX9_refreshBetter_15 (fun H locs hP hD hS => ?_)
    refine lv_iconst (v := 2) hx hb dX9_refreshBetter_18 (by decide) ?_
    refine lv_istore_n (lv' := [(1, .int (2 : Int32)), (0, .ref (ad 0))]) hx hb dX9_refreshBetter_19 rfl hl (by decide) rfl (fun ls hl => ?_)
    obtain ⟨y20, hlp20, h⟩ := obd_inv h
    refine lp_W (fun x20 : Int32 × Sg => ∀ (H : Heap) (locs : List Loc) (ls : Array Slot), va_P (dC, dI) vwCl (Wd 153 (cfC ad cI cT cS) x20.2) H → va_D A (Wd 153 (cfC ad cI cT cS) x20.2) → va_S A s.heap H locs → lv_has ls 2 [(1, .int x20.1), (0, .ref (ad 0))] → W p l e (headSpec vc_X9_refreshBetter { frames := 7, cells := 0, slots := 0, locals := 186 }).room s m (List.toArray (α := Value) [.ref (ad 0)]) below meth c H locs 0 0 (MQ below (va_Qv (fun (_ : Unit) => True) (gB (dC, dI) A (fun (_ : Unit) => (Wd 153 (cfC ad cI cT cS) o))) A) (List.toArray (α := Value) [.ref (ad 0)]) s 0 0 A) (F0 m 20 ls [])) (fun y20 : Int32 × Sg => ∀ (H : Heap) (locs : List Loc) (ls : Array Slot), va_P (dC, dI) vwCl (Wd 153 (cfC ad cI cT cS) y20.2) H → va_D A (Wd 153 (cfC ad cI cT cS) y20.2) → va_S A s.heap H locs → lv_has ls 2 [(0, .ref (ad 0))] → W p l e (headSpec vc_X9_refreshBetter { frames := 7, cells := 0, slots := 0, locals := 186 }).room s m (List.toArray (α := Value) [.ref (ad 0)]) below meth c H locs 0 0 (MQ below (va_Qv (fun (_ : Unit) => True) (gB (dC, dI) A (fun (_ : Unit) => (Wd 153 (cfC ad cI cT cS) o))) A) (List.toArray (α := Value) [.ref (ad 0)]) s 0 0 A) (F0 m 78 ls [])) ?_ 1000 ((2 : Int32), su (su σ 0 12 (2 : Int32)) 0 13 (0 : Int32)) y20 hlp20 ?_ H locs ls hP hD hS (lv_sub (l' := [(1, .int (2 : Int32)), (0, .ref (ad 0))]) hl [0, 1] rfl)
    · intro x20 yy20 h ht20 hf20 H locs ls hP hD hS hl
      unfold zl_X9_refreshBetter_20 at h
      have J72 : ∀ (σb72 : Sg) (H : Heap) (locs : List Loc) (ls : Array Slot), zb_X9_refreshBetter_72 x20 σb72 = some yy20 → va_P (dC, dI) vwCl (Wd 153 (cfC ad cI cT cS) σb72) H → va_D A (Wd 153 (cfC ad cI cT cS) σb72) → va_S A s.heap H locs → lv_has ls 2 [(1, .int x20.1), (0, .ref (ad 0))] → W p l e (headSpec vc_X9_refreshBetter { frames := 7, cells := 0, slots := 0, locals := 186 }).room s m (List.toArray (α := Value) [.ref (ad 0)]) below meth c H locs 0 0 (MQ below (va_Qv (fun (_ : Unit) => True) (gB (dC, dI) A (fun (_ : Unit) => (Wd 153 (cfC ad cI cT cS) o))) A) (List.toArray (α := Value) [.ref (ad 0)]) s 0 0 A) (F0 m 72 ls []) := by
        intro σb72 H locs ls h hP hD hS hl
        unfold zb_X9_refreshBetter_72 at h
        refine lv_iinc (v := (x20.1 + (1 : Int32))) (lv' := [(1, .int (x20.1 + (1 : Int32))), (0, .ref (ad 0))]) hx hb dX9_refreshBetter_72 hl (k := 0) rfl rfl (by decide) rfl (fun ls hl => ?_)
        refine lv_goto (tgt := 20) hx hb dX9_refreshBetter_75 (by decide) ?_
        obtain rfl := Option.some.inj h
        exact ht20 rfl H locs ls hP hD hS (lv_sub (l' := [(1, .int (x20.1 + (1 : Int32))), (0, .ref (ad 0))]) hl [0, 1] rfl)
      refine lv_iload_n hx hb dX9_refreshBetter_20 rfl (lv_at hl 0 rfl) ?_
      refine lv_bipush (v := 9) hx hb dX9_refreshBetter_21 (by decide) ?_
      refine lv_icmp_gt (tgt := 78) hx hb dX9_refreshBetter_23 (by decide) (fun c2 => ?_) (fun c2 => ?_)
      · replace h := ifp (c2) h
        obtain rfl := Option.some.inj h
        exact hf20 rfl H locs ls hP hD hS (lv_sub (l' := [(0, .ref (ad 0))]) hl [1] rfl)
      · replace h := ifn (c2) h
        refine lv_aload_n hx hb dX9_refreshBetter_26 rfl (lv_at hl 1 rfl) ?_
        refine gf_X9_4 hx hb hts iw_X9_refreshBetter_X9 hown hK hP (hts (.fieldLink RX9 35 "TraceTrees" "trial" "LTraceTrees$Machine;") (List.mem_of_getElem? (i := 4) rfl)) dX9_refreshBetter_27 ?_
        refine lv_aload_n hx hb dX9_refreshBetter_30 rfl (lv_at hl 1 rfl) ?_
        refine gf_X9_1 hx hb hts iw_X9_refreshBetter_X9 hown hK hP (hts (.fieldLink RX9 19 "TraceTrees" "loaded" "LTraceTrees$Registers;") (List.mem_of_getElem? (i := 5) rfl)) dX9_refreshBetter_31 ?_
        refine lv_aload_n hx hb dX9_refreshBetter_34 rfl (lv_at hl 1 rfl) ?_
        refine gf_X9_6 hx hb hts iw_X9_refreshBetter_X9 hown hK hP (hts (.fieldLink RX9 45 "TraceTrees" "limit" "I") (List.mem_of_getElem? (i := 6) rfl)) dX9_refreshBetter_35 ?_
        refine lv_iload_n hx hb dX9_refreshBetter_38 rfl (lv_at hl 0 rfl) ?_
        obtain ⟨σ3, hc3, h⟩ := obd_inv h
        refine wcallv (S := Unit) (va_runV (As := [.ref (ad 6), .int (x20.2 0 6), .int x20.1]) (rest := []) ⟨hx, hb, hml, hown, hts⟩ (c_X3_go l dC dI cI cT cS H.size ad 87 isM_87 6 isRg_6 (x20.2 0 6) x20.1 x20.2 _ hc3) (cwV 3 hts (gWV (List.mem_of_getElem? (i := 7) rfl) (List.mem_of_getElem? (i := 8) rfl) (List.mem_of_getElem? (i := 9) rfl) (List.mem_of_getElem? (i := 10) rfl) ic_X9_refreshBetter_c_X3_go gd_c_X3_go) rfl rfl rfl (by decide +kernel) ⟨(Nat.le_of_ble_eq_true rfl), (Nat.le_of_ble_eq_true rfl)⟩) (wpV (q := (RX3, TX3, 12)) hP hK hD (oX3 isM_87) rfl) rfl rfl hl.1 rfl (lv_room (Nat.le_of_ble_eq_true rfl)) dX9_refreshBetter_39 ⟨(Nat.le_of_ble_eq_true rfl), (Nat.le_of_ble_eq_true rfl)⟩) hP hD hS hA (fun _ H locs hr4 hP hD hS => ?_)
        replace hP : va_P (dC, dI) vwCl (Wd 153 (cfC ad cI cT cS) σ3) H := hP
        replace hD : va_D A (Wd 153 (cfC ad cI cT cS) σ3) := hD
        refine lv_aload_n hx hb dX9_refreshBetter_42 rfl (lv_at hl 1 rfl) ?_
        refine gf_X9_4 hx hb hts iw_X9_refreshBetter_X9 hown hK hP (hts (.fieldLink RX9 35 "TraceTrees" "trial" "LTraceTrees$Machine;") (List.mem_of_getElem? (i := 4) rfl)) dX9_refreshBetter_43 ?_
        refine gf_X3_8 isM_87 hx hb hts iw_X9_refreshBetter_X3 hown hK hP (hts (.fieldLink RX9 242 "TraceTrees$Machine" "compiled" "I") (List.mem_of_getElem? (i := 11) rfl)) dX9_refreshBetter_46 ?_
        refine lv_aload_n hx hb dX9_refreshBetter_49 rfl (lv_at hl 1 rfl) ?_
        refine gf_X9_13 hx hb hts iw_X9_refreshBetter_X9 hown hK hP (hts (.fieldLink RX9 239 "TraceTrees" "betterCompiled" "I") (List.mem_of_getElem? (i := 3) rfl)) dX9_refreshBetter_50 ?_
        refine lv_icmp_le (tgt := 72) hx hb dX9_refreshBetter_53 (by decide) (fun c5 => ?_) (fun c5 => ?_)
        · replace h := ifp (c5) h
          exact J72 σ3 H locs ls h hP hD hS (lv_sub (l' := [(1, .int x20.1), (0, .ref (ad 0))]) hl [0, 1] rfl)
        · replace h := ifn (c5) h
          refine lv_aload_n hx hb dX9_refreshBetter_56 rfl (lv_at hl 1 rfl) ?_
          refine lv_iload_n hx hb dX9_refreshBetter_57 rfl (lv_at hl 0 rfl) ?_
          refine pf_X9_12 hx hb hts iw_X9_refreshBetter_X9 hown hK hP hD hS (hts (.fieldLink RX9 236 "TraceTrees" "betterHot" "I") (List.mem_of_getElem? (i := 2) rfl)) dX9_refreshBetter_58 (fun H locs hP hD hS => ?_)
          refine lv_aload_n hx hb dX9_refreshBetter_61 rfl (lv_at hl 1 rfl) ?_
          refine lv_aload_n hx hb dX9_refreshBetter_62 rfl (lv_at hl 1 rfl) ?_
          refine gf_X9_4 hx hb hts iw_X9_refreshBetter_X9 hown hK hP (hts (.fieldLink RX9 35 "TraceTrees" "trial" "LTraceTrees$Machine;") (List.mem_of_getElem? (i := 4) rfl)) dX9_refreshBetter_63 ?_
          refine gf_X3_8 isM_87 hx hb hts iw_X9_refreshBetter_X3 hown hK hP (hts (.fieldLink RX9 242 "TraceTrees$Machine" "compiled" "I") (List.mem_of_getElem? (i := 11) rfl)) dX9_refreshBetter_66 ?_
          refine lv_nm (y := (σ3 87 8)) (su_rd (by decide) rfl) ?_
          refine pf_X9_13 hx hb hts iw_X9_refreshBetter_X9 hown hK hP hD hS (hts (.fieldLink RX9 239 "TraceTrees" "betterCompiled" "I") (List.mem_of_getElem? (i := 3) rfl)) dX9_refreshBetter_69 (fun H locs hP hD hS => ?_)
          exact J72 (su (su σ3 0 12 x20.1) 0 13 (σ3 87 8)) H locs ls h hP hD hS (lv_sub (l' := [(1, .int x20.1), (0, .ref (ad 0))]) hl [0, 1] rfl)
    · intro H locs ls hP hD hS hl
      refine lv_aload_n hx hb dX9_refreshBetter_78 rfl (lv_at hl 0 rfl) ?_
      refine lv_iconst (v := 1) hx hb dX9_refreshBetter_79 (by decide) ?_
      refine pf_X9_11 (Or.inr rfl) hx hb hts iw_X9_refreshBetter_X9 hown hK hP hD hS (hts (.fieldLink RX9 224 "TraceTrees" "betterIsFresh" "Z") (List.mem_of_getElem? (i := 1) rfl)) dX9_refreshBetter_80 (fun H locs hP hD hS => ?_)
      have h9 := Option.some.inj h
      exact wretv hx hb hr hlocks hP hD hS trivial (by rw [← h9]) dX9_refreshBetter_83
  · replace h := ifn (c1) h
    have h9 := Option.some.inj h
    exact wretv hx hb hr hlocks hP hD hS trivial (by rw [← h9]) dX9_refreshBetter_7
def zf_X9_better (a1 : Int32) (σ : Sg) : Option (Int32 × Sg) := obd (zf_X9_refreshBetter σ) (fun σ1 => some ((zf_X9_betterFact a1 σ1), σ1))
def oc_X9_better : List Cond := [.methodLink RX9 146 yX9_refreshBetter, .instanceMethod yX9_refreshBetter, .selects RX9 yX9_refreshBetter yX9_refreshBetter, .initialized RX9, .methodLink RX9 149 yX9_betterFact, .instanceMethod yX9_betterFact, .selects RX9 yX9_betterFact yX9_betterFact]
def vc_X9_better : List Cond := .code yX9_better cX9_better 2 (some .int) :: (oc_X9_better ++ (vc_X9_refreshBetter ++ (vc_X9_betterFact)))
theorem ic_X9_better_c_X9_refreshBetter : ∀ w ∈ vc_X9_refreshBetter, w ∈ vc_X9_better := fun _ h => List.mem_cons_of_mem _ (List.mem_append_right _ (List.mem_append_left _ h))
theorem ic_X9_better_c_X9_betterFact : ∀ w ∈ vc_X9_betterFact, w ∈ vc_X9_better := fun _ h => List.mem_cons_of_mem _ (List.mem_append_right _ (List.mem_append_right _ (h)))
theorem gd_c_X9_better : (vc_X9_better).all goodWord = true := gall_cons rfl (gall_app (by decide +kernel) (gall_app gd_c_X9_refreshBetter gd_c_X9_betterFact))
set_option maxHeartbeats 4000000 in
set_option maxRecDepth 100000 in
theorem c_X9_better (l : Launch) (dC : Nat → ClassId) (dI : Nat → Nat → Nat) (cI cT cS : ClassId) (sz : Nat) (ad : Nat → Nat) (a1 : Int32) (σ : Sg) (o : Int32 × Sg) (h : zf_X9_better a1 σ = some o) : gCI (S := Unit) l yX9_better vc_X9_better { frames := 8, cells := 0, slots := 0, locals := 207 } (dC, dI) (gTY cI cT cS) sz [.ref (ad 0), .int a1] (Wd 153 (cfC ad cI cT cS) σ) (fun (r : Int32) (_ : Unit) => r = o.1) (fun (_ : Unit) => (Wd 153 (cfC ad cI cT cS) o.2)) 0 0 := by
  refine Met.ofW (cc := cX9_better) (maxL := 2) (ret := (some .int)) (by decide) rfl ?_
  intro p e s m args below meth c s₁ B hml hv
  obtain ⟨rfl, hsz, hP, hK, hD0⟩ := hv
  have hx := B.exec
  have hb := B.bytes
  have hr := B.returns
  have hts := atoms_spec (ws := vc_X9_better) B.pre
  have hown : s.vm.findClass RX9 = some m.cls := findClass_of_methodNamed B.named
  have hlocks := B.notSynchronized
  subst hsz
  have hD := hD0.self (sz := s.heap.size)
  generalize hAe : va_A (Wd 153 (cfC ad cI cT cS) σ) s.heap.size = A at hD ⊢
  have hA : ∀ q : Nat, s.heap.size ≤ q → A q := fun q h => by rw [← hAe]; exact Or.inr h
  clear hAe hD0
  refine gstart (fun H locs hHe hLe => ?_)
  have hS : va_S A s.heap H locs := by rw [← hHe, ← hLe]; exact va_S.rf
  replace hP : va_P (dC, dI) vwCl (Wd 153 (cfC ad cI cT cS) σ) H := by rw [← hHe]; exact hP
  clear hHe hLe
  have hl := lv_entry ([.ref (ad 0), .int a1]) (n := 2) (Nat.le_of_ble_eq_true rfl)
  rw [lg_entry_eq]
  generalize (lg_sl ([.ref (ad 0), .int a1]) ++ List.replicate (2 - (lg_sl ([.ref (ad 0), .int a1])).length) Slot.unset).toArray = ls at hl ⊢
  replace hl : lv_has ls 2 [(0, .ref (ad 0)), (1, .int a1)] := hl
  unfold zf_X9_better at h
  refine lv_aload_n hx hb dX9_better_0 rfl (lv_at hl 0 rfl) ?_
  obtain ⟨σ1, hc1, h⟩ := obd_inv h
  refine wcallv (S := Unit) (va_runV (As := []) (rest := []) ⟨hx, hb, hml, hown, hts⟩ (c_X9_refreshBetter l dC dI cI cT cS H.size ad   σ _ hc1) (cwV 0 hts (gWV (List.mem_of_getElem? (i := 1) rfl) (List.mem_of_getElem? (i := 2) rfl) (List.mem_of_getElem? (i := 3) rfl) (List.mem_of_getElem? (i := 4) rfl) ic_X9_better_c_X9_refreshBetter gd_c_X9_refreshBetter) rfl rfl rfl (by decide +kernel) ⟨(Nat.le_of_ble_eq_true rfl), (Nat.le_of_ble_eq_true rfl)⟩) (wpV (q := (RX9, TX9, 14)) hP hK hD oX9 rfl) rfl rfl hl.1 rfl (lv_room (Nat.le_of_ble_eq_true rfl)) dX9_better_1 ⟨(Nat.le_of_ble_eq_true rfl), (Nat.le_of_ble_eq_true rfl)⟩) hP hD hS hA (fun _ H locs hr2 hP hD hS => ?_)
  replace hP : va_P (dC, dI) vwCl (Wd 153 (cfC ad cI cT cS) σ1) H := hP
  replace hD : va_D A (Wd 153 (cfC ad cI cT cS) σ1) := hD
  refine lv_aload_n hx hb dX9_better_4 rfl (lv_at hl 0 rfl) ?_
  refine lv_iload_n hx hb dX9_better_5 rfl (lv_at hl 1 rfl) ?_
  refine wcalli (S := Unit) (va_runV (As := [.int a1]) (rest := []) ⟨hx, hb, hml, hown, hts⟩ (c_X9_betterFact l dC dI cI cT cS H.size ad  a1 σ1 _ rfl) (cwV 1 hts (gWV (List.mem_of_getElem? (i := 5) rfl) (List.mem_of_getElem? (i := 6) rfl) (List.mem_of_getElem? (i := 7) rfl) (List.mem_of_getElem? (i := 4) rfl) ic_X9_better_c_X9_betterFact gd_c_X9_betterFact) rfl rfl rfl (by decide +kernel) ⟨(Nat.le_of_ble_eq_true rfl), (Nat.le_of_ble_eq_true rfl)⟩) (wpV (q := (RX9, TX9, 14)) hP hK hD oX9 rfl) rfl rfl hl.1 rfl (lv_room (Nat.le_of_ble_eq_true rfl)) dX9_better_6 ⟨(Nat.le_of_ble_eq_true rfl), (Nat.le_of_ble_eq_true rfl)⟩) hP hD hS hA (fun rr3 _ H locs hr3 hP hD hS => ?_)
  refine lv_nm (y := (zf_X9_betterFact a1 σ1)) hr3 ?_
  have h9 := Option.some.inj h
  exact wreti hx hb hr hlocks hP hD hS (by show _ = _; rw [← h9]; first | done | rfl) (by rw [← h9]) dX9_better_9
def zb_X9_sheet_20 (σ : Sg) : Option (Int32 × Sg) := some ((-2 : Int32), σ)
def zf_X9_sheet (a1 : Int32) (a2 : Int32) (a3 : Int32) (σ : Sg) : Option (Int32 × Sg) := (if (zf_X9_isSheet a1) = true then (if (zf_X6_isForm a2) = true then (if a3 ≤ (60 : Int32) then (if 0 ≤ a3 then bd a1 4 (obd (zf_X6_renew (13 + 2 * a1.toNatClampNeg) a2 a3 σ) (fun σ8 => some (a3, σ8))) else letb (zf_X9_found (5 : Int32) σ) (fun q10 => some (q10.1, q10.2))) else (zb_X9_sheet_20 σ)) else (zb_X9_sheet_20 σ)) else (zb_X9_sheet_20 σ))
def oc_X9_sheet : List Cond := [.methodLink RX9 90 yX9_isSheet, .static yX9_isSheet, .initialized RX9, .methodLink RX9 152 yX6_isForm, .static yX6_isForm, .initialized RX6, .fieldLink RX9 40 "TraceTrees" "sheets" "[LTraceTrees$Sheet;", .methodLink RX9 155 yX6_renew, .instanceMethod yX6_renew, .selects RX6 yX6_renew yX6_renew, .methodLink RX9 97 yX9_found, .instanceMethod yX9_found, .selects RX9 yX9_found yX9_found]
def vc_X9_sheet : List Cond := .code yX9_sheet cX9_sheet 4 (some .int) :: (oc_X9_sheet ++ (wsX90 ++ (vc_X9_isSheet ++ (vc_X6_isForm ++ (vc_X6_renew ++ (vc_X9_found))))))
theorem iw_X9_sheet_X9 : ∀ w ∈ wsX90, w ∈ vc_X9_sheet := fun _ h => List.mem_cons_of_mem _ (List.mem_append_right _ (List.mem_append_left _ h))
theorem ic_X9_sheet_c_X9_isSheet : ∀ w ∈ vc_X9_isSheet, w ∈ vc_X9_sheet := fun _ h => List.mem_cons_of_mem _ (List.mem_append_right _ (List.mem_append_right _ (List.mem_append_left _ h)))
theorem ic_X9_sheet_c_X6_isForm : ∀ w ∈ vc_X6_isForm, w ∈ vc_X9_sheet := fun _ h => List.mem_cons_of_mem _ (List.mem_append_right _ (List.mem_append_right _ (List.mem_append_right _ (List.mem_append_left _ h))))
theorem ic_X9_sheet_c_X6_renew : ∀ w ∈ vc_X6_renew, w ∈ vc_X9_sheet := fun _ h => List.mem_cons_of_mem _ (List.mem_append_right _ (List.mem_append_right _ (List.mem_append_right _ (List.mem_append_right _ (List.mem_append_left _ h)))))
theorem ic_X9_sheet_c_X9_found : ∀ w ∈ vc_X9_found, w ∈ vc_X9_sheet := fun _ h => List.mem_cons_of_mem _ (List.mem_append_right _ (List.mem_append_right _ (List.mem_append_right _ (List.mem_append_right _ (List.mem_append_right _ (h))))))
theorem gd_c_X9_sheet : (vc_X9_sheet).all goodWord = true := gall_cons rfl (gall_app (by decide +kernel) (gall_app gw_X9 (gall_app gd_c_X9_isSheet (gall_app gd_c_X6_isForm (gall_app gd_c_X6_renew gd_c_X9_found)))))
set_option maxHeartbeats 4000000 in
set_option maxRecDepth 100000 in
theorem c_X9_sheet (l : Launch) (dC : Nat → ClassId) (dI : Nat → Nat → Nat) (cI cT cS : ClassId) (sz : Nat) (ad : Nat → Nat) (a1 : Int32) (a2 : Int32) (a3 : Int32) (σ : Sg) (o : Int32 × Sg) (h : zf_X9_sheet a1 a2 a3 σ = some o) : gCI (S := Unit) l yX9_sheet vc_X9_sheet { frames := 2, cells := 0, slots := 0, locals := 45 } (dC, dI) (gTY cI cT cS) sz [.ref (ad 0), .int a1, .int a2, .int a3] (Wd 153 (cfC ad cI cT cS) σ) (fun (r : Int32) (_ : Unit) => r = o.1) (fun (_ : Unit) => (Wd 153 (cfC ad cI cT cS) o.2)) 0 0 := by
  refine Met.ofW (cc := cX9_sheet) (maxL := 4) (ret := (some .int)) (by decide) rfl ?_
  intro p e s m args below meth c s₁ B hml hv
  obtain ⟨rfl, hsz, hP, hK, hD0⟩ := hv
  have hx := B.exec
  have hb := B.bytes
  have hr := B.returns
  have hts := atoms_spec (ws := vc_X9_sheet) B.pre
  have hown : s.vm.findClass RX9 = some m.cls := findClass_of_methodNamed B.named
  have hlocks := B.notSynchronized
  subst hsz
  have hD := hD0.self (sz := s.heap.size)
  generalize hAe : va_A (Wd 153 (cfC ad cI cT cS) σ) s.heap.size = A at hD ⊢
  have hA : ∀ q : Nat, s.heap.size ≤ q → A q := fun q h => by rw [← hAe]; exact Or.inr h
  clear hAe hD0
  refine gstart (fun H locs hHe hLe => ?_)
  have hS : va_S A s.heap H locs := by rw [← hHe, ← hLe]; exact va_S.rf
  replace hP : va_P (dC, dI) vwCl (Wd 153 (cfC ad cI cT cS) σ) H := by rw [← hHe]; exact hP
  clear hHe hLe
  have hl := lv_entry ([.ref (ad 0), .int a1, .int a2, .int a3]) (n := 4) (Nat.le_of_ble_eq_true rfl)
  rw [lg_entry_eq]
  generalize (lg_sl ([.ref (ad 0), .int a1, .int a2, .int a3]) ++ List.replicate (4 - (lg_sl ([.ref (ad 0), .int a1, .int a2, .int a3])).length) Slot.unset).toArray = ls at hl ⊢
  replace hl : lv_has ls 4 [(0, .ref (ad 0)), (1, .int a1), (2, .int a2), (3, .int a3)] := hl
  unfold zf_X9_sheet at h
  have J20 : ∀  (H : Heap) (locs : List Loc) (ls : Array Slot), zb_X9_sheet_20 σ = some o → va_P (dC, dI) vwCl (Wd 153 (cfC ad cI cT cS) σ) H → va_D A (Wd 153 (cfC ad cI cT cS) σ) → va_S A s.heap H locs → lv_has ls 4 [] → W p l e (headSpec vc_X9_sheet { frames := 2, cells := 0, slots := 0, locals := 45 }).room s m (List.toArray (α := Value) [.ref (ad 0), .int a1, .int a2, .int a3]) below meth c H locs 0 0 (MQ below (va_Qi (fun (r : Int32) (_ : Unit) => r = o.1) (gB (dC, dI) A (fun (_ : Unit) => (Wd 153 (cfC ad cI cT cS) o.2))) A) (List.toArray (α := Value) [.ref (ad 0), .int a1, .int a2, .int a3]) s 0 0 A) (F0 m 20 ls []) := by
    intro  H locs ls h hP hD hS hl
    unfold zb_X9_sheet_20 at h
    refine lv_bipush (v := (-2)) hx hb dX9_sheet_20 (by decide) ?_
    have h9 := Option.some.inj h
    exact wreti hx hb hr hlocks hP hD hS (by show _ = _; rw [← h9]; first | done | rfl) (by rw [← h9]) dX9_sheet_22
  refine lv_iload_n hx hb dX9_sheet_0 rfl (lv_at hl 1 rfl) ?_
  refine wcalli (S := Unit) (va_runS (As := [.int a1]) (rest := []) ⟨hx, hb, hml, hown, hts⟩ (c_X9_isSheet l dC dI cI cT cS H.size (Wd 153 (cfC ad cI cT cS) σ)  a1 _ rfl) (va_cwS 1 hts (gWS (List.mem_of_getElem? (i := 1) rfl) (List.mem_of_getElem? (i := 2) rfl) (List.mem_of_getElem? (i := 3) rfl) ic_X9_sheet_c_X9_isSheet gd_c_X9_isSheet) rfl rfl rfl (by decide +kernel) ⟨(Nat.le_of_ble_eq_true rfl), (Nat.le_of_ble_eq_true rfl)⟩) (gpS hP hK hD) rfl rfl hl.1 rfl (lv_room (Nat.le_of_ble_eq_true rfl)) dX9_sheet_1 ⟨(Nat.le_of_ble_eq_true rfl), (Nat.le_of_ble_eq_true rfl)⟩) hP hD hS hA (fun rr1 _ H locs hr1 hP hD hS => ?_)
  refine lv_nm (y := b2i (zf_X9_isSheet a1)) hr1 ?_
  refine lv_if_eq (tgt := 20) hx hb dX9_sheet_4 (by decide) (fun c2 => ?_) (fun c2 => ?_)
  · replace h := ifn (b2i_0 c2) h
    exact J20  H locs ls h hP hD hS (lv_sub (l' := []) hl [] rfl)
  · replace h := ifp (b2i_1 c2) h
    refine lv_iload_n hx hb dX9_sheet_7 rfl (lv_at hl 2 rfl) ?_
    refine wcalli (S := Unit) (va_runS (As := [.int a2]) (rest := []) ⟨hx, hb, hml, hown, hts⟩ (c_X6_isForm l dC dI cI cT cS H.size (Wd 153 (cfC ad cI cT cS) σ)  a2 _ rfl) (va_cwS 1 hts (gWS (List.mem_of_getElem? (i := 4) rfl) (List.mem_of_getElem? (i := 5) rfl) (List.mem_of_getElem? (i := 6) rfl) ic_X9_sheet_c_X6_isForm gd_c_X6_isForm) rfl rfl rfl (by decide +kernel) ⟨(Nat.le_of_ble_eq_true rfl), (Nat.le_of_ble_eq_true rfl)⟩) (gpS hP hK hD) rfl rfl hl.1 rfl (lv_room (Nat.le_of_ble_eq_true rfl)) dX9_sheet_8 ⟨(Nat.le_of_ble_eq_true rfl), (Nat.le_of_ble_eq_true rfl)⟩) hP hD hS hA (fun rr3 _ H locs hr3 hP hD hS => ?_)
    refine lv_nm (y := b2i (zf_X6_isForm a2)) hr3 ?_
    refine lv_if_eq (tgt := 20) hx hb dX9_sheet_11 (by decide) (fun c4 => ?_) (fun c4 => ?_)
    · replace h := ifn (b2i_0 c4) h
      exact J20  H locs ls h hP hD hS (lv_sub (l' := []) hl [] rfl)
    · replace h := ifp (b2i_1 c4) h
      refine lv_iload_n hx hb dX9_sheet_14 rfl (lv_at hl 3 rfl) ?_
      refine lv_bipush (v := 60) hx hb dX9_sheet_15 (by decide) ?_
      refine lv_icmp_le (tgt := 23) hx hb dX9_sheet_17 (by decide) (fun c5 => ?_) (fun c5 => ?_)
      · replace h := ifp (c5) h
        refine lv_iload_n hx hb dX9_sheet_23 rfl (lv_at hl 3 rfl) ?_
        refine lv_if_ge (tgt := 33) hx hb dX9_sheet_24 (by decide) (fun c6 => ?_) (fun c6 => ?_)
        · replace h := ifp (c6) h
          refine lv_aload_n hx hb dX9_sheet_33 rfl (lv_at hl 0 rfl) ?_
          refine gf_X9_2 hx hb hts iw_X9_sheet_X9 hown hK hP (hts (.fieldLink RX9 40 "TraceTrees" "sheets" "[LTraceTrees$Sheet;") (List.mem_of_getElem? (i := 7) rfl)) dX9_sheet_34 ?_
          refine lv_iload_n hx hb dX9_sheet_37 rfl (lv_at hl 1 rfl) ?_
          obtain ⟨hi7, h⟩ := bd_inv h
          refine waldS hx hb hK hP hi7 dX9_sheet_38 ?_
          refine lv_iload_n hx hb dX9_sheet_39 rfl (lv_at hl 2 rfl) ?_
          refine lv_iload_n hx hb dX9_sheet_40 rfl (lv_at hl 3 rfl) ?_
          obtain ⟨σ8, hc8, h⟩ := obd_inv h
          refine wcallv (S := Unit) (va_runV (As := [.int a2, .int a3]) (rest := []) ⟨hx, hb, hml, hown, hts⟩ (c_X6_renew l dC dI cI cT cS H.size ad (13 + 2 * a1.toNatClampNeg) (isSh_i hi7) a2 a3 σ _ hc8) (cwV 2 hts (gWV (List.mem_of_getElem? (i := 8) rfl) (List.mem_of_getElem? (i := 9) rfl) (List.mem_of_getElem? (i := 10) rfl) (List.mem_of_getElem? (i := 6) rfl) ic_X9_sheet_c_X6_renew gd_c_X6_renew) rfl rfl rfl (by decide +kernel) ⟨(Nat.le_of_ble_eq_true rfl), (Nat.le_of_ble_eq_true rfl)⟩) (wpV (q := (RX6, TX6, 3)) hP hK hD (oX6 (isSh_i hi7)) rfl) rfl rfl hl.1 rfl (lv_room (Nat.le_of_ble_eq_true rfl)) dX9_sheet_41 ⟨(Nat.le_of_ble_eq_true rfl), (Nat.le_of_ble_eq_true rfl)⟩) hP hD hS hA (fun _ H locs hr9 hP hD hS => ?_)
          replace hP : va_P (dC, dI) vwCl (Wd 153 (cfC ad cI cT cS) σ8) H := hP
          replace hD : va_D A (Wd 153 (cfC ad cI cT cS) σ8) := hD
          refine lv_iload_n hx hb dX9_sheet_44 rfl (lv_at hl 3 rfl) ?_
          have h9 := Option.some.inj h
          exact wreti hx hb hr hlocks hP hD hS (by show _ = _; rw [← h9]; first | done | rfl) (by rw [← h9]) dX9_sheet_45
        · replace h := ifn (c6) h
          refine lv_aload_n hx hb dX9_sheet_27 rfl (lv_at hl 0 rfl) ?_
          refine lv_iconst (v := 5) hx hb dX9_sheet_28 (by decide) ?_
          obtain ⟨q10, hc10, h⟩ := letb_inv h
          refine wcalli (S := Unit) (va_runV (As := [.int (5 : Int32)]) (rest := []) ⟨hx, hb, hml, hown, hts⟩ (c_X9_found l dC dI cI cT cS H.size ad  (5 : Int32) σ _ hc10) (cwV 1 hts (gWV (List.mem_of_getElem? (i := 11) rfl) (List.mem_of_getElem? (i := 12) rfl) (List.mem_of_getElem? (i := 13) rfl) (List.mem_of_getElem? (i := 3) rfl) ic_X9_sheet_c_X9_found gd_c_X9_found) rfl rfl rfl (by decide +kernel) ⟨(Nat.le_of_ble_eq_true rfl), (Nat.le_of_ble_eq_true rfl)⟩) (wpV (q := (RX9, TX9, 14)) hP hK hD oX9 rfl) rfl rfl hl.1 rfl (lv_room (Nat.le_of_ble_eq_true rfl)) dX9_sheet_29 ⟨(Nat.le_of_ble_eq_true rfl), (Nat.le_of_ble_eq_true rfl)⟩) hP hD hS hA (fun rr11 _ H locs hr11 hP hD hS => ?_)
          replace hP : va_P (dC, dI) vwCl (Wd 153 (cfC ad cI cT cS) q10.2) H := hP
          replace hD : va_D A (Wd 153 (cfC ad cI cT cS) q10.2) := hD
          refine lv_nm (y := q10.1) hr11 ?_
          have h9 := Option.some.inj h
          exact wreti hx hb hr hlocks hP hD hS (by show _ = _; rw [← h9]; first | done | rfl) (by rw [← h9]) dX9_sheet_32
      · replace h := ifn (c5) h
        exact J20  H locs ls h hP hD hS (lv_sub (l' := []) hl [] rfl)
def zf_X9_lose (a1 : Int32) (σ : Sg) : Option (Int32 × Sg) := (if (zf_X9_isSheet a1) = true then bd a1 4 ((if (zf_X6_isLost (13 + 2 * a1.toNatClampNeg) σ) = true then letb (zf_X9_found (1 : Int32) σ) (fun q9 => some (q9.1, q9.2)) else letb (σ (13 + 2 * a1.toNatClampNeg) 2) (fun e6 => obd (zf_X6_renew (13 + 2 * a1.toNatClampNeg) (-1 : Int32) (0 : Int32) σ) (fun σ7 => some (e6, σ7))))) else some ((-2 : Int32), σ))
def oc_X9_lose : List Cond := [.methodLink RX9 90 yX9_isSheet, .static yX9_isSheet, .initialized RX9, .fieldLink RX9 40 "TraceTrees" "sheets" "[LTraceTrees$Sheet;", .methodLink RX9 93 yX6_isLost, .instanceMethod yX6_isLost, .selects RX6 yX6_isLost yX6_isLost, .initialized RX6, .fieldLink RX9 101 "TraceTrees$Sheet" "size" "I", .methodLink RX9 155 yX6_renew, .instanceMethod yX6_renew, .selects RX6 yX6_renew yX6_renew, .methodLink RX9 97 yX9_found, .instanceMethod yX9_found, .selects RX9 yX9_found yX9_found]
def vc_X9_lose : List Cond := .code yX9_lose cX9_lose 3 (some .int) :: (oc_X9_lose ++ (wsX90 ++ (wsX60 ++ (vc_X9_isSheet ++ (vc_X6_isLost ++ (vc_X6_renew ++ (vc_X9_found)))))))
theorem iw_X9_lose_X9 : ∀ w ∈ wsX90, w ∈ vc_X9_lose := fun _ h => List.mem_cons_of_mem _ (List.mem_append_right _ (List.mem_append_left _ h))
theorem iw_X9_lose_X6 : ∀ w ∈ wsX60, w ∈ vc_X9_lose := fun _ h => List.mem_cons_of_mem _ (List.mem_append_right _ (List.mem_append_right _ (List.mem_append_left _ h)))
theorem ic_X9_lose_c_X9_isSheet : ∀ w ∈ vc_X9_isSheet, w ∈ vc_X9_lose := fun _ h => List.mem_cons_of_mem _ (List.mem_append_right _ (List.mem_append_right _ (List.mem_append_right _ (List.mem_append_left _ h))))
theorem ic_X9_lose_c_X6_isLost : ∀ w ∈ vc_X6_isLost, w ∈ vc_X9_lose := fun _ h => List.mem_cons_of_mem _ (List.mem_append_right _ (List.mem_append_right _ (List.mem_append_right _ (List.mem_append_right _ (List.mem_append_left _ h)))))
theorem ic_X9_lose_c_X6_renew : ∀ w ∈ vc_X6_renew, w ∈ vc_X9_lose := fun _ h => List.mem_cons_of_mem _ (List.mem_append_right _ (List.mem_append_right _ (List.mem_append_right _ (List.mem_append_right _ (List.mem_append_right _ (List.mem_append_left _ h))))))
theorem ic_X9_lose_c_X9_found : ∀ w ∈ vc_X9_found, w ∈ vc_X9_lose := fun _ h => List.mem_cons_of_mem _ (List.mem_append_right _ (List.mem_append_right _ (List.mem_append_right _ (List.mem_append_right _ (List.mem_append_right _ (List.mem_append_right _ (h)))))))
theorem gd_c_X9_lose : (vc_X9_lose).all goodWord = true := gall_cons rfl (gall_app (by decide +kernel) (gall_app gw_X9 (gall_app gw_X6 (gall_app gd_c_X9_isSheet (gall_app gd_c_X6_isLost (gall_app gd_c_X6_renew gd_c_X9_found))))))
set_option maxHeartbeats 4000000 in
set_option maxRecDepth 100000 in
theorem c_X9_lose (l : Launch) (dC : Nat → ClassId) (dI : Nat → Nat → Nat) (cI cT cS : ClassId) (sz : Nat) (ad : Nat → Nat) (a1 : Int32) (σ : Sg) (o : Int32 × Sg) (h : zf_X9_lose a1 σ = some o) : gCI (S := Unit) l yX9_lose vc_X9_lose { frames := 2, cells := 0, slots := 0, locals := 45 } (dC, dI) (gTY cI cT cS) sz [.ref (ad 0), .int a1] (Wd 153 (cfC ad cI cT cS) σ) (fun (r : Int32) (_ : Unit) => r = o.1) (fun (_ : Unit) => (Wd 153 (cfC ad cI cT cS) o.2)) 0 0 := by
  refine Met.ofW (cc := cX9_lose) (maxL := 3) (ret := (some .int)) (by decide) rfl ?_
  intro p e s m args below meth c s₁ B hml hv
  obtain ⟨rfl, hsz, hP, hK, hD0⟩ := hv
  have hx := B.exec
  have hb := B.bytes
  have hr := B.returns
  have hts := atoms_spec (ws := vc_X9_lose) B.pre
  have hown : s.vm.findClass RX9 = some m.cls := findClass_of_methodNamed B.named
  have hlocks := B.notSynchronized
  subst hsz
  have hD := hD0.self (sz := s.heap.size)
  generalize hAe : va_A (Wd 153 (cfC ad cI cT cS) σ) s.heap.size = A at hD ⊢
  have hA : ∀ q : Nat, s.heap.size ≤ q → A q := fun q h => by rw [← hAe]; exact Or.inr h
  clear hAe hD0
  refine gstart (fun H locs hHe hLe => ?_)
  have hS : va_S A s.heap H locs := by rw [← hHe, ← hLe]; exact va_S.rf
  replace hP : va_P (dC, dI) vwCl (Wd 153 (cfC ad cI cT cS) σ) H := by rw [← hHe]; exact hP
  clear hHe hLe
  have hl := lv_entry ([.ref (ad 0), .int a1]) (n := 3) (Nat.le_of_ble_eq_true rfl)
  rw [lg_entry_eq]
  generalize (lg_sl ([.ref (ad 0), .int a1]) ++ List.replicate (3 - (lg_sl ([.ref (ad 0), .int a1])).length) Slot.unset).toArray = ls at hl ⊢
  replace hl : lv_has ls 3 [(0, .ref (ad 0)), (1, .int a1)] := hl
  unfold zf_X9_lose at h
  refine lv_iload_n hx hb dX9_lose_0 rfl (lv_at hl 1 rfl) ?_
  refine wcalli (S := Unit) (va_runS (As := [.int a1]) (rest := []) ⟨hx, hb, hml, hown, hts⟩ (c_X9_isSheet l dC dI cI cT cS H.size (Wd 153 (cfC ad cI cT cS) σ)  a1 _ rfl) (va_cwS 1 hts (gWS (List.mem_of_getElem? (i := 1) rfl) (List.mem_of_getElem? (i := 2) rfl) (List.mem_of_getElem? (i := 3) rfl) ic_X9_lose_c_X9_isSheet gd_c_X9_isSheet) rfl rfl rfl (by decide +kernel) ⟨(Nat.le_of_ble_eq_true rfl), (Nat.le_of_ble_eq_true rfl)⟩) (gpS hP hK hD) rfl rfl hl.1 rfl (lv_room (Nat.le_of_ble_eq_true rfl)) dX9_lose_1 ⟨(Nat.le_of_ble_eq_true rfl), (Nat.le_of_ble_eq_true rfl)⟩) hP hD hS hA (fun rr1 _ H locs hr1 hP hD hS => ?_)
  refine lv_nm (y := b2i (zf_X9_isSheet a1)) hr1 ?_
  refine lv_if_ne (tgt := 10) hx hb dX9_lose_4 (by decide) (fun c2 => ?_) (fun c2 => ?_)
  · replace h := ifp (b2i_1 c2) h
    refine lv_aload_n hx hb dX9_lose_10 rfl (lv_at hl 0 rfl) ?_
    refine gf_X9_2 hx hb hts iw_X9_lose_X9 hown hK hP (hts (.fieldLink RX9 40 "TraceTrees" "sheets" "[LTraceTrees$Sheet;") (List.mem_of_getElem? (i := 4) rfl)) dX9_lose_11 ?_
    refine lv_iload_n hx hb dX9_lose_14 rfl (lv_at hl 1 rfl) ?_
    obtain ⟨hi3, h⟩ := bd_inv h
    refine waldS hx hb hK hP hi3 dX9_lose_15 ?_
    refine wcalli (S := Unit) (va_runV (As := []) (rest := []) ⟨hx, hb, hml, hown, hts⟩ (c_X6_isLost l dC dI cI cT cS H.size ad (13 + 2 * a1.toNatClampNeg) (isSh_i hi3)  σ _ rfl) (cwV 0 hts (gWV (List.mem_of_getElem? (i := 5) rfl) (List.mem_of_getElem? (i := 6) rfl) (List.mem_of_getElem? (i := 7) rfl) (List.mem_of_getElem? (i := 8) rfl) ic_X9_lose_c_X6_isLost gd_c_X6_isLost) rfl rfl rfl (by decide +kernel) ⟨(Nat.le_of_ble_eq_true rfl), (Nat.le_of_ble_eq_true rfl)⟩) (wpV (q := (RX6, TX6, 3)) hP hK hD (oX6 (isSh_i hi3)) rfl) rfl rfl hl.1 rfl (lv_room (Nat.le_of_ble_eq_true rfl)) dX9_lose_16 ⟨(Nat.le_of_ble_eq_true rfl), (Nat.le_of_ble_eq_true rfl)⟩) hP hD hS hA (fun rr4 _ H locs hr4 hP hD hS => ?_)
    refine lv_nm (y := b2i (zf_X6_isLost (13 + 2 * a1.toNatClampNeg) σ)) hr4 ?_
    refine lv_if_eq (tgt := 28) hx hb dX9_lose_19 (by decide) (fun c5 => ?_) (fun c5 => ?_)
    · replace h := ifn (b2i_0 c5) h
      refine lv_aload_n hx hb dX9_lose_28 rfl (lv_at hl 0 rfl) ?_
      refine gf_X9_2 hx hb hts iw_X9_lose_X9 hown hK hP (hts (.fieldLink RX9 40 "TraceTrees" "sheets" "[LTraceTrees$Sheet;") (List.mem_of_getElem? (i := 4) rfl)) dX9_lose_29 ?_
      refine lv_iload_n hx hb dX9_lose_32 rfl (lv_at hl 1 rfl) ?_
      refine waldS hx hb hK hP hi3 dX9_lose_33 ?_
      refine gf_X6_2 (isSh_i hi3) hx hb hts iw_X9_lose_X6 hown hK hP (hts (.fieldLink RX9 101 "TraceTrees$Sheet" "size" "I") (List.mem_of_getElem? (i := 9) rfl)) dX9_lose_34 ?_
      obtain ⟨e6, he6, h⟩ := letb_inv h
      refine lv_nm he6 ?_
      refine lv_istore_n (lv' := [(2, .int e6), (0, .ref (ad 0)), (1, .int a1)]) hx hb dX9_lose_37 rfl hl (by decide) rfl (fun ls hl => ?_)
      refine lv_aload_n hx hb dX9_lose_38 rfl (lv_at hl 1 rfl) ?_
      refine gf_X9_2 hx hb hts iw_X9_lose_X9 hown hK hP (hts (.fieldLink RX9 40 "TraceTrees" "sheets" "[LTraceTrees$Sheet;") (List.mem_of_getElem? (i := 4) rfl)) dX9_lose_39 ?_
      refine lv_iload_n hx hb dX9_lose_42 rfl (lv_at hl 2 rfl) ?_
      refine waldS hx hb hK hP hi3 dX9_lose_43 ?_
      refine lv_iconst (v := (-1)) hx hb dX9_lose_44 (by decide) ?_
      refine lv_iconst (v := 0) hx hb dX9_lose_45 (by decide) ?_
      obtain ⟨σ7, hc7, h⟩ := obd_inv h
      refine wcallv (S := Unit) (va_runV (As := [.int (-1 : Int32), .int (0 : Int32)]) (rest := []) ⟨hx, hb, hml, hown, hts⟩ (c_X6_renew l dC dI cI cT cS H.size ad (13 + 2 * a1.toNatClampNeg) (isSh_i hi3) (-1 : Int32) (0 : Int32) σ _ hc7) (cwV 2 hts (gWV (List.mem_of_getElem? (i := 10) rfl) (List.mem_of_getElem? (i := 11) rfl) (List.mem_of_getElem? (i := 12) rfl) (List.mem_of_getElem? (i := 8) rfl) ic_X9_lose_c_X6_renew gd_c_X6_renew) rfl rfl rfl (by decide +kernel) ⟨(Nat.le_of_ble_eq_true rfl), (Nat.le_of_ble_eq_true rfl)⟩) (wpV (q := (RX6, TX6, 3)) hP hK hD (oX6 (isSh_i hi3)) rfl) rfl rfl hl.1 rfl (lv_room (Nat.le_of_ble_eq_true rfl)) dX9_lose_46 ⟨(Nat.le_of_ble_eq_true rfl), (Nat.le_of_ble_eq_true rfl)⟩) hP hD hS hA (fun _ H locs hr8 hP hD hS => ?_)
      replace hP : va_P (dC, dI) vwCl (Wd 153 (cfC ad cI cT cS) σ7) H := hP
      replace hD : va_D A (Wd 153 (cfC ad cI cT cS) σ7) := hD
      refine lv_iload_n hx hb dX9_lose_49 rfl (lv_at hl 0 rfl) ?_
      have h9 := Option.some.inj h
      exact wreti hx hb hr hlocks hP hD hS (by show _ = _; rw [← h9]; first | done | rfl) (by rw [← h9]) dX9_lose_50
    · replace h := ifp (b2i_1 c5) h
      refine lv_aload_n hx hb dX9_lose_22 rfl (lv_at hl 0 rfl) ?_
      refine lv_iconst (v := 1) hx hb dX9_lose_23 (by decide) ?_
      obtain ⟨q9, hc9, h⟩ := letb_inv h
      refine wcalli (S := Unit) (va_runV (As := [.int (1 : Int32)]) (rest := []) ⟨hx, hb, hml, hown, hts⟩ (c_X9_found l dC dI cI cT cS H.size ad  (1 : Int32) σ _ hc9) (cwV 1 hts (gWV (List.mem_of_getElem? (i := 13) rfl) (List.mem_of_getElem? (i := 14) rfl) (List.mem_of_getElem? (i := 15) rfl) (List.mem_of_getElem? (i := 3) rfl) ic_X9_lose_c_X9_found gd_c_X9_found) rfl rfl rfl (by decide +kernel) ⟨(Nat.le_of_ble_eq_true rfl), (Nat.le_of_ble_eq_true rfl)⟩) (wpV (q := (RX9, TX9, 14)) hP hK hD oX9 rfl) rfl rfl hl.1 rfl (lv_room (Nat.le_of_ble_eq_true rfl)) dX9_lose_24 ⟨(Nat.le_of_ble_eq_true rfl), (Nat.le_of_ble_eq_true rfl)⟩) hP hD hS hA (fun rr10 _ H locs hr10 hP hD hS => ?_)
      replace hP : va_P (dC, dI) vwCl (Wd 153 (cfC ad cI cT cS) q9.2) H := hP
      replace hD : va_D A (Wd 153 (cfC ad cI cT cS) q9.2) := hD
      refine lv_nm (y := q9.1) hr10 ?_
      have h9 := Option.some.inj h
      exact wreti hx hb hr hlocks hP hD hS (by show _ = _; rw [← h9]; first | done | rfl) (by rw [← h9]) dX9_lose_27
  · replace h := ifn (b2i_0 c2) h
    refine lv_bipush (v := (-2)) hx hb dX9_lose_7 (by decide) ?_
    have h9 := Option.some.inj h
    exact wreti hx hb hr hlocks hP hD hS (by show _ = _; rw [← h9]; first | done | rfl) (by rw [← h9]) dX9_lose_9
def zb_X9_lay_14 (σ : Sg) : Option (Int32 × Sg) := some ((-2 : Int32), σ)
def zf_X9_lay (a1 : Int32) (a2 : Int32) (a3 : Int32) (a4 : Int32) (σ : Sg) : Option (Int32 × Sg) := (if (zf_X9_isSheet a1) = true then (if (zf_X6_isForm a2) = true then bd a1 4 (letb (zf_X6_faultAt (13 + 2 * a1.toNatClampNeg) a2 a3 σ) (fun e7 => (if e7 = 0 then obd (zf_X6_lower (13 + 2 * a1.toNatClampNeg) a3 a4 σ) (fun σ9 => some ((1 : Int32), σ9)) else letb (zf_X9_found e7 σ) (fun q11 => some (q11.1, q11.2))))) else (zb_X9_lay_14 σ)) else (zb_X9_lay_14 σ))
def oc_X9_lay : List Cond := [.methodLink RX9 90 yX9_isSheet, .static yX9_isSheet, .initialized RX9, .methodLink RX9 152 yX6_isForm, .static yX6_isForm, .initialized RX6, .fieldLink RX9 40 "TraceTrees" "sheets" "[LTraceTrees$Sheet;", .methodLink RX9 159 yX6_faultAt, .instanceMethod yX6_faultAt, .selects RX6 yX6_faultAt yX6_faultAt, .methodLink RX9 162 yX6_lower, .instanceMethod yX6_lower, .selects RX6 yX6_lower yX6_lower, .methodLink RX9 97 yX9_found, .instanceMethod yX9_found, .selects RX9 yX9_found yX9_found]
def vc_X9_lay : List Cond := .code yX9_lay cX9_lay 6 (some .int) :: (oc_X9_lay ++ (wsX90 ++ (vc_X9_isSheet ++ (vc_X6_isForm ++ (vc_X6_faultAt ++ (vc_X6_lower ++ (vc_X9_found)))))))
theorem iw_X9_lay_X9 : ∀ w ∈ wsX90, w ∈ vc_X9_lay := fun _ h => List.mem_cons_of_mem _ (List.mem_append_right _ (List.mem_append_left _ h))
theorem ic_X9_lay_c_X9_isSheet : ∀ w ∈ vc_X9_isSheet, w ∈ vc_X9_lay := fun _ h => List.mem_cons_of_mem _ (List.mem_append_right _ (List.mem_append_right _ (List.mem_append_left _ h)))
theorem ic_X9_lay_c_X6_isForm : ∀ w ∈ vc_X6_isForm, w ∈ vc_X9_lay := fun _ h => List.mem_cons_of_mem _ (List.mem_append_right _ (List.mem_append_right _ (List.mem_append_right _ (List.mem_append_left _ h))))
theorem ic_X9_lay_c_X6_faultAt : ∀ w ∈ vc_X6_faultAt, w ∈ vc_X9_lay := fun _ h => List.mem_cons_of_mem _ (List.mem_append_right _ (List.mem_append_right _ (List.mem_append_right _ (List.mem_append_right _ (List.mem_append_left _ h)))))
theorem ic_X9_lay_c_X6_lower : ∀ w ∈ vc_X6_lower, w ∈ vc_X9_lay := fun _ h => List.mem_cons_of_mem _ (List.mem_append_right _ (List.mem_append_right _ (List.mem_append_right _ (List.mem_append_right _ (List.mem_append_right _ (List.mem_append_left _ h))))))
theorem ic_X9_lay_c_X9_found : ∀ w ∈ vc_X9_found, w ∈ vc_X9_lay := fun _ h => List.mem_cons_of_mem _ (List.mem_append_right _ (List.mem_append_right _ (List.mem_append_right _ (List.mem_append_right _ (List.mem_append_right _ (List.mem_append_right _ (h)))))))
theorem gd_c_X9_lay : (vc_X9_lay).all goodWord = true := gall_cons rfl (gall_app (by decide +kernel) (gall_app gw_X9 (gall_app gd_c_X9_isSheet (gall_app gd_c_X6_isForm (gall_app gd_c_X6_faultAt (gall_app gd_c_X6_lower gd_c_X9_found))))))
set_option maxHeartbeats 4000000 in
set_option maxRecDepth 100000 in
theorem c_X9_lay (l : Launch) (dC : Nat → ClassId) (dI : Nat → Nat → Nat) (cI cT cS : ClassId) (sz : Nat) (ad : Nat → Nat) (a1 : Int32) (a2 : Int32) (a3 : Int32) (a4 : Int32) (σ : Sg) (o : Int32 × Sg) (h : zf_X9_lay a1 a2 a3 a4 σ = some o) : gCI (S := Unit) l yX9_lay vc_X9_lay { frames := 2, cells := 0, slots := 0, locals := 42 } (dC, dI) (gTY cI cT cS) sz [.ref (ad 0), .int a1, .int a2, .int a3, .int a4] (Wd 153 (cfC ad cI cT cS) σ) (fun (r : Int32) (_ : Unit) => r = o.1) (fun (_ : Unit) => (Wd 153 (cfC ad cI cT cS) o.2)) 0 0 := by
  refine Met.ofW (cc := cX9_lay) (maxL := 6) (ret := (some .int)) (by decide) rfl ?_
  intro p e s m args below meth c s₁ B hml hv
  obtain ⟨rfl, hsz, hP, hK, hD0⟩ := hv
  have hx := B.exec
  have hb := B.bytes
  have hr := B.returns
  have hts := atoms_spec (ws := vc_X9_lay) B.pre
  have hown : s.vm.findClass RX9 = some m.cls := findClass_of_methodNamed B.named
  have hlocks := B.notSynchronized
  subst hsz
  have hD := hD0.self (sz := s.heap.size)
  generalize hAe : va_A (Wd 153 (cfC ad cI cT cS) σ) s.heap.size = A at hD ⊢
  have hA : ∀ q : Nat, s.heap.size ≤ q → A q := fun q h => by rw [← hAe]; exact Or.inr h
  clear hAe hD0
  refine gstart (fun H locs hHe hLe => ?_)
  have hS : va_S A s.heap H locs := by rw [← hHe, ← hLe]; exact va_S.rf
  replace hP : va_P (dC, dI) vwCl (Wd 153 (cfC ad cI cT cS) σ) H := by rw [← hHe]; exact hP
  clear hHe hLe
  have hl := lv_entry ([.ref (ad 0), .int a1, .int a2, .int a3, .int a4]) (n := 6) (Nat.le_of_ble_eq_true rfl)
  rw [lg_entry_eq]
  generalize (lg_sl ([.ref (ad 0), .int a1, .int a2, .int a3, .int a4]) ++ List.replicate (6 - (lg_sl ([.ref (ad 0), .int a1, .int a2, .int a3, .int a4])).length) Slot.unset).toArray = ls at hl ⊢
  replace hl : lv_has ls 6 [(0, .ref (ad 0)), (1, .int a1), (2, .int a2), (3, .int a3), (4, .int a4)] := hl
  unfold zf_X9_lay at h
  have J14 : ∀  (H : Heap) (locs : List Loc) (ls : Array Slot), zb_X9_lay_14 σ = some o → va_P (dC, dI) vwCl (Wd 153 (cfC ad cI cT cS) σ) H → va_D A (Wd 153 (cfC ad cI cT cS) σ) → va_S A s.heap H locs → lv_has ls 6 [] → W p l e (headSpec vc_X9_lay { frames := 2, cells := 0, slots := 0, locals := 42 }).room s m (List.toArray (α := Value) [.ref (ad 0), .int a1, .int a2, .int a3, .int a4]) below meth c H locs 0 0 (MQ below (va_Qi (fun (r : Int32) (_ : Unit) => r = o.1) (gB (dC, dI) A (fun (_ : Unit) => (Wd 153 (cfC ad cI cT cS) o.2))) A) (List.toArray (α := Value) [.ref (ad 0), .int a1, .int a2, .int a3, .int a4]) s 0 0 A) (F0 m 14 ls []) := by
    intro  H locs ls h hP hD hS hl
    unfold zb_X9_lay_14 at h
    refine lv_bipush (v := (-2)) hx hb dX9_lay_14 (by decide) ?_
    have h9 := Option.some.inj h
    exact wreti hx hb hr hlocks hP hD hS (by show _ = _; rw [← h9]; first | done | rfl) (by rw [← h9]) dX9_lay_16
  refine lv_iload_n hx hb dX9_lay_0 rfl (lv_at hl 1 rfl) ?_
  refine wcalli (S := Unit) (va_runS (As := [.int a1]) (rest := []) ⟨hx, hb, hml, hown, hts⟩ (c_X9_isSheet l dC dI cI cT cS H.size (Wd 153 (cfC ad cI cT cS) σ)  a1 _ rfl) (va_cwS 1 hts (gWS (List.mem_of_getElem? (i := 1) rfl) (List.mem_of_getElem? (i := 2) rfl) (List.mem_of_getElem? (i := 3) rfl) ic_X9_lay_c_X9_isSheet gd_c_X9_isSheet) rfl rfl rfl (by decide +kernel) ⟨(Nat.le_of_ble_eq_true rfl), (Nat.le_of_ble_eq_true rfl)⟩) (gpS hP hK hD) rfl rfl hl.1 rfl (lv_room (Nat.le_of_ble_eq_true rfl)) dX9_lay_1 ⟨(Nat.le_of_ble_eq_true rfl), (Nat.le_of_ble_eq_true rfl)⟩) hP hD hS hA (fun rr1 _ H locs hr1 hP hD hS => ?_)
  refine lv_nm (y := b2i (zf_X9_isSheet a1)) hr1 ?_
  refine lv_if_eq (tgt := 14) hx hb dX9_lay_4 (by decide) (fun c2 => ?_) (fun c2 => ?_)
  · replace h := ifn (b2i_0 c2) h
    exact J14  H locs ls h hP hD hS (lv_sub (l' := []) hl [] rfl)
  · replace h := ifp (b2i_1 c2) h
    refine lv_iload_n hx hb dX9_lay_7 rfl (lv_at hl 2 rfl) ?_
    refine wcalli (S := Unit) (va_runS (As := [.int a2]) (rest := []) ⟨hx, hb, hml, hown, hts⟩ (c_X6_isForm l dC dI cI cT cS H.size (Wd 153 (cfC ad cI cT cS) σ)  a2 _ rfl) (va_cwS 1 hts (gWS (List.mem_of_getElem? (i := 4) rfl) (List.mem_of_getElem? (i := 5) rfl) (List.mem_of_getElem? (i := 6) rfl) ic_X9_lay_c_X6_isForm gd_c_X6_isForm) rfl rfl rfl (by decide +kernel) ⟨(Nat.le_of_ble_eq_true rfl), (Nat.le_of_ble_eq_true rfl)⟩) (gpS hP hK hD) rfl rfl hl.1 rfl (lv_room (Nat.le_of_ble_eq_true rfl)) dX9_lay_8 ⟨(Nat.le_of_ble_eq_true rfl), (Nat.le_of_ble_eq_true rfl)⟩) hP hD hS hA (fun rr3 _ H locs hr3 hP hD hS => ?_)
    refine lv_nm (y := b2i (zf_X6_isForm a2)) hr3 ?_
    refine lv_if_ne (tgt := 17) hx hb dX9_lay_11 (by decide) (fun c4 => ?_) (fun c4 => ?_)
    · replace h := ifp (b2i_1 c4) h
      refine lv_aload_n hx hb dX9_lay_17 rfl (lv_at hl 0 rfl) ?_
      refine gf_X9_2 hx hb hts iw_X9_lay_X9 hown hK hP (hts (.fieldLink RX9 40 "TraceTrees" "sheets" "[LTraceTrees$Sheet;") (List.mem_of_getElem? (i := 7) rfl)) dX9_lay_18 ?_
      refine lv_iload_n hx hb dX9_lay_21 rfl (lv_at hl 1 rfl) ?_
      obtain ⟨hi5, h⟩ := bd_inv h
      refine waldS hx hb hK hP hi5 dX9_lay_22 ?_
      refine lv_iload_n hx hb dX9_lay_23 rfl (lv_at hl 2 rfl) ?_
      refine lv_iload_n hx hb dX9_lay_24 rfl (lv_at hl 3 rfl) ?_
      refine wcalli (S := Unit) (va_runV (As := [.int a2, .int a3]) (rest := []) ⟨hx, hb, hml, hown, hts⟩ (c_X6_faultAt l dC dI cI cT cS H.size ad (13 + 2 * a1.toNatClampNeg) (isSh_i hi5) a2 a3 σ _ rfl) (cwV 2 hts (gWV (List.mem_of_getElem? (i := 8) rfl) (List.mem_of_getElem? (i := 9) rfl) (List.mem_of_getElem? (i := 10) rfl) (List.mem_of_getElem? (i := 6) rfl) ic_X9_lay_c_X6_faultAt gd_c_X6_faultAt) rfl rfl rfl (by decide +kernel) ⟨(Nat.le_of_ble_eq_true rfl), (Nat.le_of_ble_eq_true rfl)⟩) (wpV (q := (RX6, TX6, 3)) hP hK hD (oX6 (isSh_i hi5)) rfl) rfl rfl hl.1 rfl (lv_room (Nat.le_of_ble_eq_true rfl)) dX9_lay_25 ⟨(Nat.le_of_ble_eq_true rfl), (Nat.le_of_ble_eq_true rfl)⟩) hP hD hS hA (fun rr6 _ H locs hr6 hP hD hS => ?_)
      refine lv_nm (y := (zf_X6_faultAt (13 + 2 * a1.toNatClampNeg) a2 a3 σ)) hr6 ?_
      obtain ⟨e7, he7, h⟩ := letb_inv h
      refine lv_nm he7 ?_
      refine lv_istore (lv' := [(5, .int e7), (0, .ref (ad 0)), (1, .int a1), (2, .int a2), (3, .int a3), (4, .int a4)]) hx hb dX9_lay_28 hl (by decide) rfl (fun ls hl => ?_)
      refine lv_iload hx hb dX9_lay_30 (lv_at hl 0 rfl) ?_
      refine lv_if_eq (tgt := 42) hx hb dX9_lay_32 (by decide) (fun c8 => ?_) (fun c8 => ?_)
      · replace h := ifp (c8) h
        refine lv_aload_n hx hb dX9_lay_42 rfl (lv_at hl 1 rfl) ?_
        refine gf_X9_2 hx hb hts iw_X9_lay_X9 hown hK hP (hts (.fieldLink RX9 40 "TraceTrees" "sheets" "[LTraceTrees$Sheet;") (List.mem_of_getElem? (i := 7) rfl)) dX9_lay_43 ?_
        refine lv_iload_n hx hb dX9_lay_46 rfl (lv_at hl 2 rfl) ?_
        refine waldS hx hb hK hP hi5 dX9_lay_47 ?_
        refine lv_iload_n hx hb dX9_lay_48 rfl (lv_at hl 4 rfl) ?_
        refine lv_iload hx hb dX9_lay_49 (lv_at hl 5 rfl) ?_
        obtain ⟨σ9, hc9, h⟩ := obd_inv h
        refine wcallv (S := Unit) (va_runV (As := [.int a3, .int a4]) (rest := []) ⟨hx, hb, hml, hown, hts⟩ (c_X6_lower l dC dI cI cT cS H.size ad (13 + 2 * a1.toNatClampNeg) (isSh_i hi5) a3 a4 σ _ hc9) (cwV 2 hts (gWV (List.mem_of_getElem? (i := 11) rfl) (List.mem_of_getElem? (i := 12) rfl) (List.mem_of_getElem? (i := 13) rfl) (List.mem_of_getElem? (i := 6) rfl) ic_X9_lay_c_X6_lower gd_c_X6_lower) rfl rfl rfl (by decide +kernel) ⟨(Nat.le_of_ble_eq_true rfl), (Nat.le_of_ble_eq_true rfl)⟩) (wpV (q := (RX6, TX6, 3)) hP hK hD (oX6 (isSh_i hi5)) rfl) rfl rfl hl.1 rfl (lv_room (Nat.le_of_ble_eq_true rfl)) dX9_lay_51 ⟨(Nat.le_of_ble_eq_true rfl), (Nat.le_of_ble_eq_true rfl)⟩) hP hD hS hA (fun _ H locs hr10 hP hD hS => ?_)
        replace hP : va_P (dC, dI) vwCl (Wd 153 (cfC ad cI cT cS) σ9) H := hP
        replace hD : va_D A (Wd 153 (cfC ad cI cT cS) σ9) := hD
        refine lv_iconst (v := 1) hx hb dX9_lay_54 (by decide) ?_
        have h9 := Option.some.inj h
        exact wreti hx hb hr hlocks hP hD hS (by show _ = _; rw [← h9]; first | done | rfl) (by rw [← h9]) dX9_lay_55
      · replace h := ifn (c8) h
        refine lv_aload_n hx hb dX9_lay_35 rfl (lv_at hl 1 rfl) ?_
        refine lv_iload hx hb dX9_lay_36 (lv_at hl 0 rfl) ?_
        obtain ⟨q11, hc11, h⟩ := letb_inv h
        refine wcalli (S := Unit) (va_runV (As := [.int e7]) (rest := []) ⟨hx, hb, hml, hown, hts⟩ (c_X9_found l dC dI cI cT cS H.size ad  e7 σ _ hc11) (cwV 1 hts (gWV (List.mem_of_getElem? (i := 14) rfl) (List.mem_of_getElem? (i := 15) rfl) (List.mem_of_getElem? (i := 16) rfl) (List.mem_of_getElem? (i := 3) rfl) ic_X9_lay_c_X9_found gd_c_X9_found) rfl rfl rfl (by decide +kernel) ⟨(Nat.le_of_ble_eq_true rfl), (Nat.le_of_ble_eq_true rfl)⟩) (wpV (q := (RX9, TX9, 14)) hP hK hD oX9 rfl) rfl rfl hl.1 rfl (lv_room (Nat.le_of_ble_eq_true rfl)) dX9_lay_38 ⟨(Nat.le_of_ble_eq_true rfl), (Nat.le_of_ble_eq_true rfl)⟩) hP hD hS hA (fun rr12 _ H locs hr12 hP hD hS => ?_)
        replace hP : va_P (dC, dI) vwCl (Wd 153 (cfC ad cI cT cS) q11.2) H := hP
        replace hD : va_D A (Wd 153 (cfC ad cI cT cS) q11.2) := hD
        refine lv_nm (y := q11.1) hr12 ?_
        have h9 := Option.some.inj h
        exact wreti hx hb hr hlocks hP hD hS (by show _ = _; rw [← h9]; first | done | rfl) (by rw [← h9]) dX9_lay_41
    · replace h := ifn (b2i_0 c4) h
      exact J14  H locs ls h hP hD hS (lv_sub (l' := []) hl [] rfl)
def zb_X9_get_14 (σ : Sg) : Option (Int32 × Sg) := some ((-2147483648 : Int32), σ)
def zf_X9_get (a1 : Int32) (a2 : Int32) (a3 : Int32) (σ : Sg) : Option (Int32 × Sg) := (if (zf_X9_isSheet a1) = true then (if (zf_X6_isForm a2) = true then bd a1 4 (letb (zf_X6_faultAt (13 + 2 * a1.toNatClampNeg) a2 a3 σ) (fun e7 => (if e7 = 0 then bd a3 60 (some ((σ ((13 + 2 * a1.toNatClampNeg) + 1) a3.toNatClampNeg), σ)) else some ((-2147483648 : Int32), su σ 0 8 e7)))) else (zb_X9_get_14 σ)) else (zb_X9_get_14 σ))
def oc_X9_get : List Cond := [.methodLink RX9 90 yX9_isSheet, .static yX9_isSheet, .initialized RX9, .methodLink RX9 152 yX6_isForm, .static yX6_isForm, .initialized RX6, .fieldLink RX9 40 "TraceTrees" "sheets" "[LTraceTrees$Sheet;", .methodLink RX9 159 yX6_faultAt, .instanceMethod yX6_faultAt, .selects RX6 yX6_faultAt yX6_faultAt, .fieldLink RX9 102 "TraceTrees$Sheet" "items" "[I", .fieldLink RX9 166 "TraceTrees" "finding" "I", .constant RX9 165 (-2147483648)]
def vc_X9_get : List Cond := .code yX9_get cX9_get 5 (some .int) :: (oc_X9_get ++ (wsX90 ++ (wsX60 ++ (vc_X9_isSheet ++ (vc_X6_isForm ++ (vc_X6_faultAt))))))
theorem iw_X9_get_X9 : ∀ w ∈ wsX90, w ∈ vc_X9_get := fun _ h => List.mem_cons_of_mem _ (List.mem_append_right _ (List.mem_append_left _ h))
theorem iw_X9_get_X6 : ∀ w ∈ wsX60, w ∈ vc_X9_get := fun _ h => List.mem_cons_of_mem _ (List.mem_append_right _ (List.mem_append_right _ (List.mem_append_left _ h)))
theorem ic_X9_get_c_X9_isSheet : ∀ w ∈ vc_X9_isSheet, w ∈ vc_X9_get := fun _ h => List.mem_cons_of_mem _ (List.mem_append_right _ (List.mem_append_right _ (List.mem_append_right _ (List.mem_append_left _ h))))
theorem ic_X9_get_c_X6_isForm : ∀ w ∈ vc_X6_isForm, w ∈ vc_X9_get := fun _ h => List.mem_cons_of_mem _ (List.mem_append_right _ (List.mem_append_right _ (List.mem_append_right _ (List.mem_append_right _ (List.mem_append_left _ h)))))
theorem ic_X9_get_c_X6_faultAt : ∀ w ∈ vc_X6_faultAt, w ∈ vc_X9_get := fun _ h => List.mem_cons_of_mem _ (List.mem_append_right _ (List.mem_append_right _ (List.mem_append_right _ (List.mem_append_right _ (List.mem_append_right _ (h))))))
theorem gd_c_X9_get : (vc_X9_get).all goodWord = true := gall_cons rfl (gall_app (by decide +kernel) (gall_app gw_X9 (gall_app gw_X6 (gall_app gd_c_X9_isSheet (gall_app gd_c_X6_isForm gd_c_X6_faultAt)))))
set_option maxHeartbeats 4000000 in
set_option maxRecDepth 100000 in
theorem c_X9_get (l : Launch) (dC : Nat → ClassId) (dI : Nat → Nat → Nat) (cI cT cS : ClassId) (sz : Nat) (ad : Nat → Nat) (a1 : Int32) (a2 : Int32) (a3 : Int32) (σ : Sg) (o : Int32 × Sg) (h : zf_X9_get a1 a2 a3 σ = some o) : gCI (S := Unit) l yX9_get vc_X9_get { frames := 2, cells := 0, slots := 0, locals := 42 } (dC, dI) (gTY cI cT cS) sz [.ref (ad 0), .int a1, .int a2, .int a3] (Wd 153 (cfC ad cI cT cS) σ) (fun (r : Int32) (_ : Unit) => r = o.1) (fun (_ : Unit) => (Wd 153 (cfC ad cI cT cS) o.2)) 0 0 := by
  refine Met.ofW (cc := cX9_get) (maxL := 5) (ret := (some .int)) (by decide) rfl ?_
  intro p e s m args below meth c s₁ B hml hv
  obtain ⟨rfl, hsz, hP, hK, hD0⟩ := hv
  have hx := B.exec
  have hb := B.bytes
  have hr := B.returns
  have hts := atoms_spec (ws := vc_X9_get) B.pre
  have hown : s.vm.findClass RX9 = some m.cls := findClass_of_methodNamed B.named
  have hlocks := B.notSynchronized
  subst hsz
  have hD := hD0.self (sz := s.heap.size)
  generalize hAe : va_A (Wd 153 (cfC ad cI cT cS) σ) s.heap.size = A at hD ⊢
  have hA : ∀ q : Nat, s.heap.size ≤ q → A q := fun q h => by rw [← hAe]; exact Or.inr h
  clear hAe hD0
  refine gstart (fun H locs hHe hLe => ?_)
  have hS : va_S A s.heap H locs := by rw [← hHe, ← hLe]; exact va_S.rf
  replace hP : va_P (dC, dI) vwCl (Wd 153 (cfC ad cI cT cS) σ) H := by rw [← hHe]; exact hP
  clear hHe hLe
  have hl := lv_entry ([.ref (ad 0), .int a1, .int a2, .int a3]) (n := 5) (Nat.le_of_ble_eq_true rfl)
  rw [lg_entry_eq]
  generalize (lg_sl ([.ref (ad 0), .int a1, .int a2, .int a3]) ++ List.replicate (5 - (lg_sl ([.ref (ad 0), .int a1, .int a2, .int a3])).length) Slot.unset).toArray = ls at hl ⊢
  replace hl : lv_has ls 5 [(0, .ref (ad 0)), (1, .int a1), (2, .int a2), (3, .int a3)] := hl
  unfold zf_X9_get at h
  have J14 : ∀  (H : Heap) (locs : List Loc) (ls : Array Slot), zb_X9_get_14 σ = some o → va_P (dC, dI) vwCl (Wd 153 (cfC ad cI cT cS) σ) H → va_D A (Wd 153 (cfC ad cI cT cS) σ) → va_S A s.heap H locs → lv_has ls 5 [] → W p l e (headSpec vc_X9_get { frames := 2, cells := 0, slots := 0, locals := 42 }).room s m (List.toArray (α := Value) [.ref (ad 0), .int a1, .int a2, .int a3]) below meth c H locs 0 0 (MQ below (va_Qi (fun (r : Int32) (_ : Unit) => r = o.1) (gB (dC, dI) A (fun (_ : Unit) => (Wd 153 (cfC ad cI cT cS) o.2))) A) (List.toArray (α := Value) [.ref (ad 0), .int a1, .int a2, .int a3]) s 0 0 A) (F0 m 14 ls []) := by
    intro  H locs ls h hP hD hS hl
    unfold zb_X9_get_14 at h
    refine lv_ldc (v := (-2147483648)) hx hb hown (hts (.constant RX9 165 (-2147483648)) (List.mem_of_getElem? (i := 13) rfl)) dX9_get_14 ?_
    have h9 := Option.some.inj h
    exact wreti hx hb hr hlocks hP hD hS (by show _ = _; rw [← h9]; first | done | rfl) (by rw [← h9]) dX9_get_16
  refine lv_iload_n hx hb dX9_get_0 rfl (lv_at hl 1 rfl) ?_
  refine wcalli (S := Unit) (va_runS (As := [.int a1]) (rest := []) ⟨hx, hb, hml, hown, hts⟩ (c_X9_isSheet l dC dI cI cT cS H.size (Wd 153 (cfC ad cI cT cS) σ)  a1 _ rfl) (va_cwS 1 hts (gWS (List.mem_of_getElem? (i := 1) rfl) (List.mem_of_getElem? (i := 2) rfl) (List.mem_of_getElem? (i := 3) rfl) ic_X9_get_c_X9_isSheet gd_c_X9_isSheet) rfl rfl rfl (by decide +kernel) ⟨(Nat.le_of_ble_eq_true rfl), (Nat.le_of_ble_eq_true rfl)⟩) (gpS hP hK hD) rfl rfl hl.1 rfl (lv_room (Nat.le_of_ble_eq_true rfl)) dX9_get_1 ⟨(Nat.le_of_ble_eq_true rfl), (Nat.le_of_ble_eq_true rfl)⟩) hP hD hS hA (fun rr1 _ H locs hr1 hP hD hS => ?_)
  refine lv_nm (y := b2i (zf_X9_isSheet a1)) hr1 ?_
  refine lv_if_eq (tgt := 14) hx hb dX9_get_4 (by decide) (fun c2 => ?_) (fun c2 => ?_)
  · replace h := ifn (b2i_0 c2) h
    exact J14  H locs ls h hP hD hS (lv_sub (l' := []) hl [] rfl)
  · replace h := ifp (b2i_1 c2) h
    refine lv_iload_n hx hb dX9_get_7 rfl (lv_at hl 2 rfl) ?_
    refine wcalli (S := Unit) (va_runS (As := [.int a2]) (rest := []) ⟨hx, hb, hml, hown, hts⟩ (c_X6_isForm l dC dI cI cT cS H.size (Wd 153 (cfC ad cI cT cS) σ)  a2 _ rfl) (va_cwS 1 hts (gWS (List.mem_of_getElem? (i := 4) rfl) (List.mem_of_getElem? (i := 5) rfl) (List.mem_of_getElem? (i := 6) rfl) ic_X9_get_c_X6_isForm gd_c_X6_isForm) rfl rfl rfl (by decide +kernel) ⟨(Nat.le_of_ble_eq_true rfl), (Nat.le_of_ble_eq_true rfl)⟩) (gpS hP hK hD) rfl rfl hl.1 rfl (lv_room (Nat.le_of_ble_eq_true rfl)) dX9_get_8 ⟨(Nat.le_of_ble_eq_true rfl), (Nat.le_of_ble_eq_true rfl)⟩) hP hD hS hA (fun rr3 _ H locs hr3 hP hD hS => ?_)
    refine lv_nm (y := b2i (zf_X6_isForm a2)) hr3 ?_
    refine lv_if_ne (tgt := 17) hx hb dX9_get_11 (by decide) (fun c4 => ?_) (fun c4 => ?_)
    · replace h := ifp (b2i_1 c4) h
      refine lv_aload_n hx hb dX9_get_17 rfl (lv_at hl 0 rfl) ?_
      refine gf_X9_2 hx hb hts iw_X9_get_X9 hown hK hP (hts (.fieldLink RX9 40 "TraceTrees" "sheets" "[LTraceTrees$Sheet;") (List.mem_of_getElem? (i := 7) rfl)) dX9_get_18 ?_
      refine lv_iload_n hx hb dX9_get_21 rfl (lv_at hl 1 rfl) ?_
      obtain ⟨hi5, h⟩ := bd_inv h
      refine waldS hx hb hK hP hi5 dX9_get_22 ?_
      refine lv_iload_n hx hb dX9_get_23 rfl (lv_at hl 2 rfl) ?_
      refine lv_iload_n hx hb dX9_get_24 rfl (lv_at hl 3 rfl) ?_
      refine wcalli (S := Unit) (va_runV (As := [.int a2, .int a3]) (rest := []) ⟨hx, hb, hml, hown, hts⟩ (c_X6_faultAt l dC dI cI cT cS H.size ad (13 + 2 * a1.toNatClampNeg) (isSh_i hi5) a2 a3 σ _ rfl) (cwV 2 hts (gWV (List.mem_of_getElem? (i := 8) rfl) (List.mem_of_getElem? (i := 9) rfl) (List.mem_of_getElem? (i := 10) rfl) (List.mem_of_getElem? (i := 6) rfl) ic_X9_get_c_X6_faultAt gd_c_X6_faultAt) rfl rfl rfl (by decide +kernel) ⟨(Nat.le_of_ble_eq_true rfl), (Nat.le_of_ble_eq_true rfl)⟩) (wpV (q := (RX6, TX6, 3)) hP hK hD (oX6 (isSh_i hi5)) rfl) rfl rfl hl.1 rfl (lv_room (Nat.le_of_ble_eq_true rfl)) dX9_get_25 ⟨(Nat.le_of_ble_eq_true rfl), (Nat.le_of_ble_eq_true rfl)⟩) hP hD hS hA (fun rr6 _ H locs hr6 hP hD hS => ?_)
      refine lv_nm (y := (zf_X6_faultAt (13 + 2 * a1.toNatClampNeg) a2 a3 σ)) hr6 ?_
      obtain ⟨e7, he7, h⟩ := letb_inv h
      refine lv_nm he7 ?_
      refine lv_istore (lv' := [(4, .int e7), (0, .ref (ad 0)), (1, .int a1), (2, .int a2), (3, .int a3)]) hx hb dX9_get_28 hl (by decide) rfl (fun ls hl => ?_)
      refine lv_iload hx hb dX9_get_30 (lv_at hl 0 rfl) ?_
      refine lv_if_eq (tgt := 44) hx hb dX9_get_32 (by decide) (fun c8 => ?_) (fun c8 => ?_)
      · replace h := ifp (c8) h
        refine lv_aload_n hx hb dX9_get_44 rfl (lv_at hl 1 rfl) ?_
        refine gf_X9_2 hx hb hts iw_X9_get_X9 hown hK hP (hts (.fieldLink RX9 40 "TraceTrees" "sheets" "[LTraceTrees$Sheet;") (List.mem_of_getElem? (i := 7) rfl)) dX9_get_45 ?_
        refine lv_iload_n hx hb dX9_get_48 rfl (lv_at hl 2 rfl) ?_
        refine waldS hx hb hK hP hi5 dX9_get_49 ?_
        refine gf_X6_0 (isSh_i hi5) hx hb hts iw_X9_get_X6 hown hK hP (hts (.fieldLink RX9 102 "TraceTrees$Sheet" "items" "[I") (List.mem_of_getElem? (i := 11) rfl)) dX9_get_50 ?_
        refine lv_iload_n hx hb dX9_get_53 rfl (lv_at hl 4 rfl) ?_
        obtain ⟨hi9, h⟩ := bd_inv h
        refine wald hx hb hK hP (aS1 (isSh_i hi5)) hi9 dX9_get_54 ?_
        have h9 := Option.some.inj h
        exact wreti hx hb hr hlocks hP hD hS (by show _ = _; rw [← h9]; first | done | rfl) (by rw [← h9]) dX9_get_55
      · replace h := ifn (c8) h
        refine lv_aload_n hx hb dX9_get_35 rfl (lv_at hl 1 rfl) ?_
        refine lv_iload hx hb dX9_get_36 (lv_at hl 0 rfl) ?_
        refine pf_X9_8 hx hb hts iw_X9_get_X9 hown hK hP hD hS (hts (.fieldLink RX9 166 "TraceTrees" "finding" "I") (List.mem_of_getElem? (i := 12) rfl)) dX9_get_38 (fun H locs hP hD hS => ?_)
        refine lv_ldc (v := (-2147483648)) hx hb hown (hts (.constant RX9 165 (-2147483648)) (List.mem_of_getElem? (i := 13) rfl)) dX9_get_41 ?_
        have h9 := Option.some.inj h
        exact wreti hx hb hr hlocks hP hD hS (by show _ = _; rw [← h9]; first | done | rfl) (by rw [← h9]) dX9_get_43
    · replace h := ifn (b2i_0 c4) h
      exact J14  H locs ls h hP hD hS (lv_sub (l' := []) hl [] rfl)
def zb_X9_copy_14 (σ : Sg) : Option (Int32 × Sg) := some ((-2 : Int32), σ)
def zb_X9_copy_49 (σ : Sg) : Option (Int32 × Sg) := letb (zf_X9_found (1 : Int32) σ) (fun q21 => some (q21.1, q21.2))
def zb_X9_copy_97 (σ : Sg) : Option (Int32 × Sg) := letb (zf_X9_found (2 : Int32) σ) (fun q19 => some (q19.1, q19.2))
def zf_X9_copy (a1 : Int32) (a2 : Int32) (a3 : Int32) (a4 : Int32) (a5 : Int32) (σ : Sg) : Option (Int32 × Sg) := (if (zf_X9_isSheet a1) = true then (if (zf_X9_isSheet a3) = true then bd a1 4 (bd a3 4 ((if (zf_X6_isLost (13 + 2 * a1.toNatClampNeg) σ) = true then (zb_X9_copy_49 σ) else (if (zf_X6_isLost (13 + 2 * a3.toNatClampNeg) σ) = true then (zb_X9_copy_49 σ) else (if (σ (13 + 2 * a1.toNatClampNeg) 1) = (σ (13 + 2 * a3.toNatClampNeg) 1) then (if (zf_X6_hasSpan (13 + 2 * a1.toNatClampNeg) a2 a5 σ) = true then (if (zf_X6_hasSpan (13 + 2 * a3.toNatClampNeg) a4 a5 σ) = true then cpd a2 a4 a5 60 60 (some ((1 : Int32), cpy σ ((13 + 2 * a1.toNatClampNeg) + 1) ((13 + 2 * a3.toNatClampNeg) + 1) a2 a4 a5)) else (zb_X9_copy_97 σ)) else (zb_X9_copy_97 σ)) else letb (zf_X9_found (4 : Int32) σ) (fun q17 => some (q17.1, q17.2))))))) else (zb_X9_copy_14 σ)) else (zb_X9_copy_14 σ))
def oc_X9_copy : List Cond := [.methodLink RX9 90 yX9_isSheet, .static yX9_isSheet, .initialized RX9, .fieldLink RX9 40 "TraceTrees" "sheets" "[LTraceTrees$Sheet;", .methodLink RX9 93 yX6_isLost, .instanceMethod yX6_isLost, .selects RX6 yX6_isLost yX6_isLost, .initialized RX6, .fieldLink RX9 169 "TraceTrees$Sheet" "form" "I", .methodLink RX9 172 yX6_hasSpan, .instanceMethod yX6_hasSpan, .selects RX6 yX6_hasSpan yX6_hasSpan, .fieldLink RX9 102 "TraceTrees$Sheet" "items" "[I", .methodLink RX9 176 arraycopyName, .native arraycopyName, .static arraycopyName, .initialized "java/lang/System", .methodLink RX9 97 yX9_found, .instanceMethod yX9_found, .selects RX9 yX9_found yX9_found]
def vc_X9_copy : List Cond := .code yX9_copy cX9_copy 8 (some .int) :: (oc_X9_copy ++ (wsX90 ++ (wsX60 ++ (vc_X9_isSheet ++ (vc_X6_isLost ++ (vc_X6_hasSpan ++ (vc_X9_found)))))))
theorem iw_X9_copy_X9 : ∀ w ∈ wsX90, w ∈ vc_X9_copy := fun _ h => List.mem_cons_of_mem _ (List.mem_append_right _ (List.mem_append_left _ h))
theorem iw_X9_copy_X6 : ∀ w ∈ wsX60, w ∈ vc_X9_copy := fun _ h => List.mem_cons_of_mem _ (List.mem_append_right _ (List.mem_append_right _ (List.mem_append_left _ h)))
theorem ic_X9_copy_c_X9_isSheet : ∀ w ∈ vc_X9_isSheet, w ∈ vc_X9_copy := fun _ h => List.mem_cons_of_mem _ (List.mem_append_right _ (List.mem_append_right _ (List.mem_append_right _ (List.mem_append_left _ h))))
theorem ic_X9_copy_c_X6_isLost : ∀ w ∈ vc_X6_isLost, w ∈ vc_X9_copy := fun _ h => List.mem_cons_of_mem _ (List.mem_append_right _ (List.mem_append_right _ (List.mem_append_right _ (List.mem_append_right _ (List.mem_append_left _ h)))))
theorem ic_X9_copy_c_X6_hasSpan : ∀ w ∈ vc_X6_hasSpan, w ∈ vc_X9_copy := fun _ h => List.mem_cons_of_mem _ (List.mem_append_right _ (List.mem_append_right _ (List.mem_append_right _ (List.mem_append_right _ (List.mem_append_right _ (List.mem_append_left _ h))))))
theorem ic_X9_copy_c_X9_found : ∀ w ∈ vc_X9_found, w ∈ vc_X9_copy := fun _ h => List.mem_cons_of_mem _ (List.mem_append_right _ (List.mem_append_right _ (List.mem_append_right _ (List.mem_append_right _ (List.mem_append_right _ (List.mem_append_right _ (h)))))))
theorem gd_c_X9_copy : (vc_X9_copy).all goodWord = true := gall_cons rfl (gall_app (by decide +kernel) (gall_app gw_X9 (gall_app gw_X6 (gall_app gd_c_X9_isSheet (gall_app gd_c_X6_isLost (gall_app gd_c_X6_hasSpan gd_c_X9_found))))))
set_option maxHeartbeats 4000000 in
set_option maxRecDepth 100000 in
theorem c_X9_copy (l : Launch) (dC : Nat → ClassId) (dI : Nat → Nat → Nat) (cI cT cS : ClassId) (sz : Nat) (ad : Nat → Nat) (a1 : Int32) (a2 : Int32) (a3 : Int32) (a4 : Int32) (a5 : Int32) (σ : Sg) (o : Int32 × Sg) (h : zf_X9_copy a1 a2 a3 a4 a5 σ = some o) : gCI (S := Unit) l yX9_copy vc_X9_copy { frames := 1, cells := 0, slots := 0, locals := 40 } (dC, dI) (gTY cI cT cS) sz [.ref (ad 0), .int a1, .int a2, .int a3, .int a4, .int a5] (Wd 153 (cfC ad cI cT cS) σ) (fun (r : Int32) (_ : Unit) => r = o.1) (fun (_ : Unit) => (Wd 153 (cfC ad cI cT cS) o.2)) 0 0 := by
  refine Met.ofW (cc := cX9_copy) (maxL := 8) (ret := (some .int)) (by decide) rfl ?_
  intro p e s m args below meth c s₁ B hml hv
  obtain ⟨rfl, hsz, hP, hK, hD0⟩ := hv
  have hx := B.exec
  have hb := B.bytes
  have hr := B.returns
  have hts := atoms_spec (ws := vc_X9_copy) B.pre
  have hown : s.vm.findClass RX9 = some m.cls := findClass_of_methodNamed B.named
  have hlocks := B.notSynchronized
  subst hsz
  have hD := hD0.self (sz := s.heap.size)
  generalize hAe : va_A (Wd 153 (cfC ad cI cT cS) σ) s.heap.size = A at hD ⊢
  have hA : ∀ q : Nat, s.heap.size ≤ q → A q := fun q h => by rw [← hAe]; exact Or.inr h
  clear hAe hD0
  refine gstart (fun H locs hHe hLe => ?_)
  have hS : va_S A s.heap H locs := by rw [← hHe, ← hLe]; exact va_S.rf
  replace hP : va_P (dC, dI) vwCl (Wd 153 (cfC ad cI cT cS) σ) H := by rw [← hHe]; exact hP
  clear hHe hLe
  have hl := lv_entry ([.ref (ad 0), .int a1, .int a2, .int a3, .int a4, .int a5]) (n := 8) (Nat.le_of_ble_eq_true rfl)
  rw [lg_entry_eq]
  generalize (lg_sl ([.ref (ad 0), .int a1, .int a2, .int a3, .int a4, .int a5]) ++ List.replicate (8 - (lg_sl ([.ref (ad 0), .int a1, .int a2, .int a3, .int a4, .int a5])).length) Slot.unset).toArray = ls at hl ⊢
  replace hl : lv_has ls 8 [(0, .ref (ad 0)), (1, .int a1), (2, .int a2), (3, .int a3), (4, .int a4), (5, .int a5)] := hl
  unfold zf_X9_copy at h
  have J14 : ∀  (H : Heap) (locs : List Loc) (ls : Array Slot), zb_X9_copy_14 σ = some o → va_P (dC, dI) vwCl (Wd 153 (cfC ad cI cT cS) σ) H → va_D A (Wd 153 (cfC ad cI cT cS) σ) → va_S A s.heap H locs → lv_has ls 8 [] → W p l e (headSpec vc_X9_copy { frames := 1, cells := 0, slots := 0, locals := 40 }).room s m (List.toArray (α := Value) [.ref (ad 0), .int a1, .int a2, .int a3, .int a4, .int a5]) below meth c H locs 0 0 (MQ below (va_Qi (fun (r : Int32) (_ : Unit) => r = o.1) (gB (dC, dI) A (fun (_ : Unit) => (Wd 153 (cfC ad cI cT cS) o.2))) A) (List.toArray (α := Value) [.ref (ad 0), .int a1, .int a2, .int a3, .int a4, .int a5]) s 0 0 A) (F0 m 14 ls []) := by
    intro  H locs ls h hP hD hS hl
    unfold zb_X9_copy_14 at h
    refine lv_bipush (v := (-2)) hx hb dX9_copy_14 (by decide) ?_
    have h9 := Option.some.inj h
    exact wreti hx hb hr hlocks hP hD hS (by show _ = _; rw [← h9]; first | done | rfl) (by rw [← h9]) dX9_copy_16
  have J49 : ∀  (H : Heap) (locs : List Loc) (ls : Array Slot), zb_X9_copy_49 σ = some o → va_P (dC, dI) vwCl (Wd 153 (cfC ad cI cT cS) σ) H → va_D A (Wd 153 (cfC ad cI cT cS) σ) → va_S A s.heap H locs → lv_has ls 8 [(0, .ref (ad 0))] → W p l e (headSpec vc_X9_copy { frames := 1, cells := 0, slots := 0, locals := 40 }).room s m (List.toArray (α := Value) [.ref (ad 0), .int a1, .int a2, .int a3, .int a4, .int a5]) below meth c H locs 0 0 (MQ below (va_Qi (fun (r : Int32) (_ : Unit) => r = o.1) (gB (dC, dI) A (fun (_ : Unit) => (Wd 153 (cfC ad cI cT cS) o.2))) A) (List.toArray (α := Value) [.ref (ad 0), .int a1, .int a2, .int a3, .int a4, .int a5]) s 0 0 A) (F0 m 49 ls []) := by
    intro  H locs ls h hP hD hS hl
    unfold zb_X9_copy_49 at h
    refine lv_aload_n hx hb dX9_copy_49 rfl (lv_at hl 0 rfl) ?_
    refine lv_iconst (v := 1) hx hb dX9_copy_50 (by decide) ?_
    obtain ⟨q21, hc21, h⟩ := letb_inv h
    refine wcalli (S := Unit) (va_runV (As := [.int (1 : Int32)]) (rest := []) ⟨hx, hb, hml, hown, hts⟩ (c_X9_found l dC dI cI cT cS H.size ad  (1 : Int32) σ _ hc21) (cwV 1 hts (gWV (List.mem_of_getElem? (i := 18) rfl) (List.mem_of_getElem? (i := 19) rfl) (List.mem_of_getElem? (i := 20) rfl) (List.mem_of_getElem? (i := 3) rfl) ic_X9_copy_c_X9_found gd_c_X9_found) rfl rfl rfl (by decide +kernel) ⟨(Nat.le_of_ble_eq_true rfl), (Nat.le_of_ble_eq_true rfl)⟩) (wpV (q := (RX9, TX9, 14)) hP hK hD oX9 rfl) rfl rfl hl.1 rfl (lv_room (Nat.le_of_ble_eq_true rfl)) dX9_copy_51 ⟨(Nat.le_of_ble_eq_true rfl), (Nat.le_of_ble_eq_true rfl)⟩) hP hD hS hA (fun rr22 _ H locs hr22 hP hD hS => ?_)
    replace hP : va_P (dC, dI) vwCl (Wd 153 (cfC ad cI cT cS) q21.2) H := hP
    replace hD : va_D A (Wd 153 (cfC ad cI cT cS) q21.2) := hD
    refine lv_nm (y := q21.1) hr22 ?_
    have h9 := Option.some.inj h
    exact wreti hx hb hr hlocks hP hD hS (by show _ = _; rw [← h9]; first | done | rfl) (by rw [← h9]) dX9_copy_54
  have J97 : ∀  (H : Heap) (locs : List Loc) (ls : Array Slot), zb_X9_copy_97 σ = some o → va_P (dC, dI) vwCl (Wd 153 (cfC ad cI cT cS) σ) H → va_D A (Wd 153 (cfC ad cI cT cS) σ) → va_S A s.heap H locs → lv_has ls 8 [(0, .ref (ad 0))] → W p l e (headSpec vc_X9_copy { frames := 1, cells := 0, slots := 0, locals := 40 }).room s m (List.toArray (α := Value) [.ref (ad 0), .int a1, .int a2, .int a3, .int a4, .int a5]) below meth c H locs 0 0 (MQ below (va_Qi (fun (r : Int32) (_ : Unit) => r = o.1) (gB (dC, dI) A (fun (_ : Unit) => (Wd 153 (cfC ad cI cT cS) o.2))) A) (List.toArray (α := Value) [.ref (ad 0), .int a1, .int a2, .int a3, .int a4, .int a5]) s 0 0 A) (F0 m 97 ls []) := by
    intro  H locs ls h hP hD hS hl
    unfold zb_X9_copy_97 at h
    refine lv_aload_n hx hb dX9_copy_97 rfl (lv_at hl 0 rfl) ?_
    refine lv_iconst (v := 2) hx hb dX9_copy_98 (by decide) ?_
    obtain ⟨q19, hc19, h⟩ := letb_inv h
    refine wcalli (S := Unit) (va_runV (As := [.int (2 : Int32)]) (rest := []) ⟨hx, hb, hml, hown, hts⟩ (c_X9_found l dC dI cI cT cS H.size ad  (2 : Int32) σ _ hc19) (cwV 1 hts (gWV (List.mem_of_getElem? (i := 18) rfl) (List.mem_of_getElem? (i := 19) rfl) (List.mem_of_getElem? (i := 20) rfl) (List.mem_of_getElem? (i := 3) rfl) ic_X9_copy_c_X9_found gd_c_X9_found) rfl rfl rfl (by decide +kernel) ⟨(Nat.le_of_ble_eq_true rfl), (Nat.le_of_ble_eq_true rfl)⟩) (wpV (q := (RX9, TX9, 14)) hP hK hD oX9 rfl) rfl rfl hl.1 rfl (lv_room (Nat.le_of_ble_eq_true rfl)) dX9_copy_99 ⟨(Nat.le_of_ble_eq_true rfl), (Nat.le_of_ble_eq_true rfl)⟩) hP hD hS hA (fun rr20 _ H locs hr20 hP hD hS => ?_)
    replace hP : va_P (dC, dI) vwCl (Wd 153 (cfC ad cI cT cS) q19.2) H := hP
    replace hD : va_D A (Wd 153 (cfC ad cI cT cS) q19.2) := hD
    refine lv_nm (y := q19.1) hr20 ?_
    have h9 := Option.some.inj h
    exact wreti hx hb hr hlocks hP hD hS (by show _ = _; rw [← h9]; first | done | rfl) (by rw [← h9]) dX9_copy_102
  refine lv_iload_n hx hb dX9_copy_0 rfl (lv_at hl 1 rfl) ?_
  refine wcalli (S := Unit) (va_runS (As := [.int a1]) (rest := []) ⟨hx, hb, hml, hown, hts⟩ (c_X9_isSheet l dC dI cI cT cS H.size (Wd 153 (cfC ad cI cT cS) σ)  a1 _ rfl) (va_cwS 1 hts (gWS (List.mem_of_getElem? (i := 1) rfl) (List.mem_of_getElem? (i := 2) rfl) (List.mem_of_getElem? (i := 3) rfl) ic_X9_copy_c_X9_isSheet gd_c_X9_isSheet) rfl rfl rfl (by decide +kernel) ⟨(Nat.le_of_ble_eq_true rfl), (Nat.le_of_ble_eq_true rfl)⟩) (gpS hP hK hD) rfl rfl hl.1 rfl (lv_room (Nat.le_of_ble_eq_true rfl)) dX9_copy_1 ⟨(Nat.le_of_ble_eq_true rfl), (Nat.le_of_ble_eq_true rfl)⟩) hP hD hS hA (fun rr1 _ H locs hr1 hP hD hS => ?_)
  refine lv_nm (y := b2i (zf_X9_isSheet a1)) hr1 ?_
  refine lv_if_eq (tgt := 14) hx hb dX9_copy_4 (by decide) (fun c2 => ?_) (fun c2 => ?_)
  · replace h := ifn (b2i_0 c2) h
    exact J14  H locs ls h hP hD hS (lv_sub (l' := []) hl [] rfl)
  · replace h := ifp (b2i_1 c2) h
    refine lv_iload_n hx hb dX9_copy_7 rfl (lv_at hl 3 rfl) ?_
    refine wcalli (S := Unit) (va_runS (As := [.int a3]) (rest := []) ⟨hx, hb, hml, hown, hts⟩ (c_X9_isSheet l dC dI cI cT cS H.size (Wd 153 (cfC ad cI cT cS) σ)  a3 _ rfl) (va_cwS 1 hts (gWS (List.mem_of_getElem? (i := 1) rfl) (List.mem_of_getElem? (i := 2) rfl) (List.mem_of_getElem? (i := 3) rfl) ic_X9_copy_c_X9_isSheet gd_c_X9_isSheet) rfl rfl rfl (by decide +kernel) ⟨(Nat.le_of_ble_eq_true rfl), (Nat.le_of_ble_eq_true rfl)⟩) (gpS hP hK hD) rfl rfl hl.1 rfl (lv_room (Nat.le_of_ble_eq_true rfl)) dX9_copy_8 ⟨(Nat.le_of_ble_eq_true rfl), (Nat.le_of_ble_eq_true rfl)⟩) hP hD hS hA (fun rr3 _ H locs hr3 hP hD hS => ?_)
    refine lv_nm (y := b2i (zf_X9_isSheet a3)) hr3 ?_
    refine lv_if_ne (tgt := 17) hx hb dX9_copy_11 (by decide) (fun c4 => ?_) (fun c4 => ?_)
    · replace h := ifp (b2i_1 c4) h
      refine lv_aload_n hx hb dX9_copy_17 rfl (lv_at hl 0 rfl) ?_
      refine gf_X9_2 hx hb hts iw_X9_copy_X9 hown hK hP (hts (.fieldLink RX9 40 "TraceTrees" "sheets" "[LTraceTrees$Sheet;") (List.mem_of_getElem? (i := 4) rfl)) dX9_copy_18 ?_
      refine lv_iload_n hx hb dX9_copy_21 rfl (lv_at hl 1 rfl) ?_
      obtain ⟨hi5, h⟩ := bd_inv h
      refine waldS hx hb hK hP hi5 dX9_copy_22 ?_
      refine lv_astore (lv' := [(6, .ref (ad (13 + 2 * a1.toNatClampNeg))), (0, .ref (ad 0)), (1, .int a1), (2, .int a2), (3, .int a3), (4, .int a4), (5, .int a5)]) hx hb dX9_copy_23 hl (by decide) rfl (fun ls hl => ?_)
      refine lv_aload_n hx hb dX9_copy_25 rfl (lv_at hl 1 rfl) ?_
      refine gf_X9_2 hx hb hts iw_X9_copy_X9 hown hK hP (hts (.fieldLink RX9 40 "TraceTrees" "sheets" "[LTraceTrees$Sheet;") (List.mem_of_getElem? (i := 4) rfl)) dX9_copy_26 ?_
      refine lv_iload_n hx hb dX9_copy_29 rfl (lv_at hl 4 rfl) ?_
      obtain ⟨hi6, h⟩ := bd_inv h
      refine waldS hx hb hK hP hi6 dX9_copy_30 ?_
      refine lv_astore (lv' := [(7, .ref (ad (13 + 2 * a3.toNatClampNeg))), (6, .ref (ad (13 + 2 * a1.toNatClampNeg))), (0, .ref (ad 0)), (1, .int a1), (2, .int a2), (3, .int a3), (4, .int a4), (5, .int a5)]) hx hb dX9_copy_31 hl (by decide) rfl (fun ls hl => ?_)
      refine lv_aload hx hb dX9_copy_33 (lv_at hl 1 rfl) ?_
      refine wcalli (S := Unit) (va_runV (As := []) (rest := []) ⟨hx, hb, hml, hown, hts⟩ (c_X6_isLost l dC dI cI cT cS H.size ad (13 + 2 * a1.toNatClampNeg) (isSh_i hi5)  σ _ rfl) (cwV 0 hts (gWV (List.mem_of_getElem? (i := 5) rfl) (List.mem_of_getElem? (i := 6) rfl) (List.mem_of_getElem? (i := 7) rfl) (List.mem_of_getElem? (i := 8) rfl) ic_X9_copy_c_X6_isLost gd_c_X6_isLost) rfl rfl rfl (by decide +kernel) ⟨(Nat.le_of_ble_eq_true rfl), (Nat.le_of_ble_eq_true rfl)⟩) (wpV (q := (RX6, TX6, 3)) hP hK hD (oX6 (isSh_i hi5)) rfl) rfl rfl hl.1 rfl (lv_room (Nat.le_of_ble_eq_true rfl)) dX9_copy_35 ⟨(Nat.le_of_ble_eq_true rfl), (Nat.le_of_ble_eq_true rfl)⟩) hP hD hS hA (fun rr7 _ H locs hr7 hP hD hS => ?_)
      refine lv_nm (y := b2i (zf_X6_isLost (13 + 2 * a1.toNatClampNeg) σ)) hr7 ?_
      refine lv_if_ne (tgt := 49) hx hb dX9_copy_38 (by decide) (fun c8 => ?_) (fun c8 => ?_)
      · replace h := ifp (b2i_1 c8) h
        exact J49  H locs ls h hP hD hS (lv_sub (l' := [(0, .ref (ad 0))]) hl [2] rfl)
      · replace h := ifn (b2i_0 c8) h
        refine lv_aload hx hb dX9_copy_41 (lv_at hl 0 rfl) ?_
        refine wcalli (S := Unit) (va_runV (As := []) (rest := []) ⟨hx, hb, hml, hown, hts⟩ (c_X6_isLost l dC dI cI cT cS H.size ad (13 + 2 * a3.toNatClampNeg) (isSh_i hi6)  σ _ rfl) (cwV 0 hts (gWV (List.mem_of_getElem? (i := 5) rfl) (List.mem_of_getElem? (i := 6) rfl) (List.mem_of_getElem? (i := 7) rfl) (List.mem_of_getElem? (i := 8) rfl) ic_X9_copy_c_X6_isLost gd_c_X6_isLost) rfl rfl rfl (by decide +kernel) ⟨(Nat.le_of_ble_eq_true rfl), (Nat.le_of_ble_eq_true rfl)⟩) (wpV (q := (RX6, TX6, 3)) hP hK hD (oX6 (isSh_i hi6)) rfl) rfl rfl hl.1 rfl (lv_room (Nat.le_of_ble_eq_true rfl)) dX9_copy_43 ⟨(Nat.le_of_ble_eq_true rfl), (Nat.le_of_ble_eq_true rfl)⟩) hP hD hS hA (fun rr9 _ H locs hr9 hP hD hS => ?_)
        refine lv_nm (y := b2i (zf_X6_isLost (13 + 2 * a3.toNatClampNeg) σ)) hr9 ?_
        refine lv_if_eq (tgt := 55) hx hb dX9_copy_46 (by decide) (fun c10 => ?_) (fun c10 => ?_)
        · replace h := ifn (b2i_0 c10) h
          refine lv_aload hx hb dX9_copy_55 (lv_at hl 1 rfl) ?_
          refine gf_X6_1 (isSh_i hi5) hx hb hts iw_X9_copy_X6 hown hK hP (hts (.fieldLink RX9 169 "TraceTrees$Sheet" "form" "I") (List.mem_of_getElem? (i := 9) rfl)) dX9_copy_57 ?_
          refine lv_aload hx hb dX9_copy_60 (lv_at hl 0 rfl) ?_
          refine gf_X6_1 (isSh_i hi6) hx hb hts iw_X9_copy_X6 hown hK hP (hts (.fieldLink RX9 169 "TraceTrees$Sheet" "form" "I") (List.mem_of_getElem? (i := 9) rfl)) dX9_copy_62 ?_
          refine lv_icmp_eq (tgt := 74) hx hb dX9_copy_65 (by decide) (fun c11 => ?_) (fun c11 => ?_)
          · replace h := ifp (c11) h
            refine lv_aload hx hb dX9_copy_74 (lv_at hl 1 rfl) ?_
            refine lv_iload_n hx hb dX9_copy_76 rfl (lv_at hl 4 rfl) ?_
            refine lv_iload hx hb dX9_copy_77 (lv_at hl 7 rfl) ?_
            refine wcalli (S := Unit) (va_runV (As := [.int a2, .int a5]) (rest := []) ⟨hx, hb, hml, hown, hts⟩ (c_X6_hasSpan l dC dI cI cT cS H.size ad (13 + 2 * a1.toNatClampNeg) (isSh_i hi5) a2 a5 σ _ rfl) (cwV 2 hts (gWV (List.mem_of_getElem? (i := 10) rfl) (List.mem_of_getElem? (i := 11) rfl) (List.mem_of_getElem? (i := 12) rfl) (List.mem_of_getElem? (i := 8) rfl) ic_X9_copy_c_X6_hasSpan gd_c_X6_hasSpan) rfl rfl rfl (by decide +kernel) ⟨(Nat.le_of_ble_eq_true rfl), (Nat.le_of_ble_eq_true rfl)⟩) (wpV (q := (RX6, TX6, 3)) hP hK hD (oX6 (isSh_i hi5)) rfl) rfl rfl hl.1 rfl (lv_room (Nat.le_of_ble_eq_true rfl)) dX9_copy_79 ⟨(Nat.le_of_ble_eq_true rfl), (Nat.le_of_ble_eq_true rfl)⟩) hP hD hS hA (fun rr12 _ H locs hr12 hP hD hS => ?_)
            refine lv_nm (y := b2i (zf_X6_hasSpan (13 + 2 * a1.toNatClampNeg) a2 a5 σ)) hr12 ?_
            refine lv_if_eq (tgt := 97) hx hb dX9_copy_82 (by decide) (fun c13 => ?_) (fun c13 => ?_)
            · replace h := ifn (b2i_0 c13) h
              exact J97  H locs ls h hP hD hS (lv_sub (l' := [(0, .ref (ad 0))]) hl [2] rfl)
            · replace h := ifp (b2i_1 c13) h
              refine lv_aload hx hb dX9_copy_85 (lv_at hl 0 rfl) ?_
              refine lv_iload hx hb dX9_copy_87 (lv_at hl 6 rfl) ?_
              refine lv_iload hx hb dX9_copy_89 (lv_at hl 7 rfl) ?_
              refine wcalli (S := Unit) (va_runV (As := [.int a4, .int a5]) (rest := []) ⟨hx, hb, hml, hown, hts⟩ (c_X6_hasSpan l dC dI cI cT cS H.size ad (13 + 2 * a3.toNatClampNeg) (isSh_i hi6) a4 a5 σ _ rfl) (cwV 2 hts (gWV (List.mem_of_getElem? (i := 10) rfl) (List.mem_of_getElem? (i := 11) rfl) (List.mem_of_getElem? (i := 12) rfl) (List.mem_of_getElem? (i := 8) rfl) ic_X9_copy_c_X6_hasSpan gd_c_X6_hasSpan) rfl rfl rfl (by decide +kernel) ⟨(Nat.le_of_ble_eq_true rfl), (Nat.le_of_ble_eq_true rfl)⟩) (wpV (q := (RX6, TX6, 3)) hP hK hD (oX6 (isSh_i hi6)) rfl) rfl rfl hl.1 rfl (lv_room (Nat.le_of_ble_eq_true rfl)) dX9_copy_91 ⟨(Nat.le_of_ble_eq_true rfl), (Nat.le_of_ble_eq_true rfl)⟩) hP hD hS hA (fun rr14 _ H locs hr14 hP hD hS => ?_)
              refine lv_nm (y := b2i (zf_X6_hasSpan (13 + 2 * a3.toNatClampNeg) a4 a5 σ)) hr14 ?_
              refine lv_if_ne (tgt := 103) hx hb dX9_copy_94 (by decide) (fun c15 => ?_) (fun c15 => ?_)
              · replace h := ifp (b2i_1 c15) h
                refine lv_aload hx hb dX9_copy_103 (lv_at hl 1 rfl) ?_
                refine gf_X6_0 (isSh_i hi5) hx hb hts iw_X9_copy_X6 hown hK hP (hts (.fieldLink RX9 102 "TraceTrees$Sheet" "items" "[I") (List.mem_of_getElem? (i := 13) rfl)) dX9_copy_105 ?_
                refine lv_iload_n hx hb dX9_copy_108 rfl (lv_at hl 4 rfl) ?_
                refine lv_aload hx hb dX9_copy_109 (lv_at hl 0 rfl) ?_
                refine gf_X6_0 (isSh_i hi6) hx hb hts iw_X9_copy_X6 hown hK hP (hts (.fieldLink RX9 102 "TraceTrees$Sheet" "items" "[I") (List.mem_of_getElem? (i := 13) rfl)) dX9_copy_111 ?_
                refine lv_iload hx hb dX9_copy_114 (lv_at hl 6 rfl) ?_
                refine lv_iload hx hb dX9_copy_116 (lv_at hl 7 rfl) ?_
                obtain ⟨hi16, h⟩ := cpd_inv h
                refine wcopy hx hb (hml.trans hl.1.symm) hown (hts (.methodLink RX9 176 arraycopyName) (List.mem_of_getElem? (i := 14) rfl)) (hts (.native arraycopyName) (List.mem_of_getElem? (i := 15) rfl)) (hts (.static arraycopyName) (List.mem_of_getElem? (i := 16) rfl)) (hts (.initialized "java/lang/System") (List.mem_of_getElem? (i := 17) rfl)) hK hP hD hS (aS1 (isSh_i hi5)) (aS1 (isSh_i hi6)) hi16 (Nat.le_of_ble_eq_true rfl) (Nat.le_of_ble_eq_true rfl) dX9_copy_118 (fun H locs hP hD hS => ?_)
                refine lv_iconst (v := 1) hx hb dX9_copy_121 (by decide) ?_
                have h9 := Option.some.inj h
                exact wreti hx hb hr hlocks hP hD hS (by show _ = _; rw [← h9]; first | done | rfl) (by rw [← h9]) dX9_copy_122
              · replace h := ifn (b2i_0 c15) h
                exact J97  H locs ls h hP hD hS (lv_sub (l' := [(0, .ref (ad 0))]) hl [2] rfl)
          · replace h := ifn (c11) h
            refine lv_aload_n hx hb dX9_copy_68 rfl (lv_at hl 2 rfl) ?_
            refine lv_iconst (v := 4) hx hb dX9_copy_69 (by decide) ?_
            obtain ⟨q17, hc17, h⟩ := letb_inv h
            refine wcalli (S := Unit) (va_runV (As := [.int (4 : Int32)]) (rest := []) ⟨hx, hb, hml, hown, hts⟩ (c_X9_found l dC dI cI cT cS H.size ad  (4 : Int32) σ _ hc17) (cwV 1 hts (gWV (List.mem_of_getElem? (i := 18) rfl) (List.mem_of_getElem? (i := 19) rfl) (List.mem_of_getElem? (i := 20) rfl) (List.mem_of_getElem? (i := 3) rfl) ic_X9_copy_c_X9_found gd_c_X9_found) rfl rfl rfl (by decide +kernel) ⟨(Nat.le_of_ble_eq_true rfl), (Nat.le_of_ble_eq_true rfl)⟩) (wpV (q := (RX9, TX9, 14)) hP hK hD oX9 rfl) rfl rfl hl.1 rfl (lv_room (Nat.le_of_ble_eq_true rfl)) dX9_copy_70 ⟨(Nat.le_of_ble_eq_true rfl), (Nat.le_of_ble_eq_true rfl)⟩) hP hD hS hA (fun rr18 _ H locs hr18 hP hD hS => ?_)
            replace hP : va_P (dC, dI) vwCl (Wd 153 (cfC ad cI cT cS) q17.2) H := hP
            replace hD : va_D A (Wd 153 (cfC ad cI cT cS) q17.2) := hD
            refine lv_nm (y := q17.1) hr18 ?_
            have h9 := Option.some.inj h
            exact wreti hx hb hr hlocks hP hD hS (by show _ = _; rw [← h9]; first | done | rfl) (by rw [← h9]) dX9_copy_73
        · replace h := ifp (b2i_1 c10) h
          exact J49  H locs ls h hP hD hS (lv_sub (l' := [(0, .ref (ad 0))]) hl [2] rfl)
    · replace h := ifn (b2i_0 c4) h
      exact J14  H locs ls h hP hD hS (lv_sub (l' := []) hl [] rfl)
def zb_X9_write_25 (σb25 : Sg) : Option (Int32 × Sg) := some ((-2 : Int32), σb25)
def zl_X9_write_79 (a1 : Int32) (a2 : Int32) (e11 : Int32) (x79 : Int32 × Sg) : Option (Bool × (Int32 × Sg)) := (if e11 ≤ x79.1 then some (false, (x79.1, x79.2)) else bd x79.1 16 (obd (zf_X6_lower (13 + 2 * a2.toNatClampNeg) x79.1 (x79.2 ((21 + 10 + 7 * a1.toNatClampNeg) + 1) x79.1.toNatClampNeg) x79.2) (fun σ14 => some (true, ((x79.1 + (1 : Int32)), σ14)))))
def zf_X9_write (a1 : Int32) (a2 : Int32) (σ : Sg) : Option (Int32 × Sg) := obd (zf_X9_refreshRun σ) (fun σ1 => (if (zf_X2_has 21 a1 σ1) = true then (if (zf_X9_isSheet a2) = true then bd a2 4 ((if (zf_X6_isLost (13 + 2 * a2.toNatClampNeg) σ1) = true then letb (zf_X9_found (1 : Int32) σ1) (fun q16 => some (q16.1, q16.2)) else bd a1 8 (letb (if (σ1 (13 + 2 * a2.toNatClampNeg) 2) < (σ1 (21 + 10 + 7 * a1.toNatClampNeg) 10) then (σ1 (13 + 2 * a2.toNatClampNeg) 2) else (σ1 (21 + 10 + 7 * a1.toNatClampNeg) 10)) (fun e11 => obd (lp (X := Int32 × Sg) (zl_X9_write_79 a1 a2 e11) 1000 ((0 : Int32), σ1)) (fun y79 => some (e11, y79.2)))))) else (zb_X9_write_25 σ1)) else (zb_X9_write_25 σ1)))
def oc_X9_write : List Cond := [.methodLink RX9 106 yX9_refreshRun, .instanceMethod yX9_refreshRun, .selects RX9 yX9_refreshRun yX9_refreshRun, .initialized RX9, .fieldLink RX9 31 "TraceTrees" "machine" "LTraceTrees$Machine;", .fieldLink RX9 121 "TraceTrees$Machine" "forest" "LTraceTrees$Forest;", .methodLink RX9 182 yX2_has, .instanceMethod yX2_has, .selects RX2 yX2_has yX2_has, .initialized RX2, .methodLink RX9 90 yX9_isSheet, .static yX9_isSheet, .fieldLink RX9 40 "TraceTrees" "sheets" "[LTraceTrees$Sheet;", .methodLink RX9 93 yX6_isLost, .instanceMethod yX6_isLost, .selects RX6 yX6_isLost yX6_isLost, .initialized RX6, .fieldLink RX9 185 "TraceTrees$Forest" "traces" "[LTraceTrees$Trace;", .fieldLink RX9 189 "TraceTrees$Trace" "size" "I", .fieldLink RX9 101 "TraceTrees$Sheet" "size" "I", .methodLink RX9 192 Lib.Math.min.name, .static Lib.Math.min.name, .initialized "java/lang/Math", .code Lib.Math.min.name Lib.Math.min.code 2 (some .int), .fieldLink RX9 197 "TraceTrees$Trace" "point" "[I", .methodLink RX9 162 yX6_lower, .instanceMethod yX6_lower, .selects RX6 yX6_lower yX6_lower, .methodLink RX9 97 yX9_found, .instanceMethod yX9_found, .selects RX9 yX9_found yX9_found]
def vc_X9_write : List Cond := .code yX9_write cX9_write 7 (some .int) :: (oc_X9_write ++ (wsX90 ++ (wsX30 ++ (wsX20 ++ (wsX80 ++ (wsX60 ++ (vc_X9_refreshRun ++ (vc_X2_has ++ (vc_X9_isSheet ++ (vc_X6_isLost ++ (vc_X6_lower ++ (vc_X9_found))))))))))))
theorem iw_X9_write_X9 : ∀ w ∈ wsX90, w ∈ vc_X9_write := fun _ h => List.mem_cons_of_mem _ (List.mem_append_right _ (List.mem_append_left _ h))
theorem iw_X9_write_X3 : ∀ w ∈ wsX30, w ∈ vc_X9_write := fun _ h => List.mem_cons_of_mem _ (List.mem_append_right _ (List.mem_append_right _ (List.mem_append_left _ h)))
theorem iw_X9_write_X2 : ∀ w ∈ wsX20, w ∈ vc_X9_write := fun _ h => List.mem_cons_of_mem _ (List.mem_append_right _ (List.mem_append_right _ (List.mem_append_right _ (List.mem_append_left _ h))))
theorem iw_X9_write_X8 : ∀ w ∈ wsX80, w ∈ vc_X9_write := fun _ h => List.mem_cons_of_mem _ (List.mem_append_right _ (List.mem_append_right _ (List.mem_append_right _ (List.mem_append_right _ (List.mem_append_left _ h)))))
theorem iw_X9_write_X6 : ∀ w ∈ wsX60, w ∈ vc_X9_write := fun _ h => List.mem_cons_of_mem _ (List.mem_append_right _ (List.mem_append_right _ (List.mem_append_right _ (List.mem_append_right _ (List.mem_append_right _ (List.mem_append_left _ h))))))
theorem ic_X9_write_c_X9_refreshRun : ∀ w ∈ vc_X9_refreshRun, w ∈ vc_X9_write := fun _ h => List.mem_cons_of_mem _ (List.mem_append_right _ (List.mem_append_right _ (List.mem_append_right _ (List.mem_append_right _ (List.mem_append_right _ (List.mem_append_right _ (List.mem_append_left _ h)))))))
theorem ic_X9_write_c_X2_has : ∀ w ∈ vc_X2_has, w ∈ vc_X9_write := fun _ h => List.mem_cons_of_mem _ (List.mem_append_right _ (List.mem_append_right _ (List.mem_append_right _ (List.mem_append_right _ (List.mem_append_right _ (List.mem_append_right _ (List.mem_append_right _ (List.mem_append_left _ h))))))))
theorem ic_X9_write_c_X9_isSheet : ∀ w ∈ vc_X9_isSheet, w ∈ vc_X9_write := fun _ h => List.mem_cons_of_mem _ (List.mem_append_right _ (List.mem_append_right _ (List.mem_append_right _ (List.mem_append_right _ (List.mem_append_right _ (List.mem_append_right _ (List.mem_append_right _ (List.mem_append_right _ (List.mem_append_left _ h)))))))))
theorem ic_X9_write_c_X6_isLost : ∀ w ∈ vc_X6_isLost, w ∈ vc_X9_write := fun _ h => List.mem_cons_of_mem _ (List.mem_append_right _ (List.mem_append_right _ (List.mem_append_right _ (List.mem_append_right _ (List.mem_append_right _ (List.mem_append_right _ (List.mem_append_right _ (List.mem_append_right _ (List.mem_append_right _ (List.mem_append_left _ h))))))))))
theorem ic_X9_write_c_X6_lower : ∀ w ∈ vc_X6_lower, w ∈ vc_X9_write := fun _ h => List.mem_cons_of_mem _ (List.mem_append_right _ (List.mem_append_right _ (List.mem_append_right _ (List.mem_append_right _ (List.mem_append_right _ (List.mem_append_right _ (List.mem_append_right _ (List.mem_append_right _ (List.mem_append_right _ (List.mem_append_right _ (List.mem_append_left _ h)))))))))))
theorem ic_X9_write_c_X9_found : ∀ w ∈ vc_X9_found, w ∈ vc_X9_write := fun _ h => List.mem_cons_of_mem _ (List.mem_append_right _ (List.mem_append_right _ (List.mem_append_right _ (List.mem_append_right _ (List.mem_append_right _ (List.mem_append_right _ (List.mem_append_right _ (List.mem_append_right _ (List.mem_append_right _ (List.mem_append_right _ (List.mem_append_right _ (h))))))))))))
theorem gd_c_X9_write : (vc_X9_write).all goodWord = true := gall_cons rfl (gall_app (by decide +kernel) (gall_app gw_X9 (gall_app gw_X3 (gall_app gw_X2 (gall_app gw_X8 (gall_app gw_X6 (gall_app gd_c_X9_refreshRun (gall_app gd_c_X2_has (gall_app gd_c_X9_isSheet (gall_app gd_c_X6_isLost (gall_app gd_c_X6_lower gd_c_X9_found)))))))))))
set_option maxHeartbeats 4000000 in
set_option maxRecDepth 100000 in
theorem c_X9_write (l : Launch) (dC : Nat → ClassId) (dI : Nat → Nat → Nat) (cI cT cS : ClassId) (sz : Nat) (ad : Nat → Nat) (a1 : Int32) (a2 : Int32) (σ : Sg) (o : Int32 × Sg) (h : zf_X9_write a1 a2 σ = some o) : gCI (S := Unit) l yX9_write vc_X9_write { frames := 8, cells := 0, slots := 0, locals := 206 } (dC, dI) (gTY cI cT cS) sz [.ref (ad 0), .int a1, .int a2] (Wd 153 (cfC ad cI cT cS) σ) (fun (r : Int32) (_ : Unit) => r = o.1) (fun (_ : Unit) => (Wd 153 (cfC ad cI cT cS) o.2)) 0 0 := by
  refine Met.ofW (cc := cX9_write) (maxL := 7) (ret := (some .int)) (by decide) rfl ?_
  intro p e s m args below meth c s₁ B hml hv
  obtain ⟨rfl, hsz, hP, hK, hD0⟩ := hv
  have hx := B.exec
  have hb := B.bytes
  have hr := B.returns
  have hts := atoms_spec (ws := vc_X9_write) B.pre
  have hown : s.vm.findClass RX9 = some m.cls := findClass_of_methodNamed B.named
  have hlocks := B.notSynchronized
  subst hsz
  have hD := hD0.self (sz := s.heap.size)
  generalize hAe : va_A (Wd 153 (cfC ad cI cT cS) σ) s.heap.size = A at hD ⊢
  have hA : ∀ q : Nat, s.heap.size ≤ q → A q := fun q h => by rw [← hAe]; exact Or.inr h
  clear hAe hD0
  refine gstart (fun H locs hHe hLe => ?_)
  have hS : va_S A s.heap H locs := by rw [← hHe, ← hLe]; exact va_S.rf
  replace hP : va_P (dC, dI) vwCl (Wd 153 (cfC ad cI cT cS) σ) H := by rw [← hHe]; exact hP
  clear hHe hLe
  have hl := lv_entry ([.ref (ad 0), .int a1, .int a2]) (n := 7) (Nat.le_of_ble_eq_true rfl)
  rw [lg_entry_eq]
  generalize (lg_sl ([.ref (ad 0), .int a1, .int a2]) ++ List.replicate (7 - (lg_sl ([.ref (ad 0), .int a1, .int a2])).length) Slot.unset).toArray = ls at hl ⊢
  replace hl : lv_has ls 7 [(0, .ref (ad 0)), (1, .int a1), (2, .int a2)] := hl
  unfold zf_X9_write at h
  have J25 : ∀ (σb25 : Sg) (H : Heap) (locs : List Loc) (ls : Array Slot), zb_X9_write_25 σb25 = some o → va_P (dC, dI) vwCl (Wd 153 (cfC ad cI cT cS) σb25) H → va_D A (Wd 153 (cfC ad cI cT cS) σb25) → va_S A s.heap H locs → lv_has ls 7 [] → W p l e (headSpec vc_X9_write { frames := 8, cells := 0, slots := 0, locals := 206 }).room s m (List.toArray (α := Value) [.ref (ad 0), .int a1, .int a2]) below meth c H locs 0 0 (MQ below (va_Qi (fun (r : Int32) (_ : Unit) => r = o.1) (gB (dC, dI) A (fun (_ : Unit) => (Wd 153 (cfC ad cI cT cS) o.2))) A) (List.toArray (α := Value) [.ref (ad 0), .int a1, .int a2]) s 0 0 A) (F0 m 25 ls []) := by
    intro σb25 H locs ls h hP hD hS hl
    unfold zb_X9_write_25 at h
    refine lv_bipush (v := (-2)) hx hb dX9_write_25 (by decide) ?_
    have h9 := Option.some.inj h
    exact wreti hx hb hr hlocks hP hD hS (by show _ = _; rw [← h9]; first | done | rfl) (by rw [← h9]) dX9_write_27
  refine lv_aload_n hx hb dX9_write_0 rfl (lv_at hl 0 rfl) ?_
  obtain ⟨σ1, hc1, h⟩ := obd_inv h
  refine wcallv (S := Unit) (va_runV (As := []) (rest := []) ⟨hx, hb, hml, hown, hts⟩ (c_X9_refreshRun l dC dI cI cT cS H.size ad   σ _ hc1) (cwV 0 hts (gWV (List.mem_of_getElem? (i := 1) rfl) (List.mem_of_getElem? (i := 2) rfl) (List.mem_of_getElem? (i := 3) rfl) (List.mem_of_getElem? (i := 4) rfl) ic_X9_write_c_X9_refreshRun gd_c_X9_refreshRun) rfl rfl rfl (by decide +kernel) ⟨(Nat.le_of_ble_eq_true rfl), (Nat.le_of_ble_eq_true rfl)⟩) (wpV (q := (RX9, TX9, 14)) hP hK hD oX9 rfl) rfl rfl hl.1 rfl (lv_room (Nat.le_of_ble_eq_true rfl)) dX9_write_1 ⟨(Nat.le_of_ble_eq_true rfl), (Nat.le_of_ble_eq_true rfl)⟩) hP hD hS hA (fun _ H locs hr2 hP hD hS => ?_)
  replace hP : va_P (dC, dI) vwCl (Wd 153 (cfC ad cI cT cS) σ1) H := hP
  replace hD : va_D A (Wd 153 (cfC ad cI cT cS) σ1) := hD
  refine lv_aload_n hx hb dX9_write_4 rfl (lv_at hl 0 rfl) ?_
  refine gf_X9_3 hx hb hts iw_X9_write_X9 hown hK hP (hts (.fieldLink RX9 31 "TraceTrees" "machine" "LTraceTrees$Machine;") (List.mem_of_getElem? (i := 5) rfl)) dX9_write_5 ?_
  refine gf_X3_2 isM_21 hx hb hts iw_X9_write_X3 hown hK hP (hts (.fieldLink RX9 121 "TraceTrees$Machine" "forest" "LTraceTrees$Forest;") (List.mem_of_getElem? (i := 6) rfl)) dX9_write_8 ?_
  refine lv_iload_n hx hb dX9_write_11 rfl (lv_at hl 1 rfl) ?_
  refine wcalli (S := Unit) (va_runV (As := [.int a1]) (rest := []) ⟨hx, hb, hml, hown, hts⟩ (c_X2_has l dC dI cI cT cS H.size ad 21 isM_21 a1 σ1 _ rfl) (cwV 1 hts (gWV (List.mem_of_getElem? (i := 7) rfl) (List.mem_of_getElem? (i := 8) rfl) (List.mem_of_getElem? (i := 9) rfl) (List.mem_of_getElem? (i := 10) rfl) ic_X9_write_c_X2_has gd_c_X2_has) rfl rfl rfl (by decide +kernel) ⟨(Nat.le_of_ble_eq_true rfl), (Nat.le_of_ble_eq_true rfl)⟩) (wpV (q := (RX2, TX2, 7)) hP hK hD (oX2 isM_21) rfl) rfl rfl hl.1 rfl (lv_room (Nat.le_of_ble_eq_true rfl)) dX9_write_12 ⟨(Nat.le_of_ble_eq_true rfl), (Nat.le_of_ble_eq_true rfl)⟩) hP hD hS hA (fun rr3 _ H locs hr3 hP hD hS => ?_)
  refine lv_nm (y := b2i (zf_X2_has 21 a1 σ1)) hr3 ?_
  refine lv_if_eq (tgt := 25) hx hb dX9_write_15 (by decide) (fun c4 => ?_) (fun c4 => ?_)
  · replace h := ifn (b2i_0 c4) h
    exact J25 σ1 H locs ls h hP hD hS (lv_sub (l' := []) hl [] rfl)
  · replace h := ifp (b2i_1 c4) h
    refine lv_iload_n hx hb dX9_write_18 rfl (lv_at hl 2 rfl) ?_
    refine wcalli (S := Unit) (va_runS (As := [.int a2]) (rest := []) ⟨hx, hb, hml, hown, hts⟩ (c_X9_isSheet l dC dI cI cT cS H.size (Wd 153 (cfC ad cI cT cS) σ1)  a2 _ rfl) (va_cwS 1 hts (gWS (List.mem_of_getElem? (i := 11) rfl) (List.mem_of_getElem? (i := 12) rfl) (List.mem_of_getElem? (i := 4) rfl) ic_X9_write_c_X9_isSheet gd_c_X9_isSheet) rfl rfl rfl (by decide +kernel) ⟨(Nat.le_of_ble_eq_true rfl), (Nat.le_of_ble_eq_true rfl)⟩) (gpS hP hK hD) rfl rfl hl.1 rfl (lv_room (Nat.le_of_ble_eq_true rfl)) dX9_write_19 ⟨(Nat.le_of_ble_eq_true rfl), (Nat.le_of_ble_eq_true rfl)⟩) hP hD hS hA (fun rr5 _ H locs hr5 hP hD hS => ?_)
    refine lv_nm (y := b2i (zf_X9_isSheet a2)) hr5 ?_
    refine lv_if_ne (tgt := 28) hx hb dX9_write_22 (by decide) (fun c6 => ?_) (fun c6 => ?_)
    · replace h := ifp (b2i_1 c6) h
      refine lv_aload_n hx hb dX9_write_28 rfl (lv_at hl 0 rfl) ?_
      refine gf_X9_2 hx hb hts iw_X9_write_X9 hown hK hP (hts (.fieldLink RX9 40 "TraceTrees" "sheets" "[LTraceTrees$Sheet;") (List.mem_of_getElem? (i := 13) rfl)) dX9_write_29 ?_
      refine lv_iload_n hx hb dX9_write_32 rfl (lv_at hl 2 rfl) ?_
      obtain ⟨hi7, h⟩ := bd_inv h
      refine waldS hx hb hK hP hi7 dX9_write_33 ?_
      refine lv_astore_n (lv' := [(3, .ref (ad (13 + 2 * a2.toNatClampNeg))), (0, .ref (ad 0)), (1, .int a1), (2, .int a2)]) hx hb dX9_write_34 rfl hl (by decide) rfl (fun ls hl => ?_)
      refine lv_aload_n hx hb dX9_write_35 rfl (lv_at hl 0 rfl) ?_
      refine wcalli (S := Unit) (va_runV (As := []) (rest := []) ⟨hx, hb, hml, hown, hts⟩ (c_X6_isLost l dC dI cI cT cS H.size ad (13 + 2 * a2.toNatClampNeg) (isSh_i hi7)  σ1 _ rfl) (cwV 0 hts (gWV (List.mem_of_getElem? (i := 14) rfl) (List.mem_of_getElem? (i := 15) rfl) (List.mem_of_getElem? (i := 16) rfl) (List.mem_of_getElem? (i := 17) rfl) ic_X9_write_c_X6_isLost gd_c_X6_isLost) rfl rfl rfl (by decide +kernel) ⟨(Nat.le_of_ble_eq_true rfl), (Nat.le_of_ble_eq_true rfl)⟩) (wpV (q := (RX6, TX6, 3)) hP hK hD (oX6 (isSh_i hi7)) rfl) rfl rfl hl.1 rfl (lv_room (Nat.le_of_ble_eq_true rfl)) dX9_write_36 ⟨(Nat.le_of_ble_eq_true rfl), (Nat.le_of_ble_eq_true rfl)⟩) hP hD hS hA (fun rr8 _ H locs hr8 hP hD hS => ?_)
      refine lv_nm (y := b2i (zf_X6_isLost (13 + 2 * a2.toNatClampNeg) σ1)) hr8 ?_
      refine lv_if_eq (tgt := 48) hx hb dX9_write_39 (by decide) (fun c9 => ?_) (fun c9 => ?_)
      · replace h := ifn (b2i_0 c9) h
        refine lv_aload_n hx hb dX9_write_48 rfl (lv_at hl 1 rfl) ?_
        refine gf_X9_3 hx hb hts iw_X9_write_X9 hown hK hP (hts (.fieldLink RX9 31 "TraceTrees" "machine" "LTraceTrees$Machine;") (List.mem_of_getElem? (i := 5) rfl)) dX9_write_49 ?_
        refine gf_X3_2 isM_21 hx hb hts iw_X9_write_X3 hown hK hP (hts (.fieldLink RX9 121 "TraceTrees$Machine" "forest" "LTraceTrees$Forest;") (List.mem_of_getElem? (i := 6) rfl)) dX9_write_52 ?_
        refine gf_X2_0 isM_21 hx hb hts iw_X9_write_X2 hown hK hP (hts (.fieldLink RX9 185 "TraceTrees$Forest" "traces" "[LTraceTrees$Trace;") (List.mem_of_getElem? (i := 18) rfl)) dX9_write_55 ?_
        refine lv_iload_n hx hb dX9_write_58 rfl (lv_at hl 2 rfl) ?_
        obtain ⟨hi10, h⟩ := bd_inv h
        refine waldT hx hb hK hP isM_21 hi10 dX9_write_59 ?_
        refine lv_astore (lv' := [(4, .ref (ad (21 + 10 + 7 * a1.toNatClampNeg))), (3, .ref (ad (13 + 2 * a2.toNatClampNeg))), (0, .ref (ad 0)), (1, .int a1), (2, .int a2)]) hx hb dX9_write_60 hl (by decide) rfl (fun ls hl => ?_)
        refine lv_aload hx hb dX9_write_62 (lv_at hl 0 rfl) ?_
        refine gf_X8_10 (isTr_M isM_21 hi10) hx hb hts iw_X9_write_X8 hown hK hP (hts (.fieldLink RX9 189 "TraceTrees$Trace" "size" "I") (List.mem_of_getElem? (i := 19) rfl)) dX9_write_64 ?_
        refine lv_aload_n hx hb dX9_write_67 rfl (lv_at hl 1 rfl) ?_
        refine gf_X6_2 (isSh_i hi7) hx hb hts iw_X9_write_X6 hown hK hP (hts (.fieldLink RX9 101 "TraceTrees$Sheet" "size" "I") (List.mem_of_getElem? (i := 20) rfl)) dX9_write_68 ?_
        refine va_mmin hx hb (hml.trans hl.1.symm) hown (hts (.methodLink RX9 192 Lib.Math.min.name) (List.mem_of_getElem? (i := 21) rfl)) (hts (.static Lib.Math.min.name) (List.mem_of_getElem? (i := 22) rfl)) (hts (.initialized "java/lang/Math") (List.mem_of_getElem? (i := 23) rfl)) (hts (.code Lib.Math.min.name Lib.Math.min.code 2 (some .int)) (List.mem_of_getElem? (i := 24) rfl)) (Nat.le_of_ble_eq_true rfl) (Nat.le_of_ble_eq_true rfl) (Nat.le_of_ble_eq_true rfl) (Nat.le_of_ble_eq_true rfl) dX9_write_71 ?_
        obtain ⟨e11, he11, h⟩ := letb_inv h
        refine lv_nm he11 ?_
        refine lv_istore (lv' := [(5, .int e11), (4, .ref (ad (21 + 10 + 7 * a1.toNatClampNeg))), (3, .ref (ad (13 + 2 * a2.toNatClampNeg))), (0, .ref (ad 0)), (1, .int a1), (2, .int a2)]) hx hb dX9_write_74 hl (by decide) rfl (fun ls hl => ?_)
        refine lv_iconst (v := 0) hx hb dX9_write_76 (by decide) ?_
        refine lv_istore (lv' := [(6, .int (0 : Int32)), (5, .int e11), (4, .ref (ad (21 + 10 + 7 * a1.toNatClampNeg))), (3, .ref (ad (13 + 2 * a2.toNatClampNeg))), (0, .ref (ad 0)), (1, .int a1), (2, .int a2)]) hx hb dX9_write_77 hl (by decide) rfl (fun ls hl => ?_)
        obtain ⟨y79, hlp79, h⟩ := obd_inv h
        refine lp_W (fun x79 : Int32 × Sg => ∀ (H : Heap) (locs : List Loc) (ls : Array Slot), va_P (dC, dI) vwCl (Wd 153 (cfC ad cI cT cS) x79.2) H → va_D A (Wd 153 (cfC ad cI cT cS) x79.2) → va_S A s.heap H locs → lv_has ls 7 [(6, .int x79.1), (5, .int e11), (4, .ref (ad (21 + 10 + 7 * a1.toNatClampNeg))), (3, .ref (ad (13 + 2 * a2.toNatClampNeg)))] → W p l e (headSpec vc_X9_write { frames := 8, cells := 0, slots := 0, locals := 206 }).room s m (List.toArray (α := Value) [.ref (ad 0), .int a1, .int a2]) below meth c H locs 0 0 (MQ below (va_Qi (fun (r : Int32) (_ : Unit) => r = o.1) (gB (dC, dI) A (fun (_ : Unit) => (Wd 153 (cfC ad cI cT cS) o.2))) A) (List.toArray (α := Value) [.ref (ad 0), .int a1, .int a2]) s 0 0 A) (F0 m 79 ls [])) (fun y79 : Int32 × Sg => ∀ (H : Heap) (locs : List Loc) (ls : Array Slot), va_P (dC, dI) vwCl (Wd 153 (cfC ad cI cT cS) y79.2) H → va_D A (Wd 153 (cfC ad cI cT cS) y79.2) → va_S A s.heap H locs → lv_has ls 7 [(5, .int e11)] → W p l e (headSpec vc_X9_write { frames := 8, cells := 0, slots := 0, locals := 206 }).room s m (List.toArray (α := Value) [.ref (ad 0), .int a1, .int a2]) below meth c H locs 0 0 (MQ below (va_Qi (fun (r : Int32) (_ : Unit) => r = o.1) (gB (dC, dI) A (fun (_ : Unit) => (Wd 153 (cfC ad cI cT cS) o.2))) A) (List.toArray (α := Value) [.ref (ad 0), .int a1, .int a2]) s 0 0 A) (F0 m 106 ls [])) ?_ 1000 ((0 : Int32), σ1) y79 hlp79 ?_ H locs ls hP hD hS (lv_sub (l' := [(6, .int (0 : Int32)), (5, .int e11), (4, .ref (ad (21 + 10 + 7 * a1.toNatClampNeg))), (3, .ref (ad (13 + 2 * a2.toNatClampNeg)))]) hl [0, 1, 2, 3] rfl)
        · intro x79 yy79 h ht79 hf79 H locs ls hP hD hS hl
          unfold zl_X9_write_79 at h
          refine lv_iload hx hb dX9_write_79 (lv_at hl 0 rfl) ?_
          refine lv_iload hx hb dX9_write_81 (lv_at hl 1 rfl) ?_
          refine lv_icmp_ge (tgt := 106) hx hb dX9_write_83 (by decide) (fun c12 => ?_) (fun c12 => ?_)
          · replace h := ifp (c12) h
            obtain rfl := Option.some.inj h
            exact hf79 rfl H locs ls hP hD hS (lv_sub (l' := [(5, .int e11)]) hl [1] rfl)
          · replace h := ifn (c12) h
            refine lv_aload_n hx hb dX9_write_86 rfl (lv_at hl 3 rfl) ?_
            refine lv_iload hx hb dX9_write_87 (lv_at hl 0 rfl) ?_
            refine lv_aload hx hb dX9_write_89 (lv_at hl 2 rfl) ?_
            refine gf_X8_1 (isTr_M isM_21 hi10) hx hb hts iw_X9_write_X8 hown hK hP (hts (.fieldLink RX9 197 "TraceTrees$Trace" "point" "[I") (List.mem_of_getElem? (i := 25) rfl)) dX9_write_91 ?_
            refine lv_iload hx hb dX9_write_94 (lv_at hl 0 rfl) ?_
            obtain ⟨hi13, h⟩ := bd_inv h
            refine wald hx hb hK hP (aT1 (isTr_M isM_21 hi10)) hi13 dX9_write_96 ?_
            obtain ⟨σ14, hc14, h⟩ := obd_inv h
            refine wcallv (S := Unit) (va_runV (As := [.int x79.1, .int (x79.2 ((21 + 10 + 7 * a1.toNatClampNeg) + 1) x79.1.toNatClampNeg)]) (rest := []) ⟨hx, hb, hml, hown, hts⟩ (c_X6_lower l dC dI cI cT cS H.size ad (13 + 2 * a2.toNatClampNeg) (isSh_i hi7) x79.1 (x79.2 ((21 + 10 + 7 * a1.toNatClampNeg) + 1) x79.1.toNatClampNeg) x79.2 _ hc14) (cwV 2 hts (gWV (List.mem_of_getElem? (i := 26) rfl) (List.mem_of_getElem? (i := 27) rfl) (List.mem_of_getElem? (i := 28) rfl) (List.mem_of_getElem? (i := 17) rfl) ic_X9_write_c_X6_lower gd_c_X6_lower) rfl rfl rfl (by decide +kernel) ⟨(Nat.le_of_ble_eq_true rfl), (Nat.le_of_ble_eq_true rfl)⟩) (wpV (q := (RX6, TX6, 3)) hP hK hD (oX6 (isSh_i hi7)) rfl) rfl rfl hl.1 rfl (lv_room (Nat.le_of_ble_eq_true rfl)) dX9_write_97 ⟨(Nat.le_of_ble_eq_true rfl), (Nat.le_of_ble_eq_true rfl)⟩) hP hD hS hA (fun _ H locs hr15 hP hD hS => ?_)
            replace hP : va_P (dC, dI) vwCl (Wd 153 (cfC ad cI cT cS) σ14) H := hP
            replace hD : va_D A (Wd 153 (cfC ad cI cT cS) σ14) := hD
            refine lv_iinc (v := (x79.1 + (1 : Int32))) (lv' := [(6, .int (x79.1 + (1 : Int32))), (5, .int e11), (4, .ref (ad (21 + 10 + 7 * a1.toNatClampNeg))), (3, .ref (ad (13 + 2 * a2.toNatClampNeg)))]) hx hb dX9_write_100 hl (k := 0) rfl rfl (by decide) rfl (fun ls hl => ?_)
            refine lv_goto (tgt := 79) hx hb dX9_write_103 (by decide) ?_
            obtain rfl := Option.some.inj h
            exact ht79 rfl H locs ls hP hD hS (lv_sub (l' := [(6, .int (x79.1 + (1 : Int32))), (5, .int e11), (4, .ref (ad (21 + 10 + 7 * a1.toNatClampNeg))), (3, .ref (ad (13 + 2 * a2.toNatClampNeg)))]) hl [0, 1, 2, 3] rfl)
        · intro H locs ls hP hD hS hl
          refine lv_iload hx hb dX9_write_106 (lv_at hl 0 rfl) ?_
          have h9 := Option.some.inj h
          exact wreti hx hb hr hlocks hP hD hS (by show _ = _; rw [← h9]; first | done | rfl) (by rw [← h9]) dX9_write_108
      · replace h := ifp (b2i_1 c9) h
        refine lv_aload_n hx hb dX9_write_42 rfl (lv_at hl 1 rfl) ?_
        refine lv_iconst (v := 1) hx hb dX9_write_43 (by decide) ?_
        obtain ⟨q16, hc16, h⟩ := letb_inv h
        refine wcalli (S := Unit) (va_runV (As := [.int (1 : Int32)]) (rest := []) ⟨hx, hb, hml, hown, hts⟩ (c_X9_found l dC dI cI cT cS H.size ad  (1 : Int32) σ1 _ hc16) (cwV 1 hts (gWV (List.mem_of_getElem? (i := 29) rfl) (List.mem_of_getElem? (i := 30) rfl) (List.mem_of_getElem? (i := 31) rfl) (List.mem_of_getElem? (i := 4) rfl) ic_X9_write_c_X9_found gd_c_X9_found) rfl rfl rfl (by decide +kernel) ⟨(Nat.le_of_ble_eq_true rfl), (Nat.le_of_ble_eq_true rfl)⟩) (wpV (q := (RX9, TX9, 14)) hP hK hD oX9 rfl) rfl rfl hl.1 rfl (lv_room (Nat.le_of_ble_eq_true rfl)) dX9_write_44 ⟨(Nat.le_of_ble_eq_true rfl), (Nat.le_of_ble_eq_true rfl)⟩) hP hD hS hA (fun rr17 _ H locs hr17 hP hD hS => ?_)
        replace hP : va_P (dC, dI) vwCl (Wd 153 (cfC ad cI cT cS) q16.2) H := hP
        replace hD : va_D A (Wd 153 (cfC ad cI cT cS) q16.2) := hD
        refine lv_nm (y := q16.1) hr17 ?_
        have h9 := Option.some.inj h
        exact wreti hx hb hr hlocks hP hD hS (by show _ = _; rw [← h9]; first | done | rfl) (by rw [← h9]) dX9_write_47
    · replace h := ifn (b2i_0 c6) h
      exact J25 σ1 H locs ls h hP hD hS (lv_sub (l' := []) hl [] rfl)
def zf_X9_countFact (a1 : Int32) (σ : Sg) : Option (Int32) := (if a1 = 0 then some (σ 1 4) else (if a1 = 1 then some (σ 0 6) else (if a1 = 2 then some (σ 0 7) else (if a1 = 3 then some (σ (21 + 5) 4) else (if a1 = 4 then some (σ 21 7) else (if a1 = 5 then some (σ 21 8) else (if a1 = 6 then some (σ 21 9) else (if a1 = 7 then obd (zf_X2_entriesInAll 21 σ) (fun r9 => some r9) else (if a1 = 8 then some (σ 0 8) else some (-2 : Int32))))))))))
def oc_X9_countFact : List Cond := [.fieldLink RX9 10 "TraceTrees" "program" "LTraceTrees$Program;", .fieldLink RX9 56 "TraceTrees$Program" "size" "I", .fieldLink RX9 45 "TraceTrees" "limit" "I", .fieldLink RX9 49 "TraceTrees" "hot" "I", .fieldLink RX9 31 "TraceTrees" "machine" "LTraceTrees$Machine;", .fieldLink RX9 121 "TraceTrees$Machine" "forest" "LTraceTrees$Forest;", .fieldLink RX9 310 "TraceTrees$Forest" "size" "I", .fieldLink RX9 262 "TraceTrees$Machine" "steps" "I", .fieldLink RX9 242 "TraceTrees$Machine" "compiled" "I", .fieldLink RX9 265 "TraceTrees$Machine" "exits" "I", .methodLink RX9 311 yX2_entriesInAll, .instanceMethod yX2_entriesInAll, .selects RX2 yX2_entriesInAll yX2_entriesInAll, .initialized RX2, .fieldLink RX9 166 "TraceTrees" "finding" "I"]
def vc_X9_countFact : List Cond := .code yX9_countFact cX9_countFact 2 (some .int) :: (oc_X9_countFact ++ (wsX90 ++ (wsX40 ++ (wsX30 ++ (wsX20 ++ (vc_X2_entriesInAll))))))
theorem iw_X9_countFact_X9 : ∀ w ∈ wsX90, w ∈ vc_X9_countFact := fun _ h => List.mem_cons_of_mem _ (List.mem_append_right _ (List.mem_append_left _ h))
theorem iw_X9_countFact_X4 : ∀ w ∈ wsX40, w ∈ vc_X9_countFact := fun _ h => List.mem_cons_of_mem _ (List.mem_append_right _ (List.mem_append_right _ (List.mem_append_left _ h)))
theorem iw_X9_countFact_X3 : ∀ w ∈ wsX30, w ∈ vc_X9_countFact := fun _ h => List.mem_cons_of_mem _ (List.mem_append_right _ (List.mem_append_right _ (List.mem_append_right _ (List.mem_append_left _ h))))
theorem iw_X9_countFact_X2 : ∀ w ∈ wsX20, w ∈ vc_X9_countFact := fun _ h => List.mem_cons_of_mem _ (List.mem_append_right _ (List.mem_append_right _ (List.mem_append_right _ (List.mem_append_right _ (List.mem_append_left _ h)))))
theorem ic_X9_countFact_c_X2_entriesInAll : ∀ w ∈ vc_X2_entriesInAll, w ∈ vc_X9_countFact := fun _ h => List.mem_cons_of_mem _ (List.mem_append_right _ (List.mem_append_right _ (List.mem_append_right _ (List.mem_append_right _ (List.mem_append_right _ (h))))))
theorem gd_c_X9_countFact : (vc_X9_countFact).all goodWord = true := gall_cons rfl (gall_app (by decide +kernel) (gall_app gw_X9 (gall_app gw_X4 (gall_app gw_X3 (gall_app gw_X2 gd_c_X2_entriesInAll)))))
set_option maxHeartbeats 4000000 in
set_option maxRecDepth 100000 in
theorem c_X9_countFact (l : Launch) (dC : Nat → ClassId) (dI : Nat → Nat → Nat) (cI cT cS : ClassId) (sz : Nat) (ad : Nat → Nat) (a1 : Int32) (σ : Sg) (o : Int32) (h : zf_X9_countFact a1 σ = some o) : gCI (S := Unit) l yX9_countFact vc_X9_countFact { frames := 1, cells := 0, slots := 0, locals := 22 } (dC, dI) (gTY cI cT cS) sz [.ref (ad 0), .int a1] (Wd 153 (cfC ad cI cT cS) σ) (fun (r : Int32) (_ : Unit) => r = o) (fun (_ : Unit) => (Wd 153 (cfC ad cI cT cS) σ)) 0 0 := by
  refine Met.ofW (cc := cX9_countFact) (maxL := 2) (ret := (some .int)) (by decide) rfl ?_
  intro p e s m args below meth c s₁ B hml hv
  obtain ⟨rfl, hsz, hP, hK, hD0⟩ := hv
  have hx := B.exec
  have hb := B.bytes
  have hr := B.returns
  have hts := atoms_spec (ws := vc_X9_countFact) B.pre
  have hown : s.vm.findClass RX9 = some m.cls := findClass_of_methodNamed B.named
  have hlocks := B.notSynchronized
  subst hsz
  have hD := hD0.self (sz := s.heap.size)
  generalize hAe : va_A (Wd 153 (cfC ad cI cT cS) σ) s.heap.size = A at hD ⊢
  have hA : ∀ q : Nat, s.heap.size ≤ q → A q := fun q h => by rw [← hAe]; exact Or.inr h
  clear hAe hD0
  refine gstart (fun H locs hHe hLe => ?_)
  have hS : va_S A s.heap H locs := by rw [← hHe, ← hLe]; exact va_S.rf
  replace hP : va_P (dC, dI) vwCl (Wd 153 (cfC ad cI cT cS) σ) H := by rw [← hHe]; exact hP
  clear hHe hLe
  have hl := lv_entry ([.ref (ad 0), .int a1]) (n := 2) (Nat.le_of_ble_eq_true rfl)
  rw [lg_entry_eq]
  generalize (lg_sl ([.ref (ad 0), .int a1]) ++ List.replicate (2 - (lg_sl ([.ref (ad 0), .int a1])).length) Slot.unset).toArray = ls at hl ⊢
  replace hl : lv_has ls 2 [(0, .ref (ad 0)), (1, .int a1)] := hl
  unfold zf_X9_countFact at h
  refine lv_iload_n hx hb dX9_countFact_0 rfl (lv_at hl 1 rfl) ?_
  by_cases c1 : a1 = 0
  · replace h := ifp c1 h
    refine lv_tableIn (off := 51) (tgt := 52) hx hb dX9_countFact_1 (by rw [c1]; decide) (by rw [c1]; decide) (by rw [c1]; decide) (by decide) ?_
    refine lv_aload_n hx hb dX9_countFact_52 rfl (lv_at hl 0 rfl) ?_
    refine gf_X9_0 hx hb hts iw_X9_countFact_X9 hown hK hP (hts (.fieldLink RX9 10 "TraceTrees" "program" "LTraceTrees$Program;") (List.mem_of_getElem? (i := 1) rfl)) dX9_countFact_53 ?_
    refine gf_X4_4 hx hb hts iw_X9_countFact_X4 hown hK hP (hts (.fieldLink RX9 56 "TraceTrees$Program" "size" "I") (List.mem_of_getElem? (i := 2) rfl)) dX9_countFact_56 ?_
    have h9 := Option.some.inj h
    exact wreti hx hb hr hlocks hP hD hS (by show _ = _; rw [← h9]; first | done | rfl) rfl dX9_countFact_59
  replace h := ifn c1 h
  by_cases c2 : a1 = 1
  · replace h := ifp c2 h
    refine lv_tableIn (off := 59) (tgt := 60) hx hb dX9_countFact_1 (by rw [c2]; decide) (by rw [c2]; decide) (by rw [c2]; decide) (by decide) ?_
    refine lv_aload_n hx hb dX9_countFact_60 rfl (lv_at hl 0 rfl) ?_
    refine gf_X9_6 hx hb hts iw_X9_countFact_X9 hown hK hP (hts (.fieldLink RX9 45 "TraceTrees" "limit" "I") (List.mem_of_getElem? (i := 3) rfl)) dX9_countFact_61 ?_
    have h9 := Option.some.inj h
    exact wreti hx hb hr hlocks hP hD hS (by show _ = _; rw [← h9]; first | done | rfl) rfl dX9_countFact_64
  replace h := ifn c2 h
  by_cases c3 : a1 = 2
  · replace h := ifp c3 h
    refine lv_tableIn (off := 64) (tgt := 65) hx hb dX9_countFact_1 (by rw [c3]; decide) (by rw [c3]; decide) (by rw [c3]; decide) (by decide) ?_
    refine lv_aload_n hx hb dX9_countFact_65 rfl (lv_at hl 0 rfl) ?_
    refine gf_X9_7 hx hb hts iw_X9_countFact_X9 hown hK hP (hts (.fieldLink RX9 49 "TraceTrees" "hot" "I") (List.mem_of_getElem? (i := 4) rfl)) dX9_countFact_66 ?_
    have h9 := Option.some.inj h
    exact wreti hx hb hr hlocks hP hD hS (by show _ = _; rw [← h9]; first | done | rfl) rfl dX9_countFact_69
  replace h := ifn c3 h
  by_cases c4 : a1 = 3
  · replace h := ifp c4 h
    refine lv_tableIn (off := 69) (tgt := 70) hx hb dX9_countFact_1 (by rw [c4]; decide) (by rw [c4]; decide) (by rw [c4]; decide) (by decide) ?_
    refine lv_aload_n hx hb dX9_countFact_70 rfl (lv_at hl 0 rfl) ?_
    refine gf_X9_3 hx hb hts iw_X9_countFact_X9 hown hK hP (hts (.fieldLink RX9 31 "TraceTrees" "machine" "LTraceTrees$Machine;") (List.mem_of_getElem? (i := 5) rfl)) dX9_countFact_71 ?_
    refine gf_X3_2 isM_21 hx hb hts iw_X9_countFact_X3 hown hK hP (hts (.fieldLink RX9 121 "TraceTrees$Machine" "forest" "LTraceTrees$Forest;") (List.mem_of_getElem? (i := 6) rfl)) dX9_countFact_74 ?_
    refine gf_X2_4 isM_21 hx hb hts iw_X9_countFact_X2 hown hK hP (hts (.fieldLink RX9 310 "TraceTrees$Forest" "size" "I") (List.mem_of_getElem? (i := 7) rfl)) dX9_countFact_77 ?_
    have h9 := Option.some.inj h
    exact wreti hx hb hr hlocks hP hD hS (by show _ = _; rw [← h9]; first | done | rfl) rfl dX9_countFact_80
  replace h := ifn c4 h
  by_cases c5 : a1 = 4
  · replace h := ifp c5 h
    refine lv_tableIn (off := 80) (tgt := 81) hx hb dX9_countFact_1 (by rw [c5]; decide) (by rw [c5]; decide) (by rw [c5]; decide) (by decide) ?_
    refine lv_aload_n hx hb dX9_countFact_81 rfl (lv_at hl 0 rfl) ?_
    refine gf_X9_3 hx hb hts iw_X9_countFact_X9 hown hK hP (hts (.fieldLink RX9 31 "TraceTrees" "machine" "LTraceTrees$Machine;") (List.mem_of_getElem? (i := 5) rfl)) dX9_countFact_82 ?_
    refine gf_X3_7 isM_21 hx hb hts iw_X9_countFact_X3 hown hK hP (hts (.fieldLink RX9 262 "TraceTrees$Machine" "steps" "I") (List.mem_of_getElem? (i := 8) rfl)) dX9_countFact_85 ?_
    have h9 := Option.some.inj h
    exact wreti hx hb hr hlocks hP hD hS (by show _ = _; rw [← h9]; first | done | rfl) rfl dX9_countFact_88
  replace h := ifn c5 h
  by_cases c6 : a1 = 5
  · replace h := ifp c6 h
    refine lv_tableIn (off := 88) (tgt := 89) hx hb dX9_countFact_1 (by rw [c6]; decide) (by rw [c6]; decide) (by rw [c6]; decide) (by decide) ?_
    refine lv_aload_n hx hb dX9_countFact_89 rfl (lv_at hl 0 rfl) ?_
    refine gf_X9_3 hx hb hts iw_X9_countFact_X9 hown hK hP (hts (.fieldLink RX9 31 "TraceTrees" "machine" "LTraceTrees$Machine;") (List.mem_of_getElem? (i := 5) rfl)) dX9_countFact_90 ?_
    refine gf_X3_8 isM_21 hx hb hts iw_X9_countFact_X3 hown hK hP (hts (.fieldLink RX9 242 "TraceTrees$Machine" "compiled" "I") (List.mem_of_getElem? (i := 9) rfl)) dX9_countFact_93 ?_
    have h9 := Option.some.inj h
    exact wreti hx hb hr hlocks hP hD hS (by show _ = _; rw [← h9]; first | done | rfl) rfl dX9_countFact_96
  replace h := ifn c6 h
  by_cases c7 : a1 = 6
  · replace h := ifp c7 h
    refine lv_tableIn (off := 96) (tgt := 97) hx hb dX9_countFact_1 (by rw [c7]; decide) (by rw [c7]; decide) (by rw [c7]; decide) (by decide) ?_
    refine lv_aload_n hx hb dX9_countFact_97 rfl (lv_at hl 0 rfl) ?_
    refine gf_X9_3 hx hb hts iw_X9_countFact_X9 hown hK hP (hts (.fieldLink RX9 31 "TraceTrees" "machine" "LTraceTrees$Machine;") (List.mem_of_getElem? (i := 5) rfl)) dX9_countFact_98 ?_
    refine gf_X3_9 isM_21 hx hb hts iw_X9_countFact_X3 hown hK hP (hts (.fieldLink RX9 265 "TraceTrees$Machine" "exits" "I") (List.mem_of_getElem? (i := 10) rfl)) dX9_countFact_101 ?_
    have h9 := Option.some.inj h
    exact wreti hx hb hr hlocks hP hD hS (by show _ = _; rw [← h9]; first | done | rfl) rfl dX9_countFact_104
  replace h := ifn c7 h
  by_cases c8 : a1 = 7
  · replace h := ifp c8 h
    refine lv_tableIn (off := 104) (tgt := 105) hx hb dX9_countFact_1 (by rw [c8]; decide) (by rw [c8]; decide) (by rw [c8]; decide) (by decide) ?_
    refine lv_aload_n hx hb dX9_countFact_105 rfl (lv_at hl 0 rfl) ?_
    refine gf_X9_3 hx hb hts iw_X9_countFact_X9 hown hK hP (hts (.fieldLink RX9 31 "TraceTrees" "machine" "LTraceTrees$Machine;") (List.mem_of_getElem? (i := 5) rfl)) dX9_countFact_106 ?_
    refine gf_X3_2 isM_21 hx hb hts iw_X9_countFact_X3 hown hK hP (hts (.fieldLink RX9 121 "TraceTrees$Machine" "forest" "LTraceTrees$Forest;") (List.mem_of_getElem? (i := 6) rfl)) dX9_countFact_109 ?_
    obtain ⟨r9, hc9, h⟩ := obd_inv h
    refine wcalli (S := Unit) (va_runV (As := []) (rest := []) ⟨hx, hb, hml, hown, hts⟩ (c_X2_entriesInAll l dC dI cI cT cS H.size ad 21 isM_21  σ _ hc9) (cwV 0 hts (gWV (List.mem_of_getElem? (i := 11) rfl) (List.mem_of_getElem? (i := 12) rfl) (List.mem_of_getElem? (i := 13) rfl) (List.mem_of_getElem? (i := 14) rfl) ic_X9_countFact_c_X2_entriesInAll gd_c_X2_entriesInAll) rfl rfl rfl (by decide +kernel) ⟨(Nat.le_of_ble_eq_true rfl), (Nat.le_of_ble_eq_true rfl)⟩) (wpV (q := (RX2, TX2, 7)) hP hK hD (oX2 isM_21) rfl) rfl rfl hl.1 rfl (lv_room (Nat.le_of_ble_eq_true rfl)) dX9_countFact_112 ⟨(Nat.le_of_ble_eq_true rfl), (Nat.le_of_ble_eq_true rfl)⟩) hP hD hS hA (fun rr10 _ H locs hr10 hP hD hS => ?_)
    refine lv_nm (y := r9) hr10 ?_
    have h9 := Option.some.inj h
    exact wreti hx hb hr hlocks hP hD hS (by show _ = _; rw [← h9]; first | done | rfl) rfl dX9_countFact_115
  replace h := ifn c8 h
  by_cases c11 : a1 = 8
  · replace h := ifp c11 h
    refine lv_tableIn (off := 115) (tgt := 116) hx hb dX9_countFact_1 (by rw [c11]; decide) (by rw [c11]; decide) (by rw [c11]; decide) (by decide) ?_
    refine lv_aload_n hx hb dX9_countFact_116 rfl (lv_at hl 0 rfl) ?_
    refine gf_X9_8 hx hb hts iw_X9_countFact_X9 hown hK hP (hts (.fieldLink RX9 166 "TraceTrees" "finding" "I") (List.mem_of_getElem? (i := 15) rfl)) dX9_countFact_117 ?_
    have h9 := Option.some.inj h
    exact wreti hx hb hr hlocks hP hD hS (by show _ = _; rw [← h9]; first | done | rfl) rfl dX9_countFact_120
  replace h := ifn c11 h
  refine lv_tableOut (tgt := 121) hx hb dX9_countFact_1 (by have := lv_neT c1 (a := 0) (by decide); have := lv_neT c2 (a := 1) (by decide); have := lv_neT c3 (a := 2) (by decide); have := lv_neT c4 (a := 3) (by decide); have := lv_neT c5 (a := 4) (by decide); have := lv_neT c6 (a := 5) (by decide); have := lv_neT c7 (a := 6) (by decide); have := lv_neT c8 (a := 7) (by decide); have := lv_neT c11 (a := 8) (by decide); omega) (by decide) ?_
  refine lv_bipush (v := (-2)) hx hb dX9_countFact_121 (by decide) ?_
  have h9 := Option.some.inj h
  exact wreti hx hb hr hlocks hP hD hS (by show _ = _; rw [← h9]; first | done | rfl) rfl dX9_countFact_123
def zf_X9_count (a1 : Int32) (σ : Sg) : Option (Int32 × Sg) := obd (zf_X9_refreshRun σ) (fun σ1 => obd (zf_X9_countFact a1 σ1) (fun r3 => some (r3, σ1)))
def oc_X9_count : List Cond := [.methodLink RX9 106 yX9_refreshRun, .instanceMethod yX9_refreshRun, .selects RX9 yX9_refreshRun yX9_refreshRun, .initialized RX9, .methodLink RX9 200 yX9_countFact, .instanceMethod yX9_countFact, .selects RX9 yX9_countFact yX9_countFact]
def vc_X9_count : List Cond := .code yX9_count cX9_count 2 (some .int) :: (oc_X9_count ++ (vc_X9_refreshRun ++ (vc_X9_countFact)))
theorem ic_X9_count_c_X9_refreshRun : ∀ w ∈ vc_X9_refreshRun, w ∈ vc_X9_count := fun _ h => List.mem_cons_of_mem _ (List.mem_append_right _ (List.mem_append_left _ h))
theorem ic_X9_count_c_X9_countFact : ∀ w ∈ vc_X9_countFact, w ∈ vc_X9_count := fun _ h => List.mem_cons_of_mem _ (List.mem_append_right _ (List.mem_append_right _ (h)))
theorem gd_c_X9_count : (vc_X9_count).all goodWord = true := gall_cons rfl (gall_app (by decide +kernel) (gall_app gd_c_X9_refreshRun gd_c_X9_countFact))
set_option maxHeartbeats 4000000 in
set_option maxRecDepth 100000 in
theorem c_X9_count (l : Launch) (dC : Nat → ClassId) (dI : Nat → Nat → Nat) (cI cT cS : ClassId) (sz : Nat) (ad : Nat → Nat) (a1 : Int32) (σ : Sg) (o : Int32 × Sg) (h : zf_X9_count a1 σ = some o) : gCI (S := Unit) l yX9_count vc_X9_count { frames := 8, cells := 0, slots := 0, locals := 206 } (dC, dI) (gTY cI cT cS) sz [.ref (ad 0), .int a1] (Wd 153 (cfC ad cI cT cS) σ) (fun (r : Int32) (_ : Unit) => r = o.1) (fun (_ : Unit) => (Wd 153 (cfC ad cI cT cS) o.2)) 0 0 := by
  refine Met.ofW (cc := cX9_count) (maxL := 2) (ret := (some .int)) (by decide) rfl ?_
  intro p e s m args below meth c s₁ B hml hv
  obtain ⟨rfl, hsz, hP, hK, hD0⟩ := hv
  have hx := B.exec
  have hb := B.bytes
  have hr := B.returns
  have hts := atoms_spec (ws := vc_X9_count) B.pre
  have hown : s.vm.findClass RX9 = some m.cls := findClass_of_methodNamed B.named
  have hlocks := B.notSynchronized
  subst hsz
  have hD := hD0.self (sz := s.heap.size)
  generalize hAe : va_A (Wd 153 (cfC ad cI cT cS) σ) s.heap.size = A at hD ⊢
  have hA : ∀ q : Nat, s.heap.size ≤ q → A q := fun q h => by rw [← hAe]; exact Or.inr h
  clear hAe hD0
  refine gstart (fun H locs hHe hLe => ?_)
  have hS : va_S A s.heap H locs := by rw [← hHe, ← hLe]; exact va_S.rf
  replace hP : va_P (dC, dI) vwCl (Wd 153 (cfC ad cI cT cS) σ) H := by rw [← hHe]; exact hP
  clear hHe hLe
  have hl := lv_entry ([.ref (ad 0), .int a1]) (n := 2) (Nat.le_of_ble_eq_true rfl)
  rw [lg_entry_eq]
  generalize (lg_sl ([.ref (ad 0), .int a1]) ++ List.replicate (2 - (lg_sl ([.ref (ad 0), .int a1])).length) Slot.unset).toArray = ls at hl ⊢
  replace hl : lv_has ls 2 [(0, .ref (ad 0)), (1, .int a1)] := hl
  unfold zf_X9_count at h
  refine lv_aload_n hx hb dX9_count_0 rfl (lv_at hl 0 rfl) ?_
  obtain ⟨σ1, hc1, h⟩ := obd_inv h
  refine wcallv (S := Unit) (va_runV (As := []) (rest := []) ⟨hx, hb, hml, hown, hts⟩ (c_X9_refreshRun l dC dI cI cT cS H.size ad   σ _ hc1) (cwV 0 hts (gWV (List.mem_of_getElem? (i := 1) rfl) (List.mem_of_getElem? (i := 2) rfl) (List.mem_of_getElem? (i := 3) rfl) (List.mem_of_getElem? (i := 4) rfl) ic_X9_count_c_X9_refreshRun gd_c_X9_refreshRun) rfl rfl rfl (by decide +kernel) ⟨(Nat.le_of_ble_eq_true rfl), (Nat.le_of_ble_eq_true rfl)⟩) (wpV (q := (RX9, TX9, 14)) hP hK hD oX9 rfl) rfl rfl hl.1 rfl (lv_room (Nat.le_of_ble_eq_true rfl)) dX9_count_1 ⟨(Nat.le_of_ble_eq_true rfl), (Nat.le_of_ble_eq_true rfl)⟩) hP hD hS hA (fun _ H locs hr2 hP hD hS => ?_)
  replace hP : va_P (dC, dI) vwCl (Wd 153 (cfC ad cI cT cS) σ1) H := hP
  replace hD : va_D A (Wd 153 (cfC ad cI cT cS) σ1) := hD
  refine lv_aload_n hx hb dX9_count_4 rfl (lv_at hl 0 rfl) ?_
  refine lv_iload_n hx hb dX9_count_5 rfl (lv_at hl 1 rfl) ?_
  obtain ⟨r3, hc3, h⟩ := obd_inv h
  refine wcalli (S := Unit) (va_runV (As := [.int a1]) (rest := []) ⟨hx, hb, hml, hown, hts⟩ (c_X9_countFact l dC dI cI cT cS H.size ad  a1 σ1 _ hc3) (cwV 1 hts (gWV (List.mem_of_getElem? (i := 5) rfl) (List.mem_of_getElem? (i := 6) rfl) (List.mem_of_getElem? (i := 7) rfl) (List.mem_of_getElem? (i := 4) rfl) ic_X9_count_c_X9_countFact gd_c_X9_countFact) rfl rfl rfl (by decide +kernel) ⟨(Nat.le_of_ble_eq_true rfl), (Nat.le_of_ble_eq_true rfl)⟩) (wpV (q := (RX9, TX9, 14)) hP hK hD oX9 rfl) rfl rfl hl.1 rfl (lv_room (Nat.le_of_ble_eq_true rfl)) dX9_count_6 ⟨(Nat.le_of_ble_eq_true rfl), (Nat.le_of_ble_eq_true rfl)⟩) hP hD hS hA (fun rr4 _ H locs hr4 hP hD hS => ?_)
  refine lv_nm (y := r3) hr4 ?_
  have h9 := Option.some.inj h
  exact wreti hx hb hr hlocks hP hD hS (by show _ = _; rw [← h9]; first | done | rfl) (by rw [← h9]) dX9_count_9
def zl_X9_mixPoint_38 (a3 : Int32) (σ : Sg) (x38 : Int32 × Int64) : Option (Bool × (Int32 × Int64)) := (if (3 : Int32) ≤ x38.1 then some (false, (x38.1, x38.2)) else obd (zf_X2_heatFact 21 a3 x38.1 σ) (fun r6 => letb (((31 : Int64) * x38.2) + (r6.toInt64)) (fun e8 => some (true, ((x38.1 + (1 : Int32)), e8)))))
def zl_X9_mixPoint_6 (a3 : Int32) (σ : Sg) (x6 : Int32 × Int64) : Option (Bool × (Int32 × Int64)) := (if (4 : Int32) ≤ x6.1 then some (false, (x6.1, x6.2)) else obd (zf_X9_codeFact a3 x6.1 σ) (fun r2 => letb (((31 : Int64) * x6.2) + (r2.toInt64)) (fun e4 => some (true, ((x6.1 + (1 : Int32)), e4)))))
def zf_X9_mixPoint (a1 : Int64) (a3 : Int32) (σ : Sg) : Option (Int64) := obd (lp (X := Int32 × Int64) (zl_X9_mixPoint_6 a3 σ) 1000 ((0 : Int32), a1)) (fun y6 => obd (lp (X := Int32 × Int64) (zl_X9_mixPoint_38 a3 σ) 1000 ((0 : Int32), y6.2)) (fun y38 => some y38.2))
def oc_X9_mixPoint : List Cond := [.constantLong RX9 205 (31), .methodLink RX9 74 yX9_codeFact, .instanceMethod yX9_codeFact, .selects RX9 yX9_codeFact yX9_codeFact, .initialized RX9, .fieldLink RX9 31 "TraceTrees" "machine" "LTraceTrees$Machine;", .fieldLink RX9 121 "TraceTrees$Machine" "forest" "LTraceTrees$Forest;", .methodLink RX9 125 yX2_heatFact, .instanceMethod yX2_heatFact, .selects RX2 yX2_heatFact yX2_heatFact, .initialized RX2]
def vc_X9_mixPoint : List Cond := .code yX9_mixPoint cX9_mixPoint 7 (some .long) :: (oc_X9_mixPoint ++ (wsX90 ++ (wsX30 ++ (vc_X9_codeFact ++ (vc_X2_heatFact)))))
theorem iw_X9_mixPoint_X9 : ∀ w ∈ wsX90, w ∈ vc_X9_mixPoint := fun _ h => List.mem_cons_of_mem _ (List.mem_append_right _ (List.mem_append_left _ h))
theorem iw_X9_mixPoint_X3 : ∀ w ∈ wsX30, w ∈ vc_X9_mixPoint := fun _ h => List.mem_cons_of_mem _ (List.mem_append_right _ (List.mem_append_right _ (List.mem_append_left _ h)))
theorem ic_X9_mixPoint_c_X9_codeFact : ∀ w ∈ vc_X9_codeFact, w ∈ vc_X9_mixPoint := fun _ h => List.mem_cons_of_mem _ (List.mem_append_right _ (List.mem_append_right _ (List.mem_append_right _ (List.mem_append_left _ h))))
theorem ic_X9_mixPoint_c_X2_heatFact : ∀ w ∈ vc_X2_heatFact, w ∈ vc_X9_mixPoint := fun _ h => List.mem_cons_of_mem _ (List.mem_append_right _ (List.mem_append_right _ (List.mem_append_right _ (List.mem_append_right _ (h)))))
theorem gd_c_X9_mixPoint : (vc_X9_mixPoint).all goodWord = true := gall_cons rfl (gall_app (by decide +kernel) (gall_app gw_X9 (gall_app gw_X3 (gall_app gd_c_X9_codeFact gd_c_X2_heatFact))))
set_option maxHeartbeats 4000000 in
set_option maxRecDepth 100000 in
theorem c_X9_mixPoint (l : Launch) (dC : Nat → ClassId) (dI : Nat → Nat → Nat) (cI cT cS : ClassId) (sz : Nat) (ad : Nat → Nat) (a1 : Int64) (a3 : Int32) (σ : Sg) (o : Int64) (h : zf_X9_mixPoint a1 a3 σ = some o) : gCL (S := Unit) l yX9_mixPoint vc_X9_mixPoint { frames := 2, cells := 0, slots := 0, locals := 43 } (dC, dI) (gTY cI cT cS) sz [.ref (ad 0), .long a1, .int a3] (Wd 153 (cfC ad cI cT cS) σ) (fun (r : Int64) (_ : Unit) => r = o) (fun (_ : Unit) => (Wd 153 (cfC ad cI cT cS) σ)) 0 0 := by
  refine Met.ofW (cc := cX9_mixPoint) (maxL := 7) (ret := (some .long)) (by decide) rfl ?_
  intro p e s m args below meth c s₁ B hml hv
  obtain ⟨rfl, hsz, hP, hK, hD0⟩ := hv
  have hx := B.exec
  have hb := B.bytes
  have hr := B.returns
  have hts := atoms_spec (ws := vc_X9_mixPoint) B.pre
  have hown : s.vm.findClass RX9 = some m.cls := findClass_of_methodNamed B.named
  have hlocks := B.notSynchronized
  subst hsz
  have hD := hD0.self (sz := s.heap.size)
  generalize hAe : va_A (Wd 153 (cfC ad cI cT cS) σ) s.heap.size = A at hD ⊢
  have hA : ∀ q : Nat, s.heap.size ≤ q → A q := fun q h => by rw [← hAe]; exact Or.inr h
  clear hAe hD0
  refine gstart (fun H locs hHe hLe => ?_)
  have hS : va_S A s.heap H locs := by rw [← hHe, ← hLe]; exact va_S.rf
  replace hP : va_P (dC, dI) vwCl (Wd 153 (cfC ad cI cT cS) σ) H := by rw [← hHe]; exact hP
  clear hHe hLe
  have hl := lv_entry ([.ref (ad 0), .long a1, .int a3]) (n := 7) (Nat.le_of_ble_eq_true rfl)
  rw [lg_entry_eq]
  generalize (lg_sl ([.ref (ad 0), .long a1, .int a3]) ++ List.replicate (7 - (lg_sl ([.ref (ad 0), .long a1, .int a3])).length) Slot.unset).toArray = ls at hl ⊢
  replace hl : lv_has ls 7 [(0, .ref (ad 0)), (1, .long a1), (3, .int a3)] := hl
  unfold zf_X9_mixPoint at h
  refine lv_lload_n hx hb dX9_mixPoint_0 rfl (lv_at hl 1 rfl) ?_
  refine lv_lstore (lv' := [(4, .long a1), (0, .ref (ad 0)), (1, .long a1), (3, .int a3)]) hx hb dX9_mixPoint_1 hl (by decide) rfl (fun ls hl => ?_)
  refine lv_iconst (v := 0) hx hb dX9_mixPoint_3 (by decide) ?_
  refine lv_istore (lv' := [(6, .int (0 : Int32)), (4, .long a1), (0, .ref (ad 0)), (1, .long a1), (3, .int a3)]) hx hb dX9_mixPoint_4 hl (by decide) rfl (fun ls hl => ?_)
  obtain ⟨y6, hlp6, h⟩ := obd_inv h
  refine lp_W (fun x6 : Int32 × Int64 => ∀ (H : Heap) (locs : List Loc) (ls : Array Slot), va_P (dC, dI) vwCl (Wd 153 (cfC ad cI cT cS) σ) H → va_D A (Wd 153 (cfC ad cI cT cS) σ) → va_S A s.heap H locs → lv_has ls 7 [(6, .int x6.1), (4, .long x6.2), (0, .ref (ad 0)), (3, .int a3)] → W p l e (headSpec vc_X9_mixPoint { frames := 2, cells := 0, slots := 0, locals := 43 }).room s m (List.toArray (α := Value) [.ref (ad 0), .long a1, .int a3]) below meth c H locs 0 0 (MQ below (va_Ql (fun (r : Int64) (_ : Unit) => r = o) (gB (dC, dI) A (fun (_ : Unit) => (Wd 153 (cfC ad cI cT cS) σ))) A) (List.toArray (α := Value) [.ref (ad 0), .long a1, .int a3]) s 0 0 A) (F0 m 6 ls [])) (fun y6 : Int32 × Int64 => ∀ (H : Heap) (locs : List Loc) (ls : Array Slot), va_P (dC, dI) vwCl (Wd 153 (cfC ad cI cT cS) σ) H → va_D A (Wd 153 (cfC ad cI cT cS) σ) → va_S A s.heap H locs → lv_has ls 7 [(4, .long y6.2), (0, .ref (ad 0)), (3, .int a3)] → W p l e (headSpec vc_X9_mixPoint { frames := 2, cells := 0, slots := 0, locals := 43 }).room s m (List.toArray (α := Value) [.ref (ad 0), .long a1, .int a3]) below meth c H locs 0 0 (MQ below (va_Ql (fun (r : Int64) (_ : Unit) => r = o) (gB (dC, dI) A (fun (_ : Unit) => (Wd 153 (cfC ad cI cT cS) σ))) A) (List.toArray (α := Value) [.ref (ad 0), .long a1, .int a3]) s 0 0 A) (F0 m 35 ls [])) ?_ 1000 ((0 : Int32), a1) y6 hlp6 ?_ H locs ls hP hD hS (lv_sub (l' := [(6, .int (0 : Int32)), (4, .long a1), (0, .ref (ad 0)), (3, .int a3)]) hl [0, 1, 2, 4] rfl)
  · intro x6 yy6 h ht6 hf6 H locs ls hP hD hS hl
    unfold zl_X9_mixPoint_6 at h
    refine lv_iload hx hb dX9_mixPoint_6 (lv_at hl 0 rfl) ?_
    refine lv_iconst (v := 4) hx hb dX9_mixPoint_8 (by decide) ?_
    refine lv_icmp_ge (tgt := 35) hx hb dX9_mixPoint_9 (by decide) (fun c1 => ?_) (fun c1 => ?_)
    · replace h := ifp (c1) h
      obtain rfl := Option.some.inj h
      exact hf6 rfl H locs ls hP hD hS (lv_sub (l' := [(4, .long x6.2), (0, .ref (ad 0)), (3, .int a3)]) hl [1, 2, 3] rfl)
    · replace h := ifn (c1) h
      refine lv_ldc2 (v := 31) hx hb hown (hts (.constantLong RX9 205 (31)) (List.mem_of_getElem? (i := 1) rfl)) dX9_mixPoint_12 ?_
      refine lv_lload hx hb dX9_mixPoint_15 (lv_at hl 1 rfl) ?_
      refine lv_lmul hx hb dX9_mixPoint_17 ?_
      refine lv_aload_n hx hb dX9_mixPoint_18 rfl (lv_at hl 2 rfl) ?_
      refine lv_iload_n hx hb dX9_mixPoint_19 rfl (lv_at hl 3 rfl) ?_
      refine lv_iload hx hb dX9_mixPoint_20 (lv_at hl 0 rfl) ?_
      obtain ⟨r2, hc2, h⟩ := obd_inv h
      refine wcalli (S := Unit) (va_runV (As := [.int a3, .int x6.1]) (rest := [.long ((31 : Int64) * x6.2)]) ⟨hx, hb, hml, hown, hts⟩ (c_X9_codeFact l dC dI cI cT cS H.size ad  a3 x6.1 σ _ hc2) (cwV 2 hts (gWV (List.mem_of_getElem? (i := 2) rfl) (List.mem_of_getElem? (i := 3) rfl) (List.mem_of_getElem? (i := 4) rfl) (List.mem_of_getElem? (i := 5) rfl) ic_X9_mixPoint_c_X9_codeFact gd_c_X9_codeFact) rfl rfl rfl (by decide +kernel) ⟨(Nat.le_of_ble_eq_true rfl), (Nat.le_of_ble_eq_true rfl)⟩) (wpV (q := (RX9, TX9, 14)) hP hK hD oX9 rfl) rfl rfl hl.1 rfl (lv_room (Nat.le_of_ble_eq_true rfl)) dX9_mixPoint_22 ⟨(Nat.le_of_ble_eq_true rfl), (Nat.le_of_ble_eq_true rfl)⟩) hP hD hS hA (fun rr3 _ H locs hr3 hP hD hS => ?_)
      refine lv_nm (y := r2) hr3 ?_
      refine lv_i2l hx hb dX9_mixPoint_25 rfl ?_
      refine lv_ladd hx hb dX9_mixPoint_26 ?_
      obtain ⟨e4, he4, h⟩ := letb_inv h
      refine lv_nml he4 ?_
      refine lv_lstore (lv' := [(4, .long e4), (6, .int x6.1), (0, .ref (ad 0)), (3, .int a3)]) hx hb dX9_mixPoint_27 hl (by decide) rfl (fun ls hl => ?_)
      refine lv_iinc (v := (x6.1 + (1 : Int32))) (lv' := [(6, .int (x6.1 + (1 : Int32))), (4, .long e4), (0, .ref (ad 0)), (3, .int a3)]) hx hb dX9_mixPoint_29 hl (k := 1) rfl rfl (by decide) rfl (fun ls hl => ?_)
      refine lv_goto (tgt := 6) hx hb dX9_mixPoint_32 (by decide) ?_
      obtain rfl := Option.some.inj h
      exact ht6 rfl H locs ls hP hD hS (lv_sub (l' := [(6, .int (x6.1 + (1 : Int32))), (4, .long e4), (0, .ref (ad 0)), (3, .int a3)]) hl [0, 1, 2, 3] rfl)
  · intro H locs ls hP hD hS hl
    refine lv_iconst (v := 0) hx hb dX9_mixPoint_35 (by decide) ?_
    refine lv_istore (lv' := [(6, .int (0 : Int32)), (4, .long y6.2), (0, .ref (ad 0)), (3, .int a3)]) hx hb dX9_mixPoint_36 hl (by decide) rfl (fun ls hl => ?_)
    obtain ⟨y38, hlp38, h⟩ := obd_inv h
    refine lp_W (fun x38 : Int32 × Int64 => ∀ (H : Heap) (locs : List Loc) (ls : Array Slot), va_P (dC, dI) vwCl (Wd 153 (cfC ad cI cT cS) σ) H → va_D A (Wd 153 (cfC ad cI cT cS) σ) → va_S A s.heap H locs → lv_has ls 7 [(6, .int x38.1), (4, .long x38.2), (0, .ref (ad 0)), (3, .int a3)] → W p l e (headSpec vc_X9_mixPoint { frames := 2, cells := 0, slots := 0, locals := 43 }).room s m (List.toArray (α := Value) [.ref (ad 0), .long a1, .int a3]) below meth c H locs 0 0 (MQ below (va_Ql (fun (r : Int64) (_ : Unit) => r = o) (gB (dC, dI) A (fun (_ : Unit) => (Wd 153 (cfC ad cI cT cS) σ))) A) (List.toArray (α := Value) [.ref (ad 0), .long a1, .int a3]) s 0 0 A) (F0 m 38 ls [])) (fun y38 : Int32 × Int64 => ∀ (H : Heap) (locs : List Loc) (ls : Array Slot), va_P (dC, dI) vwCl (Wd 153 (cfC ad cI cT cS) σ) H → va_D A (Wd 153 (cfC ad cI cT cS) σ) → va_S A s.heap H locs → lv_has ls 7 [(4, .long y38.2)] → W p l e (headSpec vc_X9_mixPoint { frames := 2, cells := 0, slots := 0, locals := 43 }).room s m (List.toArray (α := Value) [.ref (ad 0), .long a1, .int a3]) below meth c H locs 0 0 (MQ below (va_Ql (fun (r : Int64) (_ : Unit) => r = o) (gB (dC, dI) A (fun (_ : Unit) => (Wd 153 (cfC ad cI cT cS) σ))) A) (List.toArray (α := Value) [.ref (ad 0), .long a1, .int a3]) s 0 0 A) (F0 m 73 ls [])) ?_ 1000 ((0 : Int32), y6.2) y38 hlp38 ?_ H locs ls hP hD hS (lv_sub (l' := [(6, .int (0 : Int32)), (4, .long y6.2), (0, .ref (ad 0)), (3, .int a3)]) hl [0, 1, 2, 3] rfl)
    · intro x38 yy38 h ht38 hf38 H locs ls hP hD hS hl
      unfold zl_X9_mixPoint_38 at h
      refine lv_iload hx hb dX9_mixPoint_38 (lv_at hl 0 rfl) ?_
      refine lv_iconst (v := 3) hx hb dX9_mixPoint_40 (by decide) ?_
      refine lv_icmp_ge (tgt := 73) hx hb dX9_mixPoint_41 (by decide) (fun c5 => ?_) (fun c5 => ?_)
      · replace h := ifp (c5) h
        obtain rfl := Option.some.inj h
        exact hf38 rfl H locs ls hP hD hS (lv_sub (l' := [(4, .long x38.2)]) hl [1] rfl)
      · replace h := ifn (c5) h
        refine lv_ldc2 (v := 31) hx hb hown (hts (.constantLong RX9 205 (31)) (List.mem_of_getElem? (i := 1) rfl)) dX9_mixPoint_44 ?_
        refine lv_lload hx hb dX9_mixPoint_47 (lv_at hl 1 rfl) ?_
        refine lv_lmul hx hb dX9_mixPoint_49 ?_
        refine lv_aload_n hx hb dX9_mixPoint_50 rfl (lv_at hl 2 rfl) ?_
        refine gf_X9_3 hx hb hts iw_X9_mixPoint_X9 hown hK hP (hts (.fieldLink RX9 31 "TraceTrees" "machine" "LTraceTrees$Machine;") (List.mem_of_getElem? (i := 6) rfl)) dX9_mixPoint_51 ?_
        refine gf_X3_2 isM_21 hx hb hts iw_X9_mixPoint_X3 hown hK hP (hts (.fieldLink RX9 121 "TraceTrees$Machine" "forest" "LTraceTrees$Forest;") (List.mem_of_getElem? (i := 7) rfl)) dX9_mixPoint_54 ?_
        refine lv_iload_n hx hb dX9_mixPoint_57 rfl (lv_at hl 3 rfl) ?_
        refine lv_iload hx hb dX9_mixPoint_58 (lv_at hl 0 rfl) ?_
        obtain ⟨r6, hc6, h⟩ := obd_inv h
        refine wcalli (S := Unit) (va_runV (As := [.int a3, .int x38.1]) (rest := [.long ((31 : Int64) * x38.2)]) ⟨hx, hb, hml, hown, hts⟩ (c_X2_heatFact l dC dI cI cT cS H.size ad 21 isM_21 a3 x38.1 σ _ hc6) (cwV 2 hts (gWV (List.mem_of_getElem? (i := 8) rfl) (List.mem_of_getElem? (i := 9) rfl) (List.mem_of_getElem? (i := 10) rfl) (List.mem_of_getElem? (i := 11) rfl) ic_X9_mixPoint_c_X2_heatFact gd_c_X2_heatFact) rfl rfl rfl (by decide +kernel) ⟨(Nat.le_of_ble_eq_true rfl), (Nat.le_of_ble_eq_true rfl)⟩) (wpV (q := (RX2, TX2, 7)) hP hK hD (oX2 isM_21) rfl) rfl rfl hl.1 rfl (lv_room (Nat.le_of_ble_eq_true rfl)) dX9_mixPoint_60 ⟨(Nat.le_of_ble_eq_true rfl), (Nat.le_of_ble_eq_true rfl)⟩) hP hD hS hA (fun rr7 _ H locs hr7 hP hD hS => ?_)
        refine lv_nm (y := r6) hr7 ?_
        refine lv_i2l hx hb dX9_mixPoint_63 rfl ?_
        refine lv_ladd hx hb dX9_mixPoint_64 ?_
        obtain ⟨e8, he8, h⟩ := letb_inv h
        refine lv_nml he8 ?_
        refine lv_lstore (lv' := [(4, .long e8), (6, .int x38.1), (0, .ref (ad 0)), (3, .int a3)]) hx hb dX9_mixPoint_65 hl (by decide) rfl (fun ls hl => ?_)
        refine lv_iinc (v := (x38.1 + (1 : Int32))) (lv' := [(6, .int (x38.1 + (1 : Int32))), (4, .long e8), (0, .ref (ad 0)), (3, .int a3)]) hx hb dX9_mixPoint_67 hl (k := 1) rfl rfl (by decide) rfl (fun ls hl => ?_)
        refine lv_goto (tgt := 38) hx hb dX9_mixPoint_70 (by decide) ?_
        obtain rfl := Option.some.inj h
        exact ht38 rfl H locs ls hP hD hS (lv_sub (l' := [(6, .int (x38.1 + (1 : Int32))), (4, .long e8), (0, .ref (ad 0)), (3, .int a3)]) hl [0, 1, 2, 3] rfl)
    · intro H locs ls hP hD hS hl
      refine lv_lload hx hb dX9_mixPoint_73 (lv_at hl 0 rfl) ?_
      have h9 := Option.some.inj h
      exact wretl hx hb hr hlocks hP hD hS (by show _ = _; rw [← h9]; first | done | rfl) rfl dX9_mixPoint_75
def zf_X9_mixRegister (a1 : Int64) (a3 : Int32) (σ : Sg) : Option (Int64) := obd (zf_X5_fact (21 + 1) a3 (0 : Int32) σ) (fun r1 => letb (((31 : Int64) * a1) + (r1.toInt64)) (fun e3 => obd (zf_X5_fact (21 + 1) a3 (1 : Int32) σ) (fun r4 => letb (((31 : Int64) * e3) + (r4.toInt64)) (fun e6 => obd (zf_X5_fact 9 a3 (0 : Int32) σ) (fun r7 => letb (((31 : Int64) * e6) + (r7.toInt64)) (fun e9 => obd (zf_X5_fact 9 a3 (1 : Int32) σ) (fun r10 => some (((31 : Int64) * e9) + (r10.toInt64)))))))))
def oc_X9_mixRegister : List Cond := [.constantLong RX9 205 (31), .fieldLink RX9 31 "TraceTrees" "machine" "LTraceTrees$Machine;", .fieldLink RX9 109 "TraceTrees$Machine" "registers" "LTraceTrees$Registers;", .methodLink RX9 112 yX5_fact, .instanceMethod yX5_fact, .selects RX5 yX5_fact yX5_fact, .initialized RX5, .fieldLink RX9 23 "TraceTrees" "plainEnd" "LTraceTrees$Registers;"]
def vc_X9_mixRegister : List Cond := .code yX9_mixRegister cX9_mixRegister 6 (some .long) :: (oc_X9_mixRegister ++ (wsX90 ++ (wsX30 ++ (vc_X5_fact))))
theorem iw_X9_mixRegister_X9 : ∀ w ∈ wsX90, w ∈ vc_X9_mixRegister := fun _ h => List.mem_cons_of_mem _ (List.mem_append_right _ (List.mem_append_left _ h))
theorem iw_X9_mixRegister_X3 : ∀ w ∈ wsX30, w ∈ vc_X9_mixRegister := fun _ h => List.mem_cons_of_mem _ (List.mem_append_right _ (List.mem_append_right _ (List.mem_append_left _ h)))
theorem ic_X9_mixRegister_c_X5_fact : ∀ w ∈ vc_X5_fact, w ∈ vc_X9_mixRegister := fun _ h => List.mem_cons_of_mem _ (List.mem_append_right _ (List.mem_append_right _ (List.mem_append_right _ (h))))
theorem gd_c_X9_mixRegister : (vc_X9_mixRegister).all goodWord = true := gall_cons rfl (gall_app (by decide +kernel) (gall_app gw_X9 (gall_app gw_X3 gd_c_X5_fact)))
set_option maxHeartbeats 4000000 in
set_option maxRecDepth 100000 in
theorem c_X9_mixRegister (l : Launch) (dC : Nat → ClassId) (dI : Nat → Nat → Nat) (cI cT cS : ClassId) (sz : Nat) (ad : Nat → Nat) (a1 : Int64) (a3 : Int32) (σ : Sg) (o : Int64) (h : zf_X9_mixRegister a1 a3 σ = some o) : gCL (S := Unit) l yX9_mixRegister vc_X9_mixRegister { frames := 2, cells := 0, slots := 0, locals := 42 } (dC, dI) (gTY cI cT cS) sz [.ref (ad 0), .long a1, .int a3] (Wd 153 (cfC ad cI cT cS) σ) (fun (r : Int64) (_ : Unit) => r = o) (fun (_ : Unit) => (Wd 153 (cfC ad cI cT cS) σ)) 0 0 := by
  refine Met.ofW (cc := cX9_mixRegister) (maxL := 6) (ret := (some .long)) (by decide) rfl ?_
  intro p e s m args below meth c s₁ B hml hv
  obtain ⟨rfl, hsz, hP, hK, hD0⟩ := hv
  have hx := B.exec
  have hb := B.bytes
  have hr := B.returns
  have hts := atoms_spec (ws := vc_X9_mixRegister) B.pre
  have hown : s.vm.findClass RX9 = some m.cls := findClass_of_methodNamed B.named
  have hlocks := B.notSynchronized
  subst hsz
  have hD := hD0.self (sz := s.heap.size)
  generalize hAe : va_A (Wd 153 (cfC ad cI cT cS) σ) s.heap.size = A at hD ⊢
  have hA : ∀ q : Nat, s.heap.size ≤ q → A q := fun q h => by rw [← hAe]; exact Or.inr h
  clear hAe hD0
  refine gstart (fun H locs hHe hLe => ?_)
  have hS : va_S A s.heap H locs := by rw [← hHe, ← hLe]; exact va_S.rf
  replace hP : va_P (dC, dI) vwCl (Wd 153 (cfC ad cI cT cS) σ) H := by rw [← hHe]; exact hP
  clear hHe hLe
  have hl := lv_entry ([.ref (ad 0), .long a1, .int a3]) (n := 6) (Nat.le_of_ble_eq_true rfl)
  rw [lg_entry_eq]
  generalize (lg_sl ([.ref (ad 0), .long a1, .int a3]) ++ List.replicate (6 - (lg_sl ([.ref (ad 0), .long a1, .int a3])).length) Slot.unset).toArray = ls at hl ⊢
  replace hl : lv_has ls 6 [(0, .ref (ad 0)), (1, .long a1), (3, .int a3)] := hl
  unfold zf_X9_mixRegister at h
  refine lv_lload_n hx hb dX9_mixRegister_0 rfl (lv_at hl 1 rfl) ?_
  refine lv_lstore (lv' := [(4, .long a1), (0, .ref (ad 0)), (1, .long a1), (3, .int a3)]) hx hb dX9_mixRegister_1 hl (by decide) rfl (fun ls hl => ?_)
  refine lv_ldc2 (v := 31) hx hb hown (hts (.constantLong RX9 205 (31)) (List.mem_of_getElem? (i := 1) rfl)) dX9_mixRegister_3 ?_
  refine lv_lload hx hb dX9_mixRegister_6 (lv_at hl 0 rfl) ?_
  refine lv_lmul hx hb dX9_mixRegister_8 ?_
  refine lv_aload_n hx hb dX9_mixRegister_9 rfl (lv_at hl 1 rfl) ?_
  refine gf_X9_3 hx hb hts iw_X9_mixRegister_X9 hown hK hP (hts (.fieldLink RX9 31 "TraceTrees" "machine" "LTraceTrees$Machine;") (List.mem_of_getElem? (i := 2) rfl)) dX9_mixRegister_10 ?_
  refine gf_X3_1 isM_21 hx hb hts iw_X9_mixRegister_X3 hown hK hP (hts (.fieldLink RX9 109 "TraceTrees$Machine" "registers" "LTraceTrees$Registers;") (List.mem_of_getElem? (i := 3) rfl)) dX9_mixRegister_13 ?_
  refine lv_iload_n hx hb dX9_mixRegister_16 rfl (lv_at hl 3 rfl) ?_
  refine lv_iconst (v := 0) hx hb dX9_mixRegister_17 (by decide) ?_
  obtain ⟨r1, hc1, h⟩ := obd_inv h
  refine wcalli (S := Unit) (va_runV (As := [.int a3, .int (0 : Int32)]) (rest := [.long ((31 : Int64) * a1)]) ⟨hx, hb, hml, hown, hts⟩ (c_X5_fact l dC dI cI cT cS H.size ad (21 + 1) (isRg_M isM_21) a3 (0 : Int32) σ _ hc1) (cwV 2 hts (gWV (List.mem_of_getElem? (i := 4) rfl) (List.mem_of_getElem? (i := 5) rfl) (List.mem_of_getElem? (i := 6) rfl) (List.mem_of_getElem? (i := 7) rfl) ic_X9_mixRegister_c_X5_fact gd_c_X5_fact) rfl rfl rfl (by decide +kernel) ⟨(Nat.le_of_ble_eq_true rfl), (Nat.le_of_ble_eq_true rfl)⟩) (wpV (q := (RX5, TX5, 2)) hP hK hD (oX5 (isRg_M isM_21)) rfl) rfl rfl hl.1 rfl (lv_room (Nat.le_of_ble_eq_true rfl)) dX9_mixRegister_18 ⟨(Nat.le_of_ble_eq_true rfl), (Nat.le_of_ble_eq_true rfl)⟩) hP hD hS hA (fun rr2 _ H locs hr2 hP hD hS => ?_)
  refine lv_nm (y := r1) hr2 ?_
  refine lv_i2l hx hb dX9_mixRegister_21 rfl ?_
  refine lv_ladd hx hb dX9_mixRegister_22 ?_
  obtain ⟨e3, he3, h⟩ := letb_inv h
  refine lv_nml he3 ?_
  refine lv_lstore (lv' := [(4, .long e3), (0, .ref (ad 0)), (1, .long a1), (3, .int a3)]) hx hb dX9_mixRegister_23 hl (by decide) rfl (fun ls hl => ?_)
  refine lv_ldc2 (v := 31) hx hb hown (hts (.constantLong RX9 205 (31)) (List.mem_of_getElem? (i := 1) rfl)) dX9_mixRegister_25 ?_
  refine lv_lload hx hb dX9_mixRegister_28 (lv_at hl 0 rfl) ?_
  refine lv_lmul hx hb dX9_mixRegister_30 ?_
  refine lv_aload_n hx hb dX9_mixRegister_31 rfl (lv_at hl 1 rfl) ?_
  refine gf_X9_3 hx hb hts iw_X9_mixRegister_X9 hown hK hP (hts (.fieldLink RX9 31 "TraceTrees" "machine" "LTraceTrees$Machine;") (List.mem_of_getElem? (i := 2) rfl)) dX9_mixRegister_32 ?_
  refine gf_X3_1 isM_21 hx hb hts iw_X9_mixRegister_X3 hown hK hP (hts (.fieldLink RX9 109 "TraceTrees$Machine" "registers" "LTraceTrees$Registers;") (List.mem_of_getElem? (i := 3) rfl)) dX9_mixRegister_35 ?_
  refine lv_iload_n hx hb dX9_mixRegister_38 rfl (lv_at hl 3 rfl) ?_
  refine lv_iconst (v := 1) hx hb dX9_mixRegister_39 (by decide) ?_
  obtain ⟨r4, hc4, h⟩ := obd_inv h
  refine wcalli (S := Unit) (va_runV (As := [.int a3, .int (1 : Int32)]) (rest := [.long ((31 : Int64) * e3)]) ⟨hx, hb, hml, hown, hts⟩ (c_X5_fact l dC dI cI cT cS H.size ad (21 + 1) (isRg_M isM_21) a3 (1 : Int32) σ _ hc4) (cwV 2 hts (gWV (List.mem_of_getElem? (i := 4) rfl) (List.mem_of_getElem? (i := 5) rfl) (List.mem_of_getElem? (i := 6) rfl) (List.mem_of_getElem? (i := 7) rfl) ic_X9_mixRegister_c_X5_fact gd_c_X5_fact) rfl rfl rfl (by decide +kernel) ⟨(Nat.le_of_ble_eq_true rfl), (Nat.le_of_ble_eq_true rfl)⟩) (wpV (q := (RX5, TX5, 2)) hP hK hD (oX5 (isRg_M isM_21)) rfl) rfl rfl hl.1 rfl (lv_room (Nat.le_of_ble_eq_true rfl)) dX9_mixRegister_40 ⟨(Nat.le_of_ble_eq_true rfl), (Nat.le_of_ble_eq_true rfl)⟩) hP hD hS hA (fun rr5 _ H locs hr5 hP hD hS => ?_)
  refine lv_nm (y := r4) hr5 ?_
  refine lv_i2l hx hb dX9_mixRegister_43 rfl ?_
  refine lv_ladd hx hb dX9_mixRegister_44 ?_
  obtain ⟨e6, he6, h⟩ := letb_inv h
  refine lv_nml he6 ?_
  refine lv_lstore (lv' := [(4, .long e6), (0, .ref (ad 0)), (1, .long a1), (3, .int a3)]) hx hb dX9_mixRegister_45 hl (by decide) rfl (fun ls hl => ?_)
  refine lv_ldc2 (v := 31) hx hb hown (hts (.constantLong RX9 205 (31)) (List.mem_of_getElem? (i := 1) rfl)) dX9_mixRegister_47 ?_
  refine lv_lload hx hb dX9_mixRegister_50 (lv_at hl 0 rfl) ?_
  refine lv_lmul hx hb dX9_mixRegister_52 ?_
  refine lv_aload_n hx hb dX9_mixRegister_53 rfl (lv_at hl 1 rfl) ?_
  refine gf_X9_5 hx hb hts iw_X9_mixRegister_X9 hown hK hP (hts (.fieldLink RX9 23 "TraceTrees" "plainEnd" "LTraceTrees$Registers;") (List.mem_of_getElem? (i := 8) rfl)) dX9_mixRegister_54 ?_
  refine lv_iload_n hx hb dX9_mixRegister_57 rfl (lv_at hl 3 rfl) ?_
  refine lv_iconst (v := 0) hx hb dX9_mixRegister_58 (by decide) ?_
  obtain ⟨r7, hc7, h⟩ := obd_inv h
  refine wcalli (S := Unit) (va_runV (As := [.int a3, .int (0 : Int32)]) (rest := [.long ((31 : Int64) * e6)]) ⟨hx, hb, hml, hown, hts⟩ (c_X5_fact l dC dI cI cT cS H.size ad 9 isRg_9 a3 (0 : Int32) σ _ hc7) (cwV 2 hts (gWV (List.mem_of_getElem? (i := 4) rfl) (List.mem_of_getElem? (i := 5) rfl) (List.mem_of_getElem? (i := 6) rfl) (List.mem_of_getElem? (i := 7) rfl) ic_X9_mixRegister_c_X5_fact gd_c_X5_fact) rfl rfl rfl (by decide +kernel) ⟨(Nat.le_of_ble_eq_true rfl), (Nat.le_of_ble_eq_true rfl)⟩) (wpV (q := (RX5, TX5, 2)) hP hK hD (oX5 isRg_9) rfl) rfl rfl hl.1 rfl (lv_room (Nat.le_of_ble_eq_true rfl)) dX9_mixRegister_59 ⟨(Nat.le_of_ble_eq_true rfl), (Nat.le_of_ble_eq_true rfl)⟩) hP hD hS hA (fun rr8 _ H locs hr8 hP hD hS => ?_)
  refine lv_nm (y := r7) hr8 ?_
  refine lv_i2l hx hb dX9_mixRegister_62 rfl ?_
  refine lv_ladd hx hb dX9_mixRegister_63 ?_
  obtain ⟨e9, he9, h⟩ := letb_inv h
  refine lv_nml he9 ?_
  refine lv_lstore (lv' := [(4, .long e9), (0, .ref (ad 0)), (1, .long a1), (3, .int a3)]) hx hb dX9_mixRegister_64 hl (by decide) rfl (fun ls hl => ?_)
  refine lv_ldc2 (v := 31) hx hb hown (hts (.constantLong RX9 205 (31)) (List.mem_of_getElem? (i := 1) rfl)) dX9_mixRegister_66 ?_
  refine lv_lload hx hb dX9_mixRegister_69 (lv_at hl 0 rfl) ?_
  refine lv_lmul hx hb dX9_mixRegister_71 ?_
  refine lv_aload_n hx hb dX9_mixRegister_72 rfl (lv_at hl 1 rfl) ?_
  refine gf_X9_5 hx hb hts iw_X9_mixRegister_X9 hown hK hP (hts (.fieldLink RX9 23 "TraceTrees" "plainEnd" "LTraceTrees$Registers;") (List.mem_of_getElem? (i := 8) rfl)) dX9_mixRegister_73 ?_
  refine lv_iload_n hx hb dX9_mixRegister_76 rfl (lv_at hl 3 rfl) ?_
  refine lv_iconst (v := 1) hx hb dX9_mixRegister_77 (by decide) ?_
  obtain ⟨r10, hc10, h⟩ := obd_inv h
  refine wcalli (S := Unit) (va_runV (As := [.int a3, .int (1 : Int32)]) (rest := [.long ((31 : Int64) * e9)]) ⟨hx, hb, hml, hown, hts⟩ (c_X5_fact l dC dI cI cT cS H.size ad 9 isRg_9 a3 (1 : Int32) σ _ hc10) (cwV 2 hts (gWV (List.mem_of_getElem? (i := 4) rfl) (List.mem_of_getElem? (i := 5) rfl) (List.mem_of_getElem? (i := 6) rfl) (List.mem_of_getElem? (i := 7) rfl) ic_X9_mixRegister_c_X5_fact gd_c_X5_fact) rfl rfl rfl (by decide +kernel) ⟨(Nat.le_of_ble_eq_true rfl), (Nat.le_of_ble_eq_true rfl)⟩) (wpV (q := (RX5, TX5, 2)) hP hK hD (oX5 isRg_9) rfl) rfl rfl hl.1 rfl (lv_room (Nat.le_of_ble_eq_true rfl)) dX9_mixRegister_78 ⟨(Nat.le_of_ble_eq_true rfl), (Nat.le_of_ble_eq_true rfl)⟩) hP hD hS hA (fun rr11 _ H locs hr11 hP hD hS => ?_)
  refine lv_nm (y := r10) hr11 ?_
  refine lv_i2l hx hb dX9_mixRegister_81 rfl ?_
  refine lv_ladd hx hb dX9_mixRegister_82 ?_
  have h9 := Option.some.inj h
  exact wretl hx hb hr hlocks hP hD hS (by show _ = _; rw [← h9]; first | done | rfl) rfl dX9_mixRegister_83
def zl_X9_mixTrace_95 (a3 : Int32) (σ : Sg) (x85 : Int32 × Int64) (x95 : Int32 × Int64) : Option (Bool × (Int32 × Int64)) := (if (6 : Int32) ≤ x95.1 then some (false, (x95.1, x95.2)) else obd (zf_X9_entryFact a3 x85.1 x95.1 σ) (fun r14 => letb (((31 : Int64) * x95.2) + (r14.toInt64)) (fun e16 => some (true, ((x95.1 + (1 : Int32)), e16)))))
def zl_X9_mixTrace_85 (a3 : Int32) (σ : Sg) (x85 : Int32 × Int64) : Option (Bool × (Int32 × Int64)) := (if (16 : Int32) ≤ x85.1 then some (false, (x85.1, x85.2)) else obd (lp (X := Int32 × Int64) (zl_X9_mixTrace_95 a3 σ x85) 1000 ((0 : Int32), x85.2)) (fun y95 => obd (zf_X9_snapshotFact a3 x85.1 (0 : Int32) σ) (fun r17 => letb (((31 : Int64) * y95.2) + (r17.toInt64)) (fun e19 => obd (zf_X9_snapshotFact a3 x85.1 (1 : Int32) σ) (fun r20 => letb (((31 : Int64) * e19) + (r20.toInt64)) (fun e22 => some (true, ((x85.1 + (1 : Int32)), e22))))))))
def zl_X9_mixTrace_38 (a3 : Int32) (σ : Sg) (x38 : Int32 × Int64) : Option (Bool × (Int32 × Int64)) := (if (3 : Int32) ≤ x38.1 then some (false, (x38.1, x38.2)) else obd (zf_X9_checkFact a3 x38.1 σ) (fun r6 => letb (((31 : Int64) * x38.2) + (r6.toInt64)) (fun e8 => some (true, ((x38.1 + (1 : Int32)), e8)))))
def zl_X9_mixTrace_6 (a3 : Int32) (σ : Sg) (x6 : Int32 × Int64) : Option (Bool × (Int32 × Int64)) := (if (5 : Int32) ≤ x6.1 then some (false, (x6.1, x6.2)) else obd (zf_X9_traceFact a3 x6.1 σ) (fun r2 => letb (((31 : Int64) * x6.2) + (r2.toInt64)) (fun e4 => some (true, ((x6.1 + (1 : Int32)), e4)))))
def zf_X9_mixTrace (a1 : Int64) (a3 : Int32) (σ : Sg) : Option (Int64) := obd (lp (X := Int32 × Int64) (zl_X9_mixTrace_6 a3 σ) 1000 ((0 : Int32), a1)) (fun y6 => obd (lp (X := Int32 × Int64) (zl_X9_mixTrace_38 a3 σ) 1000 ((0 : Int32), y6.2)) (fun y38 => obd (zf_X9_writtenBy a3 σ) (fun r9 => letb (((31 : Int64) * y38.2) + (r9.toInt64)) (fun e11 => obd (lp (X := Int32 × Int64) (zl_X9_mixTrace_85 a3 σ) 1000 ((0 : Int32), e11)) (fun y85 => some y85.2)))))
def oc_X9_mixTrace : List Cond := [.constantLong RX9 205 (31), .methodLink RX9 130 yX9_traceFact, .instanceMethod yX9_traceFact, .selects RX9 yX9_traceFact yX9_traceFact, .initialized RX9, .methodLink RX9 137 yX9_checkFact, .instanceMethod yX9_checkFact, .selects RX9 yX9_checkFact yX9_checkFact, .methodLink RX9 143 yX9_writtenBy, .instanceMethod yX9_writtenBy, .selects RX9 yX9_writtenBy yX9_writtenBy, .methodLink RX9 133 yX9_entryFact, .instanceMethod yX9_entryFact, .selects RX9 yX9_entryFact yX9_entryFact, .methodLink RX9 140 yX9_snapshotFact, .instanceMethod yX9_snapshotFact, .selects RX9 yX9_snapshotFact yX9_snapshotFact]
def vc_X9_mixTrace : List Cond := .code yX9_mixTrace cX9_mixTrace 8 (some .long) :: (oc_X9_mixTrace ++ (vc_X9_traceFact ++ (vc_X9_checkFact ++ (vc_X9_writtenBy ++ (vc_X9_entryFact ++ (vc_X9_snapshotFact))))))
theorem ic_X9_mixTrace_c_X9_traceFact : ∀ w ∈ vc_X9_traceFact, w ∈ vc_X9_mixTrace := fun _ h => List.mem_cons_of_mem _ (List.mem_append_right _ (List.mem_append_left _ h))
theorem ic_X9_mixTrace_c_X9_checkFact : ∀ w ∈ vc_X9_checkFact, w ∈ vc_X9_mixTrace := fun _ h => List.mem_cons_of_mem _ (List.mem_append_right _ (List.mem_append_right _ (List.mem_append_left _ h)))
theorem ic_X9_mixTrace_c_X9_writtenBy : ∀ w ∈ vc_X9_writtenBy, w ∈ vc_X9_mixTrace := fun _ h => List.mem_cons_of_mem _ (List.mem_append_right _ (List.mem_append_right _ (List.mem_append_right _ (List.mem_append_left _ h))))
theorem ic_X9_mixTrace_c_X9_entryFact : ∀ w ∈ vc_X9_entryFact, w ∈ vc_X9_mixTrace := fun _ h => List.mem_cons_of_mem _ (List.mem_append_right _ (List.mem_append_right _ (List.mem_append_right _ (List.mem_append_right _ (List.mem_append_left _ h)))))
theorem ic_X9_mixTrace_c_X9_snapshotFact : ∀ w ∈ vc_X9_snapshotFact, w ∈ vc_X9_mixTrace := fun _ h => List.mem_cons_of_mem _ (List.mem_append_right _ (List.mem_append_right _ (List.mem_append_right _ (List.mem_append_right _ (List.mem_append_right _ (h))))))
theorem gd_c_X9_mixTrace : (vc_X9_mixTrace).all goodWord = true := gall_cons rfl (gall_app (by decide +kernel) (gall_app gd_c_X9_traceFact (gall_app gd_c_X9_checkFact (gall_app gd_c_X9_writtenBy (gall_app gd_c_X9_entryFact gd_c_X9_snapshotFact)))))
set_option maxHeartbeats 4000000 in
set_option maxRecDepth 100000 in
theorem c_X9_mixTrace (l : Launch) (dC : Nat → ClassId) (dI : Nat → Nat → Nat) (cI cT cS : ClassId) (sz : Nat) (ad : Nat → Nat) (a1 : Int64) (a3 : Int32) (σ : Sg) (o : Int64) (h : zf_X9_mixTrace a1 a3 σ = some o) : gCL (S := Unit) l yX9_mixTrace vc_X9_mixTrace { frames := 6, cells := 0, slots := 0, locals := 140 } (dC, dI) (gTY cI cT cS) sz [.ref (ad 0), .long a1, .int a3] (Wd 153 (cfC ad cI cT cS) σ) (fun (r : Int64) (_ : Unit) => r = o) (fun (_ : Unit) => (Wd 153 (cfC ad cI cT cS) σ)) 0 0 := by
  refine Met.ofW (cc := cX9_mixTrace) (maxL := 8) (ret := (some .long)) (by decide) rfl ?_
  intro p e s m args below meth c s₁ B hml hv
  obtain ⟨rfl, hsz, hP, hK, hD0⟩ := hv
  have hx := B.exec
  have hb := B.bytes
  have hr := B.returns
  have hts := atoms_spec (ws := vc_X9_mixTrace) B.pre
  have hown : s.vm.findClass RX9 = some m.cls := findClass_of_methodNamed B.named
  have hlocks := B.notSynchronized
  subst hsz
  have hD := hD0.self (sz := s.heap.size)
  generalize hAe : va_A (Wd 153 (cfC ad cI cT cS) σ) s.heap.size = A at hD ⊢
  have hA : ∀ q : Nat, s.heap.size ≤ q → A q := fun q h => by rw [← hAe]; exact Or.inr h
  clear hAe hD0
  refine gstart (fun H locs hHe hLe => ?_)
  have hS : va_S A s.heap H locs := by rw [← hHe, ← hLe]; exact va_S.rf
  replace hP : va_P (dC, dI) vwCl (Wd 153 (cfC ad cI cT cS) σ) H := by rw [← hHe]; exact hP
  clear hHe hLe
  have hl := lv_entry ([.ref (ad 0), .long a1, .int a3]) (n := 8) (Nat.le_of_ble_eq_true rfl)
  rw [lg_entry_eq]
  generalize (lg_sl ([.ref (ad 0), .long a1, .int a3]) ++ List.replicate (8 - (lg_sl ([.ref (ad 0), .long a1, .int a3])).length) Slot.unset).toArray = ls at hl ⊢
  replace hl : lv_has ls 8 [(0, .ref (ad 0)), (1, .long a1), (3, .int a3)] := hl
  unfold zf_X9_mixTrace at h
  refine lv_lload_n hx hb dX9_mixTrace_0 rfl (lv_at hl 1 rfl) ?_
  refine lv_lstore (lv' := [(4, .long a1), (0, .ref (ad 0)), (1, .long a1), (3, .int a3)]) hx hb dX9_mixTrace_1 hl (by decide) rfl (fun ls hl => ?_)
  refine lv_iconst (v := 0) hx hb dX9_mixTrace_3 (by decide) ?_
  refine lv_istore (lv' := [(6, .int (0 : Int32)), (4, .long a1), (0, .ref (ad 0)), (1, .long a1), (3, .int a3)]) hx hb dX9_mixTrace_4 hl (by decide) rfl (fun ls hl => ?_)
  obtain ⟨y6, hlp6, h⟩ := obd_inv h
  refine lp_W (fun x6 : Int32 × Int64 => ∀ (H : Heap) (locs : List Loc) (ls : Array Slot), va_P (dC, dI) vwCl (Wd 153 (cfC ad cI cT cS) σ) H → va_D A (Wd 153 (cfC ad cI cT cS) σ) → va_S A s.heap H locs → lv_has ls 8 [(6, .int x6.1), (4, .long x6.2), (0, .ref (ad 0)), (3, .int a3)] → W p l e (headSpec vc_X9_mixTrace { frames := 6, cells := 0, slots := 0, locals := 140 }).room s m (List.toArray (α := Value) [.ref (ad 0), .long a1, .int a3]) below meth c H locs 0 0 (MQ below (va_Ql (fun (r : Int64) (_ : Unit) => r = o) (gB (dC, dI) A (fun (_ : Unit) => (Wd 153 (cfC ad cI cT cS) σ))) A) (List.toArray (α := Value) [.ref (ad 0), .long a1, .int a3]) s 0 0 A) (F0 m 6 ls [])) (fun y6 : Int32 × Int64 => ∀ (H : Heap) (locs : List Loc) (ls : Array Slot), va_P (dC, dI) vwCl (Wd 153 (cfC ad cI cT cS) σ) H → va_D A (Wd 153 (cfC ad cI cT cS) σ) → va_S A s.heap H locs → lv_has ls 8 [(4, .long y6.2), (0, .ref (ad 0)), (3, .int a3)] → W p l e (headSpec vc_X9_mixTrace { frames := 6, cells := 0, slots := 0, locals := 140 }).room s m (List.toArray (α := Value) [.ref (ad 0), .long a1, .int a3]) below meth c H locs 0 0 (MQ below (va_Ql (fun (r : Int64) (_ : Unit) => r = o) (gB (dC, dI) A (fun (_ : Unit) => (Wd 153 (cfC ad cI cT cS) σ))) A) (List.toArray (α := Value) [.ref (ad 0), .long a1, .int a3]) s 0 0 A) (F0 m 35 ls [])) ?_ 1000 ((0 : Int32), a1) y6 hlp6 ?_ H locs ls hP hD hS (lv_sub (l' := [(6, .int (0 : Int32)), (4, .long a1), (0, .ref (ad 0)), (3, .int a3)]) hl [0, 1, 2, 4] rfl)
  · intro x6 yy6 h ht6 hf6 H locs ls hP hD hS hl
    unfold zl_X9_mixTrace_6 at h
    refine lv_iload hx hb dX9_mixTrace_6 (lv_at hl 0 rfl) ?_
    refine lv_iconst (v := 5) hx hb dX9_mixTrace_8 (by decide) ?_
    refine lv_icmp_ge (tgt := 35) hx hb dX9_mixTrace_9 (by decide) (fun c1 => ?_) (fun c1 => ?_)
    · replace h := ifp (c1) h
      obtain rfl := Option.some.inj h
      exact hf6 rfl H locs ls hP hD hS (lv_sub (l' := [(4, .long x6.2), (0, .ref (ad 0)), (3, .int a3)]) hl [1, 2, 3] rfl)
    · replace h := ifn (c1) h
      refine lv_ldc2 (v := 31) hx hb hown (hts (.constantLong RX9 205 (31)) (List.mem_of_getElem? (i := 1) rfl)) dX9_mixTrace_12 ?_
      refine lv_lload hx hb dX9_mixTrace_15 (lv_at hl 1 rfl) ?_
      refine lv_lmul hx hb dX9_mixTrace_17 ?_
      refine lv_aload_n hx hb dX9_mixTrace_18 rfl (lv_at hl 2 rfl) ?_
      refine lv_iload_n hx hb dX9_mixTrace_19 rfl (lv_at hl 3 rfl) ?_
      refine lv_iload hx hb dX9_mixTrace_20 (lv_at hl 0 rfl) ?_
      obtain ⟨r2, hc2, h⟩ := obd_inv h
      refine wcalli (S := Unit) (va_runV (As := [.int a3, .int x6.1]) (rest := [.long ((31 : Int64) * x6.2)]) ⟨hx, hb, hml, hown, hts⟩ (c_X9_traceFact l dC dI cI cT cS H.size ad  a3 x6.1 σ _ hc2) (cwV 2 hts (gWV (List.mem_of_getElem? (i := 2) rfl) (List.mem_of_getElem? (i := 3) rfl) (List.mem_of_getElem? (i := 4) rfl) (List.mem_of_getElem? (i := 5) rfl) ic_X9_mixTrace_c_X9_traceFact gd_c_X9_traceFact) rfl rfl rfl (by decide +kernel) ⟨(Nat.le_of_ble_eq_true rfl), (Nat.le_of_ble_eq_true rfl)⟩) (wpV (q := (RX9, TX9, 14)) hP hK hD oX9 rfl) rfl rfl hl.1 rfl (lv_room (Nat.le_of_ble_eq_true rfl)) dX9_mixTrace_22 ⟨(Nat.le_of_ble_eq_true rfl), (Nat.le_of_ble_eq_true rfl)⟩) hP hD hS hA (fun rr3 _ H locs hr3 hP hD hS => ?_)
      refine lv_nm (y := r2) hr3 ?_
      refine lv_i2l hx hb dX9_mixTrace_25 rfl ?_
      refine lv_ladd hx hb dX9_mixTrace_26 ?_
      obtain ⟨e4, he4, h⟩ := letb_inv h
      refine lv_nml he4 ?_
      refine lv_lstore (lv' := [(4, .long e4), (6, .int x6.1), (0, .ref (ad 0)), (3, .int a3)]) hx hb dX9_mixTrace_27 hl (by decide) rfl (fun ls hl => ?_)
      refine lv_iinc (v := (x6.1 + (1 : Int32))) (lv' := [(6, .int (x6.1 + (1 : Int32))), (4, .long e4), (0, .ref (ad 0)), (3, .int a3)]) hx hb dX9_mixTrace_29 hl (k := 1) rfl rfl (by decide) rfl (fun ls hl => ?_)
      refine lv_goto (tgt := 6) hx hb dX9_mixTrace_32 (by decide) ?_
      obtain rfl := Option.some.inj h
      exact ht6 rfl H locs ls hP hD hS (lv_sub (l' := [(6, .int (x6.1 + (1 : Int32))), (4, .long e4), (0, .ref (ad 0)), (3, .int a3)]) hl [0, 1, 2, 3] rfl)
  · intro H locs ls hP hD hS hl
    refine lv_iconst (v := 0) hx hb dX9_mixTrace_35 (by decide) ?_
    refine lv_istore (lv' := [(6, .int (0 : Int32)), (4, .long y6.2), (0, .ref (ad 0)), (3, .int a3)]) hx hb dX9_mixTrace_36 hl (by decide) rfl (fun ls hl => ?_)
    obtain ⟨y38, hlp38, h⟩ := obd_inv h
    refine lp_W (fun x38 : Int32 × Int64 => ∀ (H : Heap) (locs : List Loc) (ls : Array Slot), va_P (dC, dI) vwCl (Wd 153 (cfC ad cI cT cS) σ) H → va_D A (Wd 153 (cfC ad cI cT cS) σ) → va_S A s.heap H locs → lv_has ls 8 [(6, .int x38.1), (4, .long x38.2), (0, .ref (ad 0)), (3, .int a3)] → W p l e (headSpec vc_X9_mixTrace { frames := 6, cells := 0, slots := 0, locals := 140 }).room s m (List.toArray (α := Value) [.ref (ad 0), .long a1, .int a3]) below meth c H locs 0 0 (MQ below (va_Ql (fun (r : Int64) (_ : Unit) => r = o) (gB (dC, dI) A (fun (_ : Unit) => (Wd 153 (cfC ad cI cT cS) σ))) A) (List.toArray (α := Value) [.ref (ad 0), .long a1, .int a3]) s 0 0 A) (F0 m 38 ls [])) (fun y38 : Int32 × Int64 => ∀ (H : Heap) (locs : List Loc) (ls : Array Slot), va_P (dC, dI) vwCl (Wd 153 (cfC ad cI cT cS) σ) H → va_D A (Wd 153 (cfC ad cI cT cS) σ) → va_S A s.heap H locs → lv_has ls 8 [(4, .long y38.2), (0, .ref (ad 0)), (3, .int a3)] → W p l e (headSpec vc_X9_mixTrace { frames := 6, cells := 0, slots := 0, locals := 140 }).room s m (List.toArray (α := Value) [.ref (ad 0), .long a1, .int a3]) below meth c H locs 0 0 (MQ below (va_Ql (fun (r : Int64) (_ : Unit) => r = o) (gB (dC, dI) A (fun (_ : Unit) => (Wd 153 (cfC ad cI cT cS) σ))) A) (List.toArray (α := Value) [.ref (ad 0), .long a1, .int a3]) s 0 0 A) (F0 m 67 ls [])) ?_ 1000 ((0 : Int32), y6.2) y38 hlp38 ?_ H locs ls hP hD hS (lv_sub (l' := [(6, .int (0 : Int32)), (4, .long y6.2), (0, .ref (ad 0)), (3, .int a3)]) hl [0, 1, 2, 3] rfl)
    · intro x38 yy38 h ht38 hf38 H locs ls hP hD hS hl
      unfold zl_X9_mixTrace_38 at h
      refine lv_iload hx hb dX9_mixTrace_38 (lv_at hl 0 rfl) ?_
      refine lv_iconst (v := 3) hx hb dX9_mixTrace_40 (by decide) ?_
      refine lv_icmp_ge (tgt := 67) hx hb dX9_mixTrace_41 (by decide) (fun c5 => ?_) (fun c5 => ?_)
      · replace h := ifp (c5) h
        obtain rfl := Option.some.inj h
        exact hf38 rfl H locs ls hP hD hS (lv_sub (l' := [(4, .long x38.2), (0, .ref (ad 0)), (3, .int a3)]) hl [1, 2, 3] rfl)
      · replace h := ifn (c5) h
        refine lv_ldc2 (v := 31) hx hb hown (hts (.constantLong RX9 205 (31)) (List.mem_of_getElem? (i := 1) rfl)) dX9_mixTrace_44 ?_
        refine lv_lload hx hb dX9_mixTrace_47 (lv_at hl 1 rfl) ?_
        refine lv_lmul hx hb dX9_mixTrace_49 ?_
        refine lv_aload_n hx hb dX9_mixTrace_50 rfl (lv_at hl 2 rfl) ?_
        refine lv_iload_n hx hb dX9_mixTrace_51 rfl (lv_at hl 3 rfl) ?_
        refine lv_iload hx hb dX9_mixTrace_52 (lv_at hl 0 rfl) ?_
        obtain ⟨r6, hc6, h⟩ := obd_inv h
        refine wcalli (S := Unit) (va_runV (As := [.int a3, .int x38.1]) (rest := [.long ((31 : Int64) * x38.2)]) ⟨hx, hb, hml, hown, hts⟩ (c_X9_checkFact l dC dI cI cT cS H.size ad  a3 x38.1 σ _ hc6) (cwV 2 hts (gWV (List.mem_of_getElem? (i := 6) rfl) (List.mem_of_getElem? (i := 7) rfl) (List.mem_of_getElem? (i := 8) rfl) (List.mem_of_getElem? (i := 5) rfl) ic_X9_mixTrace_c_X9_checkFact gd_c_X9_checkFact) rfl rfl rfl (by decide +kernel) ⟨(Nat.le_of_ble_eq_true rfl), (Nat.le_of_ble_eq_true rfl)⟩) (wpV (q := (RX9, TX9, 14)) hP hK hD oX9 rfl) rfl rfl hl.1 rfl (lv_room (Nat.le_of_ble_eq_true rfl)) dX9_mixTrace_54 ⟨(Nat.le_of_ble_eq_true rfl), (Nat.le_of_ble_eq_true rfl)⟩) hP hD hS hA (fun rr7 _ H locs hr7 hP hD hS => ?_)
        refine lv_nm (y := r6) hr7 ?_
        refine lv_i2l hx hb dX9_mixTrace_57 rfl ?_
        refine lv_ladd hx hb dX9_mixTrace_58 ?_
        obtain ⟨e8, he8, h⟩ := letb_inv h
        refine lv_nml he8 ?_
        refine lv_lstore (lv' := [(4, .long e8), (6, .int x38.1), (0, .ref (ad 0)), (3, .int a3)]) hx hb dX9_mixTrace_59 hl (by decide) rfl (fun ls hl => ?_)
        refine lv_iinc (v := (x38.1 + (1 : Int32))) (lv' := [(6, .int (x38.1 + (1 : Int32))), (4, .long e8), (0, .ref (ad 0)), (3, .int a3)]) hx hb dX9_mixTrace_61 hl (k := 1) rfl rfl (by decide) rfl (fun ls hl => ?_)
        refine lv_goto (tgt := 38) hx hb dX9_mixTrace_64 (by decide) ?_
        obtain rfl := Option.some.inj h
        exact ht38 rfl H locs ls hP hD hS (lv_sub (l' := [(6, .int (x38.1 + (1 : Int32))), (4, .long e8), (0, .ref (ad 0)), (3, .int a3)]) hl [0, 1, 2, 3] rfl)
    · intro H locs ls hP hD hS hl
      refine lv_ldc2 (v := 31) hx hb hown (hts (.constantLong RX9 205 (31)) (List.mem_of_getElem? (i := 1) rfl)) dX9_mixTrace_67 ?_
      refine lv_lload hx hb dX9_mixTrace_70 (lv_at hl 0 rfl) ?_
      refine lv_lmul hx hb dX9_mixTrace_72 ?_
      refine lv_aload_n hx hb dX9_mixTrace_73 rfl (lv_at hl 1 rfl) ?_
      refine lv_iload_n hx hb dX9_mixTrace_74 rfl (lv_at hl 2 rfl) ?_
      obtain ⟨r9, hc9, h⟩ := obd_inv h
      refine wcalli (S := Unit) (va_runV (As := [.int a3]) (rest := [.long ((31 : Int64) * y38.2)]) ⟨hx, hb, hml, hown, hts⟩ (c_X9_writtenBy l dC dI cI cT cS H.size ad  a3 σ _ hc9) (cwV 1 hts (gWV (List.mem_of_getElem? (i := 9) rfl) (List.mem_of_getElem? (i := 10) rfl) (List.mem_of_getElem? (i := 11) rfl) (List.mem_of_getElem? (i := 5) rfl) ic_X9_mixTrace_c_X9_writtenBy gd_c_X9_writtenBy) rfl rfl rfl (by decide +kernel) ⟨(Nat.le_of_ble_eq_true rfl), (Nat.le_of_ble_eq_true rfl)⟩) (wpV (q := (RX9, TX9, 14)) hP hK hD oX9 rfl) rfl rfl hl.1 rfl (lv_room (Nat.le_of_ble_eq_true rfl)) dX9_mixTrace_75 ⟨(Nat.le_of_ble_eq_true rfl), (Nat.le_of_ble_eq_true rfl)⟩) hP hD hS hA (fun rr10 _ H locs hr10 hP hD hS => ?_)
      refine lv_nm (y := r9) hr10 ?_
      refine lv_i2l hx hb dX9_mixTrace_78 rfl ?_
      refine lv_ladd hx hb dX9_mixTrace_79 ?_
      obtain ⟨e11, he11, h⟩ := letb_inv h
      refine lv_nml he11 ?_
      refine lv_lstore (lv' := [(4, .long e11), (0, .ref (ad 0)), (3, .int a3)]) hx hb dX9_mixTrace_80 hl (by decide) rfl (fun ls hl => ?_)
      refine lv_iconst (v := 0) hx hb dX9_mixTrace_82 (by decide) ?_
      refine lv_istore (lv' := [(6, .int (0 : Int32)), (4, .long e11), (0, .ref (ad 0)), (3, .int a3)]) hx hb dX9_mixTrace_83 hl (by decide) rfl (fun ls hl => ?_)
      obtain ⟨y85, hlp85, h⟩ := obd_inv h
      refine lp_W (fun x85 : Int32 × Int64 => ∀ (H : Heap) (locs : List Loc) (ls : Array Slot), va_P (dC, dI) vwCl (Wd 153 (cfC ad cI cT cS) σ) H → va_D A (Wd 153 (cfC ad cI cT cS) σ) → va_S A s.heap H locs → lv_has ls 8 [(6, .int x85.1), (4, .long x85.2), (0, .ref (ad 0)), (3, .int a3)] → W p l e (headSpec vc_X9_mixTrace { frames := 6, cells := 0, slots := 0, locals := 140 }).room s m (List.toArray (α := Value) [.ref (ad 0), .long a1, .int a3]) below meth c H locs 0 0 (MQ below (va_Ql (fun (r : Int64) (_ : Unit) => r = o) (gB (dC, dI) A (fun (_ : Unit) => (Wd 153 (cfC ad cI cT cS) σ))) A) (List.toArray (α := Value) [.ref (ad 0), .long a1, .int a3]) s 0 0 A) (F0 m 85 ls [])) (fun y85 : Int32 × Int64 => ∀ (H : Heap) (locs : List Loc) (ls : Array Slot), va_P (dC, dI) vwCl (Wd 153 (cfC ad cI cT cS) σ) H → va_D A (Wd 153 (cfC ad cI cT cS) σ) → va_S A s.heap H locs → lv_has ls 8 [(4, .long y85.2)] → W p l e (headSpec vc_X9_mixTrace { frames := 6, cells := 0, slots := 0, locals := 140 }).room s m (List.toArray (α := Value) [.ref (ad 0), .long a1, .int a3]) below meth c H locs 0 0 (MQ below (va_Ql (fun (r : Int64) (_ : Unit) => r = o) (gB (dC, dI) A (fun (_ : Unit) => (Wd 153 (cfC ad cI cT cS) σ))) A) (List.toArray (α := Value) [.ref (ad 0), .long a1, .int a3]) s 0 0 A) (F0 m 169 ls [])) ?_ 1000 ((0 : Int32), e11) y85 hlp85 ?_ H locs ls hP hD hS (lv_sub (l' := [(6, .int (0 : Int32)), (4, .long e11), (0, .ref (ad 0)), (3, .int a3)]) hl [0, 1, 2, 3] rfl)
      · intro x85 yy85 h ht85 hf85 H locs ls hP hD hS hl
        unfold zl_X9_mixTrace_85 at h
        refine lv_iload hx hb dX9_mixTrace_85 (lv_at hl 0 rfl) ?_
        refine lv_bipush (v := 16) hx hb dX9_mixTrace_87 (by decide) ?_
        refine lv_icmp_ge (tgt := 169) hx hb dX9_mixTrace_89 (by decide) (fun c12 => ?_) (fun c12 => ?_)
        · replace h := ifp (c12) h
          obtain rfl := Option.some.inj h
          exact hf85 rfl H locs ls hP hD hS (lv_sub (l' := [(4, .long x85.2)]) hl [1] rfl)
        · replace h := ifn (c12) h
          refine lv_iconst (v := 0) hx hb dX9_mixTrace_92 (by decide) ?_
          refine lv_istore (lv' := [(7, .int (0 : Int32)), (6, .int x85.1), (4, .long x85.2), (0, .ref (ad 0)), (3, .int a3)]) hx hb dX9_mixTrace_93 hl (by decide) rfl (fun ls hl => ?_)
          obtain ⟨y95, hlp95, h⟩ := obd_inv h
          refine lp_W (fun x95 : Int32 × Int64 => ∀ (H : Heap) (locs : List Loc) (ls : Array Slot), va_P (dC, dI) vwCl (Wd 153 (cfC ad cI cT cS) σ) H → va_D A (Wd 153 (cfC ad cI cT cS) σ) → va_S A s.heap H locs → lv_has ls 8 [(7, .int x95.1), (6, .int x85.1), (4, .long x95.2), (0, .ref (ad 0)), (3, .int a3)] → W p l e (headSpec vc_X9_mixTrace { frames := 6, cells := 0, slots := 0, locals := 140 }).room s m (List.toArray (α := Value) [.ref (ad 0), .long a1, .int a3]) below meth c H locs 0 0 (MQ below (va_Ql (fun (r : Int64) (_ : Unit) => r = o) (gB (dC, dI) A (fun (_ : Unit) => (Wd 153 (cfC ad cI cT cS) σ))) A) (List.toArray (α := Value) [.ref (ad 0), .long a1, .int a3]) s 0 0 A) (F0 m 95 ls [])) (fun y95 : Int32 × Int64 => ∀ (H : Heap) (locs : List Loc) (ls : Array Slot), va_P (dC, dI) vwCl (Wd 153 (cfC ad cI cT cS) σ) H → va_D A (Wd 153 (cfC ad cI cT cS) σ) → va_S A s.heap H locs → lv_has ls 8 [(6, .int x85.1), (4, .long y95.2), (0, .ref (ad 0)), (3, .int a3)] → W p l e (headSpec vc_X9_mixTrace { frames := 6, cells := 0, slots := 0, locals := 140 }).room s m (List.toArray (α := Value) [.ref (ad 0), .long a1, .int a3]) below meth c H locs 0 0 (MQ below (va_Ql (fun (r : Int64) (_ : Unit) => r = o) (gB (dC, dI) A (fun (_ : Unit) => (Wd 153 (cfC ad cI cT cS) σ))) A) (List.toArray (α := Value) [.ref (ad 0), .long a1, .int a3]) s 0 0 A) (F0 m 127 ls [])) ?_ 1000 ((0 : Int32), x85.2) y95 hlp95 ?_ H locs ls hP hD hS (lv_sub (l' := [(7, .int (0 : Int32)), (6, .int x85.1), (4, .long x85.2), (0, .ref (ad 0)), (3, .int a3)]) hl [0, 1, 2, 3, 4] rfl)
          · intro x95 yy95 h ht95 hf95 H locs ls hP hD hS hl
            unfold zl_X9_mixTrace_95 at h
            refine lv_iload hx hb dX9_mixTrace_95 (lv_at hl 0 rfl) ?_
            refine lv_bipush (v := 6) hx hb dX9_mixTrace_97 (by decide) ?_
            refine lv_icmp_ge (tgt := 127) hx hb dX9_mixTrace_99 (by decide) (fun c13 => ?_) (fun c13 => ?_)
            · replace h := ifp (c13) h
              obtain rfl := Option.some.inj h
              exact hf95 rfl H locs ls hP hD hS (lv_sub (l' := [(6, .int x85.1), (4, .long x95.2), (0, .ref (ad 0)), (3, .int a3)]) hl [1, 2, 3, 4] rfl)
            · replace h := ifn (c13) h
              refine lv_ldc2 (v := 31) hx hb hown (hts (.constantLong RX9 205 (31)) (List.mem_of_getElem? (i := 1) rfl)) dX9_mixTrace_102 ?_
              refine lv_lload hx hb dX9_mixTrace_105 (lv_at hl 2 rfl) ?_
              refine lv_lmul hx hb dX9_mixTrace_107 ?_
              refine lv_aload_n hx hb dX9_mixTrace_108 rfl (lv_at hl 3 rfl) ?_
              refine lv_iload_n hx hb dX9_mixTrace_109 rfl (lv_at hl 4 rfl) ?_
              refine lv_iload hx hb dX9_mixTrace_110 (lv_at hl 1 rfl) ?_
              refine lv_iload hx hb dX9_mixTrace_112 (lv_at hl 0 rfl) ?_
              obtain ⟨r14, hc14, h⟩ := obd_inv h
              refine wcalli (S := Unit) (va_runV (As := [.int a3, .int x85.1, .int x95.1]) (rest := [.long ((31 : Int64) * x95.2)]) ⟨hx, hb, hml, hown, hts⟩ (c_X9_entryFact l dC dI cI cT cS H.size ad  a3 x85.1 x95.1 σ _ hc14) (cwV 3 hts (gWV (List.mem_of_getElem? (i := 12) rfl) (List.mem_of_getElem? (i := 13) rfl) (List.mem_of_getElem? (i := 14) rfl) (List.mem_of_getElem? (i := 5) rfl) ic_X9_mixTrace_c_X9_entryFact gd_c_X9_entryFact) rfl rfl rfl (by decide +kernel) ⟨(Nat.le_of_ble_eq_true rfl), (Nat.le_of_ble_eq_true rfl)⟩) (wpV (q := (RX9, TX9, 14)) hP hK hD oX9 rfl) rfl rfl hl.1 rfl (lv_room (Nat.le_of_ble_eq_true rfl)) dX9_mixTrace_114 ⟨(Nat.le_of_ble_eq_true rfl), (Nat.le_of_ble_eq_true rfl)⟩) hP hD hS hA (fun rr15 _ H locs hr15 hP hD hS => ?_)
              refine lv_nm (y := r14) hr15 ?_
              refine lv_i2l hx hb dX9_mixTrace_117 rfl ?_
              refine lv_ladd hx hb dX9_mixTrace_118 ?_
              obtain ⟨e16, he16, h⟩ := letb_inv h
              refine lv_nml he16 ?_
              refine lv_lstore (lv' := [(4, .long e16), (7, .int x95.1), (6, .int x85.1), (0, .ref (ad 0)), (3, .int a3)]) hx hb dX9_mixTrace_119 hl (by decide) rfl (fun ls hl => ?_)
              refine lv_iinc (v := (x95.1 + (1 : Int32))) (lv' := [(7, .int (x95.1 + (1 : Int32))), (4, .long e16), (6, .int x85.1), (0, .ref (ad 0)), (3, .int a3)]) hx hb dX9_mixTrace_121 hl (k := 1) rfl rfl (by decide) rfl (fun ls hl => ?_)
              refine lv_goto (tgt := 95) hx hb dX9_mixTrace_124 (by decide) ?_
              obtain rfl := Option.some.inj h
              exact ht95 rfl H locs ls hP hD hS (lv_sub (l' := [(7, .int (x95.1 + (1 : Int32))), (6, .int x85.1), (4, .long e16), (0, .ref (ad 0)), (3, .int a3)]) hl [0, 2, 1, 3, 4] rfl)
          · intro H locs ls hP hD hS hl
            refine lv_ldc2 (v := 31) hx hb hown (hts (.constantLong RX9 205 (31)) (List.mem_of_getElem? (i := 1) rfl)) dX9_mixTrace_127 ?_
            refine lv_lload hx hb dX9_mixTrace_130 (lv_at hl 1 rfl) ?_
            refine lv_lmul hx hb dX9_mixTrace_132 ?_
            refine lv_aload_n hx hb dX9_mixTrace_133 rfl (lv_at hl 2 rfl) ?_
            refine lv_iload_n hx hb dX9_mixTrace_134 rfl (lv_at hl 3 rfl) ?_
            refine lv_iload hx hb dX9_mixTrace_135 (lv_at hl 0 rfl) ?_
            refine lv_iconst (v := 0) hx hb dX9_mixTrace_137 (by decide) ?_
            obtain ⟨r17, hc17, h⟩ := obd_inv h
            refine wcalli (S := Unit) (va_runV (As := [.int a3, .int x85.1, .int (0 : Int32)]) (rest := [.long ((31 : Int64) * y95.2)]) ⟨hx, hb, hml, hown, hts⟩ (c_X9_snapshotFact l dC dI cI cT cS H.size ad  a3 x85.1 (0 : Int32) σ _ hc17) (cwV 3 hts (gWV (List.mem_of_getElem? (i := 15) rfl) (List.mem_of_getElem? (i := 16) rfl) (List.mem_of_getElem? (i := 17) rfl) (List.mem_of_getElem? (i := 5) rfl) ic_X9_mixTrace_c_X9_snapshotFact gd_c_X9_snapshotFact) rfl rfl rfl (by decide +kernel) ⟨(Nat.le_of_ble_eq_true rfl), (Nat.le_of_ble_eq_true rfl)⟩) (wpV (q := (RX9, TX9, 14)) hP hK hD oX9 rfl) rfl rfl hl.1 rfl (lv_room (Nat.le_of_ble_eq_true rfl)) dX9_mixTrace_138 ⟨(Nat.le_of_ble_eq_true rfl), (Nat.le_of_ble_eq_true rfl)⟩) hP hD hS hA (fun rr18 _ H locs hr18 hP hD hS => ?_)
            refine lv_nm (y := r17) hr18 ?_
            refine lv_i2l hx hb dX9_mixTrace_141 rfl ?_
            refine lv_ladd hx hb dX9_mixTrace_142 ?_
            obtain ⟨e19, he19, h⟩ := letb_inv h
            refine lv_nml he19 ?_
            refine lv_lstore (lv' := [(4, .long e19), (6, .int x85.1), (0, .ref (ad 0)), (3, .int a3)]) hx hb dX9_mixTrace_143 hl (by decide) rfl (fun ls hl => ?_)
            refine lv_ldc2 (v := 31) hx hb hown (hts (.constantLong RX9 205 (31)) (List.mem_of_getElem? (i := 1) rfl)) dX9_mixTrace_145 ?_
            refine lv_lload hx hb dX9_mixTrace_148 (lv_at hl 0 rfl) ?_
            refine lv_lmul hx hb dX9_mixTrace_150 ?_
            refine lv_aload_n hx hb dX9_mixTrace_151 rfl (lv_at hl 2 rfl) ?_
            refine lv_iload_n hx hb dX9_mixTrace_152 rfl (lv_at hl 3 rfl) ?_
            refine lv_iload hx hb dX9_mixTrace_153 (lv_at hl 1 rfl) ?_
            refine lv_iconst (v := 1) hx hb dX9_mixTrace_155 (by decide) ?_
            obtain ⟨r20, hc20, h⟩ := obd_inv h
            refine wcalli (S := Unit) (va_runV (As := [.int a3, .int x85.1, .int (1 : Int32)]) (rest := [.long ((31 : Int64) * e19)]) ⟨hx, hb, hml, hown, hts⟩ (c_X9_snapshotFact l dC dI cI cT cS H.size ad  a3 x85.1 (1 : Int32) σ _ hc20) (cwV 3 hts (gWV (List.mem_of_getElem? (i := 15) rfl) (List.mem_of_getElem? (i := 16) rfl) (List.mem_of_getElem? (i := 17) rfl) (List.mem_of_getElem? (i := 5) rfl) ic_X9_mixTrace_c_X9_snapshotFact gd_c_X9_snapshotFact) rfl rfl rfl (by decide +kernel) ⟨(Nat.le_of_ble_eq_true rfl), (Nat.le_of_ble_eq_true rfl)⟩) (wpV (q := (RX9, TX9, 14)) hP hK hD oX9 rfl) rfl rfl hl.1 rfl (lv_room (Nat.le_of_ble_eq_true rfl)) dX9_mixTrace_156 ⟨(Nat.le_of_ble_eq_true rfl), (Nat.le_of_ble_eq_true rfl)⟩) hP hD hS hA (fun rr21 _ H locs hr21 hP hD hS => ?_)
            refine lv_nm (y := r20) hr21 ?_
            refine lv_i2l hx hb dX9_mixTrace_159 rfl ?_
            refine lv_ladd hx hb dX9_mixTrace_160 ?_
            obtain ⟨e22, he22, h⟩ := letb_inv h
            refine lv_nml he22 ?_
            refine lv_lstore (lv' := [(4, .long e22), (6, .int x85.1), (0, .ref (ad 0)), (3, .int a3)]) hx hb dX9_mixTrace_161 hl (by decide) rfl (fun ls hl => ?_)
            refine lv_iinc (v := (x85.1 + (1 : Int32))) (lv' := [(6, .int (x85.1 + (1 : Int32))), (4, .long e22), (0, .ref (ad 0)), (3, .int a3)]) hx hb dX9_mixTrace_163 hl (k := 1) rfl rfl (by decide) rfl (fun ls hl => ?_)
            refine lv_goto (tgt := 85) hx hb dX9_mixTrace_166 (by decide) ?_
            obtain rfl := Option.some.inj h
            exact ht85 rfl H locs ls hP hD hS (lv_sub (l' := [(6, .int (x85.1 + (1 : Int32))), (4, .long e22), (0, .ref (ad 0)), (3, .int a3)]) hl [0, 1, 2, 3] rfl)
      · intro H locs ls hP hD hS hl
        refine lv_lload hx hb dX9_mixTrace_169 (lv_at hl 0 rfl) ?_
        have h9 := Option.some.inj h
        exact wretl hx hb hr hlocks hP hD hS (by show _ = _; rw [← h9]; first | done | rfl) rfl dX9_mixTrace_171
def zl_X9_digest_114 (σ5 : Sg) (x114 : Int32 × Int64) : Option (Bool × (Int32 × Int64)) := (if (8 : Int32) ≤ x114.1 then some (false, (x114.1, x114.2)) else obd (zf_X9_mixTrace x114.2 x114.1 σ5) (fun r21 => some (true, ((x114.1 + (1 : Int32)), r21))))
def zl_X9_digest_93 (σ5 : Sg) (x93 : Int32 × Int64) : Option (Bool × (Int32 × Int64)) := (if (24 : Int32) ≤ x93.1 then some (false, (x93.1, x93.2)) else obd (zf_X9_mixPoint x93.2 x93.1 σ5) (fun r18 => some (true, ((x93.1 + (1 : Int32)), r18))))
def zl_X9_digest_72 (σ5 : Sg) (x72 : Int32 × Int64) : Option (Bool × (Int32 × Int64)) := (if (8 : Int32) ≤ x72.1 then some (false, (x72.1, x72.2)) else obd (zf_X9_mixRegister x72.2 x72.1 σ5) (fun r15 => some (true, ((x72.1 + (1 : Int32)), r15))))
def zl_X9_digest_45 (σ5 : Sg) (x45 : Int32 × Int64) : Option (Bool × (Int32 × Int64)) := (if (6 : Int32) ≤ x45.1 then some (false, (x45.1, x45.2)) else letb (((31 : Int64) * x45.2) + ((zf_X9_endFact x45.1 σ5).toInt64)) (fun e13 => some (true, ((x45.1 + (1 : Int32)), e13))))
def zl_X9_digest_18 (σ5 : Sg) (x18 : Int32 × Int64) : Option (Bool × (Int32 × Int64)) := (if (8 : Int32) ≤ x18.1 then some (false, (x18.1, x18.2)) else obd (zf_X9_countFact x18.1 σ5) (fun r8 => letb (((31 : Int64) * x18.2) + (r8.toInt64)) (fun e10 => some (true, ((x18.1 + (1 : Int32)), e10)))))
def zf_X9_digest (σ : Sg) : Option (Int64 × Sg) := obd (zf_X9_refreshRun σ) (fun σ1 => obd (zf_X9_refreshPlain σ1) (fun σ3 => obd (zf_X9_refreshBetter σ3) (fun σ5 => obd (lp (X := Int32 × Int64) (zl_X9_digest_18 σ5) 1000 ((0 : Int32), (17 : Int64))) (fun y18 => obd (lp (X := Int32 × Int64) (zl_X9_digest_45 σ5) 1000 ((0 : Int32), y18.2)) (fun y45 => obd (lp (X := Int32 × Int64) (zl_X9_digest_72 σ5) 1000 ((0 : Int32), y45.2)) (fun y72 => obd (lp (X := Int32 × Int64) (zl_X9_digest_93 σ5) 1000 ((0 : Int32), y72.2)) (fun y93 => obd (lp (X := Int32 × Int64) (zl_X9_digest_114 σ5) 1000 ((0 : Int32), y93.2)) (fun y114 => letb (((31 : Int64) * y114.2) + ((zf_X9_betterFact (0 : Int32) σ5).toInt64)) (fun e24 => some ((((31 : Int64) * e24) + ((zf_X9_betterFact (1 : Int32) σ5).toInt64)), σ5))))))))))
def oc_X9_digest : List Cond := [.methodLink RX9 106 yX9_refreshRun, .instanceMethod yX9_refreshRun, .selects RX9 yX9_refreshRun yX9_refreshRun, .initialized RX9, .methodLink RX9 115 yX9_refreshPlain, .instanceMethod yX9_refreshPlain, .selects RX9 yX9_refreshPlain yX9_refreshPlain, .methodLink RX9 146 yX9_refreshBetter, .instanceMethod yX9_refreshBetter, .selects RX9 yX9_refreshBetter yX9_refreshBetter, .constantLong RX9 203 (17), .constantLong RX9 205 (31), .methodLink RX9 200 yX9_countFact, .instanceMethod yX9_countFact, .selects RX9 yX9_countFact yX9_countFact, .methodLink RX9 118 yX9_endFact, .instanceMethod yX9_endFact, .selects RX9 yX9_endFact yX9_endFact, .methodLink RX9 207 yX9_mixRegister, .instanceMethod yX9_mixRegister, .selects RX9 yX9_mixRegister yX9_mixRegister, .methodLink RX9 211 yX9_mixPoint, .instanceMethod yX9_mixPoint, .selects RX9 yX9_mixPoint yX9_mixPoint, .methodLink RX9 214 yX9_mixTrace, .instanceMethod yX9_mixTrace, .selects RX9 yX9_mixTrace yX9_mixTrace, .methodLink RX9 149 yX9_betterFact, .instanceMethod yX9_betterFact, .selects RX9 yX9_betterFact yX9_betterFact]
def vc_X9_digest : List Cond := .code yX9_digest cX9_digest 4 (some .long) :: (oc_X9_digest ++ (vc_X9_refreshRun ++ (vc_X9_refreshPlain ++ (vc_X9_refreshBetter ++ (vc_X9_countFact ++ (vc_X9_endFact ++ (vc_X9_mixRegister ++ (vc_X9_mixPoint ++ (vc_X9_mixTrace ++ (vc_X9_betterFact))))))))))
theorem ic_X9_digest_c_X9_refreshRun : ∀ w ∈ vc_X9_refreshRun, w ∈ vc_X9_digest := fun _ h => List.mem_cons_of_mem _ (List.mem_append_right _ (List.mem_append_left _ h))
theorem ic_X9_digest_c_X9_refreshPlain : ∀ w ∈ vc_X9_refreshPlain, w ∈ vc_X9_digest := fun _ h => List.mem_cons_of_mem _ (List.mem_append_right _ (List.mem_append_right _ (List.mem_append_left _ h)))
theorem ic_X9_digest_c_X9_refreshBetter : ∀ w ∈ vc_X9_refreshBetter, w ∈ vc_X9_digest := fun _ h => List.mem_cons_of_mem _ (List.mem_append_right _ (List.mem_append_right _ (List.mem_append_right _ (List.mem_append_left _ h))))
theorem ic_X9_digest_c_X9_countFact : ∀ w ∈ vc_X9_countFact, w ∈ vc_X9_digest := fun _ h => List.mem_cons_of_mem _ (List.mem_append_right _ (List.mem_append_right _ (List.mem_append_right _ (List.mem_append_right _ (List.mem_append_left _ h)))))
theorem ic_X9_digest_c_X9_endFact : ∀ w ∈ vc_X9_endFact, w ∈ vc_X9_digest := fun _ h => List.mem_cons_of_mem _ (List.mem_append_right _ (List.mem_append_right _ (List.mem_append_right _ (List.mem_append_right _ (List.mem_append_right _ (List.mem_append_left _ h))))))
theorem ic_X9_digest_c_X9_mixRegister : ∀ w ∈ vc_X9_mixRegister, w ∈ vc_X9_digest := fun _ h => List.mem_cons_of_mem _ (List.mem_append_right _ (List.mem_append_right _ (List.mem_append_right _ (List.mem_append_right _ (List.mem_append_right _ (List.mem_append_right _ (List.mem_append_left _ h)))))))
theorem ic_X9_digest_c_X9_mixPoint : ∀ w ∈ vc_X9_mixPoint, w ∈ vc_X9_digest := fun _ h => List.mem_cons_of_mem _ (List.mem_append_right _ (List.mem_append_right _ (List.mem_append_right _ (List.mem_append_right _ (List.mem_append_right _ (List.mem_append_right _ (List.mem_append_right _ (List.mem_append_left _ h))))))))
theorem ic_X9_digest_c_X9_mixTrace : ∀ w ∈ vc_X9_mixTrace, w ∈ vc_X9_digest := fun _ h => List.mem_cons_of_mem _ (List.mem_append_right _ (List.mem_append_right _ (List.mem_append_right _ (List.mem_append_right _ (List.mem_append_right _ (List.mem_append_right _ (List.mem_append_right _ (List.mem_append_right _ (List.mem_append_left _ h)))))))))
theorem ic_X9_digest_c_X9_betterFact : ∀ w ∈ vc_X9_betterFact, w ∈ vc_X9_digest := fun _ h => List.mem_cons_of_mem _ (List.mem_append_right _ (List.mem_append_right _ (List.mem_append_right _ (List.mem_append_right _ (List.mem_append_right _ (List.mem_append_right _ (List.mem_append_right _ (List.mem_append_right _ (List.mem_append_right _ (h))))))))))
theorem gd_c_X9_digest : (vc_X9_digest).all goodWord = true := gall_cons rfl (gall_app (by decide +kernel) (gall_app gd_c_X9_refreshRun (gall_app gd_c_X9_refreshPlain (gall_app gd_c_X9_refreshBetter (gall_app gd_c_X9_countFact (gall_app gd_c_X9_endFact (gall_app gd_c_X9_mixRegister (gall_app gd_c_X9_mixPoint (gall_app gd_c_X9_mixTrace gd_c_X9_betterFact)))))))))
set_option maxHeartbeats 4000000 in
set_option maxRecDepth 100000 in
theorem c_X9_digest (l : Launch) (dC : Nat → ClassId) (dI : Nat → Nat → Nat) (cI cT cS : ClassId) (sz : Nat) (ad : Nat → Nat) (σ : Sg) (o : Int64 × Sg) (h : zf_X9_digest σ = some o) : gCL (S := Unit) l yX9_digest vc_X9_digest { frames := 8, cells := 0, slots := 0, locals := 207 } (dC, dI) (gTY cI cT cS) sz [.ref (ad 0)] (Wd 153 (cfC ad cI cT cS) σ) (fun (r : Int64) (_ : Unit) => r = o.1) (fun (_ : Unit) => (Wd 153 (cfC ad cI cT cS) o.2)) 0 0 := by
  refine Met.ofW (cc := cX9_digest) (maxL := 4) (ret := (some .long)) (by decide) rfl ?_
  intro p e s m args below meth c s₁ B hml hv
  obtain ⟨rfl, hsz, hP, hK, hD0⟩ := hv
  have hx := B.exec
  have hb := B.bytes
  have hr := B.returns
  have hts := atoms_spec (ws := vc_X9_digest) B.pre
  have hown : s.vm.findClass RX9 = some m.cls := findClass_of_methodNamed B.named
  have hlocks := B.notSynchronized
  subst hsz
  have hD := hD0.self (sz := s.heap.size)
  generalize hAe : va_A (Wd 153 (cfC ad cI cT cS) σ) s.heap.size = A at hD ⊢
  have hA : ∀ q : Nat, s.heap.size ≤ q → A q := fun q h => by rw [← hAe]; exact Or.inr h
  clear hAe hD0
  refine gstart (fun H locs hHe hLe => ?_)
  have hS : va_S A s.heap H locs := by rw [← hHe, ← hLe]; exact va_S.rf
  replace hP : va_P (dC, dI) vwCl (Wd 153 (cfC ad cI cT cS) σ) H := by rw [← hHe]; exact hP
  clear hHe hLe
  have hl := lv_entry ([.ref (ad 0)]) (n := 4) (Nat.le_of_ble_eq_true rfl)
  rw [lg_entry_eq]
  generalize (lg_sl ([.ref (ad 0)]) ++ List.replicate (4 - (lg_sl ([.ref (ad 0)])).length) Slot.unset).toArray = ls at hl ⊢
  replace hl : lv_has ls 4 [(0, .ref (ad 0))] := hl
  unfold zf_X9_digest at h
  refine lv_aload_n hx hb dX9_digest_0 rfl (lv_at hl 0 rfl) ?_
  obtain ⟨σ1, hc1, h⟩ := obd_inv h
  refine wcallv (S := Unit) (va_runV (As := []) (rest := []) ⟨hx, hb, hml, hown, hts⟩ (c_X9_refreshRun l dC dI cI cT cS H.size ad   σ _ hc1) (cwV 0 hts (gWV (List.mem_of_getElem? (i := 1) rfl) (List.mem_of_getElem? (i := 2) rfl) (List.mem_of_getElem? (i := 3) rfl) (List.mem_of_getElem? (i := 4) rfl) ic_X9_digest_c_X9_refreshRun gd_c_X9_refreshRun) rfl rfl rfl (by decide +kernel) ⟨(Nat.le_of_ble_eq_true rfl), (Nat.le_of_ble_eq_true rfl)⟩) (wpV (q := (RX9, TX9, 14)) hP hK hD oX9 rfl) rfl rfl hl.1 rfl (lv_room (Nat.le_of_ble_eq_true rfl)) dX9_digest_1 ⟨(Nat.le_of_ble_eq_true rfl), (Nat.le_of_ble_eq_true rfl)⟩) hP hD hS hA (fun _ H locs hr2 hP hD hS => ?_)
  replace hP : va_P (dC, dI) vwCl (Wd 153 (cfC ad cI cT cS) σ1) H := hP
  replace hD : va_D A (Wd 153 (cfC ad cI cT cS) σ1) := hD
  refine lv_aload_n hx hb dX9_digest_4 rfl (lv_at hl 0 rfl) ?_
  obtain ⟨σ3, hc3, h⟩ := obd_inv h
  refine wcallv (S := Unit) (va_runV (As := []) (rest := []) ⟨hx, hb, hml, hown, hts⟩ (c_X9_refreshPlain l dC dI cI cT cS H.size ad   σ1 _ hc3) (cwV 0 hts (gWV (List.mem_of_getElem? (i := 5) rfl) (List.mem_of_getElem? (i := 6) rfl) (List.mem_of_getElem? (i := 7) rfl) (List.mem_of_getElem? (i := 4) rfl) ic_X9_digest_c_X9_refreshPlain gd_c_X9_refreshPlain) rfl rfl rfl (by decide +kernel) ⟨(Nat.le_of_ble_eq_true rfl), (Nat.le_of_ble_eq_true rfl)⟩) (wpV (q := (RX9, TX9, 14)) hP hK hD oX9 rfl) rfl rfl hl.1 rfl (lv_room (Nat.le_of_ble_eq_true rfl)) dX9_digest_5 ⟨(Nat.le_of_ble_eq_true rfl), (Nat.le_of_ble_eq_true rfl)⟩) hP hD hS hA (fun _ H locs hr4 hP hD hS => ?_)
  replace hP : va_P (dC, dI) vwCl (Wd 153 (cfC ad cI cT cS) σ3) H := hP
  replace hD : va_D A (Wd 153 (cfC ad cI cT cS) σ3) := hD
  refine lv_aload_n hx hb dX9_digest_8 rfl (lv_at hl 0 rfl) ?_
  obtain ⟨σ5, hc5, h⟩ := obd_inv h
  refine wcallv (S := Unit) (va_runV (As := []) (rest := []) ⟨hx, hb, hml, hown, hts⟩ (c_X9_refreshBetter l dC dI cI cT cS H.size ad   σ3 _ hc5) (cwV 0 hts (gWV (List.mem_of_getElem? (i := 8) rfl) (List.mem_of_getElem? (i := 9) rfl) (List.mem_of_getElem? (i := 10) rfl) (List.mem_of_getElem? (i := 4) rfl) ic_X9_digest_c_X9_refreshBetter gd_c_X9_refreshBetter) rfl rfl rfl (by decide +kernel) ⟨(Nat.le_of_ble_eq_true rfl), (Nat.le_of_ble_eq_true rfl)⟩) (wpV (q := (RX9, TX9, 14)) hP hK hD oX9 rfl) rfl rfl hl.1 rfl (lv_room (Nat.le_of_ble_eq_true rfl)) dX9_digest_9 ⟨(Nat.le_of_ble_eq_true rfl), (Nat.le_of_ble_eq_true rfl)⟩) hP hD hS hA (fun _ H locs hr6 hP hD hS => ?_)
  replace hP : va_P (dC, dI) vwCl (Wd 153 (cfC ad cI cT cS) σ5) H := hP
  replace hD : va_D A (Wd 153 (cfC ad cI cT cS) σ5) := hD
  refine lv_ldc2 (v := 17) hx hb hown (hts (.constantLong RX9 203 (17)) (List.mem_of_getElem? (i := 11) rfl)) dX9_digest_12 ?_
  refine lv_lstore_n (lv' := [(1, .long (17 : Int64)), (0, .ref (ad 0))]) hx hb dX9_digest_15 rfl hl (by decide) rfl (fun ls hl => ?_)
  refine lv_iconst (v := 0) hx hb dX9_digest_16 (by decide) ?_
  refine lv_istore_n (lv' := [(3, .int (0 : Int32)), (1, .long (17 : Int64)), (0, .ref (ad 0))]) hx hb dX9_digest_17 rfl hl (by decide) rfl (fun ls hl => ?_)
  obtain ⟨y18, hlp18, h⟩ := obd_inv h
  refine lp_W (fun x18 : Int32 × Int64 => ∀ (H : Heap) (locs : List Loc) (ls : Array Slot), va_P (dC, dI) vwCl (Wd 153 (cfC ad cI cT cS) σ5) H → va_D A (Wd 153 (cfC ad cI cT cS) σ5) → va_S A s.heap H locs → lv_has ls 4 [(3, .int x18.1), (1, .long x18.2), (0, .ref (ad 0))] → W p l e (headSpec vc_X9_digest { frames := 8, cells := 0, slots := 0, locals := 207 }).room s m (List.toArray (α := Value) [.ref (ad 0)]) below meth c H locs 0 0 (MQ below (va_Ql (fun (r : Int64) (_ : Unit) => r = o.1) (gB (dC, dI) A (fun (_ : Unit) => (Wd 153 (cfC ad cI cT cS) o.2))) A) (List.toArray (α := Value) [.ref (ad 0)]) s 0 0 A) (F0 m 18 ls [])) (fun y18 : Int32 × Int64 => ∀ (H : Heap) (locs : List Loc) (ls : Array Slot), va_P (dC, dI) vwCl (Wd 153 (cfC ad cI cT cS) σ5) H → va_D A (Wd 153 (cfC ad cI cT cS) σ5) → va_S A s.heap H locs → lv_has ls 4 [(1, .long y18.2), (0, .ref (ad 0))] → W p l e (headSpec vc_X9_digest { frames := 8, cells := 0, slots := 0, locals := 207 }).room s m (List.toArray (α := Value) [.ref (ad 0)]) below meth c H locs 0 0 (MQ below (va_Ql (fun (r : Int64) (_ : Unit) => r = o.1) (gB (dC, dI) A (fun (_ : Unit) => (Wd 153 (cfC ad cI cT cS) o.2))) A) (List.toArray (α := Value) [.ref (ad 0)]) s 0 0 A) (F0 m 43 ls [])) ?_ 1000 ((0 : Int32), (17 : Int64)) y18 hlp18 ?_ H locs ls hP hD hS (lv_sub (l' := [(3, .int (0 : Int32)), (1, .long (17 : Int64)), (0, .ref (ad 0))]) hl [0, 1, 2] rfl)
  · intro x18 yy18 h ht18 hf18 H locs ls hP hD hS hl
    unfold zl_X9_digest_18 at h
    refine lv_iload_n hx hb dX9_digest_18 rfl (lv_at hl 0 rfl) ?_
    refine lv_bipush (v := 8) hx hb dX9_digest_19 (by decide) ?_
    refine lv_icmp_ge (tgt := 43) hx hb dX9_digest_21 (by decide) (fun c7 => ?_) (fun c7 => ?_)
    · replace h := ifp (c7) h
      obtain rfl := Option.some.inj h
      exact hf18 rfl H locs ls hP hD hS (lv_sub (l' := [(1, .long x18.2), (0, .ref (ad 0))]) hl [1, 2] rfl)
    · replace h := ifn (c7) h
      refine lv_ldc2 (v := 31) hx hb hown (hts (.constantLong RX9 205 (31)) (List.mem_of_getElem? (i := 12) rfl)) dX9_digest_24 ?_
      refine lv_lload_n hx hb dX9_digest_27 rfl (lv_at hl 1 rfl) ?_
      refine lv_lmul hx hb dX9_digest_28 ?_
      refine lv_aload_n hx hb dX9_digest_29 rfl (lv_at hl 2 rfl) ?_
      refine lv_iload_n hx hb dX9_digest_30 rfl (lv_at hl 0 rfl) ?_
      obtain ⟨r8, hc8, h⟩ := obd_inv h
      refine wcalli (S := Unit) (va_runV (As := [.int x18.1]) (rest := [.long ((31 : Int64) * x18.2)]) ⟨hx, hb, hml, hown, hts⟩ (c_X9_countFact l dC dI cI cT cS H.size ad  x18.1 σ5 _ hc8) (cwV 1 hts (gWV (List.mem_of_getElem? (i := 13) rfl) (List.mem_of_getElem? (i := 14) rfl) (List.mem_of_getElem? (i := 15) rfl) (List.mem_of_getElem? (i := 4) rfl) ic_X9_digest_c_X9_countFact gd_c_X9_countFact) rfl rfl rfl (by decide +kernel) ⟨(Nat.le_of_ble_eq_true rfl), (Nat.le_of_ble_eq_true rfl)⟩) (wpV (q := (RX9, TX9, 14)) hP hK hD oX9 rfl) rfl rfl hl.1 rfl (lv_room (Nat.le_of_ble_eq_true rfl)) dX9_digest_31 ⟨(Nat.le_of_ble_eq_true rfl), (Nat.le_of_ble_eq_true rfl)⟩) hP hD hS hA (fun rr9 _ H locs hr9 hP hD hS => ?_)
      refine lv_nm (y := r8) hr9 ?_
      refine lv_i2l hx hb dX9_digest_34 rfl ?_
      refine lv_ladd hx hb dX9_digest_35 ?_
      obtain ⟨e10, he10, h⟩ := letb_inv h
      refine lv_nml he10 ?_
      refine lv_lstore_n (lv' := [(1, .long e10), (3, .int x18.1), (0, .ref (ad 0))]) hx hb dX9_digest_36 rfl hl (by decide) rfl (fun ls hl => ?_)
      refine lv_iinc (v := (x18.1 + (1 : Int32))) (lv' := [(3, .int (x18.1 + (1 : Int32))), (1, .long e10), (0, .ref (ad 0))]) hx hb dX9_digest_37 hl (k := 1) rfl rfl (by decide) rfl (fun ls hl => ?_)
      refine lv_goto (tgt := 18) hx hb dX9_digest_40 (by decide) ?_
      obtain rfl := Option.some.inj h
      exact ht18 rfl H locs ls hP hD hS (lv_sub (l' := [(3, .int (x18.1 + (1 : Int32))), (1, .long e10), (0, .ref (ad 0))]) hl [0, 1, 2] rfl)
  · intro H locs ls hP hD hS hl
    refine lv_iconst (v := 0) hx hb dX9_digest_43 (by decide) ?_
    refine lv_istore_n (lv' := [(3, .int (0 : Int32)), (1, .long y18.2), (0, .ref (ad 0))]) hx hb dX9_digest_44 rfl hl (by decide) rfl (fun ls hl => ?_)
    obtain ⟨y45, hlp45, h⟩ := obd_inv h
    refine lp_W (fun x45 : Int32 × Int64 => ∀ (H : Heap) (locs : List Loc) (ls : Array Slot), va_P (dC, dI) vwCl (Wd 153 (cfC ad cI cT cS) σ5) H → va_D A (Wd 153 (cfC ad cI cT cS) σ5) → va_S A s.heap H locs → lv_has ls 4 [(3, .int x45.1), (1, .long x45.2), (0, .ref (ad 0))] → W p l e (headSpec vc_X9_digest { frames := 8, cells := 0, slots := 0, locals := 207 }).room s m (List.toArray (α := Value) [.ref (ad 0)]) below meth c H locs 0 0 (MQ below (va_Ql (fun (r : Int64) (_ : Unit) => r = o.1) (gB (dC, dI) A (fun (_ : Unit) => (Wd 153 (cfC ad cI cT cS) o.2))) A) (List.toArray (α := Value) [.ref (ad 0)]) s 0 0 A) (F0 m 45 ls [])) (fun y45 : Int32 × Int64 => ∀ (H : Heap) (locs : List Loc) (ls : Array Slot), va_P (dC, dI) vwCl (Wd 153 (cfC ad cI cT cS) σ5) H → va_D A (Wd 153 (cfC ad cI cT cS) σ5) → va_S A s.heap H locs → lv_has ls 4 [(1, .long y45.2), (0, .ref (ad 0))] → W p l e (headSpec vc_X9_digest { frames := 8, cells := 0, slots := 0, locals := 207 }).room s m (List.toArray (α := Value) [.ref (ad 0)]) below meth c H locs 0 0 (MQ below (va_Ql (fun (r : Int64) (_ : Unit) => r = o.1) (gB (dC, dI) A (fun (_ : Unit) => (Wd 153 (cfC ad cI cT cS) o.2))) A) (List.toArray (α := Value) [.ref (ad 0)]) s 0 0 A) (F0 m 70 ls [])) ?_ 1000 ((0 : Int32), y18.2) y45 hlp45 ?_ H locs ls hP hD hS (lv_sub (l' := [(3, .int (0 : Int32)), (1, .long y18.2), (0, .ref (ad 0))]) hl [0, 1, 2] rfl)
    · intro x45 yy45 h ht45 hf45 H locs ls hP hD hS hl
      unfold zl_X9_digest_45 at h
      refine lv_iload_n hx hb dX9_digest_45 rfl (lv_at hl 0 rfl) ?_
      refine lv_bipush (v := 6) hx hb dX9_digest_46 (by decide) ?_
      refine lv_icmp_ge (tgt := 70) hx hb dX9_digest_48 (by decide) (fun c11 => ?_) (fun c11 => ?_)
      · replace h := ifp (c11) h
        obtain rfl := Option.some.inj h
        exact hf45 rfl H locs ls hP hD hS (lv_sub (l' := [(1, .long x45.2), (0, .ref (ad 0))]) hl [1, 2] rfl)
      · replace h := ifn (c11) h
        refine lv_ldc2 (v := 31) hx hb hown (hts (.constantLong RX9 205 (31)) (List.mem_of_getElem? (i := 12) rfl)) dX9_digest_51 ?_
        refine lv_lload_n hx hb dX9_digest_54 rfl (lv_at hl 1 rfl) ?_
        refine lv_lmul hx hb dX9_digest_55 ?_
        refine lv_aload_n hx hb dX9_digest_56 rfl (lv_at hl 2 rfl) ?_
        refine lv_iload_n hx hb dX9_digest_57 rfl (lv_at hl 0 rfl) ?_
        refine wcalli (S := Unit) (va_runV (As := [.int x45.1]) (rest := [.long ((31 : Int64) * x45.2)]) ⟨hx, hb, hml, hown, hts⟩ (c_X9_endFact l dC dI cI cT cS H.size ad  x45.1 σ5 _ rfl) (cwV 1 hts (gWV (List.mem_of_getElem? (i := 16) rfl) (List.mem_of_getElem? (i := 17) rfl) (List.mem_of_getElem? (i := 18) rfl) (List.mem_of_getElem? (i := 4) rfl) ic_X9_digest_c_X9_endFact gd_c_X9_endFact) rfl rfl rfl (by decide +kernel) ⟨(Nat.le_of_ble_eq_true rfl), (Nat.le_of_ble_eq_true rfl)⟩) (wpV (q := (RX9, TX9, 14)) hP hK hD oX9 rfl) rfl rfl hl.1 rfl (lv_room (Nat.le_of_ble_eq_true rfl)) dX9_digest_58 ⟨(Nat.le_of_ble_eq_true rfl), (Nat.le_of_ble_eq_true rfl)⟩) hP hD hS hA (fun rr12 _ H locs hr12 hP hD hS => ?_)
        refine lv_nm (y := (zf_X9_endFact x45.1 σ5)) hr12 ?_
        refine lv_i2l hx hb dX9_digest_61 rfl ?_
        refine lv_ladd hx hb dX9_digest_62 ?_
        obtain ⟨e13, he13, h⟩ := letb_inv h
        refine lv_nml he13 ?_
        refine lv_lstore_n (lv' := [(1, .long e13), (3, .int x45.1), (0, .ref (ad 0))]) hx hb dX9_digest_63 rfl hl (by decide) rfl (fun ls hl => ?_)
        refine lv_iinc (v := (x45.1 + (1 : Int32))) (lv' := [(3, .int (x45.1 + (1 : Int32))), (1, .long e13), (0, .ref (ad 0))]) hx hb dX9_digest_64 hl (k := 1) rfl rfl (by decide) rfl (fun ls hl => ?_)
        refine lv_goto (tgt := 45) hx hb dX9_digest_67 (by decide) ?_
        obtain rfl := Option.some.inj h
        exact ht45 rfl H locs ls hP hD hS (lv_sub (l' := [(3, .int (x45.1 + (1 : Int32))), (1, .long e13), (0, .ref (ad 0))]) hl [0, 1, 2] rfl)
    · intro H locs ls hP hD hS hl
      refine lv_iconst (v := 0) hx hb dX9_digest_70 (by decide) ?_
      refine lv_istore_n (lv' := [(3, .int (0 : Int32)), (1, .long y45.2), (0, .ref (ad 0))]) hx hb dX9_digest_71 rfl hl (by decide) rfl (fun ls hl => ?_)
      obtain ⟨y72, hlp72, h⟩ := obd_inv h
      refine lp_W (fun x72 : Int32 × Int64 => ∀ (H : Heap) (locs : List Loc) (ls : Array Slot), va_P (dC, dI) vwCl (Wd 153 (cfC ad cI cT cS) σ5) H → va_D A (Wd 153 (cfC ad cI cT cS) σ5) → va_S A s.heap H locs → lv_has ls 4 [(3, .int x72.1), (1, .long x72.2), (0, .ref (ad 0))] → W p l e (headSpec vc_X9_digest { frames := 8, cells := 0, slots := 0, locals := 207 }).room s m (List.toArray (α := Value) [.ref (ad 0)]) below meth c H locs 0 0 (MQ below (va_Ql (fun (r : Int64) (_ : Unit) => r = o.1) (gB (dC, dI) A (fun (_ : Unit) => (Wd 153 (cfC ad cI cT cS) o.2))) A) (List.toArray (α := Value) [.ref (ad 0)]) s 0 0 A) (F0 m 72 ls [])) (fun y72 : Int32 × Int64 => ∀ (H : Heap) (locs : List Loc) (ls : Array Slot), va_P (dC, dI) vwCl (Wd 153 (cfC ad cI cT cS) σ5) H → va_D A (Wd 153 (cfC ad cI cT cS) σ5) → va_S A s.heap H locs → lv_has ls 4 [(1, .long y72.2), (0, .ref (ad 0))] → W p l e (headSpec vc_X9_digest { frames := 8, cells := 0, slots := 0, locals := 207 }).room s m (List.toArray (α := Value) [.ref (ad 0)]) below meth c H locs 0 0 (MQ below (va_Ql (fun (r : Int64) (_ : Unit) => r = o.1) (gB (dC, dI) A (fun (_ : Unit) => (Wd 153 (cfC ad cI cT cS) o.2))) A) (List.toArray (α := Value) [.ref (ad 0)]) s 0 0 A) (F0 m 91 ls [])) ?_ 1000 ((0 : Int32), y45.2) y72 hlp72 ?_ H locs ls hP hD hS (lv_sub (l' := [(3, .int (0 : Int32)), (1, .long y45.2), (0, .ref (ad 0))]) hl [0, 1, 2] rfl)
      · intro x72 yy72 h ht72 hf72 H locs ls hP hD hS hl
        unfold zl_X9_digest_72 at h
        refine lv_iload_n hx hb dX9_digest_72 rfl (lv_at hl 0 rfl) ?_
        refine lv_bipush (v := 8) hx hb dX9_digest_73 (by decide) ?_
        refine lv_icmp_ge (tgt := 91) hx hb dX9_digest_75 (by decide) (fun c14 => ?_) (fun c14 => ?_)
        · replace h := ifp (c14) h
          obtain rfl := Option.some.inj h
          exact hf72 rfl H locs ls hP hD hS (lv_sub (l' := [(1, .long x72.2), (0, .ref (ad 0))]) hl [1, 2] rfl)
        · replace h := ifn (c14) h
          refine lv_aload_n hx hb dX9_digest_78 rfl (lv_at hl 2 rfl) ?_
          refine lv_lload_n hx hb dX9_digest_79 rfl (lv_at hl 1 rfl) ?_
          refine lv_iload_n hx hb dX9_digest_80 rfl (lv_at hl 0 rfl) ?_
          obtain ⟨r15, hc15, h⟩ := obd_inv h
          refine wcalll (S := Unit) (va_runV (As := [.long x72.2, .int x72.1]) (rest := []) ⟨hx, hb, hml, hown, hts⟩ (c_X9_mixRegister l dC dI cI cT cS H.size ad  x72.2 x72.1 σ5 _ hc15) (cwV 2 hts (gWV (List.mem_of_getElem? (i := 19) rfl) (List.mem_of_getElem? (i := 20) rfl) (List.mem_of_getElem? (i := 21) rfl) (List.mem_of_getElem? (i := 4) rfl) ic_X9_digest_c_X9_mixRegister gd_c_X9_mixRegister) rfl rfl rfl (by decide +kernel) ⟨(Nat.le_of_ble_eq_true rfl), (Nat.le_of_ble_eq_true rfl)⟩) (wpV (q := (RX9, TX9, 14)) hP hK hD oX9 rfl) rfl rfl hl.1 rfl (lv_room (Nat.le_of_ble_eq_true rfl)) dX9_digest_81 ⟨(Nat.le_of_ble_eq_true rfl), (Nat.le_of_ble_eq_true rfl)⟩) hP hD hS hA (fun rr16 _ H locs hr16 hP hD hS => ?_)
          refine lv_nml (y := r15) hr16 ?_
          refine lv_lstore_n (lv' := [(1, .long r15), (3, .int x72.1), (0, .ref (ad 0))]) hx hb dX9_digest_84 rfl hl (by decide) rfl (fun ls hl => ?_)
          refine lv_iinc (v := (x72.1 + (1 : Int32))) (lv' := [(3, .int (x72.1 + (1 : Int32))), (1, .long r15), (0, .ref (ad 0))]) hx hb dX9_digest_85 hl (k := 1) rfl rfl (by decide) rfl (fun ls hl => ?_)
          refine lv_goto (tgt := 72) hx hb dX9_digest_88 (by decide) ?_
          obtain rfl := Option.some.inj h
          exact ht72 rfl H locs ls hP hD hS (lv_sub (l' := [(3, .int (x72.1 + (1 : Int32))), (1, .long r15), (0, .ref (ad 0))]) hl [0, 1, 2] rfl)
      · intro H locs ls hP hD hS hl
        refine lv_iconst (v := 0) hx hb dX9_digest_91 (by decide) ?_
        refine lv_istore_n (lv' := [(3, .int (0 : Int32)), (1, .long y72.2), (0, .ref (ad 0))]) hx hb dX9_digest_92 rfl hl (by decide) rfl (fun ls hl => ?_)
        obtain ⟨y93, hlp93, h⟩ := obd_inv h
        refine lp_W (fun x93 : Int32 × Int64 => ∀ (H : Heap) (locs : List Loc) (ls : Array Slot), va_P (dC, dI) vwCl (Wd 153 (cfC ad cI cT cS) σ5) H → va_D A (Wd 153 (cfC ad cI cT cS) σ5) → va_S A s.heap H locs → lv_has ls 4 [(3, .int x93.1), (1, .long x93.2), (0, .ref (ad 0))] → W p l e (headSpec vc_X9_digest { frames := 8, cells := 0, slots := 0, locals := 207 }).room s m (List.toArray (α := Value) [.ref (ad 0)]) below meth c H locs 0 0 (MQ below (va_Ql (fun (r : Int64) (_ : Unit) => r = o.1) (gB (dC, dI) A (fun (_ : Unit) => (Wd 153 (cfC ad cI cT cS) o.2))) A) (List.toArray (α := Value) [.ref (ad 0)]) s 0 0 A) (F0 m 93 ls [])) (fun y93 : Int32 × Int64 => ∀ (H : Heap) (locs : List Loc) (ls : Array Slot), va_P (dC, dI) vwCl (Wd 153 (cfC ad cI cT cS) σ5) H → va_D A (Wd 153 (cfC ad cI cT cS) σ5) → va_S A s.heap H locs → lv_has ls 4 [(1, .long y93.2), (0, .ref (ad 0))] → W p l e (headSpec vc_X9_digest { frames := 8, cells := 0, slots := 0, locals := 207 }).room s m (List.toArray (α := Value) [.ref (ad 0)]) below meth c H locs 0 0 (MQ below (va_Ql (fun (r : Int64) (_ : Unit) => r = o.1) (gB (dC, dI) A (fun (_ : Unit) => (Wd 153 (cfC ad cI cT cS) o.2))) A) (List.toArray (α := Value) [.ref (ad 0)]) s 0 0 A) (F0 m 112 ls [])) ?_ 1000 ((0 : Int32), y72.2) y93 hlp93 ?_ H locs ls hP hD hS (lv_sub (l' := [(3, .int (0 : Int32)), (1, .long y72.2), (0, .ref (ad 0))]) hl [0, 1, 2] rfl)
        · intro x93 yy93 h ht93 hf93 H locs ls hP hD hS hl
          unfold zl_X9_digest_93 at h
          refine lv_iload_n hx hb dX9_digest_93 rfl (lv_at hl 0 rfl) ?_
          refine lv_bipush (v := 24) hx hb dX9_digest_94 (by decide) ?_
          refine lv_icmp_ge (tgt := 112) hx hb dX9_digest_96 (by decide) (fun c17 => ?_) (fun c17 => ?_)
          · replace h := ifp (c17) h
            obtain rfl := Option.some.inj h
            exact hf93 rfl H locs ls hP hD hS (lv_sub (l' := [(1, .long x93.2), (0, .ref (ad 0))]) hl [1, 2] rfl)
          · replace h := ifn (c17) h
            refine lv_aload_n hx hb dX9_digest_99 rfl (lv_at hl 2 rfl) ?_
            refine lv_lload_n hx hb dX9_digest_100 rfl (lv_at hl 1 rfl) ?_
            refine lv_iload_n hx hb dX9_digest_101 rfl (lv_at hl 0 rfl) ?_
            obtain ⟨r18, hc18, h⟩ := obd_inv h
            refine wcalll (S := Unit) (va_runV (As := [.long x93.2, .int x93.1]) (rest := []) ⟨hx, hb, hml, hown, hts⟩ (c_X9_mixPoint l dC dI cI cT cS H.size ad  x93.2 x93.1 σ5 _ hc18) (cwV 2 hts (gWV (List.mem_of_getElem? (i := 22) rfl) (List.mem_of_getElem? (i := 23) rfl) (List.mem_of_getElem? (i := 24) rfl) (List.mem_of_getElem? (i := 4) rfl) ic_X9_digest_c_X9_mixPoint gd_c_X9_mixPoint) rfl rfl rfl (by decide +kernel) ⟨(Nat.le_of_ble_eq_true rfl), (Nat.le_of_ble_eq_true rfl)⟩) (wpV (q := (RX9, TX9, 14)) hP hK hD oX9 rfl) rfl rfl hl.1 rfl (lv_room (Nat.le_of_ble_eq_true rfl)) dX9_digest_102 ⟨(Nat.le_of_ble_eq_true rfl), (Nat.le_of_ble_eq_true rfl)⟩) hP hD hS hA (fun rr19 _ H locs hr19 hP hD hS => ?_)
            refine lv_nml (y := r18) hr19 ?_
            refine lv_lstore_n (lv' := [(1, .long r18), (3, .int x93.1), (0, .ref (ad 0))]) hx hb dX9_digest_105 rfl hl (by decide) rfl (fun ls hl => ?_)
            refine lv_iinc (v := (x93.1 + (1 : Int32))) (lv' := [(3, .int (x93.1 + (1 : Int32))), (1, .long r18), (0, .ref (ad 0))]) hx hb dX9_digest_106 hl (k := 1) rfl rfl (by decide) rfl (fun ls hl => ?_)
            refine lv_goto (tgt := 93) hx hb dX9_digest_109 (by decide) ?_
            obtain rfl := Option.some.inj h
            exact ht93 rfl H locs ls hP hD hS (lv_sub (l' := [(3, .int (x93.1 + (1 : Int32))), (1, .long r18), (0, .ref (ad 0))]) hl [0, 1, 2] rfl)
        · intro H locs ls hP hD hS hl
          refine lv_iconst (v := 0) hx hb dX9_digest_112 (by decide) ?_
          refine lv_istore_n (lv' := [(3, .int (0 : Int32)), (1, .long y93.2), (0, .ref (ad 0))]) hx hb dX9_digest_113 rfl hl (by decide) rfl (fun ls hl => ?_)
          obtain ⟨y114, hlp114, h⟩ := obd_inv h
          refine lp_W (fun x114 : Int32 × Int64 => ∀ (H : Heap) (locs : List Loc) (ls : Array Slot), va_P (dC, dI) vwCl (Wd 153 (cfC ad cI cT cS) σ5) H → va_D A (Wd 153 (cfC ad cI cT cS) σ5) → va_S A s.heap H locs → lv_has ls 4 [(3, .int x114.1), (1, .long x114.2), (0, .ref (ad 0))] → W p l e (headSpec vc_X9_digest { frames := 8, cells := 0, slots := 0, locals := 207 }).room s m (List.toArray (α := Value) [.ref (ad 0)]) below meth c H locs 0 0 (MQ below (va_Ql (fun (r : Int64) (_ : Unit) => r = o.1) (gB (dC, dI) A (fun (_ : Unit) => (Wd 153 (cfC ad cI cT cS) o.2))) A) (List.toArray (α := Value) [.ref (ad 0)]) s 0 0 A) (F0 m 114 ls [])) (fun y114 : Int32 × Int64 => ∀ (H : Heap) (locs : List Loc) (ls : Array Slot), va_P (dC, dI) vwCl (Wd 153 (cfC ad cI cT cS) σ5) H → va_D A (Wd 153 (cfC ad cI cT cS) σ5) → va_S A s.heap H locs → lv_has ls 4 [(1, .long y114.2), (0, .ref (ad 0))] → W p l e (headSpec vc_X9_digest { frames := 8, cells := 0, slots := 0, locals := 207 }).room s m (List.toArray (α := Value) [.ref (ad 0)]) below meth c H locs 0 0 (MQ below (va_Ql (fun (r : Int64) (_ : Unit) => r = o.1) (gB (dC, dI) A (fun (_ : Unit) => (Wd 153 (cfC ad cI cT cS) o.2))) A) (List.toArray (α := Value) [.ref (ad 0)]) s 0 0 A) (F0 m 133 ls [])) ?_ 1000 ((0 : Int32), y93.2) y114 hlp114 ?_ H locs ls hP hD hS (lv_sub (l' := [(3, .int (0 : Int32)), (1, .long y93.2), (0, .ref (ad 0))]) hl [0, 1, 2] rfl)
          · intro x114 yy114 h ht114 hf114 H locs ls hP hD hS hl
            unfold zl_X9_digest_114 at h
            refine lv_iload_n hx hb dX9_digest_114 rfl (lv_at hl 0 rfl) ?_
            refine lv_bipush (v := 8) hx hb dX9_digest_115 (by decide) ?_
            refine lv_icmp_ge (tgt := 133) hx hb dX9_digest_117 (by decide) (fun c20 => ?_) (fun c20 => ?_)
            · replace h := ifp (c20) h
              obtain rfl := Option.some.inj h
              exact hf114 rfl H locs ls hP hD hS (lv_sub (l' := [(1, .long x114.2), (0, .ref (ad 0))]) hl [1, 2] rfl)
            · replace h := ifn (c20) h
              refine lv_aload_n hx hb dX9_digest_120 rfl (lv_at hl 2 rfl) ?_
              refine lv_lload_n hx hb dX9_digest_121 rfl (lv_at hl 1 rfl) ?_
              refine lv_iload_n hx hb dX9_digest_122 rfl (lv_at hl 0 rfl) ?_
              obtain ⟨r21, hc21, h⟩ := obd_inv h
              refine wcalll (S := Unit) (va_runV (As := [.long x114.2, .int x114.1]) (rest := []) ⟨hx, hb, hml, hown, hts⟩ (c_X9_mixTrace l dC dI cI cT cS H.size ad  x114.2 x114.1 σ5 _ hc21) (cwV 2 hts (gWV (List.mem_of_getElem? (i := 25) rfl) (List.mem_of_getElem? (i := 26) rfl) (List.mem_of_getElem? (i := 27) rfl) (List.mem_of_getElem? (i := 4) rfl) ic_X9_digest_c_X9_mixTrace gd_c_X9_mixTrace) rfl rfl rfl (by decide +kernel) ⟨(Nat.le_of_ble_eq_true rfl), (Nat.le_of_ble_eq_true rfl)⟩) (wpV (q := (RX9, TX9, 14)) hP hK hD oX9 rfl) rfl rfl hl.1 rfl (lv_room (Nat.le_of_ble_eq_true rfl)) dX9_digest_123 ⟨(Nat.le_of_ble_eq_true rfl), (Nat.le_of_ble_eq_true rfl)⟩) hP hD hS hA (fun rr22 _ H locs hr22 hP hD hS => ?_)
              refine lv_nml (y := r21) hr22 ?_
              refine lv_lstore_n (lv' := [(1, .long r21), (3, .int x114.1), (0, .ref (ad 0))]) hx hb dX9_digest_126 rfl hl (by decide) rfl (fun ls hl => ?_)
              refine lv_iinc (v := (x114.1 + (1 : Int32))) (lv' := [(3, .int (x114.1 + (1 : Int32))), (1, .long r21), (0, .ref (ad 0))]) hx hb dX9_digest_127 hl (k := 1) rfl rfl (by decide) rfl (fun ls hl => ?_)
              refine lv_goto (tgt := 114) hx hb dX9_digest_130 (by decide) ?_
              obtain rfl := Option.some.inj h
              exact ht114 rfl H locs ls hP hD hS (lv_sub (l' := [(3, .int (x114.1 + (1 : Int32))), (1, .long r21), (0, .ref (ad 0))]) hl [0, 1, 2] rfl)
          · intro H locs ls hP hD hS hl
            refine lv_ldc2 (v := 31) hx hb hown (hts (.constantLong RX9 205 (31)) (List.mem_of_getElem? (i := 12) rfl)) dX9_digest_133 ?_
            refine lv_lload_n hx hb dX9_digest_136 rfl (lv_at hl 0 rfl) ?_
            refine lv_lmul hx hb dX9_digest_137 ?_
            refine lv_aload_n hx hb dX9_digest_138 rfl (lv_at hl 1 rfl) ?_
            refine lv_iconst (v := 0) hx hb dX9_digest_139 (by decide) ?_
            refine wcalli (S := Unit) (va_runV (As := [.int (0 : Int32)]) (rest := [.long ((31 : Int64) * y114.2)]) ⟨hx, hb, hml, hown, hts⟩ (c_X9_betterFact l dC dI cI cT cS H.size ad  (0 : Int32) σ5 _ rfl) (cwV 1 hts (gWV (List.mem_of_getElem? (i := 28) rfl) (List.mem_of_getElem? (i := 29) rfl) (List.mem_of_getElem? (i := 30) rfl) (List.mem_of_getElem? (i := 4) rfl) ic_X9_digest_c_X9_betterFact gd_c_X9_betterFact) rfl rfl rfl (by decide +kernel) ⟨(Nat.le_of_ble_eq_true rfl), (Nat.le_of_ble_eq_true rfl)⟩) (wpV (q := (RX9, TX9, 14)) hP hK hD oX9 rfl) rfl rfl hl.1 rfl (lv_room (Nat.le_of_ble_eq_true rfl)) dX9_digest_140 ⟨(Nat.le_of_ble_eq_true rfl), (Nat.le_of_ble_eq_true rfl)⟩) hP hD hS hA (fun rr23 _ H locs hr23 hP hD hS => ?_)
            refine lv_nm (y := (zf_X9_betterFact (0 : Int32) σ5)) hr23 ?_
            refine lv_i2l hx hb dX9_digest_143 rfl ?_
            refine lv_ladd hx hb dX9_digest_144 ?_
            obtain ⟨e24, he24, h⟩ := letb_inv h
            refine lv_nml he24 ?_
            refine lv_lstore_n (lv' := [(1, .long e24), (0, .ref (ad 0))]) hx hb dX9_digest_145 rfl hl (by decide) rfl (fun ls hl => ?_)
            refine lv_ldc2 (v := 31) hx hb hown (hts (.constantLong RX9 205 (31)) (List.mem_of_getElem? (i := 12) rfl)) dX9_digest_146 ?_
            refine lv_lload_n hx hb dX9_digest_149 rfl (lv_at hl 0 rfl) ?_
            refine lv_lmul hx hb dX9_digest_150 ?_
            refine lv_aload_n hx hb dX9_digest_151 rfl (lv_at hl 1 rfl) ?_
            refine lv_iconst (v := 1) hx hb dX9_digest_152 (by decide) ?_
            refine wcalli (S := Unit) (va_runV (As := [.int (1 : Int32)]) (rest := [.long ((31 : Int64) * e24)]) ⟨hx, hb, hml, hown, hts⟩ (c_X9_betterFact l dC dI cI cT cS H.size ad  (1 : Int32) σ5 _ rfl) (cwV 1 hts (gWV (List.mem_of_getElem? (i := 28) rfl) (List.mem_of_getElem? (i := 29) rfl) (List.mem_of_getElem? (i := 30) rfl) (List.mem_of_getElem? (i := 4) rfl) ic_X9_digest_c_X9_betterFact gd_c_X9_betterFact) rfl rfl rfl (by decide +kernel) ⟨(Nat.le_of_ble_eq_true rfl), (Nat.le_of_ble_eq_true rfl)⟩) (wpV (q := (RX9, TX9, 14)) hP hK hD oX9 rfl) rfl rfl hl.1 rfl (lv_room (Nat.le_of_ble_eq_true rfl)) dX9_digest_153 ⟨(Nat.le_of_ble_eq_true rfl), (Nat.le_of_ble_eq_true rfl)⟩) hP hD hS hA (fun rr25 _ H locs hr25 hP hD hS => ?_)
            refine lv_nm (y := (zf_X9_betterFact (1 : Int32) σ5)) hr25 ?_
            refine lv_i2l hx hb dX9_digest_156 rfl ?_
            refine lv_ladd hx hb dX9_digest_157 ?_
            have h9 := Option.some.inj h
            exact wretl hx hb hr hlocks hP hD hS (by show _ = _; rw [← h9]; first | done | rfl) (by rw [← h9]) dX9_digest_158
