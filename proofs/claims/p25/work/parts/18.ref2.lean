def zb_X10_heat_43 (w0_43 : Int32) (σb43 : Sg) : Option (Int32 × Sg) := some (w0_43, σb43)
def zb_X10_heat_41 (σb41 : Sg) : Option (Int32 × Sg) := (zb_X10_heat_43 (-2 : Int32) σb41)
def zf_X10_heat (a1 : Int32) (a2 : Int32) (σ : Sg) : Option (Int32 × Sg) := obd (zf_X10_runs (σ 0 10) σ) (fun σ1 => (if (zf_X10_in (a1.toInt64) (0 : Int64) (23 : Int64)) = true then (if (zf_X10_in (a2.toInt64) (0 : Int64) (2 : Int64)) = true then obd (zf_X10_heatBy a1 a2 σ1) (fun r7 => (zb_X10_heat_43 r7 σ1)) else (zb_X10_heat_41 σ1)) else (zb_X10_heat_41 σ1)))
def oc_X10_heat : List Cond := [.fieldLink RX10 83 "TraceTreesModel" "hot" "I", .methodLink RX10 344 yX10_runs, .instanceMethod yX10_runs, .selects RX10 yX10_runs yX10_runs, .initialized RX10, .constantLong RX10 150 (23), .methodLink RX10 86 yX10_in, .static yX10_in, .constantLong RX10 99 (2), .methodLink RX10 353 yX10_heatBy, .instanceMethod yX10_heatBy, .selects RX10 yX10_heatBy yX10_heatBy]
def vc_X10_heat : List Cond := .code yX10_heat cX10_heat 3 (some .int) :: (oc_X10_heat ++ (wsX100 ++ (vc_X10_runs ++ (vc_X10_in ++ (vc_X10_heatBy)))))
theorem iw_X10_heat_X10 : ∀ w ∈ wsX100, w ∈ vc_X10_heat := fun _ h => List.mem_cons_of_mem _ (List.mem_append_right _ (List.mem_append_left _ h))
theorem ic_X10_heat_c_X10_runs : ∀ w ∈ vc_X10_runs, w ∈ vc_X10_heat := fun _ h => List.mem_cons_of_mem _ (List.mem_append_right _ (List.mem_append_right _ (List.mem_append_left _ h)))
theorem ic_X10_heat_c_X10_in : ∀ w ∈ vc_X10_in, w ∈ vc_X10_heat := fun _ h => List.mem_cons_of_mem _ (List.mem_append_right _ (List.mem_append_right _ (List.mem_append_right _ (List.mem_append_left _ h))))
theorem ic_X10_heat_c_X10_heatBy : ∀ w ∈ vc_X10_heatBy, w ∈ vc_X10_heat := fun _ h => List.mem_cons_of_mem _ (List.mem_append_right _ (List.mem_append_right _ (List.mem_append_right _ (List.mem_append_right _ (h)))))
theorem gd_c_X10_heat : (vc_X10_heat).all goodWord = true := gall_cons rfl (gall_app (by decide +kernel) (gall_app gw_X10 (gall_app gd_c_X10_runs (gall_app gd_c_X10_in gd_c_X10_heatBy))))
set_option maxHeartbeats 4000000 in
set_option maxRecDepth 100000 in
theorem c_X10_heat (l : Launch) (dC : Nat → ClassId) (dI : Nat → Nat → Nat) (cI cT cS : ClassId) (sz : Nat) (ad : Nat → Nat) (a1 : Int32) (a2 : Int32) (σ : Sg) (o : Int32 × Sg) (h : zf_X10_heat a1 a2 σ = some o) : gCI (S := Unit) l yX10_heat vc_X10_heat { frames := 9, cells := 0, slots := 0, locals := 226 } (dC, dI) (gTY cI cT cS) sz [.ref (ad 0), .int a1, .int a2] (Wd 24 (cfR ad cI) σ) (fun (r : Int32) (_ : Unit) => r = o.1) (fun (_ : Unit) => (Wd 24 (cfR ad cI) o.2)) 0 0 := by
  refine Met.ofW (cc := cX10_heat) (maxL := 3) (ret := (some .int)) (by decide) rfl ?_
  intro p e s m args below meth c s₁ B hml hv
  obtain ⟨rfl, hsz, hP, hK, hD0⟩ := hv
  have hx := B.exec
  have hb := B.bytes
  have hr := B.returns
  have hts := atoms_spec (ws := vc_X10_heat) B.pre
  have hown : s.vm.findClass RX10 = some m.cls := findClass_of_methodNamed B.named
  have hlocks := B.notSynchronized
  subst hsz
  have hD := hD0.self (sz := s.heap.size)
  generalize hAe : va_A (Wd 24 (cfR ad cI) σ) s.heap.size = A at hD ⊢
  have hA : ∀ q : Nat, s.heap.size ≤ q → A q := fun q h => by rw [← hAe]; exact Or.inr h
  clear hAe hD0
  refine gstart (fun H locs hHe hLe => ?_)
  have hS : va_S A s.heap H locs := by rw [← hHe, ← hLe]; exact va_S.rf
  replace hP : va_P (dC, dI) vwCl (Wd 24 (cfR ad cI) σ) H := by rw [← hHe]; exact hP
  clear hHe hLe
  have hl := lv_entry ([.ref (ad 0), .int a1, .int a2]) (n := 3) (Nat.le_of_ble_eq_true rfl)
  rw [lg_entry_eq]
  generalize (lg_sl ([.ref (ad 0), .int a1, .int a2]) ++ List.replicate (3 - (lg_sl ([.ref (ad 0), .int a1, .int a2])).length) Slot.unset).toArray = ls at hl ⊢
  replace hl : lv_has ls 3 [(0, .ref (ad 0)), (1, .int a1), (2, .int a2)] := hl
  unfold zf_X10_heat at h
  have J43 : ∀ (w0_43 : Int32) (σb43 : Sg) (H : Heap) (locs : List Loc) (ls : Array Slot), zb_X10_heat_43 w0_43 σb43 = some o → va_P (dC, dI) vwCl (Wd 24 (cfR ad cI) σb43) H → va_D A (Wd 24 (cfR ad cI) σb43) → va_S A s.heap H locs → lv_has ls 3 [] → W p l e (headSpec vc_X10_heat { frames := 9, cells := 0, slots := 0, locals := 226 }).room s m (List.toArray (α := Value) [.ref (ad 0), .int a1, .int a2]) below meth c H locs 0 0 (MQ below (va_Qi (fun (r : Int32) (_ : Unit) => r = o.1) (gB (dC, dI) A (fun (_ : Unit) => (Wd 24 (cfR ad cI) o.2))) A) (List.toArray (α := Value) [.ref (ad 0), .int a1, .int a2]) s 0 0 A) (F0 m 43 ls [.int w0_43]) := by
    intro w0_43 σb43 H locs ls h hP hD hS hl
    unfold zb_X10_heat_43 at h
    have h9 := Option.some.inj h
    exact wreti hx hb hr hlocks hP hD hS (by show _ = _; rw [← h9]; first | done | rfl) (by rw [← h9]) dX10_heat_43
  have J41 : ∀ (σb41 : Sg) (H : Heap) (locs : List Loc) (ls : Array Slot), zb_X10_heat_41 σb41 = some o → va_P (dC, dI) vwCl (Wd 24 (cfR ad cI) σb41) H → va_D A (Wd 24 (cfR ad cI) σb41) → va_S A s.heap H locs → lv_has ls 3 [] → W p l e (headSpec vc_X10_heat { frames := 9, cells := 0, slots := 0, locals := 226 }).room s m (List.toArray (α := Value) [.ref (ad 0), .int a1, .int a2]) below meth c H locs 0 0 (MQ below (va_Qi (fun (r : Int32) (_ : Unit) => r = o.1) (gB (dC, dI) A (fun (_ : Unit) => (Wd 24 (cfR ad cI) o.2))) A) (List.toArray (α := Value) [.ref (ad 0), .int a1, .int a2]) s 0 0 A) (F0 m 41 ls []) := by
    intro σb41 H locs ls h hP hD hS hl
    unfold zb_X10_heat_41 at h
    refine lv_bipush (v := (-2)) hx hb dX10_heat_41 (by decide) ?_
    exact J43 (-2 : Int32) σb41 H locs ls h hP hD hS (lv_sub (l' := []) hl [] rfl)
  refine lv_aload_n hx hb dX10_heat_0 rfl (lv_at hl 0 rfl) ?_
  refine lv_aload_n hx hb dX10_heat_1 rfl (lv_at hl 0 rfl) ?_
  refine gf_X10_10 hx hb hts iw_X10_heat_X10 hown hK hP (hts (.fieldLink RX10 83 "TraceTreesModel" "hot" "I") (List.mem_of_getElem? (i := 1) rfl)) dX10_heat_2 ?_
  obtain ⟨σ1, hc1, h⟩ := obd_inv h
  refine wcallv (S := Unit) (va_runV (As := [.int (σ 0 10)]) (rest := []) ⟨hx, hb, hml, hown, hts⟩ (c_X10_runs l dC dI cI cT cS H.size ad  (σ 0 10) σ _ hc1) (cwV 1 hts (gWV (List.mem_of_getElem? (i := 2) rfl) (List.mem_of_getElem? (i := 3) rfl) (List.mem_of_getElem? (i := 4) rfl) (List.mem_of_getElem? (i := 5) rfl) ic_X10_heat_c_X10_runs gd_c_X10_runs) rfl rfl rfl (by decide +kernel) ⟨(Nat.le_of_ble_eq_true rfl), (Nat.le_of_ble_eq_true rfl)⟩) (wpV (q := (RX10, TX10, 46)) hP hK hD oX10 rfl) rfl rfl hl.1 rfl (lv_room (Nat.le_of_ble_eq_true rfl)) dX10_heat_5 ⟨(Nat.le_of_ble_eq_true rfl), (Nat.le_of_ble_eq_true rfl)⟩) hP hD hS hA (fun _ H locs hr2 hP hD hS => ?_)
  replace hP : va_P (dC, dI) vwCl (Wd 24 (cfR ad cI) σ1) H := hP
  replace hD : va_D A (Wd 24 (cfR ad cI) σ1) := hD
  refine lv_iload_n hx hb dX10_heat_8 rfl (lv_at hl 1 rfl) ?_
  refine lv_i2l hx hb dX10_heat_9 rfl ?_
  refine lv_lconst (v := 0) hx hb dX10_heat_10 (by decide) ?_
  refine lv_ldc2 (v := 23) hx hb hown (hts (.constantLong RX10 150 (23)) (List.mem_of_getElem? (i := 6) rfl)) dX10_heat_11 ?_
  refine wcalli (S := Unit) (va_runS (As := [.long (a1.toInt64), .long (0 : Int64), .long (23 : Int64)]) (rest := []) ⟨hx, hb, hml, hown, hts⟩ (c_X10_in l dC dI cI cT cS H.size (Wd 24 (cfR ad cI) σ1)  (a1.toInt64) (0 : Int64) (23 : Int64) _ rfl) (va_cwS 3 hts (gWS (List.mem_of_getElem? (i := 7) rfl) (List.mem_of_getElem? (i := 8) rfl) (List.mem_of_getElem? (i := 5) rfl) ic_X10_heat_c_X10_in gd_c_X10_in) rfl rfl rfl (by decide +kernel) ⟨(Nat.le_of_ble_eq_true rfl), (Nat.le_of_ble_eq_true rfl)⟩) (gpS hP hK hD) rfl rfl hl.1 rfl (lv_room (Nat.le_of_ble_eq_true rfl)) dX10_heat_14 ⟨(Nat.le_of_ble_eq_true rfl), (Nat.le_of_ble_eq_true rfl)⟩) hP hD hS hA (fun rr3 _ H locs hr3 hP hD hS => ?_)
  refine lv_nm (y := b2i (zf_X10_in (a1.toInt64) (0 : Int64) (23 : Int64))) hr3 ?_
  refine lv_if_eq (tgt := 41) hx hb dX10_heat_17 (by decide) (fun c4 => ?_) (fun c4 => ?_)
  · replace h := ifn (b2i_0 c4) h
    exact J41 σ1 H locs ls h hP hD hS (lv_sub (l' := []) hl [] rfl)
  · replace h := ifp (b2i_1 c4) h
    refine lv_iload_n hx hb dX10_heat_20 rfl (lv_at hl 2 rfl) ?_
    refine lv_i2l hx hb dX10_heat_21 rfl ?_
    refine lv_lconst (v := 0) hx hb dX10_heat_22 (by decide) ?_
    refine lv_ldc2 (v := 2) hx hb hown (hts (.constantLong RX10 99 (2)) (List.mem_of_getElem? (i := 9) rfl)) dX10_heat_23 ?_
    refine wcalli (S := Unit) (va_runS (As := [.long (a2.toInt64), .long (0 : Int64), .long (2 : Int64)]) (rest := []) ⟨hx, hb, hml, hown, hts⟩ (c_X10_in l dC dI cI cT cS H.size (Wd 24 (cfR ad cI) σ1)  (a2.toInt64) (0 : Int64) (2 : Int64) _ rfl) (va_cwS 3 hts (gWS (List.mem_of_getElem? (i := 7) rfl) (List.mem_of_getElem? (i := 8) rfl) (List.mem_of_getElem? (i := 5) rfl) ic_X10_heat_c_X10_in gd_c_X10_in) rfl rfl rfl (by decide +kernel) ⟨(Nat.le_of_ble_eq_true rfl), (Nat.le_of_ble_eq_true rfl)⟩) (gpS hP hK hD) rfl rfl hl.1 rfl (lv_room (Nat.le_of_ble_eq_true rfl)) dX10_heat_26 ⟨(Nat.le_of_ble_eq_true rfl), (Nat.le_of_ble_eq_true rfl)⟩) hP hD hS hA (fun rr5 _ H locs hr5 hP hD hS => ?_)
    refine lv_nm (y := b2i (zf_X10_in (a2.toInt64) (0 : Int64) (2 : Int64))) hr5 ?_
    refine lv_if_eq (tgt := 41) hx hb dX10_heat_29 (by decide) (fun c6 => ?_) (fun c6 => ?_)
    · replace h := ifn (b2i_0 c6) h
      exact J41 σ1 H locs ls h hP hD hS (lv_sub (l' := []) hl [] rfl)
    · replace h := ifp (b2i_1 c6) h
      refine lv_aload_n hx hb dX10_heat_32 rfl (lv_at hl 0 rfl) ?_
      refine lv_iload_n hx hb dX10_heat_33 rfl (lv_at hl 1 rfl) ?_
      refine lv_iload_n hx hb dX10_heat_34 rfl (lv_at hl 2 rfl) ?_
      obtain ⟨r7, hc7, h⟩ := obd_inv h
      refine wcalli (S := Unit) (va_runV (As := [.int a1, .int a2]) (rest := []) ⟨hx, hb, hml, hown, hts⟩ (c_X10_heatBy l dC dI cI cT cS H.size ad  a1 a2 σ1 _ hc7) (cwV 2 hts (gWV (List.mem_of_getElem? (i := 10) rfl) (List.mem_of_getElem? (i := 11) rfl) (List.mem_of_getElem? (i := 12) rfl) (List.mem_of_getElem? (i := 5) rfl) ic_X10_heat_c_X10_heatBy gd_c_X10_heatBy) rfl rfl rfl (by decide +kernel) ⟨(Nat.le_of_ble_eq_true rfl), (Nat.le_of_ble_eq_true rfl)⟩) (wpV (q := (RX10, TX10, 46)) hP hK hD oX10 rfl) rfl rfl hl.1 rfl (lv_room (Nat.le_of_ble_eq_true rfl)) dX10_heat_35 ⟨(Nat.le_of_ble_eq_true rfl), (Nat.le_of_ble_eq_true rfl)⟩) hP hD hS hA (fun rr8 _ H locs hr8 hP hD hS => ?_)
      refine lv_nm (y := r7) hr8 ?_
      refine lv_goto (tgt := 43) hx hb dX10_heat_38 (by decide) ?_
      exact J43 r7 σ1 H locs ls h hP hD hS (lv_sub (l' := []) hl [] rfl)
def zf_X10_isTrace (a1 : Int32) (σ : Sg) : Bool := (zf_X10_in (a1.toInt64) (0 : Int64) (((σ 0 25) - (1 : Int32)).toInt64))
def oc_X10_isTrace : List Cond := [.fieldLink RX10 253 "TraceTreesModel" "traces" "I", .methodLink RX10 86 yX10_in, .static yX10_in, .initialized RX10]
def vc_X10_isTrace : List Cond := .code yX10_isTrace cX10_isTrace 2 (some .boolean) :: (oc_X10_isTrace ++ (wsX100 ++ (vc_X10_in)))
theorem iw_X10_isTrace_X10 : ∀ w ∈ wsX100, w ∈ vc_X10_isTrace := fun _ h => List.mem_cons_of_mem _ (List.mem_append_right _ (List.mem_append_left _ h))
theorem ic_X10_isTrace_c_X10_in : ∀ w ∈ vc_X10_in, w ∈ vc_X10_isTrace := fun _ h => List.mem_cons_of_mem _ (List.mem_append_right _ (List.mem_append_right _ (h)))
theorem gd_c_X10_isTrace : (vc_X10_isTrace).all goodWord = true := gall_cons rfl (gall_app (by decide +kernel) (gall_app gw_X10 gd_c_X10_in))
set_option maxHeartbeats 4000000 in
set_option maxRecDepth 100000 in
theorem c_X10_isTrace (l : Launch) (dC : Nat → ClassId) (dI : Nat → Nat → Nat) (cI cT cS : ClassId) (sz : Nat) (ad : Nat → Nat) (a1 : Int32) (σ : Sg) (o : Bool) (h : zf_X10_isTrace a1 σ = o) : gCI (S := Unit) l yX10_isTrace vc_X10_isTrace { frames := 1, cells := 0, slots := 0, locals := 25 } (dC, dI) (gTY cI cT cS) sz [.ref (ad 0), .int a1] (Wd 24 (cfR ad cI) σ) (fun (r : Int32) (_ : Unit) => r = b2i o) (fun (_ : Unit) => (Wd 24 (cfR ad cI) σ)) 0 0 := by
  refine Met.ofW (cc := cX10_isTrace) (maxL := 2) (ret := (some .boolean)) (by decide) rfl ?_
  intro p e s m args below meth c s₁ B hml hv
  obtain ⟨rfl, hsz, hP, hK, hD0⟩ := hv
  have hx := B.exec
  have hb := B.bytes
  have hr := B.returns
  have hts := atoms_spec (ws := vc_X10_isTrace) B.pre
  have hown : s.vm.findClass RX10 = some m.cls := findClass_of_methodNamed B.named
  have hlocks := B.notSynchronized
  subst hsz
  have hD := hD0.self (sz := s.heap.size)
  generalize hAe : va_A (Wd 24 (cfR ad cI) σ) s.heap.size = A at hD ⊢
  have hA : ∀ q : Nat, s.heap.size ≤ q → A q := fun q h => by rw [← hAe]; exact Or.inr h
  clear hAe hD0
  refine gstart (fun H locs hHe hLe => ?_)
  have hS : va_S A s.heap H locs := by rw [← hHe, ← hLe]; exact va_S.rf
  replace hP : va_P (dC, dI) vwCl (Wd 24 (cfR ad cI) σ) H := by rw [← hHe]; exact hP
  clear hHe hLe
  have hl := lv_entry ([.ref (ad 0), .int a1]) (n := 2) (Nat.le_of_ble_eq_true rfl)
  rw [lg_entry_eq]
  generalize (lg_sl ([.ref (ad 0), .int a1]) ++ List.replicate (2 - (lg_sl ([.ref (ad 0), .int a1])).length) Slot.unset).toArray = ls at hl ⊢
  replace hl : lv_has ls 2 [(0, .ref (ad 0)), (1, .int a1)] := hl
  unfold zf_X10_isTrace at h
  refine lv_iload_n hx hb dX10_isTrace_0 rfl (lv_at hl 1 rfl) ?_
  refine lv_i2l hx hb dX10_isTrace_1 rfl ?_
  refine lv_lconst (v := 0) hx hb dX10_isTrace_2 (by decide) ?_
  refine lv_aload_n hx hb dX10_isTrace_3 rfl (lv_at hl 0 rfl) ?_
  refine gf_X10_25 hx hb hts iw_X10_isTrace_X10 hown hK hP (hts (.fieldLink RX10 253 "TraceTreesModel" "traces" "I") (List.mem_of_getElem? (i := 1) rfl)) dX10_isTrace_4 ?_
  refine lv_iconst (v := 1) hx hb dX10_isTrace_7 (by decide) ?_
  refine lv_isub hx hb dX10_isTrace_8 ?_
  refine lv_i2l hx hb dX10_isTrace_9 rfl ?_
  refine wcalli (S := Unit) (va_runS (As := [.long (a1.toInt64), .long (0 : Int64), .long (((σ 0 25) - (1 : Int32)).toInt64)]) (rest := []) ⟨hx, hb, hml, hown, hts⟩ (c_X10_in l dC dI cI cT cS H.size (Wd 24 (cfR ad cI) σ)  (a1.toInt64) (0 : Int64) (((σ 0 25) - (1 : Int32)).toInt64) _ rfl) (va_cwS 3 hts (gWS (List.mem_of_getElem? (i := 2) rfl) (List.mem_of_getElem? (i := 3) rfl) (List.mem_of_getElem? (i := 4) rfl) ic_X10_isTrace_c_X10_in gd_c_X10_in) rfl rfl rfl (by decide +kernel) ⟨(Nat.le_of_ble_eq_true rfl), (Nat.le_of_ble_eq_true rfl)⟩) (gpS hP hK hD) rfl rfl hl.1 rfl (lv_room (Nat.le_of_ble_eq_true rfl)) dX10_isTrace_10 ⟨(Nat.le_of_ble_eq_true rfl), (Nat.le_of_ble_eq_true rfl)⟩) hP hD hS hA (fun rr1 _ H locs hr1 hP hD hS => ?_)
  refine lv_nm (y := b2i (zf_X10_in (a1.toInt64) (0 : Int64) (((σ 0 25) - (1 : Int32)).toInt64))) hr1 ?_
  have h9 := h
  exact wretz hx hb hr hlocks (b2i_or _) hP hD hS (by show _ = _; rw [← h9]; first | done | rfl) rfl dX10_isTrace_13
def zf_X10_traceBy (a1 : Int32) (a2 : Int32) (σ : Sg) : Option (Int32) := (if a2 = 0 then bd a1 8 (some (σ 12 a1.toNatClampNeg)) else (if a2 = 1 then bd a1 8 (some (σ 13 a1.toNatClampNeg)) else (if a2 = 2 then bd a1 8 (some (σ 14 a1.toNatClampNeg)) else (if a2 = 3 then bd a1 8 (some (σ 15 a1.toNatClampNeg)) else bd a1 8 (some (σ 16 a1.toNatClampNeg))))))
def oc_X10_traceBy : List Cond := [.fieldLink RX10 43 "TraceTreesModel" "head" "[I", .fieldLink RX10 46 "TraceTreesModel" "parent" "[I", .fieldLink RX10 49 "TraceTreesModel" "fork" "[I", .fieldLink RX10 52 "TraceTreesModel" "length" "[I", .fieldLink RX10 55 "TraceTreesModel" "begun" "[I"]
def vc_X10_traceBy : List Cond := .code yX10_traceBy cX10_traceBy 3 (some .int) :: (oc_X10_traceBy ++ (wsX100))
theorem iw_X10_traceBy_X10 : ∀ w ∈ wsX100, w ∈ vc_X10_traceBy := fun _ h => List.mem_cons_of_mem _ (List.mem_append_right _ (h))
theorem gd_c_X10_traceBy : (vc_X10_traceBy).all goodWord = true := gall_cons rfl (gall_app (by decide +kernel) gw_X10)
set_option maxHeartbeats 4000000 in
set_option maxRecDepth 100000 in
theorem c_X10_traceBy (l : Launch) (dC : Nat → ClassId) (dI : Nat → Nat → Nat) (cI cT cS : ClassId) (sz : Nat) (ad : Nat → Nat) (a1 : Int32) (a2 : Int32) (σ : Sg) (o : Int32) (h : zf_X10_traceBy a1 a2 σ = some o) : gCI (S := Unit) l yX10_traceBy vc_X10_traceBy { frames := 0, cells := 0, slots := 0, locals := 0 } (dC, dI) (gTY cI cT cS) sz [.ref (ad 0), .int a1, .int a2] (Wd 24 (cfR ad cI) σ) (fun (r : Int32) (_ : Unit) => r = o) (fun (_ : Unit) => (Wd 24 (cfR ad cI) σ)) 0 0 := by
  refine Met.ofW (cc := cX10_traceBy) (maxL := 3) (ret := (some .int)) (by decide) rfl ?_
  intro p e s m args below meth c s₁ B hml hv
  obtain ⟨rfl, hsz, hP, hK, hD0⟩ := hv
  have hx := B.exec
  have hb := B.bytes
  have hr := B.returns
  have hts := atoms_spec (ws := vc_X10_traceBy) B.pre
  have hown : s.vm.findClass RX10 = some m.cls := findClass_of_methodNamed B.named
  have hlocks := B.notSynchronized
  subst hsz
  have hD := hD0.self (sz := s.heap.size)
  generalize hAe : va_A (Wd 24 (cfR ad cI) σ) s.heap.size = A at hD ⊢
  have hA : ∀ q : Nat, s.heap.size ≤ q → A q := fun q h => by rw [← hAe]; exact Or.inr h
  clear hAe hD0
  refine gstart (fun H locs hHe hLe => ?_)
  have hS : va_S A s.heap H locs := by rw [← hHe, ← hLe]; exact va_S.rf
  replace hP : va_P (dC, dI) vwCl (Wd 24 (cfR ad cI) σ) H := by rw [← hHe]; exact hP
  clear hHe hLe
  have hl := lv_entry ([.ref (ad 0), .int a1, .int a2]) (n := 3) (Nat.le_of_ble_eq_true rfl)
  rw [lg_entry_eq]
  generalize (lg_sl ([.ref (ad 0), .int a1, .int a2]) ++ List.replicate (3 - (lg_sl ([.ref (ad 0), .int a1, .int a2])).length) Slot.unset).toArray = ls at hl ⊢
  replace hl : lv_has ls 3 [(0, .ref (ad 0)), (1, .int a1), (2, .int a2)] := hl
  unfold zf_X10_traceBy at h
  refine lv_iload_n hx hb dX10_traceBy_0 rfl (lv_at hl 2 rfl) ?_
  by_cases c1 : a2 = 0
  · replace h := ifp c1 h
    refine lv_tableIn (off := 31) (tgt := 32) hx hb dX10_traceBy_1 (by rw [c1]; decide) (by rw [c1]; decide) (by rw [c1]; decide) (by decide) ?_
    refine lv_aload_n hx hb dX10_traceBy_32 rfl (lv_at hl 0 rfl) ?_
    refine gf_X10_26 hx hb hts iw_X10_traceBy_X10 hown hK hP (hts (.fieldLink RX10 43 "TraceTreesModel" "head" "[I") (List.mem_of_getElem? (i := 1) rfl)) dX10_traceBy_33 ?_
    refine lv_iload_n hx hb dX10_traceBy_36 rfl (lv_at hl 1 rfl) ?_
    obtain ⟨hi2, h⟩ := bd_inv h
    refine wald hx hb hK hP aR12 hi2 dX10_traceBy_37 ?_
    have h9 := Option.some.inj h
    exact wreti hx hb hr hlocks hP hD hS (by show _ = _; rw [← h9]; first | done | rfl) rfl dX10_traceBy_38
  replace h := ifn c1 h
  by_cases c3 : a2 = 1
  · replace h := ifp c3 h
    refine lv_tableIn (off := 38) (tgt := 39) hx hb dX10_traceBy_1 (by rw [c3]; decide) (by rw [c3]; decide) (by rw [c3]; decide) (by decide) ?_
    refine lv_aload_n hx hb dX10_traceBy_39 rfl (lv_at hl 0 rfl) ?_
    refine gf_X10_27 hx hb hts iw_X10_traceBy_X10 hown hK hP (hts (.fieldLink RX10 46 "TraceTreesModel" "parent" "[I") (List.mem_of_getElem? (i := 2) rfl)) dX10_traceBy_40 ?_
    refine lv_iload_n hx hb dX10_traceBy_43 rfl (lv_at hl 1 rfl) ?_
    obtain ⟨hi4, h⟩ := bd_inv h
    refine wald hx hb hK hP aR13 hi4 dX10_traceBy_44 ?_
    have h9 := Option.some.inj h
    exact wreti hx hb hr hlocks hP hD hS (by show _ = _; rw [← h9]; first | done | rfl) rfl dX10_traceBy_45
  replace h := ifn c3 h
  by_cases c5 : a2 = 2
  · replace h := ifp c5 h
    refine lv_tableIn (off := 45) (tgt := 46) hx hb dX10_traceBy_1 (by rw [c5]; decide) (by rw [c5]; decide) (by rw [c5]; decide) (by decide) ?_
    refine lv_aload_n hx hb dX10_traceBy_46 rfl (lv_at hl 0 rfl) ?_
    refine gf_X10_28 hx hb hts iw_X10_traceBy_X10 hown hK hP (hts (.fieldLink RX10 49 "TraceTreesModel" "fork" "[I") (List.mem_of_getElem? (i := 3) rfl)) dX10_traceBy_47 ?_
    refine lv_iload_n hx hb dX10_traceBy_50 rfl (lv_at hl 1 rfl) ?_
    obtain ⟨hi6, h⟩ := bd_inv h
    refine wald hx hb hK hP aR14 hi6 dX10_traceBy_51 ?_
    have h9 := Option.some.inj h
    exact wreti hx hb hr hlocks hP hD hS (by show _ = _; rw [← h9]; first | done | rfl) rfl dX10_traceBy_52
  replace h := ifn c5 h
  by_cases c7 : a2 = 3
  · replace h := ifp c7 h
    refine lv_tableIn (off := 52) (tgt := 53) hx hb dX10_traceBy_1 (by rw [c7]; decide) (by rw [c7]; decide) (by rw [c7]; decide) (by decide) ?_
    refine lv_aload_n hx hb dX10_traceBy_53 rfl (lv_at hl 0 rfl) ?_
    refine gf_X10_29 hx hb hts iw_X10_traceBy_X10 hown hK hP (hts (.fieldLink RX10 52 "TraceTreesModel" "length" "[I") (List.mem_of_getElem? (i := 4) rfl)) dX10_traceBy_54 ?_
    refine lv_iload_n hx hb dX10_traceBy_57 rfl (lv_at hl 1 rfl) ?_
    obtain ⟨hi8, h⟩ := bd_inv h
    refine wald hx hb hK hP aR15 hi8 dX10_traceBy_58 ?_
    have h9 := Option.some.inj h
    exact wreti hx hb hr hlocks hP hD hS (by show _ = _; rw [← h9]; first | done | rfl) rfl dX10_traceBy_59
  replace h := ifn c7 h
  refine lv_tableOut (tgt := 60) hx hb dX10_traceBy_1 (by have := lv_neT c1 (a := 0) (by decide); have := lv_neT c3 (a := 1) (by decide); have := lv_neT c5 (a := 2) (by decide); have := lv_neT c7 (a := 3) (by decide); omega) (by decide) ?_
  refine lv_aload_n hx hb dX10_traceBy_60 rfl (lv_at hl 0 rfl) ?_
  refine gf_X10_30 hx hb hts iw_X10_traceBy_X10 hown hK hP (hts (.fieldLink RX10 55 "TraceTreesModel" "begun" "[I") (List.mem_of_getElem? (i := 5) rfl)) dX10_traceBy_61 ?_
  refine lv_iload_n hx hb dX10_traceBy_64 rfl (lv_at hl 1 rfl) ?_
  obtain ⟨hi9, h⟩ := bd_inv h
  refine wald hx hb hK hP aR16 hi9 dX10_traceBy_65 ?_
  have h9 := Option.some.inj h
  exact wreti hx hb hr hlocks hP hD hS (by show _ = _; rw [← h9]; first | done | rfl) rfl dX10_traceBy_66
def zb_X10_traceOf_31 (w0_31 : Int32) : Option (Int32) := some w0_31
def zb_X10_traceOf_29  : Option (Int32) := (zb_X10_traceOf_31 (-2 : Int32))
def zf_X10_traceOf (a1 : Int32) (a2 : Int32) (σ : Sg) : Option (Int32) := (if (zf_X10_isTrace a1 σ) = true then (if (zf_X10_in (a2.toInt64) (0 : Int64) (4 : Int64)) = true then obd (zf_X10_traceBy a1 a2 σ) (fun r5 => (zb_X10_traceOf_31 r5)) else zb_X10_traceOf_29) else zb_X10_traceOf_29)
def oc_X10_traceOf : List Cond := [.methodLink RX10 356 yX10_isTrace, .instanceMethod yX10_isTrace, .selects RX10 yX10_isTrace yX10_isTrace, .initialized RX10, .constantLong RX10 359 (4), .methodLink RX10 86 yX10_in, .static yX10_in, .methodLink RX10 361 yX10_traceBy, .instanceMethod yX10_traceBy, .selects RX10 yX10_traceBy yX10_traceBy]
def vc_X10_traceOf : List Cond := .code yX10_traceOf cX10_traceOf 3 (some .int) :: (oc_X10_traceOf ++ (vc_X10_isTrace ++ (vc_X10_in ++ (vc_X10_traceBy))))
theorem ic_X10_traceOf_c_X10_isTrace : ∀ w ∈ vc_X10_isTrace, w ∈ vc_X10_traceOf := fun _ h => List.mem_cons_of_mem _ (List.mem_append_right _ (List.mem_append_left _ h))
theorem ic_X10_traceOf_c_X10_in : ∀ w ∈ vc_X10_in, w ∈ vc_X10_traceOf := fun _ h => List.mem_cons_of_mem _ (List.mem_append_right _ (List.mem_append_right _ (List.mem_append_left _ h)))
theorem ic_X10_traceOf_c_X10_traceBy : ∀ w ∈ vc_X10_traceBy, w ∈ vc_X10_traceOf := fun _ h => List.mem_cons_of_mem _ (List.mem_append_right _ (List.mem_append_right _ (List.mem_append_right _ (h))))
theorem gd_c_X10_traceOf : (vc_X10_traceOf).all goodWord = true := gall_cons rfl (gall_app (by decide +kernel) (gall_app gd_c_X10_isTrace (gall_app gd_c_X10_in gd_c_X10_traceBy)))
set_option maxHeartbeats 4000000 in
set_option maxRecDepth 100000 in
theorem c_X10_traceOf (l : Launch) (dC : Nat → ClassId) (dI : Nat → Nat → Nat) (cI cT cS : ClassId) (sz : Nat) (ad : Nat → Nat) (a1 : Int32) (a2 : Int32) (σ : Sg) (o : Int32) (h : zf_X10_traceOf a1 a2 σ = some o) : gCI (S := Unit) l yX10_traceOf vc_X10_traceOf { frames := 2, cells := 0, slots := 0, locals := 46 } (dC, dI) (gTY cI cT cS) sz [.ref (ad 0), .int a1, .int a2] (Wd 24 (cfR ad cI) σ) (fun (r : Int32) (_ : Unit) => r = o) (fun (_ : Unit) => (Wd 24 (cfR ad cI) σ)) 0 0 := by
  refine Met.ofW (cc := cX10_traceOf) (maxL := 3) (ret := (some .int)) (by decide) rfl ?_
  intro p e s m args below meth c s₁ B hml hv
  obtain ⟨rfl, hsz, hP, hK, hD0⟩ := hv
  have hx := B.exec
  have hb := B.bytes
  have hr := B.returns
  have hts := atoms_spec (ws := vc_X10_traceOf) B.pre
  have hown : s.vm.findClass RX10 = some m.cls := findClass_of_methodNamed B.named
  have hlocks := B.notSynchronized
  subst hsz
  have hD := hD0.self (sz := s.heap.size)
  generalize hAe : va_A (Wd 24 (cfR ad cI) σ) s.heap.size = A at hD ⊢
  have hA : ∀ q : Nat, s.heap.size ≤ q → A q := fun q h => by rw [← hAe]; exact Or.inr h
  clear hAe hD0
  refine gstart (fun H locs hHe hLe => ?_)
  have hS : va_S A s.heap H locs := by rw [← hHe, ← hLe]; exact va_S.rf
  replace hP : va_P (dC, dI) vwCl (Wd 24 (cfR ad cI) σ) H := by rw [← hHe]; exact hP
  clear hHe hLe
  have hl := lv_entry ([.ref (ad 0), .int a1, .int a2]) (n := 3) (Nat.le_of_ble_eq_true rfl)
  rw [lg_entry_eq]
  generalize (lg_sl ([.ref (ad 0), .int a1, .int a2]) ++ List.replicate (3 - (lg_sl ([.ref (ad 0), .int a1, .int a2])).length) Slot.unset).toArray = ls at hl ⊢
  replace hl : lv_has ls 3 [(0, .ref (ad 0)), (1, .int a1), (2, .int a2)] := hl
  unfold zf_X10_traceOf at h
  have J31 : ∀ (w0_31 : Int32) (H : Heap) (locs : List Loc) (ls : Array Slot), zb_X10_traceOf_31 w0_31 = some o → va_P (dC, dI) vwCl (Wd 24 (cfR ad cI) σ) H → va_D A (Wd 24 (cfR ad cI) σ) → va_S A s.heap H locs → lv_has ls 3 [] → W p l e (headSpec vc_X10_traceOf { frames := 2, cells := 0, slots := 0, locals := 46 }).room s m (List.toArray (α := Value) [.ref (ad 0), .int a1, .int a2]) below meth c H locs 0 0 (MQ below (va_Qi (fun (r : Int32) (_ : Unit) => r = o) (gB (dC, dI) A (fun (_ : Unit) => (Wd 24 (cfR ad cI) σ))) A) (List.toArray (α := Value) [.ref (ad 0), .int a1, .int a2]) s 0 0 A) (F0 m 31 ls [.int w0_31]) := by
    intro w0_31 H locs ls h hP hD hS hl
    unfold zb_X10_traceOf_31 at h
    have h9 := Option.some.inj h
    exact wreti hx hb hr hlocks hP hD hS (by show _ = _; rw [← h9]; first | done | rfl) rfl dX10_traceOf_31
  have J29 : ∀  (H : Heap) (locs : List Loc) (ls : Array Slot), zb_X10_traceOf_29 = some o → va_P (dC, dI) vwCl (Wd 24 (cfR ad cI) σ) H → va_D A (Wd 24 (cfR ad cI) σ) → va_S A s.heap H locs → lv_has ls 3 [] → W p l e (headSpec vc_X10_traceOf { frames := 2, cells := 0, slots := 0, locals := 46 }).room s m (List.toArray (α := Value) [.ref (ad 0), .int a1, .int a2]) below meth c H locs 0 0 (MQ below (va_Qi (fun (r : Int32) (_ : Unit) => r = o) (gB (dC, dI) A (fun (_ : Unit) => (Wd 24 (cfR ad cI) σ))) A) (List.toArray (α := Value) [.ref (ad 0), .int a1, .int a2]) s 0 0 A) (F0 m 29 ls []) := by
    intro  H locs ls h hP hD hS hl
    unfold zb_X10_traceOf_29 at h
    refine lv_bipush (v := (-2)) hx hb dX10_traceOf_29 (by decide) ?_
    exact J31 (-2 : Int32) H locs ls h hP hD hS (lv_sub (l' := []) hl [] rfl)
  refine lv_aload_n hx hb dX10_traceOf_0 rfl (lv_at hl 0 rfl) ?_
  refine lv_iload_n hx hb dX10_traceOf_1 rfl (lv_at hl 1 rfl) ?_
  refine wcalli (S := Unit) (va_runV (As := [.int a1]) (rest := []) ⟨hx, hb, hml, hown, hts⟩ (c_X10_isTrace l dC dI cI cT cS H.size ad  a1 σ _ rfl) (cwV 1 hts (gWV (List.mem_of_getElem? (i := 1) rfl) (List.mem_of_getElem? (i := 2) rfl) (List.mem_of_getElem? (i := 3) rfl) (List.mem_of_getElem? (i := 4) rfl) ic_X10_traceOf_c_X10_isTrace gd_c_X10_isTrace) rfl rfl rfl (by decide +kernel) ⟨(Nat.le_of_ble_eq_true rfl), (Nat.le_of_ble_eq_true rfl)⟩) (wpV (q := (RX10, TX10, 46)) hP hK hD oX10 rfl) rfl rfl hl.1 rfl (lv_room (Nat.le_of_ble_eq_true rfl)) dX10_traceOf_2 ⟨(Nat.le_of_ble_eq_true rfl), (Nat.le_of_ble_eq_true rfl)⟩) hP hD hS hA (fun rr1 _ H locs hr1 hP hD hS => ?_)
  refine lv_nm (y := b2i (zf_X10_isTrace a1 σ)) hr1 ?_
  refine lv_if_eq (tgt := 29) hx hb dX10_traceOf_5 (by decide) (fun c2 => ?_) (fun c2 => ?_)
  · replace h := ifn (b2i_0 c2) h
    exact J29  H locs ls h hP hD hS (lv_sub (l' := []) hl [] rfl)
  · replace h := ifp (b2i_1 c2) h
    refine lv_iload_n hx hb dX10_traceOf_8 rfl (lv_at hl 2 rfl) ?_
    refine lv_i2l hx hb dX10_traceOf_9 rfl ?_
    refine lv_lconst (v := 0) hx hb dX10_traceOf_10 (by decide) ?_
    refine lv_ldc2 (v := 4) hx hb hown (hts (.constantLong RX10 359 (4)) (List.mem_of_getElem? (i := 5) rfl)) dX10_traceOf_11 ?_
    refine wcalli (S := Unit) (va_runS (As := [.long (a2.toInt64), .long (0 : Int64), .long (4 : Int64)]) (rest := []) ⟨hx, hb, hml, hown, hts⟩ (c_X10_in l dC dI cI cT cS H.size (Wd 24 (cfR ad cI) σ)  (a2.toInt64) (0 : Int64) (4 : Int64) _ rfl) (va_cwS 3 hts (gWS (List.mem_of_getElem? (i := 6) rfl) (List.mem_of_getElem? (i := 7) rfl) (List.mem_of_getElem? (i := 4) rfl) ic_X10_traceOf_c_X10_in gd_c_X10_in) rfl rfl rfl (by decide +kernel) ⟨(Nat.le_of_ble_eq_true rfl), (Nat.le_of_ble_eq_true rfl)⟩) (gpS hP hK hD) rfl rfl hl.1 rfl (lv_room (Nat.le_of_ble_eq_true rfl)) dX10_traceOf_14 ⟨(Nat.le_of_ble_eq_true rfl), (Nat.le_of_ble_eq_true rfl)⟩) hP hD hS hA (fun rr3 _ H locs hr3 hP hD hS => ?_)
    refine lv_nm (y := b2i (zf_X10_in (a2.toInt64) (0 : Int64) (4 : Int64))) hr3 ?_
    refine lv_if_eq (tgt := 29) hx hb dX10_traceOf_17 (by decide) (fun c4 => ?_) (fun c4 => ?_)
    · replace h := ifn (b2i_0 c4) h
      exact J29  H locs ls h hP hD hS (lv_sub (l' := []) hl [] rfl)
    · replace h := ifp (b2i_1 c4) h
      refine lv_aload_n hx hb dX10_traceOf_20 rfl (lv_at hl 0 rfl) ?_
      refine lv_iload_n hx hb dX10_traceOf_21 rfl (lv_at hl 1 rfl) ?_
      refine lv_iload_n hx hb dX10_traceOf_22 rfl (lv_at hl 2 rfl) ?_
      obtain ⟨r5, hc5, h⟩ := obd_inv h
      refine wcalli (S := Unit) (va_runV (As := [.int a1, .int a2]) (rest := []) ⟨hx, hb, hml, hown, hts⟩ (c_X10_traceBy l dC dI cI cT cS H.size ad  a1 a2 σ _ hc5) (cwV 2 hts (gWV (List.mem_of_getElem? (i := 8) rfl) (List.mem_of_getElem? (i := 9) rfl) (List.mem_of_getElem? (i := 10) rfl) (List.mem_of_getElem? (i := 4) rfl) ic_X10_traceOf_c_X10_traceBy gd_c_X10_traceBy) rfl rfl rfl (by decide +kernel) ⟨(Nat.le_of_ble_eq_true rfl), (Nat.le_of_ble_eq_true rfl)⟩) (wpV (q := (RX10, TX10, 46)) hP hK hD oX10 rfl) rfl rfl hl.1 rfl (lv_room (Nat.le_of_ble_eq_true rfl)) dX10_traceOf_23 ⟨(Nat.le_of_ble_eq_true rfl), (Nat.le_of_ble_eq_true rfl)⟩) hP hD hS hA (fun rr6 _ H locs hr6 hP hD hS => ?_)
      refine lv_nm (y := r5) hr6 ?_
      refine lv_goto (tgt := 31) hx hb dX10_traceOf_26 (by decide) ?_
      exact J31 r5 H locs ls h hP hD hS (lv_sub (l' := []) hl [] rfl)
def zf_X10_trace (a1 : Int32) (a2 : Int32) (σ : Sg) : Option (Int32 × Sg) := obd (zf_X10_runs (σ 0 10) σ) (fun σ1 => obd (zf_X10_traceOf a1 a2 σ1) (fun r3 => some (r3, σ1)))
def oc_X10_trace : List Cond := [.fieldLink RX10 83 "TraceTreesModel" "hot" "I", .methodLink RX10 344 yX10_runs, .instanceMethod yX10_runs, .selects RX10 yX10_runs yX10_runs, .initialized RX10, .methodLink RX10 364 yX10_traceOf, .instanceMethod yX10_traceOf, .selects RX10 yX10_traceOf yX10_traceOf]
def vc_X10_trace : List Cond := .code yX10_trace cX10_trace 3 (some .int) :: (oc_X10_trace ++ (wsX100 ++ (vc_X10_runs ++ (vc_X10_traceOf))))
theorem iw_X10_trace_X10 : ∀ w ∈ wsX100, w ∈ vc_X10_trace := fun _ h => List.mem_cons_of_mem _ (List.mem_append_right _ (List.mem_append_left _ h))
theorem ic_X10_trace_c_X10_runs : ∀ w ∈ vc_X10_runs, w ∈ vc_X10_trace := fun _ h => List.mem_cons_of_mem _ (List.mem_append_right _ (List.mem_append_right _ (List.mem_append_left _ h)))
theorem ic_X10_trace_c_X10_traceOf : ∀ w ∈ vc_X10_traceOf, w ∈ vc_X10_trace := fun _ h => List.mem_cons_of_mem _ (List.mem_append_right _ (List.mem_append_right _ (List.mem_append_right _ (h))))
theorem gd_c_X10_trace : (vc_X10_trace).all goodWord = true := gall_cons rfl (gall_app (by decide +kernel) (gall_app gw_X10 (gall_app gd_c_X10_runs gd_c_X10_traceOf)))
set_option maxHeartbeats 4000000 in
set_option maxRecDepth 100000 in
theorem c_X10_trace (l : Launch) (dC : Nat → ClassId) (dI : Nat → Nat → Nat) (cI cT cS : ClassId) (sz : Nat) (ad : Nat → Nat) (a1 : Int32) (a2 : Int32) (σ : Sg) (o : Int32 × Sg) (h : zf_X10_trace a1 a2 σ = some o) : gCI (S := Unit) l yX10_trace vc_X10_trace { frames := 9, cells := 0, slots := 0, locals := 226 } (dC, dI) (gTY cI cT cS) sz [.ref (ad 0), .int a1, .int a2] (Wd 24 (cfR ad cI) σ) (fun (r : Int32) (_ : Unit) => r = o.1) (fun (_ : Unit) => (Wd 24 (cfR ad cI) o.2)) 0 0 := by
  refine Met.ofW (cc := cX10_trace) (maxL := 3) (ret := (some .int)) (by decide) rfl ?_
  intro p e s m args below meth c s₁ B hml hv
  obtain ⟨rfl, hsz, hP, hK, hD0⟩ := hv
  have hx := B.exec
  have hb := B.bytes
  have hr := B.returns
  have hts := atoms_spec (ws := vc_X10_trace) B.pre
  have hown : s.vm.findClass RX10 = some m.cls := findClass_of_methodNamed B.named
  have hlocks := B.notSynchronized
  subst hsz
  have hD := hD0.self (sz := s.heap.size)
  generalize hAe : va_A (Wd 24 (cfR ad cI) σ) s.heap.size = A at hD ⊢
  have hA : ∀ q : Nat, s.heap.size ≤ q → A q := fun q h => by rw [← hAe]; exact Or.inr h
  clear hAe hD0
  refine gstart (fun H locs hHe hLe => ?_)
  have hS : va_S A s.heap H locs := by rw [← hHe, ← hLe]; exact va_S.rf
  replace hP : va_P (dC, dI) vwCl (Wd 24 (cfR ad cI) σ) H := by rw [← hHe]; exact hP
  clear hHe hLe
  have hl := lv_entry ([.ref (ad 0), .int a1, .int a2]) (n := 3) (Nat.le_of_ble_eq_true rfl)
  rw [lg_entry_eq]
  generalize (lg_sl ([.ref (ad 0), .int a1, .int a2]) ++ List.replicate (3 - (lg_sl ([.ref (ad 0), .int a1, .int a2])).length) Slot.unset).toArray = ls at hl ⊢
  replace hl : lv_has ls 3 [(0, .ref (ad 0)), (1, .int a1), (2, .int a2)] := hl
  unfold zf_X10_trace at h
  refine lv_aload_n hx hb dX10_trace_0 rfl (lv_at hl 0 rfl) ?_
  refine lv_aload_n hx hb dX10_trace_1 rfl (lv_at hl 0 rfl) ?_
  refine gf_X10_10 hx hb hts iw_X10_trace_X10 hown hK hP (hts (.fieldLink RX10 83 "TraceTreesModel" "hot" "I") (List.mem_of_getElem? (i := 1) rfl)) dX10_trace_2 ?_
  obtain ⟨σ1, hc1, h⟩ := obd_inv h
  refine wcallv (S := Unit) (va_runV (As := [.int (σ 0 10)]) (rest := []) ⟨hx, hb, hml, hown, hts⟩ (c_X10_runs l dC dI cI cT cS H.size ad  (σ 0 10) σ _ hc1) (cwV 1 hts (gWV (List.mem_of_getElem? (i := 2) rfl) (List.mem_of_getElem? (i := 3) rfl) (List.mem_of_getElem? (i := 4) rfl) (List.mem_of_getElem? (i := 5) rfl) ic_X10_trace_c_X10_runs gd_c_X10_runs) rfl rfl rfl (by decide +kernel) ⟨(Nat.le_of_ble_eq_true rfl), (Nat.le_of_ble_eq_true rfl)⟩) (wpV (q := (RX10, TX10, 46)) hP hK hD oX10 rfl) rfl rfl hl.1 rfl (lv_room (Nat.le_of_ble_eq_true rfl)) dX10_trace_5 ⟨(Nat.le_of_ble_eq_true rfl), (Nat.le_of_ble_eq_true rfl)⟩) hP hD hS hA (fun _ H locs hr2 hP hD hS => ?_)
  replace hP : va_P (dC, dI) vwCl (Wd 24 (cfR ad cI) σ1) H := hP
  replace hD : va_D A (Wd 24 (cfR ad cI) σ1) := hD
  refine lv_aload_n hx hb dX10_trace_8 rfl (lv_at hl 0 rfl) ?_
  refine lv_iload_n hx hb dX10_trace_9 rfl (lv_at hl 1 rfl) ?_
  refine lv_iload_n hx hb dX10_trace_10 rfl (lv_at hl 2 rfl) ?_
  obtain ⟨r3, hc3, h⟩ := obd_inv h
  refine wcalli (S := Unit) (va_runV (As := [.int a1, .int a2]) (rest := []) ⟨hx, hb, hml, hown, hts⟩ (c_X10_traceOf l dC dI cI cT cS H.size ad  a1 a2 σ1 _ hc3) (cwV 2 hts (gWV (List.mem_of_getElem? (i := 6) rfl) (List.mem_of_getElem? (i := 7) rfl) (List.mem_of_getElem? (i := 8) rfl) (List.mem_of_getElem? (i := 5) rfl) ic_X10_trace_c_X10_traceOf gd_c_X10_traceOf) rfl rfl rfl (by decide +kernel) ⟨(Nat.le_of_ble_eq_true rfl), (Nat.le_of_ble_eq_true rfl)⟩) (wpV (q := (RX10, TX10, 46)) hP hK hD oX10 rfl) rfl rfl hl.1 rfl (lv_room (Nat.le_of_ble_eq_true rfl)) dX10_trace_11 ⟨(Nat.le_of_ble_eq_true rfl), (Nat.le_of_ble_eq_true rfl)⟩) hP hD hS hA (fun rr4 _ H locs hr4 hP hD hS => ?_)
  refine lv_nm (y := r3) hr4 ?_
  have h9 := Option.some.inj h
  exact wreti hx hb hr hlocks hP hD hS (by show _ = _; rw [← h9]; first | done | rfl) (by rw [← h9]) dX10_trace_14
def zf_X10_entryBy (a1 : Int32) (a2 : Int32) (σ : Sg) : Option (Int32) := (if a2 = 0 then bd a1 144 (some (σ 17 a1.toNatClampNeg)) else (if a2 = 1 then bd a1 144 (some (σ 18 a1.toNatClampNeg)) else (if a2 = 2 then bd a1 144 (some (σ 19 a1.toNatClampNeg)) else (if a2 = 3 then bd a1 144 (some (σ 20 a1.toNatClampNeg)) else (if a2 = 4 then bd a1 144 (some (σ 21 a1.toNatClampNeg)) else bd a1 144 (some (σ 22 a1.toNatClampNeg)))))))
def oc_X10_entryBy : List Cond := [.fieldLink RX10 58 "TraceTreesModel" "at" "[I", .fieldLink RX10 61 "TraceTreesModel" "kindY" "[I", .fieldLink RX10 64 "TraceTreesModel" "kindZ" "[I", .fieldLink RX10 67 "TraceTreesModel" "way" "[I", .fieldLink RX10 70 "TraceTreesModel" "hits" "[I", .fieldLink RX10 73 "TraceTreesModel" "branch" "[I"]
def vc_X10_entryBy : List Cond := .code yX10_entryBy cX10_entryBy 3 (some .int) :: (oc_X10_entryBy ++ (wsX100))
theorem iw_X10_entryBy_X10 : ∀ w ∈ wsX100, w ∈ vc_X10_entryBy := fun _ h => List.mem_cons_of_mem _ (List.mem_append_right _ (h))
theorem gd_c_X10_entryBy : (vc_X10_entryBy).all goodWord = true := gall_cons rfl (gall_app (by decide +kernel) gw_X10)
set_option maxHeartbeats 4000000 in
set_option maxRecDepth 100000 in
theorem c_X10_entryBy (l : Launch) (dC : Nat → ClassId) (dI : Nat → Nat → Nat) (cI cT cS : ClassId) (sz : Nat) (ad : Nat → Nat) (a1 : Int32) (a2 : Int32) (σ : Sg) (o : Int32) (h : zf_X10_entryBy a1 a2 σ = some o) : gCI (S := Unit) l yX10_entryBy vc_X10_entryBy { frames := 0, cells := 0, slots := 0, locals := 0 } (dC, dI) (gTY cI cT cS) sz [.ref (ad 0), .int a1, .int a2] (Wd 24 (cfR ad cI) σ) (fun (r : Int32) (_ : Unit) => r = o) (fun (_ : Unit) => (Wd 24 (cfR ad cI) σ)) 0 0 := by
  refine Met.ofW (cc := cX10_entryBy) (maxL := 3) (ret := (some .int)) (by decide) rfl ?_
  intro p e s m args below meth c s₁ B hml hv
  obtain ⟨rfl, hsz, hP, hK, hD0⟩ := hv
  have hx := B.exec
  have hb := B.bytes
  have hr := B.returns
  have hts := atoms_spec (ws := vc_X10_entryBy) B.pre
  have hown : s.vm.findClass RX10 = some m.cls := findClass_of_methodNamed B.named
  have hlocks := B.notSynchronized
  subst hsz
  have hD := hD0.self (sz := s.heap.size)
  generalize hAe : va_A (Wd 24 (cfR ad cI) σ) s.heap.size = A at hD ⊢
  have hA : ∀ q : Nat, s.heap.size ≤ q → A q := fun q h => by rw [← hAe]; exact Or.inr h
  clear hAe hD0
  refine gstart (fun H locs hHe hLe => ?_)
  have hS : va_S A s.heap H locs := by rw [← hHe, ← hLe]; exact va_S.rf
  replace hP : va_P (dC, dI) vwCl (Wd 24 (cfR ad cI) σ) H := by rw [← hHe]; exact hP
  clear hHe hLe
  have hl := lv_entry ([.ref (ad 0), .int a1, .int a2]) (n := 3) (Nat.le_of_ble_eq_true rfl)
  rw [lg_entry_eq]
  generalize (lg_sl ([.ref (ad 0), .int a1, .int a2]) ++ List.replicate (3 - (lg_sl ([.ref (ad 0), .int a1, .int a2])).length) Slot.unset).toArray = ls at hl ⊢
  replace hl : lv_has ls 3 [(0, .ref (ad 0)), (1, .int a1), (2, .int a2)] := hl
  unfold zf_X10_entryBy at h
  refine lv_iload_n hx hb dX10_entryBy_0 rfl (lv_at hl 2 rfl) ?_
  by_cases c1 : a2 = 0
  · replace h := ifp c1 h
    refine lv_tableIn (off := 35) (tgt := 36) hx hb dX10_entryBy_1 (by rw [c1]; decide) (by rw [c1]; decide) (by rw [c1]; decide) (by decide) ?_
    refine lv_aload_n hx hb dX10_entryBy_36 rfl (lv_at hl 0 rfl) ?_
    refine gf_X10_31 hx hb hts iw_X10_entryBy_X10 hown hK hP (hts (.fieldLink RX10 58 "TraceTreesModel" "at" "[I") (List.mem_of_getElem? (i := 1) rfl)) dX10_entryBy_37 ?_
    refine lv_iload_n hx hb dX10_entryBy_40 rfl (lv_at hl 1 rfl) ?_
    obtain ⟨hi2, h⟩ := bd_inv h
    refine wald hx hb hK hP aR17 hi2 dX10_entryBy_41 ?_
    have h9 := Option.some.inj h
    exact wreti hx hb hr hlocks hP hD hS (by show _ = _; rw [← h9]; first | done | rfl) rfl dX10_entryBy_42
  replace h := ifn c1 h
  by_cases c3 : a2 = 1
  · replace h := ifp c3 h
    refine lv_tableIn (off := 42) (tgt := 43) hx hb dX10_entryBy_1 (by rw [c3]; decide) (by rw [c3]; decide) (by rw [c3]; decide) (by decide) ?_
    refine lv_aload_n hx hb dX10_entryBy_43 rfl (lv_at hl 0 rfl) ?_
    refine gf_X10_32 hx hb hts iw_X10_entryBy_X10 hown hK hP (hts (.fieldLink RX10 61 "TraceTreesModel" "kindY" "[I") (List.mem_of_getElem? (i := 2) rfl)) dX10_entryBy_44 ?_
    refine lv_iload_n hx hb dX10_entryBy_47 rfl (lv_at hl 1 rfl) ?_
    obtain ⟨hi4, h⟩ := bd_inv h
    refine wald hx hb hK hP aR18 hi4 dX10_entryBy_48 ?_
    have h9 := Option.some.inj h
    exact wreti hx hb hr hlocks hP hD hS (by show _ = _; rw [← h9]; first | done | rfl) rfl dX10_entryBy_49
  replace h := ifn c3 h
  by_cases c5 : a2 = 2
  · replace h := ifp c5 h
    refine lv_tableIn (off := 49) (tgt := 50) hx hb dX10_entryBy_1 (by rw [c5]; decide) (by rw [c5]; decide) (by rw [c5]; decide) (by decide) ?_
    refine lv_aload_n hx hb dX10_entryBy_50 rfl (lv_at hl 0 rfl) ?_
    refine gf_X10_33 hx hb hts iw_X10_entryBy_X10 hown hK hP (hts (.fieldLink RX10 64 "TraceTreesModel" "kindZ" "[I") (List.mem_of_getElem? (i := 3) rfl)) dX10_entryBy_51 ?_
    refine lv_iload_n hx hb dX10_entryBy_54 rfl (lv_at hl 1 rfl) ?_
    obtain ⟨hi6, h⟩ := bd_inv h
    refine wald hx hb hK hP aR19 hi6 dX10_entryBy_55 ?_
    have h9 := Option.some.inj h
    exact wreti hx hb hr hlocks hP hD hS (by show _ = _; rw [← h9]; first | done | rfl) rfl dX10_entryBy_56
  replace h := ifn c5 h
  by_cases c7 : a2 = 3
  · replace h := ifp c7 h
    refine lv_tableIn (off := 56) (tgt := 57) hx hb dX10_entryBy_1 (by rw [c7]; decide) (by rw [c7]; decide) (by rw [c7]; decide) (by decide) ?_
    refine lv_aload_n hx hb dX10_entryBy_57 rfl (lv_at hl 0 rfl) ?_
    refine gf_X10_34 hx hb hts iw_X10_entryBy_X10 hown hK hP (hts (.fieldLink RX10 67 "TraceTreesModel" "way" "[I") (List.mem_of_getElem? (i := 4) rfl)) dX10_entryBy_58 ?_
    refine lv_iload_n hx hb dX10_entryBy_61 rfl (lv_at hl 1 rfl) ?_
    obtain ⟨hi8, h⟩ := bd_inv h
    refine wald hx hb hK hP aR20 hi8 dX10_entryBy_62 ?_
    have h9 := Option.some.inj h
    exact wreti hx hb hr hlocks hP hD hS (by show _ = _; rw [← h9]; first | done | rfl) rfl dX10_entryBy_63
  replace h := ifn c7 h
  by_cases c9 : a2 = 4
  · replace h := ifp c9 h
    refine lv_tableIn (off := 63) (tgt := 64) hx hb dX10_entryBy_1 (by rw [c9]; decide) (by rw [c9]; decide) (by rw [c9]; decide) (by decide) ?_
    refine lv_aload_n hx hb dX10_entryBy_64 rfl (lv_at hl 0 rfl) ?_
    refine gf_X10_35 hx hb hts iw_X10_entryBy_X10 hown hK hP (hts (.fieldLink RX10 70 "TraceTreesModel" "hits" "[I") (List.mem_of_getElem? (i := 5) rfl)) dX10_entryBy_65 ?_
    refine lv_iload_n hx hb dX10_entryBy_68 rfl (lv_at hl 1 rfl) ?_
    obtain ⟨hi10, h⟩ := bd_inv h
    refine wald hx hb hK hP aR21 hi10 dX10_entryBy_69 ?_
    have h9 := Option.some.inj h
    exact wreti hx hb hr hlocks hP hD hS (by show _ = _; rw [← h9]; first | done | rfl) rfl dX10_entryBy_70
  replace h := ifn c9 h
  refine lv_tableOut (tgt := 71) hx hb dX10_entryBy_1 (by have := lv_neT c1 (a := 0) (by decide); have := lv_neT c3 (a := 1) (by decide); have := lv_neT c5 (a := 2) (by decide); have := lv_neT c7 (a := 3) (by decide); have := lv_neT c9 (a := 4) (by decide); omega) (by decide) ?_
  refine lv_aload_n hx hb dX10_entryBy_71 rfl (lv_at hl 0 rfl) ?_
  refine gf_X10_36 hx hb hts iw_X10_entryBy_X10 hown hK hP (hts (.fieldLink RX10 73 "TraceTreesModel" "branch" "[I") (List.mem_of_getElem? (i := 6) rfl)) dX10_entryBy_72 ?_
  refine lv_iload_n hx hb dX10_entryBy_75 rfl (lv_at hl 1 rfl) ?_
  obtain ⟨hi11, h⟩ := bd_inv h
  refine wald hx hb hK hP aR22 hi11 dX10_entryBy_76 ?_
  have h9 := Option.some.inj h
  exact wreti hx hb hr hlocks hP hD hS (by show _ = _; rw [← h9]; first | done | rfl) rfl dX10_entryBy_77
def zb_X10_isEntry_31 (w0_31 : Bool) : Option (Bool) := some w0_31
def zb_X10_isEntry_30  : Option (Bool) := (zb_X10_isEntry_31 false)
def zf_X10_isEntry (a1 : Int32) (a2 : Int32) (σ : Sg) : Option (Bool) := (if (zf_X10_isTrace a1 σ) = true then bd a1 8 ((if (zf_X10_in (a2.toInt64) (0 : Int64) (((σ 15 a1.toNatClampNeg) - (1 : Int32)).toInt64)) = true then (zb_X10_isEntry_31 true) else zb_X10_isEntry_30)) else zb_X10_isEntry_30)
def oc_X10_isEntry : List Cond := [.methodLink RX10 356 yX10_isTrace, .instanceMethod yX10_isTrace, .selects RX10 yX10_isTrace yX10_isTrace, .initialized RX10, .fieldLink RX10 52 "TraceTreesModel" "length" "[I", .methodLink RX10 86 yX10_in, .static yX10_in]
def vc_X10_isEntry : List Cond := .code yX10_isEntry cX10_isEntry 3 (some .boolean) :: (oc_X10_isEntry ++ (wsX100 ++ (vc_X10_isTrace ++ (vc_X10_in))))
theorem iw_X10_isEntry_X10 : ∀ w ∈ wsX100, w ∈ vc_X10_isEntry := fun _ h => List.mem_cons_of_mem _ (List.mem_append_right _ (List.mem_append_left _ h))
theorem ic_X10_isEntry_c_X10_isTrace : ∀ w ∈ vc_X10_isTrace, w ∈ vc_X10_isEntry := fun _ h => List.mem_cons_of_mem _ (List.mem_append_right _ (List.mem_append_right _ (List.mem_append_left _ h)))
theorem ic_X10_isEntry_c_X10_in : ∀ w ∈ vc_X10_in, w ∈ vc_X10_isEntry := fun _ h => List.mem_cons_of_mem _ (List.mem_append_right _ (List.mem_append_right _ (List.mem_append_right _ (h))))
theorem gd_c_X10_isEntry : (vc_X10_isEntry).all goodWord = true := gall_cons rfl (gall_app (by decide +kernel) (gall_app gw_X10 (gall_app gd_c_X10_isTrace gd_c_X10_in)))
set_option maxHeartbeats 4000000 in
set_option maxRecDepth 100000 in
theorem c_X10_isEntry (l : Launch) (dC : Nat → ClassId) (dI : Nat → Nat → Nat) (cI cT cS : ClassId) (sz : Nat) (ad : Nat → Nat) (a1 : Int32) (a2 : Int32) (σ : Sg) (o : Bool) (h : zf_X10_isEntry a1 a2 σ = some o) : gCI (S := Unit) l yX10_isEntry vc_X10_isEntry { frames := 2, cells := 0, slots := 0, locals := 46 } (dC, dI) (gTY cI cT cS) sz [.ref (ad 0), .int a1, .int a2] (Wd 24 (cfR ad cI) σ) (fun (r : Int32) (_ : Unit) => r = b2i o) (fun (_ : Unit) => (Wd 24 (cfR ad cI) σ)) 0 0 := by
  refine Met.ofW (cc := cX10_isEntry) (maxL := 3) (ret := (some .boolean)) (by decide) rfl ?_
  intro p e s m args below meth c s₁ B hml hv
  obtain ⟨rfl, hsz, hP, hK, hD0⟩ := hv
  have hx := B.exec
  have hb := B.bytes
  have hr := B.returns
  have hts := atoms_spec (ws := vc_X10_isEntry) B.pre
  have hown : s.vm.findClass RX10 = some m.cls := findClass_of_methodNamed B.named
  have hlocks := B.notSynchronized
  subst hsz
  have hD := hD0.self (sz := s.heap.size)
  generalize hAe : va_A (Wd 24 (cfR ad cI) σ) s.heap.size = A at hD ⊢
  have hA : ∀ q : Nat, s.heap.size ≤ q → A q := fun q h => by rw [← hAe]; exact Or.inr h
  clear hAe hD0
  refine gstart (fun H locs hHe hLe => ?_)
  have hS : va_S A s.heap H locs := by rw [← hHe, ← hLe]; exact va_S.rf
  replace hP : va_P (dC, dI) vwCl (Wd 24 (cfR ad cI) σ) H := by rw [← hHe]; exact hP
  clear hHe hLe
  have hl := lv_entry ([.ref (ad 0), .int a1, .int a2]) (n := 3) (Nat.le_of_ble_eq_true rfl)
  rw [lg_entry_eq]
  generalize (lg_sl ([.ref (ad 0), .int a1, .int a2]) ++ List.replicate (3 - (lg_sl ([.ref (ad 0), .int a1, .int a2])).length) Slot.unset).toArray = ls at hl ⊢
  replace hl : lv_has ls 3 [(0, .ref (ad 0)), (1, .int a1), (2, .int a2)] := hl
  unfold zf_X10_isEntry at h
  have J31 : ∀ (w0_31 : Bool) (H : Heap) (locs : List Loc) (ls : Array Slot), zb_X10_isEntry_31 w0_31 = some o → va_P (dC, dI) vwCl (Wd 24 (cfR ad cI) σ) H → va_D A (Wd 24 (cfR ad cI) σ) → va_S A s.heap H locs → lv_has ls 3 [] → W p l e (headSpec vc_X10_isEntry { frames := 2, cells := 0, slots := 0, locals := 46 }).room s m (List.toArray (α := Value) [.ref (ad 0), .int a1, .int a2]) below meth c H locs 0 0 (MQ below (va_Qi (fun (r : Int32) (_ : Unit) => r = b2i o) (gB (dC, dI) A (fun (_ : Unit) => (Wd 24 (cfR ad cI) σ))) A) (List.toArray (α := Value) [.ref (ad 0), .int a1, .int a2]) s 0 0 A) (F0 m 31 ls [.int (b2i w0_31)]) := by
    intro w0_31 H locs ls h hP hD hS hl
    unfold zb_X10_isEntry_31 at h
    have h9 := Option.some.inj h
    exact wretz hx hb hr hlocks (b2i_or _) hP hD hS (by show _ = _; rw [← h9]; first | done | rfl) rfl dX10_isEntry_31
  have J30 : ∀  (H : Heap) (locs : List Loc) (ls : Array Slot), zb_X10_isEntry_30 = some o → va_P (dC, dI) vwCl (Wd 24 (cfR ad cI) σ) H → va_D A (Wd 24 (cfR ad cI) σ) → va_S A s.heap H locs → lv_has ls 3 [] → W p l e (headSpec vc_X10_isEntry { frames := 2, cells := 0, slots := 0, locals := 46 }).room s m (List.toArray (α := Value) [.ref (ad 0), .int a1, .int a2]) below meth c H locs 0 0 (MQ below (va_Qi (fun (r : Int32) (_ : Unit) => r = b2i o) (gB (dC, dI) A (fun (_ : Unit) => (Wd 24 (cfR ad cI) σ))) A) (List.toArray (α := Value) [.ref (ad 0), .int a1, .int a2]) s 0 0 A) (F0 m 30 ls []) := by
    intro  H locs ls h hP hD hS hl
    unfold zb_X10_isEntry_30 at h
    refine lv_iconst (v := 0) hx hb dX10_isEntry_30 (by decide) ?_
    exact J31 false H locs ls h hP hD hS (lv_sub (l' := []) hl [] rfl)
  refine lv_aload_n hx hb dX10_isEntry_0 rfl (lv_at hl 0 rfl) ?_
  refine lv_iload_n hx hb dX10_isEntry_1 rfl (lv_at hl 1 rfl) ?_
  refine wcalli (S := Unit) (va_runV (As := [.int a1]) (rest := []) ⟨hx, hb, hml, hown, hts⟩ (c_X10_isTrace l dC dI cI cT cS H.size ad  a1 σ _ rfl) (cwV 1 hts (gWV (List.mem_of_getElem? (i := 1) rfl) (List.mem_of_getElem? (i := 2) rfl) (List.mem_of_getElem? (i := 3) rfl) (List.mem_of_getElem? (i := 4) rfl) ic_X10_isEntry_c_X10_isTrace gd_c_X10_isTrace) rfl rfl rfl (by decide +kernel) ⟨(Nat.le_of_ble_eq_true rfl), (Nat.le_of_ble_eq_true rfl)⟩) (wpV (q := (RX10, TX10, 46)) hP hK hD oX10 rfl) rfl rfl hl.1 rfl (lv_room (Nat.le_of_ble_eq_true rfl)) dX10_isEntry_2 ⟨(Nat.le_of_ble_eq_true rfl), (Nat.le_of_ble_eq_true rfl)⟩) hP hD hS hA (fun rr1 _ H locs hr1 hP hD hS => ?_)
  refine lv_nm (y := b2i (zf_X10_isTrace a1 σ)) hr1 ?_
  refine lv_if_eq (tgt := 30) hx hb dX10_isEntry_5 (by decide) (fun c2 => ?_) (fun c2 => ?_)
  · replace h := ifn (b2i_0 c2) h
    exact J30  H locs ls h hP hD hS (lv_sub (l' := []) hl [] rfl)
  · replace h := ifp (b2i_1 c2) h
    refine lv_iload_n hx hb dX10_isEntry_8 rfl (lv_at hl 2 rfl) ?_
    refine lv_i2l hx hb dX10_isEntry_9 rfl ?_
    refine lv_lconst (v := 0) hx hb dX10_isEntry_10 (by decide) ?_
    refine lv_aload_n hx hb dX10_isEntry_11 rfl (lv_at hl 0 rfl) ?_
    refine gf_X10_29 hx hb hts iw_X10_isEntry_X10 hown hK hP (hts (.fieldLink RX10 52 "TraceTreesModel" "length" "[I") (List.mem_of_getElem? (i := 5) rfl)) dX10_isEntry_12 ?_
    refine lv_iload_n hx hb dX10_isEntry_15 rfl (lv_at hl 1 rfl) ?_
    obtain ⟨hi3, h⟩ := bd_inv h
    refine wald hx hb hK hP aR15 hi3 dX10_isEntry_16 ?_
    refine lv_iconst (v := 1) hx hb dX10_isEntry_17 (by decide) ?_
    refine lv_isub hx hb dX10_isEntry_18 ?_
    refine lv_i2l hx hb dX10_isEntry_19 rfl ?_
    refine wcalli (S := Unit) (va_runS (As := [.long (a2.toInt64), .long (0 : Int64), .long (((σ 15 a1.toNatClampNeg) - (1 : Int32)).toInt64)]) (rest := []) ⟨hx, hb, hml, hown, hts⟩ (c_X10_in l dC dI cI cT cS H.size (Wd 24 (cfR ad cI) σ)  (a2.toInt64) (0 : Int64) (((σ 15 a1.toNatClampNeg) - (1 : Int32)).toInt64) _ rfl) (va_cwS 3 hts (gWS (List.mem_of_getElem? (i := 6) rfl) (List.mem_of_getElem? (i := 7) rfl) (List.mem_of_getElem? (i := 4) rfl) ic_X10_isEntry_c_X10_in gd_c_X10_in) rfl rfl rfl (by decide +kernel) ⟨(Nat.le_of_ble_eq_true rfl), (Nat.le_of_ble_eq_true rfl)⟩) (gpS hP hK hD) rfl rfl hl.1 rfl (lv_room (Nat.le_of_ble_eq_true rfl)) dX10_isEntry_20 ⟨(Nat.le_of_ble_eq_true rfl), (Nat.le_of_ble_eq_true rfl)⟩) hP hD hS hA (fun rr4 _ H locs hr4 hP hD hS => ?_)
    refine lv_nm (y := b2i (zf_X10_in (a2.toInt64) (0 : Int64) (((σ 15 a1.toNatClampNeg) - (1 : Int32)).toInt64))) hr4 ?_
    refine lv_if_eq (tgt := 30) hx hb dX10_isEntry_23 (by decide) (fun c5 => ?_) (fun c5 => ?_)
    · replace h := ifn (b2i_0 c5) h
      exact J30  H locs ls h hP hD hS (lv_sub (l' := []) hl [] rfl)
    · replace h := ifp (b2i_1 c5) h
      refine lv_iconst (v := 1) hx hb dX10_isEntry_26 (by decide) ?_
      refine lv_goto (tgt := 31) hx hb dX10_isEntry_27 (by decide) ?_
      exact J31 true H locs ls h hP hD hS (lv_sub (l' := []) hl [] rfl)
def zb_X10_entryOf_37 (w0_37 : Int32) : Option (Int32) := some w0_37
def zb_X10_entryOf_35  : Option (Int32) := (zb_X10_entryOf_37 (-2 : Int32))
def zf_X10_entryOf (a1 : Int32) (a2 : Int32) (a3 : Int32) (σ : Sg) : Option (Int32) := obd (zf_X10_isEntry a1 a2 σ) (fun r1 => (if r1 = true then (if (zf_X10_in (a3.toInt64) (0 : Int64) (5 : Int64)) = true then obd (zf_X10_entryBy (((16 : Int32) * a1) + a2) a3 σ) (fun r6 => (zb_X10_entryOf_37 r6)) else zb_X10_entryOf_35) else zb_X10_entryOf_35))
def oc_X10_entryOf : List Cond := [.methodLink RX10 367 yX10_isEntry, .instanceMethod yX10_isEntry, .selects RX10 yX10_isEntry yX10_isEntry, .initialized RX10, .constantLong RX10 239 (5), .methodLink RX10 86 yX10_in, .static yX10_in, .methodLink RX10 370 yX10_entryBy, .instanceMethod yX10_entryBy, .selects RX10 yX10_entryBy yX10_entryBy]
def vc_X10_entryOf : List Cond := .code yX10_entryOf cX10_entryOf 4 (some .int) :: (oc_X10_entryOf ++ (vc_X10_isEntry ++ (vc_X10_in ++ (vc_X10_entryBy))))
theorem ic_X10_entryOf_c_X10_isEntry : ∀ w ∈ vc_X10_isEntry, w ∈ vc_X10_entryOf := fun _ h => List.mem_cons_of_mem _ (List.mem_append_right _ (List.mem_append_left _ h))
theorem ic_X10_entryOf_c_X10_in : ∀ w ∈ vc_X10_in, w ∈ vc_X10_entryOf := fun _ h => List.mem_cons_of_mem _ (List.mem_append_right _ (List.mem_append_right _ (List.mem_append_left _ h)))
theorem ic_X10_entryOf_c_X10_entryBy : ∀ w ∈ vc_X10_entryBy, w ∈ vc_X10_entryOf := fun _ h => List.mem_cons_of_mem _ (List.mem_append_right _ (List.mem_append_right _ (List.mem_append_right _ (h))))
theorem gd_c_X10_entryOf : (vc_X10_entryOf).all goodWord = true := gall_cons rfl (gall_app (by decide +kernel) (gall_app gd_c_X10_isEntry (gall_app gd_c_X10_in gd_c_X10_entryBy)))
set_option maxHeartbeats 4000000 in
set_option maxRecDepth 100000 in
theorem c_X10_entryOf (l : Launch) (dC : Nat → ClassId) (dI : Nat → Nat → Nat) (cI cT cS : ClassId) (sz : Nat) (ad : Nat → Nat) (a1 : Int32) (a2 : Int32) (a3 : Int32) (σ : Sg) (o : Int32) (h : zf_X10_entryOf a1 a2 a3 σ = some o) : gCI (S := Unit) l yX10_entryOf vc_X10_entryOf { frames := 3, cells := 0, slots := 0, locals := 68 } (dC, dI) (gTY cI cT cS) sz [.ref (ad 0), .int a1, .int a2, .int a3] (Wd 24 (cfR ad cI) σ) (fun (r : Int32) (_ : Unit) => r = o) (fun (_ : Unit) => (Wd 24 (cfR ad cI) σ)) 0 0 := by
  refine Met.ofW (cc := cX10_entryOf) (maxL := 4) (ret := (some .int)) (by decide) rfl ?_
  intro p e s m args below meth c s₁ B hml hv
  obtain ⟨rfl, hsz, hP, hK, hD0⟩ := hv
  have hx := B.exec
  have hb := B.bytes
  have hr := B.returns
  have hts := atoms_spec (ws := vc_X10_entryOf) B.pre
  have hown : s.vm.findClass RX10 = some m.cls := findClass_of_methodNamed B.named
  have hlocks := B.notSynchronized
  subst hsz
  have hD := hD0.self (sz := s.heap.size)
  generalize hAe : va_A (Wd 24 (cfR ad cI) σ) s.heap.size = A at hD ⊢
  have hA : ∀ q : Nat, s.heap.size ≤ q → A q := fun q h => by rw [← hAe]; exact Or.inr h
  clear hAe hD0
  refine gstart (fun H locs hHe hLe => ?_)
  have hS : va_S A s.heap H locs := by rw [← hHe, ← hLe]; exact va_S.rf
  replace hP : va_P (dC, dI) vwCl (Wd 24 (cfR ad cI) σ) H := by rw [← hHe]; exact hP
  clear hHe hLe
  have hl := lv_entry ([.ref (ad 0), .int a1, .int a2, .int a3]) (n := 4) (Nat.le_of_ble_eq_true rfl)
  rw [lg_entry_eq]
  generalize (lg_sl ([.ref (ad 0), .int a1, .int a2, .int a3]) ++ List.replicate (4 - (lg_sl ([.ref (ad 0), .int a1, .int a2, .int a3])).length) Slot.unset).toArray = ls at hl ⊢
  replace hl : lv_has ls 4 [(0, .ref (ad 0)), (1, .int a1), (2, .int a2), (3, .int a3)] := hl
  unfold zf_X10_entryOf at h
  have J37 : ∀ (w0_37 : Int32) (H : Heap) (locs : List Loc) (ls : Array Slot), zb_X10_entryOf_37 w0_37 = some o → va_P (dC, dI) vwCl (Wd 24 (cfR ad cI) σ) H → va_D A (Wd 24 (cfR ad cI) σ) → va_S A s.heap H locs → lv_has ls 4 [] → W p l e (headSpec vc_X10_entryOf { frames := 3, cells := 0, slots := 0, locals := 68 }).room s m (List.toArray (α := Value) [.ref (ad 0), .int a1, .int a2, .int a3]) below meth c H locs 0 0 (MQ below (va_Qi (fun (r : Int32) (_ : Unit) => r = o) (gB (dC, dI) A (fun (_ : Unit) => (Wd 24 (cfR ad cI) σ))) A) (List.toArray (α := Value) [.ref (ad 0), .int a1, .int a2, .int a3]) s 0 0 A) (F0 m 37 ls [.int w0_37]) := by
    intro w0_37 H locs ls h hP hD hS hl
    unfold zb_X10_entryOf_37 at h
    have h9 := Option.some.inj h
    exact wreti hx hb hr hlocks hP hD hS (by show _ = _; rw [← h9]; first | done | rfl) rfl dX10_entryOf_37
  have J35 : ∀  (H : Heap) (locs : List Loc) (ls : Array Slot), zb_X10_entryOf_35 = some o → va_P (dC, dI) vwCl (Wd 24 (cfR ad cI) σ) H → va_D A (Wd 24 (cfR ad cI) σ) → va_S A s.heap H locs → lv_has ls 4 [] → W p l e (headSpec vc_X10_entryOf { frames := 3, cells := 0, slots := 0, locals := 68 }).room s m (List.toArray (α := Value) [.ref (ad 0), .int a1, .int a2, .int a3]) below meth c H locs 0 0 (MQ below (va_Qi (fun (r : Int32) (_ : Unit) => r = o) (gB (dC, dI) A (fun (_ : Unit) => (Wd 24 (cfR ad cI) σ))) A) (List.toArray (α := Value) [.ref (ad 0), .int a1, .int a2, .int a3]) s 0 0 A) (F0 m 35 ls []) := by
    intro  H locs ls h hP hD hS hl
    unfold zb_X10_entryOf_35 at h
    refine lv_bipush (v := (-2)) hx hb dX10_entryOf_35 (by decide) ?_
    exact J37 (-2 : Int32) H locs ls h hP hD hS (lv_sub (l' := []) hl [] rfl)
  refine lv_aload_n hx hb dX10_entryOf_0 rfl (lv_at hl 0 rfl) ?_
  refine lv_iload_n hx hb dX10_entryOf_1 rfl (lv_at hl 1 rfl) ?_
  refine lv_iload_n hx hb dX10_entryOf_2 rfl (lv_at hl 2 rfl) ?_
  obtain ⟨r1, hc1, h⟩ := obd_inv h
  refine wcalli (S := Unit) (va_runV (As := [.int a1, .int a2]) (rest := []) ⟨hx, hb, hml, hown, hts⟩ (c_X10_isEntry l dC dI cI cT cS H.size ad  a1 a2 σ _ hc1) (cwV 2 hts (gWV (List.mem_of_getElem? (i := 1) rfl) (List.mem_of_getElem? (i := 2) rfl) (List.mem_of_getElem? (i := 3) rfl) (List.mem_of_getElem? (i := 4) rfl) ic_X10_entryOf_c_X10_isEntry gd_c_X10_isEntry) rfl rfl rfl (by decide +kernel) ⟨(Nat.le_of_ble_eq_true rfl), (Nat.le_of_ble_eq_true rfl)⟩) (wpV (q := (RX10, TX10, 46)) hP hK hD oX10 rfl) rfl rfl hl.1 rfl (lv_room (Nat.le_of_ble_eq_true rfl)) dX10_entryOf_3 ⟨(Nat.le_of_ble_eq_true rfl), (Nat.le_of_ble_eq_true rfl)⟩) hP hD hS hA (fun rr2 _ H locs hr2 hP hD hS => ?_)
  refine lv_nm (y := b2i r1) hr2 ?_
  refine lv_if_eq (tgt := 35) hx hb dX10_entryOf_6 (by decide) (fun c3 => ?_) (fun c3 => ?_)
  · replace h := ifn (b2i_0 c3) h
    exact J35  H locs ls h hP hD hS (lv_sub (l' := []) hl [] rfl)
  · replace h := ifp (b2i_1 c3) h
    refine lv_iload_n hx hb dX10_entryOf_9 rfl (lv_at hl 3 rfl) ?_
    refine lv_i2l hx hb dX10_entryOf_10 rfl ?_
    refine lv_lconst (v := 0) hx hb dX10_entryOf_11 (by decide) ?_
    refine lv_ldc2 (v := 5) hx hb hown (hts (.constantLong RX10 239 (5)) (List.mem_of_getElem? (i := 5) rfl)) dX10_entryOf_12 ?_
    refine wcalli (S := Unit) (va_runS (As := [.long (a3.toInt64), .long (0 : Int64), .long (5 : Int64)]) (rest := []) ⟨hx, hb, hml, hown, hts⟩ (c_X10_in l dC dI cI cT cS H.size (Wd 24 (cfR ad cI) σ)  (a3.toInt64) (0 : Int64) (5 : Int64) _ rfl) (va_cwS 3 hts (gWS (List.mem_of_getElem? (i := 6) rfl) (List.mem_of_getElem? (i := 7) rfl) (List.mem_of_getElem? (i := 4) rfl) ic_X10_entryOf_c_X10_in gd_c_X10_in) rfl rfl rfl (by decide +kernel) ⟨(Nat.le_of_ble_eq_true rfl), (Nat.le_of_ble_eq_true rfl)⟩) (gpS hP hK hD) rfl rfl hl.1 rfl (lv_room (Nat.le_of_ble_eq_true rfl)) dX10_entryOf_15 ⟨(Nat.le_of_ble_eq_true rfl), (Nat.le_of_ble_eq_true rfl)⟩) hP hD hS hA (fun rr4 _ H locs hr4 hP hD hS => ?_)
    refine lv_nm (y := b2i (zf_X10_in (a3.toInt64) (0 : Int64) (5 : Int64))) hr4 ?_
    refine lv_if_eq (tgt := 35) hx hb dX10_entryOf_18 (by decide) (fun c5 => ?_) (fun c5 => ?_)
    · replace h := ifn (b2i_0 c5) h
      exact J35  H locs ls h hP hD hS (lv_sub (l' := []) hl [] rfl)
    · replace h := ifp (b2i_1 c5) h
      refine lv_aload_n hx hb dX10_entryOf_21 rfl (lv_at hl 0 rfl) ?_
      refine lv_bipush (v := 16) hx hb dX10_entryOf_22 (by decide) ?_
      refine lv_iload_n hx hb dX10_entryOf_24 rfl (lv_at hl 1 rfl) ?_
      refine lv_imul hx hb dX10_entryOf_25 ?_
      refine lv_iload_n hx hb dX10_entryOf_26 rfl (lv_at hl 2 rfl) ?_
      refine lv_iadd hx hb dX10_entryOf_27 ?_
      refine lv_iload_n hx hb dX10_entryOf_28 rfl (lv_at hl 3 rfl) ?_
      obtain ⟨r6, hc6, h⟩ := obd_inv h
      refine wcalli (S := Unit) (va_runV (As := [.int (((16 : Int32) * a1) + a2), .int a3]) (rest := []) ⟨hx, hb, hml, hown, hts⟩ (c_X10_entryBy l dC dI cI cT cS H.size ad  (((16 : Int32) * a1) + a2) a3 σ _ hc6) (cwV 2 hts (gWV (List.mem_of_getElem? (i := 8) rfl) (List.mem_of_getElem? (i := 9) rfl) (List.mem_of_getElem? (i := 10) rfl) (List.mem_of_getElem? (i := 4) rfl) ic_X10_entryOf_c_X10_entryBy gd_c_X10_entryBy) rfl rfl rfl (by decide +kernel) ⟨(Nat.le_of_ble_eq_true rfl), (Nat.le_of_ble_eq_true rfl)⟩) (wpV (q := (RX10, TX10, 46)) hP hK hD oX10 rfl) rfl rfl hl.1 rfl (lv_room (Nat.le_of_ble_eq_true rfl)) dX10_entryOf_29 ⟨(Nat.le_of_ble_eq_true rfl), (Nat.le_of_ble_eq_true rfl)⟩) hP hD hS hA (fun rr7 _ H locs hr7 hP hD hS => ?_)
      refine lv_nm (y := r6) hr7 ?_
      refine lv_goto (tgt := 37) hx hb dX10_entryOf_32 (by decide) ?_
      exact J37 r6 H locs ls h hP hD hS (lv_sub (l' := []) hl [] rfl)
def zf_X10_entry (a1 : Int32) (a2 : Int32) (a3 : Int32) (σ : Sg) : Option (Int32 × Sg) := obd (zf_X10_runs (σ 0 10) σ) (fun σ1 => obd (zf_X10_entryOf a1 a2 a3 σ1) (fun r3 => some (r3, σ1)))
def oc_X10_entry : List Cond := [.fieldLink RX10 83 "TraceTreesModel" "hot" "I", .methodLink RX10 344 yX10_runs, .instanceMethod yX10_runs, .selects RX10 yX10_runs yX10_runs, .initialized RX10, .methodLink RX10 373 yX10_entryOf, .instanceMethod yX10_entryOf, .selects RX10 yX10_entryOf yX10_entryOf]
def vc_X10_entry : List Cond := .code yX10_entry cX10_entry 4 (some .int) :: (oc_X10_entry ++ (wsX100 ++ (vc_X10_runs ++ (vc_X10_entryOf))))
theorem iw_X10_entry_X10 : ∀ w ∈ wsX100, w ∈ vc_X10_entry := fun _ h => List.mem_cons_of_mem _ (List.mem_append_right _ (List.mem_append_left _ h))
theorem ic_X10_entry_c_X10_runs : ∀ w ∈ vc_X10_runs, w ∈ vc_X10_entry := fun _ h => List.mem_cons_of_mem _ (List.mem_append_right _ (List.mem_append_right _ (List.mem_append_left _ h)))
theorem ic_X10_entry_c_X10_entryOf : ∀ w ∈ vc_X10_entryOf, w ∈ vc_X10_entry := fun _ h => List.mem_cons_of_mem _ (List.mem_append_right _ (List.mem_append_right _ (List.mem_append_right _ (h))))
theorem gd_c_X10_entry : (vc_X10_entry).all goodWord = true := gall_cons rfl (gall_app (by decide +kernel) (gall_app gw_X10 (gall_app gd_c_X10_runs gd_c_X10_entryOf)))
set_option maxHeartbeats 4000000 in
set_option maxRecDepth 100000 in
theorem c_X10_entry (l : Launch) (dC : Nat → ClassId) (dI : Nat → Nat → Nat) (cI cT cS : ClassId) (sz : Nat) (ad : Nat → Nat) (a1 : Int32) (a2 : Int32) (a3 : Int32) (σ : Sg) (o : Int32 × Sg) (h : zf_X10_entry a1 a2 a3 σ = some o) : gCI (S := Unit) l yX10_entry vc_X10_entry { frames := 9, cells := 0, slots := 0, locals := 226 } (dC, dI) (gTY cI cT cS) sz [.ref (ad 0), .int a1, .int a2, .int a3] (Wd 24 (cfR ad cI) σ) (fun (r : Int32) (_ : Unit) => r = o.1) (fun (_ : Unit) => (Wd 24 (cfR ad cI) o.2)) 0 0 := by
  refine Met.ofW (cc := cX10_entry) (maxL := 4) (ret := (some .int)) (by decide) rfl ?_
  intro p e s m args below meth c s₁ B hml hv
  obtain ⟨rfl, hsz, hP, hK, hD0⟩ := hv
  have hx := B.exec
  have hb := B.bytes
  have hr := B.returns
  have hts := atoms_spec (ws := vc_X10_entry) B.pre
  have hown : s.vm.findClass RX10 = some m.cls := findClass_of_methodNamed B.named
  have hlocks := B.notSynchronized
  subst hsz
  have hD := hD0.self (sz := s.heap.size)
  generalize hAe : va_A (Wd 24 (cfR ad cI) σ) s.heap.size = A at hD ⊢
  have hA : ∀ q : Nat, s.heap.size ≤ q → A q := fun q h => by rw [← hAe]; exact Or.inr h
  clear hAe hD0
  refine gstart (fun H locs hHe hLe => ?_)
  have hS : va_S A s.heap H locs := by rw [← hHe, ← hLe]; exact va_S.rf
  replace hP : va_P (dC, dI) vwCl (Wd 24 (cfR ad cI) σ) H := by rw [← hHe]; exact hP
  clear hHe hLe
  have hl := lv_entry ([.ref (ad 0), .int a1, .int a2, .int a3]) (n := 4) (Nat.le_of_ble_eq_true rfl)
  rw [lg_entry_eq]
  generalize (lg_sl ([.ref (ad 0), .int a1, .int a2, .int a3]) ++ List.replicate (4 - (lg_sl ([.ref (ad 0), .int a1, .int a2, .int a3])).length) Slot.unset).toArray = ls at hl ⊢
  replace hl : lv_has ls 4 [(0, .ref (ad 0)), (1, .int a1), (2, .int a2), (3, .int a3)] := hl
  unfold zf_X10_entry at h
  refine lv_aload_n hx hb dX10_entry_0 rfl (lv_at hl 0 rfl) ?_
  refine lv_aload_n hx hb dX10_entry_1 rfl (lv_at hl 0 rfl) ?_
  refine gf_X10_10 hx hb hts iw_X10_entry_X10 hown hK hP (hts (.fieldLink RX10 83 "TraceTreesModel" "hot" "I") (List.mem_of_getElem? (i := 1) rfl)) dX10_entry_2 ?_
  obtain ⟨σ1, hc1, h⟩ := obd_inv h
  refine wcallv (S := Unit) (va_runV (As := [.int (σ 0 10)]) (rest := []) ⟨hx, hb, hml, hown, hts⟩ (c_X10_runs l dC dI cI cT cS H.size ad  (σ 0 10) σ _ hc1) (cwV 1 hts (gWV (List.mem_of_getElem? (i := 2) rfl) (List.mem_of_getElem? (i := 3) rfl) (List.mem_of_getElem? (i := 4) rfl) (List.mem_of_getElem? (i := 5) rfl) ic_X10_entry_c_X10_runs gd_c_X10_runs) rfl rfl rfl (by decide +kernel) ⟨(Nat.le_of_ble_eq_true rfl), (Nat.le_of_ble_eq_true rfl)⟩) (wpV (q := (RX10, TX10, 46)) hP hK hD oX10 rfl) rfl rfl hl.1 rfl (lv_room (Nat.le_of_ble_eq_true rfl)) dX10_entry_5 ⟨(Nat.le_of_ble_eq_true rfl), (Nat.le_of_ble_eq_true rfl)⟩) hP hD hS hA (fun _ H locs hr2 hP hD hS => ?_)
  replace hP : va_P (dC, dI) vwCl (Wd 24 (cfR ad cI) σ1) H := hP
  replace hD : va_D A (Wd 24 (cfR ad cI) σ1) := hD
  refine lv_aload_n hx hb dX10_entry_8 rfl (lv_at hl 0 rfl) ?_
  refine lv_iload_n hx hb dX10_entry_9 rfl (lv_at hl 1 rfl) ?_
  refine lv_iload_n hx hb dX10_entry_10 rfl (lv_at hl 2 rfl) ?_
  refine lv_iload_n hx hb dX10_entry_11 rfl (lv_at hl 3 rfl) ?_
  obtain ⟨r3, hc3, h⟩ := obd_inv h
  refine wcalli (S := Unit) (va_runV (As := [.int a1, .int a2, .int a3]) (rest := []) ⟨hx, hb, hml, hown, hts⟩ (c_X10_entryOf l dC dI cI cT cS H.size ad  a1 a2 a3 σ1 _ hc3) (cwV 3 hts (gWV (List.mem_of_getElem? (i := 6) rfl) (List.mem_of_getElem? (i := 7) rfl) (List.mem_of_getElem? (i := 8) rfl) (List.mem_of_getElem? (i := 5) rfl) ic_X10_entry_c_X10_entryOf gd_c_X10_entryOf) rfl rfl rfl (by decide +kernel) ⟨(Nat.le_of_ble_eq_true rfl), (Nat.le_of_ble_eq_true rfl)⟩) (wpV (q := (RX10, TX10, 46)) hP hK hD oX10 rfl) rfl rfl hl.1 rfl (lv_room (Nat.le_of_ble_eq_true rfl)) dX10_entry_12 ⟨(Nat.le_of_ble_eq_true rfl), (Nat.le_of_ble_eq_true rfl)⟩) hP hD hS hA (fun rr4 _ H locs hr4 hP hD hS => ?_)
  refine lv_nm (y := r3) hr4 ?_
  have h9 := Option.some.inj h
  exact wreti hx hb hr hlocks hP hD hS (by show _ = _; rw [← h9]; first | done | rfl) (by rw [← h9]) dX10_entry_15
def zb_X10_writtenAhead_53 (x5 : Int32 × Int32) (w0_53 : Int32) : Option (Bool × (Int32 × Int32)) := letb (x5.2 ||| w0_53) (fun e9 => some (true, ((x5.1 + (1 : Int32)), e9)))
def zl_X10_writtenAhead_5 (a1 : Int32) (a2 : Int32) (σ : Sg) (x5 : Int32 × Int32) : Option (Bool × (Int32 × Int32)) := (if a2 ≤ x5.1 then some (false, (x5.1, x5.2)) else bd (((16 : Int32) * a1) + x5.1) 144 (letb (σ 17 (((16 : Int32) * a1) + x5.1).toNatClampNeg) (fun e3 => bd ((4 : Int32) * e3) 96 ((if (zf_X10_writesOut (σ 5 ((4 : Int32) * e3).toNatClampNeg)) = true then obd (zf_X10_x e3 σ) (fun r7 => (zb_X10_writtenAhead_53 x5 ((1 : Int32) <<< (r7 &&& 31)))) else (zb_X10_writtenAhead_53 x5 (0 : Int32)))))))
def zf_X10_writtenAhead (a1 : Int32) (a2 : Int32) (σ : Sg) : Option (Int32) := obd (lp (X := Int32 × Int32) (zl_X10_writtenAhead_5 a1 a2 σ) 1000 ((0 : Int32), (0 : Int32))) (fun y5 => some y5.2)
def oc_X10_writtenAhead : List Cond := [.fieldLink RX10 58 "TraceTreesModel" "at" "[I", .fieldLink RX10 22 "TraceTreesModel" "code" "[I", .methodLink RX10 244 yX10_writesOut, .static yX10_writesOut, .initialized RX10, .methodLink RX10 247 yX10_x, .instanceMethod yX10_x, .selects RX10 yX10_x yX10_x]
def vc_X10_writtenAhead : List Cond := .code yX10_writtenAhead cX10_writtenAhead 6 (some .int) :: (oc_X10_writtenAhead ++ (wsX100 ++ (vc_X10_writesOut ++ (vc_X10_x))))
theorem iw_X10_writtenAhead_X10 : ∀ w ∈ wsX100, w ∈ vc_X10_writtenAhead := fun _ h => List.mem_cons_of_mem _ (List.mem_append_right _ (List.mem_append_left _ h))
theorem ic_X10_writtenAhead_c_X10_writesOut : ∀ w ∈ vc_X10_writesOut, w ∈ vc_X10_writtenAhead := fun _ h => List.mem_cons_of_mem _ (List.mem_append_right _ (List.mem_append_right _ (List.mem_append_left _ h)))
theorem ic_X10_writtenAhead_c_X10_x : ∀ w ∈ vc_X10_x, w ∈ vc_X10_writtenAhead := fun _ h => List.mem_cons_of_mem _ (List.mem_append_right _ (List.mem_append_right _ (List.mem_append_right _ (h))))
theorem gd_c_X10_writtenAhead : (vc_X10_writtenAhead).all goodWord = true := gall_cons rfl (gall_app (by decide +kernel) (gall_app gw_X10 (gall_app gd_c_X10_writesOut gd_c_X10_x)))
set_option maxHeartbeats 4000000 in
set_option maxRecDepth 100000 in
theorem c_X10_writtenAhead (l : Launch) (dC : Nat → ClassId) (dI : Nat → Nat → Nat) (cI cT cS : ClassId) (sz : Nat) (ad : Nat → Nat) (a1 : Int32) (a2 : Int32) (σ : Sg) (o : Int32) (h : zf_X10_writtenAhead a1 a2 σ = some o) : gCI (S := Unit) l yX10_writtenAhead vc_X10_writtenAhead { frames := 1, cells := 0, slots := 0, locals := 21 } (dC, dI) (gTY cI cT cS) sz [.ref (ad 0), .int a1, .int a2] (Wd 24 (cfR ad cI) σ) (fun (r : Int32) (_ : Unit) => r = o) (fun (_ : Unit) => (Wd 24 (cfR ad cI) σ)) 0 0 := by
  refine Met.ofW (cc := cX10_writtenAhead) (maxL := 6) (ret := (some .int)) (by decide) rfl ?_
  intro p e s m args below meth c s₁ B hml hv
  obtain ⟨rfl, hsz, hP, hK, hD0⟩ := hv
  have hx := B.exec
  have hb := B.bytes
  have hr := B.returns
  have hts := atoms_spec (ws := vc_X10_writtenAhead) B.pre
  have hown : s.vm.findClass RX10 = some m.cls := findClass_of_methodNamed B.named
  have hlocks := B.notSynchronized
  subst hsz
  have hD := hD0.self (sz := s.heap.size)
  generalize hAe : va_A (Wd 24 (cfR ad cI) σ) s.heap.size = A at hD ⊢
  have hA : ∀ q : Nat, s.heap.size ≤ q → A q := fun q h => by rw [← hAe]; exact Or.inr h
  clear hAe hD0
  refine gstart (fun H locs hHe hLe => ?_)
  have hS : va_S A s.heap H locs := by rw [← hHe, ← hLe]; exact va_S.rf
  replace hP : va_P (dC, dI) vwCl (Wd 24 (cfR ad cI) σ) H := by rw [← hHe]; exact hP
  clear hHe hLe
  have hl := lv_entry ([.ref (ad 0), .int a1, .int a2]) (n := 6) (Nat.le_of_ble_eq_true rfl)
  rw [lg_entry_eq]
  generalize (lg_sl ([.ref (ad 0), .int a1, .int a2]) ++ List.replicate (6 - (lg_sl ([.ref (ad 0), .int a1, .int a2])).length) Slot.unset).toArray = ls at hl ⊢
  replace hl : lv_has ls 6 [(0, .ref (ad 0)), (1, .int a1), (2, .int a2)] := hl
  unfold zf_X10_writtenAhead at h
  refine lv_iconst (v := 0) hx hb dX10_writtenAhead_0 (by decide) ?_
  refine lv_istore_n (lv' := [(3, .int (0 : Int32)), (0, .ref (ad 0)), (1, .int a1), (2, .int a2)]) hx hb dX10_writtenAhead_1 rfl hl (by decide) rfl (fun ls hl => ?_)
  refine lv_iconst (v := 0) hx hb dX10_writtenAhead_2 (by decide) ?_
  refine lv_istore (lv' := [(4, .int (0 : Int32)), (3, .int (0 : Int32)), (0, .ref (ad 0)), (1, .int a1), (2, .int a2)]) hx hb dX10_writtenAhead_3 hl (by decide) rfl (fun ls hl => ?_)
  obtain ⟨y5, hlp5, h⟩ := obd_inv h
  refine lp_W (fun x5 : Int32 × Int32 => ∀ (H : Heap) (locs : List Loc) (ls : Array Slot), va_P (dC, dI) vwCl (Wd 24 (cfR ad cI) σ) H → va_D A (Wd 24 (cfR ad cI) σ) → va_S A s.heap H locs → lv_has ls 6 [(4, .int x5.1), (3, .int x5.2), (0, .ref (ad 0)), (1, .int a1), (2, .int a2)] → W p l e (headSpec vc_X10_writtenAhead { frames := 1, cells := 0, slots := 0, locals := 21 }).room s m (List.toArray (α := Value) [.ref (ad 0), .int a1, .int a2]) below meth c H locs 0 0 (MQ below (va_Qi (fun (r : Int32) (_ : Unit) => r = o) (gB (dC, dI) A (fun (_ : Unit) => (Wd 24 (cfR ad cI) σ))) A) (List.toArray (α := Value) [.ref (ad 0), .int a1, .int a2]) s 0 0 A) (F0 m 5 ls [])) (fun y5 : Int32 × Int32 => ∀ (H : Heap) (locs : List Loc) (ls : Array Slot), va_P (dC, dI) vwCl (Wd 24 (cfR ad cI) σ) H → va_D A (Wd 24 (cfR ad cI) σ) → va_S A s.heap H locs → lv_has ls 6 [(3, .int y5.2)] → W p l e (headSpec vc_X10_writtenAhead { frames := 1, cells := 0, slots := 0, locals := 21 }).room s m (List.toArray (α := Value) [.ref (ad 0), .int a1, .int a2]) below meth c H locs 0 0 (MQ below (va_Qi (fun (r : Int32) (_ : Unit) => r = o) (gB (dC, dI) A (fun (_ : Unit) => (Wd 24 (cfR ad cI) σ))) A) (List.toArray (α := Value) [.ref (ad 0), .int a1, .int a2]) s 0 0 A) (F0 m 61 ls [])) ?_ 1000 ((0 : Int32), (0 : Int32)) y5 hlp5 ?_ H locs ls hP hD hS (lv_sub (l' := [(4, .int (0 : Int32)), (3, .int (0 : Int32)), (0, .ref (ad 0)), (1, .int a1), (2, .int a2)]) hl [0, 1, 2, 3, 4] rfl)
  · intro x5 yy5 h ht5 hf5 H locs ls hP hD hS hl
    unfold zl_X10_writtenAhead_5 at h
    have J53 : ∀ (w0_53 : Int32) (H : Heap) (locs : List Loc) (ls : Array Slot), zb_X10_writtenAhead_53 x5 w0_53 = some yy5 → va_P (dC, dI) vwCl (Wd 24 (cfR ad cI) σ) H → va_D A (Wd 24 (cfR ad cI) σ) → va_S A s.heap H locs → lv_has ls 6 [(4, .int x5.1), (0, .ref (ad 0)), (1, .int a1), (2, .int a2)] → W p l e (headSpec vc_X10_writtenAhead { frames := 1, cells := 0, slots := 0, locals := 21 }).room s m (List.toArray (α := Value) [.ref (ad 0), .int a1, .int a2]) below meth c H locs 0 0 (MQ below (va_Qi (fun (r : Int32) (_ : Unit) => r = o) (gB (dC, dI) A (fun (_ : Unit) => (Wd 24 (cfR ad cI) σ))) A) (List.toArray (α := Value) [.ref (ad 0), .int a1, .int a2]) s 0 0 A) (F0 m 53 ls [.int w0_53, .int x5.2]) := by
      intro w0_53 H locs ls h hP hD hS hl
      unfold zb_X10_writtenAhead_53 at h
      refine lv_ior hx hb dX10_writtenAhead_53 ?_
      obtain ⟨e9, he9, h⟩ := letb_inv h
      refine lv_nm he9 ?_
      refine lv_istore_n (lv' := [(3, .int e9), (4, .int x5.1), (0, .ref (ad 0)), (1, .int a1), (2, .int a2)]) hx hb dX10_writtenAhead_54 rfl hl (by decide) rfl (fun ls hl => ?_)
      refine lv_iinc (v := (x5.1 + (1 : Int32))) (lv' := [(4, .int (x5.1 + (1 : Int32))), (3, .int e9), (0, .ref (ad 0)), (1, .int a1), (2, .int a2)]) hx hb dX10_writtenAhead_55 hl (k := 1) rfl rfl (by decide) rfl (fun ls hl => ?_)
      refine lv_goto (tgt := 5) hx hb dX10_writtenAhead_58 (by decide) ?_
      obtain rfl := Option.some.inj h
      exact ht5 rfl H locs ls hP hD hS (lv_sub (l' := [(4, .int (x5.1 + (1 : Int32))), (3, .int e9), (0, .ref (ad 0)), (1, .int a1), (2, .int a2)]) hl [0, 1, 2, 3, 4] rfl)
    refine lv_iload hx hb dX10_writtenAhead_5 (lv_at hl 0 rfl) ?_
    refine lv_iload_n hx hb dX10_writtenAhead_7 rfl (lv_at hl 4 rfl) ?_
    refine lv_icmp_ge (tgt := 61) hx hb dX10_writtenAhead_8 (by decide) (fun c1 => ?_) (fun c1 => ?_)
    · replace h := ifp (c1) h
      obtain rfl := Option.some.inj h
      exact hf5 rfl H locs ls hP hD hS (lv_sub (l' := [(3, .int x5.2)]) hl [1] rfl)
    · replace h := ifn (c1) h
      refine lv_aload_n hx hb dX10_writtenAhead_11 rfl (lv_at hl 2 rfl) ?_
      refine gf_X10_31 hx hb hts iw_X10_writtenAhead_X10 hown hK hP (hts (.fieldLink RX10 58 "TraceTreesModel" "at" "[I") (List.mem_of_getElem? (i := 1) rfl)) dX10_writtenAhead_12 ?_
      refine lv_bipush (v := 16) hx hb dX10_writtenAhead_15 (by decide) ?_
      refine lv_iload_n hx hb dX10_writtenAhead_17 rfl (lv_at hl 3 rfl) ?_
      refine lv_imul hx hb dX10_writtenAhead_18 ?_
      refine lv_iload hx hb dX10_writtenAhead_19 (lv_at hl 0 rfl) ?_
      refine lv_iadd hx hb dX10_writtenAhead_21 ?_
      obtain ⟨hi2, h⟩ := bd_inv h
      refine wald hx hb hK hP aR17 hi2 dX10_writtenAhead_22 ?_
      obtain ⟨e3, he3, h⟩ := letb_inv h
      refine lv_nm he3 ?_
      refine lv_istore (lv' := [(5, .int e3), (4, .int x5.1), (3, .int x5.2), (0, .ref (ad 0)), (1, .int a1), (2, .int a2)]) hx hb dX10_writtenAhead_23 hl (by decide) rfl (fun ls hl => ?_)
      refine lv_iload_n hx hb dX10_writtenAhead_25 rfl (lv_at hl 2 rfl) ?_
      refine lv_aload_n hx hb dX10_writtenAhead_26 rfl (lv_at hl 3 rfl) ?_
      refine gf_X10_6 hx hb hts iw_X10_writtenAhead_X10 hown hK hP (hts (.fieldLink RX10 22 "TraceTreesModel" "code" "[I") (List.mem_of_getElem? (i := 2) rfl)) dX10_writtenAhead_27 ?_
      refine lv_iconst (v := 4) hx hb dX10_writtenAhead_30 (by decide) ?_
      refine lv_iload hx hb dX10_writtenAhead_31 (lv_at hl 0 rfl) ?_
      refine lv_imul hx hb dX10_writtenAhead_33 ?_
      obtain ⟨hi4, h⟩ := bd_inv h
      refine wald hx hb hK hP aR5 hi4 dX10_writtenAhead_34 ?_
      refine wcalli (S := Unit) (va_runS (As := [.int (σ 5 ((4 : Int32) * e3).toNatClampNeg)]) (rest := [.int x5.2]) ⟨hx, hb, hml, hown, hts⟩ (c_X10_writesOut l dC dI cI cT cS H.size (Wd 24 (cfR ad cI) σ)  (σ 5 ((4 : Int32) * e3).toNatClampNeg) _ rfl) (va_cwS 1 hts (gWS (List.mem_of_getElem? (i := 3) rfl) (List.mem_of_getElem? (i := 4) rfl) (List.mem_of_getElem? (i := 5) rfl) ic_X10_writtenAhead_c_X10_writesOut gd_c_X10_writesOut) rfl rfl rfl (by decide +kernel) ⟨(Nat.le_of_ble_eq_true rfl), (Nat.le_of_ble_eq_true rfl)⟩) (gpS hP hK hD) rfl rfl hl.1 rfl (lv_room (Nat.le_of_ble_eq_true rfl)) dX10_writtenAhead_35 ⟨(Nat.le_of_ble_eq_true rfl), (Nat.le_of_ble_eq_true rfl)⟩) hP hD hS hA (fun rr5 _ H locs hr5 hP hD hS => ?_)
      refine lv_nm (y := b2i (zf_X10_writesOut (σ 5 ((4 : Int32) * e3).toNatClampNeg))) hr5 ?_
      refine lv_if_eq (tgt := 52) hx hb dX10_writtenAhead_38 (by decide) (fun c6 => ?_) (fun c6 => ?_)
      · replace h := ifn (b2i_0 c6) h
        refine lv_iconst (v := 0) hx hb dX10_writtenAhead_52 (by decide) ?_
        exact J53 (0 : Int32) H locs ls h hP hD hS (lv_sub (l' := [(4, .int x5.1), (0, .ref (ad 0)), (1, .int a1), (2, .int a2)]) hl [1, 3, 4, 5] rfl)
      · replace h := ifp (b2i_1 c6) h
        refine lv_iconst (v := 1) hx hb dX10_writtenAhead_41 (by decide) ?_
        refine lv_aload_n hx hb dX10_writtenAhead_42 rfl (lv_at hl 3 rfl) ?_
        refine lv_iload hx hb dX10_writtenAhead_43 (lv_at hl 0 rfl) ?_
        obtain ⟨r7, hc7, h⟩ := obd_inv h
        refine wcalli (S := Unit) (va_runV (As := [.int e3]) (rest := [.int (1 : Int32), .int x5.2]) ⟨hx, hb, hml, hown, hts⟩ (c_X10_x l dC dI cI cT cS H.size ad  e3 σ _ hc7) (cwV 1 hts (gWV (List.mem_of_getElem? (i := 6) rfl) (List.mem_of_getElem? (i := 7) rfl) (List.mem_of_getElem? (i := 8) rfl) (List.mem_of_getElem? (i := 5) rfl) ic_X10_writtenAhead_c_X10_x gd_c_X10_x) rfl rfl rfl (by decide +kernel) ⟨(Nat.le_of_ble_eq_true rfl), (Nat.le_of_ble_eq_true rfl)⟩) (wpV (q := (RX10, TX10, 46)) hP hK hD oX10 rfl) rfl rfl hl.1 rfl (lv_room (Nat.le_of_ble_eq_true rfl)) dX10_writtenAhead_45 ⟨(Nat.le_of_ble_eq_true rfl), (Nat.le_of_ble_eq_true rfl)⟩) hP hD hS hA (fun rr8 _ H locs hr8 hP hD hS => ?_)
        refine lv_nm (y := r7) hr8 ?_
        refine lv_ishl hx hb dX10_writtenAhead_48 ?_
        refine lv_goto (tgt := 53) hx hb dX10_writtenAhead_49 (by decide) ?_
        exact J53 ((1 : Int32) <<< (r7 &&& 31)) H locs ls h hP hD hS (lv_sub (l' := [(4, .int x5.1), (0, .ref (ad 0)), (1, .int a1), (2, .int a2)]) hl [1, 3, 4, 5] rfl)
  · intro H locs ls hP hD hS hl
    refine lv_iload_n hx hb dX10_writtenAhead_61 rfl (lv_at hl 0 rfl) ?_
    have h9 := Option.some.inj h
    exact wreti hx hb hr hlocks hP hD hS (by show _ = _; rw [← h9]; first | done | rfl) rfl dX10_writtenAhead_62
def zb_X10_checksBy_366 (w0_366 : Int32) : Option (Int32) := some w0_366
def zb_X10_checksBy_336 (x27 : Int32 × Int32 × Int32 × Int32 × Int32) (v7_336 : Int32) (v6_336 : Int32) (v5_336 : Int32) (w0_336 : Int32) (w1_336 : Int32) : Option (Bool × (Int32 × Int32 × Int32 × Int32 × Int32)) := letb (w1_336 ||| w0_336) (fun e53 => some (true, ((x27.1 + (1 : Int32)), v7_336, v6_336, v5_336, e53)))
def zb_X10_checksBy_311 (σ : Sg) (x27 : Int32 × Int32 × Int32 × Int32 × Int32) (v10_311 : Int32) (v9_311 : Int32) (v7_311 : Int32) (v6_311 : Int32) (v5_311 : Int32) (w0_311 : Int32) (w1_311 : Int32) : Option (Bool × (Int32 × Int32 × Int32 × Int32 × Int32)) := letb (w1_311 ||| w0_311) (fun e48 => (if (zf_X10_writesOut v10_311) = true then obd (zf_X10_x v9_311 σ) (fun r51 => (zb_X10_checksBy_336 x27 v7_311 v6_311 v5_311 ((1 : Int32) <<< (r51 &&& 31)) e48)) else (zb_X10_checksBy_336 x27 v7_311 v6_311 v5_311 (0 : Int32) e48)))
def zb_X10_checksBy_281 (x122 : Int32 × Int32 × Int32 × Int32 × Int32) (v7_281 : Int32) (v6_281 : Int32) (v5_281 : Int32) (w0_281 : Int32) : Option (Bool × (Int32 × Int32 × Int32 × Int32 × Int32)) := letb (x122.2.2.2.2 ||| w0_281) (fun e44 => some (true, ((x122.1 + (1 : Int32)), v7_281, v6_281, v5_281, e44)))
def zb_X10_checksBy_263 (x122 : Int32 × Int32 × Int32 × Int32 × Int32) (v6_263 : Int32) (v5_263 : Int32) (v15_263 : Bool) (v14_263 : Int32) (w0_263 : Bool) : Option (Bool × (Int32 × Int32 × Int32 × Int32 × Int32)) := letb (x122.2.1 + (b2i w0_263)) (fun e42 => (if v15_263 = true then (zb_X10_checksBy_281 x122 e42 v6_263 v5_263 ((1 : Int32) <<< (v14_263 &&& 31))) else (zb_X10_checksBy_281 x122 e42 v6_263 v5_263 (0 : Int32))))
def zb_X10_checksBy_262 (x122 : Int32 × Int32 × Int32 × Int32 × Int32) (v6_262 : Int32) (v5_262 : Int32) (v15_262 : Bool) (v14_262 : Int32) : Option (Bool × (Int32 × Int32 × Int32 × Int32 × Int32)) := (zb_X10_checksBy_263 x122 v6_262 v5_262 v15_262 v14_262 false)
def zb_X10_checksBy_229 (r2 : Int32) (x122 : Int32 × Int32 × Int32 × Int32 × Int32) (v5_229 : Int32) (v15_229 : Bool) (v14_229 : Int32) (w0_229 : Bool) : Option (Bool × (Int32 × Int32 × Int32 × Int32 × Int32)) := letb (x122.2.2.1 + (b2i w0_229)) (fun e36 => (if v15_229 = true then (if (zf_X10_isIn x122.2.2.2.2 v14_229) = true then (zb_X10_checksBy_262 x122 e36 v5_229 v15_229 v14_229) else (if (zf_X10_isIn r2 v14_229) = true then (zb_X10_checksBy_262 x122 e36 v5_229 v15_229 v14_229) else (zb_X10_checksBy_263 x122 e36 v5_229 v15_229 v14_229 true))) else (zb_X10_checksBy_262 x122 e36 v5_229 v15_229 v14_229)))
def zb_X10_checksBy_228 (r2 : Int32) (x122 : Int32 × Int32 × Int32 × Int32 × Int32) (v5_228 : Int32) (v15_228 : Bool) (v14_228 : Int32) : Option (Bool × (Int32 × Int32 × Int32 × Int32 × Int32)) := (zb_X10_checksBy_229 r2 x122 v5_228 v15_228 v14_228 false)
def zb_X10_checksBy_204 (r2 : Int32) (x122 : Int32 × Int32 × Int32 × Int32 × Int32) (v15_204 : Bool) (v14_204 : Int32) (w0_204 : Bool) : Option (Bool × (Int32 × Int32 × Int32 × Int32 × Int32)) := letb (x122.2.2.2.1 + (b2i w0_204)) (fun e32 => (if v15_204 = true then (if (zf_X10_isIn x122.2.2.2.2 v14_204) = true then (zb_X10_checksBy_228 r2 x122 e32 v15_204 v14_204) else (zb_X10_checksBy_229 r2 x122 e32 v15_204 v14_204 true)) else (zb_X10_checksBy_228 r2 x122 e32 v15_204 v14_204)))
def zb_X10_checksBy_190 (r2 : Int32) (x122 : Int32 × Int32 × Int32 × Int32 × Int32) (v14_190 : Int32) (w0_190 : Bool) : Option (Bool × (Int32 × Int32 × Int32 × Int32 × Int32)) := (if w0_190 = true then (zb_X10_checksBy_204 r2 x122 w0_190 v14_190 true) else (zb_X10_checksBy_204 r2 x122 w0_190 v14_190 false))
def zb_X10_checksBy_185 (r2 : Int32) (x122 : Int32 × Int32 × Int32 × Int32 × Int32) (v14_185 : Int32) : Option (Bool × (Int32 × Int32 × Int32 × Int32 × Int32)) := (zb_X10_checksBy_190 r2 x122 v14_185 true)
def zb_X10_checksBy_189 (r2 : Int32) (x122 : Int32 × Int32 × Int32 × Int32 × Int32) (v14_189 : Int32) : Option (Bool × (Int32 × Int32 × Int32 × Int32 × Int32)) := (zb_X10_checksBy_190 r2 x122 v14_189 false)
def zb_X10_checksBy_148 (σ : Sg) (r2 : Int32) (v11_117 : Bool) (v9_117 : Int32) (w0_117 : Bool) (x122 : Int32 × Int32 × Int32 × Int32 × Int32) (w0_148 : Int32) : Option (Bool × (Int32 × Int32 × Int32 × Int32 × Int32)) := (if x122.1 = 0 then (zb_X10_checksBy_190 r2 x122 w0_148 v11_117) else (if w0_117 = true then (if v11_117 = true then obd (zf_X10_y v9_117 σ) (fun r26 => obd (zf_X10_z v9_117 σ) (fun r28 => (if r26 = r28 then (zb_X10_checksBy_189 r2 x122 w0_148) else (zb_X10_checksBy_185 r2 x122 w0_148)))) else (zb_X10_checksBy_185 r2 x122 w0_148)) else (zb_X10_checksBy_189 r2 x122 w0_148)))
def zl_X10_checksBy_122 (σ : Sg) (r2 : Int32) (v11_117 : Bool) (v9_117 : Int32) (w0_117 : Bool) (x122 : Int32 × Int32 × Int32 × Int32 × Int32) : Option (Bool × (Int32 × Int32 × Int32 × Int32 × Int32)) := (if (2 : Int32) ≤ x122.1 then some (false, (x122.1, x122.2.1, x122.2.2.1, x122.2.2.2.1, x122.2.2.2.2)) else (if x122.1 = 0 then obd (zf_X10_y v9_117 σ) (fun r21 => (zb_X10_checksBy_148 σ r2 v11_117 v9_117 w0_117 x122 r21)) else obd (zf_X10_z v9_117 σ) (fun r19 => (zb_X10_checksBy_148 σ r2 v11_117 v9_117 w0_117 x122 r19))))
def zb_X10_checksBy_117 (σ : Sg) (r2 : Int32) (x27 : Int32 × Int32 × Int32 × Int32 × Int32) (v11_117 : Bool) (v10_117 : Int32) (v9_117 : Int32) (w0_117 : Bool) : Option (Bool × (Int32 × Int32 × Int32 × Int32 × Int32)) := obd (lp (X := Int32 × Int32 × Int32 × Int32 × Int32) (zl_X10_checksBy_122 σ r2 v11_117 v9_117 w0_117) 1000 ((0 : Int32), x27.2.1, x27.2.2.1, x27.2.2.2.1, x27.2.2.2.2)) (fun y122 => (if v10_117 = (8 : Int32) then obd (zf_X10_z v9_117 σ) (fun r46 => (zb_X10_checksBy_311 σ x27 v10_117 v9_117 y122.2.1 y122.2.2.1 y122.2.2.2.1 ((1 : Int32) <<< (r46 &&& 31)) y122.2.2.2.2)) else (zb_X10_checksBy_311 σ x27 v10_117 v9_117 y122.2.1 y122.2.2.1 y122.2.2.2.1 (0 : Int32) y122.2.2.2.2)))
def zb_X10_checksBy_112 (σ : Sg) (r2 : Int32) (x27 : Int32 × Int32 × Int32 × Int32 × Int32) (v11_112 : Bool) (v10_112 : Int32) (v9_112 : Int32) : Option (Bool × (Int32 × Int32 × Int32 × Int32 × Int32)) := (zb_X10_checksBy_117 σ r2 x27 v11_112 v10_112 v9_112 true)
def zb_X10_checksBy_93 (σ : Sg) (r2 : Int32) (x27 : Int32 × Int32 × Int32 × Int32 × Int32) (v10_93 : Int32) (v9_93 : Int32) (w0_93 : Bool) : Option (Bool × (Int32 × Int32 × Int32 × Int32 × Int32)) := (if w0_93 = true then (zb_X10_checksBy_112 σ r2 x27 w0_93 v10_93 v9_93) else (if v10_93 = (1 : Int32) then (zb_X10_checksBy_112 σ r2 x27 w0_93 v10_93 v9_93) else (if v10_93 = (5 : Int32) then (zb_X10_checksBy_112 σ r2 x27 w0_93 v10_93 v9_93) else (zb_X10_checksBy_117 σ r2 x27 w0_93 v10_93 v9_93 false))))
def zb_X10_checksBy_88 (σ : Sg) (r2 : Int32) (x27 : Int32 × Int32 × Int32 × Int32 × Int32) (v10_88 : Int32) (v9_88 : Int32) : Option (Bool × (Int32 × Int32 × Int32 × Int32 × Int32)) := (zb_X10_checksBy_93 σ r2 x27 v10_88 v9_88 true)
def zl_X10_checksBy_27 (a1 : Int32) (σ : Sg) (r2 : Int32) (x27 : Int32 × Int32 × Int32 × Int32 × Int32) : Option (Bool × (Int32 × Int32 × Int32 × Int32 × Int32)) := bd a1 8 ((if (σ 15 a1.toNatClampNeg) ≤ x27.1 then some (false, (x27.1, x27.2.1, x27.2.2.1, x27.2.2.2.1, x27.2.2.2.2)) else bd (((16 : Int32) * a1) + x27.1) 144 (letb (σ 17 (((16 : Int32) * a1) + x27.1).toNatClampNeg) (fun e7 => bd ((4 : Int32) * e7) 96 (letb (σ 5 ((4 : Int32) * e7).toNatClampNeg) (fun e9 => (if e9 = (2 : Int32) then (zb_X10_checksBy_88 σ r2 x27 e9 e7) else (if e9 = (3 : Int32) then (zb_X10_checksBy_88 σ r2 x27 e9 e7) else (if e9 = (4 : Int32) then (zb_X10_checksBy_88 σ r2 x27 e9 e7) else (if e9 = (6 : Int32) then (zb_X10_checksBy_88 σ r2 x27 e9 e7) else (zb_X10_checksBy_93 σ r2 x27 e9 e7 false)))))))))))
def zf_X10_checksBy (a1 : Int32) (a2 : Int32) (σ : Sg) : Option (Int32) := bd a1 8 (obd (zf_X10_writtenAhead a1 (σ 15 a1.toNatClampNeg) σ) (fun r2 => obd (lp (X := Int32 × Int32 × Int32 × Int32 × Int32) (zl_X10_checksBy_27 a1 σ r2) 1000 ((0 : Int32), (0 : Int32), (0 : Int32), (0 : Int32), (0 : Int32))) (fun y27 => (if a2 = 0 then (zb_X10_checksBy_366 y27.2.2.2.1) else (if a2 = (1 : Int32) then (zb_X10_checksBy_366 y27.2.2.1) else (zb_X10_checksBy_366 y27.2.1))))))
def oc_X10_checksBy : List Cond := [.fieldLink RX10 52 "TraceTreesModel" "length" "[I", .methodLink RX10 376 yX10_writtenAhead, .instanceMethod yX10_writtenAhead, .selects RX10 yX10_writtenAhead yX10_writtenAhead, .initialized RX10, .fieldLink RX10 58 "TraceTreesModel" "at" "[I", .fieldLink RX10 22 "TraceTreesModel" "code" "[I", .methodLink RX10 222 yX10_z, .instanceMethod yX10_z, .selects RX10 yX10_z yX10_z, .methodLink RX10 225 yX10_y, .instanceMethod yX10_y, .selects RX10 yX10_y yX10_y, .methodLink RX10 379 yX10_isIn, .static yX10_isIn, .methodLink RX10 244 yX10_writesOut, .static yX10_writesOut, .methodLink RX10 247 yX10_x, .instanceMethod yX10_x, .selects RX10 yX10_x yX10_x]
def vc_X10_checksBy : List Cond := .code yX10_checksBy cX10_checksBy 16 (some .int) :: (oc_X10_checksBy ++ (wsX100 ++ (vc_X10_writtenAhead ++ (vc_X10_z ++ (vc_X10_y ++ (vc_X10_isIn ++ (vc_X10_writesOut ++ (vc_X10_x))))))))
theorem iw_X10_checksBy_X10 : ∀ w ∈ wsX100, w ∈ vc_X10_checksBy := fun _ h => List.mem_cons_of_mem _ (List.mem_append_right _ (List.mem_append_left _ h))
theorem ic_X10_checksBy_c_X10_writtenAhead : ∀ w ∈ vc_X10_writtenAhead, w ∈ vc_X10_checksBy := fun _ h => List.mem_cons_of_mem _ (List.mem_append_right _ (List.mem_append_right _ (List.mem_append_left _ h)))
theorem ic_X10_checksBy_c_X10_z : ∀ w ∈ vc_X10_z, w ∈ vc_X10_checksBy := fun _ h => List.mem_cons_of_mem _ (List.mem_append_right _ (List.mem_append_right _ (List.mem_append_right _ (List.mem_append_left _ h))))
theorem ic_X10_checksBy_c_X10_y : ∀ w ∈ vc_X10_y, w ∈ vc_X10_checksBy := fun _ h => List.mem_cons_of_mem _ (List.mem_append_right _ (List.mem_append_right _ (List.mem_append_right _ (List.mem_append_right _ (List.mem_append_left _ h)))))
theorem ic_X10_checksBy_c_X10_isIn : ∀ w ∈ vc_X10_isIn, w ∈ vc_X10_checksBy := fun _ h => List.mem_cons_of_mem _ (List.mem_append_right _ (List.mem_append_right _ (List.mem_append_right _ (List.mem_append_right _ (List.mem_append_right _ (List.mem_append_left _ h))))))
theorem ic_X10_checksBy_c_X10_writesOut : ∀ w ∈ vc_X10_writesOut, w ∈ vc_X10_checksBy := fun _ h => List.mem_cons_of_mem _ (List.mem_append_right _ (List.mem_append_right _ (List.mem_append_right _ (List.mem_append_right _ (List.mem_append_right _ (List.mem_append_right _ (List.mem_append_left _ h)))))))
theorem ic_X10_checksBy_c_X10_x : ∀ w ∈ vc_X10_x, w ∈ vc_X10_checksBy := fun _ h => List.mem_cons_of_mem _ (List.mem_append_right _ (List.mem_append_right _ (List.mem_append_right _ (List.mem_append_right _ (List.mem_append_right _ (List.mem_append_right _ (List.mem_append_right _ (h))))))))
theorem gd_c_X10_checksBy : (vc_X10_checksBy).all goodWord = true := gall_cons rfl (gall_app (by decide +kernel) (gall_app gw_X10 (gall_app gd_c_X10_writtenAhead (gall_app gd_c_X10_z (gall_app gd_c_X10_y (gall_app gd_c_X10_isIn (gall_app gd_c_X10_writesOut gd_c_X10_x)))))))
set_option maxHeartbeats 4000000 in
set_option maxRecDepth 100000 in
theorem c_X10_checksBy (l : Launch) (dC : Nat → ClassId) (dI : Nat → Nat → Nat) (cI cT cS : ClassId) (sz : Nat) (ad : Nat → Nat) (a1 : Int32) (a2 : Int32) (σ : Sg) (o : Int32) (h : zf_X10_checksBy a1 a2 σ = some o) : gCI (S := Unit) l yX10_checksBy vc_X10_checksBy { frames := 2, cells := 0, slots := 0, locals := 46 } (dC, dI) (gTY cI cT cS) sz [.ref (ad 0), .int a1, .int a2] (Wd 24 (cfR ad cI) σ) (fun (r : Int32) (_ : Unit) => r = o) (fun (_ : Unit) => (Wd 24 (cfR ad cI) σ)) 0 0 := by
  refine Met.ofW (cc := cX10_checksBy) (maxL := 16) (ret := (some .int)) (by decide) rfl ?_
  intro p e s m args below meth c s₁ B hml hv
  obtain ⟨rfl, hsz, hP, hK, hD0⟩ := hv
  have hx := B.exec
  have hb := B.bytes
  have hr := B.returns
  have hts := atoms_spec (ws := vc_X10_checksBy) B.pre
  have hown : s.vm.findClass RX10 = some m.cls := findClass_of_methodNamed B.named
  have hlocks := B.notSynchronized
  subst hsz
  have hD := hD0.self (sz := s.heap.size)
  generalize hAe : va_A (Wd 24 (cfR ad cI) σ) s.heap.size = A at hD ⊢
  have hA : ∀ q : Nat, s.heap.size ≤ q → A q := fun q h => by rw [← hAe]; exact Or.inr h
  clear hAe hD0
  refine gstart (fun H locs hHe hLe => ?_)
  have hS : va_S A s.heap H locs := by rw [← hHe, ← hLe]; exact va_S.rf
  replace hP : va_P (dC, dI) vwCl (Wd 24 (cfR ad cI) σ) H := by rw [← hHe]; exact hP
  clear hHe hLe
  have hl := lv_entry ([.ref (ad 0), .int a1, .int a2]) (n := 16) (Nat.le_of_ble_eq_true rfl)
  rw [lg_entry_eq]
  generalize (lg_sl ([.ref (ad 0), .int a1, .int a2]) ++ List.replicate (16 - (lg_sl ([.ref (ad 0), .int a1, .int a2])).length) Slot.unset).toArray = ls at hl ⊢
  replace hl : lv_has ls 16 [(0, .ref (ad 0)), (1, .int a1), (2, .int a2)] := hl
  unfold zf_X10_checksBy at h
  have J366 : ∀ (w0_366 : Int32) (H : Heap) (locs : List Loc) (ls : Array Slot), zb_X10_checksBy_366 w0_366 = some o → va_P (dC, dI) vwCl (Wd 24 (cfR ad cI) σ) H → va_D A (Wd 24 (cfR ad cI) σ) → va_S A s.heap H locs → lv_has ls 16 [] → W p l e (headSpec vc_X10_checksBy { frames := 2, cells := 0, slots := 0, locals := 46 }).room s m (List.toArray (α := Value) [.ref (ad 0), .int a1, .int a2]) below meth c H locs 0 0 (MQ below (va_Qi (fun (r : Int32) (_ : Unit) => r = o) (gB (dC, dI) A (fun (_ : Unit) => (Wd 24 (cfR ad cI) σ))) A) (List.toArray (α := Value) [.ref (ad 0), .int a1, .int a2]) s 0 0 A) (F0 m 366 ls [.int w0_366]) := by
    intro w0_366 H locs ls h hP hD hS hl
    unfold zb_X10_checksBy_366 at h
    have h9 := Option.some.inj h
    exact wreti hx hb hr hlocks hP hD hS (by show _ = _; rw [← h9]; first | done | rfl) rfl dX10_checksBy_366
  refine lv_aload_n hx hb dX10_checksBy_0 rfl (lv_at hl 0 rfl) ?_
  refine lv_iload_n hx hb dX10_checksBy_1 rfl (lv_at hl 1 rfl) ?_
  refine lv_aload_n hx hb dX10_checksBy_2 rfl (lv_at hl 0 rfl) ?_
  refine gf_X10_29 hx hb hts iw_X10_checksBy_X10 hown hK hP (hts (.fieldLink RX10 52 "TraceTreesModel" "length" "[I") (List.mem_of_getElem? (i := 1) rfl)) dX10_checksBy_3 ?_
  refine lv_iload_n hx hb dX10_checksBy_6 rfl (lv_at hl 1 rfl) ?_
  obtain ⟨hi1, h⟩ := bd_inv h
  refine wald hx hb hK hP aR15 hi1 dX10_checksBy_7 ?_
  obtain ⟨r2, hc2, h⟩ := obd_inv h
  refine wcalli (S := Unit) (va_runV (As := [.int a1, .int (σ 15 a1.toNatClampNeg)]) (rest := []) ⟨hx, hb, hml, hown, hts⟩ (c_X10_writtenAhead l dC dI cI cT cS H.size ad  a1 (σ 15 a1.toNatClampNeg) σ _ hc2) (cwV 2 hts (gWV (List.mem_of_getElem? (i := 2) rfl) (List.mem_of_getElem? (i := 3) rfl) (List.mem_of_getElem? (i := 4) rfl) (List.mem_of_getElem? (i := 5) rfl) ic_X10_checksBy_c_X10_writtenAhead gd_c_X10_writtenAhead) rfl rfl rfl (by decide +kernel) ⟨(Nat.le_of_ble_eq_true rfl), (Nat.le_of_ble_eq_true rfl)⟩) (wpV (q := (RX10, TX10, 46)) hP hK hD oX10 rfl) rfl rfl hl.1 rfl (lv_room (Nat.le_of_ble_eq_true rfl)) dX10_checksBy_8 ⟨(Nat.le_of_ble_eq_true rfl), (Nat.le_of_ble_eq_true rfl)⟩) hP hD hS hA (fun rr3 _ H locs hr3 hP hD hS => ?_)
  refine lv_nm (y := r2) hr3 ?_
  refine lv_istore_n (lv' := [(3, .int r2), (0, .ref (ad 0)), (1, .int a1), (2, .int a2)]) hx hb dX10_checksBy_11 rfl hl (by decide) rfl (fun ls hl => ?_)
  refine lv_iconst (v := 0) hx hb dX10_checksBy_12 (by decide) ?_
  refine lv_istore (lv' := [(4, .int (0 : Int32)), (3, .int r2), (0, .ref (ad 0)), (1, .int a1), (2, .int a2)]) hx hb dX10_checksBy_13 hl (by decide) rfl (fun ls hl => ?_)
  refine lv_iconst (v := 0) hx hb dX10_checksBy_15 (by decide) ?_
  refine lv_istore (lv' := [(5, .int (0 : Int32)), (4, .int (0 : Int32)), (3, .int r2), (0, .ref (ad 0)), (1, .int a1), (2, .int a2)]) hx hb dX10_checksBy_16 hl (by decide) rfl (fun ls hl => ?_)
  refine lv_iconst (v := 0) hx hb dX10_checksBy_18 (by decide) ?_
  refine lv_istore (lv' := [(6, .int (0 : Int32)), (5, .int (0 : Int32)), (4, .int (0 : Int32)), (3, .int r2), (0, .ref (ad 0)), (1, .int a1), (2, .int a2)]) hx hb dX10_checksBy_19 hl (by decide) rfl (fun ls hl => ?_)
  refine lv_iconst (v := 0) hx hb dX10_checksBy_21 (by decide) ?_
  refine lv_istore (lv' := [(7, .int (0 : Int32)), (6, .int (0 : Int32)), (5, .int (0 : Int32)), (4, .int (0 : Int32)), (3, .int r2), (0, .ref (ad 0)), (1, .int a1), (2, .int a2)]) hx hb dX10_checksBy_22 hl (by decide) rfl (fun ls hl => ?_)
  refine lv_iconst (v := 0) hx hb dX10_checksBy_24 (by decide) ?_
  refine lv_istore (lv' := [(8, .int (0 : Int32)), (7, .int (0 : Int32)), (6, .int (0 : Int32)), (5, .int (0 : Int32)), (4, .int (0 : Int32)), (3, .int r2), (0, .ref (ad 0)), (1, .int a1), (2, .int a2)]) hx hb dX10_checksBy_25 hl (by decide) rfl (fun ls hl => ?_)
  obtain ⟨y27, hlp27, h⟩ := obd_inv h
  refine lp_W (fun x27 : Int32 × Int32 × Int32 × Int32 × Int32 => ∀ (H : Heap) (locs : List Loc) (ls : Array Slot), va_P (dC, dI) vwCl (Wd 24 (cfR ad cI) σ) H → va_D A (Wd 24 (cfR ad cI) σ) → va_S A s.heap H locs → lv_has ls 16 [(8, .int x27.1), (7, .int x27.2.1), (6, .int x27.2.2.1), (5, .int x27.2.2.2.1), (4, .int x27.2.2.2.2), (3, .int r2), (0, .ref (ad 0)), (1, .int a1), (2, .int a2)] → W p l e (headSpec vc_X10_checksBy { frames := 2, cells := 0, slots := 0, locals := 46 }).room s m (List.toArray (α := Value) [.ref (ad 0), .int a1, .int a2]) below meth c H locs 0 0 (MQ below (va_Qi (fun (r : Int32) (_ : Unit) => r = o) (gB (dC, dI) A (fun (_ : Unit) => (Wd 24 (cfR ad cI) σ))) A) (List.toArray (α := Value) [.ref (ad 0), .int a1, .int a2]) s 0 0 A) (F0 m 27 ls [])) (fun y27 : Int32 × Int32 × Int32 × Int32 × Int32 => ∀ (H : Heap) (locs : List Loc) (ls : Array Slot), va_P (dC, dI) vwCl (Wd 24 (cfR ad cI) σ) H → va_D A (Wd 24 (cfR ad cI) σ) → va_S A s.heap H locs → lv_has ls 16 [(7, .int y27.2.1), (6, .int y27.2.2.1), (5, .int y27.2.2.2.1), (2, .int a2)] → W p l e (headSpec vc_X10_checksBy { frames := 2, cells := 0, slots := 0, locals := 46 }).room s m (List.toArray (α := Value) [.ref (ad 0), .int a1, .int a2]) below meth c H locs 0 0 (MQ below (va_Qi (fun (r : Int32) (_ : Unit) => r = o) (gB (dC, dI) A (fun (_ : Unit) => (Wd 24 (cfR ad cI) σ))) A) (List.toArray (α := Value) [.ref (ad 0), .int a1, .int a2]) s 0 0 A) (F0 m 345 ls [])) ?_ 1000 ((0 : Int32), (0 : Int32), (0 : Int32), (0 : Int32), (0 : Int32)) y27 hlp27 ?_ H locs ls hP hD hS (lv_sub (l' := [(8, .int (0 : Int32)), (7, .int (0 : Int32)), (6, .int (0 : Int32)), (5, .int (0 : Int32)), (4, .int (0 : Int32)), (3, .int r2), (0, .ref (ad 0)), (1, .int a1), (2, .int a2)]) hl [0, 1, 2, 3, 4, 5, 6, 7, 8] rfl)
  · intro x27 yy27 h ht27 hf27 H locs ls hP hD hS hl
    unfold zl_X10_checksBy_27 at h
    have J336 : ∀ (v7_336 : Int32) (v6_336 : Int32) (v5_336 : Int32) (w0_336 : Int32) (w1_336 : Int32) (H : Heap) (locs : List Loc) (ls : Array Slot), zb_X10_checksBy_336 x27 v7_336 v6_336 v5_336 w0_336 w1_336 = some yy27 → va_P (dC, dI) vwCl (Wd 24 (cfR ad cI) σ) H → va_D A (Wd 24 (cfR ad cI) σ) → va_S A s.heap H locs → lv_has ls 16 [(8, .int x27.1), (7, .int v7_336), (6, .int v6_336), (5, .int v5_336), (3, .int r2), (0, .ref (ad 0)), (1, .int a1), (2, .int a2)] → W p l e (headSpec vc_X10_checksBy { frames := 2, cells := 0, slots := 0, locals := 46 }).room s m (List.toArray (α := Value) [.ref (ad 0), .int a1, .int a2]) below meth c H locs 0 0 (MQ below (va_Qi (fun (r : Int32) (_ : Unit) => r = o) (gB (dC, dI) A (fun (_ : Unit) => (Wd 24 (cfR ad cI) σ))) A) (List.toArray (α := Value) [.ref (ad 0), .int a1, .int a2]) s 0 0 A) (F0 m 336 ls [.int w0_336, .int w1_336]) := by
      intro v7_336 v6_336 v5_336 w0_336 w1_336 H locs ls h hP hD hS hl
      unfold zb_X10_checksBy_336 at h
      refine lv_ior hx hb dX10_checksBy_336 ?_
      obtain ⟨e53, he53, h⟩ := letb_inv h
      refine lv_nm he53 ?_
      refine lv_istore (lv' := [(4, .int e53), (8, .int x27.1), (7, .int v7_336), (6, .int v6_336), (5, .int v5_336), (3, .int r2), (0, .ref (ad 0)), (1, .int a1), (2, .int a2)]) hx hb dX10_checksBy_337 hl (by decide) rfl (fun ls hl => ?_)
      refine lv_iinc (v := (x27.1 + (1 : Int32))) (lv' := [(8, .int (x27.1 + (1 : Int32))), (4, .int e53), (7, .int v7_336), (6, .int v6_336), (5, .int v5_336), (3, .int r2), (0, .ref (ad 0)), (1, .int a1), (2, .int a2)]) hx hb dX10_checksBy_339 hl (k := 1) rfl rfl (by decide) rfl (fun ls hl => ?_)
      refine lv_goto (tgt := 27) hx hb dX10_checksBy_342 (by decide) ?_
      obtain rfl := Option.some.inj h
      exact ht27 rfl H locs ls hP hD hS (lv_sub (l' := [(8, .int (x27.1 + (1 : Int32))), (7, .int v7_336), (6, .int v6_336), (5, .int v5_336), (4, .int e53), (3, .int r2), (0, .ref (ad 0)), (1, .int a1), (2, .int a2)]) hl [0, 2, 3, 4, 1, 5, 6, 7, 8] rfl)
    have J311 : ∀ (v10_311 : Int32) (v9_311 : Int32) (v7_311 : Int32) (v6_311 : Int32) (v5_311 : Int32) (w0_311 : Int32) (w1_311 : Int32) (H : Heap) (locs : List Loc) (ls : Array Slot), zb_X10_checksBy_311 σ x27 v10_311 v9_311 v7_311 v6_311 v5_311 w0_311 w1_311 = some yy27 → va_P (dC, dI) vwCl (Wd 24 (cfR ad cI) σ) H → va_D A (Wd 24 (cfR ad cI) σ) → va_S A s.heap H locs → lv_has ls 16 [(10, .int v10_311), (9, .int v9_311), (8, .int x27.1), (7, .int v7_311), (6, .int v6_311), (5, .int v5_311), (3, .int r2), (0, .ref (ad 0)), (1, .int a1), (2, .int a2)] → W p l e (headSpec vc_X10_checksBy { frames := 2, cells := 0, slots := 0, locals := 46 }).room s m (List.toArray (α := Value) [.ref (ad 0), .int a1, .int a2]) below meth c H locs 0 0 (MQ below (va_Qi (fun (r : Int32) (_ : Unit) => r = o) (gB (dC, dI) A (fun (_ : Unit) => (Wd 24 (cfR ad cI) σ))) A) (List.toArray (α := Value) [.ref (ad 0), .int a1, .int a2]) s 0 0 A) (F0 m 311 ls [.int w0_311, .int w1_311]) := by
      intro v10_311 v9_311 v7_311 v6_311 v5_311 w0_311 w1_311 H locs ls h hP hD hS hl
      unfold zb_X10_checksBy_311 at h
      refine lv_ior hx hb dX10_checksBy_311 ?_
      obtain ⟨e48, he48, h⟩ := letb_inv h
      refine lv_nm he48 ?_
      refine lv_istore (lv' := [(4, .int e48), (10, .int v10_311), (9, .int v9_311), (8, .int x27.1), (7, .int v7_311), (6, .int v6_311), (5, .int v5_311), (3, .int r2), (0, .ref (ad 0)), (1, .int a1), (2, .int a2)]) hx hb dX10_checksBy_312 hl (by decide) rfl (fun ls hl => ?_)
      refine lv_iload hx hb dX10_checksBy_314 (lv_at hl 0 rfl) ?_
      refine lv_iload hx hb dX10_checksBy_316 (lv_at hl 1 rfl) ?_
      refine wcalli (S := Unit) (va_runS (As := [.int v10_311]) (rest := [.int e48]) ⟨hx, hb, hml, hown, hts⟩ (c_X10_writesOut l dC dI cI cT cS H.size (Wd 24 (cfR ad cI) σ)  v10_311 _ rfl) (va_cwS 1 hts (gWS (List.mem_of_getElem? (i := 16) rfl) (List.mem_of_getElem? (i := 17) rfl) (List.mem_of_getElem? (i := 5) rfl) ic_X10_checksBy_c_X10_writesOut gd_c_X10_writesOut) rfl rfl rfl (by decide +kernel) ⟨(Nat.le_of_ble_eq_true rfl), (Nat.le_of_ble_eq_true rfl)⟩) (gpS hP hK hD) rfl rfl hl.1 rfl (lv_room (Nat.le_of_ble_eq_true rfl)) dX10_checksBy_318 ⟨(Nat.le_of_ble_eq_true rfl), (Nat.le_of_ble_eq_true rfl)⟩) hP hD hS hA (fun rr49 _ H locs hr49 hP hD hS => ?_)
      refine lv_nm (y := b2i (zf_X10_writesOut v10_311)) hr49 ?_
      refine lv_if_eq (tgt := 335) hx hb dX10_checksBy_321 (by decide) (fun c50 => ?_) (fun c50 => ?_)
      · replace h := ifn (b2i_0 c50) h
        refine lv_iconst (v := 0) hx hb dX10_checksBy_335 (by decide) ?_
        exact J336 v7_311 v6_311 v5_311 (0 : Int32) e48 H locs ls h hP hD hS (lv_sub (l' := [(8, .int x27.1), (7, .int v7_311), (6, .int v6_311), (5, .int v5_311), (3, .int r2), (0, .ref (ad 0)), (1, .int a1), (2, .int a2)]) hl [3, 4, 5, 6, 7, 8, 9, 10] rfl)
      · replace h := ifp (b2i_1 c50) h
        refine lv_iconst (v := 1) hx hb dX10_checksBy_324 (by decide) ?_
        refine lv_aload_n hx hb dX10_checksBy_325 rfl (lv_at hl 8 rfl) ?_
        refine lv_iload hx hb dX10_checksBy_326 (lv_at hl 2 rfl) ?_
        obtain ⟨r51, hc51, h⟩ := obd_inv h
        refine wcalli (S := Unit) (va_runV (As := [.int v9_311]) (rest := [.int (1 : Int32), .int e48]) ⟨hx, hb, hml, hown, hts⟩ (c_X10_x l dC dI cI cT cS H.size ad  v9_311 σ _ hc51) (cwV 1 hts (gWV (List.mem_of_getElem? (i := 18) rfl) (List.mem_of_getElem? (i := 19) rfl) (List.mem_of_getElem? (i := 20) rfl) (List.mem_of_getElem? (i := 5) rfl) ic_X10_checksBy_c_X10_x gd_c_X10_x) rfl rfl rfl (by decide +kernel) ⟨(Nat.le_of_ble_eq_true rfl), (Nat.le_of_ble_eq_true rfl)⟩) (wpV (q := (RX10, TX10, 46)) hP hK hD oX10 rfl) rfl rfl hl.1 rfl (lv_room (Nat.le_of_ble_eq_true rfl)) dX10_checksBy_328 ⟨(Nat.le_of_ble_eq_true rfl), (Nat.le_of_ble_eq_true rfl)⟩) hP hD hS hA (fun rr52 _ H locs hr52 hP hD hS => ?_)
        refine lv_nm (y := r51) hr52 ?_
        refine lv_ishl hx hb dX10_checksBy_331 ?_
        refine lv_goto (tgt := 336) hx hb dX10_checksBy_332 (by decide) ?_
        exact J336 v7_311 v6_311 v5_311 ((1 : Int32) <<< (r51 &&& 31)) e48 H locs ls h hP hD hS (lv_sub (l' := [(8, .int x27.1), (7, .int v7_311), (6, .int v6_311), (5, .int v5_311), (3, .int r2), (0, .ref (ad 0)), (1, .int a1), (2, .int a2)]) hl [3, 4, 5, 6, 7, 8, 9, 10] rfl)
    have J117 : ∀ (v11_117 : Bool) (v10_117 : Int32) (v9_117 : Int32) (w0_117 : Bool) (H : Heap) (locs : List Loc) (ls : Array Slot), zb_X10_checksBy_117 σ r2 x27 v11_117 v10_117 v9_117 w0_117 = some yy27 → va_P (dC, dI) vwCl (Wd 24 (cfR ad cI) σ) H → va_D A (Wd 24 (cfR ad cI) σ) → va_S A s.heap H locs → lv_has ls 16 [(11, .int (b2i v11_117)), (10, .int v10_117), (9, .int v9_117), (8, .int x27.1), (7, .int x27.2.1), (6, .int x27.2.2.1), (5, .int x27.2.2.2.1), (4, .int x27.2.2.2.2), (3, .int r2), (0, .ref (ad 0)), (1, .int a1), (2, .int a2)] → W p l e (headSpec vc_X10_checksBy { frames := 2, cells := 0, slots := 0, locals := 46 }).room s m (List.toArray (α := Value) [.ref (ad 0), .int a1, .int a2]) below meth c H locs 0 0 (MQ below (va_Qi (fun (r : Int32) (_ : Unit) => r = o) (gB (dC, dI) A (fun (_ : Unit) => (Wd 24 (cfR ad cI) σ))) A) (List.toArray (α := Value) [.ref (ad 0), .int a1, .int a2]) s 0 0 A) (F0 m 117 ls [.int (b2i w0_117)]) := by
      intro v11_117 v10_117 v9_117 w0_117 H locs ls h hP hD hS hl
      unfold zb_X10_checksBy_117 at h
      refine lv_istore (lv' := [(12, .int (b2i w0_117)), (11, .int (b2i v11_117)), (10, .int v10_117), (9, .int v9_117), (8, .int x27.1), (7, .int x27.2.1), (6, .int x27.2.2.1), (5, .int x27.2.2.2.1), (4, .int x27.2.2.2.2), (3, .int r2), (0, .ref (ad 0)), (1, .int a1), (2, .int a2)]) hx hb dX10_checksBy_117 hl (by decide) rfl (fun ls hl => ?_)
      refine lv_iconst (v := 0) hx hb dX10_checksBy_119 (by decide) ?_
      refine lv_istore (lv' := [(13, .int (0 : Int32)), (12, .int (b2i w0_117)), (11, .int (b2i v11_117)), (10, .int v10_117), (9, .int v9_117), (8, .int x27.1), (7, .int x27.2.1), (6, .int x27.2.2.1), (5, .int x27.2.2.2.1), (4, .int x27.2.2.2.2), (3, .int r2), (0, .ref (ad 0)), (1, .int a1), (2, .int a2)]) hx hb dX10_checksBy_120 hl (by decide) rfl (fun ls hl => ?_)
      obtain ⟨y122, hlp122, h⟩ := obd_inv h
      refine lp_W (fun x122 : Int32 × Int32 × Int32 × Int32 × Int32 => ∀ (H : Heap) (locs : List Loc) (ls : Array Slot), va_P (dC, dI) vwCl (Wd 24 (cfR ad cI) σ) H → va_D A (Wd 24 (cfR ad cI) σ) → va_S A s.heap H locs → lv_has ls 16 [(13, .int x122.1), (12, .int (b2i w0_117)), (11, .int (b2i v11_117)), (10, .int v10_117), (9, .int v9_117), (8, .int x27.1), (7, .int x122.2.1), (6, .int x122.2.2.1), (5, .int x122.2.2.2.1), (4, .int x122.2.2.2.2), (3, .int r2), (0, .ref (ad 0)), (1, .int a1), (2, .int a2)] → W p l e (headSpec vc_X10_checksBy { frames := 2, cells := 0, slots := 0, locals := 46 }).room s m (List.toArray (α := Value) [.ref (ad 0), .int a1, .int a2]) below meth c H locs 0 0 (MQ below (va_Qi (fun (r : Int32) (_ : Unit) => r = o) (gB (dC, dI) A (fun (_ : Unit) => (Wd 24 (cfR ad cI) σ))) A) (List.toArray (α := Value) [.ref (ad 0), .int a1, .int a2]) s 0 0 A) (F0 m 122 ls [])) (fun y122 : Int32 × Int32 × Int32 × Int32 × Int32 => ∀ (H : Heap) (locs : List Loc) (ls : Array Slot), va_P (dC, dI) vwCl (Wd 24 (cfR ad cI) σ) H → va_D A (Wd 24 (cfR ad cI) σ) → va_S A s.heap H locs → lv_has ls 16 [(10, .int v10_117), (9, .int v9_117), (8, .int x27.1), (7, .int y122.2.1), (6, .int y122.2.2.1), (5, .int y122.2.2.2.1), (4, .int y122.2.2.2.2), (3, .int r2), (0, .ref (ad 0)), (1, .int a1), (2, .int a2)] → W p l e (headSpec vc_X10_checksBy { frames := 2, cells := 0, slots := 0, locals := 46 }).room s m (List.toArray (α := Value) [.ref (ad 0), .int a1, .int a2]) below meth c H locs 0 0 (MQ below (va_Qi (fun (r : Int32) (_ : Unit) => r = o) (gB (dC, dI) A (fun (_ : Unit) => (Wd 24 (cfR ad cI) σ))) A) (List.toArray (α := Value) [.ref (ad 0), .int a1, .int a2]) s 0 0 A) (F0 m 290 ls [])) ?_ 1000 ((0 : Int32), x27.2.1, x27.2.2.1, x27.2.2.2.1, x27.2.2.2.2) y122 hlp122 ?_ H locs ls hP hD hS (lv_sub (l' := [(13, .int (0 : Int32)), (12, .int (b2i w0_117)), (11, .int (b2i v11_117)), (10, .int v10_117), (9, .int v9_117), (8, .int x27.1), (7, .int x27.2.1), (6, .int x27.2.2.1), (5, .int x27.2.2.2.1), (4, .int x27.2.2.2.2), (3, .int r2), (0, .ref (ad 0)), (1, .int a1), (2, .int a2)]) hl [0, 1, 2, 3, 4, 5, 6, 7, 8, 9, 10, 11, 12, 13] rfl)
      · intro x122 yy122 h ht122 hf122 H locs ls hP hD hS hl
        unfold zl_X10_checksBy_122 at h
        have J281 : ∀ (v7_281 : Int32) (v6_281 : Int32) (v5_281 : Int32) (w0_281 : Int32) (H : Heap) (locs : List Loc) (ls : Array Slot), zb_X10_checksBy_281 x122 v7_281 v6_281 v5_281 w0_281 = some yy122 → va_P (dC, dI) vwCl (Wd 24 (cfR ad cI) σ) H → va_D A (Wd 24 (cfR ad cI) σ) → va_S A s.heap H locs → lv_has ls 16 [(7, .int v7_281), (6, .int v6_281), (5, .int v5_281), (13, .int x122.1), (12, .int (b2i w0_117)), (11, .int (b2i v11_117)), (10, .int v10_117), (9, .int v9_117), (8, .int x27.1), (3, .int r2), (0, .ref (ad 0)), (1, .int a1), (2, .int a2)] → W p l e (headSpec vc_X10_checksBy { frames := 2, cells := 0, slots := 0, locals := 46 }).room s m (List.toArray (α := Value) [.ref (ad 0), .int a1, .int a2]) below meth c H locs 0 0 (MQ below (va_Qi (fun (r : Int32) (_ : Unit) => r = o) (gB (dC, dI) A (fun (_ : Unit) => (Wd 24 (cfR ad cI) σ))) A) (List.toArray (α := Value) [.ref (ad 0), .int a1, .int a2]) s 0 0 A) (F0 m 281 ls [.int w0_281, .int x122.2.2.2.2]) := by
          intro v7_281 v6_281 v5_281 w0_281 H locs ls h hP hD hS hl
          unfold zb_X10_checksBy_281 at h
          refine lv_ior hx hb dX10_checksBy_281 ?_
          obtain ⟨e44, he44, h⟩ := letb_inv h
          refine lv_nm he44 ?_
          refine lv_istore (lv' := [(4, .int e44), (7, .int v7_281), (6, .int v6_281), (5, .int v5_281), (13, .int x122.1), (12, .int (b2i w0_117)), (11, .int (b2i v11_117)), (10, .int v10_117), (9, .int v9_117), (8, .int x27.1), (3, .int r2), (0, .ref (ad 0)), (1, .int a1), (2, .int a2)]) hx hb dX10_checksBy_282 hl (by decide) rfl (fun ls hl => ?_)
          refine lv_iinc (v := (x122.1 + (1 : Int32))) (lv' := [(13, .int (x122.1 + (1 : Int32))), (4, .int e44), (7, .int v7_281), (6, .int v6_281), (5, .int v5_281), (12, .int (b2i w0_117)), (11, .int (b2i v11_117)), (10, .int v10_117), (9, .int v9_117), (8, .int x27.1), (3, .int r2), (0, .ref (ad 0)), (1, .int a1), (2, .int a2)]) hx hb dX10_checksBy_284 hl (k := 4) rfl rfl (by decide) rfl (fun ls hl => ?_)
          refine lv_goto (tgt := 122) hx hb dX10_checksBy_287 (by decide) ?_
          obtain rfl := Option.some.inj h
          exact ht122 rfl H locs ls hP hD hS (lv_sub (l' := [(13, .int (x122.1 + (1 : Int32))), (12, .int (b2i w0_117)), (11, .int (b2i v11_117)), (10, .int v10_117), (9, .int v9_117), (8, .int x27.1), (7, .int v7_281), (6, .int v6_281), (5, .int v5_281), (4, .int e44), (3, .int r2), (0, .ref (ad 0)), (1, .int a1), (2, .int a2)]) hl [0, 5, 6, 7, 8, 9, 2, 3, 4, 1, 10, 11, 12, 13] rfl)
        have J263 : ∀ (v6_263 : Int32) (v5_263 : Int32) (v15_263 : Bool) (v14_263 : Int32) (w0_263 : Bool) (H : Heap) (locs : List Loc) (ls : Array Slot), zb_X10_checksBy_263 x122 v6_263 v5_263 v15_263 v14_263 w0_263 = some yy122 → va_P (dC, dI) vwCl (Wd 24 (cfR ad cI) σ) H → va_D A (Wd 24 (cfR ad cI) σ) → va_S A s.heap H locs → lv_has ls 16 [(6, .int v6_263), (5, .int v5_263), (15, .int (b2i v15_263)), (14, .int v14_263), (13, .int x122.1), (12, .int (b2i w0_117)), (11, .int (b2i v11_117)), (10, .int v10_117), (9, .int v9_117), (8, .int x27.1), (4, .int x122.2.2.2.2), (3, .int r2), (0, .ref (ad 0)), (1, .int a1), (2, .int a2)] → W p l e (headSpec vc_X10_checksBy { frames := 2, cells := 0, slots := 0, locals := 46 }).room s m (List.toArray (α := Value) [.ref (ad 0), .int a1, .int a2]) below meth c H locs 0 0 (MQ below (va_Qi (fun (r : Int32) (_ : Unit) => r = o) (gB (dC, dI) A (fun (_ : Unit) => (Wd 24 (cfR ad cI) σ))) A) (List.toArray (α := Value) [.ref (ad 0), .int a1, .int a2]) s 0 0 A) (F0 m 263 ls [.int (b2i w0_263), .int x122.2.1]) := by
          intro v6_263 v5_263 v15_263 v14_263 w0_263 H locs ls h hP hD hS hl
          unfold zb_X10_checksBy_263 at h
          refine lv_iadd hx hb dX10_checksBy_263 ?_
          obtain ⟨e42, he42, h⟩ := letb_inv h
          refine lv_nm he42 ?_
          refine lv_istore (lv' := [(7, .int e42), (6, .int v6_263), (5, .int v5_263), (15, .int (b2i v15_263)), (14, .int v14_263), (13, .int x122.1), (12, .int (b2i w0_117)), (11, .int (b2i v11_117)), (10, .int v10_117), (9, .int v9_117), (8, .int x27.1), (4, .int x122.2.2.2.2), (3, .int r2), (0, .ref (ad 0)), (1, .int a1), (2, .int a2)]) hx hb dX10_checksBy_264 hl (by decide) rfl (fun ls hl => ?_)
          refine lv_iload hx hb dX10_checksBy_266 (lv_at hl 11 rfl) ?_
          refine lv_iload hx hb dX10_checksBy_268 (lv_at hl 3 rfl) ?_
          refine lv_if_eq (tgt := 280) hx hb dX10_checksBy_270 (by decide) (fun c43 => ?_) (fun c43 => ?_)
          · replace h := ifn (b2i_0 c43) h
            refine lv_iconst (v := 0) hx hb dX10_checksBy_280 (by decide) ?_
            exact J281 e42 v6_263 v5_263 (0 : Int32) H locs ls h hP hD hS (lv_sub (l' := [(7, .int e42), (6, .int v6_263), (5, .int v5_263), (13, .int x122.1), (12, .int (b2i w0_117)), (11, .int (b2i v11_117)), (10, .int v10_117), (9, .int v9_117), (8, .int x27.1), (3, .int r2), (0, .ref (ad 0)), (1, .int a1), (2, .int a2)]) hl [0, 1, 2, 5, 6, 7, 8, 9, 10, 12, 13, 14, 15] rfl)
          · replace h := ifp (b2i_1 c43) h
            refine lv_iconst (v := 1) hx hb dX10_checksBy_273 (by decide) ?_
            refine lv_iload hx hb dX10_checksBy_274 (lv_at hl 4 rfl) ?_
            refine lv_ishl hx hb dX10_checksBy_276 ?_
            refine lv_goto (tgt := 281) hx hb dX10_checksBy_277 (by decide) ?_
            exact J281 e42 v6_263 v5_263 ((1 : Int32) <<< (v14_263 &&& 31)) H locs ls h hP hD hS (lv_sub (l' := [(7, .int e42), (6, .int v6_263), (5, .int v5_263), (13, .int x122.1), (12, .int (b2i w0_117)), (11, .int (b2i v11_117)), (10, .int v10_117), (9, .int v9_117), (8, .int x27.1), (3, .int r2), (0, .ref (ad 0)), (1, .int a1), (2, .int a2)]) hl [0, 1, 2, 5, 6, 7, 8, 9, 10, 12, 13, 14, 15] rfl)
        have J262 : ∀ (v6_262 : Int32) (v5_262 : Int32) (v15_262 : Bool) (v14_262 : Int32) (H : Heap) (locs : List Loc) (ls : Array Slot), zb_X10_checksBy_262 x122 v6_262 v5_262 v15_262 v14_262 = some yy122 → va_P (dC, dI) vwCl (Wd 24 (cfR ad cI) σ) H → va_D A (Wd 24 (cfR ad cI) σ) → va_S A s.heap H locs → lv_has ls 16 [(6, .int v6_262), (5, .int v5_262), (15, .int (b2i v15_262)), (14, .int v14_262), (13, .int x122.1), (12, .int (b2i w0_117)), (11, .int (b2i v11_117)), (10, .int v10_117), (9, .int v9_117), (8, .int x27.1), (4, .int x122.2.2.2.2), (3, .int r2), (0, .ref (ad 0)), (1, .int a1), (2, .int a2)] → W p l e (headSpec vc_X10_checksBy { frames := 2, cells := 0, slots := 0, locals := 46 }).room s m (List.toArray (α := Value) [.ref (ad 0), .int a1, .int a2]) below meth c H locs 0 0 (MQ below (va_Qi (fun (r : Int32) (_ : Unit) => r = o) (gB (dC, dI) A (fun (_ : Unit) => (Wd 24 (cfR ad cI) σ))) A) (List.toArray (α := Value) [.ref (ad 0), .int a1, .int a2]) s 0 0 A) (F0 m 262 ls [.int x122.2.1]) := by
          intro v6_262 v5_262 v15_262 v14_262 H locs ls h hP hD hS hl
          unfold zb_X10_checksBy_262 at h
          refine lv_iconst (v := 0) hx hb dX10_checksBy_262 (by decide) ?_
          exact J263 v6_262 v5_262 v15_262 v14_262 false H locs ls h hP hD hS (lv_sub (l' := [(6, .int v6_262), (5, .int v5_262), (15, .int (b2i v15_262)), (14, .int v14_262), (13, .int x122.1), (12, .int (b2i w0_117)), (11, .int (b2i v11_117)), (10, .int v10_117), (9, .int v9_117), (8, .int x27.1), (4, .int x122.2.2.2.2), (3, .int r2), (0, .ref (ad 0)), (1, .int a1), (2, .int a2)]) hl [0, 1, 2, 3, 4, 5, 6, 7, 8, 9, 10, 11, 12, 13, 14] rfl)
        have J229 : ∀ (v5_229 : Int32) (v15_229 : Bool) (v14_229 : Int32) (w0_229 : Bool) (H : Heap) (locs : List Loc) (ls : Array Slot), zb_X10_checksBy_229 r2 x122 v5_229 v15_229 v14_229 w0_229 = some yy122 → va_P (dC, dI) vwCl (Wd 24 (cfR ad cI) σ) H → va_D A (Wd 24 (cfR ad cI) σ) → va_S A s.heap H locs → lv_has ls 16 [(5, .int v5_229), (15, .int (b2i v15_229)), (14, .int v14_229), (13, .int x122.1), (12, .int (b2i w0_117)), (11, .int (b2i v11_117)), (10, .int v10_117), (9, .int v9_117), (8, .int x27.1), (7, .int x122.2.1), (4, .int x122.2.2.2.2), (3, .int r2), (0, .ref (ad 0)), (1, .int a1), (2, .int a2)] → W p l e (headSpec vc_X10_checksBy { frames := 2, cells := 0, slots := 0, locals := 46 }).room s m (List.toArray (α := Value) [.ref (ad 0), .int a1, .int a2]) below meth c H locs 0 0 (MQ below (va_Qi (fun (r : Int32) (_ : Unit) => r = o) (gB (dC, dI) A (fun (_ : Unit) => (Wd 24 (cfR ad cI) σ))) A) (List.toArray (α := Value) [.ref (ad 0), .int a1, .int a2]) s 0 0 A) (F0 m 229 ls [.int (b2i w0_229), .int x122.2.2.1]) := by
          intro v5_229 v15_229 v14_229 w0_229 H locs ls h hP hD hS hl
          unfold zb_X10_checksBy_229 at h
          refine lv_iadd hx hb dX10_checksBy_229 ?_
          obtain ⟨e36, he36, h⟩ := letb_inv h
          refine lv_nm he36 ?_
          refine lv_istore (lv' := [(6, .int e36), (5, .int v5_229), (15, .int (b2i v15_229)), (14, .int v14_229), (13, .int x122.1), (12, .int (b2i w0_117)), (11, .int (b2i v11_117)), (10, .int v10_117), (9, .int v9_117), (8, .int x27.1), (7, .int x122.2.1), (4, .int x122.2.2.2.2), (3, .int r2), (0, .ref (ad 0)), (1, .int a1), (2, .int a2)]) hx hb dX10_checksBy_230 hl (by decide) rfl (fun ls hl => ?_)
          refine lv_iload hx hb dX10_checksBy_232 (lv_at hl 10 rfl) ?_
          refine lv_iload hx hb dX10_checksBy_234 (lv_at hl 2 rfl) ?_
          refine lv_if_eq (tgt := 262) hx hb dX10_checksBy_236 (by decide) (fun c37 => ?_) (fun c37 => ?_)
          · replace h := ifn (b2i_0 c37) h
            exact J262 e36 v5_229 v15_229 v14_229 H locs ls h hP hD hS (lv_sub (l' := [(6, .int e36), (5, .int v5_229), (15, .int (b2i v15_229)), (14, .int v14_229), (13, .int x122.1), (12, .int (b2i w0_117)), (11, .int (b2i v11_117)), (10, .int v10_117), (9, .int v9_117), (8, .int x27.1), (4, .int x122.2.2.2.2), (3, .int r2), (0, .ref (ad 0)), (1, .int a1), (2, .int a2)]) hl [0, 1, 2, 3, 4, 5, 6, 7, 8, 9, 11, 12, 13, 14, 15] rfl)
          · replace h := ifp (b2i_1 c37) h
            refine lv_iload hx hb dX10_checksBy_239 (lv_at hl 11 rfl) ?_
            refine lv_iload hx hb dX10_checksBy_241 (lv_at hl 3 rfl) ?_
            refine wcalli (S := Unit) (va_runS (As := [.int x122.2.2.2.2, .int v14_229]) (rest := [.int x122.2.1]) ⟨hx, hb, hml, hown, hts⟩ (c_X10_isIn l dC dI cI cT cS H.size (Wd 24 (cfR ad cI) σ)  x122.2.2.2.2 v14_229 _ rfl) (va_cwS 2 hts (gWS (List.mem_of_getElem? (i := 14) rfl) (List.mem_of_getElem? (i := 15) rfl) (List.mem_of_getElem? (i := 5) rfl) ic_X10_checksBy_c_X10_isIn gd_c_X10_isIn) rfl rfl rfl (by decide +kernel) ⟨(Nat.le_of_ble_eq_true rfl), (Nat.le_of_ble_eq_true rfl)⟩) (gpS hP hK hD) rfl rfl hl.1 rfl (lv_room (Nat.le_of_ble_eq_true rfl)) dX10_checksBy_243 ⟨(Nat.le_of_ble_eq_true rfl), (Nat.le_of_ble_eq_true rfl)⟩) hP hD hS hA (fun rr38 _ H locs hr38 hP hD hS => ?_)
            refine lv_nm (y := b2i (zf_X10_isIn x122.2.2.2.2 v14_229)) hr38 ?_
            refine lv_if_ne (tgt := 262) hx hb dX10_checksBy_246 (by decide) (fun c39 => ?_) (fun c39 => ?_)
            · replace h := ifp (b2i_1 c39) h
              exact J262 e36 v5_229 v15_229 v14_229 H locs ls h hP hD hS (lv_sub (l' := [(6, .int e36), (5, .int v5_229), (15, .int (b2i v15_229)), (14, .int v14_229), (13, .int x122.1), (12, .int (b2i w0_117)), (11, .int (b2i v11_117)), (10, .int v10_117), (9, .int v9_117), (8, .int x27.1), (4, .int x122.2.2.2.2), (3, .int r2), (0, .ref (ad 0)), (1, .int a1), (2, .int a2)]) hl [0, 1, 2, 3, 4, 5, 6, 7, 8, 9, 11, 12, 13, 14, 15] rfl)
            · replace h := ifn (b2i_0 c39) h
              refine lv_iload_n hx hb dX10_checksBy_249 rfl (lv_at hl 12 rfl) ?_
              refine lv_iload hx hb dX10_checksBy_250 (lv_at hl 3 rfl) ?_
              refine wcalli (S := Unit) (va_runS (As := [.int r2, .int v14_229]) (rest := [.int x122.2.1]) ⟨hx, hb, hml, hown, hts⟩ (c_X10_isIn l dC dI cI cT cS H.size (Wd 24 (cfR ad cI) σ)  r2 v14_229 _ rfl) (va_cwS 2 hts (gWS (List.mem_of_getElem? (i := 14) rfl) (List.mem_of_getElem? (i := 15) rfl) (List.mem_of_getElem? (i := 5) rfl) ic_X10_checksBy_c_X10_isIn gd_c_X10_isIn) rfl rfl rfl (by decide +kernel) ⟨(Nat.le_of_ble_eq_true rfl), (Nat.le_of_ble_eq_true rfl)⟩) (gpS hP hK hD) rfl rfl hl.1 rfl (lv_room (Nat.le_of_ble_eq_true rfl)) dX10_checksBy_252 ⟨(Nat.le_of_ble_eq_true rfl), (Nat.le_of_ble_eq_true rfl)⟩) hP hD hS hA (fun rr40 _ H locs hr40 hP hD hS => ?_)
              refine lv_nm (y := b2i (zf_X10_isIn r2 v14_229)) hr40 ?_
              refine lv_if_ne (tgt := 262) hx hb dX10_checksBy_255 (by decide) (fun c41 => ?_) (fun c41 => ?_)
              · replace h := ifp (b2i_1 c41) h
                exact J262 e36 v5_229 v15_229 v14_229 H locs ls h hP hD hS (lv_sub (l' := [(6, .int e36), (5, .int v5_229), (15, .int (b2i v15_229)), (14, .int v14_229), (13, .int x122.1), (12, .int (b2i w0_117)), (11, .int (b2i v11_117)), (10, .int v10_117), (9, .int v9_117), (8, .int x27.1), (4, .int x122.2.2.2.2), (3, .int r2), (0, .ref (ad 0)), (1, .int a1), (2, .int a2)]) hl [0, 1, 2, 3, 4, 5, 6, 7, 8, 9, 11, 12, 13, 14, 15] rfl)
              · replace h := ifn (b2i_0 c41) h
                refine lv_iconst (v := 1) hx hb dX10_checksBy_258 (by decide) ?_
                refine lv_goto (tgt := 263) hx hb dX10_checksBy_259 (by decide) ?_
                exact J263 e36 v5_229 v15_229 v14_229 true H locs ls h hP hD hS (lv_sub (l' := [(6, .int e36), (5, .int v5_229), (15, .int (b2i v15_229)), (14, .int v14_229), (13, .int x122.1), (12, .int (b2i w0_117)), (11, .int (b2i v11_117)), (10, .int v10_117), (9, .int v9_117), (8, .int x27.1), (4, .int x122.2.2.2.2), (3, .int r2), (0, .ref (ad 0)), (1, .int a1), (2, .int a2)]) hl [0, 1, 2, 3, 4, 5, 6, 7, 8, 9, 11, 12, 13, 14, 15] rfl)
        have J228 : ∀ (v5_228 : Int32) (v15_228 : Bool) (v14_228 : Int32) (H : Heap) (locs : List Loc) (ls : Array Slot), zb_X10_checksBy_228 r2 x122 v5_228 v15_228 v14_228 = some yy122 → va_P (dC, dI) vwCl (Wd 24 (cfR ad cI) σ) H → va_D A (Wd 24 (cfR ad cI) σ) → va_S A s.heap H locs → lv_has ls 16 [(5, .int v5_228), (15, .int (b2i v15_228)), (14, .int v14_228), (13, .int x122.1), (12, .int (b2i w0_117)), (11, .int (b2i v11_117)), (10, .int v10_117), (9, .int v9_117), (8, .int x27.1), (7, .int x122.2.1), (4, .int x122.2.2.2.2), (3, .int r2), (0, .ref (ad 0)), (1, .int a1), (2, .int a2)] → W p l e (headSpec vc_X10_checksBy { frames := 2, cells := 0, slots := 0, locals := 46 }).room s m (List.toArray (α := Value) [.ref (ad 0), .int a1, .int a2]) below meth c H locs 0 0 (MQ below (va_Qi (fun (r : Int32) (_ : Unit) => r = o) (gB (dC, dI) A (fun (_ : Unit) => (Wd 24 (cfR ad cI) σ))) A) (List.toArray (α := Value) [.ref (ad 0), .int a1, .int a2]) s 0 0 A) (F0 m 228 ls [.int x122.2.2.1]) := by
          intro v5_228 v15_228 v14_228 H locs ls h hP hD hS hl
          unfold zb_X10_checksBy_228 at h
          refine lv_iconst (v := 0) hx hb dX10_checksBy_228 (by decide) ?_
          exact J229 v5_228 v15_228 v14_228 false H locs ls h hP hD hS (lv_sub (l' := [(5, .int v5_228), (15, .int (b2i v15_228)), (14, .int v14_228), (13, .int x122.1), (12, .int (b2i w0_117)), (11, .int (b2i v11_117)), (10, .int v10_117), (9, .int v9_117), (8, .int x27.1), (7, .int x122.2.1), (4, .int x122.2.2.2.2), (3, .int r2), (0, .ref (ad 0)), (1, .int a1), (2, .int a2)]) hl [0, 1, 2, 3, 4, 5, 6, 7, 8, 9, 10, 11, 12, 13, 14] rfl)
        have J204 : ∀ (v15_204 : Bool) (v14_204 : Int32) (w0_204 : Bool) (H : Heap) (locs : List Loc) (ls : Array Slot), zb_X10_checksBy_204 r2 x122 v15_204 v14_204 w0_204 = some yy122 → va_P (dC, dI) vwCl (Wd 24 (cfR ad cI) σ) H → va_D A (Wd 24 (cfR ad cI) σ) → va_S A s.heap H locs → lv_has ls 16 [(15, .int (b2i v15_204)), (14, .int v14_204), (13, .int x122.1), (12, .int (b2i w0_117)), (11, .int (b2i v11_117)), (10, .int v10_117), (9, .int v9_117), (8, .int x27.1), (7, .int x122.2.1), (6, .int x122.2.2.1), (4, .int x122.2.2.2.2), (3, .int r2), (0, .ref (ad 0)), (1, .int a1), (2, .int a2)] → W p l e (headSpec vc_X10_checksBy { frames := 2, cells := 0, slots := 0, locals := 46 }).room s m (List.toArray (α := Value) [.ref (ad 0), .int a1, .int a2]) below meth c H locs 0 0 (MQ below (va_Qi (fun (r : Int32) (_ : Unit) => r = o) (gB (dC, dI) A (fun (_ : Unit) => (Wd 24 (cfR ad cI) σ))) A) (List.toArray (α := Value) [.ref (ad 0), .int a1, .int a2]) s 0 0 A) (F0 m 204 ls [.int (b2i w0_204), .int x122.2.2.2.1]) := by
          intro v15_204 v14_204 w0_204 H locs ls h hP hD hS hl
          unfold zb_X10_checksBy_204 at h
          refine lv_iadd hx hb dX10_checksBy_204 ?_
          obtain ⟨e32, he32, h⟩ := letb_inv h
          refine lv_nm he32 ?_
          refine lv_istore (lv' := [(5, .int e32), (15, .int (b2i v15_204)), (14, .int v14_204), (13, .int x122.1), (12, .int (b2i w0_117)), (11, .int (b2i v11_117)), (10, .int v10_117), (9, .int v9_117), (8, .int x27.1), (7, .int x122.2.1), (6, .int x122.2.2.1), (4, .int x122.2.2.2.2), (3, .int r2), (0, .ref (ad 0)), (1, .int a1), (2, .int a2)]) hx hb dX10_checksBy_205 hl (by decide) rfl (fun ls hl => ?_)
          refine lv_iload hx hb dX10_checksBy_207 (lv_at hl 10 rfl) ?_
          refine lv_iload hx hb dX10_checksBy_209 (lv_at hl 1 rfl) ?_
          refine lv_if_eq (tgt := 228) hx hb dX10_checksBy_211 (by decide) (fun c33 => ?_) (fun c33 => ?_)
          · replace h := ifn (b2i_0 c33) h
            exact J228 e32 v15_204 v14_204 H locs ls h hP hD hS (lv_sub (l' := [(5, .int e32), (15, .int (b2i v15_204)), (14, .int v14_204), (13, .int x122.1), (12, .int (b2i w0_117)), (11, .int (b2i v11_117)), (10, .int v10_117), (9, .int v9_117), (8, .int x27.1), (7, .int x122.2.1), (4, .int x122.2.2.2.2), (3, .int r2), (0, .ref (ad 0)), (1, .int a1), (2, .int a2)]) hl [0, 1, 2, 3, 4, 5, 6, 7, 8, 9, 11, 12, 13, 14, 15] rfl)
          · replace h := ifp (b2i_1 c33) h
            refine lv_iload hx hb dX10_checksBy_214 (lv_at hl 11 rfl) ?_
            refine lv_iload hx hb dX10_checksBy_216 (lv_at hl 2 rfl) ?_
            refine wcalli (S := Unit) (va_runS (As := [.int x122.2.2.2.2, .int v14_204]) (rest := [.int x122.2.2.1]) ⟨hx, hb, hml, hown, hts⟩ (c_X10_isIn l dC dI cI cT cS H.size (Wd 24 (cfR ad cI) σ)  x122.2.2.2.2 v14_204 _ rfl) (va_cwS 2 hts (gWS (List.mem_of_getElem? (i := 14) rfl) (List.mem_of_getElem? (i := 15) rfl) (List.mem_of_getElem? (i := 5) rfl) ic_X10_checksBy_c_X10_isIn gd_c_X10_isIn) rfl rfl rfl (by decide +kernel) ⟨(Nat.le_of_ble_eq_true rfl), (Nat.le_of_ble_eq_true rfl)⟩) (gpS hP hK hD) rfl rfl hl.1 rfl (lv_room (Nat.le_of_ble_eq_true rfl)) dX10_checksBy_218 ⟨(Nat.le_of_ble_eq_true rfl), (Nat.le_of_ble_eq_true rfl)⟩) hP hD hS hA (fun rr34 _ H locs hr34 hP hD hS => ?_)
            refine lv_nm (y := b2i (zf_X10_isIn x122.2.2.2.2 v14_204)) hr34 ?_
            refine lv_if_ne (tgt := 228) hx hb dX10_checksBy_221 (by decide) (fun c35 => ?_) (fun c35 => ?_)
            · replace h := ifp (b2i_1 c35) h
              exact J228 e32 v15_204 v14_204 H locs ls h hP hD hS (lv_sub (l' := [(5, .int e32), (15, .int (b2i v15_204)), (14, .int v14_204), (13, .int x122.1), (12, .int (b2i w0_117)), (11, .int (b2i v11_117)), (10, .int v10_117), (9, .int v9_117), (8, .int x27.1), (7, .int x122.2.1), (4, .int x122.2.2.2.2), (3, .int r2), (0, .ref (ad 0)), (1, .int a1), (2, .int a2)]) hl [0, 1, 2, 3, 4, 5, 6, 7, 8, 9, 11, 12, 13, 14, 15] rfl)
            · replace h := ifn (b2i_0 c35) h
              refine lv_iconst (v := 1) hx hb dX10_checksBy_224 (by decide) ?_
              refine lv_goto (tgt := 229) hx hb dX10_checksBy_225 (by decide) ?_
              exact J229 e32 v15_204 v14_204 true H locs ls h hP hD hS (lv_sub (l' := [(5, .int e32), (15, .int (b2i v15_204)), (14, .int v14_204), (13, .int x122.1), (12, .int (b2i w0_117)), (11, .int (b2i v11_117)), (10, .int v10_117), (9, .int v9_117), (8, .int x27.1), (7, .int x122.2.1), (4, .int x122.2.2.2.2), (3, .int r2), (0, .ref (ad 0)), (1, .int a1), (2, .int a2)]) hl [0, 1, 2, 3, 4, 5, 6, 7, 8, 9, 11, 12, 13, 14, 15] rfl)
        have J190 : ∀ (v14_190 : Int32) (w0_190 : Bool) (H : Heap) (locs : List Loc) (ls : Array Slot), zb_X10_checksBy_190 r2 x122 v14_190 w0_190 = some yy122 → va_P (dC, dI) vwCl (Wd 24 (cfR ad cI) σ) H → va_D A (Wd 24 (cfR ad cI) σ) → va_S A s.heap H locs → lv_has ls 16 [(14, .int v14_190), (13, .int x122.1), (12, .int (b2i w0_117)), (11, .int (b2i v11_117)), (10, .int v10_117), (9, .int v9_117), (8, .int x27.1), (7, .int x122.2.1), (6, .int x122.2.2.1), (5, .int x122.2.2.2.1), (4, .int x122.2.2.2.2), (3, .int r2), (0, .ref (ad 0)), (1, .int a1), (2, .int a2)] → W p l e (headSpec vc_X10_checksBy { frames := 2, cells := 0, slots := 0, locals := 46 }).room s m (List.toArray (α := Value) [.ref (ad 0), .int a1, .int a2]) below meth c H locs 0 0 (MQ below (va_Qi (fun (r : Int32) (_ : Unit) => r = o) (gB (dC, dI) A (fun (_ : Unit) => (Wd 24 (cfR ad cI) σ))) A) (List.toArray (α := Value) [.ref (ad 0), .int a1, .int a2]) s 0 0 A) (F0 m 190 ls [.int (b2i w0_190)]) := by
          intro v14_190 w0_190 H locs ls h hP hD hS hl
          unfold zb_X10_checksBy_190 at h
          refine lv_istore (lv' := [(15, .int (b2i w0_190)), (14, .int v14_190), (13, .int x122.1), (12, .int (b2i w0_117)), (11, .int (b2i v11_117)), (10, .int v10_117), (9, .int v9_117), (8, .int x27.1), (7, .int x122.2.1), (6, .int x122.2.2.1), (5, .int x122.2.2.2.1), (4, .int x122.2.2.2.2), (3, .int r2), (0, .ref (ad 0)), (1, .int a1), (2, .int a2)]) hx hb dX10_checksBy_190 hl (by decide) rfl (fun ls hl => ?_)
          refine lv_iload hx hb dX10_checksBy_192 (lv_at hl 10 rfl) ?_
          refine lv_iload hx hb dX10_checksBy_194 (lv_at hl 0 rfl) ?_
          refine lv_if_eq (tgt := 203) hx hb dX10_checksBy_196 (by decide) (fun c31 => ?_) (fun c31 => ?_)
          · replace h := ifn (b2i_0 c31) h
            refine lv_iconst (v := 0) hx hb dX10_checksBy_203 (by decide) ?_
            exact J204 w0_190 v14_190 false H locs ls h hP hD hS (lv_sub (l' := [(15, .int (b2i w0_190)), (14, .int v14_190), (13, .int x122.1), (12, .int (b2i w0_117)), (11, .int (b2i v11_117)), (10, .int v10_117), (9, .int v9_117), (8, .int x27.1), (7, .int x122.2.1), (6, .int x122.2.2.1), (4, .int x122.2.2.2.2), (3, .int r2), (0, .ref (ad 0)), (1, .int a1), (2, .int a2)]) hl [0, 1, 2, 3, 4, 5, 6, 7, 8, 9, 11, 12, 13, 14, 15] rfl)
          · replace h := ifp (b2i_1 c31) h
            refine lv_iconst (v := 1) hx hb dX10_checksBy_199 (by decide) ?_
            refine lv_goto (tgt := 204) hx hb dX10_checksBy_200 (by decide) ?_
            exact J204 w0_190 v14_190 true H locs ls h hP hD hS (lv_sub (l' := [(15, .int (b2i w0_190)), (14, .int v14_190), (13, .int x122.1), (12, .int (b2i w0_117)), (11, .int (b2i v11_117)), (10, .int v10_117), (9, .int v9_117), (8, .int x27.1), (7, .int x122.2.1), (6, .int x122.2.2.1), (4, .int x122.2.2.2.2), (3, .int r2), (0, .ref (ad 0)), (1, .int a1), (2, .int a2)]) hl [0, 1, 2, 3, 4, 5, 6, 7, 8, 9, 11, 12, 13, 14, 15] rfl)
        have J185 : ∀ (v14_185 : Int32) (H : Heap) (locs : List Loc) (ls : Array Slot), zb_X10_checksBy_185 r2 x122 v14_185 = some yy122 → va_P (dC, dI) vwCl (Wd 24 (cfR ad cI) σ) H → va_D A (Wd 24 (cfR ad cI) σ) → va_S A s.heap H locs → lv_has ls 16 [(14, .int v14_185), (13, .int x122.1), (12, .int (b2i w0_117)), (11, .int (b2i v11_117)), (10, .int v10_117), (9, .int v9_117), (8, .int x27.1), (7, .int x122.2.1), (6, .int x122.2.2.1), (5, .int x122.2.2.2.1), (4, .int x122.2.2.2.2), (3, .int r2), (0, .ref (ad 0)), (1, .int a1), (2, .int a2)] → W p l e (headSpec vc_X10_checksBy { frames := 2, cells := 0, slots := 0, locals := 46 }).room s m (List.toArray (α := Value) [.ref (ad 0), .int a1, .int a2]) below meth c H locs 0 0 (MQ below (va_Qi (fun (r : Int32) (_ : Unit) => r = o) (gB (dC, dI) A (fun (_ : Unit) => (Wd 24 (cfR ad cI) σ))) A) (List.toArray (α := Value) [.ref (ad 0), .int a1, .int a2]) s 0 0 A) (F0 m 185 ls []) := by
          intro v14_185 H locs ls h hP hD hS hl
          unfold zb_X10_checksBy_185 at h
          refine lv_iconst (v := 1) hx hb dX10_checksBy_185 (by decide) ?_
          refine lv_goto (tgt := 190) hx hb dX10_checksBy_186 (by decide) ?_
          exact J190 v14_185 true H locs ls h hP hD hS (lv_sub (l' := [(14, .int v14_185), (13, .int x122.1), (12, .int (b2i w0_117)), (11, .int (b2i v11_117)), (10, .int v10_117), (9, .int v9_117), (8, .int x27.1), (7, .int x122.2.1), (6, .int x122.2.2.1), (5, .int x122.2.2.2.1), (4, .int x122.2.2.2.2), (3, .int r2), (0, .ref (ad 0)), (1, .int a1), (2, .int a2)]) hl [0, 1, 2, 3, 4, 5, 6, 7, 8, 9, 10, 11, 12, 13, 14] rfl)
        have J189 : ∀ (v14_189 : Int32) (H : Heap) (locs : List Loc) (ls : Array Slot), zb_X10_checksBy_189 r2 x122 v14_189 = some yy122 → va_P (dC, dI) vwCl (Wd 24 (cfR ad cI) σ) H → va_D A (Wd 24 (cfR ad cI) σ) → va_S A s.heap H locs → lv_has ls 16 [(14, .int v14_189), (13, .int x122.1), (12, .int (b2i w0_117)), (11, .int (b2i v11_117)), (10, .int v10_117), (9, .int v9_117), (8, .int x27.1), (7, .int x122.2.1), (6, .int x122.2.2.1), (5, .int x122.2.2.2.1), (4, .int x122.2.2.2.2), (3, .int r2), (0, .ref (ad 0)), (1, .int a1), (2, .int a2)] → W p l e (headSpec vc_X10_checksBy { frames := 2, cells := 0, slots := 0, locals := 46 }).room s m (List.toArray (α := Value) [.ref (ad 0), .int a1, .int a2]) below meth c H locs 0 0 (MQ below (va_Qi (fun (r : Int32) (_ : Unit) => r = o) (gB (dC, dI) A (fun (_ : Unit) => (Wd 24 (cfR ad cI) σ))) A) (List.toArray (α := Value) [.ref (ad 0), .int a1, .int a2]) s 0 0 A) (F0 m 189 ls []) := by
          intro v14_189 H locs ls h hP hD hS hl
          unfold zb_X10_checksBy_189 at h
          refine lv_iconst (v := 0) hx hb dX10_checksBy_189 (by decide) ?_
          exact J190 v14_189 false H locs ls h hP hD hS (lv_sub (l' := [(14, .int v14_189), (13, .int x122.1), (12, .int (b2i w0_117)), (11, .int (b2i v11_117)), (10, .int v10_117), (9, .int v9_117), (8, .int x27.1), (7, .int x122.2.1), (6, .int x122.2.2.1), (5, .int x122.2.2.2.1), (4, .int x122.2.2.2.2), (3, .int r2), (0, .ref (ad 0)), (1, .int a1), (2, .int a2)]) hl [0, 1, 2, 3, 4, 5, 6, 7, 8, 9, 10, 11, 12, 13, 14] rfl)
        have J148 : ∀ (w0_148 : Int32) (H : Heap) (locs : List Loc) (ls : Array Slot), zb_X10_checksBy_148 σ r2 v11_117 v9_117 w0_117 x122 w0_148 = some yy122 → va_P (dC, dI) vwCl (Wd 24 (cfR ad cI) σ) H → va_D A (Wd 24 (cfR ad cI) σ) → va_S A s.heap H locs → lv_has ls 16 [(13, .int x122.1), (12, .int (b2i w0_117)), (11, .int (b2i v11_117)), (10, .int v10_117), (9, .int v9_117), (8, .int x27.1), (7, .int x122.2.1), (6, .int x122.2.2.1), (5, .int x122.2.2.2.1), (4, .int x122.2.2.2.2), (3, .int r2), (0, .ref (ad 0)), (1, .int a1), (2, .int a2)] → W p l e (headSpec vc_X10_checksBy { frames := 2, cells := 0, slots := 0, locals := 46 }).room s m (List.toArray (α := Value) [.ref (ad 0), .int a1, .int a2]) below meth c H locs 0 0 (MQ below (va_Qi (fun (r : Int32) (_ : Unit) => r = o) (gB (dC, dI) A (fun (_ : Unit) => (Wd 24 (cfR ad cI) σ))) A) (List.toArray (α := Value) [.ref (ad 0), .int a1, .int a2]) s 0 0 A) (F0 m 148 ls [.int w0_148]) := by
          intro w0_148 H locs ls h hP hD hS hl
          unfold zb_X10_checksBy_148 at h
          refine lv_istore (lv' := [(14, .int w0_148), (13, .int x122.1), (12, .int (b2i w0_117)), (11, .int (b2i v11_117)), (10, .int v10_117), (9, .int v9_117), (8, .int x27.1), (7, .int x122.2.1), (6, .int x122.2.2.1), (5, .int x122.2.2.2.1), (4, .int x122.2.2.2.2), (3, .int r2), (0, .ref (ad 0)), (1, .int a1), (2, .int a2)]) hx hb dX10_checksBy_148 hl (by decide) rfl (fun ls hl => ?_)
          refine lv_iload hx hb dX10_checksBy_150 (lv_at hl 1 rfl) ?_
          refine lv_if_ne (tgt := 160) hx hb dX10_checksBy_152 (by decide) (fun c23 => ?_) (fun c23 => ?_)
          · replace h := ifn (c23) h
            refine lv_iload hx hb dX10_checksBy_160 (lv_at hl 2 rfl) ?_
            refine lv_if_eq (tgt := 189) hx hb dX10_checksBy_162 (by decide) (fun c24 => ?_) (fun c24 => ?_)
            · replace h := ifn (b2i_0 c24) h
              exact J189 w0_148 H locs ls h hP hD hS (lv_sub (l' := [(14, .int w0_148), (13, .int x122.1), (12, .int (b2i w0_117)), (11, .int (b2i v11_117)), (10, .int v10_117), (9, .int v9_117), (8, .int x27.1), (7, .int x122.2.1), (6, .int x122.2.2.1), (5, .int x122.2.2.2.1), (4, .int x122.2.2.2.2), (3, .int r2), (0, .ref (ad 0)), (1, .int a1), (2, .int a2)]) hl [0, 1, 2, 3, 4, 5, 6, 7, 8, 9, 10, 11, 12, 13, 14] rfl)
            · replace h := ifp (b2i_1 c24) h
              refine lv_iload hx hb dX10_checksBy_165 (lv_at hl 3 rfl) ?_
              refine lv_if_eq (tgt := 185) hx hb dX10_checksBy_167 (by decide) (fun c25 => ?_) (fun c25 => ?_)
              · replace h := ifn (b2i_0 c25) h
                exact J185 w0_148 H locs ls h hP hD hS (lv_sub (l' := [(14, .int w0_148), (13, .int x122.1), (12, .int (b2i w0_117)), (11, .int (b2i v11_117)), (10, .int v10_117), (9, .int v9_117), (8, .int x27.1), (7, .int x122.2.1), (6, .int x122.2.2.1), (5, .int x122.2.2.2.1), (4, .int x122.2.2.2.2), (3, .int r2), (0, .ref (ad 0)), (1, .int a1), (2, .int a2)]) hl [0, 1, 2, 3, 4, 5, 6, 7, 8, 9, 10, 11, 12, 13, 14] rfl)
              · replace h := ifp (b2i_1 c25) h
                refine lv_aload_n hx hb dX10_checksBy_170 rfl (lv_at hl 12 rfl) ?_
                refine lv_iload hx hb dX10_checksBy_171 (lv_at hl 5 rfl) ?_
                obtain ⟨r26, hc26, h⟩ := obd_inv h
                refine wcalli (S := Unit) (va_runV (As := [.int v9_117]) (rest := []) ⟨hx, hb, hml, hown, hts⟩ (c_X10_y l dC dI cI cT cS H.size ad  v9_117 σ _ hc26) (cwV 1 hts (gWV (List.mem_of_getElem? (i := 11) rfl) (List.mem_of_getElem? (i := 12) rfl) (List.mem_of_getElem? (i := 13) rfl) (List.mem_of_getElem? (i := 5) rfl) ic_X10_checksBy_c_X10_y gd_c_X10_y) rfl rfl rfl (by decide +kernel) ⟨(Nat.le_of_ble_eq_true rfl), (Nat.le_of_ble_eq_true rfl)⟩) (wpV (q := (RX10, TX10, 46)) hP hK hD oX10 rfl) rfl rfl hl.1 rfl (lv_room (Nat.le_of_ble_eq_true rfl)) dX10_checksBy_173 ⟨(Nat.le_of_ble_eq_true rfl), (Nat.le_of_ble_eq_true rfl)⟩) hP hD hS hA (fun rr27 _ H locs hr27 hP hD hS => ?_)
                refine lv_nm (y := r26) hr27 ?_
                refine lv_aload_n hx hb dX10_checksBy_176 rfl (lv_at hl 12 rfl) ?_
                refine lv_iload hx hb dX10_checksBy_177 (lv_at hl 5 rfl) ?_
                obtain ⟨r28, hc28, h⟩ := obd_inv h
                refine wcalli (S := Unit) (va_runV (As := [.int v9_117]) (rest := [.int r26]) ⟨hx, hb, hml, hown, hts⟩ (c_X10_z l dC dI cI cT cS H.size ad  v9_117 σ _ hc28) (cwV 1 hts (gWV (List.mem_of_getElem? (i := 8) rfl) (List.mem_of_getElem? (i := 9) rfl) (List.mem_of_getElem? (i := 10) rfl) (List.mem_of_getElem? (i := 5) rfl) ic_X10_checksBy_c_X10_z gd_c_X10_z) rfl rfl rfl (by decide +kernel) ⟨(Nat.le_of_ble_eq_true rfl), (Nat.le_of_ble_eq_true rfl)⟩) (wpV (q := (RX10, TX10, 46)) hP hK hD oX10 rfl) rfl rfl hl.1 rfl (lv_room (Nat.le_of_ble_eq_true rfl)) dX10_checksBy_179 ⟨(Nat.le_of_ble_eq_true rfl), (Nat.le_of_ble_eq_true rfl)⟩) hP hD hS hA (fun rr29 _ H locs hr29 hP hD hS => ?_)
                refine lv_nm (y := r28) hr29 ?_
                refine lv_icmp_eq (tgt := 189) hx hb dX10_checksBy_182 (by decide) (fun c30 => ?_) (fun c30 => ?_)
                · replace h := ifp (c30) h
                  exact J189 w0_148 H locs ls h hP hD hS (lv_sub (l' := [(14, .int w0_148), (13, .int x122.1), (12, .int (b2i w0_117)), (11, .int (b2i v11_117)), (10, .int v10_117), (9, .int v9_117), (8, .int x27.1), (7, .int x122.2.1), (6, .int x122.2.2.1), (5, .int x122.2.2.2.1), (4, .int x122.2.2.2.2), (3, .int r2), (0, .ref (ad 0)), (1, .int a1), (2, .int a2)]) hl [0, 1, 2, 3, 4, 5, 6, 7, 8, 9, 10, 11, 12, 13, 14] rfl)
                · replace h := ifn (c30) h
                  exact J185 w0_148 H locs ls h hP hD hS (lv_sub (l' := [(14, .int w0_148), (13, .int x122.1), (12, .int (b2i w0_117)), (11, .int (b2i v11_117)), (10, .int v10_117), (9, .int v9_117), (8, .int x27.1), (7, .int x122.2.1), (6, .int x122.2.2.1), (5, .int x122.2.2.2.1), (4, .int x122.2.2.2.2), (3, .int r2), (0, .ref (ad 0)), (1, .int a1), (2, .int a2)]) hl [0, 1, 2, 3, 4, 5, 6, 7, 8, 9, 10, 11, 12, 13, 14] rfl)
          · replace h := ifp (c23) h
            refine lv_iload hx hb dX10_checksBy_155 (lv_at hl 3 rfl) ?_
            refine lv_goto (tgt := 190) hx hb dX10_checksBy_157 (by decide) ?_
            exact J190 w0_148 v11_117 H locs ls h hP hD hS (lv_sub (l' := [(14, .int w0_148), (13, .int x122.1), (12, .int (b2i w0_117)), (11, .int (b2i v11_117)), (10, .int v10_117), (9, .int v9_117), (8, .int x27.1), (7, .int x122.2.1), (6, .int x122.2.2.1), (5, .int x122.2.2.2.1), (4, .int x122.2.2.2.2), (3, .int r2), (0, .ref (ad 0)), (1, .int a1), (2, .int a2)]) hl [0, 1, 2, 3, 4, 5, 6, 7, 8, 9, 10, 11, 12, 13, 14] rfl)
        refine lv_iload hx hb dX10_checksBy_122 (lv_at hl 0 rfl) ?_
        refine lv_iconst (v := 2) hx hb dX10_checksBy_124 (by decide) ?_
        refine lv_icmp_ge (tgt := 290) hx hb dX10_checksBy_125 (by decide) (fun c17 => ?_) (fun c17 => ?_)
        · replace h := ifp (c17) h
          obtain rfl := Option.some.inj h
          exact hf122 rfl H locs ls hP hD hS (lv_sub (l' := [(10, .int v10_117), (9, .int v9_117), (8, .int x27.1), (7, .int x122.2.1), (6, .int x122.2.2.1), (5, .int x122.2.2.2.1), (4, .int x122.2.2.2.2), (3, .int r2), (0, .ref (ad 0)), (1, .int a1), (2, .int a2)]) hl [3, 4, 5, 6, 7, 8, 9, 10, 11, 12, 13] rfl)
        · replace h := ifn (c17) h
          refine lv_iload hx hb dX10_checksBy_128 (lv_at hl 0 rfl) ?_
          refine lv_if_ne (tgt := 142) hx hb dX10_checksBy_130 (by decide) (fun c18 => ?_) (fun c18 => ?_)
          · replace h := ifn (c18) h
            refine lv_aload_n hx hb dX10_checksBy_142 rfl (lv_at hl 11 rfl) ?_
            refine lv_iload hx hb dX10_checksBy_143 (lv_at hl 4 rfl) ?_
            obtain ⟨r19, hc19, h⟩ := obd_inv h
            refine wcalli (S := Unit) (va_runV (As := [.int v9_117]) (rest := []) ⟨hx, hb, hml, hown, hts⟩ (c_X10_z l dC dI cI cT cS H.size ad  v9_117 σ _ hc19) (cwV 1 hts (gWV (List.mem_of_getElem? (i := 8) rfl) (List.mem_of_getElem? (i := 9) rfl) (List.mem_of_getElem? (i := 10) rfl) (List.mem_of_getElem? (i := 5) rfl) ic_X10_checksBy_c_X10_z gd_c_X10_z) rfl rfl rfl (by decide +kernel) ⟨(Nat.le_of_ble_eq_true rfl), (Nat.le_of_ble_eq_true rfl)⟩) (wpV (q := (RX10, TX10, 46)) hP hK hD oX10 rfl) rfl rfl hl.1 rfl (lv_room (Nat.le_of_ble_eq_true rfl)) dX10_checksBy_145 ⟨(Nat.le_of_ble_eq_true rfl), (Nat.le_of_ble_eq_true rfl)⟩) hP hD hS hA (fun rr20 _ H locs hr20 hP hD hS => ?_)
            refine lv_nm (y := r19) hr20 ?_
            exact J148 r19 H locs ls h hP hD hS (lv_sub (l' := [(13, .int x122.1), (12, .int (b2i w0_117)), (11, .int (b2i v11_117)), (10, .int v10_117), (9, .int v9_117), (8, .int x27.1), (7, .int x122.2.1), (6, .int x122.2.2.1), (5, .int x122.2.2.2.1), (4, .int x122.2.2.2.2), (3, .int r2), (0, .ref (ad 0)), (1, .int a1), (2, .int a2)]) hl [0, 1, 2, 3, 4, 5, 6, 7, 8, 9, 10, 11, 12, 13] rfl)
          · replace h := ifp (c18) h
            refine lv_aload_n hx hb dX10_checksBy_133 rfl (lv_at hl 11 rfl) ?_
            refine lv_iload hx hb dX10_checksBy_134 (lv_at hl 4 rfl) ?_
            obtain ⟨r21, hc21, h⟩ := obd_inv h
            refine wcalli (S := Unit) (va_runV (As := [.int v9_117]) (rest := []) ⟨hx, hb, hml, hown, hts⟩ (c_X10_y l dC dI cI cT cS H.size ad  v9_117 σ _ hc21) (cwV 1 hts (gWV (List.mem_of_getElem? (i := 11) rfl) (List.mem_of_getElem? (i := 12) rfl) (List.mem_of_getElem? (i := 13) rfl) (List.mem_of_getElem? (i := 5) rfl) ic_X10_checksBy_c_X10_y gd_c_X10_y) rfl rfl rfl (by decide +kernel) ⟨(Nat.le_of_ble_eq_true rfl), (Nat.le_of_ble_eq_true rfl)⟩) (wpV (q := (RX10, TX10, 46)) hP hK hD oX10 rfl) rfl rfl hl.1 rfl (lv_room (Nat.le_of_ble_eq_true rfl)) dX10_checksBy_136 ⟨(Nat.le_of_ble_eq_true rfl), (Nat.le_of_ble_eq_true rfl)⟩) hP hD hS hA (fun rr22 _ H locs hr22 hP hD hS => ?_)
            refine lv_nm (y := r21) hr22 ?_
            refine lv_goto (tgt := 148) hx hb dX10_checksBy_139 (by decide) ?_
            exact J148 r21 H locs ls h hP hD hS (lv_sub (l' := [(13, .int x122.1), (12, .int (b2i w0_117)), (11, .int (b2i v11_117)), (10, .int v10_117), (9, .int v9_117), (8, .int x27.1), (7, .int x122.2.1), (6, .int x122.2.2.1), (5, .int x122.2.2.2.1), (4, .int x122.2.2.2.2), (3, .int r2), (0, .ref (ad 0)), (1, .int a1), (2, .int a2)]) hl [0, 1, 2, 3, 4, 5, 6, 7, 8, 9, 10, 11, 12, 13] rfl)
      · intro H locs ls hP hD hS hl
        refine lv_iload hx hb dX10_checksBy_290 (lv_at hl 6 rfl) ?_
        refine lv_iload hx hb dX10_checksBy_292 (lv_at hl 0 rfl) ?_
        refine lv_bipush (v := 8) hx hb dX10_checksBy_294 (by decide) ?_
        refine lv_icmp_ne (tgt := 310) hx hb dX10_checksBy_296 (by decide) (fun c45 => ?_) (fun c45 => ?_)
        · replace h := ifn (c45) h
          refine lv_iconst (v := 0) hx hb dX10_checksBy_310 (by decide) ?_
          exact J311 v10_117 v9_117 y122.2.1 y122.2.2.1 y122.2.2.2.1 (0 : Int32) y122.2.2.2.2 H locs ls h hP hD hS (lv_sub (l' := [(10, .int v10_117), (9, .int v9_117), (8, .int x27.1), (7, .int y122.2.1), (6, .int y122.2.2.1), (5, .int y122.2.2.2.1), (3, .int r2), (0, .ref (ad 0)), (1, .int a1), (2, .int a2)]) hl [0, 1, 2, 3, 4, 5, 7, 8, 9, 10] rfl)
        · replace h := ifp (c45) h
          refine lv_iconst (v := 1) hx hb dX10_checksBy_299 (by decide) ?_
          refine lv_aload_n hx hb dX10_checksBy_300 rfl (lv_at hl 8 rfl) ?_
          refine lv_iload hx hb dX10_checksBy_301 (lv_at hl 1 rfl) ?_
          obtain ⟨r46, hc46, h⟩ := obd_inv h
          refine wcalli (S := Unit) (va_runV (As := [.int v9_117]) (rest := [.int (1 : Int32), .int y122.2.2.2.2]) ⟨hx, hb, hml, hown, hts⟩ (c_X10_z l dC dI cI cT cS H.size ad  v9_117 σ _ hc46) (cwV 1 hts (gWV (List.mem_of_getElem? (i := 8) rfl) (List.mem_of_getElem? (i := 9) rfl) (List.mem_of_getElem? (i := 10) rfl) (List.mem_of_getElem? (i := 5) rfl) ic_X10_checksBy_c_X10_z gd_c_X10_z) rfl rfl rfl (by decide +kernel) ⟨(Nat.le_of_ble_eq_true rfl), (Nat.le_of_ble_eq_true rfl)⟩) (wpV (q := (RX10, TX10, 46)) hP hK hD oX10 rfl) rfl rfl hl.1 rfl (lv_room (Nat.le_of_ble_eq_true rfl)) dX10_checksBy_303 ⟨(Nat.le_of_ble_eq_true rfl), (Nat.le_of_ble_eq_true rfl)⟩) hP hD hS hA (fun rr47 _ H locs hr47 hP hD hS => ?_)
          refine lv_nm (y := r46) hr47 ?_
          refine lv_ishl hx hb dX10_checksBy_306 ?_
          refine lv_goto (tgt := 311) hx hb dX10_checksBy_307 (by decide) ?_
          exact J311 v10_117 v9_117 y122.2.1 y122.2.2.1 y122.2.2.2.1 ((1 : Int32) <<< (r46 &&& 31)) y122.2.2.2.2 H locs ls h hP hD hS (lv_sub (l' := [(10, .int v10_117), (9, .int v9_117), (8, .int x27.1), (7, .int y122.2.1), (6, .int y122.2.2.1), (5, .int y122.2.2.2.1), (3, .int r2), (0, .ref (ad 0)), (1, .int a1), (2, .int a2)]) hl [0, 1, 2, 3, 4, 5, 7, 8, 9, 10] rfl)
    have J112 : ∀ (v11_112 : Bool) (v10_112 : Int32) (v9_112 : Int32) (H : Heap) (locs : List Loc) (ls : Array Slot), zb_X10_checksBy_112 σ r2 x27 v11_112 v10_112 v9_112 = some yy27 → va_P (dC, dI) vwCl (Wd 24 (cfR ad cI) σ) H → va_D A (Wd 24 (cfR ad cI) σ) → va_S A s.heap H locs → lv_has ls 16 [(11, .int (b2i v11_112)), (10, .int v10_112), (9, .int v9_112), (8, .int x27.1), (7, .int x27.2.1), (6, .int x27.2.2.1), (5, .int x27.2.2.2.1), (4, .int x27.2.2.2.2), (3, .int r2), (0, .ref (ad 0)), (1, .int a1), (2, .int a2)] → W p l e (headSpec vc_X10_checksBy { frames := 2, cells := 0, slots := 0, locals := 46 }).room s m (List.toArray (α := Value) [.ref (ad 0), .int a1, .int a2]) below meth c H locs 0 0 (MQ below (va_Qi (fun (r : Int32) (_ : Unit) => r = o) (gB (dC, dI) A (fun (_ : Unit) => (Wd 24 (cfR ad cI) σ))) A) (List.toArray (α := Value) [.ref (ad 0), .int a1, .int a2]) s 0 0 A) (F0 m 112 ls []) := by
      intro v11_112 v10_112 v9_112 H locs ls h hP hD hS hl
      unfold zb_X10_checksBy_112 at h
      refine lv_iconst (v := 1) hx hb dX10_checksBy_112 (by decide) ?_
      refine lv_goto (tgt := 117) hx hb dX10_checksBy_113 (by decide) ?_
      exact J117 v11_112 v10_112 v9_112 true H locs ls h hP hD hS (lv_sub (l' := [(11, .int (b2i v11_112)), (10, .int v10_112), (9, .int v9_112), (8, .int x27.1), (7, .int x27.2.1), (6, .int x27.2.2.1), (5, .int x27.2.2.2.1), (4, .int x27.2.2.2.2), (3, .int r2), (0, .ref (ad 0)), (1, .int a1), (2, .int a2)]) hl [0, 1, 2, 3, 4, 5, 6, 7, 8, 9, 10, 11] rfl)
    have J93 : ∀ (v10_93 : Int32) (v9_93 : Int32) (w0_93 : Bool) (H : Heap) (locs : List Loc) (ls : Array Slot), zb_X10_checksBy_93 σ r2 x27 v10_93 v9_93 w0_93 = some yy27 → va_P (dC, dI) vwCl (Wd 24 (cfR ad cI) σ) H → va_D A (Wd 24 (cfR ad cI) σ) → va_S A s.heap H locs → lv_has ls 16 [(10, .int v10_93), (9, .int v9_93), (8, .int x27.1), (7, .int x27.2.1), (6, .int x27.2.2.1), (5, .int x27.2.2.2.1), (4, .int x27.2.2.2.2), (3, .int r2), (0, .ref (ad 0)), (1, .int a1), (2, .int a2)] → W p l e (headSpec vc_X10_checksBy { frames := 2, cells := 0, slots := 0, locals := 46 }).room s m (List.toArray (α := Value) [.ref (ad 0), .int a1, .int a2]) below meth c H locs 0 0 (MQ below (va_Qi (fun (r : Int32) (_ : Unit) => r = o) (gB (dC, dI) A (fun (_ : Unit) => (Wd 24 (cfR ad cI) σ))) A) (List.toArray (α := Value) [.ref (ad 0), .int a1, .int a2]) s 0 0 A) (F0 m 93 ls [.int (b2i w0_93)]) := by
      intro v10_93 v9_93 w0_93 H locs ls h hP hD hS hl
      unfold zb_X10_checksBy_93 at h
      refine lv_istore (lv' := [(11, .int (b2i w0_93)), (10, .int v10_93), (9, .int v9_93), (8, .int x27.1), (7, .int x27.2.1), (6, .int x27.2.2.1), (5, .int x27.2.2.2.1), (4, .int x27.2.2.2.2), (3, .int r2), (0, .ref (ad 0)), (1, .int a1), (2, .int a2)]) hx hb dX10_checksBy_93 hl (by decide) rfl (fun ls hl => ?_)
      refine lv_iload hx hb dX10_checksBy_95 (lv_at hl 0 rfl) ?_
      refine lv_if_ne (tgt := 112) hx hb dX10_checksBy_97 (by decide) (fun c14 => ?_) (fun c14 => ?_)
      · replace h := ifp (b2i_1 c14) h
        exact J112 w0_93 v10_93 v9_93 H locs ls h hP hD hS (lv_sub (l' := [(11, .int (b2i w0_93)), (10, .int v10_93), (9, .int v9_93), (8, .int x27.1), (7, .int x27.2.1), (6, .int x27.2.2.1), (5, .int x27.2.2.2.1), (4, .int x27.2.2.2.2), (3, .int r2), (0, .ref (ad 0)), (1, .int a1), (2, .int a2)]) hl [0, 1, 2, 3, 4, 5, 6, 7, 8, 9, 10, 11] rfl)
      · replace h := ifn (b2i_0 c14) h
        refine lv_iload hx hb dX10_checksBy_100 (lv_at hl 1 rfl) ?_
        refine lv_iconst (v := 1) hx hb dX10_checksBy_102 (by decide) ?_
        refine lv_icmp_eq (tgt := 112) hx hb dX10_checksBy_103 (by decide) (fun c15 => ?_) (fun c15 => ?_)
        · replace h := ifp (c15) h
          exact J112 w0_93 v10_93 v9_93 H locs ls h hP hD hS (lv_sub (l' := [(11, .int (b2i w0_93)), (10, .int v10_93), (9, .int v9_93), (8, .int x27.1), (7, .int x27.2.1), (6, .int x27.2.2.1), (5, .int x27.2.2.2.1), (4, .int x27.2.2.2.2), (3, .int r2), (0, .ref (ad 0)), (1, .int a1), (2, .int a2)]) hl [0, 1, 2, 3, 4, 5, 6, 7, 8, 9, 10, 11] rfl)
        · replace h := ifn (c15) h
          refine lv_iload hx hb dX10_checksBy_106 (lv_at hl 1 rfl) ?_
          refine lv_iconst (v := 5) hx hb dX10_checksBy_108 (by decide) ?_
          refine lv_icmp_ne (tgt := 116) hx hb dX10_checksBy_109 (by decide) (fun c16 => ?_) (fun c16 => ?_)
          · replace h := ifn (c16) h
            refine lv_iconst (v := 0) hx hb dX10_checksBy_116 (by decide) ?_
            exact J117 w0_93 v10_93 v9_93 false H locs ls h hP hD hS (lv_sub (l' := [(11, .int (b2i w0_93)), (10, .int v10_93), (9, .int v9_93), (8, .int x27.1), (7, .int x27.2.1), (6, .int x27.2.2.1), (5, .int x27.2.2.2.1), (4, .int x27.2.2.2.2), (3, .int r2), (0, .ref (ad 0)), (1, .int a1), (2, .int a2)]) hl [0, 1, 2, 3, 4, 5, 6, 7, 8, 9, 10, 11] rfl)
          · replace h := ifp (c16) h
            exact J112 w0_93 v10_93 v9_93 H locs ls h hP hD hS (lv_sub (l' := [(11, .int (b2i w0_93)), (10, .int v10_93), (9, .int v9_93), (8, .int x27.1), (7, .int x27.2.1), (6, .int x27.2.2.1), (5, .int x27.2.2.2.1), (4, .int x27.2.2.2.2), (3, .int r2), (0, .ref (ad 0)), (1, .int a1), (2, .int a2)]) hl [0, 1, 2, 3, 4, 5, 6, 7, 8, 9, 10, 11] rfl)
    have J88 : ∀ (v10_88 : Int32) (v9_88 : Int32) (H : Heap) (locs : List Loc) (ls : Array Slot), zb_X10_checksBy_88 σ r2 x27 v10_88 v9_88 = some yy27 → va_P (dC, dI) vwCl (Wd 24 (cfR ad cI) σ) H → va_D A (Wd 24 (cfR ad cI) σ) → va_S A s.heap H locs → lv_has ls 16 [(10, .int v10_88), (9, .int v9_88), (8, .int x27.1), (7, .int x27.2.1), (6, .int x27.2.2.1), (5, .int x27.2.2.2.1), (4, .int x27.2.2.2.2), (3, .int r2), (0, .ref (ad 0)), (1, .int a1), (2, .int a2)] → W p l e (headSpec vc_X10_checksBy { frames := 2, cells := 0, slots := 0, locals := 46 }).room s m (List.toArray (α := Value) [.ref (ad 0), .int a1, .int a2]) below meth c H locs 0 0 (MQ below (va_Qi (fun (r : Int32) (_ : Unit) => r = o) (gB (dC, dI) A (fun (_ : Unit) => (Wd 24 (cfR ad cI) σ))) A) (List.toArray (α := Value) [.ref (ad 0), .int a1, .int a2]) s 0 0 A) (F0 m 88 ls []) := by
      intro v10_88 v9_88 H locs ls h hP hD hS hl
      unfold zb_X10_checksBy_88 at h
      refine lv_iconst (v := 1) hx hb dX10_checksBy_88 (by decide) ?_
      refine lv_goto (tgt := 93) hx hb dX10_checksBy_89 (by decide) ?_
      exact J93 v10_88 v9_88 true H locs ls h hP hD hS (lv_sub (l' := [(10, .int v10_88), (9, .int v9_88), (8, .int x27.1), (7, .int x27.2.1), (6, .int x27.2.2.1), (5, .int x27.2.2.2.1), (4, .int x27.2.2.2.2), (3, .int r2), (0, .ref (ad 0)), (1, .int a1), (2, .int a2)]) hl [0, 1, 2, 3, 4, 5, 6, 7, 8, 9, 10] rfl)
    refine lv_iload hx hb dX10_checksBy_27 (lv_at hl 0 rfl) ?_
    refine lv_aload_n hx hb dX10_checksBy_29 rfl (lv_at hl 6 rfl) ?_
    refine gf_X10_29 hx hb hts iw_X10_checksBy_X10 hown hK hP (hts (.fieldLink RX10 52 "TraceTreesModel" "length" "[I") (List.mem_of_getElem? (i := 1) rfl)) dX10_checksBy_30 ?_
    refine lv_iload_n hx hb dX10_checksBy_33 rfl (lv_at hl 7 rfl) ?_
    obtain ⟨hi4, h⟩ := bd_inv h
    refine wald hx hb hK hP aR15 hi4 dX10_checksBy_34 ?_
    refine lv_icmp_ge (tgt := 345) hx hb dX10_checksBy_35 (by decide) (fun c5 => ?_) (fun c5 => ?_)
    · replace h := ifp (c5) h
      obtain rfl := Option.some.inj h
      exact hf27 rfl H locs ls hP hD hS (lv_sub (l' := [(7, .int x27.2.1), (6, .int x27.2.2.1), (5, .int x27.2.2.2.1), (2, .int a2)]) hl [1, 2, 3, 8] rfl)
    · replace h := ifn (c5) h
      refine lv_aload_n hx hb dX10_checksBy_38 rfl (lv_at hl 6 rfl) ?_
      refine gf_X10_31 hx hb hts iw_X10_checksBy_X10 hown hK hP (hts (.fieldLink RX10 58 "TraceTreesModel" "at" "[I") (List.mem_of_getElem? (i := 6) rfl)) dX10_checksBy_39 ?_
      refine lv_bipush (v := 16) hx hb dX10_checksBy_42 (by decide) ?_
      refine lv_iload_n hx hb dX10_checksBy_44 rfl (lv_at hl 7 rfl) ?_
      refine lv_imul hx hb dX10_checksBy_45 ?_
      refine lv_iload hx hb dX10_checksBy_46 (lv_at hl 0 rfl) ?_
      refine lv_iadd hx hb dX10_checksBy_48 ?_
      obtain ⟨hi6, h⟩ := bd_inv h
      refine wald hx hb hK hP aR17 hi6 dX10_checksBy_49 ?_
      obtain ⟨e7, he7, h⟩ := letb_inv h
      refine lv_nm he7 ?_
      refine lv_istore (lv' := [(9, .int e7), (8, .int x27.1), (7, .int x27.2.1), (6, .int x27.2.2.1), (5, .int x27.2.2.2.1), (4, .int x27.2.2.2.2), (3, .int r2), (0, .ref (ad 0)), (1, .int a1), (2, .int a2)]) hx hb dX10_checksBy_50 hl (by decide) rfl (fun ls hl => ?_)
      refine lv_aload_n hx hb dX10_checksBy_52 rfl (lv_at hl 7 rfl) ?_
      refine gf_X10_6 hx hb hts iw_X10_checksBy_X10 hown hK hP (hts (.fieldLink RX10 22 "TraceTreesModel" "code" "[I") (List.mem_of_getElem? (i := 7) rfl)) dX10_checksBy_53 ?_
      refine lv_iconst (v := 4) hx hb dX10_checksBy_56 (by decide) ?_
      refine lv_iload hx hb dX10_checksBy_57 (lv_at hl 0 rfl) ?_
      refine lv_imul hx hb dX10_checksBy_59 ?_
      obtain ⟨hi8, h⟩ := bd_inv h
      refine wald hx hb hK hP aR5 hi8 dX10_checksBy_60 ?_
      obtain ⟨e9, he9, h⟩ := letb_inv h
      refine lv_nm he9 ?_
      refine lv_istore (lv' := [(10, .int e9), (9, .int e7), (8, .int x27.1), (7, .int x27.2.1), (6, .int x27.2.2.1), (5, .int x27.2.2.2.1), (4, .int x27.2.2.2.2), (3, .int r2), (0, .ref (ad 0)), (1, .int a1), (2, .int a2)]) hx hb dX10_checksBy_61 hl (by decide) rfl (fun ls hl => ?_)
      refine lv_iload hx hb dX10_checksBy_63 (lv_at hl 0 rfl) ?_
      refine lv_iconst (v := 2) hx hb dX10_checksBy_65 (by decide) ?_
      refine lv_icmp_eq (tgt := 88) hx hb dX10_checksBy_66 (by decide) (fun c10 => ?_) (fun c10 => ?_)
      · replace h := ifp (c10) h
        exact J88 e9 e7 H locs ls h hP hD hS (lv_sub (l' := [(10, .int e9), (9, .int e7), (8, .int x27.1), (7, .int x27.2.1), (6, .int x27.2.2.1), (5, .int x27.2.2.2.1), (4, .int x27.2.2.2.2), (3, .int r2), (0, .ref (ad 0)), (1, .int a1), (2, .int a2)]) hl [0, 1, 2, 3, 4, 5, 6, 7, 8, 9, 10] rfl)
      · replace h := ifn (c10) h
        refine lv_iload hx hb dX10_checksBy_69 (lv_at hl 0 rfl) ?_
        refine lv_iconst (v := 3) hx hb dX10_checksBy_71 (by decide) ?_
        refine lv_icmp_eq (tgt := 88) hx hb dX10_checksBy_72 (by decide) (fun c11 => ?_) (fun c11 => ?_)
        · replace h := ifp (c11) h
          exact J88 e9 e7 H locs ls h hP hD hS (lv_sub (l' := [(10, .int e9), (9, .int e7), (8, .int x27.1), (7, .int x27.2.1), (6, .int x27.2.2.1), (5, .int x27.2.2.2.1), (4, .int x27.2.2.2.2), (3, .int r2), (0, .ref (ad 0)), (1, .int a1), (2, .int a2)]) hl [0, 1, 2, 3, 4, 5, 6, 7, 8, 9, 10] rfl)
        · replace h := ifn (c11) h
          refine lv_iload hx hb dX10_checksBy_75 (lv_at hl 0 rfl) ?_
          refine lv_iconst (v := 4) hx hb dX10_checksBy_77 (by decide) ?_
          refine lv_icmp_eq (tgt := 88) hx hb dX10_checksBy_78 (by decide) (fun c12 => ?_) (fun c12 => ?_)
          · replace h := ifp (c12) h
            exact J88 e9 e7 H locs ls h hP hD hS (lv_sub (l' := [(10, .int e9), (9, .int e7), (8, .int x27.1), (7, .int x27.2.1), (6, .int x27.2.2.1), (5, .int x27.2.2.2.1), (4, .int x27.2.2.2.2), (3, .int r2), (0, .ref (ad 0)), (1, .int a1), (2, .int a2)]) hl [0, 1, 2, 3, 4, 5, 6, 7, 8, 9, 10] rfl)
          · replace h := ifn (c12) h
            refine lv_iload hx hb dX10_checksBy_81 (lv_at hl 0 rfl) ?_
            refine lv_bipush (v := 6) hx hb dX10_checksBy_83 (by decide) ?_
            refine lv_icmp_ne (tgt := 92) hx hb dX10_checksBy_85 (by decide) (fun c13 => ?_) (fun c13 => ?_)
            · replace h := ifn (c13) h
              refine lv_iconst (v := 0) hx hb dX10_checksBy_92 (by decide) ?_
              exact J93 e9 e7 false H locs ls h hP hD hS (lv_sub (l' := [(10, .int e9), (9, .int e7), (8, .int x27.1), (7, .int x27.2.1), (6, .int x27.2.2.1), (5, .int x27.2.2.2.1), (4, .int x27.2.2.2.2), (3, .int r2), (0, .ref (ad 0)), (1, .int a1), (2, .int a2)]) hl [0, 1, 2, 3, 4, 5, 6, 7, 8, 9, 10] rfl)
            · replace h := ifp (c13) h
              exact J88 e9 e7 H locs ls h hP hD hS (lv_sub (l' := [(10, .int e9), (9, .int e7), (8, .int x27.1), (7, .int x27.2.1), (6, .int x27.2.2.1), (5, .int x27.2.2.2.1), (4, .int x27.2.2.2.2), (3, .int r2), (0, .ref (ad 0)), (1, .int a1), (2, .int a2)]) hl [0, 1, 2, 3, 4, 5, 6, 7, 8, 9, 10] rfl)
  · intro H locs ls hP hD hS hl
    refine lv_iload_n hx hb dX10_checksBy_345 rfl (lv_at hl 3 rfl) ?_
    refine lv_if_ne (tgt := 354) hx hb dX10_checksBy_346 (by decide) (fun c54 => ?_) (fun c54 => ?_)
    · replace h := ifn (c54) h
      refine lv_iload_n hx hb dX10_checksBy_354 rfl (lv_at hl 3 rfl) ?_
      refine lv_iconst (v := 1) hx hb dX10_checksBy_355 (by decide) ?_
      refine lv_icmp_ne (tgt := 364) hx hb dX10_checksBy_356 (by decide) (fun c55 => ?_) (fun c55 => ?_)
      · replace h := ifn (c55) h
        refine lv_iload hx hb dX10_checksBy_364 (lv_at hl 0 rfl) ?_
        exact J366 y27.2.1 H locs ls h hP hD hS (lv_sub (l' := []) hl [] rfl)
      · replace h := ifp (c55) h
        refine lv_iload hx hb dX10_checksBy_359 (lv_at hl 1 rfl) ?_
        refine lv_goto (tgt := 366) hx hb dX10_checksBy_361 (by decide) ?_
        exact J366 y27.2.2.1 H locs ls h hP hD hS (lv_sub (l' := []) hl [] rfl)
    · replace h := ifp (c54) h
      refine lv_iload hx hb dX10_checksBy_349 (lv_at hl 2 rfl) ?_
      refine lv_goto (tgt := 366) hx hb dX10_checksBy_351 (by decide) ?_
      exact J366 y27.2.2.2.1 H locs ls h hP hD hS (lv_sub (l' := []) hl [] rfl)
def zb_X10_checksOf_31 (w0_31 : Int32) : Option (Int32) := some w0_31
def zb_X10_checksOf_29  : Option (Int32) := (zb_X10_checksOf_31 (-2 : Int32))
def zf_X10_checksOf (a1 : Int32) (a2 : Int32) (σ : Sg) : Option (Int32) := (if (zf_X10_isTrace a1 σ) = true then (if (zf_X10_in (a2.toInt64) (0 : Int64) (2 : Int64)) = true then obd (zf_X10_checksBy a1 a2 σ) (fun r5 => (zb_X10_checksOf_31 r5)) else zb_X10_checksOf_29) else zb_X10_checksOf_29)
def oc_X10_checksOf : List Cond := [.methodLink RX10 356 yX10_isTrace, .instanceMethod yX10_isTrace, .selects RX10 yX10_isTrace yX10_isTrace, .initialized RX10, .constantLong RX10 99 (2), .methodLink RX10 86 yX10_in, .static yX10_in, .methodLink RX10 382 yX10_checksBy, .instanceMethod yX10_checksBy, .selects RX10 yX10_checksBy yX10_checksBy]
def vc_X10_checksOf : List Cond := .code yX10_checksOf cX10_checksOf 3 (some .int) :: (oc_X10_checksOf ++ (vc_X10_isTrace ++ (vc_X10_in ++ (vc_X10_checksBy))))
theorem ic_X10_checksOf_c_X10_isTrace : ∀ w ∈ vc_X10_isTrace, w ∈ vc_X10_checksOf := fun _ h => List.mem_cons_of_mem _ (List.mem_append_right _ (List.mem_append_left _ h))
theorem ic_X10_checksOf_c_X10_in : ∀ w ∈ vc_X10_in, w ∈ vc_X10_checksOf := fun _ h => List.mem_cons_of_mem _ (List.mem_append_right _ (List.mem_append_right _ (List.mem_append_left _ h)))
theorem ic_X10_checksOf_c_X10_checksBy : ∀ w ∈ vc_X10_checksBy, w ∈ vc_X10_checksOf := fun _ h => List.mem_cons_of_mem _ (List.mem_append_right _ (List.mem_append_right _ (List.mem_append_right _ (h))))
theorem gd_c_X10_checksOf : (vc_X10_checksOf).all goodWord = true := gall_cons rfl (gall_app (by decide +kernel) (gall_app gd_c_X10_isTrace (gall_app gd_c_X10_in gd_c_X10_checksBy)))
set_option maxHeartbeats 4000000 in
set_option maxRecDepth 100000 in
theorem c_X10_checksOf (l : Launch) (dC : Nat → ClassId) (dI : Nat → Nat → Nat) (cI cT cS : ClassId) (sz : Nat) (ad : Nat → Nat) (a1 : Int32) (a2 : Int32) (σ : Sg) (o : Int32) (h : zf_X10_checksOf a1 a2 σ = some o) : gCI (S := Unit) l yX10_checksOf vc_X10_checksOf { frames := 3, cells := 0, slots := 0, locals := 81 } (dC, dI) (gTY cI cT cS) sz [.ref (ad 0), .int a1, .int a2] (Wd 24 (cfR ad cI) σ) (fun (r : Int32) (_ : Unit) => r = o) (fun (_ : Unit) => (Wd 24 (cfR ad cI) σ)) 0 0 := by
  refine Met.ofW (cc := cX10_checksOf) (maxL := 3) (ret := (some .int)) (by decide) rfl ?_
  intro p e s m args below meth c s₁ B hml hv
  obtain ⟨rfl, hsz, hP, hK, hD0⟩ := hv
  have hx := B.exec
  have hb := B.bytes
  have hr := B.returns
  have hts := atoms_spec (ws := vc_X10_checksOf) B.pre
  have hown : s.vm.findClass RX10 = some m.cls := findClass_of_methodNamed B.named
  have hlocks := B.notSynchronized
  subst hsz
  have hD := hD0.self (sz := s.heap.size)
  generalize hAe : va_A (Wd 24 (cfR ad cI) σ) s.heap.size = A at hD ⊢
  have hA : ∀ q : Nat, s.heap.size ≤ q → A q := fun q h => by rw [← hAe]; exact Or.inr h
  clear hAe hD0
  refine gstart (fun H locs hHe hLe => ?_)
  have hS : va_S A s.heap H locs := by rw [← hHe, ← hLe]; exact va_S.rf
  replace hP : va_P (dC, dI) vwCl (Wd 24 (cfR ad cI) σ) H := by rw [← hHe]; exact hP
  clear hHe hLe
  have hl := lv_entry ([.ref (ad 0), .int a1, .int a2]) (n := 3) (Nat.le_of_ble_eq_true rfl)
  rw [lg_entry_eq]
  generalize (lg_sl ([.ref (ad 0), .int a1, .int a2]) ++ List.replicate (3 - (lg_sl ([.ref (ad 0), .int a1, .int a2])).length) Slot.unset).toArray = ls at hl ⊢
  replace hl : lv_has ls 3 [(0, .ref (ad 0)), (1, .int a1), (2, .int a2)] := hl
  unfold zf_X10_checksOf at h
  have J31 : ∀ (w0_31 : Int32) (H : Heap) (locs : List Loc) (ls : Array Slot), zb_X10_checksOf_31 w0_31 = some o → va_P (dC, dI) vwCl (Wd 24 (cfR ad cI) σ) H → va_D A (Wd 24 (cfR ad cI) σ) → va_S A s.heap H locs → lv_has ls 3 [] → W p l e (headSpec vc_X10_checksOf { frames := 3, cells := 0, slots := 0, locals := 81 }).room s m (List.toArray (α := Value) [.ref (ad 0), .int a1, .int a2]) below meth c H locs 0 0 (MQ below (va_Qi (fun (r : Int32) (_ : Unit) => r = o) (gB (dC, dI) A (fun (_ : Unit) => (Wd 24 (cfR ad cI) σ))) A) (List.toArray (α := Value) [.ref (ad 0), .int a1, .int a2]) s 0 0 A) (F0 m 31 ls [.int w0_31]) := by
    intro w0_31 H locs ls h hP hD hS hl
    unfold zb_X10_checksOf_31 at h
    have h9 := Option.some.inj h
    exact wreti hx hb hr hlocks hP hD hS (by show _ = _; rw [← h9]; first | done | rfl) rfl dX10_checksOf_31
  have J29 : ∀  (H : Heap) (locs : List Loc) (ls : Array Slot), zb_X10_checksOf_29 = some o → va_P (dC, dI) vwCl (Wd 24 (cfR ad cI) σ) H → va_D A (Wd 24 (cfR ad cI) σ) → va_S A s.heap H locs → lv_has ls 3 [] → W p l e (headSpec vc_X10_checksOf { frames := 3, cells := 0, slots := 0, locals := 81 }).room s m (List.toArray (α := Value) [.ref (ad 0), .int a1, .int a2]) below meth c H locs 0 0 (MQ below (va_Qi (fun (r : Int32) (_ : Unit) => r = o) (gB (dC, dI) A (fun (_ : Unit) => (Wd 24 (cfR ad cI) σ))) A) (List.toArray (α := Value) [.ref (ad 0), .int a1, .int a2]) s 0 0 A) (F0 m 29 ls []) := by
    intro  H locs ls h hP hD hS hl
    unfold zb_X10_checksOf_29 at h
    refine lv_bipush (v := (-2)) hx hb dX10_checksOf_29 (by decide) ?_
    exact J31 (-2 : Int32) H locs ls h hP hD hS (lv_sub (l' := []) hl [] rfl)
  refine lv_aload_n hx hb dX10_checksOf_0 rfl (lv_at hl 0 rfl) ?_
  refine lv_iload_n hx hb dX10_checksOf_1 rfl (lv_at hl 1 rfl) ?_
  refine wcalli (S := Unit) (va_runV (As := [.int a1]) (rest := []) ⟨hx, hb, hml, hown, hts⟩ (c_X10_isTrace l dC dI cI cT cS H.size ad  a1 σ _ rfl) (cwV 1 hts (gWV (List.mem_of_getElem? (i := 1) rfl) (List.mem_of_getElem? (i := 2) rfl) (List.mem_of_getElem? (i := 3) rfl) (List.mem_of_getElem? (i := 4) rfl) ic_X10_checksOf_c_X10_isTrace gd_c_X10_isTrace) rfl rfl rfl (by decide +kernel) ⟨(Nat.le_of_ble_eq_true rfl), (Nat.le_of_ble_eq_true rfl)⟩) (wpV (q := (RX10, TX10, 46)) hP hK hD oX10 rfl) rfl rfl hl.1 rfl (lv_room (Nat.le_of_ble_eq_true rfl)) dX10_checksOf_2 ⟨(Nat.le_of_ble_eq_true rfl), (Nat.le_of_ble_eq_true rfl)⟩) hP hD hS hA (fun rr1 _ H locs hr1 hP hD hS => ?_)
  refine lv_nm (y := b2i (zf_X10_isTrace a1 σ)) hr1 ?_
  refine lv_if_eq (tgt := 29) hx hb dX10_checksOf_5 (by decide) (fun c2 => ?_) (fun c2 => ?_)
  · replace h := ifn (b2i_0 c2) h
    exact J29  H locs ls h hP hD hS (lv_sub (l' := []) hl [] rfl)
  · replace h := ifp (b2i_1 c2) h
    refine lv_iload_n hx hb dX10_checksOf_8 rfl (lv_at hl 2 rfl) ?_
    refine lv_i2l hx hb dX10_checksOf_9 rfl ?_
    refine lv_lconst (v := 0) hx hb dX10_checksOf_10 (by decide) ?_
    refine lv_ldc2 (v := 2) hx hb hown (hts (.constantLong RX10 99 (2)) (List.mem_of_getElem? (i := 5) rfl)) dX10_checksOf_11 ?_
    refine wcalli (S := Unit) (va_runS (As := [.long (a2.toInt64), .long (0 : Int64), .long (2 : Int64)]) (rest := []) ⟨hx, hb, hml, hown, hts⟩ (c_X10_in l dC dI cI cT cS H.size (Wd 24 (cfR ad cI) σ)  (a2.toInt64) (0 : Int64) (2 : Int64) _ rfl) (va_cwS 3 hts (gWS (List.mem_of_getElem? (i := 6) rfl) (List.mem_of_getElem? (i := 7) rfl) (List.mem_of_getElem? (i := 4) rfl) ic_X10_checksOf_c_X10_in gd_c_X10_in) rfl rfl rfl (by decide +kernel) ⟨(Nat.le_of_ble_eq_true rfl), (Nat.le_of_ble_eq_true rfl)⟩) (gpS hP hK hD) rfl rfl hl.1 rfl (lv_room (Nat.le_of_ble_eq_true rfl)) dX10_checksOf_14 ⟨(Nat.le_of_ble_eq_true rfl), (Nat.le_of_ble_eq_true rfl)⟩) hP hD hS hA (fun rr3 _ H locs hr3 hP hD hS => ?_)
    refine lv_nm (y := b2i (zf_X10_in (a2.toInt64) (0 : Int64) (2 : Int64))) hr3 ?_
    refine lv_if_eq (tgt := 29) hx hb dX10_checksOf_17 (by decide) (fun c4 => ?_) (fun c4 => ?_)
    · replace h := ifn (b2i_0 c4) h
      exact J29  H locs ls h hP hD hS (lv_sub (l' := []) hl [] rfl)
    · replace h := ifp (b2i_1 c4) h
      refine lv_aload_n hx hb dX10_checksOf_20 rfl (lv_at hl 0 rfl) ?_
      refine lv_iload_n hx hb dX10_checksOf_21 rfl (lv_at hl 1 rfl) ?_
      refine lv_iload_n hx hb dX10_checksOf_22 rfl (lv_at hl 2 rfl) ?_
      obtain ⟨r5, hc5, h⟩ := obd_inv h
      refine wcalli (S := Unit) (va_runV (As := [.int a1, .int a2]) (rest := []) ⟨hx, hb, hml, hown, hts⟩ (c_X10_checksBy l dC dI cI cT cS H.size ad  a1 a2 σ _ hc5) (cwV 2 hts (gWV (List.mem_of_getElem? (i := 8) rfl) (List.mem_of_getElem? (i := 9) rfl) (List.mem_of_getElem? (i := 10) rfl) (List.mem_of_getElem? (i := 4) rfl) ic_X10_checksOf_c_X10_checksBy gd_c_X10_checksBy) rfl rfl rfl (by decide +kernel) ⟨(Nat.le_of_ble_eq_true rfl), (Nat.le_of_ble_eq_true rfl)⟩) (wpV (q := (RX10, TX10, 46)) hP hK hD oX10 rfl) rfl rfl hl.1 rfl (lv_room (Nat.le_of_ble_eq_true rfl)) dX10_checksOf_23 ⟨(Nat.le_of_ble_eq_true rfl), (Nat.le_of_ble_eq_true rfl)⟩) hP hD hS hA (fun rr6 _ H locs hr6 hP hD hS => ?_)
      refine lv_nm (y := r5) hr6 ?_
      refine lv_goto (tgt := 31) hx hb dX10_checksOf_26 (by decide) ?_
      exact J31 r5 H locs ls h hP hD hS (lv_sub (l' := []) hl [] rfl)
def zf_X10_checks (a1 : Int32) (a2 : Int32) (σ : Sg) : Option (Int32 × Sg) := obd (zf_X10_runs (σ 0 10) σ) (fun σ1 => obd (zf_X10_checksOf a1 a2 σ1) (fun r3 => some (r3, σ1)))
def oc_X10_checks : List Cond := [.fieldLink RX10 83 "TraceTreesModel" "hot" "I", .methodLink RX10 344 yX10_runs, .instanceMethod yX10_runs, .selects RX10 yX10_runs yX10_runs, .initialized RX10, .methodLink RX10 385 yX10_checksOf, .instanceMethod yX10_checksOf, .selects RX10 yX10_checksOf yX10_checksOf]
def vc_X10_checks : List Cond := .code yX10_checks cX10_checks 3 (some .int) :: (oc_X10_checks ++ (wsX100 ++ (vc_X10_runs ++ (vc_X10_checksOf))))
theorem iw_X10_checks_X10 : ∀ w ∈ wsX100, w ∈ vc_X10_checks := fun _ h => List.mem_cons_of_mem _ (List.mem_append_right _ (List.mem_append_left _ h))
theorem ic_X10_checks_c_X10_runs : ∀ w ∈ vc_X10_runs, w ∈ vc_X10_checks := fun _ h => List.mem_cons_of_mem _ (List.mem_append_right _ (List.mem_append_right _ (List.mem_append_left _ h)))
theorem ic_X10_checks_c_X10_checksOf : ∀ w ∈ vc_X10_checksOf, w ∈ vc_X10_checks := fun _ h => List.mem_cons_of_mem _ (List.mem_append_right _ (List.mem_append_right _ (List.mem_append_right _ (h))))
theorem gd_c_X10_checks : (vc_X10_checks).all goodWord = true := gall_cons rfl (gall_app (by decide +kernel) (gall_app gw_X10 (gall_app gd_c_X10_runs gd_c_X10_checksOf)))
set_option maxHeartbeats 4000000 in
set_option maxRecDepth 100000 in
theorem c_X10_checks (l : Launch) (dC : Nat → ClassId) (dI : Nat → Nat → Nat) (cI cT cS : ClassId) (sz : Nat) (ad : Nat → Nat) (a1 : Int32) (a2 : Int32) (σ : Sg) (o : Int32 × Sg) (h : zf_X10_checks a1 a2 σ = some o) : gCI (S := Unit) l yX10_checks vc_X10_checks { frames := 9, cells := 0, slots := 0, locals := 226 } (dC, dI) (gTY cI cT cS) sz [.ref (ad 0), .int a1, .int a2] (Wd 24 (cfR ad cI) σ) (fun (r : Int32) (_ : Unit) => r = o.1) (fun (_ : Unit) => (Wd 24 (cfR ad cI) o.2)) 0 0 := by
  refine Met.ofW (cc := cX10_checks) (maxL := 3) (ret := (some .int)) (by decide) rfl ?_
  intro p e s m args below meth c s₁ B hml hv
  obtain ⟨rfl, hsz, hP, hK, hD0⟩ := hv
  have hx := B.exec
  have hb := B.bytes
  have hr := B.returns
  have hts := atoms_spec (ws := vc_X10_checks) B.pre
  have hown : s.vm.findClass RX10 = some m.cls := findClass_of_methodNamed B.named
  have hlocks := B.notSynchronized
  subst hsz
  have hD := hD0.self (sz := s.heap.size)
  generalize hAe : va_A (Wd 24 (cfR ad cI) σ) s.heap.size = A at hD ⊢
  have hA : ∀ q : Nat, s.heap.size ≤ q → A q := fun q h => by rw [← hAe]; exact Or.inr h
  clear hAe hD0
  refine gstart (fun H locs hHe hLe => ?_)
  have hS : va_S A s.heap H locs := by rw [← hHe, ← hLe]; exact va_S.rf
  replace hP : va_P (dC, dI) vwCl (Wd 24 (cfR ad cI) σ) H := by rw [← hHe]; exact hP
  clear hHe hLe
  have hl := lv_entry ([.ref (ad 0), .int a1, .int a2]) (n := 3) (Nat.le_of_ble_eq_true rfl)
  rw [lg_entry_eq]
  generalize (lg_sl ([.ref (ad 0), .int a1, .int a2]) ++ List.replicate (3 - (lg_sl ([.ref (ad 0), .int a1, .int a2])).length) Slot.unset).toArray = ls at hl ⊢
  replace hl : lv_has ls 3 [(0, .ref (ad 0)), (1, .int a1), (2, .int a2)] := hl
  unfold zf_X10_checks at h
  refine lv_aload_n hx hb dX10_checks_0 rfl (lv_at hl 0 rfl) ?_
  refine lv_aload_n hx hb dX10_checks_1 rfl (lv_at hl 0 rfl) ?_
  refine gf_X10_10 hx hb hts iw_X10_checks_X10 hown hK hP (hts (.fieldLink RX10 83 "TraceTreesModel" "hot" "I") (List.mem_of_getElem? (i := 1) rfl)) dX10_checks_2 ?_
  obtain ⟨σ1, hc1, h⟩ := obd_inv h
  refine wcallv (S := Unit) (va_runV (As := [.int (σ 0 10)]) (rest := []) ⟨hx, hb, hml, hown, hts⟩ (c_X10_runs l dC dI cI cT cS H.size ad  (σ 0 10) σ _ hc1) (cwV 1 hts (gWV (List.mem_of_getElem? (i := 2) rfl) (List.mem_of_getElem? (i := 3) rfl) (List.mem_of_getElem? (i := 4) rfl) (List.mem_of_getElem? (i := 5) rfl) ic_X10_checks_c_X10_runs gd_c_X10_runs) rfl rfl rfl (by decide +kernel) ⟨(Nat.le_of_ble_eq_true rfl), (Nat.le_of_ble_eq_true rfl)⟩) (wpV (q := (RX10, TX10, 46)) hP hK hD oX10 rfl) rfl rfl hl.1 rfl (lv_room (Nat.le_of_ble_eq_true rfl)) dX10_checks_5 ⟨(Nat.le_of_ble_eq_true rfl), (Nat.le_of_ble_eq_true rfl)⟩) hP hD hS hA (fun _ H locs hr2 hP hD hS => ?_)
  replace hP : va_P (dC, dI) vwCl (Wd 24 (cfR ad cI) σ1) H := hP
  replace hD : va_D A (Wd 24 (cfR ad cI) σ1) := hD
  refine lv_aload_n hx hb dX10_checks_8 rfl (lv_at hl 0 rfl) ?_
  refine lv_iload_n hx hb dX10_checks_9 rfl (lv_at hl 1 rfl) ?_
  refine lv_iload_n hx hb dX10_checks_10 rfl (lv_at hl 2 rfl) ?_
  obtain ⟨r3, hc3, h⟩ := obd_inv h
  refine wcalli (S := Unit) (va_runV (As := [.int a1, .int a2]) (rest := []) ⟨hx, hb, hml, hown, hts⟩ (c_X10_checksOf l dC dI cI cT cS H.size ad  a1 a2 σ1 _ hc3) (cwV 2 hts (gWV (List.mem_of_getElem? (i := 6) rfl) (List.mem_of_getElem? (i := 7) rfl) (List.mem_of_getElem? (i := 8) rfl) (List.mem_of_getElem? (i := 5) rfl) ic_X10_checks_c_X10_checksOf gd_c_X10_checksOf) rfl rfl rfl (by decide +kernel) ⟨(Nat.le_of_ble_eq_true rfl), (Nat.le_of_ble_eq_true rfl)⟩) (wpV (q := (RX10, TX10, 46)) hP hK hD oX10 rfl) rfl rfl hl.1 rfl (lv_room (Nat.le_of_ble_eq_true rfl)) dX10_checks_11 ⟨(Nat.le_of_ble_eq_true rfl), (Nat.le_of_ble_eq_true rfl)⟩) hP hD hS hA (fun rr4 _ H locs hr4 hP hD hS => ?_)
  refine lv_nm (y := r3) hr4 ?_
  have h9 := Option.some.inj h
  exact wreti hx hb hr hlocks hP hD hS (by show _ = _; rw [← h9]; first | done | rfl) (by rw [← h9]) dX10_checks_14
def zb_X10_snapshotBy_38 (w0_38 : Int32) : Option (Int32) := some w0_38
def zf_X10_snapshotBy (a1 : Int32) (a2 : Int32) (a3 : Int32) (σ : Sg) : Option (Int32) := obd (zf_X10_writtenAhead a1 a2 σ) (fun r1 => (if a3 = 0 then (zb_X10_snapshotBy_38 r1) else (if a2 = 0 then (zb_X10_snapshotBy_38 (0 : Int32)) else obd (zf_X10_writtenAhead a1 (a2 - (1 : Int32)) σ) (fun r5 => (zb_X10_snapshotBy_38 (r1 &&& (r5 ^^^ (-1 : Int32))))))))
def oc_X10_snapshotBy : List Cond := [.methodLink RX10 376 yX10_writtenAhead, .instanceMethod yX10_writtenAhead, .selects RX10 yX10_writtenAhead yX10_writtenAhead, .initialized RX10]
def vc_X10_snapshotBy : List Cond := .code yX10_snapshotBy cX10_snapshotBy 5 (some .int) :: (oc_X10_snapshotBy ++ (vc_X10_writtenAhead))
theorem ic_X10_snapshotBy_c_X10_writtenAhead : ∀ w ∈ vc_X10_writtenAhead, w ∈ vc_X10_snapshotBy := fun _ h => List.mem_cons_of_mem _ (List.mem_append_right _ (h))
theorem gd_c_X10_snapshotBy : (vc_X10_snapshotBy).all goodWord = true := gall_cons rfl (gall_app (by decide +kernel) gd_c_X10_writtenAhead)
set_option maxHeartbeats 4000000 in
set_option maxRecDepth 100000 in
theorem c_X10_snapshotBy (l : Launch) (dC : Nat → ClassId) (dI : Nat → Nat → Nat) (cI cT cS : ClassId) (sz : Nat) (ad : Nat → Nat) (a1 : Int32) (a2 : Int32) (a3 : Int32) (σ : Sg) (o : Int32) (h : zf_X10_snapshotBy a1 a2 a3 σ = some o) : gCI (S := Unit) l yX10_snapshotBy vc_X10_snapshotBy { frames := 2, cells := 0, slots := 0, locals := 46 } (dC, dI) (gTY cI cT cS) sz [.ref (ad 0), .int a1, .int a2, .int a3] (Wd 24 (cfR ad cI) σ) (fun (r : Int32) (_ : Unit) => r = o) (fun (_ : Unit) => (Wd 24 (cfR ad cI) σ)) 0 0 := by
  refine Met.ofW (cc := cX10_snapshotBy) (maxL := 5) (ret := (some .int)) (by decide) rfl ?_
  intro p e s m args below meth c s₁ B hml hv
  obtain ⟨rfl, hsz, hP, hK, hD0⟩ := hv
  have hx := B.exec
  have hb := B.bytes
  have hr := B.returns
  have hts := atoms_spec (ws := vc_X10_snapshotBy) B.pre
  have hown : s.vm.findClass RX10 = some m.cls := findClass_of_methodNamed B.named
  have hlocks := B.notSynchronized
  subst hsz
  have hD := hD0.self (sz := s.heap.size)
  generalize hAe : va_A (Wd 24 (cfR ad cI) σ) s.heap.size = A at hD ⊢
  have hA : ∀ q : Nat, s.heap.size ≤ q → A q := fun q h => by rw [← hAe]; exact Or.inr h
  clear hAe hD0
  refine gstart (fun H locs hHe hLe => ?_)
  have hS : va_S A s.heap H locs := by rw [← hHe, ← hLe]; exact va_S.rf
  replace hP : va_P (dC, dI) vwCl (Wd 24 (cfR ad cI) σ) H := by rw [← hHe]; exact hP
  clear hHe hLe
  have hl := lv_entry ([.ref (ad 0), .int a1, .int a2, .int a3]) (n := 5) (Nat.le_of_ble_eq_true rfl)
  rw [lg_entry_eq]
  generalize (lg_sl ([.ref (ad 0), .int a1, .int a2, .int a3]) ++ List.replicate (5 - (lg_sl ([.ref (ad 0), .int a1, .int a2, .int a3])).length) Slot.unset).toArray = ls at hl ⊢
  replace hl : lv_has ls 5 [(0, .ref (ad 0)), (1, .int a1), (2, .int a2), (3, .int a3)] := hl
  unfold zf_X10_snapshotBy at h
  have J38 : ∀ (w0_38 : Int32) (H : Heap) (locs : List Loc) (ls : Array Slot), zb_X10_snapshotBy_38 w0_38 = some o → va_P (dC, dI) vwCl (Wd 24 (cfR ad cI) σ) H → va_D A (Wd 24 (cfR ad cI) σ) → va_S A s.heap H locs → lv_has ls 5 [] → W p l e (headSpec vc_X10_snapshotBy { frames := 2, cells := 0, slots := 0, locals := 46 }).room s m (List.toArray (α := Value) [.ref (ad 0), .int a1, .int a2, .int a3]) below meth c H locs 0 0 (MQ below (va_Qi (fun (r : Int32) (_ : Unit) => r = o) (gB (dC, dI) A (fun (_ : Unit) => (Wd 24 (cfR ad cI) σ))) A) (List.toArray (α := Value) [.ref (ad 0), .int a1, .int a2, .int a3]) s 0 0 A) (F0 m 38 ls [.int w0_38]) := by
    intro w0_38 H locs ls h hP hD hS hl
    unfold zb_X10_snapshotBy_38 at h
    have h9 := Option.some.inj h
    exact wreti hx hb hr hlocks hP hD hS (by show _ = _; rw [← h9]; first | done | rfl) rfl dX10_snapshotBy_38
  refine lv_aload_n hx hb dX10_snapshotBy_0 rfl (lv_at hl 0 rfl) ?_
  refine lv_iload_n hx hb dX10_snapshotBy_1 rfl (lv_at hl 1 rfl) ?_
  refine lv_iload_n hx hb dX10_snapshotBy_2 rfl (lv_at hl 2 rfl) ?_
  obtain ⟨r1, hc1, h⟩ := obd_inv h
  refine wcalli (S := Unit) (va_runV (As := [.int a1, .int a2]) (rest := []) ⟨hx, hb, hml, hown, hts⟩ (c_X10_writtenAhead l dC dI cI cT cS H.size ad  a1 a2 σ _ hc1) (cwV 2 hts (gWV (List.mem_of_getElem? (i := 1) rfl) (List.mem_of_getElem? (i := 2) rfl) (List.mem_of_getElem? (i := 3) rfl) (List.mem_of_getElem? (i := 4) rfl) ic_X10_snapshotBy_c_X10_writtenAhead gd_c_X10_writtenAhead) rfl rfl rfl (by decide +kernel) ⟨(Nat.le_of_ble_eq_true rfl), (Nat.le_of_ble_eq_true rfl)⟩) (wpV (q := (RX10, TX10, 46)) hP hK hD oX10 rfl) rfl rfl hl.1 rfl (lv_room (Nat.le_of_ble_eq_true rfl)) dX10_snapshotBy_3 ⟨(Nat.le_of_ble_eq_true rfl), (Nat.le_of_ble_eq_true rfl)⟩) hP hD hS hA (fun rr2 _ H locs hr2 hP hD hS => ?_)
  refine lv_nm (y := r1) hr2 ?_
  refine lv_istore (lv' := [(4, .int r1), (0, .ref (ad 0)), (1, .int a1), (2, .int a2), (3, .int a3)]) hx hb dX10_snapshotBy_6 hl (by decide) rfl (fun ls hl => ?_)
  refine lv_iload_n hx hb dX10_snapshotBy_8 rfl (lv_at hl 4 rfl) ?_
  refine lv_if_ne (tgt := 17) hx hb dX10_snapshotBy_9 (by decide) (fun c3 => ?_) (fun c3 => ?_)
  · replace h := ifn (c3) h
    refine lv_iload_n hx hb dX10_snapshotBy_17 rfl (lv_at hl 3 rfl) ?_
    refine lv_if_ne (tgt := 25) hx hb dX10_snapshotBy_18 (by decide) (fun c4 => ?_) (fun c4 => ?_)
    · replace h := ifn (c4) h
      refine lv_iload hx hb dX10_snapshotBy_25 (lv_at hl 0 rfl) ?_
      refine lv_aload_n hx hb dX10_snapshotBy_27 rfl (lv_at hl 1 rfl) ?_
      refine lv_iload_n hx hb dX10_snapshotBy_28 rfl (lv_at hl 2 rfl) ?_
      refine lv_iload_n hx hb dX10_snapshotBy_29 rfl (lv_at hl 3 rfl) ?_
      refine lv_iconst (v := 1) hx hb dX10_snapshotBy_30 (by decide) ?_
      refine lv_isub hx hb dX10_snapshotBy_31 ?_
      obtain ⟨r5, hc5, h⟩ := obd_inv h
      refine wcalli (S := Unit) (va_runV (As := [.int a1, .int (a2 - (1 : Int32))]) (rest := [.int r1]) ⟨hx, hb, hml, hown, hts⟩ (c_X10_writtenAhead l dC dI cI cT cS H.size ad  a1 (a2 - (1 : Int32)) σ _ hc5) (cwV 2 hts (gWV (List.mem_of_getElem? (i := 1) rfl) (List.mem_of_getElem? (i := 2) rfl) (List.mem_of_getElem? (i := 3) rfl) (List.mem_of_getElem? (i := 4) rfl) ic_X10_snapshotBy_c_X10_writtenAhead gd_c_X10_writtenAhead) rfl rfl rfl (by decide +kernel) ⟨(Nat.le_of_ble_eq_true rfl), (Nat.le_of_ble_eq_true rfl)⟩) (wpV (q := (RX10, TX10, 46)) hP hK hD oX10 rfl) rfl rfl hl.1 rfl (lv_room (Nat.le_of_ble_eq_true rfl)) dX10_snapshotBy_32 ⟨(Nat.le_of_ble_eq_true rfl), (Nat.le_of_ble_eq_true rfl)⟩) hP hD hS hA (fun rr6 _ H locs hr6 hP hD hS => ?_)
      refine lv_nm (y := r5) hr6 ?_
      refine lv_iconst (v := (-1)) hx hb dX10_snapshotBy_35 (by decide) ?_
      refine lv_ixor hx hb dX10_snapshotBy_36 ?_
      refine lv_iand hx hb dX10_snapshotBy_37 ?_
      exact J38 (r1 &&& (r5 ^^^ (-1 : Int32))) H locs ls h hP hD hS (lv_sub (l' := []) hl [] rfl)
    · replace h := ifp (c4) h
      refine lv_iconst (v := 0) hx hb dX10_snapshotBy_21 (by decide) ?_
      refine lv_goto (tgt := 38) hx hb dX10_snapshotBy_22 (by decide) ?_
      exact J38 (0 : Int32) H locs ls h hP hD hS (lv_sub (l' := []) hl [] rfl)
  · replace h := ifp (c3) h
    refine lv_iload hx hb dX10_snapshotBy_12 (lv_at hl 0 rfl) ?_
    refine lv_goto (tgt := 38) hx hb dX10_snapshotBy_14 (by decide) ?_
    exact J38 r1 H locs ls h hP hD hS (lv_sub (l' := []) hl [] rfl)
def zb_X10_snapshotOf_28 (w0_28 : Int32) : Option (Int32) := some w0_28
def zb_X10_snapshotOf_26  : Option (Int32) := (zb_X10_snapshotOf_28 (-2 : Int32))
def zf_X10_snapshotOf (a1 : Int32) (a2 : Int32) (a3 : Int32) (σ : Sg) : Option (Int32) := obd (zf_X10_isEntry a1 a2 σ) (fun r1 => (if r1 = true then (if (zf_X10_isTwo a3) = true then obd (zf_X10_snapshotBy a1 a2 a3 σ) (fun r6 => (zb_X10_snapshotOf_28 r6)) else zb_X10_snapshotOf_26) else zb_X10_snapshotOf_26))
def oc_X10_snapshotOf : List Cond := [.methodLink RX10 367 yX10_isEntry, .instanceMethod yX10_isEntry, .selects RX10 yX10_isEntry yX10_isEntry, .initialized RX10, .methodLink RX10 175 yX10_isTwo, .static yX10_isTwo, .methodLink RX10 388 yX10_snapshotBy, .instanceMethod yX10_snapshotBy, .selects RX10 yX10_snapshotBy yX10_snapshotBy]
def vc_X10_snapshotOf : List Cond := .code yX10_snapshotOf cX10_snapshotOf 4 (some .int) :: (oc_X10_snapshotOf ++ (vc_X10_isEntry ++ (vc_X10_isTwo ++ (vc_X10_snapshotBy))))
theorem ic_X10_snapshotOf_c_X10_isEntry : ∀ w ∈ vc_X10_isEntry, w ∈ vc_X10_snapshotOf := fun _ h => List.mem_cons_of_mem _ (List.mem_append_right _ (List.mem_append_left _ h))
theorem ic_X10_snapshotOf_c_X10_isTwo : ∀ w ∈ vc_X10_isTwo, w ∈ vc_X10_snapshotOf := fun _ h => List.mem_cons_of_mem _ (List.mem_append_right _ (List.mem_append_right _ (List.mem_append_left _ h)))
theorem ic_X10_snapshotOf_c_X10_snapshotBy : ∀ w ∈ vc_X10_snapshotBy, w ∈ vc_X10_snapshotOf := fun _ h => List.mem_cons_of_mem _ (List.mem_append_right _ (List.mem_append_right _ (List.mem_append_right _ (h))))
theorem gd_c_X10_snapshotOf : (vc_X10_snapshotOf).all goodWord = true := gall_cons rfl (gall_app (by decide +kernel) (gall_app gd_c_X10_isEntry (gall_app gd_c_X10_isTwo gd_c_X10_snapshotBy)))
set_option maxHeartbeats 4000000 in
set_option maxRecDepth 100000 in
theorem c_X10_snapshotOf (l : Launch) (dC : Nat → ClassId) (dI : Nat → Nat → Nat) (cI cT cS : ClassId) (sz : Nat) (ad : Nat → Nat) (a1 : Int32) (a2 : Int32) (a3 : Int32) (σ : Sg) (o : Int32) (h : zf_X10_snapshotOf a1 a2 a3 σ = some o) : gCI (S := Unit) l yX10_snapshotOf vc_X10_snapshotOf { frames := 3, cells := 0, slots := 0, locals := 70 } (dC, dI) (gTY cI cT cS) sz [.ref (ad 0), .int a1, .int a2, .int a3] (Wd 24 (cfR ad cI) σ) (fun (r : Int32) (_ : Unit) => r = o) (fun (_ : Unit) => (Wd 24 (cfR ad cI) σ)) 0 0 := by
  refine Met.ofW (cc := cX10_snapshotOf) (maxL := 4) (ret := (some .int)) (by decide) rfl ?_
  intro p e s m args below meth c s₁ B hml hv
  obtain ⟨rfl, hsz, hP, hK, hD0⟩ := hv
  have hx := B.exec
  have hb := B.bytes
  have hr := B.returns
  have hts := atoms_spec (ws := vc_X10_snapshotOf) B.pre
  have hown : s.vm.findClass RX10 = some m.cls := findClass_of_methodNamed B.named
  have hlocks := B.notSynchronized
  subst hsz
  have hD := hD0.self (sz := s.heap.size)
  generalize hAe : va_A (Wd 24 (cfR ad cI) σ) s.heap.size = A at hD ⊢
  have hA : ∀ q : Nat, s.heap.size ≤ q → A q := fun q h => by rw [← hAe]; exact Or.inr h
  clear hAe hD0
  refine gstart (fun H locs hHe hLe => ?_)
  have hS : va_S A s.heap H locs := by rw [← hHe, ← hLe]; exact va_S.rf
  replace hP : va_P (dC, dI) vwCl (Wd 24 (cfR ad cI) σ) H := by rw [← hHe]; exact hP
  clear hHe hLe
  have hl := lv_entry ([.ref (ad 0), .int a1, .int a2, .int a3]) (n := 4) (Nat.le_of_ble_eq_true rfl)
  rw [lg_entry_eq]
  generalize (lg_sl ([.ref (ad 0), .int a1, .int a2, .int a3]) ++ List.replicate (4 - (lg_sl ([.ref (ad 0), .int a1, .int a2, .int a3])).length) Slot.unset).toArray = ls at hl ⊢
  replace hl : lv_has ls 4 [(0, .ref (ad 0)), (1, .int a1), (2, .int a2), (3, .int a3)] := hl
  unfold zf_X10_snapshotOf at h
  have J28 : ∀ (w0_28 : Int32) (H : Heap) (locs : List Loc) (ls : Array Slot), zb_X10_snapshotOf_28 w0_28 = some o → va_P (dC, dI) vwCl (Wd 24 (cfR ad cI) σ) H → va_D A (Wd 24 (cfR ad cI) σ) → va_S A s.heap H locs → lv_has ls 4 [] → W p l e (headSpec vc_X10_snapshotOf { frames := 3, cells := 0, slots := 0, locals := 70 }).room s m (List.toArray (α := Value) [.ref (ad 0), .int a1, .int a2, .int a3]) below meth c H locs 0 0 (MQ below (va_Qi (fun (r : Int32) (_ : Unit) => r = o) (gB (dC, dI) A (fun (_ : Unit) => (Wd 24 (cfR ad cI) σ))) A) (List.toArray (α := Value) [.ref (ad 0), .int a1, .int a2, .int a3]) s 0 0 A) (F0 m 28 ls [.int w0_28]) := by
    intro w0_28 H locs ls h hP hD hS hl
    unfold zb_X10_snapshotOf_28 at h
    have h9 := Option.some.inj h
    exact wreti hx hb hr hlocks hP hD hS (by show _ = _; rw [← h9]; first | done | rfl) rfl dX10_snapshotOf_28
  have J26 : ∀  (H : Heap) (locs : List Loc) (ls : Array Slot), zb_X10_snapshotOf_26 = some o → va_P (dC, dI) vwCl (Wd 24 (cfR ad cI) σ) H → va_D A (Wd 24 (cfR ad cI) σ) → va_S A s.heap H locs → lv_has ls 4 [] → W p l e (headSpec vc_X10_snapshotOf { frames := 3, cells := 0, slots := 0, locals := 70 }).room s m (List.toArray (α := Value) [.ref (ad 0), .int a1, .int a2, .int a3]) below meth c H locs 0 0 (MQ below (va_Qi (fun (r : Int32) (_ : Unit) => r = o) (gB (dC, dI) A (fun (_ : Unit) => (Wd 24 (cfR ad cI) σ))) A) (List.toArray (α := Value) [.ref (ad 0), .int a1, .int a2, .int a3]) s 0 0 A) (F0 m 26 ls []) := by
    intro  H locs ls h hP hD hS hl
    unfold zb_X10_snapshotOf_26 at h
    refine lv_bipush (v := (-2)) hx hb dX10_snapshotOf_26 (by decide) ?_
    exact J28 (-2 : Int32) H locs ls h hP hD hS (lv_sub (l' := []) hl [] rfl)
  refine lv_aload_n hx hb dX10_snapshotOf_0 rfl (lv_at hl 0 rfl) ?_
  refine lv_iload_n hx hb dX10_snapshotOf_1 rfl (lv_at hl 1 rfl) ?_
  refine lv_iload_n hx hb dX10_snapshotOf_2 rfl (lv_at hl 2 rfl) ?_
  obtain ⟨r1, hc1, h⟩ := obd_inv h
  refine wcalli (S := Unit) (va_runV (As := [.int a1, .int a2]) (rest := []) ⟨hx, hb, hml, hown, hts⟩ (c_X10_isEntry l dC dI cI cT cS H.size ad  a1 a2 σ _ hc1) (cwV 2 hts (gWV (List.mem_of_getElem? (i := 1) rfl) (List.mem_of_getElem? (i := 2) rfl) (List.mem_of_getElem? (i := 3) rfl) (List.mem_of_getElem? (i := 4) rfl) ic_X10_snapshotOf_c_X10_isEntry gd_c_X10_isEntry) rfl rfl rfl (by decide +kernel) ⟨(Nat.le_of_ble_eq_true rfl), (Nat.le_of_ble_eq_true rfl)⟩) (wpV (q := (RX10, TX10, 46)) hP hK hD oX10 rfl) rfl rfl hl.1 rfl (lv_room (Nat.le_of_ble_eq_true rfl)) dX10_snapshotOf_3 ⟨(Nat.le_of_ble_eq_true rfl), (Nat.le_of_ble_eq_true rfl)⟩) hP hD hS hA (fun rr2 _ H locs hr2 hP hD hS => ?_)
  refine lv_nm (y := b2i r1) hr2 ?_
  refine lv_if_eq (tgt := 26) hx hb dX10_snapshotOf_6 (by decide) (fun c3 => ?_) (fun c3 => ?_)
  · replace h := ifn (b2i_0 c3) h
    exact J26  H locs ls h hP hD hS (lv_sub (l' := []) hl [] rfl)
  · replace h := ifp (b2i_1 c3) h
    refine lv_iload_n hx hb dX10_snapshotOf_9 rfl (lv_at hl 3 rfl) ?_
    refine wcalli (S := Unit) (va_runS (As := [.int a3]) (rest := []) ⟨hx, hb, hml, hown, hts⟩ (c_X10_isTwo l dC dI cI cT cS H.size (Wd 24 (cfR ad cI) σ)  a3 _ rfl) (va_cwS 1 hts (gWS (List.mem_of_getElem? (i := 5) rfl) (List.mem_of_getElem? (i := 6) rfl) (List.mem_of_getElem? (i := 4) rfl) ic_X10_snapshotOf_c_X10_isTwo gd_c_X10_isTwo) rfl rfl rfl (by decide +kernel) ⟨(Nat.le_of_ble_eq_true rfl), (Nat.le_of_ble_eq_true rfl)⟩) (gpS hP hK hD) rfl rfl hl.1 rfl (lv_room (Nat.le_of_ble_eq_true rfl)) dX10_snapshotOf_10 ⟨(Nat.le_of_ble_eq_true rfl), (Nat.le_of_ble_eq_true rfl)⟩) hP hD hS hA (fun rr4 _ H locs hr4 hP hD hS => ?_)
    refine lv_nm (y := b2i (zf_X10_isTwo a3)) hr4 ?_
    refine lv_if_eq (tgt := 26) hx hb dX10_snapshotOf_13 (by decide) (fun c5 => ?_) (fun c5 => ?_)
    · replace h := ifn (b2i_0 c5) h
      exact J26  H locs ls h hP hD hS (lv_sub (l' := []) hl [] rfl)
    · replace h := ifp (b2i_1 c5) h
      refine lv_aload_n hx hb dX10_snapshotOf_16 rfl (lv_at hl 0 rfl) ?_
      refine lv_iload_n hx hb dX10_snapshotOf_17 rfl (lv_at hl 1 rfl) ?_
      refine lv_iload_n hx hb dX10_snapshotOf_18 rfl (lv_at hl 2 rfl) ?_
      refine lv_iload_n hx hb dX10_snapshotOf_19 rfl (lv_at hl 3 rfl) ?_
      obtain ⟨r6, hc6, h⟩ := obd_inv h
      refine wcalli (S := Unit) (va_runV (As := [.int a1, .int a2, .int a3]) (rest := []) ⟨hx, hb, hml, hown, hts⟩ (c_X10_snapshotBy l dC dI cI cT cS H.size ad  a1 a2 a3 σ _ hc6) (cwV 3 hts (gWV (List.mem_of_getElem? (i := 7) rfl) (List.mem_of_getElem? (i := 8) rfl) (List.mem_of_getElem? (i := 9) rfl) (List.mem_of_getElem? (i := 4) rfl) ic_X10_snapshotOf_c_X10_snapshotBy gd_c_X10_snapshotBy) rfl rfl rfl (by decide +kernel) ⟨(Nat.le_of_ble_eq_true rfl), (Nat.le_of_ble_eq_true rfl)⟩) (wpV (q := (RX10, TX10, 46)) hP hK hD oX10 rfl) rfl rfl hl.1 rfl (lv_room (Nat.le_of_ble_eq_true rfl)) dX10_snapshotOf_20 ⟨(Nat.le_of_ble_eq_true rfl), (Nat.le_of_ble_eq_true rfl)⟩) hP hD hS hA (fun rr7 _ H locs hr7 hP hD hS => ?_)
      refine lv_nm (y := r6) hr7 ?_
      refine lv_goto (tgt := 28) hx hb dX10_snapshotOf_23 (by decide) ?_
      exact J28 r6 H locs ls h hP hD hS (lv_sub (l' := []) hl [] rfl)
def zf_X10_snapshot (a1 : Int32) (a2 : Int32) (a3 : Int32) (σ : Sg) : Option (Int32 × Sg) := obd (zf_X10_runs (σ 0 10) σ) (fun σ1 => obd (zf_X10_snapshotOf a1 a2 a3 σ1) (fun r3 => some (r3, σ1)))
def oc_X10_snapshot : List Cond := [.fieldLink RX10 83 "TraceTreesModel" "hot" "I", .methodLink RX10 344 yX10_runs, .instanceMethod yX10_runs, .selects RX10 yX10_runs yX10_runs, .initialized RX10, .methodLink RX10 391 yX10_snapshotOf, .instanceMethod yX10_snapshotOf, .selects RX10 yX10_snapshotOf yX10_snapshotOf]
def vc_X10_snapshot : List Cond := .code yX10_snapshot cX10_snapshot 4 (some .int) :: (oc_X10_snapshot ++ (wsX100 ++ (vc_X10_runs ++ (vc_X10_snapshotOf))))
theorem iw_X10_snapshot_X10 : ∀ w ∈ wsX100, w ∈ vc_X10_snapshot := fun _ h => List.mem_cons_of_mem _ (List.mem_append_right _ (List.mem_append_left _ h))
theorem ic_X10_snapshot_c_X10_runs : ∀ w ∈ vc_X10_runs, w ∈ vc_X10_snapshot := fun _ h => List.mem_cons_of_mem _ (List.mem_append_right _ (List.mem_append_right _ (List.mem_append_left _ h)))
theorem ic_X10_snapshot_c_X10_snapshotOf : ∀ w ∈ vc_X10_snapshotOf, w ∈ vc_X10_snapshot := fun _ h => List.mem_cons_of_mem _ (List.mem_append_right _ (List.mem_append_right _ (List.mem_append_right _ (h))))
theorem gd_c_X10_snapshot : (vc_X10_snapshot).all goodWord = true := gall_cons rfl (gall_app (by decide +kernel) (gall_app gw_X10 (gall_app gd_c_X10_runs gd_c_X10_snapshotOf)))
set_option maxHeartbeats 4000000 in
set_option maxRecDepth 100000 in
theorem c_X10_snapshot (l : Launch) (dC : Nat → ClassId) (dI : Nat → Nat → Nat) (cI cT cS : ClassId) (sz : Nat) (ad : Nat → Nat) (a1 : Int32) (a2 : Int32) (a3 : Int32) (σ : Sg) (o : Int32 × Sg) (h : zf_X10_snapshot a1 a2 a3 σ = some o) : gCI (S := Unit) l yX10_snapshot vc_X10_snapshot { frames := 9, cells := 0, slots := 0, locals := 226 } (dC, dI) (gTY cI cT cS) sz [.ref (ad 0), .int a1, .int a2, .int a3] (Wd 24 (cfR ad cI) σ) (fun (r : Int32) (_ : Unit) => r = o.1) (fun (_ : Unit) => (Wd 24 (cfR ad cI) o.2)) 0 0 := by
  refine Met.ofW (cc := cX10_snapshot) (maxL := 4) (ret := (some .int)) (by decide) rfl ?_
  intro p e s m args below meth c s₁ B hml hv
  obtain ⟨rfl, hsz, hP, hK, hD0⟩ := hv
  have hx := B.exec
  have hb := B.bytes
  have hr := B.returns
  have hts := atoms_spec (ws := vc_X10_snapshot) B.pre
  have hown : s.vm.findClass RX10 = some m.cls := findClass_of_methodNamed B.named
  have hlocks := B.notSynchronized
  subst hsz
  have hD := hD0.self (sz := s.heap.size)
  generalize hAe : va_A (Wd 24 (cfR ad cI) σ) s.heap.size = A at hD ⊢
  have hA : ∀ q : Nat, s.heap.size ≤ q → A q := fun q h => by rw [← hAe]; exact Or.inr h
  clear hAe hD0
  refine gstart (fun H locs hHe hLe => ?_)
  have hS : va_S A s.heap H locs := by rw [← hHe, ← hLe]; exact va_S.rf
  replace hP : va_P (dC, dI) vwCl (Wd 24 (cfR ad cI) σ) H := by rw [← hHe]; exact hP
  clear hHe hLe
  have hl := lv_entry ([.ref (ad 0), .int a1, .int a2, .int a3]) (n := 4) (Nat.le_of_ble_eq_true rfl)
  rw [lg_entry_eq]
  generalize (lg_sl ([.ref (ad 0), .int a1, .int a2, .int a3]) ++ List.replicate (4 - (lg_sl ([.ref (ad 0), .int a1, .int a2, .int a3])).length) Slot.unset).toArray = ls at hl ⊢
  replace hl : lv_has ls 4 [(0, .ref (ad 0)), (1, .int a1), (2, .int a2), (3, .int a3)] := hl
  unfold zf_X10_snapshot at h
  refine lv_aload_n hx hb dX10_snapshot_0 rfl (lv_at hl 0 rfl) ?_
  refine lv_aload_n hx hb dX10_snapshot_1 rfl (lv_at hl 0 rfl) ?_
  refine gf_X10_10 hx hb hts iw_X10_snapshot_X10 hown hK hP (hts (.fieldLink RX10 83 "TraceTreesModel" "hot" "I") (List.mem_of_getElem? (i := 1) rfl)) dX10_snapshot_2 ?_
  obtain ⟨σ1, hc1, h⟩ := obd_inv h
  refine wcallv (S := Unit) (va_runV (As := [.int (σ 0 10)]) (rest := []) ⟨hx, hb, hml, hown, hts⟩ (c_X10_runs l dC dI cI cT cS H.size ad  (σ 0 10) σ _ hc1) (cwV 1 hts (gWV (List.mem_of_getElem? (i := 2) rfl) (List.mem_of_getElem? (i := 3) rfl) (List.mem_of_getElem? (i := 4) rfl) (List.mem_of_getElem? (i := 5) rfl) ic_X10_snapshot_c_X10_runs gd_c_X10_runs) rfl rfl rfl (by decide +kernel) ⟨(Nat.le_of_ble_eq_true rfl), (Nat.le_of_ble_eq_true rfl)⟩) (wpV (q := (RX10, TX10, 46)) hP hK hD oX10 rfl) rfl rfl hl.1 rfl (lv_room (Nat.le_of_ble_eq_true rfl)) dX10_snapshot_5 ⟨(Nat.le_of_ble_eq_true rfl), (Nat.le_of_ble_eq_true rfl)⟩) hP hD hS hA (fun _ H locs hr2 hP hD hS => ?_)
  replace hP : va_P (dC, dI) vwCl (Wd 24 (cfR ad cI) σ1) H := hP
  replace hD : va_D A (Wd 24 (cfR ad cI) σ1) := hD
  refine lv_aload_n hx hb dX10_snapshot_8 rfl (lv_at hl 0 rfl) ?_
  refine lv_iload_n hx hb dX10_snapshot_9 rfl (lv_at hl 1 rfl) ?_
  refine lv_iload_n hx hb dX10_snapshot_10 rfl (lv_at hl 2 rfl) ?_
  refine lv_iload_n hx hb dX10_snapshot_11 rfl (lv_at hl 3 rfl) ?_
  obtain ⟨r3, hc3, h⟩ := obd_inv h
  refine wcalli (S := Unit) (va_runV (As := [.int a1, .int a2, .int a3]) (rest := []) ⟨hx, hb, hml, hown, hts⟩ (c_X10_snapshotOf l dC dI cI cT cS H.size ad  a1 a2 a3 σ1 _ hc3) (cwV 3 hts (gWV (List.mem_of_getElem? (i := 6) rfl) (List.mem_of_getElem? (i := 7) rfl) (List.mem_of_getElem? (i := 8) rfl) (List.mem_of_getElem? (i := 5) rfl) ic_X10_snapshot_c_X10_snapshotOf gd_c_X10_snapshotOf) rfl rfl rfl (by decide +kernel) ⟨(Nat.le_of_ble_eq_true rfl), (Nat.le_of_ble_eq_true rfl)⟩) (wpV (q := (RX10, TX10, 46)) hP hK hD oX10 rfl) rfl rfl hl.1 rfl (lv_room (Nat.le_of_ble_eq_true rfl)) dX10_snapshot_12 ⟨(Nat.le_of_ble_eq_true rfl), (Nat.le_of_ble_eq_true rfl)⟩) hP hD hS hA (fun rr4 _ H locs hr4 hP hD hS => ?_)
  refine lv_nm (y := r3) hr4 ?_
  have h9 := Option.some.inj h
  exact wreti hx hb hr hlocks hP hD hS (by show _ = _; rw [← h9]; first | done | rfl) (by rw [← h9]) dX10_snapshot_15
def zb_X10_writesOf_24 (w0_24 : Int32) : Option (Int32) := some w0_24
def zf_X10_writesOf (a1 : Int32) (σ : Sg) : Option (Int32) := (if (zf_X10_isTrace a1 σ) = true then bd a1 8 (obd (zf_X10_writtenAhead a1 (σ 15 a1.toNatClampNeg) σ) (fun r4 => (zb_X10_writesOf_24 r4))) else (zb_X10_writesOf_24 (-2 : Int32)))
def oc_X10_writesOf : List Cond := [.methodLink RX10 356 yX10_isTrace, .instanceMethod yX10_isTrace, .selects RX10 yX10_isTrace yX10_isTrace, .initialized RX10, .fieldLink RX10 52 "TraceTreesModel" "length" "[I", .methodLink RX10 376 yX10_writtenAhead, .instanceMethod yX10_writtenAhead, .selects RX10 yX10_writtenAhead yX10_writtenAhead]
def vc_X10_writesOf : List Cond := .code yX10_writesOf cX10_writesOf 2 (some .int) :: (oc_X10_writesOf ++ (wsX100 ++ (vc_X10_isTrace ++ (vc_X10_writtenAhead))))
theorem iw_X10_writesOf_X10 : ∀ w ∈ wsX100, w ∈ vc_X10_writesOf := fun _ h => List.mem_cons_of_mem _ (List.mem_append_right _ (List.mem_append_left _ h))
theorem ic_X10_writesOf_c_X10_isTrace : ∀ w ∈ vc_X10_isTrace, w ∈ vc_X10_writesOf := fun _ h => List.mem_cons_of_mem _ (List.mem_append_right _ (List.mem_append_right _ (List.mem_append_left _ h)))
theorem ic_X10_writesOf_c_X10_writtenAhead : ∀ w ∈ vc_X10_writtenAhead, w ∈ vc_X10_writesOf := fun _ h => List.mem_cons_of_mem _ (List.mem_append_right _ (List.mem_append_right _ (List.mem_append_right _ (h))))
theorem gd_c_X10_writesOf : (vc_X10_writesOf).all goodWord = true := gall_cons rfl (gall_app (by decide +kernel) (gall_app gw_X10 (gall_app gd_c_X10_isTrace gd_c_X10_writtenAhead)))
set_option maxHeartbeats 4000000 in
set_option maxRecDepth 100000 in
theorem c_X10_writesOf (l : Launch) (dC : Nat → ClassId) (dI : Nat → Nat → Nat) (cI cT cS : ClassId) (sz : Nat) (ad : Nat → Nat) (a1 : Int32) (σ : Sg) (o : Int32) (h : zf_X10_writesOf a1 σ = some o) : gCI (S := Unit) l yX10_writesOf vc_X10_writesOf { frames := 2, cells := 0, slots := 0, locals := 46 } (dC, dI) (gTY cI cT cS) sz [.ref (ad 0), .int a1] (Wd 24 (cfR ad cI) σ) (fun (r : Int32) (_ : Unit) => r = o) (fun (_ : Unit) => (Wd 24 (cfR ad cI) σ)) 0 0 := by
  refine Met.ofW (cc := cX10_writesOf) (maxL := 2) (ret := (some .int)) (by decide) rfl ?_
  intro p e s m args below meth c s₁ B hml hv
  obtain ⟨rfl, hsz, hP, hK, hD0⟩ := hv
  have hx := B.exec
  have hb := B.bytes
  have hr := B.returns
  have hts := atoms_spec (ws := vc_X10_writesOf) B.pre
  have hown : s.vm.findClass RX10 = some m.cls := findClass_of_methodNamed B.named
  have hlocks := B.notSynchronized
  subst hsz
  have hD := hD0.self (sz := s.heap.size)
  generalize hAe : va_A (Wd 24 (cfR ad cI) σ) s.heap.size = A at hD ⊢
  have hA : ∀ q : Nat, s.heap.size ≤ q → A q := fun q h => by rw [← hAe]; exact Or.inr h
  clear hAe hD0
  refine gstart (fun H locs hHe hLe => ?_)
  have hS : va_S A s.heap H locs := by rw [← hHe, ← hLe]; exact va_S.rf
  replace hP : va_P (dC, dI) vwCl (Wd 24 (cfR ad cI) σ) H := by rw [← hHe]; exact hP
  clear hHe hLe
  have hl := lv_entry ([.ref (ad 0), .int a1]) (n := 2) (Nat.le_of_ble_eq_true rfl)
  rw [lg_entry_eq]
  generalize (lg_sl ([.ref (ad 0), .int a1]) ++ List.replicate (2 - (lg_sl ([.ref (ad 0), .int a1])).length) Slot.unset).toArray = ls at hl ⊢
  replace hl : lv_has ls 2 [(0, .ref (ad 0)), (1, .int a1)] := hl
  unfold zf_X10_writesOf at h
  have J24 : ∀ (w0_24 : Int32) (H : Heap) (locs : List Loc) (ls : Array Slot), zb_X10_writesOf_24 w0_24 = some o → va_P (dC, dI) vwCl (Wd 24 (cfR ad cI) σ) H → va_D A (Wd 24 (cfR ad cI) σ) → va_S A s.heap H locs → lv_has ls 2 [] → W p l e (headSpec vc_X10_writesOf { frames := 2, cells := 0, slots := 0, locals := 46 }).room s m (List.toArray (α := Value) [.ref (ad 0), .int a1]) below meth c H locs 0 0 (MQ below (va_Qi (fun (r : Int32) (_ : Unit) => r = o) (gB (dC, dI) A (fun (_ : Unit) => (Wd 24 (cfR ad cI) σ))) A) (List.toArray (α := Value) [.ref (ad 0), .int a1]) s 0 0 A) (F0 m 24 ls [.int w0_24]) := by
    intro w0_24 H locs ls h hP hD hS hl
    unfold zb_X10_writesOf_24 at h
    have h9 := Option.some.inj h
    exact wreti hx hb hr hlocks hP hD hS (by show _ = _; rw [← h9]; first | done | rfl) rfl dX10_writesOf_24
  refine lv_aload_n hx hb dX10_writesOf_0 rfl (lv_at hl 0 rfl) ?_
  refine lv_iload_n hx hb dX10_writesOf_1 rfl (lv_at hl 1 rfl) ?_
  refine wcalli (S := Unit) (va_runV (As := [.int a1]) (rest := []) ⟨hx, hb, hml, hown, hts⟩ (c_X10_isTrace l dC dI cI cT cS H.size ad  a1 σ _ rfl) (cwV 1 hts (gWV (List.mem_of_getElem? (i := 1) rfl) (List.mem_of_getElem? (i := 2) rfl) (List.mem_of_getElem? (i := 3) rfl) (List.mem_of_getElem? (i := 4) rfl) ic_X10_writesOf_c_X10_isTrace gd_c_X10_isTrace) rfl rfl rfl (by decide +kernel) ⟨(Nat.le_of_ble_eq_true rfl), (Nat.le_of_ble_eq_true rfl)⟩) (wpV (q := (RX10, TX10, 46)) hP hK hD oX10 rfl) rfl rfl hl.1 rfl (lv_room (Nat.le_of_ble_eq_true rfl)) dX10_writesOf_2 ⟨(Nat.le_of_ble_eq_true rfl), (Nat.le_of_ble_eq_true rfl)⟩) hP hD hS hA (fun rr1 _ H locs hr1 hP hD hS => ?_)
  refine lv_nm (y := b2i (zf_X10_isTrace a1 σ)) hr1 ?_
  refine lv_if_eq (tgt := 22) hx hb dX10_writesOf_5 (by decide) (fun c2 => ?_) (fun c2 => ?_)
  · replace h := ifn (b2i_0 c2) h
    refine lv_bipush (v := (-2)) hx hb dX10_writesOf_22 (by decide) ?_
    exact J24 (-2 : Int32) H locs ls h hP hD hS (lv_sub (l' := []) hl [] rfl)
  · replace h := ifp (b2i_1 c2) h
    refine lv_aload_n hx hb dX10_writesOf_8 rfl (lv_at hl 0 rfl) ?_
    refine lv_iload_n hx hb dX10_writesOf_9 rfl (lv_at hl 1 rfl) ?_
    refine lv_aload_n hx hb dX10_writesOf_10 rfl (lv_at hl 0 rfl) ?_
    refine gf_X10_29 hx hb hts iw_X10_writesOf_X10 hown hK hP (hts (.fieldLink RX10 52 "TraceTreesModel" "length" "[I") (List.mem_of_getElem? (i := 5) rfl)) dX10_writesOf_11 ?_
    refine lv_iload_n hx hb dX10_writesOf_14 rfl (lv_at hl 1 rfl) ?_
    obtain ⟨hi3, h⟩ := bd_inv h
    refine wald hx hb hK hP aR15 hi3 dX10_writesOf_15 ?_
    obtain ⟨r4, hc4, h⟩ := obd_inv h
    refine wcalli (S := Unit) (va_runV (As := [.int a1, .int (σ 15 a1.toNatClampNeg)]) (rest := []) ⟨hx, hb, hml, hown, hts⟩ (c_X10_writtenAhead l dC dI cI cT cS H.size ad  a1 (σ 15 a1.toNatClampNeg) σ _ hc4) (cwV 2 hts (gWV (List.mem_of_getElem? (i := 6) rfl) (List.mem_of_getElem? (i := 7) rfl) (List.mem_of_getElem? (i := 8) rfl) (List.mem_of_getElem? (i := 4) rfl) ic_X10_writesOf_c_X10_writtenAhead gd_c_X10_writtenAhead) rfl rfl rfl (by decide +kernel) ⟨(Nat.le_of_ble_eq_true rfl), (Nat.le_of_ble_eq_true rfl)⟩) (wpV (q := (RX10, TX10, 46)) hP hK hD oX10 rfl) rfl rfl hl.1 rfl (lv_room (Nat.le_of_ble_eq_true rfl)) dX10_writesOf_16 ⟨(Nat.le_of_ble_eq_true rfl), (Nat.le_of_ble_eq_true rfl)⟩) hP hD hS hA (fun rr5 _ H locs hr5 hP hD hS => ?_)
    refine lv_nm (y := r4) hr5 ?_
    refine lv_goto (tgt := 24) hx hb dX10_writesOf_19 (by decide) ?_
    exact J24 r4 H locs ls h hP hD hS (lv_sub (l' := []) hl [] rfl)
def zf_X10_writes (a1 : Int32) (σ : Sg) : Option (Int32 × Sg) := obd (zf_X10_runs (σ 0 10) σ) (fun σ1 => obd (zf_X10_writesOf a1 σ1) (fun r3 => some (r3, σ1)))
def oc_X10_writes : List Cond := [.fieldLink RX10 83 "TraceTreesModel" "hot" "I", .methodLink RX10 344 yX10_runs, .instanceMethod yX10_runs, .selects RX10 yX10_runs yX10_runs, .initialized RX10, .methodLink RX10 394 yX10_writesOf, .instanceMethod yX10_writesOf, .selects RX10 yX10_writesOf yX10_writesOf]
def vc_X10_writes : List Cond := .code yX10_writes cX10_writes 2 (some .int) :: (oc_X10_writes ++ (wsX100 ++ (vc_X10_runs ++ (vc_X10_writesOf))))
theorem iw_X10_writes_X10 : ∀ w ∈ wsX100, w ∈ vc_X10_writes := fun _ h => List.mem_cons_of_mem _ (List.mem_append_right _ (List.mem_append_left _ h))
theorem ic_X10_writes_c_X10_runs : ∀ w ∈ vc_X10_runs, w ∈ vc_X10_writes := fun _ h => List.mem_cons_of_mem _ (List.mem_append_right _ (List.mem_append_right _ (List.mem_append_left _ h)))
theorem ic_X10_writes_c_X10_writesOf : ∀ w ∈ vc_X10_writesOf, w ∈ vc_X10_writes := fun _ h => List.mem_cons_of_mem _ (List.mem_append_right _ (List.mem_append_right _ (List.mem_append_right _ (h))))
theorem gd_c_X10_writes : (vc_X10_writes).all goodWord = true := gall_cons rfl (gall_app (by decide +kernel) (gall_app gw_X10 (gall_app gd_c_X10_runs gd_c_X10_writesOf)))
set_option maxHeartbeats 4000000 in
set_option maxRecDepth 100000 in
theorem c_X10_writes (l : Launch) (dC : Nat → ClassId) (dI : Nat → Nat → Nat) (cI cT cS : ClassId) (sz : Nat) (ad : Nat → Nat) (a1 : Int32) (σ : Sg) (o : Int32 × Sg) (h : zf_X10_writes a1 σ = some o) : gCI (S := Unit) l yX10_writes vc_X10_writes { frames := 9, cells := 0, slots := 0, locals := 226 } (dC, dI) (gTY cI cT cS) sz [.ref (ad 0), .int a1] (Wd 24 (cfR ad cI) σ) (fun (r : Int32) (_ : Unit) => r = o.1) (fun (_ : Unit) => (Wd 24 (cfR ad cI) o.2)) 0 0 := by
  refine Met.ofW (cc := cX10_writes) (maxL := 2) (ret := (some .int)) (by decide) rfl ?_
  intro p e s m args below meth c s₁ B hml hv
  obtain ⟨rfl, hsz, hP, hK, hD0⟩ := hv
  have hx := B.exec
  have hb := B.bytes
  have hr := B.returns
  have hts := atoms_spec (ws := vc_X10_writes) B.pre
  have hown : s.vm.findClass RX10 = some m.cls := findClass_of_methodNamed B.named
  have hlocks := B.notSynchronized
  subst hsz
  have hD := hD0.self (sz := s.heap.size)
  generalize hAe : va_A (Wd 24 (cfR ad cI) σ) s.heap.size = A at hD ⊢
  have hA : ∀ q : Nat, s.heap.size ≤ q → A q := fun q h => by rw [← hAe]; exact Or.inr h
  clear hAe hD0
  refine gstart (fun H locs hHe hLe => ?_)
  have hS : va_S A s.heap H locs := by rw [← hHe, ← hLe]; exact va_S.rf
  replace hP : va_P (dC, dI) vwCl (Wd 24 (cfR ad cI) σ) H := by rw [← hHe]; exact hP
  clear hHe hLe
  have hl := lv_entry ([.ref (ad 0), .int a1]) (n := 2) (Nat.le_of_ble_eq_true rfl)
  rw [lg_entry_eq]
  generalize (lg_sl ([.ref (ad 0), .int a1]) ++ List.replicate (2 - (lg_sl ([.ref (ad 0), .int a1])).length) Slot.unset).toArray = ls at hl ⊢
  replace hl : lv_has ls 2 [(0, .ref (ad 0)), (1, .int a1)] := hl
  unfold zf_X10_writes at h
  refine lv_aload_n hx hb dX10_writes_0 rfl (lv_at hl 0 rfl) ?_
  refine lv_aload_n hx hb dX10_writes_1 rfl (lv_at hl 0 rfl) ?_
  refine gf_X10_10 hx hb hts iw_X10_writes_X10 hown hK hP (hts (.fieldLink RX10 83 "TraceTreesModel" "hot" "I") (List.mem_of_getElem? (i := 1) rfl)) dX10_writes_2 ?_
  obtain ⟨σ1, hc1, h⟩ := obd_inv h
  refine wcallv (S := Unit) (va_runV (As := [.int (σ 0 10)]) (rest := []) ⟨hx, hb, hml, hown, hts⟩ (c_X10_runs l dC dI cI cT cS H.size ad  (σ 0 10) σ _ hc1) (cwV 1 hts (gWV (List.mem_of_getElem? (i := 2) rfl) (List.mem_of_getElem? (i := 3) rfl) (List.mem_of_getElem? (i := 4) rfl) (List.mem_of_getElem? (i := 5) rfl) ic_X10_writes_c_X10_runs gd_c_X10_runs) rfl rfl rfl (by decide +kernel) ⟨(Nat.le_of_ble_eq_true rfl), (Nat.le_of_ble_eq_true rfl)⟩) (wpV (q := (RX10, TX10, 46)) hP hK hD oX10 rfl) rfl rfl hl.1 rfl (lv_room (Nat.le_of_ble_eq_true rfl)) dX10_writes_5 ⟨(Nat.le_of_ble_eq_true rfl), (Nat.le_of_ble_eq_true rfl)⟩) hP hD hS hA (fun _ H locs hr2 hP hD hS => ?_)
  replace hP : va_P (dC, dI) vwCl (Wd 24 (cfR ad cI) σ1) H := hP
  replace hD : va_D A (Wd 24 (cfR ad cI) σ1) := hD
  refine lv_aload_n hx hb dX10_writes_8 rfl (lv_at hl 0 rfl) ?_
  refine lv_iload_n hx hb dX10_writes_9 rfl (lv_at hl 1 rfl) ?_
  obtain ⟨r3, hc3, h⟩ := obd_inv h
  refine wcalli (S := Unit) (va_runV (As := [.int a1]) (rest := []) ⟨hx, hb, hml, hown, hts⟩ (c_X10_writesOf l dC dI cI cT cS H.size ad  a1 σ1 _ hc3) (cwV 1 hts (gWV (List.mem_of_getElem? (i := 6) rfl) (List.mem_of_getElem? (i := 7) rfl) (List.mem_of_getElem? (i := 8) rfl) (List.mem_of_getElem? (i := 5) rfl) ic_X10_writes_c_X10_writesOf gd_c_X10_writesOf) rfl rfl rfl (by decide +kernel) ⟨(Nat.le_of_ble_eq_true rfl), (Nat.le_of_ble_eq_true rfl)⟩) (wpV (q := (RX10, TX10, 46)) hP hK hD oX10 rfl) rfl rfl hl.1 rfl (lv_room (Nat.le_of_ble_eq_true rfl)) dX10_writes_10 ⟨(Nat.le_of_ble_eq_true rfl), (Nat.le_of_ble_eq_true rfl)⟩) hP hD hS hA (fun rr4 _ H locs hr4 hP hD hS => ?_)
  refine lv_nm (y := r3) hr4 ?_
  have h9 := Option.some.inj h
  exact wreti hx hb hr hlocks hP hD hS (by show _ = _; rw [← h9]; first | done | rfl) (by rw [← h9]) dX10_writes_13
def zb_X10_betterBy_59 (w0_59 : Int32) (σb59 : Sg) : Option (Int32 × Sg) := some (w0_59, σb59)
def zb_X10_betterBy_34 (x7 : Int32 × Int32 × Int32 × Sg) (w0_34 : Int32) (σb34 : Sg) : Option (Bool × (Int32 × Int32 × Int32 × Sg)) := letb (zf_X10_greater (σb34 0 18) x7.2.1) (fun e6 => some (true, ((x7.1 + (1 : Int32)), e6, w0_34, σb34)))
def zl_X10_betterBy_7  (x7 : Int32 × Int32 × Int32 × Sg) : Option (Bool × (Int32 × Int32 × Int32 × Sg)) := (if (10 : Int32) ≤ x7.1 then some (false, (x7.1, x7.2.1, x7.2.2.1, x7.2.2.2)) else obd (zf_X10_runs x7.1 x7.2.2.2) (fun σ2 => (if (σ2 0 18) ≤ x7.2.1 then (zb_X10_betterBy_34 x7 x7.2.2.1 σ2) else (zb_X10_betterBy_34 x7 x7.1 σ2))))
def zf_X10_betterBy (a1 : Int32) (σ : Sg) : Option (Int32 × Sg) := obd (lp (X := Int32 × Int32 × Int32 × Sg) zl_X10_betterBy_7 1000 ((2 : Int32), (-1 : Int32), (-1 : Int32), σ)) (fun y7 => (if a1 = 0 then (zb_X10_betterBy_59 y7.2.2.1 y7.2.2.2) else (zb_X10_betterBy_59 y7.2.1 y7.2.2.2)))
def oc_X10_betterBy : List Cond := [.methodLink RX10 344 yX10_runs, .instanceMethod yX10_runs, .selects RX10 yX10_runs yX10_runs, .initialized RX10, .fieldLink RX10 307 "TraceTreesModel" "compiled" "I", .methodLink RX10 397 yX10_greater, .static yX10_greater]
def vc_X10_betterBy : List Cond := .code yX10_betterBy cX10_betterBy 5 (some .int) :: (oc_X10_betterBy ++ (wsX100 ++ (vc_X10_runs ++ (vc_X10_greater))))
theorem iw_X10_betterBy_X10 : ∀ w ∈ wsX100, w ∈ vc_X10_betterBy := fun _ h => List.mem_cons_of_mem _ (List.mem_append_right _ (List.mem_append_left _ h))
theorem ic_X10_betterBy_c_X10_runs : ∀ w ∈ vc_X10_runs, w ∈ vc_X10_betterBy := fun _ h => List.mem_cons_of_mem _ (List.mem_append_right _ (List.mem_append_right _ (List.mem_append_left _ h)))
theorem ic_X10_betterBy_c_X10_greater : ∀ w ∈ vc_X10_greater, w ∈ vc_X10_betterBy := fun _ h => List.mem_cons_of_mem _ (List.mem_append_right _ (List.mem_append_right _ (List.mem_append_right _ (h))))
theorem gd_c_X10_betterBy : (vc_X10_betterBy).all goodWord = true := gall_cons rfl (gall_app (by decide +kernel) (gall_app gw_X10 (gall_app gd_c_X10_runs gd_c_X10_greater)))
set_option maxHeartbeats 4000000 in
set_option maxRecDepth 100000 in
theorem c_X10_betterBy (l : Launch) (dC : Nat → ClassId) (dI : Nat → Nat → Nat) (cI cT cS : ClassId) (sz : Nat) (ad : Nat → Nat) (a1 : Int32) (σ : Sg) (o : Int32 × Sg) (h : zf_X10_betterBy a1 σ = some o) : gCI (S := Unit) l yX10_betterBy vc_X10_betterBy { frames := 9, cells := 0, slots := 0, locals := 226 } (dC, dI) (gTY cI cT cS) sz [.ref (ad 0), .int a1] (Wd 24 (cfR ad cI) σ) (fun (r : Int32) (_ : Unit) => r = o.1) (fun (_ : Unit) => (Wd 24 (cfR ad cI) o.2)) 0 0 := by
  refine Met.ofW (cc := cX10_betterBy) (maxL := 5) (ret := (some .int)) (by decide) rfl ?_
  intro p e s m args below meth c s₁ B hml hv
  obtain ⟨rfl, hsz, hP, hK, hD0⟩ := hv
  have hx := B.exec
  have hb := B.bytes
  have hr := B.returns
  have hts := atoms_spec (ws := vc_X10_betterBy) B.pre
  have hown : s.vm.findClass RX10 = some m.cls := findClass_of_methodNamed B.named
  have hlocks := B.notSynchronized
  subst hsz
  have hD := hD0.self (sz := s.heap.size)
  generalize hAe : va_A (Wd 24 (cfR ad cI) σ) s.heap.size = A at hD ⊢
  have hA : ∀ q : Nat, s.heap.size ≤ q → A q := fun q h => by rw [← hAe]; exact Or.inr h
  clear hAe hD0
  refine gstart (fun H locs hHe hLe => ?_)
  have hS : va_S A s.heap H locs := by rw [← hHe, ← hLe]; exact va_S.rf
  replace hP : va_P (dC, dI) vwCl (Wd 24 (cfR ad cI) σ) H := by rw [← hHe]; exact hP
  clear hHe hLe
  have hl := lv_entry ([.ref (ad 0), .int a1]) (n := 5) (Nat.le_of_ble_eq_true rfl)
  rw [lg_entry_eq]
  generalize (lg_sl ([.ref (ad 0), .int a1]) ++ List.replicate (5 - (lg_sl ([.ref (ad 0), .int a1])).length) Slot.unset).toArray = ls at hl ⊢
  replace hl : lv_has ls 5 [(0, .ref (ad 0)), (1, .int a1)] := hl
  unfold zf_X10_betterBy at h
  have J59 : ∀ (w0_59 : Int32) (σb59 : Sg) (H : Heap) (locs : List Loc) (ls : Array Slot), zb_X10_betterBy_59 w0_59 σb59 = some o → va_P (dC, dI) vwCl (Wd 24 (cfR ad cI) σb59) H → va_D A (Wd 24 (cfR ad cI) σb59) → va_S A s.heap H locs → lv_has ls 5 [] → W p l e (headSpec vc_X10_betterBy { frames := 9, cells := 0, slots := 0, locals := 226 }).room s m (List.toArray (α := Value) [.ref (ad 0), .int a1]) below meth c H locs 0 0 (MQ below (va_Qi (fun (r : Int32) (_ : Unit) => r = o.1) (gB (dC, dI) A (fun (_ : Unit) => (Wd 24 (cfR ad cI) o.2))) A) (List.toArray (α := Value) [.ref (ad 0), .int a1]) s 0 0 A) (F0 m 59 ls [.int w0_59]) := by
    intro w0_59 σb59 H locs ls h hP hD hS hl
    unfold zb_X10_betterBy_59 at h
    have h9 := Option.some.inj h
    exact wreti hx hb hr hlocks hP hD hS (by show _ = _; rw [← h9]; first | done | rfl) (by rw [← h9]) dX10_betterBy_59
  refine lv_iconst (v := (-1)) hx hb dX10_betterBy_0 (by decide) ?_
  refine lv_istore_n (lv' := [(2, .int (-1 : Int32)), (0, .ref (ad 0)), (1, .int a1)]) hx hb dX10_betterBy_1 rfl hl (by decide) rfl (fun ls hl => ?_)
  refine lv_iconst (v := (-1)) hx hb dX10_betterBy_2 (by decide) ?_
  refine lv_istore_n (lv' := [(3, .int (-1 : Int32)), (2, .int (-1 : Int32)), (0, .ref (ad 0)), (1, .int a1)]) hx hb dX10_betterBy_3 rfl hl (by decide) rfl (fun ls hl => ?_)
  refine lv_iconst (v := 2) hx hb dX10_betterBy_4 (by decide) ?_
  refine lv_istore (lv' := [(4, .int (2 : Int32)), (3, .int (-1 : Int32)), (2, .int (-1 : Int32)), (0, .ref (ad 0)), (1, .int a1)]) hx hb dX10_betterBy_5 hl (by decide) rfl (fun ls hl => ?_)
  obtain ⟨y7, hlp7, h⟩ := obd_inv h
  refine lp_W (fun x7 : Int32 × Int32 × Int32 × Sg => ∀ (H : Heap) (locs : List Loc) (ls : Array Slot), va_P (dC, dI) vwCl (Wd 24 (cfR ad cI) x7.2.2.2) H → va_D A (Wd 24 (cfR ad cI) x7.2.2.2) → va_S A s.heap H locs → lv_has ls 5 [(4, .int x7.1), (3, .int x7.2.1), (2, .int x7.2.2.1), (0, .ref (ad 0)), (1, .int a1)] → W p l e (headSpec vc_X10_betterBy { frames := 9, cells := 0, slots := 0, locals := 226 }).room s m (List.toArray (α := Value) [.ref (ad 0), .int a1]) below meth c H locs 0 0 (MQ below (va_Qi (fun (r : Int32) (_ : Unit) => r = o.1) (gB (dC, dI) A (fun (_ : Unit) => (Wd 24 (cfR ad cI) o.2))) A) (List.toArray (α := Value) [.ref (ad 0), .int a1]) s 0 0 A) (F0 m 7 ls [])) (fun y7 : Int32 × Int32 × Int32 × Sg => ∀ (H : Heap) (locs : List Loc) (ls : Array Slot), va_P (dC, dI) vwCl (Wd 24 (cfR ad cI) y7.2.2.2) H → va_D A (Wd 24 (cfR ad cI) y7.2.2.2) → va_S A s.heap H locs → lv_has ls 5 [(3, .int y7.2.1), (2, .int y7.2.2.1), (1, .int a1)] → W p l e (headSpec vc_X10_betterBy { frames := 9, cells := 0, slots := 0, locals := 226 }).room s m (List.toArray (α := Value) [.ref (ad 0), .int a1]) below meth c H locs 0 0 (MQ below (va_Qi (fun (r : Int32) (_ : Unit) => r = o.1) (gB (dC, dI) A (fun (_ : Unit) => (Wd 24 (cfR ad cI) o.2))) A) (List.toArray (α := Value) [.ref (ad 0), .int a1]) s 0 0 A) (F0 m 50 ls [])) ?_ 1000 ((2 : Int32), (-1 : Int32), (-1 : Int32), σ) y7 hlp7 ?_ H locs ls hP hD hS (lv_sub (l' := [(4, .int (2 : Int32)), (3, .int (-1 : Int32)), (2, .int (-1 : Int32)), (0, .ref (ad 0)), (1, .int a1)]) hl [0, 1, 2, 3, 4] rfl)
  · intro x7 yy7 h ht7 hf7 H locs ls hP hD hS hl
    unfold zl_X10_betterBy_7 at h
    have J34 : ∀ (w0_34 : Int32) (σb34 : Sg) (H : Heap) (locs : List Loc) (ls : Array Slot), zb_X10_betterBy_34 x7 w0_34 σb34 = some yy7 → va_P (dC, dI) vwCl (Wd 24 (cfR ad cI) σb34) H → va_D A (Wd 24 (cfR ad cI) σb34) → va_S A s.heap H locs → lv_has ls 5 [(4, .int x7.1), (3, .int x7.2.1), (0, .ref (ad 0)), (1, .int a1)] → W p l e (headSpec vc_X10_betterBy { frames := 9, cells := 0, slots := 0, locals := 226 }).room s m (List.toArray (α := Value) [.ref (ad 0), .int a1]) below meth c H locs 0 0 (MQ below (va_Qi (fun (r : Int32) (_ : Unit) => r = o.1) (gB (dC, dI) A (fun (_ : Unit) => (Wd 24 (cfR ad cI) o.2))) A) (List.toArray (α := Value) [.ref (ad 0), .int a1]) s 0 0 A) (F0 m 34 ls [.int w0_34]) := by
      intro w0_34 σb34 H locs ls h hP hD hS hl
      unfold zb_X10_betterBy_34 at h
      refine lv_istore_n (lv' := [(2, .int w0_34), (4, .int x7.1), (3, .int x7.2.1), (0, .ref (ad 0)), (1, .int a1)]) hx hb dX10_betterBy_34 rfl hl (by decide) rfl (fun ls hl => ?_)
      refine lv_aload_n hx hb dX10_betterBy_35 rfl (lv_at hl 3 rfl) ?_
      refine gf_X10_18 hx hb hts iw_X10_betterBy_X10 hown hK hP (hts (.fieldLink RX10 307 "TraceTreesModel" "compiled" "I") (List.mem_of_getElem? (i := 5) rfl)) dX10_betterBy_36 ?_
      refine lv_iload_n hx hb dX10_betterBy_39 rfl (lv_at hl 2 rfl) ?_
      refine wcalli (S := Unit) (va_runS (As := [.int (σb34 0 18), .int x7.2.1]) (rest := []) ⟨hx, hb, hml, hown, hts⟩ (c_X10_greater l dC dI cI cT cS H.size (Wd 24 (cfR ad cI) σb34)  (σb34 0 18) x7.2.1 _ rfl) (va_cwS 2 hts (gWS (List.mem_of_getElem? (i := 6) rfl) (List.mem_of_getElem? (i := 7) rfl) (List.mem_of_getElem? (i := 4) rfl) ic_X10_betterBy_c_X10_greater gd_c_X10_greater) rfl rfl rfl (by decide +kernel) ⟨(Nat.le_of_ble_eq_true rfl), (Nat.le_of_ble_eq_true rfl)⟩) (gpS hP hK hD) rfl rfl hl.1 rfl (lv_room (Nat.le_of_ble_eq_true rfl)) dX10_betterBy_40 ⟨(Nat.le_of_ble_eq_true rfl), (Nat.le_of_ble_eq_true rfl)⟩) hP hD hS hA (fun rr5 _ H locs hr5 hP hD hS => ?_)
      refine lv_nm (y := (zf_X10_greater (σb34 0 18) x7.2.1)) hr5 ?_
      obtain ⟨e6, he6, h⟩ := letb_inv h
      refine lv_nm he6 ?_
      refine lv_istore_n (lv' := [(3, .int e6), (2, .int w0_34), (4, .int x7.1), (0, .ref (ad 0)), (1, .int a1)]) hx hb dX10_betterBy_43 rfl hl (by decide) rfl (fun ls hl => ?_)
      refine lv_iinc (v := (x7.1 + (1 : Int32))) (lv' := [(4, .int (x7.1 + (1 : Int32))), (3, .int e6), (2, .int w0_34), (0, .ref (ad 0)), (1, .int a1)]) hx hb dX10_betterBy_44 hl (k := 2) rfl rfl (by decide) rfl (fun ls hl => ?_)
      refine lv_goto (tgt := 7) hx hb dX10_betterBy_47 (by decide) ?_
      obtain rfl := Option.some.inj h
      exact ht7 rfl H locs ls hP hD hS (lv_sub (l' := [(4, .int (x7.1 + (1 : Int32))), (3, .int e6), (2, .int w0_34), (0, .ref (ad 0)), (1, .int a1)]) hl [0, 1, 2, 3, 4] rfl)
    refine lv_iload hx hb dX10_betterBy_7 (lv_at hl 0 rfl) ?_
    refine lv_bipush (v := 10) hx hb dX10_betterBy_9 (by decide) ?_
    refine lv_icmp_ge (tgt := 50) hx hb dX10_betterBy_11 (by decide) (fun c1 => ?_) (fun c1 => ?_)
    · replace h := ifp (c1) h
      obtain rfl := Option.some.inj h
      exact hf7 rfl H locs ls hP hD hS (lv_sub (l' := [(3, .int x7.2.1), (2, .int x7.2.2.1), (1, .int a1)]) hl [1, 2, 4] rfl)
    · replace h := ifn (c1) h
      refine lv_aload_n hx hb dX10_betterBy_14 rfl (lv_at hl 3 rfl) ?_
      refine lv_iload hx hb dX10_betterBy_15 (lv_at hl 0 rfl) ?_
      obtain ⟨σ2, hc2, h⟩ := obd_inv h
      refine wcallv (S := Unit) (va_runV (As := [.int x7.1]) (rest := []) ⟨hx, hb, hml, hown, hts⟩ (c_X10_runs l dC dI cI cT cS H.size ad  x7.1 x7.2.2.2 _ hc2) (cwV 1 hts (gWV (List.mem_of_getElem? (i := 1) rfl) (List.mem_of_getElem? (i := 2) rfl) (List.mem_of_getElem? (i := 3) rfl) (List.mem_of_getElem? (i := 4) rfl) ic_X10_betterBy_c_X10_runs gd_c_X10_runs) rfl rfl rfl (by decide +kernel) ⟨(Nat.le_of_ble_eq_true rfl), (Nat.le_of_ble_eq_true rfl)⟩) (wpV (q := (RX10, TX10, 46)) hP hK hD oX10 rfl) rfl rfl hl.1 rfl (lv_room (Nat.le_of_ble_eq_true rfl)) dX10_betterBy_17 ⟨(Nat.le_of_ble_eq_true rfl), (Nat.le_of_ble_eq_true rfl)⟩) hP hD hS hA (fun _ H locs hr3 hP hD hS => ?_)
      replace hP : va_P (dC, dI) vwCl (Wd 24 (cfR ad cI) σ2) H := hP
      replace hD : va_D A (Wd 24 (cfR ad cI) σ2) := hD
      refine lv_aload_n hx hb dX10_betterBy_20 rfl (lv_at hl 3 rfl) ?_
      refine gf_X10_18 hx hb hts iw_X10_betterBy_X10 hown hK hP (hts (.fieldLink RX10 307 "TraceTreesModel" "compiled" "I") (List.mem_of_getElem? (i := 5) rfl)) dX10_betterBy_21 ?_
      refine lv_iload_n hx hb dX10_betterBy_24 rfl (lv_at hl 1 rfl) ?_
      refine lv_icmp_le (tgt := 33) hx hb dX10_betterBy_25 (by decide) (fun c4 => ?_) (fun c4 => ?_)
      · replace h := ifp (c4) h
        refine lv_iload_n hx hb dX10_betterBy_33 rfl (lv_at hl 2 rfl) ?_
        exact J34 x7.2.2.1 σ2 H locs ls h hP hD hS (lv_sub (l' := [(4, .int x7.1), (3, .int x7.2.1), (0, .ref (ad 0)), (1, .int a1)]) hl [0, 1, 3, 4] rfl)
      · replace h := ifn (c4) h
        refine lv_iload hx hb dX10_betterBy_28 (lv_at hl 0 rfl) ?_
        refine lv_goto (tgt := 34) hx hb dX10_betterBy_30 (by decide) ?_
        exact J34 x7.1 σ2 H locs ls h hP hD hS (lv_sub (l' := [(4, .int x7.1), (3, .int x7.2.1), (0, .ref (ad 0)), (1, .int a1)]) hl [0, 1, 3, 4] rfl)
  · intro H locs ls hP hD hS hl
    refine lv_iload_n hx hb dX10_betterBy_50 rfl (lv_at hl 2 rfl) ?_
    refine lv_if_ne (tgt := 58) hx hb dX10_betterBy_51 (by decide) (fun c7 => ?_) (fun c7 => ?_)
    · replace h := ifn (c7) h
      refine lv_iload_n hx hb dX10_betterBy_58 rfl (lv_at hl 0 rfl) ?_
      exact J59 y7.2.1 y7.2.2.2 H locs ls h hP hD hS (lv_sub (l' := []) hl [] rfl)
    · replace h := ifp (c7) h
      refine lv_iload_n hx hb dX10_betterBy_54 rfl (lv_at hl 1 rfl) ?_
      refine lv_goto (tgt := 59) hx hb dX10_betterBy_55 (by decide) ?_
      exact J59 y7.2.2.1 y7.2.2.2 H locs ls h hP hD hS (lv_sub (l' := []) hl [] rfl)
def zb_X10_better_17 (w0_17 : Int32) (σb17 : Sg) : Option (Int32 × Sg) := some (w0_17, σb17)
def zf_X10_better (a1 : Int32) (σ : Sg) : Option (Int32 × Sg) := (if (zf_X10_isTwo a1) = true then bnd (zf_X10_betterBy a1 σ) (fun r3 σ3 => (zb_X10_better_17 r3 σ3)) else (zb_X10_better_17 (-2 : Int32) σ))
def oc_X10_better : List Cond := [.methodLink RX10 175 yX10_isTwo, .static yX10_isTwo, .initialized RX10, .methodLink RX10 400 yX10_betterBy, .instanceMethod yX10_betterBy, .selects RX10 yX10_betterBy yX10_betterBy]
def vc_X10_better : List Cond := .code yX10_better cX10_better 2 (some .int) :: (oc_X10_better ++ (vc_X10_isTwo ++ (vc_X10_betterBy)))
theorem ic_X10_better_c_X10_isTwo : ∀ w ∈ vc_X10_isTwo, w ∈ vc_X10_better := fun _ h => List.mem_cons_of_mem _ (List.mem_append_right _ (List.mem_append_left _ h))
theorem ic_X10_better_c_X10_betterBy : ∀ w ∈ vc_X10_betterBy, w ∈ vc_X10_better := fun _ h => List.mem_cons_of_mem _ (List.mem_append_right _ (List.mem_append_right _ (h)))
theorem gd_c_X10_better : (vc_X10_better).all goodWord = true := gall_cons rfl (gall_app (by decide +kernel) (gall_app gd_c_X10_isTwo gd_c_X10_betterBy))
set_option maxHeartbeats 4000000 in
set_option maxRecDepth 100000 in
theorem c_X10_better (l : Launch) (dC : Nat → ClassId) (dI : Nat → Nat → Nat) (cI cT cS : ClassId) (sz : Nat) (ad : Nat → Nat) (a1 : Int32) (σ : Sg) (o : Int32 × Sg) (h : zf_X10_better a1 σ = some o) : gCI (S := Unit) l yX10_better vc_X10_better { frames := 10, cells := 0, slots := 0, locals := 250 } (dC, dI) (gTY cI cT cS) sz [.ref (ad 0), .int a1] (Wd 24 (cfR ad cI) σ) (fun (r : Int32) (_ : Unit) => r = o.1) (fun (_ : Unit) => (Wd 24 (cfR ad cI) o.2)) 0 0 := by
  refine Met.ofW (cc := cX10_better) (maxL := 2) (ret := (some .int)) (by decide) rfl ?_
  intro p e s m args below meth c s₁ B hml hv
  obtain ⟨rfl, hsz, hP, hK, hD0⟩ := hv
  have hx := B.exec
  have hb := B.bytes
  have hr := B.returns
  have hts := atoms_spec (ws := vc_X10_better) B.pre
  have hown : s.vm.findClass RX10 = some m.cls := findClass_of_methodNamed B.named
  have hlocks := B.notSynchronized
  subst hsz
  have hD := hD0.self (sz := s.heap.size)
  generalize hAe : va_A (Wd 24 (cfR ad cI) σ) s.heap.size = A at hD ⊢
  have hA : ∀ q : Nat, s.heap.size ≤ q → A q := fun q h => by rw [← hAe]; exact Or.inr h
  clear hAe hD0
  refine gstart (fun H locs hHe hLe => ?_)
  have hS : va_S A s.heap H locs := by rw [← hHe, ← hLe]; exact va_S.rf
  replace hP : va_P (dC, dI) vwCl (Wd 24 (cfR ad cI) σ) H := by rw [← hHe]; exact hP
  clear hHe hLe
  have hl := lv_entry ([.ref (ad 0), .int a1]) (n := 2) (Nat.le_of_ble_eq_true rfl)
  rw [lg_entry_eq]
  generalize (lg_sl ([.ref (ad 0), .int a1]) ++ List.replicate (2 - (lg_sl ([.ref (ad 0), .int a1])).length) Slot.unset).toArray = ls at hl ⊢
  replace hl : lv_has ls 2 [(0, .ref (ad 0)), (1, .int a1)] := hl
  unfold zf_X10_better at h
  have J17 : ∀ (w0_17 : Int32) (σb17 : Sg) (H : Heap) (locs : List Loc) (ls : Array Slot), zb_X10_better_17 w0_17 σb17 = some o → va_P (dC, dI) vwCl (Wd 24 (cfR ad cI) σb17) H → va_D A (Wd 24 (cfR ad cI) σb17) → va_S A s.heap H locs → lv_has ls 2 [] → W p l e (headSpec vc_X10_better { frames := 10, cells := 0, slots := 0, locals := 250 }).room s m (List.toArray (α := Value) [.ref (ad 0), .int a1]) below meth c H locs 0 0 (MQ below (va_Qi (fun (r : Int32) (_ : Unit) => r = o.1) (gB (dC, dI) A (fun (_ : Unit) => (Wd 24 (cfR ad cI) o.2))) A) (List.toArray (α := Value) [.ref (ad 0), .int a1]) s 0 0 A) (F0 m 17 ls [.int w0_17]) := by
    intro w0_17 σb17 H locs ls h hP hD hS hl
    unfold zb_X10_better_17 at h
    have h9 := Option.some.inj h
    exact wreti hx hb hr hlocks hP hD hS (by show _ = _; rw [← h9]; first | done | rfl) (by rw [← h9]) dX10_better_17
  refine lv_iload_n hx hb dX10_better_0 rfl (lv_at hl 1 rfl) ?_
  refine wcalli (S := Unit) (va_runS (As := [.int a1]) (rest := []) ⟨hx, hb, hml, hown, hts⟩ (c_X10_isTwo l dC dI cI cT cS H.size (Wd 24 (cfR ad cI) σ)  a1 _ rfl) (va_cwS 1 hts (gWS (List.mem_of_getElem? (i := 1) rfl) (List.mem_of_getElem? (i := 2) rfl) (List.mem_of_getElem? (i := 3) rfl) ic_X10_better_c_X10_isTwo gd_c_X10_isTwo) rfl rfl rfl (by decide +kernel) ⟨(Nat.le_of_ble_eq_true rfl), (Nat.le_of_ble_eq_true rfl)⟩) (gpS hP hK hD) rfl rfl hl.1 rfl (lv_room (Nat.le_of_ble_eq_true rfl)) dX10_better_1 ⟨(Nat.le_of_ble_eq_true rfl), (Nat.le_of_ble_eq_true rfl)⟩) hP hD hS hA (fun rr1 _ H locs hr1 hP hD hS => ?_)
  refine lv_nm (y := b2i (zf_X10_isTwo a1)) hr1 ?_
  refine lv_if_eq (tgt := 15) hx hb dX10_better_4 (by decide) (fun c2 => ?_) (fun c2 => ?_)
  · replace h := ifn (b2i_0 c2) h
    refine lv_bipush (v := (-2)) hx hb dX10_better_15 (by decide) ?_
    exact J17 (-2 : Int32) σ H locs ls h hP hD hS (lv_sub (l' := []) hl [] rfl)
  · replace h := ifp (b2i_1 c2) h
    refine lv_aload_n hx hb dX10_better_7 rfl (lv_at hl 0 rfl) ?_
    refine lv_iload_n hx hb dX10_better_8 rfl (lv_at hl 1 rfl) ?_
    obtain ⟨r3, σ3, hc3, h⟩ := bnd_inv h
    refine wcalli (S := Unit) (va_runV (As := [.int a1]) (rest := []) ⟨hx, hb, hml, hown, hts⟩ (c_X10_betterBy l dC dI cI cT cS H.size ad  a1 σ _ hc3) (cwV 1 hts (gWV (List.mem_of_getElem? (i := 4) rfl) (List.mem_of_getElem? (i := 5) rfl) (List.mem_of_getElem? (i := 6) rfl) (List.mem_of_getElem? (i := 3) rfl) ic_X10_better_c_X10_betterBy gd_c_X10_betterBy) rfl rfl rfl (by decide +kernel) ⟨(Nat.le_of_ble_eq_true rfl), (Nat.le_of_ble_eq_true rfl)⟩) (wpV (q := (RX10, TX10, 46)) hP hK hD oX10 rfl) rfl rfl hl.1 rfl (lv_room (Nat.le_of_ble_eq_true rfl)) dX10_better_9 ⟨(Nat.le_of_ble_eq_true rfl), (Nat.le_of_ble_eq_true rfl)⟩) hP hD hS hA (fun rr4 _ H locs hr4 hP hD hS => ?_)
    replace hP : va_P (dC, dI) vwCl (Wd 24 (cfR ad cI) σ3) H := hP
    replace hD : va_D A (Wd 24 (cfR ad cI) σ3) := hD
    refine lv_nm (y := r3) hr4 ?_
    refine lv_goto (tgt := 17) hx hb dX10_better_12 (by decide) ?_
    exact J17 r3 σ3 H locs ls h hP hD hS (lv_sub (l' := []) hl [] rfl)
def zb_X10_write_23 (σb23 : Sg) : Option (Int32 × Sg) := some ((-2 : Int32), σb23)
def zl_X10_write_60 (a1 : Int32) (a2 : Int32) (e11 : Int32) (x60 : Int32 × Sg) : Option (Bool × (Int32 × Sg)) := (if e11 ≤ x60.1 then some (false, (x60.1, x60.2)) else bd a2 4 (bd (((16 : Int32) * a1) + x60.1) 144 (bd (((60 : Int32) * a2) + x60.1) 240 (some (true, ((x60.1 + (1 : Int32)), su x60.2 3 (((60 : Int32) * a2) + x60.1).toNatClampNeg (zf_X10_cut (x60.2 1 a2.toNatClampNeg) (x60.2 17 (((16 : Int32) * a1) + x60.1).toNatClampNeg))))))))
def zf_X10_write (a1 : Int32) (a2 : Int32) (σ : Sg) : Option (Int32 × Sg) := obd (zf_X10_runs (σ 0 10) σ) (fun σ1 => (if (zf_X10_isTrace a1 σ1) = true then (if (zf_X10_isSheet a2) = true then bd a2 4 ((if 0 ≤ (σ1 1 a2.toNatClampNeg) then bd a1 8 (letb (zf_X10_lesser (σ1 2 a2.toNatClampNeg) (σ1 15 a1.toNatClampNeg)) (fun e11 => obd (lp (X := Int32 × Sg) (zl_X10_write_60 a1 a2 e11) 1000 ((0 : Int32), σ1)) (fun y60 => some (e11, y60.2)))) else letb (zf_X10_finds (1 : Int32) σ1) (fun q17 => some (q17.1, q17.2)))) else (zb_X10_write_23 σ1)) else (zb_X10_write_23 σ1)))
def oc_X10_write : List Cond := [.fieldLink RX10 83 "TraceTreesModel" "hot" "I", .methodLink RX10 344 yX10_runs, .instanceMethod yX10_runs, .selects RX10 yX10_runs yX10_runs, .initialized RX10, .methodLink RX10 356 yX10_isTrace, .instanceMethod yX10_isTrace, .selects RX10 yX10_isTrace yX10_isTrace, .methodLink RX10 95 yX10_isSheet, .static yX10_isSheet, .fieldLink RX10 7 "TraceTreesModel" "forms" "[I", .fieldLink RX10 13 "TraceTreesModel" "sizes" "[I", .fieldLink RX10 52 "TraceTreesModel" "length" "[I", .methodLink RX10 403 yX10_lesser, .static yX10_lesser, .fieldLink RX10 16 "TraceTreesModel" "items" "[I", .fieldLink RX10 58 "TraceTreesModel" "at" "[I", .methodLink RX10 109 yX10_cut, .static yX10_cut, .methodLink RX10 101 yX10_finds, .instanceMethod yX10_finds, .selects RX10 yX10_finds yX10_finds]
def vc_X10_write : List Cond := .code yX10_write cX10_write 5 (some .int) :: (oc_X10_write ++ (wsX100 ++ (vc_X10_runs ++ (vc_X10_isTrace ++ (vc_X10_isSheet ++ (vc_X10_lesser ++ (vc_X10_cut ++ (vc_X10_finds))))))))
theorem iw_X10_write_X10 : ∀ w ∈ wsX100, w ∈ vc_X10_write := fun _ h => List.mem_cons_of_mem _ (List.mem_append_right _ (List.mem_append_left _ h))
theorem ic_X10_write_c_X10_runs : ∀ w ∈ vc_X10_runs, w ∈ vc_X10_write := fun _ h => List.mem_cons_of_mem _ (List.mem_append_right _ (List.mem_append_right _ (List.mem_append_left _ h)))
theorem ic_X10_write_c_X10_isTrace : ∀ w ∈ vc_X10_isTrace, w ∈ vc_X10_write := fun _ h => List.mem_cons_of_mem _ (List.mem_append_right _ (List.mem_append_right _ (List.mem_append_right _ (List.mem_append_left _ h))))
theorem ic_X10_write_c_X10_isSheet : ∀ w ∈ vc_X10_isSheet, w ∈ vc_X10_write := fun _ h => List.mem_cons_of_mem _ (List.mem_append_right _ (List.mem_append_right _ (List.mem_append_right _ (List.mem_append_right _ (List.mem_append_left _ h)))))
theorem ic_X10_write_c_X10_lesser : ∀ w ∈ vc_X10_lesser, w ∈ vc_X10_write := fun _ h => List.mem_cons_of_mem _ (List.mem_append_right _ (List.mem_append_right _ (List.mem_append_right _ (List.mem_append_right _ (List.mem_append_right _ (List.mem_append_left _ h))))))
theorem ic_X10_write_c_X10_cut : ∀ w ∈ vc_X10_cut, w ∈ vc_X10_write := fun _ h => List.mem_cons_of_mem _ (List.mem_append_right _ (List.mem_append_right _ (List.mem_append_right _ (List.mem_append_right _ (List.mem_append_right _ (List.mem_append_right _ (List.mem_append_left _ h)))))))
theorem ic_X10_write_c_X10_finds : ∀ w ∈ vc_X10_finds, w ∈ vc_X10_write := fun _ h => List.mem_cons_of_mem _ (List.mem_append_right _ (List.mem_append_right _ (List.mem_append_right _ (List.mem_append_right _ (List.mem_append_right _ (List.mem_append_right _ (List.mem_append_right _ (h))))))))
theorem gd_c_X10_write : (vc_X10_write).all goodWord = true := gall_cons rfl (gall_app (by decide +kernel) (gall_app gw_X10 (gall_app gd_c_X10_runs (gall_app gd_c_X10_isTrace (gall_app gd_c_X10_isSheet (gall_app gd_c_X10_lesser (gall_app gd_c_X10_cut gd_c_X10_finds)))))))
set_option maxHeartbeats 4000000 in
set_option maxRecDepth 100000 in
theorem c_X10_write (l : Launch) (dC : Nat → ClassId) (dI : Nat → Nat → Nat) (cI cT cS : ClassId) (sz : Nat) (ad : Nat → Nat) (a1 : Int32) (a2 : Int32) (σ : Sg) (o : Int32 × Sg) (h : zf_X10_write a1 a2 σ = some o) : gCI (S := Unit) l yX10_write vc_X10_write { frames := 9, cells := 0, slots := 0, locals := 226 } (dC, dI) (gTY cI cT cS) sz [.ref (ad 0), .int a1, .int a2] (Wd 24 (cfR ad cI) σ) (fun (r : Int32) (_ : Unit) => r = o.1) (fun (_ : Unit) => (Wd 24 (cfR ad cI) o.2)) 0 0 := by
  refine Met.ofW (cc := cX10_write) (maxL := 5) (ret := (some .int)) (by decide) rfl ?_
  intro p e s m args below meth c s₁ B hml hv
  obtain ⟨rfl, hsz, hP, hK, hD0⟩ := hv
  have hx := B.exec
  have hb := B.bytes
  have hr := B.returns
  have hts := atoms_spec (ws := vc_X10_write) B.pre
  have hown : s.vm.findClass RX10 = some m.cls := findClass_of_methodNamed B.named
  have hlocks := B.notSynchronized
  subst hsz
  have hD := hD0.self (sz := s.heap.size)
  generalize hAe : va_A (Wd 24 (cfR ad cI) σ) s.heap.size = A at hD ⊢
  have hA : ∀ q : Nat, s.heap.size ≤ q → A q := fun q h => by rw [← hAe]; exact Or.inr h
  clear hAe hD0
  refine gstart (fun H locs hHe hLe => ?_)
  have hS : va_S A s.heap H locs := by rw [← hHe, ← hLe]; exact va_S.rf
  replace hP : va_P (dC, dI) vwCl (Wd 24 (cfR ad cI) σ) H := by rw [← hHe]; exact hP
  clear hHe hLe
  have hl := lv_entry ([.ref (ad 0), .int a1, .int a2]) (n := 5) (Nat.le_of_ble_eq_true rfl)
  rw [lg_entry_eq]
  generalize (lg_sl ([.ref (ad 0), .int a1, .int a2]) ++ List.replicate (5 - (lg_sl ([.ref (ad 0), .int a1, .int a2])).length) Slot.unset).toArray = ls at hl ⊢
  replace hl : lv_has ls 5 [(0, .ref (ad 0)), (1, .int a1), (2, .int a2)] := hl
  unfold zf_X10_write at h
  have J23 : ∀ (σb23 : Sg) (H : Heap) (locs : List Loc) (ls : Array Slot), zb_X10_write_23 σb23 = some o → va_P (dC, dI) vwCl (Wd 24 (cfR ad cI) σb23) H → va_D A (Wd 24 (cfR ad cI) σb23) → va_S A s.heap H locs → lv_has ls 5 [] → W p l e (headSpec vc_X10_write { frames := 9, cells := 0, slots := 0, locals := 226 }).room s m (List.toArray (α := Value) [.ref (ad 0), .int a1, .int a2]) below meth c H locs 0 0 (MQ below (va_Qi (fun (r : Int32) (_ : Unit) => r = o.1) (gB (dC, dI) A (fun (_ : Unit) => (Wd 24 (cfR ad cI) o.2))) A) (List.toArray (α := Value) [.ref (ad 0), .int a1, .int a2]) s 0 0 A) (F0 m 23 ls []) := by
    intro σb23 H locs ls h hP hD hS hl
    unfold zb_X10_write_23 at h
    refine lv_bipush (v := (-2)) hx hb dX10_write_23 (by decide) ?_
    have h9 := Option.some.inj h
    exact wreti hx hb hr hlocks hP hD hS (by show _ = _; rw [← h9]; first | done | rfl) (by rw [← h9]) dX10_write_25
  refine lv_aload_n hx hb dX10_write_0 rfl (lv_at hl 0 rfl) ?_
  refine lv_aload_n hx hb dX10_write_1 rfl (lv_at hl 0 rfl) ?_
  refine gf_X10_10 hx hb hts iw_X10_write_X10 hown hK hP (hts (.fieldLink RX10 83 "TraceTreesModel" "hot" "I") (List.mem_of_getElem? (i := 1) rfl)) dX10_write_2 ?_
  obtain ⟨σ1, hc1, h⟩ := obd_inv h
  refine wcallv (S := Unit) (va_runV (As := [.int (σ 0 10)]) (rest := []) ⟨hx, hb, hml, hown, hts⟩ (c_X10_runs l dC dI cI cT cS H.size ad  (σ 0 10) σ _ hc1) (cwV 1 hts (gWV (List.mem_of_getElem? (i := 2) rfl) (List.mem_of_getElem? (i := 3) rfl) (List.mem_of_getElem? (i := 4) rfl) (List.mem_of_getElem? (i := 5) rfl) ic_X10_write_c_X10_runs gd_c_X10_runs) rfl rfl rfl (by decide +kernel) ⟨(Nat.le_of_ble_eq_true rfl), (Nat.le_of_ble_eq_true rfl)⟩) (wpV (q := (RX10, TX10, 46)) hP hK hD oX10 rfl) rfl rfl hl.1 rfl (lv_room (Nat.le_of_ble_eq_true rfl)) dX10_write_5 ⟨(Nat.le_of_ble_eq_true rfl), (Nat.le_of_ble_eq_true rfl)⟩) hP hD hS hA (fun _ H locs hr2 hP hD hS => ?_)
  replace hP : va_P (dC, dI) vwCl (Wd 24 (cfR ad cI) σ1) H := hP
  replace hD : va_D A (Wd 24 (cfR ad cI) σ1) := hD
  refine lv_aload_n hx hb dX10_write_8 rfl (lv_at hl 0 rfl) ?_
  refine lv_iload_n hx hb dX10_write_9 rfl (lv_at hl 1 rfl) ?_
  refine wcalli (S := Unit) (va_runV (As := [.int a1]) (rest := []) ⟨hx, hb, hml, hown, hts⟩ (c_X10_isTrace l dC dI cI cT cS H.size ad  a1 σ1 _ rfl) (cwV 1 hts (gWV (List.mem_of_getElem? (i := 6) rfl) (List.mem_of_getElem? (i := 7) rfl) (List.mem_of_getElem? (i := 8) rfl) (List.mem_of_getElem? (i := 5) rfl) ic_X10_write_c_X10_isTrace gd_c_X10_isTrace) rfl rfl rfl (by decide +kernel) ⟨(Nat.le_of_ble_eq_true rfl), (Nat.le_of_ble_eq_true rfl)⟩) (wpV (q := (RX10, TX10, 46)) hP hK hD oX10 rfl) rfl rfl hl.1 rfl (lv_room (Nat.le_of_ble_eq_true rfl)) dX10_write_10 ⟨(Nat.le_of_ble_eq_true rfl), (Nat.le_of_ble_eq_true rfl)⟩) hP hD hS hA (fun rr3 _ H locs hr3 hP hD hS => ?_)
  refine lv_nm (y := b2i (zf_X10_isTrace a1 σ1)) hr3 ?_
  refine lv_if_eq (tgt := 23) hx hb dX10_write_13 (by decide) (fun c4 => ?_) (fun c4 => ?_)
  · replace h := ifn (b2i_0 c4) h
    exact J23 σ1 H locs ls h hP hD hS (lv_sub (l' := []) hl [] rfl)
  · replace h := ifp (b2i_1 c4) h
    refine lv_iload_n hx hb dX10_write_16 rfl (lv_at hl 2 rfl) ?_
    refine wcalli (S := Unit) (va_runS (As := [.int a2]) (rest := []) ⟨hx, hb, hml, hown, hts⟩ (c_X10_isSheet l dC dI cI cT cS H.size (Wd 24 (cfR ad cI) σ1)  a2 _ rfl) (va_cwS 1 hts (gWS (List.mem_of_getElem? (i := 9) rfl) (List.mem_of_getElem? (i := 10) rfl) (List.mem_of_getElem? (i := 5) rfl) ic_X10_write_c_X10_isSheet gd_c_X10_isSheet) rfl rfl rfl (by decide +kernel) ⟨(Nat.le_of_ble_eq_true rfl), (Nat.le_of_ble_eq_true rfl)⟩) (gpS hP hK hD) rfl rfl hl.1 rfl (lv_room (Nat.le_of_ble_eq_true rfl)) dX10_write_17 ⟨(Nat.le_of_ble_eq_true rfl), (Nat.le_of_ble_eq_true rfl)⟩) hP hD hS hA (fun rr5 _ H locs hr5 hP hD hS => ?_)
    refine lv_nm (y := b2i (zf_X10_isSheet a2)) hr5 ?_
    refine lv_if_ne (tgt := 26) hx hb dX10_write_20 (by decide) (fun c6 => ?_) (fun c6 => ?_)
    · replace h := ifp (b2i_1 c6) h
      refine lv_aload_n hx hb dX10_write_26 rfl (lv_at hl 0 rfl) ?_
      refine gf_X10_0 hx hb hts iw_X10_write_X10 hown hK hP (hts (.fieldLink RX10 7 "TraceTreesModel" "forms" "[I") (List.mem_of_getElem? (i := 11) rfl)) dX10_write_27 ?_
      refine lv_iload_n hx hb dX10_write_30 rfl (lv_at hl 2 rfl) ?_
      obtain ⟨hi7, h⟩ := bd_inv h
      refine wald hx hb hK hP aR1 hi7 dX10_write_31 ?_
      refine lv_if_ge (tgt := 41) hx hb dX10_write_32 (by decide) (fun c8 => ?_) (fun c8 => ?_)
      · replace h := ifp (c8) h
        refine lv_aload_n hx hb dX10_write_41 rfl (lv_at hl 0 rfl) ?_
        refine gf_X10_1 hx hb hts iw_X10_write_X10 hown hK hP (hts (.fieldLink RX10 13 "TraceTreesModel" "sizes" "[I") (List.mem_of_getElem? (i := 12) rfl)) dX10_write_42 ?_
        refine lv_iload_n hx hb dX10_write_45 rfl (lv_at hl 2 rfl) ?_
        refine wald hx hb hK hP aR2 hi7 dX10_write_46 ?_
        refine lv_aload_n hx hb dX10_write_47 rfl (lv_at hl 0 rfl) ?_
        refine gf_X10_29 hx hb hts iw_X10_write_X10 hown hK hP (hts (.fieldLink RX10 52 "TraceTreesModel" "length" "[I") (List.mem_of_getElem? (i := 13) rfl)) dX10_write_48 ?_
        refine lv_iload_n hx hb dX10_write_51 rfl (lv_at hl 1 rfl) ?_
        obtain ⟨hi9, h⟩ := bd_inv h
        refine wald hx hb hK hP aR15 hi9 dX10_write_52 ?_
        refine wcalli (S := Unit) (va_runS (As := [.int (σ1 2 a2.toNatClampNeg), .int (σ1 15 a1.toNatClampNeg)]) (rest := []) ⟨hx, hb, hml, hown, hts⟩ (c_X10_lesser l dC dI cI cT cS H.size (Wd 24 (cfR ad cI) σ1)  (σ1 2 a2.toNatClampNeg) (σ1 15 a1.toNatClampNeg) _ rfl) (va_cwS 2 hts (gWS (List.mem_of_getElem? (i := 14) rfl) (List.mem_of_getElem? (i := 15) rfl) (List.mem_of_getElem? (i := 5) rfl) ic_X10_write_c_X10_lesser gd_c_X10_lesser) rfl rfl rfl (by decide +kernel) ⟨(Nat.le_of_ble_eq_true rfl), (Nat.le_of_ble_eq_true rfl)⟩) (gpS hP hK hD) rfl rfl hl.1 rfl (lv_room (Nat.le_of_ble_eq_true rfl)) dX10_write_53 ⟨(Nat.le_of_ble_eq_true rfl), (Nat.le_of_ble_eq_true rfl)⟩) hP hD hS hA (fun rr10 _ H locs hr10 hP hD hS => ?_)
        refine lv_nm (y := (zf_X10_lesser (σ1 2 a2.toNatClampNeg) (σ1 15 a1.toNatClampNeg))) hr10 ?_
        obtain ⟨e11, he11, h⟩ := letb_inv h
        refine lv_nm he11 ?_
        refine lv_istore_n (lv' := [(3, .int e11), (0, .ref (ad 0)), (1, .int a1), (2, .int a2)]) hx hb dX10_write_56 rfl hl (by decide) rfl (fun ls hl => ?_)
        refine lv_iconst (v := 0) hx hb dX10_write_57 (by decide) ?_
        refine lv_istore (lv' := [(4, .int (0 : Int32)), (3, .int e11), (0, .ref (ad 0)), (1, .int a1), (2, .int a2)]) hx hb dX10_write_58 hl (by decide) rfl (fun ls hl => ?_)
        obtain ⟨y60, hlp60, h⟩ := obd_inv h
        refine lp_W (fun x60 : Int32 × Sg => ∀ (H : Heap) (locs : List Loc) (ls : Array Slot), va_P (dC, dI) vwCl (Wd 24 (cfR ad cI) x60.2) H → va_D A (Wd 24 (cfR ad cI) x60.2) → va_S A s.heap H locs → lv_has ls 5 [(4, .int x60.1), (3, .int e11), (0, .ref (ad 0)), (1, .int a1), (2, .int a2)] → W p l e (headSpec vc_X10_write { frames := 9, cells := 0, slots := 0, locals := 226 }).room s m (List.toArray (α := Value) [.ref (ad 0), .int a1, .int a2]) below meth c H locs 0 0 (MQ below (va_Qi (fun (r : Int32) (_ : Unit) => r = o.1) (gB (dC, dI) A (fun (_ : Unit) => (Wd 24 (cfR ad cI) o.2))) A) (List.toArray (α := Value) [.ref (ad 0), .int a1, .int a2]) s 0 0 A) (F0 m 60 ls [])) (fun y60 : Int32 × Sg => ∀ (H : Heap) (locs : List Loc) (ls : Array Slot), va_P (dC, dI) vwCl (Wd 24 (cfR ad cI) y60.2) H → va_D A (Wd 24 (cfR ad cI) y60.2) → va_S A s.heap H locs → lv_has ls 5 [(3, .int e11)] → W p l e (headSpec vc_X10_write { frames := 9, cells := 0, slots := 0, locals := 226 }).room s m (List.toArray (α := Value) [.ref (ad 0), .int a1, .int a2]) below meth c H locs 0 0 (MQ below (va_Qi (fun (r : Int32) (_ : Unit) => r = o.1) (gB (dC, dI) A (fun (_ : Unit) => (Wd 24 (cfR ad cI) o.2))) A) (List.toArray (α := Value) [.ref (ad 0), .int a1, .int a2]) s 0 0 A) (F0 m 105 ls [])) ?_ 1000 ((0 : Int32), σ1) y60 hlp60 ?_ H locs ls hP hD hS (lv_sub (l' := [(4, .int (0 : Int32)), (3, .int e11), (0, .ref (ad 0)), (1, .int a1), (2, .int a2)]) hl [0, 1, 2, 3, 4] rfl)
        · intro x60 yy60 h ht60 hf60 H locs ls hP hD hS hl
          unfold zl_X10_write_60 at h
          refine lv_iload hx hb dX10_write_60 (lv_at hl 0 rfl) ?_
          refine lv_iload_n hx hb dX10_write_62 rfl (lv_at hl 1 rfl) ?_
          refine lv_icmp_ge (tgt := 105) hx hb dX10_write_63 (by decide) (fun c12 => ?_) (fun c12 => ?_)
          · replace h := ifp (c12) h
            obtain rfl := Option.some.inj h
            exact hf60 rfl H locs ls hP hD hS (lv_sub (l' := [(3, .int e11)]) hl [1] rfl)
          · replace h := ifn (c12) h
            refine lv_aload_n hx hb dX10_write_66 rfl (lv_at hl 2 rfl) ?_
            refine gf_X10_2 hx hb hts iw_X10_write_X10 hown hK hP (hts (.fieldLink RX10 16 "TraceTreesModel" "items" "[I") (List.mem_of_getElem? (i := 16) rfl)) dX10_write_67 ?_
            refine lv_bipush (v := 60) hx hb dX10_write_70 (by decide) ?_
            refine lv_iload_n hx hb dX10_write_72 rfl (lv_at hl 4 rfl) ?_
            refine lv_imul hx hb dX10_write_73 ?_
            refine lv_iload hx hb dX10_write_74 (lv_at hl 0 rfl) ?_
            refine lv_iadd hx hb dX10_write_76 ?_
            refine lv_aload_n hx hb dX10_write_77 rfl (lv_at hl 2 rfl) ?_
            refine gf_X10_0 hx hb hts iw_X10_write_X10 hown hK hP (hts (.fieldLink RX10 7 "TraceTreesModel" "forms" "[I") (List.mem_of_getElem? (i := 11) rfl)) dX10_write_78 ?_
            refine lv_iload_n hx hb dX10_write_81 rfl (lv_at hl 4 rfl) ?_
            obtain ⟨hi13, h⟩ := bd_inv h
            refine wald hx hb hK hP aR1 hi13 dX10_write_82 ?_
            refine lv_aload_n hx hb dX10_write_83 rfl (lv_at hl 2 rfl) ?_
            refine gf_X10_31 hx hb hts iw_X10_write_X10 hown hK hP (hts (.fieldLink RX10 58 "TraceTreesModel" "at" "[I") (List.mem_of_getElem? (i := 17) rfl)) dX10_write_84 ?_
            refine lv_bipush (v := 16) hx hb dX10_write_87 (by decide) ?_
            refine lv_iload_n hx hb dX10_write_89 rfl (lv_at hl 3 rfl) ?_
            refine lv_imul hx hb dX10_write_90 ?_
            refine lv_iload hx hb dX10_write_91 (lv_at hl 0 rfl) ?_
            refine lv_iadd hx hb dX10_write_93 ?_
            obtain ⟨hi14, h⟩ := bd_inv h
            refine wald hx hb hK hP aR17 hi14 dX10_write_94 ?_
            refine wcalli (S := Unit) (va_runS (As := [.int (x60.2 1 a2.toNatClampNeg), .int (x60.2 17 (((16 : Int32) * a1) + x60.1).toNatClampNeg)]) (rest := [.int (((60 : Int32) * a2) + x60.1), .ref (ad 3)]) ⟨hx, hb, hml, hown, hts⟩ (c_X10_cut l dC dI cI cT cS H.size (Wd 24 (cfR ad cI) x60.2)  (x60.2 1 a2.toNatClampNeg) (x60.2 17 (((16 : Int32) * a1) + x60.1).toNatClampNeg) _ rfl) (va_cwS 2 hts (gWS (List.mem_of_getElem? (i := 18) rfl) (List.mem_of_getElem? (i := 19) rfl) (List.mem_of_getElem? (i := 5) rfl) ic_X10_write_c_X10_cut gd_c_X10_cut) rfl rfl rfl (by decide +kernel) ⟨(Nat.le_of_ble_eq_true rfl), (Nat.le_of_ble_eq_true rfl)⟩) (gpS hP hK hD) rfl rfl hl.1 rfl (lv_room (Nat.le_of_ble_eq_true rfl)) dX10_write_95 ⟨(Nat.le_of_ble_eq_true rfl), (Nat.le_of_ble_eq_true rfl)⟩) hP hD hS hA (fun rr15 _ H locs hr15 hP hD hS => ?_)
            refine lv_nm (y := (zf_X10_cut (x60.2 1 a2.toNatClampNeg) (x60.2 17 (((16 : Int32) * a1) + x60.1).toNatClampNeg))) hr15 ?_
            obtain ⟨hi16, h⟩ := bd_inv h
            refine wast hx hb hK hP hD hS aR3 hi16 dX10_write_98 (fun H locs hP hD hS => ?_)
            refine lv_iinc (v := (x60.1 + (1 : Int32))) (lv' := [(4, .int (x60.1 + (1 : Int32))), (3, .int e11), (0, .ref (ad 0)), (1, .int a1), (2, .int a2)]) hx hb dX10_write_99 hl (k := 0) rfl rfl (by decide) rfl (fun ls hl => ?_)
            refine lv_goto (tgt := 60) hx hb dX10_write_102 (by decide) ?_
            obtain rfl := Option.some.inj h
            exact ht60 rfl H locs ls hP hD hS (lv_sub (l' := [(4, .int (x60.1 + (1 : Int32))), (3, .int e11), (0, .ref (ad 0)), (1, .int a1), (2, .int a2)]) hl [0, 1, 2, 3, 4] rfl)
        · intro H locs ls hP hD hS hl
          refine lv_iload_n hx hb dX10_write_105 rfl (lv_at hl 0 rfl) ?_
          have h9 := Option.some.inj h
          exact wreti hx hb hr hlocks hP hD hS (by show _ = _; rw [← h9]; first | done | rfl) (by rw [← h9]) dX10_write_106
      · replace h := ifn (c8) h
        refine lv_aload_n hx hb dX10_write_35 rfl (lv_at hl 0 rfl) ?_
        refine lv_iconst (v := 1) hx hb dX10_write_36 (by decide) ?_
        obtain ⟨q17, hc17, h⟩ := letb_inv h
        refine wcalli (S := Unit) (va_runV (As := [.int (1 : Int32)]) (rest := []) ⟨hx, hb, hml, hown, hts⟩ (c_X10_finds l dC dI cI cT cS H.size ad  (1 : Int32) σ1 _ hc17) (cwV 1 hts (gWV (List.mem_of_getElem? (i := 20) rfl) (List.mem_of_getElem? (i := 21) rfl) (List.mem_of_getElem? (i := 22) rfl) (List.mem_of_getElem? (i := 5) rfl) ic_X10_write_c_X10_finds gd_c_X10_finds) rfl rfl rfl (by decide +kernel) ⟨(Nat.le_of_ble_eq_true rfl), (Nat.le_of_ble_eq_true rfl)⟩) (wpV (q := (RX10, TX10, 46)) hP hK hD oX10 rfl) rfl rfl hl.1 rfl (lv_room (Nat.le_of_ble_eq_true rfl)) dX10_write_37 ⟨(Nat.le_of_ble_eq_true rfl), (Nat.le_of_ble_eq_true rfl)⟩) hP hD hS hA (fun rr18 _ H locs hr18 hP hD hS => ?_)
        replace hP : va_P (dC, dI) vwCl (Wd 24 (cfR ad cI) q17.2) H := hP
        replace hD : va_D A (Wd 24 (cfR ad cI) q17.2) := hD
        refine lv_nm (y := q17.1) hr18 ?_
        have h9 := Option.some.inj h
        exact wreti hx hb hr hlocks hP hD hS (by show _ = _; rw [← h9]; first | done | rfl) (by rw [← h9]) dX10_write_40
    · replace h := ifn (b2i_0 c6) h
      exact J23 σ1 H locs ls h hP hD hS (lv_sub (l' := []) hl [] rfl)
def zl_X10_allEntries_4 (σ : Sg) (x4 : Int32 × Int32) : Option (Bool × (Int32 × Int32)) := (if (σ 0 25) ≤ x4.1 then some (false, (x4.1, x4.2)) else bd x4.1 8 (letb (x4.2 + (σ 15 x4.1.toNatClampNeg)) (fun e3 => some (true, ((x4.1 + (1 : Int32)), e3)))))
def zf_X10_allEntries (σ : Sg) : Option (Int32) := obd (lp (X := Int32 × Int32) (zl_X10_allEntries_4 σ) 1000 ((0 : Int32), (0 : Int32))) (fun y4 => some y4.2)
def oc_X10_allEntries : List Cond := [.fieldLink RX10 253 "TraceTreesModel" "traces" "I", .fieldLink RX10 52 "TraceTreesModel" "length" "[I"]
def vc_X10_allEntries : List Cond := .code yX10_allEntries cX10_allEntries 3 (some .int) :: (oc_X10_allEntries ++ (wsX100))
theorem iw_X10_allEntries_X10 : ∀ w ∈ wsX100, w ∈ vc_X10_allEntries := fun _ h => List.mem_cons_of_mem _ (List.mem_append_right _ (h))
theorem gd_c_X10_allEntries : (vc_X10_allEntries).all goodWord = true := gall_cons rfl (gall_app (by decide +kernel) gw_X10)
set_option maxHeartbeats 4000000 in
set_option maxRecDepth 100000 in
theorem c_X10_allEntries (l : Launch) (dC : Nat → ClassId) (dI : Nat → Nat → Nat) (cI cT cS : ClassId) (sz : Nat) (ad : Nat → Nat) (σ : Sg) (o : Int32) (h : zf_X10_allEntries σ = some o) : gCI (S := Unit) l yX10_allEntries vc_X10_allEntries { frames := 0, cells := 0, slots := 0, locals := 0 } (dC, dI) (gTY cI cT cS) sz [.ref (ad 0)] (Wd 24 (cfR ad cI) σ) (fun (r : Int32) (_ : Unit) => r = o) (fun (_ : Unit) => (Wd 24 (cfR ad cI) σ)) 0 0 := by
  refine Met.ofW (cc := cX10_allEntries) (maxL := 3) (ret := (some .int)) (by decide) rfl ?_
  intro p e s m args below meth c s₁ B hml hv
  obtain ⟨rfl, hsz, hP, hK, hD0⟩ := hv
  have hx := B.exec
  have hb := B.bytes
  have hr := B.returns
  have hts := atoms_spec (ws := vc_X10_allEntries) B.pre
  have hown : s.vm.findClass RX10 = some m.cls := findClass_of_methodNamed B.named
  have hlocks := B.notSynchronized
  subst hsz
  have hD := hD0.self (sz := s.heap.size)
  generalize hAe : va_A (Wd 24 (cfR ad cI) σ) s.heap.size = A at hD ⊢
  have hA : ∀ q : Nat, s.heap.size ≤ q → A q := fun q h => by rw [← hAe]; exact Or.inr h
  clear hAe hD0
  refine gstart (fun H locs hHe hLe => ?_)
  have hS : va_S A s.heap H locs := by rw [← hHe, ← hLe]; exact va_S.rf
  replace hP : va_P (dC, dI) vwCl (Wd 24 (cfR ad cI) σ) H := by rw [← hHe]; exact hP
  clear hHe hLe
  have hl := lv_entry ([.ref (ad 0)]) (n := 3) (Nat.le_of_ble_eq_true rfl)
  rw [lg_entry_eq]
  generalize (lg_sl ([.ref (ad 0)]) ++ List.replicate (3 - (lg_sl ([.ref (ad 0)])).length) Slot.unset).toArray = ls at hl ⊢
  replace hl : lv_has ls 3 [(0, .ref (ad 0))] := hl
  unfold zf_X10_allEntries at h
  refine lv_iconst (v := 0) hx hb dX10_allEntries_0 (by decide) ?_
  refine lv_istore_n (lv' := [(1, .int (0 : Int32)), (0, .ref (ad 0))]) hx hb dX10_allEntries_1 rfl hl (by decide) rfl (fun ls hl => ?_)
  refine lv_iconst (v := 0) hx hb dX10_allEntries_2 (by decide) ?_
  refine lv_istore_n (lv' := [(2, .int (0 : Int32)), (1, .int (0 : Int32)), (0, .ref (ad 0))]) hx hb dX10_allEntries_3 rfl hl (by decide) rfl (fun ls hl => ?_)
  obtain ⟨y4, hlp4, h⟩ := obd_inv h
  refine lp_W (fun x4 : Int32 × Int32 => ∀ (H : Heap) (locs : List Loc) (ls : Array Slot), va_P (dC, dI) vwCl (Wd 24 (cfR ad cI) σ) H → va_D A (Wd 24 (cfR ad cI) σ) → va_S A s.heap H locs → lv_has ls 3 [(2, .int x4.1), (1, .int x4.2), (0, .ref (ad 0))] → W p l e (headSpec vc_X10_allEntries { frames := 0, cells := 0, slots := 0, locals := 0 }).room s m (List.toArray (α := Value) [.ref (ad 0)]) below meth c H locs 0 0 (MQ below (va_Qi (fun (r : Int32) (_ : Unit) => r = o) (gB (dC, dI) A (fun (_ : Unit) => (Wd 24 (cfR ad cI) σ))) A) (List.toArray (α := Value) [.ref (ad 0)]) s 0 0 A) (F0 m 4 ls [])) (fun y4 : Int32 × Int32 => ∀ (H : Heap) (locs : List Loc) (ls : Array Slot), va_P (dC, dI) vwCl (Wd 24 (cfR ad cI) σ) H → va_D A (Wd 24 (cfR ad cI) σ) → va_S A s.heap H locs → lv_has ls 3 [(1, .int y4.2)] → W p l e (headSpec vc_X10_allEntries { frames := 0, cells := 0, slots := 0, locals := 0 }).room s m (List.toArray (α := Value) [.ref (ad 0)]) below meth c H locs 0 0 (MQ below (va_Qi (fun (r : Int32) (_ : Unit) => r = o) (gB (dC, dI) A (fun (_ : Unit) => (Wd 24 (cfR ad cI) σ))) A) (List.toArray (α := Value) [.ref (ad 0)]) s 0 0 A) (F0 m 27 ls [])) ?_ 1000 ((0 : Int32), (0 : Int32)) y4 hlp4 ?_ H locs ls hP hD hS (lv_sub (l' := [(2, .int (0 : Int32)), (1, .int (0 : Int32)), (0, .ref (ad 0))]) hl [0, 1, 2] rfl)
  · intro x4 yy4 h ht4 hf4 H locs ls hP hD hS hl
    unfold zl_X10_allEntries_4 at h
    refine lv_iload_n hx hb dX10_allEntries_4 rfl (lv_at hl 0 rfl) ?_
    refine lv_aload_n hx hb dX10_allEntries_5 rfl (lv_at hl 2 rfl) ?_
    refine gf_X10_25 hx hb hts iw_X10_allEntries_X10 hown hK hP (hts (.fieldLink RX10 253 "TraceTreesModel" "traces" "I") (List.mem_of_getElem? (i := 1) rfl)) dX10_allEntries_6 ?_
    refine lv_icmp_ge (tgt := 27) hx hb dX10_allEntries_9 (by decide) (fun c1 => ?_) (fun c1 => ?_)
    · replace h := ifp (c1) h
      obtain rfl := Option.some.inj h
      exact hf4 rfl H locs ls hP hD hS (lv_sub (l' := [(1, .int x4.2)]) hl [1] rfl)
    · replace h := ifn (c1) h
      refine lv_iload_n hx hb dX10_allEntries_12 rfl (lv_at hl 1 rfl) ?_
      refine lv_aload_n hx hb dX10_allEntries_13 rfl (lv_at hl 2 rfl) ?_
      refine gf_X10_29 hx hb hts iw_X10_allEntries_X10 hown hK hP (hts (.fieldLink RX10 52 "TraceTreesModel" "length" "[I") (List.mem_of_getElem? (i := 2) rfl)) dX10_allEntries_14 ?_
      refine lv_iload_n hx hb dX10_allEntries_17 rfl (lv_at hl 0 rfl) ?_
      obtain ⟨hi2, h⟩ := bd_inv h
      refine wald hx hb hK hP aR15 hi2 dX10_allEntries_18 ?_
      refine lv_iadd hx hb dX10_allEntries_19 ?_
      obtain ⟨e3, he3, h⟩ := letb_inv h
      refine lv_nm he3 ?_
      refine lv_istore_n (lv' := [(1, .int e3), (2, .int x4.1), (0, .ref (ad 0))]) hx hb dX10_allEntries_20 rfl hl (by decide) rfl (fun ls hl => ?_)
      refine lv_iinc (v := (x4.1 + (1 : Int32))) (lv' := [(2, .int (x4.1 + (1 : Int32))), (1, .int e3), (0, .ref (ad 0))]) hx hb dX10_allEntries_21 hl (k := 1) rfl rfl (by decide) rfl (fun ls hl => ?_)
      refine lv_goto (tgt := 4) hx hb dX10_allEntries_24 (by decide) ?_
      obtain rfl := Option.some.inj h
      exact ht4 rfl H locs ls hP hD hS (lv_sub (l' := [(2, .int (x4.1 + (1 : Int32))), (1, .int e3), (0, .ref (ad 0))]) hl [0, 1, 2] rfl)
  · intro H locs ls hP hD hS hl
    refine lv_iload_n hx hb dX10_allEntries_27 rfl (lv_at hl 0 rfl) ?_
    have h9 := Option.some.inj h
    exact wreti hx hb hr hlocks hP hD hS (by show _ = _; rw [← h9]; first | done | rfl) rfl dX10_allEntries_28
def zb_X10_count_80 (a1 : Int32) (σb80 : Sg) : Option (Int32 × Sg) := some ((zf_X10_endsBy (a1 - (2 : Int32)) σb80), σb80)
def zf_X10_count (a1 : Int32) (σ : Sg) : Option (Int32 × Sg) := obd (zf_X10_runs (σ 0 10) σ) (fun σ1 => (if a1 = 0 then some ((σ1 0 5), σ1) else (if a1 = 1 then some ((σ1 0 9), σ1) else (if a1 = 2 then some ((σ1 0 10), σ1) else (if a1 = 3 then some ((σ1 0 25), σ1) else (if a1 = 4 then (zb_X10_count_80 a1 σ1) else (if a1 = 5 then (zb_X10_count_80 a1 σ1) else (if a1 = 6 then (zb_X10_count_80 a1 σ1) else (if a1 = 7 then obd (zf_X10_allEntries σ1) (fun r11 => some (r11, σ1)) else (if a1 = 8 then some ((σ1 0 4), σ1) else some ((-2 : Int32), σ1)))))))))))
def oc_X10_count : List Cond := [.fieldLink RX10 83 "TraceTreesModel" "hot" "I", .methodLink RX10 344 yX10_runs, .instanceMethod yX10_runs, .selects RX10 yX10_runs yX10_runs, .initialized RX10, .fieldLink RX10 162 "TraceTreesModel" "codes" "I", .fieldLink RX10 79 "TraceTreesModel" "limit" "I", .fieldLink RX10 253 "TraceTreesModel" "traces" "I", .methodLink RX10 406 yX10_allEntries, .instanceMethod yX10_allEntries, .selects RX10 yX10_allEntries yX10_allEntries, .fieldLink RX10 90 "TraceTreesModel" "latest" "I", .methodLink RX10 350 yX10_endsBy, .instanceMethod yX10_endsBy, .selects RX10 yX10_endsBy yX10_endsBy]
def vc_X10_count : List Cond := .code yX10_count cX10_count 2 (some .int) :: (oc_X10_count ++ (wsX100 ++ (vc_X10_runs ++ (vc_X10_allEntries ++ (vc_X10_endsBy)))))
theorem iw_X10_count_X10 : ∀ w ∈ wsX100, w ∈ vc_X10_count := fun _ h => List.mem_cons_of_mem _ (List.mem_append_right _ (List.mem_append_left _ h))
theorem ic_X10_count_c_X10_runs : ∀ w ∈ vc_X10_runs, w ∈ vc_X10_count := fun _ h => List.mem_cons_of_mem _ (List.mem_append_right _ (List.mem_append_right _ (List.mem_append_left _ h)))
theorem ic_X10_count_c_X10_allEntries : ∀ w ∈ vc_X10_allEntries, w ∈ vc_X10_count := fun _ h => List.mem_cons_of_mem _ (List.mem_append_right _ (List.mem_append_right _ (List.mem_append_right _ (List.mem_append_left _ h))))
theorem ic_X10_count_c_X10_endsBy : ∀ w ∈ vc_X10_endsBy, w ∈ vc_X10_count := fun _ h => List.mem_cons_of_mem _ (List.mem_append_right _ (List.mem_append_right _ (List.mem_append_right _ (List.mem_append_right _ (h)))))
theorem gd_c_X10_count : (vc_X10_count).all goodWord = true := gall_cons rfl (gall_app (by decide +kernel) (gall_app gw_X10 (gall_app gd_c_X10_runs (gall_app gd_c_X10_allEntries gd_c_X10_endsBy))))
set_option maxHeartbeats 4000000 in
set_option maxRecDepth 100000 in
theorem c_X10_count (l : Launch) (dC : Nat → ClassId) (dI : Nat → Nat → Nat) (cI cT cS : ClassId) (sz : Nat) (ad : Nat → Nat) (a1 : Int32) (σ : Sg) (o : Int32 × Sg) (h : zf_X10_count a1 σ = some o) : gCI (S := Unit) l yX10_count vc_X10_count { frames := 9, cells := 0, slots := 0, locals := 226 } (dC, dI) (gTY cI cT cS) sz [.ref (ad 0), .int a1] (Wd 24 (cfR ad cI) σ) (fun (r : Int32) (_ : Unit) => r = o.1) (fun (_ : Unit) => (Wd 24 (cfR ad cI) o.2)) 0 0 := by
  refine Met.ofW (cc := cX10_count) (maxL := 2) (ret := (some .int)) (by decide) rfl ?_
  intro p e s m args below meth c s₁ B hml hv
  obtain ⟨rfl, hsz, hP, hK, hD0⟩ := hv
  have hx := B.exec
  have hb := B.bytes
  have hr := B.returns
  have hts := atoms_spec (ws := vc_X10_count) B.pre
  have hown : s.vm.findClass RX10 = some m.cls := findClass_of_methodNamed B.named
  have hlocks := B.notSynchronized
  subst hsz
  have hD := hD0.self (sz := s.heap.size)
  generalize hAe : va_A (Wd 24 (cfR ad cI) σ) s.heap.size = A at hD ⊢
  have hA : ∀ q : Nat, s.heap.size ≤ q → A q := fun q h => by rw [← hAe]; exact Or.inr h
  clear hAe hD0
  refine gstart (fun H locs hHe hLe => ?_)
  have hS : va_S A s.heap H locs := by rw [← hHe, ← hLe]; exact va_S.rf
  replace hP : va_P (dC, dI) vwCl (Wd 24 (cfR ad cI) σ) H := by rw [← hHe]; exact hP
  clear hHe hLe
  have hl := lv_entry ([.ref (ad 0), .int a1]) (n := 2) (Nat.le_of_ble_eq_true rfl)
  rw [lg_entry_eq]
  generalize (lg_sl ([.ref (ad 0), .int a1]) ++ List.replicate (2 - (lg_sl ([.ref (ad 0), .int a1])).length) Slot.unset).toArray = ls at hl ⊢
  replace hl : lv_has ls 2 [(0, .ref (ad 0)), (1, .int a1)] := hl
  unfold zf_X10_count at h
  have J80 : ∀ (σb80 : Sg) (H : Heap) (locs : List Loc) (ls : Array Slot), zb_X10_count_80 a1 σb80 = some o → va_P (dC, dI) vwCl (Wd 24 (cfR ad cI) σb80) H → va_D A (Wd 24 (cfR ad cI) σb80) → va_S A s.heap H locs → lv_has ls 2 [(0, .ref (ad 0)), (1, .int a1)] → W p l e (headSpec vc_X10_count { frames := 9, cells := 0, slots := 0, locals := 226 }).room s m (List.toArray (α := Value) [.ref (ad 0), .int a1]) below meth c H locs 0 0 (MQ below (va_Qi (fun (r : Int32) (_ : Unit) => r = o.1) (gB (dC, dI) A (fun (_ : Unit) => (Wd 24 (cfR ad cI) o.2))) A) (List.toArray (α := Value) [.ref (ad 0), .int a1]) s 0 0 A) (F0 m 80 ls []) := by
    intro σb80 H locs ls h hP hD hS hl
    unfold zb_X10_count_80 at h
    refine lv_aload_n hx hb dX10_count_80 rfl (lv_at hl 0 rfl) ?_
    refine lv_iload_n hx hb dX10_count_81 rfl (lv_at hl 1 rfl) ?_
    refine lv_iconst (v := 2) hx hb dX10_count_82 (by decide) ?_
    refine lv_isub hx hb dX10_count_83 ?_
    refine wcalli (S := Unit) (va_runV (As := [.int (a1 - (2 : Int32))]) (rest := []) ⟨hx, hb, hml, hown, hts⟩ (c_X10_endsBy l dC dI cI cT cS H.size ad  (a1 - (2 : Int32)) σb80 _ rfl) (cwV 1 hts (gWV (List.mem_of_getElem? (i := 13) rfl) (List.mem_of_getElem? (i := 14) rfl) (List.mem_of_getElem? (i := 15) rfl) (List.mem_of_getElem? (i := 5) rfl) ic_X10_count_c_X10_endsBy gd_c_X10_endsBy) rfl rfl rfl (by decide +kernel) ⟨(Nat.le_of_ble_eq_true rfl), (Nat.le_of_ble_eq_true rfl)⟩) (wpV (q := (RX10, TX10, 46)) hP hK hD oX10 rfl) rfl rfl hl.1 rfl (lv_room (Nat.le_of_ble_eq_true rfl)) dX10_count_84 ⟨(Nat.le_of_ble_eq_true rfl), (Nat.le_of_ble_eq_true rfl)⟩) hP hD hS hA (fun rr14 _ H locs hr14 hP hD hS => ?_)
    refine lv_nm (y := (zf_X10_endsBy (a1 - (2 : Int32)) σb80)) hr14 ?_
    have h9 := Option.some.inj h
    exact wreti hx hb hr hlocks hP hD hS (by show _ = _; rw [← h9]; first | done | rfl) (by rw [← h9]) dX10_count_87
  refine lv_aload_n hx hb dX10_count_0 rfl (lv_at hl 0 rfl) ?_
  refine lv_aload_n hx hb dX10_count_1 rfl (lv_at hl 0 rfl) ?_
  refine gf_X10_10 hx hb hts iw_X10_count_X10 hown hK hP (hts (.fieldLink RX10 83 "TraceTreesModel" "hot" "I") (List.mem_of_getElem? (i := 1) rfl)) dX10_count_2 ?_
  obtain ⟨σ1, hc1, h⟩ := obd_inv h
  refine wcallv (S := Unit) (va_runV (As := [.int (σ 0 10)]) (rest := []) ⟨hx, hb, hml, hown, hts⟩ (c_X10_runs l dC dI cI cT cS H.size ad  (σ 0 10) σ _ hc1) (cwV 1 hts (gWV (List.mem_of_getElem? (i := 2) rfl) (List.mem_of_getElem? (i := 3) rfl) (List.mem_of_getElem? (i := 4) rfl) (List.mem_of_getElem? (i := 5) rfl) ic_X10_count_c_X10_runs gd_c_X10_runs) rfl rfl rfl (by decide +kernel) ⟨(Nat.le_of_ble_eq_true rfl), (Nat.le_of_ble_eq_true rfl)⟩) (wpV (q := (RX10, TX10, 46)) hP hK hD oX10 rfl) rfl rfl hl.1 rfl (lv_room (Nat.le_of_ble_eq_true rfl)) dX10_count_5 ⟨(Nat.le_of_ble_eq_true rfl), (Nat.le_of_ble_eq_true rfl)⟩) hP hD hS hA (fun _ H locs hr2 hP hD hS => ?_)
  replace hP : va_P (dC, dI) vwCl (Wd 24 (cfR ad cI) σ1) H := hP
  replace hD : va_D A (Wd 24 (cfR ad cI) σ1) := hD
  refine lv_iload_n hx hb dX10_count_8 rfl (lv_at hl 1 rfl) ?_
  by_cases c3 : a1 = 0
  · replace h := ifp c3 h
    refine lv_tableIn (off := 51) (tgt := 60) hx hb dX10_count_9 (by rw [c3]; decide) (by rw [c3]; decide) (by rw [c3]; decide) (by decide) ?_
    refine lv_aload_n hx hb dX10_count_60 rfl (lv_at hl 0 rfl) ?_
    refine gf_X10_5 hx hb hts iw_X10_count_X10 hown hK hP (hts (.fieldLink RX10 162 "TraceTreesModel" "codes" "I") (List.mem_of_getElem? (i := 6) rfl)) dX10_count_61 ?_
    have h9 := Option.some.inj h
    exact wreti hx hb hr hlocks hP hD hS (by show _ = _; rw [← h9]; first | done | rfl) (by rw [← h9]) dX10_count_64
  replace h := ifn c3 h
  by_cases c4 : a1 = 1
  · replace h := ifp c4 h
    refine lv_tableIn (off := 56) (tgt := 65) hx hb dX10_count_9 (by rw [c4]; decide) (by rw [c4]; decide) (by rw [c4]; decide) (by decide) ?_
    refine lv_aload_n hx hb dX10_count_65 rfl (lv_at hl 0 rfl) ?_
    refine gf_X10_9 hx hb hts iw_X10_count_X10 hown hK hP (hts (.fieldLink RX10 79 "TraceTreesModel" "limit" "I") (List.mem_of_getElem? (i := 7) rfl)) dX10_count_66 ?_
    have h9 := Option.some.inj h
    exact wreti hx hb hr hlocks hP hD hS (by show _ = _; rw [← h9]; first | done | rfl) (by rw [← h9]) dX10_count_69
  replace h := ifn c4 h
  by_cases c5 : a1 = 2
  · replace h := ifp c5 h
    refine lv_tableIn (off := 61) (tgt := 70) hx hb dX10_count_9 (by rw [c5]; decide) (by rw [c5]; decide) (by rw [c5]; decide) (by decide) ?_
    refine lv_aload_n hx hb dX10_count_70 rfl (lv_at hl 0 rfl) ?_
    refine gf_X10_10 hx hb hts iw_X10_count_X10 hown hK hP (hts (.fieldLink RX10 83 "TraceTreesModel" "hot" "I") (List.mem_of_getElem? (i := 1) rfl)) dX10_count_71 ?_
    have h9 := Option.some.inj h
    exact wreti hx hb hr hlocks hP hD hS (by show _ = _; rw [← h9]; first | done | rfl) (by rw [← h9]) dX10_count_74
  replace h := ifn c5 h
  by_cases c6 : a1 = 3
  · replace h := ifp c6 h
    refine lv_tableIn (off := 66) (tgt := 75) hx hb dX10_count_9 (by rw [c6]; decide) (by rw [c6]; decide) (by rw [c6]; decide) (by decide) ?_
    refine lv_aload_n hx hb dX10_count_75 rfl (lv_at hl 0 rfl) ?_
    refine gf_X10_25 hx hb hts iw_X10_count_X10 hown hK hP (hts (.fieldLink RX10 253 "TraceTreesModel" "traces" "I") (List.mem_of_getElem? (i := 8) rfl)) dX10_count_76 ?_
    have h9 := Option.some.inj h
    exact wreti hx hb hr hlocks hP hD hS (by show _ = _; rw [← h9]; first | done | rfl) (by rw [← h9]) dX10_count_79
  replace h := ifn c6 h
  by_cases c7 : a1 = 4
  · replace h := ifp c7 h
    refine lv_tableIn (off := 71) (tgt := 80) hx hb dX10_count_9 (by rw [c7]; decide) (by rw [c7]; decide) (by rw [c7]; decide) (by decide) ?_
    exact J80 σ1 H locs ls h hP hD hS (lv_sub (l' := [(0, .ref (ad 0)), (1, .int a1)]) hl [0, 1] rfl)
  replace h := ifn c7 h
  by_cases c8 : a1 = 5
  · replace h := ifp c8 h
    refine lv_tableIn (off := 71) (tgt := 80) hx hb dX10_count_9 (by rw [c8]; decide) (by rw [c8]; decide) (by rw [c8]; decide) (by decide) ?_
    exact J80 σ1 H locs ls h hP hD hS (lv_sub (l' := [(0, .ref (ad 0)), (1, .int a1)]) hl [0, 1] rfl)
  replace h := ifn c8 h
  by_cases c9 : a1 = 6
  · replace h := ifp c9 h
    refine lv_tableIn (off := 71) (tgt := 80) hx hb dX10_count_9 (by rw [c9]; decide) (by rw [c9]; decide) (by rw [c9]; decide) (by decide) ?_
    exact J80 σ1 H locs ls h hP hD hS (lv_sub (l' := [(0, .ref (ad 0)), (1, .int a1)]) hl [0, 1] rfl)
  replace h := ifn c9 h
  by_cases c10 : a1 = 7
  · replace h := ifp c10 h
    refine lv_tableIn (off := 79) (tgt := 88) hx hb dX10_count_9 (by rw [c10]; decide) (by rw [c10]; decide) (by rw [c10]; decide) (by decide) ?_
    refine lv_aload_n hx hb dX10_count_88 rfl (lv_at hl 0 rfl) ?_
    obtain ⟨r11, hc11, h⟩ := obd_inv h
    refine wcalli (S := Unit) (va_runV (As := []) (rest := []) ⟨hx, hb, hml, hown, hts⟩ (c_X10_allEntries l dC dI cI cT cS H.size ad   σ1 _ hc11) (cwV 0 hts (gWV (List.mem_of_getElem? (i := 9) rfl) (List.mem_of_getElem? (i := 10) rfl) (List.mem_of_getElem? (i := 11) rfl) (List.mem_of_getElem? (i := 5) rfl) ic_X10_count_c_X10_allEntries gd_c_X10_allEntries) rfl rfl rfl (by decide +kernel) ⟨(Nat.le_of_ble_eq_true rfl), (Nat.le_of_ble_eq_true rfl)⟩) (wpV (q := (RX10, TX10, 46)) hP hK hD oX10 rfl) rfl rfl hl.1 rfl (lv_room (Nat.le_of_ble_eq_true rfl)) dX10_count_89 ⟨(Nat.le_of_ble_eq_true rfl), (Nat.le_of_ble_eq_true rfl)⟩) hP hD hS hA (fun rr12 _ H locs hr12 hP hD hS => ?_)
    refine lv_nm (y := r11) hr12 ?_
    have h9 := Option.some.inj h
    exact wreti hx hb hr hlocks hP hD hS (by show _ = _; rw [← h9]; first | done | rfl) (by rw [← h9]) dX10_count_92
  replace h := ifn c10 h
  by_cases c13 : a1 = 8
  · replace h := ifp c13 h
    refine lv_tableIn (off := 84) (tgt := 93) hx hb dX10_count_9 (by rw [c13]; decide) (by rw [c13]; decide) (by rw [c13]; decide) (by decide) ?_
    refine lv_aload_n hx hb dX10_count_93 rfl (lv_at hl 0 rfl) ?_
    refine gf_X10_4 hx hb hts iw_X10_count_X10 hown hK hP (hts (.fieldLink RX10 90 "TraceTreesModel" "latest" "I") (List.mem_of_getElem? (i := 12) rfl)) dX10_count_94 ?_
    have h9 := Option.some.inj h
    exact wreti hx hb hr hlocks hP hD hS (by show _ = _; rw [← h9]; first | done | rfl) (by rw [← h9]) dX10_count_97
  replace h := ifn c13 h
  refine lv_tableOut (tgt := 98) hx hb dX10_count_9 (by have := lv_neT c3 (a := 0) (by decide); have := lv_neT c4 (a := 1) (by decide); have := lv_neT c5 (a := 2) (by decide); have := lv_neT c6 (a := 3) (by decide); have := lv_neT c7 (a := 4) (by decide); have := lv_neT c8 (a := 5) (by decide); have := lv_neT c9 (a := 6) (by decide); have := lv_neT c10 (a := 7) (by decide); have := lv_neT c13 (a := 8) (by decide); omega) (by decide) ?_
  refine lv_bipush (v := (-2)) hx hb dX10_count_98 (by decide) ?_
  have h9 := Option.some.inj h
  exact wreti hx hb hr hlocks hP hD hS (by show _ = _; rw [← h9]; first | done | rfl) (by rw [← h9]) dX10_count_100
def zl_X10_tellsTrace_130 (a3 : Int32) (σ : Sg) (x85 : Int32 × Int64) (x130 : Int32 × Int64) : Option (Bool × (Int32 × Int64)) := (if (2 : Int32) ≤ x130.1 then some (false, (x130.1, x130.2)) else obd (zf_X10_snapshotOf a3 x85.1 x130.1 σ) (fun r18 => letb (((31 : Int64) * x130.2) + (r18.toInt64)) (fun e20 => some (true, ((x130.1 + (1 : Int32)), e20)))))
def zl_X10_tellsTrace_95 (a3 : Int32) (σ : Sg) (x85 : Int32 × Int64) (x95 : Int32 × Int64) : Option (Bool × (Int32 × Int64)) := (if (6 : Int32) ≤ x95.1 then some (false, (x95.1, x95.2)) else obd (zf_X10_entryOf a3 x85.1 x95.1 σ) (fun r14 => letb (((31 : Int64) * x95.2) + (r14.toInt64)) (fun e16 => some (true, ((x95.1 + (1 : Int32)), e16)))))
def zl_X10_tellsTrace_85 (a3 : Int32) (σ : Sg) (x85 : Int32 × Int64) : Option (Bool × (Int32 × Int64)) := (if (16 : Int32) ≤ x85.1 then some (false, (x85.1, x85.2)) else obd (lp (X := Int32 × Int64) (zl_X10_tellsTrace_95 a3 σ x85) 1000 ((0 : Int32), x85.2)) (fun y95 => obd (lp (X := Int32 × Int64) (zl_X10_tellsTrace_130 a3 σ x85) 1000 ((0 : Int32), y95.2)) (fun y130 => some (true, ((x85.1 + (1 : Int32)), y130.2)))))
def zl_X10_tellsTrace_38 (a3 : Int32) (σ : Sg) (x38 : Int32 × Int64) : Option (Bool × (Int32 × Int64)) := (if (3 : Int32) ≤ x38.1 then some (false, (x38.1, x38.2)) else obd (zf_X10_checksOf a3 x38.1 σ) (fun r6 => letb (((31 : Int64) * x38.2) + (r6.toInt64)) (fun e8 => some (true, ((x38.1 + (1 : Int32)), e8)))))
def zl_X10_tellsTrace_6 (a3 : Int32) (σ : Sg) (x6 : Int32 × Int64) : Option (Bool × (Int32 × Int64)) := (if (5 : Int32) ≤ x6.1 then some (false, (x6.1, x6.2)) else obd (zf_X10_traceOf a3 x6.1 σ) (fun r2 => letb (((31 : Int64) * x6.2) + (r2.toInt64)) (fun e4 => some (true, ((x6.1 + (1 : Int32)), e4)))))
def zf_X10_tellsTrace (a1 : Int64) (a3 : Int32) (σ : Sg) : Option (Int64) := obd (lp (X := Int32 × Int64) (zl_X10_tellsTrace_6 a3 σ) 1000 ((0 : Int32), a1)) (fun y6 => obd (lp (X := Int32 × Int64) (zl_X10_tellsTrace_38 a3 σ) 1000 ((0 : Int32), y6.2)) (fun y38 => obd (zf_X10_writesOf a3 σ) (fun r9 => letb (((31 : Int64) * y38.2) + (r9.toInt64)) (fun e11 => obd (lp (X := Int32 × Int64) (zl_X10_tellsTrace_85 a3 σ) 1000 ((0 : Int32), e11)) (fun y85 => some y85.2)))))
def oc_X10_tellsTrace : List Cond := [.constantLong RX10 410 (31), .methodLink RX10 364 yX10_traceOf, .instanceMethod yX10_traceOf, .selects RX10 yX10_traceOf yX10_traceOf, .initialized RX10, .methodLink RX10 385 yX10_checksOf, .instanceMethod yX10_checksOf, .selects RX10 yX10_checksOf yX10_checksOf, .methodLink RX10 394 yX10_writesOf, .instanceMethod yX10_writesOf, .selects RX10 yX10_writesOf yX10_writesOf, .methodLink RX10 373 yX10_entryOf, .instanceMethod yX10_entryOf, .selects RX10 yX10_entryOf yX10_entryOf, .methodLink RX10 391 yX10_snapshotOf, .instanceMethod yX10_snapshotOf, .selects RX10 yX10_snapshotOf yX10_snapshotOf]
def vc_X10_tellsTrace : List Cond := .code yX10_tellsTrace cX10_tellsTrace 8 (some .long) :: (oc_X10_tellsTrace ++ (vc_X10_traceOf ++ (vc_X10_checksOf ++ (vc_X10_writesOf ++ (vc_X10_entryOf ++ (vc_X10_snapshotOf))))))
theorem ic_X10_tellsTrace_c_X10_traceOf : ∀ w ∈ vc_X10_traceOf, w ∈ vc_X10_tellsTrace := fun _ h => List.mem_cons_of_mem _ (List.mem_append_right _ (List.mem_append_left _ h))
theorem ic_X10_tellsTrace_c_X10_checksOf : ∀ w ∈ vc_X10_checksOf, w ∈ vc_X10_tellsTrace := fun _ h => List.mem_cons_of_mem _ (List.mem_append_right _ (List.mem_append_right _ (List.mem_append_left _ h)))
theorem ic_X10_tellsTrace_c_X10_writesOf : ∀ w ∈ vc_X10_writesOf, w ∈ vc_X10_tellsTrace := fun _ h => List.mem_cons_of_mem _ (List.mem_append_right _ (List.mem_append_right _ (List.mem_append_right _ (List.mem_append_left _ h))))
theorem ic_X10_tellsTrace_c_X10_entryOf : ∀ w ∈ vc_X10_entryOf, w ∈ vc_X10_tellsTrace := fun _ h => List.mem_cons_of_mem _ (List.mem_append_right _ (List.mem_append_right _ (List.mem_append_right _ (List.mem_append_right _ (List.mem_append_left _ h)))))
theorem ic_X10_tellsTrace_c_X10_snapshotOf : ∀ w ∈ vc_X10_snapshotOf, w ∈ vc_X10_tellsTrace := fun _ h => List.mem_cons_of_mem _ (List.mem_append_right _ (List.mem_append_right _ (List.mem_append_right _ (List.mem_append_right _ (List.mem_append_right _ (h))))))
theorem gd_c_X10_tellsTrace : (vc_X10_tellsTrace).all goodWord = true := gall_cons rfl (gall_app (by decide +kernel) (gall_app gd_c_X10_traceOf (gall_app gd_c_X10_checksOf (gall_app gd_c_X10_writesOf (gall_app gd_c_X10_entryOf gd_c_X10_snapshotOf)))))
set_option maxHeartbeats 4000000 in
set_option maxRecDepth 100000 in
theorem c_X10_tellsTrace (l : Launch) (dC : Nat → ClassId) (dI : Nat → Nat → Nat) (cI cT cS : ClassId) (sz : Nat) (ad : Nat → Nat) (a1 : Int64) (a3 : Int32) (σ : Sg) (o : Int64) (h : zf_X10_tellsTrace a1 a3 σ = some o) : gCL (S := Unit) l yX10_tellsTrace vc_X10_tellsTrace { frames := 4, cells := 0, slots := 0, locals := 103 } (dC, dI) (gTY cI cT cS) sz [.ref (ad 0), .long a1, .int a3] (Wd 24 (cfR ad cI) σ) (fun (r : Int64) (_ : Unit) => r = o) (fun (_ : Unit) => (Wd 24 (cfR ad cI) σ)) 0 0 := by
  refine Met.ofW (cc := cX10_tellsTrace) (maxL := 8) (ret := (some .long)) (by decide) rfl ?_
  intro p e s m args below meth c s₁ B hml hv
  obtain ⟨rfl, hsz, hP, hK, hD0⟩ := hv
  have hx := B.exec
  have hb := B.bytes
  have hr := B.returns
  have hts := atoms_spec (ws := vc_X10_tellsTrace) B.pre
  have hown : s.vm.findClass RX10 = some m.cls := findClass_of_methodNamed B.named
  have hlocks := B.notSynchronized
  subst hsz
  have hD := hD0.self (sz := s.heap.size)
  generalize hAe : va_A (Wd 24 (cfR ad cI) σ) s.heap.size = A at hD ⊢
  have hA : ∀ q : Nat, s.heap.size ≤ q → A q := fun q h => by rw [← hAe]; exact Or.inr h
  clear hAe hD0
  refine gstart (fun H locs hHe hLe => ?_)
  have hS : va_S A s.heap H locs := by rw [← hHe, ← hLe]; exact va_S.rf
  replace hP : va_P (dC, dI) vwCl (Wd 24 (cfR ad cI) σ) H := by rw [← hHe]; exact hP
  clear hHe hLe
  have hl := lv_entry ([.ref (ad 0), .long a1, .int a3]) (n := 8) (Nat.le_of_ble_eq_true rfl)
  rw [lg_entry_eq]
  generalize (lg_sl ([.ref (ad 0), .long a1, .int a3]) ++ List.replicate (8 - (lg_sl ([.ref (ad 0), .long a1, .int a3])).length) Slot.unset).toArray = ls at hl ⊢
  replace hl : lv_has ls 8 [(0, .ref (ad 0)), (1, .long a1), (3, .int a3)] := hl
  unfold zf_X10_tellsTrace at h
  refine lv_lload_n hx hb dX10_tellsTrace_0 rfl (lv_at hl 1 rfl) ?_
  refine lv_lstore (lv' := [(4, .long a1), (0, .ref (ad 0)), (1, .long a1), (3, .int a3)]) hx hb dX10_tellsTrace_1 hl (by decide) rfl (fun ls hl => ?_)
  refine lv_iconst (v := 0) hx hb dX10_tellsTrace_3 (by decide) ?_
  refine lv_istore (lv' := [(6, .int (0 : Int32)), (4, .long a1), (0, .ref (ad 0)), (1, .long a1), (3, .int a3)]) hx hb dX10_tellsTrace_4 hl (by decide) rfl (fun ls hl => ?_)
  obtain ⟨y6, hlp6, h⟩ := obd_inv h
  refine lp_W (fun x6 : Int32 × Int64 => ∀ (H : Heap) (locs : List Loc) (ls : Array Slot), va_P (dC, dI) vwCl (Wd 24 (cfR ad cI) σ) H → va_D A (Wd 24 (cfR ad cI) σ) → va_S A s.heap H locs → lv_has ls 8 [(6, .int x6.1), (4, .long x6.2), (0, .ref (ad 0)), (3, .int a3)] → W p l e (headSpec vc_X10_tellsTrace { frames := 4, cells := 0, slots := 0, locals := 103 }).room s m (List.toArray (α := Value) [.ref (ad 0), .long a1, .int a3]) below meth c H locs 0 0 (MQ below (va_Ql (fun (r : Int64) (_ : Unit) => r = o) (gB (dC, dI) A (fun (_ : Unit) => (Wd 24 (cfR ad cI) σ))) A) (List.toArray (α := Value) [.ref (ad 0), .long a1, .int a3]) s 0 0 A) (F0 m 6 ls [])) (fun y6 : Int32 × Int64 => ∀ (H : Heap) (locs : List Loc) (ls : Array Slot), va_P (dC, dI) vwCl (Wd 24 (cfR ad cI) σ) H → va_D A (Wd 24 (cfR ad cI) σ) → va_S A s.heap H locs → lv_has ls 8 [(4, .long y6.2), (0, .ref (ad 0)), (3, .int a3)] → W p l e (headSpec vc_X10_tellsTrace { frames := 4, cells := 0, slots := 0, locals := 103 }).room s m (List.toArray (α := Value) [.ref (ad 0), .long a1, .int a3]) below meth c H locs 0 0 (MQ below (va_Ql (fun (r : Int64) (_ : Unit) => r = o) (gB (dC, dI) A (fun (_ : Unit) => (Wd 24 (cfR ad cI) σ))) A) (List.toArray (α := Value) [.ref (ad 0), .long a1, .int a3]) s 0 0 A) (F0 m 35 ls [])) ?_ 1000 ((0 : Int32), a1) y6 hlp6 ?_ H locs ls hP hD hS (lv_sub (l' := [(6, .int (0 : Int32)), (4, .long a1), (0, .ref (ad 0)), (3, .int a3)]) hl [0, 1, 2, 4] rfl)
  · intro x6 yy6 h ht6 hf6 H locs ls hP hD hS hl
    unfold zl_X10_tellsTrace_6 at h
    refine lv_iload hx hb dX10_tellsTrace_6 (lv_at hl 0 rfl) ?_
    refine lv_iconst (v := 5) hx hb dX10_tellsTrace_8 (by decide) ?_
    refine lv_icmp_ge (tgt := 35) hx hb dX10_tellsTrace_9 (by decide) (fun c1 => ?_) (fun c1 => ?_)
    · replace h := ifp (c1) h
      obtain rfl := Option.some.inj h
      exact hf6 rfl H locs ls hP hD hS (lv_sub (l' := [(4, .long x6.2), (0, .ref (ad 0)), (3, .int a3)]) hl [1, 2, 3] rfl)
    · replace h := ifn (c1) h
      refine lv_ldc2 (v := 31) hx hb hown (hts (.constantLong RX10 410 (31)) (List.mem_of_getElem? (i := 1) rfl)) dX10_tellsTrace_12 ?_
      refine lv_lload hx hb dX10_tellsTrace_15 (lv_at hl 1 rfl) ?_
      refine lv_lmul hx hb dX10_tellsTrace_17 ?_
      refine lv_aload_n hx hb dX10_tellsTrace_18 rfl (lv_at hl 2 rfl) ?_
      refine lv_iload_n hx hb dX10_tellsTrace_19 rfl (lv_at hl 3 rfl) ?_
      refine lv_iload hx hb dX10_tellsTrace_20 (lv_at hl 0 rfl) ?_
      obtain ⟨r2, hc2, h⟩ := obd_inv h
      refine wcalli (S := Unit) (va_runV (As := [.int a3, .int x6.1]) (rest := [.long ((31 : Int64) * x6.2)]) ⟨hx, hb, hml, hown, hts⟩ (c_X10_traceOf l dC dI cI cT cS H.size ad  a3 x6.1 σ _ hc2) (cwV 2 hts (gWV (List.mem_of_getElem? (i := 2) rfl) (List.mem_of_getElem? (i := 3) rfl) (List.mem_of_getElem? (i := 4) rfl) (List.mem_of_getElem? (i := 5) rfl) ic_X10_tellsTrace_c_X10_traceOf gd_c_X10_traceOf) rfl rfl rfl (by decide +kernel) ⟨(Nat.le_of_ble_eq_true rfl), (Nat.le_of_ble_eq_true rfl)⟩) (wpV (q := (RX10, TX10, 46)) hP hK hD oX10 rfl) rfl rfl hl.1 rfl (lv_room (Nat.le_of_ble_eq_true rfl)) dX10_tellsTrace_22 ⟨(Nat.le_of_ble_eq_true rfl), (Nat.le_of_ble_eq_true rfl)⟩) hP hD hS hA (fun rr3 _ H locs hr3 hP hD hS => ?_)
      refine lv_nm (y := r2) hr3 ?_
      refine lv_i2l hx hb dX10_tellsTrace_25 rfl ?_
      refine lv_ladd hx hb dX10_tellsTrace_26 ?_
      obtain ⟨e4, he4, h⟩ := letb_inv h
      refine lv_nml he4 ?_
      refine lv_lstore (lv' := [(4, .long e4), (6, .int x6.1), (0, .ref (ad 0)), (3, .int a3)]) hx hb dX10_tellsTrace_27 hl (by decide) rfl (fun ls hl => ?_)
      refine lv_iinc (v := (x6.1 + (1 : Int32))) (lv' := [(6, .int (x6.1 + (1 : Int32))), (4, .long e4), (0, .ref (ad 0)), (3, .int a3)]) hx hb dX10_tellsTrace_29 hl (k := 1) rfl rfl (by decide) rfl (fun ls hl => ?_)
      refine lv_goto (tgt := 6) hx hb dX10_tellsTrace_32 (by decide) ?_
      obtain rfl := Option.some.inj h
      exact ht6 rfl H locs ls hP hD hS (lv_sub (l' := [(6, .int (x6.1 + (1 : Int32))), (4, .long e4), (0, .ref (ad 0)), (3, .int a3)]) hl [0, 1, 2, 3] rfl)
  · intro H locs ls hP hD hS hl
    refine lv_iconst (v := 0) hx hb dX10_tellsTrace_35 (by decide) ?_
    refine lv_istore (lv' := [(6, .int (0 : Int32)), (4, .long y6.2), (0, .ref (ad 0)), (3, .int a3)]) hx hb dX10_tellsTrace_36 hl (by decide) rfl (fun ls hl => ?_)
    obtain ⟨y38, hlp38, h⟩ := obd_inv h
    refine lp_W (fun x38 : Int32 × Int64 => ∀ (H : Heap) (locs : List Loc) (ls : Array Slot), va_P (dC, dI) vwCl (Wd 24 (cfR ad cI) σ) H → va_D A (Wd 24 (cfR ad cI) σ) → va_S A s.heap H locs → lv_has ls 8 [(6, .int x38.1), (4, .long x38.2), (0, .ref (ad 0)), (3, .int a3)] → W p l e (headSpec vc_X10_tellsTrace { frames := 4, cells := 0, slots := 0, locals := 103 }).room s m (List.toArray (α := Value) [.ref (ad 0), .long a1, .int a3]) below meth c H locs 0 0 (MQ below (va_Ql (fun (r : Int64) (_ : Unit) => r = o) (gB (dC, dI) A (fun (_ : Unit) => (Wd 24 (cfR ad cI) σ))) A) (List.toArray (α := Value) [.ref (ad 0), .long a1, .int a3]) s 0 0 A) (F0 m 38 ls [])) (fun y38 : Int32 × Int64 => ∀ (H : Heap) (locs : List Loc) (ls : Array Slot), va_P (dC, dI) vwCl (Wd 24 (cfR ad cI) σ) H → va_D A (Wd 24 (cfR ad cI) σ) → va_S A s.heap H locs → lv_has ls 8 [(4, .long y38.2), (0, .ref (ad 0)), (3, .int a3)] → W p l e (headSpec vc_X10_tellsTrace { frames := 4, cells := 0, slots := 0, locals := 103 }).room s m (List.toArray (α := Value) [.ref (ad 0), .long a1, .int a3]) below meth c H locs 0 0 (MQ below (va_Ql (fun (r : Int64) (_ : Unit) => r = o) (gB (dC, dI) A (fun (_ : Unit) => (Wd 24 (cfR ad cI) σ))) A) (List.toArray (α := Value) [.ref (ad 0), .long a1, .int a3]) s 0 0 A) (F0 m 67 ls [])) ?_ 1000 ((0 : Int32), y6.2) y38 hlp38 ?_ H locs ls hP hD hS (lv_sub (l' := [(6, .int (0 : Int32)), (4, .long y6.2), (0, .ref (ad 0)), (3, .int a3)]) hl [0, 1, 2, 3] rfl)
    · intro x38 yy38 h ht38 hf38 H locs ls hP hD hS hl
      unfold zl_X10_tellsTrace_38 at h
      refine lv_iload hx hb dX10_tellsTrace_38 (lv_at hl 0 rfl) ?_
      refine lv_iconst (v := 3) hx hb dX10_tellsTrace_40 (by decide) ?_
      refine lv_icmp_ge (tgt := 67) hx hb dX10_tellsTrace_41 (by decide) (fun c5 => ?_) (fun c5 => ?_)
      · replace h := ifp (c5) h
        obtain rfl := Option.some.inj h
        exact hf38 rfl H locs ls hP hD hS (lv_sub (l' := [(4, .long x38.2), (0, .ref (ad 0)), (3, .int a3)]) hl [1, 2, 3] rfl)
      · replace h := ifn (c5) h
        refine lv_ldc2 (v := 31) hx hb hown (hts (.constantLong RX10 410 (31)) (List.mem_of_getElem? (i := 1) rfl)) dX10_tellsTrace_44 ?_
        refine lv_lload hx hb dX10_tellsTrace_47 (lv_at hl 1 rfl) ?_
        refine lv_lmul hx hb dX10_tellsTrace_49 ?_
        refine lv_aload_n hx hb dX10_tellsTrace_50 rfl (lv_at hl 2 rfl) ?_
        refine lv_iload_n hx hb dX10_tellsTrace_51 rfl (lv_at hl 3 rfl) ?_
        refine lv_iload hx hb dX10_tellsTrace_52 (lv_at hl 0 rfl) ?_
        obtain ⟨r6, hc6, h⟩ := obd_inv h
        refine wcalli (S := Unit) (va_runV (As := [.int a3, .int x38.1]) (rest := [.long ((31 : Int64) * x38.2)]) ⟨hx, hb, hml, hown, hts⟩ (c_X10_checksOf l dC dI cI cT cS H.size ad  a3 x38.1 σ _ hc6) (cwV 2 hts (gWV (List.mem_of_getElem? (i := 6) rfl) (List.mem_of_getElem? (i := 7) rfl) (List.mem_of_getElem? (i := 8) rfl) (List.mem_of_getElem? (i := 5) rfl) ic_X10_tellsTrace_c_X10_checksOf gd_c_X10_checksOf) rfl rfl rfl (by decide +kernel) ⟨(Nat.le_of_ble_eq_true rfl), (Nat.le_of_ble_eq_true rfl)⟩) (wpV (q := (RX10, TX10, 46)) hP hK hD oX10 rfl) rfl rfl hl.1 rfl (lv_room (Nat.le_of_ble_eq_true rfl)) dX10_tellsTrace_54 ⟨(Nat.le_of_ble_eq_true rfl), (Nat.le_of_ble_eq_true rfl)⟩) hP hD hS hA (fun rr7 _ H locs hr7 hP hD hS => ?_)
        refine lv_nm (y := r6) hr7 ?_
        refine lv_i2l hx hb dX10_tellsTrace_57 rfl ?_
        refine lv_ladd hx hb dX10_tellsTrace_58 ?_
        obtain ⟨e8, he8, h⟩ := letb_inv h
        refine lv_nml he8 ?_
        refine lv_lstore (lv' := [(4, .long e8), (6, .int x38.1), (0, .ref (ad 0)), (3, .int a3)]) hx hb dX10_tellsTrace_59 hl (by decide) rfl (fun ls hl => ?_)
        refine lv_iinc (v := (x38.1 + (1 : Int32))) (lv' := [(6, .int (x38.1 + (1 : Int32))), (4, .long e8), (0, .ref (ad 0)), (3, .int a3)]) hx hb dX10_tellsTrace_61 hl (k := 1) rfl rfl (by decide) rfl (fun ls hl => ?_)
        refine lv_goto (tgt := 38) hx hb dX10_tellsTrace_64 (by decide) ?_
        obtain rfl := Option.some.inj h
        exact ht38 rfl H locs ls hP hD hS (lv_sub (l' := [(6, .int (x38.1 + (1 : Int32))), (4, .long e8), (0, .ref (ad 0)), (3, .int a3)]) hl [0, 1, 2, 3] rfl)
    · intro H locs ls hP hD hS hl
      refine lv_ldc2 (v := 31) hx hb hown (hts (.constantLong RX10 410 (31)) (List.mem_of_getElem? (i := 1) rfl)) dX10_tellsTrace_67 ?_
      refine lv_lload hx hb dX10_tellsTrace_70 (lv_at hl 0 rfl) ?_
      refine lv_lmul hx hb dX10_tellsTrace_72 ?_
      refine lv_aload_n hx hb dX10_tellsTrace_73 rfl (lv_at hl 1 rfl) ?_
      refine lv_iload_n hx hb dX10_tellsTrace_74 rfl (lv_at hl 2 rfl) ?_
      obtain ⟨r9, hc9, h⟩ := obd_inv h
      refine wcalli (S := Unit) (va_runV (As := [.int a3]) (rest := [.long ((31 : Int64) * y38.2)]) ⟨hx, hb, hml, hown, hts⟩ (c_X10_writesOf l dC dI cI cT cS H.size ad  a3 σ _ hc9) (cwV 1 hts (gWV (List.mem_of_getElem? (i := 9) rfl) (List.mem_of_getElem? (i := 10) rfl) (List.mem_of_getElem? (i := 11) rfl) (List.mem_of_getElem? (i := 5) rfl) ic_X10_tellsTrace_c_X10_writesOf gd_c_X10_writesOf) rfl rfl rfl (by decide +kernel) ⟨(Nat.le_of_ble_eq_true rfl), (Nat.le_of_ble_eq_true rfl)⟩) (wpV (q := (RX10, TX10, 46)) hP hK hD oX10 rfl) rfl rfl hl.1 rfl (lv_room (Nat.le_of_ble_eq_true rfl)) dX10_tellsTrace_75 ⟨(Nat.le_of_ble_eq_true rfl), (Nat.le_of_ble_eq_true rfl)⟩) hP hD hS hA (fun rr10 _ H locs hr10 hP hD hS => ?_)
      refine lv_nm (y := r9) hr10 ?_
      refine lv_i2l hx hb dX10_tellsTrace_78 rfl ?_
      refine lv_ladd hx hb dX10_tellsTrace_79 ?_
      obtain ⟨e11, he11, h⟩ := letb_inv h
      refine lv_nml he11 ?_
      refine lv_lstore (lv' := [(4, .long e11), (0, .ref (ad 0)), (3, .int a3)]) hx hb dX10_tellsTrace_80 hl (by decide) rfl (fun ls hl => ?_)
      refine lv_iconst (v := 0) hx hb dX10_tellsTrace_82 (by decide) ?_
      refine lv_istore (lv' := [(6, .int (0 : Int32)), (4, .long e11), (0, .ref (ad 0)), (3, .int a3)]) hx hb dX10_tellsTrace_83 hl (by decide) rfl (fun ls hl => ?_)
      obtain ⟨y85, hlp85, h⟩ := obd_inv h
      refine lp_W (fun x85 : Int32 × Int64 => ∀ (H : Heap) (locs : List Loc) (ls : Array Slot), va_P (dC, dI) vwCl (Wd 24 (cfR ad cI) σ) H → va_D A (Wd 24 (cfR ad cI) σ) → va_S A s.heap H locs → lv_has ls 8 [(6, .int x85.1), (4, .long x85.2), (0, .ref (ad 0)), (3, .int a3)] → W p l e (headSpec vc_X10_tellsTrace { frames := 4, cells := 0, slots := 0, locals := 103 }).room s m (List.toArray (α := Value) [.ref (ad 0), .long a1, .int a3]) below meth c H locs 0 0 (MQ below (va_Ql (fun (r : Int64) (_ : Unit) => r = o) (gB (dC, dI) A (fun (_ : Unit) => (Wd 24 (cfR ad cI) σ))) A) (List.toArray (α := Value) [.ref (ad 0), .long a1, .int a3]) s 0 0 A) (F0 m 85 ls [])) (fun y85 : Int32 × Int64 => ∀ (H : Heap) (locs : List Loc) (ls : Array Slot), va_P (dC, dI) vwCl (Wd 24 (cfR ad cI) σ) H → va_D A (Wd 24 (cfR ad cI) σ) → va_S A s.heap H locs → lv_has ls 8 [(4, .long y85.2)] → W p l e (headSpec vc_X10_tellsTrace { frames := 4, cells := 0, slots := 0, locals := 103 }).room s m (List.toArray (α := Value) [.ref (ad 0), .long a1, .int a3]) below meth c H locs 0 0 (MQ below (va_Ql (fun (r : Int64) (_ : Unit) => r = o) (gB (dC, dI) A (fun (_ : Unit) => (Wd 24 (cfR ad cI) σ))) A) (List.toArray (α := Value) [.ref (ad 0), .long a1, .int a3]) s 0 0 A) (F0 m 167 ls [])) ?_ 1000 ((0 : Int32), e11) y85 hlp85 ?_ H locs ls hP hD hS (lv_sub (l' := [(6, .int (0 : Int32)), (4, .long e11), (0, .ref (ad 0)), (3, .int a3)]) hl [0, 1, 2, 3] rfl)
      · intro x85 yy85 h ht85 hf85 H locs ls hP hD hS hl
        unfold zl_X10_tellsTrace_85 at h
        refine lv_iload hx hb dX10_tellsTrace_85 (lv_at hl 0 rfl) ?_
        refine lv_bipush (v := 16) hx hb dX10_tellsTrace_87 (by decide) ?_
        refine lv_icmp_ge (tgt := 167) hx hb dX10_tellsTrace_89 (by decide) (fun c12 => ?_) (fun c12 => ?_)
        · replace h := ifp (c12) h
          obtain rfl := Option.some.inj h
          exact hf85 rfl H locs ls hP hD hS (lv_sub (l' := [(4, .long x85.2)]) hl [1] rfl)
        · replace h := ifn (c12) h
          refine lv_iconst (v := 0) hx hb dX10_tellsTrace_92 (by decide) ?_
          refine lv_istore (lv' := [(7, .int (0 : Int32)), (6, .int x85.1), (4, .long x85.2), (0, .ref (ad 0)), (3, .int a3)]) hx hb dX10_tellsTrace_93 hl (by decide) rfl (fun ls hl => ?_)
          obtain ⟨y95, hlp95, h⟩ := obd_inv h
          refine lp_W (fun x95 : Int32 × Int64 => ∀ (H : Heap) (locs : List Loc) (ls : Array Slot), va_P (dC, dI) vwCl (Wd 24 (cfR ad cI) σ) H → va_D A (Wd 24 (cfR ad cI) σ) → va_S A s.heap H locs → lv_has ls 8 [(7, .int x95.1), (6, .int x85.1), (4, .long x95.2), (0, .ref (ad 0)), (3, .int a3)] → W p l e (headSpec vc_X10_tellsTrace { frames := 4, cells := 0, slots := 0, locals := 103 }).room s m (List.toArray (α := Value) [.ref (ad 0), .long a1, .int a3]) below meth c H locs 0 0 (MQ below (va_Ql (fun (r : Int64) (_ : Unit) => r = o) (gB (dC, dI) A (fun (_ : Unit) => (Wd 24 (cfR ad cI) σ))) A) (List.toArray (α := Value) [.ref (ad 0), .long a1, .int a3]) s 0 0 A) (F0 m 95 ls [])) (fun y95 : Int32 × Int64 => ∀ (H : Heap) (locs : List Loc) (ls : Array Slot), va_P (dC, dI) vwCl (Wd 24 (cfR ad cI) σ) H → va_D A (Wd 24 (cfR ad cI) σ) → va_S A s.heap H locs → lv_has ls 8 [(6, .int x85.1), (4, .long y95.2), (0, .ref (ad 0)), (3, .int a3)] → W p l e (headSpec vc_X10_tellsTrace { frames := 4, cells := 0, slots := 0, locals := 103 }).room s m (List.toArray (α := Value) [.ref (ad 0), .long a1, .int a3]) below meth c H locs 0 0 (MQ below (va_Ql (fun (r : Int64) (_ : Unit) => r = o) (gB (dC, dI) A (fun (_ : Unit) => (Wd 24 (cfR ad cI) σ))) A) (List.toArray (α := Value) [.ref (ad 0), .long a1, .int a3]) s 0 0 A) (F0 m 127 ls [])) ?_ 1000 ((0 : Int32), x85.2) y95 hlp95 ?_ H locs ls hP hD hS (lv_sub (l' := [(7, .int (0 : Int32)), (6, .int x85.1), (4, .long x85.2), (0, .ref (ad 0)), (3, .int a3)]) hl [0, 1, 2, 3, 4] rfl)
          · intro x95 yy95 h ht95 hf95 H locs ls hP hD hS hl
            unfold zl_X10_tellsTrace_95 at h
            refine lv_iload hx hb dX10_tellsTrace_95 (lv_at hl 0 rfl) ?_
            refine lv_bipush (v := 6) hx hb dX10_tellsTrace_97 (by decide) ?_
            refine lv_icmp_ge (tgt := 127) hx hb dX10_tellsTrace_99 (by decide) (fun c13 => ?_) (fun c13 => ?_)
            · replace h := ifp (c13) h
              obtain rfl := Option.some.inj h
              exact hf95 rfl H locs ls hP hD hS (lv_sub (l' := [(6, .int x85.1), (4, .long x95.2), (0, .ref (ad 0)), (3, .int a3)]) hl [1, 2, 3, 4] rfl)
            · replace h := ifn (c13) h
              refine lv_ldc2 (v := 31) hx hb hown (hts (.constantLong RX10 410 (31)) (List.mem_of_getElem? (i := 1) rfl)) dX10_tellsTrace_102 ?_
              refine lv_lload hx hb dX10_tellsTrace_105 (lv_at hl 2 rfl) ?_
              refine lv_lmul hx hb dX10_tellsTrace_107 ?_
              refine lv_aload_n hx hb dX10_tellsTrace_108 rfl (lv_at hl 3 rfl) ?_
              refine lv_iload_n hx hb dX10_tellsTrace_109 rfl (lv_at hl 4 rfl) ?_
              refine lv_iload hx hb dX10_tellsTrace_110 (lv_at hl 1 rfl) ?_
              refine lv_iload hx hb dX10_tellsTrace_112 (lv_at hl 0 rfl) ?_
              obtain ⟨r14, hc14, h⟩ := obd_inv h
              refine wcalli (S := Unit) (va_runV (As := [.int a3, .int x85.1, .int x95.1]) (rest := [.long ((31 : Int64) * x95.2)]) ⟨hx, hb, hml, hown, hts⟩ (c_X10_entryOf l dC dI cI cT cS H.size ad  a3 x85.1 x95.1 σ _ hc14) (cwV 3 hts (gWV (List.mem_of_getElem? (i := 12) rfl) (List.mem_of_getElem? (i := 13) rfl) (List.mem_of_getElem? (i := 14) rfl) (List.mem_of_getElem? (i := 5) rfl) ic_X10_tellsTrace_c_X10_entryOf gd_c_X10_entryOf) rfl rfl rfl (by decide +kernel) ⟨(Nat.le_of_ble_eq_true rfl), (Nat.le_of_ble_eq_true rfl)⟩) (wpV (q := (RX10, TX10, 46)) hP hK hD oX10 rfl) rfl rfl hl.1 rfl (lv_room (Nat.le_of_ble_eq_true rfl)) dX10_tellsTrace_114 ⟨(Nat.le_of_ble_eq_true rfl), (Nat.le_of_ble_eq_true rfl)⟩) hP hD hS hA (fun rr15 _ H locs hr15 hP hD hS => ?_)
              refine lv_nm (y := r14) hr15 ?_
              refine lv_i2l hx hb dX10_tellsTrace_117 rfl ?_
              refine lv_ladd hx hb dX10_tellsTrace_118 ?_
              obtain ⟨e16, he16, h⟩ := letb_inv h
              refine lv_nml he16 ?_
              refine lv_lstore (lv' := [(4, .long e16), (7, .int x95.1), (6, .int x85.1), (0, .ref (ad 0)), (3, .int a3)]) hx hb dX10_tellsTrace_119 hl (by decide) rfl (fun ls hl => ?_)
              refine lv_iinc (v := (x95.1 + (1 : Int32))) (lv' := [(7, .int (x95.1 + (1 : Int32))), (4, .long e16), (6, .int x85.1), (0, .ref (ad 0)), (3, .int a3)]) hx hb dX10_tellsTrace_121 hl (k := 1) rfl rfl (by decide) rfl (fun ls hl => ?_)
              refine lv_goto (tgt := 95) hx hb dX10_tellsTrace_124 (by decide) ?_
              obtain rfl := Option.some.inj h
              exact ht95 rfl H locs ls hP hD hS (lv_sub (l' := [(7, .int (x95.1 + (1 : Int32))), (6, .int x85.1), (4, .long e16), (0, .ref (ad 0)), (3, .int a3)]) hl [0, 2, 1, 3, 4] rfl)
          · intro H locs ls hP hD hS hl
            refine lv_iconst (v := 0) hx hb dX10_tellsTrace_127 (by decide) ?_
            refine lv_istore (lv' := [(7, .int (0 : Int32)), (6, .int x85.1), (4, .long y95.2), (0, .ref (ad 0)), (3, .int a3)]) hx hb dX10_tellsTrace_128 hl (by decide) rfl (fun ls hl => ?_)
            obtain ⟨y130, hlp130, h⟩ := obd_inv h
            refine lp_W (fun x130 : Int32 × Int64 => ∀ (H : Heap) (locs : List Loc) (ls : Array Slot), va_P (dC, dI) vwCl (Wd 24 (cfR ad cI) σ) H → va_D A (Wd 24 (cfR ad cI) σ) → va_S A s.heap H locs → lv_has ls 8 [(7, .int x130.1), (6, .int x85.1), (4, .long x130.2), (0, .ref (ad 0)), (3, .int a3)] → W p l e (headSpec vc_X10_tellsTrace { frames := 4, cells := 0, slots := 0, locals := 103 }).room s m (List.toArray (α := Value) [.ref (ad 0), .long a1, .int a3]) below meth c H locs 0 0 (MQ below (va_Ql (fun (r : Int64) (_ : Unit) => r = o) (gB (dC, dI) A (fun (_ : Unit) => (Wd 24 (cfR ad cI) σ))) A) (List.toArray (α := Value) [.ref (ad 0), .long a1, .int a3]) s 0 0 A) (F0 m 130 ls [])) (fun y130 : Int32 × Int64 => ∀ (H : Heap) (locs : List Loc) (ls : Array Slot), va_P (dC, dI) vwCl (Wd 24 (cfR ad cI) σ) H → va_D A (Wd 24 (cfR ad cI) σ) → va_S A s.heap H locs → lv_has ls 8 [(6, .int x85.1), (4, .long y130.2), (0, .ref (ad 0)), (3, .int a3)] → W p l e (headSpec vc_X10_tellsTrace { frames := 4, cells := 0, slots := 0, locals := 103 }).room s m (List.toArray (α := Value) [.ref (ad 0), .long a1, .int a3]) below meth c H locs 0 0 (MQ below (va_Ql (fun (r : Int64) (_ : Unit) => r = o) (gB (dC, dI) A (fun (_ : Unit) => (Wd 24 (cfR ad cI) σ))) A) (List.toArray (α := Value) [.ref (ad 0), .long a1, .int a3]) s 0 0 A) (F0 m 161 ls [])) ?_ 1000 ((0 : Int32), y95.2) y130 hlp130 ?_ H locs ls hP hD hS (lv_sub (l' := [(7, .int (0 : Int32)), (6, .int x85.1), (4, .long y95.2), (0, .ref (ad 0)), (3, .int a3)]) hl [0, 1, 2, 3, 4] rfl)
            · intro x130 yy130 h ht130 hf130 H locs ls hP hD hS hl
              unfold zl_X10_tellsTrace_130 at h
              refine lv_iload hx hb dX10_tellsTrace_130 (lv_at hl 0 rfl) ?_
              refine lv_iconst (v := 2) hx hb dX10_tellsTrace_132 (by decide) ?_
              refine lv_icmp_ge (tgt := 161) hx hb dX10_tellsTrace_133 (by decide) (fun c17 => ?_) (fun c17 => ?_)
              · replace h := ifp (c17) h
                obtain rfl := Option.some.inj h
                exact hf130 rfl H locs ls hP hD hS (lv_sub (l' := [(6, .int x85.1), (4, .long x130.2), (0, .ref (ad 0)), (3, .int a3)]) hl [1, 2, 3, 4] rfl)
              · replace h := ifn (c17) h
                refine lv_ldc2 (v := 31) hx hb hown (hts (.constantLong RX10 410 (31)) (List.mem_of_getElem? (i := 1) rfl)) dX10_tellsTrace_136 ?_
                refine lv_lload hx hb dX10_tellsTrace_139 (lv_at hl 2 rfl) ?_
                refine lv_lmul hx hb dX10_tellsTrace_141 ?_
                refine lv_aload_n hx hb dX10_tellsTrace_142 rfl (lv_at hl 3 rfl) ?_
                refine lv_iload_n hx hb dX10_tellsTrace_143 rfl (lv_at hl 4 rfl) ?_
                refine lv_iload hx hb dX10_tellsTrace_144 (lv_at hl 1 rfl) ?_
                refine lv_iload hx hb dX10_tellsTrace_146 (lv_at hl 0 rfl) ?_
                obtain ⟨r18, hc18, h⟩ := obd_inv h
                refine wcalli (S := Unit) (va_runV (As := [.int a3, .int x85.1, .int x130.1]) (rest := [.long ((31 : Int64) * x130.2)]) ⟨hx, hb, hml, hown, hts⟩ (c_X10_snapshotOf l dC dI cI cT cS H.size ad  a3 x85.1 x130.1 σ _ hc18) (cwV 3 hts (gWV (List.mem_of_getElem? (i := 15) rfl) (List.mem_of_getElem? (i := 16) rfl) (List.mem_of_getElem? (i := 17) rfl) (List.mem_of_getElem? (i := 5) rfl) ic_X10_tellsTrace_c_X10_snapshotOf gd_c_X10_snapshotOf) rfl rfl rfl (by decide +kernel) ⟨(Nat.le_of_ble_eq_true rfl), (Nat.le_of_ble_eq_true rfl)⟩) (wpV (q := (RX10, TX10, 46)) hP hK hD oX10 rfl) rfl rfl hl.1 rfl (lv_room (Nat.le_of_ble_eq_true rfl)) dX10_tellsTrace_148 ⟨(Nat.le_of_ble_eq_true rfl), (Nat.le_of_ble_eq_true rfl)⟩) hP hD hS hA (fun rr19 _ H locs hr19 hP hD hS => ?_)
                refine lv_nm (y := r18) hr19 ?_
                refine lv_i2l hx hb dX10_tellsTrace_151 rfl ?_
                refine lv_ladd hx hb dX10_tellsTrace_152 ?_
                obtain ⟨e20, he20, h⟩ := letb_inv h
                refine lv_nml he20 ?_
                refine lv_lstore (lv' := [(4, .long e20), (7, .int x130.1), (6, .int x85.1), (0, .ref (ad 0)), (3, .int a3)]) hx hb dX10_tellsTrace_153 hl (by decide) rfl (fun ls hl => ?_)
                refine lv_iinc (v := (x130.1 + (1 : Int32))) (lv' := [(7, .int (x130.1 + (1 : Int32))), (4, .long e20), (6, .int x85.1), (0, .ref (ad 0)), (3, .int a3)]) hx hb dX10_tellsTrace_155 hl (k := 1) rfl rfl (by decide) rfl (fun ls hl => ?_)
                refine lv_goto (tgt := 130) hx hb dX10_tellsTrace_158 (by decide) ?_
                obtain rfl := Option.some.inj h
                exact ht130 rfl H locs ls hP hD hS (lv_sub (l' := [(7, .int (x130.1 + (1 : Int32))), (6, .int x85.1), (4, .long e20), (0, .ref (ad 0)), (3, .int a3)]) hl [0, 2, 1, 3, 4] rfl)
            · intro H locs ls hP hD hS hl
              refine lv_iinc (v := (x85.1 + (1 : Int32))) (lv' := [(6, .int (x85.1 + (1 : Int32))), (4, .long y130.2), (0, .ref (ad 0)), (3, .int a3)]) hx hb dX10_tellsTrace_161 hl (k := 0) rfl rfl (by decide) rfl (fun ls hl => ?_)
              refine lv_goto (tgt := 85) hx hb dX10_tellsTrace_164 (by decide) ?_
              obtain rfl := Option.some.inj h
              exact ht85 rfl H locs ls hP hD hS (lv_sub (l' := [(6, .int (x85.1 + (1 : Int32))), (4, .long y130.2), (0, .ref (ad 0)), (3, .int a3)]) hl [0, 1, 2, 3] rfl)
      · intro H locs ls hP hD hS hl
        refine lv_lload hx hb dX10_tellsTrace_167 (lv_at hl 0 rfl) ?_
        have h9 := Option.some.inj h
        exact wretl hx hb hr hlocks hP hD hS (by show _ = _; rw [← h9]; first | done | rfl) rfl dX10_tellsTrace_169
def zl_X10_digest_253 (σ25 : Sg) (x253 : Int32 × Int64) : Option (Bool × (Int32 × Int64)) := (if (8 : Int32) ≤ x253.1 then some (false, (x253.1, x253.2)) else obd (zf_X10_tellsTrace x253.2 x253.1 σ25) (fun r37 => some (true, ((x253.1 + (1 : Int32)), r37))))
def zl_X10_digest_218 (σ25 : Sg) (x179 : Int32 × Int64) (x218 : Int32 × Int64) : Option (Bool × (Int32 × Int64)) := (if (3 : Int32) ≤ x218.1 then some (false, (x218.1, x218.2)) else obd (zf_X10_heatBy x179.1 x218.1 σ25) (fun r33 => letb (((31 : Int64) * x218.2) + (r33.toInt64)) (fun e35 => some (true, ((x218.1 + (1 : Int32)), e35)))))
def zl_X10_digest_188 (σ25 : Sg) (x179 : Int32 × Int64) (x188 : Int32 × Int64) : Option (Bool × (Int32 × Int64)) := (if (4 : Int32) ≤ x188.1 then some (false, (x188.1, x188.2)) else obd (zf_X10_code x179.1 x188.1 σ25) (fun r29 => letb (((31 : Int64) * x188.2) + (r29.toInt64)) (fun e31 => some (true, ((x188.1 + (1 : Int32)), e31)))))
def zl_X10_digest_179 (σ25 : Sg) (x179 : Int32 × Int64) : Option (Bool × (Int32 × Int64)) := (if (24 : Int32) ≤ x179.1 then some (false, (x179.1, x179.2)) else obd (lp (X := Int32 × Int64) (zl_X10_digest_188 σ25 x179) 1000 ((0 : Int32), x179.2)) (fun y188 => obd (lp (X := Int32 × Int64) (zl_X10_digest_218 σ25 x179) 1000 ((0 : Int32), y188.2)) (fun y218 => some (true, ((x179.1 + (1 : Int32)), y218.2)))))
def zl_X10_digest_95 (σ12 : Sg) (x95 : Int32 × Int64) : Option (Bool × (Int32 × Int64)) := (if (8 : Int32) ≤ x95.1 then some (false, (x95.1, x95.2)) else bd ((2 : Int32) * x95.1) 16 (letb (((31 : Int64) * x95.2) + ((σ12 23 ((2 : Int32) * x95.1).toNatClampNeg).toInt64)) (fun e16 => bd (((2 : Int32) * x95.1) + (1 : Int32)) 16 (letb (((31 : Int64) * e16) + ((σ12 23 (((2 : Int32) * x95.1) + (1 : Int32)).toNatClampNeg).toInt64)) (fun e18 => obd (zf_X10_valueBy x95.1 (0 : Int32) σ12) (fun r19 => letb (((31 : Int64) * e18) + (r19.toInt64)) (fun e21 => obd (zf_X10_valueBy x95.1 (1 : Int32) σ12) (fun r22 => letb (((31 : Int64) * e21) + (r22.toInt64)) (fun e24 => some (true, ((x95.1 + (1 : Int32)), e24)))))))))))
def zl_X10_digest_60  (x60 : Int32 × Sg) : Option (Bool × (Int32 × Sg)) := (if (16 : Int32) ≤ x60.1 then some (false, (x60.1, x60.2)) else obd (zf_X10_valueBy (x60.1 / (2 : Int32)) (x60.1 - x60.1 / (2 : Int32) * (2 : Int32)) x60.2) (fun r9 => bd x60.1 16 (some (true, ((x60.1 + (1 : Int32)), su x60.2 23 x60.1.toNatClampNeg r9)))))
def zl_X10_digest_33 (y6 : Int32 × Int64 × Sg) (x33 : Int32 × Int64) : Option (Bool × (Int32 × Int64)) := (if (6 : Int32) ≤ x33.1 then some (false, (x33.1, x33.2)) else letb (((31 : Int64) * x33.2) + ((zf_X10_endsBy x33.1 y6.2.2).toInt64)) (fun e7 => some (true, ((x33.1 + (1 : Int32)), e7))))
def zl_X10_digest_6  (x6 : Int32 × Int64 × Sg) : Option (Bool × (Int32 × Int64 × Sg)) := (if (8 : Int32) ≤ x6.1 then some (false, (x6.1, x6.2.1, x6.2.2)) else bnd (zf_X10_count x6.1 x6.2.2) (fun r2 σ2 => letb (((31 : Int64) * x6.2.1) + (r2.toInt64)) (fun e4 => some (true, ((x6.1 + (1 : Int32)), e4, σ2)))))
def zf_X10_digest (σ : Sg) : Option (Int64 × Sg) := obd (lp (X := Int32 × Int64 × Sg) zl_X10_digest_6 1000 ((0 : Int32), (17 : Int64), σ)) (fun y6 => obd (lp (X := Int32 × Int64) (zl_X10_digest_33 y6) 1000 ((0 : Int32), y6.2.1)) (fun y33 => obd (lp (X := Int32 × Sg) zl_X10_digest_60 1000 ((0 : Int32), y6.2.2)) (fun y60 => obd (zf_X10_runs (0 : Int32) y60.2) (fun σ12 => obd (lp (X := Int32 × Int64) (zl_X10_digest_95 σ12) 1000 ((0 : Int32), y33.2)) (fun y95 => obd (zf_X10_runs (σ12 0 10) σ12) (fun σ25 => obd (lp (X := Int32 × Int64) (zl_X10_digest_179 σ25) 1000 ((0 : Int32), y95.2)) (fun y179 => obd (lp (X := Int32 × Int64) (zl_X10_digest_253 σ25) 1000 ((0 : Int32), y179.2)) (fun y253 => bnd (zf_X10_betterBy (0 : Int32) σ25) (fun r39 σ39 => letb (((31 : Int64) * y253.2) + (r39.toInt64)) (fun e41 => bnd (zf_X10_betterBy (1 : Int32) σ39) (fun r42 σ42 => some ((((31 : Int64) * e41) + (r42.toInt64)), σ42))))))))))))
def oc_X10_digest : List Cond := [.constantLong RX10 412 (17), .constantLong RX10 410 (31), .methodLink RX10 414 yX10_count, .instanceMethod yX10_count, .selects RX10 yX10_count yX10_count, .initialized RX10, .methodLink RX10 350 yX10_endsBy, .instanceMethod yX10_endsBy, .selects RX10 yX10_endsBy yX10_endsBy, .fieldLink RX10 76 "TraceTreesModel" "told" "[I", .methodLink RX10 347 yX10_valueBy, .instanceMethod yX10_valueBy, .selects RX10 yX10_valueBy yX10_valueBy, .methodLink RX10 344 yX10_runs, .instanceMethod yX10_runs, .selects RX10 yX10_runs yX10_runs, .fieldLink RX10 83 "TraceTreesModel" "hot" "I", .methodLink RX10 417 yX10_code, .instanceMethod yX10_code, .selects RX10 yX10_code yX10_code, .methodLink RX10 353 yX10_heatBy, .instanceMethod yX10_heatBy, .selects RX10 yX10_heatBy yX10_heatBy, .methodLink RX10 419 yX10_tellsTrace, .instanceMethod yX10_tellsTrace, .selects RX10 yX10_tellsTrace yX10_tellsTrace, .methodLink RX10 400 yX10_betterBy, .instanceMethod yX10_betterBy, .selects RX10 yX10_betterBy yX10_betterBy]
def vc_X10_digest : List Cond := .code yX10_digest cX10_digest 5 (some .long) :: (oc_X10_digest ++ (wsX100 ++ (vc_X10_count ++ (vc_X10_endsBy ++ (vc_X10_valueBy ++ (vc_X10_runs ++ (vc_X10_code ++ (vc_X10_heatBy ++ (vc_X10_tellsTrace ++ (vc_X10_betterBy))))))))))
theorem iw_X10_digest_X10 : ∀ w ∈ wsX100, w ∈ vc_X10_digest := fun _ h => List.mem_cons_of_mem _ (List.mem_append_right _ (List.mem_append_left _ h))
theorem ic_X10_digest_c_X10_count : ∀ w ∈ vc_X10_count, w ∈ vc_X10_digest := fun _ h => List.mem_cons_of_mem _ (List.mem_append_right _ (List.mem_append_right _ (List.mem_append_left _ h)))
theorem ic_X10_digest_c_X10_endsBy : ∀ w ∈ vc_X10_endsBy, w ∈ vc_X10_digest := fun _ h => List.mem_cons_of_mem _ (List.mem_append_right _ (List.mem_append_right _ (List.mem_append_right _ (List.mem_append_left _ h))))
theorem ic_X10_digest_c_X10_valueBy : ∀ w ∈ vc_X10_valueBy, w ∈ vc_X10_digest := fun _ h => List.mem_cons_of_mem _ (List.mem_append_right _ (List.mem_append_right _ (List.mem_append_right _ (List.mem_append_right _ (List.mem_append_left _ h)))))
theorem ic_X10_digest_c_X10_runs : ∀ w ∈ vc_X10_runs, w ∈ vc_X10_digest := fun _ h => List.mem_cons_of_mem _ (List.mem_append_right _ (List.mem_append_right _ (List.mem_append_right _ (List.mem_append_right _ (List.mem_append_right _ (List.mem_append_left _ h))))))
theorem ic_X10_digest_c_X10_code : ∀ w ∈ vc_X10_code, w ∈ vc_X10_digest := fun _ h => List.mem_cons_of_mem _ (List.mem_append_right _ (List.mem_append_right _ (List.mem_append_right _ (List.mem_append_right _ (List.mem_append_right _ (List.mem_append_right _ (List.mem_append_left _ h)))))))
theorem ic_X10_digest_c_X10_heatBy : ∀ w ∈ vc_X10_heatBy, w ∈ vc_X10_digest := fun _ h => List.mem_cons_of_mem _ (List.mem_append_right _ (List.mem_append_right _ (List.mem_append_right _ (List.mem_append_right _ (List.mem_append_right _ (List.mem_append_right _ (List.mem_append_right _ (List.mem_append_left _ h))))))))
theorem ic_X10_digest_c_X10_tellsTrace : ∀ w ∈ vc_X10_tellsTrace, w ∈ vc_X10_digest := fun _ h => List.mem_cons_of_mem _ (List.mem_append_right _ (List.mem_append_right _ (List.mem_append_right _ (List.mem_append_right _ (List.mem_append_right _ (List.mem_append_right _ (List.mem_append_right _ (List.mem_append_right _ (List.mem_append_left _ h)))))))))
theorem ic_X10_digest_c_X10_betterBy : ∀ w ∈ vc_X10_betterBy, w ∈ vc_X10_digest := fun _ h => List.mem_cons_of_mem _ (List.mem_append_right _ (List.mem_append_right _ (List.mem_append_right _ (List.mem_append_right _ (List.mem_append_right _ (List.mem_append_right _ (List.mem_append_right _ (List.mem_append_right _ (List.mem_append_right _ (h))))))))))
theorem gd_c_X10_digest : (vc_X10_digest).all goodWord = true := gall_cons rfl (gall_app (by decide +kernel) (gall_app gw_X10 (gall_app gd_c_X10_count (gall_app gd_c_X10_endsBy (gall_app gd_c_X10_valueBy (gall_app gd_c_X10_runs (gall_app gd_c_X10_code (gall_app gd_c_X10_heatBy (gall_app gd_c_X10_tellsTrace gd_c_X10_betterBy)))))))))
set_option maxHeartbeats 4000000 in
set_option maxRecDepth 100000 in
theorem c_X10_digest (l : Launch) (dC : Nat → ClassId) (dI : Nat → Nat → Nat) (cI cT cS : ClassId) (sz : Nat) (ad : Nat → Nat) (σ : Sg) (o : Int64 × Sg) (h : zf_X10_digest σ = some o) : gCL (S := Unit) l yX10_digest vc_X10_digest { frames := 10, cells := 0, slots := 0, locals := 250 } (dC, dI) (gTY cI cT cS) sz [.ref (ad 0)] (Wd 24 (cfR ad cI) σ) (fun (r : Int64) (_ : Unit) => r = o.1) (fun (_ : Unit) => (Wd 24 (cfR ad cI) o.2)) 0 0 := by
  refine Met.ofW (cc := cX10_digest) (maxL := 5) (ret := (some .long)) (by decide) rfl ?_
  intro p e s m args below meth c s₁ B hml hv
  obtain ⟨rfl, hsz, hP, hK, hD0⟩ := hv
  have hx := B.exec
  have hb := B.bytes
  have hr := B.returns
  have hts := atoms_spec (ws := vc_X10_digest) B.pre
  have hown : s.vm.findClass RX10 = some m.cls := findClass_of_methodNamed B.named
  have hlocks := B.notSynchronized
  subst hsz
  have hD := hD0.self (sz := s.heap.size)
  generalize hAe : va_A (Wd 24 (cfR ad cI) σ) s.heap.size = A at hD ⊢
  have hA : ∀ q : Nat, s.heap.size ≤ q → A q := fun q h => by rw [← hAe]; exact Or.inr h
  clear hAe hD0
  refine gstart (fun H locs hHe hLe => ?_)
  have hS : va_S A s.heap H locs := by rw [← hHe, ← hLe]; exact va_S.rf
  replace hP : va_P (dC, dI) vwCl (Wd 24 (cfR ad cI) σ) H := by rw [← hHe]; exact hP
  clear hHe hLe
  have hl := lv_entry ([.ref (ad 0)]) (n := 5) (Nat.le_of_ble_eq_true rfl)
  rw [lg_entry_eq]
  generalize (lg_sl ([.ref (ad 0)]) ++ List.replicate (5 - (lg_sl ([.ref (ad 0)])).length) Slot.unset).toArray = ls at hl ⊢
  replace hl : lv_has ls 5 [(0, .ref (ad 0))] := hl
  unfold zf_X10_digest at h
  refine lv_ldc2 (v := 17) hx hb hown (hts (.constantLong RX10 412 (17)) (List.mem_of_getElem? (i := 1) rfl)) dX10_digest_0 ?_
  refine lv_lstore_n (lv' := [(1, .long (17 : Int64)), (0, .ref (ad 0))]) hx hb dX10_digest_3 rfl hl (by decide) rfl (fun ls hl => ?_)
  refine lv_iconst (v := 0) hx hb dX10_digest_4 (by decide) ?_
  refine lv_istore_n (lv' := [(3, .int (0 : Int32)), (1, .long (17 : Int64)), (0, .ref (ad 0))]) hx hb dX10_digest_5 rfl hl (by decide) rfl (fun ls hl => ?_)
  obtain ⟨y6, hlp6, h⟩ := obd_inv h
  refine lp_W (fun x6 : Int32 × Int64 × Sg => ∀ (H : Heap) (locs : List Loc) (ls : Array Slot), va_P (dC, dI) vwCl (Wd 24 (cfR ad cI) x6.2.2) H → va_D A (Wd 24 (cfR ad cI) x6.2.2) → va_S A s.heap H locs → lv_has ls 5 [(3, .int x6.1), (1, .long x6.2.1), (0, .ref (ad 0))] → W p l e (headSpec vc_X10_digest { frames := 10, cells := 0, slots := 0, locals := 250 }).room s m (List.toArray (α := Value) [.ref (ad 0)]) below meth c H locs 0 0 (MQ below (va_Ql (fun (r : Int64) (_ : Unit) => r = o.1) (gB (dC, dI) A (fun (_ : Unit) => (Wd 24 (cfR ad cI) o.2))) A) (List.toArray (α := Value) [.ref (ad 0)]) s 0 0 A) (F0 m 6 ls [])) (fun y6 : Int32 × Int64 × Sg => ∀ (H : Heap) (locs : List Loc) (ls : Array Slot), va_P (dC, dI) vwCl (Wd 24 (cfR ad cI) y6.2.2) H → va_D A (Wd 24 (cfR ad cI) y6.2.2) → va_S A s.heap H locs → lv_has ls 5 [(1, .long y6.2.1), (0, .ref (ad 0))] → W p l e (headSpec vc_X10_digest { frames := 10, cells := 0, slots := 0, locals := 250 }).room s m (List.toArray (α := Value) [.ref (ad 0)]) below meth c H locs 0 0 (MQ below (va_Ql (fun (r : Int64) (_ : Unit) => r = o.1) (gB (dC, dI) A (fun (_ : Unit) => (Wd 24 (cfR ad cI) o.2))) A) (List.toArray (α := Value) [.ref (ad 0)]) s 0 0 A) (F0 m 31 ls [])) ?_ 1000 ((0 : Int32), (17 : Int64), σ) y6 hlp6 ?_ H locs ls hP hD hS (lv_sub (l' := [(3, .int (0 : Int32)), (1, .long (17 : Int64)), (0, .ref (ad 0))]) hl [0, 1, 2] rfl)
  · intro x6 yy6 h ht6 hf6 H locs ls hP hD hS hl
    unfold zl_X10_digest_6 at h
    refine lv_iload_n hx hb dX10_digest_6 rfl (lv_at hl 0 rfl) ?_
    refine lv_bipush (v := 8) hx hb dX10_digest_7 (by decide) ?_
    refine lv_icmp_ge (tgt := 31) hx hb dX10_digest_9 (by decide) (fun c1 => ?_) (fun c1 => ?_)
    · replace h := ifp (c1) h
      obtain rfl := Option.some.inj h
      exact hf6 rfl H locs ls hP hD hS (lv_sub (l' := [(1, .long x6.2.1), (0, .ref (ad 0))]) hl [1, 2] rfl)
    · replace h := ifn (c1) h
      refine lv_ldc2 (v := 31) hx hb hown (hts (.constantLong RX10 410 (31)) (List.mem_of_getElem? (i := 2) rfl)) dX10_digest_12 ?_
      refine lv_lload_n hx hb dX10_digest_15 rfl (lv_at hl 1 rfl) ?_
      refine lv_lmul hx hb dX10_digest_16 ?_
      refine lv_aload_n hx hb dX10_digest_17 rfl (lv_at hl 2 rfl) ?_
      refine lv_iload_n hx hb dX10_digest_18 rfl (lv_at hl 0 rfl) ?_
      obtain ⟨r2, σ2, hc2, h⟩ := bnd_inv h
      refine wcalli (S := Unit) (va_runV (As := [.int x6.1]) (rest := [.long ((31 : Int64) * x6.2.1)]) ⟨hx, hb, hml, hown, hts⟩ (c_X10_count l dC dI cI cT cS H.size ad  x6.1 x6.2.2 _ hc2) (cwV 1 hts (gWV (List.mem_of_getElem? (i := 3) rfl) (List.mem_of_getElem? (i := 4) rfl) (List.mem_of_getElem? (i := 5) rfl) (List.mem_of_getElem? (i := 6) rfl) ic_X10_digest_c_X10_count gd_c_X10_count) rfl rfl rfl (by decide +kernel) ⟨(Nat.le_of_ble_eq_true rfl), (Nat.le_of_ble_eq_true rfl)⟩) (wpV (q := (RX10, TX10, 46)) hP hK hD oX10 rfl) rfl rfl hl.1 rfl (lv_room (Nat.le_of_ble_eq_true rfl)) dX10_digest_19 ⟨(Nat.le_of_ble_eq_true rfl), (Nat.le_of_ble_eq_true rfl)⟩) hP hD hS hA (fun rr3 _ H locs hr3 hP hD hS => ?_)
      replace hP : va_P (dC, dI) vwCl (Wd 24 (cfR ad cI) σ2) H := hP
      replace hD : va_D A (Wd 24 (cfR ad cI) σ2) := hD
      refine lv_nm (y := r2) hr3 ?_
      refine lv_i2l hx hb dX10_digest_22 rfl ?_
      refine lv_ladd hx hb dX10_digest_23 ?_
      obtain ⟨e4, he4, h⟩ := letb_inv h
      refine lv_nml he4 ?_
      refine lv_lstore_n (lv' := [(1, .long e4), (3, .int x6.1), (0, .ref (ad 0))]) hx hb dX10_digest_24 rfl hl (by decide) rfl (fun ls hl => ?_)
      refine lv_iinc (v := (x6.1 + (1 : Int32))) (lv' := [(3, .int (x6.1 + (1 : Int32))), (1, .long e4), (0, .ref (ad 0))]) hx hb dX10_digest_25 hl (k := 1) rfl rfl (by decide) rfl (fun ls hl => ?_)
      refine lv_goto (tgt := 6) hx hb dX10_digest_28 (by decide) ?_
      obtain rfl := Option.some.inj h
      exact ht6 rfl H locs ls hP hD hS (lv_sub (l' := [(3, .int (x6.1 + (1 : Int32))), (1, .long e4), (0, .ref (ad 0))]) hl [0, 1, 2] rfl)
  · intro H locs ls hP hD hS hl
    refine lv_iconst (v := 0) hx hb dX10_digest_31 (by decide) ?_
    refine lv_istore_n (lv' := [(3, .int (0 : Int32)), (1, .long y6.2.1), (0, .ref (ad 0))]) hx hb dX10_digest_32 rfl hl (by decide) rfl (fun ls hl => ?_)
    obtain ⟨y33, hlp33, h⟩ := obd_inv h
    refine lp_W (fun x33 : Int32 × Int64 => ∀ (H : Heap) (locs : List Loc) (ls : Array Slot), va_P (dC, dI) vwCl (Wd 24 (cfR ad cI) y6.2.2) H → va_D A (Wd 24 (cfR ad cI) y6.2.2) → va_S A s.heap H locs → lv_has ls 5 [(3, .int x33.1), (1, .long x33.2), (0, .ref (ad 0))] → W p l e (headSpec vc_X10_digest { frames := 10, cells := 0, slots := 0, locals := 250 }).room s m (List.toArray (α := Value) [.ref (ad 0)]) below meth c H locs 0 0 (MQ below (va_Ql (fun (r : Int64) (_ : Unit) => r = o.1) (gB (dC, dI) A (fun (_ : Unit) => (Wd 24 (cfR ad cI) o.2))) A) (List.toArray (α := Value) [.ref (ad 0)]) s 0 0 A) (F0 m 33 ls [])) (fun y33 : Int32 × Int64 => ∀ (H : Heap) (locs : List Loc) (ls : Array Slot), va_P (dC, dI) vwCl (Wd 24 (cfR ad cI) y6.2.2) H → va_D A (Wd 24 (cfR ad cI) y6.2.2) → va_S A s.heap H locs → lv_has ls 5 [(1, .long y33.2), (0, .ref (ad 0))] → W p l e (headSpec vc_X10_digest { frames := 10, cells := 0, slots := 0, locals := 250 }).room s m (List.toArray (α := Value) [.ref (ad 0)]) below meth c H locs 0 0 (MQ below (va_Ql (fun (r : Int64) (_ : Unit) => r = o.1) (gB (dC, dI) A (fun (_ : Unit) => (Wd 24 (cfR ad cI) o.2))) A) (List.toArray (α := Value) [.ref (ad 0)]) s 0 0 A) (F0 m 58 ls [])) ?_ 1000 ((0 : Int32), y6.2.1) y33 hlp33 ?_ H locs ls hP hD hS (lv_sub (l' := [(3, .int (0 : Int32)), (1, .long y6.2.1), (0, .ref (ad 0))]) hl [0, 1, 2] rfl)
    · intro x33 yy33 h ht33 hf33 H locs ls hP hD hS hl
      unfold zl_X10_digest_33 at h
      refine lv_iload_n hx hb dX10_digest_33 rfl (lv_at hl 0 rfl) ?_
      refine lv_bipush (v := 6) hx hb dX10_digest_34 (by decide) ?_
      refine lv_icmp_ge (tgt := 58) hx hb dX10_digest_36 (by decide) (fun c5 => ?_) (fun c5 => ?_)
      · replace h := ifp (c5) h
        obtain rfl := Option.some.inj h
        exact hf33 rfl H locs ls hP hD hS (lv_sub (l' := [(1, .long x33.2), (0, .ref (ad 0))]) hl [1, 2] rfl)
      · replace h := ifn (c5) h
        refine lv_ldc2 (v := 31) hx hb hown (hts (.constantLong RX10 410 (31)) (List.mem_of_getElem? (i := 2) rfl)) dX10_digest_39 ?_
        refine lv_lload_n hx hb dX10_digest_42 rfl (lv_at hl 1 rfl) ?_
        refine lv_lmul hx hb dX10_digest_43 ?_
        refine lv_aload_n hx hb dX10_digest_44 rfl (lv_at hl 2 rfl) ?_
        refine lv_iload_n hx hb dX10_digest_45 rfl (lv_at hl 0 rfl) ?_
        refine wcalli (S := Unit) (va_runV (As := [.int x33.1]) (rest := [.long ((31 : Int64) * x33.2)]) ⟨hx, hb, hml, hown, hts⟩ (c_X10_endsBy l dC dI cI cT cS H.size ad  x33.1 y6.2.2 _ rfl) (cwV 1 hts (gWV (List.mem_of_getElem? (i := 7) rfl) (List.mem_of_getElem? (i := 8) rfl) (List.mem_of_getElem? (i := 9) rfl) (List.mem_of_getElem? (i := 6) rfl) ic_X10_digest_c_X10_endsBy gd_c_X10_endsBy) rfl rfl rfl (by decide +kernel) ⟨(Nat.le_of_ble_eq_true rfl), (Nat.le_of_ble_eq_true rfl)⟩) (wpV (q := (RX10, TX10, 46)) hP hK hD oX10 rfl) rfl rfl hl.1 rfl (lv_room (Nat.le_of_ble_eq_true rfl)) dX10_digest_46 ⟨(Nat.le_of_ble_eq_true rfl), (Nat.le_of_ble_eq_true rfl)⟩) hP hD hS hA (fun rr6 _ H locs hr6 hP hD hS => ?_)
        refine lv_nm (y := (zf_X10_endsBy x33.1 y6.2.2)) hr6 ?_
        refine lv_i2l hx hb dX10_digest_49 rfl ?_
        refine lv_ladd hx hb dX10_digest_50 ?_
        obtain ⟨e7, he7, h⟩ := letb_inv h
        refine lv_nml he7 ?_
        refine lv_lstore_n (lv' := [(1, .long e7), (3, .int x33.1), (0, .ref (ad 0))]) hx hb dX10_digest_51 rfl hl (by decide) rfl (fun ls hl => ?_)
        refine lv_iinc (v := (x33.1 + (1 : Int32))) (lv' := [(3, .int (x33.1 + (1 : Int32))), (1, .long e7), (0, .ref (ad 0))]) hx hb dX10_digest_52 hl (k := 1) rfl rfl (by decide) rfl (fun ls hl => ?_)
        refine lv_goto (tgt := 33) hx hb dX10_digest_55 (by decide) ?_
        obtain rfl := Option.some.inj h
        exact ht33 rfl H locs ls hP hD hS (lv_sub (l' := [(3, .int (x33.1 + (1 : Int32))), (1, .long e7), (0, .ref (ad 0))]) hl [0, 1, 2] rfl)
    · intro H locs ls hP hD hS hl
      refine lv_iconst (v := 0) hx hb dX10_digest_58 (by decide) ?_
      refine lv_istore_n (lv' := [(3, .int (0 : Int32)), (1, .long y33.2), (0, .ref (ad 0))]) hx hb dX10_digest_59 rfl hl (by decide) rfl (fun ls hl => ?_)
      obtain ⟨y60, hlp60, h⟩ := obd_inv h
      refine lp_W (fun x60 : Int32 × Sg => ∀ (H : Heap) (locs : List Loc) (ls : Array Slot), va_P (dC, dI) vwCl (Wd 24 (cfR ad cI) x60.2) H → va_D A (Wd 24 (cfR ad cI) x60.2) → va_S A s.heap H locs → lv_has ls 5 [(3, .int x60.1), (1, .long y33.2), (0, .ref (ad 0))] → W p l e (headSpec vc_X10_digest { frames := 10, cells := 0, slots := 0, locals := 250 }).room s m (List.toArray (α := Value) [.ref (ad 0)]) below meth c H locs 0 0 (MQ below (va_Ql (fun (r : Int64) (_ : Unit) => r = o.1) (gB (dC, dI) A (fun (_ : Unit) => (Wd 24 (cfR ad cI) o.2))) A) (List.toArray (α := Value) [.ref (ad 0)]) s 0 0 A) (F0 m 60 ls [])) (fun y60 : Int32 × Sg => ∀ (H : Heap) (locs : List Loc) (ls : Array Slot), va_P (dC, dI) vwCl (Wd 24 (cfR ad cI) y60.2) H → va_D A (Wd 24 (cfR ad cI) y60.2) → va_S A s.heap H locs → lv_has ls 5 [(1, .long y33.2), (0, .ref (ad 0))] → W p l e (headSpec vc_X10_digest { frames := 10, cells := 0, slots := 0, locals := 250 }).room s m (List.toArray (α := Value) [.ref (ad 0)]) below meth c H locs 0 0 (MQ below (va_Ql (fun (r : Int64) (_ : Unit) => r = o.1) (gB (dC, dI) A (fun (_ : Unit) => (Wd 24 (cfR ad cI) o.2))) A) (List.toArray (α := Value) [.ref (ad 0)]) s 0 0 A) (F0 m 88 ls [])) ?_ 1000 ((0 : Int32), y6.2.2) y60 hlp60 ?_ H locs ls hP hD hS (lv_sub (l' := [(3, .int (0 : Int32)), (1, .long y33.2), (0, .ref (ad 0))]) hl [0, 1, 2] rfl)
      · intro x60 yy60 h ht60 hf60 H locs ls hP hD hS hl
        unfold zl_X10_digest_60 at h
        refine lv_iload_n hx hb dX10_digest_60 rfl (lv_at hl 0 rfl) ?_
        refine lv_bipush (v := 16) hx hb dX10_digest_61 (by decide) ?_
        refine lv_icmp_ge (tgt := 88) hx hb dX10_digest_63 (by decide) (fun c8 => ?_) (fun c8 => ?_)
        · replace h := ifp (c8) h
          obtain rfl := Option.some.inj h
          exact hf60 rfl H locs ls hP hD hS (lv_sub (l' := [(1, .long y33.2), (0, .ref (ad 0))]) hl [1, 2] rfl)
        · replace h := ifn (c8) h
          refine lv_aload_n hx hb dX10_digest_66 rfl (lv_at hl 2 rfl) ?_
          refine gf_X10_45 hx hb hts iw_X10_digest_X10 hown hK hP (hts (.fieldLink RX10 76 "TraceTreesModel" "told" "[I") (List.mem_of_getElem? (i := 10) rfl)) dX10_digest_67 ?_
          refine lv_iload_n hx hb dX10_digest_70 rfl (lv_at hl 0 rfl) ?_
          refine lv_aload_n hx hb dX10_digest_71 rfl (lv_at hl 2 rfl) ?_
          refine lv_iload_n hx hb dX10_digest_72 rfl (lv_at hl 0 rfl) ?_
          refine lv_iconst (v := 2) hx hb dX10_digest_73 (by decide) ?_
          refine lv_idiv hx hb dX10_digest_74 (by decide) ?_
          refine lv_iload_n hx hb dX10_digest_75 rfl (lv_at hl 0 rfl) ?_
          refine lv_iconst (v := 2) hx hb dX10_digest_76 (by decide) ?_
          refine lv_irem hx hb dX10_digest_77 (by decide) ?_
          obtain ⟨r9, hc9, h⟩ := obd_inv h
          refine wcalli (S := Unit) (va_runV (As := [.int (x60.1 / (2 : Int32)), .int (x60.1 - x60.1 / (2 : Int32) * (2 : Int32))]) (rest := [.int x60.1, .ref (ad 23)]) ⟨hx, hb, hml, hown, hts⟩ (c_X10_valueBy l dC dI cI cT cS H.size ad  (x60.1 / (2 : Int32)) (x60.1 - x60.1 / (2 : Int32) * (2 : Int32)) x60.2 _ hc9) (cwV 2 hts (gWV (List.mem_of_getElem? (i := 11) rfl) (List.mem_of_getElem? (i := 12) rfl) (List.mem_of_getElem? (i := 13) rfl) (List.mem_of_getElem? (i := 6) rfl) ic_X10_digest_c_X10_valueBy gd_c_X10_valueBy) rfl rfl rfl (by decide +kernel) ⟨(Nat.le_of_ble_eq_true rfl), (Nat.le_of_ble_eq_true rfl)⟩) (wpV (q := (RX10, TX10, 46)) hP hK hD oX10 rfl) rfl rfl hl.1 rfl (lv_room (Nat.le_of_ble_eq_true rfl)) dX10_digest_78 ⟨(Nat.le_of_ble_eq_true rfl), (Nat.le_of_ble_eq_true rfl)⟩) hP hD hS hA (fun rr10 _ H locs hr10 hP hD hS => ?_)
          refine lv_nm (y := r9) hr10 ?_
          obtain ⟨hi11, h⟩ := bd_inv h
          refine wast hx hb hK hP hD hS aR23 hi11 dX10_digest_81 (fun H locs hP hD hS => ?_)
          refine lv_iinc (v := (x60.1 + (1 : Int32))) (lv' := [(3, .int (x60.1 + (1 : Int32))), (1, .long y33.2), (0, .ref (ad 0))]) hx hb dX10_digest_82 hl (k := 0) rfl rfl (by decide) rfl (fun ls hl => ?_)
          refine lv_goto (tgt := 60) hx hb dX10_digest_85 (by decide) ?_
          obtain rfl := Option.some.inj h
          exact ht60 rfl H locs ls hP hD hS (lv_sub (l' := [(3, .int (x60.1 + (1 : Int32))), (1, .long y33.2), (0, .ref (ad 0))]) hl [0, 1, 2] rfl)
      · intro H locs ls hP hD hS hl
        refine lv_aload_n hx hb dX10_digest_88 rfl (lv_at hl 1 rfl) ?_
        refine lv_iconst (v := 0) hx hb dX10_digest_89 (by decide) ?_
        obtain ⟨σ12, hc12, h⟩ := obd_inv h
        refine wcallv (S := Unit) (va_runV (As := [.int (0 : Int32)]) (rest := []) ⟨hx, hb, hml, hown, hts⟩ (c_X10_runs l dC dI cI cT cS H.size ad  (0 : Int32) y60.2 _ hc12) (cwV 1 hts (gWV (List.mem_of_getElem? (i := 14) rfl) (List.mem_of_getElem? (i := 15) rfl) (List.mem_of_getElem? (i := 16) rfl) (List.mem_of_getElem? (i := 6) rfl) ic_X10_digest_c_X10_runs gd_c_X10_runs) rfl rfl rfl (by decide +kernel) ⟨(Nat.le_of_ble_eq_true rfl), (Nat.le_of_ble_eq_true rfl)⟩) (wpV (q := (RX10, TX10, 46)) hP hK hD oX10 rfl) rfl rfl hl.1 rfl (lv_room (Nat.le_of_ble_eq_true rfl)) dX10_digest_90 ⟨(Nat.le_of_ble_eq_true rfl), (Nat.le_of_ble_eq_true rfl)⟩) hP hD hS hA (fun _ H locs hr13 hP hD hS => ?_)
        replace hP : va_P (dC, dI) vwCl (Wd 24 (cfR ad cI) σ12) H := hP
        replace hD : va_D A (Wd 24 (cfR ad cI) σ12) := hD
        refine lv_iconst (v := 0) hx hb dX10_digest_93 (by decide) ?_
        refine lv_istore_n (lv' := [(3, .int (0 : Int32)), (1, .long y33.2), (0, .ref (ad 0))]) hx hb dX10_digest_94 rfl hl (by decide) rfl (fun ls hl => ?_)
        obtain ⟨y95, hlp95, h⟩ := obd_inv h
        refine lp_W (fun x95 : Int32 × Int64 => ∀ (H : Heap) (locs : List Loc) (ls : Array Slot), va_P (dC, dI) vwCl (Wd 24 (cfR ad cI) σ12) H → va_D A (Wd 24 (cfR ad cI) σ12) → va_S A s.heap H locs → lv_has ls 5 [(3, .int x95.1), (1, .long x95.2), (0, .ref (ad 0))] → W p l e (headSpec vc_X10_digest { frames := 10, cells := 0, slots := 0, locals := 250 }).room s m (List.toArray (α := Value) [.ref (ad 0)]) below meth c H locs 0 0 (MQ below (va_Ql (fun (r : Int64) (_ : Unit) => r = o.1) (gB (dC, dI) A (fun (_ : Unit) => (Wd 24 (cfR ad cI) o.2))) A) (List.toArray (α := Value) [.ref (ad 0)]) s 0 0 A) (F0 m 95 ls [])) (fun y95 : Int32 × Int64 => ∀ (H : Heap) (locs : List Loc) (ls : Array Slot), va_P (dC, dI) vwCl (Wd 24 (cfR ad cI) σ12) H → va_D A (Wd 24 (cfR ad cI) σ12) → va_S A s.heap H locs → lv_has ls 5 [(1, .long y95.2), (0, .ref (ad 0))] → W p l e (headSpec vc_X10_digest { frames := 10, cells := 0, slots := 0, locals := 250 }).room s m (List.toArray (α := Value) [.ref (ad 0)]) below meth c H locs 0 0 (MQ below (va_Ql (fun (r : Int64) (_ : Unit) => r = o.1) (gB (dC, dI) A (fun (_ : Unit) => (Wd 24 (cfR ad cI) o.2))) A) (List.toArray (α := Value) [.ref (ad 0)]) s 0 0 A) (F0 m 169 ls [])) ?_ 1000 ((0 : Int32), y33.2) y95 hlp95 ?_ H locs ls hP hD hS (lv_sub (l' := [(3, .int (0 : Int32)), (1, .long y33.2), (0, .ref (ad 0))]) hl [0, 1, 2] rfl)
        · intro x95 yy95 h ht95 hf95 H locs ls hP hD hS hl
          unfold zl_X10_digest_95 at h
          refine lv_iload_n hx hb dX10_digest_95 rfl (lv_at hl 0 rfl) ?_
          refine lv_bipush (v := 8) hx hb dX10_digest_96 (by decide) ?_
          refine lv_icmp_ge (tgt := 169) hx hb dX10_digest_98 (by decide) (fun c14 => ?_) (fun c14 => ?_)
          · replace h := ifp (c14) h
            obtain rfl := Option.some.inj h
            exact hf95 rfl H locs ls hP hD hS (lv_sub (l' := [(1, .long x95.2), (0, .ref (ad 0))]) hl [1, 2] rfl)
          · replace h := ifn (c14) h
            refine lv_ldc2 (v := 31) hx hb hown (hts (.constantLong RX10 410 (31)) (List.mem_of_getElem? (i := 2) rfl)) dX10_digest_101 ?_
            refine lv_lload_n hx hb dX10_digest_104 rfl (lv_at hl 1 rfl) ?_
            refine lv_lmul hx hb dX10_digest_105 ?_
            refine lv_aload_n hx hb dX10_digest_106 rfl (lv_at hl 2 rfl) ?_
            refine gf_X10_45 hx hb hts iw_X10_digest_X10 hown hK hP (hts (.fieldLink RX10 76 "TraceTreesModel" "told" "[I") (List.mem_of_getElem? (i := 10) rfl)) dX10_digest_107 ?_
            refine lv_iconst (v := 2) hx hb dX10_digest_110 (by decide) ?_
            refine lv_iload_n hx hb dX10_digest_111 rfl (lv_at hl 0 rfl) ?_
            refine lv_imul hx hb dX10_digest_112 ?_
            obtain ⟨hi15, h⟩ := bd_inv h
            refine wald hx hb hK hP aR23 hi15 dX10_digest_113 ?_
            refine lv_i2l hx hb dX10_digest_114 rfl ?_
            refine lv_ladd hx hb dX10_digest_115 ?_
            obtain ⟨e16, he16, h⟩ := letb_inv h
            refine lv_nml he16 ?_
            refine lv_lstore_n (lv' := [(1, .long e16), (3, .int x95.1), (0, .ref (ad 0))]) hx hb dX10_digest_116 rfl hl (by decide) rfl (fun ls hl => ?_)
            refine lv_ldc2 (v := 31) hx hb hown (hts (.constantLong RX10 410 (31)) (List.mem_of_getElem? (i := 2) rfl)) dX10_digest_117 ?_
            refine lv_lload_n hx hb dX10_digest_120 rfl (lv_at hl 0 rfl) ?_
            refine lv_lmul hx hb dX10_digest_121 ?_
            refine lv_aload_n hx hb dX10_digest_122 rfl (lv_at hl 2 rfl) ?_
            refine gf_X10_45 hx hb hts iw_X10_digest_X10 hown hK hP (hts (.fieldLink RX10 76 "TraceTreesModel" "told" "[I") (List.mem_of_getElem? (i := 10) rfl)) dX10_digest_123 ?_
            refine lv_iconst (v := 2) hx hb dX10_digest_126 (by decide) ?_
            refine lv_iload_n hx hb dX10_digest_127 rfl (lv_at hl 1 rfl) ?_
            refine lv_imul hx hb dX10_digest_128 ?_
            refine lv_iconst (v := 1) hx hb dX10_digest_129 (by decide) ?_
            refine lv_iadd hx hb dX10_digest_130 ?_
            obtain ⟨hi17, h⟩ := bd_inv h
            refine wald hx hb hK hP aR23 hi17 dX10_digest_131 ?_
            refine lv_i2l hx hb dX10_digest_132 rfl ?_
            refine lv_ladd hx hb dX10_digest_133 ?_
            obtain ⟨e18, he18, h⟩ := letb_inv h
            refine lv_nml he18 ?_
            refine lv_lstore_n (lv' := [(1, .long e18), (3, .int x95.1), (0, .ref (ad 0))]) hx hb dX10_digest_134 rfl hl (by decide) rfl (fun ls hl => ?_)
            refine lv_ldc2 (v := 31) hx hb hown (hts (.constantLong RX10 410 (31)) (List.mem_of_getElem? (i := 2) rfl)) dX10_digest_135 ?_
            refine lv_lload_n hx hb dX10_digest_138 rfl (lv_at hl 0 rfl) ?_
            refine lv_lmul hx hb dX10_digest_139 ?_
            refine lv_aload_n hx hb dX10_digest_140 rfl (lv_at hl 2 rfl) ?_
            refine lv_iload_n hx hb dX10_digest_141 rfl (lv_at hl 1 rfl) ?_
            refine lv_iconst (v := 0) hx hb dX10_digest_142 (by decide) ?_
            obtain ⟨r19, hc19, h⟩ := obd_inv h
            refine wcalli (S := Unit) (va_runV (As := [.int x95.1, .int (0 : Int32)]) (rest := [.long ((31 : Int64) * e18)]) ⟨hx, hb, hml, hown, hts⟩ (c_X10_valueBy l dC dI cI cT cS H.size ad  x95.1 (0 : Int32) σ12 _ hc19) (cwV 2 hts (gWV (List.mem_of_getElem? (i := 11) rfl) (List.mem_of_getElem? (i := 12) rfl) (List.mem_of_getElem? (i := 13) rfl) (List.mem_of_getElem? (i := 6) rfl) ic_X10_digest_c_X10_valueBy gd_c_X10_valueBy) rfl rfl rfl (by decide +kernel) ⟨(Nat.le_of_ble_eq_true rfl), (Nat.le_of_ble_eq_true rfl)⟩) (wpV (q := (RX10, TX10, 46)) hP hK hD oX10 rfl) rfl rfl hl.1 rfl (lv_room (Nat.le_of_ble_eq_true rfl)) dX10_digest_143 ⟨(Nat.le_of_ble_eq_true rfl), (Nat.le_of_ble_eq_true rfl)⟩) hP hD hS hA (fun rr20 _ H locs hr20 hP hD hS => ?_)
            refine lv_nm (y := r19) hr20 ?_
            refine lv_i2l hx hb dX10_digest_146 rfl ?_
            refine lv_ladd hx hb dX10_digest_147 ?_
            obtain ⟨e21, he21, h⟩ := letb_inv h
            refine lv_nml he21 ?_
            refine lv_lstore_n (lv' := [(1, .long e21), (3, .int x95.1), (0, .ref (ad 0))]) hx hb dX10_digest_148 rfl hl (by decide) rfl (fun ls hl => ?_)
            refine lv_ldc2 (v := 31) hx hb hown (hts (.constantLong RX10 410 (31)) (List.mem_of_getElem? (i := 2) rfl)) dX10_digest_149 ?_
            refine lv_lload_n hx hb dX10_digest_152 rfl (lv_at hl 0 rfl) ?_
            refine lv_lmul hx hb dX10_digest_153 ?_
            refine lv_aload_n hx hb dX10_digest_154 rfl (lv_at hl 2 rfl) ?_
            refine lv_iload_n hx hb dX10_digest_155 rfl (lv_at hl 1 rfl) ?_
            refine lv_iconst (v := 1) hx hb dX10_digest_156 (by decide) ?_
            obtain ⟨r22, hc22, h⟩ := obd_inv h
            refine wcalli (S := Unit) (va_runV (As := [.int x95.1, .int (1 : Int32)]) (rest := [.long ((31 : Int64) * e21)]) ⟨hx, hb, hml, hown, hts⟩ (c_X10_valueBy l dC dI cI cT cS H.size ad  x95.1 (1 : Int32) σ12 _ hc22) (cwV 2 hts (gWV (List.mem_of_getElem? (i := 11) rfl) (List.mem_of_getElem? (i := 12) rfl) (List.mem_of_getElem? (i := 13) rfl) (List.mem_of_getElem? (i := 6) rfl) ic_X10_digest_c_X10_valueBy gd_c_X10_valueBy) rfl rfl rfl (by decide +kernel) ⟨(Nat.le_of_ble_eq_true rfl), (Nat.le_of_ble_eq_true rfl)⟩) (wpV (q := (RX10, TX10, 46)) hP hK hD oX10 rfl) rfl rfl hl.1 rfl (lv_room (Nat.le_of_ble_eq_true rfl)) dX10_digest_157 ⟨(Nat.le_of_ble_eq_true rfl), (Nat.le_of_ble_eq_true rfl)⟩) hP hD hS hA (fun rr23 _ H locs hr23 hP hD hS => ?_)
            refine lv_nm (y := r22) hr23 ?_
            refine lv_i2l hx hb dX10_digest_160 rfl ?_
            refine lv_ladd hx hb dX10_digest_161 ?_
            obtain ⟨e24, he24, h⟩ := letb_inv h
            refine lv_nml he24 ?_
            refine lv_lstore_n (lv' := [(1, .long e24), (3, .int x95.1), (0, .ref (ad 0))]) hx hb dX10_digest_162 rfl hl (by decide) rfl (fun ls hl => ?_)
            refine lv_iinc (v := (x95.1 + (1 : Int32))) (lv' := [(3, .int (x95.1 + (1 : Int32))), (1, .long e24), (0, .ref (ad 0))]) hx hb dX10_digest_163 hl (k := 1) rfl rfl (by decide) rfl (fun ls hl => ?_)
            refine lv_goto (tgt := 95) hx hb dX10_digest_166 (by decide) ?_
            obtain rfl := Option.some.inj h
            exact ht95 rfl H locs ls hP hD hS (lv_sub (l' := [(3, .int (x95.1 + (1 : Int32))), (1, .long e24), (0, .ref (ad 0))]) hl [0, 1, 2] rfl)
        · intro H locs ls hP hD hS hl
          refine lv_aload_n hx hb dX10_digest_169 rfl (lv_at hl 1 rfl) ?_
          refine lv_aload_n hx hb dX10_digest_170 rfl (lv_at hl 1 rfl) ?_
          refine gf_X10_10 hx hb hts iw_X10_digest_X10 hown hK hP (hts (.fieldLink RX10 83 "TraceTreesModel" "hot" "I") (List.mem_of_getElem? (i := 17) rfl)) dX10_digest_171 ?_
          obtain ⟨σ25, hc25, h⟩ := obd_inv h
          refine wcallv (S := Unit) (va_runV (As := [.int (σ12 0 10)]) (rest := []) ⟨hx, hb, hml, hown, hts⟩ (c_X10_runs l dC dI cI cT cS H.size ad  (σ12 0 10) σ12 _ hc25) (cwV 1 hts (gWV (List.mem_of_getElem? (i := 14) rfl) (List.mem_of_getElem? (i := 15) rfl) (List.mem_of_getElem? (i := 16) rfl) (List.mem_of_getElem? (i := 6) rfl) ic_X10_digest_c_X10_runs gd_c_X10_runs) rfl rfl rfl (by decide +kernel) ⟨(Nat.le_of_ble_eq_true rfl), (Nat.le_of_ble_eq_true rfl)⟩) (wpV (q := (RX10, TX10, 46)) hP hK hD oX10 rfl) rfl rfl hl.1 rfl (lv_room (Nat.le_of_ble_eq_true rfl)) dX10_digest_174 ⟨(Nat.le_of_ble_eq_true rfl), (Nat.le_of_ble_eq_true rfl)⟩) hP hD hS hA (fun _ H locs hr26 hP hD hS => ?_)
          replace hP : va_P (dC, dI) vwCl (Wd 24 (cfR ad cI) σ25) H := hP
          replace hD : va_D A (Wd 24 (cfR ad cI) σ25) := hD
          refine lv_iconst (v := 0) hx hb dX10_digest_177 (by decide) ?_
          refine lv_istore_n (lv' := [(3, .int (0 : Int32)), (1, .long y95.2), (0, .ref (ad 0))]) hx hb dX10_digest_178 rfl hl (by decide) rfl (fun ls hl => ?_)
          obtain ⟨y179, hlp179, h⟩ := obd_inv h
          refine lp_W (fun x179 : Int32 × Int64 => ∀ (H : Heap) (locs : List Loc) (ls : Array Slot), va_P (dC, dI) vwCl (Wd 24 (cfR ad cI) σ25) H → va_D A (Wd 24 (cfR ad cI) σ25) → va_S A s.heap H locs → lv_has ls 5 [(3, .int x179.1), (1, .long x179.2), (0, .ref (ad 0))] → W p l e (headSpec vc_X10_digest { frames := 10, cells := 0, slots := 0, locals := 250 }).room s m (List.toArray (α := Value) [.ref (ad 0)]) below meth c H locs 0 0 (MQ below (va_Ql (fun (r : Int64) (_ : Unit) => r = o.1) (gB (dC, dI) A (fun (_ : Unit) => (Wd 24 (cfR ad cI) o.2))) A) (List.toArray (α := Value) [.ref (ad 0)]) s 0 0 A) (F0 m 179 ls [])) (fun y179 : Int32 × Int64 => ∀ (H : Heap) (locs : List Loc) (ls : Array Slot), va_P (dC, dI) vwCl (Wd 24 (cfR ad cI) σ25) H → va_D A (Wd 24 (cfR ad cI) σ25) → va_S A s.heap H locs → lv_has ls 5 [(1, .long y179.2), (0, .ref (ad 0))] → W p l e (headSpec vc_X10_digest { frames := 10, cells := 0, slots := 0, locals := 250 }).room s m (List.toArray (α := Value) [.ref (ad 0)]) below meth c H locs 0 0 (MQ below (va_Ql (fun (r : Int64) (_ : Unit) => r = o.1) (gB (dC, dI) A (fun (_ : Unit) => (Wd 24 (cfR ad cI) o.2))) A) (List.toArray (α := Value) [.ref (ad 0)]) s 0 0 A) (F0 m 251 ls [])) ?_ 1000 ((0 : Int32), y95.2) y179 hlp179 ?_ H locs ls hP hD hS (lv_sub (l' := [(3, .int (0 : Int32)), (1, .long y95.2), (0, .ref (ad 0))]) hl [0, 1, 2] rfl)
          · intro x179 yy179 h ht179 hf179 H locs ls hP hD hS hl
            unfold zl_X10_digest_179 at h
            refine lv_iload_n hx hb dX10_digest_179 rfl (lv_at hl 0 rfl) ?_
            refine lv_bipush (v := 24) hx hb dX10_digest_180 (by decide) ?_
            refine lv_icmp_ge (tgt := 251) hx hb dX10_digest_182 (by decide) (fun c27 => ?_) (fun c27 => ?_)
            · replace h := ifp (c27) h
              obtain rfl := Option.some.inj h
              exact hf179 rfl H locs ls hP hD hS (lv_sub (l' := [(1, .long x179.2), (0, .ref (ad 0))]) hl [1, 2] rfl)
            · replace h := ifn (c27) h
              refine lv_iconst (v := 0) hx hb dX10_digest_185 (by decide) ?_
              refine lv_istore (lv' := [(4, .int (0 : Int32)), (3, .int x179.1), (1, .long x179.2), (0, .ref (ad 0))]) hx hb dX10_digest_186 hl (by decide) rfl (fun ls hl => ?_)
              obtain ⟨y188, hlp188, h⟩ := obd_inv h
              refine lp_W (fun x188 : Int32 × Int64 => ∀ (H : Heap) (locs : List Loc) (ls : Array Slot), va_P (dC, dI) vwCl (Wd 24 (cfR ad cI) σ25) H → va_D A (Wd 24 (cfR ad cI) σ25) → va_S A s.heap H locs → lv_has ls 5 [(4, .int x188.1), (3, .int x179.1), (1, .long x188.2), (0, .ref (ad 0))] → W p l e (headSpec vc_X10_digest { frames := 10, cells := 0, slots := 0, locals := 250 }).room s m (List.toArray (α := Value) [.ref (ad 0)]) below meth c H locs 0 0 (MQ below (va_Ql (fun (r : Int64) (_ : Unit) => r = o.1) (gB (dC, dI) A (fun (_ : Unit) => (Wd 24 (cfR ad cI) o.2))) A) (List.toArray (α := Value) [.ref (ad 0)]) s 0 0 A) (F0 m 188 ls [])) (fun y188 : Int32 × Int64 => ∀ (H : Heap) (locs : List Loc) (ls : Array Slot), va_P (dC, dI) vwCl (Wd 24 (cfR ad cI) σ25) H → va_D A (Wd 24 (cfR ad cI) σ25) → va_S A s.heap H locs → lv_has ls 5 [(3, .int x179.1), (1, .long y188.2), (0, .ref (ad 0))] → W p l e (headSpec vc_X10_digest { frames := 10, cells := 0, slots := 0, locals := 250 }).room s m (List.toArray (α := Value) [.ref (ad 0)]) below meth c H locs 0 0 (MQ below (va_Ql (fun (r : Int64) (_ : Unit) => r = o.1) (gB (dC, dI) A (fun (_ : Unit) => (Wd 24 (cfR ad cI) o.2))) A) (List.toArray (α := Value) [.ref (ad 0)]) s 0 0 A) (F0 m 215 ls [])) ?_ 1000 ((0 : Int32), x179.2) y188 hlp188 ?_ H locs ls hP hD hS (lv_sub (l' := [(4, .int (0 : Int32)), (3, .int x179.1), (1, .long x179.2), (0, .ref (ad 0))]) hl [0, 1, 2, 3] rfl)
              · intro x188 yy188 h ht188 hf188 H locs ls hP hD hS hl
                unfold zl_X10_digest_188 at h
                refine lv_iload hx hb dX10_digest_188 (lv_at hl 0 rfl) ?_
                refine lv_iconst (v := 4) hx hb dX10_digest_190 (by decide) ?_
                refine lv_icmp_ge (tgt := 215) hx hb dX10_digest_191 (by decide) (fun c28 => ?_) (fun c28 => ?_)
                · replace h := ifp (c28) h
                  obtain rfl := Option.some.inj h
                  exact hf188 rfl H locs ls hP hD hS (lv_sub (l' := [(3, .int x179.1), (1, .long x188.2), (0, .ref (ad 0))]) hl [1, 2, 3] rfl)
                · replace h := ifn (c28) h
                  refine lv_ldc2 (v := 31) hx hb hown (hts (.constantLong RX10 410 (31)) (List.mem_of_getElem? (i := 2) rfl)) dX10_digest_194 ?_
                  refine lv_lload_n hx hb dX10_digest_197 rfl (lv_at hl 2 rfl) ?_
                  refine lv_lmul hx hb dX10_digest_198 ?_
                  refine lv_aload_n hx hb dX10_digest_199 rfl (lv_at hl 3 rfl) ?_
                  refine lv_iload_n hx hb dX10_digest_200 rfl (lv_at hl 1 rfl) ?_
                  refine lv_iload hx hb dX10_digest_201 (lv_at hl 0 rfl) ?_
                  obtain ⟨r29, hc29, h⟩ := obd_inv h
                  refine wcalli (S := Unit) (va_runV (As := [.int x179.1, .int x188.1]) (rest := [.long ((31 : Int64) * x188.2)]) ⟨hx, hb, hml, hown, hts⟩ (c_X10_code l dC dI cI cT cS H.size ad  x179.1 x188.1 σ25 _ hc29) (cwV 2 hts (gWV (List.mem_of_getElem? (i := 18) rfl) (List.mem_of_getElem? (i := 19) rfl) (List.mem_of_getElem? (i := 20) rfl) (List.mem_of_getElem? (i := 6) rfl) ic_X10_digest_c_X10_code gd_c_X10_code) rfl rfl rfl (by decide +kernel) ⟨(Nat.le_of_ble_eq_true rfl), (Nat.le_of_ble_eq_true rfl)⟩) (wpV (q := (RX10, TX10, 46)) hP hK hD oX10 rfl) rfl rfl hl.1 rfl (lv_room (Nat.le_of_ble_eq_true rfl)) dX10_digest_203 ⟨(Nat.le_of_ble_eq_true rfl), (Nat.le_of_ble_eq_true rfl)⟩) hP hD hS hA (fun rr30 _ H locs hr30 hP hD hS => ?_)
                  refine lv_nm (y := r29) hr30 ?_
                  refine lv_i2l hx hb dX10_digest_206 rfl ?_
                  refine lv_ladd hx hb dX10_digest_207 ?_
                  obtain ⟨e31, he31, h⟩ := letb_inv h
                  refine lv_nml he31 ?_
                  refine lv_lstore_n (lv' := [(1, .long e31), (4, .int x188.1), (3, .int x179.1), (0, .ref (ad 0))]) hx hb dX10_digest_208 rfl hl (by decide) rfl (fun ls hl => ?_)
                  refine lv_iinc (v := (x188.1 + (1 : Int32))) (lv' := [(4, .int (x188.1 + (1 : Int32))), (1, .long e31), (3, .int x179.1), (0, .ref (ad 0))]) hx hb dX10_digest_209 hl (k := 1) rfl rfl (by decide) rfl (fun ls hl => ?_)
                  refine lv_goto (tgt := 188) hx hb dX10_digest_212 (by decide) ?_
                  obtain rfl := Option.some.inj h
                  exact ht188 rfl H locs ls hP hD hS (lv_sub (l' := [(4, .int (x188.1 + (1 : Int32))), (3, .int x179.1), (1, .long e31), (0, .ref (ad 0))]) hl [0, 2, 1, 3] rfl)
              · intro H locs ls hP hD hS hl
                refine lv_iconst (v := 0) hx hb dX10_digest_215 (by decide) ?_
                refine lv_istore (lv' := [(4, .int (0 : Int32)), (3, .int x179.1), (1, .long y188.2), (0, .ref (ad 0))]) hx hb dX10_digest_216 hl (by decide) rfl (fun ls hl => ?_)
                obtain ⟨y218, hlp218, h⟩ := obd_inv h
                refine lp_W (fun x218 : Int32 × Int64 => ∀ (H : Heap) (locs : List Loc) (ls : Array Slot), va_P (dC, dI) vwCl (Wd 24 (cfR ad cI) σ25) H → va_D A (Wd 24 (cfR ad cI) σ25) → va_S A s.heap H locs → lv_has ls 5 [(4, .int x218.1), (3, .int x179.1), (1, .long x218.2), (0, .ref (ad 0))] → W p l e (headSpec vc_X10_digest { frames := 10, cells := 0, slots := 0, locals := 250 }).room s m (List.toArray (α := Value) [.ref (ad 0)]) below meth c H locs 0 0 (MQ below (va_Ql (fun (r : Int64) (_ : Unit) => r = o.1) (gB (dC, dI) A (fun (_ : Unit) => (Wd 24 (cfR ad cI) o.2))) A) (List.toArray (α := Value) [.ref (ad 0)]) s 0 0 A) (F0 m 218 ls [])) (fun y218 : Int32 × Int64 => ∀ (H : Heap) (locs : List Loc) (ls : Array Slot), va_P (dC, dI) vwCl (Wd 24 (cfR ad cI) σ25) H → va_D A (Wd 24 (cfR ad cI) σ25) → va_S A s.heap H locs → lv_has ls 5 [(3, .int x179.1), (1, .long y218.2), (0, .ref (ad 0))] → W p l e (headSpec vc_X10_digest { frames := 10, cells := 0, slots := 0, locals := 250 }).room s m (List.toArray (α := Value) [.ref (ad 0)]) below meth c H locs 0 0 (MQ below (va_Ql (fun (r : Int64) (_ : Unit) => r = o.1) (gB (dC, dI) A (fun (_ : Unit) => (Wd 24 (cfR ad cI) o.2))) A) (List.toArray (α := Value) [.ref (ad 0)]) s 0 0 A) (F0 m 245 ls [])) ?_ 1000 ((0 : Int32), y188.2) y218 hlp218 ?_ H locs ls hP hD hS (lv_sub (l' := [(4, .int (0 : Int32)), (3, .int x179.1), (1, .long y188.2), (0, .ref (ad 0))]) hl [0, 1, 2, 3] rfl)
                · intro x218 yy218 h ht218 hf218 H locs ls hP hD hS hl
                  unfold zl_X10_digest_218 at h
                  refine lv_iload hx hb dX10_digest_218 (lv_at hl 0 rfl) ?_
                  refine lv_iconst (v := 3) hx hb dX10_digest_220 (by decide) ?_
                  refine lv_icmp_ge (tgt := 245) hx hb dX10_digest_221 (by decide) (fun c32 => ?_) (fun c32 => ?_)
                  · replace h := ifp (c32) h
                    obtain rfl := Option.some.inj h
                    exact hf218 rfl H locs ls hP hD hS (lv_sub (l' := [(3, .int x179.1), (1, .long x218.2), (0, .ref (ad 0))]) hl [1, 2, 3] rfl)
                  · replace h := ifn (c32) h
                    refine lv_ldc2 (v := 31) hx hb hown (hts (.constantLong RX10 410 (31)) (List.mem_of_getElem? (i := 2) rfl)) dX10_digest_224 ?_
                    refine lv_lload_n hx hb dX10_digest_227 rfl (lv_at hl 2 rfl) ?_
                    refine lv_lmul hx hb dX10_digest_228 ?_
                    refine lv_aload_n hx hb dX10_digest_229 rfl (lv_at hl 3 rfl) ?_
                    refine lv_iload_n hx hb dX10_digest_230 rfl (lv_at hl 1 rfl) ?_
                    refine lv_iload hx hb dX10_digest_231 (lv_at hl 0 rfl) ?_
                    obtain ⟨r33, hc33, h⟩ := obd_inv h
                    refine wcalli (S := Unit) (va_runV (As := [.int x179.1, .int x218.1]) (rest := [.long ((31 : Int64) * x218.2)]) ⟨hx, hb, hml, hown, hts⟩ (c_X10_heatBy l dC dI cI cT cS H.size ad  x179.1 x218.1 σ25 _ hc33) (cwV 2 hts (gWV (List.mem_of_getElem? (i := 21) rfl) (List.mem_of_getElem? (i := 22) rfl) (List.mem_of_getElem? (i := 23) rfl) (List.mem_of_getElem? (i := 6) rfl) ic_X10_digest_c_X10_heatBy gd_c_X10_heatBy) rfl rfl rfl (by decide +kernel) ⟨(Nat.le_of_ble_eq_true rfl), (Nat.le_of_ble_eq_true rfl)⟩) (wpV (q := (RX10, TX10, 46)) hP hK hD oX10 rfl) rfl rfl hl.1 rfl (lv_room (Nat.le_of_ble_eq_true rfl)) dX10_digest_233 ⟨(Nat.le_of_ble_eq_true rfl), (Nat.le_of_ble_eq_true rfl)⟩) hP hD hS hA (fun rr34 _ H locs hr34 hP hD hS => ?_)
                    refine lv_nm (y := r33) hr34 ?_
                    refine lv_i2l hx hb dX10_digest_236 rfl ?_
                    refine lv_ladd hx hb dX10_digest_237 ?_
                    obtain ⟨e35, he35, h⟩ := letb_inv h
                    refine lv_nml he35 ?_
                    refine lv_lstore_n (lv' := [(1, .long e35), (4, .int x218.1), (3, .int x179.1), (0, .ref (ad 0))]) hx hb dX10_digest_238 rfl hl (by decide) rfl (fun ls hl => ?_)
                    refine lv_iinc (v := (x218.1 + (1 : Int32))) (lv' := [(4, .int (x218.1 + (1 : Int32))), (1, .long e35), (3, .int x179.1), (0, .ref (ad 0))]) hx hb dX10_digest_239 hl (k := 1) rfl rfl (by decide) rfl (fun ls hl => ?_)
                    refine lv_goto (tgt := 218) hx hb dX10_digest_242 (by decide) ?_
                    obtain rfl := Option.some.inj h
                    exact ht218 rfl H locs ls hP hD hS (lv_sub (l' := [(4, .int (x218.1 + (1 : Int32))), (3, .int x179.1), (1, .long e35), (0, .ref (ad 0))]) hl [0, 2, 1, 3] rfl)
                · intro H locs ls hP hD hS hl
                  refine lv_iinc (v := (x179.1 + (1 : Int32))) (lv' := [(3, .int (x179.1 + (1 : Int32))), (1, .long y218.2), (0, .ref (ad 0))]) hx hb dX10_digest_245 hl (k := 0) rfl rfl (by decide) rfl (fun ls hl => ?_)
                  refine lv_goto (tgt := 179) hx hb dX10_digest_248 (by decide) ?_
                  obtain rfl := Option.some.inj h
                  exact ht179 rfl H locs ls hP hD hS (lv_sub (l' := [(3, .int (x179.1 + (1 : Int32))), (1, .long y218.2), (0, .ref (ad 0))]) hl [0, 1, 2] rfl)
          · intro H locs ls hP hD hS hl
            refine lv_iconst (v := 0) hx hb dX10_digest_251 (by decide) ?_
            refine lv_istore_n (lv' := [(3, .int (0 : Int32)), (1, .long y179.2), (0, .ref (ad 0))]) hx hb dX10_digest_252 rfl hl (by decide) rfl (fun ls hl => ?_)
            obtain ⟨y253, hlp253, h⟩ := obd_inv h
            refine lp_W (fun x253 : Int32 × Int64 => ∀ (H : Heap) (locs : List Loc) (ls : Array Slot), va_P (dC, dI) vwCl (Wd 24 (cfR ad cI) σ25) H → va_D A (Wd 24 (cfR ad cI) σ25) → va_S A s.heap H locs → lv_has ls 5 [(3, .int x253.1), (1, .long x253.2), (0, .ref (ad 0))] → W p l e (headSpec vc_X10_digest { frames := 10, cells := 0, slots := 0, locals := 250 }).room s m (List.toArray (α := Value) [.ref (ad 0)]) below meth c H locs 0 0 (MQ below (va_Ql (fun (r : Int64) (_ : Unit) => r = o.1) (gB (dC, dI) A (fun (_ : Unit) => (Wd 24 (cfR ad cI) o.2))) A) (List.toArray (α := Value) [.ref (ad 0)]) s 0 0 A) (F0 m 253 ls [])) (fun y253 : Int32 × Int64 => ∀ (H : Heap) (locs : List Loc) (ls : Array Slot), va_P (dC, dI) vwCl (Wd 24 (cfR ad cI) σ25) H → va_D A (Wd 24 (cfR ad cI) σ25) → va_S A s.heap H locs → lv_has ls 5 [(1, .long y253.2), (0, .ref (ad 0))] → W p l e (headSpec vc_X10_digest { frames := 10, cells := 0, slots := 0, locals := 250 }).room s m (List.toArray (α := Value) [.ref (ad 0)]) below meth c H locs 0 0 (MQ below (va_Ql (fun (r : Int64) (_ : Unit) => r = o.1) (gB (dC, dI) A (fun (_ : Unit) => (Wd 24 (cfR ad cI) o.2))) A) (List.toArray (α := Value) [.ref (ad 0)]) s 0 0 A) (F0 m 272 ls [])) ?_ 1000 ((0 : Int32), y179.2) y253 hlp253 ?_ H locs ls hP hD hS (lv_sub (l' := [(3, .int (0 : Int32)), (1, .long y179.2), (0, .ref (ad 0))]) hl [0, 1, 2] rfl)
            · intro x253 yy253 h ht253 hf253 H locs ls hP hD hS hl
              unfold zl_X10_digest_253 at h
              refine lv_iload_n hx hb dX10_digest_253 rfl (lv_at hl 0 rfl) ?_
              refine lv_bipush (v := 8) hx hb dX10_digest_254 (by decide) ?_
              refine lv_icmp_ge (tgt := 272) hx hb dX10_digest_256 (by decide) (fun c36 => ?_) (fun c36 => ?_)
              · replace h := ifp (c36) h
                obtain rfl := Option.some.inj h
                exact hf253 rfl H locs ls hP hD hS (lv_sub (l' := [(1, .long x253.2), (0, .ref (ad 0))]) hl [1, 2] rfl)
              · replace h := ifn (c36) h
                refine lv_aload_n hx hb dX10_digest_259 rfl (lv_at hl 2 rfl) ?_
                refine lv_lload_n hx hb dX10_digest_260 rfl (lv_at hl 1 rfl) ?_
                refine lv_iload_n hx hb dX10_digest_261 rfl (lv_at hl 0 rfl) ?_
                obtain ⟨r37, hc37, h⟩ := obd_inv h
                refine wcalll (S := Unit) (va_runV (As := [.long x253.2, .int x253.1]) (rest := []) ⟨hx, hb, hml, hown, hts⟩ (c_X10_tellsTrace l dC dI cI cT cS H.size ad  x253.2 x253.1 σ25 _ hc37) (cwV 2 hts (gWV (List.mem_of_getElem? (i := 24) rfl) (List.mem_of_getElem? (i := 25) rfl) (List.mem_of_getElem? (i := 26) rfl) (List.mem_of_getElem? (i := 6) rfl) ic_X10_digest_c_X10_tellsTrace gd_c_X10_tellsTrace) rfl rfl rfl (by decide +kernel) ⟨(Nat.le_of_ble_eq_true rfl), (Nat.le_of_ble_eq_true rfl)⟩) (wpV (q := (RX10, TX10, 46)) hP hK hD oX10 rfl) rfl rfl hl.1 rfl (lv_room (Nat.le_of_ble_eq_true rfl)) dX10_digest_262 ⟨(Nat.le_of_ble_eq_true rfl), (Nat.le_of_ble_eq_true rfl)⟩) hP hD hS hA (fun rr38 _ H locs hr38 hP hD hS => ?_)
                refine lv_nml (y := r37) hr38 ?_
                refine lv_lstore_n (lv' := [(1, .long r37), (3, .int x253.1), (0, .ref (ad 0))]) hx hb dX10_digest_265 rfl hl (by decide) rfl (fun ls hl => ?_)
                refine lv_iinc (v := (x253.1 + (1 : Int32))) (lv' := [(3, .int (x253.1 + (1 : Int32))), (1, .long r37), (0, .ref (ad 0))]) hx hb dX10_digest_266 hl (k := 1) rfl rfl (by decide) rfl (fun ls hl => ?_)
                refine lv_goto (tgt := 253) hx hb dX10_digest_269 (by decide) ?_
                obtain rfl := Option.some.inj h
                exact ht253 rfl H locs ls hP hD hS (lv_sub (l' := [(3, .int (x253.1 + (1 : Int32))), (1, .long r37), (0, .ref (ad 0))]) hl [0, 1, 2] rfl)
            · intro H locs ls hP hD hS hl
              refine lv_ldc2 (v := 31) hx hb hown (hts (.constantLong RX10 410 (31)) (List.mem_of_getElem? (i := 2) rfl)) dX10_digest_272 ?_
              refine lv_lload_n hx hb dX10_digest_275 rfl (lv_at hl 0 rfl) ?_
              refine lv_lmul hx hb dX10_digest_276 ?_
              refine lv_aload_n hx hb dX10_digest_277 rfl (lv_at hl 1 rfl) ?_
              refine lv_iconst (v := 0) hx hb dX10_digest_278 (by decide) ?_
              obtain ⟨r39, σ39, hc39, h⟩ := bnd_inv h
              refine wcalli (S := Unit) (va_runV (As := [.int (0 : Int32)]) (rest := [.long ((31 : Int64) * y253.2)]) ⟨hx, hb, hml, hown, hts⟩ (c_X10_betterBy l dC dI cI cT cS H.size ad  (0 : Int32) σ25 _ hc39) (cwV 1 hts (gWV (List.mem_of_getElem? (i := 27) rfl) (List.mem_of_getElem? (i := 28) rfl) (List.mem_of_getElem? (i := 29) rfl) (List.mem_of_getElem? (i := 6) rfl) ic_X10_digest_c_X10_betterBy gd_c_X10_betterBy) rfl rfl rfl (by decide +kernel) ⟨(Nat.le_of_ble_eq_true rfl), (Nat.le_of_ble_eq_true rfl)⟩) (wpV (q := (RX10, TX10, 46)) hP hK hD oX10 rfl) rfl rfl hl.1 rfl (lv_room (Nat.le_of_ble_eq_true rfl)) dX10_digest_279 ⟨(Nat.le_of_ble_eq_true rfl), (Nat.le_of_ble_eq_true rfl)⟩) hP hD hS hA (fun rr40 _ H locs hr40 hP hD hS => ?_)
              replace hP : va_P (dC, dI) vwCl (Wd 24 (cfR ad cI) σ39) H := hP
              replace hD : va_D A (Wd 24 (cfR ad cI) σ39) := hD
              refine lv_nm (y := r39) hr40 ?_
              refine lv_i2l hx hb dX10_digest_282 rfl ?_
              refine lv_ladd hx hb dX10_digest_283 ?_
              obtain ⟨e41, he41, h⟩ := letb_inv h
              refine lv_nml he41 ?_
              refine lv_lstore_n (lv' := [(1, .long e41), (0, .ref (ad 0))]) hx hb dX10_digest_284 rfl hl (by decide) rfl (fun ls hl => ?_)
              refine lv_ldc2 (v := 31) hx hb hown (hts (.constantLong RX10 410 (31)) (List.mem_of_getElem? (i := 2) rfl)) dX10_digest_285 ?_
              refine lv_lload_n hx hb dX10_digest_288 rfl (lv_at hl 0 rfl) ?_
              refine lv_lmul hx hb dX10_digest_289 ?_
              refine lv_aload_n hx hb dX10_digest_290 rfl (lv_at hl 1 rfl) ?_
              refine lv_iconst (v := 1) hx hb dX10_digest_291 (by decide) ?_
              obtain ⟨r42, σ42, hc42, h⟩ := bnd_inv h
              refine wcalli (S := Unit) (va_runV (As := [.int (1 : Int32)]) (rest := [.long ((31 : Int64) * e41)]) ⟨hx, hb, hml, hown, hts⟩ (c_X10_betterBy l dC dI cI cT cS H.size ad  (1 : Int32) σ39 _ hc42) (cwV 1 hts (gWV (List.mem_of_getElem? (i := 27) rfl) (List.mem_of_getElem? (i := 28) rfl) (List.mem_of_getElem? (i := 29) rfl) (List.mem_of_getElem? (i := 6) rfl) ic_X10_digest_c_X10_betterBy gd_c_X10_betterBy) rfl rfl rfl (by decide +kernel) ⟨(Nat.le_of_ble_eq_true rfl), (Nat.le_of_ble_eq_true rfl)⟩) (wpV (q := (RX10, TX10, 46)) hP hK hD oX10 rfl) rfl rfl hl.1 rfl (lv_room (Nat.le_of_ble_eq_true rfl)) dX10_digest_292 ⟨(Nat.le_of_ble_eq_true rfl), (Nat.le_of_ble_eq_true rfl)⟩) hP hD hS hA (fun rr43 _ H locs hr43 hP hD hS => ?_)
              replace hP : va_P (dC, dI) vwCl (Wd 24 (cfR ad cI) σ42) H := hP
              replace hD : va_D A (Wd 24 (cfR ad cI) σ42) := hD
              refine lv_nm (y := r42) hr43 ?_
              refine lv_i2l hx hb dX10_digest_295 rfl ?_
              refine lv_ladd hx hb dX10_digest_296 ?_
              have h9 := Option.some.inj h
              exact wretl hx hb hr hlocks hP hD hS (by show _ = _; rw [← h9]; first | done | rfl) (by rw [← h9]) dX10_digest_297
