def zf_X0_become (kX0 : Nat) (a1 : Int32) (a2 : Int32) (σ : Sg) : Sg := su (su σ (kX0 + 4) 4 a1) (kX0 + 4) 5 a2
def oc_X0_become : List Cond := [.fieldLink RX0 55 "TraceTrees$Effect" "kind" "I", .fieldLink RX0 65 "TraceTrees$Effect" "bits" "I"]
def vc_X0_become : List Cond := .code yX0_become cX0_become 3 none :: (oc_X0_become ++ (wsX00))
theorem iw_X0_become_X0 : ∀ w ∈ wsX00, w ∈ vc_X0_become := fun _ h => List.mem_cons_of_mem _ (List.mem_append_right _ (h))
theorem gd_c_X0_become : (vc_X0_become).all goodWord = true := gall_cons rfl (gall_app (by decide +kernel) gw_X0)
set_option maxHeartbeats 4000000 in
set_option maxRecDepth 100000 in
theorem c_X0_become (l : Launch) (dC : Nat → ClassId) (dI : Nat → Nat → Nat) (cI cT cS : ClassId) (sz : Nat) (ad : Nat → Nat) (kX0 : Nat) (hX0 : isM kX0) (a1 : Int32) (a2 : Int32) (σ : Sg) (o : Sg) (h : zf_X0_become kX0 a1 a2 σ = o) : gCV (S := Unit) l yX0_become vc_X0_become { frames := 0, cells := 0, slots := 0, locals := 0 } (dC, dI) (gTY cI cT cS) sz [.ref (ad (kX0 + 4)), .int a1, .int a2] (Wd 153 (cfC ad cI cT cS) σ) (fun (_ : Unit) => True) (fun (_ : Unit) => (Wd 153 (cfC ad cI cT cS) o)) 0 0 := by
  refine Met.ofW (cc := cX0_become) (maxL := 3) (ret := none) (by decide) rfl ?_
  intro p e s m args below meth c s₁ B hml hv
  obtain ⟨rfl, hsz, hP, hK, hD0⟩ := hv
  have hx := B.exec
  have hb := B.bytes
  have hr := B.returns
  have hts := atoms_spec (ws := vc_X0_become) B.pre
  have hown : s.vm.findClass RX0 = some m.cls := findClass_of_methodNamed B.named
  have hlocks := B.notSynchronized
  subst hsz
  have hD := hD0.self (sz := s.heap.size)
  generalize hAe : va_A (Wd 153 (cfC ad cI cT cS) σ) s.heap.size = A at hD ⊢
  have hA : ∀ q : Nat, s.heap.size ≤ q → A q := fun q h => by rw [← hAe]; exact Or.inr h
  clear hAe hD0
  refine gstart (fun H locs hHe hLe => ?_)
  have hS : va_S A s.heap H locs := by rw [← hHe, ← hLe]; exact va_S.rf
  replace hP : va_P (dC, dI) vwCl (Wd 153 (cfC ad cI cT cS) σ) H := by rw [← hHe]; exact hP
  clear hHe hLe
  have hl := lv_entry ([.ref (ad (kX0 + 4)), .int a1, .int a2]) (n := 3) (Nat.le_of_ble_eq_true rfl)
  rw [lg_entry_eq]
  generalize (lg_sl ([.ref (ad (kX0 + 4)), .int a1, .int a2]) ++ List.replicate (3 - (lg_sl ([.ref (ad (kX0 + 4)), .int a1, .int a2])).length) Slot.unset).toArray = ls at hl ⊢
  replace hl : lv_has ls 3 [(0, .ref (ad (kX0 + 4))), (1, .int a1), (2, .int a2)] := hl
  unfold zf_X0_become at h
  refine lv_aload_n hx hb dX0_become_0 rfl (lv_at hl 0 rfl) ?_
  refine lv_iload_n hx hb dX0_become_1 rfl (lv_at hl 1 rfl) ?_
  refine pf_X0_4 hX0 hx hb hts iw_X0_become_X0 hown hK hP hD hS (hts (.fieldLink RX0 55 "TraceTrees$Effect" "kind" "I") (List.mem_of_getElem? (i := 1) rfl)) dX0_become_2 (fun H locs hP hD hS => ?_)
  refine lv_aload_n hx hb dX0_become_5 rfl (lv_at hl 0 rfl) ?_
  refine lv_iload_n hx hb dX0_become_6 rfl (lv_at hl 2 rfl) ?_
  refine pf_X0_5 hX0 hx hb hts iw_X0_become_X0 hown hK hP hD hS (hts (.fieldLink RX0 65 "TraceTrees$Effect" "bits" "I") (List.mem_of_getElem? (i := 2) rfl)) dX0_become_7 (fun H locs hP hD hS => ?_)
  have h9 := h
  exact wretv hx hb hr hlocks hP hD hS trivial (by rw [← h9]) dX0_become_10
def zb_X0_combine_99 (kX0 : Nat) (σ : Sg) (w0_99 : Int32) (w1_99 : Bool) : Sg := letb (zf_X0_become kX0 (b2i w1_99) w0_99 σ) (fun q22 => q22)
def zb_X0_combine_83 (kX0 : Nat) (σ : Sg) (v10_83 : Bool) (v8_83 : Int64) (w0_83 : Bool) : Sg := (if v10_83 = true then (zb_X0_combine_99 kX0 σ (v8_83.toInt32) w0_83) else (zb_X0_combine_99 kX0 σ (zf_X1_ofWhole v8_83) w0_83))
def zb_X0_combine_160 (kX0 : Nat) (σ : Sg) (w0_160 : Int32) : Sg := letb (zf_X0_become kX0 (1 : Int32) w0_160 σ) (fun q18 => q18)
def zb_X0_combine_70 (kX0 : Nat) (σ : Sg) (v8_70 : Int64) (w0_70 : Bool) : Sg := (if w0_70 = true then (zb_X0_combine_83 kX0 σ w0_70 v8_70 false) else (zb_X0_combine_83 kX0 σ w0_70 v8_70 true))
def zb_X0_combine_157 (kX0 : Nat) (σ : Sg) (w0_157 : Int32) (w1_157 : Int32) : Sg := (zb_X0_combine_160 kX0 σ (zf_X1_sum w1_157 w0_157))
def zb_X0_combine_53 (kX0 : Nat) (σ : Sg) (w0_53 : Int64) : Sg := (if w0_53 = ((w0_53.toInt32).toInt64) then (zb_X0_combine_70 kX0 σ w0_53 true) else (zb_X0_combine_70 kX0 σ w0_53 false))
def zb_X0_combine_103 (kX0 : Nat) (a1 : Int32) (a2 : Int32) (a3 : Int32) (σ : Sg) : Sg := letb (zf_X1_ofRegister (σ (kX0 + 4) 0) a2) (fun e8 => letb (zf_X1_ofRegister (σ (kX0 + 4) 1) a3) (fun e10 => (if a1 = (4 : Int32) then (zb_X0_combine_160 kX0 σ (zf_X1_product e8 e10)) else (if a1 = (3 : Int32) then (zb_X0_combine_157 kX0 σ (zf_X1_opposite e10) e8) else (zb_X0_combine_157 kX0 σ e10 e8)))))
def zf_X0_combine (kX0 : Nat) (a1 : Int32) (a2 : Int32) (a3 : Int32) (σ : Sg) : Sg := (if (σ (kX0 + 4) 0) = 0 then (if (σ (kX0 + 4) 1) = 0 then letb (a2.toInt64) (fun e3 => letb (a3.toInt64) (fun e4 => (if a1 = (2 : Int32) then (zb_X0_combine_53 kX0 σ (e3 + e4)) else (if a1 = (3 : Int32) then (zb_X0_combine_53 kX0 σ (e3 - e4)) else (zb_X0_combine_53 kX0 σ (e3 * e4)))))) else (zb_X0_combine_103 kX0 a1 a2 a3 σ)) else (zb_X0_combine_103 kX0 a1 a2 a3 σ))
def oc_X0_combine : List Cond := [.fieldLink RX0 25 "TraceTrees$Effect" "kindY" "I", .fieldLink RX0 31 "TraceTrees$Effect" "kindZ" "I", .methodLink RX0 73 yX1_ofRegister, .static yX1_ofRegister, .initialized RX1, .methodLink RX0 80 yX1_opposite, .static yX1_opposite, .methodLink RX0 77 yX1_product, .static yX1_product, .methodLink RX0 83 yX1_sum, .static yX1_sum, .methodLink RX0 44 yX0_become, .instanceMethod yX0_become, .selects RX0 yX0_become yX0_become, .initialized RX0, .methodLink RX0 67 yX1_ofWhole, .static yX1_ofWhole]
def vc_X0_combine : List Cond := .code yX0_combine cX0_combine 11 none :: (oc_X0_combine ++ (wsX00 ++ (vc_X1_ofRegister ++ (vc_X1_opposite ++ (vc_X1_product ++ (vc_X1_sum ++ (vc_X0_become ++ (vc_X1_ofWhole))))))))
theorem iw_X0_combine_X0 : ∀ w ∈ wsX00, w ∈ vc_X0_combine := fun _ h => List.mem_cons_of_mem _ (List.mem_append_right _ (List.mem_append_left _ h))
theorem ic_X0_combine_c_X1_ofRegister : ∀ w ∈ vc_X1_ofRegister, w ∈ vc_X0_combine := fun _ h => List.mem_cons_of_mem _ (List.mem_append_right _ (List.mem_append_right _ (List.mem_append_left _ h)))
theorem ic_X0_combine_c_X1_opposite : ∀ w ∈ vc_X1_opposite, w ∈ vc_X0_combine := fun _ h => List.mem_cons_of_mem _ (List.mem_append_right _ (List.mem_append_right _ (List.mem_append_right _ (List.mem_append_left _ h))))
theorem ic_X0_combine_c_X1_product : ∀ w ∈ vc_X1_product, w ∈ vc_X0_combine := fun _ h => List.mem_cons_of_mem _ (List.mem_append_right _ (List.mem_append_right _ (List.mem_append_right _ (List.mem_append_right _ (List.mem_append_left _ h)))))
theorem ic_X0_combine_c_X1_sum : ∀ w ∈ vc_X1_sum, w ∈ vc_X0_combine := fun _ h => List.mem_cons_of_mem _ (List.mem_append_right _ (List.mem_append_right _ (List.mem_append_right _ (List.mem_append_right _ (List.mem_append_right _ (List.mem_append_left _ h))))))
theorem ic_X0_combine_c_X0_become : ∀ w ∈ vc_X0_become, w ∈ vc_X0_combine := fun _ h => List.mem_cons_of_mem _ (List.mem_append_right _ (List.mem_append_right _ (List.mem_append_right _ (List.mem_append_right _ (List.mem_append_right _ (List.mem_append_right _ (List.mem_append_left _ h)))))))
theorem ic_X0_combine_c_X1_ofWhole : ∀ w ∈ vc_X1_ofWhole, w ∈ vc_X0_combine := fun _ h => List.mem_cons_of_mem _ (List.mem_append_right _ (List.mem_append_right _ (List.mem_append_right _ (List.mem_append_right _ (List.mem_append_right _ (List.mem_append_right _ (List.mem_append_right _ (h))))))))
theorem gd_c_X0_combine : (vc_X0_combine).all goodWord = true := gall_cons rfl (gall_app (by decide +kernel) (gall_app gw_X0 (gall_app gd_c_X1_ofRegister (gall_app gd_c_X1_opposite (gall_app gd_c_X1_product (gall_app gd_c_X1_sum (gall_app gd_c_X0_become gd_c_X1_ofWhole)))))))
set_option maxHeartbeats 4000000 in
set_option maxRecDepth 100000 in
theorem c_X0_combine (l : Launch) (dC : Nat → ClassId) (dI : Nat → Nat → Nat) (cI cT cS : ClassId) (sz : Nat) (ad : Nat → Nat) (kX0 : Nat) (hX0 : isM kX0) (a1 : Int32) (a2 : Int32) (a3 : Int32) (σ : Sg) (o : Sg) (h : zf_X0_combine kX0 a1 a2 a3 σ = o) : gCV (S := Unit) l yX0_combine vc_X0_combine { frames := 4, cells := 0, slots := 0, locals := 106 } (dC, dI) (gTY cI cT cS) sz [.ref (ad (kX0 + 4)), .int a1, .int a2, .int a3] (Wd 153 (cfC ad cI cT cS) σ) (fun (_ : Unit) => True) (fun (_ : Unit) => (Wd 153 (cfC ad cI cT cS) o)) 0 0 := by
  refine Met.ofW (cc := cX0_combine) (maxL := 11) (ret := none) (by decide) rfl ?_
  intro p e s m args below meth c s₁ B hml hv
  obtain ⟨rfl, hsz, hP, hK, hD0⟩ := hv
  have hx := B.exec
  have hb := B.bytes
  have hr := B.returns
  have hts := atoms_spec (ws := vc_X0_combine) B.pre
  have hown : s.vm.findClass RX0 = some m.cls := findClass_of_methodNamed B.named
  have hlocks := B.notSynchronized
  subst hsz
  have hD := hD0.self (sz := s.heap.size)
  generalize hAe : va_A (Wd 153 (cfC ad cI cT cS) σ) s.heap.size = A at hD ⊢
  have hA : ∀ q : Nat, s.heap.size ≤ q → A q := fun q h => by rw [← hAe]; exact Or.inr h
  clear hAe hD0
  refine gstart (fun H locs hHe hLe => ?_)
  have hS : va_S A s.heap H locs := by rw [← hHe, ← hLe]; exact va_S.rf
  replace hP : va_P (dC, dI) vwCl (Wd 153 (cfC ad cI cT cS) σ) H := by rw [← hHe]; exact hP
  clear hHe hLe
  have hl := lv_entry ([.ref (ad (kX0 + 4)), .int a1, .int a2, .int a3]) (n := 11) (Nat.le_of_ble_eq_true rfl)
  rw [lg_entry_eq]
  generalize (lg_sl ([.ref (ad (kX0 + 4)), .int a1, .int a2, .int a3]) ++ List.replicate (11 - (lg_sl ([.ref (ad (kX0 + 4)), .int a1, .int a2, .int a3])).length) Slot.unset).toArray = ls at hl ⊢
  replace hl : lv_has ls 11 [(0, .ref (ad (kX0 + 4))), (1, .int a1), (2, .int a2), (3, .int a3)] := hl
  unfold zf_X0_combine at h
  have J99 : ∀ (w0_99 : Int32) (w1_99 : Bool) (H : Heap) (locs : List Loc) (ls : Array Slot), zb_X0_combine_99 kX0 σ w0_99 w1_99 = o → va_P (dC, dI) vwCl (Wd 153 (cfC ad cI cT cS) σ) H → va_D A (Wd 153 (cfC ad cI cT cS) σ) → va_S A s.heap H locs → lv_has ls 11 [] → W p l e (headSpec vc_X0_combine { frames := 4, cells := 0, slots := 0, locals := 106 }).room s m (List.toArray (α := Value) [.ref (ad (kX0 + 4)), .int a1, .int a2, .int a3]) below meth c H locs 0 0 (MQ below (va_Qv (fun (_ : Unit) => True) (gB (dC, dI) A (fun (_ : Unit) => (Wd 153 (cfC ad cI cT cS) o))) A) (List.toArray (α := Value) [.ref (ad (kX0 + 4)), .int a1, .int a2, .int a3]) s 0 0 A) (F0 m 99 ls [.int w0_99, .int (b2i w1_99), .ref (ad (kX0 + 4))]) := by
    intro w0_99 w1_99 H locs ls h hP hD hS hl
    unfold zb_X0_combine_99 at h
    obtain ⟨q22, hc22, h⟩ := letb_inv h
    refine wcallv (S := Unit) (va_runV (As := [.int (b2i w1_99), .int w0_99]) (rest := []) ⟨hx, hb, hml, hown, hts⟩ (c_X0_become l dC dI cI cT cS H.size ad kX0 hX0 (b2i w1_99) w0_99 σ _ hc22) (cwV 2 hts (gWV (List.mem_of_getElem? (i := 12) rfl) (List.mem_of_getElem? (i := 13) rfl) (List.mem_of_getElem? (i := 14) rfl) (List.mem_of_getElem? (i := 15) rfl) ic_X0_combine_c_X0_become gd_c_X0_become) rfl rfl rfl (by decide +kernel) ⟨(Nat.le_of_ble_eq_true rfl), (Nat.le_of_ble_eq_true rfl)⟩) (wpV (q := (RX0, TX0, 6)) hP hK hD (oX0 hX0) rfl) rfl rfl hl.1 rfl (lv_room (Nat.le_of_ble_eq_true rfl)) dX0_combine_99 ⟨(Nat.le_of_ble_eq_true rfl), (Nat.le_of_ble_eq_true rfl)⟩) hP hD hS hA (fun _ H locs hr23 hP hD hS => ?_)
    replace hP : va_P (dC, dI) vwCl (Wd 153 (cfC ad cI cT cS) q22) H := hP
    replace hD : va_D A (Wd 153 (cfC ad cI cT cS) q22) := hD
    have h9 := h
    exact wretv hx hb hr hlocks hP hD hS trivial (by rw [← h9]) dX0_combine_102
  have J83 : ∀ (v10_83 : Bool) (v8_83 : Int64) (w0_83 : Bool) (H : Heap) (locs : List Loc) (ls : Array Slot), zb_X0_combine_83 kX0 σ v10_83 v8_83 w0_83 = o → va_P (dC, dI) vwCl (Wd 153 (cfC ad cI cT cS) σ) H → va_D A (Wd 153 (cfC ad cI cT cS) σ) → va_S A s.heap H locs → lv_has ls 11 [(10, .int (b2i v10_83)), (8, .long v8_83)] → W p l e (headSpec vc_X0_combine { frames := 4, cells := 0, slots := 0, locals := 106 }).room s m (List.toArray (α := Value) [.ref (ad (kX0 + 4)), .int a1, .int a2, .int a3]) below meth c H locs 0 0 (MQ below (va_Qv (fun (_ : Unit) => True) (gB (dC, dI) A (fun (_ : Unit) => (Wd 153 (cfC ad cI cT cS) o))) A) (List.toArray (α := Value) [.ref (ad (kX0 + 4)), .int a1, .int a2, .int a3]) s 0 0 A) (F0 m 83 ls [.int (b2i w0_83), .ref (ad (kX0 + 4))]) := by
    intro v10_83 v8_83 w0_83 H locs ls h hP hD hS hl
    unfold zb_X0_combine_83 at h
    refine lv_iload hx hb dX0_combine_83 (lv_at hl 0 rfl) ?_
    refine lv_if_eq (tgt := 94) hx hb dX0_combine_85 (by decide) (fun c20 => ?_) (fun c20 => ?_)
    · replace h := ifn (b2i_0 c20) h
      refine lv_lload hx hb dX0_combine_94 (lv_at hl 1 rfl) ?_
      refine wcalli (S := Unit) (va_runS (As := [.long v8_83]) (rest := [.int (b2i w0_83), .ref (ad (kX0 + 4))]) ⟨hx, hb, hml, hown, hts⟩ (c_X1_ofWhole l dC dI cI cT cS H.size (Wd 153 (cfC ad cI cT cS) σ)  v8_83 _ rfl) (va_cwS 1 hts (gWS (List.mem_of_getElem? (i := 16) rfl) (List.mem_of_getElem? (i := 17) rfl) (List.mem_of_getElem? (i := 5) rfl) ic_X0_combine_c_X1_ofWhole gd_c_X1_ofWhole) rfl rfl rfl (by decide +kernel) ⟨(Nat.le_of_ble_eq_true rfl), (Nat.le_of_ble_eq_true rfl)⟩) (gpS hP hK hD) rfl rfl hl.1 rfl (lv_room (Nat.le_of_ble_eq_true rfl)) dX0_combine_96 ⟨(Nat.le_of_ble_eq_true rfl), (Nat.le_of_ble_eq_true rfl)⟩) hP hD hS hA (fun rr21 _ H locs hr21 hP hD hS => ?_)
      refine lv_nm (y := (zf_X1_ofWhole v8_83)) hr21 ?_
      exact J99 (zf_X1_ofWhole v8_83) w0_83 H locs ls h hP hD hS (lv_sub (l' := []) hl [] rfl)
    · replace h := ifp (b2i_1 c20) h
      refine lv_lload hx hb dX0_combine_88 (lv_at hl 1 rfl) ?_
      refine lv_l2i hx hb dX0_combine_90 rfl ?_
      refine lv_goto (tgt := 99) hx hb dX0_combine_91 (by decide) ?_
      exact J99 (v8_83.toInt32) w0_83 H locs ls h hP hD hS (lv_sub (l' := []) hl [] rfl)
  have J160 : ∀ (w0_160 : Int32) (H : Heap) (locs : List Loc) (ls : Array Slot), zb_X0_combine_160 kX0 σ w0_160 = o → va_P (dC, dI) vwCl (Wd 153 (cfC ad cI cT cS) σ) H → va_D A (Wd 153 (cfC ad cI cT cS) σ) → va_S A s.heap H locs → lv_has ls 11 [] → W p l e (headSpec vc_X0_combine { frames := 4, cells := 0, slots := 0, locals := 106 }).room s m (List.toArray (α := Value) [.ref (ad (kX0 + 4)), .int a1, .int a2, .int a3]) below meth c H locs 0 0 (MQ below (va_Qv (fun (_ : Unit) => True) (gB (dC, dI) A (fun (_ : Unit) => (Wd 153 (cfC ad cI cT cS) o))) A) (List.toArray (α := Value) [.ref (ad (kX0 + 4)), .int a1, .int a2, .int a3]) s 0 0 A) (F0 m 160 ls [.int w0_160, .int (1 : Int32), .ref (ad (kX0 + 4))]) := by
    intro w0_160 H locs ls h hP hD hS hl
    unfold zb_X0_combine_160 at h
    obtain ⟨q18, hc18, h⟩ := letb_inv h
    refine wcallv (S := Unit) (va_runV (As := [.int (1 : Int32), .int w0_160]) (rest := []) ⟨hx, hb, hml, hown, hts⟩ (c_X0_become l dC dI cI cT cS H.size ad kX0 hX0 (1 : Int32) w0_160 σ _ hc18) (cwV 2 hts (gWV (List.mem_of_getElem? (i := 12) rfl) (List.mem_of_getElem? (i := 13) rfl) (List.mem_of_getElem? (i := 14) rfl) (List.mem_of_getElem? (i := 15) rfl) ic_X0_combine_c_X0_become gd_c_X0_become) rfl rfl rfl (by decide +kernel) ⟨(Nat.le_of_ble_eq_true rfl), (Nat.le_of_ble_eq_true rfl)⟩) (wpV (q := (RX0, TX0, 6)) hP hK hD (oX0 hX0) rfl) rfl rfl hl.1 rfl (lv_room (Nat.le_of_ble_eq_true rfl)) dX0_combine_160 ⟨(Nat.le_of_ble_eq_true rfl), (Nat.le_of_ble_eq_true rfl)⟩) hP hD hS hA (fun _ H locs hr19 hP hD hS => ?_)
    replace hP : va_P (dC, dI) vwCl (Wd 153 (cfC ad cI cT cS) q18) H := hP
    replace hD : va_D A (Wd 153 (cfC ad cI cT cS) q18) := hD
    have h9 := h
    exact wretv hx hb hr hlocks hP hD hS trivial (by rw [← h9]) dX0_combine_163
  have J70 : ∀ (v8_70 : Int64) (w0_70 : Bool) (H : Heap) (locs : List Loc) (ls : Array Slot), zb_X0_combine_70 kX0 σ v8_70 w0_70 = o → va_P (dC, dI) vwCl (Wd 153 (cfC ad cI cT cS) σ) H → va_D A (Wd 153 (cfC ad cI cT cS) σ) → va_S A s.heap H locs → lv_has ls 11 [(8, .long v8_70), (0, .ref (ad (kX0 + 4)))] → W p l e (headSpec vc_X0_combine { frames := 4, cells := 0, slots := 0, locals := 106 }).room s m (List.toArray (α := Value) [.ref (ad (kX0 + 4)), .int a1, .int a2, .int a3]) below meth c H locs 0 0 (MQ below (va_Qv (fun (_ : Unit) => True) (gB (dC, dI) A (fun (_ : Unit) => (Wd 153 (cfC ad cI cT cS) o))) A) (List.toArray (α := Value) [.ref (ad (kX0 + 4)), .int a1, .int a2, .int a3]) s 0 0 A) (F0 m 70 ls [.int (b2i w0_70)]) := by
    intro v8_70 w0_70 H locs ls h hP hD hS hl
    unfold zb_X0_combine_70 at h
    refine lv_istore (lv' := [(10, .int (b2i w0_70)), (8, .long v8_70), (0, .ref (ad (kX0 + 4)))]) hx hb dX0_combine_70 hl (by decide) rfl (fun ls hl => ?_)
    refine lv_aload_n hx hb dX0_combine_72 rfl (lv_at hl 2 rfl) ?_
    refine lv_iload hx hb dX0_combine_73 (lv_at hl 0 rfl) ?_
    refine lv_if_eq (tgt := 82) hx hb dX0_combine_75 (by decide) (fun c17 => ?_) (fun c17 => ?_)
    · replace h := ifn (b2i_0 c17) h
      refine lv_iconst (v := 1) hx hb dX0_combine_82 (by decide) ?_
      exact J83 w0_70 v8_70 true H locs ls h hP hD hS (lv_sub (l' := [(10, .int (b2i w0_70)), (8, .long v8_70)]) hl [0, 1] rfl)
    · replace h := ifp (b2i_1 c17) h
      refine lv_iconst (v := 0) hx hb dX0_combine_78 (by decide) ?_
      refine lv_goto (tgt := 83) hx hb dX0_combine_79 (by decide) ?_
      exact J83 w0_70 v8_70 false H locs ls h hP hD hS (lv_sub (l' := [(10, .int (b2i w0_70)), (8, .long v8_70)]) hl [0, 1] rfl)
  have J157 : ∀ (w0_157 : Int32) (w1_157 : Int32) (H : Heap) (locs : List Loc) (ls : Array Slot), zb_X0_combine_157 kX0 σ w0_157 w1_157 = o → va_P (dC, dI) vwCl (Wd 153 (cfC ad cI cT cS) σ) H → va_D A (Wd 153 (cfC ad cI cT cS) σ) → va_S A s.heap H locs → lv_has ls 11 [] → W p l e (headSpec vc_X0_combine { frames := 4, cells := 0, slots := 0, locals := 106 }).room s m (List.toArray (α := Value) [.ref (ad (kX0 + 4)), .int a1, .int a2, .int a3]) below meth c H locs 0 0 (MQ below (va_Qv (fun (_ : Unit) => True) (gB (dC, dI) A (fun (_ : Unit) => (Wd 153 (cfC ad cI cT cS) o))) A) (List.toArray (α := Value) [.ref (ad (kX0 + 4)), .int a1, .int a2, .int a3]) s 0 0 A) (F0 m 157 ls [.int w0_157, .int w1_157, .int (1 : Int32), .ref (ad (kX0 + 4))]) := by
    intro w0_157 w1_157 H locs ls h hP hD hS hl
    unfold zb_X0_combine_157 at h
    refine wcalli (S := Unit) (va_runS (As := [.int w1_157, .int w0_157]) (rest := [.int (1 : Int32), .ref (ad (kX0 + 4))]) ⟨hx, hb, hml, hown, hts⟩ (c_X1_sum l dC dI cI cT cS H.size (Wd 153 (cfC ad cI cT cS) σ)  w1_157 w0_157 _ rfl) (va_cwS 2 hts (gWS (List.mem_of_getElem? (i := 10) rfl) (List.mem_of_getElem? (i := 11) rfl) (List.mem_of_getElem? (i := 5) rfl) ic_X0_combine_c_X1_sum gd_c_X1_sum) rfl rfl rfl (by decide +kernel) ⟨(Nat.le_of_ble_eq_true rfl), (Nat.le_of_ble_eq_true rfl)⟩) (gpS hP hK hD) rfl rfl hl.1 rfl (lv_room (Nat.le_of_ble_eq_true rfl)) dX0_combine_157 ⟨(Nat.le_of_ble_eq_true rfl), (Nat.le_of_ble_eq_true rfl)⟩) hP hD hS hA (fun rr16 _ H locs hr16 hP hD hS => ?_)
    refine lv_nm (y := (zf_X1_sum w1_157 w0_157)) hr16 ?_
    exact J160 (zf_X1_sum w1_157 w0_157) H locs ls h hP hD hS (lv_sub (l' := []) hl [] rfl)
  have J53 : ∀ (w0_53 : Int64) (H : Heap) (locs : List Loc) (ls : Array Slot), zb_X0_combine_53 kX0 σ w0_53 = o → va_P (dC, dI) vwCl (Wd 153 (cfC ad cI cT cS) σ) H → va_D A (Wd 153 (cfC ad cI cT cS) σ) → va_S A s.heap H locs → lv_has ls 11 [(0, .ref (ad (kX0 + 4)))] → W p l e (headSpec vc_X0_combine { frames := 4, cells := 0, slots := 0, locals := 106 }).room s m (List.toArray (α := Value) [.ref (ad (kX0 + 4)), .int a1, .int a2, .int a3]) below meth c H locs 0 0 (MQ below (va_Qv (fun (_ : Unit) => True) (gB (dC, dI) A (fun (_ : Unit) => (Wd 153 (cfC ad cI cT cS) o))) A) (List.toArray (α := Value) [.ref (ad (kX0 + 4)), .int a1, .int a2, .int a3]) s 0 0 A) (F0 m 53 ls [.long w0_53]) := by
    intro w0_53 H locs ls h hP hD hS hl
    unfold zb_X0_combine_53 at h
    refine lv_lstore (lv' := [(8, .long w0_53), (0, .ref (ad (kX0 + 4)))]) hx hb dX0_combine_53 hl (by decide) rfl (fun ls hl => ?_)
    refine lv_lload hx hb dX0_combine_55 (lv_at hl 0 rfl) ?_
    refine lv_lload hx hb dX0_combine_57 (lv_at hl 0 rfl) ?_
    refine lv_l2i hx hb dX0_combine_59 rfl ?_
    refine lv_i2l hx hb dX0_combine_60 rfl ?_
    refine W.lcmp hx hb dX0_combine_61 ?_
    refine lv_if_ne (tgt := 69) hx hb dX0_combine_62 (by decide) (fun c15 => ?_) (fun c15 => ?_)
    · replace h := ifn (fun q => c15 (g_c_eq.mpr q)) h
      refine lv_iconst (v := 0) hx hb dX0_combine_69 (by decide) ?_
      exact J70 w0_53 false H locs ls h hP hD hS (lv_sub (l' := [(8, .long w0_53), (0, .ref (ad (kX0 + 4)))]) hl [0, 1] rfl)
    · replace h := ifp (g_c_eq.mp c15) h
      refine lv_iconst (v := 1) hx hb dX0_combine_65 (by decide) ?_
      refine lv_goto (tgt := 70) hx hb dX0_combine_66 (by decide) ?_
      exact J70 w0_53 true H locs ls h hP hD hS (lv_sub (l' := [(8, .long w0_53), (0, .ref (ad (kX0 + 4)))]) hl [0, 1] rfl)
  have J103 : ∀  (H : Heap) (locs : List Loc) (ls : Array Slot), zb_X0_combine_103 kX0 a1 a2 a3 σ = o → va_P (dC, dI) vwCl (Wd 153 (cfC ad cI cT cS) σ) H → va_D A (Wd 153 (cfC ad cI cT cS) σ) → va_S A s.heap H locs → lv_has ls 11 [(0, .ref (ad (kX0 + 4))), (1, .int a1), (2, .int a2), (3, .int a3)] → W p l e (headSpec vc_X0_combine { frames := 4, cells := 0, slots := 0, locals := 106 }).room s m (List.toArray (α := Value) [.ref (ad (kX0 + 4)), .int a1, .int a2, .int a3]) below meth c H locs 0 0 (MQ below (va_Qv (fun (_ : Unit) => True) (gB (dC, dI) A (fun (_ : Unit) => (Wd 153 (cfC ad cI cT cS) o))) A) (List.toArray (α := Value) [.ref (ad (kX0 + 4)), .int a1, .int a2, .int a3]) s 0 0 A) (F0 m 103 ls []) := by
    intro  H locs ls h hP hD hS hl
    unfold zb_X0_combine_103 at h
    refine lv_aload_n hx hb dX0_combine_103 rfl (lv_at hl 0 rfl) ?_
    refine gf_X0_0 hX0 hx hb hts iw_X0_combine_X0 hown hK hP (hts (.fieldLink RX0 25 "TraceTrees$Effect" "kindY" "I") (List.mem_of_getElem? (i := 1) rfl)) dX0_combine_104 ?_
    refine lv_iload_n hx hb dX0_combine_107 rfl (lv_at hl 2 rfl) ?_
    refine wcalli (S := Unit) (va_runS (As := [.int (σ (kX0 + 4) 0), .int a2]) (rest := []) ⟨hx, hb, hml, hown, hts⟩ (c_X1_ofRegister l dC dI cI cT cS H.size (Wd 153 (cfC ad cI cT cS) σ)  (σ (kX0 + 4) 0) a2 _ rfl) (va_cwS 2 hts (gWS (List.mem_of_getElem? (i := 3) rfl) (List.mem_of_getElem? (i := 4) rfl) (List.mem_of_getElem? (i := 5) rfl) ic_X0_combine_c_X1_ofRegister gd_c_X1_ofRegister) rfl rfl rfl (by decide +kernel) ⟨(Nat.le_of_ble_eq_true rfl), (Nat.le_of_ble_eq_true rfl)⟩) (gpS hP hK hD) rfl rfl hl.1 rfl (lv_room (Nat.le_of_ble_eq_true rfl)) dX0_combine_108 ⟨(Nat.le_of_ble_eq_true rfl), (Nat.le_of_ble_eq_true rfl)⟩) hP hD hS hA (fun rr7 _ H locs hr7 hP hD hS => ?_)
    refine lv_nm (y := (zf_X1_ofRegister (σ (kX0 + 4) 0) a2)) hr7 ?_
    obtain ⟨e8, he8, h⟩ := letb_inv h
    refine lv_nm he8 ?_
    refine lv_istore (lv' := [(4, .int e8), (0, .ref (ad (kX0 + 4))), (1, .int a1), (2, .int a2), (3, .int a3)]) hx hb dX0_combine_111 hl (by decide) rfl (fun ls hl => ?_)
    refine lv_aload_n hx hb dX0_combine_113 rfl (lv_at hl 1 rfl) ?_
    refine gf_X0_1 hX0 hx hb hts iw_X0_combine_X0 hown hK hP (hts (.fieldLink RX0 31 "TraceTrees$Effect" "kindZ" "I") (List.mem_of_getElem? (i := 2) rfl)) dX0_combine_114 ?_
    refine lv_iload_n hx hb dX0_combine_117 rfl (lv_at hl 4 rfl) ?_
    refine wcalli (S := Unit) (va_runS (As := [.int (σ (kX0 + 4) 1), .int a3]) (rest := []) ⟨hx, hb, hml, hown, hts⟩ (c_X1_ofRegister l dC dI cI cT cS H.size (Wd 153 (cfC ad cI cT cS) σ)  (σ (kX0 + 4) 1) a3 _ rfl) (va_cwS 2 hts (gWS (List.mem_of_getElem? (i := 3) rfl) (List.mem_of_getElem? (i := 4) rfl) (List.mem_of_getElem? (i := 5) rfl) ic_X0_combine_c_X1_ofRegister gd_c_X1_ofRegister) rfl rfl rfl (by decide +kernel) ⟨(Nat.le_of_ble_eq_true rfl), (Nat.le_of_ble_eq_true rfl)⟩) (gpS hP hK hD) rfl rfl hl.1 rfl (lv_room (Nat.le_of_ble_eq_true rfl)) dX0_combine_118 ⟨(Nat.le_of_ble_eq_true rfl), (Nat.le_of_ble_eq_true rfl)⟩) hP hD hS hA (fun rr9 _ H locs hr9 hP hD hS => ?_)
    refine lv_nm (y := (zf_X1_ofRegister (σ (kX0 + 4) 1) a3)) hr9 ?_
    obtain ⟨e10, he10, h⟩ := letb_inv h
    refine lv_nm he10 ?_
    refine lv_istore (lv' := [(5, .int e10), (4, .int e8), (0, .ref (ad (kX0 + 4))), (1, .int a1), (2, .int a2), (3, .int a3)]) hx hb dX0_combine_121 hl (by decide) rfl (fun ls hl => ?_)
    refine lv_aload_n hx hb dX0_combine_123 rfl (lv_at hl 2 rfl) ?_
    refine lv_iconst (v := 1) hx hb dX0_combine_124 (by decide) ?_
    refine lv_iload_n hx hb dX0_combine_125 rfl (lv_at hl 3 rfl) ?_
    refine lv_iconst (v := 4) hx hb dX0_combine_126 (by decide) ?_
    refine lv_icmp_ne (tgt := 140) hx hb dX0_combine_127 (by decide) (fun c11 => ?_) (fun c11 => ?_)
    · replace h := ifn (c11) h
      refine lv_iload hx hb dX0_combine_140 (lv_at hl 1 rfl) ?_
      refine lv_iload_n hx hb dX0_combine_142 rfl (lv_at hl 3 rfl) ?_
      refine lv_iconst (v := 3) hx hb dX0_combine_143 (by decide) ?_
      refine lv_icmp_ne (tgt := 155) hx hb dX0_combine_144 (by decide) (fun c12 => ?_) (fun c12 => ?_)
      · replace h := ifn (c12) h
        refine lv_iload hx hb dX0_combine_155 (lv_at hl 0 rfl) ?_
        exact J157 e10 e8 H locs ls h hP hD hS (lv_sub (l' := []) hl [] rfl)
      · replace h := ifp (c12) h
        refine lv_iload hx hb dX0_combine_147 (lv_at hl 0 rfl) ?_
        refine wcalli (S := Unit) (va_runS (As := [.int e10]) (rest := [.int e8, .int (1 : Int32), .ref (ad (kX0 + 4))]) ⟨hx, hb, hml, hown, hts⟩ (c_X1_opposite l dC dI cI cT cS H.size (Wd 153 (cfC ad cI cT cS) σ)  e10 _ rfl) (va_cwS 1 hts (gWS (List.mem_of_getElem? (i := 6) rfl) (List.mem_of_getElem? (i := 7) rfl) (List.mem_of_getElem? (i := 5) rfl) ic_X0_combine_c_X1_opposite gd_c_X1_opposite) rfl rfl rfl (by decide +kernel) ⟨(Nat.le_of_ble_eq_true rfl), (Nat.le_of_ble_eq_true rfl)⟩) (gpS hP hK hD) rfl rfl hl.1 rfl (lv_room (Nat.le_of_ble_eq_true rfl)) dX0_combine_149 ⟨(Nat.le_of_ble_eq_true rfl), (Nat.le_of_ble_eq_true rfl)⟩) hP hD hS hA (fun rr13 _ H locs hr13 hP hD hS => ?_)
        refine lv_nm (y := (zf_X1_opposite e10)) hr13 ?_
        refine lv_goto (tgt := 157) hx hb dX0_combine_152 (by decide) ?_
        exact J157 (zf_X1_opposite e10) e8 H locs ls h hP hD hS (lv_sub (l' := []) hl [] rfl)
    · replace h := ifp (c11) h
      refine lv_iload hx hb dX0_combine_130 (lv_at hl 1 rfl) ?_
      refine lv_iload hx hb dX0_combine_132 (lv_at hl 0 rfl) ?_
      refine wcalli (S := Unit) (va_runS (As := [.int e8, .int e10]) (rest := [.int (1 : Int32), .ref (ad (kX0 + 4))]) ⟨hx, hb, hml, hown, hts⟩ (c_X1_product l dC dI cI cT cS H.size (Wd 153 (cfC ad cI cT cS) σ)  e8 e10 _ rfl) (va_cwS 2 hts (gWS (List.mem_of_getElem? (i := 8) rfl) (List.mem_of_getElem? (i := 9) rfl) (List.mem_of_getElem? (i := 5) rfl) ic_X0_combine_c_X1_product gd_c_X1_product) rfl rfl rfl (by decide +kernel) ⟨(Nat.le_of_ble_eq_true rfl), (Nat.le_of_ble_eq_true rfl)⟩) (gpS hP hK hD) rfl rfl hl.1 rfl (lv_room (Nat.le_of_ble_eq_true rfl)) dX0_combine_134 ⟨(Nat.le_of_ble_eq_true rfl), (Nat.le_of_ble_eq_true rfl)⟩) hP hD hS hA (fun rr14 _ H locs hr14 hP hD hS => ?_)
      refine lv_nm (y := (zf_X1_product e8 e10)) hr14 ?_
      refine lv_goto (tgt := 160) hx hb dX0_combine_137 (by decide) ?_
      exact J160 (zf_X1_product e8 e10) H locs ls h hP hD hS (lv_sub (l' := []) hl [] rfl)
  refine lv_aload_n hx hb dX0_combine_0 rfl (lv_at hl 0 rfl) ?_
  refine gf_X0_0 hX0 hx hb hts iw_X0_combine_X0 hown hK hP (hts (.fieldLink RX0 25 "TraceTrees$Effect" "kindY" "I") (List.mem_of_getElem? (i := 1) rfl)) dX0_combine_1 ?_
  refine lv_if_ne (tgt := 103) hx hb dX0_combine_4 (by decide) (fun c1 => ?_) (fun c1 => ?_)
  · replace h := ifn (c1) h
    exact J103  H locs ls h hP hD hS (lv_sub (l' := [(0, .ref (ad (kX0 + 4))), (1, .int a1), (2, .int a2), (3, .int a3)]) hl [0, 1, 2, 3] rfl)
  · replace h := ifp (c1) h
    refine lv_aload_n hx hb dX0_combine_7 rfl (lv_at hl 0 rfl) ?_
    refine gf_X0_1 hX0 hx hb hts iw_X0_combine_X0 hown hK hP (hts (.fieldLink RX0 31 "TraceTrees$Effect" "kindZ" "I") (List.mem_of_getElem? (i := 2) rfl)) dX0_combine_8 ?_
    refine lv_if_ne (tgt := 103) hx hb dX0_combine_11 (by decide) (fun c2 => ?_) (fun c2 => ?_)
    · replace h := ifn (c2) h
      exact J103  H locs ls h hP hD hS (lv_sub (l' := [(0, .ref (ad (kX0 + 4))), (1, .int a1), (2, .int a2), (3, .int a3)]) hl [0, 1, 2, 3] rfl)
    · replace h := ifp (c2) h
      refine lv_iload_n hx hb dX0_combine_14 rfl (lv_at hl 2 rfl) ?_
      refine lv_i2l hx hb dX0_combine_15 rfl ?_
      obtain ⟨e3, he3, h⟩ := letb_inv h
      refine lv_nml he3 ?_
      refine lv_lstore (lv' := [(4, .long e3), (0, .ref (ad (kX0 + 4))), (1, .int a1), (2, .int a2), (3, .int a3)]) hx hb dX0_combine_16 hl (by decide) rfl (fun ls hl => ?_)
      refine lv_iload_n hx hb dX0_combine_18 rfl (lv_at hl 4 rfl) ?_
      refine lv_i2l hx hb dX0_combine_19 rfl ?_
      obtain ⟨e4, he4, h⟩ := letb_inv h
      refine lv_nml he4 ?_
      refine lv_lstore (lv' := [(6, .long e4), (4, .long e3), (0, .ref (ad (kX0 + 4))), (1, .int a1), (2, .int a2), (3, .int a3)]) hx hb dX0_combine_20 hl (by decide) rfl (fun ls hl => ?_)
      refine lv_iload_n hx hb dX0_combine_22 rfl (lv_at hl 3 rfl) ?_
      refine lv_iconst (v := 2) hx hb dX0_combine_23 (by decide) ?_
      refine lv_icmp_ne (tgt := 35) hx hb dX0_combine_24 (by decide) (fun c5 => ?_) (fun c5 => ?_)
      · replace h := ifn (c5) h
        refine lv_iload_n hx hb dX0_combine_35 rfl (lv_at hl 3 rfl) ?_
        refine lv_iconst (v := 3) hx hb dX0_combine_36 (by decide) ?_
        refine lv_icmp_ne (tgt := 48) hx hb dX0_combine_37 (by decide) (fun c6 => ?_) (fun c6 => ?_)
        · replace h := ifn (c6) h
          refine lv_lload hx hb dX0_combine_48 (lv_at hl 1 rfl) ?_
          refine lv_lload hx hb dX0_combine_50 (lv_at hl 0 rfl) ?_
          refine lv_lmul hx hb dX0_combine_52 ?_
          exact J53 (e3 * e4) H locs ls h hP hD hS (lv_sub (l' := [(0, .ref (ad (kX0 + 4)))]) hl [2] rfl)
        · replace h := ifp (c6) h
          refine lv_lload hx hb dX0_combine_40 (lv_at hl 1 rfl) ?_
          refine lv_lload hx hb dX0_combine_42 (lv_at hl 0 rfl) ?_
          refine lv_lsub hx hb dX0_combine_44 ?_
          refine lv_goto (tgt := 53) hx hb dX0_combine_45 (by decide) ?_
          exact J53 (e3 - e4) H locs ls h hP hD hS (lv_sub (l' := [(0, .ref (ad (kX0 + 4)))]) hl [2] rfl)
      · replace h := ifp (c5) h
        refine lv_lload hx hb dX0_combine_27 (lv_at hl 1 rfl) ?_
        refine lv_lload hx hb dX0_combine_29 (lv_at hl 0 rfl) ?_
        refine lv_ladd hx hb dX0_combine_31 ?_
        refine lv_goto (tgt := 53) hx hb dX0_combine_32 (by decide) ?_
        exact J53 (e3 + e4) H locs ls h hP hD hS (lv_sub (l' := [(0, .ref (ad (kX0 + 4)))]) hl [2] rfl)
def zb_X0_halve_42 (σb42 : Sg) : Sg := σb42
def zb_X0_halve_24 (kX0 : Nat) (a1 : Int32) (σ : Sg) : Sg := letb (zf_X0_become kX0 (1 : Int32) (zf_X1_product (zf_X1_ofRegister (σ (kX0 + 4) 1) a1) (1056964608 : Int32)) σ) (fun q7 => (zb_X0_halve_42 q7))
def zf_X0_halve (kX0 : Nat) (a1 : Int32) (σ : Sg) : Sg := (if (σ (kX0 + 4) 1) = 0 then (if (a1 &&& (1 : Int32)) = 0 then letb (zf_X0_become kX0 (0 : Int32) (a1 / (2 : Int32)) σ) (fun q3 => (zb_X0_halve_42 q3)) else (zb_X0_halve_24 kX0 a1 σ)) else (zb_X0_halve_24 kX0 a1 σ))
def oc_X0_halve : List Cond := [.fieldLink RX0 31 "TraceTrees$Effect" "kindZ" "I", .methodLink RX0 44 yX0_become, .instanceMethod yX0_become, .selects RX0 yX0_become yX0_become, .initialized RX0, .methodLink RX0 73 yX1_ofRegister, .static yX1_ofRegister, .initialized RX1, .constant RX0 86 (1056964608), .methodLink RX0 77 yX1_product, .static yX1_product]
def vc_X0_halve : List Cond := .code yX0_halve cX0_halve 2 none :: (oc_X0_halve ++ (wsX00 ++ (vc_X0_become ++ (vc_X1_ofRegister ++ (vc_X1_product)))))
theorem iw_X0_halve_X0 : ∀ w ∈ wsX00, w ∈ vc_X0_halve := fun _ h => List.mem_cons_of_mem _ (List.mem_append_right _ (List.mem_append_left _ h))
theorem ic_X0_halve_c_X0_become : ∀ w ∈ vc_X0_become, w ∈ vc_X0_halve := fun _ h => List.mem_cons_of_mem _ (List.mem_append_right _ (List.mem_append_right _ (List.mem_append_left _ h)))
theorem ic_X0_halve_c_X1_ofRegister : ∀ w ∈ vc_X1_ofRegister, w ∈ vc_X0_halve := fun _ h => List.mem_cons_of_mem _ (List.mem_append_right _ (List.mem_append_right _ (List.mem_append_right _ (List.mem_append_left _ h))))
theorem ic_X0_halve_c_X1_product : ∀ w ∈ vc_X1_product, w ∈ vc_X0_halve := fun _ h => List.mem_cons_of_mem _ (List.mem_append_right _ (List.mem_append_right _ (List.mem_append_right _ (List.mem_append_right _ (h)))))
theorem gd_c_X0_halve : (vc_X0_halve).all goodWord = true := gall_cons rfl (gall_app (by decide +kernel) (gall_app gw_X0 (gall_app gd_c_X0_become (gall_app gd_c_X1_ofRegister gd_c_X1_product))))
set_option maxHeartbeats 4000000 in
set_option maxRecDepth 100000 in
theorem c_X0_halve (l : Launch) (dC : Nat → ClassId) (dI : Nat → Nat → Nat) (cI cT cS : ClassId) (sz : Nat) (ad : Nat → Nat) (kX0 : Nat) (hX0 : isM kX0) (a1 : Int32) (σ : Sg) (o : Sg) (h : zf_X0_halve kX0 a1 σ = o) : gCV (S := Unit) l yX0_halve vc_X0_halve { frames := 4, cells := 0, slots := 0, locals := 97 } (dC, dI) (gTY cI cT cS) sz [.ref (ad (kX0 + 4)), .int a1] (Wd 153 (cfC ad cI cT cS) σ) (fun (_ : Unit) => True) (fun (_ : Unit) => (Wd 153 (cfC ad cI cT cS) o)) 0 0 := by
  refine Met.ofW (cc := cX0_halve) (maxL := 2) (ret := none) (by decide) rfl ?_
  intro p e s m args below meth c s₁ B hml hv
  obtain ⟨rfl, hsz, hP, hK, hD0⟩ := hv
  have hx := B.exec
  have hb := B.bytes
  have hr := B.returns
  have hts := atoms_spec (ws := vc_X0_halve) B.pre
  have hown : s.vm.findClass RX0 = some m.cls := findClass_of_methodNamed B.named
  have hlocks := B.notSynchronized
  subst hsz
  have hD := hD0.self (sz := s.heap.size)
  generalize hAe : va_A (Wd 153 (cfC ad cI cT cS) σ) s.heap.size = A at hD ⊢
  have hA : ∀ q : Nat, s.heap.size ≤ q → A q := fun q h => by rw [← hAe]; exact Or.inr h
  clear hAe hD0
  refine gstart (fun H locs hHe hLe => ?_)
  have hS : va_S A s.heap H locs := by rw [← hHe, ← hLe]; exact va_S.rf
  replace hP : va_P (dC, dI) vwCl (Wd 153 (cfC ad cI cT cS) σ) H := by rw [← hHe]; exact hP
  clear hHe hLe
  have hl := lv_entry ([.ref (ad (kX0 + 4)), .int a1]) (n := 2) (Nat.le_of_ble_eq_true rfl)
  rw [lg_entry_eq]
  generalize (lg_sl ([.ref (ad (kX0 + 4)), .int a1]) ++ List.replicate (2 - (lg_sl ([.ref (ad (kX0 + 4)), .int a1])).length) Slot.unset).toArray = ls at hl ⊢
  replace hl : lv_has ls 2 [(0, .ref (ad (kX0 + 4))), (1, .int a1)] := hl
  unfold zf_X0_halve at h
  have J42 : ∀ (σb42 : Sg) (H : Heap) (locs : List Loc) (ls : Array Slot), zb_X0_halve_42 σb42 = o → va_P (dC, dI) vwCl (Wd 153 (cfC ad cI cT cS) σb42) H → va_D A (Wd 153 (cfC ad cI cT cS) σb42) → va_S A s.heap H locs → lv_has ls 2 [] → W p l e (headSpec vc_X0_halve { frames := 4, cells := 0, slots := 0, locals := 97 }).room s m (List.toArray (α := Value) [.ref (ad (kX0 + 4)), .int a1]) below meth c H locs 0 0 (MQ below (va_Qv (fun (_ : Unit) => True) (gB (dC, dI) A (fun (_ : Unit) => (Wd 153 (cfC ad cI cT cS) o))) A) (List.toArray (α := Value) [.ref (ad (kX0 + 4)), .int a1]) s 0 0 A) (F0 m 42 ls []) := by
    intro σb42 H locs ls h hP hD hS hl
    unfold zb_X0_halve_42 at h
    have h9 := h
    exact wretv hx hb hr hlocks hP hD hS trivial (by rw [← h9]) dX0_halve_42
  have J24 : ∀  (H : Heap) (locs : List Loc) (ls : Array Slot), zb_X0_halve_24 kX0 a1 σ = o → va_P (dC, dI) vwCl (Wd 153 (cfC ad cI cT cS) σ) H → va_D A (Wd 153 (cfC ad cI cT cS) σ) → va_S A s.heap H locs → lv_has ls 2 [(0, .ref (ad (kX0 + 4))), (1, .int a1)] → W p l e (headSpec vc_X0_halve { frames := 4, cells := 0, slots := 0, locals := 97 }).room s m (List.toArray (α := Value) [.ref (ad (kX0 + 4)), .int a1]) below meth c H locs 0 0 (MQ below (va_Qv (fun (_ : Unit) => True) (gB (dC, dI) A (fun (_ : Unit) => (Wd 153 (cfC ad cI cT cS) o))) A) (List.toArray (α := Value) [.ref (ad (kX0 + 4)), .int a1]) s 0 0 A) (F0 m 24 ls []) := by
    intro  H locs ls h hP hD hS hl
    unfold zb_X0_halve_24 at h
    refine lv_aload_n hx hb dX0_halve_24 rfl (lv_at hl 0 rfl) ?_
    refine lv_iconst (v := 1) hx hb dX0_halve_25 (by decide) ?_
    refine lv_aload_n hx hb dX0_halve_26 rfl (lv_at hl 0 rfl) ?_
    refine gf_X0_1 hX0 hx hb hts iw_X0_halve_X0 hown hK hP (hts (.fieldLink RX0 31 "TraceTrees$Effect" "kindZ" "I") (List.mem_of_getElem? (i := 1) rfl)) dX0_halve_27 ?_
    refine lv_iload_n hx hb dX0_halve_30 rfl (lv_at hl 1 rfl) ?_
    refine wcalli (S := Unit) (va_runS (As := [.int (σ (kX0 + 4) 1), .int a1]) (rest := [.int (1 : Int32), .ref (ad (kX0 + 4))]) ⟨hx, hb, hml, hown, hts⟩ (c_X1_ofRegister l dC dI cI cT cS H.size (Wd 153 (cfC ad cI cT cS) σ)  (σ (kX0 + 4) 1) a1 _ rfl) (va_cwS 2 hts (gWS (List.mem_of_getElem? (i := 6) rfl) (List.mem_of_getElem? (i := 7) rfl) (List.mem_of_getElem? (i := 8) rfl) ic_X0_halve_c_X1_ofRegister gd_c_X1_ofRegister) rfl rfl rfl (by decide +kernel) ⟨(Nat.le_of_ble_eq_true rfl), (Nat.le_of_ble_eq_true rfl)⟩) (gpS hP hK hD) rfl rfl hl.1 rfl (lv_room (Nat.le_of_ble_eq_true rfl)) dX0_halve_31 ⟨(Nat.le_of_ble_eq_true rfl), (Nat.le_of_ble_eq_true rfl)⟩) hP hD hS hA (fun rr5 _ H locs hr5 hP hD hS => ?_)
    refine lv_nm (y := (zf_X1_ofRegister (σ (kX0 + 4) 1) a1)) hr5 ?_
    refine lv_ldc (v := 1056964608) hx hb hown (hts (.constant RX0 86 (1056964608)) (List.mem_of_getElem? (i := 9) rfl)) dX0_halve_34 ?_
    refine wcalli (S := Unit) (va_runS (As := [.int (zf_X1_ofRegister (σ (kX0 + 4) 1) a1), .int (1056964608 : Int32)]) (rest := [.int (1 : Int32), .ref (ad (kX0 + 4))]) ⟨hx, hb, hml, hown, hts⟩ (c_X1_product l dC dI cI cT cS H.size (Wd 153 (cfC ad cI cT cS) σ)  (zf_X1_ofRegister (σ (kX0 + 4) 1) a1) (1056964608 : Int32) _ rfl) (va_cwS 2 hts (gWS (List.mem_of_getElem? (i := 10) rfl) (List.mem_of_getElem? (i := 11) rfl) (List.mem_of_getElem? (i := 8) rfl) ic_X0_halve_c_X1_product gd_c_X1_product) rfl rfl rfl (by decide +kernel) ⟨(Nat.le_of_ble_eq_true rfl), (Nat.le_of_ble_eq_true rfl)⟩) (gpS hP hK hD) rfl rfl hl.1 rfl (lv_room (Nat.le_of_ble_eq_true rfl)) dX0_halve_36 ⟨(Nat.le_of_ble_eq_true rfl), (Nat.le_of_ble_eq_true rfl)⟩) hP hD hS hA (fun rr6 _ H locs hr6 hP hD hS => ?_)
    refine lv_nm (y := (zf_X1_product (zf_X1_ofRegister (σ (kX0 + 4) 1) a1) (1056964608 : Int32))) hr6 ?_
    obtain ⟨q7, hc7, h⟩ := letb_inv h
    refine wcallv (S := Unit) (va_runV (As := [.int (1 : Int32), .int (zf_X1_product (zf_X1_ofRegister (σ (kX0 + 4) 1) a1) (1056964608 : Int32))]) (rest := []) ⟨hx, hb, hml, hown, hts⟩ (c_X0_become l dC dI cI cT cS H.size ad kX0 hX0 (1 : Int32) (zf_X1_product (zf_X1_ofRegister (σ (kX0 + 4) 1) a1) (1056964608 : Int32)) σ _ hc7) (cwV 2 hts (gWV (List.mem_of_getElem? (i := 2) rfl) (List.mem_of_getElem? (i := 3) rfl) (List.mem_of_getElem? (i := 4) rfl) (List.mem_of_getElem? (i := 5) rfl) ic_X0_halve_c_X0_become gd_c_X0_become) rfl rfl rfl (by decide +kernel) ⟨(Nat.le_of_ble_eq_true rfl), (Nat.le_of_ble_eq_true rfl)⟩) (wpV (q := (RX0, TX0, 6)) hP hK hD (oX0 hX0) rfl) rfl rfl hl.1 rfl (lv_room (Nat.le_of_ble_eq_true rfl)) dX0_halve_39 ⟨(Nat.le_of_ble_eq_true rfl), (Nat.le_of_ble_eq_true rfl)⟩) hP hD hS hA (fun _ H locs hr8 hP hD hS => ?_)
    replace hP : va_P (dC, dI) vwCl (Wd 153 (cfC ad cI cT cS) q7) H := hP
    replace hD : va_D A (Wd 153 (cfC ad cI cT cS) q7) := hD
    exact J42 q7 H locs ls h hP hD hS (lv_sub (l' := []) hl [] rfl)
  refine lv_aload_n hx hb dX0_halve_0 rfl (lv_at hl 0 rfl) ?_
  refine gf_X0_1 hX0 hx hb hts iw_X0_halve_X0 hown hK hP (hts (.fieldLink RX0 31 "TraceTrees$Effect" "kindZ" "I") (List.mem_of_getElem? (i := 1) rfl)) dX0_halve_1 ?_
  refine lv_if_ne (tgt := 24) hx hb dX0_halve_4 (by decide) (fun c1 => ?_) (fun c1 => ?_)
  · replace h := ifn (c1) h
    exact J24  H locs ls h hP hD hS (lv_sub (l' := [(0, .ref (ad (kX0 + 4))), (1, .int a1)]) hl [0, 1] rfl)
  · replace h := ifp (c1) h
    refine lv_iload_n hx hb dX0_halve_7 rfl (lv_at hl 1 rfl) ?_
    refine lv_iconst (v := 1) hx hb dX0_halve_8 (by decide) ?_
    refine lv_iand hx hb dX0_halve_9 ?_
    refine lv_if_ne (tgt := 24) hx hb dX0_halve_10 (by decide) (fun c2 => ?_) (fun c2 => ?_)
    · replace h := ifn (c2) h
      exact J24  H locs ls h hP hD hS (lv_sub (l' := [(0, .ref (ad (kX0 + 4))), (1, .int a1)]) hl [0, 1] rfl)
    · replace h := ifp (c2) h
      refine lv_aload_n hx hb dX0_halve_13 rfl (lv_at hl 0 rfl) ?_
      refine lv_iconst (v := 0) hx hb dX0_halve_14 (by decide) ?_
      refine lv_iload_n hx hb dX0_halve_15 rfl (lv_at hl 1 rfl) ?_
      refine lv_iconst (v := 2) hx hb dX0_halve_16 (by decide) ?_
      refine lv_idiv hx hb dX0_halve_17 (by decide) ?_
      obtain ⟨q3, hc3, h⟩ := letb_inv h
      refine wcallv (S := Unit) (va_runV (As := [.int (0 : Int32), .int (a1 / (2 : Int32))]) (rest := []) ⟨hx, hb, hml, hown, hts⟩ (c_X0_become l dC dI cI cT cS H.size ad kX0 hX0 (0 : Int32) (a1 / (2 : Int32)) σ _ hc3) (cwV 2 hts (gWV (List.mem_of_getElem? (i := 2) rfl) (List.mem_of_getElem? (i := 3) rfl) (List.mem_of_getElem? (i := 4) rfl) (List.mem_of_getElem? (i := 5) rfl) ic_X0_halve_c_X0_become gd_c_X0_become) rfl rfl rfl (by decide +kernel) ⟨(Nat.le_of_ble_eq_true rfl), (Nat.le_of_ble_eq_true rfl)⟩) (wpV (q := (RX0, TX0, 6)) hP hK hD (oX0 hX0) rfl) rfl rfl hl.1 rfl (lv_room (Nat.le_of_ble_eq_true rfl)) dX0_halve_18 ⟨(Nat.le_of_ble_eq_true rfl), (Nat.le_of_ble_eq_true rfl)⟩) hP hD hS hA (fun _ H locs hr4 hP hD hS => ?_)
      replace hP : va_P (dC, dI) vwCl (Wd 153 (cfC ad cI cT cS) q3) H := hP
      replace hD : va_D A (Wd 153 (cfC ad cI cT cS) q3) := hD
      refine lv_goto (tgt := 42) hx hb dX0_halve_21 (by decide) ?_
      exact J42 q3 H locs ls h hP hD hS (lv_sub (l' := []) hl [] rfl)
def zb_X0_isLess_24 (w0_24 : Bool) : Bool := w0_24
def zb_X0_isLess_25 (kX0 : Nat) (a1 : Int32) (a2 : Int32) (σ : Sg) : Bool := (zf_X1_isLess (zf_X1_ofRegister (σ (kX0 + 4) 0) a1) (zf_X1_ofRegister (σ (kX0 + 4) 1) a2))
def zf_X0_isLess (kX0 : Nat) (a1 : Int32) (a2 : Int32) (σ : Sg) : Bool := (if (σ (kX0 + 4) 0) = 0 then (if (σ (kX0 + 4) 1) = 0 then (if a2 ≤ a1 then (zb_X0_isLess_24 false) else (zb_X0_isLess_24 true)) else (zb_X0_isLess_25 kX0 a1 a2 σ)) else (zb_X0_isLess_25 kX0 a1 a2 σ))
def oc_X0_isLess : List Cond := [.fieldLink RX0 25 "TraceTrees$Effect" "kindY" "I", .fieldLink RX0 31 "TraceTrees$Effect" "kindZ" "I", .methodLink RX0 73 yX1_ofRegister, .static yX1_ofRegister, .initialized RX1, .methodLink RX0 87 yX1_isLess, .static yX1_isLess]
def vc_X0_isLess : List Cond := .code yX0_isLess cX0_isLess 3 (some .boolean) :: (oc_X0_isLess ++ (wsX00 ++ (vc_X1_ofRegister ++ (vc_X1_isLess))))
theorem iw_X0_isLess_X0 : ∀ w ∈ wsX00, w ∈ vc_X0_isLess := fun _ h => List.mem_cons_of_mem _ (List.mem_append_right _ (List.mem_append_left _ h))
theorem ic_X0_isLess_c_X1_ofRegister : ∀ w ∈ vc_X1_ofRegister, w ∈ vc_X0_isLess := fun _ h => List.mem_cons_of_mem _ (List.mem_append_right _ (List.mem_append_right _ (List.mem_append_left _ h)))
theorem ic_X0_isLess_c_X1_isLess : ∀ w ∈ vc_X1_isLess, w ∈ vc_X0_isLess := fun _ h => List.mem_cons_of_mem _ (List.mem_append_right _ (List.mem_append_right _ (List.mem_append_right _ (h))))
theorem gd_c_X0_isLess : (vc_X0_isLess).all goodWord = true := gall_cons rfl (gall_app (by decide +kernel) (gall_app gw_X0 (gall_app gd_c_X1_ofRegister gd_c_X1_isLess)))
set_option maxHeartbeats 4000000 in
set_option maxRecDepth 100000 in
theorem c_X0_isLess (l : Launch) (dC : Nat → ClassId) (dI : Nat → Nat → Nat) (cI cT cS : ClassId) (sz : Nat) (ad : Nat → Nat) (kX0 : Nat) (hX0 : isM kX0) (a1 : Int32) (a2 : Int32) (σ : Sg) (o : Bool) (h : zf_X0_isLess kX0 a1 a2 σ = o) : gCI (S := Unit) l yX0_isLess vc_X0_isLess { frames := 4, cells := 0, slots := 0, locals := 96 } (dC, dI) (gTY cI cT cS) sz [.ref (ad (kX0 + 4)), .int a1, .int a2] (Wd 153 (cfC ad cI cT cS) σ) (fun (r : Int32) (_ : Unit) => r = b2i o) (fun (_ : Unit) => (Wd 153 (cfC ad cI cT cS) σ)) 0 0 := by
  refine Met.ofW (cc := cX0_isLess) (maxL := 3) (ret := (some .boolean)) (by decide) rfl ?_
  intro p e s m args below meth c s₁ B hml hv
  obtain ⟨rfl, hsz, hP, hK, hD0⟩ := hv
  have hx := B.exec
  have hb := B.bytes
  have hr := B.returns
  have hts := atoms_spec (ws := vc_X0_isLess) B.pre
  have hown : s.vm.findClass RX0 = some m.cls := findClass_of_methodNamed B.named
  have hlocks := B.notSynchronized
  subst hsz
  have hD := hD0.self (sz := s.heap.size)
  generalize hAe : va_A (Wd 153 (cfC ad cI cT cS) σ) s.heap.size = A at hD ⊢
  have hA : ∀ q : Nat, s.heap.size ≤ q → A q := fun q h => by rw [← hAe]; exact Or.inr h
  clear hAe hD0
  refine gstart (fun H locs hHe hLe => ?_)
  have hS : va_S A s.heap H locs := by rw [← hHe, ← hLe]; exact va_S.rf
  replace hP : va_P (dC, dI) vwCl (Wd 153 (cfC ad cI cT cS) σ) H := by rw [← hHe]; exact hP
  clear hHe hLe
  have hl := lv_entry ([.ref (ad (kX0 + 4)), .int a1, .int a2]) (n := 3) (Nat.le_of_ble_eq_true rfl)
  rw [lg_entry_eq]
  generalize (lg_sl ([.ref (ad (kX0 + 4)), .int a1, .int a2]) ++ List.replicate (3 - (lg_sl ([.ref (ad (kX0 + 4)), .int a1, .int a2])).length) Slot.unset).toArray = ls at hl ⊢
  replace hl : lv_has ls 3 [(0, .ref (ad (kX0 + 4))), (1, .int a1), (2, .int a2)] := hl
  unfold zf_X0_isLess at h
  have J24 : ∀ (w0_24 : Bool) (H : Heap) (locs : List Loc) (ls : Array Slot), zb_X0_isLess_24 w0_24 = o → va_P (dC, dI) vwCl (Wd 153 (cfC ad cI cT cS) σ) H → va_D A (Wd 153 (cfC ad cI cT cS) σ) → va_S A s.heap H locs → lv_has ls 3 [] → W p l e (headSpec vc_X0_isLess { frames := 4, cells := 0, slots := 0, locals := 96 }).room s m (List.toArray (α := Value) [.ref (ad (kX0 + 4)), .int a1, .int a2]) below meth c H locs 0 0 (MQ below (va_Qi (fun (r : Int32) (_ : Unit) => r = b2i o) (gB (dC, dI) A (fun (_ : Unit) => (Wd 153 (cfC ad cI cT cS) σ))) A) (List.toArray (α := Value) [.ref (ad (kX0 + 4)), .int a1, .int a2]) s 0 0 A) (F0 m 24 ls [.int (b2i w0_24)]) := by
    intro w0_24 H locs ls h hP hD hS hl
    unfold zb_X0_isLess_24 at h
    have h9 := h
    exact wretz hx hb hr hlocks (b2i_or _) hP hD hS (by show _ = _; rw [← h9]; first | done | rfl) rfl dX0_isLess_24
  have J25 : ∀  (H : Heap) (locs : List Loc) (ls : Array Slot), zb_X0_isLess_25 kX0 a1 a2 σ = o → va_P (dC, dI) vwCl (Wd 153 (cfC ad cI cT cS) σ) H → va_D A (Wd 153 (cfC ad cI cT cS) σ) → va_S A s.heap H locs → lv_has ls 3 [(0, .ref (ad (kX0 + 4))), (1, .int a1), (2, .int a2)] → W p l e (headSpec vc_X0_isLess { frames := 4, cells := 0, slots := 0, locals := 96 }).room s m (List.toArray (α := Value) [.ref (ad (kX0 + 4)), .int a1, .int a2]) below meth c H locs 0 0 (MQ below (va_Qi (fun (r : Int32) (_ : Unit) => r = b2i o) (gB (dC, dI) A (fun (_ : Unit) => (Wd 153 (cfC ad cI cT cS) σ))) A) (List.toArray (α := Value) [.ref (ad (kX0 + 4)), .int a1, .int a2]) s 0 0 A) (F0 m 25 ls []) := by
    intro  H locs ls h hP hD hS hl
    unfold zb_X0_isLess_25 at h
    refine lv_aload_n hx hb dX0_isLess_25 rfl (lv_at hl 0 rfl) ?_
    refine gf_X0_0 hX0 hx hb hts iw_X0_isLess_X0 hown hK hP (hts (.fieldLink RX0 25 "TraceTrees$Effect" "kindY" "I") (List.mem_of_getElem? (i := 1) rfl)) dX0_isLess_26 ?_
    refine lv_iload_n hx hb dX0_isLess_29 rfl (lv_at hl 1 rfl) ?_
    refine wcalli (S := Unit) (va_runS (As := [.int (σ (kX0 + 4) 0), .int a1]) (rest := []) ⟨hx, hb, hml, hown, hts⟩ (c_X1_ofRegister l dC dI cI cT cS H.size (Wd 153 (cfC ad cI cT cS) σ)  (σ (kX0 + 4) 0) a1 _ rfl) (va_cwS 2 hts (gWS (List.mem_of_getElem? (i := 3) rfl) (List.mem_of_getElem? (i := 4) rfl) (List.mem_of_getElem? (i := 5) rfl) ic_X0_isLess_c_X1_ofRegister gd_c_X1_ofRegister) rfl rfl rfl (by decide +kernel) ⟨(Nat.le_of_ble_eq_true rfl), (Nat.le_of_ble_eq_true rfl)⟩) (gpS hP hK hD) rfl rfl hl.1 rfl (lv_room (Nat.le_of_ble_eq_true rfl)) dX0_isLess_30 ⟨(Nat.le_of_ble_eq_true rfl), (Nat.le_of_ble_eq_true rfl)⟩) hP hD hS hA (fun rr4 _ H locs hr4 hP hD hS => ?_)
    refine lv_nm (y := (zf_X1_ofRegister (σ (kX0 + 4) 0) a1)) hr4 ?_
    refine lv_aload_n hx hb dX0_isLess_33 rfl (lv_at hl 0 rfl) ?_
    refine gf_X0_1 hX0 hx hb hts iw_X0_isLess_X0 hown hK hP (hts (.fieldLink RX0 31 "TraceTrees$Effect" "kindZ" "I") (List.mem_of_getElem? (i := 2) rfl)) dX0_isLess_34 ?_
    refine lv_iload_n hx hb dX0_isLess_37 rfl (lv_at hl 2 rfl) ?_
    refine wcalli (S := Unit) (va_runS (As := [.int (σ (kX0 + 4) 1), .int a2]) (rest := [.int (zf_X1_ofRegister (σ (kX0 + 4) 0) a1)]) ⟨hx, hb, hml, hown, hts⟩ (c_X1_ofRegister l dC dI cI cT cS H.size (Wd 153 (cfC ad cI cT cS) σ)  (σ (kX0 + 4) 1) a2 _ rfl) (va_cwS 2 hts (gWS (List.mem_of_getElem? (i := 3) rfl) (List.mem_of_getElem? (i := 4) rfl) (List.mem_of_getElem? (i := 5) rfl) ic_X0_isLess_c_X1_ofRegister gd_c_X1_ofRegister) rfl rfl rfl (by decide +kernel) ⟨(Nat.le_of_ble_eq_true rfl), (Nat.le_of_ble_eq_true rfl)⟩) (gpS hP hK hD) rfl rfl hl.1 rfl (lv_room (Nat.le_of_ble_eq_true rfl)) dX0_isLess_38 ⟨(Nat.le_of_ble_eq_true rfl), (Nat.le_of_ble_eq_true rfl)⟩) hP hD hS hA (fun rr5 _ H locs hr5 hP hD hS => ?_)
    refine lv_nm (y := (zf_X1_ofRegister (σ (kX0 + 4) 1) a2)) hr5 ?_
    refine wcalli (S := Unit) (va_runS (As := [.int (zf_X1_ofRegister (σ (kX0 + 4) 0) a1), .int (zf_X1_ofRegister (σ (kX0 + 4) 1) a2)]) (rest := []) ⟨hx, hb, hml, hown, hts⟩ (c_X1_isLess l dC dI cI cT cS H.size (Wd 153 (cfC ad cI cT cS) σ)  (zf_X1_ofRegister (σ (kX0 + 4) 0) a1) (zf_X1_ofRegister (σ (kX0 + 4) 1) a2) _ rfl) (va_cwS 2 hts (gWS (List.mem_of_getElem? (i := 6) rfl) (List.mem_of_getElem? (i := 7) rfl) (List.mem_of_getElem? (i := 5) rfl) ic_X0_isLess_c_X1_isLess gd_c_X1_isLess) rfl rfl rfl (by decide +kernel) ⟨(Nat.le_of_ble_eq_true rfl), (Nat.le_of_ble_eq_true rfl)⟩) (gpS hP hK hD) rfl rfl hl.1 rfl (lv_room (Nat.le_of_ble_eq_true rfl)) dX0_isLess_41 ⟨(Nat.le_of_ble_eq_true rfl), (Nat.le_of_ble_eq_true rfl)⟩) hP hD hS hA (fun rr6 _ H locs hr6 hP hD hS => ?_)
    refine lv_nm (y := b2i (zf_X1_isLess (zf_X1_ofRegister (σ (kX0 + 4) 0) a1) (zf_X1_ofRegister (σ (kX0 + 4) 1) a2))) hr6 ?_
    have h9 := h
    exact wretz hx hb hr hlocks (b2i_or _) hP hD hS (by show _ = _; rw [← h9]; first | done | rfl) rfl dX0_isLess_44
  refine lv_aload_n hx hb dX0_isLess_0 rfl (lv_at hl 0 rfl) ?_
  refine gf_X0_0 hX0 hx hb hts iw_X0_isLess_X0 hown hK hP (hts (.fieldLink RX0 25 "TraceTrees$Effect" "kindY" "I") (List.mem_of_getElem? (i := 1) rfl)) dX0_isLess_1 ?_
  refine lv_if_ne (tgt := 25) hx hb dX0_isLess_4 (by decide) (fun c1 => ?_) (fun c1 => ?_)
  · replace h := ifn (c1) h
    exact J25  H locs ls h hP hD hS (lv_sub (l' := [(0, .ref (ad (kX0 + 4))), (1, .int a1), (2, .int a2)]) hl [0, 1, 2] rfl)
  · replace h := ifp (c1) h
    refine lv_aload_n hx hb dX0_isLess_7 rfl (lv_at hl 0 rfl) ?_
    refine gf_X0_1 hX0 hx hb hts iw_X0_isLess_X0 hown hK hP (hts (.fieldLink RX0 31 "TraceTrees$Effect" "kindZ" "I") (List.mem_of_getElem? (i := 2) rfl)) dX0_isLess_8 ?_
    refine lv_if_ne (tgt := 25) hx hb dX0_isLess_11 (by decide) (fun c2 => ?_) (fun c2 => ?_)
    · replace h := ifn (c2) h
      exact J25  H locs ls h hP hD hS (lv_sub (l' := [(0, .ref (ad (kX0 + 4))), (1, .int a1), (2, .int a2)]) hl [0, 1, 2] rfl)
    · replace h := ifp (c2) h
      refine lv_iload_n hx hb dX0_isLess_14 rfl (lv_at hl 1 rfl) ?_
      refine lv_iload_n hx hb dX0_isLess_15 rfl (lv_at hl 2 rfl) ?_
      refine lv_icmp_ge (tgt := 23) hx hb dX0_isLess_16 (by decide) (fun c3 => ?_) (fun c3 => ?_)
      · replace h := ifp (c3) h
        refine lv_iconst (v := 0) hx hb dX0_isLess_23 (by decide) ?_
        exact J24 false H locs ls h hP hD hS (lv_sub (l' := []) hl [] rfl)
      · replace h := ifn (c3) h
        refine lv_iconst (v := 1) hx hb dX0_isLess_19 (by decide) ?_
        refine lv_goto (tgt := 24) hx hb dX0_isLess_20 (by decide) ?_
        exact J24 true H locs ls h hP hD hS (lv_sub (l' := []) hl [] rfl)
def zb_X0_foresee_276 (σb276 : Sg) : Option (Sg) := some σb276
def zb_X0_foresee_273 (kX0 : Nat) (w0_273 : Bool) (σb273 : Sg) : Option (Sg) := (zb_X0_foresee_276 (su σb273 (kX0 + 4) 2 (b2i w0_273)))
def zb_X0_foresee_115 (kX0 : Nat) (k3 : Nat) (v6_115 : Int32) (v5_115 : Int32) (v4_115 : Int32) (σb115 : Sg) : Option (Sg) := bd v4_115 8 (bd v5_115 8 (letb (zf_X0_combine kX0 v6_115 (σb115 (k3 + 2) v4_115.toNatClampNeg) (σb115 (k3 + 2) v5_115.toNatClampNeg) σb115) (fun q30 => (zb_X0_foresee_276 (su q30 (kX0 + 4) 2 (q30 (kX0 + 4) 4))))))
def zb_X0_foresee_216 (kX0 : Nat) (w0_216 : Bool) (σb216 : Sg) : Option (Sg) := (zb_X0_foresee_276 (su σb216 (kX0 + 4) 2 (b2i w0_216)))
def zb_X0_foresee_257 (kX0 : Nat) (w0_257 : Bool) (σb257 : Sg) : Option (Sg) := (if (b2i w0_257) = 0 then (zb_X0_foresee_273 kX0 false (su σb257 (kX0 + 4) 3 (b2i w0_257))) else (zb_X0_foresee_273 kX0 true (su σb257 (kX0 + 4) 3 (b2i w0_257))))
def zf_X0_foresee (kX0 : Nat) (a2 : Int32) (k3 : Nat) (σ : Sg) : Option (Sg) := obd (zf_X4_y a2 σ) (fun r1 => obd (zf_X4_z a2 σ) (fun r3 => bd a2 24 (letb (σ 2 a2.toNatClampNeg) (fun e6 => bd r1 8 (bd r3 8 ((if e6 = 0 then letb (zf_X0_become kX0 (0 : Int32) (σ 4 a2.toNatClampNeg) (su (su (su (su σ (kX0 + 4) 0 (σ (k3 + 1) r1.toNatClampNeg)) (kX0 + 4) 1 ((su σ (kX0 + 4) 0 (σ (k3 + 1) r1.toNatClampNeg)) (k3 + 1) r3.toNatClampNeg)) (kX0 + 4) 2 (0 : Int32)) (kX0 + 4) 3 (0 : Int32))) (fun q25 => (zb_X0_foresee_276 q25)) else (if e6 = (1 : Int32) then letb (zf_X0_become kX0 ((su σ (kX0 + 4) 0 (σ (k3 + 1) r1.toNatClampNeg)) (k3 + 1) r3.toNatClampNeg) ((su (su (su (su σ (kX0 + 4) 0 (σ (k3 + 1) r1.toNatClampNeg)) (kX0 + 4) 1 ((su σ (kX0 + 4) 0 (σ (k3 + 1) r1.toNatClampNeg)) (k3 + 1) r3.toNatClampNeg)) (kX0 + 4) 2 (0 : Int32)) (kX0 + 4) 3 (0 : Int32)) (k3 + 2) r3.toNatClampNeg) (su (su (su (su σ (kX0 + 4) 0 (σ (k3 + 1) r1.toNatClampNeg)) (kX0 + 4) 1 ((su σ (kX0 + 4) 0 (σ (k3 + 1) r1.toNatClampNeg)) (k3 + 1) r3.toNatClampNeg)) (kX0 + 4) 2 (0 : Int32)) (kX0 + 4) 3 (0 : Int32))) (fun q23 => (zb_X0_foresee_276 q23)) else (if e6 = (2 : Int32) then (zb_X0_foresee_115 kX0 k3 e6 r3 r1 (su (su (su (su σ (kX0 + 4) 0 (σ (k3 + 1) r1.toNatClampNeg)) (kX0 + 4) 1 ((su σ (kX0 + 4) 0 (σ (k3 + 1) r1.toNatClampNeg)) (k3 + 1) r3.toNatClampNeg)) (kX0 + 4) 2 (0 : Int32)) (kX0 + 4) 3 (0 : Int32))) else (if e6 = (3 : Int32) then (zb_X0_foresee_115 kX0 k3 e6 r3 r1 (su (su (su (su σ (kX0 + 4) 0 (σ (k3 + 1) r1.toNatClampNeg)) (kX0 + 4) 1 ((su σ (kX0 + 4) 0 (σ (k3 + 1) r1.toNatClampNeg)) (k3 + 1) r3.toNatClampNeg)) (kX0 + 4) 2 (0 : Int32)) (kX0 + 4) 3 (0 : Int32))) else (if e6 = (4 : Int32) then (zb_X0_foresee_115 kX0 k3 e6 r3 r1 (su (su (su (su σ (kX0 + 4) 0 (σ (k3 + 1) r1.toNatClampNeg)) (kX0 + 4) 1 ((su σ (kX0 + 4) 0 (σ (k3 + 1) r1.toNatClampNeg)) (k3 + 1) r3.toNatClampNeg)) (kX0 + 4) 2 (0 : Int32)) (kX0 + 4) 3 (0 : Int32))) else (if e6 = (5 : Int32) then letb (zf_X0_halve kX0 ((su (su (su (su σ (kX0 + 4) 0 (σ (k3 + 1) r1.toNatClampNeg)) (kX0 + 4) 1 ((su σ (kX0 + 4) 0 (σ (k3 + 1) r1.toNatClampNeg)) (k3 + 1) r3.toNatClampNeg)) (kX0 + 4) 2 (0 : Int32)) (kX0 + 4) 3 (0 : Int32)) (k3 + 2) r3.toNatClampNeg) (su (su (su (su σ (kX0 + 4) 0 (σ (k3 + 1) r1.toNatClampNeg)) (kX0 + 4) 1 ((su σ (kX0 + 4) 0 (σ (k3 + 1) r1.toNatClampNeg)) (k3 + 1) r3.toNatClampNeg)) (kX0 + 4) 2 (0 : Int32)) (kX0 + 4) 3 (0 : Int32))) (fun q21 => (zb_X0_foresee_276 (su q21 (kX0 + 4) 2 (q21 (kX0 + 4) 4)))) else (if e6 = (6 : Int32) then (if (b2i (zf_X0_isLess kX0 ((su (su (su (su σ (kX0 + 4) 0 (σ (k3 + 1) r1.toNatClampNeg)) (kX0 + 4) 1 ((su σ (kX0 + 4) 0 (σ (k3 + 1) r1.toNatClampNeg)) (k3 + 1) r3.toNatClampNeg)) (kX0 + 4) 2 (0 : Int32)) (kX0 + 4) 3 (0 : Int32)) (k3 + 2) r1.toNatClampNeg) ((su (su (su (su σ (kX0 + 4) 0 (σ (k3 + 1) r1.toNatClampNeg)) (kX0 + 4) 1 ((su σ (kX0 + 4) 0 (σ (k3 + 1) r1.toNatClampNeg)) (k3 + 1) r3.toNatClampNeg)) (kX0 + 4) 2 (0 : Int32)) (kX0 + 4) 3 (0 : Int32)) (k3 + 2) r3.toNatClampNeg) (su (su (su (su σ (kX0 + 4) 0 (σ (k3 + 1) r1.toNatClampNeg)) (kX0 + 4) 1 ((su σ (kX0 + 4) 0 (σ (k3 + 1) r1.toNatClampNeg)) (k3 + 1) r3.toNatClampNeg)) (kX0 + 4) 2 (0 : Int32)) (kX0 + 4) 3 (0 : Int32)))) = 0 then (zb_X0_foresee_216 kX0 false (su (su (su (su (su σ (kX0 + 4) 0 (σ (k3 + 1) r1.toNatClampNeg)) (kX0 + 4) 1 ((su σ (kX0 + 4) 0 (σ (k3 + 1) r1.toNatClampNeg)) (k3 + 1) r3.toNatClampNeg)) (kX0 + 4) 2 (0 : Int32)) (kX0 + 4) 3 (0 : Int32)) (kX0 + 4) 3 (b2i (zf_X0_isLess kX0 ((su (su (su (su σ (kX0 + 4) 0 (σ (k3 + 1) r1.toNatClampNeg)) (kX0 + 4) 1 ((su σ (kX0 + 4) 0 (σ (k3 + 1) r1.toNatClampNeg)) (k3 + 1) r3.toNatClampNeg)) (kX0 + 4) 2 (0 : Int32)) (kX0 + 4) 3 (0 : Int32)) (k3 + 2) r1.toNatClampNeg) ((su (su (su (su σ (kX0 + 4) 0 (σ (k3 + 1) r1.toNatClampNeg)) (kX0 + 4) 1 ((su σ (kX0 + 4) 0 (σ (k3 + 1) r1.toNatClampNeg)) (k3 + 1) r3.toNatClampNeg)) (kX0 + 4) 2 (0 : Int32)) (kX0 + 4) 3 (0 : Int32)) (k3 + 2) r3.toNatClampNeg) (su (su (su (su σ (kX0 + 4) 0 (σ (k3 + 1) r1.toNatClampNeg)) (kX0 + 4) 1 ((su σ (kX0 + 4) 0 (σ (k3 + 1) r1.toNatClampNeg)) (k3 + 1) r3.toNatClampNeg)) (kX0 + 4) 2 (0 : Int32)) (kX0 + 4) 3 (0 : Int32)))))) else (zb_X0_foresee_216 kX0 true (su (su (su (su (su σ (kX0 + 4) 0 (σ (k3 + 1) r1.toNatClampNeg)) (kX0 + 4) 1 ((su σ (kX0 + 4) 0 (σ (k3 + 1) r1.toNatClampNeg)) (k3 + 1) r3.toNatClampNeg)) (kX0 + 4) 2 (0 : Int32)) (kX0 + 4) 3 (0 : Int32)) (kX0 + 4) 3 (b2i (zf_X0_isLess kX0 ((su (su (su (su σ (kX0 + 4) 0 (σ (k3 + 1) r1.toNatClampNeg)) (kX0 + 4) 1 ((su σ (kX0 + 4) 0 (σ (k3 + 1) r1.toNatClampNeg)) (k3 + 1) r3.toNatClampNeg)) (kX0 + 4) 2 (0 : Int32)) (kX0 + 4) 3 (0 : Int32)) (k3 + 2) r1.toNatClampNeg) ((su (su (su (su σ (kX0 + 4) 0 (σ (k3 + 1) r1.toNatClampNeg)) (kX0 + 4) 1 ((su σ (kX0 + 4) 0 (σ (k3 + 1) r1.toNatClampNeg)) (k3 + 1) r3.toNatClampNeg)) (kX0 + 4) 2 (0 : Int32)) (kX0 + 4) 3 (0 : Int32)) (k3 + 2) r3.toNatClampNeg) (su (su (su (su σ (kX0 + 4) 0 (σ (k3 + 1) r1.toNatClampNeg)) (kX0 + 4) 1 ((su σ (kX0 + 4) 0 (σ (k3 + 1) r1.toNatClampNeg)) (k3 + 1) r3.toNatClampNeg)) (kX0 + 4) 2 (0 : Int32)) (kX0 + 4) 3 (0 : Int32))))))) else (if e6 = (7 : Int32) then (zb_X0_foresee_276 (su (su (su (su (su σ (kX0 + 4) 0 (σ (k3 + 1) r1.toNatClampNeg)) (kX0 + 4) 1 ((su σ (kX0 + 4) 0 (σ (k3 + 1) r1.toNatClampNeg)) (k3 + 1) r3.toNatClampNeg)) (kX0 + 4) 2 (0 : Int32)) (kX0 + 4) 3 (0 : Int32)) (kX0 + 4) 3 (1 : Int32))) else (if e6 = (8 : Int32) then (if ((su σ (kX0 + 4) 0 (σ (k3 + 1) r1.toNatClampNeg)) (k3 + 1) r3.toNatClampNeg) = 0 then (zb_X0_foresee_257 kX0 true (su (su (su (su σ (kX0 + 4) 0 (σ (k3 + 1) r1.toNatClampNeg)) (kX0 + 4) 1 ((su σ (kX0 + 4) 0 (σ (k3 + 1) r1.toNatClampNeg)) (k3 + 1) r3.toNatClampNeg)) (kX0 + 4) 2 (0 : Int32)) (kX0 + 4) 3 (0 : Int32))) else (zb_X0_foresee_257 kX0 false (su (su (su (su σ (kX0 + 4) 0 (σ (k3 + 1) r1.toNatClampNeg)) (kX0 + 4) 1 ((su σ (kX0 + 4) 0 (σ (k3 + 1) r1.toNatClampNeg)) (k3 + 1) r3.toNatClampNeg)) (kX0 + 4) 2 (0 : Int32)) (kX0 + 4) 3 (0 : Int32)))) else (zb_X0_foresee_276 (su (su (su (su σ (kX0 + 4) 0 (σ (k3 + 1) r1.toNatClampNeg)) (kX0 + 4) 1 ((su σ (kX0 + 4) 0 (σ (k3 + 1) r1.toNatClampNeg)) (k3 + 1) r3.toNatClampNeg)) (kX0 + 4) 2 (0 : Int32)) (kX0 + 4) 3 (0 : Int32))))))))))))))))))
def oc_X0_foresee : List Cond := [.methodLink RX0 9 yX4_y, .instanceMethod yX4_y, .selects RX4 yX4_y yX4_y, .initialized RX4, .methodLink RX0 15 yX4_z, .instanceMethod yX4_z, .selects RX4 yX4_z yX4_z, .fieldLink RX0 18 "TraceTrees$Program" "kind" "[I", .fieldLink RX0 22 "TraceTrees$Registers" "kind" "[I", .fieldLink RX0 25 "TraceTrees$Effect" "kindY" "I", .fieldLink RX0 31 "TraceTrees$Effect" "kindZ" "I", .fieldLink RX0 34 "TraceTrees$Effect" "way" "I", .fieldLink RX0 37 "TraceTrees$Effect" "jumps" "Z", .fieldLink RX0 48 "TraceTrees$Registers" "bits" "[I", .methodLink RX0 61 yX0_isLess, .instanceMethod yX0_isLess, .selects RX0 yX0_isLess yX0_isLess, .initialized RX0, .methodLink RX0 57 yX0_halve, .instanceMethod yX0_halve, .selects RX0 yX0_halve yX0_halve, .fieldLink RX0 55 "TraceTrees$Effect" "kind" "I", .methodLink RX0 44 yX0_become, .instanceMethod yX0_become, .selects RX0 yX0_become yX0_become, .fieldLink RX0 41 "TraceTrees$Program" "b" "[I", .methodLink RX0 51 yX0_combine, .instanceMethod yX0_combine, .selects RX0 yX0_combine yX0_combine]
def vc_X0_foresee : List Cond := .code yX0_foresee cX0_foresee 7 none :: (oc_X0_foresee ++ (wsX40 ++ (wsX50 ++ (wsX00 ++ (vc_X4_y ++ (vc_X4_z ++ (vc_X0_isLess ++ (vc_X0_halve ++ (vc_X0_become ++ (vc_X0_combine))))))))))
theorem iw_X0_foresee_X4 : ∀ w ∈ wsX40, w ∈ vc_X0_foresee := fun _ h => List.mem_cons_of_mem _ (List.mem_append_right _ (List.mem_append_left _ h))
theorem iw_X0_foresee_X5 : ∀ w ∈ wsX50, w ∈ vc_X0_foresee := fun _ h => List.mem_cons_of_mem _ (List.mem_append_right _ (List.mem_append_right _ (List.mem_append_left _ h)))
theorem iw_X0_foresee_X0 : ∀ w ∈ wsX00, w ∈ vc_X0_foresee := fun _ h => List.mem_cons_of_mem _ (List.mem_append_right _ (List.mem_append_right _ (List.mem_append_right _ (List.mem_append_left _ h))))
theorem ic_X0_foresee_c_X4_y : ∀ w ∈ vc_X4_y, w ∈ vc_X0_foresee := fun _ h => List.mem_cons_of_mem _ (List.mem_append_right _ (List.mem_append_right _ (List.mem_append_right _ (List.mem_append_right _ (List.mem_append_left _ h)))))
theorem ic_X0_foresee_c_X4_z : ∀ w ∈ vc_X4_z, w ∈ vc_X0_foresee := fun _ h => List.mem_cons_of_mem _ (List.mem_append_right _ (List.mem_append_right _ (List.mem_append_right _ (List.mem_append_right _ (List.mem_append_right _ (List.mem_append_left _ h))))))
theorem ic_X0_foresee_c_X0_isLess : ∀ w ∈ vc_X0_isLess, w ∈ vc_X0_foresee := fun _ h => List.mem_cons_of_mem _ (List.mem_append_right _ (List.mem_append_right _ (List.mem_append_right _ (List.mem_append_right _ (List.mem_append_right _ (List.mem_append_right _ (List.mem_append_left _ h)))))))
theorem ic_X0_foresee_c_X0_halve : ∀ w ∈ vc_X0_halve, w ∈ vc_X0_foresee := fun _ h => List.mem_cons_of_mem _ (List.mem_append_right _ (List.mem_append_right _ (List.mem_append_right _ (List.mem_append_right _ (List.mem_append_right _ (List.mem_append_right _ (List.mem_append_right _ (List.mem_append_left _ h))))))))
theorem ic_X0_foresee_c_X0_become : ∀ w ∈ vc_X0_become, w ∈ vc_X0_foresee := fun _ h => List.mem_cons_of_mem _ (List.mem_append_right _ (List.mem_append_right _ (List.mem_append_right _ (List.mem_append_right _ (List.mem_append_right _ (List.mem_append_right _ (List.mem_append_right _ (List.mem_append_right _ (List.mem_append_left _ h)))))))))
theorem ic_X0_foresee_c_X0_combine : ∀ w ∈ vc_X0_combine, w ∈ vc_X0_foresee := fun _ h => List.mem_cons_of_mem _ (List.mem_append_right _ (List.mem_append_right _ (List.mem_append_right _ (List.mem_append_right _ (List.mem_append_right _ (List.mem_append_right _ (List.mem_append_right _ (List.mem_append_right _ (List.mem_append_right _ (h))))))))))
theorem gd_c_X0_foresee : (vc_X0_foresee).all goodWord = true := gall_cons rfl (gall_app (by decide +kernel) (gall_app gw_X4 (gall_app gw_X5 (gall_app gw_X0 (gall_app gd_c_X4_y (gall_app gd_c_X4_z (gall_app gd_c_X0_isLess (gall_app gd_c_X0_halve (gall_app gd_c_X0_become gd_c_X0_combine)))))))))
set_option maxHeartbeats 4000000 in
set_option maxRecDepth 100000 in
theorem c_X0_foresee (l : Launch) (dC : Nat → ClassId) (dI : Nat → Nat → Nat) (cI cT cS : ClassId) (sz : Nat) (ad : Nat → Nat) (kX0 : Nat) (hX0 : isM kX0) (k3 : Nat) (hk3 : isRg k3) (a2 : Int32) (σ : Sg) (o : Sg) (h : zf_X0_foresee kX0 a2 k3 σ = some o) : gCV (S := Unit) l yX0_foresee vc_X0_foresee { frames := 5, cells := 0, slots := 0, locals := 136 } (dC, dI) (gTY cI cT cS) sz [.ref (ad (kX0 + 4)), .ref (ad 1), .int a2, .ref (ad k3)] (Wd 153 (cfC ad cI cT cS) σ) (fun (_ : Unit) => True) (fun (_ : Unit) => (Wd 153 (cfC ad cI cT cS) o)) 0 0 := by
  refine Met.ofW (cc := cX0_foresee) (maxL := 7) (ret := none) (by decide) rfl ?_
  intro p e s m args below meth c s₁ B hml hv
  obtain ⟨rfl, hsz, hP, hK, hD0⟩ := hv
  have hx := B.exec
  have hb := B.bytes
  have hr := B.returns
  have hts := atoms_spec (ws := vc_X0_foresee) B.pre
  have hown : s.vm.findClass RX0 = some m.cls := findClass_of_methodNamed B.named
  have hlocks := B.notSynchronized
  subst hsz
  have hD := hD0.self (sz := s.heap.size)
  generalize hAe : va_A (Wd 153 (cfC ad cI cT cS) σ) s.heap.size = A at hD ⊢
  have hA : ∀ q : Nat, s.heap.size ≤ q → A q := fun q h => by rw [← hAe]; exact Or.inr h
  clear hAe hD0
  refine gstart (fun H locs hHe hLe => ?_)
  have hS : va_S A s.heap H locs := by rw [← hHe, ← hLe]; exact va_S.rf
  replace hP : va_P (dC, dI) vwCl (Wd 153 (cfC ad cI cT cS) σ) H := by rw [← hHe]; exact hP
  clear hHe hLe
  have hl := lv_entry ([.ref (ad (kX0 + 4)), .ref (ad 1), .int a2, .ref (ad k3)]) (n := 7) (Nat.le_of_ble_eq_true rfl)
  rw [lg_entry_eq]
  generalize (lg_sl ([.ref (ad (kX0 + 4)), .ref (ad 1), .int a2, .ref (ad k3)]) ++ List.replicate (7 - (lg_sl ([.ref (ad (kX0 + 4)), .ref (ad 1), .int a2, .ref (ad k3)])).length) Slot.unset).toArray = ls at hl ⊢
  replace hl : lv_has ls 7 [(0, .ref (ad (kX0 + 4))), (1, .ref (ad 1)), (2, .int a2), (3, .ref (ad k3))] := hl
  unfold zf_X0_foresee at h
  have J276 : ∀ (σb276 : Sg) (H : Heap) (locs : List Loc) (ls : Array Slot), zb_X0_foresee_276 σb276 = some o → va_P (dC, dI) vwCl (Wd 153 (cfC ad cI cT cS) σb276) H → va_D A (Wd 153 (cfC ad cI cT cS) σb276) → va_S A s.heap H locs → lv_has ls 7 [] → W p l e (headSpec vc_X0_foresee { frames := 5, cells := 0, slots := 0, locals := 136 }).room s m (List.toArray (α := Value) [.ref (ad (kX0 + 4)), .ref (ad 1), .int a2, .ref (ad k3)]) below meth c H locs 0 0 (MQ below (va_Qv (fun (_ : Unit) => True) (gB (dC, dI) A (fun (_ : Unit) => (Wd 153 (cfC ad cI cT cS) o))) A) (List.toArray (α := Value) [.ref (ad (kX0 + 4)), .ref (ad 1), .int a2, .ref (ad k3)]) s 0 0 A) (F0 m 276 ls []) := by
    intro σb276 H locs ls h hP hD hS hl
    unfold zb_X0_foresee_276 at h
    have h9 := Option.some.inj h
    exact wretv hx hb hr hlocks hP hD hS trivial (by rw [← h9]) dX0_foresee_276
  have J273 : ∀ (w0_273 : Bool) (σb273 : Sg) (H : Heap) (locs : List Loc) (ls : Array Slot), zb_X0_foresee_273 kX0 w0_273 σb273 = some o → va_P (dC, dI) vwCl (Wd 153 (cfC ad cI cT cS) σb273) H → va_D A (Wd 153 (cfC ad cI cT cS) σb273) → va_S A s.heap H locs → lv_has ls 7 [] → W p l e (headSpec vc_X0_foresee { frames := 5, cells := 0, slots := 0, locals := 136 }).room s m (List.toArray (α := Value) [.ref (ad (kX0 + 4)), .ref (ad 1), .int a2, .ref (ad k3)]) below meth c H locs 0 0 (MQ below (va_Qv (fun (_ : Unit) => True) (gB (dC, dI) A (fun (_ : Unit) => (Wd 153 (cfC ad cI cT cS) o))) A) (List.toArray (α := Value) [.ref (ad (kX0 + 4)), .ref (ad 1), .int a2, .ref (ad k3)]) s 0 0 A) (F0 m 273 ls [.int (b2i w0_273), .ref (ad (kX0 + 4))]) := by
    intro w0_273 σb273 H locs ls h hP hD hS hl
    unfold zb_X0_foresee_273 at h
    refine pf_X0_2 hX0 hx hb hts iw_X0_foresee_X0 hown hK hP hD hS (hts (.fieldLink RX0 34 "TraceTrees$Effect" "way" "I") (List.mem_of_getElem? (i := 12) rfl)) dX0_foresee_273 (fun H locs hP hD hS => ?_)
    exact J276 (su σb273 (kX0 + 4) 2 (b2i w0_273)) H locs ls h hP hD hS (lv_sub (l' := []) hl [] rfl)
  have J115 : ∀ (v6_115 : Int32) (v5_115 : Int32) (v4_115 : Int32) (σb115 : Sg) (H : Heap) (locs : List Loc) (ls : Array Slot), zb_X0_foresee_115 kX0 k3 v6_115 v5_115 v4_115 σb115 = some o → va_P (dC, dI) vwCl (Wd 153 (cfC ad cI cT cS) σb115) H → va_D A (Wd 153 (cfC ad cI cT cS) σb115) → va_S A s.heap H locs → lv_has ls 7 [(6, .int v6_115), (5, .int v5_115), (4, .int v4_115), (0, .ref (ad (kX0 + 4))), (3, .ref (ad k3))] → W p l e (headSpec vc_X0_foresee { frames := 5, cells := 0, slots := 0, locals := 136 }).room s m (List.toArray (α := Value) [.ref (ad (kX0 + 4)), .ref (ad 1), .int a2, .ref (ad k3)]) below meth c H locs 0 0 (MQ below (va_Qv (fun (_ : Unit) => True) (gB (dC, dI) A (fun (_ : Unit) => (Wd 153 (cfC ad cI cT cS) o))) A) (List.toArray (α := Value) [.ref (ad (kX0 + 4)), .ref (ad 1), .int a2, .ref (ad k3)]) s 0 0 A) (F0 m 115 ls []) := by
    intro v6_115 v5_115 v4_115 σb115 H locs ls h hP hD hS hl
    unfold zb_X0_foresee_115 at h
    refine lv_aload_n hx hb dX0_foresee_115 rfl (lv_at hl 3 rfl) ?_
    refine lv_iload hx hb dX0_foresee_116 (lv_at hl 0 rfl) ?_
    refine lv_aload_n hx hb dX0_foresee_118 rfl (lv_at hl 4 rfl) ?_
    refine gf_X5_1 hk3 hx hb hts iw_X0_foresee_X5 hown hK hP (hts (.fieldLink RX0 48 "TraceTrees$Registers" "bits" "[I") (List.mem_of_getElem? (i := 14) rfl)) dX0_foresee_119 ?_
    refine lv_iload hx hb dX0_foresee_122 (lv_at hl 2 rfl) ?_
    obtain ⟨hi28, h⟩ := bd_inv h
    refine wald hx hb hK hP (aG2 hk3) hi28 dX0_foresee_124 ?_
    refine lv_aload_n hx hb dX0_foresee_125 rfl (lv_at hl 4 rfl) ?_
    refine gf_X5_1 hk3 hx hb hts iw_X0_foresee_X5 hown hK hP (hts (.fieldLink RX0 48 "TraceTrees$Registers" "bits" "[I") (List.mem_of_getElem? (i := 14) rfl)) dX0_foresee_126 ?_
    refine lv_iload hx hb dX0_foresee_129 (lv_at hl 1 rfl) ?_
    obtain ⟨hi29, h⟩ := bd_inv h
    refine wald hx hb hK hP (aG2 hk3) hi29 dX0_foresee_131 ?_
    obtain ⟨q30, hc30, h⟩ := letb_inv h
    refine wcallv (S := Unit) (va_runV (As := [.int v6_115, .int (σb115 (k3 + 2) v4_115.toNatClampNeg), .int (σb115 (k3 + 2) v5_115.toNatClampNeg)]) (rest := []) ⟨hx, hb, hml, hown, hts⟩ (c_X0_combine l dC dI cI cT cS H.size ad kX0 hX0 v6_115 (σb115 (k3 + 2) v4_115.toNatClampNeg) (σb115 (k3 + 2) v5_115.toNatClampNeg) σb115 _ hc30) (cwV 3 hts (gWV (List.mem_of_getElem? (i := 27) rfl) (List.mem_of_getElem? (i := 28) rfl) (List.mem_of_getElem? (i := 29) rfl) (List.mem_of_getElem? (i := 18) rfl) ic_X0_foresee_c_X0_combine gd_c_X0_combine) rfl rfl rfl (by decide +kernel) ⟨(Nat.le_of_ble_eq_true rfl), (Nat.le_of_ble_eq_true rfl)⟩) (wpV (q := (RX0, TX0, 6)) hP hK hD (oX0 hX0) rfl) rfl rfl hl.1 rfl (lv_room (Nat.le_of_ble_eq_true rfl)) dX0_foresee_132 ⟨(Nat.le_of_ble_eq_true rfl), (Nat.le_of_ble_eq_true rfl)⟩) hP hD hS hA (fun _ H locs hr31 hP hD hS => ?_)
    replace hP : va_P (dC, dI) vwCl (Wd 153 (cfC ad cI cT cS) q30) H := hP
    replace hD : va_D A (Wd 153 (cfC ad cI cT cS) q30) := hD
    refine lv_aload_n hx hb dX0_foresee_135 rfl (lv_at hl 3 rfl) ?_
    refine lv_aload_n hx hb dX0_foresee_136 rfl (lv_at hl 3 rfl) ?_
    refine gf_X0_4 hX0 hx hb hts iw_X0_foresee_X0 hown hK hP (hts (.fieldLink RX0 55 "TraceTrees$Effect" "kind" "I") (List.mem_of_getElem? (i := 22) rfl)) dX0_foresee_137 ?_
    refine pf_X0_2 hX0 hx hb hts iw_X0_foresee_X0 hown hK hP hD hS (hts (.fieldLink RX0 34 "TraceTrees$Effect" "way" "I") (List.mem_of_getElem? (i := 12) rfl)) dX0_foresee_140 (fun H locs hP hD hS => ?_)
    refine lv_goto (tgt := 276) hx hb dX0_foresee_143 (by decide) ?_
    exact J276 (su q30 (kX0 + 4) 2 (q30 (kX0 + 4) 4)) H locs ls h hP hD hS (lv_sub (l' := []) hl [] rfl)
  have J216 : ∀ (w0_216 : Bool) (σb216 : Sg) (H : Heap) (locs : List Loc) (ls : Array Slot), zb_X0_foresee_216 kX0 w0_216 σb216 = some o → va_P (dC, dI) vwCl (Wd 153 (cfC ad cI cT cS) σb216) H → va_D A (Wd 153 (cfC ad cI cT cS) σb216) → va_S A s.heap H locs → lv_has ls 7 [] → W p l e (headSpec vc_X0_foresee { frames := 5, cells := 0, slots := 0, locals := 136 }).room s m (List.toArray (α := Value) [.ref (ad (kX0 + 4)), .ref (ad 1), .int a2, .ref (ad k3)]) below meth c H locs 0 0 (MQ below (va_Qv (fun (_ : Unit) => True) (gB (dC, dI) A (fun (_ : Unit) => (Wd 153 (cfC ad cI cT cS) o))) A) (List.toArray (α := Value) [.ref (ad (kX0 + 4)), .ref (ad 1), .int a2, .ref (ad k3)]) s 0 0 A) (F0 m 216 ls [.int (b2i w0_216), .ref (ad (kX0 + 4))]) := by
    intro w0_216 σb216 H locs ls h hP hD hS hl
    unfold zb_X0_foresee_216 at h
    refine pf_X0_2 hX0 hx hb hts iw_X0_foresee_X0 hown hK hP hD hS (hts (.fieldLink RX0 34 "TraceTrees$Effect" "way" "I") (List.mem_of_getElem? (i := 12) rfl)) dX0_foresee_216 (fun H locs hP hD hS => ?_)
    refine lv_goto (tgt := 276) hx hb dX0_foresee_219 (by decide) ?_
    exact J276 (su σb216 (kX0 + 4) 2 (b2i w0_216)) H locs ls h hP hD hS (lv_sub (l' := []) hl [] rfl)
  have J257 : ∀ (w0_257 : Bool) (σb257 : Sg) (H : Heap) (locs : List Loc) (ls : Array Slot), zb_X0_foresee_257 kX0 w0_257 σb257 = some o → va_P (dC, dI) vwCl (Wd 153 (cfC ad cI cT cS) σb257) H → va_D A (Wd 153 (cfC ad cI cT cS) σb257) → va_S A s.heap H locs → lv_has ls 7 [(0, .ref (ad (kX0 + 4)))] → W p l e (headSpec vc_X0_foresee { frames := 5, cells := 0, slots := 0, locals := 136 }).room s m (List.toArray (α := Value) [.ref (ad (kX0 + 4)), .ref (ad 1), .int a2, .ref (ad k3)]) below meth c H locs 0 0 (MQ below (va_Qv (fun (_ : Unit) => True) (gB (dC, dI) A (fun (_ : Unit) => (Wd 153 (cfC ad cI cT cS) o))) A) (List.toArray (α := Value) [.ref (ad (kX0 + 4)), .ref (ad 1), .int a2, .ref (ad k3)]) s 0 0 A) (F0 m 257 ls [.int (b2i w0_257), .ref (ad (kX0 + 4))]) := by
    intro w0_257 σb257 H locs ls h hP hD hS hl
    unfold zb_X0_foresee_257 at h
    refine pf_X0_3 hX0 (b2i_or w0_257) hx hb hts iw_X0_foresee_X0 hown hK hP hD hS (hts (.fieldLink RX0 37 "TraceTrees$Effect" "jumps" "Z") (List.mem_of_getElem? (i := 13) rfl)) dX0_foresee_257 (fun H locs hP hD hS => ?_)
    refine lv_aload_n hx hb dX0_foresee_260 rfl (lv_at hl 0 rfl) ?_
    refine lv_aload_n hx hb dX0_foresee_261 rfl (lv_at hl 0 rfl) ?_
    refine gf_X0_3 hX0 hx hb hts iw_X0_foresee_X0 hown hK hP (hts (.fieldLink RX0 37 "TraceTrees$Effect" "jumps" "Z") (List.mem_of_getElem? (i := 13) rfl)) dX0_foresee_262 ?_
    refine lv_nm (y := (b2i w0_257)) (su_hit rfl) ?_
    refine lv_if_eq (tgt := 272) hx hb dX0_foresee_265 (by decide) (fun c27 => ?_) (fun c27 => ?_)
    · replace h := ifp (c27) h
      refine lv_iconst (v := 0) hx hb dX0_foresee_272 (by decide) ?_
      exact J273 false (su σb257 (kX0 + 4) 3 (b2i w0_257)) H locs ls h hP hD hS (lv_sub (l' := []) hl [] rfl)
    · replace h := ifn (c27) h
      refine lv_iconst (v := 1) hx hb dX0_foresee_268 (by decide) ?_
      refine lv_goto (tgt := 273) hx hb dX0_foresee_269 (by decide) ?_
      exact J273 true (su σb257 (kX0 + 4) 3 (b2i w0_257)) H locs ls h hP hD hS (lv_sub (l' := []) hl [] rfl)
  refine lv_aload_n hx hb dX0_foresee_0 rfl (lv_at hl 1 rfl) ?_
  refine lv_iload_n hx hb dX0_foresee_1 rfl (lv_at hl 2 rfl) ?_
  obtain ⟨r1, hc1, h⟩ := obd_inv h
  refine wcalli (S := Unit) (va_runV (As := [.int a2]) (rest := []) ⟨hx, hb, hml, hown, hts⟩ (c_X4_y l dC dI cI cT cS H.size ad  a2 σ _ hc1) (cwV 1 hts (gWV (List.mem_of_getElem? (i := 1) rfl) (List.mem_of_getElem? (i := 2) rfl) (List.mem_of_getElem? (i := 3) rfl) (List.mem_of_getElem? (i := 4) rfl) ic_X0_foresee_c_X4_y gd_c_X4_y) rfl rfl rfl (by decide +kernel) ⟨(Nat.le_of_ble_eq_true rfl), (Nat.le_of_ble_eq_true rfl)⟩) (wpV (q := (RX4, TX4, 5)) hP hK hD oX4 rfl) rfl rfl hl.1 rfl (lv_room (Nat.le_of_ble_eq_true rfl)) dX0_foresee_2 ⟨(Nat.le_of_ble_eq_true rfl), (Nat.le_of_ble_eq_true rfl)⟩) hP hD hS hA (fun rr2 _ H locs hr2 hP hD hS => ?_)
  refine lv_nm (y := r1) hr2 ?_
  refine lv_istore (lv' := [(4, .int r1), (0, .ref (ad (kX0 + 4))), (1, .ref (ad 1)), (2, .int a2), (3, .ref (ad k3))]) hx hb dX0_foresee_5 hl (by decide) rfl (fun ls hl => ?_)
  refine lv_aload_n hx hb dX0_foresee_7 rfl (lv_at hl 2 rfl) ?_
  refine lv_iload_n hx hb dX0_foresee_8 rfl (lv_at hl 3 rfl) ?_
  obtain ⟨r3, hc3, h⟩ := obd_inv h
  refine wcalli (S := Unit) (va_runV (As := [.int a2]) (rest := []) ⟨hx, hb, hml, hown, hts⟩ (c_X4_z l dC dI cI cT cS H.size ad  a2 σ _ hc3) (cwV 1 hts (gWV (List.mem_of_getElem? (i := 5) rfl) (List.mem_of_getElem? (i := 6) rfl) (List.mem_of_getElem? (i := 7) rfl) (List.mem_of_getElem? (i := 4) rfl) ic_X0_foresee_c_X4_z gd_c_X4_z) rfl rfl rfl (by decide +kernel) ⟨(Nat.le_of_ble_eq_true rfl), (Nat.le_of_ble_eq_true rfl)⟩) (wpV (q := (RX4, TX4, 5)) hP hK hD oX4 rfl) rfl rfl hl.1 rfl (lv_room (Nat.le_of_ble_eq_true rfl)) dX0_foresee_9 ⟨(Nat.le_of_ble_eq_true rfl), (Nat.le_of_ble_eq_true rfl)⟩) hP hD hS hA (fun rr4 _ H locs hr4 hP hD hS => ?_)
  refine lv_nm (y := r3) hr4 ?_
  refine lv_istore (lv' := [(5, .int r3), (4, .int r1), (0, .ref (ad (kX0 + 4))), (1, .ref (ad 1)), (2, .int a2), (3, .ref (ad k3))]) hx hb dX0_foresee_12 hl (by decide) rfl (fun ls hl => ?_)
  refine lv_aload_n hx hb dX0_foresee_14 rfl (lv_at hl 3 rfl) ?_
  refine gf_X4_0 hx hb hts iw_X0_foresee_X4 hown hK hP (hts (.fieldLink RX0 18 "TraceTrees$Program" "kind" "[I") (List.mem_of_getElem? (i := 8) rfl)) dX0_foresee_15 ?_
  refine lv_iload_n hx hb dX0_foresee_18 rfl (lv_at hl 4 rfl) ?_
  obtain ⟨hi5, h⟩ := bd_inv h
  refine wald hx hb hK hP aP2 hi5 dX0_foresee_19 ?_
  obtain ⟨e6, he6, h⟩ := letb_inv h
  refine lv_nm he6 ?_
  refine lv_istore (lv' := [(6, .int e6), (5, .int r3), (4, .int r1), (0, .ref (ad (kX0 + 4))), (1, .ref (ad 1)), (2, .int a2), (3, .ref (ad k3))]) hx hb dX0_foresee_20 hl (by decide) rfl (fun ls hl => ?_)
  refine lv_aload_n hx hb dX0_foresee_22 rfl (lv_at hl 3 rfl) ?_
  refine lv_aload_n hx hb dX0_foresee_23 rfl (lv_at hl 6 rfl) ?_
  refine gf_X5_0 hk3 hx hb hts iw_X0_foresee_X5 hown hK hP (hts (.fieldLink RX0 22 "TraceTrees$Registers" "kind" "[I") (List.mem_of_getElem? (i := 9) rfl)) dX0_foresee_24 ?_
  refine lv_iload hx hb dX0_foresee_27 (lv_at hl 2 rfl) ?_
  obtain ⟨hi7, h⟩ := bd_inv h
  refine wald hx hb hK hP (aG1 hk3) hi7 dX0_foresee_29 ?_
  refine pf_X0_0 hX0 hx hb hts iw_X0_foresee_X0 hown hK hP hD hS (hts (.fieldLink RX0 25 "TraceTrees$Effect" "kindY" "I") (List.mem_of_getElem? (i := 10) rfl)) dX0_foresee_30 (fun H locs hP hD hS => ?_)
  refine lv_aload_n hx hb dX0_foresee_33 rfl (lv_at hl 3 rfl) ?_
  refine lv_aload_n hx hb dX0_foresee_34 rfl (lv_at hl 6 rfl) ?_
  refine gf_X5_0 hk3 hx hb hts iw_X0_foresee_X5 hown hK hP (hts (.fieldLink RX0 22 "TraceTrees$Registers" "kind" "[I") (List.mem_of_getElem? (i := 9) rfl)) dX0_foresee_35 ?_
  refine lv_iload hx hb dX0_foresee_38 (lv_at hl 1 rfl) ?_
  obtain ⟨hi8, h⟩ := bd_inv h
  refine wald hx hb hK hP (aG1 hk3) hi8 dX0_foresee_40 ?_
  refine pf_X0_1 hX0 hx hb hts iw_X0_foresee_X0 hown hK hP hD hS (hts (.fieldLink RX0 31 "TraceTrees$Effect" "kindZ" "I") (List.mem_of_getElem? (i := 11) rfl)) dX0_foresee_41 (fun H locs hP hD hS => ?_)
  refine lv_aload_n hx hb dX0_foresee_44 rfl (lv_at hl 3 rfl) ?_
  refine lv_iconst (v := 0) hx hb dX0_foresee_45 (by decide) ?_
  refine pf_X0_2 hX0 hx hb hts iw_X0_foresee_X0 hown hK hP hD hS (hts (.fieldLink RX0 34 "TraceTrees$Effect" "way" "I") (List.mem_of_getElem? (i := 12) rfl)) dX0_foresee_46 (fun H locs hP hD hS => ?_)
  refine lv_aload_n hx hb dX0_foresee_49 rfl (lv_at hl 3 rfl) ?_
  refine lv_iconst (v := 0) hx hb dX0_foresee_50 (by decide) ?_
  refine pf_X0_3 hX0 (Or.inl rfl) hx hb hts iw_X0_foresee_X0 hown hK hP hD hS (hts (.fieldLink RX0 37 "TraceTrees$Effect" "jumps" "Z") (List.mem_of_getElem? (i := 13) rfl)) dX0_foresee_51 (fun H locs hP hD hS => ?_)
  refine lv_iload hx hb dX0_foresee_54 (lv_at hl 0 rfl) ?_
  refine lv_if_ne (tgt := 73) hx hb dX0_foresee_56 (by decide) (fun c9 => ?_) (fun c9 => ?_)
  · replace h := ifn (c9) h
    refine lv_iload hx hb dX0_foresee_73 (lv_at hl 0 rfl) ?_
    refine lv_iconst (v := 1) hx hb dX0_foresee_75 (by decide) ?_
    refine lv_icmp_ne (tgt := 97) hx hb dX0_foresee_76 (by decide) (fun c10 => ?_) (fun c10 => ?_)
    · replace h := ifn (c10) h
      refine lv_iload hx hb dX0_foresee_97 (lv_at hl 0 rfl) ?_
      refine lv_iconst (v := 2) hx hb dX0_foresee_99 (by decide) ?_
      refine lv_icmp_eq (tgt := 115) hx hb dX0_foresee_100 (by decide) (fun c11 => ?_) (fun c11 => ?_)
      · replace h := ifp (c11) h
        exact J115 e6 r3 r1 (su (su (su (su σ (kX0 + 4) 0 (σ (k3 + 1) r1.toNatClampNeg)) (kX0 + 4) 1 ((su σ (kX0 + 4) 0 (σ (k3 + 1) r1.toNatClampNeg)) (k3 + 1) r3.toNatClampNeg)) (kX0 + 4) 2 (0 : Int32)) (kX0 + 4) 3 (0 : Int32)) H locs ls h hP hD hS (lv_sub (l' := [(6, .int e6), (5, .int r3), (4, .int r1), (0, .ref (ad (kX0 + 4))), (3, .ref (ad k3))]) hl [0, 1, 2, 3, 6] rfl)
      · replace h := ifn (c11) h
        refine lv_iload hx hb dX0_foresee_103 (lv_at hl 0 rfl) ?_
        refine lv_iconst (v := 3) hx hb dX0_foresee_105 (by decide) ?_
        refine lv_icmp_eq (tgt := 115) hx hb dX0_foresee_106 (by decide) (fun c12 => ?_) (fun c12 => ?_)
        · replace h := ifp (c12) h
          exact J115 e6 r3 r1 (su (su (su (su σ (kX0 + 4) 0 (σ (k3 + 1) r1.toNatClampNeg)) (kX0 + 4) 1 ((su σ (kX0 + 4) 0 (σ (k3 + 1) r1.toNatClampNeg)) (k3 + 1) r3.toNatClampNeg)) (kX0 + 4) 2 (0 : Int32)) (kX0 + 4) 3 (0 : Int32)) H locs ls h hP hD hS (lv_sub (l' := [(6, .int e6), (5, .int r3), (4, .int r1), (0, .ref (ad (kX0 + 4))), (3, .ref (ad k3))]) hl [0, 1, 2, 3, 6] rfl)
        · replace h := ifn (c12) h
          refine lv_iload hx hb dX0_foresee_109 (lv_at hl 0 rfl) ?_
          refine lv_iconst (v := 4) hx hb dX0_foresee_111 (by decide) ?_
          refine lv_icmp_ne (tgt := 146) hx hb dX0_foresee_112 (by decide) (fun c13 => ?_) (fun c13 => ?_)
          · replace h := ifn (c13) h
            refine lv_iload hx hb dX0_foresee_146 (lv_at hl 0 rfl) ?_
            refine lv_iconst (v := 5) hx hb dX0_foresee_148 (by decide) ?_
            refine lv_icmp_ne (tgt := 174) hx hb dX0_foresee_149 (by decide) (fun c14 => ?_) (fun c14 => ?_)
            · replace h := ifn (c14) h
              refine lv_iload hx hb dX0_foresee_174 (lv_at hl 0 rfl) ?_
              refine lv_bipush (v := 6) hx hb dX0_foresee_176 (by decide) ?_
              refine lv_icmp_ne (tgt := 222) hx hb dX0_foresee_178 (by decide) (fun c15 => ?_) (fun c15 => ?_)
              · replace h := ifn (c15) h
                refine lv_iload hx hb dX0_foresee_222 (lv_at hl 0 rfl) ?_
                refine lv_bipush (v := 7) hx hb dX0_foresee_224 (by decide) ?_
                refine lv_icmp_ne (tgt := 237) hx hb dX0_foresee_226 (by decide) (fun c16 => ?_) (fun c16 => ?_)
                · replace h := ifn (c16) h
                  refine lv_iload hx hb dX0_foresee_237 (lv_at hl 0 rfl) ?_
                  refine lv_bipush (v := 8) hx hb dX0_foresee_239 (by decide) ?_
                  refine lv_icmp_ne (tgt := 276) hx hb dX0_foresee_241 (by decide) (fun c17 => ?_) (fun c17 => ?_)
                  · replace h := ifn (c17) h
                    exact J276 (su (su (su (su σ (kX0 + 4) 0 (σ (k3 + 1) r1.toNatClampNeg)) (kX0 + 4) 1 ((su σ (kX0 + 4) 0 (σ (k3 + 1) r1.toNatClampNeg)) (k3 + 1) r3.toNatClampNeg)) (kX0 + 4) 2 (0 : Int32)) (kX0 + 4) 3 (0 : Int32)) H locs ls h hP hD hS (lv_sub (l' := []) hl [] rfl)
                  · replace h := ifp (c17) h
                    refine lv_aload_n hx hb dX0_foresee_244 rfl (lv_at hl 3 rfl) ?_
                    refine lv_aload_n hx hb dX0_foresee_245 rfl (lv_at hl 3 rfl) ?_
                    refine gf_X0_1 hX0 hx hb hts iw_X0_foresee_X0 hown hK hP (hts (.fieldLink RX0 31 "TraceTrees$Effect" "kindZ" "I") (List.mem_of_getElem? (i := 11) rfl)) dX0_foresee_246 ?_
                    refine lv_nm (y := ((su σ (kX0 + 4) 0 (σ (k3 + 1) r1.toNatClampNeg)) (k3 + 1) r3.toNatClampNeg)) (su_rf (by omega) (by decide) (su_rf (by omega) (by decide) (su_hit rfl))) ?_
                    refine lv_if_ne (tgt := 256) hx hb dX0_foresee_249 (by decide) (fun c18 => ?_) (fun c18 => ?_)
                    · replace h := ifn (c18) h
                      refine lv_iconst (v := 0) hx hb dX0_foresee_256 (by decide) ?_
                      exact J257 false (su (su (su (su σ (kX0 + 4) 0 (σ (k3 + 1) r1.toNatClampNeg)) (kX0 + 4) 1 ((su σ (kX0 + 4) 0 (σ (k3 + 1) r1.toNatClampNeg)) (k3 + 1) r3.toNatClampNeg)) (kX0 + 4) 2 (0 : Int32)) (kX0 + 4) 3 (0 : Int32)) H locs ls h hP hD hS (lv_sub (l' := [(0, .ref (ad (kX0 + 4)))]) hl [3] rfl)
                    · replace h := ifp (c18) h
                      refine lv_iconst (v := 1) hx hb dX0_foresee_252 (by decide) ?_
                      refine lv_goto (tgt := 257) hx hb dX0_foresee_253 (by decide) ?_
                      exact J257 true (su (su (su (su σ (kX0 + 4) 0 (σ (k3 + 1) r1.toNatClampNeg)) (kX0 + 4) 1 ((su σ (kX0 + 4) 0 (σ (k3 + 1) r1.toNatClampNeg)) (k3 + 1) r3.toNatClampNeg)) (kX0 + 4) 2 (0 : Int32)) (kX0 + 4) 3 (0 : Int32)) H locs ls h hP hD hS (lv_sub (l' := [(0, .ref (ad (kX0 + 4)))]) hl [3] rfl)
                · replace h := ifp (c16) h
                  refine lv_aload_n hx hb dX0_foresee_229 rfl (lv_at hl 3 rfl) ?_
                  refine lv_iconst (v := 1) hx hb dX0_foresee_230 (by decide) ?_
                  refine pf_X0_3 hX0 (Or.inr rfl) hx hb hts iw_X0_foresee_X0 hown hK hP hD hS (hts (.fieldLink RX0 37 "TraceTrees$Effect" "jumps" "Z") (List.mem_of_getElem? (i := 13) rfl)) dX0_foresee_231 (fun H locs hP hD hS => ?_)
                  refine lv_goto (tgt := 276) hx hb dX0_foresee_234 (by decide) ?_
                  exact J276 (su (su (su (su (su σ (kX0 + 4) 0 (σ (k3 + 1) r1.toNatClampNeg)) (kX0 + 4) 1 ((su σ (kX0 + 4) 0 (σ (k3 + 1) r1.toNatClampNeg)) (k3 + 1) r3.toNatClampNeg)) (kX0 + 4) 2 (0 : Int32)) (kX0 + 4) 3 (0 : Int32)) (kX0 + 4) 3 (1 : Int32)) H locs ls h hP hD hS (lv_sub (l' := []) hl [] rfl)
              · replace h := ifp (c15) h
                refine lv_aload_n hx hb dX0_foresee_181 rfl (lv_at hl 3 rfl) ?_
                refine lv_aload_n hx hb dX0_foresee_182 rfl (lv_at hl 3 rfl) ?_
                refine lv_aload_n hx hb dX0_foresee_183 rfl (lv_at hl 6 rfl) ?_
                refine gf_X5_1 hk3 hx hb hts iw_X0_foresee_X5 hown hK hP (hts (.fieldLink RX0 48 "TraceTrees$Registers" "bits" "[I") (List.mem_of_getElem? (i := 14) rfl)) dX0_foresee_184 ?_
                refine lv_iload hx hb dX0_foresee_187 (lv_at hl 2 rfl) ?_
                refine wald hx hb hK hP (aG2 hk3) hi7 dX0_foresee_189 ?_
                refine lv_aload_n hx hb dX0_foresee_190 rfl (lv_at hl 6 rfl) ?_
                refine gf_X5_1 hk3 hx hb hts iw_X0_foresee_X5 hown hK hP (hts (.fieldLink RX0 48 "TraceTrees$Registers" "bits" "[I") (List.mem_of_getElem? (i := 14) rfl)) dX0_foresee_191 ?_
                refine lv_iload hx hb dX0_foresee_194 (lv_at hl 1 rfl) ?_
                refine wald hx hb hK hP (aG2 hk3) hi8 dX0_foresee_196 ?_
                refine wcalli (S := Unit) (va_runV (As := [.int ((su (su (su (su σ (kX0 + 4) 0 (σ (k3 + 1) r1.toNatClampNeg)) (kX0 + 4) 1 ((su σ (kX0 + 4) 0 (σ (k3 + 1) r1.toNatClampNeg)) (k3 + 1) r3.toNatClampNeg)) (kX0 + 4) 2 (0 : Int32)) (kX0 + 4) 3 (0 : Int32)) (k3 + 2) r1.toNatClampNeg), .int ((su (su (su (su σ (kX0 + 4) 0 (σ (k3 + 1) r1.toNatClampNeg)) (kX0 + 4) 1 ((su σ (kX0 + 4) 0 (σ (k3 + 1) r1.toNatClampNeg)) (k3 + 1) r3.toNatClampNeg)) (kX0 + 4) 2 (0 : Int32)) (kX0 + 4) 3 (0 : Int32)) (k3 + 2) r3.toNatClampNeg)]) (rest := [.ref (ad (kX0 + 4))]) ⟨hx, hb, hml, hown, hts⟩ (c_X0_isLess l dC dI cI cT cS H.size ad kX0 hX0 ((su (su (su (su σ (kX0 + 4) 0 (σ (k3 + 1) r1.toNatClampNeg)) (kX0 + 4) 1 ((su σ (kX0 + 4) 0 (σ (k3 + 1) r1.toNatClampNeg)) (k3 + 1) r3.toNatClampNeg)) (kX0 + 4) 2 (0 : Int32)) (kX0 + 4) 3 (0 : Int32)) (k3 + 2) r1.toNatClampNeg) ((su (su (su (su σ (kX0 + 4) 0 (σ (k3 + 1) r1.toNatClampNeg)) (kX0 + 4) 1 ((su σ (kX0 + 4) 0 (σ (k3 + 1) r1.toNatClampNeg)) (k3 + 1) r3.toNatClampNeg)) (kX0 + 4) 2 (0 : Int32)) (kX0 + 4) 3 (0 : Int32)) (k3 + 2) r3.toNatClampNeg) (su (su (su (su σ (kX0 + 4) 0 (σ (k3 + 1) r1.toNatClampNeg)) (kX0 + 4) 1 ((su σ (kX0 + 4) 0 (σ (k3 + 1) r1.toNatClampNeg)) (k3 + 1) r3.toNatClampNeg)) (kX0 + 4) 2 (0 : Int32)) (kX0 + 4) 3 (0 : Int32)) _ rfl) (cwV 2 hts (gWV (List.mem_of_getElem? (i := 15) rfl) (List.mem_of_getElem? (i := 16) rfl) (List.mem_of_getElem? (i := 17) rfl) (List.mem_of_getElem? (i := 18) rfl) ic_X0_foresee_c_X0_isLess gd_c_X0_isLess) rfl rfl rfl (by decide +kernel) ⟨(Nat.le_of_ble_eq_true rfl), (Nat.le_of_ble_eq_true rfl)⟩) (wpV (q := (RX0, TX0, 6)) hP hK hD (oX0 hX0) rfl) rfl rfl hl.1 rfl (lv_room (Nat.le_of_ble_eq_true rfl)) dX0_foresee_197 ⟨(Nat.le_of_ble_eq_true rfl), (Nat.le_of_ble_eq_true rfl)⟩) hP hD hS hA (fun rr19 _ H locs hr19 hP hD hS => ?_)
                refine lv_nm (y := b2i (zf_X0_isLess kX0 ((su (su (su (su σ (kX0 + 4) 0 (σ (k3 + 1) r1.toNatClampNeg)) (kX0 + 4) 1 ((su σ (kX0 + 4) 0 (σ (k3 + 1) r1.toNatClampNeg)) (k3 + 1) r3.toNatClampNeg)) (kX0 + 4) 2 (0 : Int32)) (kX0 + 4) 3 (0 : Int32)) (k3 + 2) r1.toNatClampNeg) ((su (su (su (su σ (kX0 + 4) 0 (σ (k3 + 1) r1.toNatClampNeg)) (kX0 + 4) 1 ((su σ (kX0 + 4) 0 (σ (k3 + 1) r1.toNatClampNeg)) (k3 + 1) r3.toNatClampNeg)) (kX0 + 4) 2 (0 : Int32)) (kX0 + 4) 3 (0 : Int32)) (k3 + 2) r3.toNatClampNeg) (su (su (su (su σ (kX0 + 4) 0 (σ (k3 + 1) r1.toNatClampNeg)) (kX0 + 4) 1 ((su σ (kX0 + 4) 0 (σ (k3 + 1) r1.toNatClampNeg)) (k3 + 1) r3.toNatClampNeg)) (kX0 + 4) 2 (0 : Int32)) (kX0 + 4) 3 (0 : Int32)))) hr19 ?_
                refine pf_X0_3 hX0 (b2i_or (zf_X0_isLess kX0 ((su (su (su (su σ (kX0 + 4) 0 (σ (k3 + 1) r1.toNatClampNeg)) (kX0 + 4) 1 ((su σ (kX0 + 4) 0 (σ (k3 + 1) r1.toNatClampNeg)) (k3 + 1) r3.toNatClampNeg)) (kX0 + 4) 2 (0 : Int32)) (kX0 + 4) 3 (0 : Int32)) (k3 + 2) r1.toNatClampNeg) ((su (su (su (su σ (kX0 + 4) 0 (σ (k3 + 1) r1.toNatClampNeg)) (kX0 + 4) 1 ((su σ (kX0 + 4) 0 (σ (k3 + 1) r1.toNatClampNeg)) (k3 + 1) r3.toNatClampNeg)) (kX0 + 4) 2 (0 : Int32)) (kX0 + 4) 3 (0 : Int32)) (k3 + 2) r3.toNatClampNeg) (su (su (su (su σ (kX0 + 4) 0 (σ (k3 + 1) r1.toNatClampNeg)) (kX0 + 4) 1 ((su σ (kX0 + 4) 0 (σ (k3 + 1) r1.toNatClampNeg)) (k3 + 1) r3.toNatClampNeg)) (kX0 + 4) 2 (0 : Int32)) (kX0 + 4) 3 (0 : Int32)))) hx hb hts iw_X0_foresee_X0 hown hK hP hD hS (hts (.fieldLink RX0 37 "TraceTrees$Effect" "jumps" "Z") (List.mem_of_getElem? (i := 13) rfl)) dX0_foresee_200 (fun H locs hP hD hS => ?_)
                refine lv_aload_n hx hb dX0_foresee_203 rfl (lv_at hl 3 rfl) ?_
                refine lv_aload_n hx hb dX0_foresee_204 rfl (lv_at hl 3 rfl) ?_
                refine gf_X0_3 hX0 hx hb hts iw_X0_foresee_X0 hown hK hP (hts (.fieldLink RX0 37 "TraceTrees$Effect" "jumps" "Z") (List.mem_of_getElem? (i := 13) rfl)) dX0_foresee_205 ?_
                refine lv_nm (y := (b2i (zf_X0_isLess kX0 ((su (su (su (su σ (kX0 + 4) 0 (σ (k3 + 1) r1.toNatClampNeg)) (kX0 + 4) 1 ((su σ (kX0 + 4) 0 (σ (k3 + 1) r1.toNatClampNeg)) (k3 + 1) r3.toNatClampNeg)) (kX0 + 4) 2 (0 : Int32)) (kX0 + 4) 3 (0 : Int32)) (k3 + 2) r1.toNatClampNeg) ((su (su (su (su σ (kX0 + 4) 0 (σ (k3 + 1) r1.toNatClampNeg)) (kX0 + 4) 1 ((su σ (kX0 + 4) 0 (σ (k3 + 1) r1.toNatClampNeg)) (k3 + 1) r3.toNatClampNeg)) (kX0 + 4) 2 (0 : Int32)) (kX0 + 4) 3 (0 : Int32)) (k3 + 2) r3.toNatClampNeg) (su (su (su (su σ (kX0 + 4) 0 (σ (k3 + 1) r1.toNatClampNeg)) (kX0 + 4) 1 ((su σ (kX0 + 4) 0 (σ (k3 + 1) r1.toNatClampNeg)) (k3 + 1) r3.toNatClampNeg)) (kX0 + 4) 2 (0 : Int32)) (kX0 + 4) 3 (0 : Int32))))) (su_hit rfl) ?_
                refine lv_if_eq (tgt := 215) hx hb dX0_foresee_208 (by decide) (fun c20 => ?_) (fun c20 => ?_)
                · replace h := ifp (c20) h
                  refine lv_iconst (v := 0) hx hb dX0_foresee_215 (by decide) ?_
                  exact J216 false (su (su (su (su (su σ (kX0 + 4) 0 (σ (k3 + 1) r1.toNatClampNeg)) (kX0 + 4) 1 ((su σ (kX0 + 4) 0 (σ (k3 + 1) r1.toNatClampNeg)) (k3 + 1) r3.toNatClampNeg)) (kX0 + 4) 2 (0 : Int32)) (kX0 + 4) 3 (0 : Int32)) (kX0 + 4) 3 (b2i (zf_X0_isLess kX0 ((su (su (su (su σ (kX0 + 4) 0 (σ (k3 + 1) r1.toNatClampNeg)) (kX0 + 4) 1 ((su σ (kX0 + 4) 0 (σ (k3 + 1) r1.toNatClampNeg)) (k3 + 1) r3.toNatClampNeg)) (kX0 + 4) 2 (0 : Int32)) (kX0 + 4) 3 (0 : Int32)) (k3 + 2) r1.toNatClampNeg) ((su (su (su (su σ (kX0 + 4) 0 (σ (k3 + 1) r1.toNatClampNeg)) (kX0 + 4) 1 ((su σ (kX0 + 4) 0 (σ (k3 + 1) r1.toNatClampNeg)) (k3 + 1) r3.toNatClampNeg)) (kX0 + 4) 2 (0 : Int32)) (kX0 + 4) 3 (0 : Int32)) (k3 + 2) r3.toNatClampNeg) (su (su (su (su σ (kX0 + 4) 0 (σ (k3 + 1) r1.toNatClampNeg)) (kX0 + 4) 1 ((su σ (kX0 + 4) 0 (σ (k3 + 1) r1.toNatClampNeg)) (k3 + 1) r3.toNatClampNeg)) (kX0 + 4) 2 (0 : Int32)) (kX0 + 4) 3 (0 : Int32))))) H locs ls h hP hD hS (lv_sub (l' := []) hl [] rfl)
                · replace h := ifn (c20) h
                  refine lv_iconst (v := 1) hx hb dX0_foresee_211 (by decide) ?_
                  refine lv_goto (tgt := 216) hx hb dX0_foresee_212 (by decide) ?_
                  exact J216 true (su (su (su (su (su σ (kX0 + 4) 0 (σ (k3 + 1) r1.toNatClampNeg)) (kX0 + 4) 1 ((su σ (kX0 + 4) 0 (σ (k3 + 1) r1.toNatClampNeg)) (k3 + 1) r3.toNatClampNeg)) (kX0 + 4) 2 (0 : Int32)) (kX0 + 4) 3 (0 : Int32)) (kX0 + 4) 3 (b2i (zf_X0_isLess kX0 ((su (su (su (su σ (kX0 + 4) 0 (σ (k3 + 1) r1.toNatClampNeg)) (kX0 + 4) 1 ((su σ (kX0 + 4) 0 (σ (k3 + 1) r1.toNatClampNeg)) (k3 + 1) r3.toNatClampNeg)) (kX0 + 4) 2 (0 : Int32)) (kX0 + 4) 3 (0 : Int32)) (k3 + 2) r1.toNatClampNeg) ((su (su (su (su σ (kX0 + 4) 0 (σ (k3 + 1) r1.toNatClampNeg)) (kX0 + 4) 1 ((su σ (kX0 + 4) 0 (σ (k3 + 1) r1.toNatClampNeg)) (k3 + 1) r3.toNatClampNeg)) (kX0 + 4) 2 (0 : Int32)) (kX0 + 4) 3 (0 : Int32)) (k3 + 2) r3.toNatClampNeg) (su (su (su (su σ (kX0 + 4) 0 (σ (k3 + 1) r1.toNatClampNeg)) (kX0 + 4) 1 ((su σ (kX0 + 4) 0 (σ (k3 + 1) r1.toNatClampNeg)) (k3 + 1) r3.toNatClampNeg)) (kX0 + 4) 2 (0 : Int32)) (kX0 + 4) 3 (0 : Int32))))) H locs ls h hP hD hS (lv_sub (l' := []) hl [] rfl)
            · replace h := ifp (c14) h
              refine lv_aload_n hx hb dX0_foresee_152 rfl (lv_at hl 3 rfl) ?_
              refine lv_aload_n hx hb dX0_foresee_153 rfl (lv_at hl 6 rfl) ?_
              refine gf_X5_1 hk3 hx hb hts iw_X0_foresee_X5 hown hK hP (hts (.fieldLink RX0 48 "TraceTrees$Registers" "bits" "[I") (List.mem_of_getElem? (i := 14) rfl)) dX0_foresee_154 ?_
              refine lv_iload hx hb dX0_foresee_157 (lv_at hl 1 rfl) ?_
              refine wald hx hb hK hP (aG2 hk3) hi8 dX0_foresee_159 ?_
              obtain ⟨q21, hc21, h⟩ := letb_inv h
              refine wcallv (S := Unit) (va_runV (As := [.int ((su (su (su (su σ (kX0 + 4) 0 (σ (k3 + 1) r1.toNatClampNeg)) (kX0 + 4) 1 ((su σ (kX0 + 4) 0 (σ (k3 + 1) r1.toNatClampNeg)) (k3 + 1) r3.toNatClampNeg)) (kX0 + 4) 2 (0 : Int32)) (kX0 + 4) 3 (0 : Int32)) (k3 + 2) r3.toNatClampNeg)]) (rest := []) ⟨hx, hb, hml, hown, hts⟩ (c_X0_halve l dC dI cI cT cS H.size ad kX0 hX0 ((su (su (su (su σ (kX0 + 4) 0 (σ (k3 + 1) r1.toNatClampNeg)) (kX0 + 4) 1 ((su σ (kX0 + 4) 0 (σ (k3 + 1) r1.toNatClampNeg)) (k3 + 1) r3.toNatClampNeg)) (kX0 + 4) 2 (0 : Int32)) (kX0 + 4) 3 (0 : Int32)) (k3 + 2) r3.toNatClampNeg) (su (su (su (su σ (kX0 + 4) 0 (σ (k3 + 1) r1.toNatClampNeg)) (kX0 + 4) 1 ((su σ (kX0 + 4) 0 (σ (k3 + 1) r1.toNatClampNeg)) (k3 + 1) r3.toNatClampNeg)) (kX0 + 4) 2 (0 : Int32)) (kX0 + 4) 3 (0 : Int32)) _ hc21) (cwV 1 hts (gWV (List.mem_of_getElem? (i := 19) rfl) (List.mem_of_getElem? (i := 20) rfl) (List.mem_of_getElem? (i := 21) rfl) (List.mem_of_getElem? (i := 18) rfl) ic_X0_foresee_c_X0_halve gd_c_X0_halve) rfl rfl rfl (by decide +kernel) ⟨(Nat.le_of_ble_eq_true rfl), (Nat.le_of_ble_eq_true rfl)⟩) (wpV (q := (RX0, TX0, 6)) hP hK hD (oX0 hX0) rfl) rfl rfl hl.1 rfl (lv_room (Nat.le_of_ble_eq_true rfl)) dX0_foresee_160 ⟨(Nat.le_of_ble_eq_true rfl), (Nat.le_of_ble_eq_true rfl)⟩) hP hD hS hA (fun _ H locs hr22 hP hD hS => ?_)
              replace hP : va_P (dC, dI) vwCl (Wd 153 (cfC ad cI cT cS) q21) H := hP
              replace hD : va_D A (Wd 153 (cfC ad cI cT cS) q21) := hD
              refine lv_aload_n hx hb dX0_foresee_163 rfl (lv_at hl 3 rfl) ?_
              refine lv_aload_n hx hb dX0_foresee_164 rfl (lv_at hl 3 rfl) ?_
              refine gf_X0_4 hX0 hx hb hts iw_X0_foresee_X0 hown hK hP (hts (.fieldLink RX0 55 "TraceTrees$Effect" "kind" "I") (List.mem_of_getElem? (i := 22) rfl)) dX0_foresee_165 ?_
              refine pf_X0_2 hX0 hx hb hts iw_X0_foresee_X0 hown hK hP hD hS (hts (.fieldLink RX0 34 "TraceTrees$Effect" "way" "I") (List.mem_of_getElem? (i := 12) rfl)) dX0_foresee_168 (fun H locs hP hD hS => ?_)
              refine lv_goto (tgt := 276) hx hb dX0_foresee_171 (by decide) ?_
              exact J276 (su q21 (kX0 + 4) 2 (q21 (kX0 + 4) 4)) H locs ls h hP hD hS (lv_sub (l' := []) hl [] rfl)
          · replace h := ifp (c13) h
            exact J115 e6 r3 r1 (su (su (su (su σ (kX0 + 4) 0 (σ (k3 + 1) r1.toNatClampNeg)) (kX0 + 4) 1 ((su σ (kX0 + 4) 0 (σ (k3 + 1) r1.toNatClampNeg)) (k3 + 1) r3.toNatClampNeg)) (kX0 + 4) 2 (0 : Int32)) (kX0 + 4) 3 (0 : Int32)) H locs ls h hP hD hS (lv_sub (l' := [(6, .int e6), (5, .int r3), (4, .int r1), (0, .ref (ad (kX0 + 4))), (3, .ref (ad k3))]) hl [0, 1, 2, 3, 6] rfl)
    · replace h := ifp (c10) h
      refine lv_aload_n hx hb dX0_foresee_79 rfl (lv_at hl 3 rfl) ?_
      refine lv_aload_n hx hb dX0_foresee_80 rfl (lv_at hl 3 rfl) ?_
      refine gf_X0_1 hX0 hx hb hts iw_X0_foresee_X0 hown hK hP (hts (.fieldLink RX0 31 "TraceTrees$Effect" "kindZ" "I") (List.mem_of_getElem? (i := 11) rfl)) dX0_foresee_81 ?_
      refine lv_nm (y := ((su σ (kX0 + 4) 0 (σ (k3 + 1) r1.toNatClampNeg)) (k3 + 1) r3.toNatClampNeg)) (su_rf (by omega) (by decide) (su_rf (by omega) (by decide) (su_hit rfl))) ?_
      refine lv_aload_n hx hb dX0_foresee_84 rfl (lv_at hl 6 rfl) ?_
      refine gf_X5_1 hk3 hx hb hts iw_X0_foresee_X5 hown hK hP (hts (.fieldLink RX0 48 "TraceTrees$Registers" "bits" "[I") (List.mem_of_getElem? (i := 14) rfl)) dX0_foresee_85 ?_
      refine lv_iload hx hb dX0_foresee_88 (lv_at hl 1 rfl) ?_
      refine wald hx hb hK hP (aG2 hk3) hi8 dX0_foresee_90 ?_
      obtain ⟨q23, hc23, h⟩ := letb_inv h
      refine wcallv (S := Unit) (va_runV (As := [.int ((su σ (kX0 + 4) 0 (σ (k3 + 1) r1.toNatClampNeg)) (k3 + 1) r3.toNatClampNeg), .int ((su (su (su (su σ (kX0 + 4) 0 (σ (k3 + 1) r1.toNatClampNeg)) (kX0 + 4) 1 ((su σ (kX0 + 4) 0 (σ (k3 + 1) r1.toNatClampNeg)) (k3 + 1) r3.toNatClampNeg)) (kX0 + 4) 2 (0 : Int32)) (kX0 + 4) 3 (0 : Int32)) (k3 + 2) r3.toNatClampNeg)]) (rest := []) ⟨hx, hb, hml, hown, hts⟩ (c_X0_become l dC dI cI cT cS H.size ad kX0 hX0 ((su σ (kX0 + 4) 0 (σ (k3 + 1) r1.toNatClampNeg)) (k3 + 1) r3.toNatClampNeg) ((su (su (su (su σ (kX0 + 4) 0 (σ (k3 + 1) r1.toNatClampNeg)) (kX0 + 4) 1 ((su σ (kX0 + 4) 0 (σ (k3 + 1) r1.toNatClampNeg)) (k3 + 1) r3.toNatClampNeg)) (kX0 + 4) 2 (0 : Int32)) (kX0 + 4) 3 (0 : Int32)) (k3 + 2) r3.toNatClampNeg) (su (su (su (su σ (kX0 + 4) 0 (σ (k3 + 1) r1.toNatClampNeg)) (kX0 + 4) 1 ((su σ (kX0 + 4) 0 (σ (k3 + 1) r1.toNatClampNeg)) (k3 + 1) r3.toNatClampNeg)) (kX0 + 4) 2 (0 : Int32)) (kX0 + 4) 3 (0 : Int32)) _ hc23) (cwV 2 hts (gWV (List.mem_of_getElem? (i := 23) rfl) (List.mem_of_getElem? (i := 24) rfl) (List.mem_of_getElem? (i := 25) rfl) (List.mem_of_getElem? (i := 18) rfl) ic_X0_foresee_c_X0_become gd_c_X0_become) rfl rfl rfl (by decide +kernel) ⟨(Nat.le_of_ble_eq_true rfl), (Nat.le_of_ble_eq_true rfl)⟩) (wpV (q := (RX0, TX0, 6)) hP hK hD (oX0 hX0) rfl) rfl rfl hl.1 rfl (lv_room (Nat.le_of_ble_eq_true rfl)) dX0_foresee_91 ⟨(Nat.le_of_ble_eq_true rfl), (Nat.le_of_ble_eq_true rfl)⟩) hP hD hS hA (fun _ H locs hr24 hP hD hS => ?_)
      replace hP : va_P (dC, dI) vwCl (Wd 153 (cfC ad cI cT cS) q23) H := hP
      replace hD : va_D A (Wd 153 (cfC ad cI cT cS) q23) := hD
      refine lv_goto (tgt := 276) hx hb dX0_foresee_94 (by decide) ?_
      exact J276 q23 H locs ls h hP hD hS (lv_sub (l' := []) hl [] rfl)
  · replace h := ifp (c9) h
    refine lv_aload_n hx hb dX0_foresee_59 rfl (lv_at hl 3 rfl) ?_
    refine lv_iconst (v := 0) hx hb dX0_foresee_60 (by decide) ?_
    refine lv_aload_n hx hb dX0_foresee_61 rfl (lv_at hl 4 rfl) ?_
    refine gf_X4_2 hx hb hts iw_X0_foresee_X4 hown hK hP (hts (.fieldLink RX0 41 "TraceTrees$Program" "b" "[I") (List.mem_of_getElem? (i := 26) rfl)) dX0_foresee_62 ?_
    refine lv_iload_n hx hb dX0_foresee_65 rfl (lv_at hl 5 rfl) ?_
    refine wald hx hb hK hP aP4 hi5 dX0_foresee_66 ?_
    refine lv_nm (y := (σ 4 a2.toNatClampNeg)) (su_rd (ne_lM hX0 (by decide)) (su_rd (ne_lM hX0 (by decide)) (su_rd (ne_lM hX0 (by decide)) (su_rd (ne_lM hX0 (by decide)) rfl)))) ?_
    obtain ⟨q25, hc25, h⟩ := letb_inv h
    refine wcallv (S := Unit) (va_runV (As := [.int (0 : Int32), .int (σ 4 a2.toNatClampNeg)]) (rest := []) ⟨hx, hb, hml, hown, hts⟩ (c_X0_become l dC dI cI cT cS H.size ad kX0 hX0 (0 : Int32) (σ 4 a2.toNatClampNeg) (su (su (su (su σ (kX0 + 4) 0 (σ (k3 + 1) r1.toNatClampNeg)) (kX0 + 4) 1 ((su σ (kX0 + 4) 0 (σ (k3 + 1) r1.toNatClampNeg)) (k3 + 1) r3.toNatClampNeg)) (kX0 + 4) 2 (0 : Int32)) (kX0 + 4) 3 (0 : Int32)) _ hc25) (cwV 2 hts (gWV (List.mem_of_getElem? (i := 23) rfl) (List.mem_of_getElem? (i := 24) rfl) (List.mem_of_getElem? (i := 25) rfl) (List.mem_of_getElem? (i := 18) rfl) ic_X0_foresee_c_X0_become gd_c_X0_become) rfl rfl rfl (by decide +kernel) ⟨(Nat.le_of_ble_eq_true rfl), (Nat.le_of_ble_eq_true rfl)⟩) (wpV (q := (RX0, TX0, 6)) hP hK hD (oX0 hX0) rfl) rfl rfl hl.1 rfl (lv_room (Nat.le_of_ble_eq_true rfl)) dX0_foresee_67 ⟨(Nat.le_of_ble_eq_true rfl), (Nat.le_of_ble_eq_true rfl)⟩) hP hD hS hA (fun _ H locs hr26 hP hD hS => ?_)
    replace hP : va_P (dC, dI) vwCl (Wd 153 (cfC ad cI cT cS) q25) H := hP
    replace hD : va_D A (Wd 153 (cfC ad cI cT cS) q25) := hD
    refine lv_goto (tgt := 276) hx hb dX0_foresee_70 (by decide) ?_
    exact J276 q25 H locs ls h hP hD hS (lv_sub (l' := []) hl [] rfl)
def zl_X2_clear_18 (kX2 : Nat) (x18 : Int32 × Sg) : Option (Bool × (Int32 × Sg)) := (if (24 : Int32) ≤ x18.1 then some (false, (x18.1, x18.2)) else bd x18.1 24 (some (true, ((x18.1 + (1 : Int32)), su x18.2 (kX2 + 9) x18.1.toNatClampNeg (-1)))))
def zf_X2_clear (kX2 : Nat) (σ : Sg) : Option (Sg) := obd (zf_J7_fill_53178 (kX2 + 7) 24 (0 : Int32) σ) (fun σ1 => obd (zf_J7_fill_53178 (kX2 + 8) 24 (0 : Int32) σ1) (fun σ3 => obd (lp (X := Int32 × Sg) (zl_X2_clear_18 kX2) 1000 ((0 : Int32), σ3)) (fun y18 => some (su (su (su y18.2 (kX2 + 5) 4 (0 : Int32)) (kX2 + 5) 5 (0 : Int32)) (kX2 + 5) 6 (-1)))))
def oc_X2_clear : List Cond := [.fieldLink RX2 17 "TraceTrees$Forest" "heat" "[I", .methodLink RX2 30 yJ7_fill_53178, .static yJ7_fill_53178, .initialized RJ7, .fieldLink RX2 21 "TraceTrees$Forest" "drops" "[I", .fieldLink RX2 24 "TraceTrees$Forest" "root" "[LTraceTrees$Trace;", .fieldLink RX2 36 "TraceTrees$Forest" "size" "I", .fieldLink RX2 40 "TraceTrees$Forest" "dropped" "I", .fieldLink RX2 43 "TraceTrees$Forest" "recording" "LTraceTrees$Trace;"]
def vc_X2_clear : List Cond := .code yX2_clear cX2_clear 2 none :: (oc_X2_clear ++ (wsX20 ++ (vc_J7_fill_53178)))
theorem iw_X2_clear_X2 : ∀ w ∈ wsX20, w ∈ vc_X2_clear := fun _ h => List.mem_cons_of_mem _ (List.mem_append_right _ (List.mem_append_left _ h))
theorem ic_X2_clear_c_J7_fill_53178 : ∀ w ∈ vc_J7_fill_53178, w ∈ vc_X2_clear := fun _ h => List.mem_cons_of_mem _ (List.mem_append_right _ (List.mem_append_right _ (h)))
theorem gd_c_X2_clear : (vc_X2_clear).all goodWord = true := gall_cons rfl (gall_app (by decide +kernel) (gall_app gw_X2 gd_c_J7_fill_53178))
set_option maxHeartbeats 4000000 in
set_option maxRecDepth 100000 in
theorem c_X2_clear (l : Launch) (dC : Nat → ClassId) (dI : Nat → Nat → Nat) (cI cT cS : ClassId) (sz : Nat) (ad : Nat → Nat) (kX2 : Nat) (hX2 : isM kX2) (σ : Sg) (o : Sg) (h : zf_X2_clear kX2 σ = some o) : gCV (S := Unit) l yX2_clear vc_X2_clear { frames := 1, cells := 0, slots := 0, locals := 23 } (dC, dI) (gTY cI cT cS) sz [.ref (ad (kX2 + 5))] (Wd 153 (cfC ad cI cT cS) σ) (fun (_ : Unit) => True) (fun (_ : Unit) => (Wd 153 (cfC ad cI cT cS) o)) 0 0 := by
  refine Met.ofW (cc := cX2_clear) (maxL := 2) (ret := none) (by decide) rfl ?_
  intro p e s m args below meth c s₁ B hml hv
  obtain ⟨rfl, hsz, hP, hK, hD0⟩ := hv
  have hx := B.exec
  have hb := B.bytes
  have hr := B.returns
  have hts := atoms_spec (ws := vc_X2_clear) B.pre
  have hown : s.vm.findClass RX2 = some m.cls := findClass_of_methodNamed B.named
  have hlocks := B.notSynchronized
  subst hsz
  have hD := hD0.self (sz := s.heap.size)
  generalize hAe : va_A (Wd 153 (cfC ad cI cT cS) σ) s.heap.size = A at hD ⊢
  have hA : ∀ q : Nat, s.heap.size ≤ q → A q := fun q h => by rw [← hAe]; exact Or.inr h
  clear hAe hD0
  refine gstart (fun H locs hHe hLe => ?_)
  have hS : va_S A s.heap H locs := by rw [← hHe, ← hLe]; exact va_S.rf
  replace hP : va_P (dC, dI) vwCl (Wd 153 (cfC ad cI cT cS) σ) H := by rw [← hHe]; exact hP
  clear hHe hLe
  have hl := lv_entry ([.ref (ad (kX2 + 5))]) (n := 2) (Nat.le_of_ble_eq_true rfl)
  rw [lg_entry_eq]
  generalize (lg_sl ([.ref (ad (kX2 + 5))]) ++ List.replicate (2 - (lg_sl ([.ref (ad (kX2 + 5))])).length) Slot.unset).toArray = ls at hl ⊢
  replace hl : lv_has ls 2 [(0, .ref (ad (kX2 + 5)))] := hl
  unfold zf_X2_clear at h
  refine lv_aload_n hx hb dX2_clear_0 rfl (lv_at hl 0 rfl) ?_
  refine gf_X2_1 hX2 hx hb hts iw_X2_clear_X2 hown hK hP (hts (.fieldLink RX2 17 "TraceTrees$Forest" "heat" "[I") (List.mem_of_getElem? (i := 1) rfl)) dX2_clear_1 ?_
  refine lv_iconst (v := 0) hx hb dX2_clear_4 (by decide) ?_
  obtain ⟨σ1, hc1, h⟩ := obd_inv h
  refine wcallv (S := Unit) (va_runS (As := [.ref (ad (kX2 + 7)), .int (0 : Int32)]) (rest := []) ⟨hx, hb, hml, hown, hts⟩ (c_J7_fill_53178 l dC dI cI cT cS H.size _ _ ad (kX2 + 7) 24 (aHe hX2) (0 : Int32) σ _ hc1) (va_cwS 2 hts (gWS (List.mem_of_getElem? (i := 2) rfl) (List.mem_of_getElem? (i := 3) rfl) (List.mem_of_getElem? (i := 4) rfl) ic_X2_clear_c_J7_fill_53178 gd_c_J7_fill_53178) rfl rfl rfl (by decide +kernel) ⟨(Nat.le_of_ble_eq_true rfl), (Nat.le_of_ble_eq_true rfl)⟩) (gpS hP hK hD) rfl rfl hl.1 rfl (lv_room (Nat.le_of_ble_eq_true rfl)) dX2_clear_5 ⟨(Nat.le_of_ble_eq_true rfl), (Nat.le_of_ble_eq_true rfl)⟩) hP hD hS hA (fun _ H locs hr2 hP hD hS => ?_)
  replace hP : va_P (dC, dI) vwCl (Wd 153 (cfC ad cI cT cS) σ1) H := hP
  replace hD : va_D A (Wd 153 (cfC ad cI cT cS) σ1) := hD
  refine lv_aload_n hx hb dX2_clear_8 rfl (lv_at hl 0 rfl) ?_
  refine gf_X2_2 hX2 hx hb hts iw_X2_clear_X2 hown hK hP (hts (.fieldLink RX2 21 "TraceTrees$Forest" "drops" "[I") (List.mem_of_getElem? (i := 5) rfl)) dX2_clear_9 ?_
  refine lv_iconst (v := 0) hx hb dX2_clear_12 (by decide) ?_
  obtain ⟨σ3, hc3, h⟩ := obd_inv h
  refine wcallv (S := Unit) (va_runS (As := [.ref (ad (kX2 + 8)), .int (0 : Int32)]) (rest := []) ⟨hx, hb, hml, hown, hts⟩ (c_J7_fill_53178 l dC dI cI cT cS H.size _ _ ad (kX2 + 8) 24 (aDr hX2) (0 : Int32) σ1 _ hc3) (va_cwS 2 hts (gWS (List.mem_of_getElem? (i := 2) rfl) (List.mem_of_getElem? (i := 3) rfl) (List.mem_of_getElem? (i := 4) rfl) ic_X2_clear_c_J7_fill_53178 gd_c_J7_fill_53178) rfl rfl rfl (by decide +kernel) ⟨(Nat.le_of_ble_eq_true rfl), (Nat.le_of_ble_eq_true rfl)⟩) (gpS hP hK hD) rfl rfl hl.1 rfl (lv_room (Nat.le_of_ble_eq_true rfl)) dX2_clear_13 ⟨(Nat.le_of_ble_eq_true rfl), (Nat.le_of_ble_eq_true rfl)⟩) hP hD hS hA (fun _ H locs hr4 hP hD hS => ?_)
  replace hP : va_P (dC, dI) vwCl (Wd 153 (cfC ad cI cT cS) σ3) H := hP
  replace hD : va_D A (Wd 153 (cfC ad cI cT cS) σ3) := hD
  refine lv_iconst (v := 0) hx hb dX2_clear_16 (by decide) ?_
  refine lv_istore_n (lv' := [(1, .int (0 : Int32)), (0, .ref (ad (kX2 + 5)))]) hx hb dX2_clear_17 rfl hl (by decide) rfl (fun ls hl => ?_)
  obtain ⟨y18, hlp18, h⟩ := obd_inv h
  refine lp_W (fun x18 : Int32 × Sg => ∀ (H : Heap) (locs : List Loc) (ls : Array Slot), va_P (dC, dI) vwCl (Wd 153 (cfC ad cI cT cS) x18.2) H → va_D A (Wd 153 (cfC ad cI cT cS) x18.2) → va_S A s.heap H locs → lv_has ls 2 [(1, .int x18.1), (0, .ref (ad (kX2 + 5)))] → W p l e (headSpec vc_X2_clear { frames := 1, cells := 0, slots := 0, locals := 23 }).room s m (List.toArray (α := Value) [.ref (ad (kX2 + 5))]) below meth c H locs 0 0 (MQ below (va_Qv (fun (_ : Unit) => True) (gB (dC, dI) A (fun (_ : Unit) => (Wd 153 (cfC ad cI cT cS) o))) A) (List.toArray (α := Value) [.ref (ad (kX2 + 5))]) s 0 0 A) (F0 m 18 ls [])) (fun y18 : Int32 × Sg => ∀ (H : Heap) (locs : List Loc) (ls : Array Slot), va_P (dC, dI) vwCl (Wd 153 (cfC ad cI cT cS) y18.2) H → va_D A (Wd 153 (cfC ad cI cT cS) y18.2) → va_S A s.heap H locs → lv_has ls 2 [(0, .ref (ad (kX2 + 5)))] → W p l e (headSpec vc_X2_clear { frames := 1, cells := 0, slots := 0, locals := 23 }).room s m (List.toArray (α := Value) [.ref (ad (kX2 + 5))]) below meth c H locs 0 0 (MQ below (va_Qv (fun (_ : Unit) => True) (gB (dC, dI) A (fun (_ : Unit) => (Wd 153 (cfC ad cI cT cS) o))) A) (List.toArray (α := Value) [.ref (ad (kX2 + 5))]) s 0 0 A) (F0 m 37 ls [])) ?_ 1000 ((0 : Int32), σ3) y18 hlp18 ?_ H locs ls hP hD hS (lv_sub (l' := [(1, .int (0 : Int32)), (0, .ref (ad (kX2 + 5)))]) hl [0, 1] rfl)
  · intro x18 yy18 h ht18 hf18 H locs ls hP hD hS hl
    unfold zl_X2_clear_18 at h
    refine lv_iload_n hx hb dX2_clear_18 rfl (lv_at hl 0 rfl) ?_
    refine lv_bipush (v := 24) hx hb dX2_clear_19 (by decide) ?_
    refine lv_icmp_ge (tgt := 37) hx hb dX2_clear_21 (by decide) (fun c5 => ?_) (fun c5 => ?_)
    · replace h := ifp (c5) h
      obtain rfl := Option.some.inj h
      exact hf18 rfl H locs ls hP hD hS (lv_sub (l' := [(0, .ref (ad (kX2 + 5)))]) hl [1] rfl)
    · replace h := ifn (c5) h
      refine lv_aload_n hx hb dX2_clear_24 rfl (lv_at hl 1 rfl) ?_
      refine gf_X2_3 hX2 hx hb hts iw_X2_clear_X2 hown hK hP (hts (.fieldLink RX2 24 "TraceTrees$Forest" "root" "[LTraceTrees$Trace;") (List.mem_of_getElem? (i := 6) rfl)) dX2_clear_25 ?_
      refine lv_iload_n hx hb dX2_clear_28 rfl (lv_at hl 0 rfl) ?_
      refine lv_null hx hb dX2_clear_29 ?_
      obtain ⟨hi6, h⟩ := bd_inv h
      refine wastN hx hb hK hP hD hS hX2 hi6 dX2_clear_30 (fun H locs hP hD hS => ?_)
      refine lv_iinc (v := (x18.1 + (1 : Int32))) (lv' := [(1, .int (x18.1 + (1 : Int32))), (0, .ref (ad (kX2 + 5)))]) hx hb dX2_clear_31 hl (k := 0) rfl rfl (by decide) rfl (fun ls hl => ?_)
      refine lv_goto (tgt := 18) hx hb dX2_clear_34 (by decide) ?_
      obtain rfl := Option.some.inj h
      exact ht18 rfl H locs ls hP hD hS (lv_sub (l' := [(1, .int (x18.1 + (1 : Int32))), (0, .ref (ad (kX2 + 5)))]) hl [0, 1] rfl)
  · intro H locs ls hP hD hS hl
    refine lv_aload_n hx hb dX2_clear_37 rfl (lv_at hl 0 rfl) ?_
    refine lv_iconst (v := 0) hx hb dX2_clear_38 (by decide) ?_
    refine pf_X2_4 hX2 hx hb hts iw_X2_clear_X2 hown hK hP hD hS (hts (.fieldLink RX2 36 "TraceTrees$Forest" "size" "I") (List.mem_of_getElem? (i := 7) rfl)) dX2_clear_39 (fun H locs hP hD hS => ?_)
    refine lv_aload_n hx hb dX2_clear_42 rfl (lv_at hl 0 rfl) ?_
    refine lv_iconst (v := 0) hx hb dX2_clear_43 (by decide) ?_
    refine pf_X2_5 hX2 hx hb hts iw_X2_clear_X2 hown hK hP hD hS (hts (.fieldLink RX2 40 "TraceTrees$Forest" "dropped" "I") (List.mem_of_getElem? (i := 8) rfl)) dX2_clear_44 (fun H locs hP hD hS => ?_)
    refine lv_aload_n hx hb dX2_clear_47 rfl (lv_at hl 0 rfl) ?_
    refine lv_null hx hb dX2_clear_48 ?_
    refine pf_X2_6 hX2 (x := -1) (rv_null ad rfl).symm hx hb hts iw_X2_clear_X2 hown hK hP hD hS (hts (.fieldLink RX2 43 "TraceTrees$Forest" "recording" "LTraceTrees$Trace;") (List.mem_of_getElem? (i := 9) rfl)) dX2_clear_49 (fun H locs hP hD hS => ?_)
    have h9 := Option.some.inj h
    exact wretv hx hb hr hlocks hP hD hS trivial (by rw [← h9]) dX2_clear_52
def zb_X2_has_17 (w0_17 : Bool) : Bool := w0_17
def zb_X2_has_16  : Bool := (zb_X2_has_17 false)
def zf_X2_has (kX2 : Nat) (a1 : Int32) (σ : Sg) : Bool := (if a1 < 0 then zb_X2_has_16 else (if (σ (kX2 + 5) 4) ≤ a1 then zb_X2_has_16 else (zb_X2_has_17 true)))
def oc_X2_has : List Cond := [.fieldLink RX2 36 "TraceTrees$Forest" "size" "I"]
def vc_X2_has : List Cond := .code yX2_has cX2_has 2 (some .boolean) :: (oc_X2_has ++ (wsX20))
theorem iw_X2_has_X2 : ∀ w ∈ wsX20, w ∈ vc_X2_has := fun _ h => List.mem_cons_of_mem _ (List.mem_append_right _ (h))
theorem gd_c_X2_has : (vc_X2_has).all goodWord = true := gall_cons rfl (gall_app (by decide +kernel) gw_X2)
set_option maxHeartbeats 4000000 in
set_option maxRecDepth 100000 in
theorem c_X2_has (l : Launch) (dC : Nat → ClassId) (dI : Nat → Nat → Nat) (cI cT cS : ClassId) (sz : Nat) (ad : Nat → Nat) (kX2 : Nat) (hX2 : isM kX2) (a1 : Int32) (σ : Sg) (o : Bool) (h : zf_X2_has kX2 a1 σ = o) : gCI (S := Unit) l yX2_has vc_X2_has { frames := 0, cells := 0, slots := 0, locals := 0 } (dC, dI) (gTY cI cT cS) sz [.ref (ad (kX2 + 5)), .int a1] (Wd 153 (cfC ad cI cT cS) σ) (fun (r : Int32) (_ : Unit) => r = b2i o) (fun (_ : Unit) => (Wd 153 (cfC ad cI cT cS) σ)) 0 0 := by
  refine Met.ofW (cc := cX2_has) (maxL := 2) (ret := (some .boolean)) (by decide) rfl ?_
  intro p e s m args below meth c s₁ B hml hv
  obtain ⟨rfl, hsz, hP, hK, hD0⟩ := hv
  have hx := B.exec
  have hb := B.bytes
  have hr := B.returns
  have hts := atoms_spec (ws := vc_X2_has) B.pre
  have hown : s.vm.findClass RX2 = some m.cls := findClass_of_methodNamed B.named
  have hlocks := B.notSynchronized
  subst hsz
  have hD := hD0.self (sz := s.heap.size)
  generalize hAe : va_A (Wd 153 (cfC ad cI cT cS) σ) s.heap.size = A at hD ⊢
  have hA : ∀ q : Nat, s.heap.size ≤ q → A q := fun q h => by rw [← hAe]; exact Or.inr h
  clear hAe hD0
  refine gstart (fun H locs hHe hLe => ?_)
  have hS : va_S A s.heap H locs := by rw [← hHe, ← hLe]; exact va_S.rf
  replace hP : va_P (dC, dI) vwCl (Wd 153 (cfC ad cI cT cS) σ) H := by rw [← hHe]; exact hP
  clear hHe hLe
  have hl := lv_entry ([.ref (ad (kX2 + 5)), .int a1]) (n := 2) (Nat.le_of_ble_eq_true rfl)
  rw [lg_entry_eq]
  generalize (lg_sl ([.ref (ad (kX2 + 5)), .int a1]) ++ List.replicate (2 - (lg_sl ([.ref (ad (kX2 + 5)), .int a1])).length) Slot.unset).toArray = ls at hl ⊢
  replace hl : lv_has ls 2 [(0, .ref (ad (kX2 + 5))), (1, .int a1)] := hl
  unfold zf_X2_has at h
  have J17 : ∀ (w0_17 : Bool) (H : Heap) (locs : List Loc) (ls : Array Slot), zb_X2_has_17 w0_17 = o → va_P (dC, dI) vwCl (Wd 153 (cfC ad cI cT cS) σ) H → va_D A (Wd 153 (cfC ad cI cT cS) σ) → va_S A s.heap H locs → lv_has ls 2 [] → W p l e (headSpec vc_X2_has { frames := 0, cells := 0, slots := 0, locals := 0 }).room s m (List.toArray (α := Value) [.ref (ad (kX2 + 5)), .int a1]) below meth c H locs 0 0 (MQ below (va_Qi (fun (r : Int32) (_ : Unit) => r = b2i o) (gB (dC, dI) A (fun (_ : Unit) => (Wd 153 (cfC ad cI cT cS) σ))) A) (List.toArray (α := Value) [.ref (ad (kX2 + 5)), .int a1]) s 0 0 A) (F0 m 17 ls [.int (b2i w0_17)]) := by
    intro w0_17 H locs ls h hP hD hS hl
    unfold zb_X2_has_17 at h
    have h9 := h
    exact wretz hx hb hr hlocks (b2i_or _) hP hD hS (by show _ = _; rw [← h9]; first | done | rfl) rfl dX2_has_17
  have J16 : ∀  (H : Heap) (locs : List Loc) (ls : Array Slot), zb_X2_has_16 = o → va_P (dC, dI) vwCl (Wd 153 (cfC ad cI cT cS) σ) H → va_D A (Wd 153 (cfC ad cI cT cS) σ) → va_S A s.heap H locs → lv_has ls 2 [] → W p l e (headSpec vc_X2_has { frames := 0, cells := 0, slots := 0, locals := 0 }).room s m (List.toArray (α := Value) [.ref (ad (kX2 + 5)), .int a1]) below meth c H locs 0 0 (MQ below (va_Qi (fun (r : Int32) (_ : Unit) => r = b2i o) (gB (dC, dI) A (fun (_ : Unit) => (Wd 153 (cfC ad cI cT cS) σ))) A) (List.toArray (α := Value) [.ref (ad (kX2 + 5)), .int a1]) s 0 0 A) (F0 m 16 ls []) := by
    intro  H locs ls h hP hD hS hl
    unfold zb_X2_has_16 at h
    refine lv_iconst (v := 0) hx hb dX2_has_16 (by decide) ?_
    exact J17 false H locs ls h hP hD hS (lv_sub (l' := []) hl [] rfl)
  refine lv_iload_n hx hb dX2_has_0 rfl (lv_at hl 1 rfl) ?_
  refine lv_if_lt (tgt := 16) hx hb dX2_has_1 (by decide) (fun c1 => ?_) (fun c1 => ?_)
  · replace h := ifp (c1) h
    exact J16  H locs ls h hP hD hS (lv_sub (l' := []) hl [] rfl)
  · replace h := ifn (c1) h
    refine lv_iload_n hx hb dX2_has_4 rfl (lv_at hl 1 rfl) ?_
    refine lv_aload_n hx hb dX2_has_5 rfl (lv_at hl 0 rfl) ?_
    refine gf_X2_4 hX2 hx hb hts iw_X2_has_X2 hown hK hP (hts (.fieldLink RX2 36 "TraceTrees$Forest" "size" "I") (List.mem_of_getElem? (i := 1) rfl)) dX2_has_6 ?_
    refine lv_icmp_ge (tgt := 16) hx hb dX2_has_9 (by decide) (fun c2 => ?_) (fun c2 => ?_)
    · replace h := ifp (c2) h
      exact J16  H locs ls h hP hD hS (lv_sub (l' := []) hl [] rfl)
    · replace h := ifn (c2) h
      refine lv_iconst (v := 1) hx hb dX2_has_12 (by decide) ?_
      refine lv_goto (tgt := 17) hx hb dX2_has_13 (by decide) ?_
      exact J17 true H locs ls h hP hD hS (lv_sub (l' := []) hl [] rfl)
def zb_X2_hasEntry_30 (w0_30 : Bool) : Option (Bool) := some w0_30
def zb_X2_hasEntry_29  : Option (Bool) := (zb_X2_hasEntry_30 false)
def zf_X2_hasEntry (kX2 : Nat) (a1 : Int32) (a2 : Int32) (σ : Sg) : Option (Bool) := (if (zf_X2_has kX2 a1 σ) = true then (if a2 < 0 then zb_X2_hasEntry_29 else bd a1 8 ((if (σ (kX2 + 10 + 7 * a1.toNatClampNeg) 10) ≤ a2 then zb_X2_hasEntry_29 else (zb_X2_hasEntry_30 true)))) else zb_X2_hasEntry_29)
def oc_X2_hasEntry : List Cond := [.methodLink RX2 47 yX2_has, .instanceMethod yX2_has, .selects RX2 yX2_has yX2_has, .initialized RX2, .fieldLink RX2 11 "TraceTrees$Forest" "traces" "[LTraceTrees$Trace;", .fieldLink RX2 51 "TraceTrees$Trace" "size" "I"]
def vc_X2_hasEntry : List Cond := .code yX2_hasEntry cX2_hasEntry 3 (some .boolean) :: (oc_X2_hasEntry ++ (wsX20 ++ (wsX80 ++ (vc_X2_has))))
theorem iw_X2_hasEntry_X2 : ∀ w ∈ wsX20, w ∈ vc_X2_hasEntry := fun _ h => List.mem_cons_of_mem _ (List.mem_append_right _ (List.mem_append_left _ h))
theorem iw_X2_hasEntry_X8 : ∀ w ∈ wsX80, w ∈ vc_X2_hasEntry := fun _ h => List.mem_cons_of_mem _ (List.mem_append_right _ (List.mem_append_right _ (List.mem_append_left _ h)))
theorem ic_X2_hasEntry_c_X2_has : ∀ w ∈ vc_X2_has, w ∈ vc_X2_hasEntry := fun _ h => List.mem_cons_of_mem _ (List.mem_append_right _ (List.mem_append_right _ (List.mem_append_right _ (h))))
theorem gd_c_X2_hasEntry : (vc_X2_hasEntry).all goodWord = true := gall_cons rfl (gall_app (by decide +kernel) (gall_app gw_X2 (gall_app gw_X8 gd_c_X2_has)))
set_option maxHeartbeats 4000000 in
set_option maxRecDepth 100000 in
theorem c_X2_hasEntry (l : Launch) (dC : Nat → ClassId) (dI : Nat → Nat → Nat) (cI cT cS : ClassId) (sz : Nat) (ad : Nat → Nat) (kX2 : Nat) (hX2 : isM kX2) (a1 : Int32) (a2 : Int32) (σ : Sg) (o : Bool) (h : zf_X2_hasEntry kX2 a1 a2 σ = some o) : gCI (S := Unit) l yX2_hasEntry vc_X2_hasEntry { frames := 1, cells := 0, slots := 0, locals := 21 } (dC, dI) (gTY cI cT cS) sz [.ref (ad (kX2 + 5)), .int a1, .int a2] (Wd 153 (cfC ad cI cT cS) σ) (fun (r : Int32) (_ : Unit) => r = b2i o) (fun (_ : Unit) => (Wd 153 (cfC ad cI cT cS) σ)) 0 0 := by
  refine Met.ofW (cc := cX2_hasEntry) (maxL := 3) (ret := (some .boolean)) (by decide) rfl ?_
  intro p e s m args below meth c s₁ B hml hv
  obtain ⟨rfl, hsz, hP, hK, hD0⟩ := hv
  have hx := B.exec
  have hb := B.bytes
  have hr := B.returns
  have hts := atoms_spec (ws := vc_X2_hasEntry) B.pre
  have hown : s.vm.findClass RX2 = some m.cls := findClass_of_methodNamed B.named
  have hlocks := B.notSynchronized
  subst hsz
  have hD := hD0.self (sz := s.heap.size)
  generalize hAe : va_A (Wd 153 (cfC ad cI cT cS) σ) s.heap.size = A at hD ⊢
  have hA : ∀ q : Nat, s.heap.size ≤ q → A q := fun q h => by rw [← hAe]; exact Or.inr h
  clear hAe hD0
  refine gstart (fun H locs hHe hLe => ?_)
  have hS : va_S A s.heap H locs := by rw [← hHe, ← hLe]; exact va_S.rf
  replace hP : va_P (dC, dI) vwCl (Wd 153 (cfC ad cI cT cS) σ) H := by rw [← hHe]; exact hP
  clear hHe hLe
  have hl := lv_entry ([.ref (ad (kX2 + 5)), .int a1, .int a2]) (n := 3) (Nat.le_of_ble_eq_true rfl)
  rw [lg_entry_eq]
  generalize (lg_sl ([.ref (ad (kX2 + 5)), .int a1, .int a2]) ++ List.replicate (3 - (lg_sl ([.ref (ad (kX2 + 5)), .int a1, .int a2])).length) Slot.unset).toArray = ls at hl ⊢
  replace hl : lv_has ls 3 [(0, .ref (ad (kX2 + 5))), (1, .int a1), (2, .int a2)] := hl
  unfold zf_X2_hasEntry at h
  have J30 : ∀ (w0_30 : Bool) (H : Heap) (locs : List Loc) (ls : Array Slot), zb_X2_hasEntry_30 w0_30 = some o → va_P (dC, dI) vwCl (Wd 153 (cfC ad cI cT cS) σ) H → va_D A (Wd 153 (cfC ad cI cT cS) σ) → va_S A s.heap H locs → lv_has ls 3 [] → W p l e (headSpec vc_X2_hasEntry { frames := 1, cells := 0, slots := 0, locals := 21 }).room s m (List.toArray (α := Value) [.ref (ad (kX2 + 5)), .int a1, .int a2]) below meth c H locs 0 0 (MQ below (va_Qi (fun (r : Int32) (_ : Unit) => r = b2i o) (gB (dC, dI) A (fun (_ : Unit) => (Wd 153 (cfC ad cI cT cS) σ))) A) (List.toArray (α := Value) [.ref (ad (kX2 + 5)), .int a1, .int a2]) s 0 0 A) (F0 m 30 ls [.int (b2i w0_30)]) := by
    intro w0_30 H locs ls h hP hD hS hl
    unfold zb_X2_hasEntry_30 at h
    have h9 := Option.some.inj h
    exact wretz hx hb hr hlocks (b2i_or _) hP hD hS (by show _ = _; rw [← h9]; first | done | rfl) rfl dX2_hasEntry_30
  have J29 : ∀  (H : Heap) (locs : List Loc) (ls : Array Slot), zb_X2_hasEntry_29 = some o → va_P (dC, dI) vwCl (Wd 153 (cfC ad cI cT cS) σ) H → va_D A (Wd 153 (cfC ad cI cT cS) σ) → va_S A s.heap H locs → lv_has ls 3 [] → W p l e (headSpec vc_X2_hasEntry { frames := 1, cells := 0, slots := 0, locals := 21 }).room s m (List.toArray (α := Value) [.ref (ad (kX2 + 5)), .int a1, .int a2]) below meth c H locs 0 0 (MQ below (va_Qi (fun (r : Int32) (_ : Unit) => r = b2i o) (gB (dC, dI) A (fun (_ : Unit) => (Wd 153 (cfC ad cI cT cS) σ))) A) (List.toArray (α := Value) [.ref (ad (kX2 + 5)), .int a1, .int a2]) s 0 0 A) (F0 m 29 ls []) := by
    intro  H locs ls h hP hD hS hl
    unfold zb_X2_hasEntry_29 at h
    refine lv_iconst (v := 0) hx hb dX2_hasEntry_29 (by decide) ?_
    exact J30 false H locs ls h hP hD hS (lv_sub (l' := []) hl [] rfl)
  refine lv_aload_n hx hb dX2_hasEntry_0 rfl (lv_at hl 0 rfl) ?_
  refine lv_iload_n hx hb dX2_hasEntry_1 rfl (lv_at hl 1 rfl) ?_
  refine wcalli (S := Unit) (va_runV (As := [.int a1]) (rest := []) ⟨hx, hb, hml, hown, hts⟩ (c_X2_has l dC dI cI cT cS H.size ad kX2 hX2 a1 σ _ rfl) (cwV 1 hts (gWV (List.mem_of_getElem? (i := 1) rfl) (List.mem_of_getElem? (i := 2) rfl) (List.mem_of_getElem? (i := 3) rfl) (List.mem_of_getElem? (i := 4) rfl) ic_X2_hasEntry_c_X2_has gd_c_X2_has) rfl rfl rfl (by decide +kernel) ⟨(Nat.le_of_ble_eq_true rfl), (Nat.le_of_ble_eq_true rfl)⟩) (wpV (q := (RX2, TX2, 7)) hP hK hD (oX2 hX2) rfl) rfl rfl hl.1 rfl (lv_room (Nat.le_of_ble_eq_true rfl)) dX2_hasEntry_2 ⟨(Nat.le_of_ble_eq_true rfl), (Nat.le_of_ble_eq_true rfl)⟩) hP hD hS hA (fun rr1 _ H locs hr1 hP hD hS => ?_)
  refine lv_nm (y := b2i (zf_X2_has kX2 a1 σ)) hr1 ?_
  refine lv_if_eq (tgt := 29) hx hb dX2_hasEntry_5 (by decide) (fun c2 => ?_) (fun c2 => ?_)
  · replace h := ifn (b2i_0 c2) h
    exact J29  H locs ls h hP hD hS (lv_sub (l' := []) hl [] rfl)
  · replace h := ifp (b2i_1 c2) h
    refine lv_iload_n hx hb dX2_hasEntry_8 rfl (lv_at hl 2 rfl) ?_
    refine lv_if_lt (tgt := 29) hx hb dX2_hasEntry_9 (by decide) (fun c3 => ?_) (fun c3 => ?_)
    · replace h := ifp (c3) h
      exact J29  H locs ls h hP hD hS (lv_sub (l' := []) hl [] rfl)
    · replace h := ifn (c3) h
      refine lv_iload_n hx hb dX2_hasEntry_12 rfl (lv_at hl 2 rfl) ?_
      refine lv_aload_n hx hb dX2_hasEntry_13 rfl (lv_at hl 0 rfl) ?_
      refine gf_X2_0 hX2 hx hb hts iw_X2_hasEntry_X2 hown hK hP (hts (.fieldLink RX2 11 "TraceTrees$Forest" "traces" "[LTraceTrees$Trace;") (List.mem_of_getElem? (i := 5) rfl)) dX2_hasEntry_14 ?_
      refine lv_iload_n hx hb dX2_hasEntry_17 rfl (lv_at hl 1 rfl) ?_
      obtain ⟨hi4, h⟩ := bd_inv h
      refine waldT hx hb hK hP hX2 hi4 dX2_hasEntry_18 ?_
      refine gf_X8_10 (isTr_M hX2 hi4) hx hb hts iw_X2_hasEntry_X8 hown hK hP (hts (.fieldLink RX2 51 "TraceTrees$Trace" "size" "I") (List.mem_of_getElem? (i := 6) rfl)) dX2_hasEntry_19 ?_
      refine lv_icmp_ge (tgt := 29) hx hb dX2_hasEntry_22 (by decide) (fun c5 => ?_) (fun c5 => ?_)
      · replace h := ifp (c5) h
        exact J29  H locs ls h hP hD hS (lv_sub (l' := []) hl [] rfl)
      · replace h := ifn (c5) h
        refine lv_iconst (v := 1) hx hb dX2_hasEntry_25 (by decide) ?_
        refine lv_goto (tgt := 30) hx hb dX2_hasEntry_26 (by decide) ?_
        exact J30 true H locs ls h hP hD hS (lv_sub (l' := []) hl [] rfl)
def zb_X2_mayRecord_24 (w0_24 : Bool) : Option (Bool) := some w0_24
def zb_X2_mayRecord_23  : Option (Bool) := (zb_X2_mayRecord_24 false)
def zf_X2_mayRecord (kX2 : Nat) (a1 : Int32) (σ : Sg) : Option (Bool) := (if (8 : Int32) ≤ (σ (kX2 + 5) 4) then zb_X2_mayRecord_23 else bd a1 24 ((if (2 : Int32) ≤ (σ (kX2 + 8) a1.toNatClampNeg) then zb_X2_mayRecord_23 else (zb_X2_mayRecord_24 true))))
def oc_X2_mayRecord : List Cond := [.fieldLink RX2 36 "TraceTrees$Forest" "size" "I", .fieldLink RX2 21 "TraceTrees$Forest" "drops" "[I"]
def vc_X2_mayRecord : List Cond := .code yX2_mayRecord cX2_mayRecord 2 (some .boolean) :: (oc_X2_mayRecord ++ (wsX20))
theorem iw_X2_mayRecord_X2 : ∀ w ∈ wsX20, w ∈ vc_X2_mayRecord := fun _ h => List.mem_cons_of_mem _ (List.mem_append_right _ (h))
theorem gd_c_X2_mayRecord : (vc_X2_mayRecord).all goodWord = true := gall_cons rfl (gall_app (by decide +kernel) gw_X2)
set_option maxHeartbeats 4000000 in
set_option maxRecDepth 100000 in
theorem c_X2_mayRecord (l : Launch) (dC : Nat → ClassId) (dI : Nat → Nat → Nat) (cI cT cS : ClassId) (sz : Nat) (ad : Nat → Nat) (kX2 : Nat) (hX2 : isM kX2) (a1 : Int32) (σ : Sg) (o : Bool) (h : zf_X2_mayRecord kX2 a1 σ = some o) : gCI (S := Unit) l yX2_mayRecord vc_X2_mayRecord { frames := 0, cells := 0, slots := 0, locals := 0 } (dC, dI) (gTY cI cT cS) sz [.ref (ad (kX2 + 5)), .int a1] (Wd 153 (cfC ad cI cT cS) σ) (fun (r : Int32) (_ : Unit) => r = b2i o) (fun (_ : Unit) => (Wd 153 (cfC ad cI cT cS) σ)) 0 0 := by
  refine Met.ofW (cc := cX2_mayRecord) (maxL := 2) (ret := (some .boolean)) (by decide) rfl ?_
  intro p e s m args below meth c s₁ B hml hv
  obtain ⟨rfl, hsz, hP, hK, hD0⟩ := hv
  have hx := B.exec
  have hb := B.bytes
  have hr := B.returns
  have hts := atoms_spec (ws := vc_X2_mayRecord) B.pre
  have hown : s.vm.findClass RX2 = some m.cls := findClass_of_methodNamed B.named
  have hlocks := B.notSynchronized
  subst hsz
  have hD := hD0.self (sz := s.heap.size)
  generalize hAe : va_A (Wd 153 (cfC ad cI cT cS) σ) s.heap.size = A at hD ⊢
  have hA : ∀ q : Nat, s.heap.size ≤ q → A q := fun q h => by rw [← hAe]; exact Or.inr h
  clear hAe hD0
  refine gstart (fun H locs hHe hLe => ?_)
  have hS : va_S A s.heap H locs := by rw [← hHe, ← hLe]; exact va_S.rf
  replace hP : va_P (dC, dI) vwCl (Wd 153 (cfC ad cI cT cS) σ) H := by rw [← hHe]; exact hP
  clear hHe hLe
  have hl := lv_entry ([.ref (ad (kX2 + 5)), .int a1]) (n := 2) (Nat.le_of_ble_eq_true rfl)
  rw [lg_entry_eq]
  generalize (lg_sl ([.ref (ad (kX2 + 5)), .int a1]) ++ List.replicate (2 - (lg_sl ([.ref (ad (kX2 + 5)), .int a1])).length) Slot.unset).toArray = ls at hl ⊢
  replace hl : lv_has ls 2 [(0, .ref (ad (kX2 + 5))), (1, .int a1)] := hl
  unfold zf_X2_mayRecord at h
  have J24 : ∀ (w0_24 : Bool) (H : Heap) (locs : List Loc) (ls : Array Slot), zb_X2_mayRecord_24 w0_24 = some o → va_P (dC, dI) vwCl (Wd 153 (cfC ad cI cT cS) σ) H → va_D A (Wd 153 (cfC ad cI cT cS) σ) → va_S A s.heap H locs → lv_has ls 2 [] → W p l e (headSpec vc_X2_mayRecord { frames := 0, cells := 0, slots := 0, locals := 0 }).room s m (List.toArray (α := Value) [.ref (ad (kX2 + 5)), .int a1]) below meth c H locs 0 0 (MQ below (va_Qi (fun (r : Int32) (_ : Unit) => r = b2i o) (gB (dC, dI) A (fun (_ : Unit) => (Wd 153 (cfC ad cI cT cS) σ))) A) (List.toArray (α := Value) [.ref (ad (kX2 + 5)), .int a1]) s 0 0 A) (F0 m 24 ls [.int (b2i w0_24)]) := by
    intro w0_24 H locs ls h hP hD hS hl
    unfold zb_X2_mayRecord_24 at h
    have h9 := Option.some.inj h
    exact wretz hx hb hr hlocks (b2i_or _) hP hD hS (by show _ = _; rw [← h9]; first | done | rfl) rfl dX2_mayRecord_24
  have J23 : ∀  (H : Heap) (locs : List Loc) (ls : Array Slot), zb_X2_mayRecord_23 = some o → va_P (dC, dI) vwCl (Wd 153 (cfC ad cI cT cS) σ) H → va_D A (Wd 153 (cfC ad cI cT cS) σ) → va_S A s.heap H locs → lv_has ls 2 [] → W p l e (headSpec vc_X2_mayRecord { frames := 0, cells := 0, slots := 0, locals := 0 }).room s m (List.toArray (α := Value) [.ref (ad (kX2 + 5)), .int a1]) below meth c H locs 0 0 (MQ below (va_Qi (fun (r : Int32) (_ : Unit) => r = b2i o) (gB (dC, dI) A (fun (_ : Unit) => (Wd 153 (cfC ad cI cT cS) σ))) A) (List.toArray (α := Value) [.ref (ad (kX2 + 5)), .int a1]) s 0 0 A) (F0 m 23 ls []) := by
    intro  H locs ls h hP hD hS hl
    unfold zb_X2_mayRecord_23 at h
    refine lv_iconst (v := 0) hx hb dX2_mayRecord_23 (by decide) ?_
    exact J24 false H locs ls h hP hD hS (lv_sub (l' := []) hl [] rfl)
  refine lv_aload_n hx hb dX2_mayRecord_0 rfl (lv_at hl 0 rfl) ?_
  refine gf_X2_4 hX2 hx hb hts iw_X2_mayRecord_X2 hown hK hP (hts (.fieldLink RX2 36 "TraceTrees$Forest" "size" "I") (List.mem_of_getElem? (i := 1) rfl)) dX2_mayRecord_1 ?_
  refine lv_bipush (v := 8) hx hb dX2_mayRecord_4 (by decide) ?_
  refine lv_icmp_ge (tgt := 23) hx hb dX2_mayRecord_6 (by decide) (fun c1 => ?_) (fun c1 => ?_)
  · replace h := ifp (c1) h
    exact J23  H locs ls h hP hD hS (lv_sub (l' := []) hl [] rfl)
  · replace h := ifn (c1) h
    refine lv_aload_n hx hb dX2_mayRecord_9 rfl (lv_at hl 0 rfl) ?_
    refine gf_X2_2 hX2 hx hb hts iw_X2_mayRecord_X2 hown hK hP (hts (.fieldLink RX2 21 "TraceTrees$Forest" "drops" "[I") (List.mem_of_getElem? (i := 2) rfl)) dX2_mayRecord_10 ?_
    refine lv_iload_n hx hb dX2_mayRecord_13 rfl (lv_at hl 1 rfl) ?_
    obtain ⟨hi2, h⟩ := bd_inv h
    refine wald hx hb hK hP (aDr hX2) hi2 dX2_mayRecord_14 ?_
    refine lv_iconst (v := 2) hx hb dX2_mayRecord_15 (by decide) ?_
    refine lv_icmp_ge (tgt := 23) hx hb dX2_mayRecord_16 (by decide) (fun c3 => ?_) (fun c3 => ?_)
    · replace h := ifp (c3) h
      exact J23  H locs ls h hP hD hS (lv_sub (l' := []) hl [] rfl)
    · replace h := ifn (c3) h
      refine lv_iconst (v := 1) hx hb dX2_mayRecord_19 (by decide) ?_
      refine lv_goto (tgt := 24) hx hb dX2_mayRecord_20 (by decide) ?_
      exact J24 true H locs ls h hP hD hS (lv_sub (l' := []) hl [] rfl)
def zf_X8_restart (kX8 : Nat) (a1 : Int32) (a2 : Int32) (a3 : Int32) (σ : Sg) : Sg := su (su (su (su (su σ kX8 7 a1) kX8 8 a2) kX8 9 a3) kX8 10 (0 : Int32)) kX8 11 (0 : Int32)
def oc_X8_restart : List Cond := [.fieldLink RX8 34 "TraceTrees$Trace" "head" "I", .fieldLink RX8 37 "TraceTrees$Trace" "stem" "I", .fieldLink RX8 40 "TraceTrees$Trace" "stemEntry" "I", .fieldLink RX8 43 "TraceTrees$Trace" "size" "I", .fieldLink RX8 46 "TraceTrees$Trace" "begun" "I"]
def vc_X8_restart : List Cond := .code yX8_restart cX8_restart 4 none :: (oc_X8_restart ++ (wsX80))
theorem iw_X8_restart_X8 : ∀ w ∈ wsX80, w ∈ vc_X8_restart := fun _ h => List.mem_cons_of_mem _ (List.mem_append_right _ (h))
theorem gd_c_X8_restart : (vc_X8_restart).all goodWord = true := gall_cons rfl (gall_app (by decide +kernel) gw_X8)
set_option maxHeartbeats 4000000 in
set_option maxRecDepth 100000 in
theorem c_X8_restart (l : Launch) (dC : Nat → ClassId) (dI : Nat → Nat → Nat) (cI cT cS : ClassId) (sz : Nat) (ad : Nat → Nat) (kX8 : Nat) (hX8 : isTr kX8) (a1 : Int32) (a2 : Int32) (a3 : Int32) (σ : Sg) (o : Sg) (h : zf_X8_restart kX8 a1 a2 a3 σ = o) : gCV (S := Unit) l yX8_restart vc_X8_restart { frames := 0, cells := 0, slots := 0, locals := 0 } (dC, dI) (gTY cI cT cS) sz [.ref (ad kX8), .int a1, .int a2, .int a3] (Wd 153 (cfC ad cI cT cS) σ) (fun (_ : Unit) => True) (fun (_ : Unit) => (Wd 153 (cfC ad cI cT cS) o)) 0 0 := by
  refine Met.ofW (cc := cX8_restart) (maxL := 4) (ret := none) (by decide) rfl ?_
  intro p e s m args below meth c s₁ B hml hv
  obtain ⟨rfl, hsz, hP, hK, hD0⟩ := hv
  have hx := B.exec
  have hb := B.bytes
  have hr := B.returns
  have hts := atoms_spec (ws := vc_X8_restart) B.pre
  have hown : s.vm.findClass RX8 = some m.cls := findClass_of_methodNamed B.named
  have hlocks := B.notSynchronized
  subst hsz
  have hD := hD0.self (sz := s.heap.size)
  generalize hAe : va_A (Wd 153 (cfC ad cI cT cS) σ) s.heap.size = A at hD ⊢
  have hA : ∀ q : Nat, s.heap.size ≤ q → A q := fun q h => by rw [← hAe]; exact Or.inr h
  clear hAe hD0
  refine gstart (fun H locs hHe hLe => ?_)
  have hS : va_S A s.heap H locs := by rw [← hHe, ← hLe]; exact va_S.rf
  replace hP : va_P (dC, dI) vwCl (Wd 153 (cfC ad cI cT cS) σ) H := by rw [← hHe]; exact hP
  clear hHe hLe
  have hl := lv_entry ([.ref (ad kX8), .int a1, .int a2, .int a3]) (n := 4) (Nat.le_of_ble_eq_true rfl)
  rw [lg_entry_eq]
  generalize (lg_sl ([.ref (ad kX8), .int a1, .int a2, .int a3]) ++ List.replicate (4 - (lg_sl ([.ref (ad kX8), .int a1, .int a2, .int a3])).length) Slot.unset).toArray = ls at hl ⊢
  replace hl : lv_has ls 4 [(0, .ref (ad kX8)), (1, .int a1), (2, .int a2), (3, .int a3)] := hl
  unfold zf_X8_restart at h
  refine lv_aload_n hx hb dX8_restart_0 rfl (lv_at hl 0 rfl) ?_
  refine lv_iload_n hx hb dX8_restart_1 rfl (lv_at hl 1 rfl) ?_
  refine pf_X8_7 hX8 hx hb hts iw_X8_restart_X8 hown hK hP hD hS (hts (.fieldLink RX8 34 "TraceTrees$Trace" "head" "I") (List.mem_of_getElem? (i := 1) rfl)) dX8_restart_2 (fun H locs hP hD hS => ?_)
  refine lv_aload_n hx hb dX8_restart_5 rfl (lv_at hl 0 rfl) ?_
  refine lv_iload_n hx hb dX8_restart_6 rfl (lv_at hl 2 rfl) ?_
  refine pf_X8_8 hX8 hx hb hts iw_X8_restart_X8 hown hK hP hD hS (hts (.fieldLink RX8 37 "TraceTrees$Trace" "stem" "I") (List.mem_of_getElem? (i := 2) rfl)) dX8_restart_7 (fun H locs hP hD hS => ?_)
  refine lv_aload_n hx hb dX8_restart_10 rfl (lv_at hl 0 rfl) ?_
  refine lv_iload_n hx hb dX8_restart_11 rfl (lv_at hl 3 rfl) ?_
  refine pf_X8_9 hX8 hx hb hts iw_X8_restart_X8 hown hK hP hD hS (hts (.fieldLink RX8 40 "TraceTrees$Trace" "stemEntry" "I") (List.mem_of_getElem? (i := 3) rfl)) dX8_restart_12 (fun H locs hP hD hS => ?_)
  refine lv_aload_n hx hb dX8_restart_15 rfl (lv_at hl 0 rfl) ?_
  refine lv_iconst (v := 0) hx hb dX8_restart_16 (by decide) ?_
  refine pf_X8_10 hX8 hx hb hts iw_X8_restart_X8 hown hK hP hD hS (hts (.fieldLink RX8 43 "TraceTrees$Trace" "size" "I") (List.mem_of_getElem? (i := 4) rfl)) dX8_restart_17 (fun H locs hP hD hS => ?_)
  refine lv_aload_n hx hb dX8_restart_20 rfl (lv_at hl 0 rfl) ?_
  refine lv_iconst (v := 0) hx hb dX8_restart_21 (by decide) ?_
  refine pf_X8_11 hX8 hx hb hts iw_X8_restart_X8 hown hK hP hD hS (hts (.fieldLink RX8 46 "TraceTrees$Trace" "begun" "I") (List.mem_of_getElem? (i := 5) rfl)) dX8_restart_22 (fun H locs hP hD hS => ?_)
  have h9 := h
  exact wretv hx hb hr hlocks hP hD hS trivial (by rw [← h9]) dX8_restart_25
def zf_X2_startRecording (kX2 : Nat) (a1 : Int32) (a2 : Int32) (a3 : Int32) (σ : Sg) : Option (Sg) := bd (σ (kX2 + 5) 4) 8 (tk (nI (kX2 + 10 + 7 * (σ (kX2 + 5) 4).toNatClampNeg)) (letb (zf_X8_restart ((nI (kX2 + 10 + 7 * (σ (kX2 + 5) 4).toNatClampNeg)).toNatClampNeg) a1 a2 a3 (su σ (kX2 + 5) 6 (nI (kX2 + 10 + 7 * (σ (kX2 + 5) 4).toNatClampNeg)))) (fun q3 => some q3)))
def oc_X2_startRecording : List Cond := [.fieldLink RX2 11 "TraceTrees$Forest" "traces" "[LTraceTrees$Trace;", .fieldLink RX2 36 "TraceTrees$Forest" "size" "I", .fieldLink RX2 43 "TraceTrees$Forest" "recording" "LTraceTrees$Trace;", .methodLink RX2 52 yX8_restart, .instanceMethod yX8_restart, .selects RX8 yX8_restart yX8_restart, .initialized RX8]
def vc_X2_startRecording : List Cond := .code yX2_startRecording cX2_startRecording 4 none :: (oc_X2_startRecording ++ (wsX20 ++ (vc_X8_restart)))
theorem iw_X2_startRecording_X2 : ∀ w ∈ wsX20, w ∈ vc_X2_startRecording := fun _ h => List.mem_cons_of_mem _ (List.mem_append_right _ (List.mem_append_left _ h))
theorem ic_X2_startRecording_c_X8_restart : ∀ w ∈ vc_X8_restart, w ∈ vc_X2_startRecording := fun _ h => List.mem_cons_of_mem _ (List.mem_append_right _ (List.mem_append_right _ (h)))
theorem gd_c_X2_startRecording : (vc_X2_startRecording).all goodWord = true := gall_cons rfl (gall_app (by decide +kernel) (gall_app gw_X2 gd_c_X8_restart))
set_option maxHeartbeats 4000000 in
set_option maxRecDepth 100000 in
theorem c_X2_startRecording (l : Launch) (dC : Nat → ClassId) (dI : Nat → Nat → Nat) (cI cT cS : ClassId) (sz : Nat) (ad : Nat → Nat) (kX2 : Nat) (hX2 : isM kX2) (a1 : Int32) (a2 : Int32) (a3 : Int32) (σ : Sg) (o : Sg) (h : zf_X2_startRecording kX2 a1 a2 a3 σ = some o) : gCV (S := Unit) l yX2_startRecording vc_X2_startRecording { frames := 1, cells := 0, slots := 0, locals := 23 } (dC, dI) (gTY cI cT cS) sz [.ref (ad (kX2 + 5)), .int a1, .int a2, .int a3] (Wd 153 (cfC ad cI cT cS) σ) (fun (_ : Unit) => True) (fun (_ : Unit) => (Wd 153 (cfC ad cI cT cS) o)) 0 0 := by
  refine Met.ofW (cc := cX2_startRecording) (maxL := 4) (ret := none) (by decide) rfl ?_
  intro p e s m args below meth c s₁ B hml hv
  obtain ⟨rfl, hsz, hP, hK, hD0⟩ := hv
  have hx := B.exec
  have hb := B.bytes
  have hr := B.returns
  have hts := atoms_spec (ws := vc_X2_startRecording) B.pre
  have hown : s.vm.findClass RX2 = some m.cls := findClass_of_methodNamed B.named
  have hlocks := B.notSynchronized
  subst hsz
  have hD := hD0.self (sz := s.heap.size)
  generalize hAe : va_A (Wd 153 (cfC ad cI cT cS) σ) s.heap.size = A at hD ⊢
  have hA : ∀ q : Nat, s.heap.size ≤ q → A q := fun q h => by rw [← hAe]; exact Or.inr h
  clear hAe hD0
  refine gstart (fun H locs hHe hLe => ?_)
  have hS : va_S A s.heap H locs := by rw [← hHe, ← hLe]; exact va_S.rf
  replace hP : va_P (dC, dI) vwCl (Wd 153 (cfC ad cI cT cS) σ) H := by rw [← hHe]; exact hP
  clear hHe hLe
  have hl := lv_entry ([.ref (ad (kX2 + 5)), .int a1, .int a2, .int a3]) (n := 4) (Nat.le_of_ble_eq_true rfl)
  rw [lg_entry_eq]
  generalize (lg_sl ([.ref (ad (kX2 + 5)), .int a1, .int a2, .int a3]) ++ List.replicate (4 - (lg_sl ([.ref (ad (kX2 + 5)), .int a1, .int a2, .int a3])).length) Slot.unset).toArray = ls at hl ⊢
  replace hl : lv_has ls 4 [(0, .ref (ad (kX2 + 5))), (1, .int a1), (2, .int a2), (3, .int a3)] := hl
  unfold zf_X2_startRecording at h
  refine lv_aload_n hx hb dX2_startRecording_0 rfl (lv_at hl 0 rfl) ?_
  refine lv_aload_n hx hb dX2_startRecording_1 rfl (lv_at hl 0 rfl) ?_
  refine gf_X2_0 hX2 hx hb hts iw_X2_startRecording_X2 hown hK hP (hts (.fieldLink RX2 11 "TraceTrees$Forest" "traces" "[LTraceTrees$Trace;") (List.mem_of_getElem? (i := 1) rfl)) dX2_startRecording_2 ?_
  refine lv_aload_n hx hb dX2_startRecording_5 rfl (lv_at hl 0 rfl) ?_
  refine gf_X2_4 hX2 hx hb hts iw_X2_startRecording_X2 hown hK hP (hts (.fieldLink RX2 36 "TraceTrees$Forest" "size" "I") (List.mem_of_getElem? (i := 2) rfl)) dX2_startRecording_6 ?_
  obtain ⟨hi1, h⟩ := bd_inv h
  refine waldT hx hb hK hP hX2 hi1 dX2_startRecording_9 ?_
  refine pf_X2_6 hX2 (x := (nI (kX2 + 10 + 7 * (σ (kX2 + 5) 4).toNatClampNeg))) (rv_pl ad (Nat.lt_trans (isTr_lt (isTr_M hX2 hi1)) (by decide))).symm hx hb hts iw_X2_startRecording_X2 hown hK hP hD hS (hts (.fieldLink RX2 43 "TraceTrees$Forest" "recording" "LTraceTrees$Trace;") (List.mem_of_getElem? (i := 3) rfl)) dX2_startRecording_10 (fun H locs hP hD hS => ?_)
  refine lv_aload_n hx hb dX2_startRecording_13 rfl (lv_at hl 0 rfl) ?_
  refine gf_X2_6 hX2 hx hb hts iw_X2_startRecording_X2 hown hK hP (hts (.fieldLink RX2 43 "TraceTrees$Forest" "recording" "LTraceTrees$Trace;") (List.mem_of_getElem? (i := 3) rfl)) dX2_startRecording_14 ?_
  refine lv_nmr (y := rv ad (nI (kX2 + 10 + 7 * (σ (kX2 + 5) 4).toNatClampNeg))) (congrArg (rv ad) (su_hit rfl)) ?_
  refine lv_iload_n hx hb dX2_startRecording_17 rfl (lv_at hl 1 rfl) ?_
  refine lv_iload_n hx hb dX2_startRecording_18 rfl (lv_at hl 2 rfl) ?_
  refine lv_iload_n hx hb dX2_startRecording_19 rfl (lv_at hl 3 rfl) ?_
  obtain ⟨ht2, h⟩ := tk_inv h
  refine W.eq (g2 := F0 m 20 ls [.int a3, .int a2, .int a1, .ref (ad ((nI (kX2 + 10 + 7 * (σ (kX2 + 5) 4).toNatClampNeg)).toNatClampNeg))]) (by rw [rv_tr ad ht2]) ?_
  obtain ⟨q3, hc3, h⟩ := letb_inv h
  refine wcallv (S := Unit) (va_runV (As := [.int a1, .int a2, .int a3]) (rest := []) ⟨hx, hb, hml, hown, hts⟩ (c_X8_restart l dC dI cI cT cS H.size ad ((nI (kX2 + 10 + 7 * (σ (kX2 + 5) 4).toNatClampNeg)).toNatClampNeg) ht2.1 a1 a2 a3 (su σ (kX2 + 5) 6 (nI (kX2 + 10 + 7 * (σ (kX2 + 5) 4).toNatClampNeg))) _ hc3) (cwV 3 hts (gWV (List.mem_of_getElem? (i := 4) rfl) (List.mem_of_getElem? (i := 5) rfl) (List.mem_of_getElem? (i := 6) rfl) (List.mem_of_getElem? (i := 7) rfl) ic_X2_startRecording_c_X8_restart gd_c_X8_restart) rfl rfl rfl (by decide +kernel) ⟨(Nat.le_of_ble_eq_true rfl), (Nat.le_of_ble_eq_true rfl)⟩) (wpV (q := (RX8, TX8, 12)) hP hK hD (oX8 ht2.1) rfl) rfl rfl hl.1 rfl (lv_room (Nat.le_of_ble_eq_true rfl)) dX2_startRecording_20 ⟨(Nat.le_of_ble_eq_true rfl), (Nat.le_of_ble_eq_true rfl)⟩) hP hD hS hA (fun _ H locs hr4 hP hD hS => ?_)
  replace hP : va_P (dC, dI) vwCl (Wd 153 (cfC ad cI cT cS) q3) H := hP
  replace hD : va_D A (Wd 153 (cfC ad cI cT cS) q3) := hD
  have h9 := Option.some.inj h
  exact wretv hx hb hr hlocks hP hD hS trivial (by rw [← h9]) dX2_startRecording_23
def zb_X2_keep_68 (kX2 : Nat) (σb68 : Sg) : Option (Sg) := some (su (su σb68 (kX2 + 5) 4 ((σb68 (kX2 + 5) 4) + (1 : Int32))) (kX2 + 5) 6 (-1))
def zf_X2_keep (kX2 : Nat) (σ : Sg) : Option (Sg) := (if (σ (kX2 + 5) 6) = -1 then some σ else tk (σ (kX2 + 5) 6) ((if (σ ((σ (kX2 + 5) 6).toNatClampNeg) 8) = (-1 : Int32) then bd (σ ((σ (kX2 + 5) 6).toNatClampNeg) 7) 24 ((zb_X2_keep_68 kX2 (su σ (kX2 + 9) (σ ((σ (kX2 + 5) 6).toNatClampNeg) 7).toNatClampNeg (σ (kX2 + 5) 6)))) else bd (σ ((σ (kX2 + 5) 6).toNatClampNeg) 8) 8 (bd (σ ((σ (kX2 + 5) 6).toNatClampNeg) 9) 16 ((zb_X2_keep_68 kX2 (su σ ((kX2 + 10 + 7 * (σ ((σ (kX2 + 5) 6).toNatClampNeg) 8).toNatClampNeg) + 6) (σ ((σ (kX2 + 5) 6).toNatClampNeg) 9).toNatClampNeg (σ ((σ (kX2 + 5) 6).toNatClampNeg) 0))))))))
def oc_X2_keep : List Cond := [.fieldLink RX2 43 "TraceTrees$Forest" "recording" "LTraceTrees$Trace;", .fieldLink RX2 56 "TraceTrees$Trace" "stem" "I", .fieldLink RX2 11 "TraceTrees$Forest" "traces" "[LTraceTrees$Trace;", .fieldLink RX2 62 "TraceTrees$Trace" "branch" "[I", .fieldLink RX2 65 "TraceTrees$Trace" "stemEntry" "I", .fieldLink RX2 68 "TraceTrees$Trace" "number" "I", .fieldLink RX2 24 "TraceTrees$Forest" "root" "[LTraceTrees$Trace;", .fieldLink RX2 59 "TraceTrees$Trace" "head" "I", .fieldLink RX2 36 "TraceTrees$Forest" "size" "I"]
def vc_X2_keep : List Cond := .code yX2_keep cX2_keep 1 none :: (oc_X2_keep ++ (wsX20 ++ (wsX80)))
theorem iw_X2_keep_X2 : ∀ w ∈ wsX20, w ∈ vc_X2_keep := fun _ h => List.mem_cons_of_mem _ (List.mem_append_right _ (List.mem_append_left _ h))
theorem iw_X2_keep_X8 : ∀ w ∈ wsX80, w ∈ vc_X2_keep := fun _ h => List.mem_cons_of_mem _ (List.mem_append_right _ (List.mem_append_right _ (h)))
theorem gd_c_X2_keep : (vc_X2_keep).all goodWord = true := gall_cons rfl (gall_app (by decide +kernel) (gall_app gw_X2 gw_X8))
set_option maxHeartbeats 4000000 in
set_option maxRecDepth 100000 in
theorem c_X2_keep (l : Launch) (dC : Nat → ClassId) (dI : Nat → Nat → Nat) (cI cT cS : ClassId) (sz : Nat) (ad : Nat → Nat) (kX2 : Nat) (hX2 : isM kX2) (σ : Sg) (o : Sg) (h : zf_X2_keep kX2 σ = some o) : gCV (S := Unit) l yX2_keep vc_X2_keep { frames := 0, cells := 0, slots := 0, locals := 0 } (dC, dI) (gTY cI cT cS) sz [.ref (ad (kX2 + 5))] (Wd 153 (cfC ad cI cT cS) σ) (fun (_ : Unit) => True) (fun (_ : Unit) => (Wd 153 (cfC ad cI cT cS) o)) 0 0 := by
  refine Met.ofW (cc := cX2_keep) (maxL := 1) (ret := none) (by decide) rfl ?_
  intro p e s m args below meth c s₁ B hml hv
  obtain ⟨rfl, hsz, hP, hK, hD0⟩ := hv
  have hx := B.exec
  have hb := B.bytes
  have hr := B.returns
  have hts := atoms_spec (ws := vc_X2_keep) B.pre
  have hown : s.vm.findClass RX2 = some m.cls := findClass_of_methodNamed B.named
  have hlocks := B.notSynchronized
  subst hsz
  have hD := hD0.self (sz := s.heap.size)
  generalize hAe : va_A (Wd 153 (cfC ad cI cT cS) σ) s.heap.size = A at hD ⊢
  have hA : ∀ q : Nat, s.heap.size ≤ q → A q := fun q h => by rw [← hAe]; exact Or.inr h
  clear hAe hD0
  refine gstart (fun H locs hHe hLe => ?_)
  have hS : va_S A s.heap H locs := by rw [← hHe, ← hLe]; exact va_S.rf
  replace hP : va_P (dC, dI) vwCl (Wd 153 (cfC ad cI cT cS) σ) H := by rw [← hHe]; exact hP
  clear hHe hLe
  have hl := lv_entry ([.ref (ad (kX2 + 5))]) (n := 1) (Nat.le_of_ble_eq_true rfl)
  rw [lg_entry_eq]
  generalize (lg_sl ([.ref (ad (kX2 + 5))]) ++ List.replicate (1 - (lg_sl ([.ref (ad (kX2 + 5))])).length) Slot.unset).toArray = ls at hl ⊢
  replace hl : lv_has ls 1 [(0, .ref (ad (kX2 + 5)))] := hl
  unfold zf_X2_keep at h
  have J68 : ∀ (σb68 : Sg) (H : Heap) (locs : List Loc) (ls : Array Slot), zb_X2_keep_68 kX2 σb68 = some o → va_P (dC, dI) vwCl (Wd 153 (cfC ad cI cT cS) σb68) H → va_D A (Wd 153 (cfC ad cI cT cS) σb68) → va_S A s.heap H locs → lv_has ls 1 [(0, .ref (ad (kX2 + 5)))] → W p l e (headSpec vc_X2_keep { frames := 0, cells := 0, slots := 0, locals := 0 }).room s m (List.toArray (α := Value) [.ref (ad (kX2 + 5))]) below meth c H locs 0 0 (MQ below (va_Qv (fun (_ : Unit) => True) (gB (dC, dI) A (fun (_ : Unit) => (Wd 153 (cfC ad cI cT cS) o))) A) (List.toArray (α := Value) [.ref (ad (kX2 + 5))]) s 0 0 A) (F0 m 68 ls []) := by
    intro σb68 H locs ls h hP hD hS hl
    unfold zb_X2_keep_68 at h
    refine lv_aload_n hx hb dX2_keep_68 rfl (lv_at hl 0 rfl) ?_
    refine lv_dup hx hb dX2_keep_69 rfl ?_
    refine gf_X2_4 hX2 hx hb hts iw_X2_keep_X2 hown hK hP (hts (.fieldLink RX2 36 "TraceTrees$Forest" "size" "I") (List.mem_of_getElem? (i := 9) rfl)) dX2_keep_70 ?_
    refine lv_iconst (v := 1) hx hb dX2_keep_73 (by decide) ?_
    refine lv_iadd hx hb dX2_keep_74 ?_
    refine pf_X2_4 hX2 hx hb hts iw_X2_keep_X2 hown hK hP hD hS (hts (.fieldLink RX2 36 "TraceTrees$Forest" "size" "I") (List.mem_of_getElem? (i := 9) rfl)) dX2_keep_75 (fun H locs hP hD hS => ?_)
    refine lv_aload_n hx hb dX2_keep_78 rfl (lv_at hl 0 rfl) ?_
    refine lv_null hx hb dX2_keep_79 ?_
    refine pf_X2_6 hX2 (x := -1) (rv_null ad rfl).symm hx hb hts iw_X2_keep_X2 hown hK hP hD hS (hts (.fieldLink RX2 43 "TraceTrees$Forest" "recording" "LTraceTrees$Trace;") (List.mem_of_getElem? (i := 1) rfl)) dX2_keep_80 (fun H locs hP hD hS => ?_)
    have h9 := Option.some.inj h
    exact wretv hx hb hr hlocks hP hD hS trivial (by rw [← h9]) dX2_keep_83
  refine lv_aload_n hx hb dX2_keep_0 rfl (lv_at hl 0 rfl) ?_
  refine gf_X2_6 hX2 hx hb hts iw_X2_keep_X2 hown hK hP (hts (.fieldLink RX2 43 "TraceTrees$Forest" "recording" "LTraceTrees$Trace;") (List.mem_of_getElem? (i := 1) rfl)) dX2_keep_1 ?_
  refine w_ifnonnull (ad := ad) (tgt := 8) hx hb dX2_keep_4 (by decide) (fun c1 => ?_) (fun c1 => ?_)
  · replace h := ifn c1 h
    refine lv_aload_n hx hb dX2_keep_8 rfl (lv_at hl 0 rfl) ?_
    refine gf_X2_6 hX2 hx hb hts iw_X2_keep_X2 hown hK hP (hts (.fieldLink RX2 43 "TraceTrees$Forest" "recording" "LTraceTrees$Trace;") (List.mem_of_getElem? (i := 1) rfl)) dX2_keep_9 ?_
    obtain ⟨ht2, h⟩ := tk_inv h
    refine W.eq (g2 := F0 m 12 ls [.ref (ad ((σ (kX2 + 5) 6).toNatClampNeg))]) (by rw [rv_tr ad ht2]) ?_
    refine gf_X8_8 ht2.1 hx hb hts iw_X2_keep_X8 hown hK hP (hts (.fieldLink RX2 56 "TraceTrees$Trace" "stem" "I") (List.mem_of_getElem? (i := 2) rfl)) dX2_keep_12 ?_
    refine lv_iconst (v := (-1)) hx hb dX2_keep_15 (by decide) ?_
    refine lv_icmp_ne (tgt := 38) hx hb dX2_keep_16 (by decide) (fun c3 => ?_) (fun c3 => ?_)
    · replace h := ifn (c3) h
      refine lv_aload_n hx hb dX2_keep_38 rfl (lv_at hl 0 rfl) ?_
      refine gf_X2_0 hX2 hx hb hts iw_X2_keep_X2 hown hK hP (hts (.fieldLink RX2 11 "TraceTrees$Forest" "traces" "[LTraceTrees$Trace;") (List.mem_of_getElem? (i := 3) rfl)) dX2_keep_39 ?_
      refine lv_aload_n hx hb dX2_keep_42 rfl (lv_at hl 0 rfl) ?_
      refine gf_X2_6 hX2 hx hb hts iw_X2_keep_X2 hown hK hP (hts (.fieldLink RX2 43 "TraceTrees$Forest" "recording" "LTraceTrees$Trace;") (List.mem_of_getElem? (i := 1) rfl)) dX2_keep_43 ?_
      refine lv_nmr (rv_tr ad ht2) ?_
      refine gf_X8_8 ht2.1 hx hb hts iw_X2_keep_X8 hown hK hP (hts (.fieldLink RX2 56 "TraceTrees$Trace" "stem" "I") (List.mem_of_getElem? (i := 2) rfl)) dX2_keep_46 ?_
      obtain ⟨hi4, h⟩ := bd_inv h
      refine waldT hx hb hK hP hX2 hi4 dX2_keep_49 ?_
      refine gf_X8_6 (isTr_M hX2 hi4) hx hb hts iw_X2_keep_X8 hown hK hP (hts (.fieldLink RX2 62 "TraceTrees$Trace" "branch" "[I") (List.mem_of_getElem? (i := 4) rfl)) dX2_keep_50 ?_
      refine lv_aload_n hx hb dX2_keep_53 rfl (lv_at hl 0 rfl) ?_
      refine gf_X2_6 hX2 hx hb hts iw_X2_keep_X2 hown hK hP (hts (.fieldLink RX2 43 "TraceTrees$Forest" "recording" "LTraceTrees$Trace;") (List.mem_of_getElem? (i := 1) rfl)) dX2_keep_54 ?_
      refine lv_nmr (rv_tr ad ht2) ?_
      refine gf_X8_9 ht2.1 hx hb hts iw_X2_keep_X8 hown hK hP (hts (.fieldLink RX2 65 "TraceTrees$Trace" "stemEntry" "I") (List.mem_of_getElem? (i := 5) rfl)) dX2_keep_57 ?_
      refine lv_aload_n hx hb dX2_keep_60 rfl (lv_at hl 0 rfl) ?_
      refine gf_X2_6 hX2 hx hb hts iw_X2_keep_X2 hown hK hP (hts (.fieldLink RX2 43 "TraceTrees$Forest" "recording" "LTraceTrees$Trace;") (List.mem_of_getElem? (i := 1) rfl)) dX2_keep_61 ?_
      refine lv_nmr (rv_tr ad ht2) ?_
      refine gf_X8_0 ht2.1 hx hb hts iw_X2_keep_X8 hown hK hP (hts (.fieldLink RX2 68 "TraceTrees$Trace" "number" "I") (List.mem_of_getElem? (i := 6) rfl)) dX2_keep_64 ?_
      obtain ⟨hi5, h⟩ := bd_inv h
      refine wast hx hb hK hP hD hS (aT6 (isTr_M hX2 hi4)) hi5 dX2_keep_67 (fun H locs hP hD hS => ?_)
      exact J68 (su σ ((kX2 + 10 + 7 * (σ ((σ (kX2 + 5) 6).toNatClampNeg) 8).toNatClampNeg) + 6) (σ ((σ (kX2 + 5) 6).toNatClampNeg) 9).toNatClampNeg (σ ((σ (kX2 + 5) 6).toNatClampNeg) 0)) H locs ls h hP hD hS (lv_sub (l' := [(0, .ref (ad (kX2 + 5)))]) hl [0] rfl)
    · replace h := ifp (c3) h
      refine lv_aload_n hx hb dX2_keep_19 rfl (lv_at hl 0 rfl) ?_
      refine gf_X2_3 hX2 hx hb hts iw_X2_keep_X2 hown hK hP (hts (.fieldLink RX2 24 "TraceTrees$Forest" "root" "[LTraceTrees$Trace;") (List.mem_of_getElem? (i := 7) rfl)) dX2_keep_20 ?_
      refine lv_aload_n hx hb dX2_keep_23 rfl (lv_at hl 0 rfl) ?_
      refine gf_X2_6 hX2 hx hb hts iw_X2_keep_X2 hown hK hP (hts (.fieldLink RX2 43 "TraceTrees$Forest" "recording" "LTraceTrees$Trace;") (List.mem_of_getElem? (i := 1) rfl)) dX2_keep_24 ?_
      refine lv_nmr (rv_tr ad ht2) ?_
      refine gf_X8_7 ht2.1 hx hb hts iw_X2_keep_X8 hown hK hP (hts (.fieldLink RX2 59 "TraceTrees$Trace" "head" "I") (List.mem_of_getElem? (i := 8) rfl)) dX2_keep_27 ?_
      refine lv_aload_n hx hb dX2_keep_30 rfl (lv_at hl 0 rfl) ?_
      refine gf_X2_6 hX2 hx hb hts iw_X2_keep_X2 hown hK hP (hts (.fieldLink RX2 43 "TraceTrees$Forest" "recording" "LTraceTrees$Trace;") (List.mem_of_getElem? (i := 1) rfl)) dX2_keep_31 ?_
      refine lv_nmr (rv_tr ad ht2) ?_
      obtain ⟨hi6, h⟩ := bd_inv h
      refine wastT hx hb hK hP hD hS hX2 ht2 hi6 dX2_keep_34 (fun H locs hP hD hS => ?_)
      refine lv_goto (tgt := 68) hx hb dX2_keep_35 (by decide) ?_
      exact J68 (su σ (kX2 + 9) (σ ((σ (kX2 + 5) 6).toNatClampNeg) 7).toNatClampNeg (σ (kX2 + 5) 6)) H locs ls h hP hD hS (lv_sub (l' := [(0, .ref (ad (kX2 + 5)))]) hl [0] rfl)
  · replace h := ifp c1 h
    have h9 := Option.some.inj h
    exact wretv hx hb hr hlocks hP hD hS trivial (by rw [← h9]) dX2_keep_7
def zf_X2_drop (kX2 : Nat) (σ : Sg) : Option (Sg) := (if (σ (kX2 + 5) 6) = -1 then some σ else tk (σ (kX2 + 5) 6) (bd (σ ((σ (kX2 + 5) 6).toNatClampNeg) 7) 24 (some (su (su (su (su σ (kX2 + 7) (σ ((σ (kX2 + 5) 6).toNatClampNeg) 7).toNatClampNeg (0 : Int32)) (kX2 + 8) (σ ((σ (kX2 + 5) 6).toNatClampNeg) 7).toNatClampNeg ((σ (kX2 + 8) (σ ((σ (kX2 + 5) 6).toNatClampNeg) 7).toNatClampNeg) + (1 : Int32))) (kX2 + 5) 5 ((σ (kX2 + 5) 5) + (1 : Int32))) (kX2 + 5) 6 (-1)))))
def oc_X2_drop : List Cond := [.fieldLink RX2 43 "TraceTrees$Forest" "recording" "LTraceTrees$Trace;", .fieldLink RX2 17 "TraceTrees$Forest" "heat" "[I", .fieldLink RX2 59 "TraceTrees$Trace" "head" "I", .fieldLink RX2 21 "TraceTrees$Forest" "drops" "[I", .fieldLink RX2 40 "TraceTrees$Forest" "dropped" "I"]
def vc_X2_drop : List Cond := .code yX2_drop cX2_drop 1 none :: (oc_X2_drop ++ (wsX20 ++ (wsX80)))
theorem iw_X2_drop_X2 : ∀ w ∈ wsX20, w ∈ vc_X2_drop := fun _ h => List.mem_cons_of_mem _ (List.mem_append_right _ (List.mem_append_left _ h))
theorem iw_X2_drop_X8 : ∀ w ∈ wsX80, w ∈ vc_X2_drop := fun _ h => List.mem_cons_of_mem _ (List.mem_append_right _ (List.mem_append_right _ (h)))
theorem gd_c_X2_drop : (vc_X2_drop).all goodWord = true := gall_cons rfl (gall_app (by decide +kernel) (gall_app gw_X2 gw_X8))
set_option maxHeartbeats 4000000 in
set_option maxRecDepth 100000 in
theorem c_X2_drop (l : Launch) (dC : Nat → ClassId) (dI : Nat → Nat → Nat) (cI cT cS : ClassId) (sz : Nat) (ad : Nat → Nat) (kX2 : Nat) (hX2 : isM kX2) (σ : Sg) (o : Sg) (h : zf_X2_drop kX2 σ = some o) : gCV (S := Unit) l yX2_drop vc_X2_drop { frames := 0, cells := 0, slots := 0, locals := 0 } (dC, dI) (gTY cI cT cS) sz [.ref (ad (kX2 + 5))] (Wd 153 (cfC ad cI cT cS) σ) (fun (_ : Unit) => True) (fun (_ : Unit) => (Wd 153 (cfC ad cI cT cS) o)) 0 0 := by
  refine Met.ofW (cc := cX2_drop) (maxL := 1) (ret := none) (by decide) rfl ?_
  intro p e s m args below meth c s₁ B hml hv
  obtain ⟨rfl, hsz, hP, hK, hD0⟩ := hv
  have hx := B.exec
  have hb := B.bytes
  have hr := B.returns
  have hts := atoms_spec (ws := vc_X2_drop) B.pre
  have hown : s.vm.findClass RX2 = some m.cls := findClass_of_methodNamed B.named
  have hlocks := B.notSynchronized
  subst hsz
  have hD := hD0.self (sz := s.heap.size)
  generalize hAe : va_A (Wd 153 (cfC ad cI cT cS) σ) s.heap.size = A at hD ⊢
  have hA : ∀ q : Nat, s.heap.size ≤ q → A q := fun q h => by rw [← hAe]; exact Or.inr h
  clear hAe hD0
  refine gstart (fun H locs hHe hLe => ?_)
  have hS : va_S A s.heap H locs := by rw [← hHe, ← hLe]; exact va_S.rf
  replace hP : va_P (dC, dI) vwCl (Wd 153 (cfC ad cI cT cS) σ) H := by rw [← hHe]; exact hP
  clear hHe hLe
  have hl := lv_entry ([.ref (ad (kX2 + 5))]) (n := 1) (Nat.le_of_ble_eq_true rfl)
  rw [lg_entry_eq]
  generalize (lg_sl ([.ref (ad (kX2 + 5))]) ++ List.replicate (1 - (lg_sl ([.ref (ad (kX2 + 5))])).length) Slot.unset).toArray = ls at hl ⊢
  replace hl : lv_has ls 1 [(0, .ref (ad (kX2 + 5)))] := hl
  unfold zf_X2_drop at h
  refine lv_aload_n hx hb dX2_drop_0 rfl (lv_at hl 0 rfl) ?_
  refine gf_X2_6 hX2 hx hb hts iw_X2_drop_X2 hown hK hP (hts (.fieldLink RX2 43 "TraceTrees$Forest" "recording" "LTraceTrees$Trace;") (List.mem_of_getElem? (i := 1) rfl)) dX2_drop_1 ?_
  refine w_ifnonnull (ad := ad) (tgt := 8) hx hb dX2_drop_4 (by decide) (fun c1 => ?_) (fun c1 => ?_)
  · replace h := ifn c1 h
    refine lv_aload_n hx hb dX2_drop_8 rfl (lv_at hl 0 rfl) ?_
    refine gf_X2_1 hX2 hx hb hts iw_X2_drop_X2 hown hK hP (hts (.fieldLink RX2 17 "TraceTrees$Forest" "heat" "[I") (List.mem_of_getElem? (i := 2) rfl)) dX2_drop_9 ?_
    refine lv_aload_n hx hb dX2_drop_12 rfl (lv_at hl 0 rfl) ?_
    refine gf_X2_6 hX2 hx hb hts iw_X2_drop_X2 hown hK hP (hts (.fieldLink RX2 43 "TraceTrees$Forest" "recording" "LTraceTrees$Trace;") (List.mem_of_getElem? (i := 1) rfl)) dX2_drop_13 ?_
    obtain ⟨ht2, h⟩ := tk_inv h
    refine W.eq (g2 := F0 m 16 ls [.ref (ad ((σ (kX2 + 5) 6).toNatClampNeg)), .ref (ad (kX2 + 7))]) (by rw [rv_tr ad ht2]) ?_
    refine gf_X8_7 ht2.1 hx hb hts iw_X2_drop_X8 hown hK hP (hts (.fieldLink RX2 59 "TraceTrees$Trace" "head" "I") (List.mem_of_getElem? (i := 3) rfl)) dX2_drop_16 ?_
    refine lv_iconst (v := 0) hx hb dX2_drop_19 (by decide) ?_
    obtain ⟨hi3, h⟩ := bd_inv h
    refine wast hx hb hK hP hD hS (aHe hX2) hi3 dX2_drop_20 (fun H locs hP hD hS => ?_)
    refine lv_aload_n hx hb dX2_drop_21 rfl (lv_at hl 0 rfl) ?_
    refine gf_X2_2 hX2 hx hb hts iw_X2_drop_X2 hown hK hP (hts (.fieldLink RX2 21 "TraceTrees$Forest" "drops" "[I") (List.mem_of_getElem? (i := 4) rfl)) dX2_drop_22 ?_
    refine lv_aload_n hx hb dX2_drop_25 rfl (lv_at hl 0 rfl) ?_
    refine gf_X2_6 hX2 hx hb hts iw_X2_drop_X2 hown hK hP (hts (.fieldLink RX2 43 "TraceTrees$Forest" "recording" "LTraceTrees$Trace;") (List.mem_of_getElem? (i := 1) rfl)) dX2_drop_26 ?_
    refine lv_nmr (y := rv ad (σ (kX2 + 5) 6)) (congrArg (rv ad) (su_rd (by omega) rfl)) ?_
    refine lv_nmr (rv_tr ad ht2) ?_
    refine gf_X8_7 ht2.1 hx hb hts iw_X2_drop_X8 hown hK hP (hts (.fieldLink RX2 59 "TraceTrees$Trace" "head" "I") (List.mem_of_getElem? (i := 3) rfl)) dX2_drop_29 ?_
    refine lv_nm (y := (σ ((σ (kX2 + 5) 6).toNatClampNeg) 7)) (su_rd (Ne.symm (ne_MT10 hX2 ht2.1 (by decide))) rfl) ?_
    refine lv_dup2_11 hx hb dX2_drop_32 rfl rfl ?_
    refine wald hx hb hK hP (aDr hX2) hi3 dX2_drop_33 ?_
    refine lv_nm (y := (σ (kX2 + 8) (σ ((σ (kX2 + 5) 6).toNatClampNeg) 7).toNatClampNeg)) (su_rd (by omega) rfl) ?_
    refine lv_iconst (v := 1) hx hb dX2_drop_34 (by decide) ?_
    refine lv_iadd hx hb dX2_drop_35 ?_
    refine wast hx hb hK hP hD hS (aDr hX2) hi3 dX2_drop_36 (fun H locs hP hD hS => ?_)
    refine lv_aload_n hx hb dX2_drop_37 rfl (lv_at hl 0 rfl) ?_
    refine lv_dup hx hb dX2_drop_38 rfl ?_
    refine gf_X2_5 hX2 hx hb hts iw_X2_drop_X2 hown hK hP (hts (.fieldLink RX2 40 "TraceTrees$Forest" "dropped" "I") (List.mem_of_getElem? (i := 5) rfl)) dX2_drop_39 ?_
    refine lv_nm (y := (σ (kX2 + 5) 5)) (su_rd (by omega) (su_rd (by omega) rfl)) ?_
    refine lv_iconst (v := 1) hx hb dX2_drop_42 (by decide) ?_
    refine lv_iadd hx hb dX2_drop_43 ?_
    refine pf_X2_5 hX2 hx hb hts iw_X2_drop_X2 hown hK hP hD hS (hts (.fieldLink RX2 40 "TraceTrees$Forest" "dropped" "I") (List.mem_of_getElem? (i := 5) rfl)) dX2_drop_44 (fun H locs hP hD hS => ?_)
    refine lv_aload_n hx hb dX2_drop_47 rfl (lv_at hl 0 rfl) ?_
    refine lv_null hx hb dX2_drop_48 ?_
    refine pf_X2_6 hX2 (x := -1) (rv_null ad rfl).symm hx hb hts iw_X2_drop_X2 hown hK hP hD hS (hts (.fieldLink RX2 43 "TraceTrees$Forest" "recording" "LTraceTrees$Trace;") (List.mem_of_getElem? (i := 1) rfl)) dX2_drop_49 (fun H locs hP hD hS => ?_)
    have h9 := Option.some.inj h
    exact wretv hx hb hr hlocks hP hD hS trivial (by rw [← h9]) dX2_drop_52
  · replace h := ifp c1 h
    have h9 := Option.some.inj h
    exact wretv hx hb hr hlocks hP hD hS trivial (by rw [← h9]) dX2_drop_7
def zb_X2_heatFact_10  : Option (Int32) := some (-2 : Int32)
def zb_X2_heatFact_85 (w0_85 : Int32) : Option (Int32) := some w0_85
def zb_X2_heatFact_62 (w0_62 : Bool) : Option (Int32) := some (b2i w0_62)
def zf_X2_heatFact (kX2 : Nat) (a1 : Int32) (a2 : Int32) (σ : Sg) : Option (Int32) := (if a1 < 0 then zb_X2_heatFact_10 else (if a1 < (24 : Int32) then (if a2 = 0 then bd a1 24 (some (σ (kX2 + 7) a1.toNatClampNeg)) else (if a2 = 1 then bd a1 24 ((if (σ (kX2 + 8) a1.toNatClampNeg) < (2 : Int32) then (zb_X2_heatFact_62 false) else (zb_X2_heatFact_62 true))) else (if a2 = 2 then bd a1 24 ((if (σ (kX2 + 9) a1.toNatClampNeg) = -1 then (zb_X2_heatFact_85 (-1 : Int32)) else tk (σ (kX2 + 9) a1.toNatClampNeg) ((zb_X2_heatFact_85 (σ ((σ (kX2 + 9) a1.toNatClampNeg).toNatClampNeg) 0))))) else some (-2 : Int32)))) else zb_X2_heatFact_10))
def oc_X2_heatFact : List Cond := [.fieldLink RX2 17 "TraceTrees$Forest" "heat" "[I", .fieldLink RX2 21 "TraceTrees$Forest" "drops" "[I", .fieldLink RX2 24 "TraceTrees$Forest" "root" "[LTraceTrees$Trace;", .fieldLink RX2 68 "TraceTrees$Trace" "number" "I"]
def vc_X2_heatFact : List Cond := .code yX2_heatFact cX2_heatFact 3 (some .int) :: (oc_X2_heatFact ++ (wsX20 ++ (wsX80)))
theorem iw_X2_heatFact_X2 : ∀ w ∈ wsX20, w ∈ vc_X2_heatFact := fun _ h => List.mem_cons_of_mem _ (List.mem_append_right _ (List.mem_append_left _ h))
theorem iw_X2_heatFact_X8 : ∀ w ∈ wsX80, w ∈ vc_X2_heatFact := fun _ h => List.mem_cons_of_mem _ (List.mem_append_right _ (List.mem_append_right _ (h)))
theorem gd_c_X2_heatFact : (vc_X2_heatFact).all goodWord = true := gall_cons rfl (gall_app (by decide +kernel) (gall_app gw_X2 gw_X8))
set_option maxHeartbeats 4000000 in
set_option maxRecDepth 100000 in
theorem c_X2_heatFact (l : Launch) (dC : Nat → ClassId) (dI : Nat → Nat → Nat) (cI cT cS : ClassId) (sz : Nat) (ad : Nat → Nat) (kX2 : Nat) (hX2 : isM kX2) (a1 : Int32) (a2 : Int32) (σ : Sg) (o : Int32) (h : zf_X2_heatFact kX2 a1 a2 σ = some o) : gCI (S := Unit) l yX2_heatFact vc_X2_heatFact { frames := 0, cells := 0, slots := 0, locals := 0 } (dC, dI) (gTY cI cT cS) sz [.ref (ad (kX2 + 5)), .int a1, .int a2] (Wd 153 (cfC ad cI cT cS) σ) (fun (r : Int32) (_ : Unit) => r = o) (fun (_ : Unit) => (Wd 153 (cfC ad cI cT cS) σ)) 0 0 := by
  refine Met.ofW (cc := cX2_heatFact) (maxL := 3) (ret := (some .int)) (by decide) rfl ?_
  intro p e s m args below meth c s₁ B hml hv
  obtain ⟨rfl, hsz, hP, hK, hD0⟩ := hv
  have hx := B.exec
  have hb := B.bytes
  have hr := B.returns
  have hts := atoms_spec (ws := vc_X2_heatFact) B.pre
  have hown : s.vm.findClass RX2 = some m.cls := findClass_of_methodNamed B.named
  have hlocks := B.notSynchronized
  subst hsz
  have hD := hD0.self (sz := s.heap.size)
  generalize hAe : va_A (Wd 153 (cfC ad cI cT cS) σ) s.heap.size = A at hD ⊢
  have hA : ∀ q : Nat, s.heap.size ≤ q → A q := fun q h => by rw [← hAe]; exact Or.inr h
  clear hAe hD0
  refine gstart (fun H locs hHe hLe => ?_)
  have hS : va_S A s.heap H locs := by rw [← hHe, ← hLe]; exact va_S.rf
  replace hP : va_P (dC, dI) vwCl (Wd 153 (cfC ad cI cT cS) σ) H := by rw [← hHe]; exact hP
  clear hHe hLe
  have hl := lv_entry ([.ref (ad (kX2 + 5)), .int a1, .int a2]) (n := 3) (Nat.le_of_ble_eq_true rfl)
  rw [lg_entry_eq]
  generalize (lg_sl ([.ref (ad (kX2 + 5)), .int a1, .int a2]) ++ List.replicate (3 - (lg_sl ([.ref (ad (kX2 + 5)), .int a1, .int a2])).length) Slot.unset).toArray = ls at hl ⊢
  replace hl : lv_has ls 3 [(0, .ref (ad (kX2 + 5))), (1, .int a1), (2, .int a2)] := hl
  unfold zf_X2_heatFact at h
  have J10 : ∀  (H : Heap) (locs : List Loc) (ls : Array Slot), zb_X2_heatFact_10 = some o → va_P (dC, dI) vwCl (Wd 153 (cfC ad cI cT cS) σ) H → va_D A (Wd 153 (cfC ad cI cT cS) σ) → va_S A s.heap H locs → lv_has ls 3 [] → W p l e (headSpec vc_X2_heatFact { frames := 0, cells := 0, slots := 0, locals := 0 }).room s m (List.toArray (α := Value) [.ref (ad (kX2 + 5)), .int a1, .int a2]) below meth c H locs 0 0 (MQ below (va_Qi (fun (r : Int32) (_ : Unit) => r = o) (gB (dC, dI) A (fun (_ : Unit) => (Wd 153 (cfC ad cI cT cS) σ))) A) (List.toArray (α := Value) [.ref (ad (kX2 + 5)), .int a1, .int a2]) s 0 0 A) (F0 m 10 ls []) := by
    intro  H locs ls h hP hD hS hl
    unfold zb_X2_heatFact_10 at h
    refine lv_bipush (v := (-2)) hx hb dX2_heatFact_10 (by decide) ?_
    have h9 := Option.some.inj h
    exact wreti hx hb hr hlocks hP hD hS (by show _ = _; rw [← h9]; first | done | rfl) rfl dX2_heatFact_12
  have J85 : ∀ (w0_85 : Int32) (H : Heap) (locs : List Loc) (ls : Array Slot), zb_X2_heatFact_85 w0_85 = some o → va_P (dC, dI) vwCl (Wd 153 (cfC ad cI cT cS) σ) H → va_D A (Wd 153 (cfC ad cI cT cS) σ) → va_S A s.heap H locs → lv_has ls 3 [] → W p l e (headSpec vc_X2_heatFact { frames := 0, cells := 0, slots := 0, locals := 0 }).room s m (List.toArray (α := Value) [.ref (ad (kX2 + 5)), .int a1, .int a2]) below meth c H locs 0 0 (MQ below (va_Qi (fun (r : Int32) (_ : Unit) => r = o) (gB (dC, dI) A (fun (_ : Unit) => (Wd 153 (cfC ad cI cT cS) σ))) A) (List.toArray (α := Value) [.ref (ad (kX2 + 5)), .int a1, .int a2]) s 0 0 A) (F0 m 85 ls [.int w0_85]) := by
    intro w0_85 H locs ls h hP hD hS hl
    unfold zb_X2_heatFact_85 at h
    have h9 := Option.some.inj h
    exact wreti hx hb hr hlocks hP hD hS (by show _ = _; rw [← h9]; first | done | rfl) rfl dX2_heatFact_85
  have J62 : ∀ (w0_62 : Bool) (H : Heap) (locs : List Loc) (ls : Array Slot), zb_X2_heatFact_62 w0_62 = some o → va_P (dC, dI) vwCl (Wd 153 (cfC ad cI cT cS) σ) H → va_D A (Wd 153 (cfC ad cI cT cS) σ) → va_S A s.heap H locs → lv_has ls 3 [] → W p l e (headSpec vc_X2_heatFact { frames := 0, cells := 0, slots := 0, locals := 0 }).room s m (List.toArray (α := Value) [.ref (ad (kX2 + 5)), .int a1, .int a2]) below meth c H locs 0 0 (MQ below (va_Qi (fun (r : Int32) (_ : Unit) => r = o) (gB (dC, dI) A (fun (_ : Unit) => (Wd 153 (cfC ad cI cT cS) σ))) A) (List.toArray (α := Value) [.ref (ad (kX2 + 5)), .int a1, .int a2]) s 0 0 A) (F0 m 62 ls [.int (b2i w0_62)]) := by
    intro w0_62 H locs ls h hP hD hS hl
    unfold zb_X2_heatFact_62 at h
    have h9 := Option.some.inj h
    exact wreti hx hb hr hlocks hP hD hS (by show _ = _; rw [← h9]; first | done | rfl) rfl dX2_heatFact_62
  refine lv_iload_n hx hb dX2_heatFact_0 rfl (lv_at hl 1 rfl) ?_
  refine lv_if_lt (tgt := 10) hx hb dX2_heatFact_1 (by decide) (fun c1 => ?_) (fun c1 => ?_)
  · replace h := ifp (c1) h
    exact J10  H locs ls h hP hD hS (lv_sub (l' := []) hl [] rfl)
  · replace h := ifn (c1) h
    refine lv_iload_n hx hb dX2_heatFact_4 rfl (lv_at hl 1 rfl) ?_
    refine lv_bipush (v := 24) hx hb dX2_heatFact_5 (by decide) ?_
    refine lv_icmp_lt (tgt := 13) hx hb dX2_heatFact_7 (by decide) (fun c2 => ?_) (fun c2 => ?_)
    · replace h := ifp (c2) h
      refine lv_iload_n hx hb dX2_heatFact_13 rfl (lv_at hl 2 rfl) ?_
      by_cases c3 : a2 = 0
      · replace h := ifp c3 h
        refine lv_tableIn (off := 26) (tgt := 40) hx hb dX2_heatFact_14 (by rw [c3]; decide) (by rw [c3]; decide) (by rw [c3]; decide) (by decide) ?_
        refine lv_aload_n hx hb dX2_heatFact_40 rfl (lv_at hl 0 rfl) ?_
        refine gf_X2_1 hX2 hx hb hts iw_X2_heatFact_X2 hown hK hP (hts (.fieldLink RX2 17 "TraceTrees$Forest" "heat" "[I") (List.mem_of_getElem? (i := 1) rfl)) dX2_heatFact_41 ?_
        refine lv_iload_n hx hb dX2_heatFact_44 rfl (lv_at hl 1 rfl) ?_
        obtain ⟨hi4, h⟩ := bd_inv h
        refine wald hx hb hK hP (aHe hX2) hi4 dX2_heatFact_45 ?_
        have h9 := Option.some.inj h
        exact wreti hx hb hr hlocks hP hD hS (by show _ = _; rw [← h9]; first | done | rfl) rfl dX2_heatFact_46
      replace h := ifn c3 h
      by_cases c5 : a2 = 1
      · replace h := ifp c5 h
        refine lv_tableIn (off := 33) (tgt := 47) hx hb dX2_heatFact_14 (by rw [c5]; decide) (by rw [c5]; decide) (by rw [c5]; decide) (by decide) ?_
        refine lv_aload_n hx hb dX2_heatFact_47 rfl (lv_at hl 0 rfl) ?_
        refine gf_X2_2 hX2 hx hb hts iw_X2_heatFact_X2 hown hK hP (hts (.fieldLink RX2 21 "TraceTrees$Forest" "drops" "[I") (List.mem_of_getElem? (i := 2) rfl)) dX2_heatFact_48 ?_
        refine lv_iload_n hx hb dX2_heatFact_51 rfl (lv_at hl 1 rfl) ?_
        obtain ⟨hi6, h⟩ := bd_inv h
        refine wald hx hb hK hP (aDr hX2) hi6 dX2_heatFact_52 ?_
        refine lv_iconst (v := 2) hx hb dX2_heatFact_53 (by decide) ?_
        refine lv_icmp_lt (tgt := 61) hx hb dX2_heatFact_54 (by decide) (fun c7 => ?_) (fun c7 => ?_)
        · replace h := ifp (c7) h
          refine lv_iconst (v := 0) hx hb dX2_heatFact_61 (by decide) ?_
          exact J62 false H locs ls h hP hD hS (lv_sub (l' := []) hl [] rfl)
        · replace h := ifn (c7) h
          refine lv_iconst (v := 1) hx hb dX2_heatFact_57 (by decide) ?_
          refine lv_goto (tgt := 62) hx hb dX2_heatFact_58 (by decide) ?_
          exact J62 true H locs ls h hP hD hS (lv_sub (l' := []) hl [] rfl)
      replace h := ifn c5 h
      by_cases c8 : a2 = 2
      · replace h := ifp c8 h
        refine lv_tableIn (off := 49) (tgt := 63) hx hb dX2_heatFact_14 (by rw [c8]; decide) (by rw [c8]; decide) (by rw [c8]; decide) (by decide) ?_
        refine lv_aload_n hx hb dX2_heatFact_63 rfl (lv_at hl 0 rfl) ?_
        refine gf_X2_3 hX2 hx hb hts iw_X2_heatFact_X2 hown hK hP (hts (.fieldLink RX2 24 "TraceTrees$Forest" "root" "[LTraceTrees$Trace;") (List.mem_of_getElem? (i := 3) rfl)) dX2_heatFact_64 ?_
        refine lv_iload_n hx hb dX2_heatFact_67 rfl (lv_at hl 1 rfl) ?_
        obtain ⟨hi9, h⟩ := bd_inv h
        refine waldR hx hb hK hP hX2 hi9 dX2_heatFact_68 ?_
        refine w_ifnonnull (ad := ad) (tgt := 76) hx hb dX2_heatFact_69 (by decide) (fun c10 => ?_) (fun c10 => ?_)
        · replace h := ifn c10 h
          refine lv_aload_n hx hb dX2_heatFact_76 rfl (lv_at hl 0 rfl) ?_
          refine gf_X2_3 hX2 hx hb hts iw_X2_heatFact_X2 hown hK hP (hts (.fieldLink RX2 24 "TraceTrees$Forest" "root" "[LTraceTrees$Trace;") (List.mem_of_getElem? (i := 3) rfl)) dX2_heatFact_77 ?_
          refine lv_iload_n hx hb dX2_heatFact_80 rfl (lv_at hl 1 rfl) ?_
          refine waldR hx hb hK hP hX2 hi9 dX2_heatFact_81 ?_
          obtain ⟨ht11, h⟩ := tk_inv h
          refine W.eq (g2 := F0 m 82 ls [.ref (ad ((σ (kX2 + 9) a1.toNatClampNeg).toNatClampNeg))]) (by rw [rv_tr ad ht11]) ?_
          refine gf_X8_0 ht11.1 hx hb hts iw_X2_heatFact_X8 hown hK hP (hts (.fieldLink RX2 68 "TraceTrees$Trace" "number" "I") (List.mem_of_getElem? (i := 4) rfl)) dX2_heatFact_82 ?_
          exact J85 (σ ((σ (kX2 + 9) a1.toNatClampNeg).toNatClampNeg) 0) H locs ls h hP hD hS (lv_sub (l' := []) hl [] rfl)
        · replace h := ifp c10 h
          refine lv_iconst (v := (-1)) hx hb dX2_heatFact_72 (by decide) ?_
          refine lv_goto (tgt := 85) hx hb dX2_heatFact_73 (by decide) ?_
          exact J85 (-1 : Int32) H locs ls h hP hD hS (lv_sub (l' := []) hl [] rfl)
      replace h := ifn c8 h
      refine lv_tableOut (tgt := 86) hx hb dX2_heatFact_14 (by have := lv_neT c3 (a := 0) (by decide); have := lv_neT c5 (a := 1) (by decide); have := lv_neT c8 (a := 2) (by decide); omega) (by decide) ?_
      refine lv_bipush (v := (-2)) hx hb dX2_heatFact_86 (by decide) ?_
      have h9 := Option.some.inj h
      exact wreti hx hb hr hlocks hP hD hS (by show _ = _; rw [← h9]; first | done | rfl) rfl dX2_heatFact_88
    · replace h := ifn (c2) h
      exact J10  H locs ls h hP hD hS (lv_sub (l' := []) hl [] rfl)
def zl_X2_entriesInAll_4 (kX2 : Nat) (σ : Sg) (x4 : Int32 × Int32) : Option (Bool × (Int32 × Int32)) := (if (σ (kX2 + 5) 4) ≤ x4.1 then some (false, (x4.1, x4.2)) else bd x4.1 8 (letb (x4.2 + (σ (kX2 + 10 + 7 * x4.1.toNatClampNeg) 10)) (fun e3 => some (true, ((x4.1 + (1 : Int32)), e3)))))
def zf_X2_entriesInAll (kX2 : Nat) (σ : Sg) : Option (Int32) := obd (lp (X := Int32 × Int32) (zl_X2_entriesInAll_4 kX2 σ) 1000 ((0 : Int32), (0 : Int32))) (fun y4 => some y4.2)
def oc_X2_entriesInAll : List Cond := [.fieldLink RX2 36 "TraceTrees$Forest" "size" "I", .fieldLink RX2 11 "TraceTrees$Forest" "traces" "[LTraceTrees$Trace;", .fieldLink RX2 51 "TraceTrees$Trace" "size" "I"]
def vc_X2_entriesInAll : List Cond := .code yX2_entriesInAll cX2_entriesInAll 3 (some .int) :: (oc_X2_entriesInAll ++ (wsX20 ++ (wsX80)))
theorem iw_X2_entriesInAll_X2 : ∀ w ∈ wsX20, w ∈ vc_X2_entriesInAll := fun _ h => List.mem_cons_of_mem _ (List.mem_append_right _ (List.mem_append_left _ h))
theorem iw_X2_entriesInAll_X8 : ∀ w ∈ wsX80, w ∈ vc_X2_entriesInAll := fun _ h => List.mem_cons_of_mem _ (List.mem_append_right _ (List.mem_append_right _ (h)))
theorem gd_c_X2_entriesInAll : (vc_X2_entriesInAll).all goodWord = true := gall_cons rfl (gall_app (by decide +kernel) (gall_app gw_X2 gw_X8))
set_option maxHeartbeats 4000000 in
set_option maxRecDepth 100000 in
theorem c_X2_entriesInAll (l : Launch) (dC : Nat → ClassId) (dI : Nat → Nat → Nat) (cI cT cS : ClassId) (sz : Nat) (ad : Nat → Nat) (kX2 : Nat) (hX2 : isM kX2) (σ : Sg) (o : Int32) (h : zf_X2_entriesInAll kX2 σ = some o) : gCI (S := Unit) l yX2_entriesInAll vc_X2_entriesInAll { frames := 0, cells := 0, slots := 0, locals := 0 } (dC, dI) (gTY cI cT cS) sz [.ref (ad (kX2 + 5))] (Wd 153 (cfC ad cI cT cS) σ) (fun (r : Int32) (_ : Unit) => r = o) (fun (_ : Unit) => (Wd 153 (cfC ad cI cT cS) σ)) 0 0 := by
  refine Met.ofW (cc := cX2_entriesInAll) (maxL := 3) (ret := (some .int)) (by decide) rfl ?_
  intro p e s m args below meth c s₁ B hml hv
  obtain ⟨rfl, hsz, hP, hK, hD0⟩ := hv
  have hx := B.exec
  have hb := B.bytes
  have hr := B.returns
  have hts := atoms_spec (ws := vc_X2_entriesInAll) B.pre
  have hown : s.vm.findClass RX2 = some m.cls := findClass_of_methodNamed B.named
  have hlocks := B.notSynchronized
  subst hsz
  have hD := hD0.self (sz := s.heap.size)
  generalize hAe : va_A (Wd 153 (cfC ad cI cT cS) σ) s.heap.size = A at hD ⊢
  have hA : ∀ q : Nat, s.heap.size ≤ q → A q := fun q h => by rw [← hAe]; exact Or.inr h
  clear hAe hD0
  refine gstart (fun H locs hHe hLe => ?_)
  have hS : va_S A s.heap H locs := by rw [← hHe, ← hLe]; exact va_S.rf
  replace hP : va_P (dC, dI) vwCl (Wd 153 (cfC ad cI cT cS) σ) H := by rw [← hHe]; exact hP
  clear hHe hLe
  have hl := lv_entry ([.ref (ad (kX2 + 5))]) (n := 3) (Nat.le_of_ble_eq_true rfl)
  rw [lg_entry_eq]
  generalize (lg_sl ([.ref (ad (kX2 + 5))]) ++ List.replicate (3 - (lg_sl ([.ref (ad (kX2 + 5))])).length) Slot.unset).toArray = ls at hl ⊢
  replace hl : lv_has ls 3 [(0, .ref (ad (kX2 + 5)))] := hl
  unfold zf_X2_entriesInAll at h
  refine lv_iconst (v := 0) hx hb dX2_entriesInAll_0 (by decide) ?_
  refine lv_istore_n (lv' := [(1, .int (0 : Int32)), (0, .ref (ad (kX2 + 5)))]) hx hb dX2_entriesInAll_1 rfl hl (by decide) rfl (fun ls hl => ?_)
  refine lv_iconst (v := 0) hx hb dX2_entriesInAll_2 (by decide) ?_
  refine lv_istore_n (lv' := [(2, .int (0 : Int32)), (1, .int (0 : Int32)), (0, .ref (ad (kX2 + 5)))]) hx hb dX2_entriesInAll_3 rfl hl (by decide) rfl (fun ls hl => ?_)
  obtain ⟨y4, hlp4, h⟩ := obd_inv h
  refine lp_W (fun x4 : Int32 × Int32 => ∀ (H : Heap) (locs : List Loc) (ls : Array Slot), va_P (dC, dI) vwCl (Wd 153 (cfC ad cI cT cS) σ) H → va_D A (Wd 153 (cfC ad cI cT cS) σ) → va_S A s.heap H locs → lv_has ls 3 [(2, .int x4.1), (1, .int x4.2), (0, .ref (ad (kX2 + 5)))] → W p l e (headSpec vc_X2_entriesInAll { frames := 0, cells := 0, slots := 0, locals := 0 }).room s m (List.toArray (α := Value) [.ref (ad (kX2 + 5))]) below meth c H locs 0 0 (MQ below (va_Qi (fun (r : Int32) (_ : Unit) => r = o) (gB (dC, dI) A (fun (_ : Unit) => (Wd 153 (cfC ad cI cT cS) σ))) A) (List.toArray (α := Value) [.ref (ad (kX2 + 5))]) s 0 0 A) (F0 m 4 ls [])) (fun y4 : Int32 × Int32 => ∀ (H : Heap) (locs : List Loc) (ls : Array Slot), va_P (dC, dI) vwCl (Wd 153 (cfC ad cI cT cS) σ) H → va_D A (Wd 153 (cfC ad cI cT cS) σ) → va_S A s.heap H locs → lv_has ls 3 [(1, .int y4.2)] → W p l e (headSpec vc_X2_entriesInAll { frames := 0, cells := 0, slots := 0, locals := 0 }).room s m (List.toArray (α := Value) [.ref (ad (kX2 + 5))]) below meth c H locs 0 0 (MQ below (va_Qi (fun (r : Int32) (_ : Unit) => r = o) (gB (dC, dI) A (fun (_ : Unit) => (Wd 153 (cfC ad cI cT cS) σ))) A) (List.toArray (α := Value) [.ref (ad (kX2 + 5))]) s 0 0 A) (F0 m 30 ls [])) ?_ 1000 ((0 : Int32), (0 : Int32)) y4 hlp4 ?_ H locs ls hP hD hS (lv_sub (l' := [(2, .int (0 : Int32)), (1, .int (0 : Int32)), (0, .ref (ad (kX2 + 5)))]) hl [0, 1, 2] rfl)
  · intro x4 yy4 h ht4 hf4 H locs ls hP hD hS hl
    unfold zl_X2_entriesInAll_4 at h
    refine lv_iload_n hx hb dX2_entriesInAll_4 rfl (lv_at hl 0 rfl) ?_
    refine lv_aload_n hx hb dX2_entriesInAll_5 rfl (lv_at hl 2 rfl) ?_
    refine gf_X2_4 hX2 hx hb hts iw_X2_entriesInAll_X2 hown hK hP (hts (.fieldLink RX2 36 "TraceTrees$Forest" "size" "I") (List.mem_of_getElem? (i := 1) rfl)) dX2_entriesInAll_6 ?_
    refine lv_icmp_ge (tgt := 30) hx hb dX2_entriesInAll_9 (by decide) (fun c1 => ?_) (fun c1 => ?_)
    · replace h := ifp (c1) h
      obtain rfl := Option.some.inj h
      exact hf4 rfl H locs ls hP hD hS (lv_sub (l' := [(1, .int x4.2)]) hl [1] rfl)
    · replace h := ifn (c1) h
      refine lv_iload_n hx hb dX2_entriesInAll_12 rfl (lv_at hl 1 rfl) ?_
      refine lv_aload_n hx hb dX2_entriesInAll_13 rfl (lv_at hl 2 rfl) ?_
      refine gf_X2_0 hX2 hx hb hts iw_X2_entriesInAll_X2 hown hK hP (hts (.fieldLink RX2 11 "TraceTrees$Forest" "traces" "[LTraceTrees$Trace;") (List.mem_of_getElem? (i := 2) rfl)) dX2_entriesInAll_14 ?_
      refine lv_iload_n hx hb dX2_entriesInAll_17 rfl (lv_at hl 0 rfl) ?_
      obtain ⟨hi2, h⟩ := bd_inv h
      refine waldT hx hb hK hP hX2 hi2 dX2_entriesInAll_18 ?_
      refine gf_X8_10 (isTr_M hX2 hi2) hx hb hts iw_X2_entriesInAll_X8 hown hK hP (hts (.fieldLink RX2 51 "TraceTrees$Trace" "size" "I") (List.mem_of_getElem? (i := 3) rfl)) dX2_entriesInAll_19 ?_
      refine lv_iadd hx hb dX2_entriesInAll_22 ?_
      obtain ⟨e3, he3, h⟩ := letb_inv h
      refine lv_nm he3 ?_
      refine lv_istore_n (lv' := [(1, .int e3), (2, .int x4.1), (0, .ref (ad (kX2 + 5)))]) hx hb dX2_entriesInAll_23 rfl hl (by decide) rfl (fun ls hl => ?_)
      refine lv_iinc (v := (x4.1 + (1 : Int32))) (lv' := [(2, .int (x4.1 + (1 : Int32))), (1, .int e3), (0, .ref (ad (kX2 + 5)))]) hx hb dX2_entriesInAll_24 hl (k := 1) rfl rfl (by decide) rfl (fun ls hl => ?_)
      refine lv_goto (tgt := 4) hx hb dX2_entriesInAll_27 (by decide) ?_
      obtain rfl := Option.some.inj h
      exact ht4 rfl H locs ls hP hD hS (lv_sub (l' := [(2, .int (x4.1 + (1 : Int32))), (1, .int e3), (0, .ref (ad (kX2 + 5)))]) hl [0, 1, 2] rfl)
  · intro H locs ls hP hD hS hl
    refine lv_iload_n hx hb dX2_entriesInAll_30 rfl (lv_at hl 0 rfl) ?_
    have h9 := Option.some.inj h
    exact wreti hx hb hr hlocks hP hD hS (by show _ = _; rw [← h9]; first | done | rfl) rfl dX2_entriesInAll_31
def zf_X8_append (kX8 : Nat) (a1 : Int32) (k2 : Nat) (σ : Sg) : Option (Sg) := (if (σ kX8 10) < (16 : Int32) then bd (σ kX8 10) 16 (some (su (su (su (su (su (su (su σ (kX8 + 1) (σ kX8 10).toNatClampNeg a1) (kX8 + 2) (σ kX8 10).toNatClampNeg (σ (k2 + 4) 0)) (kX8 + 3) (σ kX8 10).toNatClampNeg (σ (k2 + 4) 1)) (kX8 + 4) (σ kX8 10).toNatClampNeg (σ (k2 + 4) 2)) (kX8 + 5) (σ kX8 10).toNatClampNeg (0 : Int32)) (kX8 + 6) (σ kX8 10).toNatClampNeg (-1 : Int32)) kX8 10 ((σ kX8 10) + (1 : Int32)))) else some σ)
def oc_X8_append : List Cond := [.fieldLink RX8 43 "TraceTrees$Trace" "size" "I", .fieldLink RX8 9 "TraceTrees$Trace" "point" "[I", .fieldLink RX8 15 "TraceTrees$Trace" "kindY" "[I", .fieldLink RX8 49 "TraceTrees$Effect" "kindY" "I", .fieldLink RX8 18 "TraceTrees$Trace" "kindZ" "[I", .fieldLink RX8 53 "TraceTrees$Effect" "kindZ" "I", .fieldLink RX8 21 "TraceTrees$Trace" "way" "[I", .fieldLink RX8 55 "TraceTrees$Effect" "way" "I", .fieldLink RX8 24 "TraceTrees$Trace" "hits" "[I", .fieldLink RX8 27 "TraceTrees$Trace" "branch" "[I"]
def vc_X8_append : List Cond := .code yX8_append cX8_append 3 none :: (oc_X8_append ++ (wsX80 ++ (wsX00)))
theorem iw_X8_append_X8 : ∀ w ∈ wsX80, w ∈ vc_X8_append := fun _ h => List.mem_cons_of_mem _ (List.mem_append_right _ (List.mem_append_left _ h))
theorem iw_X8_append_X0 : ∀ w ∈ wsX00, w ∈ vc_X8_append := fun _ h => List.mem_cons_of_mem _ (List.mem_append_right _ (List.mem_append_right _ (h)))
theorem gd_c_X8_append : (vc_X8_append).all goodWord = true := gall_cons rfl (gall_app (by decide +kernel) (gall_app gw_X8 gw_X0))
set_option maxHeartbeats 4000000 in
set_option maxRecDepth 100000 in
theorem c_X8_append (l : Launch) (dC : Nat → ClassId) (dI : Nat → Nat → Nat) (cI cT cS : ClassId) (sz : Nat) (ad : Nat → Nat) (kX8 : Nat) (hX8 : isTr kX8) (k2 : Nat) (hk2 : isM k2) (a1 : Int32) (σ : Sg) (o : Sg) (h : zf_X8_append kX8 a1 k2 σ = some o) : gCV (S := Unit) l yX8_append vc_X8_append { frames := 0, cells := 0, slots := 0, locals := 0 } (dC, dI) (gTY cI cT cS) sz [.ref (ad kX8), .int a1, .ref (ad (k2 + 4))] (Wd 153 (cfC ad cI cT cS) σ) (fun (_ : Unit) => True) (fun (_ : Unit) => (Wd 153 (cfC ad cI cT cS) o)) 0 0 := by
  refine Met.ofW (cc := cX8_append) (maxL := 3) (ret := none) (by decide) rfl ?_
  intro p e s m args below meth c s₁ B hml hv
  obtain ⟨rfl, hsz, hP, hK, hD0⟩ := hv
  have hx := B.exec
  have hb := B.bytes
  have hr := B.returns
  have hts := atoms_spec (ws := vc_X8_append) B.pre
  have hown : s.vm.findClass RX8 = some m.cls := findClass_of_methodNamed B.named
  have hlocks := B.notSynchronized
  subst hsz
  have hD := hD0.self (sz := s.heap.size)
  generalize hAe : va_A (Wd 153 (cfC ad cI cT cS) σ) s.heap.size = A at hD ⊢
  have hA : ∀ q : Nat, s.heap.size ≤ q → A q := fun q h => by rw [← hAe]; exact Or.inr h
  clear hAe hD0
  refine gstart (fun H locs hHe hLe => ?_)
  have hS : va_S A s.heap H locs := by rw [← hHe, ← hLe]; exact va_S.rf
  replace hP : va_P (dC, dI) vwCl (Wd 153 (cfC ad cI cT cS) σ) H := by rw [← hHe]; exact hP
  clear hHe hLe
  have hl := lv_entry ([.ref (ad kX8), .int a1, .ref (ad (k2 + 4))]) (n := 3) (Nat.le_of_ble_eq_true rfl)
  rw [lg_entry_eq]
  generalize (lg_sl ([.ref (ad kX8), .int a1, .ref (ad (k2 + 4))]) ++ List.replicate (3 - (lg_sl ([.ref (ad kX8), .int a1, .ref (ad (k2 + 4))])).length) Slot.unset).toArray = ls at hl ⊢
  replace hl : lv_has ls 3 [(0, .ref (ad kX8)), (1, .int a1), (2, .ref (ad (k2 + 4)))] := hl
  unfold zf_X8_append at h
  refine lv_aload_n hx hb dX8_append_0 rfl (lv_at hl 0 rfl) ?_
  refine gf_X8_10 hX8 hx hb hts iw_X8_append_X8 hown hK hP (hts (.fieldLink RX8 43 "TraceTrees$Trace" "size" "I") (List.mem_of_getElem? (i := 1) rfl)) dX8_append_1 ?_
  refine lv_bipush (v := 16) hx hb dX8_append_4 (by decide) ?_
  refine lv_icmp_lt (tgt := 10) hx hb dX8_append_6 (by decide) (fun c1 => ?_) (fun c1 => ?_)
  · replace h := ifp (c1) h
    refine lv_aload_n hx hb dX8_append_10 rfl (lv_at hl 0 rfl) ?_
    refine gf_X8_1 hX8 hx hb hts iw_X8_append_X8 hown hK hP (hts (.fieldLink RX8 9 "TraceTrees$Trace" "point" "[I") (List.mem_of_getElem? (i := 2) rfl)) dX8_append_11 ?_
    refine lv_aload_n hx hb dX8_append_14 rfl (lv_at hl 0 rfl) ?_
    refine gf_X8_10 hX8 hx hb hts iw_X8_append_X8 hown hK hP (hts (.fieldLink RX8 43 "TraceTrees$Trace" "size" "I") (List.mem_of_getElem? (i := 1) rfl)) dX8_append_15 ?_
    refine lv_iload_n hx hb dX8_append_18 rfl (lv_at hl 1 rfl) ?_
    obtain ⟨hi2, h⟩ := bd_inv h
    refine wast hx hb hK hP hD hS (aT1 hX8) hi2 dX8_append_19 (fun H locs hP hD hS => ?_)
    refine lv_aload_n hx hb dX8_append_20 rfl (lv_at hl 0 rfl) ?_
    refine gf_X8_2 hX8 hx hb hts iw_X8_append_X8 hown hK hP (hts (.fieldLink RX8 15 "TraceTrees$Trace" "kindY" "[I") (List.mem_of_getElem? (i := 3) rfl)) dX8_append_21 ?_
    refine lv_aload_n hx hb dX8_append_24 rfl (lv_at hl 0 rfl) ?_
    refine gf_X8_10 hX8 hx hb hts iw_X8_append_X8 hown hK hP (hts (.fieldLink RX8 43 "TraceTrees$Trace" "size" "I") (List.mem_of_getElem? (i := 1) rfl)) dX8_append_25 ?_
    refine lv_nm (y := (σ kX8 10)) (su_rd (by omega) rfl) ?_
    refine lv_aload_n hx hb dX8_append_28 rfl (lv_at hl 2 rfl) ?_
    refine gf_X0_0 hk2 hx hb hts iw_X8_append_X0 hown hK hP (hts (.fieldLink RX8 49 "TraceTrees$Effect" "kindY" "I") (List.mem_of_getElem? (i := 4) rfl)) dX8_append_29 ?_
    refine lv_nm (y := (σ (k2 + 4) 0)) (su_rd (ne_MT11 hk2 hX8 (by decide) (by decide)) rfl) ?_
    refine wast hx hb hK hP hD hS (aT2 hX8) hi2 dX8_append_32 (fun H locs hP hD hS => ?_)
    refine lv_aload_n hx hb dX8_append_33 rfl (lv_at hl 0 rfl) ?_
    refine gf_X8_3 hX8 hx hb hts iw_X8_append_X8 hown hK hP (hts (.fieldLink RX8 18 "TraceTrees$Trace" "kindZ" "[I") (List.mem_of_getElem? (i := 5) rfl)) dX8_append_34 ?_
    refine lv_aload_n hx hb dX8_append_37 rfl (lv_at hl 0 rfl) ?_
    refine gf_X8_10 hX8 hx hb hts iw_X8_append_X8 hown hK hP (hts (.fieldLink RX8 43 "TraceTrees$Trace" "size" "I") (List.mem_of_getElem? (i := 1) rfl)) dX8_append_38 ?_
    refine lv_nm (y := (σ kX8 10)) (su_rd (by omega) (su_rd (by omega) rfl)) ?_
    refine lv_aload_n hx hb dX8_append_41 rfl (lv_at hl 2 rfl) ?_
    refine gf_X0_1 hk2 hx hb hts iw_X8_append_X0 hown hK hP (hts (.fieldLink RX8 53 "TraceTrees$Effect" "kindZ" "I") (List.mem_of_getElem? (i := 6) rfl)) dX8_append_42 ?_
    refine lv_nm (y := (σ (k2 + 4) 1)) (su_rd (ne_MT11 hk2 hX8 (by decide) (by decide)) (su_rd (ne_MT11 hk2 hX8 (by decide) (by decide)) rfl)) ?_
    refine wast hx hb hK hP hD hS (aT3 hX8) hi2 dX8_append_45 (fun H locs hP hD hS => ?_)
    refine lv_aload_n hx hb dX8_append_46 rfl (lv_at hl 0 rfl) ?_
    refine gf_X8_4 hX8 hx hb hts iw_X8_append_X8 hown hK hP (hts (.fieldLink RX8 21 "TraceTrees$Trace" "way" "[I") (List.mem_of_getElem? (i := 7) rfl)) dX8_append_47 ?_
    refine lv_aload_n hx hb dX8_append_50 rfl (lv_at hl 0 rfl) ?_
    refine gf_X8_10 hX8 hx hb hts iw_X8_append_X8 hown hK hP (hts (.fieldLink RX8 43 "TraceTrees$Trace" "size" "I") (List.mem_of_getElem? (i := 1) rfl)) dX8_append_51 ?_
    refine lv_nm (y := (σ kX8 10)) (su_rd (by omega) (su_rd (by omega) (su_rd (by omega) rfl))) ?_
    refine lv_aload_n hx hb dX8_append_54 rfl (lv_at hl 2 rfl) ?_
    refine gf_X0_2 hk2 hx hb hts iw_X8_append_X0 hown hK hP (hts (.fieldLink RX8 55 "TraceTrees$Effect" "way" "I") (List.mem_of_getElem? (i := 8) rfl)) dX8_append_55 ?_
    refine lv_nm (y := (σ (k2 + 4) 2)) (su_rd (ne_MT11 hk2 hX8 (by decide) (by decide)) (su_rd (ne_MT11 hk2 hX8 (by decide) (by decide)) (su_rd (ne_MT11 hk2 hX8 (by decide) (by decide)) rfl))) ?_
    refine wast hx hb hK hP hD hS (aT4 hX8) hi2 dX8_append_58 (fun H locs hP hD hS => ?_)
    refine lv_aload_n hx hb dX8_append_59 rfl (lv_at hl 0 rfl) ?_
    refine gf_X8_5 hX8 hx hb hts iw_X8_append_X8 hown hK hP (hts (.fieldLink RX8 24 "TraceTrees$Trace" "hits" "[I") (List.mem_of_getElem? (i := 9) rfl)) dX8_append_60 ?_
    refine lv_aload_n hx hb dX8_append_63 rfl (lv_at hl 0 rfl) ?_
    refine gf_X8_10 hX8 hx hb hts iw_X8_append_X8 hown hK hP (hts (.fieldLink RX8 43 "TraceTrees$Trace" "size" "I") (List.mem_of_getElem? (i := 1) rfl)) dX8_append_64 ?_
    refine lv_nm (y := (σ kX8 10)) (su_rd (by omega) (su_rd (by omega) (su_rd (by omega) (su_rd (by omega) rfl)))) ?_
    refine lv_iconst (v := 0) hx hb dX8_append_67 (by decide) ?_
    refine wast hx hb hK hP hD hS (aT5 hX8) hi2 dX8_append_68 (fun H locs hP hD hS => ?_)
    refine lv_aload_n hx hb dX8_append_69 rfl (lv_at hl 0 rfl) ?_
    refine gf_X8_6 hX8 hx hb hts iw_X8_append_X8 hown hK hP (hts (.fieldLink RX8 27 "TraceTrees$Trace" "branch" "[I") (List.mem_of_getElem? (i := 10) rfl)) dX8_append_70 ?_
    refine lv_aload_n hx hb dX8_append_73 rfl (lv_at hl 0 rfl) ?_
    refine gf_X8_10 hX8 hx hb hts iw_X8_append_X8 hown hK hP (hts (.fieldLink RX8 43 "TraceTrees$Trace" "size" "I") (List.mem_of_getElem? (i := 1) rfl)) dX8_append_74 ?_
    refine lv_nm (y := (σ kX8 10)) (su_rd (by omega) (su_rd (by omega) (su_rd (by omega) (su_rd (by omega) (su_rd (by omega) rfl))))) ?_
    refine lv_iconst (v := (-1)) hx hb dX8_append_77 (by decide) ?_
    refine wast hx hb hK hP hD hS (aT6 hX8) hi2 dX8_append_78 (fun H locs hP hD hS => ?_)
    refine lv_aload_n hx hb dX8_append_79 rfl (lv_at hl 0 rfl) ?_
    refine lv_dup hx hb dX8_append_80 rfl ?_
    refine gf_X8_10 hX8 hx hb hts iw_X8_append_X8 hown hK hP (hts (.fieldLink RX8 43 "TraceTrees$Trace" "size" "I") (List.mem_of_getElem? (i := 1) rfl)) dX8_append_81 ?_
    refine lv_nm (y := (σ kX8 10)) (su_rd (by omega) (su_rd (by omega) (su_rd (by omega) (su_rd (by omega) (su_rd (by omega) (su_rd (by omega) rfl)))))) ?_
    refine lv_iconst (v := 1) hx hb dX8_append_84 (by decide) ?_
    refine lv_iadd hx hb dX8_append_85 ?_
    refine pf_X8_10 hX8 hx hb hts iw_X8_append_X8 hown hK hP hD hS (hts (.fieldLink RX8 43 "TraceTrees$Trace" "size" "I") (List.mem_of_getElem? (i := 1) rfl)) dX8_append_86 (fun H locs hP hD hS => ?_)
    have h9 := Option.some.inj h
    exact wretv hx hb hr hlocks hP hD hS trivial (by rw [← h9]) dX8_append_89
  · replace h := ifn (c1) h
    have h9 := Option.some.inj h
    exact wretv hx hb hr hlocks hP hD hS trivial (by rw [← h9]) dX8_append_9
def zb_X8_fails_70 (w0_70 : Bool) : Option (Bool) := some w0_70
def zb_X8_fails_65  : Option (Bool) := (zb_X8_fails_70 true)
def zb_X8_fails_52 (kX8 : Nat) (a1 : Int32) (k3 : Nat) (σ : Sg) : Option (Bool) := bd a1 16 ((if (σ (kX8 + 4) a1.toNatClampNeg) = (σ (k3 + 4) 2) then (zb_X8_fails_70 false) else zb_X8_fails_65))
def zb_X8_fails_30 (kX8 : Nat) (a1 : Int32) (k3 : Nat) (σ : Sg) (v4_30 : Int32) : Option (Bool) := obd (zf_X4_readsZ v4_30 σ) (fun r7 => (if r7 = true then bd a1 16 ((if (σ (kX8 + 3) a1.toNatClampNeg) = (σ (k3 + 4) 1) then (zb_X8_fails_52 kX8 a1 k3 σ) else zb_X8_fails_65)) else (zb_X8_fails_52 kX8 a1 k3 σ)))
def zf_X8_fails (kX8 : Nat) (a1 : Int32) (k3 : Nat) (σ : Sg) : Option (Bool) := bd a1 16 (letb (σ (kX8 + 1) a1.toNatClampNeg) (fun e2 => obd (zf_X4_readsY e2 σ) (fun r3 => (if r3 = true then (if (σ (kX8 + 2) a1.toNatClampNeg) = (σ (k3 + 4) 0) then (zb_X8_fails_30 kX8 a1 k3 σ e2) else zb_X8_fails_65) else (zb_X8_fails_30 kX8 a1 k3 σ e2)))))
def oc_X8_fails : List Cond := [.fieldLink RX8 9 "TraceTrees$Trace" "point" "[I", .methodLink RX8 57 yX4_readsY, .instanceMethod yX4_readsY, .selects RX4 yX4_readsY yX4_readsY, .initialized RX4, .fieldLink RX8 15 "TraceTrees$Trace" "kindY" "[I", .fieldLink RX8 49 "TraceTrees$Effect" "kindY" "I", .methodLink RX8 63 yX4_readsZ, .instanceMethod yX4_readsZ, .selects RX4 yX4_readsZ yX4_readsZ, .fieldLink RX8 18 "TraceTrees$Trace" "kindZ" "[I", .fieldLink RX8 53 "TraceTrees$Effect" "kindZ" "I", .fieldLink RX8 21 "TraceTrees$Trace" "way" "[I", .fieldLink RX8 55 "TraceTrees$Effect" "way" "I"]
def vc_X8_fails : List Cond := .code yX8_fails cX8_fails 5 (some .boolean) :: (oc_X8_fails ++ (wsX80 ++ (wsX00 ++ (vc_X4_readsY ++ (vc_X4_readsZ)))))
theorem iw_X8_fails_X8 : ∀ w ∈ wsX80, w ∈ vc_X8_fails := fun _ h => List.mem_cons_of_mem _ (List.mem_append_right _ (List.mem_append_left _ h))
theorem iw_X8_fails_X0 : ∀ w ∈ wsX00, w ∈ vc_X8_fails := fun _ h => List.mem_cons_of_mem _ (List.mem_append_right _ (List.mem_append_right _ (List.mem_append_left _ h)))
theorem ic_X8_fails_c_X4_readsY : ∀ w ∈ vc_X4_readsY, w ∈ vc_X8_fails := fun _ h => List.mem_cons_of_mem _ (List.mem_append_right _ (List.mem_append_right _ (List.mem_append_right _ (List.mem_append_left _ h))))
theorem ic_X8_fails_c_X4_readsZ : ∀ w ∈ vc_X4_readsZ, w ∈ vc_X8_fails := fun _ h => List.mem_cons_of_mem _ (List.mem_append_right _ (List.mem_append_right _ (List.mem_append_right _ (List.mem_append_right _ (h)))))
theorem gd_c_X8_fails : (vc_X8_fails).all goodWord = true := gall_cons rfl (gall_app (by decide +kernel) (gall_app gw_X8 (gall_app gw_X0 (gall_app gd_c_X4_readsY gd_c_X4_readsZ))))
set_option maxHeartbeats 4000000 in
set_option maxRecDepth 100000 in
theorem c_X8_fails (l : Launch) (dC : Nat → ClassId) (dI : Nat → Nat → Nat) (cI cT cS : ClassId) (sz : Nat) (ad : Nat → Nat) (kX8 : Nat) (hX8 : isTr kX8) (k3 : Nat) (hk3 : isM k3) (a1 : Int32) (σ : Sg) (o : Bool) (h : zf_X8_fails kX8 a1 k3 σ = some o) : gCI (S := Unit) l yX8_fails vc_X8_fails { frames := 2, cells := 0, slots := 0, locals := 42 } (dC, dI) (gTY cI cT cS) sz [.ref (ad kX8), .int a1, .ref (ad 1), .ref (ad (k3 + 4))] (Wd 153 (cfC ad cI cT cS) σ) (fun (r : Int32) (_ : Unit) => r = b2i o) (fun (_ : Unit) => (Wd 153 (cfC ad cI cT cS) σ)) 0 0 := by
  refine Met.ofW (cc := cX8_fails) (maxL := 5) (ret := (some .boolean)) (by decide) rfl ?_
  intro p e s m args below meth c s₁ B hml hv
  obtain ⟨rfl, hsz, hP, hK, hD0⟩ := hv
  have hx := B.exec
  have hb := B.bytes
  have hr := B.returns
  have hts := atoms_spec (ws := vc_X8_fails) B.pre
  have hown : s.vm.findClass RX8 = some m.cls := findClass_of_methodNamed B.named
  have hlocks := B.notSynchronized
  subst hsz
  have hD := hD0.self (sz := s.heap.size)
  generalize hAe : va_A (Wd 153 (cfC ad cI cT cS) σ) s.heap.size = A at hD ⊢
  have hA : ∀ q : Nat, s.heap.size ≤ q → A q := fun q h => by rw [← hAe]; exact Or.inr h
  clear hAe hD0
  refine gstart (fun H locs hHe hLe => ?_)
  have hS : va_S A s.heap H locs := by rw [← hHe, ← hLe]; exact va_S.rf
  replace hP : va_P (dC, dI) vwCl (Wd 153 (cfC ad cI cT cS) σ) H := by rw [← hHe]; exact hP
  clear hHe hLe
  have hl := lv_entry ([.ref (ad kX8), .int a1, .ref (ad 1), .ref (ad (k3 + 4))]) (n := 5) (Nat.le_of_ble_eq_true rfl)
  rw [lg_entry_eq]
  generalize (lg_sl ([.ref (ad kX8), .int a1, .ref (ad 1), .ref (ad (k3 + 4))]) ++ List.replicate (5 - (lg_sl ([.ref (ad kX8), .int a1, .ref (ad 1), .ref (ad (k3 + 4))])).length) Slot.unset).toArray = ls at hl ⊢
  replace hl : lv_has ls 5 [(0, .ref (ad kX8)), (1, .int a1), (2, .ref (ad 1)), (3, .ref (ad (k3 + 4)))] := hl
  unfold zf_X8_fails at h
  have J70 : ∀ (w0_70 : Bool) (H : Heap) (locs : List Loc) (ls : Array Slot), zb_X8_fails_70 w0_70 = some o → va_P (dC, dI) vwCl (Wd 153 (cfC ad cI cT cS) σ) H → va_D A (Wd 153 (cfC ad cI cT cS) σ) → va_S A s.heap H locs → lv_has ls 5 [] → W p l e (headSpec vc_X8_fails { frames := 2, cells := 0, slots := 0, locals := 42 }).room s m (List.toArray (α := Value) [.ref (ad kX8), .int a1, .ref (ad 1), .ref (ad (k3 + 4))]) below meth c H locs 0 0 (MQ below (va_Qi (fun (r : Int32) (_ : Unit) => r = b2i o) (gB (dC, dI) A (fun (_ : Unit) => (Wd 153 (cfC ad cI cT cS) σ))) A) (List.toArray (α := Value) [.ref (ad kX8), .int a1, .ref (ad 1), .ref (ad (k3 + 4))]) s 0 0 A) (F0 m 70 ls [.int (b2i w0_70)]) := by
    intro w0_70 H locs ls h hP hD hS hl
    unfold zb_X8_fails_70 at h
    have h9 := Option.some.inj h
    exact wretz hx hb hr hlocks (b2i_or _) hP hD hS (by show _ = _; rw [← h9]; first | done | rfl) rfl dX8_fails_70
  have J65 : ∀  (H : Heap) (locs : List Loc) (ls : Array Slot), zb_X8_fails_65 = some o → va_P (dC, dI) vwCl (Wd 153 (cfC ad cI cT cS) σ) H → va_D A (Wd 153 (cfC ad cI cT cS) σ) → va_S A s.heap H locs → lv_has ls 5 [] → W p l e (headSpec vc_X8_fails { frames := 2, cells := 0, slots := 0, locals := 42 }).room s m (List.toArray (α := Value) [.ref (ad kX8), .int a1, .ref (ad 1), .ref (ad (k3 + 4))]) below meth c H locs 0 0 (MQ below (va_Qi (fun (r : Int32) (_ : Unit) => r = b2i o) (gB (dC, dI) A (fun (_ : Unit) => (Wd 153 (cfC ad cI cT cS) σ))) A) (List.toArray (α := Value) [.ref (ad kX8), .int a1, .ref (ad 1), .ref (ad (k3 + 4))]) s 0 0 A) (F0 m 65 ls []) := by
    intro  H locs ls h hP hD hS hl
    unfold zb_X8_fails_65 at h
    refine lv_iconst (v := 1) hx hb dX8_fails_65 (by decide) ?_
    refine lv_goto (tgt := 70) hx hb dX8_fails_66 (by decide) ?_
    exact J70 true H locs ls h hP hD hS (lv_sub (l' := []) hl [] rfl)
  have J52 : ∀  (H : Heap) (locs : List Loc) (ls : Array Slot), zb_X8_fails_52 kX8 a1 k3 σ = some o → va_P (dC, dI) vwCl (Wd 153 (cfC ad cI cT cS) σ) H → va_D A (Wd 153 (cfC ad cI cT cS) σ) → va_S A s.heap H locs → lv_has ls 5 [(0, .ref (ad kX8)), (1, .int a1), (3, .ref (ad (k3 + 4)))] → W p l e (headSpec vc_X8_fails { frames := 2, cells := 0, slots := 0, locals := 42 }).room s m (List.toArray (α := Value) [.ref (ad kX8), .int a1, .ref (ad 1), .ref (ad (k3 + 4))]) below meth c H locs 0 0 (MQ below (va_Qi (fun (r : Int32) (_ : Unit) => r = b2i o) (gB (dC, dI) A (fun (_ : Unit) => (Wd 153 (cfC ad cI cT cS) σ))) A) (List.toArray (α := Value) [.ref (ad kX8), .int a1, .ref (ad 1), .ref (ad (k3 + 4))]) s 0 0 A) (F0 m 52 ls []) := by
    intro  H locs ls h hP hD hS hl
    unfold zb_X8_fails_52 at h
    refine lv_aload_n hx hb dX8_fails_52 rfl (lv_at hl 0 rfl) ?_
    refine gf_X8_4 hX8 hx hb hts iw_X8_fails_X8 hown hK hP (hts (.fieldLink RX8 21 "TraceTrees$Trace" "way" "[I") (List.mem_of_getElem? (i := 13) rfl)) dX8_fails_53 ?_
    refine lv_iload_n hx hb dX8_fails_56 rfl (lv_at hl 1 rfl) ?_
    obtain ⟨hi12, h⟩ := bd_inv h
    refine wald hx hb hK hP (aT4 hX8) hi12 dX8_fails_57 ?_
    refine lv_aload_n hx hb dX8_fails_58 rfl (lv_at hl 2 rfl) ?_
    refine gf_X0_2 hk3 hx hb hts iw_X8_fails_X0 hown hK hP (hts (.fieldLink RX8 55 "TraceTrees$Effect" "way" "I") (List.mem_of_getElem? (i := 14) rfl)) dX8_fails_59 ?_
    refine lv_icmp_eq (tgt := 69) hx hb dX8_fails_62 (by decide) (fun c13 => ?_) (fun c13 => ?_)
    · replace h := ifp (c13) h
      refine lv_iconst (v := 0) hx hb dX8_fails_69 (by decide) ?_
      exact J70 false H locs ls h hP hD hS (lv_sub (l' := []) hl [] rfl)
    · replace h := ifn (c13) h
      exact J65  H locs ls h hP hD hS (lv_sub (l' := []) hl [] rfl)
  have J30 : ∀ (v4_30 : Int32) (H : Heap) (locs : List Loc) (ls : Array Slot), zb_X8_fails_30 kX8 a1 k3 σ v4_30 = some o → va_P (dC, dI) vwCl (Wd 153 (cfC ad cI cT cS) σ) H → va_D A (Wd 153 (cfC ad cI cT cS) σ) → va_S A s.heap H locs → lv_has ls 5 [(4, .int v4_30), (0, .ref (ad kX8)), (1, .int a1), (2, .ref (ad 1)), (3, .ref (ad (k3 + 4)))] → W p l e (headSpec vc_X8_fails { frames := 2, cells := 0, slots := 0, locals := 42 }).room s m (List.toArray (α := Value) [.ref (ad kX8), .int a1, .ref (ad 1), .ref (ad (k3 + 4))]) below meth c H locs 0 0 (MQ below (va_Qi (fun (r : Int32) (_ : Unit) => r = b2i o) (gB (dC, dI) A (fun (_ : Unit) => (Wd 153 (cfC ad cI cT cS) σ))) A) (List.toArray (α := Value) [.ref (ad kX8), .int a1, .ref (ad 1), .ref (ad (k3 + 4))]) s 0 0 A) (F0 m 30 ls []) := by
    intro v4_30 H locs ls h hP hD hS hl
    unfold zb_X8_fails_30 at h
    refine lv_aload_n hx hb dX8_fails_30 rfl (lv_at hl 3 rfl) ?_
    refine lv_iload hx hb dX8_fails_31 (lv_at hl 0 rfl) ?_
    obtain ⟨r7, hc7, h⟩ := obd_inv h
    refine wcalli (S := Unit) (va_runV (As := [.int v4_30]) (rest := []) ⟨hx, hb, hml, hown, hts⟩ (c_X4_readsZ l dC dI cI cT cS H.size ad  v4_30 σ _ hc7) (cwV 1 hts (gWV (List.mem_of_getElem? (i := 8) rfl) (List.mem_of_getElem? (i := 9) rfl) (List.mem_of_getElem? (i := 10) rfl) (List.mem_of_getElem? (i := 5) rfl) ic_X8_fails_c_X4_readsZ gd_c_X4_readsZ) rfl rfl rfl (by decide +kernel) ⟨(Nat.le_of_ble_eq_true rfl), (Nat.le_of_ble_eq_true rfl)⟩) (wpV (q := (RX4, TX4, 5)) hP hK hD oX4 rfl) rfl rfl hl.1 rfl (lv_room (Nat.le_of_ble_eq_true rfl)) dX8_fails_33 ⟨(Nat.le_of_ble_eq_true rfl), (Nat.le_of_ble_eq_true rfl)⟩) hP hD hS hA (fun rr8 _ H locs hr8 hP hD hS => ?_)
    refine lv_nm (y := b2i r7) hr8 ?_
    refine lv_if_eq (tgt := 52) hx hb dX8_fails_36 (by decide) (fun c9 => ?_) (fun c9 => ?_)
    · replace h := ifn (b2i_0 c9) h
      exact J52  H locs ls h hP hD hS (lv_sub (l' := [(0, .ref (ad kX8)), (1, .int a1), (3, .ref (ad (k3 + 4)))]) hl [1, 2, 4] rfl)
    · replace h := ifp (b2i_1 c9) h
      refine lv_aload_n hx hb dX8_fails_39 rfl (lv_at hl 1 rfl) ?_
      refine gf_X8_3 hX8 hx hb hts iw_X8_fails_X8 hown hK hP (hts (.fieldLink RX8 18 "TraceTrees$Trace" "kindZ" "[I") (List.mem_of_getElem? (i := 11) rfl)) dX8_fails_40 ?_
      refine lv_iload_n hx hb dX8_fails_43 rfl (lv_at hl 2 rfl) ?_
      obtain ⟨hi10, h⟩ := bd_inv h
      refine wald hx hb hK hP (aT3 hX8) hi10 dX8_fails_44 ?_
      refine lv_aload_n hx hb dX8_fails_45 rfl (lv_at hl 4 rfl) ?_
      refine gf_X0_1 hk3 hx hb hts iw_X8_fails_X0 hown hK hP (hts (.fieldLink RX8 53 "TraceTrees$Effect" "kindZ" "I") (List.mem_of_getElem? (i := 12) rfl)) dX8_fails_46 ?_
      refine lv_icmp_ne (tgt := 65) hx hb dX8_fails_49 (by decide) (fun c11 => ?_) (fun c11 => ?_)
      · replace h := ifn (c11) h
        exact J65  H locs ls h hP hD hS (lv_sub (l' := []) hl [] rfl)
      · replace h := ifp (c11) h
        exact J52  H locs ls h hP hD hS (lv_sub (l' := [(0, .ref (ad kX8)), (1, .int a1), (3, .ref (ad (k3 + 4)))]) hl [1, 2, 4] rfl)
  refine lv_aload_n hx hb dX8_fails_0 rfl (lv_at hl 0 rfl) ?_
  refine gf_X8_1 hX8 hx hb hts iw_X8_fails_X8 hown hK hP (hts (.fieldLink RX8 9 "TraceTrees$Trace" "point" "[I") (List.mem_of_getElem? (i := 1) rfl)) dX8_fails_1 ?_
  refine lv_iload_n hx hb dX8_fails_4 rfl (lv_at hl 1 rfl) ?_
  obtain ⟨hi1, h⟩ := bd_inv h
  refine wald hx hb hK hP (aT1 hX8) hi1 dX8_fails_5 ?_
  obtain ⟨e2, he2, h⟩ := letb_inv h
  refine lv_nm he2 ?_
  refine lv_istore (lv' := [(4, .int e2), (0, .ref (ad kX8)), (1, .int a1), (2, .ref (ad 1)), (3, .ref (ad (k3 + 4)))]) hx hb dX8_fails_6 hl (by decide) rfl (fun ls hl => ?_)
  refine lv_aload_n hx hb dX8_fails_8 rfl (lv_at hl 3 rfl) ?_
  refine lv_iload hx hb dX8_fails_9 (lv_at hl 0 rfl) ?_
  obtain ⟨r3, hc3, h⟩ := obd_inv h
  refine wcalli (S := Unit) (va_runV (As := [.int e2]) (rest := []) ⟨hx, hb, hml, hown, hts⟩ (c_X4_readsY l dC dI cI cT cS H.size ad  e2 σ _ hc3) (cwV 1 hts (gWV (List.mem_of_getElem? (i := 2) rfl) (List.mem_of_getElem? (i := 3) rfl) (List.mem_of_getElem? (i := 4) rfl) (List.mem_of_getElem? (i := 5) rfl) ic_X8_fails_c_X4_readsY gd_c_X4_readsY) rfl rfl rfl (by decide +kernel) ⟨(Nat.le_of_ble_eq_true rfl), (Nat.le_of_ble_eq_true rfl)⟩) (wpV (q := (RX4, TX4, 5)) hP hK hD oX4 rfl) rfl rfl hl.1 rfl (lv_room (Nat.le_of_ble_eq_true rfl)) dX8_fails_11 ⟨(Nat.le_of_ble_eq_true rfl), (Nat.le_of_ble_eq_true rfl)⟩) hP hD hS hA (fun rr4 _ H locs hr4 hP hD hS => ?_)
  refine lv_nm (y := b2i r3) hr4 ?_
  refine lv_if_eq (tgt := 30) hx hb dX8_fails_14 (by decide) (fun c5 => ?_) (fun c5 => ?_)
  · replace h := ifn (b2i_0 c5) h
    exact J30 e2 H locs ls h hP hD hS (lv_sub (l' := [(4, .int e2), (0, .ref (ad kX8)), (1, .int a1), (2, .ref (ad 1)), (3, .ref (ad (k3 + 4)))]) hl [0, 1, 2, 3, 4] rfl)
  · replace h := ifp (b2i_1 c5) h
    refine lv_aload_n hx hb dX8_fails_17 rfl (lv_at hl 1 rfl) ?_
    refine gf_X8_2 hX8 hx hb hts iw_X8_fails_X8 hown hK hP (hts (.fieldLink RX8 15 "TraceTrees$Trace" "kindY" "[I") (List.mem_of_getElem? (i := 6) rfl)) dX8_fails_18 ?_
    refine lv_iload_n hx hb dX8_fails_21 rfl (lv_at hl 2 rfl) ?_
    refine wald hx hb hK hP (aT2 hX8) hi1 dX8_fails_22 ?_
    refine lv_aload_n hx hb dX8_fails_23 rfl (lv_at hl 4 rfl) ?_
    refine gf_X0_0 hk3 hx hb hts iw_X8_fails_X0 hown hK hP (hts (.fieldLink RX8 49 "TraceTrees$Effect" "kindY" "I") (List.mem_of_getElem? (i := 7) rfl)) dX8_fails_24 ?_
    refine lv_icmp_ne (tgt := 65) hx hb dX8_fails_27 (by decide) (fun c6 => ?_) (fun c6 => ?_)
    · replace h := ifn (c6) h
      exact J65  H locs ls h hP hD hS (lv_sub (l' := []) hl [] rfl)
    · replace h := ifp (c6) h
      exact J30 e2 H locs ls h hP hD hS (lv_sub (l' := [(4, .int e2), (0, .ref (ad kX8)), (1, .int a1), (2, .ref (ad 1)), (3, .ref (ad (k3 + 4)))]) hl [0, 1, 2, 3, 4] rfl)
def zb_X7_writtenAt_19 (w0_19 : Int32) : Option (Int32) := some w0_19
def zf_X7_writtenAt (a1 : Int32) (σ : Sg) : Option (Int32) := obd (zf_X4_writesX a1 σ) (fun r1 => (if r1 = true then obd (zf_X4_x a1 σ) (fun r4 => (zb_X7_writtenAt_19 ((1 : Int32) <<< (r4 &&& 31)))) else (zb_X7_writtenAt_19 (0 : Int32))))
def oc_X7_writtenAt : List Cond := [.methodLink RX7 56 yX4_writesX, .instanceMethod yX4_writesX, .selects RX4 yX4_writesX yX4_writesX, .initialized RX4, .methodLink RX7 59 yX4_x, .instanceMethod yX4_x, .selects RX4 yX4_x yX4_x]
def vc_X7_writtenAt : List Cond := .code yX7_writtenAt cX7_writtenAt 2 (some .int) :: (oc_X7_writtenAt ++ (vc_X4_writesX ++ (vc_X4_x)))
theorem ic_X7_writtenAt_c_X4_writesX : ∀ w ∈ vc_X4_writesX, w ∈ vc_X7_writtenAt := fun _ h => List.mem_cons_of_mem _ (List.mem_append_right _ (List.mem_append_left _ h))
theorem ic_X7_writtenAt_c_X4_x : ∀ w ∈ vc_X4_x, w ∈ vc_X7_writtenAt := fun _ h => List.mem_cons_of_mem _ (List.mem_append_right _ (List.mem_append_right _ (h)))
theorem gd_c_X7_writtenAt : (vc_X7_writtenAt).all goodWord = true := gall_cons rfl (gall_app (by decide +kernel) (gall_app gd_c_X4_writesX gd_c_X4_x))
set_option maxHeartbeats 4000000 in
set_option maxRecDepth 100000 in
theorem c_X7_writtenAt (l : Launch) (dC : Nat → ClassId) (dI : Nat → Nat → Nat) (cI cT cS : ClassId) (sz : Nat) (ad : Nat → Nat) (a1 : Int32) (σ : Sg) (o : Int32) (h : zf_X7_writtenAt a1 σ = some o) : gCI (S := Unit) l yX7_writtenAt vc_X7_writtenAt { frames := 2, cells := 0, slots := 0, locals := 43 } (dC, dI) (gTY cI cT cS) sz [.ref (ad 1), .int a1] (Wd 153 (cfC ad cI cT cS) σ) (fun (r : Int32) (_ : Unit) => r = o) (fun (_ : Unit) => (Wd 153 (cfC ad cI cT cS) σ)) 0 0 := by
  refine Met.ofW (cc := cX7_writtenAt) (maxL := 2) (ret := (some .int)) (by decide) rfl ?_
  intro p e s m args below meth c s₁ B hml hv
  obtain ⟨rfl, hsz, hP, hK, hD0⟩ := hv
  have hx := B.exec
  have hb := B.bytes
  have hr := B.returns
  have hts := atoms_spec (ws := vc_X7_writtenAt) B.pre
  have hown : s.vm.findClass RX7 = some m.cls := findClass_of_methodNamed B.named
  have hlocks := B.notSynchronized
  subst hsz
  have hD := hD0.self (sz := s.heap.size)
  generalize hAe : va_A (Wd 153 (cfC ad cI cT cS) σ) s.heap.size = A at hD ⊢
  have hA : ∀ q : Nat, s.heap.size ≤ q → A q := fun q h => by rw [← hAe]; exact Or.inr h
  clear hAe hD0
  refine gstart (fun H locs hHe hLe => ?_)
  have hS : va_S A s.heap H locs := by rw [← hHe, ← hLe]; exact va_S.rf
  replace hP : va_P (dC, dI) vwCl (Wd 153 (cfC ad cI cT cS) σ) H := by rw [← hHe]; exact hP
  clear hHe hLe
  have hl := lv_entry ([.ref (ad 1), .int a1]) (n := 2) (Nat.le_of_ble_eq_true rfl)
  rw [lg_entry_eq]
  generalize (lg_sl ([.ref (ad 1), .int a1]) ++ List.replicate (2 - (lg_sl ([.ref (ad 1), .int a1])).length) Slot.unset).toArray = ls at hl ⊢
  replace hl : lv_has ls 2 [(0, .ref (ad 1)), (1, .int a1)] := hl
  unfold zf_X7_writtenAt at h
  have J19 : ∀ (w0_19 : Int32) (H : Heap) (locs : List Loc) (ls : Array Slot), zb_X7_writtenAt_19 w0_19 = some o → va_P (dC, dI) vwCl (Wd 153 (cfC ad cI cT cS) σ) H → va_D A (Wd 153 (cfC ad cI cT cS) σ) → va_S A s.heap H locs → lv_has ls 2 [] → W p l e (headSpec vc_X7_writtenAt { frames := 2, cells := 0, slots := 0, locals := 43 }).room s m (List.toArray (α := Value) [.ref (ad 1), .int a1]) below meth c H locs 0 0 (MQ below (va_Qi (fun (r : Int32) (_ : Unit) => r = o) (gB (dC, dI) A (fun (_ : Unit) => (Wd 153 (cfC ad cI cT cS) σ))) A) (List.toArray (α := Value) [.ref (ad 1), .int a1]) s 0 0 A) (F0 m 19 ls [.int w0_19]) := by
    intro w0_19 H locs ls h hP hD hS hl
    unfold zb_X7_writtenAt_19 at h
    have h9 := Option.some.inj h
    exact wreti hx hb hr hlocks hP hD hS (by show _ = _; rw [← h9]; first | done | rfl) rfl dX7_writtenAt_19
  refine lv_aload_n hx hb dX7_writtenAt_0 rfl (lv_at hl 0 rfl) ?_
  refine lv_iload_n hx hb dX7_writtenAt_1 rfl (lv_at hl 1 rfl) ?_
  obtain ⟨r1, hc1, h⟩ := obd_inv h
  refine wcalli (S := Unit) (va_runV (As := [.int a1]) (rest := []) ⟨hx, hb, hml, hown, hts⟩ (c_X4_writesX l dC dI cI cT cS H.size ad  a1 σ _ hc1) (cwV 1 hts (gWV (List.mem_of_getElem? (i := 1) rfl) (List.mem_of_getElem? (i := 2) rfl) (List.mem_of_getElem? (i := 3) rfl) (List.mem_of_getElem? (i := 4) rfl) ic_X7_writtenAt_c_X4_writesX gd_c_X4_writesX) rfl rfl rfl (by decide +kernel) ⟨(Nat.le_of_ble_eq_true rfl), (Nat.le_of_ble_eq_true rfl)⟩) (wpV (q := (RX4, TX4, 5)) hP hK hD oX4 rfl) rfl rfl hl.1 rfl (lv_room (Nat.le_of_ble_eq_true rfl)) dX7_writtenAt_2 ⟨(Nat.le_of_ble_eq_true rfl), (Nat.le_of_ble_eq_true rfl)⟩) hP hD hS hA (fun rr2 _ H locs hr2 hP hD hS => ?_)
  refine lv_nm (y := b2i r1) hr2 ?_
  refine lv_if_eq (tgt := 18) hx hb dX7_writtenAt_5 (by decide) (fun c3 => ?_) (fun c3 => ?_)
  · replace h := ifn (b2i_0 c3) h
    refine lv_iconst (v := 0) hx hb dX7_writtenAt_18 (by decide) ?_
    exact J19 (0 : Int32) H locs ls h hP hD hS (lv_sub (l' := []) hl [] rfl)
  · replace h := ifp (b2i_1 c3) h
    refine lv_iconst (v := 1) hx hb dX7_writtenAt_8 (by decide) ?_
    refine lv_aload_n hx hb dX7_writtenAt_9 rfl (lv_at hl 0 rfl) ?_
    refine lv_iload_n hx hb dX7_writtenAt_10 rfl (lv_at hl 1 rfl) ?_
    obtain ⟨r4, hc4, h⟩ := obd_inv h
    refine wcalli (S := Unit) (va_runV (As := [.int a1]) (rest := [.int (1 : Int32)]) ⟨hx, hb, hml, hown, hts⟩ (c_X4_x l dC dI cI cT cS H.size ad  a1 σ _ hc4) (cwV 1 hts (gWV (List.mem_of_getElem? (i := 5) rfl) (List.mem_of_getElem? (i := 6) rfl) (List.mem_of_getElem? (i := 7) rfl) (List.mem_of_getElem? (i := 4) rfl) ic_X7_writtenAt_c_X4_x gd_c_X4_x) rfl rfl rfl (by decide +kernel) ⟨(Nat.le_of_ble_eq_true rfl), (Nat.le_of_ble_eq_true rfl)⟩) (wpV (q := (RX4, TX4, 5)) hP hK hD oX4 rfl) rfl rfl hl.1 rfl (lv_room (Nat.le_of_ble_eq_true rfl)) dX7_writtenAt_11 ⟨(Nat.le_of_ble_eq_true rfl), (Nat.le_of_ble_eq_true rfl)⟩) hP hD hS hA (fun rr5 _ H locs hr5 hP hD hS => ?_)
    refine lv_nm (y := r4) hr5 ?_
    refine lv_ishl hx hb dX7_writtenAt_14 ?_
    refine lv_goto (tgt := 19) hx hb dX7_writtenAt_15 (by decide) ?_
    exact J19 ((1 : Int32) <<< (r4 &&& 31)) H locs ls h hP hD hS (lv_sub (l' := []) hl [] rfl)
def zl_X7_writtenAhead_5 (k1 : Nat) (a2 : Int32) (σ : Sg) (x5 : Int32 × Int32) : Option (Bool × (Int32 × Int32)) := (if a2 ≤ x5.1 then some (false, (x5.1, x5.2)) else (if (σ k1 10) ≤ x5.1 then some (false, (x5.1, x5.2)) else bd x5.1 16 (obd (zf_X7_writtenAt (σ (k1 + 1) x5.1.toNatClampNeg) σ) (fun r4 => letb (x5.2 ||| r4) (fun e6 => some (true, ((x5.1 + (1 : Int32)), e6)))))))
def zf_X7_writtenAhead (k1 : Nat) (a2 : Int32) (σ : Sg) : Option (Int32) := obd (lp (X := Int32 × Int32) (zl_X7_writtenAhead_5 k1 a2 σ) 1000 ((0 : Int32), (0 : Int32))) (fun y5 => some y5.2)
def oc_X7_writtenAhead : List Cond := [.fieldLink RX7 9 "TraceTrees$Trace" "size" "I", .fieldLink RX7 15 "TraceTrees$Trace" "point" "[I", .methodLink RX7 19 yX7_writtenAt, .static yX7_writtenAt, .initialized RX7]
def vc_X7_writtenAhead : List Cond := .code yX7_writtenAhead cX7_writtenAhead 5 (some .int) :: (oc_X7_writtenAhead ++ (wsX80 ++ (vc_X7_writtenAt)))
theorem iw_X7_writtenAhead_X8 : ∀ w ∈ wsX80, w ∈ vc_X7_writtenAhead := fun _ h => List.mem_cons_of_mem _ (List.mem_append_right _ (List.mem_append_left _ h))
theorem ic_X7_writtenAhead_c_X7_writtenAt : ∀ w ∈ vc_X7_writtenAt, w ∈ vc_X7_writtenAhead := fun _ h => List.mem_cons_of_mem _ (List.mem_append_right _ (List.mem_append_right _ (h)))
theorem gd_c_X7_writtenAhead : (vc_X7_writtenAhead).all goodWord = true := gall_cons rfl (gall_app (by decide +kernel) (gall_app gw_X8 gd_c_X7_writtenAt))
set_option maxHeartbeats 4000000 in
set_option maxRecDepth 100000 in
theorem c_X7_writtenAhead (l : Launch) (dC : Nat → ClassId) (dI : Nat → Nat → Nat) (cI cT cS : ClassId) (sz : Nat) (ad : Nat → Nat) (k1 : Nat) (hk1 : isTr k1) (a2 : Int32) (σ : Sg) (o : Int32) (h : zf_X7_writtenAhead k1 a2 σ = some o) : gCI (S := Unit) l yX7_writtenAhead vc_X7_writtenAhead { frames := 3, cells := 0, slots := 0, locals := 64 } (dC, dI) (gTY cI cT cS) sz [.ref (ad 1), .ref (ad k1), .int a2] (Wd 153 (cfC ad cI cT cS) σ) (fun (r : Int32) (_ : Unit) => r = o) (fun (_ : Unit) => (Wd 153 (cfC ad cI cT cS) σ)) 0 0 := by
  refine Met.ofW (cc := cX7_writtenAhead) (maxL := 5) (ret := (some .int)) (by decide) rfl ?_
  intro p e s m args below meth c s₁ B hml hv
  obtain ⟨rfl, hsz, hP, hK, hD0⟩ := hv
  have hx := B.exec
  have hb := B.bytes
  have hr := B.returns
  have hts := atoms_spec (ws := vc_X7_writtenAhead) B.pre
  have hown : s.vm.findClass RX7 = some m.cls := findClass_of_methodNamed B.named
  have hlocks := B.notSynchronized
  subst hsz
  have hD := hD0.self (sz := s.heap.size)
  generalize hAe : va_A (Wd 153 (cfC ad cI cT cS) σ) s.heap.size = A at hD ⊢
  have hA : ∀ q : Nat, s.heap.size ≤ q → A q := fun q h => by rw [← hAe]; exact Or.inr h
  clear hAe hD0
  refine gstart (fun H locs hHe hLe => ?_)
  have hS : va_S A s.heap H locs := by rw [← hHe, ← hLe]; exact va_S.rf
  replace hP : va_P (dC, dI) vwCl (Wd 153 (cfC ad cI cT cS) σ) H := by rw [← hHe]; exact hP
  clear hHe hLe
  have hl := lv_entry ([.ref (ad 1), .ref (ad k1), .int a2]) (n := 5) (Nat.le_of_ble_eq_true rfl)
  rw [lg_entry_eq]
  generalize (lg_sl ([.ref (ad 1), .ref (ad k1), .int a2]) ++ List.replicate (5 - (lg_sl ([.ref (ad 1), .ref (ad k1), .int a2])).length) Slot.unset).toArray = ls at hl ⊢
  replace hl : lv_has ls 5 [(0, .ref (ad 1)), (1, .ref (ad k1)), (2, .int a2)] := hl
  unfold zf_X7_writtenAhead at h
  refine lv_iconst (v := 0) hx hb dX7_writtenAhead_0 (by decide) ?_
  refine lv_istore_n (lv' := [(3, .int (0 : Int32)), (0, .ref (ad 1)), (1, .ref (ad k1)), (2, .int a2)]) hx hb dX7_writtenAhead_1 rfl hl (by decide) rfl (fun ls hl => ?_)
  refine lv_iconst (v := 0) hx hb dX7_writtenAhead_2 (by decide) ?_
  refine lv_istore (lv' := [(4, .int (0 : Int32)), (3, .int (0 : Int32)), (0, .ref (ad 1)), (1, .ref (ad k1)), (2, .int a2)]) hx hb dX7_writtenAhead_3 hl (by decide) rfl (fun ls hl => ?_)
  obtain ⟨y5, hlp5, h⟩ := obd_inv h
  refine lp_W (fun x5 : Int32 × Int32 => ∀ (H : Heap) (locs : List Loc) (ls : Array Slot), va_P (dC, dI) vwCl (Wd 153 (cfC ad cI cT cS) σ) H → va_D A (Wd 153 (cfC ad cI cT cS) σ) → va_S A s.heap H locs → lv_has ls 5 [(4, .int x5.1), (3, .int x5.2), (0, .ref (ad 1)), (1, .ref (ad k1)), (2, .int a2)] → W p l e (headSpec vc_X7_writtenAhead { frames := 3, cells := 0, slots := 0, locals := 64 }).room s m (List.toArray (α := Value) [.ref (ad 1), .ref (ad k1), .int a2]) below meth c H locs 0 0 (MQ below (va_Qi (fun (r : Int32) (_ : Unit) => r = o) (gB (dC, dI) A (fun (_ : Unit) => (Wd 153 (cfC ad cI cT cS) σ))) A) (List.toArray (α := Value) [.ref (ad 1), .ref (ad k1), .int a2]) s 0 0 A) (F0 m 5 ls [])) (fun y5 : Int32 × Int32 => ∀ (H : Heap) (locs : List Loc) (ls : Array Slot), va_P (dC, dI) vwCl (Wd 153 (cfC ad cI cT cS) σ) H → va_D A (Wd 153 (cfC ad cI cT cS) σ) → va_S A s.heap H locs → lv_has ls 5 [(3, .int y5.2)] → W p l e (headSpec vc_X7_writtenAhead { frames := 3, cells := 0, slots := 0, locals := 64 }).room s m (List.toArray (α := Value) [.ref (ad 1), .ref (ad k1), .int a2]) below meth c H locs 0 0 (MQ below (va_Qi (fun (r : Int32) (_ : Unit) => r = o) (gB (dC, dI) A (fun (_ : Unit) => (Wd 153 (cfC ad cI cT cS) σ))) A) (List.toArray (α := Value) [.ref (ad 1), .ref (ad k1), .int a2]) s 0 0 A) (F0 m 40 ls [])) ?_ 1000 ((0 : Int32), (0 : Int32)) y5 hlp5 ?_ H locs ls hP hD hS (lv_sub (l' := [(4, .int (0 : Int32)), (3, .int (0 : Int32)), (0, .ref (ad 1)), (1, .ref (ad k1)), (2, .int a2)]) hl [0, 1, 2, 3, 4] rfl)
  · intro x5 yy5 h ht5 hf5 H locs ls hP hD hS hl
    unfold zl_X7_writtenAhead_5 at h
    refine lv_iload hx hb dX7_writtenAhead_5 (lv_at hl 0 rfl) ?_
    refine lv_iload_n hx hb dX7_writtenAhead_7 rfl (lv_at hl 4 rfl) ?_
    refine lv_icmp_ge (tgt := 40) hx hb dX7_writtenAhead_8 (by decide) (fun c1 => ?_) (fun c1 => ?_)
    · replace h := ifp (c1) h
      obtain rfl := Option.some.inj h
      exact hf5 rfl H locs ls hP hD hS (lv_sub (l' := [(3, .int x5.2)]) hl [1] rfl)
    · replace h := ifn (c1) h
      refine lv_iload hx hb dX7_writtenAhead_11 (lv_at hl 0 rfl) ?_
      refine lv_aload_n hx hb dX7_writtenAhead_13 rfl (lv_at hl 3 rfl) ?_
      refine gf_X8_10 hk1 hx hb hts iw_X7_writtenAhead_X8 hown hK hP (hts (.fieldLink RX7 9 "TraceTrees$Trace" "size" "I") (List.mem_of_getElem? (i := 1) rfl)) dX7_writtenAhead_14 ?_
      refine lv_icmp_ge (tgt := 40) hx hb dX7_writtenAhead_17 (by decide) (fun c2 => ?_) (fun c2 => ?_)
      · replace h := ifp (c2) h
        obtain rfl := Option.some.inj h
        exact hf5 rfl H locs ls hP hD hS (lv_sub (l' := [(3, .int x5.2)]) hl [1] rfl)
      · replace h := ifn (c2) h
        refine lv_iload_n hx hb dX7_writtenAhead_20 rfl (lv_at hl 1 rfl) ?_
        refine lv_aload_n hx hb dX7_writtenAhead_21 rfl (lv_at hl 2 rfl) ?_
        refine lv_aload_n hx hb dX7_writtenAhead_22 rfl (lv_at hl 3 rfl) ?_
        refine gf_X8_1 hk1 hx hb hts iw_X7_writtenAhead_X8 hown hK hP (hts (.fieldLink RX7 15 "TraceTrees$Trace" "point" "[I") (List.mem_of_getElem? (i := 2) rfl)) dX7_writtenAhead_23 ?_
        refine lv_iload hx hb dX7_writtenAhead_26 (lv_at hl 0 rfl) ?_
        obtain ⟨hi3, h⟩ := bd_inv h
        refine wald hx hb hK hP (aT1 hk1) hi3 dX7_writtenAhead_28 ?_
        obtain ⟨r4, hc4, h⟩ := obd_inv h
        refine wcalli (S := Unit) (va_runS (As := [.ref (ad 1), .int (σ (k1 + 1) x5.1.toNatClampNeg)]) (rest := [.int x5.2]) ⟨hx, hb, hml, hown, hts⟩ (c_X7_writtenAt l dC dI cI cT cS H.size ad  (σ (k1 + 1) x5.1.toNatClampNeg) σ _ hc4) (va_cwS 2 hts (gWS (List.mem_of_getElem? (i := 3) rfl) (List.mem_of_getElem? (i := 4) rfl) (List.mem_of_getElem? (i := 5) rfl) ic_X7_writtenAhead_c_X7_writtenAt gd_c_X7_writtenAt) rfl rfl rfl (by decide +kernel) ⟨(Nat.le_of_ble_eq_true rfl), (Nat.le_of_ble_eq_true rfl)⟩) (gpS hP hK hD) rfl rfl hl.1 rfl (lv_room (Nat.le_of_ble_eq_true rfl)) dX7_writtenAhead_29 ⟨(Nat.le_of_ble_eq_true rfl), (Nat.le_of_ble_eq_true rfl)⟩) hP hD hS hA (fun rr5 _ H locs hr5 hP hD hS => ?_)
        refine lv_nm (y := r4) hr5 ?_
        refine lv_ior hx hb dX7_writtenAhead_32 ?_
        obtain ⟨e6, he6, h⟩ := letb_inv h
        refine lv_nm he6 ?_
        refine lv_istore_n (lv' := [(3, .int e6), (4, .int x5.1), (0, .ref (ad 1)), (1, .ref (ad k1)), (2, .int a2)]) hx hb dX7_writtenAhead_33 rfl hl (by decide) rfl (fun ls hl => ?_)
        refine lv_iinc (v := (x5.1 + (1 : Int32))) (lv' := [(4, .int (x5.1 + (1 : Int32))), (3, .int e6), (0, .ref (ad 1)), (1, .ref (ad k1)), (2, .int a2)]) hx hb dX7_writtenAhead_34 hl (k := 1) rfl rfl (by decide) rfl (fun ls hl => ?_)
        refine lv_goto (tgt := 5) hx hb dX7_writtenAhead_37 (by decide) ?_
        obtain rfl := Option.some.inj h
        exact ht5 rfl H locs ls hP hD hS (lv_sub (l' := [(4, .int (x5.1 + (1 : Int32))), (3, .int e6), (0, .ref (ad 1)), (1, .ref (ad k1)), (2, .int a2)]) hl [0, 1, 2, 3, 4] rfl)
  · intro H locs ls hP hD hS hl
    refine lv_iload_n hx hb dX7_writtenAhead_40 rfl (lv_at hl 0 rfl) ?_
    have h9 := Option.some.inj h
    exact wreti hx hb hr hlocks hP hD hS (by show _ = _; rw [← h9]; first | done | rfl) rfl dX7_writtenAhead_41
def zb_X7_readAt_39 (v2_39 : Int32) (w0_39 : Int32) : Option (Int32) := some (v2_39 ||| w0_39)
def zb_X7_readAt_19 (a1 : Int32) (σ : Sg) (w0_19 : Int32) : Option (Int32) := obd (zf_X4_readsZ a1 σ) (fun r6 => (if r6 = true then obd (zf_X4_z a1 σ) (fun r9 => (zb_X7_readAt_39 w0_19 ((1 : Int32) <<< (r9 &&& 31)))) else (zb_X7_readAt_39 w0_19 (0 : Int32))))
def zf_X7_readAt (a1 : Int32) (σ : Sg) : Option (Int32) := obd (zf_X4_readsY a1 σ) (fun r1 => (if r1 = true then obd (zf_X4_y a1 σ) (fun r4 => (zb_X7_readAt_19 a1 σ ((1 : Int32) <<< (r4 &&& 31)))) else (zb_X7_readAt_19 a1 σ (0 : Int32))))
def oc_X7_readAt : List Cond := [.methodLink RX7 43 yX4_readsY, .instanceMethod yX4_readsY, .selects RX4 yX4_readsY yX4_readsY, .initialized RX4, .methodLink RX7 47 yX4_y, .instanceMethod yX4_y, .selects RX4 yX4_y yX4_y, .methodLink RX7 50 yX4_readsZ, .instanceMethod yX4_readsZ, .selects RX4 yX4_readsZ yX4_readsZ, .methodLink RX7 53 yX4_z, .instanceMethod yX4_z, .selects RX4 yX4_z yX4_z]
def vc_X7_readAt : List Cond := .code yX7_readAt cX7_readAt 4 (some .int) :: (oc_X7_readAt ++ (vc_X4_readsY ++ (vc_X4_y ++ (vc_X4_readsZ ++ (vc_X4_z)))))
theorem ic_X7_readAt_c_X4_readsY : ∀ w ∈ vc_X4_readsY, w ∈ vc_X7_readAt := fun _ h => List.mem_cons_of_mem _ (List.mem_append_right _ (List.mem_append_left _ h))
theorem ic_X7_readAt_c_X4_y : ∀ w ∈ vc_X4_y, w ∈ vc_X7_readAt := fun _ h => List.mem_cons_of_mem _ (List.mem_append_right _ (List.mem_append_right _ (List.mem_append_left _ h)))
theorem ic_X7_readAt_c_X4_readsZ : ∀ w ∈ vc_X4_readsZ, w ∈ vc_X7_readAt := fun _ h => List.mem_cons_of_mem _ (List.mem_append_right _ (List.mem_append_right _ (List.mem_append_right _ (List.mem_append_left _ h))))
theorem ic_X7_readAt_c_X4_z : ∀ w ∈ vc_X4_z, w ∈ vc_X7_readAt := fun _ h => List.mem_cons_of_mem _ (List.mem_append_right _ (List.mem_append_right _ (List.mem_append_right _ (List.mem_append_right _ (h)))))
theorem gd_c_X7_readAt : (vc_X7_readAt).all goodWord = true := gall_cons rfl (gall_app (by decide +kernel) (gall_app gd_c_X4_readsY (gall_app gd_c_X4_y (gall_app gd_c_X4_readsZ gd_c_X4_z))))
set_option maxHeartbeats 4000000 in
set_option maxRecDepth 100000 in
theorem c_X7_readAt (l : Launch) (dC : Nat → ClassId) (dI : Nat → Nat → Nat) (cI cT cS : ClassId) (sz : Nat) (ad : Nat → Nat) (a1 : Int32) (σ : Sg) (o : Int32) (h : zf_X7_readAt a1 σ = some o) : gCI (S := Unit) l yX7_readAt vc_X7_readAt { frames := 2, cells := 0, slots := 0, locals := 43 } (dC, dI) (gTY cI cT cS) sz [.ref (ad 1), .int a1] (Wd 153 (cfC ad cI cT cS) σ) (fun (r : Int32) (_ : Unit) => r = o) (fun (_ : Unit) => (Wd 153 (cfC ad cI cT cS) σ)) 0 0 := by
  refine Met.ofW (cc := cX7_readAt) (maxL := 4) (ret := (some .int)) (by decide) rfl ?_
  intro p e s m args below meth c s₁ B hml hv
  obtain ⟨rfl, hsz, hP, hK, hD0⟩ := hv
  have hx := B.exec
  have hb := B.bytes
  have hr := B.returns
  have hts := atoms_spec (ws := vc_X7_readAt) B.pre
  have hown : s.vm.findClass RX7 = some m.cls := findClass_of_methodNamed B.named
  have hlocks := B.notSynchronized
  subst hsz
  have hD := hD0.self (sz := s.heap.size)
  generalize hAe : va_A (Wd 153 (cfC ad cI cT cS) σ) s.heap.size = A at hD ⊢
  have hA : ∀ q : Nat, s.heap.size ≤ q → A q := fun q h => by rw [← hAe]; exact Or.inr h
  clear hAe hD0
  refine gstart (fun H locs hHe hLe => ?_)
  have hS : va_S A s.heap H locs := by rw [← hHe, ← hLe]; exact va_S.rf
  replace hP : va_P (dC, dI) vwCl (Wd 153 (cfC ad cI cT cS) σ) H := by rw [← hHe]; exact hP
  clear hHe hLe
  have hl := lv_entry ([.ref (ad 1), .int a1]) (n := 4) (Nat.le_of_ble_eq_true rfl)
  rw [lg_entry_eq]
  generalize (lg_sl ([.ref (ad 1), .int a1]) ++ List.replicate (4 - (lg_sl ([.ref (ad 1), .int a1])).length) Slot.unset).toArray = ls at hl ⊢
  replace hl : lv_has ls 4 [(0, .ref (ad 1)), (1, .int a1)] := hl
  unfold zf_X7_readAt at h
  have J39 : ∀ (v2_39 : Int32) (w0_39 : Int32) (H : Heap) (locs : List Loc) (ls : Array Slot), zb_X7_readAt_39 v2_39 w0_39 = some o → va_P (dC, dI) vwCl (Wd 153 (cfC ad cI cT cS) σ) H → va_D A (Wd 153 (cfC ad cI cT cS) σ) → va_S A s.heap H locs → lv_has ls 4 [(2, .int v2_39)] → W p l e (headSpec vc_X7_readAt { frames := 2, cells := 0, slots := 0, locals := 43 }).room s m (List.toArray (α := Value) [.ref (ad 1), .int a1]) below meth c H locs 0 0 (MQ below (va_Qi (fun (r : Int32) (_ : Unit) => r = o) (gB (dC, dI) A (fun (_ : Unit) => (Wd 153 (cfC ad cI cT cS) σ))) A) (List.toArray (α := Value) [.ref (ad 1), .int a1]) s 0 0 A) (F0 m 39 ls [.int w0_39]) := by
    intro v2_39 w0_39 H locs ls h hP hD hS hl
    unfold zb_X7_readAt_39 at h
    refine lv_istore_n (lv' := [(3, .int w0_39), (2, .int v2_39)]) hx hb dX7_readAt_39 rfl hl (by decide) rfl (fun ls hl => ?_)
    refine lv_iload_n hx hb dX7_readAt_40 rfl (lv_at hl 1 rfl) ?_
    refine lv_iload_n hx hb dX7_readAt_41 rfl (lv_at hl 0 rfl) ?_
    refine lv_ior hx hb dX7_readAt_42 ?_
    have h9 := Option.some.inj h
    exact wreti hx hb hr hlocks hP hD hS (by show _ = _; rw [← h9]; first | done | rfl) rfl dX7_readAt_43
  have J19 : ∀ (w0_19 : Int32) (H : Heap) (locs : List Loc) (ls : Array Slot), zb_X7_readAt_19 a1 σ w0_19 = some o → va_P (dC, dI) vwCl (Wd 153 (cfC ad cI cT cS) σ) H → va_D A (Wd 153 (cfC ad cI cT cS) σ) → va_S A s.heap H locs → lv_has ls 4 [(0, .ref (ad 1)), (1, .int a1)] → W p l e (headSpec vc_X7_readAt { frames := 2, cells := 0, slots := 0, locals := 43 }).room s m (List.toArray (α := Value) [.ref (ad 1), .int a1]) below meth c H locs 0 0 (MQ below (va_Qi (fun (r : Int32) (_ : Unit) => r = o) (gB (dC, dI) A (fun (_ : Unit) => (Wd 153 (cfC ad cI cT cS) σ))) A) (List.toArray (α := Value) [.ref (ad 1), .int a1]) s 0 0 A) (F0 m 19 ls [.int w0_19]) := by
    intro w0_19 H locs ls h hP hD hS hl
    unfold zb_X7_readAt_19 at h
    refine lv_istore_n (lv' := [(2, .int w0_19), (0, .ref (ad 1)), (1, .int a1)]) hx hb dX7_readAt_19 rfl hl (by decide) rfl (fun ls hl => ?_)
    refine lv_aload_n hx hb dX7_readAt_20 rfl (lv_at hl 1 rfl) ?_
    refine lv_iload_n hx hb dX7_readAt_21 rfl (lv_at hl 2 rfl) ?_
    obtain ⟨r6, hc6, h⟩ := obd_inv h
    refine wcalli (S := Unit) (va_runV (As := [.int a1]) (rest := []) ⟨hx, hb, hml, hown, hts⟩ (c_X4_readsZ l dC dI cI cT cS H.size ad  a1 σ _ hc6) (cwV 1 hts (gWV (List.mem_of_getElem? (i := 8) rfl) (List.mem_of_getElem? (i := 9) rfl) (List.mem_of_getElem? (i := 10) rfl) (List.mem_of_getElem? (i := 4) rfl) ic_X7_readAt_c_X4_readsZ gd_c_X4_readsZ) rfl rfl rfl (by decide +kernel) ⟨(Nat.le_of_ble_eq_true rfl), (Nat.le_of_ble_eq_true rfl)⟩) (wpV (q := (RX4, TX4, 5)) hP hK hD oX4 rfl) rfl rfl hl.1 rfl (lv_room (Nat.le_of_ble_eq_true rfl)) dX7_readAt_22 ⟨(Nat.le_of_ble_eq_true rfl), (Nat.le_of_ble_eq_true rfl)⟩) hP hD hS hA (fun rr7 _ H locs hr7 hP hD hS => ?_)
    refine lv_nm (y := b2i r6) hr7 ?_
    refine lv_if_eq (tgt := 38) hx hb dX7_readAt_25 (by decide) (fun c8 => ?_) (fun c8 => ?_)
    · replace h := ifn (b2i_0 c8) h
      refine lv_iconst (v := 0) hx hb dX7_readAt_38 (by decide) ?_
      exact J39 w0_19 (0 : Int32) H locs ls h hP hD hS (lv_sub (l' := [(2, .int w0_19)]) hl [0] rfl)
    · replace h := ifp (b2i_1 c8) h
      refine lv_iconst (v := 1) hx hb dX7_readAt_28 (by decide) ?_
      refine lv_aload_n hx hb dX7_readAt_29 rfl (lv_at hl 1 rfl) ?_
      refine lv_iload_n hx hb dX7_readAt_30 rfl (lv_at hl 2 rfl) ?_
      obtain ⟨r9, hc9, h⟩ := obd_inv h
      refine wcalli (S := Unit) (va_runV (As := [.int a1]) (rest := [.int (1 : Int32)]) ⟨hx, hb, hml, hown, hts⟩ (c_X4_z l dC dI cI cT cS H.size ad  a1 σ _ hc9) (cwV 1 hts (gWV (List.mem_of_getElem? (i := 11) rfl) (List.mem_of_getElem? (i := 12) rfl) (List.mem_of_getElem? (i := 13) rfl) (List.mem_of_getElem? (i := 4) rfl) ic_X7_readAt_c_X4_z gd_c_X4_z) rfl rfl rfl (by decide +kernel) ⟨(Nat.le_of_ble_eq_true rfl), (Nat.le_of_ble_eq_true rfl)⟩) (wpV (q := (RX4, TX4, 5)) hP hK hD oX4 rfl) rfl rfl hl.1 rfl (lv_room (Nat.le_of_ble_eq_true rfl)) dX7_readAt_31 ⟨(Nat.le_of_ble_eq_true rfl), (Nat.le_of_ble_eq_true rfl)⟩) hP hD hS hA (fun rr10 _ H locs hr10 hP hD hS => ?_)
      refine lv_nm (y := r9) hr10 ?_
      refine lv_ishl hx hb dX7_readAt_34 ?_
      refine lv_goto (tgt := 39) hx hb dX7_readAt_35 (by decide) ?_
      exact J39 w0_19 ((1 : Int32) <<< (r9 &&& 31)) H locs ls h hP hD hS (lv_sub (l' := [(2, .int w0_19)]) hl [0] rfl)
  refine lv_aload_n hx hb dX7_readAt_0 rfl (lv_at hl 0 rfl) ?_
  refine lv_iload_n hx hb dX7_readAt_1 rfl (lv_at hl 1 rfl) ?_
  obtain ⟨r1, hc1, h⟩ := obd_inv h
  refine wcalli (S := Unit) (va_runV (As := [.int a1]) (rest := []) ⟨hx, hb, hml, hown, hts⟩ (c_X4_readsY l dC dI cI cT cS H.size ad  a1 σ _ hc1) (cwV 1 hts (gWV (List.mem_of_getElem? (i := 1) rfl) (List.mem_of_getElem? (i := 2) rfl) (List.mem_of_getElem? (i := 3) rfl) (List.mem_of_getElem? (i := 4) rfl) ic_X7_readAt_c_X4_readsY gd_c_X4_readsY) rfl rfl rfl (by decide +kernel) ⟨(Nat.le_of_ble_eq_true rfl), (Nat.le_of_ble_eq_true rfl)⟩) (wpV (q := (RX4, TX4, 5)) hP hK hD oX4 rfl) rfl rfl hl.1 rfl (lv_room (Nat.le_of_ble_eq_true rfl)) dX7_readAt_2 ⟨(Nat.le_of_ble_eq_true rfl), (Nat.le_of_ble_eq_true rfl)⟩) hP hD hS hA (fun rr2 _ H locs hr2 hP hD hS => ?_)
  refine lv_nm (y := b2i r1) hr2 ?_
  refine lv_if_eq (tgt := 18) hx hb dX7_readAt_5 (by decide) (fun c3 => ?_) (fun c3 => ?_)
  · replace h := ifn (b2i_0 c3) h
    refine lv_iconst (v := 0) hx hb dX7_readAt_18 (by decide) ?_
    exact J19 (0 : Int32) H locs ls h hP hD hS (lv_sub (l' := [(0, .ref (ad 1)), (1, .int a1)]) hl [0, 1] rfl)
  · replace h := ifp (b2i_1 c3) h
    refine lv_iconst (v := 1) hx hb dX7_readAt_8 (by decide) ?_
    refine lv_aload_n hx hb dX7_readAt_9 rfl (lv_at hl 0 rfl) ?_
    refine lv_iload_n hx hb dX7_readAt_10 rfl (lv_at hl 1 rfl) ?_
    obtain ⟨r4, hc4, h⟩ := obd_inv h
    refine wcalli (S := Unit) (va_runV (As := [.int a1]) (rest := [.int (1 : Int32)]) ⟨hx, hb, hml, hown, hts⟩ (c_X4_y l dC dI cI cT cS H.size ad  a1 σ _ hc4) (cwV 1 hts (gWV (List.mem_of_getElem? (i := 5) rfl) (List.mem_of_getElem? (i := 6) rfl) (List.mem_of_getElem? (i := 7) rfl) (List.mem_of_getElem? (i := 4) rfl) ic_X7_readAt_c_X4_y gd_c_X4_y) rfl rfl rfl (by decide +kernel) ⟨(Nat.le_of_ble_eq_true rfl), (Nat.le_of_ble_eq_true rfl)⟩) (wpV (q := (RX4, TX4, 5)) hP hK hD oX4 rfl) rfl rfl hl.1 rfl (lv_room (Nat.le_of_ble_eq_true rfl)) dX7_readAt_11 ⟨(Nat.le_of_ble_eq_true rfl), (Nat.le_of_ble_eq_true rfl)⟩) hP hD hS hA (fun rr5 _ H locs hr5 hP hD hS => ?_)
    refine lv_nm (y := r4) hr5 ?_
    refine lv_ishl hx hb dX7_readAt_14 ?_
    refine lv_goto (tgt := 19) hx hb dX7_readAt_15 (by decide) ?_
    exact J19 ((1 : Int32) <<< (r4 &&& 31)) H locs ls h hP hD hS (lv_sub (l' := [(0, .ref (ad 1)), (1, .int a1)]) hl [0, 1] rfl)
def zb_X7_checksOf_107 (σ : Sg) (x25 : Int32 × Int32 × Int32 × Int32 × Int32) (v10_107 : Int32) (v9_107 : Int32) (v7_107 : Int32) (v6_107 : Int32) (v5_107 : Int32) : Option (Bool × (Int32 × Int32 × Int32 × Int32 × Int32)) := obd (zf_X7_writtenAt v9_107 σ) (fun r16 => letb (x25.2.2.2.2 ||| (v10_107 ||| r16)) (fun e18 => some (true, ((x25.1 + (1 : Int32)), v7_107, v6_107, v5_107, e18))))
def zl_X7_checksOf_25 (k1 : Nat) (σ : Sg) (r1 : Int32) (x25 : Int32 × Int32 × Int32 × Int32 × Int32) : Option (Bool × (Int32 × Int32 × Int32 × Int32 × Int32)) := (if (σ k1 10) ≤ x25.1 then some (false, (x25.1, x25.2.1, x25.2.2.1, x25.2.2.2.1, x25.2.2.2.2)) else bd x25.1 16 (letb (σ (k1 + 1) x25.1.toNatClampNeg) (fun e5 => obd (zf_X7_readAt e5 σ) (fun r6 => bd e5 24 ((if (σ 2 e5.toNatClampNeg) = (8 : Int32) then (zb_X7_checksOf_107 σ x25 r6 e5 x25.2.1 x25.2.2.1 x25.2.2.2.1) else letb (x25.2.2.2.1 + (zf_J6_bitCount_0f7a4 r6)) (fun e11 => letb (x25.2.2.1 + (zf_J6_bitCount_0f7a4 (r6 &&& (x25.2.2.2.2 ^^^ (-1 : Int32))))) (fun e13 => letb (x25.2.1 + (zf_J6_bitCount_0f7a4 ((r6 &&& (x25.2.2.2.2 ^^^ (-1 : Int32))) &&& (r1 ^^^ (-1 : Int32))))) (fun e15 => (zb_X7_checksOf_107 σ x25 r6 e5 e15 e13 e11))))))))))
def zf_X7_checksOf (k1 : Nat) (a2 : Int32) (σ : Sg) : Option (Int32) := obd (zf_X7_writtenAhead k1 (σ k1 10) σ) (fun r1 => obd (lp (X := Int32 × Int32 × Int32 × Int32 × Int32) (zl_X7_checksOf_25 k1 σ r1) 1000 ((0 : Int32), (0 : Int32), (0 : Int32), (0 : Int32), (0 : Int32))) (fun y25 => (if a2 = 0 then some y25.2.2.2.1 else (if a2 = 1 then some y25.2.2.1 else (if a2 = 2 then some y25.2.1 else some (-2 : Int32))))))
def oc_X7_checksOf : List Cond := [.fieldLink RX7 9 "TraceTrees$Trace" "size" "I", .methodLink RX7 25 yX7_writtenAhead, .static yX7_writtenAhead, .initialized RX7, .fieldLink RX7 15 "TraceTrees$Trace" "point" "[I", .methodLink RX7 29 yX7_readAt, .static yX7_readAt, .fieldLink RX7 32 "TraceTrees$Program" "kind" "[I", .methodLink RX7 37 yJ6_bitCount_0f7a4, .static yJ6_bitCount_0f7a4, .initialized RJ6, .methodLink RX7 19 yX7_writtenAt, .static yX7_writtenAt]
def vc_X7_checksOf : List Cond := .code yX7_checksOf cX7_checksOf 11 (some .int) :: (oc_X7_checksOf ++ (wsX80 ++ (wsX40 ++ (vc_X7_writtenAhead ++ (vc_X7_readAt ++ (vc_J6_bitCount_0f7a4 ++ (vc_X7_writtenAt)))))))
theorem iw_X7_checksOf_X8 : ∀ w ∈ wsX80, w ∈ vc_X7_checksOf := fun _ h => List.mem_cons_of_mem _ (List.mem_append_right _ (List.mem_append_left _ h))
theorem iw_X7_checksOf_X4 : ∀ w ∈ wsX40, w ∈ vc_X7_checksOf := fun _ h => List.mem_cons_of_mem _ (List.mem_append_right _ (List.mem_append_right _ (List.mem_append_left _ h)))
theorem ic_X7_checksOf_c_X7_writtenAhead : ∀ w ∈ vc_X7_writtenAhead, w ∈ vc_X7_checksOf := fun _ h => List.mem_cons_of_mem _ (List.mem_append_right _ (List.mem_append_right _ (List.mem_append_right _ (List.mem_append_left _ h))))
theorem ic_X7_checksOf_c_X7_readAt : ∀ w ∈ vc_X7_readAt, w ∈ vc_X7_checksOf := fun _ h => List.mem_cons_of_mem _ (List.mem_append_right _ (List.mem_append_right _ (List.mem_append_right _ (List.mem_append_right _ (List.mem_append_left _ h)))))
theorem ic_X7_checksOf_c_J6_bitCount_0f7a4 : ∀ w ∈ vc_J6_bitCount_0f7a4, w ∈ vc_X7_checksOf := fun _ h => List.mem_cons_of_mem _ (List.mem_append_right _ (List.mem_append_right _ (List.mem_append_right _ (List.mem_append_right _ (List.mem_append_right _ (List.mem_append_left _ h))))))
theorem ic_X7_checksOf_c_X7_writtenAt : ∀ w ∈ vc_X7_writtenAt, w ∈ vc_X7_checksOf := fun _ h => List.mem_cons_of_mem _ (List.mem_append_right _ (List.mem_append_right _ (List.mem_append_right _ (List.mem_append_right _ (List.mem_append_right _ (List.mem_append_right _ (h)))))))
theorem gd_c_X7_checksOf : (vc_X7_checksOf).all goodWord = true := gall_cons rfl (gall_app (by decide +kernel) (gall_app gw_X8 (gall_app gw_X4 (gall_app gd_c_X7_writtenAhead (gall_app gd_c_X7_readAt (gall_app gd_c_J6_bitCount_0f7a4 gd_c_X7_writtenAt))))))
set_option maxHeartbeats 4000000 in
set_option maxRecDepth 100000 in
theorem c_X7_checksOf (l : Launch) (dC : Nat → ClassId) (dI : Nat → Nat → Nat) (cI cT cS : ClassId) (sz : Nat) (ad : Nat → Nat) (k1 : Nat) (hk1 : isTr k1) (a2 : Int32) (σ : Sg) (o : Int32) (h : zf_X7_checksOf k1 a2 σ = some o) : gCI (S := Unit) l yX7_checksOf vc_X7_checksOf { frames := 4, cells := 0, slots := 0, locals := 88 } (dC, dI) (gTY cI cT cS) sz [.ref (ad 1), .ref (ad k1), .int a2] (Wd 153 (cfC ad cI cT cS) σ) (fun (r : Int32) (_ : Unit) => r = o) (fun (_ : Unit) => (Wd 153 (cfC ad cI cT cS) σ)) 0 0 := by
  refine Met.ofW (cc := cX7_checksOf) (maxL := 11) (ret := (some .int)) (by decide) rfl ?_
  intro p e s m args below meth c s₁ B hml hv
  obtain ⟨rfl, hsz, hP, hK, hD0⟩ := hv
  have hx := B.exec
  have hb := B.bytes
  have hr := B.returns
  have hts := atoms_spec (ws := vc_X7_checksOf) B.pre
  have hown : s.vm.findClass RX7 = some m.cls := findClass_of_methodNamed B.named
  have hlocks := B.notSynchronized
  subst hsz
  have hD := hD0.self (sz := s.heap.size)
  generalize hAe : va_A (Wd 153 (cfC ad cI cT cS) σ) s.heap.size = A at hD ⊢
  have hA : ∀ q : Nat, s.heap.size ≤ q → A q := fun q h => by rw [← hAe]; exact Or.inr h
  clear hAe hD0
  refine gstart (fun H locs hHe hLe => ?_)
  have hS : va_S A s.heap H locs := by rw [← hHe, ← hLe]; exact va_S.rf
  replace hP : va_P (dC, dI) vwCl (Wd 153 (cfC ad cI cT cS) σ) H := by rw [← hHe]; exact hP
  clear hHe hLe
  have hl := lv_entry ([.ref (ad 1), .ref (ad k1), .int a2]) (n := 11) (Nat.le_of_ble_eq_true rfl)
  rw [lg_entry_eq]
  generalize (lg_sl ([.ref (ad 1), .ref (ad k1), .int a2]) ++ List.replicate (11 - (lg_sl ([.ref (ad 1), .ref (ad k1), .int a2])).length) Slot.unset).toArray = ls at hl ⊢
  replace hl : lv_has ls 11 [(0, .ref (ad 1)), (1, .ref (ad k1)), (2, .int a2)] := hl
  unfold zf_X7_checksOf at h
  refine lv_aload_n hx hb dX7_checksOf_0 rfl (lv_at hl 0 rfl) ?_
  refine lv_aload_n hx hb dX7_checksOf_1 rfl (lv_at hl 1 rfl) ?_
  refine lv_aload_n hx hb dX7_checksOf_2 rfl (lv_at hl 1 rfl) ?_
  refine gf_X8_10 hk1 hx hb hts iw_X7_checksOf_X8 hown hK hP (hts (.fieldLink RX7 9 "TraceTrees$Trace" "size" "I") (List.mem_of_getElem? (i := 1) rfl)) dX7_checksOf_3 ?_
  obtain ⟨r1, hc1, h⟩ := obd_inv h
  refine wcalli (S := Unit) (va_runS (As := [.ref (ad 1), .ref (ad k1), .int (σ k1 10)]) (rest := []) ⟨hx, hb, hml, hown, hts⟩ (c_X7_writtenAhead l dC dI cI cT cS H.size ad k1 hk1 (σ k1 10) σ _ hc1) (va_cwS 3 hts (gWS (List.mem_of_getElem? (i := 2) rfl) (List.mem_of_getElem? (i := 3) rfl) (List.mem_of_getElem? (i := 4) rfl) ic_X7_checksOf_c_X7_writtenAhead gd_c_X7_writtenAhead) rfl rfl rfl (by decide +kernel) ⟨(Nat.le_of_ble_eq_true rfl), (Nat.le_of_ble_eq_true rfl)⟩) (gpS hP hK hD) rfl rfl hl.1 rfl (lv_room (Nat.le_of_ble_eq_true rfl)) dX7_checksOf_6 ⟨(Nat.le_of_ble_eq_true rfl), (Nat.le_of_ble_eq_true rfl)⟩) hP hD hS hA (fun rr2 _ H locs hr2 hP hD hS => ?_)
  refine lv_nm (y := r1) hr2 ?_
  refine lv_istore_n (lv' := [(3, .int r1), (0, .ref (ad 1)), (1, .ref (ad k1)), (2, .int a2)]) hx hb dX7_checksOf_9 rfl hl (by decide) rfl (fun ls hl => ?_)
  refine lv_iconst (v := 0) hx hb dX7_checksOf_10 (by decide) ?_
  refine lv_istore (lv' := [(4, .int (0 : Int32)), (3, .int r1), (0, .ref (ad 1)), (1, .ref (ad k1)), (2, .int a2)]) hx hb dX7_checksOf_11 hl (by decide) rfl (fun ls hl => ?_)
  refine lv_iconst (v := 0) hx hb dX7_checksOf_13 (by decide) ?_
  refine lv_istore (lv' := [(5, .int (0 : Int32)), (4, .int (0 : Int32)), (3, .int r1), (0, .ref (ad 1)), (1, .ref (ad k1)), (2, .int a2)]) hx hb dX7_checksOf_14 hl (by decide) rfl (fun ls hl => ?_)
  refine lv_iconst (v := 0) hx hb dX7_checksOf_16 (by decide) ?_
  refine lv_istore (lv' := [(6, .int (0 : Int32)), (5, .int (0 : Int32)), (4, .int (0 : Int32)), (3, .int r1), (0, .ref (ad 1)), (1, .ref (ad k1)), (2, .int a2)]) hx hb dX7_checksOf_17 hl (by decide) rfl (fun ls hl => ?_)
  refine lv_iconst (v := 0) hx hb dX7_checksOf_19 (by decide) ?_
  refine lv_istore (lv' := [(7, .int (0 : Int32)), (6, .int (0 : Int32)), (5, .int (0 : Int32)), (4, .int (0 : Int32)), (3, .int r1), (0, .ref (ad 1)), (1, .ref (ad k1)), (2, .int a2)]) hx hb dX7_checksOf_20 hl (by decide) rfl (fun ls hl => ?_)
  refine lv_iconst (v := 0) hx hb dX7_checksOf_22 (by decide) ?_
  refine lv_istore (lv' := [(8, .int (0 : Int32)), (7, .int (0 : Int32)), (6, .int (0 : Int32)), (5, .int (0 : Int32)), (4, .int (0 : Int32)), (3, .int r1), (0, .ref (ad 1)), (1, .ref (ad k1)), (2, .int a2)]) hx hb dX7_checksOf_23 hl (by decide) rfl (fun ls hl => ?_)
  obtain ⟨y25, hlp25, h⟩ := obd_inv h
  refine lp_W (fun x25 : Int32 × Int32 × Int32 × Int32 × Int32 => ∀ (H : Heap) (locs : List Loc) (ls : Array Slot), va_P (dC, dI) vwCl (Wd 153 (cfC ad cI cT cS) σ) H → va_D A (Wd 153 (cfC ad cI cT cS) σ) → va_S A s.heap H locs → lv_has ls 11 [(8, .int x25.1), (7, .int x25.2.1), (6, .int x25.2.2.1), (5, .int x25.2.2.2.1), (4, .int x25.2.2.2.2), (3, .int r1), (0, .ref (ad 1)), (1, .ref (ad k1)), (2, .int a2)] → W p l e (headSpec vc_X7_checksOf { frames := 4, cells := 0, slots := 0, locals := 88 }).room s m (List.toArray (α := Value) [.ref (ad 1), .ref (ad k1), .int a2]) below meth c H locs 0 0 (MQ below (va_Qi (fun (r : Int32) (_ : Unit) => r = o) (gB (dC, dI) A (fun (_ : Unit) => (Wd 153 (cfC ad cI cT cS) σ))) A) (List.toArray (α := Value) [.ref (ad 1), .ref (ad k1), .int a2]) s 0 0 A) (F0 m 25 ls [])) (fun y25 : Int32 × Int32 × Int32 × Int32 × Int32 => ∀ (H : Heap) (locs : List Loc) (ls : Array Slot), va_P (dC, dI) vwCl (Wd 153 (cfC ad cI cT cS) σ) H → va_D A (Wd 153 (cfC ad cI cT cS) σ) → va_S A s.heap H locs → lv_has ls 11 [(7, .int y25.2.1), (6, .int y25.2.2.1), (5, .int y25.2.2.2.1), (2, .int a2)] → W p l e (headSpec vc_X7_checksOf { frames := 4, cells := 0, slots := 0, locals := 88 }).room s m (List.toArray (α := Value) [.ref (ad 1), .ref (ad k1), .int a2]) below meth c H locs 0 0 (MQ below (va_Qi (fun (r : Int32) (_ : Unit) => r = o) (gB (dC, dI) A (fun (_ : Unit) => (Wd 153 (cfC ad cI cT cS) σ))) A) (List.toArray (α := Value) [.ref (ad 1), .ref (ad k1), .int a2]) s 0 0 A) (F0 m 127 ls [])) ?_ 1000 ((0 : Int32), (0 : Int32), (0 : Int32), (0 : Int32), (0 : Int32)) y25 hlp25 ?_ H locs ls hP hD hS (lv_sub (l' := [(8, .int (0 : Int32)), (7, .int (0 : Int32)), (6, .int (0 : Int32)), (5, .int (0 : Int32)), (4, .int (0 : Int32)), (3, .int r1), (0, .ref (ad 1)), (1, .ref (ad k1)), (2, .int a2)]) hl [0, 1, 2, 3, 4, 5, 6, 7, 8] rfl)
  · intro x25 yy25 h ht25 hf25 H locs ls hP hD hS hl
    unfold zl_X7_checksOf_25 at h
    have J107 : ∀ (v10_107 : Int32) (v9_107 : Int32) (v7_107 : Int32) (v6_107 : Int32) (v5_107 : Int32) (H : Heap) (locs : List Loc) (ls : Array Slot), zb_X7_checksOf_107 σ x25 v10_107 v9_107 v7_107 v6_107 v5_107 = some yy25 → va_P (dC, dI) vwCl (Wd 153 (cfC ad cI cT cS) σ) H → va_D A (Wd 153 (cfC ad cI cT cS) σ) → va_S A s.heap H locs → lv_has ls 11 [(10, .int v10_107), (9, .int v9_107), (8, .int x25.1), (7, .int v7_107), (6, .int v6_107), (5, .int v5_107), (4, .int x25.2.2.2.2), (3, .int r1), (0, .ref (ad 1)), (1, .ref (ad k1)), (2, .int a2)] → W p l e (headSpec vc_X7_checksOf { frames := 4, cells := 0, slots := 0, locals := 88 }).room s m (List.toArray (α := Value) [.ref (ad 1), .ref (ad k1), .int a2]) below meth c H locs 0 0 (MQ below (va_Qi (fun (r : Int32) (_ : Unit) => r = o) (gB (dC, dI) A (fun (_ : Unit) => (Wd 153 (cfC ad cI cT cS) σ))) A) (List.toArray (α := Value) [.ref (ad 1), .ref (ad k1), .int a2]) s 0 0 A) (F0 m 107 ls []) := by
      intro v10_107 v9_107 v7_107 v6_107 v5_107 H locs ls h hP hD hS hl
      unfold zb_X7_checksOf_107 at h
      refine lv_iload hx hb dX7_checksOf_107 (lv_at hl 6 rfl) ?_
      refine lv_iload hx hb dX7_checksOf_109 (lv_at hl 0 rfl) ?_
      refine lv_aload_n hx hb dX7_checksOf_111 rfl (lv_at hl 8 rfl) ?_
      refine lv_iload hx hb dX7_checksOf_112 (lv_at hl 1 rfl) ?_
      obtain ⟨r16, hc16, h⟩ := obd_inv h
      refine wcalli (S := Unit) (va_runS (As := [.ref (ad 1), .int v9_107]) (rest := [.int v10_107, .int x25.2.2.2.2]) ⟨hx, hb, hml, hown, hts⟩ (c_X7_writtenAt l dC dI cI cT cS H.size ad  v9_107 σ _ hc16) (va_cwS 2 hts (gWS (List.mem_of_getElem? (i := 12) rfl) (List.mem_of_getElem? (i := 13) rfl) (List.mem_of_getElem? (i := 4) rfl) ic_X7_checksOf_c_X7_writtenAt gd_c_X7_writtenAt) rfl rfl rfl (by decide +kernel) ⟨(Nat.le_of_ble_eq_true rfl), (Nat.le_of_ble_eq_true rfl)⟩) (gpS hP hK hD) rfl rfl hl.1 rfl (lv_room (Nat.le_of_ble_eq_true rfl)) dX7_checksOf_114 ⟨(Nat.le_of_ble_eq_true rfl), (Nat.le_of_ble_eq_true rfl)⟩) hP hD hS hA (fun rr17 _ H locs hr17 hP hD hS => ?_)
      refine lv_nm (y := r16) hr17 ?_
      refine lv_ior hx hb dX7_checksOf_117 ?_
      refine lv_ior hx hb dX7_checksOf_118 ?_
      obtain ⟨e18, he18, h⟩ := letb_inv h
      refine lv_nm he18 ?_
      refine lv_istore (lv' := [(4, .int e18), (10, .int v10_107), (9, .int v9_107), (8, .int x25.1), (7, .int v7_107), (6, .int v6_107), (5, .int v5_107), (3, .int r1), (0, .ref (ad 1)), (1, .ref (ad k1)), (2, .int a2)]) hx hb dX7_checksOf_119 hl (by decide) rfl (fun ls hl => ?_)
      refine lv_iinc (v := (x25.1 + (1 : Int32))) (lv' := [(8, .int (x25.1 + (1 : Int32))), (4, .int e18), (10, .int v10_107), (9, .int v9_107), (7, .int v7_107), (6, .int v6_107), (5, .int v5_107), (3, .int r1), (0, .ref (ad 1)), (1, .ref (ad k1)), (2, .int a2)]) hx hb dX7_checksOf_121 hl (k := 3) rfl rfl (by decide) rfl (fun ls hl => ?_)
      refine lv_goto (tgt := 25) hx hb dX7_checksOf_124 (by decide) ?_
      obtain rfl := Option.some.inj h
      exact ht25 rfl H locs ls hP hD hS (lv_sub (l' := [(8, .int (x25.1 + (1 : Int32))), (7, .int v7_107), (6, .int v6_107), (5, .int v5_107), (4, .int e18), (3, .int r1), (0, .ref (ad 1)), (1, .ref (ad k1)), (2, .int a2)]) hl [0, 4, 5, 6, 1, 7, 8, 9, 10] rfl)
    refine lv_iload hx hb dX7_checksOf_25 (lv_at hl 0 rfl) ?_
    refine lv_aload_n hx hb dX7_checksOf_27 rfl (lv_at hl 7 rfl) ?_
    refine gf_X8_10 hk1 hx hb hts iw_X7_checksOf_X8 hown hK hP (hts (.fieldLink RX7 9 "TraceTrees$Trace" "size" "I") (List.mem_of_getElem? (i := 1) rfl)) dX7_checksOf_28 ?_
    refine lv_icmp_ge (tgt := 127) hx hb dX7_checksOf_31 (by decide) (fun c3 => ?_) (fun c3 => ?_)
    · replace h := ifp (c3) h
      obtain rfl := Option.some.inj h
      exact hf25 rfl H locs ls hP hD hS (lv_sub (l' := [(7, .int x25.2.1), (6, .int x25.2.2.1), (5, .int x25.2.2.2.1), (2, .int a2)]) hl [1, 2, 3, 8] rfl)
    · replace h := ifn (c3) h
      refine lv_aload_n hx hb dX7_checksOf_34 rfl (lv_at hl 7 rfl) ?_
      refine gf_X8_1 hk1 hx hb hts iw_X7_checksOf_X8 hown hK hP (hts (.fieldLink RX7 15 "TraceTrees$Trace" "point" "[I") (List.mem_of_getElem? (i := 5) rfl)) dX7_checksOf_35 ?_
      refine lv_iload hx hb dX7_checksOf_38 (lv_at hl 0 rfl) ?_
      obtain ⟨hi4, h⟩ := bd_inv h
      refine wald hx hb hK hP (aT1 hk1) hi4 dX7_checksOf_40 ?_
      obtain ⟨e5, he5, h⟩ := letb_inv h
      refine lv_nm he5 ?_
      refine lv_istore (lv' := [(9, .int e5), (8, .int x25.1), (7, .int x25.2.1), (6, .int x25.2.2.1), (5, .int x25.2.2.2.1), (4, .int x25.2.2.2.2), (3, .int r1), (0, .ref (ad 1)), (1, .ref (ad k1)), (2, .int a2)]) hx hb dX7_checksOf_41 hl (by decide) rfl (fun ls hl => ?_)
      refine lv_aload_n hx hb dX7_checksOf_43 rfl (lv_at hl 7 rfl) ?_
      refine lv_iload hx hb dX7_checksOf_44 (lv_at hl 0 rfl) ?_
      obtain ⟨r6, hc6, h⟩ := obd_inv h
      refine wcalli (S := Unit) (va_runS (As := [.ref (ad 1), .int e5]) (rest := []) ⟨hx, hb, hml, hown, hts⟩ (c_X7_readAt l dC dI cI cT cS H.size ad  e5 σ _ hc6) (va_cwS 2 hts (gWS (List.mem_of_getElem? (i := 6) rfl) (List.mem_of_getElem? (i := 7) rfl) (List.mem_of_getElem? (i := 4) rfl) ic_X7_checksOf_c_X7_readAt gd_c_X7_readAt) rfl rfl rfl (by decide +kernel) ⟨(Nat.le_of_ble_eq_true rfl), (Nat.le_of_ble_eq_true rfl)⟩) (gpS hP hK hD) rfl rfl hl.1 rfl (lv_room (Nat.le_of_ble_eq_true rfl)) dX7_checksOf_46 ⟨(Nat.le_of_ble_eq_true rfl), (Nat.le_of_ble_eq_true rfl)⟩) hP hD hS hA (fun rr7 _ H locs hr7 hP hD hS => ?_)
      refine lv_nm (y := r6) hr7 ?_
      refine lv_istore (lv' := [(10, .int r6), (9, .int e5), (8, .int x25.1), (7, .int x25.2.1), (6, .int x25.2.2.1), (5, .int x25.2.2.2.1), (4, .int x25.2.2.2.2), (3, .int r1), (0, .ref (ad 1)), (1, .ref (ad k1)), (2, .int a2)]) hx hb dX7_checksOf_49 hl (by decide) rfl (fun ls hl => ?_)
      refine lv_aload_n hx hb dX7_checksOf_51 rfl (lv_at hl 8 rfl) ?_
      refine gf_X4_0 hx hb hts iw_X7_checksOf_X4 hown hK hP (hts (.fieldLink RX7 32 "TraceTrees$Program" "kind" "[I") (List.mem_of_getElem? (i := 8) rfl)) dX7_checksOf_52 ?_
      refine lv_iload hx hb dX7_checksOf_55 (lv_at hl 1 rfl) ?_
      obtain ⟨hi8, h⟩ := bd_inv h
      refine wald hx hb hK hP aP2 hi8 dX7_checksOf_57 ?_
      refine lv_bipush (v := 8) hx hb dX7_checksOf_58 (by decide) ?_
      refine lv_icmp_eq (tgt := 107) hx hb dX7_checksOf_60 (by decide) (fun c9 => ?_) (fun c9 => ?_)
      · replace h := ifp (c9) h
        exact J107 r6 e5 x25.2.1 x25.2.2.1 x25.2.2.2.1 H locs ls h hP hD hS (lv_sub (l' := [(10, .int r6), (9, .int e5), (8, .int x25.1), (7, .int x25.2.1), (6, .int x25.2.2.1), (5, .int x25.2.2.2.1), (4, .int x25.2.2.2.2), (3, .int r1), (0, .ref (ad 1)), (1, .ref (ad k1)), (2, .int a2)]) hl [0, 1, 2, 3, 4, 5, 6, 7, 8, 9, 10] rfl)
      · replace h := ifn (c9) h
        refine lv_iload hx hb dX7_checksOf_63 (lv_at hl 5 rfl) ?_
        refine lv_iload hx hb dX7_checksOf_65 (lv_at hl 0 rfl) ?_
        refine wcalli (S := Unit) (va_runS (As := [.int r6]) (rest := [.int x25.2.2.2.1]) ⟨hx, hb, hml, hown, hts⟩ (c_J6_bitCount_0f7a4 l dC dI cI cT cS H.size (Wd 153 (cfC ad cI cT cS) σ)  r6 _ rfl) (va_cwS 1 hts (gWS (List.mem_of_getElem? (i := 9) rfl) (List.mem_of_getElem? (i := 10) rfl) (List.mem_of_getElem? (i := 11) rfl) ic_X7_checksOf_c_J6_bitCount_0f7a4 gd_c_J6_bitCount_0f7a4) rfl rfl rfl (by decide +kernel) ⟨(Nat.le_of_ble_eq_true rfl), (Nat.le_of_ble_eq_true rfl)⟩) (gpS hP hK hD) rfl rfl hl.1 rfl (lv_room (Nat.le_of_ble_eq_true rfl)) dX7_checksOf_67 ⟨(Nat.le_of_ble_eq_true rfl), (Nat.le_of_ble_eq_true rfl)⟩) hP hD hS hA (fun rr10 _ H locs hr10 hP hD hS => ?_)
        refine lv_nm (y := (zf_J6_bitCount_0f7a4 r6)) hr10 ?_
        refine lv_iadd hx hb dX7_checksOf_70 ?_
        obtain ⟨e11, he11, h⟩ := letb_inv h
        refine lv_nm he11 ?_
        refine lv_istore (lv' := [(5, .int e11), (10, .int r6), (9, .int e5), (8, .int x25.1), (7, .int x25.2.1), (6, .int x25.2.2.1), (4, .int x25.2.2.2.2), (3, .int r1), (0, .ref (ad 1)), (1, .ref (ad k1)), (2, .int a2)]) hx hb dX7_checksOf_71 hl (by decide) rfl (fun ls hl => ?_)
        refine lv_iload hx hb dX7_checksOf_73 (lv_at hl 5 rfl) ?_
        refine lv_iload hx hb dX7_checksOf_75 (lv_at hl 1 rfl) ?_
        refine lv_iload hx hb dX7_checksOf_77 (lv_at hl 6 rfl) ?_
        refine lv_iconst (v := (-1)) hx hb dX7_checksOf_79 (by decide) ?_
        refine lv_ixor hx hb dX7_checksOf_80 ?_
        refine lv_iand hx hb dX7_checksOf_81 ?_
        refine wcalli (S := Unit) (va_runS (As := [.int (r6 &&& (x25.2.2.2.2 ^^^ (-1 : Int32)))]) (rest := [.int x25.2.2.1]) ⟨hx, hb, hml, hown, hts⟩ (c_J6_bitCount_0f7a4 l dC dI cI cT cS H.size (Wd 153 (cfC ad cI cT cS) σ)  (r6 &&& (x25.2.2.2.2 ^^^ (-1 : Int32))) _ rfl) (va_cwS 1 hts (gWS (List.mem_of_getElem? (i := 9) rfl) (List.mem_of_getElem? (i := 10) rfl) (List.mem_of_getElem? (i := 11) rfl) ic_X7_checksOf_c_J6_bitCount_0f7a4 gd_c_J6_bitCount_0f7a4) rfl rfl rfl (by decide +kernel) ⟨(Nat.le_of_ble_eq_true rfl), (Nat.le_of_ble_eq_true rfl)⟩) (gpS hP hK hD) rfl rfl hl.1 rfl (lv_room (Nat.le_of_ble_eq_true rfl)) dX7_checksOf_82 ⟨(Nat.le_of_ble_eq_true rfl), (Nat.le_of_ble_eq_true rfl)⟩) hP hD hS hA (fun rr12 _ H locs hr12 hP hD hS => ?_)
        refine lv_nm (y := (zf_J6_bitCount_0f7a4 (r6 &&& (x25.2.2.2.2 ^^^ (-1 : Int32))))) hr12 ?_
        refine lv_iadd hx hb dX7_checksOf_85 ?_
        obtain ⟨e13, he13, h⟩ := letb_inv h
        refine lv_nm he13 ?_
        refine lv_istore (lv' := [(6, .int e13), (5, .int e11), (10, .int r6), (9, .int e5), (8, .int x25.1), (7, .int x25.2.1), (4, .int x25.2.2.2.2), (3, .int r1), (0, .ref (ad 1)), (1, .ref (ad k1)), (2, .int a2)]) hx hb dX7_checksOf_86 hl (by decide) rfl (fun ls hl => ?_)
        refine lv_iload hx hb dX7_checksOf_88 (lv_at hl 5 rfl) ?_
        refine lv_iload hx hb dX7_checksOf_90 (lv_at hl 2 rfl) ?_
        refine lv_iload hx hb dX7_checksOf_92 (lv_at hl 6 rfl) ?_
        refine lv_iconst (v := (-1)) hx hb dX7_checksOf_94 (by decide) ?_
        refine lv_ixor hx hb dX7_checksOf_95 ?_
        refine lv_iand hx hb dX7_checksOf_96 ?_
        refine lv_iload_n hx hb dX7_checksOf_97 rfl (lv_at hl 7 rfl) ?_
        refine lv_iconst (v := (-1)) hx hb dX7_checksOf_98 (by decide) ?_
        refine lv_ixor hx hb dX7_checksOf_99 ?_
        refine lv_iand hx hb dX7_checksOf_100 ?_
        refine wcalli (S := Unit) (va_runS (As := [.int ((r6 &&& (x25.2.2.2.2 ^^^ (-1 : Int32))) &&& (r1 ^^^ (-1 : Int32)))]) (rest := [.int x25.2.1]) ⟨hx, hb, hml, hown, hts⟩ (c_J6_bitCount_0f7a4 l dC dI cI cT cS H.size (Wd 153 (cfC ad cI cT cS) σ)  ((r6 &&& (x25.2.2.2.2 ^^^ (-1 : Int32))) &&& (r1 ^^^ (-1 : Int32))) _ rfl) (va_cwS 1 hts (gWS (List.mem_of_getElem? (i := 9) rfl) (List.mem_of_getElem? (i := 10) rfl) (List.mem_of_getElem? (i := 11) rfl) ic_X7_checksOf_c_J6_bitCount_0f7a4 gd_c_J6_bitCount_0f7a4) rfl rfl rfl (by decide +kernel) ⟨(Nat.le_of_ble_eq_true rfl), (Nat.le_of_ble_eq_true rfl)⟩) (gpS hP hK hD) rfl rfl hl.1 rfl (lv_room (Nat.le_of_ble_eq_true rfl)) dX7_checksOf_101 ⟨(Nat.le_of_ble_eq_true rfl), (Nat.le_of_ble_eq_true rfl)⟩) hP hD hS hA (fun rr14 _ H locs hr14 hP hD hS => ?_)
        refine lv_nm (y := (zf_J6_bitCount_0f7a4 ((r6 &&& (x25.2.2.2.2 ^^^ (-1 : Int32))) &&& (r1 ^^^ (-1 : Int32))))) hr14 ?_
        refine lv_iadd hx hb dX7_checksOf_104 ?_
        obtain ⟨e15, he15, h⟩ := letb_inv h
        refine lv_nm he15 ?_
        refine lv_istore (lv' := [(7, .int e15), (6, .int e13), (5, .int e11), (10, .int r6), (9, .int e5), (8, .int x25.1), (4, .int x25.2.2.2.2), (3, .int r1), (0, .ref (ad 1)), (1, .ref (ad k1)), (2, .int a2)]) hx hb dX7_checksOf_105 hl (by decide) rfl (fun ls hl => ?_)
        exact J107 r6 e5 e15 e13 e11 H locs ls h hP hD hS (lv_sub (l' := [(10, .int r6), (9, .int e5), (8, .int x25.1), (7, .int e15), (6, .int e13), (5, .int e11), (4, .int x25.2.2.2.2), (3, .int r1), (0, .ref (ad 1)), (1, .ref (ad k1)), (2, .int a2)]) hl [3, 4, 5, 0, 1, 2, 6, 7, 8, 9, 10] rfl)
  · intro H locs ls hP hD hS hl
    refine lv_iload_n hx hb dX7_checksOf_127 rfl (lv_at hl 3 rfl) ?_
    by_cases c19 : a2 = 0
    · replace h := ifp c19 h
      refine lv_tableIn (off := 28) (tgt := 156) hx hb dX7_checksOf_128 (by rw [c19]; decide) (by rw [c19]; decide) (by rw [c19]; decide) (by decide) ?_
      refine lv_iload hx hb dX7_checksOf_156 (lv_at hl 2 rfl) ?_
      have h9 := Option.some.inj h
      exact wreti hx hb hr hlocks hP hD hS (by show _ = _; rw [← h9]; first | done | rfl) rfl dX7_checksOf_158
    replace h := ifn c19 h
    by_cases c20 : a2 = 1
    · replace h := ifp c20 h
      refine lv_tableIn (off := 31) (tgt := 159) hx hb dX7_checksOf_128 (by rw [c20]; decide) (by rw [c20]; decide) (by rw [c20]; decide) (by decide) ?_
      refine lv_iload hx hb dX7_checksOf_159 (lv_at hl 1 rfl) ?_
      have h9 := Option.some.inj h
      exact wreti hx hb hr hlocks hP hD hS (by show _ = _; rw [← h9]; first | done | rfl) rfl dX7_checksOf_161
    replace h := ifn c20 h
    by_cases c21 : a2 = 2
    · replace h := ifp c21 h
      refine lv_tableIn (off := 34) (tgt := 162) hx hb dX7_checksOf_128 (by rw [c21]; decide) (by rw [c21]; decide) (by rw [c21]; decide) (by decide) ?_
      refine lv_iload hx hb dX7_checksOf_162 (lv_at hl 0 rfl) ?_
      have h9 := Option.some.inj h
      exact wreti hx hb hr hlocks hP hD hS (by show _ = _; rw [← h9]; first | done | rfl) rfl dX7_checksOf_164
    replace h := ifn c21 h
    refine lv_tableOut (tgt := 165) hx hb dX7_checksOf_128 (by have := lv_neT c19 (a := 0) (by decide); have := lv_neT c20 (a := 1) (by decide); have := lv_neT c21 (a := 2) (by decide); omega) (by decide) ?_
    refine lv_bipush (v := (-2)) hx hb dX7_checksOf_165 (by decide) ?_
    have h9 := Option.some.inj h
    exact wreti hx hb hr hlocks hP hD hS (by show _ = _; rw [← h9]; first | done | rfl) rfl dX7_checksOf_167
