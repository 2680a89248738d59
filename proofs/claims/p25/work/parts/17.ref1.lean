def zb_X10_whole_34 (w0_34 : Int32) (σb34 : Sg) : Option (Sg) := some (su σb34 0 14 w0_34)
def zb_X10_whole_14 (a1 : Int64) (σ : Sg) (w0_14 : Bool) : Option (Sg) := (if (b2i w0_14) = 0 then (zb_X10_whole_34 (a1.toInt32) (su σ 0 13 (b2i w0_14))) else obd (zf_X10_floatOf a1) (fun r3 => (zb_X10_whole_34 r3 (su σ 0 13 (b2i w0_14)))))
def zf_X10_whole (a1 : Int64) (σ : Sg) : Option (Sg) := (if a1 = ((a1.toInt32).toInt64) then (zb_X10_whole_14 a1 σ false) else (zb_X10_whole_14 a1 σ true))
def oc_X10_whole : List Cond := [.fieldLink RX10 191 "TraceTreesModel" "kindOut" "I", .methodLink RX10 178 yX10_floatOf, .static yX10_floatOf, .initialized RX10, .fieldLink RX10 194 "TraceTreesModel" "bitsOut" "I"]
def vc_X10_whole : List Cond := .code yX10_whole cX10_whole 3 none :: (oc_X10_whole ++ (wsX100 ++ (vc_X10_floatOf)))
theorem iw_X10_whole_X10 : ∀ w ∈ wsX100, w ∈ vc_X10_whole := fun _ h => List.mem_cons_of_mem _ (List.mem_append_right _ (List.mem_append_left _ h))
theorem ic_X10_whole_c_X10_floatOf : ∀ w ∈ vc_X10_floatOf, w ∈ vc_X10_whole := fun _ h => List.mem_cons_of_mem _ (List.mem_append_right _ (List.mem_append_right _ (h)))
theorem gd_c_X10_whole : (vc_X10_whole).all goodWord = true := gall_cons rfl (gall_app (by decide +kernel) (gall_app gw_X10 gd_c_X10_floatOf))
set_option maxHeartbeats 4000000 in
set_option maxRecDepth 100000 in
theorem c_X10_whole (l : Launch) (dC : Nat → ClassId) (dI : Nat → Nat → Nat) (cI cT cS : ClassId) (sz : Nat) (ad : Nat → Nat) (a1 : Int64) (σ : Sg) (o : Sg) (h : zf_X10_whole a1 σ = some o) : gCV (S := Unit) l yX10_whole vc_X10_whole { frames := 3, cells := 0, slots := 0, locals := 80 } (dC, dI) (gTY cI cT cS) sz [.ref (ad 0), .long a1] (Wd 24 (cfR ad cI) σ) (fun (_ : Unit) => True) (fun (_ : Unit) => (Wd 24 (cfR ad cI) o)) 0 0 := by
  refine Met.ofW (cc := cX10_whole) (maxL := 3) (ret := none) (by decide) rfl ?_
  intro p e s m args below meth c s₁ B hml hv
  obtain ⟨rfl, hsz, hP, hK, hD0⟩ := hv
  have hx := B.exec
  have hb := B.bytes
  have hr := B.returns
  have hts := atoms_spec (ws := vc_X10_whole) B.pre
  have hown : s.vm.findClass RX10 = some m.cls := findClass_of_methodNamed B.named
  have hlocks := B.notSynchronized
  subst hsz
  have hD := hD0.self (sz := s.heap.size)
  generalize hAe : va_A (Wd 24 (cfR ad cI) σ) s.heap.size = A at hD ⊢
  have hA : ∀ q : Nat, s.heap.size ≤ q → A q := fun q h => by rw [← hAe]; exact Or.inr h
  clear hAe hD0
  refine gstart (fun H locs hHe hLe => ?_)
  have hS : va_S A s.heap H locs := by rw [← hHe, ← hLe]; exact va_S.rf
  replace hP : va_P (dC, dI) vwCl (Wd 24 (cfR ad cI) σ) H := by rw [← hHe]; exact hP
  clear hHe hLe
  have hl := lv_entry ([.ref (ad 0), .long a1]) (n := 3) (Nat.le_of_ble_eq_true rfl)
  rw [lg_entry_eq]
  generalize (lg_sl ([.ref (ad 0), .long a1]) ++ List.replicate (3 - (lg_sl ([.ref (ad 0), .long a1])).length) Slot.unset).toArray = ls at hl ⊢
  replace hl : lv_has ls 3 [(0, .ref (ad 0)), (1, .long a1)] := hl
  unfold zf_X10_whole at h
  have J34 : ∀ (w0_34 : Int32) (σb34 : Sg) (H : Heap) (locs : List Loc) (ls : Array Slot), zb_X10_whole_34 w0_34 σb34 = some o → va_P (dC, dI) vwCl (Wd 24 (cfR ad cI) σb34) H → va_D A (Wd 24 (cfR ad cI) σb34) → va_S A s.heap H locs → lv_has ls 3 [] → W p l e (headSpec vc_X10_whole { frames := 3, cells := 0, slots := 0, locals := 80 }).room s m (List.toArray (α := Value) [.ref (ad 0), .long a1]) below meth c H locs 0 0 (MQ below (va_Qv (fun (_ : Unit) => True) (gB (dC, dI) A (fun (_ : Unit) => (Wd 24 (cfR ad cI) o))) A) (List.toArray (α := Value) [.ref (ad 0), .long a1]) s 0 0 A) (F0 m 34 ls [.int w0_34, .ref (ad 0)]) := by
    intro w0_34 σb34 H locs ls h hP hD hS hl
    unfold zb_X10_whole_34 at h
    refine pf_X10_14 hx hb hts iw_X10_whole_X10 hown hK hP hD hS (hts (.fieldLink RX10 194 "TraceTreesModel" "bitsOut" "I") (List.mem_of_getElem? (i := 5) rfl)) dX10_whole_34 (fun H locs hP hD hS => ?_)
    have h9 := Option.some.inj h
    exact wretv hx hb hr hlocks hP hD hS trivial (by rw [← h9]) dX10_whole_37
  have J14 : ∀ (w0_14 : Bool) (H : Heap) (locs : List Loc) (ls : Array Slot), zb_X10_whole_14 a1 σ w0_14 = some o → va_P (dC, dI) vwCl (Wd 24 (cfR ad cI) σ) H → va_D A (Wd 24 (cfR ad cI) σ) → va_S A s.heap H locs → lv_has ls 3 [(0, .ref (ad 0)), (1, .long a1)] → W p l e (headSpec vc_X10_whole { frames := 3, cells := 0, slots := 0, locals := 80 }).room s m (List.toArray (α := Value) [.ref (ad 0), .long a1]) below meth c H locs 0 0 (MQ below (va_Qv (fun (_ : Unit) => True) (gB (dC, dI) A (fun (_ : Unit) => (Wd 24 (cfR ad cI) o))) A) (List.toArray (α := Value) [.ref (ad 0), .long a1]) s 0 0 A) (F0 m 14 ls [.int (b2i w0_14), .ref (ad 0)]) := by
    intro w0_14 H locs ls h hP hD hS hl
    unfold zb_X10_whole_14 at h
    refine pf_X10_13 hx hb hts iw_X10_whole_X10 hown hK hP hD hS (hts (.fieldLink RX10 191 "TraceTreesModel" "kindOut" "I") (List.mem_of_getElem? (i := 1) rfl)) dX10_whole_14 (fun H locs hP hD hS => ?_)
    refine lv_aload_n hx hb dX10_whole_17 rfl (lv_at hl 0 rfl) ?_
    refine lv_aload_n hx hb dX10_whole_18 rfl (lv_at hl 0 rfl) ?_
    refine gf_X10_13 hx hb hts iw_X10_whole_X10 hown hK hP (hts (.fieldLink RX10 191 "TraceTreesModel" "kindOut" "I") (List.mem_of_getElem? (i := 1) rfl)) dX10_whole_19 ?_
    refine lv_nm (y := (b2i w0_14)) (su_hit rfl) ?_
    refine lv_if_ne (tgt := 30) hx hb dX10_whole_22 (by decide) (fun c2 => ?_) (fun c2 => ?_)
    · replace h := ifn (c2) h
      refine lv_lload_n hx hb dX10_whole_30 rfl (lv_at hl 1 rfl) ?_
      obtain ⟨r3, hc3, h⟩ := obd_inv h
      refine wcalli (S := Unit) (va_runS (As := [.long a1]) (rest := [.ref (ad 0)]) ⟨hx, hb, hml, hown, hts⟩ (c_X10_floatOf l dC dI cI cT cS H.size (Wd 24 (cfR ad cI) (su σ 0 13 (b2i w0_14)))  a1 _ hc3) (va_cwS 1 hts (gWS (List.mem_of_getElem? (i := 2) rfl) (List.mem_of_getElem? (i := 3) rfl) (List.mem_of_getElem? (i := 4) rfl) ic_X10_whole_c_X10_floatOf gd_c_X10_floatOf) rfl rfl rfl (by decide +kernel) ⟨(Nat.le_of_ble_eq_true rfl), (Nat.le_of_ble_eq_true rfl)⟩) (gpS hP hK hD) rfl rfl hl.1 rfl (lv_room (Nat.le_of_ble_eq_true rfl)) dX10_whole_31 ⟨(Nat.le_of_ble_eq_true rfl), (Nat.le_of_ble_eq_true rfl)⟩) hP hD hS hA (fun rr4 _ H locs hr4 hP hD hS => ?_)
      refine lv_nm (y := r3) hr4 ?_
      exact J34 r3 (su σ 0 13 (b2i w0_14)) H locs ls h hP hD hS (lv_sub (l' := []) hl [] rfl)
    · replace h := ifp (c2) h
      refine lv_lload_n hx hb dX10_whole_25 rfl (lv_at hl 1 rfl) ?_
      refine lv_l2i hx hb dX10_whole_26 rfl ?_
      refine lv_goto (tgt := 34) hx hb dX10_whole_27 (by decide) ?_
      exact J34 (a1.toInt32) (su σ 0 13 (b2i w0_14)) H locs ls h hP hD hS (lv_sub (l' := []) hl [] rfl)
  refine lv_aload_n hx hb dX10_whole_0 rfl (lv_at hl 0 rfl) ?_
  refine lv_lload_n hx hb dX10_whole_1 rfl (lv_at hl 1 rfl) ?_
  refine lv_lload_n hx hb dX10_whole_2 rfl (lv_at hl 1 rfl) ?_
  refine lv_l2i hx hb dX10_whole_3 rfl ?_
  refine lv_i2l hx hb dX10_whole_4 rfl ?_
  refine W.lcmp hx hb dX10_whole_5 ?_
  refine lv_if_ne (tgt := 13) hx hb dX10_whole_6 (by decide) (fun c1 => ?_) (fun c1 => ?_)
  · replace h := ifn (fun q => c1 (g_c_eq.mpr q)) h
    refine lv_iconst (v := 1) hx hb dX10_whole_13 (by decide) ?_
    exact J14 true H locs ls h hP hD hS (lv_sub (l' := [(0, .ref (ad 0)), (1, .long a1)]) hl [0, 1] rfl)
  · replace h := ifp (g_c_eq.mp c1) h
    refine lv_iconst (v := 0) hx hb dX10_whole_9 (by decide) ?_
    refine lv_goto (tgt := 14) hx hb dX10_whole_10 (by decide) ?_
    exact J14 false H locs ls h hP hD hS (lv_sub (l' := [(0, .ref (ad 0)), (1, .long a1)]) hl [0, 1] rfl)
def zb_X10_minus_20 (w0_20 : Int32) : Option (Int32) := some w0_20
def zf_X10_minus (a0 : Int32) (a1 : Int32) : Option (Int32) := (if (zf_X10_isNan a1) = true then (zb_X10_minus_20 (2143289344 : Int32)) else obd (zf_X10_plus a0 (zf_X10_turned a1)) (fun r4 => (zb_X10_minus_20 r4)))
def oc_X10_minus : List Cond := [.methodLink RX10 126 yX10_isNan, .static yX10_isNan, .initialized RX10, .methodLink RX10 210 yX10_turned, .static yX10_turned, .methodLink RX10 204 yX10_plus, .static yX10_plus, .constant RX10 129 (2143289344)]
def vc_X10_minus : List Cond := .code yX10_minus cX10_minus 2 (some .int) :: (oc_X10_minus ++ (vc_X10_isNan ++ (vc_X10_turned ++ (vc_X10_plus))))
theorem ic_X10_minus_c_X10_isNan : ∀ w ∈ vc_X10_isNan, w ∈ vc_X10_minus := fun _ h => List.mem_cons_of_mem _ (List.mem_append_right _ (List.mem_append_left _ h))
theorem ic_X10_minus_c_X10_turned : ∀ w ∈ vc_X10_turned, w ∈ vc_X10_minus := fun _ h => List.mem_cons_of_mem _ (List.mem_append_right _ (List.mem_append_right _ (List.mem_append_left _ h)))
theorem ic_X10_minus_c_X10_plus : ∀ w ∈ vc_X10_plus, w ∈ vc_X10_minus := fun _ h => List.mem_cons_of_mem _ (List.mem_append_right _ (List.mem_append_right _ (List.mem_append_right _ (h))))
theorem gd_c_X10_minus : (vc_X10_minus).all goodWord = true := gall_cons rfl (gall_app (by decide +kernel) (gall_app gd_c_X10_isNan (gall_app gd_c_X10_turned gd_c_X10_plus)))
set_option maxHeartbeats 4000000 in
set_option maxRecDepth 100000 in
theorem c_X10_minus (l : Launch) (dC : Nat → ClassId) (dI : Nat → Nat → Nat) (cI cT cS : ClassId) (sz : Nat) (ws : va_W) (a0 : Int32) (a1 : Int32) (o : Int32) (h : zf_X10_minus a0 a1 = some o) : gCI (S := Unit) l yX10_minus vc_X10_minus { frames := 3, cells := 0, slots := 0, locals := 89 } (dC, dI) (gTY cI cT cS) sz [.int a0, .int a1] ws (fun (r : Int32) (_ : Unit) => r = o) (fun (_ : Unit) => ws) 0 0 := by
  refine Met.ofW (cc := cX10_minus) (maxL := 2) (ret := (some .int)) (by decide) rfl ?_
  intro p e s m args below meth c s₁ B hml hv
  obtain ⟨rfl, hsz, hP, hK, hD0⟩ := hv
  have hx := B.exec
  have hb := B.bytes
  have hr := B.returns
  have hts := atoms_spec (ws := vc_X10_minus) B.pre
  have hown : s.vm.findClass RX10 = some m.cls := findClass_of_methodNamed B.named
  have hlocks := B.notSynchronized
  subst hsz
  have hD := hD0.self (sz := s.heap.size)
  generalize hAe : va_A ws s.heap.size = A at hD ⊢
  have hA : ∀ q : Nat, s.heap.size ≤ q → A q := fun q h => by rw [← hAe]; exact Or.inr h
  clear hAe hD0
  refine gstart (fun H locs hHe hLe => ?_)
  have hS : va_S A s.heap H locs := by rw [← hHe, ← hLe]; exact va_S.rf
  replace hP : va_P (dC, dI) vwCl ws H := by rw [← hHe]; exact hP
  clear hHe hLe
  have hl := lv_entry ([.int a0, .int a1]) (n := 2) (Nat.le_of_ble_eq_true rfl)
  rw [lg_entry_eq]
  generalize (lg_sl ([.int a0, .int a1]) ++ List.replicate (2 - (lg_sl ([.int a0, .int a1])).length) Slot.unset).toArray = ls at hl ⊢
  replace hl : lv_has ls 2 [(0, .int a0), (1, .int a1)] := hl
  unfold zf_X10_minus at h
  have J20 : ∀ (w0_20 : Int32) (H : Heap) (locs : List Loc) (ls : Array Slot), zb_X10_minus_20 w0_20 = some o → va_P (dC, dI) vwCl ws H → va_D A ws → va_S A s.heap H locs → lv_has ls 2 [] → W p l e (headSpec vc_X10_minus { frames := 3, cells := 0, slots := 0, locals := 89 }).room s m (List.toArray (α := Value) [.int a0, .int a1]) below meth c H locs 0 0 (MQ below (va_Qi (fun (r : Int32) (_ : Unit) => r = o) (gB (dC, dI) A (fun (_ : Unit) => ws)) A) (List.toArray (α := Value) [.int a0, .int a1]) s 0 0 A) (F0 m 20 ls [.int w0_20]) := by
    intro w0_20 H locs ls h hP hD hS hl
    unfold zb_X10_minus_20 at h
    have h9 := Option.some.inj h
    exact wreti hx hb hr hlocks hP hD hS (by show _ = _; rw [← h9]; first | done | rfl) rfl dX10_minus_20
  refine lv_iload_n hx hb dX10_minus_0 rfl (lv_at hl 1 rfl) ?_
  refine wcalli (S := Unit) (va_runS (As := [.int a1]) (rest := []) ⟨hx, hb, hml, hown, hts⟩ (c_X10_isNan l dC dI cI cT cS H.size ws  a1 _ rfl) (va_cwS 1 hts (gWS (List.mem_of_getElem? (i := 1) rfl) (List.mem_of_getElem? (i := 2) rfl) (List.mem_of_getElem? (i := 3) rfl) ic_X10_minus_c_X10_isNan gd_c_X10_isNan) rfl rfl rfl (by decide +kernel) ⟨(Nat.le_of_ble_eq_true rfl), (Nat.le_of_ble_eq_true rfl)⟩) (gpS hP hK hD) rfl rfl hl.1 rfl (lv_room (Nat.le_of_ble_eq_true rfl)) dX10_minus_1 ⟨(Nat.le_of_ble_eq_true rfl), (Nat.le_of_ble_eq_true rfl)⟩) hP hD hS hA (fun rr1 _ H locs hr1 hP hD hS => ?_)
  refine lv_nm (y := b2i (zf_X10_isNan a1)) hr1 ?_
  refine lv_if_eq (tgt := 12) hx hb dX10_minus_4 (by decide) (fun c2 => ?_) (fun c2 => ?_)
  · replace h := ifn (b2i_0 c2) h
    refine lv_iload_n hx hb dX10_minus_12 rfl (lv_at hl 0 rfl) ?_
    refine lv_iload_n hx hb dX10_minus_13 rfl (lv_at hl 1 rfl) ?_
    refine wcalli (S := Unit) (va_runS (As := [.int a1]) (rest := [.int a0]) ⟨hx, hb, hml, hown, hts⟩ (c_X10_turned l dC dI cI cT cS H.size ws  a1 _ rfl) (va_cwS 1 hts (gWS (List.mem_of_getElem? (i := 4) rfl) (List.mem_of_getElem? (i := 5) rfl) (List.mem_of_getElem? (i := 3) rfl) ic_X10_minus_c_X10_turned gd_c_X10_turned) rfl rfl rfl (by decide +kernel) ⟨(Nat.le_of_ble_eq_true rfl), (Nat.le_of_ble_eq_true rfl)⟩) (gpS hP hK hD) rfl rfl hl.1 rfl (lv_room (Nat.le_of_ble_eq_true rfl)) dX10_minus_14 ⟨(Nat.le_of_ble_eq_true rfl), (Nat.le_of_ble_eq_true rfl)⟩) hP hD hS hA (fun rr3 _ H locs hr3 hP hD hS => ?_)
    refine lv_nm (y := (zf_X10_turned a1)) hr3 ?_
    obtain ⟨r4, hc4, h⟩ := obd_inv h
    refine wcalli (S := Unit) (va_runS (As := [.int a0, .int (zf_X10_turned a1)]) (rest := []) ⟨hx, hb, hml, hown, hts⟩ (c_X10_plus l dC dI cI cT cS H.size ws  a0 (zf_X10_turned a1) _ hc4) (va_cwS 2 hts (gWS (List.mem_of_getElem? (i := 6) rfl) (List.mem_of_getElem? (i := 7) rfl) (List.mem_of_getElem? (i := 3) rfl) ic_X10_minus_c_X10_plus gd_c_X10_plus) rfl rfl rfl (by decide +kernel) ⟨(Nat.le_of_ble_eq_true rfl), (Nat.le_of_ble_eq_true rfl)⟩) (gpS hP hK hD) rfl rfl hl.1 rfl (lv_room (Nat.le_of_ble_eq_true rfl)) dX10_minus_17 ⟨(Nat.le_of_ble_eq_true rfl), (Nat.le_of_ble_eq_true rfl)⟩) hP hD hS hA (fun rr5 _ H locs hr5 hP hD hS => ?_)
    refine lv_nm (y := r4) hr5 ?_
    exact J20 r4 H locs ls h hP hD hS (lv_sub (l' := []) hl [] rfl)
  · replace h := ifp (b2i_1 c2) h
    refine lv_ldc (v := 2143289344) hx hb hown (hts (.constant RX10 129 (2143289344)) (List.mem_of_getElem? (i := 8) rfl)) dX10_minus_7 ?_
    refine lv_goto (tgt := 20) hx hb dX10_minus_9 (by decide) ?_
    exact J20 (2143289344 : Int32) H locs ls h hP hD hS (lv_sub (l' := []) hl [] rfl)
def zb_X10_sums_134 (σb134 : Sg) : Option (Sg) := some σb134
def zb_X10_sums_131 (σ : Sg) (w0_131 : Int32) : Option (Sg) := (zb_X10_sums_134 (su (su σ 0 13 (1 : Int32)) 0 14 w0_131))
def zb_X10_sums_68 (σ : Sg) (w0_68 : Int64) : Option (Sg) := obd (zf_X10_whole w0_68 σ) (fun σ21 => (zb_X10_sums_134 σ21))
def zb_X10_sums_74 (a1 : Int32) (a2 : Int32) (a3 : Int32) (σ : Sg) : Option (Sg) := obd (zf_X10_asFloat a2 σ) (fun r9 => obd (zf_X10_asFloat a3 σ) (fun r11 => (if a1 = (2 : Int32) then obd (zf_X10_plus r9 r11) (fun r19 => (zb_X10_sums_131 σ r19)) else (if a1 = (3 : Int32) then obd (zf_X10_minus r9 r11) (fun r17 => (zb_X10_sums_131 σ r17)) else obd (zf_X10_product r9 r11) (fun r15 => (zb_X10_sums_131 σ r15))))))
def zf_X10_sums (a1 : Int32) (a2 : Int32) (a3 : Int32) (σ : Sg) : Option (Sg) := bd a2 8 ((if (σ 8 a2.toNatClampNeg) = 0 then bd a3 8 ((if (σ 8 a3.toNatClampNeg) = 0 then letb ((σ 9 a2.toNatClampNeg).toInt64) (fun e5 => letb ((σ 9 a3.toNatClampNeg).toInt64) (fun e6 => (if a1 = (2 : Int32) then (zb_X10_sums_68 σ (e5 + e6)) else (if a1 = (3 : Int32) then (zb_X10_sums_68 σ (e5 - e6)) else (zb_X10_sums_68 σ (e5 * e6)))))) else (zb_X10_sums_74 a1 a2 a3 σ))) else (zb_X10_sums_74 a1 a2 a3 σ)))
def oc_X10_sums : List Cond := [.fieldLink RX10 31 "TraceTreesModel" "kinds" "[I", .fieldLink RX10 34 "TraceTreesModel" "bits" "[I", .methodLink RX10 201 yX10_asFloat, .instanceMethod yX10_asFloat, .selects RX10 yX10_asFloat yX10_asFloat, .initialized RX10, .fieldLink RX10 191 "TraceTreesModel" "kindOut" "I", .methodLink RX10 182 yX10_product, .static yX10_product, .methodLink RX10 207 yX10_minus, .static yX10_minus, .methodLink RX10 204 yX10_plus, .static yX10_plus, .methodLink RX10 197 yX10_whole, .instanceMethod yX10_whole, .selects RX10 yX10_whole yX10_whole, .fieldLink RX10 194 "TraceTreesModel" "bitsOut" "I"]
def vc_X10_sums : List Cond := .code yX10_sums cX10_sums 8 none :: (oc_X10_sums ++ (wsX100 ++ (vc_X10_asFloat ++ (vc_X10_product ++ (vc_X10_minus ++ (vc_X10_plus ++ (vc_X10_whole)))))))
theorem iw_X10_sums_X10 : ∀ w ∈ wsX100, w ∈ vc_X10_sums := fun _ h => List.mem_cons_of_mem _ (List.mem_append_right _ (List.mem_append_left _ h))
theorem ic_X10_sums_c_X10_asFloat : ∀ w ∈ vc_X10_asFloat, w ∈ vc_X10_sums := fun _ h => List.mem_cons_of_mem _ (List.mem_append_right _ (List.mem_append_right _ (List.mem_append_left _ h)))
theorem ic_X10_sums_c_X10_product : ∀ w ∈ vc_X10_product, w ∈ vc_X10_sums := fun _ h => List.mem_cons_of_mem _ (List.mem_append_right _ (List.mem_append_right _ (List.mem_append_right _ (List.mem_append_left _ h))))
theorem ic_X10_sums_c_X10_minus : ∀ w ∈ vc_X10_minus, w ∈ vc_X10_sums := fun _ h => List.mem_cons_of_mem _ (List.mem_append_right _ (List.mem_append_right _ (List.mem_append_right _ (List.mem_append_right _ (List.mem_append_left _ h)))))
theorem ic_X10_sums_c_X10_plus : ∀ w ∈ vc_X10_plus, w ∈ vc_X10_sums := fun _ h => List.mem_cons_of_mem _ (List.mem_append_right _ (List.mem_append_right _ (List.mem_append_right _ (List.mem_append_right _ (List.mem_append_right _ (List.mem_append_left _ h))))))
theorem ic_X10_sums_c_X10_whole : ∀ w ∈ vc_X10_whole, w ∈ vc_X10_sums := fun _ h => List.mem_cons_of_mem _ (List.mem_append_right _ (List.mem_append_right _ (List.mem_append_right _ (List.mem_append_right _ (List.mem_append_right _ (List.mem_append_right _ (h)))))))
theorem gd_c_X10_sums : (vc_X10_sums).all goodWord = true := gall_cons rfl (gall_app (by decide +kernel) (gall_app gw_X10 (gall_app gd_c_X10_asFloat (gall_app gd_c_X10_product (gall_app gd_c_X10_minus (gall_app gd_c_X10_plus gd_c_X10_whole))))))
set_option maxHeartbeats 4000000 in
set_option maxRecDepth 100000 in
theorem c_X10_sums (l : Launch) (dC : Nat → ClassId) (dI : Nat → Nat → Nat) (cI cT cS : ClassId) (sz : Nat) (ad : Nat → Nat) (a1 : Int32) (a2 : Int32) (a3 : Int32) (σ : Sg) (o : Sg) (h : zf_X10_sums a1 a2 a3 σ = some o) : gCV (S := Unit) l yX10_sums vc_X10_sums { frames := 4, cells := 0, slots := 0, locals := 110 } (dC, dI) (gTY cI cT cS) sz [.ref (ad 0), .int a1, .int a2, .int a3] (Wd 24 (cfR ad cI) σ) (fun (_ : Unit) => True) (fun (_ : Unit) => (Wd 24 (cfR ad cI) o)) 0 0 := by
  refine Met.ofW (cc := cX10_sums) (maxL := 8) (ret := none) (by decide) rfl ?_
  intro p e s m args below meth c s₁ B hml hv
  obtain ⟨rfl, hsz, hP, hK, hD0⟩ := hv
  have hx := B.exec
  have hb := B.bytes
  have hr := B.returns
  have hts := atoms_spec (ws := vc_X10_sums) B.pre
  have hown : s.vm.findClass RX10 = some m.cls := findClass_of_methodNamed B.named
  have hlocks := B.notSynchronized
  subst hsz
  have hD := hD0.self (sz := s.heap.size)
  generalize hAe : va_A (Wd 24 (cfR ad cI) σ) s.heap.size = A at hD ⊢
  have hA : ∀ q : Nat, s.heap.size ≤ q → A q := fun q h => by rw [← hAe]; exact Or.inr h
  clear hAe hD0
  refine gstart (fun H locs hHe hLe => ?_)
  have hS : va_S A s.heap H locs := by rw [← hHe, ← hLe]; exact va_S.rf
  replace hP : va_P (dC, dI) vwCl (Wd 24 (cfR ad cI) σ) H := by rw [← hHe]; exact hP
  clear hHe hLe
  have hl := lv_entry ([.ref (ad 0), .int a1, .int a2, .int a3]) (n := 8) (Nat.le_of_ble_eq_true rfl)
  rw [lg_entry_eq]
  generalize (lg_sl ([.ref (ad 0), .int a1, .int a2, .int a3]) ++ List.replicate (8 - (lg_sl ([.ref (ad 0), .int a1, .int a2, .int a3])).length) Slot.unset).toArray = ls at hl ⊢
  replace hl : lv_has ls 8 [(0, .ref (ad 0)), (1, .int a1), (2, .int a2), (3, .int a3)] := hl
  unfold zf_X10_sums at h
  have J134 : ∀ (σb134 : Sg) (H : Heap) (locs : List Loc) (ls : Array Slot), zb_X10_sums_134 σb134 = some o → va_P (dC, dI) vwCl (Wd 24 (cfR ad cI) σb134) H → va_D A (Wd 24 (cfR ad cI) σb134) → va_S A s.heap H locs → lv_has ls 8 [] → W p l e (headSpec vc_X10_sums { frames := 4, cells := 0, slots := 0, locals := 110 }).room s m (List.toArray (α := Value) [.ref (ad 0), .int a1, .int a2, .int a3]) below meth c H locs 0 0 (MQ below (va_Qv (fun (_ : Unit) => True) (gB (dC, dI) A (fun (_ : Unit) => (Wd 24 (cfR ad cI) o))) A) (List.toArray (α := Value) [.ref (ad 0), .int a1, .int a2, .int a3]) s 0 0 A) (F0 m 134 ls []) := by
    intro σb134 H locs ls h hP hD hS hl
    unfold zb_X10_sums_134 at h
    have h9 := Option.some.inj h
    exact wretv hx hb hr hlocks hP hD hS trivial (by rw [← h9]) dX10_sums_134
  have J131 : ∀ (w0_131 : Int32) (H : Heap) (locs : List Loc) (ls : Array Slot), zb_X10_sums_131 σ w0_131 = some o → va_P (dC, dI) vwCl (Wd 24 (cfR ad cI) (su σ 0 13 (1 : Int32))) H → va_D A (Wd 24 (cfR ad cI) (su σ 0 13 (1 : Int32))) → va_S A s.heap H locs → lv_has ls 8 [] → W p l e (headSpec vc_X10_sums { frames := 4, cells := 0, slots := 0, locals := 110 }).room s m (List.toArray (α := Value) [.ref (ad 0), .int a1, .int a2, .int a3]) below meth c H locs 0 0 (MQ below (va_Qv (fun (_ : Unit) => True) (gB (dC, dI) A (fun (_ : Unit) => (Wd 24 (cfR ad cI) o))) A) (List.toArray (α := Value) [.ref (ad 0), .int a1, .int a2, .int a3]) s 0 0 A) (F0 m 131 ls [.int w0_131, .ref (ad 0)]) := by
    intro w0_131 H locs ls h hP hD hS hl
    unfold zb_X10_sums_131 at h
    refine pf_X10_14 hx hb hts iw_X10_sums_X10 hown hK hP hD hS (hts (.fieldLink RX10 194 "TraceTreesModel" "bitsOut" "I") (List.mem_of_getElem? (i := 17) rfl)) dX10_sums_131 (fun H locs hP hD hS => ?_)
    exact J134 (su (su σ 0 13 (1 : Int32)) 0 14 w0_131) H locs ls h hP hD hS (lv_sub (l' := []) hl [] rfl)
  have J68 : ∀ (w0_68 : Int64) (H : Heap) (locs : List Loc) (ls : Array Slot), zb_X10_sums_68 σ w0_68 = some o → va_P (dC, dI) vwCl (Wd 24 (cfR ad cI) σ) H → va_D A (Wd 24 (cfR ad cI) σ) → va_S A s.heap H locs → lv_has ls 8 [] → W p l e (headSpec vc_X10_sums { frames := 4, cells := 0, slots := 0, locals := 110 }).room s m (List.toArray (α := Value) [.ref (ad 0), .int a1, .int a2, .int a3]) below meth c H locs 0 0 (MQ below (va_Qv (fun (_ : Unit) => True) (gB (dC, dI) A (fun (_ : Unit) => (Wd 24 (cfR ad cI) o))) A) (List.toArray (α := Value) [.ref (ad 0), .int a1, .int a2, .int a3]) s 0 0 A) (F0 m 68 ls [.long w0_68, .ref (ad 0)]) := by
    intro w0_68 H locs ls h hP hD hS hl
    unfold zb_X10_sums_68 at h
    obtain ⟨σ21, hc21, h⟩ := obd_inv h
    refine wcallv (S := Unit) (va_runV (As := [.long w0_68]) (rest := []) ⟨hx, hb, hml, hown, hts⟩ (c_X10_whole l dC dI cI cT cS H.size ad  w0_68 σ _ hc21) (cwV 1 hts (gWV (List.mem_of_getElem? (i := 14) rfl) (List.mem_of_getElem? (i := 15) rfl) (List.mem_of_getElem? (i := 16) rfl) (List.mem_of_getElem? (i := 6) rfl) ic_X10_sums_c_X10_whole gd_c_X10_whole) rfl rfl rfl (by decide +kernel) ⟨(Nat.le_of_ble_eq_true rfl), (Nat.le_of_ble_eq_true rfl)⟩) (wpV (q := (RX10, TX10, 46)) hP hK hD oX10 rfl) rfl rfl hl.1 rfl (lv_room (Nat.le_of_ble_eq_true rfl)) dX10_sums_68 ⟨(Nat.le_of_ble_eq_true rfl), (Nat.le_of_ble_eq_true rfl)⟩) hP hD hS hA (fun _ H locs hr22 hP hD hS => ?_)
    replace hP : va_P (dC, dI) vwCl (Wd 24 (cfR ad cI) σ21) H := hP
    replace hD : va_D A (Wd 24 (cfR ad cI) σ21) := hD
    refine lv_goto (tgt := 134) hx hb dX10_sums_71 (by decide) ?_
    exact J134 σ21 H locs ls h hP hD hS (lv_sub (l' := []) hl [] rfl)
  have J74 : ∀  (H : Heap) (locs : List Loc) (ls : Array Slot), zb_X10_sums_74 a1 a2 a3 σ = some o → va_P (dC, dI) vwCl (Wd 24 (cfR ad cI) σ) H → va_D A (Wd 24 (cfR ad cI) σ) → va_S A s.heap H locs → lv_has ls 8 [(0, .ref (ad 0)), (1, .int a1), (2, .int a2), (3, .int a3)] → W p l e (headSpec vc_X10_sums { frames := 4, cells := 0, slots := 0, locals := 110 }).room s m (List.toArray (α := Value) [.ref (ad 0), .int a1, .int a2, .int a3]) below meth c H locs 0 0 (MQ below (va_Qv (fun (_ : Unit) => True) (gB (dC, dI) A (fun (_ : Unit) => (Wd 24 (cfR ad cI) o))) A) (List.toArray (α := Value) [.ref (ad 0), .int a1, .int a2, .int a3]) s 0 0 A) (F0 m 74 ls []) := by
    intro  H locs ls h hP hD hS hl
    unfold zb_X10_sums_74 at h
    refine lv_aload_n hx hb dX10_sums_74 rfl (lv_at hl 0 rfl) ?_
    refine lv_iload_n hx hb dX10_sums_75 rfl (lv_at hl 2 rfl) ?_
    obtain ⟨r9, hc9, h⟩ := obd_inv h
    refine wcalli (S := Unit) (va_runV (As := [.int a2]) (rest := []) ⟨hx, hb, hml, hown, hts⟩ (c_X10_asFloat l dC dI cI cT cS H.size ad  a2 σ _ hc9) (cwV 1 hts (gWV (List.mem_of_getElem? (i := 3) rfl) (List.mem_of_getElem? (i := 4) rfl) (List.mem_of_getElem? (i := 5) rfl) (List.mem_of_getElem? (i := 6) rfl) ic_X10_sums_c_X10_asFloat gd_c_X10_asFloat) rfl rfl rfl (by decide +kernel) ⟨(Nat.le_of_ble_eq_true rfl), (Nat.le_of_ble_eq_true rfl)⟩) (wpV (q := (RX10, TX10, 46)) hP hK hD oX10 rfl) rfl rfl hl.1 rfl (lv_room (Nat.le_of_ble_eq_true rfl)) dX10_sums_76 ⟨(Nat.le_of_ble_eq_true rfl), (Nat.le_of_ble_eq_true rfl)⟩) hP hD hS hA (fun rr10 _ H locs hr10 hP hD hS => ?_)
    refine lv_nm (y := r9) hr10 ?_
    refine lv_istore (lv' := [(4, .int r9), (0, .ref (ad 0)), (1, .int a1), (2, .int a2), (3, .int a3)]) hx hb dX10_sums_79 hl (by decide) rfl (fun ls hl => ?_)
    refine lv_aload_n hx hb dX10_sums_81 rfl (lv_at hl 1 rfl) ?_
    refine lv_iload_n hx hb dX10_sums_82 rfl (lv_at hl 4 rfl) ?_
    obtain ⟨r11, hc11, h⟩ := obd_inv h
    refine wcalli (S := Unit) (va_runV (As := [.int a3]) (rest := []) ⟨hx, hb, hml, hown, hts⟩ (c_X10_asFloat l dC dI cI cT cS H.size ad  a3 σ _ hc11) (cwV 1 hts (gWV (List.mem_of_getElem? (i := 3) rfl) (List.mem_of_getElem? (i := 4) rfl) (List.mem_of_getElem? (i := 5) rfl) (List.mem_of_getElem? (i := 6) rfl) ic_X10_sums_c_X10_asFloat gd_c_X10_asFloat) rfl rfl rfl (by decide +kernel) ⟨(Nat.le_of_ble_eq_true rfl), (Nat.le_of_ble_eq_true rfl)⟩) (wpV (q := (RX10, TX10, 46)) hP hK hD oX10 rfl) rfl rfl hl.1 rfl (lv_room (Nat.le_of_ble_eq_true rfl)) dX10_sums_83 ⟨(Nat.le_of_ble_eq_true rfl), (Nat.le_of_ble_eq_true rfl)⟩) hP hD hS hA (fun rr12 _ H locs hr12 hP hD hS => ?_)
    refine lv_nm (y := r11) hr12 ?_
    refine lv_istore (lv' := [(5, .int r11), (4, .int r9), (0, .ref (ad 0)), (1, .int a1), (2, .int a2), (3, .int a3)]) hx hb dX10_sums_86 hl (by decide) rfl (fun ls hl => ?_)
    refine lv_aload_n hx hb dX10_sums_88 rfl (lv_at hl 2 rfl) ?_
    refine lv_iconst (v := 1) hx hb dX10_sums_89 (by decide) ?_
    refine pf_X10_13 hx hb hts iw_X10_sums_X10 hown hK hP hD hS (hts (.fieldLink RX10 191 "TraceTreesModel" "kindOut" "I") (List.mem_of_getElem? (i := 7) rfl)) dX10_sums_90 (fun H locs hP hD hS => ?_)
    refine lv_aload_n hx hb dX10_sums_93 rfl (lv_at hl 2 rfl) ?_
    refine lv_iload_n hx hb dX10_sums_94 rfl (lv_at hl 3 rfl) ?_
    refine lv_iconst (v := 2) hx hb dX10_sums_95 (by decide) ?_
    refine lv_icmp_ne (tgt := 109) hx hb dX10_sums_96 (by decide) (fun c13 => ?_) (fun c13 => ?_)
    · replace h := ifn (c13) h
      refine lv_iload_n hx hb dX10_sums_109 rfl (lv_at hl 3 rfl) ?_
      refine lv_iconst (v := 3) hx hb dX10_sums_110 (by decide) ?_
      refine lv_icmp_ne (tgt := 124) hx hb dX10_sums_111 (by decide) (fun c14 => ?_) (fun c14 => ?_)
      · replace h := ifn (c14) h
        refine lv_iload hx hb dX10_sums_124 (lv_at hl 1 rfl) ?_
        refine lv_iload hx hb dX10_sums_126 (lv_at hl 0 rfl) ?_
        obtain ⟨r15, hc15, h⟩ := obd_inv h
        refine wcalli (S := Unit) (va_runS (As := [.int r9, .int r11]) (rest := [.ref (ad 0)]) ⟨hx, hb, hml, hown, hts⟩ (c_X10_product l dC dI cI cT cS H.size (Wd 24 (cfR ad cI) (su σ 0 13 (1 : Int32)))  r9 r11 _ hc15) (va_cwS 2 hts (gWS (List.mem_of_getElem? (i := 8) rfl) (List.mem_of_getElem? (i := 9) rfl) (List.mem_of_getElem? (i := 6) rfl) ic_X10_sums_c_X10_product gd_c_X10_product) rfl rfl rfl (by decide +kernel) ⟨(Nat.le_of_ble_eq_true rfl), (Nat.le_of_ble_eq_true rfl)⟩) (gpS hP hK hD) rfl rfl hl.1 rfl (lv_room (Nat.le_of_ble_eq_true rfl)) dX10_sums_128 ⟨(Nat.le_of_ble_eq_true rfl), (Nat.le_of_ble_eq_true rfl)⟩) hP hD hS hA (fun rr16 _ H locs hr16 hP hD hS => ?_)
        refine lv_nm (y := r15) hr16 ?_
        exact J131 r15 H locs ls h hP hD hS (lv_sub (l' := []) hl [] rfl)
      · replace h := ifp (c14) h
        refine lv_iload hx hb dX10_sums_114 (lv_at hl 1 rfl) ?_
        refine lv_iload hx hb dX10_sums_116 (lv_at hl 0 rfl) ?_
        obtain ⟨r17, hc17, h⟩ := obd_inv h
        refine wcalli (S := Unit) (va_runS (As := [.int r9, .int r11]) (rest := [.ref (ad 0)]) ⟨hx, hb, hml, hown, hts⟩ (c_X10_minus l dC dI cI cT cS H.size (Wd 24 (cfR ad cI) (su σ 0 13 (1 : Int32)))  r9 r11 _ hc17) (va_cwS 2 hts (gWS (List.mem_of_getElem? (i := 10) rfl) (List.mem_of_getElem? (i := 11) rfl) (List.mem_of_getElem? (i := 6) rfl) ic_X10_sums_c_X10_minus gd_c_X10_minus) rfl rfl rfl (by decide +kernel) ⟨(Nat.le_of_ble_eq_true rfl), (Nat.le_of_ble_eq_true rfl)⟩) (gpS hP hK hD) rfl rfl hl.1 rfl (lv_room (Nat.le_of_ble_eq_true rfl)) dX10_sums_118 ⟨(Nat.le_of_ble_eq_true rfl), (Nat.le_of_ble_eq_true rfl)⟩) hP hD hS hA (fun rr18 _ H locs hr18 hP hD hS => ?_)
        refine lv_nm (y := r17) hr18 ?_
        refine lv_goto (tgt := 131) hx hb dX10_sums_121 (by decide) ?_
        exact J131 r17 H locs ls h hP hD hS (lv_sub (l' := []) hl [] rfl)
    · replace h := ifp (c13) h
      refine lv_iload hx hb dX10_sums_99 (lv_at hl 1 rfl) ?_
      refine lv_iload hx hb dX10_sums_101 (lv_at hl 0 rfl) ?_
      obtain ⟨r19, hc19, h⟩ := obd_inv h
      refine wcalli (S := Unit) (va_runS (As := [.int r9, .int r11]) (rest := [.ref (ad 0)]) ⟨hx, hb, hml, hown, hts⟩ (c_X10_plus l dC dI cI cT cS H.size (Wd 24 (cfR ad cI) (su σ 0 13 (1 : Int32)))  r9 r11 _ hc19) (va_cwS 2 hts (gWS (List.mem_of_getElem? (i := 12) rfl) (List.mem_of_getElem? (i := 13) rfl) (List.mem_of_getElem? (i := 6) rfl) ic_X10_sums_c_X10_plus gd_c_X10_plus) rfl rfl rfl (by decide +kernel) ⟨(Nat.le_of_ble_eq_true rfl), (Nat.le_of_ble_eq_true rfl)⟩) (gpS hP hK hD) rfl rfl hl.1 rfl (lv_room (Nat.le_of_ble_eq_true rfl)) dX10_sums_103 ⟨(Nat.le_of_ble_eq_true rfl), (Nat.le_of_ble_eq_true rfl)⟩) hP hD hS hA (fun rr20 _ H locs hr20 hP hD hS => ?_)
      refine lv_nm (y := r19) hr20 ?_
      refine lv_goto (tgt := 131) hx hb dX10_sums_106 (by decide) ?_
      exact J131 r19 H locs ls h hP hD hS (lv_sub (l' := []) hl [] rfl)
  refine lv_aload_n hx hb dX10_sums_0 rfl (lv_at hl 0 rfl) ?_
  refine gf_X10_11 hx hb hts iw_X10_sums_X10 hown hK hP (hts (.fieldLink RX10 31 "TraceTreesModel" "kinds" "[I") (List.mem_of_getElem? (i := 1) rfl)) dX10_sums_1 ?_
  refine lv_iload_n hx hb dX10_sums_4 rfl (lv_at hl 2 rfl) ?_
  obtain ⟨hi1, h⟩ := bd_inv h
  refine wald hx hb hK hP aR8 hi1 dX10_sums_5 ?_
  refine lv_if_ne (tgt := 74) hx hb dX10_sums_6 (by decide) (fun c2 => ?_) (fun c2 => ?_)
  · replace h := ifn (c2) h
    exact J74  H locs ls h hP hD hS (lv_sub (l' := [(0, .ref (ad 0)), (1, .int a1), (2, .int a2), (3, .int a3)]) hl [0, 1, 2, 3] rfl)
  · replace h := ifp (c2) h
    refine lv_aload_n hx hb dX10_sums_9 rfl (lv_at hl 0 rfl) ?_
    refine gf_X10_11 hx hb hts iw_X10_sums_X10 hown hK hP (hts (.fieldLink RX10 31 "TraceTreesModel" "kinds" "[I") (List.mem_of_getElem? (i := 1) rfl)) dX10_sums_10 ?_
    refine lv_iload_n hx hb dX10_sums_13 rfl (lv_at hl 3 rfl) ?_
    obtain ⟨hi3, h⟩ := bd_inv h
    refine wald hx hb hK hP aR8 hi3 dX10_sums_14 ?_
    refine lv_if_ne (tgt := 74) hx hb dX10_sums_15 (by decide) (fun c4 => ?_) (fun c4 => ?_)
    · replace h := ifn (c4) h
      exact J74  H locs ls h hP hD hS (lv_sub (l' := [(0, .ref (ad 0)), (1, .int a1), (2, .int a2), (3, .int a3)]) hl [0, 1, 2, 3] rfl)
    · replace h := ifp (c4) h
      refine lv_aload_n hx hb dX10_sums_18 rfl (lv_at hl 0 rfl) ?_
      refine gf_X10_12 hx hb hts iw_X10_sums_X10 hown hK hP (hts (.fieldLink RX10 34 "TraceTreesModel" "bits" "[I") (List.mem_of_getElem? (i := 2) rfl)) dX10_sums_19 ?_
      refine lv_iload_n hx hb dX10_sums_22 rfl (lv_at hl 2 rfl) ?_
      refine wald hx hb hK hP aR9 hi1 dX10_sums_23 ?_
      refine lv_i2l hx hb dX10_sums_24 rfl ?_
      obtain ⟨e5, he5, h⟩ := letb_inv h
      refine lv_nml he5 ?_
      refine lv_lstore (lv' := [(4, .long e5), (0, .ref (ad 0)), (1, .int a1), (2, .int a2), (3, .int a3)]) hx hb dX10_sums_25 hl (by decide) rfl (fun ls hl => ?_)
      refine lv_aload_n hx hb dX10_sums_27 rfl (lv_at hl 1 rfl) ?_
      refine gf_X10_12 hx hb hts iw_X10_sums_X10 hown hK hP (hts (.fieldLink RX10 34 "TraceTreesModel" "bits" "[I") (List.mem_of_getElem? (i := 2) rfl)) dX10_sums_28 ?_
      refine lv_iload_n hx hb dX10_sums_31 rfl (lv_at hl 4 rfl) ?_
      refine wald hx hb hK hP aR9 hi3 dX10_sums_32 ?_
      refine lv_i2l hx hb dX10_sums_33 rfl ?_
      obtain ⟨e6, he6, h⟩ := letb_inv h
      refine lv_nml he6 ?_
      refine lv_lstore (lv' := [(6, .long e6), (4, .long e5), (0, .ref (ad 0)), (1, .int a1), (2, .int a2), (3, .int a3)]) hx hb dX10_sums_34 hl (by decide) rfl (fun ls hl => ?_)
      refine lv_aload_n hx hb dX10_sums_36 rfl (lv_at hl 2 rfl) ?_
      refine lv_iload_n hx hb dX10_sums_37 rfl (lv_at hl 3 rfl) ?_
      refine lv_iconst (v := 2) hx hb dX10_sums_38 (by decide) ?_
      refine lv_icmp_ne (tgt := 50) hx hb dX10_sums_39 (by decide) (fun c7 => ?_) (fun c7 => ?_)
      · replace h := ifn (c7) h
        refine lv_iload_n hx hb dX10_sums_50 rfl (lv_at hl 3 rfl) ?_
        refine lv_iconst (v := 3) hx hb dX10_sums_51 (by decide) ?_
        refine lv_icmp_ne (tgt := 63) hx hb dX10_sums_52 (by decide) (fun c8 => ?_) (fun c8 => ?_)
        · replace h := ifn (c8) h
          refine lv_lload hx hb dX10_sums_63 (lv_at hl 1 rfl) ?_
          refine lv_lload hx hb dX10_sums_65 (lv_at hl 0 rfl) ?_
          refine lv_lmul hx hb dX10_sums_67 ?_
          exact J68 (e5 * e6) H locs ls h hP hD hS (lv_sub (l' := []) hl [] rfl)
        · replace h := ifp (c8) h
          refine lv_lload hx hb dX10_sums_55 (lv_at hl 1 rfl) ?_
          refine lv_lload hx hb dX10_sums_57 (lv_at hl 0 rfl) ?_
          refine lv_lsub hx hb dX10_sums_59 ?_
          refine lv_goto (tgt := 68) hx hb dX10_sums_60 (by decide) ?_
          exact J68 (e5 - e6) H locs ls h hP hD hS (lv_sub (l' := []) hl [] rfl)
      · replace h := ifp (c7) h
        refine lv_lload hx hb dX10_sums_42 (lv_at hl 1 rfl) ?_
        refine lv_lload hx hb dX10_sums_44 (lv_at hl 0 rfl) ?_
        refine lv_ladd hx hb dX10_sums_46 ?_
        refine lv_goto (tgt := 68) hx hb dX10_sums_47 (by decide) ?_
        exact J68 (e5 + e6) H locs ls h hP hD hS (lv_sub (l' := []) hl [] rfl)
def zb_X10_halves_65 (w0_65 : Int32) (σb65 : Sg) : Option (Sg) := some (su σb65 0 14 w0_65)
def zb_X10_halves_36 (a1 : Int32) (σ : Sg) (v2_36 : Bool) (w0_36 : Bool) : Option (Sg) := (if v2_36 = true then bd a1 8 ((zb_X10_halves_65 ((σ 9 a1.toNatClampNeg) / (2 : Int32)) (su σ 0 13 (b2i w0_36)))) else obd (zf_X10_asFloat a1 (su σ 0 13 (b2i w0_36))) (fun r6 => obd (zf_X10_product r6 (1056964608 : Int32)) (fun r8 => (zb_X10_halves_65 r8 (su σ 0 13 (b2i w0_36))))))
def zb_X10_halves_25 (a1 : Int32) (σ : Sg) (w0_25 : Bool) : Option (Sg) := (if w0_25 = true then (zb_X10_halves_36 a1 σ w0_25 false) else (zb_X10_halves_36 a1 σ w0_25 true))
def zb_X10_halves_24 (a1 : Int32) (σ : Sg) : Option (Sg) := (zb_X10_halves_25 a1 σ false)
def zf_X10_halves (a1 : Int32) (σ : Sg) : Option (Sg) := bd a1 8 ((if (σ 8 a1.toNatClampNeg) = 0 then (if ((σ 9 a1.toNatClampNeg) - (σ 9 a1.toNatClampNeg) / (2 : Int32) * (2 : Int32)) = 0 then (zb_X10_halves_25 a1 σ true) else (zb_X10_halves_24 a1 σ)) else (zb_X10_halves_24 a1 σ)))
def oc_X10_halves : List Cond := [.fieldLink RX10 31 "TraceTreesModel" "kinds" "[I", .fieldLink RX10 34 "TraceTreesModel" "bits" "[I", .fieldLink RX10 191 "TraceTreesModel" "kindOut" "I", .methodLink RX10 201 yX10_asFloat, .instanceMethod yX10_asFloat, .selects RX10 yX10_asFloat yX10_asFloat, .initialized RX10, .constant RX10 213 (1056964608), .methodLink RX10 182 yX10_product, .static yX10_product, .fieldLink RX10 194 "TraceTreesModel" "bitsOut" "I"]
def vc_X10_halves : List Cond := .code yX10_halves cX10_halves 3 none :: (oc_X10_halves ++ (wsX100 ++ (vc_X10_asFloat ++ (vc_X10_product))))
theorem iw_X10_halves_X10 : ∀ w ∈ wsX100, w ∈ vc_X10_halves := fun _ h => List.mem_cons_of_mem _ (List.mem_append_right _ (List.mem_append_left _ h))
theorem ic_X10_halves_c_X10_asFloat : ∀ w ∈ vc_X10_asFloat, w ∈ vc_X10_halves := fun _ h => List.mem_cons_of_mem _ (List.mem_append_right _ (List.mem_append_right _ (List.mem_append_left _ h)))
theorem ic_X10_halves_c_X10_product : ∀ w ∈ vc_X10_product, w ∈ vc_X10_halves := fun _ h => List.mem_cons_of_mem _ (List.mem_append_right _ (List.mem_append_right _ (List.mem_append_right _ (h))))
theorem gd_c_X10_halves : (vc_X10_halves).all goodWord = true := gall_cons rfl (gall_app (by decide +kernel) (gall_app gw_X10 (gall_app gd_c_X10_asFloat gd_c_X10_product)))
set_option maxHeartbeats 4000000 in
set_option maxRecDepth 100000 in
theorem c_X10_halves (l : Launch) (dC : Nat → ClassId) (dI : Nat → Nat → Nat) (cI cT cS : ClassId) (sz : Nat) (ad : Nat → Nat) (a1 : Int32) (σ : Sg) (o : Sg) (h : zf_X10_halves a1 σ = some o) : gCV (S := Unit) l yX10_halves vc_X10_halves { frames := 4, cells := 0, slots := 0, locals := 101 } (dC, dI) (gTY cI cT cS) sz [.ref (ad 0), .int a1] (Wd 24 (cfR ad cI) σ) (fun (_ : Unit) => True) (fun (_ : Unit) => (Wd 24 (cfR ad cI) o)) 0 0 := by
  refine Met.ofW (cc := cX10_halves) (maxL := 3) (ret := none) (by decide) rfl ?_
  intro p e s m args below meth c s₁ B hml hv
  obtain ⟨rfl, hsz, hP, hK, hD0⟩ := hv
  have hx := B.exec
  have hb := B.bytes
  have hr := B.returns
  have hts := atoms_spec (ws := vc_X10_halves) B.pre
  have hown : s.vm.findClass RX10 = some m.cls := findClass_of_methodNamed B.named
  have hlocks := B.notSynchronized
  subst hsz
  have hD := hD0.self (sz := s.heap.size)
  generalize hAe : va_A (Wd 24 (cfR ad cI) σ) s.heap.size = A at hD ⊢
  have hA : ∀ q : Nat, s.heap.size ≤ q → A q := fun q h => by rw [← hAe]; exact Or.inr h
  clear hAe hD0
  refine gstart (fun H locs hHe hLe => ?_)
  have hS : va_S A s.heap H locs := by rw [← hHe, ← hLe]; exact va_S.rf
  replace hP : va_P (dC, dI) vwCl (Wd 24 (cfR ad cI) σ) H := by rw [← hHe]; exact hP
  clear hHe hLe
  have hl := lv_entry ([.ref (ad 0), .int a1]) (n := 3) (Nat.le_of_ble_eq_true rfl)
  rw [lg_entry_eq]
  generalize (lg_sl ([.ref (ad 0), .int a1]) ++ List.replicate (3 - (lg_sl ([.ref (ad 0), .int a1])).length) Slot.unset).toArray = ls at hl ⊢
  replace hl : lv_has ls 3 [(0, .ref (ad 0)), (1, .int a1)] := hl
  unfold zf_X10_halves at h
  have J65 : ∀ (w0_65 : Int32) (σb65 : Sg) (H : Heap) (locs : List Loc) (ls : Array Slot), zb_X10_halves_65 w0_65 σb65 = some o → va_P (dC, dI) vwCl (Wd 24 (cfR ad cI) σb65) H → va_D A (Wd 24 (cfR ad cI) σb65) → va_S A s.heap H locs → lv_has ls 3 [] → W p l e (headSpec vc_X10_halves { frames := 4, cells := 0, slots := 0, locals := 101 }).room s m (List.toArray (α := Value) [.ref (ad 0), .int a1]) below meth c H locs 0 0 (MQ below (va_Qv (fun (_ : Unit) => True) (gB (dC, dI) A (fun (_ : Unit) => (Wd 24 (cfR ad cI) o))) A) (List.toArray (α := Value) [.ref (ad 0), .int a1]) s 0 0 A) (F0 m 65 ls [.int w0_65, .ref (ad 0)]) := by
    intro w0_65 σb65 H locs ls h hP hD hS hl
    unfold zb_X10_halves_65 at h
    refine pf_X10_14 hx hb hts iw_X10_halves_X10 hown hK hP hD hS (hts (.fieldLink RX10 194 "TraceTreesModel" "bitsOut" "I") (List.mem_of_getElem? (i := 11) rfl)) dX10_halves_65 (fun H locs hP hD hS => ?_)
    have h9 := Option.some.inj h
    exact wretv hx hb hr hlocks hP hD hS trivial (by rw [← h9]) dX10_halves_68
  have J36 : ∀ (v2_36 : Bool) (w0_36 : Bool) (H : Heap) (locs : List Loc) (ls : Array Slot), zb_X10_halves_36 a1 σ v2_36 w0_36 = some o → va_P (dC, dI) vwCl (Wd 24 (cfR ad cI) σ) H → va_D A (Wd 24 (cfR ad cI) σ) → va_S A s.heap H locs → lv_has ls 3 [(2, .int (b2i v2_36)), (0, .ref (ad 0)), (1, .int a1)] → W p l e (headSpec vc_X10_halves { frames := 4, cells := 0, slots := 0, locals := 101 }).room s m (List.toArray (α := Value) [.ref (ad 0), .int a1]) below meth c H locs 0 0 (MQ below (va_Qv (fun (_ : Unit) => True) (gB (dC, dI) A (fun (_ : Unit) => (Wd 24 (cfR ad cI) o))) A) (List.toArray (α := Value) [.ref (ad 0), .int a1]) s 0 0 A) (F0 m 36 ls [.int (b2i w0_36), .ref (ad 0)]) := by
    intro v2_36 w0_36 H locs ls h hP hD hS hl
    unfold zb_X10_halves_36 at h
    refine pf_X10_13 hx hb hts iw_X10_halves_X10 hown hK hP hD hS (hts (.fieldLink RX10 191 "TraceTreesModel" "kindOut" "I") (List.mem_of_getElem? (i := 3) rfl)) dX10_halves_36 (fun H locs hP hD hS => ?_)
    refine lv_aload_n hx hb dX10_halves_39 rfl (lv_at hl 1 rfl) ?_
    refine lv_iload_n hx hb dX10_halves_40 rfl (lv_at hl 0 rfl) ?_
    refine lv_if_eq (tgt := 55) hx hb dX10_halves_41 (by decide) (fun c5 => ?_) (fun c5 => ?_)
    · replace h := ifn (b2i_0 c5) h
      refine lv_aload_n hx hb dX10_halves_55 rfl (lv_at hl 1 rfl) ?_
      refine lv_iload_n hx hb dX10_halves_56 rfl (lv_at hl 2 rfl) ?_
      obtain ⟨r6, hc6, h⟩ := obd_inv h
      refine wcalli (S := Unit) (va_runV (As := [.int a1]) (rest := [.ref (ad 0)]) ⟨hx, hb, hml, hown, hts⟩ (c_X10_asFloat l dC dI cI cT cS H.size ad  a1 (su σ 0 13 (b2i w0_36)) _ hc6) (cwV 1 hts (gWV (List.mem_of_getElem? (i := 4) rfl) (List.mem_of_getElem? (i := 5) rfl) (List.mem_of_getElem? (i := 6) rfl) (List.mem_of_getElem? (i := 7) rfl) ic_X10_halves_c_X10_asFloat gd_c_X10_asFloat) rfl rfl rfl (by decide +kernel) ⟨(Nat.le_of_ble_eq_true rfl), (Nat.le_of_ble_eq_true rfl)⟩) (wpV (q := (RX10, TX10, 46)) hP hK hD oX10 rfl) rfl rfl hl.1 rfl (lv_room (Nat.le_of_ble_eq_true rfl)) dX10_halves_57 ⟨(Nat.le_of_ble_eq_true rfl), (Nat.le_of_ble_eq_true rfl)⟩) hP hD hS hA (fun rr7 _ H locs hr7 hP hD hS => ?_)
      refine lv_nm (y := r6) hr7 ?_
      refine lv_ldc (v := 1056964608) hx hb hown (hts (.constant RX10 213 (1056964608)) (List.mem_of_getElem? (i := 8) rfl)) dX10_halves_60 ?_
      obtain ⟨r8, hc8, h⟩ := obd_inv h
      refine wcalli (S := Unit) (va_runS (As := [.int r6, .int (1056964608 : Int32)]) (rest := [.ref (ad 0)]) ⟨hx, hb, hml, hown, hts⟩ (c_X10_product l dC dI cI cT cS H.size (Wd 24 (cfR ad cI) (su σ 0 13 (b2i w0_36)))  r6 (1056964608 : Int32) _ hc8) (va_cwS 2 hts (gWS (List.mem_of_getElem? (i := 9) rfl) (List.mem_of_getElem? (i := 10) rfl) (List.mem_of_getElem? (i := 7) rfl) ic_X10_halves_c_X10_product gd_c_X10_product) rfl rfl rfl (by decide +kernel) ⟨(Nat.le_of_ble_eq_true rfl), (Nat.le_of_ble_eq_true rfl)⟩) (gpS hP hK hD) rfl rfl hl.1 rfl (lv_room (Nat.le_of_ble_eq_true rfl)) dX10_halves_62 ⟨(Nat.le_of_ble_eq_true rfl), (Nat.le_of_ble_eq_true rfl)⟩) hP hD hS hA (fun rr9 _ H locs hr9 hP hD hS => ?_)
      refine lv_nm (y := r8) hr9 ?_
      exact J65 r8 (su σ 0 13 (b2i w0_36)) H locs ls h hP hD hS (lv_sub (l' := []) hl [] rfl)
    · replace h := ifp (b2i_1 c5) h
      refine lv_aload_n hx hb dX10_halves_44 rfl (lv_at hl 1 rfl) ?_
      refine gf_X10_12 hx hb hts iw_X10_halves_X10 hown hK hP (hts (.fieldLink RX10 34 "TraceTreesModel" "bits" "[I") (List.mem_of_getElem? (i := 2) rfl)) dX10_halves_45 ?_
      refine lv_iload_n hx hb dX10_halves_48 rfl (lv_at hl 2 rfl) ?_
      obtain ⟨hi10, h⟩ := bd_inv h
      refine wald hx hb hK hP aR9 hi10 dX10_halves_49 ?_
      refine lv_nm (y := (σ 9 a1.toNatClampNeg)) (su_rd (by decide) rfl) ?_
      refine lv_iconst (v := 2) hx hb dX10_halves_50 (by decide) ?_
      refine lv_idiv hx hb dX10_halves_51 (by decide) ?_
      refine lv_goto (tgt := 65) hx hb dX10_halves_52 (by decide) ?_
      exact J65 ((σ 9 a1.toNatClampNeg) / (2 : Int32)) (su σ 0 13 (b2i w0_36)) H locs ls h hP hD hS (lv_sub (l' := []) hl [] rfl)
  have J25 : ∀ (w0_25 : Bool) (H : Heap) (locs : List Loc) (ls : Array Slot), zb_X10_halves_25 a1 σ w0_25 = some o → va_P (dC, dI) vwCl (Wd 24 (cfR ad cI) σ) H → va_D A (Wd 24 (cfR ad cI) σ) → va_S A s.heap H locs → lv_has ls 3 [(0, .ref (ad 0)), (1, .int a1)] → W p l e (headSpec vc_X10_halves { frames := 4, cells := 0, slots := 0, locals := 101 }).room s m (List.toArray (α := Value) [.ref (ad 0), .int a1]) below meth c H locs 0 0 (MQ below (va_Qv (fun (_ : Unit) => True) (gB (dC, dI) A (fun (_ : Unit) => (Wd 24 (cfR ad cI) o))) A) (List.toArray (α := Value) [.ref (ad 0), .int a1]) s 0 0 A) (F0 m 25 ls [.int (b2i w0_25)]) := by
    intro w0_25 H locs ls h hP hD hS hl
    unfold zb_X10_halves_25 at h
    refine lv_istore_n (lv' := [(2, .int (b2i w0_25)), (0, .ref (ad 0)), (1, .int a1)]) hx hb dX10_halves_25 rfl hl (by decide) rfl (fun ls hl => ?_)
    refine lv_aload_n hx hb dX10_halves_26 rfl (lv_at hl 1 rfl) ?_
    refine lv_iload_n hx hb dX10_halves_27 rfl (lv_at hl 0 rfl) ?_
    refine lv_if_eq (tgt := 35) hx hb dX10_halves_28 (by decide) (fun c4 => ?_) (fun c4 => ?_)
    · replace h := ifn (b2i_0 c4) h
      refine lv_iconst (v := 1) hx hb dX10_halves_35 (by decide) ?_
      exact J36 w0_25 true H locs ls h hP hD hS (lv_sub (l' := [(2, .int (b2i w0_25)), (0, .ref (ad 0)), (1, .int a1)]) hl [0, 1, 2] rfl)
    · replace h := ifp (b2i_1 c4) h
      refine lv_iconst (v := 0) hx hb dX10_halves_31 (by decide) ?_
      refine lv_goto (tgt := 36) hx hb dX10_halves_32 (by decide) ?_
      exact J36 w0_25 false H locs ls h hP hD hS (lv_sub (l' := [(2, .int (b2i w0_25)), (0, .ref (ad 0)), (1, .int a1)]) hl [0, 1, 2] rfl)
  have J24 : ∀  (H : Heap) (locs : List Loc) (ls : Array Slot), zb_X10_halves_24 a1 σ = some o → va_P (dC, dI) vwCl (Wd 24 (cfR ad cI) σ) H → va_D A (Wd 24 (cfR ad cI) σ) → va_S A s.heap H locs → lv_has ls 3 [(0, .ref (ad 0)), (1, .int a1)] → W p l e (headSpec vc_X10_halves { frames := 4, cells := 0, slots := 0, locals := 101 }).room s m (List.toArray (α := Value) [.ref (ad 0), .int a1]) below meth c H locs 0 0 (MQ below (va_Qv (fun (_ : Unit) => True) (gB (dC, dI) A (fun (_ : Unit) => (Wd 24 (cfR ad cI) o))) A) (List.toArray (α := Value) [.ref (ad 0), .int a1]) s 0 0 A) (F0 m 24 ls []) := by
    intro  H locs ls h hP hD hS hl
    unfold zb_X10_halves_24 at h
    refine lv_iconst (v := 0) hx hb dX10_halves_24 (by decide) ?_
    exact J25 false H locs ls h hP hD hS (lv_sub (l' := [(0, .ref (ad 0)), (1, .int a1)]) hl [0, 1] rfl)
  refine lv_aload_n hx hb dX10_halves_0 rfl (lv_at hl 0 rfl) ?_
  refine gf_X10_11 hx hb hts iw_X10_halves_X10 hown hK hP (hts (.fieldLink RX10 31 "TraceTreesModel" "kinds" "[I") (List.mem_of_getElem? (i := 1) rfl)) dX10_halves_1 ?_
  refine lv_iload_n hx hb dX10_halves_4 rfl (lv_at hl 1 rfl) ?_
  obtain ⟨hi1, h⟩ := bd_inv h
  refine wald hx hb hK hP aR8 hi1 dX10_halves_5 ?_
  refine lv_if_ne (tgt := 24) hx hb dX10_halves_6 (by decide) (fun c2 => ?_) (fun c2 => ?_)
  · replace h := ifn (c2) h
    exact J24  H locs ls h hP hD hS (lv_sub (l' := [(0, .ref (ad 0)), (1, .int a1)]) hl [0, 1] rfl)
  · replace h := ifp (c2) h
    refine lv_aload_n hx hb dX10_halves_9 rfl (lv_at hl 0 rfl) ?_
    refine gf_X10_12 hx hb hts iw_X10_halves_X10 hown hK hP (hts (.fieldLink RX10 34 "TraceTreesModel" "bits" "[I") (List.mem_of_getElem? (i := 2) rfl)) dX10_halves_10 ?_
    refine lv_iload_n hx hb dX10_halves_13 rfl (lv_at hl 1 rfl) ?_
    refine wald hx hb hK hP aR9 hi1 dX10_halves_14 ?_
    refine lv_iconst (v := 2) hx hb dX10_halves_15 (by decide) ?_
    refine lv_irem hx hb dX10_halves_16 (by decide) ?_
    refine lv_if_ne (tgt := 24) hx hb dX10_halves_17 (by decide) (fun c3 => ?_) (fun c3 => ?_)
    · replace h := ifn (c3) h
      exact J24  H locs ls h hP hD hS (lv_sub (l' := [(0, .ref (ad 0)), (1, .int a1)]) hl [0, 1] rfl)
    · replace h := ifp (c3) h
      refine lv_iconst (v := 1) hx hb dX10_halves_20 (by decide) ?_
      refine lv_goto (tgt := 25) hx hb dX10_halves_21 (by decide) ?_
      exact J25 true H locs ls h hP hD hS (lv_sub (l' := [(0, .ref (ad 0)), (1, .int a1)]) hl [0, 1] rfl)
def zb_X10_less_54 (w0_54 : Bool) : Option (Bool) := some w0_54
def zb_X10_less_41 (a1 : Int32) (a2 : Int32) (σ : Sg) : Option (Bool) := obd (zf_X10_asFloat a1 σ) (fun r6 => obd (zf_X10_asFloat a2 σ) (fun r8 => (zb_X10_less_54 (zf_X10_isLess r6 r8))))
def zf_X10_less (a1 : Int32) (a2 : Int32) (σ : Sg) : Option (Bool) := bd a1 8 ((if (σ 8 a1.toNatClampNeg) = 0 then bd a2 8 ((if (σ 8 a2.toNatClampNeg) = 0 then (if (σ 9 a2.toNatClampNeg) ≤ (σ 9 a1.toNatClampNeg) then (zb_X10_less_54 false) else (zb_X10_less_54 true)) else (zb_X10_less_41 a1 a2 σ))) else (zb_X10_less_41 a1 a2 σ)))
def oc_X10_less : List Cond := [.fieldLink RX10 31 "TraceTreesModel" "kinds" "[I", .fieldLink RX10 34 "TraceTreesModel" "bits" "[I", .methodLink RX10 201 yX10_asFloat, .instanceMethod yX10_asFloat, .selects RX10 yX10_asFloat yX10_asFloat, .initialized RX10, .methodLink RX10 214 yX10_isLess, .static yX10_isLess]
def vc_X10_less : List Cond := .code yX10_less cX10_less 3 (some .boolean) :: (oc_X10_less ++ (wsX100 ++ (vc_X10_asFloat ++ (vc_X10_isLess))))
theorem iw_X10_less_X10 : ∀ w ∈ wsX100, w ∈ vc_X10_less := fun _ h => List.mem_cons_of_mem _ (List.mem_append_right _ (List.mem_append_left _ h))
theorem ic_X10_less_c_X10_asFloat : ∀ w ∈ vc_X10_asFloat, w ∈ vc_X10_less := fun _ h => List.mem_cons_of_mem _ (List.mem_append_right _ (List.mem_append_right _ (List.mem_append_left _ h)))
theorem ic_X10_less_c_X10_isLess : ∀ w ∈ vc_X10_isLess, w ∈ vc_X10_less := fun _ h => List.mem_cons_of_mem _ (List.mem_append_right _ (List.mem_append_right _ (List.mem_append_right _ (h))))
theorem gd_c_X10_less : (vc_X10_less).all goodWord = true := gall_cons rfl (gall_app (by decide +kernel) (gall_app gw_X10 (gall_app gd_c_X10_asFloat gd_c_X10_isLess)))
set_option maxHeartbeats 4000000 in
set_option maxRecDepth 100000 in
theorem c_X10_less (l : Launch) (dC : Nat → ClassId) (dI : Nat → Nat → Nat) (cI cT cS : ClassId) (sz : Nat) (ad : Nat → Nat) (a1 : Int32) (a2 : Int32) (σ : Sg) (o : Bool) (h : zf_X10_less a1 a2 σ = some o) : gCI (S := Unit) l yX10_less vc_X10_less { frames := 4, cells := 0, slots := 0, locals := 101 } (dC, dI) (gTY cI cT cS) sz [.ref (ad 0), .int a1, .int a2] (Wd 24 (cfR ad cI) σ) (fun (r : Int32) (_ : Unit) => r = b2i o) (fun (_ : Unit) => (Wd 24 (cfR ad cI) σ)) 0 0 := by
  refine Met.ofW (cc := cX10_less) (maxL := 3) (ret := (some .boolean)) (by decide) rfl ?_
  intro p e s m args below meth c s₁ B hml hv
  obtain ⟨rfl, hsz, hP, hK, hD0⟩ := hv
  have hx := B.exec
  have hb := B.bytes
  have hr := B.returns
  have hts := atoms_spec (ws := vc_X10_less) B.pre
  have hown : s.vm.findClass RX10 = some m.cls := findClass_of_methodNamed B.named
  have hlocks := B.notSynchronized
  subst hsz
  have hD := hD0.self (sz := s.heap.size)
  generalize hAe : va_A (Wd 24 (cfR ad cI) σ) s.heap.size = A at hD ⊢
  have hA : ∀ q : Nat, s.heap.size ≤ q → A q := fun q h => by rw [← hAe]; exact Or.inr h
  clear hAe hD0
  refine gstart (fun H locs hHe hLe => ?_)
  have hS : va_S A s.heap H locs := by rw [← hHe, ← hLe]; exact va_S.rf
  replace hP : va_P (dC, dI) vwCl (Wd 24 (cfR ad cI) σ) H := by rw [← hHe]; exact hP
  clear hHe hLe
  have hl := lv_entry ([.ref (ad 0), .int a1, .int a2]) (n := 3) (Nat.le_of_ble_eq_true rfl)
  rw [lg_entry_eq]
  generalize (lg_sl ([.ref (ad 0), .int a1, .int a2]) ++ List.replicate (3 - (lg_sl ([.ref (ad 0), .int a1, .int a2])).length) Slot.unset).toArray = ls at hl ⊢
  replace hl : lv_has ls 3 [(0, .ref (ad 0)), (1, .int a1), (2, .int a2)] := hl
  unfold zf_X10_less at h
  have J54 : ∀ (w0_54 : Bool) (H : Heap) (locs : List Loc) (ls : Array Slot), zb_X10_less_54 w0_54 = some o → va_P (dC, dI) vwCl (Wd 24 (cfR ad cI) σ) H → va_D A (Wd 24 (cfR ad cI) σ) → va_S A s.heap H locs → lv_has ls 3 [] → W p l e (headSpec vc_X10_less { frames := 4, cells := 0, slots := 0, locals := 101 }).room s m (List.toArray (α := Value) [.ref (ad 0), .int a1, .int a2]) below meth c H locs 0 0 (MQ below (va_Qi (fun (r : Int32) (_ : Unit) => r = b2i o) (gB (dC, dI) A (fun (_ : Unit) => (Wd 24 (cfR ad cI) σ))) A) (List.toArray (α := Value) [.ref (ad 0), .int a1, .int a2]) s 0 0 A) (F0 m 54 ls [.int (b2i w0_54)]) := by
    intro w0_54 H locs ls h hP hD hS hl
    unfold zb_X10_less_54 at h
    have h9 := Option.some.inj h
    exact wretz hx hb hr hlocks (b2i_or _) hP hD hS (by show _ = _; rw [← h9]; first | done | rfl) rfl dX10_less_54
  have J41 : ∀  (H : Heap) (locs : List Loc) (ls : Array Slot), zb_X10_less_41 a1 a2 σ = some o → va_P (dC, dI) vwCl (Wd 24 (cfR ad cI) σ) H → va_D A (Wd 24 (cfR ad cI) σ) → va_S A s.heap H locs → lv_has ls 3 [(0, .ref (ad 0)), (1, .int a1), (2, .int a2)] → W p l e (headSpec vc_X10_less { frames := 4, cells := 0, slots := 0, locals := 101 }).room s m (List.toArray (α := Value) [.ref (ad 0), .int a1, .int a2]) below meth c H locs 0 0 (MQ below (va_Qi (fun (r : Int32) (_ : Unit) => r = b2i o) (gB (dC, dI) A (fun (_ : Unit) => (Wd 24 (cfR ad cI) σ))) A) (List.toArray (α := Value) [.ref (ad 0), .int a1, .int a2]) s 0 0 A) (F0 m 41 ls []) := by
    intro  H locs ls h hP hD hS hl
    unfold zb_X10_less_41 at h
    refine lv_aload_n hx hb dX10_less_41 rfl (lv_at hl 0 rfl) ?_
    refine lv_iload_n hx hb dX10_less_42 rfl (lv_at hl 1 rfl) ?_
    obtain ⟨r6, hc6, h⟩ := obd_inv h
    refine wcalli (S := Unit) (va_runV (As := [.int a1]) (rest := []) ⟨hx, hb, hml, hown, hts⟩ (c_X10_asFloat l dC dI cI cT cS H.size ad  a1 σ _ hc6) (cwV 1 hts (gWV (List.mem_of_getElem? (i := 3) rfl) (List.mem_of_getElem? (i := 4) rfl) (List.mem_of_getElem? (i := 5) rfl) (List.mem_of_getElem? (i := 6) rfl) ic_X10_less_c_X10_asFloat gd_c_X10_asFloat) rfl rfl rfl (by decide +kernel) ⟨(Nat.le_of_ble_eq_true rfl), (Nat.le_of_ble_eq_true rfl)⟩) (wpV (q := (RX10, TX10, 46)) hP hK hD oX10 rfl) rfl rfl hl.1 rfl (lv_room (Nat.le_of_ble_eq_true rfl)) dX10_less_43 ⟨(Nat.le_of_ble_eq_true rfl), (Nat.le_of_ble_eq_true rfl)⟩) hP hD hS hA (fun rr7 _ H locs hr7 hP hD hS => ?_)
    refine lv_nm (y := r6) hr7 ?_
    refine lv_aload_n hx hb dX10_less_46 rfl (lv_at hl 0 rfl) ?_
    refine lv_iload_n hx hb dX10_less_47 rfl (lv_at hl 2 rfl) ?_
    obtain ⟨r8, hc8, h⟩ := obd_inv h
    refine wcalli (S := Unit) (va_runV (As := [.int a2]) (rest := [.int r6]) ⟨hx, hb, hml, hown, hts⟩ (c_X10_asFloat l dC dI cI cT cS H.size ad  a2 σ _ hc8) (cwV 1 hts (gWV (List.mem_of_getElem? (i := 3) rfl) (List.mem_of_getElem? (i := 4) rfl) (List.mem_of_getElem? (i := 5) rfl) (List.mem_of_getElem? (i := 6) rfl) ic_X10_less_c_X10_asFloat gd_c_X10_asFloat) rfl rfl rfl (by decide +kernel) ⟨(Nat.le_of_ble_eq_true rfl), (Nat.le_of_ble_eq_true rfl)⟩) (wpV (q := (RX10, TX10, 46)) hP hK hD oX10 rfl) rfl rfl hl.1 rfl (lv_room (Nat.le_of_ble_eq_true rfl)) dX10_less_48 ⟨(Nat.le_of_ble_eq_true rfl), (Nat.le_of_ble_eq_true rfl)⟩) hP hD hS hA (fun rr9 _ H locs hr9 hP hD hS => ?_)
    refine lv_nm (y := r8) hr9 ?_
    refine wcalli (S := Unit) (va_runS (As := [.int r6, .int r8]) (rest := []) ⟨hx, hb, hml, hown, hts⟩ (c_X10_isLess l dC dI cI cT cS H.size (Wd 24 (cfR ad cI) σ)  r6 r8 _ rfl) (va_cwS 2 hts (gWS (List.mem_of_getElem? (i := 7) rfl) (List.mem_of_getElem? (i := 8) rfl) (List.mem_of_getElem? (i := 6) rfl) ic_X10_less_c_X10_isLess gd_c_X10_isLess) rfl rfl rfl (by decide +kernel) ⟨(Nat.le_of_ble_eq_true rfl), (Nat.le_of_ble_eq_true rfl)⟩) (gpS hP hK hD) rfl rfl hl.1 rfl (lv_room (Nat.le_of_ble_eq_true rfl)) dX10_less_51 ⟨(Nat.le_of_ble_eq_true rfl), (Nat.le_of_ble_eq_true rfl)⟩) hP hD hS hA (fun rr10 _ H locs hr10 hP hD hS => ?_)
    refine lv_nm (y := b2i (zf_X10_isLess r6 r8)) hr10 ?_
    exact J54 (zf_X10_isLess r6 r8) H locs ls h hP hD hS (lv_sub (l' := []) hl [] rfl)
  refine lv_aload_n hx hb dX10_less_0 rfl (lv_at hl 0 rfl) ?_
  refine gf_X10_11 hx hb hts iw_X10_less_X10 hown hK hP (hts (.fieldLink RX10 31 "TraceTreesModel" "kinds" "[I") (List.mem_of_getElem? (i := 1) rfl)) dX10_less_1 ?_
  refine lv_iload_n hx hb dX10_less_4 rfl (lv_at hl 1 rfl) ?_
  obtain ⟨hi1, h⟩ := bd_inv h
  refine wald hx hb hK hP aR8 hi1 dX10_less_5 ?_
  refine lv_if_ne (tgt := 41) hx hb dX10_less_6 (by decide) (fun c2 => ?_) (fun c2 => ?_)
  · replace h := ifn (c2) h
    exact J41  H locs ls h hP hD hS (lv_sub (l' := [(0, .ref (ad 0)), (1, .int a1), (2, .int a2)]) hl [0, 1, 2] rfl)
  · replace h := ifp (c2) h
    refine lv_aload_n hx hb dX10_less_9 rfl (lv_at hl 0 rfl) ?_
    refine gf_X10_11 hx hb hts iw_X10_less_X10 hown hK hP (hts (.fieldLink RX10 31 "TraceTreesModel" "kinds" "[I") (List.mem_of_getElem? (i := 1) rfl)) dX10_less_10 ?_
    refine lv_iload_n hx hb dX10_less_13 rfl (lv_at hl 2 rfl) ?_
    obtain ⟨hi3, h⟩ := bd_inv h
    refine wald hx hb hK hP aR8 hi3 dX10_less_14 ?_
    refine lv_if_ne (tgt := 41) hx hb dX10_less_15 (by decide) (fun c4 => ?_) (fun c4 => ?_)
    · replace h := ifn (c4) h
      exact J41  H locs ls h hP hD hS (lv_sub (l' := [(0, .ref (ad 0)), (1, .int a1), (2, .int a2)]) hl [0, 1, 2] rfl)
    · replace h := ifp (c4) h
      refine lv_aload_n hx hb dX10_less_18 rfl (lv_at hl 0 rfl) ?_
      refine gf_X10_12 hx hb hts iw_X10_less_X10 hown hK hP (hts (.fieldLink RX10 34 "TraceTreesModel" "bits" "[I") (List.mem_of_getElem? (i := 2) rfl)) dX10_less_19 ?_
      refine lv_iload_n hx hb dX10_less_22 rfl (lv_at hl 1 rfl) ?_
      refine wald hx hb hK hP aR9 hi1 dX10_less_23 ?_
      refine lv_aload_n hx hb dX10_less_24 rfl (lv_at hl 0 rfl) ?_
      refine gf_X10_12 hx hb hts iw_X10_less_X10 hown hK hP (hts (.fieldLink RX10 34 "TraceTreesModel" "bits" "[I") (List.mem_of_getElem? (i := 2) rfl)) dX10_less_25 ?_
      refine lv_iload_n hx hb dX10_less_28 rfl (lv_at hl 2 rfl) ?_
      refine wald hx hb hK hP aR9 hi3 dX10_less_29 ?_
      refine lv_icmp_ge (tgt := 37) hx hb dX10_less_30 (by decide) (fun c5 => ?_) (fun c5 => ?_)
      · replace h := ifp (c5) h
        refine lv_iconst (v := 0) hx hb dX10_less_37 (by decide) ?_
        refine lv_goto (tgt := 54) hx hb dX10_less_38 (by decide) ?_
        exact J54 false H locs ls h hP hD hS (lv_sub (l' := []) hl [] rfl)
      · replace h := ifn (c5) h
        refine lv_iconst (v := 1) hx hb dX10_less_33 (by decide) ?_
        refine lv_goto (tgt := 54) hx hb dX10_less_34 (by decide) ?_
        exact J54 true H locs ls h hP hD hS (lv_sub (l' := []) hl [] rfl)
def zb_X10_prepares_208 (σb208 : Sg) : Option (Sg) := some σb208
def zb_X10_prepares_202 (σ : Sg) (w0_202 : Bool) : Option (Sg) := (zb_X10_prepares_208 (su (su (su (su σ 0 15 (0 : Int32)) 0 13 (0 : Int32)) 0 14 (0 : Int32)) 0 15 (b2i w0_202)))
def zb_X10_prepares_124 (a1 : Int32) (σ : Sg) (v2_124 : Int32) : Option (Sg) := obd (zf_X10_y a1 (su (su (su σ 0 15 (0 : Int32)) 0 13 (0 : Int32)) 0 14 (0 : Int32))) (fun r33 => obd (zf_X10_z a1 (su (su (su σ 0 15 (0 : Int32)) 0 13 (0 : Int32)) 0 14 (0 : Int32))) (fun r35 => obd (zf_X10_sums v2_124 r33 r35 (su (su (su σ 0 15 (0 : Int32)) 0 13 (0 : Int32)) 0 14 (0 : Int32))) (fun σ37 => (zb_X10_prepares_208 σ37))))
def zf_X10_prepares (a1 : Int32) (σ : Sg) : Option (Sg) := bd ((4 : Int32) * a1) 96 (letb (σ 5 ((4 : Int32) * a1).toNatClampNeg) (fun e2 => (if e2 = 0 then bd (((4 : Int32) * a1) + (2 : Int32)) 96 ((zb_X10_prepares_208 (su (su (su (su σ 0 15 (0 : Int32)) 0 13 (0 : Int32)) 0 14 (0 : Int32)) 0 14 (σ 5 (((4 : Int32) * a1) + (2 : Int32)).toNatClampNeg)))) else (if e2 = 1 then obd (zf_X10_z a1 (su (su (su σ 0 15 (0 : Int32)) 0 13 (0 : Int32)) 0 14 (0 : Int32))) (fun r6 => bd r6 8 (obd (zf_X10_z a1 (su (su (su (su σ 0 15 (0 : Int32)) 0 13 (0 : Int32)) 0 14 (0 : Int32)) 0 13 (σ 8 r6.toNatClampNeg))) (fun r9 => bd r9 8 ((zb_X10_prepares_208 (su (su (su (su (su σ 0 15 (0 : Int32)) 0 13 (0 : Int32)) 0 14 (0 : Int32)) 0 13 (σ 8 r6.toNatClampNeg)) 0 14 (σ 9 r9.toNatClampNeg))))))) else (if e2 = 2 then (zb_X10_prepares_124 a1 σ e2) else (if e2 = 3 then (zb_X10_prepares_124 a1 σ e2) else (if e2 = 4 then (zb_X10_prepares_124 a1 σ e2) else (if e2 = 5 then obd (zf_X10_z a1 (su (su (su σ 0 15 (0 : Int32)) 0 13 (0 : Int32)) 0 14 (0 : Int32))) (fun r16 => obd (zf_X10_halves r16 (su (su (su σ 0 15 (0 : Int32)) 0 13 (0 : Int32)) 0 14 (0 : Int32))) (fun σ18 => (zb_X10_prepares_208 σ18))) else (if e2 = 6 then obd (zf_X10_y a1 (su (su (su σ 0 15 (0 : Int32)) 0 13 (0 : Int32)) 0 14 (0 : Int32))) (fun r21 => obd (zf_X10_z a1 (su (su (su σ 0 15 (0 : Int32)) 0 13 (0 : Int32)) 0 14 (0 : Int32))) (fun r23 => obd (zf_X10_less r21 r23 (su (su (su σ 0 15 (0 : Int32)) 0 13 (0 : Int32)) 0 14 (0 : Int32))) (fun r25 => (zb_X10_prepares_208 (su (su (su (su σ 0 15 (0 : Int32)) 0 13 (0 : Int32)) 0 14 (0 : Int32)) 0 15 (b2i r25)))))) else (if e2 = 7 then (zb_X10_prepares_208 (su (su (su (su σ 0 15 (0 : Int32)) 0 13 (0 : Int32)) 0 14 (0 : Int32)) 0 15 (1 : Int32))) else (if e2 = 8 then obd (zf_X10_z a1 (su (su (su σ 0 15 (0 : Int32)) 0 13 (0 : Int32)) 0 14 (0 : Int32))) (fun r29 => bd r29 8 ((if (σ 8 r29.toNatClampNeg) = 0 then (zb_X10_prepares_202 σ true) else (zb_X10_prepares_202 σ false)))) else (zb_X10_prepares_208 (su (su (su σ 0 15 (0 : Int32)) 0 13 (0 : Int32)) 0 14 (0 : Int32))))))))))))))
def oc_X10_prepares : List Cond := [.fieldLink RX10 22 "TraceTreesModel" "code" "[I", .fieldLink RX10 218 "TraceTreesModel" "jumps" "Z", .fieldLink RX10 191 "TraceTreesModel" "kindOut" "I", .fieldLink RX10 194 "TraceTreesModel" "bitsOut" "I", .fieldLink RX10 31 "TraceTreesModel" "kinds" "[I", .methodLink RX10 222 yX10_z, .instanceMethod yX10_z, .selects RX10 yX10_z yX10_z, .initialized RX10, .fieldLink RX10 34 "TraceTreesModel" "bits" "[I", .methodLink RX10 232 yX10_halves, .instanceMethod yX10_halves, .selects RX10 yX10_halves yX10_halves, .methodLink RX10 225 yX10_y, .instanceMethod yX10_y, .selects RX10 yX10_y yX10_y, .methodLink RX10 236 yX10_less, .instanceMethod yX10_less, .selects RX10 yX10_less yX10_less, .methodLink RX10 228 yX10_sums, .instanceMethod yX10_sums, .selects RX10 yX10_sums yX10_sums]
def vc_X10_prepares : List Cond := .code yX10_prepares cX10_prepares 3 none :: (oc_X10_prepares ++ (wsX100 ++ (vc_X10_z ++ (vc_X10_halves ++ (vc_X10_y ++ (vc_X10_less ++ (vc_X10_sums)))))))
theorem iw_X10_prepares_X10 : ∀ w ∈ wsX100, w ∈ vc_X10_prepares := fun _ h => List.mem_cons_of_mem _ (List.mem_append_right _ (List.mem_append_left _ h))
theorem ic_X10_prepares_c_X10_z : ∀ w ∈ vc_X10_z, w ∈ vc_X10_prepares := fun _ h => List.mem_cons_of_mem _ (List.mem_append_right _ (List.mem_append_right _ (List.mem_append_left _ h)))
theorem ic_X10_prepares_c_X10_halves : ∀ w ∈ vc_X10_halves, w ∈ vc_X10_prepares := fun _ h => List.mem_cons_of_mem _ (List.mem_append_right _ (List.mem_append_right _ (List.mem_append_right _ (List.mem_append_left _ h))))
theorem ic_X10_prepares_c_X10_y : ∀ w ∈ vc_X10_y, w ∈ vc_X10_prepares := fun _ h => List.mem_cons_of_mem _ (List.mem_append_right _ (List.mem_append_right _ (List.mem_append_right _ (List.mem_append_right _ (List.mem_append_left _ h)))))
theorem ic_X10_prepares_c_X10_less : ∀ w ∈ vc_X10_less, w ∈ vc_X10_prepares := fun _ h => List.mem_cons_of_mem _ (List.mem_append_right _ (List.mem_append_right _ (List.mem_append_right _ (List.mem_append_right _ (List.mem_append_right _ (List.mem_append_left _ h))))))
theorem ic_X10_prepares_c_X10_sums : ∀ w ∈ vc_X10_sums, w ∈ vc_X10_prepares := fun _ h => List.mem_cons_of_mem _ (List.mem_append_right _ (List.mem_append_right _ (List.mem_append_right _ (List.mem_append_right _ (List.mem_append_right _ (List.mem_append_right _ (h)))))))
theorem gd_c_X10_prepares : (vc_X10_prepares).all goodWord = true := gall_cons rfl (gall_app (by decide +kernel) (gall_app gw_X10 (gall_app gd_c_X10_z (gall_app gd_c_X10_halves (gall_app gd_c_X10_y (gall_app gd_c_X10_less gd_c_X10_sums))))))
set_option maxHeartbeats 4000000 in
set_option maxRecDepth 100000 in
theorem c_X10_prepares (l : Launch) (dC : Nat → ClassId) (dI : Nat → Nat → Nat) (cI cT cS : ClassId) (sz : Nat) (ad : Nat → Nat) (a1 : Int32) (σ : Sg) (o : Sg) (h : zf_X10_prepares a1 σ = some o) : gCV (S := Unit) l yX10_prepares vc_X10_prepares { frames := 5, cells := 0, slots := 0, locals := 137 } (dC, dI) (gTY cI cT cS) sz [.ref (ad 0), .int a1] (Wd 24 (cfR ad cI) σ) (fun (_ : Unit) => True) (fun (_ : Unit) => (Wd 24 (cfR ad cI) o)) 0 0 := by
  refine Met.ofW (cc := cX10_prepares) (maxL := 3) (ret := none) (by decide) rfl ?_
  intro p e s m args below meth c s₁ B hml hv
  obtain ⟨rfl, hsz, hP, hK, hD0⟩ := hv
  have hx := B.exec
  have hb := B.bytes
  have hr := B.returns
  have hts := atoms_spec (ws := vc_X10_prepares) B.pre
  have hown : s.vm.findClass RX10 = some m.cls := findClass_of_methodNamed B.named
  have hlocks := B.notSynchronized
  subst hsz
  have hD := hD0.self (sz := s.heap.size)
  generalize hAe : va_A (Wd 24 (cfR ad cI) σ) s.heap.size = A at hD ⊢
  have hA : ∀ q : Nat, s.heap.size ≤ q → A q := fun q h => by rw [← hAe]; exact Or.inr h
  clear hAe hD0
  refine gstart (fun H locs hHe hLe => ?_)
  have hS : va_S A s.heap H locs := by rw [← hHe, ← hLe]; exact va_S.rf
  replace hP : va_P (dC, dI) vwCl (Wd 24 (cfR ad cI) σ) H := by rw [← hHe]; exact hP
  clear hHe hLe
  have hl := lv_entry ([.ref (ad 0), .int a1]) (n := 3) (Nat.le_of_ble_eq_true rfl)
  rw [lg_entry_eq]
  generalize (lg_sl ([.ref (ad 0), .int a1]) ++ List.replicate (3 - (lg_sl ([.ref (ad 0), .int a1])).length) Slot.unset).toArray = ls at hl ⊢
  replace hl : lv_has ls 3 [(0, .ref (ad 0)), (1, .int a1)] := hl
  unfold zf_X10_prepares at h
  have J208 : ∀ (σb208 : Sg) (H : Heap) (locs : List Loc) (ls : Array Slot), zb_X10_prepares_208 σb208 = some o → va_P (dC, dI) vwCl (Wd 24 (cfR ad cI) σb208) H → va_D A (Wd 24 (cfR ad cI) σb208) → va_S A s.heap H locs → lv_has ls 3 [] → W p l e (headSpec vc_X10_prepares { frames := 5, cells := 0, slots := 0, locals := 137 }).room s m (List.toArray (α := Value) [.ref (ad 0), .int a1]) below meth c H locs 0 0 (MQ below (va_Qv (fun (_ : Unit) => True) (gB (dC, dI) A (fun (_ : Unit) => (Wd 24 (cfR ad cI) o))) A) (List.toArray (α := Value) [.ref (ad 0), .int a1]) s 0 0 A) (F0 m 208 ls []) := by
    intro σb208 H locs ls h hP hD hS hl
    unfold zb_X10_prepares_208 at h
    have h9 := Option.some.inj h
    exact wretv hx hb hr hlocks hP hD hS trivial (by rw [← h9]) dX10_prepares_208
  have J202 : ∀ (w0_202 : Bool) (H : Heap) (locs : List Loc) (ls : Array Slot), zb_X10_prepares_202 σ w0_202 = some o → va_P (dC, dI) vwCl (Wd 24 (cfR ad cI) (su (su (su σ 0 15 (0 : Int32)) 0 13 (0 : Int32)) 0 14 (0 : Int32))) H → va_D A (Wd 24 (cfR ad cI) (su (su (su σ 0 15 (0 : Int32)) 0 13 (0 : Int32)) 0 14 (0 : Int32))) → va_S A s.heap H locs → lv_has ls 3 [] → W p l e (headSpec vc_X10_prepares { frames := 5, cells := 0, slots := 0, locals := 137 }).room s m (List.toArray (α := Value) [.ref (ad 0), .int a1]) below meth c H locs 0 0 (MQ below (va_Qv (fun (_ : Unit) => True) (gB (dC, dI) A (fun (_ : Unit) => (Wd 24 (cfR ad cI) o))) A) (List.toArray (α := Value) [.ref (ad 0), .int a1]) s 0 0 A) (F0 m 202 ls [.int (b2i w0_202), .ref (ad 0)]) := by
    intro w0_202 H locs ls h hP hD hS hl
    unfold zb_X10_prepares_202 at h
    refine pf_X10_15 (b2i_or w0_202) hx hb hts iw_X10_prepares_X10 hown hK hP hD hS (hts (.fieldLink RX10 218 "TraceTreesModel" "jumps" "Z") (List.mem_of_getElem? (i := 2) rfl)) dX10_prepares_202 (fun H locs hP hD hS => ?_)
    refine lv_goto (tgt := 208) hx hb dX10_prepares_205 (by decide) ?_
    exact J208 (su (su (su (su σ 0 15 (0 : Int32)) 0 13 (0 : Int32)) 0 14 (0 : Int32)) 0 15 (b2i w0_202)) H locs ls h hP hD hS (lv_sub (l' := []) hl [] rfl)
  have J124 : ∀ (v2_124 : Int32) (H : Heap) (locs : List Loc) (ls : Array Slot), zb_X10_prepares_124 a1 σ v2_124 = some o → va_P (dC, dI) vwCl (Wd 24 (cfR ad cI) (su (su (su σ 0 15 (0 : Int32)) 0 13 (0 : Int32)) 0 14 (0 : Int32))) H → va_D A (Wd 24 (cfR ad cI) (su (su (su σ 0 15 (0 : Int32)) 0 13 (0 : Int32)) 0 14 (0 : Int32))) → va_S A s.heap H locs → lv_has ls 3 [(2, .int v2_124), (0, .ref (ad 0)), (1, .int a1)] → W p l e (headSpec vc_X10_prepares { frames := 5, cells := 0, slots := 0, locals := 137 }).room s m (List.toArray (α := Value) [.ref (ad 0), .int a1]) below meth c H locs 0 0 (MQ below (va_Qv (fun (_ : Unit) => True) (gB (dC, dI) A (fun (_ : Unit) => (Wd 24 (cfR ad cI) o))) A) (List.toArray (α := Value) [.ref (ad 0), .int a1]) s 0 0 A) (F0 m 124 ls []) := by
    intro v2_124 H locs ls h hP hD hS hl
    unfold zb_X10_prepares_124 at h
    refine lv_aload_n hx hb dX10_prepares_124 rfl (lv_at hl 1 rfl) ?_
    refine lv_iload_n hx hb dX10_prepares_125 rfl (lv_at hl 0 rfl) ?_
    refine lv_aload_n hx hb dX10_prepares_126 rfl (lv_at hl 1 rfl) ?_
    refine lv_iload_n hx hb dX10_prepares_127 rfl (lv_at hl 2 rfl) ?_
    obtain ⟨r33, hc33, h⟩ := obd_inv h
    refine wcalli (S := Unit) (va_runV (As := [.int a1]) (rest := [.int v2_124, .ref (ad 0)]) ⟨hx, hb, hml, hown, hts⟩ (c_X10_y l dC dI cI cT cS H.size ad  a1 (su (su (su σ 0 15 (0 : Int32)) 0 13 (0 : Int32)) 0 14 (0 : Int32)) _ hc33) (cwV 1 hts (gWV (List.mem_of_getElem? (i := 14) rfl) (List.mem_of_getElem? (i := 15) rfl) (List.mem_of_getElem? (i := 16) rfl) (List.mem_of_getElem? (i := 9) rfl) ic_X10_prepares_c_X10_y gd_c_X10_y) rfl rfl rfl (by decide +kernel) ⟨(Nat.le_of_ble_eq_true rfl), (Nat.le_of_ble_eq_true rfl)⟩) (wpV (q := (RX10, TX10, 46)) hP hK hD oX10 rfl) rfl rfl hl.1 rfl (lv_room (Nat.le_of_ble_eq_true rfl)) dX10_prepares_128 ⟨(Nat.le_of_ble_eq_true rfl), (Nat.le_of_ble_eq_true rfl)⟩) hP hD hS hA (fun rr34 _ H locs hr34 hP hD hS => ?_)
    refine lv_nm (y := r33) hr34 ?_
    refine lv_aload_n hx hb dX10_prepares_131 rfl (lv_at hl 1 rfl) ?_
    refine lv_iload_n hx hb dX10_prepares_132 rfl (lv_at hl 2 rfl) ?_
    obtain ⟨r35, hc35, h⟩ := obd_inv h
    refine wcalli (S := Unit) (va_runV (As := [.int a1]) (rest := [.int r33, .int v2_124, .ref (ad 0)]) ⟨hx, hb, hml, hown, hts⟩ (c_X10_z l dC dI cI cT cS H.size ad  a1 (su (su (su σ 0 15 (0 : Int32)) 0 13 (0 : Int32)) 0 14 (0 : Int32)) _ hc35) (cwV 1 hts (gWV (List.mem_of_getElem? (i := 6) rfl) (List.mem_of_getElem? (i := 7) rfl) (List.mem_of_getElem? (i := 8) rfl) (List.mem_of_getElem? (i := 9) rfl) ic_X10_prepares_c_X10_z gd_c_X10_z) rfl rfl rfl (by decide +kernel) ⟨(Nat.le_of_ble_eq_true rfl), (Nat.le_of_ble_eq_true rfl)⟩) (wpV (q := (RX10, TX10, 46)) hP hK hD oX10 rfl) rfl rfl hl.1 rfl (lv_room (Nat.le_of_ble_eq_true rfl)) dX10_prepares_133 ⟨(Nat.le_of_ble_eq_true rfl), (Nat.le_of_ble_eq_true rfl)⟩) hP hD hS hA (fun rr36 _ H locs hr36 hP hD hS => ?_)
    refine lv_nm (y := r35) hr36 ?_
    obtain ⟨σ37, hc37, h⟩ := obd_inv h
    refine wcallv (S := Unit) (va_runV (As := [.int v2_124, .int r33, .int r35]) (rest := []) ⟨hx, hb, hml, hown, hts⟩ (c_X10_sums l dC dI cI cT cS H.size ad  v2_124 r33 r35 (su (su (su σ 0 15 (0 : Int32)) 0 13 (0 : Int32)) 0 14 (0 : Int32)) _ hc37) (cwV 3 hts (gWV (List.mem_of_getElem? (i := 20) rfl) (List.mem_of_getElem? (i := 21) rfl) (List.mem_of_getElem? (i := 22) rfl) (List.mem_of_getElem? (i := 9) rfl) ic_X10_prepares_c_X10_sums gd_c_X10_sums) rfl rfl rfl (by decide +kernel) ⟨(Nat.le_of_ble_eq_true rfl), (Nat.le_of_ble_eq_true rfl)⟩) (wpV (q := (RX10, TX10, 46)) hP hK hD oX10 rfl) rfl rfl hl.1 rfl (lv_room (Nat.le_of_ble_eq_true rfl)) dX10_prepares_136 ⟨(Nat.le_of_ble_eq_true rfl), (Nat.le_of_ble_eq_true rfl)⟩) hP hD hS hA (fun _ H locs hr38 hP hD hS => ?_)
    replace hP : va_P (dC, dI) vwCl (Wd 24 (cfR ad cI) σ37) H := hP
    replace hD : va_D A (Wd 24 (cfR ad cI) σ37) := hD
    refine lv_goto (tgt := 208) hx hb dX10_prepares_139 (by decide) ?_
    exact J208 σ37 H locs ls h hP hD hS (lv_sub (l' := []) hl [] rfl)
  refine lv_aload_n hx hb dX10_prepares_0 rfl (lv_at hl 0 rfl) ?_
  refine gf_X10_6 hx hb hts iw_X10_prepares_X10 hown hK hP (hts (.fieldLink RX10 22 "TraceTreesModel" "code" "[I") (List.mem_of_getElem? (i := 1) rfl)) dX10_prepares_1 ?_
  refine lv_iconst (v := 4) hx hb dX10_prepares_4 (by decide) ?_
  refine lv_iload_n hx hb dX10_prepares_5 rfl (lv_at hl 1 rfl) ?_
  refine lv_imul hx hb dX10_prepares_6 ?_
  obtain ⟨hi1, h⟩ := bd_inv h
  refine wald hx hb hK hP aR5 hi1 dX10_prepares_7 ?_
  obtain ⟨e2, he2, h⟩ := letb_inv h
  refine lv_nm he2 ?_
  refine lv_istore_n (lv' := [(2, .int e2), (0, .ref (ad 0)), (1, .int a1)]) hx hb dX10_prepares_8 rfl hl (by decide) rfl (fun ls hl => ?_)
  refine lv_aload_n hx hb dX10_prepares_9 rfl (lv_at hl 1 rfl) ?_
  refine lv_iconst (v := 0) hx hb dX10_prepares_10 (by decide) ?_
  refine pf_X10_15 (Or.inl rfl) hx hb hts iw_X10_prepares_X10 hown hK hP hD hS (hts (.fieldLink RX10 218 "TraceTreesModel" "jumps" "Z") (List.mem_of_getElem? (i := 2) rfl)) dX10_prepares_11 (fun H locs hP hD hS => ?_)
  refine lv_aload_n hx hb dX10_prepares_14 rfl (lv_at hl 1 rfl) ?_
  refine lv_iconst (v := 0) hx hb dX10_prepares_15 (by decide) ?_
  refine pf_X10_13 hx hb hts iw_X10_prepares_X10 hown hK hP hD hS (hts (.fieldLink RX10 191 "TraceTreesModel" "kindOut" "I") (List.mem_of_getElem? (i := 3) rfl)) dX10_prepares_16 (fun H locs hP hD hS => ?_)
  refine lv_aload_n hx hb dX10_prepares_19 rfl (lv_at hl 1 rfl) ?_
  refine lv_iconst (v := 0) hx hb dX10_prepares_20 (by decide) ?_
  refine pf_X10_14 hx hb hts iw_X10_prepares_X10 hown hK hP hD hS (hts (.fieldLink RX10 194 "TraceTreesModel" "bitsOut" "I") (List.mem_of_getElem? (i := 4) rfl)) dX10_prepares_21 (fun H locs hP hD hS => ?_)
  refine lv_iload_n hx hb dX10_prepares_24 rfl (lv_at hl 0 rfl) ?_
  by_cases c3 : e2 = 0
  · replace h := ifp c3 h
    refine lv_tableIn (off := 51) (tgt := 76) hx hb dX10_prepares_25 (by rw [c3]; decide) (by rw [c3]; decide) (by rw [c3]; decide) (by decide) ?_
    refine lv_aload_n hx hb dX10_prepares_76 rfl (lv_at hl 1 rfl) ?_
    refine lv_aload_n hx hb dX10_prepares_77 rfl (lv_at hl 1 rfl) ?_
    refine gf_X10_6 hx hb hts iw_X10_prepares_X10 hown hK hP (hts (.fieldLink RX10 22 "TraceTreesModel" "code" "[I") (List.mem_of_getElem? (i := 1) rfl)) dX10_prepares_78 ?_
    refine lv_iconst (v := 4) hx hb dX10_prepares_81 (by decide) ?_
    refine lv_iload_n hx hb dX10_prepares_82 rfl (lv_at hl 2 rfl) ?_
    refine lv_imul hx hb dX10_prepares_83 ?_
    refine lv_iconst (v := 2) hx hb dX10_prepares_84 (by decide) ?_
    refine lv_iadd hx hb dX10_prepares_85 ?_
    obtain ⟨hi4, h⟩ := bd_inv h
    refine wald hx hb hK hP aR5 hi4 dX10_prepares_86 ?_
    refine lv_nm (y := (σ 5 (((4 : Int32) * a1) + (2 : Int32)).toNatClampNeg)) (su_rd (by decide) (su_rd (by decide) (su_rd (by decide) rfl))) ?_
    refine pf_X10_14 hx hb hts iw_X10_prepares_X10 hown hK hP hD hS (hts (.fieldLink RX10 194 "TraceTreesModel" "bitsOut" "I") (List.mem_of_getElem? (i := 4) rfl)) dX10_prepares_87 (fun H locs hP hD hS => ?_)
    refine lv_goto (tgt := 208) hx hb dX10_prepares_90 (by decide) ?_
    exact J208 (su (su (su (su σ 0 15 (0 : Int32)) 0 13 (0 : Int32)) 0 14 (0 : Int32)) 0 14 (σ 5 (((4 : Int32) * a1) + (2 : Int32)).toNatClampNeg)) H locs ls h hP hD hS (lv_sub (l' := []) hl [] rfl)
  replace h := ifn c3 h
  by_cases c5 : e2 = 1
  · replace h := ifp c5 h
    refine lv_tableIn (off := 68) (tgt := 93) hx hb dX10_prepares_25 (by rw [c5]; decide) (by rw [c5]; decide) (by rw [c5]; decide) (by decide) ?_
    refine lv_aload_n hx hb dX10_prepares_93 rfl (lv_at hl 1 rfl) ?_
    refine lv_aload_n hx hb dX10_prepares_94 rfl (lv_at hl 1 rfl) ?_
    refine gf_X10_11 hx hb hts iw_X10_prepares_X10 hown hK hP (hts (.fieldLink RX10 31 "TraceTreesModel" "kinds" "[I") (List.mem_of_getElem? (i := 5) rfl)) dX10_prepares_95 ?_
    refine lv_aload_n hx hb dX10_prepares_98 rfl (lv_at hl 1 rfl) ?_
    refine lv_iload_n hx hb dX10_prepares_99 rfl (lv_at hl 2 rfl) ?_
    obtain ⟨r6, hc6, h⟩ := obd_inv h
    refine wcalli (S := Unit) (va_runV (As := [.int a1]) (rest := [.ref (ad 8), .ref (ad 0)]) ⟨hx, hb, hml, hown, hts⟩ (c_X10_z l dC dI cI cT cS H.size ad  a1 (su (su (su σ 0 15 (0 : Int32)) 0 13 (0 : Int32)) 0 14 (0 : Int32)) _ hc6) (cwV 1 hts (gWV (List.mem_of_getElem? (i := 6) rfl) (List.mem_of_getElem? (i := 7) rfl) (List.mem_of_getElem? (i := 8) rfl) (List.mem_of_getElem? (i := 9) rfl) ic_X10_prepares_c_X10_z gd_c_X10_z) rfl rfl rfl (by decide +kernel) ⟨(Nat.le_of_ble_eq_true rfl), (Nat.le_of_ble_eq_true rfl)⟩) (wpV (q := (RX10, TX10, 46)) hP hK hD oX10 rfl) rfl rfl hl.1 rfl (lv_room (Nat.le_of_ble_eq_true rfl)) dX10_prepares_100 ⟨(Nat.le_of_ble_eq_true rfl), (Nat.le_of_ble_eq_true rfl)⟩) hP hD hS hA (fun rr7 _ H locs hr7 hP hD hS => ?_)
    refine lv_nm (y := r6) hr7 ?_
    obtain ⟨hi8, h⟩ := bd_inv h
    refine wald hx hb hK hP aR8 hi8 dX10_prepares_103 ?_
    refine lv_nm (y := (σ 8 r6.toNatClampNeg)) (su_rd (by decide) (su_rd (by decide) (su_rd (by decide) rfl))) ?_
    refine pf_X10_13 hx hb hts iw_X10_prepares_X10 hown hK hP hD hS (hts (.fieldLink RX10 191 "TraceTreesModel" "kindOut" "I") (List.mem_of_getElem? (i := 3) rfl)) dX10_prepares_104 (fun H locs hP hD hS => ?_)
    refine lv_aload_n hx hb dX10_prepares_107 rfl (lv_at hl 1 rfl) ?_
    refine lv_aload_n hx hb dX10_prepares_108 rfl (lv_at hl 1 rfl) ?_
    refine gf_X10_12 hx hb hts iw_X10_prepares_X10 hown hK hP (hts (.fieldLink RX10 34 "TraceTreesModel" "bits" "[I") (List.mem_of_getElem? (i := 10) rfl)) dX10_prepares_109 ?_
    refine lv_aload_n hx hb dX10_prepares_112 rfl (lv_at hl 1 rfl) ?_
    refine lv_iload_n hx hb dX10_prepares_113 rfl (lv_at hl 2 rfl) ?_
    obtain ⟨r9, hc9, h⟩ := obd_inv h
    refine wcalli (S := Unit) (va_runV (As := [.int a1]) (rest := [.ref (ad 9), .ref (ad 0)]) ⟨hx, hb, hml, hown, hts⟩ (c_X10_z l dC dI cI cT cS H.size ad  a1 (su (su (su (su σ 0 15 (0 : Int32)) 0 13 (0 : Int32)) 0 14 (0 : Int32)) 0 13 (σ 8 r6.toNatClampNeg)) _ hc9) (cwV 1 hts (gWV (List.mem_of_getElem? (i := 6) rfl) (List.mem_of_getElem? (i := 7) rfl) (List.mem_of_getElem? (i := 8) rfl) (List.mem_of_getElem? (i := 9) rfl) ic_X10_prepares_c_X10_z gd_c_X10_z) rfl rfl rfl (by decide +kernel) ⟨(Nat.le_of_ble_eq_true rfl), (Nat.le_of_ble_eq_true rfl)⟩) (wpV (q := (RX10, TX10, 46)) hP hK hD oX10 rfl) rfl rfl hl.1 rfl (lv_room (Nat.le_of_ble_eq_true rfl)) dX10_prepares_114 ⟨(Nat.le_of_ble_eq_true rfl), (Nat.le_of_ble_eq_true rfl)⟩) hP hD hS hA (fun rr10 _ H locs hr10 hP hD hS => ?_)
    refine lv_nm (y := r9) hr10 ?_
    obtain ⟨hi11, h⟩ := bd_inv h
    refine wald hx hb hK hP aR9 hi11 dX10_prepares_117 ?_
    refine lv_nm (y := (σ 9 r9.toNatClampNeg)) (su_rd (by decide) (su_rd (by decide) (su_rd (by decide) (su_rd (by decide) rfl)))) ?_
    refine pf_X10_14 hx hb hts iw_X10_prepares_X10 hown hK hP hD hS (hts (.fieldLink RX10 194 "TraceTreesModel" "bitsOut" "I") (List.mem_of_getElem? (i := 4) rfl)) dX10_prepares_118 (fun H locs hP hD hS => ?_)
    refine lv_goto (tgt := 208) hx hb dX10_prepares_121 (by decide) ?_
    exact J208 (su (su (su (su (su σ 0 15 (0 : Int32)) 0 13 (0 : Int32)) 0 14 (0 : Int32)) 0 13 (σ 8 r6.toNatClampNeg)) 0 14 (σ 9 r9.toNatClampNeg)) H locs ls h hP hD hS (lv_sub (l' := []) hl [] rfl)
  replace h := ifn c5 h
  by_cases c12 : e2 = 2
  · replace h := ifp c12 h
    refine lv_tableIn (off := 99) (tgt := 124) hx hb dX10_prepares_25 (by rw [c12]; decide) (by rw [c12]; decide) (by rw [c12]; decide) (by decide) ?_
    exact J124 e2 H locs ls h hP hD hS (lv_sub (l' := [(2, .int e2), (0, .ref (ad 0)), (1, .int a1)]) hl [0, 1, 2] rfl)
  replace h := ifn c12 h
  by_cases c13 : e2 = 3
  · replace h := ifp c13 h
    refine lv_tableIn (off := 99) (tgt := 124) hx hb dX10_prepares_25 (by rw [c13]; decide) (by rw [c13]; decide) (by rw [c13]; decide) (by decide) ?_
    exact J124 e2 H locs ls h hP hD hS (lv_sub (l' := [(2, .int e2), (0, .ref (ad 0)), (1, .int a1)]) hl [0, 1, 2] rfl)
  replace h := ifn c13 h
  by_cases c14 : e2 = 4
  · replace h := ifp c14 h
    refine lv_tableIn (off := 99) (tgt := 124) hx hb dX10_prepares_25 (by rw [c14]; decide) (by rw [c14]; decide) (by rw [c14]; decide) (by decide) ?_
    exact J124 e2 H locs ls h hP hD hS (lv_sub (l' := [(2, .int e2), (0, .ref (ad 0)), (1, .int a1)]) hl [0, 1, 2] rfl)
  replace h := ifn c14 h
  by_cases c15 : e2 = 5
  · replace h := ifp c15 h
    refine lv_tableIn (off := 117) (tgt := 142) hx hb dX10_prepares_25 (by rw [c15]; decide) (by rw [c15]; decide) (by rw [c15]; decide) (by decide) ?_
    refine lv_aload_n hx hb dX10_prepares_142 rfl (lv_at hl 1 rfl) ?_
    refine lv_aload_n hx hb dX10_prepares_143 rfl (lv_at hl 1 rfl) ?_
    refine lv_iload_n hx hb dX10_prepares_144 rfl (lv_at hl 2 rfl) ?_
    obtain ⟨r16, hc16, h⟩ := obd_inv h
    refine wcalli (S := Unit) (va_runV (As := [.int a1]) (rest := [.ref (ad 0)]) ⟨hx, hb, hml, hown, hts⟩ (c_X10_z l dC dI cI cT cS H.size ad  a1 (su (su (su σ 0 15 (0 : Int32)) 0 13 (0 : Int32)) 0 14 (0 : Int32)) _ hc16) (cwV 1 hts (gWV (List.mem_of_getElem? (i := 6) rfl) (List.mem_of_getElem? (i := 7) rfl) (List.mem_of_getElem? (i := 8) rfl) (List.mem_of_getElem? (i := 9) rfl) ic_X10_prepares_c_X10_z gd_c_X10_z) rfl rfl rfl (by decide +kernel) ⟨(Nat.le_of_ble_eq_true rfl), (Nat.le_of_ble_eq_true rfl)⟩) (wpV (q := (RX10, TX10, 46)) hP hK hD oX10 rfl) rfl rfl hl.1 rfl (lv_room (Nat.le_of_ble_eq_true rfl)) dX10_prepares_145 ⟨(Nat.le_of_ble_eq_true rfl), (Nat.le_of_ble_eq_true rfl)⟩) hP hD hS hA (fun rr17 _ H locs hr17 hP hD hS => ?_)
    refine lv_nm (y := r16) hr17 ?_
    obtain ⟨σ18, hc18, h⟩ := obd_inv h
    refine wcallv (S := Unit) (va_runV (As := [.int r16]) (rest := []) ⟨hx, hb, hml, hown, hts⟩ (c_X10_halves l dC dI cI cT cS H.size ad  r16 (su (su (su σ 0 15 (0 : Int32)) 0 13 (0 : Int32)) 0 14 (0 : Int32)) _ hc18) (cwV 1 hts (gWV (List.mem_of_getElem? (i := 11) rfl) (List.mem_of_getElem? (i := 12) rfl) (List.mem_of_getElem? (i := 13) rfl) (List.mem_of_getElem? (i := 9) rfl) ic_X10_prepares_c_X10_halves gd_c_X10_halves) rfl rfl rfl (by decide +kernel) ⟨(Nat.le_of_ble_eq_true rfl), (Nat.le_of_ble_eq_true rfl)⟩) (wpV (q := (RX10, TX10, 46)) hP hK hD oX10 rfl) rfl rfl hl.1 rfl (lv_room (Nat.le_of_ble_eq_true rfl)) dX10_prepares_148 ⟨(Nat.le_of_ble_eq_true rfl), (Nat.le_of_ble_eq_true rfl)⟩) hP hD hS hA (fun _ H locs hr19 hP hD hS => ?_)
    replace hP : va_P (dC, dI) vwCl (Wd 24 (cfR ad cI) σ18) H := hP
    replace hD : va_D A (Wd 24 (cfR ad cI) σ18) := hD
    refine lv_goto (tgt := 208) hx hb dX10_prepares_151 (by decide) ?_
    exact J208 σ18 H locs ls h hP hD hS (lv_sub (l' := []) hl [] rfl)
  replace h := ifn c15 h
  by_cases c20 : e2 = 6
  · replace h := ifp c20 h
    refine lv_tableIn (off := 129) (tgt := 154) hx hb dX10_prepares_25 (by rw [c20]; decide) (by rw [c20]; decide) (by rw [c20]; decide) (by decide) ?_
    refine lv_aload_n hx hb dX10_prepares_154 rfl (lv_at hl 1 rfl) ?_
    refine lv_aload_n hx hb dX10_prepares_155 rfl (lv_at hl 1 rfl) ?_
    refine lv_aload_n hx hb dX10_prepares_156 rfl (lv_at hl 1 rfl) ?_
    refine lv_iload_n hx hb dX10_prepares_157 rfl (lv_at hl 2 rfl) ?_
    obtain ⟨r21, hc21, h⟩ := obd_inv h
    refine wcalli (S := Unit) (va_runV (As := [.int a1]) (rest := [.ref (ad 0), .ref (ad 0)]) ⟨hx, hb, hml, hown, hts⟩ (c_X10_y l dC dI cI cT cS H.size ad  a1 (su (su (su σ 0 15 (0 : Int32)) 0 13 (0 : Int32)) 0 14 (0 : Int32)) _ hc21) (cwV 1 hts (gWV (List.mem_of_getElem? (i := 14) rfl) (List.mem_of_getElem? (i := 15) rfl) (List.mem_of_getElem? (i := 16) rfl) (List.mem_of_getElem? (i := 9) rfl) ic_X10_prepares_c_X10_y gd_c_X10_y) rfl rfl rfl (by decide +kernel) ⟨(Nat.le_of_ble_eq_true rfl), (Nat.le_of_ble_eq_true rfl)⟩) (wpV (q := (RX10, TX10, 46)) hP hK hD oX10 rfl) rfl rfl hl.1 rfl (lv_room (Nat.le_of_ble_eq_true rfl)) dX10_prepares_158 ⟨(Nat.le_of_ble_eq_true rfl), (Nat.le_of_ble_eq_true rfl)⟩) hP hD hS hA (fun rr22 _ H locs hr22 hP hD hS => ?_)
    refine lv_nm (y := r21) hr22 ?_
    refine lv_aload_n hx hb dX10_prepares_161 rfl (lv_at hl 1 rfl) ?_
    refine lv_iload_n hx hb dX10_prepares_162 rfl (lv_at hl 2 rfl) ?_
    obtain ⟨r23, hc23, h⟩ := obd_inv h
    refine wcalli (S := Unit) (va_runV (As := [.int a1]) (rest := [.int r21, .ref (ad 0), .ref (ad 0)]) ⟨hx, hb, hml, hown, hts⟩ (c_X10_z l dC dI cI cT cS H.size ad  a1 (su (su (su σ 0 15 (0 : Int32)) 0 13 (0 : Int32)) 0 14 (0 : Int32)) _ hc23) (cwV 1 hts (gWV (List.mem_of_getElem? (i := 6) rfl) (List.mem_of_getElem? (i := 7) rfl) (List.mem_of_getElem? (i := 8) rfl) (List.mem_of_getElem? (i := 9) rfl) ic_X10_prepares_c_X10_z gd_c_X10_z) rfl rfl rfl (by decide +kernel) ⟨(Nat.le_of_ble_eq_true rfl), (Nat.le_of_ble_eq_true rfl)⟩) (wpV (q := (RX10, TX10, 46)) hP hK hD oX10 rfl) rfl rfl hl.1 rfl (lv_room (Nat.le_of_ble_eq_true rfl)) dX10_prepares_163 ⟨(Nat.le_of_ble_eq_true rfl), (Nat.le_of_ble_eq_true rfl)⟩) hP hD hS hA (fun rr24 _ H locs hr24 hP hD hS => ?_)
    refine lv_nm (y := r23) hr24 ?_
    obtain ⟨r25, hc25, h⟩ := obd_inv h
    refine wcalli (S := Unit) (va_runV (As := [.int r21, .int r23]) (rest := [.ref (ad 0)]) ⟨hx, hb, hml, hown, hts⟩ (c_X10_less l dC dI cI cT cS H.size ad  r21 r23 (su (su (su σ 0 15 (0 : Int32)) 0 13 (0 : Int32)) 0 14 (0 : Int32)) _ hc25) (cwV 2 hts (gWV (List.mem_of_getElem? (i := 17) rfl) (List.mem_of_getElem? (i := 18) rfl) (List.mem_of_getElem? (i := 19) rfl) (List.mem_of_getElem? (i := 9) rfl) ic_X10_prepares_c_X10_less gd_c_X10_less) rfl rfl rfl (by decide +kernel) ⟨(Nat.le_of_ble_eq_true rfl), (Nat.le_of_ble_eq_true rfl)⟩) (wpV (q := (RX10, TX10, 46)) hP hK hD oX10 rfl) rfl rfl hl.1 rfl (lv_room (Nat.le_of_ble_eq_true rfl)) dX10_prepares_166 ⟨(Nat.le_of_ble_eq_true rfl), (Nat.le_of_ble_eq_true rfl)⟩) hP hD hS hA (fun rr26 _ H locs hr26 hP hD hS => ?_)
    refine lv_nm (y := b2i r25) hr26 ?_
    refine pf_X10_15 (b2i_or r25) hx hb hts iw_X10_prepares_X10 hown hK hP hD hS (hts (.fieldLink RX10 218 "TraceTreesModel" "jumps" "Z") (List.mem_of_getElem? (i := 2) rfl)) dX10_prepares_169 (fun H locs hP hD hS => ?_)
    refine lv_goto (tgt := 208) hx hb dX10_prepares_172 (by decide) ?_
    exact J208 (su (su (su (su σ 0 15 (0 : Int32)) 0 13 (0 : Int32)) 0 14 (0 : Int32)) 0 15 (b2i r25)) H locs ls h hP hD hS (lv_sub (l' := []) hl [] rfl)
  replace h := ifn c20 h
  by_cases c27 : e2 = 7
  · replace h := ifp c27 h
    refine lv_tableIn (off := 150) (tgt := 175) hx hb dX10_prepares_25 (by rw [c27]; decide) (by rw [c27]; decide) (by rw [c27]; decide) (by decide) ?_
    refine lv_aload_n hx hb dX10_prepares_175 rfl (lv_at hl 1 rfl) ?_
    refine lv_iconst (v := 1) hx hb dX10_prepares_176 (by decide) ?_
    refine pf_X10_15 (Or.inr rfl) hx hb hts iw_X10_prepares_X10 hown hK hP hD hS (hts (.fieldLink RX10 218 "TraceTreesModel" "jumps" "Z") (List.mem_of_getElem? (i := 2) rfl)) dX10_prepares_177 (fun H locs hP hD hS => ?_)
    refine lv_goto (tgt := 208) hx hb dX10_prepares_180 (by decide) ?_
    exact J208 (su (su (su (su σ 0 15 (0 : Int32)) 0 13 (0 : Int32)) 0 14 (0 : Int32)) 0 15 (1 : Int32)) H locs ls h hP hD hS (lv_sub (l' := []) hl [] rfl)
  replace h := ifn c27 h
  by_cases c28 : e2 = 8
  · replace h := ifp c28 h
    refine lv_tableIn (off := 158) (tgt := 183) hx hb dX10_prepares_25 (by rw [c28]; decide) (by rw [c28]; decide) (by rw [c28]; decide) (by decide) ?_
    refine lv_aload_n hx hb dX10_prepares_183 rfl (lv_at hl 1 rfl) ?_
    refine lv_aload_n hx hb dX10_prepares_184 rfl (lv_at hl 1 rfl) ?_
    refine gf_X10_11 hx hb hts iw_X10_prepares_X10 hown hK hP (hts (.fieldLink RX10 31 "TraceTreesModel" "kinds" "[I") (List.mem_of_getElem? (i := 5) rfl)) dX10_prepares_185 ?_
    refine lv_aload_n hx hb dX10_prepares_188 rfl (lv_at hl 1 rfl) ?_
    refine lv_iload_n hx hb dX10_prepares_189 rfl (lv_at hl 2 rfl) ?_
    obtain ⟨r29, hc29, h⟩ := obd_inv h
    refine wcalli (S := Unit) (va_runV (As := [.int a1]) (rest := [.ref (ad 8), .ref (ad 0)]) ⟨hx, hb, hml, hown, hts⟩ (c_X10_z l dC dI cI cT cS H.size ad  a1 (su (su (su σ 0 15 (0 : Int32)) 0 13 (0 : Int32)) 0 14 (0 : Int32)) _ hc29) (cwV 1 hts (gWV (List.mem_of_getElem? (i := 6) rfl) (List.mem_of_getElem? (i := 7) rfl) (List.mem_of_getElem? (i := 8) rfl) (List.mem_of_getElem? (i := 9) rfl) ic_X10_prepares_c_X10_z gd_c_X10_z) rfl rfl rfl (by decide +kernel) ⟨(Nat.le_of_ble_eq_true rfl), (Nat.le_of_ble_eq_true rfl)⟩) (wpV (q := (RX10, TX10, 46)) hP hK hD oX10 rfl) rfl rfl hl.1 rfl (lv_room (Nat.le_of_ble_eq_true rfl)) dX10_prepares_190 ⟨(Nat.le_of_ble_eq_true rfl), (Nat.le_of_ble_eq_true rfl)⟩) hP hD hS hA (fun rr30 _ H locs hr30 hP hD hS => ?_)
    refine lv_nm (y := r29) hr30 ?_
    obtain ⟨hi31, h⟩ := bd_inv h
    refine wald hx hb hK hP aR8 hi31 dX10_prepares_193 ?_
    refine lv_nm (y := (σ 8 r29.toNatClampNeg)) (su_rd (by decide) (su_rd (by decide) (su_rd (by decide) rfl))) ?_
    refine lv_if_ne (tgt := 201) hx hb dX10_prepares_194 (by decide) (fun c32 => ?_) (fun c32 => ?_)
    · replace h := ifn (c32) h
      refine lv_iconst (v := 0) hx hb dX10_prepares_201 (by decide) ?_
      exact J202 false H locs ls h hP hD hS (lv_sub (l' := []) hl [] rfl)
    · replace h := ifp (c32) h
      refine lv_iconst (v := 1) hx hb dX10_prepares_197 (by decide) ?_
      refine lv_goto (tgt := 202) hx hb dX10_prepares_198 (by decide) ?_
      exact J202 true H locs ls h hP hD hS (lv_sub (l' := []) hl [] rfl)
  replace h := ifn c28 h
  refine lv_tableOut (tgt := 208) hx hb dX10_prepares_25 (by have := lv_neT c3 (a := 0) (by decide); have := lv_neT c5 (a := 1) (by decide); have := lv_neT c12 (a := 2) (by decide); have := lv_neT c13 (a := 3) (by decide); have := lv_neT c14 (a := 4) (by decide); have := lv_neT c15 (a := 5) (by decide); have := lv_neT c20 (a := 6) (by decide); have := lv_neT c27 (a := 7) (by decide); have := lv_neT c28 (a := 8) (by decide); omega) (by decide) ?_
  exact J208 (su (su (su σ 0 15 (0 : Int32)) 0 13 (0 : Int32)) 0 14 (0 : Int32)) H locs ls h hP hD hS (lv_sub (l' := []) hl [] rfl)
def zb_X10_wayOf_58 (w0_58 : Int32) : Option (Int32) := some w0_58
def zb_X10_wayOf_42 (σ : Sg) : Option (Int32) := (if (σ 0 15) = 0 then (zb_X10_wayOf_58 (0 : Int32)) else (zb_X10_wayOf_58 (1 : Int32)))
def zf_X10_wayOf (a1 : Int32) (σ : Sg) : Option (Int32) := bd ((4 : Int32) * a1) 96 (letb (σ 5 ((4 : Int32) * a1).toNatClampNeg) (fun e2 => (if (zf_X10_in (e2.toInt64) (2 : Int64) (5 : Int64)) = true then (zb_X10_wayOf_58 (σ 0 13)) else (if e2 = (6 : Int32) then (zb_X10_wayOf_42 σ) else (if e2 = (8 : Int32) then (zb_X10_wayOf_42 σ) else (zb_X10_wayOf_58 (0 : Int32)))))))
def oc_X10_wayOf : List Cond := [.fieldLink RX10 22 "TraceTreesModel" "code" "[I", .constantLong RX10 99 (2), .constantLong RX10 239 (5), .methodLink RX10 86 yX10_in, .static yX10_in, .initialized RX10, .fieldLink RX10 191 "TraceTreesModel" "kindOut" "I", .fieldLink RX10 218 "TraceTreesModel" "jumps" "Z"]
def vc_X10_wayOf : List Cond := .code yX10_wayOf cX10_wayOf 3 (some .int) :: (oc_X10_wayOf ++ (wsX100 ++ (vc_X10_in)))
theorem iw_X10_wayOf_X10 : ∀ w ∈ wsX100, w ∈ vc_X10_wayOf := fun _ h => List.mem_cons_of_mem _ (List.mem_append_right _ (List.mem_append_left _ h))
theorem ic_X10_wayOf_c_X10_in : ∀ w ∈ vc_X10_in, w ∈ vc_X10_wayOf := fun _ h => List.mem_cons_of_mem _ (List.mem_append_right _ (List.mem_append_right _ (h)))
theorem gd_c_X10_wayOf : (vc_X10_wayOf).all goodWord = true := gall_cons rfl (gall_app (by decide +kernel) (gall_app gw_X10 gd_c_X10_in))
set_option maxHeartbeats 4000000 in
set_option maxRecDepth 100000 in
theorem c_X10_wayOf (l : Launch) (dC : Nat → ClassId) (dI : Nat → Nat → Nat) (cI cT cS : ClassId) (sz : Nat) (ad : Nat → Nat) (a1 : Int32) (σ : Sg) (o : Int32) (h : zf_X10_wayOf a1 σ = some o) : gCI (S := Unit) l yX10_wayOf vc_X10_wayOf { frames := 1, cells := 0, slots := 0, locals := 25 } (dC, dI) (gTY cI cT cS) sz [.ref (ad 0), .int a1] (Wd 24 (cfR ad cI) σ) (fun (r : Int32) (_ : Unit) => r = o) (fun (_ : Unit) => (Wd 24 (cfR ad cI) σ)) 0 0 := by
  refine Met.ofW (cc := cX10_wayOf) (maxL := 3) (ret := (some .int)) (by decide) rfl ?_
  intro p e s m args below meth c s₁ B hml hv
  obtain ⟨rfl, hsz, hP, hK, hD0⟩ := hv
  have hx := B.exec
  have hb := B.bytes
  have hr := B.returns
  have hts := atoms_spec (ws := vc_X10_wayOf) B.pre
  have hown : s.vm.findClass RX10 = some m.cls := findClass_of_methodNamed B.named
  have hlocks := B.notSynchronized
  subst hsz
  have hD := hD0.self (sz := s.heap.size)
  generalize hAe : va_A (Wd 24 (cfR ad cI) σ) s.heap.size = A at hD ⊢
  have hA : ∀ q : Nat, s.heap.size ≤ q → A q := fun q h => by rw [← hAe]; exact Or.inr h
  clear hAe hD0
  refine gstart (fun H locs hHe hLe => ?_)
  have hS : va_S A s.heap H locs := by rw [← hHe, ← hLe]; exact va_S.rf
  replace hP : va_P (dC, dI) vwCl (Wd 24 (cfR ad cI) σ) H := by rw [← hHe]; exact hP
  clear hHe hLe
  have hl := lv_entry ([.ref (ad 0), .int a1]) (n := 3) (Nat.le_of_ble_eq_true rfl)
  rw [lg_entry_eq]
  generalize (lg_sl ([.ref (ad 0), .int a1]) ++ List.replicate (3 - (lg_sl ([.ref (ad 0), .int a1])).length) Slot.unset).toArray = ls at hl ⊢
  replace hl : lv_has ls 3 [(0, .ref (ad 0)), (1, .int a1)] := hl
  unfold zf_X10_wayOf at h
  have J58 : ∀ (w0_58 : Int32) (H : Heap) (locs : List Loc) (ls : Array Slot), zb_X10_wayOf_58 w0_58 = some o → va_P (dC, dI) vwCl (Wd 24 (cfR ad cI) σ) H → va_D A (Wd 24 (cfR ad cI) σ) → va_S A s.heap H locs → lv_has ls 3 [] → W p l e (headSpec vc_X10_wayOf { frames := 1, cells := 0, slots := 0, locals := 25 }).room s m (List.toArray (α := Value) [.ref (ad 0), .int a1]) below meth c H locs 0 0 (MQ below (va_Qi (fun (r : Int32) (_ : Unit) => r = o) (gB (dC, dI) A (fun (_ : Unit) => (Wd 24 (cfR ad cI) σ))) A) (List.toArray (α := Value) [.ref (ad 0), .int a1]) s 0 0 A) (F0 m 58 ls [.int w0_58]) := by
    intro w0_58 H locs ls h hP hD hS hl
    unfold zb_X10_wayOf_58 at h
    have h9 := Option.some.inj h
    exact wreti hx hb hr hlocks hP hD hS (by show _ = _; rw [← h9]; first | done | rfl) rfl dX10_wayOf_58
  have J42 : ∀  (H : Heap) (locs : List Loc) (ls : Array Slot), zb_X10_wayOf_42 σ = some o → va_P (dC, dI) vwCl (Wd 24 (cfR ad cI) σ) H → va_D A (Wd 24 (cfR ad cI) σ) → va_S A s.heap H locs → lv_has ls 3 [(0, .ref (ad 0))] → W p l e (headSpec vc_X10_wayOf { frames := 1, cells := 0, slots := 0, locals := 25 }).room s m (List.toArray (α := Value) [.ref (ad 0), .int a1]) below meth c H locs 0 0 (MQ below (va_Qi (fun (r : Int32) (_ : Unit) => r = o) (gB (dC, dI) A (fun (_ : Unit) => (Wd 24 (cfR ad cI) σ))) A) (List.toArray (α := Value) [.ref (ad 0), .int a1]) s 0 0 A) (F0 m 42 ls []) := by
    intro  H locs ls h hP hD hS hl
    unfold zb_X10_wayOf_42 at h
    refine lv_aload_n hx hb dX10_wayOf_42 rfl (lv_at hl 0 rfl) ?_
    refine gf_X10_15 hx hb hts iw_X10_wayOf_X10 hown hK hP (hts (.fieldLink RX10 218 "TraceTreesModel" "jumps" "Z") (List.mem_of_getElem? (i := 8) rfl)) dX10_wayOf_43 ?_
    refine lv_if_eq (tgt := 53) hx hb dX10_wayOf_46 (by decide) (fun c7 => ?_) (fun c7 => ?_)
    · replace h := ifp (c7) h
      refine lv_iconst (v := 0) hx hb dX10_wayOf_53 (by decide) ?_
      refine lv_goto (tgt := 58) hx hb dX10_wayOf_54 (by decide) ?_
      exact J58 (0 : Int32) H locs ls h hP hD hS (lv_sub (l' := []) hl [] rfl)
    · replace h := ifn (c7) h
      refine lv_iconst (v := 1) hx hb dX10_wayOf_49 (by decide) ?_
      refine lv_goto (tgt := 58) hx hb dX10_wayOf_50 (by decide) ?_
      exact J58 (1 : Int32) H locs ls h hP hD hS (lv_sub (l' := []) hl [] rfl)
  refine lv_aload_n hx hb dX10_wayOf_0 rfl (lv_at hl 0 rfl) ?_
  refine gf_X10_6 hx hb hts iw_X10_wayOf_X10 hown hK hP (hts (.fieldLink RX10 22 "TraceTreesModel" "code" "[I") (List.mem_of_getElem? (i := 1) rfl)) dX10_wayOf_1 ?_
  refine lv_iconst (v := 4) hx hb dX10_wayOf_4 (by decide) ?_
  refine lv_iload_n hx hb dX10_wayOf_5 rfl (lv_at hl 1 rfl) ?_
  refine lv_imul hx hb dX10_wayOf_6 ?_
  obtain ⟨hi1, h⟩ := bd_inv h
  refine wald hx hb hK hP aR5 hi1 dX10_wayOf_7 ?_
  obtain ⟨e2, he2, h⟩ := letb_inv h
  refine lv_nm he2 ?_
  refine lv_istore_n (lv' := [(2, .int e2), (0, .ref (ad 0)), (1, .int a1)]) hx hb dX10_wayOf_8 rfl hl (by decide) rfl (fun ls hl => ?_)
  refine lv_iload_n hx hb dX10_wayOf_9 rfl (lv_at hl 0 rfl) ?_
  refine lv_i2l hx hb dX10_wayOf_10 rfl ?_
  refine lv_ldc2 (v := 2) hx hb hown (hts (.constantLong RX10 99 (2)) (List.mem_of_getElem? (i := 2) rfl)) dX10_wayOf_11 ?_
  refine lv_ldc2 (v := 5) hx hb hown (hts (.constantLong RX10 239 (5)) (List.mem_of_getElem? (i := 3) rfl)) dX10_wayOf_14 ?_
  refine wcalli (S := Unit) (va_runS (As := [.long (e2.toInt64), .long (2 : Int64), .long (5 : Int64)]) (rest := []) ⟨hx, hb, hml, hown, hts⟩ (c_X10_in l dC dI cI cT cS H.size (Wd 24 (cfR ad cI) σ)  (e2.toInt64) (2 : Int64) (5 : Int64) _ rfl) (va_cwS 3 hts (gWS (List.mem_of_getElem? (i := 4) rfl) (List.mem_of_getElem? (i := 5) rfl) (List.mem_of_getElem? (i := 6) rfl) ic_X10_wayOf_c_X10_in gd_c_X10_in) rfl rfl rfl (by decide +kernel) ⟨(Nat.le_of_ble_eq_true rfl), (Nat.le_of_ble_eq_true rfl)⟩) (gpS hP hK hD) rfl rfl hl.1 rfl (lv_room (Nat.le_of_ble_eq_true rfl)) dX10_wayOf_17 ⟨(Nat.le_of_ble_eq_true rfl), (Nat.le_of_ble_eq_true rfl)⟩) hP hD hS hA (fun rr3 _ H locs hr3 hP hD hS => ?_)
  refine lv_nm (y := b2i (zf_X10_in (e2.toInt64) (2 : Int64) (5 : Int64))) hr3 ?_
  refine lv_if_eq (tgt := 30) hx hb dX10_wayOf_20 (by decide) (fun c4 => ?_) (fun c4 => ?_)
  · replace h := ifn (b2i_0 c4) h
    refine lv_iload_n hx hb dX10_wayOf_30 rfl (lv_at hl 0 rfl) ?_
    refine lv_bipush (v := 6) hx hb dX10_wayOf_31 (by decide) ?_
    refine lv_icmp_eq (tgt := 42) hx hb dX10_wayOf_33 (by decide) (fun c5 => ?_) (fun c5 => ?_)
    · replace h := ifp (c5) h
      exact J42  H locs ls h hP hD hS (lv_sub (l' := [(0, .ref (ad 0))]) hl [1] rfl)
    · replace h := ifn (c5) h
      refine lv_iload_n hx hb dX10_wayOf_36 rfl (lv_at hl 0 rfl) ?_
      refine lv_bipush (v := 8) hx hb dX10_wayOf_37 (by decide) ?_
      refine lv_icmp_ne (tgt := 57) hx hb dX10_wayOf_39 (by decide) (fun c6 => ?_) (fun c6 => ?_)
      · replace h := ifn (c6) h
        refine lv_iconst (v := 0) hx hb dX10_wayOf_57 (by decide) ?_
        exact J58 (0 : Int32) H locs ls h hP hD hS (lv_sub (l' := []) hl [] rfl)
      · replace h := ifp (c6) h
        exact J42  H locs ls h hP hD hS (lv_sub (l' := [(0, .ref (ad 0))]) hl [1] rfl)
  · replace h := ifp (b2i_1 c4) h
    refine lv_aload_n hx hb dX10_wayOf_23 rfl (lv_at hl 1 rfl) ?_
    refine gf_X10_13 hx hb hts iw_X10_wayOf_X10 hown hK hP (hts (.fieldLink RX10 191 "TraceTreesModel" "kindOut" "I") (List.mem_of_getElem? (i := 7) rfl)) dX10_wayOf_24 ?_
    refine lv_goto (tgt := 58) hx hb dX10_wayOf_27 (by decide) ?_
    exact J58 (σ 0 13) H locs ls h hP hD hS (lv_sub (l' := []) hl [] rfl)
def zb_X10_writesOut_11 (w0_11 : Bool) : Bool := w0_11
def zf_X10_writesOut (a0 : Int32) : Bool := (if (6 : Int32) ≤ a0 then (zb_X10_writesOut_11 false) else (zb_X10_writesOut_11 true))
def oc_X10_writesOut : List Cond := []
def vc_X10_writesOut : List Cond := .code yX10_writesOut cX10_writesOut 1 (some .boolean) :: (oc_X10_writesOut)
theorem gd_c_X10_writesOut : (vc_X10_writesOut).all goodWord = true := gall_cons rfl (by decide +kernel)
set_option maxHeartbeats 4000000 in
set_option maxRecDepth 100000 in
theorem c_X10_writesOut (l : Launch) (dC : Nat → ClassId) (dI : Nat → Nat → Nat) (cI cT cS : ClassId) (sz : Nat) (ws : va_W) (a0 : Int32) (o : Bool) (h : zf_X10_writesOut a0 = o) : gCI (S := Unit) l yX10_writesOut vc_X10_writesOut { frames := 0, cells := 0, slots := 0, locals := 0 } (dC, dI) (gTY cI cT cS) sz [.int a0] ws (fun (r : Int32) (_ : Unit) => r = b2i o) (fun (_ : Unit) => ws) 0 0 := by
  refine Met.ofW (cc := cX10_writesOut) (maxL := 1) (ret := (some .boolean)) (by decide) rfl ?_
  intro p e s m args below meth c s₁ B hml hv
  obtain ⟨rfl, hsz, hP, hK, hD0⟩ := hv
  have hx := B.exec
  have hb := B.bytes
  have hr := B.returns
  have hts := atoms_spec (ws := vc_X10_writesOut) B.pre
  have hown : s.vm.findClass RX10 = some m.cls := findClass_of_methodNamed B.named
  have hlocks := B.notSynchronized
  subst hsz
  have hD := hD0.self (sz := s.heap.size)
  generalize hAe : va_A ws s.heap.size = A at hD ⊢
  have hA : ∀ q : Nat, s.heap.size ≤ q → A q := fun q h => by rw [← hAe]; exact Or.inr h
  clear hAe hD0
  refine gstart (fun H locs hHe hLe => ?_)
  have hS : va_S A s.heap H locs := by rw [← hHe, ← hLe]; exact va_S.rf
  replace hP : va_P (dC, dI) vwCl ws H := by rw [← hHe]; exact hP
  clear hHe hLe
  have hl := lv_entry ([.int a0]) (n := 1) (Nat.le_of_ble_eq_true rfl)
  rw [lg_entry_eq]
  generalize (lg_sl ([.int a0]) ++ List.replicate (1 - (lg_sl ([.int a0])).length) Slot.unset).toArray = ls at hl ⊢
  replace hl : lv_has ls 1 [(0, .int a0)] := hl
  unfold zf_X10_writesOut at h
  have J11 : ∀ (w0_11 : Bool) (H : Heap) (locs : List Loc) (ls : Array Slot), zb_X10_writesOut_11 w0_11 = o → va_P (dC, dI) vwCl ws H → va_D A ws → va_S A s.heap H locs → lv_has ls 1 [] → W p l e (headSpec vc_X10_writesOut { frames := 0, cells := 0, slots := 0, locals := 0 }).room s m (List.toArray (α := Value) [.int a0]) below meth c H locs 0 0 (MQ below (va_Qi (fun (r : Int32) (_ : Unit) => r = b2i o) (gB (dC, dI) A (fun (_ : Unit) => ws)) A) (List.toArray (α := Value) [.int a0]) s 0 0 A) (F0 m 11 ls [.int (b2i w0_11)]) := by
    intro w0_11 H locs ls h hP hD hS hl
    unfold zb_X10_writesOut_11 at h
    have h9 := h
    exact wretz hx hb hr hlocks (b2i_or _) hP hD hS (by show _ = _; rw [← h9]; first | done | rfl) rfl dX10_writesOut_11
  refine lv_iload_n hx hb dX10_writesOut_0 rfl (lv_at hl 0 rfl) ?_
  refine lv_bipush (v := 6) hx hb dX10_writesOut_1 (by decide) ?_
  refine lv_icmp_ge (tgt := 10) hx hb dX10_writesOut_3 (by decide) (fun c1 => ?_) (fun c1 => ?_)
  · replace h := ifp (c1) h
    refine lv_iconst (v := 0) hx hb dX10_writesOut_10 (by decide) ?_
    exact J11 false H locs ls h hP hD hS (lv_sub (l' := []) hl [] rfl)
  · replace h := ifn (c1) h
    refine lv_iconst (v := 1) hx hb dX10_writesOut_6 (by decide) ?_
    refine lv_goto (tgt := 11) hx hb dX10_writesOut_7 (by decide) ?_
    exact J11 true H locs ls h hP hD hS (lv_sub (l' := []) hl [] rfl)
def zb_X10_applies_83 (w0_83 : Int32) (σb83 : Sg) : Option (Sg) := some (su (su σb83 0 16 w0_83) 0 17 ((σb83 0 17) + (1 : Int32)))
def zb_X10_applies_49 (v2_49 : Int32) (v1_49 : Int32) (σb49 : Sg) : Option (Sg) := (if (σb49 0 15) = 0 then (if v2_49 = (9 : Int32) then (zb_X10_applies_83 v1_49 σb49) else (zb_X10_applies_83 (v1_49 + (1 : Int32)) σb49)) else bd (((4 : Int32) * v1_49) + (1 : Int32)) 96 ((zb_X10_applies_83 (σb49 5 (((4 : Int32) * v1_49) + (1 : Int32)).toNatClampNeg) σb49)))
def zf_X10_applies (σ : Sg) : Option (Sg) := letb (σ 0 16) (fun e1 => bd ((4 : Int32) * e1) 96 (letb (σ 5 ((4 : Int32) * e1).toNatClampNeg) (fun e3 => (if (zf_X10_writesOut e3) = true then obd (zf_X10_x e1 σ) (fun r6 => bd r6 8 (obd (zf_X10_x e1 (su σ 8 r6.toNatClampNeg (σ 0 13))) (fun r9 => bd r9 8 ((zb_X10_applies_49 e3 e1 (su (su σ 8 r6.toNatClampNeg (σ 0 13)) 9 r9.toNatClampNeg (σ 0 14))))))) else (zb_X10_applies_49 e3 e1 σ)))))
def oc_X10_applies : List Cond := [.fieldLink RX10 241 "TraceTreesModel" "point" "I", .fieldLink RX10 22 "TraceTreesModel" "code" "[I", .methodLink RX10 244 yX10_writesOut, .static yX10_writesOut, .initialized RX10, .fieldLink RX10 31 "TraceTreesModel" "kinds" "[I", .methodLink RX10 247 yX10_x, .instanceMethod yX10_x, .selects RX10 yX10_x yX10_x, .fieldLink RX10 191 "TraceTreesModel" "kindOut" "I", .fieldLink RX10 34 "TraceTreesModel" "bits" "[I", .fieldLink RX10 194 "TraceTreesModel" "bitsOut" "I", .fieldLink RX10 218 "TraceTreesModel" "jumps" "Z", .fieldLink RX10 250 "TraceTreesModel" "steps" "I"]
def vc_X10_applies : List Cond := .code yX10_applies cX10_applies 3 none :: (oc_X10_applies ++ (wsX100 ++ (vc_X10_writesOut ++ (vc_X10_x))))
theorem iw_X10_applies_X10 : ∀ w ∈ wsX100, w ∈ vc_X10_applies := fun _ h => List.mem_cons_of_mem _ (List.mem_append_right _ (List.mem_append_left _ h))
theorem ic_X10_applies_c_X10_writesOut : ∀ w ∈ vc_X10_writesOut, w ∈ vc_X10_applies := fun _ h => List.mem_cons_of_mem _ (List.mem_append_right _ (List.mem_append_right _ (List.mem_append_left _ h)))
theorem ic_X10_applies_c_X10_x : ∀ w ∈ vc_X10_x, w ∈ vc_X10_applies := fun _ h => List.mem_cons_of_mem _ (List.mem_append_right _ (List.mem_append_right _ (List.mem_append_right _ (h))))
theorem gd_c_X10_applies : (vc_X10_applies).all goodWord = true := gall_cons rfl (gall_app (by decide +kernel) (gall_app gw_X10 (gall_app gd_c_X10_writesOut gd_c_X10_x)))
set_option maxHeartbeats 4000000 in
set_option maxRecDepth 100000 in
theorem c_X10_applies (l : Launch) (dC : Nat → ClassId) (dI : Nat → Nat → Nat) (cI cT cS : ClassId) (sz : Nat) (ad : Nat → Nat) (σ : Sg) (o : Sg) (h : zf_X10_applies σ = some o) : gCV (S := Unit) l yX10_applies vc_X10_applies { frames := 1, cells := 0, slots := 0, locals := 21 } (dC, dI) (gTY cI cT cS) sz [.ref (ad 0)] (Wd 24 (cfR ad cI) σ) (fun (_ : Unit) => True) (fun (_ : Unit) => (Wd 24 (cfR ad cI) o)) 0 0 := by
  refine Met.ofW (cc := cX10_applies) (maxL := 3) (ret := none) (by decide) rfl ?_
  intro p e s m args below meth c s₁ B hml hv
  obtain ⟨rfl, hsz, hP, hK, hD0⟩ := hv
  have hx := B.exec
  have hb := B.bytes
  have hr := B.returns
  have hts := atoms_spec (ws := vc_X10_applies) B.pre
  have hown : s.vm.findClass RX10 = some m.cls := findClass_of_methodNamed B.named
  have hlocks := B.notSynchronized
  subst hsz
  have hD := hD0.self (sz := s.heap.size)
  generalize hAe : va_A (Wd 24 (cfR ad cI) σ) s.heap.size = A at hD ⊢
  have hA : ∀ q : Nat, s.heap.size ≤ q → A q := fun q h => by rw [← hAe]; exact Or.inr h
  clear hAe hD0
  refine gstart (fun H locs hHe hLe => ?_)
  have hS : va_S A s.heap H locs := by rw [← hHe, ← hLe]; exact va_S.rf
  replace hP : va_P (dC, dI) vwCl (Wd 24 (cfR ad cI) σ) H := by rw [← hHe]; exact hP
  clear hHe hLe
  have hl := lv_entry ([.ref (ad 0)]) (n := 3) (Nat.le_of_ble_eq_true rfl)
  rw [lg_entry_eq]
  generalize (lg_sl ([.ref (ad 0)]) ++ List.replicate (3 - (lg_sl ([.ref (ad 0)])).length) Slot.unset).toArray = ls at hl ⊢
  replace hl : lv_has ls 3 [(0, .ref (ad 0))] := hl
  unfold zf_X10_applies at h
  have J83 : ∀ (w0_83 : Int32) (σb83 : Sg) (H : Heap) (locs : List Loc) (ls : Array Slot), zb_X10_applies_83 w0_83 σb83 = some o → va_P (dC, dI) vwCl (Wd 24 (cfR ad cI) σb83) H → va_D A (Wd 24 (cfR ad cI) σb83) → va_S A s.heap H locs → lv_has ls 3 [(0, .ref (ad 0))] → W p l e (headSpec vc_X10_applies { frames := 1, cells := 0, slots := 0, locals := 21 }).room s m (List.toArray (α := Value) [.ref (ad 0)]) below meth c H locs 0 0 (MQ below (va_Qv (fun (_ : Unit) => True) (gB (dC, dI) A (fun (_ : Unit) => (Wd 24 (cfR ad cI) o))) A) (List.toArray (α := Value) [.ref (ad 0)]) s 0 0 A) (F0 m 83 ls [.int w0_83, .ref (ad 0)]) := by
    intro w0_83 σb83 H locs ls h hP hD hS hl
    unfold zb_X10_applies_83 at h
    refine pf_X10_16 hx hb hts iw_X10_applies_X10 hown hK hP hD hS (hts (.fieldLink RX10 241 "TraceTreesModel" "point" "I") (List.mem_of_getElem? (i := 1) rfl)) dX10_applies_83 (fun H locs hP hD hS => ?_)
    refine lv_aload_n hx hb dX10_applies_86 rfl (lv_at hl 0 rfl) ?_
    refine lv_dup hx hb dX10_applies_87 rfl ?_
    refine gf_X10_17 hx hb hts iw_X10_applies_X10 hown hK hP (hts (.fieldLink RX10 250 "TraceTreesModel" "steps" "I") (List.mem_of_getElem? (i := 14) rfl)) dX10_applies_88 ?_
    refine lv_nm (y := (σb83 0 17)) (su_rf (by omega) (by decide) rfl) ?_
    refine lv_iconst (v := 1) hx hb dX10_applies_91 (by decide) ?_
    refine lv_iadd hx hb dX10_applies_92 ?_
    refine pf_X10_17 hx hb hts iw_X10_applies_X10 hown hK hP hD hS (hts (.fieldLink RX10 250 "TraceTreesModel" "steps" "I") (List.mem_of_getElem? (i := 14) rfl)) dX10_applies_93 (fun H locs hP hD hS => ?_)
    have h9 := Option.some.inj h
    exact wretv hx hb hr hlocks hP hD hS trivial (by rw [← h9]) dX10_applies_96
  have J49 : ∀ (v2_49 : Int32) (v1_49 : Int32) (σb49 : Sg) (H : Heap) (locs : List Loc) (ls : Array Slot), zb_X10_applies_49 v2_49 v1_49 σb49 = some o → va_P (dC, dI) vwCl (Wd 24 (cfR ad cI) σb49) H → va_D A (Wd 24 (cfR ad cI) σb49) → va_S A s.heap H locs → lv_has ls 3 [(2, .int v2_49), (1, .int v1_49), (0, .ref (ad 0))] → W p l e (headSpec vc_X10_applies { frames := 1, cells := 0, slots := 0, locals := 21 }).room s m (List.toArray (α := Value) [.ref (ad 0)]) below meth c H locs 0 0 (MQ below (va_Qv (fun (_ : Unit) => True) (gB (dC, dI) A (fun (_ : Unit) => (Wd 24 (cfR ad cI) o))) A) (List.toArray (α := Value) [.ref (ad 0)]) s 0 0 A) (F0 m 49 ls []) := by
    intro v2_49 v1_49 σb49 H locs ls h hP hD hS hl
    unfold zb_X10_applies_49 at h
    refine lv_aload_n hx hb dX10_applies_49 rfl (lv_at hl 2 rfl) ?_
    refine lv_aload_n hx hb dX10_applies_50 rfl (lv_at hl 2 rfl) ?_
    refine gf_X10_15 hx hb hts iw_X10_applies_X10 hown hK hP (hts (.fieldLink RX10 218 "TraceTreesModel" "jumps" "Z") (List.mem_of_getElem? (i := 13) rfl)) dX10_applies_51 ?_
    refine lv_if_eq (tgt := 70) hx hb dX10_applies_54 (by decide) (fun c12 => ?_) (fun c12 => ?_)
    · replace h := ifp (c12) h
      refine lv_iload_n hx hb dX10_applies_70 rfl (lv_at hl 0 rfl) ?_
      refine lv_bipush (v := 9) hx hb dX10_applies_71 (by decide) ?_
      refine lv_icmp_ne (tgt := 80) hx hb dX10_applies_73 (by decide) (fun c13 => ?_) (fun c13 => ?_)
      · replace h := ifn (c13) h
        refine lv_iload_n hx hb dX10_applies_80 rfl (lv_at hl 1 rfl) ?_
        refine lv_iconst (v := 1) hx hb dX10_applies_81 (by decide) ?_
        refine lv_iadd hx hb dX10_applies_82 ?_
        exact J83 (v1_49 + (1 : Int32)) σb49 H locs ls h hP hD hS (lv_sub (l' := [(0, .ref (ad 0))]) hl [2] rfl)
      · replace h := ifp (c13) h
        refine lv_iload_n hx hb dX10_applies_76 rfl (lv_at hl 1 rfl) ?_
        refine lv_goto (tgt := 83) hx hb dX10_applies_77 (by decide) ?_
        exact J83 v1_49 σb49 H locs ls h hP hD hS (lv_sub (l' := [(0, .ref (ad 0))]) hl [2] rfl)
    · replace h := ifn (c12) h
      refine lv_aload_n hx hb dX10_applies_57 rfl (lv_at hl 2 rfl) ?_
      refine gf_X10_6 hx hb hts iw_X10_applies_X10 hown hK hP (hts (.fieldLink RX10 22 "TraceTreesModel" "code" "[I") (List.mem_of_getElem? (i := 2) rfl)) dX10_applies_58 ?_
      refine lv_iconst (v := 4) hx hb dX10_applies_61 (by decide) ?_
      refine lv_iload_n hx hb dX10_applies_62 rfl (lv_at hl 1 rfl) ?_
      refine lv_imul hx hb dX10_applies_63 ?_
      refine lv_iconst (v := 1) hx hb dX10_applies_64 (by decide) ?_
      refine lv_iadd hx hb dX10_applies_65 ?_
      obtain ⟨hi14, h⟩ := bd_inv h
      refine wald hx hb hK hP aR5 hi14 dX10_applies_66 ?_
      refine lv_goto (tgt := 83) hx hb dX10_applies_67 (by decide) ?_
      exact J83 (σb49 5 (((4 : Int32) * v1_49) + (1 : Int32)).toNatClampNeg) σb49 H locs ls h hP hD hS (lv_sub (l' := [(0, .ref (ad 0))]) hl [2] rfl)
  refine lv_aload_n hx hb dX10_applies_0 rfl (lv_at hl 0 rfl) ?_
  refine gf_X10_16 hx hb hts iw_X10_applies_X10 hown hK hP (hts (.fieldLink RX10 241 "TraceTreesModel" "point" "I") (List.mem_of_getElem? (i := 1) rfl)) dX10_applies_1 ?_
  obtain ⟨e1, he1, h⟩ := letb_inv h
  refine lv_nm he1 ?_
  refine lv_istore_n (lv' := [(1, .int e1), (0, .ref (ad 0))]) hx hb dX10_applies_4 rfl hl (by decide) rfl (fun ls hl => ?_)
  refine lv_aload_n hx hb dX10_applies_5 rfl (lv_at hl 1 rfl) ?_
  refine gf_X10_6 hx hb hts iw_X10_applies_X10 hown hK hP (hts (.fieldLink RX10 22 "TraceTreesModel" "code" "[I") (List.mem_of_getElem? (i := 2) rfl)) dX10_applies_6 ?_
  refine lv_iconst (v := 4) hx hb dX10_applies_9 (by decide) ?_
  refine lv_iload_n hx hb dX10_applies_10 rfl (lv_at hl 0 rfl) ?_
  refine lv_imul hx hb dX10_applies_11 ?_
  obtain ⟨hi2, h⟩ := bd_inv h
  refine wald hx hb hK hP aR5 hi2 dX10_applies_12 ?_
  obtain ⟨e3, he3, h⟩ := letb_inv h
  refine lv_nm he3 ?_
  refine lv_istore_n (lv' := [(2, .int e3), (1, .int e1), (0, .ref (ad 0))]) hx hb dX10_applies_13 rfl hl (by decide) rfl (fun ls hl => ?_)
  refine lv_iload_n hx hb dX10_applies_14 rfl (lv_at hl 0 rfl) ?_
  refine wcalli (S := Unit) (va_runS (As := [.int e3]) (rest := []) ⟨hx, hb, hml, hown, hts⟩ (c_X10_writesOut l dC dI cI cT cS H.size (Wd 24 (cfR ad cI) σ)  e3 _ rfl) (va_cwS 1 hts (gWS (List.mem_of_getElem? (i := 3) rfl) (List.mem_of_getElem? (i := 4) rfl) (List.mem_of_getElem? (i := 5) rfl) ic_X10_applies_c_X10_writesOut gd_c_X10_writesOut) rfl rfl rfl (by decide +kernel) ⟨(Nat.le_of_ble_eq_true rfl), (Nat.le_of_ble_eq_true rfl)⟩) (gpS hP hK hD) rfl rfl hl.1 rfl (lv_room (Nat.le_of_ble_eq_true rfl)) dX10_applies_15 ⟨(Nat.le_of_ble_eq_true rfl), (Nat.le_of_ble_eq_true rfl)⟩) hP hD hS hA (fun rr4 _ H locs hr4 hP hD hS => ?_)
  refine lv_nm (y := b2i (zf_X10_writesOut e3)) hr4 ?_
  refine lv_if_eq (tgt := 49) hx hb dX10_applies_18 (by decide) (fun c5 => ?_) (fun c5 => ?_)
  · replace h := ifn (b2i_0 c5) h
    exact J49 e3 e1 σ H locs ls h hP hD hS (lv_sub (l' := [(2, .int e3), (1, .int e1), (0, .ref (ad 0))]) hl [0, 1, 2] rfl)
  · replace h := ifp (b2i_1 c5) h
    refine lv_aload_n hx hb dX10_applies_21 rfl (lv_at hl 2 rfl) ?_
    refine gf_X10_11 hx hb hts iw_X10_applies_X10 hown hK hP (hts (.fieldLink RX10 31 "TraceTreesModel" "kinds" "[I") (List.mem_of_getElem? (i := 6) rfl)) dX10_applies_22 ?_
    refine lv_aload_n hx hb dX10_applies_25 rfl (lv_at hl 2 rfl) ?_
    refine lv_iload_n hx hb dX10_applies_26 rfl (lv_at hl 1 rfl) ?_
    obtain ⟨r6, hc6, h⟩ := obd_inv h
    refine wcalli (S := Unit) (va_runV (As := [.int e1]) (rest := [.ref (ad 8)]) ⟨hx, hb, hml, hown, hts⟩ (c_X10_x l dC dI cI cT cS H.size ad  e1 σ _ hc6) (cwV 1 hts (gWV (List.mem_of_getElem? (i := 7) rfl) (List.mem_of_getElem? (i := 8) rfl) (List.mem_of_getElem? (i := 9) rfl) (List.mem_of_getElem? (i := 5) rfl) ic_X10_applies_c_X10_x gd_c_X10_x) rfl rfl rfl (by decide +kernel) ⟨(Nat.le_of_ble_eq_true rfl), (Nat.le_of_ble_eq_true rfl)⟩) (wpV (q := (RX10, TX10, 46)) hP hK hD oX10 rfl) rfl rfl hl.1 rfl (lv_room (Nat.le_of_ble_eq_true rfl)) dX10_applies_27 ⟨(Nat.le_of_ble_eq_true rfl), (Nat.le_of_ble_eq_true rfl)⟩) hP hD hS hA (fun rr7 _ H locs hr7 hP hD hS => ?_)
    refine lv_nm (y := r6) hr7 ?_
    refine lv_aload_n hx hb dX10_applies_30 rfl (lv_at hl 2 rfl) ?_
    refine gf_X10_13 hx hb hts iw_X10_applies_X10 hown hK hP (hts (.fieldLink RX10 191 "TraceTreesModel" "kindOut" "I") (List.mem_of_getElem? (i := 10) rfl)) dX10_applies_31 ?_
    obtain ⟨hi8, h⟩ := bd_inv h
    refine wast hx hb hK hP hD hS aR8 hi8 dX10_applies_34 (fun H locs hP hD hS => ?_)
    refine lv_aload_n hx hb dX10_applies_35 rfl (lv_at hl 2 rfl) ?_
    refine gf_X10_12 hx hb hts iw_X10_applies_X10 hown hK hP (hts (.fieldLink RX10 34 "TraceTreesModel" "bits" "[I") (List.mem_of_getElem? (i := 11) rfl)) dX10_applies_36 ?_
    refine lv_aload_n hx hb dX10_applies_39 rfl (lv_at hl 2 rfl) ?_
    refine lv_iload_n hx hb dX10_applies_40 rfl (lv_at hl 1 rfl) ?_
    obtain ⟨r9, hc9, h⟩ := obd_inv h
    refine wcalli (S := Unit) (va_runV (As := [.int e1]) (rest := [.ref (ad 9)]) ⟨hx, hb, hml, hown, hts⟩ (c_X10_x l dC dI cI cT cS H.size ad  e1 (su σ 8 r6.toNatClampNeg (σ 0 13)) _ hc9) (cwV 1 hts (gWV (List.mem_of_getElem? (i := 7) rfl) (List.mem_of_getElem? (i := 8) rfl) (List.mem_of_getElem? (i := 9) rfl) (List.mem_of_getElem? (i := 5) rfl) ic_X10_applies_c_X10_x gd_c_X10_x) rfl rfl rfl (by decide +kernel) ⟨(Nat.le_of_ble_eq_true rfl), (Nat.le_of_ble_eq_true rfl)⟩) (wpV (q := (RX10, TX10, 46)) hP hK hD oX10 rfl) rfl rfl hl.1 rfl (lv_room (Nat.le_of_ble_eq_true rfl)) dX10_applies_41 ⟨(Nat.le_of_ble_eq_true rfl), (Nat.le_of_ble_eq_true rfl)⟩) hP hD hS hA (fun rr10 _ H locs hr10 hP hD hS => ?_)
    refine lv_nm (y := r9) hr10 ?_
    refine lv_aload_n hx hb dX10_applies_44 rfl (lv_at hl 2 rfl) ?_
    refine gf_X10_14 hx hb hts iw_X10_applies_X10 hown hK hP (hts (.fieldLink RX10 194 "TraceTreesModel" "bitsOut" "I") (List.mem_of_getElem? (i := 12) rfl)) dX10_applies_45 ?_
    refine lv_nm (y := (σ 0 14)) (su_rd (by decide) rfl) ?_
    obtain ⟨hi11, h⟩ := bd_inv h
    refine wast hx hb hK hP hD hS aR9 hi11 dX10_applies_48 (fun H locs hP hD hS => ?_)
    exact J49 e3 e1 (su (su σ 8 r6.toNatClampNeg (σ 0 13)) 9 r9.toNatClampNeg (σ 0 14)) H locs ls h hP hD hS (lv_sub (l' := [(2, .int e3), (1, .int e1), (0, .ref (ad 0))]) hl [0, 1, 2] rfl)
def zb_X10_rootOf_37 (x4 : Int32 × Int32) (w0_37 : Int32) : Option (Bool × (Int32 × Int32)) := some (true, ((x4.1 + (1 : Int32)), w0_37))
def zb_X10_rootOf_36 (x4 : Int32 × Int32) : Option (Bool × (Int32 × Int32)) := (zb_X10_rootOf_37 x4 x4.2)
def zl_X10_rootOf_4 (a1 : Int32) (σ : Sg) (x4 : Int32 × Int32) : Option (Bool × (Int32 × Int32)) := (if (σ 0 25) ≤ x4.1 then some (false, (x4.1, x4.2)) else bd x4.1 8 ((if (σ 12 x4.1.toNatClampNeg) = a1 then (if (σ 13 x4.1.toNatClampNeg) = (-1 : Int32) then (zb_X10_rootOf_37 x4 x4.1) else (zb_X10_rootOf_36 x4)) else (zb_X10_rootOf_36 x4))))
def zf_X10_rootOf (a1 : Int32) (σ : Sg) : Option (Int32) := obd (lp (X := Int32 × Int32) (zl_X10_rootOf_4 a1 σ) 1000 ((0 : Int32), (-1 : Int32))) (fun y4 => some y4.2)
def oc_X10_rootOf : List Cond := [.fieldLink RX10 253 "TraceTreesModel" "traces" "I", .fieldLink RX10 43 "TraceTreesModel" "head" "[I", .fieldLink RX10 46 "TraceTreesModel" "parent" "[I"]
def vc_X10_rootOf : List Cond := .code yX10_rootOf cX10_rootOf 4 (some .int) :: (oc_X10_rootOf ++ (wsX100))
theorem iw_X10_rootOf_X10 : ∀ w ∈ wsX100, w ∈ vc_X10_rootOf := fun _ h => List.mem_cons_of_mem _ (List.mem_append_right _ (h))
theorem gd_c_X10_rootOf : (vc_X10_rootOf).all goodWord = true := gall_cons rfl (gall_app (by decide +kernel) gw_X10)
set_option maxHeartbeats 4000000 in
set_option maxRecDepth 100000 in
theorem c_X10_rootOf (l : Launch) (dC : Nat → ClassId) (dI : Nat → Nat → Nat) (cI cT cS : ClassId) (sz : Nat) (ad : Nat → Nat) (a1 : Int32) (σ : Sg) (o : Int32) (h : zf_X10_rootOf a1 σ = some o) : gCI (S := Unit) l yX10_rootOf vc_X10_rootOf { frames := 0, cells := 0, slots := 0, locals := 0 } (dC, dI) (gTY cI cT cS) sz [.ref (ad 0), .int a1] (Wd 24 (cfR ad cI) σ) (fun (r : Int32) (_ : Unit) => r = o) (fun (_ : Unit) => (Wd 24 (cfR ad cI) σ)) 0 0 := by
  refine Met.ofW (cc := cX10_rootOf) (maxL := 4) (ret := (some .int)) (by decide) rfl ?_
  intro p e s m args below meth c s₁ B hml hv
  obtain ⟨rfl, hsz, hP, hK, hD0⟩ := hv
  have hx := B.exec
  have hb := B.bytes
  have hr := B.returns
  have hts := atoms_spec (ws := vc_X10_rootOf) B.pre
  have hown : s.vm.findClass RX10 = some m.cls := findClass_of_methodNamed B.named
  have hlocks := B.notSynchronized
  subst hsz
  have hD := hD0.self (sz := s.heap.size)
  generalize hAe : va_A (Wd 24 (cfR ad cI) σ) s.heap.size = A at hD ⊢
  have hA : ∀ q : Nat, s.heap.size ≤ q → A q := fun q h => by rw [← hAe]; exact Or.inr h
  clear hAe hD0
  refine gstart (fun H locs hHe hLe => ?_)
  have hS : va_S A s.heap H locs := by rw [← hHe, ← hLe]; exact va_S.rf
  replace hP : va_P (dC, dI) vwCl (Wd 24 (cfR ad cI) σ) H := by rw [← hHe]; exact hP
  clear hHe hLe
  have hl := lv_entry ([.ref (ad 0), .int a1]) (n := 4) (Nat.le_of_ble_eq_true rfl)
  rw [lg_entry_eq]
  generalize (lg_sl ([.ref (ad 0), .int a1]) ++ List.replicate (4 - (lg_sl ([.ref (ad 0), .int a1])).length) Slot.unset).toArray = ls at hl ⊢
  replace hl : lv_has ls 4 [(0, .ref (ad 0)), (1, .int a1)] := hl
  unfold zf_X10_rootOf at h
  refine lv_iconst (v := (-1)) hx hb dX10_rootOf_0 (by decide) ?_
  refine lv_istore_n (lv' := [(2, .int (-1 : Int32)), (0, .ref (ad 0)), (1, .int a1)]) hx hb dX10_rootOf_1 rfl hl (by decide) rfl (fun ls hl => ?_)
  refine lv_iconst (v := 0) hx hb dX10_rootOf_2 (by decide) ?_
  refine lv_istore_n (lv' := [(3, .int (0 : Int32)), (2, .int (-1 : Int32)), (0, .ref (ad 0)), (1, .int a1)]) hx hb dX10_rootOf_3 rfl hl (by decide) rfl (fun ls hl => ?_)
  obtain ⟨y4, hlp4, h⟩ := obd_inv h
  refine lp_W (fun x4 : Int32 × Int32 => ∀ (H : Heap) (locs : List Loc) (ls : Array Slot), va_P (dC, dI) vwCl (Wd 24 (cfR ad cI) σ) H → va_D A (Wd 24 (cfR ad cI) σ) → va_S A s.heap H locs → lv_has ls 4 [(3, .int x4.1), (2, .int x4.2), (0, .ref (ad 0)), (1, .int a1)] → W p l e (headSpec vc_X10_rootOf { frames := 0, cells := 0, slots := 0, locals := 0 }).room s m (List.toArray (α := Value) [.ref (ad 0), .int a1]) below meth c H locs 0 0 (MQ below (va_Qi (fun (r : Int32) (_ : Unit) => r = o) (gB (dC, dI) A (fun (_ : Unit) => (Wd 24 (cfR ad cI) σ))) A) (List.toArray (α := Value) [.ref (ad 0), .int a1]) s 0 0 A) (F0 m 4 ls [])) (fun y4 : Int32 × Int32 => ∀ (H : Heap) (locs : List Loc) (ls : Array Slot), va_P (dC, dI) vwCl (Wd 24 (cfR ad cI) σ) H → va_D A (Wd 24 (cfR ad cI) σ) → va_S A s.heap H locs → lv_has ls 4 [(2, .int y4.2)] → W p l e (headSpec vc_X10_rootOf { frames := 0, cells := 0, slots := 0, locals := 0 }).room s m (List.toArray (α := Value) [.ref (ad 0), .int a1]) below meth c H locs 0 0 (MQ below (va_Qi (fun (r : Int32) (_ : Unit) => r = o) (gB (dC, dI) A (fun (_ : Unit) => (Wd 24 (cfR ad cI) σ))) A) (List.toArray (α := Value) [.ref (ad 0), .int a1]) s 0 0 A) (F0 m 44 ls [])) ?_ 1000 ((0 : Int32), (-1 : Int32)) y4 hlp4 ?_ H locs ls hP hD hS (lv_sub (l' := [(3, .int (0 : Int32)), (2, .int (-1 : Int32)), (0, .ref (ad 0)), (1, .int a1)]) hl [0, 1, 2, 3] rfl)
  · intro x4 yy4 h ht4 hf4 H locs ls hP hD hS hl
    unfold zl_X10_rootOf_4 at h
    have J37 : ∀ (w0_37 : Int32) (H : Heap) (locs : List Loc) (ls : Array Slot), zb_X10_rootOf_37 x4 w0_37 = some yy4 → va_P (dC, dI) vwCl (Wd 24 (cfR ad cI) σ) H → va_D A (Wd 24 (cfR ad cI) σ) → va_S A s.heap H locs → lv_has ls 4 [(3, .int x4.1), (0, .ref (ad 0)), (1, .int a1)] → W p l e (headSpec vc_X10_rootOf { frames := 0, cells := 0, slots := 0, locals := 0 }).room s m (List.toArray (α := Value) [.ref (ad 0), .int a1]) below meth c H locs 0 0 (MQ below (va_Qi (fun (r : Int32) (_ : Unit) => r = o) (gB (dC, dI) A (fun (_ : Unit) => (Wd 24 (cfR ad cI) σ))) A) (List.toArray (α := Value) [.ref (ad 0), .int a1]) s 0 0 A) (F0 m 37 ls [.int w0_37]) := by
      intro w0_37 H locs ls h hP hD hS hl
      unfold zb_X10_rootOf_37 at h
      refine lv_istore_n (lv' := [(2, .int w0_37), (3, .int x4.1), (0, .ref (ad 0)), (1, .int a1)]) hx hb dX10_rootOf_37 rfl hl (by decide) rfl (fun ls hl => ?_)
      refine lv_iinc (v := (x4.1 + (1 : Int32))) (lv' := [(3, .int (x4.1 + (1 : Int32))), (2, .int w0_37), (0, .ref (ad 0)), (1, .int a1)]) hx hb dX10_rootOf_38 hl (k := 1) rfl rfl (by decide) rfl (fun ls hl => ?_)
      refine lv_goto (tgt := 4) hx hb dX10_rootOf_41 (by decide) ?_
      obtain rfl := Option.some.inj h
      exact ht4 rfl H locs ls hP hD hS (lv_sub (l' := [(3, .int (x4.1 + (1 : Int32))), (2, .int w0_37), (0, .ref (ad 0)), (1, .int a1)]) hl [0, 1, 2, 3] rfl)
    have J36 : ∀  (H : Heap) (locs : List Loc) (ls : Array Slot), zb_X10_rootOf_36 x4 = some yy4 → va_P (dC, dI) vwCl (Wd 24 (cfR ad cI) σ) H → va_D A (Wd 24 (cfR ad cI) σ) → va_S A s.heap H locs → lv_has ls 4 [(3, .int x4.1), (2, .int x4.2), (0, .ref (ad 0)), (1, .int a1)] → W p l e (headSpec vc_X10_rootOf { frames := 0, cells := 0, slots := 0, locals := 0 }).room s m (List.toArray (α := Value) [.ref (ad 0), .int a1]) below meth c H locs 0 0 (MQ below (va_Qi (fun (r : Int32) (_ : Unit) => r = o) (gB (dC, dI) A (fun (_ : Unit) => (Wd 24 (cfR ad cI) σ))) A) (List.toArray (α := Value) [.ref (ad 0), .int a1]) s 0 0 A) (F0 m 36 ls []) := by
      intro  H locs ls h hP hD hS hl
      unfold zb_X10_rootOf_36 at h
      refine lv_iload_n hx hb dX10_rootOf_36 rfl (lv_at hl 1 rfl) ?_
      exact J37 x4.2 H locs ls h hP hD hS (lv_sub (l' := [(3, .int x4.1), (0, .ref (ad 0)), (1, .int a1)]) hl [0, 2, 3] rfl)
    refine lv_iload_n hx hb dX10_rootOf_4 rfl (lv_at hl 0 rfl) ?_
    refine lv_aload_n hx hb dX10_rootOf_5 rfl (lv_at hl 2 rfl) ?_
    refine gf_X10_25 hx hb hts iw_X10_rootOf_X10 hown hK hP (hts (.fieldLink RX10 253 "TraceTreesModel" "traces" "I") (List.mem_of_getElem? (i := 1) rfl)) dX10_rootOf_6 ?_
    refine lv_icmp_ge (tgt := 44) hx hb dX10_rootOf_9 (by decide) (fun c1 => ?_) (fun c1 => ?_)
    · replace h := ifp (c1) h
      obtain rfl := Option.some.inj h
      exact hf4 rfl H locs ls hP hD hS (lv_sub (l' := [(2, .int x4.2)]) hl [1] rfl)
    · replace h := ifn (c1) h
      refine lv_aload_n hx hb dX10_rootOf_12 rfl (lv_at hl 2 rfl) ?_
      refine gf_X10_26 hx hb hts iw_X10_rootOf_X10 hown hK hP (hts (.fieldLink RX10 43 "TraceTreesModel" "head" "[I") (List.mem_of_getElem? (i := 2) rfl)) dX10_rootOf_13 ?_
      refine lv_iload_n hx hb dX10_rootOf_16 rfl (lv_at hl 0 rfl) ?_
      obtain ⟨hi2, h⟩ := bd_inv h
      refine wald hx hb hK hP aR12 hi2 dX10_rootOf_17 ?_
      refine lv_iload_n hx hb dX10_rootOf_18 rfl (lv_at hl 3 rfl) ?_
      refine lv_icmp_ne (tgt := 36) hx hb dX10_rootOf_19 (by decide) (fun c3 => ?_) (fun c3 => ?_)
      · replace h := ifn (c3) h
        exact J36  H locs ls h hP hD hS (lv_sub (l' := [(3, .int x4.1), (2, .int x4.2), (0, .ref (ad 0)), (1, .int a1)]) hl [0, 1, 2, 3] rfl)
      · replace h := ifp (c3) h
        refine lv_aload_n hx hb dX10_rootOf_22 rfl (lv_at hl 2 rfl) ?_
        refine gf_X10_27 hx hb hts iw_X10_rootOf_X10 hown hK hP (hts (.fieldLink RX10 46 "TraceTreesModel" "parent" "[I") (List.mem_of_getElem? (i := 3) rfl)) dX10_rootOf_23 ?_
        refine lv_iload_n hx hb dX10_rootOf_26 rfl (lv_at hl 0 rfl) ?_
        refine wald hx hb hK hP aR13 hi2 dX10_rootOf_27 ?_
        refine lv_iconst (v := (-1)) hx hb dX10_rootOf_28 (by decide) ?_
        refine lv_icmp_ne (tgt := 36) hx hb dX10_rootOf_29 (by decide) (fun c4 => ?_) (fun c4 => ?_)
        · replace h := ifn (c4) h
          exact J36  H locs ls h hP hD hS (lv_sub (l' := [(3, .int x4.1), (2, .int x4.2), (0, .ref (ad 0)), (1, .int a1)]) hl [0, 1, 2, 3] rfl)
        · replace h := ifp (c4) h
          refine lv_iload_n hx hb dX10_rootOf_32 rfl (lv_at hl 0 rfl) ?_
          refine lv_goto (tgt := 37) hx hb dX10_rootOf_33 (by decide) ?_
          exact J37 x4.1 H locs ls h hP hD hS (lv_sub (l' := [(3, .int x4.1), (0, .ref (ad 0)), (1, .int a1)]) hl [0, 2, 3] rfl)
  · intro H locs ls hP hD hS hl
    refine lv_iload_n hx hb dX10_rootOf_44 rfl (lv_at hl 0 rfl) ?_
    have h9 := Option.some.inj h
    exact wreti hx hb hr hlocks hP hD hS (by show _ = _; rw [← h9]; first | done | rfl) rfl dX10_rootOf_45
def zf_X10_begins (a1 : Int32) (a2 : Int32) (a3 : Int32) (σ : Sg) : Sg := su (su (su (su (su σ 0 39 (1 : Int32)) 0 40 a1) 0 41 a2) 0 42 a3) 0 43 (0 : Int32)
def oc_X10_begins : List Cond := [.fieldLink RX10 256 "TraceTreesModel" "records" "Z", .fieldLink RX10 259 "TraceTreesModel" "headNow" "I", .fieldLink RX10 262 "TraceTreesModel" "parentNow" "I", .fieldLink RX10 265 "TraceTreesModel" "forkNow" "I", .fieldLink RX10 268 "TraceTreesModel" "many" "I"]
def vc_X10_begins : List Cond := .code yX10_begins cX10_begins 4 none :: (oc_X10_begins ++ (wsX100))
theorem iw_X10_begins_X10 : ∀ w ∈ wsX100, w ∈ vc_X10_begins := fun _ h => List.mem_cons_of_mem _ (List.mem_append_right _ (h))
theorem gd_c_X10_begins : (vc_X10_begins).all goodWord = true := gall_cons rfl (gall_app (by decide +kernel) gw_X10)
set_option maxHeartbeats 4000000 in
set_option maxRecDepth 100000 in
theorem c_X10_begins (l : Launch) (dC : Nat → ClassId) (dI : Nat → Nat → Nat) (cI cT cS : ClassId) (sz : Nat) (ad : Nat → Nat) (a1 : Int32) (a2 : Int32) (a3 : Int32) (σ : Sg) (o : Sg) (h : zf_X10_begins a1 a2 a3 σ = o) : gCV (S := Unit) l yX10_begins vc_X10_begins { frames := 0, cells := 0, slots := 0, locals := 0 } (dC, dI) (gTY cI cT cS) sz [.ref (ad 0), .int a1, .int a2, .int a3] (Wd 24 (cfR ad cI) σ) (fun (_ : Unit) => True) (fun (_ : Unit) => (Wd 24 (cfR ad cI) o)) 0 0 := by
  refine Met.ofW (cc := cX10_begins) (maxL := 4) (ret := none) (by decide) rfl ?_
  intro p e s m args below meth c s₁ B hml hv
  obtain ⟨rfl, hsz, hP, hK, hD0⟩ := hv
  have hx := B.exec
  have hb := B.bytes
  have hr := B.returns
  have hts := atoms_spec (ws := vc_X10_begins) B.pre
  have hown : s.vm.findClass RX10 = some m.cls := findClass_of_methodNamed B.named
  have hlocks := B.notSynchronized
  subst hsz
  have hD := hD0.self (sz := s.heap.size)
  generalize hAe : va_A (Wd 24 (cfR ad cI) σ) s.heap.size = A at hD ⊢
  have hA : ∀ q : Nat, s.heap.size ≤ q → A q := fun q h => by rw [← hAe]; exact Or.inr h
  clear hAe hD0
  refine gstart (fun H locs hHe hLe => ?_)
  have hS : va_S A s.heap H locs := by rw [← hHe, ← hLe]; exact va_S.rf
  replace hP : va_P (dC, dI) vwCl (Wd 24 (cfR ad cI) σ) H := by rw [← hHe]; exact hP
  clear hHe hLe
  have hl := lv_entry ([.ref (ad 0), .int a1, .int a2, .int a3]) (n := 4) (Nat.le_of_ble_eq_true rfl)
  rw [lg_entry_eq]
  generalize (lg_sl ([.ref (ad 0), .int a1, .int a2, .int a3]) ++ List.replicate (4 - (lg_sl ([.ref (ad 0), .int a1, .int a2, .int a3])).length) Slot.unset).toArray = ls at hl ⊢
  replace hl : lv_has ls 4 [(0, .ref (ad 0)), (1, .int a1), (2, .int a2), (3, .int a3)] := hl
  unfold zf_X10_begins at h
  refine lv_aload_n hx hb dX10_begins_0 rfl (lv_at hl 0 rfl) ?_
  refine lv_iconst (v := 1) hx hb dX10_begins_1 (by decide) ?_
  refine pf_X10_39 (Or.inr rfl) hx hb hts iw_X10_begins_X10 hown hK hP hD hS (hts (.fieldLink RX10 256 "TraceTreesModel" "records" "Z") (List.mem_of_getElem? (i := 1) rfl)) dX10_begins_2 (fun H locs hP hD hS => ?_)
  refine lv_aload_n hx hb dX10_begins_5 rfl (lv_at hl 0 rfl) ?_
  refine lv_iload_n hx hb dX10_begins_6 rfl (lv_at hl 1 rfl) ?_
  refine pf_X10_40 hx hb hts iw_X10_begins_X10 hown hK hP hD hS (hts (.fieldLink RX10 259 "TraceTreesModel" "headNow" "I") (List.mem_of_getElem? (i := 2) rfl)) dX10_begins_7 (fun H locs hP hD hS => ?_)
  refine lv_aload_n hx hb dX10_begins_10 rfl (lv_at hl 0 rfl) ?_
  refine lv_iload_n hx hb dX10_begins_11 rfl (lv_at hl 2 rfl) ?_
  refine pf_X10_41 hx hb hts iw_X10_begins_X10 hown hK hP hD hS (hts (.fieldLink RX10 262 "TraceTreesModel" "parentNow" "I") (List.mem_of_getElem? (i := 3) rfl)) dX10_begins_12 (fun H locs hP hD hS => ?_)
  refine lv_aload_n hx hb dX10_begins_15 rfl (lv_at hl 0 rfl) ?_
  refine lv_iload_n hx hb dX10_begins_16 rfl (lv_at hl 3 rfl) ?_
  refine pf_X10_42 hx hb hts iw_X10_begins_X10 hown hK hP hD hS (hts (.fieldLink RX10 265 "TraceTreesModel" "forkNow" "I") (List.mem_of_getElem? (i := 4) rfl)) dX10_begins_17 (fun H locs hP hD hS => ?_)
  refine lv_aload_n hx hb dX10_begins_20 rfl (lv_at hl 0 rfl) ?_
  refine lv_iconst (v := 0) hx hb dX10_begins_21 (by decide) ?_
  refine pf_X10_43 hx hb hts iw_X10_begins_X10 hown hK hP hD hS (hts (.fieldLink RX10 268 "TraceTreesModel" "many" "I") (List.mem_of_getElem? (i := 5) rfl)) dX10_begins_22 (fun H locs hP hD hS => ?_)
  have h9 := h
  exact wretv hx hb hr hlocks hP hD hS trivial (by rw [← h9]) dX10_begins_25
def zf_X10_lets (σ : Sg) : Option (Sg) := bd (σ 0 40) 24 (some (su (su (su (su σ 0 39 (0 : Int32)) 0 20 ((σ 0 20) + (1 : Int32))) 10 (σ 0 40).toNatClampNeg (0 : Int32)) 11 (σ 0 40).toNatClampNeg ((σ 11 (σ 0 40).toNatClampNeg) + (1 : Int32))))
def oc_X10_lets : List Cond := [.fieldLink RX10 256 "TraceTreesModel" "records" "Z", .fieldLink RX10 271 "TraceTreesModel" "drops" "I", .fieldLink RX10 37 "TraceTreesModel" "heat" "[I", .fieldLink RX10 259 "TraceTreesModel" "headNow" "I", .fieldLink RX10 40 "TraceTreesModel" "dropsOf" "[I"]
def vc_X10_lets : List Cond := .code yX10_lets cX10_lets 1 none :: (oc_X10_lets ++ (wsX100))
theorem iw_X10_lets_X10 : ∀ w ∈ wsX100, w ∈ vc_X10_lets := fun _ h => List.mem_cons_of_mem _ (List.mem_append_right _ (h))
theorem gd_c_X10_lets : (vc_X10_lets).all goodWord = true := gall_cons rfl (gall_app (by decide +kernel) gw_X10)
set_option maxHeartbeats 4000000 in
set_option maxRecDepth 100000 in
theorem c_X10_lets (l : Launch) (dC : Nat → ClassId) (dI : Nat → Nat → Nat) (cI cT cS : ClassId) (sz : Nat) (ad : Nat → Nat) (σ : Sg) (o : Sg) (h : zf_X10_lets σ = some o) : gCV (S := Unit) l yX10_lets vc_X10_lets { frames := 0, cells := 0, slots := 0, locals := 0 } (dC, dI) (gTY cI cT cS) sz [.ref (ad 0)] (Wd 24 (cfR ad cI) σ) (fun (_ : Unit) => True) (fun (_ : Unit) => (Wd 24 (cfR ad cI) o)) 0 0 := by
  refine Met.ofW (cc := cX10_lets) (maxL := 1) (ret := none) (by decide) rfl ?_
  intro p e s m args below meth c s₁ B hml hv
  obtain ⟨rfl, hsz, hP, hK, hD0⟩ := hv
  have hx := B.exec
  have hb := B.bytes
  have hr := B.returns
  have hts := atoms_spec (ws := vc_X10_lets) B.pre
  have hown : s.vm.findClass RX10 = some m.cls := findClass_of_methodNamed B.named
  have hlocks := B.notSynchronized
  subst hsz
  have hD := hD0.self (sz := s.heap.size)
  generalize hAe : va_A (Wd 24 (cfR ad cI) σ) s.heap.size = A at hD ⊢
  have hA : ∀ q : Nat, s.heap.size ≤ q → A q := fun q h => by rw [← hAe]; exact Or.inr h
  clear hAe hD0
  refine gstart (fun H locs hHe hLe => ?_)
  have hS : va_S A s.heap H locs := by rw [← hHe, ← hLe]; exact va_S.rf
  replace hP : va_P (dC, dI) vwCl (Wd 24 (cfR ad cI) σ) H := by rw [← hHe]; exact hP
  clear hHe hLe
  have hl := lv_entry ([.ref (ad 0)]) (n := 1) (Nat.le_of_ble_eq_true rfl)
  rw [lg_entry_eq]
  generalize (lg_sl ([.ref (ad 0)]) ++ List.replicate (1 - (lg_sl ([.ref (ad 0)])).length) Slot.unset).toArray = ls at hl ⊢
  replace hl : lv_has ls 1 [(0, .ref (ad 0))] := hl
  unfold zf_X10_lets at h
  refine lv_aload_n hx hb dX10_lets_0 rfl (lv_at hl 0 rfl) ?_
  refine lv_iconst (v := 0) hx hb dX10_lets_1 (by decide) ?_
  refine pf_X10_39 (Or.inl rfl) hx hb hts iw_X10_lets_X10 hown hK hP hD hS (hts (.fieldLink RX10 256 "TraceTreesModel" "records" "Z") (List.mem_of_getElem? (i := 1) rfl)) dX10_lets_2 (fun H locs hP hD hS => ?_)
  refine lv_aload_n hx hb dX10_lets_5 rfl (lv_at hl 0 rfl) ?_
  refine lv_dup hx hb dX10_lets_6 rfl ?_
  refine gf_X10_20 hx hb hts iw_X10_lets_X10 hown hK hP (hts (.fieldLink RX10 271 "TraceTreesModel" "drops" "I") (List.mem_of_getElem? (i := 2) rfl)) dX10_lets_7 ?_
  refine lv_nm (y := (σ 0 20)) (su_rf (by omega) (by decide) rfl) ?_
  refine lv_iconst (v := 1) hx hb dX10_lets_10 (by decide) ?_
  refine lv_iadd hx hb dX10_lets_11 ?_
  refine pf_X10_20 hx hb hts iw_X10_lets_X10 hown hK hP hD hS (hts (.fieldLink RX10 271 "TraceTreesModel" "drops" "I") (List.mem_of_getElem? (i := 2) rfl)) dX10_lets_12 (fun H locs hP hD hS => ?_)
  refine lv_aload_n hx hb dX10_lets_15 rfl (lv_at hl 0 rfl) ?_
  refine gf_X10_23 hx hb hts iw_X10_lets_X10 hown hK hP (hts (.fieldLink RX10 37 "TraceTreesModel" "heat" "[I") (List.mem_of_getElem? (i := 3) rfl)) dX10_lets_16 ?_
  refine lv_aload_n hx hb dX10_lets_19 rfl (lv_at hl 0 rfl) ?_
  refine gf_X10_40 hx hb hts iw_X10_lets_X10 hown hK hP (hts (.fieldLink RX10 259 "TraceTreesModel" "headNow" "I") (List.mem_of_getElem? (i := 4) rfl)) dX10_lets_20 ?_
  refine lv_nm (y := (σ 0 40)) (su_rf (by omega) (by decide) (su_rf (by omega) (by decide) rfl)) ?_
  refine lv_iconst (v := 0) hx hb dX10_lets_23 (by decide) ?_
  obtain ⟨hi1, h⟩ := bd_inv h
  refine wast hx hb hK hP hD hS aR10 hi1 dX10_lets_24 (fun H locs hP hD hS => ?_)
  refine lv_aload_n hx hb dX10_lets_25 rfl (lv_at hl 0 rfl) ?_
  refine gf_X10_24 hx hb hts iw_X10_lets_X10 hown hK hP (hts (.fieldLink RX10 40 "TraceTreesModel" "dropsOf" "[I") (List.mem_of_getElem? (i := 5) rfl)) dX10_lets_26 ?_
  refine lv_aload_n hx hb dX10_lets_29 rfl (lv_at hl 0 rfl) ?_
  refine gf_X10_40 hx hb hts iw_X10_lets_X10 hown hK hP (hts (.fieldLink RX10 259 "TraceTreesModel" "headNow" "I") (List.mem_of_getElem? (i := 4) rfl)) dX10_lets_30 ?_
  refine lv_nm (y := (σ 0 40)) (su_rd (by decide) (su_rf (by omega) (by decide) (su_rf (by omega) (by decide) rfl))) ?_
  refine lv_dup2_11 hx hb dX10_lets_33 rfl rfl ?_
  refine wald hx hb hK hP aR11 hi1 dX10_lets_34 ?_
  refine lv_nm (y := (σ 11 (σ 0 40).toNatClampNeg)) (su_rd (by decide) (su_rd (by decide) (su_rd (by decide) rfl))) ?_
  refine lv_iconst (v := 1) hx hb dX10_lets_35 (by decide) ?_
  refine lv_iadd hx hb dX10_lets_36 ?_
  refine wast hx hb hK hP hD hS aR11 hi1 dX10_lets_37 (fun H locs hP hD hS => ?_)
  have h9 := Option.some.inj h
  exact wretv hx hb hr hlocks hP hD hS trivial (by rw [← h9]) dX10_lets_38
def zb_X10_closes_96 (σb96 : Sg) : Option (Sg) := some (su σb96 0 25 ((σb96 0 25) + (1 : Int32)))
def zf_X10_closes (σ : Sg) : Option (Sg) := bd (σ 0 25) 8 ((if (σ 0 41) = (-1 : Int32) then (zb_X10_closes_96 (su (su (su (su (su (su σ 0 39 (0 : Int32)) 12 (σ 0 25).toNatClampNeg (σ 0 40)) 13 (σ 0 25).toNatClampNeg (σ 0 41)) 14 (σ 0 25).toNatClampNeg (σ 0 42)) 15 (σ 0 25).toNatClampNeg (σ 0 43)) 16 (σ 0 25).toNatClampNeg (0 : Int32))) else bd (((16 : Int32) * (σ 0 41)) + (σ 0 42)) 144 ((zb_X10_closes_96 (su (su (su (su (su (su (su σ 0 39 (0 : Int32)) 12 (σ 0 25).toNatClampNeg (σ 0 40)) 13 (σ 0 25).toNatClampNeg (σ 0 41)) 14 (σ 0 25).toNatClampNeg (σ 0 42)) 15 (σ 0 25).toNatClampNeg (σ 0 43)) 16 (σ 0 25).toNatClampNeg (0 : Int32)) 22 (((16 : Int32) * (σ 0 41)) + (σ 0 42)).toNatClampNeg (σ 0 25))))))
def oc_X10_closes : List Cond := [.fieldLink RX10 256 "TraceTreesModel" "records" "Z", .fieldLink RX10 43 "TraceTreesModel" "head" "[I", .fieldLink RX10 253 "TraceTreesModel" "traces" "I", .fieldLink RX10 259 "TraceTreesModel" "headNow" "I", .fieldLink RX10 46 "TraceTreesModel" "parent" "[I", .fieldLink RX10 262 "TraceTreesModel" "parentNow" "I", .fieldLink RX10 49 "TraceTreesModel" "fork" "[I", .fieldLink RX10 265 "TraceTreesModel" "forkNow" "I", .fieldLink RX10 52 "TraceTreesModel" "length" "[I", .fieldLink RX10 268 "TraceTreesModel" "many" "I", .fieldLink RX10 55 "TraceTreesModel" "begun" "[I", .fieldLink RX10 73 "TraceTreesModel" "branch" "[I"]
def vc_X10_closes : List Cond := .code yX10_closes cX10_closes 1 none :: (oc_X10_closes ++ (wsX100))
theorem iw_X10_closes_X10 : ∀ w ∈ wsX100, w ∈ vc_X10_closes := fun _ h => List.mem_cons_of_mem _ (List.mem_append_right _ (h))
theorem gd_c_X10_closes : (vc_X10_closes).all goodWord = true := gall_cons rfl (gall_app (by decide +kernel) gw_X10)
set_option maxHeartbeats 4000000 in
set_option maxRecDepth 100000 in
theorem c_X10_closes (l : Launch) (dC : Nat → ClassId) (dI : Nat → Nat → Nat) (cI cT cS : ClassId) (sz : Nat) (ad : Nat → Nat) (σ : Sg) (o : Sg) (h : zf_X10_closes σ = some o) : gCV (S := Unit) l yX10_closes vc_X10_closes { frames := 0, cells := 0, slots := 0, locals := 0 } (dC, dI) (gTY cI cT cS) sz [.ref (ad 0)] (Wd 24 (cfR ad cI) σ) (fun (_ : Unit) => True) (fun (_ : Unit) => (Wd 24 (cfR ad cI) o)) 0 0 := by
  refine Met.ofW (cc := cX10_closes) (maxL := 1) (ret := none) (by decide) rfl ?_
  intro p e s m args below meth c s₁ B hml hv
  obtain ⟨rfl, hsz, hP, hK, hD0⟩ := hv
  have hx := B.exec
  have hb := B.bytes
  have hr := B.returns
  have hts := atoms_spec (ws := vc_X10_closes) B.pre
  have hown : s.vm.findClass RX10 = some m.cls := findClass_of_methodNamed B.named
  have hlocks := B.notSynchronized
  subst hsz
  have hD := hD0.self (sz := s.heap.size)
  generalize hAe : va_A (Wd 24 (cfR ad cI) σ) s.heap.size = A at hD ⊢
  have hA : ∀ q : Nat, s.heap.size ≤ q → A q := fun q h => by rw [← hAe]; exact Or.inr h
  clear hAe hD0
  refine gstart (fun H locs hHe hLe => ?_)
  have hS : va_S A s.heap H locs := by rw [← hHe, ← hLe]; exact va_S.rf
  replace hP : va_P (dC, dI) vwCl (Wd 24 (cfR ad cI) σ) H := by rw [← hHe]; exact hP
  clear hHe hLe
  have hl := lv_entry ([.ref (ad 0)]) (n := 1) (Nat.le_of_ble_eq_true rfl)
  rw [lg_entry_eq]
  generalize (lg_sl ([.ref (ad 0)]) ++ List.replicate (1 - (lg_sl ([.ref (ad 0)])).length) Slot.unset).toArray = ls at hl ⊢
  replace hl : lv_has ls 1 [(0, .ref (ad 0))] := hl
  unfold zf_X10_closes at h
  have J96 : ∀ (σb96 : Sg) (H : Heap) (locs : List Loc) (ls : Array Slot), zb_X10_closes_96 σb96 = some o → va_P (dC, dI) vwCl (Wd 24 (cfR ad cI) σb96) H → va_D A (Wd 24 (cfR ad cI) σb96) → va_S A s.heap H locs → lv_has ls 1 [(0, .ref (ad 0))] → W p l e (headSpec vc_X10_closes { frames := 0, cells := 0, slots := 0, locals := 0 }).room s m (List.toArray (α := Value) [.ref (ad 0)]) below meth c H locs 0 0 (MQ below (va_Qv (fun (_ : Unit) => True) (gB (dC, dI) A (fun (_ : Unit) => (Wd 24 (cfR ad cI) o))) A) (List.toArray (α := Value) [.ref (ad 0)]) s 0 0 A) (F0 m 96 ls []) := by
    intro σb96 H locs ls h hP hD hS hl
    unfold zb_X10_closes_96 at h
    refine lv_aload_n hx hb dX10_closes_96 rfl (lv_at hl 0 rfl) ?_
    refine lv_dup hx hb dX10_closes_97 rfl ?_
    refine gf_X10_25 hx hb hts iw_X10_closes_X10 hown hK hP (hts (.fieldLink RX10 253 "TraceTreesModel" "traces" "I") (List.mem_of_getElem? (i := 3) rfl)) dX10_closes_98 ?_
    refine lv_iconst (v := 1) hx hb dX10_closes_101 (by decide) ?_
    refine lv_iadd hx hb dX10_closes_102 ?_
    refine pf_X10_25 hx hb hts iw_X10_closes_X10 hown hK hP hD hS (hts (.fieldLink RX10 253 "TraceTreesModel" "traces" "I") (List.mem_of_getElem? (i := 3) rfl)) dX10_closes_103 (fun H locs hP hD hS => ?_)
    have h9 := Option.some.inj h
    exact wretv hx hb hr hlocks hP hD hS trivial (by rw [← h9]) dX10_closes_106
  refine lv_aload_n hx hb dX10_closes_0 rfl (lv_at hl 0 rfl) ?_
  refine lv_iconst (v := 0) hx hb dX10_closes_1 (by decide) ?_
  refine pf_X10_39 (Or.inl rfl) hx hb hts iw_X10_closes_X10 hown hK hP hD hS (hts (.fieldLink RX10 256 "TraceTreesModel" "records" "Z") (List.mem_of_getElem? (i := 1) rfl)) dX10_closes_2 (fun H locs hP hD hS => ?_)
  refine lv_aload_n hx hb dX10_closes_5 rfl (lv_at hl 0 rfl) ?_
  refine gf_X10_26 hx hb hts iw_X10_closes_X10 hown hK hP (hts (.fieldLink RX10 43 "TraceTreesModel" "head" "[I") (List.mem_of_getElem? (i := 2) rfl)) dX10_closes_6 ?_
  refine lv_aload_n hx hb dX10_closes_9 rfl (lv_at hl 0 rfl) ?_
  refine gf_X10_25 hx hb hts iw_X10_closes_X10 hown hK hP (hts (.fieldLink RX10 253 "TraceTreesModel" "traces" "I") (List.mem_of_getElem? (i := 3) rfl)) dX10_closes_10 ?_
  refine lv_nm (y := (σ 0 25)) (su_rf (by omega) (by decide) rfl) ?_
  refine lv_aload_n hx hb dX10_closes_13 rfl (lv_at hl 0 rfl) ?_
  refine gf_X10_40 hx hb hts iw_X10_closes_X10 hown hK hP (hts (.fieldLink RX10 259 "TraceTreesModel" "headNow" "I") (List.mem_of_getElem? (i := 4) rfl)) dX10_closes_14 ?_
  refine lv_nm (y := (σ 0 40)) (su_rf (by omega) (by decide) rfl) ?_
  obtain ⟨hi1, h⟩ := bd_inv h
  refine wast hx hb hK hP hD hS aR12 hi1 dX10_closes_17 (fun H locs hP hD hS => ?_)
  refine lv_aload_n hx hb dX10_closes_18 rfl (lv_at hl 0 rfl) ?_
  refine gf_X10_27 hx hb hts iw_X10_closes_X10 hown hK hP (hts (.fieldLink RX10 46 "TraceTreesModel" "parent" "[I") (List.mem_of_getElem? (i := 5) rfl)) dX10_closes_19 ?_
  refine lv_aload_n hx hb dX10_closes_22 rfl (lv_at hl 0 rfl) ?_
  refine gf_X10_25 hx hb hts iw_X10_closes_X10 hown hK hP (hts (.fieldLink RX10 253 "TraceTreesModel" "traces" "I") (List.mem_of_getElem? (i := 3) rfl)) dX10_closes_23 ?_
  refine lv_nm (y := (σ 0 25)) (su_rd (by decide) (su_rf (by omega) (by decide) rfl)) ?_
  refine lv_aload_n hx hb dX10_closes_26 rfl (lv_at hl 0 rfl) ?_
  refine gf_X10_41 hx hb hts iw_X10_closes_X10 hown hK hP (hts (.fieldLink RX10 262 "TraceTreesModel" "parentNow" "I") (List.mem_of_getElem? (i := 6) rfl)) dX10_closes_27 ?_
  refine lv_nm (y := (σ 0 41)) (su_rd (by decide) (su_rf (by omega) (by decide) rfl)) ?_
  refine wast hx hb hK hP hD hS aR13 hi1 dX10_closes_30 (fun H locs hP hD hS => ?_)
  refine lv_aload_n hx hb dX10_closes_31 rfl (lv_at hl 0 rfl) ?_
  refine gf_X10_28 hx hb hts iw_X10_closes_X10 hown hK hP (hts (.fieldLink RX10 49 "TraceTreesModel" "fork" "[I") (List.mem_of_getElem? (i := 7) rfl)) dX10_closes_32 ?_
  refine lv_aload_n hx hb dX10_closes_35 rfl (lv_at hl 0 rfl) ?_
  refine gf_X10_25 hx hb hts iw_X10_closes_X10 hown hK hP (hts (.fieldLink RX10 253 "TraceTreesModel" "traces" "I") (List.mem_of_getElem? (i := 3) rfl)) dX10_closes_36 ?_
  refine lv_nm (y := (σ 0 25)) (su_rd (by decide) (su_rd (by decide) (su_rf (by omega) (by decide) rfl))) ?_
  refine lv_aload_n hx hb dX10_closes_39 rfl (lv_at hl 0 rfl) ?_
  refine gf_X10_42 hx hb hts iw_X10_closes_X10 hown hK hP (hts (.fieldLink RX10 265 "TraceTreesModel" "forkNow" "I") (List.mem_of_getElem? (i := 8) rfl)) dX10_closes_40 ?_
  refine lv_nm (y := (σ 0 42)) (su_rd (by decide) (su_rd (by decide) (su_rf (by omega) (by decide) rfl))) ?_
  refine wast hx hb hK hP hD hS aR14 hi1 dX10_closes_43 (fun H locs hP hD hS => ?_)
  refine lv_aload_n hx hb dX10_closes_44 rfl (lv_at hl 0 rfl) ?_
  refine gf_X10_29 hx hb hts iw_X10_closes_X10 hown hK hP (hts (.fieldLink RX10 52 "TraceTreesModel" "length" "[I") (List.mem_of_getElem? (i := 9) rfl)) dX10_closes_45 ?_
  refine lv_aload_n hx hb dX10_closes_48 rfl (lv_at hl 0 rfl) ?_
  refine gf_X10_25 hx hb hts iw_X10_closes_X10 hown hK hP (hts (.fieldLink RX10 253 "TraceTreesModel" "traces" "I") (List.mem_of_getElem? (i := 3) rfl)) dX10_closes_49 ?_
  refine lv_nm (y := (σ 0 25)) (su_rd (by decide) (su_rd (by decide) (su_rd (by decide) (su_rf (by omega) (by decide) rfl)))) ?_
  refine lv_aload_n hx hb dX10_closes_52 rfl (lv_at hl 0 rfl) ?_
  refine gf_X10_43 hx hb hts iw_X10_closes_X10 hown hK hP (hts (.fieldLink RX10 268 "TraceTreesModel" "many" "I") (List.mem_of_getElem? (i := 10) rfl)) dX10_closes_53 ?_
  refine lv_nm (y := (σ 0 43)) (su_rd (by decide) (su_rd (by decide) (su_rd (by decide) (su_rf (by omega) (by decide) rfl)))) ?_
  refine wast hx hb hK hP hD hS aR15 hi1 dX10_closes_56 (fun H locs hP hD hS => ?_)
  refine lv_aload_n hx hb dX10_closes_57 rfl (lv_at hl 0 rfl) ?_
  refine gf_X10_30 hx hb hts iw_X10_closes_X10 hown hK hP (hts (.fieldLink RX10 55 "TraceTreesModel" "begun" "[I") (List.mem_of_getElem? (i := 11) rfl)) dX10_closes_58 ?_
  refine lv_aload_n hx hb dX10_closes_61 rfl (lv_at hl 0 rfl) ?_
  refine gf_X10_25 hx hb hts iw_X10_closes_X10 hown hK hP (hts (.fieldLink RX10 253 "TraceTreesModel" "traces" "I") (List.mem_of_getElem? (i := 3) rfl)) dX10_closes_62 ?_
  refine lv_nm (y := (σ 0 25)) (su_rd (by decide) (su_rd (by decide) (su_rd (by decide) (su_rd (by decide) (su_rf (by omega) (by decide) rfl))))) ?_
  refine lv_iconst (v := 0) hx hb dX10_closes_65 (by decide) ?_
  refine wast hx hb hK hP hD hS aR16 hi1 dX10_closes_66 (fun H locs hP hD hS => ?_)
  refine lv_aload_n hx hb dX10_closes_67 rfl (lv_at hl 0 rfl) ?_
  refine gf_X10_41 hx hb hts iw_X10_closes_X10 hown hK hP (hts (.fieldLink RX10 262 "TraceTreesModel" "parentNow" "I") (List.mem_of_getElem? (i := 6) rfl)) dX10_closes_68 ?_
  refine lv_nm (y := (σ 0 41)) (su_rd (by decide) (su_rd (by decide) (su_rd (by decide) (su_rd (by decide) (su_rd (by decide) (su_rf (by omega) (by decide) rfl)))))) ?_
  refine lv_iconst (v := (-1)) hx hb dX10_closes_71 (by decide) ?_
  refine lv_icmp_eq (tgt := 96) hx hb dX10_closes_72 (by decide) (fun c2 => ?_) (fun c2 => ?_)
  · replace h := ifp (c2) h
    exact J96 (su (su (su (su (su (su σ 0 39 (0 : Int32)) 12 (σ 0 25).toNatClampNeg (σ 0 40)) 13 (σ 0 25).toNatClampNeg (σ 0 41)) 14 (σ 0 25).toNatClampNeg (σ 0 42)) 15 (σ 0 25).toNatClampNeg (σ 0 43)) 16 (σ 0 25).toNatClampNeg (0 : Int32)) H locs ls h hP hD hS (lv_sub (l' := [(0, .ref (ad 0))]) hl [0] rfl)
  · replace h := ifn (c2) h
    refine lv_aload_n hx hb dX10_closes_75 rfl (lv_at hl 0 rfl) ?_
    refine gf_X10_36 hx hb hts iw_X10_closes_X10 hown hK hP (hts (.fieldLink RX10 73 "TraceTreesModel" "branch" "[I") (List.mem_of_getElem? (i := 12) rfl)) dX10_closes_76 ?_
    refine lv_bipush (v := 16) hx hb dX10_closes_79 (by decide) ?_
    refine lv_aload_n hx hb dX10_closes_81 rfl (lv_at hl 0 rfl) ?_
    refine gf_X10_41 hx hb hts iw_X10_closes_X10 hown hK hP (hts (.fieldLink RX10 262 "TraceTreesModel" "parentNow" "I") (List.mem_of_getElem? (i := 6) rfl)) dX10_closes_82 ?_
    refine lv_nm (y := (σ 0 41)) (su_rd (by decide) (su_rd (by decide) (su_rd (by decide) (su_rd (by decide) (su_rd (by decide) (su_rf (by omega) (by decide) rfl)))))) ?_
    refine lv_imul hx hb dX10_closes_85 ?_
    refine lv_aload_n hx hb dX10_closes_86 rfl (lv_at hl 0 rfl) ?_
    refine gf_X10_42 hx hb hts iw_X10_closes_X10 hown hK hP (hts (.fieldLink RX10 265 "TraceTreesModel" "forkNow" "I") (List.mem_of_getElem? (i := 8) rfl)) dX10_closes_87 ?_
    refine lv_nm (y := (σ 0 42)) (su_rd (by decide) (su_rd (by decide) (su_rd (by decide) (su_rd (by decide) (su_rd (by decide) (su_rf (by omega) (by decide) rfl)))))) ?_
    refine lv_iadd hx hb dX10_closes_90 ?_
    refine lv_aload_n hx hb dX10_closes_91 rfl (lv_at hl 0 rfl) ?_
    refine gf_X10_25 hx hb hts iw_X10_closes_X10 hown hK hP (hts (.fieldLink RX10 253 "TraceTreesModel" "traces" "I") (List.mem_of_getElem? (i := 3) rfl)) dX10_closes_92 ?_
    refine lv_nm (y := (σ 0 25)) (su_rd (by decide) (su_rd (by decide) (su_rd (by decide) (su_rd (by decide) (su_rd (by decide) (su_rf (by omega) (by decide) rfl)))))) ?_
    obtain ⟨hi3, h⟩ := bd_inv h
    refine wast hx hb hK hP hD hS aR22 hi3 dX10_closes_95 (fun H locs hP hD hS => ?_)
    exact J96 (su (su (su (su (su (su (su σ 0 39 (0 : Int32)) 12 (σ 0 25).toNatClampNeg (σ 0 40)) 13 (σ 0 25).toNatClampNeg (σ 0 41)) 14 (σ 0 25).toNatClampNeg (σ 0 42)) 15 (σ 0 25).toNatClampNeg (σ 0 43)) 16 (σ 0 25).toNatClampNeg (0 : Int32)) 22 (((16 : Int32) * (σ 0 41)) + (σ 0 42)).toNatClampNeg (σ 0 25)) H locs ls h hP hD hS (lv_sub (l' := [(0, .ref (ad 0))]) hl [0] rfl)
def zb_X10_aheadOfStep_61 (σb61 : Sg) : Option (Sg) := some σb61
def zb_X10_aheadOfStep_57 (σ : Sg) : Option (Sg) := obd (zf_X10_lets σ) (fun σ10 => (zb_X10_aheadOfStep_61 σ10))
def zb_X10_aheadOfStep_25 (σ : Sg) : Option (Sg) := (if (σ 0 43) = (16 : Int32) then (zb_X10_aheadOfStep_57 σ) else (if (σ 0 16) = (σ 0 40) then (zb_X10_aheadOfStep_61 σ) else obd (zf_X10_rootOf (σ 0 16) σ) (fun r7 => (if r7 = (-1 : Int32) then (zb_X10_aheadOfStep_61 σ) else (zb_X10_aheadOfStep_57 σ)))))
def zf_X10_aheadOfStep (σ : Sg) : Option (Sg) := (if (σ 0 16) = (σ 0 40) then (if (σ 0 43) ≤ 0 then (zb_X10_aheadOfStep_25 σ) else obd (zf_X10_closes σ) (fun σ3 => (zb_X10_aheadOfStep_61 σ3))) else (zb_X10_aheadOfStep_25 σ))
def oc_X10_aheadOfStep : List Cond := [.fieldLink RX10 241 "TraceTreesModel" "point" "I", .fieldLink RX10 259 "TraceTreesModel" "headNow" "I", .fieldLink RX10 268 "TraceTreesModel" "many" "I", .methodLink RX10 274 yX10_closes, .instanceMethod yX10_closes, .selects RX10 yX10_closes yX10_closes, .initialized RX10, .methodLink RX10 277 yX10_rootOf, .instanceMethod yX10_rootOf, .selects RX10 yX10_rootOf yX10_rootOf, .methodLink RX10 280 yX10_lets, .instanceMethod yX10_lets, .selects RX10 yX10_lets yX10_lets]
def vc_X10_aheadOfStep : List Cond := .code yX10_aheadOfStep cX10_aheadOfStep 1 none :: (oc_X10_aheadOfStep ++ (wsX100 ++ (vc_X10_closes ++ (vc_X10_rootOf ++ (vc_X10_lets)))))
theorem iw_X10_aheadOfStep_X10 : ∀ w ∈ wsX100, w ∈ vc_X10_aheadOfStep := fun _ h => List.mem_cons_of_mem _ (List.mem_append_right _ (List.mem_append_left _ h))
theorem ic_X10_aheadOfStep_c_X10_closes : ∀ w ∈ vc_X10_closes, w ∈ vc_X10_aheadOfStep := fun _ h => List.mem_cons_of_mem _ (List.mem_append_right _ (List.mem_append_right _ (List.mem_append_left _ h)))
theorem ic_X10_aheadOfStep_c_X10_rootOf : ∀ w ∈ vc_X10_rootOf, w ∈ vc_X10_aheadOfStep := fun _ h => List.mem_cons_of_mem _ (List.mem_append_right _ (List.mem_append_right _ (List.mem_append_right _ (List.mem_append_left _ h))))
theorem ic_X10_aheadOfStep_c_X10_lets : ∀ w ∈ vc_X10_lets, w ∈ vc_X10_aheadOfStep := fun _ h => List.mem_cons_of_mem _ (List.mem_append_right _ (List.mem_append_right _ (List.mem_append_right _ (List.mem_append_right _ (h)))))
theorem gd_c_X10_aheadOfStep : (vc_X10_aheadOfStep).all goodWord = true := gall_cons rfl (gall_app (by decide +kernel) (gall_app gw_X10 (gall_app gd_c_X10_closes (gall_app gd_c_X10_rootOf gd_c_X10_lets))))
set_option maxHeartbeats 4000000 in
set_option maxRecDepth 100000 in
theorem c_X10_aheadOfStep (l : Launch) (dC : Nat → ClassId) (dI : Nat → Nat → Nat) (cI cT cS : ClassId) (sz : Nat) (ad : Nat → Nat) (σ : Sg) (o : Sg) (h : zf_X10_aheadOfStep σ = some o) : gCV (S := Unit) l yX10_aheadOfStep vc_X10_aheadOfStep { frames := 1, cells := 0, slots := 0, locals := 23 } (dC, dI) (gTY cI cT cS) sz [.ref (ad 0)] (Wd 24 (cfR ad cI) σ) (fun (_ : Unit) => True) (fun (_ : Unit) => (Wd 24 (cfR ad cI) o)) 0 0 := by
  refine Met.ofW (cc := cX10_aheadOfStep) (maxL := 1) (ret := none) (by decide) rfl ?_
  intro p e s m args below meth c s₁ B hml hv
  obtain ⟨rfl, hsz, hP, hK, hD0⟩ := hv
  have hx := B.exec
  have hb := B.bytes
  have hr := B.returns
  have hts := atoms_spec (ws := vc_X10_aheadOfStep) B.pre
  have hown : s.vm.findClass RX10 = some m.cls := findClass_of_methodNamed B.named
  have hlocks := B.notSynchronized
  subst hsz
  have hD := hD0.self (sz := s.heap.size)
  generalize hAe : va_A (Wd 24 (cfR ad cI) σ) s.heap.size = A at hD ⊢
  have hA : ∀ q : Nat, s.heap.size ≤ q → A q := fun q h => by rw [← hAe]; exact Or.inr h
  clear hAe hD0
  refine gstart (fun H locs hHe hLe => ?_)
  have hS : va_S A s.heap H locs := by rw [← hHe, ← hLe]; exact va_S.rf
  replace hP : va_P (dC, dI) vwCl (Wd 24 (cfR ad cI) σ) H := by rw [← hHe]; exact hP
  clear hHe hLe
  have hl := lv_entry ([.ref (ad 0)]) (n := 1) (Nat.le_of_ble_eq_true rfl)
  rw [lg_entry_eq]
  generalize (lg_sl ([.ref (ad 0)]) ++ List.replicate (1 - (lg_sl ([.ref (ad 0)])).length) Slot.unset).toArray = ls at hl ⊢
  replace hl : lv_has ls 1 [(0, .ref (ad 0))] := hl
  unfold zf_X10_aheadOfStep at h
  have J61 : ∀ (σb61 : Sg) (H : Heap) (locs : List Loc) (ls : Array Slot), zb_X10_aheadOfStep_61 σb61 = some o → va_P (dC, dI) vwCl (Wd 24 (cfR ad cI) σb61) H → va_D A (Wd 24 (cfR ad cI) σb61) → va_S A s.heap H locs → lv_has ls 1 [] → W p l e (headSpec vc_X10_aheadOfStep { frames := 1, cells := 0, slots := 0, locals := 23 }).room s m (List.toArray (α := Value) [.ref (ad 0)]) below meth c H locs 0 0 (MQ below (va_Qv (fun (_ : Unit) => True) (gB (dC, dI) A (fun (_ : Unit) => (Wd 24 (cfR ad cI) o))) A) (List.toArray (α := Value) [.ref (ad 0)]) s 0 0 A) (F0 m 61 ls []) := by
    intro σb61 H locs ls h hP hD hS hl
    unfold zb_X10_aheadOfStep_61 at h
    have h9 := Option.some.inj h
    exact wretv hx hb hr hlocks hP hD hS trivial (by rw [← h9]) dX10_aheadOfStep_61
  have J57 : ∀  (H : Heap) (locs : List Loc) (ls : Array Slot), zb_X10_aheadOfStep_57 σ = some o → va_P (dC, dI) vwCl (Wd 24 (cfR ad cI) σ) H → va_D A (Wd 24 (cfR ad cI) σ) → va_S A s.heap H locs → lv_has ls 1 [(0, .ref (ad 0))] → W p l e (headSpec vc_X10_aheadOfStep { frames := 1, cells := 0, slots := 0, locals := 23 }).room s m (List.toArray (α := Value) [.ref (ad 0)]) below meth c H locs 0 0 (MQ below (va_Qv (fun (_ : Unit) => True) (gB (dC, dI) A (fun (_ : Unit) => (Wd 24 (cfR ad cI) o))) A) (List.toArray (α := Value) [.ref (ad 0)]) s 0 0 A) (F0 m 57 ls []) := by
    intro  H locs ls h hP hD hS hl
    unfold zb_X10_aheadOfStep_57 at h
    refine lv_aload_n hx hb dX10_aheadOfStep_57 rfl (lv_at hl 0 rfl) ?_
    obtain ⟨σ10, hc10, h⟩ := obd_inv h
    refine wcallv (S := Unit) (va_runV (As := []) (rest := []) ⟨hx, hb, hml, hown, hts⟩ (c_X10_lets l dC dI cI cT cS H.size ad   σ _ hc10) (cwV 0 hts (gWV (List.mem_of_getElem? (i := 11) rfl) (List.mem_of_getElem? (i := 12) rfl) (List.mem_of_getElem? (i := 13) rfl) (List.mem_of_getElem? (i := 7) rfl) ic_X10_aheadOfStep_c_X10_lets gd_c_X10_lets) rfl rfl rfl (by decide +kernel) ⟨(Nat.le_of_ble_eq_true rfl), (Nat.le_of_ble_eq_true rfl)⟩) (wpV (q := (RX10, TX10, 46)) hP hK hD oX10 rfl) rfl rfl hl.1 rfl (lv_room (Nat.le_of_ble_eq_true rfl)) dX10_aheadOfStep_58 ⟨(Nat.le_of_ble_eq_true rfl), (Nat.le_of_ble_eq_true rfl)⟩) hP hD hS hA (fun _ H locs hr11 hP hD hS => ?_)
    replace hP : va_P (dC, dI) vwCl (Wd 24 (cfR ad cI) σ10) H := hP
    replace hD : va_D A (Wd 24 (cfR ad cI) σ10) := hD
    exact J61 σ10 H locs ls h hP hD hS (lv_sub (l' := []) hl [] rfl)
  have J25 : ∀  (H : Heap) (locs : List Loc) (ls : Array Slot), zb_X10_aheadOfStep_25 σ = some o → va_P (dC, dI) vwCl (Wd 24 (cfR ad cI) σ) H → va_D A (Wd 24 (cfR ad cI) σ) → va_S A s.heap H locs → lv_has ls 1 [(0, .ref (ad 0))] → W p l e (headSpec vc_X10_aheadOfStep { frames := 1, cells := 0, slots := 0, locals := 23 }).room s m (List.toArray (α := Value) [.ref (ad 0)]) below meth c H locs 0 0 (MQ below (va_Qv (fun (_ : Unit) => True) (gB (dC, dI) A (fun (_ : Unit) => (Wd 24 (cfR ad cI) o))) A) (List.toArray (α := Value) [.ref (ad 0)]) s 0 0 A) (F0 m 25 ls []) := by
    intro  H locs ls h hP hD hS hl
    unfold zb_X10_aheadOfStep_25 at h
    refine lv_aload_n hx hb dX10_aheadOfStep_25 rfl (lv_at hl 0 rfl) ?_
    refine gf_X10_43 hx hb hts iw_X10_aheadOfStep_X10 hown hK hP (hts (.fieldLink RX10 268 "TraceTreesModel" "many" "I") (List.mem_of_getElem? (i := 3) rfl)) dX10_aheadOfStep_26 ?_
    refine lv_bipush (v := 16) hx hb dX10_aheadOfStep_29 (by decide) ?_
    refine lv_icmp_eq (tgt := 57) hx hb dX10_aheadOfStep_31 (by decide) (fun c5 => ?_) (fun c5 => ?_)
    · replace h := ifp (c5) h
      exact J57  H locs ls h hP hD hS (lv_sub (l' := [(0, .ref (ad 0))]) hl [0] rfl)
    · replace h := ifn (c5) h
      refine lv_aload_n hx hb dX10_aheadOfStep_34 rfl (lv_at hl 0 rfl) ?_
      refine gf_X10_16 hx hb hts iw_X10_aheadOfStep_X10 hown hK hP (hts (.fieldLink RX10 241 "TraceTreesModel" "point" "I") (List.mem_of_getElem? (i := 1) rfl)) dX10_aheadOfStep_35 ?_
      refine lv_aload_n hx hb dX10_aheadOfStep_38 rfl (lv_at hl 0 rfl) ?_
      refine gf_X10_40 hx hb hts iw_X10_aheadOfStep_X10 hown hK hP (hts (.fieldLink RX10 259 "TraceTreesModel" "headNow" "I") (List.mem_of_getElem? (i := 2) rfl)) dX10_aheadOfStep_39 ?_
      refine lv_icmp_eq (tgt := 61) hx hb dX10_aheadOfStep_42 (by decide) (fun c6 => ?_) (fun c6 => ?_)
      · replace h := ifp (c6) h
        exact J61 σ H locs ls h hP hD hS (lv_sub (l' := []) hl [] rfl)
      · replace h := ifn (c6) h
        refine lv_aload_n hx hb dX10_aheadOfStep_45 rfl (lv_at hl 0 rfl) ?_
        refine lv_aload_n hx hb dX10_aheadOfStep_46 rfl (lv_at hl 0 rfl) ?_
        refine gf_X10_16 hx hb hts iw_X10_aheadOfStep_X10 hown hK hP (hts (.fieldLink RX10 241 "TraceTreesModel" "point" "I") (List.mem_of_getElem? (i := 1) rfl)) dX10_aheadOfStep_47 ?_
        obtain ⟨r7, hc7, h⟩ := obd_inv h
        refine wcalli (S := Unit) (va_runV (As := [.int (σ 0 16)]) (rest := []) ⟨hx, hb, hml, hown, hts⟩ (c_X10_rootOf l dC dI cI cT cS H.size ad  (σ 0 16) σ _ hc7) (cwV 1 hts (gWV (List.mem_of_getElem? (i := 8) rfl) (List.mem_of_getElem? (i := 9) rfl) (List.mem_of_getElem? (i := 10) rfl) (List.mem_of_getElem? (i := 7) rfl) ic_X10_aheadOfStep_c_X10_rootOf gd_c_X10_rootOf) rfl rfl rfl (by decide +kernel) ⟨(Nat.le_of_ble_eq_true rfl), (Nat.le_of_ble_eq_true rfl)⟩) (wpV (q := (RX10, TX10, 46)) hP hK hD oX10 rfl) rfl rfl hl.1 rfl (lv_room (Nat.le_of_ble_eq_true rfl)) dX10_aheadOfStep_50 ⟨(Nat.le_of_ble_eq_true rfl), (Nat.le_of_ble_eq_true rfl)⟩) hP hD hS hA (fun rr8 _ H locs hr8 hP hD hS => ?_)
        refine lv_nm (y := r7) hr8 ?_
        refine lv_iconst (v := (-1)) hx hb dX10_aheadOfStep_53 (by decide) ?_
        refine lv_icmp_eq (tgt := 61) hx hb dX10_aheadOfStep_54 (by decide) (fun c9 => ?_) (fun c9 => ?_)
        · replace h := ifp (c9) h
          exact J61 σ H locs ls h hP hD hS (lv_sub (l' := []) hl [] rfl)
        · replace h := ifn (c9) h
          exact J57  H locs ls h hP hD hS (lv_sub (l' := [(0, .ref (ad 0))]) hl [0] rfl)
  refine lv_aload_n hx hb dX10_aheadOfStep_0 rfl (lv_at hl 0 rfl) ?_
  refine gf_X10_16 hx hb hts iw_X10_aheadOfStep_X10 hown hK hP (hts (.fieldLink RX10 241 "TraceTreesModel" "point" "I") (List.mem_of_getElem? (i := 1) rfl)) dX10_aheadOfStep_1 ?_
  refine lv_aload_n hx hb dX10_aheadOfStep_4 rfl (lv_at hl 0 rfl) ?_
  refine gf_X10_40 hx hb hts iw_X10_aheadOfStep_X10 hown hK hP (hts (.fieldLink RX10 259 "TraceTreesModel" "headNow" "I") (List.mem_of_getElem? (i := 2) rfl)) dX10_aheadOfStep_5 ?_
  refine lv_icmp_ne (tgt := 25) hx hb dX10_aheadOfStep_8 (by decide) (fun c1 => ?_) (fun c1 => ?_)
  · replace h := ifn (c1) h
    exact J25  H locs ls h hP hD hS (lv_sub (l' := [(0, .ref (ad 0))]) hl [0] rfl)
  · replace h := ifp (c1) h
    refine lv_aload_n hx hb dX10_aheadOfStep_11 rfl (lv_at hl 0 rfl) ?_
    refine gf_X10_43 hx hb hts iw_X10_aheadOfStep_X10 hown hK hP (hts (.fieldLink RX10 268 "TraceTreesModel" "many" "I") (List.mem_of_getElem? (i := 3) rfl)) dX10_aheadOfStep_12 ?_
    refine lv_if_le (tgt := 25) hx hb dX10_aheadOfStep_15 (by decide) (fun c2 => ?_) (fun c2 => ?_)
    · replace h := ifp (c2) h
      exact J25  H locs ls h hP hD hS (lv_sub (l' := [(0, .ref (ad 0))]) hl [0] rfl)
    · replace h := ifn (c2) h
      refine lv_aload_n hx hb dX10_aheadOfStep_18 rfl (lv_at hl 0 rfl) ?_
      obtain ⟨σ3, hc3, h⟩ := obd_inv h
      refine wcallv (S := Unit) (va_runV (As := []) (rest := []) ⟨hx, hb, hml, hown, hts⟩ (c_X10_closes l dC dI cI cT cS H.size ad   σ _ hc3) (cwV 0 hts (gWV (List.mem_of_getElem? (i := 4) rfl) (List.mem_of_getElem? (i := 5) rfl) (List.mem_of_getElem? (i := 6) rfl) (List.mem_of_getElem? (i := 7) rfl) ic_X10_aheadOfStep_c_X10_closes gd_c_X10_closes) rfl rfl rfl (by decide +kernel) ⟨(Nat.le_of_ble_eq_true rfl), (Nat.le_of_ble_eq_true rfl)⟩) (wpV (q := (RX10, TX10, 46)) hP hK hD oX10 rfl) rfl rfl hl.1 rfl (lv_room (Nat.le_of_ble_eq_true rfl)) dX10_aheadOfStep_19 ⟨(Nat.le_of_ble_eq_true rfl), (Nat.le_of_ble_eq_true rfl)⟩) hP hD hS hA (fun _ H locs hr4 hP hD hS => ?_)
      replace hP : va_P (dC, dI) vwCl (Wd 24 (cfR ad cI) σ3) H := hP
      replace hD : va_D A (Wd 24 (cfR ad cI) σ3) := hD
      refine lv_goto (tgt := 61) hx hb dX10_aheadOfStep_22 (by decide) ?_
      exact J61 σ3 H locs ls h hP hD hS (lv_sub (l' := []) hl [] rfl)
def zf_X10_notes (σ : Sg) : Option (Sg) := letb (((16 : Int32) * (σ 0 25)) + (σ 0 43)) (fun e1 => bd e1 144 (obd (zf_X10_y (σ 0 16) (su σ 17 e1.toNatClampNeg (σ 0 16))) (fun r3 => bd r3 8 (obd (zf_X10_z (σ 0 16) (su (su σ 17 e1.toNatClampNeg (σ 0 16)) 18 e1.toNatClampNeg (σ 8 r3.toNatClampNeg))) (fun r6 => bd r6 8 (obd (zf_X10_wayOf (σ 0 16) (su (su (su σ 17 e1.toNatClampNeg (σ 0 16)) 18 e1.toNatClampNeg (σ 8 r3.toNatClampNeg)) 19 e1.toNatClampNeg (σ 8 r6.toNatClampNeg))) (fun r9 => some (su (su (su (su (su (su (su σ 17 e1.toNatClampNeg (σ 0 16)) 18 e1.toNatClampNeg (σ 8 r3.toNatClampNeg)) 19 e1.toNatClampNeg (σ 8 r6.toNatClampNeg)) 20 e1.toNatClampNeg r9) 21 e1.toNatClampNeg (0 : Int32)) 22 e1.toNatClampNeg (-1 : Int32)) 0 43 ((σ 0 43) + (1 : Int32))))))))))
def oc_X10_notes : List Cond := [.fieldLink RX10 253 "TraceTreesModel" "traces" "I", .fieldLink RX10 268 "TraceTreesModel" "many" "I", .fieldLink RX10 58 "TraceTreesModel" "at" "[I", .fieldLink RX10 241 "TraceTreesModel" "point" "I", .fieldLink RX10 61 "TraceTreesModel" "kindY" "[I", .fieldLink RX10 31 "TraceTreesModel" "kinds" "[I", .methodLink RX10 225 yX10_y, .instanceMethod yX10_y, .selects RX10 yX10_y yX10_y, .initialized RX10, .fieldLink RX10 64 "TraceTreesModel" "kindZ" "[I", .methodLink RX10 222 yX10_z, .instanceMethod yX10_z, .selects RX10 yX10_z yX10_z, .fieldLink RX10 67 "TraceTreesModel" "way" "[I", .methodLink RX10 283 yX10_wayOf, .instanceMethod yX10_wayOf, .selects RX10 yX10_wayOf yX10_wayOf, .fieldLink RX10 70 "TraceTreesModel" "hits" "[I", .fieldLink RX10 73 "TraceTreesModel" "branch" "[I"]
def vc_X10_notes : List Cond := .code yX10_notes cX10_notes 2 none :: (oc_X10_notes ++ (wsX100 ++ (vc_X10_y ++ (vc_X10_z ++ (vc_X10_wayOf)))))
theorem iw_X10_notes_X10 : ∀ w ∈ wsX100, w ∈ vc_X10_notes := fun _ h => List.mem_cons_of_mem _ (List.mem_append_right _ (List.mem_append_left _ h))
theorem ic_X10_notes_c_X10_y : ∀ w ∈ vc_X10_y, w ∈ vc_X10_notes := fun _ h => List.mem_cons_of_mem _ (List.mem_append_right _ (List.mem_append_right _ (List.mem_append_left _ h)))
theorem ic_X10_notes_c_X10_z : ∀ w ∈ vc_X10_z, w ∈ vc_X10_notes := fun _ h => List.mem_cons_of_mem _ (List.mem_append_right _ (List.mem_append_right _ (List.mem_append_right _ (List.mem_append_left _ h))))
theorem ic_X10_notes_c_X10_wayOf : ∀ w ∈ vc_X10_wayOf, w ∈ vc_X10_notes := fun _ h => List.mem_cons_of_mem _ (List.mem_append_right _ (List.mem_append_right _ (List.mem_append_right _ (List.mem_append_right _ (h)))))
theorem gd_c_X10_notes : (vc_X10_notes).all goodWord = true := gall_cons rfl (gall_app (by decide +kernel) (gall_app gw_X10 (gall_app gd_c_X10_y (gall_app gd_c_X10_z gd_c_X10_wayOf))))
set_option maxHeartbeats 4000000 in
set_option maxRecDepth 100000 in
theorem c_X10_notes (l : Launch) (dC : Nat → ClassId) (dI : Nat → Nat → Nat) (cI cT cS : ClassId) (sz : Nat) (ad : Nat → Nat) (σ : Sg) (o : Sg) (h : zf_X10_notes σ = some o) : gCV (S := Unit) l yX10_notes vc_X10_notes { frames := 2, cells := 0, slots := 0, locals := 47 } (dC, dI) (gTY cI cT cS) sz [.ref (ad 0)] (Wd 24 (cfR ad cI) σ) (fun (_ : Unit) => True) (fun (_ : Unit) => (Wd 24 (cfR ad cI) o)) 0 0 := by
  refine Met.ofW (cc := cX10_notes) (maxL := 2) (ret := none) (by decide) rfl ?_
  intro p e s m args below meth c s₁ B hml hv
  obtain ⟨rfl, hsz, hP, hK, hD0⟩ := hv
  have hx := B.exec
  have hb := B.bytes
  have hr := B.returns
  have hts := atoms_spec (ws := vc_X10_notes) B.pre
  have hown : s.vm.findClass RX10 = some m.cls := findClass_of_methodNamed B.named
  have hlocks := B.notSynchronized
  subst hsz
  have hD := hD0.self (sz := s.heap.size)
  generalize hAe : va_A (Wd 24 (cfR ad cI) σ) s.heap.size = A at hD ⊢
  have hA : ∀ q : Nat, s.heap.size ≤ q → A q := fun q h => by rw [← hAe]; exact Or.inr h
  clear hAe hD0
  refine gstart (fun H locs hHe hLe => ?_)
  have hS : va_S A s.heap H locs := by rw [← hHe, ← hLe]; exact va_S.rf
  replace hP : va_P (dC, dI) vwCl (Wd 24 (cfR ad cI) σ) H := by rw [← hHe]; exact hP
  clear hHe hLe
  have hl := lv_entry ([.ref (ad 0)]) (n := 2) (Nat.le_of_ble_eq_true rfl)
  rw [lg_entry_eq]
  generalize (lg_sl ([.ref (ad 0)]) ++ List.replicate (2 - (lg_sl ([.ref (ad 0)])).length) Slot.unset).toArray = ls at hl ⊢
  replace hl : lv_has ls 2 [(0, .ref (ad 0))] := hl
  unfold zf_X10_notes at h
  refine lv_bipush (v := 16) hx hb dX10_notes_0 (by decide) ?_
  refine lv_aload_n hx hb dX10_notes_2 rfl (lv_at hl 0 rfl) ?_
  refine gf_X10_25 hx hb hts iw_X10_notes_X10 hown hK hP (hts (.fieldLink RX10 253 "TraceTreesModel" "traces" "I") (List.mem_of_getElem? (i := 1) rfl)) dX10_notes_3 ?_
  refine lv_imul hx hb dX10_notes_6 ?_
  refine lv_aload_n hx hb dX10_notes_7 rfl (lv_at hl 0 rfl) ?_
  refine gf_X10_43 hx hb hts iw_X10_notes_X10 hown hK hP (hts (.fieldLink RX10 268 "TraceTreesModel" "many" "I") (List.mem_of_getElem? (i := 2) rfl)) dX10_notes_8 ?_
  refine lv_iadd hx hb dX10_notes_11 ?_
  obtain ⟨e1, he1, h⟩ := letb_inv h
  refine lv_nm he1 ?_
  refine lv_istore_n (lv' := [(1, .int e1), (0, .ref (ad 0))]) hx hb dX10_notes_12 rfl hl (by decide) rfl (fun ls hl => ?_)
  refine lv_aload_n hx hb dX10_notes_13 rfl (lv_at hl 1 rfl) ?_
  refine gf_X10_31 hx hb hts iw_X10_notes_X10 hown hK hP (hts (.fieldLink RX10 58 "TraceTreesModel" "at" "[I") (List.mem_of_getElem? (i := 3) rfl)) dX10_notes_14 ?_
  refine lv_iload_n hx hb dX10_notes_17 rfl (lv_at hl 0 rfl) ?_
  refine lv_aload_n hx hb dX10_notes_18 rfl (lv_at hl 1 rfl) ?_
  refine gf_X10_16 hx hb hts iw_X10_notes_X10 hown hK hP (hts (.fieldLink RX10 241 "TraceTreesModel" "point" "I") (List.mem_of_getElem? (i := 4) rfl)) dX10_notes_19 ?_
  obtain ⟨hi2, h⟩ := bd_inv h
  refine wast hx hb hK hP hD hS aR17 hi2 dX10_notes_22 (fun H locs hP hD hS => ?_)
  refine lv_aload_n hx hb dX10_notes_23 rfl (lv_at hl 1 rfl) ?_
  refine gf_X10_32 hx hb hts iw_X10_notes_X10 hown hK hP (hts (.fieldLink RX10 61 "TraceTreesModel" "kindY" "[I") (List.mem_of_getElem? (i := 5) rfl)) dX10_notes_24 ?_
  refine lv_iload_n hx hb dX10_notes_27 rfl (lv_at hl 0 rfl) ?_
  refine lv_aload_n hx hb dX10_notes_28 rfl (lv_at hl 1 rfl) ?_
  refine gf_X10_11 hx hb hts iw_X10_notes_X10 hown hK hP (hts (.fieldLink RX10 31 "TraceTreesModel" "kinds" "[I") (List.mem_of_getElem? (i := 6) rfl)) dX10_notes_29 ?_
  refine lv_aload_n hx hb dX10_notes_32 rfl (lv_at hl 1 rfl) ?_
  refine lv_aload_n hx hb dX10_notes_33 rfl (lv_at hl 1 rfl) ?_
  refine gf_X10_16 hx hb hts iw_X10_notes_X10 hown hK hP (hts (.fieldLink RX10 241 "TraceTreesModel" "point" "I") (List.mem_of_getElem? (i := 4) rfl)) dX10_notes_34 ?_
  refine lv_nm (y := (σ 0 16)) (su_rd (by decide) rfl) ?_
  obtain ⟨r3, hc3, h⟩ := obd_inv h
  refine wcalli (S := Unit) (va_runV (As := [.int (σ 0 16)]) (rest := [.ref (ad 8), .int e1, .ref (ad 18)]) ⟨hx, hb, hml, hown, hts⟩ (c_X10_y l dC dI cI cT cS H.size ad  (σ 0 16) (su σ 17 e1.toNatClampNeg (σ 0 16)) _ hc3) (cwV 1 hts (gWV (List.mem_of_getElem? (i := 7) rfl) (List.mem_of_getElem? (i := 8) rfl) (List.mem_of_getElem? (i := 9) rfl) (List.mem_of_getElem? (i := 10) rfl) ic_X10_notes_c_X10_y gd_c_X10_y) rfl rfl rfl (by decide +kernel) ⟨(Nat.le_of_ble_eq_true rfl), (Nat.le_of_ble_eq_true rfl)⟩) (wpV (q := (RX10, TX10, 46)) hP hK hD oX10 rfl) rfl rfl hl.1 rfl (lv_room (Nat.le_of_ble_eq_true rfl)) dX10_notes_37 ⟨(Nat.le_of_ble_eq_true rfl), (Nat.le_of_ble_eq_true rfl)⟩) hP hD hS hA (fun rr4 _ H locs hr4 hP hD hS => ?_)
  refine lv_nm (y := r3) hr4 ?_
  obtain ⟨hi5, h⟩ := bd_inv h
  refine wald hx hb hK hP aR8 hi5 dX10_notes_40 ?_
  refine lv_nm (y := (σ 8 r3.toNatClampNeg)) (su_rd (by decide) rfl) ?_
  refine wast hx hb hK hP hD hS aR18 hi2 dX10_notes_41 (fun H locs hP hD hS => ?_)
  refine lv_aload_n hx hb dX10_notes_42 rfl (lv_at hl 1 rfl) ?_
  refine gf_X10_33 hx hb hts iw_X10_notes_X10 hown hK hP (hts (.fieldLink RX10 64 "TraceTreesModel" "kindZ" "[I") (List.mem_of_getElem? (i := 11) rfl)) dX10_notes_43 ?_
  refine lv_iload_n hx hb dX10_notes_46 rfl (lv_at hl 0 rfl) ?_
  refine lv_aload_n hx hb dX10_notes_47 rfl (lv_at hl 1 rfl) ?_
  refine gf_X10_11 hx hb hts iw_X10_notes_X10 hown hK hP (hts (.fieldLink RX10 31 "TraceTreesModel" "kinds" "[I") (List.mem_of_getElem? (i := 6) rfl)) dX10_notes_48 ?_
  refine lv_aload_n hx hb dX10_notes_51 rfl (lv_at hl 1 rfl) ?_
  refine lv_aload_n hx hb dX10_notes_52 rfl (lv_at hl 1 rfl) ?_
  refine gf_X10_16 hx hb hts iw_X10_notes_X10 hown hK hP (hts (.fieldLink RX10 241 "TraceTreesModel" "point" "I") (List.mem_of_getElem? (i := 4) rfl)) dX10_notes_53 ?_
  refine lv_nm (y := (σ 0 16)) (su_rd (by decide) (su_rd (by decide) rfl)) ?_
  obtain ⟨r6, hc6, h⟩ := obd_inv h
  refine wcalli (S := Unit) (va_runV (As := [.int (σ 0 16)]) (rest := [.ref (ad 8), .int e1, .ref (ad 19)]) ⟨hx, hb, hml, hown, hts⟩ (c_X10_z l dC dI cI cT cS H.size ad  (σ 0 16) (su (su σ 17 e1.toNatClampNeg (σ 0 16)) 18 e1.toNatClampNeg (σ 8 r3.toNatClampNeg)) _ hc6) (cwV 1 hts (gWV (List.mem_of_getElem? (i := 12) rfl) (List.mem_of_getElem? (i := 13) rfl) (List.mem_of_getElem? (i := 14) rfl) (List.mem_of_getElem? (i := 10) rfl) ic_X10_notes_c_X10_z gd_c_X10_z) rfl rfl rfl (by decide +kernel) ⟨(Nat.le_of_ble_eq_true rfl), (Nat.le_of_ble_eq_true rfl)⟩) (wpV (q := (RX10, TX10, 46)) hP hK hD oX10 rfl) rfl rfl hl.1 rfl (lv_room (Nat.le_of_ble_eq_true rfl)) dX10_notes_56 ⟨(Nat.le_of_ble_eq_true rfl), (Nat.le_of_ble_eq_true rfl)⟩) hP hD hS hA (fun rr7 _ H locs hr7 hP hD hS => ?_)
  refine lv_nm (y := r6) hr7 ?_
  obtain ⟨hi8, h⟩ := bd_inv h
  refine wald hx hb hK hP aR8 hi8 dX10_notes_59 ?_
  refine lv_nm (y := (σ 8 r6.toNatClampNeg)) (su_rd (by decide) (su_rd (by decide) rfl)) ?_
  refine wast hx hb hK hP hD hS aR19 hi2 dX10_notes_60 (fun H locs hP hD hS => ?_)
  refine lv_aload_n hx hb dX10_notes_61 rfl (lv_at hl 1 rfl) ?_
  refine gf_X10_34 hx hb hts iw_X10_notes_X10 hown hK hP (hts (.fieldLink RX10 67 "TraceTreesModel" "way" "[I") (List.mem_of_getElem? (i := 15) rfl)) dX10_notes_62 ?_
  refine lv_iload_n hx hb dX10_notes_65 rfl (lv_at hl 0 rfl) ?_
  refine lv_aload_n hx hb dX10_notes_66 rfl (lv_at hl 1 rfl) ?_
  refine lv_aload_n hx hb dX10_notes_67 rfl (lv_at hl 1 rfl) ?_
  refine gf_X10_16 hx hb hts iw_X10_notes_X10 hown hK hP (hts (.fieldLink RX10 241 "TraceTreesModel" "point" "I") (List.mem_of_getElem? (i := 4) rfl)) dX10_notes_68 ?_
  refine lv_nm (y := (σ 0 16)) (su_rd (by decide) (su_rd (by decide) (su_rd (by decide) rfl))) ?_
  obtain ⟨r9, hc9, h⟩ := obd_inv h
  refine wcalli (S := Unit) (va_runV (As := [.int (σ 0 16)]) (rest := [.int e1, .ref (ad 20)]) ⟨hx, hb, hml, hown, hts⟩ (c_X10_wayOf l dC dI cI cT cS H.size ad  (σ 0 16) (su (su (su σ 17 e1.toNatClampNeg (σ 0 16)) 18 e1.toNatClampNeg (σ 8 r3.toNatClampNeg)) 19 e1.toNatClampNeg (σ 8 r6.toNatClampNeg)) _ hc9) (cwV 1 hts (gWV (List.mem_of_getElem? (i := 16) rfl) (List.mem_of_getElem? (i := 17) rfl) (List.mem_of_getElem? (i := 18) rfl) (List.mem_of_getElem? (i := 10) rfl) ic_X10_notes_c_X10_wayOf gd_c_X10_wayOf) rfl rfl rfl (by decide +kernel) ⟨(Nat.le_of_ble_eq_true rfl), (Nat.le_of_ble_eq_true rfl)⟩) (wpV (q := (RX10, TX10, 46)) hP hK hD oX10 rfl) rfl rfl hl.1 rfl (lv_room (Nat.le_of_ble_eq_true rfl)) dX10_notes_71 ⟨(Nat.le_of_ble_eq_true rfl), (Nat.le_of_ble_eq_true rfl)⟩) hP hD hS hA (fun rr10 _ H locs hr10 hP hD hS => ?_)
  refine lv_nm (y := r9) hr10 ?_
  refine wast hx hb hK hP hD hS aR20 hi2 dX10_notes_74 (fun H locs hP hD hS => ?_)
  refine lv_aload_n hx hb dX10_notes_75 rfl (lv_at hl 1 rfl) ?_
  refine gf_X10_35 hx hb hts iw_X10_notes_X10 hown hK hP (hts (.fieldLink RX10 70 "TraceTreesModel" "hits" "[I") (List.mem_of_getElem? (i := 19) rfl)) dX10_notes_76 ?_
  refine lv_iload_n hx hb dX10_notes_79 rfl (lv_at hl 0 rfl) ?_
  refine lv_iconst (v := 0) hx hb dX10_notes_80 (by decide) ?_
  refine wast hx hb hK hP hD hS aR21 hi2 dX10_notes_81 (fun H locs hP hD hS => ?_)
  refine lv_aload_n hx hb dX10_notes_82 rfl (lv_at hl 1 rfl) ?_
  refine gf_X10_36 hx hb hts iw_X10_notes_X10 hown hK hP (hts (.fieldLink RX10 73 "TraceTreesModel" "branch" "[I") (List.mem_of_getElem? (i := 20) rfl)) dX10_notes_83 ?_
  refine lv_iload_n hx hb dX10_notes_86 rfl (lv_at hl 0 rfl) ?_
  refine lv_iconst (v := (-1)) hx hb dX10_notes_87 (by decide) ?_
  refine wast hx hb hK hP hD hS aR22 hi2 dX10_notes_88 (fun H locs hP hD hS => ?_)
  refine lv_aload_n hx hb dX10_notes_89 rfl (lv_at hl 1 rfl) ?_
  refine lv_dup hx hb dX10_notes_90 rfl ?_
  refine gf_X10_43 hx hb hts iw_X10_notes_X10 hown hK hP (hts (.fieldLink RX10 268 "TraceTreesModel" "many" "I") (List.mem_of_getElem? (i := 2) rfl)) dX10_notes_91 ?_
  refine lv_nm (y := (σ 0 43)) (su_rd (by decide) (su_rd (by decide) (su_rd (by decide) (su_rd (by decide) (su_rd (by decide) (su_rd (by decide) rfl)))))) ?_
  refine lv_iconst (v := 1) hx hb dX10_notes_94 (by decide) ?_
  refine lv_iadd hx hb dX10_notes_95 ?_
  refine pf_X10_43 hx hb hts iw_X10_notes_X10 hown hK hP hD hS (hts (.fieldLink RX10 268 "TraceTreesModel" "many" "I") (List.mem_of_getElem? (i := 2) rfl)) dX10_notes_96 (fun H locs hP hD hS => ?_)
  have h9 := Option.some.inj h
  exact wretv hx hb hr hlocks hP hD hS trivial (by rw [← h9]) dX10_notes_99
def zf_X10_enters (a1 : Int32) (σ : Sg) : Option (Sg) := bd a1 8 (some (su (su (su σ 0 37 a1) 0 38 (0 : Int32)) 16 a1.toNatClampNeg ((σ 16 a1.toNatClampNeg) + (1 : Int32))))
def oc_X10_enters : List Cond := [.fieldLink RX10 286 "TraceTreesModel" "trace" "I", .fieldLink RX10 289 "TraceTreesModel" "entry" "I", .fieldLink RX10 55 "TraceTreesModel" "begun" "[I"]
def vc_X10_enters : List Cond := .code yX10_enters cX10_enters 2 none :: (oc_X10_enters ++ (wsX100))
theorem iw_X10_enters_X10 : ∀ w ∈ wsX100, w ∈ vc_X10_enters := fun _ h => List.mem_cons_of_mem _ (List.mem_append_right _ (h))
theorem gd_c_X10_enters : (vc_X10_enters).all goodWord = true := gall_cons rfl (gall_app (by decide +kernel) gw_X10)
set_option maxHeartbeats 4000000 in
set_option maxRecDepth 100000 in
theorem c_X10_enters (l : Launch) (dC : Nat → ClassId) (dI : Nat → Nat → Nat) (cI cT cS : ClassId) (sz : Nat) (ad : Nat → Nat) (a1 : Int32) (σ : Sg) (o : Sg) (h : zf_X10_enters a1 σ = some o) : gCV (S := Unit) l yX10_enters vc_X10_enters { frames := 0, cells := 0, slots := 0, locals := 0 } (dC, dI) (gTY cI cT cS) sz [.ref (ad 0), .int a1] (Wd 24 (cfR ad cI) σ) (fun (_ : Unit) => True) (fun (_ : Unit) => (Wd 24 (cfR ad cI) o)) 0 0 := by
  refine Met.ofW (cc := cX10_enters) (maxL := 2) (ret := none) (by decide) rfl ?_
  intro p e s m args below meth c s₁ B hml hv
  obtain ⟨rfl, hsz, hP, hK, hD0⟩ := hv
  have hx := B.exec
  have hb := B.bytes
  have hr := B.returns
  have hts := atoms_spec (ws := vc_X10_enters) B.pre
  have hown : s.vm.findClass RX10 = some m.cls := findClass_of_methodNamed B.named
  have hlocks := B.notSynchronized
  subst hsz
  have hD := hD0.self (sz := s.heap.size)
  generalize hAe : va_A (Wd 24 (cfR ad cI) σ) s.heap.size = A at hD ⊢
  have hA : ∀ q : Nat, s.heap.size ≤ q → A q := fun q h => by rw [← hAe]; exact Or.inr h
  clear hAe hD0
  refine gstart (fun H locs hHe hLe => ?_)
  have hS : va_S A s.heap H locs := by rw [← hHe, ← hLe]; exact va_S.rf
  replace hP : va_P (dC, dI) vwCl (Wd 24 (cfR ad cI) σ) H := by rw [← hHe]; exact hP
  clear hHe hLe
  have hl := lv_entry ([.ref (ad 0), .int a1]) (n := 2) (Nat.le_of_ble_eq_true rfl)
  rw [lg_entry_eq]
  generalize (lg_sl ([.ref (ad 0), .int a1]) ++ List.replicate (2 - (lg_sl ([.ref (ad 0), .int a1])).length) Slot.unset).toArray = ls at hl ⊢
  replace hl : lv_has ls 2 [(0, .ref (ad 0)), (1, .int a1)] := hl
  unfold zf_X10_enters at h
  refine lv_aload_n hx hb dX10_enters_0 rfl (lv_at hl 0 rfl) ?_
  refine lv_iload_n hx hb dX10_enters_1 rfl (lv_at hl 1 rfl) ?_
  refine pf_X10_37 hx hb hts iw_X10_enters_X10 hown hK hP hD hS (hts (.fieldLink RX10 286 "TraceTreesModel" "trace" "I") (List.mem_of_getElem? (i := 1) rfl)) dX10_enters_2 (fun H locs hP hD hS => ?_)
  refine lv_aload_n hx hb dX10_enters_5 rfl (lv_at hl 0 rfl) ?_
  refine lv_iconst (v := 0) hx hb dX10_enters_6 (by decide) ?_
  refine pf_X10_38 hx hb hts iw_X10_enters_X10 hown hK hP hD hS (hts (.fieldLink RX10 289 "TraceTreesModel" "entry" "I") (List.mem_of_getElem? (i := 2) rfl)) dX10_enters_7 (fun H locs hP hD hS => ?_)
  refine lv_aload_n hx hb dX10_enters_10 rfl (lv_at hl 0 rfl) ?_
  refine gf_X10_30 hx hb hts iw_X10_enters_X10 hown hK hP (hts (.fieldLink RX10 55 "TraceTreesModel" "begun" "[I") (List.mem_of_getElem? (i := 3) rfl)) dX10_enters_11 ?_
  refine lv_iload_n hx hb dX10_enters_14 rfl (lv_at hl 1 rfl) ?_
  refine lv_dup2_11 hx hb dX10_enters_15 rfl rfl ?_
  obtain ⟨hi1, h⟩ := bd_inv h
  refine wald hx hb hK hP aR16 hi1 dX10_enters_16 ?_
  refine lv_nm (y := (σ 16 a1.toNatClampNeg)) (su_rd (by decide) (su_rd (by decide) rfl)) ?_
  refine lv_iconst (v := 1) hx hb dX10_enters_17 (by decide) ?_
  refine lv_iadd hx hb dX10_enters_18 ?_
  refine wast hx hb hK hP hD hS aR16 hi1 dX10_enters_19 (fun H locs hP hD hS => ?_)
  have h9 := Option.some.inj h
  exact wretv hx hb hr hlocks hP hD hS trivial (by rw [← h9]) dX10_enters_20
def zb_X10_fails_154 (w0_154 : Bool) : Option (Bool) := some w0_154
def zb_X10_fails_149  : Option (Bool) := (zb_X10_fails_154 true)
def zb_X10_fails_132 (σ : Sg) (v1_132 : Int32) : Option (Bool) := bd v1_132 144 (obd (zf_X10_wayOf (σ 0 16) σ) (fun r25 => (if (σ 20 v1_132.toNatClampNeg) = r25 then (zb_X10_fails_154 false) else zb_X10_fails_149)))
def zb_X10_fails_105 (σ : Sg) (v4_105 : Bool) (v1_105 : Int32) : Option (Bool) := (if v4_105 = true then bd v1_105 144 (obd (zf_X10_z (σ 0 16) σ) (fun r20 => bd r20 8 ((if (σ 19 v1_105.toNatClampNeg) = (σ 8 r20.toNatClampNeg) then (zb_X10_fails_132 σ v1_105) else zb_X10_fails_149)))) else (zb_X10_fails_132 σ v1_105))
def zb_X10_fails_77 (σ : Sg) (v3_77 : Bool) (v1_77 : Int32) (w0_77 : Bool) : Option (Bool) := (if v3_77 = true then bd v1_77 144 (obd (zf_X10_y (σ 0 16) σ) (fun r14 => bd r14 8 ((if (σ 18 v1_77.toNatClampNeg) = (σ 8 r14.toNatClampNeg) then (zb_X10_fails_105 σ w0_77 v1_77) else zb_X10_fails_149)))) else (zb_X10_fails_105 σ w0_77 v1_77))
def zb_X10_fails_72 (σ : Sg) (v3_72 : Bool) (v1_72 : Int32) : Option (Bool) := (zb_X10_fails_77 σ v3_72 v1_72 true)
def zb_X10_fails_51 (σ : Sg) (v2_51 : Int32) (v1_51 : Int32) (w0_51 : Bool) : Option (Bool) := (if w0_51 = true then (zb_X10_fails_72 σ w0_51 v1_51) else (if v2_51 = (1 : Int32) then (zb_X10_fails_72 σ w0_51 v1_51) else (if v2_51 = (5 : Int32) then (zb_X10_fails_72 σ w0_51 v1_51) else (if v2_51 = (8 : Int32) then (zb_X10_fails_72 σ w0_51 v1_51) else (zb_X10_fails_77 σ w0_51 v1_51 false)))))
def zb_X10_fails_46 (σ : Sg) (v2_46 : Int32) (v1_46 : Int32) : Option (Bool) := (zb_X10_fails_51 σ v2_46 v1_46 true)
def zf_X10_fails (σ : Sg) : Option (Bool) := letb (((16 : Int32) * (σ 0 37)) + (σ 0 38)) (fun e1 => bd ((4 : Int32) * (σ 0 16)) 96 (letb (σ 5 ((4 : Int32) * (σ 0 16)).toNatClampNeg) (fun e3 => (if e3 = (2 : Int32) then (zb_X10_fails_46 σ e3 e1) else (if e3 = (3 : Int32) then (zb_X10_fails_46 σ e3 e1) else (if e3 = (4 : Int32) then (zb_X10_fails_46 σ e3 e1) else (if e3 = (6 : Int32) then (zb_X10_fails_46 σ e3 e1) else (zb_X10_fails_51 σ e3 e1 false))))))))
def oc_X10_fails : List Cond := [.fieldLink RX10 286 "TraceTreesModel" "trace" "I", .fieldLink RX10 289 "TraceTreesModel" "entry" "I", .fieldLink RX10 22 "TraceTreesModel" "code" "[I", .fieldLink RX10 241 "TraceTreesModel" "point" "I", .fieldLink RX10 61 "TraceTreesModel" "kindY" "[I", .fieldLink RX10 31 "TraceTreesModel" "kinds" "[I", .methodLink RX10 225 yX10_y, .instanceMethod yX10_y, .selects RX10 yX10_y yX10_y, .initialized RX10, .fieldLink RX10 64 "TraceTreesModel" "kindZ" "[I", .methodLink RX10 222 yX10_z, .instanceMethod yX10_z, .selects RX10 yX10_z yX10_z, .fieldLink RX10 67 "TraceTreesModel" "way" "[I", .methodLink RX10 283 yX10_wayOf, .instanceMethod yX10_wayOf, .selects RX10 yX10_wayOf yX10_wayOf]
def vc_X10_fails : List Cond := .code yX10_fails cX10_fails 5 (some .boolean) :: (oc_X10_fails ++ (wsX100 ++ (vc_X10_y ++ (vc_X10_z ++ (vc_X10_wayOf)))))
theorem iw_X10_fails_X10 : ∀ w ∈ wsX100, w ∈ vc_X10_fails := fun _ h => List.mem_cons_of_mem _ (List.mem_append_right _ (List.mem_append_left _ h))
theorem ic_X10_fails_c_X10_y : ∀ w ∈ vc_X10_y, w ∈ vc_X10_fails := fun _ h => List.mem_cons_of_mem _ (List.mem_append_right _ (List.mem_append_right _ (List.mem_append_left _ h)))
theorem ic_X10_fails_c_X10_z : ∀ w ∈ vc_X10_z, w ∈ vc_X10_fails := fun _ h => List.mem_cons_of_mem _ (List.mem_append_right _ (List.mem_append_right _ (List.mem_append_right _ (List.mem_append_left _ h))))
theorem ic_X10_fails_c_X10_wayOf : ∀ w ∈ vc_X10_wayOf, w ∈ vc_X10_fails := fun _ h => List.mem_cons_of_mem _ (List.mem_append_right _ (List.mem_append_right _ (List.mem_append_right _ (List.mem_append_right _ (h)))))
theorem gd_c_X10_fails : (vc_X10_fails).all goodWord = true := gall_cons rfl (gall_app (by decide +kernel) (gall_app gw_X10 (gall_app gd_c_X10_y (gall_app gd_c_X10_z gd_c_X10_wayOf))))
set_option maxHeartbeats 4000000 in
set_option maxRecDepth 100000 in
theorem c_X10_fails (l : Launch) (dC : Nat → ClassId) (dI : Nat → Nat → Nat) (cI cT cS : ClassId) (sz : Nat) (ad : Nat → Nat) (σ : Sg) (o : Bool) (h : zf_X10_fails σ = some o) : gCI (S := Unit) l yX10_fails vc_X10_fails { frames := 2, cells := 0, slots := 0, locals := 47 } (dC, dI) (gTY cI cT cS) sz [.ref (ad 0)] (Wd 24 (cfR ad cI) σ) (fun (r : Int32) (_ : Unit) => r = b2i o) (fun (_ : Unit) => (Wd 24 (cfR ad cI) σ)) 0 0 := by
  refine Met.ofW (cc := cX10_fails) (maxL := 5) (ret := (some .boolean)) (by decide) rfl ?_
  intro p e s m args below meth c s₁ B hml hv
  obtain ⟨rfl, hsz, hP, hK, hD0⟩ := hv
  have hx := B.exec
  have hb := B.bytes
  have hr := B.returns
  have hts := atoms_spec (ws := vc_X10_fails) B.pre
  have hown : s.vm.findClass RX10 = some m.cls := findClass_of_methodNamed B.named
  have hlocks := B.notSynchronized
  subst hsz
  have hD := hD0.self (sz := s.heap.size)
  generalize hAe : va_A (Wd 24 (cfR ad cI) σ) s.heap.size = A at hD ⊢
  have hA : ∀ q : Nat, s.heap.size ≤ q → A q := fun q h => by rw [← hAe]; exact Or.inr h
  clear hAe hD0
  refine gstart (fun H locs hHe hLe => ?_)
  have hS : va_S A s.heap H locs := by rw [← hHe, ← hLe]; exact va_S.rf
  replace hP : va_P (dC, dI) vwCl (Wd 24 (cfR ad cI) σ) H := by rw [← hHe]; exact hP
  clear hHe hLe
  have hl := lv_entry ([.ref (ad 0)]) (n := 5) (Nat.le_of_ble_eq_true rfl)
  rw [lg_entry_eq]
  generalize (lg_sl ([.ref (ad 0)]) ++ List.replicate (5 - (lg_sl ([.ref (ad 0)])).length) Slot.unset).toArray = ls at hl ⊢
  replace hl : lv_has ls 5 [(0, .ref (ad 0))] := hl
  unfold zf_X10_fails at h
  have J154 : ∀ (w0_154 : Bool) (H : Heap) (locs : List Loc) (ls : Array Slot), zb_X10_fails_154 w0_154 = some o → va_P (dC, dI) vwCl (Wd 24 (cfR ad cI) σ) H → va_D A (Wd 24 (cfR ad cI) σ) → va_S A s.heap H locs → lv_has ls 5 [] → W p l e (headSpec vc_X10_fails { frames := 2, cells := 0, slots := 0, locals := 47 }).room s m (List.toArray (α := Value) [.ref (ad 0)]) below meth c H locs 0 0 (MQ below (va_Qi (fun (r : Int32) (_ : Unit) => r = b2i o) (gB (dC, dI) A (fun (_ : Unit) => (Wd 24 (cfR ad cI) σ))) A) (List.toArray (α := Value) [.ref (ad 0)]) s 0 0 A) (F0 m 154 ls [.int (b2i w0_154)]) := by
    intro w0_154 H locs ls h hP hD hS hl
    unfold zb_X10_fails_154 at h
    have h9 := Option.some.inj h
    exact wretz hx hb hr hlocks (b2i_or _) hP hD hS (by show _ = _; rw [← h9]; first | done | rfl) rfl dX10_fails_154
  have J149 : ∀  (H : Heap) (locs : List Loc) (ls : Array Slot), zb_X10_fails_149 = some o → va_P (dC, dI) vwCl (Wd 24 (cfR ad cI) σ) H → va_D A (Wd 24 (cfR ad cI) σ) → va_S A s.heap H locs → lv_has ls 5 [] → W p l e (headSpec vc_X10_fails { frames := 2, cells := 0, slots := 0, locals := 47 }).room s m (List.toArray (α := Value) [.ref (ad 0)]) below meth c H locs 0 0 (MQ below (va_Qi (fun (r : Int32) (_ : Unit) => r = b2i o) (gB (dC, dI) A (fun (_ : Unit) => (Wd 24 (cfR ad cI) σ))) A) (List.toArray (α := Value) [.ref (ad 0)]) s 0 0 A) (F0 m 149 ls []) := by
    intro  H locs ls h hP hD hS hl
    unfold zb_X10_fails_149 at h
    refine lv_iconst (v := 1) hx hb dX10_fails_149 (by decide) ?_
    refine lv_goto (tgt := 154) hx hb dX10_fails_150 (by decide) ?_
    exact J154 true H locs ls h hP hD hS (lv_sub (l' := []) hl [] rfl)
  have J132 : ∀ (v1_132 : Int32) (H : Heap) (locs : List Loc) (ls : Array Slot), zb_X10_fails_132 σ v1_132 = some o → va_P (dC, dI) vwCl (Wd 24 (cfR ad cI) σ) H → va_D A (Wd 24 (cfR ad cI) σ) → va_S A s.heap H locs → lv_has ls 5 [(1, .int v1_132), (0, .ref (ad 0))] → W p l e (headSpec vc_X10_fails { frames := 2, cells := 0, slots := 0, locals := 47 }).room s m (List.toArray (α := Value) [.ref (ad 0)]) below meth c H locs 0 0 (MQ below (va_Qi (fun (r : Int32) (_ : Unit) => r = b2i o) (gB (dC, dI) A (fun (_ : Unit) => (Wd 24 (cfR ad cI) σ))) A) (List.toArray (α := Value) [.ref (ad 0)]) s 0 0 A) (F0 m 132 ls []) := by
    intro v1_132 H locs ls h hP hD hS hl
    unfold zb_X10_fails_132 at h
    refine lv_aload_n hx hb dX10_fails_132 rfl (lv_at hl 1 rfl) ?_
    refine gf_X10_34 hx hb hts iw_X10_fails_X10 hown hK hP (hts (.fieldLink RX10 67 "TraceTreesModel" "way" "[I") (List.mem_of_getElem? (i := 15) rfl)) dX10_fails_133 ?_
    refine lv_iload_n hx hb dX10_fails_136 rfl (lv_at hl 0 rfl) ?_
    obtain ⟨hi24, h⟩ := bd_inv h
    refine wald hx hb hK hP aR20 hi24 dX10_fails_137 ?_
    refine lv_aload_n hx hb dX10_fails_138 rfl (lv_at hl 1 rfl) ?_
    refine lv_aload_n hx hb dX10_fails_139 rfl (lv_at hl 1 rfl) ?_
    refine gf_X10_16 hx hb hts iw_X10_fails_X10 hown hK hP (hts (.fieldLink RX10 241 "TraceTreesModel" "point" "I") (List.mem_of_getElem? (i := 4) rfl)) dX10_fails_140 ?_
    obtain ⟨r25, hc25, h⟩ := obd_inv h
    refine wcalli (S := Unit) (va_runV (As := [.int (σ 0 16)]) (rest := [.int (σ 20 v1_132.toNatClampNeg)]) ⟨hx, hb, hml, hown, hts⟩ (c_X10_wayOf l dC dI cI cT cS H.size ad  (σ 0 16) σ _ hc25) (cwV 1 hts (gWV (List.mem_of_getElem? (i := 16) rfl) (List.mem_of_getElem? (i := 17) rfl) (List.mem_of_getElem? (i := 18) rfl) (List.mem_of_getElem? (i := 10) rfl) ic_X10_fails_c_X10_wayOf gd_c_X10_wayOf) rfl rfl rfl (by decide +kernel) ⟨(Nat.le_of_ble_eq_true rfl), (Nat.le_of_ble_eq_true rfl)⟩) (wpV (q := (RX10, TX10, 46)) hP hK hD oX10 rfl) rfl rfl hl.1 rfl (lv_room (Nat.le_of_ble_eq_true rfl)) dX10_fails_143 ⟨(Nat.le_of_ble_eq_true rfl), (Nat.le_of_ble_eq_true rfl)⟩) hP hD hS hA (fun rr26 _ H locs hr26 hP hD hS => ?_)
    refine lv_nm (y := r25) hr26 ?_
    refine lv_icmp_eq (tgt := 153) hx hb dX10_fails_146 (by decide) (fun c27 => ?_) (fun c27 => ?_)
    · replace h := ifp (c27) h
      refine lv_iconst (v := 0) hx hb dX10_fails_153 (by decide) ?_
      exact J154 false H locs ls h hP hD hS (lv_sub (l' := []) hl [] rfl)
    · replace h := ifn (c27) h
      exact J149  H locs ls h hP hD hS (lv_sub (l' := []) hl [] rfl)
  have J105 : ∀ (v4_105 : Bool) (v1_105 : Int32) (H : Heap) (locs : List Loc) (ls : Array Slot), zb_X10_fails_105 σ v4_105 v1_105 = some o → va_P (dC, dI) vwCl (Wd 24 (cfR ad cI) σ) H → va_D A (Wd 24 (cfR ad cI) σ) → va_S A s.heap H locs → lv_has ls 5 [(4, .int (b2i v4_105)), (1, .int v1_105), (0, .ref (ad 0))] → W p l e (headSpec vc_X10_fails { frames := 2, cells := 0, slots := 0, locals := 47 }).room s m (List.toArray (α := Value) [.ref (ad 0)]) below meth c H locs 0 0 (MQ below (va_Qi (fun (r : Int32) (_ : Unit) => r = b2i o) (gB (dC, dI) A (fun (_ : Unit) => (Wd 24 (cfR ad cI) σ))) A) (List.toArray (α := Value) [.ref (ad 0)]) s 0 0 A) (F0 m 105 ls []) := by
    intro v4_105 v1_105 H locs ls h hP hD hS hl
    unfold zb_X10_fails_105 at h
    refine lv_iload hx hb dX10_fails_105 (lv_at hl 0 rfl) ?_
    refine lv_if_eq (tgt := 132) hx hb dX10_fails_107 (by decide) (fun c18 => ?_) (fun c18 => ?_)
    · replace h := ifn (b2i_0 c18) h
      exact J132 v1_105 H locs ls h hP hD hS (lv_sub (l' := [(1, .int v1_105), (0, .ref (ad 0))]) hl [1, 2] rfl)
    · replace h := ifp (b2i_1 c18) h
      refine lv_aload_n hx hb dX10_fails_110 rfl (lv_at hl 2 rfl) ?_
      refine gf_X10_33 hx hb hts iw_X10_fails_X10 hown hK hP (hts (.fieldLink RX10 64 "TraceTreesModel" "kindZ" "[I") (List.mem_of_getElem? (i := 11) rfl)) dX10_fails_111 ?_
      refine lv_iload_n hx hb dX10_fails_114 rfl (lv_at hl 1 rfl) ?_
      obtain ⟨hi19, h⟩ := bd_inv h
      refine wald hx hb hK hP aR19 hi19 dX10_fails_115 ?_
      refine lv_aload_n hx hb dX10_fails_116 rfl (lv_at hl 2 rfl) ?_
      refine gf_X10_11 hx hb hts iw_X10_fails_X10 hown hK hP (hts (.fieldLink RX10 31 "TraceTreesModel" "kinds" "[I") (List.mem_of_getElem? (i := 6) rfl)) dX10_fails_117 ?_
      refine lv_aload_n hx hb dX10_fails_120 rfl (lv_at hl 2 rfl) ?_
      refine lv_aload_n hx hb dX10_fails_121 rfl (lv_at hl 2 rfl) ?_
      refine gf_X10_16 hx hb hts iw_X10_fails_X10 hown hK hP (hts (.fieldLink RX10 241 "TraceTreesModel" "point" "I") (List.mem_of_getElem? (i := 4) rfl)) dX10_fails_122 ?_
      obtain ⟨r20, hc20, h⟩ := obd_inv h
      refine wcalli (S := Unit) (va_runV (As := [.int (σ 0 16)]) (rest := [.ref (ad 8), .int (σ 19 v1_105.toNatClampNeg)]) ⟨hx, hb, hml, hown, hts⟩ (c_X10_z l dC dI cI cT cS H.size ad  (σ 0 16) σ _ hc20) (cwV 1 hts (gWV (List.mem_of_getElem? (i := 12) rfl) (List.mem_of_getElem? (i := 13) rfl) (List.mem_of_getElem? (i := 14) rfl) (List.mem_of_getElem? (i := 10) rfl) ic_X10_fails_c_X10_z gd_c_X10_z) rfl rfl rfl (by decide +kernel) ⟨(Nat.le_of_ble_eq_true rfl), (Nat.le_of_ble_eq_true rfl)⟩) (wpV (q := (RX10, TX10, 46)) hP hK hD oX10 rfl) rfl rfl hl.1 rfl (lv_room (Nat.le_of_ble_eq_true rfl)) dX10_fails_125 ⟨(Nat.le_of_ble_eq_true rfl), (Nat.le_of_ble_eq_true rfl)⟩) hP hD hS hA (fun rr21 _ H locs hr21 hP hD hS => ?_)
      refine lv_nm (y := r20) hr21 ?_
      obtain ⟨hi22, h⟩ := bd_inv h
      refine wald hx hb hK hP aR8 hi22 dX10_fails_128 ?_
      refine lv_icmp_ne (tgt := 149) hx hb dX10_fails_129 (by decide) (fun c23 => ?_) (fun c23 => ?_)
      · replace h := ifn (c23) h
        exact J149  H locs ls h hP hD hS (lv_sub (l' := []) hl [] rfl)
      · replace h := ifp (c23) h
        exact J132 v1_105 H locs ls h hP hD hS (lv_sub (l' := [(1, .int v1_105), (0, .ref (ad 0))]) hl [1, 2] rfl)
  have J77 : ∀ (v3_77 : Bool) (v1_77 : Int32) (w0_77 : Bool) (H : Heap) (locs : List Loc) (ls : Array Slot), zb_X10_fails_77 σ v3_77 v1_77 w0_77 = some o → va_P (dC, dI) vwCl (Wd 24 (cfR ad cI) σ) H → va_D A (Wd 24 (cfR ad cI) σ) → va_S A s.heap H locs → lv_has ls 5 [(3, .int (b2i v3_77)), (1, .int v1_77), (0, .ref (ad 0))] → W p l e (headSpec vc_X10_fails { frames := 2, cells := 0, slots := 0, locals := 47 }).room s m (List.toArray (α := Value) [.ref (ad 0)]) below meth c H locs 0 0 (MQ below (va_Qi (fun (r : Int32) (_ : Unit) => r = b2i o) (gB (dC, dI) A (fun (_ : Unit) => (Wd 24 (cfR ad cI) σ))) A) (List.toArray (α := Value) [.ref (ad 0)]) s 0 0 A) (F0 m 77 ls [.int (b2i w0_77)]) := by
    intro v3_77 v1_77 w0_77 H locs ls h hP hD hS hl
    unfold zb_X10_fails_77 at h
    refine lv_istore (lv' := [(4, .int (b2i w0_77)), (3, .int (b2i v3_77)), (1, .int v1_77), (0, .ref (ad 0))]) hx hb dX10_fails_77 hl (by decide) rfl (fun ls hl => ?_)
    refine lv_iload_n hx hb dX10_fails_79 rfl (lv_at hl 1 rfl) ?_
    refine lv_if_eq (tgt := 105) hx hb dX10_fails_80 (by decide) (fun c12 => ?_) (fun c12 => ?_)
    · replace h := ifn (b2i_0 c12) h
      exact J105 w0_77 v1_77 H locs ls h hP hD hS (lv_sub (l' := [(4, .int (b2i w0_77)), (1, .int v1_77), (0, .ref (ad 0))]) hl [0, 2, 3] rfl)
    · replace h := ifp (b2i_1 c12) h
      refine lv_aload_n hx hb dX10_fails_83 rfl (lv_at hl 3 rfl) ?_
      refine gf_X10_32 hx hb hts iw_X10_fails_X10 hown hK hP (hts (.fieldLink RX10 61 "TraceTreesModel" "kindY" "[I") (List.mem_of_getElem? (i := 5) rfl)) dX10_fails_84 ?_
      refine lv_iload_n hx hb dX10_fails_87 rfl (lv_at hl 2 rfl) ?_
      obtain ⟨hi13, h⟩ := bd_inv h
      refine wald hx hb hK hP aR18 hi13 dX10_fails_88 ?_
      refine lv_aload_n hx hb dX10_fails_89 rfl (lv_at hl 3 rfl) ?_
      refine gf_X10_11 hx hb hts iw_X10_fails_X10 hown hK hP (hts (.fieldLink RX10 31 "TraceTreesModel" "kinds" "[I") (List.mem_of_getElem? (i := 6) rfl)) dX10_fails_90 ?_
      refine lv_aload_n hx hb dX10_fails_93 rfl (lv_at hl 3 rfl) ?_
      refine lv_aload_n hx hb dX10_fails_94 rfl (lv_at hl 3 rfl) ?_
      refine gf_X10_16 hx hb hts iw_X10_fails_X10 hown hK hP (hts (.fieldLink RX10 241 "TraceTreesModel" "point" "I") (List.mem_of_getElem? (i := 4) rfl)) dX10_fails_95 ?_
      obtain ⟨r14, hc14, h⟩ := obd_inv h
      refine wcalli (S := Unit) (va_runV (As := [.int (σ 0 16)]) (rest := [.ref (ad 8), .int (σ 18 v1_77.toNatClampNeg)]) ⟨hx, hb, hml, hown, hts⟩ (c_X10_y l dC dI cI cT cS H.size ad  (σ 0 16) σ _ hc14) (cwV 1 hts (gWV (List.mem_of_getElem? (i := 7) rfl) (List.mem_of_getElem? (i := 8) rfl) (List.mem_of_getElem? (i := 9) rfl) (List.mem_of_getElem? (i := 10) rfl) ic_X10_fails_c_X10_y gd_c_X10_y) rfl rfl rfl (by decide +kernel) ⟨(Nat.le_of_ble_eq_true rfl), (Nat.le_of_ble_eq_true rfl)⟩) (wpV (q := (RX10, TX10, 46)) hP hK hD oX10 rfl) rfl rfl hl.1 rfl (lv_room (Nat.le_of_ble_eq_true rfl)) dX10_fails_98 ⟨(Nat.le_of_ble_eq_true rfl), (Nat.le_of_ble_eq_true rfl)⟩) hP hD hS hA (fun rr15 _ H locs hr15 hP hD hS => ?_)
      refine lv_nm (y := r14) hr15 ?_
      obtain ⟨hi16, h⟩ := bd_inv h
      refine wald hx hb hK hP aR8 hi16 dX10_fails_101 ?_
      refine lv_icmp_ne (tgt := 149) hx hb dX10_fails_102 (by decide) (fun c17 => ?_) (fun c17 => ?_)
      · replace h := ifn (c17) h
        exact J149  H locs ls h hP hD hS (lv_sub (l' := []) hl [] rfl)
      · replace h := ifp (c17) h
        exact J105 w0_77 v1_77 H locs ls h hP hD hS (lv_sub (l' := [(4, .int (b2i w0_77)), (1, .int v1_77), (0, .ref (ad 0))]) hl [0, 2, 3] rfl)
  have J72 : ∀ (v3_72 : Bool) (v1_72 : Int32) (H : Heap) (locs : List Loc) (ls : Array Slot), zb_X10_fails_72 σ v3_72 v1_72 = some o → va_P (dC, dI) vwCl (Wd 24 (cfR ad cI) σ) H → va_D A (Wd 24 (cfR ad cI) σ) → va_S A s.heap H locs → lv_has ls 5 [(3, .int (b2i v3_72)), (1, .int v1_72), (0, .ref (ad 0))] → W p l e (headSpec vc_X10_fails { frames := 2, cells := 0, slots := 0, locals := 47 }).room s m (List.toArray (α := Value) [.ref (ad 0)]) below meth c H locs 0 0 (MQ below (va_Qi (fun (r : Int32) (_ : Unit) => r = b2i o) (gB (dC, dI) A (fun (_ : Unit) => (Wd 24 (cfR ad cI) σ))) A) (List.toArray (α := Value) [.ref (ad 0)]) s 0 0 A) (F0 m 72 ls []) := by
    intro v3_72 v1_72 H locs ls h hP hD hS hl
    unfold zb_X10_fails_72 at h
    refine lv_iconst (v := 1) hx hb dX10_fails_72 (by decide) ?_
    refine lv_goto (tgt := 77) hx hb dX10_fails_73 (by decide) ?_
    exact J77 v3_72 v1_72 true H locs ls h hP hD hS (lv_sub (l' := [(3, .int (b2i v3_72)), (1, .int v1_72), (0, .ref (ad 0))]) hl [0, 1, 2] rfl)
  have J51 : ∀ (v2_51 : Int32) (v1_51 : Int32) (w0_51 : Bool) (H : Heap) (locs : List Loc) (ls : Array Slot), zb_X10_fails_51 σ v2_51 v1_51 w0_51 = some o → va_P (dC, dI) vwCl (Wd 24 (cfR ad cI) σ) H → va_D A (Wd 24 (cfR ad cI) σ) → va_S A s.heap H locs → lv_has ls 5 [(2, .int v2_51), (1, .int v1_51), (0, .ref (ad 0))] → W p l e (headSpec vc_X10_fails { frames := 2, cells := 0, slots := 0, locals := 47 }).room s m (List.toArray (α := Value) [.ref (ad 0)]) below meth c H locs 0 0 (MQ below (va_Qi (fun (r : Int32) (_ : Unit) => r = b2i o) (gB (dC, dI) A (fun (_ : Unit) => (Wd 24 (cfR ad cI) σ))) A) (List.toArray (α := Value) [.ref (ad 0)]) s 0 0 A) (F0 m 51 ls [.int (b2i w0_51)]) := by
    intro v2_51 v1_51 w0_51 H locs ls h hP hD hS hl
    unfold zb_X10_fails_51 at h
    refine lv_istore_n (lv' := [(3, .int (b2i w0_51)), (2, .int v2_51), (1, .int v1_51), (0, .ref (ad 0))]) hx hb dX10_fails_51 rfl hl (by decide) rfl (fun ls hl => ?_)
    refine lv_iload_n hx hb dX10_fails_52 rfl (lv_at hl 0 rfl) ?_
    refine lv_if_ne (tgt := 72) hx hb dX10_fails_53 (by decide) (fun c8 => ?_) (fun c8 => ?_)
    · replace h := ifp (b2i_1 c8) h
      exact J72 w0_51 v1_51 H locs ls h hP hD hS (lv_sub (l' := [(3, .int (b2i w0_51)), (1, .int v1_51), (0, .ref (ad 0))]) hl [0, 2, 3] rfl)
    · replace h := ifn (b2i_0 c8) h
      refine lv_iload_n hx hb dX10_fails_56 rfl (lv_at hl 1 rfl) ?_
      refine lv_iconst (v := 1) hx hb dX10_fails_57 (by decide) ?_
      refine lv_icmp_eq (tgt := 72) hx hb dX10_fails_58 (by decide) (fun c9 => ?_) (fun c9 => ?_)
      · replace h := ifp (c9) h
        exact J72 w0_51 v1_51 H locs ls h hP hD hS (lv_sub (l' := [(3, .int (b2i w0_51)), (1, .int v1_51), (0, .ref (ad 0))]) hl [0, 2, 3] rfl)
      · replace h := ifn (c9) h
        refine lv_iload_n hx hb dX10_fails_61 rfl (lv_at hl 1 rfl) ?_
        refine lv_iconst (v := 5) hx hb dX10_fails_62 (by decide) ?_
        refine lv_icmp_eq (tgt := 72) hx hb dX10_fails_63 (by decide) (fun c10 => ?_) (fun c10 => ?_)
        · replace h := ifp (c10) h
          exact J72 w0_51 v1_51 H locs ls h hP hD hS (lv_sub (l' := [(3, .int (b2i w0_51)), (1, .int v1_51), (0, .ref (ad 0))]) hl [0, 2, 3] rfl)
        · replace h := ifn (c10) h
          refine lv_iload_n hx hb dX10_fails_66 rfl (lv_at hl 1 rfl) ?_
          refine lv_bipush (v := 8) hx hb dX10_fails_67 (by decide) ?_
          refine lv_icmp_ne (tgt := 76) hx hb dX10_fails_69 (by decide) (fun c11 => ?_) (fun c11 => ?_)
          · replace h := ifn (c11) h
            refine lv_iconst (v := 0) hx hb dX10_fails_76 (by decide) ?_
            exact J77 w0_51 v1_51 false H locs ls h hP hD hS (lv_sub (l' := [(3, .int (b2i w0_51)), (1, .int v1_51), (0, .ref (ad 0))]) hl [0, 2, 3] rfl)
          · replace h := ifp (c11) h
            exact J72 w0_51 v1_51 H locs ls h hP hD hS (lv_sub (l' := [(3, .int (b2i w0_51)), (1, .int v1_51), (0, .ref (ad 0))]) hl [0, 2, 3] rfl)
  have J46 : ∀ (v2_46 : Int32) (v1_46 : Int32) (H : Heap) (locs : List Loc) (ls : Array Slot), zb_X10_fails_46 σ v2_46 v1_46 = some o → va_P (dC, dI) vwCl (Wd 24 (cfR ad cI) σ) H → va_D A (Wd 24 (cfR ad cI) σ) → va_S A s.heap H locs → lv_has ls 5 [(2, .int v2_46), (1, .int v1_46), (0, .ref (ad 0))] → W p l e (headSpec vc_X10_fails { frames := 2, cells := 0, slots := 0, locals := 47 }).room s m (List.toArray (α := Value) [.ref (ad 0)]) below meth c H locs 0 0 (MQ below (va_Qi (fun (r : Int32) (_ : Unit) => r = b2i o) (gB (dC, dI) A (fun (_ : Unit) => (Wd 24 (cfR ad cI) σ))) A) (List.toArray (α := Value) [.ref (ad 0)]) s 0 0 A) (F0 m 46 ls []) := by
    intro v2_46 v1_46 H locs ls h hP hD hS hl
    unfold zb_X10_fails_46 at h
    refine lv_iconst (v := 1) hx hb dX10_fails_46 (by decide) ?_
    refine lv_goto (tgt := 51) hx hb dX10_fails_47 (by decide) ?_
    exact J51 v2_46 v1_46 true H locs ls h hP hD hS (lv_sub (l' := [(2, .int v2_46), (1, .int v1_46), (0, .ref (ad 0))]) hl [0, 1, 2] rfl)
  refine lv_bipush (v := 16) hx hb dX10_fails_0 (by decide) ?_
  refine lv_aload_n hx hb dX10_fails_2 rfl (lv_at hl 0 rfl) ?_
  refine gf_X10_37 hx hb hts iw_X10_fails_X10 hown hK hP (hts (.fieldLink RX10 286 "TraceTreesModel" "trace" "I") (List.mem_of_getElem? (i := 1) rfl)) dX10_fails_3 ?_
  refine lv_imul hx hb dX10_fails_6 ?_
  refine lv_aload_n hx hb dX10_fails_7 rfl (lv_at hl 0 rfl) ?_
  refine gf_X10_38 hx hb hts iw_X10_fails_X10 hown hK hP (hts (.fieldLink RX10 289 "TraceTreesModel" "entry" "I") (List.mem_of_getElem? (i := 2) rfl)) dX10_fails_8 ?_
  refine lv_iadd hx hb dX10_fails_11 ?_
  obtain ⟨e1, he1, h⟩ := letb_inv h
  refine lv_nm he1 ?_
  refine lv_istore_n (lv' := [(1, .int e1), (0, .ref (ad 0))]) hx hb dX10_fails_12 rfl hl (by decide) rfl (fun ls hl => ?_)
  refine lv_aload_n hx hb dX10_fails_13 rfl (lv_at hl 1 rfl) ?_
  refine gf_X10_6 hx hb hts iw_X10_fails_X10 hown hK hP (hts (.fieldLink RX10 22 "TraceTreesModel" "code" "[I") (List.mem_of_getElem? (i := 3) rfl)) dX10_fails_14 ?_
  refine lv_iconst (v := 4) hx hb dX10_fails_17 (by decide) ?_
  refine lv_aload_n hx hb dX10_fails_18 rfl (lv_at hl 1 rfl) ?_
  refine gf_X10_16 hx hb hts iw_X10_fails_X10 hown hK hP (hts (.fieldLink RX10 241 "TraceTreesModel" "point" "I") (List.mem_of_getElem? (i := 4) rfl)) dX10_fails_19 ?_
  refine lv_imul hx hb dX10_fails_22 ?_
  obtain ⟨hi2, h⟩ := bd_inv h
  refine wald hx hb hK hP aR5 hi2 dX10_fails_23 ?_
  obtain ⟨e3, he3, h⟩ := letb_inv h
  refine lv_nm he3 ?_
  refine lv_istore_n (lv' := [(2, .int e3), (1, .int e1), (0, .ref (ad 0))]) hx hb dX10_fails_24 rfl hl (by decide) rfl (fun ls hl => ?_)
  refine lv_iload_n hx hb dX10_fails_25 rfl (lv_at hl 0 rfl) ?_
  refine lv_iconst (v := 2) hx hb dX10_fails_26 (by decide) ?_
  refine lv_icmp_eq (tgt := 46) hx hb dX10_fails_27 (by decide) (fun c4 => ?_) (fun c4 => ?_)
  · replace h := ifp (c4) h
    exact J46 e3 e1 H locs ls h hP hD hS (lv_sub (l' := [(2, .int e3), (1, .int e1), (0, .ref (ad 0))]) hl [0, 1, 2] rfl)
  · replace h := ifn (c4) h
    refine lv_iload_n hx hb dX10_fails_30 rfl (lv_at hl 0 rfl) ?_
    refine lv_iconst (v := 3) hx hb dX10_fails_31 (by decide) ?_
    refine lv_icmp_eq (tgt := 46) hx hb dX10_fails_32 (by decide) (fun c5 => ?_) (fun c5 => ?_)
    · replace h := ifp (c5) h
      exact J46 e3 e1 H locs ls h hP hD hS (lv_sub (l' := [(2, .int e3), (1, .int e1), (0, .ref (ad 0))]) hl [0, 1, 2] rfl)
    · replace h := ifn (c5) h
      refine lv_iload_n hx hb dX10_fails_35 rfl (lv_at hl 0 rfl) ?_
      refine lv_iconst (v := 4) hx hb dX10_fails_36 (by decide) ?_
      refine lv_icmp_eq (tgt := 46) hx hb dX10_fails_37 (by decide) (fun c6 => ?_) (fun c6 => ?_)
      · replace h := ifp (c6) h
        exact J46 e3 e1 H locs ls h hP hD hS (lv_sub (l' := [(2, .int e3), (1, .int e1), (0, .ref (ad 0))]) hl [0, 1, 2] rfl)
      · replace h := ifn (c6) h
        refine lv_iload_n hx hb dX10_fails_40 rfl (lv_at hl 0 rfl) ?_
        refine lv_bipush (v := 6) hx hb dX10_fails_41 (by decide) ?_
        refine lv_icmp_ne (tgt := 50) hx hb dX10_fails_43 (by decide) (fun c7 => ?_) (fun c7 => ?_)
        · replace h := ifn (c7) h
          refine lv_iconst (v := 0) hx hb dX10_fails_50 (by decide) ?_
          exact J51 e3 e1 false H locs ls h hP hD hS (lv_sub (l' := [(2, .int e3), (1, .int e1), (0, .ref (ad 0))]) hl [0, 1, 2] rfl)
        · replace h := ifp (c7) h
          exact J46 e3 e1 H locs ls h hP hD hS (lv_sub (l' := [(2, .int e3), (1, .int e1), (0, .ref (ad 0))]) hl [0, 1, 2] rfl)
def zb_X10_leaves_114 (σb114 : Sg) : Option (Sg) := some (su σb114 0 37 (-1 : Int32))
def zb_X10_leaves_109 (σb109 : Sg) : Option (Sg) := (zb_X10_leaves_114 (su σb109 0 44 (1 : Int32)))
def zf_X10_leaves (a1 : Int32) (σ : Sg) : Option (Sg) := letb (((16 : Int32) * (σ 0 37)) + (σ 0 38)) (fun e1 => bd (σ 0 37) 8 (letb (σ 12 (σ 0 37).toNatClampNeg) (fun e3 => bd e1 144 ((if (σ 22 e1.toNatClampNeg) = (-1 : Int32) then (if ((σ 21 e1.toNatClampNeg) + (1 : Int32)) = a1 then bd e3 24 ((if (2 : Int32) ≤ (σ 11 e3.toNatClampNeg) then (zb_X10_leaves_109 (su (su σ 0 19 ((σ 0 19) + (1 : Int32))) 21 e1.toNatClampNeg ((σ 21 e1.toNatClampNeg) + (1 : Int32)))) else (if (8 : Int32) ≤ (σ 0 25) then (zb_X10_leaves_109 (su (su σ 0 19 ((σ 0 19) + (1 : Int32))) 21 e1.toNatClampNeg ((σ 21 e1.toNatClampNeg) + (1 : Int32)))) else letb (zf_X10_begins e3 (σ 0 37) (σ 0 38) (su (su σ 0 19 ((σ 0 19) + (1 : Int32))) 21 e1.toNatClampNeg ((σ 21 e1.toNatClampNeg) + (1 : Int32)))) (fun q10 => (zb_X10_leaves_114 q10))))) else (zb_X10_leaves_109 (su (su σ 0 19 ((σ 0 19) + (1 : Int32))) 21 e1.toNatClampNeg ((σ 21 e1.toNatClampNeg) + (1 : Int32))))) else obd (zf_X10_enters (σ 22 e1.toNatClampNeg) (su (su σ 0 19 ((σ 0 19) + (1 : Int32))) 21 e1.toNatClampNeg ((σ 21 e1.toNatClampNeg) + (1 : Int32)))) (fun σ12 => some σ12))))))
def oc_X10_leaves : List Cond := [.fieldLink RX10 286 "TraceTreesModel" "trace" "I", .fieldLink RX10 289 "TraceTreesModel" "entry" "I", .fieldLink RX10 43 "TraceTreesModel" "head" "[I", .fieldLink RX10 292 "TraceTreesModel" "exits" "I", .fieldLink RX10 70 "TraceTreesModel" "hits" "[I", .fieldLink RX10 73 "TraceTreesModel" "branch" "[I", .fieldLink RX10 40 "TraceTreesModel" "dropsOf" "[I", .fieldLink RX10 253 "TraceTreesModel" "traces" "I", .methodLink RX10 298 yX10_begins, .instanceMethod yX10_begins, .selects RX10 yX10_begins yX10_begins, .initialized RX10, .methodLink RX10 295 yX10_enters, .instanceMethod yX10_enters, .selects RX10 yX10_enters yX10_enters, .fieldLink RX10 301 "TraceTreesModel" "skips" "Z"]
def vc_X10_leaves : List Cond := .code yX10_leaves cX10_leaves 4 none :: (oc_X10_leaves ++ (wsX100 ++ (vc_X10_begins ++ (vc_X10_enters))))
theorem iw_X10_leaves_X10 : ∀ w ∈ wsX100, w ∈ vc_X10_leaves := fun _ h => List.mem_cons_of_mem _ (List.mem_append_right _ (List.mem_append_left _ h))
theorem ic_X10_leaves_c_X10_begins : ∀ w ∈ vc_X10_begins, w ∈ vc_X10_leaves := fun _ h => List.mem_cons_of_mem _ (List.mem_append_right _ (List.mem_append_right _ (List.mem_append_left _ h)))
theorem ic_X10_leaves_c_X10_enters : ∀ w ∈ vc_X10_enters, w ∈ vc_X10_leaves := fun _ h => List.mem_cons_of_mem _ (List.mem_append_right _ (List.mem_append_right _ (List.mem_append_right _ (h))))
theorem gd_c_X10_leaves : (vc_X10_leaves).all goodWord = true := gall_cons rfl (gall_app (by decide +kernel) (gall_app gw_X10 (gall_app gd_c_X10_begins gd_c_X10_enters)))
set_option maxHeartbeats 4000000 in
set_option maxRecDepth 100000 in
theorem c_X10_leaves (l : Launch) (dC : Nat → ClassId) (dI : Nat → Nat → Nat) (cI cT cS : ClassId) (sz : Nat) (ad : Nat → Nat) (a1 : Int32) (σ : Sg) (o : Sg) (h : zf_X10_leaves a1 σ = some o) : gCV (S := Unit) l yX10_leaves vc_X10_leaves { frames := 1, cells := 0, slots := 0, locals := 23 } (dC, dI) (gTY cI cT cS) sz [.ref (ad 0), .int a1] (Wd 24 (cfR ad cI) σ) (fun (_ : Unit) => True) (fun (_ : Unit) => (Wd 24 (cfR ad cI) o)) 0 0 := by
  refine Met.ofW (cc := cX10_leaves) (maxL := 4) (ret := none) (by decide) rfl ?_
  intro p e s m args below meth c s₁ B hml hv
  obtain ⟨rfl, hsz, hP, hK, hD0⟩ := hv
  have hx := B.exec
  have hb := B.bytes
  have hr := B.returns
  have hts := atoms_spec (ws := vc_X10_leaves) B.pre
  have hown : s.vm.findClass RX10 = some m.cls := findClass_of_methodNamed B.named
  have hlocks := B.notSynchronized
  subst hsz
  have hD := hD0.self (sz := s.heap.size)
  generalize hAe : va_A (Wd 24 (cfR ad cI) σ) s.heap.size = A at hD ⊢
  have hA : ∀ q : Nat, s.heap.size ≤ q → A q := fun q h => by rw [← hAe]; exact Or.inr h
  clear hAe hD0
  refine gstart (fun H locs hHe hLe => ?_)
  have hS : va_S A s.heap H locs := by rw [← hHe, ← hLe]; exact va_S.rf
  replace hP : va_P (dC, dI) vwCl (Wd 24 (cfR ad cI) σ) H := by rw [← hHe]; exact hP
  clear hHe hLe
  have hl := lv_entry ([.ref (ad 0), .int a1]) (n := 4) (Nat.le_of_ble_eq_true rfl)
  rw [lg_entry_eq]
  generalize (lg_sl ([.ref (ad 0), .int a1]) ++ List.replicate (4 - (lg_sl ([.ref (ad 0), .int a1])).length) Slot.unset).toArray = ls at hl ⊢
  replace hl : lv_has ls 4 [(0, .ref (ad 0)), (1, .int a1)] := hl
  unfold zf_X10_leaves at h
  have J114 : ∀ (σb114 : Sg) (H : Heap) (locs : List Loc) (ls : Array Slot), zb_X10_leaves_114 σb114 = some o → va_P (dC, dI) vwCl (Wd 24 (cfR ad cI) σb114) H → va_D A (Wd 24 (cfR ad cI) σb114) → va_S A s.heap H locs → lv_has ls 4 [(0, .ref (ad 0))] → W p l e (headSpec vc_X10_leaves { frames := 1, cells := 0, slots := 0, locals := 23 }).room s m (List.toArray (α := Value) [.ref (ad 0), .int a1]) below meth c H locs 0 0 (MQ below (va_Qv (fun (_ : Unit) => True) (gB (dC, dI) A (fun (_ : Unit) => (Wd 24 (cfR ad cI) o))) A) (List.toArray (α := Value) [.ref (ad 0), .int a1]) s 0 0 A) (F0 m 114 ls []) := by
    intro σb114 H locs ls h hP hD hS hl
    unfold zb_X10_leaves_114 at h
    refine lv_aload_n hx hb dX10_leaves_114 rfl (lv_at hl 0 rfl) ?_
    refine lv_iconst (v := (-1)) hx hb dX10_leaves_115 (by decide) ?_
    refine pf_X10_37 hx hb hts iw_X10_leaves_X10 hown hK hP hD hS (hts (.fieldLink RX10 286 "TraceTreesModel" "trace" "I") (List.mem_of_getElem? (i := 1) rfl)) dX10_leaves_116 (fun H locs hP hD hS => ?_)
    have h9 := Option.some.inj h
    exact wretv hx hb hr hlocks hP hD hS trivial (by rw [← h9]) dX10_leaves_119
  have J109 : ∀ (σb109 : Sg) (H : Heap) (locs : List Loc) (ls : Array Slot), zb_X10_leaves_109 σb109 = some o → va_P (dC, dI) vwCl (Wd 24 (cfR ad cI) σb109) H → va_D A (Wd 24 (cfR ad cI) σb109) → va_S A s.heap H locs → lv_has ls 4 [(0, .ref (ad 0))] → W p l e (headSpec vc_X10_leaves { frames := 1, cells := 0, slots := 0, locals := 23 }).room s m (List.toArray (α := Value) [.ref (ad 0), .int a1]) below meth c H locs 0 0 (MQ below (va_Qv (fun (_ : Unit) => True) (gB (dC, dI) A (fun (_ : Unit) => (Wd 24 (cfR ad cI) o))) A) (List.toArray (α := Value) [.ref (ad 0), .int a1]) s 0 0 A) (F0 m 109 ls []) := by
    intro σb109 H locs ls h hP hD hS hl
    unfold zb_X10_leaves_109 at h
    refine lv_aload_n hx hb dX10_leaves_109 rfl (lv_at hl 0 rfl) ?_
    refine lv_iconst (v := 1) hx hb dX10_leaves_110 (by decide) ?_
    refine pf_X10_44 (Or.inr rfl) hx hb hts iw_X10_leaves_X10 hown hK hP hD hS (hts (.fieldLink RX10 301 "TraceTreesModel" "skips" "Z") (List.mem_of_getElem? (i := 16) rfl)) dX10_leaves_111 (fun H locs hP hD hS => ?_)
    exact J114 (su σb109 0 44 (1 : Int32)) H locs ls h hP hD hS (lv_sub (l' := [(0, .ref (ad 0))]) hl [0] rfl)
  refine lv_bipush (v := 16) hx hb dX10_leaves_0 (by decide) ?_
  refine lv_aload_n hx hb dX10_leaves_2 rfl (lv_at hl 0 rfl) ?_
  refine gf_X10_37 hx hb hts iw_X10_leaves_X10 hown hK hP (hts (.fieldLink RX10 286 "TraceTreesModel" "trace" "I") (List.mem_of_getElem? (i := 1) rfl)) dX10_leaves_3 ?_
  refine lv_imul hx hb dX10_leaves_6 ?_
  refine lv_aload_n hx hb dX10_leaves_7 rfl (lv_at hl 0 rfl) ?_
  refine gf_X10_38 hx hb hts iw_X10_leaves_X10 hown hK hP (hts (.fieldLink RX10 289 "TraceTreesModel" "entry" "I") (List.mem_of_getElem? (i := 2) rfl)) dX10_leaves_8 ?_
  refine lv_iadd hx hb dX10_leaves_11 ?_
  obtain ⟨e1, he1, h⟩ := letb_inv h
  refine lv_nm he1 ?_
  refine lv_istore_n (lv' := [(2, .int e1), (0, .ref (ad 0)), (1, .int a1)]) hx hb dX10_leaves_12 rfl hl (by decide) rfl (fun ls hl => ?_)
  refine lv_aload_n hx hb dX10_leaves_13 rfl (lv_at hl 1 rfl) ?_
  refine gf_X10_26 hx hb hts iw_X10_leaves_X10 hown hK hP (hts (.fieldLink RX10 43 "TraceTreesModel" "head" "[I") (List.mem_of_getElem? (i := 3) rfl)) dX10_leaves_14 ?_
  refine lv_aload_n hx hb dX10_leaves_17 rfl (lv_at hl 1 rfl) ?_
  refine gf_X10_37 hx hb hts iw_X10_leaves_X10 hown hK hP (hts (.fieldLink RX10 286 "TraceTreesModel" "trace" "I") (List.mem_of_getElem? (i := 1) rfl)) dX10_leaves_18 ?_
  obtain ⟨hi2, h⟩ := bd_inv h
  refine wald hx hb hK hP aR12 hi2 dX10_leaves_21 ?_
  obtain ⟨e3, he3, h⟩ := letb_inv h
  refine lv_nm he3 ?_
  refine lv_istore_n (lv' := [(3, .int e3), (2, .int e1), (0, .ref (ad 0)), (1, .int a1)]) hx hb dX10_leaves_22 rfl hl (by decide) rfl (fun ls hl => ?_)
  refine lv_aload_n hx hb dX10_leaves_23 rfl (lv_at hl 2 rfl) ?_
  refine lv_dup hx hb dX10_leaves_24 rfl ?_
  refine gf_X10_19 hx hb hts iw_X10_leaves_X10 hown hK hP (hts (.fieldLink RX10 292 "TraceTreesModel" "exits" "I") (List.mem_of_getElem? (i := 4) rfl)) dX10_leaves_25 ?_
  refine lv_iconst (v := 1) hx hb dX10_leaves_28 (by decide) ?_
  refine lv_iadd hx hb dX10_leaves_29 ?_
  refine pf_X10_19 hx hb hts iw_X10_leaves_X10 hown hK hP hD hS (hts (.fieldLink RX10 292 "TraceTreesModel" "exits" "I") (List.mem_of_getElem? (i := 4) rfl)) dX10_leaves_30 (fun H locs hP hD hS => ?_)
  refine lv_aload_n hx hb dX10_leaves_33 rfl (lv_at hl 2 rfl) ?_
  refine gf_X10_35 hx hb hts iw_X10_leaves_X10 hown hK hP (hts (.fieldLink RX10 70 "TraceTreesModel" "hits" "[I") (List.mem_of_getElem? (i := 5) rfl)) dX10_leaves_34 ?_
  refine lv_iload_n hx hb dX10_leaves_37 rfl (lv_at hl 1 rfl) ?_
  refine lv_dup2_11 hx hb dX10_leaves_38 rfl rfl ?_
  obtain ⟨hi4, h⟩ := bd_inv h
  refine wald hx hb hK hP aR21 hi4 dX10_leaves_39 ?_
  refine lv_nm (y := (σ 21 e1.toNatClampNeg)) (su_rd (by decide) rfl) ?_
  refine lv_iconst (v := 1) hx hb dX10_leaves_40 (by decide) ?_
  refine lv_iadd hx hb dX10_leaves_41 ?_
  refine wast hx hb hK hP hD hS aR21 hi4 dX10_leaves_42 (fun H locs hP hD hS => ?_)
  refine lv_aload_n hx hb dX10_leaves_43 rfl (lv_at hl 2 rfl) ?_
  refine gf_X10_36 hx hb hts iw_X10_leaves_X10 hown hK hP (hts (.fieldLink RX10 73 "TraceTreesModel" "branch" "[I") (List.mem_of_getElem? (i := 6) rfl)) dX10_leaves_44 ?_
  refine lv_iload_n hx hb dX10_leaves_47 rfl (lv_at hl 1 rfl) ?_
  refine wald hx hb hK hP aR22 hi4 dX10_leaves_48 ?_
  refine lv_nm (y := (σ 22 e1.toNatClampNeg)) (su_rd (by decide) (su_rd (by decide) rfl)) ?_
  refine lv_iconst (v := (-1)) hx hb dX10_leaves_49 (by decide) ?_
  refine lv_icmp_eq (tgt := 64) hx hb dX10_leaves_50 (by decide) (fun c5 => ?_) (fun c5 => ?_)
  · replace h := ifp (c5) h
    refine lv_aload_n hx hb dX10_leaves_64 rfl (lv_at hl 2 rfl) ?_
    refine gf_X10_35 hx hb hts iw_X10_leaves_X10 hown hK hP (hts (.fieldLink RX10 70 "TraceTreesModel" "hits" "[I") (List.mem_of_getElem? (i := 5) rfl)) dX10_leaves_65 ?_
    refine lv_iload_n hx hb dX10_leaves_68 rfl (lv_at hl 1 rfl) ?_
    refine wald hx hb hK hP aR21 hi4 dX10_leaves_69 ?_
    refine lv_nm (y := ((σ 21 e1.toNatClampNeg) + (1 : Int32))) (su_hit rfl) ?_
    refine lv_iload_n hx hb dX10_leaves_70 rfl (lv_at hl 3 rfl) ?_
    refine lv_icmp_ne (tgt := 109) hx hb dX10_leaves_71 (by decide) (fun c6 => ?_) (fun c6 => ?_)
    · replace h := ifn (c6) h
      exact J109 (su (su σ 0 19 ((σ 0 19) + (1 : Int32))) 21 e1.toNatClampNeg ((σ 21 e1.toNatClampNeg) + (1 : Int32))) H locs ls h hP hD hS (lv_sub (l' := [(0, .ref (ad 0))]) hl [2] rfl)
    · replace h := ifp (c6) h
      refine lv_aload_n hx hb dX10_leaves_74 rfl (lv_at hl 2 rfl) ?_
      refine gf_X10_24 hx hb hts iw_X10_leaves_X10 hown hK hP (hts (.fieldLink RX10 40 "TraceTreesModel" "dropsOf" "[I") (List.mem_of_getElem? (i := 7) rfl)) dX10_leaves_75 ?_
      refine lv_iload_n hx hb dX10_leaves_78 rfl (lv_at hl 0 rfl) ?_
      obtain ⟨hi7, h⟩ := bd_inv h
      refine wald hx hb hK hP aR11 hi7 dX10_leaves_79 ?_
      refine lv_nm (y := (σ 11 e3.toNatClampNeg)) (su_rd (by decide) (su_rd (by decide) rfl)) ?_
      refine lv_iconst (v := 2) hx hb dX10_leaves_80 (by decide) ?_
      refine lv_icmp_ge (tgt := 109) hx hb dX10_leaves_81 (by decide) (fun c8 => ?_) (fun c8 => ?_)
      · replace h := ifp (c8) h
        exact J109 (su (su σ 0 19 ((σ 0 19) + (1 : Int32))) 21 e1.toNatClampNeg ((σ 21 e1.toNatClampNeg) + (1 : Int32))) H locs ls h hP hD hS (lv_sub (l' := [(0, .ref (ad 0))]) hl [2] rfl)
      · replace h := ifn (c8) h
        refine lv_aload_n hx hb dX10_leaves_84 rfl (lv_at hl 2 rfl) ?_
        refine gf_X10_25 hx hb hts iw_X10_leaves_X10 hown hK hP (hts (.fieldLink RX10 253 "TraceTreesModel" "traces" "I") (List.mem_of_getElem? (i := 8) rfl)) dX10_leaves_85 ?_
        refine lv_nm (y := (σ 0 25)) (su_rd (by decide) (su_rf (by omega) (by decide) rfl)) ?_
        refine lv_bipush (v := 8) hx hb dX10_leaves_88 (by decide) ?_
        refine lv_icmp_ge (tgt := 109) hx hb dX10_leaves_90 (by decide) (fun c9 => ?_) (fun c9 => ?_)
        · replace h := ifp (c9) h
          exact J109 (su (su σ 0 19 ((σ 0 19) + (1 : Int32))) 21 e1.toNatClampNeg ((σ 21 e1.toNatClampNeg) + (1 : Int32))) H locs ls h hP hD hS (lv_sub (l' := [(0, .ref (ad 0))]) hl [2] rfl)
        · replace h := ifn (c9) h
          refine lv_aload_n hx hb dX10_leaves_93 rfl (lv_at hl 2 rfl) ?_
          refine lv_iload_n hx hb dX10_leaves_94 rfl (lv_at hl 0 rfl) ?_
          refine lv_aload_n hx hb dX10_leaves_95 rfl (lv_at hl 2 rfl) ?_
          refine gf_X10_37 hx hb hts iw_X10_leaves_X10 hown hK hP (hts (.fieldLink RX10 286 "TraceTreesModel" "trace" "I") (List.mem_of_getElem? (i := 1) rfl)) dX10_leaves_96 ?_
          refine lv_nm (y := (σ 0 37)) (su_rd (by decide) (su_rf (by omega) (by decide) rfl)) ?_
          refine lv_aload_n hx hb dX10_leaves_99 rfl (lv_at hl 2 rfl) ?_
          refine gf_X10_38 hx hb hts iw_X10_leaves_X10 hown hK hP (hts (.fieldLink RX10 289 "TraceTreesModel" "entry" "I") (List.mem_of_getElem? (i := 2) rfl)) dX10_leaves_100 ?_
          refine lv_nm (y := (σ 0 38)) (su_rd (by decide) (su_rf (by omega) (by decide) rfl)) ?_
          obtain ⟨q10, hc10, h⟩ := letb_inv h
          refine wcallv (S := Unit) (va_runV (As := [.int e3, .int (σ 0 37), .int (σ 0 38)]) (rest := []) ⟨hx, hb, hml, hown, hts⟩ (c_X10_begins l dC dI cI cT cS H.size ad  e3 (σ 0 37) (σ 0 38) (su (su σ 0 19 ((σ 0 19) + (1 : Int32))) 21 e1.toNatClampNeg ((σ 21 e1.toNatClampNeg) + (1 : Int32))) _ hc10) (cwV 3 hts (gWV (List.mem_of_getElem? (i := 9) rfl) (List.mem_of_getElem? (i := 10) rfl) (List.mem_of_getElem? (i := 11) rfl) (List.mem_of_getElem? (i := 12) rfl) ic_X10_leaves_c_X10_begins gd_c_X10_begins) rfl rfl rfl (by decide +kernel) ⟨(Nat.le_of_ble_eq_true rfl), (Nat.le_of_ble_eq_true rfl)⟩) (wpV (q := (RX10, TX10, 46)) hP hK hD oX10 rfl) rfl rfl hl.1 rfl (lv_room (Nat.le_of_ble_eq_true rfl)) dX10_leaves_103 ⟨(Nat.le_of_ble_eq_true rfl), (Nat.le_of_ble_eq_true rfl)⟩) hP hD hS hA (fun _ H locs hr11 hP hD hS => ?_)
          replace hP : va_P (dC, dI) vwCl (Wd 24 (cfR ad cI) q10) H := hP
          replace hD : va_D A (Wd 24 (cfR ad cI) q10) := hD
          refine lv_goto (tgt := 114) hx hb dX10_leaves_106 (by decide) ?_
          exact J114 q10 H locs ls h hP hD hS (lv_sub (l' := [(0, .ref (ad 0))]) hl [2] rfl)
  · replace h := ifn (c5) h
    refine lv_aload_n hx hb dX10_leaves_53 rfl (lv_at hl 2 rfl) ?_
    refine lv_aload_n hx hb dX10_leaves_54 rfl (lv_at hl 2 rfl) ?_
    refine gf_X10_36 hx hb hts iw_X10_leaves_X10 hown hK hP (hts (.fieldLink RX10 73 "TraceTreesModel" "branch" "[I") (List.mem_of_getElem? (i := 6) rfl)) dX10_leaves_55 ?_
    refine lv_iload_n hx hb dX10_leaves_58 rfl (lv_at hl 1 rfl) ?_
    refine wald hx hb hK hP aR22 hi4 dX10_leaves_59 ?_
    refine lv_nm (y := (σ 22 e1.toNatClampNeg)) (su_rd (by decide) (su_rd (by decide) rfl)) ?_
    obtain ⟨σ12, hc12, h⟩ := obd_inv h
    refine wcallv (S := Unit) (va_runV (As := [.int (σ 22 e1.toNatClampNeg)]) (rest := []) ⟨hx, hb, hml, hown, hts⟩ (c_X10_enters l dC dI cI cT cS H.size ad  (σ 22 e1.toNatClampNeg) (su (su σ 0 19 ((σ 0 19) + (1 : Int32))) 21 e1.toNatClampNeg ((σ 21 e1.toNatClampNeg) + (1 : Int32))) _ hc12) (cwV 1 hts (gWV (List.mem_of_getElem? (i := 13) rfl) (List.mem_of_getElem? (i := 14) rfl) (List.mem_of_getElem? (i := 15) rfl) (List.mem_of_getElem? (i := 12) rfl) ic_X10_leaves_c_X10_enters gd_c_X10_enters) rfl rfl rfl (by decide +kernel) ⟨(Nat.le_of_ble_eq_true rfl), (Nat.le_of_ble_eq_true rfl)⟩) (wpV (q := (RX10, TX10, 46)) hP hK hD oX10 rfl) rfl rfl hl.1 rfl (lv_room (Nat.le_of_ble_eq_true rfl)) dX10_leaves_60 ⟨(Nat.le_of_ble_eq_true rfl), (Nat.le_of_ble_eq_true rfl)⟩) hP hD hS hA (fun _ H locs hr13 hP hD hS => ?_)
    replace hP : va_P (dC, dI) vwCl (Wd 24 (cfR ad cI) σ12) H := hP
    replace hD : va_D A (Wd 24 (cfR ad cI) σ12) := hD
    have h9 := Option.some.inj h
    exact wretv hx hb hr hlocks hP hD hS trivial (by rw [← h9]) dX10_leaves_63
def zb_X10_goesCompiled_57 (σb57 : Sg) : Option (Sg) := some σb57
def zf_X10_goesCompiled (σ : Sg) : Option (Sg) := obd (zf_X10_applies σ) (fun σ1 => bd (σ1 0 37) 8 ((if ((σ1 0 38) + (1 : Int32)) = (σ1 15 (σ1 0 37).toNatClampNeg) then obd (zf_X10_rootOf (σ1 12 (σ1 0 37).toNatClampNeg) (su (su σ1 0 18 ((σ1 0 18) + (1 : Int32))) 0 38 ((σ1 0 38) + (1 : Int32)))) (fun r5 => obd (zf_X10_enters r5 (su (su σ1 0 18 ((σ1 0 18) + (1 : Int32))) 0 38 ((σ1 0 38) + (1 : Int32)))) (fun σ7 => (zb_X10_goesCompiled_57 σ7))) else (zb_X10_goesCompiled_57 (su (su σ1 0 18 ((σ1 0 18) + (1 : Int32))) 0 38 ((σ1 0 38) + (1 : Int32)))))))
def oc_X10_goesCompiled : List Cond := [.methodLink RX10 304 yX10_applies, .instanceMethod yX10_applies, .selects RX10 yX10_applies yX10_applies, .initialized RX10, .fieldLink RX10 307 "TraceTreesModel" "compiled" "I", .fieldLink RX10 289 "TraceTreesModel" "entry" "I", .fieldLink RX10 52 "TraceTreesModel" "length" "[I", .fieldLink RX10 286 "TraceTreesModel" "trace" "I", .fieldLink RX10 43 "TraceTreesModel" "head" "[I", .methodLink RX10 277 yX10_rootOf, .instanceMethod yX10_rootOf, .selects RX10 yX10_rootOf yX10_rootOf, .methodLink RX10 295 yX10_enters, .instanceMethod yX10_enters, .selects RX10 yX10_enters yX10_enters]
def vc_X10_goesCompiled : List Cond := .code yX10_goesCompiled cX10_goesCompiled 1 none :: (oc_X10_goesCompiled ++ (wsX100 ++ (vc_X10_applies ++ (vc_X10_rootOf ++ (vc_X10_enters)))))
theorem iw_X10_goesCompiled_X10 : ∀ w ∈ wsX100, w ∈ vc_X10_goesCompiled := fun _ h => List.mem_cons_of_mem _ (List.mem_append_right _ (List.mem_append_left _ h))
theorem ic_X10_goesCompiled_c_X10_applies : ∀ w ∈ vc_X10_applies, w ∈ vc_X10_goesCompiled := fun _ h => List.mem_cons_of_mem _ (List.mem_append_right _ (List.mem_append_right _ (List.mem_append_left _ h)))
theorem ic_X10_goesCompiled_c_X10_rootOf : ∀ w ∈ vc_X10_rootOf, w ∈ vc_X10_goesCompiled := fun _ h => List.mem_cons_of_mem _ (List.mem_append_right _ (List.mem_append_right _ (List.mem_append_right _ (List.mem_append_left _ h))))
theorem ic_X10_goesCompiled_c_X10_enters : ∀ w ∈ vc_X10_enters, w ∈ vc_X10_goesCompiled := fun _ h => List.mem_cons_of_mem _ (List.mem_append_right _ (List.mem_append_right _ (List.mem_append_right _ (List.mem_append_right _ (h)))))
theorem gd_c_X10_goesCompiled : (vc_X10_goesCompiled).all goodWord = true := gall_cons rfl (gall_app (by decide +kernel) (gall_app gw_X10 (gall_app gd_c_X10_applies (gall_app gd_c_X10_rootOf gd_c_X10_enters))))
set_option maxHeartbeats 4000000 in
set_option maxRecDepth 100000 in
theorem c_X10_goesCompiled (l : Launch) (dC : Nat → ClassId) (dI : Nat → Nat → Nat) (cI cT cS : ClassId) (sz : Nat) (ad : Nat → Nat) (σ : Sg) (o : Sg) (h : zf_X10_goesCompiled σ = some o) : gCV (S := Unit) l yX10_goesCompiled vc_X10_goesCompiled { frames := 2, cells := 0, slots := 0, locals := 43 } (dC, dI) (gTY cI cT cS) sz [.ref (ad 0)] (Wd 24 (cfR ad cI) σ) (fun (_ : Unit) => True) (fun (_ : Unit) => (Wd 24 (cfR ad cI) o)) 0 0 := by
  refine Met.ofW (cc := cX10_goesCompiled) (maxL := 1) (ret := none) (by decide) rfl ?_
  intro p e s m args below meth c s₁ B hml hv
  obtain ⟨rfl, hsz, hP, hK, hD0⟩ := hv
  have hx := B.exec
  have hb := B.bytes
  have hr := B.returns
  have hts := atoms_spec (ws := vc_X10_goesCompiled) B.pre
  have hown : s.vm.findClass RX10 = some m.cls := findClass_of_methodNamed B.named
  have hlocks := B.notSynchronized
  subst hsz
  have hD := hD0.self (sz := s.heap.size)
  generalize hAe : va_A (Wd 24 (cfR ad cI) σ) s.heap.size = A at hD ⊢
  have hA : ∀ q : Nat, s.heap.size ≤ q → A q := fun q h => by rw [← hAe]; exact Or.inr h
  clear hAe hD0
  refine gstart (fun H locs hHe hLe => ?_)
  have hS : va_S A s.heap H locs := by rw [← hHe, ← hLe]; exact va_S.rf
  replace hP : va_P (dC, dI) vwCl (Wd 24 (cfR ad cI) σ) H := by rw [← hHe]; exact hP
  clear hHe hLe
  have hl := lv_entry ([.ref (ad 0)]) (n := 1) (Nat.le_of_ble_eq_true rfl)
  rw [lg_entry_eq]
  generalize (lg_sl ([.ref (ad 0)]) ++ List.replicate (1 - (lg_sl ([.ref (ad 0)])).length) Slot.unset).toArray = ls at hl ⊢
  replace hl : lv_has ls 1 [(0, .ref (ad 0))] := hl
  unfold zf_X10_goesCompiled at h
  have J57 : ∀ (σb57 : Sg) (H : Heap) (locs : List Loc) (ls : Array Slot), zb_X10_goesCompiled_57 σb57 = some o → va_P (dC, dI) vwCl (Wd 24 (cfR ad cI) σb57) H → va_D A (Wd 24 (cfR ad cI) σb57) → va_S A s.heap H locs → lv_has ls 1 [] → W p l e (headSpec vc_X10_goesCompiled { frames := 2, cells := 0, slots := 0, locals := 43 }).room s m (List.toArray (α := Value) [.ref (ad 0)]) below meth c H locs 0 0 (MQ below (va_Qv (fun (_ : Unit) => True) (gB (dC, dI) A (fun (_ : Unit) => (Wd 24 (cfR ad cI) o))) A) (List.toArray (α := Value) [.ref (ad 0)]) s 0 0 A) (F0 m 57 ls []) := by
    intro σb57 H locs ls h hP hD hS hl
    unfold zb_X10_goesCompiled_57 at h
    have h9 := Option.some.inj h
    exact wretv hx hb hr hlocks hP hD hS trivial (by rw [← h9]) dX10_goesCompiled_57
  refine lv_aload_n hx hb dX10_goesCompiled_0 rfl (lv_at hl 0 rfl) ?_
  obtain ⟨σ1, hc1, h⟩ := obd_inv h
  refine wcallv (S := Unit) (va_runV (As := []) (rest := []) ⟨hx, hb, hml, hown, hts⟩ (c_X10_applies l dC dI cI cT cS H.size ad   σ _ hc1) (cwV 0 hts (gWV (List.mem_of_getElem? (i := 1) rfl) (List.mem_of_getElem? (i := 2) rfl) (List.mem_of_getElem? (i := 3) rfl) (List.mem_of_getElem? (i := 4) rfl) ic_X10_goesCompiled_c_X10_applies gd_c_X10_applies) rfl rfl rfl (by decide +kernel) ⟨(Nat.le_of_ble_eq_true rfl), (Nat.le_of_ble_eq_true rfl)⟩) (wpV (q := (RX10, TX10, 46)) hP hK hD oX10 rfl) rfl rfl hl.1 rfl (lv_room (Nat.le_of_ble_eq_true rfl)) dX10_goesCompiled_1 ⟨(Nat.le_of_ble_eq_true rfl), (Nat.le_of_ble_eq_true rfl)⟩) hP hD hS hA (fun _ H locs hr2 hP hD hS => ?_)
  replace hP : va_P (dC, dI) vwCl (Wd 24 (cfR ad cI) σ1) H := hP
  replace hD : va_D A (Wd 24 (cfR ad cI) σ1) := hD
  refine lv_aload_n hx hb dX10_goesCompiled_4 rfl (lv_at hl 0 rfl) ?_
  refine lv_dup hx hb dX10_goesCompiled_5 rfl ?_
  refine gf_X10_18 hx hb hts iw_X10_goesCompiled_X10 hown hK hP (hts (.fieldLink RX10 307 "TraceTreesModel" "compiled" "I") (List.mem_of_getElem? (i := 5) rfl)) dX10_goesCompiled_6 ?_
  refine lv_iconst (v := 1) hx hb dX10_goesCompiled_9 (by decide) ?_
  refine lv_iadd hx hb dX10_goesCompiled_10 ?_
  refine pf_X10_18 hx hb hts iw_X10_goesCompiled_X10 hown hK hP hD hS (hts (.fieldLink RX10 307 "TraceTreesModel" "compiled" "I") (List.mem_of_getElem? (i := 5) rfl)) dX10_goesCompiled_11 (fun H locs hP hD hS => ?_)
  refine lv_aload_n hx hb dX10_goesCompiled_14 rfl (lv_at hl 0 rfl) ?_
  refine lv_dup hx hb dX10_goesCompiled_15 rfl ?_
  refine gf_X10_38 hx hb hts iw_X10_goesCompiled_X10 hown hK hP (hts (.fieldLink RX10 289 "TraceTreesModel" "entry" "I") (List.mem_of_getElem? (i := 6) rfl)) dX10_goesCompiled_16 ?_
  refine lv_nm (y := (σ1 0 38)) (su_rf (by omega) (by decide) rfl) ?_
  refine lv_iconst (v := 1) hx hb dX10_goesCompiled_19 (by decide) ?_
  refine lv_iadd hx hb dX10_goesCompiled_20 ?_
  refine pf_X10_38 hx hb hts iw_X10_goesCompiled_X10 hown hK hP hD hS (hts (.fieldLink RX10 289 "TraceTreesModel" "entry" "I") (List.mem_of_getElem? (i := 6) rfl)) dX10_goesCompiled_21 (fun H locs hP hD hS => ?_)
  refine lv_aload_n hx hb dX10_goesCompiled_24 rfl (lv_at hl 0 rfl) ?_
  refine gf_X10_38 hx hb hts iw_X10_goesCompiled_X10 hown hK hP (hts (.fieldLink RX10 289 "TraceTreesModel" "entry" "I") (List.mem_of_getElem? (i := 6) rfl)) dX10_goesCompiled_25 ?_
  refine lv_nm (y := ((σ1 0 38) + (1 : Int32))) (su_hit rfl) ?_
  refine lv_aload_n hx hb dX10_goesCompiled_28 rfl (lv_at hl 0 rfl) ?_
  refine gf_X10_29 hx hb hts iw_X10_goesCompiled_X10 hown hK hP (hts (.fieldLink RX10 52 "TraceTreesModel" "length" "[I") (List.mem_of_getElem? (i := 7) rfl)) dX10_goesCompiled_29 ?_
  refine lv_aload_n hx hb dX10_goesCompiled_32 rfl (lv_at hl 0 rfl) ?_
  refine gf_X10_37 hx hb hts iw_X10_goesCompiled_X10 hown hK hP (hts (.fieldLink RX10 286 "TraceTreesModel" "trace" "I") (List.mem_of_getElem? (i := 8) rfl)) dX10_goesCompiled_33 ?_
  refine lv_nm (y := (σ1 0 37)) (su_rf (by omega) (by decide) (su_rf (by omega) (by decide) rfl)) ?_
  obtain ⟨hi3, h⟩ := bd_inv h
  refine wald hx hb hK hP aR15 hi3 dX10_goesCompiled_36 ?_
  refine lv_nm (y := (σ1 15 (σ1 0 37).toNatClampNeg)) (su_rd (by decide) (su_rd (by decide) rfl)) ?_
  refine lv_icmp_ne (tgt := 57) hx hb dX10_goesCompiled_37 (by decide) (fun c4 => ?_) (fun c4 => ?_)
  · replace h := ifn (c4) h
    exact J57 (su (su σ1 0 18 ((σ1 0 18) + (1 : Int32))) 0 38 ((σ1 0 38) + (1 : Int32))) H locs ls h hP hD hS (lv_sub (l' := []) hl [] rfl)
  · replace h := ifp (c4) h
    refine lv_aload_n hx hb dX10_goesCompiled_40 rfl (lv_at hl 0 rfl) ?_
    refine lv_aload_n hx hb dX10_goesCompiled_41 rfl (lv_at hl 0 rfl) ?_
    refine lv_aload_n hx hb dX10_goesCompiled_42 rfl (lv_at hl 0 rfl) ?_
    refine gf_X10_26 hx hb hts iw_X10_goesCompiled_X10 hown hK hP (hts (.fieldLink RX10 43 "TraceTreesModel" "head" "[I") (List.mem_of_getElem? (i := 9) rfl)) dX10_goesCompiled_43 ?_
    refine lv_aload_n hx hb dX10_goesCompiled_46 rfl (lv_at hl 0 rfl) ?_
    refine gf_X10_37 hx hb hts iw_X10_goesCompiled_X10 hown hK hP (hts (.fieldLink RX10 286 "TraceTreesModel" "trace" "I") (List.mem_of_getElem? (i := 8) rfl)) dX10_goesCompiled_47 ?_
    refine lv_nm (y := (σ1 0 37)) (su_rf (by omega) (by decide) (su_rf (by omega) (by decide) rfl)) ?_
    refine wald hx hb hK hP aR12 hi3 dX10_goesCompiled_50 ?_
    refine lv_nm (y := (σ1 12 (σ1 0 37).toNatClampNeg)) (su_rd (by decide) (su_rd (by decide) rfl)) ?_
    obtain ⟨r5, hc5, h⟩ := obd_inv h
    refine wcalli (S := Unit) (va_runV (As := [.int (σ1 12 (σ1 0 37).toNatClampNeg)]) (rest := [.ref (ad 0)]) ⟨hx, hb, hml, hown, hts⟩ (c_X10_rootOf l dC dI cI cT cS H.size ad  (σ1 12 (σ1 0 37).toNatClampNeg) (su (su σ1 0 18 ((σ1 0 18) + (1 : Int32))) 0 38 ((σ1 0 38) + (1 : Int32))) _ hc5) (cwV 1 hts (gWV (List.mem_of_getElem? (i := 10) rfl) (List.mem_of_getElem? (i := 11) rfl) (List.mem_of_getElem? (i := 12) rfl) (List.mem_of_getElem? (i := 4) rfl) ic_X10_goesCompiled_c_X10_rootOf gd_c_X10_rootOf) rfl rfl rfl (by decide +kernel) ⟨(Nat.le_of_ble_eq_true rfl), (Nat.le_of_ble_eq_true rfl)⟩) (wpV (q := (RX10, TX10, 46)) hP hK hD oX10 rfl) rfl rfl hl.1 rfl (lv_room (Nat.le_of_ble_eq_true rfl)) dX10_goesCompiled_51 ⟨(Nat.le_of_ble_eq_true rfl), (Nat.le_of_ble_eq_true rfl)⟩) hP hD hS hA (fun rr6 _ H locs hr6 hP hD hS => ?_)
    refine lv_nm (y := r5) hr6 ?_
    obtain ⟨σ7, hc7, h⟩ := obd_inv h
    refine wcallv (S := Unit) (va_runV (As := [.int r5]) (rest := []) ⟨hx, hb, hml, hown, hts⟩ (c_X10_enters l dC dI cI cT cS H.size ad  r5 (su (su σ1 0 18 ((σ1 0 18) + (1 : Int32))) 0 38 ((σ1 0 38) + (1 : Int32))) _ hc7) (cwV 1 hts (gWV (List.mem_of_getElem? (i := 13) rfl) (List.mem_of_getElem? (i := 14) rfl) (List.mem_of_getElem? (i := 15) rfl) (List.mem_of_getElem? (i := 4) rfl) ic_X10_goesCompiled_c_X10_enters gd_c_X10_enters) rfl rfl rfl (by decide +kernel) ⟨(Nat.le_of_ble_eq_true rfl), (Nat.le_of_ble_eq_true rfl)⟩) (wpV (q := (RX10, TX10, 46)) hP hK hD oX10 rfl) rfl rfl hl.1 rfl (lv_room (Nat.le_of_ble_eq_true rfl)) dX10_goesCompiled_54 ⟨(Nat.le_of_ble_eq_true rfl), (Nat.le_of_ble_eq_true rfl)⟩) hP hD hS hA (fun _ H locs hr8 hP hD hS => ?_)
    replace hP : va_P (dC, dI) vwCl (Wd 24 (cfR ad cI) σ7) H := hP
    replace hD : va_D A (Wd 24 (cfR ad cI) σ7) := hD
    exact J57 σ7 H locs ls h hP hD hS (lv_sub (l' := []) hl [] rfl)
def zb_X10_jumped_22 (σb22 : Sg) : Option (Sg) := some σb22
def zb_X10_jumped_97 (σb97 : Sg) : Option (Sg) := some σb97
def zf_X10_jumped (a1 : Int32) (σ : Sg) : Option (Sg) := (if (σ 0 39) = 0 then bd (σ 0 16) 24 ((if a1 ≤ 0 then (zb_X10_jumped_97 (su σ 10 (σ 0 16).toNatClampNeg ((σ 10 (σ 0 16).toNatClampNeg) + (1 : Int32)))) else (if ((σ 10 (σ 0 16).toNatClampNeg) + (1 : Int32)) < a1 then (zb_X10_jumped_97 (su σ 10 (σ 0 16).toNatClampNeg ((σ 10 (σ 0 16).toNatClampNeg) + (1 : Int32)))) else (if (2 : Int32) ≤ (σ 11 (σ 0 16).toNatClampNeg) then (zb_X10_jumped_97 (su σ 10 (σ 0 16).toNatClampNeg ((σ 10 (σ 0 16).toNatClampNeg) + (1 : Int32)))) else obd (zf_X10_rootOf (σ 0 16) (su σ 10 (σ 0 16).toNatClampNeg ((σ 10 (σ 0 16).toNatClampNeg) + (1 : Int32)))) (fun r6 => (if r6 = (-1 : Int32) then (if (8 : Int32) ≤ (σ 0 25) then (zb_X10_jumped_97 (su σ 10 (σ 0 16).toNatClampNeg ((σ 10 (σ 0 16).toNatClampNeg) + (1 : Int32)))) else letb (zf_X10_begins (σ 0 16) (-1 : Int32) (-1 : Int32) (su σ 10 (σ 0 16).toNatClampNeg ((σ 10 (σ 0 16).toNatClampNeg) + (1 : Int32)))) (fun q10 => (zb_X10_jumped_97 q10))) else (zb_X10_jumped_97 (su σ 10 (σ 0 16).toNatClampNeg ((σ 10 (σ 0 16).toNatClampNeg) + (1 : Int32)))))))))) else (if (σ 0 16) = (σ 0 40) then (zb_X10_jumped_22 σ) else obd (zf_X10_lets σ) (fun σ13 => (zb_X10_jumped_22 σ13))))
def oc_X10_jumped : List Cond := [.fieldLink RX10 256 "TraceTreesModel" "records" "Z", .fieldLink RX10 37 "TraceTreesModel" "heat" "[I", .fieldLink RX10 241 "TraceTreesModel" "point" "I", .fieldLink RX10 40 "TraceTreesModel" "dropsOf" "[I", .methodLink RX10 277 yX10_rootOf, .instanceMethod yX10_rootOf, .selects RX10 yX10_rootOf yX10_rootOf, .initialized RX10, .fieldLink RX10 253 "TraceTreesModel" "traces" "I", .methodLink RX10 298 yX10_begins, .instanceMethod yX10_begins, .selects RX10 yX10_begins yX10_begins, .fieldLink RX10 259 "TraceTreesModel" "headNow" "I", .methodLink RX10 280 yX10_lets, .instanceMethod yX10_lets, .selects RX10 yX10_lets yX10_lets]
def vc_X10_jumped : List Cond := .code yX10_jumped cX10_jumped 2 none :: (oc_X10_jumped ++ (wsX100 ++ (vc_X10_rootOf ++ (vc_X10_begins ++ (vc_X10_lets)))))
theorem iw_X10_jumped_X10 : ∀ w ∈ wsX100, w ∈ vc_X10_jumped := fun _ h => List.mem_cons_of_mem _ (List.mem_append_right _ (List.mem_append_left _ h))
theorem ic_X10_jumped_c_X10_rootOf : ∀ w ∈ vc_X10_rootOf, w ∈ vc_X10_jumped := fun _ h => List.mem_cons_of_mem _ (List.mem_append_right _ (List.mem_append_right _ (List.mem_append_left _ h)))
theorem ic_X10_jumped_c_X10_begins : ∀ w ∈ vc_X10_begins, w ∈ vc_X10_jumped := fun _ h => List.mem_cons_of_mem _ (List.mem_append_right _ (List.mem_append_right _ (List.mem_append_right _ (List.mem_append_left _ h))))
theorem ic_X10_jumped_c_X10_lets : ∀ w ∈ vc_X10_lets, w ∈ vc_X10_jumped := fun _ h => List.mem_cons_of_mem _ (List.mem_append_right _ (List.mem_append_right _ (List.mem_append_right _ (List.mem_append_right _ (h)))))
theorem gd_c_X10_jumped : (vc_X10_jumped).all goodWord = true := gall_cons rfl (gall_app (by decide +kernel) (gall_app gw_X10 (gall_app gd_c_X10_rootOf (gall_app gd_c_X10_begins gd_c_X10_lets))))
set_option maxHeartbeats 4000000 in
set_option maxRecDepth 100000 in
theorem c_X10_jumped (l : Launch) (dC : Nat → ClassId) (dI : Nat → Nat → Nat) (cI cT cS : ClassId) (sz : Nat) (ad : Nat → Nat) (a1 : Int32) (σ : Sg) (o : Sg) (h : zf_X10_jumped a1 σ = some o) : gCV (S := Unit) l yX10_jumped vc_X10_jumped { frames := 1, cells := 0, slots := 0, locals := 23 } (dC, dI) (gTY cI cT cS) sz [.ref (ad 0), .int a1] (Wd 24 (cfR ad cI) σ) (fun (_ : Unit) => True) (fun (_ : Unit) => (Wd 24 (cfR ad cI) o)) 0 0 := by
  refine Met.ofW (cc := cX10_jumped) (maxL := 2) (ret := none) (by decide) rfl ?_
  intro p e s m args below meth c s₁ B hml hv
  obtain ⟨rfl, hsz, hP, hK, hD0⟩ := hv
  have hx := B.exec
  have hb := B.bytes
  have hr := B.returns
  have hts := atoms_spec (ws := vc_X10_jumped) B.pre
  have hown : s.vm.findClass RX10 = some m.cls := findClass_of_methodNamed B.named
  have hlocks := B.notSynchronized
  subst hsz
  have hD := hD0.self (sz := s.heap.size)
  generalize hAe : va_A (Wd 24 (cfR ad cI) σ) s.heap.size = A at hD ⊢
  have hA : ∀ q : Nat, s.heap.size ≤ q → A q := fun q h => by rw [← hAe]; exact Or.inr h
  clear hAe hD0
  refine gstart (fun H locs hHe hLe => ?_)
  have hS : va_S A s.heap H locs := by rw [← hHe, ← hLe]; exact va_S.rf
  replace hP : va_P (dC, dI) vwCl (Wd 24 (cfR ad cI) σ) H := by rw [← hHe]; exact hP
  clear hHe hLe
  have hl := lv_entry ([.ref (ad 0), .int a1]) (n := 2) (Nat.le_of_ble_eq_true rfl)
  rw [lg_entry_eq]
  generalize (lg_sl ([.ref (ad 0), .int a1]) ++ List.replicate (2 - (lg_sl ([.ref (ad 0), .int a1])).length) Slot.unset).toArray = ls at hl ⊢
  replace hl : lv_has ls 2 [(0, .ref (ad 0)), (1, .int a1)] := hl
  unfold zf_X10_jumped at h
  have J22 : ∀ (σb22 : Sg) (H : Heap) (locs : List Loc) (ls : Array Slot), zb_X10_jumped_22 σb22 = some o → va_P (dC, dI) vwCl (Wd 24 (cfR ad cI) σb22) H → va_D A (Wd 24 (cfR ad cI) σb22) → va_S A s.heap H locs → lv_has ls 2 [] → W p l e (headSpec vc_X10_jumped { frames := 1, cells := 0, slots := 0, locals := 23 }).room s m (List.toArray (α := Value) [.ref (ad 0), .int a1]) below meth c H locs 0 0 (MQ below (va_Qv (fun (_ : Unit) => True) (gB (dC, dI) A (fun (_ : Unit) => (Wd 24 (cfR ad cI) o))) A) (List.toArray (α := Value) [.ref (ad 0), .int a1]) s 0 0 A) (F0 m 22 ls []) := by
    intro σb22 H locs ls h hP hD hS hl
    unfold zb_X10_jumped_22 at h
    have h9 := Option.some.inj h
    exact wretv hx hb hr hlocks hP hD hS trivial (by rw [← h9]) dX10_jumped_22
  have J97 : ∀ (σb97 : Sg) (H : Heap) (locs : List Loc) (ls : Array Slot), zb_X10_jumped_97 σb97 = some o → va_P (dC, dI) vwCl (Wd 24 (cfR ad cI) σb97) H → va_D A (Wd 24 (cfR ad cI) σb97) → va_S A s.heap H locs → lv_has ls 2 [] → W p l e (headSpec vc_X10_jumped { frames := 1, cells := 0, slots := 0, locals := 23 }).room s m (List.toArray (α := Value) [.ref (ad 0), .int a1]) below meth c H locs 0 0 (MQ below (va_Qv (fun (_ : Unit) => True) (gB (dC, dI) A (fun (_ : Unit) => (Wd 24 (cfR ad cI) o))) A) (List.toArray (α := Value) [.ref (ad 0), .int a1]) s 0 0 A) (F0 m 97 ls []) := by
    intro σb97 H locs ls h hP hD hS hl
    unfold zb_X10_jumped_97 at h
    have h9 := Option.some.inj h
    exact wretv hx hb hr hlocks hP hD hS trivial (by rw [← h9]) dX10_jumped_97
  refine lv_aload_n hx hb dX10_jumped_0 rfl (lv_at hl 0 rfl) ?_
  refine gf_X10_39 hx hb hts iw_X10_jumped_X10 hown hK hP (hts (.fieldLink RX10 256 "TraceTreesModel" "records" "Z") (List.mem_of_getElem? (i := 1) rfl)) dX10_jumped_1 ?_
  refine lv_if_eq (tgt := 23) hx hb dX10_jumped_4 (by decide) (fun c1 => ?_) (fun c1 => ?_)
  · replace h := ifp (c1) h
    refine lv_aload_n hx hb dX10_jumped_23 rfl (lv_at hl 0 rfl) ?_
    refine gf_X10_23 hx hb hts iw_X10_jumped_X10 hown hK hP (hts (.fieldLink RX10 37 "TraceTreesModel" "heat" "[I") (List.mem_of_getElem? (i := 2) rfl)) dX10_jumped_24 ?_
    refine lv_aload_n hx hb dX10_jumped_27 rfl (lv_at hl 0 rfl) ?_
    refine gf_X10_16 hx hb hts iw_X10_jumped_X10 hown hK hP (hts (.fieldLink RX10 241 "TraceTreesModel" "point" "I") (List.mem_of_getElem? (i := 3) rfl)) dX10_jumped_28 ?_
    refine lv_dup2_11 hx hb dX10_jumped_31 rfl rfl ?_
    obtain ⟨hi2, h⟩ := bd_inv h
    refine wald hx hb hK hP aR10 hi2 dX10_jumped_32 ?_
    refine lv_iconst (v := 1) hx hb dX10_jumped_33 (by decide) ?_
    refine lv_iadd hx hb dX10_jumped_34 ?_
    refine wast hx hb hK hP hD hS aR10 hi2 dX10_jumped_35 (fun H locs hP hD hS => ?_)
    refine lv_iload_n hx hb dX10_jumped_36 rfl (lv_at hl 1 rfl) ?_
    refine lv_if_le (tgt := 97) hx hb dX10_jumped_37 (by decide) (fun c3 => ?_) (fun c3 => ?_)
    · replace h := ifp (c3) h
      exact J97 (su σ 10 (σ 0 16).toNatClampNeg ((σ 10 (σ 0 16).toNatClampNeg) + (1 : Int32))) H locs ls h hP hD hS (lv_sub (l' := []) hl [] rfl)
    · replace h := ifn (c3) h
      refine lv_aload_n hx hb dX10_jumped_40 rfl (lv_at hl 0 rfl) ?_
      refine gf_X10_23 hx hb hts iw_X10_jumped_X10 hown hK hP (hts (.fieldLink RX10 37 "TraceTreesModel" "heat" "[I") (List.mem_of_getElem? (i := 2) rfl)) dX10_jumped_41 ?_
      refine lv_aload_n hx hb dX10_jumped_44 rfl (lv_at hl 0 rfl) ?_
      refine gf_X10_16 hx hb hts iw_X10_jumped_X10 hown hK hP (hts (.fieldLink RX10 241 "TraceTreesModel" "point" "I") (List.mem_of_getElem? (i := 3) rfl)) dX10_jumped_45 ?_
      refine lv_nm (y := (σ 0 16)) (su_rd (by decide) rfl) ?_
      refine wald hx hb hK hP aR10 hi2 dX10_jumped_48 ?_
      refine lv_nm (y := ((σ 10 (σ 0 16).toNatClampNeg) + (1 : Int32))) (su_hit rfl) ?_
      refine lv_iload_n hx hb dX10_jumped_49 rfl (lv_at hl 1 rfl) ?_
      refine lv_icmp_lt (tgt := 97) hx hb dX10_jumped_50 (by decide) (fun c4 => ?_) (fun c4 => ?_)
      · replace h := ifp (c4) h
        exact J97 (su σ 10 (σ 0 16).toNatClampNeg ((σ 10 (σ 0 16).toNatClampNeg) + (1 : Int32))) H locs ls h hP hD hS (lv_sub (l' := []) hl [] rfl)
      · replace h := ifn (c4) h
        refine lv_aload_n hx hb dX10_jumped_53 rfl (lv_at hl 0 rfl) ?_
        refine gf_X10_24 hx hb hts iw_X10_jumped_X10 hown hK hP (hts (.fieldLink RX10 40 "TraceTreesModel" "dropsOf" "[I") (List.mem_of_getElem? (i := 4) rfl)) dX10_jumped_54 ?_
        refine lv_aload_n hx hb dX10_jumped_57 rfl (lv_at hl 0 rfl) ?_
        refine gf_X10_16 hx hb hts iw_X10_jumped_X10 hown hK hP (hts (.fieldLink RX10 241 "TraceTreesModel" "point" "I") (List.mem_of_getElem? (i := 3) rfl)) dX10_jumped_58 ?_
        refine lv_nm (y := (σ 0 16)) (su_rd (by decide) rfl) ?_
        refine wald hx hb hK hP aR11 hi2 dX10_jumped_61 ?_
        refine lv_nm (y := (σ 11 (σ 0 16).toNatClampNeg)) (su_rd (by decide) rfl) ?_
        refine lv_iconst (v := 2) hx hb dX10_jumped_62 (by decide) ?_
        refine lv_icmp_ge (tgt := 97) hx hb dX10_jumped_63 (by decide) (fun c5 => ?_) (fun c5 => ?_)
        · replace h := ifp (c5) h
          exact J97 (su σ 10 (σ 0 16).toNatClampNeg ((σ 10 (σ 0 16).toNatClampNeg) + (1 : Int32))) H locs ls h hP hD hS (lv_sub (l' := []) hl [] rfl)
        · replace h := ifn (c5) h
          refine lv_aload_n hx hb dX10_jumped_66 rfl (lv_at hl 0 rfl) ?_
          refine lv_aload_n hx hb dX10_jumped_67 rfl (lv_at hl 0 rfl) ?_
          refine gf_X10_16 hx hb hts iw_X10_jumped_X10 hown hK hP (hts (.fieldLink RX10 241 "TraceTreesModel" "point" "I") (List.mem_of_getElem? (i := 3) rfl)) dX10_jumped_68 ?_
          refine lv_nm (y := (σ 0 16)) (su_rd (by decide) rfl) ?_
          obtain ⟨r6, hc6, h⟩ := obd_inv h
          refine wcalli (S := Unit) (va_runV (As := [.int (σ 0 16)]) (rest := []) ⟨hx, hb, hml, hown, hts⟩ (c_X10_rootOf l dC dI cI cT cS H.size ad  (σ 0 16) (su σ 10 (σ 0 16).toNatClampNeg ((σ 10 (σ 0 16).toNatClampNeg) + (1 : Int32))) _ hc6) (cwV 1 hts (gWV (List.mem_of_getElem? (i := 5) rfl) (List.mem_of_getElem? (i := 6) rfl) (List.mem_of_getElem? (i := 7) rfl) (List.mem_of_getElem? (i := 8) rfl) ic_X10_jumped_c_X10_rootOf gd_c_X10_rootOf) rfl rfl rfl (by decide +kernel) ⟨(Nat.le_of_ble_eq_true rfl), (Nat.le_of_ble_eq_true rfl)⟩) (wpV (q := (RX10, TX10, 46)) hP hK hD oX10 rfl) rfl rfl hl.1 rfl (lv_room (Nat.le_of_ble_eq_true rfl)) dX10_jumped_71 ⟨(Nat.le_of_ble_eq_true rfl), (Nat.le_of_ble_eq_true rfl)⟩) hP hD hS hA (fun rr7 _ H locs hr7 hP hD hS => ?_)
          refine lv_nm (y := r6) hr7 ?_
          refine lv_iconst (v := (-1)) hx hb dX10_jumped_74 (by decide) ?_
          refine lv_icmp_ne (tgt := 97) hx hb dX10_jumped_75 (by decide) (fun c8 => ?_) (fun c8 => ?_)
          · replace h := ifn (c8) h
            exact J97 (su σ 10 (σ 0 16).toNatClampNeg ((σ 10 (σ 0 16).toNatClampNeg) + (1 : Int32))) H locs ls h hP hD hS (lv_sub (l' := []) hl [] rfl)
          · replace h := ifp (c8) h
            refine lv_aload_n hx hb dX10_jumped_78 rfl (lv_at hl 0 rfl) ?_
            refine gf_X10_25 hx hb hts iw_X10_jumped_X10 hown hK hP (hts (.fieldLink RX10 253 "TraceTreesModel" "traces" "I") (List.mem_of_getElem? (i := 9) rfl)) dX10_jumped_79 ?_
            refine lv_nm (y := (σ 0 25)) (su_rd (by decide) rfl) ?_
            refine lv_bipush (v := 8) hx hb dX10_jumped_82 (by decide) ?_
            refine lv_icmp_ge (tgt := 97) hx hb dX10_jumped_84 (by decide) (fun c9 => ?_) (fun c9 => ?_)
            · replace h := ifp (c9) h
              exact J97 (su σ 10 (σ 0 16).toNatClampNeg ((σ 10 (σ 0 16).toNatClampNeg) + (1 : Int32))) H locs ls h hP hD hS (lv_sub (l' := []) hl [] rfl)
            · replace h := ifn (c9) h
              refine lv_aload_n hx hb dX10_jumped_87 rfl (lv_at hl 0 rfl) ?_
              refine lv_aload_n hx hb dX10_jumped_88 rfl (lv_at hl 0 rfl) ?_
              refine gf_X10_16 hx hb hts iw_X10_jumped_X10 hown hK hP (hts (.fieldLink RX10 241 "TraceTreesModel" "point" "I") (List.mem_of_getElem? (i := 3) rfl)) dX10_jumped_89 ?_
              refine lv_nm (y := (σ 0 16)) (su_rd (by decide) rfl) ?_
              refine lv_iconst (v := (-1)) hx hb dX10_jumped_92 (by decide) ?_
              refine lv_iconst (v := (-1)) hx hb dX10_jumped_93 (by decide) ?_
              obtain ⟨q10, hc10, h⟩ := letb_inv h
              refine wcallv (S := Unit) (va_runV (As := [.int (σ 0 16), .int (-1 : Int32), .int (-1 : Int32)]) (rest := []) ⟨hx, hb, hml, hown, hts⟩ (c_X10_begins l dC dI cI cT cS H.size ad  (σ 0 16) (-1 : Int32) (-1 : Int32) (su σ 10 (σ 0 16).toNatClampNeg ((σ 10 (σ 0 16).toNatClampNeg) + (1 : Int32))) _ hc10) (cwV 3 hts (gWV (List.mem_of_getElem? (i := 10) rfl) (List.mem_of_getElem? (i := 11) rfl) (List.mem_of_getElem? (i := 12) rfl) (List.mem_of_getElem? (i := 8) rfl) ic_X10_jumped_c_X10_begins gd_c_X10_begins) rfl rfl rfl (by decide +kernel) ⟨(Nat.le_of_ble_eq_true rfl), (Nat.le_of_ble_eq_true rfl)⟩) (wpV (q := (RX10, TX10, 46)) hP hK hD oX10 rfl) rfl rfl hl.1 rfl (lv_room (Nat.le_of_ble_eq_true rfl)) dX10_jumped_94 ⟨(Nat.le_of_ble_eq_true rfl), (Nat.le_of_ble_eq_true rfl)⟩) hP hD hS hA (fun _ H locs hr11 hP hD hS => ?_)
              replace hP : va_P (dC, dI) vwCl (Wd 24 (cfR ad cI) q10) H := hP
              replace hD : va_D A (Wd 24 (cfR ad cI) q10) := hD
              exact J97 q10 H locs ls h hP hD hS (lv_sub (l' := []) hl [] rfl)
  · replace h := ifn (c1) h
    refine lv_aload_n hx hb dX10_jumped_7 rfl (lv_at hl 0 rfl) ?_
    refine gf_X10_16 hx hb hts iw_X10_jumped_X10 hown hK hP (hts (.fieldLink RX10 241 "TraceTreesModel" "point" "I") (List.mem_of_getElem? (i := 3) rfl)) dX10_jumped_8 ?_
    refine lv_aload_n hx hb dX10_jumped_11 rfl (lv_at hl 0 rfl) ?_
    refine gf_X10_40 hx hb hts iw_X10_jumped_X10 hown hK hP (hts (.fieldLink RX10 259 "TraceTreesModel" "headNow" "I") (List.mem_of_getElem? (i := 13) rfl)) dX10_jumped_12 ?_
    refine lv_icmp_eq (tgt := 22) hx hb dX10_jumped_15 (by decide) (fun c12 => ?_) (fun c12 => ?_)
    · replace h := ifp (c12) h
      exact J22 σ H locs ls h hP hD hS (lv_sub (l' := []) hl [] rfl)
    · replace h := ifn (c12) h
      refine lv_aload_n hx hb dX10_jumped_18 rfl (lv_at hl 0 rfl) ?_
      obtain ⟨σ13, hc13, h⟩ := obd_inv h
      refine wcallv (S := Unit) (va_runV (As := []) (rest := []) ⟨hx, hb, hml, hown, hts⟩ (c_X10_lets l dC dI cI cT cS H.size ad   σ _ hc13) (cwV 0 hts (gWV (List.mem_of_getElem? (i := 14) rfl) (List.mem_of_getElem? (i := 15) rfl) (List.mem_of_getElem? (i := 16) rfl) (List.mem_of_getElem? (i := 8) rfl) ic_X10_jumped_c_X10_lets gd_c_X10_lets) rfl rfl rfl (by decide +kernel) ⟨(Nat.le_of_ble_eq_true rfl), (Nat.le_of_ble_eq_true rfl)⟩) (wpV (q := (RX10, TX10, 46)) hP hK hD oX10 rfl) rfl rfl hl.1 rfl (lv_room (Nat.le_of_ble_eq_true rfl)) dX10_jumped_19 ⟨(Nat.le_of_ble_eq_true rfl), (Nat.le_of_ble_eq_true rfl)⟩) hP hD hS hA (fun _ H locs hr14 hP hD hS => ?_)
      replace hP : va_P (dC, dI) vwCl (Wd 24 (cfR ad cI) σ13) H := hP
      replace hD : va_D A (Wd 24 (cfR ad cI) σ13) := hD
      exact J22 σ13 H locs ls h hP hD hS (lv_sub (l' := []) hl [] rfl)
def zb_X10_goesPlain_76 (σb76 : Sg) : Option (Sg) := some σb76
def zb_X10_goesPlain_21 (a1 : Int32) (v2_21 : Int32) (σb21 : Sg) : Option (Sg) := obd (zf_X10_applies (su σb21 0 44 (0 : Int32))) (fun σ7 => bd ((4 : Int32) * v2_21) 96 ((if (σ7 5 ((4 : Int32) * v2_21).toNatClampNeg) = (9 : Int32) then (zb_X10_goesPlain_76 (su (su σ7 0 22 (0 : Int32)) 0 21 (1 : Int32))) else (if (σ7 0 15) = 0 then (zb_X10_goesPlain_76 σ7) else (if v2_21 < (σ7 0 16) then (zb_X10_goesPlain_76 σ7) else obd (zf_X10_jumped a1 σ7) (fun σ13 => (zb_X10_goesPlain_76 σ13)))))))
def zf_X10_goesPlain (a1 : Int32) (σ : Sg) : Option (Sg) := letb (σ 0 16) (fun e1 => obd (zf_X10_prepares e1 σ) (fun σ2 => (if (σ2 0 39) = 0 then (zb_X10_goesPlain_21 a1 e1 σ2) else obd (zf_X10_notes σ2) (fun σ5 => (zb_X10_goesPlain_21 a1 e1 σ5)))))
def oc_X10_goesPlain : List Cond := [.fieldLink RX10 241 "TraceTreesModel" "point" "I", .methodLink RX10 310 yX10_prepares, .instanceMethod yX10_prepares, .selects RX10 yX10_prepares yX10_prepares, .initialized RX10, .fieldLink RX10 256 "TraceTreesModel" "records" "Z", .methodLink RX10 313 yX10_notes, .instanceMethod yX10_notes, .selects RX10 yX10_notes yX10_notes, .fieldLink RX10 301 "TraceTreesModel" "skips" "Z", .methodLink RX10 304 yX10_applies, .instanceMethod yX10_applies, .selects RX10 yX10_applies yX10_applies, .fieldLink RX10 22 "TraceTreesModel" "code" "[I", .fieldLink RX10 218 "TraceTreesModel" "jumps" "Z", .methodLink RX10 322 yX10_jumped, .instanceMethod yX10_jumped, .selects RX10 yX10_jumped yX10_jumped, .fieldLink RX10 316 "TraceTreesModel" "going" "Z", .fieldLink RX10 319 "TraceTreesModel" "end" "I"]
def vc_X10_goesPlain : List Cond := .code yX10_goesPlain cX10_goesPlain 3 none :: (oc_X10_goesPlain ++ (wsX100 ++ (vc_X10_prepares ++ (vc_X10_notes ++ (vc_X10_applies ++ (vc_X10_jumped))))))
theorem iw_X10_goesPlain_X10 : ∀ w ∈ wsX100, w ∈ vc_X10_goesPlain := fun _ h => List.mem_cons_of_mem _ (List.mem_append_right _ (List.mem_append_left _ h))
theorem ic_X10_goesPlain_c_X10_prepares : ∀ w ∈ vc_X10_prepares, w ∈ vc_X10_goesPlain := fun _ h => List.mem_cons_of_mem _ (List.mem_append_right _ (List.mem_append_right _ (List.mem_append_left _ h)))
theorem ic_X10_goesPlain_c_X10_notes : ∀ w ∈ vc_X10_notes, w ∈ vc_X10_goesPlain := fun _ h => List.mem_cons_of_mem _ (List.mem_append_right _ (List.mem_append_right _ (List.mem_append_right _ (List.mem_append_left _ h))))
theorem ic_X10_goesPlain_c_X10_applies : ∀ w ∈ vc_X10_applies, w ∈ vc_X10_goesPlain := fun _ h => List.mem_cons_of_mem _ (List.mem_append_right _ (List.mem_append_right _ (List.mem_append_right _ (List.mem_append_right _ (List.mem_append_left _ h)))))
theorem ic_X10_goesPlain_c_X10_jumped : ∀ w ∈ vc_X10_jumped, w ∈ vc_X10_goesPlain := fun _ h => List.mem_cons_of_mem _ (List.mem_append_right _ (List.mem_append_right _ (List.mem_append_right _ (List.mem_append_right _ (List.mem_append_right _ (h))))))
theorem gd_c_X10_goesPlain : (vc_X10_goesPlain).all goodWord = true := gall_cons rfl (gall_app (by decide +kernel) (gall_app gw_X10 (gall_app gd_c_X10_prepares (gall_app gd_c_X10_notes (gall_app gd_c_X10_applies gd_c_X10_jumped)))))
set_option maxHeartbeats 4000000 in
set_option maxRecDepth 100000 in
theorem c_X10_goesPlain (l : Launch) (dC : Nat → ClassId) (dI : Nat → Nat → Nat) (cI cT cS : ClassId) (sz : Nat) (ad : Nat → Nat) (a1 : Int32) (σ : Sg) (o : Sg) (h : zf_X10_goesPlain a1 σ = some o) : gCV (S := Unit) l yX10_goesPlain vc_X10_goesPlain { frames := 6, cells := 0, slots := 0, locals := 159 } (dC, dI) (gTY cI cT cS) sz [.ref (ad 0), .int a1] (Wd 24 (cfR ad cI) σ) (fun (_ : Unit) => True) (fun (_ : Unit) => (Wd 24 (cfR ad cI) o)) 0 0 := by
  refine Met.ofW (cc := cX10_goesPlain) (maxL := 3) (ret := none) (by decide) rfl ?_
  intro p e s m args below meth c s₁ B hml hv
  obtain ⟨rfl, hsz, hP, hK, hD0⟩ := hv
  have hx := B.exec
  have hb := B.bytes
  have hr := B.returns
  have hts := atoms_spec (ws := vc_X10_goesPlain) B.pre
  have hown : s.vm.findClass RX10 = some m.cls := findClass_of_methodNamed B.named
  have hlocks := B.notSynchronized
  subst hsz
  have hD := hD0.self (sz := s.heap.size)
  generalize hAe : va_A (Wd 24 (cfR ad cI) σ) s.heap.size = A at hD ⊢
  have hA : ∀ q : Nat, s.heap.size ≤ q → A q := fun q h => by rw [← hAe]; exact Or.inr h
  clear hAe hD0
  refine gstart (fun H locs hHe hLe => ?_)
  have hS : va_S A s.heap H locs := by rw [← hHe, ← hLe]; exact va_S.rf
  replace hP : va_P (dC, dI) vwCl (Wd 24 (cfR ad cI) σ) H := by rw [← hHe]; exact hP
  clear hHe hLe
  have hl := lv_entry ([.ref (ad 0), .int a1]) (n := 3) (Nat.le_of_ble_eq_true rfl)
  rw [lg_entry_eq]
  generalize (lg_sl ([.ref (ad 0), .int a1]) ++ List.replicate (3 - (lg_sl ([.ref (ad 0), .int a1])).length) Slot.unset).toArray = ls at hl ⊢
  replace hl : lv_has ls 3 [(0, .ref (ad 0)), (1, .int a1)] := hl
  unfold zf_X10_goesPlain at h
  have J76 : ∀ (σb76 : Sg) (H : Heap) (locs : List Loc) (ls : Array Slot), zb_X10_goesPlain_76 σb76 = some o → va_P (dC, dI) vwCl (Wd 24 (cfR ad cI) σb76) H → va_D A (Wd 24 (cfR ad cI) σb76) → va_S A s.heap H locs → lv_has ls 3 [] → W p l e (headSpec vc_X10_goesPlain { frames := 6, cells := 0, slots := 0, locals := 159 }).room s m (List.toArray (α := Value) [.ref (ad 0), .int a1]) below meth c H locs 0 0 (MQ below (va_Qv (fun (_ : Unit) => True) (gB (dC, dI) A (fun (_ : Unit) => (Wd 24 (cfR ad cI) o))) A) (List.toArray (α := Value) [.ref (ad 0), .int a1]) s 0 0 A) (F0 m 76 ls []) := by
    intro σb76 H locs ls h hP hD hS hl
    unfold zb_X10_goesPlain_76 at h
    have h9 := Option.some.inj h
    exact wretv hx hb hr hlocks hP hD hS trivial (by rw [← h9]) dX10_goesPlain_76
  have J21 : ∀ (v2_21 : Int32) (σb21 : Sg) (H : Heap) (locs : List Loc) (ls : Array Slot), zb_X10_goesPlain_21 a1 v2_21 σb21 = some o → va_P (dC, dI) vwCl (Wd 24 (cfR ad cI) σb21) H → va_D A (Wd 24 (cfR ad cI) σb21) → va_S A s.heap H locs → lv_has ls 3 [(2, .int v2_21), (0, .ref (ad 0)), (1, .int a1)] → W p l e (headSpec vc_X10_goesPlain { frames := 6, cells := 0, slots := 0, locals := 159 }).room s m (List.toArray (α := Value) [.ref (ad 0), .int a1]) below meth c H locs 0 0 (MQ below (va_Qv (fun (_ : Unit) => True) (gB (dC, dI) A (fun (_ : Unit) => (Wd 24 (cfR ad cI) o))) A) (List.toArray (α := Value) [.ref (ad 0), .int a1]) s 0 0 A) (F0 m 21 ls []) := by
    intro v2_21 σb21 H locs ls h hP hD hS hl
    unfold zb_X10_goesPlain_21 at h
    refine lv_aload_n hx hb dX10_goesPlain_21 rfl (lv_at hl 1 rfl) ?_
    refine lv_iconst (v := 0) hx hb dX10_goesPlain_22 (by decide) ?_
    refine pf_X10_44 (Or.inl rfl) hx hb hts iw_X10_goesPlain_X10 hown hK hP hD hS (hts (.fieldLink RX10 301 "TraceTreesModel" "skips" "Z") (List.mem_of_getElem? (i := 10) rfl)) dX10_goesPlain_23 (fun H locs hP hD hS => ?_)
    refine lv_aload_n hx hb dX10_goesPlain_26 rfl (lv_at hl 1 rfl) ?_
    obtain ⟨σ7, hc7, h⟩ := obd_inv h
    refine wcallv (S := Unit) (va_runV (As := []) (rest := []) ⟨hx, hb, hml, hown, hts⟩ (c_X10_applies l dC dI cI cT cS H.size ad   (su σb21 0 44 (0 : Int32)) _ hc7) (cwV 0 hts (gWV (List.mem_of_getElem? (i := 11) rfl) (List.mem_of_getElem? (i := 12) rfl) (List.mem_of_getElem? (i := 13) rfl) (List.mem_of_getElem? (i := 5) rfl) ic_X10_goesPlain_c_X10_applies gd_c_X10_applies) rfl rfl rfl (by decide +kernel) ⟨(Nat.le_of_ble_eq_true rfl), (Nat.le_of_ble_eq_true rfl)⟩) (wpV (q := (RX10, TX10, 46)) hP hK hD oX10 rfl) rfl rfl hl.1 rfl (lv_room (Nat.le_of_ble_eq_true rfl)) dX10_goesPlain_27 ⟨(Nat.le_of_ble_eq_true rfl), (Nat.le_of_ble_eq_true rfl)⟩) hP hD hS hA (fun _ H locs hr8 hP hD hS => ?_)
    replace hP : va_P (dC, dI) vwCl (Wd 24 (cfR ad cI) σ7) H := hP
    replace hD : va_D A (Wd 24 (cfR ad cI) σ7) := hD
    refine lv_aload_n hx hb dX10_goesPlain_30 rfl (lv_at hl 1 rfl) ?_
    refine gf_X10_6 hx hb hts iw_X10_goesPlain_X10 hown hK hP (hts (.fieldLink RX10 22 "TraceTreesModel" "code" "[I") (List.mem_of_getElem? (i := 14) rfl)) dX10_goesPlain_31 ?_
    refine lv_iconst (v := 4) hx hb dX10_goesPlain_34 (by decide) ?_
    refine lv_iload_n hx hb dX10_goesPlain_35 rfl (lv_at hl 0 rfl) ?_
    refine lv_imul hx hb dX10_goesPlain_36 ?_
    obtain ⟨hi9, h⟩ := bd_inv h
    refine wald hx hb hK hP aR5 hi9 dX10_goesPlain_37 ?_
    refine lv_bipush (v := 9) hx hb dX10_goesPlain_38 (by decide) ?_
    refine lv_icmp_ne (tgt := 56) hx hb dX10_goesPlain_40 (by decide) (fun c10 => ?_) (fun c10 => ?_)
    · replace h := ifn (c10) h
      refine lv_aload_n hx hb dX10_goesPlain_56 rfl (lv_at hl 1 rfl) ?_
      refine gf_X10_15 hx hb hts iw_X10_goesPlain_X10 hown hK hP (hts (.fieldLink RX10 218 "TraceTreesModel" "jumps" "Z") (List.mem_of_getElem? (i := 15) rfl)) dX10_goesPlain_57 ?_
      refine lv_if_eq (tgt := 76) hx hb dX10_goesPlain_60 (by decide) (fun c11 => ?_) (fun c11 => ?_)
      · replace h := ifp (c11) h
        exact J76 σ7 H locs ls h hP hD hS (lv_sub (l' := []) hl [] rfl)
      · replace h := ifn (c11) h
        refine lv_aload_n hx hb dX10_goesPlain_63 rfl (lv_at hl 1 rfl) ?_
        refine gf_X10_16 hx hb hts iw_X10_goesPlain_X10 hown hK hP (hts (.fieldLink RX10 241 "TraceTreesModel" "point" "I") (List.mem_of_getElem? (i := 1) rfl)) dX10_goesPlain_64 ?_
        refine lv_iload_n hx hb dX10_goesPlain_67 rfl (lv_at hl 0 rfl) ?_
        refine lv_icmp_gt (tgt := 76) hx hb dX10_goesPlain_68 (by decide) (fun c12 => ?_) (fun c12 => ?_)
        · replace h := ifp (c12) h
          exact J76 σ7 H locs ls h hP hD hS (lv_sub (l' := []) hl [] rfl)
        · replace h := ifn (c12) h
          refine lv_aload_n hx hb dX10_goesPlain_71 rfl (lv_at hl 1 rfl) ?_
          refine lv_iload_n hx hb dX10_goesPlain_72 rfl (lv_at hl 2 rfl) ?_
          obtain ⟨σ13, hc13, h⟩ := obd_inv h
          refine wcallv (S := Unit) (va_runV (As := [.int a1]) (rest := []) ⟨hx, hb, hml, hown, hts⟩ (c_X10_jumped l dC dI cI cT cS H.size ad  a1 σ7 _ hc13) (cwV 1 hts (gWV (List.mem_of_getElem? (i := 16) rfl) (List.mem_of_getElem? (i := 17) rfl) (List.mem_of_getElem? (i := 18) rfl) (List.mem_of_getElem? (i := 5) rfl) ic_X10_goesPlain_c_X10_jumped gd_c_X10_jumped) rfl rfl rfl (by decide +kernel) ⟨(Nat.le_of_ble_eq_true rfl), (Nat.le_of_ble_eq_true rfl)⟩) (wpV (q := (RX10, TX10, 46)) hP hK hD oX10 rfl) rfl rfl hl.1 rfl (lv_room (Nat.le_of_ble_eq_true rfl)) dX10_goesPlain_73 ⟨(Nat.le_of_ble_eq_true rfl), (Nat.le_of_ble_eq_true rfl)⟩) hP hD hS hA (fun _ H locs hr14 hP hD hS => ?_)
          replace hP : va_P (dC, dI) vwCl (Wd 24 (cfR ad cI) σ13) H := hP
          replace hD : va_D A (Wd 24 (cfR ad cI) σ13) := hD
          exact J76 σ13 H locs ls h hP hD hS (lv_sub (l' := []) hl [] rfl)
    · replace h := ifp (c10) h
      refine lv_aload_n hx hb dX10_goesPlain_43 rfl (lv_at hl 1 rfl) ?_
      refine lv_iconst (v := 0) hx hb dX10_goesPlain_44 (by decide) ?_
      refine pf_X10_22 (Or.inl rfl) hx hb hts iw_X10_goesPlain_X10 hown hK hP hD hS (hts (.fieldLink RX10 316 "TraceTreesModel" "going" "Z") (List.mem_of_getElem? (i := 19) rfl)) dX10_goesPlain_45 (fun H locs hP hD hS => ?_)
      refine lv_aload_n hx hb dX10_goesPlain_48 rfl (lv_at hl 1 rfl) ?_
      refine lv_iconst (v := 1) hx hb dX10_goesPlain_49 (by decide) ?_
      refine pf_X10_21 hx hb hts iw_X10_goesPlain_X10 hown hK hP hD hS (hts (.fieldLink RX10 319 "TraceTreesModel" "end" "I") (List.mem_of_getElem? (i := 20) rfl)) dX10_goesPlain_50 (fun H locs hP hD hS => ?_)
      refine lv_goto (tgt := 76) hx hb dX10_goesPlain_53 (by decide) ?_
      exact J76 (su (su σ7 0 22 (0 : Int32)) 0 21 (1 : Int32)) H locs ls h hP hD hS (lv_sub (l' := []) hl [] rfl)
  refine lv_aload_n hx hb dX10_goesPlain_0 rfl (lv_at hl 0 rfl) ?_
  refine gf_X10_16 hx hb hts iw_X10_goesPlain_X10 hown hK hP (hts (.fieldLink RX10 241 "TraceTreesModel" "point" "I") (List.mem_of_getElem? (i := 1) rfl)) dX10_goesPlain_1 ?_
  obtain ⟨e1, he1, h⟩ := letb_inv h
  refine lv_nm he1 ?_
  refine lv_istore_n (lv' := [(2, .int e1), (0, .ref (ad 0)), (1, .int a1)]) hx hb dX10_goesPlain_4 rfl hl (by decide) rfl (fun ls hl => ?_)
  refine lv_aload_n hx hb dX10_goesPlain_5 rfl (lv_at hl 1 rfl) ?_
  refine lv_iload_n hx hb dX10_goesPlain_6 rfl (lv_at hl 0 rfl) ?_
  obtain ⟨σ2, hc2, h⟩ := obd_inv h
  refine wcallv (S := Unit) (va_runV (As := [.int e1]) (rest := []) ⟨hx, hb, hml, hown, hts⟩ (c_X10_prepares l dC dI cI cT cS H.size ad  e1 σ _ hc2) (cwV 1 hts (gWV (List.mem_of_getElem? (i := 2) rfl) (List.mem_of_getElem? (i := 3) rfl) (List.mem_of_getElem? (i := 4) rfl) (List.mem_of_getElem? (i := 5) rfl) ic_X10_goesPlain_c_X10_prepares gd_c_X10_prepares) rfl rfl rfl (by decide +kernel) ⟨(Nat.le_of_ble_eq_true rfl), (Nat.le_of_ble_eq_true rfl)⟩) (wpV (q := (RX10, TX10, 46)) hP hK hD oX10 rfl) rfl rfl hl.1 rfl (lv_room (Nat.le_of_ble_eq_true rfl)) dX10_goesPlain_7 ⟨(Nat.le_of_ble_eq_true rfl), (Nat.le_of_ble_eq_true rfl)⟩) hP hD hS hA (fun _ H locs hr3 hP hD hS => ?_)
  replace hP : va_P (dC, dI) vwCl (Wd 24 (cfR ad cI) σ2) H := hP
  replace hD : va_D A (Wd 24 (cfR ad cI) σ2) := hD
  refine lv_aload_n hx hb dX10_goesPlain_10 rfl (lv_at hl 1 rfl) ?_
  refine gf_X10_39 hx hb hts iw_X10_goesPlain_X10 hown hK hP (hts (.fieldLink RX10 256 "TraceTreesModel" "records" "Z") (List.mem_of_getElem? (i := 6) rfl)) dX10_goesPlain_11 ?_
  refine lv_if_eq (tgt := 21) hx hb dX10_goesPlain_14 (by decide) (fun c4 => ?_) (fun c4 => ?_)
  · replace h := ifp (c4) h
    exact J21 e1 σ2 H locs ls h hP hD hS (lv_sub (l' := [(2, .int e1), (0, .ref (ad 0)), (1, .int a1)]) hl [0, 1, 2] rfl)
  · replace h := ifn (c4) h
    refine lv_aload_n hx hb dX10_goesPlain_17 rfl (lv_at hl 1 rfl) ?_
    obtain ⟨σ5, hc5, h⟩ := obd_inv h
    refine wcallv (S := Unit) (va_runV (As := []) (rest := []) ⟨hx, hb, hml, hown, hts⟩ (c_X10_notes l dC dI cI cT cS H.size ad   σ2 _ hc5) (cwV 0 hts (gWV (List.mem_of_getElem? (i := 7) rfl) (List.mem_of_getElem? (i := 8) rfl) (List.mem_of_getElem? (i := 9) rfl) (List.mem_of_getElem? (i := 5) rfl) ic_X10_goesPlain_c_X10_notes gd_c_X10_notes) rfl rfl rfl (by decide +kernel) ⟨(Nat.le_of_ble_eq_true rfl), (Nat.le_of_ble_eq_true rfl)⟩) (wpV (q := (RX10, TX10, 46)) hP hK hD oX10 rfl) rfl rfl hl.1 rfl (lv_room (Nat.le_of_ble_eq_true rfl)) dX10_goesPlain_18 ⟨(Nat.le_of_ble_eq_true rfl), (Nat.le_of_ble_eq_true rfl)⟩) hP hD hS hA (fun _ H locs hr6 hP hD hS => ?_)
    replace hP : va_P (dC, dI) vwCl (Wd 24 (cfR ad cI) σ5) H := hP
    replace hD : va_D A (Wd 24 (cfR ad cI) σ5) := hD
    exact J21 e1 σ5 H locs ls h hP hD hS (lv_sub (l' := [(2, .int e1), (0, .ref (ad 0)), (1, .int a1)]) hl [0, 1, 2] rfl)
def zb_X10_step_117 (v2_117 : Bool) (σb117 : Sg) : Option (Bool × (Bool × Sg)) := some (true, (v2_117, σb117))
def zb_X10_step_100 (a1 : Int32) (w0_100 : Bool) (σb100 : Sg) : Option (Bool × (Bool × Sg)) := (if w0_100 = true then obd (zf_X10_goesCompiled σb100) (fun σ24 => (zb_X10_step_117 w0_100 σ24)) else obd (zf_X10_leaves a1 σb100) (fun σ22 => (zb_X10_step_117 w0_100 σ22)))
def zb_X10_step_62 (a1 : Int32) (σb62 : Sg) : Option (Bool × (Bool × Sg)) := (if (σb62 0 37) = (-1 : Int32) then obd (zf_X10_goesPlain a1 σb62) (fun σ19 => (zb_X10_step_117 true σ19)) else obd (zf_X10_prepares (σb62 0 16) σb62) (fun σ14 => obd (zf_X10_fails σ14) (fun r16 => (if r16 = true then (zb_X10_step_100 a1 false σ14) else (zb_X10_step_100 a1 true σ14)))))
def zb_X10_step_51 (a1 : Int32) (w0_51 : Int32) (σb51 : Sg) : Option (Bool × (Bool × Sg)) := (if w0_51 = (-1 : Int32) then (zb_X10_step_62 a1 σb51) else obd (zf_X10_enters w0_51 σb51) (fun σ11 => (zb_X10_step_62 a1 σ11)))
def zb_X10_step_39 (a1 : Int32) (σb39 : Sg) : Option (Bool × (Bool × Sg)) := (zb_X10_step_51 a1 (-1 : Int32) σb39)
def zb_X10_step_17 (a1 : Int32) (σb17 : Sg) : Option (Bool × (Bool × Sg)) := (if (σb17 0 39) = 0 then (if (σb17 0 37) = (-1 : Int32) then (if (σb17 0 44) = 0 then obd (zf_X10_rootOf (σb17 0 16) σb17) (fun r8 => (zb_X10_step_51 a1 r8 σb17)) else (zb_X10_step_39 a1 σb17)) else (zb_X10_step_39 a1 σb17)) else (zb_X10_step_39 a1 σb17))
def zl_X10_step_2 (a1 : Int32) (x2 : Bool × Sg) : Option (Bool × (Bool × Sg)) := (if x2.1 = true then some (false, (x2.1, x2.2)) else (if (x2.2 0 39) = 0 then (zb_X10_step_17 a1 x2.2) else obd (zf_X10_aheadOfStep x2.2) (fun σ3 => (zb_X10_step_17 a1 σ3))))
def zf_X10_step (a1 : Int32) (σ : Sg) : Option (Sg) := obd (lp (X := Bool × Sg) (zl_X10_step_2 a1) 1000 (false, σ)) (fun y2 => some y2.2)
def oc_X10_step : List Cond := [.fieldLink RX10 256 "TraceTreesModel" "records" "Z", .methodLink RX10 325 yX10_aheadOfStep, .instanceMethod yX10_aheadOfStep, .selects RX10 yX10_aheadOfStep yX10_aheadOfStep, .initialized RX10, .fieldLink RX10 286 "TraceTreesModel" "trace" "I", .fieldLink RX10 301 "TraceTreesModel" "skips" "Z", .fieldLink RX10 241 "TraceTreesModel" "point" "I", .methodLink RX10 277 yX10_rootOf, .instanceMethod yX10_rootOf, .selects RX10 yX10_rootOf yX10_rootOf, .methodLink RX10 295 yX10_enters, .instanceMethod yX10_enters, .selects RX10 yX10_enters yX10_enters, .methodLink RX10 310 yX10_prepares, .instanceMethod yX10_prepares, .selects RX10 yX10_prepares yX10_prepares, .methodLink RX10 331 yX10_fails, .instanceMethod yX10_fails, .selects RX10 yX10_fails yX10_fails, .methodLink RX10 328 yX10_goesPlain, .instanceMethod yX10_goesPlain, .selects RX10 yX10_goesPlain yX10_goesPlain, .methodLink RX10 338 yX10_leaves, .instanceMethod yX10_leaves, .selects RX10 yX10_leaves yX10_leaves, .methodLink RX10 335 yX10_goesCompiled, .instanceMethod yX10_goesCompiled, .selects RX10 yX10_goesCompiled yX10_goesCompiled]
def vc_X10_step : List Cond := .code yX10_step cX10_step 4 none :: (oc_X10_step ++ (wsX100 ++ (vc_X10_aheadOfStep ++ (vc_X10_rootOf ++ (vc_X10_enters ++ (vc_X10_prepares ++ (vc_X10_fails ++ (vc_X10_goesPlain ++ (vc_X10_leaves ++ (vc_X10_goesCompiled))))))))))
theorem iw_X10_step_X10 : ∀ w ∈ wsX100, w ∈ vc_X10_step := fun _ h => List.mem_cons_of_mem _ (List.mem_append_right _ (List.mem_append_left _ h))
theorem ic_X10_step_c_X10_aheadOfStep : ∀ w ∈ vc_X10_aheadOfStep, w ∈ vc_X10_step := fun _ h => List.mem_cons_of_mem _ (List.mem_append_right _ (List.mem_append_right _ (List.mem_append_left _ h)))
theorem ic_X10_step_c_X10_rootOf : ∀ w ∈ vc_X10_rootOf, w ∈ vc_X10_step := fun _ h => List.mem_cons_of_mem _ (List.mem_append_right _ (List.mem_append_right _ (List.mem_append_right _ (List.mem_append_left _ h))))
theorem ic_X10_step_c_X10_enters : ∀ w ∈ vc_X10_enters, w ∈ vc_X10_step := fun _ h => List.mem_cons_of_mem _ (List.mem_append_right _ (List.mem_append_right _ (List.mem_append_right _ (List.mem_append_right _ (List.mem_append_left _ h)))))
theorem ic_X10_step_c_X10_prepares : ∀ w ∈ vc_X10_prepares, w ∈ vc_X10_step := fun _ h => List.mem_cons_of_mem _ (List.mem_append_right _ (List.mem_append_right _ (List.mem_append_right _ (List.mem_append_right _ (List.mem_append_right _ (List.mem_append_left _ h))))))
theorem ic_X10_step_c_X10_fails : ∀ w ∈ vc_X10_fails, w ∈ vc_X10_step := fun _ h => List.mem_cons_of_mem _ (List.mem_append_right _ (List.mem_append_right _ (List.mem_append_right _ (List.mem_append_right _ (List.mem_append_right _ (List.mem_append_right _ (List.mem_append_left _ h)))))))
theorem ic_X10_step_c_X10_goesPlain : ∀ w ∈ vc_X10_goesPlain, w ∈ vc_X10_step := fun _ h => List.mem_cons_of_mem _ (List.mem_append_right _ (List.mem_append_right _ (List.mem_append_right _ (List.mem_append_right _ (List.mem_append_right _ (List.mem_append_right _ (List.mem_append_right _ (List.mem_append_left _ h))))))))
theorem ic_X10_step_c_X10_leaves : ∀ w ∈ vc_X10_leaves, w ∈ vc_X10_step := fun _ h => List.mem_cons_of_mem _ (List.mem_append_right _ (List.mem_append_right _ (List.mem_append_right _ (List.mem_append_right _ (List.mem_append_right _ (List.mem_append_right _ (List.mem_append_right _ (List.mem_append_right _ (List.mem_append_left _ h)))))))))
theorem ic_X10_step_c_X10_goesCompiled : ∀ w ∈ vc_X10_goesCompiled, w ∈ vc_X10_step := fun _ h => List.mem_cons_of_mem _ (List.mem_append_right _ (List.mem_append_right _ (List.mem_append_right _ (List.mem_append_right _ (List.mem_append_right _ (List.mem_append_right _ (List.mem_append_right _ (List.mem_append_right _ (List.mem_append_right _ (h))))))))))
theorem gd_c_X10_step : (vc_X10_step).all goodWord = true := gall_cons rfl (gall_app (by decide +kernel) (gall_app gw_X10 (gall_app gd_c_X10_aheadOfStep (gall_app gd_c_X10_rootOf (gall_app gd_c_X10_enters (gall_app gd_c_X10_prepares (gall_app gd_c_X10_fails (gall_app gd_c_X10_goesPlain (gall_app gd_c_X10_leaves gd_c_X10_goesCompiled)))))))))
set_option maxHeartbeats 4000000 in
set_option maxRecDepth 100000 in
theorem c_X10_step (l : Launch) (dC : Nat → ClassId) (dI : Nat → Nat → Nat) (cI cT cS : ClassId) (sz : Nat) (ad : Nat → Nat) (a1 : Int32) (σ : Sg) (o : Sg) (h : zf_X10_step a1 σ = some o) : gCV (S := Unit) l yX10_step vc_X10_step { frames := 7, cells := 0, slots := 0, locals := 181 } (dC, dI) (gTY cI cT cS) sz [.ref (ad 0), .int a1] (Wd 24 (cfR ad cI) σ) (fun (_ : Unit) => True) (fun (_ : Unit) => (Wd 24 (cfR ad cI) o)) 0 0 := by
  refine Met.ofW (cc := cX10_step) (maxL := 4) (ret := none) (by decide) rfl ?_
  intro p e s m args below meth c s₁ B hml hv
  obtain ⟨rfl, hsz, hP, hK, hD0⟩ := hv
  have hx := B.exec
  have hb := B.bytes
  have hr := B.returns
  have hts := atoms_spec (ws := vc_X10_step) B.pre
  have hown : s.vm.findClass RX10 = some m.cls := findClass_of_methodNamed B.named
  have hlocks := B.notSynchronized
  subst hsz
  have hD := hD0.self (sz := s.heap.size)
  generalize hAe : va_A (Wd 24 (cfR ad cI) σ) s.heap.size = A at hD ⊢
  have hA : ∀ q : Nat, s.heap.size ≤ q → A q := fun q h => by rw [← hAe]; exact Or.inr h
  clear hAe hD0
  refine gstart (fun H locs hHe hLe => ?_)
  have hS : va_S A s.heap H locs := by rw [← hHe, ← hLe]; exact va_S.rf
  replace hP : va_P (dC, dI) vwCl (Wd 24 (cfR ad cI) σ) H := by rw [← hHe]; exact hP
  clear hHe hLe
  have hl := lv_entry ([.ref (ad 0), .int a1]) (n := 4) (Nat.le_of_ble_eq_true rfl)
  rw [lg_entry_eq]
  generalize (lg_sl ([.ref (ad 0), .int a1]) ++ List.replicate (4 - (lg_sl ([.ref (ad 0), .int a1])).length) Slot.unset).toArray = ls at hl ⊢
  replace hl : lv_has ls 4 [(0, .ref (ad 0)), (1, .int a1)] := hl
  unfold zf_X10_step at h
  refine lv_iconst (v := 0) hx hb dX10_step_0 (by decide) ?_
  refine lv_istore_n (lv' := [(2, .int (0 : Int32)), (0, .ref (ad 0)), (1, .int a1)]) hx hb dX10_step_1 rfl hl (by decide) rfl (fun ls hl => ?_)
  obtain ⟨y2, hlp2, h⟩ := obd_inv h
  refine lp_W (fun x2 : Bool × Sg => ∀ (H : Heap) (locs : List Loc) (ls : Array Slot), va_P (dC, dI) vwCl (Wd 24 (cfR ad cI) x2.2) H → va_D A (Wd 24 (cfR ad cI) x2.2) → va_S A s.heap H locs → lv_has ls 4 [(2, .int (b2i x2.1)), (0, .ref (ad 0)), (1, .int a1)] → W p l e (headSpec vc_X10_step { frames := 7, cells := 0, slots := 0, locals := 181 }).room s m (List.toArray (α := Value) [.ref (ad 0), .int a1]) below meth c H locs 0 0 (MQ below (va_Qv (fun (_ : Unit) => True) (gB (dC, dI) A (fun (_ : Unit) => (Wd 24 (cfR ad cI) o))) A) (List.toArray (α := Value) [.ref (ad 0), .int a1]) s 0 0 A) (F0 m 2 ls [])) (fun y2 : Bool × Sg => ∀ (H : Heap) (locs : List Loc) (ls : Array Slot), va_P (dC, dI) vwCl (Wd 24 (cfR ad cI) y2.2) H → va_D A (Wd 24 (cfR ad cI) y2.2) → va_S A s.heap H locs → lv_has ls 4 [] → W p l e (headSpec vc_X10_step { frames := 7, cells := 0, slots := 0, locals := 181 }).room s m (List.toArray (α := Value) [.ref (ad 0), .int a1]) below meth c H locs 0 0 (MQ below (va_Qv (fun (_ : Unit) => True) (gB (dC, dI) A (fun (_ : Unit) => (Wd 24 (cfR ad cI) o))) A) (List.toArray (α := Value) [.ref (ad 0), .int a1]) s 0 0 A) (F0 m 120 ls [])) ?_ 1000 (false, σ) y2 hlp2 ?_ H locs ls hP hD hS (lv_sub (l' := [(2, .int (0 : Int32)), (0, .ref (ad 0)), (1, .int a1)]) hl [0, 1, 2] rfl)
  · intro x2 yy2 h ht2 hf2 H locs ls hP hD hS hl
    unfold zl_X10_step_2 at h
    have J117 : ∀ (v2_117 : Bool) (σb117 : Sg) (H : Heap) (locs : List Loc) (ls : Array Slot), zb_X10_step_117 v2_117 σb117 = some yy2 → va_P (dC, dI) vwCl (Wd 24 (cfR ad cI) σb117) H → va_D A (Wd 24 (cfR ad cI) σb117) → va_S A s.heap H locs → lv_has ls 4 [(2, .int (b2i v2_117)), (0, .ref (ad 0)), (1, .int a1)] → W p l e (headSpec vc_X10_step { frames := 7, cells := 0, slots := 0, locals := 181 }).room s m (List.toArray (α := Value) [.ref (ad 0), .int a1]) below meth c H locs 0 0 (MQ below (va_Qv (fun (_ : Unit) => True) (gB (dC, dI) A (fun (_ : Unit) => (Wd 24 (cfR ad cI) o))) A) (List.toArray (α := Value) [.ref (ad 0), .int a1]) s 0 0 A) (F0 m 117 ls []) := by
      intro v2_117 σb117 H locs ls h hP hD hS hl
      unfold zb_X10_step_117 at h
      refine lv_goto (tgt := 2) hx hb dX10_step_117 (by decide) ?_
      obtain rfl := Option.some.inj h
      exact ht2 rfl H locs ls hP hD hS (lv_sub (l' := [(2, .int (b2i v2_117)), (0, .ref (ad 0)), (1, .int a1)]) hl [0, 1, 2] rfl)
    have J100 : ∀ (w0_100 : Bool) (σb100 : Sg) (H : Heap) (locs : List Loc) (ls : Array Slot), zb_X10_step_100 a1 w0_100 σb100 = some yy2 → va_P (dC, dI) vwCl (Wd 24 (cfR ad cI) σb100) H → va_D A (Wd 24 (cfR ad cI) σb100) → va_S A s.heap H locs → lv_has ls 4 [(0, .ref (ad 0)), (1, .int a1)] → W p l e (headSpec vc_X10_step { frames := 7, cells := 0, slots := 0, locals := 181 }).room s m (List.toArray (α := Value) [.ref (ad 0), .int a1]) below meth c H locs 0 0 (MQ below (va_Qv (fun (_ : Unit) => True) (gB (dC, dI) A (fun (_ : Unit) => (Wd 24 (cfR ad cI) o))) A) (List.toArray (α := Value) [.ref (ad 0), .int a1]) s 0 0 A) (F0 m 100 ls [.int (b2i w0_100)]) := by
      intro w0_100 σb100 H locs ls h hP hD hS hl
      unfold zb_X10_step_100 at h
      refine lv_istore_n (lv' := [(2, .int (b2i w0_100)), (0, .ref (ad 0)), (1, .int a1)]) hx hb dX10_step_100 rfl hl (by decide) rfl (fun ls hl => ?_)
      refine lv_iload_n hx hb dX10_step_101 rfl (lv_at hl 0 rfl) ?_
      refine lv_if_eq (tgt := 112) hx hb dX10_step_102 (by decide) (fun c21 => ?_) (fun c21 => ?_)
      · replace h := ifn (b2i_0 c21) h
        refine lv_aload_n hx hb dX10_step_112 rfl (lv_at hl 1 rfl) ?_
        refine lv_iload_n hx hb dX10_step_113 rfl (lv_at hl 2 rfl) ?_
        obtain ⟨σ22, hc22, h⟩ := obd_inv h
        refine wcallv (S := Unit) (va_runV (As := [.int a1]) (rest := []) ⟨hx, hb, hml, hown, hts⟩ (c_X10_leaves l dC dI cI cT cS H.size ad  a1 σb100 _ hc22) (cwV 1 hts (gWV (List.mem_of_getElem? (i := 24) rfl) (List.mem_of_getElem? (i := 25) rfl) (List.mem_of_getElem? (i := 26) rfl) (List.mem_of_getElem? (i := 5) rfl) ic_X10_step_c_X10_leaves gd_c_X10_leaves) rfl rfl rfl (by decide +kernel) ⟨(Nat.le_of_ble_eq_true rfl), (Nat.le_of_ble_eq_true rfl)⟩) (wpV (q := (RX10, TX10, 46)) hP hK hD oX10 rfl) rfl rfl hl.1 rfl (lv_room (Nat.le_of_ble_eq_true rfl)) dX10_step_114 ⟨(Nat.le_of_ble_eq_true rfl), (Nat.le_of_ble_eq_true rfl)⟩) hP hD hS hA (fun _ H locs hr23 hP hD hS => ?_)
        replace hP : va_P (dC, dI) vwCl (Wd 24 (cfR ad cI) σ22) H := hP
        replace hD : va_D A (Wd 24 (cfR ad cI) σ22) := hD
        exact J117 w0_100 σ22 H locs ls h hP hD hS (lv_sub (l' := [(2, .int (b2i w0_100)), (0, .ref (ad 0)), (1, .int a1)]) hl [0, 1, 2] rfl)
      · replace h := ifp (b2i_1 c21) h
        refine lv_aload_n hx hb dX10_step_105 rfl (lv_at hl 1 rfl) ?_
        obtain ⟨σ24, hc24, h⟩ := obd_inv h
        refine wcallv (S := Unit) (va_runV (As := []) (rest := []) ⟨hx, hb, hml, hown, hts⟩ (c_X10_goesCompiled l dC dI cI cT cS H.size ad   σb100 _ hc24) (cwV 0 hts (gWV (List.mem_of_getElem? (i := 27) rfl) (List.mem_of_getElem? (i := 28) rfl) (List.mem_of_getElem? (i := 29) rfl) (List.mem_of_getElem? (i := 5) rfl) ic_X10_step_c_X10_goesCompiled gd_c_X10_goesCompiled) rfl rfl rfl (by decide +kernel) ⟨(Nat.le_of_ble_eq_true rfl), (Nat.le_of_ble_eq_true rfl)⟩) (wpV (q := (RX10, TX10, 46)) hP hK hD oX10 rfl) rfl rfl hl.1 rfl (lv_room (Nat.le_of_ble_eq_true rfl)) dX10_step_106 ⟨(Nat.le_of_ble_eq_true rfl), (Nat.le_of_ble_eq_true rfl)⟩) hP hD hS hA (fun _ H locs hr25 hP hD hS => ?_)
        replace hP : va_P (dC, dI) vwCl (Wd 24 (cfR ad cI) σ24) H := hP
        replace hD : va_D A (Wd 24 (cfR ad cI) σ24) := hD
        refine lv_goto (tgt := 117) hx hb dX10_step_109 (by decide) ?_
        exact J117 w0_100 σ24 H locs ls h hP hD hS (lv_sub (l' := [(2, .int (b2i w0_100)), (0, .ref (ad 0)), (1, .int a1)]) hl [0, 1, 2] rfl)
    have J62 : ∀ (σb62 : Sg) (H : Heap) (locs : List Loc) (ls : Array Slot), zb_X10_step_62 a1 σb62 = some yy2 → va_P (dC, dI) vwCl (Wd 24 (cfR ad cI) σb62) H → va_D A (Wd 24 (cfR ad cI) σb62) → va_S A s.heap H locs → lv_has ls 4 [(0, .ref (ad 0)), (1, .int a1)] → W p l e (headSpec vc_X10_step { frames := 7, cells := 0, slots := 0, locals := 181 }).room s m (List.toArray (α := Value) [.ref (ad 0), .int a1]) below meth c H locs 0 0 (MQ below (va_Qv (fun (_ : Unit) => True) (gB (dC, dI) A (fun (_ : Unit) => (Wd 24 (cfR ad cI) o))) A) (List.toArray (α := Value) [.ref (ad 0), .int a1]) s 0 0 A) (F0 m 62 ls []) := by
      intro σb62 H locs ls h hP hD hS hl
      unfold zb_X10_step_62 at h
      refine lv_aload_n hx hb dX10_step_62 rfl (lv_at hl 0 rfl) ?_
      refine gf_X10_37 hx hb hts iw_X10_step_X10 hown hK hP (hts (.fieldLink RX10 286 "TraceTreesModel" "trace" "I") (List.mem_of_getElem? (i := 6) rfl)) dX10_step_63 ?_
      refine lv_iconst (v := (-1)) hx hb dX10_step_66 (by decide) ?_
      refine lv_icmp_ne (tgt := 80) hx hb dX10_step_67 (by decide) (fun c13 => ?_) (fun c13 => ?_)
      · replace h := ifn (c13) h
        refine lv_aload_n hx hb dX10_step_80 rfl (lv_at hl 0 rfl) ?_
        refine lv_aload_n hx hb dX10_step_81 rfl (lv_at hl 0 rfl) ?_
        refine gf_X10_16 hx hb hts iw_X10_step_X10 hown hK hP (hts (.fieldLink RX10 241 "TraceTreesModel" "point" "I") (List.mem_of_getElem? (i := 8) rfl)) dX10_step_82 ?_
        obtain ⟨σ14, hc14, h⟩ := obd_inv h
        refine wcallv (S := Unit) (va_runV (As := [.int (σb62 0 16)]) (rest := []) ⟨hx, hb, hml, hown, hts⟩ (c_X10_prepares l dC dI cI cT cS H.size ad  (σb62 0 16) σb62 _ hc14) (cwV 1 hts (gWV (List.mem_of_getElem? (i := 15) rfl) (List.mem_of_getElem? (i := 16) rfl) (List.mem_of_getElem? (i := 17) rfl) (List.mem_of_getElem? (i := 5) rfl) ic_X10_step_c_X10_prepares gd_c_X10_prepares) rfl rfl rfl (by decide +kernel) ⟨(Nat.le_of_ble_eq_true rfl), (Nat.le_of_ble_eq_true rfl)⟩) (wpV (q := (RX10, TX10, 46)) hP hK hD oX10 rfl) rfl rfl hl.1 rfl (lv_room (Nat.le_of_ble_eq_true rfl)) dX10_step_85 ⟨(Nat.le_of_ble_eq_true rfl), (Nat.le_of_ble_eq_true rfl)⟩) hP hD hS hA (fun _ H locs hr15 hP hD hS => ?_)
        replace hP : va_P (dC, dI) vwCl (Wd 24 (cfR ad cI) σ14) H := hP
        replace hD : va_D A (Wd 24 (cfR ad cI) σ14) := hD
        refine lv_aload_n hx hb dX10_step_88 rfl (lv_at hl 0 rfl) ?_
        obtain ⟨r16, hc16, h⟩ := obd_inv h
        refine wcalli (S := Unit) (va_runV (As := []) (rest := []) ⟨hx, hb, hml, hown, hts⟩ (c_X10_fails l dC dI cI cT cS H.size ad   σ14 _ hc16) (cwV 0 hts (gWV (List.mem_of_getElem? (i := 18) rfl) (List.mem_of_getElem? (i := 19) rfl) (List.mem_of_getElem? (i := 20) rfl) (List.mem_of_getElem? (i := 5) rfl) ic_X10_step_c_X10_fails gd_c_X10_fails) rfl rfl rfl (by decide +kernel) ⟨(Nat.le_of_ble_eq_true rfl), (Nat.le_of_ble_eq_true rfl)⟩) (wpV (q := (RX10, TX10, 46)) hP hK hD oX10 rfl) rfl rfl hl.1 rfl (lv_room (Nat.le_of_ble_eq_true rfl)) dX10_step_89 ⟨(Nat.le_of_ble_eq_true rfl), (Nat.le_of_ble_eq_true rfl)⟩) hP hD hS hA (fun rr17 _ H locs hr17 hP hD hS => ?_)
        refine lv_nm (y := b2i r16) hr17 ?_
        refine lv_if_ne (tgt := 99) hx hb dX10_step_92 (by decide) (fun c18 => ?_) (fun c18 => ?_)
        · replace h := ifp (b2i_1 c18) h
          refine lv_iconst (v := 0) hx hb dX10_step_99 (by decide) ?_
          exact J100 false σ14 H locs ls h hP hD hS (lv_sub (l' := [(0, .ref (ad 0)), (1, .int a1)]) hl [0, 1] rfl)
        · replace h := ifn (b2i_0 c18) h
          refine lv_iconst (v := 1) hx hb dX10_step_95 (by decide) ?_
          refine lv_goto (tgt := 100) hx hb dX10_step_96 (by decide) ?_
          exact J100 true σ14 H locs ls h hP hD hS (lv_sub (l' := [(0, .ref (ad 0)), (1, .int a1)]) hl [0, 1] rfl)
      · replace h := ifp (c13) h
        refine lv_aload_n hx hb dX10_step_70 rfl (lv_at hl 0 rfl) ?_
        refine lv_iload_n hx hb dX10_step_71 rfl (lv_at hl 1 rfl) ?_
        obtain ⟨σ19, hc19, h⟩ := obd_inv h
        refine wcallv (S := Unit) (va_runV (As := [.int a1]) (rest := []) ⟨hx, hb, hml, hown, hts⟩ (c_X10_goesPlain l dC dI cI cT cS H.size ad  a1 σb62 _ hc19) (cwV 1 hts (gWV (List.mem_of_getElem? (i := 21) rfl) (List.mem_of_getElem? (i := 22) rfl) (List.mem_of_getElem? (i := 23) rfl) (List.mem_of_getElem? (i := 5) rfl) ic_X10_step_c_X10_goesPlain gd_c_X10_goesPlain) rfl rfl rfl (by decide +kernel) ⟨(Nat.le_of_ble_eq_true rfl), (Nat.le_of_ble_eq_true rfl)⟩) (wpV (q := (RX10, TX10, 46)) hP hK hD oX10 rfl) rfl rfl hl.1 rfl (lv_room (Nat.le_of_ble_eq_true rfl)) dX10_step_72 ⟨(Nat.le_of_ble_eq_true rfl), (Nat.le_of_ble_eq_true rfl)⟩) hP hD hS hA (fun _ H locs hr20 hP hD hS => ?_)
        replace hP : va_P (dC, dI) vwCl (Wd 24 (cfR ad cI) σ19) H := hP
        replace hD : va_D A (Wd 24 (cfR ad cI) σ19) := hD
        refine lv_iconst (v := 1) hx hb dX10_step_75 (by decide) ?_
        refine lv_istore_n (lv' := [(2, .int (1 : Int32)), (0, .ref (ad 0)), (1, .int a1)]) hx hb dX10_step_76 rfl hl (by decide) rfl (fun ls hl => ?_)
        refine lv_goto (tgt := 117) hx hb dX10_step_77 (by decide) ?_
        exact J117 true σ19 H locs ls h hP hD hS (lv_sub (l' := [(2, .int (1 : Int32)), (0, .ref (ad 0)), (1, .int a1)]) hl [0, 1, 2] rfl)
    have J51 : ∀ (w0_51 : Int32) (σb51 : Sg) (H : Heap) (locs : List Loc) (ls : Array Slot), zb_X10_step_51 a1 w0_51 σb51 = some yy2 → va_P (dC, dI) vwCl (Wd 24 (cfR ad cI) σb51) H → va_D A (Wd 24 (cfR ad cI) σb51) → va_S A s.heap H locs → lv_has ls 4 [(0, .ref (ad 0)), (1, .int a1)] → W p l e (headSpec vc_X10_step { frames := 7, cells := 0, slots := 0, locals := 181 }).room s m (List.toArray (α := Value) [.ref (ad 0), .int a1]) below meth c H locs 0 0 (MQ below (va_Qv (fun (_ : Unit) => True) (gB (dC, dI) A (fun (_ : Unit) => (Wd 24 (cfR ad cI) o))) A) (List.toArray (α := Value) [.ref (ad 0), .int a1]) s 0 0 A) (F0 m 51 ls [.int w0_51]) := by
      intro w0_51 σb51 H locs ls h hP hD hS hl
      unfold zb_X10_step_51 at h
      refine lv_istore_n (lv' := [(3, .int w0_51), (0, .ref (ad 0)), (1, .int a1)]) hx hb dX10_step_51 rfl hl (by decide) rfl (fun ls hl => ?_)
      refine lv_iload_n hx hb dX10_step_52 rfl (lv_at hl 0 rfl) ?_
      refine lv_iconst (v := (-1)) hx hb dX10_step_53 (by decide) ?_
      refine lv_icmp_eq (tgt := 62) hx hb dX10_step_54 (by decide) (fun c10 => ?_) (fun c10 => ?_)
      · replace h := ifp (c10) h
        exact J62 σb51 H locs ls h hP hD hS (lv_sub (l' := [(0, .ref (ad 0)), (1, .int a1)]) hl [1, 2] rfl)
      · replace h := ifn (c10) h
        refine lv_aload_n hx hb dX10_step_57 rfl (lv_at hl 1 rfl) ?_
        refine lv_iload_n hx hb dX10_step_58 rfl (lv_at hl 0 rfl) ?_
        obtain ⟨σ11, hc11, h⟩ := obd_inv h
        refine wcallv (S := Unit) (va_runV (As := [.int w0_51]) (rest := []) ⟨hx, hb, hml, hown, hts⟩ (c_X10_enters l dC dI cI cT cS H.size ad  w0_51 σb51 _ hc11) (cwV 1 hts (gWV (List.mem_of_getElem? (i := 12) rfl) (List.mem_of_getElem? (i := 13) rfl) (List.mem_of_getElem? (i := 14) rfl) (List.mem_of_getElem? (i := 5) rfl) ic_X10_step_c_X10_enters gd_c_X10_enters) rfl rfl rfl (by decide +kernel) ⟨(Nat.le_of_ble_eq_true rfl), (Nat.le_of_ble_eq_true rfl)⟩) (wpV (q := (RX10, TX10, 46)) hP hK hD oX10 rfl) rfl rfl hl.1 rfl (lv_room (Nat.le_of_ble_eq_true rfl)) dX10_step_59 ⟨(Nat.le_of_ble_eq_true rfl), (Nat.le_of_ble_eq_true rfl)⟩) hP hD hS hA (fun _ H locs hr12 hP hD hS => ?_)
        replace hP : va_P (dC, dI) vwCl (Wd 24 (cfR ad cI) σ11) H := hP
        replace hD : va_D A (Wd 24 (cfR ad cI) σ11) := hD
        exact J62 σ11 H locs ls h hP hD hS (lv_sub (l' := [(0, .ref (ad 0)), (1, .int a1)]) hl [1, 2] rfl)
    have J39 : ∀ (σb39 : Sg) (H : Heap) (locs : List Loc) (ls : Array Slot), zb_X10_step_39 a1 σb39 = some yy2 → va_P (dC, dI) vwCl (Wd 24 (cfR ad cI) σb39) H → va_D A (Wd 24 (cfR ad cI) σb39) → va_S A s.heap H locs → lv_has ls 4 [(0, .ref (ad 0)), (1, .int a1)] → W p l e (headSpec vc_X10_step { frames := 7, cells := 0, slots := 0, locals := 181 }).room s m (List.toArray (α := Value) [.ref (ad 0), .int a1]) below meth c H locs 0 0 (MQ below (va_Qv (fun (_ : Unit) => True) (gB (dC, dI) A (fun (_ : Unit) => (Wd 24 (cfR ad cI) o))) A) (List.toArray (α := Value) [.ref (ad 0), .int a1]) s 0 0 A) (F0 m 39 ls []) := by
      intro σb39 H locs ls h hP hD hS hl
      unfold zb_X10_step_39 at h
      refine lv_iconst (v := (-1)) hx hb dX10_step_39 (by decide) ?_
      refine lv_goto (tgt := 51) hx hb dX10_step_40 (by decide) ?_
      exact J51 (-1 : Int32) σb39 H locs ls h hP hD hS (lv_sub (l' := [(0, .ref (ad 0)), (1, .int a1)]) hl [0, 1] rfl)
    have J17 : ∀ (σb17 : Sg) (H : Heap) (locs : List Loc) (ls : Array Slot), zb_X10_step_17 a1 σb17 = some yy2 → va_P (dC, dI) vwCl (Wd 24 (cfR ad cI) σb17) H → va_D A (Wd 24 (cfR ad cI) σb17) → va_S A s.heap H locs → lv_has ls 4 [(0, .ref (ad 0)), (1, .int a1)] → W p l e (headSpec vc_X10_step { frames := 7, cells := 0, slots := 0, locals := 181 }).room s m (List.toArray (α := Value) [.ref (ad 0), .int a1]) below meth c H locs 0 0 (MQ below (va_Qv (fun (_ : Unit) => True) (gB (dC, dI) A (fun (_ : Unit) => (Wd 24 (cfR ad cI) o))) A) (List.toArray (α := Value) [.ref (ad 0), .int a1]) s 0 0 A) (F0 m 17 ls []) := by
      intro σb17 H locs ls h hP hD hS hl
      unfold zb_X10_step_17 at h
      refine lv_aload_n hx hb dX10_step_17 rfl (lv_at hl 0 rfl) ?_
      refine gf_X10_39 hx hb hts iw_X10_step_X10 hown hK hP (hts (.fieldLink RX10 256 "TraceTreesModel" "records" "Z") (List.mem_of_getElem? (i := 1) rfl)) dX10_step_18 ?_
      refine lv_if_ne (tgt := 39) hx hb dX10_step_21 (by decide) (fun c5 => ?_) (fun c5 => ?_)
      · replace h := ifn (c5) h
        exact J39 σb17 H locs ls h hP hD hS (lv_sub (l' := [(0, .ref (ad 0)), (1, .int a1)]) hl [0, 1] rfl)
      · replace h := ifp (c5) h
        refine lv_aload_n hx hb dX10_step_24 rfl (lv_at hl 0 rfl) ?_
        refine gf_X10_37 hx hb hts iw_X10_step_X10 hown hK hP (hts (.fieldLink RX10 286 "TraceTreesModel" "trace" "I") (List.mem_of_getElem? (i := 6) rfl)) dX10_step_25 ?_
        refine lv_iconst (v := (-1)) hx hb dX10_step_28 (by decide) ?_
        refine lv_icmp_ne (tgt := 39) hx hb dX10_step_29 (by decide) (fun c6 => ?_) (fun c6 => ?_)
        · replace h := ifn (c6) h
          exact J39 σb17 H locs ls h hP hD hS (lv_sub (l' := [(0, .ref (ad 0)), (1, .int a1)]) hl [0, 1] rfl)
        · replace h := ifp (c6) h
          refine lv_aload_n hx hb dX10_step_32 rfl (lv_at hl 0 rfl) ?_
          refine gf_X10_44 hx hb hts iw_X10_step_X10 hown hK hP (hts (.fieldLink RX10 301 "TraceTreesModel" "skips" "Z") (List.mem_of_getElem? (i := 7) rfl)) dX10_step_33 ?_
          refine lv_if_eq (tgt := 43) hx hb dX10_step_36 (by decide) (fun c7 => ?_) (fun c7 => ?_)
          · replace h := ifp (c7) h
            refine lv_aload_n hx hb dX10_step_43 rfl (lv_at hl 0 rfl) ?_
            refine lv_aload_n hx hb dX10_step_44 rfl (lv_at hl 0 rfl) ?_
            refine gf_X10_16 hx hb hts iw_X10_step_X10 hown hK hP (hts (.fieldLink RX10 241 "TraceTreesModel" "point" "I") (List.mem_of_getElem? (i := 8) rfl)) dX10_step_45 ?_
            obtain ⟨r8, hc8, h⟩ := obd_inv h
            refine wcalli (S := Unit) (va_runV (As := [.int (σb17 0 16)]) (rest := []) ⟨hx, hb, hml, hown, hts⟩ (c_X10_rootOf l dC dI cI cT cS H.size ad  (σb17 0 16) σb17 _ hc8) (cwV 1 hts (gWV (List.mem_of_getElem? (i := 9) rfl) (List.mem_of_getElem? (i := 10) rfl) (List.mem_of_getElem? (i := 11) rfl) (List.mem_of_getElem? (i := 5) rfl) ic_X10_step_c_X10_rootOf gd_c_X10_rootOf) rfl rfl rfl (by decide +kernel) ⟨(Nat.le_of_ble_eq_true rfl), (Nat.le_of_ble_eq_true rfl)⟩) (wpV (q := (RX10, TX10, 46)) hP hK hD oX10 rfl) rfl rfl hl.1 rfl (lv_room (Nat.le_of_ble_eq_true rfl)) dX10_step_48 ⟨(Nat.le_of_ble_eq_true rfl), (Nat.le_of_ble_eq_true rfl)⟩) hP hD hS hA (fun rr9 _ H locs hr9 hP hD hS => ?_)
            refine lv_nm (y := r8) hr9 ?_
            exact J51 r8 σb17 H locs ls h hP hD hS (lv_sub (l' := [(0, .ref (ad 0)), (1, .int a1)]) hl [0, 1] rfl)
          · replace h := ifn (c7) h
            exact J39 σb17 H locs ls h hP hD hS (lv_sub (l' := [(0, .ref (ad 0)), (1, .int a1)]) hl [0, 1] rfl)
    refine lv_iload_n hx hb dX10_step_2 rfl (lv_at hl 0 rfl) ?_
    refine lv_if_ne (tgt := 120) hx hb dX10_step_3 (by decide) (fun c1 => ?_) (fun c1 => ?_)
    · replace h := ifp (b2i_1 c1) h
      obtain rfl := Option.some.inj h
      exact hf2 rfl H locs ls hP hD hS (lv_sub (l' := []) hl [] rfl)
    · replace h := ifn (b2i_0 c1) h
      refine lv_aload_n hx hb dX10_step_6 rfl (lv_at hl 1 rfl) ?_
      refine gf_X10_39 hx hb hts iw_X10_step_X10 hown hK hP (hts (.fieldLink RX10 256 "TraceTreesModel" "records" "Z") (List.mem_of_getElem? (i := 1) rfl)) dX10_step_7 ?_
      refine lv_if_eq (tgt := 17) hx hb dX10_step_10 (by decide) (fun c2 => ?_) (fun c2 => ?_)
      · replace h := ifp (c2) h
        exact J17 x2.2 H locs ls h hP hD hS (lv_sub (l' := [(0, .ref (ad 0)), (1, .int a1)]) hl [1, 2] rfl)
      · replace h := ifn (c2) h
        refine lv_aload_n hx hb dX10_step_13 rfl (lv_at hl 1 rfl) ?_
        obtain ⟨σ3, hc3, h⟩ := obd_inv h
        refine wcallv (S := Unit) (va_runV (As := []) (rest := []) ⟨hx, hb, hml, hown, hts⟩ (c_X10_aheadOfStep l dC dI cI cT cS H.size ad   x2.2 _ hc3) (cwV 0 hts (gWV (List.mem_of_getElem? (i := 2) rfl) (List.mem_of_getElem? (i := 3) rfl) (List.mem_of_getElem? (i := 4) rfl) (List.mem_of_getElem? (i := 5) rfl) ic_X10_step_c_X10_aheadOfStep gd_c_X10_aheadOfStep) rfl rfl rfl (by decide +kernel) ⟨(Nat.le_of_ble_eq_true rfl), (Nat.le_of_ble_eq_true rfl)⟩) (wpV (q := (RX10, TX10, 46)) hP hK hD oX10 rfl) rfl rfl hl.1 rfl (lv_room (Nat.le_of_ble_eq_true rfl)) dX10_step_14 ⟨(Nat.le_of_ble_eq_true rfl), (Nat.le_of_ble_eq_true rfl)⟩) hP hD hS hA (fun _ H locs hr4 hP hD hS => ?_)
        replace hP : va_P (dC, dI) vwCl (Wd 24 (cfR ad cI) σ3) H := hP
        replace hD : va_D A (Wd 24 (cfR ad cI) σ3) := hD
        exact J17 σ3 H locs ls h hP hD hS (lv_sub (l' := [(0, .ref (ad 0)), (1, .int a1)]) hl [1, 2] rfl)
  · intro H locs ls hP hD hS hl
    have h9 := Option.some.inj h
    exact wretv hx hb hr hlocks hP hD hS trivial (by rw [← h9]) dX10_step_120
def zb_X10_runs_190 (σb190 : Sg) : Option (Sg) := some σb190
def zl_X10_runs_116 (a1 : Int32) (x116 : Sg) : Option (Bool × (Sg)) := (if (x116 0 22) = 0 then some (false, x116) else (if (x116 0 17) = (x116 0 9) then some (true, su (su x116 0 22 (0 : Int32)) 0 21 (0 : Int32)) else (if (x116 0 16) < (x116 0 5) then obd (zf_X10_step a1 x116) (fun σ8 => some (true, σ8)) else some (true, su (su x116 0 22 (0 : Int32)) 0 21 (2 : Int32)))))
def zl_X10_runs_40  (x40 : Int32 × Sg) : Option (Bool × (Int32 × Sg)) := (if (24 : Int32) ≤ x40.1 then some (false, (x40.1, x40.2)) else bd x40.1 24 (some (true, ((x40.1 + (1 : Int32)), su (su x40.2 10 x40.1.toNatClampNeg (0 : Int32)) 11 x40.1.toNatClampNeg (0 : Int32)))))
def zl_X10_runs_2  (x2 : Int32 × Sg) : Option (Bool × (Int32 × Sg)) := (if (8 : Int32) ≤ x2.1 then some (false, (x2.1, x2.2)) else bd x2.1 8 (some (true, ((x2.1 + (1 : Int32)), su (su x2.2 8 x2.1.toNatClampNeg (x2.2 6 x2.1.toNatClampNeg)) 9 x2.1.toNatClampNeg (x2.2 7 x2.1.toNatClampNeg)))))
def zf_X10_runs (a1 : Int32) (σ : Sg) : Option (Sg) := obd (lp (X := Int32 × Sg) zl_X10_runs_2 1000 ((0 : Int32), σ)) (fun y2 => obd (lp (X := Int32 × Sg) zl_X10_runs_40 1000 ((0 : Int32), y2.2)) (fun y40 => obd (lp (X := Sg) (zl_X10_runs_116 a1) 1000 (su (su (su (su (su (su (su (su (su (su y40.2 0 16 (0 : Int32)) 0 17 (0 : Int32)) 0 18 (0 : Int32)) 0 19 (0 : Int32)) 0 20 (0 : Int32)) 0 25 (0 : Int32)) 0 37 (-1 : Int32)) 0 39 (0 : Int32)) 0 44 (0 : Int32)) 0 22 (1 : Int32))) (fun y116 => (if (y116 0 39) = 0 then (zb_X10_runs_190 y116) else obd (zf_X10_lets y116) (fun σ11 => (zb_X10_runs_190 σ11))))))
def oc_X10_runs : List Cond := [.fieldLink RX10 31 "TraceTreesModel" "kinds" "[I", .fieldLink RX10 25 "TraceTreesModel" "loadKind" "[I", .fieldLink RX10 34 "TraceTreesModel" "bits" "[I", .fieldLink RX10 28 "TraceTreesModel" "loadBits" "[I", .fieldLink RX10 37 "TraceTreesModel" "heat" "[I", .fieldLink RX10 40 "TraceTreesModel" "dropsOf" "[I", .fieldLink RX10 241 "TraceTreesModel" "point" "I", .fieldLink RX10 250 "TraceTreesModel" "steps" "I", .fieldLink RX10 307 "TraceTreesModel" "compiled" "I", .fieldLink RX10 292 "TraceTreesModel" "exits" "I", .fieldLink RX10 271 "TraceTreesModel" "drops" "I", .fieldLink RX10 253 "TraceTreesModel" "traces" "I", .fieldLink RX10 286 "TraceTreesModel" "trace" "I", .fieldLink RX10 256 "TraceTreesModel" "records" "Z", .fieldLink RX10 301 "TraceTreesModel" "skips" "Z", .fieldLink RX10 316 "TraceTreesModel" "going" "Z", .fieldLink RX10 79 "TraceTreesModel" "limit" "I", .fieldLink RX10 162 "TraceTreesModel" "codes" "I", .methodLink RX10 341 yX10_step, .instanceMethod yX10_step, .selects RX10 yX10_step yX10_step, .initialized RX10, .fieldLink RX10 319 "TraceTreesModel" "end" "I", .methodLink RX10 280 yX10_lets, .instanceMethod yX10_lets, .selects RX10 yX10_lets yX10_lets]
def vc_X10_runs : List Cond := .code yX10_runs cX10_runs 3 none :: (oc_X10_runs ++ (wsX100 ++ (vc_X10_step ++ (vc_X10_lets))))
theorem iw_X10_runs_X10 : ∀ w ∈ wsX100, w ∈ vc_X10_runs := fun _ h => List.mem_cons_of_mem _ (List.mem_append_right _ (List.mem_append_left _ h))
theorem ic_X10_runs_c_X10_step : ∀ w ∈ vc_X10_step, w ∈ vc_X10_runs := fun _ h => List.mem_cons_of_mem _ (List.mem_append_right _ (List.mem_append_right _ (List.mem_append_left _ h)))
theorem ic_X10_runs_c_X10_lets : ∀ w ∈ vc_X10_lets, w ∈ vc_X10_runs := fun _ h => List.mem_cons_of_mem _ (List.mem_append_right _ (List.mem_append_right _ (List.mem_append_right _ (h))))
theorem gd_c_X10_runs : (vc_X10_runs).all goodWord = true := gall_cons rfl (gall_app (by decide +kernel) (gall_app gw_X10 (gall_app gd_c_X10_step gd_c_X10_lets)))
set_option maxHeartbeats 4000000 in
set_option maxRecDepth 100000 in
theorem c_X10_runs (l : Launch) (dC : Nat → ClassId) (dI : Nat → Nat → Nat) (cI cT cS : ClassId) (sz : Nat) (ad : Nat → Nat) (a1 : Int32) (σ : Sg) (o : Sg) (h : zf_X10_runs a1 σ = some o) : gCV (S := Unit) l yX10_runs vc_X10_runs { frames := 8, cells := 0, slots := 0, locals := 204 } (dC, dI) (gTY cI cT cS) sz [.ref (ad 0), .int a1] (Wd 24 (cfR ad cI) σ) (fun (_ : Unit) => True) (fun (_ : Unit) => (Wd 24 (cfR ad cI) o)) 0 0 := by
  refine Met.ofW (cc := cX10_runs) (maxL := 3) (ret := none) (by decide) rfl ?_
  intro p e s m args below meth c s₁ B hml hv
  obtain ⟨rfl, hsz, hP, hK, hD0⟩ := hv
  have hx := B.exec
  have hb := B.bytes
  have hr := B.returns
  have hts := atoms_spec (ws := vc_X10_runs) B.pre
  have hown : s.vm.findClass RX10 = some m.cls := findClass_of_methodNamed B.named
  have hlocks := B.notSynchronized
  subst hsz
  have hD := hD0.self (sz := s.heap.size)
  generalize hAe : va_A (Wd 24 (cfR ad cI) σ) s.heap.size = A at hD ⊢
  have hA : ∀ q : Nat, s.heap.size ≤ q → A q := fun q h => by rw [← hAe]; exact Or.inr h
  clear hAe hD0
  refine gstart (fun H locs hHe hLe => ?_)
  have hS : va_S A s.heap H locs := by rw [← hHe, ← hLe]; exact va_S.rf
  replace hP : va_P (dC, dI) vwCl (Wd 24 (cfR ad cI) σ) H := by rw [← hHe]; exact hP
  clear hHe hLe
  have hl := lv_entry ([.ref (ad 0), .int a1]) (n := 3) (Nat.le_of_ble_eq_true rfl)
  rw [lg_entry_eq]
  generalize (lg_sl ([.ref (ad 0), .int a1]) ++ List.replicate (3 - (lg_sl ([.ref (ad 0), .int a1])).length) Slot.unset).toArray = ls at hl ⊢
  replace hl : lv_has ls 3 [(0, .ref (ad 0)), (1, .int a1)] := hl
  unfold zf_X10_runs at h
  have J190 : ∀ (σb190 : Sg) (H : Heap) (locs : List Loc) (ls : Array Slot), zb_X10_runs_190 σb190 = some o → va_P (dC, dI) vwCl (Wd 24 (cfR ad cI) σb190) H → va_D A (Wd 24 (cfR ad cI) σb190) → va_S A s.heap H locs → lv_has ls 3 [] → W p l e (headSpec vc_X10_runs { frames := 8, cells := 0, slots := 0, locals := 204 }).room s m (List.toArray (α := Value) [.ref (ad 0), .int a1]) below meth c H locs 0 0 (MQ below (va_Qv (fun (_ : Unit) => True) (gB (dC, dI) A (fun (_ : Unit) => (Wd 24 (cfR ad cI) o))) A) (List.toArray (α := Value) [.ref (ad 0), .int a1]) s 0 0 A) (F0 m 190 ls []) := by
    intro σb190 H locs ls h hP hD hS hl
    unfold zb_X10_runs_190 at h
    have h9 := Option.some.inj h
    exact wretv hx hb hr hlocks hP hD hS trivial (by rw [← h9]) dX10_runs_190
  refine lv_iconst (v := 0) hx hb dX10_runs_0 (by decide) ?_
  refine lv_istore_n (lv' := [(2, .int (0 : Int32)), (0, .ref (ad 0)), (1, .int a1)]) hx hb dX10_runs_1 rfl hl (by decide) rfl (fun ls hl => ?_)
  obtain ⟨y2, hlp2, h⟩ := obd_inv h
  refine lp_W (fun x2 : Int32 × Sg => ∀ (H : Heap) (locs : List Loc) (ls : Array Slot), va_P (dC, dI) vwCl (Wd 24 (cfR ad cI) x2.2) H → va_D A (Wd 24 (cfR ad cI) x2.2) → va_S A s.heap H locs → lv_has ls 3 [(2, .int x2.1), (0, .ref (ad 0)), (1, .int a1)] → W p l e (headSpec vc_X10_runs { frames := 8, cells := 0, slots := 0, locals := 204 }).room s m (List.toArray (α := Value) [.ref (ad 0), .int a1]) below meth c H locs 0 0 (MQ below (va_Qv (fun (_ : Unit) => True) (gB (dC, dI) A (fun (_ : Unit) => (Wd 24 (cfR ad cI) o))) A) (List.toArray (α := Value) [.ref (ad 0), .int a1]) s 0 0 A) (F0 m 2 ls [])) (fun y2 : Int32 × Sg => ∀ (H : Heap) (locs : List Loc) (ls : Array Slot), va_P (dC, dI) vwCl (Wd 24 (cfR ad cI) y2.2) H → va_D A (Wd 24 (cfR ad cI) y2.2) → va_S A s.heap H locs → lv_has ls 3 [(0, .ref (ad 0)), (1, .int a1)] → W p l e (headSpec vc_X10_runs { frames := 8, cells := 0, slots := 0, locals := 204 }).room s m (List.toArray (α := Value) [.ref (ad 0), .int a1]) below meth c H locs 0 0 (MQ below (va_Qv (fun (_ : Unit) => True) (gB (dC, dI) A (fun (_ : Unit) => (Wd 24 (cfR ad cI) o))) A) (List.toArray (α := Value) [.ref (ad 0), .int a1]) s 0 0 A) (F0 m 38 ls [])) ?_ 1000 ((0 : Int32), σ) y2 hlp2 ?_ H locs ls hP hD hS (lv_sub (l' := [(2, .int (0 : Int32)), (0, .ref (ad 0)), (1, .int a1)]) hl [0, 1, 2] rfl)
  · intro x2 yy2 h ht2 hf2 H locs ls hP hD hS hl
    unfold zl_X10_runs_2 at h
    refine lv_iload_n hx hb dX10_runs_2 rfl (lv_at hl 0 rfl) ?_
    refine lv_bipush (v := 8) hx hb dX10_runs_3 (by decide) ?_
    refine lv_icmp_ge (tgt := 38) hx hb dX10_runs_5 (by decide) (fun c1 => ?_) (fun c1 => ?_)
    · replace h := ifp (c1) h
      obtain rfl := Option.some.inj h
      exact hf2 rfl H locs ls hP hD hS (lv_sub (l' := [(0, .ref (ad 0)), (1, .int a1)]) hl [1, 2] rfl)
    · replace h := ifn (c1) h
      refine lv_aload_n hx hb dX10_runs_8 rfl (lv_at hl 1 rfl) ?_
      refine gf_X10_11 hx hb hts iw_X10_runs_X10 hown hK hP (hts (.fieldLink RX10 31 "TraceTreesModel" "kinds" "[I") (List.mem_of_getElem? (i := 1) rfl)) dX10_runs_9 ?_
      refine lv_iload_n hx hb dX10_runs_12 rfl (lv_at hl 0 rfl) ?_
      refine lv_aload_n hx hb dX10_runs_13 rfl (lv_at hl 1 rfl) ?_
      refine gf_X10_7 hx hb hts iw_X10_runs_X10 hown hK hP (hts (.fieldLink RX10 25 "TraceTreesModel" "loadKind" "[I") (List.mem_of_getElem? (i := 2) rfl)) dX10_runs_14 ?_
      refine lv_iload_n hx hb dX10_runs_17 rfl (lv_at hl 0 rfl) ?_
      obtain ⟨hi2, h⟩ := bd_inv h
      refine wald hx hb hK hP aR6 hi2 dX10_runs_18 ?_
      refine wast hx hb hK hP hD hS aR8 hi2 dX10_runs_19 (fun H locs hP hD hS => ?_)
      refine lv_aload_n hx hb dX10_runs_20 rfl (lv_at hl 1 rfl) ?_
      refine gf_X10_12 hx hb hts iw_X10_runs_X10 hown hK hP (hts (.fieldLink RX10 34 "TraceTreesModel" "bits" "[I") (List.mem_of_getElem? (i := 3) rfl)) dX10_runs_21 ?_
      refine lv_iload_n hx hb dX10_runs_24 rfl (lv_at hl 0 rfl) ?_
      refine lv_aload_n hx hb dX10_runs_25 rfl (lv_at hl 1 rfl) ?_
      refine gf_X10_8 hx hb hts iw_X10_runs_X10 hown hK hP (hts (.fieldLink RX10 28 "TraceTreesModel" "loadBits" "[I") (List.mem_of_getElem? (i := 4) rfl)) dX10_runs_26 ?_
      refine lv_iload_n hx hb dX10_runs_29 rfl (lv_at hl 0 rfl) ?_
      refine wald hx hb hK hP aR7 hi2 dX10_runs_30 ?_
      refine lv_nm (y := (x2.2 7 x2.1.toNatClampNeg)) (su_rd (by decide) rfl) ?_
      refine wast hx hb hK hP hD hS aR9 hi2 dX10_runs_31 (fun H locs hP hD hS => ?_)
      refine lv_iinc (v := (x2.1 + (1 : Int32))) (lv' := [(2, .int (x2.1 + (1 : Int32))), (0, .ref (ad 0)), (1, .int a1)]) hx hb dX10_runs_32 hl (k := 0) rfl rfl (by decide) rfl (fun ls hl => ?_)
      refine lv_goto (tgt := 2) hx hb dX10_runs_35 (by decide) ?_
      obtain rfl := Option.some.inj h
      exact ht2 rfl H locs ls hP hD hS (lv_sub (l' := [(2, .int (x2.1 + (1 : Int32))), (0, .ref (ad 0)), (1, .int a1)]) hl [0, 1, 2] rfl)
  · intro H locs ls hP hD hS hl
    refine lv_iconst (v := 0) hx hb dX10_runs_38 (by decide) ?_
    refine lv_istore_n (lv' := [(2, .int (0 : Int32)), (0, .ref (ad 0)), (1, .int a1)]) hx hb dX10_runs_39 rfl hl (by decide) rfl (fun ls hl => ?_)
    obtain ⟨y40, hlp40, h⟩ := obd_inv h
    refine lp_W (fun x40 : Int32 × Sg => ∀ (H : Heap) (locs : List Loc) (ls : Array Slot), va_P (dC, dI) vwCl (Wd 24 (cfR ad cI) x40.2) H → va_D A (Wd 24 (cfR ad cI) x40.2) → va_S A s.heap H locs → lv_has ls 3 [(2, .int x40.1), (0, .ref (ad 0)), (1, .int a1)] → W p l e (headSpec vc_X10_runs { frames := 8, cells := 0, slots := 0, locals := 204 }).room s m (List.toArray (α := Value) [.ref (ad 0), .int a1]) below meth c H locs 0 0 (MQ below (va_Qv (fun (_ : Unit) => True) (gB (dC, dI) A (fun (_ : Unit) => (Wd 24 (cfR ad cI) o))) A) (List.toArray (α := Value) [.ref (ad 0), .int a1]) s 0 0 A) (F0 m 40 ls [])) (fun y40 : Int32 × Sg => ∀ (H : Heap) (locs : List Loc) (ls : Array Slot), va_P (dC, dI) vwCl (Wd 24 (cfR ad cI) y40.2) H → va_D A (Wd 24 (cfR ad cI) y40.2) → va_S A s.heap H locs → lv_has ls 3 [(0, .ref (ad 0)), (1, .int a1)] → W p l e (headSpec vc_X10_runs { frames := 8, cells := 0, slots := 0, locals := 204 }).room s m (List.toArray (α := Value) [.ref (ad 0), .int a1]) below meth c H locs 0 0 (MQ below (va_Qv (fun (_ : Unit) => True) (gB (dC, dI) A (fun (_ : Unit) => (Wd 24 (cfR ad cI) o))) A) (List.toArray (α := Value) [.ref (ad 0), .int a1]) s 0 0 A) (F0 m 66 ls [])) ?_ 1000 ((0 : Int32), y2.2) y40 hlp40 ?_ H locs ls hP hD hS (lv_sub (l' := [(2, .int (0 : Int32)), (0, .ref (ad 0)), (1, .int a1)]) hl [0, 1, 2] rfl)
    · intro x40 yy40 h ht40 hf40 H locs ls hP hD hS hl
      unfold zl_X10_runs_40 at h
      refine lv_iload_n hx hb dX10_runs_40 rfl (lv_at hl 0 rfl) ?_
      refine lv_bipush (v := 24) hx hb dX10_runs_41 (by decide) ?_
      refine lv_icmp_ge (tgt := 66) hx hb dX10_runs_43 (by decide) (fun c3 => ?_) (fun c3 => ?_)
      · replace h := ifp (c3) h
        obtain rfl := Option.some.inj h
        exact hf40 rfl H locs ls hP hD hS (lv_sub (l' := [(0, .ref (ad 0)), (1, .int a1)]) hl [1, 2] rfl)
      · replace h := ifn (c3) h
        refine lv_aload_n hx hb dX10_runs_46 rfl (lv_at hl 1 rfl) ?_
        refine gf_X10_23 hx hb hts iw_X10_runs_X10 hown hK hP (hts (.fieldLink RX10 37 "TraceTreesModel" "heat" "[I") (List.mem_of_getElem? (i := 5) rfl)) dX10_runs_47 ?_
        refine lv_iload_n hx hb dX10_runs_50 rfl (lv_at hl 0 rfl) ?_
        refine lv_iconst (v := 0) hx hb dX10_runs_51 (by decide) ?_
        obtain ⟨hi4, h⟩ := bd_inv h
        refine wast hx hb hK hP hD hS aR10 hi4 dX10_runs_52 (fun H locs hP hD hS => ?_)
        refine lv_aload_n hx hb dX10_runs_53 rfl (lv_at hl 1 rfl) ?_
        refine gf_X10_24 hx hb hts iw_X10_runs_X10 hown hK hP (hts (.fieldLink RX10 40 "TraceTreesModel" "dropsOf" "[I") (List.mem_of_getElem? (i := 6) rfl)) dX10_runs_54 ?_
        refine lv_iload_n hx hb dX10_runs_57 rfl (lv_at hl 0 rfl) ?_
        refine lv_iconst (v := 0) hx hb dX10_runs_58 (by decide) ?_
        refine wast hx hb hK hP hD hS aR11 hi4 dX10_runs_59 (fun H locs hP hD hS => ?_)
        refine lv_iinc (v := (x40.1 + (1 : Int32))) (lv' := [(2, .int (x40.1 + (1 : Int32))), (0, .ref (ad 0)), (1, .int a1)]) hx hb dX10_runs_60 hl (k := 0) rfl rfl (by decide) rfl (fun ls hl => ?_)
        refine lv_goto (tgt := 40) hx hb dX10_runs_63 (by decide) ?_
        obtain rfl := Option.some.inj h
        exact ht40 rfl H locs ls hP hD hS (lv_sub (l' := [(2, .int (x40.1 + (1 : Int32))), (0, .ref (ad 0)), (1, .int a1)]) hl [0, 1, 2] rfl)
    · intro H locs ls hP hD hS hl
      refine lv_aload_n hx hb dX10_runs_66 rfl (lv_at hl 0 rfl) ?_
      refine lv_iconst (v := 0) hx hb dX10_runs_67 (by decide) ?_
      refine pf_X10_16 hx hb hts iw_X10_runs_X10 hown hK hP hD hS (hts (.fieldLink RX10 241 "TraceTreesModel" "point" "I") (List.mem_of_getElem? (i := 7) rfl)) dX10_runs_68 (fun H locs hP hD hS => ?_)
      refine lv_aload_n hx hb dX10_runs_71 rfl (lv_at hl 0 rfl) ?_
      refine lv_iconst (v := 0) hx hb dX10_runs_72 (by decide) ?_
      refine pf_X10_17 hx hb hts iw_X10_runs_X10 hown hK hP hD hS (hts (.fieldLink RX10 250 "TraceTreesModel" "steps" "I") (List.mem_of_getElem? (i := 8) rfl)) dX10_runs_73 (fun H locs hP hD hS => ?_)
      refine lv_aload_n hx hb dX10_runs_76 rfl (lv_at hl 0 rfl) ?_
      refine lv_iconst (v := 0) hx hb dX10_runs_77 (by decide) ?_
      refine pf_X10_18 hx hb hts iw_X10_runs_X10 hown hK hP hD hS (hts (.fieldLink RX10 307 "TraceTreesModel" "compiled" "I") (List.mem_of_getElem? (i := 9) rfl)) dX10_runs_78 (fun H locs hP hD hS => ?_)
      refine lv_aload_n hx hb dX10_runs_81 rfl (lv_at hl 0 rfl) ?_
      refine lv_iconst (v := 0) hx hb dX10_runs_82 (by decide) ?_
      refine pf_X10_19 hx hb hts iw_X10_runs_X10 hown hK hP hD hS (hts (.fieldLink RX10 292 "TraceTreesModel" "exits" "I") (List.mem_of_getElem? (i := 10) rfl)) dX10_runs_83 (fun H locs hP hD hS => ?_)
      refine lv_aload_n hx hb dX10_runs_86 rfl (lv_at hl 0 rfl) ?_
      refine lv_iconst (v := 0) hx hb dX10_runs_87 (by decide) ?_
      refine pf_X10_20 hx hb hts iw_X10_runs_X10 hown hK hP hD hS (hts (.fieldLink RX10 271 "TraceTreesModel" "drops" "I") (List.mem_of_getElem? (i := 11) rfl)) dX10_runs_88 (fun H locs hP hD hS => ?_)
      refine lv_aload_n hx hb dX10_runs_91 rfl (lv_at hl 0 rfl) ?_
      refine lv_iconst (v := 0) hx hb dX10_runs_92 (by decide) ?_
      refine pf_X10_25 hx hb hts iw_X10_runs_X10 hown hK hP hD hS (hts (.fieldLink RX10 253 "TraceTreesModel" "traces" "I") (List.mem_of_getElem? (i := 12) rfl)) dX10_runs_93 (fun H locs hP hD hS => ?_)
      refine lv_aload_n hx hb dX10_runs_96 rfl (lv_at hl 0 rfl) ?_
      refine lv_iconst (v := (-1)) hx hb dX10_runs_97 (by decide) ?_
      refine pf_X10_37 hx hb hts iw_X10_runs_X10 hown hK hP hD hS (hts (.fieldLink RX10 286 "TraceTreesModel" "trace" "I") (List.mem_of_getElem? (i := 13) rfl)) dX10_runs_98 (fun H locs hP hD hS => ?_)
      refine lv_aload_n hx hb dX10_runs_101 rfl (lv_at hl 0 rfl) ?_
      refine lv_iconst (v := 0) hx hb dX10_runs_102 (by decide) ?_
      refine pf_X10_39 (Or.inl rfl) hx hb hts iw_X10_runs_X10 hown hK hP hD hS (hts (.fieldLink RX10 256 "TraceTreesModel" "records" "Z") (List.mem_of_getElem? (i := 14) rfl)) dX10_runs_103 (fun H locs hP hD hS => ?_)
      refine lv_aload_n hx hb dX10_runs_106 rfl (lv_at hl 0 rfl) ?_
      refine lv_iconst (v := 0) hx hb dX10_runs_107 (by decide) ?_
      refine pf_X10_44 (Or.inl rfl) hx hb hts iw_X10_runs_X10 hown hK hP hD hS (hts (.fieldLink RX10 301 "TraceTreesModel" "skips" "Z") (List.mem_of_getElem? (i := 15) rfl)) dX10_runs_108 (fun H locs hP hD hS => ?_)
      refine lv_aload_n hx hb dX10_runs_111 rfl (lv_at hl 0 rfl) ?_
      refine lv_iconst (v := 1) hx hb dX10_runs_112 (by decide) ?_
      refine pf_X10_22 (Or.inr rfl) hx hb hts iw_X10_runs_X10 hown hK hP hD hS (hts (.fieldLink RX10 316 "TraceTreesModel" "going" "Z") (List.mem_of_getElem? (i := 16) rfl)) dX10_runs_113 (fun H locs hP hD hS => ?_)
      obtain ⟨y116, hlp116, h⟩ := obd_inv h
      refine lp_W (fun x116 : Sg => ∀ (H : Heap) (locs : List Loc) (ls : Array Slot), va_P (dC, dI) vwCl (Wd 24 (cfR ad cI) x116) H → va_D A (Wd 24 (cfR ad cI) x116) → va_S A s.heap H locs → lv_has ls 3 [(0, .ref (ad 0)), (1, .int a1)] → W p l e (headSpec vc_X10_runs { frames := 8, cells := 0, slots := 0, locals := 204 }).room s m (List.toArray (α := Value) [.ref (ad 0), .int a1]) below meth c H locs 0 0 (MQ below (va_Qv (fun (_ : Unit) => True) (gB (dC, dI) A (fun (_ : Unit) => (Wd 24 (cfR ad cI) o))) A) (List.toArray (α := Value) [.ref (ad 0), .int a1]) s 0 0 A) (F0 m 116 ls [])) (fun y116 : Sg => ∀ (H : Heap) (locs : List Loc) (ls : Array Slot), va_P (dC, dI) vwCl (Wd 24 (cfR ad cI) y116) H → va_D A (Wd 24 (cfR ad cI) y116) → va_S A s.heap H locs → lv_has ls 3 [(0, .ref (ad 0))] → W p l e (headSpec vc_X10_runs { frames := 8, cells := 0, slots := 0, locals := 204 }).room s m (List.toArray (α := Value) [.ref (ad 0), .int a1]) below meth c H locs 0 0 (MQ below (va_Qv (fun (_ : Unit) => True) (gB (dC, dI) A (fun (_ : Unit) => (Wd 24 (cfR ad cI) o))) A) (List.toArray (α := Value) [.ref (ad 0), .int a1]) s 0 0 A) (F0 m 179 ls [])) ?_ 1000 (su (su (su (su (su (su (su (su (su (su y40.2 0 16 (0 : Int32)) 0 17 (0 : Int32)) 0 18 (0 : Int32)) 0 19 (0 : Int32)) 0 20 (0 : Int32)) 0 25 (0 : Int32)) 0 37 (-1 : Int32)) 0 39 (0 : Int32)) 0 44 (0 : Int32)) 0 22 (1 : Int32)) y116 hlp116 ?_ H locs ls hP hD hS (lv_sub (l' := [(0, .ref (ad 0)), (1, .int a1)]) hl [0, 1] rfl)
      · intro x116 yy116 h ht116 hf116 H locs ls hP hD hS hl
        unfold zl_X10_runs_116 at h
        refine lv_aload_n hx hb dX10_runs_116 rfl (lv_at hl 0 rfl) ?_
        refine gf_X10_22 hx hb hts iw_X10_runs_X10 hown hK hP (hts (.fieldLink RX10 316 "TraceTreesModel" "going" "Z") (List.mem_of_getElem? (i := 16) rfl)) dX10_runs_117 ?_
        refine lv_if_eq (tgt := 179) hx hb dX10_runs_120 (by decide) (fun c5 => ?_) (fun c5 => ?_)
        · replace h := ifp (c5) h
          obtain rfl := Option.some.inj h
          exact hf116 rfl H locs ls hP hD hS (lv_sub (l' := [(0, .ref (ad 0))]) hl [0] rfl)
        · replace h := ifn (c5) h
          refine lv_aload_n hx hb dX10_runs_123 rfl (lv_at hl 0 rfl) ?_
          refine gf_X10_17 hx hb hts iw_X10_runs_X10 hown hK hP (hts (.fieldLink RX10 250 "TraceTreesModel" "steps" "I") (List.mem_of_getElem? (i := 8) rfl)) dX10_runs_124 ?_
          refine lv_aload_n hx hb dX10_runs_127 rfl (lv_at hl 0 rfl) ?_
          refine gf_X10_9 hx hb hts iw_X10_runs_X10 hown hK hP (hts (.fieldLink RX10 79 "TraceTreesModel" "limit" "I") (List.mem_of_getElem? (i := 17) rfl)) dX10_runs_128 ?_
          refine lv_icmp_ne (tgt := 147) hx hb dX10_runs_131 (by decide) (fun c6 => ?_) (fun c6 => ?_)
          · replace h := ifn (c6) h
            refine lv_aload_n hx hb dX10_runs_147 rfl (lv_at hl 0 rfl) ?_
            refine gf_X10_16 hx hb hts iw_X10_runs_X10 hown hK hP (hts (.fieldLink RX10 241 "TraceTreesModel" "point" "I") (List.mem_of_getElem? (i := 7) rfl)) dX10_runs_148 ?_
            refine lv_aload_n hx hb dX10_runs_151 rfl (lv_at hl 0 rfl) ?_
            refine gf_X10_5 hx hb hts iw_X10_runs_X10 hown hK hP (hts (.fieldLink RX10 162 "TraceTreesModel" "codes" "I") (List.mem_of_getElem? (i := 18) rfl)) dX10_runs_152 ?_
            refine lv_icmp_lt (tgt := 171) hx hb dX10_runs_155 (by decide) (fun c7 => ?_) (fun c7 => ?_)
            · replace h := ifp (c7) h
              refine lv_aload_n hx hb dX10_runs_171 rfl (lv_at hl 0 rfl) ?_
              refine lv_iload_n hx hb dX10_runs_172 rfl (lv_at hl 1 rfl) ?_
              obtain ⟨σ8, hc8, h⟩ := obd_inv h
              refine wcallv (S := Unit) (va_runV (As := [.int a1]) (rest := []) ⟨hx, hb, hml, hown, hts⟩ (c_X10_step l dC dI cI cT cS H.size ad  a1 x116 _ hc8) (cwV 1 hts (gWV (List.mem_of_getElem? (i := 19) rfl) (List.mem_of_getElem? (i := 20) rfl) (List.mem_of_getElem? (i := 21) rfl) (List.mem_of_getElem? (i := 22) rfl) ic_X10_runs_c_X10_step gd_c_X10_step) rfl rfl rfl (by decide +kernel) ⟨(Nat.le_of_ble_eq_true rfl), (Nat.le_of_ble_eq_true rfl)⟩) (wpV (q := (RX10, TX10, 46)) hP hK hD oX10 rfl) rfl rfl hl.1 rfl (lv_room (Nat.le_of_ble_eq_true rfl)) dX10_runs_173 ⟨(Nat.le_of_ble_eq_true rfl), (Nat.le_of_ble_eq_true rfl)⟩) hP hD hS hA (fun _ H locs hr9 hP hD hS => ?_)
              replace hP : va_P (dC, dI) vwCl (Wd 24 (cfR ad cI) σ8) H := hP
              replace hD : va_D A (Wd 24 (cfR ad cI) σ8) := hD
              refine lv_goto (tgt := 116) hx hb dX10_runs_176 (by decide) ?_
              obtain rfl := Option.some.inj h
              exact ht116 rfl H locs ls hP hD hS (lv_sub (l' := [(0, .ref (ad 0)), (1, .int a1)]) hl [0, 1] rfl)
            · replace h := ifn (c7) h
              refine lv_aload_n hx hb dX10_runs_158 rfl (lv_at hl 0 rfl) ?_
              refine lv_iconst (v := 0) hx hb dX10_runs_159 (by decide) ?_
              refine pf_X10_22 (Or.inl rfl) hx hb hts iw_X10_runs_X10 hown hK hP hD hS (hts (.fieldLink RX10 316 "TraceTreesModel" "going" "Z") (List.mem_of_getElem? (i := 16) rfl)) dX10_runs_160 (fun H locs hP hD hS => ?_)
              refine lv_aload_n hx hb dX10_runs_163 rfl (lv_at hl 0 rfl) ?_
              refine lv_iconst (v := 2) hx hb dX10_runs_164 (by decide) ?_
              refine pf_X10_21 hx hb hts iw_X10_runs_X10 hown hK hP hD hS (hts (.fieldLink RX10 319 "TraceTreesModel" "end" "I") (List.mem_of_getElem? (i := 23) rfl)) dX10_runs_165 (fun H locs hP hD hS => ?_)
              refine lv_goto (tgt := 116) hx hb dX10_runs_168 (by decide) ?_
              obtain rfl := Option.some.inj h
              exact ht116 rfl H locs ls hP hD hS (lv_sub (l' := [(0, .ref (ad 0)), (1, .int a1)]) hl [0, 1] rfl)
          · replace h := ifp (c6) h
            refine lv_aload_n hx hb dX10_runs_134 rfl (lv_at hl 0 rfl) ?_
            refine lv_iconst (v := 0) hx hb dX10_runs_135 (by decide) ?_
            refine pf_X10_22 (Or.inl rfl) hx hb hts iw_X10_runs_X10 hown hK hP hD hS (hts (.fieldLink RX10 316 "TraceTreesModel" "going" "Z") (List.mem_of_getElem? (i := 16) rfl)) dX10_runs_136 (fun H locs hP hD hS => ?_)
            refine lv_aload_n hx hb dX10_runs_139 rfl (lv_at hl 0 rfl) ?_
            refine lv_iconst (v := 0) hx hb dX10_runs_140 (by decide) ?_
            refine pf_X10_21 hx hb hts iw_X10_runs_X10 hown hK hP hD hS (hts (.fieldLink RX10 319 "TraceTreesModel" "end" "I") (List.mem_of_getElem? (i := 23) rfl)) dX10_runs_141 (fun H locs hP hD hS => ?_)
            refine lv_goto (tgt := 116) hx hb dX10_runs_144 (by decide) ?_
            obtain rfl := Option.some.inj h
            exact ht116 rfl H locs ls hP hD hS (lv_sub (l' := [(0, .ref (ad 0)), (1, .int a1)]) hl [0, 1] rfl)
      · intro H locs ls hP hD hS hl
        refine lv_aload_n hx hb dX10_runs_179 rfl (lv_at hl 0 rfl) ?_
        refine gf_X10_39 hx hb hts iw_X10_runs_X10 hown hK hP (hts (.fieldLink RX10 256 "TraceTreesModel" "records" "Z") (List.mem_of_getElem? (i := 14) rfl)) dX10_runs_180 ?_
        refine lv_if_eq (tgt := 190) hx hb dX10_runs_183 (by decide) (fun c10 => ?_) (fun c10 => ?_)
        · replace h := ifp (c10) h
          exact J190 y116 H locs ls h hP hD hS (lv_sub (l' := []) hl [] rfl)
        · replace h := ifn (c10) h
          refine lv_aload_n hx hb dX10_runs_186 rfl (lv_at hl 0 rfl) ?_
          obtain ⟨σ11, hc11, h⟩ := obd_inv h
          refine wcallv (S := Unit) (va_runV (As := []) (rest := []) ⟨hx, hb, hml, hown, hts⟩ (c_X10_lets l dC dI cI cT cS H.size ad   y116 _ hc11) (cwV 0 hts (gWV (List.mem_of_getElem? (i := 24) rfl) (List.mem_of_getElem? (i := 25) rfl) (List.mem_of_getElem? (i := 26) rfl) (List.mem_of_getElem? (i := 22) rfl) ic_X10_runs_c_X10_lets gd_c_X10_lets) rfl rfl rfl (by decide +kernel) ⟨(Nat.le_of_ble_eq_true rfl), (Nat.le_of_ble_eq_true rfl)⟩) (wpV (q := (RX10, TX10, 46)) hP hK hD oX10 rfl) rfl rfl hl.1 rfl (lv_room (Nat.le_of_ble_eq_true rfl)) dX10_runs_187 ⟨(Nat.le_of_ble_eq_true rfl), (Nat.le_of_ble_eq_true rfl)⟩) hP hD hS hA (fun _ H locs hr12 hP hD hS => ?_)
          replace hP : va_P (dC, dI) vwCl (Wd 24 (cfR ad cI) σ11) H := hP
          replace hD : va_D A (Wd 24 (cfR ad cI) σ11) := hD
          exact J190 σ11 H locs ls h hP hD hS (lv_sub (l' := []) hl [] rfl)
def zb_X10_valueBy_19 (w0_19 : Int32) : Option (Int32) := some w0_19
def zf_X10_valueBy (a1 : Int32) (a2 : Int32) (σ : Sg) : Option (Int32) := (if a2 = 0 then bd a1 8 ((zb_X10_valueBy_19 (σ 8 a1.toNatClampNeg))) else bd a1 8 ((zb_X10_valueBy_19 (σ 9 a1.toNatClampNeg))))
def oc_X10_valueBy : List Cond := [.fieldLink RX10 34 "TraceTreesModel" "bits" "[I", .fieldLink RX10 31 "TraceTreesModel" "kinds" "[I"]
def vc_X10_valueBy : List Cond := .code yX10_valueBy cX10_valueBy 3 (some .int) :: (oc_X10_valueBy ++ (wsX100))
theorem iw_X10_valueBy_X10 : ∀ w ∈ wsX100, w ∈ vc_X10_valueBy := fun _ h => List.mem_cons_of_mem _ (List.mem_append_right _ (h))
theorem gd_c_X10_valueBy : (vc_X10_valueBy).all goodWord = true := gall_cons rfl (gall_app (by decide +kernel) gw_X10)
set_option maxHeartbeats 4000000 in
set_option maxRecDepth 100000 in
theorem c_X10_valueBy (l : Launch) (dC : Nat → ClassId) (dI : Nat → Nat → Nat) (cI cT cS : ClassId) (sz : Nat) (ad : Nat → Nat) (a1 : Int32) (a2 : Int32) (σ : Sg) (o : Int32) (h : zf_X10_valueBy a1 a2 σ = some o) : gCI (S := Unit) l yX10_valueBy vc_X10_valueBy { frames := 0, cells := 0, slots := 0, locals := 0 } (dC, dI) (gTY cI cT cS) sz [.ref (ad 0), .int a1, .int a2] (Wd 24 (cfR ad cI) σ) (fun (r : Int32) (_ : Unit) => r = o) (fun (_ : Unit) => (Wd 24 (cfR ad cI) σ)) 0 0 := by
  refine Met.ofW (cc := cX10_valueBy) (maxL := 3) (ret := (some .int)) (by decide) rfl ?_
  intro p e s m args below meth c s₁ B hml hv
  obtain ⟨rfl, hsz, hP, hK, hD0⟩ := hv
  have hx := B.exec
  have hb := B.bytes
  have hr := B.returns
  have hts := atoms_spec (ws := vc_X10_valueBy) B.pre
  have hown : s.vm.findClass RX10 = some m.cls := findClass_of_methodNamed B.named
  have hlocks := B.notSynchronized
  subst hsz
  have hD := hD0.self (sz := s.heap.size)
  generalize hAe : va_A (Wd 24 (cfR ad cI) σ) s.heap.size = A at hD ⊢
  have hA : ∀ q : Nat, s.heap.size ≤ q → A q := fun q h => by rw [← hAe]; exact Or.inr h
  clear hAe hD0
  refine gstart (fun H locs hHe hLe => ?_)
  have hS : va_S A s.heap H locs := by rw [← hHe, ← hLe]; exact va_S.rf
  replace hP : va_P (dC, dI) vwCl (Wd 24 (cfR ad cI) σ) H := by rw [← hHe]; exact hP
  clear hHe hLe
  have hl := lv_entry ([.ref (ad 0), .int a1, .int a2]) (n := 3) (Nat.le_of_ble_eq_true rfl)
  rw [lg_entry_eq]
  generalize (lg_sl ([.ref (ad 0), .int a1, .int a2]) ++ List.replicate (3 - (lg_sl ([.ref (ad 0), .int a1, .int a2])).length) Slot.unset).toArray = ls at hl ⊢
  replace hl : lv_has ls 3 [(0, .ref (ad 0)), (1, .int a1), (2, .int a2)] := hl
  unfold zf_X10_valueBy at h
  have J19 : ∀ (w0_19 : Int32) (H : Heap) (locs : List Loc) (ls : Array Slot), zb_X10_valueBy_19 w0_19 = some o → va_P (dC, dI) vwCl (Wd 24 (cfR ad cI) σ) H → va_D A (Wd 24 (cfR ad cI) σ) → va_S A s.heap H locs → lv_has ls 3 [] → W p l e (headSpec vc_X10_valueBy { frames := 0, cells := 0, slots := 0, locals := 0 }).room s m (List.toArray (α := Value) [.ref (ad 0), .int a1, .int a2]) below meth c H locs 0 0 (MQ below (va_Qi (fun (r : Int32) (_ : Unit) => r = o) (gB (dC, dI) A (fun (_ : Unit) => (Wd 24 (cfR ad cI) σ))) A) (List.toArray (α := Value) [.ref (ad 0), .int a1, .int a2]) s 0 0 A) (F0 m 19 ls [.int w0_19]) := by
    intro w0_19 H locs ls h hP hD hS hl
    unfold zb_X10_valueBy_19 at h
    have h9 := Option.some.inj h
    exact wreti hx hb hr hlocks hP hD hS (by show _ = _; rw [← h9]; first | done | rfl) rfl dX10_valueBy_19
  refine lv_iload_n hx hb dX10_valueBy_0 rfl (lv_at hl 2 rfl) ?_
  refine lv_if_ne (tgt := 13) hx hb dX10_valueBy_1 (by decide) (fun c1 => ?_) (fun c1 => ?_)
  · replace h := ifn (c1) h
    refine lv_aload_n hx hb dX10_valueBy_13 rfl (lv_at hl 0 rfl) ?_
    refine gf_X10_12 hx hb hts iw_X10_valueBy_X10 hown hK hP (hts (.fieldLink RX10 34 "TraceTreesModel" "bits" "[I") (List.mem_of_getElem? (i := 1) rfl)) dX10_valueBy_14 ?_
    refine lv_iload_n hx hb dX10_valueBy_17 rfl (lv_at hl 1 rfl) ?_
    obtain ⟨hi2, h⟩ := bd_inv h
    refine wald hx hb hK hP aR9 hi2 dX10_valueBy_18 ?_
    exact J19 (σ 9 a1.toNatClampNeg) H locs ls h hP hD hS (lv_sub (l' := []) hl [] rfl)
  · replace h := ifp (c1) h
    refine lv_aload_n hx hb dX10_valueBy_4 rfl (lv_at hl 0 rfl) ?_
    refine gf_X10_11 hx hb hts iw_X10_valueBy_X10 hown hK hP (hts (.fieldLink RX10 31 "TraceTreesModel" "kinds" "[I") (List.mem_of_getElem? (i := 2) rfl)) dX10_valueBy_5 ?_
    refine lv_iload_n hx hb dX10_valueBy_8 rfl (lv_at hl 1 rfl) ?_
    obtain ⟨hi3, h⟩ := bd_inv h
    refine wald hx hb hK hP aR8 hi3 dX10_valueBy_9 ?_
    refine lv_goto (tgt := 19) hx hb dX10_valueBy_10 (by decide) ?_
    exact J19 (σ 8 a1.toNatClampNeg) H locs ls h hP hD hS (lv_sub (l' := []) hl [] rfl)
def zb_X10_value_33 (w0_33 : Int32) (σb33 : Sg) : Option (Int32 × Sg) := some (w0_33, σb33)
def zb_X10_value_31 (σb31 : Sg) : Option (Int32 × Sg) := (zb_X10_value_33 (-2147483648 : Int32) σb31)
def zf_X10_value (a1 : Int32) (a2 : Int32) (σ : Sg) : Option (Int32 × Sg) := obd (zf_X10_runs (σ 0 10) σ) (fun σ1 => (if (zf_X10_isRegister a1) = true then (if (zf_X10_isTwo a2) = true then obd (zf_X10_valueBy a1 a2 σ1) (fun r7 => (zb_X10_value_33 r7 σ1)) else (zb_X10_value_31 σ1)) else (zb_X10_value_31 σ1)))
def oc_X10_value : List Cond := [.fieldLink RX10 83 "TraceTreesModel" "hot" "I", .methodLink RX10 344 yX10_runs, .instanceMethod yX10_runs, .selects RX10 yX10_runs yX10_runs, .initialized RX10, .methodLink RX10 172 yX10_isRegister, .static yX10_isRegister, .methodLink RX10 175 yX10_isTwo, .static yX10_isTwo, .methodLink RX10 347 yX10_valueBy, .instanceMethod yX10_valueBy, .selects RX10 yX10_valueBy yX10_valueBy, .constant RX10 113 (-2147483648)]
def vc_X10_value : List Cond := .code yX10_value cX10_value 3 (some .int) :: (oc_X10_value ++ (wsX100 ++ (vc_X10_runs ++ (vc_X10_isRegister ++ (vc_X10_isTwo ++ (vc_X10_valueBy))))))
theorem iw_X10_value_X10 : ∀ w ∈ wsX100, w ∈ vc_X10_value := fun _ h => List.mem_cons_of_mem _ (List.mem_append_right _ (List.mem_append_left _ h))
theorem ic_X10_value_c_X10_runs : ∀ w ∈ vc_X10_runs, w ∈ vc_X10_value := fun _ h => List.mem_cons_of_mem _ (List.mem_append_right _ (List.mem_append_right _ (List.mem_append_left _ h)))
theorem ic_X10_value_c_X10_isRegister : ∀ w ∈ vc_X10_isRegister, w ∈ vc_X10_value := fun _ h => List.mem_cons_of_mem _ (List.mem_append_right _ (List.mem_append_right _ (List.mem_append_right _ (List.mem_append_left _ h))))
theorem ic_X10_value_c_X10_isTwo : ∀ w ∈ vc_X10_isTwo, w ∈ vc_X10_value := fun _ h => List.mem_cons_of_mem _ (List.mem_append_right _ (List.mem_append_right _ (List.mem_append_right _ (List.mem_append_right _ (List.mem_append_left _ h)))))
theorem ic_X10_value_c_X10_valueBy : ∀ w ∈ vc_X10_valueBy, w ∈ vc_X10_value := fun _ h => List.mem_cons_of_mem _ (List.mem_append_right _ (List.mem_append_right _ (List.mem_append_right _ (List.mem_append_right _ (List.mem_append_right _ (h))))))
theorem gd_c_X10_value : (vc_X10_value).all goodWord = true := gall_cons rfl (gall_app (by decide +kernel) (gall_app gw_X10 (gall_app gd_c_X10_runs (gall_app gd_c_X10_isRegister (gall_app gd_c_X10_isTwo gd_c_X10_valueBy)))))
set_option maxHeartbeats 4000000 in
set_option maxRecDepth 100000 in
theorem c_X10_value (l : Launch) (dC : Nat → ClassId) (dI : Nat → Nat → Nat) (cI cT cS : ClassId) (sz : Nat) (ad : Nat → Nat) (a1 : Int32) (a2 : Int32) (σ : Sg) (o : Int32 × Sg) (h : zf_X10_value a1 a2 σ = some o) : gCI (S := Unit) l yX10_value vc_X10_value { frames := 9, cells := 0, slots := 0, locals := 226 } (dC, dI) (gTY cI cT cS) sz [.ref (ad 0), .int a1, .int a2] (Wd 24 (cfR ad cI) σ) (fun (r : Int32) (_ : Unit) => r = o.1) (fun (_ : Unit) => (Wd 24 (cfR ad cI) o.2)) 0 0 := by
  refine Met.ofW (cc := cX10_value) (maxL := 3) (ret := (some .int)) (by decide) rfl ?_
  intro p e s m args below meth c s₁ B hml hv
  obtain ⟨rfl, hsz, hP, hK, hD0⟩ := hv
  have hx := B.exec
  have hb := B.bytes
  have hr := B.returns
  have hts := atoms_spec (ws := vc_X10_value) B.pre
  have hown : s.vm.findClass RX10 = some m.cls := findClass_of_methodNamed B.named
  have hlocks := B.notSynchronized
  subst hsz
  have hD := hD0.self (sz := s.heap.size)
  generalize hAe : va_A (Wd 24 (cfR ad cI) σ) s.heap.size = A at hD ⊢
  have hA : ∀ q : Nat, s.heap.size ≤ q → A q := fun q h => by rw [← hAe]; exact Or.inr h
  clear hAe hD0
  refine gstart (fun H locs hHe hLe => ?_)
  have hS : va_S A s.heap H locs := by rw [← hHe, ← hLe]; exact va_S.rf
  replace hP : va_P (dC, dI) vwCl (Wd 24 (cfR ad cI) σ) H := by rw [← hHe]; exact hP
  clear hHe hLe
  have hl := lv_entry ([.ref (ad 0), .int a1, .int a2]) (n := 3) (Nat.le_of_ble_eq_true rfl)
  rw [lg_entry_eq]
  generalize (lg_sl ([.ref (ad 0), .int a1, .int a2]) ++ List.replicate (3 - (lg_sl ([.ref (ad 0), .int a1, .int a2])).length) Slot.unset).toArray = ls at hl ⊢
  replace hl : lv_has ls 3 [(0, .ref (ad 0)), (1, .int a1), (2, .int a2)] := hl
  unfold zf_X10_value at h
  have J33 : ∀ (w0_33 : Int32) (σb33 : Sg) (H : Heap) (locs : List Loc) (ls : Array Slot), zb_X10_value_33 w0_33 σb33 = some o → va_P (dC, dI) vwCl (Wd 24 (cfR ad cI) σb33) H → va_D A (Wd 24 (cfR ad cI) σb33) → va_S A s.heap H locs → lv_has ls 3 [] → W p l e (headSpec vc_X10_value { frames := 9, cells := 0, slots := 0, locals := 226 }).room s m (List.toArray (α := Value) [.ref (ad 0), .int a1, .int a2]) below meth c H locs 0 0 (MQ below (va_Qi (fun (r : Int32) (_ : Unit) => r = o.1) (gB (dC, dI) A (fun (_ : Unit) => (Wd 24 (cfR ad cI) o.2))) A) (List.toArray (α := Value) [.ref (ad 0), .int a1, .int a2]) s 0 0 A) (F0 m 33 ls [.int w0_33]) := by
    intro w0_33 σb33 H locs ls h hP hD hS hl
    unfold zb_X10_value_33 at h
    have h9 := Option.some.inj h
    exact wreti hx hb hr hlocks hP hD hS (by show _ = _; rw [← h9]; first | done | rfl) (by rw [← h9]) dX10_value_33
  have J31 : ∀ (σb31 : Sg) (H : Heap) (locs : List Loc) (ls : Array Slot), zb_X10_value_31 σb31 = some o → va_P (dC, dI) vwCl (Wd 24 (cfR ad cI) σb31) H → va_D A (Wd 24 (cfR ad cI) σb31) → va_S A s.heap H locs → lv_has ls 3 [] → W p l e (headSpec vc_X10_value { frames := 9, cells := 0, slots := 0, locals := 226 }).room s m (List.toArray (α := Value) [.ref (ad 0), .int a1, .int a2]) below meth c H locs 0 0 (MQ below (va_Qi (fun (r : Int32) (_ : Unit) => r = o.1) (gB (dC, dI) A (fun (_ : Unit) => (Wd 24 (cfR ad cI) o.2))) A) (List.toArray (α := Value) [.ref (ad 0), .int a1, .int a2]) s 0 0 A) (F0 m 31 ls []) := by
    intro σb31 H locs ls h hP hD hS hl
    unfold zb_X10_value_31 at h
    refine lv_ldc (v := (-2147483648)) hx hb hown (hts (.constant RX10 113 (-2147483648)) (List.mem_of_getElem? (i := 13) rfl)) dX10_value_31 ?_
    exact J33 (-2147483648 : Int32) σb31 H locs ls h hP hD hS (lv_sub (l' := []) hl [] rfl)
  refine lv_aload_n hx hb dX10_value_0 rfl (lv_at hl 0 rfl) ?_
  refine lv_aload_n hx hb dX10_value_1 rfl (lv_at hl 0 rfl) ?_
  refine gf_X10_10 hx hb hts iw_X10_value_X10 hown hK hP (hts (.fieldLink RX10 83 "TraceTreesModel" "hot" "I") (List.mem_of_getElem? (i := 1) rfl)) dX10_value_2 ?_
  obtain ⟨σ1, hc1, h⟩ := obd_inv h
  refine wcallv (S := Unit) (va_runV (As := [.int (σ 0 10)]) (rest := []) ⟨hx, hb, hml, hown, hts⟩ (c_X10_runs l dC dI cI cT cS H.size ad  (σ 0 10) σ _ hc1) (cwV 1 hts (gWV (List.mem_of_getElem? (i := 2) rfl) (List.mem_of_getElem? (i := 3) rfl) (List.mem_of_getElem? (i := 4) rfl) (List.mem_of_getElem? (i := 5) rfl) ic_X10_value_c_X10_runs gd_c_X10_runs) rfl rfl rfl (by decide +kernel) ⟨(Nat.le_of_ble_eq_true rfl), (Nat.le_of_ble_eq_true rfl)⟩) (wpV (q := (RX10, TX10, 46)) hP hK hD oX10 rfl) rfl rfl hl.1 rfl (lv_room (Nat.le_of_ble_eq_true rfl)) dX10_value_5 ⟨(Nat.le_of_ble_eq_true rfl), (Nat.le_of_ble_eq_true rfl)⟩) hP hD hS hA (fun _ H locs hr2 hP hD hS => ?_)
  replace hP : va_P (dC, dI) vwCl (Wd 24 (cfR ad cI) σ1) H := hP
  replace hD : va_D A (Wd 24 (cfR ad cI) σ1) := hD
  refine lv_iload_n hx hb dX10_value_8 rfl (lv_at hl 1 rfl) ?_
  refine wcalli (S := Unit) (va_runS (As := [.int a1]) (rest := []) ⟨hx, hb, hml, hown, hts⟩ (c_X10_isRegister l dC dI cI cT cS H.size (Wd 24 (cfR ad cI) σ1)  a1 _ rfl) (va_cwS 1 hts (gWS (List.mem_of_getElem? (i := 6) rfl) (List.mem_of_getElem? (i := 7) rfl) (List.mem_of_getElem? (i := 5) rfl) ic_X10_value_c_X10_isRegister gd_c_X10_isRegister) rfl rfl rfl (by decide +kernel) ⟨(Nat.le_of_ble_eq_true rfl), (Nat.le_of_ble_eq_true rfl)⟩) (gpS hP hK hD) rfl rfl hl.1 rfl (lv_room (Nat.le_of_ble_eq_true rfl)) dX10_value_9 ⟨(Nat.le_of_ble_eq_true rfl), (Nat.le_of_ble_eq_true rfl)⟩) hP hD hS hA (fun rr3 _ H locs hr3 hP hD hS => ?_)
  refine lv_nm (y := b2i (zf_X10_isRegister a1)) hr3 ?_
  refine lv_if_eq (tgt := 31) hx hb dX10_value_12 (by decide) (fun c4 => ?_) (fun c4 => ?_)
  · replace h := ifn (b2i_0 c4) h
    exact J31 σ1 H locs ls h hP hD hS (lv_sub (l' := []) hl [] rfl)
  · replace h := ifp (b2i_1 c4) h
    refine lv_iload_n hx hb dX10_value_15 rfl (lv_at hl 2 rfl) ?_
    refine wcalli (S := Unit) (va_runS (As := [.int a2]) (rest := []) ⟨hx, hb, hml, hown, hts⟩ (c_X10_isTwo l dC dI cI cT cS H.size (Wd 24 (cfR ad cI) σ1)  a2 _ rfl) (va_cwS 1 hts (gWS (List.mem_of_getElem? (i := 8) rfl) (List.mem_of_getElem? (i := 9) rfl) (List.mem_of_getElem? (i := 5) rfl) ic_X10_value_c_X10_isTwo gd_c_X10_isTwo) rfl rfl rfl (by decide +kernel) ⟨(Nat.le_of_ble_eq_true rfl), (Nat.le_of_ble_eq_true rfl)⟩) (gpS hP hK hD) rfl rfl hl.1 rfl (lv_room (Nat.le_of_ble_eq_true rfl)) dX10_value_16 ⟨(Nat.le_of_ble_eq_true rfl), (Nat.le_of_ble_eq_true rfl)⟩) hP hD hS hA (fun rr5 _ H locs hr5 hP hD hS => ?_)
    refine lv_nm (y := b2i (zf_X10_isTwo a2)) hr5 ?_
    refine lv_if_eq (tgt := 31) hx hb dX10_value_19 (by decide) (fun c6 => ?_) (fun c6 => ?_)
    · replace h := ifn (b2i_0 c6) h
      exact J31 σ1 H locs ls h hP hD hS (lv_sub (l' := []) hl [] rfl)
    · replace h := ifp (b2i_1 c6) h
      refine lv_aload_n hx hb dX10_value_22 rfl (lv_at hl 0 rfl) ?_
      refine lv_iload_n hx hb dX10_value_23 rfl (lv_at hl 1 rfl) ?_
      refine lv_iload_n hx hb dX10_value_24 rfl (lv_at hl 2 rfl) ?_
      obtain ⟨r7, hc7, h⟩ := obd_inv h
      refine wcalli (S := Unit) (va_runV (As := [.int a1, .int a2]) (rest := []) ⟨hx, hb, hml, hown, hts⟩ (c_X10_valueBy l dC dI cI cT cS H.size ad  a1 a2 σ1 _ hc7) (cwV 2 hts (gWV (List.mem_of_getElem? (i := 10) rfl) (List.mem_of_getElem? (i := 11) rfl) (List.mem_of_getElem? (i := 12) rfl) (List.mem_of_getElem? (i := 5) rfl) ic_X10_value_c_X10_valueBy gd_c_X10_valueBy) rfl rfl rfl (by decide +kernel) ⟨(Nat.le_of_ble_eq_true rfl), (Nat.le_of_ble_eq_true rfl)⟩) (wpV (q := (RX10, TX10, 46)) hP hK hD oX10 rfl) rfl rfl hl.1 rfl (lv_room (Nat.le_of_ble_eq_true rfl)) dX10_value_25 ⟨(Nat.le_of_ble_eq_true rfl), (Nat.le_of_ble_eq_true rfl)⟩) hP hD hS hA (fun rr8 _ H locs hr8 hP hD hS => ?_)
      refine lv_nm (y := r7) hr8 ?_
      refine lv_goto (tgt := 33) hx hb dX10_value_28 (by decide) ?_
      exact J33 r7 σ1 H locs ls h hP hD hS (lv_sub (l' := []) hl [] rfl)
def zb_X10_plain_30 (w0_30 : Int32) (σb30 : Sg) : Option (Int32 × Sg) := some (w0_30, σb30)
def zb_X10_plain_28 (σb28 : Sg) : Option (Int32 × Sg) := (zb_X10_plain_30 (-2147483648 : Int32) σb28)
def zf_X10_plain (a1 : Int32) (a2 : Int32) (σ : Sg) : Option (Int32 × Sg) := obd (zf_X10_runs (0 : Int32) σ) (fun σ1 => (if (zf_X10_isRegister a1) = true then (if (zf_X10_isTwo a2) = true then obd (zf_X10_valueBy a1 a2 σ1) (fun r7 => (zb_X10_plain_30 r7 σ1)) else (zb_X10_plain_28 σ1)) else (zb_X10_plain_28 σ1)))
def oc_X10_plain : List Cond := [.methodLink RX10 344 yX10_runs, .instanceMethod yX10_runs, .selects RX10 yX10_runs yX10_runs, .initialized RX10, .methodLink RX10 172 yX10_isRegister, .static yX10_isRegister, .methodLink RX10 175 yX10_isTwo, .static yX10_isTwo, .methodLink RX10 347 yX10_valueBy, .instanceMethod yX10_valueBy, .selects RX10 yX10_valueBy yX10_valueBy, .constant RX10 113 (-2147483648)]
def vc_X10_plain : List Cond := .code yX10_plain cX10_plain 3 (some .int) :: (oc_X10_plain ++ (vc_X10_runs ++ (vc_X10_isRegister ++ (vc_X10_isTwo ++ (vc_X10_valueBy)))))
theorem ic_X10_plain_c_X10_runs : ∀ w ∈ vc_X10_runs, w ∈ vc_X10_plain := fun _ h => List.mem_cons_of_mem _ (List.mem_append_right _ (List.mem_append_left _ h))
theorem ic_X10_plain_c_X10_isRegister : ∀ w ∈ vc_X10_isRegister, w ∈ vc_X10_plain := fun _ h => List.mem_cons_of_mem _ (List.mem_append_right _ (List.mem_append_right _ (List.mem_append_left _ h)))
theorem ic_X10_plain_c_X10_isTwo : ∀ w ∈ vc_X10_isTwo, w ∈ vc_X10_plain := fun _ h => List.mem_cons_of_mem _ (List.mem_append_right _ (List.mem_append_right _ (List.mem_append_right _ (List.mem_append_left _ h))))
theorem ic_X10_plain_c_X10_valueBy : ∀ w ∈ vc_X10_valueBy, w ∈ vc_X10_plain := fun _ h => List.mem_cons_of_mem _ (List.mem_append_right _ (List.mem_append_right _ (List.mem_append_right _ (List.mem_append_right _ (h)))))
theorem gd_c_X10_plain : (vc_X10_plain).all goodWord = true := gall_cons rfl (gall_app (by decide +kernel) (gall_app gd_c_X10_runs (gall_app gd_c_X10_isRegister (gall_app gd_c_X10_isTwo gd_c_X10_valueBy))))
set_option maxHeartbeats 4000000 in
set_option maxRecDepth 100000 in
theorem c_X10_plain (l : Launch) (dC : Nat → ClassId) (dI : Nat → Nat → Nat) (cI cT cS : ClassId) (sz : Nat) (ad : Nat → Nat) (a1 : Int32) (a2 : Int32) (σ : Sg) (o : Int32 × Sg) (h : zf_X10_plain a1 a2 σ = some o) : gCI (S := Unit) l yX10_plain vc_X10_plain { frames := 9, cells := 0, slots := 0, locals := 226 } (dC, dI) (gTY cI cT cS) sz [.ref (ad 0), .int a1, .int a2] (Wd 24 (cfR ad cI) σ) (fun (r : Int32) (_ : Unit) => r = o.1) (fun (_ : Unit) => (Wd 24 (cfR ad cI) o.2)) 0 0 := by
  refine Met.ofW (cc := cX10_plain) (maxL := 3) (ret := (some .int)) (by decide) rfl ?_
  intro p e s m args below meth c s₁ B hml hv
  obtain ⟨rfl, hsz, hP, hK, hD0⟩ := hv
  have hx := B.exec
  have hb := B.bytes
  have hr := B.returns
  have hts := atoms_spec (ws := vc_X10_plain) B.pre
  have hown : s.vm.findClass RX10 = some m.cls := findClass_of_methodNamed B.named
  have hlocks := B.notSynchronized
  subst hsz
  have hD := hD0.self (sz := s.heap.size)
  generalize hAe : va_A (Wd 24 (cfR ad cI) σ) s.heap.size = A at hD ⊢
  have hA : ∀ q : Nat, s.heap.size ≤ q → A q := fun q h => by rw [← hAe]; exact Or.inr h
  clear hAe hD0
  refine gstart (fun H locs hHe hLe => ?_)
  have hS : va_S A s.heap H locs := by rw [← hHe, ← hLe]; exact va_S.rf
  replace hP : va_P (dC, dI) vwCl (Wd 24 (cfR ad cI) σ) H := by rw [← hHe]; exact hP
  clear hHe hLe
  have hl := lv_entry ([.ref (ad 0), .int a1, .int a2]) (n := 3) (Nat.le_of_ble_eq_true rfl)
  rw [lg_entry_eq]
  generalize (lg_sl ([.ref (ad 0), .int a1, .int a2]) ++ List.replicate (3 - (lg_sl ([.ref (ad 0), .int a1, .int a2])).length) Slot.unset).toArray = ls at hl ⊢
  replace hl : lv_has ls 3 [(0, .ref (ad 0)), (1, .int a1), (2, .int a2)] := hl
  unfold zf_X10_plain at h
  have J30 : ∀ (w0_30 : Int32) (σb30 : Sg) (H : Heap) (locs : List Loc) (ls : Array Slot), zb_X10_plain_30 w0_30 σb30 = some o → va_P (dC, dI) vwCl (Wd 24 (cfR ad cI) σb30) H → va_D A (Wd 24 (cfR ad cI) σb30) → va_S A s.heap H locs → lv_has ls 3 [] → W p l e (headSpec vc_X10_plain { frames := 9, cells := 0, slots := 0, locals := 226 }).room s m (List.toArray (α := Value) [.ref (ad 0), .int a1, .int a2]) below meth c H locs 0 0 (MQ below (va_Qi (fun (r : Int32) (_ : Unit) => r = o.1) (gB (dC, dI) A (fun (_ : Unit) => (Wd 24 (cfR ad cI) o.2))) A) (List.toArray (α := Value) [.ref (ad 0), .int a1, .int a2]) s 0 0 A) (F0 m 30 ls [.int w0_30]) := by
    intro w0_30 σb30 H locs ls h hP hD hS hl
    unfold zb_X10_plain_30 at h
    have h9 := Option.some.inj h
    exact wreti hx hb hr hlocks hP hD hS (by show _ = _; rw [← h9]; first | done | rfl) (by rw [← h9]) dX10_plain_30
  have J28 : ∀ (σb28 : Sg) (H : Heap) (locs : List Loc) (ls : Array Slot), zb_X10_plain_28 σb28 = some o → va_P (dC, dI) vwCl (Wd 24 (cfR ad cI) σb28) H → va_D A (Wd 24 (cfR ad cI) σb28) → va_S A s.heap H locs → lv_has ls 3 [] → W p l e (headSpec vc_X10_plain { frames := 9, cells := 0, slots := 0, locals := 226 }).room s m (List.toArray (α := Value) [.ref (ad 0), .int a1, .int a2]) below meth c H locs 0 0 (MQ below (va_Qi (fun (r : Int32) (_ : Unit) => r = o.1) (gB (dC, dI) A (fun (_ : Unit) => (Wd 24 (cfR ad cI) o.2))) A) (List.toArray (α := Value) [.ref (ad 0), .int a1, .int a2]) s 0 0 A) (F0 m 28 ls []) := by
    intro σb28 H locs ls h hP hD hS hl
    unfold zb_X10_plain_28 at h
    refine lv_ldc (v := (-2147483648)) hx hb hown (hts (.constant RX10 113 (-2147483648)) (List.mem_of_getElem? (i := 12) rfl)) dX10_plain_28 ?_
    exact J30 (-2147483648 : Int32) σb28 H locs ls h hP hD hS (lv_sub (l' := []) hl [] rfl)
  refine lv_aload_n hx hb dX10_plain_0 rfl (lv_at hl 0 rfl) ?_
  refine lv_iconst (v := 0) hx hb dX10_plain_1 (by decide) ?_
  obtain ⟨σ1, hc1, h⟩ := obd_inv h
  refine wcallv (S := Unit) (va_runV (As := [.int (0 : Int32)]) (rest := []) ⟨hx, hb, hml, hown, hts⟩ (c_X10_runs l dC dI cI cT cS H.size ad  (0 : Int32) σ _ hc1) (cwV 1 hts (gWV (List.mem_of_getElem? (i := 1) rfl) (List.mem_of_getElem? (i := 2) rfl) (List.mem_of_getElem? (i := 3) rfl) (List.mem_of_getElem? (i := 4) rfl) ic_X10_plain_c_X10_runs gd_c_X10_runs) rfl rfl rfl (by decide +kernel) ⟨(Nat.le_of_ble_eq_true rfl), (Nat.le_of_ble_eq_true rfl)⟩) (wpV (q := (RX10, TX10, 46)) hP hK hD oX10 rfl) rfl rfl hl.1 rfl (lv_room (Nat.le_of_ble_eq_true rfl)) dX10_plain_2 ⟨(Nat.le_of_ble_eq_true rfl), (Nat.le_of_ble_eq_true rfl)⟩) hP hD hS hA (fun _ H locs hr2 hP hD hS => ?_)
  replace hP : va_P (dC, dI) vwCl (Wd 24 (cfR ad cI) σ1) H := hP
  replace hD : va_D A (Wd 24 (cfR ad cI) σ1) := hD
  refine lv_iload_n hx hb dX10_plain_5 rfl (lv_at hl 1 rfl) ?_
  refine wcalli (S := Unit) (va_runS (As := [.int a1]) (rest := []) ⟨hx, hb, hml, hown, hts⟩ (c_X10_isRegister l dC dI cI cT cS H.size (Wd 24 (cfR ad cI) σ1)  a1 _ rfl) (va_cwS 1 hts (gWS (List.mem_of_getElem? (i := 5) rfl) (List.mem_of_getElem? (i := 6) rfl) (List.mem_of_getElem? (i := 4) rfl) ic_X10_plain_c_X10_isRegister gd_c_X10_isRegister) rfl rfl rfl (by decide +kernel) ⟨(Nat.le_of_ble_eq_true rfl), (Nat.le_of_ble_eq_true rfl)⟩) (gpS hP hK hD) rfl rfl hl.1 rfl (lv_room (Nat.le_of_ble_eq_true rfl)) dX10_plain_6 ⟨(Nat.le_of_ble_eq_true rfl), (Nat.le_of_ble_eq_true rfl)⟩) hP hD hS hA (fun rr3 _ H locs hr3 hP hD hS => ?_)
  refine lv_nm (y := b2i (zf_X10_isRegister a1)) hr3 ?_
  refine lv_if_eq (tgt := 28) hx hb dX10_plain_9 (by decide) (fun c4 => ?_) (fun c4 => ?_)
  · replace h := ifn (b2i_0 c4) h
    exact J28 σ1 H locs ls h hP hD hS (lv_sub (l' := []) hl [] rfl)
  · replace h := ifp (b2i_1 c4) h
    refine lv_iload_n hx hb dX10_plain_12 rfl (lv_at hl 2 rfl) ?_
    refine wcalli (S := Unit) (va_runS (As := [.int a2]) (rest := []) ⟨hx, hb, hml, hown, hts⟩ (c_X10_isTwo l dC dI cI cT cS H.size (Wd 24 (cfR ad cI) σ1)  a2 _ rfl) (va_cwS 1 hts (gWS (List.mem_of_getElem? (i := 7) rfl) (List.mem_of_getElem? (i := 8) rfl) (List.mem_of_getElem? (i := 4) rfl) ic_X10_plain_c_X10_isTwo gd_c_X10_isTwo) rfl rfl rfl (by decide +kernel) ⟨(Nat.le_of_ble_eq_true rfl), (Nat.le_of_ble_eq_true rfl)⟩) (gpS hP hK hD) rfl rfl hl.1 rfl (lv_room (Nat.le_of_ble_eq_true rfl)) dX10_plain_13 ⟨(Nat.le_of_ble_eq_true rfl), (Nat.le_of_ble_eq_true rfl)⟩) hP hD hS hA (fun rr5 _ H locs hr5 hP hD hS => ?_)
    refine lv_nm (y := b2i (zf_X10_isTwo a2)) hr5 ?_
    refine lv_if_eq (tgt := 28) hx hb dX10_plain_16 (by decide) (fun c6 => ?_) (fun c6 => ?_)
    · replace h := ifn (b2i_0 c6) h
      exact J28 σ1 H locs ls h hP hD hS (lv_sub (l' := []) hl [] rfl)
    · replace h := ifp (b2i_1 c6) h
      refine lv_aload_n hx hb dX10_plain_19 rfl (lv_at hl 0 rfl) ?_
      refine lv_iload_n hx hb dX10_plain_20 rfl (lv_at hl 1 rfl) ?_
      refine lv_iload_n hx hb dX10_plain_21 rfl (lv_at hl 2 rfl) ?_
      obtain ⟨r7, hc7, h⟩ := obd_inv h
      refine wcalli (S := Unit) (va_runV (As := [.int a1, .int a2]) (rest := []) ⟨hx, hb, hml, hown, hts⟩ (c_X10_valueBy l dC dI cI cT cS H.size ad  a1 a2 σ1 _ hc7) (cwV 2 hts (gWV (List.mem_of_getElem? (i := 9) rfl) (List.mem_of_getElem? (i := 10) rfl) (List.mem_of_getElem? (i := 11) rfl) (List.mem_of_getElem? (i := 4) rfl) ic_X10_plain_c_X10_valueBy gd_c_X10_valueBy) rfl rfl rfl (by decide +kernel) ⟨(Nat.le_of_ble_eq_true rfl), (Nat.le_of_ble_eq_true rfl)⟩) (wpV (q := (RX10, TX10, 46)) hP hK hD oX10 rfl) rfl rfl hl.1 rfl (lv_room (Nat.le_of_ble_eq_true rfl)) dX10_plain_22 ⟨(Nat.le_of_ble_eq_true rfl), (Nat.le_of_ble_eq_true rfl)⟩) hP hD hS hA (fun rr8 _ H locs hr8 hP hD hS => ?_)
      refine lv_nm (y := r7) hr8 ?_
      refine lv_goto (tgt := 30) hx hb dX10_plain_25 (by decide) ?_
      exact J30 r7 σ1 H locs ls h hP hD hS (lv_sub (l' := []) hl [] rfl)
def zf_X10_endsBy (a1 : Int32) (σ : Sg) : Int32 := (if a1 = 0 then (σ 0 21) else (if a1 = 1 then (σ 0 16) else (if a1 = 2 then (σ 0 17) else (if a1 = 3 then (σ 0 18) else (if a1 = 4 then (σ 0 19) else (σ 0 20))))))
def oc_X10_endsBy : List Cond := [.fieldLink RX10 319 "TraceTreesModel" "end" "I", .fieldLink RX10 241 "TraceTreesModel" "point" "I", .fieldLink RX10 250 "TraceTreesModel" "steps" "I", .fieldLink RX10 307 "TraceTreesModel" "compiled" "I", .fieldLink RX10 292 "TraceTreesModel" "exits" "I", .fieldLink RX10 271 "TraceTreesModel" "drops" "I"]
def vc_X10_endsBy : List Cond := .code yX10_endsBy cX10_endsBy 2 (some .int) :: (oc_X10_endsBy ++ (wsX100))
theorem iw_X10_endsBy_X10 : ∀ w ∈ wsX100, w ∈ vc_X10_endsBy := fun _ h => List.mem_cons_of_mem _ (List.mem_append_right _ (h))
theorem gd_c_X10_endsBy : (vc_X10_endsBy).all goodWord = true := gall_cons rfl (gall_app (by decide +kernel) gw_X10)
set_option maxHeartbeats 4000000 in
set_option maxRecDepth 100000 in
theorem c_X10_endsBy (l : Launch) (dC : Nat → ClassId) (dI : Nat → Nat → Nat) (cI cT cS : ClassId) (sz : Nat) (ad : Nat → Nat) (a1 : Int32) (σ : Sg) (o : Int32) (h : zf_X10_endsBy a1 σ = o) : gCI (S := Unit) l yX10_endsBy vc_X10_endsBy { frames := 0, cells := 0, slots := 0, locals := 0 } (dC, dI) (gTY cI cT cS) sz [.ref (ad 0), .int a1] (Wd 24 (cfR ad cI) σ) (fun (r : Int32) (_ : Unit) => r = o) (fun (_ : Unit) => (Wd 24 (cfR ad cI) σ)) 0 0 := by
  refine Met.ofW (cc := cX10_endsBy) (maxL := 2) (ret := (some .int)) (by decide) rfl ?_
  intro p e s m args below meth c s₁ B hml hv
  obtain ⟨rfl, hsz, hP, hK, hD0⟩ := hv
  have hx := B.exec
  have hb := B.bytes
  have hr := B.returns
  have hts := atoms_spec (ws := vc_X10_endsBy) B.pre
  have hown : s.vm.findClass RX10 = some m.cls := findClass_of_methodNamed B.named
  have hlocks := B.notSynchronized
  subst hsz
  have hD := hD0.self (sz := s.heap.size)
  generalize hAe : va_A (Wd 24 (cfR ad cI) σ) s.heap.size = A at hD ⊢
  have hA : ∀ q : Nat, s.heap.size ≤ q → A q := fun q h => by rw [← hAe]; exact Or.inr h
  clear hAe hD0
  refine gstart (fun H locs hHe hLe => ?_)
  have hS : va_S A s.heap H locs := by rw [← hHe, ← hLe]; exact va_S.rf
  replace hP : va_P (dC, dI) vwCl (Wd 24 (cfR ad cI) σ) H := by rw [← hHe]; exact hP
  clear hHe hLe
  have hl := lv_entry ([.ref (ad 0), .int a1]) (n := 2) (Nat.le_of_ble_eq_true rfl)
  rw [lg_entry_eq]
  generalize (lg_sl ([.ref (ad 0), .int a1]) ++ List.replicate (2 - (lg_sl ([.ref (ad 0), .int a1])).length) Slot.unset).toArray = ls at hl ⊢
  replace hl : lv_has ls 2 [(0, .ref (ad 0)), (1, .int a1)] := hl
  unfold zf_X10_endsBy at h
  refine lv_iload_n hx hb dX10_endsBy_0 rfl (lv_at hl 1 rfl) ?_
  by_cases c1 : a1 = 0
  · replace h := ifp c1 h
    refine lv_tableIn (off := 35) (tgt := 36) hx hb dX10_endsBy_1 (by rw [c1]; decide) (by rw [c1]; decide) (by rw [c1]; decide) (by decide) ?_
    refine lv_aload_n hx hb dX10_endsBy_36 rfl (lv_at hl 0 rfl) ?_
    refine gf_X10_21 hx hb hts iw_X10_endsBy_X10 hown hK hP (hts (.fieldLink RX10 319 "TraceTreesModel" "end" "I") (List.mem_of_getElem? (i := 1) rfl)) dX10_endsBy_37 ?_
    have h9 := h
    exact wreti hx hb hr hlocks hP hD hS (by show _ = _; rw [← h9]; first | done | rfl) rfl dX10_endsBy_40
  replace h := ifn c1 h
  by_cases c2 : a1 = 1
  · replace h := ifp c2 h
    refine lv_tableIn (off := 40) (tgt := 41) hx hb dX10_endsBy_1 (by rw [c2]; decide) (by rw [c2]; decide) (by rw [c2]; decide) (by decide) ?_
    refine lv_aload_n hx hb dX10_endsBy_41 rfl (lv_at hl 0 rfl) ?_
    refine gf_X10_16 hx hb hts iw_X10_endsBy_X10 hown hK hP (hts (.fieldLink RX10 241 "TraceTreesModel" "point" "I") (List.mem_of_getElem? (i := 2) rfl)) dX10_endsBy_42 ?_
    have h9 := h
    exact wreti hx hb hr hlocks hP hD hS (by show _ = _; rw [← h9]; first | done | rfl) rfl dX10_endsBy_45
  replace h := ifn c2 h
  by_cases c3 : a1 = 2
  · replace h := ifp c3 h
    refine lv_tableIn (off := 45) (tgt := 46) hx hb dX10_endsBy_1 (by rw [c3]; decide) (by rw [c3]; decide) (by rw [c3]; decide) (by decide) ?_
    refine lv_aload_n hx hb dX10_endsBy_46 rfl (lv_at hl 0 rfl) ?_
    refine gf_X10_17 hx hb hts iw_X10_endsBy_X10 hown hK hP (hts (.fieldLink RX10 250 "TraceTreesModel" "steps" "I") (List.mem_of_getElem? (i := 3) rfl)) dX10_endsBy_47 ?_
    have h9 := h
    exact wreti hx hb hr hlocks hP hD hS (by show _ = _; rw [← h9]; first | done | rfl) rfl dX10_endsBy_50
  replace h := ifn c3 h
  by_cases c4 : a1 = 3
  · replace h := ifp c4 h
    refine lv_tableIn (off := 50) (tgt := 51) hx hb dX10_endsBy_1 (by rw [c4]; decide) (by rw [c4]; decide) (by rw [c4]; decide) (by decide) ?_
    refine lv_aload_n hx hb dX10_endsBy_51 rfl (lv_at hl 0 rfl) ?_
    refine gf_X10_18 hx hb hts iw_X10_endsBy_X10 hown hK hP (hts (.fieldLink RX10 307 "TraceTreesModel" "compiled" "I") (List.mem_of_getElem? (i := 4) rfl)) dX10_endsBy_52 ?_
    have h9 := h
    exact wreti hx hb hr hlocks hP hD hS (by show _ = _; rw [← h9]; first | done | rfl) rfl dX10_endsBy_55
  replace h := ifn c4 h
  by_cases c5 : a1 = 4
  · replace h := ifp c5 h
    refine lv_tableIn (off := 55) (tgt := 56) hx hb dX10_endsBy_1 (by rw [c5]; decide) (by rw [c5]; decide) (by rw [c5]; decide) (by decide) ?_
    refine lv_aload_n hx hb dX10_endsBy_56 rfl (lv_at hl 0 rfl) ?_
    refine gf_X10_19 hx hb hts iw_X10_endsBy_X10 hown hK hP (hts (.fieldLink RX10 292 "TraceTreesModel" "exits" "I") (List.mem_of_getElem? (i := 5) rfl)) dX10_endsBy_57 ?_
    have h9 := h
    exact wreti hx hb hr hlocks hP hD hS (by show _ = _; rw [← h9]; first | done | rfl) rfl dX10_endsBy_60
  replace h := ifn c5 h
  refine lv_tableOut (tgt := 61) hx hb dX10_endsBy_1 (by have := lv_neT c1 (a := 0) (by decide); have := lv_neT c2 (a := 1) (by decide); have := lv_neT c3 (a := 2) (by decide); have := lv_neT c4 (a := 3) (by decide); have := lv_neT c5 (a := 4) (by decide); omega) (by decide) ?_
  refine lv_aload_n hx hb dX10_endsBy_61 rfl (lv_at hl 0 rfl) ?_
  refine gf_X10_20 hx hb hts iw_X10_endsBy_X10 hown hK hP (hts (.fieldLink RX10 271 "TraceTreesModel" "drops" "I") (List.mem_of_getElem? (i := 6) rfl)) dX10_endsBy_62 ?_
  have h9 := h
  exact wreti hx hb hr hlocks hP hD hS (by show _ = _; rw [← h9]; first | done | rfl) rfl dX10_endsBy_65
def zb_X10_ends_30 (w0_30 : Int32) (σb30 : Sg) : Option (Int32 × Sg) := some (w0_30, σb30)
def zf_X10_ends (a1 : Int32) (σ : Sg) : Option (Int32 × Sg) := obd (zf_X10_runs (σ 0 10) σ) (fun σ1 => (if (zf_X10_in (a1.toInt64) (0 : Int64) (5 : Int64)) = true then (zb_X10_ends_30 (zf_X10_endsBy a1 σ1) σ1) else (zb_X10_ends_30 (-2 : Int32) σ1)))
def oc_X10_ends : List Cond := [.fieldLink RX10 83 "TraceTreesModel" "hot" "I", .methodLink RX10 344 yX10_runs, .instanceMethod yX10_runs, .selects RX10 yX10_runs yX10_runs, .initialized RX10, .constantLong RX10 239 (5), .methodLink RX10 86 yX10_in, .static yX10_in, .methodLink RX10 350 yX10_endsBy, .instanceMethod yX10_endsBy, .selects RX10 yX10_endsBy yX10_endsBy]
def vc_X10_ends : List Cond := .code yX10_ends cX10_ends 2 (some .int) :: (oc_X10_ends ++ (wsX100 ++ (vc_X10_runs ++ (vc_X10_in ++ (vc_X10_endsBy)))))
theorem iw_X10_ends_X10 : ∀ w ∈ wsX100, w ∈ vc_X10_ends := fun _ h => List.mem_cons_of_mem _ (List.mem_append_right _ (List.mem_append_left _ h))
theorem ic_X10_ends_c_X10_runs : ∀ w ∈ vc_X10_runs, w ∈ vc_X10_ends := fun _ h => List.mem_cons_of_mem _ (List.mem_append_right _ (List.mem_append_right _ (List.mem_append_left _ h)))
theorem ic_X10_ends_c_X10_in : ∀ w ∈ vc_X10_in, w ∈ vc_X10_ends := fun _ h => List.mem_cons_of_mem _ (List.mem_append_right _ (List.mem_append_right _ (List.mem_append_right _ (List.mem_append_left _ h))))
theorem ic_X10_ends_c_X10_endsBy : ∀ w ∈ vc_X10_endsBy, w ∈ vc_X10_ends := fun _ h => List.mem_cons_of_mem _ (List.mem_append_right _ (List.mem_append_right _ (List.mem_append_right _ (List.mem_append_right _ (h)))))
theorem gd_c_X10_ends : (vc_X10_ends).all goodWord = true := gall_cons rfl (gall_app (by decide +kernel) (gall_app gw_X10 (gall_app gd_c_X10_runs (gall_app gd_c_X10_in gd_c_X10_endsBy))))
set_option maxHeartbeats 4000000 in
set_option maxRecDepth 100000 in
theorem c_X10_ends (l : Launch) (dC : Nat → ClassId) (dI : Nat → Nat → Nat) (cI cT cS : ClassId) (sz : Nat) (ad : Nat → Nat) (a1 : Int32) (σ : Sg) (o : Int32 × Sg) (h : zf_X10_ends a1 σ = some o) : gCI (S := Unit) l yX10_ends vc_X10_ends { frames := 9, cells := 0, slots := 0, locals := 226 } (dC, dI) (gTY cI cT cS) sz [.ref (ad 0), .int a1] (Wd 24 (cfR ad cI) σ) (fun (r : Int32) (_ : Unit) => r = o.1) (fun (_ : Unit) => (Wd 24 (cfR ad cI) o.2)) 0 0 := by
  refine Met.ofW (cc := cX10_ends) (maxL := 2) (ret := (some .int)) (by decide) rfl ?_
  intro p e s m args below meth c s₁ B hml hv
  obtain ⟨rfl, hsz, hP, hK, hD0⟩ := hv
  have hx := B.exec
  have hb := B.bytes
  have hr := B.returns
  have hts := atoms_spec (ws := vc_X10_ends) B.pre
  have hown : s.vm.findClass RX10 = some m.cls := findClass_of_methodNamed B.named
  have hlocks := B.notSynchronized
  subst hsz
  have hD := hD0.self (sz := s.heap.size)
  generalize hAe : va_A (Wd 24 (cfR ad cI) σ) s.heap.size = A at hD ⊢
  have hA : ∀ q : Nat, s.heap.size ≤ q → A q := fun q h => by rw [← hAe]; exact Or.inr h
  clear hAe hD0
  refine gstart (fun H locs hHe hLe => ?_)
  have hS : va_S A s.heap H locs := by rw [← hHe, ← hLe]; exact va_S.rf
  replace hP : va_P (dC, dI) vwCl (Wd 24 (cfR ad cI) σ) H := by rw [← hHe]; exact hP
  clear hHe hLe
  have hl := lv_entry ([.ref (ad 0), .int a1]) (n := 2) (Nat.le_of_ble_eq_true rfl)
  rw [lg_entry_eq]
  generalize (lg_sl ([.ref (ad 0), .int a1]) ++ List.replicate (2 - (lg_sl ([.ref (ad 0), .int a1])).length) Slot.unset).toArray = ls at hl ⊢
  replace hl : lv_has ls 2 [(0, .ref (ad 0)), (1, .int a1)] := hl
  unfold zf_X10_ends at h
  have J30 : ∀ (w0_30 : Int32) (σb30 : Sg) (H : Heap) (locs : List Loc) (ls : Array Slot), zb_X10_ends_30 w0_30 σb30 = some o → va_P (dC, dI) vwCl (Wd 24 (cfR ad cI) σb30) H → va_D A (Wd 24 (cfR ad cI) σb30) → va_S A s.heap H locs → lv_has ls 2 [] → W p l e (headSpec vc_X10_ends { frames := 9, cells := 0, slots := 0, locals := 226 }).room s m (List.toArray (α := Value) [.ref (ad 0), .int a1]) below meth c H locs 0 0 (MQ below (va_Qi (fun (r : Int32) (_ : Unit) => r = o.1) (gB (dC, dI) A (fun (_ : Unit) => (Wd 24 (cfR ad cI) o.2))) A) (List.toArray (α := Value) [.ref (ad 0), .int a1]) s 0 0 A) (F0 m 30 ls [.int w0_30]) := by
    intro w0_30 σb30 H locs ls h hP hD hS hl
    unfold zb_X10_ends_30 at h
    have h9 := Option.some.inj h
    exact wreti hx hb hr hlocks hP hD hS (by show _ = _; rw [← h9]; first | done | rfl) (by rw [← h9]) dX10_ends_30
  refine lv_aload_n hx hb dX10_ends_0 rfl (lv_at hl 0 rfl) ?_
  refine lv_aload_n hx hb dX10_ends_1 rfl (lv_at hl 0 rfl) ?_
  refine gf_X10_10 hx hb hts iw_X10_ends_X10 hown hK hP (hts (.fieldLink RX10 83 "TraceTreesModel" "hot" "I") (List.mem_of_getElem? (i := 1) rfl)) dX10_ends_2 ?_
  obtain ⟨σ1, hc1, h⟩ := obd_inv h
  refine wcallv (S := Unit) (va_runV (As := [.int (σ 0 10)]) (rest := []) ⟨hx, hb, hml, hown, hts⟩ (c_X10_runs l dC dI cI cT cS H.size ad  (σ 0 10) σ _ hc1) (cwV 1 hts (gWV (List.mem_of_getElem? (i := 2) rfl) (List.mem_of_getElem? (i := 3) rfl) (List.mem_of_getElem? (i := 4) rfl) (List.mem_of_getElem? (i := 5) rfl) ic_X10_ends_c_X10_runs gd_c_X10_runs) rfl rfl rfl (by decide +kernel) ⟨(Nat.le_of_ble_eq_true rfl), (Nat.le_of_ble_eq_true rfl)⟩) (wpV (q := (RX10, TX10, 46)) hP hK hD oX10 rfl) rfl rfl hl.1 rfl (lv_room (Nat.le_of_ble_eq_true rfl)) dX10_ends_5 ⟨(Nat.le_of_ble_eq_true rfl), (Nat.le_of_ble_eq_true rfl)⟩) hP hD hS hA (fun _ H locs hr2 hP hD hS => ?_)
  replace hP : va_P (dC, dI) vwCl (Wd 24 (cfR ad cI) σ1) H := hP
  replace hD : va_D A (Wd 24 (cfR ad cI) σ1) := hD
  refine lv_iload_n hx hb dX10_ends_8 rfl (lv_at hl 1 rfl) ?_
  refine lv_i2l hx hb dX10_ends_9 rfl ?_
  refine lv_lconst (v := 0) hx hb dX10_ends_10 (by decide) ?_
  refine lv_ldc2 (v := 5) hx hb hown (hts (.constantLong RX10 239 (5)) (List.mem_of_getElem? (i := 6) rfl)) dX10_ends_11 ?_
  refine wcalli (S := Unit) (va_runS (As := [.long (a1.toInt64), .long (0 : Int64), .long (5 : Int64)]) (rest := []) ⟨hx, hb, hml, hown, hts⟩ (c_X10_in l dC dI cI cT cS H.size (Wd 24 (cfR ad cI) σ1)  (a1.toInt64) (0 : Int64) (5 : Int64) _ rfl) (va_cwS 3 hts (gWS (List.mem_of_getElem? (i := 7) rfl) (List.mem_of_getElem? (i := 8) rfl) (List.mem_of_getElem? (i := 5) rfl) ic_X10_ends_c_X10_in gd_c_X10_in) rfl rfl rfl (by decide +kernel) ⟨(Nat.le_of_ble_eq_true rfl), (Nat.le_of_ble_eq_true rfl)⟩) (gpS hP hK hD) rfl rfl hl.1 rfl (lv_room (Nat.le_of_ble_eq_true rfl)) dX10_ends_14 ⟨(Nat.le_of_ble_eq_true rfl), (Nat.le_of_ble_eq_true rfl)⟩) hP hD hS hA (fun rr3 _ H locs hr3 hP hD hS => ?_)
  refine lv_nm (y := b2i (zf_X10_in (a1.toInt64) (0 : Int64) (5 : Int64))) hr3 ?_
  refine lv_if_eq (tgt := 28) hx hb dX10_ends_17 (by decide) (fun c4 => ?_) (fun c4 => ?_)
  · replace h := ifn (b2i_0 c4) h
    refine lv_bipush (v := (-2)) hx hb dX10_ends_28 (by decide) ?_
    exact J30 (-2 : Int32) σ1 H locs ls h hP hD hS (lv_sub (l' := []) hl [] rfl)
  · replace h := ifp (b2i_1 c4) h
    refine lv_aload_n hx hb dX10_ends_20 rfl (lv_at hl 0 rfl) ?_
    refine lv_iload_n hx hb dX10_ends_21 rfl (lv_at hl 1 rfl) ?_
    refine wcalli (S := Unit) (va_runV (As := [.int a1]) (rest := []) ⟨hx, hb, hml, hown, hts⟩ (c_X10_endsBy l dC dI cI cT cS H.size ad  a1 σ1 _ rfl) (cwV 1 hts (gWV (List.mem_of_getElem? (i := 9) rfl) (List.mem_of_getElem? (i := 10) rfl) (List.mem_of_getElem? (i := 11) rfl) (List.mem_of_getElem? (i := 5) rfl) ic_X10_ends_c_X10_endsBy gd_c_X10_endsBy) rfl rfl rfl (by decide +kernel) ⟨(Nat.le_of_ble_eq_true rfl), (Nat.le_of_ble_eq_true rfl)⟩) (wpV (q := (RX10, TX10, 46)) hP hK hD oX10 rfl) rfl rfl hl.1 rfl (lv_room (Nat.le_of_ble_eq_true rfl)) dX10_ends_22 ⟨(Nat.le_of_ble_eq_true rfl), (Nat.le_of_ble_eq_true rfl)⟩) hP hD hS hA (fun rr5 _ H locs hr5 hP hD hS => ?_)
    refine lv_nm (y := (zf_X10_endsBy a1 σ1)) hr5 ?_
    refine lv_goto (tgt := 30) hx hb dX10_ends_25 (by decide) ?_
    exact J30 (zf_X10_endsBy a1 σ1) σ1 H locs ls h hP hD hS (lv_sub (l' := []) hl [] rfl)
def zb_X10_heatBy_41 (w0_41 : Int32) : Option (Int32) := some w0_41
def zf_X10_heatBy (a1 : Int32) (a2 : Int32) (σ : Sg) : Option (Int32) := (if a2 = 0 then bd a1 24 ((zb_X10_heatBy_41 (σ 10 a1.toNatClampNeg))) else (if a2 = (1 : Int32) then bd a1 24 ((if (σ 11 a1.toNatClampNeg) ≤ (1 : Int32) then (zb_X10_heatBy_41 (0 : Int32)) else (zb_X10_heatBy_41 (1 : Int32)))) else obd (zf_X10_rootOf a1 σ) (fun r3 => (zb_X10_heatBy_41 r3))))
def oc_X10_heatBy : List Cond := [.methodLink RX10 277 yX10_rootOf, .instanceMethod yX10_rootOf, .selects RX10 yX10_rootOf yX10_rootOf, .initialized RX10, .fieldLink RX10 40 "TraceTreesModel" "dropsOf" "[I", .fieldLink RX10 37 "TraceTreesModel" "heat" "[I"]
def vc_X10_heatBy : List Cond := .code yX10_heatBy cX10_heatBy 3 (some .int) :: (oc_X10_heatBy ++ (wsX100 ++ (vc_X10_rootOf)))
theorem iw_X10_heatBy_X10 : ∀ w ∈ wsX100, w ∈ vc_X10_heatBy := fun _ h => List.mem_cons_of_mem _ (List.mem_append_right _ (List.mem_append_left _ h))
theorem ic_X10_heatBy_c_X10_rootOf : ∀ w ∈ vc_X10_rootOf, w ∈ vc_X10_heatBy := fun _ h => List.mem_cons_of_mem _ (List.mem_append_right _ (List.mem_append_right _ (h)))
theorem gd_c_X10_heatBy : (vc_X10_heatBy).all goodWord = true := gall_cons rfl (gall_app (by decide +kernel) (gall_app gw_X10 gd_c_X10_rootOf))
set_option maxHeartbeats 4000000 in
set_option maxRecDepth 100000 in
theorem c_X10_heatBy (l : Launch) (dC : Nat → ClassId) (dI : Nat → Nat → Nat) (cI cT cS : ClassId) (sz : Nat) (ad : Nat → Nat) (a1 : Int32) (a2 : Int32) (σ : Sg) (o : Int32) (h : zf_X10_heatBy a1 a2 σ = some o) : gCI (S := Unit) l yX10_heatBy vc_X10_heatBy { frames := 1, cells := 0, slots := 0, locals := 23 } (dC, dI) (gTY cI cT cS) sz [.ref (ad 0), .int a1, .int a2] (Wd 24 (cfR ad cI) σ) (fun (r : Int32) (_ : Unit) => r = o) (fun (_ : Unit) => (Wd 24 (cfR ad cI) σ)) 0 0 := by
  refine Met.ofW (cc := cX10_heatBy) (maxL := 3) (ret := (some .int)) (by decide) rfl ?_
  intro p e s m args below meth c s₁ B hml hv
  obtain ⟨rfl, hsz, hP, hK, hD0⟩ := hv
  have hx := B.exec
  have hb := B.bytes
  have hr := B.returns
  have hts := atoms_spec (ws := vc_X10_heatBy) B.pre
  have hown : s.vm.findClass RX10 = some m.cls := findClass_of_methodNamed B.named
  have hlocks := B.notSynchronized
  subst hsz
  have hD := hD0.self (sz := s.heap.size)
  generalize hAe : va_A (Wd 24 (cfR ad cI) σ) s.heap.size = A at hD ⊢
  have hA : ∀ q : Nat, s.heap.size ≤ q → A q := fun q h => by rw [← hAe]; exact Or.inr h
  clear hAe hD0
  refine gstart (fun H locs hHe hLe => ?_)
  have hS : va_S A s.heap H locs := by rw [← hHe, ← hLe]; exact va_S.rf
  replace hP : va_P (dC, dI) vwCl (Wd 24 (cfR ad cI) σ) H := by rw [← hHe]; exact hP
  clear hHe hLe
  have hl := lv_entry ([.ref (ad 0), .int a1, .int a2]) (n := 3) (Nat.le_of_ble_eq_true rfl)
  rw [lg_entry_eq]
  generalize (lg_sl ([.ref (ad 0), .int a1, .int a2]) ++ List.replicate (3 - (lg_sl ([.ref (ad 0), .int a1, .int a2])).length) Slot.unset).toArray = ls at hl ⊢
  replace hl : lv_has ls 3 [(0, .ref (ad 0)), (1, .int a1), (2, .int a2)] := hl
  unfold zf_X10_heatBy at h
  have J41 : ∀ (w0_41 : Int32) (H : Heap) (locs : List Loc) (ls : Array Slot), zb_X10_heatBy_41 w0_41 = some o → va_P (dC, dI) vwCl (Wd 24 (cfR ad cI) σ) H → va_D A (Wd 24 (cfR ad cI) σ) → va_S A s.heap H locs → lv_has ls 3 [] → W p l e (headSpec vc_X10_heatBy { frames := 1, cells := 0, slots := 0, locals := 23 }).room s m (List.toArray (α := Value) [.ref (ad 0), .int a1, .int a2]) below meth c H locs 0 0 (MQ below (va_Qi (fun (r : Int32) (_ : Unit) => r = o) (gB (dC, dI) A (fun (_ : Unit) => (Wd 24 (cfR ad cI) σ))) A) (List.toArray (α := Value) [.ref (ad 0), .int a1, .int a2]) s 0 0 A) (F0 m 41 ls [.int w0_41]) := by
    intro w0_41 H locs ls h hP hD hS hl
    unfold zb_X10_heatBy_41 at h
    have h9 := Option.some.inj h
    exact wreti hx hb hr hlocks hP hD hS (by show _ = _; rw [← h9]; first | done | rfl) rfl dX10_heatBy_41
  refine lv_iload_n hx hb dX10_heatBy_0 rfl (lv_at hl 2 rfl) ?_
  refine lv_if_ne (tgt := 13) hx hb dX10_heatBy_1 (by decide) (fun c1 => ?_) (fun c1 => ?_)
  · replace h := ifn (c1) h
    refine lv_iload_n hx hb dX10_heatBy_13 rfl (lv_at hl 2 rfl) ?_
    refine lv_iconst (v := 1) hx hb dX10_heatBy_14 (by decide) ?_
    refine lv_icmp_ne (tgt := 36) hx hb dX10_heatBy_15 (by decide) (fun c2 => ?_) (fun c2 => ?_)
    · replace h := ifn (c2) h
      refine lv_aload_n hx hb dX10_heatBy_36 rfl (lv_at hl 0 rfl) ?_
      refine lv_iload_n hx hb dX10_heatBy_37 rfl (lv_at hl 1 rfl) ?_
      obtain ⟨r3, hc3, h⟩ := obd_inv h
      refine wcalli (S := Unit) (va_runV (As := [.int a1]) (rest := []) ⟨hx, hb, hml, hown, hts⟩ (c_X10_rootOf l dC dI cI cT cS H.size ad  a1 σ _ hc3) (cwV 1 hts (gWV (List.mem_of_getElem? (i := 1) rfl) (List.mem_of_getElem? (i := 2) rfl) (List.mem_of_getElem? (i := 3) rfl) (List.mem_of_getElem? (i := 4) rfl) ic_X10_heatBy_c_X10_rootOf gd_c_X10_rootOf) rfl rfl rfl (by decide +kernel) ⟨(Nat.le_of_ble_eq_true rfl), (Nat.le_of_ble_eq_true rfl)⟩) (wpV (q := (RX10, TX10, 46)) hP hK hD oX10 rfl) rfl rfl hl.1 rfl (lv_room (Nat.le_of_ble_eq_true rfl)) dX10_heatBy_38 ⟨(Nat.le_of_ble_eq_true rfl), (Nat.le_of_ble_eq_true rfl)⟩) hP hD hS hA (fun rr4 _ H locs hr4 hP hD hS => ?_)
      refine lv_nm (y := r3) hr4 ?_
      exact J41 r3 H locs ls h hP hD hS (lv_sub (l' := []) hl [] rfl)
    · replace h := ifp (c2) h
      refine lv_aload_n hx hb dX10_heatBy_18 rfl (lv_at hl 0 rfl) ?_
      refine gf_X10_24 hx hb hts iw_X10_heatBy_X10 hown hK hP (hts (.fieldLink RX10 40 "TraceTreesModel" "dropsOf" "[I") (List.mem_of_getElem? (i := 5) rfl)) dX10_heatBy_19 ?_
      refine lv_iload_n hx hb dX10_heatBy_22 rfl (lv_at hl 1 rfl) ?_
      obtain ⟨hi5, h⟩ := bd_inv h
      refine wald hx hb hK hP aR11 hi5 dX10_heatBy_23 ?_
      refine lv_iconst (v := 1) hx hb dX10_heatBy_24 (by decide) ?_
      refine lv_icmp_le (tgt := 32) hx hb dX10_heatBy_25 (by decide) (fun c6 => ?_) (fun c6 => ?_)
      · replace h := ifp (c6) h
        refine lv_iconst (v := 0) hx hb dX10_heatBy_32 (by decide) ?_
        refine lv_goto (tgt := 41) hx hb dX10_heatBy_33 (by decide) ?_
        exact J41 (0 : Int32) H locs ls h hP hD hS (lv_sub (l' := []) hl [] rfl)
      · replace h := ifn (c6) h
        refine lv_iconst (v := 1) hx hb dX10_heatBy_28 (by decide) ?_
        refine lv_goto (tgt := 41) hx hb dX10_heatBy_29 (by decide) ?_
        exact J41 (1 : Int32) H locs ls h hP hD hS (lv_sub (l' := []) hl [] rfl)
  · replace h := ifp (c1) h
    refine lv_aload_n hx hb dX10_heatBy_4 rfl (lv_at hl 0 rfl) ?_
    refine gf_X10_23 hx hb hts iw_X10_heatBy_X10 hown hK hP (hts (.fieldLink RX10 37 "TraceTreesModel" "heat" "[I") (List.mem_of_getElem? (i := 6) rfl)) dX10_heatBy_5 ?_
    refine lv_iload_n hx hb dX10_heatBy_8 rfl (lv_at hl 1 rfl) ?_
    obtain ⟨hi7, h⟩ := bd_inv h
    refine wald hx hb hK hP aR10 hi7 dX10_heatBy_9 ?_
    refine lv_goto (tgt := 41) hx hb dX10_heatBy_10 (by decide) ?_
    exact J41 (σ 10 a1.toNatClampNeg) H locs ls h hP hD hS (lv_sub (l' := []) hl [] rfl)
