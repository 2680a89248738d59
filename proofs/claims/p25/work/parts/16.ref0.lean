def zb_X10_in_18 (w0_18 : Bool) : Bool := w0_18
def zb_X10_in_17  : Bool := (zb_X10_in_18 false)
def zf_X10_in (a0 : Int64) (a2 : Int64) (a4 : Int64) : Bool := (if a0 < a2 then zb_X10_in_17 else (if a4 < a0 then zb_X10_in_17 else (zb_X10_in_18 true)))
def oc_X10_in : List Cond := []
def vc_X10_in : List Cond := .code yX10_in cX10_in 6 (some .boolean) :: (oc_X10_in)
theorem gd_c_X10_in : (vc_X10_in).all goodWord = true := gall_cons rfl (by decide +kernel)
set_option maxHeartbeats 4000000 in
set_option maxRecDepth 100000 in
theorem c_X10_in (l : Launch) (dC : Nat → ClassId) (dI : Nat → Nat → Nat) (cI cT cS : ClassId) (sz : Nat) (ws : va_W) (a0 : Int64) (a2 : Int64) (a4 : Int64) (o : Bool) (h : zf_X10_in a0 a2 a4 = o) : gCI (S := Unit) l yX10_in vc_X10_in { frames := 0, cells := 0, slots := 0, locals := 0 } (dC, dI) (gTY cI cT cS) sz [.long a0, .long a2, .long a4] ws (fun (r : Int32) (_ : Unit) => r = b2i o) (fun (_ : Unit) => ws) 0 0 := by
  refine Met.ofW (cc := cX10_in) (maxL := 6) (ret := (some .boolean)) (by decide) rfl ?_
  intro p e s m args below meth c s₁ B hml hv
  obtain ⟨rfl, hsz, hP, hK, hD0⟩ := hv
  have hx := B.exec
  have hb := B.bytes
  have hr := B.returns
  have hts := atoms_spec (ws := vc_X10_in) B.pre
  have hown : s.vm.findClass RX10 = some m.cls := findClass_of_methodNamed B.named
  have hlocks := B.notSynchronized
  subst hsz
  have hD := hD0.self (sz := s.heap.size)
  generalize hAe : va_A ws s.heap.size = A at hD ⊢
  have hA : ∀ q : Nat, s.heap.size ≤ q → A q := fun q h => by rw [← hAe]; exact Or.inr h
  clear hAe hD0
  refine gstart (fun H locs hHe hLe => ?_)
  have hS : va_S A s.heap H locs := by rw [← hHe, ← hLe]; exact va_S.rf
  replace hP : va_P (dC, dI) vwCl ws H := by rw [← hHe]; exact hP
  clear hHe hLe
  have hl := lv_entry ([.long a0, .long a2, .long a4]) (n := 6) (Nat.le_of_ble_eq_true rfl)
  rw [lg_entry_eq]
  generalize (lg_sl ([.long a0, .long a2, .long a4]) ++ List.replicate (6 - (lg_sl ([.long a0, .long a2, .long a4])).length) Slot.unset).toArray = ls at hl ⊢
  replace hl : lv_has ls 6 [(0, .long a0), (2, .long a2), (4, .long a4)] := hl
  unfold zf_X10_in at h
  have J18 : ∀ (w0_18 : Bool) (H : Heap) (locs : List Loc) (ls : Array Slot), zb_X10_in_18 w0_18 = o → va_P (dC, dI) vwCl ws H → va_D A ws → va_S A s.heap H locs → lv_has ls 6 [] → W p l e (headSpec vc_X10_in { frames := 0, cells := 0, slots := 0, locals := 0 }).room s m (List.toArray (α := Value) [.long a0, .long a2, .long a4]) below meth c H locs 0 0 (MQ below (va_Qi (fun (r : Int32) (_ : Unit) => r = b2i o) (gB (dC, dI) A (fun (_ : Unit) => ws)) A) (List.toArray (α := Value) [.long a0, .long a2, .long a4]) s 0 0 A) (F0 m 18 ls [.int (b2i w0_18)]) := by
    intro w0_18 H locs ls h hP hD hS hl
    unfold zb_X10_in_18 at h
    have h9 := h
    exact wretz hx hb hr hlocks (b2i_or _) hP hD hS (by show _ = _; rw [← h9]; first | done | rfl) rfl dX10_in_18
  have J17 : ∀  (H : Heap) (locs : List Loc) (ls : Array Slot), zb_X10_in_17 = o → va_P (dC, dI) vwCl ws H → va_D A ws → va_S A s.heap H locs → lv_has ls 6 [] → W p l e (headSpec vc_X10_in { frames := 0, cells := 0, slots := 0, locals := 0 }).room s m (List.toArray (α := Value) [.long a0, .long a2, .long a4]) below meth c H locs 0 0 (MQ below (va_Qi (fun (r : Int32) (_ : Unit) => r = b2i o) (gB (dC, dI) A (fun (_ : Unit) => ws)) A) (List.toArray (α := Value) [.long a0, .long a2, .long a4]) s 0 0 A) (F0 m 17 ls []) := by
    intro  H locs ls h hP hD hS hl
    unfold zb_X10_in_17 at h
    refine lv_iconst (v := 0) hx hb dX10_in_17 (by decide) ?_
    exact J18 false H locs ls h hP hD hS (lv_sub (l' := []) hl [] rfl)
  refine lv_lload_n hx hb dX10_in_0 rfl (lv_at hl 0 rfl) ?_
  refine lv_lload_n hx hb dX10_in_1 rfl (lv_at hl 1 rfl) ?_
  refine W.lcmp hx hb dX10_in_2 ?_
  refine lv_if_lt (tgt := 17) hx hb dX10_in_3 (by decide) (fun c1 => ?_) (fun c1 => ?_)
  · replace h := ifp (g_c_lt.mp c1) h
    exact J17  H locs ls h hP hD hS (lv_sub (l' := []) hl [] rfl)
  · replace h := ifn (fun q => c1 (g_c_lt.mpr q)) h
    refine lv_lload_n hx hb dX10_in_6 rfl (lv_at hl 0 rfl) ?_
    refine lv_lload hx hb dX10_in_7 (lv_at hl 2 rfl) ?_
    refine W.lcmp hx hb dX10_in_9 ?_
    refine lv_if_gt (tgt := 17) hx hb dX10_in_10 (by decide) (fun c2 => ?_) (fun c2 => ?_)
    · replace h := ifp (g_c_gt.mp c2) h
      exact J17  H locs ls h hP hD hS (lv_sub (l' := []) hl [] rfl)
    · replace h := ifn (fun q => c2 (g_c_gt.mpr q)) h
      refine lv_iconst (v := 1) hx hb dX10_in_13 (by decide) ?_
      refine lv_goto (tgt := 18) hx hb dX10_in_14 (by decide) ?_
      exact J18 true H locs ls h hP hD hS (lv_sub (l' := []) hl [] rfl)
def zf_X10_isTwo (a0 : Int32) : Bool := (zf_X10_in (a0.toInt64) (0 : Int64) (1 : Int64))
def oc_X10_isTwo : List Cond := [.methodLink RX10 86 yX10_in, .static yX10_in, .initialized RX10]
def vc_X10_isTwo : List Cond := .code yX10_isTwo cX10_isTwo 1 (some .boolean) :: (oc_X10_isTwo ++ (vc_X10_in))
theorem ic_X10_isTwo_c_X10_in : ∀ w ∈ vc_X10_in, w ∈ vc_X10_isTwo := fun _ h => List.mem_cons_of_mem _ (List.mem_append_right _ (h))
theorem gd_c_X10_isTwo : (vc_X10_isTwo).all goodWord = true := gall_cons rfl (gall_app (by decide +kernel) gd_c_X10_in)
set_option maxHeartbeats 4000000 in
set_option maxRecDepth 100000 in
theorem c_X10_isTwo (l : Launch) (dC : Nat → ClassId) (dI : Nat → Nat → Nat) (cI cT cS : ClassId) (sz : Nat) (ws : va_W) (a0 : Int32) (o : Bool) (h : zf_X10_isTwo a0 = o) : gCI (S := Unit) l yX10_isTwo vc_X10_isTwo { frames := 1, cells := 0, slots := 0, locals := 25 } (dC, dI) (gTY cI cT cS) sz [.int a0] ws (fun (r : Int32) (_ : Unit) => r = b2i o) (fun (_ : Unit) => ws) 0 0 := by
  refine Met.ofW (cc := cX10_isTwo) (maxL := 1) (ret := (some .boolean)) (by decide) rfl ?_
  intro p e s m args below meth c s₁ B hml hv
  obtain ⟨rfl, hsz, hP, hK, hD0⟩ := hv
  have hx := B.exec
  have hb := B.bytes
  have hr := B.returns
  have hts := atoms_spec (ws := vc_X10_isTwo) B.pre
  have hown : s.vm.findClass RX10 = some m.cls := findClass_of_methodNamed B.named
  have hlocks := B.notSynchronized
  subst hsz
  have hD := hD0.self (sz := s.heap.size)
  generalize hAe : va_A ws s.heap.size = A at hD ⊢
  have hA : ∀ q : Nat, s.heap.size ≤ q → A q := fun q h => by rw [← hAe]; exact Or.inr h
  clear hAe hD0
  refine gstart (fun H locs hHe hLe => ?_)
  have hS : va_S A s.heap H locs := by rw [← hHe, ← hLe]; exact va_S.rf
  replace hP : va_P (dC, dI) vwCl ws H := by rw [← hHe]; exact hP
  clear hHe hLe
  have hl := lv_entry ([.int a0]) (n := 1) (Nat.le_of_ble_eq_true rfl)
  rw [lg_entry_eq]
  generalize (lg_sl ([.int a0]) ++ List.replicate (1 - (lg_sl ([.int a0])).length) Slot.unset).toArray = ls at hl ⊢
  replace hl : lv_has ls 1 [(0, .int a0)] := hl
  unfold zf_X10_isTwo at h
  refine lv_iload_n hx hb dX10_isTwo_0 rfl (lv_at hl 0 rfl) ?_
  refine lv_i2l hx hb dX10_isTwo_1 rfl ?_
  refine lv_lconst (v := 0) hx hb dX10_isTwo_2 (by decide) ?_
  refine lv_lconst (v := 1) hx hb dX10_isTwo_3 (by decide) ?_
  refine wcalli (S := Unit) (va_runS (As := [.long (a0.toInt64), .long (0 : Int64), .long (1 : Int64)]) (rest := []) ⟨hx, hb, hml, hown, hts⟩ (c_X10_in l dC dI cI cT cS H.size ws  (a0.toInt64) (0 : Int64) (1 : Int64) _ rfl) (va_cwS 3 hts (gWS (List.mem_of_getElem? (i := 1) rfl) (List.mem_of_getElem? (i := 2) rfl) (List.mem_of_getElem? (i := 3) rfl) ic_X10_isTwo_c_X10_in gd_c_X10_in) rfl rfl rfl (by decide +kernel) ⟨(Nat.le_of_ble_eq_true rfl), (Nat.le_of_ble_eq_true rfl)⟩) (gpS hP hK hD) rfl rfl hl.1 rfl (lv_room (Nat.le_of_ble_eq_true rfl)) dX10_isTwo_4 ⟨(Nat.le_of_ble_eq_true rfl), (Nat.le_of_ble_eq_true rfl)⟩) hP hD hS hA (fun rr1 _ H locs hr1 hP hD hS => ?_)
  refine lv_nm (y := b2i (zf_X10_in (a0.toInt64) (0 : Int64) (1 : Int64))) hr1 ?_
  have h9 := h
  exact wretz hx hb hr hlocks (b2i_or _) hP hD hS (by show _ = _; rw [← h9]; first | done | rfl) rfl dX10_isTwo_7
def zb_X10_isIn_14 (w0_14 : Bool) : Bool := w0_14
def zf_X10_isIn (a0 : Int32) (a1 : Int32) : Bool := (if ((a0 >>> (a1 &&& 31)) &&& (1 : Int32)) = (1 : Int32) then (zb_X10_isIn_14 true) else (zb_X10_isIn_14 false))
def oc_X10_isIn : List Cond := []
def vc_X10_isIn : List Cond := .code yX10_isIn cX10_isIn 2 (some .boolean) :: (oc_X10_isIn)
theorem gd_c_X10_isIn : (vc_X10_isIn).all goodWord = true := gall_cons rfl (by decide +kernel)
set_option maxHeartbeats 4000000 in
set_option maxRecDepth 100000 in
theorem c_X10_isIn (l : Launch) (dC : Nat → ClassId) (dI : Nat → Nat → Nat) (cI cT cS : ClassId) (sz : Nat) (ws : va_W) (a0 : Int32) (a1 : Int32) (o : Bool) (h : zf_X10_isIn a0 a1 = o) : gCI (S := Unit) l yX10_isIn vc_X10_isIn { frames := 0, cells := 0, slots := 0, locals := 0 } (dC, dI) (gTY cI cT cS) sz [.int a0, .int a1] ws (fun (r : Int32) (_ : Unit) => r = b2i o) (fun (_ : Unit) => ws) 0 0 := by
  refine Met.ofW (cc := cX10_isIn) (maxL := 2) (ret := (some .boolean)) (by decide) rfl ?_
  intro p e s m args below meth c s₁ B hml hv
  obtain ⟨rfl, hsz, hP, hK, hD0⟩ := hv
  have hx := B.exec
  have hb := B.bytes
  have hr := B.returns
  have hts := atoms_spec (ws := vc_X10_isIn) B.pre
  have hown : s.vm.findClass RX10 = some m.cls := findClass_of_methodNamed B.named
  have hlocks := B.notSynchronized
  subst hsz
  have hD := hD0.self (sz := s.heap.size)
  generalize hAe : va_A ws s.heap.size = A at hD ⊢
  have hA : ∀ q : Nat, s.heap.size ≤ q → A q := fun q h => by rw [← hAe]; exact Or.inr h
  clear hAe hD0
  refine gstart (fun H locs hHe hLe => ?_)
  have hS : va_S A s.heap H locs := by rw [← hHe, ← hLe]; exact va_S.rf
  replace hP : va_P (dC, dI) vwCl ws H := by rw [← hHe]; exact hP
  clear hHe hLe
  have hl := lv_entry ([.int a0, .int a1]) (n := 2) (Nat.le_of_ble_eq_true rfl)
  rw [lg_entry_eq]
  generalize (lg_sl ([.int a0, .int a1]) ++ List.replicate (2 - (lg_sl ([.int a0, .int a1])).length) Slot.unset).toArray = ls at hl ⊢
  replace hl : lv_has ls 2 [(0, .int a0), (1, .int a1)] := hl
  unfold zf_X10_isIn at h
  have J14 : ∀ (w0_14 : Bool) (H : Heap) (locs : List Loc) (ls : Array Slot), zb_X10_isIn_14 w0_14 = o → va_P (dC, dI) vwCl ws H → va_D A ws → va_S A s.heap H locs → lv_has ls 2 [] → W p l e (headSpec vc_X10_isIn { frames := 0, cells := 0, slots := 0, locals := 0 }).room s m (List.toArray (α := Value) [.int a0, .int a1]) below meth c H locs 0 0 (MQ below (va_Qi (fun (r : Int32) (_ : Unit) => r = b2i o) (gB (dC, dI) A (fun (_ : Unit) => ws)) A) (List.toArray (α := Value) [.int a0, .int a1]) s 0 0 A) (F0 m 14 ls [.int (b2i w0_14)]) := by
    intro w0_14 H locs ls h hP hD hS hl
    unfold zb_X10_isIn_14 at h
    have h9 := h
    exact wretz hx hb hr hlocks (b2i_or _) hP hD hS (by show _ = _; rw [← h9]; first | done | rfl) rfl dX10_isIn_14
  refine lv_iload_n hx hb dX10_isIn_0 rfl (lv_at hl 0 rfl) ?_
  refine lv_iload_n hx hb dX10_isIn_1 rfl (lv_at hl 1 rfl) ?_
  refine lv_ishr hx hb dX10_isIn_2 ?_
  refine lv_iconst (v := 1) hx hb dX10_isIn_3 (by decide) ?_
  refine lv_iand hx hb dX10_isIn_4 ?_
  refine lv_iconst (v := 1) hx hb dX10_isIn_5 (by decide) ?_
  refine lv_icmp_ne (tgt := 13) hx hb dX10_isIn_6 (by decide) (fun c1 => ?_) (fun c1 => ?_)
  · replace h := ifn (c1) h
    refine lv_iconst (v := 0) hx hb dX10_isIn_13 (by decide) ?_
    exact J14 false H locs ls h hP hD hS (lv_sub (l' := []) hl [] rfl)
  · replace h := ifp (c1) h
    refine lv_iconst (v := 1) hx hb dX10_isIn_9 (by decide) ?_
    refine lv_goto (tgt := 14) hx hb dX10_isIn_10 (by decide) ?_
    exact J14 true H locs ls h hP hD hS (lv_sub (l' := []) hl [] rfl)
def zb_X10_lesser_10 (w0_10 : Int32) : Int32 := w0_10
def zf_X10_lesser (a0 : Int32) (a1 : Int32) : Int32 := (if a1 ≤ a0 then (zb_X10_lesser_10 a1) else (zb_X10_lesser_10 a0))
def oc_X10_lesser : List Cond := []
def vc_X10_lesser : List Cond := .code yX10_lesser cX10_lesser 2 (some .int) :: (oc_X10_lesser)
theorem gd_c_X10_lesser : (vc_X10_lesser).all goodWord = true := gall_cons rfl (by decide +kernel)
set_option maxHeartbeats 4000000 in
set_option maxRecDepth 100000 in
theorem c_X10_lesser (l : Launch) (dC : Nat → ClassId) (dI : Nat → Nat → Nat) (cI cT cS : ClassId) (sz : Nat) (ws : va_W) (a0 : Int32) (a1 : Int32) (o : Int32) (h : zf_X10_lesser a0 a1 = o) : gCI (S := Unit) l yX10_lesser vc_X10_lesser { frames := 0, cells := 0, slots := 0, locals := 0 } (dC, dI) (gTY cI cT cS) sz [.int a0, .int a1] ws (fun (r : Int32) (_ : Unit) => r = o) (fun (_ : Unit) => ws) 0 0 := by
  refine Met.ofW (cc := cX10_lesser) (maxL := 2) (ret := (some .int)) (by decide) rfl ?_
  intro p e s m args below meth c s₁ B hml hv
  obtain ⟨rfl, hsz, hP, hK, hD0⟩ := hv
  have hx := B.exec
  have hb := B.bytes
  have hr := B.returns
  have hts := atoms_spec (ws := vc_X10_lesser) B.pre
  have hown : s.vm.findClass RX10 = some m.cls := findClass_of_methodNamed B.named
  have hlocks := B.notSynchronized
  subst hsz
  have hD := hD0.self (sz := s.heap.size)
  generalize hAe : va_A ws s.heap.size = A at hD ⊢
  have hA : ∀ q : Nat, s.heap.size ≤ q → A q := fun q h => by rw [← hAe]; exact Or.inr h
  clear hAe hD0
  refine gstart (fun H locs hHe hLe => ?_)
  have hS : va_S A s.heap H locs := by rw [← hHe, ← hLe]; exact va_S.rf
  replace hP : va_P (dC, dI) vwCl ws H := by rw [← hHe]; exact hP
  clear hHe hLe
  have hl := lv_entry ([.int a0, .int a1]) (n := 2) (Nat.le_of_ble_eq_true rfl)
  rw [lg_entry_eq]
  generalize (lg_sl ([.int a0, .int a1]) ++ List.replicate (2 - (lg_sl ([.int a0, .int a1])).length) Slot.unset).toArray = ls at hl ⊢
  replace hl : lv_has ls 2 [(0, .int a0), (1, .int a1)] := hl
  unfold zf_X10_lesser at h
  have J10 : ∀ (w0_10 : Int32) (H : Heap) (locs : List Loc) (ls : Array Slot), zb_X10_lesser_10 w0_10 = o → va_P (dC, dI) vwCl ws H → va_D A ws → va_S A s.heap H locs → lv_has ls 2 [] → W p l e (headSpec vc_X10_lesser { frames := 0, cells := 0, slots := 0, locals := 0 }).room s m (List.toArray (α := Value) [.int a0, .int a1]) below meth c H locs 0 0 (MQ below (va_Qi (fun (r : Int32) (_ : Unit) => r = o) (gB (dC, dI) A (fun (_ : Unit) => ws)) A) (List.toArray (α := Value) [.int a0, .int a1]) s 0 0 A) (F0 m 10 ls [.int w0_10]) := by
    intro w0_10 H locs ls h hP hD hS hl
    unfold zb_X10_lesser_10 at h
    have h9 := h
    exact wreti hx hb hr hlocks hP hD hS (by show _ = _; rw [← h9]; first | done | rfl) rfl dX10_lesser_10
  refine lv_iload_n hx hb dX10_lesser_0 rfl (lv_at hl 0 rfl) ?_
  refine lv_iload_n hx hb dX10_lesser_1 rfl (lv_at hl 1 rfl) ?_
  refine lv_icmp_ge (tgt := 9) hx hb dX10_lesser_2 (by decide) (fun c1 => ?_) (fun c1 => ?_)
  · replace h := ifp (c1) h
    refine lv_iload_n hx hb dX10_lesser_9 rfl (lv_at hl 1 rfl) ?_
    exact J10 a1 H locs ls h hP hD hS (lv_sub (l' := []) hl [] rfl)
  · replace h := ifn (c1) h
    refine lv_iload_n hx hb dX10_lesser_5 rfl (lv_at hl 0 rfl) ?_
    refine lv_goto (tgt := 10) hx hb dX10_lesser_6 (by decide) ?_
    exact J10 a0 H locs ls h hP hD hS (lv_sub (l' := []) hl [] rfl)
def zb_X10_greater_10 (w0_10 : Int32) : Int32 := w0_10
def zf_X10_greater (a0 : Int32) (a1 : Int32) : Int32 := (if a0 ≤ a1 then (zb_X10_greater_10 a1) else (zb_X10_greater_10 a0))
def oc_X10_greater : List Cond := []
def vc_X10_greater : List Cond := .code yX10_greater cX10_greater 2 (some .int) :: (oc_X10_greater)
theorem gd_c_X10_greater : (vc_X10_greater).all goodWord = true := gall_cons rfl (by decide +kernel)
set_option maxHeartbeats 4000000 in
set_option maxRecDepth 100000 in
theorem c_X10_greater (l : Launch) (dC : Nat → ClassId) (dI : Nat → Nat → Nat) (cI cT cS : ClassId) (sz : Nat) (ws : va_W) (a0 : Int32) (a1 : Int32) (o : Int32) (h : zf_X10_greater a0 a1 = o) : gCI (S := Unit) l yX10_greater vc_X10_greater { frames := 0, cells := 0, slots := 0, locals := 0 } (dC, dI) (gTY cI cT cS) sz [.int a0, .int a1] ws (fun (r : Int32) (_ : Unit) => r = o) (fun (_ : Unit) => ws) 0 0 := by
  refine Met.ofW (cc := cX10_greater) (maxL := 2) (ret := (some .int)) (by decide) rfl ?_
  intro p e s m args below meth c s₁ B hml hv
  obtain ⟨rfl, hsz, hP, hK, hD0⟩ := hv
  have hx := B.exec
  have hb := B.bytes
  have hr := B.returns
  have hts := atoms_spec (ws := vc_X10_greater) B.pre
  have hown : s.vm.findClass RX10 = some m.cls := findClass_of_methodNamed B.named
  have hlocks := B.notSynchronized
  subst hsz
  have hD := hD0.self (sz := s.heap.size)
  generalize hAe : va_A ws s.heap.size = A at hD ⊢
  have hA : ∀ q : Nat, s.heap.size ≤ q → A q := fun q h => by rw [← hAe]; exact Or.inr h
  clear hAe hD0
  refine gstart (fun H locs hHe hLe => ?_)
  have hS : va_S A s.heap H locs := by rw [← hHe, ← hLe]; exact va_S.rf
  replace hP : va_P (dC, dI) vwCl ws H := by rw [← hHe]; exact hP
  clear hHe hLe
  have hl := lv_entry ([.int a0, .int a1]) (n := 2) (Nat.le_of_ble_eq_true rfl)
  rw [lg_entry_eq]
  generalize (lg_sl ([.int a0, .int a1]) ++ List.replicate (2 - (lg_sl ([.int a0, .int a1])).length) Slot.unset).toArray = ls at hl ⊢
  replace hl : lv_has ls 2 [(0, .int a0), (1, .int a1)] := hl
  unfold zf_X10_greater at h
  have J10 : ∀ (w0_10 : Int32) (H : Heap) (locs : List Loc) (ls : Array Slot), zb_X10_greater_10 w0_10 = o → va_P (dC, dI) vwCl ws H → va_D A ws → va_S A s.heap H locs → lv_has ls 2 [] → W p l e (headSpec vc_X10_greater { frames := 0, cells := 0, slots := 0, locals := 0 }).room s m (List.toArray (α := Value) [.int a0, .int a1]) below meth c H locs 0 0 (MQ below (va_Qi (fun (r : Int32) (_ : Unit) => r = o) (gB (dC, dI) A (fun (_ : Unit) => ws)) A) (List.toArray (α := Value) [.int a0, .int a1]) s 0 0 A) (F0 m 10 ls [.int w0_10]) := by
    intro w0_10 H locs ls h hP hD hS hl
    unfold zb_X10_greater_10 at h
    have h9 := h
    exact wreti hx hb hr hlocks hP hD hS (by show _ = _; rw [← h9]; first | done | rfl) rfl dX10_greater_10
  refine lv_iload_n hx hb dX10_greater_0 rfl (lv_at hl 0 rfl) ?_
  refine lv_iload_n hx hb dX10_greater_1 rfl (lv_at hl 1 rfl) ?_
  refine lv_icmp_le (tgt := 9) hx hb dX10_greater_2 (by decide) (fun c1 => ?_) (fun c1 => ?_)
  · replace h := ifp (c1) h
    refine lv_iload_n hx hb dX10_greater_9 rfl (lv_at hl 1 rfl) ?_
    exact J10 a1 H locs ls h hP hD hS (lv_sub (l' := []) hl [] rfl)
  · replace h := ifn (c1) h
    refine lv_iload_n hx hb dX10_greater_5 rfl (lv_at hl 0 rfl) ?_
    refine lv_goto (tgt := 10) hx hb dX10_greater_6 (by decide) ?_
    exact J10 a0 H locs ls h hP hD hS (lv_sub (l' := []) hl [] rfl)
def zf_X10_finds (a1 : Int32) (σ : Sg) : Int32 × Sg := (((-10 : Int32) - a1), su σ 0 4 a1)
def oc_X10_finds : List Cond := [.fieldLink RX10 90 "TraceTreesModel" "latest" "I"]
def vc_X10_finds : List Cond := .code yX10_finds cX10_finds 2 (some .int) :: (oc_X10_finds ++ (wsX100))
theorem iw_X10_finds_X10 : ∀ w ∈ wsX100, w ∈ vc_X10_finds := fun _ h => List.mem_cons_of_mem _ (List.mem_append_right _ (h))
theorem gd_c_X10_finds : (vc_X10_finds).all goodWord = true := gall_cons rfl (gall_app (by decide +kernel) gw_X10)
set_option maxHeartbeats 4000000 in
set_option maxRecDepth 100000 in
theorem c_X10_finds (l : Launch) (dC : Nat → ClassId) (dI : Nat → Nat → Nat) (cI cT cS : ClassId) (sz : Nat) (ad : Nat → Nat) (a1 : Int32) (σ : Sg) (o : Int32 × Sg) (h : zf_X10_finds a1 σ = o) : gCI (S := Unit) l yX10_finds vc_X10_finds { frames := 0, cells := 0, slots := 0, locals := 0 } (dC, dI) (gTY cI cT cS) sz [.ref (ad 0), .int a1] (Wd 24 (cfR ad cI) σ) (fun (r : Int32) (_ : Unit) => r = o.1) (fun (_ : Unit) => (Wd 24 (cfR ad cI) o.2)) 0 0 := by
  refine Met.ofW (cc := cX10_finds) (maxL := 2) (ret := (some .int)) (by decide) rfl ?_
  intro p e s m args below meth c s₁ B hml hv
  obtain ⟨rfl, hsz, hP, hK, hD0⟩ := hv
  have hx := B.exec
  have hb := B.bytes
  have hr := B.returns
  have hts := atoms_spec (ws := vc_X10_finds) B.pre
  have hown : s.vm.findClass RX10 = some m.cls := findClass_of_methodNamed B.named
  have hlocks := B.notSynchronized
  subst hsz
  have hD := hD0.self (sz := s.heap.size)
  generalize hAe : va_A (Wd 24 (cfR ad cI) σ) s.heap.size = A at hD ⊢
  have hA : ∀ q : Nat, s.heap.size ≤ q → A q := fun q h => by rw [← hAe]; exact Or.inr h
  clear hAe hD0
  refine gstart (fun H locs hHe hLe => ?_)
  have hS : va_S A s.heap H locs := by rw [← hHe, ← hLe]; exact va_S.rf
  replace hP : va_P (dC, dI) vwCl (Wd 24 (cfR ad cI) σ) H := by rw [← hHe]; exact hP
  clear hHe hLe
  have hl := lv_entry ([.ref (ad 0), .int a1]) (n := 2) (Nat.le_of_ble_eq_true rfl)
  rw [lg_entry_eq]
  generalize (lg_sl ([.ref (ad 0), .int a1]) ++ List.replicate (2 - (lg_sl ([.ref (ad 0), .int a1])).length) Slot.unset).toArray = ls at hl ⊢
  replace hl : lv_has ls 2 [(0, .ref (ad 0)), (1, .int a1)] := hl
  unfold zf_X10_finds at h
  refine lv_aload_n hx hb dX10_finds_0 rfl (lv_at hl 0 rfl) ?_
  refine lv_iload_n hx hb dX10_finds_1 rfl (lv_at hl 1 rfl) ?_
  refine pf_X10_4 hx hb hts iw_X10_finds_X10 hown hK hP hD hS (hts (.fieldLink RX10 90 "TraceTreesModel" "latest" "I") (List.mem_of_getElem? (i := 1) rfl)) dX10_finds_2 (fun H locs hP hD hS => ?_)
  refine lv_bipush (v := (-10)) hx hb dX10_finds_5 (by decide) ?_
  refine lv_iload_n hx hb dX10_finds_7 rfl (lv_at hl 1 rfl) ?_
  refine lv_isub hx hb dX10_finds_8 ?_
  have h9 := h
  exact wreti hx hb hr hlocks hP hD hS (by show _ = _; rw [← h9]; first | done | rfl) (by rw [← h9]) dX10_finds_9
def zf_X10_isSheet (a0 : Int32) : Bool := (zf_X10_in (a0.toInt64) (0 : Int64) (3 : Int64))
def oc_X10_isSheet : List Cond := [.constantLong RX10 93 (3), .methodLink RX10 86 yX10_in, .static yX10_in, .initialized RX10]
def vc_X10_isSheet : List Cond := .code yX10_isSheet cX10_isSheet 1 (some .boolean) :: (oc_X10_isSheet ++ (vc_X10_in))
theorem ic_X10_isSheet_c_X10_in : ∀ w ∈ vc_X10_in, w ∈ vc_X10_isSheet := fun _ h => List.mem_cons_of_mem _ (List.mem_append_right _ (h))
theorem gd_c_X10_isSheet : (vc_X10_isSheet).all goodWord = true := gall_cons rfl (gall_app (by decide +kernel) gd_c_X10_in)
set_option maxHeartbeats 4000000 in
set_option maxRecDepth 100000 in
theorem c_X10_isSheet (l : Launch) (dC : Nat → ClassId) (dI : Nat → Nat → Nat) (cI cT cS : ClassId) (sz : Nat) (ws : va_W) (a0 : Int32) (o : Bool) (h : zf_X10_isSheet a0 = o) : gCI (S := Unit) l yX10_isSheet vc_X10_isSheet { frames := 1, cells := 0, slots := 0, locals := 25 } (dC, dI) (gTY cI cT cS) sz [.int a0] ws (fun (r : Int32) (_ : Unit) => r = b2i o) (fun (_ : Unit) => ws) 0 0 := by
  refine Met.ofW (cc := cX10_isSheet) (maxL := 1) (ret := (some .boolean)) (by decide) rfl ?_
  intro p e s m args below meth c s₁ B hml hv
  obtain ⟨rfl, hsz, hP, hK, hD0⟩ := hv
  have hx := B.exec
  have hb := B.bytes
  have hr := B.returns
  have hts := atoms_spec (ws := vc_X10_isSheet) B.pre
  have hown : s.vm.findClass RX10 = some m.cls := findClass_of_methodNamed B.named
  have hlocks := B.notSynchronized
  subst hsz
  have hD := hD0.self (sz := s.heap.size)
  generalize hAe : va_A ws s.heap.size = A at hD ⊢
  have hA : ∀ q : Nat, s.heap.size ≤ q → A q := fun q h => by rw [← hAe]; exact Or.inr h
  clear hAe hD0
  refine gstart (fun H locs hHe hLe => ?_)
  have hS : va_S A s.heap H locs := by rw [← hHe, ← hLe]; exact va_S.rf
  replace hP : va_P (dC, dI) vwCl ws H := by rw [← hHe]; exact hP
  clear hHe hLe
  have hl := lv_entry ([.int a0]) (n := 1) (Nat.le_of_ble_eq_true rfl)
  rw [lg_entry_eq]
  generalize (lg_sl ([.int a0]) ++ List.replicate (1 - (lg_sl ([.int a0])).length) Slot.unset).toArray = ls at hl ⊢
  replace hl : lv_has ls 1 [(0, .int a0)] := hl
  unfold zf_X10_isSheet at h
  refine lv_iload_n hx hb dX10_isSheet_0 rfl (lv_at hl 0 rfl) ?_
  refine lv_i2l hx hb dX10_isSheet_1 rfl ?_
  refine lv_lconst (v := 0) hx hb dX10_isSheet_2 (by decide) ?_
  refine lv_ldc2 (v := 3) hx hb hown (hts (.constantLong RX10 93 (3)) (List.mem_of_getElem? (i := 1) rfl)) dX10_isSheet_3 ?_
  refine wcalli (S := Unit) (va_runS (As := [.long (a0.toInt64), .long (0 : Int64), .long (3 : Int64)]) (rest := []) ⟨hx, hb, hml, hown, hts⟩ (c_X10_in l dC dI cI cT cS H.size ws  (a0.toInt64) (0 : Int64) (3 : Int64) _ rfl) (va_cwS 3 hts (gWS (List.mem_of_getElem? (i := 2) rfl) (List.mem_of_getElem? (i := 3) rfl) (List.mem_of_getElem? (i := 4) rfl) ic_X10_isSheet_c_X10_in gd_c_X10_in) rfl rfl rfl (by decide +kernel) ⟨(Nat.le_of_ble_eq_true rfl), (Nat.le_of_ble_eq_true rfl)⟩) (gpS hP hK hD) rfl rfl hl.1 rfl (lv_room (Nat.le_of_ble_eq_true rfl)) dX10_isSheet_6 ⟨(Nat.le_of_ble_eq_true rfl), (Nat.le_of_ble_eq_true rfl)⟩) hP hD hS hA (fun rr1 _ H locs hr1 hP hD hS => ?_)
  refine lv_nm (y := b2i (zf_X10_in (a0.toInt64) (0 : Int64) (3 : Int64))) hr1 ?_
  have h9 := h
  exact wretz hx hb hr hlocks (b2i_or _) hP hD hS (by show _ = _; rw [← h9]; first | done | rfl) rfl dX10_isSheet_9
def zb_X10_sheet_25 (σ : Sg) : Option (Int32 × Sg) := some ((-2 : Int32), σ)
def zl_X10_sheet_55 (a1 : Int32) (a3 : Int32) (x55 : Int32 × Sg) : Option (Bool × (Int32 × Sg)) := (if a3 ≤ x55.1 then some (false, (x55.1, x55.2)) else bd (((60 : Int32) * a1) + x55.1) 240 (some (true, ((x55.1 + (1 : Int32)), su x55.2 3 (((60 : Int32) * a1) + x55.1).toNatClampNeg (0 : Int32)))))
def zf_X10_sheet (a1 : Int32) (a2 : Int32) (a3 : Int32) (σ : Sg) : Option (Int32 × Sg) := (if (zf_X10_isSheet a1) = true then (if (zf_X10_in (a2.toInt64) (0 : Int64) (2 : Int64)) = true then (if a3 ≤ (60 : Int32) then (if 0 ≤ a3 then bd a1 4 (obd (lp (X := Int32 × Sg) (zl_X10_sheet_55 a1 a3) 1000 ((0 : Int32), su (su σ 1 a1.toNatClampNeg a2) 2 a1.toNatClampNeg a3)) (fun y55 => some (a3, y55.2))) else letb (zf_X10_finds (5 : Int32) σ) (fun q10 => some (q10.1, q10.2))) else (zb_X10_sheet_25 σ)) else (zb_X10_sheet_25 σ)) else (zb_X10_sheet_25 σ))
def oc_X10_sheet : List Cond := [.methodLink RX10 95 yX10_isSheet, .static yX10_isSheet, .initialized RX10, .constantLong RX10 99 (2), .methodLink RX10 86 yX10_in, .static yX10_in, .fieldLink RX10 7 "TraceTreesModel" "forms" "[I", .fieldLink RX10 13 "TraceTreesModel" "sizes" "[I", .fieldLink RX10 16 "TraceTreesModel" "items" "[I", .methodLink RX10 101 yX10_finds, .instanceMethod yX10_finds, .selects RX10 yX10_finds yX10_finds]
def vc_X10_sheet : List Cond := .code yX10_sheet cX10_sheet 5 (some .int) :: (oc_X10_sheet ++ (wsX100 ++ (vc_X10_isSheet ++ (vc_X10_in ++ (vc_X10_finds)))))
theorem iw_X10_sheet_X10 : ∀ w ∈ wsX100, w ∈ vc_X10_sheet := fun _ h => List.mem_cons_of_mem _ (List.mem_append_right _ (List.mem_append_left _ h))
theorem ic_X10_sheet_c_X10_isSheet : ∀ w ∈ vc_X10_isSheet, w ∈ vc_X10_sheet := fun _ h => List.mem_cons_of_mem _ (List.mem_append_right _ (List.mem_append_right _ (List.mem_append_left _ h)))
theorem ic_X10_sheet_c_X10_in : ∀ w ∈ vc_X10_in, w ∈ vc_X10_sheet := fun _ h => List.mem_cons_of_mem _ (List.mem_append_right _ (List.mem_append_right _ (List.mem_append_right _ (List.mem_append_left _ h))))
theorem ic_X10_sheet_c_X10_finds : ∀ w ∈ vc_X10_finds, w ∈ vc_X10_sheet := fun _ h => List.mem_cons_of_mem _ (List.mem_append_right _ (List.mem_append_right _ (List.mem_append_right _ (List.mem_append_right _ (h)))))
theorem gd_c_X10_sheet : (vc_X10_sheet).all goodWord = true := gall_cons rfl (gall_app (by decide +kernel) (gall_app gw_X10 (gall_app gd_c_X10_isSheet (gall_app gd_c_X10_in gd_c_X10_finds))))
set_option maxHeartbeats 4000000 in
set_option maxRecDepth 100000 in
theorem c_X10_sheet (l : Launch) (dC : Nat → ClassId) (dI : Nat → Nat → Nat) (cI cT cS : ClassId) (sz : Nat) (ad : Nat → Nat) (a1 : Int32) (a2 : Int32) (a3 : Int32) (σ : Sg) (o : Int32 × Sg) (h : zf_X10_sheet a1 a2 a3 σ = some o) : gCI (S := Unit) l yX10_sheet vc_X10_sheet { frames := 2, cells := 0, slots := 0, locals := 45 } (dC, dI) (gTY cI cT cS) sz [.ref (ad 0), .int a1, .int a2, .int a3] (Wd 24 (cfR ad cI) σ) (fun (r : Int32) (_ : Unit) => r = o.1) (fun (_ : Unit) => (Wd 24 (cfR ad cI) o.2)) 0 0 := by
  refine Met.ofW (cc := cX10_sheet) (maxL := 5) (ret := (some .int)) (by decide) rfl ?_
  intro p e s m args below meth c s₁ B hml hv
  obtain ⟨rfl, hsz, hP, hK, hD0⟩ := hv
  have hx := B.exec
  have hb := B.bytes
  have hr := B.returns
  have hts := atoms_spec (ws := vc_X10_sheet) B.pre
  have hown : s.vm.findClass RX10 = some m.cls := findClass_of_methodNamed B.named
  have hlocks := B.notSynchronized
  subst hsz
  have hD := hD0.self (sz := s.heap.size)
  generalize hAe : va_A (Wd 24 (cfR ad cI) σ) s.heap.size = A at hD ⊢
  have hA : ∀ q : Nat, s.heap.size ≤ q → A q := fun q h => by rw [← hAe]; exact Or.inr h
  clear hAe hD0
  refine gstart (fun H locs hHe hLe => ?_)
  have hS : va_S A s.heap H locs := by rw [← hHe, ← hLe]; exact va_S.rf
  replace hP : va_P (dC, dI) vwCl (Wd 24 (cfR ad cI) σ) H := by rw [← hHe]; exact hP
  clear hHe hLe
  have hl := lv_entry ([.ref (ad 0), .int a1, .int a2, .int a3]) (n := 5) (Nat.le_of_ble_eq_true rfl)
  rw [lg_entry_eq]
  generalize (lg_sl ([.ref (ad 0), .int a1, .int a2, .int a3]) ++ List.replicate (5 - (lg_sl ([.ref (ad 0), .int a1, .int a2, .int a3])).length) Slot.unset).toArray = ls at hl ⊢
  replace hl : lv_has ls 5 [(0, .ref (ad 0)), (1, .int a1), (2, .int a2), (3, .int a3)] := hl
  unfold zf_X10_sheet at h
  have J25 : ∀  (H : Heap) (locs : List Loc) (ls : Array Slot), zb_X10_sheet_25 σ = some o → va_P (dC, dI) vwCl (Wd 24 (cfR ad cI) σ) H → va_D A (Wd 24 (cfR ad cI) σ) → va_S A s.heap H locs → lv_has ls 5 [] → W p l e (headSpec vc_X10_sheet { frames := 2, cells := 0, slots := 0, locals := 45 }).room s m (List.toArray (α := Value) [.ref (ad 0), .int a1, .int a2, .int a3]) below meth c H locs 0 0 (MQ below (va_Qi (fun (r : Int32) (_ : Unit) => r = o.1) (gB (dC, dI) A (fun (_ : Unit) => (Wd 24 (cfR ad cI) o.2))) A) (List.toArray (α := Value) [.ref (ad 0), .int a1, .int a2, .int a3]) s 0 0 A) (F0 m 25 ls []) := by
    intro  H locs ls h hP hD hS hl
    unfold zb_X10_sheet_25 at h
    refine lv_bipush (v := (-2)) hx hb dX10_sheet_25 (by decide) ?_
    have h9 := Option.some.inj h
    exact wreti hx hb hr hlocks hP hD hS (by show _ = _; rw [← h9]; first | done | rfl) (by rw [← h9]) dX10_sheet_27
  refine lv_iload_n hx hb dX10_sheet_0 rfl (lv_at hl 1 rfl) ?_
  refine wcalli (S := Unit) (va_runS (As := [.int a1]) (rest := []) ⟨hx, hb, hml, hown, hts⟩ (c_X10_isSheet l dC dI cI cT cS H.size (Wd 24 (cfR ad cI) σ)  a1 _ rfl) (va_cwS 1 hts (gWS (List.mem_of_getElem? (i := 1) rfl) (List.mem_of_getElem? (i := 2) rfl) (List.mem_of_getElem? (i := 3) rfl) ic_X10_sheet_c_X10_isSheet gd_c_X10_isSheet) rfl rfl rfl (by decide +kernel) ⟨(Nat.le_of_ble_eq_true rfl), (Nat.le_of_ble_eq_true rfl)⟩) (gpS hP hK hD) rfl rfl hl.1 rfl (lv_room (Nat.le_of_ble_eq_true rfl)) dX10_sheet_1 ⟨(Nat.le_of_ble_eq_true rfl), (Nat.le_of_ble_eq_true rfl)⟩) hP hD hS hA (fun rr1 _ H locs hr1 hP hD hS => ?_)
  refine lv_nm (y := b2i (zf_X10_isSheet a1)) hr1 ?_
  refine lv_if_eq (tgt := 25) hx hb dX10_sheet_4 (by decide) (fun c2 => ?_) (fun c2 => ?_)
  · replace h := ifn (b2i_0 c2) h
    exact J25  H locs ls h hP hD hS (lv_sub (l' := []) hl [] rfl)
  · replace h := ifp (b2i_1 c2) h
    refine lv_iload_n hx hb dX10_sheet_7 rfl (lv_at hl 2 rfl) ?_
    refine lv_i2l hx hb dX10_sheet_8 rfl ?_
    refine lv_lconst (v := 0) hx hb dX10_sheet_9 (by decide) ?_
    refine lv_ldc2 (v := 2) hx hb hown (hts (.constantLong RX10 99 (2)) (List.mem_of_getElem? (i := 4) rfl)) dX10_sheet_10 ?_
    refine wcalli (S := Unit) (va_runS (As := [.long (a2.toInt64), .long (0 : Int64), .long (2 : Int64)]) (rest := []) ⟨hx, hb, hml, hown, hts⟩ (c_X10_in l dC dI cI cT cS H.size (Wd 24 (cfR ad cI) σ)  (a2.toInt64) (0 : Int64) (2 : Int64) _ rfl) (va_cwS 3 hts (gWS (List.mem_of_getElem? (i := 5) rfl) (List.mem_of_getElem? (i := 6) rfl) (List.mem_of_getElem? (i := 3) rfl) ic_X10_sheet_c_X10_in gd_c_X10_in) rfl rfl rfl (by decide +kernel) ⟨(Nat.le_of_ble_eq_true rfl), (Nat.le_of_ble_eq_true rfl)⟩) (gpS hP hK hD) rfl rfl hl.1 rfl (lv_room (Nat.le_of_ble_eq_true rfl)) dX10_sheet_13 ⟨(Nat.le_of_ble_eq_true rfl), (Nat.le_of_ble_eq_true rfl)⟩) hP hD hS hA (fun rr3 _ H locs hr3 hP hD hS => ?_)
    refine lv_nm (y := b2i (zf_X10_in (a2.toInt64) (0 : Int64) (2 : Int64))) hr3 ?_
    refine lv_if_eq (tgt := 25) hx hb dX10_sheet_16 (by decide) (fun c4 => ?_) (fun c4 => ?_)
    · replace h := ifn (b2i_0 c4) h
      exact J25  H locs ls h hP hD hS (lv_sub (l' := []) hl [] rfl)
    · replace h := ifp (b2i_1 c4) h
      refine lv_iload_n hx hb dX10_sheet_19 rfl (lv_at hl 3 rfl) ?_
      refine lv_bipush (v := 60) hx hb dX10_sheet_20 (by decide) ?_
      refine lv_icmp_le (tgt := 28) hx hb dX10_sheet_22 (by decide) (fun c5 => ?_) (fun c5 => ?_)
      · replace h := ifp (c5) h
        refine lv_iload_n hx hb dX10_sheet_28 rfl (lv_at hl 3 rfl) ?_
        refine lv_if_ge (tgt := 38) hx hb dX10_sheet_29 (by decide) (fun c6 => ?_) (fun c6 => ?_)
        · replace h := ifp (c6) h
          refine lv_aload_n hx hb dX10_sheet_38 rfl (lv_at hl 0 rfl) ?_
          refine gf_X10_0 hx hb hts iw_X10_sheet_X10 hown hK hP (hts (.fieldLink RX10 7 "TraceTreesModel" "forms" "[I") (List.mem_of_getElem? (i := 7) rfl)) dX10_sheet_39 ?_
          refine lv_iload_n hx hb dX10_sheet_42 rfl (lv_at hl 1 rfl) ?_
          refine lv_iload_n hx hb dX10_sheet_43 rfl (lv_at hl 2 rfl) ?_
          obtain ⟨hi7, h⟩ := bd_inv h
          refine wast hx hb hK hP hD hS aR1 hi7 dX10_sheet_44 (fun H locs hP hD hS => ?_)
          refine lv_aload_n hx hb dX10_sheet_45 rfl (lv_at hl 0 rfl) ?_
          refine gf_X10_1 hx hb hts iw_X10_sheet_X10 hown hK hP (hts (.fieldLink RX10 13 "TraceTreesModel" "sizes" "[I") (List.mem_of_getElem? (i := 8) rfl)) dX10_sheet_46 ?_
          refine lv_iload_n hx hb dX10_sheet_49 rfl (lv_at hl 1 rfl) ?_
          refine lv_iload_n hx hb dX10_sheet_50 rfl (lv_at hl 3 rfl) ?_
          refine wast hx hb hK hP hD hS aR2 hi7 dX10_sheet_51 (fun H locs hP hD hS => ?_)
          refine lv_iconst (v := 0) hx hb dX10_sheet_52 (by decide) ?_
          refine lv_istore (lv' := [(4, .int (0 : Int32)), (0, .ref (ad 0)), (1, .int a1), (2, .int a2), (3, .int a3)]) hx hb dX10_sheet_53 hl (by decide) rfl (fun ls hl => ?_)
          obtain ⟨y55, hlp55, h⟩ := obd_inv h
          refine lp_W (fun x55 : Int32 × Sg => ∀ (H : Heap) (locs : List Loc) (ls : Array Slot), va_P (dC, dI) vwCl (Wd 24 (cfR ad cI) x55.2) H → va_D A (Wd 24 (cfR ad cI) x55.2) → va_S A s.heap H locs → lv_has ls 5 [(4, .int x55.1), (0, .ref (ad 0)), (1, .int a1), (3, .int a3)] → W p l e (headSpec vc_X10_sheet { frames := 2, cells := 0, slots := 0, locals := 45 }).room s m (List.toArray (α := Value) [.ref (ad 0), .int a1, .int a2, .int a3]) below meth c H locs 0 0 (MQ below (va_Qi (fun (r : Int32) (_ : Unit) => r = o.1) (gB (dC, dI) A (fun (_ : Unit) => (Wd 24 (cfR ad cI) o.2))) A) (List.toArray (α := Value) [.ref (ad 0), .int a1, .int a2, .int a3]) s 0 0 A) (F0 m 55 ls [])) (fun y55 : Int32 × Sg => ∀ (H : Heap) (locs : List Loc) (ls : Array Slot), va_P (dC, dI) vwCl (Wd 24 (cfR ad cI) y55.2) H → va_D A (Wd 24 (cfR ad cI) y55.2) → va_S A s.heap H locs → lv_has ls 5 [(3, .int a3)] → W p l e (headSpec vc_X10_sheet { frames := 2, cells := 0, slots := 0, locals := 45 }).room s m (List.toArray (α := Value) [.ref (ad 0), .int a1, .int a2, .int a3]) below meth c H locs 0 0 (MQ below (va_Qi (fun (r : Int32) (_ : Unit) => r = o.1) (gB (dC, dI) A (fun (_ : Unit) => (Wd 24 (cfR ad cI) o.2))) A) (List.toArray (α := Value) [.ref (ad 0), .int a1, .int a2, .int a3]) s 0 0 A) (F0 m 80 ls [])) ?_ 1000 ((0 : Int32), su (su σ 1 a1.toNatClampNeg a2) 2 a1.toNatClampNeg a3) y55 hlp55 ?_ H locs ls hP hD hS (lv_sub (l' := [(4, .int (0 : Int32)), (0, .ref (ad 0)), (1, .int a1), (3, .int a3)]) hl [0, 1, 2, 4] rfl)
          · intro x55 yy55 h ht55 hf55 H locs ls hP hD hS hl
            unfold zl_X10_sheet_55 at h
            refine lv_iload hx hb dX10_sheet_55 (lv_at hl 0 rfl) ?_
            refine lv_iload_n hx hb dX10_sheet_57 rfl (lv_at hl 3 rfl) ?_
            refine lv_icmp_ge (tgt := 80) hx hb dX10_sheet_58 (by decide) (fun c8 => ?_) (fun c8 => ?_)
            · replace h := ifp (c8) h
              obtain rfl := Option.some.inj h
              exact hf55 rfl H locs ls hP hD hS (lv_sub (l' := [(3, .int a3)]) hl [3] rfl)
            · replace h := ifn (c8) h
              refine lv_aload_n hx hb dX10_sheet_61 rfl (lv_at hl 1 rfl) ?_
              refine gf_X10_2 hx hb hts iw_X10_sheet_X10 hown hK hP (hts (.fieldLink RX10 16 "TraceTreesModel" "items" "[I") (List.mem_of_getElem? (i := 9) rfl)) dX10_sheet_62 ?_
              refine lv_bipush (v := 60) hx hb dX10_sheet_65 (by decide) ?_
              refine lv_iload_n hx hb dX10_sheet_67 rfl (lv_at hl 2 rfl) ?_
              refine lv_imul hx hb dX10_sheet_68 ?_
              refine lv_iload hx hb dX10_sheet_69 (lv_at hl 0 rfl) ?_
              refine lv_iadd hx hb dX10_sheet_71 ?_
              refine lv_iconst (v := 0) hx hb dX10_sheet_72 (by decide) ?_
              obtain ⟨hi9, h⟩ := bd_inv h
              refine wast hx hb hK hP hD hS aR3 hi9 dX10_sheet_73 (fun H locs hP hD hS => ?_)
              refine lv_iinc (v := (x55.1 + (1 : Int32))) (lv' := [(4, .int (x55.1 + (1 : Int32))), (0, .ref (ad 0)), (1, .int a1), (3, .int a3)]) hx hb dX10_sheet_74 hl (k := 0) rfl rfl (by decide) rfl (fun ls hl => ?_)
              refine lv_goto (tgt := 55) hx hb dX10_sheet_77 (by decide) ?_
              obtain rfl := Option.some.inj h
              exact ht55 rfl H locs ls hP hD hS (lv_sub (l' := [(4, .int (x55.1 + (1 : Int32))), (0, .ref (ad 0)), (1, .int a1), (3, .int a3)]) hl [0, 1, 2, 3] rfl)
          · intro H locs ls hP hD hS hl
            refine lv_iload_n hx hb dX10_sheet_80 rfl (lv_at hl 0 rfl) ?_
            have h9 := Option.some.inj h
            exact wreti hx hb hr hlocks hP hD hS (by show _ = _; rw [← h9]; first | done | rfl) (by rw [← h9]) dX10_sheet_81
        · replace h := ifn (c6) h
          refine lv_aload_n hx hb dX10_sheet_32 rfl (lv_at hl 0 rfl) ?_
          refine lv_iconst (v := 5) hx hb dX10_sheet_33 (by decide) ?_
          obtain ⟨q10, hc10, h⟩ := letb_inv h
          refine wcalli (S := Unit) (va_runV (As := [.int (5 : Int32)]) (rest := []) ⟨hx, hb, hml, hown, hts⟩ (c_X10_finds l dC dI cI cT cS H.size ad  (5 : Int32) σ _ hc10) (cwV 1 hts (gWV (List.mem_of_getElem? (i := 10) rfl) (List.mem_of_getElem? (i := 11) rfl) (List.mem_of_getElem? (i := 12) rfl) (List.mem_of_getElem? (i := 3) rfl) ic_X10_sheet_c_X10_finds gd_c_X10_finds) rfl rfl rfl (by decide +kernel) ⟨(Nat.le_of_ble_eq_true rfl), (Nat.le_of_ble_eq_true rfl)⟩) (wpV (q := (RX10, TX10, 46)) hP hK hD oX10 rfl) rfl rfl hl.1 rfl (lv_room (Nat.le_of_ble_eq_true rfl)) dX10_sheet_34 ⟨(Nat.le_of_ble_eq_true rfl), (Nat.le_of_ble_eq_true rfl)⟩) hP hD hS hA (fun rr11 _ H locs hr11 hP hD hS => ?_)
          replace hP : va_P (dC, dI) vwCl (Wd 24 (cfR ad cI) q10.2) H := hP
          replace hD : va_D A (Wd 24 (cfR ad cI) q10.2) := hD
          refine lv_nm (y := q10.1) hr11 ?_
          have h9 := Option.some.inj h
          exact wreti hx hb hr hlocks hP hD hS (by show _ = _; rw [← h9]; first | done | rfl) (by rw [← h9]) dX10_sheet_37
      · replace h := ifn (c5) h
        exact J25  H locs ls h hP hD hS (lv_sub (l' := []) hl [] rfl)
def zf_X10_lose (a1 : Int32) (σ : Sg) : Option (Int32 × Sg) := (if (zf_X10_isSheet a1) = true then bd a1 4 ((if 0 ≤ (σ 1 a1.toNatClampNeg) then some ((σ 2 a1.toNatClampNeg), su σ 1 a1.toNatClampNeg (-1 : Int32)) else letb (zf_X10_finds (1 : Int32) σ) (fun q5 => some (q5.1, q5.2)))) else some ((-2 : Int32), σ))
def oc_X10_lose : List Cond := [.methodLink RX10 95 yX10_isSheet, .static yX10_isSheet, .initialized RX10, .fieldLink RX10 7 "TraceTreesModel" "forms" "[I", .fieldLink RX10 13 "TraceTreesModel" "sizes" "[I", .methodLink RX10 101 yX10_finds, .instanceMethod yX10_finds, .selects RX10 yX10_finds yX10_finds]
def vc_X10_lose : List Cond := .code yX10_lose cX10_lose 2 (some .int) :: (oc_X10_lose ++ (wsX100 ++ (vc_X10_isSheet ++ (vc_X10_finds))))
theorem iw_X10_lose_X10 : ∀ w ∈ wsX100, w ∈ vc_X10_lose := fun _ h => List.mem_cons_of_mem _ (List.mem_append_right _ (List.mem_append_left _ h))
theorem ic_X10_lose_c_X10_isSheet : ∀ w ∈ vc_X10_isSheet, w ∈ vc_X10_lose := fun _ h => List.mem_cons_of_mem _ (List.mem_append_right _ (List.mem_append_right _ (List.mem_append_left _ h)))
theorem ic_X10_lose_c_X10_finds : ∀ w ∈ vc_X10_finds, w ∈ vc_X10_lose := fun _ h => List.mem_cons_of_mem _ (List.mem_append_right _ (List.mem_append_right _ (List.mem_append_right _ (h))))
theorem gd_c_X10_lose : (vc_X10_lose).all goodWord = true := gall_cons rfl (gall_app (by decide +kernel) (gall_app gw_X10 (gall_app gd_c_X10_isSheet gd_c_X10_finds)))
set_option maxHeartbeats 4000000 in
set_option maxRecDepth 100000 in
theorem c_X10_lose (l : Launch) (dC : Nat → ClassId) (dI : Nat → Nat → Nat) (cI cT cS : ClassId) (sz : Nat) (ad : Nat → Nat) (a1 : Int32) (σ : Sg) (o : Int32 × Sg) (h : zf_X10_lose a1 σ = some o) : gCI (S := Unit) l yX10_lose vc_X10_lose { frames := 2, cells := 0, slots := 0, locals := 45 } (dC, dI) (gTY cI cT cS) sz [.ref (ad 0), .int a1] (Wd 24 (cfR ad cI) σ) (fun (r : Int32) (_ : Unit) => r = o.1) (fun (_ : Unit) => (Wd 24 (cfR ad cI) o.2)) 0 0 := by
  refine Met.ofW (cc := cX10_lose) (maxL := 2) (ret := (some .int)) (by decide) rfl ?_
  intro p e s m args below meth c s₁ B hml hv
  obtain ⟨rfl, hsz, hP, hK, hD0⟩ := hv
  have hx := B.exec
  have hb := B.bytes
  have hr := B.returns
  have hts := atoms_spec (ws := vc_X10_lose) B.pre
  have hown : s.vm.findClass RX10 = some m.cls := findClass_of_methodNamed B.named
  have hlocks := B.notSynchronized
  subst hsz
  have hD := hD0.self (sz := s.heap.size)
  generalize hAe : va_A (Wd 24 (cfR ad cI) σ) s.heap.size = A at hD ⊢
  have hA : ∀ q : Nat, s.heap.size ≤ q → A q := fun q h => by rw [← hAe]; exact Or.inr h
  clear hAe hD0
  refine gstart (fun H locs hHe hLe => ?_)
  have hS : va_S A s.heap H locs := by rw [← hHe, ← hLe]; exact va_S.rf
  replace hP : va_P (dC, dI) vwCl (Wd 24 (cfR ad cI) σ) H := by rw [← hHe]; exact hP
  clear hHe hLe
  have hl := lv_entry ([.ref (ad 0), .int a1]) (n := 2) (Nat.le_of_ble_eq_true rfl)
  rw [lg_entry_eq]
  generalize (lg_sl ([.ref (ad 0), .int a1]) ++ List.replicate (2 - (lg_sl ([.ref (ad 0), .int a1])).length) Slot.unset).toArray = ls at hl ⊢
  replace hl : lv_has ls 2 [(0, .ref (ad 0)), (1, .int a1)] := hl
  unfold zf_X10_lose at h
  refine lv_iload_n hx hb dX10_lose_0 rfl (lv_at hl 1 rfl) ?_
  refine wcalli (S := Unit) (va_runS (As := [.int a1]) (rest := []) ⟨hx, hb, hml, hown, hts⟩ (c_X10_isSheet l dC dI cI cT cS H.size (Wd 24 (cfR ad cI) σ)  a1 _ rfl) (va_cwS 1 hts (gWS (List.mem_of_getElem? (i := 1) rfl) (List.mem_of_getElem? (i := 2) rfl) (List.mem_of_getElem? (i := 3) rfl) ic_X10_lose_c_X10_isSheet gd_c_X10_isSheet) rfl rfl rfl (by decide +kernel) ⟨(Nat.le_of_ble_eq_true rfl), (Nat.le_of_ble_eq_true rfl)⟩) (gpS hP hK hD) rfl rfl hl.1 rfl (lv_room (Nat.le_of_ble_eq_true rfl)) dX10_lose_1 ⟨(Nat.le_of_ble_eq_true rfl), (Nat.le_of_ble_eq_true rfl)⟩) hP hD hS hA (fun rr1 _ H locs hr1 hP hD hS => ?_)
  refine lv_nm (y := b2i (zf_X10_isSheet a1)) hr1 ?_
  refine lv_if_ne (tgt := 10) hx hb dX10_lose_4 (by decide) (fun c2 => ?_) (fun c2 => ?_)
  · replace h := ifp (b2i_1 c2) h
    refine lv_aload_n hx hb dX10_lose_10 rfl (lv_at hl 0 rfl) ?_
    refine gf_X10_0 hx hb hts iw_X10_lose_X10 hown hK hP (hts (.fieldLink RX10 7 "TraceTreesModel" "forms" "[I") (List.mem_of_getElem? (i := 4) rfl)) dX10_lose_11 ?_
    refine lv_iload_n hx hb dX10_lose_14 rfl (lv_at hl 1 rfl) ?_
    obtain ⟨hi3, h⟩ := bd_inv h
    refine wald hx hb hK hP aR1 hi3 dX10_lose_15 ?_
    refine lv_if_ge (tgt := 25) hx hb dX10_lose_16 (by decide) (fun c4 => ?_) (fun c4 => ?_)
    · replace h := ifp (c4) h
      refine lv_aload_n hx hb dX10_lose_25 rfl (lv_at hl 0 rfl) ?_
      refine gf_X10_0 hx hb hts iw_X10_lose_X10 hown hK hP (hts (.fieldLink RX10 7 "TraceTreesModel" "forms" "[I") (List.mem_of_getElem? (i := 4) rfl)) dX10_lose_26 ?_
      refine lv_iload_n hx hb dX10_lose_29 rfl (lv_at hl 1 rfl) ?_
      refine lv_iconst (v := (-1)) hx hb dX10_lose_30 (by decide) ?_
      refine wast hx hb hK hP hD hS aR1 hi3 dX10_lose_31 (fun H locs hP hD hS => ?_)
      refine lv_aload_n hx hb dX10_lose_32 rfl (lv_at hl 0 rfl) ?_
      refine gf_X10_1 hx hb hts iw_X10_lose_X10 hown hK hP (hts (.fieldLink RX10 13 "TraceTreesModel" "sizes" "[I") (List.mem_of_getElem? (i := 5) rfl)) dX10_lose_33 ?_
      refine lv_iload_n hx hb dX10_lose_36 rfl (lv_at hl 1 rfl) ?_
      refine wald hx hb hK hP aR2 hi3 dX10_lose_37 ?_
      refine lv_nm (y := (σ 2 a1.toNatClampNeg)) (su_rd (by decide) rfl) ?_
      have h9 := Option.some.inj h
      exact wreti hx hb hr hlocks hP hD hS (by show _ = _; rw [← h9]; first | done | rfl) (by rw [← h9]) dX10_lose_38
    · replace h := ifn (c4) h
      refine lv_aload_n hx hb dX10_lose_19 rfl (lv_at hl 0 rfl) ?_
      refine lv_iconst (v := 1) hx hb dX10_lose_20 (by decide) ?_
      obtain ⟨q5, hc5, h⟩ := letb_inv h
      refine wcalli (S := Unit) (va_runV (As := [.int (1 : Int32)]) (rest := []) ⟨hx, hb, hml, hown, hts⟩ (c_X10_finds l dC dI cI cT cS H.size ad  (1 : Int32) σ _ hc5) (cwV 1 hts (gWV (List.mem_of_getElem? (i := 6) rfl) (List.mem_of_getElem? (i := 7) rfl) (List.mem_of_getElem? (i := 8) rfl) (List.mem_of_getElem? (i := 3) rfl) ic_X10_lose_c_X10_finds gd_c_X10_finds) rfl rfl rfl (by decide +kernel) ⟨(Nat.le_of_ble_eq_true rfl), (Nat.le_of_ble_eq_true rfl)⟩) (wpV (q := (RX10, TX10, 46)) hP hK hD oX10 rfl) rfl rfl hl.1 rfl (lv_room (Nat.le_of_ble_eq_true rfl)) dX10_lose_21 ⟨(Nat.le_of_ble_eq_true rfl), (Nat.le_of_ble_eq_true rfl)⟩) hP hD hS hA (fun rr6 _ H locs hr6 hP hD hS => ?_)
      replace hP : va_P (dC, dI) vwCl (Wd 24 (cfR ad cI) q5.2) H := hP
      replace hD : va_D A (Wd 24 (cfR ad cI) q5.2) := hD
      refine lv_nm (y := q5.1) hr6 ?_
      have h9 := Option.some.inj h
      exact wreti hx hb hr hlocks hP hD hS (by show _ = _; rw [← h9]; first | done | rfl) (by rw [← h9]) dX10_lose_24
  · replace h := ifn (b2i_0 c2) h
    refine lv_bipush (v := (-2)) hx hb dX10_lose_7 (by decide) ?_
    have h9 := Option.some.inj h
    exact wreti hx hb hr hlocks hP hD hS (by show _ = _; rw [← h9]; first | done | rfl) (by rw [← h9]) dX10_lose_9
def zb_X10_lacks_58 (w0_58 : Int32) (σb58 : Sg) : Option (Int32 × Sg) := some (w0_58, σb58)
def zf_X10_lacks (a1 : Int32) (a2 : Int32) (a3 : Int32) (σ : Sg) : Option (Int32 × Sg) := bd a1 4 ((if 0 ≤ (σ 1 a1.toNatClampNeg) then (if (σ 1 a1.toNatClampNeg) = a2 then (if (zf_X10_in (a3.toInt64) (0 : Int64) (((σ 2 a1.toNatClampNeg) - (1 : Int32)).toInt64)) = true then (zb_X10_lacks_58 (0 : Int32) σ) else letb (zf_X10_finds (2 : Int32) σ) (fun q6 => (zb_X10_lacks_58 q6.1 q6.2))) else letb (zf_X10_finds (3 : Int32) σ) (fun q8 => some (q8.1, q8.2))) else letb (zf_X10_finds (1 : Int32) σ) (fun q10 => some (q10.1, q10.2))))
def oc_X10_lacks : List Cond := [.fieldLink RX10 7 "TraceTreesModel" "forms" "[I", .fieldLink RX10 13 "TraceTreesModel" "sizes" "[I", .methodLink RX10 86 yX10_in, .static yX10_in, .initialized RX10, .methodLink RX10 101 yX10_finds, .instanceMethod yX10_finds, .selects RX10 yX10_finds yX10_finds]
def vc_X10_lacks : List Cond := .code yX10_lacks cX10_lacks 4 (some .int) :: (oc_X10_lacks ++ (wsX100 ++ (vc_X10_in ++ (vc_X10_finds))))
theorem iw_X10_lacks_X10 : ∀ w ∈ wsX100, w ∈ vc_X10_lacks := fun _ h => List.mem_cons_of_mem _ (List.mem_append_right _ (List.mem_append_left _ h))
theorem ic_X10_lacks_c_X10_in : ∀ w ∈ vc_X10_in, w ∈ vc_X10_lacks := fun _ h => List.mem_cons_of_mem _ (List.mem_append_right _ (List.mem_append_right _ (List.mem_append_left _ h)))
theorem ic_X10_lacks_c_X10_finds : ∀ w ∈ vc_X10_finds, w ∈ vc_X10_lacks := fun _ h => List.mem_cons_of_mem _ (List.mem_append_right _ (List.mem_append_right _ (List.mem_append_right _ (h))))
theorem gd_c_X10_lacks : (vc_X10_lacks).all goodWord = true := gall_cons rfl (gall_app (by decide +kernel) (gall_app gw_X10 (gall_app gd_c_X10_in gd_c_X10_finds)))
set_option maxHeartbeats 4000000 in
set_option maxRecDepth 100000 in
theorem c_X10_lacks (l : Launch) (dC : Nat → ClassId) (dI : Nat → Nat → Nat) (cI cT cS : ClassId) (sz : Nat) (ad : Nat → Nat) (a1 : Int32) (a2 : Int32) (a3 : Int32) (σ : Sg) (o : Int32 × Sg) (h : zf_X10_lacks a1 a2 a3 σ = some o) : gCI (S := Unit) l yX10_lacks vc_X10_lacks { frames := 1, cells := 0, slots := 0, locals := 25 } (dC, dI) (gTY cI cT cS) sz [.ref (ad 0), .int a1, .int a2, .int a3] (Wd 24 (cfR ad cI) σ) (fun (r : Int32) (_ : Unit) => r = o.1) (fun (_ : Unit) => (Wd 24 (cfR ad cI) o.2)) 0 0 := by
  refine Met.ofW (cc := cX10_lacks) (maxL := 4) (ret := (some .int)) (by decide) rfl ?_
  intro p e s m args below meth c s₁ B hml hv
  obtain ⟨rfl, hsz, hP, hK, hD0⟩ := hv
  have hx := B.exec
  have hb := B.bytes
  have hr := B.returns
  have hts := atoms_spec (ws := vc_X10_lacks) B.pre
  have hown : s.vm.findClass RX10 = some m.cls := findClass_of_methodNamed B.named
  have hlocks := B.notSynchronized
  subst hsz
  have hD := hD0.self (sz := s.heap.size)
  generalize hAe : va_A (Wd 24 (cfR ad cI) σ) s.heap.size = A at hD ⊢
  have hA : ∀ q : Nat, s.heap.size ≤ q → A q := fun q h => by rw [← hAe]; exact Or.inr h
  clear hAe hD0
  refine gstart (fun H locs hHe hLe => ?_)
  have hS : va_S A s.heap H locs := by rw [← hHe, ← hLe]; exact va_S.rf
  replace hP : va_P (dC, dI) vwCl (Wd 24 (cfR ad cI) σ) H := by rw [← hHe]; exact hP
  clear hHe hLe
  have hl := lv_entry ([.ref (ad 0), .int a1, .int a2, .int a3]) (n := 4) (Nat.le_of_ble_eq_true rfl)
  rw [lg_entry_eq]
  generalize (lg_sl ([.ref (ad 0), .int a1, .int a2, .int a3]) ++ List.replicate (4 - (lg_sl ([.ref (ad 0), .int a1, .int a2, .int a3])).length) Slot.unset).toArray = ls at hl ⊢
  replace hl : lv_has ls 4 [(0, .ref (ad 0)), (1, .int a1), (2, .int a2), (3, .int a3)] := hl
  unfold zf_X10_lacks at h
  have J58 : ∀ (w0_58 : Int32) (σb58 : Sg) (H : Heap) (locs : List Loc) (ls : Array Slot), zb_X10_lacks_58 w0_58 σb58 = some o → va_P (dC, dI) vwCl (Wd 24 (cfR ad cI) σb58) H → va_D A (Wd 24 (cfR ad cI) σb58) → va_S A s.heap H locs → lv_has ls 4 [] → W p l e (headSpec vc_X10_lacks { frames := 1, cells := 0, slots := 0, locals := 25 }).room s m (List.toArray (α := Value) [.ref (ad 0), .int a1, .int a2, .int a3]) below meth c H locs 0 0 (MQ below (va_Qi (fun (r : Int32) (_ : Unit) => r = o.1) (gB (dC, dI) A (fun (_ : Unit) => (Wd 24 (cfR ad cI) o.2))) A) (List.toArray (α := Value) [.ref (ad 0), .int a1, .int a2, .int a3]) s 0 0 A) (F0 m 58 ls [.int w0_58]) := by
    intro w0_58 σb58 H locs ls h hP hD hS hl
    unfold zb_X10_lacks_58 at h
    have h9 := Option.some.inj h
    exact wreti hx hb hr hlocks hP hD hS (by show _ = _; rw [← h9]; first | done | rfl) (by rw [← h9]) dX10_lacks_58
  refine lv_aload_n hx hb dX10_lacks_0 rfl (lv_at hl 0 rfl) ?_
  refine gf_X10_0 hx hb hts iw_X10_lacks_X10 hown hK hP (hts (.fieldLink RX10 7 "TraceTreesModel" "forms" "[I") (List.mem_of_getElem? (i := 1) rfl)) dX10_lacks_1 ?_
  refine lv_iload_n hx hb dX10_lacks_4 rfl (lv_at hl 1 rfl) ?_
  obtain ⟨hi1, h⟩ := bd_inv h
  refine wald hx hb hK hP aR1 hi1 dX10_lacks_5 ?_
  refine lv_if_ge (tgt := 15) hx hb dX10_lacks_6 (by decide) (fun c2 => ?_) (fun c2 => ?_)
  · replace h := ifp (c2) h
    refine lv_aload_n hx hb dX10_lacks_15 rfl (lv_at hl 0 rfl) ?_
    refine gf_X10_0 hx hb hts iw_X10_lacks_X10 hown hK hP (hts (.fieldLink RX10 7 "TraceTreesModel" "forms" "[I") (List.mem_of_getElem? (i := 1) rfl)) dX10_lacks_16 ?_
    refine lv_iload_n hx hb dX10_lacks_19 rfl (lv_at hl 1 rfl) ?_
    refine wald hx hb hK hP aR1 hi1 dX10_lacks_20 ?_
    refine lv_iload_n hx hb dX10_lacks_21 rfl (lv_at hl 2 rfl) ?_
    refine lv_icmp_eq (tgt := 31) hx hb dX10_lacks_22 (by decide) (fun c3 => ?_) (fun c3 => ?_)
    · replace h := ifp (c3) h
      refine lv_iload_n hx hb dX10_lacks_31 rfl (lv_at hl 3 rfl) ?_
      refine lv_i2l hx hb dX10_lacks_32 rfl ?_
      refine lv_lconst (v := 0) hx hb dX10_lacks_33 (by decide) ?_
      refine lv_aload_n hx hb dX10_lacks_34 rfl (lv_at hl 0 rfl) ?_
      refine gf_X10_1 hx hb hts iw_X10_lacks_X10 hown hK hP (hts (.fieldLink RX10 13 "TraceTreesModel" "sizes" "[I") (List.mem_of_getElem? (i := 2) rfl)) dX10_lacks_35 ?_
      refine lv_iload_n hx hb dX10_lacks_38 rfl (lv_at hl 1 rfl) ?_
      refine wald hx hb hK hP aR2 hi1 dX10_lacks_39 ?_
      refine lv_iconst (v := 1) hx hb dX10_lacks_40 (by decide) ?_
      refine lv_isub hx hb dX10_lacks_41 ?_
      refine lv_i2l hx hb dX10_lacks_42 rfl ?_
      refine wcalli (S := Unit) (va_runS (As := [.long (a3.toInt64), .long (0 : Int64), .long (((σ 2 a1.toNatClampNeg) - (1 : Int32)).toInt64)]) (rest := []) ⟨hx, hb, hml, hown, hts⟩ (c_X10_in l dC dI cI cT cS H.size (Wd 24 (cfR ad cI) σ)  (a3.toInt64) (0 : Int64) (((σ 2 a1.toNatClampNeg) - (1 : Int32)).toInt64) _ rfl) (va_cwS 3 hts (gWS (List.mem_of_getElem? (i := 3) rfl) (List.mem_of_getElem? (i := 4) rfl) (List.mem_of_getElem? (i := 5) rfl) ic_X10_lacks_c_X10_in gd_c_X10_in) rfl rfl rfl (by decide +kernel) ⟨(Nat.le_of_ble_eq_true rfl), (Nat.le_of_ble_eq_true rfl)⟩) (gpS hP hK hD) rfl rfl hl.1 rfl (lv_room (Nat.le_of_ble_eq_true rfl)) dX10_lacks_43 ⟨(Nat.le_of_ble_eq_true rfl), (Nat.le_of_ble_eq_true rfl)⟩) hP hD hS hA (fun rr4 _ H locs hr4 hP hD hS => ?_)
      refine lv_nm (y := b2i (zf_X10_in (a3.toInt64) (0 : Int64) (((σ 2 a1.toNatClampNeg) - (1 : Int32)).toInt64))) hr4 ?_
      refine lv_if_eq (tgt := 53) hx hb dX10_lacks_46 (by decide) (fun c5 => ?_) (fun c5 => ?_)
      · replace h := ifn (b2i_0 c5) h
        refine lv_aload_n hx hb dX10_lacks_53 rfl (lv_at hl 0 rfl) ?_
        refine lv_iconst (v := 2) hx hb dX10_lacks_54 (by decide) ?_
        obtain ⟨q6, hc6, h⟩ := letb_inv h
        refine wcalli (S := Unit) (va_runV (As := [.int (2 : Int32)]) (rest := []) ⟨hx, hb, hml, hown, hts⟩ (c_X10_finds l dC dI cI cT cS H.size ad  (2 : Int32) σ _ hc6) (cwV 1 hts (gWV (List.mem_of_getElem? (i := 6) rfl) (List.mem_of_getElem? (i := 7) rfl) (List.mem_of_getElem? (i := 8) rfl) (List.mem_of_getElem? (i := 5) rfl) ic_X10_lacks_c_X10_finds gd_c_X10_finds) rfl rfl rfl (by decide +kernel) ⟨(Nat.le_of_ble_eq_true rfl), (Nat.le_of_ble_eq_true rfl)⟩) (wpV (q := (RX10, TX10, 46)) hP hK hD oX10 rfl) rfl rfl hl.1 rfl (lv_room (Nat.le_of_ble_eq_true rfl)) dX10_lacks_55 ⟨(Nat.le_of_ble_eq_true rfl), (Nat.le_of_ble_eq_true rfl)⟩) hP hD hS hA (fun rr7 _ H locs hr7 hP hD hS => ?_)
        replace hP : va_P (dC, dI) vwCl (Wd 24 (cfR ad cI) q6.2) H := hP
        replace hD : va_D A (Wd 24 (cfR ad cI) q6.2) := hD
        refine lv_nm (y := q6.1) hr7 ?_
        exact J58 q6.1 q6.2 H locs ls h hP hD hS (lv_sub (l' := []) hl [] rfl)
      · replace h := ifp (b2i_1 c5) h
        refine lv_iconst (v := 0) hx hb dX10_lacks_49 (by decide) ?_
        refine lv_goto (tgt := 58) hx hb dX10_lacks_50 (by decide) ?_
        exact J58 (0 : Int32) σ H locs ls h hP hD hS (lv_sub (l' := []) hl [] rfl)
    · replace h := ifn (c3) h
      refine lv_aload_n hx hb dX10_lacks_25 rfl (lv_at hl 0 rfl) ?_
      refine lv_iconst (v := 3) hx hb dX10_lacks_26 (by decide) ?_
      obtain ⟨q8, hc8, h⟩ := letb_inv h
      refine wcalli (S := Unit) (va_runV (As := [.int (3 : Int32)]) (rest := []) ⟨hx, hb, hml, hown, hts⟩ (c_X10_finds l dC dI cI cT cS H.size ad  (3 : Int32) σ _ hc8) (cwV 1 hts (gWV (List.mem_of_getElem? (i := 6) rfl) (List.mem_of_getElem? (i := 7) rfl) (List.mem_of_getElem? (i := 8) rfl) (List.mem_of_getElem? (i := 5) rfl) ic_X10_lacks_c_X10_finds gd_c_X10_finds) rfl rfl rfl (by decide +kernel) ⟨(Nat.le_of_ble_eq_true rfl), (Nat.le_of_ble_eq_true rfl)⟩) (wpV (q := (RX10, TX10, 46)) hP hK hD oX10 rfl) rfl rfl hl.1 rfl (lv_room (Nat.le_of_ble_eq_true rfl)) dX10_lacks_27 ⟨(Nat.le_of_ble_eq_true rfl), (Nat.le_of_ble_eq_true rfl)⟩) hP hD hS hA (fun rr9 _ H locs hr9 hP hD hS => ?_)
      replace hP : va_P (dC, dI) vwCl (Wd 24 (cfR ad cI) q8.2) H := hP
      replace hD : va_D A (Wd 24 (cfR ad cI) q8.2) := hD
      refine lv_nm (y := q8.1) hr9 ?_
      have h9 := Option.some.inj h
      exact wreti hx hb hr hlocks hP hD hS (by show _ = _; rw [← h9]; first | done | rfl) (by rw [← h9]) dX10_lacks_30
  · replace h := ifn (c2) h
    refine lv_aload_n hx hb dX10_lacks_9 rfl (lv_at hl 0 rfl) ?_
    refine lv_iconst (v := 1) hx hb dX10_lacks_10 (by decide) ?_
    obtain ⟨q10, hc10, h⟩ := letb_inv h
    refine wcalli (S := Unit) (va_runV (As := [.int (1 : Int32)]) (rest := []) ⟨hx, hb, hml, hown, hts⟩ (c_X10_finds l dC dI cI cT cS H.size ad  (1 : Int32) σ _ hc10) (cwV 1 hts (gWV (List.mem_of_getElem? (i := 6) rfl) (List.mem_of_getElem? (i := 7) rfl) (List.mem_of_getElem? (i := 8) rfl) (List.mem_of_getElem? (i := 5) rfl) ic_X10_lacks_c_X10_finds gd_c_X10_finds) rfl rfl rfl (by decide +kernel) ⟨(Nat.le_of_ble_eq_true rfl), (Nat.le_of_ble_eq_true rfl)⟩) (wpV (q := (RX10, TX10, 46)) hP hK hD oX10 rfl) rfl rfl hl.1 rfl (lv_room (Nat.le_of_ble_eq_true rfl)) dX10_lacks_11 ⟨(Nat.le_of_ble_eq_true rfl), (Nat.le_of_ble_eq_true rfl)⟩) hP hD hS hA (fun rr11 _ H locs hr11 hP hD hS => ?_)
    replace hP : va_P (dC, dI) vwCl (Wd 24 (cfR ad cI) q10.2) H := hP
    replace hD : va_D A (Wd 24 (cfR ad cI) q10.2) := hD
    refine lv_nm (y := q10.1) hr11 ?_
    have h9 := Option.some.inj h
    exact wreti hx hb hr hlocks hP hD hS (by show _ = _; rw [← h9]; first | done | rfl) (by rw [← h9]) dX10_lacks_14
def zb_X10_cut_20 (w0_20 : Int32) : Int32 := w0_20
def zf_X10_cut (a0 : Int32) (a1 : Int32) : Int32 := (if a0 = 0 then (zb_X10_cut_20 (a1.toInt8.toInt32)) else (if a0 = (1 : Int32) then (zb_X10_cut_20 (a1.toInt16.toInt32)) else (zb_X10_cut_20 a1)))
def oc_X10_cut : List Cond := []
def vc_X10_cut : List Cond := .code yX10_cut cX10_cut 2 (some .int) :: (oc_X10_cut)
theorem gd_c_X10_cut : (vc_X10_cut).all goodWord = true := gall_cons rfl (by decide +kernel)
set_option maxHeartbeats 4000000 in
set_option maxRecDepth 100000 in
theorem c_X10_cut (l : Launch) (dC : Nat → ClassId) (dI : Nat → Nat → Nat) (cI cT cS : ClassId) (sz : Nat) (ws : va_W) (a0 : Int32) (a1 : Int32) (o : Int32) (h : zf_X10_cut a0 a1 = o) : gCI (S := Unit) l yX10_cut vc_X10_cut { frames := 0, cells := 0, slots := 0, locals := 0 } (dC, dI) (gTY cI cT cS) sz [.int a0, .int a1] ws (fun (r : Int32) (_ : Unit) => r = o) (fun (_ : Unit) => ws) 0 0 := by
  refine Met.ofW (cc := cX10_cut) (maxL := 2) (ret := (some .int)) (by decide) rfl ?_
  intro p e s m args below meth c s₁ B hml hv
  obtain ⟨rfl, hsz, hP, hK, hD0⟩ := hv
  have hx := B.exec
  have hb := B.bytes
  have hr := B.returns
  have hts := atoms_spec (ws := vc_X10_cut) B.pre
  have hown : s.vm.findClass RX10 = some m.cls := findClass_of_methodNamed B.named
  have hlocks := B.notSynchronized
  subst hsz
  have hD := hD0.self (sz := s.heap.size)
  generalize hAe : va_A ws s.heap.size = A at hD ⊢
  have hA : ∀ q : Nat, s.heap.size ≤ q → A q := fun q h => by rw [← hAe]; exact Or.inr h
  clear hAe hD0
  refine gstart (fun H locs hHe hLe => ?_)
  have hS : va_S A s.heap H locs := by rw [← hHe, ← hLe]; exact va_S.rf
  replace hP : va_P (dC, dI) vwCl ws H := by rw [← hHe]; exact hP
  clear hHe hLe
  have hl := lv_entry ([.int a0, .int a1]) (n := 2) (Nat.le_of_ble_eq_true rfl)
  rw [lg_entry_eq]
  generalize (lg_sl ([.int a0, .int a1]) ++ List.replicate (2 - (lg_sl ([.int a0, .int a1])).length) Slot.unset).toArray = ls at hl ⊢
  replace hl : lv_has ls 2 [(0, .int a0), (1, .int a1)] := hl
  unfold zf_X10_cut at h
  have J20 : ∀ (w0_20 : Int32) (H : Heap) (locs : List Loc) (ls : Array Slot), zb_X10_cut_20 w0_20 = o → va_P (dC, dI) vwCl ws H → va_D A ws → va_S A s.heap H locs → lv_has ls 2 [] → W p l e (headSpec vc_X10_cut { frames := 0, cells := 0, slots := 0, locals := 0 }).room s m (List.toArray (α := Value) [.int a0, .int a1]) below meth c H locs 0 0 (MQ below (va_Qi (fun (r : Int32) (_ : Unit) => r = o) (gB (dC, dI) A (fun (_ : Unit) => ws)) A) (List.toArray (α := Value) [.int a0, .int a1]) s 0 0 A) (F0 m 20 ls [.int w0_20]) := by
    intro w0_20 H locs ls h hP hD hS hl
    unfold zb_X10_cut_20 at h
    have h9 := h
    exact wreti hx hb hr hlocks hP hD hS (by show _ = _; rw [← h9]; first | done | rfl) rfl dX10_cut_20
  refine lv_iload_n hx hb dX10_cut_0 rfl (lv_at hl 0 rfl) ?_
  refine lv_if_ne (tgt := 9) hx hb dX10_cut_1 (by decide) (fun c1 => ?_) (fun c1 => ?_)
  · replace h := ifn (c1) h
    refine lv_iload_n hx hb dX10_cut_9 rfl (lv_at hl 0 rfl) ?_
    refine lv_iconst (v := 1) hx hb dX10_cut_10 (by decide) ?_
    refine lv_icmp_ne (tgt := 19) hx hb dX10_cut_11 (by decide) (fun c2 => ?_) (fun c2 => ?_)
    · replace h := ifn (c2) h
      refine lv_iload_n hx hb dX10_cut_19 rfl (lv_at hl 1 rfl) ?_
      exact J20 a1 H locs ls h hP hD hS (lv_sub (l' := []) hl [] rfl)
    · replace h := ifp (c2) h
      refine lv_iload_n hx hb dX10_cut_14 rfl (lv_at hl 1 rfl) ?_
      refine lv_i2s hx hb dX10_cut_15 rfl ?_
      refine lv_goto (tgt := 20) hx hb dX10_cut_16 (by decide) ?_
      exact J20 (a1.toInt16.toInt32) H locs ls h hP hD hS (lv_sub (l' := []) hl [] rfl)
  · replace h := ifp (c1) h
    refine lv_iload_n hx hb dX10_cut_4 rfl (lv_at hl 1 rfl) ?_
    refine lv_i2b hx hb dX10_cut_5 rfl ?_
    refine lv_goto (tgt := 20) hx hb dX10_cut_6 (by decide) ?_
    exact J20 (a1.toInt8.toInt32) H locs ls h hP hD hS (lv_sub (l' := []) hl [] rfl)
def zb_X10_lay_19 (σ : Sg) : Option (Int32 × Sg) := some ((-2 : Int32), σ)
def zf_X10_lay (a1 : Int32) (a2 : Int32) (a3 : Int32) (a4 : Int32) (σ : Sg) : Option (Int32 × Sg) := (if (zf_X10_isSheet a1) = true then (if (zf_X10_in (a2.toInt64) (0 : Int64) (2 : Int64)) = true then bnd (zf_X10_lacks a1 a2 a3 σ) (fun r5 σ5 => (if r5 = 0 then bd (((60 : Int32) * a1) + a3) 240 (some ((1 : Int32), su σ5 3 (((60 : Int32) * a1) + a3).toNatClampNeg (zf_X10_cut a2 a4))) else some (r5, σ5))) else (zb_X10_lay_19 σ)) else (zb_X10_lay_19 σ))
def oc_X10_lay : List Cond := [.methodLink RX10 95 yX10_isSheet, .static yX10_isSheet, .initialized RX10, .constantLong RX10 99 (2), .methodLink RX10 86 yX10_in, .static yX10_in, .methodLink RX10 105 yX10_lacks, .instanceMethod yX10_lacks, .selects RX10 yX10_lacks yX10_lacks, .fieldLink RX10 16 "TraceTreesModel" "items" "[I", .methodLink RX10 109 yX10_cut, .static yX10_cut]
def vc_X10_lay : List Cond := .code yX10_lay cX10_lay 6 (some .int) :: (oc_X10_lay ++ (wsX100 ++ (vc_X10_isSheet ++ (vc_X10_in ++ (vc_X10_lacks ++ (vc_X10_cut))))))
theorem iw_X10_lay_X10 : ∀ w ∈ wsX100, w ∈ vc_X10_lay := fun _ h => List.mem_cons_of_mem _ (List.mem_append_right _ (List.mem_append_left _ h))
theorem ic_X10_lay_c_X10_isSheet : ∀ w ∈ vc_X10_isSheet, w ∈ vc_X10_lay := fun _ h => List.mem_cons_of_mem _ (List.mem_append_right _ (List.mem_append_right _ (List.mem_append_left _ h)))
theorem ic_X10_lay_c_X10_in : ∀ w ∈ vc_X10_in, w ∈ vc_X10_lay := fun _ h => List.mem_cons_of_mem _ (List.mem_append_right _ (List.mem_append_right _ (List.mem_append_right _ (List.mem_append_left _ h))))
theorem ic_X10_lay_c_X10_lacks : ∀ w ∈ vc_X10_lacks, w ∈ vc_X10_lay := fun _ h => List.mem_cons_of_mem _ (List.mem_append_right _ (List.mem_append_right _ (List.mem_append_right _ (List.mem_append_right _ (List.mem_append_left _ h)))))
theorem ic_X10_lay_c_X10_cut : ∀ w ∈ vc_X10_cut, w ∈ vc_X10_lay := fun _ h => List.mem_cons_of_mem _ (List.mem_append_right _ (List.mem_append_right _ (List.mem_append_right _ (List.mem_append_right _ (List.mem_append_right _ (h))))))
theorem gd_c_X10_lay : (vc_X10_lay).all goodWord = true := gall_cons rfl (gall_app (by decide +kernel) (gall_app gw_X10 (gall_app gd_c_X10_isSheet (gall_app gd_c_X10_in (gall_app gd_c_X10_lacks gd_c_X10_cut)))))
set_option maxHeartbeats 4000000 in
set_option maxRecDepth 100000 in
theorem c_X10_lay (l : Launch) (dC : Nat → ClassId) (dI : Nat → Nat → Nat) (cI cT cS : ClassId) (sz : Nat) (ad : Nat → Nat) (a1 : Int32) (a2 : Int32) (a3 : Int32) (a4 : Int32) (σ : Sg) (o : Int32 × Sg) (h : zf_X10_lay a1 a2 a3 a4 σ = some o) : gCI (S := Unit) l yX10_lay vc_X10_lay { frames := 2, cells := 0, slots := 0, locals := 48 } (dC, dI) (gTY cI cT cS) sz [.ref (ad 0), .int a1, .int a2, .int a3, .int a4] (Wd 24 (cfR ad cI) σ) (fun (r : Int32) (_ : Unit) => r = o.1) (fun (_ : Unit) => (Wd 24 (cfR ad cI) o.2)) 0 0 := by
  refine Met.ofW (cc := cX10_lay) (maxL := 6) (ret := (some .int)) (by decide) rfl ?_
  intro p e s m args below meth c s₁ B hml hv
  obtain ⟨rfl, hsz, hP, hK, hD0⟩ := hv
  have hx := B.exec
  have hb := B.bytes
  have hr := B.returns
  have hts := atoms_spec (ws := vc_X10_lay) B.pre
  have hown : s.vm.findClass RX10 = some m.cls := findClass_of_methodNamed B.named
  have hlocks := B.notSynchronized
  subst hsz
  have hD := hD0.self (sz := s.heap.size)
  generalize hAe : va_A (Wd 24 (cfR ad cI) σ) s.heap.size = A at hD ⊢
  have hA : ∀ q : Nat, s.heap.size ≤ q → A q := fun q h => by rw [← hAe]; exact Or.inr h
  clear hAe hD0
  refine gstart (fun H locs hHe hLe => ?_)
  have hS : va_S A s.heap H locs := by rw [← hHe, ← hLe]; exact va_S.rf
  replace hP : va_P (dC, dI) vwCl (Wd 24 (cfR ad cI) σ) H := by rw [← hHe]; exact hP
  clear hHe hLe
  have hl := lv_entry ([.ref (ad 0), .int a1, .int a2, .int a3, .int a4]) (n := 6) (Nat.le_of_ble_eq_true rfl)
  rw [lg_entry_eq]
  generalize (lg_sl ([.ref (ad 0), .int a1, .int a2, .int a3, .int a4]) ++ List.replicate (6 - (lg_sl ([.ref (ad 0), .int a1, .int a2, .int a3, .int a4])).length) Slot.unset).toArray = ls at hl ⊢
  replace hl : lv_has ls 6 [(0, .ref (ad 0)), (1, .int a1), (2, .int a2), (3, .int a3), (4, .int a4)] := hl
  unfold zf_X10_lay at h
  have J19 : ∀  (H : Heap) (locs : List Loc) (ls : Array Slot), zb_X10_lay_19 σ = some o → va_P (dC, dI) vwCl (Wd 24 (cfR ad cI) σ) H → va_D A (Wd 24 (cfR ad cI) σ) → va_S A s.heap H locs → lv_has ls 6 [] → W p l e (headSpec vc_X10_lay { frames := 2, cells := 0, slots := 0, locals := 48 }).room s m (List.toArray (α := Value) [.ref (ad 0), .int a1, .int a2, .int a3, .int a4]) below meth c H locs 0 0 (MQ below (va_Qi (fun (r : Int32) (_ : Unit) => r = o.1) (gB (dC, dI) A (fun (_ : Unit) => (Wd 24 (cfR ad cI) o.2))) A) (List.toArray (α := Value) [.ref (ad 0), .int a1, .int a2, .int a3, .int a4]) s 0 0 A) (F0 m 19 ls []) := by
    intro  H locs ls h hP hD hS hl
    unfold zb_X10_lay_19 at h
    refine lv_bipush (v := (-2)) hx hb dX10_lay_19 (by decide) ?_
    have h9 := Option.some.inj h
    exact wreti hx hb hr hlocks hP hD hS (by show _ = _; rw [← h9]; first | done | rfl) (by rw [← h9]) dX10_lay_21
  refine lv_iload_n hx hb dX10_lay_0 rfl (lv_at hl 1 rfl) ?_
  refine wcalli (S := Unit) (va_runS (As := [.int a1]) (rest := []) ⟨hx, hb, hml, hown, hts⟩ (c_X10_isSheet l dC dI cI cT cS H.size (Wd 24 (cfR ad cI) σ)  a1 _ rfl) (va_cwS 1 hts (gWS (List.mem_of_getElem? (i := 1) rfl) (List.mem_of_getElem? (i := 2) rfl) (List.mem_of_getElem? (i := 3) rfl) ic_X10_lay_c_X10_isSheet gd_c_X10_isSheet) rfl rfl rfl (by decide +kernel) ⟨(Nat.le_of_ble_eq_true rfl), (Nat.le_of_ble_eq_true rfl)⟩) (gpS hP hK hD) rfl rfl hl.1 rfl (lv_room (Nat.le_of_ble_eq_true rfl)) dX10_lay_1 ⟨(Nat.le_of_ble_eq_true rfl), (Nat.le_of_ble_eq_true rfl)⟩) hP hD hS hA (fun rr1 _ H locs hr1 hP hD hS => ?_)
  refine lv_nm (y := b2i (zf_X10_isSheet a1)) hr1 ?_
  refine lv_if_eq (tgt := 19) hx hb dX10_lay_4 (by decide) (fun c2 => ?_) (fun c2 => ?_)
  · replace h := ifn (b2i_0 c2) h
    exact J19  H locs ls h hP hD hS (lv_sub (l' := []) hl [] rfl)
  · replace h := ifp (b2i_1 c2) h
    refine lv_iload_n hx hb dX10_lay_7 rfl (lv_at hl 2 rfl) ?_
    refine lv_i2l hx hb dX10_lay_8 rfl ?_
    refine lv_lconst (v := 0) hx hb dX10_lay_9 (by decide) ?_
    refine lv_ldc2 (v := 2) hx hb hown (hts (.constantLong RX10 99 (2)) (List.mem_of_getElem? (i := 4) rfl)) dX10_lay_10 ?_
    refine wcalli (S := Unit) (va_runS (As := [.long (a2.toInt64), .long (0 : Int64), .long (2 : Int64)]) (rest := []) ⟨hx, hb, hml, hown, hts⟩ (c_X10_in l dC dI cI cT cS H.size (Wd 24 (cfR ad cI) σ)  (a2.toInt64) (0 : Int64) (2 : Int64) _ rfl) (va_cwS 3 hts (gWS (List.mem_of_getElem? (i := 5) rfl) (List.mem_of_getElem? (i := 6) rfl) (List.mem_of_getElem? (i := 3) rfl) ic_X10_lay_c_X10_in gd_c_X10_in) rfl rfl rfl (by decide +kernel) ⟨(Nat.le_of_ble_eq_true rfl), (Nat.le_of_ble_eq_true rfl)⟩) (gpS hP hK hD) rfl rfl hl.1 rfl (lv_room (Nat.le_of_ble_eq_true rfl)) dX10_lay_13 ⟨(Nat.le_of_ble_eq_true rfl), (Nat.le_of_ble_eq_true rfl)⟩) hP hD hS hA (fun rr3 _ H locs hr3 hP hD hS => ?_)
    refine lv_nm (y := b2i (zf_X10_in (a2.toInt64) (0 : Int64) (2 : Int64))) hr3 ?_
    refine lv_if_ne (tgt := 22) hx hb dX10_lay_16 (by decide) (fun c4 => ?_) (fun c4 => ?_)
    · replace h := ifp (b2i_1 c4) h
      refine lv_aload_n hx hb dX10_lay_22 rfl (lv_at hl 0 rfl) ?_
      refine lv_iload_n hx hb dX10_lay_23 rfl (lv_at hl 1 rfl) ?_
      refine lv_iload_n hx hb dX10_lay_24 rfl (lv_at hl 2 rfl) ?_
      refine lv_iload_n hx hb dX10_lay_25 rfl (lv_at hl 3 rfl) ?_
      obtain ⟨r5, σ5, hc5, h⟩ := bnd_inv h
      refine wcalli (S := Unit) (va_runV (As := [.int a1, .int a2, .int a3]) (rest := []) ⟨hx, hb, hml, hown, hts⟩ (c_X10_lacks l dC dI cI cT cS H.size ad  a1 a2 a3 σ _ hc5) (cwV 3 hts (gWV (List.mem_of_getElem? (i := 7) rfl) (List.mem_of_getElem? (i := 8) rfl) (List.mem_of_getElem? (i := 9) rfl) (List.mem_of_getElem? (i := 3) rfl) ic_X10_lay_c_X10_lacks gd_c_X10_lacks) rfl rfl rfl (by decide +kernel) ⟨(Nat.le_of_ble_eq_true rfl), (Nat.le_of_ble_eq_true rfl)⟩) (wpV (q := (RX10, TX10, 46)) hP hK hD oX10 rfl) rfl rfl hl.1 rfl (lv_room (Nat.le_of_ble_eq_true rfl)) dX10_lay_26 ⟨(Nat.le_of_ble_eq_true rfl), (Nat.le_of_ble_eq_true rfl)⟩) hP hD hS hA (fun rr6 _ H locs hr6 hP hD hS => ?_)
      replace hP : va_P (dC, dI) vwCl (Wd 24 (cfR ad cI) σ5) H := hP
      replace hD : va_D A (Wd 24 (cfR ad cI) σ5) := hD
      refine lv_nm (y := r5) hr6 ?_
      refine lv_istore (lv' := [(5, .int r5), (0, .ref (ad 0)), (1, .int a1), (2, .int a2), (3, .int a3), (4, .int a4)]) hx hb dX10_lay_29 hl (by decide) rfl (fun ls hl => ?_)
      refine lv_iload hx hb dX10_lay_31 (lv_at hl 0 rfl) ?_
      refine lv_if_eq (tgt := 39) hx hb dX10_lay_33 (by decide) (fun c7 => ?_) (fun c7 => ?_)
      · replace h := ifp (c7) h
        refine lv_aload_n hx hb dX10_lay_39 rfl (lv_at hl 1 rfl) ?_
        refine gf_X10_2 hx hb hts iw_X10_lay_X10 hown hK hP (hts (.fieldLink RX10 16 "TraceTreesModel" "items" "[I") (List.mem_of_getElem? (i := 10) rfl)) dX10_lay_40 ?_
        refine lv_bipush (v := 60) hx hb dX10_lay_43 (by decide) ?_
        refine lv_iload_n hx hb dX10_lay_45 rfl (lv_at hl 2 rfl) ?_
        refine lv_imul hx hb dX10_lay_46 ?_
        refine lv_iload_n hx hb dX10_lay_47 rfl (lv_at hl 4 rfl) ?_
        refine lv_iadd hx hb dX10_lay_48 ?_
        refine lv_iload_n hx hb dX10_lay_49 rfl (lv_at hl 3 rfl) ?_
        refine lv_iload hx hb dX10_lay_50 (lv_at hl 5 rfl) ?_
        refine wcalli (S := Unit) (va_runS (As := [.int a2, .int a4]) (rest := [.int (((60 : Int32) * a1) + a3), .ref (ad 3)]) ⟨hx, hb, hml, hown, hts⟩ (c_X10_cut l dC dI cI cT cS H.size (Wd 24 (cfR ad cI) σ5)  a2 a4 _ rfl) (va_cwS 2 hts (gWS (List.mem_of_getElem? (i := 11) rfl) (List.mem_of_getElem? (i := 12) rfl) (List.mem_of_getElem? (i := 3) rfl) ic_X10_lay_c_X10_cut gd_c_X10_cut) rfl rfl rfl (by decide +kernel) ⟨(Nat.le_of_ble_eq_true rfl), (Nat.le_of_ble_eq_true rfl)⟩) (gpS hP hK hD) rfl rfl hl.1 rfl (lv_room (Nat.le_of_ble_eq_true rfl)) dX10_lay_52 ⟨(Nat.le_of_ble_eq_true rfl), (Nat.le_of_ble_eq_true rfl)⟩) hP hD hS hA (fun rr8 _ H locs hr8 hP hD hS => ?_)
        refine lv_nm (y := (zf_X10_cut a2 a4)) hr8 ?_
        obtain ⟨hi9, h⟩ := bd_inv h
        refine wast hx hb hK hP hD hS aR3 hi9 dX10_lay_55 (fun H locs hP hD hS => ?_)
        refine lv_iconst (v := 1) hx hb dX10_lay_56 (by decide) ?_
        have h9 := Option.some.inj h
        exact wreti hx hb hr hlocks hP hD hS (by show _ = _; rw [← h9]; first | done | rfl) (by rw [← h9]) dX10_lay_57
      · replace h := ifn (c7) h
        refine lv_iload hx hb dX10_lay_36 (lv_at hl 0 rfl) ?_
        have h9 := Option.some.inj h
        exact wreti hx hb hr hlocks hP hD hS (by show _ = _; rw [← h9]; first | done | rfl) (by rw [← h9]) dX10_lay_38
    · replace h := ifn (b2i_0 c4) h
      exact J19  H locs ls h hP hD hS (lv_sub (l' := []) hl [] rfl)
def zb_X10_get_29 (σb29 : Sg) : Option (Int32 × Sg) := some ((-2147483648 : Int32), σb29)
def zf_X10_get (a1 : Int32) (a2 : Int32) (a3 : Int32) (σ : Sg) : Option (Int32 × Sg) := (if (zf_X10_isSheet a1) = true then (if (zf_X10_in (a2.toInt64) (0 : Int64) (2 : Int64)) = true then bnd (zf_X10_lacks a1 a2 a3 σ) (fun r5 σ5 => (if r5 = 0 then bd (((60 : Int32) * a1) + a3) 240 (some ((σ5 3 (((60 : Int32) * a1) + a3).toNatClampNeg), σ5)) else (zb_X10_get_29 σ5))) else (zb_X10_get_29 σ)) else (zb_X10_get_29 σ))
def oc_X10_get : List Cond := [.methodLink RX10 95 yX10_isSheet, .static yX10_isSheet, .initialized RX10, .constantLong RX10 99 (2), .methodLink RX10 86 yX10_in, .static yX10_in, .methodLink RX10 105 yX10_lacks, .instanceMethod yX10_lacks, .selects RX10 yX10_lacks yX10_lacks, .fieldLink RX10 16 "TraceTreesModel" "items" "[I", .constant RX10 113 (-2147483648)]
def vc_X10_get : List Cond := .code yX10_get cX10_get 4 (some .int) :: (oc_X10_get ++ (wsX100 ++ (vc_X10_isSheet ++ (vc_X10_in ++ (vc_X10_lacks)))))
theorem iw_X10_get_X10 : ∀ w ∈ wsX100, w ∈ vc_X10_get := fun _ h => List.mem_cons_of_mem _ (List.mem_append_right _ (List.mem_append_left _ h))
theorem ic_X10_get_c_X10_isSheet : ∀ w ∈ vc_X10_isSheet, w ∈ vc_X10_get := fun _ h => List.mem_cons_of_mem _ (List.mem_append_right _ (List.mem_append_right _ (List.mem_append_left _ h)))
theorem ic_X10_get_c_X10_in : ∀ w ∈ vc_X10_in, w ∈ vc_X10_get := fun _ h => List.mem_cons_of_mem _ (List.mem_append_right _ (List.mem_append_right _ (List.mem_append_right _ (List.mem_append_left _ h))))
theorem ic_X10_get_c_X10_lacks : ∀ w ∈ vc_X10_lacks, w ∈ vc_X10_get := fun _ h => List.mem_cons_of_mem _ (List.mem_append_right _ (List.mem_append_right _ (List.mem_append_right _ (List.mem_append_right _ (h)))))
theorem gd_c_X10_get : (vc_X10_get).all goodWord = true := gall_cons rfl (gall_app (by decide +kernel) (gall_app gw_X10 (gall_app gd_c_X10_isSheet (gall_app gd_c_X10_in gd_c_X10_lacks))))
set_option maxHeartbeats 4000000 in
set_option maxRecDepth 100000 in
theorem c_X10_get (l : Launch) (dC : Nat → ClassId) (dI : Nat → Nat → Nat) (cI cT cS : ClassId) (sz : Nat) (ad : Nat → Nat) (a1 : Int32) (a2 : Int32) (a3 : Int32) (σ : Sg) (o : Int32 × Sg) (h : zf_X10_get a1 a2 a3 σ = some o) : gCI (S := Unit) l yX10_get vc_X10_get { frames := 2, cells := 0, slots := 0, locals := 48 } (dC, dI) (gTY cI cT cS) sz [.ref (ad 0), .int a1, .int a2, .int a3] (Wd 24 (cfR ad cI) σ) (fun (r : Int32) (_ : Unit) => r = o.1) (fun (_ : Unit) => (Wd 24 (cfR ad cI) o.2)) 0 0 := by
  refine Met.ofW (cc := cX10_get) (maxL := 4) (ret := (some .int)) (by decide) rfl ?_
  intro p e s m args below meth c s₁ B hml hv
  obtain ⟨rfl, hsz, hP, hK, hD0⟩ := hv
  have hx := B.exec
  have hb := B.bytes
  have hr := B.returns
  have hts := atoms_spec (ws := vc_X10_get) B.pre
  have hown : s.vm.findClass RX10 = some m.cls := findClass_of_methodNamed B.named
  have hlocks := B.notSynchronized
  subst hsz
  have hD := hD0.self (sz := s.heap.size)
  generalize hAe : va_A (Wd 24 (cfR ad cI) σ) s.heap.size = A at hD ⊢
  have hA : ∀ q : Nat, s.heap.size ≤ q → A q := fun q h => by rw [← hAe]; exact Or.inr h
  clear hAe hD0
  refine gstart (fun H locs hHe hLe => ?_)
  have hS : va_S A s.heap H locs := by rw [← hHe, ← hLe]; exact va_S.rf
  replace hP : va_P (dC, dI) vwCl (Wd 24 (cfR ad cI) σ) H := by rw [← hHe]; exact hP
  clear hHe hLe
  have hl := lv_entry ([.ref (ad 0), .int a1, .int a2, .int a3]) (n := 4) (Nat.le_of_ble_eq_true rfl)
  rw [lg_entry_eq]
  generalize (lg_sl ([.ref (ad 0), .int a1, .int a2, .int a3]) ++ List.replicate (4 - (lg_sl ([.ref (ad 0), .int a1, .int a2, .int a3])).length) Slot.unset).toArray = ls at hl ⊢
  replace hl : lv_has ls 4 [(0, .ref (ad 0)), (1, .int a1), (2, .int a2), (3, .int a3)] := hl
  unfold zf_X10_get at h
  have J29 : ∀ (σb29 : Sg) (H : Heap) (locs : List Loc) (ls : Array Slot), zb_X10_get_29 σb29 = some o → va_P (dC, dI) vwCl (Wd 24 (cfR ad cI) σb29) H → va_D A (Wd 24 (cfR ad cI) σb29) → va_S A s.heap H locs → lv_has ls 4 [] → W p l e (headSpec vc_X10_get { frames := 2, cells := 0, slots := 0, locals := 48 }).room s m (List.toArray (α := Value) [.ref (ad 0), .int a1, .int a2, .int a3]) below meth c H locs 0 0 (MQ below (va_Qi (fun (r : Int32) (_ : Unit) => r = o.1) (gB (dC, dI) A (fun (_ : Unit) => (Wd 24 (cfR ad cI) o.2))) A) (List.toArray (α := Value) [.ref (ad 0), .int a1, .int a2, .int a3]) s 0 0 A) (F0 m 29 ls []) := by
    intro σb29 H locs ls h hP hD hS hl
    unfold zb_X10_get_29 at h
    refine lv_ldc (v := (-2147483648)) hx hb hown (hts (.constant RX10 113 (-2147483648)) (List.mem_of_getElem? (i := 11) rfl)) dX10_get_29 ?_
    have h9 := Option.some.inj h
    exact wreti hx hb hr hlocks hP hD hS (by show _ = _; rw [← h9]; first | done | rfl) (by rw [← h9]) dX10_get_31
  refine lv_iload_n hx hb dX10_get_0 rfl (lv_at hl 1 rfl) ?_
  refine wcalli (S := Unit) (va_runS (As := [.int a1]) (rest := []) ⟨hx, hb, hml, hown, hts⟩ (c_X10_isSheet l dC dI cI cT cS H.size (Wd 24 (cfR ad cI) σ)  a1 _ rfl) (va_cwS 1 hts (gWS (List.mem_of_getElem? (i := 1) rfl) (List.mem_of_getElem? (i := 2) rfl) (List.mem_of_getElem? (i := 3) rfl) ic_X10_get_c_X10_isSheet gd_c_X10_isSheet) rfl rfl rfl (by decide +kernel) ⟨(Nat.le_of_ble_eq_true rfl), (Nat.le_of_ble_eq_true rfl)⟩) (gpS hP hK hD) rfl rfl hl.1 rfl (lv_room (Nat.le_of_ble_eq_true rfl)) dX10_get_1 ⟨(Nat.le_of_ble_eq_true rfl), (Nat.le_of_ble_eq_true rfl)⟩) hP hD hS hA (fun rr1 _ H locs hr1 hP hD hS => ?_)
  refine lv_nm (y := b2i (zf_X10_isSheet a1)) hr1 ?_
  refine lv_if_eq (tgt := 29) hx hb dX10_get_4 (by decide) (fun c2 => ?_) (fun c2 => ?_)
  · replace h := ifn (b2i_0 c2) h
    exact J29 σ H locs ls h hP hD hS (lv_sub (l' := []) hl [] rfl)
  · replace h := ifp (b2i_1 c2) h
    refine lv_iload_n hx hb dX10_get_7 rfl (lv_at hl 2 rfl) ?_
    refine lv_i2l hx hb dX10_get_8 rfl ?_
    refine lv_lconst (v := 0) hx hb dX10_get_9 (by decide) ?_
    refine lv_ldc2 (v := 2) hx hb hown (hts (.constantLong RX10 99 (2)) (List.mem_of_getElem? (i := 4) rfl)) dX10_get_10 ?_
    refine wcalli (S := Unit) (va_runS (As := [.long (a2.toInt64), .long (0 : Int64), .long (2 : Int64)]) (rest := []) ⟨hx, hb, hml, hown, hts⟩ (c_X10_in l dC dI cI cT cS H.size (Wd 24 (cfR ad cI) σ)  (a2.toInt64) (0 : Int64) (2 : Int64) _ rfl) (va_cwS 3 hts (gWS (List.mem_of_getElem? (i := 5) rfl) (List.mem_of_getElem? (i := 6) rfl) (List.mem_of_getElem? (i := 3) rfl) ic_X10_get_c_X10_in gd_c_X10_in) rfl rfl rfl (by decide +kernel) ⟨(Nat.le_of_ble_eq_true rfl), (Nat.le_of_ble_eq_true rfl)⟩) (gpS hP hK hD) rfl rfl hl.1 rfl (lv_room (Nat.le_of_ble_eq_true rfl)) dX10_get_13 ⟨(Nat.le_of_ble_eq_true rfl), (Nat.le_of_ble_eq_true rfl)⟩) hP hD hS hA (fun rr3 _ H locs hr3 hP hD hS => ?_)
    refine lv_nm (y := b2i (zf_X10_in (a2.toInt64) (0 : Int64) (2 : Int64))) hr3 ?_
    refine lv_if_eq (tgt := 29) hx hb dX10_get_16 (by decide) (fun c4 => ?_) (fun c4 => ?_)
    · replace h := ifn (b2i_0 c4) h
      exact J29 σ H locs ls h hP hD hS (lv_sub (l' := []) hl [] rfl)
    · replace h := ifp (b2i_1 c4) h
      refine lv_aload_n hx hb dX10_get_19 rfl (lv_at hl 0 rfl) ?_
      refine lv_iload_n hx hb dX10_get_20 rfl (lv_at hl 1 rfl) ?_
      refine lv_iload_n hx hb dX10_get_21 rfl (lv_at hl 2 rfl) ?_
      refine lv_iload_n hx hb dX10_get_22 rfl (lv_at hl 3 rfl) ?_
      obtain ⟨r5, σ5, hc5, h⟩ := bnd_inv h
      refine wcalli (S := Unit) (va_runV (As := [.int a1, .int a2, .int a3]) (rest := []) ⟨hx, hb, hml, hown, hts⟩ (c_X10_lacks l dC dI cI cT cS H.size ad  a1 a2 a3 σ _ hc5) (cwV 3 hts (gWV (List.mem_of_getElem? (i := 7) rfl) (List.mem_of_getElem? (i := 8) rfl) (List.mem_of_getElem? (i := 9) rfl) (List.mem_of_getElem? (i := 3) rfl) ic_X10_get_c_X10_lacks gd_c_X10_lacks) rfl rfl rfl (by decide +kernel) ⟨(Nat.le_of_ble_eq_true rfl), (Nat.le_of_ble_eq_true rfl)⟩) (wpV (q := (RX10, TX10, 46)) hP hK hD oX10 rfl) rfl rfl hl.1 rfl (lv_room (Nat.le_of_ble_eq_true rfl)) dX10_get_23 ⟨(Nat.le_of_ble_eq_true rfl), (Nat.le_of_ble_eq_true rfl)⟩) hP hD hS hA (fun rr6 _ H locs hr6 hP hD hS => ?_)
      replace hP : va_P (dC, dI) vwCl (Wd 24 (cfR ad cI) σ5) H := hP
      replace hD : va_D A (Wd 24 (cfR ad cI) σ5) := hD
      refine lv_nm (y := r5) hr6 ?_
      refine lv_if_eq (tgt := 32) hx hb dX10_get_26 (by decide) (fun c7 => ?_) (fun c7 => ?_)
      · replace h := ifp (c7) h
        refine lv_aload_n hx hb dX10_get_32 rfl (lv_at hl 0 rfl) ?_
        refine gf_X10_2 hx hb hts iw_X10_get_X10 hown hK hP (hts (.fieldLink RX10 16 "TraceTreesModel" "items" "[I") (List.mem_of_getElem? (i := 10) rfl)) dX10_get_33 ?_
        refine lv_bipush (v := 60) hx hb dX10_get_36 (by decide) ?_
        refine lv_iload_n hx hb dX10_get_38 rfl (lv_at hl 1 rfl) ?_
        refine lv_imul hx hb dX10_get_39 ?_
        refine lv_iload_n hx hb dX10_get_40 rfl (lv_at hl 3 rfl) ?_
        refine lv_iadd hx hb dX10_get_41 ?_
        obtain ⟨hi8, h⟩ := bd_inv h
        refine wald hx hb hK hP aR3 hi8 dX10_get_42 ?_
        have h9 := Option.some.inj h
        exact wreti hx hb hr hlocks hP hD hS (by show _ = _; rw [← h9]; first | done | rfl) (by rw [← h9]) dX10_get_43
      · replace h := ifn (c7) h
        exact J29 σ5 H locs ls h hP hD hS (lv_sub (l' := []) hl [] rfl)
def zb_X10_copy_14 (σ : Sg) : Option (Int32 × Sg) := some ((-2 : Int32), σ)
def zb_X10_copy_35 (σ : Sg) : Option (Int32 × Sg) := letb (zf_X10_finds (1 : Int32) σ) (fun q25 => some (q25.1, q25.2))
def zb_X10_copy_111 (σ : Sg) : Option (Int32 × Sg) := letb (zf_X10_finds (2 : Int32) σ) (fun q23 => some (q23.1, q23.2))
def zl_X10_copy_157 (a3 : Int32) (a4 : Int32) (a5 : Int32) (x157 : Int32 × Sg) : Option (Bool × (Int32 × Sg)) := (if a5 ≤ x157.1 then some (false, (x157.1, x157.2)) else bd x157.1 60 (bd ((((60 : Int32) * a3) + a4) + x157.1) 240 (some (true, ((x157.1 + (1 : Int32)), su x157.2 3 ((((60 : Int32) * a3) + a4) + x157.1).toNatClampNeg (x157.2 4 x157.1.toNatClampNeg))))))
def zl_X10_copy_120 (a1 : Int32) (a2 : Int32) (a5 : Int32) (x120 : Int32 × Sg) : Option (Bool × (Int32 × Sg)) := (if a5 ≤ x120.1 then some (false, (x120.1, x120.2)) else bd ((((60 : Int32) * a1) + a2) + x120.1) 240 (bd x120.1 60 (some (true, ((x120.1 + (1 : Int32)), su x120.2 4 x120.1.toNatClampNeg (x120.2 3 ((((60 : Int32) * a1) + a2) + x120.1).toNatClampNeg))))))
def zf_X10_copy (a1 : Int32) (a2 : Int32) (a3 : Int32) (a4 : Int32) (a5 : Int32) (σ : Sg) : Option (Int32 × Sg) := (if (zf_X10_isSheet a1) = true then (if (zf_X10_isSheet a3) = true then bd a1 4 ((if (σ 1 a1.toNatClampNeg) < 0 then (zb_X10_copy_35 σ) else bd a3 4 ((if 0 ≤ (σ 1 a3.toNatClampNeg) then (if (σ 1 a1.toNatClampNeg) = (σ 1 a3.toNatClampNeg) then (if a2 < 0 then (zb_X10_copy_111 σ) else (if a4 < 0 then (zb_X10_copy_111 σ) else (if a5 < 0 then (zb_X10_copy_111 σ) else (if ((σ 2 a1.toNatClampNeg).toInt64) < ((a2.toInt64) + (a5.toInt64)) then (zb_X10_copy_111 σ) else (if ((a4.toInt64) + (a5.toInt64)) ≤ ((σ 2 a3.toNatClampNeg).toInt64) then obd (lp (X := Int32 × Sg) (zl_X10_copy_120 a1 a2 a5) 1000 ((0 : Int32), σ)) (fun y120 => obd (lp (X := Int32 × Sg) (zl_X10_copy_157 a3 a4 a5) 1000 ((0 : Int32), y120.2)) (fun y157 => some ((1 : Int32), y157.2))) else (zb_X10_copy_111 σ)))))) else letb (zf_X10_finds (4 : Int32) σ) (fun q21 => some (q21.1, q21.2))) else (zb_X10_copy_35 σ))))) else (zb_X10_copy_14 σ)) else (zb_X10_copy_14 σ))
def oc_X10_copy : List Cond := [.methodLink RX10 95 yX10_isSheet, .static yX10_isSheet, .initialized RX10, .fieldLink RX10 7 "TraceTreesModel" "forms" "[I", .fieldLink RX10 13 "TraceTreesModel" "sizes" "[I", .fieldLink RX10 19 "TraceTreesModel" "moved" "[I", .fieldLink RX10 16 "TraceTreesModel" "items" "[I", .methodLink RX10 101 yX10_finds, .instanceMethod yX10_finds, .selects RX10 yX10_finds yX10_finds]
def vc_X10_copy : List Cond := .code yX10_copy cX10_copy 7 (some .int) :: (oc_X10_copy ++ (wsX100 ++ (vc_X10_isSheet ++ (vc_X10_finds))))
theorem iw_X10_copy_X10 : ∀ w ∈ wsX100, w ∈ vc_X10_copy := fun _ h => List.mem_cons_of_mem _ (List.mem_append_right _ (List.mem_append_left _ h))
theorem ic_X10_copy_c_X10_isSheet : ∀ w ∈ vc_X10_isSheet, w ∈ vc_X10_copy := fun _ h => List.mem_cons_of_mem _ (List.mem_append_right _ (List.mem_append_right _ (List.mem_append_left _ h)))
theorem ic_X10_copy_c_X10_finds : ∀ w ∈ vc_X10_finds, w ∈ vc_X10_copy := fun _ h => List.mem_cons_of_mem _ (List.mem_append_right _ (List.mem_append_right _ (List.mem_append_right _ (h))))
theorem gd_c_X10_copy : (vc_X10_copy).all goodWord = true := gall_cons rfl (gall_app (by decide +kernel) (gall_app gw_X10 (gall_app gd_c_X10_isSheet gd_c_X10_finds)))
set_option maxHeartbeats 4000000 in
set_option maxRecDepth 100000 in
theorem c_X10_copy (l : Launch) (dC : Nat → ClassId) (dI : Nat → Nat → Nat) (cI cT cS : ClassId) (sz : Nat) (ad : Nat → Nat) (a1 : Int32) (a2 : Int32) (a3 : Int32) (a4 : Int32) (a5 : Int32) (σ : Sg) (o : Int32 × Sg) (h : zf_X10_copy a1 a2 a3 a4 a5 σ = some o) : gCI (S := Unit) l yX10_copy vc_X10_copy { frames := 2, cells := 0, slots := 0, locals := 45 } (dC, dI) (gTY cI cT cS) sz [.ref (ad 0), .int a1, .int a2, .int a3, .int a4, .int a5] (Wd 24 (cfR ad cI) σ) (fun (r : Int32) (_ : Unit) => r = o.1) (fun (_ : Unit) => (Wd 24 (cfR ad cI) o.2)) 0 0 := by
  refine Met.ofW (cc := cX10_copy) (maxL := 7) (ret := (some .int)) (by decide) rfl ?_
  intro p e s m args below meth c s₁ B hml hv
  obtain ⟨rfl, hsz, hP, hK, hD0⟩ := hv
  have hx := B.exec
  have hb := B.bytes
  have hr := B.returns
  have hts := atoms_spec (ws := vc_X10_copy) B.pre
  have hown : s.vm.findClass RX10 = some m.cls := findClass_of_methodNamed B.named
  have hlocks := B.notSynchronized
  subst hsz
  have hD := hD0.self (sz := s.heap.size)
  generalize hAe : va_A (Wd 24 (cfR ad cI) σ) s.heap.size = A at hD ⊢
  have hA : ∀ q : Nat, s.heap.size ≤ q → A q := fun q h => by rw [← hAe]; exact Or.inr h
  clear hAe hD0
  refine gstart (fun H locs hHe hLe => ?_)
  have hS : va_S A s.heap H locs := by rw [← hHe, ← hLe]; exact va_S.rf
  replace hP : va_P (dC, dI) vwCl (Wd 24 (cfR ad cI) σ) H := by rw [← hHe]; exact hP
  clear hHe hLe
  have hl := lv_entry ([.ref (ad 0), .int a1, .int a2, .int a3, .int a4, .int a5]) (n := 7) (Nat.le_of_ble_eq_true rfl)
  rw [lg_entry_eq]
  generalize (lg_sl ([.ref (ad 0), .int a1, .int a2, .int a3, .int a4, .int a5]) ++ List.replicate (7 - (lg_sl ([.ref (ad 0), .int a1, .int a2, .int a3, .int a4, .int a5])).length) Slot.unset).toArray = ls at hl ⊢
  replace hl : lv_has ls 7 [(0, .ref (ad 0)), (1, .int a1), (2, .int a2), (3, .int a3), (4, .int a4), (5, .int a5)] := hl
  unfold zf_X10_copy at h
  have J14 : ∀  (H : Heap) (locs : List Loc) (ls : Array Slot), zb_X10_copy_14 σ = some o → va_P (dC, dI) vwCl (Wd 24 (cfR ad cI) σ) H → va_D A (Wd 24 (cfR ad cI) σ) → va_S A s.heap H locs → lv_has ls 7 [] → W p l e (headSpec vc_X10_copy { frames := 2, cells := 0, slots := 0, locals := 45 }).room s m (List.toArray (α := Value) [.ref (ad 0), .int a1, .int a2, .int a3, .int a4, .int a5]) below meth c H locs 0 0 (MQ below (va_Qi (fun (r : Int32) (_ : Unit) => r = o.1) (gB (dC, dI) A (fun (_ : Unit) => (Wd 24 (cfR ad cI) o.2))) A) (List.toArray (α := Value) [.ref (ad 0), .int a1, .int a2, .int a3, .int a4, .int a5]) s 0 0 A) (F0 m 14 ls []) := by
    intro  H locs ls h hP hD hS hl
    unfold zb_X10_copy_14 at h
    refine lv_bipush (v := (-2)) hx hb dX10_copy_14 (by decide) ?_
    have h9 := Option.some.inj h
    exact wreti hx hb hr hlocks hP hD hS (by show _ = _; rw [← h9]; first | done | rfl) (by rw [← h9]) dX10_copy_16
  have J35 : ∀  (H : Heap) (locs : List Loc) (ls : Array Slot), zb_X10_copy_35 σ = some o → va_P (dC, dI) vwCl (Wd 24 (cfR ad cI) σ) H → va_D A (Wd 24 (cfR ad cI) σ) → va_S A s.heap H locs → lv_has ls 7 [(0, .ref (ad 0))] → W p l e (headSpec vc_X10_copy { frames := 2, cells := 0, slots := 0, locals := 45 }).room s m (List.toArray (α := Value) [.ref (ad 0), .int a1, .int a2, .int a3, .int a4, .int a5]) below meth c H locs 0 0 (MQ below (va_Qi (fun (r : Int32) (_ : Unit) => r = o.1) (gB (dC, dI) A (fun (_ : Unit) => (Wd 24 (cfR ad cI) o.2))) A) (List.toArray (α := Value) [.ref (ad 0), .int a1, .int a2, .int a3, .int a4, .int a5]) s 0 0 A) (F0 m 35 ls []) := by
    intro  H locs ls h hP hD hS hl
    unfold zb_X10_copy_35 at h
    refine lv_aload_n hx hb dX10_copy_35 rfl (lv_at hl 0 rfl) ?_
    refine lv_iconst (v := 1) hx hb dX10_copy_36 (by decide) ?_
    obtain ⟨q25, hc25, h⟩ := letb_inv h
    refine wcalli (S := Unit) (va_runV (As := [.int (1 : Int32)]) (rest := []) ⟨hx, hb, hml, hown, hts⟩ (c_X10_finds l dC dI cI cT cS H.size ad  (1 : Int32) σ _ hc25) (cwV 1 hts (gWV (List.mem_of_getElem? (i := 8) rfl) (List.mem_of_getElem? (i := 9) rfl) (List.mem_of_getElem? (i := 10) rfl) (List.mem_of_getElem? (i := 3) rfl) ic_X10_copy_c_X10_finds gd_c_X10_finds) rfl rfl rfl (by decide +kernel) ⟨(Nat.le_of_ble_eq_true rfl), (Nat.le_of_ble_eq_true rfl)⟩) (wpV (q := (RX10, TX10, 46)) hP hK hD oX10 rfl) rfl rfl hl.1 rfl (lv_room (Nat.le_of_ble_eq_true rfl)) dX10_copy_37 ⟨(Nat.le_of_ble_eq_true rfl), (Nat.le_of_ble_eq_true rfl)⟩) hP hD hS hA (fun rr26 _ H locs hr26 hP hD hS => ?_)
    replace hP : va_P (dC, dI) vwCl (Wd 24 (cfR ad cI) q25.2) H := hP
    replace hD : va_D A (Wd 24 (cfR ad cI) q25.2) := hD
    refine lv_nm (y := q25.1) hr26 ?_
    have h9 := Option.some.inj h
    exact wreti hx hb hr hlocks hP hD hS (by show _ = _; rw [← h9]; first | done | rfl) (by rw [← h9]) dX10_copy_40
  have J111 : ∀  (H : Heap) (locs : List Loc) (ls : Array Slot), zb_X10_copy_111 σ = some o → va_P (dC, dI) vwCl (Wd 24 (cfR ad cI) σ) H → va_D A (Wd 24 (cfR ad cI) σ) → va_S A s.heap H locs → lv_has ls 7 [(0, .ref (ad 0))] → W p l e (headSpec vc_X10_copy { frames := 2, cells := 0, slots := 0, locals := 45 }).room s m (List.toArray (α := Value) [.ref (ad 0), .int a1, .int a2, .int a3, .int a4, .int a5]) below meth c H locs 0 0 (MQ below (va_Qi (fun (r : Int32) (_ : Unit) => r = o.1) (gB (dC, dI) A (fun (_ : Unit) => (Wd 24 (cfR ad cI) o.2))) A) (List.toArray (α := Value) [.ref (ad 0), .int a1, .int a2, .int a3, .int a4, .int a5]) s 0 0 A) (F0 m 111 ls []) := by
    intro  H locs ls h hP hD hS hl
    unfold zb_X10_copy_111 at h
    refine lv_aload_n hx hb dX10_copy_111 rfl (lv_at hl 0 rfl) ?_
    refine lv_iconst (v := 2) hx hb dX10_copy_112 (by decide) ?_
    obtain ⟨q23, hc23, h⟩ := letb_inv h
    refine wcalli (S := Unit) (va_runV (As := [.int (2 : Int32)]) (rest := []) ⟨hx, hb, hml, hown, hts⟩ (c_X10_finds l dC dI cI cT cS H.size ad  (2 : Int32) σ _ hc23) (cwV 1 hts (gWV (List.mem_of_getElem? (i := 8) rfl) (List.mem_of_getElem? (i := 9) rfl) (List.mem_of_getElem? (i := 10) rfl) (List.mem_of_getElem? (i := 3) rfl) ic_X10_copy_c_X10_finds gd_c_X10_finds) rfl rfl rfl (by decide +kernel) ⟨(Nat.le_of_ble_eq_true rfl), (Nat.le_of_ble_eq_true rfl)⟩) (wpV (q := (RX10, TX10, 46)) hP hK hD oX10 rfl) rfl rfl hl.1 rfl (lv_room (Nat.le_of_ble_eq_true rfl)) dX10_copy_113 ⟨(Nat.le_of_ble_eq_true rfl), (Nat.le_of_ble_eq_true rfl)⟩) hP hD hS hA (fun rr24 _ H locs hr24 hP hD hS => ?_)
    replace hP : va_P (dC, dI) vwCl (Wd 24 (cfR ad cI) q23.2) H := hP
    replace hD : va_D A (Wd 24 (cfR ad cI) q23.2) := hD
    refine lv_nm (y := q23.1) hr24 ?_
    have h9 := Option.some.inj h
    exact wreti hx hb hr hlocks hP hD hS (by show _ = _; rw [← h9]; first | done | rfl) (by rw [← h9]) dX10_copy_116
  refine lv_iload_n hx hb dX10_copy_0 rfl (lv_at hl 1 rfl) ?_
  refine wcalli (S := Unit) (va_runS (As := [.int a1]) (rest := []) ⟨hx, hb, hml, hown, hts⟩ (c_X10_isSheet l dC dI cI cT cS H.size (Wd 24 (cfR ad cI) σ)  a1 _ rfl) (va_cwS 1 hts (gWS (List.mem_of_getElem? (i := 1) rfl) (List.mem_of_getElem? (i := 2) rfl) (List.mem_of_getElem? (i := 3) rfl) ic_X10_copy_c_X10_isSheet gd_c_X10_isSheet) rfl rfl rfl (by decide +kernel) ⟨(Nat.le_of_ble_eq_true rfl), (Nat.le_of_ble_eq_true rfl)⟩) (gpS hP hK hD) rfl rfl hl.1 rfl (lv_room (Nat.le_of_ble_eq_true rfl)) dX10_copy_1 ⟨(Nat.le_of_ble_eq_true rfl), (Nat.le_of_ble_eq_true rfl)⟩) hP hD hS hA (fun rr1 _ H locs hr1 hP hD hS => ?_)
  refine lv_nm (y := b2i (zf_X10_isSheet a1)) hr1 ?_
  refine lv_if_eq (tgt := 14) hx hb dX10_copy_4 (by decide) (fun c2 => ?_) (fun c2 => ?_)
  · replace h := ifn (b2i_0 c2) h
    exact J14  H locs ls h hP hD hS (lv_sub (l' := []) hl [] rfl)
  · replace h := ifp (b2i_1 c2) h
    refine lv_iload_n hx hb dX10_copy_7 rfl (lv_at hl 3 rfl) ?_
    refine wcalli (S := Unit) (va_runS (As := [.int a3]) (rest := []) ⟨hx, hb, hml, hown, hts⟩ (c_X10_isSheet l dC dI cI cT cS H.size (Wd 24 (cfR ad cI) σ)  a3 _ rfl) (va_cwS 1 hts (gWS (List.mem_of_getElem? (i := 1) rfl) (List.mem_of_getElem? (i := 2) rfl) (List.mem_of_getElem? (i := 3) rfl) ic_X10_copy_c_X10_isSheet gd_c_X10_isSheet) rfl rfl rfl (by decide +kernel) ⟨(Nat.le_of_ble_eq_true rfl), (Nat.le_of_ble_eq_true rfl)⟩) (gpS hP hK hD) rfl rfl hl.1 rfl (lv_room (Nat.le_of_ble_eq_true rfl)) dX10_copy_8 ⟨(Nat.le_of_ble_eq_true rfl), (Nat.le_of_ble_eq_true rfl)⟩) hP hD hS hA (fun rr3 _ H locs hr3 hP hD hS => ?_)
    refine lv_nm (y := b2i (zf_X10_isSheet a3)) hr3 ?_
    refine lv_if_ne (tgt := 17) hx hb dX10_copy_11 (by decide) (fun c4 => ?_) (fun c4 => ?_)
    · replace h := ifp (b2i_1 c4) h
      refine lv_aload_n hx hb dX10_copy_17 rfl (lv_at hl 0 rfl) ?_
      refine gf_X10_0 hx hb hts iw_X10_copy_X10 hown hK hP (hts (.fieldLink RX10 7 "TraceTreesModel" "forms" "[I") (List.mem_of_getElem? (i := 4) rfl)) dX10_copy_18 ?_
      refine lv_iload_n hx hb dX10_copy_21 rfl (lv_at hl 1 rfl) ?_
      obtain ⟨hi5, h⟩ := bd_inv h
      refine wald hx hb hK hP aR1 hi5 dX10_copy_22 ?_
      refine lv_if_lt (tgt := 35) hx hb dX10_copy_23 (by decide) (fun c6 => ?_) (fun c6 => ?_)
      · replace h := ifp (c6) h
        exact J35  H locs ls h hP hD hS (lv_sub (l' := [(0, .ref (ad 0))]) hl [0] rfl)
      · replace h := ifn (c6) h
        refine lv_aload_n hx hb dX10_copy_26 rfl (lv_at hl 0 rfl) ?_
        refine gf_X10_0 hx hb hts iw_X10_copy_X10 hown hK hP (hts (.fieldLink RX10 7 "TraceTreesModel" "forms" "[I") (List.mem_of_getElem? (i := 4) rfl)) dX10_copy_27 ?_
        refine lv_iload_n hx hb dX10_copy_30 rfl (lv_at hl 3 rfl) ?_
        obtain ⟨hi7, h⟩ := bd_inv h
        refine wald hx hb hK hP aR1 hi7 dX10_copy_31 ?_
        refine lv_if_ge (tgt := 41) hx hb dX10_copy_32 (by decide) (fun c8 => ?_) (fun c8 => ?_)
        · replace h := ifp (c8) h
          refine lv_aload_n hx hb dX10_copy_41 rfl (lv_at hl 0 rfl) ?_
          refine gf_X10_0 hx hb hts iw_X10_copy_X10 hown hK hP (hts (.fieldLink RX10 7 "TraceTreesModel" "forms" "[I") (List.mem_of_getElem? (i := 4) rfl)) dX10_copy_42 ?_
          refine lv_iload_n hx hb dX10_copy_45 rfl (lv_at hl 1 rfl) ?_
          refine wald hx hb hK hP aR1 hi5 dX10_copy_46 ?_
          refine lv_aload_n hx hb dX10_copy_47 rfl (lv_at hl 0 rfl) ?_
          refine gf_X10_0 hx hb hts iw_X10_copy_X10 hown hK hP (hts (.fieldLink RX10 7 "TraceTreesModel" "forms" "[I") (List.mem_of_getElem? (i := 4) rfl)) dX10_copy_48 ?_
          refine lv_iload_n hx hb dX10_copy_51 rfl (lv_at hl 3 rfl) ?_
          refine wald hx hb hK hP aR1 hi7 dX10_copy_52 ?_
          refine lv_icmp_eq (tgt := 62) hx hb dX10_copy_53 (by decide) (fun c9 => ?_) (fun c9 => ?_)
          · replace h := ifp (c9) h
            refine lv_iload_n hx hb dX10_copy_62 rfl (lv_at hl 2 rfl) ?_
            refine lv_if_lt (tgt := 111) hx hb dX10_copy_63 (by decide) (fun c10 => ?_) (fun c10 => ?_)
            · replace h := ifp (c10) h
              exact J111  H locs ls h hP hD hS (lv_sub (l' := [(0, .ref (ad 0))]) hl [0] rfl)
            · replace h := ifn (c10) h
              refine lv_iload hx hb dX10_copy_66 (lv_at hl 4 rfl) ?_
              refine lv_if_lt (tgt := 111) hx hb dX10_copy_68 (by decide) (fun c11 => ?_) (fun c11 => ?_)
              · replace h := ifp (c11) h
                exact J111  H locs ls h hP hD hS (lv_sub (l' := [(0, .ref (ad 0))]) hl [0] rfl)
              · replace h := ifn (c11) h
                refine lv_iload hx hb dX10_copy_71 (lv_at hl 5 rfl) ?_
                refine lv_if_lt (tgt := 111) hx hb dX10_copy_73 (by decide) (fun c12 => ?_) (fun c12 => ?_)
                · replace h := ifp (c12) h
                  exact J111  H locs ls h hP hD hS (lv_sub (l' := [(0, .ref (ad 0))]) hl [0] rfl)
                · replace h := ifn (c12) h
                  refine lv_iload_n hx hb dX10_copy_76 rfl (lv_at hl 2 rfl) ?_
                  refine lv_i2l hx hb dX10_copy_77 rfl ?_
                  refine lv_iload hx hb dX10_copy_78 (lv_at hl 5 rfl) ?_
                  refine lv_i2l hx hb dX10_copy_80 rfl ?_
                  refine lv_ladd hx hb dX10_copy_81 ?_
                  refine lv_aload_n hx hb dX10_copy_82 rfl (lv_at hl 0 rfl) ?_
                  refine gf_X10_1 hx hb hts iw_X10_copy_X10 hown hK hP (hts (.fieldLink RX10 13 "TraceTreesModel" "sizes" "[I") (List.mem_of_getElem? (i := 5) rfl)) dX10_copy_83 ?_
                  refine lv_iload_n hx hb dX10_copy_86 rfl (lv_at hl 1 rfl) ?_
                  refine wald hx hb hK hP aR2 hi5 dX10_copy_87 ?_
                  refine lv_i2l hx hb dX10_copy_88 rfl ?_
                  refine W.lcmp hx hb dX10_copy_89 ?_
                  refine lv_if_gt (tgt := 111) hx hb dX10_copy_90 (by decide) (fun c13 => ?_) (fun c13 => ?_)
                  · replace h := ifp (g_c_gt.mp c13) h
                    exact J111  H locs ls h hP hD hS (lv_sub (l' := [(0, .ref (ad 0))]) hl [0] rfl)
                  · replace h := ifn (fun q => c13 (g_c_gt.mpr q)) h
                    refine lv_iload hx hb dX10_copy_93 (lv_at hl 4 rfl) ?_
                    refine lv_i2l hx hb dX10_copy_95 rfl ?_
                    refine lv_iload hx hb dX10_copy_96 (lv_at hl 5 rfl) ?_
                    refine lv_i2l hx hb dX10_copy_98 rfl ?_
                    refine lv_ladd hx hb dX10_copy_99 ?_
                    refine lv_aload_n hx hb dX10_copy_100 rfl (lv_at hl 0 rfl) ?_
                    refine gf_X10_1 hx hb hts iw_X10_copy_X10 hown hK hP (hts (.fieldLink RX10 13 "TraceTreesModel" "sizes" "[I") (List.mem_of_getElem? (i := 5) rfl)) dX10_copy_101 ?_
                    refine lv_iload_n hx hb dX10_copy_104 rfl (lv_at hl 3 rfl) ?_
                    refine wald hx hb hK hP aR2 hi7 dX10_copy_105 ?_
                    refine lv_i2l hx hb dX10_copy_106 rfl ?_
                    refine W.lcmp hx hb dX10_copy_107 ?_
                    refine lv_if_le (tgt := 117) hx hb dX10_copy_108 (by decide) (fun c14 => ?_) (fun c14 => ?_)
                    · replace h := ifp (g_c_le.mp c14) h
                      refine lv_iconst (v := 0) hx hb dX10_copy_117 (by decide) ?_
                      refine lv_istore (lv' := [(6, .int (0 : Int32)), (0, .ref (ad 0)), (1, .int a1), (2, .int a2), (3, .int a3), (4, .int a4), (5, .int a5)]) hx hb dX10_copy_118 hl (by decide) rfl (fun ls hl => ?_)
                      obtain ⟨y120, hlp120, h⟩ := obd_inv h
                      refine lp_W (fun x120 : Int32 × Sg => ∀ (H : Heap) (locs : List Loc) (ls : Array Slot), va_P (dC, dI) vwCl (Wd 24 (cfR ad cI) x120.2) H → va_D A (Wd 24 (cfR ad cI) x120.2) → va_S A s.heap H locs → lv_has ls 7 [(6, .int x120.1), (0, .ref (ad 0)), (1, .int a1), (2, .int a2), (3, .int a3), (4, .int a4), (5, .int a5)] → W p l e (headSpec vc_X10_copy { frames := 2, cells := 0, slots := 0, locals := 45 }).room s m (List.toArray (α := Value) [.ref (ad 0), .int a1, .int a2, .int a3, .int a4, .int a5]) below meth c H locs 0 0 (MQ below (va_Qi (fun (r : Int32) (_ : Unit) => r = o.1) (gB (dC, dI) A (fun (_ : Unit) => (Wd 24 (cfR ad cI) o.2))) A) (List.toArray (α := Value) [.ref (ad 0), .int a1, .int a2, .int a3, .int a4, .int a5]) s 0 0 A) (F0 m 120 ls [])) (fun y120 : Int32 × Sg => ∀ (H : Heap) (locs : List Loc) (ls : Array Slot), va_P (dC, dI) vwCl (Wd 24 (cfR ad cI) y120.2) H → va_D A (Wd 24 (cfR ad cI) y120.2) → va_S A s.heap H locs → lv_has ls 7 [(0, .ref (ad 0)), (3, .int a3), (4, .int a4), (5, .int a5)] → W p l e (headSpec vc_X10_copy { frames := 2, cells := 0, slots := 0, locals := 45 }).room s m (List.toArray (α := Value) [.ref (ad 0), .int a1, .int a2, .int a3, .int a4, .int a5]) below meth c H locs 0 0 (MQ below (va_Qi (fun (r : Int32) (_ : Unit) => r = o.1) (gB (dC, dI) A (fun (_ : Unit) => (Wd 24 (cfR ad cI) o.2))) A) (List.toArray (α := Value) [.ref (ad 0), .int a1, .int a2, .int a3, .int a4, .int a5]) s 0 0 A) (F0 m 154 ls [])) ?_ 1000 ((0 : Int32), σ) y120 hlp120 ?_ H locs ls hP hD hS (lv_sub (l' := [(6, .int (0 : Int32)), (0, .ref (ad 0)), (1, .int a1), (2, .int a2), (3, .int a3), (4, .int a4), (5, .int a5)]) hl [0, 1, 2, 3, 4, 5, 6] rfl)
                      · intro x120 yy120 h ht120 hf120 H locs ls hP hD hS hl
                        unfold zl_X10_copy_120 at h
                        refine lv_iload hx hb dX10_copy_120 (lv_at hl 0 rfl) ?_
                        refine lv_iload hx hb dX10_copy_122 (lv_at hl 6 rfl) ?_
                        refine lv_icmp_ge (tgt := 154) hx hb dX10_copy_124 (by decide) (fun c15 => ?_) (fun c15 => ?_)
                        · replace h := ifp (c15) h
                          obtain rfl := Option.some.inj h
                          exact hf120 rfl H locs ls hP hD hS (lv_sub (l' := [(0, .ref (ad 0)), (3, .int a3), (4, .int a4), (5, .int a5)]) hl [1, 4, 5, 6] rfl)
                        · replace h := ifn (c15) h
                          refine lv_aload_n hx hb dX10_copy_127 rfl (lv_at hl 1 rfl) ?_
                          refine gf_X10_3 hx hb hts iw_X10_copy_X10 hown hK hP (hts (.fieldLink RX10 19 "TraceTreesModel" "moved" "[I") (List.mem_of_getElem? (i := 6) rfl)) dX10_copy_128 ?_
                          refine lv_iload hx hb dX10_copy_131 (lv_at hl 0 rfl) ?_
                          refine lv_aload_n hx hb dX10_copy_133 rfl (lv_at hl 1 rfl) ?_
                          refine gf_X10_2 hx hb hts iw_X10_copy_X10 hown hK hP (hts (.fieldLink RX10 16 "TraceTreesModel" "items" "[I") (List.mem_of_getElem? (i := 7) rfl)) dX10_copy_134 ?_
                          refine lv_bipush (v := 60) hx hb dX10_copy_137 (by decide) ?_
                          refine lv_iload_n hx hb dX10_copy_139 rfl (lv_at hl 2 rfl) ?_
                          refine lv_imul hx hb dX10_copy_140 ?_
                          refine lv_iload_n hx hb dX10_copy_141 rfl (lv_at hl 3 rfl) ?_
                          refine lv_iadd hx hb dX10_copy_142 ?_
                          refine lv_iload hx hb dX10_copy_143 (lv_at hl 0 rfl) ?_
                          refine lv_iadd hx hb dX10_copy_145 ?_
                          obtain ⟨hi16, h⟩ := bd_inv h
                          refine wald hx hb hK hP aR3 hi16 dX10_copy_146 ?_
                          obtain ⟨hi17, h⟩ := bd_inv h
                          refine wast hx hb hK hP hD hS aR4 hi17 dX10_copy_147 (fun H locs hP hD hS => ?_)
                          refine lv_iinc (v := (x120.1 + (1 : Int32))) (lv' := [(6, .int (x120.1 + (1 : Int32))), (0, .ref (ad 0)), (1, .int a1), (2, .int a2), (3, .int a3), (4, .int a4), (5, .int a5)]) hx hb dX10_copy_148 hl (k := 0) rfl rfl (by decide) rfl (fun ls hl => ?_)
                          refine lv_goto (tgt := 120) hx hb dX10_copy_151 (by decide) ?_
                          obtain rfl := Option.some.inj h
                          exact ht120 rfl H locs ls hP hD hS (lv_sub (l' := [(6, .int (x120.1 + (1 : Int32))), (0, .ref (ad 0)), (1, .int a1), (2, .int a2), (3, .int a3), (4, .int a4), (5, .int a5)]) hl [0, 1, 2, 3, 4, 5, 6] rfl)
                      · intro H locs ls hP hD hS hl
                        refine lv_iconst (v := 0) hx hb dX10_copy_154 (by decide) ?_
                        refine lv_istore (lv' := [(6, .int (0 : Int32)), (0, .ref (ad 0)), (3, .int a3), (4, .int a4), (5, .int a5)]) hx hb dX10_copy_155 hl (by decide) rfl (fun ls hl => ?_)
                        obtain ⟨y157, hlp157, h⟩ := obd_inv h
                        refine lp_W (fun x157 : Int32 × Sg => ∀ (H : Heap) (locs : List Loc) (ls : Array Slot), va_P (dC, dI) vwCl (Wd 24 (cfR ad cI) x157.2) H → va_D A (Wd 24 (cfR ad cI) x157.2) → va_S A s.heap H locs → lv_has ls 7 [(6, .int x157.1), (0, .ref (ad 0)), (3, .int a3), (4, .int a4), (5, .int a5)] → W p l e (headSpec vc_X10_copy { frames := 2, cells := 0, slots := 0, locals := 45 }).room s m (List.toArray (α := Value) [.ref (ad 0), .int a1, .int a2, .int a3, .int a4, .int a5]) below meth c H locs 0 0 (MQ below (va_Qi (fun (r : Int32) (_ : Unit) => r = o.1) (gB (dC, dI) A (fun (_ : Unit) => (Wd 24 (cfR ad cI) o.2))) A) (List.toArray (α := Value) [.ref (ad 0), .int a1, .int a2, .int a3, .int a4, .int a5]) s 0 0 A) (F0 m 157 ls [])) (fun y157 : Int32 × Sg => ∀ (H : Heap) (locs : List Loc) (ls : Array Slot), va_P (dC, dI) vwCl (Wd 24 (cfR ad cI) y157.2) H → va_D A (Wd 24 (cfR ad cI) y157.2) → va_S A s.heap H locs → lv_has ls 7 [] → W p l e (headSpec vc_X10_copy { frames := 2, cells := 0, slots := 0, locals := 45 }).room s m (List.toArray (α := Value) [.ref (ad 0), .int a1, .int a2, .int a3, .int a4, .int a5]) below meth c H locs 0 0 (MQ below (va_Qi (fun (r : Int32) (_ : Unit) => r = o.1) (gB (dC, dI) A (fun (_ : Unit) => (Wd 24 (cfR ad cI) o.2))) A) (List.toArray (α := Value) [.ref (ad 0), .int a1, .int a2, .int a3, .int a4, .int a5]) s 0 0 A) (F0 m 192 ls [])) ?_ 1000 ((0 : Int32), y120.2) y157 hlp157 ?_ H locs ls hP hD hS (lv_sub (l' := [(6, .int (0 : Int32)), (0, .ref (ad 0)), (3, .int a3), (4, .int a4), (5, .int a5)]) hl [0, 1, 2, 3, 4] rfl)
                        · intro x157 yy157 h ht157 hf157 H locs ls hP hD hS hl
                          unfold zl_X10_copy_157 at h
                          refine lv_iload hx hb dX10_copy_157 (lv_at hl 0 rfl) ?_
                          refine lv_iload hx hb dX10_copy_159 (lv_at hl 4 rfl) ?_
                          refine lv_icmp_ge (tgt := 192) hx hb dX10_copy_161 (by decide) (fun c18 => ?_) (fun c18 => ?_)
                          · replace h := ifp (c18) h
                            obtain rfl := Option.some.inj h
                            exact hf157 rfl H locs ls hP hD hS (lv_sub (l' := []) hl [] rfl)
                          · replace h := ifn (c18) h
                            refine lv_aload_n hx hb dX10_copy_164 rfl (lv_at hl 1 rfl) ?_
                            refine gf_X10_2 hx hb hts iw_X10_copy_X10 hown hK hP (hts (.fieldLink RX10 16 "TraceTreesModel" "items" "[I") (List.mem_of_getElem? (i := 7) rfl)) dX10_copy_165 ?_
                            refine lv_bipush (v := 60) hx hb dX10_copy_168 (by decide) ?_
                            refine lv_iload_n hx hb dX10_copy_170 rfl (lv_at hl 2 rfl) ?_
                            refine lv_imul hx hb dX10_copy_171 ?_
                            refine lv_iload hx hb dX10_copy_172 (lv_at hl 3 rfl) ?_
                            refine lv_iadd hx hb dX10_copy_174 ?_
                            refine lv_iload hx hb dX10_copy_175 (lv_at hl 0 rfl) ?_
                            refine lv_iadd hx hb dX10_copy_177 ?_
                            refine lv_aload_n hx hb dX10_copy_178 rfl (lv_at hl 1 rfl) ?_
                            refine gf_X10_3 hx hb hts iw_X10_copy_X10 hown hK hP (hts (.fieldLink RX10 19 "TraceTreesModel" "moved" "[I") (List.mem_of_getElem? (i := 6) rfl)) dX10_copy_179 ?_
                            refine lv_iload hx hb dX10_copy_182 (lv_at hl 0 rfl) ?_
                            obtain ⟨hi19, h⟩ := bd_inv h
                            refine wald hx hb hK hP aR4 hi19 dX10_copy_184 ?_
                            obtain ⟨hi20, h⟩ := bd_inv h
                            refine wast hx hb hK hP hD hS aR3 hi20 dX10_copy_185 (fun H locs hP hD hS => ?_)
                            refine lv_iinc (v := (x157.1 + (1 : Int32))) (lv' := [(6, .int (x157.1 + (1 : Int32))), (0, .ref (ad 0)), (3, .int a3), (4, .int a4), (5, .int a5)]) hx hb dX10_copy_186 hl (k := 0) rfl rfl (by decide) rfl (fun ls hl => ?_)
                            refine lv_goto (tgt := 157) hx hb dX10_copy_189 (by decide) ?_
                            obtain rfl := Option.some.inj h
                            exact ht157 rfl H locs ls hP hD hS (lv_sub (l' := [(6, .int (x157.1 + (1 : Int32))), (0, .ref (ad 0)), (3, .int a3), (4, .int a4), (5, .int a5)]) hl [0, 1, 2, 3, 4] rfl)
                        · intro H locs ls hP hD hS hl
                          refine lv_iconst (v := 1) hx hb dX10_copy_192 (by decide) ?_
                          have h9 := Option.some.inj h
                          exact wreti hx hb hr hlocks hP hD hS (by show _ = _; rw [← h9]; first | done | rfl) (by rw [← h9]) dX10_copy_193
                    · replace h := ifn (fun q => c14 (g_c_le.mpr q)) h
                      exact J111  H locs ls h hP hD hS (lv_sub (l' := [(0, .ref (ad 0))]) hl [0] rfl)
          · replace h := ifn (c9) h
            refine lv_aload_n hx hb dX10_copy_56 rfl (lv_at hl 0 rfl) ?_
            refine lv_iconst (v := 4) hx hb dX10_copy_57 (by decide) ?_
            obtain ⟨q21, hc21, h⟩ := letb_inv h
            refine wcalli (S := Unit) (va_runV (As := [.int (4 : Int32)]) (rest := []) ⟨hx, hb, hml, hown, hts⟩ (c_X10_finds l dC dI cI cT cS H.size ad  (4 : Int32) σ _ hc21) (cwV 1 hts (gWV (List.mem_of_getElem? (i := 8) rfl) (List.mem_of_getElem? (i := 9) rfl) (List.mem_of_getElem? (i := 10) rfl) (List.mem_of_getElem? (i := 3) rfl) ic_X10_copy_c_X10_finds gd_c_X10_finds) rfl rfl rfl (by decide +kernel) ⟨(Nat.le_of_ble_eq_true rfl), (Nat.le_of_ble_eq_true rfl)⟩) (wpV (q := (RX10, TX10, 46)) hP hK hD oX10 rfl) rfl rfl hl.1 rfl (lv_room (Nat.le_of_ble_eq_true rfl)) dX10_copy_58 ⟨(Nat.le_of_ble_eq_true rfl), (Nat.le_of_ble_eq_true rfl)⟩) hP hD hS hA (fun rr22 _ H locs hr22 hP hD hS => ?_)
            replace hP : va_P (dC, dI) vwCl (Wd 24 (cfR ad cI) q21.2) H := hP
            replace hD : va_D A (Wd 24 (cfR ad cI) q21.2) := hD
            refine lv_nm (y := q21.1) hr22 ?_
            have h9 := Option.some.inj h
            exact wreti hx hb hr hlocks hP hD hS (by show _ = _; rw [← h9]; first | done | rfl) (by rw [← h9]) dX10_copy_61
        · replace h := ifn (c8) h
          exact J35  H locs ls h hP hD hS (lv_sub (l' := [(0, .ref (ad 0))]) hl [0] rfl)
    · replace h := ifn (b2i_0 c4) h
      exact J14  H locs ls h hP hD hS (lv_sub (l' := []) hl [] rfl)
def zl_X10_lengthOf_4  (x4 : Int64 × Int32) : Option (Bool × (Int64 × Int32)) := (if x4.1 = (0 : Int64) then some (false, (x4.1, x4.2)) else letb (x4.1 >>> ((1 : Int32).toInt64 &&& 63)) (fun e2 => some (true, (e2, (x4.2 + (1 : Int32))))))
def zf_X10_lengthOf (a0 : Int64) : Option (Int32) := obd (lp (X := Int64 × Int32) zl_X10_lengthOf_4 1000 (a0, (0 : Int32))) (fun y4 => some y4.2)
def oc_X10_lengthOf : List Cond := []
def vc_X10_lengthOf : List Cond := .code yX10_lengthOf cX10_lengthOf 5 (some .int) :: (oc_X10_lengthOf)
theorem gd_c_X10_lengthOf : (vc_X10_lengthOf).all goodWord = true := gall_cons rfl (by decide +kernel)
set_option maxHeartbeats 4000000 in
set_option maxRecDepth 100000 in
theorem c_X10_lengthOf (l : Launch) (dC : Nat → ClassId) (dI : Nat → Nat → Nat) (cI cT cS : ClassId) (sz : Nat) (ws : va_W) (a0 : Int64) (o : Int32) (h : zf_X10_lengthOf a0 = some o) : gCI (S := Unit) l yX10_lengthOf vc_X10_lengthOf { frames := 0, cells := 0, slots := 0, locals := 0 } (dC, dI) (gTY cI cT cS) sz [.long a0] ws (fun (r : Int32) (_ : Unit) => r = o) (fun (_ : Unit) => ws) 0 0 := by
  refine Met.ofW (cc := cX10_lengthOf) (maxL := 5) (ret := (some .int)) (by decide) rfl ?_
  intro p e s m args below meth c s₁ B hml hv
  obtain ⟨rfl, hsz, hP, hK, hD0⟩ := hv
  have hx := B.exec
  have hb := B.bytes
  have hr := B.returns
  have hts := atoms_spec (ws := vc_X10_lengthOf) B.pre
  have hown : s.vm.findClass RX10 = some m.cls := findClass_of_methodNamed B.named
  have hlocks := B.notSynchronized
  subst hsz
  have hD := hD0.self (sz := s.heap.size)
  generalize hAe : va_A ws s.heap.size = A at hD ⊢
  have hA : ∀ q : Nat, s.heap.size ≤ q → A q := fun q h => by rw [← hAe]; exact Or.inr h
  clear hAe hD0
  refine gstart (fun H locs hHe hLe => ?_)
  have hS : va_S A s.heap H locs := by rw [← hHe, ← hLe]; exact va_S.rf
  replace hP : va_P (dC, dI) vwCl ws H := by rw [← hHe]; exact hP
  clear hHe hLe
  have hl := lv_entry ([.long a0]) (n := 5) (Nat.le_of_ble_eq_true rfl)
  rw [lg_entry_eq]
  generalize (lg_sl ([.long a0]) ++ List.replicate (5 - (lg_sl ([.long a0])).length) Slot.unset).toArray = ls at hl ⊢
  replace hl : lv_has ls 5 [(0, .long a0)] := hl
  unfold zf_X10_lengthOf at h
  refine lv_iconst (v := 0) hx hb dX10_lengthOf_0 (by decide) ?_
  refine lv_istore_n (lv' := [(2, .int (0 : Int32)), (0, .long a0)]) hx hb dX10_lengthOf_1 rfl hl (by decide) rfl (fun ls hl => ?_)
  refine lv_lload_n hx hb dX10_lengthOf_2 rfl (lv_at hl 1 rfl) ?_
  refine lv_lstore_n (lv' := [(3, .long a0), (2, .int (0 : Int32)), (0, .long a0)]) hx hb dX10_lengthOf_3 rfl hl (by decide) rfl (fun ls hl => ?_)
  obtain ⟨y4, hlp4, h⟩ := obd_inv h
  refine lp_W (fun x4 : Int64 × Int32 => ∀ (H : Heap) (locs : List Loc) (ls : Array Slot), va_P (dC, dI) vwCl ws H → va_D A ws → va_S A s.heap H locs → lv_has ls 5 [(3, .long x4.1), (2, .int x4.2)] → W p l e (headSpec vc_X10_lengthOf { frames := 0, cells := 0, slots := 0, locals := 0 }).room s m (List.toArray (α := Value) [.long a0]) below meth c H locs 0 0 (MQ below (va_Qi (fun (r : Int32) (_ : Unit) => r = o) (gB (dC, dI) A (fun (_ : Unit) => ws)) A) (List.toArray (α := Value) [.long a0]) s 0 0 A) (F0 m 4 ls [])) (fun y4 : Int64 × Int32 => ∀ (H : Heap) (locs : List Loc) (ls : Array Slot), va_P (dC, dI) vwCl ws H → va_D A ws → va_S A s.heap H locs → lv_has ls 5 [(2, .int y4.2)] → W p l e (headSpec vc_X10_lengthOf { frames := 0, cells := 0, slots := 0, locals := 0 }).room s m (List.toArray (α := Value) [.long a0]) below meth c H locs 0 0 (MQ below (va_Qi (fun (r : Int32) (_ : Unit) => r = o) (gB (dC, dI) A (fun (_ : Unit) => ws)) A) (List.toArray (α := Value) [.long a0]) s 0 0 A) (F0 m 20 ls [])) ?_ 1000 (a0, (0 : Int32)) y4 hlp4 ?_ H locs ls hP hD hS (lv_sub (l' := [(3, .long a0), (2, .int (0 : Int32))]) hl [0, 1] rfl)
  · intro x4 yy4 h ht4 hf4 H locs ls hP hD hS hl
    unfold zl_X10_lengthOf_4 at h
    refine lv_lload_n hx hb dX10_lengthOf_4 rfl (lv_at hl 0 rfl) ?_
    refine lv_lconst (v := 0) hx hb dX10_lengthOf_5 (by decide) ?_
    refine W.lcmp hx hb dX10_lengthOf_6 ?_
    refine lv_if_eq (tgt := 20) hx hb dX10_lengthOf_7 (by decide) (fun c1 => ?_) (fun c1 => ?_)
    · replace h := ifp (g_c_eq.mp c1) h
      obtain rfl := Option.some.inj h
      exact hf4 rfl H locs ls hP hD hS (lv_sub (l' := [(2, .int x4.2)]) hl [1] rfl)
    · replace h := ifn (fun q => c1 (g_c_eq.mpr q)) h
      refine lv_iinc (v := (x4.2 + (1 : Int32))) (lv' := [(2, .int (x4.2 + (1 : Int32))), (3, .long x4.1)]) hx hb dX10_lengthOf_10 hl (k := 1) rfl rfl (by decide) rfl (fun ls hl => ?_)
      refine lv_lload_n hx hb dX10_lengthOf_13 rfl (lv_at hl 1 rfl) ?_
      refine lv_iconst (v := 1) hx hb dX10_lengthOf_14 (by decide) ?_
      refine lv_lshr hx hb dX10_lengthOf_15 rfl ?_
      obtain ⟨e2, he2, h⟩ := letb_inv h
      refine lv_nml he2 ?_
      refine lv_lstore_n (lv' := [(3, .long e2), (2, .int (x4.2 + (1 : Int32)))]) hx hb dX10_lengthOf_16 rfl hl (by decide) rfl (fun ls hl => ?_)
      refine lv_goto (tgt := 4) hx hb dX10_lengthOf_17 (by decide) ?_
      obtain rfl := Option.some.inj h
      exact ht4 rfl H locs ls hP hD hS (lv_sub (l' := [(3, .long e2), (2, .int (x4.2 + (1 : Int32)))]) hl [0, 1] rfl)
  · intro H locs ls hP hD hS hl
    refine lv_iload_n hx hb dX10_lengthOf_20 rfl (lv_at hl 0 rfl) ?_
    have h9 := Option.some.inj h
    exact wreti hx hb hr hlocks hP hD hS (by show _ = _; rw [← h9]; first | done | rfl) rfl dX10_lengthOf_21
def zb_X10_nearest_272 (w0_272 : Int32) : Option (Int32) := some w0_272
def zb_X10_nearest_217 (v14_217 : Int32) (v7_217 : Int64) (v4_217 : Int32) : Option (Int32) := (if (8388608 : Int64) ≤ v7_217 then letb (v14_217 + (150 : Int32)) (fun e22 => (if e22 < (255 : Int32) then (zb_X10_nearest_272 ((v4_217 ||| (e22 <<< ((23 : Int32) &&& 31))) ||| ((v7_217.toInt32) &&& (8388607 : Int32)))) else (zb_X10_nearest_272 (v4_217 ||| (2139095040 : Int32))))) else some (v4_217 ||| (v7_217.toInt32)))
def zb_X10_nearest_191 (a3 : Int32) (v6_191 : Int32) (v4_191 : Int32) (w0_191 : Int64) (w1_191 : Int64) : Option (Int32) := letb (w1_191 + w0_191) (fun e18 => letb (a3 + v6_191) (fun e19 => (if e18 = (16777216 : Int64) then (zb_X10_nearest_217 (e19 + (1 : Int32)) (8388608 : Int64) v4_191) else (zb_X10_nearest_217 e19 e18 v4_191))))
def zb_X10_nearest_177 (a3 : Int32) (v7_177 : Int64) (v6_177 : Int32) (v4_177 : Int32) (w0_177 : Bool) : Option (Int32) := (if w0_177 = true then (zb_X10_nearest_191 a3 v6_177 v4_177 (1 : Int64) v7_177) else (zb_X10_nearest_191 a3 v6_177 v4_177 (0 : Int64) v7_177))
def zb_X10_nearest_172 (a3 : Int32) (v7_172 : Int64) (v6_172 : Int32) (v4_172 : Int32) : Option (Int32) := (zb_X10_nearest_177 a3 v7_172 v6_172 v4_172 true)
def zb_X10_nearest_176 (a3 : Int32) (v7_176 : Int64) (v6_176 : Int32) (v4_176 : Int32) : Option (Int32) := (zb_X10_nearest_177 a3 v7_176 v6_176 v4_176 false)
def zb_X10_nearest_140 (a3 : Int32) (v9_140 : Int64) (v7_140 : Int64) (v6_140 : Int32) (v4_140 : Int32) (w0_140 : Int64) : Option (Int32) := (if w0_140 < v9_140 then (zb_X10_nearest_172 a3 v7_140 v6_140 v4_140) else (if v9_140 = w0_140 then (if v6_140 ≤ 0 then (zb_X10_nearest_176 a3 v7_140 v6_140 v4_140) else (if (v7_140 &&& (1 : Int64)) = (1 : Int64) then (zb_X10_nearest_172 a3 v7_140 v6_140 v4_140) else (zb_X10_nearest_176 a3 v7_140 v6_140 v4_140))) else (zb_X10_nearest_176 a3 v7_140 v6_140 v4_140)))
def zb_X10_nearest_110 (a3 : Int32) (v7_110 : Int64) (v6_110 : Int32) (v4_110 : Int32) (w0_110 : Int64) : Option (Int32) := (if 0 < v6_110 then (if v6_110 ≤ (62 : Int32) then (zb_X10_nearest_140 a3 w0_110 v7_110 v6_110 v4_110 ((1 : Int64) <<< ((v6_110 - (1 : Int32)).toInt64 &&& 63))) else (zb_X10_nearest_140 a3 w0_110 v7_110 v6_110 v4_110 (2 : Int64))) else (zb_X10_nearest_140 a3 w0_110 v7_110 v6_110 v4_110 (1 : Int64)))
def zb_X10_nearest_80 (a1 : Int64) (a3 : Int32) (v6_80 : Int32) (v4_80 : Int32) (w0_80 : Int64) : Option (Int32) := (if 0 < v6_80 then (if v6_80 ≤ (62 : Int32) then (zb_X10_nearest_110 a3 w0_80 v6_80 v4_80 (a1 &&& (((1 : Int64) <<< (v6_80.toInt64 &&& 63)) - (1 : Int64)))) else (zb_X10_nearest_110 a3 w0_80 v6_80 v4_80 (1 : Int64))) else (zb_X10_nearest_110 a3 w0_80 v6_80 v4_80 (0 : Int64)))
def zb_X10_nearest_50 (a1 : Int64) (a3 : Int32) (v4_50 : Int32) (w0_50 : Int32) : Option (Int32) := (if 0 < w0_50 then (if w0_50 ≤ (62 : Int32) then (zb_X10_nearest_80 a1 a3 w0_50 v4_50 (a1 >>> (w0_50.toInt64 &&& 63))) else (zb_X10_nearest_80 a1 a3 w0_50 v4_50 (0 : Int64))) else (zb_X10_nearest_80 a1 a3 w0_50 v4_50 (a1 <<< ((-w0_50).toInt64 &&& 63))))
def zb_X10_nearest_10 (a1 : Int64) (a3 : Int32) (w0_10 : Int32) : Option (Int32) := (if a1 = (0 : Int64) then some w0_10 else obd (zf_X10_lengthOf a1) (fun r3 => letb (r3 - (24 : Int32)) (fun e5 => (if (-149 : Int32) ≤ (a3 + e5) then (zb_X10_nearest_50 a1 a3 w0_10 e5) else (zb_X10_nearest_50 a1 a3 w0_10 ((-149 : Int32) - a3))))))
def zf_X10_nearest (a0 : Bool) (a1 : Int64) (a3 : Int32) : Option (Int32) := (if a0 = true then (zb_X10_nearest_10 a1 a3 (-2147483648 : Int32)) else (zb_X10_nearest_10 a1 a3 (0 : Int32)))
def oc_X10_nearest : List Cond := [.constant RX10 113 (-2147483648), .methodLink RX10 114 yX10_lengthOf, .static yX10_lengthOf, .initialized RX10, .constantLong RX10 99 (2), .constantLong RX10 118 (16777216), .constantLong RX10 120 (8388608), .constant RX10 123 (8388607), .constant RX10 122 (2139095040)]
def vc_X10_nearest : List Cond := .code yX10_nearest cX10_nearest 16 (some .int) :: (oc_X10_nearest ++ (vc_X10_lengthOf))
theorem ic_X10_nearest_c_X10_lengthOf : ∀ w ∈ vc_X10_lengthOf, w ∈ vc_X10_nearest := fun _ h => List.mem_cons_of_mem _ (List.mem_append_right _ (h))
theorem gd_c_X10_nearest : (vc_X10_nearest).all goodWord = true := gall_cons rfl (gall_app (by decide +kernel) gd_c_X10_lengthOf)
set_option maxHeartbeats 4000000 in
set_option maxRecDepth 100000 in
theorem c_X10_nearest (l : Launch) (dC : Nat → ClassId) (dI : Nat → Nat → Nat) (cI cT cS : ClassId) (sz : Nat) (ws : va_W) (a0 : Bool) (a1 : Int64) (a3 : Int32) (o : Int32) (h : zf_X10_nearest a0 a1 a3 = some o) : gCI (S := Unit) l yX10_nearest vc_X10_nearest { frames := 1, cells := 0, slots := 0, locals := 24 } (dC, dI) (gTY cI cT cS) sz [.int (b2i a0), .long a1, .int a3] ws (fun (r : Int32) (_ : Unit) => r = o) (fun (_ : Unit) => ws) 0 0 := by
  refine Met.ofW (cc := cX10_nearest) (maxL := 16) (ret := (some .int)) (by decide) rfl ?_
  intro p e s m args below meth c s₁ B hml hv
  obtain ⟨rfl, hsz, hP, hK, hD0⟩ := hv
  have hx := B.exec
  have hb := B.bytes
  have hr := B.returns
  have hts := atoms_spec (ws := vc_X10_nearest) B.pre
  have hown : s.vm.findClass RX10 = some m.cls := findClass_of_methodNamed B.named
  have hlocks := B.notSynchronized
  subst hsz
  have hD := hD0.self (sz := s.heap.size)
  generalize hAe : va_A ws s.heap.size = A at hD ⊢
  have hA : ∀ q : Nat, s.heap.size ≤ q → A q := fun q h => by rw [← hAe]; exact Or.inr h
  clear hAe hD0
  refine gstart (fun H locs hHe hLe => ?_)
  have hS : va_S A s.heap H locs := by rw [← hHe, ← hLe]; exact va_S.rf
  replace hP : va_P (dC, dI) vwCl ws H := by rw [← hHe]; exact hP
  clear hHe hLe
  have hl := lv_entry ([.int (b2i a0), .long a1, .int a3]) (n := 16) (Nat.le_of_ble_eq_true rfl)
  rw [lg_entry_eq]
  generalize (lg_sl ([.int (b2i a0), .long a1, .int a3]) ++ List.replicate (16 - (lg_sl ([.int (b2i a0), .long a1, .int a3])).length) Slot.unset).toArray = ls at hl ⊢
  replace hl : lv_has ls 16 [(0, .int (b2i a0)), (1, .long a1), (3, .int a3)] := hl
  unfold zf_X10_nearest at h
  have J272 : ∀ (w0_272 : Int32) (H : Heap) (locs : List Loc) (ls : Array Slot), zb_X10_nearest_272 w0_272 = some o → va_P (dC, dI) vwCl ws H → va_D A ws → va_S A s.heap H locs → lv_has ls 16 [] → W p l e (headSpec vc_X10_nearest { frames := 1, cells := 0, slots := 0, locals := 24 }).room s m (List.toArray (α := Value) [.int (b2i a0), .long a1, .int a3]) below meth c H locs 0 0 (MQ below (va_Qi (fun (r : Int32) (_ : Unit) => r = o) (gB (dC, dI) A (fun (_ : Unit) => ws)) A) (List.toArray (α := Value) [.int (b2i a0), .long a1, .int a3]) s 0 0 A) (F0 m 272 ls [.int w0_272]) := by
    intro w0_272 H locs ls h hP hD hS hl
    unfold zb_X10_nearest_272 at h
    have h9 := Option.some.inj h
    exact wreti hx hb hr hlocks hP hD hS (by show _ = _; rw [← h9]; first | done | rfl) rfl dX10_nearest_272
  have J217 : ∀ (v14_217 : Int32) (v7_217 : Int64) (v4_217 : Int32) (H : Heap) (locs : List Loc) (ls : Array Slot), zb_X10_nearest_217 v14_217 v7_217 v4_217 = some o → va_P (dC, dI) vwCl ws H → va_D A ws → va_S A s.heap H locs → lv_has ls 16 [(14, .int v14_217), (7, .long v7_217), (4, .int v4_217)] → W p l e (headSpec vc_X10_nearest { frames := 1, cells := 0, slots := 0, locals := 24 }).room s m (List.toArray (α := Value) [.int (b2i a0), .long a1, .int a3]) below meth c H locs 0 0 (MQ below (va_Qi (fun (r : Int32) (_ : Unit) => r = o) (gB (dC, dI) A (fun (_ : Unit) => ws)) A) (List.toArray (α := Value) [.int (b2i a0), .long a1, .int a3]) s 0 0 A) (F0 m 217 ls []) := by
    intro v14_217 v7_217 v4_217 H locs ls h hP hD hS hl
    unfold zb_X10_nearest_217 at h
    refine lv_lload hx hb dX10_nearest_217 (lv_at hl 1 rfl) ?_
    refine lv_ldc2 (v := 8388608) hx hb hown (hts (.constantLong RX10 120 (8388608)) (List.mem_of_getElem? (i := 7) rfl)) dX10_nearest_219 ?_
    refine W.lcmp hx hb dX10_nearest_222 ?_
    refine lv_if_ge (tgt := 233) hx hb dX10_nearest_223 (by decide) (fun c21 => ?_) (fun c21 => ?_)
    · replace h := ifp (g_c_ge.mp c21) h
      refine lv_iload hx hb dX10_nearest_233 (lv_at hl 0 rfl) ?_
      refine lv_sipush (v := 150) hx hb dX10_nearest_235 (by decide) ?_
      refine lv_iadd hx hb dX10_nearest_238 ?_
      obtain ⟨e22, he22, h⟩ := letb_inv h
      refine lv_nm he22 ?_
      refine lv_istore (lv' := [(15, .int e22), (14, .int v14_217), (7, .long v7_217), (4, .int v4_217)]) hx hb dX10_nearest_239 hl (by decide) rfl (fun ls hl => ?_)
      refine lv_iload hx hb dX10_nearest_241 (lv_at hl 0 rfl) ?_
      refine lv_sipush (v := 255) hx hb dX10_nearest_243 (by decide) ?_
      refine lv_icmp_lt (tgt := 257) hx hb dX10_nearest_246 (by decide) (fun c23 => ?_) (fun c23 => ?_)
      · replace h := ifp (c23) h
        refine lv_iload hx hb dX10_nearest_257 (lv_at hl 3 rfl) ?_
        refine lv_iload hx hb dX10_nearest_259 (lv_at hl 0 rfl) ?_
        refine lv_bipush (v := 23) hx hb dX10_nearest_261 (by decide) ?_
        refine lv_ishl hx hb dX10_nearest_263 ?_
        refine lv_ior hx hb dX10_nearest_264 ?_
        refine lv_lload hx hb dX10_nearest_265 (lv_at hl 2 rfl) ?_
        refine lv_l2i hx hb dX10_nearest_267 rfl ?_
        refine lv_ldc (v := 8388607) hx hb hown (hts (.constant RX10 123 (8388607)) (List.mem_of_getElem? (i := 8) rfl)) dX10_nearest_268 ?_
        refine lv_iand hx hb dX10_nearest_270 ?_
        refine lv_ior hx hb dX10_nearest_271 ?_
        exact J272 ((v4_217 ||| (e22 <<< ((23 : Int32) &&& 31))) ||| ((v7_217.toInt32) &&& (8388607 : Int32))) H locs ls h hP hD hS (lv_sub (l' := []) hl [] rfl)
      · replace h := ifn (c23) h
        refine lv_iload hx hb dX10_nearest_249 (lv_at hl 3 rfl) ?_
        refine lv_ldc (v := 2139095040) hx hb hown (hts (.constant RX10 122 (2139095040)) (List.mem_of_getElem? (i := 9) rfl)) dX10_nearest_251 ?_
        refine lv_ior hx hb dX10_nearest_253 ?_
        refine lv_goto (tgt := 272) hx hb dX10_nearest_254 (by decide) ?_
        exact J272 (v4_217 ||| (2139095040 : Int32)) H locs ls h hP hD hS (lv_sub (l' := []) hl [] rfl)
    · replace h := ifn (fun q => c21 (g_c_ge.mpr q)) h
      refine lv_iload hx hb dX10_nearest_226 (lv_at hl 2 rfl) ?_
      refine lv_lload hx hb dX10_nearest_228 (lv_at hl 1 rfl) ?_
      refine lv_l2i hx hb dX10_nearest_230 rfl ?_
      refine lv_ior hx hb dX10_nearest_231 ?_
      have h9 := Option.some.inj h
      exact wreti hx hb hr hlocks hP hD hS (by show _ = _; rw [← h9]; first | done | rfl) rfl dX10_nearest_232
  have J191 : ∀ (v6_191 : Int32) (v4_191 : Int32) (w0_191 : Int64) (w1_191 : Int64) (H : Heap) (locs : List Loc) (ls : Array Slot), zb_X10_nearest_191 a3 v6_191 v4_191 w0_191 w1_191 = some o → va_P (dC, dI) vwCl ws H → va_D A ws → va_S A s.heap H locs → lv_has ls 16 [(6, .int v6_191), (4, .int v4_191), (3, .int a3)] → W p l e (headSpec vc_X10_nearest { frames := 1, cells := 0, slots := 0, locals := 24 }).room s m (List.toArray (α := Value) [.int (b2i a0), .long a1, .int a3]) below meth c H locs 0 0 (MQ below (va_Qi (fun (r : Int32) (_ : Unit) => r = o) (gB (dC, dI) A (fun (_ : Unit) => ws)) A) (List.toArray (α := Value) [.int (b2i a0), .long a1, .int a3]) s 0 0 A) (F0 m 191 ls [.long w0_191, .long w1_191]) := by
    intro v6_191 v4_191 w0_191 w1_191 H locs ls h hP hD hS hl
    unfold zb_X10_nearest_191 at h
    refine lv_ladd hx hb dX10_nearest_191 ?_
    obtain ⟨e18, he18, h⟩ := letb_inv h
    refine lv_nml he18 ?_
    refine lv_lstore (lv' := [(7, .long e18), (6, .int v6_191), (4, .int v4_191), (3, .int a3)]) hx hb dX10_nearest_192 hl (by decide) rfl (fun ls hl => ?_)
    refine lv_iload_n hx hb dX10_nearest_194 rfl (lv_at hl 3 rfl) ?_
    refine lv_iload hx hb dX10_nearest_195 (lv_at hl 1 rfl) ?_
    refine lv_iadd hx hb dX10_nearest_197 ?_
    obtain ⟨e19, he19, h⟩ := letb_inv h
    refine lv_nm he19 ?_
    refine lv_istore (lv' := [(14, .int e19), (7, .long e18), (6, .int v6_191), (4, .int v4_191), (3, .int a3)]) hx hb dX10_nearest_198 hl (by decide) rfl (fun ls hl => ?_)
    refine lv_lload hx hb dX10_nearest_200 (lv_at hl 1 rfl) ?_
    refine lv_ldc2 (v := 16777216) hx hb hown (hts (.constantLong RX10 118 (16777216)) (List.mem_of_getElem? (i := 6) rfl)) dX10_nearest_202 ?_
    refine W.lcmp hx hb dX10_nearest_205 ?_
    refine lv_if_ne (tgt := 217) hx hb dX10_nearest_206 (by decide) (fun c20 => ?_) (fun c20 => ?_)
    · replace h := ifn (fun q => c20 (g_c_eq.mpr q)) h
      exact J217 e19 e18 v4_191 H locs ls h hP hD hS (lv_sub (l' := [(14, .int e19), (7, .long e18), (4, .int v4_191)]) hl [0, 1, 3] rfl)
    · replace h := ifp (g_c_eq.mp c20) h
      refine lv_ldc2 (v := 8388608) hx hb hown (hts (.constantLong RX10 120 (8388608)) (List.mem_of_getElem? (i := 7) rfl)) dX10_nearest_209 ?_
      refine lv_lstore (lv' := [(7, .long (8388608 : Int64)), (14, .int e19), (6, .int v6_191), (4, .int v4_191), (3, .int a3)]) hx hb dX10_nearest_212 hl (by decide) rfl (fun ls hl => ?_)
      refine lv_iinc (v := (e19 + (1 : Int32))) (lv' := [(14, .int (e19 + (1 : Int32))), (7, .long (8388608 : Int64)), (6, .int v6_191), (4, .int v4_191), (3, .int a3)]) hx hb dX10_nearest_214 hl (k := 1) rfl rfl (by decide) rfl (fun ls hl => ?_)
      exact J217 (e19 + (1 : Int32)) (8388608 : Int64) v4_191 H locs ls h hP hD hS (lv_sub (l' := [(14, .int (e19 + (1 : Int32))), (7, .long (8388608 : Int64)), (4, .int v4_191)]) hl [0, 1, 3] rfl)
  have J177 : ∀ (v7_177 : Int64) (v6_177 : Int32) (v4_177 : Int32) (w0_177 : Bool) (H : Heap) (locs : List Loc) (ls : Array Slot), zb_X10_nearest_177 a3 v7_177 v6_177 v4_177 w0_177 = some o → va_P (dC, dI) vwCl ws H → va_D A ws → va_S A s.heap H locs → lv_has ls 16 [(7, .long v7_177), (6, .int v6_177), (4, .int v4_177), (3, .int a3)] → W p l e (headSpec vc_X10_nearest { frames := 1, cells := 0, slots := 0, locals := 24 }).room s m (List.toArray (α := Value) [.int (b2i a0), .long a1, .int a3]) below meth c H locs 0 0 (MQ below (va_Qi (fun (r : Int32) (_ : Unit) => r = o) (gB (dC, dI) A (fun (_ : Unit) => ws)) A) (List.toArray (α := Value) [.int (b2i a0), .long a1, .int a3]) s 0 0 A) (F0 m 177 ls [.int (b2i w0_177)]) := by
    intro v7_177 v6_177 v4_177 w0_177 H locs ls h hP hD hS hl
    unfold zb_X10_nearest_177 at h
    refine lv_istore (lv' := [(13, .int (b2i w0_177)), (7, .long v7_177), (6, .int v6_177), (4, .int v4_177), (3, .int a3)]) hx hb dX10_nearest_177 hl (by decide) rfl (fun ls hl => ?_)
    refine lv_lload hx hb dX10_nearest_179 (lv_at hl 1 rfl) ?_
    refine lv_iload hx hb dX10_nearest_181 (lv_at hl 0 rfl) ?_
    refine lv_if_eq (tgt := 190) hx hb dX10_nearest_183 (by decide) (fun c17 => ?_) (fun c17 => ?_)
    · replace h := ifn (b2i_0 c17) h
      refine lv_lconst (v := 0) hx hb dX10_nearest_190 (by decide) ?_
      exact J191 v6_177 v4_177 (0 : Int64) v7_177 H locs ls h hP hD hS (lv_sub (l' := [(6, .int v6_177), (4, .int v4_177), (3, .int a3)]) hl [2, 3, 4] rfl)
    · replace h := ifp (b2i_1 c17) h
      refine lv_lconst (v := 1) hx hb dX10_nearest_186 (by decide) ?_
      refine lv_goto (tgt := 191) hx hb dX10_nearest_187 (by decide) ?_
      exact J191 v6_177 v4_177 (1 : Int64) v7_177 H locs ls h hP hD hS (lv_sub (l' := [(6, .int v6_177), (4, .int v4_177), (3, .int a3)]) hl [2, 3, 4] rfl)
  have J172 : ∀ (v7_172 : Int64) (v6_172 : Int32) (v4_172 : Int32) (H : Heap) (locs : List Loc) (ls : Array Slot), zb_X10_nearest_172 a3 v7_172 v6_172 v4_172 = some o → va_P (dC, dI) vwCl ws H → va_D A ws → va_S A s.heap H locs → lv_has ls 16 [(7, .long v7_172), (6, .int v6_172), (4, .int v4_172), (3, .int a3)] → W p l e (headSpec vc_X10_nearest { frames := 1, cells := 0, slots := 0, locals := 24 }).room s m (List.toArray (α := Value) [.int (b2i a0), .long a1, .int a3]) below meth c H locs 0 0 (MQ below (va_Qi (fun (r : Int32) (_ : Unit) => r = o) (gB (dC, dI) A (fun (_ : Unit) => ws)) A) (List.toArray (α := Value) [.int (b2i a0), .long a1, .int a3]) s 0 0 A) (F0 m 172 ls []) := by
    intro v7_172 v6_172 v4_172 H locs ls h hP hD hS hl
    unfold zb_X10_nearest_172 at h
    refine lv_iconst (v := 1) hx hb dX10_nearest_172 (by decide) ?_
    refine lv_goto (tgt := 177) hx hb dX10_nearest_173 (by decide) ?_
    exact J177 v7_172 v6_172 v4_172 true H locs ls h hP hD hS (lv_sub (l' := [(7, .long v7_172), (6, .int v6_172), (4, .int v4_172), (3, .int a3)]) hl [0, 1, 2, 3] rfl)
  have J176 : ∀ (v7_176 : Int64) (v6_176 : Int32) (v4_176 : Int32) (H : Heap) (locs : List Loc) (ls : Array Slot), zb_X10_nearest_176 a3 v7_176 v6_176 v4_176 = some o → va_P (dC, dI) vwCl ws H → va_D A ws → va_S A s.heap H locs → lv_has ls 16 [(7, .long v7_176), (6, .int v6_176), (4, .int v4_176), (3, .int a3)] → W p l e (headSpec vc_X10_nearest { frames := 1, cells := 0, slots := 0, locals := 24 }).room s m (List.toArray (α := Value) [.int (b2i a0), .long a1, .int a3]) below meth c H locs 0 0 (MQ below (va_Qi (fun (r : Int32) (_ : Unit) => r = o) (gB (dC, dI) A (fun (_ : Unit) => ws)) A) (List.toArray (α := Value) [.int (b2i a0), .long a1, .int a3]) s 0 0 A) (F0 m 176 ls []) := by
    intro v7_176 v6_176 v4_176 H locs ls h hP hD hS hl
    unfold zb_X10_nearest_176 at h
    refine lv_iconst (v := 0) hx hb dX10_nearest_176 (by decide) ?_
    exact J177 v7_176 v6_176 v4_176 false H locs ls h hP hD hS (lv_sub (l' := [(7, .long v7_176), (6, .int v6_176), (4, .int v4_176), (3, .int a3)]) hl [0, 1, 2, 3] rfl)
  have J140 : ∀ (v9_140 : Int64) (v7_140 : Int64) (v6_140 : Int32) (v4_140 : Int32) (w0_140 : Int64) (H : Heap) (locs : List Loc) (ls : Array Slot), zb_X10_nearest_140 a3 v9_140 v7_140 v6_140 v4_140 w0_140 = some o → va_P (dC, dI) vwCl ws H → va_D A ws → va_S A s.heap H locs → lv_has ls 16 [(9, .long v9_140), (7, .long v7_140), (6, .int v6_140), (4, .int v4_140), (3, .int a3)] → W p l e (headSpec vc_X10_nearest { frames := 1, cells := 0, slots := 0, locals := 24 }).room s m (List.toArray (α := Value) [.int (b2i a0), .long a1, .int a3]) below meth c H locs 0 0 (MQ below (va_Qi (fun (r : Int32) (_ : Unit) => r = o) (gB (dC, dI) A (fun (_ : Unit) => ws)) A) (List.toArray (α := Value) [.int (b2i a0), .long a1, .int a3]) s 0 0 A) (F0 m 140 ls [.long w0_140]) := by
    intro v9_140 v7_140 v6_140 v4_140 w0_140 H locs ls h hP hD hS hl
    unfold zb_X10_nearest_140 at h
    refine lv_lstore (lv' := [(11, .long w0_140), (9, .long v9_140), (7, .long v7_140), (6, .int v6_140), (4, .int v4_140), (3, .int a3)]) hx hb dX10_nearest_140 hl (by decide) rfl (fun ls hl => ?_)
    refine lv_lload hx hb dX10_nearest_142 (lv_at hl 1 rfl) ?_
    refine lv_lload hx hb dX10_nearest_144 (lv_at hl 0 rfl) ?_
    refine W.lcmp hx hb dX10_nearest_146 ?_
    refine lv_if_gt (tgt := 172) hx hb dX10_nearest_147 (by decide) (fun c13 => ?_) (fun c13 => ?_)
    · replace h := ifp (g_c_gt.mp c13) h
      exact J172 v7_140 v6_140 v4_140 H locs ls h hP hD hS (lv_sub (l' := [(7, .long v7_140), (6, .int v6_140), (4, .int v4_140), (3, .int a3)]) hl [2, 3, 4, 5] rfl)
    · replace h := ifn (fun q => c13 (g_c_gt.mpr q)) h
      refine lv_lload hx hb dX10_nearest_150 (lv_at hl 1 rfl) ?_
      refine lv_lload hx hb dX10_nearest_152 (lv_at hl 0 rfl) ?_
      refine W.lcmp hx hb dX10_nearest_154 ?_
      refine lv_if_ne (tgt := 176) hx hb dX10_nearest_155 (by decide) (fun c14 => ?_) (fun c14 => ?_)
      · replace h := ifn (fun q => c14 (g_c_eq.mpr q)) h
        exact J176 v7_140 v6_140 v4_140 H locs ls h hP hD hS (lv_sub (l' := [(7, .long v7_140), (6, .int v6_140), (4, .int v4_140), (3, .int a3)]) hl [2, 3, 4, 5] rfl)
      · replace h := ifp (g_c_eq.mp c14) h
        refine lv_iload hx hb dX10_nearest_158 (lv_at hl 3 rfl) ?_
        refine lv_if_le (tgt := 176) hx hb dX10_nearest_160 (by decide) (fun c15 => ?_) (fun c15 => ?_)
        · replace h := ifp (c15) h
          exact J176 v7_140 v6_140 v4_140 H locs ls h hP hD hS (lv_sub (l' := [(7, .long v7_140), (6, .int v6_140), (4, .int v4_140), (3, .int a3)]) hl [2, 3, 4, 5] rfl)
        · replace h := ifn (c15) h
          refine lv_lload hx hb dX10_nearest_163 (lv_at hl 2 rfl) ?_
          refine lv_lconst (v := 1) hx hb dX10_nearest_165 (by decide) ?_
          refine lv_land hx hb dX10_nearest_166 ?_
          refine lv_lconst (v := 1) hx hb dX10_nearest_167 (by decide) ?_
          refine W.lcmp hx hb dX10_nearest_168 ?_
          refine lv_if_ne (tgt := 176) hx hb dX10_nearest_169 (by decide) (fun c16 => ?_) (fun c16 => ?_)
          · replace h := ifn (fun q => c16 (g_c_eq.mpr q)) h
            exact J176 v7_140 v6_140 v4_140 H locs ls h hP hD hS (lv_sub (l' := [(7, .long v7_140), (6, .int v6_140), (4, .int v4_140), (3, .int a3)]) hl [2, 3, 4, 5] rfl)
          · replace h := ifp (g_c_eq.mp c16) h
            exact J172 v7_140 v6_140 v4_140 H locs ls h hP hD hS (lv_sub (l' := [(7, .long v7_140), (6, .int v6_140), (4, .int v4_140), (3, .int a3)]) hl [2, 3, 4, 5] rfl)
  have J110 : ∀ (v7_110 : Int64) (v6_110 : Int32) (v4_110 : Int32) (w0_110 : Int64) (H : Heap) (locs : List Loc) (ls : Array Slot), zb_X10_nearest_110 a3 v7_110 v6_110 v4_110 w0_110 = some o → va_P (dC, dI) vwCl ws H → va_D A ws → va_S A s.heap H locs → lv_has ls 16 [(7, .long v7_110), (6, .int v6_110), (4, .int v4_110), (3, .int a3)] → W p l e (headSpec vc_X10_nearest { frames := 1, cells := 0, slots := 0, locals := 24 }).room s m (List.toArray (α := Value) [.int (b2i a0), .long a1, .int a3]) below meth c H locs 0 0 (MQ below (va_Qi (fun (r : Int32) (_ : Unit) => r = o) (gB (dC, dI) A (fun (_ : Unit) => ws)) A) (List.toArray (α := Value) [.int (b2i a0), .long a1, .int a3]) s 0 0 A) (F0 m 110 ls [.long w0_110]) := by
    intro v7_110 v6_110 v4_110 w0_110 H locs ls h hP hD hS hl
    unfold zb_X10_nearest_110 at h
    refine lv_lstore (lv' := [(9, .long w0_110), (7, .long v7_110), (6, .int v6_110), (4, .int v4_110), (3, .int a3)]) hx hb dX10_nearest_110 hl (by decide) rfl (fun ls hl => ?_)
    refine lv_iload hx hb dX10_nearest_112 (lv_at hl 2 rfl) ?_
    refine lv_if_gt (tgt := 121) hx hb dX10_nearest_114 (by decide) (fun c11 => ?_) (fun c11 => ?_)
    · replace h := ifp (c11) h
      refine lv_iload hx hb dX10_nearest_121 (lv_at hl 2 rfl) ?_
      refine lv_bipush (v := 62) hx hb dX10_nearest_123 (by decide) ?_
      refine lv_icmp_le (tgt := 134) hx hb dX10_nearest_125 (by decide) (fun c12 => ?_) (fun c12 => ?_)
      · replace h := ifp (c12) h
        refine lv_lconst (v := 1) hx hb dX10_nearest_134 (by decide) ?_
        refine lv_iload hx hb dX10_nearest_135 (lv_at hl 2 rfl) ?_
        refine lv_iconst (v := 1) hx hb dX10_nearest_137 (by decide) ?_
        refine lv_isub hx hb dX10_nearest_138 ?_
        refine lv_lshl hx hb dX10_nearest_139 rfl ?_
        exact J140 w0_110 v7_110 v6_110 v4_110 ((1 : Int64) <<< ((v6_110 - (1 : Int32)).toInt64 &&& 63)) H locs ls h hP hD hS (lv_sub (l' := [(9, .long w0_110), (7, .long v7_110), (6, .int v6_110), (4, .int v4_110), (3, .int a3)]) hl [0, 1, 2, 3, 4] rfl)
      · replace h := ifn (c12) h
        refine lv_ldc2 (v := 2) hx hb hown (hts (.constantLong RX10 99 (2)) (List.mem_of_getElem? (i := 5) rfl)) dX10_nearest_128 ?_
        refine lv_goto (tgt := 140) hx hb dX10_nearest_131 (by decide) ?_
        exact J140 w0_110 v7_110 v6_110 v4_110 (2 : Int64) H locs ls h hP hD hS (lv_sub (l' := [(9, .long w0_110), (7, .long v7_110), (6, .int v6_110), (4, .int v4_110), (3, .int a3)]) hl [0, 1, 2, 3, 4] rfl)
    · replace h := ifn (c11) h
      refine lv_lconst (v := 1) hx hb dX10_nearest_117 (by decide) ?_
      refine lv_goto (tgt := 140) hx hb dX10_nearest_118 (by decide) ?_
      exact J140 w0_110 v7_110 v6_110 v4_110 (1 : Int64) H locs ls h hP hD hS (lv_sub (l' := [(9, .long w0_110), (7, .long v7_110), (6, .int v6_110), (4, .int v4_110), (3, .int a3)]) hl [0, 1, 2, 3, 4] rfl)
  have J80 : ∀ (v6_80 : Int32) (v4_80 : Int32) (w0_80 : Int64) (H : Heap) (locs : List Loc) (ls : Array Slot), zb_X10_nearest_80 a1 a3 v6_80 v4_80 w0_80 = some o → va_P (dC, dI) vwCl ws H → va_D A ws → va_S A s.heap H locs → lv_has ls 16 [(6, .int v6_80), (4, .int v4_80), (1, .long a1), (3, .int a3)] → W p l e (headSpec vc_X10_nearest { frames := 1, cells := 0, slots := 0, locals := 24 }).room s m (List.toArray (α := Value) [.int (b2i a0), .long a1, .int a3]) below meth c H locs 0 0 (MQ below (va_Qi (fun (r : Int32) (_ : Unit) => r = o) (gB (dC, dI) A (fun (_ : Unit) => ws)) A) (List.toArray (α := Value) [.int (b2i a0), .long a1, .int a3]) s 0 0 A) (F0 m 80 ls [.long w0_80]) := by
    intro v6_80 v4_80 w0_80 H locs ls h hP hD hS hl
    unfold zb_X10_nearest_80 at h
    refine lv_lstore (lv' := [(7, .long w0_80), (6, .int v6_80), (4, .int v4_80), (1, .long a1), (3, .int a3)]) hx hb dX10_nearest_80 hl (by decide) rfl (fun ls hl => ?_)
    refine lv_iload hx hb dX10_nearest_82 (lv_at hl 1 rfl) ?_
    refine lv_if_gt (tgt := 91) hx hb dX10_nearest_84 (by decide) (fun c9 => ?_) (fun c9 => ?_)
    · replace h := ifp (c9) h
      refine lv_iload hx hb dX10_nearest_91 (lv_at hl 1 rfl) ?_
      refine lv_bipush (v := 62) hx hb dX10_nearest_93 (by decide) ?_
      refine lv_icmp_le (tgt := 102) hx hb dX10_nearest_95 (by decide) (fun c10 => ?_) (fun c10 => ?_)
      · replace h := ifp (c10) h
        refine lv_lload_n hx hb dX10_nearest_102 rfl (lv_at hl 3 rfl) ?_
        refine lv_lconst (v := 1) hx hb dX10_nearest_103 (by decide) ?_
        refine lv_iload hx hb dX10_nearest_104 (lv_at hl 1 rfl) ?_
        refine lv_lshl hx hb dX10_nearest_106 rfl ?_
        refine lv_lconst (v := 1) hx hb dX10_nearest_107 (by decide) ?_
        refine lv_lsub hx hb dX10_nearest_108 ?_
        refine lv_land hx hb dX10_nearest_109 ?_
        exact J110 w0_80 v6_80 v4_80 (a1 &&& (((1 : Int64) <<< (v6_80.toInt64 &&& 63)) - (1 : Int64))) H locs ls h hP hD hS (lv_sub (l' := [(7, .long w0_80), (6, .int v6_80), (4, .int v4_80), (3, .int a3)]) hl [0, 1, 2, 4] rfl)
      · replace h := ifn (c10) h
        refine lv_lconst (v := 1) hx hb dX10_nearest_98 (by decide) ?_
        refine lv_goto (tgt := 110) hx hb dX10_nearest_99 (by decide) ?_
        exact J110 w0_80 v6_80 v4_80 (1 : Int64) H locs ls h hP hD hS (lv_sub (l' := [(7, .long w0_80), (6, .int v6_80), (4, .int v4_80), (3, .int a3)]) hl [0, 1, 2, 4] rfl)
    · replace h := ifn (c9) h
      refine lv_lconst (v := 0) hx hb dX10_nearest_87 (by decide) ?_
      refine lv_goto (tgt := 110) hx hb dX10_nearest_88 (by decide) ?_
      exact J110 w0_80 v6_80 v4_80 (0 : Int64) H locs ls h hP hD hS (lv_sub (l' := [(7, .long w0_80), (6, .int v6_80), (4, .int v4_80), (3, .int a3)]) hl [0, 1, 2, 4] rfl)
  have J50 : ∀ (v4_50 : Int32) (w0_50 : Int32) (H : Heap) (locs : List Loc) (ls : Array Slot), zb_X10_nearest_50 a1 a3 v4_50 w0_50 = some o → va_P (dC, dI) vwCl ws H → va_D A ws → va_S A s.heap H locs → lv_has ls 16 [(4, .int v4_50), (1, .long a1), (3, .int a3)] → W p l e (headSpec vc_X10_nearest { frames := 1, cells := 0, slots := 0, locals := 24 }).room s m (List.toArray (α := Value) [.int (b2i a0), .long a1, .int a3]) below meth c H locs 0 0 (MQ below (va_Qi (fun (r : Int32) (_ : Unit) => r = o) (gB (dC, dI) A (fun (_ : Unit) => ws)) A) (List.toArray (α := Value) [.int (b2i a0), .long a1, .int a3]) s 0 0 A) (F0 m 50 ls [.int w0_50]) := by
    intro v4_50 w0_50 H locs ls h hP hD hS hl
    unfold zb_X10_nearest_50 at h
    refine lv_istore (lv' := [(6, .int w0_50), (4, .int v4_50), (1, .long a1), (3, .int a3)]) hx hb dX10_nearest_50 hl (by decide) rfl (fun ls hl => ?_)
    refine lv_iload hx hb dX10_nearest_52 (lv_at hl 0 rfl) ?_
    refine lv_if_gt (tgt := 65) hx hb dX10_nearest_54 (by decide) (fun c7 => ?_) (fun c7 => ?_)
    · replace h := ifp (c7) h
      refine lv_iload hx hb dX10_nearest_65 (lv_at hl 0 rfl) ?_
      refine lv_bipush (v := 62) hx hb dX10_nearest_67 (by decide) ?_
      refine lv_icmp_le (tgt := 76) hx hb dX10_nearest_69 (by decide) (fun c8 => ?_) (fun c8 => ?_)
      · replace h := ifp (c8) h
        refine lv_lload_n hx hb dX10_nearest_76 rfl (lv_at hl 2 rfl) ?_
        refine lv_iload hx hb dX10_nearest_77 (lv_at hl 0 rfl) ?_
        refine lv_lshr hx hb dX10_nearest_79 rfl ?_
        exact J80 w0_50 v4_50 (a1 >>> (w0_50.toInt64 &&& 63)) H locs ls h hP hD hS (lv_sub (l' := [(6, .int w0_50), (4, .int v4_50), (1, .long a1), (3, .int a3)]) hl [0, 1, 2, 3] rfl)
      · replace h := ifn (c8) h
        refine lv_lconst (v := 0) hx hb dX10_nearest_72 (by decide) ?_
        refine lv_goto (tgt := 80) hx hb dX10_nearest_73 (by decide) ?_
        exact J80 w0_50 v4_50 (0 : Int64) H locs ls h hP hD hS (lv_sub (l' := [(6, .int w0_50), (4, .int v4_50), (1, .long a1), (3, .int a3)]) hl [0, 1, 2, 3] rfl)
    · replace h := ifn (c7) h
      refine lv_lload_n hx hb dX10_nearest_57 rfl (lv_at hl 2 rfl) ?_
      refine lv_iload hx hb dX10_nearest_58 (lv_at hl 0 rfl) ?_
      refine lv_ineg hx hb dX10_nearest_60 ?_
      refine lv_lshl hx hb dX10_nearest_61 rfl ?_
      refine lv_goto (tgt := 80) hx hb dX10_nearest_62 (by decide) ?_
      exact J80 w0_50 v4_50 (a1 <<< ((-w0_50).toInt64 &&& 63)) H locs ls h hP hD hS (lv_sub (l' := [(6, .int w0_50), (4, .int v4_50), (1, .long a1), (3, .int a3)]) hl [0, 1, 2, 3] rfl)
  have J10 : ∀ (w0_10 : Int32) (H : Heap) (locs : List Loc) (ls : Array Slot), zb_X10_nearest_10 a1 a3 w0_10 = some o → va_P (dC, dI) vwCl ws H → va_D A ws → va_S A s.heap H locs → lv_has ls 16 [(1, .long a1), (3, .int a3)] → W p l e (headSpec vc_X10_nearest { frames := 1, cells := 0, slots := 0, locals := 24 }).room s m (List.toArray (α := Value) [.int (b2i a0), .long a1, .int a3]) below meth c H locs 0 0 (MQ below (va_Qi (fun (r : Int32) (_ : Unit) => r = o) (gB (dC, dI) A (fun (_ : Unit) => ws)) A) (List.toArray (α := Value) [.int (b2i a0), .long a1, .int a3]) s 0 0 A) (F0 m 10 ls [.int w0_10]) := by
    intro w0_10 H locs ls h hP hD hS hl
    unfold zb_X10_nearest_10 at h
    refine lv_istore (lv' := [(4, .int w0_10), (1, .long a1), (3, .int a3)]) hx hb dX10_nearest_10 hl (by decide) rfl (fun ls hl => ?_)
    refine lv_lload_n hx hb dX10_nearest_12 rfl (lv_at hl 1 rfl) ?_
    refine lv_lconst (v := 0) hx hb dX10_nearest_13 (by decide) ?_
    refine W.lcmp hx hb dX10_nearest_14 ?_
    refine lv_if_ne (tgt := 21) hx hb dX10_nearest_15 (by decide) (fun c2 => ?_) (fun c2 => ?_)
    · replace h := ifn (fun q => c2 (g_c_eq.mpr q)) h
      refine lv_lload_n hx hb dX10_nearest_21 rfl (lv_at hl 1 rfl) ?_
      obtain ⟨r3, hc3, h⟩ := obd_inv h
      refine wcalli (S := Unit) (va_runS (As := [.long a1]) (rest := []) ⟨hx, hb, hml, hown, hts⟩ (c_X10_lengthOf l dC dI cI cT cS H.size ws  a1 _ hc3) (va_cwS 1 hts (gWS (List.mem_of_getElem? (i := 2) rfl) (List.mem_of_getElem? (i := 3) rfl) (List.mem_of_getElem? (i := 4) rfl) ic_X10_nearest_c_X10_lengthOf gd_c_X10_lengthOf) rfl rfl rfl (by decide +kernel) ⟨(Nat.le_of_ble_eq_true rfl), (Nat.le_of_ble_eq_true rfl)⟩) (gpS hP hK hD) rfl rfl hl.1 rfl (lv_room (Nat.le_of_ble_eq_true rfl)) dX10_nearest_22 ⟨(Nat.le_of_ble_eq_true rfl), (Nat.le_of_ble_eq_true rfl)⟩) hP hD hS hA (fun rr4 _ H locs hr4 hP hD hS => ?_)
      refine lv_nm (y := r3) hr4 ?_
      refine lv_bipush (v := 24) hx hb dX10_nearest_25 (by decide) ?_
      refine lv_isub hx hb dX10_nearest_27 ?_
      obtain ⟨e5, he5, h⟩ := letb_inv h
      refine lv_nm he5 ?_
      refine lv_istore (lv' := [(5, .int e5), (4, .int w0_10), (1, .long a1), (3, .int a3)]) hx hb dX10_nearest_28 hl (by decide) rfl (fun ls hl => ?_)
      refine lv_iload_n hx hb dX10_nearest_30 rfl (lv_at hl 3 rfl) ?_
      refine lv_iload hx hb dX10_nearest_31 (lv_at hl 0 rfl) ?_
      refine lv_iadd hx hb dX10_nearest_33 ?_
      refine lv_sipush (v := (-149)) hx hb dX10_nearest_34 (by decide) ?_
      refine lv_icmp_ge (tgt := 48) hx hb dX10_nearest_37 (by decide) (fun c6 => ?_) (fun c6 => ?_)
      · replace h := ifp (c6) h
        refine lv_iload hx hb dX10_nearest_48 (lv_at hl 0 rfl) ?_
        exact J50 w0_10 e5 H locs ls h hP hD hS (lv_sub (l' := [(4, .int w0_10), (1, .long a1), (3, .int a3)]) hl [1, 2, 3] rfl)
      · replace h := ifn (c6) h
        refine lv_sipush (v := (-149)) hx hb dX10_nearest_40 (by decide) ?_
        refine lv_iload_n hx hb dX10_nearest_43 rfl (lv_at hl 3 rfl) ?_
        refine lv_isub hx hb dX10_nearest_44 ?_
        refine lv_goto (tgt := 50) hx hb dX10_nearest_45 (by decide) ?_
        exact J50 w0_10 ((-149 : Int32) - a3) H locs ls h hP hD hS (lv_sub (l' := [(4, .int w0_10), (1, .long a1), (3, .int a3)]) hl [1, 2, 3] rfl)
    · replace h := ifp (g_c_eq.mp c2) h
      refine lv_iload hx hb dX10_nearest_18 (lv_at hl 0 rfl) ?_
      have h9 := Option.some.inj h
      exact wreti hx hb hr hlocks hP hD hS (by show _ = _; rw [← h9]; first | done | rfl) rfl dX10_nearest_20
  refine lv_iload_n hx hb dX10_nearest_0 rfl (lv_at hl 0 rfl) ?_
  refine lv_if_eq (tgt := 9) hx hb dX10_nearest_1 (by decide) (fun c1 => ?_) (fun c1 => ?_)
  · replace h := ifn (b2i_0 c1) h
    refine lv_iconst (v := 0) hx hb dX10_nearest_9 (by decide) ?_
    exact J10 (0 : Int32) H locs ls h hP hD hS (lv_sub (l' := [(1, .long a1), (3, .int a3)]) hl [1, 2] rfl)
  · replace h := ifp (b2i_1 c1) h
    refine lv_ldc (v := (-2147483648)) hx hb hown (hts (.constant RX10 113 (-2147483648)) (List.mem_of_getElem? (i := 1) rfl)) dX10_nearest_4 ?_
    refine lv_goto (tgt := 10) hx hb dX10_nearest_6 (by decide) ?_
    exact J10 (-2147483648 : Int32) H locs ls h hP hD hS (lv_sub (l' := [(1, .long a1), (3, .int a3)]) hl [1, 2] rfl)
def zb_X10_isNan_14 (w0_14 : Bool) : Bool := w0_14
def zf_X10_isNan (a0 : Int32) : Bool := (if (a0 &&& (2147483647 : Int32)) ≤ (2139095040 : Int32) then (zb_X10_isNan_14 false) else (zb_X10_isNan_14 true))
def oc_X10_isNan : List Cond := [.constant RX10 124 (2147483647), .constant RX10 122 (2139095040)]
def vc_X10_isNan : List Cond := .code yX10_isNan cX10_isNan 1 (some .boolean) :: (oc_X10_isNan)
theorem gd_c_X10_isNan : (vc_X10_isNan).all goodWord = true := gall_cons rfl (by decide +kernel)
set_option maxHeartbeats 4000000 in
set_option maxRecDepth 100000 in
theorem c_X10_isNan (l : Launch) (dC : Nat → ClassId) (dI : Nat → Nat → Nat) (cI cT cS : ClassId) (sz : Nat) (ws : va_W) (a0 : Int32) (o : Bool) (h : zf_X10_isNan a0 = o) : gCI (S := Unit) l yX10_isNan vc_X10_isNan { frames := 0, cells := 0, slots := 0, locals := 0 } (dC, dI) (gTY cI cT cS) sz [.int a0] ws (fun (r : Int32) (_ : Unit) => r = b2i o) (fun (_ : Unit) => ws) 0 0 := by
  refine Met.ofW (cc := cX10_isNan) (maxL := 1) (ret := (some .boolean)) (by decide) rfl ?_
  intro p e s m args below meth c s₁ B hml hv
  obtain ⟨rfl, hsz, hP, hK, hD0⟩ := hv
  have hx := B.exec
  have hb := B.bytes
  have hr := B.returns
  have hts := atoms_spec (ws := vc_X10_isNan) B.pre
  have hown : s.vm.findClass RX10 = some m.cls := findClass_of_methodNamed B.named
  have hlocks := B.notSynchronized
  subst hsz
  have hD := hD0.self (sz := s.heap.size)
  generalize hAe : va_A ws s.heap.size = A at hD ⊢
  have hA : ∀ q : Nat, s.heap.size ≤ q → A q := fun q h => by rw [← hAe]; exact Or.inr h
  clear hAe hD0
  refine gstart (fun H locs hHe hLe => ?_)
  have hS : va_S A s.heap H locs := by rw [← hHe, ← hLe]; exact va_S.rf
  replace hP : va_P (dC, dI) vwCl ws H := by rw [← hHe]; exact hP
  clear hHe hLe
  have hl := lv_entry ([.int a0]) (n := 1) (Nat.le_of_ble_eq_true rfl)
  rw [lg_entry_eq]
  generalize (lg_sl ([.int a0]) ++ List.replicate (1 - (lg_sl ([.int a0])).length) Slot.unset).toArray = ls at hl ⊢
  replace hl : lv_has ls 1 [(0, .int a0)] := hl
  unfold zf_X10_isNan at h
  have J14 : ∀ (w0_14 : Bool) (H : Heap) (locs : List Loc) (ls : Array Slot), zb_X10_isNan_14 w0_14 = o → va_P (dC, dI) vwCl ws H → va_D A ws → va_S A s.heap H locs → lv_has ls 1 [] → W p l e (headSpec vc_X10_isNan { frames := 0, cells := 0, slots := 0, locals := 0 }).room s m (List.toArray (α := Value) [.int a0]) below meth c H locs 0 0 (MQ below (va_Qi (fun (r : Int32) (_ : Unit) => r = b2i o) (gB (dC, dI) A (fun (_ : Unit) => ws)) A) (List.toArray (α := Value) [.int a0]) s 0 0 A) (F0 m 14 ls [.int (b2i w0_14)]) := by
    intro w0_14 H locs ls h hP hD hS hl
    unfold zb_X10_isNan_14 at h
    have h9 := h
    exact wretz hx hb hr hlocks (b2i_or _) hP hD hS (by show _ = _; rw [← h9]; first | done | rfl) rfl dX10_isNan_14
  refine lv_iload_n hx hb dX10_isNan_0 rfl (lv_at hl 0 rfl) ?_
  refine lv_ldc (v := 2147483647) hx hb hown (hts (.constant RX10 124 (2147483647)) (List.mem_of_getElem? (i := 1) rfl)) dX10_isNan_1 ?_
  refine lv_iand hx hb dX10_isNan_3 ?_
  refine lv_ldc (v := 2139095040) hx hb hown (hts (.constant RX10 122 (2139095040)) (List.mem_of_getElem? (i := 2) rfl)) dX10_isNan_4 ?_
  refine lv_icmp_le (tgt := 13) hx hb dX10_isNan_6 (by decide) (fun c1 => ?_) (fun c1 => ?_)
  · replace h := ifp (c1) h
    refine lv_iconst (v := 0) hx hb dX10_isNan_13 (by decide) ?_
    exact J14 false H locs ls h hP hD hS (lv_sub (l' := []) hl [] rfl)
  · replace h := ifn (c1) h
    refine lv_iconst (v := 1) hx hb dX10_isNan_9 (by decide) ?_
    refine lv_goto (tgt := 14) hx hb dX10_isNan_10 (by decide) ?_
    exact J14 true H locs ls h hP hD hS (lv_sub (l' := []) hl [] rfl)
def zb_X10_isEndless_14 (w0_14 : Bool) : Bool := w0_14
def zf_X10_isEndless (a0 : Int32) : Bool := (if (a0 &&& (2147483647 : Int32)) = (2139095040 : Int32) then (zb_X10_isEndless_14 true) else (zb_X10_isEndless_14 false))
def oc_X10_isEndless : List Cond := [.constant RX10 124 (2147483647), .constant RX10 122 (2139095040)]
def vc_X10_isEndless : List Cond := .code yX10_isEndless cX10_isEndless 1 (some .boolean) :: (oc_X10_isEndless)
theorem gd_c_X10_isEndless : (vc_X10_isEndless).all goodWord = true := gall_cons rfl (by decide +kernel)
set_option maxHeartbeats 4000000 in
set_option maxRecDepth 100000 in
theorem c_X10_isEndless (l : Launch) (dC : Nat → ClassId) (dI : Nat → Nat → Nat) (cI cT cS : ClassId) (sz : Nat) (ws : va_W) (a0 : Int32) (o : Bool) (h : zf_X10_isEndless a0 = o) : gCI (S := Unit) l yX10_isEndless vc_X10_isEndless { frames := 0, cells := 0, slots := 0, locals := 0 } (dC, dI) (gTY cI cT cS) sz [.int a0] ws (fun (r : Int32) (_ : Unit) => r = b2i o) (fun (_ : Unit) => ws) 0 0 := by
  refine Met.ofW (cc := cX10_isEndless) (maxL := 1) (ret := (some .boolean)) (by decide) rfl ?_
  intro p e s m args below meth c s₁ B hml hv
  obtain ⟨rfl, hsz, hP, hK, hD0⟩ := hv
  have hx := B.exec
  have hb := B.bytes
  have hr := B.returns
  have hts := atoms_spec (ws := vc_X10_isEndless) B.pre
  have hown : s.vm.findClass RX10 = some m.cls := findClass_of_methodNamed B.named
  have hlocks := B.notSynchronized
  subst hsz
  have hD := hD0.self (sz := s.heap.size)
  generalize hAe : va_A ws s.heap.size = A at hD ⊢
  have hA : ∀ q : Nat, s.heap.size ≤ q → A q := fun q h => by rw [← hAe]; exact Or.inr h
  clear hAe hD0
  refine gstart (fun H locs hHe hLe => ?_)
  have hS : va_S A s.heap H locs := by rw [← hHe, ← hLe]; exact va_S.rf
  replace hP : va_P (dC, dI) vwCl ws H := by rw [← hHe]; exact hP
  clear hHe hLe
  have hl := lv_entry ([.int a0]) (n := 1) (Nat.le_of_ble_eq_true rfl)
  rw [lg_entry_eq]
  generalize (lg_sl ([.int a0]) ++ List.replicate (1 - (lg_sl ([.int a0])).length) Slot.unset).toArray = ls at hl ⊢
  replace hl : lv_has ls 1 [(0, .int a0)] := hl
  unfold zf_X10_isEndless at h
  have J14 : ∀ (w0_14 : Bool) (H : Heap) (locs : List Loc) (ls : Array Slot), zb_X10_isEndless_14 w0_14 = o → va_P (dC, dI) vwCl ws H → va_D A ws → va_S A s.heap H locs → lv_has ls 1 [] → W p l e (headSpec vc_X10_isEndless { frames := 0, cells := 0, slots := 0, locals := 0 }).room s m (List.toArray (α := Value) [.int a0]) below meth c H locs 0 0 (MQ below (va_Qi (fun (r : Int32) (_ : Unit) => r = b2i o) (gB (dC, dI) A (fun (_ : Unit) => ws)) A) (List.toArray (α := Value) [.int a0]) s 0 0 A) (F0 m 14 ls [.int (b2i w0_14)]) := by
    intro w0_14 H locs ls h hP hD hS hl
    unfold zb_X10_isEndless_14 at h
    have h9 := h
    exact wretz hx hb hr hlocks (b2i_or _) hP hD hS (by show _ = _; rw [← h9]; first | done | rfl) rfl dX10_isEndless_14
  refine lv_iload_n hx hb dX10_isEndless_0 rfl (lv_at hl 0 rfl) ?_
  refine lv_ldc (v := 2147483647) hx hb hown (hts (.constant RX10 124 (2147483647)) (List.mem_of_getElem? (i := 1) rfl)) dX10_isEndless_1 ?_
  refine lv_iand hx hb dX10_isEndless_3 ?_
  refine lv_ldc (v := 2139095040) hx hb hown (hts (.constant RX10 122 (2139095040)) (List.mem_of_getElem? (i := 2) rfl)) dX10_isEndless_4 ?_
  refine lv_icmp_ne (tgt := 13) hx hb dX10_isEndless_6 (by decide) (fun c1 => ?_) (fun c1 => ?_)
  · replace h := ifn (c1) h
    refine lv_iconst (v := 0) hx hb dX10_isEndless_13 (by decide) ?_
    exact J14 false H locs ls h hP hD hS (lv_sub (l' := []) hl [] rfl)
  · replace h := ifp (c1) h
    refine lv_iconst (v := 1) hx hb dX10_isEndless_9 (by decide) ?_
    refine lv_goto (tgt := 14) hx hb dX10_isEndless_10 (by decide) ?_
    exact J14 true H locs ls h hP hD hS (lv_sub (l' := []) hl [] rfl)
def zb_X10_powerOf_18 (w0_18 : Int32) : Int32 := (w0_18 - (150 : Int32))
def zf_X10_powerOf (a0 : Int32) : Int32 := letb ((a0 >>> ((23 : Int32) &&& 31)) &&& (255 : Int32)) (fun e1 => (if e1 = 0 then (zb_X10_powerOf_18 (1 : Int32)) else (zb_X10_powerOf_18 e1)))
def oc_X10_powerOf : List Cond := []
def vc_X10_powerOf : List Cond := .code yX10_powerOf cX10_powerOf 2 (some .int) :: (oc_X10_powerOf)
theorem gd_c_X10_powerOf : (vc_X10_powerOf).all goodWord = true := gall_cons rfl (by decide +kernel)
set_option maxHeartbeats 4000000 in
set_option maxRecDepth 100000 in
theorem c_X10_powerOf (l : Launch) (dC : Nat → ClassId) (dI : Nat → Nat → Nat) (cI cT cS : ClassId) (sz : Nat) (ws : va_W) (a0 : Int32) (o : Int32) (h : zf_X10_powerOf a0 = o) : gCI (S := Unit) l yX10_powerOf vc_X10_powerOf { frames := 0, cells := 0, slots := 0, locals := 0 } (dC, dI) (gTY cI cT cS) sz [.int a0] ws (fun (r : Int32) (_ : Unit) => r = o) (fun (_ : Unit) => ws) 0 0 := by
  refine Met.ofW (cc := cX10_powerOf) (maxL := 2) (ret := (some .int)) (by decide) rfl ?_
  intro p e s m args below meth c s₁ B hml hv
  obtain ⟨rfl, hsz, hP, hK, hD0⟩ := hv
  have hx := B.exec
  have hb := B.bytes
  have hr := B.returns
  have hts := atoms_spec (ws := vc_X10_powerOf) B.pre
  have hown : s.vm.findClass RX10 = some m.cls := findClass_of_methodNamed B.named
  have hlocks := B.notSynchronized
  subst hsz
  have hD := hD0.self (sz := s.heap.size)
  generalize hAe : va_A ws s.heap.size = A at hD ⊢
  have hA : ∀ q : Nat, s.heap.size ≤ q → A q := fun q h => by rw [← hAe]; exact Or.inr h
  clear hAe hD0
  refine gstart (fun H locs hHe hLe => ?_)
  have hS : va_S A s.heap H locs := by rw [← hHe, ← hLe]; exact va_S.rf
  replace hP : va_P (dC, dI) vwCl ws H := by rw [← hHe]; exact hP
  clear hHe hLe
  have hl := lv_entry ([.int a0]) (n := 2) (Nat.le_of_ble_eq_true rfl)
  rw [lg_entry_eq]
  generalize (lg_sl ([.int a0]) ++ List.replicate (2 - (lg_sl ([.int a0])).length) Slot.unset).toArray = ls at hl ⊢
  replace hl : lv_has ls 2 [(0, .int a0)] := hl
  unfold zf_X10_powerOf at h
  have J18 : ∀ (w0_18 : Int32) (H : Heap) (locs : List Loc) (ls : Array Slot), zb_X10_powerOf_18 w0_18 = o → va_P (dC, dI) vwCl ws H → va_D A ws → va_S A s.heap H locs → lv_has ls 2 [] → W p l e (headSpec vc_X10_powerOf { frames := 0, cells := 0, slots := 0, locals := 0 }).room s m (List.toArray (α := Value) [.int a0]) below meth c H locs 0 0 (MQ below (va_Qi (fun (r : Int32) (_ : Unit) => r = o) (gB (dC, dI) A (fun (_ : Unit) => ws)) A) (List.toArray (α := Value) [.int a0]) s 0 0 A) (F0 m 18 ls [.int w0_18]) := by
    intro w0_18 H locs ls h hP hD hS hl
    unfold zb_X10_powerOf_18 at h
    refine lv_sipush (v := 150) hx hb dX10_powerOf_18 (by decide) ?_
    refine lv_isub hx hb dX10_powerOf_21 ?_
    have h9 := h
    exact wreti hx hb hr hlocks hP hD hS (by show _ = _; rw [← h9]; first | done | rfl) rfl dX10_powerOf_22
  refine lv_iload_n hx hb dX10_powerOf_0 rfl (lv_at hl 0 rfl) ?_
  refine lv_bipush (v := 23) hx hb dX10_powerOf_1 (by decide) ?_
  refine lv_ishr hx hb dX10_powerOf_3 ?_
  refine lv_sipush (v := 255) hx hb dX10_powerOf_4 (by decide) ?_
  refine lv_iand hx hb dX10_powerOf_7 ?_
  obtain ⟨e1, he1, h⟩ := letb_inv h
  refine lv_nm he1 ?_
  refine lv_istore_n (lv' := [(1, .int e1), (0, .int a0)]) hx hb dX10_powerOf_8 rfl hl (by decide) rfl (fun ls hl => ?_)
  refine lv_iload_n hx hb dX10_powerOf_9 rfl (lv_at hl 0 rfl) ?_
  refine lv_if_ne (tgt := 17) hx hb dX10_powerOf_10 (by decide) (fun c2 => ?_) (fun c2 => ?_)
  · replace h := ifn (c2) h
    refine lv_iload_n hx hb dX10_powerOf_17 rfl (lv_at hl 0 rfl) ?_
    exact J18 e1 H locs ls h hP hD hS (lv_sub (l' := []) hl [] rfl)
  · replace h := ifp (c2) h
    refine lv_iconst (v := 1) hx hb dX10_powerOf_13 (by decide) ?_
    refine lv_goto (tgt := 18) hx hb dX10_powerOf_14 (by decide) ?_
    exact J18 (1 : Int32) H locs ls h hP hD hS (lv_sub (l' := []) hl [] rfl)
def zb_X10_placesOf_29 (w0_29 : Int64) : Int64 := w0_29
def zf_X10_placesOf (a0 : Int32) : Int64 := letb ((a0 >>> ((23 : Int32) &&& 31)) &&& (255 : Int32)) (fun e1 => (if e1 = 0 then (zb_X10_placesOf_29 ((a0 &&& (8388607 : Int32)).toInt64)) else (zb_X10_placesOf_29 (((a0 &&& (8388607 : Int32)) ||| (8388608 : Int32)).toInt64))))
def oc_X10_placesOf : List Cond := [.constant RX10 123 (8388607), .constant RX10 125 (8388608)]
def vc_X10_placesOf : List Cond := .code yX10_placesOf cX10_placesOf 2 (some .long) :: (oc_X10_placesOf)
theorem gd_c_X10_placesOf : (vc_X10_placesOf).all goodWord = true := gall_cons rfl (by decide +kernel)
set_option maxHeartbeats 4000000 in
set_option maxRecDepth 100000 in
theorem c_X10_placesOf (l : Launch) (dC : Nat → ClassId) (dI : Nat → Nat → Nat) (cI cT cS : ClassId) (sz : Nat) (ws : va_W) (a0 : Int32) (o : Int64) (h : zf_X10_placesOf a0 = o) : gCL (S := Unit) l yX10_placesOf vc_X10_placesOf { frames := 0, cells := 0, slots := 0, locals := 0 } (dC, dI) (gTY cI cT cS) sz [.int a0] ws (fun (r : Int64) (_ : Unit) => r = o) (fun (_ : Unit) => ws) 0 0 := by
  refine Met.ofW (cc := cX10_placesOf) (maxL := 2) (ret := (some .long)) (by decide) rfl ?_
  intro p e s m args below meth c s₁ B hml hv
  obtain ⟨rfl, hsz, hP, hK, hD0⟩ := hv
  have hx := B.exec
  have hb := B.bytes
  have hr := B.returns
  have hts := atoms_spec (ws := vc_X10_placesOf) B.pre
  have hown : s.vm.findClass RX10 = some m.cls := findClass_of_methodNamed B.named
  have hlocks := B.notSynchronized
  subst hsz
  have hD := hD0.self (sz := s.heap.size)
  generalize hAe : va_A ws s.heap.size = A at hD ⊢
  have hA : ∀ q : Nat, s.heap.size ≤ q → A q := fun q h => by rw [← hAe]; exact Or.inr h
  clear hAe hD0
  refine gstart (fun H locs hHe hLe => ?_)
  have hS : va_S A s.heap H locs := by rw [← hHe, ← hLe]; exact va_S.rf
  replace hP : va_P (dC, dI) vwCl ws H := by rw [← hHe]; exact hP
  clear hHe hLe
  have hl := lv_entry ([.int a0]) (n := 2) (Nat.le_of_ble_eq_true rfl)
  rw [lg_entry_eq]
  generalize (lg_sl ([.int a0]) ++ List.replicate (2 - (lg_sl ([.int a0])).length) Slot.unset).toArray = ls at hl ⊢
  replace hl : lv_has ls 2 [(0, .int a0)] := hl
  unfold zf_X10_placesOf at h
  have J29 : ∀ (w0_29 : Int64) (H : Heap) (locs : List Loc) (ls : Array Slot), zb_X10_placesOf_29 w0_29 = o → va_P (dC, dI) vwCl ws H → va_D A ws → va_S A s.heap H locs → lv_has ls 2 [] → W p l e (headSpec vc_X10_placesOf { frames := 0, cells := 0, slots := 0, locals := 0 }).room s m (List.toArray (α := Value) [.int a0]) below meth c H locs 0 0 (MQ below (va_Ql (fun (r : Int64) (_ : Unit) => r = o) (gB (dC, dI) A (fun (_ : Unit) => ws)) A) (List.toArray (α := Value) [.int a0]) s 0 0 A) (F0 m 29 ls [.long w0_29]) := by
    intro w0_29 H locs ls h hP hD hS hl
    unfold zb_X10_placesOf_29 at h
    have h9 := h
    exact wretl hx hb hr hlocks hP hD hS (by show _ = _; rw [← h9]; first | done | rfl) rfl dX10_placesOf_29
  refine lv_iload_n hx hb dX10_placesOf_0 rfl (lv_at hl 0 rfl) ?_
  refine lv_bipush (v := 23) hx hb dX10_placesOf_1 (by decide) ?_
  refine lv_ishr hx hb dX10_placesOf_3 ?_
  refine lv_sipush (v := 255) hx hb dX10_placesOf_4 (by decide) ?_
  refine lv_iand hx hb dX10_placesOf_7 ?_
  obtain ⟨e1, he1, h⟩ := letb_inv h
  refine lv_nm he1 ?_
  refine lv_istore_n (lv' := [(1, .int e1), (0, .int a0)]) hx hb dX10_placesOf_8 rfl hl (by decide) rfl (fun ls hl => ?_)
  refine lv_iload_n hx hb dX10_placesOf_9 rfl (lv_at hl 0 rfl) ?_
  refine lv_if_ne (tgt := 21) hx hb dX10_placesOf_10 (by decide) (fun c2 => ?_) (fun c2 => ?_)
  · replace h := ifn (c2) h
    refine lv_iload_n hx hb dX10_placesOf_21 rfl (lv_at hl 1 rfl) ?_
    refine lv_ldc (v := 8388607) hx hb hown (hts (.constant RX10 123 (8388607)) (List.mem_of_getElem? (i := 1) rfl)) dX10_placesOf_22 ?_
    refine lv_iand hx hb dX10_placesOf_24 ?_
    refine lv_ldc (v := 8388608) hx hb hown (hts (.constant RX10 125 (8388608)) (List.mem_of_getElem? (i := 2) rfl)) dX10_placesOf_25 ?_
    refine lv_ior hx hb dX10_placesOf_27 ?_
    refine lv_i2l hx hb dX10_placesOf_28 rfl ?_
    exact J29 (((a0 &&& (8388607 : Int32)) ||| (8388608 : Int32)).toInt64) H locs ls h hP hD hS (lv_sub (l' := []) hl [] rfl)
  · replace h := ifp (c2) h
    refine lv_iload_n hx hb dX10_placesOf_13 rfl (lv_at hl 1 rfl) ?_
    refine lv_ldc (v := 8388607) hx hb hown (hts (.constant RX10 123 (8388607)) (List.mem_of_getElem? (i := 1) rfl)) dX10_placesOf_14 ?_
    refine lv_iand hx hb dX10_placesOf_16 ?_
    refine lv_i2l hx hb dX10_placesOf_17 rfl ?_
    refine lv_goto (tgt := 29) hx hb dX10_placesOf_18 (by decide) ?_
    exact J29 ((a0 &&& (8388607 : Int32)).toInt64) H locs ls h hP hD hS (lv_sub (l' := []) hl [] rfl)
def zb_X10_plus_190 (w0_190 : Int32) : Option (Int32) := some w0_190
def zb_X10_plus_218 (v2_218 : Int32) (w0_218 : Int64) (w1_218 : Bool) : Option (Int32) := obd (zf_X10_nearest w1_218 w0_218 ((zf_X10_powerOf v2_218) - (36 : Int32))) (fun r36 => some r36)
def zb_X10_plus_189  : Option (Int32) := (zb_X10_plus_190 (0 : Int32))
def zb_X10_plus_203 (v9_203 : Int64) (v2_203 : Int32) (w0_203 : Bool) : Option (Int32) := (if (0 : Int64) ≤ v9_203 then (zb_X10_plus_218 v2_203 v9_203 w0_203) else (zb_X10_plus_218 v2_203 (-v9_203) w0_203))
def zb_X10_plus_166 (v3_166 : Int32) (v2_166 : Int32) (w0_166 : Int64) (w1_166 : Int64) : Option (Int32) := letb (w1_166 + w0_166) (fun e29 => (if e29 = (0 : Int64) then (if 0 ≤ v2_166 then zb_X10_plus_189 else (if 0 ≤ v3_166 then zb_X10_plus_189 else (zb_X10_plus_190 (-2147483648 : Int32)))) else (if (0 : Int64) ≤ e29 then (zb_X10_plus_203 e29 v2_166 false) else (zb_X10_plus_203 e29 v2_166 true))))
def zb_X10_plus_154 (v7_154 : Int64) (v3_154 : Int32) (v2_154 : Int32) (w0_154 : Int64) : Option (Int32) := (if 0 ≤ v3_154 then (zb_X10_plus_166 v3_154 v2_154 v7_154 w0_154) else (zb_X10_plus_166 v3_154 v2_154 (-v7_154) w0_154))
def zb_X10_plus_140 (v5_140 : Int64) (v3_140 : Int32) (v2_140 : Int32) (w0_140 : Int64) : Option (Int32) := (if 0 ≤ v2_140 then (zb_X10_plus_154 w0_140 v3_140 v2_140 v5_140) else (zb_X10_plus_154 w0_140 v3_140 v2_140 (-v5_140)))
def zb_X10_plus_42 (w0_42 : Int32) : Option (Int32) := some w0_42
def zb_X10_plus_85 (v2_85 : Int32) (w0_85 : Int32) : Option (Int32) := letb ((zf_X10_powerOf v2_85) - (zf_X10_powerOf w0_85)) (fun e20 => letb ((zf_X10_placesOf v2_85) <<< ((36 : Int32).toInt64 &&& 63)) (fun e22 => (if (36 : Int32) < e20 then (if (zf_X10_placesOf w0_85) = (0 : Int64) then (zb_X10_plus_140 e22 w0_85 v2_85 (0 : Int64)) else (zb_X10_plus_140 e22 w0_85 v2_85 (1 : Int64))) else (zb_X10_plus_140 e22 w0_85 v2_85 ((zf_X10_placesOf w0_85) <<< (((36 : Int32) - e20).toInt64 &&& 63))))))
def zb_X10_plus_14  : Option (Int32) := some (2143289344 : Int32)
def zb_X10_plus_41 (a0 : Int32) : Option (Int32) := (zb_X10_plus_42 a0)
def zb_X10_plus_68 (a0 : Int32) (a1 : Int32) (w0_68 : Int32) : Option (Int32) := (if (zf_X10_powerOf a0) < (zf_X10_powerOf a1) then (zb_X10_plus_85 w0_68 a0) else (zb_X10_plus_85 w0_68 a1))
def zf_X10_plus (a0 : Int32) (a1 : Int32) : Option (Int32) := (if (zf_X10_isNan a0) = true then zb_X10_plus_14 else (if (zf_X10_isNan a1) = true then zb_X10_plus_14 else (if (zf_X10_isEndless a0) = true then (if (zf_X10_isEndless a1) = true then (if a0 = a1 then (zb_X10_plus_41 a0) else (zb_X10_plus_42 (2143289344 : Int32))) else (zb_X10_plus_41 a0)) else (if (zf_X10_isEndless a1) = true then some a1 else (if (zf_X10_powerOf a0) < (zf_X10_powerOf a1) then (zb_X10_plus_68 a0 a1 a1) else (zb_X10_plus_68 a0 a1 a0))))))
def oc_X10_plus : List Cond := [.methodLink RX10 126 yX10_isNan, .static yX10_isNan, .initialized RX10, .methodLink RX10 130 yX10_isEndless, .static yX10_isEndless, .methodLink RX10 133 yX10_powerOf, .static yX10_powerOf, .constant RX10 129 (2143289344), .methodLink RX10 136 yX10_placesOf, .static yX10_placesOf, .constant RX10 113 (-2147483648), .methodLink RX10 140 yX10_nearest, .static yX10_nearest]
def vc_X10_plus : List Cond := .code yX10_plus cX10_plus 11 (some .int) :: (oc_X10_plus ++ (vc_X10_isNan ++ (vc_X10_isEndless ++ (vc_X10_powerOf ++ (vc_X10_placesOf ++ (vc_X10_nearest))))))
theorem ic_X10_plus_c_X10_isNan : ∀ w ∈ vc_X10_isNan, w ∈ vc_X10_plus := fun _ h => List.mem_cons_of_mem _ (List.mem_append_right _ (List.mem_append_left _ h))
theorem ic_X10_plus_c_X10_isEndless : ∀ w ∈ vc_X10_isEndless, w ∈ vc_X10_plus := fun _ h => List.mem_cons_of_mem _ (List.mem_append_right _ (List.mem_append_right _ (List.mem_append_left _ h)))
theorem ic_X10_plus_c_X10_powerOf : ∀ w ∈ vc_X10_powerOf, w ∈ vc_X10_plus := fun _ h => List.mem_cons_of_mem _ (List.mem_append_right _ (List.mem_append_right _ (List.mem_append_right _ (List.mem_append_left _ h))))
theorem ic_X10_plus_c_X10_placesOf : ∀ w ∈ vc_X10_placesOf, w ∈ vc_X10_plus := fun _ h => List.mem_cons_of_mem _ (List.mem_append_right _ (List.mem_append_right _ (List.mem_append_right _ (List.mem_append_right _ (List.mem_append_left _ h)))))
theorem ic_X10_plus_c_X10_nearest : ∀ w ∈ vc_X10_nearest, w ∈ vc_X10_plus := fun _ h => List.mem_cons_of_mem _ (List.mem_append_right _ (List.mem_append_right _ (List.mem_append_right _ (List.mem_append_right _ (List.mem_append_right _ (h))))))
theorem gd_c_X10_plus : (vc_X10_plus).all goodWord = true := gall_cons rfl (gall_app (by decide +kernel) (gall_app gd_c_X10_isNan (gall_app gd_c_X10_isEndless (gall_app gd_c_X10_powerOf (gall_app gd_c_X10_placesOf gd_c_X10_nearest)))))
set_option maxHeartbeats 4000000 in
set_option maxRecDepth 100000 in
theorem c_X10_plus (l : Launch) (dC : Nat → ClassId) (dI : Nat → Nat → Nat) (cI cT cS : ClassId) (sz : Nat) (ws : va_W) (a0 : Int32) (a1 : Int32) (o : Int32) (h : zf_X10_plus a0 a1 = some o) : gCI (S := Unit) l yX10_plus vc_X10_plus { frames := 2, cells := 0, slots := 0, locals := 59 } (dC, dI) (gTY cI cT cS) sz [.int a0, .int a1] ws (fun (r : Int32) (_ : Unit) => r = o) (fun (_ : Unit) => ws) 0 0 := by
  refine Met.ofW (cc := cX10_plus) (maxL := 11) (ret := (some .int)) (by decide) rfl ?_
  intro p e s m args below meth c s₁ B hml hv
  obtain ⟨rfl, hsz, hP, hK, hD0⟩ := hv
  have hx := B.exec
  have hb := B.bytes
  have hr := B.returns
  have hts := atoms_spec (ws := vc_X10_plus) B.pre
  have hown : s.vm.findClass RX10 = some m.cls := findClass_of_methodNamed B.named
  have hlocks := B.notSynchronized
  subst hsz
  have hD := hD0.self (sz := s.heap.size)
  generalize hAe : va_A ws s.heap.size = A at hD ⊢
  have hA : ∀ q : Nat, s.heap.size ≤ q → A q := fun q h => by rw [← hAe]; exact Or.inr h
  clear hAe hD0
  refine gstart (fun H locs hHe hLe => ?_)
  have hS : va_S A s.heap H locs := by rw [← hHe, ← hLe]; exact va_S.rf
  replace hP : va_P (dC, dI) vwCl ws H := by rw [← hHe]; exact hP
  clear hHe hLe
  have hl := lv_entry ([.int a0, .int a1]) (n := 11) (Nat.le_of_ble_eq_true rfl)
  rw [lg_entry_eq]
  generalize (lg_sl ([.int a0, .int a1]) ++ List.replicate (11 - (lg_sl ([.int a0, .int a1])).length) Slot.unset).toArray = ls at hl ⊢
  replace hl : lv_has ls 11 [(0, .int a0), (1, .int a1)] := hl
  unfold zf_X10_plus at h
  have J190 : ∀ (w0_190 : Int32) (H : Heap) (locs : List Loc) (ls : Array Slot), zb_X10_plus_190 w0_190 = some o → va_P (dC, dI) vwCl ws H → va_D A ws → va_S A s.heap H locs → lv_has ls 11 [] → W p l e (headSpec vc_X10_plus { frames := 2, cells := 0, slots := 0, locals := 59 }).room s m (List.toArray (α := Value) [.int a0, .int a1]) below meth c H locs 0 0 (MQ below (va_Qi (fun (r : Int32) (_ : Unit) => r = o) (gB (dC, dI) A (fun (_ : Unit) => ws)) A) (List.toArray (α := Value) [.int a0, .int a1]) s 0 0 A) (F0 m 190 ls [.int w0_190]) := by
    intro w0_190 H locs ls h hP hD hS hl
    unfold zb_X10_plus_190 at h
    have h9 := Option.some.inj h
    exact wreti hx hb hr hlocks hP hD hS (by show _ = _; rw [← h9]; first | done | rfl) rfl dX10_plus_190
  have J218 : ∀ (v2_218 : Int32) (w0_218 : Int64) (w1_218 : Bool) (H : Heap) (locs : List Loc) (ls : Array Slot), zb_X10_plus_218 v2_218 w0_218 w1_218 = some o → va_P (dC, dI) vwCl ws H → va_D A ws → va_S A s.heap H locs → lv_has ls 11 [(2, .int v2_218)] → W p l e (headSpec vc_X10_plus { frames := 2, cells := 0, slots := 0, locals := 59 }).room s m (List.toArray (α := Value) [.int a0, .int a1]) below meth c H locs 0 0 (MQ below (va_Qi (fun (r : Int32) (_ : Unit) => r = o) (gB (dC, dI) A (fun (_ : Unit) => ws)) A) (List.toArray (α := Value) [.int a0, .int a1]) s 0 0 A) (F0 m 218 ls [.long w0_218, .int (b2i w1_218)]) := by
    intro v2_218 w0_218 w1_218 H locs ls h hP hD hS hl
    unfold zb_X10_plus_218 at h
    refine lv_iload_n hx hb dX10_plus_218 rfl (lv_at hl 0 rfl) ?_
    refine wcalli (S := Unit) (va_runS (As := [.int v2_218]) (rest := [.long w0_218, .int (b2i w1_218)]) ⟨hx, hb, hml, hown, hts⟩ (c_X10_powerOf l dC dI cI cT cS H.size ws  v2_218 _ rfl) (va_cwS 1 hts (gWS (List.mem_of_getElem? (i := 6) rfl) (List.mem_of_getElem? (i := 7) rfl) (List.mem_of_getElem? (i := 3) rfl) ic_X10_plus_c_X10_powerOf gd_c_X10_powerOf) rfl rfl rfl (by decide +kernel) ⟨(Nat.le_of_ble_eq_true rfl), (Nat.le_of_ble_eq_true rfl)⟩) (gpS hP hK hD) rfl rfl hl.1 rfl (lv_room (Nat.le_of_ble_eq_true rfl)) dX10_plus_219 ⟨(Nat.le_of_ble_eq_true rfl), (Nat.le_of_ble_eq_true rfl)⟩) hP hD hS hA (fun rr35 _ H locs hr35 hP hD hS => ?_)
    refine lv_nm (y := (zf_X10_powerOf v2_218)) hr35 ?_
    refine lv_bipush (v := 36) hx hb dX10_plus_222 (by decide) ?_
    refine lv_isub hx hb dX10_plus_224 ?_
    obtain ⟨r36, hc36, h⟩ := obd_inv h
    refine wcalli (S := Unit) (va_runS (As := [.int (b2i w1_218), .long w0_218, .int ((zf_X10_powerOf v2_218) - (36 : Int32))]) (rest := []) ⟨hx, hb, hml, hown, hts⟩ (c_X10_nearest l dC dI cI cT cS H.size ws  w1_218 w0_218 ((zf_X10_powerOf v2_218) - (36 : Int32)) _ hc36) (va_cwS 3 hts (gWS (List.mem_of_getElem? (i := 12) rfl) (List.mem_of_getElem? (i := 13) rfl) (List.mem_of_getElem? (i := 3) rfl) ic_X10_plus_c_X10_nearest gd_c_X10_nearest) rfl rfl rfl (by decide +kernel) ⟨(Nat.le_of_ble_eq_true rfl), (Nat.le_of_ble_eq_true rfl)⟩) (gpS hP hK hD) rfl rfl hl.1 rfl (lv_room (Nat.le_of_ble_eq_true rfl)) dX10_plus_225 ⟨(Nat.le_of_ble_eq_true rfl), (Nat.le_of_ble_eq_true rfl)⟩) hP hD hS hA (fun rr37 _ H locs hr37 hP hD hS => ?_)
    refine lv_nm (y := r36) hr37 ?_
    have h9 := Option.some.inj h
    exact wreti hx hb hr hlocks hP hD hS (by show _ = _; rw [← h9]; first | done | rfl) rfl dX10_plus_228
  have J189 : ∀  (H : Heap) (locs : List Loc) (ls : Array Slot), zb_X10_plus_189 = some o → va_P (dC, dI) vwCl ws H → va_D A ws → va_S A s.heap H locs → lv_has ls 11 [] → W p l e (headSpec vc_X10_plus { frames := 2, cells := 0, slots := 0, locals := 59 }).room s m (List.toArray (α := Value) [.int a0, .int a1]) below meth c H locs 0 0 (MQ below (va_Qi (fun (r : Int32) (_ : Unit) => r = o) (gB (dC, dI) A (fun (_ : Unit) => ws)) A) (List.toArray (α := Value) [.int a0, .int a1]) s 0 0 A) (F0 m 189 ls []) := by
    intro  H locs ls h hP hD hS hl
    unfold zb_X10_plus_189 at h
    refine lv_iconst (v := 0) hx hb dX10_plus_189 (by decide) ?_
    exact J190 (0 : Int32) H locs ls h hP hD hS (lv_sub (l' := []) hl [] rfl)
  have J203 : ∀ (v9_203 : Int64) (v2_203 : Int32) (w0_203 : Bool) (H : Heap) (locs : List Loc) (ls : Array Slot), zb_X10_plus_203 v9_203 v2_203 w0_203 = some o → va_P (dC, dI) vwCl ws H → va_D A ws → va_S A s.heap H locs → lv_has ls 11 [(9, .long v9_203), (2, .int v2_203)] → W p l e (headSpec vc_X10_plus { frames := 2, cells := 0, slots := 0, locals := 59 }).room s m (List.toArray (α := Value) [.int a0, .int a1]) below meth c H locs 0 0 (MQ below (va_Qi (fun (r : Int32) (_ : Unit) => r = o) (gB (dC, dI) A (fun (_ : Unit) => ws)) A) (List.toArray (α := Value) [.int a0, .int a1]) s 0 0 A) (F0 m 203 ls [.int (b2i w0_203)]) := by
    intro v9_203 v2_203 w0_203 H locs ls h hP hD hS hl
    unfold zb_X10_plus_203 at h
    refine lv_lload hx hb dX10_plus_203 (lv_at hl 0 rfl) ?_
    refine lv_lconst (v := 0) hx hb dX10_plus_205 (by decide) ?_
    refine W.lcmp hx hb dX10_plus_206 ?_
    refine lv_if_ge (tgt := 216) hx hb dX10_plus_207 (by decide) (fun c34 => ?_) (fun c34 => ?_)
    · replace h := ifp (g_c_ge.mp c34) h
      refine lv_lload hx hb dX10_plus_216 (lv_at hl 0 rfl) ?_
      exact J218 v2_203 v9_203 w0_203 H locs ls h hP hD hS (lv_sub (l' := [(2, .int v2_203)]) hl [1] rfl)
    · replace h := ifn (fun q => c34 (g_c_ge.mpr q)) h
      refine lv_lload hx hb dX10_plus_210 (lv_at hl 0 rfl) ?_
      refine lv_lneg hx hb dX10_plus_212 ?_
      refine lv_goto (tgt := 218) hx hb dX10_plus_213 (by decide) ?_
      exact J218 v2_203 (-v9_203) w0_203 H locs ls h hP hD hS (lv_sub (l' := [(2, .int v2_203)]) hl [1] rfl)
  have J166 : ∀ (v3_166 : Int32) (v2_166 : Int32) (w0_166 : Int64) (w1_166 : Int64) (H : Heap) (locs : List Loc) (ls : Array Slot), zb_X10_plus_166 v3_166 v2_166 w0_166 w1_166 = some o → va_P (dC, dI) vwCl ws H → va_D A ws → va_S A s.heap H locs → lv_has ls 11 [(3, .int v3_166), (2, .int v2_166)] → W p l e (headSpec vc_X10_plus { frames := 2, cells := 0, slots := 0, locals := 59 }).room s m (List.toArray (α := Value) [.int a0, .int a1]) below meth c H locs 0 0 (MQ below (va_Qi (fun (r : Int32) (_ : Unit) => r = o) (gB (dC, dI) A (fun (_ : Unit) => ws)) A) (List.toArray (α := Value) [.int a0, .int a1]) s 0 0 A) (F0 m 166 ls [.long w0_166, .long w1_166]) := by
    intro v3_166 v2_166 w0_166 w1_166 H locs ls h hP hD hS hl
    unfold zb_X10_plus_166 at h
    refine lv_ladd hx hb dX10_plus_166 ?_
    obtain ⟨e29, he29, h⟩ := letb_inv h
    refine lv_nml he29 ?_
    refine lv_lstore (lv' := [(9, .long e29), (3, .int v3_166), (2, .int v2_166)]) hx hb dX10_plus_167 hl (by decide) rfl (fun ls hl => ?_)
    refine lv_lload hx hb dX10_plus_169 (lv_at hl 0 rfl) ?_
    refine lv_lconst (v := 0) hx hb dX10_plus_171 (by decide) ?_
    refine W.lcmp hx hb dX10_plus_172 ?_
    refine lv_if_ne (tgt := 191) hx hb dX10_plus_173 (by decide) (fun c30 => ?_) (fun c30 => ?_)
    · replace h := ifn (fun q => c30 (g_c_eq.mpr q)) h
      refine lv_lload hx hb dX10_plus_191 (lv_at hl 0 rfl) ?_
      refine lv_lconst (v := 0) hx hb dX10_plus_193 (by decide) ?_
      refine W.lcmp hx hb dX10_plus_194 ?_
      refine lv_if_ge (tgt := 202) hx hb dX10_plus_195 (by decide) (fun c31 => ?_) (fun c31 => ?_)
      · replace h := ifp (g_c_ge.mp c31) h
        refine lv_iconst (v := 0) hx hb dX10_plus_202 (by decide) ?_
        exact J203 e29 v2_166 false H locs ls h hP hD hS (lv_sub (l' := [(9, .long e29), (2, .int v2_166)]) hl [0, 2] rfl)
      · replace h := ifn (fun q => c31 (g_c_ge.mpr q)) h
        refine lv_iconst (v := 1) hx hb dX10_plus_198 (by decide) ?_
        refine lv_goto (tgt := 203) hx hb dX10_plus_199 (by decide) ?_
        exact J203 e29 v2_166 true H locs ls h hP hD hS (lv_sub (l' := [(9, .long e29), (2, .int v2_166)]) hl [0, 2] rfl)
    · replace h := ifp (g_c_eq.mp c30) h
      refine lv_iload_n hx hb dX10_plus_176 rfl (lv_at hl 2 rfl) ?_
      refine lv_if_ge (tgt := 189) hx hb dX10_plus_177 (by decide) (fun c32 => ?_) (fun c32 => ?_)
      · replace h := ifp (c32) h
        exact J189  H locs ls h hP hD hS (lv_sub (l' := []) hl [] rfl)
      · replace h := ifn (c32) h
        refine lv_iload_n hx hb dX10_plus_180 rfl (lv_at hl 1 rfl) ?_
        refine lv_if_ge (tgt := 189) hx hb dX10_plus_181 (by decide) (fun c33 => ?_) (fun c33 => ?_)
        · replace h := ifp (c33) h
          exact J189  H locs ls h hP hD hS (lv_sub (l' := []) hl [] rfl)
        · replace h := ifn (c33) h
          refine lv_ldc (v := (-2147483648)) hx hb hown (hts (.constant RX10 113 (-2147483648)) (List.mem_of_getElem? (i := 11) rfl)) dX10_plus_184 ?_
          refine lv_goto (tgt := 190) hx hb dX10_plus_186 (by decide) ?_
          exact J190 (-2147483648 : Int32) H locs ls h hP hD hS (lv_sub (l' := []) hl [] rfl)
  have J154 : ∀ (v7_154 : Int64) (v3_154 : Int32) (v2_154 : Int32) (w0_154 : Int64) (H : Heap) (locs : List Loc) (ls : Array Slot), zb_X10_plus_154 v7_154 v3_154 v2_154 w0_154 = some o → va_P (dC, dI) vwCl ws H → va_D A ws → va_S A s.heap H locs → lv_has ls 11 [(7, .long v7_154), (3, .int v3_154), (2, .int v2_154)] → W p l e (headSpec vc_X10_plus { frames := 2, cells := 0, slots := 0, locals := 59 }).room s m (List.toArray (α := Value) [.int a0, .int a1]) below meth c H locs 0 0 (MQ below (va_Qi (fun (r : Int32) (_ : Unit) => r = o) (gB (dC, dI) A (fun (_ : Unit) => ws)) A) (List.toArray (α := Value) [.int a0, .int a1]) s 0 0 A) (F0 m 154 ls [.long w0_154]) := by
    intro v7_154 v3_154 v2_154 w0_154 H locs ls h hP hD hS hl
    unfold zb_X10_plus_154 at h
    refine lv_iload_n hx hb dX10_plus_154 rfl (lv_at hl 1 rfl) ?_
    refine lv_if_ge (tgt := 164) hx hb dX10_plus_155 (by decide) (fun c28 => ?_) (fun c28 => ?_)
    · replace h := ifp (c28) h
      refine lv_lload hx hb dX10_plus_164 (lv_at hl 0 rfl) ?_
      exact J166 v3_154 v2_154 v7_154 w0_154 H locs ls h hP hD hS (lv_sub (l' := [(3, .int v3_154), (2, .int v2_154)]) hl [1, 2] rfl)
    · replace h := ifn (c28) h
      refine lv_lload hx hb dX10_plus_158 (lv_at hl 0 rfl) ?_
      refine lv_lneg hx hb dX10_plus_160 ?_
      refine lv_goto (tgt := 166) hx hb dX10_plus_161 (by decide) ?_
      exact J166 v3_154 v2_154 (-v7_154) w0_154 H locs ls h hP hD hS (lv_sub (l' := [(3, .int v3_154), (2, .int v2_154)]) hl [1, 2] rfl)
  have J140 : ∀ (v5_140 : Int64) (v3_140 : Int32) (v2_140 : Int32) (w0_140 : Int64) (H : Heap) (locs : List Loc) (ls : Array Slot), zb_X10_plus_140 v5_140 v3_140 v2_140 w0_140 = some o → va_P (dC, dI) vwCl ws H → va_D A ws → va_S A s.heap H locs → lv_has ls 11 [(5, .long v5_140), (3, .int v3_140), (2, .int v2_140)] → W p l e (headSpec vc_X10_plus { frames := 2, cells := 0, slots := 0, locals := 59 }).room s m (List.toArray (α := Value) [.int a0, .int a1]) below meth c H locs 0 0 (MQ below (va_Qi (fun (r : Int32) (_ : Unit) => r = o) (gB (dC, dI) A (fun (_ : Unit) => ws)) A) (List.toArray (α := Value) [.int a0, .int a1]) s 0 0 A) (F0 m 140 ls [.long w0_140]) := by
    intro v5_140 v3_140 v2_140 w0_140 H locs ls h hP hD hS hl
    unfold zb_X10_plus_140 at h
    refine lv_lstore (lv' := [(7, .long w0_140), (5, .long v5_140), (3, .int v3_140), (2, .int v2_140)]) hx hb dX10_plus_140 hl (by decide) rfl (fun ls hl => ?_)
    refine lv_iload_n hx hb dX10_plus_142 rfl (lv_at hl 3 rfl) ?_
    refine lv_if_ge (tgt := 152) hx hb dX10_plus_143 (by decide) (fun c27 => ?_) (fun c27 => ?_)
    · replace h := ifp (c27) h
      refine lv_lload hx hb dX10_plus_152 (lv_at hl 1 rfl) ?_
      exact J154 w0_140 v3_140 v2_140 v5_140 H locs ls h hP hD hS (lv_sub (l' := [(7, .long w0_140), (3, .int v3_140), (2, .int v2_140)]) hl [0, 2, 3] rfl)
    · replace h := ifn (c27) h
      refine lv_lload hx hb dX10_plus_146 (lv_at hl 1 rfl) ?_
      refine lv_lneg hx hb dX10_plus_148 ?_
      refine lv_goto (tgt := 154) hx hb dX10_plus_149 (by decide) ?_
      exact J154 w0_140 v3_140 v2_140 (-v5_140) H locs ls h hP hD hS (lv_sub (l' := [(7, .long w0_140), (3, .int v3_140), (2, .int v2_140)]) hl [0, 2, 3] rfl)
  have J42 : ∀ (w0_42 : Int32) (H : Heap) (locs : List Loc) (ls : Array Slot), zb_X10_plus_42 w0_42 = some o → va_P (dC, dI) vwCl ws H → va_D A ws → va_S A s.heap H locs → lv_has ls 11 [] → W p l e (headSpec vc_X10_plus { frames := 2, cells := 0, slots := 0, locals := 59 }).room s m (List.toArray (α := Value) [.int a0, .int a1]) below meth c H locs 0 0 (MQ below (va_Qi (fun (r : Int32) (_ : Unit) => r = o) (gB (dC, dI) A (fun (_ : Unit) => ws)) A) (List.toArray (α := Value) [.int a0, .int a1]) s 0 0 A) (F0 m 42 ls [.int w0_42]) := by
    intro w0_42 H locs ls h hP hD hS hl
    unfold zb_X10_plus_42 at h
    have h9 := Option.some.inj h
    exact wreti hx hb hr hlocks hP hD hS (by show _ = _; rw [← h9]; first | done | rfl) rfl dX10_plus_42
  have J85 : ∀ (v2_85 : Int32) (w0_85 : Int32) (H : Heap) (locs : List Loc) (ls : Array Slot), zb_X10_plus_85 v2_85 w0_85 = some o → va_P (dC, dI) vwCl ws H → va_D A ws → va_S A s.heap H locs → lv_has ls 11 [(2, .int v2_85)] → W p l e (headSpec vc_X10_plus { frames := 2, cells := 0, slots := 0, locals := 59 }).room s m (List.toArray (α := Value) [.int a0, .int a1]) below meth c H locs 0 0 (MQ below (va_Qi (fun (r : Int32) (_ : Unit) => r = o) (gB (dC, dI) A (fun (_ : Unit) => ws)) A) (List.toArray (α := Value) [.int a0, .int a1]) s 0 0 A) (F0 m 85 ls [.int w0_85]) := by
    intro v2_85 w0_85 H locs ls h hP hD hS hl
    unfold zb_X10_plus_85 at h
    refine lv_istore_n (lv' := [(3, .int w0_85), (2, .int v2_85)]) hx hb dX10_plus_85 rfl hl (by decide) rfl (fun ls hl => ?_)
    refine lv_iload_n hx hb dX10_plus_86 rfl (lv_at hl 1 rfl) ?_
    refine wcalli (S := Unit) (va_runS (As := [.int v2_85]) (rest := []) ⟨hx, hb, hml, hown, hts⟩ (c_X10_powerOf l dC dI cI cT cS H.size ws  v2_85 _ rfl) (va_cwS 1 hts (gWS (List.mem_of_getElem? (i := 6) rfl) (List.mem_of_getElem? (i := 7) rfl) (List.mem_of_getElem? (i := 3) rfl) ic_X10_plus_c_X10_powerOf gd_c_X10_powerOf) rfl rfl rfl (by decide +kernel) ⟨(Nat.le_of_ble_eq_true rfl), (Nat.le_of_ble_eq_true rfl)⟩) (gpS hP hK hD) rfl rfl hl.1 rfl (lv_room (Nat.le_of_ble_eq_true rfl)) dX10_plus_87 ⟨(Nat.le_of_ble_eq_true rfl), (Nat.le_of_ble_eq_true rfl)⟩) hP hD hS hA (fun rr18 _ H locs hr18 hP hD hS => ?_)
    refine lv_nm (y := (zf_X10_powerOf v2_85)) hr18 ?_
    refine lv_iload_n hx hb dX10_plus_90 rfl (lv_at hl 0 rfl) ?_
    refine wcalli (S := Unit) (va_runS (As := [.int w0_85]) (rest := [.int (zf_X10_powerOf v2_85)]) ⟨hx, hb, hml, hown, hts⟩ (c_X10_powerOf l dC dI cI cT cS H.size ws  w0_85 _ rfl) (va_cwS 1 hts (gWS (List.mem_of_getElem? (i := 6) rfl) (List.mem_of_getElem? (i := 7) rfl) (List.mem_of_getElem? (i := 3) rfl) ic_X10_plus_c_X10_powerOf gd_c_X10_powerOf) rfl rfl rfl (by decide +kernel) ⟨(Nat.le_of_ble_eq_true rfl), (Nat.le_of_ble_eq_true rfl)⟩) (gpS hP hK hD) rfl rfl hl.1 rfl (lv_room (Nat.le_of_ble_eq_true rfl)) dX10_plus_91 ⟨(Nat.le_of_ble_eq_true rfl), (Nat.le_of_ble_eq_true rfl)⟩) hP hD hS hA (fun rr19 _ H locs hr19 hP hD hS => ?_)
    refine lv_nm (y := (zf_X10_powerOf w0_85)) hr19 ?_
    refine lv_isub hx hb dX10_plus_94 ?_
    obtain ⟨e20, he20, h⟩ := letb_inv h
    refine lv_nm he20 ?_
    refine lv_istore (lv' := [(4, .int e20), (3, .int w0_85), (2, .int v2_85)]) hx hb dX10_plus_95 hl (by decide) rfl (fun ls hl => ?_)
    refine lv_iload_n hx hb dX10_plus_97 rfl (lv_at hl 2 rfl) ?_
    refine wcalll (S := Unit) (va_runS (As := [.int v2_85]) (rest := []) ⟨hx, hb, hml, hown, hts⟩ (c_X10_placesOf l dC dI cI cT cS H.size ws  v2_85 _ rfl) (va_cwS 1 hts (gWS (List.mem_of_getElem? (i := 9) rfl) (List.mem_of_getElem? (i := 10) rfl) (List.mem_of_getElem? (i := 3) rfl) ic_X10_plus_c_X10_placesOf gd_c_X10_placesOf) rfl rfl rfl (by decide +kernel) ⟨(Nat.le_of_ble_eq_true rfl), (Nat.le_of_ble_eq_true rfl)⟩) (gpS hP hK hD) rfl rfl hl.1 rfl (lv_room (Nat.le_of_ble_eq_true rfl)) dX10_plus_98 ⟨(Nat.le_of_ble_eq_true rfl), (Nat.le_of_ble_eq_true rfl)⟩) hP hD hS hA (fun rr21 _ H locs hr21 hP hD hS => ?_)
    refine lv_nml (y := (zf_X10_placesOf v2_85)) hr21 ?_
    refine lv_bipush (v := 36) hx hb dX10_plus_101 (by decide) ?_
    refine lv_lshl hx hb dX10_plus_103 rfl ?_
    obtain ⟨e22, he22, h⟩ := letb_inv h
    refine lv_nml he22 ?_
    refine lv_lstore (lv' := [(5, .long e22), (4, .int e20), (3, .int w0_85), (2, .int v2_85)]) hx hb dX10_plus_104 hl (by decide) rfl (fun ls hl => ?_)
    refine lv_iload hx hb dX10_plus_106 (lv_at hl 1 rfl) ?_
    refine lv_bipush (v := 36) hx hb dX10_plus_108 (by decide) ?_
    refine lv_icmp_gt (tgt := 126) hx hb dX10_plus_110 (by decide) (fun c23 => ?_) (fun c23 => ?_)
    · replace h := ifp (c23) h
      refine lv_iload_n hx hb dX10_plus_126 rfl (lv_at hl 2 rfl) ?_
      refine wcalll (S := Unit) (va_runS (As := [.int w0_85]) (rest := []) ⟨hx, hb, hml, hown, hts⟩ (c_X10_placesOf l dC dI cI cT cS H.size ws  w0_85 _ rfl) (va_cwS 1 hts (gWS (List.mem_of_getElem? (i := 9) rfl) (List.mem_of_getElem? (i := 10) rfl) (List.mem_of_getElem? (i := 3) rfl) ic_X10_plus_c_X10_placesOf gd_c_X10_placesOf) rfl rfl rfl (by decide +kernel) ⟨(Nat.le_of_ble_eq_true rfl), (Nat.le_of_ble_eq_true rfl)⟩) (gpS hP hK hD) rfl rfl hl.1 rfl (lv_room (Nat.le_of_ble_eq_true rfl)) dX10_plus_127 ⟨(Nat.le_of_ble_eq_true rfl), (Nat.le_of_ble_eq_true rfl)⟩) hP hD hS hA (fun rr24 _ H locs hr24 hP hD hS => ?_)
      refine lv_nml (y := (zf_X10_placesOf w0_85)) hr24 ?_
      refine lv_lconst (v := 0) hx hb dX10_plus_130 (by decide) ?_
      refine W.lcmp hx hb dX10_plus_131 ?_
      refine lv_if_ne (tgt := 139) hx hb dX10_plus_132 (by decide) (fun c25 => ?_) (fun c25 => ?_)
      · replace h := ifn (fun q => c25 (g_c_eq.mpr q)) h
        refine lv_lconst (v := 1) hx hb dX10_plus_139 (by decide) ?_
        exact J140 e22 w0_85 v2_85 (1 : Int64) H locs ls h hP hD hS (lv_sub (l' := [(5, .long e22), (3, .int w0_85), (2, .int v2_85)]) hl [0, 2, 3] rfl)
      · replace h := ifp (g_c_eq.mp c25) h
        refine lv_lconst (v := 0) hx hb dX10_plus_135 (by decide) ?_
        refine lv_goto (tgt := 140) hx hb dX10_plus_136 (by decide) ?_
        exact J140 e22 w0_85 v2_85 (0 : Int64) H locs ls h hP hD hS (lv_sub (l' := [(5, .long e22), (3, .int w0_85), (2, .int v2_85)]) hl [0, 2, 3] rfl)
    · replace h := ifn (c23) h
      refine lv_iload_n hx hb dX10_plus_113 rfl (lv_at hl 2 rfl) ?_
      refine wcalll (S := Unit) (va_runS (As := [.int w0_85]) (rest := []) ⟨hx, hb, hml, hown, hts⟩ (c_X10_placesOf l dC dI cI cT cS H.size ws  w0_85 _ rfl) (va_cwS 1 hts (gWS (List.mem_of_getElem? (i := 9) rfl) (List.mem_of_getElem? (i := 10) rfl) (List.mem_of_getElem? (i := 3) rfl) ic_X10_plus_c_X10_placesOf gd_c_X10_placesOf) rfl rfl rfl (by decide +kernel) ⟨(Nat.le_of_ble_eq_true rfl), (Nat.le_of_ble_eq_true rfl)⟩) (gpS hP hK hD) rfl rfl hl.1 rfl (lv_room (Nat.le_of_ble_eq_true rfl)) dX10_plus_114 ⟨(Nat.le_of_ble_eq_true rfl), (Nat.le_of_ble_eq_true rfl)⟩) hP hD hS hA (fun rr26 _ H locs hr26 hP hD hS => ?_)
      refine lv_nml (y := (zf_X10_placesOf w0_85)) hr26 ?_
      refine lv_bipush (v := 36) hx hb dX10_plus_117 (by decide) ?_
      refine lv_iload hx hb dX10_plus_119 (lv_at hl 1 rfl) ?_
      refine lv_isub hx hb dX10_plus_121 ?_
      refine lv_lshl hx hb dX10_plus_122 rfl ?_
      refine lv_goto (tgt := 140) hx hb dX10_plus_123 (by decide) ?_
      exact J140 e22 w0_85 v2_85 ((zf_X10_placesOf w0_85) <<< (((36 : Int32) - e20).toInt64 &&& 63)) H locs ls h hP hD hS (lv_sub (l' := [(5, .long e22), (3, .int w0_85), (2, .int v2_85)]) hl [0, 2, 3] rfl)
  have J14 : ∀  (H : Heap) (locs : List Loc) (ls : Array Slot), zb_X10_plus_14 = some o → va_P (dC, dI) vwCl ws H → va_D A ws → va_S A s.heap H locs → lv_has ls 11 [] → W p l e (headSpec vc_X10_plus { frames := 2, cells := 0, slots := 0, locals := 59 }).room s m (List.toArray (α := Value) [.int a0, .int a1]) below meth c H locs 0 0 (MQ below (va_Qi (fun (r : Int32) (_ : Unit) => r = o) (gB (dC, dI) A (fun (_ : Unit) => ws)) A) (List.toArray (α := Value) [.int a0, .int a1]) s 0 0 A) (F0 m 14 ls []) := by
    intro  H locs ls h hP hD hS hl
    unfold zb_X10_plus_14 at h
    refine lv_ldc (v := 2143289344) hx hb hown (hts (.constant RX10 129 (2143289344)) (List.mem_of_getElem? (i := 8) rfl)) dX10_plus_14 ?_
    have h9 := Option.some.inj h
    exact wreti hx hb hr hlocks hP hD hS (by show _ = _; rw [← h9]; first | done | rfl) rfl dX10_plus_16
  have J41 : ∀  (H : Heap) (locs : List Loc) (ls : Array Slot), zb_X10_plus_41 a0 = some o → va_P (dC, dI) vwCl ws H → va_D A ws → va_S A s.heap H locs → lv_has ls 11 [(0, .int a0)] → W p l e (headSpec vc_X10_plus { frames := 2, cells := 0, slots := 0, locals := 59 }).room s m (List.toArray (α := Value) [.int a0, .int a1]) below meth c H locs 0 0 (MQ below (va_Qi (fun (r : Int32) (_ : Unit) => r = o) (gB (dC, dI) A (fun (_ : Unit) => ws)) A) (List.toArray (α := Value) [.int a0, .int a1]) s 0 0 A) (F0 m 41 ls []) := by
    intro  H locs ls h hP hD hS hl
    unfold zb_X10_plus_41 at h
    refine lv_iload_n hx hb dX10_plus_41 rfl (lv_at hl 0 rfl) ?_
    exact J42 a0 H locs ls h hP hD hS (lv_sub (l' := []) hl [] rfl)
  have J68 : ∀ (w0_68 : Int32) (H : Heap) (locs : List Loc) (ls : Array Slot), zb_X10_plus_68 a0 a1 w0_68 = some o → va_P (dC, dI) vwCl ws H → va_D A ws → va_S A s.heap H locs → lv_has ls 11 [(0, .int a0), (1, .int a1)] → W p l e (headSpec vc_X10_plus { frames := 2, cells := 0, slots := 0, locals := 59 }).room s m (List.toArray (α := Value) [.int a0, .int a1]) below meth c H locs 0 0 (MQ below (va_Qi (fun (r : Int32) (_ : Unit) => r = o) (gB (dC, dI) A (fun (_ : Unit) => ws)) A) (List.toArray (α := Value) [.int a0, .int a1]) s 0 0 A) (F0 m 68 ls [.int w0_68]) := by
    intro w0_68 H locs ls h hP hD hS hl
    unfold zb_X10_plus_68 at h
    refine lv_istore_n (lv' := [(2, .int w0_68), (0, .int a0), (1, .int a1)]) hx hb dX10_plus_68 rfl hl (by decide) rfl (fun ls hl => ?_)
    refine lv_iload_n hx hb dX10_plus_69 rfl (lv_at hl 1 rfl) ?_
    refine wcalli (S := Unit) (va_runS (As := [.int a0]) (rest := []) ⟨hx, hb, hml, hown, hts⟩ (c_X10_powerOf l dC dI cI cT cS H.size ws  a0 _ rfl) (va_cwS 1 hts (gWS (List.mem_of_getElem? (i := 6) rfl) (List.mem_of_getElem? (i := 7) rfl) (List.mem_of_getElem? (i := 3) rfl) ic_X10_plus_c_X10_powerOf gd_c_X10_powerOf) rfl rfl rfl (by decide +kernel) ⟨(Nat.le_of_ble_eq_true rfl), (Nat.le_of_ble_eq_true rfl)⟩) (gpS hP hK hD) rfl rfl hl.1 rfl (lv_room (Nat.le_of_ble_eq_true rfl)) dX10_plus_70 ⟨(Nat.le_of_ble_eq_true rfl), (Nat.le_of_ble_eq_true rfl)⟩) hP hD hS hA (fun rr15 _ H locs hr15 hP hD hS => ?_)
    refine lv_nm (y := (zf_X10_powerOf a0)) hr15 ?_
    refine lv_iload_n hx hb dX10_plus_73 rfl (lv_at hl 2 rfl) ?_
    refine wcalli (S := Unit) (va_runS (As := [.int a1]) (rest := [.int (zf_X10_powerOf a0)]) ⟨hx, hb, hml, hown, hts⟩ (c_X10_powerOf l dC dI cI cT cS H.size ws  a1 _ rfl) (va_cwS 1 hts (gWS (List.mem_of_getElem? (i := 6) rfl) (List.mem_of_getElem? (i := 7) rfl) (List.mem_of_getElem? (i := 3) rfl) ic_X10_plus_c_X10_powerOf gd_c_X10_powerOf) rfl rfl rfl (by decide +kernel) ⟨(Nat.le_of_ble_eq_true rfl), (Nat.le_of_ble_eq_true rfl)⟩) (gpS hP hK hD) rfl rfl hl.1 rfl (lv_room (Nat.le_of_ble_eq_true rfl)) dX10_plus_74 ⟨(Nat.le_of_ble_eq_true rfl), (Nat.le_of_ble_eq_true rfl)⟩) hP hD hS hA (fun rr16 _ H locs hr16 hP hD hS => ?_)
    refine lv_nm (y := (zf_X10_powerOf a1)) hr16 ?_
    refine lv_icmp_lt (tgt := 84) hx hb dX10_plus_77 (by decide) (fun c17 => ?_) (fun c17 => ?_)
    · replace h := ifp (c17) h
      refine lv_iload_n hx hb dX10_plus_84 rfl (lv_at hl 1 rfl) ?_
      exact J85 w0_68 a0 H locs ls h hP hD hS (lv_sub (l' := [(2, .int w0_68)]) hl [0] rfl)
    · replace h := ifn (c17) h
      refine lv_iload_n hx hb dX10_plus_80 rfl (lv_at hl 2 rfl) ?_
      refine lv_goto (tgt := 85) hx hb dX10_plus_81 (by decide) ?_
      exact J85 w0_68 a1 H locs ls h hP hD hS (lv_sub (l' := [(2, .int w0_68)]) hl [0] rfl)
  refine lv_iload_n hx hb dX10_plus_0 rfl (lv_at hl 0 rfl) ?_
  refine wcalli (S := Unit) (va_runS (As := [.int a0]) (rest := []) ⟨hx, hb, hml, hown, hts⟩ (c_X10_isNan l dC dI cI cT cS H.size ws  a0 _ rfl) (va_cwS 1 hts (gWS (List.mem_of_getElem? (i := 1) rfl) (List.mem_of_getElem? (i := 2) rfl) (List.mem_of_getElem? (i := 3) rfl) ic_X10_plus_c_X10_isNan gd_c_X10_isNan) rfl rfl rfl (by decide +kernel) ⟨(Nat.le_of_ble_eq_true rfl), (Nat.le_of_ble_eq_true rfl)⟩) (gpS hP hK hD) rfl rfl hl.1 rfl (lv_room (Nat.le_of_ble_eq_true rfl)) dX10_plus_1 ⟨(Nat.le_of_ble_eq_true rfl), (Nat.le_of_ble_eq_true rfl)⟩) hP hD hS hA (fun rr1 _ H locs hr1 hP hD hS => ?_)
  refine lv_nm (y := b2i (zf_X10_isNan a0)) hr1 ?_
  refine lv_if_ne (tgt := 14) hx hb dX10_plus_4 (by decide) (fun c2 => ?_) (fun c2 => ?_)
  · replace h := ifp (b2i_1 c2) h
    exact J14  H locs ls h hP hD hS (lv_sub (l' := []) hl [] rfl)
  · replace h := ifn (b2i_0 c2) h
    refine lv_iload_n hx hb dX10_plus_7 rfl (lv_at hl 1 rfl) ?_
    refine wcalli (S := Unit) (va_runS (As := [.int a1]) (rest := []) ⟨hx, hb, hml, hown, hts⟩ (c_X10_isNan l dC dI cI cT cS H.size ws  a1 _ rfl) (va_cwS 1 hts (gWS (List.mem_of_getElem? (i := 1) rfl) (List.mem_of_getElem? (i := 2) rfl) (List.mem_of_getElem? (i := 3) rfl) ic_X10_plus_c_X10_isNan gd_c_X10_isNan) rfl rfl rfl (by decide +kernel) ⟨(Nat.le_of_ble_eq_true rfl), (Nat.le_of_ble_eq_true rfl)⟩) (gpS hP hK hD) rfl rfl hl.1 rfl (lv_room (Nat.le_of_ble_eq_true rfl)) dX10_plus_8 ⟨(Nat.le_of_ble_eq_true rfl), (Nat.le_of_ble_eq_true rfl)⟩) hP hD hS hA (fun rr3 _ H locs hr3 hP hD hS => ?_)
    refine lv_nm (y := b2i (zf_X10_isNan a1)) hr3 ?_
    refine lv_if_eq (tgt := 17) hx hb dX10_plus_11 (by decide) (fun c4 => ?_) (fun c4 => ?_)
    · replace h := ifn (b2i_0 c4) h
      refine lv_iload_n hx hb dX10_plus_17 rfl (lv_at hl 0 rfl) ?_
      refine wcalli (S := Unit) (va_runS (As := [.int a0]) (rest := []) ⟨hx, hb, hml, hown, hts⟩ (c_X10_isEndless l dC dI cI cT cS H.size ws  a0 _ rfl) (va_cwS 1 hts (gWS (List.mem_of_getElem? (i := 4) rfl) (List.mem_of_getElem? (i := 5) rfl) (List.mem_of_getElem? (i := 3) rfl) ic_X10_plus_c_X10_isEndless gd_c_X10_isEndless) rfl rfl rfl (by decide +kernel) ⟨(Nat.le_of_ble_eq_true rfl), (Nat.le_of_ble_eq_true rfl)⟩) (gpS hP hK hD) rfl rfl hl.1 rfl (lv_room (Nat.le_of_ble_eq_true rfl)) dX10_plus_18 ⟨(Nat.le_of_ble_eq_true rfl), (Nat.le_of_ble_eq_true rfl)⟩) hP hD hS hA (fun rr5 _ H locs hr5 hP hD hS => ?_)
      refine lv_nm (y := b2i (zf_X10_isEndless a0)) hr5 ?_
      refine lv_if_eq (tgt := 43) hx hb dX10_plus_21 (by decide) (fun c6 => ?_) (fun c6 => ?_)
      · replace h := ifn (b2i_0 c6) h
        refine lv_iload_n hx hb dX10_plus_43 rfl (lv_at hl 1 rfl) ?_
        refine wcalli (S := Unit) (va_runS (As := [.int a1]) (rest := []) ⟨hx, hb, hml, hown, hts⟩ (c_X10_isEndless l dC dI cI cT cS H.size ws  a1 _ rfl) (va_cwS 1 hts (gWS (List.mem_of_getElem? (i := 4) rfl) (List.mem_of_getElem? (i := 5) rfl) (List.mem_of_getElem? (i := 3) rfl) ic_X10_plus_c_X10_isEndless gd_c_X10_isEndless) rfl rfl rfl (by decide +kernel) ⟨(Nat.le_of_ble_eq_true rfl), (Nat.le_of_ble_eq_true rfl)⟩) (gpS hP hK hD) rfl rfl hl.1 rfl (lv_room (Nat.le_of_ble_eq_true rfl)) dX10_plus_44 ⟨(Nat.le_of_ble_eq_true rfl), (Nat.le_of_ble_eq_true rfl)⟩) hP hD hS hA (fun rr7 _ H locs hr7 hP hD hS => ?_)
        refine lv_nm (y := b2i (zf_X10_isEndless a1)) hr7 ?_
        refine lv_if_eq (tgt := 52) hx hb dX10_plus_47 (by decide) (fun c8 => ?_) (fun c8 => ?_)
        · replace h := ifn (b2i_0 c8) h
          refine lv_iload_n hx hb dX10_plus_52 rfl (lv_at hl 0 rfl) ?_
          refine wcalli (S := Unit) (va_runS (As := [.int a0]) (rest := []) ⟨hx, hb, hml, hown, hts⟩ (c_X10_powerOf l dC dI cI cT cS H.size ws  a0 _ rfl) (va_cwS 1 hts (gWS (List.mem_of_getElem? (i := 6) rfl) (List.mem_of_getElem? (i := 7) rfl) (List.mem_of_getElem? (i := 3) rfl) ic_X10_plus_c_X10_powerOf gd_c_X10_powerOf) rfl rfl rfl (by decide +kernel) ⟨(Nat.le_of_ble_eq_true rfl), (Nat.le_of_ble_eq_true rfl)⟩) (gpS hP hK hD) rfl rfl hl.1 rfl (lv_room (Nat.le_of_ble_eq_true rfl)) dX10_plus_53 ⟨(Nat.le_of_ble_eq_true rfl), (Nat.le_of_ble_eq_true rfl)⟩) hP hD hS hA (fun rr9 _ H locs hr9 hP hD hS => ?_)
          refine lv_nm (y := (zf_X10_powerOf a0)) hr9 ?_
          refine lv_iload_n hx hb dX10_plus_56 rfl (lv_at hl 1 rfl) ?_
          refine wcalli (S := Unit) (va_runS (As := [.int a1]) (rest := [.int (zf_X10_powerOf a0)]) ⟨hx, hb, hml, hown, hts⟩ (c_X10_powerOf l dC dI cI cT cS H.size ws  a1 _ rfl) (va_cwS 1 hts (gWS (List.mem_of_getElem? (i := 6) rfl) (List.mem_of_getElem? (i := 7) rfl) (List.mem_of_getElem? (i := 3) rfl) ic_X10_plus_c_X10_powerOf gd_c_X10_powerOf) rfl rfl rfl (by decide +kernel) ⟨(Nat.le_of_ble_eq_true rfl), (Nat.le_of_ble_eq_true rfl)⟩) (gpS hP hK hD) rfl rfl hl.1 rfl (lv_room (Nat.le_of_ble_eq_true rfl)) dX10_plus_57 ⟨(Nat.le_of_ble_eq_true rfl), (Nat.le_of_ble_eq_true rfl)⟩) hP hD hS hA (fun rr10 _ H locs hr10 hP hD hS => ?_)
          refine lv_nm (y := (zf_X10_powerOf a1)) hr10 ?_
          refine lv_icmp_lt (tgt := 67) hx hb dX10_plus_60 (by decide) (fun c11 => ?_) (fun c11 => ?_)
          · replace h := ifp (c11) h
            refine lv_iload_n hx hb dX10_plus_67 rfl (lv_at hl 1 rfl) ?_
            exact J68 a1 H locs ls h hP hD hS (lv_sub (l' := [(0, .int a0), (1, .int a1)]) hl [0, 1] rfl)
          · replace h := ifn (c11) h
            refine lv_iload_n hx hb dX10_plus_63 rfl (lv_at hl 0 rfl) ?_
            refine lv_goto (tgt := 68) hx hb dX10_plus_64 (by decide) ?_
            exact J68 a0 H locs ls h hP hD hS (lv_sub (l' := [(0, .int a0), (1, .int a1)]) hl [0, 1] rfl)
        · replace h := ifp (b2i_1 c8) h
          refine lv_iload_n hx hb dX10_plus_50 rfl (lv_at hl 1 rfl) ?_
          have h9 := Option.some.inj h
          exact wreti hx hb hr hlocks hP hD hS (by show _ = _; rw [← h9]; first | done | rfl) rfl dX10_plus_51
      · replace h := ifp (b2i_1 c6) h
        refine lv_iload_n hx hb dX10_plus_24 rfl (lv_at hl 1 rfl) ?_
        refine wcalli (S := Unit) (va_runS (As := [.int a1]) (rest := []) ⟨hx, hb, hml, hown, hts⟩ (c_X10_isEndless l dC dI cI cT cS H.size ws  a1 _ rfl) (va_cwS 1 hts (gWS (List.mem_of_getElem? (i := 4) rfl) (List.mem_of_getElem? (i := 5) rfl) (List.mem_of_getElem? (i := 3) rfl) ic_X10_plus_c_X10_isEndless gd_c_X10_isEndless) rfl rfl rfl (by decide +kernel) ⟨(Nat.le_of_ble_eq_true rfl), (Nat.le_of_ble_eq_true rfl)⟩) (gpS hP hK hD) rfl rfl hl.1 rfl (lv_room (Nat.le_of_ble_eq_true rfl)) dX10_plus_25 ⟨(Nat.le_of_ble_eq_true rfl), (Nat.le_of_ble_eq_true rfl)⟩) hP hD hS hA (fun rr12 _ H locs hr12 hP hD hS => ?_)
        refine lv_nm (y := b2i (zf_X10_isEndless a1)) hr12 ?_
        refine lv_if_eq (tgt := 41) hx hb dX10_plus_28 (by decide) (fun c13 => ?_) (fun c13 => ?_)
        · replace h := ifn (b2i_0 c13) h
          exact J41  H locs ls h hP hD hS (lv_sub (l' := [(0, .int a0)]) hl [0] rfl)
        · replace h := ifp (b2i_1 c13) h
          refine lv_iload_n hx hb dX10_plus_31 rfl (lv_at hl 0 rfl) ?_
          refine lv_iload_n hx hb dX10_plus_32 rfl (lv_at hl 1 rfl) ?_
          refine lv_icmp_eq (tgt := 41) hx hb dX10_plus_33 (by decide) (fun c14 => ?_) (fun c14 => ?_)
          · replace h := ifp (c14) h
            exact J41  H locs ls h hP hD hS (lv_sub (l' := [(0, .int a0)]) hl [0] rfl)
          · replace h := ifn (c14) h
            refine lv_ldc (v := 2143289344) hx hb hown (hts (.constant RX10 129 (2143289344)) (List.mem_of_getElem? (i := 8) rfl)) dX10_plus_36 ?_
            refine lv_goto (tgt := 42) hx hb dX10_plus_38 (by decide) ?_
            exact J42 (2143289344 : Int32) H locs ls h hP hD hS (lv_sub (l' := []) hl [] rfl)
    · replace h := ifp (b2i_1 c4) h
      exact J14  H locs ls h hP hD hS (lv_sub (l' := []) hl [] rfl)
def zf_X10_turned (a0 : Int32) : Int32 := (a0 ^^^ (-2147483648 : Int32))
def oc_X10_turned : List Cond := [.constant RX10 113 (-2147483648)]
def vc_X10_turned : List Cond := .code yX10_turned cX10_turned 1 (some .int) :: (oc_X10_turned)
theorem gd_c_X10_turned : (vc_X10_turned).all goodWord = true := gall_cons rfl (by decide +kernel)
set_option maxHeartbeats 4000000 in
set_option maxRecDepth 100000 in
theorem c_X10_turned (l : Launch) (dC : Nat → ClassId) (dI : Nat → Nat → Nat) (cI cT cS : ClassId) (sz : Nat) (ws : va_W) (a0 : Int32) (o : Int32) (h : zf_X10_turned a0 = o) : gCI (S := Unit) l yX10_turned vc_X10_turned { frames := 0, cells := 0, slots := 0, locals := 0 } (dC, dI) (gTY cI cT cS) sz [.int a0] ws (fun (r : Int32) (_ : Unit) => r = o) (fun (_ : Unit) => ws) 0 0 := by
  refine Met.ofW (cc := cX10_turned) (maxL := 1) (ret := (some .int)) (by decide) rfl ?_
  intro p e s m args below meth c s₁ B hml hv
  obtain ⟨rfl, hsz, hP, hK, hD0⟩ := hv
  have hx := B.exec
  have hb := B.bytes
  have hr := B.returns
  have hts := atoms_spec (ws := vc_X10_turned) B.pre
  have hown : s.vm.findClass RX10 = some m.cls := findClass_of_methodNamed B.named
  have hlocks := B.notSynchronized
  subst hsz
  have hD := hD0.self (sz := s.heap.size)
  generalize hAe : va_A ws s.heap.size = A at hD ⊢
  have hA : ∀ q : Nat, s.heap.size ≤ q → A q := fun q h => by rw [← hAe]; exact Or.inr h
  clear hAe hD0
  refine gstart (fun H locs hHe hLe => ?_)
  have hS : va_S A s.heap H locs := by rw [← hHe, ← hLe]; exact va_S.rf
  replace hP : va_P (dC, dI) vwCl ws H := by rw [← hHe]; exact hP
  clear hHe hLe
  have hl := lv_entry ([.int a0]) (n := 1) (Nat.le_of_ble_eq_true rfl)
  rw [lg_entry_eq]
  generalize (lg_sl ([.int a0]) ++ List.replicate (1 - (lg_sl ([.int a0])).length) Slot.unset).toArray = ls at hl ⊢
  replace hl : lv_has ls 1 [(0, .int a0)] := hl
  unfold zf_X10_turned at h
  refine lv_iload_n hx hb dX10_turned_0 rfl (lv_at hl 0 rfl) ?_
  refine lv_ldc (v := (-2147483648)) hx hb hown (hts (.constant RX10 113 (-2147483648)) (List.mem_of_getElem? (i := 1) rfl)) dX10_turned_1 ?_
  refine lv_ixor hx hb dX10_turned_3 ?_
  have h9 := h
  exact wreti hx hb hr hlocks hP hD hS (by show _ = _; rw [← h9]; first | done | rfl) rfl dX10_turned_4
def zb_X10_product_110 (w0_110 : Int32) : Option (Int32) := some w0_110
def zb_X10_product_83 (a0 : Int32) (a1 : Int32) (v3_83 : Bool) (v2_83 : Bool) (w0_83 : Bool) : Option (Int32) := (if v3_83 = true then (if w0_83 = true then (zb_X10_product_110 (2143289344 : Int32)) else (if v2_83 = true then (zb_X10_product_110 (-8388608 : Int32)) else (zb_X10_product_110 (2139095040 : Int32)))) else obd (zf_X10_nearest v2_83 ((zf_X10_placesOf a0) * (zf_X10_placesOf a1)) ((zf_X10_powerOf a0) + (zf_X10_powerOf a1))) (fun r19 => some r19))
def zb_X10_product_78 (a0 : Int32) (a1 : Int32) (v3_78 : Bool) (v2_78 : Bool) : Option (Int32) := (zb_X10_product_83 a0 a1 v3_78 v2_78 true)
def zb_X10_product_63 (a0 : Int32) (a1 : Int32) (v2_63 : Bool) (w0_63 : Bool) : Option (Int32) := (if (a0 &&& (2147483647 : Int32)) = 0 then (zb_X10_product_78 a0 a1 w0_63 v2_63) else (if (a1 &&& (2147483647 : Int32)) = 0 then (zb_X10_product_78 a0 a1 w0_63 v2_63) else (zb_X10_product_83 a0 a1 w0_63 v2_63 false)))
def zb_X10_product_58 (a0 : Int32) (a1 : Int32) (v2_58 : Bool) : Option (Int32) := (zb_X10_product_63 a0 a1 v2_58 true)
def zb_X10_product_43 (a0 : Int32) (a1 : Int32) (w0_43 : Bool) : Option (Int32) := (if (zf_X10_isEndless a0) = true then (zb_X10_product_58 a0 a1 w0_43) else (if (zf_X10_isEndless a1) = true then (zb_X10_product_58 a0 a1 w0_43) else (zb_X10_product_63 a0 a1 w0_43 false)))
def zb_X10_product_35 (a0 : Int32) (a1 : Int32) (w0_35 : Bool) (w1_35 : Bool) : Option (Int32) := (if (b2i w1_35) = (b2i w0_35) then (zb_X10_product_43 a0 a1 false) else (zb_X10_product_43 a0 a1 true))
def zb_X10_product_14  : Option (Int32) := some (2143289344 : Int32)
def zb_X10_product_26 (a0 : Int32) (a1 : Int32) (w0_26 : Bool) : Option (Int32) := (if 0 ≤ a1 then (zb_X10_product_35 a0 a1 false w0_26) else (zb_X10_product_35 a0 a1 true w0_26))
def zf_X10_product (a0 : Int32) (a1 : Int32) : Option (Int32) := (if (zf_X10_isNan a0) = true then zb_X10_product_14 else (if (zf_X10_isNan a1) = true then zb_X10_product_14 else (if 0 ≤ a0 then (zb_X10_product_26 a0 a1 false) else (zb_X10_product_26 a0 a1 true))))
def oc_X10_product : List Cond := [.methodLink RX10 126 yX10_isNan, .static yX10_isNan, .initialized RX10, .constant RX10 129 (2143289344), .methodLink RX10 130 yX10_isEndless, .static yX10_isEndless, .constant RX10 124 (2147483647), .methodLink RX10 136 yX10_placesOf, .static yX10_placesOf, .methodLink RX10 133 yX10_powerOf, .static yX10_powerOf, .methodLink RX10 140 yX10_nearest, .static yX10_nearest, .constant RX10 122 (2139095040), .constant RX10 144 (-8388608)]
def vc_X10_product : List Cond := .code yX10_product cX10_product 5 (some .int) :: (oc_X10_product ++ (vc_X10_isNan ++ (vc_X10_isEndless ++ (vc_X10_placesOf ++ (vc_X10_powerOf ++ (vc_X10_nearest))))))
theorem ic_X10_product_c_X10_isNan : ∀ w ∈ vc_X10_isNan, w ∈ vc_X10_product := fun _ h => List.mem_cons_of_mem _ (List.mem_append_right _ (List.mem_append_left _ h))
theorem ic_X10_product_c_X10_isEndless : ∀ w ∈ vc_X10_isEndless, w ∈ vc_X10_product := fun _ h => List.mem_cons_of_mem _ (List.mem_append_right _ (List.mem_append_right _ (List.mem_append_left _ h)))
theorem ic_X10_product_c_X10_placesOf : ∀ w ∈ vc_X10_placesOf, w ∈ vc_X10_product := fun _ h => List.mem_cons_of_mem _ (List.mem_append_right _ (List.mem_append_right _ (List.mem_append_right _ (List.mem_append_left _ h))))
theorem ic_X10_product_c_X10_powerOf : ∀ w ∈ vc_X10_powerOf, w ∈ vc_X10_product := fun _ h => List.mem_cons_of_mem _ (List.mem_append_right _ (List.mem_append_right _ (List.mem_append_right _ (List.mem_append_right _ (List.mem_append_left _ h)))))
theorem ic_X10_product_c_X10_nearest : ∀ w ∈ vc_X10_nearest, w ∈ vc_X10_product := fun _ h => List.mem_cons_of_mem _ (List.mem_append_right _ (List.mem_append_right _ (List.mem_append_right _ (List.mem_append_right _ (List.mem_append_right _ (h))))))
theorem gd_c_X10_product : (vc_X10_product).all goodWord = true := gall_cons rfl (gall_app (by decide +kernel) (gall_app gd_c_X10_isNan (gall_app gd_c_X10_isEndless (gall_app gd_c_X10_placesOf (gall_app gd_c_X10_powerOf gd_c_X10_nearest)))))
set_option maxHeartbeats 4000000 in
set_option maxRecDepth 100000 in
theorem c_X10_product (l : Launch) (dC : Nat → ClassId) (dI : Nat → Nat → Nat) (cI cT cS : ClassId) (sz : Nat) (ws : va_W) (a0 : Int32) (a1 : Int32) (o : Int32) (h : zf_X10_product a0 a1 = some o) : gCI (S := Unit) l yX10_product vc_X10_product { frames := 2, cells := 0, slots := 0, locals := 59 } (dC, dI) (gTY cI cT cS) sz [.int a0, .int a1] ws (fun (r : Int32) (_ : Unit) => r = o) (fun (_ : Unit) => ws) 0 0 := by
  refine Met.ofW (cc := cX10_product) (maxL := 5) (ret := (some .int)) (by decide) rfl ?_
  intro p e s m args below meth c s₁ B hml hv
  obtain ⟨rfl, hsz, hP, hK, hD0⟩ := hv
  have hx := B.exec
  have hb := B.bytes
  have hr := B.returns
  have hts := atoms_spec (ws := vc_X10_product) B.pre
  have hown : s.vm.findClass RX10 = some m.cls := findClass_of_methodNamed B.named
  have hlocks := B.notSynchronized
  subst hsz
  have hD := hD0.self (sz := s.heap.size)
  generalize hAe : va_A ws s.heap.size = A at hD ⊢
  have hA : ∀ q : Nat, s.heap.size ≤ q → A q := fun q h => by rw [← hAe]; exact Or.inr h
  clear hAe hD0
  refine gstart (fun H locs hHe hLe => ?_)
  have hS : va_S A s.heap H locs := by rw [← hHe, ← hLe]; exact va_S.rf
  replace hP : va_P (dC, dI) vwCl ws H := by rw [← hHe]; exact hP
  clear hHe hLe
  have hl := lv_entry ([.int a0, .int a1]) (n := 5) (Nat.le_of_ble_eq_true rfl)
  rw [lg_entry_eq]
  generalize (lg_sl ([.int a0, .int a1]) ++ List.replicate (5 - (lg_sl ([.int a0, .int a1])).length) Slot.unset).toArray = ls at hl ⊢
  replace hl : lv_has ls 5 [(0, .int a0), (1, .int a1)] := hl
  unfold zf_X10_product at h
  have J110 : ∀ (w0_110 : Int32) (H : Heap) (locs : List Loc) (ls : Array Slot), zb_X10_product_110 w0_110 = some o → va_P (dC, dI) vwCl ws H → va_D A ws → va_S A s.heap H locs → lv_has ls 5 [] → W p l e (headSpec vc_X10_product { frames := 2, cells := 0, slots := 0, locals := 59 }).room s m (List.toArray (α := Value) [.int a0, .int a1]) below meth c H locs 0 0 (MQ below (va_Qi (fun (r : Int32) (_ : Unit) => r = o) (gB (dC, dI) A (fun (_ : Unit) => ws)) A) (List.toArray (α := Value) [.int a0, .int a1]) s 0 0 A) (F0 m 110 ls [.int w0_110]) := by
    intro w0_110 H locs ls h hP hD hS hl
    unfold zb_X10_product_110 at h
    have h9 := Option.some.inj h
    exact wreti hx hb hr hlocks hP hD hS (by show _ = _; rw [← h9]; first | done | rfl) rfl dX10_product_110
  have J83 : ∀ (v3_83 : Bool) (v2_83 : Bool) (w0_83 : Bool) (H : Heap) (locs : List Loc) (ls : Array Slot), zb_X10_product_83 a0 a1 v3_83 v2_83 w0_83 = some o → va_P (dC, dI) vwCl ws H → va_D A ws → va_S A s.heap H locs → lv_has ls 5 [(3, .int (b2i v3_83)), (2, .int (b2i v2_83)), (0, .int a0), (1, .int a1)] → W p l e (headSpec vc_X10_product { frames := 2, cells := 0, slots := 0, locals := 59 }).room s m (List.toArray (α := Value) [.int a0, .int a1]) below meth c H locs 0 0 (MQ below (va_Qi (fun (r : Int32) (_ : Unit) => r = o) (gB (dC, dI) A (fun (_ : Unit) => ws)) A) (List.toArray (α := Value) [.int a0, .int a1]) s 0 0 A) (F0 m 83 ls [.int (b2i w0_83)]) := by
    intro v3_83 v2_83 w0_83 H locs ls h hP hD hS hl
    unfold zb_X10_product_83 at h
    refine lv_istore (lv' := [(4, .int (b2i w0_83)), (3, .int (b2i v3_83)), (2, .int (b2i v2_83)), (0, .int a0), (1, .int a1)]) hx hb dX10_product_83 hl (by decide) rfl (fun ls hl => ?_)
    refine lv_iload_n hx hb dX10_product_85 rfl (lv_at hl 1 rfl) ?_
    refine lv_if_eq (tgt := 111) hx hb dX10_product_86 (by decide) (fun c14 => ?_) (fun c14 => ?_)
    · replace h := ifn (b2i_0 c14) h
      refine lv_iload_n hx hb dX10_product_111 rfl (lv_at hl 2 rfl) ?_
      refine lv_iload_n hx hb dX10_product_112 rfl (lv_at hl 3 rfl) ?_
      refine wcalll (S := Unit) (va_runS (As := [.int a0]) (rest := [.int (b2i v2_83)]) ⟨hx, hb, hml, hown, hts⟩ (c_X10_placesOf l dC dI cI cT cS H.size ws  a0 _ rfl) (va_cwS 1 hts (gWS (List.mem_of_getElem? (i := 8) rfl) (List.mem_of_getElem? (i := 9) rfl) (List.mem_of_getElem? (i := 3) rfl) ic_X10_product_c_X10_placesOf gd_c_X10_placesOf) rfl rfl rfl (by decide +kernel) ⟨(Nat.le_of_ble_eq_true rfl), (Nat.le_of_ble_eq_true rfl)⟩) (gpS hP hK hD) rfl rfl hl.1 rfl (lv_room (Nat.le_of_ble_eq_true rfl)) dX10_product_113 ⟨(Nat.le_of_ble_eq_true rfl), (Nat.le_of_ble_eq_true rfl)⟩) hP hD hS hA (fun rr15 _ H locs hr15 hP hD hS => ?_)
      refine lv_nml (y := (zf_X10_placesOf a0)) hr15 ?_
      refine lv_iload_n hx hb dX10_product_116 rfl (lv_at hl 4 rfl) ?_
      refine wcalll (S := Unit) (va_runS (As := [.int a1]) (rest := [.long (zf_X10_placesOf a0), .int (b2i v2_83)]) ⟨hx, hb, hml, hown, hts⟩ (c_X10_placesOf l dC dI cI cT cS H.size ws  a1 _ rfl) (va_cwS 1 hts (gWS (List.mem_of_getElem? (i := 8) rfl) (List.mem_of_getElem? (i := 9) rfl) (List.mem_of_getElem? (i := 3) rfl) ic_X10_product_c_X10_placesOf gd_c_X10_placesOf) rfl rfl rfl (by decide +kernel) ⟨(Nat.le_of_ble_eq_true rfl), (Nat.le_of_ble_eq_true rfl)⟩) (gpS hP hK hD) rfl rfl hl.1 rfl (lv_room (Nat.le_of_ble_eq_true rfl)) dX10_product_117 ⟨(Nat.le_of_ble_eq_true rfl), (Nat.le_of_ble_eq_true rfl)⟩) hP hD hS hA (fun rr16 _ H locs hr16 hP hD hS => ?_)
      refine lv_nml (y := (zf_X10_placesOf a1)) hr16 ?_
      refine lv_lmul hx hb dX10_product_120 ?_
      refine lv_iload_n hx hb dX10_product_121 rfl (lv_at hl 3 rfl) ?_
      refine wcalli (S := Unit) (va_runS (As := [.int a0]) (rest := [.long ((zf_X10_placesOf a0) * (zf_X10_placesOf a1)), .int (b2i v2_83)]) ⟨hx, hb, hml, hown, hts⟩ (c_X10_powerOf l dC dI cI cT cS H.size ws  a0 _ rfl) (va_cwS 1 hts (gWS (List.mem_of_getElem? (i := 10) rfl) (List.mem_of_getElem? (i := 11) rfl) (List.mem_of_getElem? (i := 3) rfl) ic_X10_product_c_X10_powerOf gd_c_X10_powerOf) rfl rfl rfl (by decide +kernel) ⟨(Nat.le_of_ble_eq_true rfl), (Nat.le_of_ble_eq_true rfl)⟩) (gpS hP hK hD) rfl rfl hl.1 rfl (lv_room (Nat.le_of_ble_eq_true rfl)) dX10_product_122 ⟨(Nat.le_of_ble_eq_true rfl), (Nat.le_of_ble_eq_true rfl)⟩) hP hD hS hA (fun rr17 _ H locs hr17 hP hD hS => ?_)
      refine lv_nm (y := (zf_X10_powerOf a0)) hr17 ?_
      refine lv_iload_n hx hb dX10_product_125 rfl (lv_at hl 4 rfl) ?_
      refine wcalli (S := Unit) (va_runS (As := [.int a1]) (rest := [.int (zf_X10_powerOf a0), .long ((zf_X10_placesOf a0) * (zf_X10_placesOf a1)), .int (b2i v2_83)]) ⟨hx, hb, hml, hown, hts⟩ (c_X10_powerOf l dC dI cI cT cS H.size ws  a1 _ rfl) (va_cwS 1 hts (gWS (List.mem_of_getElem? (i := 10) rfl) (List.mem_of_getElem? (i := 11) rfl) (List.mem_of_getElem? (i := 3) rfl) ic_X10_product_c_X10_powerOf gd_c_X10_powerOf) rfl rfl rfl (by decide +kernel) ⟨(Nat.le_of_ble_eq_true rfl), (Nat.le_of_ble_eq_true rfl)⟩) (gpS hP hK hD) rfl rfl hl.1 rfl (lv_room (Nat.le_of_ble_eq_true rfl)) dX10_product_126 ⟨(Nat.le_of_ble_eq_true rfl), (Nat.le_of_ble_eq_true rfl)⟩) hP hD hS hA (fun rr18 _ H locs hr18 hP hD hS => ?_)
      refine lv_nm (y := (zf_X10_powerOf a1)) hr18 ?_
      refine lv_iadd hx hb dX10_product_129 ?_
      obtain ⟨r19, hc19, h⟩ := obd_inv h
      refine wcalli (S := Unit) (va_runS (As := [.int (b2i v2_83), .long ((zf_X10_placesOf a0) * (zf_X10_placesOf a1)), .int ((zf_X10_powerOf a0) + (zf_X10_powerOf a1))]) (rest := []) ⟨hx, hb, hml, hown, hts⟩ (c_X10_nearest l dC dI cI cT cS H.size ws  v2_83 ((zf_X10_placesOf a0) * (zf_X10_placesOf a1)) ((zf_X10_powerOf a0) + (zf_X10_powerOf a1)) _ hc19) (va_cwS 3 hts (gWS (List.mem_of_getElem? (i := 12) rfl) (List.mem_of_getElem? (i := 13) rfl) (List.mem_of_getElem? (i := 3) rfl) ic_X10_product_c_X10_nearest gd_c_X10_nearest) rfl rfl rfl (by decide +kernel) ⟨(Nat.le_of_ble_eq_true rfl), (Nat.le_of_ble_eq_true rfl)⟩) (gpS hP hK hD) rfl rfl hl.1 rfl (lv_room (Nat.le_of_ble_eq_true rfl)) dX10_product_130 ⟨(Nat.le_of_ble_eq_true rfl), (Nat.le_of_ble_eq_true rfl)⟩) hP hD hS hA (fun rr20 _ H locs hr20 hP hD hS => ?_)
      refine lv_nm (y := r19) hr20 ?_
      have h9 := Option.some.inj h
      exact wreti hx hb hr hlocks hP hD hS (by show _ = _; rw [← h9]; first | done | rfl) rfl dX10_product_133
    · replace h := ifp (b2i_1 c14) h
      refine lv_iload hx hb dX10_product_89 (lv_at hl 0 rfl) ?_
      refine lv_if_eq (tgt := 99) hx hb dX10_product_91 (by decide) (fun c21 => ?_) (fun c21 => ?_)
      · replace h := ifn (b2i_0 c21) h
        refine lv_iload_n hx hb dX10_product_99 rfl (lv_at hl 2 rfl) ?_
        refine lv_if_eq (tgt := 108) hx hb dX10_product_100 (by decide) (fun c22 => ?_) (fun c22 => ?_)
        · replace h := ifn (b2i_0 c22) h
          refine lv_ldc (v := 2139095040) hx hb hown (hts (.constant RX10 122 (2139095040)) (List.mem_of_getElem? (i := 14) rfl)) dX10_product_108 ?_
          exact J110 (2139095040 : Int32) H locs ls h hP hD hS (lv_sub (l' := []) hl [] rfl)
        · replace h := ifp (b2i_1 c22) h
          refine lv_ldc (v := (-8388608)) hx hb hown (hts (.constant RX10 144 (-8388608)) (List.mem_of_getElem? (i := 15) rfl)) dX10_product_103 ?_
          refine lv_goto (tgt := 110) hx hb dX10_product_105 (by decide) ?_
          exact J110 (-8388608 : Int32) H locs ls h hP hD hS (lv_sub (l' := []) hl [] rfl)
      · replace h := ifp (b2i_1 c21) h
        refine lv_ldc (v := 2143289344) hx hb hown (hts (.constant RX10 129 (2143289344)) (List.mem_of_getElem? (i := 4) rfl)) dX10_product_94 ?_
        refine lv_goto (tgt := 110) hx hb dX10_product_96 (by decide) ?_
        exact J110 (2143289344 : Int32) H locs ls h hP hD hS (lv_sub (l' := []) hl [] rfl)
  have J78 : ∀ (v3_78 : Bool) (v2_78 : Bool) (H : Heap) (locs : List Loc) (ls : Array Slot), zb_X10_product_78 a0 a1 v3_78 v2_78 = some o → va_P (dC, dI) vwCl ws H → va_D A ws → va_S A s.heap H locs → lv_has ls 5 [(3, .int (b2i v3_78)), (2, .int (b2i v2_78)), (0, .int a0), (1, .int a1)] → W p l e (headSpec vc_X10_product { frames := 2, cells := 0, slots := 0, locals := 59 }).room s m (List.toArray (α := Value) [.int a0, .int a1]) below meth c H locs 0 0 (MQ below (va_Qi (fun (r : Int32) (_ : Unit) => r = o) (gB (dC, dI) A (fun (_ : Unit) => ws)) A) (List.toArray (α := Value) [.int a0, .int a1]) s 0 0 A) (F0 m 78 ls []) := by
    intro v3_78 v2_78 H locs ls h hP hD hS hl
    unfold zb_X10_product_78 at h
    refine lv_iconst (v := 1) hx hb dX10_product_78 (by decide) ?_
    refine lv_goto (tgt := 83) hx hb dX10_product_79 (by decide) ?_
    exact J83 v3_78 v2_78 true H locs ls h hP hD hS (lv_sub (l' := [(3, .int (b2i v3_78)), (2, .int (b2i v2_78)), (0, .int a0), (1, .int a1)]) hl [0, 1, 2, 3] rfl)
  have J63 : ∀ (v2_63 : Bool) (w0_63 : Bool) (H : Heap) (locs : List Loc) (ls : Array Slot), zb_X10_product_63 a0 a1 v2_63 w0_63 = some o → va_P (dC, dI) vwCl ws H → va_D A ws → va_S A s.heap H locs → lv_has ls 5 [(2, .int (b2i v2_63)), (0, .int a0), (1, .int a1)] → W p l e (headSpec vc_X10_product { frames := 2, cells := 0, slots := 0, locals := 59 }).room s m (List.toArray (α := Value) [.int a0, .int a1]) below meth c H locs 0 0 (MQ below (va_Qi (fun (r : Int32) (_ : Unit) => r = o) (gB (dC, dI) A (fun (_ : Unit) => ws)) A) (List.toArray (α := Value) [.int a0, .int a1]) s 0 0 A) (F0 m 63 ls [.int (b2i w0_63)]) := by
    intro v2_63 w0_63 H locs ls h hP hD hS hl
    unfold zb_X10_product_63 at h
    refine lv_istore_n (lv' := [(3, .int (b2i w0_63)), (2, .int (b2i v2_63)), (0, .int a0), (1, .int a1)]) hx hb dX10_product_63 rfl hl (by decide) rfl (fun ls hl => ?_)
    refine lv_iload_n hx hb dX10_product_64 rfl (lv_at hl 2 rfl) ?_
    refine lv_ldc (v := 2147483647) hx hb hown (hts (.constant RX10 124 (2147483647)) (List.mem_of_getElem? (i := 7) rfl)) dX10_product_65 ?_
    refine lv_iand hx hb dX10_product_67 ?_
    refine lv_if_eq (tgt := 78) hx hb dX10_product_68 (by decide) (fun c12 => ?_) (fun c12 => ?_)
    · replace h := ifp (c12) h
      exact J78 w0_63 v2_63 H locs ls h hP hD hS (lv_sub (l' := [(3, .int (b2i w0_63)), (2, .int (b2i v2_63)), (0, .int a0), (1, .int a1)]) hl [0, 1, 2, 3] rfl)
    · replace h := ifn (c12) h
      refine lv_iload_n hx hb dX10_product_71 rfl (lv_at hl 3 rfl) ?_
      refine lv_ldc (v := 2147483647) hx hb hown (hts (.constant RX10 124 (2147483647)) (List.mem_of_getElem? (i := 7) rfl)) dX10_product_72 ?_
      refine lv_iand hx hb dX10_product_74 ?_
      refine lv_if_ne (tgt := 82) hx hb dX10_product_75 (by decide) (fun c13 => ?_) (fun c13 => ?_)
      · replace h := ifn (c13) h
        refine lv_iconst (v := 0) hx hb dX10_product_82 (by decide) ?_
        exact J83 w0_63 v2_63 false H locs ls h hP hD hS (lv_sub (l' := [(3, .int (b2i w0_63)), (2, .int (b2i v2_63)), (0, .int a0), (1, .int a1)]) hl [0, 1, 2, 3] rfl)
      · replace h := ifp (c13) h
        exact J78 w0_63 v2_63 H locs ls h hP hD hS (lv_sub (l' := [(3, .int (b2i w0_63)), (2, .int (b2i v2_63)), (0, .int a0), (1, .int a1)]) hl [0, 1, 2, 3] rfl)
  have J58 : ∀ (v2_58 : Bool) (H : Heap) (locs : List Loc) (ls : Array Slot), zb_X10_product_58 a0 a1 v2_58 = some o → va_P (dC, dI) vwCl ws H → va_D A ws → va_S A s.heap H locs → lv_has ls 5 [(2, .int (b2i v2_58)), (0, .int a0), (1, .int a1)] → W p l e (headSpec vc_X10_product { frames := 2, cells := 0, slots := 0, locals := 59 }).room s m (List.toArray (α := Value) [.int a0, .int a1]) below meth c H locs 0 0 (MQ below (va_Qi (fun (r : Int32) (_ : Unit) => r = o) (gB (dC, dI) A (fun (_ : Unit) => ws)) A) (List.toArray (α := Value) [.int a0, .int a1]) s 0 0 A) (F0 m 58 ls []) := by
    intro v2_58 H locs ls h hP hD hS hl
    unfold zb_X10_product_58 at h
    refine lv_iconst (v := 1) hx hb dX10_product_58 (by decide) ?_
    refine lv_goto (tgt := 63) hx hb dX10_product_59 (by decide) ?_
    exact J63 v2_58 true H locs ls h hP hD hS (lv_sub (l' := [(2, .int (b2i v2_58)), (0, .int a0), (1, .int a1)]) hl [0, 1, 2] rfl)
  have J43 : ∀ (w0_43 : Bool) (H : Heap) (locs : List Loc) (ls : Array Slot), zb_X10_product_43 a0 a1 w0_43 = some o → va_P (dC, dI) vwCl ws H → va_D A ws → va_S A s.heap H locs → lv_has ls 5 [(0, .int a0), (1, .int a1)] → W p l e (headSpec vc_X10_product { frames := 2, cells := 0, slots := 0, locals := 59 }).room s m (List.toArray (α := Value) [.int a0, .int a1]) below meth c H locs 0 0 (MQ below (va_Qi (fun (r : Int32) (_ : Unit) => r = o) (gB (dC, dI) A (fun (_ : Unit) => ws)) A) (List.toArray (α := Value) [.int a0, .int a1]) s 0 0 A) (F0 m 43 ls [.int (b2i w0_43)]) := by
    intro w0_43 H locs ls h hP hD hS hl
    unfold zb_X10_product_43 at h
    refine lv_istore_n (lv' := [(2, .int (b2i w0_43)), (0, .int a0), (1, .int a1)]) hx hb dX10_product_43 rfl hl (by decide) rfl (fun ls hl => ?_)
    refine lv_iload_n hx hb dX10_product_44 rfl (lv_at hl 1 rfl) ?_
    refine wcalli (S := Unit) (va_runS (As := [.int a0]) (rest := []) ⟨hx, hb, hml, hown, hts⟩ (c_X10_isEndless l dC dI cI cT cS H.size ws  a0 _ rfl) (va_cwS 1 hts (gWS (List.mem_of_getElem? (i := 5) rfl) (List.mem_of_getElem? (i := 6) rfl) (List.mem_of_getElem? (i := 3) rfl) ic_X10_product_c_X10_isEndless gd_c_X10_isEndless) rfl rfl rfl (by decide +kernel) ⟨(Nat.le_of_ble_eq_true rfl), (Nat.le_of_ble_eq_true rfl)⟩) (gpS hP hK hD) rfl rfl hl.1 rfl (lv_room (Nat.le_of_ble_eq_true rfl)) dX10_product_45 ⟨(Nat.le_of_ble_eq_true rfl), (Nat.le_of_ble_eq_true rfl)⟩) hP hD hS hA (fun rr8 _ H locs hr8 hP hD hS => ?_)
    refine lv_nm (y := b2i (zf_X10_isEndless a0)) hr8 ?_
    refine lv_if_ne (tgt := 58) hx hb dX10_product_48 (by decide) (fun c9 => ?_) (fun c9 => ?_)
    · replace h := ifp (b2i_1 c9) h
      exact J58 w0_43 H locs ls h hP hD hS (lv_sub (l' := [(2, .int (b2i w0_43)), (0, .int a0), (1, .int a1)]) hl [0, 1, 2] rfl)
    · replace h := ifn (b2i_0 c9) h
      refine lv_iload_n hx hb dX10_product_51 rfl (lv_at hl 2 rfl) ?_
      refine wcalli (S := Unit) (va_runS (As := [.int a1]) (rest := []) ⟨hx, hb, hml, hown, hts⟩ (c_X10_isEndless l dC dI cI cT cS H.size ws  a1 _ rfl) (va_cwS 1 hts (gWS (List.mem_of_getElem? (i := 5) rfl) (List.mem_of_getElem? (i := 6) rfl) (List.mem_of_getElem? (i := 3) rfl) ic_X10_product_c_X10_isEndless gd_c_X10_isEndless) rfl rfl rfl (by decide +kernel) ⟨(Nat.le_of_ble_eq_true rfl), (Nat.le_of_ble_eq_true rfl)⟩) (gpS hP hK hD) rfl rfl hl.1 rfl (lv_room (Nat.le_of_ble_eq_true rfl)) dX10_product_52 ⟨(Nat.le_of_ble_eq_true rfl), (Nat.le_of_ble_eq_true rfl)⟩) hP hD hS hA (fun rr10 _ H locs hr10 hP hD hS => ?_)
      refine lv_nm (y := b2i (zf_X10_isEndless a1)) hr10 ?_
      refine lv_if_eq (tgt := 62) hx hb dX10_product_55 (by decide) (fun c11 => ?_) (fun c11 => ?_)
      · replace h := ifn (b2i_0 c11) h
        refine lv_iconst (v := 0) hx hb dX10_product_62 (by decide) ?_
        exact J63 w0_43 false H locs ls h hP hD hS (lv_sub (l' := [(2, .int (b2i w0_43)), (0, .int a0), (1, .int a1)]) hl [0, 1, 2] rfl)
      · replace h := ifp (b2i_1 c11) h
        exact J58 w0_43 H locs ls h hP hD hS (lv_sub (l' := [(2, .int (b2i w0_43)), (0, .int a0), (1, .int a1)]) hl [0, 1, 2] rfl)
  have J35 : ∀ (w0_35 : Bool) (w1_35 : Bool) (H : Heap) (locs : List Loc) (ls : Array Slot), zb_X10_product_35 a0 a1 w0_35 w1_35 = some o → va_P (dC, dI) vwCl ws H → va_D A ws → va_S A s.heap H locs → lv_has ls 5 [(0, .int a0), (1, .int a1)] → W p l e (headSpec vc_X10_product { frames := 2, cells := 0, slots := 0, locals := 59 }).room s m (List.toArray (α := Value) [.int a0, .int a1]) below meth c H locs 0 0 (MQ below (va_Qi (fun (r : Int32) (_ : Unit) => r = o) (gB (dC, dI) A (fun (_ : Unit) => ws)) A) (List.toArray (α := Value) [.int a0, .int a1]) s 0 0 A) (F0 m 35 ls [.int (b2i w0_35), .int (b2i w1_35)]) := by
    intro w0_35 w1_35 H locs ls h hP hD hS hl
    unfold zb_X10_product_35 at h
    refine lv_icmp_eq (tgt := 42) hx hb dX10_product_35 (by decide) (fun c7 => ?_) (fun c7 => ?_)
    · replace h := ifp (c7) h
      refine lv_iconst (v := 0) hx hb dX10_product_42 (by decide) ?_
      exact J43 false H locs ls h hP hD hS (lv_sub (l' := [(0, .int a0), (1, .int a1)]) hl [0, 1] rfl)
    · replace h := ifn (c7) h
      refine lv_iconst (v := 1) hx hb dX10_product_38 (by decide) ?_
      refine lv_goto (tgt := 43) hx hb dX10_product_39 (by decide) ?_
      exact J43 true H locs ls h hP hD hS (lv_sub (l' := [(0, .int a0), (1, .int a1)]) hl [0, 1] rfl)
  have J14 : ∀  (H : Heap) (locs : List Loc) (ls : Array Slot), zb_X10_product_14 = some o → va_P (dC, dI) vwCl ws H → va_D A ws → va_S A s.heap H locs → lv_has ls 5 [] → W p l e (headSpec vc_X10_product { frames := 2, cells := 0, slots := 0, locals := 59 }).room s m (List.toArray (α := Value) [.int a0, .int a1]) below meth c H locs 0 0 (MQ below (va_Qi (fun (r : Int32) (_ : Unit) => r = o) (gB (dC, dI) A (fun (_ : Unit) => ws)) A) (List.toArray (α := Value) [.int a0, .int a1]) s 0 0 A) (F0 m 14 ls []) := by
    intro  H locs ls h hP hD hS hl
    unfold zb_X10_product_14 at h
    refine lv_ldc (v := 2143289344) hx hb hown (hts (.constant RX10 129 (2143289344)) (List.mem_of_getElem? (i := 4) rfl)) dX10_product_14 ?_
    have h9 := Option.some.inj h
    exact wreti hx hb hr hlocks hP hD hS (by show _ = _; rw [← h9]; first | done | rfl) rfl dX10_product_16
  have J26 : ∀ (w0_26 : Bool) (H : Heap) (locs : List Loc) (ls : Array Slot), zb_X10_product_26 a0 a1 w0_26 = some o → va_P (dC, dI) vwCl ws H → va_D A ws → va_S A s.heap H locs → lv_has ls 5 [(0, .int a0), (1, .int a1)] → W p l e (headSpec vc_X10_product { frames := 2, cells := 0, slots := 0, locals := 59 }).room s m (List.toArray (α := Value) [.int a0, .int a1]) below meth c H locs 0 0 (MQ below (va_Qi (fun (r : Int32) (_ : Unit) => r = o) (gB (dC, dI) A (fun (_ : Unit) => ws)) A) (List.toArray (α := Value) [.int a0, .int a1]) s 0 0 A) (F0 m 26 ls [.int (b2i w0_26)]) := by
    intro w0_26 H locs ls h hP hD hS hl
    unfold zb_X10_product_26 at h
    refine lv_iload_n hx hb dX10_product_26 rfl (lv_at hl 1 rfl) ?_
    refine lv_if_ge (tgt := 34) hx hb dX10_product_27 (by decide) (fun c6 => ?_) (fun c6 => ?_)
    · replace h := ifp (c6) h
      refine lv_iconst (v := 0) hx hb dX10_product_34 (by decide) ?_
      exact J35 false w0_26 H locs ls h hP hD hS (lv_sub (l' := [(0, .int a0), (1, .int a1)]) hl [0, 1] rfl)
    · replace h := ifn (c6) h
      refine lv_iconst (v := 1) hx hb dX10_product_30 (by decide) ?_
      refine lv_goto (tgt := 35) hx hb dX10_product_31 (by decide) ?_
      exact J35 true w0_26 H locs ls h hP hD hS (lv_sub (l' := [(0, .int a0), (1, .int a1)]) hl [0, 1] rfl)
  refine lv_iload_n hx hb dX10_product_0 rfl (lv_at hl 0 rfl) ?_
  refine wcalli (S := Unit) (va_runS (As := [.int a0]) (rest := []) ⟨hx, hb, hml, hown, hts⟩ (c_X10_isNan l dC dI cI cT cS H.size ws  a0 _ rfl) (va_cwS 1 hts (gWS (List.mem_of_getElem? (i := 1) rfl) (List.mem_of_getElem? (i := 2) rfl) (List.mem_of_getElem? (i := 3) rfl) ic_X10_product_c_X10_isNan gd_c_X10_isNan) rfl rfl rfl (by decide +kernel) ⟨(Nat.le_of_ble_eq_true rfl), (Nat.le_of_ble_eq_true rfl)⟩) (gpS hP hK hD) rfl rfl hl.1 rfl (lv_room (Nat.le_of_ble_eq_true rfl)) dX10_product_1 ⟨(Nat.le_of_ble_eq_true rfl), (Nat.le_of_ble_eq_true rfl)⟩) hP hD hS hA (fun rr1 _ H locs hr1 hP hD hS => ?_)
  refine lv_nm (y := b2i (zf_X10_isNan a0)) hr1 ?_
  refine lv_if_ne (tgt := 14) hx hb dX10_product_4 (by decide) (fun c2 => ?_) (fun c2 => ?_)
  · replace h := ifp (b2i_1 c2) h
    exact J14  H locs ls h hP hD hS (lv_sub (l' := []) hl [] rfl)
  · replace h := ifn (b2i_0 c2) h
    refine lv_iload_n hx hb dX10_product_7 rfl (lv_at hl 1 rfl) ?_
    refine wcalli (S := Unit) (va_runS (As := [.int a1]) (rest := []) ⟨hx, hb, hml, hown, hts⟩ (c_X10_isNan l dC dI cI cT cS H.size ws  a1 _ rfl) (va_cwS 1 hts (gWS (List.mem_of_getElem? (i := 1) rfl) (List.mem_of_getElem? (i := 2) rfl) (List.mem_of_getElem? (i := 3) rfl) ic_X10_product_c_X10_isNan gd_c_X10_isNan) rfl rfl rfl (by decide +kernel) ⟨(Nat.le_of_ble_eq_true rfl), (Nat.le_of_ble_eq_true rfl)⟩) (gpS hP hK hD) rfl rfl hl.1 rfl (lv_room (Nat.le_of_ble_eq_true rfl)) dX10_product_8 ⟨(Nat.le_of_ble_eq_true rfl), (Nat.le_of_ble_eq_true rfl)⟩) hP hD hS hA (fun rr3 _ H locs hr3 hP hD hS => ?_)
    refine lv_nm (y := b2i (zf_X10_isNan a1)) hr3 ?_
    refine lv_if_eq (tgt := 17) hx hb dX10_product_11 (by decide) (fun c4 => ?_) (fun c4 => ?_)
    · replace h := ifn (b2i_0 c4) h
      refine lv_iload_n hx hb dX10_product_17 rfl (lv_at hl 0 rfl) ?_
      refine lv_if_ge (tgt := 25) hx hb dX10_product_18 (by decide) (fun c5 => ?_) (fun c5 => ?_)
      · replace h := ifp (c5) h
        refine lv_iconst (v := 0) hx hb dX10_product_25 (by decide) ?_
        exact J26 false H locs ls h hP hD hS (lv_sub (l' := [(0, .int a0), (1, .int a1)]) hl [0, 1] rfl)
      · replace h := ifn (c5) h
        refine lv_iconst (v := 1) hx hb dX10_product_21 (by decide) ?_
        refine lv_goto (tgt := 26) hx hb dX10_product_22 (by decide) ?_
        exact J26 true H locs ls h hP hD hS (lv_sub (l' := [(0, .int a0), (1, .int a1)]) hl [0, 1] rfl)
    · replace h := ifp (b2i_1 c4) h
      exact J14  H locs ls h hP hD hS (lv_sub (l' := []) hl [] rfl)
def zb_X10_floatOf_23 (w0_23 : Int64) (w1_23 : Bool) : Option (Int32) := obd (zf_X10_nearest w1_23 w0_23 (0 : Int32)) (fun r3 => some r3)
def zb_X10_floatOf_11 (a0 : Int64) (w0_11 : Bool) : Option (Int32) := (if (0 : Int64) ≤ a0 then (zb_X10_floatOf_23 a0 w0_11) else (zb_X10_floatOf_23 (-a0) w0_11))
def zf_X10_floatOf (a0 : Int64) : Option (Int32) := (if (0 : Int64) ≤ a0 then (zb_X10_floatOf_11 a0 false) else (zb_X10_floatOf_11 a0 true))
def oc_X10_floatOf : List Cond := [.methodLink RX10 140 yX10_nearest, .static yX10_nearest, .initialized RX10]
def vc_X10_floatOf : List Cond := .code yX10_floatOf cX10_floatOf 2 (some .int) :: (oc_X10_floatOf ++ (vc_X10_nearest))
theorem ic_X10_floatOf_c_X10_nearest : ∀ w ∈ vc_X10_nearest, w ∈ vc_X10_floatOf := fun _ h => List.mem_cons_of_mem _ (List.mem_append_right _ (h))
theorem gd_c_X10_floatOf : (vc_X10_floatOf).all goodWord = true := gall_cons rfl (gall_app (by decide +kernel) gd_c_X10_nearest)
set_option maxHeartbeats 4000000 in
set_option maxRecDepth 100000 in
theorem c_X10_floatOf (l : Launch) (dC : Nat → ClassId) (dI : Nat → Nat → Nat) (cI cT cS : ClassId) (sz : Nat) (ws : va_W) (a0 : Int64) (o : Int32) (h : zf_X10_floatOf a0 = some o) : gCI (S := Unit) l yX10_floatOf vc_X10_floatOf { frames := 2, cells := 0, slots := 0, locals := 59 } (dC, dI) (gTY cI cT cS) sz [.long a0] ws (fun (r : Int32) (_ : Unit) => r = o) (fun (_ : Unit) => ws) 0 0 := by
  refine Met.ofW (cc := cX10_floatOf) (maxL := 2) (ret := (some .int)) (by decide) rfl ?_
  intro p e s m args below meth c s₁ B hml hv
  obtain ⟨rfl, hsz, hP, hK, hD0⟩ := hv
  have hx := B.exec
  have hb := B.bytes
  have hr := B.returns
  have hts := atoms_spec (ws := vc_X10_floatOf) B.pre
  have hown : s.vm.findClass RX10 = some m.cls := findClass_of_methodNamed B.named
  have hlocks := B.notSynchronized
  subst hsz
  have hD := hD0.self (sz := s.heap.size)
  generalize hAe : va_A ws s.heap.size = A at hD ⊢
  have hA : ∀ q : Nat, s.heap.size ≤ q → A q := fun q h => by rw [← hAe]; exact Or.inr h
  clear hAe hD0
  refine gstart (fun H locs hHe hLe => ?_)
  have hS : va_S A s.heap H locs := by rw [← hHe, ← hLe]; exact va_S.rf
  replace hP : va_P (dC, dI) vwCl ws H := by rw [← hHe]; exact hP
  clear hHe hLe
  have hl := lv_entry ([.long a0]) (n := 2) (Nat.le_of_ble_eq_true rfl)
  rw [lg_entry_eq]
  generalize (lg_sl ([.long a0]) ++ List.replicate (2 - (lg_sl ([.long a0])).length) Slot.unset).toArray = ls at hl ⊢
  replace hl : lv_has ls 2 [(0, .long a0)] := hl
  unfold zf_X10_floatOf at h
  have J23 : ∀ (w0_23 : Int64) (w1_23 : Bool) (H : Heap) (locs : List Loc) (ls : Array Slot), zb_X10_floatOf_23 w0_23 w1_23 = some o → va_P (dC, dI) vwCl ws H → va_D A ws → va_S A s.heap H locs → lv_has ls 2 [] → W p l e (headSpec vc_X10_floatOf { frames := 2, cells := 0, slots := 0, locals := 59 }).room s m (List.toArray (α := Value) [.long a0]) below meth c H locs 0 0 (MQ below (va_Qi (fun (r : Int32) (_ : Unit) => r = o) (gB (dC, dI) A (fun (_ : Unit) => ws)) A) (List.toArray (α := Value) [.long a0]) s 0 0 A) (F0 m 23 ls [.long w0_23, .int (b2i w1_23)]) := by
    intro w0_23 w1_23 H locs ls h hP hD hS hl
    unfold zb_X10_floatOf_23 at h
    refine lv_iconst (v := 0) hx hb dX10_floatOf_23 (by decide) ?_
    obtain ⟨r3, hc3, h⟩ := obd_inv h
    refine wcalli (S := Unit) (va_runS (As := [.int (b2i w1_23), .long w0_23, .int (0 : Int32)]) (rest := []) ⟨hx, hb, hml, hown, hts⟩ (c_X10_nearest l dC dI cI cT cS H.size ws  w1_23 w0_23 (0 : Int32) _ hc3) (va_cwS 3 hts (gWS (List.mem_of_getElem? (i := 1) rfl) (List.mem_of_getElem? (i := 2) rfl) (List.mem_of_getElem? (i := 3) rfl) ic_X10_floatOf_c_X10_nearest gd_c_X10_nearest) rfl rfl rfl (by decide +kernel) ⟨(Nat.le_of_ble_eq_true rfl), (Nat.le_of_ble_eq_true rfl)⟩) (gpS hP hK hD) rfl rfl hl.1 rfl (lv_room (Nat.le_of_ble_eq_true rfl)) dX10_floatOf_24 ⟨(Nat.le_of_ble_eq_true rfl), (Nat.le_of_ble_eq_true rfl)⟩) hP hD hS hA (fun rr4 _ H locs hr4 hP hD hS => ?_)
    refine lv_nm (y := r3) hr4 ?_
    have h9 := Option.some.inj h
    exact wreti hx hb hr hlocks hP hD hS (by show _ = _; rw [← h9]; first | done | rfl) rfl dX10_floatOf_27
  have J11 : ∀ (w0_11 : Bool) (H : Heap) (locs : List Loc) (ls : Array Slot), zb_X10_floatOf_11 a0 w0_11 = some o → va_P (dC, dI) vwCl ws H → va_D A ws → va_S A s.heap H locs → lv_has ls 2 [(0, .long a0)] → W p l e (headSpec vc_X10_floatOf { frames := 2, cells := 0, slots := 0, locals := 59 }).room s m (List.toArray (α := Value) [.long a0]) below meth c H locs 0 0 (MQ below (va_Qi (fun (r : Int32) (_ : Unit) => r = o) (gB (dC, dI) A (fun (_ : Unit) => ws)) A) (List.toArray (α := Value) [.long a0]) s 0 0 A) (F0 m 11 ls [.int (b2i w0_11)]) := by
    intro w0_11 H locs ls h hP hD hS hl
    unfold zb_X10_floatOf_11 at h
    refine lv_lload_n hx hb dX10_floatOf_11 rfl (lv_at hl 0 rfl) ?_
    refine lv_lconst (v := 0) hx hb dX10_floatOf_12 (by decide) ?_
    refine W.lcmp hx hb dX10_floatOf_13 ?_
    refine lv_if_ge (tgt := 22) hx hb dX10_floatOf_14 (by decide) (fun c2 => ?_) (fun c2 => ?_)
    · replace h := ifp (g_c_ge.mp c2) h
      refine lv_lload_n hx hb dX10_floatOf_22 rfl (lv_at hl 0 rfl) ?_
      exact J23 a0 w0_11 H locs ls h hP hD hS (lv_sub (l' := []) hl [] rfl)
    · replace h := ifn (fun q => c2 (g_c_ge.mpr q)) h
      refine lv_lload_n hx hb dX10_floatOf_17 rfl (lv_at hl 0 rfl) ?_
      refine lv_lneg hx hb dX10_floatOf_18 ?_
      refine lv_goto (tgt := 23) hx hb dX10_floatOf_19 (by decide) ?_
      exact J23 (-a0) w0_11 H locs ls h hP hD hS (lv_sub (l' := []) hl [] rfl)
  refine lv_lload_n hx hb dX10_floatOf_0 rfl (lv_at hl 0 rfl) ?_
  refine lv_lconst (v := 0) hx hb dX10_floatOf_1 (by decide) ?_
  refine W.lcmp hx hb dX10_floatOf_2 ?_
  refine lv_if_ge (tgt := 10) hx hb dX10_floatOf_3 (by decide) (fun c1 => ?_) (fun c1 => ?_)
  · replace h := ifp (g_c_ge.mp c1) h
    refine lv_iconst (v := 0) hx hb dX10_floatOf_10 (by decide) ?_
    exact J11 false H locs ls h hP hD hS (lv_sub (l' := [(0, .long a0)]) hl [0] rfl)
  · replace h := ifn (fun q => c1 (g_c_ge.mpr q)) h
    refine lv_iconst (v := 1) hx hb dX10_floatOf_6 (by decide) ?_
    refine lv_goto (tgt := 11) hx hb dX10_floatOf_7 (by decide) ?_
    exact J11 true H locs ls h hP hD hS (lv_sub (l' := [(0, .long a0)]) hl [0] rfl)
def zb_X10_place_13 (w0_13 : Int32) : Int32 := w0_13
def zf_X10_place (a0 : Int32) : Int32 := (if 0 ≤ a0 then (zb_X10_place_13 a0) else (zb_X10_place_13 (-(a0 &&& (2147483647 : Int32)))))
def oc_X10_place : List Cond := [.constant RX10 124 (2147483647)]
def vc_X10_place : List Cond := .code yX10_place cX10_place 1 (some .int) :: (oc_X10_place)
theorem gd_c_X10_place : (vc_X10_place).all goodWord = true := gall_cons rfl (by decide +kernel)
set_option maxHeartbeats 4000000 in
set_option maxRecDepth 100000 in
theorem c_X10_place (l : Launch) (dC : Nat → ClassId) (dI : Nat → Nat → Nat) (cI cT cS : ClassId) (sz : Nat) (ws : va_W) (a0 : Int32) (o : Int32) (h : zf_X10_place a0 = o) : gCI (S := Unit) l yX10_place vc_X10_place { frames := 0, cells := 0, slots := 0, locals := 0 } (dC, dI) (gTY cI cT cS) sz [.int a0] ws (fun (r : Int32) (_ : Unit) => r = o) (fun (_ : Unit) => ws) 0 0 := by
  refine Met.ofW (cc := cX10_place) (maxL := 1) (ret := (some .int)) (by decide) rfl ?_
  intro p e s m args below meth c s₁ B hml hv
  obtain ⟨rfl, hsz, hP, hK, hD0⟩ := hv
  have hx := B.exec
  have hb := B.bytes
  have hr := B.returns
  have hts := atoms_spec (ws := vc_X10_place) B.pre
  have hown : s.vm.findClass RX10 = some m.cls := findClass_of_methodNamed B.named
  have hlocks := B.notSynchronized
  subst hsz
  have hD := hD0.self (sz := s.heap.size)
  generalize hAe : va_A ws s.heap.size = A at hD ⊢
  have hA : ∀ q : Nat, s.heap.size ≤ q → A q := fun q h => by rw [← hAe]; exact Or.inr h
  clear hAe hD0
  refine gstart (fun H locs hHe hLe => ?_)
  have hS : va_S A s.heap H locs := by rw [← hHe, ← hLe]; exact va_S.rf
  replace hP : va_P (dC, dI) vwCl ws H := by rw [← hHe]; exact hP
  clear hHe hLe
  have hl := lv_entry ([.int a0]) (n := 1) (Nat.le_of_ble_eq_true rfl)
  rw [lg_entry_eq]
  generalize (lg_sl ([.int a0]) ++ List.replicate (1 - (lg_sl ([.int a0])).length) Slot.unset).toArray = ls at hl ⊢
  replace hl : lv_has ls 1 [(0, .int a0)] := hl
  unfold zf_X10_place at h
  have J13 : ∀ (w0_13 : Int32) (H : Heap) (locs : List Loc) (ls : Array Slot), zb_X10_place_13 w0_13 = o → va_P (dC, dI) vwCl ws H → va_D A ws → va_S A s.heap H locs → lv_has ls 1 [] → W p l e (headSpec vc_X10_place { frames := 0, cells := 0, slots := 0, locals := 0 }).room s m (List.toArray (α := Value) [.int a0]) below meth c H locs 0 0 (MQ below (va_Qi (fun (r : Int32) (_ : Unit) => r = o) (gB (dC, dI) A (fun (_ : Unit) => ws)) A) (List.toArray (α := Value) [.int a0]) s 0 0 A) (F0 m 13 ls [.int w0_13]) := by
    intro w0_13 H locs ls h hP hD hS hl
    unfold zb_X10_place_13 at h
    have h9 := h
    exact wreti hx hb hr hlocks hP hD hS (by show _ = _; rw [← h9]; first | done | rfl) rfl dX10_place_13
  refine lv_iload_n hx hb dX10_place_0 rfl (lv_at hl 0 rfl) ?_
  refine lv_if_ge (tgt := 12) hx hb dX10_place_1 (by decide) (fun c1 => ?_) (fun c1 => ?_)
  · replace h := ifp (c1) h
    refine lv_iload_n hx hb dX10_place_12 rfl (lv_at hl 0 rfl) ?_
    exact J13 a0 H locs ls h hP hD hS (lv_sub (l' := []) hl [] rfl)
  · replace h := ifn (c1) h
    refine lv_iload_n hx hb dX10_place_4 rfl (lv_at hl 0 rfl) ?_
    refine lv_ldc (v := 2147483647) hx hb hown (hts (.constant RX10 124 (2147483647)) (List.mem_of_getElem? (i := 1) rfl)) dX10_place_5 ?_
    refine lv_iand hx hb dX10_place_7 ?_
    refine lv_ineg hx hb dX10_place_8 ?_
    refine lv_goto (tgt := 13) hx hb dX10_place_9 (by decide) ?_
    exact J13 (-(a0 &&& (2147483647 : Int32))) H locs ls h hP hD hS (lv_sub (l' := []) hl [] rfl)
def zb_X10_isLess_30 (w0_30 : Bool) : Bool := w0_30
def zb_X10_isLess_29  : Bool := (zb_X10_isLess_30 false)
def zf_X10_isLess (a0 : Int32) (a1 : Int32) : Bool := (if (zf_X10_isNan a0) = true then zb_X10_isLess_29 else (if (zf_X10_isNan a1) = true then zb_X10_isLess_29 else (if (zf_X10_place a1) ≤ (zf_X10_place a0) then zb_X10_isLess_29 else (zb_X10_isLess_30 true))))
def oc_X10_isLess : List Cond := [.methodLink RX10 126 yX10_isNan, .static yX10_isNan, .initialized RX10, .methodLink RX10 145 yX10_place, .static yX10_place]
def vc_X10_isLess : List Cond := .code yX10_isLess cX10_isLess 2 (some .boolean) :: (oc_X10_isLess ++ (vc_X10_isNan ++ (vc_X10_place)))
theorem ic_X10_isLess_c_X10_isNan : ∀ w ∈ vc_X10_isNan, w ∈ vc_X10_isLess := fun _ h => List.mem_cons_of_mem _ (List.mem_append_right _ (List.mem_append_left _ h))
theorem ic_X10_isLess_c_X10_place : ∀ w ∈ vc_X10_place, w ∈ vc_X10_isLess := fun _ h => List.mem_cons_of_mem _ (List.mem_append_right _ (List.mem_append_right _ (h)))
theorem gd_c_X10_isLess : (vc_X10_isLess).all goodWord = true := gall_cons rfl (gall_app (by decide +kernel) (gall_app gd_c_X10_isNan gd_c_X10_place))
set_option maxHeartbeats 4000000 in
set_option maxRecDepth 100000 in
theorem c_X10_isLess (l : Launch) (dC : Nat → ClassId) (dI : Nat → Nat → Nat) (cI cT cS : ClassId) (sz : Nat) (ws : va_W) (a0 : Int32) (a1 : Int32) (o : Bool) (h : zf_X10_isLess a0 a1 = o) : gCI (S := Unit) l yX10_isLess vc_X10_isLess { frames := 1, cells := 0, slots := 0, locals := 20 } (dC, dI) (gTY cI cT cS) sz [.int a0, .int a1] ws (fun (r : Int32) (_ : Unit) => r = b2i o) (fun (_ : Unit) => ws) 0 0 := by
  refine Met.ofW (cc := cX10_isLess) (maxL := 2) (ret := (some .boolean)) (by decide) rfl ?_
  intro p e s m args below meth c s₁ B hml hv
  obtain ⟨rfl, hsz, hP, hK, hD0⟩ := hv
  have hx := B.exec
  have hb := B.bytes
  have hr := B.returns
  have hts := atoms_spec (ws := vc_X10_isLess) B.pre
  have hown : s.vm.findClass RX10 = some m.cls := findClass_of_methodNamed B.named
  have hlocks := B.notSynchronized
  subst hsz
  have hD := hD0.self (sz := s.heap.size)
  generalize hAe : va_A ws s.heap.size = A at hD ⊢
  have hA : ∀ q : Nat, s.heap.size ≤ q → A q := fun q h => by rw [← hAe]; exact Or.inr h
  clear hAe hD0
  refine gstart (fun H locs hHe hLe => ?_)
  have hS : va_S A s.heap H locs := by rw [← hHe, ← hLe]; exact va_S.rf
  replace hP : va_P (dC, dI) vwCl ws H := by rw [← hHe]; exact hP
  clear hHe hLe
  have hl := lv_entry ([.int a0, .int a1]) (n := 2) (Nat.le_of_ble_eq_true rfl)
  rw [lg_entry_eq]
  generalize (lg_sl ([.int a0, .int a1]) ++ List.replicate (2 - (lg_sl ([.int a0, .int a1])).length) Slot.unset).toArray = ls at hl ⊢
  replace hl : lv_has ls 2 [(0, .int a0), (1, .int a1)] := hl
  unfold zf_X10_isLess at h
  have J30 : ∀ (w0_30 : Bool) (H : Heap) (locs : List Loc) (ls : Array Slot), zb_X10_isLess_30 w0_30 = o → va_P (dC, dI) vwCl ws H → va_D A ws → va_S A s.heap H locs → lv_has ls 2 [] → W p l e (headSpec vc_X10_isLess { frames := 1, cells := 0, slots := 0, locals := 20 }).room s m (List.toArray (α := Value) [.int a0, .int a1]) below meth c H locs 0 0 (MQ below (va_Qi (fun (r : Int32) (_ : Unit) => r = b2i o) (gB (dC, dI) A (fun (_ : Unit) => ws)) A) (List.toArray (α := Value) [.int a0, .int a1]) s 0 0 A) (F0 m 30 ls [.int (b2i w0_30)]) := by
    intro w0_30 H locs ls h hP hD hS hl
    unfold zb_X10_isLess_30 at h
    have h9 := h
    exact wretz hx hb hr hlocks (b2i_or _) hP hD hS (by show _ = _; rw [← h9]; first | done | rfl) rfl dX10_isLess_30
  have J29 : ∀  (H : Heap) (locs : List Loc) (ls : Array Slot), zb_X10_isLess_29 = o → va_P (dC, dI) vwCl ws H → va_D A ws → va_S A s.heap H locs → lv_has ls 2 [] → W p l e (headSpec vc_X10_isLess { frames := 1, cells := 0, slots := 0, locals := 20 }).room s m (List.toArray (α := Value) [.int a0, .int a1]) below meth c H locs 0 0 (MQ below (va_Qi (fun (r : Int32) (_ : Unit) => r = b2i o) (gB (dC, dI) A (fun (_ : Unit) => ws)) A) (List.toArray (α := Value) [.int a0, .int a1]) s 0 0 A) (F0 m 29 ls []) := by
    intro  H locs ls h hP hD hS hl
    unfold zb_X10_isLess_29 at h
    refine lv_iconst (v := 0) hx hb dX10_isLess_29 (by decide) ?_
    exact J30 false H locs ls h hP hD hS (lv_sub (l' := []) hl [] rfl)
  refine lv_iload_n hx hb dX10_isLess_0 rfl (lv_at hl 0 rfl) ?_
  refine wcalli (S := Unit) (va_runS (As := [.int a0]) (rest := []) ⟨hx, hb, hml, hown, hts⟩ (c_X10_isNan l dC dI cI cT cS H.size ws  a0 _ rfl) (va_cwS 1 hts (gWS (List.mem_of_getElem? (i := 1) rfl) (List.mem_of_getElem? (i := 2) rfl) (List.mem_of_getElem? (i := 3) rfl) ic_X10_isLess_c_X10_isNan gd_c_X10_isNan) rfl rfl rfl (by decide +kernel) ⟨(Nat.le_of_ble_eq_true rfl), (Nat.le_of_ble_eq_true rfl)⟩) (gpS hP hK hD) rfl rfl hl.1 rfl (lv_room (Nat.le_of_ble_eq_true rfl)) dX10_isLess_1 ⟨(Nat.le_of_ble_eq_true rfl), (Nat.le_of_ble_eq_true rfl)⟩) hP hD hS hA (fun rr1 _ H locs hr1 hP hD hS => ?_)
  refine lv_nm (y := b2i (zf_X10_isNan a0)) hr1 ?_
  refine lv_if_ne (tgt := 29) hx hb dX10_isLess_4 (by decide) (fun c2 => ?_) (fun c2 => ?_)
  · replace h := ifp (b2i_1 c2) h
    exact J29  H locs ls h hP hD hS (lv_sub (l' := []) hl [] rfl)
  · replace h := ifn (b2i_0 c2) h
    refine lv_iload_n hx hb dX10_isLess_7 rfl (lv_at hl 1 rfl) ?_
    refine wcalli (S := Unit) (va_runS (As := [.int a1]) (rest := []) ⟨hx, hb, hml, hown, hts⟩ (c_X10_isNan l dC dI cI cT cS H.size ws  a1 _ rfl) (va_cwS 1 hts (gWS (List.mem_of_getElem? (i := 1) rfl) (List.mem_of_getElem? (i := 2) rfl) (List.mem_of_getElem? (i := 3) rfl) ic_X10_isLess_c_X10_isNan gd_c_X10_isNan) rfl rfl rfl (by decide +kernel) ⟨(Nat.le_of_ble_eq_true rfl), (Nat.le_of_ble_eq_true rfl)⟩) (gpS hP hK hD) rfl rfl hl.1 rfl (lv_room (Nat.le_of_ble_eq_true rfl)) dX10_isLess_8 ⟨(Nat.le_of_ble_eq_true rfl), (Nat.le_of_ble_eq_true rfl)⟩) hP hD hS hA (fun rr3 _ H locs hr3 hP hD hS => ?_)
    refine lv_nm (y := b2i (zf_X10_isNan a1)) hr3 ?_
    refine lv_if_ne (tgt := 29) hx hb dX10_isLess_11 (by decide) (fun c4 => ?_) (fun c4 => ?_)
    · replace h := ifp (b2i_1 c4) h
      exact J29  H locs ls h hP hD hS (lv_sub (l' := []) hl [] rfl)
    · replace h := ifn (b2i_0 c4) h
      refine lv_iload_n hx hb dX10_isLess_14 rfl (lv_at hl 0 rfl) ?_
      refine wcalli (S := Unit) (va_runS (As := [.int a0]) (rest := []) ⟨hx, hb, hml, hown, hts⟩ (c_X10_place l dC dI cI cT cS H.size ws  a0 _ rfl) (va_cwS 1 hts (gWS (List.mem_of_getElem? (i := 4) rfl) (List.mem_of_getElem? (i := 5) rfl) (List.mem_of_getElem? (i := 3) rfl) ic_X10_isLess_c_X10_place gd_c_X10_place) rfl rfl rfl (by decide +kernel) ⟨(Nat.le_of_ble_eq_true rfl), (Nat.le_of_ble_eq_true rfl)⟩) (gpS hP hK hD) rfl rfl hl.1 rfl (lv_room (Nat.le_of_ble_eq_true rfl)) dX10_isLess_15 ⟨(Nat.le_of_ble_eq_true rfl), (Nat.le_of_ble_eq_true rfl)⟩) hP hD hS hA (fun rr5 _ H locs hr5 hP hD hS => ?_)
      refine lv_nm (y := (zf_X10_place a0)) hr5 ?_
      refine lv_iload_n hx hb dX10_isLess_18 rfl (lv_at hl 1 rfl) ?_
      refine wcalli (S := Unit) (va_runS (As := [.int a1]) (rest := [.int (zf_X10_place a0)]) ⟨hx, hb, hml, hown, hts⟩ (c_X10_place l dC dI cI cT cS H.size ws  a1 _ rfl) (va_cwS 1 hts (gWS (List.mem_of_getElem? (i := 4) rfl) (List.mem_of_getElem? (i := 5) rfl) (List.mem_of_getElem? (i := 3) rfl) ic_X10_isLess_c_X10_place gd_c_X10_place) rfl rfl rfl (by decide +kernel) ⟨(Nat.le_of_ble_eq_true rfl), (Nat.le_of_ble_eq_true rfl)⟩) (gpS hP hK hD) rfl rfl hl.1 rfl (lv_room (Nat.le_of_ble_eq_true rfl)) dX10_isLess_19 ⟨(Nat.le_of_ble_eq_true rfl), (Nat.le_of_ble_eq_true rfl)⟩) hP hD hS hA (fun rr6 _ H locs hr6 hP hD hS => ?_)
      refine lv_nm (y := (zf_X10_place a1)) hr6 ?_
      refine lv_icmp_ge (tgt := 29) hx hb dX10_isLess_22 (by decide) (fun c7 => ?_) (fun c7 => ?_)
      · replace h := ifp (c7) h
        exact J29  H locs ls h hP hD hS (lv_sub (l' := []) hl [] rfl)
      · replace h := ifn (c7) h
        refine lv_iconst (v := 1) hx hb dX10_isLess_25 (by decide) ?_
        refine lv_goto (tgt := 30) hx hb dX10_isLess_26 (by decide) ?_
        exact J30 true H locs ls h hP hD hS (lv_sub (l' := []) hl [] rfl)
def zb_X10_isCode_55 (w0_55 : Bool) : Bool := w0_55
def zb_X10_isCode_54  : Bool := (zb_X10_isCode_55 false)
def zf_X10_isCode (a0 : Int32) (a1 : Int32) (a2 : Int32) (a3 : Int32) : Bool := (if (zf_X10_in (a0.toInt64) (0 : Int64) (9 : Int64)) = true then (if (zf_X10_in (a1.toInt64) (0 : Int64) (23 : Int64)) = true then (if (zf_X10_in (a2.toInt64) (-30000 : Int64) (30000 : Int64)) = true then (if (zf_X10_in (a3.toInt64) (0 : Int64) (7 : Int64)) = true then (zb_X10_isCode_55 true) else zb_X10_isCode_54) else zb_X10_isCode_54) else zb_X10_isCode_54) else zb_X10_isCode_54)
def oc_X10_isCode : List Cond := [.constantLong RX10 148 (9), .methodLink RX10 86 yX10_in, .static yX10_in, .initialized RX10, .constantLong RX10 150 (23), .constantLong RX10 152 (-30000), .constantLong RX10 154 (30000), .constantLong RX10 156 (7)]
def vc_X10_isCode : List Cond := .code yX10_isCode cX10_isCode 4 (some .boolean) :: (oc_X10_isCode ++ (vc_X10_in))
theorem ic_X10_isCode_c_X10_in : ∀ w ∈ vc_X10_in, w ∈ vc_X10_isCode := fun _ h => List.mem_cons_of_mem _ (List.mem_append_right _ (h))
theorem gd_c_X10_isCode : (vc_X10_isCode).all goodWord = true := gall_cons rfl (gall_app (by decide +kernel) gd_c_X10_in)
set_option maxHeartbeats 4000000 in
set_option maxRecDepth 100000 in
theorem c_X10_isCode (l : Launch) (dC : Nat → ClassId) (dI : Nat → Nat → Nat) (cI cT cS : ClassId) (sz : Nat) (ws : va_W) (a0 : Int32) (a1 : Int32) (a2 : Int32) (a3 : Int32) (o : Bool) (h : zf_X10_isCode a0 a1 a2 a3 = o) : gCI (S := Unit) l yX10_isCode vc_X10_isCode { frames := 1, cells := 0, slots := 0, locals := 25 } (dC, dI) (gTY cI cT cS) sz [.int a0, .int a1, .int a2, .int a3] ws (fun (r : Int32) (_ : Unit) => r = b2i o) (fun (_ : Unit) => ws) 0 0 := by
  refine Met.ofW (cc := cX10_isCode) (maxL := 4) (ret := (some .boolean)) (by decide) rfl ?_
  intro p e s m args below meth c s₁ B hml hv
  obtain ⟨rfl, hsz, hP, hK, hD0⟩ := hv
  have hx := B.exec
  have hb := B.bytes
  have hr := B.returns
  have hts := atoms_spec (ws := vc_X10_isCode) B.pre
  have hown : s.vm.findClass RX10 = some m.cls := findClass_of_methodNamed B.named
  have hlocks := B.notSynchronized
  subst hsz
  have hD := hD0.self (sz := s.heap.size)
  generalize hAe : va_A ws s.heap.size = A at hD ⊢
  have hA : ∀ q : Nat, s.heap.size ≤ q → A q := fun q h => by rw [← hAe]; exact Or.inr h
  clear hAe hD0
  refine gstart (fun H locs hHe hLe => ?_)
  have hS : va_S A s.heap H locs := by rw [← hHe, ← hLe]; exact va_S.rf
  replace hP : va_P (dC, dI) vwCl ws H := by rw [← hHe]; exact hP
  clear hHe hLe
  have hl := lv_entry ([.int a0, .int a1, .int a2, .int a3]) (n := 4) (Nat.le_of_ble_eq_true rfl)
  rw [lg_entry_eq]
  generalize (lg_sl ([.int a0, .int a1, .int a2, .int a3]) ++ List.replicate (4 - (lg_sl ([.int a0, .int a1, .int a2, .int a3])).length) Slot.unset).toArray = ls at hl ⊢
  replace hl : lv_has ls 4 [(0, .int a0), (1, .int a1), (2, .int a2), (3, .int a3)] := hl
  unfold zf_X10_isCode at h
  have J55 : ∀ (w0_55 : Bool) (H : Heap) (locs : List Loc) (ls : Array Slot), zb_X10_isCode_55 w0_55 = o → va_P (dC, dI) vwCl ws H → va_D A ws → va_S A s.heap H locs → lv_has ls 4 [] → W p l e (headSpec vc_X10_isCode { frames := 1, cells := 0, slots := 0, locals := 25 }).room s m (List.toArray (α := Value) [.int a0, .int a1, .int a2, .int a3]) below meth c H locs 0 0 (MQ below (va_Qi (fun (r : Int32) (_ : Unit) => r = b2i o) (gB (dC, dI) A (fun (_ : Unit) => ws)) A) (List.toArray (α := Value) [.int a0, .int a1, .int a2, .int a3]) s 0 0 A) (F0 m 55 ls [.int (b2i w0_55)]) := by
    intro w0_55 H locs ls h hP hD hS hl
    unfold zb_X10_isCode_55 at h
    have h9 := h
    exact wretz hx hb hr hlocks (b2i_or _) hP hD hS (by show _ = _; rw [← h9]; first | done | rfl) rfl dX10_isCode_55
  have J54 : ∀  (H : Heap) (locs : List Loc) (ls : Array Slot), zb_X10_isCode_54 = o → va_P (dC, dI) vwCl ws H → va_D A ws → va_S A s.heap H locs → lv_has ls 4 [] → W p l e (headSpec vc_X10_isCode { frames := 1, cells := 0, slots := 0, locals := 25 }).room s m (List.toArray (α := Value) [.int a0, .int a1, .int a2, .int a3]) below meth c H locs 0 0 (MQ below (va_Qi (fun (r : Int32) (_ : Unit) => r = b2i o) (gB (dC, dI) A (fun (_ : Unit) => ws)) A) (List.toArray (α := Value) [.int a0, .int a1, .int a2, .int a3]) s 0 0 A) (F0 m 54 ls []) := by
    intro  H locs ls h hP hD hS hl
    unfold zb_X10_isCode_54 at h
    refine lv_iconst (v := 0) hx hb dX10_isCode_54 (by decide) ?_
    exact J55 false H locs ls h hP hD hS (lv_sub (l' := []) hl [] rfl)
  refine lv_iload_n hx hb dX10_isCode_0 rfl (lv_at hl 0 rfl) ?_
  refine lv_i2l hx hb dX10_isCode_1 rfl ?_
  refine lv_lconst (v := 0) hx hb dX10_isCode_2 (by decide) ?_
  refine lv_ldc2 (v := 9) hx hb hown (hts (.constantLong RX10 148 (9)) (List.mem_of_getElem? (i := 1) rfl)) dX10_isCode_3 ?_
  refine wcalli (S := Unit) (va_runS (As := [.long (a0.toInt64), .long (0 : Int64), .long (9 : Int64)]) (rest := []) ⟨hx, hb, hml, hown, hts⟩ (c_X10_in l dC dI cI cT cS H.size ws  (a0.toInt64) (0 : Int64) (9 : Int64) _ rfl) (va_cwS 3 hts (gWS (List.mem_of_getElem? (i := 2) rfl) (List.mem_of_getElem? (i := 3) rfl) (List.mem_of_getElem? (i := 4) rfl) ic_X10_isCode_c_X10_in gd_c_X10_in) rfl rfl rfl (by decide +kernel) ⟨(Nat.le_of_ble_eq_true rfl), (Nat.le_of_ble_eq_true rfl)⟩) (gpS hP hK hD) rfl rfl hl.1 rfl (lv_room (Nat.le_of_ble_eq_true rfl)) dX10_isCode_6 ⟨(Nat.le_of_ble_eq_true rfl), (Nat.le_of_ble_eq_true rfl)⟩) hP hD hS hA (fun rr1 _ H locs hr1 hP hD hS => ?_)
  refine lv_nm (y := b2i (zf_X10_in (a0.toInt64) (0 : Int64) (9 : Int64))) hr1 ?_
  refine lv_if_eq (tgt := 54) hx hb dX10_isCode_9 (by decide) (fun c2 => ?_) (fun c2 => ?_)
  · replace h := ifn (b2i_0 c2) h
    exact J54  H locs ls h hP hD hS (lv_sub (l' := []) hl [] rfl)
  · replace h := ifp (b2i_1 c2) h
    refine lv_iload_n hx hb dX10_isCode_12 rfl (lv_at hl 1 rfl) ?_
    refine lv_i2l hx hb dX10_isCode_13 rfl ?_
    refine lv_lconst (v := 0) hx hb dX10_isCode_14 (by decide) ?_
    refine lv_ldc2 (v := 23) hx hb hown (hts (.constantLong RX10 150 (23)) (List.mem_of_getElem? (i := 5) rfl)) dX10_isCode_15 ?_
    refine wcalli (S := Unit) (va_runS (As := [.long (a1.toInt64), .long (0 : Int64), .long (23 : Int64)]) (rest := []) ⟨hx, hb, hml, hown, hts⟩ (c_X10_in l dC dI cI cT cS H.size ws  (a1.toInt64) (0 : Int64) (23 : Int64) _ rfl) (va_cwS 3 hts (gWS (List.mem_of_getElem? (i := 2) rfl) (List.mem_of_getElem? (i := 3) rfl) (List.mem_of_getElem? (i := 4) rfl) ic_X10_isCode_c_X10_in gd_c_X10_in) rfl rfl rfl (by decide +kernel) ⟨(Nat.le_of_ble_eq_true rfl), (Nat.le_of_ble_eq_true rfl)⟩) (gpS hP hK hD) rfl rfl hl.1 rfl (lv_room (Nat.le_of_ble_eq_true rfl)) dX10_isCode_18 ⟨(Nat.le_of_ble_eq_true rfl), (Nat.le_of_ble_eq_true rfl)⟩) hP hD hS hA (fun rr3 _ H locs hr3 hP hD hS => ?_)
    refine lv_nm (y := b2i (zf_X10_in (a1.toInt64) (0 : Int64) (23 : Int64))) hr3 ?_
    refine lv_if_eq (tgt := 54) hx hb dX10_isCode_21 (by decide) (fun c4 => ?_) (fun c4 => ?_)
    · replace h := ifn (b2i_0 c4) h
      exact J54  H locs ls h hP hD hS (lv_sub (l' := []) hl [] rfl)
    · replace h := ifp (b2i_1 c4) h
      refine lv_iload_n hx hb dX10_isCode_24 rfl (lv_at hl 2 rfl) ?_
      refine lv_i2l hx hb dX10_isCode_25 rfl ?_
      refine lv_ldc2 (v := (-30000)) hx hb hown (hts (.constantLong RX10 152 (-30000)) (List.mem_of_getElem? (i := 6) rfl)) dX10_isCode_26 ?_
      refine lv_ldc2 (v := 30000) hx hb hown (hts (.constantLong RX10 154 (30000)) (List.mem_of_getElem? (i := 7) rfl)) dX10_isCode_29 ?_
      refine wcalli (S := Unit) (va_runS (As := [.long (a2.toInt64), .long (-30000 : Int64), .long (30000 : Int64)]) (rest := []) ⟨hx, hb, hml, hown, hts⟩ (c_X10_in l dC dI cI cT cS H.size ws  (a2.toInt64) (-30000 : Int64) (30000 : Int64) _ rfl) (va_cwS 3 hts (gWS (List.mem_of_getElem? (i := 2) rfl) (List.mem_of_getElem? (i := 3) rfl) (List.mem_of_getElem? (i := 4) rfl) ic_X10_isCode_c_X10_in gd_c_X10_in) rfl rfl rfl (by decide +kernel) ⟨(Nat.le_of_ble_eq_true rfl), (Nat.le_of_ble_eq_true rfl)⟩) (gpS hP hK hD) rfl rfl hl.1 rfl (lv_room (Nat.le_of_ble_eq_true rfl)) dX10_isCode_32 ⟨(Nat.le_of_ble_eq_true rfl), (Nat.le_of_ble_eq_true rfl)⟩) hP hD hS hA (fun rr5 _ H locs hr5 hP hD hS => ?_)
      refine lv_nm (y := b2i (zf_X10_in (a2.toInt64) (-30000 : Int64) (30000 : Int64))) hr5 ?_
      refine lv_if_eq (tgt := 54) hx hb dX10_isCode_35 (by decide) (fun c6 => ?_) (fun c6 => ?_)
      · replace h := ifn (b2i_0 c6) h
        exact J54  H locs ls h hP hD hS (lv_sub (l' := []) hl [] rfl)
      · replace h := ifp (b2i_1 c6) h
        refine lv_iload_n hx hb dX10_isCode_38 rfl (lv_at hl 3 rfl) ?_
        refine lv_i2l hx hb dX10_isCode_39 rfl ?_
        refine lv_lconst (v := 0) hx hb dX10_isCode_40 (by decide) ?_
        refine lv_ldc2 (v := 7) hx hb hown (hts (.constantLong RX10 156 (7)) (List.mem_of_getElem? (i := 8) rfl)) dX10_isCode_41 ?_
        refine wcalli (S := Unit) (va_runS (As := [.long (a3.toInt64), .long (0 : Int64), .long (7 : Int64)]) (rest := []) ⟨hx, hb, hml, hown, hts⟩ (c_X10_in l dC dI cI cT cS H.size ws  (a3.toInt64) (0 : Int64) (7 : Int64) _ rfl) (va_cwS 3 hts (gWS (List.mem_of_getElem? (i := 2) rfl) (List.mem_of_getElem? (i := 3) rfl) (List.mem_of_getElem? (i := 4) rfl) ic_X10_isCode_c_X10_in gd_c_X10_in) rfl rfl rfl (by decide +kernel) ⟨(Nat.le_of_ble_eq_true rfl), (Nat.le_of_ble_eq_true rfl)⟩) (gpS hP hK hD) rfl rfl hl.1 rfl (lv_room (Nat.le_of_ble_eq_true rfl)) dX10_isCode_44 ⟨(Nat.le_of_ble_eq_true rfl), (Nat.le_of_ble_eq_true rfl)⟩) hP hD hS hA (fun rr7 _ H locs hr7 hP hD hS => ?_)
        refine lv_nm (y := b2i (zf_X10_in (a3.toInt64) (0 : Int64) (7 : Int64))) hr7 ?_
        refine lv_if_eq (tgt := 54) hx hb dX10_isCode_47 (by decide) (fun c8 => ?_) (fun c8 => ?_)
        · replace h := ifn (b2i_0 c8) h
          exact J54  H locs ls h hP hD hS (lv_sub (l' := []) hl [] rfl)
        · replace h := ifp (b2i_1 c8) h
          refine lv_iconst (v := 1) hx hb dX10_isCode_50 (by decide) ?_
          refine lv_goto (tgt := 55) hx hb dX10_isCode_51 (by decide) ?_
          exact J55 true H locs ls h hP hD hS (lv_sub (l' := []) hl [] rfl)
def zf_X10_lays (a1 : Int32) (a2 : Int32) (a3 : Int32) (a4 : Int32) (a5 : Int32) (σ : Sg) : Option (Sg) := bd ((4 : Int32) * a1) 96 (bd (((4 : Int32) * a1) + (1 : Int32)) 96 (bd (((4 : Int32) * a1) + (2 : Int32)) 96 (bd (((4 : Int32) * a1) + (3 : Int32)) 96 (some (su (su (su (su σ 5 ((4 : Int32) * a1).toNatClampNeg a2) 5 (((4 : Int32) * a1) + (1 : Int32)).toNatClampNeg a3) 5 (((4 : Int32) * a1) + (2 : Int32)).toNatClampNeg a4) 5 (((4 : Int32) * a1) + (3 : Int32)).toNatClampNeg a5)))))
def oc_X10_lays : List Cond := [.fieldLink RX10 22 "TraceTreesModel" "code" "[I"]
def vc_X10_lays : List Cond := .code yX10_lays cX10_lays 6 none :: (oc_X10_lays ++ (wsX100))
theorem iw_X10_lays_X10 : ∀ w ∈ wsX100, w ∈ vc_X10_lays := fun _ h => List.mem_cons_of_mem _ (List.mem_append_right _ (h))
theorem gd_c_X10_lays : (vc_X10_lays).all goodWord = true := gall_cons rfl (gall_app (by decide +kernel) gw_X10)
set_option maxHeartbeats 4000000 in
set_option maxRecDepth 100000 in
theorem c_X10_lays (l : Launch) (dC : Nat → ClassId) (dI : Nat → Nat → Nat) (cI cT cS : ClassId) (sz : Nat) (ad : Nat → Nat) (a1 : Int32) (a2 : Int32) (a3 : Int32) (a4 : Int32) (a5 : Int32) (σ : Sg) (o : Sg) (h : zf_X10_lays a1 a2 a3 a4 a5 σ = some o) : gCV (S := Unit) l yX10_lays vc_X10_lays { frames := 0, cells := 0, slots := 0, locals := 0 } (dC, dI) (gTY cI cT cS) sz [.ref (ad 0), .int a1, .int a2, .int a3, .int a4, .int a5] (Wd 24 (cfR ad cI) σ) (fun (_ : Unit) => True) (fun (_ : Unit) => (Wd 24 (cfR ad cI) o)) 0 0 := by
  refine Met.ofW (cc := cX10_lays) (maxL := 6) (ret := none) (by decide) rfl ?_
  intro p e s m args below meth c s₁ B hml hv
  obtain ⟨rfl, hsz, hP, hK, hD0⟩ := hv
  have hx := B.exec
  have hb := B.bytes
  have hr := B.returns
  have hts := atoms_spec (ws := vc_X10_lays) B.pre
  have hown : s.vm.findClass RX10 = some m.cls := findClass_of_methodNamed B.named
  have hlocks := B.notSynchronized
  subst hsz
  have hD := hD0.self (sz := s.heap.size)
  generalize hAe : va_A (Wd 24 (cfR ad cI) σ) s.heap.size = A at hD ⊢
  have hA : ∀ q : Nat, s.heap.size ≤ q → A q := fun q h => by rw [← hAe]; exact Or.inr h
  clear hAe hD0
  refine gstart (fun H locs hHe hLe => ?_)
  have hS : va_S A s.heap H locs := by rw [← hHe, ← hLe]; exact va_S.rf
  replace hP : va_P (dC, dI) vwCl (Wd 24 (cfR ad cI) σ) H := by rw [← hHe]; exact hP
  clear hHe hLe
  have hl := lv_entry ([.ref (ad 0), .int a1, .int a2, .int a3, .int a4, .int a5]) (n := 6) (Nat.le_of_ble_eq_true rfl)
  rw [lg_entry_eq]
  generalize (lg_sl ([.ref (ad 0), .int a1, .int a2, .int a3, .int a4, .int a5]) ++ List.replicate (6 - (lg_sl ([.ref (ad 0), .int a1, .int a2, .int a3, .int a4, .int a5])).length) Slot.unset).toArray = ls at hl ⊢
  replace hl : lv_has ls 6 [(0, .ref (ad 0)), (1, .int a1), (2, .int a2), (3, .int a3), (4, .int a4), (5, .int a5)] := hl
  unfold zf_X10_lays at h
  refine lv_aload_n hx hb dX10_lays_0 rfl (lv_at hl 0 rfl) ?_
  refine gf_X10_6 hx hb hts iw_X10_lays_X10 hown hK hP (hts (.fieldLink RX10 22 "TraceTreesModel" "code" "[I") (List.mem_of_getElem? (i := 1) rfl)) dX10_lays_1 ?_
  refine lv_iconst (v := 4) hx hb dX10_lays_4 (by decide) ?_
  refine lv_iload_n hx hb dX10_lays_5 rfl (lv_at hl 1 rfl) ?_
  refine lv_imul hx hb dX10_lays_6 ?_
  refine lv_iload_n hx hb dX10_lays_7 rfl (lv_at hl 2 rfl) ?_
  obtain ⟨hi1, h⟩ := bd_inv h
  refine wast hx hb hK hP hD hS aR5 hi1 dX10_lays_8 (fun H locs hP hD hS => ?_)
  refine lv_aload_n hx hb dX10_lays_9 rfl (lv_at hl 0 rfl) ?_
  refine gf_X10_6 hx hb hts iw_X10_lays_X10 hown hK hP (hts (.fieldLink RX10 22 "TraceTreesModel" "code" "[I") (List.mem_of_getElem? (i := 1) rfl)) dX10_lays_10 ?_
  refine lv_iconst (v := 4) hx hb dX10_lays_13 (by decide) ?_
  refine lv_iload_n hx hb dX10_lays_14 rfl (lv_at hl 1 rfl) ?_
  refine lv_imul hx hb dX10_lays_15 ?_
  refine lv_iconst (v := 1) hx hb dX10_lays_16 (by decide) ?_
  refine lv_iadd hx hb dX10_lays_17 ?_
  refine lv_iload_n hx hb dX10_lays_18 rfl (lv_at hl 3 rfl) ?_
  obtain ⟨hi2, h⟩ := bd_inv h
  refine wast hx hb hK hP hD hS aR5 hi2 dX10_lays_19 (fun H locs hP hD hS => ?_)
  refine lv_aload_n hx hb dX10_lays_20 rfl (lv_at hl 0 rfl) ?_
  refine gf_X10_6 hx hb hts iw_X10_lays_X10 hown hK hP (hts (.fieldLink RX10 22 "TraceTreesModel" "code" "[I") (List.mem_of_getElem? (i := 1) rfl)) dX10_lays_21 ?_
  refine lv_iconst (v := 4) hx hb dX10_lays_24 (by decide) ?_
  refine lv_iload_n hx hb dX10_lays_25 rfl (lv_at hl 1 rfl) ?_
  refine lv_imul hx hb dX10_lays_26 ?_
  refine lv_iconst (v := 2) hx hb dX10_lays_27 (by decide) ?_
  refine lv_iadd hx hb dX10_lays_28 ?_
  refine lv_iload hx hb dX10_lays_29 (lv_at hl 4 rfl) ?_
  obtain ⟨hi3, h⟩ := bd_inv h
  refine wast hx hb hK hP hD hS aR5 hi3 dX10_lays_31 (fun H locs hP hD hS => ?_)
  refine lv_aload_n hx hb dX10_lays_32 rfl (lv_at hl 0 rfl) ?_
  refine gf_X10_6 hx hb hts iw_X10_lays_X10 hown hK hP (hts (.fieldLink RX10 22 "TraceTreesModel" "code" "[I") (List.mem_of_getElem? (i := 1) rfl)) dX10_lays_33 ?_
  refine lv_iconst (v := 4) hx hb dX10_lays_36 (by decide) ?_
  refine lv_iload_n hx hb dX10_lays_37 rfl (lv_at hl 1 rfl) ?_
  refine lv_imul hx hb dX10_lays_38 ?_
  refine lv_iconst (v := 3) hx hb dX10_lays_39 (by decide) ?_
  refine lv_iadd hx hb dX10_lays_40 ?_
  refine lv_iload hx hb dX10_lays_41 (lv_at hl 5 rfl) ?_
  obtain ⟨hi4, h⟩ := bd_inv h
  refine wast hx hb hK hP hD hS aR5 hi4 dX10_lays_43 (fun H locs hP hD hS => ?_)
  have h9 := Option.some.inj h
  exact wretv hx hb hr hlocks hP hD hS trivial (by rw [← h9]) dX10_lays_44
def zf_X10_add (a1 : Int32) (a2 : Int32) (a3 : Int32) (a4 : Int32) (σ : Sg) : Option (Int32 × Sg) := (if (zf_X10_isCode a1 a2 a3 a4) = true then (if (σ 0 5) = (24 : Int32) then some ((-4 : Int32), σ) else obd (zf_X10_lays (σ 0 5) a1 a2 a3 a4 σ) (fun σ4 => some (((σ4 0 5) + (1 : Int32)), su σ4 0 5 ((σ4 0 5) + (1 : Int32))))) else some ((-2 : Int32), σ))
def oc_X10_add : List Cond := [.methodLink RX10 158 yX10_isCode, .static yX10_isCode, .initialized RX10, .fieldLink RX10 162 "TraceTreesModel" "codes" "I", .methodLink RX10 165 yX10_lays, .instanceMethod yX10_lays, .selects RX10 yX10_lays yX10_lays]
def vc_X10_add : List Cond := .code yX10_add cX10_add 5 (some .int) :: (oc_X10_add ++ (wsX100 ++ (vc_X10_isCode ++ (vc_X10_lays))))
theorem iw_X10_add_X10 : ∀ w ∈ wsX100, w ∈ vc_X10_add := fun _ h => List.mem_cons_of_mem _ (List.mem_append_right _ (List.mem_append_left _ h))
theorem ic_X10_add_c_X10_isCode : ∀ w ∈ vc_X10_isCode, w ∈ vc_X10_add := fun _ h => List.mem_cons_of_mem _ (List.mem_append_right _ (List.mem_append_right _ (List.mem_append_left _ h)))
theorem ic_X10_add_c_X10_lays : ∀ w ∈ vc_X10_lays, w ∈ vc_X10_add := fun _ h => List.mem_cons_of_mem _ (List.mem_append_right _ (List.mem_append_right _ (List.mem_append_right _ (h))))
theorem gd_c_X10_add : (vc_X10_add).all goodWord = true := gall_cons rfl (gall_app (by decide +kernel) (gall_app gw_X10 (gall_app gd_c_X10_isCode gd_c_X10_lays)))
set_option maxHeartbeats 4000000 in
set_option maxRecDepth 100000 in
theorem c_X10_add (l : Launch) (dC : Nat → ClassId) (dI : Nat → Nat → Nat) (cI cT cS : ClassId) (sz : Nat) (ad : Nat → Nat) (a1 : Int32) (a2 : Int32) (a3 : Int32) (a4 : Int32) (σ : Sg) (o : Int32 × Sg) (h : zf_X10_add a1 a2 a3 a4 σ = some o) : gCI (S := Unit) l yX10_add vc_X10_add { frames := 2, cells := 0, slots := 0, locals := 48 } (dC, dI) (gTY cI cT cS) sz [.ref (ad 0), .int a1, .int a2, .int a3, .int a4] (Wd 24 (cfR ad cI) σ) (fun (r : Int32) (_ : Unit) => r = o.1) (fun (_ : Unit) => (Wd 24 (cfR ad cI) o.2)) 0 0 := by
  refine Met.ofW (cc := cX10_add) (maxL := 5) (ret := (some .int)) (by decide) rfl ?_
  intro p e s m args below meth c s₁ B hml hv
  obtain ⟨rfl, hsz, hP, hK, hD0⟩ := hv
  have hx := B.exec
  have hb := B.bytes
  have hr := B.returns
  have hts := atoms_spec (ws := vc_X10_add) B.pre
  have hown : s.vm.findClass RX10 = some m.cls := findClass_of_methodNamed B.named
  have hlocks := B.notSynchronized
  subst hsz
  have hD := hD0.self (sz := s.heap.size)
  generalize hAe : va_A (Wd 24 (cfR ad cI) σ) s.heap.size = A at hD ⊢
  have hA : ∀ q : Nat, s.heap.size ≤ q → A q := fun q h => by rw [← hAe]; exact Or.inr h
  clear hAe hD0
  refine gstart (fun H locs hHe hLe => ?_)
  have hS : va_S A s.heap H locs := by rw [← hHe, ← hLe]; exact va_S.rf
  replace hP : va_P (dC, dI) vwCl (Wd 24 (cfR ad cI) σ) H := by rw [← hHe]; exact hP
  clear hHe hLe
  have hl := lv_entry ([.ref (ad 0), .int a1, .int a2, .int a3, .int a4]) (n := 5) (Nat.le_of_ble_eq_true rfl)
  rw [lg_entry_eq]
  generalize (lg_sl ([.ref (ad 0), .int a1, .int a2, .int a3, .int a4]) ++ List.replicate (5 - (lg_sl ([.ref (ad 0), .int a1, .int a2, .int a3, .int a4])).length) Slot.unset).toArray = ls at hl ⊢
  replace hl : lv_has ls 5 [(0, .ref (ad 0)), (1, .int a1), (2, .int a2), (3, .int a3), (4, .int a4)] := hl
  unfold zf_X10_add at h
  refine lv_iload_n hx hb dX10_add_0 rfl (lv_at hl 1 rfl) ?_
  refine lv_iload_n hx hb dX10_add_1 rfl (lv_at hl 2 rfl) ?_
  refine lv_iload_n hx hb dX10_add_2 rfl (lv_at hl 3 rfl) ?_
  refine lv_iload hx hb dX10_add_3 (lv_at hl 4 rfl) ?_
  refine wcalli (S := Unit) (va_runS (As := [.int a1, .int a2, .int a3, .int a4]) (rest := []) ⟨hx, hb, hml, hown, hts⟩ (c_X10_isCode l dC dI cI cT cS H.size (Wd 24 (cfR ad cI) σ)  a1 a2 a3 a4 _ rfl) (va_cwS 4 hts (gWS (List.mem_of_getElem? (i := 1) rfl) (List.mem_of_getElem? (i := 2) rfl) (List.mem_of_getElem? (i := 3) rfl) ic_X10_add_c_X10_isCode gd_c_X10_isCode) rfl rfl rfl (by decide +kernel) ⟨(Nat.le_of_ble_eq_true rfl), (Nat.le_of_ble_eq_true rfl)⟩) (gpS hP hK hD) rfl rfl hl.1 rfl (lv_room (Nat.le_of_ble_eq_true rfl)) dX10_add_5 ⟨(Nat.le_of_ble_eq_true rfl), (Nat.le_of_ble_eq_true rfl)⟩) hP hD hS hA (fun rr1 _ H locs hr1 hP hD hS => ?_)
  refine lv_nm (y := b2i (zf_X10_isCode a1 a2 a3 a4)) hr1 ?_
  refine lv_if_ne (tgt := 14) hx hb dX10_add_8 (by decide) (fun c2 => ?_) (fun c2 => ?_)
  · replace h := ifp (b2i_1 c2) h
    refine lv_aload_n hx hb dX10_add_14 rfl (lv_at hl 0 rfl) ?_
    refine gf_X10_5 hx hb hts iw_X10_add_X10 hown hK hP (hts (.fieldLink RX10 162 "TraceTreesModel" "codes" "I") (List.mem_of_getElem? (i := 4) rfl)) dX10_add_15 ?_
    refine lv_bipush (v := 24) hx hb dX10_add_18 (by decide) ?_
    refine lv_icmp_ne (tgt := 26) hx hb dX10_add_20 (by decide) (fun c3 => ?_) (fun c3 => ?_)
    · replace h := ifn (c3) h
      refine lv_aload_n hx hb dX10_add_26 rfl (lv_at hl 0 rfl) ?_
      refine lv_aload_n hx hb dX10_add_27 rfl (lv_at hl 0 rfl) ?_
      refine gf_X10_5 hx hb hts iw_X10_add_X10 hown hK hP (hts (.fieldLink RX10 162 "TraceTreesModel" "codes" "I") (List.mem_of_getElem? (i := 4) rfl)) dX10_add_28 ?_
      refine lv_iload_n hx hb dX10_add_31 rfl (lv_at hl 1 rfl) ?_
      refine lv_iload_n hx hb dX10_add_32 rfl (lv_at hl 2 rfl) ?_
      refine lv_iload_n hx hb dX10_add_33 rfl (lv_at hl 3 rfl) ?_
      refine lv_iload hx hb dX10_add_34 (lv_at hl 4 rfl) ?_
      obtain ⟨σ4, hc4, h⟩ := obd_inv h
      refine wcallv (S := Unit) (va_runV (As := [.int (σ 0 5), .int a1, .int a2, .int a3, .int a4]) (rest := []) ⟨hx, hb, hml, hown, hts⟩ (c_X10_lays l dC dI cI cT cS H.size ad  (σ 0 5) a1 a2 a3 a4 σ _ hc4) (cwV 5 hts (gWV (List.mem_of_getElem? (i := 5) rfl) (List.mem_of_getElem? (i := 6) rfl) (List.mem_of_getElem? (i := 7) rfl) (List.mem_of_getElem? (i := 3) rfl) ic_X10_add_c_X10_lays gd_c_X10_lays) rfl rfl rfl (by decide +kernel) ⟨(Nat.le_of_ble_eq_true rfl), (Nat.le_of_ble_eq_true rfl)⟩) (wpV (q := (RX10, TX10, 46)) hP hK hD oX10 rfl) rfl rfl hl.1 rfl (lv_room (Nat.le_of_ble_eq_true rfl)) dX10_add_36 ⟨(Nat.le_of_ble_eq_true rfl), (Nat.le_of_ble_eq_true rfl)⟩) hP hD hS hA (fun _ H locs hr5 hP hD hS => ?_)
      replace hP : va_P (dC, dI) vwCl (Wd 24 (cfR ad cI) σ4) H := hP
      replace hD : va_D A (Wd 24 (cfR ad cI) σ4) := hD
      refine lv_aload_n hx hb dX10_add_39 rfl (lv_at hl 0 rfl) ?_
      refine lv_dup hx hb dX10_add_40 rfl ?_
      refine gf_X10_5 hx hb hts iw_X10_add_X10 hown hK hP (hts (.fieldLink RX10 162 "TraceTreesModel" "codes" "I") (List.mem_of_getElem? (i := 4) rfl)) dX10_add_41 ?_
      refine lv_iconst (v := 1) hx hb dX10_add_44 (by decide) ?_
      refine lv_iadd hx hb dX10_add_45 ?_
      refine pf_X10_5 hx hb hts iw_X10_add_X10 hown hK hP hD hS (hts (.fieldLink RX10 162 "TraceTreesModel" "codes" "I") (List.mem_of_getElem? (i := 4) rfl)) dX10_add_46 (fun H locs hP hD hS => ?_)
      refine lv_aload_n hx hb dX10_add_49 rfl (lv_at hl 0 rfl) ?_
      refine gf_X10_5 hx hb hts iw_X10_add_X10 hown hK hP (hts (.fieldLink RX10 162 "TraceTreesModel" "codes" "I") (List.mem_of_getElem? (i := 4) rfl)) dX10_add_50 ?_
      refine lv_nm (y := ((σ4 0 5) + (1 : Int32))) (su_hit rfl) ?_
      have h9 := Option.some.inj h
      exact wreti hx hb hr hlocks hP hD hS (by show _ = _; rw [← h9]; first | done | rfl) (by rw [← h9]) dX10_add_53
    · replace h := ifp (c3) h
      refine lv_bipush (v := (-4)) hx hb dX10_add_23 (by decide) ?_
      have h9 := Option.some.inj h
      exact wreti hx hb hr hlocks hP hD hS (by show _ = _; rw [← h9]; first | done | rfl) (by rw [← h9]) dX10_add_25
  · replace h := ifn (b2i_0 c2) h
    refine lv_bipush (v := (-2)) hx hb dX10_add_11 (by decide) ?_
    have h9 := Option.some.inj h
    exact wreti hx hb hr hlocks hP hD hS (by show _ = _; rw [← h9]; first | done | rfl) (by rw [← h9]) dX10_add_13
def zf_X10_isPoint (a1 : Int32) (σ : Sg) : Bool := (zf_X10_in (a1.toInt64) (0 : Int64) (((σ 0 5) - (1 : Int32)).toInt64))
def oc_X10_isPoint : List Cond := [.fieldLink RX10 162 "TraceTreesModel" "codes" "I", .methodLink RX10 86 yX10_in, .static yX10_in, .initialized RX10]
def vc_X10_isPoint : List Cond := .code yX10_isPoint cX10_isPoint 2 (some .boolean) :: (oc_X10_isPoint ++ (wsX100 ++ (vc_X10_in)))
theorem iw_X10_isPoint_X10 : ∀ w ∈ wsX100, w ∈ vc_X10_isPoint := fun _ h => List.mem_cons_of_mem _ (List.mem_append_right _ (List.mem_append_left _ h))
theorem ic_X10_isPoint_c_X10_in : ∀ w ∈ vc_X10_in, w ∈ vc_X10_isPoint := fun _ h => List.mem_cons_of_mem _ (List.mem_append_right _ (List.mem_append_right _ (h)))
theorem gd_c_X10_isPoint : (vc_X10_isPoint).all goodWord = true := gall_cons rfl (gall_app (by decide +kernel) (gall_app gw_X10 gd_c_X10_in))
set_option maxHeartbeats 4000000 in
set_option maxRecDepth 100000 in
theorem c_X10_isPoint (l : Launch) (dC : Nat → ClassId) (dI : Nat → Nat → Nat) (cI cT cS : ClassId) (sz : Nat) (ad : Nat → Nat) (a1 : Int32) (σ : Sg) (o : Bool) (h : zf_X10_isPoint a1 σ = o) : gCI (S := Unit) l yX10_isPoint vc_X10_isPoint { frames := 1, cells := 0, slots := 0, locals := 25 } (dC, dI) (gTY cI cT cS) sz [.ref (ad 0), .int a1] (Wd 24 (cfR ad cI) σ) (fun (r : Int32) (_ : Unit) => r = b2i o) (fun (_ : Unit) => (Wd 24 (cfR ad cI) σ)) 0 0 := by
  refine Met.ofW (cc := cX10_isPoint) (maxL := 2) (ret := (some .boolean)) (by decide) rfl ?_
  intro p e s m args below meth c s₁ B hml hv
  obtain ⟨rfl, hsz, hP, hK, hD0⟩ := hv
  have hx := B.exec
  have hb := B.bytes
  have hr := B.returns
  have hts := atoms_spec (ws := vc_X10_isPoint) B.pre
  have hown : s.vm.findClass RX10 = some m.cls := findClass_of_methodNamed B.named
  have hlocks := B.notSynchronized
  subst hsz
  have hD := hD0.self (sz := s.heap.size)
  generalize hAe : va_A (Wd 24 (cfR ad cI) σ) s.heap.size = A at hD ⊢
  have hA : ∀ q : Nat, s.heap.size ≤ q → A q := fun q h => by rw [← hAe]; exact Or.inr h
  clear hAe hD0
  refine gstart (fun H locs hHe hLe => ?_)
  have hS : va_S A s.heap H locs := by rw [← hHe, ← hLe]; exact va_S.rf
  replace hP : va_P (dC, dI) vwCl (Wd 24 (cfR ad cI) σ) H := by rw [← hHe]; exact hP
  clear hHe hLe
  have hl := lv_entry ([.ref (ad 0), .int a1]) (n := 2) (Nat.le_of_ble_eq_true rfl)
  rw [lg_entry_eq]
  generalize (lg_sl ([.ref (ad 0), .int a1]) ++ List.replicate (2 - (lg_sl ([.ref (ad 0), .int a1])).length) Slot.unset).toArray = ls at hl ⊢
  replace hl : lv_has ls 2 [(0, .ref (ad 0)), (1, .int a1)] := hl
  unfold zf_X10_isPoint at h
  refine lv_iload_n hx hb dX10_isPoint_0 rfl (lv_at hl 1 rfl) ?_
  refine lv_i2l hx hb dX10_isPoint_1 rfl ?_
  refine lv_lconst (v := 0) hx hb dX10_isPoint_2 (by decide) ?_
  refine lv_aload_n hx hb dX10_isPoint_3 rfl (lv_at hl 0 rfl) ?_
  refine gf_X10_5 hx hb hts iw_X10_isPoint_X10 hown hK hP (hts (.fieldLink RX10 162 "TraceTreesModel" "codes" "I") (List.mem_of_getElem? (i := 1) rfl)) dX10_isPoint_4 ?_
  refine lv_iconst (v := 1) hx hb dX10_isPoint_7 (by decide) ?_
  refine lv_isub hx hb dX10_isPoint_8 ?_
  refine lv_i2l hx hb dX10_isPoint_9 rfl ?_
  refine wcalli (S := Unit) (va_runS (As := [.long (a1.toInt64), .long (0 : Int64), .long (((σ 0 5) - (1 : Int32)).toInt64)]) (rest := []) ⟨hx, hb, hml, hown, hts⟩ (c_X10_in l dC dI cI cT cS H.size (Wd 24 (cfR ad cI) σ)  (a1.toInt64) (0 : Int64) (((σ 0 5) - (1 : Int32)).toInt64) _ rfl) (va_cwS 3 hts (gWS (List.mem_of_getElem? (i := 2) rfl) (List.mem_of_getElem? (i := 3) rfl) (List.mem_of_getElem? (i := 4) rfl) ic_X10_isPoint_c_X10_in gd_c_X10_in) rfl rfl rfl (by decide +kernel) ⟨(Nat.le_of_ble_eq_true rfl), (Nat.le_of_ble_eq_true rfl)⟩) (gpS hP hK hD) rfl rfl hl.1 rfl (lv_room (Nat.le_of_ble_eq_true rfl)) dX10_isPoint_10 ⟨(Nat.le_of_ble_eq_true rfl), (Nat.le_of_ble_eq_true rfl)⟩) hP hD hS hA (fun rr1 _ H locs hr1 hP hD hS => ?_)
  refine lv_nm (y := b2i (zf_X10_in (a1.toInt64) (0 : Int64) (((σ 0 5) - (1 : Int32)).toInt64))) hr1 ?_
  have h9 := h
  exact wretz hx hb hr hlocks (b2i_or _) hP hD hS (by show _ = _; rw [← h9]; first | done | rfl) rfl dX10_isPoint_13
def zb_X10_alter_20 (σ : Sg) : Option (Int32 × Sg) := some ((-2 : Int32), σ)
def zf_X10_alter (a1 : Int32) (a2 : Int32) (a3 : Int32) (a4 : Int32) (a5 : Int32) (σ : Sg) : Option (Int32 × Sg) := (if (zf_X10_isPoint a1 σ) = true then (if (zf_X10_isCode a2 a3 a4 a5) = true then obd (zf_X10_lays a1 a2 a3 a4 a5 σ) (fun σ5 => some ((1 : Int32), σ5)) else (zb_X10_alter_20 σ)) else (zb_X10_alter_20 σ))
def oc_X10_alter : List Cond := [.methodLink RX10 169 yX10_isPoint, .instanceMethod yX10_isPoint, .selects RX10 yX10_isPoint yX10_isPoint, .initialized RX10, .methodLink RX10 158 yX10_isCode, .static yX10_isCode, .methodLink RX10 165 yX10_lays, .instanceMethod yX10_lays, .selects RX10 yX10_lays yX10_lays]
def vc_X10_alter : List Cond := .code yX10_alter cX10_alter 6 (some .int) :: (oc_X10_alter ++ (vc_X10_isPoint ++ (vc_X10_isCode ++ (vc_X10_lays))))
theorem ic_X10_alter_c_X10_isPoint : ∀ w ∈ vc_X10_isPoint, w ∈ vc_X10_alter := fun _ h => List.mem_cons_of_mem _ (List.mem_append_right _ (List.mem_append_left _ h))
theorem ic_X10_alter_c_X10_isCode : ∀ w ∈ vc_X10_isCode, w ∈ vc_X10_alter := fun _ h => List.mem_cons_of_mem _ (List.mem_append_right _ (List.mem_append_right _ (List.mem_append_left _ h)))
theorem ic_X10_alter_c_X10_lays : ∀ w ∈ vc_X10_lays, w ∈ vc_X10_alter := fun _ h => List.mem_cons_of_mem _ (List.mem_append_right _ (List.mem_append_right _ (List.mem_append_right _ (h))))
theorem gd_c_X10_alter : (vc_X10_alter).all goodWord = true := gall_cons rfl (gall_app (by decide +kernel) (gall_app gd_c_X10_isPoint (gall_app gd_c_X10_isCode gd_c_X10_lays)))
set_option maxHeartbeats 4000000 in
set_option maxRecDepth 100000 in
theorem c_X10_alter (l : Launch) (dC : Nat → ClassId) (dI : Nat → Nat → Nat) (cI cT cS : ClassId) (sz : Nat) (ad : Nat → Nat) (a1 : Int32) (a2 : Int32) (a3 : Int32) (a4 : Int32) (a5 : Int32) (σ : Sg) (o : Int32 × Sg) (h : zf_X10_alter a1 a2 a3 a4 a5 σ = some o) : gCI (S := Unit) l yX10_alter vc_X10_alter { frames := 2, cells := 0, slots := 0, locals := 48 } (dC, dI) (gTY cI cT cS) sz [.ref (ad 0), .int a1, .int a2, .int a3, .int a4, .int a5] (Wd 24 (cfR ad cI) σ) (fun (r : Int32) (_ : Unit) => r = o.1) (fun (_ : Unit) => (Wd 24 (cfR ad cI) o.2)) 0 0 := by
  refine Met.ofW (cc := cX10_alter) (maxL := 6) (ret := (some .int)) (by decide) rfl ?_
  intro p e s m args below meth c s₁ B hml hv
  obtain ⟨rfl, hsz, hP, hK, hD0⟩ := hv
  have hx := B.exec
  have hb := B.bytes
  have hr := B.returns
  have hts := atoms_spec (ws := vc_X10_alter) B.pre
  have hown : s.vm.findClass RX10 = some m.cls := findClass_of_methodNamed B.named
  have hlocks := B.notSynchronized
  subst hsz
  have hD := hD0.self (sz := s.heap.size)
  generalize hAe : va_A (Wd 24 (cfR ad cI) σ) s.heap.size = A at hD ⊢
  have hA : ∀ q : Nat, s.heap.size ≤ q → A q := fun q h => by rw [← hAe]; exact Or.inr h
  clear hAe hD0
  refine gstart (fun H locs hHe hLe => ?_)
  have hS : va_S A s.heap H locs := by rw [← hHe, ← hLe]; exact va_S.rf
  replace hP : va_P (dC, dI) vwCl (Wd 24 (cfR ad cI) σ) H := by rw [← hHe]; exact hP
  clear hHe hLe
  have hl := lv_entry ([.ref (ad 0), .int a1, .int a2, .int a3, .int a4, .int a5]) (n := 6) (Nat.le_of_ble_eq_true rfl)
  rw [lg_entry_eq]
  generalize (lg_sl ([.ref (ad 0), .int a1, .int a2, .int a3, .int a4, .int a5]) ++ List.replicate (6 - (lg_sl ([.ref (ad 0), .int a1, .int a2, .int a3, .int a4, .int a5])).length) Slot.unset).toArray = ls at hl ⊢
  replace hl : lv_has ls 6 [(0, .ref (ad 0)), (1, .int a1), (2, .int a2), (3, .int a3), (4, .int a4), (5, .int a5)] := hl
  unfold zf_X10_alter at h
  have J20 : ∀  (H : Heap) (locs : List Loc) (ls : Array Slot), zb_X10_alter_20 σ = some o → va_P (dC, dI) vwCl (Wd 24 (cfR ad cI) σ) H → va_D A (Wd 24 (cfR ad cI) σ) → va_S A s.heap H locs → lv_has ls 6 [] → W p l e (headSpec vc_X10_alter { frames := 2, cells := 0, slots := 0, locals := 48 }).room s m (List.toArray (α := Value) [.ref (ad 0), .int a1, .int a2, .int a3, .int a4, .int a5]) below meth c H locs 0 0 (MQ below (va_Qi (fun (r : Int32) (_ : Unit) => r = o.1) (gB (dC, dI) A (fun (_ : Unit) => (Wd 24 (cfR ad cI) o.2))) A) (List.toArray (α := Value) [.ref (ad 0), .int a1, .int a2, .int a3, .int a4, .int a5]) s 0 0 A) (F0 m 20 ls []) := by
    intro  H locs ls h hP hD hS hl
    unfold zb_X10_alter_20 at h
    refine lv_bipush (v := (-2)) hx hb dX10_alter_20 (by decide) ?_
    have h9 := Option.some.inj h
    exact wreti hx hb hr hlocks hP hD hS (by show _ = _; rw [← h9]; first | done | rfl) (by rw [← h9]) dX10_alter_22
  refine lv_aload_n hx hb dX10_alter_0 rfl (lv_at hl 0 rfl) ?_
  refine lv_iload_n hx hb dX10_alter_1 rfl (lv_at hl 1 rfl) ?_
  refine wcalli (S := Unit) (va_runV (As := [.int a1]) (rest := []) ⟨hx, hb, hml, hown, hts⟩ (c_X10_isPoint l dC dI cI cT cS H.size ad  a1 σ _ rfl) (cwV 1 hts (gWV (List.mem_of_getElem? (i := 1) rfl) (List.mem_of_getElem? (i := 2) rfl) (List.mem_of_getElem? (i := 3) rfl) (List.mem_of_getElem? (i := 4) rfl) ic_X10_alter_c_X10_isPoint gd_c_X10_isPoint) rfl rfl rfl (by decide +kernel) ⟨(Nat.le_of_ble_eq_true rfl), (Nat.le_of_ble_eq_true rfl)⟩) (wpV (q := (RX10, TX10, 46)) hP hK hD oX10 rfl) rfl rfl hl.1 rfl (lv_room (Nat.le_of_ble_eq_true rfl)) dX10_alter_2 ⟨(Nat.le_of_ble_eq_true rfl), (Nat.le_of_ble_eq_true rfl)⟩) hP hD hS hA (fun rr1 _ H locs hr1 hP hD hS => ?_)
  refine lv_nm (y := b2i (zf_X10_isPoint a1 σ)) hr1 ?_
  refine lv_if_eq (tgt := 20) hx hb dX10_alter_5 (by decide) (fun c2 => ?_) (fun c2 => ?_)
  · replace h := ifn (b2i_0 c2) h
    exact J20  H locs ls h hP hD hS (lv_sub (l' := []) hl [] rfl)
  · replace h := ifp (b2i_1 c2) h
    refine lv_iload_n hx hb dX10_alter_8 rfl (lv_at hl 2 rfl) ?_
    refine lv_iload_n hx hb dX10_alter_9 rfl (lv_at hl 3 rfl) ?_
    refine lv_iload hx hb dX10_alter_10 (lv_at hl 4 rfl) ?_
    refine lv_iload hx hb dX10_alter_12 (lv_at hl 5 rfl) ?_
    refine wcalli (S := Unit) (va_runS (As := [.int a2, .int a3, .int a4, .int a5]) (rest := []) ⟨hx, hb, hml, hown, hts⟩ (c_X10_isCode l dC dI cI cT cS H.size (Wd 24 (cfR ad cI) σ)  a2 a3 a4 a5 _ rfl) (va_cwS 4 hts (gWS (List.mem_of_getElem? (i := 5) rfl) (List.mem_of_getElem? (i := 6) rfl) (List.mem_of_getElem? (i := 4) rfl) ic_X10_alter_c_X10_isCode gd_c_X10_isCode) rfl rfl rfl (by decide +kernel) ⟨(Nat.le_of_ble_eq_true rfl), (Nat.le_of_ble_eq_true rfl)⟩) (gpS hP hK hD) rfl rfl hl.1 rfl (lv_room (Nat.le_of_ble_eq_true rfl)) dX10_alter_14 ⟨(Nat.le_of_ble_eq_true rfl), (Nat.le_of_ble_eq_true rfl)⟩) hP hD hS hA (fun rr3 _ H locs hr3 hP hD hS => ?_)
    refine lv_nm (y := b2i (zf_X10_isCode a2 a3 a4 a5)) hr3 ?_
    refine lv_if_ne (tgt := 23) hx hb dX10_alter_17 (by decide) (fun c4 => ?_) (fun c4 => ?_)
    · replace h := ifp (b2i_1 c4) h
      refine lv_aload_n hx hb dX10_alter_23 rfl (lv_at hl 0 rfl) ?_
      refine lv_iload_n hx hb dX10_alter_24 rfl (lv_at hl 1 rfl) ?_
      refine lv_iload_n hx hb dX10_alter_25 rfl (lv_at hl 2 rfl) ?_
      refine lv_iload_n hx hb dX10_alter_26 rfl (lv_at hl 3 rfl) ?_
      refine lv_iload hx hb dX10_alter_27 (lv_at hl 4 rfl) ?_
      refine lv_iload hx hb dX10_alter_29 (lv_at hl 5 rfl) ?_
      obtain ⟨σ5, hc5, h⟩ := obd_inv h
      refine wcallv (S := Unit) (va_runV (As := [.int a1, .int a2, .int a3, .int a4, .int a5]) (rest := []) ⟨hx, hb, hml, hown, hts⟩ (c_X10_lays l dC dI cI cT cS H.size ad  a1 a2 a3 a4 a5 σ _ hc5) (cwV 5 hts (gWV (List.mem_of_getElem? (i := 7) rfl) (List.mem_of_getElem? (i := 8) rfl) (List.mem_of_getElem? (i := 9) rfl) (List.mem_of_getElem? (i := 4) rfl) ic_X10_alter_c_X10_lays gd_c_X10_lays) rfl rfl rfl (by decide +kernel) ⟨(Nat.le_of_ble_eq_true rfl), (Nat.le_of_ble_eq_true rfl)⟩) (wpV (q := (RX10, TX10, 46)) hP hK hD oX10 rfl) rfl rfl hl.1 rfl (lv_room (Nat.le_of_ble_eq_true rfl)) dX10_alter_31 ⟨(Nat.le_of_ble_eq_true rfl), (Nat.le_of_ble_eq_true rfl)⟩) hP hD hS hA (fun _ H locs hr6 hP hD hS => ?_)
      replace hP : va_P (dC, dI) vwCl (Wd 24 (cfR ad cI) σ5) H := hP
      replace hD : va_D A (Wd 24 (cfR ad cI) σ5) := hD
      refine lv_iconst (v := 1) hx hb dX10_alter_34 (by decide) ?_
      have h9 := Option.some.inj h
      exact wreti hx hb hr hlocks hP hD hS (by show _ = _; rw [← h9]; first | done | rfl) (by rw [← h9]) dX10_alter_35
    · replace h := ifn (b2i_0 c4) h
      exact J20  H locs ls h hP hD hS (lv_sub (l' := []) hl [] rfl)
def zf_X10_back (σ : Sg) : Int32 × Sg := (if (σ 0 5) = 0 then ((-3 : Int32), σ) else (((σ 0 5) - (1 : Int32)), su σ 0 5 ((σ 0 5) - (1 : Int32))))
def oc_X10_back : List Cond := [.fieldLink RX10 162 "TraceTreesModel" "codes" "I"]
def vc_X10_back : List Cond := .code yX10_back cX10_back 1 (some .int) :: (oc_X10_back ++ (wsX100))
theorem iw_X10_back_X10 : ∀ w ∈ wsX100, w ∈ vc_X10_back := fun _ h => List.mem_cons_of_mem _ (List.mem_append_right _ (h))
theorem gd_c_X10_back : (vc_X10_back).all goodWord = true := gall_cons rfl (gall_app (by decide +kernel) gw_X10)
set_option maxHeartbeats 4000000 in
set_option maxRecDepth 100000 in
theorem c_X10_back (l : Launch) (dC : Nat → ClassId) (dI : Nat → Nat → Nat) (cI cT cS : ClassId) (sz : Nat) (ad : Nat → Nat) (σ : Sg) (o : Int32 × Sg) (h : zf_X10_back σ = o) : gCI (S := Unit) l yX10_back vc_X10_back { frames := 0, cells := 0, slots := 0, locals := 0 } (dC, dI) (gTY cI cT cS) sz [.ref (ad 0)] (Wd 24 (cfR ad cI) σ) (fun (r : Int32) (_ : Unit) => r = o.1) (fun (_ : Unit) => (Wd 24 (cfR ad cI) o.2)) 0 0 := by
  refine Met.ofW (cc := cX10_back) (maxL := 1) (ret := (some .int)) (by decide) rfl ?_
  intro p e s m args below meth c s₁ B hml hv
  obtain ⟨rfl, hsz, hP, hK, hD0⟩ := hv
  have hx := B.exec
  have hb := B.bytes
  have hr := B.returns
  have hts := atoms_spec (ws := vc_X10_back) B.pre
  have hown : s.vm.findClass RX10 = some m.cls := findClass_of_methodNamed B.named
  have hlocks := B.notSynchronized
  subst hsz
  have hD := hD0.self (sz := s.heap.size)
  generalize hAe : va_A (Wd 24 (cfR ad cI) σ) s.heap.size = A at hD ⊢
  have hA : ∀ q : Nat, s.heap.size ≤ q → A q := fun q h => by rw [← hAe]; exact Or.inr h
  clear hAe hD0
  refine gstart (fun H locs hHe hLe => ?_)
  have hS : va_S A s.heap H locs := by rw [← hHe, ← hLe]; exact va_S.rf
  replace hP : va_P (dC, dI) vwCl (Wd 24 (cfR ad cI) σ) H := by rw [← hHe]; exact hP
  clear hHe hLe
  have hl := lv_entry ([.ref (ad 0)]) (n := 1) (Nat.le_of_ble_eq_true rfl)
  rw [lg_entry_eq]
  generalize (lg_sl ([.ref (ad 0)]) ++ List.replicate (1 - (lg_sl ([.ref (ad 0)])).length) Slot.unset).toArray = ls at hl ⊢
  replace hl : lv_has ls 1 [(0, .ref (ad 0))] := hl
  unfold zf_X10_back at h
  refine lv_aload_n hx hb dX10_back_0 rfl (lv_at hl 0 rfl) ?_
  refine gf_X10_5 hx hb hts iw_X10_back_X10 hown hK hP (hts (.fieldLink RX10 162 "TraceTreesModel" "codes" "I") (List.mem_of_getElem? (i := 1) rfl)) dX10_back_1 ?_
  refine lv_if_ne (tgt := 10) hx hb dX10_back_4 (by decide) (fun c1 => ?_) (fun c1 => ?_)
  · replace h := ifn (c1) h
    refine lv_aload_n hx hb dX10_back_10 rfl (lv_at hl 0 rfl) ?_
    refine lv_dup hx hb dX10_back_11 rfl ?_
    refine gf_X10_5 hx hb hts iw_X10_back_X10 hown hK hP (hts (.fieldLink RX10 162 "TraceTreesModel" "codes" "I") (List.mem_of_getElem? (i := 1) rfl)) dX10_back_12 ?_
    refine lv_iconst (v := 1) hx hb dX10_back_15 (by decide) ?_
    refine lv_isub hx hb dX10_back_16 ?_
    refine pf_X10_5 hx hb hts iw_X10_back_X10 hown hK hP hD hS (hts (.fieldLink RX10 162 "TraceTreesModel" "codes" "I") (List.mem_of_getElem? (i := 1) rfl)) dX10_back_17 (fun H locs hP hD hS => ?_)
    refine lv_aload_n hx hb dX10_back_20 rfl (lv_at hl 0 rfl) ?_
    refine gf_X10_5 hx hb hts iw_X10_back_X10 hown hK hP (hts (.fieldLink RX10 162 "TraceTreesModel" "codes" "I") (List.mem_of_getElem? (i := 1) rfl)) dX10_back_21 ?_
    refine lv_nm (y := ((σ 0 5) - (1 : Int32))) (su_hit rfl) ?_
    have h9 := h
    exact wreti hx hb hr hlocks hP hD hS (by show _ = _; rw [← h9]; first | done | rfl) (by rw [← h9]) dX10_back_24
  · replace h := ifp (c1) h
    refine lv_bipush (v := (-3)) hx hb dX10_back_7 (by decide) ?_
    have h9 := h
    exact wreti hx hb hr hlocks hP hD hS (by show _ = _; rw [← h9]; first | done | rfl) (by rw [← h9]) dX10_back_9
def zb_X10_code_35 (w0_35 : Int32) : Option (Int32) := some w0_35
def zb_X10_code_33  : Option (Int32) := (zb_X10_code_35 (-2147483648 : Int32))
def zf_X10_code (a1 : Int32) (a2 : Int32) (σ : Sg) : Option (Int32) := (if (zf_X10_isPoint a1 σ) = true then (if (zf_X10_in (a2.toInt64) (0 : Int64) (3 : Int64)) = true then bd (((4 : Int32) * a1) + a2) 96 ((zb_X10_code_35 (σ 5 (((4 : Int32) * a1) + a2).toNatClampNeg))) else zb_X10_code_33) else zb_X10_code_33)
def oc_X10_code : List Cond := [.methodLink RX10 169 yX10_isPoint, .instanceMethod yX10_isPoint, .selects RX10 yX10_isPoint yX10_isPoint, .initialized RX10, .constantLong RX10 93 (3), .methodLink RX10 86 yX10_in, .static yX10_in, .fieldLink RX10 22 "TraceTreesModel" "code" "[I", .constant RX10 113 (-2147483648)]
def vc_X10_code : List Cond := .code yX10_code cX10_code 3 (some .int) :: (oc_X10_code ++ (wsX100 ++ (vc_X10_isPoint ++ (vc_X10_in))))
theorem iw_X10_code_X10 : ∀ w ∈ wsX100, w ∈ vc_X10_code := fun _ h => List.mem_cons_of_mem _ (List.mem_append_right _ (List.mem_append_left _ h))
theorem ic_X10_code_c_X10_isPoint : ∀ w ∈ vc_X10_isPoint, w ∈ vc_X10_code := fun _ h => List.mem_cons_of_mem _ (List.mem_append_right _ (List.mem_append_right _ (List.mem_append_left _ h)))
theorem ic_X10_code_c_X10_in : ∀ w ∈ vc_X10_in, w ∈ vc_X10_code := fun _ h => List.mem_cons_of_mem _ (List.mem_append_right _ (List.mem_append_right _ (List.mem_append_right _ (h))))
theorem gd_c_X10_code : (vc_X10_code).all goodWord = true := gall_cons rfl (gall_app (by decide +kernel) (gall_app gw_X10 (gall_app gd_c_X10_isPoint gd_c_X10_in)))
set_option maxHeartbeats 4000000 in
set_option maxRecDepth 100000 in
theorem c_X10_code (l : Launch) (dC : Nat → ClassId) (dI : Nat → Nat → Nat) (cI cT cS : ClassId) (sz : Nat) (ad : Nat → Nat) (a1 : Int32) (a2 : Int32) (σ : Sg) (o : Int32) (h : zf_X10_code a1 a2 σ = some o) : gCI (S := Unit) l yX10_code vc_X10_code { frames := 2, cells := 0, slots := 0, locals := 46 } (dC, dI) (gTY cI cT cS) sz [.ref (ad 0), .int a1, .int a2] (Wd 24 (cfR ad cI) σ) (fun (r : Int32) (_ : Unit) => r = o) (fun (_ : Unit) => (Wd 24 (cfR ad cI) σ)) 0 0 := by
  refine Met.ofW (cc := cX10_code) (maxL := 3) (ret := (some .int)) (by decide) rfl ?_
  intro p e s m args below meth c s₁ B hml hv
  obtain ⟨rfl, hsz, hP, hK, hD0⟩ := hv
  have hx := B.exec
  have hb := B.bytes
  have hr := B.returns
  have hts := atoms_spec (ws := vc_X10_code) B.pre
  have hown : s.vm.findClass RX10 = some m.cls := findClass_of_methodNamed B.named
  have hlocks := B.notSynchronized
  subst hsz
  have hD := hD0.self (sz := s.heap.size)
  generalize hAe : va_A (Wd 24 (cfR ad cI) σ) s.heap.size = A at hD ⊢
  have hA : ∀ q : Nat, s.heap.size ≤ q → A q := fun q h => by rw [← hAe]; exact Or.inr h
  clear hAe hD0
  refine gstart (fun H locs hHe hLe => ?_)
  have hS : va_S A s.heap H locs := by rw [← hHe, ← hLe]; exact va_S.rf
  replace hP : va_P (dC, dI) vwCl (Wd 24 (cfR ad cI) σ) H := by rw [← hHe]; exact hP
  clear hHe hLe
  have hl := lv_entry ([.ref (ad 0), .int a1, .int a2]) (n := 3) (Nat.le_of_ble_eq_true rfl)
  rw [lg_entry_eq]
  generalize (lg_sl ([.ref (ad 0), .int a1, .int a2]) ++ List.replicate (3 - (lg_sl ([.ref (ad 0), .int a1, .int a2])).length) Slot.unset).toArray = ls at hl ⊢
  replace hl : lv_has ls 3 [(0, .ref (ad 0)), (1, .int a1), (2, .int a2)] := hl
  unfold zf_X10_code at h
  have J35 : ∀ (w0_35 : Int32) (H : Heap) (locs : List Loc) (ls : Array Slot), zb_X10_code_35 w0_35 = some o → va_P (dC, dI) vwCl (Wd 24 (cfR ad cI) σ) H → va_D A (Wd 24 (cfR ad cI) σ) → va_S A s.heap H locs → lv_has ls 3 [] → W p l e (headSpec vc_X10_code { frames := 2, cells := 0, slots := 0, locals := 46 }).room s m (List.toArray (α := Value) [.ref (ad 0), .int a1, .int a2]) below meth c H locs 0 0 (MQ below (va_Qi (fun (r : Int32) (_ : Unit) => r = o) (gB (dC, dI) A (fun (_ : Unit) => (Wd 24 (cfR ad cI) σ))) A) (List.toArray (α := Value) [.ref (ad 0), .int a1, .int a2]) s 0 0 A) (F0 m 35 ls [.int w0_35]) := by
    intro w0_35 H locs ls h hP hD hS hl
    unfold zb_X10_code_35 at h
    have h9 := Option.some.inj h
    exact wreti hx hb hr hlocks hP hD hS (by show _ = _; rw [← h9]; first | done | rfl) rfl dX10_code_35
  have J33 : ∀  (H : Heap) (locs : List Loc) (ls : Array Slot), zb_X10_code_33 = some o → va_P (dC, dI) vwCl (Wd 24 (cfR ad cI) σ) H → va_D A (Wd 24 (cfR ad cI) σ) → va_S A s.heap H locs → lv_has ls 3 [] → W p l e (headSpec vc_X10_code { frames := 2, cells := 0, slots := 0, locals := 46 }).room s m (List.toArray (α := Value) [.ref (ad 0), .int a1, .int a2]) below meth c H locs 0 0 (MQ below (va_Qi (fun (r : Int32) (_ : Unit) => r = o) (gB (dC, dI) A (fun (_ : Unit) => (Wd 24 (cfR ad cI) σ))) A) (List.toArray (α := Value) [.ref (ad 0), .int a1, .int a2]) s 0 0 A) (F0 m 33 ls []) := by
    intro  H locs ls h hP hD hS hl
    unfold zb_X10_code_33 at h
    refine lv_ldc (v := (-2147483648)) hx hb hown (hts (.constant RX10 113 (-2147483648)) (List.mem_of_getElem? (i := 9) rfl)) dX10_code_33 ?_
    exact J35 (-2147483648 : Int32) H locs ls h hP hD hS (lv_sub (l' := []) hl [] rfl)
  refine lv_aload_n hx hb dX10_code_0 rfl (lv_at hl 0 rfl) ?_
  refine lv_iload_n hx hb dX10_code_1 rfl (lv_at hl 1 rfl) ?_
  refine wcalli (S := Unit) (va_runV (As := [.int a1]) (rest := []) ⟨hx, hb, hml, hown, hts⟩ (c_X10_isPoint l dC dI cI cT cS H.size ad  a1 σ _ rfl) (cwV 1 hts (gWV (List.mem_of_getElem? (i := 1) rfl) (List.mem_of_getElem? (i := 2) rfl) (List.mem_of_getElem? (i := 3) rfl) (List.mem_of_getElem? (i := 4) rfl) ic_X10_code_c_X10_isPoint gd_c_X10_isPoint) rfl rfl rfl (by decide +kernel) ⟨(Nat.le_of_ble_eq_true rfl), (Nat.le_of_ble_eq_true rfl)⟩) (wpV (q := (RX10, TX10, 46)) hP hK hD oX10 rfl) rfl rfl hl.1 rfl (lv_room (Nat.le_of_ble_eq_true rfl)) dX10_code_2 ⟨(Nat.le_of_ble_eq_true rfl), (Nat.le_of_ble_eq_true rfl)⟩) hP hD hS hA (fun rr1 _ H locs hr1 hP hD hS => ?_)
  refine lv_nm (y := b2i (zf_X10_isPoint a1 σ)) hr1 ?_
  refine lv_if_eq (tgt := 33) hx hb dX10_code_5 (by decide) (fun c2 => ?_) (fun c2 => ?_)
  · replace h := ifn (b2i_0 c2) h
    exact J33  H locs ls h hP hD hS (lv_sub (l' := []) hl [] rfl)
  · replace h := ifp (b2i_1 c2) h
    refine lv_iload_n hx hb dX10_code_8 rfl (lv_at hl 2 rfl) ?_
    refine lv_i2l hx hb dX10_code_9 rfl ?_
    refine lv_lconst (v := 0) hx hb dX10_code_10 (by decide) ?_
    refine lv_ldc2 (v := 3) hx hb hown (hts (.constantLong RX10 93 (3)) (List.mem_of_getElem? (i := 5) rfl)) dX10_code_11 ?_
    refine wcalli (S := Unit) (va_runS (As := [.long (a2.toInt64), .long (0 : Int64), .long (3 : Int64)]) (rest := []) ⟨hx, hb, hml, hown, hts⟩ (c_X10_in l dC dI cI cT cS H.size (Wd 24 (cfR ad cI) σ)  (a2.toInt64) (0 : Int64) (3 : Int64) _ rfl) (va_cwS 3 hts (gWS (List.mem_of_getElem? (i := 6) rfl) (List.mem_of_getElem? (i := 7) rfl) (List.mem_of_getElem? (i := 4) rfl) ic_X10_code_c_X10_in gd_c_X10_in) rfl rfl rfl (by decide +kernel) ⟨(Nat.le_of_ble_eq_true rfl), (Nat.le_of_ble_eq_true rfl)⟩) (gpS hP hK hD) rfl rfl hl.1 rfl (lv_room (Nat.le_of_ble_eq_true rfl)) dX10_code_14 ⟨(Nat.le_of_ble_eq_true rfl), (Nat.le_of_ble_eq_true rfl)⟩) hP hD hS hA (fun rr3 _ H locs hr3 hP hD hS => ?_)
    refine lv_nm (y := b2i (zf_X10_in (a2.toInt64) (0 : Int64) (3 : Int64))) hr3 ?_
    refine lv_if_eq (tgt := 33) hx hb dX10_code_17 (by decide) (fun c4 => ?_) (fun c4 => ?_)
    · replace h := ifn (b2i_0 c4) h
      exact J33  H locs ls h hP hD hS (lv_sub (l' := []) hl [] rfl)
    · replace h := ifp (b2i_1 c4) h
      refine lv_aload_n hx hb dX10_code_20 rfl (lv_at hl 0 rfl) ?_
      refine gf_X10_6 hx hb hts iw_X10_code_X10 hown hK hP (hts (.fieldLink RX10 22 "TraceTreesModel" "code" "[I") (List.mem_of_getElem? (i := 8) rfl)) dX10_code_21 ?_
      refine lv_iconst (v := 4) hx hb dX10_code_24 (by decide) ?_
      refine lv_iload_n hx hb dX10_code_25 rfl (lv_at hl 1 rfl) ?_
      refine lv_imul hx hb dX10_code_26 ?_
      refine lv_iload_n hx hb dX10_code_27 rfl (lv_at hl 2 rfl) ?_
      refine lv_iadd hx hb dX10_code_28 ?_
      obtain ⟨hi5, h⟩ := bd_inv h
      refine wald hx hb hK hP aR5 hi5 dX10_code_29 ?_
      refine lv_goto (tgt := 35) hx hb dX10_code_30 (by decide) ?_
      exact J35 (σ 5 (((4 : Int32) * a1) + a2).toNatClampNeg) H locs ls h hP hD hS (lv_sub (l' := []) hl [] rfl)
def zf_X10_isRegister (a0 : Int32) : Bool := (zf_X10_in (a0.toInt64) (0 : Int64) (7 : Int64))
def oc_X10_isRegister : List Cond := [.constantLong RX10 156 (7), .methodLink RX10 86 yX10_in, .static yX10_in, .initialized RX10]
def vc_X10_isRegister : List Cond := .code yX10_isRegister cX10_isRegister 1 (some .boolean) :: (oc_X10_isRegister ++ (vc_X10_in))
theorem ic_X10_isRegister_c_X10_in : ∀ w ∈ vc_X10_in, w ∈ vc_X10_isRegister := fun _ h => List.mem_cons_of_mem _ (List.mem_append_right _ (h))
theorem gd_c_X10_isRegister : (vc_X10_isRegister).all goodWord = true := gall_cons rfl (gall_app (by decide +kernel) gd_c_X10_in)
set_option maxHeartbeats 4000000 in
set_option maxRecDepth 100000 in
theorem c_X10_isRegister (l : Launch) (dC : Nat → ClassId) (dI : Nat → Nat → Nat) (cI cT cS : ClassId) (sz : Nat) (ws : va_W) (a0 : Int32) (o : Bool) (h : zf_X10_isRegister a0 = o) : gCI (S := Unit) l yX10_isRegister vc_X10_isRegister { frames := 1, cells := 0, slots := 0, locals := 25 } (dC, dI) (gTY cI cT cS) sz [.int a0] ws (fun (r : Int32) (_ : Unit) => r = b2i o) (fun (_ : Unit) => ws) 0 0 := by
  refine Met.ofW (cc := cX10_isRegister) (maxL := 1) (ret := (some .boolean)) (by decide) rfl ?_
  intro p e s m args below meth c s₁ B hml hv
  obtain ⟨rfl, hsz, hP, hK, hD0⟩ := hv
  have hx := B.exec
  have hb := B.bytes
  have hr := B.returns
  have hts := atoms_spec (ws := vc_X10_isRegister) B.pre
  have hown : s.vm.findClass RX10 = some m.cls := findClass_of_methodNamed B.named
  have hlocks := B.notSynchronized
  subst hsz
  have hD := hD0.self (sz := s.heap.size)
  generalize hAe : va_A ws s.heap.size = A at hD ⊢
  have hA : ∀ q : Nat, s.heap.size ≤ q → A q := fun q h => by rw [← hAe]; exact Or.inr h
  clear hAe hD0
  refine gstart (fun H locs hHe hLe => ?_)
  have hS : va_S A s.heap H locs := by rw [← hHe, ← hLe]; exact va_S.rf
  replace hP : va_P (dC, dI) vwCl ws H := by rw [← hHe]; exact hP
  clear hHe hLe
  have hl := lv_entry ([.int a0]) (n := 1) (Nat.le_of_ble_eq_true rfl)
  rw [lg_entry_eq]
  generalize (lg_sl ([.int a0]) ++ List.replicate (1 - (lg_sl ([.int a0])).length) Slot.unset).toArray = ls at hl ⊢
  replace hl : lv_has ls 1 [(0, .int a0)] := hl
  unfold zf_X10_isRegister at h
  refine lv_iload_n hx hb dX10_isRegister_0 rfl (lv_at hl 0 rfl) ?_
  refine lv_i2l hx hb dX10_isRegister_1 rfl ?_
  refine lv_lconst (v := 0) hx hb dX10_isRegister_2 (by decide) ?_
  refine lv_ldc2 (v := 7) hx hb hown (hts (.constantLong RX10 156 (7)) (List.mem_of_getElem? (i := 1) rfl)) dX10_isRegister_3 ?_
  refine wcalli (S := Unit) (va_runS (As := [.long (a0.toInt64), .long (0 : Int64), .long (7 : Int64)]) (rest := []) ⟨hx, hb, hml, hown, hts⟩ (c_X10_in l dC dI cI cT cS H.size ws  (a0.toInt64) (0 : Int64) (7 : Int64) _ rfl) (va_cwS 3 hts (gWS (List.mem_of_getElem? (i := 2) rfl) (List.mem_of_getElem? (i := 3) rfl) (List.mem_of_getElem? (i := 4) rfl) ic_X10_isRegister_c_X10_in gd_c_X10_in) rfl rfl rfl (by decide +kernel) ⟨(Nat.le_of_ble_eq_true rfl), (Nat.le_of_ble_eq_true rfl)⟩) (gpS hP hK hD) rfl rfl hl.1 rfl (lv_room (Nat.le_of_ble_eq_true rfl)) dX10_isRegister_6 ⟨(Nat.le_of_ble_eq_true rfl), (Nat.le_of_ble_eq_true rfl)⟩) hP hD hS hA (fun rr1 _ H locs hr1 hP hD hS => ?_)
  refine lv_nm (y := b2i (zf_X10_in (a0.toInt64) (0 : Int64) (7 : Int64))) hr1 ?_
  have h9 := h
  exact wretz hx hb hr hlocks (b2i_or _) hP hD hS (by show _ = _; rw [← h9]; first | done | rfl) rfl dX10_isRegister_9
def zb_X10_load_14 (σ : Sg) : Option (Int32 × Sg) := some ((-2 : Int32), σ)
def zb_X10_load_47 (a1 : Int32) (a2 : Int32) (σ : Sg) (w0_47 : Int32) : Option (Int32 × Sg) := bd a1 8 (some ((1 : Int32), su (su σ 6 a1.toNatClampNeg a2) 7 a1.toNatClampNeg w0_47))
def zf_X10_load (a1 : Int32) (a2 : Int32) (a3 : Int32) (σ : Sg) : Option (Int32 × Sg) := (if (zf_X10_isRegister a1) = true then (if (zf_X10_isTwo a2) = true then bd a1 8 ((if a2 = 0 then (zb_X10_load_47 a1 a2 σ a3) else obd (zf_X10_floatOf (a3.toInt64)) (fun r7 => obd (zf_X10_product r7 (1048576000 : Int32)) (fun r9 => (zb_X10_load_47 a1 a2 σ r9))))) else (zb_X10_load_14 σ)) else (zb_X10_load_14 σ))
def oc_X10_load : List Cond := [.methodLink RX10 172 yX10_isRegister, .static yX10_isRegister, .initialized RX10, .methodLink RX10 175 yX10_isTwo, .static yX10_isTwo, .fieldLink RX10 25 "TraceTreesModel" "loadKind" "[I", .fieldLink RX10 28 "TraceTreesModel" "loadBits" "[I", .methodLink RX10 178 yX10_floatOf, .static yX10_floatOf, .constant RX10 181 (1048576000), .methodLink RX10 182 yX10_product, .static yX10_product]
def vc_X10_load : List Cond := .code yX10_load cX10_load 4 (some .int) :: (oc_X10_load ++ (wsX100 ++ (vc_X10_isRegister ++ (vc_X10_isTwo ++ (vc_X10_floatOf ++ (vc_X10_product))))))
theorem iw_X10_load_X10 : ∀ w ∈ wsX100, w ∈ vc_X10_load := fun _ h => List.mem_cons_of_mem _ (List.mem_append_right _ (List.mem_append_left _ h))
theorem ic_X10_load_c_X10_isRegister : ∀ w ∈ vc_X10_isRegister, w ∈ vc_X10_load := fun _ h => List.mem_cons_of_mem _ (List.mem_append_right _ (List.mem_append_right _ (List.mem_append_left _ h)))
theorem ic_X10_load_c_X10_isTwo : ∀ w ∈ vc_X10_isTwo, w ∈ vc_X10_load := fun _ h => List.mem_cons_of_mem _ (List.mem_append_right _ (List.mem_append_right _ (List.mem_append_right _ (List.mem_append_left _ h))))
theorem ic_X10_load_c_X10_floatOf : ∀ w ∈ vc_X10_floatOf, w ∈ vc_X10_load := fun _ h => List.mem_cons_of_mem _ (List.mem_append_right _ (List.mem_append_right _ (List.mem_append_right _ (List.mem_append_right _ (List.mem_append_left _ h)))))
theorem ic_X10_load_c_X10_product : ∀ w ∈ vc_X10_product, w ∈ vc_X10_load := fun _ h => List.mem_cons_of_mem _ (List.mem_append_right _ (List.mem_append_right _ (List.mem_append_right _ (List.mem_append_right _ (List.mem_append_right _ (h))))))
theorem gd_c_X10_load : (vc_X10_load).all goodWord = true := gall_cons rfl (gall_app (by decide +kernel) (gall_app gw_X10 (gall_app gd_c_X10_isRegister (gall_app gd_c_X10_isTwo (gall_app gd_c_X10_floatOf gd_c_X10_product)))))
set_option maxHeartbeats 4000000 in
set_option maxRecDepth 100000 in
theorem c_X10_load (l : Launch) (dC : Nat → ClassId) (dI : Nat → Nat → Nat) (cI cT cS : ClassId) (sz : Nat) (ad : Nat → Nat) (a1 : Int32) (a2 : Int32) (a3 : Int32) (σ : Sg) (o : Int32 × Sg) (h : zf_X10_load a1 a2 a3 σ = some o) : gCI (S := Unit) l yX10_load vc_X10_load { frames := 3, cells := 0, slots := 0, locals := 83 } (dC, dI) (gTY cI cT cS) sz [.ref (ad 0), .int a1, .int a2, .int a3] (Wd 24 (cfR ad cI) σ) (fun (r : Int32) (_ : Unit) => r = o.1) (fun (_ : Unit) => (Wd 24 (cfR ad cI) o.2)) 0 0 := by
  refine Met.ofW (cc := cX10_load) (maxL := 4) (ret := (some .int)) (by decide) rfl ?_
  intro p e s m args below meth c s₁ B hml hv
  obtain ⟨rfl, hsz, hP, hK, hD0⟩ := hv
  have hx := B.exec
  have hb := B.bytes
  have hr := B.returns
  have hts := atoms_spec (ws := vc_X10_load) B.pre
  have hown : s.vm.findClass RX10 = some m.cls := findClass_of_methodNamed B.named
  have hlocks := B.notSynchronized
  subst hsz
  have hD := hD0.self (sz := s.heap.size)
  generalize hAe : va_A (Wd 24 (cfR ad cI) σ) s.heap.size = A at hD ⊢
  have hA : ∀ q : Nat, s.heap.size ≤ q → A q := fun q h => by rw [← hAe]; exact Or.inr h
  clear hAe hD0
  refine gstart (fun H locs hHe hLe => ?_)
  have hS : va_S A s.heap H locs := by rw [← hHe, ← hLe]; exact va_S.rf
  replace hP : va_P (dC, dI) vwCl (Wd 24 (cfR ad cI) σ) H := by rw [← hHe]; exact hP
  clear hHe hLe
  have hl := lv_entry ([.ref (ad 0), .int a1, .int a2, .int a3]) (n := 4) (Nat.le_of_ble_eq_true rfl)
  rw [lg_entry_eq]
  generalize (lg_sl ([.ref (ad 0), .int a1, .int a2, .int a3]) ++ List.replicate (4 - (lg_sl ([.ref (ad 0), .int a1, .int a2, .int a3])).length) Slot.unset).toArray = ls at hl ⊢
  replace hl : lv_has ls 4 [(0, .ref (ad 0)), (1, .int a1), (2, .int a2), (3, .int a3)] := hl
  unfold zf_X10_load at h
  have J14 : ∀  (H : Heap) (locs : List Loc) (ls : Array Slot), zb_X10_load_14 σ = some o → va_P (dC, dI) vwCl (Wd 24 (cfR ad cI) σ) H → va_D A (Wd 24 (cfR ad cI) σ) → va_S A s.heap H locs → lv_has ls 4 [] → W p l e (headSpec vc_X10_load { frames := 3, cells := 0, slots := 0, locals := 83 }).room s m (List.toArray (α := Value) [.ref (ad 0), .int a1, .int a2, .int a3]) below meth c H locs 0 0 (MQ below (va_Qi (fun (r : Int32) (_ : Unit) => r = o.1) (gB (dC, dI) A (fun (_ : Unit) => (Wd 24 (cfR ad cI) o.2))) A) (List.toArray (α := Value) [.ref (ad 0), .int a1, .int a2, .int a3]) s 0 0 A) (F0 m 14 ls []) := by
    intro  H locs ls h hP hD hS hl
    unfold zb_X10_load_14 at h
    refine lv_bipush (v := (-2)) hx hb dX10_load_14 (by decide) ?_
    have h9 := Option.some.inj h
    exact wreti hx hb hr hlocks hP hD hS (by show _ = _; rw [← h9]; first | done | rfl) (by rw [← h9]) dX10_load_16
  have J47 : ∀ (w0_47 : Int32) (H : Heap) (locs : List Loc) (ls : Array Slot), zb_X10_load_47 a1 a2 σ w0_47 = some o → va_P (dC, dI) vwCl (Wd 24 (cfR ad cI) (su σ 6 a1.toNatClampNeg a2)) H → va_D A (Wd 24 (cfR ad cI) (su σ 6 a1.toNatClampNeg a2)) → va_S A s.heap H locs → lv_has ls 4 [] → W p l e (headSpec vc_X10_load { frames := 3, cells := 0, slots := 0, locals := 83 }).room s m (List.toArray (α := Value) [.ref (ad 0), .int a1, .int a2, .int a3]) below meth c H locs 0 0 (MQ below (va_Qi (fun (r : Int32) (_ : Unit) => r = o.1) (gB (dC, dI) A (fun (_ : Unit) => (Wd 24 (cfR ad cI) o.2))) A) (List.toArray (α := Value) [.ref (ad 0), .int a1, .int a2, .int a3]) s 0 0 A) (F0 m 47 ls [.int w0_47, .int a1, .ref (ad 7)]) := by
    intro w0_47 H locs ls h hP hD hS hl
    unfold zb_X10_load_47 at h
    obtain ⟨hi11, h⟩ := bd_inv h
    refine wast hx hb hK hP hD hS aR7 hi11 dX10_load_47 (fun H locs hP hD hS => ?_)
    refine lv_iconst (v := 1) hx hb dX10_load_48 (by decide) ?_
    have h9 := Option.some.inj h
    exact wreti hx hb hr hlocks hP hD hS (by show _ = _; rw [← h9]; first | done | rfl) (by rw [← h9]) dX10_load_49
  refine lv_iload_n hx hb dX10_load_0 rfl (lv_at hl 1 rfl) ?_
  refine wcalli (S := Unit) (va_runS (As := [.int a1]) (rest := []) ⟨hx, hb, hml, hown, hts⟩ (c_X10_isRegister l dC dI cI cT cS H.size (Wd 24 (cfR ad cI) σ)  a1 _ rfl) (va_cwS 1 hts (gWS (List.mem_of_getElem? (i := 1) rfl) (List.mem_of_getElem? (i := 2) rfl) (List.mem_of_getElem? (i := 3) rfl) ic_X10_load_c_X10_isRegister gd_c_X10_isRegister) rfl rfl rfl (by decide +kernel) ⟨(Nat.le_of_ble_eq_true rfl), (Nat.le_of_ble_eq_true rfl)⟩) (gpS hP hK hD) rfl rfl hl.1 rfl (lv_room (Nat.le_of_ble_eq_true rfl)) dX10_load_1 ⟨(Nat.le_of_ble_eq_true rfl), (Nat.le_of_ble_eq_true rfl)⟩) hP hD hS hA (fun rr1 _ H locs hr1 hP hD hS => ?_)
  refine lv_nm (y := b2i (zf_X10_isRegister a1)) hr1 ?_
  refine lv_if_eq (tgt := 14) hx hb dX10_load_4 (by decide) (fun c2 => ?_) (fun c2 => ?_)
  · replace h := ifn (b2i_0 c2) h
    exact J14  H locs ls h hP hD hS (lv_sub (l' := []) hl [] rfl)
  · replace h := ifp (b2i_1 c2) h
    refine lv_iload_n hx hb dX10_load_7 rfl (lv_at hl 2 rfl) ?_
    refine wcalli (S := Unit) (va_runS (As := [.int a2]) (rest := []) ⟨hx, hb, hml, hown, hts⟩ (c_X10_isTwo l dC dI cI cT cS H.size (Wd 24 (cfR ad cI) σ)  a2 _ rfl) (va_cwS 1 hts (gWS (List.mem_of_getElem? (i := 4) rfl) (List.mem_of_getElem? (i := 5) rfl) (List.mem_of_getElem? (i := 3) rfl) ic_X10_load_c_X10_isTwo gd_c_X10_isTwo) rfl rfl rfl (by decide +kernel) ⟨(Nat.le_of_ble_eq_true rfl), (Nat.le_of_ble_eq_true rfl)⟩) (gpS hP hK hD) rfl rfl hl.1 rfl (lv_room (Nat.le_of_ble_eq_true rfl)) dX10_load_8 ⟨(Nat.le_of_ble_eq_true rfl), (Nat.le_of_ble_eq_true rfl)⟩) hP hD hS hA (fun rr3 _ H locs hr3 hP hD hS => ?_)
    refine lv_nm (y := b2i (zf_X10_isTwo a2)) hr3 ?_
    refine lv_if_ne (tgt := 17) hx hb dX10_load_11 (by decide) (fun c4 => ?_) (fun c4 => ?_)
    · replace h := ifp (b2i_1 c4) h
      refine lv_aload_n hx hb dX10_load_17 rfl (lv_at hl 0 rfl) ?_
      refine gf_X10_7 hx hb hts iw_X10_load_X10 hown hK hP (hts (.fieldLink RX10 25 "TraceTreesModel" "loadKind" "[I") (List.mem_of_getElem? (i := 6) rfl)) dX10_load_18 ?_
      refine lv_iload_n hx hb dX10_load_21 rfl (lv_at hl 1 rfl) ?_
      refine lv_iload_n hx hb dX10_load_22 rfl (lv_at hl 2 rfl) ?_
      obtain ⟨hi5, h⟩ := bd_inv h
      refine wast hx hb hK hP hD hS aR6 hi5 dX10_load_23 (fun H locs hP hD hS => ?_)
      refine lv_aload_n hx hb dX10_load_24 rfl (lv_at hl 0 rfl) ?_
      refine gf_X10_8 hx hb hts iw_X10_load_X10 hown hK hP (hts (.fieldLink RX10 28 "TraceTreesModel" "loadBits" "[I") (List.mem_of_getElem? (i := 7) rfl)) dX10_load_25 ?_
      refine lv_iload_n hx hb dX10_load_28 rfl (lv_at hl 1 rfl) ?_
      refine lv_iload_n hx hb dX10_load_29 rfl (lv_at hl 2 rfl) ?_
      refine lv_if_ne (tgt := 37) hx hb dX10_load_30 (by decide) (fun c6 => ?_) (fun c6 => ?_)
      · replace h := ifn (c6) h
        refine lv_iload_n hx hb dX10_load_37 rfl (lv_at hl 3 rfl) ?_
        refine lv_i2l hx hb dX10_load_38 rfl ?_
        obtain ⟨r7, hc7, h⟩ := obd_inv h
        refine wcalli (S := Unit) (va_runS (As := [.long (a3.toInt64)]) (rest := [.int a1, .ref (ad 7)]) ⟨hx, hb, hml, hown, hts⟩ (c_X10_floatOf l dC dI cI cT cS H.size (Wd 24 (cfR ad cI) (su σ 6 a1.toNatClampNeg a2))  (a3.toInt64) _ hc7) (va_cwS 1 hts (gWS (List.mem_of_getElem? (i := 8) rfl) (List.mem_of_getElem? (i := 9) rfl) (List.mem_of_getElem? (i := 3) rfl) ic_X10_load_c_X10_floatOf gd_c_X10_floatOf) rfl rfl rfl (by decide +kernel) ⟨(Nat.le_of_ble_eq_true rfl), (Nat.le_of_ble_eq_true rfl)⟩) (gpS hP hK hD) rfl rfl hl.1 rfl (lv_room (Nat.le_of_ble_eq_true rfl)) dX10_load_39 ⟨(Nat.le_of_ble_eq_true rfl), (Nat.le_of_ble_eq_true rfl)⟩) hP hD hS hA (fun rr8 _ H locs hr8 hP hD hS => ?_)
        refine lv_nm (y := r7) hr8 ?_
        refine lv_ldc (v := 1048576000) hx hb hown (hts (.constant RX10 181 (1048576000)) (List.mem_of_getElem? (i := 10) rfl)) dX10_load_42 ?_
        obtain ⟨r9, hc9, h⟩ := obd_inv h
        refine wcalli (S := Unit) (va_runS (As := [.int r7, .int (1048576000 : Int32)]) (rest := [.int a1, .ref (ad 7)]) ⟨hx, hb, hml, hown, hts⟩ (c_X10_product l dC dI cI cT cS H.size (Wd 24 (cfR ad cI) (su σ 6 a1.toNatClampNeg a2))  r7 (1048576000 : Int32) _ hc9) (va_cwS 2 hts (gWS (List.mem_of_getElem? (i := 11) rfl) (List.mem_of_getElem? (i := 12) rfl) (List.mem_of_getElem? (i := 3) rfl) ic_X10_load_c_X10_product gd_c_X10_product) rfl rfl rfl (by decide +kernel) ⟨(Nat.le_of_ble_eq_true rfl), (Nat.le_of_ble_eq_true rfl)⟩) (gpS hP hK hD) rfl rfl hl.1 rfl (lv_room (Nat.le_of_ble_eq_true rfl)) dX10_load_44 ⟨(Nat.le_of_ble_eq_true rfl), (Nat.le_of_ble_eq_true rfl)⟩) hP hD hS hA (fun rr10 _ H locs hr10 hP hD hS => ?_)
        refine lv_nm (y := r9) hr10 ?_
        exact J47 r9 H locs ls h hP hD hS (lv_sub (l' := []) hl [] rfl)
      · replace h := ifp (c6) h
        refine lv_iload_n hx hb dX10_load_33 rfl (lv_at hl 3 rfl) ?_
        refine lv_goto (tgt := 47) hx hb dX10_load_34 (by decide) ?_
        exact J47 a3 H locs ls h hP hD hS (lv_sub (l' := []) hl [] rfl)
    · replace h := ifn (b2i_0 c4) h
      exact J14  H locs ls h hP hD hS (lv_sub (l' := []) hl [] rfl)
def zb_X10_set_59 (σ : Sg) : Int32 × Sg := ((-2 : Int32), σ)
def zb_X10_set_28 (a1 : Int32) (a2 : Int32) (σ : Sg) : Int32 × Sg := (if a1 = (1 : Int32) then (if (zf_X10_in (a2.toInt64) (2 : Int64) (9 : Int64)) = true then letb (σ 0 10) (fun e8 => (e8, su σ 0 10 a2)) else (zb_X10_set_59 σ)) else (zb_X10_set_59 σ))
def zf_X10_set (a1 : Int32) (a2 : Int32) (σ : Sg) : Int32 × Sg := (if a1 = 0 then (if (zf_X10_in (a2.toInt64) (0 : Int64) (600 : Int64)) = true then letb (σ 0 9) (fun e4 => (e4, su σ 0 9 a2)) else (zb_X10_set_28 a1 a2 σ)) else (zb_X10_set_28 a1 a2 σ))
def oc_X10_set : List Cond := [.constantLong RX10 185 (600), .methodLink RX10 86 yX10_in, .static yX10_in, .initialized RX10, .fieldLink RX10 79 "TraceTreesModel" "limit" "I", .constantLong RX10 99 (2), .constantLong RX10 148 (9), .fieldLink RX10 83 "TraceTreesModel" "hot" "I"]
def vc_X10_set : List Cond := .code yX10_set cX10_set 4 (some .int) :: (oc_X10_set ++ (wsX100 ++ (vc_X10_in)))
theorem iw_X10_set_X10 : ∀ w ∈ wsX100, w ∈ vc_X10_set := fun _ h => List.mem_cons_of_mem _ (List.mem_append_right _ (List.mem_append_left _ h))
theorem ic_X10_set_c_X10_in : ∀ w ∈ vc_X10_in, w ∈ vc_X10_set := fun _ h => List.mem_cons_of_mem _ (List.mem_append_right _ (List.mem_append_right _ (h)))
theorem gd_c_X10_set : (vc_X10_set).all goodWord = true := gall_cons rfl (gall_app (by decide +kernel) (gall_app gw_X10 gd_c_X10_in))
set_option maxHeartbeats 4000000 in
set_option maxRecDepth 100000 in
theorem c_X10_set (l : Launch) (dC : Nat → ClassId) (dI : Nat → Nat → Nat) (cI cT cS : ClassId) (sz : Nat) (ad : Nat → Nat) (a1 : Int32) (a2 : Int32) (σ : Sg) (o : Int32 × Sg) (h : zf_X10_set a1 a2 σ = o) : gCI (S := Unit) l yX10_set vc_X10_set { frames := 1, cells := 0, slots := 0, locals := 25 } (dC, dI) (gTY cI cT cS) sz [.ref (ad 0), .int a1, .int a2] (Wd 24 (cfR ad cI) σ) (fun (r : Int32) (_ : Unit) => r = o.1) (fun (_ : Unit) => (Wd 24 (cfR ad cI) o.2)) 0 0 := by
  refine Met.ofW (cc := cX10_set) (maxL := 4) (ret := (some .int)) (by decide) rfl ?_
  intro p e s m args below meth c s₁ B hml hv
  obtain ⟨rfl, hsz, hP, hK, hD0⟩ := hv
  have hx := B.exec
  have hb := B.bytes
  have hr := B.returns
  have hts := atoms_spec (ws := vc_X10_set) B.pre
  have hown : s.vm.findClass RX10 = some m.cls := findClass_of_methodNamed B.named
  have hlocks := B.notSynchronized
  subst hsz
  have hD := hD0.self (sz := s.heap.size)
  generalize hAe : va_A (Wd 24 (cfR ad cI) σ) s.heap.size = A at hD ⊢
  have hA : ∀ q : Nat, s.heap.size ≤ q → A q := fun q h => by rw [← hAe]; exact Or.inr h
  clear hAe hD0
  refine gstart (fun H locs hHe hLe => ?_)
  have hS : va_S A s.heap H locs := by rw [← hHe, ← hLe]; exact va_S.rf
  replace hP : va_P (dC, dI) vwCl (Wd 24 (cfR ad cI) σ) H := by rw [← hHe]; exact hP
  clear hHe hLe
  have hl := lv_entry ([.ref (ad 0), .int a1, .int a2]) (n := 4) (Nat.le_of_ble_eq_true rfl)
  rw [lg_entry_eq]
  generalize (lg_sl ([.ref (ad 0), .int a1, .int a2]) ++ List.replicate (4 - (lg_sl ([.ref (ad 0), .int a1, .int a2])).length) Slot.unset).toArray = ls at hl ⊢
  replace hl : lv_has ls 4 [(0, .ref (ad 0)), (1, .int a1), (2, .int a2)] := hl
  unfold zf_X10_set at h
  have J59 : ∀  (H : Heap) (locs : List Loc) (ls : Array Slot), zb_X10_set_59 σ = o → va_P (dC, dI) vwCl (Wd 24 (cfR ad cI) σ) H → va_D A (Wd 24 (cfR ad cI) σ) → va_S A s.heap H locs → lv_has ls 4 [] → W p l e (headSpec vc_X10_set { frames := 1, cells := 0, slots := 0, locals := 25 }).room s m (List.toArray (α := Value) [.ref (ad 0), .int a1, .int a2]) below meth c H locs 0 0 (MQ below (va_Qi (fun (r : Int32) (_ : Unit) => r = o.1) (gB (dC, dI) A (fun (_ : Unit) => (Wd 24 (cfR ad cI) o.2))) A) (List.toArray (α := Value) [.ref (ad 0), .int a1, .int a2]) s 0 0 A) (F0 m 59 ls []) := by
    intro  H locs ls h hP hD hS hl
    unfold zb_X10_set_59 at h
    refine lv_bipush (v := (-2)) hx hb dX10_set_59 (by decide) ?_
    have h9 := h
    exact wreti hx hb hr hlocks hP hD hS (by show _ = _; rw [← h9]; first | done | rfl) (by rw [← h9]) dX10_set_61
  have J28 : ∀  (H : Heap) (locs : List Loc) (ls : Array Slot), zb_X10_set_28 a1 a2 σ = o → va_P (dC, dI) vwCl (Wd 24 (cfR ad cI) σ) H → va_D A (Wd 24 (cfR ad cI) σ) → va_S A s.heap H locs → lv_has ls 4 [(0, .ref (ad 0)), (1, .int a1), (2, .int a2)] → W p l e (headSpec vc_X10_set { frames := 1, cells := 0, slots := 0, locals := 25 }).room s m (List.toArray (α := Value) [.ref (ad 0), .int a1, .int a2]) below meth c H locs 0 0 (MQ below (va_Qi (fun (r : Int32) (_ : Unit) => r = o.1) (gB (dC, dI) A (fun (_ : Unit) => (Wd 24 (cfR ad cI) o.2))) A) (List.toArray (α := Value) [.ref (ad 0), .int a1, .int a2]) s 0 0 A) (F0 m 28 ls []) := by
    intro  H locs ls h hP hD hS hl
    unfold zb_X10_set_28 at h
    refine lv_iload_n hx hb dX10_set_28 rfl (lv_at hl 1 rfl) ?_
    refine lv_iconst (v := 1) hx hb dX10_set_29 (by decide) ?_
    refine lv_icmp_ne (tgt := 59) hx hb dX10_set_30 (by decide) (fun c5 => ?_) (fun c5 => ?_)
    · replace h := ifn (c5) h
      exact J59  H locs ls h hP hD hS (lv_sub (l' := []) hl [] rfl)
    · replace h := ifp (c5) h
      refine lv_iload_n hx hb dX10_set_33 rfl (lv_at hl 2 rfl) ?_
      refine lv_i2l hx hb dX10_set_34 rfl ?_
      refine lv_ldc2 (v := 2) hx hb hown (hts (.constantLong RX10 99 (2)) (List.mem_of_getElem? (i := 6) rfl)) dX10_set_35 ?_
      refine lv_ldc2 (v := 9) hx hb hown (hts (.constantLong RX10 148 (9)) (List.mem_of_getElem? (i := 7) rfl)) dX10_set_38 ?_
      refine wcalli (S := Unit) (va_runS (As := [.long (a2.toInt64), .long (2 : Int64), .long (9 : Int64)]) (rest := []) ⟨hx, hb, hml, hown, hts⟩ (c_X10_in l dC dI cI cT cS H.size (Wd 24 (cfR ad cI) σ)  (a2.toInt64) (2 : Int64) (9 : Int64) _ rfl) (va_cwS 3 hts (gWS (List.mem_of_getElem? (i := 2) rfl) (List.mem_of_getElem? (i := 3) rfl) (List.mem_of_getElem? (i := 4) rfl) ic_X10_set_c_X10_in gd_c_X10_in) rfl rfl rfl (by decide +kernel) ⟨(Nat.le_of_ble_eq_true rfl), (Nat.le_of_ble_eq_true rfl)⟩) (gpS hP hK hD) rfl rfl hl.1 rfl (lv_room (Nat.le_of_ble_eq_true rfl)) dX10_set_41 ⟨(Nat.le_of_ble_eq_true rfl), (Nat.le_of_ble_eq_true rfl)⟩) hP hD hS hA (fun rr6 _ H locs hr6 hP hD hS => ?_)
      refine lv_nm (y := b2i (zf_X10_in (a2.toInt64) (2 : Int64) (9 : Int64))) hr6 ?_
      refine lv_if_eq (tgt := 59) hx hb dX10_set_44 (by decide) (fun c7 => ?_) (fun c7 => ?_)
      · replace h := ifn (b2i_0 c7) h
        exact J59  H locs ls h hP hD hS (lv_sub (l' := []) hl [] rfl)
      · replace h := ifp (b2i_1 c7) h
        refine lv_aload_n hx hb dX10_set_47 rfl (lv_at hl 0 rfl) ?_
        refine gf_X10_10 hx hb hts iw_X10_set_X10 hown hK hP (hts (.fieldLink RX10 83 "TraceTreesModel" "hot" "I") (List.mem_of_getElem? (i := 8) rfl)) dX10_set_48 ?_
        obtain ⟨e8, he8, h⟩ := letb_inv h
        refine lv_nm he8 ?_
        refine lv_istore_n (lv' := [(3, .int e8), (0, .ref (ad 0)), (1, .int a1), (2, .int a2)]) hx hb dX10_set_51 rfl hl (by decide) rfl (fun ls hl => ?_)
        refine lv_aload_n hx hb dX10_set_52 rfl (lv_at hl 1 rfl) ?_
        refine lv_iload_n hx hb dX10_set_53 rfl (lv_at hl 3 rfl) ?_
        refine pf_X10_10 hx hb hts iw_X10_set_X10 hown hK hP hD hS (hts (.fieldLink RX10 83 "TraceTreesModel" "hot" "I") (List.mem_of_getElem? (i := 8) rfl)) dX10_set_54 (fun H locs hP hD hS => ?_)
        refine lv_iload_n hx hb dX10_set_57 rfl (lv_at hl 0 rfl) ?_
        have h9 := h
        exact wreti hx hb hr hlocks hP hD hS (by show _ = _; rw [← h9]; first | done | rfl) (by rw [← h9]) dX10_set_58
  refine lv_iload_n hx hb dX10_set_0 rfl (lv_at hl 1 rfl) ?_
  refine lv_if_ne (tgt := 28) hx hb dX10_set_1 (by decide) (fun c1 => ?_) (fun c1 => ?_)
  · replace h := ifn (c1) h
    exact J28  H locs ls h hP hD hS (lv_sub (l' := [(0, .ref (ad 0)), (1, .int a1), (2, .int a2)]) hl [0, 1, 2] rfl)
  · replace h := ifp (c1) h
    refine lv_iload_n hx hb dX10_set_4 rfl (lv_at hl 2 rfl) ?_
    refine lv_i2l hx hb dX10_set_5 rfl ?_
    refine lv_lconst (v := 0) hx hb dX10_set_6 (by decide) ?_
    refine lv_ldc2 (v := 600) hx hb hown (hts (.constantLong RX10 185 (600)) (List.mem_of_getElem? (i := 1) rfl)) dX10_set_7 ?_
    refine wcalli (S := Unit) (va_runS (As := [.long (a2.toInt64), .long (0 : Int64), .long (600 : Int64)]) (rest := []) ⟨hx, hb, hml, hown, hts⟩ (c_X10_in l dC dI cI cT cS H.size (Wd 24 (cfR ad cI) σ)  (a2.toInt64) (0 : Int64) (600 : Int64) _ rfl) (va_cwS 3 hts (gWS (List.mem_of_getElem? (i := 2) rfl) (List.mem_of_getElem? (i := 3) rfl) (List.mem_of_getElem? (i := 4) rfl) ic_X10_set_c_X10_in gd_c_X10_in) rfl rfl rfl (by decide +kernel) ⟨(Nat.le_of_ble_eq_true rfl), (Nat.le_of_ble_eq_true rfl)⟩) (gpS hP hK hD) rfl rfl hl.1 rfl (lv_room (Nat.le_of_ble_eq_true rfl)) dX10_set_10 ⟨(Nat.le_of_ble_eq_true rfl), (Nat.le_of_ble_eq_true rfl)⟩) hP hD hS hA (fun rr2 _ H locs hr2 hP hD hS => ?_)
    refine lv_nm (y := b2i (zf_X10_in (a2.toInt64) (0 : Int64) (600 : Int64))) hr2 ?_
    refine lv_if_eq (tgt := 28) hx hb dX10_set_13 (by decide) (fun c3 => ?_) (fun c3 => ?_)
    · replace h := ifn (b2i_0 c3) h
      exact J28  H locs ls h hP hD hS (lv_sub (l' := [(0, .ref (ad 0)), (1, .int a1), (2, .int a2)]) hl [0, 1, 2] rfl)
    · replace h := ifp (b2i_1 c3) h
      refine lv_aload_n hx hb dX10_set_16 rfl (lv_at hl 0 rfl) ?_
      refine gf_X10_9 hx hb hts iw_X10_set_X10 hown hK hP (hts (.fieldLink RX10 79 "TraceTreesModel" "limit" "I") (List.mem_of_getElem? (i := 5) rfl)) dX10_set_17 ?_
      obtain ⟨e4, he4, h⟩ := letb_inv h
      refine lv_nm he4 ?_
      refine lv_istore_n (lv' := [(3, .int e4), (0, .ref (ad 0)), (1, .int a1), (2, .int a2)]) hx hb dX10_set_20 rfl hl (by decide) rfl (fun ls hl => ?_)
      refine lv_aload_n hx hb dX10_set_21 rfl (lv_at hl 1 rfl) ?_
      refine lv_iload_n hx hb dX10_set_22 rfl (lv_at hl 3 rfl) ?_
      refine pf_X10_9 hx hb hts iw_X10_set_X10 hown hK hP hD hS (hts (.fieldLink RX10 79 "TraceTreesModel" "limit" "I") (List.mem_of_getElem? (i := 5) rfl)) dX10_set_23 (fun H locs hP hD hS => ?_)
      refine lv_iload_n hx hb dX10_set_26 rfl (lv_at hl 0 rfl) ?_
      have h9 := h
      exact wreti hx hb hr hlocks hP hD hS (by show _ = _; rw [← h9]; first | done | rfl) (by rw [← h9]) dX10_set_27
def zb_X10_read_114 (x29 : Bool × Int32 × Sg) (v3_114 : Bool) (w0_114 : Bool) (σb114 : Sg) : Option (Bool × (Bool × Int32 × Sg)) := letb (x29.2.1 + (b2i w0_114)) (fun e17 => some (true, (v3_114, e17, σb114)))
def zb_X10_read_103 (x29 : Bool × Int32 × Sg) (w0_103 : Bool) (σb103 : Sg) : Option (Bool × (Bool × Int32 × Sg)) := (if w0_103 = true then (zb_X10_read_114 x29 w0_103 true σb103) else (zb_X10_read_114 x29 w0_103 false σb103))
def zl_X10_read_29 (a1 : Int32) (x29 : Bool × Int32 × Sg) : Option (Bool × (Bool × Int32 × Sg)) := (if x29.1 = true then bd a1 4 ((if (x29.2.2 2 a1.toNatClampNeg) < (((4 : Int32) * x29.2.1) + (4 : Int32)) then some (false, (x29.1, x29.2.1, x29.2.2)) else letb (((60 : Int32) * a1) + ((4 : Int32) * x29.2.1)) (fun e8 => bd e8 240 (bd (e8 + (1 : Int32)) 240 (bd (e8 + (2 : Int32)) 240 (bd (e8 + (3 : Int32)) 240 (bnd (zf_X10_add (x29.2.2 3 e8.toNatClampNeg) (x29.2.2 3 (e8 + (1 : Int32)).toNatClampNeg) (x29.2.2 3 (e8 + (2 : Int32)).toNatClampNeg) (x29.2.2 3 (e8 + (3 : Int32)).toNatClampNeg) x29.2.2) (fun r13 σ13 => (if r13 < 0 then (zb_X10_read_103 x29 false σ13) else (zb_X10_read_103 x29 true σ13)))))))))) else some (false, (x29.1, x29.2.1, x29.2.2)))
def zf_X10_read (a1 : Int32) (σ : Sg) : Option (Int32 × Sg) := (if (zf_X10_isSheet a1) = true then bd a1 4 ((if 0 ≤ (σ 1 a1.toNatClampNeg) then obd (lp (X := Bool × Int32 × Sg) (zl_X10_read_29 a1) 1000 (true, (0 : Int32), σ)) (fun y29 => some (y29.2.1, y29.2.2)) else letb (zf_X10_finds (1 : Int32) σ) (fun q18 => some (q18.1, q18.2)))) else some ((-2 : Int32), σ))
def oc_X10_read : List Cond := [.methodLink RX10 95 yX10_isSheet, .static yX10_isSheet, .initialized RX10, .fieldLink RX10 7 "TraceTreesModel" "forms" "[I", .fieldLink RX10 13 "TraceTreesModel" "sizes" "[I", .fieldLink RX10 16 "TraceTreesModel" "items" "[I", .methodLink RX10 187 yX10_add, .instanceMethod yX10_add, .selects RX10 yX10_add yX10_add, .methodLink RX10 101 yX10_finds, .instanceMethod yX10_finds, .selects RX10 yX10_finds yX10_finds]
def vc_X10_read : List Cond := .code yX10_read cX10_read 5 (some .int) :: (oc_X10_read ++ (wsX100 ++ (vc_X10_isSheet ++ (vc_X10_add ++ (vc_X10_finds)))))
theorem iw_X10_read_X10 : ∀ w ∈ wsX100, w ∈ vc_X10_read := fun _ h => List.mem_cons_of_mem _ (List.mem_append_right _ (List.mem_append_left _ h))
theorem ic_X10_read_c_X10_isSheet : ∀ w ∈ vc_X10_isSheet, w ∈ vc_X10_read := fun _ h => List.mem_cons_of_mem _ (List.mem_append_right _ (List.mem_append_right _ (List.mem_append_left _ h)))
theorem ic_X10_read_c_X10_add : ∀ w ∈ vc_X10_add, w ∈ vc_X10_read := fun _ h => List.mem_cons_of_mem _ (List.mem_append_right _ (List.mem_append_right _ (List.mem_append_right _ (List.mem_append_left _ h))))
theorem ic_X10_read_c_X10_finds : ∀ w ∈ vc_X10_finds, w ∈ vc_X10_read := fun _ h => List.mem_cons_of_mem _ (List.mem_append_right _ (List.mem_append_right _ (List.mem_append_right _ (List.mem_append_right _ (h)))))
theorem gd_c_X10_read : (vc_X10_read).all goodWord = true := gall_cons rfl (gall_app (by decide +kernel) (gall_app gw_X10 (gall_app gd_c_X10_isSheet (gall_app gd_c_X10_add gd_c_X10_finds))))
set_option maxHeartbeats 4000000 in
set_option maxRecDepth 100000 in
theorem c_X10_read (l : Launch) (dC : Nat → ClassId) (dI : Nat → Nat → Nat) (cI cT cS : ClassId) (sz : Nat) (ad : Nat → Nat) (a1 : Int32) (σ : Sg) (o : Int32 × Sg) (h : zf_X10_read a1 σ = some o) : gCI (S := Unit) l yX10_read vc_X10_read { frames := 3, cells := 0, slots := 0, locals := 72 } (dC, dI) (gTY cI cT cS) sz [.ref (ad 0), .int a1] (Wd 24 (cfR ad cI) σ) (fun (r : Int32) (_ : Unit) => r = o.1) (fun (_ : Unit) => (Wd 24 (cfR ad cI) o.2)) 0 0 := by
  refine Met.ofW (cc := cX10_read) (maxL := 5) (ret := (some .int)) (by decide) rfl ?_
  intro p e s m args below meth c s₁ B hml hv
  obtain ⟨rfl, hsz, hP, hK, hD0⟩ := hv
  have hx := B.exec
  have hb := B.bytes
  have hr := B.returns
  have hts := atoms_spec (ws := vc_X10_read) B.pre
  have hown : s.vm.findClass RX10 = some m.cls := findClass_of_methodNamed B.named
  have hlocks := B.notSynchronized
  subst hsz
  have hD := hD0.self (sz := s.heap.size)
  generalize hAe : va_A (Wd 24 (cfR ad cI) σ) s.heap.size = A at hD ⊢
  have hA : ∀ q : Nat, s.heap.size ≤ q → A q := fun q h => by rw [← hAe]; exact Or.inr h
  clear hAe hD0
  refine gstart (fun H locs hHe hLe => ?_)
  have hS : va_S A s.heap H locs := by rw [← hHe, ← hLe]; exact va_S.rf
  replace hP : va_P (dC, dI) vwCl (Wd 24 (cfR ad cI) σ) H := by rw [← hHe]; exact hP
  clear hHe hLe
  have hl := lv_entry ([.ref (ad 0), .int a1]) (n := 5) (Nat.le_of_ble_eq_true rfl)
  rw [lg_entry_eq]
  generalize (lg_sl ([.ref (ad 0), .int a1]) ++ List.replicate (5 - (lg_sl ([.ref (ad 0), .int a1])).length) Slot.unset).toArray = ls at hl ⊢
  replace hl : lv_has ls 5 [(0, .ref (ad 0)), (1, .int a1)] := hl
  unfold zf_X10_read at h
  refine lv_iload_n hx hb dX10_read_0 rfl (lv_at hl 1 rfl) ?_
  refine wcalli (S := Unit) (va_runS (As := [.int a1]) (rest := []) ⟨hx, hb, hml, hown, hts⟩ (c_X10_isSheet l dC dI cI cT cS H.size (Wd 24 (cfR ad cI) σ)  a1 _ rfl) (va_cwS 1 hts (gWS (List.mem_of_getElem? (i := 1) rfl) (List.mem_of_getElem? (i := 2) rfl) (List.mem_of_getElem? (i := 3) rfl) ic_X10_read_c_X10_isSheet gd_c_X10_isSheet) rfl rfl rfl (by decide +kernel) ⟨(Nat.le_of_ble_eq_true rfl), (Nat.le_of_ble_eq_true rfl)⟩) (gpS hP hK hD) rfl rfl hl.1 rfl (lv_room (Nat.le_of_ble_eq_true rfl)) dX10_read_1 ⟨(Nat.le_of_ble_eq_true rfl), (Nat.le_of_ble_eq_true rfl)⟩) hP hD hS hA (fun rr1 _ H locs hr1 hP hD hS => ?_)
  refine lv_nm (y := b2i (zf_X10_isSheet a1)) hr1 ?_
  refine lv_if_ne (tgt := 10) hx hb dX10_read_4 (by decide) (fun c2 => ?_) (fun c2 => ?_)
  · replace h := ifp (b2i_1 c2) h
    refine lv_aload_n hx hb dX10_read_10 rfl (lv_at hl 0 rfl) ?_
    refine gf_X10_0 hx hb hts iw_X10_read_X10 hown hK hP (hts (.fieldLink RX10 7 "TraceTreesModel" "forms" "[I") (List.mem_of_getElem? (i := 4) rfl)) dX10_read_11 ?_
    refine lv_iload_n hx hb dX10_read_14 rfl (lv_at hl 1 rfl) ?_
    obtain ⟨hi3, h⟩ := bd_inv h
    refine wald hx hb hK hP aR1 hi3 dX10_read_15 ?_
    refine lv_if_ge (tgt := 25) hx hb dX10_read_16 (by decide) (fun c4 => ?_) (fun c4 => ?_)
    · replace h := ifp (c4) h
      refine lv_iconst (v := 0) hx hb dX10_read_25 (by decide) ?_
      refine lv_istore_n (lv' := [(2, .int (0 : Int32)), (0, .ref (ad 0)), (1, .int a1)]) hx hb dX10_read_26 rfl hl (by decide) rfl (fun ls hl => ?_)
      refine lv_iconst (v := 1) hx hb dX10_read_27 (by decide) ?_
      refine lv_istore_n (lv' := [(3, .int (1 : Int32)), (2, .int (0 : Int32)), (0, .ref (ad 0)), (1, .int a1)]) hx hb dX10_read_28 rfl hl (by decide) rfl (fun ls hl => ?_)
      obtain ⟨y29, hlp29, h⟩ := obd_inv h
      refine lp_W (fun x29 : Bool × Int32 × Sg => ∀ (H : Heap) (locs : List Loc) (ls : Array Slot), va_P (dC, dI) vwCl (Wd 24 (cfR ad cI) x29.2.2) H → va_D A (Wd 24 (cfR ad cI) x29.2.2) → va_S A s.heap H locs → lv_has ls 5 [(3, .int (b2i x29.1)), (2, .int x29.2.1), (0, .ref (ad 0)), (1, .int a1)] → W p l e (headSpec vc_X10_read { frames := 3, cells := 0, slots := 0, locals := 72 }).room s m (List.toArray (α := Value) [.ref (ad 0), .int a1]) below meth c H locs 0 0 (MQ below (va_Qi (fun (r : Int32) (_ : Unit) => r = o.1) (gB (dC, dI) A (fun (_ : Unit) => (Wd 24 (cfR ad cI) o.2))) A) (List.toArray (α := Value) [.ref (ad 0), .int a1]) s 0 0 A) (F0 m 29 ls [])) (fun y29 : Bool × Int32 × Sg => ∀ (H : Heap) (locs : List Loc) (ls : Array Slot), va_P (dC, dI) vwCl (Wd 24 (cfR ad cI) y29.2.2) H → va_D A (Wd 24 (cfR ad cI) y29.2.2) → va_S A s.heap H locs → lv_has ls 5 [(2, .int y29.2.1)] → W p l e (headSpec vc_X10_read { frames := 3, cells := 0, slots := 0, locals := 72 }).room s m (List.toArray (α := Value) [.ref (ad 0), .int a1]) below meth c H locs 0 0 (MQ below (va_Qi (fun (r : Int32) (_ : Unit) => r = o.1) (gB (dC, dI) A (fun (_ : Unit) => (Wd 24 (cfR ad cI) o.2))) A) (List.toArray (α := Value) [.ref (ad 0), .int a1]) s 0 0 A) (F0 m 119 ls [])) ?_ 1000 (true, (0 : Int32), σ) y29 hlp29 ?_ H locs ls hP hD hS (lv_sub (l' := [(3, .int (1 : Int32)), (2, .int (0 : Int32)), (0, .ref (ad 0)), (1, .int a1)]) hl [0, 1, 2, 3] rfl)
      · intro x29 yy29 h ht29 hf29 H locs ls hP hD hS hl
        unfold zl_X10_read_29 at h
        have J114 : ∀ (v3_114 : Bool) (w0_114 : Bool) (σb114 : Sg) (H : Heap) (locs : List Loc) (ls : Array Slot), zb_X10_read_114 x29 v3_114 w0_114 σb114 = some yy29 → va_P (dC, dI) vwCl (Wd 24 (cfR ad cI) σb114) H → va_D A (Wd 24 (cfR ad cI) σb114) → va_S A s.heap H locs → lv_has ls 5 [(3, .int (b2i v3_114)), (0, .ref (ad 0)), (1, .int a1)] → W p l e (headSpec vc_X10_read { frames := 3, cells := 0, slots := 0, locals := 72 }).room s m (List.toArray (α := Value) [.ref (ad 0), .int a1]) below meth c H locs 0 0 (MQ below (va_Qi (fun (r : Int32) (_ : Unit) => r = o.1) (gB (dC, dI) A (fun (_ : Unit) => (Wd 24 (cfR ad cI) o.2))) A) (List.toArray (α := Value) [.ref (ad 0), .int a1]) s 0 0 A) (F0 m 114 ls [.int (b2i w0_114), .int x29.2.1]) := by
          intro v3_114 w0_114 σb114 H locs ls h hP hD hS hl
          unfold zb_X10_read_114 at h
          refine lv_iadd hx hb dX10_read_114 ?_
          obtain ⟨e17, he17, h⟩ := letb_inv h
          refine lv_nm he17 ?_
          refine lv_istore_n (lv' := [(2, .int e17), (3, .int (b2i v3_114)), (0, .ref (ad 0)), (1, .int a1)]) hx hb dX10_read_115 rfl hl (by decide) rfl (fun ls hl => ?_)
          refine lv_goto (tgt := 29) hx hb dX10_read_116 (by decide) ?_
          obtain rfl := Option.some.inj h
          exact ht29 rfl H locs ls hP hD hS (lv_sub (l' := [(3, .int (b2i v3_114)), (2, .int e17), (0, .ref (ad 0)), (1, .int a1)]) hl [1, 0, 2, 3] rfl)
        have J103 : ∀ (w0_103 : Bool) (σb103 : Sg) (H : Heap) (locs : List Loc) (ls : Array Slot), zb_X10_read_103 x29 w0_103 σb103 = some yy29 → va_P (dC, dI) vwCl (Wd 24 (cfR ad cI) σb103) H → va_D A (Wd 24 (cfR ad cI) σb103) → va_S A s.heap H locs → lv_has ls 5 [(2, .int x29.2.1), (0, .ref (ad 0)), (1, .int a1)] → W p l e (headSpec vc_X10_read { frames := 3, cells := 0, slots := 0, locals := 72 }).room s m (List.toArray (α := Value) [.ref (ad 0), .int a1]) below meth c H locs 0 0 (MQ below (va_Qi (fun (r : Int32) (_ : Unit) => r = o.1) (gB (dC, dI) A (fun (_ : Unit) => (Wd 24 (cfR ad cI) o.2))) A) (List.toArray (α := Value) [.ref (ad 0), .int a1]) s 0 0 A) (F0 m 103 ls [.int (b2i w0_103)]) := by
          intro w0_103 σb103 H locs ls h hP hD hS hl
          unfold zb_X10_read_103 at h
          refine lv_istore_n (lv' := [(3, .int (b2i w0_103)), (2, .int x29.2.1), (0, .ref (ad 0)), (1, .int a1)]) hx hb dX10_read_103 rfl hl (by decide) rfl (fun ls hl => ?_)
          refine lv_iload_n hx hb dX10_read_104 rfl (lv_at hl 1 rfl) ?_
          refine lv_iload_n hx hb dX10_read_105 rfl (lv_at hl 0 rfl) ?_
          refine lv_if_eq (tgt := 113) hx hb dX10_read_106 (by decide) (fun c16 => ?_) (fun c16 => ?_)
          · replace h := ifn (b2i_0 c16) h
            refine lv_iconst (v := 0) hx hb dX10_read_113 (by decide) ?_
            exact J114 w0_103 false σb103 H locs ls h hP hD hS (lv_sub (l' := [(3, .int (b2i w0_103)), (0, .ref (ad 0)), (1, .int a1)]) hl [0, 2, 3] rfl)
          · replace h := ifp (b2i_1 c16) h
            refine lv_iconst (v := 1) hx hb dX10_read_109 (by decide) ?_
            refine lv_goto (tgt := 114) hx hb dX10_read_110 (by decide) ?_
            exact J114 w0_103 true σb103 H locs ls h hP hD hS (lv_sub (l' := [(3, .int (b2i w0_103)), (0, .ref (ad 0)), (1, .int a1)]) hl [0, 2, 3] rfl)
        refine lv_iload_n hx hb dX10_read_29 rfl (lv_at hl 0 rfl) ?_
        refine lv_if_eq (tgt := 119) hx hb dX10_read_30 (by decide) (fun c5 => ?_) (fun c5 => ?_)
        · replace h := ifn (b2i_0 c5) h
          obtain rfl := Option.some.inj h
          exact hf29 rfl H locs ls hP hD hS (lv_sub (l' := [(2, .int x29.2.1)]) hl [1] rfl)
        · replace h := ifp (b2i_1 c5) h
          refine lv_iconst (v := 4) hx hb dX10_read_33 (by decide) ?_
          refine lv_iload_n hx hb dX10_read_34 rfl (lv_at hl 1 rfl) ?_
          refine lv_imul hx hb dX10_read_35 ?_
          refine lv_iconst (v := 4) hx hb dX10_read_36 (by decide) ?_
          refine lv_iadd hx hb dX10_read_37 ?_
          refine lv_aload_n hx hb dX10_read_38 rfl (lv_at hl 2 rfl) ?_
          refine gf_X10_1 hx hb hts iw_X10_read_X10 hown hK hP (hts (.fieldLink RX10 13 "TraceTreesModel" "sizes" "[I") (List.mem_of_getElem? (i := 5) rfl)) dX10_read_39 ?_
          refine lv_iload_n hx hb dX10_read_42 rfl (lv_at hl 3 rfl) ?_
          obtain ⟨hi6, h⟩ := bd_inv h
          refine wald hx hb hK hP aR2 hi6 dX10_read_43 ?_
          refine lv_icmp_gt (tgt := 119) hx hb dX10_read_44 (by decide) (fun c7 => ?_) (fun c7 => ?_)
          · replace h := ifp (c7) h
            obtain rfl := Option.some.inj h
            exact hf29 rfl H locs ls hP hD hS (lv_sub (l' := [(2, .int x29.2.1)]) hl [1] rfl)
          · replace h := ifn (c7) h
            refine lv_bipush (v := 60) hx hb dX10_read_47 (by decide) ?_
            refine lv_iload_n hx hb dX10_read_49 rfl (lv_at hl 3 rfl) ?_
            refine lv_imul hx hb dX10_read_50 ?_
            refine lv_iconst (v := 4) hx hb dX10_read_51 (by decide) ?_
            refine lv_iload_n hx hb dX10_read_52 rfl (lv_at hl 1 rfl) ?_
            refine lv_imul hx hb dX10_read_53 ?_
            refine lv_iadd hx hb dX10_read_54 ?_
            obtain ⟨e8, he8, h⟩ := letb_inv h
            refine lv_nm he8 ?_
            refine lv_istore (lv' := [(4, .int e8), (3, .int (b2i x29.1)), (2, .int x29.2.1), (0, .ref (ad 0)), (1, .int a1)]) hx hb dX10_read_55 hl (by decide) rfl (fun ls hl => ?_)
            refine lv_aload_n hx hb dX10_read_57 rfl (lv_at hl 3 rfl) ?_
            refine lv_aload_n hx hb dX10_read_58 rfl (lv_at hl 3 rfl) ?_
            refine gf_X10_2 hx hb hts iw_X10_read_X10 hown hK hP (hts (.fieldLink RX10 16 "TraceTreesModel" "items" "[I") (List.mem_of_getElem? (i := 6) rfl)) dX10_read_59 ?_
            refine lv_iload hx hb dX10_read_62 (lv_at hl 0 rfl) ?_
            obtain ⟨hi9, h⟩ := bd_inv h
            refine wald hx hb hK hP aR3 hi9 dX10_read_64 ?_
            refine lv_aload_n hx hb dX10_read_65 rfl (lv_at hl 3 rfl) ?_
            refine gf_X10_2 hx hb hts iw_X10_read_X10 hown hK hP (hts (.fieldLink RX10 16 "TraceTreesModel" "items" "[I") (List.mem_of_getElem? (i := 6) rfl)) dX10_read_66 ?_
            refine lv_iload hx hb dX10_read_69 (lv_at hl 0 rfl) ?_
            refine lv_iconst (v := 1) hx hb dX10_read_71 (by decide) ?_
            refine lv_iadd hx hb dX10_read_72 ?_
            obtain ⟨hi10, h⟩ := bd_inv h
            refine wald hx hb hK hP aR3 hi10 dX10_read_73 ?_
            refine lv_aload_n hx hb dX10_read_74 rfl (lv_at hl 3 rfl) ?_
            refine gf_X10_2 hx hb hts iw_X10_read_X10 hown hK hP (hts (.fieldLink RX10 16 "TraceTreesModel" "items" "[I") (List.mem_of_getElem? (i := 6) rfl)) dX10_read_75 ?_
            refine lv_iload hx hb dX10_read_78 (lv_at hl 0 rfl) ?_
            refine lv_iconst (v := 2) hx hb dX10_read_80 (by decide) ?_
            refine lv_iadd hx hb dX10_read_81 ?_
            obtain ⟨hi11, h⟩ := bd_inv h
            refine wald hx hb hK hP aR3 hi11 dX10_read_82 ?_
            refine lv_aload_n hx hb dX10_read_83 rfl (lv_at hl 3 rfl) ?_
            refine gf_X10_2 hx hb hts iw_X10_read_X10 hown hK hP (hts (.fieldLink RX10 16 "TraceTreesModel" "items" "[I") (List.mem_of_getElem? (i := 6) rfl)) dX10_read_84 ?_
            refine lv_iload hx hb dX10_read_87 (lv_at hl 0 rfl) ?_
            refine lv_iconst (v := 3) hx hb dX10_read_89 (by decide) ?_
            refine lv_iadd hx hb dX10_read_90 ?_
            obtain ⟨hi12, h⟩ := bd_inv h
            refine wald hx hb hK hP aR3 hi12 dX10_read_91 ?_
            obtain ⟨r13, σ13, hc13, h⟩ := bnd_inv h
            refine wcalli (S := Unit) (va_runV (As := [.int (x29.2.2 3 e8.toNatClampNeg), .int (x29.2.2 3 (e8 + (1 : Int32)).toNatClampNeg), .int (x29.2.2 3 (e8 + (2 : Int32)).toNatClampNeg), .int (x29.2.2 3 (e8 + (3 : Int32)).toNatClampNeg)]) (rest := []) ⟨hx, hb, hml, hown, hts⟩ (c_X10_add l dC dI cI cT cS H.size ad  (x29.2.2 3 e8.toNatClampNeg) (x29.2.2 3 (e8 + (1 : Int32)).toNatClampNeg) (x29.2.2 3 (e8 + (2 : Int32)).toNatClampNeg) (x29.2.2 3 (e8 + (3 : Int32)).toNatClampNeg) x29.2.2 _ hc13) (cwV 4 hts (gWV (List.mem_of_getElem? (i := 7) rfl) (List.mem_of_getElem? (i := 8) rfl) (List.mem_of_getElem? (i := 9) rfl) (List.mem_of_getElem? (i := 3) rfl) ic_X10_read_c_X10_add gd_c_X10_add) rfl rfl rfl (by decide +kernel) ⟨(Nat.le_of_ble_eq_true rfl), (Nat.le_of_ble_eq_true rfl)⟩) (wpV (q := (RX10, TX10, 46)) hP hK hD oX10 rfl) rfl rfl hl.1 rfl (lv_room (Nat.le_of_ble_eq_true rfl)) dX10_read_92 ⟨(Nat.le_of_ble_eq_true rfl), (Nat.le_of_ble_eq_true rfl)⟩) hP hD hS hA (fun rr14 _ H locs hr14 hP hD hS => ?_)
            replace hP : va_P (dC, dI) vwCl (Wd 24 (cfR ad cI) σ13) H := hP
            replace hD : va_D A (Wd 24 (cfR ad cI) σ13) := hD
            refine lv_nm (y := r13) hr14 ?_
            refine lv_if_lt (tgt := 102) hx hb dX10_read_95 (by decide) (fun c15 => ?_) (fun c15 => ?_)
            · replace h := ifp (c15) h
              refine lv_iconst (v := 0) hx hb dX10_read_102 (by decide) ?_
              exact J103 false σ13 H locs ls h hP hD hS (lv_sub (l' := [(2, .int x29.2.1), (0, .ref (ad 0)), (1, .int a1)]) hl [2, 3, 4] rfl)
            · replace h := ifn (c15) h
              refine lv_iconst (v := 1) hx hb dX10_read_98 (by decide) ?_
              refine lv_goto (tgt := 103) hx hb dX10_read_99 (by decide) ?_
              exact J103 true σ13 H locs ls h hP hD hS (lv_sub (l' := [(2, .int x29.2.1), (0, .ref (ad 0)), (1, .int a1)]) hl [2, 3, 4] rfl)
      · intro H locs ls hP hD hS hl
        refine lv_iload_n hx hb dX10_read_119 rfl (lv_at hl 0 rfl) ?_
        have h9 := Option.some.inj h
        exact wreti hx hb hr hlocks hP hD hS (by show _ = _; rw [← h9]; first | done | rfl) (by rw [← h9]) dX10_read_120
    · replace h := ifn (c4) h
      refine lv_aload_n hx hb dX10_read_19 rfl (lv_at hl 0 rfl) ?_
      refine lv_iconst (v := 1) hx hb dX10_read_20 (by decide) ?_
      obtain ⟨q18, hc18, h⟩ := letb_inv h
      refine wcalli (S := Unit) (va_runV (As := [.int (1 : Int32)]) (rest := []) ⟨hx, hb, hml, hown, hts⟩ (c_X10_finds l dC dI cI cT cS H.size ad  (1 : Int32) σ _ hc18) (cwV 1 hts (gWV (List.mem_of_getElem? (i := 10) rfl) (List.mem_of_getElem? (i := 11) rfl) (List.mem_of_getElem? (i := 12) rfl) (List.mem_of_getElem? (i := 3) rfl) ic_X10_read_c_X10_finds gd_c_X10_finds) rfl rfl rfl (by decide +kernel) ⟨(Nat.le_of_ble_eq_true rfl), (Nat.le_of_ble_eq_true rfl)⟩) (wpV (q := (RX10, TX10, 46)) hP hK hD oX10 rfl) rfl rfl hl.1 rfl (lv_room (Nat.le_of_ble_eq_true rfl)) dX10_read_21 ⟨(Nat.le_of_ble_eq_true rfl), (Nat.le_of_ble_eq_true rfl)⟩) hP hD hS hA (fun rr19 _ H locs hr19 hP hD hS => ?_)
      replace hP : va_P (dC, dI) vwCl (Wd 24 (cfR ad cI) q18.2) H := hP
      replace hD : va_D A (Wd 24 (cfR ad cI) q18.2) := hD
      refine lv_nm (y := q18.1) hr19 ?_
      have h9 := Option.some.inj h
      exact wreti hx hb hr hlocks hP hD hS (by show _ = _; rw [← h9]; first | done | rfl) (by rw [← h9]) dX10_read_24
  · replace h := ifn (b2i_0 c2) h
    refine lv_bipush (v := (-2)) hx hb dX10_read_7 (by decide) ?_
    have h9 := Option.some.inj h
    exact wreti hx hb hr hlocks hP hD hS (by show _ = _; rw [← h9]; first | done | rfl) (by rw [← h9]) dX10_read_9
def zf_X10_x (a1 : Int32) (σ : Sg) : Option (Int32) := bd (((4 : Int32) * a1) + (1 : Int32)) 96 (some ((σ 5 (((4 : Int32) * a1) + (1 : Int32)).toNatClampNeg) - (σ 5 (((4 : Int32) * a1) + (1 : Int32)).toNatClampNeg) / (8 : Int32) * (8 : Int32)))
def oc_X10_x : List Cond := [.fieldLink RX10 22 "TraceTreesModel" "code" "[I"]
def vc_X10_x : List Cond := .code yX10_x cX10_x 2 (some .int) :: (oc_X10_x ++ (wsX100))
theorem iw_X10_x_X10 : ∀ w ∈ wsX100, w ∈ vc_X10_x := fun _ h => List.mem_cons_of_mem _ (List.mem_append_right _ (h))
theorem gd_c_X10_x : (vc_X10_x).all goodWord = true := gall_cons rfl (gall_app (by decide +kernel) gw_X10)
set_option maxHeartbeats 4000000 in
set_option maxRecDepth 100000 in
theorem c_X10_x (l : Launch) (dC : Nat → ClassId) (dI : Nat → Nat → Nat) (cI cT cS : ClassId) (sz : Nat) (ad : Nat → Nat) (a1 : Int32) (σ : Sg) (o : Int32) (h : zf_X10_x a1 σ = some o) : gCI (S := Unit) l yX10_x vc_X10_x { frames := 0, cells := 0, slots := 0, locals := 0 } (dC, dI) (gTY cI cT cS) sz [.ref (ad 0), .int a1] (Wd 24 (cfR ad cI) σ) (fun (r : Int32) (_ : Unit) => r = o) (fun (_ : Unit) => (Wd 24 (cfR ad cI) σ)) 0 0 := by
  refine Met.ofW (cc := cX10_x) (maxL := 2) (ret := (some .int)) (by decide) rfl ?_
  intro p e s m args below meth c s₁ B hml hv
  obtain ⟨rfl, hsz, hP, hK, hD0⟩ := hv
  have hx := B.exec
  have hb := B.bytes
  have hr := B.returns
  have hts := atoms_spec (ws := vc_X10_x) B.pre
  have hown : s.vm.findClass RX10 = some m.cls := findClass_of_methodNamed B.named
  have hlocks := B.notSynchronized
  subst hsz
  have hD := hD0.self (sz := s.heap.size)
  generalize hAe : va_A (Wd 24 (cfR ad cI) σ) s.heap.size = A at hD ⊢
  have hA : ∀ q : Nat, s.heap.size ≤ q → A q := fun q h => by rw [← hAe]; exact Or.inr h
  clear hAe hD0
  refine gstart (fun H locs hHe hLe => ?_)
  have hS : va_S A s.heap H locs := by rw [← hHe, ← hLe]; exact va_S.rf
  replace hP : va_P (dC, dI) vwCl (Wd 24 (cfR ad cI) σ) H := by rw [← hHe]; exact hP
  clear hHe hLe
  have hl := lv_entry ([.ref (ad 0), .int a1]) (n := 2) (Nat.le_of_ble_eq_true rfl)
  rw [lg_entry_eq]
  generalize (lg_sl ([.ref (ad 0), .int a1]) ++ List.replicate (2 - (lg_sl ([.ref (ad 0), .int a1])).length) Slot.unset).toArray = ls at hl ⊢
  replace hl : lv_has ls 2 [(0, .ref (ad 0)), (1, .int a1)] := hl
  unfold zf_X10_x at h
  refine lv_aload_n hx hb dX10_x_0 rfl (lv_at hl 0 rfl) ?_
  refine gf_X10_6 hx hb hts iw_X10_x_X10 hown hK hP (hts (.fieldLink RX10 22 "TraceTreesModel" "code" "[I") (List.mem_of_getElem? (i := 1) rfl)) dX10_x_1 ?_
  refine lv_iconst (v := 4) hx hb dX10_x_4 (by decide) ?_
  refine lv_iload_n hx hb dX10_x_5 rfl (lv_at hl 1 rfl) ?_
  refine lv_imul hx hb dX10_x_6 ?_
  refine lv_iconst (v := 1) hx hb dX10_x_7 (by decide) ?_
  refine lv_iadd hx hb dX10_x_8 ?_
  obtain ⟨hi1, h⟩ := bd_inv h
  refine wald hx hb hK hP aR5 hi1 dX10_x_9 ?_
  refine lv_bipush (v := 8) hx hb dX10_x_10 (by decide) ?_
  refine lv_irem hx hb dX10_x_12 (by decide) ?_
  have h9 := Option.some.inj h
  exact wreti hx hb hr hlocks hP hD hS (by show _ = _; rw [← h9]; first | done | rfl) rfl dX10_x_13
def zf_X10_y (a1 : Int32) (σ : Sg) : Option (Int32) := bd (((4 : Int32) * a1) + (2 : Int32)) 96 (some ((((σ 5 (((4 : Int32) * a1) + (2 : Int32)).toNatClampNeg) - (σ 5 (((4 : Int32) * a1) + (2 : Int32)).toNatClampNeg) / (8 : Int32) * (8 : Int32)) + (8 : Int32)) - (((σ 5 (((4 : Int32) * a1) + (2 : Int32)).toNatClampNeg) - (σ 5 (((4 : Int32) * a1) + (2 : Int32)).toNatClampNeg) / (8 : Int32) * (8 : Int32)) + (8 : Int32)) / (8 : Int32) * (8 : Int32)))
def oc_X10_y : List Cond := [.fieldLink RX10 22 "TraceTreesModel" "code" "[I"]
def vc_X10_y : List Cond := .code yX10_y cX10_y 2 (some .int) :: (oc_X10_y ++ (wsX100))
theorem iw_X10_y_X10 : ∀ w ∈ wsX100, w ∈ vc_X10_y := fun _ h => List.mem_cons_of_mem _ (List.mem_append_right _ (h))
theorem gd_c_X10_y : (vc_X10_y).all goodWord = true := gall_cons rfl (gall_app (by decide +kernel) gw_X10)
set_option maxHeartbeats 4000000 in
set_option maxRecDepth 100000 in
theorem c_X10_y (l : Launch) (dC : Nat → ClassId) (dI : Nat → Nat → Nat) (cI cT cS : ClassId) (sz : Nat) (ad : Nat → Nat) (a1 : Int32) (σ : Sg) (o : Int32) (h : zf_X10_y a1 σ = some o) : gCI (S := Unit) l yX10_y vc_X10_y { frames := 0, cells := 0, slots := 0, locals := 0 } (dC, dI) (gTY cI cT cS) sz [.ref (ad 0), .int a1] (Wd 24 (cfR ad cI) σ) (fun (r : Int32) (_ : Unit) => r = o) (fun (_ : Unit) => (Wd 24 (cfR ad cI) σ)) 0 0 := by
  refine Met.ofW (cc := cX10_y) (maxL := 2) (ret := (some .int)) (by decide) rfl ?_
  intro p e s m args below meth c s₁ B hml hv
  obtain ⟨rfl, hsz, hP, hK, hD0⟩ := hv
  have hx := B.exec
  have hb := B.bytes
  have hr := B.returns
  have hts := atoms_spec (ws := vc_X10_y) B.pre
  have hown : s.vm.findClass RX10 = some m.cls := findClass_of_methodNamed B.named
  have hlocks := B.notSynchronized
  subst hsz
  have hD := hD0.self (sz := s.heap.size)
  generalize hAe : va_A (Wd 24 (cfR ad cI) σ) s.heap.size = A at hD ⊢
  have hA : ∀ q : Nat, s.heap.size ≤ q → A q := fun q h => by rw [← hAe]; exact Or.inr h
  clear hAe hD0
  refine gstart (fun H locs hHe hLe => ?_)
  have hS : va_S A s.heap H locs := by rw [← hHe, ← hLe]; exact va_S.rf
  replace hP : va_P (dC, dI) vwCl (Wd 24 (cfR ad cI) σ) H := by rw [← hHe]; exact hP
  clear hHe hLe
  have hl := lv_entry ([.ref (ad 0), .int a1]) (n := 2) (Nat.le_of_ble_eq_true rfl)
  rw [lg_entry_eq]
  generalize (lg_sl ([.ref (ad 0), .int a1]) ++ List.replicate (2 - (lg_sl ([.ref (ad 0), .int a1])).length) Slot.unset).toArray = ls at hl ⊢
  replace hl : lv_has ls 2 [(0, .ref (ad 0)), (1, .int a1)] := hl
  unfold zf_X10_y at h
  refine lv_aload_n hx hb dX10_y_0 rfl (lv_at hl 0 rfl) ?_
  refine gf_X10_6 hx hb hts iw_X10_y_X10 hown hK hP (hts (.fieldLink RX10 22 "TraceTreesModel" "code" "[I") (List.mem_of_getElem? (i := 1) rfl)) dX10_y_1 ?_
  refine lv_iconst (v := 4) hx hb dX10_y_4 (by decide) ?_
  refine lv_iload_n hx hb dX10_y_5 rfl (lv_at hl 1 rfl) ?_
  refine lv_imul hx hb dX10_y_6 ?_
  refine lv_iconst (v := 2) hx hb dX10_y_7 (by decide) ?_
  refine lv_iadd hx hb dX10_y_8 ?_
  obtain ⟨hi1, h⟩ := bd_inv h
  refine wald hx hb hK hP aR5 hi1 dX10_y_9 ?_
  refine lv_bipush (v := 8) hx hb dX10_y_10 (by decide) ?_
  refine lv_irem hx hb dX10_y_12 (by decide) ?_
  refine lv_bipush (v := 8) hx hb dX10_y_13 (by decide) ?_
  refine lv_iadd hx hb dX10_y_15 ?_
  refine lv_bipush (v := 8) hx hb dX10_y_16 (by decide) ?_
  refine lv_irem hx hb dX10_y_18 (by decide) ?_
  have h9 := Option.some.inj h
  exact wreti hx hb hr hlocks hP hD hS (by show _ = _; rw [← h9]; first | done | rfl) rfl dX10_y_19
def zf_X10_z (a1 : Int32) (σ : Sg) : Option (Int32) := bd (((4 : Int32) * a1) + (3 : Int32)) 96 (some (σ 5 (((4 : Int32) * a1) + (3 : Int32)).toNatClampNeg))
def oc_X10_z : List Cond := [.fieldLink RX10 22 "TraceTreesModel" "code" "[I"]
def vc_X10_z : List Cond := .code yX10_z cX10_z 2 (some .int) :: (oc_X10_z ++ (wsX100))
theorem iw_X10_z_X10 : ∀ w ∈ wsX100, w ∈ vc_X10_z := fun _ h => List.mem_cons_of_mem _ (List.mem_append_right _ (h))
theorem gd_c_X10_z : (vc_X10_z).all goodWord = true := gall_cons rfl (gall_app (by decide +kernel) gw_X10)
set_option maxHeartbeats 4000000 in
set_option maxRecDepth 100000 in
theorem c_X10_z (l : Launch) (dC : Nat → ClassId) (dI : Nat → Nat → Nat) (cI cT cS : ClassId) (sz : Nat) (ad : Nat → Nat) (a1 : Int32) (σ : Sg) (o : Int32) (h : zf_X10_z a1 σ = some o) : gCI (S := Unit) l yX10_z vc_X10_z { frames := 0, cells := 0, slots := 0, locals := 0 } (dC, dI) (gTY cI cT cS) sz [.ref (ad 0), .int a1] (Wd 24 (cfR ad cI) σ) (fun (r : Int32) (_ : Unit) => r = o) (fun (_ : Unit) => (Wd 24 (cfR ad cI) σ)) 0 0 := by
  refine Met.ofW (cc := cX10_z) (maxL := 2) (ret := (some .int)) (by decide) rfl ?_
  intro p e s m args below meth c s₁ B hml hv
  obtain ⟨rfl, hsz, hP, hK, hD0⟩ := hv
  have hx := B.exec
  have hb := B.bytes
  have hr := B.returns
  have hts := atoms_spec (ws := vc_X10_z) B.pre
  have hown : s.vm.findClass RX10 = some m.cls := findClass_of_methodNamed B.named
  have hlocks := B.notSynchronized
  subst hsz
  have hD := hD0.self (sz := s.heap.size)
  generalize hAe : va_A (Wd 24 (cfR ad cI) σ) s.heap.size = A at hD ⊢
  have hA : ∀ q : Nat, s.heap.size ≤ q → A q := fun q h => by rw [← hAe]; exact Or.inr h
  clear hAe hD0
  refine gstart (fun H locs hHe hLe => ?_)
  have hS : va_S A s.heap H locs := by rw [← hHe, ← hLe]; exact va_S.rf
  replace hP : va_P (dC, dI) vwCl (Wd 24 (cfR ad cI) σ) H := by rw [← hHe]; exact hP
  clear hHe hLe
  have hl := lv_entry ([.ref (ad 0), .int a1]) (n := 2) (Nat.le_of_ble_eq_true rfl)
  rw [lg_entry_eq]
  generalize (lg_sl ([.ref (ad 0), .int a1]) ++ List.replicate (2 - (lg_sl ([.ref (ad 0), .int a1])).length) Slot.unset).toArray = ls at hl ⊢
  replace hl : lv_has ls 2 [(0, .ref (ad 0)), (1, .int a1)] := hl
  unfold zf_X10_z at h
  refine lv_aload_n hx hb dX10_z_0 rfl (lv_at hl 0 rfl) ?_
  refine gf_X10_6 hx hb hts iw_X10_z_X10 hown hK hP (hts (.fieldLink RX10 22 "TraceTreesModel" "code" "[I") (List.mem_of_getElem? (i := 1) rfl)) dX10_z_1 ?_
  refine lv_iconst (v := 4) hx hb dX10_z_4 (by decide) ?_
  refine lv_iload_n hx hb dX10_z_5 rfl (lv_at hl 1 rfl) ?_
  refine lv_imul hx hb dX10_z_6 ?_
  refine lv_iconst (v := 3) hx hb dX10_z_7 (by decide) ?_
  refine lv_iadd hx hb dX10_z_8 ?_
  obtain ⟨hi1, h⟩ := bd_inv h
  refine wald hx hb hK hP aR5 hi1 dX10_z_9 ?_
  have h9 := Option.some.inj h
  exact wreti hx hb hr hlocks hP hD hS (by show _ = _; rw [← h9]; first | done | rfl) rfl dX10_z_10
def zb_X10_asFloat_29 (w0_29 : Int32) : Option (Int32) := some w0_29
def zf_X10_asFloat (a1 : Int32) (σ : Sg) : Option (Int32) := bd a1 8 ((if (σ 8 a1.toNatClampNeg) = (1 : Int32) then (zb_X10_asFloat_29 (σ 9 a1.toNatClampNeg)) else obd (zf_X10_floatOf ((σ 9 a1.toNatClampNeg).toInt64)) (fun r3 => (zb_X10_asFloat_29 r3))))
def oc_X10_asFloat : List Cond := [.fieldLink RX10 31 "TraceTreesModel" "kinds" "[I", .fieldLink RX10 34 "TraceTreesModel" "bits" "[I", .methodLink RX10 178 yX10_floatOf, .static yX10_floatOf, .initialized RX10]
def vc_X10_asFloat : List Cond := .code yX10_asFloat cX10_asFloat 2 (some .int) :: (oc_X10_asFloat ++ (wsX100 ++ (vc_X10_floatOf)))
theorem iw_X10_asFloat_X10 : ∀ w ∈ wsX100, w ∈ vc_X10_asFloat := fun _ h => List.mem_cons_of_mem _ (List.mem_append_right _ (List.mem_append_left _ h))
theorem ic_X10_asFloat_c_X10_floatOf : ∀ w ∈ vc_X10_floatOf, w ∈ vc_X10_asFloat := fun _ h => List.mem_cons_of_mem _ (List.mem_append_right _ (List.mem_append_right _ (h)))
theorem gd_c_X10_asFloat : (vc_X10_asFloat).all goodWord = true := gall_cons rfl (gall_app (by decide +kernel) (gall_app gw_X10 gd_c_X10_floatOf))
set_option maxHeartbeats 4000000 in
set_option maxRecDepth 100000 in
theorem c_X10_asFloat (l : Launch) (dC : Nat → ClassId) (dI : Nat → Nat → Nat) (cI cT cS : ClassId) (sz : Nat) (ad : Nat → Nat) (a1 : Int32) (σ : Sg) (o : Int32) (h : zf_X10_asFloat a1 σ = some o) : gCI (S := Unit) l yX10_asFloat vc_X10_asFloat { frames := 3, cells := 0, slots := 0, locals := 80 } (dC, dI) (gTY cI cT cS) sz [.ref (ad 0), .int a1] (Wd 24 (cfR ad cI) σ) (fun (r : Int32) (_ : Unit) => r = o) (fun (_ : Unit) => (Wd 24 (cfR ad cI) σ)) 0 0 := by
  refine Met.ofW (cc := cX10_asFloat) (maxL := 2) (ret := (some .int)) (by decide) rfl ?_
  intro p e s m args below meth c s₁ B hml hv
  obtain ⟨rfl, hsz, hP, hK, hD0⟩ := hv
  have hx := B.exec
  have hb := B.bytes
  have hr := B.returns
  have hts := atoms_spec (ws := vc_X10_asFloat) B.pre
  have hown : s.vm.findClass RX10 = some m.cls := findClass_of_methodNamed B.named
  have hlocks := B.notSynchronized
  subst hsz
  have hD := hD0.self (sz := s.heap.size)
  generalize hAe : va_A (Wd 24 (cfR ad cI) σ) s.heap.size = A at hD ⊢
  have hA : ∀ q : Nat, s.heap.size ≤ q → A q := fun q h => by rw [← hAe]; exact Or.inr h
  clear hAe hD0
  refine gstart (fun H locs hHe hLe => ?_)
  have hS : va_S A s.heap H locs := by rw [← hHe, ← hLe]; exact va_S.rf
  replace hP : va_P (dC, dI) vwCl (Wd 24 (cfR ad cI) σ) H := by rw [← hHe]; exact hP
  clear hHe hLe
  have hl := lv_entry ([.ref (ad 0), .int a1]) (n := 2) (Nat.le_of_ble_eq_true rfl)
  rw [lg_entry_eq]
  generalize (lg_sl ([.ref (ad 0), .int a1]) ++ List.replicate (2 - (lg_sl ([.ref (ad 0), .int a1])).length) Slot.unset).toArray = ls at hl ⊢
  replace hl : lv_has ls 2 [(0, .ref (ad 0)), (1, .int a1)] := hl
  unfold zf_X10_asFloat at h
  have J29 : ∀ (w0_29 : Int32) (H : Heap) (locs : List Loc) (ls : Array Slot), zb_X10_asFloat_29 w0_29 = some o → va_P (dC, dI) vwCl (Wd 24 (cfR ad cI) σ) H → va_D A (Wd 24 (cfR ad cI) σ) → va_S A s.heap H locs → lv_has ls 2 [] → W p l e (headSpec vc_X10_asFloat { frames := 3, cells := 0, slots := 0, locals := 80 }).room s m (List.toArray (α := Value) [.ref (ad 0), .int a1]) below meth c H locs 0 0 (MQ below (va_Qi (fun (r : Int32) (_ : Unit) => r = o) (gB (dC, dI) A (fun (_ : Unit) => (Wd 24 (cfR ad cI) σ))) A) (List.toArray (α := Value) [.ref (ad 0), .int a1]) s 0 0 A) (F0 m 29 ls [.int w0_29]) := by
    intro w0_29 H locs ls h hP hD hS hl
    unfold zb_X10_asFloat_29 at h
    have h9 := Option.some.inj h
    exact wreti hx hb hr hlocks hP hD hS (by show _ = _; rw [← h9]; first | done | rfl) rfl dX10_asFloat_29
  refine lv_aload_n hx hb dX10_asFloat_0 rfl (lv_at hl 0 rfl) ?_
  refine gf_X10_11 hx hb hts iw_X10_asFloat_X10 hown hK hP (hts (.fieldLink RX10 31 "TraceTreesModel" "kinds" "[I") (List.mem_of_getElem? (i := 1) rfl)) dX10_asFloat_1 ?_
  refine lv_iload_n hx hb dX10_asFloat_4 rfl (lv_at hl 1 rfl) ?_
  obtain ⟨hi1, h⟩ := bd_inv h
  refine wald hx hb hK hP aR8 hi1 dX10_asFloat_5 ?_
  refine lv_iconst (v := 1) hx hb dX10_asFloat_6 (by decide) ?_
  refine lv_icmp_ne (tgt := 19) hx hb dX10_asFloat_7 (by decide) (fun c2 => ?_) (fun c2 => ?_)
  · replace h := ifn (c2) h
    refine lv_aload_n hx hb dX10_asFloat_19 rfl (lv_at hl 0 rfl) ?_
    refine gf_X10_12 hx hb hts iw_X10_asFloat_X10 hown hK hP (hts (.fieldLink RX10 34 "TraceTreesModel" "bits" "[I") (List.mem_of_getElem? (i := 2) rfl)) dX10_asFloat_20 ?_
    refine lv_iload_n hx hb dX10_asFloat_23 rfl (lv_at hl 1 rfl) ?_
    refine wald hx hb hK hP aR9 hi1 dX10_asFloat_24 ?_
    refine lv_i2l hx hb dX10_asFloat_25 rfl ?_
    obtain ⟨r3, hc3, h⟩ := obd_inv h
    refine wcalli (S := Unit) (va_runS (As := [.long ((σ 9 a1.toNatClampNeg).toInt64)]) (rest := []) ⟨hx, hb, hml, hown, hts⟩ (c_X10_floatOf l dC dI cI cT cS H.size (Wd 24 (cfR ad cI) σ)  ((σ 9 a1.toNatClampNeg).toInt64) _ hc3) (va_cwS 1 hts (gWS (List.mem_of_getElem? (i := 3) rfl) (List.mem_of_getElem? (i := 4) rfl) (List.mem_of_getElem? (i := 5) rfl) ic_X10_asFloat_c_X10_floatOf gd_c_X10_floatOf) rfl rfl rfl (by decide +kernel) ⟨(Nat.le_of_ble_eq_true rfl), (Nat.le_of_ble_eq_true rfl)⟩) (gpS hP hK hD) rfl rfl hl.1 rfl (lv_room (Nat.le_of_ble_eq_true rfl)) dX10_asFloat_26 ⟨(Nat.le_of_ble_eq_true rfl), (Nat.le_of_ble_eq_true rfl)⟩) hP hD hS hA (fun rr4 _ H locs hr4 hP hD hS => ?_)
    refine lv_nm (y := r3) hr4 ?_
    exact J29 r3 H locs ls h hP hD hS (lv_sub (l' := []) hl [] rfl)
  · replace h := ifp (c2) h
    refine lv_aload_n hx hb dX10_asFloat_10 rfl (lv_at hl 0 rfl) ?_
    refine gf_X10_12 hx hb hts iw_X10_asFloat_X10 hown hK hP (hts (.fieldLink RX10 34 "TraceTreesModel" "bits" "[I") (List.mem_of_getElem? (i := 2) rfl)) dX10_asFloat_11 ?_
    refine lv_iload_n hx hb dX10_asFloat_14 rfl (lv_at hl 1 rfl) ?_
    refine wald hx hb hK hP aR9 hi1 dX10_asFloat_15 ?_
    refine lv_goto (tgt := 29) hx hb dX10_asFloat_16 (by decide) ?_
    exact J29 (σ 9 a1.toNatClampNeg) H locs ls h hP hD hS (lv_sub (l' := []) hl [] rfl)
