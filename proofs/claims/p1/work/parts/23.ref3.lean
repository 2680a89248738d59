def oc_X10_isNan : List Cond := [.constant RX10 124 (2147483647), .constant RX10 122 (2139095040)]
def vc_X10_isNan : List Cond := .code yX10_isNan cX10_isNan 1 (some .boolean) :: (oc_X10_isNan)
theorem gd_c_X10_isNan : (vc_X10_isNan).all goodWord = true := by decide +kernel
set_option maxHeartbeats 4000000 in
set_option maxRecDepth 100000 in
theorem c_X10_isNan (l : Launch) (dC : Nat → ClassId) (dI : Nat → Nat → Nat) (cI cT cS : ClassId) (sz : Nat) (p0 : Int32)  : gCI (S := Unit) l yX10_isNan vc_X10_isNan ({ frames := 0, cells := 0, slots := 0, locals := 0 }) (dC, dI) (gTY cI cT cS) sz [.int p0] [] (fun r u => True) (fun _ => []) 0 0 := by
  refine Met.ofW (cc := cX10_isNan) (maxL := 1) (ret := (some .boolean)) (by decide) rfl ?_
  intro p e s m args below meth c s₁ B hml hv
  obtain ⟨rfl, hsz, hP, hK, hD0⟩ := hv
  have hx := B.exec
  have hb := B.bytes
  have hr := B.returns
  have hts := atoms_spec (ws := vc_X10_isNan) B.pre
  have hown : s.vm.findClass RX10 = some m.cls := findClass_of_methodNamed B.named
  have hlocks := B.notSynchronized
  subst hsz
  have hD := hD0.self (sz := s.heap.size)
  generalize hAe : va_A [] s.heap.size = A at hD ⊢
  have hA : ∀ q : Nat, s.heap.size ≤ q → A q := fun q h => by rw [← hAe]; exact Or.inr h
  refine gstart (fun H locs hHe hLe => ?_)
  have hS : va_S A s.heap H locs := by rw [← hHe, ← hLe]; exact va_S.rf
  replace hP : va_P (dC, dI) vwCl [] H := by rw [← hHe]; exact hP
  clear hHe hLe
  have hl := lv_entry ([.int p0]) (n := 1) (Nat.le_of_ble_eq_true rfl)
  rw [lg_entry_eq]
  generalize (lg_sl ([.int p0]) ++ List.replicate (1 - (lg_sl ([.int p0])).length) Slot.unset).toArray = ls at hl ⊢
  replace hl : lv_has ls 1 [(0, .int p0)] := hl
  refine lv_iload_n hx hb dX10_isNan_0 rfl (lv_at hl 0 rfl) ?_
  refine lv_ldc (v := 2147483647) hx hb hown (hts (.constant RX10 124 (2147483647)) (List.mem_of_getElem? (i := 1) rfl)) dX10_isNan_1 ?_
  refine lv_iand hx hb dX10_isNan_3 ?_
  refine lv_topi (fun x_1 ex_1 => ?_)
  refine lv_ldc (v := 2139095040) hx hb hown (hts (.constant RX10 122 (2139095040)) (List.mem_of_getElem? (i := 2) rfl)) dX10_isNan_4 ?_
  refine lv_icmp_le (tgt := 13) hx hb dX10_isNan_6 (by decide) (fun c_2 => ?_) (fun c_2 => ?_)
  · skip
    refine lv_iconst (v := 0) hx hb dX10_isNan_13 (by decide) ?_
    refine W.widen (k := 0) (n := 0) (Nat.le_of_ble_eq_true rfl) (Nat.le_of_ble_eq_true rfl) ?_
    have hP9 := hP.sub (ws' := []) [] rfl
    have hD9 := hD.sub (ws' := []) [] (by decide) rfl
    exact W.zret (v := 0) hx hb hr rfl (fun t ht hW => ⟨⟨0, (), rfl, trivial, by rw [ht]; exact hP9, hD9⟩, hS.F ht⟩) hS.2.2 dX10_isNan_14
  · skip
    refine lv_iconst (v := 1) hx hb dX10_isNan_9 (by decide) ?_
    refine lv_goto (tgt := 14) hx hb dX10_isNan_10 (by decide) ?_
    refine W.widen (k := 0) (n := 0) (Nat.le_of_ble_eq_true rfl) (Nat.le_of_ble_eq_true rfl) ?_
    have hP9 := hP.sub (ws' := []) [] rfl
    have hD9 := hD.sub (ws' := []) [] (by decide) rfl
    exact W.zret (v := 1) hx hb hr rfl (fun t ht hW => ⟨⟨1, (), rfl, trivial, by rw [ht]; exact hP9, hD9⟩, hS.F ht⟩) hS.2.2 dX10_isNan_14
def oc_X10_isEndless : List Cond := [.constant RX10 124 (2147483647), .constant RX10 122 (2139095040)]
def vc_X10_isEndless : List Cond := .code yX10_isEndless cX10_isEndless 1 (some .boolean) :: (oc_X10_isEndless)
theorem gd_c_X10_isEndless : (vc_X10_isEndless).all goodWord = true := by decide +kernel
set_option maxHeartbeats 4000000 in
set_option maxRecDepth 100000 in
theorem c_X10_isEndless (l : Launch) (dC : Nat → ClassId) (dI : Nat → Nat → Nat) (cI cT cS : ClassId) (sz : Nat) (p0 : Int32)  : gCI (S := Unit) l yX10_isEndless vc_X10_isEndless ({ frames := 0, cells := 0, slots := 0, locals := 0 }) (dC, dI) (gTY cI cT cS) sz [.int p0] [] (fun r u => True) (fun _ => []) 0 0 := by
  refine Met.ofW (cc := cX10_isEndless) (maxL := 1) (ret := (some .boolean)) (by decide) rfl ?_
  intro p e s m args below meth c s₁ B hml hv
  obtain ⟨rfl, hsz, hP, hK, hD0⟩ := hv
  have hx := B.exec
  have hb := B.bytes
  have hr := B.returns
  have hts := atoms_spec (ws := vc_X10_isEndless) B.pre
  have hown : s.vm.findClass RX10 = some m.cls := findClass_of_methodNamed B.named
  have hlocks := B.notSynchronized
  subst hsz
  have hD := hD0.self (sz := s.heap.size)
  generalize hAe : va_A [] s.heap.size = A at hD ⊢
  have hA : ∀ q : Nat, s.heap.size ≤ q → A q := fun q h => by rw [← hAe]; exact Or.inr h
  refine gstart (fun H locs hHe hLe => ?_)
  have hS : va_S A s.heap H locs := by rw [← hHe, ← hLe]; exact va_S.rf
  replace hP : va_P (dC, dI) vwCl [] H := by rw [← hHe]; exact hP
  clear hHe hLe
  have hl := lv_entry ([.int p0]) (n := 1) (Nat.le_of_ble_eq_true rfl)
  rw [lg_entry_eq]
  generalize (lg_sl ([.int p0]) ++ List.replicate (1 - (lg_sl ([.int p0])).length) Slot.unset).toArray = ls at hl ⊢
  replace hl : lv_has ls 1 [(0, .int p0)] := hl
  refine lv_iload_n hx hb dX10_isEndless_0 rfl (lv_at hl 0 rfl) ?_
  refine lv_ldc (v := 2147483647) hx hb hown (hts (.constant RX10 124 (2147483647)) (List.mem_of_getElem? (i := 1) rfl)) dX10_isEndless_1 ?_
  refine lv_iand hx hb dX10_isEndless_3 ?_
  refine lv_topi (fun x_1 ex_1 => ?_)
  refine lv_ldc (v := 2139095040) hx hb hown (hts (.constant RX10 122 (2139095040)) (List.mem_of_getElem? (i := 2) rfl)) dX10_isEndless_4 ?_
  refine lv_icmp_ne (tgt := 13) hx hb dX10_isEndless_6 (by decide) (fun c_2 => ?_) (fun c_2 => ?_)
  · skip
    refine lv_iconst (v := 0) hx hb dX10_isEndless_13 (by decide) ?_
    refine W.widen (k := 0) (n := 0) (Nat.le_of_ble_eq_true rfl) (Nat.le_of_ble_eq_true rfl) ?_
    have hP9 := hP.sub (ws' := []) [] rfl
    have hD9 := hD.sub (ws' := []) [] (by decide) rfl
    exact W.zret (v := 0) hx hb hr rfl (fun t ht hW => ⟨⟨0, (), rfl, trivial, by rw [ht]; exact hP9, hD9⟩, hS.F ht⟩) hS.2.2 dX10_isEndless_14
  · skip
    refine lv_iconst (v := 1) hx hb dX10_isEndless_9 (by decide) ?_
    refine lv_goto (tgt := 14) hx hb dX10_isEndless_10 (by decide) ?_
    refine W.widen (k := 0) (n := 0) (Nat.le_of_ble_eq_true rfl) (Nat.le_of_ble_eq_true rfl) ?_
    have hP9 := hP.sub (ws' := []) [] rfl
    have hD9 := hD.sub (ws' := []) [] (by decide) rfl
    exact W.zret (v := 1) hx hb hr rfl (fun t ht hW => ⟨⟨1, (), rfl, trivial, by rw [ht]; exact hP9, hD9⟩, hS.F ht⟩) hS.2.2 dX10_isEndless_14
def oc_X10_powerOf : List Cond := []
def vc_X10_powerOf : List Cond := .code yX10_powerOf cX10_powerOf 2 (some .int) :: (oc_X10_powerOf)
theorem gd_c_X10_powerOf : (vc_X10_powerOf).all goodWord = true := by decide +kernel
set_option maxHeartbeats 4000000 in
set_option maxRecDepth 100000 in
theorem c_X10_powerOf (l : Launch) (dC : Nat → ClassId) (dI : Nat → Nat → Nat) (cI cT cS : ClassId) (sz : Nat) (p0 : Int32)  : gCI (S := Unit) l yX10_powerOf vc_X10_powerOf ({ frames := 0, cells := 0, slots := 0, locals := 0 }) (dC, dI) (gTY cI cT cS) sz [.int p0] [] (fun r u => True) (fun _ => []) 0 0 := by
  refine Met.ofW (cc := cX10_powerOf) (maxL := 2) (ret := (some .int)) (by decide) rfl ?_
  intro p e s m args below meth c s₁ B hml hv
  obtain ⟨rfl, hsz, hP, hK, hD0⟩ := hv
  have hx := B.exec
  have hb := B.bytes
  have hr := B.returns
  have hts := atoms_spec (ws := vc_X10_powerOf) B.pre
  have hown : s.vm.findClass RX10 = some m.cls := findClass_of_methodNamed B.named
  have hlocks := B.notSynchronized
  subst hsz
  have hD := hD0.self (sz := s.heap.size)
  generalize hAe : va_A [] s.heap.size = A at hD ⊢
  have hA : ∀ q : Nat, s.heap.size ≤ q → A q := fun q h => by rw [← hAe]; exact Or.inr h
  refine gstart (fun H locs hHe hLe => ?_)
  have hS : va_S A s.heap H locs := by rw [← hHe, ← hLe]; exact va_S.rf
  replace hP : va_P (dC, dI) vwCl [] H := by rw [← hHe]; exact hP
  clear hHe hLe
  have hl := lv_entry ([.int p0]) (n := 2) (Nat.le_of_ble_eq_true rfl)
  rw [lg_entry_eq]
  generalize (lg_sl ([.int p0]) ++ List.replicate (2 - (lg_sl ([.int p0])).length) Slot.unset).toArray = ls at hl ⊢
  replace hl : lv_has ls 2 [(0, .int p0)] := hl
  refine lv_iload_n hx hb dX10_powerOf_0 rfl (lv_at hl 0 rfl) ?_
  refine lv_bipush (v := 23) hx hb dX10_powerOf_1 (by decide) ?_
  refine lv_ishr hx hb dX10_powerOf_3 ?_
  refine lv_topi (fun x_1 ex_1 => ?_)
  refine lv_sipush (v := 255) hx hb dX10_powerOf_4 (by decide) ?_
  refine lv_iand hx hb dX10_powerOf_7 ?_
  refine lv_topi (fun x_2 ex_2 => ?_)
  refine lv_istore_n (lv' := [(1, .int x_2), (0, .int p0)]) hx hb dX10_powerOf_8 rfl hl (by decide) rfl (fun ls hl => ?_)
  refine lv_iload_n hx hb dX10_powerOf_9 rfl (lv_at hl 0 rfl) ?_
  refine lv_if_ne (tgt := 17) hx hb dX10_powerOf_10 (by decide) (fun c_3 => ?_) (fun c_3 => ?_)
  · skip
    refine lv_iload_n hx hb dX10_powerOf_17 rfl (lv_at hl 0 rfl) ?_
    refine lv_sipush (v := 150) hx hb dX10_powerOf_18 (by decide) ?_
    refine lv_isub hx hb dX10_powerOf_21 ?_
    refine lv_topi (fun x_4 ex_4 => ?_)
    refine W.widen (k := 0) (n := 0) (Nat.le_of_ble_eq_true rfl) (Nat.le_of_ble_eq_true rfl) ?_
    have hP9 := hP.sub (ws' := []) [] rfl
    have hD9 := hD.sub (ws' := []) [] (by decide) rfl
    exact W.iret (v := x_4) hx hb hr (fun t ht hW => ⟨⟨x_4, (), rfl, trivial, by rw [ht]; exact hP9, hD9⟩, hS.F ht⟩) hS.2.2 dX10_powerOf_22
  · skip
    refine lv_iconst (v := 1) hx hb dX10_powerOf_13 (by decide) ?_
    refine lv_goto (tgt := 18) hx hb dX10_powerOf_14 (by decide) ?_
    refine lv_sipush (v := 150) hx hb dX10_powerOf_18 (by decide) ?_
    refine lv_isub hx hb dX10_powerOf_21 ?_
    refine lv_topi (fun x_5 ex_5 => ?_)
    obtain rfl : x_5 = (-149) := ex_5.trans (by decide)
    refine W.widen (k := 0) (n := 0) (Nat.le_of_ble_eq_true rfl) (Nat.le_of_ble_eq_true rfl) ?_
    have hP9 := hP.sub (ws' := []) [] rfl
    have hD9 := hD.sub (ws' := []) [] (by decide) rfl
    exact W.iret (v := (-149)) hx hb hr (fun t ht hW => ⟨⟨(-149), (), rfl, trivial, by rw [ht]; exact hP9, hD9⟩, hS.F ht⟩) hS.2.2 dX10_powerOf_22
def oc_X10_placesOf : List Cond := [.constant RX10 123 (8388607), .constant RX10 125 (8388608)]
def vc_X10_placesOf : List Cond := .code yX10_placesOf cX10_placesOf 2 (some .long) :: (oc_X10_placesOf)
theorem gd_c_X10_placesOf : (vc_X10_placesOf).all goodWord = true := by decide +kernel
set_option maxHeartbeats 4000000 in
set_option maxRecDepth 100000 in
theorem c_X10_placesOf (l : Launch) (dC : Nat → ClassId) (dI : Nat → Nat → Nat) (cI cT cS : ClassId) (sz : Nat) (p0 : Int32)  : gCL (S := Unit) l yX10_placesOf vc_X10_placesOf ({ frames := 0, cells := 0, slots := 0, locals := 0 }) (dC, dI) (gTY cI cT cS) sz [.int p0] [] (fun r u => 0 ≤ r.toInt ∧ r.toInt < 16777216) (fun _ => []) 0 0 := by
  refine Met.ofW (cc := cX10_placesOf) (maxL := 2) (ret := (some .long)) (by decide) rfl ?_
  intro p e s m args below meth c s₁ B hml hv
  obtain ⟨rfl, hsz, hP, hK, hD0⟩ := hv
  have hx := B.exec
  have hb := B.bytes
  have hr := B.returns
  have hts := atoms_spec (ws := vc_X10_placesOf) B.pre
  have hown : s.vm.findClass RX10 = some m.cls := findClass_of_methodNamed B.named
  have hlocks := B.notSynchronized
  subst hsz
  have hD := hD0.self (sz := s.heap.size)
  generalize hAe : va_A [] s.heap.size = A at hD ⊢
  have hA : ∀ q : Nat, s.heap.size ≤ q → A q := fun q h => by rw [← hAe]; exact Or.inr h
  refine gstart (fun H locs hHe hLe => ?_)
  have hS : va_S A s.heap H locs := by rw [← hHe, ← hLe]; exact va_S.rf
  replace hP : va_P (dC, dI) vwCl [] H := by rw [← hHe]; exact hP
  clear hHe hLe
  have hl := lv_entry ([.int p0]) (n := 2) (Nat.le_of_ble_eq_true rfl)
  rw [lg_entry_eq]
  generalize (lg_sl ([.int p0]) ++ List.replicate (2 - (lg_sl ([.int p0])).length) Slot.unset).toArray = ls at hl ⊢
  replace hl : lv_has ls 2 [(0, .int p0)] := hl
  refine lv_iload_n hx hb dX10_placesOf_0 rfl (lv_at hl 0 rfl) ?_
  refine lv_bipush (v := 23) hx hb dX10_placesOf_1 (by decide) ?_
  refine lv_ishr hx hb dX10_placesOf_3 ?_
  refine lv_topi (fun x_1 ex_1 => ?_)
  refine lv_sipush (v := 255) hx hb dX10_placesOf_4 (by decide) ?_
  refine lv_iand hx hb dX10_placesOf_7 ?_
  refine lv_topi (fun x_2 ex_2 => ?_)
  refine lv_istore_n (lv' := [(1, .int x_2), (0, .int p0)]) hx hb dX10_placesOf_8 rfl hl (by decide) rfl (fun ls hl => ?_)
  refine lv_iload_n hx hb dX10_placesOf_9 rfl (lv_at hl 0 rfl) ?_
  refine lv_if_ne (tgt := 21) hx hb dX10_placesOf_10 (by decide) (fun c_3 => ?_) (fun c_3 => ?_)
  · skip
    refine lv_iload_n hx hb dX10_placesOf_21 rfl (lv_at hl 1 rfl) ?_
    refine lv_ldc (v := 8388607) hx hb hown (hts (.constant RX10 123 (8388607)) (List.mem_of_getElem? (i := 1) rfl)) dX10_placesOf_22 ?_
    refine lv_iand hx hb dX10_placesOf_24 ?_
    refine lv_topi (fun x_4 ex_4 => ?_)
    refine lv_ldc (v := 8388608) hx hb hown (hts (.constant RX10 125 (8388608)) (List.mem_of_getElem? (i := 2) rfl)) dX10_placesOf_25 ?_
    refine lv_ior hx hb dX10_placesOf_27 ?_
    refine lv_topi (fun x_5 ex_5 => ?_)
    refine lv_i2l (v := x_5.toInt64) hx hb dX10_placesOf_28 rfl ?_
    refine W.widen (k := 0) (n := 0) (Nat.le_of_ble_eq_true rfl) (Nat.le_of_ble_eq_true rfl) ?_
    have hP9 := hP.sub (ws' := []) [] rfl
    have hD9 := hD.sub (ws' := []) [] (by decide) rfl
    exact W.lret (v := (x_5.toInt64)) hx hb hr (fun t ht hW => ⟨⟨(x_5.toInt64), (), rfl, (by show 0 ≤ (x_5.toInt64).toInt ∧ (x_5.toInt64).toInt < 16777216; rw [Int32.toInt_toInt64, ex_5, ex_4]; exact g_mask24 _), by rw [ht]; exact hP9, hD9⟩, hS.F ht⟩) hS.2.2 dX10_placesOf_29
  · skip
    refine lv_iload_n hx hb dX10_placesOf_13 rfl (lv_at hl 1 rfl) ?_
    refine lv_ldc (v := 8388607) hx hb hown (hts (.constant RX10 123 (8388607)) (List.mem_of_getElem? (i := 1) rfl)) dX10_placesOf_14 ?_
    refine lv_iand hx hb dX10_placesOf_16 ?_
    refine lv_topi (fun x_6 ex_6 => ?_)
    refine lv_i2l (v := x_6.toInt64) hx hb dX10_placesOf_17 rfl ?_
    refine lv_goto (tgt := 29) hx hb dX10_placesOf_18 (by decide) ?_
    refine W.widen (k := 0) (n := 0) (Nat.le_of_ble_eq_true rfl) (Nat.le_of_ble_eq_true rfl) ?_
    have hP9 := hP.sub (ws' := []) [] rfl
    have hD9 := hD.sub (ws' := []) [] (by decide) rfl
    exact W.lret (v := (x_6.toInt64)) hx hb hr (fun t ht hW => ⟨⟨(x_6.toInt64), (), rfl, (by show 0 ≤ (x_6.toInt64).toInt ∧ (x_6.toInt64).toInt < 16777216; rw [Int32.toInt_toInt64, ex_6]; have := g_mask23 p0; omega), by rw [ht]; exact hP9, hD9⟩, hS.F ht⟩) hS.2.2 dX10_placesOf_29
def oc_X10_lengthOf : List Cond := []
def vc_X10_lengthOf : List Cond := .code yX10_lengthOf cX10_lengthOf 5 (some .int) :: (oc_X10_lengthOf)
theorem gd_c_X10_lengthOf : (vc_X10_lengthOf).all goodWord = true := by decide +kernel
set_option maxHeartbeats 4000000 in
set_option maxRecDepth 100000 in
theorem c_X10_lengthOf (l : Launch) (dC : Nat → ClassId) (dI : Nat → Nat → Nat) (cI cT cS : ClassId) (sz : Nat) (p0 : Int64) (h0p : 0 ≤ p0.toInt) : gCI (S := Unit) l yX10_lengthOf vc_X10_lengthOf ({ frames := 0, cells := 0, slots := 0, locals := 0 }) (dC, dI) (gTY cI cT cS) sz [.long p0] [] (fun r u => True) (fun _ => []) 0 0 := by
  refine Met.ofW (cc := cX10_lengthOf) (maxL := 5) (ret := (some .int)) (by decide) rfl ?_
  intro p e s m args below meth c s₁ B hml hv
  obtain ⟨rfl, hsz, hP, hK, hD0⟩ := hv
  have hx := B.exec
  have hb := B.bytes
  have hr := B.returns
  have hts := atoms_spec (ws := vc_X10_lengthOf) B.pre
  have hown : s.vm.findClass RX10 = some m.cls := findClass_of_methodNamed B.named
  have hlocks := B.notSynchronized
  subst hsz
  have hD := hD0.self (sz := s.heap.size)
  generalize hAe : va_A [] s.heap.size = A at hD ⊢
  have hA : ∀ q : Nat, s.heap.size ≤ q → A q := fun q h => by rw [← hAe]; exact Or.inr h
  refine gstart (fun H locs hHe hLe => ?_)
  have hS : va_S A s.heap H locs := by rw [← hHe, ← hLe]; exact va_S.rf
  replace hP : va_P (dC, dI) vwCl [] H := by rw [← hHe]; exact hP
  clear hHe hLe
  have hl := lv_entry ([.long p0]) (n := 5) (Nat.le_of_ble_eq_true rfl)
  rw [lg_entry_eq]
  generalize (lg_sl ([.long p0]) ++ List.replicate (5 - (lg_sl ([.long p0])).length) Slot.unset).toArray = ls at hl ⊢
  replace hl : lv_has ls 5 [(0, .long p0)] := hl
  refine lv_iconst (v := 0) hx hb dX10_lengthOf_0 (by decide) ?_
  refine lv_istore_n (lv' := [(2, .int 0), (0, .long p0)]) hx hb dX10_lengthOf_1 rfl hl (by decide) rfl (fun ls hl => ?_)
  refine lv_lload_n hx hb dX10_lengthOf_2 rfl (lv_at hl 1 rfl) ?_
  refine lv_lstore_n (lv' := [(3, .long p0), (2, .int 0), (0, .long p0)]) hx hb dX10_lengthOf_3 rfl hl (by decide) rfl (fun ls hl => ?_)
  obtain ⟨xx, hxx⟩ : ∃ x : Int32, x = 0 := ⟨_, rfl⟩
  obtain ⟨yy, hyy⟩ : ∃ y : Int64, y = p0 := ⟨_, rfl⟩
  replace hl : lv_has ls 5 [(3, .long yy), (2, .int xx), (0, .long p0)] := by rw [hxx, hyy]; exact hl
  have hy0 : 0 ≤ yy.toInt := by rw [hyy]; exact h0p
  clear hxx hyy
  obtain ⟨n, hn⟩ : ∃ n : Nat, yy.toInt < (n : Int) := ⟨yy.toInt.toNat + 1, by omega⟩
  induction n generalizing xx yy H locs ls with
  | zero => exact absurd hn (by omega)
  | succ n ihl =>
    refine lv_lload_n hx hb dX10_lengthOf_4 rfl (lv_at hl 0 rfl) ?_
    refine lv_lconst (v := 0) hx hb dX10_lengthOf_5 (by decide) ?_
    refine W.lcmp hx hb dX10_lengthOf_6 ?_
    refine lv_if_eq (tgt := 20) hx hb dX10_lengthOf_7 (by decide) (fun c_1 => ?_) (fun c_1 => ?_)
    · skip
      rw [g_c_eq] at c_1
      refine lv_iload_n hx hb dX10_lengthOf_20 rfl (lv_at hl 1 rfl) ?_
      refine W.widen (k := 0) (n := 0) (Nat.le_of_ble_eq_true rfl) (Nat.le_of_ble_eq_true rfl) ?_
      have hP9 := hP.sub (ws' := []) [] rfl
      have hD9 := hD.sub (ws' := []) [] (by decide) rfl
      exact W.iret (v := xx) hx hb hr (fun t ht hW => ⟨⟨xx, (), rfl, trivial, by rw [ht]; exact hP9, hD9⟩, hS.F ht⟩) hS.2.2 dX10_lengthOf_21
    · skip
      rw [g_c_eq] at c_1
      obtain ⟨x_2, ex_2⟩ : ∃ y : Int32, y = xx + 1 := ⟨_, rfl⟩
      refine lv_iinc (v := x_2) (lv' := [(2, .int x_2), (3, .long yy), (0, .long p0)]) hx hb dX10_lengthOf_10 hl (k := 1) rfl (by rw [ex_2]; rfl) (by decide) rfl (fun ls hl => ?_)
      refine lv_lload_n hx hb dX10_lengthOf_13 rfl (lv_at hl 1 rfl) ?_
      refine lv_iconst (v := 1) hx hb dX10_lengthOf_14 (by decide) ?_
      refine lv_lshr hx hb dX10_lengthOf_15 rfl ?_
      refine lv_topl (fun x_3 ex_3 => ?_)
      refine lv_lstore_n (lv' := [(3, .long x_3), (2, .int x_2), (0, .long p0)]) hx hb dX10_lengthOf_16 rfl hl (by decide) rfl (fun ls hl => ?_)
      refine lv_goto (tgt := 4) hx hb dX10_lengthOf_17 (by decide) ?_
      replace hl := lv_sub (l' := [(3, .long x_3), (2, .int x_2), (0, .long p0)]) hl [0, 1, 2] rfl
      have hz : x_3.toInt = yy.toInt / 2 := by rw [ex_3]; exact g_shr1 yy
      have hnz : ¬ yy.toInt = 0 := fun q => c_1 (Int64.toInt_inj.mp q)
      apply ihl (xx := x_2) (yy := x_3) (H := H) (locs := locs) (ls := ls) <;> first | with_reducible assumption | omega
def oc_X10_nearest : List Cond := [.methodLink RX10 114 yX10_lengthOf, .static yX10_lengthOf, .initialized RX10, .constantLong RX10 120 (8388608), .constant RX10 123 (8388607), .constant RX10 122 (2139095040), .constantLong RX10 118 (16777216), .constantLong RX10 99 (2), .constant RX10 113 (-2147483648)]
def vc_X10_nearest : List Cond := .code yX10_nearest cX10_nearest 16 (some .int) :: (oc_X10_nearest ++ (vc_X10_lengthOf))
theorem ic_c_X10_nearest_c_X10_lengthOf : ∀ w ∈ vc_X10_lengthOf, w ∈ vc_X10_nearest := fun _ h => List.mem_cons_of_mem _ (List.mem_append_right _ (h))
theorem gd_c_X10_nearest : (vc_X10_nearest).all goodWord = true := by decide +kernel
set_option maxHeartbeats 4000000 in
set_option maxRecDepth 100000 in
theorem c_X10_nearest (l : Launch) (dC : Nat → ClassId) (dI : Nat → Nat → Nat) (cI cT cS : ClassId) (sz : Nat) (p0 : Int32) (p3 : Int32) (p1 : Int64) (h0p : 0 ≤ p1.toInt) : gCI (S := Unit) l yX10_nearest vc_X10_nearest ({ frames := 1, cells := 0, slots := 0, locals := 24 }) (dC, dI) (gTY cI cT cS) sz [.int p0, .long p1, .int p3] [] (fun r u => True) (fun _ => []) 0 0 := by
  refine Met.ofW (cc := cX10_nearest) (maxL := 16) (ret := (some .int)) (by decide) rfl ?_
  intro p e s m args below meth c s₁ B hml hv
  obtain ⟨rfl, hsz, hP, hK, hD0⟩ := hv
  have hx := B.exec
  have hb := B.bytes
  have hr := B.returns
  have hts := atoms_spec (ws := vc_X10_nearest) B.pre
  have hown : s.vm.findClass RX10 = some m.cls := findClass_of_methodNamed B.named
  have hlocks := B.notSynchronized
  subst hsz
  have hD := hD0.self (sz := s.heap.size)
  generalize hAe : va_A [] s.heap.size = A at hD ⊢
  have hA : ∀ q : Nat, s.heap.size ≤ q → A q := fun q h => by rw [← hAe]; exact Or.inr h
  refine gstart (fun H locs hHe hLe => ?_)
  have hS : va_S A s.heap H locs := by rw [← hHe, ← hLe]; exact va_S.rf
  replace hP : va_P (dC, dI) vwCl [] H := by rw [← hHe]; exact hP
  clear hHe hLe
  have hl := lv_entry ([.int p0, .long p1, .int p3]) (n := 16) (Nat.le_of_ble_eq_true rfl)
  rw [lg_entry_eq]
  generalize (lg_sl ([.int p0, .long p1, .int p3]) ++ List.replicate (16 - (lg_sl ([.int p0, .long p1, .int p3])).length) Slot.unset).toArray = ls at hl ⊢
  replace hl : lv_has ls 16 [(0, .int p0), (1, .long p1), (3, .int p3)] := hl
  refine gjoin (α := Int32) 12 (fun y_2 H locs ls => va_P (dC, dI) vwCl [] H ∧ va_S A s.heap H locs ∧ lv_has ls 16 [(4, .int y_2), (0, .int p0), (1, .long p1), (3, .int p3)]) (fun y_2 H locs ls hI => ?_) (fun J_1 => ?_)
  · skip
    obtain ⟨hP, hS, hl⟩ := hI
    refine lv_lload_n hx hb dX10_nearest_12 rfl (lv_at hl 2 rfl) ?_
    refine lv_lconst (v := 0) hx hb dX10_nearest_13 (by decide) ?_
    refine W.lcmp hx hb dX10_nearest_14 ?_
    refine lv_if_ne (tgt := 21) hx hb dX10_nearest_15 (by decide) (fun c_3 => ?_) (fun c_3 => ?_)
    · skip
      rw [g_c_eq] at c_3
      refine lv_lload_n hx hb dX10_nearest_21 rfl (lv_at hl 2 rfl) ?_
      refine gcalli (S := Unit) (wc := []) (wr := []) (w1 := fun _ => []) (va_runS (As := [.long p1]) (rest := []) ⟨hx, hb, hml, hown, hts⟩ (c_X10_lengthOf l dC dI cI cT cS H.size p1 (by first | assumption | decide | omega)) (va_cwS 1 hts (gWS (List.mem_of_getElem? (i := 1) rfl) (List.mem_of_getElem? (i := 2) rfl) (List.mem_of_getElem? (i := 3) rfl) ic_c_X10_nearest_c_X10_lengthOf gd_c_X10_lengthOf) rfl rfl rfl (by decide +kernel) ⟨(Nat.le_of_ble_eq_true rfl), (Nat.le_of_ble_eq_true rfl)⟩) (gpS (hP.sub (ws' := []) [] rfl) hK (hD.sub (ws' := []) [] (by decide) rfl)) rfl rfl hl.1 rfl (lv_room (Nat.le_of_ble_eq_true rfl)) dX10_nearest_22 ⟨(Nat.le_of_ble_eq_true rfl), (Nat.le_of_ble_eq_true rfl)⟩) hP hD hS hA [] [] rfl rfl (by decide) (by decide) (fun r_4 ur_4 H locs wr_4 hP hD hS => ?_)
      replace hP : va_P (dC, dI) vwCl [] H := hP
      replace hD : va_D A [] := hD
      refine lv_bipush (v := 24) hx hb dX10_nearest_25 (by decide) ?_
      refine lv_isub hx hb dX10_nearest_27 ?_
      refine lv_topi (fun x_5 ex_5 => ?_)
      refine lv_istore (lv' := [(5, .int x_5), (4, .int y_2), (0, .int p0), (1, .long p1), (3, .int p3)]) hx hb dX10_nearest_28 hl (by decide) rfl (fun ls hl => ?_)
      refine gjoin (α := Int32) 52 (fun y_7 H locs ls => va_P (dC, dI) vwCl [] H ∧ va_S A s.heap H locs ∧ lv_has ls 16 [(6, .int y_7), (5, .int x_5), (4, .int y_2), (0, .int p0), (1, .long p1), (3, .int p3)]) (fun y_7 H locs ls hI => ?_) (fun J_6 => ?_)
      · skip
        obtain ⟨hP, hS, hl⟩ := hI
        refine gjoin (α := Int64) 82 (fun y_9 H locs ls => va_P (dC, dI) vwCl [] H ∧ va_S A s.heap H locs ∧ lv_has ls 16 [(7, .long y_9), (6, .int y_7), (5, .int x_5), (4, .int y_2), (0, .int p0), (1, .long p1), (3, .int p3)]) (fun y_9 H locs ls hI => ?_) (fun J_8 => ?_)
        · skip
          obtain ⟨hP, hS, hl⟩ := hI
          refine gjoin (α := Int64) 112 (fun y_11 H locs ls => va_P (dC, dI) vwCl [] H ∧ va_S A s.heap H locs ∧ lv_has ls 16 [(9, .long y_11), (7, .long y_9), (6, .int y_7), (5, .int x_5), (4, .int y_2), (0, .int p0), (1, .long p1), (3, .int p3)]) (fun y_11 H locs ls hI => ?_) (fun J_10 => ?_)
          · skip
            obtain ⟨hP, hS, hl⟩ := hI
            refine gjoin (α := Int64) 142 (fun y_13 H locs ls => va_P (dC, dI) vwCl [] H ∧ va_S A s.heap H locs ∧ lv_has ls 16 [(11, .long y_13), (9, .long y_11), (7, .long y_9), (6, .int y_7), (5, .int x_5), (4, .int y_2), (0, .int p0), (1, .long p1), (3, .int p3)]) (fun y_13 H locs ls hI => ?_) (fun J_12 => ?_)
            · skip
              obtain ⟨hP, hS, hl⟩ := hI
              refine gjoin (α := Int32) 179 (fun y_15 H locs ls => va_P (dC, dI) vwCl [] H ∧ va_S A s.heap H locs ∧ lv_has ls 16 [(13, .int y_15), (11, .long y_13), (9, .long y_11), (7, .long y_9), (6, .int y_7), (5, .int x_5), (4, .int y_2), (0, .int p0), (1, .long p1), (3, .int p3)]) (fun y_15 H locs ls hI => ?_) (fun J_14 => ?_)
              · skip
                obtain ⟨hP, hS, hl⟩ := hI
                refine gjoin (α := Int64) 194 (fun y_17 H locs ls => va_P (dC, dI) vwCl [] H ∧ va_S A s.heap H locs ∧ lv_has ls 16 [(7, .long y_17), (13, .int y_15), (11, .long y_13), (9, .long y_11), (6, .int y_7), (5, .int x_5), (4, .int y_2), (0, .int p0), (1, .long p1), (3, .int p3)]) (fun y_17 H locs ls hI => ?_) (fun J_16 => ?_)
                · skip
                  obtain ⟨hP, hS, hl⟩ := hI
                  refine lv_iload_n hx hb dX10_nearest_194 rfl (lv_at hl 9 rfl) ?_
                  refine lv_iload hx hb dX10_nearest_195 (lv_at hl 4 rfl) ?_
                  refine lv_iadd hx hb dX10_nearest_197 ?_
                  refine lv_topi (fun x_18 ex_18 => ?_)
                  refine lv_istore (lv' := [(14, .int x_18), (7, .long y_17), (13, .int y_15), (11, .long y_13), (9, .long y_11), (6, .int y_7), (5, .int x_5), (4, .int y_2), (0, .int p0), (1, .long p1), (3, .int p3)]) hx hb dX10_nearest_198 hl (by decide) rfl (fun ls hl => ?_)
                  refine gjoin (α := Int64 × Int32) 217 (fun y_20 H locs ls => va_P (dC, dI) vwCl [] H ∧ va_S A s.heap H locs ∧ lv_has ls 16 [(14, .int y_20.2), (7, .long y_20.1), (13, .int y_15), (11, .long y_13), (9, .long y_11), (6, .int y_7), (5, .int x_5), (4, .int y_2), (0, .int p0), (1, .long p1), (3, .int p3)]) (fun y_20 H locs ls hI => ?_) (fun J_19 => ?_)
                  · skip
                    obtain ⟨hP, hS, hl⟩ := hI
                    refine lv_lload hx hb dX10_nearest_217 (lv_at hl 1 rfl) ?_
                    refine lv_ldc2 (v := 8388608) hx hb hown (hts (.constantLong RX10 120 (8388608)) (List.mem_of_getElem? (i := 4) rfl)) dX10_nearest_219 ?_
                    refine W.lcmp hx hb dX10_nearest_222 ?_
                    refine lv_if_ge (tgt := 233) hx hb dX10_nearest_223 (by decide) (fun c_21 => ?_) (fun c_21 => ?_)
                    · skip
                      rw [g_c_ge] at c_21
                      refine lv_iload hx hb dX10_nearest_233 (lv_at hl 0 rfl) ?_
                      refine lv_sipush (v := 150) hx hb dX10_nearest_235 (by decide) ?_
                      refine lv_iadd hx hb dX10_nearest_238 ?_
                      refine lv_topi (fun x_22 ex_22 => ?_)
                      refine lv_istore (lv' := [(15, .int x_22), (14, .int y_20.2), (7, .long y_20.1), (13, .int y_15), (11, .long y_13), (9, .long y_11), (6, .int y_7), (5, .int x_5), (4, .int y_2), (0, .int p0), (1, .long p1), (3, .int p3)]) hx hb dX10_nearest_239 hl (by decide) rfl (fun ls hl => ?_)
                      refine lv_iload hx hb dX10_nearest_241 (lv_at hl 0 rfl) ?_
                      refine lv_sipush (v := 255) hx hb dX10_nearest_243 (by decide) ?_
                      refine lv_icmp_lt (tgt := 257) hx hb dX10_nearest_246 (by decide) (fun c_23 => ?_) (fun c_23 => ?_)
                      · skip
                        refine lv_iload hx hb dX10_nearest_257 (lv_at hl 8 rfl) ?_
                        refine lv_iload hx hb dX10_nearest_259 (lv_at hl 0 rfl) ?_
                        refine lv_bipush (v := 23) hx hb dX10_nearest_261 (by decide) ?_
                        refine lv_ishl hx hb dX10_nearest_263 ?_
                        refine lv_topi (fun x_24 ex_24 => ?_)
                        refine lv_ior hx hb dX10_nearest_264 ?_
                        refine lv_topi (fun x_25 ex_25 => ?_)
                        refine lv_lload hx hb dX10_nearest_265 (lv_at hl 2 rfl) ?_
                        refine lv_l2i hx hb dX10_nearest_267 rfl ?_
                        refine lv_topi (fun x_26 ex_26 => ?_)
                        refine lv_ldc (v := 8388607) hx hb hown (hts (.constant RX10 123 (8388607)) (List.mem_of_getElem? (i := 5) rfl)) dX10_nearest_268 ?_
                        refine lv_iand hx hb dX10_nearest_270 ?_
                        refine lv_topi (fun x_27 ex_27 => ?_)
                        refine lv_ior hx hb dX10_nearest_271 ?_
                        refine lv_topi (fun x_28 ex_28 => ?_)
                        refine W.widen (k := 0) (n := 0) (Nat.le_of_ble_eq_true rfl) (Nat.le_of_ble_eq_true rfl) ?_
                        have hP9 := hP.sub (ws' := []) [] rfl
                        have hD9 := hD.sub (ws' := []) [] (by decide) rfl
                        exact W.iret (v := x_28) hx hb hr (fun t ht hW => ⟨⟨x_28, (), rfl, trivial, by rw [ht]; exact hP9, hD9⟩, hS.F ht⟩) hS.2.2 dX10_nearest_272
                      · skip
                        refine lv_iload hx hb dX10_nearest_249 (lv_at hl 8 rfl) ?_
                        refine lv_ldc (v := 2139095040) hx hb hown (hts (.constant RX10 122 (2139095040)) (List.mem_of_getElem? (i := 6) rfl)) dX10_nearest_251 ?_
                        refine lv_ior hx hb dX10_nearest_253 ?_
                        refine lv_topi (fun x_29 ex_29 => ?_)
                        refine lv_goto (tgt := 272) hx hb dX10_nearest_254 (by decide) ?_
                        refine W.widen (k := 0) (n := 0) (Nat.le_of_ble_eq_true rfl) (Nat.le_of_ble_eq_true rfl) ?_
                        have hP9 := hP.sub (ws' := []) [] rfl
                        have hD9 := hD.sub (ws' := []) [] (by decide) rfl
                        exact W.iret (v := x_29) hx hb hr (fun t ht hW => ⟨⟨x_29, (), rfl, trivial, by rw [ht]; exact hP9, hD9⟩, hS.F ht⟩) hS.2.2 dX10_nearest_272
                    · skip
                      rw [g_c_ge] at c_21
                      refine lv_iload hx hb dX10_nearest_226 (lv_at hl 7 rfl) ?_
                      refine lv_lload hx hb dX10_nearest_228 (lv_at hl 1 rfl) ?_
                      refine lv_l2i hx hb dX10_nearest_230 rfl ?_
                      refine lv_topi (fun x_30 ex_30 => ?_)
                      refine lv_ior hx hb dX10_nearest_231 ?_
                      refine lv_topi (fun x_31 ex_31 => ?_)
                      refine W.widen (k := 0) (n := 0) (Nat.le_of_ble_eq_true rfl) (Nat.le_of_ble_eq_true rfl) ?_
                      have hP9 := hP.sub (ws' := []) [] rfl
                      have hD9 := hD.sub (ws' := []) [] (by decide) rfl
                      exact W.iret (v := x_31) hx hb hr (fun t ht hW => ⟨⟨x_31, (), rfl, trivial, by rw [ht]; exact hP9, hD9⟩, hS.F ht⟩) hS.2.2 dX10_nearest_232
                  · skip
                    refine lv_lload hx hb dX10_nearest_200 (lv_at hl 1 rfl) ?_
                    refine lv_ldc2 (v := 16777216) hx hb hown (hts (.constantLong RX10 118 (16777216)) (List.mem_of_getElem? (i := 7) rfl)) dX10_nearest_202 ?_
                    refine W.lcmp hx hb dX10_nearest_205 ?_
                    refine lv_if_ne (tgt := 217) hx hb dX10_nearest_206 (by decide) (fun c_32 => ?_) (fun c_32 => ?_)
                    · skip
                      rw [g_c_eq] at c_32
                      exact J_19 (y_17, x_18) H locs ls ⟨hP.sub (ws' := []) [] rfl, hS, lv_sub (l' := [(14, .int x_18), (7, .long y_17), (13, .int y_15), (11, .long y_13), (9, .long y_11), (6, .int y_7), (5, .int x_5), (4, .int y_2), (0, .int p0), (1, .long p1), (3, .int p3)]) hl [0, 1, 2, 3, 4, 5, 6, 7, 8, 9, 10] rfl⟩
                    · skip
                      rw [g_c_eq] at c_32
                      refine lv_ldc2 (v := 8388608) hx hb hown (hts (.constantLong RX10 120 (8388608)) (List.mem_of_getElem? (i := 4) rfl)) dX10_nearest_209 ?_
                      refine lv_lstore (lv' := [(7, .long 8388608), (14, .int x_18), (13, .int y_15), (11, .long y_13), (9, .long y_11), (6, .int y_7), (5, .int x_5), (4, .int y_2), (0, .int p0), (1, .long p1), (3, .int p3)]) hx hb dX10_nearest_212 hl (by decide) rfl (fun ls hl => ?_)
                      obtain ⟨x_33, ex_33⟩ : ∃ y : Int32, y = x_18 + 1 := ⟨_, rfl⟩
                      refine lv_iinc (v := x_33) (lv' := [(14, .int x_33), (7, .long 8388608), (13, .int y_15), (11, .long y_13), (9, .long y_11), (6, .int y_7), (5, .int x_5), (4, .int y_2), (0, .int p0), (1, .long p1), (3, .int p3)]) hx hb dX10_nearest_214 hl (k := 1) rfl (by rw [ex_33]; rfl) (by decide) rfl (fun ls hl => ?_)
                      exact J_19 (8388608, x_33) H locs ls ⟨hP.sub (ws' := []) [] rfl, hS, lv_sub (l' := [(14, .int x_33), (7, .long 8388608), (13, .int y_15), (11, .long y_13), (9, .long y_11), (6, .int y_7), (5, .int x_5), (4, .int y_2), (0, .int p0), (1, .long p1), (3, .int p3)]) hl [0, 1, 2, 3, 4, 5, 6, 7, 8, 9, 10] rfl⟩
                · skip
                  refine lv_lload hx hb dX10_nearest_179 (lv_at hl 3 rfl) ?_
                  refine lv_iload hx hb dX10_nearest_181 (lv_at hl 0 rfl) ?_
                  refine lv_if_eq (tgt := 190) hx hb dX10_nearest_183 (by decide) (fun c_34 => ?_) (fun c_34 => ?_)
                  · skip
                    refine lv_lconst (v := 0) hx hb dX10_nearest_190 (by decide) ?_
                    refine lv_ladd hx hb dX10_nearest_191 ?_
                    refine lv_topl (fun x_35 ex_35 => ?_)
                    refine lv_lstore (lv' := [(7, .long x_35), (13, .int y_15), (11, .long y_13), (9, .long y_11), (6, .int y_7), (5, .int x_5), (4, .int y_2), (0, .int p0), (1, .long p1), (3, .int p3)]) hx hb dX10_nearest_192 hl (by decide) rfl (fun ls hl => ?_)
                    exact J_16 x_35 H locs ls ⟨hP.sub (ws' := []) [] rfl, hS, lv_sub (l' := [(7, .long x_35), (13, .int y_15), (11, .long y_13), (9, .long y_11), (6, .int y_7), (5, .int x_5), (4, .int y_2), (0, .int p0), (1, .long p1), (3, .int p3)]) hl [0, 1, 2, 3, 4, 5, 6, 7, 8, 9] rfl⟩
                  · skip
                    refine lv_lconst (v := 1) hx hb dX10_nearest_186 (by decide) ?_
                    refine lv_goto (tgt := 191) hx hb dX10_nearest_187 (by decide) ?_
                    refine lv_ladd hx hb dX10_nearest_191 ?_
                    refine lv_topl (fun x_36 ex_36 => ?_)
                    refine lv_lstore (lv' := [(7, .long x_36), (13, .int y_15), (11, .long y_13), (9, .long y_11), (6, .int y_7), (5, .int x_5), (4, .int y_2), (0, .int p0), (1, .long p1), (3, .int p3)]) hx hb dX10_nearest_192 hl (by decide) rfl (fun ls hl => ?_)
                    exact J_16 x_36 H locs ls ⟨hP.sub (ws' := []) [] rfl, hS, lv_sub (l' := [(7, .long x_36), (13, .int y_15), (11, .long y_13), (9, .long y_11), (6, .int y_7), (5, .int x_5), (4, .int y_2), (0, .int p0), (1, .long p1), (3, .int p3)]) hl [0, 1, 2, 3, 4, 5, 6, 7, 8, 9] rfl⟩
              · skip
                refine lv_lload hx hb dX10_nearest_142 (lv_at hl 1 rfl) ?_
                refine lv_lload hx hb dX10_nearest_144 (lv_at hl 0 rfl) ?_
                refine W.lcmp hx hb dX10_nearest_146 ?_
                refine lv_if_gt (tgt := 172) hx hb dX10_nearest_147 (by decide) (fun c_37 => ?_) (fun c_37 => ?_)
                · skip
                  rw [g_c_gt] at c_37
                  refine lv_iconst (v := 1) hx hb dX10_nearest_172 (by decide) ?_
                  refine lv_goto (tgt := 177) hx hb dX10_nearest_173 (by decide) ?_
                  refine lv_istore (lv' := [(13, .int 1), (11, .long y_13), (9, .long y_11), (7, .long y_9), (6, .int y_7), (5, .int x_5), (4, .int y_2), (0, .int p0), (1, .long p1), (3, .int p3)]) hx hb dX10_nearest_177 hl (by decide) rfl (fun ls hl => ?_)
                  exact J_14 1 H locs ls ⟨hP.sub (ws' := []) [] rfl, hS, lv_sub (l' := [(13, .int 1), (11, .long y_13), (9, .long y_11), (7, .long y_9), (6, .int y_7), (5, .int x_5), (4, .int y_2), (0, .int p0), (1, .long p1), (3, .int p3)]) hl [0, 1, 2, 3, 4, 5, 6, 7, 8, 9] rfl⟩
                · skip
                  rw [g_c_gt] at c_37
                  refine lv_lload hx hb dX10_nearest_150 (lv_at hl 1 rfl) ?_
                  refine lv_lload hx hb dX10_nearest_152 (lv_at hl 0 rfl) ?_
                  refine W.lcmp hx hb dX10_nearest_154 ?_
                  refine lv_if_ne (tgt := 176) hx hb dX10_nearest_155 (by decide) (fun c_38 => ?_) (fun c_38 => ?_)
                  · skip
                    rw [g_c_eq] at c_38
                    refine lv_iconst (v := 0) hx hb dX10_nearest_176 (by decide) ?_
                    refine lv_istore (lv' := [(13, .int 0), (11, .long y_13), (9, .long y_11), (7, .long y_9), (6, .int y_7), (5, .int x_5), (4, .int y_2), (0, .int p0), (1, .long p1), (3, .int p3)]) hx hb dX10_nearest_177 hl (by decide) rfl (fun ls hl => ?_)
                    exact J_14 0 H locs ls ⟨hP.sub (ws' := []) [] rfl, hS, lv_sub (l' := [(13, .int 0), (11, .long y_13), (9, .long y_11), (7, .long y_9), (6, .int y_7), (5, .int x_5), (4, .int y_2), (0, .int p0), (1, .long p1), (3, .int p3)]) hl [0, 1, 2, 3, 4, 5, 6, 7, 8, 9] rfl⟩
                  · skip
                    rw [g_c_eq] at c_38
                    refine lv_iload hx hb dX10_nearest_158 (lv_at hl 3 rfl) ?_
                    refine lv_if_le (tgt := 176) hx hb dX10_nearest_160 (by decide) (fun c_39 => ?_) (fun c_39 => ?_)
                    · skip
                      refine lv_iconst (v := 0) hx hb dX10_nearest_176 (by decide) ?_
                      refine lv_istore (lv' := [(13, .int 0), (11, .long y_13), (9, .long y_11), (7, .long y_9), (6, .int y_7), (5, .int x_5), (4, .int y_2), (0, .int p0), (1, .long p1), (3, .int p3)]) hx hb dX10_nearest_177 hl (by decide) rfl (fun ls hl => ?_)
                      exact J_14 0 H locs ls ⟨hP.sub (ws' := []) [] rfl, hS, lv_sub (l' := [(13, .int 0), (11, .long y_13), (9, .long y_11), (7, .long y_9), (6, .int y_7), (5, .int x_5), (4, .int y_2), (0, .int p0), (1, .long p1), (3, .int p3)]) hl [0, 1, 2, 3, 4, 5, 6, 7, 8, 9] rfl⟩
                    · skip
                      refine lv_lload hx hb dX10_nearest_163 (lv_at hl 2 rfl) ?_
                      refine lv_lconst (v := 1) hx hb dX10_nearest_165 (by decide) ?_
                      refine lv_land hx hb dX10_nearest_166 ?_
                      refine lv_topl (fun x_40 ex_40 => ?_)
                      refine lv_lconst (v := 1) hx hb dX10_nearest_167 (by decide) ?_
                      refine W.lcmp hx hb dX10_nearest_168 ?_
                      refine lv_if_ne (tgt := 176) hx hb dX10_nearest_169 (by decide) (fun c_41 => ?_) (fun c_41 => ?_)
                      · skip
                        rw [g_c_eq] at c_41
                        refine lv_iconst (v := 0) hx hb dX10_nearest_176 (by decide) ?_
                        refine lv_istore (lv' := [(13, .int 0), (11, .long y_13), (9, .long y_11), (7, .long y_9), (6, .int y_7), (5, .int x_5), (4, .int y_2), (0, .int p0), (1, .long p1), (3, .int p3)]) hx hb dX10_nearest_177 hl (by decide) rfl (fun ls hl => ?_)
                        exact J_14 0 H locs ls ⟨hP.sub (ws' := []) [] rfl, hS, lv_sub (l' := [(13, .int 0), (11, .long y_13), (9, .long y_11), (7, .long y_9), (6, .int y_7), (5, .int x_5), (4, .int y_2), (0, .int p0), (1, .long p1), (3, .int p3)]) hl [0, 1, 2, 3, 4, 5, 6, 7, 8, 9] rfl⟩
                      · skip
                        rw [g_c_eq] at c_41
                        refine lv_iconst (v := 1) hx hb dX10_nearest_172 (by decide) ?_
                        refine lv_goto (tgt := 177) hx hb dX10_nearest_173 (by decide) ?_
                        refine lv_istore (lv' := [(13, .int 1), (11, .long y_13), (9, .long y_11), (7, .long y_9), (6, .int y_7), (5, .int x_5), (4, .int y_2), (0, .int p0), (1, .long p1), (3, .int p3)]) hx hb dX10_nearest_177 hl (by decide) rfl (fun ls hl => ?_)
                        exact J_14 1 H locs ls ⟨hP.sub (ws' := []) [] rfl, hS, lv_sub (l' := [(13, .int 1), (11, .long y_13), (9, .long y_11), (7, .long y_9), (6, .int y_7), (5, .int x_5), (4, .int y_2), (0, .int p0), (1, .long p1), (3, .int p3)]) hl [0, 1, 2, 3, 4, 5, 6, 7, 8, 9] rfl⟩
            · skip
              refine lv_iload hx hb dX10_nearest_112 (lv_at hl 2 rfl) ?_
              refine lv_if_gt (tgt := 121) hx hb dX10_nearest_114 (by decide) (fun c_42 => ?_) (fun c_42 => ?_)
              · skip
                refine lv_iload hx hb dX10_nearest_121 (lv_at hl 2 rfl) ?_
                refine lv_bipush (v := 62) hx hb dX10_nearest_123 (by decide) ?_
                refine lv_icmp_le (tgt := 134) hx hb dX10_nearest_125 (by decide) (fun c_43 => ?_) (fun c_43 => ?_)
                · skip
                  refine lv_lconst (v := 1) hx hb dX10_nearest_134 (by decide) ?_
                  refine lv_iload hx hb dX10_nearest_135 (lv_at hl 2 rfl) ?_
                  refine lv_iconst (v := 1) hx hb dX10_nearest_137 (by decide) ?_
                  refine lv_isub hx hb dX10_nearest_138 ?_
                  refine lv_topi (fun x_44 ex_44 => ?_)
                  refine lv_lshl hx hb dX10_nearest_139 rfl ?_
                  refine lv_topl (fun x_45 ex_45 => ?_)
                  refine lv_lstore (lv' := [(11, .long x_45), (9, .long y_11), (7, .long y_9), (6, .int y_7), (5, .int x_5), (4, .int y_2), (0, .int p0), (1, .long p1), (3, .int p3)]) hx hb dX10_nearest_140 hl (by decide) rfl (fun ls hl => ?_)
                  exact J_12 x_45 H locs ls ⟨hP.sub (ws' := []) [] rfl, hS, lv_sub (l' := [(11, .long x_45), (9, .long y_11), (7, .long y_9), (6, .int y_7), (5, .int x_5), (4, .int y_2), (0, .int p0), (1, .long p1), (3, .int p3)]) hl [0, 1, 2, 3, 4, 5, 6, 7, 8] rfl⟩
                · skip
                  refine lv_ldc2 (v := 2) hx hb hown (hts (.constantLong RX10 99 (2)) (List.mem_of_getElem? (i := 8) rfl)) dX10_nearest_128 ?_
                  refine lv_goto (tgt := 140) hx hb dX10_nearest_131 (by decide) ?_
                  refine lv_lstore (lv' := [(11, .long 2), (9, .long y_11), (7, .long y_9), (6, .int y_7), (5, .int x_5), (4, .int y_2), (0, .int p0), (1, .long p1), (3, .int p3)]) hx hb dX10_nearest_140 hl (by decide) rfl (fun ls hl => ?_)
                  exact J_12 2 H locs ls ⟨hP.sub (ws' := []) [] rfl, hS, lv_sub (l' := [(11, .long 2), (9, .long y_11), (7, .long y_9), (6, .int y_7), (5, .int x_5), (4, .int y_2), (0, .int p0), (1, .long p1), (3, .int p3)]) hl [0, 1, 2, 3, 4, 5, 6, 7, 8] rfl⟩
              · skip
                refine lv_lconst (v := 1) hx hb dX10_nearest_117 (by decide) ?_
                refine lv_goto (tgt := 140) hx hb dX10_nearest_118 (by decide) ?_
                refine lv_lstore (lv' := [(11, .long 1), (9, .long y_11), (7, .long y_9), (6, .int y_7), (5, .int x_5), (4, .int y_2), (0, .int p0), (1, .long p1), (3, .int p3)]) hx hb dX10_nearest_140 hl (by decide) rfl (fun ls hl => ?_)
                exact J_12 1 H locs ls ⟨hP.sub (ws' := []) [] rfl, hS, lv_sub (l' := [(11, .long 1), (9, .long y_11), (7, .long y_9), (6, .int y_7), (5, .int x_5), (4, .int y_2), (0, .int p0), (1, .long p1), (3, .int p3)]) hl [0, 1, 2, 3, 4, 5, 6, 7, 8] rfl⟩
          · skip
            refine lv_iload hx hb dX10_nearest_82 (lv_at hl 1 rfl) ?_
            refine lv_if_gt (tgt := 91) hx hb dX10_nearest_84 (by decide) (fun c_46 => ?_) (fun c_46 => ?_)
            · skip
              refine lv_iload hx hb dX10_nearest_91 (lv_at hl 1 rfl) ?_
              refine lv_bipush (v := 62) hx hb dX10_nearest_93 (by decide) ?_
              refine lv_icmp_le (tgt := 102) hx hb dX10_nearest_95 (by decide) (fun c_47 => ?_) (fun c_47 => ?_)
              · skip
                refine lv_lload_n hx hb dX10_nearest_102 rfl (lv_at hl 5 rfl) ?_
                refine lv_lconst (v := 1) hx hb dX10_nearest_103 (by decide) ?_
                refine lv_iload hx hb dX10_nearest_104 (lv_at hl 1 rfl) ?_
                refine lv_lshl hx hb dX10_nearest_106 rfl ?_
                refine lv_topl (fun x_48 ex_48 => ?_)
                refine lv_lconst (v := 1) hx hb dX10_nearest_107 (by decide) ?_
                refine lv_lsub hx hb dX10_nearest_108 ?_
                refine lv_topl (fun x_49 ex_49 => ?_)
                refine lv_land hx hb dX10_nearest_109 ?_
                refine lv_topl (fun x_50 ex_50 => ?_)
                refine lv_lstore (lv' := [(9, .long x_50), (7, .long y_9), (6, .int y_7), (5, .int x_5), (4, .int y_2), (0, .int p0), (1, .long p1), (3, .int p3)]) hx hb dX10_nearest_110 hl (by decide) rfl (fun ls hl => ?_)
                exact J_10 x_50 H locs ls ⟨hP.sub (ws' := []) [] rfl, hS, lv_sub (l' := [(9, .long x_50), (7, .long y_9), (6, .int y_7), (5, .int x_5), (4, .int y_2), (0, .int p0), (1, .long p1), (3, .int p3)]) hl [0, 1, 2, 3, 4, 5, 6, 7] rfl⟩
              · skip
                refine lv_lconst (v := 1) hx hb dX10_nearest_98 (by decide) ?_
                refine lv_goto (tgt := 110) hx hb dX10_nearest_99 (by decide) ?_
                refine lv_lstore (lv' := [(9, .long 1), (7, .long y_9), (6, .int y_7), (5, .int x_5), (4, .int y_2), (0, .int p0), (1, .long p1), (3, .int p3)]) hx hb dX10_nearest_110 hl (by decide) rfl (fun ls hl => ?_)
                exact J_10 1 H locs ls ⟨hP.sub (ws' := []) [] rfl, hS, lv_sub (l' := [(9, .long 1), (7, .long y_9), (6, .int y_7), (5, .int x_5), (4, .int y_2), (0, .int p0), (1, .long p1), (3, .int p3)]) hl [0, 1, 2, 3, 4, 5, 6, 7] rfl⟩
            · skip
              refine lv_lconst (v := 0) hx hb dX10_nearest_87 (by decide) ?_
              refine lv_goto (tgt := 110) hx hb dX10_nearest_88 (by decide) ?_
              refine lv_lstore (lv' := [(9, .long 0), (7, .long y_9), (6, .int y_7), (5, .int x_5), (4, .int y_2), (0, .int p0), (1, .long p1), (3, .int p3)]) hx hb dX10_nearest_110 hl (by decide) rfl (fun ls hl => ?_)
              exact J_10 0 H locs ls ⟨hP.sub (ws' := []) [] rfl, hS, lv_sub (l' := [(9, .long 0), (7, .long y_9), (6, .int y_7), (5, .int x_5), (4, .int y_2), (0, .int p0), (1, .long p1), (3, .int p3)]) hl [0, 1, 2, 3, 4, 5, 6, 7] rfl⟩
        · skip
          refine lv_iload hx hb dX10_nearest_52 (lv_at hl 0 rfl) ?_
          refine lv_if_gt (tgt := 65) hx hb dX10_nearest_54 (by decide) (fun c_51 => ?_) (fun c_51 => ?_)
          · skip
            refine lv_iload hx hb dX10_nearest_65 (lv_at hl 0 rfl) ?_
            refine lv_bipush (v := 62) hx hb dX10_nearest_67 (by decide) ?_
            refine lv_icmp_le (tgt := 76) hx hb dX10_nearest_69 (by decide) (fun c_52 => ?_) (fun c_52 => ?_)
            · skip
              refine lv_lload_n hx hb dX10_nearest_76 rfl (lv_at hl 4 rfl) ?_
              refine lv_iload hx hb dX10_nearest_77 (lv_at hl 0 rfl) ?_
              refine lv_lshr hx hb dX10_nearest_79 rfl ?_
              refine lv_topl (fun x_53 ex_53 => ?_)
              refine lv_lstore (lv' := [(7, .long x_53), (6, .int y_7), (5, .int x_5), (4, .int y_2), (0, .int p0), (1, .long p1), (3, .int p3)]) hx hb dX10_nearest_80 hl (by decide) rfl (fun ls hl => ?_)
              exact J_8 x_53 H locs ls ⟨hP.sub (ws' := []) [] rfl, hS, lv_sub (l' := [(7, .long x_53), (6, .int y_7), (5, .int x_5), (4, .int y_2), (0, .int p0), (1, .long p1), (3, .int p3)]) hl [0, 1, 2, 3, 4, 5, 6] rfl⟩
            · skip
              refine lv_lconst (v := 0) hx hb dX10_nearest_72 (by decide) ?_
              refine lv_goto (tgt := 80) hx hb dX10_nearest_73 (by decide) ?_
              refine lv_lstore (lv' := [(7, .long 0), (6, .int y_7), (5, .int x_5), (4, .int y_2), (0, .int p0), (1, .long p1), (3, .int p3)]) hx hb dX10_nearest_80 hl (by decide) rfl (fun ls hl => ?_)
              exact J_8 0 H locs ls ⟨hP.sub (ws' := []) [] rfl, hS, lv_sub (l' := [(7, .long 0), (6, .int y_7), (5, .int x_5), (4, .int y_2), (0, .int p0), (1, .long p1), (3, .int p3)]) hl [0, 1, 2, 3, 4, 5, 6] rfl⟩
          · skip
            refine lv_lload_n hx hb dX10_nearest_57 rfl (lv_at hl 4 rfl) ?_
            refine lv_iload hx hb dX10_nearest_58 (lv_at hl 0 rfl) ?_
            refine lv_ineg hx hb dX10_nearest_60 ?_
            refine lv_topi (fun x_54 ex_54 => ?_)
            refine lv_lshl hx hb dX10_nearest_61 rfl ?_
            refine lv_topl (fun x_55 ex_55 => ?_)
            refine lv_goto (tgt := 80) hx hb dX10_nearest_62 (by decide) ?_
            refine lv_lstore (lv' := [(7, .long x_55), (6, .int y_7), (5, .int x_5), (4, .int y_2), (0, .int p0), (1, .long p1), (3, .int p3)]) hx hb dX10_nearest_80 hl (by decide) rfl (fun ls hl => ?_)
            exact J_8 x_55 H locs ls ⟨hP.sub (ws' := []) [] rfl, hS, lv_sub (l' := [(7, .long x_55), (6, .int y_7), (5, .int x_5), (4, .int y_2), (0, .int p0), (1, .long p1), (3, .int p3)]) hl [0, 1, 2, 3, 4, 5, 6] rfl⟩
      · skip
        refine lv_iload_n hx hb dX10_nearest_30 rfl (lv_at hl 4 rfl) ?_
        refine lv_iload hx hb dX10_nearest_31 (lv_at hl 0 rfl) ?_
        refine lv_iadd hx hb dX10_nearest_33 ?_
        refine lv_topi (fun x_56 ex_56 => ?_)
        refine lv_sipush (v := (-149)) hx hb dX10_nearest_34 (by decide) ?_
        refine lv_icmp_ge (tgt := 48) hx hb dX10_nearest_37 (by decide) (fun c_57 => ?_) (fun c_57 => ?_)
        · skip
          refine lv_iload hx hb dX10_nearest_48 (lv_at hl 0 rfl) ?_
          refine lv_istore (lv' := [(6, .int x_5), (5, .int x_5), (4, .int y_2), (0, .int p0), (1, .long p1), (3, .int p3)]) hx hb dX10_nearest_50 hl (by decide) rfl (fun ls hl => ?_)
          exact J_6 x_5 H locs ls ⟨hP.sub (ws' := []) [] rfl, hS, lv_sub (l' := [(6, .int x_5), (5, .int x_5), (4, .int y_2), (0, .int p0), (1, .long p1), (3, .int p3)]) hl [0, 1, 2, 3, 4, 5] rfl⟩
        · skip
          refine lv_sipush (v := (-149)) hx hb dX10_nearest_40 (by decide) ?_
          refine lv_iload_n hx hb dX10_nearest_43 rfl (lv_at hl 4 rfl) ?_
          refine lv_isub hx hb dX10_nearest_44 ?_
          refine lv_topi (fun x_58 ex_58 => ?_)
          refine lv_goto (tgt := 50) hx hb dX10_nearest_45 (by decide) ?_
          refine lv_istore (lv' := [(6, .int x_58), (5, .int x_5), (4, .int y_2), (0, .int p0), (1, .long p1), (3, .int p3)]) hx hb dX10_nearest_50 hl (by decide) rfl (fun ls hl => ?_)
          exact J_6 x_58 H locs ls ⟨hP.sub (ws' := []) [] rfl, hS, lv_sub (l' := [(6, .int x_58), (5, .int x_5), (4, .int y_2), (0, .int p0), (1, .long p1), (3, .int p3)]) hl [0, 1, 2, 3, 4, 5] rfl⟩
    · skip
      rw [g_c_eq] at c_3
      refine lv_iload hx hb dX10_nearest_18 (lv_at hl 0 rfl) ?_
      refine W.widen (k := 0) (n := 0) (Nat.le_of_ble_eq_true rfl) (Nat.le_of_ble_eq_true rfl) ?_
      have hP9 := hP.sub (ws' := []) [] rfl
      have hD9 := hD.sub (ws' := []) [] (by decide) rfl
      exact W.iret (v := y_2) hx hb hr (fun t ht hW => ⟨⟨y_2, (), rfl, trivial, by rw [ht]; exact hP9, hD9⟩, hS.F ht⟩) hS.2.2 dX10_nearest_20
  · skip
    refine lv_iload_n hx hb dX10_nearest_0 rfl (lv_at hl 0 rfl) ?_
    refine lv_if_eq (tgt := 9) hx hb dX10_nearest_1 (by decide) (fun c_59 => ?_) (fun c_59 => ?_)
    · skip
      refine lv_iconst (v := 0) hx hb dX10_nearest_9 (by decide) ?_
      refine lv_istore (lv' := [(4, .int 0), (0, .int p0), (1, .long p1), (3, .int p3)]) hx hb dX10_nearest_10 hl (by decide) rfl (fun ls hl => ?_)
      exact J_1 0 H locs ls ⟨hP.sub (ws' := []) [] rfl, hS, lv_sub (l' := [(4, .int 0), (0, .int p0), (1, .long p1), (3, .int p3)]) hl [0, 1, 2, 3] rfl⟩
    · skip
      refine lv_ldc (v := (-2147483648)) hx hb hown (hts (.constant RX10 113 (-2147483648)) (List.mem_of_getElem? (i := 9) rfl)) dX10_nearest_4 ?_
      refine lv_goto (tgt := 10) hx hb dX10_nearest_6 (by decide) ?_
      refine lv_istore (lv' := [(4, .int (-2147483648)), (0, .int p0), (1, .long p1), (3, .int p3)]) hx hb dX10_nearest_10 hl (by decide) rfl (fun ls hl => ?_)
      exact J_1 (-2147483648) H locs ls ⟨hP.sub (ws' := []) [] rfl, hS, lv_sub (l' := [(4, .int (-2147483648)), (0, .int p0), (1, .long p1), (3, .int p3)]) hl [0, 1, 2, 3] rfl⟩
def oc_X10_floatOf : List Cond := [.methodLink RX10 140 yX10_nearest, .static yX10_nearest, .initialized RX10]
def vc_X10_floatOf : List Cond := .code yX10_floatOf cX10_floatOf 2 (some .int) :: (oc_X10_floatOf ++ (vc_X10_nearest))
theorem ic_c_X10_floatOf_c_X10_nearest : ∀ w ∈ vc_X10_nearest, w ∈ vc_X10_floatOf := fun _ h => List.mem_cons_of_mem _ (List.mem_append_right _ (h))
theorem gd_c_X10_floatOf : (vc_X10_floatOf).all goodWord = true := by decide +kernel
set_option maxHeartbeats 4000000 in
set_option maxRecDepth 100000 in
theorem c_X10_floatOf (l : Launch) (dC : Nat → ClassId) (dI : Nat → Nat → Nat) (cI cT cS : ClassId) (sz : Nat) (p0 : Int64) (hb : -2147483648 ≤ p0.toInt ∧ p0.toInt ≤ 2147483647) : gCI (S := Unit) l yX10_floatOf vc_X10_floatOf ({ frames := 2, cells := 0, slots := 0, locals := 59 }) (dC, dI) (gTY cI cT cS) sz [.long p0] [] (fun r u => True) (fun _ => []) 0 0 := by
  refine Met.ofW (cc := cX10_floatOf) (maxL := 2) (ret := (some .int)) (by decide) rfl ?_
  intro p e s m args below meth c s₁ B hml hv
  obtain ⟨rfl, hsz, hP, hK, hD0⟩ := hv
  have hx := B.exec
  have hb := B.bytes
  have hr := B.returns
  have hts := atoms_spec (ws := vc_X10_floatOf) B.pre
  have hown : s.vm.findClass RX10 = some m.cls := findClass_of_methodNamed B.named
  have hlocks := B.notSynchronized
  subst hsz
  have hD := hD0.self (sz := s.heap.size)
  generalize hAe : va_A [] s.heap.size = A at hD ⊢
  have hA : ∀ q : Nat, s.heap.size ≤ q → A q := fun q h => by rw [← hAe]; exact Or.inr h
  refine gstart (fun H locs hHe hLe => ?_)
  have hS : va_S A s.heap H locs := by rw [← hHe, ← hLe]; exact va_S.rf
  replace hP : va_P (dC, dI) vwCl [] H := by rw [← hHe]; exact hP
  clear hHe hLe
  have hl := lv_entry ([.long p0]) (n := 2) (Nat.le_of_ble_eq_true rfl)
  rw [lg_entry_eq]
  generalize (lg_sl ([.long p0]) ++ List.replicate (2 - (lg_sl ([.long p0])).length) Slot.unset).toArray = ls at hl ⊢
  replace hl : lv_has ls 2 [(0, .long p0)] := hl
  refine lv_lload_n hx hb dX10_floatOf_0 rfl (lv_at hl 0 rfl) ?_
  refine lv_lconst (v := 0) hx hb dX10_floatOf_1 (by decide) ?_
  refine W.lcmp hx hb dX10_floatOf_2 ?_
  refine lv_if_ge (tgt := 10) hx hb dX10_floatOf_3 (by decide) (fun c_1 => ?_) (fun c_1 => ?_)
  · skip
    rw [g_c_ge] at c_1
    refine lv_iconst (v := 0) hx hb dX10_floatOf_10 (by decide) ?_
    refine lv_lload_n hx hb dX10_floatOf_11 rfl (lv_at hl 0 rfl) ?_
    refine lv_lconst (v := 0) hx hb dX10_floatOf_12 (by decide) ?_
    refine W.lcmp hx hb dX10_floatOf_13 ?_
    refine lv_if_ge (tgt := 22) hx hb dX10_floatOf_14 (by decide) (fun c_2 => ?_) (fun c_2 => ?_)
    · skip
      rw [g_c_ge] at c_2
      refine lv_lload_n hx hb dX10_floatOf_22 rfl (lv_at hl 0 rfl) ?_
      refine lv_iconst (v := 0) hx hb dX10_floatOf_23 (by decide) ?_
      refine gcalli (S := Unit) (wc := []) (wr := []) (w1 := fun _ => []) (va_runS (As := [.int 0, .long p0, .int 0]) (rest := []) ⟨hx, hb, hml, hown, hts⟩ (c_X10_nearest l dC dI cI cT cS H.size 0 0 p0 (by (try simp only [← Int32.toInt_inj, Int32.lt_iff_toInt_lt, Int32.le_iff_toInt_le, ← Int64.toInt_inj, Int64.lt_iff_toInt_lt, Int64.le_iff_toInt_le, Int32.toInt_toInt64, (show (0 : Int32).toInt = 0 from rfl), (show (1 : Int32).toInt = 1 from rfl), (show (0 : Int64).toInt = 0 from rfl)] at c_1); (try simp only [← Int32.toInt_inj, Int32.lt_iff_toInt_lt, Int32.le_iff_toInt_le, ← Int64.toInt_inj, Int64.lt_iff_toInt_lt, Int64.le_iff_toInt_le, Int32.toInt_toInt64, (show (0 : Int32).toInt = 0 from rfl), (show (1 : Int32).toInt = 1 from rfl), (show (0 : Int64).toInt = 0 from rfl)] at c_2); omega)) (va_cwS 3 hts (gWS (List.mem_of_getElem? (i := 1) rfl) (List.mem_of_getElem? (i := 2) rfl) (List.mem_of_getElem? (i := 3) rfl) ic_c_X10_floatOf_c_X10_nearest gd_c_X10_nearest) rfl rfl rfl (by decide +kernel) ⟨(Nat.le_of_ble_eq_true rfl), (Nat.le_of_ble_eq_true rfl)⟩) (gpS (hP.sub (ws' := []) [] rfl) hK (hD.sub (ws' := []) [] (by decide) rfl)) rfl rfl hl.1 rfl (lv_room (Nat.le_of_ble_eq_true rfl)) dX10_floatOf_24 ⟨(Nat.le_of_ble_eq_true rfl), (Nat.le_of_ble_eq_true rfl)⟩) hP hD hS hA [] [] rfl rfl (by decide) (by decide) (fun r_3 ur_3 H locs wr_3 hP hD hS => ?_)
      replace hP : va_P (dC, dI) vwCl [] H := hP
      replace hD : va_D A [] := hD
      refine W.widen (k := 0) (n := 0) (Nat.le_of_ble_eq_true rfl) (Nat.le_of_ble_eq_true rfl) ?_
      have hP9 := hP.sub (ws' := []) [] rfl
      have hD9 := hD.sub (ws' := []) [] (by decide) rfl
      exact W.iret (v := r_3) hx hb hr (fun t ht hW => ⟨⟨r_3, (), rfl, trivial, by rw [ht]; exact hP9, hD9⟩, hS.F ht⟩) hS.2.2 dX10_floatOf_27
    · skip
      rw [g_c_ge] at c_2
      refine lv_lload_n hx hb dX10_floatOf_17 rfl (lv_at hl 0 rfl) ?_
      refine lv_lneg hx hb dX10_floatOf_18 ?_
      refine lv_topl (fun x_4 ex_4 => ?_)
      refine lv_goto (tgt := 23) hx hb dX10_floatOf_19 (by decide) ?_
      refine lv_iconst (v := 0) hx hb dX10_floatOf_23 (by decide) ?_
      refine gcalli (S := Unit) (wc := []) (wr := []) (w1 := fun _ => []) (va_runS (As := [.int 0, .long x_4, .int 0]) (rest := []) ⟨hx, hb, hml, hown, hts⟩ (c_X10_nearest l dC dI cI cT cS H.size 0 0 x_4 (by rw [ex_4]; exact g_neg64 (by (try simp only [← Int32.toInt_inj, Int32.lt_iff_toInt_lt, Int32.le_iff_toInt_le, ← Int64.toInt_inj, Int64.lt_iff_toInt_lt, Int64.le_iff_toInt_le, Int32.toInt_toInt64, (show (0 : Int32).toInt = 0 from rfl), (show (1 : Int32).toInt = 1 from rfl), (show (0 : Int64).toInt = 0 from rfl)] at c_1); (try simp only [← Int32.toInt_inj, Int32.lt_iff_toInt_lt, Int32.le_iff_toInt_le, ← Int64.toInt_inj, Int64.lt_iff_toInt_lt, Int64.le_iff_toInt_le, Int32.toInt_toInt64, (show (0 : Int32).toInt = 0 from rfl), (show (1 : Int32).toInt = 1 from rfl), (show (0 : Int64).toInt = 0 from rfl)] at c_2); omega))) (va_cwS 3 hts (gWS (List.mem_of_getElem? (i := 1) rfl) (List.mem_of_getElem? (i := 2) rfl) (List.mem_of_getElem? (i := 3) rfl) ic_c_X10_floatOf_c_X10_nearest gd_c_X10_nearest) rfl rfl rfl (by decide +kernel) ⟨(Nat.le_of_ble_eq_true rfl), (Nat.le_of_ble_eq_true rfl)⟩) (gpS (hP.sub (ws' := []) [] rfl) hK (hD.sub (ws' := []) [] (by decide) rfl)) rfl rfl hl.1 rfl (lv_room (Nat.le_of_ble_eq_true rfl)) dX10_floatOf_24 ⟨(Nat.le_of_ble_eq_true rfl), (Nat.le_of_ble_eq_true rfl)⟩) hP hD hS hA [] [] rfl rfl (by decide) (by decide) (fun r_5 ur_5 H locs wr_5 hP hD hS => ?_)
      replace hP : va_P (dC, dI) vwCl [] H := hP
      replace hD : va_D A [] := hD
      refine W.widen (k := 0) (n := 0) (Nat.le_of_ble_eq_true rfl) (Nat.le_of_ble_eq_true rfl) ?_
      have hP9 := hP.sub (ws' := []) [] rfl
      have hD9 := hD.sub (ws' := []) [] (by decide) rfl
      exact W.iret (v := r_5) hx hb hr (fun t ht hW => ⟨⟨r_5, (), rfl, trivial, by rw [ht]; exact hP9, hD9⟩, hS.F ht⟩) hS.2.2 dX10_floatOf_27
  · skip
    rw [g_c_ge] at c_1
    refine lv_iconst (v := 1) hx hb dX10_floatOf_6 (by decide) ?_
    refine lv_goto (tgt := 11) hx hb dX10_floatOf_7 (by decide) ?_
    refine lv_lload_n hx hb dX10_floatOf_11 rfl (lv_at hl 0 rfl) ?_
    refine lv_lconst (v := 0) hx hb dX10_floatOf_12 (by decide) ?_
    refine W.lcmp hx hb dX10_floatOf_13 ?_
    refine lv_if_ge (tgt := 22) hx hb dX10_floatOf_14 (by decide) (fun c_6 => ?_) (fun c_6 => ?_)
    · skip
      rw [g_c_ge] at c_6
      refine lv_lload_n hx hb dX10_floatOf_22 rfl (lv_at hl 0 rfl) ?_
      refine lv_iconst (v := 0) hx hb dX10_floatOf_23 (by decide) ?_
      refine gcalli (S := Unit) (wc := []) (wr := []) (w1 := fun _ => []) (va_runS (As := [.int 1, .long p0, .int 0]) (rest := []) ⟨hx, hb, hml, hown, hts⟩ (c_X10_nearest l dC dI cI cT cS H.size 1 0 p0 (by (try simp only [← Int32.toInt_inj, Int32.lt_iff_toInt_lt, Int32.le_iff_toInt_le, ← Int64.toInt_inj, Int64.lt_iff_toInt_lt, Int64.le_iff_toInt_le, Int32.toInt_toInt64, (show (0 : Int32).toInt = 0 from rfl), (show (1 : Int32).toInt = 1 from rfl), (show (0 : Int64).toInt = 0 from rfl)] at c_1); (try simp only [← Int32.toInt_inj, Int32.lt_iff_toInt_lt, Int32.le_iff_toInt_le, ← Int64.toInt_inj, Int64.lt_iff_toInt_lt, Int64.le_iff_toInt_le, Int32.toInt_toInt64, (show (0 : Int32).toInt = 0 from rfl), (show (1 : Int32).toInt = 1 from rfl), (show (0 : Int64).toInt = 0 from rfl)] at c_6); omega)) (va_cwS 3 hts (gWS (List.mem_of_getElem? (i := 1) rfl) (List.mem_of_getElem? (i := 2) rfl) (List.mem_of_getElem? (i := 3) rfl) ic_c_X10_floatOf_c_X10_nearest gd_c_X10_nearest) rfl rfl rfl (by decide +kernel) ⟨(Nat.le_of_ble_eq_true rfl), (Nat.le_of_ble_eq_true rfl)⟩) (gpS (hP.sub (ws' := []) [] rfl) hK (hD.sub (ws' := []) [] (by decide) rfl)) rfl rfl hl.1 rfl (lv_room (Nat.le_of_ble_eq_true rfl)) dX10_floatOf_24 ⟨(Nat.le_of_ble_eq_true rfl), (Nat.le_of_ble_eq_true rfl)⟩) hP hD hS hA [] [] rfl rfl (by decide) (by decide) (fun r_7 ur_7 H locs wr_7 hP hD hS => ?_)
      replace hP : va_P (dC, dI) vwCl [] H := hP
      replace hD : va_D A [] := hD
      refine W.widen (k := 0) (n := 0) (Nat.le_of_ble_eq_true rfl) (Nat.le_of_ble_eq_true rfl) ?_
      have hP9 := hP.sub (ws' := []) [] rfl
      have hD9 := hD.sub (ws' := []) [] (by decide) rfl
      exact W.iret (v := r_7) hx hb hr (fun t ht hW => ⟨⟨r_7, (), rfl, trivial, by rw [ht]; exact hP9, hD9⟩, hS.F ht⟩) hS.2.2 dX10_floatOf_27
    · skip
      rw [g_c_ge] at c_6
      refine lv_lload_n hx hb dX10_floatOf_17 rfl (lv_at hl 0 rfl) ?_
      refine lv_lneg hx hb dX10_floatOf_18 ?_
      refine lv_topl (fun x_8 ex_8 => ?_)
      refine lv_goto (tgt := 23) hx hb dX10_floatOf_19 (by decide) ?_
      refine lv_iconst (v := 0) hx hb dX10_floatOf_23 (by decide) ?_
      refine gcalli (S := Unit) (wc := []) (wr := []) (w1 := fun _ => []) (va_runS (As := [.int 1, .long x_8, .int 0]) (rest := []) ⟨hx, hb, hml, hown, hts⟩ (c_X10_nearest l dC dI cI cT cS H.size 1 0 x_8 (by rw [ex_8]; exact g_neg64 (by (try simp only [← Int32.toInt_inj, Int32.lt_iff_toInt_lt, Int32.le_iff_toInt_le, ← Int64.toInt_inj, Int64.lt_iff_toInt_lt, Int64.le_iff_toInt_le, Int32.toInt_toInt64, (show (0 : Int32).toInt = 0 from rfl), (show (1 : Int32).toInt = 1 from rfl), (show (0 : Int64).toInt = 0 from rfl)] at c_1); (try simp only [← Int32.toInt_inj, Int32.lt_iff_toInt_lt, Int32.le_iff_toInt_le, ← Int64.toInt_inj, Int64.lt_iff_toInt_lt, Int64.le_iff_toInt_le, Int32.toInt_toInt64, (show (0 : Int32).toInt = 0 from rfl), (show (1 : Int32).toInt = 1 from rfl), (show (0 : Int64).toInt = 0 from rfl)] at c_6); omega))) (va_cwS 3 hts (gWS (List.mem_of_getElem? (i := 1) rfl) (List.mem_of_getElem? (i := 2) rfl) (List.mem_of_getElem? (i := 3) rfl) ic_c_X10_floatOf_c_X10_nearest gd_c_X10_nearest) rfl rfl rfl (by decide +kernel) ⟨(Nat.le_of_ble_eq_true rfl), (Nat.le_of_ble_eq_true rfl)⟩) (gpS (hP.sub (ws' := []) [] rfl) hK (hD.sub (ws' := []) [] (by decide) rfl)) rfl rfl hl.1 rfl (lv_room (Nat.le_of_ble_eq_true rfl)) dX10_floatOf_24 ⟨(Nat.le_of_ble_eq_true rfl), (Nat.le_of_ble_eq_true rfl)⟩) hP hD hS hA [] [] rfl rfl (by decide) (by decide) (fun r_9 ur_9 H locs wr_9 hP hD hS => ?_)
      replace hP : va_P (dC, dI) vwCl [] H := hP
      replace hD : va_D A [] := hD
      refine W.widen (k := 0) (n := 0) (Nat.le_of_ble_eq_true rfl) (Nat.le_of_ble_eq_true rfl) ?_
      have hP9 := hP.sub (ws' := []) [] rfl
      have hD9 := hD.sub (ws' := []) [] (by decide) rfl
      exact W.iret (v := r_9) hx hb hr (fun t ht hW => ⟨⟨r_9, (), rfl, trivial, by rw [ht]; exact hP9, hD9⟩, hS.F ht⟩) hS.2.2 dX10_floatOf_27
def oc_X10_product : List Cond := [.methodLink RX10 126 yX10_isNan, .static yX10_isNan, .initialized RX10, .constant RX10 129 (2143289344), .methodLink RX10 136 yX10_placesOf, .static yX10_placesOf, .methodLink RX10 133 yX10_powerOf, .static yX10_powerOf, .methodLink RX10 140 yX10_nearest, .static yX10_nearest, .constant RX10 122 (2139095040), .constant RX10 144 (-8388608), .constant RX10 124 (2147483647), .methodLink RX10 130 yX10_isEndless, .static yX10_isEndless]
def vc_X10_product : List Cond := .code yX10_product cX10_product 5 (some .int) :: (oc_X10_product ++ (vc_X10_isNan ++ (vc_X10_placesOf ++ (vc_X10_powerOf ++ (vc_X10_nearest ++ (vc_X10_isEndless))))))
theorem ic_c_X10_product_c_X10_isNan : ∀ w ∈ vc_X10_isNan, w ∈ vc_X10_product := fun _ h => List.mem_cons_of_mem _ (List.mem_append_right _ (List.mem_append_left _ h))
theorem ic_c_X10_product_c_X10_placesOf : ∀ w ∈ vc_X10_placesOf, w ∈ vc_X10_product := fun _ h => List.mem_cons_of_mem _ (List.mem_append_right _ (List.mem_append_right _ (List.mem_append_left _ h)))
theorem ic_c_X10_product_c_X10_powerOf : ∀ w ∈ vc_X10_powerOf, w ∈ vc_X10_product := fun _ h => List.mem_cons_of_mem _ (List.mem_append_right _ (List.mem_append_right _ (List.mem_append_right _ (List.mem_append_left _ h))))
theorem ic_c_X10_product_c_X10_nearest : ∀ w ∈ vc_X10_nearest, w ∈ vc_X10_product := fun _ h => List.mem_cons_of_mem _ (List.mem_append_right _ (List.mem_append_right _ (List.mem_append_right _ (List.mem_append_right _ (List.mem_append_left _ h)))))
theorem ic_c_X10_product_c_X10_isEndless : ∀ w ∈ vc_X10_isEndless, w ∈ vc_X10_product := fun _ h => List.mem_cons_of_mem _ (List.mem_append_right _ (List.mem_append_right _ (List.mem_append_right _ (List.mem_append_right _ (List.mem_append_right _ (h))))))
theorem gd_c_X10_product : (vc_X10_product).all goodWord = true := by decide +kernel
set_option maxHeartbeats 4000000 in
set_option maxRecDepth 100000 in
theorem c_X10_product (l : Launch) (dC : Nat → ClassId) (dI : Nat → Nat → Nat) (cI cT cS : ClassId) (sz : Nat) (p0 : Int32) (p1 : Int32)  : gCI (S := Unit) l yX10_product vc_X10_product ({ frames := 2, cells := 0, slots := 0, locals := 59 }) (dC, dI) (gTY cI cT cS) sz [.int p0, .int p1] [] (fun r u => True) (fun _ => []) 0 0 := by
  refine Met.ofW (cc := cX10_product) (maxL := 5) (ret := (some .int)) (by decide) rfl ?_
  intro p e s m args below meth c s₁ B hml hv
  obtain ⟨rfl, hsz, hP, hK, hD0⟩ := hv
  have hx := B.exec
  have hb := B.bytes
  have hr := B.returns
  have hts := atoms_spec (ws := vc_X10_product) B.pre
  have hown : s.vm.findClass RX10 = some m.cls := findClass_of_methodNamed B.named
  have hlocks := B.notSynchronized
  subst hsz
  have hD := hD0.self (sz := s.heap.size)
  generalize hAe : va_A [] s.heap.size = A at hD ⊢
  have hA : ∀ q : Nat, s.heap.size ≤ q → A q := fun q h => by rw [← hAe]; exact Or.inr h
  refine gstart (fun H locs hHe hLe => ?_)
  have hS : va_S A s.heap H locs := by rw [← hHe, ← hLe]; exact va_S.rf
  replace hP : va_P (dC, dI) vwCl [] H := by rw [← hHe]; exact hP
  clear hHe hLe
  have hl := lv_entry ([.int p0, .int p1]) (n := 5) (Nat.le_of_ble_eq_true rfl)
  rw [lg_entry_eq]
  generalize (lg_sl ([.int p0, .int p1]) ++ List.replicate (5 - (lg_sl ([.int p0, .int p1])).length) Slot.unset).toArray = ls at hl ⊢
  replace hl : lv_has ls 5 [(0, .int p0), (1, .int p1)] := hl
  refine lv_iload_n hx hb dX10_product_0 rfl (lv_at hl 0 rfl) ?_
  refine gcalli (S := Unit) (wc := []) (wr := []) (w1 := fun _ => []) (va_runS (As := [.int p0]) (rest := []) ⟨hx, hb, hml, hown, hts⟩ (c_X10_isNan l dC dI cI cT cS H.size p0 ) (va_cwS 1 hts (gWS (List.mem_of_getElem? (i := 1) rfl) (List.mem_of_getElem? (i := 2) rfl) (List.mem_of_getElem? (i := 3) rfl) ic_c_X10_product_c_X10_isNan gd_c_X10_isNan) rfl rfl rfl (by decide +kernel) ⟨(Nat.le_of_ble_eq_true rfl), (Nat.le_of_ble_eq_true rfl)⟩) (gpS (hP.sub (ws' := []) [] rfl) hK (hD.sub (ws' := []) [] (by decide) rfl)) rfl rfl hl.1 rfl (lv_room (Nat.le_of_ble_eq_true rfl)) dX10_product_1 ⟨(Nat.le_of_ble_eq_true rfl), (Nat.le_of_ble_eq_true rfl)⟩) hP hD hS hA [] [] rfl rfl (by decide) (by decide) (fun r_1 ur_1 H locs wr_1 hP hD hS => ?_)
  replace hP : va_P (dC, dI) vwCl [] H := hP
  replace hD : va_D A [] := hD
  refine lv_if_ne (tgt := 14) hx hb dX10_product_4 (by decide) (fun c_2 => ?_) (fun c_2 => ?_)
  · skip
    refine lv_ldc (v := 2143289344) hx hb hown (hts (.constant RX10 129 (2143289344)) (List.mem_of_getElem? (i := 4) rfl)) dX10_product_14 ?_
    refine W.widen (k := 0) (n := 0) (Nat.le_of_ble_eq_true rfl) (Nat.le_of_ble_eq_true rfl) ?_
    have hP9 := hP.sub (ws' := []) [] rfl
    have hD9 := hD.sub (ws' := []) [] (by decide) rfl
    exact W.iret (v := 2143289344) hx hb hr (fun t ht hW => ⟨⟨2143289344, (), rfl, trivial, by rw [ht]; exact hP9, hD9⟩, hS.F ht⟩) hS.2.2 dX10_product_16
  · skip
    refine lv_iload_n hx hb dX10_product_7 rfl (lv_at hl 1 rfl) ?_
    refine gcalli (S := Unit) (wc := []) (wr := []) (w1 := fun _ => []) (va_runS (As := [.int p1]) (rest := []) ⟨hx, hb, hml, hown, hts⟩ (c_X10_isNan l dC dI cI cT cS H.size p1 ) (va_cwS 1 hts (gWS (List.mem_of_getElem? (i := 1) rfl) (List.mem_of_getElem? (i := 2) rfl) (List.mem_of_getElem? (i := 3) rfl) ic_c_X10_product_c_X10_isNan gd_c_X10_isNan) rfl rfl rfl (by decide +kernel) ⟨(Nat.le_of_ble_eq_true rfl), (Nat.le_of_ble_eq_true rfl)⟩) (gpS (hP.sub (ws' := []) [] rfl) hK (hD.sub (ws' := []) [] (by decide) rfl)) rfl rfl hl.1 rfl (lv_room (Nat.le_of_ble_eq_true rfl)) dX10_product_8 ⟨(Nat.le_of_ble_eq_true rfl), (Nat.le_of_ble_eq_true rfl)⟩) hP hD hS hA [] [] rfl rfl (by decide) (by decide) (fun r_3 ur_3 H locs wr_3 hP hD hS => ?_)
    replace hP : va_P (dC, dI) vwCl [] H := hP
    replace hD : va_D A [] := hD
    refine lv_if_eq (tgt := 17) hx hb dX10_product_11 (by decide) (fun c_4 => ?_) (fun c_4 => ?_)
    · skip
      refine gjoin (α := Int32) 44 (fun y_6 H locs ls => va_P (dC, dI) vwCl [] H ∧ va_S A s.heap H locs ∧ lv_has ls 5 [(2, .int y_6), (0, .int p0), (1, .int p1)]) (fun y_6 H locs ls hI => ?_) (fun J_5 => ?_)
      · skip
        obtain ⟨hP, hS, hl⟩ := hI
        refine gjoin (α := Int32) 64 (fun y_8 H locs ls => va_P (dC, dI) vwCl [] H ∧ va_S A s.heap H locs ∧ lv_has ls 5 [(3, .int y_8), (2, .int y_6), (0, .int p0), (1, .int p1)]) (fun y_8 H locs ls hI => ?_) (fun J_7 => ?_)
        · skip
          obtain ⟨hP, hS, hl⟩ := hI
          refine gjoin (α := Int32) 85 (fun y_10 H locs ls => va_P (dC, dI) vwCl [] H ∧ va_S A s.heap H locs ∧ lv_has ls 5 [(4, .int y_10), (3, .int y_8), (2, .int y_6), (0, .int p0), (1, .int p1)]) (fun y_10 H locs ls hI => ?_) (fun J_9 => ?_)
          · skip
            obtain ⟨hP, hS, hl⟩ := hI
            refine lv_iload_n hx hb dX10_product_85 rfl (lv_at hl 1 rfl) ?_
            refine lv_if_eq (tgt := 111) hx hb dX10_product_86 (by decide) (fun c_11 => ?_) (fun c_11 => ?_)
            · skip
              refine lv_iload_n hx hb dX10_product_111 rfl (lv_at hl 2 rfl) ?_
              refine lv_iload_n hx hb dX10_product_112 rfl (lv_at hl 3 rfl) ?_
              refine gcalll (S := Unit) (wc := []) (wr := []) (w1 := fun _ => []) (va_runS (As := [.int p0]) (rest := [.int y_6]) ⟨hx, hb, hml, hown, hts⟩ (c_X10_placesOf l dC dI cI cT cS H.size p0 ) (va_cwS 1 hts (gWS (List.mem_of_getElem? (i := 5) rfl) (List.mem_of_getElem? (i := 6) rfl) (List.mem_of_getElem? (i := 3) rfl) ic_c_X10_product_c_X10_placesOf gd_c_X10_placesOf) rfl rfl rfl (by decide +kernel) ⟨(Nat.le_of_ble_eq_true rfl), (Nat.le_of_ble_eq_true rfl)⟩) (gpS (hP.sub (ws' := []) [] rfl) hK (hD.sub (ws' := []) [] (by decide) rfl)) rfl rfl hl.1 rfl (lv_room (Nat.le_of_ble_eq_true rfl)) dX10_product_113 ⟨(Nat.le_of_ble_eq_true rfl), (Nat.le_of_ble_eq_true rfl)⟩) hP hD hS hA [] [] rfl rfl (by decide) (by decide) (fun r_12 ur_12 H locs wr_12 hP hD hS => ?_)
              replace hP : va_P (dC, dI) vwCl [] H := hP
              replace hD : va_D A [] := hD
              refine lv_iload_n hx hb dX10_product_116 rfl (lv_at hl 4 rfl) ?_
              refine gcalll (S := Unit) (wc := []) (wr := []) (w1 := fun _ => []) (va_runS (As := [.int p1]) (rest := [.long r_12, .int y_6]) ⟨hx, hb, hml, hown, hts⟩ (c_X10_placesOf l dC dI cI cT cS H.size p1 ) (va_cwS 1 hts (gWS (List.mem_of_getElem? (i := 5) rfl) (List.mem_of_getElem? (i := 6) rfl) (List.mem_of_getElem? (i := 3) rfl) ic_c_X10_product_c_X10_placesOf gd_c_X10_placesOf) rfl rfl rfl (by decide +kernel) ⟨(Nat.le_of_ble_eq_true rfl), (Nat.le_of_ble_eq_true rfl)⟩) (gpS (hP.sub (ws' := []) [] rfl) hK (hD.sub (ws' := []) [] (by decide) rfl)) rfl rfl hl.1 rfl (lv_room (Nat.le_of_ble_eq_true rfl)) dX10_product_117 ⟨(Nat.le_of_ble_eq_true rfl), (Nat.le_of_ble_eq_true rfl)⟩) hP hD hS hA [] [] rfl rfl (by decide) (by decide) (fun r_13 ur_13 H locs wr_13 hP hD hS => ?_)
              replace hP : va_P (dC, dI) vwCl [] H := hP
              replace hD : va_D A [] := hD
              refine lv_lmul hx hb dX10_product_120 ?_
              refine lv_topl (fun x_14 ex_14 => ?_)
              refine lv_iload_n hx hb dX10_product_121 rfl (lv_at hl 3 rfl) ?_
              refine gcalli (S := Unit) (wc := []) (wr := []) (w1 := fun _ => []) (va_runS (As := [.int p0]) (rest := [.long x_14, .int y_6]) ⟨hx, hb, hml, hown, hts⟩ (c_X10_powerOf l dC dI cI cT cS H.size p0 ) (va_cwS 1 hts (gWS (List.mem_of_getElem? (i := 7) rfl) (List.mem_of_getElem? (i := 8) rfl) (List.mem_of_getElem? (i := 3) rfl) ic_c_X10_product_c_X10_powerOf gd_c_X10_powerOf) rfl rfl rfl (by decide +kernel) ⟨(Nat.le_of_ble_eq_true rfl), (Nat.le_of_ble_eq_true rfl)⟩) (gpS (hP.sub (ws' := []) [] rfl) hK (hD.sub (ws' := []) [] (by decide) rfl)) rfl rfl hl.1 rfl (lv_room (Nat.le_of_ble_eq_true rfl)) dX10_product_122 ⟨(Nat.le_of_ble_eq_true rfl), (Nat.le_of_ble_eq_true rfl)⟩) hP hD hS hA [] [] rfl rfl (by decide) (by decide) (fun r_15 ur_15 H locs wr_15 hP hD hS => ?_)
              replace hP : va_P (dC, dI) vwCl [] H := hP
              replace hD : va_D A [] := hD
              refine lv_iload_n hx hb dX10_product_125 rfl (lv_at hl 4 rfl) ?_
              refine gcalli (S := Unit) (wc := []) (wr := []) (w1 := fun _ => []) (va_runS (As := [.int p1]) (rest := [.int r_15, .long x_14, .int y_6]) ⟨hx, hb, hml, hown, hts⟩ (c_X10_powerOf l dC dI cI cT cS H.size p1 ) (va_cwS 1 hts (gWS (List.mem_of_getElem? (i := 7) rfl) (List.mem_of_getElem? (i := 8) rfl) (List.mem_of_getElem? (i := 3) rfl) ic_c_X10_product_c_X10_powerOf gd_c_X10_powerOf) rfl rfl rfl (by decide +kernel) ⟨(Nat.le_of_ble_eq_true rfl), (Nat.le_of_ble_eq_true rfl)⟩) (gpS (hP.sub (ws' := []) [] rfl) hK (hD.sub (ws' := []) [] (by decide) rfl)) rfl rfl hl.1 rfl (lv_room (Nat.le_of_ble_eq_true rfl)) dX10_product_126 ⟨(Nat.le_of_ble_eq_true rfl), (Nat.le_of_ble_eq_true rfl)⟩) hP hD hS hA [] [] rfl rfl (by decide) (by decide) (fun r_16 ur_16 H locs wr_16 hP hD hS => ?_)
              replace hP : va_P (dC, dI) vwCl [] H := hP
              replace hD : va_D A [] := hD
              refine lv_iadd hx hb dX10_product_129 ?_
              refine lv_topi (fun x_17 ex_17 => ?_)
              refine gcalli (S := Unit) (wc := []) (wr := []) (w1 := fun _ => []) (va_runS (As := [.int y_6, .long x_14, .int x_17]) (rest := []) ⟨hx, hb, hml, hown, hts⟩ (c_X10_nearest l dC dI cI cT cS H.size y_6 x_17 x_14 (by rw [ex_14]; exact g_mul64 wr_12 wr_13)) (va_cwS 3 hts (gWS (List.mem_of_getElem? (i := 9) rfl) (List.mem_of_getElem? (i := 10) rfl) (List.mem_of_getElem? (i := 3) rfl) ic_c_X10_product_c_X10_nearest gd_c_X10_nearest) rfl rfl rfl (by decide +kernel) ⟨(Nat.le_of_ble_eq_true rfl), (Nat.le_of_ble_eq_true rfl)⟩) (gpS (hP.sub (ws' := []) [] rfl) hK (hD.sub (ws' := []) [] (by decide) rfl)) rfl rfl hl.1 rfl (lv_room (Nat.le_of_ble_eq_true rfl)) dX10_product_130 ⟨(Nat.le_of_ble_eq_true rfl), (Nat.le_of_ble_eq_true rfl)⟩) hP hD hS hA [] [] rfl rfl (by decide) (by decide) (fun r_18 ur_18 H locs wr_18 hP hD hS => ?_)
              replace hP : va_P (dC, dI) vwCl [] H := hP
              replace hD : va_D A [] := hD
              refine W.widen (k := 0) (n := 0) (Nat.le_of_ble_eq_true rfl) (Nat.le_of_ble_eq_true rfl) ?_
              have hP9 := hP.sub (ws' := []) [] rfl
              have hD9 := hD.sub (ws' := []) [] (by decide) rfl
              exact W.iret (v := r_18) hx hb hr (fun t ht hW => ⟨⟨r_18, (), rfl, trivial, by rw [ht]; exact hP9, hD9⟩, hS.F ht⟩) hS.2.2 dX10_product_133
            · skip
              refine lv_iload hx hb dX10_product_89 (lv_at hl 0 rfl) ?_
              refine lv_if_eq (tgt := 99) hx hb dX10_product_91 (by decide) (fun c_19 => ?_) (fun c_19 => ?_)
              · skip
                refine lv_iload_n hx hb dX10_product_99 rfl (lv_at hl 2 rfl) ?_
                refine lv_if_eq (tgt := 108) hx hb dX10_product_100 (by decide) (fun c_20 => ?_) (fun c_20 => ?_)
                · skip
                  refine lv_ldc (v := 2139095040) hx hb hown (hts (.constant RX10 122 (2139095040)) (List.mem_of_getElem? (i := 11) rfl)) dX10_product_108 ?_
                  refine W.widen (k := 0) (n := 0) (Nat.le_of_ble_eq_true rfl) (Nat.le_of_ble_eq_true rfl) ?_
                  have hP9 := hP.sub (ws' := []) [] rfl
                  have hD9 := hD.sub (ws' := []) [] (by decide) rfl
                  exact W.iret (v := 2139095040) hx hb hr (fun t ht hW => ⟨⟨2139095040, (), rfl, trivial, by rw [ht]; exact hP9, hD9⟩, hS.F ht⟩) hS.2.2 dX10_product_110
                · skip
                  refine lv_ldc (v := (-8388608)) hx hb hown (hts (.constant RX10 144 (-8388608)) (List.mem_of_getElem? (i := 12) rfl)) dX10_product_103 ?_
                  refine lv_goto (tgt := 110) hx hb dX10_product_105 (by decide) ?_
                  refine W.widen (k := 0) (n := 0) (Nat.le_of_ble_eq_true rfl) (Nat.le_of_ble_eq_true rfl) ?_
                  have hP9 := hP.sub (ws' := []) [] rfl
                  have hD9 := hD.sub (ws' := []) [] (by decide) rfl
                  exact W.iret (v := (-8388608)) hx hb hr (fun t ht hW => ⟨⟨(-8388608), (), rfl, trivial, by rw [ht]; exact hP9, hD9⟩, hS.F ht⟩) hS.2.2 dX10_product_110
              · skip
                refine lv_ldc (v := 2143289344) hx hb hown (hts (.constant RX10 129 (2143289344)) (List.mem_of_getElem? (i := 4) rfl)) dX10_product_94 ?_
                refine lv_goto (tgt := 110) hx hb dX10_product_96 (by decide) ?_
                refine W.widen (k := 0) (n := 0) (Nat.le_of_ble_eq_true rfl) (Nat.le_of_ble_eq_true rfl) ?_
                have hP9 := hP.sub (ws' := []) [] rfl
                have hD9 := hD.sub (ws' := []) [] (by decide) rfl
                exact W.iret (v := 2143289344) hx hb hr (fun t ht hW => ⟨⟨2143289344, (), rfl, trivial, by rw [ht]; exact hP9, hD9⟩, hS.F ht⟩) hS.2.2 dX10_product_110
          · skip
            refine lv_iload_n hx hb dX10_product_64 rfl (lv_at hl 2 rfl) ?_
            refine lv_ldc (v := 2147483647) hx hb hown (hts (.constant RX10 124 (2147483647)) (List.mem_of_getElem? (i := 13) rfl)) dX10_product_65 ?_
            refine lv_iand hx hb dX10_product_67 ?_
            refine lv_topi (fun x_21 ex_21 => ?_)
            refine lv_if_eq (tgt := 78) hx hb dX10_product_68 (by decide) (fun c_22 => ?_) (fun c_22 => ?_)
            · skip
              refine lv_iconst (v := 1) hx hb dX10_product_78 (by decide) ?_
              refine lv_goto (tgt := 83) hx hb dX10_product_79 (by decide) ?_
              refine lv_istore (lv' := [(4, .int 1), (3, .int y_8), (2, .int y_6), (0, .int p0), (1, .int p1)]) hx hb dX10_product_83 hl (by decide) rfl (fun ls hl => ?_)
              exact J_9 1 H locs ls ⟨hP.sub (ws' := []) [] rfl, hS, lv_sub (l' := [(4, .int 1), (3, .int y_8), (2, .int y_6), (0, .int p0), (1, .int p1)]) hl [0, 1, 2, 3, 4] rfl⟩
            · skip
              refine lv_iload_n hx hb dX10_product_71 rfl (lv_at hl 3 rfl) ?_
              refine lv_ldc (v := 2147483647) hx hb hown (hts (.constant RX10 124 (2147483647)) (List.mem_of_getElem? (i := 13) rfl)) dX10_product_72 ?_
              refine lv_iand hx hb dX10_product_74 ?_
              refine lv_topi (fun x_23 ex_23 => ?_)
              refine lv_if_ne (tgt := 82) hx hb dX10_product_75 (by decide) (fun c_24 => ?_) (fun c_24 => ?_)
              · skip
                refine lv_iconst (v := 0) hx hb dX10_product_82 (by decide) ?_
                refine lv_istore (lv' := [(4, .int 0), (3, .int y_8), (2, .int y_6), (0, .int p0), (1, .int p1)]) hx hb dX10_product_83 hl (by decide) rfl (fun ls hl => ?_)
                exact J_9 0 H locs ls ⟨hP.sub (ws' := []) [] rfl, hS, lv_sub (l' := [(4, .int 0), (3, .int y_8), (2, .int y_6), (0, .int p0), (1, .int p1)]) hl [0, 1, 2, 3, 4] rfl⟩
              · skip
                refine lv_iconst (v := 1) hx hb dX10_product_78 (by decide) ?_
                refine lv_goto (tgt := 83) hx hb dX10_product_79 (by decide) ?_
                refine lv_istore (lv' := [(4, .int 1), (3, .int y_8), (2, .int y_6), (0, .int p0), (1, .int p1)]) hx hb dX10_product_83 hl (by decide) rfl (fun ls hl => ?_)
                exact J_9 1 H locs ls ⟨hP.sub (ws' := []) [] rfl, hS, lv_sub (l' := [(4, .int 1), (3, .int y_8), (2, .int y_6), (0, .int p0), (1, .int p1)]) hl [0, 1, 2, 3, 4] rfl⟩
        · skip
          refine lv_iload_n hx hb dX10_product_44 rfl (lv_at hl 1 rfl) ?_
          refine gcalli (S := Unit) (wc := []) (wr := []) (w1 := fun _ => []) (va_runS (As := [.int p0]) (rest := []) ⟨hx, hb, hml, hown, hts⟩ (c_X10_isEndless l dC dI cI cT cS H.size p0 ) (va_cwS 1 hts (gWS (List.mem_of_getElem? (i := 14) rfl) (List.mem_of_getElem? (i := 15) rfl) (List.mem_of_getElem? (i := 3) rfl) ic_c_X10_product_c_X10_isEndless gd_c_X10_isEndless) rfl rfl rfl (by decide +kernel) ⟨(Nat.le_of_ble_eq_true rfl), (Nat.le_of_ble_eq_true rfl)⟩) (gpS (hP.sub (ws' := []) [] rfl) hK (hD.sub (ws' := []) [] (by decide) rfl)) rfl rfl hl.1 rfl (lv_room (Nat.le_of_ble_eq_true rfl)) dX10_product_45 ⟨(Nat.le_of_ble_eq_true rfl), (Nat.le_of_ble_eq_true rfl)⟩) hP hD hS hA [] [] rfl rfl (by decide) (by decide) (fun r_25 ur_25 H locs wr_25 hP hD hS => ?_)
          replace hP : va_P (dC, dI) vwCl [] H := hP
          replace hD : va_D A [] := hD
          refine lv_if_ne (tgt := 58) hx hb dX10_product_48 (by decide) (fun c_26 => ?_) (fun c_26 => ?_)
          · skip
            refine lv_iconst (v := 1) hx hb dX10_product_58 (by decide) ?_
            refine lv_goto (tgt := 63) hx hb dX10_product_59 (by decide) ?_
            refine lv_istore_n (lv' := [(3, .int 1), (2, .int y_6), (0, .int p0), (1, .int p1)]) hx hb dX10_product_63 rfl hl (by decide) rfl (fun ls hl => ?_)
            exact J_7 1 H locs ls ⟨hP.sub (ws' := []) [] rfl, hS, lv_sub (l' := [(3, .int 1), (2, .int y_6), (0, .int p0), (1, .int p1)]) hl [0, 1, 2, 3] rfl⟩
          · skip
            refine lv_iload_n hx hb dX10_product_51 rfl (lv_at hl 2 rfl) ?_
            refine gcalli (S := Unit) (wc := []) (wr := []) (w1 := fun _ => []) (va_runS (As := [.int p1]) (rest := []) ⟨hx, hb, hml, hown, hts⟩ (c_X10_isEndless l dC dI cI cT cS H.size p1 ) (va_cwS 1 hts (gWS (List.mem_of_getElem? (i := 14) rfl) (List.mem_of_getElem? (i := 15) rfl) (List.mem_of_getElem? (i := 3) rfl) ic_c_X10_product_c_X10_isEndless gd_c_X10_isEndless) rfl rfl rfl (by decide +kernel) ⟨(Nat.le_of_ble_eq_true rfl), (Nat.le_of_ble_eq_true rfl)⟩) (gpS (hP.sub (ws' := []) [] rfl) hK (hD.sub (ws' := []) [] (by decide) rfl)) rfl rfl hl.1 rfl (lv_room (Nat.le_of_ble_eq_true rfl)) dX10_product_52 ⟨(Nat.le_of_ble_eq_true rfl), (Nat.le_of_ble_eq_true rfl)⟩) hP hD hS hA [] [] rfl rfl (by decide) (by decide) (fun r_27 ur_27 H locs wr_27 hP hD hS => ?_)
            replace hP : va_P (dC, dI) vwCl [] H := hP
            replace hD : va_D A [] := hD
            refine lv_if_eq (tgt := 62) hx hb dX10_product_55 (by decide) (fun c_28 => ?_) (fun c_28 => ?_)
            · skip
              refine lv_iconst (v := 0) hx hb dX10_product_62 (by decide) ?_
              refine lv_istore_n (lv' := [(3, .int 0), (2, .int y_6), (0, .int p0), (1, .int p1)]) hx hb dX10_product_63 rfl hl (by decide) rfl (fun ls hl => ?_)
              exact J_7 0 H locs ls ⟨hP.sub (ws' := []) [] rfl, hS, lv_sub (l' := [(3, .int 0), (2, .int y_6), (0, .int p0), (1, .int p1)]) hl [0, 1, 2, 3] rfl⟩
            · skip
              refine lv_iconst (v := 1) hx hb dX10_product_58 (by decide) ?_
              refine lv_goto (tgt := 63) hx hb dX10_product_59 (by decide) ?_
              refine lv_istore_n (lv' := [(3, .int 1), (2, .int y_6), (0, .int p0), (1, .int p1)]) hx hb dX10_product_63 rfl hl (by decide) rfl (fun ls hl => ?_)
              exact J_7 1 H locs ls ⟨hP.sub (ws' := []) [] rfl, hS, lv_sub (l' := [(3, .int 1), (2, .int y_6), (0, .int p0), (1, .int p1)]) hl [0, 1, 2, 3] rfl⟩
      · skip
        refine lv_iload_n hx hb dX10_product_17 rfl (lv_at hl 0 rfl) ?_
        refine lv_if_ge (tgt := 25) hx hb dX10_product_18 (by decide) (fun c_29 => ?_) (fun c_29 => ?_)
        · skip
          refine lv_iconst (v := 0) hx hb dX10_product_25 (by decide) ?_
          refine lv_iload_n hx hb dX10_product_26 rfl (lv_at hl 1 rfl) ?_
          refine lv_if_ge (tgt := 34) hx hb dX10_product_27 (by decide) (fun c_30 => ?_) (fun c_30 => ?_)
          · skip
            refine lv_iconst (v := 0) hx hb dX10_product_34 (by decide) ?_
            refine lv_icmp_eq (tgt := 42) hx hb dX10_product_35 (by decide) (fun c_31 => ?_) (fun c_31 => ?_)
            · skip
              refine lv_iconst (v := 0) hx hb dX10_product_42 (by decide) ?_
              refine lv_istore_n (lv' := [(2, .int 0), (0, .int p0), (1, .int p1)]) hx hb dX10_product_43 rfl hl (by decide) rfl (fun ls hl => ?_)
              exact J_5 0 H locs ls ⟨hP.sub (ws' := []) [] rfl, hS, lv_sub (l' := [(2, .int 0), (0, .int p0), (1, .int p1)]) hl [0, 1, 2] rfl⟩
            · skip
              exact absurd c_31 (by decide)
          · skip
            refine lv_iconst (v := 1) hx hb dX10_product_30 (by decide) ?_
            refine lv_goto (tgt := 35) hx hb dX10_product_31 (by decide) ?_
            refine lv_icmp_eq (tgt := 42) hx hb dX10_product_35 (by decide) (fun c_32 => ?_) (fun c_32 => ?_)
            · skip
              exact absurd c_32 (by decide)
            · skip
              refine lv_iconst (v := 1) hx hb dX10_product_38 (by decide) ?_
              refine lv_goto (tgt := 43) hx hb dX10_product_39 (by decide) ?_
              refine lv_istore_n (lv' := [(2, .int 1), (0, .int p0), (1, .int p1)]) hx hb dX10_product_43 rfl hl (by decide) rfl (fun ls hl => ?_)
              exact J_5 1 H locs ls ⟨hP.sub (ws' := []) [] rfl, hS, lv_sub (l' := [(2, .int 1), (0, .int p0), (1, .int p1)]) hl [0, 1, 2] rfl⟩
        · skip
          refine lv_iconst (v := 1) hx hb dX10_product_21 (by decide) ?_
          refine lv_goto (tgt := 26) hx hb dX10_product_22 (by decide) ?_
          refine lv_iload_n hx hb dX10_product_26 rfl (lv_at hl 1 rfl) ?_
          refine lv_if_ge (tgt := 34) hx hb dX10_product_27 (by decide) (fun c_33 => ?_) (fun c_33 => ?_)
          · skip
            refine lv_iconst (v := 0) hx hb dX10_product_34 (by decide) ?_
            refine lv_icmp_eq (tgt := 42) hx hb dX10_product_35 (by decide) (fun c_34 => ?_) (fun c_34 => ?_)
            · skip
              exact absurd c_34 (by decide)
            · skip
              refine lv_iconst (v := 1) hx hb dX10_product_38 (by decide) ?_
              refine lv_goto (tgt := 43) hx hb dX10_product_39 (by decide) ?_
              refine lv_istore_n (lv' := [(2, .int 1), (0, .int p0), (1, .int p1)]) hx hb dX10_product_43 rfl hl (by decide) rfl (fun ls hl => ?_)
              exact J_5 1 H locs ls ⟨hP.sub (ws' := []) [] rfl, hS, lv_sub (l' := [(2, .int 1), (0, .int p0), (1, .int p1)]) hl [0, 1, 2] rfl⟩
          · skip
            refine lv_iconst (v := 1) hx hb dX10_product_30 (by decide) ?_
            refine lv_goto (tgt := 35) hx hb dX10_product_31 (by decide) ?_
            refine lv_icmp_eq (tgt := 42) hx hb dX10_product_35 (by decide) (fun c_35 => ?_) (fun c_35 => ?_)
            · skip
              refine lv_iconst (v := 0) hx hb dX10_product_42 (by decide) ?_
              refine lv_istore_n (lv' := [(2, .int 0), (0, .int p0), (1, .int p1)]) hx hb dX10_product_43 rfl hl (by decide) rfl (fun ls hl => ?_)
              exact J_5 0 H locs ls ⟨hP.sub (ws' := []) [] rfl, hS, lv_sub (l' := [(2, .int 0), (0, .int p0), (1, .int p1)]) hl [0, 1, 2] rfl⟩
            · skip
              exact absurd c_35 (by decide)
    · skip
      refine lv_ldc (v := 2143289344) hx hb hown (hts (.constant RX10 129 (2143289344)) (List.mem_of_getElem? (i := 4) rfl)) dX10_product_14 ?_
      refine W.widen (k := 0) (n := 0) (Nat.le_of_ble_eq_true rfl) (Nat.le_of_ble_eq_true rfl) ?_
      have hP9 := hP.sub (ws' := []) [] rfl
      have hD9 := hD.sub (ws' := []) [] (by decide) rfl
      exact W.iret (v := 2143289344) hx hb hr (fun t ht hW => ⟨⟨2143289344, (), rfl, trivial, by rw [ht]; exact hP9, hD9⟩, hS.F ht⟩) hS.2.2 dX10_product_16
def oc_X10_load : List Cond := [.methodLink RX10 172 yX10_isRegister, .static yX10_isRegister, .initialized RX10, .methodLink RX10 175 yX10_isTwo, .static yX10_isTwo, .fieldLink RX10 25 "TraceTreesModel" "loadKind" "[I", .fieldLink RX10 28 "TraceTreesModel" "loadBits" "[I", .methodLink RX10 178 yX10_floatOf, .static yX10_floatOf, .constant RX10 181 (1048576000), .methodLink RX10 182 yX10_product, .static yX10_product]
def vc_X10_load : List Cond := .code yX10_load cX10_load 4 (some .int) :: (oc_X10_load ++ (wsX100 ++ (vc_X10_isRegister ++ (vc_X10_isTwo ++ (vc_X10_floatOf ++ (vc_X10_product))))))
theorem iw_c_X10_load_X10 : ∀ w ∈ wsX100, w ∈ vc_X10_load := fun _ h => List.mem_cons_of_mem _ (List.mem_append_right _ (List.mem_append_left _ h))
theorem ic_c_X10_load_c_X10_isRegister : ∀ w ∈ vc_X10_isRegister, w ∈ vc_X10_load := fun _ h => List.mem_cons_of_mem _ (List.mem_append_right _ (List.mem_append_right _ (List.mem_append_left _ h)))
theorem ic_c_X10_load_c_X10_isTwo : ∀ w ∈ vc_X10_isTwo, w ∈ vc_X10_load := fun _ h => List.mem_cons_of_mem _ (List.mem_append_right _ (List.mem_append_right _ (List.mem_append_right _ (List.mem_append_left _ h))))
theorem ic_c_X10_load_c_X10_floatOf : ∀ w ∈ vc_X10_floatOf, w ∈ vc_X10_load := fun _ h => List.mem_cons_of_mem _ (List.mem_append_right _ (List.mem_append_right _ (List.mem_append_right _ (List.mem_append_right _ (List.mem_append_left _ h)))))
theorem ic_c_X10_load_c_X10_product : ∀ w ∈ vc_X10_product, w ∈ vc_X10_load := fun _ h => List.mem_cons_of_mem _ (List.mem_append_right _ (List.mem_append_right _ (List.mem_append_right _ (List.mem_append_right _ (List.mem_append_right _ (h))))))
theorem gd_c_X10_load : (vc_X10_load).all goodWord = true := by decide +kernel
set_option maxHeartbeats 4000000 in
set_option maxRecDepth 100000 in
theorem c_X10_load (l : Launch) (dC : Nat → ClassId) (dI : Nat → Nat → Nat) (cI cT cS : ClassId) (sz : Nat) (h0 : Nat) (fo : Nat) (si : Nat) (it : Nat) (mv : Nat) (co : Nat) (lk : Nat) (lb : Nat) (ki : Nat) (bi : Nat) (he : Nat) (dr : Nat) (hd : Nat) (pa : Nat) (fk : Nat) (le : Nat) (be : Nat) (att : Nat) (ky : Nat) (kz : Nat) (wy : Nat) (hit : Nat) (br : Nat) (tol : Nat) (p1 : Int32) (p2 : Int32) (p3 : Int32)  : gCI (S := Unit) l yX10_load vc_X10_load ({ frames := 3, cells := 0, slots := 0, locals := 83 }) (dC, dI) (gTY cI cT cS) sz [.ref h0, .int p1, .int p2, .int p3] [(h0, .inr (8, [.ref fo, .ref si, .ref it, .ref mv, .int 0, .int 0, .ref co, .ref lk, .ref lb, .int 200, .int 3, .ref ki, .ref bi, .int 0, .int 0, .int 0, .int 0, .int 0, .int 0, .int 0, .int 0, .int 0, .int 0, .ref he, .ref dr, .int 0, .ref hd, .ref pa, .ref fk, .ref le, .ref be, .ref att, .ref ky, .ref kz, .ref wy, .ref hit, .ref br, .int 0, .int 0, .int 0, .int 0, .int 0, .int 0, .int 0, .int 0, .ref tol])), (lk, .inl (cI, 8, .inl (fun _ => 0))), (lb, .inl (cI, 8, .inl (fun _ => 0)))] (fun r u => r = if (0 ≤ p1.toInt ∧ p1.toInt < 8) ∧ 0 ≤ p2.toInt ∧ p2.toInt ≤ 1 then 1 else -2) (fun _ => []) 0 0 := by
  refine Met.ofW (cc := cX10_load) (maxL := 4) (ret := (some .int)) (by decide) rfl ?_
  intro p e s m args below meth c s₁ B hml hv
  obtain ⟨rfl, hsz, hP, hK, hD0⟩ := hv
  have hx := B.exec
  have hb := B.bytes
  have hr := B.returns
  have hts := atoms_spec (ws := vc_X10_load) B.pre
  have hown : s.vm.findClass RX10 = some m.cls := findClass_of_methodNamed B.named
  have hlocks := B.notSynchronized
  subst hsz
  have hD := hD0.self (sz := s.heap.size)
  generalize hAe : va_A [(h0, .inr (8, [.ref fo, .ref si, .ref it, .ref mv, .int 0, .int 0, .ref co, .ref lk, .ref lb, .int 200, .int 3, .ref ki, .ref bi, .int 0, .int 0, .int 0, .int 0, .int 0, .int 0, .int 0, .int 0, .int 0, .int 0, .ref he, .ref dr, .int 0, .ref hd, .ref pa, .ref fk, .ref le, .ref be, .ref att, .ref ky, .ref kz, .ref wy, .ref hit, .ref br, .int 0, .int 0, .int 0, .int 0, .int 0, .int 0, .int 0, .int 0, .ref tol])), (lk, .inl (cI, 8, .inl (fun _ => 0))), (lb, .inl (cI, 8, .inl (fun _ => 0)))] s.heap.size = A at hD ⊢
  have hA : ∀ q : Nat, s.heap.size ≤ q → A q := fun q h => by rw [← hAe]; exact Or.inr h
  refine gstart (fun H locs hHe hLe => ?_)
  have hS : va_S A s.heap H locs := by rw [← hHe, ← hLe]; exact va_S.rf
  replace hP : va_P (dC, dI) vwCl [(h0, .inr (8, [.ref fo, .ref si, .ref it, .ref mv, .int 0, .int 0, .ref co, .ref lk, .ref lb, .int 200, .int 3, .ref ki, .ref bi, .int 0, .int 0, .int 0, .int 0, .int 0, .int 0, .int 0, .int 0, .int 0, .int 0, .ref he, .ref dr, .int 0, .ref hd, .ref pa, .ref fk, .ref le, .ref be, .ref att, .ref ky, .ref kz, .ref wy, .ref hit, .ref br, .int 0, .int 0, .int 0, .int 0, .int 0, .int 0, .int 0, .int 0, .ref tol])), (lk, .inl (cI, 8, .inl (fun _ => 0))), (lb, .inl (cI, 8, .inl (fun _ => 0)))] H := by rw [← hHe]; exact hP
  clear hHe hLe
  have hl := lv_entry ([.ref h0, .int p1, .int p2, .int p3]) (n := 4) (Nat.le_of_ble_eq_true rfl)
  rw [lg_entry_eq]
  generalize (lg_sl ([.ref h0, .int p1, .int p2, .int p3]) ++ List.replicate (4 - (lg_sl ([.ref h0, .int p1, .int p2, .int p3])).length) Slot.unset).toArray = ls at hl ⊢
  replace hl : lv_has ls 4 [(0, .ref h0), (1, .int p1), (2, .int p2), (3, .int p3)] := hl
  refine lv_iload_n hx hb dX10_load_0 rfl (lv_at hl 1 rfl) ?_
  refine gcalli (S := Unit) (wc := []) (wr := [(h0, .inr (8, [.ref fo, .ref si, .ref it, .ref mv, .int 0, .int 0, .ref co, .ref lk, .ref lb, .int 200, .int 3, .ref ki, .ref bi, .int 0, .int 0, .int 0, .int 0, .int 0, .int 0, .int 0, .int 0, .int 0, .int 0, .ref he, .ref dr, .int 0, .ref hd, .ref pa, .ref fk, .ref le, .ref be, .ref att, .ref ky, .ref kz, .ref wy, .ref hit, .ref br, .int 0, .int 0, .int 0, .int 0, .int 0, .int 0, .int 0, .int 0, .ref tol])), (lk, .inl (cI, 8, .inl (fun _ => 0))), (lb, .inl (cI, 8, .inl (fun _ => 0)))]) (w1 := fun _ => []) (va_runS (As := [.int p1]) (rest := []) ⟨hx, hb, hml, hown, hts⟩ (c_X10_isRegister l dC dI cI cT cS H.size p1 ) (va_cwS 1 hts (gWS (List.mem_of_getElem? (i := 1) rfl) (List.mem_of_getElem? (i := 2) rfl) (List.mem_of_getElem? (i := 3) rfl) ic_c_X10_load_c_X10_isRegister gd_c_X10_isRegister) rfl rfl rfl (by decide +kernel) ⟨(Nat.le_of_ble_eq_true rfl), (Nat.le_of_ble_eq_true rfl)⟩) (gpS (hP.sub (ws' := []) [] rfl) hK (hD.sub (ws' := []) [] (by decide) rfl)) rfl rfl hl.1 rfl (lv_room (Nat.le_of_ble_eq_true rfl)) dX10_load_1 ⟨(Nat.le_of_ble_eq_true rfl), (Nat.le_of_ble_eq_true rfl)⟩) hP hD hS hA [] [0, 1, 2] rfl rfl (by decide) (by decide) (fun r_1 ur_1 H locs wr_1 hP hD hS => ?_)
  replace hP : va_P (dC, dI) vwCl [(h0, .inr (8, [.ref fo, .ref si, .ref it, .ref mv, .int 0, .int 0, .ref co, .ref lk, .ref lb, .int 200, .int 3, .ref ki, .ref bi, .int 0, .int 0, .int 0, .int 0, .int 0, .int 0, .int 0, .int 0, .int 0, .int 0, .ref he, .ref dr, .int 0, .ref hd, .ref pa, .ref fk, .ref le, .ref be, .ref att, .ref ky, .ref kz, .ref wy, .ref hit, .ref br, .int 0, .int 0, .int 0, .int 0, .int 0, .int 0, .int 0, .int 0, .ref tol])), (lk, .inl (cI, 8, .inl (fun _ => 0))), (lb, .inl (cI, 8, .inl (fun _ => 0)))] H := hP
  replace hD : va_D A [(h0, .inr (8, [.ref fo, .ref si, .ref it, .ref mv, .int 0, .int 0, .ref co, .ref lk, .ref lb, .int 200, .int 3, .ref ki, .ref bi, .int 0, .int 0, .int 0, .int 0, .int 0, .int 0, .int 0, .int 0, .int 0, .int 0, .ref he, .ref dr, .int 0, .ref hd, .ref pa, .ref fk, .ref le, .ref be, .ref att, .ref ky, .ref kz, .ref wy, .ref hit, .ref br, .int 0, .int 0, .int 0, .int 0, .int 0, .int 0, .int 0, .int 0, .ref tol])), (lk, .inl (cI, 8, .inl (fun _ => 0))), (lb, .inl (cI, 8, .inl (fun _ => 0)))] := hD
  refine lv_if_eq (tgt := 14) hx hb dX10_load_4 (by decide) (fun c_2 => ?_) (fun c_2 => ?_)
  · skip
    have f_3 := g_ite0 wr_1 c_2
    refine lv_bipush (v := (-2)) hx hb dX10_load_14 (by decide) ?_
    refine W.widen (k := 0) (n := 0) (Nat.le_of_ble_eq_true rfl) (Nat.le_of_ble_eq_true rfl) ?_
    have hP9 := hP.sub (ws' := []) [] rfl
    have hD9 := hD.sub (ws' := []) [] (by decide) rfl
    exact W.iret (v := (-2)) hx hb hr (fun t ht hW => ⟨⟨(-2), (), rfl, (by first | decide | exact ((if_pos (by (try simp only [← Int32.toInt_inj, Int32.lt_iff_toInt_lt, Int32.le_iff_toInt_le, ← Int64.toInt_inj, Int64.lt_iff_toInt_lt, Int64.le_iff_toInt_le, Int32.toInt_toInt64, (show ((-2) : Int32).toInt = (-2) from rfl), (show (0 : Int32).toInt = 0 from rfl), (show (1 : Int32).toInt = 1 from rfl), (show (1048576000 : Int32).toInt = 1048576000 from rfl), (show (0 : Int64).toInt = 0 from rfl)] at c_2); (try simp only [← Int32.toInt_inj, Int32.lt_iff_toInt_lt, Int32.le_iff_toInt_le, ← Int64.toInt_inj, Int64.lt_iff_toInt_lt, Int64.le_iff_toInt_le, Int32.toInt_toInt64, (show ((-2) : Int32).toInt = (-2) from rfl), (show (0 : Int32).toInt = 0 from rfl), (show (1 : Int32).toInt = 1 from rfl), (show (1048576000 : Int32).toInt = 1048576000 from rfl), (show (0 : Int64).toInt = 0 from rfl)] at f_3); omega)).trans (by decide)).symm | ((try simp only [← Int32.toInt_inj, Int32.lt_iff_toInt_lt, Int32.le_iff_toInt_le, ← Int64.toInt_inj, Int64.lt_iff_toInt_lt, Int64.le_iff_toInt_le, Int32.toInt_toInt64, (show ((-2) : Int32).toInt = (-2) from rfl), (show (0 : Int32).toInt = 0 from rfl), (show (1 : Int32).toInt = 1 from rfl), (show (1048576000 : Int32).toInt = 1048576000 from rfl), (show (0 : Int64).toInt = 0 from rfl)] at c_2); (try simp only [← Int32.toInt_inj, Int32.lt_iff_toInt_lt, Int32.le_iff_toInt_le, ← Int64.toInt_inj, Int64.lt_iff_toInt_lt, Int64.le_iff_toInt_le, Int32.toInt_toInt64, (show ((-2) : Int32).toInt = (-2) from rfl), (show (0 : Int32).toInt = 0 from rfl), (show (1 : Int32).toInt = 1 from rfl), (show (1048576000 : Int32).toInt = 1048576000 from rfl), (show (0 : Int64).toInt = 0 from rfl)] at f_3); show _ = ite _ _ _; (try simp only [(show ((-2) : Int32).toInt = (-2) from rfl), (show (0 : Int32).toInt = 0 from rfl), (show (1 : Int32).toInt = 1 from rfl), (show (2 : Int32).toInt = 2 from rfl), (show (3 : Int32).toInt = 3 from rfl), (show (1048576000 : Int32).toInt = 1048576000 from rfl)]); (repeat' split) <;> first | rfl | omega)), by rw [ht]; exact hP9, hD9⟩, hS.F ht⟩) hS.2.2 dX10_load_16
  · skip
    have f_4 := g_ite1 wr_1 c_2
    refine lv_iload_n hx hb dX10_load_7 rfl (lv_at hl 2 rfl) ?_
    refine gcalli (S := Unit) (wc := []) (wr := [(h0, .inr (8, [.ref fo, .ref si, .ref it, .ref mv, .int 0, .int 0, .ref co, .ref lk, .ref lb, .int 200, .int 3, .ref ki, .ref bi, .int 0, .int 0, .int 0, .int 0, .int 0, .int 0, .int 0, .int 0, .int 0, .int 0, .ref he, .ref dr, .int 0, .ref hd, .ref pa, .ref fk, .ref le, .ref be, .ref att, .ref ky, .ref kz, .ref wy, .ref hit, .ref br, .int 0, .int 0, .int 0, .int 0, .int 0, .int 0, .int 0, .int 0, .ref tol])), (lk, .inl (cI, 8, .inl (fun _ => 0))), (lb, .inl (cI, 8, .inl (fun _ => 0)))]) (w1 := fun _ => []) (va_runS (As := [.int p2]) (rest := []) ⟨hx, hb, hml, hown, hts⟩ (c_X10_isTwo l dC dI cI cT cS H.size p2 ) (va_cwS 1 hts (gWS (List.mem_of_getElem? (i := 4) rfl) (List.mem_of_getElem? (i := 5) rfl) (List.mem_of_getElem? (i := 3) rfl) ic_c_X10_load_c_X10_isTwo gd_c_X10_isTwo) rfl rfl rfl (by decide +kernel) ⟨(Nat.le_of_ble_eq_true rfl), (Nat.le_of_ble_eq_true rfl)⟩) (gpS (hP.sub (ws' := []) [] rfl) hK (hD.sub (ws' := []) [] (by decide) rfl)) rfl rfl hl.1 rfl (lv_room (Nat.le_of_ble_eq_true rfl)) dX10_load_8 ⟨(Nat.le_of_ble_eq_true rfl), (Nat.le_of_ble_eq_true rfl)⟩) hP hD hS hA [] [0, 1, 2] rfl rfl (by decide) (by decide) (fun r_5 ur_5 H locs wr_5 hP hD hS => ?_)
    replace hP : va_P (dC, dI) vwCl [(h0, .inr (8, [.ref fo, .ref si, .ref it, .ref mv, .int 0, .int 0, .ref co, .ref lk, .ref lb, .int 200, .int 3, .ref ki, .ref bi, .int 0, .int 0, .int 0, .int 0, .int 0, .int 0, .int 0, .int 0, .int 0, .int 0, .ref he, .ref dr, .int 0, .ref hd, .ref pa, .ref fk, .ref le, .ref be, .ref att, .ref ky, .ref kz, .ref wy, .ref hit, .ref br, .int 0, .int 0, .int 0, .int 0, .int 0, .int 0, .int 0, .int 0, .ref tol])), (lk, .inl (cI, 8, .inl (fun _ => 0))), (lb, .inl (cI, 8, .inl (fun _ => 0)))] H := hP
    replace hD : va_D A [(h0, .inr (8, [.ref fo, .ref si, .ref it, .ref mv, .int 0, .int 0, .ref co, .ref lk, .ref lb, .int 200, .int 3, .ref ki, .ref bi, .int 0, .int 0, .int 0, .int 0, .int 0, .int 0, .int 0, .int 0, .int 0, .int 0, .ref he, .ref dr, .int 0, .ref hd, .ref pa, .ref fk, .ref le, .ref be, .ref att, .ref ky, .ref kz, .ref wy, .ref hit, .ref br, .int 0, .int 0, .int 0, .int 0, .int 0, .int 0, .int 0, .int 0, .ref tol])), (lk, .inl (cI, 8, .inl (fun _ => 0))), (lb, .inl (cI, 8, .inl (fun _ => 0)))] := hD
    refine lv_if_ne (tgt := 17) hx hb dX10_load_11 (by decide) (fun c_6 => ?_) (fun c_6 => ?_)
    · skip
      have f_7 := g_ite1 wr_5 c_6
      refine lv_aload_n hx hb dX10_load_17 rfl (lv_at hl 0 rfl) ?_
      refine va_get (D := (dC, dI)) (ci := 8) (v := .ref lk) (C := RX10) (T := TX10) (N := 46) hx hb hts iw_c_X10_load_X10 hown hK.1 hP 0 rfl rfl 7 (by decide) (hts (.fieldLink RX10 25 "TraceTreesModel" "loadKind" "[I") (List.mem_of_getElem? (i := 6) rfl)) (fun _ h9 => h9) rfl dX10_load_18 ?_
      refine lv_iload_n hx hb dX10_load_21 rfl (lv_at hl 1 rfl) ?_
      refine lv_iload_n hx hb dX10_load_22 rfl (lv_at hl 2 rfl) ?_
      refine va_iast hx hb hK.1 hP hD hS 1 0 rfl rfl (g_inof (by (try simp only [← Int32.toInt_inj, Int32.lt_iff_toInt_lt, Int32.le_iff_toInt_le, ← Int64.toInt_inj, Int64.lt_iff_toInt_lt, Int64.le_iff_toInt_le, Int32.toInt_toInt64, (show ((-2) : Int32).toInt = (-2) from rfl), (show (0 : Int32).toInt = 0 from rfl), (show (1 : Int32).toInt = 1 from rfl), (show (1048576000 : Int32).toInt = 1048576000 from rfl), (show (0 : Int64).toInt = 0 from rfl)] at c_2); (try simp only [← Int32.toInt_inj, Int32.lt_iff_toInt_lt, Int32.le_iff_toInt_le, ← Int64.toInt_inj, Int64.lt_iff_toInt_lt, Int64.le_iff_toInt_le, Int32.toInt_toInt64, (show ((-2) : Int32).toInt = (-2) from rfl), (show (0 : Int32).toInt = 0 from rfl), (show (1 : Int32).toInt = 1 from rfl), (show (1048576000 : Int32).toInt = 1048576000 from rfl), (show (0 : Int64).toInt = 0 from rfl)] at f_4); (try simp only [← Int32.toInt_inj, Int32.lt_iff_toInt_lt, Int32.le_iff_toInt_le, ← Int64.toInt_inj, Int64.lt_iff_toInt_lt, Int64.le_iff_toInt_le, Int32.toInt_toInt64, (show ((-2) : Int32).toInt = (-2) from rfl), (show (0 : Int32).toInt = 0 from rfl), (show (1 : Int32).toInt = 1 from rfl), (show (1048576000 : Int32).toInt = 1048576000 from rfl), (show (0 : Int64).toInt = 0 from rfl)] at c_6); (try simp only [← Int32.toInt_inj, Int32.lt_iff_toInt_lt, Int32.le_iff_toInt_le, ← Int64.toInt_inj, Int64.lt_iff_toInt_lt, Int64.le_iff_toInt_le, Int32.toInt_toInt64, (show ((-2) : Int32).toInt = (-2) from rfl), (show (0 : Int32).toInt = 0 from rfl), (show (1 : Int32).toInt = 1 from rfl), (show (1048576000 : Int32).toInt = 1048576000 from rfl), (show (0 : Int64).toInt = 0 from rfl)] at f_7); omega)) dX10_load_23 (fun H locs hP hD hS => ?_)
      replace hP : va_P (dC, dI) vwCl [(h0, .inr (8, [.ref fo, .ref si, .ref it, .ref mv, .int 0, .int 0, .ref co, .ref lk, .ref lb, .int 200, .int 3, .ref ki, .ref bi, .int 0, .int 0, .int 0, .int 0, .int 0, .int 0, .int 0, .int 0, .int 0, .int 0, .ref he, .ref dr, .int 0, .ref hd, .ref pa, .ref fk, .ref le, .ref be, .ref att, .ref ky, .ref kz, .ref wy, .ref hit, .ref br, .int 0, .int 0, .int 0, .int 0, .int 0, .int 0, .int 0, .int 0, .ref tol])), (lk, .inl (cI, 8, .inl (upd (fun _ => 0) p1.toNatClampNeg p2))), (lb, .inl (cI, 8, .inl (fun _ => 0)))] H := hP
      replace hD : va_D A [(h0, .inr (8, [.ref fo, .ref si, .ref it, .ref mv, .int 0, .int 0, .ref co, .ref lk, .ref lb, .int 200, .int 3, .ref ki, .ref bi, .int 0, .int 0, .int 0, .int 0, .int 0, .int 0, .int 0, .int 0, .int 0, .int 0, .ref he, .ref dr, .int 0, .ref hd, .ref pa, .ref fk, .ref le, .ref be, .ref att, .ref ky, .ref kz, .ref wy, .ref hit, .ref br, .int 0, .int 0, .int 0, .int 0, .int 0, .int 0, .int 0, .int 0, .ref tol])), (lk, .inl (cI, 8, .inl (upd (fun _ => 0) p1.toNatClampNeg p2))), (lb, .inl (cI, 8, .inl (fun _ => 0)))] := hD
      refine lv_aload_n hx hb dX10_load_24 rfl (lv_at hl 0 rfl) ?_
      refine va_get (D := (dC, dI)) (ci := 8) (v := .ref lb) (C := RX10) (T := TX10) (N := 46) hx hb hts iw_c_X10_load_X10 hown hK.1 hP 0 rfl rfl 8 (by decide) (hts (.fieldLink RX10 28 "TraceTreesModel" "loadBits" "[I") (List.mem_of_getElem? (i := 7) rfl)) (fun _ h9 => h9) rfl dX10_load_25 ?_
      refine lv_iload_n hx hb dX10_load_28 rfl (lv_at hl 1 rfl) ?_
      refine lv_iload_n hx hb dX10_load_29 rfl (lv_at hl 2 rfl) ?_
      refine lv_if_ne (tgt := 37) hx hb dX10_load_30 (by decide) (fun c_8 => ?_) (fun c_8 => ?_)
      · skip
        refine lv_iload_n hx hb dX10_load_37 rfl (lv_at hl 3 rfl) ?_
        refine lv_i2l (v := p3.toInt64) hx hb dX10_load_38 rfl ?_
        refine gcalli (S := Unit) (wc := []) (wr := [(h0, .inr (8, [.ref fo, .ref si, .ref it, .ref mv, .int 0, .int 0, .ref co, .ref lk, .ref lb, .int 200, .int 3, .ref ki, .ref bi, .int 0, .int 0, .int 0, .int 0, .int 0, .int 0, .int 0, .int 0, .int 0, .int 0, .ref he, .ref dr, .int 0, .ref hd, .ref pa, .ref fk, .ref le, .ref be, .ref att, .ref ky, .ref kz, .ref wy, .ref hit, .ref br, .int 0, .int 0, .int 0, .int 0, .int 0, .int 0, .int 0, .int 0, .ref tol])), (lk, .inl (cI, 8, .inl (upd (fun _ => 0) p1.toNatClampNeg p2))), (lb, .inl (cI, 8, .inl (fun _ => 0)))]) (w1 := fun _ => []) (va_runS (As := [.long (p3.toInt64)]) (rest := [.int p1, .ref lb]) ⟨hx, hb, hml, hown, hts⟩ (c_X10_floatOf l dC dI cI cT cS H.size (p3.toInt64) (by rw [Int32.toInt_toInt64]; have := p3.le_toInt; have := p3.toInt_lt; omega)) (va_cwS 1 hts (gWS (List.mem_of_getElem? (i := 8) rfl) (List.mem_of_getElem? (i := 9) rfl) (List.mem_of_getElem? (i := 3) rfl) ic_c_X10_load_c_X10_floatOf gd_c_X10_floatOf) rfl rfl rfl (by decide +kernel) ⟨(Nat.le_of_ble_eq_true rfl), (Nat.le_of_ble_eq_true rfl)⟩) (gpS (hP.sub (ws' := []) [] rfl) hK (hD.sub (ws' := []) [] (by decide) rfl)) rfl rfl hl.1 rfl (lv_room (Nat.le_of_ble_eq_true rfl)) dX10_load_39 ⟨(Nat.le_of_ble_eq_true rfl), (Nat.le_of_ble_eq_true rfl)⟩) hP hD hS hA [] [0, 1, 2] rfl rfl (by decide) (by decide) (fun r_9 ur_9 H locs wr_9 hP hD hS => ?_)
        replace hP : va_P (dC, dI) vwCl [(h0, .inr (8, [.ref fo, .ref si, .ref it, .ref mv, .int 0, .int 0, .ref co, .ref lk, .ref lb, .int 200, .int 3, .ref ki, .ref bi, .int 0, .int 0, .int 0, .int 0, .int 0, .int 0, .int 0, .int 0, .int 0, .int 0, .ref he, .ref dr, .int 0, .ref hd, .ref pa, .ref fk, .ref le, .ref be, .ref att, .ref ky, .ref kz, .ref wy, .ref hit, .ref br, .int 0, .int 0, .int 0, .int 0, .int 0, .int 0, .int 0, .int 0, .ref tol])), (lk, .inl (cI, 8, .inl (upd (fun _ => 0) p1.toNatClampNeg p2))), (lb, .inl (cI, 8, .inl (fun _ => 0)))] H := hP
        replace hD : va_D A [(h0, .inr (8, [.ref fo, .ref si, .ref it, .ref mv, .int 0, .int 0, .ref co, .ref lk, .ref lb, .int 200, .int 3, .ref ki, .ref bi, .int 0, .int 0, .int 0, .int 0, .int 0, .int 0, .int 0, .int 0, .int 0, .int 0, .ref he, .ref dr, .int 0, .ref hd, .ref pa, .ref fk, .ref le, .ref be, .ref att, .ref ky, .ref kz, .ref wy, .ref hit, .ref br, .int 0, .int 0, .int 0, .int 0, .int 0, .int 0, .int 0, .int 0, .ref tol])), (lk, .inl (cI, 8, .inl (upd (fun _ => 0) p1.toNatClampNeg p2))), (lb, .inl (cI, 8, .inl (fun _ => 0)))] := hD
        refine lv_ldc (v := 1048576000) hx hb hown (hts (.constant RX10 181 (1048576000)) (List.mem_of_getElem? (i := 10) rfl)) dX10_load_42 ?_
        refine gcalli (S := Unit) (wc := []) (wr := [(h0, .inr (8, [.ref fo, .ref si, .ref it, .ref mv, .int 0, .int 0, .ref co, .ref lk, .ref lb, .int 200, .int 3, .ref ki, .ref bi, .int 0, .int 0, .int 0, .int 0, .int 0, .int 0, .int 0, .int 0, .int 0, .int 0, .ref he, .ref dr, .int 0, .ref hd, .ref pa, .ref fk, .ref le, .ref be, .ref att, .ref ky, .ref kz, .ref wy, .ref hit, .ref br, .int 0, .int 0, .int 0, .int 0, .int 0, .int 0, .int 0, .int 0, .ref tol])), (lk, .inl (cI, 8, .inl (upd (fun _ => 0) p1.toNatClampNeg p2))), (lb, .inl (cI, 8, .inl (fun _ => 0)))]) (w1 := fun _ => []) (va_runS (As := [.int r_9, .int 1048576000]) (rest := [.int p1, .ref lb]) ⟨hx, hb, hml, hown, hts⟩ (c_X10_product l dC dI cI cT cS H.size r_9 1048576000 ) (va_cwS 2 hts (gWS (List.mem_of_getElem? (i := 11) rfl) (List.mem_of_getElem? (i := 12) rfl) (List.mem_of_getElem? (i := 3) rfl) ic_c_X10_load_c_X10_product gd_c_X10_product) rfl rfl rfl (by decide +kernel) ⟨(Nat.le_of_ble_eq_true rfl), (Nat.le_of_ble_eq_true rfl)⟩) (gpS (hP.sub (ws' := []) [] rfl) hK (hD.sub (ws' := []) [] (by decide) rfl)) rfl rfl hl.1 rfl (lv_room (Nat.le_of_ble_eq_true rfl)) dX10_load_44 ⟨(Nat.le_of_ble_eq_true rfl), (Nat.le_of_ble_eq_true rfl)⟩) hP hD hS hA [] [0, 1, 2] rfl rfl (by decide) (by decide) (fun r_10 ur_10 H locs wr_10 hP hD hS => ?_)
        replace hP : va_P (dC, dI) vwCl [(h0, .inr (8, [.ref fo, .ref si, .ref it, .ref mv, .int 0, .int 0, .ref co, .ref lk, .ref lb, .int 200, .int 3, .ref ki, .ref bi, .int 0, .int 0, .int 0, .int 0, .int 0, .int 0, .int 0, .int 0, .int 0, .int 0, .ref he, .ref dr, .int 0, .ref hd, .ref pa, .ref fk, .ref le, .ref be, .ref att, .ref ky, .ref kz, .ref wy, .ref hit, .ref br, .int 0, .int 0, .int 0, .int 0, .int 0, .int 0, .int 0, .int 0, .ref tol])), (lk, .inl (cI, 8, .inl (upd (fun _ => 0) p1.toNatClampNeg p2))), (lb, .inl (cI, 8, .inl (fun _ => 0)))] H := hP
        replace hD : va_D A [(h0, .inr (8, [.ref fo, .ref si, .ref it, .ref mv, .int 0, .int 0, .ref co, .ref lk, .ref lb, .int 200, .int 3, .ref ki, .ref bi, .int 0, .int 0, .int 0, .int 0, .int 0, .int 0, .int 0, .int 0, .int 0, .int 0, .ref he, .ref dr, .int 0, .ref hd, .ref pa, .ref fk, .ref le, .ref be, .ref att, .ref ky, .ref kz, .ref wy, .ref hit, .ref br, .int 0, .int 0, .int 0, .int 0, .int 0, .int 0, .int 0, .int 0, .ref tol])), (lk, .inl (cI, 8, .inl (upd (fun _ => 0) p1.toNatClampNeg p2))), (lb, .inl (cI, 8, .inl (fun _ => 0)))] := hD
        refine va_iast hx hb hK.1 hP hD hS 2 0 rfl rfl (g_inof (by (try simp only [← Int32.toInt_inj, Int32.lt_iff_toInt_lt, Int32.le_iff_toInt_le, ← Int64.toInt_inj, Int64.lt_iff_toInt_lt, Int64.le_iff_toInt_le, Int32.toInt_toInt64, (show ((-2) : Int32).toInt = (-2) from rfl), (show (0 : Int32).toInt = 0 from rfl), (show (1 : Int32).toInt = 1 from rfl), (show (1048576000 : Int32).toInt = 1048576000 from rfl), (show (0 : Int64).toInt = 0 from rfl)] at c_2); (try simp only [← Int32.toInt_inj, Int32.lt_iff_toInt_lt, Int32.le_iff_toInt_le, ← Int64.toInt_inj, Int64.lt_iff_toInt_lt, Int64.le_iff_toInt_le, Int32.toInt_toInt64, (show ((-2) : Int32).toInt = (-2) from rfl), (show (0 : Int32).toInt = 0 from rfl), (show (1 : Int32).toInt = 1 from rfl), (show (1048576000 : Int32).toInt = 1048576000 from rfl), (show (0 : Int64).toInt = 0 from rfl)] at f_4); (try simp only [← Int32.toInt_inj, Int32.lt_iff_toInt_lt, Int32.le_iff_toInt_le, ← Int64.toInt_inj, Int64.lt_iff_toInt_lt, Int64.le_iff_toInt_le, Int32.toInt_toInt64, (show ((-2) : Int32).toInt = (-2) from rfl), (show (0 : Int32).toInt = 0 from rfl), (show (1 : Int32).toInt = 1 from rfl), (show (1048576000 : Int32).toInt = 1048576000 from rfl), (show (0 : Int64).toInt = 0 from rfl)] at c_6); (try simp only [← Int32.toInt_inj, Int32.lt_iff_toInt_lt, Int32.le_iff_toInt_le, ← Int64.toInt_inj, Int64.lt_iff_toInt_lt, Int64.le_iff_toInt_le, Int32.toInt_toInt64, (show ((-2) : Int32).toInt = (-2) from rfl), (show (0 : Int32).toInt = 0 from rfl), (show (1 : Int32).toInt = 1 from rfl), (show (1048576000 : Int32).toInt = 1048576000 from rfl), (show (0 : Int64).toInt = 0 from rfl)] at f_7); (try simp only [← Int32.toInt_inj, Int32.lt_iff_toInt_lt, Int32.le_iff_toInt_le, ← Int64.toInt_inj, Int64.lt_iff_toInt_lt, Int64.le_iff_toInt_le, Int32.toInt_toInt64, (show ((-2) : Int32).toInt = (-2) from rfl), (show (0 : Int32).toInt = 0 from rfl), (show (1 : Int32).toInt = 1 from rfl), (show (1048576000 : Int32).toInt = 1048576000 from rfl), (show (0 : Int64).toInt = 0 from rfl)] at c_8); omega)) dX10_load_47 (fun H locs hP hD hS => ?_)
        replace hP : va_P (dC, dI) vwCl [(h0, .inr (8, [.ref fo, .ref si, .ref it, .ref mv, .int 0, .int 0, .ref co, .ref lk, .ref lb, .int 200, .int 3, .ref ki, .ref bi, .int 0, .int 0, .int 0, .int 0, .int 0, .int 0, .int 0, .int 0, .int 0, .int 0, .ref he, .ref dr, .int 0, .ref hd, .ref pa, .ref fk, .ref le, .ref be, .ref att, .ref ky, .ref kz, .ref wy, .ref hit, .ref br, .int 0, .int 0, .int 0, .int 0, .int 0, .int 0, .int 0, .int 0, .ref tol])), (lk, .inl (cI, 8, .inl (upd (fun _ => 0) p1.toNatClampNeg p2))), (lb, .inl (cI, 8, .inl (upd (fun _ => 0) p1.toNatClampNeg r_10)))] H := hP
        replace hD : va_D A [(h0, .inr (8, [.ref fo, .ref si, .ref it, .ref mv, .int 0, .int 0, .ref co, .ref lk, .ref lb, .int 200, .int 3, .ref ki, .ref bi, .int 0, .int 0, .int 0, .int 0, .int 0, .int 0, .int 0, .int 0, .int 0, .int 0, .ref he, .ref dr, .int 0, .ref hd, .ref pa, .ref fk, .ref le, .ref be, .ref att, .ref ky, .ref kz, .ref wy, .ref hit, .ref br, .int 0, .int 0, .int 0, .int 0, .int 0, .int 0, .int 0, .int 0, .ref tol])), (lk, .inl (cI, 8, .inl (upd (fun _ => 0) p1.toNatClampNeg p2))), (lb, .inl (cI, 8, .inl (upd (fun _ => 0) p1.toNatClampNeg r_10)))] := hD
        refine lv_iconst (v := 1) hx hb dX10_load_48 (by decide) ?_
        refine W.widen (k := 0) (n := 0) (Nat.le_of_ble_eq_true rfl) (Nat.le_of_ble_eq_true rfl) ?_
        have hP9 := hP.sub (ws' := []) [] rfl
        have hD9 := hD.sub (ws' := []) [] (by decide) rfl
        exact W.iret (v := 1) hx hb hr (fun t ht hW => ⟨⟨1, (), rfl, (by first | decide | exact ((if_pos (by (try simp only [← Int32.toInt_inj, Int32.lt_iff_toInt_lt, Int32.le_iff_toInt_le, ← Int64.toInt_inj, Int64.lt_iff_toInt_lt, Int64.le_iff_toInt_le, Int32.toInt_toInt64, (show ((-2) : Int32).toInt = (-2) from rfl), (show (0 : Int32).toInt = 0 from rfl), (show (1 : Int32).toInt = 1 from rfl), (show (1048576000 : Int32).toInt = 1048576000 from rfl), (show (0 : Int64).toInt = 0 from rfl)] at c_2); (try simp only [← Int32.toInt_inj, Int32.lt_iff_toInt_lt, Int32.le_iff_toInt_le, ← Int64.toInt_inj, Int64.lt_iff_toInt_lt, Int64.le_iff_toInt_le, Int32.toInt_toInt64, (show ((-2) : Int32).toInt = (-2) from rfl), (show (0 : Int32).toInt = 0 from rfl), (show (1 : Int32).toInt = 1 from rfl), (show (1048576000 : Int32).toInt = 1048576000 from rfl), (show (0 : Int64).toInt = 0 from rfl)] at f_4); (try simp only [← Int32.toInt_inj, Int32.lt_iff_toInt_lt, Int32.le_iff_toInt_le, ← Int64.toInt_inj, Int64.lt_iff_toInt_lt, Int64.le_iff_toInt_le, Int32.toInt_toInt64, (show ((-2) : Int32).toInt = (-2) from rfl), (show (0 : Int32).toInt = 0 from rfl), (show (1 : Int32).toInt = 1 from rfl), (show (1048576000 : Int32).toInt = 1048576000 from rfl), (show (0 : Int64).toInt = 0 from rfl)] at c_6); (try simp only [← Int32.toInt_inj, Int32.lt_iff_toInt_lt, Int32.le_iff_toInt_le, ← Int64.toInt_inj, Int64.lt_iff_toInt_lt, Int64.le_iff_toInt_le, Int32.toInt_toInt64, (show ((-2) : Int32).toInt = (-2) from rfl), (show (0 : Int32).toInt = 0 from rfl), (show (1 : Int32).toInt = 1 from rfl), (show (1048576000 : Int32).toInt = 1048576000 from rfl), (show (0 : Int64).toInt = 0 from rfl)] at f_7); (try simp only [← Int32.toInt_inj, Int32.lt_iff_toInt_lt, Int32.le_iff_toInt_le, ← Int64.toInt_inj, Int64.lt_iff_toInt_lt, Int64.le_iff_toInt_le, Int32.toInt_toInt64, (show ((-2) : Int32).toInt = (-2) from rfl), (show (0 : Int32).toInt = 0 from rfl), (show (1 : Int32).toInt = 1 from rfl), (show (1048576000 : Int32).toInt = 1048576000 from rfl), (show (0 : Int64).toInt = 0 from rfl)] at c_8); omega)).trans (by decide)).symm | ((try simp only [← Int32.toInt_inj, Int32.lt_iff_toInt_lt, Int32.le_iff_toInt_le, ← Int64.toInt_inj, Int64.lt_iff_toInt_lt, Int64.le_iff_toInt_le, Int32.toInt_toInt64, (show ((-2) : Int32).toInt = (-2) from rfl), (show (0 : Int32).toInt = 0 from rfl), (show (1 : Int32).toInt = 1 from rfl), (show (1048576000 : Int32).toInt = 1048576000 from rfl), (show (0 : Int64).toInt = 0 from rfl)] at c_2); (try simp only [← Int32.toInt_inj, Int32.lt_iff_toInt_lt, Int32.le_iff_toInt_le, ← Int64.toInt_inj, Int64.lt_iff_toInt_lt, Int64.le_iff_toInt_le, Int32.toInt_toInt64, (show ((-2) : Int32).toInt = (-2) from rfl), (show (0 : Int32).toInt = 0 from rfl), (show (1 : Int32).toInt = 1 from rfl), (show (1048576000 : Int32).toInt = 1048576000 from rfl), (show (0 : Int64).toInt = 0 from rfl)] at f_4); (try simp only [← Int32.toInt_inj, Int32.lt_iff_toInt_lt, Int32.le_iff_toInt_le, ← Int64.toInt_inj, Int64.lt_iff_toInt_lt, Int64.le_iff_toInt_le, Int32.toInt_toInt64, (show ((-2) : Int32).toInt = (-2) from rfl), (show (0 : Int32).toInt = 0 from rfl), (show (1 : Int32).toInt = 1 from rfl), (show (1048576000 : Int32).toInt = 1048576000 from rfl), (show (0 : Int64).toInt = 0 from rfl)] at c_6); (try simp only [← Int32.toInt_inj, Int32.lt_iff_toInt_lt, Int32.le_iff_toInt_le, ← Int64.toInt_inj, Int64.lt_iff_toInt_lt, Int64.le_iff_toInt_le, Int32.toInt_toInt64, (show ((-2) : Int32).toInt = (-2) from rfl), (show (0 : Int32).toInt = 0 from rfl), (show (1 : Int32).toInt = 1 from rfl), (show (1048576000 : Int32).toInt = 1048576000 from rfl), (show (0 : Int64).toInt = 0 from rfl)] at f_7); (try simp only [← Int32.toInt_inj, Int32.lt_iff_toInt_lt, Int32.le_iff_toInt_le, ← Int64.toInt_inj, Int64.lt_iff_toInt_lt, Int64.le_iff_toInt_le, Int32.toInt_toInt64, (show ((-2) : Int32).toInt = (-2) from rfl), (show (0 : Int32).toInt = 0 from rfl), (show (1 : Int32).toInt = 1 from rfl), (show (1048576000 : Int32).toInt = 1048576000 from rfl), (show (0 : Int64).toInt = 0 from rfl)] at c_8); show _ = ite _ _ _; (try simp only [(show ((-2) : Int32).toInt = (-2) from rfl), (show (0 : Int32).toInt = 0 from rfl), (show (1 : Int32).toInt = 1 from rfl), (show (2 : Int32).toInt = 2 from rfl), (show (3 : Int32).toInt = 3 from rfl), (show (1048576000 : Int32).toInt = 1048576000 from rfl)]); (repeat' split) <;> first | rfl | omega)), by rw [ht]; exact hP9, hD9⟩, hS.F ht⟩) hS.2.2 dX10_load_49
      · skip
        refine lv_iload_n hx hb dX10_load_33 rfl (lv_at hl 3 rfl) ?_
        refine lv_goto (tgt := 47) hx hb dX10_load_34 (by decide) ?_
        refine va_iast hx hb hK.1 hP hD hS 2 0 rfl rfl (g_inof (by (try simp only [← Int32.toInt_inj, Int32.lt_iff_toInt_lt, Int32.le_iff_toInt_le, ← Int64.toInt_inj, Int64.lt_iff_toInt_lt, Int64.le_iff_toInt_le, Int32.toInt_toInt64, (show ((-2) : Int32).toInt = (-2) from rfl), (show (0 : Int32).toInt = 0 from rfl), (show (1 : Int32).toInt = 1 from rfl), (show (1048576000 : Int32).toInt = 1048576000 from rfl), (show (0 : Int64).toInt = 0 from rfl)] at c_2); (try simp only [← Int32.toInt_inj, Int32.lt_iff_toInt_lt, Int32.le_iff_toInt_le, ← Int64.toInt_inj, Int64.lt_iff_toInt_lt, Int64.le_iff_toInt_le, Int32.toInt_toInt64, (show ((-2) : Int32).toInt = (-2) from rfl), (show (0 : Int32).toInt = 0 from rfl), (show (1 : Int32).toInt = 1 from rfl), (show (1048576000 : Int32).toInt = 1048576000 from rfl), (show (0 : Int64).toInt = 0 from rfl)] at f_4); (try simp only [← Int32.toInt_inj, Int32.lt_iff_toInt_lt, Int32.le_iff_toInt_le, ← Int64.toInt_inj, Int64.lt_iff_toInt_lt, Int64.le_iff_toInt_le, Int32.toInt_toInt64, (show ((-2) : Int32).toInt = (-2) from rfl), (show (0 : Int32).toInt = 0 from rfl), (show (1 : Int32).toInt = 1 from rfl), (show (1048576000 : Int32).toInt = 1048576000 from rfl), (show (0 : Int64).toInt = 0 from rfl)] at c_6); (try simp only [← Int32.toInt_inj, Int32.lt_iff_toInt_lt, Int32.le_iff_toInt_le, ← Int64.toInt_inj, Int64.lt_iff_toInt_lt, Int64.le_iff_toInt_le, Int32.toInt_toInt64, (show ((-2) : Int32).toInt = (-2) from rfl), (show (0 : Int32).toInt = 0 from rfl), (show (1 : Int32).toInt = 1 from rfl), (show (1048576000 : Int32).toInt = 1048576000 from rfl), (show (0 : Int64).toInt = 0 from rfl)] at f_7); (try simp only [← Int32.toInt_inj, Int32.lt_iff_toInt_lt, Int32.le_iff_toInt_le, ← Int64.toInt_inj, Int64.lt_iff_toInt_lt, Int64.le_iff_toInt_le, Int32.toInt_toInt64, (show ((-2) : Int32).toInt = (-2) from rfl), (show (0 : Int32).toInt = 0 from rfl), (show (1 : Int32).toInt = 1 from rfl), (show (1048576000 : Int32).toInt = 1048576000 from rfl), (show (0 : Int64).toInt = 0 from rfl)] at c_8); omega)) dX10_load_47 (fun H locs hP hD hS => ?_)
        replace hP : va_P (dC, dI) vwCl [(h0, .inr (8, [.ref fo, .ref si, .ref it, .ref mv, .int 0, .int 0, .ref co, .ref lk, .ref lb, .int 200, .int 3, .ref ki, .ref bi, .int 0, .int 0, .int 0, .int 0, .int 0, .int 0, .int 0, .int 0, .int 0, .int 0, .ref he, .ref dr, .int 0, .ref hd, .ref pa, .ref fk, .ref le, .ref be, .ref att, .ref ky, .ref kz, .ref wy, .ref hit, .ref br, .int 0, .int 0, .int 0, .int 0, .int 0, .int 0, .int 0, .int 0, .ref tol])), (lk, .inl (cI, 8, .inl (upd (fun _ => 0) p1.toNatClampNeg p2))), (lb, .inl (cI, 8, .inl (upd (fun _ => 0) p1.toNatClampNeg p3)))] H := hP
        replace hD : va_D A [(h0, .inr (8, [.ref fo, .ref si, .ref it, .ref mv, .int 0, .int 0, .ref co, .ref lk, .ref lb, .int 200, .int 3, .ref ki, .ref bi, .int 0, .int 0, .int 0, .int 0, .int 0, .int 0, .int 0, .int 0, .int 0, .int 0, .ref he, .ref dr, .int 0, .ref hd, .ref pa, .ref fk, .ref le, .ref be, .ref att, .ref ky, .ref kz, .ref wy, .ref hit, .ref br, .int 0, .int 0, .int 0, .int 0, .int 0, .int 0, .int 0, .int 0, .ref tol])), (lk, .inl (cI, 8, .inl (upd (fun _ => 0) p1.toNatClampNeg p2))), (lb, .inl (cI, 8, .inl (upd (fun _ => 0) p1.toNatClampNeg p3)))] := hD
        refine lv_iconst (v := 1) hx hb dX10_load_48 (by decide) ?_
        refine W.widen (k := 0) (n := 0) (Nat.le_of_ble_eq_true rfl) (Nat.le_of_ble_eq_true rfl) ?_
        have hP9 := hP.sub (ws' := []) [] rfl
        have hD9 := hD.sub (ws' := []) [] (by decide) rfl
        exact W.iret (v := 1) hx hb hr (fun t ht hW => ⟨⟨1, (), rfl, (by first | decide | exact ((if_pos (by (try simp only [← Int32.toInt_inj, Int32.lt_iff_toInt_lt, Int32.le_iff_toInt_le, ← Int64.toInt_inj, Int64.lt_iff_toInt_lt, Int64.le_iff_toInt_le, Int32.toInt_toInt64, (show ((-2) : Int32).toInt = (-2) from rfl), (show (0 : Int32).toInt = 0 from rfl), (show (1 : Int32).toInt = 1 from rfl), (show (1048576000 : Int32).toInt = 1048576000 from rfl), (show (0 : Int64).toInt = 0 from rfl)] at c_2); (try simp only [← Int32.toInt_inj, Int32.lt_iff_toInt_lt, Int32.le_iff_toInt_le, ← Int64.toInt_inj, Int64.lt_iff_toInt_lt, Int64.le_iff_toInt_le, Int32.toInt_toInt64, (show ((-2) : Int32).toInt = (-2) from rfl), (show (0 : Int32).toInt = 0 from rfl), (show (1 : Int32).toInt = 1 from rfl), (show (1048576000 : Int32).toInt = 1048576000 from rfl), (show (0 : Int64).toInt = 0 from rfl)] at f_4); (try simp only [← Int32.toInt_inj, Int32.lt_iff_toInt_lt, Int32.le_iff_toInt_le, ← Int64.toInt_inj, Int64.lt_iff_toInt_lt, Int64.le_iff_toInt_le, Int32.toInt_toInt64, (show ((-2) : Int32).toInt = (-2) from rfl), (show (0 : Int32).toInt = 0 from rfl), (show (1 : Int32).toInt = 1 from rfl), (show (1048576000 : Int32).toInt = 1048576000 from rfl), (show (0 : Int64).toInt = 0 from rfl)] at c_6); (try simp only [← Int32.toInt_inj, Int32.lt_iff_toInt_lt, Int32.le_iff_toInt_le, ← Int64.toInt_inj, Int64.lt_iff_toInt_lt, Int64.le_iff_toInt_le, Int32.toInt_toInt64, (show ((-2) : Int32).toInt = (-2) from rfl), (show (0 : Int32).toInt = 0 from rfl), (show (1 : Int32).toInt = 1 from rfl), (show (1048576000 : Int32).toInt = 1048576000 from rfl), (show (0 : Int64).toInt = 0 from rfl)] at f_7); (try simp only [← Int32.toInt_inj, Int32.lt_iff_toInt_lt, Int32.le_iff_toInt_le, ← Int64.toInt_inj, Int64.lt_iff_toInt_lt, Int64.le_iff_toInt_le, Int32.toInt_toInt64, (show ((-2) : Int32).toInt = (-2) from rfl), (show (0 : Int32).toInt = 0 from rfl), (show (1 : Int32).toInt = 1 from rfl), (show (1048576000 : Int32).toInt = 1048576000 from rfl), (show (0 : Int64).toInt = 0 from rfl)] at c_8); omega)).trans (by decide)).symm | ((try simp only [← Int32.toInt_inj, Int32.lt_iff_toInt_lt, Int32.le_iff_toInt_le, ← Int64.toInt_inj, Int64.lt_iff_toInt_lt, Int64.le_iff_toInt_le, Int32.toInt_toInt64, (show ((-2) : Int32).toInt = (-2) from rfl), (show (0 : Int32).toInt = 0 from rfl), (show (1 : Int32).toInt = 1 from rfl), (show (1048576000 : Int32).toInt = 1048576000 from rfl), (show (0 : Int64).toInt = 0 from rfl)] at c_2); (try simp only [← Int32.toInt_inj, Int32.lt_iff_toInt_lt, Int32.le_iff_toInt_le, ← Int64.toInt_inj, Int64.lt_iff_toInt_lt, Int64.le_iff_toInt_le, Int32.toInt_toInt64, (show ((-2) : Int32).toInt = (-2) from rfl), (show (0 : Int32).toInt = 0 from rfl), (show (1 : Int32).toInt = 1 from rfl), (show (1048576000 : Int32).toInt = 1048576000 from rfl), (show (0 : Int64).toInt = 0 from rfl)] at f_4); (try simp only [← Int32.toInt_inj, Int32.lt_iff_toInt_lt, Int32.le_iff_toInt_le, ← Int64.toInt_inj, Int64.lt_iff_toInt_lt, Int64.le_iff_toInt_le, Int32.toInt_toInt64, (show ((-2) : Int32).toInt = (-2) from rfl), (show (0 : Int32).toInt = 0 from rfl), (show (1 : Int32).toInt = 1 from rfl), (show (1048576000 : Int32).toInt = 1048576000 from rfl), (show (0 : Int64).toInt = 0 from rfl)] at c_6); (try simp only [← Int32.toInt_inj, Int32.lt_iff_toInt_lt, Int32.le_iff_toInt_le, ← Int64.toInt_inj, Int64.lt_iff_toInt_lt, Int64.le_iff_toInt_le, Int32.toInt_toInt64, (show ((-2) : Int32).toInt = (-2) from rfl), (show (0 : Int32).toInt = 0 from rfl), (show (1 : Int32).toInt = 1 from rfl), (show (1048576000 : Int32).toInt = 1048576000 from rfl), (show (0 : Int64).toInt = 0 from rfl)] at f_7); (try simp only [← Int32.toInt_inj, Int32.lt_iff_toInt_lt, Int32.le_iff_toInt_le, ← Int64.toInt_inj, Int64.lt_iff_toInt_lt, Int64.le_iff_toInt_le, Int32.toInt_toInt64, (show ((-2) : Int32).toInt = (-2) from rfl), (show (0 : Int32).toInt = 0 from rfl), (show (1 : Int32).toInt = 1 from rfl), (show (1048576000 : Int32).toInt = 1048576000 from rfl), (show (0 : Int64).toInt = 0 from rfl)] at c_8); show _ = ite _ _ _; (try simp only [(show ((-2) : Int32).toInt = (-2) from rfl), (show (0 : Int32).toInt = 0 from rfl), (show (1 : Int32).toInt = 1 from rfl), (show (2 : Int32).toInt = 2 from rfl), (show (3 : Int32).toInt = 3 from rfl), (show (1048576000 : Int32).toInt = 1048576000 from rfl)]); (repeat' split) <;> first | rfl | omega)), by rw [ht]; exact hP9, hD9⟩, hS.F ht⟩) hS.2.2 dX10_load_49
    · skip
      have f_11 := g_ite0 wr_5 c_6
      refine lv_bipush (v := (-2)) hx hb dX10_load_14 (by decide) ?_
      refine W.widen (k := 0) (n := 0) (Nat.le_of_ble_eq_true rfl) (Nat.le_of_ble_eq_true rfl) ?_
      have hP9 := hP.sub (ws' := []) [] rfl
      have hD9 := hD.sub (ws' := []) [] (by decide) rfl
      exact W.iret (v := (-2)) hx hb hr (fun t ht hW => ⟨⟨(-2), (), rfl, (by first | decide | exact ((if_pos (by (try simp only [← Int32.toInt_inj, Int32.lt_iff_toInt_lt, Int32.le_iff_toInt_le, ← Int64.toInt_inj, Int64.lt_iff_toInt_lt, Int64.le_iff_toInt_le, Int32.toInt_toInt64, (show ((-2) : Int32).toInt = (-2) from rfl), (show (0 : Int32).toInt = 0 from rfl), (show (1 : Int32).toInt = 1 from rfl), (show (1048576000 : Int32).toInt = 1048576000 from rfl), (show (0 : Int64).toInt = 0 from rfl)] at c_2); (try simp only [← Int32.toInt_inj, Int32.lt_iff_toInt_lt, Int32.le_iff_toInt_le, ← Int64.toInt_inj, Int64.lt_iff_toInt_lt, Int64.le_iff_toInt_le, Int32.toInt_toInt64, (show ((-2) : Int32).toInt = (-2) from rfl), (show (0 : Int32).toInt = 0 from rfl), (show (1 : Int32).toInt = 1 from rfl), (show (1048576000 : Int32).toInt = 1048576000 from rfl), (show (0 : Int64).toInt = 0 from rfl)] at f_4); (try simp only [← Int32.toInt_inj, Int32.lt_iff_toInt_lt, Int32.le_iff_toInt_le, ← Int64.toInt_inj, Int64.lt_iff_toInt_lt, Int64.le_iff_toInt_le, Int32.toInt_toInt64, (show ((-2) : Int32).toInt = (-2) from rfl), (show (0 : Int32).toInt = 0 from rfl), (show (1 : Int32).toInt = 1 from rfl), (show (1048576000 : Int32).toInt = 1048576000 from rfl), (show (0 : Int64).toInt = 0 from rfl)] at c_6); (try simp only [← Int32.toInt_inj, Int32.lt_iff_toInt_lt, Int32.le_iff_toInt_le, ← Int64.toInt_inj, Int64.lt_iff_toInt_lt, Int64.le_iff_toInt_le, Int32.toInt_toInt64, (show ((-2) : Int32).toInt = (-2) from rfl), (show (0 : Int32).toInt = 0 from rfl), (show (1 : Int32).toInt = 1 from rfl), (show (1048576000 : Int32).toInt = 1048576000 from rfl), (show (0 : Int64).toInt = 0 from rfl)] at f_11); omega)).trans (by decide)).symm | ((try simp only [← Int32.toInt_inj, Int32.lt_iff_toInt_lt, Int32.le_iff_toInt_le, ← Int64.toInt_inj, Int64.lt_iff_toInt_lt, Int64.le_iff_toInt_le, Int32.toInt_toInt64, (show ((-2) : Int32).toInt = (-2) from rfl), (show (0 : Int32).toInt = 0 from rfl), (show (1 : Int32).toInt = 1 from rfl), (show (1048576000 : Int32).toInt = 1048576000 from rfl), (show (0 : Int64).toInt = 0 from rfl)] at c_2); (try simp only [← Int32.toInt_inj, Int32.lt_iff_toInt_lt, Int32.le_iff_toInt_le, ← Int64.toInt_inj, Int64.lt_iff_toInt_lt, Int64.le_iff_toInt_le, Int32.toInt_toInt64, (show ((-2) : Int32).toInt = (-2) from rfl), (show (0 : Int32).toInt = 0 from rfl), (show (1 : Int32).toInt = 1 from rfl), (show (1048576000 : Int32).toInt = 1048576000 from rfl), (show (0 : Int64).toInt = 0 from rfl)] at f_4); (try simp only [← Int32.toInt_inj, Int32.lt_iff_toInt_lt, Int32.le_iff_toInt_le, ← Int64.toInt_inj, Int64.lt_iff_toInt_lt, Int64.le_iff_toInt_le, Int32.toInt_toInt64, (show ((-2) : Int32).toInt = (-2) from rfl), (show (0 : Int32).toInt = 0 from rfl), (show (1 : Int32).toInt = 1 from rfl), (show (1048576000 : Int32).toInt = 1048576000 from rfl), (show (0 : Int64).toInt = 0 from rfl)] at c_6); (try simp only [← Int32.toInt_inj, Int32.lt_iff_toInt_lt, Int32.le_iff_toInt_le, ← Int64.toInt_inj, Int64.lt_iff_toInt_lt, Int64.le_iff_toInt_le, Int32.toInt_toInt64, (show ((-2) : Int32).toInt = (-2) from rfl), (show (0 : Int32).toInt = 0 from rfl), (show (1 : Int32).toInt = 1 from rfl), (show (1048576000 : Int32).toInt = 1048576000 from rfl), (show (0 : Int64).toInt = 0 from rfl)] at f_11); show _ = ite _ _ _; (try simp only [(show ((-2) : Int32).toInt = (-2) from rfl), (show (0 : Int32).toInt = 0 from rfl), (show (1 : Int32).toInt = 1 from rfl), (show (2 : Int32).toInt = 2 from rfl), (show (3 : Int32).toInt = 3 from rfl), (show (1048576000 : Int32).toInt = 1048576000 from rfl)]); (repeat' split) <;> first | rfl | omega)), by rw [ht]; exact hP9, hD9⟩, hS.F ht⟩) hS.2.2 dX10_load_16
