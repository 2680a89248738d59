def oc_X10_in : List Cond := []
def vc_X10_in : List Cond := .code yX10_in cX10_in 6 (some .boolean) :: (oc_X10_in)
theorem gd_c_X10_in : (vc_X10_in).all goodWord = true := by decide +kernel
set_option maxHeartbeats 4000000 in
set_option maxRecDepth 100000 in
theorem c_X10_in (l : Launch) (dC : Nat → ClassId) (dI : Nat → Nat → Nat) (cI cT cS : ClassId) (sz : Nat) (a : Int64) (b : Int64) (c2 : Int64)  : gCI (S := Unit) l yX10_in vc_X10_in ({ frames := 0, cells := 0, slots := 0, locals := 0 }) (dC, dI) (gTY cI cT cS) sz [.long a, .long b, .long c2] [] (fun r u => r = if b.toInt ≤ a.toInt ∧ a.toInt ≤ c2.toInt then 1 else 0) (fun _ => []) 0 0 := by
  refine Met.ofW (cc := cX10_in) (maxL := 6) (ret := (some .boolean)) (by decide) rfl ?_
  intro p e s m args below meth c s₁ B hml hv
  obtain ⟨rfl, hsz, hP, hK, hD0⟩ := hv
  have hx := B.exec
  have hb := B.bytes
  have hr := B.returns
  have hts := atoms_spec (ws := vc_X10_in) B.pre
  have hown : s.vm.findClass RX10 = some m.cls := findClass_of_methodNamed B.named
  have hlocks := B.notSynchronized
  subst hsz
  have hD := hD0.self (sz := s.heap.size)
  generalize hAe : va_A [] s.heap.size = A at hD ⊢
  have hA : ∀ q : Nat, s.heap.size ≤ q → A q := fun q h => by rw [← hAe]; exact Or.inr h
  refine gstart (fun H locs hHe hLe => ?_)
  have hS : va_S A s.heap H locs := by rw [← hHe, ← hLe]; exact va_S.rf
  replace hP : va_P (dC, dI) vwCl [] H := by rw [← hHe]; exact hP
  clear hHe hLe
  have hl := lv_entry ([.long a, .long b, .long c2]) (n := 6) (Nat.le_of_ble_eq_true rfl)
  rw [lg_entry_eq]
  generalize (lg_sl ([.long a, .long b, .long c2]) ++ List.replicate (6 - (lg_sl ([.long a, .long b, .long c2])).length) Slot.unset).toArray = ls at hl ⊢
  replace hl : lv_has ls 6 [(0, .long a), (2, .long b), (4, .long c2)] := hl
  refine lv_lload_n hx hb dX10_in_0 rfl (lv_at hl 0 rfl) ?_
  refine lv_lload_n hx hb dX10_in_1 rfl (lv_at hl 1 rfl) ?_
  refine W.lcmp hx hb dX10_in_2 ?_
  refine lv_if_lt (tgt := 17) hx hb dX10_in_3 (by decide) (fun c_1 => ?_) (fun c_1 => ?_)
  · skip
    rw [g_c_lt] at c_1
    refine lv_iconst (v := 0) hx hb dX10_in_17 (by decide) ?_
    refine W.widen (k := 0) (n := 0) (Nat.le_of_ble_eq_true rfl) (Nat.le_of_ble_eq_true rfl) ?_
    have hP9 := hP.sub (ws' := []) [] rfl
    have hD9 := hD.sub (ws' := []) [] (by decide) rfl
    exact W.zret (v := 0) hx hb hr rfl (fun t ht hW => ⟨⟨0, (), rfl, (if_neg (by (try simp only [← Int32.toInt_inj, Int32.lt_iff_toInt_lt, Int32.le_iff_toInt_le, ← Int64.toInt_inj, Int64.lt_iff_toInt_lt, Int64.le_iff_toInt_le, Int32.toInt_toInt64, (show (0 : Int32).toInt = 0 from rfl), (show (1 : Int32).toInt = 1 from rfl), (show (0 : Int64).toInt = 0 from rfl)] at c_1); omega)).symm, by rw [ht]; exact hP9, hD9⟩, hS.F ht⟩) hS.2.2 dX10_in_18
  · skip
    rw [g_c_lt] at c_1
    refine lv_lload_n hx hb dX10_in_6 rfl (lv_at hl 0 rfl) ?_
    refine lv_lload hx hb dX10_in_7 (lv_at hl 2 rfl) ?_
    refine W.lcmp hx hb dX10_in_9 ?_
    refine lv_if_gt (tgt := 17) hx hb dX10_in_10 (by decide) (fun c_2 => ?_) (fun c_2 => ?_)
    · skip
      rw [g_c_gt] at c_2
      refine lv_iconst (v := 0) hx hb dX10_in_17 (by decide) ?_
      refine W.widen (k := 0) (n := 0) (Nat.le_of_ble_eq_true rfl) (Nat.le_of_ble_eq_true rfl) ?_
      have hP9 := hP.sub (ws' := []) [] rfl
      have hD9 := hD.sub (ws' := []) [] (by decide) rfl
      exact W.zret (v := 0) hx hb hr rfl (fun t ht hW => ⟨⟨0, (), rfl, (if_neg (by (try simp only [← Int32.toInt_inj, Int32.lt_iff_toInt_lt, Int32.le_iff_toInt_le, ← Int64.toInt_inj, Int64.lt_iff_toInt_lt, Int64.le_iff_toInt_le, Int32.toInt_toInt64, (show (0 : Int32).toInt = 0 from rfl), (show (1 : Int32).toInt = 1 from rfl), (show (0 : Int64).toInt = 0 from rfl)] at c_1); (try simp only [← Int32.toInt_inj, Int32.lt_iff_toInt_lt, Int32.le_iff_toInt_le, ← Int64.toInt_inj, Int64.lt_iff_toInt_lt, Int64.le_iff_toInt_le, Int32.toInt_toInt64, (show (0 : Int32).toInt = 0 from rfl), (show (1 : Int32).toInt = 1 from rfl), (show (0 : Int64).toInt = 0 from rfl)] at c_2); omega)).symm, by rw [ht]; exact hP9, hD9⟩, hS.F ht⟩) hS.2.2 dX10_in_18
    · skip
      rw [g_c_gt] at c_2
      refine lv_iconst (v := 1) hx hb dX10_in_13 (by decide) ?_
      refine lv_goto (tgt := 18) hx hb dX10_in_14 (by decide) ?_
      refine W.widen (k := 0) (n := 0) (Nat.le_of_ble_eq_true rfl) (Nat.le_of_ble_eq_true rfl) ?_
      have hP9 := hP.sub (ws' := []) [] rfl
      have hD9 := hD.sub (ws' := []) [] (by decide) rfl
      exact W.zret (v := 1) hx hb hr rfl (fun t ht hW => ⟨⟨1, (), rfl, (if_pos (by (try simp only [← Int32.toInt_inj, Int32.lt_iff_toInt_lt, Int32.le_iff_toInt_le, ← Int64.toInt_inj, Int64.lt_iff_toInt_lt, Int64.le_iff_toInt_le, Int32.toInt_toInt64, (show (0 : Int32).toInt = 0 from rfl), (show (1 : Int32).toInt = 1 from rfl), (show (0 : Int64).toInt = 0 from rfl)] at c_1); (try simp only [← Int32.toInt_inj, Int32.lt_iff_toInt_lt, Int32.le_iff_toInt_le, ← Int64.toInt_inj, Int64.lt_iff_toInt_lt, Int64.le_iff_toInt_le, Int32.toInt_toInt64, (show (0 : Int32).toInt = 0 from rfl), (show (1 : Int32).toInt = 1 from rfl), (show (0 : Int64).toInt = 0 from rfl)] at c_2); omega)).symm, by rw [ht]; exact hP9, hD9⟩, hS.F ht⟩) hS.2.2 dX10_in_18
def oc_X10_isTwo : List Cond := [.methodLink RX10 86 yX10_in, .static yX10_in, .initialized RX10]
def vc_X10_isTwo : List Cond := .code yX10_isTwo cX10_isTwo 1 (some .boolean) :: (oc_X10_isTwo ++ (vc_X10_in))
theorem ic_c_X10_isTwo_c_X10_in : ∀ w ∈ vc_X10_in, w ∈ vc_X10_isTwo := fun _ h => List.mem_cons_of_mem _ (List.mem_append_right _ (h))
theorem gd_c_X10_isTwo : (vc_X10_isTwo).all goodWord = true := by decide +kernel
set_option maxHeartbeats 4000000 in
set_option maxRecDepth 100000 in
theorem c_X10_isTwo (l : Launch) (dC : Nat → ClassId) (dI : Nat → Nat → Nat) (cI cT cS : ClassId) (sz : Nat) (p0 : Int32)  : gCI (S := Unit) l yX10_isTwo vc_X10_isTwo ({ frames := 1, cells := 0, slots := 0, locals := 25 }) (dC, dI) (gTY cI cT cS) sz [.int p0] [] (fun r u => r = if 0 ≤ p0.toInt ∧ p0.toInt ≤ 1 then 1 else 0) (fun _ => []) 0 0 := by
  refine Met.ofW (cc := cX10_isTwo) (maxL := 1) (ret := (some .boolean)) (by decide) rfl ?_
  intro p e s m args below meth c s₁ B hml hv
  obtain ⟨rfl, hsz, hP, hK, hD0⟩ := hv
  have hx := B.exec
  have hb := B.bytes
  have hr := B.returns
  have hts := atoms_spec (ws := vc_X10_isTwo) B.pre
  have hown : s.vm.findClass RX10 = some m.cls := findClass_of_methodNamed B.named
  have hlocks := B.notSynchronized
  subst hsz
  have hD := hD0.self (sz := s.heap.size)
  generalize hAe : va_A [] s.heap.size = A at hD ⊢
  have hA : ∀ q : Nat, s.heap.size ≤ q → A q := fun q h => by rw [← hAe]; exact Or.inr h
  refine gstart (fun H locs hHe hLe => ?_)
  have hS : va_S A s.heap H locs := by rw [← hHe, ← hLe]; exact va_S.rf
  replace hP : va_P (dC, dI) vwCl [] H := by rw [← hHe]; exact hP
  clear hHe hLe
  have hl := lv_entry ([.int p0]) (n := 1) (Nat.le_of_ble_eq_true rfl)
  rw [lg_entry_eq]
  generalize (lg_sl ([.int p0]) ++ List.replicate (1 - (lg_sl ([.int p0])).length) Slot.unset).toArray = ls at hl ⊢
  replace hl : lv_has ls 1 [(0, .int p0)] := hl
  refine lv_iload_n hx hb dX10_isTwo_0 rfl (lv_at hl 0 rfl) ?_
  refine lv_i2l (v := p0.toInt64) hx hb dX10_isTwo_1 rfl ?_
  refine lv_lconst (v := 0) hx hb dX10_isTwo_2 (by decide) ?_
  refine lv_lconst (v := 1) hx hb dX10_isTwo_3 (by decide) ?_
  refine gcalli (S := Unit) (wc := []) (wr := []) (w1 := fun _ => []) (va_runS (As := [.long (p0.toInt64), .long 0, .long 1]) (rest := []) ⟨hx, hb, hml, hown, hts⟩ (c_X10_in l dC dI cI cT cS H.size (p0.toInt64) 0 1 ) (va_cwS 3 hts (gWS (List.mem_of_getElem? (i := 1) rfl) (List.mem_of_getElem? (i := 2) rfl) (List.mem_of_getElem? (i := 3) rfl) ic_c_X10_isTwo_c_X10_in gd_c_X10_in) rfl rfl rfl (by decide +kernel) ⟨(Nat.le_of_ble_eq_true rfl), (Nat.le_of_ble_eq_true rfl)⟩) (gpS (hP.sub (ws' := []) [] rfl) hK (hD.sub (ws' := []) [] (by decide) rfl)) rfl rfl hl.1 rfl (lv_room (Nat.le_of_ble_eq_true rfl)) dX10_isTwo_4 ⟨(Nat.le_of_ble_eq_true rfl), (Nat.le_of_ble_eq_true rfl)⟩) hP hD hS hA [] [] rfl rfl (by decide) (by decide) (fun r_1 ur_1 H locs wr_1 hP hD hS => ?_)
  replace hP : va_P (dC, dI) vwCl [] H := hP
  replace hD : va_D A [] := hD
  refine W.widen (k := 0) (n := 0) (Nat.le_of_ble_eq_true rfl) (Nat.le_of_ble_eq_true rfl) ?_
  have hP9 := hP.sub (ws' := []) [] rfl
  have hD9 := hD.sub (ws' := []) [] (by decide) rfl
  exact W.zret (v := r_1) hx hb hr (by rw [wr_1]; split <;> rfl) (fun t ht hW => ⟨⟨r_1, (), rfl, by rw [wr_1]; simp only [← Int32.toInt_inj, Int32.lt_iff_toInt_lt, Int32.le_iff_toInt_le, ← Int64.toInt_inj, Int64.lt_iff_toInt_lt, Int64.le_iff_toInt_le, Int32.toInt_toInt64, (show (0 : Int32).toInt = 0 from rfl), (show (0 : Int64).toInt = 0 from rfl), (show (1 : Int64).toInt = 1 from rfl)], by rw [ht]; exact hP9, hD9⟩, hS.F ht⟩) hS.2.2 dX10_isTwo_7
def oc_X10_isSheet : List Cond := [.constantLong RX10 93 (3), .methodLink RX10 86 yX10_in, .static yX10_in, .initialized RX10]
def vc_X10_isSheet : List Cond := .code yX10_isSheet cX10_isSheet 1 (some .boolean) :: (oc_X10_isSheet ++ (vc_X10_in))
theorem ic_c_X10_isSheet_c_X10_in : ∀ w ∈ vc_X10_in, w ∈ vc_X10_isSheet := fun _ h => List.mem_cons_of_mem _ (List.mem_append_right _ (h))
theorem gd_c_X10_isSheet : (vc_X10_isSheet).all goodWord = true := by decide +kernel
set_option maxHeartbeats 4000000 in
set_option maxRecDepth 100000 in
theorem c_X10_isSheet (l : Launch) (dC : Nat → ClassId) (dI : Nat → Nat → Nat) (cI cT cS : ClassId) (sz : Nat) (p0 : Int32)  : gCI (S := Unit) l yX10_isSheet vc_X10_isSheet ({ frames := 1, cells := 0, slots := 0, locals := 25 }) (dC, dI) (gTY cI cT cS) sz [.int p0] [] (fun r u => r = if 0 ≤ p0.toInt ∧ p0.toInt ≤ 3 then 1 else 0) (fun _ => []) 0 0 := by
  refine Met.ofW (cc := cX10_isSheet) (maxL := 1) (ret := (some .boolean)) (by decide) rfl ?_
  intro p e s m args below meth c s₁ B hml hv
  obtain ⟨rfl, hsz, hP, hK, hD0⟩ := hv
  have hx := B.exec
  have hb := B.bytes
  have hr := B.returns
  have hts := atoms_spec (ws := vc_X10_isSheet) B.pre
  have hown : s.vm.findClass RX10 = some m.cls := findClass_of_methodNamed B.named
  have hlocks := B.notSynchronized
  subst hsz
  have hD := hD0.self (sz := s.heap.size)
  generalize hAe : va_A [] s.heap.size = A at hD ⊢
  have hA : ∀ q : Nat, s.heap.size ≤ q → A q := fun q h => by rw [← hAe]; exact Or.inr h
  refine gstart (fun H locs hHe hLe => ?_)
  have hS : va_S A s.heap H locs := by rw [← hHe, ← hLe]; exact va_S.rf
  replace hP : va_P (dC, dI) vwCl [] H := by rw [← hHe]; exact hP
  clear hHe hLe
  have hl := lv_entry ([.int p0]) (n := 1) (Nat.le_of_ble_eq_true rfl)
  rw [lg_entry_eq]
  generalize (lg_sl ([.int p0]) ++ List.replicate (1 - (lg_sl ([.int p0])).length) Slot.unset).toArray = ls at hl ⊢
  replace hl : lv_has ls 1 [(0, .int p0)] := hl
  refine lv_iload_n hx hb dX10_isSheet_0 rfl (lv_at hl 0 rfl) ?_
  refine lv_i2l (v := p0.toInt64) hx hb dX10_isSheet_1 rfl ?_
  refine lv_lconst (v := 0) hx hb dX10_isSheet_2 (by decide) ?_
  refine lv_ldc2 (v := 3) hx hb hown (hts (.constantLong RX10 93 (3)) (List.mem_of_getElem? (i := 1) rfl)) dX10_isSheet_3 ?_
  refine gcalli (S := Unit) (wc := []) (wr := []) (w1 := fun _ => []) (va_runS (As := [.long (p0.toInt64), .long 0, .long 3]) (rest := []) ⟨hx, hb, hml, hown, hts⟩ (c_X10_in l dC dI cI cT cS H.size (p0.toInt64) 0 3 ) (va_cwS 3 hts (gWS (List.mem_of_getElem? (i := 2) rfl) (List.mem_of_getElem? (i := 3) rfl) (List.mem_of_getElem? (i := 4) rfl) ic_c_X10_isSheet_c_X10_in gd_c_X10_in) rfl rfl rfl (by decide +kernel) ⟨(Nat.le_of_ble_eq_true rfl), (Nat.le_of_ble_eq_true rfl)⟩) (gpS (hP.sub (ws' := []) [] rfl) hK (hD.sub (ws' := []) [] (by decide) rfl)) rfl rfl hl.1 rfl (lv_room (Nat.le_of_ble_eq_true rfl)) dX10_isSheet_6 ⟨(Nat.le_of_ble_eq_true rfl), (Nat.le_of_ble_eq_true rfl)⟩) hP hD hS hA [] [] rfl rfl (by decide) (by decide) (fun r_1 ur_1 H locs wr_1 hP hD hS => ?_)
  replace hP : va_P (dC, dI) vwCl [] H := hP
  replace hD : va_D A [] := hD
  refine W.widen (k := 0) (n := 0) (Nat.le_of_ble_eq_true rfl) (Nat.le_of_ble_eq_true rfl) ?_
  have hP9 := hP.sub (ws' := []) [] rfl
  have hD9 := hD.sub (ws' := []) [] (by decide) rfl
  exact W.zret (v := r_1) hx hb hr (by rw [wr_1]; split <;> rfl) (fun t ht hW => ⟨⟨r_1, (), rfl, by rw [wr_1]; simp only [← Int32.toInt_inj, Int32.lt_iff_toInt_lt, Int32.le_iff_toInt_le, ← Int64.toInt_inj, Int64.lt_iff_toInt_lt, Int64.le_iff_toInt_le, Int32.toInt_toInt64, (show (0 : Int32).toInt = 0 from rfl), (show (0 : Int64).toInt = 0 from rfl), (show (3 : Int64).toInt = 3 from rfl)], by rw [ht]; exact hP9, hD9⟩, hS.F ht⟩) hS.2.2 dX10_isSheet_9
def oc_X10_isRegister : List Cond := [.constantLong RX10 156 (7), .methodLink RX10 86 yX10_in, .static yX10_in, .initialized RX10]
def vc_X10_isRegister : List Cond := .code yX10_isRegister cX10_isRegister 1 (some .boolean) :: (oc_X10_isRegister ++ (vc_X10_in))
theorem ic_c_X10_isRegister_c_X10_in : ∀ w ∈ vc_X10_in, w ∈ vc_X10_isRegister := fun _ h => List.mem_cons_of_mem _ (List.mem_append_right _ (h))
theorem gd_c_X10_isRegister : (vc_X10_isRegister).all goodWord = true := by decide +kernel
set_option maxHeartbeats 4000000 in
set_option maxRecDepth 100000 in
theorem c_X10_isRegister (l : Launch) (dC : Nat → ClassId) (dI : Nat → Nat → Nat) (cI cT cS : ClassId) (sz : Nat) (p0 : Int32)  : gCI (S := Unit) l yX10_isRegister vc_X10_isRegister ({ frames := 1, cells := 0, slots := 0, locals := 25 }) (dC, dI) (gTY cI cT cS) sz [.int p0] [] (fun r u => r = if 0 ≤ p0.toInt ∧ p0.toInt ≤ 7 then 1 else 0) (fun _ => []) 0 0 := by
  refine Met.ofW (cc := cX10_isRegister) (maxL := 1) (ret := (some .boolean)) (by decide) rfl ?_
  intro p e s m args below meth c s₁ B hml hv
  obtain ⟨rfl, hsz, hP, hK, hD0⟩ := hv
  have hx := B.exec
  have hb := B.bytes
  have hr := B.returns
  have hts := atoms_spec (ws := vc_X10_isRegister) B.pre
  have hown : s.vm.findClass RX10 = some m.cls := findClass_of_methodNamed B.named
  have hlocks := B.notSynchronized
  subst hsz
  have hD := hD0.self (sz := s.heap.size)
  generalize hAe : va_A [] s.heap.size = A at hD ⊢
  have hA : ∀ q : Nat, s.heap.size ≤ q → A q := fun q h => by rw [← hAe]; exact Or.inr h
  refine gstart (fun H locs hHe hLe => ?_)
  have hS : va_S A s.heap H locs := by rw [← hHe, ← hLe]; exact va_S.rf
  replace hP : va_P (dC, dI) vwCl [] H := by rw [← hHe]; exact hP
  clear hHe hLe
  have hl := lv_entry ([.int p0]) (n := 1) (Nat.le_of_ble_eq_true rfl)
  rw [lg_entry_eq]
  generalize (lg_sl ([.int p0]) ++ List.replicate (1 - (lg_sl ([.int p0])).length) Slot.unset).toArray = ls at hl ⊢
  replace hl : lv_has ls 1 [(0, .int p0)] := hl
  refine lv_iload_n hx hb dX10_isRegister_0 rfl (lv_at hl 0 rfl) ?_
  refine lv_i2l (v := p0.toInt64) hx hb dX10_isRegister_1 rfl ?_
  refine lv_lconst (v := 0) hx hb dX10_isRegister_2 (by decide) ?_
  refine lv_ldc2 (v := 7) hx hb hown (hts (.constantLong RX10 156 (7)) (List.mem_of_getElem? (i := 1) rfl)) dX10_isRegister_3 ?_
  refine gcalli (S := Unit) (wc := []) (wr := []) (w1 := fun _ => []) (va_runS (As := [.long (p0.toInt64), .long 0, .long 7]) (rest := []) ⟨hx, hb, hml, hown, hts⟩ (c_X10_in l dC dI cI cT cS H.size (p0.toInt64) 0 7 ) (va_cwS 3 hts (gWS (List.mem_of_getElem? (i := 2) rfl) (List.mem_of_getElem? (i := 3) rfl) (List.mem_of_getElem? (i := 4) rfl) ic_c_X10_isRegister_c_X10_in gd_c_X10_in) rfl rfl rfl (by decide +kernel) ⟨(Nat.le_of_ble_eq_true rfl), (Nat.le_of_ble_eq_true rfl)⟩) (gpS (hP.sub (ws' := []) [] rfl) hK (hD.sub (ws' := []) [] (by decide) rfl)) rfl rfl hl.1 rfl (lv_room (Nat.le_of_ble_eq_true rfl)) dX10_isRegister_6 ⟨(Nat.le_of_ble_eq_true rfl), (Nat.le_of_ble_eq_true rfl)⟩) hP hD hS hA [] [] rfl rfl (by decide) (by decide) (fun r_1 ur_1 H locs wr_1 hP hD hS => ?_)
  replace hP : va_P (dC, dI) vwCl [] H := hP
  replace hD : va_D A [] := hD
  refine W.widen (k := 0) (n := 0) (Nat.le_of_ble_eq_true rfl) (Nat.le_of_ble_eq_true rfl) ?_
  have hP9 := hP.sub (ws' := []) [] rfl
  have hD9 := hD.sub (ws' := []) [] (by decide) rfl
  exact W.zret (v := r_1) hx hb hr (by rw [wr_1]; split <;> rfl) (fun t ht hW => ⟨⟨r_1, (), rfl, by rw [wr_1]; simp only [← Int32.toInt_inj, Int32.lt_iff_toInt_lt, Int32.le_iff_toInt_le, ← Int64.toInt_inj, Int64.lt_iff_toInt_lt, Int64.le_iff_toInt_le, Int32.toInt_toInt64, (show (0 : Int32).toInt = 0 from rfl), (show (0 : Int64).toInt = 0 from rfl), (show (7 : Int64).toInt = 7 from rfl)], by rw [ht]; exact hP9, hD9⟩, hS.F ht⟩) hS.2.2 dX10_isRegister_9
def oc_X10_isCode : List Cond := [.constantLong RX10 148 (9), .methodLink RX10 86 yX10_in, .static yX10_in, .initialized RX10, .constantLong RX10 150 (23), .constantLong RX10 152 (-30000), .constantLong RX10 154 (30000), .constantLong RX10 156 (7)]
def vc_X10_isCode : List Cond := .code yX10_isCode cX10_isCode 4 (some .boolean) :: (oc_X10_isCode ++ (vc_X10_in))
theorem ic_c_X10_isCode_c_X10_in : ∀ w ∈ vc_X10_in, w ∈ vc_X10_isCode := fun _ h => List.mem_cons_of_mem _ (List.mem_append_right _ (h))
theorem gd_c_X10_isCode : (vc_X10_isCode).all goodWord = true := by decide +kernel
set_option maxHeartbeats 4000000 in
set_option maxRecDepth 100000 in
theorem c_X10_isCode (l : Launch) (dC : Nat → ClassId) (dI : Nat → Nat → Nat) (cI cT cS : ClassId) (sz : Nat) (p0 : Int32) (p1 : Int32) (p2 : Int32) (p3 : Int32)  : gCI (S := Unit) l yX10_isCode vc_X10_isCode ({ frames := 1, cells := 0, slots := 0, locals := 25 }) (dC, dI) (gTY cI cT cS) sz [.int p0, .int p1, .int p2, .int p3] [] (fun r u => r = if 0 ≤ p0.toInt ∧ p0.toInt ≤ 9 ∧ 0 ≤ p1.toInt ∧ p1.toInt ≤ 23 ∧ -30000 ≤ p2.toInt ∧ p2.toInt ≤ 30000 ∧ 0 ≤ p3.toInt ∧ p3.toInt ≤ 7 then 1 else 0) (fun _ => []) 0 0 := by
  refine Met.ofW (cc := cX10_isCode) (maxL := 4) (ret := (some .boolean)) (by decide) rfl ?_
  intro p e s m args below meth c s₁ B hml hv
  obtain ⟨rfl, hsz, hP, hK, hD0⟩ := hv
  have hx := B.exec
  have hb := B.bytes
  have hr := B.returns
  have hts := atoms_spec (ws := vc_X10_isCode) B.pre
  have hown : s.vm.findClass RX10 = some m.cls := findClass_of_methodNamed B.named
  have hlocks := B.notSynchronized
  subst hsz
  have hD := hD0.self (sz := s.heap.size)
  generalize hAe : va_A [] s.heap.size = A at hD ⊢
  have hA : ∀ q : Nat, s.heap.size ≤ q → A q := fun q h => by rw [← hAe]; exact Or.inr h
  refine gstart (fun H locs hHe hLe => ?_)
  have hS : va_S A s.heap H locs := by rw [← hHe, ← hLe]; exact va_S.rf
  replace hP : va_P (dC, dI) vwCl [] H := by rw [← hHe]; exact hP
  clear hHe hLe
  have hl := lv_entry ([.int p0, .int p1, .int p2, .int p3]) (n := 4) (Nat.le_of_ble_eq_true rfl)
  rw [lg_entry_eq]
  generalize (lg_sl ([.int p0, .int p1, .int p2, .int p3]) ++ List.replicate (4 - (lg_sl ([.int p0, .int p1, .int p2, .int p3])).length) Slot.unset).toArray = ls at hl ⊢
  replace hl : lv_has ls 4 [(0, .int p0), (1, .int p1), (2, .int p2), (3, .int p3)] := hl
  refine lv_iload_n hx hb dX10_isCode_0 rfl (lv_at hl 0 rfl) ?_
  refine lv_i2l (v := p0.toInt64) hx hb dX10_isCode_1 rfl ?_
  refine lv_lconst (v := 0) hx hb dX10_isCode_2 (by decide) ?_
  refine lv_ldc2 (v := 9) hx hb hown (hts (.constantLong RX10 148 (9)) (List.mem_of_getElem? (i := 1) rfl)) dX10_isCode_3 ?_
  refine gcalli (S := Unit) (wc := []) (wr := []) (w1 := fun _ => []) (va_runS (As := [.long (p0.toInt64), .long 0, .long 9]) (rest := []) ⟨hx, hb, hml, hown, hts⟩ (c_X10_in l dC dI cI cT cS H.size (p0.toInt64) 0 9 ) (va_cwS 3 hts (gWS (List.mem_of_getElem? (i := 2) rfl) (List.mem_of_getElem? (i := 3) rfl) (List.mem_of_getElem? (i := 4) rfl) ic_c_X10_isCode_c_X10_in gd_c_X10_in) rfl rfl rfl (by decide +kernel) ⟨(Nat.le_of_ble_eq_true rfl), (Nat.le_of_ble_eq_true rfl)⟩) (gpS (hP.sub (ws' := []) [] rfl) hK (hD.sub (ws' := []) [] (by decide) rfl)) rfl rfl hl.1 rfl (lv_room (Nat.le_of_ble_eq_true rfl)) dX10_isCode_6 ⟨(Nat.le_of_ble_eq_true rfl), (Nat.le_of_ble_eq_true rfl)⟩) hP hD hS hA [] [] rfl rfl (by decide) (by decide) (fun r_1 ur_1 H locs wr_1 hP hD hS => ?_)
  replace hP : va_P (dC, dI) vwCl [] H := hP
  replace hD : va_D A [] := hD
  refine lv_if_eq (tgt := 54) hx hb dX10_isCode_9 (by decide) (fun c_2 => ?_) (fun c_2 => ?_)
  · skip
    have f_3 := g_ite0 wr_1 c_2
    refine lv_iconst (v := 0) hx hb dX10_isCode_54 (by decide) ?_
    refine W.widen (k := 0) (n := 0) (Nat.le_of_ble_eq_true rfl) (Nat.le_of_ble_eq_true rfl) ?_
    have hP9 := hP.sub (ws' := []) [] rfl
    have hD9 := hD.sub (ws' := []) [] (by decide) rfl
    exact W.zret (v := 0) hx hb hr rfl (fun t ht hW => ⟨⟨0, (), rfl, (if_neg (by (try simp only [← Int32.toInt_inj, Int32.lt_iff_toInt_lt, Int32.le_iff_toInt_le, ← Int64.toInt_inj, Int64.lt_iff_toInt_lt, Int64.le_iff_toInt_le, Int32.toInt_toInt64, (show (0 : Int32).toInt = 0 from rfl), (show (1 : Int32).toInt = 1 from rfl), (show ((-30000) : Int64).toInt = (-30000) from rfl), (show (0 : Int64).toInt = 0 from rfl), (show (7 : Int64).toInt = 7 from rfl), (show (9 : Int64).toInt = 9 from rfl), (show (23 : Int64).toInt = 23 from rfl), (show (30000 : Int64).toInt = 30000 from rfl)] at c_2); (try simp only [← Int32.toInt_inj, Int32.lt_iff_toInt_lt, Int32.le_iff_toInt_le, ← Int64.toInt_inj, Int64.lt_iff_toInt_lt, Int64.le_iff_toInt_le, Int32.toInt_toInt64, (show (0 : Int32).toInt = 0 from rfl), (show (1 : Int32).toInt = 1 from rfl), (show ((-30000) : Int64).toInt = (-30000) from rfl), (show (0 : Int64).toInt = 0 from rfl), (show (7 : Int64).toInt = 7 from rfl), (show (9 : Int64).toInt = 9 from rfl), (show (23 : Int64).toInt = 23 from rfl), (show (30000 : Int64).toInt = 30000 from rfl)] at f_3); omega)).symm, by rw [ht]; exact hP9, hD9⟩, hS.F ht⟩) hS.2.2 dX10_isCode_55
  · skip
    have f_4 := g_ite1 wr_1 c_2
    refine lv_iload_n hx hb dX10_isCode_12 rfl (lv_at hl 1 rfl) ?_
    refine lv_i2l (v := p1.toInt64) hx hb dX10_isCode_13 rfl ?_
    refine lv_lconst (v := 0) hx hb dX10_isCode_14 (by decide) ?_
    refine lv_ldc2 (v := 23) hx hb hown (hts (.constantLong RX10 150 (23)) (List.mem_of_getElem? (i := 5) rfl)) dX10_isCode_15 ?_
    refine gcalli (S := Unit) (wc := []) (wr := []) (w1 := fun _ => []) (va_runS (As := [.long (p1.toInt64), .long 0, .long 23]) (rest := []) ⟨hx, hb, hml, hown, hts⟩ (c_X10_in l dC dI cI cT cS H.size (p1.toInt64) 0 23 ) (va_cwS 3 hts (gWS (List.mem_of_getElem? (i := 2) rfl) (List.mem_of_getElem? (i := 3) rfl) (List.mem_of_getElem? (i := 4) rfl) ic_c_X10_isCode_c_X10_in gd_c_X10_in) rfl rfl rfl (by decide +kernel) ⟨(Nat.le_of_ble_eq_true rfl), (Nat.le_of_ble_eq_true rfl)⟩) (gpS (hP.sub (ws' := []) [] rfl) hK (hD.sub (ws' := []) [] (by decide) rfl)) rfl rfl hl.1 rfl (lv_room (Nat.le_of_ble_eq_true rfl)) dX10_isCode_18 ⟨(Nat.le_of_ble_eq_true rfl), (Nat.le_of_ble_eq_true rfl)⟩) hP hD hS hA [] [] rfl rfl (by decide) (by decide) (fun r_5 ur_5 H locs wr_5 hP hD hS => ?_)
    replace hP : va_P (dC, dI) vwCl [] H := hP
    replace hD : va_D A [] := hD
    refine lv_if_eq (tgt := 54) hx hb dX10_isCode_21 (by decide) (fun c_6 => ?_) (fun c_6 => ?_)
    · skip
      have f_7 := g_ite0 wr_5 c_6
      refine lv_iconst (v := 0) hx hb dX10_isCode_54 (by decide) ?_
      refine W.widen (k := 0) (n := 0) (Nat.le_of_ble_eq_true rfl) (Nat.le_of_ble_eq_true rfl) ?_
      have hP9 := hP.sub (ws' := []) [] rfl
      have hD9 := hD.sub (ws' := []) [] (by decide) rfl
      exact W.zret (v := 0) hx hb hr rfl (fun t ht hW => ⟨⟨0, (), rfl, (if_neg (by (try simp only [← Int32.toInt_inj, Int32.lt_iff_toInt_lt, Int32.le_iff_toInt_le, ← Int64.toInt_inj, Int64.lt_iff_toInt_lt, Int64.le_iff_toInt_le, Int32.toInt_toInt64, (show (0 : Int32).toInt = 0 from rfl), (show (1 : Int32).toInt = 1 from rfl), (show ((-30000) : Int64).toInt = (-30000) from rfl), (show (0 : Int64).toInt = 0 from rfl), (show (7 : Int64).toInt = 7 from rfl), (show (9 : Int64).toInt = 9 from rfl), (show (23 : Int64).toInt = 23 from rfl), (show (30000 : Int64).toInt = 30000 from rfl)] at c_2); (try simp only [← Int32.toInt_inj, Int32.lt_iff_toInt_lt, Int32.le_iff_toInt_le, ← Int64.toInt_inj, Int64.lt_iff_toInt_lt, Int64.le_iff_toInt_le, Int32.toInt_toInt64, (show (0 : Int32).toInt = 0 from rfl), (show (1 : Int32).toInt = 1 from rfl), (show ((-30000) : Int64).toInt = (-30000) from rfl), (show (0 : Int64).toInt = 0 from rfl), (show (7 : Int64).toInt = 7 from rfl), (show (9 : Int64).toInt = 9 from rfl), (show (23 : Int64).toInt = 23 from rfl), (show (30000 : Int64).toInt = 30000 from rfl)] at f_4); (try simp only [← Int32.toInt_inj, Int32.lt_iff_toInt_lt, Int32.le_iff_toInt_le, ← Int64.toInt_inj, Int64.lt_iff_toInt_lt, Int64.le_iff_toInt_le, Int32.toInt_toInt64, (show (0 : Int32).toInt = 0 from rfl), (show (1 : Int32).toInt = 1 from rfl), (show ((-30000) : Int64).toInt = (-30000) from rfl), (show (0 : Int64).toInt = 0 from rfl), (show (7 : Int64).toInt = 7 from rfl), (show (9 : Int64).toInt = 9 from rfl), (show (23 : Int64).toInt = 23 from rfl), (show (30000 : Int64).toInt = 30000 from rfl)] at c_6); (try simp only [← Int32.toInt_inj, Int32.lt_iff_toInt_lt, Int32.le_iff_toInt_le, ← Int64.toInt_inj, Int64.lt_iff_toInt_lt, Int64.le_iff_toInt_le, Int32.toInt_toInt64, (show (0 : Int32).toInt = 0 from rfl), (show (1 : Int32).toInt = 1 from rfl), (show ((-30000) : Int64).toInt = (-30000) from rfl), (show (0 : Int64).toInt = 0 from rfl), (show (7 : Int64).toInt = 7 from rfl), (show (9 : Int64).toInt = 9 from rfl), (show (23 : Int64).toInt = 23 from rfl), (show (30000 : Int64).toInt = 30000 from rfl)] at f_7); omega)).symm, by rw [ht]; exact hP9, hD9⟩, hS.F ht⟩) hS.2.2 dX10_isCode_55
    · skip
      have f_8 := g_ite1 wr_5 c_6
      refine lv_iload_n hx hb dX10_isCode_24 rfl (lv_at hl 2 rfl) ?_
      refine lv_i2l (v := p2.toInt64) hx hb dX10_isCode_25 rfl ?_
      refine lv_ldc2 (v := (-30000)) hx hb hown (hts (.constantLong RX10 152 (-30000)) (List.mem_of_getElem? (i := 6) rfl)) dX10_isCode_26 ?_
      refine lv_ldc2 (v := 30000) hx hb hown (hts (.constantLong RX10 154 (30000)) (List.mem_of_getElem? (i := 7) rfl)) dX10_isCode_29 ?_
      refine gcalli (S := Unit) (wc := []) (wr := []) (w1 := fun _ => []) (va_runS (As := [.long (p2.toInt64), .long (-30000), .long 30000]) (rest := []) ⟨hx, hb, hml, hown, hts⟩ (c_X10_in l dC dI cI cT cS H.size (p2.toInt64) (-30000) 30000 ) (va_cwS 3 hts (gWS (List.mem_of_getElem? (i := 2) rfl) (List.mem_of_getElem? (i := 3) rfl) (List.mem_of_getElem? (i := 4) rfl) ic_c_X10_isCode_c_X10_in gd_c_X10_in) rfl rfl rfl (by decide +kernel) ⟨(Nat.le_of_ble_eq_true rfl), (Nat.le_of_ble_eq_true rfl)⟩) (gpS (hP.sub (ws' := []) [] rfl) hK (hD.sub (ws' := []) [] (by decide) rfl)) rfl rfl hl.1 rfl (lv_room (Nat.le_of_ble_eq_true rfl)) dX10_isCode_32 ⟨(Nat.le_of_ble_eq_true rfl), (Nat.le_of_ble_eq_true rfl)⟩) hP hD hS hA [] [] rfl rfl (by decide) (by decide) (fun r_9 ur_9 H locs wr_9 hP hD hS => ?_)
      replace hP : va_P (dC, dI) vwCl [] H := hP
      replace hD : va_D A [] := hD
      refine lv_if_eq (tgt := 54) hx hb dX10_isCode_35 (by decide) (fun c_10 => ?_) (fun c_10 => ?_)
      · skip
        have f_11 := g_ite0 wr_9 c_10
        refine lv_iconst (v := 0) hx hb dX10_isCode_54 (by decide) ?_
        refine W.widen (k := 0) (n := 0) (Nat.le_of_ble_eq_true rfl) (Nat.le_of_ble_eq_true rfl) ?_
        have hP9 := hP.sub (ws' := []) [] rfl
        have hD9 := hD.sub (ws' := []) [] (by decide) rfl
        exact W.zret (v := 0) hx hb hr rfl (fun t ht hW => ⟨⟨0, (), rfl, (if_neg (by (try simp only [← Int32.toInt_inj, Int32.lt_iff_toInt_lt, Int32.le_iff_toInt_le, ← Int64.toInt_inj, Int64.lt_iff_toInt_lt, Int64.le_iff_toInt_le, Int32.toInt_toInt64, (show (0 : Int32).toInt = 0 from rfl), (show (1 : Int32).toInt = 1 from rfl), (show ((-30000) : Int64).toInt = (-30000) from rfl), (show (0 : Int64).toInt = 0 from rfl), (show (7 : Int64).toInt = 7 from rfl), (show (9 : Int64).toInt = 9 from rfl), (show (23 : Int64).toInt = 23 from rfl), (show (30000 : Int64).toInt = 30000 from rfl)] at c_2); (try simp only [← Int32.toInt_inj, Int32.lt_iff_toInt_lt, Int32.le_iff_toInt_le, ← Int64.toInt_inj, Int64.lt_iff_toInt_lt, Int64.le_iff_toInt_le, Int32.toInt_toInt64, (show (0 : Int32).toInt = 0 from rfl), (show (1 : Int32).toInt = 1 from rfl), (show ((-30000) : Int64).toInt = (-30000) from rfl), (show (0 : Int64).toInt = 0 from rfl), (show (7 : Int64).toInt = 7 from rfl), (show (9 : Int64).toInt = 9 from rfl), (show (23 : Int64).toInt = 23 from rfl), (show (30000 : Int64).toInt = 30000 from rfl)] at f_4); (try simp only [← Int32.toInt_inj, Int32.lt_iff_toInt_lt, Int32.le_iff_toInt_le, ← Int64.toInt_inj, Int64.lt_iff_toInt_lt, Int64.le_iff_toInt_le, Int32.toInt_toInt64, (show (0 : Int32).toInt = 0 from rfl), (show (1 : Int32).toInt = 1 from rfl), (show ((-30000) : Int64).toInt = (-30000) from rfl), (show (0 : Int64).toInt = 0 from rfl), (show (7 : Int64).toInt = 7 from rfl), (show (9 : Int64).toInt = 9 from rfl), (show (23 : Int64).toInt = 23 from rfl), (show (30000 : Int64).toInt = 30000 from rfl)] at c_6); (try simp only [← Int32.toInt_inj, Int32.lt_iff_toInt_lt, Int32.le_iff_toInt_le, ← Int64.toInt_inj, Int64.lt_iff_toInt_lt, Int64.le_iff_toInt_le, Int32.toInt_toInt64, (show (0 : Int32).toInt = 0 from rfl), (show (1 : Int32).toInt = 1 from rfl), (show ((-30000) : Int64).toInt = (-30000) from rfl), (show (0 : Int64).toInt = 0 from rfl), (show (7 : Int64).toInt = 7 from rfl), (show (9 : Int64).toInt = 9 from rfl), (show (23 : Int64).toInt = 23 from rfl), (show (30000 : Int64).toInt = 30000 from rfl)] at f_8); (try simp only [← Int32.toInt_inj, Int32.lt_iff_toInt_lt, Int32.le_iff_toInt_le, ← Int64.toInt_inj, Int64.lt_iff_toInt_lt, Int64.le_iff_toInt_le, Int32.toInt_toInt64, (show (0 : Int32).toInt = 0 from rfl), (show (1 : Int32).toInt = 1 from rfl), (show ((-30000) : Int64).toInt = (-30000) from rfl), (show (0 : Int64).toInt = 0 from rfl), (show (7 : Int64).toInt = 7 from rfl), (show (9 : Int64).toInt = 9 from rfl), (show (23 : Int64).toInt = 23 from rfl), (show (30000 : Int64).toInt = 30000 from rfl)] at c_10); (try simp only [← Int32.toInt_inj, Int32.lt_iff_toInt_lt, Int32.le_iff_toInt_le, ← Int64.toInt_inj, Int64.lt_iff_toInt_lt, Int64.le_iff_toInt_le, Int32.toInt_toInt64, (show (0 : Int32).toInt = 0 from rfl), (show (1 : Int32).toInt = 1 from rfl), (show ((-30000) : Int64).toInt = (-30000) from rfl), (show (0 : Int64).toInt = 0 from rfl), (show (7 : Int64).toInt = 7 from rfl), (show (9 : Int64).toInt = 9 from rfl), (show (23 : Int64).toInt = 23 from rfl), (show (30000 : Int64).toInt = 30000 from rfl)] at f_11); omega)).symm, by rw [ht]; exact hP9, hD9⟩, hS.F ht⟩) hS.2.2 dX10_isCode_55
      · skip
        have f_12 := g_ite1 wr_9 c_10
        refine lv_iload_n hx hb dX10_isCode_38 rfl (lv_at hl 3 rfl) ?_
        refine lv_i2l (v := p3.toInt64) hx hb dX10_isCode_39 rfl ?_
        refine lv_lconst (v := 0) hx hb dX10_isCode_40 (by decide) ?_
        refine lv_ldc2 (v := 7) hx hb hown (hts (.constantLong RX10 156 (7)) (List.mem_of_getElem? (i := 8) rfl)) dX10_isCode_41 ?_
        refine gcalli (S := Unit) (wc := []) (wr := []) (w1 := fun _ => []) (va_runS (As := [.long (p3.toInt64), .long 0, .long 7]) (rest := []) ⟨hx, hb, hml, hown, hts⟩ (c_X10_in l dC dI cI cT cS H.size (p3.toInt64) 0 7 ) (va_cwS 3 hts (gWS (List.mem_of_getElem? (i := 2) rfl) (List.mem_of_getElem? (i := 3) rfl) (List.mem_of_getElem? (i := 4) rfl) ic_c_X10_isCode_c_X10_in gd_c_X10_in) rfl rfl rfl (by decide +kernel) ⟨(Nat.le_of_ble_eq_true rfl), (Nat.le_of_ble_eq_true rfl)⟩) (gpS (hP.sub (ws' := []) [] rfl) hK (hD.sub (ws' := []) [] (by decide) rfl)) rfl rfl hl.1 rfl (lv_room (Nat.le_of_ble_eq_true rfl)) dX10_isCode_44 ⟨(Nat.le_of_ble_eq_true rfl), (Nat.le_of_ble_eq_true rfl)⟩) hP hD hS hA [] [] rfl rfl (by decide) (by decide) (fun r_13 ur_13 H locs wr_13 hP hD hS => ?_)
        replace hP : va_P (dC, dI) vwCl [] H := hP
        replace hD : va_D A [] := hD
        refine lv_if_eq (tgt := 54) hx hb dX10_isCode_47 (by decide) (fun c_14 => ?_) (fun c_14 => ?_)
        · skip
          have f_15 := g_ite0 wr_13 c_14
          refine lv_iconst (v := 0) hx hb dX10_isCode_54 (by decide) ?_
          refine W.widen (k := 0) (n := 0) (Nat.le_of_ble_eq_true rfl) (Nat.le_of_ble_eq_true rfl) ?_
          have hP9 := hP.sub (ws' := []) [] rfl
          have hD9 := hD.sub (ws' := []) [] (by decide) rfl
          exact W.zret (v := 0) hx hb hr rfl (fun t ht hW => ⟨⟨0, (), rfl, (if_neg (by (try simp only [← Int32.toInt_inj, Int32.lt_iff_toInt_lt, Int32.le_iff_toInt_le, ← Int64.toInt_inj, Int64.lt_iff_toInt_lt, Int64.le_iff_toInt_le, Int32.toInt_toInt64, (show (0 : Int32).toInt = 0 from rfl), (show (1 : Int32).toInt = 1 from rfl), (show ((-30000) : Int64).toInt = (-30000) from rfl), (show (0 : Int64).toInt = 0 from rfl), (show (7 : Int64).toInt = 7 from rfl), (show (9 : Int64).toInt = 9 from rfl), (show (23 : Int64).toInt = 23 from rfl), (show (30000 : Int64).toInt = 30000 from rfl)] at c_2); (try simp only [← Int32.toInt_inj, Int32.lt_iff_toInt_lt, Int32.le_iff_toInt_le, ← Int64.toInt_inj, Int64.lt_iff_toInt_lt, Int64.le_iff_toInt_le, Int32.toInt_toInt64, (show (0 : Int32).toInt = 0 from rfl), (show (1 : Int32).toInt = 1 from rfl), (show ((-30000) : Int64).toInt = (-30000) from rfl), (show (0 : Int64).toInt = 0 from rfl), (show (7 : Int64).toInt = 7 from rfl), (show (9 : Int64).toInt = 9 from rfl), (show (23 : Int64).toInt = 23 from rfl), (show (30000 : Int64).toInt = 30000 from rfl)] at f_4); (try simp only [← Int32.toInt_inj, Int32.lt_iff_toInt_lt, Int32.le_iff_toInt_le, ← Int64.toInt_inj, Int64.lt_iff_toInt_lt, Int64.le_iff_toInt_le, Int32.toInt_toInt64, (show (0 : Int32).toInt = 0 from rfl), (show (1 : Int32).toInt = 1 from rfl), (show ((-30000) : Int64).toInt = (-30000) from rfl), (show (0 : Int64).toInt = 0 from rfl), (show (7 : Int64).toInt = 7 from rfl), (show (9 : Int64).toInt = 9 from rfl), (show (23 : Int64).toInt = 23 from rfl), (show (30000 : Int64).toInt = 30000 from rfl)] at c_6); (try simp only [← Int32.toInt_inj, Int32.lt_iff_toInt_lt, Int32.le_iff_toInt_le, ← Int64.toInt_inj, Int64.lt_iff_toInt_lt, Int64.le_iff_toInt_le, Int32.toInt_toInt64, (show (0 : Int32).toInt = 0 from rfl), (show (1 : Int32).toInt = 1 from rfl), (show ((-30000) : Int64).toInt = (-30000) from rfl), (show (0 : Int64).toInt = 0 from rfl), (show (7 : Int64).toInt = 7 from rfl), (show (9 : Int64).toInt = 9 from rfl), (show (23 : Int64).toInt = 23 from rfl), (show (30000 : Int64).toInt = 30000 from rfl)] at f_8); (try simp only [← Int32.toInt_inj, Int32.lt_iff_toInt_lt, Int32.le_iff_toInt_le, ← Int64.toInt_inj, Int64.lt_iff_toInt_lt, Int64.le_iff_toInt_le, Int32.toInt_toInt64, (show (0 : Int32).toInt = 0 from rfl), (show (1 : Int32).toInt = 1 from rfl), (show ((-30000) : Int64).toInt = (-30000) from rfl), (show (0 : Int64).toInt = 0 from rfl), (show (7 : Int64).toInt = 7 from rfl), (show (9 : Int64).toInt = 9 from rfl), (show (23 : Int64).toInt = 23 from rfl), (show (30000 : Int64).toInt = 30000 from rfl)] at c_10); (try simp only [← Int32.toInt_inj, Int32.lt_iff_toInt_lt, Int32.le_iff_toInt_le, ← Int64.toInt_inj, Int64.lt_iff_toInt_lt, Int64.le_iff_toInt_le, Int32.toInt_toInt64, (show (0 : Int32).toInt = 0 from rfl), (show (1 : Int32).toInt = 1 from rfl), (show ((-30000) : Int64).toInt = (-30000) from rfl), (show (0 : Int64).toInt = 0 from rfl), (show (7 : Int64).toInt = 7 from rfl), (show (9 : Int64).toInt = 9 from rfl), (show (23 : Int64).toInt = 23 from rfl), (show (30000 : Int64).toInt = 30000 from rfl)] at f_12); (try simp only [← Int32.toInt_inj, Int32.lt_iff_toInt_lt, Int32.le_iff_toInt_le, ← Int64.toInt_inj, Int64.lt_iff_toInt_lt, Int64.le_iff_toInt_le, Int32.toInt_toInt64, (show (0 : Int32).toInt = 0 from rfl), (show (1 : Int32).toInt = 1 from rfl), (show ((-30000) : Int64).toInt = (-30000) from rfl), (show (0 : Int64).toInt = 0 from rfl), (show (7 : Int64).toInt = 7 from rfl), (show (9 : Int64).toInt = 9 from rfl), (show (23 : Int64).toInt = 23 from rfl), (show (30000 : Int64).toInt = 30000 from rfl)] at c_14); (try simp only [← Int32.toInt_inj, Int32.lt_iff_toInt_lt, Int32.le_iff_toInt_le, ← Int64.toInt_inj, Int64.lt_iff_toInt_lt, Int64.le_iff_toInt_le, Int32.toInt_toInt64, (show (0 : Int32).toInt = 0 from rfl), (show (1 : Int32).toInt = 1 from rfl), (show ((-30000) : Int64).toInt = (-30000) from rfl), (show (0 : Int64).toInt = 0 from rfl), (show (7 : Int64).toInt = 7 from rfl), (show (9 : Int64).toInt = 9 from rfl), (show (23 : Int64).toInt = 23 from rfl), (show (30000 : Int64).toInt = 30000 from rfl)] at f_15); omega)).symm, by rw [ht]; exact hP9, hD9⟩, hS.F ht⟩) hS.2.2 dX10_isCode_55
        · skip
          have f_16 := g_ite1 wr_13 c_14
          refine lv_iconst (v := 1) hx hb dX10_isCode_50 (by decide) ?_
          refine lv_goto (tgt := 55) hx hb dX10_isCode_51 (by decide) ?_
          refine W.widen (k := 0) (n := 0) (Nat.le_of_ble_eq_true rfl) (Nat.le_of_ble_eq_true rfl) ?_
          have hP9 := hP.sub (ws' := []) [] rfl
          have hD9 := hD.sub (ws' := []) [] (by decide) rfl
          exact W.zret (v := 1) hx hb hr rfl (fun t ht hW => ⟨⟨1, (), rfl, (if_pos (by (try simp only [← Int32.toInt_inj, Int32.lt_iff_toInt_lt, Int32.le_iff_toInt_le, ← Int64.toInt_inj, Int64.lt_iff_toInt_lt, Int64.le_iff_toInt_le, Int32.toInt_toInt64, (show (0 : Int32).toInt = 0 from rfl), (show (1 : Int32).toInt = 1 from rfl), (show ((-30000) : Int64).toInt = (-30000) from rfl), (show (0 : Int64).toInt = 0 from rfl), (show (7 : Int64).toInt = 7 from rfl), (show (9 : Int64).toInt = 9 from rfl), (show (23 : Int64).toInt = 23 from rfl), (show (30000 : Int64).toInt = 30000 from rfl)] at c_2); (try simp only [← Int32.toInt_inj, Int32.lt_iff_toInt_lt, Int32.le_iff_toInt_le, ← Int64.toInt_inj, Int64.lt_iff_toInt_lt, Int64.le_iff_toInt_le, Int32.toInt_toInt64, (show (0 : Int32).toInt = 0 from rfl), (show (1 : Int32).toInt = 1 from rfl), (show ((-30000) : Int64).toInt = (-30000) from rfl), (show (0 : Int64).toInt = 0 from rfl), (show (7 : Int64).toInt = 7 from rfl), (show (9 : Int64).toInt = 9 from rfl), (show (23 : Int64).toInt = 23 from rfl), (show (30000 : Int64).toInt = 30000 from rfl)] at f_4); (try simp only [← Int32.toInt_inj, Int32.lt_iff_toInt_lt, Int32.le_iff_toInt_le, ← Int64.toInt_inj, Int64.lt_iff_toInt_lt, Int64.le_iff_toInt_le, Int32.toInt_toInt64, (show (0 : Int32).toInt = 0 from rfl), (show (1 : Int32).toInt = 1 from rfl), (show ((-30000) : Int64).toInt = (-30000) from rfl), (show (0 : Int64).toInt = 0 from rfl), (show (7 : Int64).toInt = 7 from rfl), (show (9 : Int64).toInt = 9 from rfl), (show (23 : Int64).toInt = 23 from rfl), (show (30000 : Int64).toInt = 30000 from rfl)] at c_6); (try simp only [← Int32.toInt_inj, Int32.lt_iff_toInt_lt, Int32.le_iff_toInt_le, ← Int64.toInt_inj, Int64.lt_iff_toInt_lt, Int64.le_iff_toInt_le, Int32.toInt_toInt64, (show (0 : Int32).toInt = 0 from rfl), (show (1 : Int32).toInt = 1 from rfl), (show ((-30000) : Int64).toInt = (-30000) from rfl), (show (0 : Int64).toInt = 0 from rfl), (show (7 : Int64).toInt = 7 from rfl), (show (9 : Int64).toInt = 9 from rfl), (show (23 : Int64).toInt = 23 from rfl), (show (30000 : Int64).toInt = 30000 from rfl)] at f_8); (try simp only [← Int32.toInt_inj, Int32.lt_iff_toInt_lt, Int32.le_iff_toInt_le, ← Int64.toInt_inj, Int64.lt_iff_toInt_lt, Int64.le_iff_toInt_le, Int32.toInt_toInt64, (show (0 : Int32).toInt = 0 from rfl), (show (1 : Int32).toInt = 1 from rfl), (show ((-30000) : Int64).toInt = (-30000) from rfl), (show (0 : Int64).toInt = 0 from rfl), (show (7 : Int64).toInt = 7 from rfl), (show (9 : Int64).toInt = 9 from rfl), (show (23 : Int64).toInt = 23 from rfl), (show (30000 : Int64).toInt = 30000 from rfl)] at c_10); (try simp only [← Int32.toInt_inj, Int32.lt_iff_toInt_lt, Int32.le_iff_toInt_le, ← Int64.toInt_inj, Int64.lt_iff_toInt_lt, Int64.le_iff_toInt_le, Int32.toInt_toInt64, (show (0 : Int32).toInt = 0 from rfl), (show (1 : Int32).toInt = 1 from rfl), (show ((-30000) : Int64).toInt = (-30000) from rfl), (show (0 : Int64).toInt = 0 from rfl), (show (7 : Int64).toInt = 7 from rfl), (show (9 : Int64).toInt = 9 from rfl), (show (23 : Int64).toInt = 23 from rfl), (show (30000 : Int64).toInt = 30000 from rfl)] at f_12); (try simp only [← Int32.toInt_inj, Int32.lt_iff_toInt_lt, Int32.le_iff_toInt_le, ← Int64.toInt_inj, Int64.lt_iff_toInt_lt, Int64.le_iff_toInt_le, Int32.toInt_toInt64, (show (0 : Int32).toInt = 0 from rfl), (show (1 : Int32).toInt = 1 from rfl), (show ((-30000) : Int64).toInt = (-30000) from rfl), (show (0 : Int64).toInt = 0 from rfl), (show (7 : Int64).toInt = 7 from rfl), (show (9 : Int64).toInt = 9 from rfl), (show (23 : Int64).toInt = 23 from rfl), (show (30000 : Int64).toInt = 30000 from rfl)] at c_14); (try simp only [← Int32.toInt_inj, Int32.lt_iff_toInt_lt, Int32.le_iff_toInt_le, ← Int64.toInt_inj, Int64.lt_iff_toInt_lt, Int64.le_iff_toInt_le, Int32.toInt_toInt64, (show (0 : Int32).toInt = 0 from rfl), (show (1 : Int32).toInt = 1 from rfl), (show ((-30000) : Int64).toInt = (-30000) from rfl), (show (0 : Int64).toInt = 0 from rfl), (show (7 : Int64).toInt = 7 from rfl), (show (9 : Int64).toInt = 9 from rfl), (show (23 : Int64).toInt = 23 from rfl), (show (30000 : Int64).toInt = 30000 from rfl)] at f_16); omega)).symm, by rw [ht]; exact hP9, hD9⟩, hS.F ht⟩) hS.2.2 dX10_isCode_55
def oc_X10_greater : List Cond := []
def vc_X10_greater : List Cond := .code yX10_greater cX10_greater 2 (some .int) :: (oc_X10_greater)
theorem gd_c_X10_greater : (vc_X10_greater).all goodWord = true := by decide +kernel
set_option maxHeartbeats 4000000 in
set_option maxRecDepth 100000 in
theorem c_X10_greater (l : Launch) (dC : Nat → ClassId) (dI : Nat → Nat → Nat) (cI cT cS : ClassId) (sz : Nat) (p0 : Int32) (p1 : Int32)  : gCI (S := Unit) l yX10_greater vc_X10_greater ({ frames := 0, cells := 0, slots := 0, locals := 0 }) (dC, dI) (gTY cI cT cS) sz [.int p0, .int p1] [] (fun r u => r = p0 ∨ r = p1) (fun _ => []) 0 0 := by
  refine Met.ofW (cc := cX10_greater) (maxL := 2) (ret := (some .int)) (by decide) rfl ?_
  intro p e s m args below meth c s₁ B hml hv
  obtain ⟨rfl, hsz, hP, hK, hD0⟩ := hv
  have hx := B.exec
  have hb := B.bytes
  have hr := B.returns
  have hts := atoms_spec (ws := vc_X10_greater) B.pre
  have hown : s.vm.findClass RX10 = some m.cls := findClass_of_methodNamed B.named
  have hlocks := B.notSynchronized
  subst hsz
  have hD := hD0.self (sz := s.heap.size)
  generalize hAe : va_A [] s.heap.size = A at hD ⊢
  have hA : ∀ q : Nat, s.heap.size ≤ q → A q := fun q h => by rw [← hAe]; exact Or.inr h
  refine gstart (fun H locs hHe hLe => ?_)
  have hS : va_S A s.heap H locs := by rw [← hHe, ← hLe]; exact va_S.rf
  replace hP : va_P (dC, dI) vwCl [] H := by rw [← hHe]; exact hP
  clear hHe hLe
  have hl := lv_entry ([.int p0, .int p1]) (n := 2) (Nat.le_of_ble_eq_true rfl)
  rw [lg_entry_eq]
  generalize (lg_sl ([.int p0, .int p1]) ++ List.replicate (2 - (lg_sl ([.int p0, .int p1])).length) Slot.unset).toArray = ls at hl ⊢
  replace hl : lv_has ls 2 [(0, .int p0), (1, .int p1)] := hl
  refine lv_iload_n hx hb dX10_greater_0 rfl (lv_at hl 0 rfl) ?_
  refine lv_iload_n hx hb dX10_greater_1 rfl (lv_at hl 1 rfl) ?_
  refine lv_icmp_le (tgt := 9) hx hb dX10_greater_2 (by decide) (fun c_1 => ?_) (fun c_1 => ?_)
  · skip
    refine lv_iload_n hx hb dX10_greater_9 rfl (lv_at hl 1 rfl) ?_
    refine W.widen (k := 0) (n := 0) (Nat.le_of_ble_eq_true rfl) (Nat.le_of_ble_eq_true rfl) ?_
    have hP9 := hP.sub (ws' := []) [] rfl
    have hD9 := hD.sub (ws' := []) [] (by decide) rfl
    exact W.iret (v := p1) hx hb hr (fun t ht hW => ⟨⟨p1, (), rfl, Or.inr rfl, by rw [ht]; exact hP9, hD9⟩, hS.F ht⟩) hS.2.2 dX10_greater_10
  · skip
    refine lv_iload_n hx hb dX10_greater_5 rfl (lv_at hl 0 rfl) ?_
    refine lv_goto (tgt := 10) hx hb dX10_greater_6 (by decide) ?_
    refine W.widen (k := 0) (n := 0) (Nat.le_of_ble_eq_true rfl) (Nat.le_of_ble_eq_true rfl) ?_
    have hP9 := hP.sub (ws' := []) [] rfl
    have hD9 := hD.sub (ws' := []) [] (by decide) rfl
    exact W.iret (v := p0) hx hb hr (fun t ht hW => ⟨⟨p0, (), rfl, Or.inl rfl, by rw [ht]; exact hP9, hD9⟩, hS.F ht⟩) hS.2.2 dX10_greater_10
def oc_X10_lesser : List Cond := []
def vc_X10_lesser : List Cond := .code yX10_lesser cX10_lesser 2 (some .int) :: (oc_X10_lesser)
theorem gd_c_X10_lesser : (vc_X10_lesser).all goodWord = true := by decide +kernel
set_option maxHeartbeats 4000000 in
set_option maxRecDepth 100000 in
theorem c_X10_lesser (l : Launch) (dC : Nat → ClassId) (dI : Nat → Nat → Nat) (cI cT cS : ClassId) (sz : Nat) (p0 : Int32) (p1 : Int32)  : gCI (S := Unit) l yX10_lesser vc_X10_lesser ({ frames := 0, cells := 0, slots := 0, locals := 0 }) (dC, dI) (gTY cI cT cS) sz [.int p0, .int p1] [] (fun r u => r = p0 ∨ r = p1) (fun _ => []) 0 0 := by
  refine Met.ofW (cc := cX10_lesser) (maxL := 2) (ret := (some .int)) (by decide) rfl ?_
  intro p e s m args below meth c s₁ B hml hv
  obtain ⟨rfl, hsz, hP, hK, hD0⟩ := hv
  have hx := B.exec
  have hb := B.bytes
  have hr := B.returns
  have hts := atoms_spec (ws := vc_X10_lesser) B.pre
  have hown : s.vm.findClass RX10 = some m.cls := findClass_of_methodNamed B.named
  have hlocks := B.notSynchronized
  subst hsz
  have hD := hD0.self (sz := s.heap.size)
  generalize hAe : va_A [] s.heap.size = A at hD ⊢
  have hA : ∀ q : Nat, s.heap.size ≤ q → A q := fun q h => by rw [← hAe]; exact Or.inr h
  refine gstart (fun H locs hHe hLe => ?_)
  have hS : va_S A s.heap H locs := by rw [← hHe, ← hLe]; exact va_S.rf
  replace hP : va_P (dC, dI) vwCl [] H := by rw [← hHe]; exact hP
  clear hHe hLe
  have hl := lv_entry ([.int p0, .int p1]) (n := 2) (Nat.le_of_ble_eq_true rfl)
  rw [lg_entry_eq]
  generalize (lg_sl ([.int p0, .int p1]) ++ List.replicate (2 - (lg_sl ([.int p0, .int p1])).length) Slot.unset).toArray = ls at hl ⊢
  replace hl : lv_has ls 2 [(0, .int p0), (1, .int p1)] := hl
  refine lv_iload_n hx hb dX10_lesser_0 rfl (lv_at hl 0 rfl) ?_
  refine lv_iload_n hx hb dX10_lesser_1 rfl (lv_at hl 1 rfl) ?_
  refine lv_icmp_ge (tgt := 9) hx hb dX10_lesser_2 (by decide) (fun c_1 => ?_) (fun c_1 => ?_)
  · skip
    refine lv_iload_n hx hb dX10_lesser_9 rfl (lv_at hl 1 rfl) ?_
    refine W.widen (k := 0) (n := 0) (Nat.le_of_ble_eq_true rfl) (Nat.le_of_ble_eq_true rfl) ?_
    have hP9 := hP.sub (ws' := []) [] rfl
    have hD9 := hD.sub (ws' := []) [] (by decide) rfl
    exact W.iret (v := p1) hx hb hr (fun t ht hW => ⟨⟨p1, (), rfl, Or.inr rfl, by rw [ht]; exact hP9, hD9⟩, hS.F ht⟩) hS.2.2 dX10_lesser_10
  · skip
    refine lv_iload_n hx hb dX10_lesser_5 rfl (lv_at hl 0 rfl) ?_
    refine lv_goto (tgt := 10) hx hb dX10_lesser_6 (by decide) ?_
    refine W.widen (k := 0) (n := 0) (Nat.le_of_ble_eq_true rfl) (Nat.le_of_ble_eq_true rfl) ?_
    have hP9 := hP.sub (ws' := []) [] rfl
    have hD9 := hD.sub (ws' := []) [] (by decide) rfl
    exact W.iret (v := p0) hx hb hr (fun t ht hW => ⟨⟨p0, (), rfl, Or.inl rfl, by rw [ht]; exact hP9, hD9⟩, hS.F ht⟩) hS.2.2 dX10_lesser_10
def oc_X10_isNan : List Cond := [.constant RX10 124 (2147483647), .constant RX10 122 (2139095040)]
def vc_X10_isNan : List Cond := .code yX10_isNan cX10_isNan 1 (some .boolean) :: (oc_X10_isNan)
theorem gd_c_X10_isNan : (vc_X10_isNan).all goodWord = true := by decide +kernel
set_option maxHeartbeats 4000000 in
set_option maxRecDepth 100000 in
theorem c_X10_isNan (l : Launch) (dC : Nat → ClassId) (dI : Nat → Nat → Nat) (cI cT cS : ClassId) (sz : Nat) (p0 : Int32)  : gCI (S := Unit) l yX10_isNan vc_X10_isNan ({ frames := 0, cells := 0, slots := 0, locals := 0 }) (dC, dI) (gTY cI cT cS) sz [.int p0] [] (fun r u => r = 0 ∨ r = 1) (fun _ => []) 0 0 := by
  refine Met.ofW (cc := cX10_isNan) (maxL := 1) (ret := (some .boolean)) (by decide) rfl ?_
  intro p e s m args below meth c s₁ B hml hv
  obtain ⟨rfl, hsz, hP, hK, hD0⟩ := hv
  have hx := B.exec
  have hb := B.bytes
  have hr := B.returns
  have hts := atoms_spec (ws := vc_X10_isNan) B.pre
  have hown : s.vm.findClass RX10 = some m.cls := findClass_of_methodNamed B.named
  have hlocks := B.notSynchronized
  subst hsz
  have hD := hD0.self (sz := s.heap.size)
  generalize hAe : va_A [] s.heap.size = A at hD ⊢
  have hA : ∀ q : Nat, s.heap.size ≤ q → A q := fun q h => by rw [← hAe]; exact Or.inr h
  refine gstart (fun H locs hHe hLe => ?_)
  have hS : va_S A s.heap H locs := by rw [← hHe, ← hLe]; exact va_S.rf
  replace hP : va_P (dC, dI) vwCl [] H := by rw [← hHe]; exact hP
  clear hHe hLe
  have hl := lv_entry ([.int p0]) (n := 1) (Nat.le_of_ble_eq_true rfl)
  rw [lg_entry_eq]
  generalize (lg_sl ([.int p0]) ++ List.replicate (1 - (lg_sl ([.int p0])).length) Slot.unset).toArray = ls at hl ⊢
  replace hl : lv_has ls 1 [(0, .int p0)] := hl
  refine lv_iload_n hx hb dX10_isNan_0 rfl (lv_at hl 0 rfl) ?_
  refine lv_ldc (v := 2147483647) hx hb hown (hts (.constant RX10 124 (2147483647)) (List.mem_of_getElem? (i := 1) rfl)) dX10_isNan_1 ?_
  refine lv_iand hx hb dX10_isNan_3 ?_
  refine lv_topi (fun x_1 ex_1 => ?_)
  refine lv_ldc (v := 2139095040) hx hb hown (hts (.constant RX10 122 (2139095040)) (List.mem_of_getElem? (i := 2) rfl)) dX10_isNan_4 ?_
  refine lv_icmp_le (tgt := 13) hx hb dX10_isNan_6 (by decide) (fun c_2 => ?_) (fun c_2 => ?_)
  · skip
    refine lv_iconst (v := 0) hx hb dX10_isNan_13 (by decide) ?_
    refine W.widen (k := 0) (n := 0) (Nat.le_of_ble_eq_true rfl) (Nat.le_of_ble_eq_true rfl) ?_
    have hP9 := hP.sub (ws' := []) [] rfl
    have hD9 := hD.sub (ws' := []) [] (by decide) rfl
    exact W.zret (v := 0) hx hb hr rfl (fun t ht hW => ⟨⟨0, (), rfl, Or.inl rfl, by rw [ht]; exact hP9, hD9⟩, hS.F ht⟩) hS.2.2 dX10_isNan_14
  · skip
    refine lv_iconst (v := 1) hx hb dX10_isNan_9 (by decide) ?_
    refine lv_goto (tgt := 14) hx hb dX10_isNan_10 (by decide) ?_
    refine W.widen (k := 0) (n := 0) (Nat.le_of_ble_eq_true rfl) (Nat.le_of_ble_eq_true rfl) ?_
    have hP9 := hP.sub (ws' := []) [] rfl
    have hD9 := hD.sub (ws' := []) [] (by decide) rfl
    exact W.zret (v := 1) hx hb hr rfl (fun t ht hW => ⟨⟨1, (), rfl, Or.inr rfl, by rw [ht]; exact hP9, hD9⟩, hS.F ht⟩) hS.2.2 dX10_isNan_14
def oc_X10_isEndless : List Cond := [.constant RX10 124 (2147483647), .constant RX10 122 (2139095040)]
def vc_X10_isEndless : List Cond := .code yX10_isEndless cX10_isEndless 1 (some .boolean) :: (oc_X10_isEndless)
theorem gd_c_X10_isEndless : (vc_X10_isEndless).all goodWord = true := by decide +kernel
set_option maxHeartbeats 4000000 in
set_option maxRecDepth 100000 in
theorem c_X10_isEndless (l : Launch) (dC : Nat → ClassId) (dI : Nat → Nat → Nat) (cI cT cS : ClassId) (sz : Nat) (p0 : Int32)  : gCI (S := Unit) l yX10_isEndless vc_X10_isEndless ({ frames := 0, cells := 0, slots := 0, locals := 0 }) (dC, dI) (gTY cI cT cS) sz [.int p0] [] (fun r u => r = 0 ∨ r = 1) (fun _ => []) 0 0 := by
  refine Met.ofW (cc := cX10_isEndless) (maxL := 1) (ret := (some .boolean)) (by decide) rfl ?_
  intro p e s m args below meth c s₁ B hml hv
  obtain ⟨rfl, hsz, hP, hK, hD0⟩ := hv
  have hx := B.exec
  have hb := B.bytes
  have hr := B.returns
  have hts := atoms_spec (ws := vc_X10_isEndless) B.pre
  have hown : s.vm.findClass RX10 = some m.cls := findClass_of_methodNamed B.named
  have hlocks := B.notSynchronized
  subst hsz
  have hD := hD0.self (sz := s.heap.size)
  generalize hAe : va_A [] s.heap.size = A at hD ⊢
  have hA : ∀ q : Nat, s.heap.size ≤ q → A q := fun q h => by rw [← hAe]; exact Or.inr h
  refine gstart (fun H locs hHe hLe => ?_)
  have hS : va_S A s.heap H locs := by rw [← hHe, ← hLe]; exact va_S.rf
  replace hP : va_P (dC, dI) vwCl [] H := by rw [← hHe]; exact hP
  clear hHe hLe
  have hl := lv_entry ([.int p0]) (n := 1) (Nat.le_of_ble_eq_true rfl)
  rw [lg_entry_eq]
  generalize (lg_sl ([.int p0]) ++ List.replicate (1 - (lg_sl ([.int p0])).length) Slot.unset).toArray = ls at hl ⊢
  replace hl : lv_has ls 1 [(0, .int p0)] := hl
  refine lv_iload_n hx hb dX10_isEndless_0 rfl (lv_at hl 0 rfl) ?_
  refine lv_ldc (v := 2147483647) hx hb hown (hts (.constant RX10 124 (2147483647)) (List.mem_of_getElem? (i := 1) rfl)) dX10_isEndless_1 ?_
  refine lv_iand hx hb dX10_isEndless_3 ?_
  refine lv_topi (fun x_1 ex_1 => ?_)
  refine lv_ldc (v := 2139095040) hx hb hown (hts (.constant RX10 122 (2139095040)) (List.mem_of_getElem? (i := 2) rfl)) dX10_isEndless_4 ?_
  refine lv_icmp_ne (tgt := 13) hx hb dX10_isEndless_6 (by decide) (fun c_2 => ?_) (fun c_2 => ?_)
  · skip
    refine lv_iconst (v := 0) hx hb dX10_isEndless_13 (by decide) ?_
    refine W.widen (k := 0) (n := 0) (Nat.le_of_ble_eq_true rfl) (Nat.le_of_ble_eq_true rfl) ?_
    have hP9 := hP.sub (ws' := []) [] rfl
    have hD9 := hD.sub (ws' := []) [] (by decide) rfl
    exact W.zret (v := 0) hx hb hr rfl (fun t ht hW => ⟨⟨0, (), rfl, Or.inl rfl, by rw [ht]; exact hP9, hD9⟩, hS.F ht⟩) hS.2.2 dX10_isEndless_14
  · skip
    refine lv_iconst (v := 1) hx hb dX10_isEndless_9 (by decide) ?_
    refine lv_goto (tgt := 14) hx hb dX10_isEndless_10 (by decide) ?_
    refine W.widen (k := 0) (n := 0) (Nat.le_of_ble_eq_true rfl) (Nat.le_of_ble_eq_true rfl) ?_
    have hP9 := hP.sub (ws' := []) [] rfl
    have hD9 := hD.sub (ws' := []) [] (by decide) rfl
    exact W.zret (v := 1) hx hb hr rfl (fun t ht hW => ⟨⟨1, (), rfl, Or.inr rfl, by rw [ht]; exact hP9, hD9⟩, hS.F ht⟩) hS.2.2 dX10_isEndless_14
def oc_X10_writesOut : List Cond := []
def vc_X10_writesOut : List Cond := .code yX10_writesOut cX10_writesOut 1 (some .boolean) :: (oc_X10_writesOut)
theorem gd_c_X10_writesOut : (vc_X10_writesOut).all goodWord = true := by decide +kernel
set_option maxHeartbeats 4000000 in
set_option maxRecDepth 100000 in
theorem c_X10_writesOut (l : Launch) (dC : Nat → ClassId) (dI : Nat → Nat → Nat) (cI cT cS : ClassId) (sz : Nat) (p0 : Int32)  : gCI (S := Unit) l yX10_writesOut vc_X10_writesOut ({ frames := 0, cells := 0, slots := 0, locals := 0 }) (dC, dI) (gTY cI cT cS) sz [.int p0] [] (fun r u => r = 0 ∨ r = 1) (fun _ => []) 0 0 := by
  refine Met.ofW (cc := cX10_writesOut) (maxL := 1) (ret := (some .boolean)) (by decide) rfl ?_
  intro p e s m args below meth c s₁ B hml hv
  obtain ⟨rfl, hsz, hP, hK, hD0⟩ := hv
  have hx := B.exec
  have hb := B.bytes
  have hr := B.returns
  have hts := atoms_spec (ws := vc_X10_writesOut) B.pre
  have hown : s.vm.findClass RX10 = some m.cls := findClass_of_methodNamed B.named
  have hlocks := B.notSynchronized
  subst hsz
  have hD := hD0.self (sz := s.heap.size)
  generalize hAe : va_A [] s.heap.size = A at hD ⊢
  have hA : ∀ q : Nat, s.heap.size ≤ q → A q := fun q h => by rw [← hAe]; exact Or.inr h
  refine gstart (fun H locs hHe hLe => ?_)
  have hS : va_S A s.heap H locs := by rw [← hHe, ← hLe]; exact va_S.rf
  replace hP : va_P (dC, dI) vwCl [] H := by rw [← hHe]; exact hP
  clear hHe hLe
  have hl := lv_entry ([.int p0]) (n := 1) (Nat.le_of_ble_eq_true rfl)
  rw [lg_entry_eq]
  generalize (lg_sl ([.int p0]) ++ List.replicate (1 - (lg_sl ([.int p0])).length) Slot.unset).toArray = ls at hl ⊢
  replace hl : lv_has ls 1 [(0, .int p0)] := hl
  refine lv_iload_n hx hb dX10_writesOut_0 rfl (lv_at hl 0 rfl) ?_
  refine lv_bipush (v := 6) hx hb dX10_writesOut_1 (by decide) ?_
  refine lv_icmp_ge (tgt := 10) hx hb dX10_writesOut_3 (by decide) (fun c_1 => ?_) (fun c_1 => ?_)
  · skip
    refine lv_iconst (v := 0) hx hb dX10_writesOut_10 (by decide) ?_
    refine W.widen (k := 0) (n := 0) (Nat.le_of_ble_eq_true rfl) (Nat.le_of_ble_eq_true rfl) ?_
    have hP9 := hP.sub (ws' := []) [] rfl
    have hD9 := hD.sub (ws' := []) [] (by decide) rfl
    exact W.zret (v := 0) hx hb hr rfl (fun t ht hW => ⟨⟨0, (), rfl, Or.inl rfl, by rw [ht]; exact hP9, hD9⟩, hS.F ht⟩) hS.2.2 dX10_writesOut_11
  · skip
    refine lv_iconst (v := 1) hx hb dX10_writesOut_6 (by decide) ?_
    refine lv_goto (tgt := 11) hx hb dX10_writesOut_7 (by decide) ?_
    refine W.widen (k := 0) (n := 0) (Nat.le_of_ble_eq_true rfl) (Nat.le_of_ble_eq_true rfl) ?_
    have hP9 := hP.sub (ws' := []) [] rfl
    have hD9 := hD.sub (ws' := []) [] (by decide) rfl
    exact W.zret (v := 1) hx hb hr rfl (fun t ht hW => ⟨⟨1, (), rfl, Or.inr rfl, by rw [ht]; exact hP9, hD9⟩, hS.F ht⟩) hS.2.2 dX10_writesOut_11
def oc_X10_isIn : List Cond := []
def vc_X10_isIn : List Cond := .code yX10_isIn cX10_isIn 2 (some .boolean) :: (oc_X10_isIn)
theorem gd_c_X10_isIn : (vc_X10_isIn).all goodWord = true := by decide +kernel
set_option maxHeartbeats 4000000 in
set_option maxRecDepth 100000 in
theorem c_X10_isIn (l : Launch) (dC : Nat → ClassId) (dI : Nat → Nat → Nat) (cI cT cS : ClassId) (sz : Nat) (p0 : Int32) (p1 : Int32)  : gCI (S := Unit) l yX10_isIn vc_X10_isIn ({ frames := 0, cells := 0, slots := 0, locals := 0 }) (dC, dI) (gTY cI cT cS) sz [.int p0, .int p1] [] (fun r u => r = 0 ∨ r = 1) (fun _ => []) 0 0 := by
  refine Met.ofW (cc := cX10_isIn) (maxL := 2) (ret := (some .boolean)) (by decide) rfl ?_
  intro p e s m args below meth c s₁ B hml hv
  obtain ⟨rfl, hsz, hP, hK, hD0⟩ := hv
  have hx := B.exec
  have hb := B.bytes
  have hr := B.returns
  have hts := atoms_spec (ws := vc_X10_isIn) B.pre
  have hown : s.vm.findClass RX10 = some m.cls := findClass_of_methodNamed B.named
  have hlocks := B.notSynchronized
  subst hsz
  have hD := hD0.self (sz := s.heap.size)
  generalize hAe : va_A [] s.heap.size = A at hD ⊢
  have hA : ∀ q : Nat, s.heap.size ≤ q → A q := fun q h => by rw [← hAe]; exact Or.inr h
  refine gstart (fun H locs hHe hLe => ?_)
  have hS : va_S A s.heap H locs := by rw [← hHe, ← hLe]; exact va_S.rf
  replace hP : va_P (dC, dI) vwCl [] H := by rw [← hHe]; exact hP
  clear hHe hLe
  have hl := lv_entry ([.int p0, .int p1]) (n := 2) (Nat.le_of_ble_eq_true rfl)
  rw [lg_entry_eq]
  generalize (lg_sl ([.int p0, .int p1]) ++ List.replicate (2 - (lg_sl ([.int p0, .int p1])).length) Slot.unset).toArray = ls at hl ⊢
  replace hl : lv_has ls 2 [(0, .int p0), (1, .int p1)] := hl
  refine lv_iload_n hx hb dX10_isIn_0 rfl (lv_at hl 0 rfl) ?_
  refine lv_iload_n hx hb dX10_isIn_1 rfl (lv_at hl 1 rfl) ?_
  refine lv_ishr hx hb dX10_isIn_2 ?_
  refine lv_topi (fun x_1 ex_1 => ?_)
  refine lv_iconst (v := 1) hx hb dX10_isIn_3 (by decide) ?_
  refine lv_iand hx hb dX10_isIn_4 ?_
  refine lv_topi (fun x_2 ex_2 => ?_)
  refine lv_iconst (v := 1) hx hb dX10_isIn_5 (by decide) ?_
  refine lv_icmp_ne (tgt := 13) hx hb dX10_isIn_6 (by decide) (fun c_3 => ?_) (fun c_3 => ?_)
  · skip
    refine lv_iconst (v := 0) hx hb dX10_isIn_13 (by decide) ?_
    refine W.widen (k := 0) (n := 0) (Nat.le_of_ble_eq_true rfl) (Nat.le_of_ble_eq_true rfl) ?_
    have hP9 := hP.sub (ws' := []) [] rfl
    have hD9 := hD.sub (ws' := []) [] (by decide) rfl
    exact W.zret (v := 0) hx hb hr rfl (fun t ht hW => ⟨⟨0, (), rfl, Or.inl rfl, by rw [ht]; exact hP9, hD9⟩, hS.F ht⟩) hS.2.2 dX10_isIn_14
  · skip
    refine lv_iconst (v := 1) hx hb dX10_isIn_9 (by decide) ?_
    refine lv_goto (tgt := 14) hx hb dX10_isIn_10 (by decide) ?_
    refine W.widen (k := 0) (n := 0) (Nat.le_of_ble_eq_true rfl) (Nat.le_of_ble_eq_true rfl) ?_
    have hP9 := hP.sub (ws' := []) [] rfl
    have hD9 := hD.sub (ws' := []) [] (by decide) rfl
    exact W.zret (v := 1) hx hb hr rfl (fun t ht hW => ⟨⟨1, (), rfl, Or.inr rfl, by rw [ht]; exact hP9, hD9⟩, hS.F ht⟩) hS.2.2 dX10_isIn_14
def oc_X10_powerOf : List Cond := []
def vc_X10_powerOf : List Cond := .code yX10_powerOf cX10_powerOf 2 (some .int) :: (oc_X10_powerOf)
theorem gd_c_X10_powerOf : (vc_X10_powerOf).all goodWord = true := by decide +kernel
set_option maxHeartbeats 4000000 in
set_option maxRecDepth 100000 in
theorem c_X10_powerOf (l : Launch) (dC : Nat → ClassId) (dI : Nat → Nat → Nat) (cI cT cS : ClassId) (sz : Nat) (p0 : Int32)  : gCI (S := Unit) l yX10_powerOf vc_X10_powerOf ({ frames := 0, cells := 0, slots := 0, locals := 0 }) (dC, dI) (gTY cI cT cS) sz [.int p0] [] (fun r u => r = pw p0) (fun _ => []) 0 0 := by
  refine Met.ofW (cc := cX10_powerOf) (maxL := 2) (ret := (some .int)) (by decide) rfl ?_
  intro p e s m args below meth c s₁ B hml hv
  obtain ⟨rfl, hsz, hP, hK, hD0⟩ := hv
  have hx := B.exec
  have hb := B.bytes
  have hr := B.returns
  have hts := atoms_spec (ws := vc_X10_powerOf) B.pre
  have hown : s.vm.findClass RX10 = some m.cls := findClass_of_methodNamed B.named
  have hlocks := B.notSynchronized
  subst hsz
  have hD := hD0.self (sz := s.heap.size)
  generalize hAe : va_A [] s.heap.size = A at hD ⊢
  have hA : ∀ q : Nat, s.heap.size ≤ q → A q := fun q h => by rw [← hAe]; exact Or.inr h
  refine gstart (fun H locs hHe hLe => ?_)
  have hS : va_S A s.heap H locs := by rw [← hHe, ← hLe]; exact va_S.rf
  replace hP : va_P (dC, dI) vwCl [] H := by rw [← hHe]; exact hP
  clear hHe hLe
  have hl := lv_entry ([.int p0]) (n := 2) (Nat.le_of_ble_eq_true rfl)
  rw [lg_entry_eq]
  generalize (lg_sl ([.int p0]) ++ List.replicate (2 - (lg_sl ([.int p0])).length) Slot.unset).toArray = ls at hl ⊢
  replace hl : lv_has ls 2 [(0, .int p0)] := hl
  refine lv_iload_n hx hb dX10_powerOf_0 rfl (lv_at hl 0 rfl) ?_
  refine lv_bipush (v := 23) hx hb dX10_powerOf_1 (by decide) ?_
  refine lv_ishr hx hb dX10_powerOf_3 ?_
  refine lv_topi (fun x_1 ex_1 => ?_)
  refine lv_sipush (v := 255) hx hb dX10_powerOf_4 (by decide) ?_
  refine lv_iand hx hb dX10_powerOf_7 ?_
  refine lv_topi (fun x_2 ex_2 => ?_)
  refine lv_istore_n (lv' := [(1, .int x_2), (0, .int p0)]) hx hb dX10_powerOf_8 rfl hl (by decide) rfl (fun ls hl => ?_)
  refine lv_iload_n hx hb dX10_powerOf_9 rfl (lv_at hl 0 rfl) ?_
  refine lv_if_ne (tgt := 17) hx hb dX10_powerOf_10 (by decide) (fun c_3 => ?_) (fun c_3 => ?_)
  · skip
    refine lv_iload_n hx hb dX10_powerOf_17 rfl (lv_at hl 0 rfl) ?_
    refine lv_sipush (v := 150) hx hb dX10_powerOf_18 (by decide) ?_
    refine lv_isub hx hb dX10_powerOf_21 ?_
    refine lv_topi (fun x_4 ex_4 => ?_)
    refine W.widen (k := 0) (n := 0) (Nat.le_of_ble_eq_true rfl) (Nat.le_of_ble_eq_true rfl) ?_
    have hP9 := hP.sub (ws' := []) [] rfl
    have hD9 := hD.sub (ws' := []) [] (by decide) rfl
    exact W.iret (v := x_4) hx hb hr (fun t ht hW => ⟨⟨x_4, (), rfl, (by show _ = pw p0; unfold pw; rw [if_neg (by rw [← ex_1, ← ex_2]; exact c_3), ex_4, ex_2, ex_1]), by rw [ht]; exact hP9, hD9⟩, hS.F ht⟩) hS.2.2 dX10_powerOf_22
  · skip
    refine lv_iconst (v := 1) hx hb dX10_powerOf_13 (by decide) ?_
    refine lv_goto (tgt := 18) hx hb dX10_powerOf_14 (by decide) ?_
    refine lv_sipush (v := 150) hx hb dX10_powerOf_18 (by decide) ?_
    refine lv_isub hx hb dX10_powerOf_21 ?_
    refine lv_topi (fun x_5 ex_5 => ?_)
    obtain rfl : x_5 = (-149) := ex_5.trans (by decide)
    refine W.widen (k := 0) (n := 0) (Nat.le_of_ble_eq_true rfl) (Nat.le_of_ble_eq_true rfl) ?_
    have hP9 := hP.sub (ws' := []) [] rfl
    have hD9 := hD.sub (ws' := []) [] (by decide) rfl
    exact W.iret (v := (-149)) hx hb hr (fun t ht hW => ⟨⟨(-149), (), rfl, (by show _ = pw p0; unfold pw; rw [if_pos (by rw [← ex_1, ← ex_2]; exact c_3)]), by rw [ht]; exact hP9, hD9⟩, hS.F ht⟩) hS.2.2 dX10_powerOf_22
def oc_X10_placesOf : List Cond := [.constant RX10 123 (8388607), .constant RX10 125 (8388608)]
def vc_X10_placesOf : List Cond := .code yX10_placesOf cX10_placesOf 2 (some .long) :: (oc_X10_placesOf)
theorem gd_c_X10_placesOf : (vc_X10_placesOf).all goodWord = true := by decide +kernel
set_option maxHeartbeats 4000000 in
set_option maxRecDepth 100000 in
theorem c_X10_placesOf (l : Launch) (dC : Nat → ClassId) (dI : Nat → Nat → Nat) (cI cT cS : ClassId) (sz : Nat) (p0 : Int32)  : gCL (S := Unit) l yX10_placesOf vc_X10_placesOf ({ frames := 0, cells := 0, slots := 0, locals := 0 }) (dC, dI) (gTY cI cT cS) sz [.int p0] [] (fun r u => 0 ≤ r.toInt ∧ r.toInt < 16777216) (fun _ => []) 0 0 := by
  refine Met.ofW (cc := cX10_placesOf) (maxL := 2) (ret := (some .long)) (by decide) rfl ?_
  intro p e s m args below meth c s₁ B hml hv
  obtain ⟨rfl, hsz, hP, hK, hD0⟩ := hv
  have hx := B.exec
  have hb := B.bytes
  have hr := B.returns
  have hts := atoms_spec (ws := vc_X10_placesOf) B.pre
  have hown : s.vm.findClass RX10 = some m.cls := findClass_of_methodNamed B.named
  have hlocks := B.notSynchronized
  subst hsz
  have hD := hD0.self (sz := s.heap.size)
  generalize hAe : va_A [] s.heap.size = A at hD ⊢
  have hA : ∀ q : Nat, s.heap.size ≤ q → A q := fun q h => by rw [← hAe]; exact Or.inr h
  refine gstart (fun H locs hHe hLe => ?_)
  have hS : va_S A s.heap H locs := by rw [← hHe, ← hLe]; exact va_S.rf
  replace hP : va_P (dC, dI) vwCl [] H := by rw [← hHe]; exact hP
  clear hHe hLe
  have hl := lv_entry ([.int p0]) (n := 2) (Nat.le_of_ble_eq_true rfl)
  rw [lg_entry_eq]
  generalize (lg_sl ([.int p0]) ++ List.replicate (2 - (lg_sl ([.int p0])).length) Slot.unset).toArray = ls at hl ⊢
  replace hl : lv_has ls 2 [(0, .int p0)] := hl
  refine lv_iload_n hx hb dX10_placesOf_0 rfl (lv_at hl 0 rfl) ?_
  refine lv_bipush (v := 23) hx hb dX10_placesOf_1 (by decide) ?_
  refine lv_ishr hx hb dX10_placesOf_3 ?_
  refine lv_topi (fun x_1 ex_1 => ?_)
  refine lv_sipush (v := 255) hx hb dX10_placesOf_4 (by decide) ?_
  refine lv_iand hx hb dX10_placesOf_7 ?_
  refine lv_topi (fun x_2 ex_2 => ?_)
  refine lv_istore_n (lv' := [(1, .int x_2), (0, .int p0)]) hx hb dX10_placesOf_8 rfl hl (by decide) rfl (fun ls hl => ?_)
  refine lv_iload_n hx hb dX10_placesOf_9 rfl (lv_at hl 0 rfl) ?_
  refine lv_if_ne (tgt := 21) hx hb dX10_placesOf_10 (by decide) (fun c_3 => ?_) (fun c_3 => ?_)
  · skip
    refine lv_iload_n hx hb dX10_placesOf_21 rfl (lv_at hl 1 rfl) ?_
    refine lv_ldc (v := 8388607) hx hb hown (hts (.constant RX10 123 (8388607)) (List.mem_of_getElem? (i := 1) rfl)) dX10_placesOf_22 ?_
    refine lv_iand hx hb dX10_placesOf_24 ?_
    refine lv_topi (fun x_4 ex_4 => ?_)
    refine lv_ldc (v := 8388608) hx hb hown (hts (.constant RX10 125 (8388608)) (List.mem_of_getElem? (i := 2) rfl)) dX10_placesOf_25 ?_
    refine lv_ior hx hb dX10_placesOf_27 ?_
    refine lv_topi (fun x_5 ex_5 => ?_)
    refine lv_i2l (v := x_5.toInt64) hx hb dX10_placesOf_28 rfl ?_
    refine W.widen (k := 0) (n := 0) (Nat.le_of_ble_eq_true rfl) (Nat.le_of_ble_eq_true rfl) ?_
    have hP9 := hP.sub (ws' := []) [] rfl
    have hD9 := hD.sub (ws' := []) [] (by decide) rfl
    exact W.lret (v := (x_5.toInt64)) hx hb hr (fun t ht hW => ⟨⟨(x_5.toInt64), (), rfl, (by show 0 ≤ (x_5.toInt64).toInt ∧ (x_5.toInt64).toInt < 16777216; rw [Int32.toInt_toInt64, ex_5, ex_4]; exact g_mask24 _), by rw [ht]; exact hP9, hD9⟩, hS.F ht⟩) hS.2.2 dX10_placesOf_29
  · skip
    refine lv_iload_n hx hb dX10_placesOf_13 rfl (lv_at hl 1 rfl) ?_
    refine lv_ldc (v := 8388607) hx hb hown (hts (.constant RX10 123 (8388607)) (List.mem_of_getElem? (i := 1) rfl)) dX10_placesOf_14 ?_
    refine lv_iand hx hb dX10_placesOf_16 ?_
    refine lv_topi (fun x_6 ex_6 => ?_)
    refine lv_i2l (v := x_6.toInt64) hx hb dX10_placesOf_17 rfl ?_
    refine lv_goto (tgt := 29) hx hb dX10_placesOf_18 (by decide) ?_
    refine W.widen (k := 0) (n := 0) (Nat.le_of_ble_eq_true rfl) (Nat.le_of_ble_eq_true rfl) ?_
    have hP9 := hP.sub (ws' := []) [] rfl
    have hD9 := hD.sub (ws' := []) [] (by decide) rfl
    exact W.lret (v := (x_6.toInt64)) hx hb hr (fun t ht hW => ⟨⟨(x_6.toInt64), (), rfl, (by show 0 ≤ (x_6.toInt64).toInt ∧ (x_6.toInt64).toInt < 16777216; rw [Int32.toInt_toInt64, ex_6]; have := g_mask23 p0; omega), by rw [ht]; exact hP9, hD9⟩, hS.F ht⟩) hS.2.2 dX10_placesOf_29
def oc_X10_lengthOf : List Cond := []
def vc_X10_lengthOf : List Cond := .code yX10_lengthOf cX10_lengthOf 5 (some .int) :: (oc_X10_lengthOf)
theorem gd_c_X10_lengthOf : (vc_X10_lengthOf).all goodWord = true := by decide +kernel
set_option maxHeartbeats 4000000 in
set_option maxRecDepth 100000 in
theorem c_X10_lengthOf (l : Launch) (dC : Nat → ClassId) (dI : Nat → Nat → Nat) (cI cT cS : ClassId) (sz : Nat) (p0 : Int64) (h0p : 0 ≤ p0.toInt) : gCI (S := Unit) l yX10_lengthOf vc_X10_lengthOf ({ frames := 0, cells := 0, slots := 0, locals := 0 }) (dC, dI) (gTY cI cT cS) sz [.long p0] [] (fun r u => True) (fun _ => []) 0 0 := by
  refine Met.ofW (cc := cX10_lengthOf) (maxL := 5) (ret := (some .int)) (by decide) rfl ?_
  intro p e s m args below meth c s₁ B hml hv
  obtain ⟨rfl, hsz, hP, hK, hD0⟩ := hv
  have hx := B.exec
  have hb := B.bytes
  have hr := B.returns
  have hts := atoms_spec (ws := vc_X10_lengthOf) B.pre
  have hown : s.vm.findClass RX10 = some m.cls := findClass_of_methodNamed B.named
  have hlocks := B.notSynchronized
  subst hsz
  have hD := hD0.self (sz := s.heap.size)
  generalize hAe : va_A [] s.heap.size = A at hD ⊢
  have hA : ∀ q : Nat, s.heap.size ≤ q → A q := fun q h => by rw [← hAe]; exact Or.inr h
  refine gstart (fun H locs hHe hLe => ?_)
  have hS : va_S A s.heap H locs := by rw [← hHe, ← hLe]; exact va_S.rf
  replace hP : va_P (dC, dI) vwCl [] H := by rw [← hHe]; exact hP
  clear hHe hLe
  have hl := lv_entry ([.long p0]) (n := 5) (Nat.le_of_ble_eq_true rfl)
  rw [lg_entry_eq]
  generalize (lg_sl ([.long p0]) ++ List.replicate (5 - (lg_sl ([.long p0])).length) Slot.unset).toArray = ls at hl ⊢
  replace hl : lv_has ls 5 [(0, .long p0)] := hl
  refine lv_iconst (v := 0) hx hb dX10_lengthOf_0 (by decide) ?_
  refine lv_istore_n (lv' := [(2, .int 0), (0, .long p0)]) hx hb dX10_lengthOf_1 rfl hl (by decide) rfl (fun ls hl => ?_)
  refine lv_lload_n hx hb dX10_lengthOf_2 rfl (lv_at hl 1 rfl) ?_
  refine lv_lstore_n (lv' := [(3, .long p0), (2, .int 0), (0, .long p0)]) hx hb dX10_lengthOf_3 rfl hl (by decide) rfl (fun ls hl => ?_)
  obtain ⟨xx, hxx⟩ : ∃ x : Int32, x = 0 := ⟨_, rfl⟩
  obtain ⟨yy, hyy⟩ : ∃ y : Int64, y = p0 := ⟨_, rfl⟩
  replace hl : lv_has ls 5 [(3, .long yy), (2, .int xx), (0, .long p0)] := by rw [hxx, hyy]; exact hl
  have hy0 : 0 ≤ yy.toInt := by rw [hyy]; exact h0p
  clear hxx hyy
  obtain ⟨n, hn⟩ : ∃ n : Nat, yy.toInt < (n : Int) := ⟨yy.toInt.toNat + 1, by omega⟩
  induction n generalizing xx yy H locs ls with
  | zero => exact absurd hn (by omega)
  | succ n ihl =>
    refine lv_lload_n hx hb dX10_lengthOf_4 rfl (lv_at hl 0 rfl) ?_
    refine lv_lconst (v := 0) hx hb dX10_lengthOf_5 (by decide) ?_
    refine W.lcmp hx hb dX10_lengthOf_6 ?_
    refine lv_if_eq (tgt := 20) hx hb dX10_lengthOf_7 (by decide) (fun c_1 => ?_) (fun c_1 => ?_)
    · skip
      rw [g_c_eq] at c_1
      refine lv_iload_n hx hb dX10_lengthOf_20 rfl (lv_at hl 1 rfl) ?_
      refine W.widen (k := 0) (n := 0) (Nat.le_of_ble_eq_true rfl) (Nat.le_of_ble_eq_true rfl) ?_
      have hP9 := hP.sub (ws' := []) [] rfl
      have hD9 := hD.sub (ws' := []) [] (by decide) rfl
      exact W.iret (v := xx) hx hb hr (fun t ht hW => ⟨⟨xx, (), rfl, trivial, by rw [ht]; exact hP9, hD9⟩, hS.F ht⟩) hS.2.2 dX10_lengthOf_21
    · skip
      rw [g_c_eq] at c_1
      obtain ⟨x_2, ex_2⟩ : ∃ y : Int32, y = xx + 1 := ⟨_, rfl⟩
      refine lv_iinc (v := x_2) (lv' := [(2, .int x_2), (3, .long yy), (0, .long p0)]) hx hb dX10_lengthOf_10 hl (k := 1) rfl (by rw [ex_2]; rfl) (by decide) rfl (fun ls hl => ?_)
      refine lv_lload_n hx hb dX10_lengthOf_13 rfl (lv_at hl 1 rfl) ?_
      refine lv_iconst (v := 1) hx hb dX10_lengthOf_14 (by decide) ?_
      refine lv_lshr hx hb dX10_lengthOf_15 rfl ?_
      refine lv_topl (fun x_3 ex_3 => ?_)
      refine lv_lstore_n (lv' := [(3, .long x_3), (2, .int x_2), (0, .long p0)]) hx hb dX10_lengthOf_16 rfl hl (by decide) rfl (fun ls hl => ?_)
      refine lv_goto (tgt := 4) hx hb dX10_lengthOf_17 (by decide) ?_
      replace hl := lv_sub (l' := [(3, .long x_3), (2, .int x_2), (0, .long p0)]) hl [0, 1, 2] rfl
      have hz : x_3.toInt = yy.toInt / 2 := by rw [ex_3]; exact g_shr1 yy
      have hnz : ¬ yy.toInt = 0 := fun q => c_1 (Int64.toInt_inj.mp q)
      apply ihl (xx := x_2) (yy := x_3) (H := H) (locs := locs) (ls := ls) <;> first | with_reducible assumption | omega
def oc_X10_nearest : List Cond := [.methodLink RX10 114 yX10_lengthOf, .static yX10_lengthOf, .initialized RX10, .constantLong RX10 120 (8388608), .constant RX10 123 (8388607), .constant RX10 122 (2139095040), .constantLong RX10 118 (16777216), .constantLong RX10 99 (2), .constant RX10 113 (-2147483648)]
def vc_X10_nearest : List Cond := .code yX10_nearest cX10_nearest 16 (some .int) :: (oc_X10_nearest ++ (vc_X10_lengthOf))
theorem ic_c_X10_nearest_c_X10_lengthOf : ∀ w ∈ vc_X10_lengthOf, w ∈ vc_X10_nearest := fun _ h => List.mem_cons_of_mem _ (List.mem_append_right _ (h))
theorem gd_c_X10_nearest : (vc_X10_nearest).all goodWord = true := by decide +kernel
set_option maxHeartbeats 4000000 in
set_option maxRecDepth 100000 in
theorem c_X10_nearest (l : Launch) (dC : Nat → ClassId) (dI : Nat → Nat → Nat) (cI cT cS : ClassId) (sz : Nat) (p0 : Int32) (p3 : Int32) (p1 : Int64) (h0p : 0 ≤ p1.toInt) : gCI (S := Unit) l yX10_nearest vc_X10_nearest ({ frames := 1, cells := 0, slots := 0, locals := 24 }) (dC, dI) (gTY cI cT cS) sz [.int p0, .long p1, .int p3] [] (fun r u => True) (fun _ => []) 0 0 := by
  refine Met.ofW (cc := cX10_nearest) (maxL := 16) (ret := (some .int)) (by decide) rfl ?_
  intro p e s m args below meth c s₁ B hml hv
  obtain ⟨rfl, hsz, hP, hK, hD0⟩ := hv
  have hx := B.exec
  have hb := B.bytes
  have hr := B.returns
  have hts := atoms_spec (ws := vc_X10_nearest) B.pre
  have hown : s.vm.findClass RX10 = some m.cls := findClass_of_methodNamed B.named
  have hlocks := B.notSynchronized
  subst hsz
  have hD := hD0.self (sz := s.heap.size)
  generalize hAe : va_A [] s.heap.size = A at hD ⊢
  have hA : ∀ q : Nat, s.heap.size ≤ q → A q := fun q h => by rw [← hAe]; exact Or.inr h
  refine gstart (fun H locs hHe hLe => ?_)
  have hS : va_S A s.heap H locs := by rw [← hHe, ← hLe]; exact va_S.rf
  replace hP : va_P (dC, dI) vwCl [] H := by rw [← hHe]; exact hP
  clear hHe hLe
  have hl := lv_entry ([.int p0, .long p1, .int p3]) (n := 16) (Nat.le_of_ble_eq_true rfl)
  rw [lg_entry_eq]
  generalize (lg_sl ([.int p0, .long p1, .int p3]) ++ List.replicate (16 - (lg_sl ([.int p0, .long p1, .int p3])).length) Slot.unset).toArray = ls at hl ⊢
  replace hl : lv_has ls 16 [(0, .int p0), (1, .long p1), (3, .int p3)] := hl
  refine gjoin (α := Int32) 12 (fun y_2 H locs ls => va_P (dC, dI) vwCl [] H ∧ va_S A s.heap H locs ∧ lv_has ls 16 [(4, .int y_2), (0, .int p0), (1, .long p1), (3, .int p3)]) (fun y_2 H locs ls hI => ?_) (fun J_1 => ?_)
  · skip
    obtain ⟨hP, hS, hl⟩ := hI
    refine lv_lload_n hx hb dX10_nearest_12 rfl (lv_at hl 2 rfl) ?_
    refine lv_lconst (v := 0) hx hb dX10_nearest_13 (by decide) ?_
    refine W.lcmp hx hb dX10_nearest_14 ?_
    refine lv_if_ne (tgt := 21) hx hb dX10_nearest_15 (by decide) (fun c_3 => ?_) (fun c_3 => ?_)
    · skip
      rw [g_c_eq] at c_3
      refine lv_lload_n hx hb dX10_nearest_21 rfl (lv_at hl 2 rfl) ?_
      refine gcalli (S := Unit) (wc := []) (wr := []) (w1 := fun _ => []) (va_runS (As := [.long p1]) (rest := []) ⟨hx, hb, hml, hown, hts⟩ (c_X10_lengthOf l dC dI cI cT cS H.size p1 (by first | assumption | decide | omega)) (va_cwS 1 hts (gWS (List.mem_of_getElem? (i := 1) rfl) (List.mem_of_getElem? (i := 2) rfl) (List.mem_of_getElem? (i := 3) rfl) ic_c_X10_nearest_c_X10_lengthOf gd_c_X10_lengthOf) rfl rfl rfl (by decide +kernel) ⟨(Nat.le_of_ble_eq_true rfl), (Nat.le_of_ble_eq_true rfl)⟩) (gpS (hP.sub (ws' := []) [] rfl) hK (hD.sub (ws' := []) [] (by decide) rfl)) rfl rfl hl.1 rfl (lv_room (Nat.le_of_ble_eq_true rfl)) dX10_nearest_22 ⟨(Nat.le_of_ble_eq_true rfl), (Nat.le_of_ble_eq_true rfl)⟩) hP hD hS hA [] [] rfl rfl (by decide) (by decide) (fun r_4 ur_4 H locs wr_4 hP hD hS => ?_)
      replace hP : va_P (dC, dI) vwCl [] H := hP
      replace hD : va_D A [] := hD
      refine lv_bipush (v := 24) hx hb dX10_nearest_25 (by decide) ?_
      refine lv_isub hx hb dX10_nearest_27 ?_
      refine lv_topi (fun x_5 ex_5 => ?_)
      refine lv_istore (lv' := [(5, .int x_5), (4, .int y_2), (0, .int p0), (1, .long p1), (3, .int p3)]) hx hb dX10_nearest_28 hl (by decide) rfl (fun ls hl => ?_)
      refine gjoin (α := Int32) 52 (fun y_7 H locs ls => va_P (dC, dI) vwCl [] H ∧ va_S A s.heap H locs ∧ lv_has ls 16 [(6, .int y_7), (5, .int x_5), (4, .int y_2), (0, .int p0), (1, .long p1), (3, .int p3)]) (fun y_7 H locs ls hI => ?_) (fun J_6 => ?_)
      · skip
        obtain ⟨hP, hS, hl⟩ := hI
        refine gjoin (α := Int64) 82 (fun y_9 H locs ls => va_P (dC, dI) vwCl [] H ∧ va_S A s.heap H locs ∧ lv_has ls 16 [(7, .long y_9), (6, .int y_7), (5, .int x_5), (4, .int y_2), (0, .int p0), (1, .long p1), (3, .int p3)]) (fun y_9 H locs ls hI => ?_) (fun J_8 => ?_)
        · skip
          obtain ⟨hP, hS, hl⟩ := hI
          refine gjoin (α := Int64) 112 (fun y_11 H locs ls => va_P (dC, dI) vwCl [] H ∧ va_S A s.heap H locs ∧ lv_has ls 16 [(9, .long y_11), (7, .long y_9), (6, .int y_7), (5, .int x_5), (4, .int y_2), (0, .int p0), (1, .long p1), (3, .int p3)]) (fun y_11 H locs ls hI => ?_) (fun J_10 => ?_)
          · skip
            obtain ⟨hP, hS, hl⟩ := hI
            refine gjoin (α := Int64) 142 (fun y_13 H locs ls => va_P (dC, dI) vwCl [] H ∧ va_S A s.heap H locs ∧ lv_has ls 16 [(11, .long y_13), (9, .long y_11), (7, .long y_9), (6, .int y_7), (5, .int x_5), (4, .int y_2), (0, .int p0), (1, .long p1), (3, .int p3)]) (fun y_13 H locs ls hI => ?_) (fun J_12 => ?_)
            · skip
              obtain ⟨hP, hS, hl⟩ := hI
              refine gjoin (α := Int32) 179 (fun y_15 H locs ls => va_P (dC, dI) vwCl [] H ∧ va_S A s.heap H locs ∧ lv_has ls 16 [(13, .int y_15), (11, .long y_13), (9, .long y_11), (7, .long y_9), (6, .int y_7), (5, .int x_5), (4, .int y_2), (0, .int p0), (1, .long p1), (3, .int p3)]) (fun y_15 H locs ls hI => ?_) (fun J_14 => ?_)
              · skip
                obtain ⟨hP, hS, hl⟩ := hI
                refine gjoin (α := Int64) 194 (fun y_17 H locs ls => va_P (dC, dI) vwCl [] H ∧ va_S A s.heap H locs ∧ lv_has ls 16 [(7, .long y_17), (13, .int y_15), (11, .long y_13), (9, .long y_11), (6, .int y_7), (5, .int x_5), (4, .int y_2), (0, .int p0), (1, .long p1), (3, .int p3)]) (fun y_17 H locs ls hI => ?_) (fun J_16 => ?_)
                · skip
                  obtain ⟨hP, hS, hl⟩ := hI
                  refine lv_iload_n hx hb dX10_nearest_194 rfl (lv_at hl 9 rfl) ?_
                  refine lv_iload hx hb dX10_nearest_195 (lv_at hl 4 rfl) ?_
                  refine lv_iadd hx hb dX10_nearest_197 ?_
                  refine lv_topi (fun x_18 ex_18 => ?_)
                  refine lv_istore (lv' := [(14, .int x_18), (7, .long y_17), (13, .int y_15), (11, .long y_13), (9, .long y_11), (6, .int y_7), (5, .int x_5), (4, .int y_2), (0, .int p0), (1, .long p1), (3, .int p3)]) hx hb dX10_nearest_198 hl (by decide) rfl (fun ls hl => ?_)
                  refine gjoin (α := Int64 × Int32) 217 (fun y_20 H locs ls => va_P (dC, dI) vwCl [] H ∧ va_S A s.heap H locs ∧ lv_has ls 16 [(14, .int y_20.2), (7, .long y_20.1), (13, .int y_15), (11, .long y_13), (9, .long y_11), (6, .int y_7), (5, .int x_5), (4, .int y_2), (0, .int p0), (1, .long p1), (3, .int p3)]) (fun y_20 H locs ls hI => ?_) (fun J_19 => ?_)
                  · skip
                    obtain ⟨hP, hS, hl⟩ := hI
                    refine lv_lload hx hb dX10_nearest_217 (lv_at hl 1 rfl) ?_
                    refine lv_ldc2 (v := 8388608) hx hb hown (hts (.constantLong RX10 120 (8388608)) (List.mem_of_getElem? (i := 4) rfl)) dX10_nearest_219 ?_
                    refine W.lcmp hx hb dX10_nearest_222 ?_
                    refine lv_if_ge (tgt := 233) hx hb dX10_nearest_223 (by decide) (fun c_21 => ?_) (fun c_21 => ?_)
                    · skip
                      rw [g_c_ge] at c_21
                      refine lv_iload hx hb dX10_nearest_233 (lv_at hl 0 rfl) ?_
                      refine lv_sipush (v := 150) hx hb dX10_nearest_235 (by decide) ?_
                      refine lv_iadd hx hb dX10_nearest_238 ?_
                      refine lv_topi (fun x_22 ex_22 => ?_)
                      refine lv_istore (lv' := [(15, .int x_22), (14, .int y_20.2), (7, .long y_20.1), (13, .int y_15), (11, .long y_13), (9, .long y_11), (6, .int y_7), (5, .int x_5), (4, .int y_2), (0, .int p0), (1, .long p1), (3, .int p3)]) hx hb dX10_nearest_239 hl (by decide) rfl (fun ls hl => ?_)
                      refine lv_iload hx hb dX10_nearest_241 (lv_at hl 0 rfl) ?_
                      refine lv_sipush (v := 255) hx hb dX10_nearest_243 (by decide) ?_
                      refine lv_icmp_lt (tgt := 257) hx hb dX10_nearest_246 (by decide) (fun c_23 => ?_) (fun c_23 => ?_)
                      · skip
                        refine lv_iload hx hb dX10_nearest_257 (lv_at hl 8 rfl) ?_
                        refine lv_iload hx hb dX10_nearest_259 (lv_at hl 0 rfl) ?_
                        refine lv_bipush (v := 23) hx hb dX10_nearest_261 (by decide) ?_
                        refine lv_ishl hx hb dX10_nearest_263 ?_
                        refine lv_topi (fun x_24 ex_24 => ?_)
                        refine lv_ior hx hb dX10_nearest_264 ?_
                        refine lv_topi (fun x_25 ex_25 => ?_)
                        refine lv_lload hx hb dX10_nearest_265 (lv_at hl 2 rfl) ?_
                        refine lv_l2i hx hb dX10_nearest_267 rfl ?_
                        refine lv_topi (fun x_26 ex_26 => ?_)
                        refine lv_ldc (v := 8388607) hx hb hown (hts (.constant RX10 123 (8388607)) (List.mem_of_getElem? (i := 5) rfl)) dX10_nearest_268 ?_
                        refine lv_iand hx hb dX10_nearest_270 ?_
                        refine lv_topi (fun x_27 ex_27 => ?_)
                        refine lv_ior hx hb dX10_nearest_271 ?_
                        refine lv_topi (fun x_28 ex_28 => ?_)
                        refine W.widen (k := 0) (n := 0) (Nat.le_of_ble_eq_true rfl) (Nat.le_of_ble_eq_true rfl) ?_
                        have hP9 := hP.sub (ws' := []) [] rfl
                        have hD9 := hD.sub (ws' := []) [] (by decide) rfl
                        exact W.iret (v := x_28) hx hb hr (fun t ht hW => ⟨⟨x_28, (), rfl, trivial, by rw [ht]; exact hP9, hD9⟩, hS.F ht⟩) hS.2.2 dX10_nearest_272
                      · skip
                        refine lv_iload hx hb dX10_nearest_249 (lv_at hl 8 rfl) ?_
                        refine lv_ldc (v := 2139095040) hx hb hown (hts (.constant RX10 122 (2139095040)) (List.mem_of_getElem? (i := 6) rfl)) dX10_nearest_251 ?_
                        refine lv_ior hx hb dX10_nearest_253 ?_
                        refine lv_topi (fun x_29 ex_29 => ?_)
                        refine lv_goto (tgt := 272) hx hb dX10_nearest_254 (by decide) ?_
                        refine W.widen (k := 0) (n := 0) (Nat.le_of_ble_eq_true rfl) (Nat.le_of_ble_eq_true rfl) ?_
                        have hP9 := hP.sub (ws' := []) [] rfl
                        have hD9 := hD.sub (ws' := []) [] (by decide) rfl
                        exact W.iret (v := x_29) hx hb hr (fun t ht hW => ⟨⟨x_29, (), rfl, trivial, by rw [ht]; exact hP9, hD9⟩, hS.F ht⟩) hS.2.2 dX10_nearest_272
                    · skip
                      rw [g_c_ge] at c_21
                      refine lv_iload hx hb dX10_nearest_226 (lv_at hl 7 rfl) ?_
                      refine lv_lload hx hb dX10_nearest_228 (lv_at hl 1 rfl) ?_
                      refine lv_l2i hx hb dX10_nearest_230 rfl ?_
                      refine lv_topi (fun x_30 ex_30 => ?_)
                      refine lv_ior hx hb dX10_nearest_231 ?_
                      refine lv_topi (fun x_31 ex_31 => ?_)
                      refine W.widen (k := 0) (n := 0) (Nat.le_of_ble_eq_true rfl) (Nat.le_of_ble_eq_true rfl) ?_
                      have hP9 := hP.sub (ws' := []) [] rfl
                      have hD9 := hD.sub (ws' := []) [] (by decide) rfl
                      exact W.iret (v := x_31) hx hb hr (fun t ht hW => ⟨⟨x_31, (), rfl, trivial, by rw [ht]; exact hP9, hD9⟩, hS.F ht⟩) hS.2.2 dX10_nearest_232
                  · skip
                    refine lv_lload hx hb dX10_nearest_200 (lv_at hl 1 rfl) ?_
                    refine lv_ldc2 (v := 16777216) hx hb hown (hts (.constantLong RX10 118 (16777216)) (List.mem_of_getElem? (i := 7) rfl)) dX10_nearest_202 ?_
                    refine W.lcmp hx hb dX10_nearest_205 ?_
                    refine lv_if_ne (tgt := 217) hx hb dX10_nearest_206 (by decide) (fun c_32 => ?_) (fun c_32 => ?_)
                    · skip
                      rw [g_c_eq] at c_32
                      exact J_19 (y_17, x_18) H locs ls ⟨hP.sub (ws' := []) [] rfl, hS, lv_sub (l' := [(14, .int x_18), (7, .long y_17), (13, .int y_15), (11, .long y_13), (9, .long y_11), (6, .int y_7), (5, .int x_5), (4, .int y_2), (0, .int p0), (1, .long p1), (3, .int p3)]) hl [0, 1, 2, 3, 4, 5, 6, 7, 8, 9, 10] rfl⟩
                    · skip
                      rw [g_c_eq] at c_32
                      refine lv_ldc2 (v := 8388608) hx hb hown (hts (.constantLong RX10 120 (8388608)) (List.mem_of_getElem? (i := 4) rfl)) dX10_nearest_209 ?_
                      refine lv_lstore (lv' := [(7, .long 8388608), (14, .int x_18), (13, .int y_15), (11, .long y_13), (9, .long y_11), (6, .int y_7), (5, .int x_5), (4, .int y_2), (0, .int p0), (1, .long p1), (3, .int p3)]) hx hb dX10_nearest_212 hl (by decide) rfl (fun ls hl => ?_)
                      obtain ⟨x_33, ex_33⟩ : ∃ y : Int32, y = x_18 + 1 := ⟨_, rfl⟩
                      refine lv_iinc (v := x_33) (lv' := [(14, .int x_33), (7, .long 8388608), (13, .int y_15), (11, .long y_13), (9, .long y_11), (6, .int y_7), (5, .int x_5), (4, .int y_2), (0, .int p0), (1, .long p1), (3, .int p3)]) hx hb dX10_nearest_214 hl (k := 1) rfl (by rw [ex_33]; rfl) (by decide) rfl (fun ls hl => ?_)
                      exact J_19 (8388608, x_33) H locs ls ⟨hP.sub (ws' := []) [] rfl, hS, lv_sub (l' := [(14, .int x_33), (7, .long 8388608), (13, .int y_15), (11, .long y_13), (9, .long y_11), (6, .int y_7), (5, .int x_5), (4, .int y_2), (0, .int p0), (1, .long p1), (3, .int p3)]) hl [0, 1, 2, 3, 4, 5, 6, 7, 8, 9, 10] rfl⟩
                · skip
                  refine lv_lload hx hb dX10_nearest_179 (lv_at hl 3 rfl) ?_
                  refine lv_iload hx hb dX10_nearest_181 (lv_at hl 0 rfl) ?_
                  refine lv_if_eq (tgt := 190) hx hb dX10_nearest_183 (by decide) (fun c_34 => ?_) (fun c_34 => ?_)
                  · skip
                    refine lv_lconst (v := 0) hx hb dX10_nearest_190 (by decide) ?_
                    refine lv_ladd hx hb dX10_nearest_191 ?_
                    refine lv_topl (fun x_35 ex_35 => ?_)
                    refine lv_lstore (lv' := [(7, .long x_35), (13, .int y_15), (11, .long y_13), (9, .long y_11), (6, .int y_7), (5, .int x_5), (4, .int y_2), (0, .int p0), (1, .long p1), (3, .int p3)]) hx hb dX10_nearest_192 hl (by decide) rfl (fun ls hl => ?_)
                    exact J_16 x_35 H locs ls ⟨hP.sub (ws' := []) [] rfl, hS, lv_sub (l' := [(7, .long x_35), (13, .int y_15), (11, .long y_13), (9, .long y_11), (6, .int y_7), (5, .int x_5), (4, .int y_2), (0, .int p0), (1, .long p1), (3, .int p3)]) hl [0, 1, 2, 3, 4, 5, 6, 7, 8, 9] rfl⟩
                  · skip
                    refine lv_lconst (v := 1) hx hb dX10_nearest_186 (by decide) ?_
                    refine lv_goto (tgt := 191) hx hb dX10_nearest_187 (by decide) ?_
                    refine lv_ladd hx hb dX10_nearest_191 ?_
                    refine lv_topl (fun x_36 ex_36 => ?_)
                    refine lv_lstore (lv' := [(7, .long x_36), (13, .int y_15), (11, .long y_13), (9, .long y_11), (6, .int y_7), (5, .int x_5), (4, .int y_2), (0, .int p0), (1, .long p1), (3, .int p3)]) hx hb dX10_nearest_192 hl (by decide) rfl (fun ls hl => ?_)
                    exact J_16 x_36 H locs ls ⟨hP.sub (ws' := []) [] rfl, hS, lv_sub (l' := [(7, .long x_36), (13, .int y_15), (11, .long y_13), (9, .long y_11), (6, .int y_7), (5, .int x_5), (4, .int y_2), (0, .int p0), (1, .long p1), (3, .int p3)]) hl [0, 1, 2, 3, 4, 5, 6, 7, 8, 9] rfl⟩
              · skip
                refine lv_lload hx hb dX10_nearest_142 (lv_at hl 1 rfl) ?_
                refine lv_lload hx hb dX10_nearest_144 (lv_at hl 0 rfl) ?_
                refine W.lcmp hx hb dX10_nearest_146 ?_
                refine lv_if_gt (tgt := 172) hx hb dX10_nearest_147 (by decide) (fun c_37 => ?_) (fun c_37 => ?_)
                · skip
                  rw [g_c_gt] at c_37
                  refine lv_iconst (v := 1) hx hb dX10_nearest_172 (by decide) ?_
                  refine lv_goto (tgt := 177) hx hb dX10_nearest_173 (by decide) ?_
                  refine lv_istore (lv' := [(13, .int 1), (11, .long y_13), (9, .long y_11), (7, .long y_9), (6, .int y_7), (5, .int x_5), (4, .int y_2), (0, .int p0), (1, .long p1), (3, .int p3)]) hx hb dX10_nearest_177 hl (by decide) rfl (fun ls hl => ?_)
                  exact J_14 1 H locs ls ⟨hP.sub (ws' := []) [] rfl, hS, lv_sub (l' := [(13, .int 1), (11, .long y_13), (9, .long y_11), (7, .long y_9), (6, .int y_7), (5, .int x_5), (4, .int y_2), (0, .int p0), (1, .long p1), (3, .int p3)]) hl [0, 1, 2, 3, 4, 5, 6, 7, 8, 9] rfl⟩
                · skip
                  rw [g_c_gt] at c_37
                  refine lv_lload hx hb dX10_nearest_150 (lv_at hl 1 rfl) ?_
                  refine lv_lload hx hb dX10_nearest_152 (lv_at hl 0 rfl) ?_
                  refine W.lcmp hx hb dX10_nearest_154 ?_
                  refine lv_if_ne (tgt := 176) hx hb dX10_nearest_155 (by decide) (fun c_38 => ?_) (fun c_38 => ?_)
                  · skip
                    rw [g_c_eq] at c_38
                    refine lv_iconst (v := 0) hx hb dX10_nearest_176 (by decide) ?_
                    refine lv_istore (lv' := [(13, .int 0), (11, .long y_13), (9, .long y_11), (7, .long y_9), (6, .int y_7), (5, .int x_5), (4, .int y_2), (0, .int p0), (1, .long p1), (3, .int p3)]) hx hb dX10_nearest_177 hl (by decide) rfl (fun ls hl => ?_)
                    exact J_14 0 H locs ls ⟨hP.sub (ws' := []) [] rfl, hS, lv_sub (l' := [(13, .int 0), (11, .long y_13), (9, .long y_11), (7, .long y_9), (6, .int y_7), (5, .int x_5), (4, .int y_2), (0, .int p0), (1, .long p1), (3, .int p3)]) hl [0, 1, 2, 3, 4, 5, 6, 7, 8, 9] rfl⟩
                  · skip
                    rw [g_c_eq] at c_38
                    refine lv_iload hx hb dX10_nearest_158 (lv_at hl 3 rfl) ?_
                    refine lv_if_le (tgt := 176) hx hb dX10_nearest_160 (by decide) (fun c_39 => ?_) (fun c_39 => ?_)
                    · skip
                      refine lv_iconst (v := 0) hx hb dX10_nearest_176 (by decide) ?_
                      refine lv_istore (lv' := [(13, .int 0), (11, .long y_13), (9, .long y_11), (7, .long y_9), (6, .int y_7), (5, .int x_5), (4, .int y_2), (0, .int p0), (1, .long p1), (3, .int p3)]) hx hb dX10_nearest_177 hl (by decide) rfl (fun ls hl => ?_)
                      exact J_14 0 H locs ls ⟨hP.sub (ws' := []) [] rfl, hS, lv_sub (l' := [(13, .int 0), (11, .long y_13), (9, .long y_11), (7, .long y_9), (6, .int y_7), (5, .int x_5), (4, .int y_2), (0, .int p0), (1, .long p1), (3, .int p3)]) hl [0, 1, 2, 3, 4, 5, 6, 7, 8, 9] rfl⟩
                    · skip
                      refine lv_lload hx hb dX10_nearest_163 (lv_at hl 2 rfl) ?_
                      refine lv_lconst (v := 1) hx hb dX10_nearest_165 (by decide) ?_
                      refine lv_land hx hb dX10_nearest_166 ?_
                      refine lv_topl (fun x_40 ex_40 => ?_)
                      refine lv_lconst (v := 1) hx hb dX10_nearest_167 (by decide) ?_
                      refine W.lcmp hx hb dX10_nearest_168 ?_
                      refine lv_if_ne (tgt := 176) hx hb dX10_nearest_169 (by decide) (fun c_41 => ?_) (fun c_41 => ?_)
                      · skip
                        rw [g_c_eq] at c_41
                        refine lv_iconst (v := 0) hx hb dX10_nearest_176 (by decide) ?_
                        refine lv_istore (lv' := [(13, .int 0), (11, .long y_13), (9, .long y_11), (7, .long y_9), (6, .int y_7), (5, .int x_5), (4, .int y_2), (0, .int p0), (1, .long p1), (3, .int p3)]) hx hb dX10_nearest_177 hl (by decide) rfl (fun ls hl => ?_)
                        exact J_14 0 H locs ls ⟨hP.sub (ws' := []) [] rfl, hS, lv_sub (l' := [(13, .int 0), (11, .long y_13), (9, .long y_11), (7, .long y_9), (6, .int y_7), (5, .int x_5), (4, .int y_2), (0, .int p0), (1, .long p1), (3, .int p3)]) hl [0, 1, 2, 3, 4, 5, 6, 7, 8, 9] rfl⟩
                      · skip
                        rw [g_c_eq] at c_41
                        refine lv_iconst (v := 1) hx hb dX10_nearest_172 (by decide) ?_
                        refine lv_goto (tgt := 177) hx hb dX10_nearest_173 (by decide) ?_
                        refine lv_istore (lv' := [(13, .int 1), (11, .long y_13), (9, .long y_11), (7, .long y_9), (6, .int y_7), (5, .int x_5), (4, .int y_2), (0, .int p0), (1, .long p1), (3, .int p3)]) hx hb dX10_nearest_177 hl (by decide) rfl (fun ls hl => ?_)
                        exact J_14 1 H locs ls ⟨hP.sub (ws' := []) [] rfl, hS, lv_sub (l' := [(13, .int 1), (11, .long y_13), (9, .long y_11), (7, .long y_9), (6, .int y_7), (5, .int x_5), (4, .int y_2), (0, .int p0), (1, .long p1), (3, .int p3)]) hl [0, 1, 2, 3, 4, 5, 6, 7, 8, 9] rfl⟩
            · skip
              refine lv_iload hx hb dX10_nearest_112 (lv_at hl 2 rfl) ?_
              refine lv_if_gt (tgt := 121) hx hb dX10_nearest_114 (by decide) (fun c_42 => ?_) (fun c_42 => ?_)
              · skip
                refine lv_iload hx hb dX10_nearest_121 (lv_at hl 2 rfl) ?_
                refine lv_bipush (v := 62) hx hb dX10_nearest_123 (by decide) ?_
                refine lv_icmp_le (tgt := 134) hx hb dX10_nearest_125 (by decide) (fun c_43 => ?_) (fun c_43 => ?_)
                · skip
                  refine lv_lconst (v := 1) hx hb dX10_nearest_134 (by decide) ?_
                  refine lv_iload hx hb dX10_nearest_135 (lv_at hl 2 rfl) ?_
                  refine lv_iconst (v := 1) hx hb dX10_nearest_137 (by decide) ?_
                  refine lv_isub hx hb dX10_nearest_138 ?_
                  refine lv_topi (fun x_44 ex_44 => ?_)
                  refine lv_lshl hx hb dX10_nearest_139 rfl ?_
                  refine lv_topl (fun x_45 ex_45 => ?_)
                  refine lv_lstore (lv' := [(11, .long x_45), (9, .long y_11), (7, .long y_9), (6, .int y_7), (5, .int x_5), (4, .int y_2), (0, .int p0), (1, .long p1), (3, .int p3)]) hx hb dX10_nearest_140 hl (by decide) rfl (fun ls hl => ?_)
                  exact J_12 x_45 H locs ls ⟨hP.sub (ws' := []) [] rfl, hS, lv_sub (l' := [(11, .long x_45), (9, .long y_11), (7, .long y_9), (6, .int y_7), (5, .int x_5), (4, .int y_2), (0, .int p0), (1, .long p1), (3, .int p3)]) hl [0, 1, 2, 3, 4, 5, 6, 7, 8] rfl⟩
                · skip
                  refine lv_ldc2 (v := 2) hx hb hown (hts (.constantLong RX10 99 (2)) (List.mem_of_getElem? (i := 8) rfl)) dX10_nearest_128 ?_
                  refine lv_goto (tgt := 140) hx hb dX10_nearest_131 (by decide) ?_
                  refine lv_lstore (lv' := [(11, .long 2), (9, .long y_11), (7, .long y_9), (6, .int y_7), (5, .int x_5), (4, .int y_2), (0, .int p0), (1, .long p1), (3, .int p3)]) hx hb dX10_nearest_140 hl (by decide) rfl (fun ls hl => ?_)
                  exact J_12 2 H locs ls ⟨hP.sub (ws' := []) [] rfl, hS, lv_sub (l' := [(11, .long 2), (9, .long y_11), (7, .long y_9), (6, .int y_7), (5, .int x_5), (4, .int y_2), (0, .int p0), (1, .long p1), (3, .int p3)]) hl [0, 1, 2, 3, 4, 5, 6, 7, 8] rfl⟩
              · skip
                refine lv_lconst (v := 1) hx hb dX10_nearest_117 (by decide) ?_
                refine lv_goto (tgt := 140) hx hb dX10_nearest_118 (by decide) ?_
                refine lv_lstore (lv' := [(11, .long 1), (9, .long y_11), (7, .long y_9), (6, .int y_7), (5, .int x_5), (4, .int y_2), (0, .int p0), (1, .long p1), (3, .int p3)]) hx hb dX10_nearest_140 hl (by decide) rfl (fun ls hl => ?_)
                exact J_12 1 H locs ls ⟨hP.sub (ws' := []) [] rfl, hS, lv_sub (l' := [(11, .long 1), (9, .long y_11), (7, .long y_9), (6, .int y_7), (5, .int x_5), (4, .int y_2), (0, .int p0), (1, .long p1), (3, .int p3)]) hl [0, 1, 2, 3, 4, 5, 6, 7, 8] rfl⟩
          · skip
            refine lv_iload hx hb dX10_nearest_82 (lv_at hl 1 rfl) ?_
            refine lv_if_gt (tgt := 91) hx hb dX10_nearest_84 (by decide) (fun c_46 => ?_) (fun c_46 => ?_)
            · skip
              refine lv_iload hx hb dX10_nearest_91 (lv_at hl 1 rfl) ?_
              refine lv_bipush (v := 62) hx hb dX10_nearest_93 (by decide) ?_
              refine lv_icmp_le (tgt := 102) hx hb dX10_nearest_95 (by decide) (fun c_47 => ?_) (fun c_47 => ?_)
              · skip
                refine lv_lload_n hx hb dX10_nearest_102 rfl (lv_at hl 5 rfl) ?_
                refine lv_lconst (v := 1) hx hb dX10_nearest_103 (by decide) ?_
                refine lv_iload hx hb dX10_nearest_104 (lv_at hl 1 rfl) ?_
                refine lv_lshl hx hb dX10_nearest_106 rfl ?_
                refine lv_topl (fun x_48 ex_48 => ?_)
                refine lv_lconst (v := 1) hx hb dX10_nearest_107 (by decide) ?_
                refine lv_lsub hx hb dX10_nearest_108 ?_
                refine lv_topl (fun x_49 ex_49 => ?_)
                refine lv_land hx hb dX10_nearest_109 ?_
                refine lv_topl (fun x_50 ex_50 => ?_)
                refine lv_lstore (lv' := [(9, .long x_50), (7, .long y_9), (6, .int y_7), (5, .int x_5), (4, .int y_2), (0, .int p0), (1, .long p1), (3, .int p3)]) hx hb dX10_nearest_110 hl (by decide) rfl (fun ls hl => ?_)
                exact J_10 x_50 H locs ls ⟨hP.sub (ws' := []) [] rfl, hS, lv_sub (l' := [(9, .long x_50), (7, .long y_9), (6, .int y_7), (5, .int x_5), (4, .int y_2), (0, .int p0), (1, .long p1), (3, .int p3)]) hl [0, 1, 2, 3, 4, 5, 6, 7] rfl⟩
              · skip
                refine lv_lconst (v := 1) hx hb dX10_nearest_98 (by decide) ?_
                refine lv_goto (tgt := 110) hx hb dX10_nearest_99 (by decide) ?_
                refine lv_lstore (lv' := [(9, .long 1), (7, .long y_9), (6, .int y_7), (5, .int x_5), (4, .int y_2), (0, .int p0), (1, .long p1), (3, .int p3)]) hx hb dX10_nearest_110 hl (by decide) rfl (fun ls hl => ?_)
                exact J_10 1 H locs ls ⟨hP.sub (ws' := []) [] rfl, hS, lv_sub (l' := [(9, .long 1), (7, .long y_9), (6, .int y_7), (5, .int x_5), (4, .int y_2), (0, .int p0), (1, .long p1), (3, .int p3)]) hl [0, 1, 2, 3, 4, 5, 6, 7] rfl⟩
            · skip
              refine lv_lconst (v := 0) hx hb dX10_nearest_87 (by decide) ?_
              refine lv_goto (tgt := 110) hx hb dX10_nearest_88 (by decide) ?_
              refine lv_lstore (lv' := [(9, .long 0), (7, .long y_9), (6, .int y_7), (5, .int x_5), (4, .int y_2), (0, .int p0), (1, .long p1), (3, .int p3)]) hx hb dX10_nearest_110 hl (by decide) rfl (fun ls hl => ?_)
              exact J_10 0 H locs ls ⟨hP.sub (ws' := []) [] rfl, hS, lv_sub (l' := [(9, .long 0), (7, .long y_9), (6, .int y_7), (5, .int x_5), (4, .int y_2), (0, .int p0), (1, .long p1), (3, .int p3)]) hl [0, 1, 2, 3, 4, 5, 6, 7] rfl⟩
        · skip
          refine lv_iload hx hb dX10_nearest_52 (lv_at hl 0 rfl) ?_
          refine lv_if_gt (tgt := 65) hx hb dX10_nearest_54 (by decide) (fun c_51 => ?_) (fun c_51 => ?_)
          · skip
            refine lv_iload hx hb dX10_nearest_65 (lv_at hl 0 rfl) ?_
            refine lv_bipush (v := 62) hx hb dX10_nearest_67 (by decide) ?_
            refine lv_icmp_le (tgt := 76) hx hb dX10_nearest_69 (by decide) (fun c_52 => ?_) (fun c_52 => ?_)
            · skip
              refine lv_lload_n hx hb dX10_nearest_76 rfl (lv_at hl 4 rfl) ?_
              refine lv_iload hx hb dX10_nearest_77 (lv_at hl 0 rfl) ?_
              refine lv_lshr hx hb dX10_nearest_79 rfl ?_
              refine lv_topl (fun x_53 ex_53 => ?_)
              refine lv_lstore (lv' := [(7, .long x_53), (6, .int y_7), (5, .int x_5), (4, .int y_2), (0, .int p0), (1, .long p1), (3, .int p3)]) hx hb dX10_nearest_80 hl (by decide) rfl (fun ls hl => ?_)
              exact J_8 x_53 H locs ls ⟨hP.sub (ws' := []) [] rfl, hS, lv_sub (l' := [(7, .long x_53), (6, .int y_7), (5, .int x_5), (4, .int y_2), (0, .int p0), (1, .long p1), (3, .int p3)]) hl [0, 1, 2, 3, 4, 5, 6] rfl⟩
            · skip
              refine lv_lconst (v := 0) hx hb dX10_nearest_72 (by decide) ?_
              refine lv_goto (tgt := 80) hx hb dX10_nearest_73 (by decide) ?_
              refine lv_lstore (lv' := [(7, .long 0), (6, .int y_7), (5, .int x_5), (4, .int y_2), (0, .int p0), (1, .long p1), (3, .int p3)]) hx hb dX10_nearest_80 hl (by decide) rfl (fun ls hl => ?_)
              exact J_8 0 H locs ls ⟨hP.sub (ws' := []) [] rfl, hS, lv_sub (l' := [(7, .long 0), (6, .int y_7), (5, .int x_5), (4, .int y_2), (0, .int p0), (1, .long p1), (3, .int p3)]) hl [0, 1, 2, 3, 4, 5, 6] rfl⟩
          · skip
            refine lv_lload_n hx hb dX10_nearest_57 rfl (lv_at hl 4 rfl) ?_
            refine lv_iload hx hb dX10_nearest_58 (lv_at hl 0 rfl) ?_
            refine lv_ineg hx hb dX10_nearest_60 ?_
            refine lv_topi (fun x_54 ex_54 => ?_)
            refine lv_lshl hx hb dX10_nearest_61 rfl ?_
            refine lv_topl (fun x_55 ex_55 => ?_)
            refine lv_goto (tgt := 80) hx hb dX10_nearest_62 (by decide) ?_
            refine lv_lstore (lv' := [(7, .long x_55), (6, .int y_7), (5, .int x_5), (4, .int y_2), (0, .int p0), (1, .long p1), (3, .int p3)]) hx hb dX10_nearest_80 hl (by decide) rfl (fun ls hl => ?_)
            exact J_8 x_55 H locs ls ⟨hP.sub (ws' := []) [] rfl, hS, lv_sub (l' := [(7, .long x_55), (6, .int y_7), (5, .int x_5), (4, .int y_2), (0, .int p0), (1, .long p1), (3, .int p3)]) hl [0, 1, 2, 3, 4, 5, 6] rfl⟩
      · skip
        refine lv_iload_n hx hb dX10_nearest_30 rfl (lv_at hl 4 rfl) ?_
        refine lv_iload hx hb dX10_nearest_31 (lv_at hl 0 rfl) ?_
        refine lv_iadd hx hb dX10_nearest_33 ?_
        refine lv_topi (fun x_56 ex_56 => ?_)
        refine lv_sipush (v := (-149)) hx hb dX10_nearest_34 (by decide) ?_
        refine lv_icmp_ge (tgt := 48) hx hb dX10_nearest_37 (by decide) (fun c_57 => ?_) (fun c_57 => ?_)
        · skip
          refine lv_iload hx hb dX10_nearest_48 (lv_at hl 0 rfl) ?_
          refine lv_istore (lv' := [(6, .int x_5), (5, .int x_5), (4, .int y_2), (0, .int p0), (1, .long p1), (3, .int p3)]) hx hb dX10_nearest_50 hl (by decide) rfl (fun ls hl => ?_)
          exact J_6 x_5 H locs ls ⟨hP.sub (ws' := []) [] rfl, hS, lv_sub (l' := [(6, .int x_5), (5, .int x_5), (4, .int y_2), (0, .int p0), (1, .long p1), (3, .int p3)]) hl [0, 1, 2, 3, 4, 5] rfl⟩
        · skip
          refine lv_sipush (v := (-149)) hx hb dX10_nearest_40 (by decide) ?_
          refine lv_iload_n hx hb dX10_nearest_43 rfl (lv_at hl 4 rfl) ?_
          refine lv_isub hx hb dX10_nearest_44 ?_
          refine lv_topi (fun x_58 ex_58 => ?_)
          refine lv_goto (tgt := 50) hx hb dX10_nearest_45 (by decide) ?_
          refine lv_istore (lv' := [(6, .int x_58), (5, .int x_5), (4, .int y_2), (0, .int p0), (1, .long p1), (3, .int p3)]) hx hb dX10_nearest_50 hl (by decide) rfl (fun ls hl => ?_)
          exact J_6 x_58 H locs ls ⟨hP.sub (ws' := []) [] rfl, hS, lv_sub (l' := [(6, .int x_58), (5, .int x_5), (4, .int y_2), (0, .int p0), (1, .long p1), (3, .int p3)]) hl [0, 1, 2, 3, 4, 5] rfl⟩
    · skip
      rw [g_c_eq] at c_3
      refine lv_iload hx hb dX10_nearest_18 (lv_at hl 0 rfl) ?_
      refine W.widen (k := 0) (n := 0) (Nat.le_of_ble_eq_true rfl) (Nat.le_of_ble_eq_true rfl) ?_
      have hP9 := hP.sub (ws' := []) [] rfl
      have hD9 := hD.sub (ws' := []) [] (by decide) rfl
      exact W.iret (v := y_2) hx hb hr (fun t ht hW => ⟨⟨y_2, (), rfl, trivial, by rw [ht]; exact hP9, hD9⟩, hS.F ht⟩) hS.2.2 dX10_nearest_20
  · skip
    refine lv_iload_n hx hb dX10_nearest_0 rfl (lv_at hl 0 rfl) ?_
    refine lv_if_eq (tgt := 9) hx hb dX10_nearest_1 (by decide) (fun c_59 => ?_) (fun c_59 => ?_)
    · skip
      refine lv_iconst (v := 0) hx hb dX10_nearest_9 (by decide) ?_
      refine lv_istore (lv' := [(4, .int 0), (0, .int p0), (1, .long p1), (3, .int p3)]) hx hb dX10_nearest_10 hl (by decide) rfl (fun ls hl => ?_)
      exact J_1 0 H locs ls ⟨hP.sub (ws' := []) [] rfl, hS, lv_sub (l' := [(4, .int 0), (0, .int p0), (1, .long p1), (3, .int p3)]) hl [0, 1, 2, 3] rfl⟩
    · skip
      refine lv_ldc (v := (-2147483648)) hx hb hown (hts (.constant RX10 113 (-2147483648)) (List.mem_of_getElem? (i := 9) rfl)) dX10_nearest_4 ?_
      refine lv_goto (tgt := 10) hx hb dX10_nearest_6 (by decide) ?_
      refine lv_istore (lv' := [(4, .int (-2147483648)), (0, .int p0), (1, .long p1), (3, .int p3)]) hx hb dX10_nearest_10 hl (by decide) rfl (fun ls hl => ?_)
      exact J_1 (-2147483648) H locs ls ⟨hP.sub (ws' := []) [] rfl, hS, lv_sub (l' := [(4, .int (-2147483648)), (0, .int p0), (1, .long p1), (3, .int p3)]) hl [0, 1, 2, 3] rfl⟩
def oc_X10_floatOf : List Cond := [.methodLink RX10 140 yX10_nearest, .static yX10_nearest, .initialized RX10]
def vc_X10_floatOf : List Cond := .code yX10_floatOf cX10_floatOf 2 (some .int) :: (oc_X10_floatOf ++ (vc_X10_nearest))
theorem ic_c_X10_floatOf_c_X10_nearest : ∀ w ∈ vc_X10_nearest, w ∈ vc_X10_floatOf := fun _ h => List.mem_cons_of_mem _ (List.mem_append_right _ (h))
theorem gd_c_X10_floatOf : (vc_X10_floatOf).all goodWord = true := by decide +kernel
set_option maxHeartbeats 4000000 in
set_option maxRecDepth 100000 in
theorem c_X10_floatOf (l : Launch) (dC : Nat → ClassId) (dI : Nat → Nat → Nat) (cI cT cS : ClassId) (sz : Nat) (p0 : Int64) (hb : -9223372036854775808 < p0.toInt) : gCI (S := Unit) l yX10_floatOf vc_X10_floatOf ({ frames := 2, cells := 0, slots := 0, locals := 59 }) (dC, dI) (gTY cI cT cS) sz [.long p0] [] (fun r u => True) (fun _ => []) 0 0 := by
  refine Met.ofW (cc := cX10_floatOf) (maxL := 2) (ret := (some .int)) (by decide) rfl ?_
  intro p e s m args below meth c s₁ B hml hv
  obtain ⟨rfl, hsz, hP, hK, hD0⟩ := hv
  have hx := B.exec
  have hb := B.bytes
  have hr := B.returns
  have hts := atoms_spec (ws := vc_X10_floatOf) B.pre
  have hown : s.vm.findClass RX10 = some m.cls := findClass_of_methodNamed B.named
  have hlocks := B.notSynchronized
  subst hsz
  have hD := hD0.self (sz := s.heap.size)
  generalize hAe : va_A [] s.heap.size = A at hD ⊢
  have hA : ∀ q : Nat, s.heap.size ≤ q → A q := fun q h => by rw [← hAe]; exact Or.inr h
  refine gstart (fun H locs hHe hLe => ?_)
  have hS : va_S A s.heap H locs := by rw [← hHe, ← hLe]; exact va_S.rf
  replace hP : va_P (dC, dI) vwCl [] H := by rw [← hHe]; exact hP
  clear hHe hLe
  have hl := lv_entry ([.long p0]) (n := 2) (Nat.le_of_ble_eq_true rfl)
  rw [lg_entry_eq]
  generalize (lg_sl ([.long p0]) ++ List.replicate (2 - (lg_sl ([.long p0])).length) Slot.unset).toArray = ls at hl ⊢
  replace hl : lv_has ls 2 [(0, .long p0)] := hl
  refine lv_lload_n hx hb dX10_floatOf_0 rfl (lv_at hl 0 rfl) ?_
  refine lv_lconst (v := 0) hx hb dX10_floatOf_1 (by decide) ?_
  refine W.lcmp hx hb dX10_floatOf_2 ?_
  refine lv_if_ge (tgt := 10) hx hb dX10_floatOf_3 (by decide) (fun c_1 => ?_) (fun c_1 => ?_)
  · skip
    rw [g_c_ge] at c_1
    refine lv_iconst (v := 0) hx hb dX10_floatOf_10 (by decide) ?_
    refine lv_lload_n hx hb dX10_floatOf_11 rfl (lv_at hl 0 rfl) ?_
    refine lv_lconst (v := 0) hx hb dX10_floatOf_12 (by decide) ?_
    refine W.lcmp hx hb dX10_floatOf_13 ?_
    refine lv_if_ge (tgt := 22) hx hb dX10_floatOf_14 (by decide) (fun c_2 => ?_) (fun c_2 => ?_)
    · skip
      rw [g_c_ge] at c_2
      refine lv_lload_n hx hb dX10_floatOf_22 rfl (lv_at hl 0 rfl) ?_
      refine lv_iconst (v := 0) hx hb dX10_floatOf_23 (by decide) ?_
      refine gcalli (S := Unit) (wc := []) (wr := []) (w1 := fun _ => []) (va_runS (As := [.int 0, .long p0, .int 0]) (rest := []) ⟨hx, hb, hml, hown, hts⟩ (c_X10_nearest l dC dI cI cT cS H.size 0 0 p0 (by (try simp only [← Int32.toInt_inj, Int32.lt_iff_toInt_lt, Int32.le_iff_toInt_le, ← Int64.toInt_inj, Int64.lt_iff_toInt_lt, Int64.le_iff_toInt_le, Int32.toInt_toInt64, (show (0 : Int32).toInt = 0 from rfl), (show (1 : Int32).toInt = 1 from rfl), (show (0 : Int64).toInt = 0 from rfl)] at c_1); (try simp only [← Int32.toInt_inj, Int32.lt_iff_toInt_lt, Int32.le_iff_toInt_le, ← Int64.toInt_inj, Int64.lt_iff_toInt_lt, Int64.le_iff_toInt_le, Int32.toInt_toInt64, (show (0 : Int32).toInt = 0 from rfl), (show (1 : Int32).toInt = 1 from rfl), (show (0 : Int64).toInt = 0 from rfl)] at c_2); omega)) (va_cwS 3 hts (gWS (List.mem_of_getElem? (i := 1) rfl) (List.mem_of_getElem? (i := 2) rfl) (List.mem_of_getElem? (i := 3) rfl) ic_c_X10_floatOf_c_X10_nearest gd_c_X10_nearest) rfl rfl rfl (by decide +kernel) ⟨(Nat.le_of_ble_eq_true rfl), (Nat.le_of_ble_eq_true rfl)⟩) (gpS (hP.sub (ws' := []) [] rfl) hK (hD.sub (ws' := []) [] (by decide) rfl)) rfl rfl hl.1 rfl (lv_room (Nat.le_of_ble_eq_true rfl)) dX10_floatOf_24 ⟨(Nat.le_of_ble_eq_true rfl), (Nat.le_of_ble_eq_true rfl)⟩) hP hD hS hA [] [] rfl rfl (by decide) (by decide) (fun r_3 ur_3 H locs wr_3 hP hD hS => ?_)
      replace hP : va_P (dC, dI) vwCl [] H := hP
      replace hD : va_D A [] := hD
      refine W.widen (k := 0) (n := 0) (Nat.le_of_ble_eq_true rfl) (Nat.le_of_ble_eq_true rfl) ?_
      have hP9 := hP.sub (ws' := []) [] rfl
      have hD9 := hD.sub (ws' := []) [] (by decide) rfl
      exact W.iret (v := r_3) hx hb hr (fun t ht hW => ⟨⟨r_3, (), rfl, trivial, by rw [ht]; exact hP9, hD9⟩, hS.F ht⟩) hS.2.2 dX10_floatOf_27
    · skip
      rw [g_c_ge] at c_2
      refine lv_lload_n hx hb dX10_floatOf_17 rfl (lv_at hl 0 rfl) ?_
      refine lv_lneg hx hb dX10_floatOf_18 ?_
      refine lv_topl (fun x_4 ex_4 => ?_)
      refine lv_goto (tgt := 23) hx hb dX10_floatOf_19 (by decide) ?_
      refine lv_iconst (v := 0) hx hb dX10_floatOf_23 (by decide) ?_
      refine gcalli (S := Unit) (wc := []) (wr := []) (w1 := fun _ => []) (va_runS (As := [.int 0, .long x_4, .int 0]) (rest := []) ⟨hx, hb, hml, hown, hts⟩ (c_X10_nearest l dC dI cI cT cS H.size 0 0 x_4 (by have hq := g_negL ex_4 rfl (by (try simp only [← Int32.toInt_inj, Int32.lt_iff_toInt_lt, Int32.le_iff_toInt_le, ← Int64.toInt_inj, Int64.lt_iff_toInt_lt, Int64.le_iff_toInt_le, Int32.toInt_toInt64, (show (0 : Int32).toInt = 0 from rfl), (show (1 : Int32).toInt = 1 from rfl), (show (0 : Int64).toInt = 0 from rfl)] at c_1); (try simp only [← Int32.toInt_inj, Int32.lt_iff_toInt_lt, Int32.le_iff_toInt_le, ← Int64.toInt_inj, Int64.lt_iff_toInt_lt, Int64.le_iff_toInt_le, Int32.toInt_toInt64, (show (0 : Int32).toInt = 0 from rfl), (show (1 : Int32).toInt = 1 from rfl), (show (0 : Int64).toInt = 0 from rfl)] at c_2); omega); (try simp only [← Int32.toInt_inj, Int32.lt_iff_toInt_lt, Int32.le_iff_toInt_le, ← Int64.toInt_inj, Int64.lt_iff_toInt_lt, Int64.le_iff_toInt_le, Int32.toInt_toInt64, (show (0 : Int32).toInt = 0 from rfl), (show (1 : Int32).toInt = 1 from rfl), (show (0 : Int64).toInt = 0 from rfl)] at c_1); (try simp only [← Int32.toInt_inj, Int32.lt_iff_toInt_lt, Int32.le_iff_toInt_le, ← Int64.toInt_inj, Int64.lt_iff_toInt_lt, Int64.le_iff_toInt_le, Int32.toInt_toInt64, (show (0 : Int32).toInt = 0 from rfl), (show (1 : Int32).toInt = 1 from rfl), (show (0 : Int64).toInt = 0 from rfl)] at c_2); omega)) (va_cwS 3 hts (gWS (List.mem_of_getElem? (i := 1) rfl) (List.mem_of_getElem? (i := 2) rfl) (List.mem_of_getElem? (i := 3) rfl) ic_c_X10_floatOf_c_X10_nearest gd_c_X10_nearest) rfl rfl rfl (by decide +kernel) ⟨(Nat.le_of_ble_eq_true rfl), (Nat.le_of_ble_eq_true rfl)⟩) (gpS (hP.sub (ws' := []) [] rfl) hK (hD.sub (ws' := []) [] (by decide) rfl)) rfl rfl hl.1 rfl (lv_room (Nat.le_of_ble_eq_true rfl)) dX10_floatOf_24 ⟨(Nat.le_of_ble_eq_true rfl), (Nat.le_of_ble_eq_true rfl)⟩) hP hD hS hA [] [] rfl rfl (by decide) (by decide) (fun r_5 ur_5 H locs wr_5 hP hD hS => ?_)
      replace hP : va_P (dC, dI) vwCl [] H := hP
      replace hD : va_D A [] := hD
      refine W.widen (k := 0) (n := 0) (Nat.le_of_ble_eq_true rfl) (Nat.le_of_ble_eq_true rfl) ?_
      have hP9 := hP.sub (ws' := []) [] rfl
      have hD9 := hD.sub (ws' := []) [] (by decide) rfl
      exact W.iret (v := r_5) hx hb hr (fun t ht hW => ⟨⟨r_5, (), rfl, trivial, by rw [ht]; exact hP9, hD9⟩, hS.F ht⟩) hS.2.2 dX10_floatOf_27
  · skip
    rw [g_c_ge] at c_1
    refine lv_iconst (v := 1) hx hb dX10_floatOf_6 (by decide) ?_
    refine lv_goto (tgt := 11) hx hb dX10_floatOf_7 (by decide) ?_
    refine lv_lload_n hx hb dX10_floatOf_11 rfl (lv_at hl 0 rfl) ?_
    refine lv_lconst (v := 0) hx hb dX10_floatOf_12 (by decide) ?_
    refine W.lcmp hx hb dX10_floatOf_13 ?_
    refine lv_if_ge (tgt := 22) hx hb dX10_floatOf_14 (by decide) (fun c_6 => ?_) (fun c_6 => ?_)
    · skip
      rw [g_c_ge] at c_6
      refine lv_lload_n hx hb dX10_floatOf_22 rfl (lv_at hl 0 rfl) ?_
      refine lv_iconst (v := 0) hx hb dX10_floatOf_23 (by decide) ?_
      refine gcalli (S := Unit) (wc := []) (wr := []) (w1 := fun _ => []) (va_runS (As := [.int 1, .long p0, .int 0]) (rest := []) ⟨hx, hb, hml, hown, hts⟩ (c_X10_nearest l dC dI cI cT cS H.size 1 0 p0 (by (try simp only [← Int32.toInt_inj, Int32.lt_iff_toInt_lt, Int32.le_iff_toInt_le, ← Int64.toInt_inj, Int64.lt_iff_toInt_lt, Int64.le_iff_toInt_le, Int32.toInt_toInt64, (show (0 : Int32).toInt = 0 from rfl), (show (1 : Int32).toInt = 1 from rfl), (show (0 : Int64).toInt = 0 from rfl)] at c_1); (try simp only [← Int32.toInt_inj, Int32.lt_iff_toInt_lt, Int32.le_iff_toInt_le, ← Int64.toInt_inj, Int64.lt_iff_toInt_lt, Int64.le_iff_toInt_le, Int32.toInt_toInt64, (show (0 : Int32).toInt = 0 from rfl), (show (1 : Int32).toInt = 1 from rfl), (show (0 : Int64).toInt = 0 from rfl)] at c_6); omega)) (va_cwS 3 hts (gWS (List.mem_of_getElem? (i := 1) rfl) (List.mem_of_getElem? (i := 2) rfl) (List.mem_of_getElem? (i := 3) rfl) ic_c_X10_floatOf_c_X10_nearest gd_c_X10_nearest) rfl rfl rfl (by decide +kernel) ⟨(Nat.le_of_ble_eq_true rfl), (Nat.le_of_ble_eq_true rfl)⟩) (gpS (hP.sub (ws' := []) [] rfl) hK (hD.sub (ws' := []) [] (by decide) rfl)) rfl rfl hl.1 rfl (lv_room (Nat.le_of_ble_eq_true rfl)) dX10_floatOf_24 ⟨(Nat.le_of_ble_eq_true rfl), (Nat.le_of_ble_eq_true rfl)⟩) hP hD hS hA [] [] rfl rfl (by decide) (by decide) (fun r_7 ur_7 H locs wr_7 hP hD hS => ?_)
      replace hP : va_P (dC, dI) vwCl [] H := hP
      replace hD : va_D A [] := hD
      refine W.widen (k := 0) (n := 0) (Nat.le_of_ble_eq_true rfl) (Nat.le_of_ble_eq_true rfl) ?_
      have hP9 := hP.sub (ws' := []) [] rfl
      have hD9 := hD.sub (ws' := []) [] (by decide) rfl
      exact W.iret (v := r_7) hx hb hr (fun t ht hW => ⟨⟨r_7, (), rfl, trivial, by rw [ht]; exact hP9, hD9⟩, hS.F ht⟩) hS.2.2 dX10_floatOf_27
    · skip
      rw [g_c_ge] at c_6
      refine lv_lload_n hx hb dX10_floatOf_17 rfl (lv_at hl 0 rfl) ?_
      refine lv_lneg hx hb dX10_floatOf_18 ?_
      refine lv_topl (fun x_8 ex_8 => ?_)
      refine lv_goto (tgt := 23) hx hb dX10_floatOf_19 (by decide) ?_
      refine lv_iconst (v := 0) hx hb dX10_floatOf_23 (by decide) ?_
      refine gcalli (S := Unit) (wc := []) (wr := []) (w1 := fun _ => []) (va_runS (As := [.int 1, .long x_8, .int 0]) (rest := []) ⟨hx, hb, hml, hown, hts⟩ (c_X10_nearest l dC dI cI cT cS H.size 1 0 x_8 (by have hq := g_negL ex_8 rfl (by (try simp only [← Int32.toInt_inj, Int32.lt_iff_toInt_lt, Int32.le_iff_toInt_le, ← Int64.toInt_inj, Int64.lt_iff_toInt_lt, Int64.le_iff_toInt_le, Int32.toInt_toInt64, (show (0 : Int32).toInt = 0 from rfl), (show (1 : Int32).toInt = 1 from rfl), (show (0 : Int64).toInt = 0 from rfl)] at c_1); (try simp only [← Int32.toInt_inj, Int32.lt_iff_toInt_lt, Int32.le_iff_toInt_le, ← Int64.toInt_inj, Int64.lt_iff_toInt_lt, Int64.le_iff_toInt_le, Int32.toInt_toInt64, (show (0 : Int32).toInt = 0 from rfl), (show (1 : Int32).toInt = 1 from rfl), (show (0 : Int64).toInt = 0 from rfl)] at c_6); omega); (try simp only [← Int32.toInt_inj, Int32.lt_iff_toInt_lt, Int32.le_iff_toInt_le, ← Int64.toInt_inj, Int64.lt_iff_toInt_lt, Int64.le_iff_toInt_le, Int32.toInt_toInt64, (show (0 : Int32).toInt = 0 from rfl), (show (1 : Int32).toInt = 1 from rfl), (show (0 : Int64).toInt = 0 from rfl)] at c_1); (try simp only [← Int32.toInt_inj, Int32.lt_iff_toInt_lt, Int32.le_iff_toInt_le, ← Int64.toInt_inj, Int64.lt_iff_toInt_lt, Int64.le_iff_toInt_le, Int32.toInt_toInt64, (show (0 : Int32).toInt = 0 from rfl), (show (1 : Int32).toInt = 1 from rfl), (show (0 : Int64).toInt = 0 from rfl)] at c_6); omega)) (va_cwS 3 hts (gWS (List.mem_of_getElem? (i := 1) rfl) (List.mem_of_getElem? (i := 2) rfl) (List.mem_of_getElem? (i := 3) rfl) ic_c_X10_floatOf_c_X10_nearest gd_c_X10_nearest) rfl rfl rfl (by decide +kernel) ⟨(Nat.le_of_ble_eq_true rfl), (Nat.le_of_ble_eq_true rfl)⟩) (gpS (hP.sub (ws' := []) [] rfl) hK (hD.sub (ws' := []) [] (by decide) rfl)) rfl rfl hl.1 rfl (lv_room (Nat.le_of_ble_eq_true rfl)) dX10_floatOf_24 ⟨(Nat.le_of_ble_eq_true rfl), (Nat.le_of_ble_eq_true rfl)⟩) hP hD hS hA [] [] rfl rfl (by decide) (by decide) (fun r_9 ur_9 H locs wr_9 hP hD hS => ?_)
      replace hP : va_P (dC, dI) vwCl [] H := hP
      replace hD : va_D A [] := hD
      refine W.widen (k := 0) (n := 0) (Nat.le_of_ble_eq_true rfl) (Nat.le_of_ble_eq_true rfl) ?_
      have hP9 := hP.sub (ws' := []) [] rfl
      have hD9 := hD.sub (ws' := []) [] (by decide) rfl
      exact W.iret (v := r_9) hx hb hr (fun t ht hW => ⟨⟨r_9, (), rfl, trivial, by rw [ht]; exact hP9, hD9⟩, hS.F ht⟩) hS.2.2 dX10_floatOf_27
def oc_X10_place : List Cond := [.constant RX10 124 (2147483647)]
def vc_X10_place : List Cond := .code yX10_place cX10_place 1 (some .int) :: (oc_X10_place)
theorem gd_c_X10_place : (vc_X10_place).all goodWord = true := by decide +kernel
set_option maxHeartbeats 4000000 in
set_option maxRecDepth 100000 in
theorem c_X10_place (l : Launch) (dC : Nat → ClassId) (dI : Nat → Nat → Nat) (cI cT cS : ClassId) (sz : Nat) (p0 : Int32)  : gCI (S := Unit) l yX10_place vc_X10_place ({ frames := 0, cells := 0, slots := 0, locals := 0 }) (dC, dI) (gTY cI cT cS) sz [.int p0] [] (fun r u => True) (fun _ => []) 0 0 := by
  refine Met.ofW (cc := cX10_place) (maxL := 1) (ret := (some .int)) (by decide) rfl ?_
  intro p e s m args below meth c s₁ B hml hv
  obtain ⟨rfl, hsz, hP, hK, hD0⟩ := hv
  have hx := B.exec
  have hb := B.bytes
  have hr := B.returns
  have hts := atoms_spec (ws := vc_X10_place) B.pre
  have hown : s.vm.findClass RX10 = some m.cls := findClass_of_methodNamed B.named
  have hlocks := B.notSynchronized
  subst hsz
  have hD := hD0.self (sz := s.heap.size)
  generalize hAe : va_A [] s.heap.size = A at hD ⊢
  have hA : ∀ q : Nat, s.heap.size ≤ q → A q := fun q h => by rw [← hAe]; exact Or.inr h
  refine gstart (fun H locs hHe hLe => ?_)
  have hS : va_S A s.heap H locs := by rw [← hHe, ← hLe]; exact va_S.rf
  replace hP : va_P (dC, dI) vwCl [] H := by rw [← hHe]; exact hP
  clear hHe hLe
  have hl := lv_entry ([.int p0]) (n := 1) (Nat.le_of_ble_eq_true rfl)
  rw [lg_entry_eq]
  generalize (lg_sl ([.int p0]) ++ List.replicate (1 - (lg_sl ([.int p0])).length) Slot.unset).toArray = ls at hl ⊢
  replace hl : lv_has ls 1 [(0, .int p0)] := hl
  refine lv_iload_n hx hb dX10_place_0 rfl (lv_at hl 0 rfl) ?_
  refine lv_if_ge (tgt := 12) hx hb dX10_place_1 (by decide) (fun c_1 => ?_) (fun c_1 => ?_)
  · skip
    refine lv_iload_n hx hb dX10_place_12 rfl (lv_at hl 0 rfl) ?_
    refine W.widen (k := 0) (n := 0) (Nat.le_of_ble_eq_true rfl) (Nat.le_of_ble_eq_true rfl) ?_
    have hP9 := hP.sub (ws' := []) [] rfl
    have hD9 := hD.sub (ws' := []) [] (by decide) rfl
    exact W.iret (v := p0) hx hb hr (fun t ht hW => ⟨⟨p0, (), rfl, trivial, by rw [ht]; exact hP9, hD9⟩, hS.F ht⟩) hS.2.2 dX10_place_13
  · skip
    refine lv_iload_n hx hb dX10_place_4 rfl (lv_at hl 0 rfl) ?_
    refine lv_ldc (v := 2147483647) hx hb hown (hts (.constant RX10 124 (2147483647)) (List.mem_of_getElem? (i := 1) rfl)) dX10_place_5 ?_
    refine lv_iand hx hb dX10_place_7 ?_
    refine lv_topi (fun x_2 ex_2 => ?_)
    refine lv_ineg hx hb dX10_place_8 ?_
    refine lv_topi (fun x_3 ex_3 => ?_)
    refine lv_goto (tgt := 13) hx hb dX10_place_9 (by decide) ?_
    refine W.widen (k := 0) (n := 0) (Nat.le_of_ble_eq_true rfl) (Nat.le_of_ble_eq_true rfl) ?_
    have hP9 := hP.sub (ws' := []) [] rfl
    have hD9 := hD.sub (ws' := []) [] (by decide) rfl
    exact W.iret (v := x_3) hx hb hr (fun t ht hW => ⟨⟨x_3, (), rfl, trivial, by rw [ht]; exact hP9, hD9⟩, hS.F ht⟩) hS.2.2 dX10_place_13
def oc_X10_turned : List Cond := [.constant RX10 113 (-2147483648)]
def vc_X10_turned : List Cond := .code yX10_turned cX10_turned 1 (some .int) :: (oc_X10_turned)
theorem gd_c_X10_turned : (vc_X10_turned).all goodWord = true := by decide +kernel
set_option maxHeartbeats 4000000 in
set_option maxRecDepth 100000 in
theorem c_X10_turned (l : Launch) (dC : Nat → ClassId) (dI : Nat → Nat → Nat) (cI cT cS : ClassId) (sz : Nat) (p0 : Int32)  : gCI (S := Unit) l yX10_turned vc_X10_turned ({ frames := 0, cells := 0, slots := 0, locals := 0 }) (dC, dI) (gTY cI cT cS) sz [.int p0] [] (fun r u => True) (fun _ => []) 0 0 := by
  refine Met.ofW (cc := cX10_turned) (maxL := 1) (ret := (some .int)) (by decide) rfl ?_
  intro p e s m args below meth c s₁ B hml hv
  obtain ⟨rfl, hsz, hP, hK, hD0⟩ := hv
  have hx := B.exec
  have hb := B.bytes
  have hr := B.returns
  have hts := atoms_spec (ws := vc_X10_turned) B.pre
  have hown : s.vm.findClass RX10 = some m.cls := findClass_of_methodNamed B.named
  have hlocks := B.notSynchronized
  subst hsz
  have hD := hD0.self (sz := s.heap.size)
  generalize hAe : va_A [] s.heap.size = A at hD ⊢
  have hA : ∀ q : Nat, s.heap.size ≤ q → A q := fun q h => by rw [← hAe]; exact Or.inr h
  refine gstart (fun H locs hHe hLe => ?_)
  have hS : va_S A s.heap H locs := by rw [← hHe, ← hLe]; exact va_S.rf
  replace hP : va_P (dC, dI) vwCl [] H := by rw [← hHe]; exact hP
  clear hHe hLe
  have hl := lv_entry ([.int p0]) (n := 1) (Nat.le_of_ble_eq_true rfl)
  rw [lg_entry_eq]
  generalize (lg_sl ([.int p0]) ++ List.replicate (1 - (lg_sl ([.int p0])).length) Slot.unset).toArray = ls at hl ⊢
  replace hl : lv_has ls 1 [(0, .int p0)] := hl
  refine lv_iload_n hx hb dX10_turned_0 rfl (lv_at hl 0 rfl) ?_
  refine lv_ldc (v := (-2147483648)) hx hb hown (hts (.constant RX10 113 (-2147483648)) (List.mem_of_getElem? (i := 1) rfl)) dX10_turned_1 ?_
  refine lv_ixor hx hb dX10_turned_3 ?_
  refine lv_topi (fun x_1 ex_1 => ?_)
  refine W.widen (k := 0) (n := 0) (Nat.le_of_ble_eq_true rfl) (Nat.le_of_ble_eq_true rfl) ?_
  have hP9 := hP.sub (ws' := []) [] rfl
  have hD9 := hD.sub (ws' := []) [] (by decide) rfl
  exact W.iret (v := x_1) hx hb hr (fun t ht hW => ⟨⟨x_1, (), rfl, trivial, by rw [ht]; exact hP9, hD9⟩, hS.F ht⟩) hS.2.2 dX10_turned_4
def oc_X10_isLess : List Cond := [.methodLink RX10 126 yX10_isNan, .static yX10_isNan, .initialized RX10, .methodLink RX10 145 yX10_place, .static yX10_place]
def vc_X10_isLess : List Cond := .code yX10_isLess cX10_isLess 2 (some .boolean) :: (oc_X10_isLess ++ (vc_X10_isNan ++ (vc_X10_place)))
theorem ic_c_X10_isLess_c_X10_isNan : ∀ w ∈ vc_X10_isNan, w ∈ vc_X10_isLess := fun _ h => List.mem_cons_of_mem _ (List.mem_append_right _ (List.mem_append_left _ h))
theorem ic_c_X10_isLess_c_X10_place : ∀ w ∈ vc_X10_place, w ∈ vc_X10_isLess := fun _ h => List.mem_cons_of_mem _ (List.mem_append_right _ (List.mem_append_right _ (h)))
theorem gd_c_X10_isLess : (vc_X10_isLess).all goodWord = true := by decide +kernel
set_option maxHeartbeats 4000000 in
set_option maxRecDepth 100000 in
theorem c_X10_isLess (l : Launch) (dC : Nat → ClassId) (dI : Nat → Nat → Nat) (cI cT cS : ClassId) (sz : Nat) (p0 : Int32) (p1 : Int32)  : gCI (S := Unit) l yX10_isLess vc_X10_isLess ({ frames := 1, cells := 0, slots := 0, locals := 20 }) (dC, dI) (gTY cI cT cS) sz [.int p0, .int p1] [] (fun r u => r = 0 ∨ r = 1) (fun _ => []) 0 0 := by
  refine Met.ofW (cc := cX10_isLess) (maxL := 2) (ret := (some .boolean)) (by decide) rfl ?_
  intro p e s m args below meth c s₁ B hml hv
  obtain ⟨rfl, hsz, hP, hK, hD0⟩ := hv
  have hx := B.exec
  have hb := B.bytes
  have hr := B.returns
  have hts := atoms_spec (ws := vc_X10_isLess) B.pre
  have hown : s.vm.findClass RX10 = some m.cls := findClass_of_methodNamed B.named
  have hlocks := B.notSynchronized
  subst hsz
  have hD := hD0.self (sz := s.heap.size)
  generalize hAe : va_A [] s.heap.size = A at hD ⊢
  have hA : ∀ q : Nat, s.heap.size ≤ q → A q := fun q h => by rw [← hAe]; exact Or.inr h
  refine gstart (fun H locs hHe hLe => ?_)
  have hS : va_S A s.heap H locs := by rw [← hHe, ← hLe]; exact va_S.rf
  replace hP : va_P (dC, dI) vwCl [] H := by rw [← hHe]; exact hP
  clear hHe hLe
  have hl := lv_entry ([.int p0, .int p1]) (n := 2) (Nat.le_of_ble_eq_true rfl)
  rw [lg_entry_eq]
  generalize (lg_sl ([.int p0, .int p1]) ++ List.replicate (2 - (lg_sl ([.int p0, .int p1])).length) Slot.unset).toArray = ls at hl ⊢
  replace hl : lv_has ls 2 [(0, .int p0), (1, .int p1)] := hl
  refine lv_iload_n hx hb dX10_isLess_0 rfl (lv_at hl 0 rfl) ?_
  refine gcalli (S := Unit) (wc := []) (wr := []) (w1 := fun _ => []) (va_runS (As := [.int p0]) (rest := []) ⟨hx, hb, hml, hown, hts⟩ (c_X10_isNan l dC dI cI cT cS H.size p0 ) (va_cwS 1 hts (gWS (List.mem_of_getElem? (i := 1) rfl) (List.mem_of_getElem? (i := 2) rfl) (List.mem_of_getElem? (i := 3) rfl) ic_c_X10_isLess_c_X10_isNan gd_c_X10_isNan) rfl rfl rfl (by decide +kernel) ⟨(Nat.le_of_ble_eq_true rfl), (Nat.le_of_ble_eq_true rfl)⟩) (gpS (hP.sub (ws' := []) [] rfl) hK (hD.sub (ws' := []) [] (by decide) rfl)) rfl rfl hl.1 rfl (lv_room (Nat.le_of_ble_eq_true rfl)) dX10_isLess_1 ⟨(Nat.le_of_ble_eq_true rfl), (Nat.le_of_ble_eq_true rfl)⟩) hP hD hS hA [] [] rfl rfl (by decide) (by decide) (fun r_1 ur_1 H locs wr_1 hP hD hS => ?_)
  replace hP : va_P (dC, dI) vwCl [] H := hP
  replace hD : va_D A [] := hD
  refine lv_if_ne (tgt := 29) hx hb dX10_isLess_4 (by decide) (fun c_2 => ?_) (fun c_2 => ?_)
  · skip
    refine lv_iconst (v := 0) hx hb dX10_isLess_29 (by decide) ?_
    refine W.widen (k := 0) (n := 0) (Nat.le_of_ble_eq_true rfl) (Nat.le_of_ble_eq_true rfl) ?_
    have hP9 := hP.sub (ws' := []) [] rfl
    have hD9 := hD.sub (ws' := []) [] (by decide) rfl
    exact W.zret (v := 0) hx hb hr rfl (fun t ht hW => ⟨⟨0, (), rfl, Or.inl rfl, by rw [ht]; exact hP9, hD9⟩, hS.F ht⟩) hS.2.2 dX10_isLess_30
  · skip
    refine lv_iload_n hx hb dX10_isLess_7 rfl (lv_at hl 1 rfl) ?_
    refine gcalli (S := Unit) (wc := []) (wr := []) (w1 := fun _ => []) (va_runS (As := [.int p1]) (rest := []) ⟨hx, hb, hml, hown, hts⟩ (c_X10_isNan l dC dI cI cT cS H.size p1 ) (va_cwS 1 hts (gWS (List.mem_of_getElem? (i := 1) rfl) (List.mem_of_getElem? (i := 2) rfl) (List.mem_of_getElem? (i := 3) rfl) ic_c_X10_isLess_c_X10_isNan gd_c_X10_isNan) rfl rfl rfl (by decide +kernel) ⟨(Nat.le_of_ble_eq_true rfl), (Nat.le_of_ble_eq_true rfl)⟩) (gpS (hP.sub (ws' := []) [] rfl) hK (hD.sub (ws' := []) [] (by decide) rfl)) rfl rfl hl.1 rfl (lv_room (Nat.le_of_ble_eq_true rfl)) dX10_isLess_8 ⟨(Nat.le_of_ble_eq_true rfl), (Nat.le_of_ble_eq_true rfl)⟩) hP hD hS hA [] [] rfl rfl (by decide) (by decide) (fun r_3 ur_3 H locs wr_3 hP hD hS => ?_)
    replace hP : va_P (dC, dI) vwCl [] H := hP
    replace hD : va_D A [] := hD
    refine lv_if_ne (tgt := 29) hx hb dX10_isLess_11 (by decide) (fun c_4 => ?_) (fun c_4 => ?_)
    · skip
      refine lv_iconst (v := 0) hx hb dX10_isLess_29 (by decide) ?_
      refine W.widen (k := 0) (n := 0) (Nat.le_of_ble_eq_true rfl) (Nat.le_of_ble_eq_true rfl) ?_
      have hP9 := hP.sub (ws' := []) [] rfl
      have hD9 := hD.sub (ws' := []) [] (by decide) rfl
      exact W.zret (v := 0) hx hb hr rfl (fun t ht hW => ⟨⟨0, (), rfl, Or.inl rfl, by rw [ht]; exact hP9, hD9⟩, hS.F ht⟩) hS.2.2 dX10_isLess_30
    · skip
      refine lv_iload_n hx hb dX10_isLess_14 rfl (lv_at hl 0 rfl) ?_
      refine gcalli (S := Unit) (wc := []) (wr := []) (w1 := fun _ => []) (va_runS (As := [.int p0]) (rest := []) ⟨hx, hb, hml, hown, hts⟩ (c_X10_place l dC dI cI cT cS H.size p0 ) (va_cwS 1 hts (gWS (List.mem_of_getElem? (i := 4) rfl) (List.mem_of_getElem? (i := 5) rfl) (List.mem_of_getElem? (i := 3) rfl) ic_c_X10_isLess_c_X10_place gd_c_X10_place) rfl rfl rfl (by decide +kernel) ⟨(Nat.le_of_ble_eq_true rfl), (Nat.le_of_ble_eq_true rfl)⟩) (gpS (hP.sub (ws' := []) [] rfl) hK (hD.sub (ws' := []) [] (by decide) rfl)) rfl rfl hl.1 rfl (lv_room (Nat.le_of_ble_eq_true rfl)) dX10_isLess_15 ⟨(Nat.le_of_ble_eq_true rfl), (Nat.le_of_ble_eq_true rfl)⟩) hP hD hS hA [] [] rfl rfl (by decide) (by decide) (fun r_5 ur_5 H locs wr_5 hP hD hS => ?_)
      replace hP : va_P (dC, dI) vwCl [] H := hP
      replace hD : va_D A [] := hD
      refine lv_iload_n hx hb dX10_isLess_18 rfl (lv_at hl 1 rfl) ?_
      refine gcalli (S := Unit) (wc := []) (wr := []) (w1 := fun _ => []) (va_runS (As := [.int p1]) (rest := [.int r_5]) ⟨hx, hb, hml, hown, hts⟩ (c_X10_place l dC dI cI cT cS H.size p1 ) (va_cwS 1 hts (gWS (List.mem_of_getElem? (i := 4) rfl) (List.mem_of_getElem? (i := 5) rfl) (List.mem_of_getElem? (i := 3) rfl) ic_c_X10_isLess_c_X10_place gd_c_X10_place) rfl rfl rfl (by decide +kernel) ⟨(Nat.le_of_ble_eq_true rfl), (Nat.le_of_ble_eq_true rfl)⟩) (gpS (hP.sub (ws' := []) [] rfl) hK (hD.sub (ws' := []) [] (by decide) rfl)) rfl rfl hl.1 rfl (lv_room (Nat.le_of_ble_eq_true rfl)) dX10_isLess_19 ⟨(Nat.le_of_ble_eq_true rfl), (Nat.le_of_ble_eq_true rfl)⟩) hP hD hS hA [] [] rfl rfl (by decide) (by decide) (fun r_6 ur_6 H locs wr_6 hP hD hS => ?_)
      replace hP : va_P (dC, dI) vwCl [] H := hP
      replace hD : va_D A [] := hD
      refine lv_icmp_ge (tgt := 29) hx hb dX10_isLess_22 (by decide) (fun c_7 => ?_) (fun c_7 => ?_)
      · skip
        refine lv_iconst (v := 0) hx hb dX10_isLess_29 (by decide) ?_
        refine W.widen (k := 0) (n := 0) (Nat.le_of_ble_eq_true rfl) (Nat.le_of_ble_eq_true rfl) ?_
        have hP9 := hP.sub (ws' := []) [] rfl
        have hD9 := hD.sub (ws' := []) [] (by decide) rfl
        exact W.zret (v := 0) hx hb hr rfl (fun t ht hW => ⟨⟨0, (), rfl, Or.inl rfl, by rw [ht]; exact hP9, hD9⟩, hS.F ht⟩) hS.2.2 dX10_isLess_30
      · skip
        refine lv_iconst (v := 1) hx hb dX10_isLess_25 (by decide) ?_
        refine lv_goto (tgt := 30) hx hb dX10_isLess_26 (by decide) ?_
        refine W.widen (k := 0) (n := 0) (Nat.le_of_ble_eq_true rfl) (Nat.le_of_ble_eq_true rfl) ?_
        have hP9 := hP.sub (ws' := []) [] rfl
        have hD9 := hD.sub (ws' := []) [] (by decide) rfl
        exact W.zret (v := 1) hx hb hr rfl (fun t ht hW => ⟨⟨1, (), rfl, Or.inr rfl, by rw [ht]; exact hP9, hD9⟩, hS.F ht⟩) hS.2.2 dX10_isLess_30
def oc_X10_product : List Cond := [.methodLink RX10 126 yX10_isNan, .static yX10_isNan, .initialized RX10, .constant RX10 129 (2143289344), .methodLink RX10 136 yX10_placesOf, .static yX10_placesOf, .methodLink RX10 133 yX10_powerOf, .static yX10_powerOf, .methodLink RX10 140 yX10_nearest, .static yX10_nearest, .constant RX10 122 (2139095040), .constant RX10 144 (-8388608), .constant RX10 124 (2147483647), .methodLink RX10 130 yX10_isEndless, .static yX10_isEndless]
def vc_X10_product : List Cond := .code yX10_product cX10_product 5 (some .int) :: (oc_X10_product ++ (vc_X10_isNan ++ (vc_X10_placesOf ++ (vc_X10_powerOf ++ (vc_X10_nearest ++ (vc_X10_isEndless))))))
theorem ic_c_X10_product_c_X10_isNan : ∀ w ∈ vc_X10_isNan, w ∈ vc_X10_product := fun _ h => List.mem_cons_of_mem _ (List.mem_append_right _ (List.mem_append_left _ h))
theorem ic_c_X10_product_c_X10_placesOf : ∀ w ∈ vc_X10_placesOf, w ∈ vc_X10_product := fun _ h => List.mem_cons_of_mem _ (List.mem_append_right _ (List.mem_append_right _ (List.mem_append_left _ h)))
theorem ic_c_X10_product_c_X10_powerOf : ∀ w ∈ vc_X10_powerOf, w ∈ vc_X10_product := fun _ h => List.mem_cons_of_mem _ (List.mem_append_right _ (List.mem_append_right _ (List.mem_append_right _ (List.mem_append_left _ h))))
theorem ic_c_X10_product_c_X10_nearest : ∀ w ∈ vc_X10_nearest, w ∈ vc_X10_product := fun _ h => List.mem_cons_of_mem _ (List.mem_append_right _ (List.mem_append_right _ (List.mem_append_right _ (List.mem_append_right _ (List.mem_append_left _ h)))))
theorem ic_c_X10_product_c_X10_isEndless : ∀ w ∈ vc_X10_isEndless, w ∈ vc_X10_product := fun _ h => List.mem_cons_of_mem _ (List.mem_append_right _ (List.mem_append_right _ (List.mem_append_right _ (List.mem_append_right _ (List.mem_append_right _ (h))))))
theorem gd_c_X10_product : (vc_X10_product).all goodWord = true := by decide +kernel
set_option maxHeartbeats 4000000 in
set_option maxRecDepth 100000 in
theorem c_X10_product (l : Launch) (dC : Nat → ClassId) (dI : Nat → Nat → Nat) (cI cT cS : ClassId) (sz : Nat) (p0 : Int32) (p1 : Int32)  : gCI (S := Unit) l yX10_product vc_X10_product ({ frames := 2, cells := 0, slots := 0, locals := 59 }) (dC, dI) (gTY cI cT cS) sz [.int p0, .int p1] [] (fun r u => True) (fun _ => []) 0 0 := by
  refine Met.ofW (cc := cX10_product) (maxL := 5) (ret := (some .int)) (by decide) rfl ?_
  intro p e s m args below meth c s₁ B hml hv
  obtain ⟨rfl, hsz, hP, hK, hD0⟩ := hv
  have hx := B.exec
  have hb := B.bytes
  have hr := B.returns
  have hts := atoms_spec (ws := vc_X10_product) B.pre
  have hown : s.vm.findClass RX10 = some m.cls := findClass_of_methodNamed B.named
  have hlocks := B.notSynchronized
  subst hsz
  have hD := hD0.self (sz := s.heap.size)
  generalize hAe : va_A [] s.heap.size = A at hD ⊢
  have hA : ∀ q : Nat, s.heap.size ≤ q → A q := fun q h => by rw [← hAe]; exact Or.inr h
  refine gstart (fun H locs hHe hLe => ?_)
  have hS : va_S A s.heap H locs := by rw [← hHe, ← hLe]; exact va_S.rf
  replace hP : va_P (dC, dI) vwCl [] H := by rw [← hHe]; exact hP
  clear hHe hLe
  have hl := lv_entry ([.int p0, .int p1]) (n := 5) (Nat.le_of_ble_eq_true rfl)
  rw [lg_entry_eq]
  generalize (lg_sl ([.int p0, .int p1]) ++ List.replicate (5 - (lg_sl ([.int p0, .int p1])).length) Slot.unset).toArray = ls at hl ⊢
  replace hl : lv_has ls 5 [(0, .int p0), (1, .int p1)] := hl
  refine lv_iload_n hx hb dX10_product_0 rfl (lv_at hl 0 rfl) ?_
  refine gcalli (S := Unit) (wc := []) (wr := []) (w1 := fun _ => []) (va_runS (As := [.int p0]) (rest := []) ⟨hx, hb, hml, hown, hts⟩ (c_X10_isNan l dC dI cI cT cS H.size p0 ) (va_cwS 1 hts (gWS (List.mem_of_getElem? (i := 1) rfl) (List.mem_of_getElem? (i := 2) rfl) (List.mem_of_getElem? (i := 3) rfl) ic_c_X10_product_c_X10_isNan gd_c_X10_isNan) rfl rfl rfl (by decide +kernel) ⟨(Nat.le_of_ble_eq_true rfl), (Nat.le_of_ble_eq_true rfl)⟩) (gpS (hP.sub (ws' := []) [] rfl) hK (hD.sub (ws' := []) [] (by decide) rfl)) rfl rfl hl.1 rfl (lv_room (Nat.le_of_ble_eq_true rfl)) dX10_product_1 ⟨(Nat.le_of_ble_eq_true rfl), (Nat.le_of_ble_eq_true rfl)⟩) hP hD hS hA [] [] rfl rfl (by decide) (by decide) (fun r_1 ur_1 H locs wr_1 hP hD hS => ?_)
  replace hP : va_P (dC, dI) vwCl [] H := hP
  replace hD : va_D A [] := hD
  refine lv_if_ne (tgt := 14) hx hb dX10_product_4 (by decide) (fun c_2 => ?_) (fun c_2 => ?_)
  · skip
    refine lv_ldc (v := 2143289344) hx hb hown (hts (.constant RX10 129 (2143289344)) (List.mem_of_getElem? (i := 4) rfl)) dX10_product_14 ?_
    refine W.widen (k := 0) (n := 0) (Nat.le_of_ble_eq_true rfl) (Nat.le_of_ble_eq_true rfl) ?_
    have hP9 := hP.sub (ws' := []) [] rfl
    have hD9 := hD.sub (ws' := []) [] (by decide) rfl
    exact W.iret (v := 2143289344) hx hb hr (fun t ht hW => ⟨⟨2143289344, (), rfl, trivial, by rw [ht]; exact hP9, hD9⟩, hS.F ht⟩) hS.2.2 dX10_product_16
  · skip
    refine lv_iload_n hx hb dX10_product_7 rfl (lv_at hl 1 rfl) ?_
    refine gcalli (S := Unit) (wc := []) (wr := []) (w1 := fun _ => []) (va_runS (As := [.int p1]) (rest := []) ⟨hx, hb, hml, hown, hts⟩ (c_X10_isNan l dC dI cI cT cS H.size p1 ) (va_cwS 1 hts (gWS (List.mem_of_getElem? (i := 1) rfl) (List.mem_of_getElem? (i := 2) rfl) (List.mem_of_getElem? (i := 3) rfl) ic_c_X10_product_c_X10_isNan gd_c_X10_isNan) rfl rfl rfl (by decide +kernel) ⟨(Nat.le_of_ble_eq_true rfl), (Nat.le_of_ble_eq_true rfl)⟩) (gpS (hP.sub (ws' := []) [] rfl) hK (hD.sub (ws' := []) [] (by decide) rfl)) rfl rfl hl.1 rfl (lv_room (Nat.le_of_ble_eq_true rfl)) dX10_product_8 ⟨(Nat.le_of_ble_eq_true rfl), (Nat.le_of_ble_eq_true rfl)⟩) hP hD hS hA [] [] rfl rfl (by decide) (by decide) (fun r_3 ur_3 H locs wr_3 hP hD hS => ?_)
    replace hP : va_P (dC, dI) vwCl [] H := hP
    replace hD : va_D A [] := hD
    refine lv_if_eq (tgt := 17) hx hb dX10_product_11 (by decide) (fun c_4 => ?_) (fun c_4 => ?_)
    · skip
      refine gjoin (α := Int32) 44 (fun y_6 H locs ls => va_P (dC, dI) vwCl [] H ∧ va_S A s.heap H locs ∧ lv_has ls 5 [(2, .int y_6), (0, .int p0), (1, .int p1)]) (fun y_6 H locs ls hI => ?_) (fun J_5 => ?_)
      · skip
        obtain ⟨hP, hS, hl⟩ := hI
        refine gjoin (α := Int32) 64 (fun y_8 H locs ls => va_P (dC, dI) vwCl [] H ∧ va_S A s.heap H locs ∧ lv_has ls 5 [(3, .int y_8), (2, .int y_6), (0, .int p0), (1, .int p1)]) (fun y_8 H locs ls hI => ?_) (fun J_7 => ?_)
        · skip
          obtain ⟨hP, hS, hl⟩ := hI
          refine gjoin (α := Int32) 85 (fun y_10 H locs ls => va_P (dC, dI) vwCl [] H ∧ va_S A s.heap H locs ∧ lv_has ls 5 [(4, .int y_10), (3, .int y_8), (2, .int y_6), (0, .int p0), (1, .int p1)]) (fun y_10 H locs ls hI => ?_) (fun J_9 => ?_)
          · skip
            obtain ⟨hP, hS, hl⟩ := hI
            refine lv_iload_n hx hb dX10_product_85 rfl (lv_at hl 1 rfl) ?_
            refine lv_if_eq (tgt := 111) hx hb dX10_product_86 (by decide) (fun c_11 => ?_) (fun c_11 => ?_)
            · skip
              refine lv_iload_n hx hb dX10_product_111 rfl (lv_at hl 2 rfl) ?_
              refine lv_iload_n hx hb dX10_product_112 rfl (lv_at hl 3 rfl) ?_
              refine gcalll (S := Unit) (wc := []) (wr := []) (w1 := fun _ => []) (va_runS (As := [.int p0]) (rest := [.int y_6]) ⟨hx, hb, hml, hown, hts⟩ (c_X10_placesOf l dC dI cI cT cS H.size p0 ) (va_cwS 1 hts (gWS (List.mem_of_getElem? (i := 5) rfl) (List.mem_of_getElem? (i := 6) rfl) (List.mem_of_getElem? (i := 3) rfl) ic_c_X10_product_c_X10_placesOf gd_c_X10_placesOf) rfl rfl rfl (by decide +kernel) ⟨(Nat.le_of_ble_eq_true rfl), (Nat.le_of_ble_eq_true rfl)⟩) (gpS (hP.sub (ws' := []) [] rfl) hK (hD.sub (ws' := []) [] (by decide) rfl)) rfl rfl hl.1 rfl (lv_room (Nat.le_of_ble_eq_true rfl)) dX10_product_113 ⟨(Nat.le_of_ble_eq_true rfl), (Nat.le_of_ble_eq_true rfl)⟩) hP hD hS hA [] [] rfl rfl (by decide) (by decide) (fun r_12 ur_12 H locs wr_12 hP hD hS => ?_)
              replace hP : va_P (dC, dI) vwCl [] H := hP
              replace hD : va_D A [] := hD
              refine lv_iload_n hx hb dX10_product_116 rfl (lv_at hl 4 rfl) ?_
              refine gcalll (S := Unit) (wc := []) (wr := []) (w1 := fun _ => []) (va_runS (As := [.int p1]) (rest := [.long r_12, .int y_6]) ⟨hx, hb, hml, hown, hts⟩ (c_X10_placesOf l dC dI cI cT cS H.size p1 ) (va_cwS 1 hts (gWS (List.mem_of_getElem? (i := 5) rfl) (List.mem_of_getElem? (i := 6) rfl) (List.mem_of_getElem? (i := 3) rfl) ic_c_X10_product_c_X10_placesOf gd_c_X10_placesOf) rfl rfl rfl (by decide +kernel) ⟨(Nat.le_of_ble_eq_true rfl), (Nat.le_of_ble_eq_true rfl)⟩) (gpS (hP.sub (ws' := []) [] rfl) hK (hD.sub (ws' := []) [] (by decide) rfl)) rfl rfl hl.1 rfl (lv_room (Nat.le_of_ble_eq_true rfl)) dX10_product_117 ⟨(Nat.le_of_ble_eq_true rfl), (Nat.le_of_ble_eq_true rfl)⟩) hP hD hS hA [] [] rfl rfl (by decide) (by decide) (fun r_13 ur_13 H locs wr_13 hP hD hS => ?_)
              replace hP : va_P (dC, dI) vwCl [] H := hP
              replace hD : va_D A [] := hD
              refine lv_lmul hx hb dX10_product_120 ?_
              refine lv_topl (fun x_14 ex_14 => ?_)
              refine lv_iload_n hx hb dX10_product_121 rfl (lv_at hl 3 rfl) ?_
              refine gcalli (S := Unit) (wc := []) (wr := []) (w1 := fun _ => []) (va_runS (As := [.int p0]) (rest := [.long x_14, .int y_6]) ⟨hx, hb, hml, hown, hts⟩ (c_X10_powerOf l dC dI cI cT cS H.size p0 ) (va_cwS 1 hts (gWS (List.mem_of_getElem? (i := 7) rfl) (List.mem_of_getElem? (i := 8) rfl) (List.mem_of_getElem? (i := 3) rfl) ic_c_X10_product_c_X10_powerOf gd_c_X10_powerOf) rfl rfl rfl (by decide +kernel) ⟨(Nat.le_of_ble_eq_true rfl), (Nat.le_of_ble_eq_true rfl)⟩) (gpS (hP.sub (ws' := []) [] rfl) hK (hD.sub (ws' := []) [] (by decide) rfl)) rfl rfl hl.1 rfl (lv_room (Nat.le_of_ble_eq_true rfl)) dX10_product_122 ⟨(Nat.le_of_ble_eq_true rfl), (Nat.le_of_ble_eq_true rfl)⟩) hP hD hS hA [] [] rfl rfl (by decide) (by decide) (fun r_15 ur_15 H locs wr_15 hP hD hS => ?_)
              replace hP : va_P (dC, dI) vwCl [] H := hP
              replace hD : va_D A [] := hD
              obtain rfl : r_15 = pw p0 := wr_15
              refine lv_iload_n hx hb dX10_product_125 rfl (lv_at hl 4 rfl) ?_
              refine gcalli (S := Unit) (wc := []) (wr := []) (w1 := fun _ => []) (va_runS (As := [.int p1]) (rest := [.int (pw p0), .long x_14, .int y_6]) ⟨hx, hb, hml, hown, hts⟩ (c_X10_powerOf l dC dI cI cT cS H.size p1 ) (va_cwS 1 hts (gWS (List.mem_of_getElem? (i := 7) rfl) (List.mem_of_getElem? (i := 8) rfl) (List.mem_of_getElem? (i := 3) rfl) ic_c_X10_product_c_X10_powerOf gd_c_X10_powerOf) rfl rfl rfl (by decide +kernel) ⟨(Nat.le_of_ble_eq_true rfl), (Nat.le_of_ble_eq_true rfl)⟩) (gpS (hP.sub (ws' := []) [] rfl) hK (hD.sub (ws' := []) [] (by decide) rfl)) rfl rfl hl.1 rfl (lv_room (Nat.le_of_ble_eq_true rfl)) dX10_product_126 ⟨(Nat.le_of_ble_eq_true rfl), (Nat.le_of_ble_eq_true rfl)⟩) hP hD hS hA [] [] rfl rfl (by decide) (by decide) (fun r_16 ur_16 H locs wr_16 hP hD hS => ?_)
              replace hP : va_P (dC, dI) vwCl [] H := hP
              replace hD : va_D A [] := hD
              obtain rfl : r_16 = pw p1 := wr_16
              refine lv_iadd hx hb dX10_product_129 ?_
              refine lv_topi (fun x_17 ex_17 => ?_)
              refine gcalli (S := Unit) (wc := []) (wr := []) (w1 := fun _ => []) (va_runS (As := [.int y_6, .long x_14, .int x_17]) (rest := []) ⟨hx, hb, hml, hown, hts⟩ (c_X10_nearest l dC dI cI cT cS H.size y_6 x_17 x_14 (by rw [ex_14]; exact g_mul64 wr_12 wr_13)) (va_cwS 3 hts (gWS (List.mem_of_getElem? (i := 9) rfl) (List.mem_of_getElem? (i := 10) rfl) (List.mem_of_getElem? (i := 3) rfl) ic_c_X10_product_c_X10_nearest gd_c_X10_nearest) rfl rfl rfl (by decide +kernel) ⟨(Nat.le_of_ble_eq_true rfl), (Nat.le_of_ble_eq_true rfl)⟩) (gpS (hP.sub (ws' := []) [] rfl) hK (hD.sub (ws' := []) [] (by decide) rfl)) rfl rfl hl.1 rfl (lv_room (Nat.le_of_ble_eq_true rfl)) dX10_product_130 ⟨(Nat.le_of_ble_eq_true rfl), (Nat.le_of_ble_eq_true rfl)⟩) hP hD hS hA [] [] rfl rfl (by decide) (by decide) (fun r_18 ur_18 H locs wr_18 hP hD hS => ?_)
              replace hP : va_P (dC, dI) vwCl [] H := hP
              replace hD : va_D A [] := hD
              refine W.widen (k := 0) (n := 0) (Nat.le_of_ble_eq_true rfl) (Nat.le_of_ble_eq_true rfl) ?_
              have hP9 := hP.sub (ws' := []) [] rfl
              have hD9 := hD.sub (ws' := []) [] (by decide) rfl
              exact W.iret (v := r_18) hx hb hr (fun t ht hW => ⟨⟨r_18, (), rfl, trivial, by rw [ht]; exact hP9, hD9⟩, hS.F ht⟩) hS.2.2 dX10_product_133
            · skip
              refine lv_iload hx hb dX10_product_89 (lv_at hl 0 rfl) ?_
              refine lv_if_eq (tgt := 99) hx hb dX10_product_91 (by decide) (fun c_19 => ?_) (fun c_19 => ?_)
              · skip
                refine lv_iload_n hx hb dX10_product_99 rfl (lv_at hl 2 rfl) ?_
                refine lv_if_eq (tgt := 108) hx hb dX10_product_100 (by decide) (fun c_20 => ?_) (fun c_20 => ?_)
                · skip
                  refine lv_ldc (v := 2139095040) hx hb hown (hts (.constant RX10 122 (2139095040)) (List.mem_of_getElem? (i := 11) rfl)) dX10_product_108 ?_
                  refine W.widen (k := 0) (n := 0) (Nat.le_of_ble_eq_true rfl) (Nat.le_of_ble_eq_true rfl) ?_
                  have hP9 := hP.sub (ws' := []) [] rfl
                  have hD9 := hD.sub (ws' := []) [] (by decide) rfl
                  exact W.iret (v := 2139095040) hx hb hr (fun t ht hW => ⟨⟨2139095040, (), rfl, trivial, by rw [ht]; exact hP9, hD9⟩, hS.F ht⟩) hS.2.2 dX10_product_110
                · skip
                  refine lv_ldc (v := (-8388608)) hx hb hown (hts (.constant RX10 144 (-8388608)) (List.mem_of_getElem? (i := 12) rfl)) dX10_product_103 ?_
                  refine lv_goto (tgt := 110) hx hb dX10_product_105 (by decide) ?_
                  refine W.widen (k := 0) (n := 0) (Nat.le_of_ble_eq_true rfl) (Nat.le_of_ble_eq_true rfl) ?_
                  have hP9 := hP.sub (ws' := []) [] rfl
                  have hD9 := hD.sub (ws' := []) [] (by decide) rfl
                  exact W.iret (v := (-8388608)) hx hb hr (fun t ht hW => ⟨⟨(-8388608), (), rfl, trivial, by rw [ht]; exact hP9, hD9⟩, hS.F ht⟩) hS.2.2 dX10_product_110
              · skip
                refine lv_ldc (v := 2143289344) hx hb hown (hts (.constant RX10 129 (2143289344)) (List.mem_of_getElem? (i := 4) rfl)) dX10_product_94 ?_
                refine lv_goto (tgt := 110) hx hb dX10_product_96 (by decide) ?_
                refine W.widen (k := 0) (n := 0) (Nat.le_of_ble_eq_true rfl) (Nat.le_of_ble_eq_true rfl) ?_
                have hP9 := hP.sub (ws' := []) [] rfl
                have hD9 := hD.sub (ws' := []) [] (by decide) rfl
                exact W.iret (v := 2143289344) hx hb hr (fun t ht hW => ⟨⟨2143289344, (), rfl, trivial, by rw [ht]; exact hP9, hD9⟩, hS.F ht⟩) hS.2.2 dX10_product_110
          · skip
            refine lv_iload_n hx hb dX10_product_64 rfl (lv_at hl 2 rfl) ?_
            refine lv_ldc (v := 2147483647) hx hb hown (hts (.constant RX10 124 (2147483647)) (List.mem_of_getElem? (i := 13) rfl)) dX10_product_65 ?_
            refine lv_iand hx hb dX10_product_67 ?_
            refine lv_topi (fun x_21 ex_21 => ?_)
            refine lv_if_eq (tgt := 78) hx hb dX10_product_68 (by decide) (fun c_22 => ?_) (fun c_22 => ?_)
            · skip
              refine lv_iconst (v := 1) hx hb dX10_product_78 (by decide) ?_
              refine lv_goto (tgt := 83) hx hb dX10_product_79 (by decide) ?_
              refine lv_istore (lv' := [(4, .int 1), (3, .int y_8), (2, .int y_6), (0, .int p0), (1, .int p1)]) hx hb dX10_product_83 hl (by decide) rfl (fun ls hl => ?_)
              exact J_9 1 H locs ls ⟨hP.sub (ws' := []) [] rfl, hS, lv_sub (l' := [(4, .int 1), (3, .int y_8), (2, .int y_6), (0, .int p0), (1, .int p1)]) hl [0, 1, 2, 3, 4] rfl⟩
            · skip
              refine lv_iload_n hx hb dX10_product_71 rfl (lv_at hl 3 rfl) ?_
              refine lv_ldc (v := 2147483647) hx hb hown (hts (.constant RX10 124 (2147483647)) (List.mem_of_getElem? (i := 13) rfl)) dX10_product_72 ?_
              refine lv_iand hx hb dX10_product_74 ?_
              refine lv_topi (fun x_23 ex_23 => ?_)
              refine lv_if_ne (tgt := 82) hx hb dX10_product_75 (by decide) (fun c_24 => ?_) (fun c_24 => ?_)
              · skip
                refine lv_iconst (v := 0) hx hb dX10_product_82 (by decide) ?_
                refine lv_istore (lv' := [(4, .int 0), (3, .int y_8), (2, .int y_6), (0, .int p0), (1, .int p1)]) hx hb dX10_product_83 hl (by decide) rfl (fun ls hl => ?_)
                exact J_9 0 H locs ls ⟨hP.sub (ws' := []) [] rfl, hS, lv_sub (l' := [(4, .int 0), (3, .int y_8), (2, .int y_6), (0, .int p0), (1, .int p1)]) hl [0, 1, 2, 3, 4] rfl⟩
              · skip
                refine lv_iconst (v := 1) hx hb dX10_product_78 (by decide) ?_
                refine lv_goto (tgt := 83) hx hb dX10_product_79 (by decide) ?_
                refine lv_istore (lv' := [(4, .int 1), (3, .int y_8), (2, .int y_6), (0, .int p0), (1, .int p1)]) hx hb dX10_product_83 hl (by decide) rfl (fun ls hl => ?_)
                exact J_9 1 H locs ls ⟨hP.sub (ws' := []) [] rfl, hS, lv_sub (l' := [(4, .int 1), (3, .int y_8), (2, .int y_6), (0, .int p0), (1, .int p1)]) hl [0, 1, 2, 3, 4] rfl⟩
        · skip
          refine lv_iload_n hx hb dX10_product_44 rfl (lv_at hl 1 rfl) ?_
          refine gcalli (S := Unit) (wc := []) (wr := []) (w1 := fun _ => []) (va_runS (As := [.int p0]) (rest := []) ⟨hx, hb, hml, hown, hts⟩ (c_X10_isEndless l dC dI cI cT cS H.size p0 ) (va_cwS 1 hts (gWS (List.mem_of_getElem? (i := 14) rfl) (List.mem_of_getElem? (i := 15) rfl) (List.mem_of_getElem? (i := 3) rfl) ic_c_X10_product_c_X10_isEndless gd_c_X10_isEndless) rfl rfl rfl (by decide +kernel) ⟨(Nat.le_of_ble_eq_true rfl), (Nat.le_of_ble_eq_true rfl)⟩) (gpS (hP.sub (ws' := []) [] rfl) hK (hD.sub (ws' := []) [] (by decide) rfl)) rfl rfl hl.1 rfl (lv_room (Nat.le_of_ble_eq_true rfl)) dX10_product_45 ⟨(Nat.le_of_ble_eq_true rfl), (Nat.le_of_ble_eq_true rfl)⟩) hP hD hS hA [] [] rfl rfl (by decide) (by decide) (fun r_25 ur_25 H locs wr_25 hP hD hS => ?_)
          replace hP : va_P (dC, dI) vwCl [] H := hP
          replace hD : va_D A [] := hD
          refine lv_if_ne (tgt := 58) hx hb dX10_product_48 (by decide) (fun c_26 => ?_) (fun c_26 => ?_)
          · skip
            refine lv_iconst (v := 1) hx hb dX10_product_58 (by decide) ?_
            refine lv_goto (tgt := 63) hx hb dX10_product_59 (by decide) ?_
            refine lv_istore_n (lv' := [(3, .int 1), (2, .int y_6), (0, .int p0), (1, .int p1)]) hx hb dX10_product_63 rfl hl (by decide) rfl (fun ls hl => ?_)
            exact J_7 1 H locs ls ⟨hP.sub (ws' := []) [] rfl, hS, lv_sub (l' := [(3, .int 1), (2, .int y_6), (0, .int p0), (1, .int p1)]) hl [0, 1, 2, 3] rfl⟩
          · skip
            refine lv_iload_n hx hb dX10_product_51 rfl (lv_at hl 2 rfl) ?_
            refine gcalli (S := Unit) (wc := []) (wr := []) (w1 := fun _ => []) (va_runS (As := [.int p1]) (rest := []) ⟨hx, hb, hml, hown, hts⟩ (c_X10_isEndless l dC dI cI cT cS H.size p1 ) (va_cwS 1 hts (gWS (List.mem_of_getElem? (i := 14) rfl) (List.mem_of_getElem? (i := 15) rfl) (List.mem_of_getElem? (i := 3) rfl) ic_c_X10_product_c_X10_isEndless gd_c_X10_isEndless) rfl rfl rfl (by decide +kernel) ⟨(Nat.le_of_ble_eq_true rfl), (Nat.le_of_ble_eq_true rfl)⟩) (gpS (hP.sub (ws' := []) [] rfl) hK (hD.sub (ws' := []) [] (by decide) rfl)) rfl rfl hl.1 rfl (lv_room (Nat.le_of_ble_eq_true rfl)) dX10_product_52 ⟨(Nat.le_of_ble_eq_true rfl), (Nat.le_of_ble_eq_true rfl)⟩) hP hD hS hA [] [] rfl rfl (by decide) (by decide) (fun r_27 ur_27 H locs wr_27 hP hD hS => ?_)
            replace hP : va_P (dC, dI) vwCl [] H := hP
            replace hD : va_D A [] := hD
            refine lv_if_eq (tgt := 62) hx hb dX10_product_55 (by decide) (fun c_28 => ?_) (fun c_28 => ?_)
            · skip
              refine lv_iconst (v := 0) hx hb dX10_product_62 (by decide) ?_
              refine lv_istore_n (lv' := [(3, .int 0), (2, .int y_6), (0, .int p0), (1, .int p1)]) hx hb dX10_product_63 rfl hl (by decide) rfl (fun ls hl => ?_)
              exact J_7 0 H locs ls ⟨hP.sub (ws' := []) [] rfl, hS, lv_sub (l' := [(3, .int 0), (2, .int y_6), (0, .int p0), (1, .int p1)]) hl [0, 1, 2, 3] rfl⟩
            · skip
              refine lv_iconst (v := 1) hx hb dX10_product_58 (by decide) ?_
              refine lv_goto (tgt := 63) hx hb dX10_product_59 (by decide) ?_
              refine lv_istore_n (lv' := [(3, .int 1), (2, .int y_6), (0, .int p0), (1, .int p1)]) hx hb dX10_product_63 rfl hl (by decide) rfl (fun ls hl => ?_)
              exact J_7 1 H locs ls ⟨hP.sub (ws' := []) [] rfl, hS, lv_sub (l' := [(3, .int 1), (2, .int y_6), (0, .int p0), (1, .int p1)]) hl [0, 1, 2, 3] rfl⟩
      · skip
        refine lv_iload_n hx hb dX10_product_17 rfl (lv_at hl 0 rfl) ?_
        refine lv_if_ge (tgt := 25) hx hb dX10_product_18 (by decide) (fun c_29 => ?_) (fun c_29 => ?_)
        · skip
          refine lv_iconst (v := 0) hx hb dX10_product_25 (by decide) ?_
          refine lv_iload_n hx hb dX10_product_26 rfl (lv_at hl 1 rfl) ?_
          refine lv_if_ge (tgt := 34) hx hb dX10_product_27 (by decide) (fun c_30 => ?_) (fun c_30 => ?_)
          · skip
            refine lv_iconst (v := 0) hx hb dX10_product_34 (by decide) ?_
            refine lv_icmp_eq (tgt := 42) hx hb dX10_product_35 (by decide) (fun c_31 => ?_) (fun c_31 => ?_)
            · skip
              refine lv_iconst (v := 0) hx hb dX10_product_42 (by decide) ?_
              refine lv_istore_n (lv' := [(2, .int 0), (0, .int p0), (1, .int p1)]) hx hb dX10_product_43 rfl hl (by decide) rfl (fun ls hl => ?_)
              exact J_5 0 H locs ls ⟨hP.sub (ws' := []) [] rfl, hS, lv_sub (l' := [(2, .int 0), (0, .int p0), (1, .int p1)]) hl [0, 1, 2] rfl⟩
            · skip
              exact absurd c_31 (by decide)
          · skip
            refine lv_iconst (v := 1) hx hb dX10_product_30 (by decide) ?_
            refine lv_goto (tgt := 35) hx hb dX10_product_31 (by decide) ?_
            refine lv_icmp_eq (tgt := 42) hx hb dX10_product_35 (by decide) (fun c_32 => ?_) (fun c_32 => ?_)
            · skip
              exact absurd c_32 (by decide)
            · skip
              refine lv_iconst (v := 1) hx hb dX10_product_38 (by decide) ?_
              refine lv_goto (tgt := 43) hx hb dX10_product_39 (by decide) ?_
              refine lv_istore_n (lv' := [(2, .int 1), (0, .int p0), (1, .int p1)]) hx hb dX10_product_43 rfl hl (by decide) rfl (fun ls hl => ?_)
              exact J_5 1 H locs ls ⟨hP.sub (ws' := []) [] rfl, hS, lv_sub (l' := [(2, .int 1), (0, .int p0), (1, .int p1)]) hl [0, 1, 2] rfl⟩
        · skip
          refine lv_iconst (v := 1) hx hb dX10_product_21 (by decide) ?_
          refine lv_goto (tgt := 26) hx hb dX10_product_22 (by decide) ?_
          refine lv_iload_n hx hb dX10_product_26 rfl (lv_at hl 1 rfl) ?_
          refine lv_if_ge (tgt := 34) hx hb dX10_product_27 (by decide) (fun c_33 => ?_) (fun c_33 => ?_)
          · skip
            refine lv_iconst (v := 0) hx hb dX10_product_34 (by decide) ?_
            refine lv_icmp_eq (tgt := 42) hx hb dX10_product_35 (by decide) (fun c_34 => ?_) (fun c_34 => ?_)
            · skip
              exact absurd c_34 (by decide)
            · skip
              refine lv_iconst (v := 1) hx hb dX10_product_38 (by decide) ?_
              refine lv_goto (tgt := 43) hx hb dX10_product_39 (by decide) ?_
              refine lv_istore_n (lv' := [(2, .int 1), (0, .int p0), (1, .int p1)]) hx hb dX10_product_43 rfl hl (by decide) rfl (fun ls hl => ?_)
              exact J_5 1 H locs ls ⟨hP.sub (ws' := []) [] rfl, hS, lv_sub (l' := [(2, .int 1), (0, .int p0), (1, .int p1)]) hl [0, 1, 2] rfl⟩
          · skip
            refine lv_iconst (v := 1) hx hb dX10_product_30 (by decide) ?_
            refine lv_goto (tgt := 35) hx hb dX10_product_31 (by decide) ?_
            refine lv_icmp_eq (tgt := 42) hx hb dX10_product_35 (by decide) (fun c_35 => ?_) (fun c_35 => ?_)
            · skip
              refine lv_iconst (v := 0) hx hb dX10_product_42 (by decide) ?_
              refine lv_istore_n (lv' := [(2, .int 0), (0, .int p0), (1, .int p1)]) hx hb dX10_product_43 rfl hl (by decide) rfl (fun ls hl => ?_)
              exact J_5 0 H locs ls ⟨hP.sub (ws' := []) [] rfl, hS, lv_sub (l' := [(2, .int 0), (0, .int p0), (1, .int p1)]) hl [0, 1, 2] rfl⟩
            · skip
              exact absurd c_35 (by decide)
    · skip
      refine lv_ldc (v := 2143289344) hx hb hown (hts (.constant RX10 129 (2143289344)) (List.mem_of_getElem? (i := 4) rfl)) dX10_product_14 ?_
      refine W.widen (k := 0) (n := 0) (Nat.le_of_ble_eq_true rfl) (Nat.le_of_ble_eq_true rfl) ?_
      have hP9 := hP.sub (ws' := []) [] rfl
      have hD9 := hD.sub (ws' := []) [] (by decide) rfl
      exact W.iret (v := 2143289344) hx hb hr (fun t ht hW => ⟨⟨2143289344, (), rfl, trivial, by rw [ht]; exact hP9, hD9⟩, hS.F ht⟩) hS.2.2 dX10_product_16
def oc_X10_plus : List Cond := [.methodLink RX10 126 yX10_isNan, .static yX10_isNan, .initialized RX10, .constant RX10 129 (2143289344), .methodLink RX10 130 yX10_isEndless, .static yX10_isEndless, .methodLink RX10 136 yX10_placesOf, .static yX10_placesOf, .methodLink RX10 133 yX10_powerOf, .static yX10_powerOf, .methodLink RX10 140 yX10_nearest, .static yX10_nearest, .constant RX10 113 (-2147483648)]
def vc_X10_plus : List Cond := .code yX10_plus cX10_plus 11 (some .int) :: (oc_X10_plus ++ (vc_X10_isNan ++ (vc_X10_isEndless ++ (vc_X10_placesOf ++ (vc_X10_powerOf ++ (vc_X10_nearest))))))
theorem ic_c_X10_plus_c_X10_isNan : ∀ w ∈ vc_X10_isNan, w ∈ vc_X10_plus := fun _ h => List.mem_cons_of_mem _ (List.mem_append_right _ (List.mem_append_left _ h))
theorem ic_c_X10_plus_c_X10_isEndless : ∀ w ∈ vc_X10_isEndless, w ∈ vc_X10_plus := fun _ h => List.mem_cons_of_mem _ (List.mem_append_right _ (List.mem_append_right _ (List.mem_append_left _ h)))
theorem ic_c_X10_plus_c_X10_placesOf : ∀ w ∈ vc_X10_placesOf, w ∈ vc_X10_plus := fun _ h => List.mem_cons_of_mem _ (List.mem_append_right _ (List.mem_append_right _ (List.mem_append_right _ (List.mem_append_left _ h))))
theorem ic_c_X10_plus_c_X10_powerOf : ∀ w ∈ vc_X10_powerOf, w ∈ vc_X10_plus := fun _ h => List.mem_cons_of_mem _ (List.mem_append_right _ (List.mem_append_right _ (List.mem_append_right _ (List.mem_append_right _ (List.mem_append_left _ h)))))
theorem ic_c_X10_plus_c_X10_nearest : ∀ w ∈ vc_X10_nearest, w ∈ vc_X10_plus := fun _ h => List.mem_cons_of_mem _ (List.mem_append_right _ (List.mem_append_right _ (List.mem_append_right _ (List.mem_append_right _ (List.mem_append_right _ (h))))))
theorem gd_c_X10_plus : (vc_X10_plus).all goodWord = true := by decide +kernel
set_option maxHeartbeats 4000000 in
set_option maxRecDepth 100000 in
theorem c_X10_plus (l : Launch) (dC : Nat → ClassId) (dI : Nat → Nat → Nat) (cI cT cS : ClassId) (sz : Nat) (p0 : Int32) (p1 : Int32)  : gCI (S := Unit) l yX10_plus vc_X10_plus ({ frames := 2, cells := 0, slots := 0, locals := 59 }) (dC, dI) (gTY cI cT cS) sz [.int p0, .int p1] [] (fun r u => True) (fun _ => []) 0 0 := by
  refine Met.ofW (cc := cX10_plus) (maxL := 11) (ret := (some .int)) (by decide) rfl ?_
  intro p e s m args below meth c s₁ B hml hv
  obtain ⟨rfl, hsz, hP, hK, hD0⟩ := hv
  have hx := B.exec
  have hb := B.bytes
  have hr := B.returns
  have hts := atoms_spec (ws := vc_X10_plus) B.pre
  have hown : s.vm.findClass RX10 = some m.cls := findClass_of_methodNamed B.named
  have hlocks := B.notSynchronized
  subst hsz
  have hD := hD0.self (sz := s.heap.size)
  generalize hAe : va_A [] s.heap.size = A at hD ⊢
  have hA : ∀ q : Nat, s.heap.size ≤ q → A q := fun q h => by rw [← hAe]; exact Or.inr h
  refine gstart (fun H locs hHe hLe => ?_)
  have hS : va_S A s.heap H locs := by rw [← hHe, ← hLe]; exact va_S.rf
  replace hP : va_P (dC, dI) vwCl [] H := by rw [← hHe]; exact hP
  clear hHe hLe
  have hl := lv_entry ([.int p0, .int p1]) (n := 11) (Nat.le_of_ble_eq_true rfl)
  rw [lg_entry_eq]
  generalize (lg_sl ([.int p0, .int p1]) ++ List.replicate (11 - (lg_sl ([.int p0, .int p1])).length) Slot.unset).toArray = ls at hl ⊢
  replace hl : lv_has ls 11 [(0, .int p0), (1, .int p1)] := hl
  refine lv_iload_n hx hb dX10_plus_0 rfl (lv_at hl 0 rfl) ?_
  refine gcalli (S := Unit) (wc := []) (wr := []) (w1 := fun _ => []) (va_runS (As := [.int p0]) (rest := []) ⟨hx, hb, hml, hown, hts⟩ (c_X10_isNan l dC dI cI cT cS H.size p0 ) (va_cwS 1 hts (gWS (List.mem_of_getElem? (i := 1) rfl) (List.mem_of_getElem? (i := 2) rfl) (List.mem_of_getElem? (i := 3) rfl) ic_c_X10_plus_c_X10_isNan gd_c_X10_isNan) rfl rfl rfl (by decide +kernel) ⟨(Nat.le_of_ble_eq_true rfl), (Nat.le_of_ble_eq_true rfl)⟩) (gpS (hP.sub (ws' := []) [] rfl) hK (hD.sub (ws' := []) [] (by decide) rfl)) rfl rfl hl.1 rfl (lv_room (Nat.le_of_ble_eq_true rfl)) dX10_plus_1 ⟨(Nat.le_of_ble_eq_true rfl), (Nat.le_of_ble_eq_true rfl)⟩) hP hD hS hA [] [] rfl rfl (by decide) (by decide) (fun r_1 ur_1 H locs wr_1 hP hD hS => ?_)
  replace hP : va_P (dC, dI) vwCl [] H := hP
  replace hD : va_D A [] := hD
  refine lv_if_ne (tgt := 14) hx hb dX10_plus_4 (by decide) (fun c_2 => ?_) (fun c_2 => ?_)
  · skip
    refine lv_ldc (v := 2143289344) hx hb hown (hts (.constant RX10 129 (2143289344)) (List.mem_of_getElem? (i := 4) rfl)) dX10_plus_14 ?_
    refine W.widen (k := 0) (n := 0) (Nat.le_of_ble_eq_true rfl) (Nat.le_of_ble_eq_true rfl) ?_
    have hP9 := hP.sub (ws' := []) [] rfl
    have hD9 := hD.sub (ws' := []) [] (by decide) rfl
    exact W.iret (v := 2143289344) hx hb hr (fun t ht hW => ⟨⟨2143289344, (), rfl, trivial, by rw [ht]; exact hP9, hD9⟩, hS.F ht⟩) hS.2.2 dX10_plus_16
  · skip
    refine lv_iload_n hx hb dX10_plus_7 rfl (lv_at hl 1 rfl) ?_
    refine gcalli (S := Unit) (wc := []) (wr := []) (w1 := fun _ => []) (va_runS (As := [.int p1]) (rest := []) ⟨hx, hb, hml, hown, hts⟩ (c_X10_isNan l dC dI cI cT cS H.size p1 ) (va_cwS 1 hts (gWS (List.mem_of_getElem? (i := 1) rfl) (List.mem_of_getElem? (i := 2) rfl) (List.mem_of_getElem? (i := 3) rfl) ic_c_X10_plus_c_X10_isNan gd_c_X10_isNan) rfl rfl rfl (by decide +kernel) ⟨(Nat.le_of_ble_eq_true rfl), (Nat.le_of_ble_eq_true rfl)⟩) (gpS (hP.sub (ws' := []) [] rfl) hK (hD.sub (ws' := []) [] (by decide) rfl)) rfl rfl hl.1 rfl (lv_room (Nat.le_of_ble_eq_true rfl)) dX10_plus_8 ⟨(Nat.le_of_ble_eq_true rfl), (Nat.le_of_ble_eq_true rfl)⟩) hP hD hS hA [] [] rfl rfl (by decide) (by decide) (fun r_3 ur_3 H locs wr_3 hP hD hS => ?_)
    replace hP : va_P (dC, dI) vwCl [] H := hP
    replace hD : va_D A [] := hD
    refine lv_if_eq (tgt := 17) hx hb dX10_plus_11 (by decide) (fun c_4 => ?_) (fun c_4 => ?_)
    · skip
      refine lv_iload_n hx hb dX10_plus_17 rfl (lv_at hl 0 rfl) ?_
      refine gcalli (S := Unit) (wc := []) (wr := []) (w1 := fun _ => []) (va_runS (As := [.int p0]) (rest := []) ⟨hx, hb, hml, hown, hts⟩ (c_X10_isEndless l dC dI cI cT cS H.size p0 ) (va_cwS 1 hts (gWS (List.mem_of_getElem? (i := 5) rfl) (List.mem_of_getElem? (i := 6) rfl) (List.mem_of_getElem? (i := 3) rfl) ic_c_X10_plus_c_X10_isEndless gd_c_X10_isEndless) rfl rfl rfl (by decide +kernel) ⟨(Nat.le_of_ble_eq_true rfl), (Nat.le_of_ble_eq_true rfl)⟩) (gpS (hP.sub (ws' := []) [] rfl) hK (hD.sub (ws' := []) [] (by decide) rfl)) rfl rfl hl.1 rfl (lv_room (Nat.le_of_ble_eq_true rfl)) dX10_plus_18 ⟨(Nat.le_of_ble_eq_true rfl), (Nat.le_of_ble_eq_true rfl)⟩) hP hD hS hA [] [] rfl rfl (by decide) (by decide) (fun r_5 ur_5 H locs wr_5 hP hD hS => ?_)
      replace hP : va_P (dC, dI) vwCl [] H := hP
      replace hD : va_D A [] := hD
      refine lv_if_eq (tgt := 43) hx hb dX10_plus_21 (by decide) (fun c_6 => ?_) (fun c_6 => ?_)
      · skip
        refine lv_iload_n hx hb dX10_plus_43 rfl (lv_at hl 1 rfl) ?_
        refine gcalli (S := Unit) (wc := []) (wr := []) (w1 := fun _ => []) (va_runS (As := [.int p1]) (rest := []) ⟨hx, hb, hml, hown, hts⟩ (c_X10_isEndless l dC dI cI cT cS H.size p1 ) (va_cwS 1 hts (gWS (List.mem_of_getElem? (i := 5) rfl) (List.mem_of_getElem? (i := 6) rfl) (List.mem_of_getElem? (i := 3) rfl) ic_c_X10_plus_c_X10_isEndless gd_c_X10_isEndless) rfl rfl rfl (by decide +kernel) ⟨(Nat.le_of_ble_eq_true rfl), (Nat.le_of_ble_eq_true rfl)⟩) (gpS (hP.sub (ws' := []) [] rfl) hK (hD.sub (ws' := []) [] (by decide) rfl)) rfl rfl hl.1 rfl (lv_room (Nat.le_of_ble_eq_true rfl)) dX10_plus_44 ⟨(Nat.le_of_ble_eq_true rfl), (Nat.le_of_ble_eq_true rfl)⟩) hP hD hS hA [] [] rfl rfl (by decide) (by decide) (fun r_7 ur_7 H locs wr_7 hP hD hS => ?_)
        replace hP : va_P (dC, dI) vwCl [] H := hP
        replace hD : va_D A [] := hD
        refine lv_if_eq (tgt := 52) hx hb dX10_plus_47 (by decide) (fun c_8 => ?_) (fun c_8 => ?_)
        · skip
          refine gjoin (α := Int32 × Int32 × Int32) 97 (fun y_10 H locs ls => va_P (dC, dI) vwCl [] H ∧ va_S A s.heap H locs ∧ lv_has ls 11 [(4, .int y_10.2.2), (3, .int y_10.2.1), (2, .int y_10.1), (0, .int p0), (1, .int p1)] ∧ (0 ≤ y_10.2.2.toInt)) (fun y_10 H locs ls hI => ?_) (fun J_9 => ?_)
          · skip
            obtain ⟨hP, hS, hl, hJ_9⟩ := hI
            refine lv_iload_n hx hb dX10_plus_97 rfl (lv_at hl 2 rfl) ?_
            refine gcalll (S := Unit) (wc := []) (wr := []) (w1 := fun _ => []) (va_runS (As := [.int y_10.1]) (rest := []) ⟨hx, hb, hml, hown, hts⟩ (c_X10_placesOf l dC dI cI cT cS H.size y_10.1 ) (va_cwS 1 hts (gWS (List.mem_of_getElem? (i := 7) rfl) (List.mem_of_getElem? (i := 8) rfl) (List.mem_of_getElem? (i := 3) rfl) ic_c_X10_plus_c_X10_placesOf gd_c_X10_placesOf) rfl rfl rfl (by decide +kernel) ⟨(Nat.le_of_ble_eq_true rfl), (Nat.le_of_ble_eq_true rfl)⟩) (gpS (hP.sub (ws' := []) [] rfl) hK (hD.sub (ws' := []) [] (by decide) rfl)) rfl rfl hl.1 rfl (lv_room (Nat.le_of_ble_eq_true rfl)) dX10_plus_98 ⟨(Nat.le_of_ble_eq_true rfl), (Nat.le_of_ble_eq_true rfl)⟩) hP hD hS hA [] [] rfl rfl (by decide) (by decide) (fun r_11 ur_11 H locs wr_11 hP hD hS => ?_)
            replace hP : va_P (dC, dI) vwCl [] H := hP
            replace hD : va_D A [] := hD
            refine lv_bipush (v := 36) hx hb dX10_plus_101 (by decide) ?_
            refine lv_lshl hx hb dX10_plus_103 rfl ?_
            refine lv_topl (fun x_12 ex_12 => ?_)
            have hbig := g_shl ex_12 wr_11 (by decide)
            refine lv_lstore (lv' := [(5, .long x_12), (4, .int y_10.2.2), (3, .int y_10.2.1), (2, .int y_10.1), (0, .int p0), (1, .int p1)]) hx hb dX10_plus_104 hl (by decide) rfl (fun ls hl => ?_)
            refine gjoin (α := Int64) 142 (fun y_14 H locs ls => va_P (dC, dI) vwCl [] H ∧ va_S A s.heap H locs ∧ lv_has ls 11 [(7, .long y_14), (5, .long x_12), (4, .int y_10.2.2), (3, .int y_10.2.1), (2, .int y_10.1), (0, .int p0), (1, .int p1)] ∧ (0 ≤ y_14.toInt ∧ y_14.toInt < 1152921504606846976)) (fun y_14 H locs ls hI => ?_) (fun J_13 => ?_)
            · skip
              obtain ⟨hP, hS, hl, hJ_13⟩ := hI
              refine gjoin (α := Int64) 169 (fun y_16 H locs ls => va_P (dC, dI) vwCl [] H ∧ va_S A s.heap H locs ∧ lv_has ls 11 [(9, .long y_16), (7, .long y_14), (5, .long x_12), (4, .int y_10.2.2), (3, .int y_10.2.1), (2, .int y_10.1), (0, .int p0), (1, .int p1)] ∧ (-2305843009213693952 < y_16.toInt ∧ y_16.toInt < 2305843009213693952)) (fun y_16 H locs ls hI => ?_) (fun J_15 => ?_)
              · skip
                obtain ⟨hP, hS, hl, hJ_15⟩ := hI
                refine lv_lload hx hb dX10_plus_169 (lv_at hl 0 rfl) ?_
                refine lv_lconst (v := 0) hx hb dX10_plus_171 (by decide) ?_
                refine W.lcmp hx hb dX10_plus_172 ?_
                refine lv_if_ne (tgt := 191) hx hb dX10_plus_173 (by decide) (fun c_17 => ?_) (fun c_17 => ?_)
                · skip
                  rw [g_c_eq] at c_17
                  refine lv_lload hx hb dX10_plus_191 (lv_at hl 0 rfl) ?_
                  refine lv_lconst (v := 0) hx hb dX10_plus_193 (by decide) ?_
                  refine W.lcmp hx hb dX10_plus_194 ?_
                  refine lv_if_ge (tgt := 202) hx hb dX10_plus_195 (by decide) (fun c_18 => ?_) (fun c_18 => ?_)
                  · skip
                    rw [g_c_ge] at c_18
                    refine lv_iconst (v := 0) hx hb dX10_plus_202 (by decide) ?_
                    refine lv_lload hx hb dX10_plus_203 (lv_at hl 0 rfl) ?_
                    refine lv_lconst (v := 0) hx hb dX10_plus_205 (by decide) ?_
                    refine W.lcmp hx hb dX10_plus_206 ?_
                    refine lv_if_ge (tgt := 216) hx hb dX10_plus_207 (by decide) (fun c_19 => ?_) (fun c_19 => ?_)
                    · skip
                      rw [g_c_ge] at c_19
                      refine lv_lload hx hb dX10_plus_216 (lv_at hl 0 rfl) ?_
                      refine lv_iload_n hx hb dX10_plus_218 rfl (lv_at hl 5 rfl) ?_
                      refine gcalli (S := Unit) (wc := []) (wr := []) (w1 := fun _ => []) (va_runS (As := [.int y_10.1]) (rest := [.long y_16, .int 0]) ⟨hx, hb, hml, hown, hts⟩ (c_X10_powerOf l dC dI cI cT cS H.size y_10.1 ) (va_cwS 1 hts (gWS (List.mem_of_getElem? (i := 9) rfl) (List.mem_of_getElem? (i := 10) rfl) (List.mem_of_getElem? (i := 3) rfl) ic_c_X10_plus_c_X10_powerOf gd_c_X10_powerOf) rfl rfl rfl (by decide +kernel) ⟨(Nat.le_of_ble_eq_true rfl), (Nat.le_of_ble_eq_true rfl)⟩) (gpS (hP.sub (ws' := []) [] rfl) hK (hD.sub (ws' := []) [] (by decide) rfl)) rfl rfl hl.1 rfl (lv_room (Nat.le_of_ble_eq_true rfl)) dX10_plus_219 ⟨(Nat.le_of_ble_eq_true rfl), (Nat.le_of_ble_eq_true rfl)⟩) hP hD hS hA [] [] rfl rfl (by decide) (by decide) (fun r_20 ur_20 H locs wr_20 hP hD hS => ?_)
                      replace hP : va_P (dC, dI) vwCl [] H := hP
                      replace hD : va_D A [] := hD
                      obtain rfl : r_20 = pw y_10.1 := wr_20
                      refine lv_bipush (v := 36) hx hb dX10_plus_222 (by decide) ?_
                      refine lv_isub hx hb dX10_plus_224 ?_
                      refine lv_topi (fun x_21 ex_21 => ?_)
                      refine gcalli (S := Unit) (wc := []) (wr := []) (w1 := fun _ => []) (va_runS (As := [.int 0, .long y_16, .int x_21]) (rest := []) ⟨hx, hb, hml, hown, hts⟩ (c_X10_nearest l dC dI cI cT cS H.size 0 x_21 y_16 (by (try simp only [← Int32.toInt_inj, Int32.lt_iff_toInt_lt, Int32.le_iff_toInt_le, ← Int64.toInt_inj, Int64.lt_iff_toInt_lt, Int64.le_iff_toInt_le, Int32.toInt_toInt64, (show ((-2147483648) : Int32).toInt = (-2147483648) from rfl), (show (0 : Int32).toInt = 0 from rfl), (show (1 : Int32).toInt = 1 from rfl), (show (36 : Int32).toInt = 36 from rfl), (show (2143289344 : Int32).toInt = 2143289344 from rfl), (show (0 : Int64).toInt = 0 from rfl), (show (1 : Int64).toInt = 1 from rfl)] at c_2); (try simp only [← Int32.toInt_inj, Int32.lt_iff_toInt_lt, Int32.le_iff_toInt_le, ← Int64.toInt_inj, Int64.lt_iff_toInt_lt, Int64.le_iff_toInt_le, Int32.toInt_toInt64, (show ((-2147483648) : Int32).toInt = (-2147483648) from rfl), (show (0 : Int32).toInt = 0 from rfl), (show (1 : Int32).toInt = 1 from rfl), (show (36 : Int32).toInt = 36 from rfl), (show (2143289344 : Int32).toInt = 2143289344 from rfl), (show (0 : Int64).toInt = 0 from rfl), (show (1 : Int64).toInt = 1 from rfl)] at c_4); (try simp only [← Int32.toInt_inj, Int32.lt_iff_toInt_lt, Int32.le_iff_toInt_le, ← Int64.toInt_inj, Int64.lt_iff_toInt_lt, Int64.le_iff_toInt_le, Int32.toInt_toInt64, (show ((-2147483648) : Int32).toInt = (-2147483648) from rfl), (show (0 : Int32).toInt = 0 from rfl), (show (1 : Int32).toInt = 1 from rfl), (show (36 : Int32).toInt = 36 from rfl), (show (2143289344 : Int32).toInt = 2143289344 from rfl), (show (0 : Int64).toInt = 0 from rfl), (show (1 : Int64).toInt = 1 from rfl)] at c_6); (try simp only [← Int32.toInt_inj, Int32.lt_iff_toInt_lt, Int32.le_iff_toInt_le, ← Int64.toInt_inj, Int64.lt_iff_toInt_lt, Int64.le_iff_toInt_le, Int32.toInt_toInt64, (show ((-2147483648) : Int32).toInt = (-2147483648) from rfl), (show (0 : Int32).toInt = 0 from rfl), (show (1 : Int32).toInt = 1 from rfl), (show (36 : Int32).toInt = 36 from rfl), (show (2143289344 : Int32).toInt = 2143289344 from rfl), (show (0 : Int64).toInt = 0 from rfl), (show (1 : Int64).toInt = 1 from rfl)] at c_8); (try simp only [← Int32.toInt_inj, Int32.lt_iff_toInt_lt, Int32.le_iff_toInt_le, ← Int64.toInt_inj, Int64.lt_iff_toInt_lt, Int64.le_iff_toInt_le, Int32.toInt_toInt64, (show ((-2147483648) : Int32).toInt = (-2147483648) from rfl), (show (0 : Int32).toInt = 0 from rfl), (show (1 : Int32).toInt = 1 from rfl), (show (36 : Int32).toInt = 36 from rfl), (show (2143289344 : Int32).toInt = 2143289344 from rfl), (show (0 : Int64).toInt = 0 from rfl), (show (1 : Int64).toInt = 1 from rfl)] at c_17); (try simp only [← Int32.toInt_inj, Int32.lt_iff_toInt_lt, Int32.le_iff_toInt_le, ← Int64.toInt_inj, Int64.lt_iff_toInt_lt, Int64.le_iff_toInt_le, Int32.toInt_toInt64, (show ((-2147483648) : Int32).toInt = (-2147483648) from rfl), (show (0 : Int32).toInt = 0 from rfl), (show (1 : Int32).toInt = 1 from rfl), (show (36 : Int32).toInt = 36 from rfl), (show (2143289344 : Int32).toInt = 2143289344 from rfl), (show (0 : Int64).toInt = 0 from rfl), (show (1 : Int64).toInt = 1 from rfl)] at c_18); (try simp only [← Int32.toInt_inj, Int32.lt_iff_toInt_lt, Int32.le_iff_toInt_le, ← Int64.toInt_inj, Int64.lt_iff_toInt_lt, Int64.le_iff_toInt_le, Int32.toInt_toInt64, (show ((-2147483648) : Int32).toInt = (-2147483648) from rfl), (show (0 : Int32).toInt = 0 from rfl), (show (1 : Int32).toInt = 1 from rfl), (show (36 : Int32).toInt = 36 from rfl), (show (2143289344 : Int32).toInt = 2143289344 from rfl), (show (0 : Int64).toInt = 0 from rfl), (show (1 : Int64).toInt = 1 from rfl)] at c_19); omega)) (va_cwS 3 hts (gWS (List.mem_of_getElem? (i := 11) rfl) (List.mem_of_getElem? (i := 12) rfl) (List.mem_of_getElem? (i := 3) rfl) ic_c_X10_plus_c_X10_nearest gd_c_X10_nearest) rfl rfl rfl (by decide +kernel) ⟨(Nat.le_of_ble_eq_true rfl), (Nat.le_of_ble_eq_true rfl)⟩) (gpS (hP.sub (ws' := []) [] rfl) hK (hD.sub (ws' := []) [] (by decide) rfl)) rfl rfl hl.1 rfl (lv_room (Nat.le_of_ble_eq_true rfl)) dX10_plus_225 ⟨(Nat.le_of_ble_eq_true rfl), (Nat.le_of_ble_eq_true rfl)⟩) hP hD hS hA [] [] rfl rfl (by decide) (by decide) (fun r_22 ur_22 H locs wr_22 hP hD hS => ?_)
                      replace hP : va_P (dC, dI) vwCl [] H := hP
                      replace hD : va_D A [] := hD
                      refine W.widen (k := 0) (n := 0) (Nat.le_of_ble_eq_true rfl) (Nat.le_of_ble_eq_true rfl) ?_
                      have hP9 := hP.sub (ws' := []) [] rfl
                      have hD9 := hD.sub (ws' := []) [] (by decide) rfl
                      exact W.iret (v := r_22) hx hb hr (fun t ht hW => ⟨⟨r_22, (), rfl, trivial, by rw [ht]; exact hP9, hD9⟩, hS.F ht⟩) hS.2.2 dX10_plus_228
                    · skip
                      rw [g_c_ge] at c_19
                      refine lv_lload hx hb dX10_plus_210 (lv_at hl 0 rfl) ?_
                      refine lv_lneg hx hb dX10_plus_212 ?_
                      refine lv_topl (fun x_23 ex_23 => ?_)
                      have htx_23 := g_negL ex_23 rfl (by omega)
                      refine lv_goto (tgt := 218) hx hb dX10_plus_213 (by decide) ?_
                      refine lv_iload_n hx hb dX10_plus_218 rfl (lv_at hl 5 rfl) ?_
                      refine gcalli (S := Unit) (wc := []) (wr := []) (w1 := fun _ => []) (va_runS (As := [.int y_10.1]) (rest := [.long x_23, .int 0]) ⟨hx, hb, hml, hown, hts⟩ (c_X10_powerOf l dC dI cI cT cS H.size y_10.1 ) (va_cwS 1 hts (gWS (List.mem_of_getElem? (i := 9) rfl) (List.mem_of_getElem? (i := 10) rfl) (List.mem_of_getElem? (i := 3) rfl) ic_c_X10_plus_c_X10_powerOf gd_c_X10_powerOf) rfl rfl rfl (by decide +kernel) ⟨(Nat.le_of_ble_eq_true rfl), (Nat.le_of_ble_eq_true rfl)⟩) (gpS (hP.sub (ws' := []) [] rfl) hK (hD.sub (ws' := []) [] (by decide) rfl)) rfl rfl hl.1 rfl (lv_room (Nat.le_of_ble_eq_true rfl)) dX10_plus_219 ⟨(Nat.le_of_ble_eq_true rfl), (Nat.le_of_ble_eq_true rfl)⟩) hP hD hS hA [] [] rfl rfl (by decide) (by decide) (fun r_24 ur_24 H locs wr_24 hP hD hS => ?_)
                      replace hP : va_P (dC, dI) vwCl [] H := hP
                      replace hD : va_D A [] := hD
                      obtain rfl : r_24 = pw y_10.1 := wr_24
                      refine lv_bipush (v := 36) hx hb dX10_plus_222 (by decide) ?_
                      refine lv_isub hx hb dX10_plus_224 ?_
                      refine lv_topi (fun x_25 ex_25 => ?_)
                      refine gcalli (S := Unit) (wc := []) (wr := []) (w1 := fun _ => []) (va_runS (As := [.int 0, .long x_23, .int x_25]) (rest := []) ⟨hx, hb, hml, hown, hts⟩ (c_X10_nearest l dC dI cI cT cS H.size 0 x_25 x_23 (by (try simp only [← Int32.toInt_inj, Int32.lt_iff_toInt_lt, Int32.le_iff_toInt_le, ← Int64.toInt_inj, Int64.lt_iff_toInt_lt, Int64.le_iff_toInt_le, Int32.toInt_toInt64, (show ((-2147483648) : Int32).toInt = (-2147483648) from rfl), (show (0 : Int32).toInt = 0 from rfl), (show (1 : Int32).toInt = 1 from rfl), (show (36 : Int32).toInt = 36 from rfl), (show (2143289344 : Int32).toInt = 2143289344 from rfl), (show (0 : Int64).toInt = 0 from rfl), (show (1 : Int64).toInt = 1 from rfl)] at c_2); (try simp only [← Int32.toInt_inj, Int32.lt_iff_toInt_lt, Int32.le_iff_toInt_le, ← Int64.toInt_inj, Int64.lt_iff_toInt_lt, Int64.le_iff_toInt_le, Int32.toInt_toInt64, (show ((-2147483648) : Int32).toInt = (-2147483648) from rfl), (show (0 : Int32).toInt = 0 from rfl), (show (1 : Int32).toInt = 1 from rfl), (show (36 : Int32).toInt = 36 from rfl), (show (2143289344 : Int32).toInt = 2143289344 from rfl), (show (0 : Int64).toInt = 0 from rfl), (show (1 : Int64).toInt = 1 from rfl)] at c_4); (try simp only [← Int32.toInt_inj, Int32.lt_iff_toInt_lt, Int32.le_iff_toInt_le, ← Int64.toInt_inj, Int64.lt_iff_toInt_lt, Int64.le_iff_toInt_le, Int32.toInt_toInt64, (show ((-2147483648) : Int32).toInt = (-2147483648) from rfl), (show (0 : Int32).toInt = 0 from rfl), (show (1 : Int32).toInt = 1 from rfl), (show (36 : Int32).toInt = 36 from rfl), (show (2143289344 : Int32).toInt = 2143289344 from rfl), (show (0 : Int64).toInt = 0 from rfl), (show (1 : Int64).toInt = 1 from rfl)] at c_6); (try simp only [← Int32.toInt_inj, Int32.lt_iff_toInt_lt, Int32.le_iff_toInt_le, ← Int64.toInt_inj, Int64.lt_iff_toInt_lt, Int64.le_iff_toInt_le, Int32.toInt_toInt64, (show ((-2147483648) : Int32).toInt = (-2147483648) from rfl), (show (0 : Int32).toInt = 0 from rfl), (show (1 : Int32).toInt = 1 from rfl), (show (36 : Int32).toInt = 36 from rfl), (show (2143289344 : Int32).toInt = 2143289344 from rfl), (show (0 : Int64).toInt = 0 from rfl), (show (1 : Int64).toInt = 1 from rfl)] at c_8); (try simp only [← Int32.toInt_inj, Int32.lt_iff_toInt_lt, Int32.le_iff_toInt_le, ← Int64.toInt_inj, Int64.lt_iff_toInt_lt, Int64.le_iff_toInt_le, Int32.toInt_toInt64, (show ((-2147483648) : Int32).toInt = (-2147483648) from rfl), (show (0 : Int32).toInt = 0 from rfl), (show (1 : Int32).toInt = 1 from rfl), (show (36 : Int32).toInt = 36 from rfl), (show (2143289344 : Int32).toInt = 2143289344 from rfl), (show (0 : Int64).toInt = 0 from rfl), (show (1 : Int64).toInt = 1 from rfl)] at c_17); (try simp only [← Int32.toInt_inj, Int32.lt_iff_toInt_lt, Int32.le_iff_toInt_le, ← Int64.toInt_inj, Int64.lt_iff_toInt_lt, Int64.le_iff_toInt_le, Int32.toInt_toInt64, (show ((-2147483648) : Int32).toInt = (-2147483648) from rfl), (show (0 : Int32).toInt = 0 from rfl), (show (1 : Int32).toInt = 1 from rfl), (show (36 : Int32).toInt = 36 from rfl), (show (2143289344 : Int32).toInt = 2143289344 from rfl), (show (0 : Int64).toInt = 0 from rfl), (show (1 : Int64).toInt = 1 from rfl)] at c_18); (try simp only [← Int32.toInt_inj, Int32.lt_iff_toInt_lt, Int32.le_iff_toInt_le, ← Int64.toInt_inj, Int64.lt_iff_toInt_lt, Int64.le_iff_toInt_le, Int32.toInt_toInt64, (show ((-2147483648) : Int32).toInt = (-2147483648) from rfl), (show (0 : Int32).toInt = 0 from rfl), (show (1 : Int32).toInt = 1 from rfl), (show (36 : Int32).toInt = 36 from rfl), (show (2143289344 : Int32).toInt = 2143289344 from rfl), (show (0 : Int64).toInt = 0 from rfl), (show (1 : Int64).toInt = 1 from rfl)] at c_19); omega)) (va_cwS 3 hts (gWS (List.mem_of_getElem? (i := 11) rfl) (List.mem_of_getElem? (i := 12) rfl) (List.mem_of_getElem? (i := 3) rfl) ic_c_X10_plus_c_X10_nearest gd_c_X10_nearest) rfl rfl rfl (by decide +kernel) ⟨(Nat.le_of_ble_eq_true rfl), (Nat.le_of_ble_eq_true rfl)⟩) (gpS (hP.sub (ws' := []) [] rfl) hK (hD.sub (ws' := []) [] (by decide) rfl)) rfl rfl hl.1 rfl (lv_room (Nat.le_of_ble_eq_true rfl)) dX10_plus_225 ⟨(Nat.le_of_ble_eq_true rfl), (Nat.le_of_ble_eq_true rfl)⟩) hP hD hS hA [] [] rfl rfl (by decide) (by decide) (fun r_26 ur_26 H locs wr_26 hP hD hS => ?_)
                      replace hP : va_P (dC, dI) vwCl [] H := hP
                      replace hD : va_D A [] := hD
                      refine W.widen (k := 0) (n := 0) (Nat.le_of_ble_eq_true rfl) (Nat.le_of_ble_eq_true rfl) ?_
                      have hP9 := hP.sub (ws' := []) [] rfl
                      have hD9 := hD.sub (ws' := []) [] (by decide) rfl
                      exact W.iret (v := r_26) hx hb hr (fun t ht hW => ⟨⟨r_26, (), rfl, trivial, by rw [ht]; exact hP9, hD9⟩, hS.F ht⟩) hS.2.2 dX10_plus_228
                  · skip
                    rw [g_c_ge] at c_18
                    refine lv_iconst (v := 1) hx hb dX10_plus_198 (by decide) ?_
                    refine lv_goto (tgt := 203) hx hb dX10_plus_199 (by decide) ?_
                    refine lv_lload hx hb dX10_plus_203 (lv_at hl 0 rfl) ?_
                    refine lv_lconst (v := 0) hx hb dX10_plus_205 (by decide) ?_
                    refine W.lcmp hx hb dX10_plus_206 ?_
                    refine lv_if_ge (tgt := 216) hx hb dX10_plus_207 (by decide) (fun c_27 => ?_) (fun c_27 => ?_)
                    · skip
                      rw [g_c_ge] at c_27
                      refine lv_lload hx hb dX10_plus_216 (lv_at hl 0 rfl) ?_
                      refine lv_iload_n hx hb dX10_plus_218 rfl (lv_at hl 5 rfl) ?_
                      refine gcalli (S := Unit) (wc := []) (wr := []) (w1 := fun _ => []) (va_runS (As := [.int y_10.1]) (rest := [.long y_16, .int 1]) ⟨hx, hb, hml, hown, hts⟩ (c_X10_powerOf l dC dI cI cT cS H.size y_10.1 ) (va_cwS 1 hts (gWS (List.mem_of_getElem? (i := 9) rfl) (List.mem_of_getElem? (i := 10) rfl) (List.mem_of_getElem? (i := 3) rfl) ic_c_X10_plus_c_X10_powerOf gd_c_X10_powerOf) rfl rfl rfl (by decide +kernel) ⟨(Nat.le_of_ble_eq_true rfl), (Nat.le_of_ble_eq_true rfl)⟩) (gpS (hP.sub (ws' := []) [] rfl) hK (hD.sub (ws' := []) [] (by decide) rfl)) rfl rfl hl.1 rfl (lv_room (Nat.le_of_ble_eq_true rfl)) dX10_plus_219 ⟨(Nat.le_of_ble_eq_true rfl), (Nat.le_of_ble_eq_true rfl)⟩) hP hD hS hA [] [] rfl rfl (by decide) (by decide) (fun r_28 ur_28 H locs wr_28 hP hD hS => ?_)
                      replace hP : va_P (dC, dI) vwCl [] H := hP
                      replace hD : va_D A [] := hD
                      obtain rfl : r_28 = pw y_10.1 := wr_28
                      refine lv_bipush (v := 36) hx hb dX10_plus_222 (by decide) ?_
                      refine lv_isub hx hb dX10_plus_224 ?_
                      refine lv_topi (fun x_29 ex_29 => ?_)
                      refine gcalli (S := Unit) (wc := []) (wr := []) (w1 := fun _ => []) (va_runS (As := [.int 1, .long y_16, .int x_29]) (rest := []) ⟨hx, hb, hml, hown, hts⟩ (c_X10_nearest l dC dI cI cT cS H.size 1 x_29 y_16 (by (try simp only [← Int32.toInt_inj, Int32.lt_iff_toInt_lt, Int32.le_iff_toInt_le, ← Int64.toInt_inj, Int64.lt_iff_toInt_lt, Int64.le_iff_toInt_le, Int32.toInt_toInt64, (show ((-2147483648) : Int32).toInt = (-2147483648) from rfl), (show (0 : Int32).toInt = 0 from rfl), (show (1 : Int32).toInt = 1 from rfl), (show (36 : Int32).toInt = 36 from rfl), (show (2143289344 : Int32).toInt = 2143289344 from rfl), (show (0 : Int64).toInt = 0 from rfl), (show (1 : Int64).toInt = 1 from rfl)] at c_2); (try simp only [← Int32.toInt_inj, Int32.lt_iff_toInt_lt, Int32.le_iff_toInt_le, ← Int64.toInt_inj, Int64.lt_iff_toInt_lt, Int64.le_iff_toInt_le, Int32.toInt_toInt64, (show ((-2147483648) : Int32).toInt = (-2147483648) from rfl), (show (0 : Int32).toInt = 0 from rfl), (show (1 : Int32).toInt = 1 from rfl), (show (36 : Int32).toInt = 36 from rfl), (show (2143289344 : Int32).toInt = 2143289344 from rfl), (show (0 : Int64).toInt = 0 from rfl), (show (1 : Int64).toInt = 1 from rfl)] at c_4); (try simp only [← Int32.toInt_inj, Int32.lt_iff_toInt_lt, Int32.le_iff_toInt_le, ← Int64.toInt_inj, Int64.lt_iff_toInt_lt, Int64.le_iff_toInt_le, Int32.toInt_toInt64, (show ((-2147483648) : Int32).toInt = (-2147483648) from rfl), (show (0 : Int32).toInt = 0 from rfl), (show (1 : Int32).toInt = 1 from rfl), (show (36 : Int32).toInt = 36 from rfl), (show (2143289344 : Int32).toInt = 2143289344 from rfl), (show (0 : Int64).toInt = 0 from rfl), (show (1 : Int64).toInt = 1 from rfl)] at c_6); (try simp only [← Int32.toInt_inj, Int32.lt_iff_toInt_lt, Int32.le_iff_toInt_le, ← Int64.toInt_inj, Int64.lt_iff_toInt_lt, Int64.le_iff_toInt_le, Int32.toInt_toInt64, (show ((-2147483648) : Int32).toInt = (-2147483648) from rfl), (show (0 : Int32).toInt = 0 from rfl), (show (1 : Int32).toInt = 1 from rfl), (show (36 : Int32).toInt = 36 from rfl), (show (2143289344 : Int32).toInt = 2143289344 from rfl), (show (0 : Int64).toInt = 0 from rfl), (show (1 : Int64).toInt = 1 from rfl)] at c_8); (try simp only [← Int32.toInt_inj, Int32.lt_iff_toInt_lt, Int32.le_iff_toInt_le, ← Int64.toInt_inj, Int64.lt_iff_toInt_lt, Int64.le_iff_toInt_le, Int32.toInt_toInt64, (show ((-2147483648) : Int32).toInt = (-2147483648) from rfl), (show (0 : Int32).toInt = 0 from rfl), (show (1 : Int32).toInt = 1 from rfl), (show (36 : Int32).toInt = 36 from rfl), (show (2143289344 : Int32).toInt = 2143289344 from rfl), (show (0 : Int64).toInt = 0 from rfl), (show (1 : Int64).toInt = 1 from rfl)] at c_17); (try simp only [← Int32.toInt_inj, Int32.lt_iff_toInt_lt, Int32.le_iff_toInt_le, ← Int64.toInt_inj, Int64.lt_iff_toInt_lt, Int64.le_iff_toInt_le, Int32.toInt_toInt64, (show ((-2147483648) : Int32).toInt = (-2147483648) from rfl), (show (0 : Int32).toInt = 0 from rfl), (show (1 : Int32).toInt = 1 from rfl), (show (36 : Int32).toInt = 36 from rfl), (show (2143289344 : Int32).toInt = 2143289344 from rfl), (show (0 : Int64).toInt = 0 from rfl), (show (1 : Int64).toInt = 1 from rfl)] at c_18); (try simp only [← Int32.toInt_inj, Int32.lt_iff_toInt_lt, Int32.le_iff_toInt_le, ← Int64.toInt_inj, Int64.lt_iff_toInt_lt, Int64.le_iff_toInt_le, Int32.toInt_toInt64, (show ((-2147483648) : Int32).toInt = (-2147483648) from rfl), (show (0 : Int32).toInt = 0 from rfl), (show (1 : Int32).toInt = 1 from rfl), (show (36 : Int32).toInt = 36 from rfl), (show (2143289344 : Int32).toInt = 2143289344 from rfl), (show (0 : Int64).toInt = 0 from rfl), (show (1 : Int64).toInt = 1 from rfl)] at c_27); omega)) (va_cwS 3 hts (gWS (List.mem_of_getElem? (i := 11) rfl) (List.mem_of_getElem? (i := 12) rfl) (List.mem_of_getElem? (i := 3) rfl) ic_c_X10_plus_c_X10_nearest gd_c_X10_nearest) rfl rfl rfl (by decide +kernel) ⟨(Nat.le_of_ble_eq_true rfl), (Nat.le_of_ble_eq_true rfl)⟩) (gpS (hP.sub (ws' := []) [] rfl) hK (hD.sub (ws' := []) [] (by decide) rfl)) rfl rfl hl.1 rfl (lv_room (Nat.le_of_ble_eq_true rfl)) dX10_plus_225 ⟨(Nat.le_of_ble_eq_true rfl), (Nat.le_of_ble_eq_true rfl)⟩) hP hD hS hA [] [] rfl rfl (by decide) (by decide) (fun r_30 ur_30 H locs wr_30 hP hD hS => ?_)
                      replace hP : va_P (dC, dI) vwCl [] H := hP
                      replace hD : va_D A [] := hD
                      refine W.widen (k := 0) (n := 0) (Nat.le_of_ble_eq_true rfl) (Nat.le_of_ble_eq_true rfl) ?_
                      have hP9 := hP.sub (ws' := []) [] rfl
                      have hD9 := hD.sub (ws' := []) [] (by decide) rfl
                      exact W.iret (v := r_30) hx hb hr (fun t ht hW => ⟨⟨r_30, (), rfl, trivial, by rw [ht]; exact hP9, hD9⟩, hS.F ht⟩) hS.2.2 dX10_plus_228
                    · skip
                      rw [g_c_ge] at c_27
                      refine lv_lload hx hb dX10_plus_210 (lv_at hl 0 rfl) ?_
                      refine lv_lneg hx hb dX10_plus_212 ?_
                      refine lv_topl (fun x_31 ex_31 => ?_)
                      have htx_31 := g_negL ex_31 rfl (by omega)
                      refine lv_goto (tgt := 218) hx hb dX10_plus_213 (by decide) ?_
                      refine lv_iload_n hx hb dX10_plus_218 rfl (lv_at hl 5 rfl) ?_
                      refine gcalli (S := Unit) (wc := []) (wr := []) (w1 := fun _ => []) (va_runS (As := [.int y_10.1]) (rest := [.long x_31, .int 1]) ⟨hx, hb, hml, hown, hts⟩ (c_X10_powerOf l dC dI cI cT cS H.size y_10.1 ) (va_cwS 1 hts (gWS (List.mem_of_getElem? (i := 9) rfl) (List.mem_of_getElem? (i := 10) rfl) (List.mem_of_getElem? (i := 3) rfl) ic_c_X10_plus_c_X10_powerOf gd_c_X10_powerOf) rfl rfl rfl (by decide +kernel) ⟨(Nat.le_of_ble_eq_true rfl), (Nat.le_of_ble_eq_true rfl)⟩) (gpS (hP.sub (ws' := []) [] rfl) hK (hD.sub (ws' := []) [] (by decide) rfl)) rfl rfl hl.1 rfl (lv_room (Nat.le_of_ble_eq_true rfl)) dX10_plus_219 ⟨(Nat.le_of_ble_eq_true rfl), (Nat.le_of_ble_eq_true rfl)⟩) hP hD hS hA [] [] rfl rfl (by decide) (by decide) (fun r_32 ur_32 H locs wr_32 hP hD hS => ?_)
                      replace hP : va_P (dC, dI) vwCl [] H := hP
                      replace hD : va_D A [] := hD
                      obtain rfl : r_32 = pw y_10.1 := wr_32
                      refine lv_bipush (v := 36) hx hb dX10_plus_222 (by decide) ?_
                      refine lv_isub hx hb dX10_plus_224 ?_
                      refine lv_topi (fun x_33 ex_33 => ?_)
                      refine gcalli (S := Unit) (wc := []) (wr := []) (w1 := fun _ => []) (va_runS (As := [.int 1, .long x_31, .int x_33]) (rest := []) ⟨hx, hb, hml, hown, hts⟩ (c_X10_nearest l dC dI cI cT cS H.size 1 x_33 x_31 (by (try simp only [← Int32.toInt_inj, Int32.lt_iff_toInt_lt, Int32.le_iff_toInt_le, ← Int64.toInt_inj, Int64.lt_iff_toInt_lt, Int64.le_iff_toInt_le, Int32.toInt_toInt64, (show ((-2147483648) : Int32).toInt = (-2147483648) from rfl), (show (0 : Int32).toInt = 0 from rfl), (show (1 : Int32).toInt = 1 from rfl), (show (36 : Int32).toInt = 36 from rfl), (show (2143289344 : Int32).toInt = 2143289344 from rfl), (show (0 : Int64).toInt = 0 from rfl), (show (1 : Int64).toInt = 1 from rfl)] at c_2); (try simp only [← Int32.toInt_inj, Int32.lt_iff_toInt_lt, Int32.le_iff_toInt_le, ← Int64.toInt_inj, Int64.lt_iff_toInt_lt, Int64.le_iff_toInt_le, Int32.toInt_toInt64, (show ((-2147483648) : Int32).toInt = (-2147483648) from rfl), (show (0 : Int32).toInt = 0 from rfl), (show (1 : Int32).toInt = 1 from rfl), (show (36 : Int32).toInt = 36 from rfl), (show (2143289344 : Int32).toInt = 2143289344 from rfl), (show (0 : Int64).toInt = 0 from rfl), (show (1 : Int64).toInt = 1 from rfl)] at c_4); (try simp only [← Int32.toInt_inj, Int32.lt_iff_toInt_lt, Int32.le_iff_toInt_le, ← Int64.toInt_inj, Int64.lt_iff_toInt_lt, Int64.le_iff_toInt_le, Int32.toInt_toInt64, (show ((-2147483648) : Int32).toInt = (-2147483648) from rfl), (show (0 : Int32).toInt = 0 from rfl), (show (1 : Int32).toInt = 1 from rfl), (show (36 : Int32).toInt = 36 from rfl), (show (2143289344 : Int32).toInt = 2143289344 from rfl), (show (0 : Int64).toInt = 0 from rfl), (show (1 : Int64).toInt = 1 from rfl)] at c_6); (try simp only [← Int32.toInt_inj, Int32.lt_iff_toInt_lt, Int32.le_iff_toInt_le, ← Int64.toInt_inj, Int64.lt_iff_toInt_lt, Int64.le_iff_toInt_le, Int32.toInt_toInt64, (show ((-2147483648) : Int32).toInt = (-2147483648) from rfl), (show (0 : Int32).toInt = 0 from rfl), (show (1 : Int32).toInt = 1 from rfl), (show (36 : Int32).toInt = 36 from rfl), (show (2143289344 : Int32).toInt = 2143289344 from rfl), (show (0 : Int64).toInt = 0 from rfl), (show (1 : Int64).toInt = 1 from rfl)] at c_8); (try simp only [← Int32.toInt_inj, Int32.lt_iff_toInt_lt, Int32.le_iff_toInt_le, ← Int64.toInt_inj, Int64.lt_iff_toInt_lt, Int64.le_iff_toInt_le, Int32.toInt_toInt64, (show ((-2147483648) : Int32).toInt = (-2147483648) from rfl), (show (0 : Int32).toInt = 0 from rfl), (show (1 : Int32).toInt = 1 from rfl), (show (36 : Int32).toInt = 36 from rfl), (show (2143289344 : Int32).toInt = 2143289344 from rfl), (show (0 : Int64).toInt = 0 from rfl), (show (1 : Int64).toInt = 1 from rfl)] at c_17); (try simp only [← Int32.toInt_inj, Int32.lt_iff_toInt_lt, Int32.le_iff_toInt_le, ← Int64.toInt_inj, Int64.lt_iff_toInt_lt, Int64.le_iff_toInt_le, Int32.toInt_toInt64, (show ((-2147483648) : Int32).toInt = (-2147483648) from rfl), (show (0 : Int32).toInt = 0 from rfl), (show (1 : Int32).toInt = 1 from rfl), (show (36 : Int32).toInt = 36 from rfl), (show (2143289344 : Int32).toInt = 2143289344 from rfl), (show (0 : Int64).toInt = 0 from rfl), (show (1 : Int64).toInt = 1 from rfl)] at c_18); (try simp only [← Int32.toInt_inj, Int32.lt_iff_toInt_lt, Int32.le_iff_toInt_le, ← Int64.toInt_inj, Int64.lt_iff_toInt_lt, Int64.le_iff_toInt_le, Int32.toInt_toInt64, (show ((-2147483648) : Int32).toInt = (-2147483648) from rfl), (show (0 : Int32).toInt = 0 from rfl), (show (1 : Int32).toInt = 1 from rfl), (show (36 : Int32).toInt = 36 from rfl), (show (2143289344 : Int32).toInt = 2143289344 from rfl), (show (0 : Int64).toInt = 0 from rfl), (show (1 : Int64).toInt = 1 from rfl)] at c_27); omega)) (va_cwS 3 hts (gWS (List.mem_of_getElem? (i := 11) rfl) (List.mem_of_getElem? (i := 12) rfl) (List.mem_of_getElem? (i := 3) rfl) ic_c_X10_plus_c_X10_nearest gd_c_X10_nearest) rfl rfl rfl (by decide +kernel) ⟨(Nat.le_of_ble_eq_true rfl), (Nat.le_of_ble_eq_true rfl)⟩) (gpS (hP.sub (ws' := []) [] rfl) hK (hD.sub (ws' := []) [] (by decide) rfl)) rfl rfl hl.1 rfl (lv_room (Nat.le_of_ble_eq_true rfl)) dX10_plus_225 ⟨(Nat.le_of_ble_eq_true rfl), (Nat.le_of_ble_eq_true rfl)⟩) hP hD hS hA [] [] rfl rfl (by decide) (by decide) (fun r_34 ur_34 H locs wr_34 hP hD hS => ?_)
                      replace hP : va_P (dC, dI) vwCl [] H := hP
                      replace hD : va_D A [] := hD
                      refine W.widen (k := 0) (n := 0) (Nat.le_of_ble_eq_true rfl) (Nat.le_of_ble_eq_true rfl) ?_
                      have hP9 := hP.sub (ws' := []) [] rfl
                      have hD9 := hD.sub (ws' := []) [] (by decide) rfl
                      exact W.iret (v := r_34) hx hb hr (fun t ht hW => ⟨⟨r_34, (), rfl, trivial, by rw [ht]; exact hP9, hD9⟩, hS.F ht⟩) hS.2.2 dX10_plus_228
                · skip
                  rw [g_c_eq] at c_17
                  refine lv_iload_n hx hb dX10_plus_176 rfl (lv_at hl 5 rfl) ?_
                  refine lv_if_ge (tgt := 189) hx hb dX10_plus_177 (by decide) (fun c_35 => ?_) (fun c_35 => ?_)
                  · skip
                    refine lv_iconst (v := 0) hx hb dX10_plus_189 (by decide) ?_
                    refine W.widen (k := 0) (n := 0) (Nat.le_of_ble_eq_true rfl) (Nat.le_of_ble_eq_true rfl) ?_
                    have hP9 := hP.sub (ws' := []) [] rfl
                    have hD9 := hD.sub (ws' := []) [] (by decide) rfl
                    exact W.iret (v := 0) hx hb hr (fun t ht hW => ⟨⟨0, (), rfl, trivial, by rw [ht]; exact hP9, hD9⟩, hS.F ht⟩) hS.2.2 dX10_plus_190
                  · skip
                    refine lv_iload_n hx hb dX10_plus_180 rfl (lv_at hl 4 rfl) ?_
                    refine lv_if_ge (tgt := 189) hx hb dX10_plus_181 (by decide) (fun c_36 => ?_) (fun c_36 => ?_)
                    · skip
                      refine lv_iconst (v := 0) hx hb dX10_plus_189 (by decide) ?_
                      refine W.widen (k := 0) (n := 0) (Nat.le_of_ble_eq_true rfl) (Nat.le_of_ble_eq_true rfl) ?_
                      have hP9 := hP.sub (ws' := []) [] rfl
                      have hD9 := hD.sub (ws' := []) [] (by decide) rfl
                      exact W.iret (v := 0) hx hb hr (fun t ht hW => ⟨⟨0, (), rfl, trivial, by rw [ht]; exact hP9, hD9⟩, hS.F ht⟩) hS.2.2 dX10_plus_190
                    · skip
                      refine lv_ldc (v := (-2147483648)) hx hb hown (hts (.constant RX10 113 (-2147483648)) (List.mem_of_getElem? (i := 13) rfl)) dX10_plus_184 ?_
                      refine lv_goto (tgt := 190) hx hb dX10_plus_186 (by decide) ?_
                      refine W.widen (k := 0) (n := 0) (Nat.le_of_ble_eq_true rfl) (Nat.le_of_ble_eq_true rfl) ?_
                      have hP9 := hP.sub (ws' := []) [] rfl
                      have hD9 := hD.sub (ws' := []) [] (by decide) rfl
                      exact W.iret (v := (-2147483648)) hx hb hr (fun t ht hW => ⟨⟨(-2147483648), (), rfl, trivial, by rw [ht]; exact hP9, hD9⟩, hS.F ht⟩) hS.2.2 dX10_plus_190
              · skip
                refine lv_iload_n hx hb dX10_plus_142 rfl (lv_at hl 4 rfl) ?_
                refine lv_if_ge (tgt := 152) hx hb dX10_plus_143 (by decide) (fun c_37 => ?_) (fun c_37 => ?_)
                · skip
                  refine lv_lload hx hb dX10_plus_152 (lv_at hl 1 rfl) ?_
                  refine lv_iload_n hx hb dX10_plus_154 rfl (lv_at hl 3 rfl) ?_
                  refine lv_if_ge (tgt := 164) hx hb dX10_plus_155 (by decide) (fun c_38 => ?_) (fun c_38 => ?_)
                  · skip
                    refine lv_lload hx hb dX10_plus_164 (lv_at hl 0 rfl) ?_
                    refine lv_ladd hx hb dX10_plus_166 ?_
                    refine lv_topl (fun x_39 ex_39 => ?_)
                    have htx_39 := g_addL ex_39 rfl rfl (by omega)
                    refine lv_lstore (lv' := [(9, .long x_39), (7, .long y_14), (5, .long x_12), (4, .int y_10.2.2), (3, .int y_10.2.1), (2, .int y_10.1), (0, .int p0), (1, .int p1)]) hx hb dX10_plus_167 hl (by decide) rfl (fun ls hl => ?_)
                    exact J_15 x_39 H locs ls ⟨hP.sub (ws' := []) [] rfl, hS, lv_sub (l' := [(9, .long x_39), (7, .long y_14), (5, .long x_12), (4, .int y_10.2.2), (3, .int y_10.2.1), (2, .int y_10.1), (0, .int p0), (1, .int p1)]) hl [0, 1, 2, 3, 4, 5, 6, 7] rfl, (by (try simp only [← Int32.toInt_inj, Int32.lt_iff_toInt_lt, Int32.le_iff_toInt_le, ← Int64.toInt_inj, Int64.lt_iff_toInt_lt, Int64.le_iff_toInt_le, Int32.toInt_toInt64, (show ((-2147483648) : Int32).toInt = (-2147483648) from rfl), (show (0 : Int32).toInt = 0 from rfl), (show (1 : Int32).toInt = 1 from rfl), (show (36 : Int32).toInt = 36 from rfl), (show (2143289344 : Int32).toInt = 2143289344 from rfl), (show (0 : Int64).toInt = 0 from rfl), (show (1 : Int64).toInt = 1 from rfl)] at c_2); (try simp only [← Int32.toInt_inj, Int32.lt_iff_toInt_lt, Int32.le_iff_toInt_le, ← Int64.toInt_inj, Int64.lt_iff_toInt_lt, Int64.le_iff_toInt_le, Int32.toInt_toInt64, (show ((-2147483648) : Int32).toInt = (-2147483648) from rfl), (show (0 : Int32).toInt = 0 from rfl), (show (1 : Int32).toInt = 1 from rfl), (show (36 : Int32).toInt = 36 from rfl), (show (2143289344 : Int32).toInt = 2143289344 from rfl), (show (0 : Int64).toInt = 0 from rfl), (show (1 : Int64).toInt = 1 from rfl)] at c_4); (try simp only [← Int32.toInt_inj, Int32.lt_iff_toInt_lt, Int32.le_iff_toInt_le, ← Int64.toInt_inj, Int64.lt_iff_toInt_lt, Int64.le_iff_toInt_le, Int32.toInt_toInt64, (show ((-2147483648) : Int32).toInt = (-2147483648) from rfl), (show (0 : Int32).toInt = 0 from rfl), (show (1 : Int32).toInt = 1 from rfl), (show (36 : Int32).toInt = 36 from rfl), (show (2143289344 : Int32).toInt = 2143289344 from rfl), (show (0 : Int64).toInt = 0 from rfl), (show (1 : Int64).toInt = 1 from rfl)] at c_6); (try simp only [← Int32.toInt_inj, Int32.lt_iff_toInt_lt, Int32.le_iff_toInt_le, ← Int64.toInt_inj, Int64.lt_iff_toInt_lt, Int64.le_iff_toInt_le, Int32.toInt_toInt64, (show ((-2147483648) : Int32).toInt = (-2147483648) from rfl), (show (0 : Int32).toInt = 0 from rfl), (show (1 : Int32).toInt = 1 from rfl), (show (36 : Int32).toInt = 36 from rfl), (show (2143289344 : Int32).toInt = 2143289344 from rfl), (show (0 : Int64).toInt = 0 from rfl), (show (1 : Int64).toInt = 1 from rfl)] at c_8); (try simp only [← Int32.toInt_inj, Int32.lt_iff_toInt_lt, Int32.le_iff_toInt_le, ← Int64.toInt_inj, Int64.lt_iff_toInt_lt, Int64.le_iff_toInt_le, Int32.toInt_toInt64, (show ((-2147483648) : Int32).toInt = (-2147483648) from rfl), (show (0 : Int32).toInt = 0 from rfl), (show (1 : Int32).toInt = 1 from rfl), (show (36 : Int32).toInt = 36 from rfl), (show (2143289344 : Int32).toInt = 2143289344 from rfl), (show (0 : Int64).toInt = 0 from rfl), (show (1 : Int64).toInt = 1 from rfl)] at c_37); (try simp only [← Int32.toInt_inj, Int32.lt_iff_toInt_lt, Int32.le_iff_toInt_le, ← Int64.toInt_inj, Int64.lt_iff_toInt_lt, Int64.le_iff_toInt_le, Int32.toInt_toInt64, (show ((-2147483648) : Int32).toInt = (-2147483648) from rfl), (show (0 : Int32).toInt = 0 from rfl), (show (1 : Int32).toInt = 1 from rfl), (show (36 : Int32).toInt = 36 from rfl), (show (2143289344 : Int32).toInt = 2143289344 from rfl), (show (0 : Int64).toInt = 0 from rfl), (show (1 : Int64).toInt = 1 from rfl)] at c_38); omega)⟩
                  · skip
                    refine lv_lload hx hb dX10_plus_158 (lv_at hl 0 rfl) ?_
                    refine lv_lneg hx hb dX10_plus_160 ?_
                    refine lv_topl (fun x_40 ex_40 => ?_)
                    have htx_40 := g_negL ex_40 rfl (by omega)
                    refine lv_goto (tgt := 166) hx hb dX10_plus_161 (by decide) ?_
                    refine lv_ladd hx hb dX10_plus_166 ?_
                    refine lv_topl (fun x_41 ex_41 => ?_)
                    have htx_41 := g_addL ex_41 rfl rfl (by omega)
                    refine lv_lstore (lv' := [(9, .long x_41), (7, .long y_14), (5, .long x_12), (4, .int y_10.2.2), (3, .int y_10.2.1), (2, .int y_10.1), (0, .int p0), (1, .int p1)]) hx hb dX10_plus_167 hl (by decide) rfl (fun ls hl => ?_)
                    exact J_15 x_41 H locs ls ⟨hP.sub (ws' := []) [] rfl, hS, lv_sub (l' := [(9, .long x_41), (7, .long y_14), (5, .long x_12), (4, .int y_10.2.2), (3, .int y_10.2.1), (2, .int y_10.1), (0, .int p0), (1, .int p1)]) hl [0, 1, 2, 3, 4, 5, 6, 7] rfl, (by (try simp only [← Int32.toInt_inj, Int32.lt_iff_toInt_lt, Int32.le_iff_toInt_le, ← Int64.toInt_inj, Int64.lt_iff_toInt_lt, Int64.le_iff_toInt_le, Int32.toInt_toInt64, (show ((-2147483648) : Int32).toInt = (-2147483648) from rfl), (show (0 : Int32).toInt = 0 from rfl), (show (1 : Int32).toInt = 1 from rfl), (show (36 : Int32).toInt = 36 from rfl), (show (2143289344 : Int32).toInt = 2143289344 from rfl), (show (0 : Int64).toInt = 0 from rfl), (show (1 : Int64).toInt = 1 from rfl)] at c_2); (try simp only [← Int32.toInt_inj, Int32.lt_iff_toInt_lt, Int32.le_iff_toInt_le, ← Int64.toInt_inj, Int64.lt_iff_toInt_lt, Int64.le_iff_toInt_le, Int32.toInt_toInt64, (show ((-2147483648) : Int32).toInt = (-2147483648) from rfl), (show (0 : Int32).toInt = 0 from rfl), (show (1 : Int32).toInt = 1 from rfl), (show (36 : Int32).toInt = 36 from rfl), (show (2143289344 : Int32).toInt = 2143289344 from rfl), (show (0 : Int64).toInt = 0 from rfl), (show (1 : Int64).toInt = 1 from rfl)] at c_4); (try simp only [← Int32.toInt_inj, Int32.lt_iff_toInt_lt, Int32.le_iff_toInt_le, ← Int64.toInt_inj, Int64.lt_iff_toInt_lt, Int64.le_iff_toInt_le, Int32.toInt_toInt64, (show ((-2147483648) : Int32).toInt = (-2147483648) from rfl), (show (0 : Int32).toInt = 0 from rfl), (show (1 : Int32).toInt = 1 from rfl), (show (36 : Int32).toInt = 36 from rfl), (show (2143289344 : Int32).toInt = 2143289344 from rfl), (show (0 : Int64).toInt = 0 from rfl), (show (1 : Int64).toInt = 1 from rfl)] at c_6); (try simp only [← Int32.toInt_inj, Int32.lt_iff_toInt_lt, Int32.le_iff_toInt_le, ← Int64.toInt_inj, Int64.lt_iff_toInt_lt, Int64.le_iff_toInt_le, Int32.toInt_toInt64, (show ((-2147483648) : Int32).toInt = (-2147483648) from rfl), (show (0 : Int32).toInt = 0 from rfl), (show (1 : Int32).toInt = 1 from rfl), (show (36 : Int32).toInt = 36 from rfl), (show (2143289344 : Int32).toInt = 2143289344 from rfl), (show (0 : Int64).toInt = 0 from rfl), (show (1 : Int64).toInt = 1 from rfl)] at c_8); (try simp only [← Int32.toInt_inj, Int32.lt_iff_toInt_lt, Int32.le_iff_toInt_le, ← Int64.toInt_inj, Int64.lt_iff_toInt_lt, Int64.le_iff_toInt_le, Int32.toInt_toInt64, (show ((-2147483648) : Int32).toInt = (-2147483648) from rfl), (show (0 : Int32).toInt = 0 from rfl), (show (1 : Int32).toInt = 1 from rfl), (show (36 : Int32).toInt = 36 from rfl), (show (2143289344 : Int32).toInt = 2143289344 from rfl), (show (0 : Int64).toInt = 0 from rfl), (show (1 : Int64).toInt = 1 from rfl)] at c_37); (try simp only [← Int32.toInt_inj, Int32.lt_iff_toInt_lt, Int32.le_iff_toInt_le, ← Int64.toInt_inj, Int64.lt_iff_toInt_lt, Int64.le_iff_toInt_le, Int32.toInt_toInt64, (show ((-2147483648) : Int32).toInt = (-2147483648) from rfl), (show (0 : Int32).toInt = 0 from rfl), (show (1 : Int32).toInt = 1 from rfl), (show (36 : Int32).toInt = 36 from rfl), (show (2143289344 : Int32).toInt = 2143289344 from rfl), (show (0 : Int64).toInt = 0 from rfl), (show (1 : Int64).toInt = 1 from rfl)] at c_38); omega)⟩
                · skip
                  refine lv_lload hx hb dX10_plus_146 (lv_at hl 1 rfl) ?_
                  refine lv_lneg hx hb dX10_plus_148 ?_
                  refine lv_topl (fun x_42 ex_42 => ?_)
                  have htx_42 := g_negL ex_42 rfl (by omega)
                  refine lv_goto (tgt := 154) hx hb dX10_plus_149 (by decide) ?_
                  refine lv_iload_n hx hb dX10_plus_154 rfl (lv_at hl 3 rfl) ?_
                  refine lv_if_ge (tgt := 164) hx hb dX10_plus_155 (by decide) (fun c_43 => ?_) (fun c_43 => ?_)
                  · skip
                    refine lv_lload hx hb dX10_plus_164 (lv_at hl 0 rfl) ?_
                    refine lv_ladd hx hb dX10_plus_166 ?_
                    refine lv_topl (fun x_44 ex_44 => ?_)
                    have htx_44 := g_addL ex_44 rfl rfl (by omega)
                    refine lv_lstore (lv' := [(9, .long x_44), (7, .long y_14), (5, .long x_12), (4, .int y_10.2.2), (3, .int y_10.2.1), (2, .int y_10.1), (0, .int p0), (1, .int p1)]) hx hb dX10_plus_167 hl (by decide) rfl (fun ls hl => ?_)
                    exact J_15 x_44 H locs ls ⟨hP.sub (ws' := []) [] rfl, hS, lv_sub (l' := [(9, .long x_44), (7, .long y_14), (5, .long x_12), (4, .int y_10.2.2), (3, .int y_10.2.1), (2, .int y_10.1), (0, .int p0), (1, .int p1)]) hl [0, 1, 2, 3, 4, 5, 6, 7] rfl, (by (try simp only [← Int32.toInt_inj, Int32.lt_iff_toInt_lt, Int32.le_iff_toInt_le, ← Int64.toInt_inj, Int64.lt_iff_toInt_lt, Int64.le_iff_toInt_le, Int32.toInt_toInt64, (show ((-2147483648) : Int32).toInt = (-2147483648) from rfl), (show (0 : Int32).toInt = 0 from rfl), (show (1 : Int32).toInt = 1 from rfl), (show (36 : Int32).toInt = 36 from rfl), (show (2143289344 : Int32).toInt = 2143289344 from rfl), (show (0 : Int64).toInt = 0 from rfl), (show (1 : Int64).toInt = 1 from rfl)] at c_2); (try simp only [← Int32.toInt_inj, Int32.lt_iff_toInt_lt, Int32.le_iff_toInt_le, ← Int64.toInt_inj, Int64.lt_iff_toInt_lt, Int64.le_iff_toInt_le, Int32.toInt_toInt64, (show ((-2147483648) : Int32).toInt = (-2147483648) from rfl), (show (0 : Int32).toInt = 0 from rfl), (show (1 : Int32).toInt = 1 from rfl), (show (36 : Int32).toInt = 36 from rfl), (show (2143289344 : Int32).toInt = 2143289344 from rfl), (show (0 : Int64).toInt = 0 from rfl), (show (1 : Int64).toInt = 1 from rfl)] at c_4); (try simp only [← Int32.toInt_inj, Int32.lt_iff_toInt_lt, Int32.le_iff_toInt_le, ← Int64.toInt_inj, Int64.lt_iff_toInt_lt, Int64.le_iff_toInt_le, Int32.toInt_toInt64, (show ((-2147483648) : Int32).toInt = (-2147483648) from rfl), (show (0 : Int32).toInt = 0 from rfl), (show (1 : Int32).toInt = 1 from rfl), (show (36 : Int32).toInt = 36 from rfl), (show (2143289344 : Int32).toInt = 2143289344 from rfl), (show (0 : Int64).toInt = 0 from rfl), (show (1 : Int64).toInt = 1 from rfl)] at c_6); (try simp only [← Int32.toInt_inj, Int32.lt_iff_toInt_lt, Int32.le_iff_toInt_le, ← Int64.toInt_inj, Int64.lt_iff_toInt_lt, Int64.le_iff_toInt_le, Int32.toInt_toInt64, (show ((-2147483648) : Int32).toInt = (-2147483648) from rfl), (show (0 : Int32).toInt = 0 from rfl), (show (1 : Int32).toInt = 1 from rfl), (show (36 : Int32).toInt = 36 from rfl), (show (2143289344 : Int32).toInt = 2143289344 from rfl), (show (0 : Int64).toInt = 0 from rfl), (show (1 : Int64).toInt = 1 from rfl)] at c_8); (try simp only [← Int32.toInt_inj, Int32.lt_iff_toInt_lt, Int32.le_iff_toInt_le, ← Int64.toInt_inj, Int64.lt_iff_toInt_lt, Int64.le_iff_toInt_le, Int32.toInt_toInt64, (show ((-2147483648) : Int32).toInt = (-2147483648) from rfl), (show (0 : Int32).toInt = 0 from rfl), (show (1 : Int32).toInt = 1 from rfl), (show (36 : Int32).toInt = 36 from rfl), (show (2143289344 : Int32).toInt = 2143289344 from rfl), (show (0 : Int64).toInt = 0 from rfl), (show (1 : Int64).toInt = 1 from rfl)] at c_37); (try simp only [← Int32.toInt_inj, Int32.lt_iff_toInt_lt, Int32.le_iff_toInt_le, ← Int64.toInt_inj, Int64.lt_iff_toInt_lt, Int64.le_iff_toInt_le, Int32.toInt_toInt64, (show ((-2147483648) : Int32).toInt = (-2147483648) from rfl), (show (0 : Int32).toInt = 0 from rfl), (show (1 : Int32).toInt = 1 from rfl), (show (36 : Int32).toInt = 36 from rfl), (show (2143289344 : Int32).toInt = 2143289344 from rfl), (show (0 : Int64).toInt = 0 from rfl), (show (1 : Int64).toInt = 1 from rfl)] at c_43); omega)⟩
                  · skip
                    refine lv_lload hx hb dX10_plus_158 (lv_at hl 0 rfl) ?_
                    refine lv_lneg hx hb dX10_plus_160 ?_
                    refine lv_topl (fun x_45 ex_45 => ?_)
                    have htx_45 := g_negL ex_45 rfl (by omega)
                    refine lv_goto (tgt := 166) hx hb dX10_plus_161 (by decide) ?_
                    refine lv_ladd hx hb dX10_plus_166 ?_
                    refine lv_topl (fun x_46 ex_46 => ?_)
                    have htx_46 := g_addL ex_46 rfl rfl (by omega)
                    refine lv_lstore (lv' := [(9, .long x_46), (7, .long y_14), (5, .long x_12), (4, .int y_10.2.2), (3, .int y_10.2.1), (2, .int y_10.1), (0, .int p0), (1, .int p1)]) hx hb dX10_plus_167 hl (by decide) rfl (fun ls hl => ?_)
                    exact J_15 x_46 H locs ls ⟨hP.sub (ws' := []) [] rfl, hS, lv_sub (l' := [(9, .long x_46), (7, .long y_14), (5, .long x_12), (4, .int y_10.2.2), (3, .int y_10.2.1), (2, .int y_10.1), (0, .int p0), (1, .int p1)]) hl [0, 1, 2, 3, 4, 5, 6, 7] rfl, (by (try simp only [← Int32.toInt_inj, Int32.lt_iff_toInt_lt, Int32.le_iff_toInt_le, ← Int64.toInt_inj, Int64.lt_iff_toInt_lt, Int64.le_iff_toInt_le, Int32.toInt_toInt64, (show ((-2147483648) : Int32).toInt = (-2147483648) from rfl), (show (0 : Int32).toInt = 0 from rfl), (show (1 : Int32).toInt = 1 from rfl), (show (36 : Int32).toInt = 36 from rfl), (show (2143289344 : Int32).toInt = 2143289344 from rfl), (show (0 : Int64).toInt = 0 from rfl), (show (1 : Int64).toInt = 1 from rfl)] at c_2); (try simp only [← Int32.toInt_inj, Int32.lt_iff_toInt_lt, Int32.le_iff_toInt_le, ← Int64.toInt_inj, Int64.lt_iff_toInt_lt, Int64.le_iff_toInt_le, Int32.toInt_toInt64, (show ((-2147483648) : Int32).toInt = (-2147483648) from rfl), (show (0 : Int32).toInt = 0 from rfl), (show (1 : Int32).toInt = 1 from rfl), (show (36 : Int32).toInt = 36 from rfl), (show (2143289344 : Int32).toInt = 2143289344 from rfl), (show (0 : Int64).toInt = 0 from rfl), (show (1 : Int64).toInt = 1 from rfl)] at c_4); (try simp only [← Int32.toInt_inj, Int32.lt_iff_toInt_lt, Int32.le_iff_toInt_le, ← Int64.toInt_inj, Int64.lt_iff_toInt_lt, Int64.le_iff_toInt_le, Int32.toInt_toInt64, (show ((-2147483648) : Int32).toInt = (-2147483648) from rfl), (show (0 : Int32).toInt = 0 from rfl), (show (1 : Int32).toInt = 1 from rfl), (show (36 : Int32).toInt = 36 from rfl), (show (2143289344 : Int32).toInt = 2143289344 from rfl), (show (0 : Int64).toInt = 0 from rfl), (show (1 : Int64).toInt = 1 from rfl)] at c_6); (try simp only [← Int32.toInt_inj, Int32.lt_iff_toInt_lt, Int32.le_iff_toInt_le, ← Int64.toInt_inj, Int64.lt_iff_toInt_lt, Int64.le_iff_toInt_le, Int32.toInt_toInt64, (show ((-2147483648) : Int32).toInt = (-2147483648) from rfl), (show (0 : Int32).toInt = 0 from rfl), (show (1 : Int32).toInt = 1 from rfl), (show (36 : Int32).toInt = 36 from rfl), (show (2143289344 : Int32).toInt = 2143289344 from rfl), (show (0 : Int64).toInt = 0 from rfl), (show (1 : Int64).toInt = 1 from rfl)] at c_8); (try simp only [← Int32.toInt_inj, Int32.lt_iff_toInt_lt, Int32.le_iff_toInt_le, ← Int64.toInt_inj, Int64.lt_iff_toInt_lt, Int64.le_iff_toInt_le, Int32.toInt_toInt64, (show ((-2147483648) : Int32).toInt = (-2147483648) from rfl), (show (0 : Int32).toInt = 0 from rfl), (show (1 : Int32).toInt = 1 from rfl), (show (36 : Int32).toInt = 36 from rfl), (show (2143289344 : Int32).toInt = 2143289344 from rfl), (show (0 : Int64).toInt = 0 from rfl), (show (1 : Int64).toInt = 1 from rfl)] at c_37); (try simp only [← Int32.toInt_inj, Int32.lt_iff_toInt_lt, Int32.le_iff_toInt_le, ← Int64.toInt_inj, Int64.lt_iff_toInt_lt, Int64.le_iff_toInt_le, Int32.toInt_toInt64, (show ((-2147483648) : Int32).toInt = (-2147483648) from rfl), (show (0 : Int32).toInt = 0 from rfl), (show (1 : Int32).toInt = 1 from rfl), (show (36 : Int32).toInt = 36 from rfl), (show (2143289344 : Int32).toInt = 2143289344 from rfl), (show (0 : Int64).toInt = 0 from rfl), (show (1 : Int64).toInt = 1 from rfl)] at c_43); omega)⟩
            · skip
              refine lv_iload hx hb dX10_plus_106 (lv_at hl 1 rfl) ?_
              refine lv_bipush (v := 36) hx hb dX10_plus_108 (by decide) ?_
              refine lv_icmp_gt (tgt := 126) hx hb dX10_plus_110 (by decide) (fun c_47 => ?_) (fun c_47 => ?_)
              · skip
                refine lv_iload_n hx hb dX10_plus_126 rfl (lv_at hl 2 rfl) ?_
                refine gcalll (S := Unit) (wc := []) (wr := []) (w1 := fun _ => []) (va_runS (As := [.int y_10.2.1]) (rest := []) ⟨hx, hb, hml, hown, hts⟩ (c_X10_placesOf l dC dI cI cT cS H.size y_10.2.1 ) (va_cwS 1 hts (gWS (List.mem_of_getElem? (i := 7) rfl) (List.mem_of_getElem? (i := 8) rfl) (List.mem_of_getElem? (i := 3) rfl) ic_c_X10_plus_c_X10_placesOf gd_c_X10_placesOf) rfl rfl rfl (by decide +kernel) ⟨(Nat.le_of_ble_eq_true rfl), (Nat.le_of_ble_eq_true rfl)⟩) (gpS (hP.sub (ws' := []) [] rfl) hK (hD.sub (ws' := []) [] (by decide) rfl)) rfl rfl hl.1 rfl (lv_room (Nat.le_of_ble_eq_true rfl)) dX10_plus_127 ⟨(Nat.le_of_ble_eq_true rfl), (Nat.le_of_ble_eq_true rfl)⟩) hP hD hS hA [] [] rfl rfl (by decide) (by decide) (fun r_48 ur_48 H locs wr_48 hP hD hS => ?_)
                replace hP : va_P (dC, dI) vwCl [] H := hP
                replace hD : va_D A [] := hD
                refine lv_lconst (v := 0) hx hb dX10_plus_130 (by decide) ?_
                refine W.lcmp hx hb dX10_plus_131 ?_
                refine lv_if_ne (tgt := 139) hx hb dX10_plus_132 (by decide) (fun c_49 => ?_) (fun c_49 => ?_)
                · skip
                  rw [g_c_eq] at c_49
                  refine lv_lconst (v := 1) hx hb dX10_plus_139 (by decide) ?_
                  refine lv_lstore (lv' := [(7, .long 1), (5, .long x_12), (4, .int y_10.2.2), (3, .int y_10.2.1), (2, .int y_10.1), (0, .int p0), (1, .int p1)]) hx hb dX10_plus_140 hl (by decide) rfl (fun ls hl => ?_)
                  exact J_13 1 H locs ls ⟨hP.sub (ws' := []) [] rfl, hS, lv_sub (l' := [(7, .long 1), (5, .long x_12), (4, .int y_10.2.2), (3, .int y_10.2.1), (2, .int y_10.1), (0, .int p0), (1, .int p1)]) hl [0, 1, 2, 3, 4, 5, 6] rfl, (by decide)⟩
                · skip
                  rw [g_c_eq] at c_49
                  refine lv_lconst (v := 0) hx hb dX10_plus_135 (by decide) ?_
                  refine lv_goto (tgt := 140) hx hb dX10_plus_136 (by decide) ?_
                  refine lv_lstore (lv' := [(7, .long 0), (5, .long x_12), (4, .int y_10.2.2), (3, .int y_10.2.1), (2, .int y_10.1), (0, .int p0), (1, .int p1)]) hx hb dX10_plus_140 hl (by decide) rfl (fun ls hl => ?_)
                  exact J_13 0 H locs ls ⟨hP.sub (ws' := []) [] rfl, hS, lv_sub (l' := [(7, .long 0), (5, .long x_12), (4, .int y_10.2.2), (3, .int y_10.2.1), (2, .int y_10.1), (0, .int p0), (1, .int p1)]) hl [0, 1, 2, 3, 4, 5, 6] rfl, (by decide)⟩
              · skip
                try simp only [← Int32.toInt_inj, Int32.lt_iff_toInt_lt, Int32.le_iff_toInt_le, ← Int64.toInt_inj, Int64.lt_iff_toInt_lt, Int64.le_iff_toInt_le, Int32.toInt_toInt64, (show ((-2147483648) : Int32).toInt = (-2147483648) from rfl), (show (0 : Int32).toInt = 0 from rfl), (show (1 : Int32).toInt = 1 from rfl), (show (36 : Int32).toInt = 36 from rfl), (show (2143289344 : Int32).toInt = 2143289344 from rfl), (show (0 : Int64).toInt = 0 from rfl), (show (1 : Int64).toInt = 1 from rfl)] at c_2
                try simp only [← Int32.toInt_inj, Int32.lt_iff_toInt_lt, Int32.le_iff_toInt_le, ← Int64.toInt_inj, Int64.lt_iff_toInt_lt, Int64.le_iff_toInt_le, Int32.toInt_toInt64, (show ((-2147483648) : Int32).toInt = (-2147483648) from rfl), (show (0 : Int32).toInt = 0 from rfl), (show (1 : Int32).toInt = 1 from rfl), (show (36 : Int32).toInt = 36 from rfl), (show (2143289344 : Int32).toInt = 2143289344 from rfl), (show (0 : Int64).toInt = 0 from rfl), (show (1 : Int64).toInt = 1 from rfl)] at c_4
                try simp only [← Int32.toInt_inj, Int32.lt_iff_toInt_lt, Int32.le_iff_toInt_le, ← Int64.toInt_inj, Int64.lt_iff_toInt_lt, Int64.le_iff_toInt_le, Int32.toInt_toInt64, (show ((-2147483648) : Int32).toInt = (-2147483648) from rfl), (show (0 : Int32).toInt = 0 from rfl), (show (1 : Int32).toInt = 1 from rfl), (show (36 : Int32).toInt = 36 from rfl), (show (2143289344 : Int32).toInt = 2143289344 from rfl), (show (0 : Int64).toInt = 0 from rfl), (show (1 : Int64).toInt = 1 from rfl)] at c_6
                try simp only [← Int32.toInt_inj, Int32.lt_iff_toInt_lt, Int32.le_iff_toInt_le, ← Int64.toInt_inj, Int64.lt_iff_toInt_lt, Int64.le_iff_toInt_le, Int32.toInt_toInt64, (show ((-2147483648) : Int32).toInt = (-2147483648) from rfl), (show (0 : Int32).toInt = 0 from rfl), (show (1 : Int32).toInt = 1 from rfl), (show (36 : Int32).toInt = 36 from rfl), (show (2143289344 : Int32).toInt = 2143289344 from rfl), (show (0 : Int64).toInt = 0 from rfl), (show (1 : Int64).toInt = 1 from rfl)] at c_8
                try simp only [← Int32.toInt_inj, Int32.lt_iff_toInt_lt, Int32.le_iff_toInt_le, ← Int64.toInt_inj, Int64.lt_iff_toInt_lt, Int64.le_iff_toInt_le, Int32.toInt_toInt64, (show ((-2147483648) : Int32).toInt = (-2147483648) from rfl), (show (0 : Int32).toInt = 0 from rfl), (show (1 : Int32).toInt = 1 from rfl), (show (36 : Int32).toInt = 36 from rfl), (show (2143289344 : Int32).toInt = 2143289344 from rfl), (show (0 : Int64).toInt = 0 from rfl), (show (1 : Int64).toInt = 1 from rfl)] at c_47
                refine lv_iload_n hx hb dX10_plus_113 rfl (lv_at hl 2 rfl) ?_
                refine gcalll (S := Unit) (wc := []) (wr := []) (w1 := fun _ => []) (va_runS (As := [.int y_10.2.1]) (rest := []) ⟨hx, hb, hml, hown, hts⟩ (c_X10_placesOf l dC dI cI cT cS H.size y_10.2.1 ) (va_cwS 1 hts (gWS (List.mem_of_getElem? (i := 7) rfl) (List.mem_of_getElem? (i := 8) rfl) (List.mem_of_getElem? (i := 3) rfl) ic_c_X10_plus_c_X10_placesOf gd_c_X10_placesOf) rfl rfl rfl (by decide +kernel) ⟨(Nat.le_of_ble_eq_true rfl), (Nat.le_of_ble_eq_true rfl)⟩) (gpS (hP.sub (ws' := []) [] rfl) hK (hD.sub (ws' := []) [] (by decide) rfl)) rfl rfl hl.1 rfl (lv_room (Nat.le_of_ble_eq_true rfl)) dX10_plus_114 ⟨(Nat.le_of_ble_eq_true rfl), (Nat.le_of_ble_eq_true rfl)⟩) hP hD hS hA [] [] rfl rfl (by decide) (by decide) (fun r_50 ur_50 H locs wr_50 hP hD hS => ?_)
                replace hP : va_P (dC, dI) vwCl [] H := hP
                replace hD : va_D A [] := hD
                refine lv_bipush (v := 36) hx hb dX10_plus_117 (by decide) ?_
                refine lv_iload hx hb dX10_plus_119 (lv_at hl 1 rfl) ?_
                refine lv_isub hx hb dX10_plus_121 ?_
                refine lv_topi (fun x_51 ex_51 => ?_)
                have tx_51 : x_51.toInt = 36 - y_10.2.2.toInt := gl_sub ex_51 (show ((36 : Int32)).toInt = 36 from rfl) rfl (by omega)
                refine lv_lshl hx hb dX10_plus_122 rfl ?_
                refine lv_topl (fun x_52 ex_52 => ?_)
                have hsm := g_shl ex_52 wr_50 (by omega)
                refine lv_goto (tgt := 140) hx hb dX10_plus_123 (by decide) ?_
                refine lv_lstore (lv' := [(7, .long x_52), (5, .long x_12), (4, .int y_10.2.2), (3, .int y_10.2.1), (2, .int y_10.1), (0, .int p0), (1, .int p1)]) hx hb dX10_plus_140 hl (by decide) rfl (fun ls hl => ?_)
                exact J_13 x_52 H locs ls ⟨hP.sub (ws' := []) [] rfl, hS, lv_sub (l' := [(7, .long x_52), (5, .long x_12), (4, .int y_10.2.2), (3, .int y_10.2.1), (2, .int y_10.1), (0, .int p0), (1, .int p1)]) hl [0, 1, 2, 3, 4, 5, 6] rfl, hsm⟩
          · skip
            refine lv_iload_n hx hb dX10_plus_52 rfl (lv_at hl 0 rfl) ?_
            refine gcalli (S := Unit) (wc := []) (wr := []) (w1 := fun _ => []) (va_runS (As := [.int p0]) (rest := []) ⟨hx, hb, hml, hown, hts⟩ (c_X10_powerOf l dC dI cI cT cS H.size p0 ) (va_cwS 1 hts (gWS (List.mem_of_getElem? (i := 9) rfl) (List.mem_of_getElem? (i := 10) rfl) (List.mem_of_getElem? (i := 3) rfl) ic_c_X10_plus_c_X10_powerOf gd_c_X10_powerOf) rfl rfl rfl (by decide +kernel) ⟨(Nat.le_of_ble_eq_true rfl), (Nat.le_of_ble_eq_true rfl)⟩) (gpS (hP.sub (ws' := []) [] rfl) hK (hD.sub (ws' := []) [] (by decide) rfl)) rfl rfl hl.1 rfl (lv_room (Nat.le_of_ble_eq_true rfl)) dX10_plus_53 ⟨(Nat.le_of_ble_eq_true rfl), (Nat.le_of_ble_eq_true rfl)⟩) hP hD hS hA [] [] rfl rfl (by decide) (by decide) (fun r_53 ur_53 H locs wr_53 hP hD hS => ?_)
            replace hP : va_P (dC, dI) vwCl [] H := hP
            replace hD : va_D A [] := hD
            obtain rfl : r_53 = pw p0 := wr_53
            refine lv_iload_n hx hb dX10_plus_56 rfl (lv_at hl 1 rfl) ?_
            refine gcalli (S := Unit) (wc := []) (wr := []) (w1 := fun _ => []) (va_runS (As := [.int p1]) (rest := [.int (pw p0)]) ⟨hx, hb, hml, hown, hts⟩ (c_X10_powerOf l dC dI cI cT cS H.size p1 ) (va_cwS 1 hts (gWS (List.mem_of_getElem? (i := 9) rfl) (List.mem_of_getElem? (i := 10) rfl) (List.mem_of_getElem? (i := 3) rfl) ic_c_X10_plus_c_X10_powerOf gd_c_X10_powerOf) rfl rfl rfl (by decide +kernel) ⟨(Nat.le_of_ble_eq_true rfl), (Nat.le_of_ble_eq_true rfl)⟩) (gpS (hP.sub (ws' := []) [] rfl) hK (hD.sub (ws' := []) [] (by decide) rfl)) rfl rfl hl.1 rfl (lv_room (Nat.le_of_ble_eq_true rfl)) dX10_plus_57 ⟨(Nat.le_of_ble_eq_true rfl), (Nat.le_of_ble_eq_true rfl)⟩) hP hD hS hA [] [] rfl rfl (by decide) (by decide) (fun r_54 ur_54 H locs wr_54 hP hD hS => ?_)
            replace hP : va_P (dC, dI) vwCl [] H := hP
            replace hD : va_D A [] := hD
            obtain rfl : r_54 = pw p1 := wr_54
            refine lv_icmp_lt (tgt := 67) hx hb dX10_plus_60 (by decide) (fun c_55 => ?_) (fun c_55 => ?_)
            · skip
              refine lv_iload_n hx hb dX10_plus_67 rfl (lv_at hl 1 rfl) ?_
              refine lv_istore_n (lv' := [(2, .int p1), (0, .int p0), (1, .int p1)]) hx hb dX10_plus_68 rfl hl (by decide) rfl (fun ls hl => ?_)
              refine lv_iload_n hx hb dX10_plus_69 rfl (lv_at hl 1 rfl) ?_
              refine gcalli (S := Unit) (wc := []) (wr := []) (w1 := fun _ => []) (va_runS (As := [.int p0]) (rest := []) ⟨hx, hb, hml, hown, hts⟩ (c_X10_powerOf l dC dI cI cT cS H.size p0 ) (va_cwS 1 hts (gWS (List.mem_of_getElem? (i := 9) rfl) (List.mem_of_getElem? (i := 10) rfl) (List.mem_of_getElem? (i := 3) rfl) ic_c_X10_plus_c_X10_powerOf gd_c_X10_powerOf) rfl rfl rfl (by decide +kernel) ⟨(Nat.le_of_ble_eq_true rfl), (Nat.le_of_ble_eq_true rfl)⟩) (gpS (hP.sub (ws' := []) [] rfl) hK (hD.sub (ws' := []) [] (by decide) rfl)) rfl rfl hl.1 rfl (lv_room (Nat.le_of_ble_eq_true rfl)) dX10_plus_70 ⟨(Nat.le_of_ble_eq_true rfl), (Nat.le_of_ble_eq_true rfl)⟩) hP hD hS hA [] [] rfl rfl (by decide) (by decide) (fun r_56 ur_56 H locs wr_56 hP hD hS => ?_)
              replace hP : va_P (dC, dI) vwCl [] H := hP
              replace hD : va_D A [] := hD
              obtain rfl : r_56 = pw p0 := wr_56
              refine lv_iload_n hx hb dX10_plus_73 rfl (lv_at hl 2 rfl) ?_
              refine gcalli (S := Unit) (wc := []) (wr := []) (w1 := fun _ => []) (va_runS (As := [.int p1]) (rest := [.int (pw p0)]) ⟨hx, hb, hml, hown, hts⟩ (c_X10_powerOf l dC dI cI cT cS H.size p1 ) (va_cwS 1 hts (gWS (List.mem_of_getElem? (i := 9) rfl) (List.mem_of_getElem? (i := 10) rfl) (List.mem_of_getElem? (i := 3) rfl) ic_c_X10_plus_c_X10_powerOf gd_c_X10_powerOf) rfl rfl rfl (by decide +kernel) ⟨(Nat.le_of_ble_eq_true rfl), (Nat.le_of_ble_eq_true rfl)⟩) (gpS (hP.sub (ws' := []) [] rfl) hK (hD.sub (ws' := []) [] (by decide) rfl)) rfl rfl hl.1 rfl (lv_room (Nat.le_of_ble_eq_true rfl)) dX10_plus_74 ⟨(Nat.le_of_ble_eq_true rfl), (Nat.le_of_ble_eq_true rfl)⟩) hP hD hS hA [] [] rfl rfl (by decide) (by decide) (fun r_57 ur_57 H locs wr_57 hP hD hS => ?_)
              replace hP : va_P (dC, dI) vwCl [] H := hP
              replace hD : va_D A [] := hD
              obtain rfl : r_57 = pw p1 := wr_57
              refine lv_icmp_lt (tgt := 84) hx hb dX10_plus_77 (by decide) (fun c_58 => ?_) (fun c_58 => ?_)
              · skip
                refine lv_iload_n hx hb dX10_plus_84 rfl (lv_at hl 1 rfl) ?_
                refine lv_istore_n (lv' := [(3, .int p0), (2, .int p1), (0, .int p0), (1, .int p1)]) hx hb dX10_plus_85 rfl hl (by decide) rfl (fun ls hl => ?_)
                have ha1 := pw_in p1
                have hb1 := pw_in p0
                refine lv_iload_n hx hb dX10_plus_86 rfl (lv_at hl 1 rfl) ?_
                refine gcalli (S := Unit) (wc := []) (wr := []) (w1 := fun _ => []) (va_runS (As := [.int p1]) (rest := []) ⟨hx, hb, hml, hown, hts⟩ (c_X10_powerOf l dC dI cI cT cS H.size p1 ) (va_cwS 1 hts (gWS (List.mem_of_getElem? (i := 9) rfl) (List.mem_of_getElem? (i := 10) rfl) (List.mem_of_getElem? (i := 3) rfl) ic_c_X10_plus_c_X10_powerOf gd_c_X10_powerOf) rfl rfl rfl (by decide +kernel) ⟨(Nat.le_of_ble_eq_true rfl), (Nat.le_of_ble_eq_true rfl)⟩) (gpS (hP.sub (ws' := []) [] rfl) hK (hD.sub (ws' := []) [] (by decide) rfl)) rfl rfl hl.1 rfl (lv_room (Nat.le_of_ble_eq_true rfl)) dX10_plus_87 ⟨(Nat.le_of_ble_eq_true rfl), (Nat.le_of_ble_eq_true rfl)⟩) hP hD hS hA [] [] rfl rfl (by decide) (by decide) (fun r_59 ur_59 H locs wr_59 hP hD hS => ?_)
                replace hP : va_P (dC, dI) vwCl [] H := hP
                replace hD : va_D A [] := hD
                obtain rfl : r_59 = pw p1 := wr_59
                refine lv_iload_n hx hb dX10_plus_90 rfl (lv_at hl 0 rfl) ?_
                refine gcalli (S := Unit) (wc := []) (wr := []) (w1 := fun _ => []) (va_runS (As := [.int p0]) (rest := [.int (pw p1)]) ⟨hx, hb, hml, hown, hts⟩ (c_X10_powerOf l dC dI cI cT cS H.size p0 ) (va_cwS 1 hts (gWS (List.mem_of_getElem? (i := 9) rfl) (List.mem_of_getElem? (i := 10) rfl) (List.mem_of_getElem? (i := 3) rfl) ic_c_X10_plus_c_X10_powerOf gd_c_X10_powerOf) rfl rfl rfl (by decide +kernel) ⟨(Nat.le_of_ble_eq_true rfl), (Nat.le_of_ble_eq_true rfl)⟩) (gpS (hP.sub (ws' := []) [] rfl) hK (hD.sub (ws' := []) [] (by decide) rfl)) rfl rfl hl.1 rfl (lv_room (Nat.le_of_ble_eq_true rfl)) dX10_plus_91 ⟨(Nat.le_of_ble_eq_true rfl), (Nat.le_of_ble_eq_true rfl)⟩) hP hD hS hA [] [] rfl rfl (by decide) (by decide) (fun r_60 ur_60 H locs wr_60 hP hD hS => ?_)
                replace hP : va_P (dC, dI) vwCl [] H := hP
                replace hD : va_D A [] := hD
                obtain rfl : r_60 = pw p0 := wr_60
                refine lv_isub hx hb dX10_plus_94 ?_
                refine lv_topi (fun x_61 ex_61 => ?_)
                have hap : x_61.toInt = (pw p1).toInt - (pw p0).toInt := gl_sub ex_61 rfl rfl (by omega)
                refine lv_istore (lv' := [(4, .int x_61), (3, .int p0), (2, .int p1), (0, .int p0), (1, .int p1)]) hx hb dX10_plus_95 hl (by decide) rfl (fun ls hl => ?_)
                exact J_9 (p1, p0, x_61) H locs ls ⟨hP.sub (ws' := []) [] rfl, hS, lv_sub (l' := [(4, .int x_61), (3, .int p0), (2, .int p1), (0, .int p0), (1, .int p1)]) hl [0, 1, 2, 3, 4] rfl, (by show 0 ≤ x_61.toInt; (try simp only [← Int32.toInt_inj, Int32.lt_iff_toInt_lt, Int32.le_iff_toInt_le, ← Int64.toInt_inj, Int64.lt_iff_toInt_lt, Int64.le_iff_toInt_le, Int32.toInt_toInt64, (show ((-2147483648) : Int32).toInt = (-2147483648) from rfl), (show (0 : Int32).toInt = 0 from rfl), (show (1 : Int32).toInt = 1 from rfl), (show (36 : Int32).toInt = 36 from rfl), (show (2143289344 : Int32).toInt = 2143289344 from rfl), (show (0 : Int64).toInt = 0 from rfl), (show (1 : Int64).toInt = 1 from rfl)] at c_2); (try simp only [← Int32.toInt_inj, Int32.lt_iff_toInt_lt, Int32.le_iff_toInt_le, ← Int64.toInt_inj, Int64.lt_iff_toInt_lt, Int64.le_iff_toInt_le, Int32.toInt_toInt64, (show ((-2147483648) : Int32).toInt = (-2147483648) from rfl), (show (0 : Int32).toInt = 0 from rfl), (show (1 : Int32).toInt = 1 from rfl), (show (36 : Int32).toInt = 36 from rfl), (show (2143289344 : Int32).toInt = 2143289344 from rfl), (show (0 : Int64).toInt = 0 from rfl), (show (1 : Int64).toInt = 1 from rfl)] at c_4); (try simp only [← Int32.toInt_inj, Int32.lt_iff_toInt_lt, Int32.le_iff_toInt_le, ← Int64.toInt_inj, Int64.lt_iff_toInt_lt, Int64.le_iff_toInt_le, Int32.toInt_toInt64, (show ((-2147483648) : Int32).toInt = (-2147483648) from rfl), (show (0 : Int32).toInt = 0 from rfl), (show (1 : Int32).toInt = 1 from rfl), (show (36 : Int32).toInt = 36 from rfl), (show (2143289344 : Int32).toInt = 2143289344 from rfl), (show (0 : Int64).toInt = 0 from rfl), (show (1 : Int64).toInt = 1 from rfl)] at c_6); (try simp only [← Int32.toInt_inj, Int32.lt_iff_toInt_lt, Int32.le_iff_toInt_le, ← Int64.toInt_inj, Int64.lt_iff_toInt_lt, Int64.le_iff_toInt_le, Int32.toInt_toInt64, (show ((-2147483648) : Int32).toInt = (-2147483648) from rfl), (show (0 : Int32).toInt = 0 from rfl), (show (1 : Int32).toInt = 1 from rfl), (show (36 : Int32).toInt = 36 from rfl), (show (2143289344 : Int32).toInt = 2143289344 from rfl), (show (0 : Int64).toInt = 0 from rfl), (show (1 : Int64).toInt = 1 from rfl)] at c_8); (try simp only [← Int32.toInt_inj, Int32.lt_iff_toInt_lt, Int32.le_iff_toInt_le, ← Int64.toInt_inj, Int64.lt_iff_toInt_lt, Int64.le_iff_toInt_le, Int32.toInt_toInt64, (show ((-2147483648) : Int32).toInt = (-2147483648) from rfl), (show (0 : Int32).toInt = 0 from rfl), (show (1 : Int32).toInt = 1 from rfl), (show (36 : Int32).toInt = 36 from rfl), (show (2143289344 : Int32).toInt = 2143289344 from rfl), (show (0 : Int64).toInt = 0 from rfl), (show (1 : Int64).toInt = 1 from rfl)] at c_55); (try simp only [← Int32.toInt_inj, Int32.lt_iff_toInt_lt, Int32.le_iff_toInt_le, ← Int64.toInt_inj, Int64.lt_iff_toInt_lt, Int64.le_iff_toInt_le, Int32.toInt_toInt64, (show ((-2147483648) : Int32).toInt = (-2147483648) from rfl), (show (0 : Int32).toInt = 0 from rfl), (show (1 : Int32).toInt = 1 from rfl), (show (36 : Int32).toInt = 36 from rfl), (show (2143289344 : Int32).toInt = 2143289344 from rfl), (show (0 : Int64).toInt = 0 from rfl), (show (1 : Int64).toInt = 1 from rfl)] at c_58); omega)⟩
              · skip
                refine lv_iload_n hx hb dX10_plus_80 rfl (lv_at hl 2 rfl) ?_
                refine lv_goto (tgt := 85) hx hb dX10_plus_81 (by decide) ?_
                refine lv_istore_n (lv' := [(3, .int p1), (2, .int p1), (0, .int p0), (1, .int p1)]) hx hb dX10_plus_85 rfl hl (by decide) rfl (fun ls hl => ?_)
                have ha1 := pw_in p1
                have hb1 := pw_in p1
                refine lv_iload_n hx hb dX10_plus_86 rfl (lv_at hl 1 rfl) ?_
                refine gcalli (S := Unit) (wc := []) (wr := []) (w1 := fun _ => []) (va_runS (As := [.int p1]) (rest := []) ⟨hx, hb, hml, hown, hts⟩ (c_X10_powerOf l dC dI cI cT cS H.size p1 ) (va_cwS 1 hts (gWS (List.mem_of_getElem? (i := 9) rfl) (List.mem_of_getElem? (i := 10) rfl) (List.mem_of_getElem? (i := 3) rfl) ic_c_X10_plus_c_X10_powerOf gd_c_X10_powerOf) rfl rfl rfl (by decide +kernel) ⟨(Nat.le_of_ble_eq_true rfl), (Nat.le_of_ble_eq_true rfl)⟩) (gpS (hP.sub (ws' := []) [] rfl) hK (hD.sub (ws' := []) [] (by decide) rfl)) rfl rfl hl.1 rfl (lv_room (Nat.le_of_ble_eq_true rfl)) dX10_plus_87 ⟨(Nat.le_of_ble_eq_true rfl), (Nat.le_of_ble_eq_true rfl)⟩) hP hD hS hA [] [] rfl rfl (by decide) (by decide) (fun r_62 ur_62 H locs wr_62 hP hD hS => ?_)
                replace hP : va_P (dC, dI) vwCl [] H := hP
                replace hD : va_D A [] := hD
                obtain rfl : r_62 = pw p1 := wr_62
                refine lv_iload_n hx hb dX10_plus_90 rfl (lv_at hl 0 rfl) ?_
                refine gcalli (S := Unit) (wc := []) (wr := []) (w1 := fun _ => []) (va_runS (As := [.int p1]) (rest := [.int (pw p1)]) ⟨hx, hb, hml, hown, hts⟩ (c_X10_powerOf l dC dI cI cT cS H.size p1 ) (va_cwS 1 hts (gWS (List.mem_of_getElem? (i := 9) rfl) (List.mem_of_getElem? (i := 10) rfl) (List.mem_of_getElem? (i := 3) rfl) ic_c_X10_plus_c_X10_powerOf gd_c_X10_powerOf) rfl rfl rfl (by decide +kernel) ⟨(Nat.le_of_ble_eq_true rfl), (Nat.le_of_ble_eq_true rfl)⟩) (gpS (hP.sub (ws' := []) [] rfl) hK (hD.sub (ws' := []) [] (by decide) rfl)) rfl rfl hl.1 rfl (lv_room (Nat.le_of_ble_eq_true rfl)) dX10_plus_91 ⟨(Nat.le_of_ble_eq_true rfl), (Nat.le_of_ble_eq_true rfl)⟩) hP hD hS hA [] [] rfl rfl (by decide) (by decide) (fun r_63 ur_63 H locs wr_63 hP hD hS => ?_)
                replace hP : va_P (dC, dI) vwCl [] H := hP
                replace hD : va_D A [] := hD
                obtain rfl : r_63 = pw p1 := wr_63
                refine lv_isub hx hb dX10_plus_94 ?_
                refine lv_topi (fun x_64 ex_64 => ?_)
                have hap : x_64.toInt = (pw p1).toInt - (pw p1).toInt := gl_sub ex_64 rfl rfl (by omega)
                refine lv_istore (lv' := [(4, .int x_64), (3, .int p1), (2, .int p1), (0, .int p0), (1, .int p1)]) hx hb dX10_plus_95 hl (by decide) rfl (fun ls hl => ?_)
                exact J_9 (p1, p1, x_64) H locs ls ⟨hP.sub (ws' := []) [] rfl, hS, lv_sub (l' := [(4, .int x_64), (3, .int p1), (2, .int p1), (0, .int p0), (1, .int p1)]) hl [0, 1, 2, 3, 4] rfl, (by show 0 ≤ x_64.toInt; (try simp only [← Int32.toInt_inj, Int32.lt_iff_toInt_lt, Int32.le_iff_toInt_le, ← Int64.toInt_inj, Int64.lt_iff_toInt_lt, Int64.le_iff_toInt_le, Int32.toInt_toInt64, (show ((-2147483648) : Int32).toInt = (-2147483648) from rfl), (show (0 : Int32).toInt = 0 from rfl), (show (1 : Int32).toInt = 1 from rfl), (show (36 : Int32).toInt = 36 from rfl), (show (2143289344 : Int32).toInt = 2143289344 from rfl), (show (0 : Int64).toInt = 0 from rfl), (show (1 : Int64).toInt = 1 from rfl)] at c_2); (try simp only [← Int32.toInt_inj, Int32.lt_iff_toInt_lt, Int32.le_iff_toInt_le, ← Int64.toInt_inj, Int64.lt_iff_toInt_lt, Int64.le_iff_toInt_le, Int32.toInt_toInt64, (show ((-2147483648) : Int32).toInt = (-2147483648) from rfl), (show (0 : Int32).toInt = 0 from rfl), (show (1 : Int32).toInt = 1 from rfl), (show (36 : Int32).toInt = 36 from rfl), (show (2143289344 : Int32).toInt = 2143289344 from rfl), (show (0 : Int64).toInt = 0 from rfl), (show (1 : Int64).toInt = 1 from rfl)] at c_4); (try simp only [← Int32.toInt_inj, Int32.lt_iff_toInt_lt, Int32.le_iff_toInt_le, ← Int64.toInt_inj, Int64.lt_iff_toInt_lt, Int64.le_iff_toInt_le, Int32.toInt_toInt64, (show ((-2147483648) : Int32).toInt = (-2147483648) from rfl), (show (0 : Int32).toInt = 0 from rfl), (show (1 : Int32).toInt = 1 from rfl), (show (36 : Int32).toInt = 36 from rfl), (show (2143289344 : Int32).toInt = 2143289344 from rfl), (show (0 : Int64).toInt = 0 from rfl), (show (1 : Int64).toInt = 1 from rfl)] at c_6); (try simp only [← Int32.toInt_inj, Int32.lt_iff_toInt_lt, Int32.le_iff_toInt_le, ← Int64.toInt_inj, Int64.lt_iff_toInt_lt, Int64.le_iff_toInt_le, Int32.toInt_toInt64, (show ((-2147483648) : Int32).toInt = (-2147483648) from rfl), (show (0 : Int32).toInt = 0 from rfl), (show (1 : Int32).toInt = 1 from rfl), (show (36 : Int32).toInt = 36 from rfl), (show (2143289344 : Int32).toInt = 2143289344 from rfl), (show (0 : Int64).toInt = 0 from rfl), (show (1 : Int64).toInt = 1 from rfl)] at c_8); (try simp only [← Int32.toInt_inj, Int32.lt_iff_toInt_lt, Int32.le_iff_toInt_le, ← Int64.toInt_inj, Int64.lt_iff_toInt_lt, Int64.le_iff_toInt_le, Int32.toInt_toInt64, (show ((-2147483648) : Int32).toInt = (-2147483648) from rfl), (show (0 : Int32).toInt = 0 from rfl), (show (1 : Int32).toInt = 1 from rfl), (show (36 : Int32).toInt = 36 from rfl), (show (2143289344 : Int32).toInt = 2143289344 from rfl), (show (0 : Int64).toInt = 0 from rfl), (show (1 : Int64).toInt = 1 from rfl)] at c_55); (try simp only [← Int32.toInt_inj, Int32.lt_iff_toInt_lt, Int32.le_iff_toInt_le, ← Int64.toInt_inj, Int64.lt_iff_toInt_lt, Int64.le_iff_toInt_le, Int32.toInt_toInt64, (show ((-2147483648) : Int32).toInt = (-2147483648) from rfl), (show (0 : Int32).toInt = 0 from rfl), (show (1 : Int32).toInt = 1 from rfl), (show (36 : Int32).toInt = 36 from rfl), (show (2143289344 : Int32).toInt = 2143289344 from rfl), (show (0 : Int64).toInt = 0 from rfl), (show (1 : Int64).toInt = 1 from rfl)] at c_58); omega)⟩
            · skip
              refine lv_iload_n hx hb dX10_plus_63 rfl (lv_at hl 0 rfl) ?_
              refine lv_goto (tgt := 68) hx hb dX10_plus_64 (by decide) ?_
              refine lv_istore_n (lv' := [(2, .int p0), (0, .int p0), (1, .int p1)]) hx hb dX10_plus_68 rfl hl (by decide) rfl (fun ls hl => ?_)
              refine lv_iload_n hx hb dX10_plus_69 rfl (lv_at hl 1 rfl) ?_
              refine gcalli (S := Unit) (wc := []) (wr := []) (w1 := fun _ => []) (va_runS (As := [.int p0]) (rest := []) ⟨hx, hb, hml, hown, hts⟩ (c_X10_powerOf l dC dI cI cT cS H.size p0 ) (va_cwS 1 hts (gWS (List.mem_of_getElem? (i := 9) rfl) (List.mem_of_getElem? (i := 10) rfl) (List.mem_of_getElem? (i := 3) rfl) ic_c_X10_plus_c_X10_powerOf gd_c_X10_powerOf) rfl rfl rfl (by decide +kernel) ⟨(Nat.le_of_ble_eq_true rfl), (Nat.le_of_ble_eq_true rfl)⟩) (gpS (hP.sub (ws' := []) [] rfl) hK (hD.sub (ws' := []) [] (by decide) rfl)) rfl rfl hl.1 rfl (lv_room (Nat.le_of_ble_eq_true rfl)) dX10_plus_70 ⟨(Nat.le_of_ble_eq_true rfl), (Nat.le_of_ble_eq_true rfl)⟩) hP hD hS hA [] [] rfl rfl (by decide) (by decide) (fun r_65 ur_65 H locs wr_65 hP hD hS => ?_)
              replace hP : va_P (dC, dI) vwCl [] H := hP
              replace hD : va_D A [] := hD
              obtain rfl : r_65 = pw p0 := wr_65
              refine lv_iload_n hx hb dX10_plus_73 rfl (lv_at hl 2 rfl) ?_
              refine gcalli (S := Unit) (wc := []) (wr := []) (w1 := fun _ => []) (va_runS (As := [.int p1]) (rest := [.int (pw p0)]) ⟨hx, hb, hml, hown, hts⟩ (c_X10_powerOf l dC dI cI cT cS H.size p1 ) (va_cwS 1 hts (gWS (List.mem_of_getElem? (i := 9) rfl) (List.mem_of_getElem? (i := 10) rfl) (List.mem_of_getElem? (i := 3) rfl) ic_c_X10_plus_c_X10_powerOf gd_c_X10_powerOf) rfl rfl rfl (by decide +kernel) ⟨(Nat.le_of_ble_eq_true rfl), (Nat.le_of_ble_eq_true rfl)⟩) (gpS (hP.sub (ws' := []) [] rfl) hK (hD.sub (ws' := []) [] (by decide) rfl)) rfl rfl hl.1 rfl (lv_room (Nat.le_of_ble_eq_true rfl)) dX10_plus_74 ⟨(Nat.le_of_ble_eq_true rfl), (Nat.le_of_ble_eq_true rfl)⟩) hP hD hS hA [] [] rfl rfl (by decide) (by decide) (fun r_66 ur_66 H locs wr_66 hP hD hS => ?_)
              replace hP : va_P (dC, dI) vwCl [] H := hP
              replace hD : va_D A [] := hD
              obtain rfl : r_66 = pw p1 := wr_66
              refine lv_icmp_lt (tgt := 84) hx hb dX10_plus_77 (by decide) (fun c_67 => ?_) (fun c_67 => ?_)
              · skip
                refine lv_iload_n hx hb dX10_plus_84 rfl (lv_at hl 1 rfl) ?_
                refine lv_istore_n (lv' := [(3, .int p0), (2, .int p0), (0, .int p0), (1, .int p1)]) hx hb dX10_plus_85 rfl hl (by decide) rfl (fun ls hl => ?_)
                have ha1 := pw_in p0
                have hb1 := pw_in p0
                refine lv_iload_n hx hb dX10_plus_86 rfl (lv_at hl 1 rfl) ?_
                refine gcalli (S := Unit) (wc := []) (wr := []) (w1 := fun _ => []) (va_runS (As := [.int p0]) (rest := []) ⟨hx, hb, hml, hown, hts⟩ (c_X10_powerOf l dC dI cI cT cS H.size p0 ) (va_cwS 1 hts (gWS (List.mem_of_getElem? (i := 9) rfl) (List.mem_of_getElem? (i := 10) rfl) (List.mem_of_getElem? (i := 3) rfl) ic_c_X10_plus_c_X10_powerOf gd_c_X10_powerOf) rfl rfl rfl (by decide +kernel) ⟨(Nat.le_of_ble_eq_true rfl), (Nat.le_of_ble_eq_true rfl)⟩) (gpS (hP.sub (ws' := []) [] rfl) hK (hD.sub (ws' := []) [] (by decide) rfl)) rfl rfl hl.1 rfl (lv_room (Nat.le_of_ble_eq_true rfl)) dX10_plus_87 ⟨(Nat.le_of_ble_eq_true rfl), (Nat.le_of_ble_eq_true rfl)⟩) hP hD hS hA [] [] rfl rfl (by decide) (by decide) (fun r_68 ur_68 H locs wr_68 hP hD hS => ?_)
                replace hP : va_P (dC, dI) vwCl [] H := hP
                replace hD : va_D A [] := hD
                obtain rfl : r_68 = pw p0 := wr_68
                refine lv_iload_n hx hb dX10_plus_90 rfl (lv_at hl 0 rfl) ?_
                refine gcalli (S := Unit) (wc := []) (wr := []) (w1 := fun _ => []) (va_runS (As := [.int p0]) (rest := [.int (pw p0)]) ⟨hx, hb, hml, hown, hts⟩ (c_X10_powerOf l dC dI cI cT cS H.size p0 ) (va_cwS 1 hts (gWS (List.mem_of_getElem? (i := 9) rfl) (List.mem_of_getElem? (i := 10) rfl) (List.mem_of_getElem? (i := 3) rfl) ic_c_X10_plus_c_X10_powerOf gd_c_X10_powerOf) rfl rfl rfl (by decide +kernel) ⟨(Nat.le_of_ble_eq_true rfl), (Nat.le_of_ble_eq_true rfl)⟩) (gpS (hP.sub (ws' := []) [] rfl) hK (hD.sub (ws' := []) [] (by decide) rfl)) rfl rfl hl.1 rfl (lv_room (Nat.le_of_ble_eq_true rfl)) dX10_plus_91 ⟨(Nat.le_of_ble_eq_true rfl), (Nat.le_of_ble_eq_true rfl)⟩) hP hD hS hA [] [] rfl rfl (by decide) (by decide) (fun r_69 ur_69 H locs wr_69 hP hD hS => ?_)
                replace hP : va_P (dC, dI) vwCl [] H := hP
                replace hD : va_D A [] := hD
                obtain rfl : r_69 = pw p0 := wr_69
                refine lv_isub hx hb dX10_plus_94 ?_
                refine lv_topi (fun x_70 ex_70 => ?_)
                have hap : x_70.toInt = (pw p0).toInt - (pw p0).toInt := gl_sub ex_70 rfl rfl (by omega)
                refine lv_istore (lv' := [(4, .int x_70), (3, .int p0), (2, .int p0), (0, .int p0), (1, .int p1)]) hx hb dX10_plus_95 hl (by decide) rfl (fun ls hl => ?_)
                exact J_9 (p0, p0, x_70) H locs ls ⟨hP.sub (ws' := []) [] rfl, hS, lv_sub (l' := [(4, .int x_70), (3, .int p0), (2, .int p0), (0, .int p0), (1, .int p1)]) hl [0, 1, 2, 3, 4] rfl, (by show 0 ≤ x_70.toInt; (try simp only [← Int32.toInt_inj, Int32.lt_iff_toInt_lt, Int32.le_iff_toInt_le, ← Int64.toInt_inj, Int64.lt_iff_toInt_lt, Int64.le_iff_toInt_le, Int32.toInt_toInt64, (show ((-2147483648) : Int32).toInt = (-2147483648) from rfl), (show (0 : Int32).toInt = 0 from rfl), (show (1 : Int32).toInt = 1 from rfl), (show (36 : Int32).toInt = 36 from rfl), (show (2143289344 : Int32).toInt = 2143289344 from rfl), (show (0 : Int64).toInt = 0 from rfl), (show (1 : Int64).toInt = 1 from rfl)] at c_2); (try simp only [← Int32.toInt_inj, Int32.lt_iff_toInt_lt, Int32.le_iff_toInt_le, ← Int64.toInt_inj, Int64.lt_iff_toInt_lt, Int64.le_iff_toInt_le, Int32.toInt_toInt64, (show ((-2147483648) : Int32).toInt = (-2147483648) from rfl), (show (0 : Int32).toInt = 0 from rfl), (show (1 : Int32).toInt = 1 from rfl), (show (36 : Int32).toInt = 36 from rfl), (show (2143289344 : Int32).toInt = 2143289344 from rfl), (show (0 : Int64).toInt = 0 from rfl), (show (1 : Int64).toInt = 1 from rfl)] at c_4); (try simp only [← Int32.toInt_inj, Int32.lt_iff_toInt_lt, Int32.le_iff_toInt_le, ← Int64.toInt_inj, Int64.lt_iff_toInt_lt, Int64.le_iff_toInt_le, Int32.toInt_toInt64, (show ((-2147483648) : Int32).toInt = (-2147483648) from rfl), (show (0 : Int32).toInt = 0 from rfl), (show (1 : Int32).toInt = 1 from rfl), (show (36 : Int32).toInt = 36 from rfl), (show (2143289344 : Int32).toInt = 2143289344 from rfl), (show (0 : Int64).toInt = 0 from rfl), (show (1 : Int64).toInt = 1 from rfl)] at c_6); (try simp only [← Int32.toInt_inj, Int32.lt_iff_toInt_lt, Int32.le_iff_toInt_le, ← Int64.toInt_inj, Int64.lt_iff_toInt_lt, Int64.le_iff_toInt_le, Int32.toInt_toInt64, (show ((-2147483648) : Int32).toInt = (-2147483648) from rfl), (show (0 : Int32).toInt = 0 from rfl), (show (1 : Int32).toInt = 1 from rfl), (show (36 : Int32).toInt = 36 from rfl), (show (2143289344 : Int32).toInt = 2143289344 from rfl), (show (0 : Int64).toInt = 0 from rfl), (show (1 : Int64).toInt = 1 from rfl)] at c_8); (try simp only [← Int32.toInt_inj, Int32.lt_iff_toInt_lt, Int32.le_iff_toInt_le, ← Int64.toInt_inj, Int64.lt_iff_toInt_lt, Int64.le_iff_toInt_le, Int32.toInt_toInt64, (show ((-2147483648) : Int32).toInt = (-2147483648) from rfl), (show (0 : Int32).toInt = 0 from rfl), (show (1 : Int32).toInt = 1 from rfl), (show (36 : Int32).toInt = 36 from rfl), (show (2143289344 : Int32).toInt = 2143289344 from rfl), (show (0 : Int64).toInt = 0 from rfl), (show (1 : Int64).toInt = 1 from rfl)] at c_55); (try simp only [← Int32.toInt_inj, Int32.lt_iff_toInt_lt, Int32.le_iff_toInt_le, ← Int64.toInt_inj, Int64.lt_iff_toInt_lt, Int64.le_iff_toInt_le, Int32.toInt_toInt64, (show ((-2147483648) : Int32).toInt = (-2147483648) from rfl), (show (0 : Int32).toInt = 0 from rfl), (show (1 : Int32).toInt = 1 from rfl), (show (36 : Int32).toInt = 36 from rfl), (show (2143289344 : Int32).toInt = 2143289344 from rfl), (show (0 : Int64).toInt = 0 from rfl), (show (1 : Int64).toInt = 1 from rfl)] at c_67); omega)⟩
              · skip
                refine lv_iload_n hx hb dX10_plus_80 rfl (lv_at hl 2 rfl) ?_
                refine lv_goto (tgt := 85) hx hb dX10_plus_81 (by decide) ?_
                refine lv_istore_n (lv' := [(3, .int p1), (2, .int p0), (0, .int p0), (1, .int p1)]) hx hb dX10_plus_85 rfl hl (by decide) rfl (fun ls hl => ?_)
                have ha1 := pw_in p0
                have hb1 := pw_in p1
                refine lv_iload_n hx hb dX10_plus_86 rfl (lv_at hl 1 rfl) ?_
                refine gcalli (S := Unit) (wc := []) (wr := []) (w1 := fun _ => []) (va_runS (As := [.int p0]) (rest := []) ⟨hx, hb, hml, hown, hts⟩ (c_X10_powerOf l dC dI cI cT cS H.size p0 ) (va_cwS 1 hts (gWS (List.mem_of_getElem? (i := 9) rfl) (List.mem_of_getElem? (i := 10) rfl) (List.mem_of_getElem? (i := 3) rfl) ic_c_X10_plus_c_X10_powerOf gd_c_X10_powerOf) rfl rfl rfl (by decide +kernel) ⟨(Nat.le_of_ble_eq_true rfl), (Nat.le_of_ble_eq_true rfl)⟩) (gpS (hP.sub (ws' := []) [] rfl) hK (hD.sub (ws' := []) [] (by decide) rfl)) rfl rfl hl.1 rfl (lv_room (Nat.le_of_ble_eq_true rfl)) dX10_plus_87 ⟨(Nat.le_of_ble_eq_true rfl), (Nat.le_of_ble_eq_true rfl)⟩) hP hD hS hA [] [] rfl rfl (by decide) (by decide) (fun r_71 ur_71 H locs wr_71 hP hD hS => ?_)
                replace hP : va_P (dC, dI) vwCl [] H := hP
                replace hD : va_D A [] := hD
                obtain rfl : r_71 = pw p0 := wr_71
                refine lv_iload_n hx hb dX10_plus_90 rfl (lv_at hl 0 rfl) ?_
                refine gcalli (S := Unit) (wc := []) (wr := []) (w1 := fun _ => []) (va_runS (As := [.int p1]) (rest := [.int (pw p0)]) ⟨hx, hb, hml, hown, hts⟩ (c_X10_powerOf l dC dI cI cT cS H.size p1 ) (va_cwS 1 hts (gWS (List.mem_of_getElem? (i := 9) rfl) (List.mem_of_getElem? (i := 10) rfl) (List.mem_of_getElem? (i := 3) rfl) ic_c_X10_plus_c_X10_powerOf gd_c_X10_powerOf) rfl rfl rfl (by decide +kernel) ⟨(Nat.le_of_ble_eq_true rfl), (Nat.le_of_ble_eq_true rfl)⟩) (gpS (hP.sub (ws' := []) [] rfl) hK (hD.sub (ws' := []) [] (by decide) rfl)) rfl rfl hl.1 rfl (lv_room (Nat.le_of_ble_eq_true rfl)) dX10_plus_91 ⟨(Nat.le_of_ble_eq_true rfl), (Nat.le_of_ble_eq_true rfl)⟩) hP hD hS hA [] [] rfl rfl (by decide) (by decide) (fun r_72 ur_72 H locs wr_72 hP hD hS => ?_)
                replace hP : va_P (dC, dI) vwCl [] H := hP
                replace hD : va_D A [] := hD
                obtain rfl : r_72 = pw p1 := wr_72
                refine lv_isub hx hb dX10_plus_94 ?_
                refine lv_topi (fun x_73 ex_73 => ?_)
                have hap : x_73.toInt = (pw p0).toInt - (pw p1).toInt := gl_sub ex_73 rfl rfl (by omega)
                refine lv_istore (lv' := [(4, .int x_73), (3, .int p1), (2, .int p0), (0, .int p0), (1, .int p1)]) hx hb dX10_plus_95 hl (by decide) rfl (fun ls hl => ?_)
                exact J_9 (p0, p1, x_73) H locs ls ⟨hP.sub (ws' := []) [] rfl, hS, lv_sub (l' := [(4, .int x_73), (3, .int p1), (2, .int p0), (0, .int p0), (1, .int p1)]) hl [0, 1, 2, 3, 4] rfl, (by show 0 ≤ x_73.toInt; (try simp only [← Int32.toInt_inj, Int32.lt_iff_toInt_lt, Int32.le_iff_toInt_le, ← Int64.toInt_inj, Int64.lt_iff_toInt_lt, Int64.le_iff_toInt_le, Int32.toInt_toInt64, (show ((-2147483648) : Int32).toInt = (-2147483648) from rfl), (show (0 : Int32).toInt = 0 from rfl), (show (1 : Int32).toInt = 1 from rfl), (show (36 : Int32).toInt = 36 from rfl), (show (2143289344 : Int32).toInt = 2143289344 from rfl), (show (0 : Int64).toInt = 0 from rfl), (show (1 : Int64).toInt = 1 from rfl)] at c_2); (try simp only [← Int32.toInt_inj, Int32.lt_iff_toInt_lt, Int32.le_iff_toInt_le, ← Int64.toInt_inj, Int64.lt_iff_toInt_lt, Int64.le_iff_toInt_le, Int32.toInt_toInt64, (show ((-2147483648) : Int32).toInt = (-2147483648) from rfl), (show (0 : Int32).toInt = 0 from rfl), (show (1 : Int32).toInt = 1 from rfl), (show (36 : Int32).toInt = 36 from rfl), (show (2143289344 : Int32).toInt = 2143289344 from rfl), (show (0 : Int64).toInt = 0 from rfl), (show (1 : Int64).toInt = 1 from rfl)] at c_4); (try simp only [← Int32.toInt_inj, Int32.lt_iff_toInt_lt, Int32.le_iff_toInt_le, ← Int64.toInt_inj, Int64.lt_iff_toInt_lt, Int64.le_iff_toInt_le, Int32.toInt_toInt64, (show ((-2147483648) : Int32).toInt = (-2147483648) from rfl), (show (0 : Int32).toInt = 0 from rfl), (show (1 : Int32).toInt = 1 from rfl), (show (36 : Int32).toInt = 36 from rfl), (show (2143289344 : Int32).toInt = 2143289344 from rfl), (show (0 : Int64).toInt = 0 from rfl), (show (1 : Int64).toInt = 1 from rfl)] at c_6); (try simp only [← Int32.toInt_inj, Int32.lt_iff_toInt_lt, Int32.le_iff_toInt_le, ← Int64.toInt_inj, Int64.lt_iff_toInt_lt, Int64.le_iff_toInt_le, Int32.toInt_toInt64, (show ((-2147483648) : Int32).toInt = (-2147483648) from rfl), (show (0 : Int32).toInt = 0 from rfl), (show (1 : Int32).toInt = 1 from rfl), (show (36 : Int32).toInt = 36 from rfl), (show (2143289344 : Int32).toInt = 2143289344 from rfl), (show (0 : Int64).toInt = 0 from rfl), (show (1 : Int64).toInt = 1 from rfl)] at c_8); (try simp only [← Int32.toInt_inj, Int32.lt_iff_toInt_lt, Int32.le_iff_toInt_le, ← Int64.toInt_inj, Int64.lt_iff_toInt_lt, Int64.le_iff_toInt_le, Int32.toInt_toInt64, (show ((-2147483648) : Int32).toInt = (-2147483648) from rfl), (show (0 : Int32).toInt = 0 from rfl), (show (1 : Int32).toInt = 1 from rfl), (show (36 : Int32).toInt = 36 from rfl), (show (2143289344 : Int32).toInt = 2143289344 from rfl), (show (0 : Int64).toInt = 0 from rfl), (show (1 : Int64).toInt = 1 from rfl)] at c_55); (try simp only [← Int32.toInt_inj, Int32.lt_iff_toInt_lt, Int32.le_iff_toInt_le, ← Int64.toInt_inj, Int64.lt_iff_toInt_lt, Int64.le_iff_toInt_le, Int32.toInt_toInt64, (show ((-2147483648) : Int32).toInt = (-2147483648) from rfl), (show (0 : Int32).toInt = 0 from rfl), (show (1 : Int32).toInt = 1 from rfl), (show (36 : Int32).toInt = 36 from rfl), (show (2143289344 : Int32).toInt = 2143289344 from rfl), (show (0 : Int64).toInt = 0 from rfl), (show (1 : Int64).toInt = 1 from rfl)] at c_67); omega)⟩
        · skip
          refine lv_iload_n hx hb dX10_plus_50 rfl (lv_at hl 1 rfl) ?_
          refine W.widen (k := 0) (n := 0) (Nat.le_of_ble_eq_true rfl) (Nat.le_of_ble_eq_true rfl) ?_
          have hP9 := hP.sub (ws' := []) [] rfl
          have hD9 := hD.sub (ws' := []) [] (by decide) rfl
          exact W.iret (v := p1) hx hb hr (fun t ht hW => ⟨⟨p1, (), rfl, trivial, by rw [ht]; exact hP9, hD9⟩, hS.F ht⟩) hS.2.2 dX10_plus_51
      · skip
        refine lv_iload_n hx hb dX10_plus_24 rfl (lv_at hl 1 rfl) ?_
        refine gcalli (S := Unit) (wc := []) (wr := []) (w1 := fun _ => []) (va_runS (As := [.int p1]) (rest := []) ⟨hx, hb, hml, hown, hts⟩ (c_X10_isEndless l dC dI cI cT cS H.size p1 ) (va_cwS 1 hts (gWS (List.mem_of_getElem? (i := 5) rfl) (List.mem_of_getElem? (i := 6) rfl) (List.mem_of_getElem? (i := 3) rfl) ic_c_X10_plus_c_X10_isEndless gd_c_X10_isEndless) rfl rfl rfl (by decide +kernel) ⟨(Nat.le_of_ble_eq_true rfl), (Nat.le_of_ble_eq_true rfl)⟩) (gpS (hP.sub (ws' := []) [] rfl) hK (hD.sub (ws' := []) [] (by decide) rfl)) rfl rfl hl.1 rfl (lv_room (Nat.le_of_ble_eq_true rfl)) dX10_plus_25 ⟨(Nat.le_of_ble_eq_true rfl), (Nat.le_of_ble_eq_true rfl)⟩) hP hD hS hA [] [] rfl rfl (by decide) (by decide) (fun r_74 ur_74 H locs wr_74 hP hD hS => ?_)
        replace hP : va_P (dC, dI) vwCl [] H := hP
        replace hD : va_D A [] := hD
        refine lv_if_eq (tgt := 41) hx hb dX10_plus_28 (by decide) (fun c_75 => ?_) (fun c_75 => ?_)
        · skip
          refine lv_iload_n hx hb dX10_plus_41 rfl (lv_at hl 0 rfl) ?_
          refine W.widen (k := 0) (n := 0) (Nat.le_of_ble_eq_true rfl) (Nat.le_of_ble_eq_true rfl) ?_
          have hP9 := hP.sub (ws' := []) [] rfl
          have hD9 := hD.sub (ws' := []) [] (by decide) rfl
          exact W.iret (v := p0) hx hb hr (fun t ht hW => ⟨⟨p0, (), rfl, trivial, by rw [ht]; exact hP9, hD9⟩, hS.F ht⟩) hS.2.2 dX10_plus_42
        · skip
          refine lv_iload_n hx hb dX10_plus_31 rfl (lv_at hl 0 rfl) ?_
          refine lv_iload_n hx hb dX10_plus_32 rfl (lv_at hl 1 rfl) ?_
          refine lv_icmp_eq (tgt := 41) hx hb dX10_plus_33 (by decide) (fun c_76 => ?_) (fun c_76 => ?_)
          · skip
            refine lv_iload_n hx hb dX10_plus_41 rfl (lv_at hl 0 rfl) ?_
            refine W.widen (k := 0) (n := 0) (Nat.le_of_ble_eq_true rfl) (Nat.le_of_ble_eq_true rfl) ?_
            have hP9 := hP.sub (ws' := []) [] rfl
            have hD9 := hD.sub (ws' := []) [] (by decide) rfl
            exact W.iret (v := p0) hx hb hr (fun t ht hW => ⟨⟨p0, (), rfl, trivial, by rw [ht]; exact hP9, hD9⟩, hS.F ht⟩) hS.2.2 dX10_plus_42
          · skip
            refine lv_ldc (v := 2143289344) hx hb hown (hts (.constant RX10 129 (2143289344)) (List.mem_of_getElem? (i := 4) rfl)) dX10_plus_36 ?_
            refine lv_goto (tgt := 42) hx hb dX10_plus_38 (by decide) ?_
            refine W.widen (k := 0) (n := 0) (Nat.le_of_ble_eq_true rfl) (Nat.le_of_ble_eq_true rfl) ?_
            have hP9 := hP.sub (ws' := []) [] rfl
            have hD9 := hD.sub (ws' := []) [] (by decide) rfl
            exact W.iret (v := 2143289344) hx hb hr (fun t ht hW => ⟨⟨2143289344, (), rfl, trivial, by rw [ht]; exact hP9, hD9⟩, hS.F ht⟩) hS.2.2 dX10_plus_42
    · skip
      refine lv_ldc (v := 2143289344) hx hb hown (hts (.constant RX10 129 (2143289344)) (List.mem_of_getElem? (i := 4) rfl)) dX10_plus_14 ?_
      refine W.widen (k := 0) (n := 0) (Nat.le_of_ble_eq_true rfl) (Nat.le_of_ble_eq_true rfl) ?_
      have hP9 := hP.sub (ws' := []) [] rfl
      have hD9 := hD.sub (ws' := []) [] (by decide) rfl
      exact W.iret (v := 2143289344) hx hb hr (fun t ht hW => ⟨⟨2143289344, (), rfl, trivial, by rw [ht]; exact hP9, hD9⟩, hS.F ht⟩) hS.2.2 dX10_plus_16
def oc_X10_minus : List Cond := [.methodLink RX10 126 yX10_isNan, .static yX10_isNan, .initialized RX10, .methodLink RX10 210 yX10_turned, .static yX10_turned, .methodLink RX10 204 yX10_plus, .static yX10_plus, .constant RX10 129 (2143289344)]
def vc_X10_minus : List Cond := .code yX10_minus cX10_minus 2 (some .int) :: (oc_X10_minus ++ (vc_X10_isNan ++ (vc_X10_turned ++ (vc_X10_plus))))
theorem ic_c_X10_minus_c_X10_isNan : ∀ w ∈ vc_X10_isNan, w ∈ vc_X10_minus := fun _ h => List.mem_cons_of_mem _ (List.mem_append_right _ (List.mem_append_left _ h))
theorem ic_c_X10_minus_c_X10_turned : ∀ w ∈ vc_X10_turned, w ∈ vc_X10_minus := fun _ h => List.mem_cons_of_mem _ (List.mem_append_right _ (List.mem_append_right _ (List.mem_append_left _ h)))
theorem ic_c_X10_minus_c_X10_plus : ∀ w ∈ vc_X10_plus, w ∈ vc_X10_minus := fun _ h => List.mem_cons_of_mem _ (List.mem_append_right _ (List.mem_append_right _ (List.mem_append_right _ (h))))
theorem gd_c_X10_minus : (vc_X10_minus).all goodWord = true := by decide +kernel
set_option maxHeartbeats 4000000 in
set_option maxRecDepth 100000 in
theorem c_X10_minus (l : Launch) (dC : Nat → ClassId) (dI : Nat → Nat → Nat) (cI cT cS : ClassId) (sz : Nat) (p0 : Int32) (p1 : Int32)  : gCI (S := Unit) l yX10_minus vc_X10_minus ({ frames := 3, cells := 0, slots := 0, locals := 89 }) (dC, dI) (gTY cI cT cS) sz [.int p0, .int p1] [] (fun r u => True) (fun _ => []) 0 0 := by
  refine Met.ofW (cc := cX10_minus) (maxL := 2) (ret := (some .int)) (by decide) rfl ?_
  intro p e s m args below meth c s₁ B hml hv
  obtain ⟨rfl, hsz, hP, hK, hD0⟩ := hv
  have hx := B.exec
  have hb := B.bytes
  have hr := B.returns
  have hts := atoms_spec (ws := vc_X10_minus) B.pre
  have hown : s.vm.findClass RX10 = some m.cls := findClass_of_methodNamed B.named
  have hlocks := B.notSynchronized
  subst hsz
  have hD := hD0.self (sz := s.heap.size)
  generalize hAe : va_A [] s.heap.size = A at hD ⊢
  have hA : ∀ q : Nat, s.heap.size ≤ q → A q := fun q h => by rw [← hAe]; exact Or.inr h
  refine gstart (fun H locs hHe hLe => ?_)
  have hS : va_S A s.heap H locs := by rw [← hHe, ← hLe]; exact va_S.rf
  replace hP : va_P (dC, dI) vwCl [] H := by rw [← hHe]; exact hP
  clear hHe hLe
  have hl := lv_entry ([.int p0, .int p1]) (n := 2) (Nat.le_of_ble_eq_true rfl)
  rw [lg_entry_eq]
  generalize (lg_sl ([.int p0, .int p1]) ++ List.replicate (2 - (lg_sl ([.int p0, .int p1])).length) Slot.unset).toArray = ls at hl ⊢
  replace hl : lv_has ls 2 [(0, .int p0), (1, .int p1)] := hl
  refine lv_iload_n hx hb dX10_minus_0 rfl (lv_at hl 1 rfl) ?_
  refine gcalli (S := Unit) (wc := []) (wr := []) (w1 := fun _ => []) (va_runS (As := [.int p1]) (rest := []) ⟨hx, hb, hml, hown, hts⟩ (c_X10_isNan l dC dI cI cT cS H.size p1 ) (va_cwS 1 hts (gWS (List.mem_of_getElem? (i := 1) rfl) (List.mem_of_getElem? (i := 2) rfl) (List.mem_of_getElem? (i := 3) rfl) ic_c_X10_minus_c_X10_isNan gd_c_X10_isNan) rfl rfl rfl (by decide +kernel) ⟨(Nat.le_of_ble_eq_true rfl), (Nat.le_of_ble_eq_true rfl)⟩) (gpS (hP.sub (ws' := []) [] rfl) hK (hD.sub (ws' := []) [] (by decide) rfl)) rfl rfl hl.1 rfl (lv_room (Nat.le_of_ble_eq_true rfl)) dX10_minus_1 ⟨(Nat.le_of_ble_eq_true rfl), (Nat.le_of_ble_eq_true rfl)⟩) hP hD hS hA [] [] rfl rfl (by decide) (by decide) (fun r_1 ur_1 H locs wr_1 hP hD hS => ?_)
  replace hP : va_P (dC, dI) vwCl [] H := hP
  replace hD : va_D A [] := hD
  refine lv_if_eq (tgt := 12) hx hb dX10_minus_4 (by decide) (fun c_2 => ?_) (fun c_2 => ?_)
  · skip
    refine lv_iload_n hx hb dX10_minus_12 rfl (lv_at hl 0 rfl) ?_
    refine lv_iload_n hx hb dX10_minus_13 rfl (lv_at hl 1 rfl) ?_
    refine gcalli (S := Unit) (wc := []) (wr := []) (w1 := fun _ => []) (va_runS (As := [.int p1]) (rest := [.int p0]) ⟨hx, hb, hml, hown, hts⟩ (c_X10_turned l dC dI cI cT cS H.size p1 ) (va_cwS 1 hts (gWS (List.mem_of_getElem? (i := 4) rfl) (List.mem_of_getElem? (i := 5) rfl) (List.mem_of_getElem? (i := 3) rfl) ic_c_X10_minus_c_X10_turned gd_c_X10_turned) rfl rfl rfl (by decide +kernel) ⟨(Nat.le_of_ble_eq_true rfl), (Nat.le_of_ble_eq_true rfl)⟩) (gpS (hP.sub (ws' := []) [] rfl) hK (hD.sub (ws' := []) [] (by decide) rfl)) rfl rfl hl.1 rfl (lv_room (Nat.le_of_ble_eq_true rfl)) dX10_minus_14 ⟨(Nat.le_of_ble_eq_true rfl), (Nat.le_of_ble_eq_true rfl)⟩) hP hD hS hA [] [] rfl rfl (by decide) (by decide) (fun r_3 ur_3 H locs wr_3 hP hD hS => ?_)
    replace hP : va_P (dC, dI) vwCl [] H := hP
    replace hD : va_D A [] := hD
    refine gcalli (S := Unit) (wc := []) (wr := []) (w1 := fun _ => []) (va_runS (As := [.int p0, .int r_3]) (rest := []) ⟨hx, hb, hml, hown, hts⟩ (c_X10_plus l dC dI cI cT cS H.size p0 r_3 ) (va_cwS 2 hts (gWS (List.mem_of_getElem? (i := 6) rfl) (List.mem_of_getElem? (i := 7) rfl) (List.mem_of_getElem? (i := 3) rfl) ic_c_X10_minus_c_X10_plus gd_c_X10_plus) rfl rfl rfl (by decide +kernel) ⟨(Nat.le_of_ble_eq_true rfl), (Nat.le_of_ble_eq_true rfl)⟩) (gpS (hP.sub (ws' := []) [] rfl) hK (hD.sub (ws' := []) [] (by decide) rfl)) rfl rfl hl.1 rfl (lv_room (Nat.le_of_ble_eq_true rfl)) dX10_minus_17 ⟨(Nat.le_of_ble_eq_true rfl), (Nat.le_of_ble_eq_true rfl)⟩) hP hD hS hA [] [] rfl rfl (by decide) (by decide) (fun r_4 ur_4 H locs wr_4 hP hD hS => ?_)
    replace hP : va_P (dC, dI) vwCl [] H := hP
    replace hD : va_D A [] := hD
    refine W.widen (k := 0) (n := 0) (Nat.le_of_ble_eq_true rfl) (Nat.le_of_ble_eq_true rfl) ?_
    have hP9 := hP.sub (ws' := []) [] rfl
    have hD9 := hD.sub (ws' := []) [] (by decide) rfl
    exact W.iret (v := r_4) hx hb hr (fun t ht hW => ⟨⟨r_4, (), rfl, trivial, by rw [ht]; exact hP9, hD9⟩, hS.F ht⟩) hS.2.2 dX10_minus_20
  · skip
    refine lv_ldc (v := 2143289344) hx hb hown (hts (.constant RX10 129 (2143289344)) (List.mem_of_getElem? (i := 8) rfl)) dX10_minus_7 ?_
    refine lv_goto (tgt := 20) hx hb dX10_minus_9 (by decide) ?_
    refine W.widen (k := 0) (n := 0) (Nat.le_of_ble_eq_true rfl) (Nat.le_of_ble_eq_true rfl) ?_
    have hP9 := hP.sub (ws' := []) [] rfl
    have hD9 := hD.sub (ws' := []) [] (by decide) rfl
    exact W.iret (v := 2143289344) hx hb hr (fun t ht hW => ⟨⟨2143289344, (), rfl, trivial, by rw [ht]; exact hP9, hD9⟩, hS.F ht⟩) hS.2.2 dX10_minus_20
