/-! good words, piece by piece -/
theorem gall_cons {a : Cond} {l : List Cond} (h : goodWord a = true) (q : l.all goodWord = true) : (a :: l).all goodWord = true := by rw [List.all_cons, h, q]; rfl
theorem gall_app {l k : List Cond} (h : l.all goodWord = true) (q : k.all goodWord = true) : (l ++ k).all goodWord = true := by rw [List.all_append, h, q]; rfl
theorem gw_X0 : (wsX00).all goodWord = true := by decide +kernel
theorem gw_X2 : (wsX20).all goodWord = true := by decide +kernel
theorem gw_X3 : (wsX30).all goodWord = true := by decide +kernel
theorem gw_X4 : (wsX40).all goodWord = true := by decide +kernel
theorem gw_X5 : (wsX50).all goodWord = true := by decide +kernel
theorem gw_X6 : (wsX60).all goodWord = true := by decide +kernel
theorem gw_X8 : (wsX80).all goodWord = true := by decide +kernel
theorem gw_X9 : (wsX90).all goodWord = true := by decide +kernel
theorem gw_X10 : (wsX100).all goodWord = true := by decide +kernel
def zb_J6_numberOfLeadingZeros_0f7a4_73 (v1_73 : Int32) (v0_73 : Int32) : Int32 := (v1_73 - ((v0_73.toUInt32 >>> ((1 : Int32).toUInt32 &&& Int32.toUInt32 31)).toInt32))
def zb_J6_numberOfLeadingZeros_0f7a4_61 (v1_61 : Int32) (v0_61 : Int32) : Int32 := (if v0_61 < (4 : Int32) then (zb_J6_numberOfLeadingZeros_0f7a4_73 v1_61 v0_61) else letb ((v0_61.toUInt32 >>> ((2 : Int32).toUInt32 &&& Int32.toUInt32 31)).toInt32) (fun e10 => (zb_J6_numberOfLeadingZeros_0f7a4_73 (v1_61 + (-2 : Int32)) e10)))
def zb_J6_numberOfLeadingZeros_0f7a4_48 (v1_48 : Int32) (v0_48 : Int32) : Int32 := (if v0_48 < (16 : Int32) then (zb_J6_numberOfLeadingZeros_0f7a4_61 v1_48 v0_48) else letb ((v0_48.toUInt32 >>> ((4 : Int32).toUInt32 &&& Int32.toUInt32 31)).toInt32) (fun e8 => (zb_J6_numberOfLeadingZeros_0f7a4_61 (v1_48 + (-4 : Int32)) e8)))
def zb_J6_numberOfLeadingZeros_0f7a4_14 (w0_14 : Int32) : Int32 := w0_14
def zb_J6_numberOfLeadingZeros_0f7a4_33 (v1_33 : Int32) (v0_33 : Int32) : Int32 := (if v0_33 < (256 : Int32) then (zb_J6_numberOfLeadingZeros_0f7a4_48 v1_33 v0_33) else letb ((v0_33.toUInt32 >>> ((8 : Int32).toUInt32 &&& Int32.toUInt32 31)).toInt32) (fun e6 => (zb_J6_numberOfLeadingZeros_0f7a4_48 (v1_33 + (-8 : Int32)) e6)))
def zf_J6_numberOfLeadingZeros_0f7a4 (a0 : Int32) : Int32 := (if 0 < a0 then (if a0 < (65536 : Int32) then (zb_J6_numberOfLeadingZeros_0f7a4_33 (31 : Int32) a0) else letb ((a0.toUInt32 >>> ((16 : Int32).toUInt32 &&& Int32.toUInt32 31)).toInt32) (fun e3 => (zb_J6_numberOfLeadingZeros_0f7a4_33 ((31 : Int32) + (-16 : Int32)) e3))) else (if a0 = 0 then (zb_J6_numberOfLeadingZeros_0f7a4_14 (32 : Int32)) else (zb_J6_numberOfLeadingZeros_0f7a4_14 (0 : Int32))))
def oc_J6_numberOfLeadingZeros_0f7a4 : List Cond := [.constant RJ6 264 (65536)]
def vc_J6_numberOfLeadingZeros_0f7a4 : List Cond := .code yJ6_numberOfLeadingZeros_0f7a4 cJ6_numberOfLeadingZeros_0f7a4 2 (some .int) :: (oc_J6_numberOfLeadingZeros_0f7a4)
theorem gd_c_J6_numberOfLeadingZeros_0f7a4 : (vc_J6_numberOfLeadingZeros_0f7a4).all goodWord = true := gall_cons rfl (by decide +kernel)
set_option maxHeartbeats 4000000 in
set_option maxRecDepth 100000 in
theorem c_J6_numberOfLeadingZeros_0f7a4 (l : Launch) (dC : Nat → ClassId) (dI : Nat → Nat → Nat) (cI cT cS : ClassId) (sz : Nat) (ws : va_W) (a0 : Int32) (o : Int32) (h : zf_J6_numberOfLeadingZeros_0f7a4 a0 = o) : gCI (S := Unit) l yJ6_numberOfLeadingZeros_0f7a4 vc_J6_numberOfLeadingZeros_0f7a4 { frames := 0, cells := 0, slots := 0, locals := 0 } (dC, dI) (gTY cI cT cS) sz [.int a0] ws (fun (r : Int32) (_ : Unit) => r = o) (fun (_ : Unit) => ws) 0 0 := by
  refine Met.ofW (cc := cJ6_numberOfLeadingZeros_0f7a4) (maxL := 2) (ret := (some .int)) (by decide) rfl ?_
  intro p e s m args below meth c s₁ B hml hv
  obtain ⟨rfl, hsz, hP, hK, hD0⟩ := hv
  have hx := B.exec
  have hb := B.bytes
  have hr := B.returns
  have hts := atoms_spec (ws := vc_J6_numberOfLeadingZeros_0f7a4) B.pre
  have hown : s.vm.findClass RJ6 = some m.cls := findClass_of_methodNamed B.named
  have hlocks := B.notSynchronized
  subst hsz
  have hD := hD0.self (sz := s.heap.size)
  generalize hAe : va_A ws s.heap.size = A at hD ⊢
  have hA : ∀ q : Nat, s.heap.size ≤ q → A q := fun q h => by rw [← hAe]; exact Or.inr h
  clear hAe hD0
  refine gstart (fun H locs hHe hLe => ?_)
  have hS : va_S A s.heap H locs := by rw [← hHe, ← hLe]; exact va_S.rf
  replace hP : va_P (dC, dI) vwCl ws H := by rw [← hHe]; exact hP
  clear hHe hLe
  have hl := lv_entry ([.int a0]) (n := 2) (Nat.le_of_ble_eq_true rfl)
  rw [lg_entry_eq]
  generalize (lg_sl ([.int a0]) ++ List.replicate (2 - (lg_sl ([.int a0])).length) Slot.unset).toArray = ls at hl ⊢
  replace hl : lv_has ls 2 [(0, .int a0)] := hl
  unfold zf_J6_numberOfLeadingZeros_0f7a4 at h
  have J73 : ∀ (v1_73 : Int32) (v0_73 : Int32) (H : Heap) (locs : List Loc) (ls : Array Slot), zb_J6_numberOfLeadingZeros_0f7a4_73 v1_73 v0_73 = o → va_P (dC, dI) vwCl ws H → va_D A ws → va_S A s.heap H locs → lv_has ls 2 [(1, .int v1_73), (0, .int v0_73)] → W p l e (headSpec vc_J6_numberOfLeadingZeros_0f7a4 { frames := 0, cells := 0, slots := 0, locals := 0 }).room s m (List.toArray (α := Value) [.int a0]) below meth c H locs 0 0 (MQ below (va_Qi (fun (r : Int32) (_ : Unit) => r = o) (gB (dC, dI) A (fun (_ : Unit) => ws)) A) (List.toArray (α := Value) [.int a0]) s 0 0 A) (F0 m 73 ls []) := by
    intro v1_73 v0_73 H locs ls h hP hD hS hl
    unfold zb_J6_numberOfLeadingZeros_0f7a4_73 at h
    refine lv_iload_n hx hb dJ6_numberOfLeadingZeros_0f7a4_73 rfl (lv_at hl 0 rfl) ?_
    refine lv_iload_n hx hb dJ6_numberOfLeadingZeros_0f7a4_74 rfl (lv_at hl 1 rfl) ?_
    refine lv_iconst (v := 1) hx hb dJ6_numberOfLeadingZeros_0f7a4_75 (by decide) ?_
    refine lv_iushr hx hb dJ6_numberOfLeadingZeros_0f7a4_76 rfl ?_
    refine lv_isub hx hb dJ6_numberOfLeadingZeros_0f7a4_77 ?_
    have h9 := h
    exact wreti hx hb hr hlocks hP hD hS (by show _ = _; rw [← h9]; first | done | rfl) rfl dJ6_numberOfLeadingZeros_0f7a4_78
  have J61 : ∀ (v1_61 : Int32) (v0_61 : Int32) (H : Heap) (locs : List Loc) (ls : Array Slot), zb_J6_numberOfLeadingZeros_0f7a4_61 v1_61 v0_61 = o → va_P (dC, dI) vwCl ws H → va_D A ws → va_S A s.heap H locs → lv_has ls 2 [(1, .int v1_61), (0, .int v0_61)] → W p l e (headSpec vc_J6_numberOfLeadingZeros_0f7a4 { frames := 0, cells := 0, slots := 0, locals := 0 }).room s m (List.toArray (α := Value) [.int a0]) below meth c H locs 0 0 (MQ below (va_Qi (fun (r : Int32) (_ : Unit) => r = o) (gB (dC, dI) A (fun (_ : Unit) => ws)) A) (List.toArray (α := Value) [.int a0]) s 0 0 A) (F0 m 61 ls []) := by
    intro v1_61 v0_61 H locs ls h hP hD hS hl
    unfold zb_J6_numberOfLeadingZeros_0f7a4_61 at h
    refine lv_iload_n hx hb dJ6_numberOfLeadingZeros_0f7a4_61 rfl (lv_at hl 1 rfl) ?_
    refine lv_iconst (v := 4) hx hb dJ6_numberOfLeadingZeros_0f7a4_62 (by decide) ?_
    refine lv_icmp_lt (tgt := 73) hx hb dJ6_numberOfLeadingZeros_0f7a4_63 (by decide) (fun c9 => ?_) (fun c9 => ?_)
    · replace h := ifp (c9) h
      exact J73 v1_61 v0_61 H locs ls h hP hD hS (lv_sub (l' := [(1, .int v1_61), (0, .int v0_61)]) hl [0, 1] rfl)
    · replace h := ifn (c9) h
      refine lv_iinc (v := (v1_61 + (-2 : Int32))) (lv' := [(1, .int (v1_61 + (-2 : Int32))), (0, .int v0_61)]) hx hb dJ6_numberOfLeadingZeros_0f7a4_66 hl (k := 0) rfl rfl (by decide) rfl (fun ls hl => ?_)
      refine lv_iload_n hx hb dJ6_numberOfLeadingZeros_0f7a4_69 rfl (lv_at hl 1 rfl) ?_
      refine lv_iconst (v := 2) hx hb dJ6_numberOfLeadingZeros_0f7a4_70 (by decide) ?_
      refine lv_iushr hx hb dJ6_numberOfLeadingZeros_0f7a4_71 rfl ?_
      obtain ⟨e10, he10, h⟩ := letb_inv h
      refine lv_nm he10 ?_
      refine lv_istore_n (lv' := [(0, .int e10), (1, .int (v1_61 + (-2 : Int32)))]) hx hb dJ6_numberOfLeadingZeros_0f7a4_72 rfl hl (by decide) rfl (fun ls hl => ?_)
      exact J73 (v1_61 + (-2 : Int32)) e10 H locs ls h hP hD hS (lv_sub (l' := [(1, .int (v1_61 + (-2 : Int32))), (0, .int e10)]) hl [1, 0] rfl)
  have J48 : ∀ (v1_48 : Int32) (v0_48 : Int32) (H : Heap) (locs : List Loc) (ls : Array Slot), zb_J6_numberOfLeadingZeros_0f7a4_48 v1_48 v0_48 = o → va_P (dC, dI) vwCl ws H → va_D A ws → va_S A s.heap H locs → lv_has ls 2 [(1, .int v1_48), (0, .int v0_48)] → W p l e (headSpec vc_J6_numberOfLeadingZeros_0f7a4 { frames := 0, cells := 0, slots := 0, locals := 0 }).room s m (List.toArray (α := Value) [.int a0]) below meth c H locs 0 0 (MQ below (va_Qi (fun (r : Int32) (_ : Unit) => r = o) (gB (dC, dI) A (fun (_ : Unit) => ws)) A) (List.toArray (α := Value) [.int a0]) s 0 0 A) (F0 m 48 ls []) := by
    intro v1_48 v0_48 H locs ls h hP hD hS hl
    unfold zb_J6_numberOfLeadingZeros_0f7a4_48 at h
    refine lv_iload_n hx hb dJ6_numberOfLeadingZeros_0f7a4_48 rfl (lv_at hl 1 rfl) ?_
    refine lv_bipush (v := 16) hx hb dJ6_numberOfLeadingZeros_0f7a4_49 (by decide) ?_
    refine lv_icmp_lt (tgt := 61) hx hb dJ6_numberOfLeadingZeros_0f7a4_51 (by decide) (fun c7 => ?_) (fun c7 => ?_)
    · replace h := ifp (c7) h
      exact J61 v1_48 v0_48 H locs ls h hP hD hS (lv_sub (l' := [(1, .int v1_48), (0, .int v0_48)]) hl [0, 1] rfl)
    · replace h := ifn (c7) h
      refine lv_iinc (v := (v1_48 + (-4 : Int32))) (lv' := [(1, .int (v1_48 + (-4 : Int32))), (0, .int v0_48)]) hx hb dJ6_numberOfLeadingZeros_0f7a4_54 hl (k := 0) rfl rfl (by decide) rfl (fun ls hl => ?_)
      refine lv_iload_n hx hb dJ6_numberOfLeadingZeros_0f7a4_57 rfl (lv_at hl 1 rfl) ?_
      refine lv_iconst (v := 4) hx hb dJ6_numberOfLeadingZeros_0f7a4_58 (by decide) ?_
      refine lv_iushr hx hb dJ6_numberOfLeadingZeros_0f7a4_59 rfl ?_
      obtain ⟨e8, he8, h⟩ := letb_inv h
      refine lv_nm he8 ?_
      refine lv_istore_n (lv' := [(0, .int e8), (1, .int (v1_48 + (-4 : Int32)))]) hx hb dJ6_numberOfLeadingZeros_0f7a4_60 rfl hl (by decide) rfl (fun ls hl => ?_)
      exact J61 (v1_48 + (-4 : Int32)) e8 H locs ls h hP hD hS (lv_sub (l' := [(1, .int (v1_48 + (-4 : Int32))), (0, .int e8)]) hl [1, 0] rfl)
  have J14 : ∀ (w0_14 : Int32) (H : Heap) (locs : List Loc) (ls : Array Slot), zb_J6_numberOfLeadingZeros_0f7a4_14 w0_14 = o → va_P (dC, dI) vwCl ws H → va_D A ws → va_S A s.heap H locs → lv_has ls 2 [] → W p l e (headSpec vc_J6_numberOfLeadingZeros_0f7a4 { frames := 0, cells := 0, slots := 0, locals := 0 }).room s m (List.toArray (α := Value) [.int a0]) below meth c H locs 0 0 (MQ below (va_Qi (fun (r : Int32) (_ : Unit) => r = o) (gB (dC, dI) A (fun (_ : Unit) => ws)) A) (List.toArray (α := Value) [.int a0]) s 0 0 A) (F0 m 14 ls [.int w0_14]) := by
    intro w0_14 H locs ls h hP hD hS hl
    unfold zb_J6_numberOfLeadingZeros_0f7a4_14 at h
    have h9 := h
    exact wreti hx hb hr hlocks hP hD hS (by show _ = _; rw [← h9]; first | done | rfl) rfl dJ6_numberOfLeadingZeros_0f7a4_14
  have J33 : ∀ (v1_33 : Int32) (v0_33 : Int32) (H : Heap) (locs : List Loc) (ls : Array Slot), zb_J6_numberOfLeadingZeros_0f7a4_33 v1_33 v0_33 = o → va_P (dC, dI) vwCl ws H → va_D A ws → va_S A s.heap H locs → lv_has ls 2 [(1, .int v1_33), (0, .int v0_33)] → W p l e (headSpec vc_J6_numberOfLeadingZeros_0f7a4 { frames := 0, cells := 0, slots := 0, locals := 0 }).room s m (List.toArray (α := Value) [.int a0]) below meth c H locs 0 0 (MQ below (va_Qi (fun (r : Int32) (_ : Unit) => r = o) (gB (dC, dI) A (fun (_ : Unit) => ws)) A) (List.toArray (α := Value) [.int a0]) s 0 0 A) (F0 m 33 ls []) := by
    intro v1_33 v0_33 H locs ls h hP hD hS hl
    unfold zb_J6_numberOfLeadingZeros_0f7a4_33 at h
    refine lv_iload_n hx hb dJ6_numberOfLeadingZeros_0f7a4_33 rfl (lv_at hl 1 rfl) ?_
    refine lv_sipush (v := 256) hx hb dJ6_numberOfLeadingZeros_0f7a4_34 (by decide) ?_
    refine lv_icmp_lt (tgt := 48) hx hb dJ6_numberOfLeadingZeros_0f7a4_37 (by decide) (fun c5 => ?_) (fun c5 => ?_)
    · replace h := ifp (c5) h
      exact J48 v1_33 v0_33 H locs ls h hP hD hS (lv_sub (l' := [(1, .int v1_33), (0, .int v0_33)]) hl [0, 1] rfl)
    · replace h := ifn (c5) h
      refine lv_iinc (v := (v1_33 + (-8 : Int32))) (lv' := [(1, .int (v1_33 + (-8 : Int32))), (0, .int v0_33)]) hx hb dJ6_numberOfLeadingZeros_0f7a4_40 hl (k := 0) rfl rfl (by decide) rfl (fun ls hl => ?_)
      refine lv_iload_n hx hb dJ6_numberOfLeadingZeros_0f7a4_43 rfl (lv_at hl 1 rfl) ?_
      refine lv_bipush (v := 8) hx hb dJ6_numberOfLeadingZeros_0f7a4_44 (by decide) ?_
      refine lv_iushr hx hb dJ6_numberOfLeadingZeros_0f7a4_46 rfl ?_
      obtain ⟨e6, he6, h⟩ := letb_inv h
      refine lv_nm he6 ?_
      refine lv_istore_n (lv' := [(0, .int e6), (1, .int (v1_33 + (-8 : Int32)))]) hx hb dJ6_numberOfLeadingZeros_0f7a4_47 rfl hl (by decide) rfl (fun ls hl => ?_)
      exact J48 (v1_33 + (-8 : Int32)) e6 H locs ls h hP hD hS (lv_sub (l' := [(1, .int (v1_33 + (-8 : Int32))), (0, .int e6)]) hl [1, 0] rfl)
  refine lv_iload_n hx hb dJ6_numberOfLeadingZeros_0f7a4_0 rfl (lv_at hl 0 rfl) ?_
  refine lv_if_gt (tgt := 15) hx hb dJ6_numberOfLeadingZeros_0f7a4_1 (by decide) (fun c1 => ?_) (fun c1 => ?_)
  · replace h := ifp (c1) h
    refine lv_bipush (v := 31) hx hb dJ6_numberOfLeadingZeros_0f7a4_15 (by decide) ?_
    refine lv_istore_n (lv' := [(1, .int (31 : Int32)), (0, .int a0)]) hx hb dJ6_numberOfLeadingZeros_0f7a4_17 rfl hl (by decide) rfl (fun ls hl => ?_)
    refine lv_iload_n hx hb dJ6_numberOfLeadingZeros_0f7a4_18 rfl (lv_at hl 1 rfl) ?_
    refine lv_ldcw (v := 65536) hx hb hown (hts (.constant RJ6 264 (65536)) (List.mem_of_getElem? (i := 1) rfl)) dJ6_numberOfLeadingZeros_0f7a4_19 ?_
    refine lv_icmp_lt (tgt := 33) hx hb dJ6_numberOfLeadingZeros_0f7a4_22 (by decide) (fun c2 => ?_) (fun c2 => ?_)
    · replace h := ifp (c2) h
      exact J33 (31 : Int32) a0 H locs ls h hP hD hS (lv_sub (l' := [(1, .int (31 : Int32)), (0, .int a0)]) hl [0, 1] rfl)
    · replace h := ifn (c2) h
      refine lv_iinc (v := ((31 : Int32) + (-16 : Int32))) (lv' := [(1, .int ((31 : Int32) + (-16 : Int32))), (0, .int a0)]) hx hb dJ6_numberOfLeadingZeros_0f7a4_25 hl (k := 0) rfl rfl (by decide) rfl (fun ls hl => ?_)
      refine lv_iload_n hx hb dJ6_numberOfLeadingZeros_0f7a4_28 rfl (lv_at hl 1 rfl) ?_
      refine lv_bipush (v := 16) hx hb dJ6_numberOfLeadingZeros_0f7a4_29 (by decide) ?_
      refine lv_iushr hx hb dJ6_numberOfLeadingZeros_0f7a4_31 rfl ?_
      obtain ⟨e3, he3, h⟩ := letb_inv h
      refine lv_nm he3 ?_
      refine lv_istore_n (lv' := [(0, .int e3), (1, .int ((31 : Int32) + (-16 : Int32)))]) hx hb dJ6_numberOfLeadingZeros_0f7a4_32 rfl hl (by decide) rfl (fun ls hl => ?_)
      exact J33 ((31 : Int32) + (-16 : Int32)) e3 H locs ls h hP hD hS (lv_sub (l' := [(1, .int ((31 : Int32) + (-16 : Int32))), (0, .int e3)]) hl [1, 0] rfl)
  · replace h := ifn (c1) h
    refine lv_iload_n hx hb dJ6_numberOfLeadingZeros_0f7a4_4 rfl (lv_at hl 0 rfl) ?_
    refine lv_if_ne (tgt := 13) hx hb dJ6_numberOfLeadingZeros_0f7a4_5 (by decide) (fun c4 => ?_) (fun c4 => ?_)
    · replace h := ifn (c4) h
      refine lv_iconst (v := 0) hx hb dJ6_numberOfLeadingZeros_0f7a4_13 (by decide) ?_
      exact J14 (0 : Int32) H locs ls h hP hD hS (lv_sub (l' := []) hl [] rfl)
    · replace h := ifp (c4) h
      refine lv_bipush (v := 32) hx hb dJ6_numberOfLeadingZeros_0f7a4_8 (by decide) ?_
      refine lv_goto (tgt := 14) hx hb dJ6_numberOfLeadingZeros_0f7a4_10 (by decide) ?_
      exact J14 (32 : Int32) H locs ls h hP hD hS (lv_sub (l' := []) hl [] rfl)
def zb_J13_numberOfLeadingZeros_95d88_25 (w0_25 : Int32) : Int32 := w0_25
def zf_J13_numberOfLeadingZeros_95d88 (a0 : Int64) : Int32 := letb (((a0.toUInt64 >>> ((32 : Int32).toInt64.toUInt64 &&& Int64.toUInt64 63)).toInt64).toInt32) (fun e1 => (if e1 = 0 then (zb_J13_numberOfLeadingZeros_95d88_25 ((32 : Int32) + (zf_J6_numberOfLeadingZeros_0f7a4 (a0.toInt32)))) else (zb_J13_numberOfLeadingZeros_95d88_25 (zf_J6_numberOfLeadingZeros_0f7a4 e1))))
def oc_J13_numberOfLeadingZeros_95d88 : List Cond := [.methodLink RJ13 308 yJ6_numberOfLeadingZeros_0f7a4, .static yJ6_numberOfLeadingZeros_0f7a4, .initialized RJ6]
def vc_J13_numberOfLeadingZeros_95d88 : List Cond := .code yJ13_numberOfLeadingZeros_95d88 cJ13_numberOfLeadingZeros_95d88 3 (some .int) :: (oc_J13_numberOfLeadingZeros_95d88 ++ (vc_J6_numberOfLeadingZeros_0f7a4))
theorem ic_J13_numberOfLeadingZeros_95d88_c_J6_numberOfLeadingZeros_0f7a4 : ∀ w ∈ vc_J6_numberOfLeadingZeros_0f7a4, w ∈ vc_J13_numberOfLeadingZeros_95d88 := fun _ h => List.mem_cons_of_mem _ (List.mem_append_right _ (h))
theorem gd_c_J13_numberOfLeadingZeros_95d88 : (vc_J13_numberOfLeadingZeros_95d88).all goodWord = true := gall_cons rfl (gall_app (by decide +kernel) gd_c_J6_numberOfLeadingZeros_0f7a4)
set_option maxHeartbeats 4000000 in
set_option maxRecDepth 100000 in
theorem c_J13_numberOfLeadingZeros_95d88 (l : Launch) (dC : Nat → ClassId) (dI : Nat → Nat → Nat) (cI cT cS : ClassId) (sz : Nat) (ws : va_W) (a0 : Int64) (o : Int32) (h : zf_J13_numberOfLeadingZeros_95d88 a0 = o) : gCI (S := Unit) l yJ13_numberOfLeadingZeros_95d88 vc_J13_numberOfLeadingZeros_95d88 { frames := 1, cells := 0, slots := 0, locals := 21 } (dC, dI) (gTY cI cT cS) sz [.long a0] ws (fun (r : Int32) (_ : Unit) => r = o) (fun (_ : Unit) => ws) 0 0 := by
  refine Met.ofW (cc := cJ13_numberOfLeadingZeros_95d88) (maxL := 3) (ret := (some .int)) (by decide) rfl ?_
  intro p e s m args below meth c s₁ B hml hv
  obtain ⟨rfl, hsz, hP, hK, hD0⟩ := hv
  have hx := B.exec
  have hb := B.bytes
  have hr := B.returns
  have hts := atoms_spec (ws := vc_J13_numberOfLeadingZeros_95d88) B.pre
  have hown : s.vm.findClass RJ13 = some m.cls := findClass_of_methodNamed B.named
  have hlocks := B.notSynchronized
  subst hsz
  have hD := hD0.self (sz := s.heap.size)
  generalize hAe : va_A ws s.heap.size = A at hD ⊢
  have hA : ∀ q : Nat, s.heap.size ≤ q → A q := fun q h => by rw [← hAe]; exact Or.inr h
  clear hAe hD0
  refine gstart (fun H locs hHe hLe => ?_)
  have hS : va_S A s.heap H locs := by rw [← hHe, ← hLe]; exact va_S.rf
  replace hP : va_P (dC, dI) vwCl ws H := by rw [← hHe]; exact hP
  clear hHe hLe
  have hl := lv_entry ([.long a0]) (n := 3) (Nat.le_of_ble_eq_true rfl)
  rw [lg_entry_eq]
  generalize (lg_sl ([.long a0]) ++ List.replicate (3 - (lg_sl ([.long a0])).length) Slot.unset).toArray = ls at hl ⊢
  replace hl : lv_has ls 3 [(0, .long a0)] := hl
  unfold zf_J13_numberOfLeadingZeros_95d88 at h
  have J25 : ∀ (w0_25 : Int32) (H : Heap) (locs : List Loc) (ls : Array Slot), zb_J13_numberOfLeadingZeros_95d88_25 w0_25 = o → va_P (dC, dI) vwCl ws H → va_D A ws → va_S A s.heap H locs → lv_has ls 3 [] → W p l e (headSpec vc_J13_numberOfLeadingZeros_95d88 { frames := 1, cells := 0, slots := 0, locals := 21 }).room s m (List.toArray (α := Value) [.long a0]) below meth c H locs 0 0 (MQ below (va_Qi (fun (r : Int32) (_ : Unit) => r = o) (gB (dC, dI) A (fun (_ : Unit) => ws)) A) (List.toArray (α := Value) [.long a0]) s 0 0 A) (F0 m 25 ls [.int w0_25]) := by
    intro w0_25 H locs ls h hP hD hS hl
    unfold zb_J13_numberOfLeadingZeros_95d88_25 at h
    have h9 := h
    exact wreti hx hb hr hlocks hP hD hS (by show _ = _; rw [← h9]; first | done | rfl) rfl dJ13_numberOfLeadingZeros_95d88_25
  refine lv_lload_n hx hb dJ13_numberOfLeadingZeros_95d88_0 rfl (lv_at hl 0 rfl) ?_
  refine lv_bipush (v := 32) hx hb dJ13_numberOfLeadingZeros_95d88_1 (by decide) ?_
  refine lv_lushr hx hb dJ13_numberOfLeadingZeros_95d88_3 rfl ?_
  refine lv_l2i hx hb dJ13_numberOfLeadingZeros_95d88_4 rfl ?_
  obtain ⟨e1, he1, h⟩ := letb_inv h
  refine lv_nm he1 ?_
  refine lv_istore_n (lv' := [(2, .int e1), (0, .long a0)]) hx hb dJ13_numberOfLeadingZeros_95d88_5 rfl hl (by decide) rfl (fun ls hl => ?_)
  refine lv_iload_n hx hb dJ13_numberOfLeadingZeros_95d88_6 rfl (lv_at hl 0 rfl) ?_
  refine lv_if_ne (tgt := 21) hx hb dJ13_numberOfLeadingZeros_95d88_7 (by decide) (fun c2 => ?_) (fun c2 => ?_)
  · replace h := ifn (c2) h
    refine lv_iload_n hx hb dJ13_numberOfLeadingZeros_95d88_21 rfl (lv_at hl 0 rfl) ?_
    refine wcalli (S := Unit) (va_runS (As := [.int e1]) (rest := []) ⟨hx, hb, hml, hown, hts⟩ (c_J6_numberOfLeadingZeros_0f7a4 l dC dI cI cT cS H.size ws  e1 _ rfl) (va_cwS 1 hts (gWS (List.mem_of_getElem? (i := 1) rfl) (List.mem_of_getElem? (i := 2) rfl) (List.mem_of_getElem? (i := 3) rfl) ic_J13_numberOfLeadingZeros_95d88_c_J6_numberOfLeadingZeros_0f7a4 gd_c_J6_numberOfLeadingZeros_0f7a4) rfl rfl rfl (by decide +kernel) ⟨(Nat.le_of_ble_eq_true rfl), (Nat.le_of_ble_eq_true rfl)⟩) (gpS hP hK hD) rfl rfl hl.1 rfl (lv_room (Nat.le_of_ble_eq_true rfl)) dJ13_numberOfLeadingZeros_95d88_22 ⟨(Nat.le_of_ble_eq_true rfl), (Nat.le_of_ble_eq_true rfl)⟩) hP hD hS hA (fun rr3 _ H locs hr3 hP hD hS => ?_)
    refine lv_nm (y := (zf_J6_numberOfLeadingZeros_0f7a4 e1)) hr3 ?_
    exact J25 (zf_J6_numberOfLeadingZeros_0f7a4 e1) H locs ls h hP hD hS (lv_sub (l' := []) hl [] rfl)
  · replace h := ifp (c2) h
    refine lv_bipush (v := 32) hx hb dJ13_numberOfLeadingZeros_95d88_10 (by decide) ?_
    refine lv_lload_n hx hb dJ13_numberOfLeadingZeros_95d88_12 rfl (lv_at hl 1 rfl) ?_
    refine lv_l2i hx hb dJ13_numberOfLeadingZeros_95d88_13 rfl ?_
    refine wcalli (S := Unit) (va_runS (As := [.int (a0.toInt32)]) (rest := [.int (32 : Int32)]) ⟨hx, hb, hml, hown, hts⟩ (c_J6_numberOfLeadingZeros_0f7a4 l dC dI cI cT cS H.size ws  (a0.toInt32) _ rfl) (va_cwS 1 hts (gWS (List.mem_of_getElem? (i := 1) rfl) (List.mem_of_getElem? (i := 2) rfl) (List.mem_of_getElem? (i := 3) rfl) ic_J13_numberOfLeadingZeros_95d88_c_J6_numberOfLeadingZeros_0f7a4 gd_c_J6_numberOfLeadingZeros_0f7a4) rfl rfl rfl (by decide +kernel) ⟨(Nat.le_of_ble_eq_true rfl), (Nat.le_of_ble_eq_true rfl)⟩) (gpS hP hK hD) rfl rfl hl.1 rfl (lv_room (Nat.le_of_ble_eq_true rfl)) dJ13_numberOfLeadingZeros_95d88_14 ⟨(Nat.le_of_ble_eq_true rfl), (Nat.le_of_ble_eq_true rfl)⟩) hP hD hS hA (fun rr4 _ H locs hr4 hP hD hS => ?_)
    refine lv_nm (y := (zf_J6_numberOfLeadingZeros_0f7a4 (a0.toInt32))) hr4 ?_
    refine lv_iadd hx hb dJ13_numberOfLeadingZeros_95d88_17 ?_
    refine lv_goto (tgt := 25) hx hb dJ13_numberOfLeadingZeros_95d88_18 (by decide) ?_
    exact J25 ((32 : Int32) + (zf_J6_numberOfLeadingZeros_0f7a4 (a0.toInt32))) H locs ls h hP hD hS (lv_sub (l' := []) hl [] rfl)
def zb_X1_nearest_136 (a0 : Int32) (v7_136 : Int64) (v6_136 : Int32) : Int32 := (a0 ||| ((v6_136 <<< ((23 : Int32) &&& 31)) + (v7_136.toInt32)))
def zb_X1_nearest_130 (a0 : Int32) (v7_130 : Int64) (v6_130 : Int32) : Int32 := letb (v7_130 + (1 : Int64)) (fun e16 => (zb_X1_nearest_136 a0 e16 v6_130))
def zf_X1_nearest (a0 : Int32) (a1 : Int64) (a3 : Int32) : Int32 := (if a1 = (0 : Int64) then a0 else letb ((64 : Int32) - (zf_J13_numberOfLeadingZeros_95d88 a1)) (fun e3 => letb (if ((e3 - (23 : Int32)) - (1 : Int32)) < ((-149 : Int32) - a3) then ((-149 : Int32) - a3) else ((e3 - (23 : Int32)) - (1 : Int32))) (fun e4 => letb ((a3 + e4) - (-149 : Int32)) (fun e5 => (if e5 < (254 : Int32) then (if e4 ≤ (62 : Int32) then letb (a1 <<< ((if (-e4) < (0 : Int32) then (0 : Int32) else (-e4)).toInt64 &&& 63)) (fun e8 => (if e4 ≤ 0 then (zb_X1_nearest_136 a0 e8 e5) else letb (a1 >>> (e4.toInt64 &&& 63)) (fun e10 => letb (a1 - (e10 <<< (e4.toInt64 &&& 63))) (fun e11 => letb ((1 : Int64) <<< ((e4 - (1 : Int32)).toInt64 &&& 63)) (fun e12 => (if e12 < e11 then (zb_X1_nearest_130 a0 e10 e5) else (if e11 = e12 then (if (e10 &&& (1 : Int64)) = (1 : Int64) then (zb_X1_nearest_130 a0 e10 e5) else (zb_X1_nearest_136 a0 e10 e5)) else (zb_X1_nearest_136 a0 e10 e5)))))))) else a0) else (a0 ||| (2139095040 : Int32)))))))
def oc_X1_nearest : List Cond := [.methodLink RX1 62 yJ13_numberOfLeadingZeros_95d88, .static yJ13_numberOfLeadingZeros_95d88, .initialized RJ13, .methodLink RX1 56 Lib.Math.max.name, .static Lib.Math.max.name, .initialized "java/lang/Math", .code Lib.Math.max.name Lib.Math.max.code 2 (some .int), .constant RX1 51 (2139095040)]
def vc_X1_nearest : List Cond := .code yX1_nearest cX1_nearest 13 (some .int) :: (oc_X1_nearest ++ (vc_J13_numberOfLeadingZeros_95d88))
theorem ic_X1_nearest_c_J13_numberOfLeadingZeros_95d88 : ∀ w ∈ vc_J13_numberOfLeadingZeros_95d88, w ∈ vc_X1_nearest := fun _ h => List.mem_cons_of_mem _ (List.mem_append_right _ (h))
theorem gd_c_X1_nearest : (vc_X1_nearest).all goodWord = true := gall_cons rfl (gall_app (by decide +kernel) gd_c_J13_numberOfLeadingZeros_95d88)
set_option maxHeartbeats 4000000 in
set_option maxRecDepth 100000 in
theorem c_X1_nearest (l : Launch) (dC : Nat → ClassId) (dI : Nat → Nat → Nat) (cI cT cS : ClassId) (sz : Nat) (ws : va_W) (a0 : Int32) (a1 : Int64) (a3 : Int32) (o : Int32) (h : zf_X1_nearest a0 a1 a3 = o) : gCI (S := Unit) l yX1_nearest vc_X1_nearest { frames := 2, cells := 0, slots := 0, locals := 43 } (dC, dI) (gTY cI cT cS) sz [.int a0, .long a1, .int a3] ws (fun (r : Int32) (_ : Unit) => r = o) (fun (_ : Unit) => ws) 0 0 := by
  refine Met.ofW (cc := cX1_nearest) (maxL := 13) (ret := (some .int)) (by decide) rfl ?_
  intro p e s m args below meth c s₁ B hml hv
  obtain ⟨rfl, hsz, hP, hK, hD0⟩ := hv
  have hx := B.exec
  have hb := B.bytes
  have hr := B.returns
  have hts := atoms_spec (ws := vc_X1_nearest) B.pre
  have hown : s.vm.findClass RX1 = some m.cls := findClass_of_methodNamed B.named
  have hlocks := B.notSynchronized
  subst hsz
  have hD := hD0.self (sz := s.heap.size)
  generalize hAe : va_A ws s.heap.size = A at hD ⊢
  have hA : ∀ q : Nat, s.heap.size ≤ q → A q := fun q h => by rw [← hAe]; exact Or.inr h
  clear hAe hD0
  refine gstart (fun H locs hHe hLe => ?_)
  have hS : va_S A s.heap H locs := by rw [← hHe, ← hLe]; exact va_S.rf
  replace hP : va_P (dC, dI) vwCl ws H := by rw [← hHe]; exact hP
  clear hHe hLe
  have hl := lv_entry ([.int a0, .long a1, .int a3]) (n := 13) (Nat.le_of_ble_eq_true rfl)
  rw [lg_entry_eq]
  generalize (lg_sl ([.int a0, .long a1, .int a3]) ++ List.replicate (13 - (lg_sl ([.int a0, .long a1, .int a3])).length) Slot.unset).toArray = ls at hl ⊢
  replace hl : lv_has ls 13 [(0, .int a0), (1, .long a1), (3, .int a3)] := hl
  unfold zf_X1_nearest at h
  have J136 : ∀ (v7_136 : Int64) (v6_136 : Int32) (H : Heap) (locs : List Loc) (ls : Array Slot), zb_X1_nearest_136 a0 v7_136 v6_136 = o → va_P (dC, dI) vwCl ws H → va_D A ws → va_S A s.heap H locs → lv_has ls 13 [(7, .long v7_136), (6, .int v6_136), (0, .int a0)] → W p l e (headSpec vc_X1_nearest { frames := 2, cells := 0, slots := 0, locals := 43 }).room s m (List.toArray (α := Value) [.int a0, .long a1, .int a3]) below meth c H locs 0 0 (MQ below (va_Qi (fun (r : Int32) (_ : Unit) => r = o) (gB (dC, dI) A (fun (_ : Unit) => ws)) A) (List.toArray (α := Value) [.int a0, .long a1, .int a3]) s 0 0 A) (F0 m 136 ls []) := by
    intro v7_136 v6_136 H locs ls h hP hD hS hl
    unfold zb_X1_nearest_136 at h
    refine lv_iload_n hx hb dX1_nearest_136 rfl (lv_at hl 2 rfl) ?_
    refine lv_iload hx hb dX1_nearest_137 (lv_at hl 1 rfl) ?_
    refine lv_bipush (v := 23) hx hb dX1_nearest_139 (by decide) ?_
    refine lv_ishl hx hb dX1_nearest_141 ?_
    refine lv_lload hx hb dX1_nearest_142 (lv_at hl 0 rfl) ?_
    refine lv_l2i hx hb dX1_nearest_144 rfl ?_
    refine lv_iadd hx hb dX1_nearest_145 ?_
    refine lv_ior hx hb dX1_nearest_146 ?_
    have h9 := h
    exact wreti hx hb hr hlocks hP hD hS (by show _ = _; rw [← h9]; first | done | rfl) rfl dX1_nearest_147
  have J130 : ∀ (v7_130 : Int64) (v6_130 : Int32) (H : Heap) (locs : List Loc) (ls : Array Slot), zb_X1_nearest_130 a0 v7_130 v6_130 = o → va_P (dC, dI) vwCl ws H → va_D A ws → va_S A s.heap H locs → lv_has ls 13 [(7, .long v7_130), (6, .int v6_130), (0, .int a0)] → W p l e (headSpec vc_X1_nearest { frames := 2, cells := 0, slots := 0, locals := 43 }).room s m (List.toArray (α := Value) [.int a0, .long a1, .int a3]) below meth c H locs 0 0 (MQ below (va_Qi (fun (r : Int32) (_ : Unit) => r = o) (gB (dC, dI) A (fun (_ : Unit) => ws)) A) (List.toArray (α := Value) [.int a0, .long a1, .int a3]) s 0 0 A) (F0 m 130 ls []) := by
    intro v7_130 v6_130 H locs ls h hP hD hS hl
    unfold zb_X1_nearest_130 at h
    refine lv_lload hx hb dX1_nearest_130 (lv_at hl 0 rfl) ?_
    refine lv_lconst (v := 1) hx hb dX1_nearest_132 (by decide) ?_
    refine lv_ladd hx hb dX1_nearest_133 ?_
    obtain ⟨e16, he16, h⟩ := letb_inv h
    refine lv_nml he16 ?_
    refine lv_lstore (lv' := [(7, .long e16), (6, .int v6_130), (0, .int a0)]) hx hb dX1_nearest_134 hl (by decide) rfl (fun ls hl => ?_)
    exact J136 e16 v6_130 H locs ls h hP hD hS (lv_sub (l' := [(7, .long e16), (6, .int v6_130), (0, .int a0)]) hl [0, 1, 2] rfl)
  refine lv_lload_n hx hb dX1_nearest_0 rfl (lv_at hl 1 rfl) ?_
  refine lv_lconst (v := 0) hx hb dX1_nearest_1 (by decide) ?_
  refine W.lcmp hx hb dX1_nearest_2 ?_
  refine lv_if_ne (tgt := 8) hx hb dX1_nearest_3 (by decide) (fun c1 => ?_) (fun c1 => ?_)
  · replace h := ifn (fun q => c1 (g_c_eq.mpr q)) h
    refine lv_bipush (v := 64) hx hb dX1_nearest_8 (by decide) ?_
    refine lv_lload_n hx hb dX1_nearest_10 rfl (lv_at hl 1 rfl) ?_
    refine wcalli (S := Unit) (va_runS (As := [.long a1]) (rest := [.int (64 : Int32)]) ⟨hx, hb, hml, hown, hts⟩ (c_J13_numberOfLeadingZeros_95d88 l dC dI cI cT cS H.size ws  a1 _ rfl) (va_cwS 1 hts (gWS (List.mem_of_getElem? (i := 1) rfl) (List.mem_of_getElem? (i := 2) rfl) (List.mem_of_getElem? (i := 3) rfl) ic_X1_nearest_c_J13_numberOfLeadingZeros_95d88 gd_c_J13_numberOfLeadingZeros_95d88) rfl rfl rfl (by decide +kernel) ⟨(Nat.le_of_ble_eq_true rfl), (Nat.le_of_ble_eq_true rfl)⟩) (gpS hP hK hD) rfl rfl hl.1 rfl (lv_room (Nat.le_of_ble_eq_true rfl)) dX1_nearest_11 ⟨(Nat.le_of_ble_eq_true rfl), (Nat.le_of_ble_eq_true rfl)⟩) hP hD hS hA (fun rr2 _ H locs hr2 hP hD hS => ?_)
    refine lv_nm (y := (zf_J13_numberOfLeadingZeros_95d88 a1)) hr2 ?_
    refine lv_isub hx hb dX1_nearest_14 ?_
    obtain ⟨e3, he3, h⟩ := letb_inv h
    refine lv_nm he3 ?_
    refine lv_istore (lv' := [(4, .int e3), (0, .int a0), (1, .long a1), (3, .int a3)]) hx hb dX1_nearest_15 hl (by decide) rfl (fun ls hl => ?_)
    refine lv_iload hx hb dX1_nearest_17 (lv_at hl 0 rfl) ?_
    refine lv_bipush (v := 23) hx hb dX1_nearest_19 (by decide) ?_
    refine lv_isub hx hb dX1_nearest_21 ?_
    refine lv_iconst (v := 1) hx hb dX1_nearest_22 (by decide) ?_
    refine lv_isub hx hb dX1_nearest_23 ?_
    refine lv_sipush (v := (-149)) hx hb dX1_nearest_24 (by decide) ?_
    refine lv_iload_n hx hb dX1_nearest_27 rfl (lv_at hl 3 rfl) ?_
    refine lv_isub hx hb dX1_nearest_28 ?_
    refine va_mmax hx hb (hml.trans hl.1.symm) hown (hts (.methodLink RX1 56 Lib.Math.max.name) (List.mem_of_getElem? (i := 4) rfl)) (hts (.static Lib.Math.max.name) (List.mem_of_getElem? (i := 5) rfl)) (hts (.initialized "java/lang/Math") (List.mem_of_getElem? (i := 6) rfl)) (hts (.code Lib.Math.max.name Lib.Math.max.code 2 (some .int)) (List.mem_of_getElem? (i := 7) rfl)) (Nat.le_of_ble_eq_true rfl) (Nat.le_of_ble_eq_true rfl) (Nat.le_of_ble_eq_true rfl) (Nat.le_of_ble_eq_true rfl) dX1_nearest_29 ?_
    obtain ⟨e4, he4, h⟩ := letb_inv h
    refine lv_nm he4 ?_
    refine lv_istore (lv' := [(5, .int e4), (4, .int e3), (0, .int a0), (1, .long a1), (3, .int a3)]) hx hb dX1_nearest_32 hl (by decide) rfl (fun ls hl => ?_)
    refine lv_iload_n hx hb dX1_nearest_34 rfl (lv_at hl 4 rfl) ?_
    refine lv_iload hx hb dX1_nearest_35 (lv_at hl 0 rfl) ?_
    refine lv_iadd hx hb dX1_nearest_37 ?_
    refine lv_sipush (v := (-149)) hx hb dX1_nearest_38 (by decide) ?_
    refine lv_isub hx hb dX1_nearest_41 ?_
    obtain ⟨e5, he5, h⟩ := letb_inv h
    refine lv_nm he5 ?_
    refine lv_istore (lv' := [(6, .int e5), (5, .int e4), (4, .int e3), (0, .int a0), (1, .long a1), (3, .int a3)]) hx hb dX1_nearest_42 hl (by decide) rfl (fun ls hl => ?_)
    refine lv_iload hx hb dX1_nearest_44 (lv_at hl 0 rfl) ?_
    refine lv_sipush (v := 254) hx hb dX1_nearest_46 (by decide) ?_
    refine lv_icmp_lt (tgt := 57) hx hb dX1_nearest_49 (by decide) (fun c6 => ?_) (fun c6 => ?_)
    · replace h := ifp (c6) h
      refine lv_iload hx hb dX1_nearest_57 (lv_at hl 1 rfl) ?_
      refine lv_bipush (v := 62) hx hb dX1_nearest_59 (by decide) ?_
      refine lv_icmp_le (tgt := 66) hx hb dX1_nearest_61 (by decide) (fun c7 => ?_) (fun c7 => ?_)
      · replace h := ifp (c7) h
        refine lv_lload_n hx hb dX1_nearest_66 rfl (lv_at hl 4 rfl) ?_
        refine lv_iload hx hb dX1_nearest_67 (lv_at hl 1 rfl) ?_
        refine lv_ineg hx hb dX1_nearest_69 ?_
        refine lv_iconst (v := 0) hx hb dX1_nearest_70 (by decide) ?_
        refine va_mmax hx hb (hml.trans hl.1.symm) hown (hts (.methodLink RX1 56 Lib.Math.max.name) (List.mem_of_getElem? (i := 4) rfl)) (hts (.static Lib.Math.max.name) (List.mem_of_getElem? (i := 5) rfl)) (hts (.initialized "java/lang/Math") (List.mem_of_getElem? (i := 6) rfl)) (hts (.code Lib.Math.max.name Lib.Math.max.code 2 (some .int)) (List.mem_of_getElem? (i := 7) rfl)) (Nat.le_of_ble_eq_true rfl) (Nat.le_of_ble_eq_true rfl) (Nat.le_of_ble_eq_true rfl) (Nat.le_of_ble_eq_true rfl) dX1_nearest_71 ?_
        refine lv_lshl hx hb dX1_nearest_74 rfl ?_
        obtain ⟨e8, he8, h⟩ := letb_inv h
        refine lv_nml he8 ?_
        refine lv_lstore (lv' := [(7, .long e8), (6, .int e5), (5, .int e4), (4, .int e3), (0, .int a0), (1, .long a1), (3, .int a3)]) hx hb dX1_nearest_75 hl (by decide) rfl (fun ls hl => ?_)
        refine lv_iload hx hb dX1_nearest_77 (lv_at hl 2 rfl) ?_
        refine lv_if_le (tgt := 136) hx hb dX1_nearest_79 (by decide) (fun c9 => ?_) (fun c9 => ?_)
        · replace h := ifp (c9) h
          exact J136 e8 e5 H locs ls h hP hD hS (lv_sub (l' := [(7, .long e8), (6, .int e5), (0, .int a0)]) hl [0, 1, 4] rfl)
        · replace h := ifn (c9) h
          refine lv_lload_n hx hb dX1_nearest_82 rfl (lv_at hl 5 rfl) ?_
          refine lv_iload hx hb dX1_nearest_83 (lv_at hl 2 rfl) ?_
          refine lv_lshr hx hb dX1_nearest_85 rfl ?_
          obtain ⟨e10, he10, h⟩ := letb_inv h
          refine lv_nml he10 ?_
          refine lv_lstore (lv' := [(7, .long e10), (6, .int e5), (5, .int e4), (4, .int e3), (0, .int a0), (1, .long a1), (3, .int a3)]) hx hb dX1_nearest_86 hl (by decide) rfl (fun ls hl => ?_)
          refine lv_lload_n hx hb dX1_nearest_88 rfl (lv_at hl 5 rfl) ?_
          refine lv_lload hx hb dX1_nearest_89 (lv_at hl 0 rfl) ?_
          refine lv_iload hx hb dX1_nearest_91 (lv_at hl 2 rfl) ?_
          refine lv_lshl hx hb dX1_nearest_93 rfl ?_
          refine lv_lsub hx hb dX1_nearest_94 ?_
          obtain ⟨e11, he11, h⟩ := letb_inv h
          refine lv_nml he11 ?_
          refine lv_lstore (lv' := [(9, .long e11), (7, .long e10), (6, .int e5), (5, .int e4), (4, .int e3), (0, .int a0), (1, .long a1), (3, .int a3)]) hx hb dX1_nearest_95 hl (by decide) rfl (fun ls hl => ?_)
          refine lv_lconst (v := 1) hx hb dX1_nearest_97 (by decide) ?_
          refine lv_iload hx hb dX1_nearest_98 (lv_at hl 3 rfl) ?_
          refine lv_iconst (v := 1) hx hb dX1_nearest_100 (by decide) ?_
          refine lv_isub hx hb dX1_nearest_101 ?_
          refine lv_lshl hx hb dX1_nearest_102 rfl ?_
          obtain ⟨e12, he12, h⟩ := letb_inv h
          refine lv_nml he12 ?_
          refine lv_lstore (lv' := [(11, .long e12), (9, .long e11), (7, .long e10), (6, .int e5), (5, .int e4), (4, .int e3), (0, .int a0), (1, .long a1), (3, .int a3)]) hx hb dX1_nearest_103 hl (by decide) rfl (fun ls hl => ?_)
          refine lv_lload hx hb dX1_nearest_105 (lv_at hl 1 rfl) ?_
          refine lv_lload hx hb dX1_nearest_107 (lv_at hl 0 rfl) ?_
          refine W.lcmp hx hb dX1_nearest_109 ?_
          refine lv_if_gt (tgt := 130) hx hb dX1_nearest_110 (by decide) (fun c13 => ?_) (fun c13 => ?_)
          · replace h := ifp (g_c_gt.mp c13) h
            exact J130 e10 e5 H locs ls h hP hD hS (lv_sub (l' := [(7, .long e10), (6, .int e5), (0, .int a0)]) hl [2, 3, 6] rfl)
          · replace h := ifn (fun q => c13 (g_c_gt.mpr q)) h
            refine lv_lload hx hb dX1_nearest_113 (lv_at hl 1 rfl) ?_
            refine lv_lload hx hb dX1_nearest_115 (lv_at hl 0 rfl) ?_
            refine W.lcmp hx hb dX1_nearest_117 ?_
            refine lv_if_ne (tgt := 136) hx hb dX1_nearest_118 (by decide) (fun c14 => ?_) (fun c14 => ?_)
            · replace h := ifn (fun q => c14 (g_c_eq.mpr q)) h
              exact J136 e10 e5 H locs ls h hP hD hS (lv_sub (l' := [(7, .long e10), (6, .int e5), (0, .int a0)]) hl [2, 3, 6] rfl)
            · replace h := ifp (g_c_eq.mp c14) h
              refine lv_lload hx hb dX1_nearest_121 (lv_at hl 2 rfl) ?_
              refine lv_lconst (v := 1) hx hb dX1_nearest_123 (by decide) ?_
              refine lv_land hx hb dX1_nearest_124 ?_
              refine lv_lconst (v := 1) hx hb dX1_nearest_125 (by decide) ?_
              refine W.lcmp hx hb dX1_nearest_126 ?_
              refine lv_if_ne (tgt := 136) hx hb dX1_nearest_127 (by decide) (fun c15 => ?_) (fun c15 => ?_)
              · replace h := ifn (fun q => c15 (g_c_eq.mpr q)) h
                exact J136 e10 e5 H locs ls h hP hD hS (lv_sub (l' := [(7, .long e10), (6, .int e5), (0, .int a0)]) hl [2, 3, 6] rfl)
              · replace h := ifp (g_c_eq.mp c15) h
                exact J130 e10 e5 H locs ls h hP hD hS (lv_sub (l' := [(7, .long e10), (6, .int e5), (0, .int a0)]) hl [2, 3, 6] rfl)
      · replace h := ifn (c7) h
        refine lv_iload_n hx hb dX1_nearest_64 rfl (lv_at hl 3 rfl) ?_
        have h9 := h
        exact wreti hx hb hr hlocks hP hD hS (by show _ = _; rw [← h9]; first | done | rfl) rfl dX1_nearest_65
    · replace h := ifn (c6) h
      refine lv_iload_n hx hb dX1_nearest_52 rfl (lv_at hl 3 rfl) ?_
      refine lv_ldc (v := 2139095040) hx hb hown (hts (.constant RX1 51 (2139095040)) (List.mem_of_getElem? (i := 8) rfl)) dX1_nearest_53 ?_
      refine lv_ior hx hb dX1_nearest_55 ?_
      have h9 := h
      exact wreti hx hb hr hlocks hP hD hS (by show _ = _; rw [← h9]; first | done | rfl) rfl dX1_nearest_56
  · replace h := ifp (g_c_eq.mp c1) h
    refine lv_iload_n hx hb dX1_nearest_6 rfl (lv_at hl 0 rfl) ?_
    have h9 := h
    exact wreti hx hb hr hlocks hP hD hS (by show _ = _; rw [← h9]; first | done | rfl) rfl dX1_nearest_7
def zb_X1_ofRegister_22 (w0_22 : Int32) : Int32 := w0_22
def zf_X1_ofRegister (a0 : Int32) (a1 : Int32) : Int32 := (if a0 = (1 : Int32) then (zb_X1_ofRegister_22 a1) else (zb_X1_ofRegister_22 (zf_X1_nearest (a1 &&& (-2147483648 : Int32)) (if 0 < (a1.toInt64) then (a1.toInt64) else -(a1.toInt64)) (0 : Int32))))
def oc_X1_ofRegister : List Cond := [.constant RX1 11 (-2147483648), .methodLink RX1 12 Lib.MathLoose.abs_long.x, .static Lib.MathLoose.abs_long.x, .initialized "java/lang/Math", .code Lib.MathLoose.abs_long.x Lib.MathLoose.abs_long.code 2 (some .long), .methodLink RX1 18 yX1_nearest, .static yX1_nearest, .initialized RX1]
def vc_X1_ofRegister : List Cond := .code yX1_ofRegister cX1_ofRegister 2 (some .int) :: (oc_X1_ofRegister ++ (vc_X1_nearest))
theorem ic_X1_ofRegister_c_X1_nearest : ∀ w ∈ vc_X1_nearest, w ∈ vc_X1_ofRegister := fun _ h => List.mem_cons_of_mem _ (List.mem_append_right _ (h))
theorem gd_c_X1_ofRegister : (vc_X1_ofRegister).all goodWord = true := gall_cons rfl (gall_app (by decide +kernel) gd_c_X1_nearest)
set_option maxHeartbeats 4000000 in
set_option maxRecDepth 100000 in
theorem c_X1_ofRegister (l : Launch) (dC : Nat → ClassId) (dI : Nat → Nat → Nat) (cI cT cS : ClassId) (sz : Nat) (ws : va_W) (a0 : Int32) (a1 : Int32) (o : Int32) (h : zf_X1_ofRegister a0 a1 = o) : gCI (S := Unit) l yX1_ofRegister vc_X1_ofRegister { frames := 3, cells := 0, slots := 0, locals := 75 } (dC, dI) (gTY cI cT cS) sz [.int a0, .int a1] ws (fun (r : Int32) (_ : Unit) => r = o) (fun (_ : Unit) => ws) 0 0 := by
  refine Met.ofW (cc := cX1_ofRegister) (maxL := 2) (ret := (some .int)) (by decide) rfl ?_
  intro p e s m args below meth c s₁ B hml hv
  obtain ⟨rfl, hsz, hP, hK, hD0⟩ := hv
  have hx := B.exec
  have hb := B.bytes
  have hr := B.returns
  have hts := atoms_spec (ws := vc_X1_ofRegister) B.pre
  have hown : s.vm.findClass RX1 = some m.cls := findClass_of_methodNamed B.named
  have hlocks := B.notSynchronized
  subst hsz
  have hD := hD0.self (sz := s.heap.size)
  generalize hAe : va_A ws s.heap.size = A at hD ⊢
  have hA : ∀ q : Nat, s.heap.size ≤ q → A q := fun q h => by rw [← hAe]; exact Or.inr h
  clear hAe hD0
  refine gstart (fun H locs hHe hLe => ?_)
  have hS : va_S A s.heap H locs := by rw [← hHe, ← hLe]; exact va_S.rf
  replace hP : va_P (dC, dI) vwCl ws H := by rw [← hHe]; exact hP
  clear hHe hLe
  have hl := lv_entry ([.int a0, .int a1]) (n := 2) (Nat.le_of_ble_eq_true rfl)
  rw [lg_entry_eq]
  generalize (lg_sl ([.int a0, .int a1]) ++ List.replicate (2 - (lg_sl ([.int a0, .int a1])).length) Slot.unset).toArray = ls at hl ⊢
  replace hl : lv_has ls 2 [(0, .int a0), (1, .int a1)] := hl
  unfold zf_X1_ofRegister at h
  have J22 : ∀ (w0_22 : Int32) (H : Heap) (locs : List Loc) (ls : Array Slot), zb_X1_ofRegister_22 w0_22 = o → va_P (dC, dI) vwCl ws H → va_D A ws → va_S A s.heap H locs → lv_has ls 2 [] → W p l e (headSpec vc_X1_ofRegister { frames := 3, cells := 0, slots := 0, locals := 75 }).room s m (List.toArray (α := Value) [.int a0, .int a1]) below meth c H locs 0 0 (MQ below (va_Qi (fun (r : Int32) (_ : Unit) => r = o) (gB (dC, dI) A (fun (_ : Unit) => ws)) A) (List.toArray (α := Value) [.int a0, .int a1]) s 0 0 A) (F0 m 22 ls [.int w0_22]) := by
    intro w0_22 H locs ls h hP hD hS hl
    unfold zb_X1_ofRegister_22 at h
    have h9 := h
    exact wreti hx hb hr hlocks hP hD hS (by show _ = _; rw [← h9]; first | done | rfl) rfl dX1_ofRegister_22
  refine lv_iload_n hx hb dX1_ofRegister_0 rfl (lv_at hl 0 rfl) ?_
  refine lv_iconst (v := 1) hx hb dX1_ofRegister_1 (by decide) ?_
  refine lv_icmp_ne (tgt := 9) hx hb dX1_ofRegister_2 (by decide) (fun c1 => ?_) (fun c1 => ?_)
  · replace h := ifn (c1) h
    refine lv_iload_n hx hb dX1_ofRegister_9 rfl (lv_at hl 1 rfl) ?_
    refine lv_ldc (v := (-2147483648)) hx hb hown (hts (.constant RX1 11 (-2147483648)) (List.mem_of_getElem? (i := 1) rfl)) dX1_ofRegister_10 ?_
    refine lv_iand hx hb dX1_ofRegister_12 ?_
    refine lv_iload_n hx hb dX1_ofRegister_13 rfl (lv_at hl 1 rfl) ?_
    refine lv_i2l hx hb dX1_ofRegister_14 rfl ?_
    refine va_mabs_long hx hb (hml.trans hl.1.symm) hown (hts (.methodLink RX1 12 Lib.MathLoose.abs_long.x) (List.mem_of_getElem? (i := 2) rfl)) (hts (.static Lib.MathLoose.abs_long.x) (List.mem_of_getElem? (i := 3) rfl)) (hts (.initialized "java/lang/Math") (List.mem_of_getElem? (i := 4) rfl)) (hts (.code Lib.MathLoose.abs_long.x Lib.MathLoose.abs_long.code 2 (some .long)) (List.mem_of_getElem? (i := 5) rfl)) (Nat.le_of_ble_eq_true rfl) (Nat.le_of_ble_eq_true rfl) (Nat.le_of_ble_eq_true rfl) (Nat.le_of_ble_eq_true rfl) dX1_ofRegister_15 ?_
    refine lv_iconst (v := 0) hx hb dX1_ofRegister_18 (by decide) ?_
    refine wcalli (S := Unit) (va_runS (As := [.int (a1 &&& (-2147483648 : Int32)), .long (if 0 < (a1.toInt64) then (a1.toInt64) else -(a1.toInt64)), .int (0 : Int32)]) (rest := []) ⟨hx, hb, hml, hown, hts⟩ (c_X1_nearest l dC dI cI cT cS H.size ws  (a1 &&& (-2147483648 : Int32)) (if 0 < (a1.toInt64) then (a1.toInt64) else -(a1.toInt64)) (0 : Int32) _ rfl) (va_cwS 3 hts (gWS (List.mem_of_getElem? (i := 6) rfl) (List.mem_of_getElem? (i := 7) rfl) (List.mem_of_getElem? (i := 8) rfl) ic_X1_ofRegister_c_X1_nearest gd_c_X1_nearest) rfl rfl rfl (by decide +kernel) ⟨(Nat.le_of_ble_eq_true rfl), (Nat.le_of_ble_eq_true rfl)⟩) (gpS hP hK hD) rfl rfl hl.1 rfl (lv_room (Nat.le_of_ble_eq_true rfl)) dX1_ofRegister_19 ⟨(Nat.le_of_ble_eq_true rfl), (Nat.le_of_ble_eq_true rfl)⟩) hP hD hS hA (fun rr2 _ H locs hr2 hP hD hS => ?_)
    refine lv_nm (y := (zf_X1_nearest (a1 &&& (-2147483648 : Int32)) (if 0 < (a1.toInt64) then (a1.toInt64) else -(a1.toInt64)) (0 : Int32))) hr2 ?_
    exact J22 (zf_X1_nearest (a1 &&& (-2147483648 : Int32)) (if 0 < (a1.toInt64) then (a1.toInt64) else -(a1.toInt64)) (0 : Int32)) H locs ls h hP hD hS (lv_sub (l' := []) hl [] rfl)
  · replace h := ifp (c1) h
    refine lv_iload_n hx hb dX1_ofRegister_5 rfl (lv_at hl 1 rfl) ?_
    refine lv_goto (tgt := 22) hx hb dX1_ofRegister_6 (by decide) ?_
    exact J22 a1 H locs ls h hP hD hS (lv_sub (l' := []) hl [] rfl)
def zb_X1_ofWhole_12 (a0 : Int64) (w0_12 : Int32) : Int32 := (zf_X1_nearest w0_12 (if 0 < a0 then a0 else -a0) (0 : Int32))
def zf_X1_ofWhole (a0 : Int64) : Int32 := (if (0 : Int64) ≤ a0 then (zb_X1_ofWhole_12 a0 (0 : Int32)) else (zb_X1_ofWhole_12 a0 (-2147483648 : Int32)))
def oc_X1_ofWhole : List Cond := [.constant RX1 11 (-2147483648), .methodLink RX1 12 Lib.MathLoose.abs_long.x, .static Lib.MathLoose.abs_long.x, .initialized "java/lang/Math", .code Lib.MathLoose.abs_long.x Lib.MathLoose.abs_long.code 2 (some .long), .methodLink RX1 18 yX1_nearest, .static yX1_nearest, .initialized RX1]
def vc_X1_ofWhole : List Cond := .code yX1_ofWhole cX1_ofWhole 2 (some .int) :: (oc_X1_ofWhole ++ (vc_X1_nearest))
theorem ic_X1_ofWhole_c_X1_nearest : ∀ w ∈ vc_X1_nearest, w ∈ vc_X1_ofWhole := fun _ h => List.mem_cons_of_mem _ (List.mem_append_right _ (h))
theorem gd_c_X1_ofWhole : (vc_X1_ofWhole).all goodWord = true := gall_cons rfl (gall_app (by decide +kernel) gd_c_X1_nearest)
set_option maxHeartbeats 4000000 in
set_option maxRecDepth 100000 in
theorem c_X1_ofWhole (l : Launch) (dC : Nat → ClassId) (dI : Nat → Nat → Nat) (cI cT cS : ClassId) (sz : Nat) (ws : va_W) (a0 : Int64) (o : Int32) (h : zf_X1_ofWhole a0 = o) : gCI (S := Unit) l yX1_ofWhole vc_X1_ofWhole { frames := 3, cells := 0, slots := 0, locals := 75 } (dC, dI) (gTY cI cT cS) sz [.long a0] ws (fun (r : Int32) (_ : Unit) => r = o) (fun (_ : Unit) => ws) 0 0 := by
  refine Met.ofW (cc := cX1_ofWhole) (maxL := 2) (ret := (some .int)) (by decide) rfl ?_
  intro p e s m args below meth c s₁ B hml hv
  obtain ⟨rfl, hsz, hP, hK, hD0⟩ := hv
  have hx := B.exec
  have hb := B.bytes
  have hr := B.returns
  have hts := atoms_spec (ws := vc_X1_ofWhole) B.pre
  have hown : s.vm.findClass RX1 = some m.cls := findClass_of_methodNamed B.named
  have hlocks := B.notSynchronized
  subst hsz
  have hD := hD0.self (sz := s.heap.size)
  generalize hAe : va_A ws s.heap.size = A at hD ⊢
  have hA : ∀ q : Nat, s.heap.size ≤ q → A q := fun q h => by rw [← hAe]; exact Or.inr h
  clear hAe hD0
  refine gstart (fun H locs hHe hLe => ?_)
  have hS : va_S A s.heap H locs := by rw [← hHe, ← hLe]; exact va_S.rf
  replace hP : va_P (dC, dI) vwCl ws H := by rw [← hHe]; exact hP
  clear hHe hLe
  have hl := lv_entry ([.long a0]) (n := 2) (Nat.le_of_ble_eq_true rfl)
  rw [lg_entry_eq]
  generalize (lg_sl ([.long a0]) ++ List.replicate (2 - (lg_sl ([.long a0])).length) Slot.unset).toArray = ls at hl ⊢
  replace hl : lv_has ls 2 [(0, .long a0)] := hl
  unfold zf_X1_ofWhole at h
  have J12 : ∀ (w0_12 : Int32) (H : Heap) (locs : List Loc) (ls : Array Slot), zb_X1_ofWhole_12 a0 w0_12 = o → va_P (dC, dI) vwCl ws H → va_D A ws → va_S A s.heap H locs → lv_has ls 2 [(0, .long a0)] → W p l e (headSpec vc_X1_ofWhole { frames := 3, cells := 0, slots := 0, locals := 75 }).room s m (List.toArray (α := Value) [.long a0]) below meth c H locs 0 0 (MQ below (va_Qi (fun (r : Int32) (_ : Unit) => r = o) (gB (dC, dI) A (fun (_ : Unit) => ws)) A) (List.toArray (α := Value) [.long a0]) s 0 0 A) (F0 m 12 ls [.int w0_12]) := by
    intro w0_12 H locs ls h hP hD hS hl
    unfold zb_X1_ofWhole_12 at h
    refine lv_lload_n hx hb dX1_ofWhole_12 rfl (lv_at hl 0 rfl) ?_
    refine va_mabs_long hx hb (hml.trans hl.1.symm) hown (hts (.methodLink RX1 12 Lib.MathLoose.abs_long.x) (List.mem_of_getElem? (i := 2) rfl)) (hts (.static Lib.MathLoose.abs_long.x) (List.mem_of_getElem? (i := 3) rfl)) (hts (.initialized "java/lang/Math") (List.mem_of_getElem? (i := 4) rfl)) (hts (.code Lib.MathLoose.abs_long.x Lib.MathLoose.abs_long.code 2 (some .long)) (List.mem_of_getElem? (i := 5) rfl)) (Nat.le_of_ble_eq_true rfl) (Nat.le_of_ble_eq_true rfl) (Nat.le_of_ble_eq_true rfl) (Nat.le_of_ble_eq_true rfl) dX1_ofWhole_13 ?_
    refine lv_iconst (v := 0) hx hb dX1_ofWhole_16 (by decide) ?_
    refine wcalli (S := Unit) (va_runS (As := [.int w0_12, .long (if 0 < a0 then a0 else -a0), .int (0 : Int32)]) (rest := []) ⟨hx, hb, hml, hown, hts⟩ (c_X1_nearest l dC dI cI cT cS H.size ws  w0_12 (if 0 < a0 then a0 else -a0) (0 : Int32) _ rfl) (va_cwS 3 hts (gWS (List.mem_of_getElem? (i := 6) rfl) (List.mem_of_getElem? (i := 7) rfl) (List.mem_of_getElem? (i := 8) rfl) ic_X1_ofWhole_c_X1_nearest gd_c_X1_nearest) rfl rfl rfl (by decide +kernel) ⟨(Nat.le_of_ble_eq_true rfl), (Nat.le_of_ble_eq_true rfl)⟩) (gpS hP hK hD) rfl rfl hl.1 rfl (lv_room (Nat.le_of_ble_eq_true rfl)) dX1_ofWhole_17 ⟨(Nat.le_of_ble_eq_true rfl), (Nat.le_of_ble_eq_true rfl)⟩) hP hD hS hA (fun rr2 _ H locs hr2 hP hD hS => ?_)
    refine lv_nm (y := (zf_X1_nearest w0_12 (if 0 < a0 then a0 else -a0) (0 : Int32))) hr2 ?_
    have h9 := h
    exact wreti hx hb hr hlocks hP hD hS (by show _ = _; rw [← h9]; first | done | rfl) rfl dX1_ofWhole_20
  refine lv_lload_n hx hb dX1_ofWhole_0 rfl (lv_at hl 0 rfl) ?_
  refine lv_lconst (v := 0) hx hb dX1_ofWhole_1 (by decide) ?_
  refine W.lcmp hx hb dX1_ofWhole_2 ?_
  refine lv_if_ge (tgt := 11) hx hb dX1_ofWhole_3 (by decide) (fun c1 => ?_) (fun c1 => ?_)
  · replace h := ifp (g_c_ge.mp c1) h
    refine lv_iconst (v := 0) hx hb dX1_ofWhole_11 (by decide) ?_
    exact J12 (0 : Int32) H locs ls h hP hD hS (lv_sub (l' := [(0, .long a0)]) hl [0] rfl)
  · replace h := ifn (fun q => c1 (g_c_ge.mpr q)) h
    refine lv_ldc (v := (-2147483648)) hx hb hown (hts (.constant RX1 11 (-2147483648)) (List.mem_of_getElem? (i := 1) rfl)) dX1_ofWhole_6 ?_
    refine lv_goto (tgt := 12) hx hb dX1_ofWhole_8 (by decide) ?_
    exact J12 (-2147483648 : Int32) H locs ls h hP hD hS (lv_sub (l' := [(0, .long a0)]) hl [0] rfl)
def zf_X1_opposite (a0 : Int32) : Int32 := (a0 ^^^ (-2147483648 : Int32))
def oc_X1_opposite : List Cond := [.constant RX1 11 (-2147483648)]
def vc_X1_opposite : List Cond := .code yX1_opposite cX1_opposite 1 (some .int) :: (oc_X1_opposite)
theorem gd_c_X1_opposite : (vc_X1_opposite).all goodWord = true := gall_cons rfl (by decide +kernel)
set_option maxHeartbeats 4000000 in
set_option maxRecDepth 100000 in
theorem c_X1_opposite (l : Launch) (dC : Nat → ClassId) (dI : Nat → Nat → Nat) (cI cT cS : ClassId) (sz : Nat) (ws : va_W) (a0 : Int32) (o : Int32) (h : zf_X1_opposite a0 = o) : gCI (S := Unit) l yX1_opposite vc_X1_opposite { frames := 0, cells := 0, slots := 0, locals := 0 } (dC, dI) (gTY cI cT cS) sz [.int a0] ws (fun (r : Int32) (_ : Unit) => r = o) (fun (_ : Unit) => ws) 0 0 := by
  refine Met.ofW (cc := cX1_opposite) (maxL := 1) (ret := (some .int)) (by decide) rfl ?_
  intro p e s m args below meth c s₁ B hml hv
  obtain ⟨rfl, hsz, hP, hK, hD0⟩ := hv
  have hx := B.exec
  have hb := B.bytes
  have hr := B.returns
  have hts := atoms_spec (ws := vc_X1_opposite) B.pre
  have hown : s.vm.findClass RX1 = some m.cls := findClass_of_methodNamed B.named
  have hlocks := B.notSynchronized
  subst hsz
  have hD := hD0.self (sz := s.heap.size)
  generalize hAe : va_A ws s.heap.size = A at hD ⊢
  have hA : ∀ q : Nat, s.heap.size ≤ q → A q := fun q h => by rw [← hAe]; exact Or.inr h
  clear hAe hD0
  refine gstart (fun H locs hHe hLe => ?_)
  have hS : va_S A s.heap H locs := by rw [← hHe, ← hLe]; exact va_S.rf
  replace hP : va_P (dC, dI) vwCl ws H := by rw [← hHe]; exact hP
  clear hHe hLe
  have hl := lv_entry ([.int a0]) (n := 1) (Nat.le_of_ble_eq_true rfl)
  rw [lg_entry_eq]
  generalize (lg_sl ([.int a0]) ++ List.replicate (1 - (lg_sl ([.int a0])).length) Slot.unset).toArray = ls at hl ⊢
  replace hl : lv_has ls 1 [(0, .int a0)] := hl
  unfold zf_X1_opposite at h
  refine lv_iload_n hx hb dX1_opposite_0 rfl (lv_at hl 0 rfl) ?_
  refine lv_ldc (v := (-2147483648)) hx hb hown (hts (.constant RX1 11 (-2147483648)) (List.mem_of_getElem? (i := 1) rfl)) dX1_opposite_1 ?_
  refine lv_ixor hx hb dX1_opposite_3 ?_
  have h9 := h
  exact wreti hx hb hr hlocks hP hD hS (by show _ = _; rw [← h9]; first | done | rfl) rfl dX1_opposite_4
def zb_X1_isInfinite_14 (w0_14 : Bool) : Bool := w0_14
def zf_X1_isInfinite (a0 : Int32) : Bool := (if (a0 &&& (2147483647 : Int32)) = (2139095040 : Int32) then (zb_X1_isInfinite_14 true) else (zb_X1_isInfinite_14 false))
def oc_X1_isInfinite : List Cond := [.constant RX1 55 (2147483647), .constant RX1 51 (2139095040)]
def vc_X1_isInfinite : List Cond := .code yX1_isInfinite cX1_isInfinite 1 (some .boolean) :: (oc_X1_isInfinite)
theorem gd_c_X1_isInfinite : (vc_X1_isInfinite).all goodWord = true := gall_cons rfl (by decide +kernel)
set_option maxHeartbeats 4000000 in
set_option maxRecDepth 100000 in
theorem c_X1_isInfinite (l : Launch) (dC : Nat → ClassId) (dI : Nat → Nat → Nat) (cI cT cS : ClassId) (sz : Nat) (ws : va_W) (a0 : Int32) (o : Bool) (h : zf_X1_isInfinite a0 = o) : gCI (S := Unit) l yX1_isInfinite vc_X1_isInfinite { frames := 0, cells := 0, slots := 0, locals := 0 } (dC, dI) (gTY cI cT cS) sz [.int a0] ws (fun (r : Int32) (_ : Unit) => r = b2i o) (fun (_ : Unit) => ws) 0 0 := by
  refine Met.ofW (cc := cX1_isInfinite) (maxL := 1) (ret := (some .boolean)) (by decide) rfl ?_
  intro p e s m args below meth c s₁ B hml hv
  obtain ⟨rfl, hsz, hP, hK, hD0⟩ := hv
  have hx := B.exec
  have hb := B.bytes
  have hr := B.returns
  have hts := atoms_spec (ws := vc_X1_isInfinite) B.pre
  have hown : s.vm.findClass RX1 = some m.cls := findClass_of_methodNamed B.named
  have hlocks := B.notSynchronized
  subst hsz
  have hD := hD0.self (sz := s.heap.size)
  generalize hAe : va_A ws s.heap.size = A at hD ⊢
  have hA : ∀ q : Nat, s.heap.size ≤ q → A q := fun q h => by rw [← hAe]; exact Or.inr h
  clear hAe hD0
  refine gstart (fun H locs hHe hLe => ?_)
  have hS : va_S A s.heap H locs := by rw [← hHe, ← hLe]; exact va_S.rf
  replace hP : va_P (dC, dI) vwCl ws H := by rw [← hHe]; exact hP
  clear hHe hLe
  have hl := lv_entry ([.int a0]) (n := 1) (Nat.le_of_ble_eq_true rfl)
  rw [lg_entry_eq]
  generalize (lg_sl ([.int a0]) ++ List.replicate (1 - (lg_sl ([.int a0])).length) Slot.unset).toArray = ls at hl ⊢
  replace hl : lv_has ls 1 [(0, .int a0)] := hl
  unfold zf_X1_isInfinite at h
  have J14 : ∀ (w0_14 : Bool) (H : Heap) (locs : List Loc) (ls : Array Slot), zb_X1_isInfinite_14 w0_14 = o → va_P (dC, dI) vwCl ws H → va_D A ws → va_S A s.heap H locs → lv_has ls 1 [] → W p l e (headSpec vc_X1_isInfinite { frames := 0, cells := 0, slots := 0, locals := 0 }).room s m (List.toArray (α := Value) [.int a0]) below meth c H locs 0 0 (MQ below (va_Qi (fun (r : Int32) (_ : Unit) => r = b2i o) (gB (dC, dI) A (fun (_ : Unit) => ws)) A) (List.toArray (α := Value) [.int a0]) s 0 0 A) (F0 m 14 ls [.int (b2i w0_14)]) := by
    intro w0_14 H locs ls h hP hD hS hl
    unfold zb_X1_isInfinite_14 at h
    have h9 := h
    exact wretz hx hb hr hlocks (b2i_or _) hP hD hS (by show _ = _; rw [← h9]; first | done | rfl) rfl dX1_isInfinite_14
  refine lv_iload_n hx hb dX1_isInfinite_0 rfl (lv_at hl 0 rfl) ?_
  refine lv_ldc (v := 2147483647) hx hb hown (hts (.constant RX1 55 (2147483647)) (List.mem_of_getElem? (i := 1) rfl)) dX1_isInfinite_1 ?_
  refine lv_iand hx hb dX1_isInfinite_3 ?_
  refine lv_ldc (v := 2139095040) hx hb hown (hts (.constant RX1 51 (2139095040)) (List.mem_of_getElem? (i := 2) rfl)) dX1_isInfinite_4 ?_
  refine lv_icmp_ne (tgt := 13) hx hb dX1_isInfinite_6 (by decide) (fun c1 => ?_) (fun c1 => ?_)
  · replace h := ifn (c1) h
    refine lv_iconst (v := 0) hx hb dX1_isInfinite_13 (by decide) ?_
    exact J14 false H locs ls h hP hD hS (lv_sub (l' := []) hl [] rfl)
  · replace h := ifp (c1) h
    refine lv_iconst (v := 1) hx hb dX1_isInfinite_9 (by decide) ?_
    refine lv_goto (tgt := 14) hx hb dX1_isInfinite_10 (by decide) ?_
    exact J14 true H locs ls h hP hD hS (lv_sub (l' := []) hl [] rfl)
def zb_X1_isNan_14 (w0_14 : Bool) : Bool := w0_14
def zf_X1_isNan (a0 : Int32) : Bool := (if (a0 &&& (2147483647 : Int32)) ≤ (2139095040 : Int32) then (zb_X1_isNan_14 false) else (zb_X1_isNan_14 true))
def oc_X1_isNan : List Cond := [.constant RX1 55 (2147483647), .constant RX1 51 (2139095040)]
def vc_X1_isNan : List Cond := .code yX1_isNan cX1_isNan 1 (some .boolean) :: (oc_X1_isNan)
theorem gd_c_X1_isNan : (vc_X1_isNan).all goodWord = true := gall_cons rfl (by decide +kernel)
set_option maxHeartbeats 4000000 in
set_option maxRecDepth 100000 in
theorem c_X1_isNan (l : Launch) (dC : Nat → ClassId) (dI : Nat → Nat → Nat) (cI cT cS : ClassId) (sz : Nat) (ws : va_W) (a0 : Int32) (o : Bool) (h : zf_X1_isNan a0 = o) : gCI (S := Unit) l yX1_isNan vc_X1_isNan { frames := 0, cells := 0, slots := 0, locals := 0 } (dC, dI) (gTY cI cT cS) sz [.int a0] ws (fun (r : Int32) (_ : Unit) => r = b2i o) (fun (_ : Unit) => ws) 0 0 := by
  refine Met.ofW (cc := cX1_isNan) (maxL := 1) (ret := (some .boolean)) (by decide) rfl ?_
  intro p e s m args below meth c s₁ B hml hv
  obtain ⟨rfl, hsz, hP, hK, hD0⟩ := hv
  have hx := B.exec
  have hb := B.bytes
  have hr := B.returns
  have hts := atoms_spec (ws := vc_X1_isNan) B.pre
  have hown : s.vm.findClass RX1 = some m.cls := findClass_of_methodNamed B.named
  have hlocks := B.notSynchronized
  subst hsz
  have hD := hD0.self (sz := s.heap.size)
  generalize hAe : va_A ws s.heap.size = A at hD ⊢
  have hA : ∀ q : Nat, s.heap.size ≤ q → A q := fun q h => by rw [← hAe]; exact Or.inr h
  clear hAe hD0
  refine gstart (fun H locs hHe hLe => ?_)
  have hS : va_S A s.heap H locs := by rw [← hHe, ← hLe]; exact va_S.rf
  replace hP : va_P (dC, dI) vwCl ws H := by rw [← hHe]; exact hP
  clear hHe hLe
  have hl := lv_entry ([.int a0]) (n := 1) (Nat.le_of_ble_eq_true rfl)
  rw [lg_entry_eq]
  generalize (lg_sl ([.int a0]) ++ List.replicate (1 - (lg_sl ([.int a0])).length) Slot.unset).toArray = ls at hl ⊢
  replace hl : lv_has ls 1 [(0, .int a0)] := hl
  unfold zf_X1_isNan at h
  have J14 : ∀ (w0_14 : Bool) (H : Heap) (locs : List Loc) (ls : Array Slot), zb_X1_isNan_14 w0_14 = o → va_P (dC, dI) vwCl ws H → va_D A ws → va_S A s.heap H locs → lv_has ls 1 [] → W p l e (headSpec vc_X1_isNan { frames := 0, cells := 0, slots := 0, locals := 0 }).room s m (List.toArray (α := Value) [.int a0]) below meth c H locs 0 0 (MQ below (va_Qi (fun (r : Int32) (_ : Unit) => r = b2i o) (gB (dC, dI) A (fun (_ : Unit) => ws)) A) (List.toArray (α := Value) [.int a0]) s 0 0 A) (F0 m 14 ls [.int (b2i w0_14)]) := by
    intro w0_14 H locs ls h hP hD hS hl
    unfold zb_X1_isNan_14 at h
    have h9 := h
    exact wretz hx hb hr hlocks (b2i_or _) hP hD hS (by show _ = _; rw [← h9]; first | done | rfl) rfl dX1_isNan_14
  refine lv_iload_n hx hb dX1_isNan_0 rfl (lv_at hl 0 rfl) ?_
  refine lv_ldc (v := 2147483647) hx hb hown (hts (.constant RX1 55 (2147483647)) (List.mem_of_getElem? (i := 1) rfl)) dX1_isNan_1 ?_
  refine lv_iand hx hb dX1_isNan_3 ?_
  refine lv_ldc (v := 2139095040) hx hb hown (hts (.constant RX1 51 (2139095040)) (List.mem_of_getElem? (i := 2) rfl)) dX1_isNan_4 ?_
  refine lv_icmp_le (tgt := 13) hx hb dX1_isNan_6 (by decide) (fun c1 => ?_) (fun c1 => ?_)
  · replace h := ifp (c1) h
    refine lv_iconst (v := 0) hx hb dX1_isNan_13 (by decide) ?_
    exact J14 false H locs ls h hP hD hS (lv_sub (l' := []) hl [] rfl)
  · replace h := ifn (c1) h
    refine lv_iconst (v := 1) hx hb dX1_isNan_9 (by decide) ?_
    refine lv_goto (tgt := 14) hx hb dX1_isNan_10 (by decide) ?_
    exact J14 true H locs ls h hP hD hS (lv_sub (l' := []) hl [] rfl)
def zb_X1_isZero_12 (w0_12 : Bool) : Bool := w0_12
def zf_X1_isZero (a0 : Int32) : Bool := (if (a0 &&& (2147483647 : Int32)) = 0 then (zb_X1_isZero_12 true) else (zb_X1_isZero_12 false))
def oc_X1_isZero : List Cond := [.constant RX1 55 (2147483647)]
def vc_X1_isZero : List Cond := .code yX1_isZero cX1_isZero 1 (some .boolean) :: (oc_X1_isZero)
theorem gd_c_X1_isZero : (vc_X1_isZero).all goodWord = true := gall_cons rfl (by decide +kernel)
set_option maxHeartbeats 4000000 in
set_option maxRecDepth 100000 in
theorem c_X1_isZero (l : Launch) (dC : Nat → ClassId) (dI : Nat → Nat → Nat) (cI cT cS : ClassId) (sz : Nat) (ws : va_W) (a0 : Int32) (o : Bool) (h : zf_X1_isZero a0 = o) : gCI (S := Unit) l yX1_isZero vc_X1_isZero { frames := 0, cells := 0, slots := 0, locals := 0 } (dC, dI) (gTY cI cT cS) sz [.int a0] ws (fun (r : Int32) (_ : Unit) => r = b2i o) (fun (_ : Unit) => ws) 0 0 := by
  refine Met.ofW (cc := cX1_isZero) (maxL := 1) (ret := (some .boolean)) (by decide) rfl ?_
  intro p e s m args below meth c s₁ B hml hv
  obtain ⟨rfl, hsz, hP, hK, hD0⟩ := hv
  have hx := B.exec
  have hb := B.bytes
  have hr := B.returns
  have hts := atoms_spec (ws := vc_X1_isZero) B.pre
  have hown : s.vm.findClass RX1 = some m.cls := findClass_of_methodNamed B.named
  have hlocks := B.notSynchronized
  subst hsz
  have hD := hD0.self (sz := s.heap.size)
  generalize hAe : va_A ws s.heap.size = A at hD ⊢
  have hA : ∀ q : Nat, s.heap.size ≤ q → A q := fun q h => by rw [← hAe]; exact Or.inr h
  clear hAe hD0
  refine gstart (fun H locs hHe hLe => ?_)
  have hS : va_S A s.heap H locs := by rw [← hHe, ← hLe]; exact va_S.rf
  replace hP : va_P (dC, dI) vwCl ws H := by rw [← hHe]; exact hP
  clear hHe hLe
  have hl := lv_entry ([.int a0]) (n := 1) (Nat.le_of_ble_eq_true rfl)
  rw [lg_entry_eq]
  generalize (lg_sl ([.int a0]) ++ List.replicate (1 - (lg_sl ([.int a0])).length) Slot.unset).toArray = ls at hl ⊢
  replace hl : lv_has ls 1 [(0, .int a0)] := hl
  unfold zf_X1_isZero at h
  have J12 : ∀ (w0_12 : Bool) (H : Heap) (locs : List Loc) (ls : Array Slot), zb_X1_isZero_12 w0_12 = o → va_P (dC, dI) vwCl ws H → va_D A ws → va_S A s.heap H locs → lv_has ls 1 [] → W p l e (headSpec vc_X1_isZero { frames := 0, cells := 0, slots := 0, locals := 0 }).room s m (List.toArray (α := Value) [.int a0]) below meth c H locs 0 0 (MQ below (va_Qi (fun (r : Int32) (_ : Unit) => r = b2i o) (gB (dC, dI) A (fun (_ : Unit) => ws)) A) (List.toArray (α := Value) [.int a0]) s 0 0 A) (F0 m 12 ls [.int (b2i w0_12)]) := by
    intro w0_12 H locs ls h hP hD hS hl
    unfold zb_X1_isZero_12 at h
    have h9 := h
    exact wretz hx hb hr hlocks (b2i_or _) hP hD hS (by show _ = _; rw [← h9]; first | done | rfl) rfl dX1_isZero_12
  refine lv_iload_n hx hb dX1_isZero_0 rfl (lv_at hl 0 rfl) ?_
  refine lv_ldc (v := 2147483647) hx hb hown (hts (.constant RX1 55 (2147483647)) (List.mem_of_getElem? (i := 1) rfl)) dX1_isZero_1 ?_
  refine lv_iand hx hb dX1_isZero_3 ?_
  refine lv_if_ne (tgt := 11) hx hb dX1_isZero_4 (by decide) (fun c1 => ?_) (fun c1 => ?_)
  · replace h := ifn (c1) h
    refine lv_iconst (v := 0) hx hb dX1_isZero_11 (by decide) ?_
    exact J12 false H locs ls h hP hD hS (lv_sub (l' := []) hl [] rfl)
  · replace h := ifp (c1) h
    refine lv_iconst (v := 1) hx hb dX1_isZero_7 (by decide) ?_
    refine lv_goto (tgt := 12) hx hb dX1_isZero_8 (by decide) ?_
    exact J12 true H locs ls h hP hD hS (lv_sub (l' := []) hl [] rfl)
def zf_X1_scale (a0 : Int32) : Int32 := letb ((a0 &&& (2147483647 : Int32)) >>> ((23 : Int32) &&& 31)) (fun e1 => (((if e1 < (1 : Int32) then (1 : Int32) else e1) - (1 : Int32)) + (-149 : Int32)))
def oc_X1_scale : List Cond := [.constant RX1 55 (2147483647), .methodLink RX1 56 Lib.Math.max.name, .static Lib.Math.max.name, .initialized "java/lang/Math", .code Lib.Math.max.name Lib.Math.max.code 2 (some .int)]
def vc_X1_scale : List Cond := .code yX1_scale cX1_scale 2 (some .int) :: (oc_X1_scale)
theorem gd_c_X1_scale : (vc_X1_scale).all goodWord = true := gall_cons rfl (by decide +kernel)
set_option maxHeartbeats 4000000 in
set_option maxRecDepth 100000 in
theorem c_X1_scale (l : Launch) (dC : Nat → ClassId) (dI : Nat → Nat → Nat) (cI cT cS : ClassId) (sz : Nat) (ws : va_W) (a0 : Int32) (o : Int32) (h : zf_X1_scale a0 = o) : gCI (S := Unit) l yX1_scale vc_X1_scale { frames := 1, cells := 0, slots := 0, locals := 13 } (dC, dI) (gTY cI cT cS) sz [.int a0] ws (fun (r : Int32) (_ : Unit) => r = o) (fun (_ : Unit) => ws) 0 0 := by
  refine Met.ofW (cc := cX1_scale) (maxL := 2) (ret := (some .int)) (by decide) rfl ?_
  intro p e s m args below meth c s₁ B hml hv
  obtain ⟨rfl, hsz, hP, hK, hD0⟩ := hv
  have hx := B.exec
  have hb := B.bytes
  have hr := B.returns
  have hts := atoms_spec (ws := vc_X1_scale) B.pre
  have hown : s.vm.findClass RX1 = some m.cls := findClass_of_methodNamed B.named
  have hlocks := B.notSynchronized
  subst hsz
  have hD := hD0.self (sz := s.heap.size)
  generalize hAe : va_A ws s.heap.size = A at hD ⊢
  have hA : ∀ q : Nat, s.heap.size ≤ q → A q := fun q h => by rw [← hAe]; exact Or.inr h
  clear hAe hD0
  refine gstart (fun H locs hHe hLe => ?_)
  have hS : va_S A s.heap H locs := by rw [← hHe, ← hLe]; exact va_S.rf
  replace hP : va_P (dC, dI) vwCl ws H := by rw [← hHe]; exact hP
  clear hHe hLe
  have hl := lv_entry ([.int a0]) (n := 2) (Nat.le_of_ble_eq_true rfl)
  rw [lg_entry_eq]
  generalize (lg_sl ([.int a0]) ++ List.replicate (2 - (lg_sl ([.int a0])).length) Slot.unset).toArray = ls at hl ⊢
  replace hl : lv_has ls 2 [(0, .int a0)] := hl
  unfold zf_X1_scale at h
  refine lv_iload_n hx hb dX1_scale_0 rfl (lv_at hl 0 rfl) ?_
  refine lv_ldc (v := 2147483647) hx hb hown (hts (.constant RX1 55 (2147483647)) (List.mem_of_getElem? (i := 1) rfl)) dX1_scale_1 ?_
  refine lv_iand hx hb dX1_scale_3 ?_
  refine lv_bipush (v := 23) hx hb dX1_scale_4 (by decide) ?_
  refine lv_ishr hx hb dX1_scale_6 ?_
  obtain ⟨e1, he1, h⟩ := letb_inv h
  refine lv_nm he1 ?_
  refine lv_istore_n (lv' := [(1, .int e1), (0, .int a0)]) hx hb dX1_scale_7 rfl hl (by decide) rfl (fun ls hl => ?_)
  refine lv_iload_n hx hb dX1_scale_8 rfl (lv_at hl 0 rfl) ?_
  refine lv_iconst (v := 1) hx hb dX1_scale_9 (by decide) ?_
  refine va_mmax hx hb (hml.trans hl.1.symm) hown (hts (.methodLink RX1 56 Lib.Math.max.name) (List.mem_of_getElem? (i := 2) rfl)) (hts (.static Lib.Math.max.name) (List.mem_of_getElem? (i := 3) rfl)) (hts (.initialized "java/lang/Math") (List.mem_of_getElem? (i := 4) rfl)) (hts (.code Lib.Math.max.name Lib.Math.max.code 2 (some .int)) (List.mem_of_getElem? (i := 5) rfl)) (Nat.le_of_ble_eq_true rfl) (Nat.le_of_ble_eq_true rfl) (Nat.le_of_ble_eq_true rfl) (Nat.le_of_ble_eq_true rfl) dX1_scale_10 ?_
  refine lv_iconst (v := 1) hx hb dX1_scale_13 (by decide) ?_
  refine lv_isub hx hb dX1_scale_14 ?_
  refine lv_sipush (v := (-149)) hx hb dX1_scale_15 (by decide) ?_
  refine lv_iadd hx hb dX1_scale_18 ?_
  have h9 := h
  exact wreti hx hb hr hlocks hP hD hS (by show _ = _; rw [← h9]; first | done | rfl) rfl dX1_scale_19
def zb_X1_signed_29 (w0_29 : Int64) : Int64 := w0_29
def zb_X1_signed_19 (a0 : Int32) (v1_19 : Int64) : Int64 := (if 0 ≤ a0 then (zb_X1_signed_29 v1_19) else (zb_X1_signed_29 (-v1_19)))
def zf_X1_signed (a0 : Int32) : Int64 := letb ((a0 &&& (8388607 : Int32)).toInt64) (fun e1 => (if (a0 &&& (2139095040 : Int32)) = 0 then (zb_X1_signed_19 a0 e1) else letb (e1 + (8388608 : Int64)) (fun e3 => (zb_X1_signed_19 a0 e3))))
def oc_X1_signed : List Cond := [.constant RX1 59 (8388607), .constant RX1 51 (2139095040), .constantLong RX1 60 (8388608)]
def vc_X1_signed : List Cond := .code yX1_signed cX1_signed 3 (some .long) :: (oc_X1_signed)
theorem gd_c_X1_signed : (vc_X1_signed).all goodWord = true := gall_cons rfl (by decide +kernel)
set_option maxHeartbeats 4000000 in
set_option maxRecDepth 100000 in
theorem c_X1_signed (l : Launch) (dC : Nat → ClassId) (dI : Nat → Nat → Nat) (cI cT cS : ClassId) (sz : Nat) (ws : va_W) (a0 : Int32) (o : Int64) (h : zf_X1_signed a0 = o) : gCL (S := Unit) l yX1_signed vc_X1_signed { frames := 0, cells := 0, slots := 0, locals := 0 } (dC, dI) (gTY cI cT cS) sz [.int a0] ws (fun (r : Int64) (_ : Unit) => r = o) (fun (_ : Unit) => ws) 0 0 := by
  refine Met.ofW (cc := cX1_signed) (maxL := 3) (ret := (some .long)) (by decide) rfl ?_
  intro p e s m args below meth c s₁ B hml hv
  obtain ⟨rfl, hsz, hP, hK, hD0⟩ := hv
  have hx := B.exec
  have hb := B.bytes
  have hr := B.returns
  have hts := atoms_spec (ws := vc_X1_signed) B.pre
  have hown : s.vm.findClass RX1 = some m.cls := findClass_of_methodNamed B.named
  have hlocks := B.notSynchronized
  subst hsz
  have hD := hD0.self (sz := s.heap.size)
  generalize hAe : va_A ws s.heap.size = A at hD ⊢
  have hA : ∀ q : Nat, s.heap.size ≤ q → A q := fun q h => by rw [← hAe]; exact Or.inr h
  clear hAe hD0
  refine gstart (fun H locs hHe hLe => ?_)
  have hS : va_S A s.heap H locs := by rw [← hHe, ← hLe]; exact va_S.rf
  replace hP : va_P (dC, dI) vwCl ws H := by rw [← hHe]; exact hP
  clear hHe hLe
  have hl := lv_entry ([.int a0]) (n := 3) (Nat.le_of_ble_eq_true rfl)
  rw [lg_entry_eq]
  generalize (lg_sl ([.int a0]) ++ List.replicate (3 - (lg_sl ([.int a0])).length) Slot.unset).toArray = ls at hl ⊢
  replace hl : lv_has ls 3 [(0, .int a0)] := hl
  unfold zf_X1_signed at h
  have J29 : ∀ (w0_29 : Int64) (H : Heap) (locs : List Loc) (ls : Array Slot), zb_X1_signed_29 w0_29 = o → va_P (dC, dI) vwCl ws H → va_D A ws → va_S A s.heap H locs → lv_has ls 3 [] → W p l e (headSpec vc_X1_signed { frames := 0, cells := 0, slots := 0, locals := 0 }).room s m (List.toArray (α := Value) [.int a0]) below meth c H locs 0 0 (MQ below (va_Ql (fun (r : Int64) (_ : Unit) => r = o) (gB (dC, dI) A (fun (_ : Unit) => ws)) A) (List.toArray (α := Value) [.int a0]) s 0 0 A) (F0 m 29 ls [.long w0_29]) := by
    intro w0_29 H locs ls h hP hD hS hl
    unfold zb_X1_signed_29 at h
    have h9 := h
    exact wretl hx hb hr hlocks hP hD hS (by show _ = _; rw [← h9]; first | done | rfl) rfl dX1_signed_29
  have J19 : ∀ (v1_19 : Int64) (H : Heap) (locs : List Loc) (ls : Array Slot), zb_X1_signed_19 a0 v1_19 = o → va_P (dC, dI) vwCl ws H → va_D A ws → va_S A s.heap H locs → lv_has ls 3 [(1, .long v1_19), (0, .int a0)] → W p l e (headSpec vc_X1_signed { frames := 0, cells := 0, slots := 0, locals := 0 }).room s m (List.toArray (α := Value) [.int a0]) below meth c H locs 0 0 (MQ below (va_Ql (fun (r : Int64) (_ : Unit) => r = o) (gB (dC, dI) A (fun (_ : Unit) => ws)) A) (List.toArray (α := Value) [.int a0]) s 0 0 A) (F0 m 19 ls []) := by
    intro v1_19 H locs ls h hP hD hS hl
    unfold zb_X1_signed_19 at h
    refine lv_iload_n hx hb dX1_signed_19 rfl (lv_at hl 1 rfl) ?_
    refine lv_if_ge (tgt := 28) hx hb dX1_signed_20 (by decide) (fun c4 => ?_) (fun c4 => ?_)
    · replace h := ifp (c4) h
      refine lv_lload_n hx hb dX1_signed_28 rfl (lv_at hl 0 rfl) ?_
      exact J29 v1_19 H locs ls h hP hD hS (lv_sub (l' := []) hl [] rfl)
    · replace h := ifn (c4) h
      refine lv_lload_n hx hb dX1_signed_23 rfl (lv_at hl 0 rfl) ?_
      refine lv_lneg hx hb dX1_signed_24 ?_
      refine lv_goto (tgt := 29) hx hb dX1_signed_25 (by decide) ?_
      exact J29 (-v1_19) H locs ls h hP hD hS (lv_sub (l' := []) hl [] rfl)
  refine lv_iload_n hx hb dX1_signed_0 rfl (lv_at hl 0 rfl) ?_
  refine lv_ldc (v := 8388607) hx hb hown (hts (.constant RX1 59 (8388607)) (List.mem_of_getElem? (i := 1) rfl)) dX1_signed_1 ?_
  refine lv_iand hx hb dX1_signed_3 ?_
  refine lv_i2l hx hb dX1_signed_4 rfl ?_
  obtain ⟨e1, he1, h⟩ := letb_inv h
  refine lv_nml he1 ?_
  refine lv_lstore_n (lv' := [(1, .long e1), (0, .int a0)]) hx hb dX1_signed_5 rfl hl (by decide) rfl (fun ls hl => ?_)
  refine lv_iload_n hx hb dX1_signed_6 rfl (lv_at hl 1 rfl) ?_
  refine lv_ldc (v := 2139095040) hx hb hown (hts (.constant RX1 51 (2139095040)) (List.mem_of_getElem? (i := 2) rfl)) dX1_signed_7 ?_
  refine lv_iand hx hb dX1_signed_9 ?_
  refine lv_if_eq (tgt := 19) hx hb dX1_signed_10 (by decide) (fun c2 => ?_) (fun c2 => ?_)
  · replace h := ifp (c2) h
    exact J19 e1 H locs ls h hP hD hS (lv_sub (l' := [(1, .long e1), (0, .int a0)]) hl [0, 1] rfl)
  · replace h := ifn (c2) h
    refine lv_lload_n hx hb dX1_signed_13 rfl (lv_at hl 0 rfl) ?_
    refine lv_ldc2 (v := 8388608) hx hb hown (hts (.constantLong RX1 60 (8388608)) (List.mem_of_getElem? (i := 3) rfl)) dX1_signed_14 ?_
    refine lv_ladd hx hb dX1_signed_17 ?_
    obtain ⟨e3, he3, h⟩ := letb_inv h
    refine lv_nml he3 ?_
    refine lv_lstore_n (lv' := [(1, .long e3), (0, .int a0)]) hx hb dX1_signed_18 rfl hl (by decide) rfl (fun ls hl => ?_)
    exact J19 e3 H locs ls h hP hD hS (lv_sub (l' := [(1, .long e3), (0, .int a0)]) hl [0, 1] rfl)
def zb_X1_product_61 (w0_61 : Int32) : Int32 := w0_61
def zb_X1_product_52  : Int32 := (zb_X1_product_61 (2143289344 : Int32))
def zb_X1_product_14  : Int32 := (2143289344 : Int32)
def zb_X1_product_38 (a0 : Int32) (a1 : Int32) (v2_38 : Int32) : Int32 := (if (zf_X1_isZero a0) = true then zb_X1_product_52 else (if (zf_X1_isZero a1) = true then zb_X1_product_52 else (zb_X1_product_61 (v2_38 ||| (2139095040 : Int32)))))
def zf_X1_product (a0 : Int32) (a1 : Int32) : Int32 := (if (zf_X1_isNan a0) = true then zb_X1_product_14 else (if (zf_X1_isNan a1) = true then zb_X1_product_14 else letb ((a0 ^^^ a1) &&& (-2147483648 : Int32)) (fun e5 => (if (zf_X1_isInfinite a0) = true then (zb_X1_product_38 a0 a1 e5) else (if (zf_X1_isInfinite a1) = true then (zb_X1_product_38 a0 a1 e5) else (zf_X1_nearest e5 (if 0 < ((zf_X1_signed a0) * (zf_X1_signed a1)) then ((zf_X1_signed a0) * (zf_X1_signed a1)) else -((zf_X1_signed a0) * (zf_X1_signed a1))) ((zf_X1_scale a0) + (zf_X1_scale a1))))))))
def oc_X1_product : List Cond := [.methodLink RX1 22 yX1_isNan, .static yX1_isNan, .initialized RX1, .constant RX1 11 (-2147483648), .methodLink RX1 27 yX1_isInfinite, .static yX1_isInfinite, .methodLink RX1 38 yX1_signed, .static yX1_signed, .methodLink RX1 12 Lib.MathLoose.abs_long.x, .static Lib.MathLoose.abs_long.x, .initialized "java/lang/Math", .code Lib.MathLoose.abs_long.x Lib.MathLoose.abs_long.code 2 (some .long), .methodLink RX1 30 yX1_scale, .static yX1_scale, .methodLink RX1 18 yX1_nearest, .static yX1_nearest, .methodLink RX1 48 yX1_isZero, .static yX1_isZero, .constant RX1 51 (2139095040), .constant RX1 26 (2143289344)]
def vc_X1_product : List Cond := .code yX1_product cX1_product 3 (some .int) :: (oc_X1_product ++ (vc_X1_isNan ++ (vc_X1_isInfinite ++ (vc_X1_signed ++ (vc_X1_scale ++ (vc_X1_nearest ++ (vc_X1_isZero)))))))
theorem ic_X1_product_c_X1_isNan : ∀ w ∈ vc_X1_isNan, w ∈ vc_X1_product := fun _ h => List.mem_cons_of_mem _ (List.mem_append_right _ (List.mem_append_left _ h))
theorem ic_X1_product_c_X1_isInfinite : ∀ w ∈ vc_X1_isInfinite, w ∈ vc_X1_product := fun _ h => List.mem_cons_of_mem _ (List.mem_append_right _ (List.mem_append_right _ (List.mem_append_left _ h)))
theorem ic_X1_product_c_X1_signed : ∀ w ∈ vc_X1_signed, w ∈ vc_X1_product := fun _ h => List.mem_cons_of_mem _ (List.mem_append_right _ (List.mem_append_right _ (List.mem_append_right _ (List.mem_append_left _ h))))
theorem ic_X1_product_c_X1_scale : ∀ w ∈ vc_X1_scale, w ∈ vc_X1_product := fun _ h => List.mem_cons_of_mem _ (List.mem_append_right _ (List.mem_append_right _ (List.mem_append_right _ (List.mem_append_right _ (List.mem_append_left _ h)))))
theorem ic_X1_product_c_X1_nearest : ∀ w ∈ vc_X1_nearest, w ∈ vc_X1_product := fun _ h => List.mem_cons_of_mem _ (List.mem_append_right _ (List.mem_append_right _ (List.mem_append_right _ (List.mem_append_right _ (List.mem_append_right _ (List.mem_append_left _ h))))))
theorem ic_X1_product_c_X1_isZero : ∀ w ∈ vc_X1_isZero, w ∈ vc_X1_product := fun _ h => List.mem_cons_of_mem _ (List.mem_append_right _ (List.mem_append_right _ (List.mem_append_right _ (List.mem_append_right _ (List.mem_append_right _ (List.mem_append_right _ (h)))))))
theorem gd_c_X1_product : (vc_X1_product).all goodWord = true := gall_cons rfl (gall_app (by decide +kernel) (gall_app gd_c_X1_isNan (gall_app gd_c_X1_isInfinite (gall_app gd_c_X1_signed (gall_app gd_c_X1_scale (gall_app gd_c_X1_nearest gd_c_X1_isZero))))))
set_option maxHeartbeats 4000000 in
set_option maxRecDepth 100000 in
theorem c_X1_product (l : Launch) (dC : Nat → ClassId) (dI : Nat → Nat → Nat) (cI cT cS : ClassId) (sz : Nat) (ws : va_W) (a0 : Int32) (a1 : Int32) (o : Int32) (h : zf_X1_product a0 a1 = o) : gCI (S := Unit) l yX1_product vc_X1_product { frames := 3, cells := 0, slots := 0, locals := 75 } (dC, dI) (gTY cI cT cS) sz [.int a0, .int a1] ws (fun (r : Int32) (_ : Unit) => r = o) (fun (_ : Unit) => ws) 0 0 := by
  refine Met.ofW (cc := cX1_product) (maxL := 3) (ret := (some .int)) (by decide) rfl ?_
  intro p e s m args below meth c s₁ B hml hv
  obtain ⟨rfl, hsz, hP, hK, hD0⟩ := hv
  have hx := B.exec
  have hb := B.bytes
  have hr := B.returns
  have hts := atoms_spec (ws := vc_X1_product) B.pre
  have hown : s.vm.findClass RX1 = some m.cls := findClass_of_methodNamed B.named
  have hlocks := B.notSynchronized
  subst hsz
  have hD := hD0.self (sz := s.heap.size)
  generalize hAe : va_A ws s.heap.size = A at hD ⊢
  have hA : ∀ q : Nat, s.heap.size ≤ q → A q := fun q h => by rw [← hAe]; exact Or.inr h
  clear hAe hD0
  refine gstart (fun H locs hHe hLe => ?_)
  have hS : va_S A s.heap H locs := by rw [← hHe, ← hLe]; exact va_S.rf
  replace hP : va_P (dC, dI) vwCl ws H := by rw [← hHe]; exact hP
  clear hHe hLe
  have hl := lv_entry ([.int a0, .int a1]) (n := 3) (Nat.le_of_ble_eq_true rfl)
  rw [lg_entry_eq]
  generalize (lg_sl ([.int a0, .int a1]) ++ List.replicate (3 - (lg_sl ([.int a0, .int a1])).length) Slot.unset).toArray = ls at hl ⊢
  replace hl : lv_has ls 3 [(0, .int a0), (1, .int a1)] := hl
  unfold zf_X1_product at h
  have J61 : ∀ (w0_61 : Int32) (H : Heap) (locs : List Loc) (ls : Array Slot), zb_X1_product_61 w0_61 = o → va_P (dC, dI) vwCl ws H → va_D A ws → va_S A s.heap H locs → lv_has ls 3 [] → W p l e (headSpec vc_X1_product { frames := 3, cells := 0, slots := 0, locals := 75 }).room s m (List.toArray (α := Value) [.int a0, .int a1]) below meth c H locs 0 0 (MQ below (va_Qi (fun (r : Int32) (_ : Unit) => r = o) (gB (dC, dI) A (fun (_ : Unit) => ws)) A) (List.toArray (α := Value) [.int a0, .int a1]) s 0 0 A) (F0 m 61 ls [.int w0_61]) := by
    intro w0_61 H locs ls h hP hD hS hl
    unfold zb_X1_product_61 at h
    have h9 := h
    exact wreti hx hb hr hlocks hP hD hS (by show _ = _; rw [← h9]; first | done | rfl) rfl dX1_product_61
  have J52 : ∀  (H : Heap) (locs : List Loc) (ls : Array Slot), zb_X1_product_52 = o → va_P (dC, dI) vwCl ws H → va_D A ws → va_S A s.heap H locs → lv_has ls 3 [] → W p l e (headSpec vc_X1_product { frames := 3, cells := 0, slots := 0, locals := 75 }).room s m (List.toArray (α := Value) [.int a0, .int a1]) below meth c H locs 0 0 (MQ below (va_Qi (fun (r : Int32) (_ : Unit) => r = o) (gB (dC, dI) A (fun (_ : Unit) => ws)) A) (List.toArray (α := Value) [.int a0, .int a1]) s 0 0 A) (F0 m 52 ls []) := by
    intro  H locs ls h hP hD hS hl
    unfold zb_X1_product_52 at h
    refine lv_ldc (v := 2143289344) hx hb hown (hts (.constant RX1 26 (2143289344)) (List.mem_of_getElem? (i := 20) rfl)) dX1_product_52 ?_
    refine lv_goto (tgt := 61) hx hb dX1_product_54 (by decide) ?_
    exact J61 (2143289344 : Int32) H locs ls h hP hD hS (lv_sub (l' := []) hl [] rfl)
  have J14 : ∀  (H : Heap) (locs : List Loc) (ls : Array Slot), zb_X1_product_14 = o → va_P (dC, dI) vwCl ws H → va_D A ws → va_S A s.heap H locs → lv_has ls 3 [] → W p l e (headSpec vc_X1_product { frames := 3, cells := 0, slots := 0, locals := 75 }).room s m (List.toArray (α := Value) [.int a0, .int a1]) below meth c H locs 0 0 (MQ below (va_Qi (fun (r : Int32) (_ : Unit) => r = o) (gB (dC, dI) A (fun (_ : Unit) => ws)) A) (List.toArray (α := Value) [.int a0, .int a1]) s 0 0 A) (F0 m 14 ls []) := by
    intro  H locs ls h hP hD hS hl
    unfold zb_X1_product_14 at h
    refine lv_ldc (v := 2143289344) hx hb hown (hts (.constant RX1 26 (2143289344)) (List.mem_of_getElem? (i := 20) rfl)) dX1_product_14 ?_
    have h9 := h
    exact wreti hx hb hr hlocks hP hD hS (by show _ = _; rw [← h9]; first | done | rfl) rfl dX1_product_16
  have J38 : ∀ (v2_38 : Int32) (H : Heap) (locs : List Loc) (ls : Array Slot), zb_X1_product_38 a0 a1 v2_38 = o → va_P (dC, dI) vwCl ws H → va_D A ws → va_S A s.heap H locs → lv_has ls 3 [(2, .int v2_38), (0, .int a0), (1, .int a1)] → W p l e (headSpec vc_X1_product { frames := 3, cells := 0, slots := 0, locals := 75 }).room s m (List.toArray (α := Value) [.int a0, .int a1]) below meth c H locs 0 0 (MQ below (va_Qi (fun (r : Int32) (_ : Unit) => r = o) (gB (dC, dI) A (fun (_ : Unit) => ws)) A) (List.toArray (α := Value) [.int a0, .int a1]) s 0 0 A) (F0 m 38 ls []) := by
    intro v2_38 H locs ls h hP hD hS hl
    unfold zb_X1_product_38 at h
    refine lv_iload_n hx hb dX1_product_38 rfl (lv_at hl 1 rfl) ?_
    refine wcalli (S := Unit) (va_runS (As := [.int a0]) (rest := []) ⟨hx, hb, hml, hown, hts⟩ (c_X1_isZero l dC dI cI cT cS H.size ws  a0 _ rfl) (va_cwS 1 hts (gWS (List.mem_of_getElem? (i := 17) rfl) (List.mem_of_getElem? (i := 18) rfl) (List.mem_of_getElem? (i := 3) rfl) ic_X1_product_c_X1_isZero gd_c_X1_isZero) rfl rfl rfl (by decide +kernel) ⟨(Nat.le_of_ble_eq_true rfl), (Nat.le_of_ble_eq_true rfl)⟩) (gpS hP hK hD) rfl rfl hl.1 rfl (lv_room (Nat.le_of_ble_eq_true rfl)) dX1_product_39 ⟨(Nat.le_of_ble_eq_true rfl), (Nat.le_of_ble_eq_true rfl)⟩) hP hD hS hA (fun rr15 _ H locs hr15 hP hD hS => ?_)
    refine lv_nm (y := b2i (zf_X1_isZero a0)) hr15 ?_
    refine lv_if_ne (tgt := 52) hx hb dX1_product_42 (by decide) (fun c16 => ?_) (fun c16 => ?_)
    · replace h := ifp (b2i_1 c16) h
      exact J52  H locs ls h hP hD hS (lv_sub (l' := []) hl [] rfl)
    · replace h := ifn (b2i_0 c16) h
      refine lv_iload_n hx hb dX1_product_45 rfl (lv_at hl 2 rfl) ?_
      refine wcalli (S := Unit) (va_runS (As := [.int a1]) (rest := []) ⟨hx, hb, hml, hown, hts⟩ (c_X1_isZero l dC dI cI cT cS H.size ws  a1 _ rfl) (va_cwS 1 hts (gWS (List.mem_of_getElem? (i := 17) rfl) (List.mem_of_getElem? (i := 18) rfl) (List.mem_of_getElem? (i := 3) rfl) ic_X1_product_c_X1_isZero gd_c_X1_isZero) rfl rfl rfl (by decide +kernel) ⟨(Nat.le_of_ble_eq_true rfl), (Nat.le_of_ble_eq_true rfl)⟩) (gpS hP hK hD) rfl rfl hl.1 rfl (lv_room (Nat.le_of_ble_eq_true rfl)) dX1_product_46 ⟨(Nat.le_of_ble_eq_true rfl), (Nat.le_of_ble_eq_true rfl)⟩) hP hD hS hA (fun rr17 _ H locs hr17 hP hD hS => ?_)
      refine lv_nm (y := b2i (zf_X1_isZero a1)) hr17 ?_
      refine lv_if_eq (tgt := 57) hx hb dX1_product_49 (by decide) (fun c18 => ?_) (fun c18 => ?_)
      · replace h := ifn (b2i_0 c18) h
        refine lv_iload_n hx hb dX1_product_57 rfl (lv_at hl 0 rfl) ?_
        refine lv_ldc (v := 2139095040) hx hb hown (hts (.constant RX1 51 (2139095040)) (List.mem_of_getElem? (i := 19) rfl)) dX1_product_58 ?_
        refine lv_ior hx hb dX1_product_60 ?_
        exact J61 (v2_38 ||| (2139095040 : Int32)) H locs ls h hP hD hS (lv_sub (l' := []) hl [] rfl)
      · replace h := ifp (b2i_1 c18) h
        exact J52  H locs ls h hP hD hS (lv_sub (l' := []) hl [] rfl)
  refine lv_iload_n hx hb dX1_product_0 rfl (lv_at hl 0 rfl) ?_
  refine wcalli (S := Unit) (va_runS (As := [.int a0]) (rest := []) ⟨hx, hb, hml, hown, hts⟩ (c_X1_isNan l dC dI cI cT cS H.size ws  a0 _ rfl) (va_cwS 1 hts (gWS (List.mem_of_getElem? (i := 1) rfl) (List.mem_of_getElem? (i := 2) rfl) (List.mem_of_getElem? (i := 3) rfl) ic_X1_product_c_X1_isNan gd_c_X1_isNan) rfl rfl rfl (by decide +kernel) ⟨(Nat.le_of_ble_eq_true rfl), (Nat.le_of_ble_eq_true rfl)⟩) (gpS hP hK hD) rfl rfl hl.1 rfl (lv_room (Nat.le_of_ble_eq_true rfl)) dX1_product_1 ⟨(Nat.le_of_ble_eq_true rfl), (Nat.le_of_ble_eq_true rfl)⟩) hP hD hS hA (fun rr1 _ H locs hr1 hP hD hS => ?_)
  refine lv_nm (y := b2i (zf_X1_isNan a0)) hr1 ?_
  refine lv_if_ne (tgt := 14) hx hb dX1_product_4 (by decide) (fun c2 => ?_) (fun c2 => ?_)
  · replace h := ifp (b2i_1 c2) h
    exact J14  H locs ls h hP hD hS (lv_sub (l' := []) hl [] rfl)
  · replace h := ifn (b2i_0 c2) h
    refine lv_iload_n hx hb dX1_product_7 rfl (lv_at hl 1 rfl) ?_
    refine wcalli (S := Unit) (va_runS (As := [.int a1]) (rest := []) ⟨hx, hb, hml, hown, hts⟩ (c_X1_isNan l dC dI cI cT cS H.size ws  a1 _ rfl) (va_cwS 1 hts (gWS (List.mem_of_getElem? (i := 1) rfl) (List.mem_of_getElem? (i := 2) rfl) (List.mem_of_getElem? (i := 3) rfl) ic_X1_product_c_X1_isNan gd_c_X1_isNan) rfl rfl rfl (by decide +kernel) ⟨(Nat.le_of_ble_eq_true rfl), (Nat.le_of_ble_eq_true rfl)⟩) (gpS hP hK hD) rfl rfl hl.1 rfl (lv_room (Nat.le_of_ble_eq_true rfl)) dX1_product_8 ⟨(Nat.le_of_ble_eq_true rfl), (Nat.le_of_ble_eq_true rfl)⟩) hP hD hS hA (fun rr3 _ H locs hr3 hP hD hS => ?_)
    refine lv_nm (y := b2i (zf_X1_isNan a1)) hr3 ?_
    refine lv_if_eq (tgt := 17) hx hb dX1_product_11 (by decide) (fun c4 => ?_) (fun c4 => ?_)
    · replace h := ifn (b2i_0 c4) h
      refine lv_iload_n hx hb dX1_product_17 rfl (lv_at hl 0 rfl) ?_
      refine lv_iload_n hx hb dX1_product_18 rfl (lv_at hl 1 rfl) ?_
      refine lv_ixor hx hb dX1_product_19 ?_
      refine lv_ldc (v := (-2147483648)) hx hb hown (hts (.constant RX1 11 (-2147483648)) (List.mem_of_getElem? (i := 4) rfl)) dX1_product_20 ?_
      refine lv_iand hx hb dX1_product_22 ?_
      obtain ⟨e5, he5, h⟩ := letb_inv h
      refine lv_nm he5 ?_
      refine lv_istore_n (lv' := [(2, .int e5), (0, .int a0), (1, .int a1)]) hx hb dX1_product_23 rfl hl (by decide) rfl (fun ls hl => ?_)
      refine lv_iload_n hx hb dX1_product_24 rfl (lv_at hl 1 rfl) ?_
      refine wcalli (S := Unit) (va_runS (As := [.int a0]) (rest := []) ⟨hx, hb, hml, hown, hts⟩ (c_X1_isInfinite l dC dI cI cT cS H.size ws  a0 _ rfl) (va_cwS 1 hts (gWS (List.mem_of_getElem? (i := 5) rfl) (List.mem_of_getElem? (i := 6) rfl) (List.mem_of_getElem? (i := 3) rfl) ic_X1_product_c_X1_isInfinite gd_c_X1_isInfinite) rfl rfl rfl (by decide +kernel) ⟨(Nat.le_of_ble_eq_true rfl), (Nat.le_of_ble_eq_true rfl)⟩) (gpS hP hK hD) rfl rfl hl.1 rfl (lv_room (Nat.le_of_ble_eq_true rfl)) dX1_product_25 ⟨(Nat.le_of_ble_eq_true rfl), (Nat.le_of_ble_eq_true rfl)⟩) hP hD hS hA (fun rr6 _ H locs hr6 hP hD hS => ?_)
      refine lv_nm (y := b2i (zf_X1_isInfinite a0)) hr6 ?_
      refine lv_if_ne (tgt := 38) hx hb dX1_product_28 (by decide) (fun c7 => ?_) (fun c7 => ?_)
      · replace h := ifp (b2i_1 c7) h
        exact J38 e5 H locs ls h hP hD hS (lv_sub (l' := [(2, .int e5), (0, .int a0), (1, .int a1)]) hl [0, 1, 2] rfl)
      · replace h := ifn (b2i_0 c7) h
        refine lv_iload_n hx hb dX1_product_31 rfl (lv_at hl 2 rfl) ?_
        refine wcalli (S := Unit) (va_runS (As := [.int a1]) (rest := []) ⟨hx, hb, hml, hown, hts⟩ (c_X1_isInfinite l dC dI cI cT cS H.size ws  a1 _ rfl) (va_cwS 1 hts (gWS (List.mem_of_getElem? (i := 5) rfl) (List.mem_of_getElem? (i := 6) rfl) (List.mem_of_getElem? (i := 3) rfl) ic_X1_product_c_X1_isInfinite gd_c_X1_isInfinite) rfl rfl rfl (by decide +kernel) ⟨(Nat.le_of_ble_eq_true rfl), (Nat.le_of_ble_eq_true rfl)⟩) (gpS hP hK hD) rfl rfl hl.1 rfl (lv_room (Nat.le_of_ble_eq_true rfl)) dX1_product_32 ⟨(Nat.le_of_ble_eq_true rfl), (Nat.le_of_ble_eq_true rfl)⟩) hP hD hS hA (fun rr8 _ H locs hr8 hP hD hS => ?_)
        refine lv_nm (y := b2i (zf_X1_isInfinite a1)) hr8 ?_
        refine lv_if_eq (tgt := 62) hx hb dX1_product_35 (by decide) (fun c9 => ?_) (fun c9 => ?_)
        · replace h := ifn (b2i_0 c9) h
          refine lv_iload_n hx hb dX1_product_62 rfl (lv_at hl 0 rfl) ?_
          refine lv_iload_n hx hb dX1_product_63 rfl (lv_at hl 1 rfl) ?_
          refine wcalll (S := Unit) (va_runS (As := [.int a0]) (rest := [.int e5]) ⟨hx, hb, hml, hown, hts⟩ (c_X1_signed l dC dI cI cT cS H.size ws  a0 _ rfl) (va_cwS 1 hts (gWS (List.mem_of_getElem? (i := 7) rfl) (List.mem_of_getElem? (i := 8) rfl) (List.mem_of_getElem? (i := 3) rfl) ic_X1_product_c_X1_signed gd_c_X1_signed) rfl rfl rfl (by decide +kernel) ⟨(Nat.le_of_ble_eq_true rfl), (Nat.le_of_ble_eq_true rfl)⟩) (gpS hP hK hD) rfl rfl hl.1 rfl (lv_room (Nat.le_of_ble_eq_true rfl)) dX1_product_64 ⟨(Nat.le_of_ble_eq_true rfl), (Nat.le_of_ble_eq_true rfl)⟩) hP hD hS hA (fun rr10 _ H locs hr10 hP hD hS => ?_)
          refine lv_nml (y := (zf_X1_signed a0)) hr10 ?_
          refine lv_iload_n hx hb dX1_product_67 rfl (lv_at hl 2 rfl) ?_
          refine wcalll (S := Unit) (va_runS (As := [.int a1]) (rest := [.long (zf_X1_signed a0), .int e5]) ⟨hx, hb, hml, hown, hts⟩ (c_X1_signed l dC dI cI cT cS H.size ws  a1 _ rfl) (va_cwS 1 hts (gWS (List.mem_of_getElem? (i := 7) rfl) (List.mem_of_getElem? (i := 8) rfl) (List.mem_of_getElem? (i := 3) rfl) ic_X1_product_c_X1_signed gd_c_X1_signed) rfl rfl rfl (by decide +kernel) ⟨(Nat.le_of_ble_eq_true rfl), (Nat.le_of_ble_eq_true rfl)⟩) (gpS hP hK hD) rfl rfl hl.1 rfl (lv_room (Nat.le_of_ble_eq_true rfl)) dX1_product_68 ⟨(Nat.le_of_ble_eq_true rfl), (Nat.le_of_ble_eq_true rfl)⟩) hP hD hS hA (fun rr11 _ H locs hr11 hP hD hS => ?_)
          refine lv_nml (y := (zf_X1_signed a1)) hr11 ?_
          refine lv_lmul hx hb dX1_product_71 ?_
          refine va_mabs_long hx hb (hml.trans hl.1.symm) hown (hts (.methodLink RX1 12 Lib.MathLoose.abs_long.x) (List.mem_of_getElem? (i := 9) rfl)) (hts (.static Lib.MathLoose.abs_long.x) (List.mem_of_getElem? (i := 10) rfl)) (hts (.initialized "java/lang/Math") (List.mem_of_getElem? (i := 11) rfl)) (hts (.code Lib.MathLoose.abs_long.x Lib.MathLoose.abs_long.code 2 (some .long)) (List.mem_of_getElem? (i := 12) rfl)) (Nat.le_of_ble_eq_true rfl) (Nat.le_of_ble_eq_true rfl) (Nat.le_of_ble_eq_true rfl) (Nat.le_of_ble_eq_true rfl) dX1_product_72 ?_
          refine lv_iload_n hx hb dX1_product_75 rfl (lv_at hl 1 rfl) ?_
          refine wcalli (S := Unit) (va_runS (As := [.int a0]) (rest := [.long (if 0 < ((zf_X1_signed a0) * (zf_X1_signed a1)) then ((zf_X1_signed a0) * (zf_X1_signed a1)) else -((zf_X1_signed a0) * (zf_X1_signed a1))), .int e5]) ⟨hx, hb, hml, hown, hts⟩ (c_X1_scale l dC dI cI cT cS H.size ws  a0 _ rfl) (va_cwS 1 hts (gWS (List.mem_of_getElem? (i := 13) rfl) (List.mem_of_getElem? (i := 14) rfl) (List.mem_of_getElem? (i := 3) rfl) ic_X1_product_c_X1_scale gd_c_X1_scale) rfl rfl rfl (by decide +kernel) ⟨(Nat.le_of_ble_eq_true rfl), (Nat.le_of_ble_eq_true rfl)⟩) (gpS hP hK hD) rfl rfl hl.1 rfl (lv_room (Nat.le_of_ble_eq_true rfl)) dX1_product_76 ⟨(Nat.le_of_ble_eq_true rfl), (Nat.le_of_ble_eq_true rfl)⟩) hP hD hS hA (fun rr12 _ H locs hr12 hP hD hS => ?_)
          refine lv_nm (y := (zf_X1_scale a0)) hr12 ?_
          refine lv_iload_n hx hb dX1_product_79 rfl (lv_at hl 2 rfl) ?_
          refine wcalli (S := Unit) (va_runS (As := [.int a1]) (rest := [.int (zf_X1_scale a0), .long (if 0 < ((zf_X1_signed a0) * (zf_X1_signed a1)) then ((zf_X1_signed a0) * (zf_X1_signed a1)) else -((zf_X1_signed a0) * (zf_X1_signed a1))), .int e5]) ⟨hx, hb, hml, hown, hts⟩ (c_X1_scale l dC dI cI cT cS H.size ws  a1 _ rfl) (va_cwS 1 hts (gWS (List.mem_of_getElem? (i := 13) rfl) (List.mem_of_getElem? (i := 14) rfl) (List.mem_of_getElem? (i := 3) rfl) ic_X1_product_c_X1_scale gd_c_X1_scale) rfl rfl rfl (by decide +kernel) ⟨(Nat.le_of_ble_eq_true rfl), (Nat.le_of_ble_eq_true rfl)⟩) (gpS hP hK hD) rfl rfl hl.1 rfl (lv_room (Nat.le_of_ble_eq_true rfl)) dX1_product_80 ⟨(Nat.le_of_ble_eq_true rfl), (Nat.le_of_ble_eq_true rfl)⟩) hP hD hS hA (fun rr13 _ H locs hr13 hP hD hS => ?_)
          refine lv_nm (y := (zf_X1_scale a1)) hr13 ?_
          refine lv_iadd hx hb dX1_product_83 ?_
          refine wcalli (S := Unit) (va_runS (As := [.int e5, .long (if 0 < ((zf_X1_signed a0) * (zf_X1_signed a1)) then ((zf_X1_signed a0) * (zf_X1_signed a1)) else -((zf_X1_signed a0) * (zf_X1_signed a1))), .int ((zf_X1_scale a0) + (zf_X1_scale a1))]) (rest := []) ⟨hx, hb, hml, hown, hts⟩ (c_X1_nearest l dC dI cI cT cS H.size ws  e5 (if 0 < ((zf_X1_signed a0) * (zf_X1_signed a1)) then ((zf_X1_signed a0) * (zf_X1_signed a1)) else -((zf_X1_signed a0) * (zf_X1_signed a1))) ((zf_X1_scale a0) + (zf_X1_scale a1)) _ rfl) (va_cwS 3 hts (gWS (List.mem_of_getElem? (i := 15) rfl) (List.mem_of_getElem? (i := 16) rfl) (List.mem_of_getElem? (i := 3) rfl) ic_X1_product_c_X1_nearest gd_c_X1_nearest) rfl rfl rfl (by decide +kernel) ⟨(Nat.le_of_ble_eq_true rfl), (Nat.le_of_ble_eq_true rfl)⟩) (gpS hP hK hD) rfl rfl hl.1 rfl (lv_room (Nat.le_of_ble_eq_true rfl)) dX1_product_84 ⟨(Nat.le_of_ble_eq_true rfl), (Nat.le_of_ble_eq_true rfl)⟩) hP hD hS hA (fun rr14 _ H locs hr14 hP hD hS => ?_)
          refine lv_nm (y := (zf_X1_nearest e5 (if 0 < ((zf_X1_signed a0) * (zf_X1_signed a1)) then ((zf_X1_signed a0) * (zf_X1_signed a1)) else -((zf_X1_signed a0) * (zf_X1_signed a1))) ((zf_X1_scale a0) + (zf_X1_scale a1)))) hr14 ?_
          have h9 := h
          exact wreti hx hb hr hlocks hP hD hS (by show _ = _; rw [← h9]; first | done | rfl) rfl dX1_product_87
        · replace h := ifp (b2i_1 c9) h
          exact J38 e5 H locs ls h hP hD hS (lv_sub (l' := [(2, .int e5), (0, .int a0), (1, .int a1)]) hl [0, 1, 2] rfl)
    · replace h := ifp (b2i_1 c4) h
      exact J14  H locs ls h hP hD hS (lv_sub (l' := []) hl [] rfl)
def zf_J13_signum_95d88 (a0 : Int64) : Int32 := (((a0 >>> ((63 : Int32).toInt64 &&& 63)) ||| (((-a0).toUInt64 >>> ((63 : Int32).toInt64.toUInt64 &&& Int64.toUInt64 63)).toInt64)).toInt32)
def oc_J13_signum_95d88 : List Cond := []
def vc_J13_signum_95d88 : List Cond := .code yJ13_signum_95d88 cJ13_signum_95d88 2 (some .int) :: (oc_J13_signum_95d88)
theorem gd_c_J13_signum_95d88 : (vc_J13_signum_95d88).all goodWord = true := gall_cons rfl (by decide +kernel)
set_option maxHeartbeats 4000000 in
set_option maxRecDepth 100000 in
theorem c_J13_signum_95d88 (l : Launch) (dC : Nat → ClassId) (dI : Nat → Nat → Nat) (cI cT cS : ClassId) (sz : Nat) (ws : va_W) (a0 : Int64) (o : Int32) (h : zf_J13_signum_95d88 a0 = o) : gCI (S := Unit) l yJ13_signum_95d88 vc_J13_signum_95d88 { frames := 0, cells := 0, slots := 0, locals := 0 } (dC, dI) (gTY cI cT cS) sz [.long a0] ws (fun (r : Int32) (_ : Unit) => r = o) (fun (_ : Unit) => ws) 0 0 := by
  refine Met.ofW (cc := cJ13_signum_95d88) (maxL := 2) (ret := (some .int)) (by decide) rfl ?_
  intro p e s m args below meth c s₁ B hml hv
  obtain ⟨rfl, hsz, hP, hK, hD0⟩ := hv
  have hx := B.exec
  have hb := B.bytes
  have hr := B.returns
  have hts := atoms_spec (ws := vc_J13_signum_95d88) B.pre
  have hown : s.vm.findClass RJ13 = some m.cls := findClass_of_methodNamed B.named
  have hlocks := B.notSynchronized
  subst hsz
  have hD := hD0.self (sz := s.heap.size)
  generalize hAe : va_A ws s.heap.size = A at hD ⊢
  have hA : ∀ q : Nat, s.heap.size ≤ q → A q := fun q h => by rw [← hAe]; exact Or.inr h
  clear hAe hD0
  refine gstart (fun H locs hHe hLe => ?_)
  have hS : va_S A s.heap H locs := by rw [← hHe, ← hLe]; exact va_S.rf
  replace hP : va_P (dC, dI) vwCl ws H := by rw [← hHe]; exact hP
  clear hHe hLe
  have hl := lv_entry ([.long a0]) (n := 2) (Nat.le_of_ble_eq_true rfl)
  rw [lg_entry_eq]
  generalize (lg_sl ([.long a0]) ++ List.replicate (2 - (lg_sl ([.long a0])).length) Slot.unset).toArray = ls at hl ⊢
  replace hl : lv_has ls 2 [(0, .long a0)] := hl
  unfold zf_J13_signum_95d88 at h
  refine lv_lload_n hx hb dJ13_signum_95d88_0 rfl (lv_at hl 0 rfl) ?_
  refine lv_bipush (v := 63) hx hb dJ13_signum_95d88_1 (by decide) ?_
  refine lv_lshr hx hb dJ13_signum_95d88_3 rfl ?_
  refine lv_lload_n hx hb dJ13_signum_95d88_4 rfl (lv_at hl 0 rfl) ?_
  refine lv_lneg hx hb dJ13_signum_95d88_5 ?_
  refine lv_bipush (v := 63) hx hb dJ13_signum_95d88_6 (by decide) ?_
  refine lv_lushr hx hb dJ13_signum_95d88_8 rfl ?_
  refine lv_lor hx hb dJ13_signum_95d88_9 ?_
  refine lv_l2i hx hb dJ13_signum_95d88_10 rfl ?_
  have h9 := h
  exact wreti hx hb hr hlocks hP hD hS (by show _ = _; rw [← h9]; first | done | rfl) rfl dJ13_signum_95d88_11
def zb_X1_sum_178 (v9_178 : Int64) (v6_178 : Int32) (v3_178 : Int32) (w0_178 : Int32) : Int32 := (zf_X1_nearest w0_178 (if 0 < v9_178 then v9_178 else -v9_178) ((zf_X1_scale v3_178) - v6_178))
def zb_X1_sum_135 (a0 : Int32) (a1 : Int32) (v6_135 : Int32) (v3_135 : Int32) (w0_135 : Int64) : Int32 := letb (((zf_X1_signed v3_135) <<< (v6_135.toInt64 &&& 63)) + w0_135) (fun e26 => (if e26 = (0 : Int64) then (zb_X1_sum_178 e26 v6_135 v3_135 ((a0 &&& a1) &&& (-2147483648 : Int32))) else (if (0 : Int64) ≤ e26 then (zb_X1_sum_178 e26 v6_135 v3_135 (0 : Int32)) else (zb_X1_sum_178 e26 v6_135 v3_135 (-2147483648 : Int32)))))
def zb_X1_sum_88 (a0 : Int32) (a1 : Int32) (v3_88 : Int32) (w0_88 : Int32) : Int32 := letb ((zf_X1_scale v3_88) - (zf_X1_scale w0_88)) (fun e19 => letb (if (38 : Int32) < e19 then (38 : Int32) else e19) (fun e20 => (if e19 ≤ (38 : Int32) then (zb_X1_sum_135 a0 a1 e20 v3_88 (zf_X1_signed w0_88)) else (zb_X1_sum_135 a0 a1 e20 v3_88 ((zf_J13_signum_95d88 (zf_X1_signed w0_88)).toInt64)))))
def zb_X1_sum_42 (w0_42 : Int32) : Int32 := w0_42
def zb_X1_sum_78 (a0 : Int32) (a1 : Int32) (v2_78 : Bool) (w0_78 : Int32) : Int32 := (if v2_78 = true then (zb_X1_sum_88 a0 a1 w0_78 a1) else (zb_X1_sum_88 a0 a1 w0_78 a0))
def zb_X1_sum_14  : Int32 := (2143289344 : Int32)
def zb_X1_sum_41 (a0 : Int32) : Int32 := (zb_X1_sum_42 a0)
def zb_X1_sum_68 (a0 : Int32) (a1 : Int32) (w0_68 : Bool) : Int32 := (if w0_68 = true then (zb_X1_sum_78 a0 a1 w0_68 a0) else (zb_X1_sum_78 a0 a1 w0_68 a1))
def zf_X1_sum (a0 : Int32) (a1 : Int32) : Int32 := (if (zf_X1_isNan a0) = true then zb_X1_sum_14 else (if (zf_X1_isNan a1) = true then zb_X1_sum_14 else (if (zf_X1_isInfinite a0) = true then (if (zf_X1_isInfinite a1) = true then (if a0 = a1 then (zb_X1_sum_41 a0) else (zb_X1_sum_42 (2143289344 : Int32))) else (zb_X1_sum_41 a0)) else (if (zf_X1_isInfinite a1) = true then a1 else (if (zf_X1_scale a0) < (zf_X1_scale a1) then (zb_X1_sum_68 a0 a1 false) else (zb_X1_sum_68 a0 a1 true))))))
def oc_X1_sum : List Cond := [.methodLink RX1 22 yX1_isNan, .static yX1_isNan, .initialized RX1, .methodLink RX1 27 yX1_isInfinite, .static yX1_isInfinite, .methodLink RX1 30 yX1_scale, .static yX1_scale, .constant RX1 26 (2143289344), .methodLink RX1 34 Lib.Math.min.name, .static Lib.Math.min.name, .initialized "java/lang/Math", .code Lib.Math.min.name Lib.Math.min.code 2 (some .int), .methodLink RX1 38 yX1_signed, .static yX1_signed, .methodLink RX1 42 yJ13_signum_95d88, .static yJ13_signum_95d88, .initialized RJ13, .constant RX1 11 (-2147483648), .methodLink RX1 12 Lib.MathLoose.abs_long.x, .static Lib.MathLoose.abs_long.x, .code Lib.MathLoose.abs_long.x Lib.MathLoose.abs_long.code 2 (some .long), .methodLink RX1 18 yX1_nearest, .static yX1_nearest]
def vc_X1_sum : List Cond := .code yX1_sum cX1_sum 12 (some .int) :: (oc_X1_sum ++ (vc_X1_isNan ++ (vc_X1_isInfinite ++ (vc_X1_scale ++ (vc_X1_signed ++ (vc_J13_signum_95d88 ++ (vc_X1_nearest)))))))
theorem ic_X1_sum_c_X1_isNan : ∀ w ∈ vc_X1_isNan, w ∈ vc_X1_sum := fun _ h => List.mem_cons_of_mem _ (List.mem_append_right _ (List.mem_append_left _ h))
theorem ic_X1_sum_c_X1_isInfinite : ∀ w ∈ vc_X1_isInfinite, w ∈ vc_X1_sum := fun _ h => List.mem_cons_of_mem _ (List.mem_append_right _ (List.mem_append_right _ (List.mem_append_left _ h)))
theorem ic_X1_sum_c_X1_scale : ∀ w ∈ vc_X1_scale, w ∈ vc_X1_sum := fun _ h => List.mem_cons_of_mem _ (List.mem_append_right _ (List.mem_append_right _ (List.mem_append_right _ (List.mem_append_left _ h))))
theorem ic_X1_sum_c_X1_signed : ∀ w ∈ vc_X1_signed, w ∈ vc_X1_sum := fun _ h => List.mem_cons_of_mem _ (List.mem_append_right _ (List.mem_append_right _ (List.mem_append_right _ (List.mem_append_right _ (List.mem_append_left _ h)))))
theorem ic_X1_sum_c_J13_signum_95d88 : ∀ w ∈ vc_J13_signum_95d88, w ∈ vc_X1_sum := fun _ h => List.mem_cons_of_mem _ (List.mem_append_right _ (List.mem_append_right _ (List.mem_append_right _ (List.mem_append_right _ (List.mem_append_right _ (List.mem_append_left _ h))))))
theorem ic_X1_sum_c_X1_nearest : ∀ w ∈ vc_X1_nearest, w ∈ vc_X1_sum := fun _ h => List.mem_cons_of_mem _ (List.mem_append_right _ (List.mem_append_right _ (List.mem_append_right _ (List.mem_append_right _ (List.mem_append_right _ (List.mem_append_right _ (h)))))))
theorem gd_c_X1_sum : (vc_X1_sum).all goodWord = true := gall_cons rfl (gall_app (by decide +kernel) (gall_app gd_c_X1_isNan (gall_app gd_c_X1_isInfinite (gall_app gd_c_X1_scale (gall_app gd_c_X1_signed (gall_app gd_c_J13_signum_95d88 gd_c_X1_nearest))))))
set_option maxHeartbeats 4000000 in
set_option maxRecDepth 100000 in
theorem c_X1_sum (l : Launch) (dC : Nat → ClassId) (dI : Nat → Nat → Nat) (cI cT cS : ClassId) (sz : Nat) (ws : va_W) (a0 : Int32) (a1 : Int32) (o : Int32) (h : zf_X1_sum a0 a1 = o) : gCI (S := Unit) l yX1_sum vc_X1_sum { frames := 3, cells := 0, slots := 0, locals := 75 } (dC, dI) (gTY cI cT cS) sz [.int a0, .int a1] ws (fun (r : Int32) (_ : Unit) => r = o) (fun (_ : Unit) => ws) 0 0 := by
  refine Met.ofW (cc := cX1_sum) (maxL := 12) (ret := (some .int)) (by decide) rfl ?_
  intro p e s m args below meth c s₁ B hml hv
  obtain ⟨rfl, hsz, hP, hK, hD0⟩ := hv
  have hx := B.exec
  have hb := B.bytes
  have hr := B.returns
  have hts := atoms_spec (ws := vc_X1_sum) B.pre
  have hown : s.vm.findClass RX1 = some m.cls := findClass_of_methodNamed B.named
  have hlocks := B.notSynchronized
  subst hsz
  have hD := hD0.self (sz := s.heap.size)
  generalize hAe : va_A ws s.heap.size = A at hD ⊢
  have hA : ∀ q : Nat, s.heap.size ≤ q → A q := fun q h => by rw [← hAe]; exact Or.inr h
  clear hAe hD0
  refine gstart (fun H locs hHe hLe => ?_)
  have hS : va_S A s.heap H locs := by rw [← hHe, ← hLe]; exact va_S.rf
  replace hP : va_P (dC, dI) vwCl ws H := by rw [← hHe]; exact hP
  clear hHe hLe
  have hl := lv_entry ([.int a0, .int a1]) (n := 12) (Nat.le_of_ble_eq_true rfl)
  rw [lg_entry_eq]
  generalize (lg_sl ([.int a0, .int a1]) ++ List.replicate (12 - (lg_sl ([.int a0, .int a1])).length) Slot.unset).toArray = ls at hl ⊢
  replace hl : lv_has ls 12 [(0, .int a0), (1, .int a1)] := hl
  unfold zf_X1_sum at h
  have J178 : ∀ (v9_178 : Int64) (v6_178 : Int32) (v3_178 : Int32) (w0_178 : Int32) (H : Heap) (locs : List Loc) (ls : Array Slot), zb_X1_sum_178 v9_178 v6_178 v3_178 w0_178 = o → va_P (dC, dI) vwCl ws H → va_D A ws → va_S A s.heap H locs → lv_has ls 12 [(9, .long v9_178), (6, .int v6_178), (3, .int v3_178)] → W p l e (headSpec vc_X1_sum { frames := 3, cells := 0, slots := 0, locals := 75 }).room s m (List.toArray (α := Value) [.int a0, .int a1]) below meth c H locs 0 0 (MQ below (va_Qi (fun (r : Int32) (_ : Unit) => r = o) (gB (dC, dI) A (fun (_ : Unit) => ws)) A) (List.toArray (α := Value) [.int a0, .int a1]) s 0 0 A) (F0 m 178 ls [.int w0_178]) := by
    intro v9_178 v6_178 v3_178 w0_178 H locs ls h hP hD hS hl
    unfold zb_X1_sum_178 at h
    refine lv_istore (lv' := [(11, .int w0_178), (9, .long v9_178), (6, .int v6_178), (3, .int v3_178)]) hx hb dX1_sum_178 hl (by decide) rfl (fun ls hl => ?_)
    refine lv_iload hx hb dX1_sum_180 (lv_at hl 0 rfl) ?_
    refine lv_lload hx hb dX1_sum_182 (lv_at hl 1 rfl) ?_
    refine va_mabs_long hx hb (hml.trans hl.1.symm) hown (hts (.methodLink RX1 12 Lib.MathLoose.abs_long.x) (List.mem_of_getElem? (i := 19) rfl)) (hts (.static Lib.MathLoose.abs_long.x) (List.mem_of_getElem? (i := 20) rfl)) (hts (.initialized "java/lang/Math") (List.mem_of_getElem? (i := 11) rfl)) (hts (.code Lib.MathLoose.abs_long.x Lib.MathLoose.abs_long.code 2 (some .long)) (List.mem_of_getElem? (i := 21) rfl)) (Nat.le_of_ble_eq_true rfl) (Nat.le_of_ble_eq_true rfl) (Nat.le_of_ble_eq_true rfl) (Nat.le_of_ble_eq_true rfl) dX1_sum_184 ?_
    refine lv_iload_n hx hb dX1_sum_187 rfl (lv_at hl 3 rfl) ?_
    refine wcalli (S := Unit) (va_runS (As := [.int v3_178]) (rest := [.long (if 0 < v9_178 then v9_178 else -v9_178), .int w0_178]) ⟨hx, hb, hml, hown, hts⟩ (c_X1_scale l dC dI cI cT cS H.size ws  v3_178 _ rfl) (va_cwS 1 hts (gWS (List.mem_of_getElem? (i := 6) rfl) (List.mem_of_getElem? (i := 7) rfl) (List.mem_of_getElem? (i := 3) rfl) ic_X1_sum_c_X1_scale gd_c_X1_scale) rfl rfl rfl (by decide +kernel) ⟨(Nat.le_of_ble_eq_true rfl), (Nat.le_of_ble_eq_true rfl)⟩) (gpS hP hK hD) rfl rfl hl.1 rfl (lv_room (Nat.le_of_ble_eq_true rfl)) dX1_sum_188 ⟨(Nat.le_of_ble_eq_true rfl), (Nat.le_of_ble_eq_true rfl)⟩) hP hD hS hA (fun rr29 _ H locs hr29 hP hD hS => ?_)
    refine lv_nm (y := (zf_X1_scale v3_178)) hr29 ?_
    refine lv_iload hx hb dX1_sum_191 (lv_at hl 2 rfl) ?_
    refine lv_isub hx hb dX1_sum_193 ?_
    refine wcalli (S := Unit) (va_runS (As := [.int w0_178, .long (if 0 < v9_178 then v9_178 else -v9_178), .int ((zf_X1_scale v3_178) - v6_178)]) (rest := []) ⟨hx, hb, hml, hown, hts⟩ (c_X1_nearest l dC dI cI cT cS H.size ws  w0_178 (if 0 < v9_178 then v9_178 else -v9_178) ((zf_X1_scale v3_178) - v6_178) _ rfl) (va_cwS 3 hts (gWS (List.mem_of_getElem? (i := 22) rfl) (List.mem_of_getElem? (i := 23) rfl) (List.mem_of_getElem? (i := 3) rfl) ic_X1_sum_c_X1_nearest gd_c_X1_nearest) rfl rfl rfl (by decide +kernel) ⟨(Nat.le_of_ble_eq_true rfl), (Nat.le_of_ble_eq_true rfl)⟩) (gpS hP hK hD) rfl rfl hl.1 rfl (lv_room (Nat.le_of_ble_eq_true rfl)) dX1_sum_194 ⟨(Nat.le_of_ble_eq_true rfl), (Nat.le_of_ble_eq_true rfl)⟩) hP hD hS hA (fun rr30 _ H locs hr30 hP hD hS => ?_)
    refine lv_nm (y := (zf_X1_nearest w0_178 (if 0 < v9_178 then v9_178 else -v9_178) ((zf_X1_scale v3_178) - v6_178))) hr30 ?_
    have h9 := h
    exact wreti hx hb hr hlocks hP hD hS (by show _ = _; rw [← h9]; first | done | rfl) rfl dX1_sum_197
  have J135 : ∀ (v6_135 : Int32) (v3_135 : Int32) (w0_135 : Int64) (H : Heap) (locs : List Loc) (ls : Array Slot), zb_X1_sum_135 a0 a1 v6_135 v3_135 w0_135 = o → va_P (dC, dI) vwCl ws H → va_D A ws → va_S A s.heap H locs → lv_has ls 12 [(6, .int v6_135), (3, .int v3_135), (0, .int a0), (1, .int a1)] → W p l e (headSpec vc_X1_sum { frames := 3, cells := 0, slots := 0, locals := 75 }).room s m (List.toArray (α := Value) [.int a0, .int a1]) below meth c H locs 0 0 (MQ below (va_Qi (fun (r : Int32) (_ : Unit) => r = o) (gB (dC, dI) A (fun (_ : Unit) => ws)) A) (List.toArray (α := Value) [.int a0, .int a1]) s 0 0 A) (F0 m 135 ls [.long w0_135]) := by
    intro v6_135 v3_135 w0_135 H locs ls h hP hD hS hl
    unfold zb_X1_sum_135 at h
    refine lv_lstore (lv' := [(7, .long w0_135), (6, .int v6_135), (3, .int v3_135), (0, .int a0), (1, .int a1)]) hx hb dX1_sum_135 hl (by decide) rfl (fun ls hl => ?_)
    refine lv_iload_n hx hb dX1_sum_137 rfl (lv_at hl 2 rfl) ?_
    refine wcalll (S := Unit) (va_runS (As := [.int v3_135]) (rest := []) ⟨hx, hb, hml, hown, hts⟩ (c_X1_signed l dC dI cI cT cS H.size ws  v3_135 _ rfl) (va_cwS 1 hts (gWS (List.mem_of_getElem? (i := 13) rfl) (List.mem_of_getElem? (i := 14) rfl) (List.mem_of_getElem? (i := 3) rfl) ic_X1_sum_c_X1_signed gd_c_X1_signed) rfl rfl rfl (by decide +kernel) ⟨(Nat.le_of_ble_eq_true rfl), (Nat.le_of_ble_eq_true rfl)⟩) (gpS hP hK hD) rfl rfl hl.1 rfl (lv_room (Nat.le_of_ble_eq_true rfl)) dX1_sum_138 ⟨(Nat.le_of_ble_eq_true rfl), (Nat.le_of_ble_eq_true rfl)⟩) hP hD hS hA (fun rr25 _ H locs hr25 hP hD hS => ?_)
    refine lv_nml (y := (zf_X1_signed v3_135)) hr25 ?_
    refine lv_iload hx hb dX1_sum_141 (lv_at hl 1 rfl) ?_
    refine lv_lshl hx hb dX1_sum_143 rfl ?_
    refine lv_lload hx hb dX1_sum_144 (lv_at hl 0 rfl) ?_
    refine lv_ladd hx hb dX1_sum_146 ?_
    obtain ⟨e26, he26, h⟩ := letb_inv h
    refine lv_nml he26 ?_
    refine lv_lstore (lv' := [(9, .long e26), (7, .long w0_135), (6, .int v6_135), (3, .int v3_135), (0, .int a0), (1, .int a1)]) hx hb dX1_sum_147 hl (by decide) rfl (fun ls hl => ?_)
    refine lv_lload hx hb dX1_sum_149 (lv_at hl 0 rfl) ?_
    refine lv_lconst (v := 0) hx hb dX1_sum_151 (by decide) ?_
    refine W.lcmp hx hb dX1_sum_152 ?_
    refine lv_if_ne (tgt := 165) hx hb dX1_sum_153 (by decide) (fun c27 => ?_) (fun c27 => ?_)
    · replace h := ifn (fun q => c27 (g_c_eq.mpr q)) h
      refine lv_lload hx hb dX1_sum_165 (lv_at hl 0 rfl) ?_
      refine lv_lconst (v := 0) hx hb dX1_sum_167 (by decide) ?_
      refine W.lcmp hx hb dX1_sum_168 ?_
      refine lv_if_ge (tgt := 177) hx hb dX1_sum_169 (by decide) (fun c28 => ?_) (fun c28 => ?_)
      · replace h := ifp (g_c_ge.mp c28) h
        refine lv_iconst (v := 0) hx hb dX1_sum_177 (by decide) ?_
        exact J178 e26 v6_135 v3_135 (0 : Int32) H locs ls h hP hD hS (lv_sub (l' := [(9, .long e26), (6, .int v6_135), (3, .int v3_135)]) hl [0, 2, 3] rfl)
      · replace h := ifn (fun q => c28 (g_c_ge.mpr q)) h
        refine lv_ldc (v := (-2147483648)) hx hb hown (hts (.constant RX1 11 (-2147483648)) (List.mem_of_getElem? (i := 18) rfl)) dX1_sum_172 ?_
        refine lv_goto (tgt := 178) hx hb dX1_sum_174 (by decide) ?_
        exact J178 e26 v6_135 v3_135 (-2147483648 : Int32) H locs ls h hP hD hS (lv_sub (l' := [(9, .long e26), (6, .int v6_135), (3, .int v3_135)]) hl [0, 2, 3] rfl)
    · replace h := ifp (g_c_eq.mp c27) h
      refine lv_iload_n hx hb dX1_sum_156 rfl (lv_at hl 4 rfl) ?_
      refine lv_iload_n hx hb dX1_sum_157 rfl (lv_at hl 5 rfl) ?_
      refine lv_iand hx hb dX1_sum_158 ?_
      refine lv_ldc (v := (-2147483648)) hx hb hown (hts (.constant RX1 11 (-2147483648)) (List.mem_of_getElem? (i := 18) rfl)) dX1_sum_159 ?_
      refine lv_iand hx hb dX1_sum_161 ?_
      refine lv_goto (tgt := 178) hx hb dX1_sum_162 (by decide) ?_
      exact J178 e26 v6_135 v3_135 ((a0 &&& a1) &&& (-2147483648 : Int32)) H locs ls h hP hD hS (lv_sub (l' := [(9, .long e26), (6, .int v6_135), (3, .int v3_135)]) hl [0, 2, 3] rfl)
  have J88 : ∀ (v3_88 : Int32) (w0_88 : Int32) (H : Heap) (locs : List Loc) (ls : Array Slot), zb_X1_sum_88 a0 a1 v3_88 w0_88 = o → va_P (dC, dI) vwCl ws H → va_D A ws → va_S A s.heap H locs → lv_has ls 12 [(3, .int v3_88), (0, .int a0), (1, .int a1)] → W p l e (headSpec vc_X1_sum { frames := 3, cells := 0, slots := 0, locals := 75 }).room s m (List.toArray (α := Value) [.int a0, .int a1]) below meth c H locs 0 0 (MQ below (va_Qi (fun (r : Int32) (_ : Unit) => r = o) (gB (dC, dI) A (fun (_ : Unit) => ws)) A) (List.toArray (α := Value) [.int a0, .int a1]) s 0 0 A) (F0 m 88 ls [.int w0_88]) := by
    intro v3_88 w0_88 H locs ls h hP hD hS hl
    unfold zb_X1_sum_88 at h
    refine lv_istore (lv' := [(4, .int w0_88), (3, .int v3_88), (0, .int a0), (1, .int a1)]) hx hb dX1_sum_88 hl (by decide) rfl (fun ls hl => ?_)
    refine lv_iload_n hx hb dX1_sum_90 rfl (lv_at hl 1 rfl) ?_
    refine wcalli (S := Unit) (va_runS (As := [.int v3_88]) (rest := []) ⟨hx, hb, hml, hown, hts⟩ (c_X1_scale l dC dI cI cT cS H.size ws  v3_88 _ rfl) (va_cwS 1 hts (gWS (List.mem_of_getElem? (i := 6) rfl) (List.mem_of_getElem? (i := 7) rfl) (List.mem_of_getElem? (i := 3) rfl) ic_X1_sum_c_X1_scale gd_c_X1_scale) rfl rfl rfl (by decide +kernel) ⟨(Nat.le_of_ble_eq_true rfl), (Nat.le_of_ble_eq_true rfl)⟩) (gpS hP hK hD) rfl rfl hl.1 rfl (lv_room (Nat.le_of_ble_eq_true rfl)) dX1_sum_91 ⟨(Nat.le_of_ble_eq_true rfl), (Nat.le_of_ble_eq_true rfl)⟩) hP hD hS hA (fun rr17 _ H locs hr17 hP hD hS => ?_)
    refine lv_nm (y := (zf_X1_scale v3_88)) hr17 ?_
    refine lv_iload hx hb dX1_sum_94 (lv_at hl 0 rfl) ?_
    refine wcalli (S := Unit) (va_runS (As := [.int w0_88]) (rest := [.int (zf_X1_scale v3_88)]) ⟨hx, hb, hml, hown, hts⟩ (c_X1_scale l dC dI cI cT cS H.size ws  w0_88 _ rfl) (va_cwS 1 hts (gWS (List.mem_of_getElem? (i := 6) rfl) (List.mem_of_getElem? (i := 7) rfl) (List.mem_of_getElem? (i := 3) rfl) ic_X1_sum_c_X1_scale gd_c_X1_scale) rfl rfl rfl (by decide +kernel) ⟨(Nat.le_of_ble_eq_true rfl), (Nat.le_of_ble_eq_true rfl)⟩) (gpS hP hK hD) rfl rfl hl.1 rfl (lv_room (Nat.le_of_ble_eq_true rfl)) dX1_sum_96 ⟨(Nat.le_of_ble_eq_true rfl), (Nat.le_of_ble_eq_true rfl)⟩) hP hD hS hA (fun rr18 _ H locs hr18 hP hD hS => ?_)
    refine lv_nm (y := (zf_X1_scale w0_88)) hr18 ?_
    refine lv_isub hx hb dX1_sum_99 ?_
    obtain ⟨e19, he19, h⟩ := letb_inv h
    refine lv_nm he19 ?_
    refine lv_istore (lv' := [(5, .int e19), (4, .int w0_88), (3, .int v3_88), (0, .int a0), (1, .int a1)]) hx hb dX1_sum_100 hl (by decide) rfl (fun ls hl => ?_)
    refine lv_iload hx hb dX1_sum_102 (lv_at hl 0 rfl) ?_
    refine lv_bipush (v := 38) hx hb dX1_sum_104 (by decide) ?_
    refine va_mmin hx hb (hml.trans hl.1.symm) hown (hts (.methodLink RX1 34 Lib.Math.min.name) (List.mem_of_getElem? (i := 9) rfl)) (hts (.static Lib.Math.min.name) (List.mem_of_getElem? (i := 10) rfl)) (hts (.initialized "java/lang/Math") (List.mem_of_getElem? (i := 11) rfl)) (hts (.code Lib.Math.min.name Lib.Math.min.code 2 (some .int)) (List.mem_of_getElem? (i := 12) rfl)) (Nat.le_of_ble_eq_true rfl) (Nat.le_of_ble_eq_true rfl) (Nat.le_of_ble_eq_true rfl) (Nat.le_of_ble_eq_true rfl) dX1_sum_106 ?_
    obtain ⟨e20, he20, h⟩ := letb_inv h
    refine lv_nm he20 ?_
    refine lv_istore (lv' := [(6, .int e20), (5, .int e19), (4, .int w0_88), (3, .int v3_88), (0, .int a0), (1, .int a1)]) hx hb dX1_sum_109 hl (by decide) rfl (fun ls hl => ?_)
    refine lv_iload hx hb dX1_sum_111 (lv_at hl 1 rfl) ?_
    refine lv_bipush (v := 38) hx hb dX1_sum_113 (by decide) ?_
    refine lv_icmp_le (tgt := 130) hx hb dX1_sum_115 (by decide) (fun c21 => ?_) (fun c21 => ?_)
    · replace h := ifp (c21) h
      refine lv_iload hx hb dX1_sum_130 (lv_at hl 2 rfl) ?_
      refine wcalll (S := Unit) (va_runS (As := [.int w0_88]) (rest := []) ⟨hx, hb, hml, hown, hts⟩ (c_X1_signed l dC dI cI cT cS H.size ws  w0_88 _ rfl) (va_cwS 1 hts (gWS (List.mem_of_getElem? (i := 13) rfl) (List.mem_of_getElem? (i := 14) rfl) (List.mem_of_getElem? (i := 3) rfl) ic_X1_sum_c_X1_signed gd_c_X1_signed) rfl rfl rfl (by decide +kernel) ⟨(Nat.le_of_ble_eq_true rfl), (Nat.le_of_ble_eq_true rfl)⟩) (gpS hP hK hD) rfl rfl hl.1 rfl (lv_room (Nat.le_of_ble_eq_true rfl)) dX1_sum_132 ⟨(Nat.le_of_ble_eq_true rfl), (Nat.le_of_ble_eq_true rfl)⟩) hP hD hS hA (fun rr22 _ H locs hr22 hP hD hS => ?_)
      refine lv_nml (y := (zf_X1_signed w0_88)) hr22 ?_
      exact J135 e20 v3_88 (zf_X1_signed w0_88) H locs ls h hP hD hS (lv_sub (l' := [(6, .int e20), (3, .int v3_88), (0, .int a0), (1, .int a1)]) hl [0, 3, 4, 5] rfl)
    · replace h := ifn (c21) h
      refine lv_iload hx hb dX1_sum_118 (lv_at hl 2 rfl) ?_
      refine wcalll (S := Unit) (va_runS (As := [.int w0_88]) (rest := []) ⟨hx, hb, hml, hown, hts⟩ (c_X1_signed l dC dI cI cT cS H.size ws  w0_88 _ rfl) (va_cwS 1 hts (gWS (List.mem_of_getElem? (i := 13) rfl) (List.mem_of_getElem? (i := 14) rfl) (List.mem_of_getElem? (i := 3) rfl) ic_X1_sum_c_X1_signed gd_c_X1_signed) rfl rfl rfl (by decide +kernel) ⟨(Nat.le_of_ble_eq_true rfl), (Nat.le_of_ble_eq_true rfl)⟩) (gpS hP hK hD) rfl rfl hl.1 rfl (lv_room (Nat.le_of_ble_eq_true rfl)) dX1_sum_120 ⟨(Nat.le_of_ble_eq_true rfl), (Nat.le_of_ble_eq_true rfl)⟩) hP hD hS hA (fun rr23 _ H locs hr23 hP hD hS => ?_)
      refine lv_nml (y := (zf_X1_signed w0_88)) hr23 ?_
      refine wcalli (S := Unit) (va_runS (As := [.long (zf_X1_signed w0_88)]) (rest := []) ⟨hx, hb, hml, hown, hts⟩ (c_J13_signum_95d88 l dC dI cI cT cS H.size ws  (zf_X1_signed w0_88) _ rfl) (va_cwS 1 hts (gWS (List.mem_of_getElem? (i := 15) rfl) (List.mem_of_getElem? (i := 16) rfl) (List.mem_of_getElem? (i := 17) rfl) ic_X1_sum_c_J13_signum_95d88 gd_c_J13_signum_95d88) rfl rfl rfl (by decide +kernel) ⟨(Nat.le_of_ble_eq_true rfl), (Nat.le_of_ble_eq_true rfl)⟩) (gpS hP hK hD) rfl rfl hl.1 rfl (lv_room (Nat.le_of_ble_eq_true rfl)) dX1_sum_123 ⟨(Nat.le_of_ble_eq_true rfl), (Nat.le_of_ble_eq_true rfl)⟩) hP hD hS hA (fun rr24 _ H locs hr24 hP hD hS => ?_)
      refine lv_nm (y := (zf_J13_signum_95d88 (zf_X1_signed w0_88))) hr24 ?_
      refine lv_i2l hx hb dX1_sum_126 rfl ?_
      refine lv_goto (tgt := 135) hx hb dX1_sum_127 (by decide) ?_
      exact J135 e20 v3_88 ((zf_J13_signum_95d88 (zf_X1_signed w0_88)).toInt64) H locs ls h hP hD hS (lv_sub (l' := [(6, .int e20), (3, .int v3_88), (0, .int a0), (1, .int a1)]) hl [0, 3, 4, 5] rfl)
  have J42 : ∀ (w0_42 : Int32) (H : Heap) (locs : List Loc) (ls : Array Slot), zb_X1_sum_42 w0_42 = o → va_P (dC, dI) vwCl ws H → va_D A ws → va_S A s.heap H locs → lv_has ls 12 [] → W p l e (headSpec vc_X1_sum { frames := 3, cells := 0, slots := 0, locals := 75 }).room s m (List.toArray (α := Value) [.int a0, .int a1]) below meth c H locs 0 0 (MQ below (va_Qi (fun (r : Int32) (_ : Unit) => r = o) (gB (dC, dI) A (fun (_ : Unit) => ws)) A) (List.toArray (α := Value) [.int a0, .int a1]) s 0 0 A) (F0 m 42 ls [.int w0_42]) := by
    intro w0_42 H locs ls h hP hD hS hl
    unfold zb_X1_sum_42 at h
    have h9 := h
    exact wreti hx hb hr hlocks hP hD hS (by show _ = _; rw [← h9]; first | done | rfl) rfl dX1_sum_42
  have J78 : ∀ (v2_78 : Bool) (w0_78 : Int32) (H : Heap) (locs : List Loc) (ls : Array Slot), zb_X1_sum_78 a0 a1 v2_78 w0_78 = o → va_P (dC, dI) vwCl ws H → va_D A ws → va_S A s.heap H locs → lv_has ls 12 [(2, .int (b2i v2_78)), (0, .int a0), (1, .int a1)] → W p l e (headSpec vc_X1_sum { frames := 3, cells := 0, slots := 0, locals := 75 }).room s m (List.toArray (α := Value) [.int a0, .int a1]) below meth c H locs 0 0 (MQ below (va_Qi (fun (r : Int32) (_ : Unit) => r = o) (gB (dC, dI) A (fun (_ : Unit) => ws)) A) (List.toArray (α := Value) [.int a0, .int a1]) s 0 0 A) (F0 m 78 ls [.int w0_78]) := by
    intro v2_78 w0_78 H locs ls h hP hD hS hl
    unfold zb_X1_sum_78 at h
    refine lv_istore_n (lv' := [(3, .int w0_78), (2, .int (b2i v2_78)), (0, .int a0), (1, .int a1)]) hx hb dX1_sum_78 rfl hl (by decide) rfl (fun ls hl => ?_)
    refine lv_iload_n hx hb dX1_sum_79 rfl (lv_at hl 1 rfl) ?_
    refine lv_if_eq (tgt := 87) hx hb dX1_sum_80 (by decide) (fun c16 => ?_) (fun c16 => ?_)
    · replace h := ifn (b2i_0 c16) h
      refine lv_iload_n hx hb dX1_sum_87 rfl (lv_at hl 2 rfl) ?_
      exact J88 w0_78 a0 H locs ls h hP hD hS (lv_sub (l' := [(3, .int w0_78), (0, .int a0), (1, .int a1)]) hl [0, 2, 3] rfl)
    · replace h := ifp (b2i_1 c16) h
      refine lv_iload_n hx hb dX1_sum_83 rfl (lv_at hl 3 rfl) ?_
      refine lv_goto (tgt := 88) hx hb dX1_sum_84 (by decide) ?_
      exact J88 w0_78 a1 H locs ls h hP hD hS (lv_sub (l' := [(3, .int w0_78), (0, .int a0), (1, .int a1)]) hl [0, 2, 3] rfl)
  have J14 : ∀  (H : Heap) (locs : List Loc) (ls : Array Slot), zb_X1_sum_14 = o → va_P (dC, dI) vwCl ws H → va_D A ws → va_S A s.heap H locs → lv_has ls 12 [] → W p l e (headSpec vc_X1_sum { frames := 3, cells := 0, slots := 0, locals := 75 }).room s m (List.toArray (α := Value) [.int a0, .int a1]) below meth c H locs 0 0 (MQ below (va_Qi (fun (r : Int32) (_ : Unit) => r = o) (gB (dC, dI) A (fun (_ : Unit) => ws)) A) (List.toArray (α := Value) [.int a0, .int a1]) s 0 0 A) (F0 m 14 ls []) := by
    intro  H locs ls h hP hD hS hl
    unfold zb_X1_sum_14 at h
    refine lv_ldc (v := 2143289344) hx hb hown (hts (.constant RX1 26 (2143289344)) (List.mem_of_getElem? (i := 8) rfl)) dX1_sum_14 ?_
    have h9 := h
    exact wreti hx hb hr hlocks hP hD hS (by show _ = _; rw [← h9]; first | done | rfl) rfl dX1_sum_16
  have J41 : ∀  (H : Heap) (locs : List Loc) (ls : Array Slot), zb_X1_sum_41 a0 = o → va_P (dC, dI) vwCl ws H → va_D A ws → va_S A s.heap H locs → lv_has ls 12 [(0, .int a0)] → W p l e (headSpec vc_X1_sum { frames := 3, cells := 0, slots := 0, locals := 75 }).room s m (List.toArray (α := Value) [.int a0, .int a1]) below meth c H locs 0 0 (MQ below (va_Qi (fun (r : Int32) (_ : Unit) => r = o) (gB (dC, dI) A (fun (_ : Unit) => ws)) A) (List.toArray (α := Value) [.int a0, .int a1]) s 0 0 A) (F0 m 41 ls []) := by
    intro  H locs ls h hP hD hS hl
    unfold zb_X1_sum_41 at h
    refine lv_iload_n hx hb dX1_sum_41 rfl (lv_at hl 0 rfl) ?_
    exact J42 a0 H locs ls h hP hD hS (lv_sub (l' := []) hl [] rfl)
  have J68 : ∀ (w0_68 : Bool) (H : Heap) (locs : List Loc) (ls : Array Slot), zb_X1_sum_68 a0 a1 w0_68 = o → va_P (dC, dI) vwCl ws H → va_D A ws → va_S A s.heap H locs → lv_has ls 12 [(0, .int a0), (1, .int a1)] → W p l e (headSpec vc_X1_sum { frames := 3, cells := 0, slots := 0, locals := 75 }).room s m (List.toArray (α := Value) [.int a0, .int a1]) below meth c H locs 0 0 (MQ below (va_Qi (fun (r : Int32) (_ : Unit) => r = o) (gB (dC, dI) A (fun (_ : Unit) => ws)) A) (List.toArray (α := Value) [.int a0, .int a1]) s 0 0 A) (F0 m 68 ls [.int (b2i w0_68)]) := by
    intro w0_68 H locs ls h hP hD hS hl
    unfold zb_X1_sum_68 at h
    refine lv_istore_n (lv' := [(2, .int (b2i w0_68)), (0, .int a0), (1, .int a1)]) hx hb dX1_sum_68 rfl hl (by decide) rfl (fun ls hl => ?_)
    refine lv_iload_n hx hb dX1_sum_69 rfl (lv_at hl 0 rfl) ?_
    refine lv_if_eq (tgt := 77) hx hb dX1_sum_70 (by decide) (fun c15 => ?_) (fun c15 => ?_)
    · replace h := ifn (b2i_0 c15) h
      refine lv_iload_n hx hb dX1_sum_77 rfl (lv_at hl 2 rfl) ?_
      exact J78 w0_68 a1 H locs ls h hP hD hS (lv_sub (l' := [(2, .int (b2i w0_68)), (0, .int a0), (1, .int a1)]) hl [0, 1, 2] rfl)
    · replace h := ifp (b2i_1 c15) h
      refine lv_iload_n hx hb dX1_sum_73 rfl (lv_at hl 1 rfl) ?_
      refine lv_goto (tgt := 78) hx hb dX1_sum_74 (by decide) ?_
      exact J78 w0_68 a0 H locs ls h hP hD hS (lv_sub (l' := [(2, .int (b2i w0_68)), (0, .int a0), (1, .int a1)]) hl [0, 1, 2] rfl)
  refine lv_iload_n hx hb dX1_sum_0 rfl (lv_at hl 0 rfl) ?_
  refine wcalli (S := Unit) (va_runS (As := [.int a0]) (rest := []) ⟨hx, hb, hml, hown, hts⟩ (c_X1_isNan l dC dI cI cT cS H.size ws  a0 _ rfl) (va_cwS 1 hts (gWS (List.mem_of_getElem? (i := 1) rfl) (List.mem_of_getElem? (i := 2) rfl) (List.mem_of_getElem? (i := 3) rfl) ic_X1_sum_c_X1_isNan gd_c_X1_isNan) rfl rfl rfl (by decide +kernel) ⟨(Nat.le_of_ble_eq_true rfl), (Nat.le_of_ble_eq_true rfl)⟩) (gpS hP hK hD) rfl rfl hl.1 rfl (lv_room (Nat.le_of_ble_eq_true rfl)) dX1_sum_1 ⟨(Nat.le_of_ble_eq_true rfl), (Nat.le_of_ble_eq_true rfl)⟩) hP hD hS hA (fun rr1 _ H locs hr1 hP hD hS => ?_)
  refine lv_nm (y := b2i (zf_X1_isNan a0)) hr1 ?_
  refine lv_if_ne (tgt := 14) hx hb dX1_sum_4 (by decide) (fun c2 => ?_) (fun c2 => ?_)
  · replace h := ifp (b2i_1 c2) h
    exact J14  H locs ls h hP hD hS (lv_sub (l' := []) hl [] rfl)
  · replace h := ifn (b2i_0 c2) h
    refine lv_iload_n hx hb dX1_sum_7 rfl (lv_at hl 1 rfl) ?_
    refine wcalli (S := Unit) (va_runS (As := [.int a1]) (rest := []) ⟨hx, hb, hml, hown, hts⟩ (c_X1_isNan l dC dI cI cT cS H.size ws  a1 _ rfl) (va_cwS 1 hts (gWS (List.mem_of_getElem? (i := 1) rfl) (List.mem_of_getElem? (i := 2) rfl) (List.mem_of_getElem? (i := 3) rfl) ic_X1_sum_c_X1_isNan gd_c_X1_isNan) rfl rfl rfl (by decide +kernel) ⟨(Nat.le_of_ble_eq_true rfl), (Nat.le_of_ble_eq_true rfl)⟩) (gpS hP hK hD) rfl rfl hl.1 rfl (lv_room (Nat.le_of_ble_eq_true rfl)) dX1_sum_8 ⟨(Nat.le_of_ble_eq_true rfl), (Nat.le_of_ble_eq_true rfl)⟩) hP hD hS hA (fun rr3 _ H locs hr3 hP hD hS => ?_)
    refine lv_nm (y := b2i (zf_X1_isNan a1)) hr3 ?_
    refine lv_if_eq (tgt := 17) hx hb dX1_sum_11 (by decide) (fun c4 => ?_) (fun c4 => ?_)
    · replace h := ifn (b2i_0 c4) h
      refine lv_iload_n hx hb dX1_sum_17 rfl (lv_at hl 0 rfl) ?_
      refine wcalli (S := Unit) (va_runS (As := [.int a0]) (rest := []) ⟨hx, hb, hml, hown, hts⟩ (c_X1_isInfinite l dC dI cI cT cS H.size ws  a0 _ rfl) (va_cwS 1 hts (gWS (List.mem_of_getElem? (i := 4) rfl) (List.mem_of_getElem? (i := 5) rfl) (List.mem_of_getElem? (i := 3) rfl) ic_X1_sum_c_X1_isInfinite gd_c_X1_isInfinite) rfl rfl rfl (by decide +kernel) ⟨(Nat.le_of_ble_eq_true rfl), (Nat.le_of_ble_eq_true rfl)⟩) (gpS hP hK hD) rfl rfl hl.1 rfl (lv_room (Nat.le_of_ble_eq_true rfl)) dX1_sum_18 ⟨(Nat.le_of_ble_eq_true rfl), (Nat.le_of_ble_eq_true rfl)⟩) hP hD hS hA (fun rr5 _ H locs hr5 hP hD hS => ?_)
      refine lv_nm (y := b2i (zf_X1_isInfinite a0)) hr5 ?_
      refine lv_if_eq (tgt := 43) hx hb dX1_sum_21 (by decide) (fun c6 => ?_) (fun c6 => ?_)
      · replace h := ifn (b2i_0 c6) h
        refine lv_iload_n hx hb dX1_sum_43 rfl (lv_at hl 1 rfl) ?_
        refine wcalli (S := Unit) (va_runS (As := [.int a1]) (rest := []) ⟨hx, hb, hml, hown, hts⟩ (c_X1_isInfinite l dC dI cI cT cS H.size ws  a1 _ rfl) (va_cwS 1 hts (gWS (List.mem_of_getElem? (i := 4) rfl) (List.mem_of_getElem? (i := 5) rfl) (List.mem_of_getElem? (i := 3) rfl) ic_X1_sum_c_X1_isInfinite gd_c_X1_isInfinite) rfl rfl rfl (by decide +kernel) ⟨(Nat.le_of_ble_eq_true rfl), (Nat.le_of_ble_eq_true rfl)⟩) (gpS hP hK hD) rfl rfl hl.1 rfl (lv_room (Nat.le_of_ble_eq_true rfl)) dX1_sum_44 ⟨(Nat.le_of_ble_eq_true rfl), (Nat.le_of_ble_eq_true rfl)⟩) hP hD hS hA (fun rr7 _ H locs hr7 hP hD hS => ?_)
        refine lv_nm (y := b2i (zf_X1_isInfinite a1)) hr7 ?_
        refine lv_if_eq (tgt := 52) hx hb dX1_sum_47 (by decide) (fun c8 => ?_) (fun c8 => ?_)
        · replace h := ifn (b2i_0 c8) h
          refine lv_iload_n hx hb dX1_sum_52 rfl (lv_at hl 0 rfl) ?_
          refine wcalli (S := Unit) (va_runS (As := [.int a0]) (rest := []) ⟨hx, hb, hml, hown, hts⟩ (c_X1_scale l dC dI cI cT cS H.size ws  a0 _ rfl) (va_cwS 1 hts (gWS (List.mem_of_getElem? (i := 6) rfl) (List.mem_of_getElem? (i := 7) rfl) (List.mem_of_getElem? (i := 3) rfl) ic_X1_sum_c_X1_scale gd_c_X1_scale) rfl rfl rfl (by decide +kernel) ⟨(Nat.le_of_ble_eq_true rfl), (Nat.le_of_ble_eq_true rfl)⟩) (gpS hP hK hD) rfl rfl hl.1 rfl (lv_room (Nat.le_of_ble_eq_true rfl)) dX1_sum_53 ⟨(Nat.le_of_ble_eq_true rfl), (Nat.le_of_ble_eq_true rfl)⟩) hP hD hS hA (fun rr9 _ H locs hr9 hP hD hS => ?_)
          refine lv_nm (y := (zf_X1_scale a0)) hr9 ?_
          refine lv_iload_n hx hb dX1_sum_56 rfl (lv_at hl 1 rfl) ?_
          refine wcalli (S := Unit) (va_runS (As := [.int a1]) (rest := [.int (zf_X1_scale a0)]) ⟨hx, hb, hml, hown, hts⟩ (c_X1_scale l dC dI cI cT cS H.size ws  a1 _ rfl) (va_cwS 1 hts (gWS (List.mem_of_getElem? (i := 6) rfl) (List.mem_of_getElem? (i := 7) rfl) (List.mem_of_getElem? (i := 3) rfl) ic_X1_sum_c_X1_scale gd_c_X1_scale) rfl rfl rfl (by decide +kernel) ⟨(Nat.le_of_ble_eq_true rfl), (Nat.le_of_ble_eq_true rfl)⟩) (gpS hP hK hD) rfl rfl hl.1 rfl (lv_room (Nat.le_of_ble_eq_true rfl)) dX1_sum_57 ⟨(Nat.le_of_ble_eq_true rfl), (Nat.le_of_ble_eq_true rfl)⟩) hP hD hS hA (fun rr10 _ H locs hr10 hP hD hS => ?_)
          refine lv_nm (y := (zf_X1_scale a1)) hr10 ?_
          refine lv_icmp_lt (tgt := 67) hx hb dX1_sum_60 (by decide) (fun c11 => ?_) (fun c11 => ?_)
          · replace h := ifp (c11) h
            refine lv_iconst (v := 0) hx hb dX1_sum_67 (by decide) ?_
            exact J68 false H locs ls h hP hD hS (lv_sub (l' := [(0, .int a0), (1, .int a1)]) hl [0, 1] rfl)
          · replace h := ifn (c11) h
            refine lv_iconst (v := 1) hx hb dX1_sum_63 (by decide) ?_
            refine lv_goto (tgt := 68) hx hb dX1_sum_64 (by decide) ?_
            exact J68 true H locs ls h hP hD hS (lv_sub (l' := [(0, .int a0), (1, .int a1)]) hl [0, 1] rfl)
        · replace h := ifp (b2i_1 c8) h
          refine lv_iload_n hx hb dX1_sum_50 rfl (lv_at hl 1 rfl) ?_
          have h9 := h
          exact wreti hx hb hr hlocks hP hD hS (by show _ = _; rw [← h9]; first | done | rfl) rfl dX1_sum_51
      · replace h := ifp (b2i_1 c6) h
        refine lv_iload_n hx hb dX1_sum_24 rfl (lv_at hl 1 rfl) ?_
        refine wcalli (S := Unit) (va_runS (As := [.int a1]) (rest := []) ⟨hx, hb, hml, hown, hts⟩ (c_X1_isInfinite l dC dI cI cT cS H.size ws  a1 _ rfl) (va_cwS 1 hts (gWS (List.mem_of_getElem? (i := 4) rfl) (List.mem_of_getElem? (i := 5) rfl) (List.mem_of_getElem? (i := 3) rfl) ic_X1_sum_c_X1_isInfinite gd_c_X1_isInfinite) rfl rfl rfl (by decide +kernel) ⟨(Nat.le_of_ble_eq_true rfl), (Nat.le_of_ble_eq_true rfl)⟩) (gpS hP hK hD) rfl rfl hl.1 rfl (lv_room (Nat.le_of_ble_eq_true rfl)) dX1_sum_25 ⟨(Nat.le_of_ble_eq_true rfl), (Nat.le_of_ble_eq_true rfl)⟩) hP hD hS hA (fun rr12 _ H locs hr12 hP hD hS => ?_)
        refine lv_nm (y := b2i (zf_X1_isInfinite a1)) hr12 ?_
        refine lv_if_eq (tgt := 41) hx hb dX1_sum_28 (by decide) (fun c13 => ?_) (fun c13 => ?_)
        · replace h := ifn (b2i_0 c13) h
          exact J41  H locs ls h hP hD hS (lv_sub (l' := [(0, .int a0)]) hl [0] rfl)
        · replace h := ifp (b2i_1 c13) h
          refine lv_iload_n hx hb dX1_sum_31 rfl (lv_at hl 0 rfl) ?_
          refine lv_iload_n hx hb dX1_sum_32 rfl (lv_at hl 1 rfl) ?_
          refine lv_icmp_eq (tgt := 41) hx hb dX1_sum_33 (by decide) (fun c14 => ?_) (fun c14 => ?_)
          · replace h := ifp (c14) h
            exact J41  H locs ls h hP hD hS (lv_sub (l' := [(0, .int a0)]) hl [0] rfl)
          · replace h := ifn (c14) h
            refine lv_ldc (v := 2143289344) hx hb hown (hts (.constant RX1 26 (2143289344)) (List.mem_of_getElem? (i := 8) rfl)) dX1_sum_36 ?_
            refine lv_goto (tgt := 42) hx hb dX1_sum_38 (by decide) ?_
            exact J42 (2143289344 : Int32) H locs ls h hP hD hS (lv_sub (l' := []) hl [] rfl)
    · replace h := ifp (b2i_1 c4) h
      exact J14  H locs ls h hP hD hS (lv_sub (l' := []) hl [] rfl)
def zb_X1_rank_13 (w0_13 : Int32) : Int32 := w0_13
def zf_X1_rank (a0 : Int32) : Int32 := (if 0 ≤ a0 then (zb_X1_rank_13 a0) else (zb_X1_rank_13 (-(a0 &&& (2147483647 : Int32)))))
def oc_X1_rank : List Cond := [.constant RX1 55 (2147483647)]
def vc_X1_rank : List Cond := .code yX1_rank cX1_rank 1 (some .int) :: (oc_X1_rank)
theorem gd_c_X1_rank : (vc_X1_rank).all goodWord = true := gall_cons rfl (by decide +kernel)
set_option maxHeartbeats 4000000 in
set_option maxRecDepth 100000 in
theorem c_X1_rank (l : Launch) (dC : Nat → ClassId) (dI : Nat → Nat → Nat) (cI cT cS : ClassId) (sz : Nat) (ws : va_W) (a0 : Int32) (o : Int32) (h : zf_X1_rank a0 = o) : gCI (S := Unit) l yX1_rank vc_X1_rank { frames := 0, cells := 0, slots := 0, locals := 0 } (dC, dI) (gTY cI cT cS) sz [.int a0] ws (fun (r : Int32) (_ : Unit) => r = o) (fun (_ : Unit) => ws) 0 0 := by
  refine Met.ofW (cc := cX1_rank) (maxL := 1) (ret := (some .int)) (by decide) rfl ?_
  intro p e s m args below meth c s₁ B hml hv
  obtain ⟨rfl, hsz, hP, hK, hD0⟩ := hv
  have hx := B.exec
  have hb := B.bytes
  have hr := B.returns
  have hts := atoms_spec (ws := vc_X1_rank) B.pre
  have hown : s.vm.findClass RX1 = some m.cls := findClass_of_methodNamed B.named
  have hlocks := B.notSynchronized
  subst hsz
  have hD := hD0.self (sz := s.heap.size)
  generalize hAe : va_A ws s.heap.size = A at hD ⊢
  have hA : ∀ q : Nat, s.heap.size ≤ q → A q := fun q h => by rw [← hAe]; exact Or.inr h
  clear hAe hD0
  refine gstart (fun H locs hHe hLe => ?_)
  have hS : va_S A s.heap H locs := by rw [← hHe, ← hLe]; exact va_S.rf
  replace hP : va_P (dC, dI) vwCl ws H := by rw [← hHe]; exact hP
  clear hHe hLe
  have hl := lv_entry ([.int a0]) (n := 1) (Nat.le_of_ble_eq_true rfl)
  rw [lg_entry_eq]
  generalize (lg_sl ([.int a0]) ++ List.replicate (1 - (lg_sl ([.int a0])).length) Slot.unset).toArray = ls at hl ⊢
  replace hl : lv_has ls 1 [(0, .int a0)] := hl
  unfold zf_X1_rank at h
  have J13 : ∀ (w0_13 : Int32) (H : Heap) (locs : List Loc) (ls : Array Slot), zb_X1_rank_13 w0_13 = o → va_P (dC, dI) vwCl ws H → va_D A ws → va_S A s.heap H locs → lv_has ls 1 [] → W p l e (headSpec vc_X1_rank { frames := 0, cells := 0, slots := 0, locals := 0 }).room s m (List.toArray (α := Value) [.int a0]) below meth c H locs 0 0 (MQ below (va_Qi (fun (r : Int32) (_ : Unit) => r = o) (gB (dC, dI) A (fun (_ : Unit) => ws)) A) (List.toArray (α := Value) [.int a0]) s 0 0 A) (F0 m 13 ls [.int w0_13]) := by
    intro w0_13 H locs ls h hP hD hS hl
    unfold zb_X1_rank_13 at h
    have h9 := h
    exact wreti hx hb hr hlocks hP hD hS (by show _ = _; rw [← h9]; first | done | rfl) rfl dX1_rank_13
  refine lv_iload_n hx hb dX1_rank_0 rfl (lv_at hl 0 rfl) ?_
  refine lv_if_ge (tgt := 12) hx hb dX1_rank_1 (by decide) (fun c1 => ?_) (fun c1 => ?_)
  · replace h := ifp (c1) h
    refine lv_iload_n hx hb dX1_rank_12 rfl (lv_at hl 0 rfl) ?_
    exact J13 a0 H locs ls h hP hD hS (lv_sub (l' := []) hl [] rfl)
  · replace h := ifn (c1) h
    refine lv_iload_n hx hb dX1_rank_4 rfl (lv_at hl 0 rfl) ?_
    refine lv_ldc (v := 2147483647) hx hb hown (hts (.constant RX1 55 (2147483647)) (List.mem_of_getElem? (i := 1) rfl)) dX1_rank_5 ?_
    refine lv_iand hx hb dX1_rank_7 ?_
    refine lv_ineg hx hb dX1_rank_8 ?_
    refine lv_goto (tgt := 13) hx hb dX1_rank_9 (by decide) ?_
    exact J13 (-(a0 &&& (2147483647 : Int32))) H locs ls h hP hD hS (lv_sub (l' := []) hl [] rfl)
def zb_X1_isLess_30 (w0_30 : Bool) : Bool := w0_30
def zb_X1_isLess_29  : Bool := (zb_X1_isLess_30 false)
def zf_X1_isLess (a0 : Int32) (a1 : Int32) : Bool := (if (zf_X1_isNan a0) = true then zb_X1_isLess_29 else (if (zf_X1_isNan a1) = true then zb_X1_isLess_29 else (if (zf_X1_rank a1) ≤ (zf_X1_rank a0) then zb_X1_isLess_29 else (zb_X1_isLess_30 true))))
def oc_X1_isLess : List Cond := [.methodLink RX1 22 yX1_isNan, .static yX1_isNan, .initialized RX1, .methodLink RX1 52 yX1_rank, .static yX1_rank]
def vc_X1_isLess : List Cond := .code yX1_isLess cX1_isLess 2 (some .boolean) :: (oc_X1_isLess ++ (vc_X1_isNan ++ (vc_X1_rank)))
theorem ic_X1_isLess_c_X1_isNan : ∀ w ∈ vc_X1_isNan, w ∈ vc_X1_isLess := fun _ h => List.mem_cons_of_mem _ (List.mem_append_right _ (List.mem_append_left _ h))
theorem ic_X1_isLess_c_X1_rank : ∀ w ∈ vc_X1_rank, w ∈ vc_X1_isLess := fun _ h => List.mem_cons_of_mem _ (List.mem_append_right _ (List.mem_append_right _ (h)))
theorem gd_c_X1_isLess : (vc_X1_isLess).all goodWord = true := gall_cons rfl (gall_app (by decide +kernel) (gall_app gd_c_X1_isNan gd_c_X1_rank))
set_option maxHeartbeats 4000000 in
set_option maxRecDepth 100000 in
theorem c_X1_isLess (l : Launch) (dC : Nat → ClassId) (dI : Nat → Nat → Nat) (cI cT cS : ClassId) (sz : Nat) (ws : va_W) (a0 : Int32) (a1 : Int32) (o : Bool) (h : zf_X1_isLess a0 a1 = o) : gCI (S := Unit) l yX1_isLess vc_X1_isLess { frames := 1, cells := 0, slots := 0, locals := 20 } (dC, dI) (gTY cI cT cS) sz [.int a0, .int a1] ws (fun (r : Int32) (_ : Unit) => r = b2i o) (fun (_ : Unit) => ws) 0 0 := by
  refine Met.ofW (cc := cX1_isLess) (maxL := 2) (ret := (some .boolean)) (by decide) rfl ?_
  intro p e s m args below meth c s₁ B hml hv
  obtain ⟨rfl, hsz, hP, hK, hD0⟩ := hv
  have hx := B.exec
  have hb := B.bytes
  have hr := B.returns
  have hts := atoms_spec (ws := vc_X1_isLess) B.pre
  have hown : s.vm.findClass RX1 = some m.cls := findClass_of_methodNamed B.named
  have hlocks := B.notSynchronized
  subst hsz
  have hD := hD0.self (sz := s.heap.size)
  generalize hAe : va_A ws s.heap.size = A at hD ⊢
  have hA : ∀ q : Nat, s.heap.size ≤ q → A q := fun q h => by rw [← hAe]; exact Or.inr h
  clear hAe hD0
  refine gstart (fun H locs hHe hLe => ?_)
  have hS : va_S A s.heap H locs := by rw [← hHe, ← hLe]; exact va_S.rf
  replace hP : va_P (dC, dI) vwCl ws H := by rw [← hHe]; exact hP
  clear hHe hLe
  have hl := lv_entry ([.int a0, .int a1]) (n := 2) (Nat.le_of_ble_eq_true rfl)
  rw [lg_entry_eq]
  generalize (lg_sl ([.int a0, .int a1]) ++ List.replicate (2 - (lg_sl ([.int a0, .int a1])).length) Slot.unset).toArray = ls at hl ⊢
  replace hl : lv_has ls 2 [(0, .int a0), (1, .int a1)] := hl
  unfold zf_X1_isLess at h
  have J30 : ∀ (w0_30 : Bool) (H : Heap) (locs : List Loc) (ls : Array Slot), zb_X1_isLess_30 w0_30 = o → va_P (dC, dI) vwCl ws H → va_D A ws → va_S A s.heap H locs → lv_has ls 2 [] → W p l e (headSpec vc_X1_isLess { frames := 1, cells := 0, slots := 0, locals := 20 }).room s m (List.toArray (α := Value) [.int a0, .int a1]) below meth c H locs 0 0 (MQ below (va_Qi (fun (r : Int32) (_ : Unit) => r = b2i o) (gB (dC, dI) A (fun (_ : Unit) => ws)) A) (List.toArray (α := Value) [.int a0, .int a1]) s 0 0 A) (F0 m 30 ls [.int (b2i w0_30)]) := by
    intro w0_30 H locs ls h hP hD hS hl
    unfold zb_X1_isLess_30 at h
    have h9 := h
    exact wretz hx hb hr hlocks (b2i_or _) hP hD hS (by show _ = _; rw [← h9]; first | done | rfl) rfl dX1_isLess_30
  have J29 : ∀  (H : Heap) (locs : List Loc) (ls : Array Slot), zb_X1_isLess_29 = o → va_P (dC, dI) vwCl ws H → va_D A ws → va_S A s.heap H locs → lv_has ls 2 [] → W p l e (headSpec vc_X1_isLess { frames := 1, cells := 0, slots := 0, locals := 20 }).room s m (List.toArray (α := Value) [.int a0, .int a1]) below meth c H locs 0 0 (MQ below (va_Qi (fun (r : Int32) (_ : Unit) => r = b2i o) (gB (dC, dI) A (fun (_ : Unit) => ws)) A) (List.toArray (α := Value) [.int a0, .int a1]) s 0 0 A) (F0 m 29 ls []) := by
    intro  H locs ls h hP hD hS hl
    unfold zb_X1_isLess_29 at h
    refine lv_iconst (v := 0) hx hb dX1_isLess_29 (by decide) ?_
    exact J30 false H locs ls h hP hD hS (lv_sub (l' := []) hl [] rfl)
  refine lv_iload_n hx hb dX1_isLess_0 rfl (lv_at hl 0 rfl) ?_
  refine wcalli (S := Unit) (va_runS (As := [.int a0]) (rest := []) ⟨hx, hb, hml, hown, hts⟩ (c_X1_isNan l dC dI cI cT cS H.size ws  a0 _ rfl) (va_cwS 1 hts (gWS (List.mem_of_getElem? (i := 1) rfl) (List.mem_of_getElem? (i := 2) rfl) (List.mem_of_getElem? (i := 3) rfl) ic_X1_isLess_c_X1_isNan gd_c_X1_isNan) rfl rfl rfl (by decide +kernel) ⟨(Nat.le_of_ble_eq_true rfl), (Nat.le_of_ble_eq_true rfl)⟩) (gpS hP hK hD) rfl rfl hl.1 rfl (lv_room (Nat.le_of_ble_eq_true rfl)) dX1_isLess_1 ⟨(Nat.le_of_ble_eq_true rfl), (Nat.le_of_ble_eq_true rfl)⟩) hP hD hS hA (fun rr1 _ H locs hr1 hP hD hS => ?_)
  refine lv_nm (y := b2i (zf_X1_isNan a0)) hr1 ?_
  refine lv_if_ne (tgt := 29) hx hb dX1_isLess_4 (by decide) (fun c2 => ?_) (fun c2 => ?_)
  · replace h := ifp (b2i_1 c2) h
    exact J29  H locs ls h hP hD hS (lv_sub (l' := []) hl [] rfl)
  · replace h := ifn (b2i_0 c2) h
    refine lv_iload_n hx hb dX1_isLess_7 rfl (lv_at hl 1 rfl) ?_
    refine wcalli (S := Unit) (va_runS (As := [.int a1]) (rest := []) ⟨hx, hb, hml, hown, hts⟩ (c_X1_isNan l dC dI cI cT cS H.size ws  a1 _ rfl) (va_cwS 1 hts (gWS (List.mem_of_getElem? (i := 1) rfl) (List.mem_of_getElem? (i := 2) rfl) (List.mem_of_getElem? (i := 3) rfl) ic_X1_isLess_c_X1_isNan gd_c_X1_isNan) rfl rfl rfl (by decide +kernel) ⟨(Nat.le_of_ble_eq_true rfl), (Nat.le_of_ble_eq_true rfl)⟩) (gpS hP hK hD) rfl rfl hl.1 rfl (lv_room (Nat.le_of_ble_eq_true rfl)) dX1_isLess_8 ⟨(Nat.le_of_ble_eq_true rfl), (Nat.le_of_ble_eq_true rfl)⟩) hP hD hS hA (fun rr3 _ H locs hr3 hP hD hS => ?_)
    refine lv_nm (y := b2i (zf_X1_isNan a1)) hr3 ?_
    refine lv_if_ne (tgt := 29) hx hb dX1_isLess_11 (by decide) (fun c4 => ?_) (fun c4 => ?_)
    · replace h := ifp (b2i_1 c4) h
      exact J29  H locs ls h hP hD hS (lv_sub (l' := []) hl [] rfl)
    · replace h := ifn (b2i_0 c4) h
      refine lv_iload_n hx hb dX1_isLess_14 rfl (lv_at hl 0 rfl) ?_
      refine wcalli (S := Unit) (va_runS (As := [.int a0]) (rest := []) ⟨hx, hb, hml, hown, hts⟩ (c_X1_rank l dC dI cI cT cS H.size ws  a0 _ rfl) (va_cwS 1 hts (gWS (List.mem_of_getElem? (i := 4) rfl) (List.mem_of_getElem? (i := 5) rfl) (List.mem_of_getElem? (i := 3) rfl) ic_X1_isLess_c_X1_rank gd_c_X1_rank) rfl rfl rfl (by decide +kernel) ⟨(Nat.le_of_ble_eq_true rfl), (Nat.le_of_ble_eq_true rfl)⟩) (gpS hP hK hD) rfl rfl hl.1 rfl (lv_room (Nat.le_of_ble_eq_true rfl)) dX1_isLess_15 ⟨(Nat.le_of_ble_eq_true rfl), (Nat.le_of_ble_eq_true rfl)⟩) hP hD hS hA (fun rr5 _ H locs hr5 hP hD hS => ?_)
      refine lv_nm (y := (zf_X1_rank a0)) hr5 ?_
      refine lv_iload_n hx hb dX1_isLess_18 rfl (lv_at hl 1 rfl) ?_
      refine wcalli (S := Unit) (va_runS (As := [.int a1]) (rest := [.int (zf_X1_rank a0)]) ⟨hx, hb, hml, hown, hts⟩ (c_X1_rank l dC dI cI cT cS H.size ws  a1 _ rfl) (va_cwS 1 hts (gWS (List.mem_of_getElem? (i := 4) rfl) (List.mem_of_getElem? (i := 5) rfl) (List.mem_of_getElem? (i := 3) rfl) ic_X1_isLess_c_X1_rank gd_c_X1_rank) rfl rfl rfl (by decide +kernel) ⟨(Nat.le_of_ble_eq_true rfl), (Nat.le_of_ble_eq_true rfl)⟩) (gpS hP hK hD) rfl rfl hl.1 rfl (lv_room (Nat.le_of_ble_eq_true rfl)) dX1_isLess_19 ⟨(Nat.le_of_ble_eq_true rfl), (Nat.le_of_ble_eq_true rfl)⟩) hP hD hS hA (fun rr6 _ H locs hr6 hP hD hS => ?_)
      refine lv_nm (y := (zf_X1_rank a1)) hr6 ?_
      refine lv_icmp_ge (tgt := 29) hx hb dX1_isLess_22 (by decide) (fun c7 => ?_) (fun c7 => ?_)
      · replace h := ifp (c7) h
        exact J29  H locs ls h hP hD hS (lv_sub (l' := []) hl [] rfl)
      · replace h := ifn (c7) h
        refine lv_iconst (v := 1) hx hb dX1_isLess_25 (by decide) ?_
        refine lv_goto (tgt := 30) hx hb dX1_isLess_26 (by decide) ?_
        exact J30 true H locs ls h hP hD hS (lv_sub (l' := []) hl [] rfl)
def zb_J9_floorMod_7cf53_18 (v2_18 : Int32) : Option (Int32) := some v2_18
def zf_J9_floorMod_7cf53 (a0 : Int32) (a1 : Int32) : Option (Int32) := nzd a1 (letb (a0 - a0 / a1 * a1) (fun e2 => (if 0 ≤ (a0 ^^^ a1) then (zb_J9_floorMod_7cf53_18 e2) else (if e2 = 0 then (zb_J9_floorMod_7cf53_18 e2) else some (e2 + a1)))))
def oc_J9_floorMod_7cf53 : List Cond := []
def vc_J9_floorMod_7cf53 : List Cond := .code yJ9_floorMod_7cf53 cJ9_floorMod_7cf53 3 (some .int) :: (oc_J9_floorMod_7cf53)
theorem gd_c_J9_floorMod_7cf53 : (vc_J9_floorMod_7cf53).all goodWord = true := gall_cons rfl (by decide +kernel)
set_option maxHeartbeats 4000000 in
set_option maxRecDepth 100000 in
theorem c_J9_floorMod_7cf53 (l : Launch) (dC : Nat → ClassId) (dI : Nat → Nat → Nat) (cI cT cS : ClassId) (sz : Nat) (ws : va_W) (a0 : Int32) (a1 : Int32) (o : Int32) (h : zf_J9_floorMod_7cf53 a0 a1 = some o) : gCI (S := Unit) l yJ9_floorMod_7cf53 vc_J9_floorMod_7cf53 { frames := 0, cells := 0, slots := 0, locals := 0 } (dC, dI) (gTY cI cT cS) sz [.int a0, .int a1] ws (fun (r : Int32) (_ : Unit) => r = o) (fun (_ : Unit) => ws) 0 0 := by
  refine va_MetF (cc := cJ9_floorMod_7cf53) (maxL := 3) (ret := (some .int)) (by decide +kernel) rfl ?_
  intro p e s m args below meth c s₁ B hml hv
  obtain ⟨rfl, hsz, hP, hK, hD0⟩ := hv
  have hx := B.exec
  have hb := B.bytes
  have hr := B.returns
  have hts := atoms_spec (ws := vc_J9_floorMod_7cf53) B.pre
  have hown : s.vm.findClass RJ9 = some m.cls := findClass_of_methodNamed B.named
  have hlocks := B.notSynchronized
  subst hsz
  have hD := hD0.self (sz := s.heap.size)
  generalize hAe : va_A ws s.heap.size = A at hD ⊢
  have hA : ∀ q : Nat, s.heap.size ≤ q → A q := fun q h => by rw [← hAe]; exact Or.inr h
  clear hAe hD0
  refine gstart (fun H locs hHe hLe => ?_)
  have hS : va_S A s.heap H locs := by rw [← hHe, ← hLe]; exact va_S.rf
  replace hP : va_P (dC, dI) vwCl ws H := by rw [← hHe]; exact hP
  clear hHe hLe
  have hl := lv_entry ([.int a0, .int a1]) (n := 3) (Nat.le_of_ble_eq_true rfl)
  rw [lg_entry_eq]
  generalize (lg_sl ([.int a0, .int a1]) ++ List.replicate (3 - (lg_sl ([.int a0, .int a1])).length) Slot.unset).toArray = ls at hl ⊢
  replace hl : lv_has ls 3 [(0, .int a0), (1, .int a1)] := hl
  unfold zf_J9_floorMod_7cf53 at h
  have J18 : ∀ (v2_18 : Int32) (H : Heap) (locs : List Loc) (ls : Array Slot), zb_J9_floorMod_7cf53_18 v2_18 = some o → va_P (dC, dI) vwCl ws H → va_D A ws → va_S A s.heap H locs → lv_has ls 3 [(2, .int v2_18)] → W p l e (headSpec vc_J9_floorMod_7cf53 { frames := 0, cells := 0, slots := 0, locals := 0 }).room s m (List.toArray (α := Value) [.int a0, .int a1]) below meth c H locs 0 0 (MQ below (va_Qi (fun (r : Int32) (_ : Unit) => r = o) (gB (dC, dI) A (fun (_ : Unit) => ws)) A) (List.toArray (α := Value) [.int a0, .int a1]) s 0 0 A) (F0 m 18 ls []) := by
    intro v2_18 H locs ls h hP hD hS hl
    unfold zb_J9_floorMod_7cf53_18 at h
    refine lv_iload_n hx hb dJ9_floorMod_7cf53_18 rfl (lv_at hl 0 rfl) ?_
    have h9 := Option.some.inj h
    exact wreti hx hb hr hlocks hP hD hS (by show _ = _; rw [← h9]; first | done | rfl) rfl dJ9_floorMod_7cf53_19
  refine lv_iload_n hx hb dJ9_floorMod_7cf53_0 rfl (lv_at hl 0 rfl) ?_
  refine lv_iload_n hx hb dJ9_floorMod_7cf53_1 rfl (lv_at hl 1 rfl) ?_
  obtain ⟨hz1, h⟩ := nz_inv h
  refine lv_irem hx hb dJ9_floorMod_7cf53_2 hz1 ?_
  obtain ⟨e2, he2, h⟩ := letb_inv h
  refine lv_nm he2 ?_
  refine lv_istore_n (lv' := [(2, .int e2), (0, .int a0), (1, .int a1)]) hx hb dJ9_floorMod_7cf53_3 rfl hl (by decide) rfl (fun ls hl => ?_)
  refine lv_iload_n hx hb dJ9_floorMod_7cf53_4 rfl (lv_at hl 1 rfl) ?_
  refine lv_iload_n hx hb dJ9_floorMod_7cf53_5 rfl (lv_at hl 2 rfl) ?_
  refine lv_ixor hx hb dJ9_floorMod_7cf53_6 ?_
  refine lv_if_ge (tgt := 18) hx hb dJ9_floorMod_7cf53_7 (by decide) (fun c3 => ?_) (fun c3 => ?_)
  · replace h := ifp (c3) h
    exact J18 e2 H locs ls h hP hD hS (lv_sub (l' := [(2, .int e2)]) hl [0] rfl)
  · replace h := ifn (c3) h
    refine lv_iload_n hx hb dJ9_floorMod_7cf53_10 rfl (lv_at hl 0 rfl) ?_
    refine lv_if_eq (tgt := 18) hx hb dJ9_floorMod_7cf53_11 (by decide) (fun c4 => ?_) (fun c4 => ?_)
    · replace h := ifp (c4) h
      exact J18 e2 H locs ls h hP hD hS (lv_sub (l' := [(2, .int e2)]) hl [0] rfl)
    · replace h := ifn (c4) h
      refine lv_iload_n hx hb dJ9_floorMod_7cf53_14 rfl (lv_at hl 0 rfl) ?_
      refine lv_iload_n hx hb dJ9_floorMod_7cf53_15 rfl (lv_at hl 2 rfl) ?_
      refine lv_iadd hx hb dJ9_floorMod_7cf53_16 ?_
      have h9 := Option.some.inj h
      exact wreti hx hb hr hlocks hP hD hS (by show _ = _; rw [← h9]; first | done | rfl) rfl dJ9_floorMod_7cf53_17
def zf_X4_y (a1 : Int32) (σ : Sg) : Option (Int32) := bd a1 24 (obd (zf_J9_floorMod_7cf53 (σ 4 a1.toNatClampNeg) (8 : Int32)) (fun r2 => some r2))
def oc_X4_y : List Cond := [.fieldLink RX4 18 "TraceTrees$Program" "b" "[I", .methodLink RX4 32 yJ9_floorMod_7cf53, .static yJ9_floorMod_7cf53, .initialized RJ9]
def vc_X4_y : List Cond := .code yX4_y cX4_y 2 (some .int) :: (oc_X4_y ++ (wsX40 ++ (vc_J9_floorMod_7cf53)))
theorem iw_X4_y_X4 : ∀ w ∈ wsX40, w ∈ vc_X4_y := fun _ h => List.mem_cons_of_mem _ (List.mem_append_right _ (List.mem_append_left _ h))
theorem ic_X4_y_c_J9_floorMod_7cf53 : ∀ w ∈ vc_J9_floorMod_7cf53, w ∈ vc_X4_y := fun _ h => List.mem_cons_of_mem _ (List.mem_append_right _ (List.mem_append_right _ (h)))
theorem gd_c_X4_y : (vc_X4_y).all goodWord = true := gall_cons rfl (gall_app (by decide +kernel) (gall_app gw_X4 gd_c_J9_floorMod_7cf53))
set_option maxHeartbeats 4000000 in
set_option maxRecDepth 100000 in
theorem c_X4_y (l : Launch) (dC : Nat → ClassId) (dI : Nat → Nat → Nat) (cI cT cS : ClassId) (sz : Nat) (ad : Nat → Nat) (a1 : Int32) (σ : Sg) (o : Int32) (h : zf_X4_y a1 σ = some o) : gCI (S := Unit) l yX4_y vc_X4_y { frames := 1, cells := 0, slots := 0, locals := 22 } (dC, dI) (gTY cI cT cS) sz [.ref (ad 1), .int a1] (Wd 153 (cfC ad cI cT cS) σ) (fun (r : Int32) (_ : Unit) => r = o) (fun (_ : Unit) => (Wd 153 (cfC ad cI cT cS) σ)) 0 0 := by
  refine Met.ofW (cc := cX4_y) (maxL := 2) (ret := (some .int)) (by decide) rfl ?_
  intro p e s m args below meth c s₁ B hml hv
  obtain ⟨rfl, hsz, hP, hK, hD0⟩ := hv
  have hx := B.exec
  have hb := B.bytes
  have hr := B.returns
  have hts := atoms_spec (ws := vc_X4_y) B.pre
  have hown : s.vm.findClass RX4 = some m.cls := findClass_of_methodNamed B.named
  have hlocks := B.notSynchronized
  subst hsz
  have hD := hD0.self (sz := s.heap.size)
  generalize hAe : va_A (Wd 153 (cfC ad cI cT cS) σ) s.heap.size = A at hD ⊢
  have hA : ∀ q : Nat, s.heap.size ≤ q → A q := fun q h => by rw [← hAe]; exact Or.inr h
  clear hAe hD0
  refine gstart (fun H locs hHe hLe => ?_)
  have hS : va_S A s.heap H locs := by rw [← hHe, ← hLe]; exact va_S.rf
  replace hP : va_P (dC, dI) vwCl (Wd 153 (cfC ad cI cT cS) σ) H := by rw [← hHe]; exact hP
  clear hHe hLe
  have hl := lv_entry ([.ref (ad 1), .int a1]) (n := 2) (Nat.le_of_ble_eq_true rfl)
  rw [lg_entry_eq]
  generalize (lg_sl ([.ref (ad 1), .int a1]) ++ List.replicate (2 - (lg_sl ([.ref (ad 1), .int a1])).length) Slot.unset).toArray = ls at hl ⊢
  replace hl : lv_has ls 2 [(0, .ref (ad 1)), (1, .int a1)] := hl
  unfold zf_X4_y at h
  refine lv_aload_n hx hb dX4_y_0 rfl (lv_at hl 0 rfl) ?_
  refine gf_X4_2 hx hb hts iw_X4_y_X4 hown hK hP (hts (.fieldLink RX4 18 "TraceTrees$Program" "b" "[I") (List.mem_of_getElem? (i := 1) rfl)) dX4_y_1 ?_
  refine lv_iload_n hx hb dX4_y_4 rfl (lv_at hl 1 rfl) ?_
  obtain ⟨hi1, h⟩ := bd_inv h
  refine wald hx hb hK hP aP4 hi1 dX4_y_5 ?_
  refine lv_bipush (v := 8) hx hb dX4_y_6 (by decide) ?_
  obtain ⟨r2, hc2, h⟩ := obd_inv h
  refine wcalli (S := Unit) (va_runS (As := [.int (σ 4 a1.toNatClampNeg), .int (8 : Int32)]) (rest := []) ⟨hx, hb, hml, hown, hts⟩ (c_J9_floorMod_7cf53 l dC dI cI cT cS H.size (Wd 153 (cfC ad cI cT cS) σ)  (σ 4 a1.toNatClampNeg) (8 : Int32) _ hc2) (va_cwS 2 hts (gWS (List.mem_of_getElem? (i := 2) rfl) (List.mem_of_getElem? (i := 3) rfl) (List.mem_of_getElem? (i := 4) rfl) ic_X4_y_c_J9_floorMod_7cf53 gd_c_J9_floorMod_7cf53) rfl rfl rfl (by decide +kernel) ⟨(Nat.le_of_ble_eq_true rfl), (Nat.le_of_ble_eq_true rfl)⟩) (gpS hP hK hD) rfl rfl hl.1 rfl (lv_room (Nat.le_of_ble_eq_true rfl)) dX4_y_8 ⟨(Nat.le_of_ble_eq_true rfl), (Nat.le_of_ble_eq_true rfl)⟩) hP hD hS hA (fun rr3 _ H locs hr3 hP hD hS => ?_)
  refine lv_nm (y := r2) hr3 ?_
  have h9 := Option.some.inj h
  exact wreti hx hb hr hlocks hP hD hS (by show _ = _; rw [← h9]; first | done | rfl) rfl dX4_y_11
def zf_X4_z (a1 : Int32) (σ : Sg) : Option (Int32) := bd a1 24 (some (σ 5 a1.toNatClampNeg))
def oc_X4_z : List Cond := [.fieldLink RX4 21 "TraceTrees$Program" "c" "[I"]
def vc_X4_z : List Cond := .code yX4_z cX4_z 2 (some .int) :: (oc_X4_z ++ (wsX40))
theorem iw_X4_z_X4 : ∀ w ∈ wsX40, w ∈ vc_X4_z := fun _ h => List.mem_cons_of_mem _ (List.mem_append_right _ (h))
theorem gd_c_X4_z : (vc_X4_z).all goodWord = true := gall_cons rfl (gall_app (by decide +kernel) gw_X4)
set_option maxHeartbeats 4000000 in
set_option maxRecDepth 100000 in
theorem c_X4_z (l : Launch) (dC : Nat → ClassId) (dI : Nat → Nat → Nat) (cI cT cS : ClassId) (sz : Nat) (ad : Nat → Nat) (a1 : Int32) (σ : Sg) (o : Int32) (h : zf_X4_z a1 σ = some o) : gCI (S := Unit) l yX4_z vc_X4_z { frames := 0, cells := 0, slots := 0, locals := 0 } (dC, dI) (gTY cI cT cS) sz [.ref (ad 1), .int a1] (Wd 153 (cfC ad cI cT cS) σ) (fun (r : Int32) (_ : Unit) => r = o) (fun (_ : Unit) => (Wd 153 (cfC ad cI cT cS) σ)) 0 0 := by
  refine Met.ofW (cc := cX4_z) (maxL := 2) (ret := (some .int)) (by decide) rfl ?_
  intro p e s m args below meth c s₁ B hml hv
  obtain ⟨rfl, hsz, hP, hK, hD0⟩ := hv
  have hx := B.exec
  have hb := B.bytes
  have hr := B.returns
  have hts := atoms_spec (ws := vc_X4_z) B.pre
  have hown : s.vm.findClass RX4 = some m.cls := findClass_of_methodNamed B.named
  have hlocks := B.notSynchronized
  subst hsz
  have hD := hD0.self (sz := s.heap.size)
  generalize hAe : va_A (Wd 153 (cfC ad cI cT cS) σ) s.heap.size = A at hD ⊢
  have hA : ∀ q : Nat, s.heap.size ≤ q → A q := fun q h => by rw [← hAe]; exact Or.inr h
  clear hAe hD0
  refine gstart (fun H locs hHe hLe => ?_)
  have hS : va_S A s.heap H locs := by rw [← hHe, ← hLe]; exact va_S.rf
  replace hP : va_P (dC, dI) vwCl (Wd 153 (cfC ad cI cT cS) σ) H := by rw [← hHe]; exact hP
  clear hHe hLe
  have hl := lv_entry ([.ref (ad 1), .int a1]) (n := 2) (Nat.le_of_ble_eq_true rfl)
  rw [lg_entry_eq]
  generalize (lg_sl ([.ref (ad 1), .int a1]) ++ List.replicate (2 - (lg_sl ([.ref (ad 1), .int a1])).length) Slot.unset).toArray = ls at hl ⊢
  replace hl : lv_has ls 2 [(0, .ref (ad 1)), (1, .int a1)] := hl
  unfold zf_X4_z at h
  refine lv_aload_n hx hb dX4_z_0 rfl (lv_at hl 0 rfl) ?_
  refine gf_X4_3 hx hb hts iw_X4_z_X4 hown hK hP (hts (.fieldLink RX4 21 "TraceTrees$Program" "c" "[I") (List.mem_of_getElem? (i := 1) rfl)) dX4_z_1 ?_
  refine lv_iload_n hx hb dX4_z_4 rfl (lv_at hl 1 rfl) ?_
  obtain ⟨hi1, h⟩ := bd_inv h
  refine wald hx hb hK hP aP5 hi1 dX4_z_5 ?_
  have h9 := Option.some.inj h
  exact wreti hx hb hr hlocks hP hD hS (by show _ = _; rw [← h9]; first | done | rfl) rfl dX4_z_6
def zb_X1_quarterOf_12 (a0 : Int64) (w0_12 : Int32) : Int32 := (zf_X1_nearest w0_12 (if 0 < a0 then a0 else -a0) (-2 : Int32))
def zf_X1_quarterOf (a0 : Int64) : Int32 := (if (0 : Int64) ≤ a0 then (zb_X1_quarterOf_12 a0 (0 : Int32)) else (zb_X1_quarterOf_12 a0 (-2147483648 : Int32)))
def oc_X1_quarterOf : List Cond := [.constant RX1 11 (-2147483648), .methodLink RX1 12 Lib.MathLoose.abs_long.x, .static Lib.MathLoose.abs_long.x, .initialized "java/lang/Math", .code Lib.MathLoose.abs_long.x Lib.MathLoose.abs_long.code 2 (some .long), .methodLink RX1 18 yX1_nearest, .static yX1_nearest, .initialized RX1]
def vc_X1_quarterOf : List Cond := .code yX1_quarterOf cX1_quarterOf 2 (some .int) :: (oc_X1_quarterOf ++ (vc_X1_nearest))
theorem ic_X1_quarterOf_c_X1_nearest : ∀ w ∈ vc_X1_nearest, w ∈ vc_X1_quarterOf := fun _ h => List.mem_cons_of_mem _ (List.mem_append_right _ (h))
theorem gd_c_X1_quarterOf : (vc_X1_quarterOf).all goodWord = true := gall_cons rfl (gall_app (by decide +kernel) gd_c_X1_nearest)
set_option maxHeartbeats 4000000 in
set_option maxRecDepth 100000 in
theorem c_X1_quarterOf (l : Launch) (dC : Nat → ClassId) (dI : Nat → Nat → Nat) (cI cT cS : ClassId) (sz : Nat) (ws : va_W) (a0 : Int64) (o : Int32) (h : zf_X1_quarterOf a0 = o) : gCI (S := Unit) l yX1_quarterOf vc_X1_quarterOf { frames := 3, cells := 0, slots := 0, locals := 75 } (dC, dI) (gTY cI cT cS) sz [.long a0] ws (fun (r : Int32) (_ : Unit) => r = o) (fun (_ : Unit) => ws) 0 0 := by
  refine Met.ofW (cc := cX1_quarterOf) (maxL := 2) (ret := (some .int)) (by decide) rfl ?_
  intro p e s m args below meth c s₁ B hml hv
  obtain ⟨rfl, hsz, hP, hK, hD0⟩ := hv
  have hx := B.exec
  have hb := B.bytes
  have hr := B.returns
  have hts := atoms_spec (ws := vc_X1_quarterOf) B.pre
  have hown : s.vm.findClass RX1 = some m.cls := findClass_of_methodNamed B.named
  have hlocks := B.notSynchronized
  subst hsz
  have hD := hD0.self (sz := s.heap.size)
  generalize hAe : va_A ws s.heap.size = A at hD ⊢
  have hA : ∀ q : Nat, s.heap.size ≤ q → A q := fun q h => by rw [← hAe]; exact Or.inr h
  clear hAe hD0
  refine gstart (fun H locs hHe hLe => ?_)
  have hS : va_S A s.heap H locs := by rw [← hHe, ← hLe]; exact va_S.rf
  replace hP : va_P (dC, dI) vwCl ws H := by rw [← hHe]; exact hP
  clear hHe hLe
  have hl := lv_entry ([.long a0]) (n := 2) (Nat.le_of_ble_eq_true rfl)
  rw [lg_entry_eq]
  generalize (lg_sl ([.long a0]) ++ List.replicate (2 - (lg_sl ([.long a0])).length) Slot.unset).toArray = ls at hl ⊢
  replace hl : lv_has ls 2 [(0, .long a0)] := hl
  unfold zf_X1_quarterOf at h
  have J12 : ∀ (w0_12 : Int32) (H : Heap) (locs : List Loc) (ls : Array Slot), zb_X1_quarterOf_12 a0 w0_12 = o → va_P (dC, dI) vwCl ws H → va_D A ws → va_S A s.heap H locs → lv_has ls 2 [(0, .long a0)] → W p l e (headSpec vc_X1_quarterOf { frames := 3, cells := 0, slots := 0, locals := 75 }).room s m (List.toArray (α := Value) [.long a0]) below meth c H locs 0 0 (MQ below (va_Qi (fun (r : Int32) (_ : Unit) => r = o) (gB (dC, dI) A (fun (_ : Unit) => ws)) A) (List.toArray (α := Value) [.long a0]) s 0 0 A) (F0 m 12 ls [.int w0_12]) := by
    intro w0_12 H locs ls h hP hD hS hl
    unfold zb_X1_quarterOf_12 at h
    refine lv_lload_n hx hb dX1_quarterOf_12 rfl (lv_at hl 0 rfl) ?_
    refine va_mabs_long hx hb (hml.trans hl.1.symm) hown (hts (.methodLink RX1 12 Lib.MathLoose.abs_long.x) (List.mem_of_getElem? (i := 2) rfl)) (hts (.static Lib.MathLoose.abs_long.x) (List.mem_of_getElem? (i := 3) rfl)) (hts (.initialized "java/lang/Math") (List.mem_of_getElem? (i := 4) rfl)) (hts (.code Lib.MathLoose.abs_long.x Lib.MathLoose.abs_long.code 2 (some .long)) (List.mem_of_getElem? (i := 5) rfl)) (Nat.le_of_ble_eq_true rfl) (Nat.le_of_ble_eq_true rfl) (Nat.le_of_ble_eq_true rfl) (Nat.le_of_ble_eq_true rfl) dX1_quarterOf_13 ?_
    refine lv_bipush (v := (-2)) hx hb dX1_quarterOf_16 (by decide) ?_
    refine wcalli (S := Unit) (va_runS (As := [.int w0_12, .long (if 0 < a0 then a0 else -a0), .int (-2 : Int32)]) (rest := []) ⟨hx, hb, hml, hown, hts⟩ (c_X1_nearest l dC dI cI cT cS H.size ws  w0_12 (if 0 < a0 then a0 else -a0) (-2 : Int32) _ rfl) (va_cwS 3 hts (gWS (List.mem_of_getElem? (i := 6) rfl) (List.mem_of_getElem? (i := 7) rfl) (List.mem_of_getElem? (i := 8) rfl) ic_X1_quarterOf_c_X1_nearest gd_c_X1_nearest) rfl rfl rfl (by decide +kernel) ⟨(Nat.le_of_ble_eq_true rfl), (Nat.le_of_ble_eq_true rfl)⟩) (gpS hP hK hD) rfl rfl hl.1 rfl (lv_room (Nat.le_of_ble_eq_true rfl)) dX1_quarterOf_18 ⟨(Nat.le_of_ble_eq_true rfl), (Nat.le_of_ble_eq_true rfl)⟩) hP hD hS hA (fun rr2 _ H locs hr2 hP hD hS => ?_)
    refine lv_nm (y := (zf_X1_nearest w0_12 (if 0 < a0 then a0 else -a0) (-2 : Int32))) hr2 ?_
    have h9 := h
    exact wreti hx hb hr hlocks hP hD hS (by show _ = _; rw [← h9]; first | done | rfl) rfl dX1_quarterOf_21
  refine lv_lload_n hx hb dX1_quarterOf_0 rfl (lv_at hl 0 rfl) ?_
  refine lv_lconst (v := 0) hx hb dX1_quarterOf_1 (by decide) ?_
  refine W.lcmp hx hb dX1_quarterOf_2 ?_
  refine lv_if_ge (tgt := 11) hx hb dX1_quarterOf_3 (by decide) (fun c1 => ?_) (fun c1 => ?_)
  · replace h := ifp (g_c_ge.mp c1) h
    refine lv_iconst (v := 0) hx hb dX1_quarterOf_11 (by decide) ?_
    exact J12 (0 : Int32) H locs ls h hP hD hS (lv_sub (l' := [(0, .long a0)]) hl [0] rfl)
  · replace h := ifn (fun q => c1 (g_c_ge.mpr q)) h
    refine lv_ldc (v := (-2147483648)) hx hb hown (hts (.constant RX1 11 (-2147483648)) (List.mem_of_getElem? (i := 1) rfl)) dX1_quarterOf_6 ?_
    refine lv_goto (tgt := 12) hx hb dX1_quarterOf_8 (by decide) ?_
    exact J12 (-2147483648 : Int32) H locs ls h hP hD hS (lv_sub (l' := [(0, .long a0)]) hl [0] rfl)
def zl_J7_fill_53178_5 (n0 : Nat) (len0 : Nat) (a1 : Int32) (e1 : Int32) (x5 : Int32 × Sg) : Option (Bool × (Int32 × Sg)) := (if e1 ≤ x5.1 then some (false, (x5.1, x5.2)) else bd x5.1 len0 (some (true, ((x5.1 + (1 : Int32)), su x5.2 n0 x5.1.toNatClampNeg a1))))
def zf_J7_fill_53178 (n0 : Nat) (len0 : Nat) (a1 : Int32) (σ : Sg) : Option (Sg) := letb (nI len0) (fun e1 => obd (lp (X := Int32 × Sg) (zl_J7_fill_53178_5 n0 len0 a1 e1) 1000 ((0 : Int32), σ)) (fun y5 => some y5.2))
def oc_J7_fill_53178 : List Cond := []
def vc_J7_fill_53178 : List Cond := .code yJ7_fill_53178 cJ7_fill_53178 4 none :: (oc_J7_fill_53178)
theorem gd_c_J7_fill_53178 : (vc_J7_fill_53178).all goodWord = true := gall_cons rfl (by decide +kernel)
set_option maxHeartbeats 4000000 in
set_option maxRecDepth 100000 in
theorem c_J7_fill_53178 (l : Launch) (dC : Nat → ClassId) (dI : Nat → Nat → Nat) (cI cT cS : ClassId) (sz : Nat) (N : Nat) (cf : Nat → (Nat → Int32) → Nat × va_E) (ad : Nat → Nat) (n0 len0 : Nat) (ha0 : AK N cf ad n0 cI len0) (a1 : Int32) (σ : Sg) (o : Sg) (h : zf_J7_fill_53178 n0 len0 a1 σ = some o) : gCV (S := Unit) l yJ7_fill_53178 vc_J7_fill_53178 { frames := 0, cells := 0, slots := 0, locals := 0 } (dC, dI) (gTY cI cT cS) sz [.ref (ad n0), .int a1] (Wd N cf σ) (fun (_ : Unit) => True) (fun (_ : Unit) => (Wd N cf o)) 0 0 := by
  refine Met.ofW (cc := cJ7_fill_53178) (maxL := 4) (ret := none) (by decide) rfl ?_
  intro p e s m args below meth c s₁ B hml hv
  obtain ⟨rfl, hsz, hP, hK, hD0⟩ := hv
  have hx := B.exec
  have hb := B.bytes
  have hr := B.returns
  have hts := atoms_spec (ws := vc_J7_fill_53178) B.pre
  have hown : s.vm.findClass RJ7 = some m.cls := findClass_of_methodNamed B.named
  have hlocks := B.notSynchronized
  subst hsz
  have hD := hD0.self (sz := s.heap.size)
  generalize hAe : va_A (Wd N cf σ) s.heap.size = A at hD ⊢
  have hA : ∀ q : Nat, s.heap.size ≤ q → A q := fun q h => by rw [← hAe]; exact Or.inr h
  clear hAe hD0
  refine gstart (fun H locs hHe hLe => ?_)
  have hS : va_S A s.heap H locs := by rw [← hHe, ← hLe]; exact va_S.rf
  replace hP : va_P (dC, dI) vwCl (Wd N cf σ) H := by rw [← hHe]; exact hP
  clear hHe hLe
  have hl := lv_entry ([.ref (ad n0), .int a1]) (n := 4) (Nat.le_of_ble_eq_true rfl)
  rw [lg_entry_eq]
  generalize (lg_sl ([.ref (ad n0), .int a1]) ++ List.replicate (4 - (lg_sl ([.ref (ad n0), .int a1])).length) Slot.unset).toArray = ls at hl ⊢
  replace hl : lv_has ls 4 [(0, .ref (ad n0)), (1, .int a1)] := hl
  unfold zf_J7_fill_53178 at h
  refine lv_iconst (v := 0) hx hb dJ7_fill_53178_0 (by decide) ?_
  refine lv_istore_n (lv' := [(2, .int (0 : Int32)), (0, .ref (ad n0)), (1, .int a1)]) hx hb dJ7_fill_53178_1 rfl hl (by decide) rfl (fun ls hl => ?_)
  refine lv_aload_n hx hb dJ7_fill_53178_2 rfl (lv_at hl 1 rfl) ?_
  refine walen hx hb hK hP ha0 dJ7_fill_53178_3 ?_
  obtain ⟨e1, he1, h⟩ := letb_inv h
  refine lv_nm he1 ?_
  refine lv_istore_n (lv' := [(3, .int e1), (2, .int (0 : Int32)), (0, .ref (ad n0)), (1, .int a1)]) hx hb dJ7_fill_53178_4 rfl hl (by decide) rfl (fun ls hl => ?_)
  obtain ⟨y5, hlp5, h⟩ := obd_inv h
  refine lp_W (fun x5 : Int32 × Sg => ∀ (H : Heap) (locs : List Loc) (ls : Array Slot), va_P (dC, dI) vwCl (Wd N cf x5.2) H → va_D A (Wd N cf x5.2) → va_S A s.heap H locs → lv_has ls 4 [(3, .int e1), (2, .int x5.1), (0, .ref (ad n0)), (1, .int a1)] → W p l e (headSpec vc_J7_fill_53178 { frames := 0, cells := 0, slots := 0, locals := 0 }).room s m (List.toArray (α := Value) [.ref (ad n0), .int a1]) below meth c H locs 0 0 (MQ below (va_Qv (fun (_ : Unit) => True) (gB (dC, dI) A (fun (_ : Unit) => (Wd N cf o))) A) (List.toArray (α := Value) [.ref (ad n0), .int a1]) s 0 0 A) (F0 m 5 ls [])) (fun y5 : Int32 × Sg => ∀ (H : Heap) (locs : List Loc) (ls : Array Slot), va_P (dC, dI) vwCl (Wd N cf y5.2) H → va_D A (Wd N cf y5.2) → va_S A s.heap H locs → lv_has ls 4 [] → W p l e (headSpec vc_J7_fill_53178 { frames := 0, cells := 0, slots := 0, locals := 0 }).room s m (List.toArray (α := Value) [.ref (ad n0), .int a1]) below meth c H locs 0 0 (MQ below (va_Qv (fun (_ : Unit) => True) (gB (dC, dI) A (fun (_ : Unit) => (Wd N cf o))) A) (List.toArray (α := Value) [.ref (ad n0), .int a1]) s 0 0 A) (F0 m 20 ls [])) ?_ 1000 ((0 : Int32), σ) y5 hlp5 ?_ H locs ls hP hD hS (lv_sub (l' := [(3, .int e1), (2, .int (0 : Int32)), (0, .ref (ad n0)), (1, .int a1)]) hl [0, 1, 2, 3] rfl)
  · intro x5 yy5 h ht5 hf5 H locs ls hP hD hS hl
    unfold zl_J7_fill_53178_5 at h
    refine lv_iload_n hx hb dJ7_fill_53178_5 rfl (lv_at hl 1 rfl) ?_
    refine lv_iload_n hx hb dJ7_fill_53178_6 rfl (lv_at hl 0 rfl) ?_
    refine lv_icmp_ge (tgt := 20) hx hb dJ7_fill_53178_7 (by decide) (fun c2 => ?_) (fun c2 => ?_)
    · replace h := ifp (c2) h
      obtain rfl := Option.some.inj h
      exact hf5 rfl H locs ls hP hD hS (lv_sub (l' := []) hl [] rfl)
    · replace h := ifn (c2) h
      refine lv_aload_n hx hb dJ7_fill_53178_10 rfl (lv_at hl 2 rfl) ?_
      refine lv_iload_n hx hb dJ7_fill_53178_11 rfl (lv_at hl 1 rfl) ?_
      refine lv_iload_n hx hb dJ7_fill_53178_12 rfl (lv_at hl 3 rfl) ?_
      obtain ⟨hi3, h⟩ := bd_inv h
      refine wast hx hb hK hP hD hS ha0 hi3 dJ7_fill_53178_13 (fun H locs hP hD hS => ?_)
      refine lv_iinc (v := (x5.1 + (1 : Int32))) (lv' := [(2, .int (x5.1 + (1 : Int32))), (3, .int e1), (0, .ref (ad n0)), (1, .int a1)]) hx hb dJ7_fill_53178_14 hl (k := 1) rfl rfl (by decide) rfl (fun ls hl => ?_)
      refine lv_goto (tgt := 5) hx hb dJ7_fill_53178_17 (by decide) ?_
      obtain rfl := Option.some.inj h
      exact ht5 rfl H locs ls hP hD hS (lv_sub (l' := [(3, .int e1), (2, .int (x5.1 + (1 : Int32))), (0, .ref (ad n0)), (1, .int a1)]) hl [1, 0, 2, 3] rfl)
  · intro H locs ls hP hD hS hl
    have h9 := Option.some.inj h
    exact wretv hx hb hr hlocks hP hD hS trivial (by rw [← h9]) dJ7_fill_53178_20
def zb_X4_holds_17 (w0_17 : Bool) : Bool := w0_17
def zb_X4_holds_16  : Bool := (zb_X4_holds_17 false)
def zf_X4_holds (a1 : Int32) (σ : Sg) : Bool := (if a1 < 0 then zb_X4_holds_16 else (if (σ 1 4) ≤ a1 then zb_X4_holds_16 else (zb_X4_holds_17 true)))
def oc_X4_holds : List Cond := [.fieldLink RX4 24 "TraceTrees$Program" "size" "I"]
def vc_X4_holds : List Cond := .code yX4_holds cX4_holds 2 (some .boolean) :: (oc_X4_holds ++ (wsX40))
theorem iw_X4_holds_X4 : ∀ w ∈ wsX40, w ∈ vc_X4_holds := fun _ h => List.mem_cons_of_mem _ (List.mem_append_right _ (h))
theorem gd_c_X4_holds : (vc_X4_holds).all goodWord = true := gall_cons rfl (gall_app (by decide +kernel) gw_X4)
set_option maxHeartbeats 4000000 in
set_option maxRecDepth 100000 in
theorem c_X4_holds (l : Launch) (dC : Nat → ClassId) (dI : Nat → Nat → Nat) (cI cT cS : ClassId) (sz : Nat) (ad : Nat → Nat) (a1 : Int32) (σ : Sg) (o : Bool) (h : zf_X4_holds a1 σ = o) : gCI (S := Unit) l yX4_holds vc_X4_holds { frames := 0, cells := 0, slots := 0, locals := 0 } (dC, dI) (gTY cI cT cS) sz [.ref (ad 1), .int a1] (Wd 153 (cfC ad cI cT cS) σ) (fun (r : Int32) (_ : Unit) => r = b2i o) (fun (_ : Unit) => (Wd 153 (cfC ad cI cT cS) σ)) 0 0 := by
  refine Met.ofW (cc := cX4_holds) (maxL := 2) (ret := (some .boolean)) (by decide) rfl ?_
  intro p e s m args below meth c s₁ B hml hv
  obtain ⟨rfl, hsz, hP, hK, hD0⟩ := hv
  have hx := B.exec
  have hb := B.bytes
  have hr := B.returns
  have hts := atoms_spec (ws := vc_X4_holds) B.pre
  have hown : s.vm.findClass RX4 = some m.cls := findClass_of_methodNamed B.named
  have hlocks := B.notSynchronized
  subst hsz
  have hD := hD0.self (sz := s.heap.size)
  generalize hAe : va_A (Wd 153 (cfC ad cI cT cS) σ) s.heap.size = A at hD ⊢
  have hA : ∀ q : Nat, s.heap.size ≤ q → A q := fun q h => by rw [← hAe]; exact Or.inr h
  clear hAe hD0
  refine gstart (fun H locs hHe hLe => ?_)
  have hS : va_S A s.heap H locs := by rw [← hHe, ← hLe]; exact va_S.rf
  replace hP : va_P (dC, dI) vwCl (Wd 153 (cfC ad cI cT cS) σ) H := by rw [← hHe]; exact hP
  clear hHe hLe
  have hl := lv_entry ([.ref (ad 1), .int a1]) (n := 2) (Nat.le_of_ble_eq_true rfl)
  rw [lg_entry_eq]
  generalize (lg_sl ([.ref (ad 1), .int a1]) ++ List.replicate (2 - (lg_sl ([.ref (ad 1), .int a1])).length) Slot.unset).toArray = ls at hl ⊢
  replace hl : lv_has ls 2 [(0, .ref (ad 1)), (1, .int a1)] := hl
  unfold zf_X4_holds at h
  have J17 : ∀ (w0_17 : Bool) (H : Heap) (locs : List Loc) (ls : Array Slot), zb_X4_holds_17 w0_17 = o → va_P (dC, dI) vwCl (Wd 153 (cfC ad cI cT cS) σ) H → va_D A (Wd 153 (cfC ad cI cT cS) σ) → va_S A s.heap H locs → lv_has ls 2 [] → W p l e (headSpec vc_X4_holds { frames := 0, cells := 0, slots := 0, locals := 0 }).room s m (List.toArray (α := Value) [.ref (ad 1), .int a1]) below meth c H locs 0 0 (MQ below (va_Qi (fun (r : Int32) (_ : Unit) => r = b2i o) (gB (dC, dI) A (fun (_ : Unit) => (Wd 153 (cfC ad cI cT cS) σ))) A) (List.toArray (α := Value) [.ref (ad 1), .int a1]) s 0 0 A) (F0 m 17 ls [.int (b2i w0_17)]) := by
    intro w0_17 H locs ls h hP hD hS hl
    unfold zb_X4_holds_17 at h
    have h9 := h
    exact wretz hx hb hr hlocks (b2i_or _) hP hD hS (by show _ = _; rw [← h9]; first | done | rfl) rfl dX4_holds_17
  have J16 : ∀  (H : Heap) (locs : List Loc) (ls : Array Slot), zb_X4_holds_16 = o → va_P (dC, dI) vwCl (Wd 153 (cfC ad cI cT cS) σ) H → va_D A (Wd 153 (cfC ad cI cT cS) σ) → va_S A s.heap H locs → lv_has ls 2 [] → W p l e (headSpec vc_X4_holds { frames := 0, cells := 0, slots := 0, locals := 0 }).room s m (List.toArray (α := Value) [.ref (ad 1), .int a1]) below meth c H locs 0 0 (MQ below (va_Qi (fun (r : Int32) (_ : Unit) => r = b2i o) (gB (dC, dI) A (fun (_ : Unit) => (Wd 153 (cfC ad cI cT cS) σ))) A) (List.toArray (α := Value) [.ref (ad 1), .int a1]) s 0 0 A) (F0 m 16 ls []) := by
    intro  H locs ls h hP hD hS hl
    unfold zb_X4_holds_16 at h
    refine lv_iconst (v := 0) hx hb dX4_holds_16 (by decide) ?_
    exact J17 false H locs ls h hP hD hS (lv_sub (l' := []) hl [] rfl)
  refine lv_iload_n hx hb dX4_holds_0 rfl (lv_at hl 1 rfl) ?_
  refine lv_if_lt (tgt := 16) hx hb dX4_holds_1 (by decide) (fun c1 => ?_) (fun c1 => ?_)
  · replace h := ifp (c1) h
    exact J16  H locs ls h hP hD hS (lv_sub (l' := []) hl [] rfl)
  · replace h := ifn (c1) h
    refine lv_iload_n hx hb dX4_holds_4 rfl (lv_at hl 1 rfl) ?_
    refine lv_aload_n hx hb dX4_holds_5 rfl (lv_at hl 0 rfl) ?_
    refine gf_X4_4 hx hb hts iw_X4_holds_X4 hown hK hP (hts (.fieldLink RX4 24 "TraceTrees$Program" "size" "I") (List.mem_of_getElem? (i := 1) rfl)) dX4_holds_6 ?_
    refine lv_icmp_ge (tgt := 16) hx hb dX4_holds_9 (by decide) (fun c2 => ?_) (fun c2 => ?_)
    · replace h := ifp (c2) h
      exact J16  H locs ls h hP hD hS (lv_sub (l' := []) hl [] rfl)
    · replace h := ifn (c2) h
      refine lv_iconst (v := 1) hx hb dX4_holds_12 (by decide) ?_
      refine lv_goto (tgt := 17) hx hb dX4_holds_13 (by decide) ?_
      exact J17 true H locs ls h hP hD hS (lv_sub (l' := []) hl [] rfl)
def zb_X4_writesX_15 (w0_15 : Bool) : Option (Bool) := some w0_15
def zf_X4_writesX (a1 : Int32) (σ : Sg) : Option (Bool) := bd a1 24 ((if (5 : Int32) < (σ 2 a1.toNatClampNeg) then (zb_X4_writesX_15 false) else (zb_X4_writesX_15 true)))
def oc_X4_writesX : List Cond := [.fieldLink RX4 9 "TraceTrees$Program" "kind" "[I"]
def vc_X4_writesX : List Cond := .code yX4_writesX cX4_writesX 2 (some .boolean) :: (oc_X4_writesX ++ (wsX40))
theorem iw_X4_writesX_X4 : ∀ w ∈ wsX40, w ∈ vc_X4_writesX := fun _ h => List.mem_cons_of_mem _ (List.mem_append_right _ (h))
theorem gd_c_X4_writesX : (vc_X4_writesX).all goodWord = true := gall_cons rfl (gall_app (by decide +kernel) gw_X4)
set_option maxHeartbeats 4000000 in
set_option maxRecDepth 100000 in
theorem c_X4_writesX (l : Launch) (dC : Nat → ClassId) (dI : Nat → Nat → Nat) (cI cT cS : ClassId) (sz : Nat) (ad : Nat → Nat) (a1 : Int32) (σ : Sg) (o : Bool) (h : zf_X4_writesX a1 σ = some o) : gCI (S := Unit) l yX4_writesX vc_X4_writesX { frames := 0, cells := 0, slots := 0, locals := 0 } (dC, dI) (gTY cI cT cS) sz [.ref (ad 1), .int a1] (Wd 153 (cfC ad cI cT cS) σ) (fun (r : Int32) (_ : Unit) => r = b2i o) (fun (_ : Unit) => (Wd 153 (cfC ad cI cT cS) σ)) 0 0 := by
  refine Met.ofW (cc := cX4_writesX) (maxL := 2) (ret := (some .boolean)) (by decide) rfl ?_
  intro p e s m args below meth c s₁ B hml hv
  obtain ⟨rfl, hsz, hP, hK, hD0⟩ := hv
  have hx := B.exec
  have hb := B.bytes
  have hr := B.returns
  have hts := atoms_spec (ws := vc_X4_writesX) B.pre
  have hown : s.vm.findClass RX4 = some m.cls := findClass_of_methodNamed B.named
  have hlocks := B.notSynchronized
  subst hsz
  have hD := hD0.self (sz := s.heap.size)
  generalize hAe : va_A (Wd 153 (cfC ad cI cT cS) σ) s.heap.size = A at hD ⊢
  have hA : ∀ q : Nat, s.heap.size ≤ q → A q := fun q h => by rw [← hAe]; exact Or.inr h
  clear hAe hD0
  refine gstart (fun H locs hHe hLe => ?_)
  have hS : va_S A s.heap H locs := by rw [← hHe, ← hLe]; exact va_S.rf
  replace hP : va_P (dC, dI) vwCl (Wd 153 (cfC ad cI cT cS) σ) H := by rw [← hHe]; exact hP
  clear hHe hLe
  have hl := lv_entry ([.ref (ad 1), .int a1]) (n := 2) (Nat.le_of_ble_eq_true rfl)
  rw [lg_entry_eq]
  generalize (lg_sl ([.ref (ad 1), .int a1]) ++ List.replicate (2 - (lg_sl ([.ref (ad 1), .int a1])).length) Slot.unset).toArray = ls at hl ⊢
  replace hl : lv_has ls 2 [(0, .ref (ad 1)), (1, .int a1)] := hl
  unfold zf_X4_writesX at h
  have J15 : ∀ (w0_15 : Bool) (H : Heap) (locs : List Loc) (ls : Array Slot), zb_X4_writesX_15 w0_15 = some o → va_P (dC, dI) vwCl (Wd 153 (cfC ad cI cT cS) σ) H → va_D A (Wd 153 (cfC ad cI cT cS) σ) → va_S A s.heap H locs → lv_has ls 2 [] → W p l e (headSpec vc_X4_writesX { frames := 0, cells := 0, slots := 0, locals := 0 }).room s m (List.toArray (α := Value) [.ref (ad 1), .int a1]) below meth c H locs 0 0 (MQ below (va_Qi (fun (r : Int32) (_ : Unit) => r = b2i o) (gB (dC, dI) A (fun (_ : Unit) => (Wd 153 (cfC ad cI cT cS) σ))) A) (List.toArray (α := Value) [.ref (ad 1), .int a1]) s 0 0 A) (F0 m 15 ls [.int (b2i w0_15)]) := by
    intro w0_15 H locs ls h hP hD hS hl
    unfold zb_X4_writesX_15 at h
    have h9 := Option.some.inj h
    exact wretz hx hb hr hlocks (b2i_or _) hP hD hS (by show _ = _; rw [← h9]; first | done | rfl) rfl dX4_writesX_15
  refine lv_aload_n hx hb dX4_writesX_0 rfl (lv_at hl 0 rfl) ?_
  refine gf_X4_0 hx hb hts iw_X4_writesX_X4 hown hK hP (hts (.fieldLink RX4 9 "TraceTrees$Program" "kind" "[I") (List.mem_of_getElem? (i := 1) rfl)) dX4_writesX_1 ?_
  refine lv_iload_n hx hb dX4_writesX_4 rfl (lv_at hl 1 rfl) ?_
  obtain ⟨hi1, h⟩ := bd_inv h
  refine wald hx hb hK hP aP2 hi1 dX4_writesX_5 ?_
  refine lv_iconst (v := 5) hx hb dX4_writesX_6 (by decide) ?_
  refine lv_icmp_gt (tgt := 14) hx hb dX4_writesX_7 (by decide) (fun c2 => ?_) (fun c2 => ?_)
  · replace h := ifp (c2) h
    refine lv_iconst (v := 0) hx hb dX4_writesX_14 (by decide) ?_
    exact J15 false H locs ls h hP hD hS (lv_sub (l' := []) hl [] rfl)
  · replace h := ifn (c2) h
    refine lv_iconst (v := 1) hx hb dX4_writesX_10 (by decide) ?_
    refine lv_goto (tgt := 15) hx hb dX4_writesX_11 (by decide) ?_
    exact J15 true H locs ls h hP hD hS (lv_sub (l' := []) hl [] rfl)
def zf_X4_x (a1 : Int32) (σ : Sg) : Option (Int32) := bd a1 24 (obd (zf_J9_floorMod_7cf53 (σ 3 a1.toNatClampNeg) (8 : Int32)) (fun r2 => some r2))
def oc_X4_x : List Cond := [.fieldLink RX4 15 "TraceTrees$Program" "a" "[I", .methodLink RX4 32 yJ9_floorMod_7cf53, .static yJ9_floorMod_7cf53, .initialized RJ9]
def vc_X4_x : List Cond := .code yX4_x cX4_x 2 (some .int) :: (oc_X4_x ++ (wsX40 ++ (vc_J9_floorMod_7cf53)))
theorem iw_X4_x_X4 : ∀ w ∈ wsX40, w ∈ vc_X4_x := fun _ h => List.mem_cons_of_mem _ (List.mem_append_right _ (List.mem_append_left _ h))
theorem ic_X4_x_c_J9_floorMod_7cf53 : ∀ w ∈ vc_J9_floorMod_7cf53, w ∈ vc_X4_x := fun _ h => List.mem_cons_of_mem _ (List.mem_append_right _ (List.mem_append_right _ (h)))
theorem gd_c_X4_x : (vc_X4_x).all goodWord = true := gall_cons rfl (gall_app (by decide +kernel) (gall_app gw_X4 gd_c_J9_floorMod_7cf53))
set_option maxHeartbeats 4000000 in
set_option maxRecDepth 100000 in
theorem c_X4_x (l : Launch) (dC : Nat → ClassId) (dI : Nat → Nat → Nat) (cI cT cS : ClassId) (sz : Nat) (ad : Nat → Nat) (a1 : Int32) (σ : Sg) (o : Int32) (h : zf_X4_x a1 σ = some o) : gCI (S := Unit) l yX4_x vc_X4_x { frames := 1, cells := 0, slots := 0, locals := 22 } (dC, dI) (gTY cI cT cS) sz [.ref (ad 1), .int a1] (Wd 153 (cfC ad cI cT cS) σ) (fun (r : Int32) (_ : Unit) => r = o) (fun (_ : Unit) => (Wd 153 (cfC ad cI cT cS) σ)) 0 0 := by
  refine Met.ofW (cc := cX4_x) (maxL := 2) (ret := (some .int)) (by decide) rfl ?_
  intro p e s m args below meth c s₁ B hml hv
  obtain ⟨rfl, hsz, hP, hK, hD0⟩ := hv
  have hx := B.exec
  have hb := B.bytes
  have hr := B.returns
  have hts := atoms_spec (ws := vc_X4_x) B.pre
  have hown : s.vm.findClass RX4 = some m.cls := findClass_of_methodNamed B.named
  have hlocks := B.notSynchronized
  subst hsz
  have hD := hD0.self (sz := s.heap.size)
  generalize hAe : va_A (Wd 153 (cfC ad cI cT cS) σ) s.heap.size = A at hD ⊢
  have hA : ∀ q : Nat, s.heap.size ≤ q → A q := fun q h => by rw [← hAe]; exact Or.inr h
  clear hAe hD0
  refine gstart (fun H locs hHe hLe => ?_)
  have hS : va_S A s.heap H locs := by rw [← hHe, ← hLe]; exact va_S.rf
  replace hP : va_P (dC, dI) vwCl (Wd 153 (cfC ad cI cT cS) σ) H := by rw [← hHe]; exact hP
  clear hHe hLe
  have hl := lv_entry ([.ref (ad 1), .int a1]) (n := 2) (Nat.le_of_ble_eq_true rfl)
  rw [lg_entry_eq]
  generalize (lg_sl ([.ref (ad 1), .int a1]) ++ List.replicate (2 - (lg_sl ([.ref (ad 1), .int a1])).length) Slot.unset).toArray = ls at hl ⊢
  replace hl : lv_has ls 2 [(0, .ref (ad 1)), (1, .int a1)] := hl
  unfold zf_X4_x at h
  refine lv_aload_n hx hb dX4_x_0 rfl (lv_at hl 0 rfl) ?_
  refine gf_X4_1 hx hb hts iw_X4_x_X4 hown hK hP (hts (.fieldLink RX4 15 "TraceTrees$Program" "a" "[I") (List.mem_of_getElem? (i := 1) rfl)) dX4_x_1 ?_
  refine lv_iload_n hx hb dX4_x_4 rfl (lv_at hl 1 rfl) ?_
  obtain ⟨hi1, h⟩ := bd_inv h
  refine wald hx hb hK hP aP3 hi1 dX4_x_5 ?_
  refine lv_bipush (v := 8) hx hb dX4_x_6 (by decide) ?_
  obtain ⟨r2, hc2, h⟩ := obd_inv h
  refine wcalli (S := Unit) (va_runS (As := [.int (σ 3 a1.toNatClampNeg), .int (8 : Int32)]) (rest := []) ⟨hx, hb, hml, hown, hts⟩ (c_J9_floorMod_7cf53 l dC dI cI cT cS H.size (Wd 153 (cfC ad cI cT cS) σ)  (σ 3 a1.toNatClampNeg) (8 : Int32) _ hc2) (va_cwS 2 hts (gWS (List.mem_of_getElem? (i := 2) rfl) (List.mem_of_getElem? (i := 3) rfl) (List.mem_of_getElem? (i := 4) rfl) ic_X4_x_c_J9_floorMod_7cf53 gd_c_J9_floorMod_7cf53) rfl rfl rfl (by decide +kernel) ⟨(Nat.le_of_ble_eq_true rfl), (Nat.le_of_ble_eq_true rfl)⟩) (gpS hP hK hD) rfl rfl hl.1 rfl (lv_room (Nat.le_of_ble_eq_true rfl)) dX4_x_8 ⟨(Nat.le_of_ble_eq_true rfl), (Nat.le_of_ble_eq_true rfl)⟩) hP hD hS hA (fun rr3 _ H locs hr3 hP hD hS => ?_)
  refine lv_nm (y := r2) hr3 ?_
  have h9 := Option.some.inj h
  exact wreti hx hb hr hlocks hP hD hS (by show _ = _; rw [← h9]; first | done | rfl) rfl dX4_x_11
def zf_X5_put (kX5 : Nat) (a1 : Int32) (a2 : Int32) (a3 : Int32) (σ : Sg) : Option (Sg) := bd a1 8 (some (su (su σ (kX5 + 1) a1.toNatClampNeg a2) (kX5 + 2) a1.toNatClampNeg a3))
def oc_X5_put : List Cond := [.fieldLink RX5 9 "TraceTrees$Registers" "kind" "[I", .fieldLink RX5 15 "TraceTrees$Registers" "bits" "[I"]
def vc_X5_put : List Cond := .code yX5_put cX5_put 4 none :: (oc_X5_put ++ (wsX50))
theorem iw_X5_put_X5 : ∀ w ∈ wsX50, w ∈ vc_X5_put := fun _ h => List.mem_cons_of_mem _ (List.mem_append_right _ (h))
theorem gd_c_X5_put : (vc_X5_put).all goodWord = true := gall_cons rfl (gall_app (by decide +kernel) gw_X5)
set_option maxHeartbeats 4000000 in
set_option maxRecDepth 100000 in
theorem c_X5_put (l : Launch) (dC : Nat → ClassId) (dI : Nat → Nat → Nat) (cI cT cS : ClassId) (sz : Nat) (ad : Nat → Nat) (kX5 : Nat) (hX5 : isRg kX5) (a1 : Int32) (a2 : Int32) (a3 : Int32) (σ : Sg) (o : Sg) (h : zf_X5_put kX5 a1 a2 a3 σ = some o) : gCV (S := Unit) l yX5_put vc_X5_put { frames := 0, cells := 0, slots := 0, locals := 0 } (dC, dI) (gTY cI cT cS) sz [.ref (ad kX5), .int a1, .int a2, .int a3] (Wd 153 (cfC ad cI cT cS) σ) (fun (_ : Unit) => True) (fun (_ : Unit) => (Wd 153 (cfC ad cI cT cS) o)) 0 0 := by
  refine Met.ofW (cc := cX5_put) (maxL := 4) (ret := none) (by decide) rfl ?_
  intro p e s m args below meth c s₁ B hml hv
  obtain ⟨rfl, hsz, hP, hK, hD0⟩ := hv
  have hx := B.exec
  have hb := B.bytes
  have hr := B.returns
  have hts := atoms_spec (ws := vc_X5_put) B.pre
  have hown : s.vm.findClass RX5 = some m.cls := findClass_of_methodNamed B.named
  have hlocks := B.notSynchronized
  subst hsz
  have hD := hD0.self (sz := s.heap.size)
  generalize hAe : va_A (Wd 153 (cfC ad cI cT cS) σ) s.heap.size = A at hD ⊢
  have hA : ∀ q : Nat, s.heap.size ≤ q → A q := fun q h => by rw [← hAe]; exact Or.inr h
  clear hAe hD0
  refine gstart (fun H locs hHe hLe => ?_)
  have hS : va_S A s.heap H locs := by rw [← hHe, ← hLe]; exact va_S.rf
  replace hP : va_P (dC, dI) vwCl (Wd 153 (cfC ad cI cT cS) σ) H := by rw [← hHe]; exact hP
  clear hHe hLe
  have hl := lv_entry ([.ref (ad kX5), .int a1, .int a2, .int a3]) (n := 4) (Nat.le_of_ble_eq_true rfl)
  rw [lg_entry_eq]
  generalize (lg_sl ([.ref (ad kX5), .int a1, .int a2, .int a3]) ++ List.replicate (4 - (lg_sl ([.ref (ad kX5), .int a1, .int a2, .int a3])).length) Slot.unset).toArray = ls at hl ⊢
  replace hl : lv_has ls 4 [(0, .ref (ad kX5)), (1, .int a1), (2, .int a2), (3, .int a3)] := hl
  unfold zf_X5_put at h
  refine lv_aload_n hx hb dX5_put_0 rfl (lv_at hl 0 rfl) ?_
  refine gf_X5_0 hX5 hx hb hts iw_X5_put_X5 hown hK hP (hts (.fieldLink RX5 9 "TraceTrees$Registers" "kind" "[I") (List.mem_of_getElem? (i := 1) rfl)) dX5_put_1 ?_
  refine lv_iload_n hx hb dX5_put_4 rfl (lv_at hl 1 rfl) ?_
  refine lv_iload_n hx hb dX5_put_5 rfl (lv_at hl 2 rfl) ?_
  obtain ⟨hi1, h⟩ := bd_inv h
  refine wast hx hb hK hP hD hS (aG1 hX5) hi1 dX5_put_6 (fun H locs hP hD hS => ?_)
  refine lv_aload_n hx hb dX5_put_7 rfl (lv_at hl 0 rfl) ?_
  refine gf_X5_1 hX5 hx hb hts iw_X5_put_X5 hown hK hP (hts (.fieldLink RX5 15 "TraceTrees$Registers" "bits" "[I") (List.mem_of_getElem? (i := 2) rfl)) dX5_put_8 ?_
  refine lv_iload_n hx hb dX5_put_11 rfl (lv_at hl 1 rfl) ?_
  refine lv_iload_n hx hb dX5_put_12 rfl (lv_at hl 3 rfl) ?_
  refine wast hx hb hK hP hD hS (aG2 hX5) hi1 dX5_put_13 (fun H locs hP hD hS => ?_)
  have h9 := Option.some.inj h
  exact wretv hx hb hr hlocks hP hD hS trivial (by rw [← h9]) dX5_put_14
def zb_X4_readsY_36 (w0_36 : Bool) : Option (Bool) := some w0_36
def zb_X4_readsY_31  : Option (Bool) := (zb_X4_readsY_36 true)
def zb_X4_readsY_20 (a1 : Int32) (σ : Sg) : Option (Bool) := bd a1 24 ((if (σ 2 a1.toNatClampNeg) = (6 : Int32) then zb_X4_readsY_31 else (zb_X4_readsY_36 false)))
def zf_X4_readsY (a1 : Int32) (σ : Sg) : Option (Bool) := bd a1 24 ((if (σ 2 a1.toNatClampNeg) < (2 : Int32) then (zb_X4_readsY_20 a1 σ) else (if (σ 2 a1.toNatClampNeg) ≤ (4 : Int32) then zb_X4_readsY_31 else (zb_X4_readsY_20 a1 σ))))
def oc_X4_readsY : List Cond := [.fieldLink RX4 9 "TraceTrees$Program" "kind" "[I"]
def vc_X4_readsY : List Cond := .code yX4_readsY cX4_readsY 2 (some .boolean) :: (oc_X4_readsY ++ (wsX40))
theorem iw_X4_readsY_X4 : ∀ w ∈ wsX40, w ∈ vc_X4_readsY := fun _ h => List.mem_cons_of_mem _ (List.mem_append_right _ (h))
theorem gd_c_X4_readsY : (vc_X4_readsY).all goodWord = true := gall_cons rfl (gall_app (by decide +kernel) gw_X4)
set_option maxHeartbeats 4000000 in
set_option maxRecDepth 100000 in
theorem c_X4_readsY (l : Launch) (dC : Nat → ClassId) (dI : Nat → Nat → Nat) (cI cT cS : ClassId) (sz : Nat) (ad : Nat → Nat) (a1 : Int32) (σ : Sg) (o : Bool) (h : zf_X4_readsY a1 σ = some o) : gCI (S := Unit) l yX4_readsY vc_X4_readsY { frames := 0, cells := 0, slots := 0, locals := 0 } (dC, dI) (gTY cI cT cS) sz [.ref (ad 1), .int a1] (Wd 153 (cfC ad cI cT cS) σ) (fun (r : Int32) (_ : Unit) => r = b2i o) (fun (_ : Unit) => (Wd 153 (cfC ad cI cT cS) σ)) 0 0 := by
  refine Met.ofW (cc := cX4_readsY) (maxL := 2) (ret := (some .boolean)) (by decide) rfl ?_
  intro p e s m args below meth c s₁ B hml hv
  obtain ⟨rfl, hsz, hP, hK, hD0⟩ := hv
  have hx := B.exec
  have hb := B.bytes
  have hr := B.returns
  have hts := atoms_spec (ws := vc_X4_readsY) B.pre
  have hown : s.vm.findClass RX4 = some m.cls := findClass_of_methodNamed B.named
  have hlocks := B.notSynchronized
  subst hsz
  have hD := hD0.self (sz := s.heap.size)
  generalize hAe : va_A (Wd 153 (cfC ad cI cT cS) σ) s.heap.size = A at hD ⊢
  have hA : ∀ q : Nat, s.heap.size ≤ q → A q := fun q h => by rw [← hAe]; exact Or.inr h
  clear hAe hD0
  refine gstart (fun H locs hHe hLe => ?_)
  have hS : va_S A s.heap H locs := by rw [← hHe, ← hLe]; exact va_S.rf
  replace hP : va_P (dC, dI) vwCl (Wd 153 (cfC ad cI cT cS) σ) H := by rw [← hHe]; exact hP
  clear hHe hLe
  have hl := lv_entry ([.ref (ad 1), .int a1]) (n := 2) (Nat.le_of_ble_eq_true rfl)
  rw [lg_entry_eq]
  generalize (lg_sl ([.ref (ad 1), .int a1]) ++ List.replicate (2 - (lg_sl ([.ref (ad 1), .int a1])).length) Slot.unset).toArray = ls at hl ⊢
  replace hl : lv_has ls 2 [(0, .ref (ad 1)), (1, .int a1)] := hl
  unfold zf_X4_readsY at h
  have J36 : ∀ (w0_36 : Bool) (H : Heap) (locs : List Loc) (ls : Array Slot), zb_X4_readsY_36 w0_36 = some o → va_P (dC, dI) vwCl (Wd 153 (cfC ad cI cT cS) σ) H → va_D A (Wd 153 (cfC ad cI cT cS) σ) → va_S A s.heap H locs → lv_has ls 2 [] → W p l e (headSpec vc_X4_readsY { frames := 0, cells := 0, slots := 0, locals := 0 }).room s m (List.toArray (α := Value) [.ref (ad 1), .int a1]) below meth c H locs 0 0 (MQ below (va_Qi (fun (r : Int32) (_ : Unit) => r = b2i o) (gB (dC, dI) A (fun (_ : Unit) => (Wd 153 (cfC ad cI cT cS) σ))) A) (List.toArray (α := Value) [.ref (ad 1), .int a1]) s 0 0 A) (F0 m 36 ls [.int (b2i w0_36)]) := by
    intro w0_36 H locs ls h hP hD hS hl
    unfold zb_X4_readsY_36 at h
    have h9 := Option.some.inj h
    exact wretz hx hb hr hlocks (b2i_or _) hP hD hS (by show _ = _; rw [← h9]; first | done | rfl) rfl dX4_readsY_36
  have J31 : ∀  (H : Heap) (locs : List Loc) (ls : Array Slot), zb_X4_readsY_31 = some o → va_P (dC, dI) vwCl (Wd 153 (cfC ad cI cT cS) σ) H → va_D A (Wd 153 (cfC ad cI cT cS) σ) → va_S A s.heap H locs → lv_has ls 2 [] → W p l e (headSpec vc_X4_readsY { frames := 0, cells := 0, slots := 0, locals := 0 }).room s m (List.toArray (α := Value) [.ref (ad 1), .int a1]) below meth c H locs 0 0 (MQ below (va_Qi (fun (r : Int32) (_ : Unit) => r = b2i o) (gB (dC, dI) A (fun (_ : Unit) => (Wd 153 (cfC ad cI cT cS) σ))) A) (List.toArray (α := Value) [.ref (ad 1), .int a1]) s 0 0 A) (F0 m 31 ls []) := by
    intro  H locs ls h hP hD hS hl
    unfold zb_X4_readsY_31 at h
    refine lv_iconst (v := 1) hx hb dX4_readsY_31 (by decide) ?_
    refine lv_goto (tgt := 36) hx hb dX4_readsY_32 (by decide) ?_
    exact J36 true H locs ls h hP hD hS (lv_sub (l' := []) hl [] rfl)
  have J20 : ∀  (H : Heap) (locs : List Loc) (ls : Array Slot), zb_X4_readsY_20 a1 σ = some o → va_P (dC, dI) vwCl (Wd 153 (cfC ad cI cT cS) σ) H → va_D A (Wd 153 (cfC ad cI cT cS) σ) → va_S A s.heap H locs → lv_has ls 2 [(0, .ref (ad 1)), (1, .int a1)] → W p l e (headSpec vc_X4_readsY { frames := 0, cells := 0, slots := 0, locals := 0 }).room s m (List.toArray (α := Value) [.ref (ad 1), .int a1]) below meth c H locs 0 0 (MQ below (va_Qi (fun (r : Int32) (_ : Unit) => r = b2i o) (gB (dC, dI) A (fun (_ : Unit) => (Wd 153 (cfC ad cI cT cS) σ))) A) (List.toArray (α := Value) [.ref (ad 1), .int a1]) s 0 0 A) (F0 m 20 ls []) := by
    intro  H locs ls h hP hD hS hl
    unfold zb_X4_readsY_20 at h
    refine lv_aload_n hx hb dX4_readsY_20 rfl (lv_at hl 0 rfl) ?_
    refine gf_X4_0 hx hb hts iw_X4_readsY_X4 hown hK hP (hts (.fieldLink RX4 9 "TraceTrees$Program" "kind" "[I") (List.mem_of_getElem? (i := 1) rfl)) dX4_readsY_21 ?_
    refine lv_iload_n hx hb dX4_readsY_24 rfl (lv_at hl 1 rfl) ?_
    obtain ⟨hi4, h⟩ := bd_inv h
    refine wald hx hb hK hP aP2 hi4 dX4_readsY_25 ?_
    refine lv_bipush (v := 6) hx hb dX4_readsY_26 (by decide) ?_
    refine lv_icmp_ne (tgt := 35) hx hb dX4_readsY_28 (by decide) (fun c5 => ?_) (fun c5 => ?_)
    · replace h := ifn (c5) h
      refine lv_iconst (v := 0) hx hb dX4_readsY_35 (by decide) ?_
      exact J36 false H locs ls h hP hD hS (lv_sub (l' := []) hl [] rfl)
    · replace h := ifp (c5) h
      exact J31  H locs ls h hP hD hS (lv_sub (l' := []) hl [] rfl)
  refine lv_aload_n hx hb dX4_readsY_0 rfl (lv_at hl 0 rfl) ?_
  refine gf_X4_0 hx hb hts iw_X4_readsY_X4 hown hK hP (hts (.fieldLink RX4 9 "TraceTrees$Program" "kind" "[I") (List.mem_of_getElem? (i := 1) rfl)) dX4_readsY_1 ?_
  refine lv_iload_n hx hb dX4_readsY_4 rfl (lv_at hl 1 rfl) ?_
  obtain ⟨hi1, h⟩ := bd_inv h
  refine wald hx hb hK hP aP2 hi1 dX4_readsY_5 ?_
  refine lv_iconst (v := 2) hx hb dX4_readsY_6 (by decide) ?_
  refine lv_icmp_lt (tgt := 20) hx hb dX4_readsY_7 (by decide) (fun c2 => ?_) (fun c2 => ?_)
  · replace h := ifp (c2) h
    exact J20  H locs ls h hP hD hS (lv_sub (l' := [(0, .ref (ad 1)), (1, .int a1)]) hl [0, 1] rfl)
  · replace h := ifn (c2) h
    refine lv_aload_n hx hb dX4_readsY_10 rfl (lv_at hl 0 rfl) ?_
    refine gf_X4_0 hx hb hts iw_X4_readsY_X4 hown hK hP (hts (.fieldLink RX4 9 "TraceTrees$Program" "kind" "[I") (List.mem_of_getElem? (i := 1) rfl)) dX4_readsY_11 ?_
    refine lv_iload_n hx hb dX4_readsY_14 rfl (lv_at hl 1 rfl) ?_
    refine wald hx hb hK hP aP2 hi1 dX4_readsY_15 ?_
    refine lv_iconst (v := 4) hx hb dX4_readsY_16 (by decide) ?_
    refine lv_icmp_le (tgt := 31) hx hb dX4_readsY_17 (by decide) (fun c3 => ?_) (fun c3 => ?_)
    · replace h := ifp (c3) h
      exact J31  H locs ls h hP hD hS (lv_sub (l' := []) hl [] rfl)
    · replace h := ifn (c3) h
      exact J20  H locs ls h hP hD hS (lv_sub (l' := [(0, .ref (ad 1)), (1, .int a1)]) hl [0, 1] rfl)
def zb_X4_readsZ_44 (w0_44 : Bool) : Option (Bool) := some w0_44
def zb_X4_readsZ_39  : Option (Bool) := (zb_X4_readsZ_44 true)
def zf_X4_readsZ (a1 : Int32) (σ : Sg) : Option (Bool) := obd (zf_X4_readsY a1 σ) (fun r1 => (if r1 = true then zb_X4_readsZ_39 else bd a1 24 ((if (σ 2 a1.toNatClampNeg) = (1 : Int32) then zb_X4_readsZ_39 else (if (σ 2 a1.toNatClampNeg) = (5 : Int32) then zb_X4_readsZ_39 else (if (σ 2 a1.toNatClampNeg) = (8 : Int32) then zb_X4_readsZ_39 else (zb_X4_readsZ_44 false)))))))
def oc_X4_readsZ : List Cond := [.methodLink RX4 38 yX4_readsY, .instanceMethod yX4_readsY, .selects RX4 yX4_readsY yX4_readsY, .initialized RX4, .fieldLink RX4 9 "TraceTrees$Program" "kind" "[I"]
def vc_X4_readsZ : List Cond := .code yX4_readsZ cX4_readsZ 2 (some .boolean) :: (oc_X4_readsZ ++ (wsX40 ++ (vc_X4_readsY)))
theorem iw_X4_readsZ_X4 : ∀ w ∈ wsX40, w ∈ vc_X4_readsZ := fun _ h => List.mem_cons_of_mem _ (List.mem_append_right _ (List.mem_append_left _ h))
theorem ic_X4_readsZ_c_X4_readsY : ∀ w ∈ vc_X4_readsY, w ∈ vc_X4_readsZ := fun _ h => List.mem_cons_of_mem _ (List.mem_append_right _ (List.mem_append_right _ (h)))
theorem gd_c_X4_readsZ : (vc_X4_readsZ).all goodWord = true := gall_cons rfl (gall_app (by decide +kernel) (gall_app gw_X4 gd_c_X4_readsY))
set_option maxHeartbeats 4000000 in
set_option maxRecDepth 100000 in
theorem c_X4_readsZ (l : Launch) (dC : Nat → ClassId) (dI : Nat → Nat → Nat) (cI cT cS : ClassId) (sz : Nat) (ad : Nat → Nat) (a1 : Int32) (σ : Sg) (o : Bool) (h : zf_X4_readsZ a1 σ = some o) : gCI (S := Unit) l yX4_readsZ vc_X4_readsZ { frames := 1, cells := 0, slots := 0, locals := 21 } (dC, dI) (gTY cI cT cS) sz [.ref (ad 1), .int a1] (Wd 153 (cfC ad cI cT cS) σ) (fun (r : Int32) (_ : Unit) => r = b2i o) (fun (_ : Unit) => (Wd 153 (cfC ad cI cT cS) σ)) 0 0 := by
  refine Met.ofW (cc := cX4_readsZ) (maxL := 2) (ret := (some .boolean)) (by decide) rfl ?_
  intro p e s m args below meth c s₁ B hml hv
  obtain ⟨rfl, hsz, hP, hK, hD0⟩ := hv
  have hx := B.exec
  have hb := B.bytes
  have hr := B.returns
  have hts := atoms_spec (ws := vc_X4_readsZ) B.pre
  have hown : s.vm.findClass RX4 = some m.cls := findClass_of_methodNamed B.named
  have hlocks := B.notSynchronized
  subst hsz
  have hD := hD0.self (sz := s.heap.size)
  generalize hAe : va_A (Wd 153 (cfC ad cI cT cS) σ) s.heap.size = A at hD ⊢
  have hA : ∀ q : Nat, s.heap.size ≤ q → A q := fun q h => by rw [← hAe]; exact Or.inr h
  clear hAe hD0
  refine gstart (fun H locs hHe hLe => ?_)
  have hS : va_S A s.heap H locs := by rw [← hHe, ← hLe]; exact va_S.rf
  replace hP : va_P (dC, dI) vwCl (Wd 153 (cfC ad cI cT cS) σ) H := by rw [← hHe]; exact hP
  clear hHe hLe
  have hl := lv_entry ([.ref (ad 1), .int a1]) (n := 2) (Nat.le_of_ble_eq_true rfl)
  rw [lg_entry_eq]
  generalize (lg_sl ([.ref (ad 1), .int a1]) ++ List.replicate (2 - (lg_sl ([.ref (ad 1), .int a1])).length) Slot.unset).toArray = ls at hl ⊢
  replace hl : lv_has ls 2 [(0, .ref (ad 1)), (1, .int a1)] := hl
  unfold zf_X4_readsZ at h
  have J44 : ∀ (w0_44 : Bool) (H : Heap) (locs : List Loc) (ls : Array Slot), zb_X4_readsZ_44 w0_44 = some o → va_P (dC, dI) vwCl (Wd 153 (cfC ad cI cT cS) σ) H → va_D A (Wd 153 (cfC ad cI cT cS) σ) → va_S A s.heap H locs → lv_has ls 2 [] → W p l e (headSpec vc_X4_readsZ { frames := 1, cells := 0, slots := 0, locals := 21 }).room s m (List.toArray (α := Value) [.ref (ad 1), .int a1]) below meth c H locs 0 0 (MQ below (va_Qi (fun (r : Int32) (_ : Unit) => r = b2i o) (gB (dC, dI) A (fun (_ : Unit) => (Wd 153 (cfC ad cI cT cS) σ))) A) (List.toArray (α := Value) [.ref (ad 1), .int a1]) s 0 0 A) (F0 m 44 ls [.int (b2i w0_44)]) := by
    intro w0_44 H locs ls h hP hD hS hl
    unfold zb_X4_readsZ_44 at h
    have h9 := Option.some.inj h
    exact wretz hx hb hr hlocks (b2i_or _) hP hD hS (by show _ = _; rw [← h9]; first | done | rfl) rfl dX4_readsZ_44
  have J39 : ∀  (H : Heap) (locs : List Loc) (ls : Array Slot), zb_X4_readsZ_39 = some o → va_P (dC, dI) vwCl (Wd 153 (cfC ad cI cT cS) σ) H → va_D A (Wd 153 (cfC ad cI cT cS) σ) → va_S A s.heap H locs → lv_has ls 2 [] → W p l e (headSpec vc_X4_readsZ { frames := 1, cells := 0, slots := 0, locals := 21 }).room s m (List.toArray (α := Value) [.ref (ad 1), .int a1]) below meth c H locs 0 0 (MQ below (va_Qi (fun (r : Int32) (_ : Unit) => r = b2i o) (gB (dC, dI) A (fun (_ : Unit) => (Wd 153 (cfC ad cI cT cS) σ))) A) (List.toArray (α := Value) [.ref (ad 1), .int a1]) s 0 0 A) (F0 m 39 ls []) := by
    intro  H locs ls h hP hD hS hl
    unfold zb_X4_readsZ_39 at h
    refine lv_iconst (v := 1) hx hb dX4_readsZ_39 (by decide) ?_
    refine lv_goto (tgt := 44) hx hb dX4_readsZ_40 (by decide) ?_
    exact J44 true H locs ls h hP hD hS (lv_sub (l' := []) hl [] rfl)
  refine lv_aload_n hx hb dX4_readsZ_0 rfl (lv_at hl 0 rfl) ?_
  refine lv_iload_n hx hb dX4_readsZ_1 rfl (lv_at hl 1 rfl) ?_
  obtain ⟨r1, hc1, h⟩ := obd_inv h
  refine wcalli (S := Unit) (va_runV (As := [.int a1]) (rest := []) ⟨hx, hb, hml, hown, hts⟩ (c_X4_readsY l dC dI cI cT cS H.size ad  a1 σ _ hc1) (cwV 1 hts (gWV (List.mem_of_getElem? (i := 1) rfl) (List.mem_of_getElem? (i := 2) rfl) (List.mem_of_getElem? (i := 3) rfl) (List.mem_of_getElem? (i := 4) rfl) ic_X4_readsZ_c_X4_readsY gd_c_X4_readsY) rfl rfl rfl (by decide +kernel) ⟨(Nat.le_of_ble_eq_true rfl), (Nat.le_of_ble_eq_true rfl)⟩) (wpV (q := (RX4, TX4, 5)) hP hK hD oX4 rfl) rfl rfl hl.1 rfl (lv_room (Nat.le_of_ble_eq_true rfl)) dX4_readsZ_2 ⟨(Nat.le_of_ble_eq_true rfl), (Nat.le_of_ble_eq_true rfl)⟩) hP hD hS hA (fun rr2 _ H locs hr2 hP hD hS => ?_)
  refine lv_nm (y := b2i r1) hr2 ?_
  refine lv_if_ne (tgt := 39) hx hb dX4_readsZ_5 (by decide) (fun c3 => ?_) (fun c3 => ?_)
  · replace h := ifp (b2i_1 c3) h
    exact J39  H locs ls h hP hD hS (lv_sub (l' := []) hl [] rfl)
  · replace h := ifn (b2i_0 c3) h
    refine lv_aload_n hx hb dX4_readsZ_8 rfl (lv_at hl 0 rfl) ?_
    refine gf_X4_0 hx hb hts iw_X4_readsZ_X4 hown hK hP (hts (.fieldLink RX4 9 "TraceTrees$Program" "kind" "[I") (List.mem_of_getElem? (i := 5) rfl)) dX4_readsZ_9 ?_
    refine lv_iload_n hx hb dX4_readsZ_12 rfl (lv_at hl 1 rfl) ?_
    obtain ⟨hi4, h⟩ := bd_inv h
    refine wald hx hb hK hP aP2 hi4 dX4_readsZ_13 ?_
    refine lv_iconst (v := 1) hx hb dX4_readsZ_14 (by decide) ?_
    refine lv_icmp_eq (tgt := 39) hx hb dX4_readsZ_15 (by decide) (fun c5 => ?_) (fun c5 => ?_)
    · replace h := ifp (c5) h
      exact J39  H locs ls h hP hD hS (lv_sub (l' := []) hl [] rfl)
    · replace h := ifn (c5) h
      refine lv_aload_n hx hb dX4_readsZ_18 rfl (lv_at hl 0 rfl) ?_
      refine gf_X4_0 hx hb hts iw_X4_readsZ_X4 hown hK hP (hts (.fieldLink RX4 9 "TraceTrees$Program" "kind" "[I") (List.mem_of_getElem? (i := 5) rfl)) dX4_readsZ_19 ?_
      refine lv_iload_n hx hb dX4_readsZ_22 rfl (lv_at hl 1 rfl) ?_
      refine wald hx hb hK hP aP2 hi4 dX4_readsZ_23 ?_
      refine lv_iconst (v := 5) hx hb dX4_readsZ_24 (by decide) ?_
      refine lv_icmp_eq (tgt := 39) hx hb dX4_readsZ_25 (by decide) (fun c6 => ?_) (fun c6 => ?_)
      · replace h := ifp (c6) h
        exact J39  H locs ls h hP hD hS (lv_sub (l' := []) hl [] rfl)
      · replace h := ifn (c6) h
        refine lv_aload_n hx hb dX4_readsZ_28 rfl (lv_at hl 0 rfl) ?_
        refine gf_X4_0 hx hb hts iw_X4_readsZ_X4 hown hK hP (hts (.fieldLink RX4 9 "TraceTrees$Program" "kind" "[I") (List.mem_of_getElem? (i := 5) rfl)) dX4_readsZ_29 ?_
        refine lv_iload_n hx hb dX4_readsZ_32 rfl (lv_at hl 1 rfl) ?_
        refine wald hx hb hK hP aP2 hi4 dX4_readsZ_33 ?_
        refine lv_bipush (v := 8) hx hb dX4_readsZ_34 (by decide) ?_
        refine lv_icmp_ne (tgt := 43) hx hb dX4_readsZ_36 (by decide) (fun c7 => ?_) (fun c7 => ?_)
        · replace h := ifn (c7) h
          refine lv_iconst (v := 0) hx hb dX4_readsZ_43 (by decide) ?_
          exact J44 false H locs ls h hP hD hS (lv_sub (l' := []) hl [] rfl)
        · replace h := ifp (c7) h
          exact J39  H locs ls h hP hD hS (lv_sub (l' := []) hl [] rfl)
def zl_X5_become_2 (kX5 : Nat) (k1 : Nat) (x2 : Int32 × Sg) : Option (Bool × (Int32 × Sg)) := (if (8 : Int32) ≤ x2.1 then some (false, (x2.1, x2.2)) else bd x2.1 8 (obd (zf_X5_put kX5 x2.1 (x2.2 (k1 + 1) x2.1.toNatClampNeg) (x2.2 (k1 + 2) x2.1.toNatClampNeg) x2.2) (fun σ3 => some (true, ((x2.1 + (1 : Int32)), σ3)))))
def zf_X5_become (kX5 : Nat) (k1 : Nat) (σ : Sg) : Option (Sg) := obd (lp (X := Int32 × Sg) (zl_X5_become_2 kX5 k1) 1000 ((0 : Int32), σ)) (fun y2 => some y2.2)
def oc_X5_become : List Cond := [.fieldLink RX5 9 "TraceTrees$Registers" "kind" "[I", .fieldLink RX5 15 "TraceTrees$Registers" "bits" "[I", .methodLink RX5 18 yX5_put, .instanceMethod yX5_put, .selects RX5 yX5_put yX5_put, .initialized RX5]
def vc_X5_become : List Cond := .code yX5_become cX5_become 3 none :: (oc_X5_become ++ (wsX50 ++ (vc_X5_put)))
theorem iw_X5_become_X5 : ∀ w ∈ wsX50, w ∈ vc_X5_become := fun _ h => List.mem_cons_of_mem _ (List.mem_append_right _ (List.mem_append_left _ h))
theorem ic_X5_become_c_X5_put : ∀ w ∈ vc_X5_put, w ∈ vc_X5_become := fun _ h => List.mem_cons_of_mem _ (List.mem_append_right _ (List.mem_append_right _ (h)))
theorem gd_c_X5_become : (vc_X5_become).all goodWord = true := gall_cons rfl (gall_app (by decide +kernel) (gall_app gw_X5 gd_c_X5_put))
set_option maxHeartbeats 4000000 in
set_option maxRecDepth 100000 in
theorem c_X5_become (l : Launch) (dC : Nat → ClassId) (dI : Nat → Nat → Nat) (cI cT cS : ClassId) (sz : Nat) (ad : Nat → Nat) (kX5 : Nat) (hX5 : isRg kX5) (k1 : Nat) (hk1 : isRg k1) (σ : Sg) (o : Sg) (h : zf_X5_become kX5 k1 σ = some o) : gCV (S := Unit) l yX5_become vc_X5_become { frames := 1, cells := 0, slots := 0, locals := 23 } (dC, dI) (gTY cI cT cS) sz [.ref (ad kX5), .ref (ad k1)] (Wd 153 (cfC ad cI cT cS) σ) (fun (_ : Unit) => True) (fun (_ : Unit) => (Wd 153 (cfC ad cI cT cS) o)) 0 0 := by
  refine Met.ofW (cc := cX5_become) (maxL := 3) (ret := none) (by decide) rfl ?_
  intro p e s m args below meth c s₁ B hml hv
  obtain ⟨rfl, hsz, hP, hK, hD0⟩ := hv
  have hx := B.exec
  have hb := B.bytes
  have hr := B.returns
  have hts := atoms_spec (ws := vc_X5_become) B.pre
  have hown : s.vm.findClass RX5 = some m.cls := findClass_of_methodNamed B.named
  have hlocks := B.notSynchronized
  subst hsz
  have hD := hD0.self (sz := s.heap.size)
  generalize hAe : va_A (Wd 153 (cfC ad cI cT cS) σ) s.heap.size = A at hD ⊢
  have hA : ∀ q : Nat, s.heap.size ≤ q → A q := fun q h => by rw [← hAe]; exact Or.inr h
  clear hAe hD0
  refine gstart (fun H locs hHe hLe => ?_)
  have hS : va_S A s.heap H locs := by rw [← hHe, ← hLe]; exact va_S.rf
  replace hP : va_P (dC, dI) vwCl (Wd 153 (cfC ad cI cT cS) σ) H := by rw [← hHe]; exact hP
  clear hHe hLe
  have hl := lv_entry ([.ref (ad kX5), .ref (ad k1)]) (n := 3) (Nat.le_of_ble_eq_true rfl)
  rw [lg_entry_eq]
  generalize (lg_sl ([.ref (ad kX5), .ref (ad k1)]) ++ List.replicate (3 - (lg_sl ([.ref (ad kX5), .ref (ad k1)])).length) Slot.unset).toArray = ls at hl ⊢
  replace hl : lv_has ls 3 [(0, .ref (ad kX5)), (1, .ref (ad k1))] := hl
  unfold zf_X5_become at h
  refine lv_iconst (v := 0) hx hb dX5_become_0 (by decide) ?_
  refine lv_istore_n (lv' := [(2, .int (0 : Int32)), (0, .ref (ad kX5)), (1, .ref (ad k1))]) hx hb dX5_become_1 rfl hl (by decide) rfl (fun ls hl => ?_)
  obtain ⟨y2, hlp2, h⟩ := obd_inv h
  refine lp_W (fun x2 : Int32 × Sg => ∀ (H : Heap) (locs : List Loc) (ls : Array Slot), va_P (dC, dI) vwCl (Wd 153 (cfC ad cI cT cS) x2.2) H → va_D A (Wd 153 (cfC ad cI cT cS) x2.2) → va_S A s.heap H locs → lv_has ls 3 [(2, .int x2.1), (0, .ref (ad kX5)), (1, .ref (ad k1))] → W p l e (headSpec vc_X5_become { frames := 1, cells := 0, slots := 0, locals := 23 }).room s m (List.toArray (α := Value) [.ref (ad kX5), .ref (ad k1)]) below meth c H locs 0 0 (MQ below (va_Qv (fun (_ : Unit) => True) (gB (dC, dI) A (fun (_ : Unit) => (Wd 153 (cfC ad cI cT cS) o))) A) (List.toArray (α := Value) [.ref (ad kX5), .ref (ad k1)]) s 0 0 A) (F0 m 2 ls [])) (fun y2 : Int32 × Sg => ∀ (H : Heap) (locs : List Loc) (ls : Array Slot), va_P (dC, dI) vwCl (Wd 153 (cfC ad cI cT cS) y2.2) H → va_D A (Wd 153 (cfC ad cI cT cS) y2.2) → va_S A s.heap H locs → lv_has ls 3 [] → W p l e (headSpec vc_X5_become { frames := 1, cells := 0, slots := 0, locals := 23 }).room s m (List.toArray (α := Value) [.ref (ad kX5), .ref (ad k1)]) below meth c H locs 0 0 (MQ below (va_Qv (fun (_ : Unit) => True) (gB (dC, dI) A (fun (_ : Unit) => (Wd 153 (cfC ad cI cT cS) o))) A) (List.toArray (α := Value) [.ref (ad kX5), .ref (ad k1)]) s 0 0 A) (F0 m 31 ls [])) ?_ 1000 ((0 : Int32), σ) y2 hlp2 ?_ H locs ls hP hD hS (lv_sub (l' := [(2, .int (0 : Int32)), (0, .ref (ad kX5)), (1, .ref (ad k1))]) hl [0, 1, 2] rfl)
  · intro x2 yy2 h ht2 hf2 H locs ls hP hD hS hl
    unfold zl_X5_become_2 at h
    refine lv_iload_n hx hb dX5_become_2 rfl (lv_at hl 0 rfl) ?_
    refine lv_bipush (v := 8) hx hb dX5_become_3 (by decide) ?_
    refine lv_icmp_ge (tgt := 31) hx hb dX5_become_5 (by decide) (fun c1 => ?_) (fun c1 => ?_)
    · replace h := ifp (c1) h
      obtain rfl := Option.some.inj h
      exact hf2 rfl H locs ls hP hD hS (lv_sub (l' := []) hl [] rfl)
    · replace h := ifn (c1) h
      refine lv_aload_n hx hb dX5_become_8 rfl (lv_at hl 1 rfl) ?_
      refine lv_iload_n hx hb dX5_become_9 rfl (lv_at hl 0 rfl) ?_
      refine lv_aload_n hx hb dX5_become_10 rfl (lv_at hl 2 rfl) ?_
      refine gf_X5_0 hk1 hx hb hts iw_X5_become_X5 hown hK hP (hts (.fieldLink RX5 9 "TraceTrees$Registers" "kind" "[I") (List.mem_of_getElem? (i := 1) rfl)) dX5_become_11 ?_
      refine lv_iload_n hx hb dX5_become_14 rfl (lv_at hl 0 rfl) ?_
      obtain ⟨hi2, h⟩ := bd_inv h
      refine wald hx hb hK hP (aG1 hk1) hi2 dX5_become_15 ?_
      refine lv_aload_n hx hb dX5_become_16 rfl (lv_at hl 2 rfl) ?_
      refine gf_X5_1 hk1 hx hb hts iw_X5_become_X5 hown hK hP (hts (.fieldLink RX5 15 "TraceTrees$Registers" "bits" "[I") (List.mem_of_getElem? (i := 2) rfl)) dX5_become_17 ?_
      refine lv_iload_n hx hb dX5_become_20 rfl (lv_at hl 0 rfl) ?_
      refine wald hx hb hK hP (aG2 hk1) hi2 dX5_become_21 ?_
      obtain ⟨σ3, hc3, h⟩ := obd_inv h
      refine wcallv (S := Unit) (va_runV (As := [.int x2.1, .int (x2.2 (k1 + 1) x2.1.toNatClampNeg), .int (x2.2 (k1 + 2) x2.1.toNatClampNeg)]) (rest := []) ⟨hx, hb, hml, hown, hts⟩ (c_X5_put l dC dI cI cT cS H.size ad kX5 hX5 x2.1 (x2.2 (k1 + 1) x2.1.toNatClampNeg) (x2.2 (k1 + 2) x2.1.toNatClampNeg) x2.2 _ hc3) (cwV 3 hts (gWV (List.mem_of_getElem? (i := 3) rfl) (List.mem_of_getElem? (i := 4) rfl) (List.mem_of_getElem? (i := 5) rfl) (List.mem_of_getElem? (i := 6) rfl) ic_X5_become_c_X5_put gd_c_X5_put) rfl rfl rfl (by decide +kernel) ⟨(Nat.le_of_ble_eq_true rfl), (Nat.le_of_ble_eq_true rfl)⟩) (wpV (q := (RX5, TX5, 2)) hP hK hD (oX5 hX5) rfl) rfl rfl hl.1 rfl (lv_room (Nat.le_of_ble_eq_true rfl)) dX5_become_22 ⟨(Nat.le_of_ble_eq_true rfl), (Nat.le_of_ble_eq_true rfl)⟩) hP hD hS hA (fun _ H locs hr4 hP hD hS => ?_)
      replace hP : va_P (dC, dI) vwCl (Wd 153 (cfC ad cI cT cS) σ3) H := hP
      replace hD : va_D A (Wd 153 (cfC ad cI cT cS) σ3) := hD
      refine lv_iinc (v := (x2.1 + (1 : Int32))) (lv' := [(2, .int (x2.1 + (1 : Int32))), (0, .ref (ad kX5)), (1, .ref (ad k1))]) hx hb dX5_become_25 hl (k := 0) rfl rfl (by decide) rfl (fun ls hl => ?_)
      refine lv_goto (tgt := 2) hx hb dX5_become_28 (by decide) ?_
      obtain rfl := Option.some.inj h
      exact ht2 rfl H locs ls hP hD hS (lv_sub (l' := [(2, .int (x2.1 + (1 : Int32))), (0, .ref (ad kX5)), (1, .ref (ad k1))]) hl [0, 1, 2] rfl)
  · intro H locs ls hP hD hS hl
    have h9 := Option.some.inj h
    exact wretv hx hb hr hlocks hP hD hS trivial (by rw [← h9]) dX5_become_31
def zb_X4_allows_49 (w0_49 : Bool) : Bool := w0_49
def zb_X4_allows_48  : Bool := (zb_X4_allows_49 false)
def zf_X4_allows (a0 : Int32) (a1 : Int32) (a2 : Int32) (a3 : Int32) : Bool := (if a0 < 0 then zb_X4_allows_48 else (if (9 : Int32) < a0 then zb_X4_allows_48 else (if a1 < 0 then zb_X4_allows_48 else (if (24 : Int32) ≤ a1 then zb_X4_allows_48 else (if a2 < (-30000 : Int32) then zb_X4_allows_48 else (if (30000 : Int32) < a2 then zb_X4_allows_48 else (if a3 < 0 then zb_X4_allows_48 else (if (8 : Int32) ≤ a3 then zb_X4_allows_48 else (zb_X4_allows_49 true)))))))))
def oc_X4_allows : List Cond := []
def vc_X4_allows : List Cond := .code yX4_allows cX4_allows 4 (some .boolean) :: (oc_X4_allows)
theorem gd_c_X4_allows : (vc_X4_allows).all goodWord = true := gall_cons rfl (by decide +kernel)
set_option maxHeartbeats 4000000 in
set_option maxRecDepth 100000 in
theorem c_X4_allows (l : Launch) (dC : Nat → ClassId) (dI : Nat → Nat → Nat) (cI cT cS : ClassId) (sz : Nat) (ws : va_W) (a0 : Int32) (a1 : Int32) (a2 : Int32) (a3 : Int32) (o : Bool) (h : zf_X4_allows a0 a1 a2 a3 = o) : gCI (S := Unit) l yX4_allows vc_X4_allows { frames := 0, cells := 0, slots := 0, locals := 0 } (dC, dI) (gTY cI cT cS) sz [.int a0, .int a1, .int a2, .int a3] ws (fun (r : Int32) (_ : Unit) => r = b2i o) (fun (_ : Unit) => ws) 0 0 := by
  refine Met.ofW (cc := cX4_allows) (maxL := 4) (ret := (some .boolean)) (by decide) rfl ?_
  intro p e s m args below meth c s₁ B hml hv
  obtain ⟨rfl, hsz, hP, hK, hD0⟩ := hv
  have hx := B.exec
  have hb := B.bytes
  have hr := B.returns
  have hts := atoms_spec (ws := vc_X4_allows) B.pre
  have hown : s.vm.findClass RX4 = some m.cls := findClass_of_methodNamed B.named
  have hlocks := B.notSynchronized
  subst hsz
  have hD := hD0.self (sz := s.heap.size)
  generalize hAe : va_A ws s.heap.size = A at hD ⊢
  have hA : ∀ q : Nat, s.heap.size ≤ q → A q := fun q h => by rw [← hAe]; exact Or.inr h
  clear hAe hD0
  refine gstart (fun H locs hHe hLe => ?_)
  have hS : va_S A s.heap H locs := by rw [← hHe, ← hLe]; exact va_S.rf
  replace hP : va_P (dC, dI) vwCl ws H := by rw [← hHe]; exact hP
  clear hHe hLe
  have hl := lv_entry ([.int a0, .int a1, .int a2, .int a3]) (n := 4) (Nat.le_of_ble_eq_true rfl)
  rw [lg_entry_eq]
  generalize (lg_sl ([.int a0, .int a1, .int a2, .int a3]) ++ List.replicate (4 - (lg_sl ([.int a0, .int a1, .int a2, .int a3])).length) Slot.unset).toArray = ls at hl ⊢
  replace hl : lv_has ls 4 [(0, .int a0), (1, .int a1), (2, .int a2), (3, .int a3)] := hl
  unfold zf_X4_allows at h
  have J49 : ∀ (w0_49 : Bool) (H : Heap) (locs : List Loc) (ls : Array Slot), zb_X4_allows_49 w0_49 = o → va_P (dC, dI) vwCl ws H → va_D A ws → va_S A s.heap H locs → lv_has ls 4 [] → W p l e (headSpec vc_X4_allows { frames := 0, cells := 0, slots := 0, locals := 0 }).room s m (List.toArray (α := Value) [.int a0, .int a1, .int a2, .int a3]) below meth c H locs 0 0 (MQ below (va_Qi (fun (r : Int32) (_ : Unit) => r = b2i o) (gB (dC, dI) A (fun (_ : Unit) => ws)) A) (List.toArray (α := Value) [.int a0, .int a1, .int a2, .int a3]) s 0 0 A) (F0 m 49 ls [.int (b2i w0_49)]) := by
    intro w0_49 H locs ls h hP hD hS hl
    unfold zb_X4_allows_49 at h
    have h9 := h
    exact wretz hx hb hr hlocks (b2i_or _) hP hD hS (by show _ = _; rw [← h9]; first | done | rfl) rfl dX4_allows_49
  have J48 : ∀  (H : Heap) (locs : List Loc) (ls : Array Slot), zb_X4_allows_48 = o → va_P (dC, dI) vwCl ws H → va_D A ws → va_S A s.heap H locs → lv_has ls 4 [] → W p l e (headSpec vc_X4_allows { frames := 0, cells := 0, slots := 0, locals := 0 }).room s m (List.toArray (α := Value) [.int a0, .int a1, .int a2, .int a3]) below meth c H locs 0 0 (MQ below (va_Qi (fun (r : Int32) (_ : Unit) => r = b2i o) (gB (dC, dI) A (fun (_ : Unit) => ws)) A) (List.toArray (α := Value) [.int a0, .int a1, .int a2, .int a3]) s 0 0 A) (F0 m 48 ls []) := by
    intro  H locs ls h hP hD hS hl
    unfold zb_X4_allows_48 at h
    refine lv_iconst (v := 0) hx hb dX4_allows_48 (by decide) ?_
    exact J49 false H locs ls h hP hD hS (lv_sub (l' := []) hl [] rfl)
  refine lv_iload_n hx hb dX4_allows_0 rfl (lv_at hl 0 rfl) ?_
  refine lv_if_lt (tgt := 48) hx hb dX4_allows_1 (by decide) (fun c1 => ?_) (fun c1 => ?_)
  · replace h := ifp (c1) h
    exact J48  H locs ls h hP hD hS (lv_sub (l' := []) hl [] rfl)
  · replace h := ifn (c1) h
    refine lv_iload_n hx hb dX4_allows_4 rfl (lv_at hl 0 rfl) ?_
    refine lv_bipush (v := 9) hx hb dX4_allows_5 (by decide) ?_
    refine lv_icmp_gt (tgt := 48) hx hb dX4_allows_7 (by decide) (fun c2 => ?_) (fun c2 => ?_)
    · replace h := ifp (c2) h
      exact J48  H locs ls h hP hD hS (lv_sub (l' := []) hl [] rfl)
    · replace h := ifn (c2) h
      refine lv_iload_n hx hb dX4_allows_10 rfl (lv_at hl 1 rfl) ?_
      refine lv_if_lt (tgt := 48) hx hb dX4_allows_11 (by decide) (fun c3 => ?_) (fun c3 => ?_)
      · replace h := ifp (c3) h
        exact J48  H locs ls h hP hD hS (lv_sub (l' := []) hl [] rfl)
      · replace h := ifn (c3) h
        refine lv_iload_n hx hb dX4_allows_14 rfl (lv_at hl 1 rfl) ?_
        refine lv_bipush (v := 24) hx hb dX4_allows_15 (by decide) ?_
        refine lv_icmp_ge (tgt := 48) hx hb dX4_allows_17 (by decide) (fun c4 => ?_) (fun c4 => ?_)
        · replace h := ifp (c4) h
          exact J48  H locs ls h hP hD hS (lv_sub (l' := []) hl [] rfl)
        · replace h := ifn (c4) h
          refine lv_iload_n hx hb dX4_allows_20 rfl (lv_at hl 2 rfl) ?_
          refine lv_sipush (v := (-30000)) hx hb dX4_allows_21 (by decide) ?_
          refine lv_icmp_lt (tgt := 48) hx hb dX4_allows_24 (by decide) (fun c5 => ?_) (fun c5 => ?_)
          · replace h := ifp (c5) h
            exact J48  H locs ls h hP hD hS (lv_sub (l' := []) hl [] rfl)
          · replace h := ifn (c5) h
            refine lv_iload_n hx hb dX4_allows_27 rfl (lv_at hl 2 rfl) ?_
            refine lv_sipush (v := 30000) hx hb dX4_allows_28 (by decide) ?_
            refine lv_icmp_gt (tgt := 48) hx hb dX4_allows_31 (by decide) (fun c6 => ?_) (fun c6 => ?_)
            · replace h := ifp (c6) h
              exact J48  H locs ls h hP hD hS (lv_sub (l' := []) hl [] rfl)
            · replace h := ifn (c6) h
              refine lv_iload_n hx hb dX4_allows_34 rfl (lv_at hl 3 rfl) ?_
              refine lv_if_lt (tgt := 48) hx hb dX4_allows_35 (by decide) (fun c7 => ?_) (fun c7 => ?_)
              · replace h := ifp (c7) h
                exact J48  H locs ls h hP hD hS (lv_sub (l' := []) hl [] rfl)
              · replace h := ifn (c7) h
                refine lv_iload_n hx hb dX4_allows_38 rfl (lv_at hl 3 rfl) ?_
                refine lv_bipush (v := 8) hx hb dX4_allows_39 (by decide) ?_
                refine lv_icmp_ge (tgt := 48) hx hb dX4_allows_41 (by decide) (fun c8 => ?_) (fun c8 => ?_)
                · replace h := ifp (c8) h
                  exact J48  H locs ls h hP hD hS (lv_sub (l' := []) hl [] rfl)
                · replace h := ifn (c8) h
                  refine lv_iconst (v := 1) hx hb dX4_allows_44 (by decide) ?_
                  refine lv_goto (tgt := 49) hx hb dX4_allows_45 (by decide) ?_
                  exact J49 true H locs ls h hP hD hS (lv_sub (l' := []) hl [] rfl)
def zf_X4_put (a1 : Int32) (a2 : Int32) (a3 : Int32) (a4 : Int32) (a5 : Int32) (σ : Sg) : Option (Sg) := bd a1 24 (some (su (su (su (su σ 2 a1.toNatClampNeg a2) 3 a1.toNatClampNeg a3) 4 a1.toNatClampNeg a4) 5 a1.toNatClampNeg a5))
def oc_X4_put : List Cond := [.fieldLink RX4 9 "TraceTrees$Program" "kind" "[I", .fieldLink RX4 15 "TraceTrees$Program" "a" "[I", .fieldLink RX4 18 "TraceTrees$Program" "b" "[I", .fieldLink RX4 21 "TraceTrees$Program" "c" "[I"]
def vc_X4_put : List Cond := .code yX4_put cX4_put 6 none :: (oc_X4_put ++ (wsX40))
theorem iw_X4_put_X4 : ∀ w ∈ wsX40, w ∈ vc_X4_put := fun _ h => List.mem_cons_of_mem _ (List.mem_append_right _ (h))
theorem gd_c_X4_put : (vc_X4_put).all goodWord = true := gall_cons rfl (gall_app (by decide +kernel) gw_X4)
set_option maxHeartbeats 4000000 in
set_option maxRecDepth 100000 in
theorem c_X4_put (l : Launch) (dC : Nat → ClassId) (dI : Nat → Nat → Nat) (cI cT cS : ClassId) (sz : Nat) (ad : Nat → Nat) (a1 : Int32) (a2 : Int32) (a3 : Int32) (a4 : Int32) (a5 : Int32) (σ : Sg) (o : Sg) (h : zf_X4_put a1 a2 a3 a4 a5 σ = some o) : gCV (S := Unit) l yX4_put vc_X4_put { frames := 0, cells := 0, slots := 0, locals := 0 } (dC, dI) (gTY cI cT cS) sz [.ref (ad 1), .int a1, .int a2, .int a3, .int a4, .int a5] (Wd 153 (cfC ad cI cT cS) σ) (fun (_ : Unit) => True) (fun (_ : Unit) => (Wd 153 (cfC ad cI cT cS) o)) 0 0 := by
  refine Met.ofW (cc := cX4_put) (maxL := 6) (ret := none) (by decide) rfl ?_
  intro p e s m args below meth c s₁ B hml hv
  obtain ⟨rfl, hsz, hP, hK, hD0⟩ := hv
  have hx := B.exec
  have hb := B.bytes
  have hr := B.returns
  have hts := atoms_spec (ws := vc_X4_put) B.pre
  have hown : s.vm.findClass RX4 = some m.cls := findClass_of_methodNamed B.named
  have hlocks := B.notSynchronized
  subst hsz
  have hD := hD0.self (sz := s.heap.size)
  generalize hAe : va_A (Wd 153 (cfC ad cI cT cS) σ) s.heap.size = A at hD ⊢
  have hA : ∀ q : Nat, s.heap.size ≤ q → A q := fun q h => by rw [← hAe]; exact Or.inr h
  clear hAe hD0
  refine gstart (fun H locs hHe hLe => ?_)
  have hS : va_S A s.heap H locs := by rw [← hHe, ← hLe]; exact va_S.rf
  replace hP : va_P (dC, dI) vwCl (Wd 153 (cfC ad cI cT cS) σ) H := by rw [← hHe]; exact hP
  clear hHe hLe
  have hl := lv_entry ([.ref (ad 1), .int a1, .int a2, .int a3, .int a4, .int a5]) (n := 6) (Nat.le_of_ble_eq_true rfl)
  rw [lg_entry_eq]
  generalize (lg_sl ([.ref (ad 1), .int a1, .int a2, .int a3, .int a4, .int a5]) ++ List.replicate (6 - (lg_sl ([.ref (ad 1), .int a1, .int a2, .int a3, .int a4, .int a5])).length) Slot.unset).toArray = ls at hl ⊢
  replace hl : lv_has ls 6 [(0, .ref (ad 1)), (1, .int a1), (2, .int a2), (3, .int a3), (4, .int a4), (5, .int a5)] := hl
  unfold zf_X4_put at h
  refine lv_aload_n hx hb dX4_put_0 rfl (lv_at hl 0 rfl) ?_
  refine gf_X4_0 hx hb hts iw_X4_put_X4 hown hK hP (hts (.fieldLink RX4 9 "TraceTrees$Program" "kind" "[I") (List.mem_of_getElem? (i := 1) rfl)) dX4_put_1 ?_
  refine lv_iload_n hx hb dX4_put_4 rfl (lv_at hl 1 rfl) ?_
  refine lv_iload_n hx hb dX4_put_5 rfl (lv_at hl 2 rfl) ?_
  obtain ⟨hi1, h⟩ := bd_inv h
  refine wast hx hb hK hP hD hS aP2 hi1 dX4_put_6 (fun H locs hP hD hS => ?_)
  refine lv_aload_n hx hb dX4_put_7 rfl (lv_at hl 0 rfl) ?_
  refine gf_X4_1 hx hb hts iw_X4_put_X4 hown hK hP (hts (.fieldLink RX4 15 "TraceTrees$Program" "a" "[I") (List.mem_of_getElem? (i := 2) rfl)) dX4_put_8 ?_
  refine lv_iload_n hx hb dX4_put_11 rfl (lv_at hl 1 rfl) ?_
  refine lv_iload_n hx hb dX4_put_12 rfl (lv_at hl 3 rfl) ?_
  refine wast hx hb hK hP hD hS aP3 hi1 dX4_put_13 (fun H locs hP hD hS => ?_)
  refine lv_aload_n hx hb dX4_put_14 rfl (lv_at hl 0 rfl) ?_
  refine gf_X4_2 hx hb hts iw_X4_put_X4 hown hK hP (hts (.fieldLink RX4 18 "TraceTrees$Program" "b" "[I") (List.mem_of_getElem? (i := 3) rfl)) dX4_put_15 ?_
  refine lv_iload_n hx hb dX4_put_18 rfl (lv_at hl 1 rfl) ?_
  refine lv_iload hx hb dX4_put_19 (lv_at hl 4 rfl) ?_
  refine wast hx hb hK hP hD hS aP4 hi1 dX4_put_21 (fun H locs hP hD hS => ?_)
  refine lv_aload_n hx hb dX4_put_22 rfl (lv_at hl 0 rfl) ?_
  refine gf_X4_3 hx hb hts iw_X4_put_X4 hown hK hP (hts (.fieldLink RX4 21 "TraceTrees$Program" "c" "[I") (List.mem_of_getElem? (i := 4) rfl)) dX4_put_23 ?_
  refine lv_iload_n hx hb dX4_put_26 rfl (lv_at hl 1 rfl) ?_
  refine lv_iload hx hb dX4_put_27 (lv_at hl 5 rfl) ?_
  refine wast hx hb hK hP hD hS aP5 hi1 dX4_put_29 (fun H locs hP hD hS => ?_)
  have h9 := Option.some.inj h
  exact wretv hx hb hr hlocks hP hD hS trivial (by rw [← h9]) dX4_put_30
def zf_X4_append (a1 : Int32) (a2 : Int32) (a3 : Int32) (a4 : Int32) (σ : Sg) : Option (Sg) := obd (zf_X4_put (σ 1 4) a1 a2 a3 a4 σ) (fun σ1 => some (su σ1 1 4 ((σ1 1 4) + (1 : Int32))))
def oc_X4_append : List Cond := [.fieldLink RX4 24 "TraceTrees$Program" "size" "I", .methodLink RX4 28 yX4_put, .instanceMethod yX4_put, .selects RX4 yX4_put yX4_put, .initialized RX4]
def vc_X4_append : List Cond := .code yX4_append cX4_append 5 none :: (oc_X4_append ++ (wsX40 ++ (vc_X4_put)))
theorem iw_X4_append_X4 : ∀ w ∈ wsX40, w ∈ vc_X4_append := fun _ h => List.mem_cons_of_mem _ (List.mem_append_right _ (List.mem_append_left _ h))
theorem ic_X4_append_c_X4_put : ∀ w ∈ vc_X4_put, w ∈ vc_X4_append := fun _ h => List.mem_cons_of_mem _ (List.mem_append_right _ (List.mem_append_right _ (h)))
theorem gd_c_X4_append : (vc_X4_append).all goodWord = true := gall_cons rfl (gall_app (by decide +kernel) (gall_app gw_X4 gd_c_X4_put))
set_option maxHeartbeats 4000000 in
set_option maxRecDepth 100000 in
theorem c_X4_append (l : Launch) (dC : Nat → ClassId) (dI : Nat → Nat → Nat) (cI cT cS : ClassId) (sz : Nat) (ad : Nat → Nat) (a1 : Int32) (a2 : Int32) (a3 : Int32) (a4 : Int32) (σ : Sg) (o : Sg) (h : zf_X4_append a1 a2 a3 a4 σ = some o) : gCV (S := Unit) l yX4_append vc_X4_append { frames := 1, cells := 0, slots := 0, locals := 25 } (dC, dI) (gTY cI cT cS) sz [.ref (ad 1), .int a1, .int a2, .int a3, .int a4] (Wd 153 (cfC ad cI cT cS) σ) (fun (_ : Unit) => True) (fun (_ : Unit) => (Wd 153 (cfC ad cI cT cS) o)) 0 0 := by
  refine Met.ofW (cc := cX4_append) (maxL := 5) (ret := none) (by decide) rfl ?_
  intro p e s m args below meth c s₁ B hml hv
  obtain ⟨rfl, hsz, hP, hK, hD0⟩ := hv
  have hx := B.exec
  have hb := B.bytes
  have hr := B.returns
  have hts := atoms_spec (ws := vc_X4_append) B.pre
  have hown : s.vm.findClass RX4 = some m.cls := findClass_of_methodNamed B.named
  have hlocks := B.notSynchronized
  subst hsz
  have hD := hD0.self (sz := s.heap.size)
  generalize hAe : va_A (Wd 153 (cfC ad cI cT cS) σ) s.heap.size = A at hD ⊢
  have hA : ∀ q : Nat, s.heap.size ≤ q → A q := fun q h => by rw [← hAe]; exact Or.inr h
  clear hAe hD0
  refine gstart (fun H locs hHe hLe => ?_)
  have hS : va_S A s.heap H locs := by rw [← hHe, ← hLe]; exact va_S.rf
  replace hP : va_P (dC, dI) vwCl (Wd 153 (cfC ad cI cT cS) σ) H := by rw [← hHe]; exact hP
  clear hHe hLe
  have hl := lv_entry ([.ref (ad 1), .int a1, .int a2, .int a3, .int a4]) (n := 5) (Nat.le_of_ble_eq_true rfl)
  rw [lg_entry_eq]
  generalize (lg_sl ([.ref (ad 1), .int a1, .int a2, .int a3, .int a4]) ++ List.replicate (5 - (lg_sl ([.ref (ad 1), .int a1, .int a2, .int a3, .int a4])).length) Slot.unset).toArray = ls at hl ⊢
  replace hl : lv_has ls 5 [(0, .ref (ad 1)), (1, .int a1), (2, .int a2), (3, .int a3), (4, .int a4)] := hl
  unfold zf_X4_append at h
  refine lv_aload_n hx hb dX4_append_0 rfl (lv_at hl 0 rfl) ?_
  refine lv_aload_n hx hb dX4_append_1 rfl (lv_at hl 0 rfl) ?_
  refine gf_X4_4 hx hb hts iw_X4_append_X4 hown hK hP (hts (.fieldLink RX4 24 "TraceTrees$Program" "size" "I") (List.mem_of_getElem? (i := 1) rfl)) dX4_append_2 ?_
  refine lv_iload_n hx hb dX4_append_5 rfl (lv_at hl 1 rfl) ?_
  refine lv_iload_n hx hb dX4_append_6 rfl (lv_at hl 2 rfl) ?_
  refine lv_iload_n hx hb dX4_append_7 rfl (lv_at hl 3 rfl) ?_
  refine lv_iload hx hb dX4_append_8 (lv_at hl 4 rfl) ?_
  obtain ⟨σ1, hc1, h⟩ := obd_inv h
  refine wcallv (S := Unit) (va_runV (As := [.int (σ 1 4), .int a1, .int a2, .int a3, .int a4]) (rest := []) ⟨hx, hb, hml, hown, hts⟩ (c_X4_put l dC dI cI cT cS H.size ad  (σ 1 4) a1 a2 a3 a4 σ _ hc1) (cwV 5 hts (gWV (List.mem_of_getElem? (i := 2) rfl) (List.mem_of_getElem? (i := 3) rfl) (List.mem_of_getElem? (i := 4) rfl) (List.mem_of_getElem? (i := 5) rfl) ic_X4_append_c_X4_put gd_c_X4_put) rfl rfl rfl (by decide +kernel) ⟨(Nat.le_of_ble_eq_true rfl), (Nat.le_of_ble_eq_true rfl)⟩) (wpV (q := (RX4, TX4, 5)) hP hK hD oX4 rfl) rfl rfl hl.1 rfl (lv_room (Nat.le_of_ble_eq_true rfl)) dX4_append_10 ⟨(Nat.le_of_ble_eq_true rfl), (Nat.le_of_ble_eq_true rfl)⟩) hP hD hS hA (fun _ H locs hr2 hP hD hS => ?_)
  replace hP : va_P (dC, dI) vwCl (Wd 153 (cfC ad cI cT cS) σ1) H := hP
  replace hD : va_D A (Wd 153 (cfC ad cI cT cS) σ1) := hD
  refine lv_aload_n hx hb dX4_append_13 rfl (lv_at hl 0 rfl) ?_
  refine lv_dup hx hb dX4_append_14 rfl ?_
  refine gf_X4_4 hx hb hts iw_X4_append_X4 hown hK hP (hts (.fieldLink RX4 24 "TraceTrees$Program" "size" "I") (List.mem_of_getElem? (i := 1) rfl)) dX4_append_15 ?_
  refine lv_iconst (v := 1) hx hb dX4_append_18 (by decide) ?_
  refine lv_iadd hx hb dX4_append_19 ?_
  refine pf_X4_4 hx hb hts iw_X4_append_X4 hown hK hP hD hS (hts (.fieldLink RX4 24 "TraceTrees$Program" "size" "I") (List.mem_of_getElem? (i := 1) rfl)) dX4_append_20 (fun H locs hP hD hS => ?_)
  have h9 := Option.some.inj h
  exact wretv hx hb hr hlocks hP hD hS trivial (by rw [← h9]) dX4_append_23
def zb_X9_isRegister_15 (w0_15 : Bool) : Bool := w0_15
def zb_X9_isRegister_14  : Bool := (zb_X9_isRegister_15 false)
def zf_X9_isRegister (a0 : Int32) : Bool := (if a0 < 0 then zb_X9_isRegister_14 else (if (8 : Int32) ≤ a0 then zb_X9_isRegister_14 else (zb_X9_isRegister_15 true)))
def oc_X9_isRegister : List Cond := []
def vc_X9_isRegister : List Cond := .code yX9_isRegister cX9_isRegister 1 (some .boolean) :: (oc_X9_isRegister)
theorem gd_c_X9_isRegister : (vc_X9_isRegister).all goodWord = true := gall_cons rfl (by decide +kernel)
set_option maxHeartbeats 4000000 in
set_option maxRecDepth 100000 in
theorem c_X9_isRegister (l : Launch) (dC : Nat → ClassId) (dI : Nat → Nat → Nat) (cI cT cS : ClassId) (sz : Nat) (ws : va_W) (a0 : Int32) (o : Bool) (h : zf_X9_isRegister a0 = o) : gCI (S := Unit) l yX9_isRegister vc_X9_isRegister { frames := 0, cells := 0, slots := 0, locals := 0 } (dC, dI) (gTY cI cT cS) sz [.int a0] ws (fun (r : Int32) (_ : Unit) => r = b2i o) (fun (_ : Unit) => ws) 0 0 := by
  refine Met.ofW (cc := cX9_isRegister) (maxL := 1) (ret := (some .boolean)) (by decide) rfl ?_
  intro p e s m args below meth c s₁ B hml hv
  obtain ⟨rfl, hsz, hP, hK, hD0⟩ := hv
  have hx := B.exec
  have hb := B.bytes
  have hr := B.returns
  have hts := atoms_spec (ws := vc_X9_isRegister) B.pre
  have hown : s.vm.findClass RX9 = some m.cls := findClass_of_methodNamed B.named
  have hlocks := B.notSynchronized
  subst hsz
  have hD := hD0.self (sz := s.heap.size)
  generalize hAe : va_A ws s.heap.size = A at hD ⊢
  have hA : ∀ q : Nat, s.heap.size ≤ q → A q := fun q h => by rw [← hAe]; exact Or.inr h
  clear hAe hD0
  refine gstart (fun H locs hHe hLe => ?_)
  have hS : va_S A s.heap H locs := by rw [← hHe, ← hLe]; exact va_S.rf
  replace hP : va_P (dC, dI) vwCl ws H := by rw [← hHe]; exact hP
  clear hHe hLe
  have hl := lv_entry ([.int a0]) (n := 1) (Nat.le_of_ble_eq_true rfl)
  rw [lg_entry_eq]
  generalize (lg_sl ([.int a0]) ++ List.replicate (1 - (lg_sl ([.int a0])).length) Slot.unset).toArray = ls at hl ⊢
  replace hl : lv_has ls 1 [(0, .int a0)] := hl
  unfold zf_X9_isRegister at h
  have J15 : ∀ (w0_15 : Bool) (H : Heap) (locs : List Loc) (ls : Array Slot), zb_X9_isRegister_15 w0_15 = o → va_P (dC, dI) vwCl ws H → va_D A ws → va_S A s.heap H locs → lv_has ls 1 [] → W p l e (headSpec vc_X9_isRegister { frames := 0, cells := 0, slots := 0, locals := 0 }).room s m (List.toArray (α := Value) [.int a0]) below meth c H locs 0 0 (MQ below (va_Qi (fun (r : Int32) (_ : Unit) => r = b2i o) (gB (dC, dI) A (fun (_ : Unit) => ws)) A) (List.toArray (α := Value) [.int a0]) s 0 0 A) (F0 m 15 ls [.int (b2i w0_15)]) := by
    intro w0_15 H locs ls h hP hD hS hl
    unfold zb_X9_isRegister_15 at h
    have h9 := h
    exact wretz hx hb hr hlocks (b2i_or _) hP hD hS (by show _ = _; rw [← h9]; first | done | rfl) rfl dX9_isRegister_15
  have J14 : ∀  (H : Heap) (locs : List Loc) (ls : Array Slot), zb_X9_isRegister_14 = o → va_P (dC, dI) vwCl ws H → va_D A ws → va_S A s.heap H locs → lv_has ls 1 [] → W p l e (headSpec vc_X9_isRegister { frames := 0, cells := 0, slots := 0, locals := 0 }).room s m (List.toArray (α := Value) [.int a0]) below meth c H locs 0 0 (MQ below (va_Qi (fun (r : Int32) (_ : Unit) => r = b2i o) (gB (dC, dI) A (fun (_ : Unit) => ws)) A) (List.toArray (α := Value) [.int a0]) s 0 0 A) (F0 m 14 ls []) := by
    intro  H locs ls h hP hD hS hl
    unfold zb_X9_isRegister_14 at h
    refine lv_iconst (v := 0) hx hb dX9_isRegister_14 (by decide) ?_
    exact J15 false H locs ls h hP hD hS (lv_sub (l' := []) hl [] rfl)
  refine lv_iload_n hx hb dX9_isRegister_0 rfl (lv_at hl 0 rfl) ?_
  refine lv_if_lt (tgt := 14) hx hb dX9_isRegister_1 (by decide) (fun c1 => ?_) (fun c1 => ?_)
  · replace h := ifp (c1) h
    exact J14  H locs ls h hP hD hS (lv_sub (l' := []) hl [] rfl)
  · replace h := ifn (c1) h
    refine lv_iload_n hx hb dX9_isRegister_4 rfl (lv_at hl 0 rfl) ?_
    refine lv_bipush (v := 8) hx hb dX9_isRegister_5 (by decide) ?_
    refine lv_icmp_ge (tgt := 14) hx hb dX9_isRegister_7 (by decide) (fun c2 => ?_) (fun c2 => ?_)
    · replace h := ifp (c2) h
      exact J14  H locs ls h hP hD hS (lv_sub (l' := []) hl [] rfl)
    · replace h := ifn (c2) h
      refine lv_iconst (v := 1) hx hb dX9_isRegister_10 (by decide) ?_
      refine lv_goto (tgt := 15) hx hb dX9_isRegister_11 (by decide) ?_
      exact J15 true H locs ls h hP hD hS (lv_sub (l' := []) hl [] rfl)
def zb_X5_fact_16  : Option (Int32) := some (-2147483648 : Int32)
def zb_X5_fact_38 (w0_38 : Int32) : Option (Int32) := some w0_38
def zf_X5_fact (kX5 : Nat) (a1 : Int32) (a2 : Int32) (σ : Sg) : Option (Int32) := (if (zf_X9_isRegister a1) = true then (if a2 < 0 then zb_X5_fact_16 else (if a2 ≤ (1 : Int32) then (if a2 = 0 then bd a1 8 ((zb_X5_fact_38 (σ (kX5 + 1) a1.toNatClampNeg))) else bd a1 8 ((zb_X5_fact_38 (σ (kX5 + 2) a1.toNatClampNeg)))) else zb_X5_fact_16)) else zb_X5_fact_16)
def oc_X5_fact : List Cond := [.initialized RX9, .static yX9_isRegister, .fieldLink RX5 15 "TraceTrees$Registers" "bits" "[I", .fieldLink RX5 9 "TraceTrees$Registers" "kind" "[I", .constant RX5 26 (-2147483648)]
def vc_X5_fact : List Cond := .code yX5_fact cX5_fact 3 (some .int) :: (oc_X5_fact ++ (wsX50 ++ (vc_X9_isRegister)))
theorem iw_X5_fact_X5 : ∀ w ∈ wsX50, w ∈ vc_X5_fact := fun _ h => List.mem_cons_of_mem _ (List.mem_append_right _ (List.mem_append_left _ h))
theorem ic_X5_fact_c_X9_isRegister : ∀ w ∈ vc_X9_isRegister, w ∈ vc_X5_fact := fun _ h => List.mem_cons_of_mem _ (List.mem_append_right _ (List.mem_append_right _ (h)))
theorem gd_c_X5_fact : (vc_X5_fact).all goodWord = true := gall_cons rfl (gall_app (by decide +kernel) (gall_app gw_X5 gd_c_X9_isRegister))
set_option maxHeartbeats 4000000 in
set_option maxRecDepth 100000 in
theorem c_X5_fact (l : Launch) (dC : Nat → ClassId) (dI : Nat → Nat → Nat) (cI cT cS : ClassId) (sz : Nat) (ad : Nat → Nat) (kX5 : Nat) (hX5 : isRg kX5) (a1 : Int32) (a2 : Int32) (σ : Sg) (o : Int32) (h : zf_X5_fact kX5 a1 a2 σ = some o) : gCI (S := Unit) l yX5_fact vc_X5_fact { frames := 1, cells := 0, slots := 0, locals := 20 } (dC, dI) (gTY cI cT cS) sz [.ref (ad kX5), .int a1, .int a2] (Wd 153 (cfC ad cI cT cS) σ) (fun (r : Int32) (_ : Unit) => r = o) (fun (_ : Unit) => (Wd 153 (cfC ad cI cT cS) σ)) 0 0 := by
  refine Met.ofW (cc := cX5_fact) (maxL := 3) (ret := (some .int)) (by decide) rfl ?_
  intro p e s m args below meth c s₁ B hml hv
  obtain ⟨rfl, hsz, hP, hK, hD0⟩ := hv
  have hx := B.exec
  have hb := B.bytes
  have hr := B.returns
  have hts := atoms_spec (ws := vc_X5_fact) B.pre
  have hown : s.vm.findClass RX5 = some m.cls := findClass_of_methodNamed B.named
  have hlocks := B.notSynchronized
  subst hsz
  have hD := hD0.self (sz := s.heap.size)
  generalize hAe : va_A (Wd 153 (cfC ad cI cT cS) σ) s.heap.size = A at hD ⊢
  have hA : ∀ q : Nat, s.heap.size ≤ q → A q := fun q h => by rw [← hAe]; exact Or.inr h
  clear hAe hD0
  refine gstart (fun H locs hHe hLe => ?_)
  have hS : va_S A s.heap H locs := by rw [← hHe, ← hLe]; exact va_S.rf
  replace hP : va_P (dC, dI) vwCl (Wd 153 (cfC ad cI cT cS) σ) H := by rw [← hHe]; exact hP
  clear hHe hLe
  have hl := lv_entry ([.ref (ad kX5), .int a1, .int a2]) (n := 3) (Nat.le_of_ble_eq_true rfl)
  rw [lg_entry_eq]
  generalize (lg_sl ([.ref (ad kX5), .int a1, .int a2]) ++ List.replicate (3 - (lg_sl ([.ref (ad kX5), .int a1, .int a2])).length) Slot.unset).toArray = ls at hl ⊢
  replace hl : lv_has ls 3 [(0, .ref (ad kX5)), (1, .int a1), (2, .int a2)] := hl
  unfold zf_X5_fact at h
  have J16 : ∀  (H : Heap) (locs : List Loc) (ls : Array Slot), zb_X5_fact_16 = some o → va_P (dC, dI) vwCl (Wd 153 (cfC ad cI cT cS) σ) H → va_D A (Wd 153 (cfC ad cI cT cS) σ) → va_S A s.heap H locs → lv_has ls 3 [] → W p l e (headSpec vc_X5_fact { frames := 1, cells := 0, slots := 0, locals := 20 }).room s m (List.toArray (α := Value) [.ref (ad kX5), .int a1, .int a2]) below meth c H locs 0 0 (MQ below (va_Qi (fun (r : Int32) (_ : Unit) => r = o) (gB (dC, dI) A (fun (_ : Unit) => (Wd 153 (cfC ad cI cT cS) σ))) A) (List.toArray (α := Value) [.ref (ad kX5), .int a1, .int a2]) s 0 0 A) (F0 m 16 ls []) := by
    intro  H locs ls h hP hD hS hl
    unfold zb_X5_fact_16 at h
    refine lv_ldc (v := (-2147483648)) hx hb hown (hts (.constant RX5 26 (-2147483648)) (List.mem_of_getElem? (i := 5) rfl)) dX5_fact_16 ?_
    have h9 := Option.some.inj h
    exact wreti hx hb hr hlocks hP hD hS (by show _ = _; rw [← h9]; first | done | rfl) rfl dX5_fact_18
  have J38 : ∀ (w0_38 : Int32) (H : Heap) (locs : List Loc) (ls : Array Slot), zb_X5_fact_38 w0_38 = some o → va_P (dC, dI) vwCl (Wd 153 (cfC ad cI cT cS) σ) H → va_D A (Wd 153 (cfC ad cI cT cS) σ) → va_S A s.heap H locs → lv_has ls 3 [] → W p l e (headSpec vc_X5_fact { frames := 1, cells := 0, slots := 0, locals := 20 }).room s m (List.toArray (α := Value) [.ref (ad kX5), .int a1, .int a2]) below meth c H locs 0 0 (MQ below (va_Qi (fun (r : Int32) (_ : Unit) => r = o) (gB (dC, dI) A (fun (_ : Unit) => (Wd 153 (cfC ad cI cT cS) σ))) A) (List.toArray (α := Value) [.ref (ad kX5), .int a1, .int a2]) s 0 0 A) (F0 m 38 ls [.int w0_38]) := by
    intro w0_38 H locs ls h hP hD hS hl
    unfold zb_X5_fact_38 at h
    have h9 := Option.some.inj h
    exact wreti hx hb hr hlocks hP hD hS (by show _ = _; rw [← h9]; first | done | rfl) rfl dX5_fact_38
  refine lv_iload_n hx hb dX5_fact_0 rfl (lv_at hl 1 rfl) ?_
  refine wcalli (S := Unit) (va_runSN (As := [.int a1]) (rest := []) ⟨hx, hb, hml, hown, hts⟩ (c_X9_isRegister l dC dI cI cT cS H.size (Wd 153 (cfC ad cI cT cS) σ)  a1 _ rfl) ⟨va_cnB 1 hts (goodIn_sub ic_X5_fact_c_X9_isRegister gd_c_X9_isRegister) rfl rfl rfl hK.2.2.2.2.2.2.1 (hts (.initialized RX9) (List.mem_of_getElem? (i := 1) rfl)) (by decide +kernel) ⟨(Nat.le_of_ble_eq_true rfl), (Nat.le_of_ble_eq_true rfl)⟩, (hts (.static yX9_isRegister) (List.mem_of_getElem? (i := 2) rfl)), trivial⟩ (gpS hP hK hD) rfl rfl hl.1 rfl (lv_room (Nat.le_of_ble_eq_true rfl)) dX5_fact_1 ⟨(Nat.le_of_ble_eq_true rfl), (Nat.le_of_ble_eq_true rfl)⟩) hP hD hS hA (fun rr1 _ H locs hr1 hP hD hS => ?_)
  refine lv_nm (y := b2i (zf_X9_isRegister a1)) hr1 ?_
  refine lv_if_eq (tgt := 16) hx hb dX5_fact_4 (by decide) (fun c2 => ?_) (fun c2 => ?_)
  · replace h := ifn (b2i_0 c2) h
    exact J16  H locs ls h hP hD hS (lv_sub (l' := []) hl [] rfl)
  · replace h := ifp (b2i_1 c2) h
    refine lv_iload_n hx hb dX5_fact_7 rfl (lv_at hl 2 rfl) ?_
    refine lv_if_lt (tgt := 16) hx hb dX5_fact_8 (by decide) (fun c3 => ?_) (fun c3 => ?_)
    · replace h := ifp (c3) h
      exact J16  H locs ls h hP hD hS (lv_sub (l' := []) hl [] rfl)
    · replace h := ifn (c3) h
      refine lv_iload_n hx hb dX5_fact_11 rfl (lv_at hl 2 rfl) ?_
      refine lv_iconst (v := 1) hx hb dX5_fact_12 (by decide) ?_
      refine lv_icmp_le (tgt := 19) hx hb dX5_fact_13 (by decide) (fun c4 => ?_) (fun c4 => ?_)
      · replace h := ifp (c4) h
        refine lv_iload_n hx hb dX5_fact_19 rfl (lv_at hl 2 rfl) ?_
        refine lv_if_ne (tgt := 32) hx hb dX5_fact_20 (by decide) (fun c5 => ?_) (fun c5 => ?_)
        · replace h := ifn (c5) h
          refine lv_aload_n hx hb dX5_fact_32 rfl (lv_at hl 0 rfl) ?_
          refine gf_X5_1 hX5 hx hb hts iw_X5_fact_X5 hown hK hP (hts (.fieldLink RX5 15 "TraceTrees$Registers" "bits" "[I") (List.mem_of_getElem? (i := 3) rfl)) dX5_fact_33 ?_
          refine lv_iload_n hx hb dX5_fact_36 rfl (lv_at hl 1 rfl) ?_
          obtain ⟨hi6, h⟩ := bd_inv h
          refine wald hx hb hK hP (aG2 hX5) hi6 dX5_fact_37 ?_
          exact J38 (σ (kX5 + 2) a1.toNatClampNeg) H locs ls h hP hD hS (lv_sub (l' := []) hl [] rfl)
        · replace h := ifp (c5) h
          refine lv_aload_n hx hb dX5_fact_23 rfl (lv_at hl 0 rfl) ?_
          refine gf_X5_0 hX5 hx hb hts iw_X5_fact_X5 hown hK hP (hts (.fieldLink RX5 9 "TraceTrees$Registers" "kind" "[I") (List.mem_of_getElem? (i := 4) rfl)) dX5_fact_24 ?_
          refine lv_iload_n hx hb dX5_fact_27 rfl (lv_at hl 1 rfl) ?_
          obtain ⟨hi7, h⟩ := bd_inv h
          refine wald hx hb hK hP (aG1 hX5) hi7 dX5_fact_28 ?_
          refine lv_goto (tgt := 38) hx hb dX5_fact_29 (by decide) ?_
          exact J38 (σ (kX5 + 1) a1.toNatClampNeg) H locs ls h hP hD hS (lv_sub (l' := []) hl [] rfl)
      · replace h := ifn (c4) h
        exact J16  H locs ls h hP hD hS (lv_sub (l' := []) hl [] rfl)
def zb_X6_isForm_14 (w0_14 : Bool) : Bool := w0_14
def zb_X6_isForm_13  : Bool := (zb_X6_isForm_14 false)
def zf_X6_isForm (a0 : Int32) : Bool := (if a0 < 0 then zb_X6_isForm_13 else (if (2 : Int32) < a0 then zb_X6_isForm_13 else (zb_X6_isForm_14 true)))
def oc_X6_isForm : List Cond := []
def vc_X6_isForm : List Cond := .code yX6_isForm cX6_isForm 1 (some .boolean) :: (oc_X6_isForm)
theorem gd_c_X6_isForm : (vc_X6_isForm).all goodWord = true := gall_cons rfl (by decide +kernel)
set_option maxHeartbeats 4000000 in
set_option maxRecDepth 100000 in
theorem c_X6_isForm (l : Launch) (dC : Nat → ClassId) (dI : Nat → Nat → Nat) (cI cT cS : ClassId) (sz : Nat) (ws : va_W) (a0 : Int32) (o : Bool) (h : zf_X6_isForm a0 = o) : gCI (S := Unit) l yX6_isForm vc_X6_isForm { frames := 0, cells := 0, slots := 0, locals := 0 } (dC, dI) (gTY cI cT cS) sz [.int a0] ws (fun (r : Int32) (_ : Unit) => r = b2i o) (fun (_ : Unit) => ws) 0 0 := by
  refine Met.ofW (cc := cX6_isForm) (maxL := 1) (ret := (some .boolean)) (by decide) rfl ?_
  intro p e s m args below meth c s₁ B hml hv
  obtain ⟨rfl, hsz, hP, hK, hD0⟩ := hv
  have hx := B.exec
  have hb := B.bytes
  have hr := B.returns
  have hts := atoms_spec (ws := vc_X6_isForm) B.pre
  have hown : s.vm.findClass RX6 = some m.cls := findClass_of_methodNamed B.named
  have hlocks := B.notSynchronized
  subst hsz
  have hD := hD0.self (sz := s.heap.size)
  generalize hAe : va_A ws s.heap.size = A at hD ⊢
  have hA : ∀ q : Nat, s.heap.size ≤ q → A q := fun q h => by rw [← hAe]; exact Or.inr h
  clear hAe hD0
  refine gstart (fun H locs hHe hLe => ?_)
  have hS : va_S A s.heap H locs := by rw [← hHe, ← hLe]; exact va_S.rf
  replace hP : va_P (dC, dI) vwCl ws H := by rw [← hHe]; exact hP
  clear hHe hLe
  have hl := lv_entry ([.int a0]) (n := 1) (Nat.le_of_ble_eq_true rfl)
  rw [lg_entry_eq]
  generalize (lg_sl ([.int a0]) ++ List.replicate (1 - (lg_sl ([.int a0])).length) Slot.unset).toArray = ls at hl ⊢
  replace hl : lv_has ls 1 [(0, .int a0)] := hl
  unfold zf_X6_isForm at h
  have J14 : ∀ (w0_14 : Bool) (H : Heap) (locs : List Loc) (ls : Array Slot), zb_X6_isForm_14 w0_14 = o → va_P (dC, dI) vwCl ws H → va_D A ws → va_S A s.heap H locs → lv_has ls 1 [] → W p l e (headSpec vc_X6_isForm { frames := 0, cells := 0, slots := 0, locals := 0 }).room s m (List.toArray (α := Value) [.int a0]) below meth c H locs 0 0 (MQ below (va_Qi (fun (r : Int32) (_ : Unit) => r = b2i o) (gB (dC, dI) A (fun (_ : Unit) => ws)) A) (List.toArray (α := Value) [.int a0]) s 0 0 A) (F0 m 14 ls [.int (b2i w0_14)]) := by
    intro w0_14 H locs ls h hP hD hS hl
    unfold zb_X6_isForm_14 at h
    have h9 := h
    exact wretz hx hb hr hlocks (b2i_or _) hP hD hS (by show _ = _; rw [← h9]; first | done | rfl) rfl dX6_isForm_14
  have J13 : ∀  (H : Heap) (locs : List Loc) (ls : Array Slot), zb_X6_isForm_13 = o → va_P (dC, dI) vwCl ws H → va_D A ws → va_S A s.heap H locs → lv_has ls 1 [] → W p l e (headSpec vc_X6_isForm { frames := 0, cells := 0, slots := 0, locals := 0 }).room s m (List.toArray (α := Value) [.int a0]) below meth c H locs 0 0 (MQ below (va_Qi (fun (r : Int32) (_ : Unit) => r = b2i o) (gB (dC, dI) A (fun (_ : Unit) => ws)) A) (List.toArray (α := Value) [.int a0]) s 0 0 A) (F0 m 13 ls []) := by
    intro  H locs ls h hP hD hS hl
    unfold zb_X6_isForm_13 at h
    refine lv_iconst (v := 0) hx hb dX6_isForm_13 (by decide) ?_
    exact J14 false H locs ls h hP hD hS (lv_sub (l' := []) hl [] rfl)
  refine lv_iload_n hx hb dX6_isForm_0 rfl (lv_at hl 0 rfl) ?_
  refine lv_if_lt (tgt := 13) hx hb dX6_isForm_1 (by decide) (fun c1 => ?_) (fun c1 => ?_)
  · replace h := ifp (c1) h
    exact J13  H locs ls h hP hD hS (lv_sub (l' := []) hl [] rfl)
  · replace h := ifn (c1) h
    refine lv_iload_n hx hb dX6_isForm_4 rfl (lv_at hl 0 rfl) ?_
    refine lv_iconst (v := 2) hx hb dX6_isForm_5 (by decide) ?_
    refine lv_icmp_gt (tgt := 13) hx hb dX6_isForm_6 (by decide) (fun c2 => ?_) (fun c2 => ?_)
    · replace h := ifp (c2) h
      exact J13  H locs ls h hP hD hS (lv_sub (l' := []) hl [] rfl)
    · replace h := ifn (c2) h
      refine lv_iconst (v := 1) hx hb dX6_isForm_9 (by decide) ?_
      refine lv_goto (tgt := 14) hx hb dX6_isForm_10 (by decide) ?_
      exact J14 true H locs ls h hP hD hS (lv_sub (l' := []) hl [] rfl)
def zb_X6_isLost_13 (w0_13 : Bool) : Bool := w0_13
def zf_X6_isLost (kX6 : Nat) (σ : Sg) : Bool := (if (σ kX6 1) = (-1 : Int32) then (zb_X6_isLost_13 true) else (zb_X6_isLost_13 false))
def oc_X6_isLost : List Cond := [.fieldLink RX6 15 "TraceTrees$Sheet" "form" "I"]
def vc_X6_isLost : List Cond := .code yX6_isLost cX6_isLost 1 (some .boolean) :: (oc_X6_isLost ++ (wsX60))
theorem iw_X6_isLost_X6 : ∀ w ∈ wsX60, w ∈ vc_X6_isLost := fun _ h => List.mem_cons_of_mem _ (List.mem_append_right _ (h))
theorem gd_c_X6_isLost : (vc_X6_isLost).all goodWord = true := gall_cons rfl (gall_app (by decide +kernel) gw_X6)
set_option maxHeartbeats 4000000 in
set_option maxRecDepth 100000 in
theorem c_X6_isLost (l : Launch) (dC : Nat → ClassId) (dI : Nat → Nat → Nat) (cI cT cS : ClassId) (sz : Nat) (ad : Nat → Nat) (kX6 : Nat) (hX6 : isSh kX6) (σ : Sg) (o : Bool) (h : zf_X6_isLost kX6 σ = o) : gCI (S := Unit) l yX6_isLost vc_X6_isLost { frames := 0, cells := 0, slots := 0, locals := 0 } (dC, dI) (gTY cI cT cS) sz [.ref (ad kX6)] (Wd 153 (cfC ad cI cT cS) σ) (fun (r : Int32) (_ : Unit) => r = b2i o) (fun (_ : Unit) => (Wd 153 (cfC ad cI cT cS) σ)) 0 0 := by
  refine Met.ofW (cc := cX6_isLost) (maxL := 1) (ret := (some .boolean)) (by decide) rfl ?_
  intro p e s m args below meth c s₁ B hml hv
  obtain ⟨rfl, hsz, hP, hK, hD0⟩ := hv
  have hx := B.exec
  have hb := B.bytes
  have hr := B.returns
  have hts := atoms_spec (ws := vc_X6_isLost) B.pre
  have hown : s.vm.findClass RX6 = some m.cls := findClass_of_methodNamed B.named
  have hlocks := B.notSynchronized
  subst hsz
  have hD := hD0.self (sz := s.heap.size)
  generalize hAe : va_A (Wd 153 (cfC ad cI cT cS) σ) s.heap.size = A at hD ⊢
  have hA : ∀ q : Nat, s.heap.size ≤ q → A q := fun q h => by rw [← hAe]; exact Or.inr h
  clear hAe hD0
  refine gstart (fun H locs hHe hLe => ?_)
  have hS : va_S A s.heap H locs := by rw [← hHe, ← hLe]; exact va_S.rf
  replace hP : va_P (dC, dI) vwCl (Wd 153 (cfC ad cI cT cS) σ) H := by rw [← hHe]; exact hP
  clear hHe hLe
  have hl := lv_entry ([.ref (ad kX6)]) (n := 1) (Nat.le_of_ble_eq_true rfl)
  rw [lg_entry_eq]
  generalize (lg_sl ([.ref (ad kX6)]) ++ List.replicate (1 - (lg_sl ([.ref (ad kX6)])).length) Slot.unset).toArray = ls at hl ⊢
  replace hl : lv_has ls 1 [(0, .ref (ad kX6))] := hl
  unfold zf_X6_isLost at h
  have J13 : ∀ (w0_13 : Bool) (H : Heap) (locs : List Loc) (ls : Array Slot), zb_X6_isLost_13 w0_13 = o → va_P (dC, dI) vwCl (Wd 153 (cfC ad cI cT cS) σ) H → va_D A (Wd 153 (cfC ad cI cT cS) σ) → va_S A s.heap H locs → lv_has ls 1 [] → W p l e (headSpec vc_X6_isLost { frames := 0, cells := 0, slots := 0, locals := 0 }).room s m (List.toArray (α := Value) [.ref (ad kX6)]) below meth c H locs 0 0 (MQ below (va_Qi (fun (r : Int32) (_ : Unit) => r = b2i o) (gB (dC, dI) A (fun (_ : Unit) => (Wd 153 (cfC ad cI cT cS) σ))) A) (List.toArray (α := Value) [.ref (ad kX6)]) s 0 0 A) (F0 m 13 ls [.int (b2i w0_13)]) := by
    intro w0_13 H locs ls h hP hD hS hl
    unfold zb_X6_isLost_13 at h
    have h9 := h
    exact wretz hx hb hr hlocks (b2i_or _) hP hD hS (by show _ = _; rw [← h9]; first | done | rfl) rfl dX6_isLost_13
  refine lv_aload_n hx hb dX6_isLost_0 rfl (lv_at hl 0 rfl) ?_
  refine gf_X6_1 hX6 hx hb hts iw_X6_isLost_X6 hown hK hP (hts (.fieldLink RX6 15 "TraceTrees$Sheet" "form" "I") (List.mem_of_getElem? (i := 1) rfl)) dX6_isLost_1 ?_
  refine lv_iconst (v := (-1)) hx hb dX6_isLost_4 (by decide) ?_
  refine lv_icmp_ne (tgt := 12) hx hb dX6_isLost_5 (by decide) (fun c1 => ?_) (fun c1 => ?_)
  · replace h := ifn (c1) h
    refine lv_iconst (v := 0) hx hb dX6_isLost_12 (by decide) ?_
    exact J13 false H locs ls h hP hD hS (lv_sub (l' := []) hl [] rfl)
  · replace h := ifp (c1) h
    refine lv_iconst (v := 1) hx hb dX6_isLost_8 (by decide) ?_
    refine lv_goto (tgt := 13) hx hb dX6_isLost_9 (by decide) ?_
    exact J13 true H locs ls h hP hD hS (lv_sub (l' := []) hl [] rfl)
def zf_X6_renew (kX6 : Nat) (a1 : Int32) (a2 : Int32) (σ : Sg) : Option (Sg) := obd (zf_J7_fill_53178 (kX6 + 1) 60 (0 : Int32) (su (su σ kX6 1 a1) kX6 2 a2)) (fun σ1 => some σ1)
def oc_X6_renew : List Cond := [.fieldLink RX6 15 "TraceTrees$Sheet" "form" "I", .fieldLink RX6 19 "TraceTrees$Sheet" "size" "I", .fieldLink RX6 9 "TraceTrees$Sheet" "items" "[I", .methodLink RX6 22 yJ7_fill_53178, .static yJ7_fill_53178, .initialized RJ7]
def vc_X6_renew : List Cond := .code yX6_renew cX6_renew 3 none :: (oc_X6_renew ++ (wsX60 ++ (vc_J7_fill_53178)))
theorem iw_X6_renew_X6 : ∀ w ∈ wsX60, w ∈ vc_X6_renew := fun _ h => List.mem_cons_of_mem _ (List.mem_append_right _ (List.mem_append_left _ h))
theorem ic_X6_renew_c_J7_fill_53178 : ∀ w ∈ vc_J7_fill_53178, w ∈ vc_X6_renew := fun _ h => List.mem_cons_of_mem _ (List.mem_append_right _ (List.mem_append_right _ (h)))
theorem gd_c_X6_renew : (vc_X6_renew).all goodWord = true := gall_cons rfl (gall_app (by decide +kernel) (gall_app gw_X6 gd_c_J7_fill_53178))
set_option maxHeartbeats 4000000 in
set_option maxRecDepth 100000 in
theorem c_X6_renew (l : Launch) (dC : Nat → ClassId) (dI : Nat → Nat → Nat) (cI cT cS : ClassId) (sz : Nat) (ad : Nat → Nat) (kX6 : Nat) (hX6 : isSh kX6) (a1 : Int32) (a2 : Int32) (σ : Sg) (o : Sg) (h : zf_X6_renew kX6 a1 a2 σ = some o) : gCV (S := Unit) l yX6_renew vc_X6_renew { frames := 1, cells := 0, slots := 0, locals := 23 } (dC, dI) (gTY cI cT cS) sz [.ref (ad kX6), .int a1, .int a2] (Wd 153 (cfC ad cI cT cS) σ) (fun (_ : Unit) => True) (fun (_ : Unit) => (Wd 153 (cfC ad cI cT cS) o)) 0 0 := by
  refine Met.ofW (cc := cX6_renew) (maxL := 3) (ret := none) (by decide) rfl ?_
  intro p e s m args below meth c s₁ B hml hv
  obtain ⟨rfl, hsz, hP, hK, hD0⟩ := hv
  have hx := B.exec
  have hb := B.bytes
  have hr := B.returns
  have hts := atoms_spec (ws := vc_X6_renew) B.pre
  have hown : s.vm.findClass RX6 = some m.cls := findClass_of_methodNamed B.named
  have hlocks := B.notSynchronized
  subst hsz
  have hD := hD0.self (sz := s.heap.size)
  generalize hAe : va_A (Wd 153 (cfC ad cI cT cS) σ) s.heap.size = A at hD ⊢
  have hA : ∀ q : Nat, s.heap.size ≤ q → A q := fun q h => by rw [← hAe]; exact Or.inr h
  clear hAe hD0
  refine gstart (fun H locs hHe hLe => ?_)
  have hS : va_S A s.heap H locs := by rw [← hHe, ← hLe]; exact va_S.rf
  replace hP : va_P (dC, dI) vwCl (Wd 153 (cfC ad cI cT cS) σ) H := by rw [← hHe]; exact hP
  clear hHe hLe
  have hl := lv_entry ([.ref (ad kX6), .int a1, .int a2]) (n := 3) (Nat.le_of_ble_eq_true rfl)
  rw [lg_entry_eq]
  generalize (lg_sl ([.ref (ad kX6), .int a1, .int a2]) ++ List.replicate (3 - (lg_sl ([.ref (ad kX6), .int a1, .int a2])).length) Slot.unset).toArray = ls at hl ⊢
  replace hl : lv_has ls 3 [(0, .ref (ad kX6)), (1, .int a1), (2, .int a2)] := hl
  unfold zf_X6_renew at h
  refine lv_aload_n hx hb dX6_renew_0 rfl (lv_at hl 0 rfl) ?_
  refine lv_iload_n hx hb dX6_renew_1 rfl (lv_at hl 1 rfl) ?_
  refine pf_X6_1 hX6 hx hb hts iw_X6_renew_X6 hown hK hP hD hS (hts (.fieldLink RX6 15 "TraceTrees$Sheet" "form" "I") (List.mem_of_getElem? (i := 1) rfl)) dX6_renew_2 (fun H locs hP hD hS => ?_)
  refine lv_aload_n hx hb dX6_renew_5 rfl (lv_at hl 0 rfl) ?_
  refine lv_iload_n hx hb dX6_renew_6 rfl (lv_at hl 2 rfl) ?_
  refine pf_X6_2 hX6 hx hb hts iw_X6_renew_X6 hown hK hP hD hS (hts (.fieldLink RX6 19 "TraceTrees$Sheet" "size" "I") (List.mem_of_getElem? (i := 2) rfl)) dX6_renew_7 (fun H locs hP hD hS => ?_)
  refine lv_aload_n hx hb dX6_renew_10 rfl (lv_at hl 0 rfl) ?_
  refine gf_X6_0 hX6 hx hb hts iw_X6_renew_X6 hown hK hP (hts (.fieldLink RX6 9 "TraceTrees$Sheet" "items" "[I") (List.mem_of_getElem? (i := 3) rfl)) dX6_renew_11 ?_
  refine lv_iconst (v := 0) hx hb dX6_renew_14 (by decide) ?_
  obtain ⟨σ1, hc1, h⟩ := obd_inv h
  refine wcallv (S := Unit) (va_runS (As := [.ref (ad (kX6 + 1)), .int (0 : Int32)]) (rest := []) ⟨hx, hb, hml, hown, hts⟩ (c_J7_fill_53178 l dC dI cI cT cS H.size _ _ ad (kX6 + 1) 60 (aS1 hX6) (0 : Int32) (su (su σ kX6 1 a1) kX6 2 a2) _ hc1) (va_cwS 2 hts (gWS (List.mem_of_getElem? (i := 4) rfl) (List.mem_of_getElem? (i := 5) rfl) (List.mem_of_getElem? (i := 6) rfl) ic_X6_renew_c_J7_fill_53178 gd_c_J7_fill_53178) rfl rfl rfl (by decide +kernel) ⟨(Nat.le_of_ble_eq_true rfl), (Nat.le_of_ble_eq_true rfl)⟩) (gpS hP hK hD) rfl rfl hl.1 rfl (lv_room (Nat.le_of_ble_eq_true rfl)) dX6_renew_15 ⟨(Nat.le_of_ble_eq_true rfl), (Nat.le_of_ble_eq_true rfl)⟩) hP hD hS hA (fun _ H locs hr2 hP hD hS => ?_)
  replace hP : va_P (dC, dI) vwCl (Wd 153 (cfC ad cI cT cS) σ1) H := hP
  replace hD : va_D A (Wd 153 (cfC ad cI cT cS) σ1) := hD
  have h9 := Option.some.inj h
  exact wretv hx hb hr hlocks hP hD hS trivial (by rw [← h9]) dX6_renew_18
def zb_X6_faultAt_36 (w0_36 : Int32) : Int32 := w0_36
def zb_X6_faultAt_31  : Int32 := (zb_X6_faultAt_36 (2 : Int32))
def zf_X6_faultAt (kX6 : Nat) (a1 : Int32) (a2 : Int32) (σ : Sg) : Int32 := (if (zf_X6_isLost kX6 σ) = true then (1 : Int32) else (if (σ kX6 1) = a1 then (if a2 < 0 then zb_X6_faultAt_31 else (if a2 < (σ kX6 2) then (zb_X6_faultAt_36 (0 : Int32)) else zb_X6_faultAt_31)) else (3 : Int32)))
def oc_X6_faultAt : List Cond := [.methodLink RX6 28 yX6_isLost, .instanceMethod yX6_isLost, .selects RX6 yX6_isLost yX6_isLost, .initialized RX6, .fieldLink RX6 15 "TraceTrees$Sheet" "form" "I", .fieldLink RX6 19 "TraceTrees$Sheet" "size" "I"]
def vc_X6_faultAt : List Cond := .code yX6_faultAt cX6_faultAt 3 (some .int) :: (oc_X6_faultAt ++ (wsX60 ++ (vc_X6_isLost)))
theorem iw_X6_faultAt_X6 : ∀ w ∈ wsX60, w ∈ vc_X6_faultAt := fun _ h => List.mem_cons_of_mem _ (List.mem_append_right _ (List.mem_append_left _ h))
theorem ic_X6_faultAt_c_X6_isLost : ∀ w ∈ vc_X6_isLost, w ∈ vc_X6_faultAt := fun _ h => List.mem_cons_of_mem _ (List.mem_append_right _ (List.mem_append_right _ (h)))
theorem gd_c_X6_faultAt : (vc_X6_faultAt).all goodWord = true := gall_cons rfl (gall_app (by decide +kernel) (gall_app gw_X6 gd_c_X6_isLost))
set_option maxHeartbeats 4000000 in
set_option maxRecDepth 100000 in
theorem c_X6_faultAt (l : Launch) (dC : Nat → ClassId) (dI : Nat → Nat → Nat) (cI cT cS : ClassId) (sz : Nat) (ad : Nat → Nat) (kX6 : Nat) (hX6 : isSh kX6) (a1 : Int32) (a2 : Int32) (σ : Sg) (o : Int32) (h : zf_X6_faultAt kX6 a1 a2 σ = o) : gCI (S := Unit) l yX6_faultAt vc_X6_faultAt { frames := 1, cells := 0, slots := 0, locals := 20 } (dC, dI) (gTY cI cT cS) sz [.ref (ad kX6), .int a1, .int a2] (Wd 153 (cfC ad cI cT cS) σ) (fun (r : Int32) (_ : Unit) => r = o) (fun (_ : Unit) => (Wd 153 (cfC ad cI cT cS) σ)) 0 0 := by
  refine Met.ofW (cc := cX6_faultAt) (maxL := 3) (ret := (some .int)) (by decide) rfl ?_
  intro p e s m args below meth c s₁ B hml hv
  obtain ⟨rfl, hsz, hP, hK, hD0⟩ := hv
  have hx := B.exec
  have hb := B.bytes
  have hr := B.returns
  have hts := atoms_spec (ws := vc_X6_faultAt) B.pre
  have hown : s.vm.findClass RX6 = some m.cls := findClass_of_methodNamed B.named
  have hlocks := B.notSynchronized
  subst hsz
  have hD := hD0.self (sz := s.heap.size)
  generalize hAe : va_A (Wd 153 (cfC ad cI cT cS) σ) s.heap.size = A at hD ⊢
  have hA : ∀ q : Nat, s.heap.size ≤ q → A q := fun q h => by rw [← hAe]; exact Or.inr h
  clear hAe hD0
  refine gstart (fun H locs hHe hLe => ?_)
  have hS : va_S A s.heap H locs := by rw [← hHe, ← hLe]; exact va_S.rf
  replace hP : va_P (dC, dI) vwCl (Wd 153 (cfC ad cI cT cS) σ) H := by rw [← hHe]; exact hP
  clear hHe hLe
  have hl := lv_entry ([.ref (ad kX6), .int a1, .int a2]) (n := 3) (Nat.le_of_ble_eq_true rfl)
  rw [lg_entry_eq]
  generalize (lg_sl ([.ref (ad kX6), .int a1, .int a2]) ++ List.replicate (3 - (lg_sl ([.ref (ad kX6), .int a1, .int a2])).length) Slot.unset).toArray = ls at hl ⊢
  replace hl : lv_has ls 3 [(0, .ref (ad kX6)), (1, .int a1), (2, .int a2)] := hl
  unfold zf_X6_faultAt at h
  have J36 : ∀ (w0_36 : Int32) (H : Heap) (locs : List Loc) (ls : Array Slot), zb_X6_faultAt_36 w0_36 = o → va_P (dC, dI) vwCl (Wd 153 (cfC ad cI cT cS) σ) H → va_D A (Wd 153 (cfC ad cI cT cS) σ) → va_S A s.heap H locs → lv_has ls 3 [] → W p l e (headSpec vc_X6_faultAt { frames := 1, cells := 0, slots := 0, locals := 20 }).room s m (List.toArray (α := Value) [.ref (ad kX6), .int a1, .int a2]) below meth c H locs 0 0 (MQ below (va_Qi (fun (r : Int32) (_ : Unit) => r = o) (gB (dC, dI) A (fun (_ : Unit) => (Wd 153 (cfC ad cI cT cS) σ))) A) (List.toArray (α := Value) [.ref (ad kX6), .int a1, .int a2]) s 0 0 A) (F0 m 36 ls [.int w0_36]) := by
    intro w0_36 H locs ls h hP hD hS hl
    unfold zb_X6_faultAt_36 at h
    have h9 := h
    exact wreti hx hb hr hlocks hP hD hS (by show _ = _; rw [← h9]; first | done | rfl) rfl dX6_faultAt_36
  have J31 : ∀  (H : Heap) (locs : List Loc) (ls : Array Slot), zb_X6_faultAt_31 = o → va_P (dC, dI) vwCl (Wd 153 (cfC ad cI cT cS) σ) H → va_D A (Wd 153 (cfC ad cI cT cS) σ) → va_S A s.heap H locs → lv_has ls 3 [] → W p l e (headSpec vc_X6_faultAt { frames := 1, cells := 0, slots := 0, locals := 20 }).room s m (List.toArray (α := Value) [.ref (ad kX6), .int a1, .int a2]) below meth c H locs 0 0 (MQ below (va_Qi (fun (r : Int32) (_ : Unit) => r = o) (gB (dC, dI) A (fun (_ : Unit) => (Wd 153 (cfC ad cI cT cS) σ))) A) (List.toArray (α := Value) [.ref (ad kX6), .int a1, .int a2]) s 0 0 A) (F0 m 31 ls []) := by
    intro  H locs ls h hP hD hS hl
    unfold zb_X6_faultAt_31 at h
    refine lv_iconst (v := 2) hx hb dX6_faultAt_31 (by decide) ?_
    refine lv_goto (tgt := 36) hx hb dX6_faultAt_32 (by decide) ?_
    exact J36 (2 : Int32) H locs ls h hP hD hS (lv_sub (l' := []) hl [] rfl)
  refine lv_aload_n hx hb dX6_faultAt_0 rfl (lv_at hl 0 rfl) ?_
  refine wcalli (S := Unit) (va_runV (As := []) (rest := []) ⟨hx, hb, hml, hown, hts⟩ (c_X6_isLost l dC dI cI cT cS H.size ad kX6 hX6  σ _ rfl) (cwV 0 hts (gWV (List.mem_of_getElem? (i := 1) rfl) (List.mem_of_getElem? (i := 2) rfl) (List.mem_of_getElem? (i := 3) rfl) (List.mem_of_getElem? (i := 4) rfl) ic_X6_faultAt_c_X6_isLost gd_c_X6_isLost) rfl rfl rfl (by decide +kernel) ⟨(Nat.le_of_ble_eq_true rfl), (Nat.le_of_ble_eq_true rfl)⟩) (wpV (q := (RX6, TX6, 3)) hP hK hD (oX6 hX6) rfl) rfl rfl hl.1 rfl (lv_room (Nat.le_of_ble_eq_true rfl)) dX6_faultAt_1 ⟨(Nat.le_of_ble_eq_true rfl), (Nat.le_of_ble_eq_true rfl)⟩) hP hD hS hA (fun rr1 _ H locs hr1 hP hD hS => ?_)
  refine lv_nm (y := b2i (zf_X6_isLost kX6 σ)) hr1 ?_
  refine lv_if_eq (tgt := 9) hx hb dX6_faultAt_4 (by decide) (fun c2 => ?_) (fun c2 => ?_)
  · replace h := ifn (b2i_0 c2) h
    refine lv_aload_n hx hb dX6_faultAt_9 rfl (lv_at hl 0 rfl) ?_
    refine gf_X6_1 hX6 hx hb hts iw_X6_faultAt_X6 hown hK hP (hts (.fieldLink RX6 15 "TraceTrees$Sheet" "form" "I") (List.mem_of_getElem? (i := 5) rfl)) dX6_faultAt_10 ?_
    refine lv_iload_n hx hb dX6_faultAt_13 rfl (lv_at hl 1 rfl) ?_
    refine lv_icmp_eq (tgt := 19) hx hb dX6_faultAt_14 (by decide) (fun c3 => ?_) (fun c3 => ?_)
    · replace h := ifp (c3) h
      refine lv_iload_n hx hb dX6_faultAt_19 rfl (lv_at hl 2 rfl) ?_
      refine lv_if_lt (tgt := 31) hx hb dX6_faultAt_20 (by decide) (fun c4 => ?_) (fun c4 => ?_)
      · replace h := ifp (c4) h
        exact J31  H locs ls h hP hD hS (lv_sub (l' := []) hl [] rfl)
      · replace h := ifn (c4) h
        refine lv_iload_n hx hb dX6_faultAt_23 rfl (lv_at hl 2 rfl) ?_
        refine lv_aload_n hx hb dX6_faultAt_24 rfl (lv_at hl 0 rfl) ?_
        refine gf_X6_2 hX6 hx hb hts iw_X6_faultAt_X6 hown hK hP (hts (.fieldLink RX6 19 "TraceTrees$Sheet" "size" "I") (List.mem_of_getElem? (i := 6) rfl)) dX6_faultAt_25 ?_
        refine lv_icmp_lt (tgt := 35) hx hb dX6_faultAt_28 (by decide) (fun c5 => ?_) (fun c5 => ?_)
        · replace h := ifp (c5) h
          refine lv_iconst (v := 0) hx hb dX6_faultAt_35 (by decide) ?_
          exact J36 (0 : Int32) H locs ls h hP hD hS (lv_sub (l' := []) hl [] rfl)
        · replace h := ifn (c5) h
          exact J31  H locs ls h hP hD hS (lv_sub (l' := []) hl [] rfl)
    · replace h := ifn (c3) h
      refine lv_iconst (v := 3) hx hb dX6_faultAt_17 (by decide) ?_
      have h9 := h
      exact wreti hx hb hr hlocks hP hD hS (by show _ = _; rw [← h9]; first | done | rfl) rfl dX6_faultAt_18
  · replace h := ifp (b2i_1 c2) h
    refine lv_iconst (v := 1) hx hb dX6_faultAt_7 (by decide) ?_
    have h9 := h
    exact wreti hx hb hr hlocks hP hD hS (by show _ = _; rw [← h9]; first | done | rfl) rfl dX6_faultAt_8
def zb_X6_hasSpan_31 (w0_31 : Bool) : Bool := w0_31
def zb_X6_hasSpan_30  : Bool := (zb_X6_hasSpan_31 false)
def zf_X6_hasSpan (kX6 : Nat) (a1 : Int32) (a2 : Int32) (σ : Sg) : Bool := (if a1 < 0 then zb_X6_hasSpan_30 else (if a2 < 0 then zb_X6_hasSpan_30 else (if (σ kX6 2) < a1 then zb_X6_hasSpan_30 else (if ((σ kX6 2) - a1) < a2 then zb_X6_hasSpan_30 else (zb_X6_hasSpan_31 true)))))
def oc_X6_hasSpan : List Cond := [.fieldLink RX6 19 "TraceTrees$Sheet" "size" "I"]
def vc_X6_hasSpan : List Cond := .code yX6_hasSpan cX6_hasSpan 3 (some .boolean) :: (oc_X6_hasSpan ++ (wsX60))
theorem iw_X6_hasSpan_X6 : ∀ w ∈ wsX60, w ∈ vc_X6_hasSpan := fun _ h => List.mem_cons_of_mem _ (List.mem_append_right _ (h))
theorem gd_c_X6_hasSpan : (vc_X6_hasSpan).all goodWord = true := gall_cons rfl (gall_app (by decide +kernel) gw_X6)
set_option maxHeartbeats 4000000 in
set_option maxRecDepth 100000 in
theorem c_X6_hasSpan (l : Launch) (dC : Nat → ClassId) (dI : Nat → Nat → Nat) (cI cT cS : ClassId) (sz : Nat) (ad : Nat → Nat) (kX6 : Nat) (hX6 : isSh kX6) (a1 : Int32) (a2 : Int32) (σ : Sg) (o : Bool) (h : zf_X6_hasSpan kX6 a1 a2 σ = o) : gCI (S := Unit) l yX6_hasSpan vc_X6_hasSpan { frames := 0, cells := 0, slots := 0, locals := 0 } (dC, dI) (gTY cI cT cS) sz [.ref (ad kX6), .int a1, .int a2] (Wd 153 (cfC ad cI cT cS) σ) (fun (r : Int32) (_ : Unit) => r = b2i o) (fun (_ : Unit) => (Wd 153 (cfC ad cI cT cS) σ)) 0 0 := by
  refine Met.ofW (cc := cX6_hasSpan) (maxL := 3) (ret := (some .boolean)) (by decide) rfl ?_
  intro p e s m args below meth c s₁ B hml hv
  obtain ⟨rfl, hsz, hP, hK, hD0⟩ := hv
  have hx := B.exec
  have hb := B.bytes
  have hr := B.returns
  have hts := atoms_spec (ws := vc_X6_hasSpan) B.pre
  have hown : s.vm.findClass RX6 = some m.cls := findClass_of_methodNamed B.named
  have hlocks := B.notSynchronized
  subst hsz
  have hD := hD0.self (sz := s.heap.size)
  generalize hAe : va_A (Wd 153 (cfC ad cI cT cS) σ) s.heap.size = A at hD ⊢
  have hA : ∀ q : Nat, s.heap.size ≤ q → A q := fun q h => by rw [← hAe]; exact Or.inr h
  clear hAe hD0
  refine gstart (fun H locs hHe hLe => ?_)
  have hS : va_S A s.heap H locs := by rw [← hHe, ← hLe]; exact va_S.rf
  replace hP : va_P (dC, dI) vwCl (Wd 153 (cfC ad cI cT cS) σ) H := by rw [← hHe]; exact hP
  clear hHe hLe
  have hl := lv_entry ([.ref (ad kX6), .int a1, .int a2]) (n := 3) (Nat.le_of_ble_eq_true rfl)
  rw [lg_entry_eq]
  generalize (lg_sl ([.ref (ad kX6), .int a1, .int a2]) ++ List.replicate (3 - (lg_sl ([.ref (ad kX6), .int a1, .int a2])).length) Slot.unset).toArray = ls at hl ⊢
  replace hl : lv_has ls 3 [(0, .ref (ad kX6)), (1, .int a1), (2, .int a2)] := hl
  unfold zf_X6_hasSpan at h
  have J31 : ∀ (w0_31 : Bool) (H : Heap) (locs : List Loc) (ls : Array Slot), zb_X6_hasSpan_31 w0_31 = o → va_P (dC, dI) vwCl (Wd 153 (cfC ad cI cT cS) σ) H → va_D A (Wd 153 (cfC ad cI cT cS) σ) → va_S A s.heap H locs → lv_has ls 3 [] → W p l e (headSpec vc_X6_hasSpan { frames := 0, cells := 0, slots := 0, locals := 0 }).room s m (List.toArray (α := Value) [.ref (ad kX6), .int a1, .int a2]) below meth c H locs 0 0 (MQ below (va_Qi (fun (r : Int32) (_ : Unit) => r = b2i o) (gB (dC, dI) A (fun (_ : Unit) => (Wd 153 (cfC ad cI cT cS) σ))) A) (List.toArray (α := Value) [.ref (ad kX6), .int a1, .int a2]) s 0 0 A) (F0 m 31 ls [.int (b2i w0_31)]) := by
    intro w0_31 H locs ls h hP hD hS hl
    unfold zb_X6_hasSpan_31 at h
    have h9 := h
    exact wretz hx hb hr hlocks (b2i_or _) hP hD hS (by show _ = _; rw [← h9]; first | done | rfl) rfl dX6_hasSpan_31
  have J30 : ∀  (H : Heap) (locs : List Loc) (ls : Array Slot), zb_X6_hasSpan_30 = o → va_P (dC, dI) vwCl (Wd 153 (cfC ad cI cT cS) σ) H → va_D A (Wd 153 (cfC ad cI cT cS) σ) → va_S A s.heap H locs → lv_has ls 3 [] → W p l e (headSpec vc_X6_hasSpan { frames := 0, cells := 0, slots := 0, locals := 0 }).room s m (List.toArray (α := Value) [.ref (ad kX6), .int a1, .int a2]) below meth c H locs 0 0 (MQ below (va_Qi (fun (r : Int32) (_ : Unit) => r = b2i o) (gB (dC, dI) A (fun (_ : Unit) => (Wd 153 (cfC ad cI cT cS) σ))) A) (List.toArray (α := Value) [.ref (ad kX6), .int a1, .int a2]) s 0 0 A) (F0 m 30 ls []) := by
    intro  H locs ls h hP hD hS hl
    unfold zb_X6_hasSpan_30 at h
    refine lv_iconst (v := 0) hx hb dX6_hasSpan_30 (by decide) ?_
    exact J31 false H locs ls h hP hD hS (lv_sub (l' := []) hl [] rfl)
  refine lv_iload_n hx hb dX6_hasSpan_0 rfl (lv_at hl 1 rfl) ?_
  refine lv_if_lt (tgt := 30) hx hb dX6_hasSpan_1 (by decide) (fun c1 => ?_) (fun c1 => ?_)
  · replace h := ifp (c1) h
    exact J30  H locs ls h hP hD hS (lv_sub (l' := []) hl [] rfl)
  · replace h := ifn (c1) h
    refine lv_iload_n hx hb dX6_hasSpan_4 rfl (lv_at hl 2 rfl) ?_
    refine lv_if_lt (tgt := 30) hx hb dX6_hasSpan_5 (by decide) (fun c2 => ?_) (fun c2 => ?_)
    · replace h := ifp (c2) h
      exact J30  H locs ls h hP hD hS (lv_sub (l' := []) hl [] rfl)
    · replace h := ifn (c2) h
      refine lv_iload_n hx hb dX6_hasSpan_8 rfl (lv_at hl 1 rfl) ?_
      refine lv_aload_n hx hb dX6_hasSpan_9 rfl (lv_at hl 0 rfl) ?_
      refine gf_X6_2 hX6 hx hb hts iw_X6_hasSpan_X6 hown hK hP (hts (.fieldLink RX6 19 "TraceTrees$Sheet" "size" "I") (List.mem_of_getElem? (i := 1) rfl)) dX6_hasSpan_10 ?_
      refine lv_icmp_gt (tgt := 30) hx hb dX6_hasSpan_13 (by decide) (fun c3 => ?_) (fun c3 => ?_)
      · replace h := ifp (c3) h
        exact J30  H locs ls h hP hD hS (lv_sub (l' := []) hl [] rfl)
      · replace h := ifn (c3) h
        refine lv_iload_n hx hb dX6_hasSpan_16 rfl (lv_at hl 2 rfl) ?_
        refine lv_aload_n hx hb dX6_hasSpan_17 rfl (lv_at hl 0 rfl) ?_
        refine gf_X6_2 hX6 hx hb hts iw_X6_hasSpan_X6 hown hK hP (hts (.fieldLink RX6 19 "TraceTrees$Sheet" "size" "I") (List.mem_of_getElem? (i := 1) rfl)) dX6_hasSpan_18 ?_
        refine lv_iload_n hx hb dX6_hasSpan_21 rfl (lv_at hl 1 rfl) ?_
        refine lv_isub hx hb dX6_hasSpan_22 ?_
        refine lv_icmp_gt (tgt := 30) hx hb dX6_hasSpan_23 (by decide) (fun c4 => ?_) (fun c4 => ?_)
        · replace h := ifp (c4) h
          exact J30  H locs ls h hP hD hS (lv_sub (l' := []) hl [] rfl)
        · replace h := ifn (c4) h
          refine lv_iconst (v := 1) hx hb dX6_hasSpan_26 (by decide) ?_
          refine lv_goto (tgt := 31) hx hb dX6_hasSpan_27 (by decide) ?_
          exact J31 true H locs ls h hP hD hS (lv_sub (l' := []) hl [] rfl)
def zb_X6_lower_31 (kX6 : Nat) (a1 : Int32) (σ : Sg) (w0_31 : Int32) : Option (Sg) := bd a1 60 (some (su σ (kX6 + 1) a1.toNatClampNeg w0_31))
def zf_X6_lower (kX6 : Nat) (a1 : Int32) (a2 : Int32) (σ : Sg) : Option (Sg) := (if (σ kX6 1) = 0 then (zb_X6_lower_31 kX6 a1 σ (a2.toInt8.toInt32)) else (if (σ kX6 1) = (1 : Int32) then (zb_X6_lower_31 kX6 a1 σ (a2.toInt16.toInt32)) else (zb_X6_lower_31 kX6 a1 σ a2)))
def oc_X6_lower : List Cond := [.fieldLink RX6 9 "TraceTrees$Sheet" "items" "[I", .fieldLink RX6 15 "TraceTrees$Sheet" "form" "I"]
def vc_X6_lower : List Cond := .code yX6_lower cX6_lower 3 none :: (oc_X6_lower ++ (wsX60))
theorem iw_X6_lower_X6 : ∀ w ∈ wsX60, w ∈ vc_X6_lower := fun _ h => List.mem_cons_of_mem _ (List.mem_append_right _ (h))
theorem gd_c_X6_lower : (vc_X6_lower).all goodWord = true := gall_cons rfl (gall_app (by decide +kernel) gw_X6)
set_option maxHeartbeats 4000000 in
set_option maxRecDepth 100000 in
theorem c_X6_lower (l : Launch) (dC : Nat → ClassId) (dI : Nat → Nat → Nat) (cI cT cS : ClassId) (sz : Nat) (ad : Nat → Nat) (kX6 : Nat) (hX6 : isSh kX6) (a1 : Int32) (a2 : Int32) (σ : Sg) (o : Sg) (h : zf_X6_lower kX6 a1 a2 σ = some o) : gCV (S := Unit) l yX6_lower vc_X6_lower { frames := 0, cells := 0, slots := 0, locals := 0 } (dC, dI) (gTY cI cT cS) sz [.ref (ad kX6), .int a1, .int a2] (Wd 153 (cfC ad cI cT cS) σ) (fun (_ : Unit) => True) (fun (_ : Unit) => (Wd 153 (cfC ad cI cT cS) o)) 0 0 := by
  refine Met.ofW (cc := cX6_lower) (maxL := 3) (ret := none) (by decide) rfl ?_
  intro p e s m args below meth c s₁ B hml hv
  obtain ⟨rfl, hsz, hP, hK, hD0⟩ := hv
  have hx := B.exec
  have hb := B.bytes
  have hr := B.returns
  have hts := atoms_spec (ws := vc_X6_lower) B.pre
  have hown : s.vm.findClass RX6 = some m.cls := findClass_of_methodNamed B.named
  have hlocks := B.notSynchronized
  subst hsz
  have hD := hD0.self (sz := s.heap.size)
  generalize hAe : va_A (Wd 153 (cfC ad cI cT cS) σ) s.heap.size = A at hD ⊢
  have hA : ∀ q : Nat, s.heap.size ≤ q → A q := fun q h => by rw [← hAe]; exact Or.inr h
  clear hAe hD0
  refine gstart (fun H locs hHe hLe => ?_)
  have hS : va_S A s.heap H locs := by rw [← hHe, ← hLe]; exact va_S.rf
  replace hP : va_P (dC, dI) vwCl (Wd 153 (cfC ad cI cT cS) σ) H := by rw [← hHe]; exact hP
  clear hHe hLe
  have hl := lv_entry ([.ref (ad kX6), .int a1, .int a2]) (n := 3) (Nat.le_of_ble_eq_true rfl)
  rw [lg_entry_eq]
  generalize (lg_sl ([.ref (ad kX6), .int a1, .int a2]) ++ List.replicate (3 - (lg_sl ([.ref (ad kX6), .int a1, .int a2])).length) Slot.unset).toArray = ls at hl ⊢
  replace hl : lv_has ls 3 [(0, .ref (ad kX6)), (1, .int a1), (2, .int a2)] := hl
  unfold zf_X6_lower at h
  have J31 : ∀ (w0_31 : Int32) (H : Heap) (locs : List Loc) (ls : Array Slot), zb_X6_lower_31 kX6 a1 σ w0_31 = some o → va_P (dC, dI) vwCl (Wd 153 (cfC ad cI cT cS) σ) H → va_D A (Wd 153 (cfC ad cI cT cS) σ) → va_S A s.heap H locs → lv_has ls 3 [] → W p l e (headSpec vc_X6_lower { frames := 0, cells := 0, slots := 0, locals := 0 }).room s m (List.toArray (α := Value) [.ref (ad kX6), .int a1, .int a2]) below meth c H locs 0 0 (MQ below (va_Qv (fun (_ : Unit) => True) (gB (dC, dI) A (fun (_ : Unit) => (Wd 153 (cfC ad cI cT cS) o))) A) (List.toArray (α := Value) [.ref (ad kX6), .int a1, .int a2]) s 0 0 A) (F0 m 31 ls [.int w0_31, .int a1, .ref (ad (kX6 + 1))]) := by
    intro w0_31 H locs ls h hP hD hS hl
    unfold zb_X6_lower_31 at h
    obtain ⟨hi3, h⟩ := bd_inv h
    refine wast hx hb hK hP hD hS (aS1 hX6) hi3 dX6_lower_31 (fun H locs hP hD hS => ?_)
    have h9 := Option.some.inj h
    exact wretv hx hb hr hlocks hP hD hS trivial (by rw [← h9]) dX6_lower_32
  refine lv_aload_n hx hb dX6_lower_0 rfl (lv_at hl 0 rfl) ?_
  refine gf_X6_0 hX6 hx hb hts iw_X6_lower_X6 hown hK hP (hts (.fieldLink RX6 9 "TraceTrees$Sheet" "items" "[I") (List.mem_of_getElem? (i := 1) rfl)) dX6_lower_1 ?_
  refine lv_iload_n hx hb dX6_lower_4 rfl (lv_at hl 1 rfl) ?_
  refine lv_aload_n hx hb dX6_lower_5 rfl (lv_at hl 0 rfl) ?_
  refine gf_X6_1 hX6 hx hb hts iw_X6_lower_X6 hown hK hP (hts (.fieldLink RX6 15 "TraceTrees$Sheet" "form" "I") (List.mem_of_getElem? (i := 2) rfl)) dX6_lower_6 ?_
  refine lv_if_ne (tgt := 17) hx hb dX6_lower_9 (by decide) (fun c1 => ?_) (fun c1 => ?_)
  · replace h := ifn (c1) h
    refine lv_aload_n hx hb dX6_lower_17 rfl (lv_at hl 0 rfl) ?_
    refine gf_X6_1 hX6 hx hb hts iw_X6_lower_X6 hown hK hP (hts (.fieldLink RX6 15 "TraceTrees$Sheet" "form" "I") (List.mem_of_getElem? (i := 2) rfl)) dX6_lower_18 ?_
    refine lv_iconst (v := 1) hx hb dX6_lower_21 (by decide) ?_
    refine lv_icmp_ne (tgt := 30) hx hb dX6_lower_22 (by decide) (fun c2 => ?_) (fun c2 => ?_)
    · replace h := ifn (c2) h
      refine lv_iload_n hx hb dX6_lower_30 rfl (lv_at hl 2 rfl) ?_
      exact J31 a2 H locs ls h hP hD hS (lv_sub (l' := []) hl [] rfl)
    · replace h := ifp (c2) h
      refine lv_iload_n hx hb dX6_lower_25 rfl (lv_at hl 2 rfl) ?_
      refine lv_i2s hx hb dX6_lower_26 rfl ?_
      refine lv_goto (tgt := 31) hx hb dX6_lower_27 (by decide) ?_
      exact J31 (a2.toInt16.toInt32) H locs ls h hP hD hS (lv_sub (l' := []) hl [] rfl)
  · replace h := ifp (c1) h
    refine lv_iload_n hx hb dX6_lower_12 rfl (lv_at hl 2 rfl) ?_
    refine lv_i2b hx hb dX6_lower_13 rfl ?_
    refine lv_goto (tgt := 31) hx hb dX6_lower_14 (by decide) ?_
    exact J31 (a2.toInt8.toInt32) H locs ls h hP hD hS (lv_sub (l' := []) hl [] rfl)
def zf_J6_bitCount_0f7a4 (a0 : Int32) : Int32 := letb (a0 - (((a0.toUInt32 >>> ((1 : Int32).toUInt32 &&& Int32.toUInt32 31)).toInt32) &&& (1431655765 : Int32))) (fun e1 => letb ((e1 &&& (858993459 : Int32)) + (((e1.toUInt32 >>> ((2 : Int32).toUInt32 &&& Int32.toUInt32 31)).toInt32) &&& (858993459 : Int32))) (fun e2 => letb ((e2 + ((e2.toUInt32 >>> ((4 : Int32).toUInt32 &&& Int32.toUInt32 31)).toInt32)) &&& (252645135 : Int32)) (fun e3 => letb (e3 + ((e3.toUInt32 >>> ((8 : Int32).toUInt32 &&& Int32.toUInt32 31)).toInt32)) (fun e4 => letb (e4 + ((e4.toUInt32 >>> ((16 : Int32).toUInt32 &&& Int32.toUInt32 31)).toInt32)) (fun e5 => (e5 &&& (63 : Int32)))))))
def oc_J6_bitCount_0f7a4 : List Cond := [.constant RJ6 265 (1431655765), .constant RJ6 266 (858993459), .constant RJ6 267 (252645135)]
def vc_J6_bitCount_0f7a4 : List Cond := .code yJ6_bitCount_0f7a4 cJ6_bitCount_0f7a4 1 (some .int) :: (oc_J6_bitCount_0f7a4)
theorem gd_c_J6_bitCount_0f7a4 : (vc_J6_bitCount_0f7a4).all goodWord = true := gall_cons rfl (by decide +kernel)
set_option maxHeartbeats 4000000 in
set_option maxRecDepth 100000 in
theorem c_J6_bitCount_0f7a4 (l : Launch) (dC : Nat → ClassId) (dI : Nat → Nat → Nat) (cI cT cS : ClassId) (sz : Nat) (ws : va_W) (a0 : Int32) (o : Int32) (h : zf_J6_bitCount_0f7a4 a0 = o) : gCI (S := Unit) l yJ6_bitCount_0f7a4 vc_J6_bitCount_0f7a4 { frames := 0, cells := 0, slots := 0, locals := 0 } (dC, dI) (gTY cI cT cS) sz [.int a0] ws (fun (r : Int32) (_ : Unit) => r = o) (fun (_ : Unit) => ws) 0 0 := by
  refine Met.ofW (cc := cJ6_bitCount_0f7a4) (maxL := 1) (ret := (some .int)) (by decide) rfl ?_
  intro p e s m args below meth c s₁ B hml hv
  obtain ⟨rfl, hsz, hP, hK, hD0⟩ := hv
  have hx := B.exec
  have hb := B.bytes
  have hr := B.returns
  have hts := atoms_spec (ws := vc_J6_bitCount_0f7a4) B.pre
  have hown : s.vm.findClass RJ6 = some m.cls := findClass_of_methodNamed B.named
  have hlocks := B.notSynchronized
  subst hsz
  have hD := hD0.self (sz := s.heap.size)
  generalize hAe : va_A ws s.heap.size = A at hD ⊢
  have hA : ∀ q : Nat, s.heap.size ≤ q → A q := fun q h => by rw [← hAe]; exact Or.inr h
  clear hAe hD0
  refine gstart (fun H locs hHe hLe => ?_)
  have hS : va_S A s.heap H locs := by rw [← hHe, ← hLe]; exact va_S.rf
  replace hP : va_P (dC, dI) vwCl ws H := by rw [← hHe]; exact hP
  clear hHe hLe
  have hl := lv_entry ([.int a0]) (n := 1) (Nat.le_of_ble_eq_true rfl)
  rw [lg_entry_eq]
  generalize (lg_sl ([.int a0]) ++ List.replicate (1 - (lg_sl ([.int a0])).length) Slot.unset).toArray = ls at hl ⊢
  replace hl : lv_has ls 1 [(0, .int a0)] := hl
  unfold zf_J6_bitCount_0f7a4 at h
  refine lv_iload_n hx hb dJ6_bitCount_0f7a4_0 rfl (lv_at hl 0 rfl) ?_
  refine lv_iload_n hx hb dJ6_bitCount_0f7a4_1 rfl (lv_at hl 0 rfl) ?_
  refine lv_iconst (v := 1) hx hb dJ6_bitCount_0f7a4_2 (by decide) ?_
  refine lv_iushr hx hb dJ6_bitCount_0f7a4_3 rfl ?_
  refine lv_ldcw (v := 1431655765) hx hb hown (hts (.constant RJ6 265 (1431655765)) (List.mem_of_getElem? (i := 1) rfl)) dJ6_bitCount_0f7a4_4 ?_
  refine lv_iand hx hb dJ6_bitCount_0f7a4_7 ?_
  refine lv_isub hx hb dJ6_bitCount_0f7a4_8 ?_
  obtain ⟨e1, he1, h⟩ := letb_inv h
  refine lv_nm he1 ?_
  refine lv_istore_n (lv' := [(0, .int e1)]) hx hb dJ6_bitCount_0f7a4_9 rfl hl (by decide) rfl (fun ls hl => ?_)
  refine lv_iload_n hx hb dJ6_bitCount_0f7a4_10 rfl (lv_at hl 0 rfl) ?_
  refine lv_ldcw (v := 858993459) hx hb hown (hts (.constant RJ6 266 (858993459)) (List.mem_of_getElem? (i := 2) rfl)) dJ6_bitCount_0f7a4_11 ?_
  refine lv_iand hx hb dJ6_bitCount_0f7a4_14 ?_
  refine lv_iload_n hx hb dJ6_bitCount_0f7a4_15 rfl (lv_at hl 0 rfl) ?_
  refine lv_iconst (v := 2) hx hb dJ6_bitCount_0f7a4_16 (by decide) ?_
  refine lv_iushr hx hb dJ6_bitCount_0f7a4_17 rfl ?_
  refine lv_ldcw (v := 858993459) hx hb hown (hts (.constant RJ6 266 (858993459)) (List.mem_of_getElem? (i := 2) rfl)) dJ6_bitCount_0f7a4_18 ?_
  refine lv_iand hx hb dJ6_bitCount_0f7a4_21 ?_
  refine lv_iadd hx hb dJ6_bitCount_0f7a4_22 ?_
  obtain ⟨e2, he2, h⟩ := letb_inv h
  refine lv_nm he2 ?_
  refine lv_istore_n (lv' := [(0, .int e2)]) hx hb dJ6_bitCount_0f7a4_23 rfl hl (by decide) rfl (fun ls hl => ?_)
  refine lv_iload_n hx hb dJ6_bitCount_0f7a4_24 rfl (lv_at hl 0 rfl) ?_
  refine lv_iload_n hx hb dJ6_bitCount_0f7a4_25 rfl (lv_at hl 0 rfl) ?_
  refine lv_iconst (v := 4) hx hb dJ6_bitCount_0f7a4_26 (by decide) ?_
  refine lv_iushr hx hb dJ6_bitCount_0f7a4_27 rfl ?_
  refine lv_iadd hx hb dJ6_bitCount_0f7a4_28 ?_
  refine lv_ldcw (v := 252645135) hx hb hown (hts (.constant RJ6 267 (252645135)) (List.mem_of_getElem? (i := 3) rfl)) dJ6_bitCount_0f7a4_29 ?_
  refine lv_iand hx hb dJ6_bitCount_0f7a4_32 ?_
  obtain ⟨e3, he3, h⟩ := letb_inv h
  refine lv_nm he3 ?_
  refine lv_istore_n (lv' := [(0, .int e3)]) hx hb dJ6_bitCount_0f7a4_33 rfl hl (by decide) rfl (fun ls hl => ?_)
  refine lv_iload_n hx hb dJ6_bitCount_0f7a4_34 rfl (lv_at hl 0 rfl) ?_
  refine lv_iload_n hx hb dJ6_bitCount_0f7a4_35 rfl (lv_at hl 0 rfl) ?_
  refine lv_bipush (v := 8) hx hb dJ6_bitCount_0f7a4_36 (by decide) ?_
  refine lv_iushr hx hb dJ6_bitCount_0f7a4_38 rfl ?_
  refine lv_iadd hx hb dJ6_bitCount_0f7a4_39 ?_
  obtain ⟨e4, he4, h⟩ := letb_inv h
  refine lv_nm he4 ?_
  refine lv_istore_n (lv' := [(0, .int e4)]) hx hb dJ6_bitCount_0f7a4_40 rfl hl (by decide) rfl (fun ls hl => ?_)
  refine lv_iload_n hx hb dJ6_bitCount_0f7a4_41 rfl (lv_at hl 0 rfl) ?_
  refine lv_iload_n hx hb dJ6_bitCount_0f7a4_42 rfl (lv_at hl 0 rfl) ?_
  refine lv_bipush (v := 16) hx hb dJ6_bitCount_0f7a4_43 (by decide) ?_
  refine lv_iushr hx hb dJ6_bitCount_0f7a4_45 rfl ?_
  refine lv_iadd hx hb dJ6_bitCount_0f7a4_46 ?_
  obtain ⟨e5, he5, h⟩ := letb_inv h
  refine lv_nm he5 ?_
  refine lv_istore_n (lv' := [(0, .int e5)]) hx hb dJ6_bitCount_0f7a4_47 rfl hl (by decide) rfl (fun ls hl => ?_)
  refine lv_iload_n hx hb dJ6_bitCount_0f7a4_48 rfl (lv_at hl 0 rfl) ?_
  refine lv_bipush (v := 63) hx hb dJ6_bitCount_0f7a4_49 (by decide) ?_
  refine lv_iand hx hb dJ6_bitCount_0f7a4_51 ?_
  have h9 := h
  exact wreti hx hb hr hlocks hP hD hS (by show _ = _; rw [← h9]; first | done | rfl) rfl dJ6_bitCount_0f7a4_52
def zb_X9_isSheet_14 (w0_14 : Bool) : Bool := w0_14
def zb_X9_isSheet_13  : Bool := (zb_X9_isSheet_14 false)
def zf_X9_isSheet (a0 : Int32) : Bool := (if a0 < 0 then zb_X9_isSheet_13 else (if (4 : Int32) ≤ a0 then zb_X9_isSheet_13 else (zb_X9_isSheet_14 true)))
def oc_X9_isSheet : List Cond := []
def vc_X9_isSheet : List Cond := .code yX9_isSheet cX9_isSheet 1 (some .boolean) :: (oc_X9_isSheet)
theorem gd_c_X9_isSheet : (vc_X9_isSheet).all goodWord = true := gall_cons rfl (by decide +kernel)
set_option maxHeartbeats 4000000 in
set_option maxRecDepth 100000 in
theorem c_X9_isSheet (l : Launch) (dC : Nat → ClassId) (dI : Nat → Nat → Nat) (cI cT cS : ClassId) (sz : Nat) (ws : va_W) (a0 : Int32) (o : Bool) (h : zf_X9_isSheet a0 = o) : gCI (S := Unit) l yX9_isSheet vc_X9_isSheet { frames := 0, cells := 0, slots := 0, locals := 0 } (dC, dI) (gTY cI cT cS) sz [.int a0] ws (fun (r : Int32) (_ : Unit) => r = b2i o) (fun (_ : Unit) => ws) 0 0 := by
  refine Met.ofW (cc := cX9_isSheet) (maxL := 1) (ret := (some .boolean)) (by decide) rfl ?_
  intro p e s m args below meth c s₁ B hml hv
  obtain ⟨rfl, hsz, hP, hK, hD0⟩ := hv
  have hx := B.exec
  have hb := B.bytes
  have hr := B.returns
  have hts := atoms_spec (ws := vc_X9_isSheet) B.pre
  have hown : s.vm.findClass RX9 = some m.cls := findClass_of_methodNamed B.named
  have hlocks := B.notSynchronized
  subst hsz
  have hD := hD0.self (sz := s.heap.size)
  generalize hAe : va_A ws s.heap.size = A at hD ⊢
  have hA : ∀ q : Nat, s.heap.size ≤ q → A q := fun q h => by rw [← hAe]; exact Or.inr h
  clear hAe hD0
  refine gstart (fun H locs hHe hLe => ?_)
  have hS : va_S A s.heap H locs := by rw [← hHe, ← hLe]; exact va_S.rf
  replace hP : va_P (dC, dI) vwCl ws H := by rw [← hHe]; exact hP
  clear hHe hLe
  have hl := lv_entry ([.int a0]) (n := 1) (Nat.le_of_ble_eq_true rfl)
  rw [lg_entry_eq]
  generalize (lg_sl ([.int a0]) ++ List.replicate (1 - (lg_sl ([.int a0])).length) Slot.unset).toArray = ls at hl ⊢
  replace hl : lv_has ls 1 [(0, .int a0)] := hl
  unfold zf_X9_isSheet at h
  have J14 : ∀ (w0_14 : Bool) (H : Heap) (locs : List Loc) (ls : Array Slot), zb_X9_isSheet_14 w0_14 = o → va_P (dC, dI) vwCl ws H → va_D A ws → va_S A s.heap H locs → lv_has ls 1 [] → W p l e (headSpec vc_X9_isSheet { frames := 0, cells := 0, slots := 0, locals := 0 }).room s m (List.toArray (α := Value) [.int a0]) below meth c H locs 0 0 (MQ below (va_Qi (fun (r : Int32) (_ : Unit) => r = b2i o) (gB (dC, dI) A (fun (_ : Unit) => ws)) A) (List.toArray (α := Value) [.int a0]) s 0 0 A) (F0 m 14 ls [.int (b2i w0_14)]) := by
    intro w0_14 H locs ls h hP hD hS hl
    unfold zb_X9_isSheet_14 at h
    have h9 := h
    exact wretz hx hb hr hlocks (b2i_or _) hP hD hS (by show _ = _; rw [← h9]; first | done | rfl) rfl dX9_isSheet_14
  have J13 : ∀  (H : Heap) (locs : List Loc) (ls : Array Slot), zb_X9_isSheet_13 = o → va_P (dC, dI) vwCl ws H → va_D A ws → va_S A s.heap H locs → lv_has ls 1 [] → W p l e (headSpec vc_X9_isSheet { frames := 0, cells := 0, slots := 0, locals := 0 }).room s m (List.toArray (α := Value) [.int a0]) below meth c H locs 0 0 (MQ below (va_Qi (fun (r : Int32) (_ : Unit) => r = b2i o) (gB (dC, dI) A (fun (_ : Unit) => ws)) A) (List.toArray (α := Value) [.int a0]) s 0 0 A) (F0 m 13 ls []) := by
    intro  H locs ls h hP hD hS hl
    unfold zb_X9_isSheet_13 at h
    refine lv_iconst (v := 0) hx hb dX9_isSheet_13 (by decide) ?_
    exact J14 false H locs ls h hP hD hS (lv_sub (l' := []) hl [] rfl)
  refine lv_iload_n hx hb dX9_isSheet_0 rfl (lv_at hl 0 rfl) ?_
  refine lv_if_lt (tgt := 13) hx hb dX9_isSheet_1 (by decide) (fun c1 => ?_) (fun c1 => ?_)
  · replace h := ifp (c1) h
    exact J13  H locs ls h hP hD hS (lv_sub (l' := []) hl [] rfl)
  · replace h := ifn (c1) h
    refine lv_iload_n hx hb dX9_isSheet_4 rfl (lv_at hl 0 rfl) ?_
    refine lv_iconst (v := 4) hx hb dX9_isSheet_5 (by decide) ?_
    refine lv_icmp_ge (tgt := 13) hx hb dX9_isSheet_6 (by decide) (fun c2 => ?_) (fun c2 => ?_)
    · replace h := ifp (c2) h
      exact J13  H locs ls h hP hD hS (lv_sub (l' := []) hl [] rfl)
    · replace h := ifn (c2) h
      refine lv_iconst (v := 1) hx hb dX9_isSheet_9 (by decide) ?_
      refine lv_goto (tgt := 14) hx hb dX9_isSheet_10 (by decide) ?_
      exact J14 true H locs ls h hP hD hS (lv_sub (l' := []) hl [] rfl)
