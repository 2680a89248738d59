def zb_X3_begin_24 (σb24 : Sg) : Option (Sg) := some σb24
def zf_X3_begin (kX3 : Nat) (a1 : Int32) (σ : Sg) : Option (Sg) := (if a1 = -1 then (zb_X3_begin_24 (su (su σ kX3 10 a1) kX3 11 (0 : Int32))) else tk a1 ((zb_X3_begin_24 (su (su (su σ kX3 10 a1) kX3 11 (0 : Int32)) a1.toNatClampNeg 11 ((σ a1.toNatClampNeg 11) + (1 : Int32))))))
def oc_X3_begin : List Cond := [.fieldLink RX3 56 "TraceTrees$Machine" "current" "LTraceTrees$Trace;", .fieldLink RX3 103 "TraceTrees$Machine" "at" "I", .fieldLink RX3 124 "TraceTrees$Trace" "begun" "I"]
def vc_X3_begin : List Cond := .code yX3_begin cX3_begin 2 none :: (oc_X3_begin ++ (wsX30 ++ (wsX80)))
theorem iw_X3_begin_X3 : ∀ w ∈ wsX30, w ∈ vc_X3_begin := fun _ h => List.mem_cons_of_mem _ (List.mem_append_right _ (List.mem_append_left _ h))
theorem iw_X3_begin_X8 : ∀ w ∈ wsX80, w ∈ vc_X3_begin := fun _ h => List.mem_cons_of_mem _ (List.mem_append_right _ (List.mem_append_right _ (h)))
theorem gd_c_X3_begin : (vc_X3_begin).all goodWord = true := gall_cons rfl (gall_app (by decide +kernel) (gall_app gw_X3 gw_X8))
set_option maxHeartbeats 4000000 in
set_option maxRecDepth 100000 in
theorem c_X3_begin (l : Launch) (dC : Nat → ClassId) (dI : Nat → Nat → Nat) (cI cT cS : ClassId) (sz : Nat) (ad : Nat → Nat) (kX3 : Nat) (hX3 : isM kX3) (a1 : Int32) (σ : Sg) (o : Sg) (h : zf_X3_begin kX3 a1 σ = some o) : gCV (S := Unit) l yX3_begin vc_X3_begin { frames := 0, cells := 0, slots := 0, locals := 0 } (dC, dI) (gTY cI cT cS) sz [.ref (ad kX3), rv ad a1] (Wd 153 (cfC ad cI cT cS) σ) (fun (_ : Unit) => True) (fun (_ : Unit) => (Wd 153 (cfC ad cI cT cS) o)) 0 0 := by
  refine Met.ofW (cc := cX3_begin) (maxL := 2) (ret := none) (by decide) rfl ?_
  intro p e s m args below meth c s₁ B hml hv
  obtain ⟨rfl, hsz, hP, hK, hD0⟩ := hv
  have hx := B.exec
  have hb := B.bytes
  have hr := B.returns
  have hts := atoms_spec (ws := vc_X3_begin) B.pre
  have hown : s.vm.findClass RX3 = some m.cls := findClass_of_methodNamed B.named
  have hlocks := B.notSynchronized
  subst hsz
  have hD := hD0.self (sz := s.heap.size)
  generalize hAe : va_A (Wd 153 (cfC ad cI cT cS) σ) s.heap.size = A at hD ⊢
  have hA : ∀ q : Nat, s.heap.size ≤ q → A q := fun q h => by rw [← hAe]; exact Or.inr h
  clear hAe hD0
  refine gstart (fun H locs hHe hLe => ?_)
  have hS : va_S A s.heap H locs := by rw [← hHe, ← hLe]; exact va_S.rf
  replace hP : va_P (dC, dI) vwCl (Wd 153 (cfC ad cI cT cS) σ) H := by rw [← hHe]; exact hP
  clear hHe hLe
  have hl := lv_entry ([.ref (ad kX3), rv ad a1]) (n := 2) (rv_case (P := fun v => (lg_sl [.ref (ad kX3), v]).length ≤ 2) ad a1 (Nat.le_of_ble_eq_true rfl) (fun _ => (Nat.le_of_ble_eq_true rfl)))
  rw [lg_entry_eq]
  generalize (lg_sl ([.ref (ad kX3), rv ad a1]) ++ List.replicate (2 - (lg_sl ([.ref (ad kX3), rv ad a1])).length) Slot.unset).toArray = ls at hl ⊢
  replace hl : lv_has ls 2 [(0, .ref (ad kX3)), (1, rv ad a1)] := hl
  unfold zf_X3_begin at h
  have J24 : ∀ (σb24 : Sg) (H : Heap) (locs : List Loc) (ls : Array Slot), zb_X3_begin_24 σb24 = some o → va_P (dC, dI) vwCl (Wd 153 (cfC ad cI cT cS) σb24) H → va_D A (Wd 153 (cfC ad cI cT cS) σb24) → va_S A s.heap H locs → lv_has ls 2 [] → W p l e (headSpec vc_X3_begin { frames := 0, cells := 0, slots := 0, locals := 0 }).room s m (List.toArray (α := Value) [.ref (ad kX3), rv ad a1]) below meth c H locs 0 0 (MQ below (va_Qv (fun (_ : Unit) => True) (gB (dC, dI) A (fun (_ : Unit) => (Wd 153 (cfC ad cI cT cS) o))) A) (List.toArray (α := Value) [.ref (ad kX3), rv ad a1]) s 0 0 A) (F0 m 24 ls []) := by
    intro σb24 H locs ls h hP hD hS hl
    unfold zb_X3_begin_24 at h
    have h9 := Option.some.inj h
    exact wretv hx hb hr hlocks hP hD hS trivial (by rw [← h9]) dX3_begin_24
  refine lv_aload_n hx hb dX3_begin_0 rfl (lv_at hl 0 rfl) ?_
  refine lw_aload_n hx hb dX3_begin_1 rfl (lv_at hl 1 rfl) ?_
  refine pf_X3_10 hX3 (x := a1) rfl hx hb hts iw_X3_begin_X3 hown hK hP hD hS (hts (.fieldLink RX3 56 "TraceTrees$Machine" "current" "LTraceTrees$Trace;") (List.mem_of_getElem? (i := 1) rfl)) dX3_begin_2 (fun H locs hP hD hS => ?_)
  refine lv_aload_n hx hb dX3_begin_5 rfl (lv_at hl 0 rfl) ?_
  refine lv_iconst (v := 0) hx hb dX3_begin_6 (by decide) ?_
  refine pf_X3_11 hX3 hx hb hts iw_X3_begin_X3 hown hK hP hD hS (hts (.fieldLink RX3 103 "TraceTrees$Machine" "at" "I") (List.mem_of_getElem? (i := 2) rfl)) dX3_begin_7 (fun H locs hP hD hS => ?_)
  refine lw_aload_n hx hb dX3_begin_10 rfl (lv_at hl 1 rfl) ?_
  refine w_ifnull (ad := ad) (tgt := 24) hx hb dX3_begin_11 (by decide) (fun c1 => ?_) (fun c1 => ?_)
  · replace h := ifp c1 h
    exact J24 (su (su σ kX3 10 a1) kX3 11 (0 : Int32)) H locs ls h hP hD hS (lv_sub (l' := []) hl [] rfl)
  · replace h := ifn c1 h
    refine lw_aload_n hx hb dX3_begin_14 rfl (lv_at hl 1 rfl) ?_
    refine lv_dup hx hb dX3_begin_15 (rv_cat ad _) ?_
    obtain ⟨ht2, h⟩ := tk_inv h
    refine W.eq (g2 := F0 m 16 ls [.ref (ad a1.toNatClampNeg), .ref (ad a1.toNatClampNeg)]) (by rw [rv_tr ad ht2]) ?_
    refine gf_X8_11 ht2.1 hx hb hts iw_X3_begin_X8 hown hK hP (hts (.fieldLink RX3 124 "TraceTrees$Trace" "begun" "I") (List.mem_of_getElem? (i := 3) rfl)) dX3_begin_16 ?_
    refine lv_nm (y := (σ a1.toNatClampNeg 11)) (su_rd (Ne.symm (ne_MT00 hX3 ht2.1)) (su_rd (Ne.symm (ne_MT00 hX3 ht2.1)) rfl)) ?_
    refine lv_iconst (v := 1) hx hb dX3_begin_19 (by decide) ?_
    refine lv_iadd hx hb dX3_begin_20 ?_
    refine pf_X8_11 ht2.1 hx hb hts iw_X3_begin_X8 hown hK hP hD hS (hts (.fieldLink RX3 124 "TraceTrees$Trace" "begun" "I") (List.mem_of_getElem? (i := 3) rfl)) dX3_begin_21 (fun H locs hP hD hS => ?_)
    exact J24 (su (su (su σ kX3 10 a1) kX3 11 (0 : Int32)) a1.toNatClampNeg 11 ((σ a1.toNatClampNeg 11) + (1 : Int32))) H locs ls h hP hD hS (lv_sub (l' := []) hl [] rfl)
def zb_X3_warm_77 (σb77 : Sg) : Option (Sg) := some σb77
def zf_X3_warm (kX3 : Nat) (σ : Sg) : Option (Sg) := bd (σ kX3 5) 24 ((if ((σ (kX3 + 7) (σ kX3 5).toNatClampNeg) + (1 : Int32)) = (σ kX3 4) then (if (σ (kX3 + 9) (σ kX3 5).toNatClampNeg) = -1 then obd (zf_X2_mayRecord kX3 (σ kX3 5) (su σ (kX3 + 7) (σ kX3 5).toNatClampNeg ((σ (kX3 + 7) (σ kX3 5).toNatClampNeg) + (1 : Int32)))) (fun r4 => (if r4 = true then obd (zf_X2_startRecording kX3 (σ kX3 5) (-1 : Int32) (-1 : Int32) (su σ (kX3 + 7) (σ kX3 5).toNatClampNeg ((σ (kX3 + 7) (σ kX3 5).toNatClampNeg) + (1 : Int32)))) (fun σ7 => (zb_X3_warm_77 σ7)) else (zb_X3_warm_77 (su σ (kX3 + 7) (σ kX3 5).toNatClampNeg ((σ (kX3 + 7) (σ kX3 5).toNatClampNeg) + (1 : Int32)))))) else (zb_X3_warm_77 (su σ (kX3 + 7) (σ kX3 5).toNatClampNeg ((σ (kX3 + 7) (σ kX3 5).toNatClampNeg) + (1 : Int32))))) else (zb_X3_warm_77 (su σ (kX3 + 7) (σ kX3 5).toNatClampNeg ((σ (kX3 + 7) (σ kX3 5).toNatClampNeg) + (1 : Int32))))))
def oc_X3_warm : List Cond := [.fieldLink RX3 21 "TraceTrees$Machine" "forest" "LTraceTrees$Forest;", .fieldLink RX3 186 "TraceTrees$Forest" "heat" "[I", .fieldLink RX3 67 "TraceTrees$Machine" "point" "I", .fieldLink RX3 43 "TraceTrees$Machine" "hot" "I", .fieldLink RX3 95 "TraceTrees$Forest" "root" "[LTraceTrees$Trace;", .methodLink RX3 140 yX2_mayRecord, .instanceMethod yX2_mayRecord, .selects RX2 yX2_mayRecord yX2_mayRecord, .initialized RX2, .methodLink RX3 146 yX2_startRecording, .instanceMethod yX2_startRecording, .selects RX2 yX2_startRecording yX2_startRecording]
def vc_X3_warm : List Cond := .code yX3_warm cX3_warm 1 none :: (oc_X3_warm ++ (wsX30 ++ (wsX20 ++ (vc_X2_mayRecord ++ (vc_X2_startRecording)))))
theorem iw_X3_warm_X3 : ∀ w ∈ wsX30, w ∈ vc_X3_warm := fun _ h => List.mem_cons_of_mem _ (List.mem_append_right _ (List.mem_append_left _ h))
theorem iw_X3_warm_X2 : ∀ w ∈ wsX20, w ∈ vc_X3_warm := fun _ h => List.mem_cons_of_mem _ (List.mem_append_right _ (List.mem_append_right _ (List.mem_append_left _ h)))
theorem ic_X3_warm_c_X2_mayRecord : ∀ w ∈ vc_X2_mayRecord, w ∈ vc_X3_warm := fun _ h => List.mem_cons_of_mem _ (List.mem_append_right _ (List.mem_append_right _ (List.mem_append_right _ (List.mem_append_left _ h))))
theorem ic_X3_warm_c_X2_startRecording : ∀ w ∈ vc_X2_startRecording, w ∈ vc_X3_warm := fun _ h => List.mem_cons_of_mem _ (List.mem_append_right _ (List.mem_append_right _ (List.mem_append_right _ (List.mem_append_right _ (h)))))
theorem gd_c_X3_warm : (vc_X3_warm).all goodWord = true := gall_cons rfl (gall_app (by decide +kernel) (gall_app gw_X3 (gall_app gw_X2 (gall_app gd_c_X2_mayRecord gd_c_X2_startRecording))))
set_option maxHeartbeats 4000000 in
set_option maxRecDepth 100000 in
theorem c_X3_warm (l : Launch) (dC : Nat → ClassId) (dI : Nat → Nat → Nat) (cI cT cS : ClassId) (sz : Nat) (ad : Nat → Nat) (kX3 : Nat) (hX3 : isM kX3) (σ : Sg) (o : Sg) (h : zf_X3_warm kX3 σ = some o) : gCV (S := Unit) l yX3_warm vc_X3_warm { frames := 2, cells := 0, slots := 0, locals := 46 } (dC, dI) (gTY cI cT cS) sz [.ref (ad kX3)] (Wd 153 (cfC ad cI cT cS) σ) (fun (_ : Unit) => True) (fun (_ : Unit) => (Wd 153 (cfC ad cI cT cS) o)) 0 0 := by
  refine Met.ofW (cc := cX3_warm) (maxL := 1) (ret := none) (by decide) rfl ?_
  intro p e s m args below meth c s₁ B hml hv
  obtain ⟨rfl, hsz, hP, hK, hD0⟩ := hv
  have hx := B.exec
  have hb := B.bytes
  have hr := B.returns
  have hts := atoms_spec (ws := vc_X3_warm) B.pre
  have hown : s.vm.findClass RX3 = some m.cls := findClass_of_methodNamed B.named
  have hlocks := B.notSynchronized
  subst hsz
  have hD := hD0.self (sz := s.heap.size)
  generalize hAe : va_A (Wd 153 (cfC ad cI cT cS) σ) s.heap.size = A at hD ⊢
  have hA : ∀ q : Nat, s.heap.size ≤ q → A q := fun q h => by rw [← hAe]; exact Or.inr h
  clear hAe hD0
  refine gstart (fun H locs hHe hLe => ?_)
  have hS : va_S A s.heap H locs := by rw [← hHe, ← hLe]; exact va_S.rf
  replace hP : va_P (dC, dI) vwCl (Wd 153 (cfC ad cI cT cS) σ) H := by rw [← hHe]; exact hP
  clear hHe hLe
  have hl := lv_entry ([.ref (ad kX3)]) (n := 1) (Nat.le_of_ble_eq_true rfl)
  rw [lg_entry_eq]
  generalize (lg_sl ([.ref (ad kX3)]) ++ List.replicate (1 - (lg_sl ([.ref (ad kX3)])).length) Slot.unset).toArray = ls at hl ⊢
  replace hl : lv_has ls 1 [(0, .ref (ad kX3))] := hl
  unfold zf_X3_warm at h
  have J77 : ∀ (σb77 : Sg) (H : Heap) (locs : List Loc) (ls : Array Slot), zb_X3_warm_77 σb77 = some o → va_P (dC, dI) vwCl (Wd 153 (cfC ad cI cT cS) σb77) H → va_D A (Wd 153 (cfC ad cI cT cS) σb77) → va_S A s.heap H locs → lv_has ls 1 [] → W p l e (headSpec vc_X3_warm { frames := 2, cells := 0, slots := 0, locals := 46 }).room s m (List.toArray (α := Value) [.ref (ad kX3)]) below meth c H locs 0 0 (MQ below (va_Qv (fun (_ : Unit) => True) (gB (dC, dI) A (fun (_ : Unit) => (Wd 153 (cfC ad cI cT cS) o))) A) (List.toArray (α := Value) [.ref (ad kX3)]) s 0 0 A) (F0 m 77 ls []) := by
    intro σb77 H locs ls h hP hD hS hl
    unfold zb_X3_warm_77 at h
    have h9 := Option.some.inj h
    exact wretv hx hb hr hlocks hP hD hS trivial (by rw [← h9]) dX3_warm_77
  refine lv_aload_n hx hb dX3_warm_0 rfl (lv_at hl 0 rfl) ?_
  refine gf_X3_2 hX3 hx hb hts iw_X3_warm_X3 hown hK hP (hts (.fieldLink RX3 21 "TraceTrees$Machine" "forest" "LTraceTrees$Forest;") (List.mem_of_getElem? (i := 1) rfl)) dX3_warm_1 ?_
  refine gf_X2_1 hX3 hx hb hts iw_X3_warm_X2 hown hK hP (hts (.fieldLink RX3 186 "TraceTrees$Forest" "heat" "[I") (List.mem_of_getElem? (i := 2) rfl)) dX3_warm_4 ?_
  refine lv_aload_n hx hb dX3_warm_7 rfl (lv_at hl 0 rfl) ?_
  refine gf_X3_5 hX3 hx hb hts iw_X3_warm_X3 hown hK hP (hts (.fieldLink RX3 67 "TraceTrees$Machine" "point" "I") (List.mem_of_getElem? (i := 3) rfl)) dX3_warm_8 ?_
  refine lv_dup2_11 hx hb dX3_warm_11 rfl rfl ?_
  obtain ⟨hi1, h⟩ := bd_inv h
  refine wald hx hb hK hP (aHe hX3) hi1 dX3_warm_12 ?_
  refine lv_iconst (v := 1) hx hb dX3_warm_13 (by decide) ?_
  refine lv_iadd hx hb dX3_warm_14 ?_
  refine wast hx hb hK hP hD hS (aHe hX3) hi1 dX3_warm_15 (fun H locs hP hD hS => ?_)
  refine lv_aload_n hx hb dX3_warm_16 rfl (lv_at hl 0 rfl) ?_
  refine gf_X3_2 hX3 hx hb hts iw_X3_warm_X3 hown hK hP (hts (.fieldLink RX3 21 "TraceTrees$Machine" "forest" "LTraceTrees$Forest;") (List.mem_of_getElem? (i := 1) rfl)) dX3_warm_17 ?_
  refine gf_X2_1 hX3 hx hb hts iw_X3_warm_X2 hown hK hP (hts (.fieldLink RX3 186 "TraceTrees$Forest" "heat" "[I") (List.mem_of_getElem? (i := 2) rfl)) dX3_warm_20 ?_
  refine lv_aload_n hx hb dX3_warm_23 rfl (lv_at hl 0 rfl) ?_
  refine gf_X3_5 hX3 hx hb hts iw_X3_warm_X3 hown hK hP (hts (.fieldLink RX3 67 "TraceTrees$Machine" "point" "I") (List.mem_of_getElem? (i := 3) rfl)) dX3_warm_24 ?_
  refine lv_nm (y := (σ kX3 5)) (su_rd (by omega) rfl) ?_
  refine wald hx hb hK hP (aHe hX3) hi1 dX3_warm_27 ?_
  refine lv_nm (y := ((σ (kX3 + 7) (σ kX3 5).toNatClampNeg) + (1 : Int32))) (su_hit rfl) ?_
  refine lv_aload_n hx hb dX3_warm_28 rfl (lv_at hl 0 rfl) ?_
  refine gf_X3_4 hX3 hx hb hts iw_X3_warm_X3 hown hK hP (hts (.fieldLink RX3 43 "TraceTrees$Machine" "hot" "I") (List.mem_of_getElem? (i := 4) rfl)) dX3_warm_29 ?_
  refine lv_nm (y := (σ kX3 4)) (su_rd (by omega) rfl) ?_
  refine lv_icmp_ne (tgt := 77) hx hb dX3_warm_32 (by decide) (fun c2 => ?_) (fun c2 => ?_)
  · replace h := ifn (c2) h
    exact J77 (su σ (kX3 + 7) (σ kX3 5).toNatClampNeg ((σ (kX3 + 7) (σ kX3 5).toNatClampNeg) + (1 : Int32))) H locs ls h hP hD hS (lv_sub (l' := []) hl [] rfl)
  · replace h := ifp (c2) h
    refine lv_aload_n hx hb dX3_warm_35 rfl (lv_at hl 0 rfl) ?_
    refine gf_X3_2 hX3 hx hb hts iw_X3_warm_X3 hown hK hP (hts (.fieldLink RX3 21 "TraceTrees$Machine" "forest" "LTraceTrees$Forest;") (List.mem_of_getElem? (i := 1) rfl)) dX3_warm_36 ?_
    refine gf_X2_3 hX3 hx hb hts iw_X3_warm_X2 hown hK hP (hts (.fieldLink RX3 95 "TraceTrees$Forest" "root" "[LTraceTrees$Trace;") (List.mem_of_getElem? (i := 5) rfl)) dX3_warm_39 ?_
    refine lv_aload_n hx hb dX3_warm_42 rfl (lv_at hl 0 rfl) ?_
    refine gf_X3_5 hX3 hx hb hts iw_X3_warm_X3 hown hK hP (hts (.fieldLink RX3 67 "TraceTrees$Machine" "point" "I") (List.mem_of_getElem? (i := 3) rfl)) dX3_warm_43 ?_
    refine lv_nm (y := (σ kX3 5)) (su_rd (by omega) rfl) ?_
    refine waldR hx hb hK hP hX3 hi1 dX3_warm_46 ?_
    refine lv_nmr (y := rv ad (σ (kX3 + 9) (σ kX3 5).toNatClampNeg)) (congrArg (rv ad) (su_rd (by omega) rfl)) ?_
    refine w_ifnonnull (ad := ad) (tgt := 77) hx hb dX3_warm_47 (by decide) (fun c3 => ?_) (fun c3 => ?_)
    · replace h := ifn c3 h
      exact J77 (su σ (kX3 + 7) (σ kX3 5).toNatClampNeg ((σ (kX3 + 7) (σ kX3 5).toNatClampNeg) + (1 : Int32))) H locs ls h hP hD hS (lv_sub (l' := []) hl [] rfl)
    · replace h := ifp c3 h
      refine lv_aload_n hx hb dX3_warm_50 rfl (lv_at hl 0 rfl) ?_
      refine gf_X3_2 hX3 hx hb hts iw_X3_warm_X3 hown hK hP (hts (.fieldLink RX3 21 "TraceTrees$Machine" "forest" "LTraceTrees$Forest;") (List.mem_of_getElem? (i := 1) rfl)) dX3_warm_51 ?_
      refine lv_aload_n hx hb dX3_warm_54 rfl (lv_at hl 0 rfl) ?_
      refine gf_X3_5 hX3 hx hb hts iw_X3_warm_X3 hown hK hP (hts (.fieldLink RX3 67 "TraceTrees$Machine" "point" "I") (List.mem_of_getElem? (i := 3) rfl)) dX3_warm_55 ?_
      refine lv_nm (y := (σ kX3 5)) (su_rd (by omega) rfl) ?_
      obtain ⟨r4, hc4, h⟩ := obd_inv h
      refine wcalli (S := Unit) (va_runV (As := [.int (σ kX3 5)]) (rest := []) ⟨hx, hb, hml, hown, hts⟩ (c_X2_mayRecord l dC dI cI cT cS H.size ad kX3 hX3 (σ kX3 5) (su σ (kX3 + 7) (σ kX3 5).toNatClampNeg ((σ (kX3 + 7) (σ kX3 5).toNatClampNeg) + (1 : Int32))) _ hc4) (cwV 1 hts (gWV (List.mem_of_getElem? (i := 6) rfl) (List.mem_of_getElem? (i := 7) rfl) (List.mem_of_getElem? (i := 8) rfl) (List.mem_of_getElem? (i := 9) rfl) ic_X3_warm_c_X2_mayRecord gd_c_X2_mayRecord) rfl rfl rfl (by decide +kernel) ⟨(Nat.le_of_ble_eq_true rfl), (Nat.le_of_ble_eq_true rfl)⟩) (wpV (q := (RX2, TX2, 7)) hP hK hD (oX2 hX3) rfl) rfl rfl hl.1 rfl (lv_room (Nat.le_of_ble_eq_true rfl)) dX3_warm_58 ⟨(Nat.le_of_ble_eq_true rfl), (Nat.le_of_ble_eq_true rfl)⟩) hP hD hS hA (fun rr5 _ H locs hr5 hP hD hS => ?_)
      refine lv_nm (y := b2i r4) hr5 ?_
      refine lv_if_eq (tgt := 77) hx hb dX3_warm_61 (by decide) (fun c6 => ?_) (fun c6 => ?_)
      · replace h := ifn (b2i_0 c6) h
        exact J77 (su σ (kX3 + 7) (σ kX3 5).toNatClampNeg ((σ (kX3 + 7) (σ kX3 5).toNatClampNeg) + (1 : Int32))) H locs ls h hP hD hS (lv_sub (l' := []) hl [] rfl)
      · replace h := ifp (b2i_1 c6) h
        refine lv_aload_n hx hb dX3_warm_64 rfl (lv_at hl 0 rfl) ?_
        refine gf_X3_2 hX3 hx hb hts iw_X3_warm_X3 hown hK hP (hts (.fieldLink RX3 21 "TraceTrees$Machine" "forest" "LTraceTrees$Forest;") (List.mem_of_getElem? (i := 1) rfl)) dX3_warm_65 ?_
        refine lv_aload_n hx hb dX3_warm_68 rfl (lv_at hl 0 rfl) ?_
        refine gf_X3_5 hX3 hx hb hts iw_X3_warm_X3 hown hK hP (hts (.fieldLink RX3 67 "TraceTrees$Machine" "point" "I") (List.mem_of_getElem? (i := 3) rfl)) dX3_warm_69 ?_
        refine lv_nm (y := (σ kX3 5)) (su_rd (by omega) rfl) ?_
        refine lv_iconst (v := (-1)) hx hb dX3_warm_72 (by decide) ?_
        refine lv_iconst (v := (-1)) hx hb dX3_warm_73 (by decide) ?_
        obtain ⟨σ7, hc7, h⟩ := obd_inv h
        refine wcallv (S := Unit) (va_runV (As := [.int (σ kX3 5), .int (-1 : Int32), .int (-1 : Int32)]) (rest := []) ⟨hx, hb, hml, hown, hts⟩ (c_X2_startRecording l dC dI cI cT cS H.size ad kX3 hX3 (σ kX3 5) (-1 : Int32) (-1 : Int32) (su σ (kX3 + 7) (σ kX3 5).toNatClampNeg ((σ (kX3 + 7) (σ kX3 5).toNatClampNeg) + (1 : Int32))) _ hc7) (cwV 3 hts (gWV (List.mem_of_getElem? (i := 10) rfl) (List.mem_of_getElem? (i := 11) rfl) (List.mem_of_getElem? (i := 12) rfl) (List.mem_of_getElem? (i := 9) rfl) ic_X3_warm_c_X2_startRecording gd_c_X2_startRecording) rfl rfl rfl (by decide +kernel) ⟨(Nat.le_of_ble_eq_true rfl), (Nat.le_of_ble_eq_true rfl)⟩) (wpV (q := (RX2, TX2, 7)) hP hK hD (oX2 hX3) rfl) rfl rfl hl.1 rfl (lv_room (Nat.le_of_ble_eq_true rfl)) dX3_warm_74 ⟨(Nat.le_of_ble_eq_true rfl), (Nat.le_of_ble_eq_true rfl)⟩) hP hD hS hA (fun _ H locs hr8 hP hD hS => ?_)
        replace hP : va_P (dC, dI) vwCl (Wd 153 (cfC ad cI cT cS) σ7) H := hP
        replace hD : va_D A (Wd 153 (cfC ad cI cT cS) σ7) := hD
        exact J77 σ7 H locs ls h hP hD hS (lv_sub (l' := []) hl [] rfl)
def zb_X3_goOn_98 (σb98 : Sg) : Option (Sg) := some σb98
def zf_X3_goOn (kX3 : Nat) (a1 : Bool) (σ : Sg) : Option (Sg) := letb (σ (kX3 + 5) 6) (fun e1 => (if (σ kX3 10) = -1 then (if e1 = -1 then (if a1 = true then obd (zf_X3_warm kX3 σ) (fun σ5 => (zb_X3_goOn_98 σ5)) else (zb_X3_goOn_98 σ)) else (if a1 = true then tk e1 ((if (σ kX3 5) = (σ e1.toNatClampNeg 7) then (zb_X3_goOn_98 σ) else obd (zf_X2_drop kX3 σ) (fun σ10 => (zb_X3_goOn_98 σ10)))) else (zb_X3_goOn_98 σ))) else tk (σ kX3 10) ((if ((σ kX3 11) + (1 : Int32)) < (σ ((σ kX3 10).toNatClampNeg) 10) then (zb_X3_goOn_98 (su σ kX3 11 ((σ kX3 11) + (1 : Int32)))) else bd (σ ((σ kX3 10).toNatClampNeg) 7) 24 (obd (zf_X3_begin kX3 (σ (kX3 + 9) (σ ((σ kX3 10).toNatClampNeg) 7).toNatClampNeg) (su σ kX3 11 ((σ kX3 11) + (1 : Int32)))) (fun σ15 => (zb_X3_goOn_98 σ15)))))))
def oc_X3_goOn : List Cond := [.fieldLink RX3 21 "TraceTrees$Machine" "forest" "LTraceTrees$Forest;", .fieldLink RX3 92 "TraceTrees$Forest" "recording" "LTraceTrees$Trace;", .fieldLink RX3 56 "TraceTrees$Machine" "current" "LTraceTrees$Trace;", .methodLink RX3 183 yX3_warm, .instanceMethod yX3_warm, .selects RX3 yX3_warm yX3_warm, .initialized RX3, .fieldLink RX3 67 "TraceTrees$Machine" "point" "I", .fieldLink RX3 115 "TraceTrees$Trace" "head" "I", .methodLink RX3 80 yX2_drop, .instanceMethod yX2_drop, .selects RX2 yX2_drop yX2_drop, .initialized RX2, .fieldLink RX3 103 "TraceTrees$Machine" "at" "I", .fieldLink RX3 118 "TraceTrees$Trace" "size" "I", .fieldLink RX3 95 "TraceTrees$Forest" "root" "[LTraceTrees$Trace;", .methodLink RX3 99 yX3_begin, .instanceMethod yX3_begin, .selects RX3 yX3_begin yX3_begin]
def vc_X3_goOn : List Cond := .code yX3_goOn cX3_goOn 3 none :: (oc_X3_goOn ++ (wsX30 ++ (wsX20 ++ (wsX80 ++ (vc_X3_warm ++ (vc_X2_drop ++ (vc_X3_begin)))))))
theorem iw_X3_goOn_X3 : ∀ w ∈ wsX30, w ∈ vc_X3_goOn := fun _ h => List.mem_cons_of_mem _ (List.mem_append_right _ (List.mem_append_left _ h))
theorem iw_X3_goOn_X2 : ∀ w ∈ wsX20, w ∈ vc_X3_goOn := fun _ h => List.mem_cons_of_mem _ (List.mem_append_right _ (List.mem_append_right _ (List.mem_append_left _ h)))
theorem iw_X3_goOn_X8 : ∀ w ∈ wsX80, w ∈ vc_X3_goOn := fun _ h => List.mem_cons_of_mem _ (List.mem_append_right _ (List.mem_append_right _ (List.mem_append_right _ (List.mem_append_left _ h))))
theorem ic_X3_goOn_c_X3_warm : ∀ w ∈ vc_X3_warm, w ∈ vc_X3_goOn := fun _ h => List.mem_cons_of_mem _ (List.mem_append_right _ (List.mem_append_right _ (List.mem_append_right _ (List.mem_append_right _ (List.mem_append_left _ h)))))
theorem ic_X3_goOn_c_X2_drop : ∀ w ∈ vc_X2_drop, w ∈ vc_X3_goOn := fun _ h => List.mem_cons_of_mem _ (List.mem_append_right _ (List.mem_append_right _ (List.mem_append_right _ (List.mem_append_right _ (List.mem_append_right _ (List.mem_append_left _ h))))))
theorem ic_X3_goOn_c_X3_begin : ∀ w ∈ vc_X3_begin, w ∈ vc_X3_goOn := fun _ h => List.mem_cons_of_mem _ (List.mem_append_right _ (List.mem_append_right _ (List.mem_append_right _ (List.mem_append_right _ (List.mem_append_right _ (List.mem_append_right _ (h)))))))
theorem gd_c_X3_goOn : (vc_X3_goOn).all goodWord = true := gall_cons rfl (gall_app (by decide +kernel) (gall_app gw_X3 (gall_app gw_X2 (gall_app gw_X8 (gall_app gd_c_X3_warm (gall_app gd_c_X2_drop gd_c_X3_begin))))))
set_option maxHeartbeats 4000000 in
set_option maxRecDepth 100000 in
theorem c_X3_goOn (l : Launch) (dC : Nat → ClassId) (dI : Nat → Nat → Nat) (cI cT cS : ClassId) (sz : Nat) (ad : Nat → Nat) (kX3 : Nat) (hX3 : isM kX3) (a1 : Bool) (σ : Sg) (o : Sg) (h : zf_X3_goOn kX3 a1 σ = some o) : gCV (S := Unit) l yX3_goOn vc_X3_goOn { frames := 3, cells := 0, slots := 0, locals := 66 } (dC, dI) (gTY cI cT cS) sz [.ref (ad kX3), .int (b2i a1)] (Wd 153 (cfC ad cI cT cS) σ) (fun (_ : Unit) => True) (fun (_ : Unit) => (Wd 153 (cfC ad cI cT cS) o)) 0 0 := by
  refine Met.ofW (cc := cX3_goOn) (maxL := 3) (ret := none) (by decide) rfl ?_
  intro p e s m args below meth c s₁ B hml hv
  obtain ⟨rfl, hsz, hP, hK, hD0⟩ := hv
  have hx := B.exec
  have hb := B.bytes
  have hr := B.returns
  have hts := atoms_spec (ws := vc_X3_goOn) B.pre
  have hown : s.vm.findClass RX3 = some m.cls := findClass_of_methodNamed B.named
  have hlocks := B.notSynchronized
  subst hsz
  have hD := hD0.self (sz := s.heap.size)
  generalize hAe : va_A (Wd 153 (cfC ad cI cT cS) σ) s.heap.size = A at hD ⊢
  have hA : ∀ q : Nat, s.heap.size ≤ q → A q := fun q h => by rw [← hAe]; exact Or.inr h
  clear hAe hD0
  refine gstart (fun H locs hHe hLe => ?_)
  have hS : va_S A s.heap H locs := by rw [← hHe, ← hLe]; exact va_S.rf
  replace hP : va_P (dC, dI) vwCl (Wd 153 (cfC ad cI cT cS) σ) H := by rw [← hHe]; exact hP
  clear hHe hLe
  have hl := lv_entry ([.ref (ad kX3), .int (b2i a1)]) (n := 3) (Nat.le_of_ble_eq_true rfl)
  rw [lg_entry_eq]
  generalize (lg_sl ([.ref (ad kX3), .int (b2i a1)]) ++ List.replicate (3 - (lg_sl ([.ref (ad kX3), .int (b2i a1)])).length) Slot.unset).toArray = ls at hl ⊢
  replace hl : lv_has ls 3 [(0, .ref (ad kX3)), (1, .int (b2i a1))] := hl
  unfold zf_X3_goOn at h
  have J98 : ∀ (σb98 : Sg) (H : Heap) (locs : List Loc) (ls : Array Slot), zb_X3_goOn_98 σb98 = some o → va_P (dC, dI) vwCl (Wd 153 (cfC ad cI cT cS) σb98) H → va_D A (Wd 153 (cfC ad cI cT cS) σb98) → va_S A s.heap H locs → lv_has ls 3 [] → W p l e (headSpec vc_X3_goOn { frames := 3, cells := 0, slots := 0, locals := 66 }).room s m (List.toArray (α := Value) [.ref (ad kX3), .int (b2i a1)]) below meth c H locs 0 0 (MQ below (va_Qv (fun (_ : Unit) => True) (gB (dC, dI) A (fun (_ : Unit) => (Wd 153 (cfC ad cI cT cS) o))) A) (List.toArray (α := Value) [.ref (ad kX3), .int (b2i a1)]) s 0 0 A) (F0 m 98 ls []) := by
    intro σb98 H locs ls h hP hD hS hl
    unfold zb_X3_goOn_98 at h
    have h9 := Option.some.inj h
    exact wretv hx hb hr hlocks hP hD hS trivial (by rw [← h9]) dX3_goOn_98
  refine lv_aload_n hx hb dX3_goOn_0 rfl (lv_at hl 0 rfl) ?_
  refine gf_X3_2 hX3 hx hb hts iw_X3_goOn_X3 hown hK hP (hts (.fieldLink RX3 21 "TraceTrees$Machine" "forest" "LTraceTrees$Forest;") (List.mem_of_getElem? (i := 1) rfl)) dX3_goOn_1 ?_
  refine gf_X2_6 hX3 hx hb hts iw_X3_goOn_X2 hown hK hP (hts (.fieldLink RX3 92 "TraceTrees$Forest" "recording" "LTraceTrees$Trace;") (List.mem_of_getElem? (i := 2) rfl)) dX3_goOn_4 ?_
  obtain ⟨e1, he1, h⟩ := letb_inv h
  refine lv_nmr (congrArg (rv ad) he1) ?_
  refine lw_astore_n (lv' := [(2, rv ad e1), (0, .ref (ad kX3)), (1, .int (b2i a1))]) hx hb dX3_goOn_7 rfl hl (by decide) rfl (fun ls hl => ?_)
  refine lv_aload_n hx hb dX3_goOn_8 rfl (lv_at hl 1 rfl) ?_
  refine gf_X3_10 hX3 hx hb hts iw_X3_goOn_X3 hown hK hP (hts (.fieldLink RX3 56 "TraceTrees$Machine" "current" "LTraceTrees$Trace;") (List.mem_of_getElem? (i := 3) rfl)) dX3_goOn_9 ?_
  refine w_ifnull (ad := ad) (tgt := 61) hx hb dX3_goOn_12 (by decide) (fun c2 => ?_) (fun c2 => ?_)
  · replace h := ifp c2 h
    refine lw_aload_n hx hb dX3_goOn_61 rfl (lv_at hl 0 rfl) ?_
    refine w_ifnull (ad := ad) (tgt := 90) hx hb dX3_goOn_62 (by decide) (fun c3 => ?_) (fun c3 => ?_)
    · replace h := ifp c3 h
      refine lv_iload_n hx hb dX3_goOn_90 rfl (lv_at hl 2 rfl) ?_
      refine lv_if_eq (tgt := 98) hx hb dX3_goOn_91 (by decide) (fun c4 => ?_) (fun c4 => ?_)
      · replace h := ifn (b2i_0 c4) h
        exact J98 σ H locs ls h hP hD hS (lv_sub (l' := []) hl [] rfl)
      · replace h := ifp (b2i_1 c4) h
        refine lv_aload_n hx hb dX3_goOn_94 rfl (lv_at hl 1 rfl) ?_
        obtain ⟨σ5, hc5, h⟩ := obd_inv h
        refine wcallv (S := Unit) (va_runV (As := []) (rest := []) ⟨hx, hb, hml, hown, hts⟩ (c_X3_warm l dC dI cI cT cS H.size ad kX3 hX3  σ _ hc5) (cwV 0 hts (gWV (List.mem_of_getElem? (i := 4) rfl) (List.mem_of_getElem? (i := 5) rfl) (List.mem_of_getElem? (i := 6) rfl) (List.mem_of_getElem? (i := 7) rfl) ic_X3_goOn_c_X3_warm gd_c_X3_warm) rfl rfl rfl (by decide +kernel) ⟨(Nat.le_of_ble_eq_true rfl), (Nat.le_of_ble_eq_true rfl)⟩) (wpV (q := (RX3, TX3, 12)) hP hK hD (oX3 hX3) rfl) rfl rfl hl.1 rfl (lv_room (Nat.le_of_ble_eq_true rfl)) dX3_goOn_95 ⟨(Nat.le_of_ble_eq_true rfl), (Nat.le_of_ble_eq_true rfl)⟩) hP hD hS hA (fun _ H locs hr6 hP hD hS => ?_)
        replace hP : va_P (dC, dI) vwCl (Wd 153 (cfC ad cI cT cS) σ5) H := hP
        replace hD : va_D A (Wd 153 (cfC ad cI cT cS) σ5) := hD
        exact J98 σ5 H locs ls h hP hD hS (lv_sub (l' := []) hl [] rfl)
    · replace h := ifn c3 h
      refine lv_iload_n hx hb dX3_goOn_65 rfl (lv_at hl 2 rfl) ?_
      refine lv_if_eq (tgt := 98) hx hb dX3_goOn_66 (by decide) (fun c7 => ?_) (fun c7 => ?_)
      · replace h := ifn (b2i_0 c7) h
        exact J98 σ H locs ls h hP hD hS (lv_sub (l' := []) hl [] rfl)
      · replace h := ifp (b2i_1 c7) h
        refine lv_aload_n hx hb dX3_goOn_69 rfl (lv_at hl 1 rfl) ?_
        refine gf_X3_5 hX3 hx hb hts iw_X3_goOn_X3 hown hK hP (hts (.fieldLink RX3 67 "TraceTrees$Machine" "point" "I") (List.mem_of_getElem? (i := 8) rfl)) dX3_goOn_70 ?_
        refine lw_aload_n hx hb dX3_goOn_73 rfl (lv_at hl 0 rfl) ?_
        obtain ⟨ht8, h⟩ := tk_inv h
        refine W.eq (g2 := F0 m 74 ls [.ref (ad e1.toNatClampNeg), .int (σ kX3 5)]) (by rw [rv_tr ad ht8]) ?_
        refine gf_X8_7 ht8.1 hx hb hts iw_X3_goOn_X8 hown hK hP (hts (.fieldLink RX3 115 "TraceTrees$Trace" "head" "I") (List.mem_of_getElem? (i := 9) rfl)) dX3_goOn_74 ?_
        refine lv_icmp_eq (tgt := 98) hx hb dX3_goOn_77 (by decide) (fun c9 => ?_) (fun c9 => ?_)
        · replace h := ifp (c9) h
          exact J98 σ H locs ls h hP hD hS (lv_sub (l' := []) hl [] rfl)
        · replace h := ifn (c9) h
          refine lv_aload_n hx hb dX3_goOn_80 rfl (lv_at hl 1 rfl) ?_
          refine gf_X3_2 hX3 hx hb hts iw_X3_goOn_X3 hown hK hP (hts (.fieldLink RX3 21 "TraceTrees$Machine" "forest" "LTraceTrees$Forest;") (List.mem_of_getElem? (i := 1) rfl)) dX3_goOn_81 ?_
          obtain ⟨σ10, hc10, h⟩ := obd_inv h
          refine wcallv (S := Unit) (va_runV (As := []) (rest := []) ⟨hx, hb, hml, hown, hts⟩ (c_X2_drop l dC dI cI cT cS H.size ad kX3 hX3  σ _ hc10) (cwV 0 hts (gWV (List.mem_of_getElem? (i := 10) rfl) (List.mem_of_getElem? (i := 11) rfl) (List.mem_of_getElem? (i := 12) rfl) (List.mem_of_getElem? (i := 13) rfl) ic_X3_goOn_c_X2_drop gd_c_X2_drop) rfl rfl rfl (by decide +kernel) ⟨(Nat.le_of_ble_eq_true rfl), (Nat.le_of_ble_eq_true rfl)⟩) (wpV (q := (RX2, TX2, 7)) hP hK hD (oX2 hX3) rfl) rfl rfl hl.1 rfl (lv_room (Nat.le_of_ble_eq_true rfl)) dX3_goOn_84 ⟨(Nat.le_of_ble_eq_true rfl), (Nat.le_of_ble_eq_true rfl)⟩) hP hD hS hA (fun _ H locs hr11 hP hD hS => ?_)
          replace hP : va_P (dC, dI) vwCl (Wd 153 (cfC ad cI cT cS) σ10) H := hP
          replace hD : va_D A (Wd 153 (cfC ad cI cT cS) σ10) := hD
          refine lv_goto (tgt := 98) hx hb dX3_goOn_87 (by decide) ?_
          exact J98 σ10 H locs ls h hP hD hS (lv_sub (l' := []) hl [] rfl)
  · replace h := ifn c2 h
    refine lv_aload_n hx hb dX3_goOn_15 rfl (lv_at hl 1 rfl) ?_
    refine lv_dup hx hb dX3_goOn_16 rfl ?_
    refine gf_X3_11 hX3 hx hb hts iw_X3_goOn_X3 hown hK hP (hts (.fieldLink RX3 103 "TraceTrees$Machine" "at" "I") (List.mem_of_getElem? (i := 14) rfl)) dX3_goOn_17 ?_
    refine lv_iconst (v := 1) hx hb dX3_goOn_20 (by decide) ?_
    refine lv_iadd hx hb dX3_goOn_21 ?_
    refine pf_X3_11 hX3 hx hb hts iw_X3_goOn_X3 hown hK hP hD hS (hts (.fieldLink RX3 103 "TraceTrees$Machine" "at" "I") (List.mem_of_getElem? (i := 14) rfl)) dX3_goOn_22 (fun H locs hP hD hS => ?_)
    refine lv_aload_n hx hb dX3_goOn_25 rfl (lv_at hl 1 rfl) ?_
    refine gf_X3_11 hX3 hx hb hts iw_X3_goOn_X3 hown hK hP (hts (.fieldLink RX3 103 "TraceTrees$Machine" "at" "I") (List.mem_of_getElem? (i := 14) rfl)) dX3_goOn_26 ?_
    refine lv_nm (y := ((σ kX3 11) + (1 : Int32))) (su_hit rfl) ?_
    refine lv_aload_n hx hb dX3_goOn_29 rfl (lv_at hl 1 rfl) ?_
    refine gf_X3_10 hX3 hx hb hts iw_X3_goOn_X3 hown hK hP (hts (.fieldLink RX3 56 "TraceTrees$Machine" "current" "LTraceTrees$Trace;") (List.mem_of_getElem? (i := 3) rfl)) dX3_goOn_30 ?_
    refine lv_nmr (y := rv ad (σ kX3 10)) (congrArg (rv ad) (su_rf (by omega) (by decide) rfl)) ?_
    obtain ⟨ht12, h⟩ := tk_inv h
    refine W.eq (g2 := F0 m 33 ls [.ref (ad ((σ kX3 10).toNatClampNeg)), .int ((σ kX3 11) + (1 : Int32))]) (by rw [rv_tr ad ht12]) ?_
    refine gf_X8_10 ht12.1 hx hb hts iw_X3_goOn_X8 hown hK hP (hts (.fieldLink RX3 118 "TraceTrees$Trace" "size" "I") (List.mem_of_getElem? (i := 15) rfl)) dX3_goOn_33 ?_
    refine lv_nm (y := (σ ((σ kX3 10).toNatClampNeg) 10)) (su_rd (Ne.symm (ne_MT00 hX3 ht12.1)) rfl) ?_
    refine lv_icmp_lt (tgt := 98) hx hb dX3_goOn_36 (by decide) (fun c13 => ?_) (fun c13 => ?_)
    · replace h := ifp (c13) h
      exact J98 (su σ kX3 11 ((σ kX3 11) + (1 : Int32))) H locs ls h hP hD hS (lv_sub (l' := []) hl [] rfl)
    · replace h := ifn (c13) h
      refine lv_aload_n hx hb dX3_goOn_39 rfl (lv_at hl 1 rfl) ?_
      refine lv_aload_n hx hb dX3_goOn_40 rfl (lv_at hl 1 rfl) ?_
      refine gf_X3_2 hX3 hx hb hts iw_X3_goOn_X3 hown hK hP (hts (.fieldLink RX3 21 "TraceTrees$Machine" "forest" "LTraceTrees$Forest;") (List.mem_of_getElem? (i := 1) rfl)) dX3_goOn_41 ?_
      refine gf_X2_3 hX3 hx hb hts iw_X3_goOn_X2 hown hK hP (hts (.fieldLink RX3 95 "TraceTrees$Forest" "root" "[LTraceTrees$Trace;") (List.mem_of_getElem? (i := 16) rfl)) dX3_goOn_44 ?_
      refine lv_aload_n hx hb dX3_goOn_47 rfl (lv_at hl 1 rfl) ?_
      refine gf_X3_10 hX3 hx hb hts iw_X3_goOn_X3 hown hK hP (hts (.fieldLink RX3 56 "TraceTrees$Machine" "current" "LTraceTrees$Trace;") (List.mem_of_getElem? (i := 3) rfl)) dX3_goOn_48 ?_
      refine lv_nmr (y := rv ad (σ kX3 10)) (congrArg (rv ad) (su_rf (by omega) (by decide) rfl)) ?_
      refine lv_nmr (rv_tr ad ht12) ?_
      refine gf_X8_7 ht12.1 hx hb hts iw_X3_goOn_X8 hown hK hP (hts (.fieldLink RX3 115 "TraceTrees$Trace" "head" "I") (List.mem_of_getElem? (i := 9) rfl)) dX3_goOn_51 ?_
      refine lv_nm (y := (σ ((σ kX3 10).toNatClampNeg) 7)) (su_rd (Ne.symm (ne_MT00 hX3 ht12.1)) rfl) ?_
      obtain ⟨hi14, h⟩ := bd_inv h
      refine waldR hx hb hK hP hX3 hi14 dX3_goOn_54 ?_
      refine lv_nmr (y := rv ad (σ (kX3 + 9) (σ ((σ kX3 10).toNatClampNeg) 7).toNatClampNeg)) (congrArg (rv ad) (su_rd (by omega) rfl)) ?_
      obtain ⟨σ15, hc15, h⟩ := obd_inv h
      refine wcallv (S := Unit) (va_runV (As := [rv ad (σ (kX3 + 9) (σ ((σ kX3 10).toNatClampNeg) 7).toNatClampNeg)]) (rest := []) ⟨hx, hb, hml, hown, hts⟩ (c_X3_begin l dC dI cI cT cS H.size ad kX3 hX3 (σ (kX3 + 9) (σ ((σ kX3 10).toNatClampNeg) 7).toNatClampNeg) (su σ kX3 11 ((σ kX3 11) + (1 : Int32))) _ hc15) (cwV 1 hts (gWV (List.mem_of_getElem? (i := 17) rfl) (List.mem_of_getElem? (i := 18) rfl) (List.mem_of_getElem? (i := 19) rfl) (List.mem_of_getElem? (i := 7) rfl) ic_X3_goOn_c_X3_begin gd_c_X3_begin) rfl rfl rfl (by decide +kernel) ⟨(Nat.le_of_ble_eq_true rfl), (Nat.le_of_ble_eq_true rfl)⟩) (wpV (q := (RX3, TX3, 12)) hP hK hD (oX3 hX3) rfl) rfl rfl hl.1 rfl (lv_room (Nat.le_of_ble_eq_true rfl)) dX3_goOn_55 ⟨(Nat.le_of_ble_eq_true rfl), (Nat.le_of_ble_eq_true rfl)⟩) hP hD hS hA (fun _ H locs hr16 hP hD hS => ?_)
      replace hP : va_P (dC, dI) vwCl (Wd 153 (cfC ad cI cT cS) σ15) H := hP
      replace hD : va_D A (Wd 153 (cfC ad cI cT cS) σ15) := hD
      refine lv_goto (tgt := 98) hx hb dX3_goOn_58 (by decide) ?_
      exact J98 σ15 H locs ls h hP hD hS (lv_sub (l' := []) hl [] rfl)
def zb_X3_moveTo_21 (σb21 : Sg) : Sg := σb21
def zf_X3_moveTo (kX3 : Nat) (a1 : Int32) (σ : Sg) : Sg := (if (zf_X4_holds a1 (su σ kX3 5 a1)) = true then (zb_X3_moveTo_21 (su σ kX3 5 a1)) else (zb_X3_moveTo_21 (su (su σ kX3 5 a1) kX3 6 (2 : Int32))))
def oc_X3_moveTo : List Cond := [.fieldLink RX3 67 "TraceTrees$Machine" "point" "I", .fieldLink RX3 32 "TraceTrees$Machine" "program" "LTraceTrees$Program;", .methodLink RX3 83 yX4_holds, .instanceMethod yX4_holds, .selects RX4 yX4_holds yX4_holds, .initialized RX4, .fieldLink RX3 60 "TraceTrees$Machine" "how" "I"]
def vc_X3_moveTo : List Cond := .code yX3_moveTo cX3_moveTo 2 none :: (oc_X3_moveTo ++ (wsX30 ++ (vc_X4_holds)))
theorem iw_X3_moveTo_X3 : ∀ w ∈ wsX30, w ∈ vc_X3_moveTo := fun _ h => List.mem_cons_of_mem _ (List.mem_append_right _ (List.mem_append_left _ h))
theorem ic_X3_moveTo_c_X4_holds : ∀ w ∈ vc_X4_holds, w ∈ vc_X3_moveTo := fun _ h => List.mem_cons_of_mem _ (List.mem_append_right _ (List.mem_append_right _ (h)))
theorem gd_c_X3_moveTo : (vc_X3_moveTo).all goodWord = true := gall_cons rfl (gall_app (by decide +kernel) (gall_app gw_X3 gd_c_X4_holds))
set_option maxHeartbeats 4000000 in
set_option maxRecDepth 100000 in
theorem c_X3_moveTo (l : Launch) (dC : Nat → ClassId) (dI : Nat → Nat → Nat) (cI cT cS : ClassId) (sz : Nat) (ad : Nat → Nat) (kX3 : Nat) (hX3 : isM kX3) (a1 : Int32) (σ : Sg) (o : Sg) (h : zf_X3_moveTo kX3 a1 σ = o) : gCV (S := Unit) l yX3_moveTo vc_X3_moveTo { frames := 1, cells := 0, slots := 0, locals := 21 } (dC, dI) (gTY cI cT cS) sz [.ref (ad kX3), .int a1] (Wd 153 (cfC ad cI cT cS) σ) (fun (_ : Unit) => True) (fun (_ : Unit) => (Wd 153 (cfC ad cI cT cS) o)) 0 0 := by
  refine Met.ofW (cc := cX3_moveTo) (maxL := 2) (ret := none) (by decide) rfl ?_
  intro p e s m args below meth c s₁ B hml hv
  obtain ⟨rfl, hsz, hP, hK, hD0⟩ := hv
  have hx := B.exec
  have hb := B.bytes
  have hr := B.returns
  have hts := atoms_spec (ws := vc_X3_moveTo) B.pre
  have hown : s.vm.findClass RX3 = some m.cls := findClass_of_methodNamed B.named
  have hlocks := B.notSynchronized
  subst hsz
  have hD := hD0.self (sz := s.heap.size)
  generalize hAe : va_A (Wd 153 (cfC ad cI cT cS) σ) s.heap.size = A at hD ⊢
  have hA : ∀ q : Nat, s.heap.size ≤ q → A q := fun q h => by rw [← hAe]; exact Or.inr h
  clear hAe hD0
  refine gstart (fun H locs hHe hLe => ?_)
  have hS : va_S A s.heap H locs := by rw [← hHe, ← hLe]; exact va_S.rf
  replace hP : va_P (dC, dI) vwCl (Wd 153 (cfC ad cI cT cS) σ) H := by rw [← hHe]; exact hP
  clear hHe hLe
  have hl := lv_entry ([.ref (ad kX3), .int a1]) (n := 2) (Nat.le_of_ble_eq_true rfl)
  rw [lg_entry_eq]
  generalize (lg_sl ([.ref (ad kX3), .int a1]) ++ List.replicate (2 - (lg_sl ([.ref (ad kX3), .int a1])).length) Slot.unset).toArray = ls at hl ⊢
  replace hl : lv_has ls 2 [(0, .ref (ad kX3)), (1, .int a1)] := hl
  unfold zf_X3_moveTo at h
  have J21 : ∀ (σb21 : Sg) (H : Heap) (locs : List Loc) (ls : Array Slot), zb_X3_moveTo_21 σb21 = o → va_P (dC, dI) vwCl (Wd 153 (cfC ad cI cT cS) σb21) H → va_D A (Wd 153 (cfC ad cI cT cS) σb21) → va_S A s.heap H locs → lv_has ls 2 [] → W p l e (headSpec vc_X3_moveTo { frames := 1, cells := 0, slots := 0, locals := 21 }).room s m (List.toArray (α := Value) [.ref (ad kX3), .int a1]) below meth c H locs 0 0 (MQ below (va_Qv (fun (_ : Unit) => True) (gB (dC, dI) A (fun (_ : Unit) => (Wd 153 (cfC ad cI cT cS) o))) A) (List.toArray (α := Value) [.ref (ad kX3), .int a1]) s 0 0 A) (F0 m 21 ls []) := by
    intro σb21 H locs ls h hP hD hS hl
    unfold zb_X3_moveTo_21 at h
    have h9 := h
    exact wretv hx hb hr hlocks hP hD hS trivial (by rw [← h9]) dX3_moveTo_21
  refine lv_aload_n hx hb dX3_moveTo_0 rfl (lv_at hl 0 rfl) ?_
  refine lv_iload_n hx hb dX3_moveTo_1 rfl (lv_at hl 1 rfl) ?_
  refine pf_X3_5 hX3 hx hb hts iw_X3_moveTo_X3 hown hK hP hD hS (hts (.fieldLink RX3 67 "TraceTrees$Machine" "point" "I") (List.mem_of_getElem? (i := 1) rfl)) dX3_moveTo_2 (fun H locs hP hD hS => ?_)
  refine lv_aload_n hx hb dX3_moveTo_5 rfl (lv_at hl 0 rfl) ?_
  refine gf_X3_0 hX3 hx hb hts iw_X3_moveTo_X3 hown hK hP (hts (.fieldLink RX3 32 "TraceTrees$Machine" "program" "LTraceTrees$Program;") (List.mem_of_getElem? (i := 2) rfl)) dX3_moveTo_6 ?_
  refine lv_iload_n hx hb dX3_moveTo_9 rfl (lv_at hl 1 rfl) ?_
  refine wcalli (S := Unit) (va_runV (As := [.int a1]) (rest := []) ⟨hx, hb, hml, hown, hts⟩ (c_X4_holds l dC dI cI cT cS H.size ad  a1 (su σ kX3 5 a1) _ rfl) (cwV 1 hts (gWV (List.mem_of_getElem? (i := 3) rfl) (List.mem_of_getElem? (i := 4) rfl) (List.mem_of_getElem? (i := 5) rfl) (List.mem_of_getElem? (i := 6) rfl) ic_X3_moveTo_c_X4_holds gd_c_X4_holds) rfl rfl rfl (by decide +kernel) ⟨(Nat.le_of_ble_eq_true rfl), (Nat.le_of_ble_eq_true rfl)⟩) (wpV (q := (RX4, TX4, 5)) hP hK hD oX4 rfl) rfl rfl hl.1 rfl (lv_room (Nat.le_of_ble_eq_true rfl)) dX3_moveTo_10 ⟨(Nat.le_of_ble_eq_true rfl), (Nat.le_of_ble_eq_true rfl)⟩) hP hD hS hA (fun rr1 _ H locs hr1 hP hD hS => ?_)
  refine lv_nm (y := b2i (zf_X4_holds a1 (su σ kX3 5 a1))) hr1 ?_
  refine lv_if_ne (tgt := 21) hx hb dX3_moveTo_13 (by decide) (fun c2 => ?_) (fun c2 => ?_)
  · replace h := ifp (b2i_1 c2) h
    exact J21 (su σ kX3 5 a1) H locs ls h hP hD hS (lv_sub (l' := []) hl [] rfl)
  · replace h := ifn (b2i_0 c2) h
    refine lv_aload_n hx hb dX3_moveTo_16 rfl (lv_at hl 0 rfl) ?_
    refine lv_iconst (v := 2) hx hb dX3_moveTo_17 (by decide) ?_
    refine pf_X3_6 hX3 hx hb hts iw_X3_moveTo_X3 hown hK hP hD hS (hts (.fieldLink RX3 60 "TraceTrees$Machine" "how" "I") (List.mem_of_getElem? (i := 7) rfl)) dX3_moveTo_18 (fun H locs hP hD hS => ?_)
    exact J21 (su (su σ kX3 5 a1) kX3 6 (2 : Int32)) H locs ls h hP hD hS (lv_sub (l' := []) hl [] rfl)
def zb_X3_doStep_170 (kX3 : Nat) (w0_170 : Bool) (σb170 : Sg) : Option (Sg) := obd (zf_X3_goOn kX3 w0_170 σb170) (fun σ21 => some σ21)
def zb_X3_doStep_169 (kX3 : Nat) (σb169 : Sg) : Option (Sg) := (zb_X3_doStep_170 kX3 false σb169)
def zb_X3_doStep_143 (kX3 : Nat) (v1_143 : Int32) (w0_143 : Int32) (σb143 : Sg) : Option (Sg) := letb (zf_X3_moveTo kX3 w0_143 σb143) (fun q17 => (if (q17 (kX3 + 4) 3) = 0 then (zb_X3_doStep_169 kX3 q17) else (if v1_143 < (q17 kX3 5) then (zb_X3_doStep_169 kX3 q17) else (zb_X3_doStep_170 kX3 true q17))))
def zb_X3_doStep_97 (kX3 : Nat) (v1_97 : Int32) (σb97 : Sg) : Option (Sg) := bd v1_97 24 ((if (σb97 2 v1_97.toNatClampNeg) = (9 : Int32) then some (su σb97 kX3 6 (1 : Int32)) else (if (σb97 (kX3 + 4) 3) = 0 then (zb_X3_doStep_143 kX3 v1_97 (v1_97 + (1 : Int32)) σb97) else (zb_X3_doStep_143 kX3 v1_97 (σb97 3 v1_97.toNatClampNeg) σb97))))
def zb_X3_doStep_57 (kX3 : Nat) (v1_57 : Int32) (σb57 : Sg) : Option (Sg) := obd (zf_X4_writesX v1_57 σb57) (fun r7 => (if r7 = true then obd (zf_X4_x v1_57 σb57) (fun r10 => obd (zf_X5_put (kX3 + 1) r10 (σb57 (kX3 + 4) 4) (σb57 (kX3 + 4) 5) σb57) (fun σ12 => (zb_X3_doStep_97 kX3 v1_57 σ12))) else (zb_X3_doStep_97 kX3 v1_57 σb57)))
def zb_X3_doStep_32 (kX3 : Nat) (v1_32 : Int32) (σb32 : Sg) : Option (Sg) := (if (σb32 (kX3 + 5) 6) = -1 then (zb_X3_doStep_57 kX3 v1_32 σb32) else tk (σb32 (kX3 + 5) 6) (obd (zf_X8_append ((σb32 (kX3 + 5) 6).toNatClampNeg) v1_32 kX3 σb32) (fun σ5 => (zb_X3_doStep_57 kX3 v1_32 σ5))))
def zf_X3_doStep (kX3 : Nat) (σ : Sg) : Option (Sg) := letb (σ kX3 5) (fun e1 => (if (σ kX3 10) = -1 then (zb_X3_doStep_32 kX3 e1 (su σ kX3 7 ((σ kX3 7) + (1 : Int32)))) else (zb_X3_doStep_32 kX3 e1 (su (su σ kX3 7 ((σ kX3 7) + (1 : Int32))) kX3 8 ((σ kX3 8) + (1 : Int32))))))
def oc_X3_doStep : List Cond := [.fieldLink RX3 67 "TraceTrees$Machine" "point" "I", .fieldLink RX3 47 "TraceTrees$Machine" "steps" "I", .fieldLink RX3 56 "TraceTrees$Machine" "current" "LTraceTrees$Trace;", .fieldLink RX3 50 "TraceTrees$Machine" "compiled" "I", .fieldLink RX3 21 "TraceTrees$Machine" "forest" "LTraceTrees$Forest;", .fieldLink RX3 92 "TraceTrees$Forest" "recording" "LTraceTrees$Trace;", .fieldLink RX3 28 "TraceTrees$Machine" "effect" "LTraceTrees$Effect;", .methodLink RX3 150 yX8_append, .instanceMethod yX8_append, .selects RX8 yX8_append yX8_append, .initialized RX8, .fieldLink RX3 32 "TraceTrees$Machine" "program" "LTraceTrees$Program;", .methodLink RX3 154 yX4_writesX, .instanceMethod yX4_writesX, .selects RX4 yX4_writesX yX4_writesX, .initialized RX4, .fieldLink RX3 12 "TraceTrees$Machine" "registers" "LTraceTrees$Registers;", .methodLink RX3 157 yX4_x, .instanceMethod yX4_x, .selects RX4 yX4_x yX4_x, .fieldLink RX3 161 "TraceTrees$Effect" "kind" "I", .fieldLink RX3 164 "TraceTrees$Effect" "bits" "I", .methodLink RX3 167 yX5_put, .instanceMethod yX5_put, .selects RX5 yX5_put yX5_put, .initialized RX5, .fieldLink RX3 170 "TraceTrees$Program" "kind" "[I", .fieldLink RX3 172 "TraceTrees$Effect" "jumps" "Z", .fieldLink RX3 176 "TraceTrees$Program" "a" "[I", .fieldLink RX3 60 "TraceTrees$Machine" "how" "I", .methodLink RX3 63 yX3_moveTo, .instanceMethod yX3_moveTo, .selects RX3 yX3_moveTo yX3_moveTo, .initialized RX3, .methodLink RX3 179 yX3_goOn, .instanceMethod yX3_goOn, .selects RX3 yX3_goOn yX3_goOn]
def vc_X3_doStep : List Cond := .code yX3_doStep cX3_doStep 2 none :: (oc_X3_doStep ++ (wsX30 ++ (wsX20 ++ (wsX00 ++ (wsX40 ++ (vc_X8_append ++ (vc_X4_writesX ++ (vc_X4_x ++ (vc_X5_put ++ (vc_X3_moveTo ++ (vc_X3_goOn)))))))))))
theorem iw_X3_doStep_X3 : ∀ w ∈ wsX30, w ∈ vc_X3_doStep := fun _ h => List.mem_cons_of_mem _ (List.mem_append_right _ (List.mem_append_left _ h))
theorem iw_X3_doStep_X2 : ∀ w ∈ wsX20, w ∈ vc_X3_doStep := fun _ h => List.mem_cons_of_mem _ (List.mem_append_right _ (List.mem_append_right _ (List.mem_append_left _ h)))
theorem iw_X3_doStep_X0 : ∀ w ∈ wsX00, w ∈ vc_X3_doStep := fun _ h => List.mem_cons_of_mem _ (List.mem_append_right _ (List.mem_append_right _ (List.mem_append_right _ (List.mem_append_left _ h))))
theorem iw_X3_doStep_X4 : ∀ w ∈ wsX40, w ∈ vc_X3_doStep := fun _ h => List.mem_cons_of_mem _ (List.mem_append_right _ (List.mem_append_right _ (List.mem_append_right _ (List.mem_append_right _ (List.mem_append_left _ h)))))
theorem ic_X3_doStep_c_X8_append : ∀ w ∈ vc_X8_append, w ∈ vc_X3_doStep := fun _ h => List.mem_cons_of_mem _ (List.mem_append_right _ (List.mem_append_right _ (List.mem_append_right _ (List.mem_append_right _ (List.mem_append_right _ (List.mem_append_left _ h))))))
theorem ic_X3_doStep_c_X4_writesX : ∀ w ∈ vc_X4_writesX, w ∈ vc_X3_doStep := fun _ h => List.mem_cons_of_mem _ (List.mem_append_right _ (List.mem_append_right _ (List.mem_append_right _ (List.mem_append_right _ (List.mem_append_right _ (List.mem_append_right _ (List.mem_append_left _ h)))))))
theorem ic_X3_doStep_c_X4_x : ∀ w ∈ vc_X4_x, w ∈ vc_X3_doStep := fun _ h => List.mem_cons_of_mem _ (List.mem_append_right _ (List.mem_append_right _ (List.mem_append_right _ (List.mem_append_right _ (List.mem_append_right _ (List.mem_append_right _ (List.mem_append_right _ (List.mem_append_left _ h))))))))
theorem ic_X3_doStep_c_X5_put : ∀ w ∈ vc_X5_put, w ∈ vc_X3_doStep := fun _ h => List.mem_cons_of_mem _ (List.mem_append_right _ (List.mem_append_right _ (List.mem_append_right _ (List.mem_append_right _ (List.mem_append_right _ (List.mem_append_right _ (List.mem_append_right _ (List.mem_append_right _ (List.mem_append_left _ h)))))))))
theorem ic_X3_doStep_c_X3_moveTo : ∀ w ∈ vc_X3_moveTo, w ∈ vc_X3_doStep := fun _ h => List.mem_cons_of_mem _ (List.mem_append_right _ (List.mem_append_right _ (List.mem_append_right _ (List.mem_append_right _ (List.mem_append_right _ (List.mem_append_right _ (List.mem_append_right _ (List.mem_append_right _ (List.mem_append_right _ (List.mem_append_left _ h))))))))))
theorem ic_X3_doStep_c_X3_goOn : ∀ w ∈ vc_X3_goOn, w ∈ vc_X3_doStep := fun _ h => List.mem_cons_of_mem _ (List.mem_append_right _ (List.mem_append_right _ (List.mem_append_right _ (List.mem_append_right _ (List.mem_append_right _ (List.mem_append_right _ (List.mem_append_right _ (List.mem_append_right _ (List.mem_append_right _ (List.mem_append_right _ (h)))))))))))
theorem gd_c_X3_doStep : (vc_X3_doStep).all goodWord = true := gall_cons rfl (gall_app (by decide +kernel) (gall_app gw_X3 (gall_app gw_X2 (gall_app gw_X0 (gall_app gw_X4 (gall_app gd_c_X8_append (gall_app gd_c_X4_writesX (gall_app gd_c_X4_x (gall_app gd_c_X5_put (gall_app gd_c_X3_moveTo gd_c_X3_goOn))))))))))
set_option maxHeartbeats 4000000 in
set_option maxRecDepth 100000 in
theorem c_X3_doStep (l : Launch) (dC : Nat → ClassId) (dI : Nat → Nat → Nat) (cI cT cS : ClassId) (sz : Nat) (ad : Nat → Nat) (kX3 : Nat) (hX3 : isM kX3) (σ : Sg) (o : Sg) (h : zf_X3_doStep kX3 σ = some o) : gCV (S := Unit) l yX3_doStep vc_X3_doStep { frames := 4, cells := 0, slots := 0, locals := 88 } (dC, dI) (gTY cI cT cS) sz [.ref (ad kX3)] (Wd 153 (cfC ad cI cT cS) σ) (fun (_ : Unit) => True) (fun (_ : Unit) => (Wd 153 (cfC ad cI cT cS) o)) 0 0 := by
  refine Met.ofW (cc := cX3_doStep) (maxL := 2) (ret := none) (by decide) rfl ?_
  intro p e s m args below meth c s₁ B hml hv
  obtain ⟨rfl, hsz, hP, hK, hD0⟩ := hv
  have hx := B.exec
  have hb := B.bytes
  have hr := B.returns
  have hts := atoms_spec (ws := vc_X3_doStep) B.pre
  have hown : s.vm.findClass RX3 = some m.cls := findClass_of_methodNamed B.named
  have hlocks := B.notSynchronized
  subst hsz
  have hD := hD0.self (sz := s.heap.size)
  generalize hAe : va_A (Wd 153 (cfC ad cI cT cS) σ) s.heap.size = A at hD ⊢
  have hA : ∀ q : Nat, s.heap.size ≤ q → A q := fun q h => by rw [← hAe]; exact Or.inr h
  clear hAe hD0
  refine gstart (fun H locs hHe hLe => ?_)
  have hS : va_S A s.heap H locs := by rw [← hHe, ← hLe]; exact va_S.rf
  replace hP : va_P (dC, dI) vwCl (Wd 153 (cfC ad cI cT cS) σ) H := by rw [← hHe]; exact hP
  clear hHe hLe
  have hl := lv_entry ([.ref (ad kX3)]) (n := 2) (Nat.le_of_ble_eq_true rfl)
  rw [lg_entry_eq]
  generalize (lg_sl ([.ref (ad kX3)]) ++ List.replicate (2 - (lg_sl ([.ref (ad kX3)])).length) Slot.unset).toArray = ls at hl ⊢
  replace hl : lv_has ls 2 [(0, .ref (ad kX3))] := hl
  unfold zf_X3_doStep at h
  have J170 : ∀ (w0_170 : Bool) (σb170 : Sg) (H : Heap) (locs : List Loc) (ls : Array Slot), zb_X3_doStep_170 kX3 w0_170 σb170 = some o → va_P (dC, dI) vwCl (Wd 153 (cfC ad cI cT cS) σb170) H → va_D A (Wd 153 (cfC ad cI cT cS) σb170) → va_S A s.heap H locs → lv_has ls 2 [] → W p l e (headSpec vc_X3_doStep { frames := 4, cells := 0, slots := 0, locals := 88 }).room s m (List.toArray (α := Value) [.ref (ad kX3)]) below meth c H locs 0 0 (MQ below (va_Qv (fun (_ : Unit) => True) (gB (dC, dI) A (fun (_ : Unit) => (Wd 153 (cfC ad cI cT cS) o))) A) (List.toArray (α := Value) [.ref (ad kX3)]) s 0 0 A) (F0 m 170 ls [.int (b2i w0_170), .ref (ad kX3)]) := by
    intro w0_170 σb170 H locs ls h hP hD hS hl
    unfold zb_X3_doStep_170 at h
    obtain ⟨σ21, hc21, h⟩ := obd_inv h
    refine wcallv (S := Unit) (va_runV (As := [.int (b2i w0_170)]) (rest := []) ⟨hx, hb, hml, hown, hts⟩ (c_X3_goOn l dC dI cI cT cS H.size ad kX3 hX3 w0_170 σb170 _ hc21) (cwV 1 hts (gWV (List.mem_of_getElem? (i := 35) rfl) (List.mem_of_getElem? (i := 36) rfl) (List.mem_of_getElem? (i := 37) rfl) (List.mem_of_getElem? (i := 34) rfl) ic_X3_doStep_c_X3_goOn gd_c_X3_goOn) rfl rfl rfl (by decide +kernel) ⟨(Nat.le_of_ble_eq_true rfl), (Nat.le_of_ble_eq_true rfl)⟩) (wpV (q := (RX3, TX3, 12)) hP hK hD (oX3 hX3) rfl) rfl rfl hl.1 rfl (lv_room (Nat.le_of_ble_eq_true rfl)) dX3_doStep_170 ⟨(Nat.le_of_ble_eq_true rfl), (Nat.le_of_ble_eq_true rfl)⟩) hP hD hS hA (fun _ H locs hr22 hP hD hS => ?_)
    replace hP : va_P (dC, dI) vwCl (Wd 153 (cfC ad cI cT cS) σ21) H := hP
    replace hD : va_D A (Wd 153 (cfC ad cI cT cS) σ21) := hD
    have h9 := Option.some.inj h
    exact wretv hx hb hr hlocks hP hD hS trivial (by rw [← h9]) dX3_doStep_173
  have J169 : ∀ (σb169 : Sg) (H : Heap) (locs : List Loc) (ls : Array Slot), zb_X3_doStep_169 kX3 σb169 = some o → va_P (dC, dI) vwCl (Wd 153 (cfC ad cI cT cS) σb169) H → va_D A (Wd 153 (cfC ad cI cT cS) σb169) → va_S A s.heap H locs → lv_has ls 2 [] → W p l e (headSpec vc_X3_doStep { frames := 4, cells := 0, slots := 0, locals := 88 }).room s m (List.toArray (α := Value) [.ref (ad kX3)]) below meth c H locs 0 0 (MQ below (va_Qv (fun (_ : Unit) => True) (gB (dC, dI) A (fun (_ : Unit) => (Wd 153 (cfC ad cI cT cS) o))) A) (List.toArray (α := Value) [.ref (ad kX3)]) s 0 0 A) (F0 m 169 ls [.ref (ad kX3)]) := by
    intro σb169 H locs ls h hP hD hS hl
    unfold zb_X3_doStep_169 at h
    refine lv_iconst (v := 0) hx hb dX3_doStep_169 (by decide) ?_
    exact J170 false σb169 H locs ls h hP hD hS (lv_sub (l' := []) hl [] rfl)
  have J143 : ∀ (v1_143 : Int32) (w0_143 : Int32) (σb143 : Sg) (H : Heap) (locs : List Loc) (ls : Array Slot), zb_X3_doStep_143 kX3 v1_143 w0_143 σb143 = some o → va_P (dC, dI) vwCl (Wd 153 (cfC ad cI cT cS) σb143) H → va_D A (Wd 153 (cfC ad cI cT cS) σb143) → va_S A s.heap H locs → lv_has ls 2 [(1, .int v1_143), (0, .ref (ad kX3))] → W p l e (headSpec vc_X3_doStep { frames := 4, cells := 0, slots := 0, locals := 88 }).room s m (List.toArray (α := Value) [.ref (ad kX3)]) below meth c H locs 0 0 (MQ below (va_Qv (fun (_ : Unit) => True) (gB (dC, dI) A (fun (_ : Unit) => (Wd 153 (cfC ad cI cT cS) o))) A) (List.toArray (α := Value) [.ref (ad kX3)]) s 0 0 A) (F0 m 143 ls [.int w0_143, .ref (ad kX3)]) := by
    intro v1_143 w0_143 σb143 H locs ls h hP hD hS hl
    unfold zb_X3_doStep_143 at h
    obtain ⟨q17, hc17, h⟩ := letb_inv h
    refine wcallv (S := Unit) (va_runV (As := [.int w0_143]) (rest := []) ⟨hx, hb, hml, hown, hts⟩ (c_X3_moveTo l dC dI cI cT cS H.size ad kX3 hX3 w0_143 σb143 _ hc17) (cwV 1 hts (gWV (List.mem_of_getElem? (i := 31) rfl) (List.mem_of_getElem? (i := 32) rfl) (List.mem_of_getElem? (i := 33) rfl) (List.mem_of_getElem? (i := 34) rfl) ic_X3_doStep_c_X3_moveTo gd_c_X3_moveTo) rfl rfl rfl (by decide +kernel) ⟨(Nat.le_of_ble_eq_true rfl), (Nat.le_of_ble_eq_true rfl)⟩) (wpV (q := (RX3, TX3, 12)) hP hK hD (oX3 hX3) rfl) rfl rfl hl.1 rfl (lv_room (Nat.le_of_ble_eq_true rfl)) dX3_doStep_143 ⟨(Nat.le_of_ble_eq_true rfl), (Nat.le_of_ble_eq_true rfl)⟩) hP hD hS hA (fun _ H locs hr18 hP hD hS => ?_)
    replace hP : va_P (dC, dI) vwCl (Wd 153 (cfC ad cI cT cS) q17) H := hP
    replace hD : va_D A (Wd 153 (cfC ad cI cT cS) q17) := hD
    refine lv_aload_n hx hb dX3_doStep_146 rfl (lv_at hl 1 rfl) ?_
    refine lv_aload_n hx hb dX3_doStep_147 rfl (lv_at hl 1 rfl) ?_
    refine gf_X3_3 hX3 hx hb hts iw_X3_doStep_X3 hown hK hP (hts (.fieldLink RX3 28 "TraceTrees$Machine" "effect" "LTraceTrees$Effect;") (List.mem_of_getElem? (i := 7) rfl)) dX3_doStep_148 ?_
    refine gf_X0_3 hX3 hx hb hts iw_X3_doStep_X0 hown hK hP (hts (.fieldLink RX3 172 "TraceTrees$Effect" "jumps" "Z") (List.mem_of_getElem? (i := 28) rfl)) dX3_doStep_151 ?_
    refine lv_if_eq (tgt := 169) hx hb dX3_doStep_154 (by decide) (fun c19 => ?_) (fun c19 => ?_)
    · replace h := ifp (c19) h
      exact J169 q17 H locs ls h hP hD hS (lv_sub (l' := []) hl [] rfl)
    · replace h := ifn (c19) h
      refine lv_aload_n hx hb dX3_doStep_157 rfl (lv_at hl 1 rfl) ?_
      refine gf_X3_5 hX3 hx hb hts iw_X3_doStep_X3 hown hK hP (hts (.fieldLink RX3 67 "TraceTrees$Machine" "point" "I") (List.mem_of_getElem? (i := 1) rfl)) dX3_doStep_158 ?_
      refine lv_iload_n hx hb dX3_doStep_161 rfl (lv_at hl 0 rfl) ?_
      refine lv_icmp_gt (tgt := 169) hx hb dX3_doStep_162 (by decide) (fun c20 => ?_) (fun c20 => ?_)
      · replace h := ifp (c20) h
        exact J169 q17 H locs ls h hP hD hS (lv_sub (l' := []) hl [] rfl)
      · replace h := ifn (c20) h
        refine lv_iconst (v := 1) hx hb dX3_doStep_165 (by decide) ?_
        refine lv_goto (tgt := 170) hx hb dX3_doStep_166 (by decide) ?_
        exact J170 true q17 H locs ls h hP hD hS (lv_sub (l' := []) hl [] rfl)
  have J97 : ∀ (v1_97 : Int32) (σb97 : Sg) (H : Heap) (locs : List Loc) (ls : Array Slot), zb_X3_doStep_97 kX3 v1_97 σb97 = some o → va_P (dC, dI) vwCl (Wd 153 (cfC ad cI cT cS) σb97) H → va_D A (Wd 153 (cfC ad cI cT cS) σb97) → va_S A s.heap H locs → lv_has ls 2 [(1, .int v1_97), (0, .ref (ad kX3))] → W p l e (headSpec vc_X3_doStep { frames := 4, cells := 0, slots := 0, locals := 88 }).room s m (List.toArray (α := Value) [.ref (ad kX3)]) below meth c H locs 0 0 (MQ below (va_Qv (fun (_ : Unit) => True) (gB (dC, dI) A (fun (_ : Unit) => (Wd 153 (cfC ad cI cT cS) o))) A) (List.toArray (α := Value) [.ref (ad kX3)]) s 0 0 A) (F0 m 97 ls []) := by
    intro v1_97 σb97 H locs ls h hP hD hS hl
    unfold zb_X3_doStep_97 at h
    refine lv_aload_n hx hb dX3_doStep_97 rfl (lv_at hl 1 rfl) ?_
    refine gf_X3_0 hX3 hx hb hts iw_X3_doStep_X3 hown hK hP (hts (.fieldLink RX3 32 "TraceTrees$Machine" "program" "LTraceTrees$Program;") (List.mem_of_getElem? (i := 12) rfl)) dX3_doStep_98 ?_
    refine gf_X4_0 hx hb hts iw_X3_doStep_X4 hown hK hP (hts (.fieldLink RX3 170 "TraceTrees$Program" "kind" "[I") (List.mem_of_getElem? (i := 27) rfl)) dX3_doStep_101 ?_
    refine lv_iload_n hx hb dX3_doStep_104 rfl (lv_at hl 0 rfl) ?_
    obtain ⟨hi14, h⟩ := bd_inv h
    refine wald hx hb hK hP aP2 hi14 dX3_doStep_105 ?_
    refine lv_bipush (v := 9) hx hb dX3_doStep_106 (by decide) ?_
    refine lv_icmp_ne (tgt := 117) hx hb dX3_doStep_108 (by decide) (fun c15 => ?_) (fun c15 => ?_)
    · replace h := ifn (c15) h
      refine lv_aload_n hx hb dX3_doStep_117 rfl (lv_at hl 1 rfl) ?_
      refine lv_aload_n hx hb dX3_doStep_118 rfl (lv_at hl 1 rfl) ?_
      refine gf_X3_3 hX3 hx hb hts iw_X3_doStep_X3 hown hK hP (hts (.fieldLink RX3 28 "TraceTrees$Machine" "effect" "LTraceTrees$Effect;") (List.mem_of_getElem? (i := 7) rfl)) dX3_doStep_119 ?_
      refine gf_X0_3 hX3 hx hb hts iw_X3_doStep_X0 hown hK hP (hts (.fieldLink RX3 172 "TraceTrees$Effect" "jumps" "Z") (List.mem_of_getElem? (i := 28) rfl)) dX3_doStep_122 ?_
      refine lv_if_eq (tgt := 140) hx hb dX3_doStep_125 (by decide) (fun c16 => ?_) (fun c16 => ?_)
      · replace h := ifp (c16) h
        refine lv_iload_n hx hb dX3_doStep_140 rfl (lv_at hl 0 rfl) ?_
        refine lv_iconst (v := 1) hx hb dX3_doStep_141 (by decide) ?_
        refine lv_iadd hx hb dX3_doStep_142 ?_
        exact J143 v1_97 (v1_97 + (1 : Int32)) σb97 H locs ls h hP hD hS (lv_sub (l' := [(1, .int v1_97), (0, .ref (ad kX3))]) hl [0, 1] rfl)
      · replace h := ifn (c16) h
        refine lv_aload_n hx hb dX3_doStep_128 rfl (lv_at hl 1 rfl) ?_
        refine gf_X3_0 hX3 hx hb hts iw_X3_doStep_X3 hown hK hP (hts (.fieldLink RX3 32 "TraceTrees$Machine" "program" "LTraceTrees$Program;") (List.mem_of_getElem? (i := 12) rfl)) dX3_doStep_129 ?_
        refine gf_X4_1 hx hb hts iw_X3_doStep_X4 hown hK hP (hts (.fieldLink RX3 176 "TraceTrees$Program" "a" "[I") (List.mem_of_getElem? (i := 29) rfl)) dX3_doStep_132 ?_
        refine lv_iload_n hx hb dX3_doStep_135 rfl (lv_at hl 0 rfl) ?_
        refine wald hx hb hK hP aP3 hi14 dX3_doStep_136 ?_
        refine lv_goto (tgt := 143) hx hb dX3_doStep_137 (by decide) ?_
        exact J143 v1_97 (σb97 3 v1_97.toNatClampNeg) σb97 H locs ls h hP hD hS (lv_sub (l' := [(1, .int v1_97), (0, .ref (ad kX3))]) hl [0, 1] rfl)
    · replace h := ifp (c15) h
      refine lv_aload_n hx hb dX3_doStep_111 rfl (lv_at hl 1 rfl) ?_
      refine lv_iconst (v := 1) hx hb dX3_doStep_112 (by decide) ?_
      refine pf_X3_6 hX3 hx hb hts iw_X3_doStep_X3 hown hK hP hD hS (hts (.fieldLink RX3 60 "TraceTrees$Machine" "how" "I") (List.mem_of_getElem? (i := 30) rfl)) dX3_doStep_113 (fun H locs hP hD hS => ?_)
      have h9 := Option.some.inj h
      exact wretv hx hb hr hlocks hP hD hS trivial (by rw [← h9]) dX3_doStep_116
  have J57 : ∀ (v1_57 : Int32) (σb57 : Sg) (H : Heap) (locs : List Loc) (ls : Array Slot), zb_X3_doStep_57 kX3 v1_57 σb57 = some o → va_P (dC, dI) vwCl (Wd 153 (cfC ad cI cT cS) σb57) H → va_D A (Wd 153 (cfC ad cI cT cS) σb57) → va_S A s.heap H locs → lv_has ls 2 [(1, .int v1_57), (0, .ref (ad kX3))] → W p l e (headSpec vc_X3_doStep { frames := 4, cells := 0, slots := 0, locals := 88 }).room s m (List.toArray (α := Value) [.ref (ad kX3)]) below meth c H locs 0 0 (MQ below (va_Qv (fun (_ : Unit) => True) (gB (dC, dI) A (fun (_ : Unit) => (Wd 153 (cfC ad cI cT cS) o))) A) (List.toArray (α := Value) [.ref (ad kX3)]) s 0 0 A) (F0 m 57 ls []) := by
    intro v1_57 σb57 H locs ls h hP hD hS hl
    unfold zb_X3_doStep_57 at h
    refine lv_aload_n hx hb dX3_doStep_57 rfl (lv_at hl 1 rfl) ?_
    refine gf_X3_0 hX3 hx hb hts iw_X3_doStep_X3 hown hK hP (hts (.fieldLink RX3 32 "TraceTrees$Machine" "program" "LTraceTrees$Program;") (List.mem_of_getElem? (i := 12) rfl)) dX3_doStep_58 ?_
    refine lv_iload_n hx hb dX3_doStep_61 rfl (lv_at hl 0 rfl) ?_
    obtain ⟨r7, hc7, h⟩ := obd_inv h
    refine wcalli (S := Unit) (va_runV (As := [.int v1_57]) (rest := []) ⟨hx, hb, hml, hown, hts⟩ (c_X4_writesX l dC dI cI cT cS H.size ad  v1_57 σb57 _ hc7) (cwV 1 hts (gWV (List.mem_of_getElem? (i := 13) rfl) (List.mem_of_getElem? (i := 14) rfl) (List.mem_of_getElem? (i := 15) rfl) (List.mem_of_getElem? (i := 16) rfl) ic_X3_doStep_c_X4_writesX gd_c_X4_writesX) rfl rfl rfl (by decide +kernel) ⟨(Nat.le_of_ble_eq_true rfl), (Nat.le_of_ble_eq_true rfl)⟩) (wpV (q := (RX4, TX4, 5)) hP hK hD oX4 rfl) rfl rfl hl.1 rfl (lv_room (Nat.le_of_ble_eq_true rfl)) dX3_doStep_62 ⟨(Nat.le_of_ble_eq_true rfl), (Nat.le_of_ble_eq_true rfl)⟩) hP hD hS hA (fun rr8 _ H locs hr8 hP hD hS => ?_)
    refine lv_nm (y := b2i r7) hr8 ?_
    refine lv_if_eq (tgt := 97) hx hb dX3_doStep_65 (by decide) (fun c9 => ?_) (fun c9 => ?_)
    · replace h := ifn (b2i_0 c9) h
      exact J97 v1_57 σb57 H locs ls h hP hD hS (lv_sub (l' := [(1, .int v1_57), (0, .ref (ad kX3))]) hl [0, 1] rfl)
    · replace h := ifp (b2i_1 c9) h
      refine lv_aload_n hx hb dX3_doStep_68 rfl (lv_at hl 1 rfl) ?_
      refine gf_X3_1 hX3 hx hb hts iw_X3_doStep_X3 hown hK hP (hts (.fieldLink RX3 12 "TraceTrees$Machine" "registers" "LTraceTrees$Registers;") (List.mem_of_getElem? (i := 17) rfl)) dX3_doStep_69 ?_
      refine lv_aload_n hx hb dX3_doStep_72 rfl (lv_at hl 1 rfl) ?_
      refine gf_X3_0 hX3 hx hb hts iw_X3_doStep_X3 hown hK hP (hts (.fieldLink RX3 32 "TraceTrees$Machine" "program" "LTraceTrees$Program;") (List.mem_of_getElem? (i := 12) rfl)) dX3_doStep_73 ?_
      refine lv_iload_n hx hb dX3_doStep_76 rfl (lv_at hl 0 rfl) ?_
      obtain ⟨r10, hc10, h⟩ := obd_inv h
      refine wcalli (S := Unit) (va_runV (As := [.int v1_57]) (rest := [.ref (ad (kX3 + 1))]) ⟨hx, hb, hml, hown, hts⟩ (c_X4_x l dC dI cI cT cS H.size ad  v1_57 σb57 _ hc10) (cwV 1 hts (gWV (List.mem_of_getElem? (i := 18) rfl) (List.mem_of_getElem? (i := 19) rfl) (List.mem_of_getElem? (i := 20) rfl) (List.mem_of_getElem? (i := 16) rfl) ic_X3_doStep_c_X4_x gd_c_X4_x) rfl rfl rfl (by decide +kernel) ⟨(Nat.le_of_ble_eq_true rfl), (Nat.le_of_ble_eq_true rfl)⟩) (wpV (q := (RX4, TX4, 5)) hP hK hD oX4 rfl) rfl rfl hl.1 rfl (lv_room (Nat.le_of_ble_eq_true rfl)) dX3_doStep_77 ⟨(Nat.le_of_ble_eq_true rfl), (Nat.le_of_ble_eq_true rfl)⟩) hP hD hS hA (fun rr11 _ H locs hr11 hP hD hS => ?_)
      refine lv_nm (y := r10) hr11 ?_
      refine lv_aload_n hx hb dX3_doStep_80 rfl (lv_at hl 1 rfl) ?_
      refine gf_X3_3 hX3 hx hb hts iw_X3_doStep_X3 hown hK hP (hts (.fieldLink RX3 28 "TraceTrees$Machine" "effect" "LTraceTrees$Effect;") (List.mem_of_getElem? (i := 7) rfl)) dX3_doStep_81 ?_
      refine gf_X0_4 hX3 hx hb hts iw_X3_doStep_X0 hown hK hP (hts (.fieldLink RX3 161 "TraceTrees$Effect" "kind" "I") (List.mem_of_getElem? (i := 21) rfl)) dX3_doStep_84 ?_
      refine lv_aload_n hx hb dX3_doStep_87 rfl (lv_at hl 1 rfl) ?_
      refine gf_X3_3 hX3 hx hb hts iw_X3_doStep_X3 hown hK hP (hts (.fieldLink RX3 28 "TraceTrees$Machine" "effect" "LTraceTrees$Effect;") (List.mem_of_getElem? (i := 7) rfl)) dX3_doStep_88 ?_
      refine gf_X0_5 hX3 hx hb hts iw_X3_doStep_X0 hown hK hP (hts (.fieldLink RX3 164 "TraceTrees$Effect" "bits" "I") (List.mem_of_getElem? (i := 22) rfl)) dX3_doStep_91 ?_
      obtain ⟨σ12, hc12, h⟩ := obd_inv h
      refine wcallv (S := Unit) (va_runV (As := [.int r10, .int (σb57 (kX3 + 4) 4), .int (σb57 (kX3 + 4) 5)]) (rest := []) ⟨hx, hb, hml, hown, hts⟩ (c_X5_put l dC dI cI cT cS H.size ad (kX3 + 1) (isRg_M hX3) r10 (σb57 (kX3 + 4) 4) (σb57 (kX3 + 4) 5) σb57 _ hc12) (cwV 3 hts (gWV (List.mem_of_getElem? (i := 23) rfl) (List.mem_of_getElem? (i := 24) rfl) (List.mem_of_getElem? (i := 25) rfl) (List.mem_of_getElem? (i := 26) rfl) ic_X3_doStep_c_X5_put gd_c_X5_put) rfl rfl rfl (by decide +kernel) ⟨(Nat.le_of_ble_eq_true rfl), (Nat.le_of_ble_eq_true rfl)⟩) (wpV (q := (RX5, TX5, 2)) hP hK hD (oX5 (isRg_M hX3)) rfl) rfl rfl hl.1 rfl (lv_room (Nat.le_of_ble_eq_true rfl)) dX3_doStep_94 ⟨(Nat.le_of_ble_eq_true rfl), (Nat.le_of_ble_eq_true rfl)⟩) hP hD hS hA (fun _ H locs hr13 hP hD hS => ?_)
      replace hP : va_P (dC, dI) vwCl (Wd 153 (cfC ad cI cT cS) σ12) H := hP
      replace hD : va_D A (Wd 153 (cfC ad cI cT cS) σ12) := hD
      exact J97 v1_57 σ12 H locs ls h hP hD hS (lv_sub (l' := [(1, .int v1_57), (0, .ref (ad kX3))]) hl [0, 1] rfl)
  have J32 : ∀ (v1_32 : Int32) (σb32 : Sg) (H : Heap) (locs : List Loc) (ls : Array Slot), zb_X3_doStep_32 kX3 v1_32 σb32 = some o → va_P (dC, dI) vwCl (Wd 153 (cfC ad cI cT cS) σb32) H → va_D A (Wd 153 (cfC ad cI cT cS) σb32) → va_S A s.heap H locs → lv_has ls 2 [(1, .int v1_32), (0, .ref (ad kX3))] → W p l e (headSpec vc_X3_doStep { frames := 4, cells := 0, slots := 0, locals := 88 }).room s m (List.toArray (α := Value) [.ref (ad kX3)]) below meth c H locs 0 0 (MQ below (va_Qv (fun (_ : Unit) => True) (gB (dC, dI) A (fun (_ : Unit) => (Wd 153 (cfC ad cI cT cS) o))) A) (List.toArray (α := Value) [.ref (ad kX3)]) s 0 0 A) (F0 m 32 ls []) := by
    intro v1_32 σb32 H locs ls h hP hD hS hl
    unfold zb_X3_doStep_32 at h
    refine lv_aload_n hx hb dX3_doStep_32 rfl (lv_at hl 1 rfl) ?_
    refine gf_X3_2 hX3 hx hb hts iw_X3_doStep_X3 hown hK hP (hts (.fieldLink RX3 21 "TraceTrees$Machine" "forest" "LTraceTrees$Forest;") (List.mem_of_getElem? (i := 5) rfl)) dX3_doStep_33 ?_
    refine gf_X2_6 hX3 hx hb hts iw_X3_doStep_X2 hown hK hP (hts (.fieldLink RX3 92 "TraceTrees$Forest" "recording" "LTraceTrees$Trace;") (List.mem_of_getElem? (i := 6) rfl)) dX3_doStep_36 ?_
    refine w_ifnull (ad := ad) (tgt := 57) hx hb dX3_doStep_39 (by decide) (fun c3 => ?_) (fun c3 => ?_)
    · replace h := ifp c3 h
      exact J57 v1_32 σb32 H locs ls h hP hD hS (lv_sub (l' := [(1, .int v1_32), (0, .ref (ad kX3))]) hl [0, 1] rfl)
    · replace h := ifn c3 h
      refine lv_aload_n hx hb dX3_doStep_42 rfl (lv_at hl 1 rfl) ?_
      refine gf_X3_2 hX3 hx hb hts iw_X3_doStep_X3 hown hK hP (hts (.fieldLink RX3 21 "TraceTrees$Machine" "forest" "LTraceTrees$Forest;") (List.mem_of_getElem? (i := 5) rfl)) dX3_doStep_43 ?_
      refine gf_X2_6 hX3 hx hb hts iw_X3_doStep_X2 hown hK hP (hts (.fieldLink RX3 92 "TraceTrees$Forest" "recording" "LTraceTrees$Trace;") (List.mem_of_getElem? (i := 6) rfl)) dX3_doStep_46 ?_
      refine lv_iload_n hx hb dX3_doStep_49 rfl (lv_at hl 0 rfl) ?_
      refine lv_aload_n hx hb dX3_doStep_50 rfl (lv_at hl 1 rfl) ?_
      refine gf_X3_3 hX3 hx hb hts iw_X3_doStep_X3 hown hK hP (hts (.fieldLink RX3 28 "TraceTrees$Machine" "effect" "LTraceTrees$Effect;") (List.mem_of_getElem? (i := 7) rfl)) dX3_doStep_51 ?_
      obtain ⟨ht4, h⟩ := tk_inv h
      refine W.eq (g2 := F0 m 54 ls [.ref (ad (kX3 + 4)), .int v1_32, .ref (ad ((σb32 (kX3 + 5) 6).toNatClampNeg))]) (by rw [rv_tr ad ht4]) ?_
      obtain ⟨σ5, hc5, h⟩ := obd_inv h
      refine wcallv (S := Unit) (va_runV (As := [.int v1_32, .ref (ad (kX3 + 4))]) (rest := []) ⟨hx, hb, hml, hown, hts⟩ (c_X8_append l dC dI cI cT cS H.size ad ((σb32 (kX3 + 5) 6).toNatClampNeg) ht4.1 kX3 hX3 v1_32 σb32 _ hc5) (cwV 2 hts (gWV (List.mem_of_getElem? (i := 8) rfl) (List.mem_of_getElem? (i := 9) rfl) (List.mem_of_getElem? (i := 10) rfl) (List.mem_of_getElem? (i := 11) rfl) ic_X3_doStep_c_X8_append gd_c_X8_append) rfl rfl rfl (by decide +kernel) ⟨(Nat.le_of_ble_eq_true rfl), (Nat.le_of_ble_eq_true rfl)⟩) (wpV (q := (RX8, TX8, 12)) hP hK hD (oX8 ht4.1) rfl) rfl rfl hl.1 rfl (lv_room (Nat.le_of_ble_eq_true rfl)) dX3_doStep_54 ⟨(Nat.le_of_ble_eq_true rfl), (Nat.le_of_ble_eq_true rfl)⟩) hP hD hS hA (fun _ H locs hr6 hP hD hS => ?_)
      replace hP : va_P (dC, dI) vwCl (Wd 153 (cfC ad cI cT cS) σ5) H := hP
      replace hD : va_D A (Wd 153 (cfC ad cI cT cS) σ5) := hD
      exact J57 v1_32 σ5 H locs ls h hP hD hS (lv_sub (l' := [(1, .int v1_32), (0, .ref (ad kX3))]) hl [0, 1] rfl)
  refine lv_aload_n hx hb dX3_doStep_0 rfl (lv_at hl 0 rfl) ?_
  refine gf_X3_5 hX3 hx hb hts iw_X3_doStep_X3 hown hK hP (hts (.fieldLink RX3 67 "TraceTrees$Machine" "point" "I") (List.mem_of_getElem? (i := 1) rfl)) dX3_doStep_1 ?_
  obtain ⟨e1, he1, h⟩ := letb_inv h
  refine lv_nm he1 ?_
  refine lv_istore_n (lv' := [(1, .int e1), (0, .ref (ad kX3))]) hx hb dX3_doStep_4 rfl hl (by decide) rfl (fun ls hl => ?_)
  refine lv_aload_n hx hb dX3_doStep_5 rfl (lv_at hl 1 rfl) ?_
  refine lv_dup hx hb dX3_doStep_6 rfl ?_
  refine gf_X3_7 hX3 hx hb hts iw_X3_doStep_X3 hown hK hP (hts (.fieldLink RX3 47 "TraceTrees$Machine" "steps" "I") (List.mem_of_getElem? (i := 2) rfl)) dX3_doStep_7 ?_
  refine lv_iconst (v := 1) hx hb dX3_doStep_10 (by decide) ?_
  refine lv_iadd hx hb dX3_doStep_11 ?_
  refine pf_X3_7 hX3 hx hb hts iw_X3_doStep_X3 hown hK hP hD hS (hts (.fieldLink RX3 47 "TraceTrees$Machine" "steps" "I") (List.mem_of_getElem? (i := 2) rfl)) dX3_doStep_12 (fun H locs hP hD hS => ?_)
  refine lv_aload_n hx hb dX3_doStep_15 rfl (lv_at hl 1 rfl) ?_
  refine gf_X3_10 hX3 hx hb hts iw_X3_doStep_X3 hown hK hP (hts (.fieldLink RX3 56 "TraceTrees$Machine" "current" "LTraceTrees$Trace;") (List.mem_of_getElem? (i := 3) rfl)) dX3_doStep_16 ?_
  refine lv_nmr (y := rv ad (σ kX3 10)) (congrArg (rv ad) (su_rf (by omega) (by decide) rfl)) ?_
  refine w_ifnull (ad := ad) (tgt := 32) hx hb dX3_doStep_19 (by decide) (fun c2 => ?_) (fun c2 => ?_)
  · replace h := ifp c2 h
    exact J32 e1 (su σ kX3 7 ((σ kX3 7) + (1 : Int32))) H locs ls h hP hD hS (lv_sub (l' := [(1, .int e1), (0, .ref (ad kX3))]) hl [0, 1] rfl)
  · replace h := ifn c2 h
    refine lv_aload_n hx hb dX3_doStep_22 rfl (lv_at hl 1 rfl) ?_
    refine lv_dup hx hb dX3_doStep_23 rfl ?_
    refine gf_X3_8 hX3 hx hb hts iw_X3_doStep_X3 hown hK hP (hts (.fieldLink RX3 50 "TraceTrees$Machine" "compiled" "I") (List.mem_of_getElem? (i := 4) rfl)) dX3_doStep_24 ?_
    refine lv_nm (y := (σ kX3 8)) (su_rf (by omega) (by decide) rfl) ?_
    refine lv_iconst (v := 1) hx hb dX3_doStep_27 (by decide) ?_
    refine lv_iadd hx hb dX3_doStep_28 ?_
    refine pf_X3_8 hX3 hx hb hts iw_X3_doStep_X3 hown hK hP hD hS (hts (.fieldLink RX3 50 "TraceTrees$Machine" "compiled" "I") (List.mem_of_getElem? (i := 4) rfl)) dX3_doStep_29 (fun H locs hP hD hS => ?_)
    exact J32 e1 (su (su σ kX3 7 ((σ kX3 7) + (1 : Int32))) kX3 8 ((σ kX3 8) + (1 : Int32))) H locs ls h hP hD hS (lv_sub (l' := [(1, .int e1), (0, .ref (ad kX3))]) hl [0, 1] rfl)
def zb_X3_judgeRecording_72 (σb72 : Sg) : Option (Sg) := some σb72
def zb_X3_judgeRecording_65 (kX3 : Nat) (σ : Sg) : Option (Sg) := obd (zf_X2_drop kX3 σ) (fun σ11 => (zb_X3_judgeRecording_72 σ11))
def zf_X3_judgeRecording (kX3 : Nat) (σ : Sg) : Option (Sg) := letb (σ (kX3 + 5) 6) (fun e1 => (if e1 = -1 then some σ else tk e1 ((if (σ kX3 5) = (σ e1.toNatClampNeg 7) then (if (σ e1.toNatClampNeg 10) ≤ 0 then (zb_X3_judgeRecording_72 σ) else obd (zf_X2_keep kX3 σ) (fun σ9 => (zb_X3_judgeRecording_72 σ9))) else (if (16 : Int32) ≤ (σ e1.toNatClampNeg 10) then (zb_X3_judgeRecording_65 kX3 σ) else bd (σ kX3 5) 24 ((if (σ (kX3 + 9) (σ kX3 5).toNatClampNeg) = -1 then (zb_X3_judgeRecording_72 σ) else (zb_X3_judgeRecording_65 kX3 σ))))))))
def oc_X3_judgeRecording : List Cond := [.fieldLink RX3 21 "TraceTrees$Machine" "forest" "LTraceTrees$Forest;", .fieldLink RX3 92 "TraceTrees$Forest" "recording" "LTraceTrees$Trace;", .fieldLink RX3 67 "TraceTrees$Machine" "point" "I", .fieldLink RX3 115 "TraceTrees$Trace" "head" "I", .fieldLink RX3 118 "TraceTrees$Trace" "size" "I", .fieldLink RX3 95 "TraceTrees$Forest" "root" "[LTraceTrees$Trace;", .methodLink RX3 121 yX2_keep, .instanceMethod yX2_keep, .selects RX2 yX2_keep yX2_keep, .initialized RX2, .methodLink RX3 80 yX2_drop, .instanceMethod yX2_drop, .selects RX2 yX2_drop yX2_drop]
def vc_X3_judgeRecording : List Cond := .code yX3_judgeRecording cX3_judgeRecording 2 none :: (oc_X3_judgeRecording ++ (wsX30 ++ (wsX20 ++ (wsX80 ++ (vc_X2_keep ++ (vc_X2_drop))))))
theorem iw_X3_judgeRecording_X3 : ∀ w ∈ wsX30, w ∈ vc_X3_judgeRecording := fun _ h => List.mem_cons_of_mem _ (List.mem_append_right _ (List.mem_append_left _ h))
theorem iw_X3_judgeRecording_X2 : ∀ w ∈ wsX20, w ∈ vc_X3_judgeRecording := fun _ h => List.mem_cons_of_mem _ (List.mem_append_right _ (List.mem_append_right _ (List.mem_append_left _ h)))
theorem iw_X3_judgeRecording_X8 : ∀ w ∈ wsX80, w ∈ vc_X3_judgeRecording := fun _ h => List.mem_cons_of_mem _ (List.mem_append_right _ (List.mem_append_right _ (List.mem_append_right _ (List.mem_append_left _ h))))
theorem ic_X3_judgeRecording_c_X2_keep : ∀ w ∈ vc_X2_keep, w ∈ vc_X3_judgeRecording := fun _ h => List.mem_cons_of_mem _ (List.mem_append_right _ (List.mem_append_right _ (List.mem_append_right _ (List.mem_append_right _ (List.mem_append_left _ h)))))
theorem ic_X3_judgeRecording_c_X2_drop : ∀ w ∈ vc_X2_drop, w ∈ vc_X3_judgeRecording := fun _ h => List.mem_cons_of_mem _ (List.mem_append_right _ (List.mem_append_right _ (List.mem_append_right _ (List.mem_append_right _ (List.mem_append_right _ (h))))))
theorem gd_c_X3_judgeRecording : (vc_X3_judgeRecording).all goodWord = true := gall_cons rfl (gall_app (by decide +kernel) (gall_app gw_X3 (gall_app gw_X2 (gall_app gw_X8 (gall_app gd_c_X2_keep gd_c_X2_drop)))))
set_option maxHeartbeats 4000000 in
set_option maxRecDepth 100000 in
theorem c_X3_judgeRecording (l : Launch) (dC : Nat → ClassId) (dI : Nat → Nat → Nat) (cI cT cS : ClassId) (sz : Nat) (ad : Nat → Nat) (kX3 : Nat) (hX3 : isM kX3) (σ : Sg) (o : Sg) (h : zf_X3_judgeRecording kX3 σ = some o) : gCV (S := Unit) l yX3_judgeRecording vc_X3_judgeRecording { frames := 1, cells := 0, slots := 0, locals := 20 } (dC, dI) (gTY cI cT cS) sz [.ref (ad kX3)] (Wd 153 (cfC ad cI cT cS) σ) (fun (_ : Unit) => True) (fun (_ : Unit) => (Wd 153 (cfC ad cI cT cS) o)) 0 0 := by
  refine Met.ofW (cc := cX3_judgeRecording) (maxL := 2) (ret := none) (by decide) rfl ?_
  intro p e s m args below meth c s₁ B hml hv
  obtain ⟨rfl, hsz, hP, hK, hD0⟩ := hv
  have hx := B.exec
  have hb := B.bytes
  have hr := B.returns
  have hts := atoms_spec (ws := vc_X3_judgeRecording) B.pre
  have hown : s.vm.findClass RX3 = some m.cls := findClass_of_methodNamed B.named
  have hlocks := B.notSynchronized
  subst hsz
  have hD := hD0.self (sz := s.heap.size)
  generalize hAe : va_A (Wd 153 (cfC ad cI cT cS) σ) s.heap.size = A at hD ⊢
  have hA : ∀ q : Nat, s.heap.size ≤ q → A q := fun q h => by rw [← hAe]; exact Or.inr h
  clear hAe hD0
  refine gstart (fun H locs hHe hLe => ?_)
  have hS : va_S A s.heap H locs := by rw [← hHe, ← hLe]; exact va_S.rf
  replace hP : va_P (dC, dI) vwCl (Wd 153 (cfC ad cI cT cS) σ) H := by rw [← hHe]; exact hP
  clear hHe hLe
  have hl := lv_entry ([.ref (ad kX3)]) (n := 2) (Nat.le_of_ble_eq_true rfl)
  rw [lg_entry_eq]
  generalize (lg_sl ([.ref (ad kX3)]) ++ List.replicate (2 - (lg_sl ([.ref (ad kX3)])).length) Slot.unset).toArray = ls at hl ⊢
  replace hl : lv_has ls 2 [(0, .ref (ad kX3))] := hl
  unfold zf_X3_judgeRecording at h
  have J72 : ∀ (σb72 : Sg) (H : Heap) (locs : List Loc) (ls : Array Slot), zb_X3_judgeRecording_72 σb72 = some o → va_P (dC, dI) vwCl (Wd 153 (cfC ad cI cT cS) σb72) H → va_D A (Wd 153 (cfC ad cI cT cS) σb72) → va_S A s.heap H locs → lv_has ls 2 [] → W p l e (headSpec vc_X3_judgeRecording { frames := 1, cells := 0, slots := 0, locals := 20 }).room s m (List.toArray (α := Value) [.ref (ad kX3)]) below meth c H locs 0 0 (MQ below (va_Qv (fun (_ : Unit) => True) (gB (dC, dI) A (fun (_ : Unit) => (Wd 153 (cfC ad cI cT cS) o))) A) (List.toArray (α := Value) [.ref (ad kX3)]) s 0 0 A) (F0 m 72 ls []) := by
    intro σb72 H locs ls h hP hD hS hl
    unfold zb_X3_judgeRecording_72 at h
    have h9 := Option.some.inj h
    exact wretv hx hb hr hlocks hP hD hS trivial (by rw [← h9]) dX3_judgeRecording_72
  have J65 : ∀  (H : Heap) (locs : List Loc) (ls : Array Slot), zb_X3_judgeRecording_65 kX3 σ = some o → va_P (dC, dI) vwCl (Wd 153 (cfC ad cI cT cS) σ) H → va_D A (Wd 153 (cfC ad cI cT cS) σ) → va_S A s.heap H locs → lv_has ls 2 [(0, .ref (ad kX3))] → W p l e (headSpec vc_X3_judgeRecording { frames := 1, cells := 0, slots := 0, locals := 20 }).room s m (List.toArray (α := Value) [.ref (ad kX3)]) below meth c H locs 0 0 (MQ below (va_Qv (fun (_ : Unit) => True) (gB (dC, dI) A (fun (_ : Unit) => (Wd 153 (cfC ad cI cT cS) o))) A) (List.toArray (α := Value) [.ref (ad kX3)]) s 0 0 A) (F0 m 65 ls []) := by
    intro  H locs ls h hP hD hS hl
    unfold zb_X3_judgeRecording_65 at h
    refine lv_aload_n hx hb dX3_judgeRecording_65 rfl (lv_at hl 0 rfl) ?_
    refine gf_X3_2 hX3 hx hb hts iw_X3_judgeRecording_X3 hown hK hP (hts (.fieldLink RX3 21 "TraceTrees$Machine" "forest" "LTraceTrees$Forest;") (List.mem_of_getElem? (i := 1) rfl)) dX3_judgeRecording_66 ?_
    obtain ⟨σ11, hc11, h⟩ := obd_inv h
    refine wcallv (S := Unit) (va_runV (As := []) (rest := []) ⟨hx, hb, hml, hown, hts⟩ (c_X2_drop l dC dI cI cT cS H.size ad kX3 hX3  σ _ hc11) (cwV 0 hts (gWV (List.mem_of_getElem? (i := 11) rfl) (List.mem_of_getElem? (i := 12) rfl) (List.mem_of_getElem? (i := 13) rfl) (List.mem_of_getElem? (i := 10) rfl) ic_X3_judgeRecording_c_X2_drop gd_c_X2_drop) rfl rfl rfl (by decide +kernel) ⟨(Nat.le_of_ble_eq_true rfl), (Nat.le_of_ble_eq_true rfl)⟩) (wpV (q := (RX2, TX2, 7)) hP hK hD (oX2 hX3) rfl) rfl rfl hl.1 rfl (lv_room (Nat.le_of_ble_eq_true rfl)) dX3_judgeRecording_69 ⟨(Nat.le_of_ble_eq_true rfl), (Nat.le_of_ble_eq_true rfl)⟩) hP hD hS hA (fun _ H locs hr12 hP hD hS => ?_)
    replace hP : va_P (dC, dI) vwCl (Wd 153 (cfC ad cI cT cS) σ11) H := hP
    replace hD : va_D A (Wd 153 (cfC ad cI cT cS) σ11) := hD
    exact J72 σ11 H locs ls h hP hD hS (lv_sub (l' := []) hl [] rfl)
  refine lv_aload_n hx hb dX3_judgeRecording_0 rfl (lv_at hl 0 rfl) ?_
  refine gf_X3_2 hX3 hx hb hts iw_X3_judgeRecording_X3 hown hK hP (hts (.fieldLink RX3 21 "TraceTrees$Machine" "forest" "LTraceTrees$Forest;") (List.mem_of_getElem? (i := 1) rfl)) dX3_judgeRecording_1 ?_
  refine gf_X2_6 hX3 hx hb hts iw_X3_judgeRecording_X2 hown hK hP (hts (.fieldLink RX3 92 "TraceTrees$Forest" "recording" "LTraceTrees$Trace;") (List.mem_of_getElem? (i := 2) rfl)) dX3_judgeRecording_4 ?_
  obtain ⟨e1, he1, h⟩ := letb_inv h
  refine lv_nmr (congrArg (rv ad) he1) ?_
  refine lw_astore_n (lv' := [(1, rv ad e1), (0, .ref (ad kX3))]) hx hb dX3_judgeRecording_7 rfl hl (by decide) rfl (fun ls hl => ?_)
  refine lw_aload_n hx hb dX3_judgeRecording_8 rfl (lv_at hl 0 rfl) ?_
  refine w_ifnonnull (ad := ad) (tgt := 13) hx hb dX3_judgeRecording_9 (by decide) (fun c2 => ?_) (fun c2 => ?_)
  · replace h := ifn c2 h
    refine lv_aload_n hx hb dX3_judgeRecording_13 rfl (lv_at hl 1 rfl) ?_
    refine gf_X3_5 hX3 hx hb hts iw_X3_judgeRecording_X3 hown hK hP (hts (.fieldLink RX3 67 "TraceTrees$Machine" "point" "I") (List.mem_of_getElem? (i := 3) rfl)) dX3_judgeRecording_14 ?_
    refine lw_aload_n hx hb dX3_judgeRecording_17 rfl (lv_at hl 0 rfl) ?_
    obtain ⟨ht3, h⟩ := tk_inv h
    refine W.eq (g2 := F0 m 18 ls [.ref (ad e1.toNatClampNeg), .int (σ kX3 5)]) (by rw [rv_tr ad ht3]) ?_
    refine gf_X8_7 ht3.1 hx hb hts iw_X3_judgeRecording_X8 hown hK hP (hts (.fieldLink RX3 115 "TraceTrees$Trace" "head" "I") (List.mem_of_getElem? (i := 4) rfl)) dX3_judgeRecording_18 ?_
    refine lv_icmp_ne (tgt := 41) hx hb dX3_judgeRecording_21 (by decide) (fun c4 => ?_) (fun c4 => ?_)
    · replace h := ifn (c4) h
      refine lw_aload_n hx hb dX3_judgeRecording_41 rfl (lv_at hl 0 rfl) ?_
      refine lv_nmr (rv_tr ad ht3) ?_
      refine gf_X8_10 ht3.1 hx hb hts iw_X3_judgeRecording_X8 hown hK hP (hts (.fieldLink RX3 118 "TraceTrees$Trace" "size" "I") (List.mem_of_getElem? (i := 5) rfl)) dX3_judgeRecording_42 ?_
      refine lv_bipush (v := 16) hx hb dX3_judgeRecording_45 (by decide) ?_
      refine lv_icmp_ge (tgt := 65) hx hb dX3_judgeRecording_47 (by decide) (fun c5 => ?_) (fun c5 => ?_)
      · replace h := ifp (c5) h
        exact J65  H locs ls h hP hD hS (lv_sub (l' := [(0, .ref (ad kX3))]) hl [1] rfl)
      · replace h := ifn (c5) h
        refine lv_aload_n hx hb dX3_judgeRecording_50 rfl (lv_at hl 1 rfl) ?_
        refine gf_X3_2 hX3 hx hb hts iw_X3_judgeRecording_X3 hown hK hP (hts (.fieldLink RX3 21 "TraceTrees$Machine" "forest" "LTraceTrees$Forest;") (List.mem_of_getElem? (i := 1) rfl)) dX3_judgeRecording_51 ?_
        refine gf_X2_3 hX3 hx hb hts iw_X3_judgeRecording_X2 hown hK hP (hts (.fieldLink RX3 95 "TraceTrees$Forest" "root" "[LTraceTrees$Trace;") (List.mem_of_getElem? (i := 6) rfl)) dX3_judgeRecording_54 ?_
        refine lv_aload_n hx hb dX3_judgeRecording_57 rfl (lv_at hl 1 rfl) ?_
        refine gf_X3_5 hX3 hx hb hts iw_X3_judgeRecording_X3 hown hK hP (hts (.fieldLink RX3 67 "TraceTrees$Machine" "point" "I") (List.mem_of_getElem? (i := 3) rfl)) dX3_judgeRecording_58 ?_
        obtain ⟨hi6, h⟩ := bd_inv h
        refine waldR hx hb hK hP hX3 hi6 dX3_judgeRecording_61 ?_
        refine w_ifnull (ad := ad) (tgt := 72) hx hb dX3_judgeRecording_62 (by decide) (fun c7 => ?_) (fun c7 => ?_)
        · replace h := ifp c7 h
          exact J72 σ H locs ls h hP hD hS (lv_sub (l' := []) hl [] rfl)
        · replace h := ifn c7 h
          exact J65  H locs ls h hP hD hS (lv_sub (l' := [(0, .ref (ad kX3))]) hl [1] rfl)
    · replace h := ifp (c4) h
      refine lw_aload_n hx hb dX3_judgeRecording_24 rfl (lv_at hl 0 rfl) ?_
      refine lv_nmr (rv_tr ad ht3) ?_
      refine gf_X8_10 ht3.1 hx hb hts iw_X3_judgeRecording_X8 hown hK hP (hts (.fieldLink RX3 118 "TraceTrees$Trace" "size" "I") (List.mem_of_getElem? (i := 5) rfl)) dX3_judgeRecording_25 ?_
      refine lv_if_le (tgt := 72) hx hb dX3_judgeRecording_28 (by decide) (fun c8 => ?_) (fun c8 => ?_)
      · replace h := ifp (c8) h
        exact J72 σ H locs ls h hP hD hS (lv_sub (l' := []) hl [] rfl)
      · replace h := ifn (c8) h
        refine lv_aload_n hx hb dX3_judgeRecording_31 rfl (lv_at hl 1 rfl) ?_
        refine gf_X3_2 hX3 hx hb hts iw_X3_judgeRecording_X3 hown hK hP (hts (.fieldLink RX3 21 "TraceTrees$Machine" "forest" "LTraceTrees$Forest;") (List.mem_of_getElem? (i := 1) rfl)) dX3_judgeRecording_32 ?_
        obtain ⟨σ9, hc9, h⟩ := obd_inv h
        refine wcallv (S := Unit) (va_runV (As := []) (rest := []) ⟨hx, hb, hml, hown, hts⟩ (c_X2_keep l dC dI cI cT cS H.size ad kX3 hX3  σ _ hc9) (cwV 0 hts (gWV (List.mem_of_getElem? (i := 7) rfl) (List.mem_of_getElem? (i := 8) rfl) (List.mem_of_getElem? (i := 9) rfl) (List.mem_of_getElem? (i := 10) rfl) ic_X3_judgeRecording_c_X2_keep gd_c_X2_keep) rfl rfl rfl (by decide +kernel) ⟨(Nat.le_of_ble_eq_true rfl), (Nat.le_of_ble_eq_true rfl)⟩) (wpV (q := (RX2, TX2, 7)) hP hK hD (oX2 hX3) rfl) rfl rfl hl.1 rfl (lv_room (Nat.le_of_ble_eq_true rfl)) dX3_judgeRecording_35 ⟨(Nat.le_of_ble_eq_true rfl), (Nat.le_of_ble_eq_true rfl)⟩) hP hD hS hA (fun _ H locs hr10 hP hD hS => ?_)
        replace hP : va_P (dC, dI) vwCl (Wd 153 (cfC ad cI cT cS) σ9) H := hP
        replace hD : va_D A (Wd 153 (cfC ad cI cT cS) σ9) := hD
        refine lv_goto (tgt := 72) hx hb dX3_judgeRecording_38 (by decide) ?_
        exact J72 σ9 H locs ls h hP hD hS (lv_sub (l' := []) hl [] rfl)
  · replace h := ifp c2 h
    have h9 := Option.some.inj h
    exact wretv hx hb hr hlocks hP hD hS trivial (by rw [← h9]) dX3_judgeRecording_12
def zb_X3_leave_145 (σb145 : Sg) : Option (Sg) := some σb145
def zf_X3_leave (kX3 : Nat) (σ : Sg) : Option (Sg) := letb (σ kX3 10) (fun e1 => letb (σ kX3 11) (fun e2 => tk e1 (bd e2 16 ((if (zf_X2_has kX3 (σ (e1.toNatClampNeg + 6) e2.toNatClampNeg) (su (su (su σ kX3 9 ((σ kX3 9) + (1 : Int32))) (e1.toNatClampNeg + 5) e2.toNatClampNeg ((σ (e1.toNatClampNeg + 5) e2.toNatClampNeg) + (1 : Int32))) kX3 10 (-1))) = true then bd (σ (e1.toNatClampNeg + 6) e2.toNatClampNeg) 8 (obd (zf_X3_begin kX3 (nI (kX3 + 10 + 7 * (σ (e1.toNatClampNeg + 6) e2.toNatClampNeg).toNatClampNeg)) (su (su (su σ kX3 9 ((σ kX3 9) + (1 : Int32))) (e1.toNatClampNeg + 5) e2.toNatClampNeg ((σ (e1.toNatClampNeg + 5) e2.toNatClampNeg) + (1 : Int32))) kX3 10 (-1))) (fun σ20 => (zb_X3_leave_145 σ20))) else (if ((σ (e1.toNatClampNeg + 5) e2.toNatClampNeg) + (1 : Int32)) = (σ kX3 4) then obd (zf_X2_mayRecord kX3 (σ e1.toNatClampNeg 7) (su (su (su σ kX3 9 ((σ kX3 9) + (1 : Int32))) (e1.toNatClampNeg + 5) e2.toNatClampNeg ((σ (e1.toNatClampNeg + 5) e2.toNatClampNeg) + (1 : Int32))) kX3 10 (-1))) (fun r8 => (if r8 = true then obd (zf_X2_startRecording kX3 (σ e1.toNatClampNeg 7) (σ e1.toNatClampNeg 0) e2 (su (su (su σ kX3 9 ((σ kX3 9) + (1 : Int32))) (e1.toNatClampNeg + 5) e2.toNatClampNeg ((σ (e1.toNatClampNeg + 5) e2.toNatClampNeg) + (1 : Int32))) kX3 10 (-1))) (fun σ11 => obd (zf_X3_judgeRecording kX3 σ11) (fun σ13 => (if (σ13 (kX3 + 5) 6) = -1 then bd (σ13 kX3 5) 24 (obd (zf_X3_begin kX3 (σ13 (kX3 + 9) (σ13 kX3 5).toNatClampNeg) σ13) (fun σ17 => (zb_X3_leave_145 σ17))) else (zb_X3_leave_145 σ13)))) else (zb_X3_leave_145 (su (su (su σ kX3 9 ((σ kX3 9) + (1 : Int32))) (e1.toNatClampNeg + 5) e2.toNatClampNeg ((σ (e1.toNatClampNeg + 5) e2.toNatClampNeg) + (1 : Int32))) kX3 10 (-1))))) else (zb_X3_leave_145 (su (su (su σ kX3 9 ((σ kX3 9) + (1 : Int32))) (e1.toNatClampNeg + 5) e2.toNatClampNeg ((σ (e1.toNatClampNeg + 5) e2.toNatClampNeg) + (1 : Int32))) kX3 10 (-1)))))))))
def oc_X3_leave : List Cond := [.fieldLink RX3 56 "TraceTrees$Machine" "current" "LTraceTrees$Trace;", .fieldLink RX3 103 "TraceTrees$Machine" "at" "I", .fieldLink RX3 53 "TraceTrees$Machine" "exits" "I", .fieldLink RX3 127 "TraceTrees$Trace" "hits" "[I", .fieldLink RX3 21 "TraceTrees$Machine" "forest" "LTraceTrees$Forest;", .fieldLink RX3 131 "TraceTrees$Trace" "branch" "[I", .methodLink RX3 134 yX2_has, .instanceMethod yX2_has, .selects RX2 yX2_has yX2_has, .initialized RX2, .fieldLink RX3 43 "TraceTrees$Machine" "hot" "I", .fieldLink RX3 115 "TraceTrees$Trace" "head" "I", .methodLink RX3 140 yX2_mayRecord, .instanceMethod yX2_mayRecord, .selects RX2 yX2_mayRecord yX2_mayRecord, .fieldLink RX3 143 "TraceTrees$Trace" "number" "I", .methodLink RX3 146 yX2_startRecording, .instanceMethod yX2_startRecording, .selects RX2 yX2_startRecording yX2_startRecording, .methodLink RX3 89 yX3_judgeRecording, .instanceMethod yX3_judgeRecording, .selects RX3 yX3_judgeRecording yX3_judgeRecording, .initialized RX3, .fieldLink RX3 92 "TraceTrees$Forest" "recording" "LTraceTrees$Trace;", .fieldLink RX3 95 "TraceTrees$Forest" "root" "[LTraceTrees$Trace;", .fieldLink RX3 67 "TraceTrees$Machine" "point" "I", .methodLink RX3 99 yX3_begin, .instanceMethod yX3_begin, .selects RX3 yX3_begin yX3_begin, .fieldLink RX3 137 "TraceTrees$Forest" "traces" "[LTraceTrees$Trace;"]
def vc_X3_leave : List Cond := .code yX3_leave cX3_leave 3 none :: (oc_X3_leave ++ (wsX30 ++ (wsX80 ++ (wsX20 ++ (vc_X2_has ++ (vc_X2_mayRecord ++ (vc_X2_startRecording ++ (vc_X3_judgeRecording ++ (vc_X3_begin)))))))))
theorem iw_X3_leave_X3 : ∀ w ∈ wsX30, w ∈ vc_X3_leave := fun _ h => List.mem_cons_of_mem _ (List.mem_append_right _ (List.mem_append_left _ h))
theorem iw_X3_leave_X8 : ∀ w ∈ wsX80, w ∈ vc_X3_leave := fun _ h => List.mem_cons_of_mem _ (List.mem_append_right _ (List.mem_append_right _ (List.mem_append_left _ h)))
theorem iw_X3_leave_X2 : ∀ w ∈ wsX20, w ∈ vc_X3_leave := fun _ h => List.mem_cons_of_mem _ (List.mem_append_right _ (List.mem_append_right _ (List.mem_append_right _ (List.mem_append_left _ h))))
theorem ic_X3_leave_c_X2_has : ∀ w ∈ vc_X2_has, w ∈ vc_X3_leave := fun _ h => List.mem_cons_of_mem _ (List.mem_append_right _ (List.mem_append_right _ (List.mem_append_right _ (List.mem_append_right _ (List.mem_append_left _ h)))))
theorem ic_X3_leave_c_X2_mayRecord : ∀ w ∈ vc_X2_mayRecord, w ∈ vc_X3_leave := fun _ h => List.mem_cons_of_mem _ (List.mem_append_right _ (List.mem_append_right _ (List.mem_append_right _ (List.mem_append_right _ (List.mem_append_right _ (List.mem_append_left _ h))))))
theorem ic_X3_leave_c_X2_startRecording : ∀ w ∈ vc_X2_startRecording, w ∈ vc_X3_leave := fun _ h => List.mem_cons_of_mem _ (List.mem_append_right _ (List.mem_append_right _ (List.mem_append_right _ (List.mem_append_right _ (List.mem_append_right _ (List.mem_append_right _ (List.mem_append_left _ h)))))))
theorem ic_X3_leave_c_X3_judgeRecording : ∀ w ∈ vc_X3_judgeRecording, w ∈ vc_X3_leave := fun _ h => List.mem_cons_of_mem _ (List.mem_append_right _ (List.mem_append_right _ (List.mem_append_right _ (List.mem_append_right _ (List.mem_append_right _ (List.mem_append_right _ (List.mem_append_right _ (List.mem_append_left _ h))))))))
theorem ic_X3_leave_c_X3_begin : ∀ w ∈ vc_X3_begin, w ∈ vc_X3_leave := fun _ h => List.mem_cons_of_mem _ (List.mem_append_right _ (List.mem_append_right _ (List.mem_append_right _ (List.mem_append_right _ (List.mem_append_right _ (List.mem_append_right _ (List.mem_append_right _ (List.mem_append_right _ (h)))))))))
theorem gd_c_X3_leave : (vc_X3_leave).all goodWord = true := gall_cons rfl (gall_app (by decide +kernel) (gall_app gw_X3 (gall_app gw_X8 (gall_app gw_X2 (gall_app gd_c_X2_has (gall_app gd_c_X2_mayRecord (gall_app gd_c_X2_startRecording (gall_app gd_c_X3_judgeRecording gd_c_X3_begin))))))))
set_option maxHeartbeats 4000000 in
set_option maxRecDepth 100000 in
theorem c_X3_leave (l : Launch) (dC : Nat → ClassId) (dI : Nat → Nat → Nat) (cI cT cS : ClassId) (sz : Nat) (ad : Nat → Nat) (kX3 : Nat) (hX3 : isM kX3) (σ : Sg) (o : Sg) (h : zf_X3_leave kX3 σ = some o) : gCV (S := Unit) l yX3_leave vc_X3_leave { frames := 2, cells := 0, slots := 0, locals := 46 } (dC, dI) (gTY cI cT cS) sz [.ref (ad kX3)] (Wd 153 (cfC ad cI cT cS) σ) (fun (_ : Unit) => True) (fun (_ : Unit) => (Wd 153 (cfC ad cI cT cS) o)) 0 0 := by
  refine Met.ofW (cc := cX3_leave) (maxL := 3) (ret := none) (by decide) rfl ?_
  intro p e s m args below meth c s₁ B hml hv
  obtain ⟨rfl, hsz, hP, hK, hD0⟩ := hv
  have hx := B.exec
  have hb := B.bytes
  have hr := B.returns
  have hts := atoms_spec (ws := vc_X3_leave) B.pre
  have hown : s.vm.findClass RX3 = some m.cls := findClass_of_methodNamed B.named
  have hlocks := B.notSynchronized
  subst hsz
  have hD := hD0.self (sz := s.heap.size)
  generalize hAe : va_A (Wd 153 (cfC ad cI cT cS) σ) s.heap.size = A at hD ⊢
  have hA : ∀ q : Nat, s.heap.size ≤ q → A q := fun q h => by rw [← hAe]; exact Or.inr h
  clear hAe hD0
  refine gstart (fun H locs hHe hLe => ?_)
  have hS : va_S A s.heap H locs := by rw [← hHe, ← hLe]; exact va_S.rf
  replace hP : va_P (dC, dI) vwCl (Wd 153 (cfC ad cI cT cS) σ) H := by rw [← hHe]; exact hP
  clear hHe hLe
  have hl := lv_entry ([.ref (ad kX3)]) (n := 3) (Nat.le_of_ble_eq_true rfl)
  rw [lg_entry_eq]
  generalize (lg_sl ([.ref (ad kX3)]) ++ List.replicate (3 - (lg_sl ([.ref (ad kX3)])).length) Slot.unset).toArray = ls at hl ⊢
  replace hl : lv_has ls 3 [(0, .ref (ad kX3))] := hl
  unfold zf_X3_leave at h
  have J145 : ∀ (σb145 : Sg) (H : Heap) (locs : List Loc) (ls : Array Slot), zb_X3_leave_145 σb145 = some o → va_P (dC, dI) vwCl (Wd 153 (cfC ad cI cT cS) σb145) H → va_D A (Wd 153 (cfC ad cI cT cS) σb145) → va_S A s.heap H locs → lv_has ls 3 [] → W p l e (headSpec vc_X3_leave { frames := 2, cells := 0, slots := 0, locals := 46 }).room s m (List.toArray (α := Value) [.ref (ad kX3)]) below meth c H locs 0 0 (MQ below (va_Qv (fun (_ : Unit) => True) (gB (dC, dI) A (fun (_ : Unit) => (Wd 153 (cfC ad cI cT cS) o))) A) (List.toArray (α := Value) [.ref (ad kX3)]) s 0 0 A) (F0 m 145 ls []) := by
    intro σb145 H locs ls h hP hD hS hl
    unfold zb_X3_leave_145 at h
    have h9 := Option.some.inj h
    exact wretv hx hb hr hlocks hP hD hS trivial (by rw [← h9]) dX3_leave_145
  refine lv_aload_n hx hb dX3_leave_0 rfl (lv_at hl 0 rfl) ?_
  refine gf_X3_10 hX3 hx hb hts iw_X3_leave_X3 hown hK hP (hts (.fieldLink RX3 56 "TraceTrees$Machine" "current" "LTraceTrees$Trace;") (List.mem_of_getElem? (i := 1) rfl)) dX3_leave_1 ?_
  obtain ⟨e1, he1, h⟩ := letb_inv h
  refine lv_nmr (congrArg (rv ad) he1) ?_
  refine lw_astore_n (lv' := [(1, rv ad e1), (0, .ref (ad kX3))]) hx hb dX3_leave_4 rfl hl (by decide) rfl (fun ls hl => ?_)
  refine lv_aload_n hx hb dX3_leave_5 rfl (lv_at hl 1 rfl) ?_
  refine gf_X3_11 hX3 hx hb hts iw_X3_leave_X3 hown hK hP (hts (.fieldLink RX3 103 "TraceTrees$Machine" "at" "I") (List.mem_of_getElem? (i := 2) rfl)) dX3_leave_6 ?_
  obtain ⟨e2, he2, h⟩ := letb_inv h
  refine lv_nm he2 ?_
  refine lv_istore_n (lv' := [(2, .int e2), (1, rv ad e1), (0, .ref (ad kX3))]) hx hb dX3_leave_9 rfl hl (by decide) (by simp [rv_cat]) (fun ls hl => ?_)
  refine lv_aload_n hx hb dX3_leave_10 rfl (lv_at hl 2 rfl) ?_
  refine lv_dup hx hb dX3_leave_11 rfl ?_
  refine gf_X3_9 hX3 hx hb hts iw_X3_leave_X3 hown hK hP (hts (.fieldLink RX3 53 "TraceTrees$Machine" "exits" "I") (List.mem_of_getElem? (i := 3) rfl)) dX3_leave_12 ?_
  refine lv_iconst (v := 1) hx hb dX3_leave_15 (by decide) ?_
  refine lv_iadd hx hb dX3_leave_16 ?_
  refine pf_X3_9 hX3 hx hb hts iw_X3_leave_X3 hown hK hP hD hS (hts (.fieldLink RX3 53 "TraceTrees$Machine" "exits" "I") (List.mem_of_getElem? (i := 3) rfl)) dX3_leave_17 (fun H locs hP hD hS => ?_)
  refine lw_aload_n hx hb dX3_leave_20 rfl (lv_at hl 1 rfl) ?_
  obtain ⟨ht3, h⟩ := tk_inv h
  refine W.eq (g2 := F0 m 21 ls [.ref (ad e1.toNatClampNeg)]) (by rw [rv_tr ad ht3]) ?_
  refine gf_X8_5 ht3.1 hx hb hts iw_X3_leave_X8 hown hK hP (hts (.fieldLink RX3 127 "TraceTrees$Trace" "hits" "[I") (List.mem_of_getElem? (i := 4) rfl)) dX3_leave_21 ?_
  refine lv_iload_n hx hb dX3_leave_24 rfl (lv_at hl 0 rfl) ?_
  refine lv_dup2_11 hx hb dX3_leave_25 rfl rfl ?_
  obtain ⟨hi4, h⟩ := bd_inv h
  refine wald hx hb hK hP (aT5 ht3.1) hi4 dX3_leave_26 ?_
  refine lv_nm (y := (σ (e1.toNatClampNeg + 5) e2.toNatClampNeg)) (su_rd (Ne.symm (ne_MT01 hX3 ht3.1 (by decide))) rfl) ?_
  refine lv_iconst (v := 1) hx hb dX3_leave_27 (by decide) ?_
  refine lv_iadd hx hb dX3_leave_28 ?_
  refine wast hx hb hK hP hD hS (aT5 ht3.1) hi4 dX3_leave_29 (fun H locs hP hD hS => ?_)
  refine lv_aload_n hx hb dX3_leave_30 rfl (lv_at hl 2 rfl) ?_
  refine lv_null hx hb dX3_leave_31 ?_
  refine pf_X3_10 hX3 (x := -1) (rv_null ad rfl).symm hx hb hts iw_X3_leave_X3 hown hK hP hD hS (hts (.fieldLink RX3 56 "TraceTrees$Machine" "current" "LTraceTrees$Trace;") (List.mem_of_getElem? (i := 1) rfl)) dX3_leave_32 (fun H locs hP hD hS => ?_)
  refine lv_aload_n hx hb dX3_leave_35 rfl (lv_at hl 2 rfl) ?_
  refine gf_X3_2 hX3 hx hb hts iw_X3_leave_X3 hown hK hP (hts (.fieldLink RX3 21 "TraceTrees$Machine" "forest" "LTraceTrees$Forest;") (List.mem_of_getElem? (i := 5) rfl)) dX3_leave_36 ?_
  refine lw_aload_n hx hb dX3_leave_39 rfl (lv_at hl 1 rfl) ?_
  refine lv_nmr (rv_tr ad ht3) ?_
  refine gf_X8_6 ht3.1 hx hb hts iw_X3_leave_X8 hown hK hP (hts (.fieldLink RX3 131 "TraceTrees$Trace" "branch" "[I") (List.mem_of_getElem? (i := 6) rfl)) dX3_leave_40 ?_
  refine lv_iload_n hx hb dX3_leave_43 rfl (lv_at hl 0 rfl) ?_
  refine wald hx hb hK hP (aT6 ht3.1) hi4 dX3_leave_44 ?_
  refine lv_nm (y := (σ (e1.toNatClampNeg + 6) e2.toNatClampNeg)) (su_rd (Ne.symm (ne_MT01 hX3 ht3.1 (by decide))) (su_rd (by omega) (su_rd (Ne.symm (ne_MT01 hX3 ht3.1 (by decide))) rfl))) ?_
  refine wcalli (S := Unit) (va_runV (As := [.int (σ (e1.toNatClampNeg + 6) e2.toNatClampNeg)]) (rest := []) ⟨hx, hb, hml, hown, hts⟩ (c_X2_has l dC dI cI cT cS H.size ad kX3 hX3 (σ (e1.toNatClampNeg + 6) e2.toNatClampNeg) (su (su (su σ kX3 9 ((σ kX3 9) + (1 : Int32))) (e1.toNatClampNeg + 5) e2.toNatClampNeg ((σ (e1.toNatClampNeg + 5) e2.toNatClampNeg) + (1 : Int32))) kX3 10 (-1)) _ rfl) (cwV 1 hts (gWV (List.mem_of_getElem? (i := 7) rfl) (List.mem_of_getElem? (i := 8) rfl) (List.mem_of_getElem? (i := 9) rfl) (List.mem_of_getElem? (i := 10) rfl) ic_X3_leave_c_X2_has gd_c_X2_has) rfl rfl rfl (by decide +kernel) ⟨(Nat.le_of_ble_eq_true rfl), (Nat.le_of_ble_eq_true rfl)⟩) (wpV (q := (RX2, TX2, 7)) hP hK hD (oX2 hX3) rfl) rfl rfl hl.1 rfl (lv_room (Nat.le_of_ble_eq_true rfl)) dX3_leave_45 ⟨(Nat.le_of_ble_eq_true rfl), (Nat.le_of_ble_eq_true rfl)⟩) hP hD hS hA (fun rr5 _ H locs hr5 hP hD hS => ?_)
  refine lv_nm (y := b2i (zf_X2_has kX3 (σ (e1.toNatClampNeg + 6) e2.toNatClampNeg) (su (su (su σ kX3 9 ((σ kX3 9) + (1 : Int32))) (e1.toNatClampNeg + 5) e2.toNatClampNeg ((σ (e1.toNatClampNeg + 5) e2.toNatClampNeg) + (1 : Int32))) kX3 10 (-1)))) hr5 ?_
  refine lv_if_eq (tgt := 72) hx hb dX3_leave_48 (by decide) (fun c6 => ?_) (fun c6 => ?_)
  · replace h := ifn (b2i_0 c6) h
    refine lw_aload_n hx hb dX3_leave_72 rfl (lv_at hl 1 rfl) ?_
    refine lv_nmr (rv_tr ad ht3) ?_
    refine gf_X8_5 ht3.1 hx hb hts iw_X3_leave_X8 hown hK hP (hts (.fieldLink RX3 127 "TraceTrees$Trace" "hits" "[I") (List.mem_of_getElem? (i := 4) rfl)) dX3_leave_73 ?_
    refine lv_iload_n hx hb dX3_leave_76 rfl (lv_at hl 0 rfl) ?_
    refine wald hx hb hK hP (aT5 ht3.1) hi4 dX3_leave_77 ?_
    refine lv_nm (y := ((σ (e1.toNatClampNeg + 5) e2.toNatClampNeg) + (1 : Int32))) (su_rd (Ne.symm (ne_MT01 hX3 ht3.1 (by decide))) (su_hit rfl)) ?_
    refine lv_aload_n hx hb dX3_leave_78 rfl (lv_at hl 2 rfl) ?_
    refine gf_X3_4 hX3 hx hb hts iw_X3_leave_X3 hown hK hP (hts (.fieldLink RX3 43 "TraceTrees$Machine" "hot" "I") (List.mem_of_getElem? (i := 11) rfl)) dX3_leave_79 ?_
    refine lv_nm (y := (σ kX3 4)) (su_rf (by omega) (by decide) (su_rd (ne_MT01 hX3 ht3.1 (by decide)) (su_rf (by omega) (by decide) rfl))) ?_
    refine lv_icmp_ne (tgt := 145) hx hb dX3_leave_82 (by decide) (fun c7 => ?_) (fun c7 => ?_)
    · replace h := ifn (c7) h
      exact J145 (su (su (su σ kX3 9 ((σ kX3 9) + (1 : Int32))) (e1.toNatClampNeg + 5) e2.toNatClampNeg ((σ (e1.toNatClampNeg + 5) e2.toNatClampNeg) + (1 : Int32))) kX3 10 (-1)) H locs ls h hP hD hS (lv_sub (l' := []) hl [] rfl)
    · replace h := ifp (c7) h
      refine lv_aload_n hx hb dX3_leave_85 rfl (lv_at hl 2 rfl) ?_
      refine gf_X3_2 hX3 hx hb hts iw_X3_leave_X3 hown hK hP (hts (.fieldLink RX3 21 "TraceTrees$Machine" "forest" "LTraceTrees$Forest;") (List.mem_of_getElem? (i := 5) rfl)) dX3_leave_86 ?_
      refine lw_aload_n hx hb dX3_leave_89 rfl (lv_at hl 1 rfl) ?_
      refine lv_nmr (rv_tr ad ht3) ?_
      refine gf_X8_7 ht3.1 hx hb hts iw_X3_leave_X8 hown hK hP (hts (.fieldLink RX3 115 "TraceTrees$Trace" "head" "I") (List.mem_of_getElem? (i := 12) rfl)) dX3_leave_90 ?_
      refine lv_nm (y := (σ e1.toNatClampNeg 7)) (su_rd (Ne.symm (ne_MT00 hX3 ht3.1)) (su_rd (by omega) (su_rd (Ne.symm (ne_MT00 hX3 ht3.1)) rfl))) ?_
      obtain ⟨r8, hc8, h⟩ := obd_inv h
      refine wcalli (S := Unit) (va_runV (As := [.int (σ e1.toNatClampNeg 7)]) (rest := []) ⟨hx, hb, hml, hown, hts⟩ (c_X2_mayRecord l dC dI cI cT cS H.size ad kX3 hX3 (σ e1.toNatClampNeg 7) (su (su (su σ kX3 9 ((σ kX3 9) + (1 : Int32))) (e1.toNatClampNeg + 5) e2.toNatClampNeg ((σ (e1.toNatClampNeg + 5) e2.toNatClampNeg) + (1 : Int32))) kX3 10 (-1)) _ hc8) (cwV 1 hts (gWV (List.mem_of_getElem? (i := 13) rfl) (List.mem_of_getElem? (i := 14) rfl) (List.mem_of_getElem? (i := 15) rfl) (List.mem_of_getElem? (i := 10) rfl) ic_X3_leave_c_X2_mayRecord gd_c_X2_mayRecord) rfl rfl rfl (by decide +kernel) ⟨(Nat.le_of_ble_eq_true rfl), (Nat.le_of_ble_eq_true rfl)⟩) (wpV (q := (RX2, TX2, 7)) hP hK hD (oX2 hX3) rfl) rfl rfl hl.1 rfl (lv_room (Nat.le_of_ble_eq_true rfl)) dX3_leave_93 ⟨(Nat.le_of_ble_eq_true rfl), (Nat.le_of_ble_eq_true rfl)⟩) hP hD hS hA (fun rr9 _ H locs hr9 hP hD hS => ?_)
      refine lv_nm (y := b2i r8) hr9 ?_
      refine lv_if_eq (tgt := 145) hx hb dX3_leave_96 (by decide) (fun c10 => ?_) (fun c10 => ?_)
      · replace h := ifn (b2i_0 c10) h
        exact J145 (su (su (su σ kX3 9 ((σ kX3 9) + (1 : Int32))) (e1.toNatClampNeg + 5) e2.toNatClampNeg ((σ (e1.toNatClampNeg + 5) e2.toNatClampNeg) + (1 : Int32))) kX3 10 (-1)) H locs ls h hP hD hS (lv_sub (l' := []) hl [] rfl)
      · replace h := ifp (b2i_1 c10) h
        refine lv_aload_n hx hb dX3_leave_99 rfl (lv_at hl 2 rfl) ?_
        refine gf_X3_2 hX3 hx hb hts iw_X3_leave_X3 hown hK hP (hts (.fieldLink RX3 21 "TraceTrees$Machine" "forest" "LTraceTrees$Forest;") (List.mem_of_getElem? (i := 5) rfl)) dX3_leave_100 ?_
        refine lw_aload_n hx hb dX3_leave_103 rfl (lv_at hl 1 rfl) ?_
        refine lv_nmr (rv_tr ad ht3) ?_
        refine gf_X8_7 ht3.1 hx hb hts iw_X3_leave_X8 hown hK hP (hts (.fieldLink RX3 115 "TraceTrees$Trace" "head" "I") (List.mem_of_getElem? (i := 12) rfl)) dX3_leave_104 ?_
        refine lv_nm (y := (σ e1.toNatClampNeg 7)) (su_rd (Ne.symm (ne_MT00 hX3 ht3.1)) (su_rd (by omega) (su_rd (Ne.symm (ne_MT00 hX3 ht3.1)) rfl))) ?_
        refine lw_aload_n hx hb dX3_leave_107 rfl (lv_at hl 1 rfl) ?_
        refine lv_nmr (rv_tr ad ht3) ?_
        refine gf_X8_0 ht3.1 hx hb hts iw_X3_leave_X8 hown hK hP (hts (.fieldLink RX3 143 "TraceTrees$Trace" "number" "I") (List.mem_of_getElem? (i := 16) rfl)) dX3_leave_108 ?_
        refine lv_nm (y := (σ e1.toNatClampNeg 0)) (su_rd (Ne.symm (ne_MT00 hX3 ht3.1)) (su_rd (by omega) (su_rd (Ne.symm (ne_MT00 hX3 ht3.1)) rfl))) ?_
        refine lv_iload_n hx hb dX3_leave_111 rfl (lv_at hl 0 rfl) ?_
        obtain ⟨σ11, hc11, h⟩ := obd_inv h
        refine wcallv (S := Unit) (va_runV (As := [.int (σ e1.toNatClampNeg 7), .int (σ e1.toNatClampNeg 0), .int e2]) (rest := []) ⟨hx, hb, hml, hown, hts⟩ (c_X2_startRecording l dC dI cI cT cS H.size ad kX3 hX3 (σ e1.toNatClampNeg 7) (σ e1.toNatClampNeg 0) e2 (su (su (su σ kX3 9 ((σ kX3 9) + (1 : Int32))) (e1.toNatClampNeg + 5) e2.toNatClampNeg ((σ (e1.toNatClampNeg + 5) e2.toNatClampNeg) + (1 : Int32))) kX3 10 (-1)) _ hc11) (cwV 3 hts (gWV (List.mem_of_getElem? (i := 17) rfl) (List.mem_of_getElem? (i := 18) rfl) (List.mem_of_getElem? (i := 19) rfl) (List.mem_of_getElem? (i := 10) rfl) ic_X3_leave_c_X2_startRecording gd_c_X2_startRecording) rfl rfl rfl (by decide +kernel) ⟨(Nat.le_of_ble_eq_true rfl), (Nat.le_of_ble_eq_true rfl)⟩) (wpV (q := (RX2, TX2, 7)) hP hK hD (oX2 hX3) rfl) rfl rfl hl.1 rfl (lv_room (Nat.le_of_ble_eq_true rfl)) dX3_leave_112 ⟨(Nat.le_of_ble_eq_true rfl), (Nat.le_of_ble_eq_true rfl)⟩) hP hD hS hA (fun _ H locs hr12 hP hD hS => ?_)
        replace hP : va_P (dC, dI) vwCl (Wd 153 (cfC ad cI cT cS) σ11) H := hP
        replace hD : va_D A (Wd 153 (cfC ad cI cT cS) σ11) := hD
        refine lv_aload_n hx hb dX3_leave_115 rfl (lv_at hl 2 rfl) ?_
        obtain ⟨σ13, hc13, h⟩ := obd_inv h
        refine wcallv (S := Unit) (va_runV (As := []) (rest := []) ⟨hx, hb, hml, hown, hts⟩ (c_X3_judgeRecording l dC dI cI cT cS H.size ad kX3 hX3  σ11 _ hc13) (cwV 0 hts (gWV (List.mem_of_getElem? (i := 20) rfl) (List.mem_of_getElem? (i := 21) rfl) (List.mem_of_getElem? (i := 22) rfl) (List.mem_of_getElem? (i := 23) rfl) ic_X3_leave_c_X3_judgeRecording gd_c_X3_judgeRecording) rfl rfl rfl (by decide +kernel) ⟨(Nat.le_of_ble_eq_true rfl), (Nat.le_of_ble_eq_true rfl)⟩) (wpV (q := (RX3, TX3, 12)) hP hK hD (oX3 hX3) rfl) rfl rfl hl.1 rfl (lv_room (Nat.le_of_ble_eq_true rfl)) dX3_leave_116 ⟨(Nat.le_of_ble_eq_true rfl), (Nat.le_of_ble_eq_true rfl)⟩) hP hD hS hA (fun _ H locs hr14 hP hD hS => ?_)
        replace hP : va_P (dC, dI) vwCl (Wd 153 (cfC ad cI cT cS) σ13) H := hP
        replace hD : va_D A (Wd 153 (cfC ad cI cT cS) σ13) := hD
        refine lv_aload_n hx hb dX3_leave_119 rfl (lv_at hl 2 rfl) ?_
        refine gf_X3_2 hX3 hx hb hts iw_X3_leave_X3 hown hK hP (hts (.fieldLink RX3 21 "TraceTrees$Machine" "forest" "LTraceTrees$Forest;") (List.mem_of_getElem? (i := 5) rfl)) dX3_leave_120 ?_
        refine gf_X2_6 hX3 hx hb hts iw_X3_leave_X2 hown hK hP (hts (.fieldLink RX3 92 "TraceTrees$Forest" "recording" "LTraceTrees$Trace;") (List.mem_of_getElem? (i := 24) rfl)) dX3_leave_123 ?_
        refine w_ifnonnull (ad := ad) (tgt := 145) hx hb dX3_leave_126 (by decide) (fun c15 => ?_) (fun c15 => ?_)
        · replace h := ifn c15 h
          exact J145 σ13 H locs ls h hP hD hS (lv_sub (l' := []) hl [] rfl)
        · replace h := ifp c15 h
          refine lv_aload_n hx hb dX3_leave_129 rfl (lv_at hl 2 rfl) ?_
          refine lv_aload_n hx hb dX3_leave_130 rfl (lv_at hl 2 rfl) ?_
          refine gf_X3_2 hX3 hx hb hts iw_X3_leave_X3 hown hK hP (hts (.fieldLink RX3 21 "TraceTrees$Machine" "forest" "LTraceTrees$Forest;") (List.mem_of_getElem? (i := 5) rfl)) dX3_leave_131 ?_
          refine gf_X2_3 hX3 hx hb hts iw_X3_leave_X2 hown hK hP (hts (.fieldLink RX3 95 "TraceTrees$Forest" "root" "[LTraceTrees$Trace;") (List.mem_of_getElem? (i := 25) rfl)) dX3_leave_134 ?_
          refine lv_aload_n hx hb dX3_leave_137 rfl (lv_at hl 2 rfl) ?_
          refine gf_X3_5 hX3 hx hb hts iw_X3_leave_X3 hown hK hP (hts (.fieldLink RX3 67 "TraceTrees$Machine" "point" "I") (List.mem_of_getElem? (i := 26) rfl)) dX3_leave_138 ?_
          obtain ⟨hi16, h⟩ := bd_inv h
          refine waldR hx hb hK hP hX3 hi16 dX3_leave_141 ?_
          obtain ⟨σ17, hc17, h⟩ := obd_inv h
          refine wcallv (S := Unit) (va_runV (As := [rv ad (σ13 (kX3 + 9) (σ13 kX3 5).toNatClampNeg)]) (rest := []) ⟨hx, hb, hml, hown, hts⟩ (c_X3_begin l dC dI cI cT cS H.size ad kX3 hX3 (σ13 (kX3 + 9) (σ13 kX3 5).toNatClampNeg) σ13 _ hc17) (cwV 1 hts (gWV (List.mem_of_getElem? (i := 27) rfl) (List.mem_of_getElem? (i := 28) rfl) (List.mem_of_getElem? (i := 29) rfl) (List.mem_of_getElem? (i := 23) rfl) ic_X3_leave_c_X3_begin gd_c_X3_begin) rfl rfl rfl (by decide +kernel) ⟨(Nat.le_of_ble_eq_true rfl), (Nat.le_of_ble_eq_true rfl)⟩) (wpV (q := (RX3, TX3, 12)) hP hK hD (oX3 hX3) rfl) rfl rfl hl.1 rfl (lv_room (Nat.le_of_ble_eq_true rfl)) dX3_leave_142 ⟨(Nat.le_of_ble_eq_true rfl), (Nat.le_of_ble_eq_true rfl)⟩) hP hD hS hA (fun _ H locs hr18 hP hD hS => ?_)
          replace hP : va_P (dC, dI) vwCl (Wd 153 (cfC ad cI cT cS) σ17) H := hP
          replace hD : va_D A (Wd 153 (cfC ad cI cT cS) σ17) := hD
          exact J145 σ17 H locs ls h hP hD hS (lv_sub (l' := []) hl [] rfl)
  · replace h := ifp (b2i_1 c6) h
    refine lv_aload_n hx hb dX3_leave_51 rfl (lv_at hl 2 rfl) ?_
    refine lv_aload_n hx hb dX3_leave_52 rfl (lv_at hl 2 rfl) ?_
    refine gf_X3_2 hX3 hx hb hts iw_X3_leave_X3 hown hK hP (hts (.fieldLink RX3 21 "TraceTrees$Machine" "forest" "LTraceTrees$Forest;") (List.mem_of_getElem? (i := 5) rfl)) dX3_leave_53 ?_
    refine gf_X2_0 hX3 hx hb hts iw_X3_leave_X2 hown hK hP (hts (.fieldLink RX3 137 "TraceTrees$Forest" "traces" "[LTraceTrees$Trace;") (List.mem_of_getElem? (i := 30) rfl)) dX3_leave_56 ?_
    refine lw_aload_n hx hb dX3_leave_59 rfl (lv_at hl 1 rfl) ?_
    refine lv_nmr (rv_tr ad ht3) ?_
    refine gf_X8_6 ht3.1 hx hb hts iw_X3_leave_X8 hown hK hP (hts (.fieldLink RX3 131 "TraceTrees$Trace" "branch" "[I") (List.mem_of_getElem? (i := 6) rfl)) dX3_leave_60 ?_
    refine lv_iload_n hx hb dX3_leave_63 rfl (lv_at hl 0 rfl) ?_
    refine wald hx hb hK hP (aT6 ht3.1) hi4 dX3_leave_64 ?_
    refine lv_nm (y := (σ (e1.toNatClampNeg + 6) e2.toNatClampNeg)) (su_rd (Ne.symm (ne_MT01 hX3 ht3.1 (by decide))) (su_rd (by omega) (su_rd (Ne.symm (ne_MT01 hX3 ht3.1 (by decide))) rfl))) ?_
    obtain ⟨hi19, h⟩ := bd_inv h
    refine waldT hx hb hK hP hX3 hi19 dX3_leave_65 ?_
    obtain ⟨σ20, hc20, h⟩ := obd_inv h
    refine W.eq (g2 := F0 m 66 ls [rv ad (nI (kX3 + 10 + 7 * (σ (e1.toNatClampNeg + 6) e2.toNatClampNeg).toNatClampNeg)), .ref (ad kX3)]) (by rw [show rv ad (nI (kX3 + 10 + 7 * (σ (e1.toNatClampNeg + 6) e2.toNatClampNeg).toNatClampNeg)) = .ref (ad (kX3 + 10 + 7 * (σ (e1.toNatClampNeg + 6) e2.toNatClampNeg).toNatClampNeg)) from (rv_pl ad (Nat.lt_trans (isTr_lt (isTr_M hX3 hi19)) (by decide)))]) ?_
    refine wcallv (S := Unit) (va_runV (As := [rv ad (nI (kX3 + 10 + 7 * (σ (e1.toNatClampNeg + 6) e2.toNatClampNeg).toNatClampNeg))]) (rest := []) ⟨hx, hb, hml, hown, hts⟩ (c_X3_begin l dC dI cI cT cS H.size ad kX3 hX3 (nI (kX3 + 10 + 7 * (σ (e1.toNatClampNeg + 6) e2.toNatClampNeg).toNatClampNeg)) (su (su (su σ kX3 9 ((σ kX3 9) + (1 : Int32))) (e1.toNatClampNeg + 5) e2.toNatClampNeg ((σ (e1.toNatClampNeg + 5) e2.toNatClampNeg) + (1 : Int32))) kX3 10 (-1)) _ hc20) (cwV 1 hts (gWV (List.mem_of_getElem? (i := 27) rfl) (List.mem_of_getElem? (i := 28) rfl) (List.mem_of_getElem? (i := 29) rfl) (List.mem_of_getElem? (i := 23) rfl) ic_X3_leave_c_X3_begin gd_c_X3_begin) rfl rfl rfl (by decide +kernel) ⟨(Nat.le_of_ble_eq_true rfl), (Nat.le_of_ble_eq_true rfl)⟩) (wpV (q := (RX3, TX3, 12)) hP hK hD (oX3 hX3) rfl) rfl rfl hl.1 rfl (lv_room (Nat.le_of_ble_eq_true rfl)) dX3_leave_66 ⟨(Nat.le_of_ble_eq_true rfl), (Nat.le_of_ble_eq_true rfl)⟩) hP hD hS hA (fun _ H locs hr21 hP hD hS => ?_)
    replace hP : va_P (dC, dI) vwCl (Wd 153 (cfC ad cI cT cS) σ20) H := hP
    replace hD : va_D A (Wd 153 (cfC ad cI cT cS) σ20) := hD
    refine lv_goto (tgt := 145) hx hb dX3_leave_69 (by decide) ?_
    exact J145 σ20 H locs ls h hP hD hS (lv_sub (l' := []) hl [] rfl)
def zl_X3_getReady_39 (kX3 : Nat) (x39 : Int32 × Sg) : Option (Bool × (Int32 × Sg)) := (if (8 : Int32) ≤ x39.1 then some (false, (x39.1, x39.2)) else (if (x39.2 kX3 10) = -1 then some (false, (x39.1, x39.2)) else tk (x39.2 kX3 10) (obd (zf_X8_fails ((x39.2 kX3 10).toNatClampNeg) (x39.2 kX3 11) kX3 x39.2) (fun r11 => (if r11 = true then obd (zf_X3_leave kX3 x39.2) (fun σ14 => some (true, ((x39.1 + (1 : Int32)), σ14))) else some (false, (x39.1, x39.2)))))))
def zb_X3_getReady_37 (kX3 : Nat) (σb37 : Sg) : Option (Sg) := obd (lp (X := Int32 × Sg) (zl_X3_getReady_39 kX3) 1000 ((0 : Int32), σb37)) (fun y39 => some y39.2)
def zf_X3_getReady (kX3 : Nat) (σ : Sg) : Option (Sg) := obd (zf_X3_judgeRecording kX3 σ) (fun σ1 => (if (σ1 (kX3 + 5) 6) = -1 then (if (σ1 kX3 10) = -1 then bd (σ1 kX3 5) 24 (obd (zf_X3_begin kX3 (σ1 (kX3 + 9) (σ1 kX3 5).toNatClampNeg) σ1) (fun σ6 => (zb_X3_getReady_37 kX3 σ6))) else (zb_X3_getReady_37 kX3 σ1)) else (zb_X3_getReady_37 kX3 σ1)))
def oc_X3_getReady : List Cond := [.methodLink RX3 89 yX3_judgeRecording, .instanceMethod yX3_judgeRecording, .selects RX3 yX3_judgeRecording yX3_judgeRecording, .initialized RX3, .fieldLink RX3 21 "TraceTrees$Machine" "forest" "LTraceTrees$Forest;", .fieldLink RX3 92 "TraceTrees$Forest" "recording" "LTraceTrees$Trace;", .fieldLink RX3 56 "TraceTrees$Machine" "current" "LTraceTrees$Trace;", .fieldLink RX3 95 "TraceTrees$Forest" "root" "[LTraceTrees$Trace;", .fieldLink RX3 67 "TraceTrees$Machine" "point" "I", .methodLink RX3 99 yX3_begin, .instanceMethod yX3_begin, .selects RX3 yX3_begin yX3_begin, .fieldLink RX3 103 "TraceTrees$Machine" "at" "I", .fieldLink RX3 32 "TraceTrees$Machine" "program" "LTraceTrees$Program;", .fieldLink RX3 28 "TraceTrees$Machine" "effect" "LTraceTrees$Effect;", .methodLink RX3 106 yX8_fails, .instanceMethod yX8_fails, .selects RX8 yX8_fails yX8_fails, .initialized RX8, .methodLink RX3 112 yX3_leave, .instanceMethod yX3_leave, .selects RX3 yX3_leave yX3_leave]
def vc_X3_getReady : List Cond := .code yX3_getReady cX3_getReady 2 none :: (oc_X3_getReady ++ (wsX30 ++ (wsX20 ++ (vc_X3_judgeRecording ++ (vc_X3_begin ++ (vc_X8_fails ++ (vc_X3_leave)))))))
theorem iw_X3_getReady_X3 : ∀ w ∈ wsX30, w ∈ vc_X3_getReady := fun _ h => List.mem_cons_of_mem _ (List.mem_append_right _ (List.mem_append_left _ h))
theorem iw_X3_getReady_X2 : ∀ w ∈ wsX20, w ∈ vc_X3_getReady := fun _ h => List.mem_cons_of_mem _ (List.mem_append_right _ (List.mem_append_right _ (List.mem_append_left _ h)))
theorem ic_X3_getReady_c_X3_judgeRecording : ∀ w ∈ vc_X3_judgeRecording, w ∈ vc_X3_getReady := fun _ h => List.mem_cons_of_mem _ (List.mem_append_right _ (List.mem_append_right _ (List.mem_append_right _ (List.mem_append_left _ h))))
theorem ic_X3_getReady_c_X3_begin : ∀ w ∈ vc_X3_begin, w ∈ vc_X3_getReady := fun _ h => List.mem_cons_of_mem _ (List.mem_append_right _ (List.mem_append_right _ (List.mem_append_right _ (List.mem_append_right _ (List.mem_append_left _ h)))))
theorem ic_X3_getReady_c_X8_fails : ∀ w ∈ vc_X8_fails, w ∈ vc_X3_getReady := fun _ h => List.mem_cons_of_mem _ (List.mem_append_right _ (List.mem_append_right _ (List.mem_append_right _ (List.mem_append_right _ (List.mem_append_right _ (List.mem_append_left _ h))))))
theorem ic_X3_getReady_c_X3_leave : ∀ w ∈ vc_X3_leave, w ∈ vc_X3_getReady := fun _ h => List.mem_cons_of_mem _ (List.mem_append_right _ (List.mem_append_right _ (List.mem_append_right _ (List.mem_append_right _ (List.mem_append_right _ (List.mem_append_right _ (h)))))))
theorem gd_c_X3_getReady : (vc_X3_getReady).all goodWord = true := gall_cons rfl (gall_app (by decide +kernel) (gall_app gw_X3 (gall_app gw_X2 (gall_app gd_c_X3_judgeRecording (gall_app gd_c_X3_begin (gall_app gd_c_X8_fails gd_c_X3_leave))))))
set_option maxHeartbeats 4000000 in
set_option maxRecDepth 100000 in
theorem c_X3_getReady (l : Launch) (dC : Nat → ClassId) (dI : Nat → Nat → Nat) (cI cT cS : ClassId) (sz : Nat) (ad : Nat → Nat) (kX3 : Nat) (hX3 : isM kX3) (σ : Sg) (o : Sg) (h : zf_X3_getReady kX3 σ = some o) : gCV (S := Unit) l yX3_getReady vc_X3_getReady { frames := 3, cells := 0, slots := 0, locals := 68 } (dC, dI) (gTY cI cT cS) sz [.ref (ad kX3)] (Wd 153 (cfC ad cI cT cS) σ) (fun (_ : Unit) => True) (fun (_ : Unit) => (Wd 153 (cfC ad cI cT cS) o)) 0 0 := by
  refine Met.ofW (cc := cX3_getReady) (maxL := 2) (ret := none) (by decide) rfl ?_
  intro p e s m args below meth c s₁ B hml hv
  obtain ⟨rfl, hsz, hP, hK, hD0⟩ := hv
  have hx := B.exec
  have hb := B.bytes
  have hr := B.returns
  have hts := atoms_spec (ws := vc_X3_getReady) B.pre
  have hown : s.vm.findClass RX3 = some m.cls := findClass_of_methodNamed B.named
  have hlocks := B.notSynchronized
  subst hsz
  have hD := hD0.self (sz := s.heap.size)
  generalize hAe : va_A (Wd 153 (cfC ad cI cT cS) σ) s.heap.size = A at hD ⊢
  have hA : ∀ q : Nat, s.heap.size ≤ q → A q := fun q h => by rw [← hAe]; exact Or.inr h
  clear hAe hD0
  refine gstart (fun H locs hHe hLe => ?_)
  have hS : va_S A s.heap H locs := by rw [← hHe, ← hLe]; exact va_S.rf
  replace hP : va_P (dC, dI) vwCl (Wd 153 (cfC ad cI cT cS) σ) H := by rw [← hHe]; exact hP
  clear hHe hLe
  have hl := lv_entry ([.ref (ad kX3)]) (n := 2) (Nat.le_of_ble_eq_true rfl)
  rw [lg_entry_eq]
  generalize (lg_sl ([.ref (ad kX3)]) ++ List.replicate (2 - (lg_sl ([.ref (ad kX3)])).length) Slot.unset).toArray = ls at hl ⊢
  replace hl : lv_has ls 2 [(0, .ref (ad kX3))] := hl
  unfold zf_X3_getReady at h
  have J37 : ∀ (σb37 : Sg) (H : Heap) (locs : List Loc) (ls : Array Slot), zb_X3_getReady_37 kX3 σb37 = some o → va_P (dC, dI) vwCl (Wd 153 (cfC ad cI cT cS) σb37) H → va_D A (Wd 153 (cfC ad cI cT cS) σb37) → va_S A s.heap H locs → lv_has ls 2 [(0, .ref (ad kX3))] → W p l e (headSpec vc_X3_getReady { frames := 3, cells := 0, slots := 0, locals := 68 }).room s m (List.toArray (α := Value) [.ref (ad kX3)]) below meth c H locs 0 0 (MQ below (va_Qv (fun (_ : Unit) => True) (gB (dC, dI) A (fun (_ : Unit) => (Wd 153 (cfC ad cI cT cS) o))) A) (List.toArray (α := Value) [.ref (ad kX3)]) s 0 0 A) (F0 m 37 ls []) := by
    intro σb37 H locs ls h hP hD hS hl
    unfold zb_X3_getReady_37 at h
    refine lv_iconst (v := 0) hx hb dX3_getReady_37 (by decide) ?_
    refine lv_istore_n (lv' := [(1, .int (0 : Int32)), (0, .ref (ad kX3))]) hx hb dX3_getReady_38 rfl hl (by decide) rfl (fun ls hl => ?_)
    obtain ⟨y39, hlp39, h⟩ := obd_inv h
    refine lp_W (fun x39 : Int32 × Sg => ∀ (H : Heap) (locs : List Loc) (ls : Array Slot), va_P (dC, dI) vwCl (Wd 153 (cfC ad cI cT cS) x39.2) H → va_D A (Wd 153 (cfC ad cI cT cS) x39.2) → va_S A s.heap H locs → lv_has ls 2 [(1, .int x39.1), (0, .ref (ad kX3))] → W p l e (headSpec vc_X3_getReady { frames := 3, cells := 0, slots := 0, locals := 68 }).room s m (List.toArray (α := Value) [.ref (ad kX3)]) below meth c H locs 0 0 (MQ below (va_Qv (fun (_ : Unit) => True) (gB (dC, dI) A (fun (_ : Unit) => (Wd 153 (cfC ad cI cT cS) o))) A) (List.toArray (α := Value) [.ref (ad kX3)]) s 0 0 A) (F0 m 39 ls [])) (fun y39 : Int32 × Sg => ∀ (H : Heap) (locs : List Loc) (ls : Array Slot), va_P (dC, dI) vwCl (Wd 153 (cfC ad cI cT cS) y39.2) H → va_D A (Wd 153 (cfC ad cI cT cS) y39.2) → va_S A s.heap H locs → lv_has ls 2 [] → W p l e (headSpec vc_X3_getReady { frames := 3, cells := 0, slots := 0, locals := 68 }).room s m (List.toArray (α := Value) [.ref (ad kX3)]) below meth c H locs 0 0 (MQ below (va_Qv (fun (_ : Unit) => True) (gB (dC, dI) A (fun (_ : Unit) => (Wd 153 (cfC ad cI cT cS) o))) A) (List.toArray (α := Value) [.ref (ad kX3)]) s 0 0 A) (F0 m 84 ls [])) ?_ 1000 ((0 : Int32), σb37) y39 hlp39 ?_ H locs ls hP hD hS (lv_sub (l' := [(1, .int (0 : Int32)), (0, .ref (ad kX3))]) hl [0, 1] rfl)
    · intro x39 yy39 h ht39 hf39 H locs ls hP hD hS hl
      unfold zl_X3_getReady_39 at h
      refine lv_iload_n hx hb dX3_getReady_39 rfl (lv_at hl 0 rfl) ?_
      refine lv_bipush (v := 8) hx hb dX3_getReady_40 (by decide) ?_
      refine lv_icmp_ge (tgt := 84) hx hb dX3_getReady_42 (by decide) (fun c8 => ?_) (fun c8 => ?_)
      · replace h := ifp (c8) h
        obtain rfl := Option.some.inj h
        exact hf39 rfl H locs ls hP hD hS (lv_sub (l' := []) hl [] rfl)
      · replace h := ifn (c8) h
        refine lv_aload_n hx hb dX3_getReady_45 rfl (lv_at hl 1 rfl) ?_
        refine gf_X3_10 hX3 hx hb hts iw_X3_getReady_X3 hown hK hP (hts (.fieldLink RX3 56 "TraceTrees$Machine" "current" "LTraceTrees$Trace;") (List.mem_of_getElem? (i := 7) rfl)) dX3_getReady_46 ?_
        refine w_ifnull (ad := ad) (tgt := 84) hx hb dX3_getReady_49 (by decide) (fun c9 => ?_) (fun c9 => ?_)
        · replace h := ifp c9 h
          obtain rfl := Option.some.inj h
          exact hf39 rfl H locs ls hP hD hS (lv_sub (l' := []) hl [] rfl)
        · replace h := ifn c9 h
          refine lv_aload_n hx hb dX3_getReady_52 rfl (lv_at hl 1 rfl) ?_
          refine gf_X3_10 hX3 hx hb hts iw_X3_getReady_X3 hown hK hP (hts (.fieldLink RX3 56 "TraceTrees$Machine" "current" "LTraceTrees$Trace;") (List.mem_of_getElem? (i := 7) rfl)) dX3_getReady_53 ?_
          refine lv_aload_n hx hb dX3_getReady_56 rfl (lv_at hl 1 rfl) ?_
          refine gf_X3_11 hX3 hx hb hts iw_X3_getReady_X3 hown hK hP (hts (.fieldLink RX3 103 "TraceTrees$Machine" "at" "I") (List.mem_of_getElem? (i := 13) rfl)) dX3_getReady_57 ?_
          refine lv_aload_n hx hb dX3_getReady_60 rfl (lv_at hl 1 rfl) ?_
          refine gf_X3_0 hX3 hx hb hts iw_X3_getReady_X3 hown hK hP (hts (.fieldLink RX3 32 "TraceTrees$Machine" "program" "LTraceTrees$Program;") (List.mem_of_getElem? (i := 14) rfl)) dX3_getReady_61 ?_
          refine lv_aload_n hx hb dX3_getReady_64 rfl (lv_at hl 1 rfl) ?_
          refine gf_X3_3 hX3 hx hb hts iw_X3_getReady_X3 hown hK hP (hts (.fieldLink RX3 28 "TraceTrees$Machine" "effect" "LTraceTrees$Effect;") (List.mem_of_getElem? (i := 15) rfl)) dX3_getReady_65 ?_
          obtain ⟨ht10, h⟩ := tk_inv h
          refine W.eq (g2 := F0 m 68 ls [.ref (ad (kX3 + 4)), .ref (ad 1), .int (x39.2 kX3 11), .ref (ad ((x39.2 kX3 10).toNatClampNeg))]) (by rw [rv_tr ad ht10]) ?_
          obtain ⟨r11, hc11, h⟩ := obd_inv h
          refine wcalli (S := Unit) (va_runV (As := [.int (x39.2 kX3 11), .ref (ad 1), .ref (ad (kX3 + 4))]) (rest := []) ⟨hx, hb, hml, hown, hts⟩ (c_X8_fails l dC dI cI cT cS H.size ad ((x39.2 kX3 10).toNatClampNeg) ht10.1 kX3 hX3 (x39.2 kX3 11) x39.2 _ hc11) (cwV 3 hts (gWV (List.mem_of_getElem? (i := 16) rfl) (List.mem_of_getElem? (i := 17) rfl) (List.mem_of_getElem? (i := 18) rfl) (List.mem_of_getElem? (i := 19) rfl) ic_X3_getReady_c_X8_fails gd_c_X8_fails) rfl rfl rfl (by decide +kernel) ⟨(Nat.le_of_ble_eq_true rfl), (Nat.le_of_ble_eq_true rfl)⟩) (wpV (q := (RX8, TX8, 12)) hP hK hD (oX8 ht10.1) rfl) rfl rfl hl.1 rfl (lv_room (Nat.le_of_ble_eq_true rfl)) dX3_getReady_68 ⟨(Nat.le_of_ble_eq_true rfl), (Nat.le_of_ble_eq_true rfl)⟩) hP hD hS hA (fun rr12 _ H locs hr12 hP hD hS => ?_)
          refine lv_nm (y := b2i r11) hr12 ?_
          refine lv_if_eq (tgt := 84) hx hb dX3_getReady_71 (by decide) (fun c13 => ?_) (fun c13 => ?_)
          · replace h := ifn (b2i_0 c13) h
            obtain rfl := Option.some.inj h
            exact hf39 rfl H locs ls hP hD hS (lv_sub (l' := []) hl [] rfl)
          · replace h := ifp (b2i_1 c13) h
            refine lv_aload_n hx hb dX3_getReady_74 rfl (lv_at hl 1 rfl) ?_
            obtain ⟨σ14, hc14, h⟩ := obd_inv h
            refine wcallv (S := Unit) (va_runV (As := []) (rest := []) ⟨hx, hb, hml, hown, hts⟩ (c_X3_leave l dC dI cI cT cS H.size ad kX3 hX3  x39.2 _ hc14) (cwV 0 hts (gWV (List.mem_of_getElem? (i := 20) rfl) (List.mem_of_getElem? (i := 21) rfl) (List.mem_of_getElem? (i := 22) rfl) (List.mem_of_getElem? (i := 4) rfl) ic_X3_getReady_c_X3_leave gd_c_X3_leave) rfl rfl rfl (by decide +kernel) ⟨(Nat.le_of_ble_eq_true rfl), (Nat.le_of_ble_eq_true rfl)⟩) (wpV (q := (RX3, TX3, 12)) hP hK hD (oX3 hX3) rfl) rfl rfl hl.1 rfl (lv_room (Nat.le_of_ble_eq_true rfl)) dX3_getReady_75 ⟨(Nat.le_of_ble_eq_true rfl), (Nat.le_of_ble_eq_true rfl)⟩) hP hD hS hA (fun _ H locs hr15 hP hD hS => ?_)
            replace hP : va_P (dC, dI) vwCl (Wd 153 (cfC ad cI cT cS) σ14) H := hP
            replace hD : va_D A (Wd 153 (cfC ad cI cT cS) σ14) := hD
            refine lv_iinc (v := (x39.1 + (1 : Int32))) (lv' := [(1, .int (x39.1 + (1 : Int32))), (0, .ref (ad kX3))]) hx hb dX3_getReady_78 hl (k := 0) rfl rfl (by decide) rfl (fun ls hl => ?_)
            refine lv_goto (tgt := 39) hx hb dX3_getReady_81 (by decide) ?_
            obtain rfl := Option.some.inj h
            exact ht39 rfl H locs ls hP hD hS (lv_sub (l' := [(1, .int (x39.1 + (1 : Int32))), (0, .ref (ad kX3))]) hl [0, 1] rfl)
    · intro H locs ls hP hD hS hl
      have h9 := Option.some.inj h
      exact wretv hx hb hr hlocks hP hD hS trivial (by rw [← h9]) dX3_getReady_84
  refine lv_aload_n hx hb dX3_getReady_0 rfl (lv_at hl 0 rfl) ?_
  obtain ⟨σ1, hc1, h⟩ := obd_inv h
  refine wcallv (S := Unit) (va_runV (As := []) (rest := []) ⟨hx, hb, hml, hown, hts⟩ (c_X3_judgeRecording l dC dI cI cT cS H.size ad kX3 hX3  σ _ hc1) (cwV 0 hts (gWV (List.mem_of_getElem? (i := 1) rfl) (List.mem_of_getElem? (i := 2) rfl) (List.mem_of_getElem? (i := 3) rfl) (List.mem_of_getElem? (i := 4) rfl) ic_X3_getReady_c_X3_judgeRecording gd_c_X3_judgeRecording) rfl rfl rfl (by decide +kernel) ⟨(Nat.le_of_ble_eq_true rfl), (Nat.le_of_ble_eq_true rfl)⟩) (wpV (q := (RX3, TX3, 12)) hP hK hD (oX3 hX3) rfl) rfl rfl hl.1 rfl (lv_room (Nat.le_of_ble_eq_true rfl)) dX3_getReady_1 ⟨(Nat.le_of_ble_eq_true rfl), (Nat.le_of_ble_eq_true rfl)⟩) hP hD hS hA (fun _ H locs hr2 hP hD hS => ?_)
  replace hP : va_P (dC, dI) vwCl (Wd 153 (cfC ad cI cT cS) σ1) H := hP
  replace hD : va_D A (Wd 153 (cfC ad cI cT cS) σ1) := hD
  refine lv_aload_n hx hb dX3_getReady_4 rfl (lv_at hl 0 rfl) ?_
  refine gf_X3_2 hX3 hx hb hts iw_X3_getReady_X3 hown hK hP (hts (.fieldLink RX3 21 "TraceTrees$Machine" "forest" "LTraceTrees$Forest;") (List.mem_of_getElem? (i := 5) rfl)) dX3_getReady_5 ?_
  refine gf_X2_6 hX3 hx hb hts iw_X3_getReady_X2 hown hK hP (hts (.fieldLink RX3 92 "TraceTrees$Forest" "recording" "LTraceTrees$Trace;") (List.mem_of_getElem? (i := 6) rfl)) dX3_getReady_8 ?_
  refine w_ifnonnull (ad := ad) (tgt := 37) hx hb dX3_getReady_11 (by decide) (fun c3 => ?_) (fun c3 => ?_)
  · replace h := ifn c3 h
    exact J37 σ1 H locs ls h hP hD hS (lv_sub (l' := [(0, .ref (ad kX3))]) hl [0] rfl)
  · replace h := ifp c3 h
    refine lv_aload_n hx hb dX3_getReady_14 rfl (lv_at hl 0 rfl) ?_
    refine gf_X3_10 hX3 hx hb hts iw_X3_getReady_X3 hown hK hP (hts (.fieldLink RX3 56 "TraceTrees$Machine" "current" "LTraceTrees$Trace;") (List.mem_of_getElem? (i := 7) rfl)) dX3_getReady_15 ?_
    refine w_ifnonnull (ad := ad) (tgt := 37) hx hb dX3_getReady_18 (by decide) (fun c4 => ?_) (fun c4 => ?_)
    · replace h := ifn c4 h
      exact J37 σ1 H locs ls h hP hD hS (lv_sub (l' := [(0, .ref (ad kX3))]) hl [0] rfl)
    · replace h := ifp c4 h
      refine lv_aload_n hx hb dX3_getReady_21 rfl (lv_at hl 0 rfl) ?_
      refine lv_aload_n hx hb dX3_getReady_22 rfl (lv_at hl 0 rfl) ?_
      refine gf_X3_2 hX3 hx hb hts iw_X3_getReady_X3 hown hK hP (hts (.fieldLink RX3 21 "TraceTrees$Machine" "forest" "LTraceTrees$Forest;") (List.mem_of_getElem? (i := 5) rfl)) dX3_getReady_23 ?_
      refine gf_X2_3 hX3 hx hb hts iw_X3_getReady_X2 hown hK hP (hts (.fieldLink RX3 95 "TraceTrees$Forest" "root" "[LTraceTrees$Trace;") (List.mem_of_getElem? (i := 8) rfl)) dX3_getReady_26 ?_
      refine lv_aload_n hx hb dX3_getReady_29 rfl (lv_at hl 0 rfl) ?_
      refine gf_X3_5 hX3 hx hb hts iw_X3_getReady_X3 hown hK hP (hts (.fieldLink RX3 67 "TraceTrees$Machine" "point" "I") (List.mem_of_getElem? (i := 9) rfl)) dX3_getReady_30 ?_
      obtain ⟨hi5, h⟩ := bd_inv h
      refine waldR hx hb hK hP hX3 hi5 dX3_getReady_33 ?_
      obtain ⟨σ6, hc6, h⟩ := obd_inv h
      refine wcallv (S := Unit) (va_runV (As := [rv ad (σ1 (kX3 + 9) (σ1 kX3 5).toNatClampNeg)]) (rest := []) ⟨hx, hb, hml, hown, hts⟩ (c_X3_begin l dC dI cI cT cS H.size ad kX3 hX3 (σ1 (kX3 + 9) (σ1 kX3 5).toNatClampNeg) σ1 _ hc6) (cwV 1 hts (gWV (List.mem_of_getElem? (i := 10) rfl) (List.mem_of_getElem? (i := 11) rfl) (List.mem_of_getElem? (i := 12) rfl) (List.mem_of_getElem? (i := 4) rfl) ic_X3_getReady_c_X3_begin gd_c_X3_begin) rfl rfl rfl (by decide +kernel) ⟨(Nat.le_of_ble_eq_true rfl), (Nat.le_of_ble_eq_true rfl)⟩) (wpV (q := (RX3, TX3, 12)) hP hK hD (oX3 hX3) rfl) rfl rfl hl.1 rfl (lv_room (Nat.le_of_ble_eq_true rfl)) dX3_getReady_34 ⟨(Nat.le_of_ble_eq_true rfl), (Nat.le_of_ble_eq_true rfl)⟩) hP hD hS hA (fun _ H locs hr7 hP hD hS => ?_)
      replace hP : va_P (dC, dI) vwCl (Wd 153 (cfC ad cI cT cS) σ6) H := hP
      replace hD : va_D A (Wd 153 (cfC ad cI cT cS) σ6) := hD
      exact J37 σ6 H locs ls h hP hD hS (lv_sub (l' := [(0, .ref (ad kX3))]) hl [0] rfl)
def zl_X3_go_53 (kX3 : Nat) (a2 : Int32) (x53 : Int32 × Sg) : Option (Bool × (Int32 × Sg)) := (if a2 ≤ x53.1 then some (false, (x53.1, x53.2)) else (if (x53.2 kX3 6) = 0 then obd (zf_X0_foresee kX3 (x53.2 kX3 5) (kX3 + 1) x53.2) (fun σ9 => obd (zf_X3_getReady kX3 σ9) (fun σ11 => obd (zf_X3_doStep kX3 σ11) (fun σ13 => some (true, ((x53.1 + (1 : Int32)), σ13))))) else some (false, (x53.1, x53.2))))
def zf_X3_go (kX3 : Nat) (k1 : Nat) (a2 : Int32) (a3 : Int32) (σ : Sg) : Option (Sg) := obd (zf_X2_clear kX3 σ) (fun σ1 => obd (zf_X5_become (kX3 + 1) k1 σ1) (fun σ3 => letb (zf_X3_moveTo kX3 (0 : Int32) (su (su (su (su (su (su σ3 kX3 4 a3) kX3 7 (0 : Int32)) kX3 8 (0 : Int32)) kX3 9 (0 : Int32)) kX3 10 (-1)) kX3 6 (0 : Int32))) (fun q5 => obd (lp (X := Int32 × Sg) (zl_X3_go_53 kX3 a2) 1000 ((0 : Int32), q5)) (fun y53 => obd (zf_X2_drop kX3 y53.2) (fun σ15 => some σ15)))))
def oc_X3_go : List Cond := [.fieldLink RX3 21 "TraceTrees$Machine" "forest" "LTraceTrees$Forest;", .methodLink RX3 36 yX2_clear, .instanceMethod yX2_clear, .selects RX2 yX2_clear yX2_clear, .initialized RX2, .fieldLink RX3 12 "TraceTrees$Machine" "registers" "LTraceTrees$Registers;", .methodLink RX3 39 yX5_become, .instanceMethod yX5_become, .selects RX5 yX5_become yX5_become, .initialized RX5, .fieldLink RX3 43 "TraceTrees$Machine" "hot" "I", .fieldLink RX3 47 "TraceTrees$Machine" "steps" "I", .fieldLink RX3 50 "TraceTrees$Machine" "compiled" "I", .fieldLink RX3 53 "TraceTrees$Machine" "exits" "I", .fieldLink RX3 56 "TraceTrees$Machine" "current" "LTraceTrees$Trace;", .fieldLink RX3 60 "TraceTrees$Machine" "how" "I", .methodLink RX3 63 yX3_moveTo, .instanceMethod yX3_moveTo, .selects RX3 yX3_moveTo yX3_moveTo, .initialized RX3, .fieldLink RX3 28 "TraceTrees$Machine" "effect" "LTraceTrees$Effect;", .fieldLink RX3 32 "TraceTrees$Machine" "program" "LTraceTrees$Program;", .fieldLink RX3 67 "TraceTrees$Machine" "point" "I", .methodLink RX3 70 yX0_foresee, .instanceMethod yX0_foresee, .selects RX0 yX0_foresee yX0_foresee, .initialized RX0, .methodLink RX3 74 yX3_getReady, .instanceMethod yX3_getReady, .selects RX3 yX3_getReady yX3_getReady, .methodLink RX3 77 yX3_doStep, .instanceMethod yX3_doStep, .selects RX3 yX3_doStep yX3_doStep, .methodLink RX3 80 yX2_drop, .instanceMethod yX2_drop, .selects RX2 yX2_drop yX2_drop]
def vc_X3_go : List Cond := .code yX3_go cX3_go 5 none :: (oc_X3_go ++ (wsX30 ++ (vc_X2_clear ++ (vc_X5_become ++ (vc_X3_moveTo ++ (vc_X0_foresee ++ (vc_X3_getReady ++ (vc_X3_doStep ++ (vc_X2_drop)))))))))
theorem iw_X3_go_X3 : ∀ w ∈ wsX30, w ∈ vc_X3_go := fun _ h => List.mem_cons_of_mem _ (List.mem_append_right _ (List.mem_append_left _ h))
theorem ic_X3_go_c_X2_clear : ∀ w ∈ vc_X2_clear, w ∈ vc_X3_go := fun _ h => List.mem_cons_of_mem _ (List.mem_append_right _ (List.mem_append_right _ (List.mem_append_left _ h)))
theorem ic_X3_go_c_X5_become : ∀ w ∈ vc_X5_become, w ∈ vc_X3_go := fun _ h => List.mem_cons_of_mem _ (List.mem_append_right _ (List.mem_append_right _ (List.mem_append_right _ (List.mem_append_left _ h))))
theorem ic_X3_go_c_X3_moveTo : ∀ w ∈ vc_X3_moveTo, w ∈ vc_X3_go := fun _ h => List.mem_cons_of_mem _ (List.mem_append_right _ (List.mem_append_right _ (List.mem_append_right _ (List.mem_append_right _ (List.mem_append_left _ h)))))
theorem ic_X3_go_c_X0_foresee : ∀ w ∈ vc_X0_foresee, w ∈ vc_X3_go := fun _ h => List.mem_cons_of_mem _ (List.mem_append_right _ (List.mem_append_right _ (List.mem_append_right _ (List.mem_append_right _ (List.mem_append_right _ (List.mem_append_left _ h))))))
theorem ic_X3_go_c_X3_getReady : ∀ w ∈ vc_X3_getReady, w ∈ vc_X3_go := fun _ h => List.mem_cons_of_mem _ (List.mem_append_right _ (List.mem_append_right _ (List.mem_append_right _ (List.mem_append_right _ (List.mem_append_right _ (List.mem_append_right _ (List.mem_append_left _ h)))))))
theorem ic_X3_go_c_X3_doStep : ∀ w ∈ vc_X3_doStep, w ∈ vc_X3_go := fun _ h => List.mem_cons_of_mem _ (List.mem_append_right _ (List.mem_append_right _ (List.mem_append_right _ (List.mem_append_right _ (List.mem_append_right _ (List.mem_append_right _ (List.mem_append_right _ (List.mem_append_left _ h))))))))
theorem ic_X3_go_c_X2_drop : ∀ w ∈ vc_X2_drop, w ∈ vc_X3_go := fun _ h => List.mem_cons_of_mem _ (List.mem_append_right _ (List.mem_append_right _ (List.mem_append_right _ (List.mem_append_right _ (List.mem_append_right _ (List.mem_append_right _ (List.mem_append_right _ (List.mem_append_right _ (h)))))))))
theorem gd_c_X3_go : (vc_X3_go).all goodWord = true := gall_cons rfl (gall_app (by decide +kernel) (gall_app gw_X3 (gall_app gd_c_X2_clear (gall_app gd_c_X5_become (gall_app gd_c_X3_moveTo (gall_app gd_c_X0_foresee (gall_app gd_c_X3_getReady (gall_app gd_c_X3_doStep gd_c_X2_drop))))))))
set_option maxHeartbeats 4000000 in
set_option maxRecDepth 100000 in
theorem c_X3_go (l : Launch) (dC : Nat → ClassId) (dI : Nat → Nat → Nat) (cI cT cS : ClassId) (sz : Nat) (ad : Nat → Nat) (kX3 : Nat) (hX3 : isM kX3) (k1 : Nat) (hk1 : isRg k1) (a2 : Int32) (a3 : Int32) (σ : Sg) (o : Sg) (h : zf_X3_go kX3 k1 a2 a3 σ = some o) : gCV (S := Unit) l yX3_go vc_X3_go { frames := 6, cells := 0, slots := 0, locals := 162 } (dC, dI) (gTY cI cT cS) sz [.ref (ad kX3), .ref (ad k1), .int a2, .int a3] (Wd 153 (cfC ad cI cT cS) σ) (fun (_ : Unit) => True) (fun (_ : Unit) => (Wd 153 (cfC ad cI cT cS) o)) 0 0 := by
  refine Met.ofW (cc := cX3_go) (maxL := 5) (ret := none) (by decide) rfl ?_
  intro p e s m args below meth c s₁ B hml hv
  obtain ⟨rfl, hsz, hP, hK, hD0⟩ := hv
  have hx := B.exec
  have hb := B.bytes
  have hr := B.returns
  have hts := atoms_spec (ws := vc_X3_go) B.pre
  have hown : s.vm.findClass RX3 = some m.cls := findClass_of_methodNamed B.named
  have hlocks := B.notSynchronized
  subst hsz
  have hD := hD0.self (sz := s.heap.size)
  generalize hAe : va_A (Wd 153 (cfC ad cI cT cS) σ) s.heap.size = A at hD ⊢
  have hA : ∀ q : Nat, s.heap.size ≤ q → A q := fun q h => by rw [← hAe]; exact Or.inr h
  clear hAe hD0
  refine gstart (fun H locs hHe hLe => ?_)
  have hS : va_S A s.heap H locs := by rw [← hHe, ← hLe]; exact va_S.rf
  replace hP : va_P (dC, dI) vwCl (Wd 153 (cfC ad cI cT cS) σ) H := by rw [← hHe]; exact hP
  clear hHe hLe
  have hl := lv_entry ([.ref (ad kX3), .ref (ad k1), .int a2, .int a3]) (n := 5) (Nat.le_of_ble_eq_true rfl)
  rw [lg_entry_eq]
  generalize (lg_sl ([.ref (ad kX3), .ref (ad k1), .int a2, .int a3]) ++ List.replicate (5 - (lg_sl ([.ref (ad kX3), .ref (ad k1), .int a2, .int a3])).length) Slot.unset).toArray = ls at hl ⊢
  replace hl : lv_has ls 5 [(0, .ref (ad kX3)), (1, .ref (ad k1)), (2, .int a2), (3, .int a3)] := hl
  unfold zf_X3_go at h
  refine lv_aload_n hx hb dX3_go_0 rfl (lv_at hl 0 rfl) ?_
  refine gf_X3_2 hX3 hx hb hts iw_X3_go_X3 hown hK hP (hts (.fieldLink RX3 21 "TraceTrees$Machine" "forest" "LTraceTrees$Forest;") (List.mem_of_getElem? (i := 1) rfl)) dX3_go_1 ?_
  obtain ⟨σ1, hc1, h⟩ := obd_inv h
  refine wcallv (S := Unit) (va_runV (As := []) (rest := []) ⟨hx, hb, hml, hown, hts⟩ (c_X2_clear l dC dI cI cT cS H.size ad kX3 hX3  σ _ hc1) (cwV 0 hts (gWV (List.mem_of_getElem? (i := 2) rfl) (List.mem_of_getElem? (i := 3) rfl) (List.mem_of_getElem? (i := 4) rfl) (List.mem_of_getElem? (i := 5) rfl) ic_X3_go_c_X2_clear gd_c_X2_clear) rfl rfl rfl (by decide +kernel) ⟨(Nat.le_of_ble_eq_true rfl), (Nat.le_of_ble_eq_true rfl)⟩) (wpV (q := (RX2, TX2, 7)) hP hK hD (oX2 hX3) rfl) rfl rfl hl.1 rfl (lv_room (Nat.le_of_ble_eq_true rfl)) dX3_go_4 ⟨(Nat.le_of_ble_eq_true rfl), (Nat.le_of_ble_eq_true rfl)⟩) hP hD hS hA (fun _ H locs hr2 hP hD hS => ?_)
  replace hP : va_P (dC, dI) vwCl (Wd 153 (cfC ad cI cT cS) σ1) H := hP
  replace hD : va_D A (Wd 153 (cfC ad cI cT cS) σ1) := hD
  refine lv_aload_n hx hb dX3_go_7 rfl (lv_at hl 0 rfl) ?_
  refine gf_X3_1 hX3 hx hb hts iw_X3_go_X3 hown hK hP (hts (.fieldLink RX3 12 "TraceTrees$Machine" "registers" "LTraceTrees$Registers;") (List.mem_of_getElem? (i := 6) rfl)) dX3_go_8 ?_
  refine lv_aload_n hx hb dX3_go_11 rfl (lv_at hl 1 rfl) ?_
  obtain ⟨σ3, hc3, h⟩ := obd_inv h
  refine wcallv (S := Unit) (va_runV (As := [.ref (ad k1)]) (rest := []) ⟨hx, hb, hml, hown, hts⟩ (c_X5_become l dC dI cI cT cS H.size ad (kX3 + 1) (isRg_M hX3) k1 hk1  σ1 _ hc3) (cwV 1 hts (gWV (List.mem_of_getElem? (i := 7) rfl) (List.mem_of_getElem? (i := 8) rfl) (List.mem_of_getElem? (i := 9) rfl) (List.mem_of_getElem? (i := 10) rfl) ic_X3_go_c_X5_become gd_c_X5_become) rfl rfl rfl (by decide +kernel) ⟨(Nat.le_of_ble_eq_true rfl), (Nat.le_of_ble_eq_true rfl)⟩) (wpV (q := (RX5, TX5, 2)) hP hK hD (oX5 (isRg_M hX3)) rfl) rfl rfl hl.1 rfl (lv_room (Nat.le_of_ble_eq_true rfl)) dX3_go_12 ⟨(Nat.le_of_ble_eq_true rfl), (Nat.le_of_ble_eq_true rfl)⟩) hP hD hS hA (fun _ H locs hr4 hP hD hS => ?_)
  replace hP : va_P (dC, dI) vwCl (Wd 153 (cfC ad cI cT cS) σ3) H := hP
  replace hD : va_D A (Wd 153 (cfC ad cI cT cS) σ3) := hD
  refine lv_aload_n hx hb dX3_go_15 rfl (lv_at hl 0 rfl) ?_
  refine lv_iload_n hx hb dX3_go_16 rfl (lv_at hl 3 rfl) ?_
  refine pf_X3_4 hX3 hx hb hts iw_X3_go_X3 hown hK hP hD hS (hts (.fieldLink RX3 43 "TraceTrees$Machine" "hot" "I") (List.mem_of_getElem? (i := 11) rfl)) dX3_go_17 (fun H locs hP hD hS => ?_)
  refine lv_aload_n hx hb dX3_go_20 rfl (lv_at hl 0 rfl) ?_
  refine lv_iconst (v := 0) hx hb dX3_go_21 (by decide) ?_
  refine pf_X3_7 hX3 hx hb hts iw_X3_go_X3 hown hK hP hD hS (hts (.fieldLink RX3 47 "TraceTrees$Machine" "steps" "I") (List.mem_of_getElem? (i := 12) rfl)) dX3_go_22 (fun H locs hP hD hS => ?_)
  refine lv_aload_n hx hb dX3_go_25 rfl (lv_at hl 0 rfl) ?_
  refine lv_iconst (v := 0) hx hb dX3_go_26 (by decide) ?_
  refine pf_X3_8 hX3 hx hb hts iw_X3_go_X3 hown hK hP hD hS (hts (.fieldLink RX3 50 "TraceTrees$Machine" "compiled" "I") (List.mem_of_getElem? (i := 13) rfl)) dX3_go_27 (fun H locs hP hD hS => ?_)
  refine lv_aload_n hx hb dX3_go_30 rfl (lv_at hl 0 rfl) ?_
  refine lv_iconst (v := 0) hx hb dX3_go_31 (by decide) ?_
  refine pf_X3_9 hX3 hx hb hts iw_X3_go_X3 hown hK hP hD hS (hts (.fieldLink RX3 53 "TraceTrees$Machine" "exits" "I") (List.mem_of_getElem? (i := 14) rfl)) dX3_go_32 (fun H locs hP hD hS => ?_)
  refine lv_aload_n hx hb dX3_go_35 rfl (lv_at hl 0 rfl) ?_
  refine lv_null hx hb dX3_go_36 ?_
  refine pf_X3_10 hX3 (x := -1) (rv_null ad rfl).symm hx hb hts iw_X3_go_X3 hown hK hP hD hS (hts (.fieldLink RX3 56 "TraceTrees$Machine" "current" "LTraceTrees$Trace;") (List.mem_of_getElem? (i := 15) rfl)) dX3_go_37 (fun H locs hP hD hS => ?_)
  refine lv_aload_n hx hb dX3_go_40 rfl (lv_at hl 0 rfl) ?_
  refine lv_iconst (v := 0) hx hb dX3_go_41 (by decide) ?_
  refine pf_X3_6 hX3 hx hb hts iw_X3_go_X3 hown hK hP hD hS (hts (.fieldLink RX3 60 "TraceTrees$Machine" "how" "I") (List.mem_of_getElem? (i := 16) rfl)) dX3_go_42 (fun H locs hP hD hS => ?_)
  refine lv_aload_n hx hb dX3_go_45 rfl (lv_at hl 0 rfl) ?_
  refine lv_iconst (v := 0) hx hb dX3_go_46 (by decide) ?_
  obtain ⟨q5, hc5, h⟩ := letb_inv h
  refine wcallv (S := Unit) (va_runV (As := [.int (0 : Int32)]) (rest := []) ⟨hx, hb, hml, hown, hts⟩ (c_X3_moveTo l dC dI cI cT cS H.size ad kX3 hX3 (0 : Int32) (su (su (su (su (su (su σ3 kX3 4 a3) kX3 7 (0 : Int32)) kX3 8 (0 : Int32)) kX3 9 (0 : Int32)) kX3 10 (-1)) kX3 6 (0 : Int32)) _ hc5) (cwV 1 hts (gWV (List.mem_of_getElem? (i := 17) rfl) (List.mem_of_getElem? (i := 18) rfl) (List.mem_of_getElem? (i := 19) rfl) (List.mem_of_getElem? (i := 20) rfl) ic_X3_go_c_X3_moveTo gd_c_X3_moveTo) rfl rfl rfl (by decide +kernel) ⟨(Nat.le_of_ble_eq_true rfl), (Nat.le_of_ble_eq_true rfl)⟩) (wpV (q := (RX3, TX3, 12)) hP hK hD (oX3 hX3) rfl) rfl rfl hl.1 rfl (lv_room (Nat.le_of_ble_eq_true rfl)) dX3_go_47 ⟨(Nat.le_of_ble_eq_true rfl), (Nat.le_of_ble_eq_true rfl)⟩) hP hD hS hA (fun _ H locs hr6 hP hD hS => ?_)
  replace hP : va_P (dC, dI) vwCl (Wd 153 (cfC ad cI cT cS) q5) H := hP
  replace hD : va_D A (Wd 153 (cfC ad cI cT cS) q5) := hD
  refine lv_iconst (v := 0) hx hb dX3_go_50 (by decide) ?_
  refine lv_istore (lv' := [(4, .int (0 : Int32)), (0, .ref (ad kX3)), (1, .ref (ad k1)), (2, .int a2), (3, .int a3)]) hx hb dX3_go_51 hl (by decide) rfl (fun ls hl => ?_)
  obtain ⟨y53, hlp53, h⟩ := obd_inv h
  refine lp_W (fun x53 : Int32 × Sg => ∀ (H : Heap) (locs : List Loc) (ls : Array Slot), va_P (dC, dI) vwCl (Wd 153 (cfC ad cI cT cS) x53.2) H → va_D A (Wd 153 (cfC ad cI cT cS) x53.2) → va_S A s.heap H locs → lv_has ls 5 [(4, .int x53.1), (0, .ref (ad kX3)), (2, .int a2)] → W p l e (headSpec vc_X3_go { frames := 6, cells := 0, slots := 0, locals := 162 }).room s m (List.toArray (α := Value) [.ref (ad kX3), .ref (ad k1), .int a2, .int a3]) below meth c H locs 0 0 (MQ below (va_Qv (fun (_ : Unit) => True) (gB (dC, dI) A (fun (_ : Unit) => (Wd 153 (cfC ad cI cT cS) o))) A) (List.toArray (α := Value) [.ref (ad kX3), .ref (ad k1), .int a2, .int a3]) s 0 0 A) (F0 m 53 ls [])) (fun y53 : Int32 × Sg => ∀ (H : Heap) (locs : List Loc) (ls : Array Slot), va_P (dC, dI) vwCl (Wd 153 (cfC ad cI cT cS) y53.2) H → va_D A (Wd 153 (cfC ad cI cT cS) y53.2) → va_S A s.heap H locs → lv_has ls 5 [(0, .ref (ad kX3))] → W p l e (headSpec vc_X3_go { frames := 6, cells := 0, slots := 0, locals := 162 }).room s m (List.toArray (α := Value) [.ref (ad kX3), .ref (ad k1), .int a2, .int a3]) below meth c H locs 0 0 (MQ below (va_Qv (fun (_ : Unit) => True) (gB (dC, dI) A (fun (_ : Unit) => (Wd 153 (cfC ad cI cT cS) o))) A) (List.toArray (α := Value) [.ref (ad kX3), .ref (ad k1), .int a2, .int a3]) s 0 0 A) (F0 m 99 ls [])) ?_ 1000 ((0 : Int32), q5) y53 hlp53 ?_ H locs ls hP hD hS (lv_sub (l' := [(4, .int (0 : Int32)), (0, .ref (ad kX3)), (2, .int a2)]) hl [0, 1, 3] rfl)
  · intro x53 yy53 h ht53 hf53 H locs ls hP hD hS hl
    unfold zl_X3_go_53 at h
    refine lv_iload hx hb dX3_go_53 (lv_at hl 0 rfl) ?_
    refine lv_iload_n hx hb dX3_go_55 rfl (lv_at hl 2 rfl) ?_
    refine lv_icmp_ge (tgt := 99) hx hb dX3_go_56 (by decide) (fun c7 => ?_) (fun c7 => ?_)
    · replace h := ifp (c7) h
      obtain rfl := Option.some.inj h
      exact hf53 rfl H locs ls hP hD hS (lv_sub (l' := [(0, .ref (ad kX3))]) hl [1] rfl)
    · replace h := ifn (c7) h
      refine lv_aload_n hx hb dX3_go_59 rfl (lv_at hl 1 rfl) ?_
      refine gf_X3_6 hX3 hx hb hts iw_X3_go_X3 hown hK hP (hts (.fieldLink RX3 60 "TraceTrees$Machine" "how" "I") (List.mem_of_getElem? (i := 16) rfl)) dX3_go_60 ?_
      refine lv_if_ne (tgt := 99) hx hb dX3_go_63 (by decide) (fun c8 => ?_) (fun c8 => ?_)
      · replace h := ifn (c8) h
        obtain rfl := Option.some.inj h
        exact hf53 rfl H locs ls hP hD hS (lv_sub (l' := [(0, .ref (ad kX3))]) hl [1] rfl)
      · replace h := ifp (c8) h
        refine lv_aload_n hx hb dX3_go_66 rfl (lv_at hl 1 rfl) ?_
        refine gf_X3_3 hX3 hx hb hts iw_X3_go_X3 hown hK hP (hts (.fieldLink RX3 28 "TraceTrees$Machine" "effect" "LTraceTrees$Effect;") (List.mem_of_getElem? (i := 21) rfl)) dX3_go_67 ?_
        refine lv_aload_n hx hb dX3_go_70 rfl (lv_at hl 1 rfl) ?_
        refine gf_X3_0 hX3 hx hb hts iw_X3_go_X3 hown hK hP (hts (.fieldLink RX3 32 "TraceTrees$Machine" "program" "LTraceTrees$Program;") (List.mem_of_getElem? (i := 22) rfl)) dX3_go_71 ?_
        refine lv_aload_n hx hb dX3_go_74 rfl (lv_at hl 1 rfl) ?_
        refine gf_X3_5 hX3 hx hb hts iw_X3_go_X3 hown hK hP (hts (.fieldLink RX3 67 "TraceTrees$Machine" "point" "I") (List.mem_of_getElem? (i := 23) rfl)) dX3_go_75 ?_
        refine lv_aload_n hx hb dX3_go_78 rfl (lv_at hl 1 rfl) ?_
        refine gf_X3_1 hX3 hx hb hts iw_X3_go_X3 hown hK hP (hts (.fieldLink RX3 12 "TraceTrees$Machine" "registers" "LTraceTrees$Registers;") (List.mem_of_getElem? (i := 6) rfl)) dX3_go_79 ?_
        obtain ⟨σ9, hc9, h⟩ := obd_inv h
        refine wcallv (S := Unit) (va_runV (As := [.ref (ad 1), .int (x53.2 kX3 5), .ref (ad (kX3 + 1))]) (rest := []) ⟨hx, hb, hml, hown, hts⟩ (c_X0_foresee l dC dI cI cT cS H.size ad kX3 hX3 (kX3 + 1) (isRg_M hX3) (x53.2 kX3 5) x53.2 _ hc9) (cwV 3 hts (gWV (List.mem_of_getElem? (i := 24) rfl) (List.mem_of_getElem? (i := 25) rfl) (List.mem_of_getElem? (i := 26) rfl) (List.mem_of_getElem? (i := 27) rfl) ic_X3_go_c_X0_foresee gd_c_X0_foresee) rfl rfl rfl (by decide +kernel) ⟨(Nat.le_of_ble_eq_true rfl), (Nat.le_of_ble_eq_true rfl)⟩) (wpV (q := (RX0, TX0, 6)) hP hK hD (oX0 hX3) rfl) rfl rfl hl.1 rfl (lv_room (Nat.le_of_ble_eq_true rfl)) dX3_go_82 ⟨(Nat.le_of_ble_eq_true rfl), (Nat.le_of_ble_eq_true rfl)⟩) hP hD hS hA (fun _ H locs hr10 hP hD hS => ?_)
        replace hP : va_P (dC, dI) vwCl (Wd 153 (cfC ad cI cT cS) σ9) H := hP
        replace hD : va_D A (Wd 153 (cfC ad cI cT cS) σ9) := hD
        refine lv_aload_n hx hb dX3_go_85 rfl (lv_at hl 1 rfl) ?_
        obtain ⟨σ11, hc11, h⟩ := obd_inv h
        refine wcallv (S := Unit) (va_runV (As := []) (rest := []) ⟨hx, hb, hml, hown, hts⟩ (c_X3_getReady l dC dI cI cT cS H.size ad kX3 hX3  σ9 _ hc11) (cwV 0 hts (gWV (List.mem_of_getElem? (i := 28) rfl) (List.mem_of_getElem? (i := 29) rfl) (List.mem_of_getElem? (i := 30) rfl) (List.mem_of_getElem? (i := 20) rfl) ic_X3_go_c_X3_getReady gd_c_X3_getReady) rfl rfl rfl (by decide +kernel) ⟨(Nat.le_of_ble_eq_true rfl), (Nat.le_of_ble_eq_true rfl)⟩) (wpV (q := (RX3, TX3, 12)) hP hK hD (oX3 hX3) rfl) rfl rfl hl.1 rfl (lv_room (Nat.le_of_ble_eq_true rfl)) dX3_go_86 ⟨(Nat.le_of_ble_eq_true rfl), (Nat.le_of_ble_eq_true rfl)⟩) hP hD hS hA (fun _ H locs hr12 hP hD hS => ?_)
        replace hP : va_P (dC, dI) vwCl (Wd 153 (cfC ad cI cT cS) σ11) H := hP
        replace hD : va_D A (Wd 153 (cfC ad cI cT cS) σ11) := hD
        refine lv_aload_n hx hb dX3_go_89 rfl (lv_at hl 1 rfl) ?_
        obtain ⟨σ13, hc13, h⟩ := obd_inv h
        refine wcallv (S := Unit) (va_runV (As := []) (rest := []) ⟨hx, hb, hml, hown, hts⟩ (c_X3_doStep l dC dI cI cT cS H.size ad kX3 hX3  σ11 _ hc13) (cwV 0 hts (gWV (List.mem_of_getElem? (i := 31) rfl) (List.mem_of_getElem? (i := 32) rfl) (List.mem_of_getElem? (i := 33) rfl) (List.mem_of_getElem? (i := 20) rfl) ic_X3_go_c_X3_doStep gd_c_X3_doStep) rfl rfl rfl (by decide +kernel) ⟨(Nat.le_of_ble_eq_true rfl), (Nat.le_of_ble_eq_true rfl)⟩) (wpV (q := (RX3, TX3, 12)) hP hK hD (oX3 hX3) rfl) rfl rfl hl.1 rfl (lv_room (Nat.le_of_ble_eq_true rfl)) dX3_go_90 ⟨(Nat.le_of_ble_eq_true rfl), (Nat.le_of_ble_eq_true rfl)⟩) hP hD hS hA (fun _ H locs hr14 hP hD hS => ?_)
        replace hP : va_P (dC, dI) vwCl (Wd 153 (cfC ad cI cT cS) σ13) H := hP
        replace hD : va_D A (Wd 153 (cfC ad cI cT cS) σ13) := hD
        refine lv_iinc (v := (x53.1 + (1 : Int32))) (lv' := [(4, .int (x53.1 + (1 : Int32))), (0, .ref (ad kX3)), (2, .int a2)]) hx hb dX3_go_93 hl (k := 0) rfl rfl (by decide) rfl (fun ls hl => ?_)
        refine lv_goto (tgt := 53) hx hb dX3_go_96 (by decide) ?_
        obtain rfl := Option.some.inj h
        exact ht53 rfl H locs ls hP hD hS (lv_sub (l' := [(4, .int (x53.1 + (1 : Int32))), (0, .ref (ad kX3)), (2, .int a2)]) hl [0, 1, 2] rfl)
  · intro H locs ls hP hD hS hl
    refine lv_aload_n hx hb dX3_go_99 rfl (lv_at hl 0 rfl) ?_
    refine gf_X3_2 hX3 hx hb hts iw_X3_go_X3 hown hK hP (hts (.fieldLink RX3 21 "TraceTrees$Machine" "forest" "LTraceTrees$Forest;") (List.mem_of_getElem? (i := 1) rfl)) dX3_go_100 ?_
    obtain ⟨σ15, hc15, h⟩ := obd_inv h
    refine wcallv (S := Unit) (va_runV (As := []) (rest := []) ⟨hx, hb, hml, hown, hts⟩ (c_X2_drop l dC dI cI cT cS H.size ad kX3 hX3  y53.2 _ hc15) (cwV 0 hts (gWV (List.mem_of_getElem? (i := 34) rfl) (List.mem_of_getElem? (i := 35) rfl) (List.mem_of_getElem? (i := 36) rfl) (List.mem_of_getElem? (i := 5) rfl) ic_X3_go_c_X2_drop gd_c_X2_drop) rfl rfl rfl (by decide +kernel) ⟨(Nat.le_of_ble_eq_true rfl), (Nat.le_of_ble_eq_true rfl)⟩) (wpV (q := (RX2, TX2, 7)) hP hK hD (oX2 hX3) rfl) rfl rfl hl.1 rfl (lv_room (Nat.le_of_ble_eq_true rfl)) dX3_go_103 ⟨(Nat.le_of_ble_eq_true rfl), (Nat.le_of_ble_eq_true rfl)⟩) hP hD hS hA (fun _ H locs hr16 hP hD hS => ?_)
    replace hP : va_P (dC, dI) vwCl (Wd 153 (cfC ad cI cT cS) σ15) H := hP
    replace hD : va_D A (Wd 153 (cfC ad cI cT cS) σ15) := hD
    have h9 := Option.some.inj h
    exact wretv hx hb hr hlocks hP hD hS trivial (by rw [← h9]) dX3_go_106
