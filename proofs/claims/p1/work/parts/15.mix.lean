def oc_X9_mixTrace : List Cond := [.constantLong RX9 205 (31), .methodLink RX9 143 yX9_writtenBy, .instanceMethod yX9_writtenBy, .selects RX9 yX9_writtenBy yX9_writtenBy, .initialized RX9, .methodLink RX9 140 yX9_snapshotFact, .instanceMethod yX9_snapshotFact, .selects RX9 yX9_snapshotFact yX9_snapshotFact, .methodLink RX9 133 yX9_entryFact, .instanceMethod yX9_entryFact, .selects RX9 yX9_entryFact yX9_entryFact, .methodLink RX9 137 yX9_checkFact, .instanceMethod yX9_checkFact, .selects RX9 yX9_checkFact yX9_checkFact, .methodLink RX9 130 yX9_traceFact, .instanceMethod yX9_traceFact, .selects RX9 yX9_traceFact yX9_traceFact]
def vc_X9_mixTrace : List Cond := .code yX9_mixTrace cX9_mixTrace 8 (some .long) :: (oc_X9_mixTrace ++ (vc_X9_writtenBy ++ (vc_X9_snapshotFact ++ (vc_X9_entryFact ++ (vc_X9_checkFact ++ (vc_X9_traceFact))))))
theorem ic_c_X9_mixTrace_c_X9_writtenBy : ∀ w ∈ vc_X9_writtenBy, w ∈ vc_X9_mixTrace := fun _ h => List.mem_cons_of_mem _ (List.mem_append_right _ (List.mem_append_left _ h))
theorem ic_c_X9_mixTrace_c_X9_snapshotFact : ∀ w ∈ vc_X9_snapshotFact, w ∈ vc_X9_mixTrace := fun _ h => List.mem_cons_of_mem _ (List.mem_append_right _ (List.mem_append_right _ (List.mem_append_left _ h)))
theorem ic_c_X9_mixTrace_c_X9_entryFact : ∀ w ∈ vc_X9_entryFact, w ∈ vc_X9_mixTrace := fun _ h => List.mem_cons_of_mem _ (List.mem_append_right _ (List.mem_append_right _ (List.mem_append_right _ (List.mem_append_left _ h))))
theorem ic_c_X9_mixTrace_c_X9_checkFact : ∀ w ∈ vc_X9_checkFact, w ∈ vc_X9_mixTrace := fun _ h => List.mem_cons_of_mem _ (List.mem_append_right _ (List.mem_append_right _ (List.mem_append_right _ (List.mem_append_right _ (List.mem_append_left _ h)))))
theorem ic_c_X9_mixTrace_c_X9_traceFact : ∀ w ∈ vc_X9_traceFact, w ∈ vc_X9_mixTrace := fun _ h => List.mem_cons_of_mem _ (List.mem_append_right _ (List.mem_append_right _ (List.mem_append_right _ (List.mem_append_right _ (List.mem_append_right _ (h))))))
theorem gd_c_X9_mixTrace : (vc_X9_mixTrace).all goodWord = true := by decide +kernel
set_option maxHeartbeats 4000000 in
set_option maxRecDepth 100000 in
theorem c_X9_mixTrace (l : Launch) (dC : Nat → ClassId) (dI : Nat → Nat → Nat) (cI cT cS : ClassId) (sz : Nat) (h0 : Nat) (qp : Nat) (ql : Nat) (qs : Nat) (qm : Nat) (qt : Nat) (qe : Nat) (mr : Nat) (mf : Nat) (mt : Nat) (mh : Nat) (md : Nat) (mo : Nat) (me : Nat) (li : Int32) (ho : Int32) (fi : Int32) (f1 : Int32) (f2 : Int32) (f3 : Int32) (bh : Int32) (bc : Int32) (hot0 : Int32) (pt0 : Int32) (how0 : Int32) (st0 : Int32) (co0 : Int32) (ex0 : Int32) (at0 : Int32) (d0 : Int32) (p1 : Int64) (p3 : Int32)  : gCL (S := Unit) l yX9_mixTrace vc_X9_mixTrace ({ frames := 3, cells := 0, slots := 0, locals := 68 }) (dC, dI) (gTY cI cT cS) sz [.ref h0, .long p1, .int p3] [(h0, .inr (7, [.ref qp, .ref ql, .ref qs, .ref qm, .ref qt, .ref qe, .int li, .int ho, .int fi, .int f1, .int f2, .int f3, .int bh, .int bc])), (qm, .inr (2, [.ref qp, .ref mr, .ref mf, .ref me, .int hot0, .int pt0, .int how0, .int st0, .int co0, .int ex0, .null, .int at0])), (mf, .inr (1, [.ref mt, .ref mh, .ref md, .ref mo, .int 0, .int d0, .null]))] (fun r u => r = mixB 137 p1) (fun _ => [(h0, .inr (7, [.ref qp, .ref ql, .ref qs, .ref qm, .ref qt, .ref qe, .int li, .int ho, .int fi, .int f1, .int f2, .int f3, .int bh, .int bc])), (qm, .inr (2, [.ref qp, .ref mr, .ref mf, .ref me, .int hot0, .int pt0, .int how0, .int st0, .int co0, .int ex0, .null, .int at0])), (mf, .inr (1, [.ref mt, .ref mh, .ref md, .ref mo, .int 0, .int d0, .null]))]) 0 0 := by
  refine Met.ofW (cc := cX9_mixTrace) (maxL := 8) (ret := (some .long)) (by decide) rfl ?_
  intro p e s m args below meth c s₁ B hml hv
  obtain ⟨rfl, hsz, hP, hK, hD0⟩ := hv
  have hx := B.exec
  have hb := B.bytes
  have hr := B.returns
  have hts := atoms_spec (ws := vc_X9_mixTrace) B.pre
  have hown : s.vm.findClass RX9 = some m.cls := findClass_of_methodNamed B.named
  have hlocks := B.notSynchronized
  subst hsz
  have hD := hD0.self (sz := s.heap.size)
  generalize hAe : va_A [(h0, .inr (7, [.ref qp, .ref ql, .ref qs, .ref qm, .ref qt, .ref qe, .int li, .int ho, .int fi, .int f1, .int f2, .int f3, .int bh, .int bc])), (qm, .inr (2, [.ref qp, .ref mr, .ref mf, .ref me, .int hot0, .int pt0, .int how0, .int st0, .int co0, .int ex0, .null, .int at0])), (mf, .inr (1, [.ref mt, .ref mh, .ref md, .ref mo, .int 0, .int d0, .null]))] s.heap.size = A at hD ⊢
  have hA : ∀ q : Nat, s.heap.size ≤ q → A q := fun q h => by rw [← hAe]; exact Or.inr h
  refine gstart (fun H locs hHe hLe => ?_)
  have hS : va_S A s.heap H locs := by rw [← hHe, ← hLe]; exact va_S.rf
  replace hP : va_P (dC, dI) vwCl [(h0, .inr (7, [.ref qp, .ref ql, .ref qs, .ref qm, .ref qt, .ref qe, .int li, .int ho, .int fi, .int f1, .int f2, .int f3, .int bh, .int bc])), (qm, .inr (2, [.ref qp, .ref mr, .ref mf, .ref me, .int hot0, .int pt0, .int how0, .int st0, .int co0, .int ex0, .null, .int at0])), (mf, .inr (1, [.ref mt, .ref mh, .ref md, .ref mo, .int 0, .int d0, .null]))] H := by rw [← hHe]; exact hP
  clear hHe hLe
  have hl := lv_entry ([.ref h0, .long p1, .int p3]) (n := 8) (Nat.le_of_ble_eq_true rfl)
  rw [lg_entry_eq]
  generalize (lg_sl ([.ref h0, .long p1, .int p3]) ++ List.replicate (8 - (lg_sl ([.ref h0, .long p1, .int p3])).length) Slot.unset).toArray = ls at hl ⊢
  replace hl : lv_has ls 8 [(0, .ref h0), (1, .long p1), (3, .int p3)] := hl
  refine lv_lload_n hx hb dX9_mixTrace_0 rfl (lv_at hl 1 rfl) ?_
  refine lv_lstore (lv' := [(4, .long p1), (0, .ref h0), (1, .long p1), (3, .int p3)]) hx hb dX9_mixTrace_1 hl (by decide) rfl (fun ls hl => ?_)
  refine lv_iconst (v := 0) hx hb dX9_mixTrace_3 (by decide) ?_
  refine lv_istore (lv' := [(6, .int 0), (4, .long p1), (0, .ref h0), (1, .long p1), (3, .int p3)]) hx hb dX9_mixTrace_4 hl (by decide) rfl (fun ls hl => ?_)
  obtain ⟨x1, ex1⟩ : ∃ x : Int32, x = nI 0 := ⟨_, rfl⟩
  obtain ⟨a1_0, ea1_0⟩ : ∃ y : Int64, y = p1 := ⟨_, rfl⟩
  replace hl : lv_has ls 8 [(6, .int x1), (4, .long a1_0), (0, .ref h0), (1, .long p1), (3, .int p3)] := by rw [ex1, ea1_0]; exact hl
  replace ea1_0 : a1_0 = mixB 0 p1 := ea1_0.trans (rfl)
  obtain ⟨i1, hi1b, ex1b, ea1_0b⟩ : ∃ j : Nat, j ≤ 5 ∧ x1 = nI j ∧ a1_0 = mixB j p1 := ⟨0, by first | decide | omega, ex1, ea1_0⟩
  clear ex1 ea1_0
  obtain ⟨n1, hn1⟩ : ∃ n : Nat, 5 + 1 ≤ i1 + n := ⟨5 + 1, by omega⟩
  induction n1 generalizing i1 x1 a1_0 H locs ls with
  | zero => exact absurd hn1 (by omega)
  | succ n1 ih1 =>
    refine lv_iload hx hb dX9_mixTrace_6 (lv_at hl 0 rfl) ?_
    refine lv_iconst (v := 5) hx hb dX9_mixTrace_8 (by decide) ?_
    refine lv_icmp_ge (tgt := 35) hx hb dX9_mixTrace_9 (by decide) (fun c_2 => ?_) (fun c_2 => ?_)
    · skip
      have gc_2 : i1 = 5 := g_lx 5 (by first | rfl | decide | assumption) ex1b hi1b (by first | decide | omega) c_2
      subst gc_2
      refine lv_iconst (v := 0) hx hb dX9_mixTrace_35 (by decide) ?_
      refine lv_istore (lv' := [(6, .int 0), (4, .long a1_0), (0, .ref h0), (1, .long p1), (3, .int p3)]) hx hb dX9_mixTrace_36 hl (by decide) rfl (fun ls hl => ?_)
      obtain ⟨x3, ex3⟩ : ∃ x : Int32, x = nI 0 := ⟨_, rfl⟩
      obtain ⟨a3_0, ea3_0⟩ : ∃ y : Int64, y = a1_0 := ⟨_, rfl⟩
      replace hl : lv_has ls 8 [(6, .int x3), (4, .long a3_0), (0, .ref h0), (1, .long p1), (3, .int p3)] := by rw [ex3, ea3_0]; exact hl
      replace ea3_0 : a3_0 = mixB (5 + 0) p1 := ea3_0.trans (ea1_0b)
      obtain ⟨i3, hi3b, ex3b, ea3_0b⟩ : ∃ j : Nat, j ≤ 3 ∧ x3 = nI j ∧ a3_0 = mixB (5 + j) p1 := ⟨0, by first | decide | omega, ex3, ea3_0⟩
      clear ex3 ea3_0
      obtain ⟨n3, hn3⟩ : ∃ n : Nat, 3 + 1 ≤ i3 + n := ⟨3 + 1, by omega⟩
      induction n3 generalizing i3 x3 a3_0 H locs ls with
      | zero => exact absurd hn3 (by omega)
      | succ n3 ih3 =>
        refine lv_iload hx hb dX9_mixTrace_38 (lv_at hl 0 rfl) ?_
        refine lv_iconst (v := 3) hx hb dX9_mixTrace_40 (by decide) ?_
        refine lv_icmp_ge (tgt := 67) hx hb dX9_mixTrace_41 (by decide) (fun c_4 => ?_) (fun c_4 => ?_)
        · skip
          have gc_4 : i3 = 3 := g_lx 3 (by first | rfl | decide | assumption) ex3b hi3b (by first | decide | omega) c_4
          subst gc_4
          refine lv_ldc2 (v := 31) hx hb hown (hts (.constantLong RX9 205 (31)) (List.mem_of_getElem? (i := 1) rfl)) dX9_mixTrace_67 ?_
          refine lv_lload hx hb dX9_mixTrace_70 (lv_at hl 1 rfl) ?_
          refine lv_lmul hx hb dX9_mixTrace_72 ?_
          refine lv_topl (fun x_5 ex_5 => ?_)
          refine lv_aload_n hx hb dX9_mixTrace_73 rfl (lv_at hl 2 rfl) ?_
          refine lv_iload_n hx hb dX9_mixTrace_74 rfl (lv_at hl 4 rfl) ?_
          refine gcalli (S := Unit) (wc := [(h0, .inr (7, [.ref qp, .ref ql, .ref qs, .ref qm, .ref qt, .ref qe, .int li, .int ho, .int fi, .int f1, .int f2, .int f3, .int bh, .int bc])), (qm, .inr (2, [.ref qp, .ref mr, .ref mf, .ref me, .int hot0, .int pt0, .int how0, .int st0, .int co0, .int ex0, .null, .int at0])), (mf, .inr (1, [.ref mt, .ref mh, .ref md, .ref mo, .int 0, .int d0, .null]))]) (wr := []) (w1 := fun _ => [(h0, .inr (7, [.ref qp, .ref ql, .ref qs, .ref qm, .ref qt, .ref qe, .int li, .int ho, .int fi, .int f1, .int f2, .int f3, .int bh, .int bc])), (qm, .inr (2, [.ref qp, .ref mr, .ref mf, .ref me, .int hot0, .int pt0, .int how0, .int st0, .int co0, .int ex0, .null, .int at0])), (mf, .inr (1, [.ref mt, .ref mh, .ref md, .ref mo, .int 0, .int d0, .null]))]) (va_runV (As := [.int p3]) (rest := [.long x_5]) ⟨hx, hb, hml, hown, hts⟩ (c_X9_writtenBy l dC dI cI cT cS H.size h0 qp ql qs qm qt qe mr mf mt mh md mo me li ho fi f1 f2 f3 bh bc hot0 pt0 how0 st0 co0 ex0 at0 d0 p3 ) (cwV 1 hts (gWV (List.mem_of_getElem? (i := 2) rfl) (List.mem_of_getElem? (i := 3) rfl) (List.mem_of_getElem? (i := 4) rfl) (List.mem_of_getElem? (i := 5) rfl) ic_c_X9_mixTrace_c_X9_writtenBy gd_c_X9_writtenBy) rfl rfl rfl (by decide +kernel) ⟨(Nat.le_of_ble_eq_true rfl), (Nat.le_of_ble_eq_true rfl)⟩) (gpV 0 7 (hP.sub (ws' := [(h0, .inr (7, [.ref qp, .ref ql, .ref qs, .ref qm, .ref qt, .ref qe, .int li, .int ho, .int fi, .int f1, .int f2, .int f3, .int bh, .int bc])), (qm, .inr (2, [.ref qp, .ref mr, .ref mf, .ref me, .int hot0, .int pt0, .int how0, .int st0, .int co0, .int ex0, .null, .int at0])), (mf, .inr (1, [.ref mt, .ref mh, .ref md, .ref mo, .int 0, .int d0, .null]))]) [0, 1, 2] rfl) hK (hD.sub (ws' := [(h0, .inr (7, [.ref qp, .ref ql, .ref qs, .ref qm, .ref qt, .ref qe, .int li, .int ho, .int fi, .int f1, .int f2, .int f3, .int bh, .int bc])), (qm, .inr (2, [.ref qp, .ref mr, .ref mf, .ref me, .int hot0, .int pt0, .int how0, .int st0, .int co0, .int ex0, .null, .int at0])), (mf, .inr (1, [.ref mt, .ref mh, .ref md, .ref mo, .int 0, .int d0, .null]))]) [0, 1, 2] (by decide) rfl) rfl rfl) rfl rfl hl.1 rfl (lv_room (Nat.le_of_ble_eq_true rfl)) dX9_mixTrace_75 ⟨(Nat.le_of_ble_eq_true rfl), (Nat.le_of_ble_eq_true rfl)⟩) hP hD hS hA [0, 1, 2] [] rfl rfl (by decide) (by decide) (fun r_6 ur_6 H locs wr_6 hP hD hS => ?_)
          replace hP : va_P (dC, dI) vwCl [(h0, .inr (7, [.ref qp, .ref ql, .ref qs, .ref qm, .ref qt, .ref qe, .int li, .int ho, .int fi, .int f1, .int f2, .int f3, .int bh, .int bc])), (qm, .inr (2, [.ref qp, .ref mr, .ref mf, .ref me, .int hot0, .int pt0, .int how0, .int st0, .int co0, .int ex0, .null, .int at0])), (mf, .inr (1, [.ref mt, .ref mh, .ref md, .ref mo, .int 0, .int d0, .null]))] H := hP
          replace hD : va_D A [(h0, .inr (7, [.ref qp, .ref ql, .ref qs, .ref qm, .ref qt, .ref qe, .int li, .int ho, .int fi, .int f1, .int f2, .int f3, .int bh, .int bc])), (qm, .inr (2, [.ref qp, .ref mr, .ref mf, .ref me, .int hot0, .int pt0, .int how0, .int st0, .int co0, .int ex0, .null, .int at0])), (mf, .inr (1, [.ref mt, .ref mh, .ref md, .ref mo, .int 0, .int d0, .null]))] := hD
          obtain rfl : r_6 = (-2) := (wr_6)
          refine lv_i2l (v := (-2)) hx hb dX9_mixTrace_78 (by decide) ?_
          refine lv_ladd hx hb dX9_mixTrace_79 ?_
          refine lv_topl (fun x_7 ex_7 => ?_)
          refine lv_lstore (lv' := [(4, .long x_7), (6, .int x3), (0, .ref h0), (1, .long p1), (3, .int p3)]) hx hb dX9_mixTrace_80 hl (by decide) rfl (fun ls hl => ?_)
          refine lv_iconst (v := 0) hx hb dX9_mixTrace_82 (by decide) ?_
          refine lv_istore (lv' := [(6, .int 0), (4, .long x_7), (0, .ref h0), (1, .long p1), (3, .int p3)]) hx hb dX9_mixTrace_83 hl (by decide) rfl (fun ls hl => ?_)
          obtain ⟨x8, ex8⟩ : ∃ x : Int32, x = nI 0 := ⟨_, rfl⟩
          obtain ⟨a8_0, ea8_0⟩ : ∃ y : Int64, y = x_7 := ⟨_, rfl⟩
          replace hl : lv_has ls 8 [(6, .int x8), (4, .long a8_0), (0, .ref h0), (1, .long p1), (3, .int p3)] := by rw [ex8, ea8_0]; exact hl
          replace ea8_0 : a8_0 = mixB (9 + 8 * 0) p1 := ea8_0.trans (by simp only [ex_7, ex_5, ea3_0b, ea1_0b]; rfl)
          obtain ⟨i8, hi8b, ex8b, ea8_0b⟩ : ∃ j : Nat, j ≤ 16 ∧ x8 = nI j ∧ a8_0 = mixB (9 + 8 * j) p1 := ⟨0, by first | decide | omega, ex8, ea8_0⟩
          clear ex8 ea8_0
          obtain ⟨n8, hn8⟩ : ∃ n : Nat, 16 + 1 ≤ i8 + n := ⟨16 + 1, by omega⟩
          induction n8 generalizing i8 x8 a8_0 H locs ls with
          | zero => exact absurd hn8 (by omega)
          | succ n8 ih8 =>
            refine lv_iload hx hb dX9_mixTrace_85 (lv_at hl 0 rfl) ?_
            refine lv_bipush (v := 16) hx hb dX9_mixTrace_87 (by decide) ?_
            refine lv_icmp_ge (tgt := 169) hx hb dX9_mixTrace_89 (by decide) (fun c_9 => ?_) (fun c_9 => ?_)
            · skip
              have gc_9 : i8 = 16 := g_lx 16 (by first | rfl | decide | assumption) ex8b hi8b (by first | decide | omega) c_9
              subst gc_9
              refine lv_lload hx hb dX9_mixTrace_169 (lv_at hl 1 rfl) ?_
              refine W.widen (k := 0) (n := 0) (Nat.le_of_ble_eq_true rfl) (Nat.le_of_ble_eq_true rfl) ?_
              have hP9 := hP.sub (ws' := [(h0, .inr (7, [.ref qp, .ref ql, .ref qs, .ref qm, .ref qt, .ref qe, .int li, .int ho, .int fi, .int f1, .int f2, .int f3, .int bh, .int bc])), (qm, .inr (2, [.ref qp, .ref mr, .ref mf, .ref me, .int hot0, .int pt0, .int how0, .int st0, .int co0, .int ex0, .null, .int at0])), (mf, .inr (1, [.ref mt, .ref mh, .ref md, .ref mo, .int 0, .int d0, .null]))]) [0, 1, 2] rfl
              have hD9 := hD.sub (ws' := [(h0, .inr (7, [.ref qp, .ref ql, .ref qs, .ref qm, .ref qt, .ref qe, .int li, .int ho, .int fi, .int f1, .int f2, .int f3, .int bh, .int bc])), (qm, .inr (2, [.ref qp, .ref mr, .ref mf, .ref me, .int hot0, .int pt0, .int how0, .int st0, .int co0, .int ex0, .null, .int at0])), (mf, .inr (1, [.ref mt, .ref mh, .ref md, .ref mo, .int 0, .int d0, .null]))]) [0, 1, 2] (by decide) rfl
              exact W.lret (v := a8_0) hx hb hr (fun t ht hW => ⟨⟨a8_0, (), rfl, ea8_0b, by rw [ht]; exact hP9, hD9⟩, hS.F ht⟩) hS.2.2 dX9_mixTrace_171
            · skip
              have gc_9 : i8 < 16 := g_ln 16 (by first | rfl | decide | assumption) ex8b hi8b (by first | decide | omega) c_9
              refine lv_iconst (v := 0) hx hb dX9_mixTrace_92 (by decide) ?_
              refine lv_istore (lv' := [(7, .int 0), (6, .int x8), (4, .long a8_0), (0, .ref h0), (1, .long p1), (3, .int p3)]) hx hb dX9_mixTrace_93 hl (by decide) rfl (fun ls hl => ?_)
              obtain ⟨x10, ex10⟩ : ∃ x : Int32, x = nI 0 := ⟨_, rfl⟩
              obtain ⟨a10_0, ea10_0⟩ : ∃ y : Int64, y = a8_0 := ⟨_, rfl⟩
              replace hl : lv_has ls 8 [(7, .int x10), (6, .int x8), (4, .long a10_0), (0, .ref h0), (1, .long p1), (3, .int p3)] := by rw [ex10, ea10_0]; exact hl
              replace ea10_0 : a10_0 = mixB (9 + 8 * i8 + 0) p1 := ea10_0.trans (ea8_0b)
              obtain ⟨i10, hi10b, ex10b, ea10_0b⟩ : ∃ j : Nat, j ≤ 6 ∧ x10 = nI j ∧ a10_0 = mixB (9 + 8 * i8 + j) p1 := ⟨0, by first | decide | omega, ex10, ea10_0⟩
              clear ex10 ea10_0
              obtain ⟨n10, hn10⟩ : ∃ n : Nat, 6 + 1 ≤ i10 + n := ⟨6 + 1, by omega⟩
              induction n10 generalizing i10 x10 a10_0 H locs ls with
              | zero => exact absurd hn10 (by omega)
              | succ n10 ih10 =>
                refine lv_iload hx hb dX9_mixTrace_95 (lv_at hl 0 rfl) ?_
                refine lv_bipush (v := 6) hx hb dX9_mixTrace_97 (by decide) ?_
                refine lv_icmp_ge (tgt := 127) hx hb dX9_mixTrace_99 (by decide) (fun c_11 => ?_) (fun c_11 => ?_)
                · skip
                  have gc_11 : i10 = 6 := g_lx 6 (by first | rfl | decide | assumption) ex10b hi10b (by first | decide | omega) c_11
                  subst gc_11
                  refine lv_ldc2 (v := 31) hx hb hown (hts (.constantLong RX9 205 (31)) (List.mem_of_getElem? (i := 1) rfl)) dX9_mixTrace_127 ?_
                  refine lv_lload hx hb dX9_mixTrace_130 (lv_at hl 2 rfl) ?_
                  refine lv_lmul hx hb dX9_mixTrace_132 ?_
                  refine lv_topl (fun x_12 ex_12 => ?_)
                  refine lv_aload_n hx hb dX9_mixTrace_133 rfl (lv_at hl 3 rfl) ?_
                  refine lv_iload_n hx hb dX9_mixTrace_134 rfl (lv_at hl 5 rfl) ?_
                  refine lv_iload hx hb dX9_mixTrace_135 (lv_at hl 1 rfl) ?_
                  refine lv_iconst (v := 0) hx hb dX9_mixTrace_137 (by decide) ?_
                  refine gcalli (S := Unit) (wc := [(h0, .inr (7, [.ref qp, .ref ql, .ref qs, .ref qm, .ref qt, .ref qe, .int li, .int ho, .int fi, .int f1, .int f2, .int f3, .int bh, .int bc])), (qm, .inr (2, [.ref qp, .ref mr, .ref mf, .ref me, .int hot0, .int pt0, .int how0, .int st0, .int co0, .int ex0, .null, .int at0])), (mf, .inr (1, [.ref mt, .ref mh, .ref md, .ref mo, .int 0, .int d0, .null]))]) (wr := []) (w1 := fun _ => [(h0, .inr (7, [.ref qp, .ref ql, .ref qs, .ref qm, .ref qt, .ref qe, .int li, .int ho, .int fi, .int f1, .int f2, .int f3, .int bh, .int bc])), (qm, .inr (2, [.ref qp, .ref mr, .ref mf, .ref me, .int hot0, .int pt0, .int how0, .int st0, .int co0, .int ex0, .null, .int at0])), (mf, .inr (1, [.ref mt, .ref mh, .ref md, .ref mo, .int 0, .int d0, .null]))]) (va_runV (As := [.int p3, .int x8, .int 0]) (rest := [.long x_12]) ⟨hx, hb, hml, hown, hts⟩ (c_X9_snapshotFact l dC dI cI cT cS H.size h0 qp ql qs qm qt qe mr mf mt mh md mo me li ho fi f1 f2 f3 bh bc hot0 pt0 how0 st0 co0 ex0 at0 d0 p3 x8 0 ) (cwV 3 hts (gWV (List.mem_of_getElem? (i := 6) rfl) (List.mem_of_getElem? (i := 7) rfl) (List.mem_of_getElem? (i := 8) rfl) (List.mem_of_getElem? (i := 5) rfl) ic_c_X9_mixTrace_c_X9_snapshotFact gd_c_X9_snapshotFact) rfl rfl rfl (by decide +kernel) ⟨(Nat.le_of_ble_eq_true rfl), (Nat.le_of_ble_eq_true rfl)⟩) (gpV 0 7 (hP.sub (ws' := [(h0, .inr (7, [.ref qp, .ref ql, .ref qs, .ref qm, .ref qt, .ref qe, .int li, .int ho, .int fi, .int f1, .int f2, .int f3, .int bh, .int bc])), (qm, .inr (2, [.ref qp, .ref mr, .ref mf, .ref me, .int hot0, .int pt0, .int how0, .int st0, .int co0, .int ex0, .null, .int at0])), (mf, .inr (1, [.ref mt, .ref mh, .ref md, .ref mo, .int 0, .int d0, .null]))]) [0, 1, 2] rfl) hK (hD.sub (ws' := [(h0, .inr (7, [.ref qp, .ref ql, .ref qs, .ref qm, .ref qt, .ref qe, .int li, .int ho, .int fi, .int f1, .int f2, .int f3, .int bh, .int bc])), (qm, .inr (2, [.ref qp, .ref mr, .ref mf, .ref me, .int hot0, .int pt0, .int how0, .int st0, .int co0, .int ex0, .null, .int at0])), (mf, .inr (1, [.ref mt, .ref mh, .ref md, .ref mo, .int 0, .int d0, .null]))]) [0, 1, 2] (by decide) rfl) rfl rfl) rfl rfl hl.1 rfl (lv_room (Nat.le_of_ble_eq_true rfl)) dX9_mixTrace_138 ⟨(Nat.le_of_ble_eq_true rfl), (Nat.le_of_ble_eq_true rfl)⟩) hP hD hS hA [0, 1, 2] [] rfl rfl (by decide) (by decide) (fun r_13 ur_13 H locs wr_13 hP hD hS => ?_)
                  replace hP : va_P (dC, dI) vwCl [(h0, .inr (7, [.ref qp, .ref ql, .ref qs, .ref qm, .ref qt, .ref qe, .int li, .int ho, .int fi, .int f1, .int f2, .int f3, .int bh, .int bc])), (qm, .inr (2, [.ref qp, .ref mr, .ref mf, .ref me, .int hot0, .int pt0, .int how0, .int st0, .int co0, .int ex0, .null, .int at0])), (mf, .inr (1, [.ref mt, .ref mh, .ref md, .ref mo, .int 0, .int d0, .null]))] H := hP
                  replace hD : va_D A [(h0, .inr (7, [.ref qp, .ref ql, .ref qs, .ref qm, .ref qt, .ref qe, .int li, .int ho, .int fi, .int f1, .int f2, .int f3, .int bh, .int bc])), (qm, .inr (2, [.ref qp, .ref mr, .ref mf, .ref me, .int hot0, .int pt0, .int how0, .int st0, .int co0, .int ex0, .null, .int at0])), (mf, .inr (1, [.ref mt, .ref mh, .ref md, .ref mo, .int 0, .int d0, .null]))] := hD
                  obtain rfl : r_13 = (-2) := (wr_13)
                  refine lv_i2l (v := (-2)) hx hb dX9_mixTrace_141 (by decide) ?_
                  refine lv_ladd hx hb dX9_mixTrace_142 ?_
                  refine lv_topl (fun x_14 ex_14 => ?_)
                  refine lv_lstore (lv' := [(4, .long x_14), (7, .int x10), (6, .int x8), (0, .ref h0), (1, .long p1), (3, .int p3)]) hx hb dX9_mixTrace_143 hl (by decide) rfl (fun ls hl => ?_)
                  refine lv_ldc2 (v := 31) hx hb hown (hts (.constantLong RX9 205 (31)) (List.mem_of_getElem? (i := 1) rfl)) dX9_mixTrace_145 ?_
                  refine lv_lload hx hb dX9_mixTrace_148 (lv_at hl 0 rfl) ?_
                  refine lv_lmul hx hb dX9_mixTrace_150 ?_
                  refine lv_topl (fun x_15 ex_15 => ?_)
                  refine lv_aload_n hx hb dX9_mixTrace_151 rfl (lv_at hl 3 rfl) ?_
                  refine lv_iload_n hx hb dX9_mixTrace_152 rfl (lv_at hl 5 rfl) ?_
                  refine lv_iload hx hb dX9_mixTrace_153 (lv_at hl 2 rfl) ?_
                  refine lv_iconst (v := 1) hx hb dX9_mixTrace_155 (by decide) ?_
                  refine gcalli (S := Unit) (wc := [(h0, .inr (7, [.ref qp, .ref ql, .ref qs, .ref qm, .ref qt, .ref qe, .int li, .int ho, .int fi, .int f1, .int f2, .int f3, .int bh, .int bc])), (qm, .inr (2, [.ref qp, .ref mr, .ref mf, .ref me, .int hot0, .int pt0, .int how0, .int st0, .int co0, .int ex0, .null, .int at0])), (mf, .inr (1, [.ref mt, .ref mh, .ref md, .ref mo, .int 0, .int d0, .null]))]) (wr := []) (w1 := fun _ => [(h0, .inr (7, [.ref qp, .ref ql, .ref qs, .ref qm, .ref qt, .ref qe, .int li, .int ho, .int fi, .int f1, .int f2, .int f3, .int bh, .int bc])), (qm, .inr (2, [.ref qp, .ref mr, .ref mf, .ref me, .int hot0, .int pt0, .int how0, .int st0, .int co0, .int ex0, .null, .int at0])), (mf, .inr (1, [.ref mt, .ref mh, .ref md, .ref mo, .int 0, .int d0, .null]))]) (va_runV (As := [.int p3, .int x8, .int 1]) (rest := [.long x_15]) ⟨hx, hb, hml, hown, hts⟩ (c_X9_snapshotFact l dC dI cI cT cS H.size h0 qp ql qs qm qt qe mr mf mt mh md mo me li ho fi f1 f2 f3 bh bc hot0 pt0 how0 st0 co0 ex0 at0 d0 p3 x8 1 ) (cwV 3 hts (gWV (List.mem_of_getElem? (i := 6) rfl) (List.mem_of_getElem? (i := 7) rfl) (List.mem_of_getElem? (i := 8) rfl) (List.mem_of_getElem? (i := 5) rfl) ic_c_X9_mixTrace_c_X9_snapshotFact gd_c_X9_snapshotFact) rfl rfl rfl (by decide +kernel) ⟨(Nat.le_of_ble_eq_true rfl), (Nat.le_of_ble_eq_true rfl)⟩) (gpV 0 7 (hP.sub (ws' := [(h0, .inr (7, [.ref qp, .ref ql, .ref qs, .ref qm, .ref qt, .ref qe, .int li, .int ho, .int fi, .int f1, .int f2, .int f3, .int bh, .int bc])), (qm, .inr (2, [.ref qp, .ref mr, .ref mf, .ref me, .int hot0, .int pt0, .int how0, .int st0, .int co0, .int ex0, .null, .int at0])), (mf, .inr (1, [.ref mt, .ref mh, .ref md, .ref mo, .int 0, .int d0, .null]))]) [0, 1, 2] rfl) hK (hD.sub (ws' := [(h0, .inr (7, [.ref qp, .ref ql, .ref qs, .ref qm, .ref qt, .ref qe, .int li, .int ho, .int fi, .int f1, .int f2, .int f3, .int bh, .int bc])), (qm, .inr (2, [.ref qp, .ref mr, .ref mf, .ref me, .int hot0, .int pt0, .int how0, .int st0, .int co0, .int ex0, .null, .int at0])), (mf, .inr (1, [.ref mt, .ref mh, .ref md, .ref mo, .int 0, .int d0, .null]))]) [0, 1, 2] (by decide) rfl) rfl rfl) rfl rfl hl.1 rfl (lv_room (Nat.le_of_ble_eq_true rfl)) dX9_mixTrace_156 ⟨(Nat.le_of_ble_eq_true rfl), (Nat.le_of_ble_eq_true rfl)⟩) hP hD hS hA [0, 1, 2] [] rfl rfl (by decide) (by decide) (fun r_16 ur_16 H locs wr_16 hP hD hS => ?_)
                  replace hP : va_P (dC, dI) vwCl [(h0, .inr (7, [.ref qp, .ref ql, .ref qs, .ref qm, .ref qt, .ref qe, .int li, .int ho, .int fi, .int f1, .int f2, .int f3, .int bh, .int bc])), (qm, .inr (2, [.ref qp, .ref mr, .ref mf, .ref me, .int hot0, .int pt0, .int how0, .int st0, .int co0, .int ex0, .null, .int at0])), (mf, .inr (1, [.ref mt, .ref mh, .ref md, .ref mo, .int 0, .int d0, .null]))] H := hP
                  replace hD : va_D A [(h0, .inr (7, [.ref qp, .ref ql, .ref qs, .ref qm, .ref qt, .ref qe, .int li, .int ho, .int fi, .int f1, .int f2, .int f3, .int bh, .int bc])), (qm, .inr (2, [.ref qp, .ref mr, .ref mf, .ref me, .int hot0, .int pt0, .int how0, .int st0, .int co0, .int ex0, .null, .int at0])), (mf, .inr (1, [.ref mt, .ref mh, .ref md, .ref mo, .int 0, .int d0, .null]))] := hD
                  obtain rfl : r_16 = (-2) := (wr_16)
                  refine lv_i2l (v := (-2)) hx hb dX9_mixTrace_159 (by decide) ?_
                  refine lv_ladd hx hb dX9_mixTrace_160 ?_
                  refine lv_topl (fun x_17 ex_17 => ?_)
                  refine lv_lstore (lv' := [(4, .long x_17), (7, .int x10), (6, .int x8), (0, .ref h0), (1, .long p1), (3, .int p3)]) hx hb dX9_mixTrace_161 hl (by decide) rfl (fun ls hl => ?_)
                  obtain ⟨x_18, ex_18⟩ : ∃ y : Int32, y = x8 + 1 := ⟨_, rfl⟩
                  refine lv_iinc (v := x_18) (lv' := [(6, .int x_18), (4, .long x_17), (7, .int x10), (0, .ref h0), (1, .long p1), (3, .int p3)]) hx hb dX9_mixTrace_163 hl (k := 2) rfl (by rw [ex_18]; rfl) (by decide) rfl (fun ls hl => ?_)
                  refine lv_goto (tgt := 85) hx hb dX9_mixTrace_166 (by decide) ?_
                  replace hP := hP.sub (ws' := [(h0, .inr (7, [.ref qp, .ref ql, .ref qs, .ref qm, .ref qt, .ref qe, .int li, .int ho, .int fi, .int f1, .int f2, .int f3, .int bh, .int bc])), (qm, .inr (2, [.ref qp, .ref mr, .ref mf, .ref me, .int hot0, .int pt0, .int how0, .int st0, .int co0, .int ex0, .null, .int at0])), (mf, .inr (1, [.ref mt, .ref mh, .ref md, .ref mo, .int 0, .int d0, .null]))]) [0, 1, 2] rfl
                  replace hl := lv_sub (l' := [(6, .int x_18), (4, .long x_17), (0, .ref h0), (1, .long p1), (3, .int p3)]) hl [0, 1, 3, 4, 5] rfl
                  apply ih8 (i8 := i8 + 1) (x8 := x_18) (a8_0 := x_17) (H := H) (locs := locs) (ls := ls) <;> first | with_reducible assumption | omega | exact (by rw [ex_18, ex8b]; exact nI_1 _) | (show _ = mixB (9 + 8 * (i8 + 1)) p1; rw [show 9 + 8 * (i8 + 1) = 9 + 8 * i8 + 6 + 1 + 1 from by omega]; simp only [ex_18, ex_17, ex_15, ex_14, ex_12, ea10_0b, ea8_0b, mixB])
                · skip
                  have gc_11 : i10 < 6 := g_ln 6 (by first | rfl | decide | assumption) ex10b hi10b (by first | decide | omega) c_11
                  refine lv_ldc2 (v := 31) hx hb hown (hts (.constantLong RX9 205 (31)) (List.mem_of_getElem? (i := 1) rfl)) dX9_mixTrace_102 ?_
                  refine lv_lload hx hb dX9_mixTrace_105 (lv_at hl 2 rfl) ?_
                  refine lv_lmul hx hb dX9_mixTrace_107 ?_
                  refine lv_topl (fun x_19 ex_19 => ?_)
                  refine lv_aload_n hx hb dX9_mixTrace_108 rfl (lv_at hl 3 rfl) ?_
                  refine lv_iload_n hx hb dX9_mixTrace_109 rfl (lv_at hl 5 rfl) ?_
                  refine lv_iload hx hb dX9_mixTrace_110 (lv_at hl 1 rfl) ?_
                  refine lv_iload hx hb dX9_mixTrace_112 (lv_at hl 0 rfl) ?_
                  refine gcalli (S := Unit) (wc := [(h0, .inr (7, [.ref qp, .ref ql, .ref qs, .ref qm, .ref qt, .ref qe, .int li, .int ho, .int fi, .int f1, .int f2, .int f3, .int bh, .int bc])), (qm, .inr (2, [.ref qp, .ref mr, .ref mf, .ref me, .int hot0, .int pt0, .int how0, .int st0, .int co0, .int ex0, .null, .int at0])), (mf, .inr (1, [.ref mt, .ref mh, .ref md, .ref mo, .int 0, .int d0, .null]))]) (wr := []) (w1 := fun _ => [(h0, .inr (7, [.ref qp, .ref ql, .ref qs, .ref qm, .ref qt, .ref qe, .int li, .int ho, .int fi, .int f1, .int f2, .int f3, .int bh, .int bc])), (qm, .inr (2, [.ref qp, .ref mr, .ref mf, .ref me, .int hot0, .int pt0, .int how0, .int st0, .int co0, .int ex0, .null, .int at0])), (mf, .inr (1, [.ref mt, .ref mh, .ref md, .ref mo, .int 0, .int d0, .null]))]) (va_runV (As := [.int p3, .int x8, .int x10]) (rest := [.long x_19]) ⟨hx, hb, hml, hown, hts⟩ (c_X9_entryFact l dC dI cI cT cS H.size h0 qp ql qs qm qt qe mr mf mt mh md mo me li ho fi f1 f2 f3 bh bc hot0 pt0 how0 st0 co0 ex0 at0 d0 p3 x8 x10 ) (cwV 3 hts (gWV (List.mem_of_getElem? (i := 9) rfl) (List.mem_of_getElem? (i := 10) rfl) (List.mem_of_getElem? (i := 11) rfl) (List.mem_of_getElem? (i := 5) rfl) ic_c_X9_mixTrace_c_X9_entryFact gd_c_X9_entryFact) rfl rfl rfl (by decide +kernel) ⟨(Nat.le_of_ble_eq_true rfl), (Nat.le_of_ble_eq_true rfl)⟩) (gpV 0 7 (hP.sub (ws' := [(h0, .inr (7, [.ref qp, .ref ql, .ref qs, .ref qm, .ref qt, .ref qe, .int li, .int ho, .int fi, .int f1, .int f2, .int f3, .int bh, .int bc])), (qm, .inr (2, [.ref qp, .ref mr, .ref mf, .ref me, .int hot0, .int pt0, .int how0, .int st0, .int co0, .int ex0, .null, .int at0])), (mf, .inr (1, [.ref mt, .ref mh, .ref md, .ref mo, .int 0, .int d0, .null]))]) [0, 1, 2] rfl) hK (hD.sub (ws' := [(h0, .inr (7, [.ref qp, .ref ql, .ref qs, .ref qm, .ref qt, .ref qe, .int li, .int ho, .int fi, .int f1, .int f2, .int f3, .int bh, .int bc])), (qm, .inr (2, [.ref qp, .ref mr, .ref mf, .ref me, .int hot0, .int pt0, .int how0, .int st0, .int co0, .int ex0, .null, .int at0])), (mf, .inr (1, [.ref mt, .ref mh, .ref md, .ref mo, .int 0, .int d0, .null]))]) [0, 1, 2] (by decide) rfl) rfl rfl) rfl rfl hl.1 rfl (lv_room (Nat.le_of_ble_eq_true rfl)) dX9_mixTrace_114 ⟨(Nat.le_of_ble_eq_true rfl), (Nat.le_of_ble_eq_true rfl)⟩) hP hD hS hA [0, 1, 2] [] rfl rfl (by decide) (by decide) (fun r_20 ur_20 H locs wr_20 hP hD hS => ?_)
                  replace hP : va_P (dC, dI) vwCl [(h0, .inr (7, [.ref qp, .ref ql, .ref qs, .ref qm, .ref qt, .ref qe, .int li, .int ho, .int fi, .int f1, .int f2, .int f3, .int bh, .int bc])), (qm, .inr (2, [.ref qp, .ref mr, .ref mf, .ref me, .int hot0, .int pt0, .int how0, .int st0, .int co0, .int ex0, .null, .int at0])), (mf, .inr (1, [.ref mt, .ref mh, .ref md, .ref mo, .int 0, .int d0, .null]))] H := hP
                  replace hD : va_D A [(h0, .inr (7, [.ref qp, .ref ql, .ref qs, .ref qm, .ref qt, .ref qe, .int li, .int ho, .int fi, .int f1, .int f2, .int f3, .int bh, .int bc])), (qm, .inr (2, [.ref qp, .ref mr, .ref mf, .ref me, .int hot0, .int pt0, .int how0, .int st0, .int co0, .int ex0, .null, .int at0])), (mf, .inr (1, [.ref mt, .ref mh, .ref md, .ref mo, .int 0, .int d0, .null]))] := hD
                  obtain rfl : r_20 = (-2) := (wr_20)
                  refine lv_i2l (v := (-2)) hx hb dX9_mixTrace_117 (by decide) ?_
                  refine lv_ladd hx hb dX9_mixTrace_118 ?_
                  refine lv_topl (fun x_21 ex_21 => ?_)
                  refine lv_lstore (lv' := [(4, .long x_21), (7, .int x10), (6, .int x8), (0, .ref h0), (1, .long p1), (3, .int p3)]) hx hb dX9_mixTrace_119 hl (by decide) rfl (fun ls hl => ?_)
                  obtain ⟨x_22, ex_22⟩ : ∃ y : Int32, y = x10 + 1 := ⟨_, rfl⟩
                  refine lv_iinc (v := x_22) (lv' := [(7, .int x_22), (4, .long x_21), (6, .int x8), (0, .ref h0), (1, .long p1), (3, .int p3)]) hx hb dX9_mixTrace_121 hl (k := 1) rfl (by rw [ex_22]; rfl) (by decide) rfl (fun ls hl => ?_)
                  refine lv_goto (tgt := 95) hx hb dX9_mixTrace_124 (by decide) ?_
                  replace hP := hP.sub (ws' := [(h0, .inr (7, [.ref qp, .ref ql, .ref qs, .ref qm, .ref qt, .ref qe, .int li, .int ho, .int fi, .int f1, .int f2, .int f3, .int bh, .int bc])), (qm, .inr (2, [.ref qp, .ref mr, .ref mf, .ref me, .int hot0, .int pt0, .int how0, .int st0, .int co0, .int ex0, .null, .int at0])), (mf, .inr (1, [.ref mt, .ref mh, .ref md, .ref mo, .int 0, .int d0, .null]))]) [0, 1, 2] rfl
                  replace hl := lv_sub (l' := [(7, .int x_22), (6, .int x8), (4, .long x_21), (0, .ref h0), (1, .long p1), (3, .int p3)]) hl [0, 2, 1, 3, 4, 5] rfl
                  apply ih10 (i10 := i10 + 1) (x10 := x_22) (a10_0 := x_21) (H := H) (locs := locs) (ls := ls) <;> first | with_reducible assumption | omega | exact (by rw [ex_22, ex10b]; exact nI_1 _) | (show _ = mixB (9 + 8 * i8 + i10 + 1) p1; simp only [ex_22, ex_21, ex_19, ea10_0b, mixB])
        · skip
          have gc_4 : i3 < 3 := g_ln 3 (by first | rfl | decide | assumption) ex3b hi3b (by first | decide | omega) c_4
          refine lv_ldc2 (v := 31) hx hb hown (hts (.constantLong RX9 205 (31)) (List.mem_of_getElem? (i := 1) rfl)) dX9_mixTrace_44 ?_
          refine lv_lload hx hb dX9_mixTrace_47 (lv_at hl 1 rfl) ?_
          refine lv_lmul hx hb dX9_mixTrace_49 ?_
          refine lv_topl (fun x_23 ex_23 => ?_)
          refine lv_aload_n hx hb dX9_mixTrace_50 rfl (lv_at hl 2 rfl) ?_
          refine lv_iload_n hx hb dX9_mixTrace_51 rfl (lv_at hl 4 rfl) ?_
          refine lv_iload hx hb dX9_mixTrace_52 (lv_at hl 0 rfl) ?_
          refine gcalli (S := Unit) (wc := [(h0, .inr (7, [.ref qp, .ref ql, .ref qs, .ref qm, .ref qt, .ref qe, .int li, .int ho, .int fi, .int f1, .int f2, .int f3, .int bh, .int bc])), (qm, .inr (2, [.ref qp, .ref mr, .ref mf, .ref me, .int hot0, .int pt0, .int how0, .int st0, .int co0, .int ex0, .null, .int at0])), (mf, .inr (1, [.ref mt, .ref mh, .ref md, .ref mo, .int 0, .int d0, .null]))]) (wr := []) (w1 := fun _ => [(h0, .inr (7, [.ref qp, .ref ql, .ref qs, .ref qm, .ref qt, .ref qe, .int li, .int ho, .int fi, .int f1, .int f2, .int f3, .int bh, .int bc])), (qm, .inr (2, [.ref qp, .ref mr, .ref mf, .ref me, .int hot0, .int pt0, .int how0, .int st0, .int co0, .int ex0, .null, .int at0])), (mf, .inr (1, [.ref mt, .ref mh, .ref md, .ref mo, .int 0, .int d0, .null]))]) (va_runV (As := [.int p3, .int x3]) (rest := [.long x_23]) ⟨hx, hb, hml, hown, hts⟩ (c_X9_checkFact l dC dI cI cT cS H.size h0 qp ql qs qm qt qe mr mf mt mh md mo me li ho fi f1 f2 f3 bh bc hot0 pt0 how0 st0 co0 ex0 at0 d0 p3 x3 ) (cwV 2 hts (gWV (List.mem_of_getElem? (i := 12) rfl) (List.mem_of_getElem? (i := 13) rfl) (List.mem_of_getElem? (i := 14) rfl) (List.mem_of_getElem? (i := 5) rfl) ic_c_X9_mixTrace_c_X9_checkFact gd_c_X9_checkFact) rfl rfl rfl (by decide +kernel) ⟨(Nat.le_of_ble_eq_true rfl), (Nat.le_of_ble_eq_true rfl)⟩) (gpV 0 7 (hP.sub (ws' := [(h0, .inr (7, [.ref qp, .ref ql, .ref qs, .ref qm, .ref qt, .ref qe, .int li, .int ho, .int fi, .int f1, .int f2, .int f3, .int bh, .int bc])), (qm, .inr (2, [.ref qp, .ref mr, .ref mf, .ref me, .int hot0, .int pt0, .int how0, .int st0, .int co0, .int ex0, .null, .int at0])), (mf, .inr (1, [.ref mt, .ref mh, .ref md, .ref mo, .int 0, .int d0, .null]))]) [0, 1, 2] rfl) hK (hD.sub (ws' := [(h0, .inr (7, [.ref qp, .ref ql, .ref qs, .ref qm, .ref qt, .ref qe, .int li, .int ho, .int fi, .int f1, .int f2, .int f3, .int bh, .int bc])), (qm, .inr (2, [.ref qp, .ref mr, .ref mf, .ref me, .int hot0, .int pt0, .int how0, .int st0, .int co0, .int ex0, .null, .int at0])), (mf, .inr (1, [.ref mt, .ref mh, .ref md, .ref mo, .int 0, .int d0, .null]))]) [0, 1, 2] (by decide) rfl) rfl rfl) rfl rfl hl.1 rfl (lv_room (Nat.le_of_ble_eq_true rfl)) dX9_mixTrace_54 ⟨(Nat.le_of_ble_eq_true rfl), (Nat.le_of_ble_eq_true rfl)⟩) hP hD hS hA [0, 1, 2] [] rfl rfl (by decide) (by decide) (fun r_24 ur_24 H locs wr_24 hP hD hS => ?_)
          replace hP : va_P (dC, dI) vwCl [(h0, .inr (7, [.ref qp, .ref ql, .ref qs, .ref qm, .ref qt, .ref qe, .int li, .int ho, .int fi, .int f1, .int f2, .int f3, .int bh, .int bc])), (qm, .inr (2, [.ref qp, .ref mr, .ref mf, .ref me, .int hot0, .int pt0, .int how0, .int st0, .int co0, .int ex0, .null, .int at0])), (mf, .inr (1, [.ref mt, .ref mh, .ref md, .ref mo, .int 0, .int d0, .null]))] H := hP
          replace hD : va_D A [(h0, .inr (7, [.ref qp, .ref ql, .ref qs, .ref qm, .ref qt, .ref qe, .int li, .int ho, .int fi, .int f1, .int f2, .int f3, .int bh, .int bc])), (qm, .inr (2, [.ref qp, .ref mr, .ref mf, .ref me, .int hot0, .int pt0, .int how0, .int st0, .int co0, .int ex0, .null, .int at0])), (mf, .inr (1, [.ref mt, .ref mh, .ref md, .ref mo, .int 0, .int d0, .null]))] := hD
          obtain rfl : r_24 = (-2) := (wr_24)
          refine lv_i2l (v := (-2)) hx hb dX9_mixTrace_57 (by decide) ?_
          refine lv_ladd hx hb dX9_mixTrace_58 ?_
          refine lv_topl (fun x_25 ex_25 => ?_)
          refine lv_lstore (lv' := [(4, .long x_25), (6, .int x3), (0, .ref h0), (1, .long p1), (3, .int p3)]) hx hb dX9_mixTrace_59 hl (by decide) rfl (fun ls hl => ?_)
          obtain ⟨x_26, ex_26⟩ : ∃ y : Int32, y = x3 + 1 := ⟨_, rfl⟩
          refine lv_iinc (v := x_26) (lv' := [(6, .int x_26), (4, .long x_25), (0, .ref h0), (1, .long p1), (3, .int p3)]) hx hb dX9_mixTrace_61 hl (k := 1) rfl (by rw [ex_26]; rfl) (by decide) rfl (fun ls hl => ?_)
          refine lv_goto (tgt := 38) hx hb dX9_mixTrace_64 (by decide) ?_
          replace hP := hP.sub (ws' := [(h0, .inr (7, [.ref qp, .ref ql, .ref qs, .ref qm, .ref qt, .ref qe, .int li, .int ho, .int fi, .int f1, .int f2, .int f3, .int bh, .int bc])), (qm, .inr (2, [.ref qp, .ref mr, .ref mf, .ref me, .int hot0, .int pt0, .int how0, .int st0, .int co0, .int ex0, .null, .int at0])), (mf, .inr (1, [.ref mt, .ref mh, .ref md, .ref mo, .int 0, .int d0, .null]))]) [0, 1, 2] rfl
          replace hl := lv_sub (l' := [(6, .int x_26), (4, .long x_25), (0, .ref h0), (1, .long p1), (3, .int p3)]) hl [0, 1, 2, 3, 4] rfl
          apply ih3 (i3 := i3 + 1) (x3 := x_26) (a3_0 := x_25) (H := H) (locs := locs) (ls := ls) <;> first | with_reducible assumption | omega | exact (by rw [ex_26, ex3b]; exact nI_1 _) | (show _ = mixB (5 + i3 + 1) p1; simp only [ex_26, ex_25, ex_23, ea3_0b, mixB])
    · skip
      have gc_2 : i1 < 5 := g_ln 5 (by first | rfl | decide | assumption) ex1b hi1b (by first | decide | omega) c_2
      refine lv_ldc2 (v := 31) hx hb hown (hts (.constantLong RX9 205 (31)) (List.mem_of_getElem? (i := 1) rfl)) dX9_mixTrace_12 ?_
      refine lv_lload hx hb dX9_mixTrace_15 (lv_at hl 1 rfl) ?_
      refine lv_lmul hx hb dX9_mixTrace_17 ?_
      refine lv_topl (fun x_27 ex_27 => ?_)
      refine lv_aload_n hx hb dX9_mixTrace_18 rfl (lv_at hl 2 rfl) ?_
      refine lv_iload_n hx hb dX9_mixTrace_19 rfl (lv_at hl 4 rfl) ?_
      refine lv_iload hx hb dX9_mixTrace_20 (lv_at hl 0 rfl) ?_
      refine gcalli (S := Unit) (wc := [(h0, .inr (7, [.ref qp, .ref ql, .ref qs, .ref qm, .ref qt, .ref qe, .int li, .int ho, .int fi, .int f1, .int f2, .int f3, .int bh, .int bc])), (qm, .inr (2, [.ref qp, .ref mr, .ref mf, .ref me, .int hot0, .int pt0, .int how0, .int st0, .int co0, .int ex0, .null, .int at0])), (mf, .inr (1, [.ref mt, .ref mh, .ref md, .ref mo, .int 0, .int d0, .null]))]) (wr := []) (w1 := fun _ => [(h0, .inr (7, [.ref qp, .ref ql, .ref qs, .ref qm, .ref qt, .ref qe, .int li, .int ho, .int fi, .int f1, .int f2, .int f3, .int bh, .int bc])), (qm, .inr (2, [.ref qp, .ref mr, .ref mf, .ref me, .int hot0, .int pt0, .int how0, .int st0, .int co0, .int ex0, .null, .int at0])), (mf, .inr (1, [.ref mt, .ref mh, .ref md, .ref mo, .int 0, .int d0, .null]))]) (va_runV (As := [.int p3, .int x1]) (rest := [.long x_27]) ⟨hx, hb, hml, hown, hts⟩ (c_X9_traceFact l dC dI cI cT cS H.size h0 qp ql qs qm qt qe mr mf mt mh md mo me li ho fi f1 f2 f3 bh bc hot0 pt0 how0 st0 co0 ex0 at0 d0 p3 x1 ) (cwV 2 hts (gWV (List.mem_of_getElem? (i := 15) rfl) (List.mem_of_getElem? (i := 16) rfl) (List.mem_of_getElem? (i := 17) rfl) (List.mem_of_getElem? (i := 5) rfl) ic_c_X9_mixTrace_c_X9_traceFact gd_c_X9_traceFact) rfl rfl rfl (by decide +kernel) ⟨(Nat.le_of_ble_eq_true rfl), (Nat.le_of_ble_eq_true rfl)⟩) (gpV 0 7 (hP.sub (ws' := [(h0, .inr (7, [.ref qp, .ref ql, .ref qs, .ref qm, .ref qt, .ref qe, .int li, .int ho, .int fi, .int f1, .int f2, .int f3, .int bh, .int bc])), (qm, .inr (2, [.ref qp, .ref mr, .ref mf, .ref me, .int hot0, .int pt0, .int how0, .int st0, .int co0, .int ex0, .null, .int at0])), (mf, .inr (1, [.ref mt, .ref mh, .ref md, .ref mo, .int 0, .int d0, .null]))]) [0, 1, 2] rfl) hK (hD.sub (ws' := [(h0, .inr (7, [.ref qp, .ref ql, .ref qs, .ref qm, .ref qt, .ref qe, .int li, .int ho, .int fi, .int f1, .int f2, .int f3, .int bh, .int bc])), (qm, .inr (2, [.ref qp, .ref mr, .ref mf, .ref me, .int hot0, .int pt0, .int how0, .int st0, .int co0, .int ex0, .null, .int at0])), (mf, .inr (1, [.ref mt, .ref mh, .ref md, .ref mo, .int 0, .int d0, .null]))]) [0, 1, 2] (by decide) rfl) rfl rfl) rfl rfl hl.1 rfl (lv_room (Nat.le_of_ble_eq_true rfl)) dX9_mixTrace_22 ⟨(Nat.le_of_ble_eq_true rfl), (Nat.le_of_ble_eq_true rfl)⟩) hP hD hS hA [0, 1, 2] [] rfl rfl (by decide) (by decide) (fun r_28 ur_28 H locs wr_28 hP hD hS => ?_)
      replace hP : va_P (dC, dI) vwCl [(h0, .inr (7, [.ref qp, .ref ql, .ref qs, .ref qm, .ref qt, .ref qe, .int li, .int ho, .int fi, .int f1, .int f2, .int f3, .int bh, .int bc])), (qm, .inr (2, [.ref qp, .ref mr, .ref mf, .ref me, .int hot0, .int pt0, .int how0, .int st0, .int co0, .int ex0, .null, .int at0])), (mf, .inr (1, [.ref mt, .ref mh, .ref md, .ref mo, .int 0, .int d0, .null]))] H := hP
      replace hD : va_D A [(h0, .inr (7, [.ref qp, .ref ql, .ref qs, .ref qm, .ref qt, .ref qe, .int li, .int ho, .int fi, .int f1, .int f2, .int f3, .int bh, .int bc])), (qm, .inr (2, [.ref qp, .ref mr, .ref mf, .ref me, .int hot0, .int pt0, .int how0, .int st0, .int co0, .int ex0, .null, .int at0])), (mf, .inr (1, [.ref mt, .ref mh, .ref md, .ref mo, .int 0, .int d0, .null]))] := hD
      obtain rfl : r_28 = (-2) := (wr_28)
      refine lv_i2l (v := (-2)) hx hb dX9_mixTrace_25 (by decide) ?_
      refine lv_ladd hx hb dX9_mixTrace_26 ?_
      refine lv_topl (fun x_29 ex_29 => ?_)
      refine lv_lstore (lv' := [(4, .long x_29), (6, .int x1), (0, .ref h0), (1, .long p1), (3, .int p3)]) hx hb dX9_mixTrace_27 hl (by decide) rfl (fun ls hl => ?_)
      obtain ⟨x_30, ex_30⟩ : ∃ y : Int32, y = x1 + 1 := ⟨_, rfl⟩
      refine lv_iinc (v := x_30) (lv' := [(6, .int x_30), (4, .long x_29), (0, .ref h0), (1, .long p1), (3, .int p3)]) hx hb dX9_mixTrace_29 hl (k := 1) rfl (by rw [ex_30]; rfl) (by decide) rfl (fun ls hl => ?_)
      refine lv_goto (tgt := 6) hx hb dX9_mixTrace_32 (by decide) ?_
      replace hP := hP.sub (ws' := [(h0, .inr (7, [.ref qp, .ref ql, .ref qs, .ref qm, .ref qt, .ref qe, .int li, .int ho, .int fi, .int f1, .int f2, .int f3, .int bh, .int bc])), (qm, .inr (2, [.ref qp, .ref mr, .ref mf, .ref me, .int hot0, .int pt0, .int how0, .int st0, .int co0, .int ex0, .null, .int at0])), (mf, .inr (1, [.ref mt, .ref mh, .ref md, .ref mo, .int 0, .int d0, .null]))]) [0, 1, 2] rfl
      replace hl := lv_sub (l' := [(6, .int x_30), (4, .long x_29), (0, .ref h0), (1, .long p1), (3, .int p3)]) hl [0, 1, 2, 3, 4] rfl
      apply ih1 (i1 := i1 + 1) (x1 := x_30) (a1_0 := x_29) (H := H) (locs := locs) (ls := ls) <;> first | with_reducible assumption | omega | exact (by rw [ex_30, ex1b]; exact nI_1 _) | (show _ = mixB (i1 + 1) p1; simp only [ex_30, ex_29, ex_27, ea1_0b, mixB])
def oc_X9_mixRegister : List Cond := [.constantLong RX9 205 (31), .fieldLink RX9 31 "TraceTrees" "machine" "LTraceTrees$Machine;", .fieldLink RX9 109 "TraceTrees$Machine" "registers" "LTraceTrees$Registers;", .methodLink RX9 112 yX5_fact, .instanceMethod yX5_fact, .selects RX5 yX5_fact yX5_fact, .initialized RX5, .fieldLink RX9 23 "TraceTrees" "plainEnd" "LTraceTrees$Registers;"]
def vc_X9_mixRegister : List Cond := .code yX9_mixRegister cX9_mixRegister 6 (some .long) :: (oc_X9_mixRegister ++ (wsX90 ++ (wsX30 ++ (vc_X5_fact))))
theorem iw_c_X9_mixRegister_X9 : ∀ w ∈ wsX90, w ∈ vc_X9_mixRegister := fun _ h => List.mem_cons_of_mem _ (List.mem_append_right _ (List.mem_append_left _ h))
theorem iw_c_X9_mixRegister_X3 : ∀ w ∈ wsX30, w ∈ vc_X9_mixRegister := fun _ h => List.mem_cons_of_mem _ (List.mem_append_right _ (List.mem_append_right _ (List.mem_append_left _ h)))
theorem ic_c_X9_mixRegister_c_X5_fact : ∀ w ∈ vc_X5_fact, w ∈ vc_X9_mixRegister := fun _ h => List.mem_cons_of_mem _ (List.mem_append_right _ (List.mem_append_right _ (List.mem_append_right _ (h))))
theorem gd_c_X9_mixRegister : (vc_X9_mixRegister).all goodWord = true := by decide +kernel
set_option maxHeartbeats 4000000 in
set_option maxRecDepth 100000 in
theorem c_X9_mixRegister (l : Launch) (dC : Nat → ClassId) (dI : Nat → Nat → Nat) (cI cT cS : ClassId) (sz : Nat) (h0 : Nat) (qp : Nat) (ql : Nat) (qs : Nat) (qm : Nat) (qt : Nat) (qe : Nat) (mr : Nat) (m1 : Nat) (m2 : Nat) (mf : Nat) (me : Nat) (e1 : Nat) (e2 : Nat) (li : Int32) (ho : Int32) (fi : Int32) (f1 : Int32) (f2 : Int32) (f3 : Int32) (bh : Int32) (bc : Int32) (hot0 : Int32) (pt0 : Int32) (how0 : Int32) (st0 : Int32) (co0 : Int32) (ex0 : Int32) (at0 : Int32) (p1 : Int64) (p3 : Int32) (hr8 : 0 ≤ p3.toInt ∧ p3.toInt < 8) : gCL (S := Unit) l yX9_mixRegister vc_X9_mixRegister ({ frames := 2, cells := 0, slots := 0, locals := 42 }) (dC, dI) (gTY cI cT cS) sz [.ref h0, .long p1, .int p3] [(h0, .inr (7, [.ref qp, .ref ql, .ref qs, .ref qm, .ref qt, .ref qe, .int li, .int ho, .int fi, .int f1, .int f2, .int f3, .int bh, .int bc])), (qm, .inr (2, [.ref qp, .ref mr, .ref mf, .ref me, .int hot0, .int pt0, .int how0, .int st0, .int co0, .int ex0, .null, .int at0])), (mr, .inr (4, [.ref m1, .ref m2])), (m1, .inl (cI, 8, .inl (fun _ => 0))), (m2, .inl (cI, 8, .inl (fun _ => 0))), (qe, .inr (4, [.ref e1, .ref e2])), (e1, .inl (cI, 8, .inl (fun _ => 0))), (e2, .inl (cI, 8, .inl (fun _ => 0)))] (fun r u => r = mixL [0, 0, 0, 0] p1) (fun _ => [(h0, .inr (7, [.ref qp, .ref ql, .ref qs, .ref qm, .ref qt, .ref qe, .int li, .int ho, .int fi, .int f1, .int f2, .int f3, .int bh, .int bc])), (qm, .inr (2, [.ref qp, .ref mr, .ref mf, .ref me, .int hot0, .int pt0, .int how0, .int st0, .int co0, .int ex0, .null, .int at0])), (mr, .inr (4, [.ref m1, .ref m2])), (m1, .inl (cI, 8, .inl (fun _ => 0))), (m2, .inl (cI, 8, .inl (fun _ => 0))), (qe, .inr (4, [.ref e1, .ref e2])), (e1, .inl (cI, 8, .inl (fun _ => 0))), (e2, .inl (cI, 8, .inl (fun _ => 0)))]) 0 0 := by
  refine Met.ofW (cc := cX9_mixRegister) (maxL := 6) (ret := (some .long)) (by decide) rfl ?_
  intro p e s m args below meth c s₁ B hml hv
  obtain ⟨rfl, hsz, hP, hK, hD0⟩ := hv
  have hx := B.exec
  have hb := B.bytes
  have hr := B.returns
  have hts := atoms_spec (ws := vc_X9_mixRegister) B.pre
  have hown : s.vm.findClass RX9 = some m.cls := findClass_of_methodNamed B.named
  have hlocks := B.notSynchronized
  subst hsz
  have hD := hD0.self (sz := s.heap.size)
  generalize hAe : va_A [(h0, .inr (7, [.ref qp, .ref ql, .ref qs, .ref qm, .ref qt, .ref qe, .int li, .int ho, .int fi, .int f1, .int f2, .int f3, .int bh, .int bc])), (qm, .inr (2, [.ref qp, .ref mr, .ref mf, .ref me, .int hot0, .int pt0, .int how0, .int st0, .int co0, .int ex0, .null, .int at0])), (mr, .inr (4, [.ref m1, .ref m2])), (m1, .inl (cI, 8, .inl (fun _ => 0))), (m2, .inl (cI, 8, .inl (fun _ => 0))), (qe, .inr (4, [.ref e1, .ref e2])), (e1, .inl (cI, 8, .inl (fun _ => 0))), (e2, .inl (cI, 8, .inl (fun _ => 0)))] s.heap.size = A at hD ⊢
  have hA : ∀ q : Nat, s.heap.size ≤ q → A q := fun q h => by rw [← hAe]; exact Or.inr h
  refine gstart (fun H locs hHe hLe => ?_)
  have hS : va_S A s.heap H locs := by rw [← hHe, ← hLe]; exact va_S.rf
  replace hP : va_P (dC, dI) vwCl [(h0, .inr (7, [.ref qp, .ref ql, .ref qs, .ref qm, .ref qt, .ref qe, .int li, .int ho, .int fi, .int f1, .int f2, .int f3, .int bh, .int bc])), (qm, .inr (2, [.ref qp, .ref mr, .ref mf, .ref me, .int hot0, .int pt0, .int how0, .int st0, .int co0, .int ex0, .null, .int at0])), (mr, .inr (4, [.ref m1, .ref m2])), (m1, .inl (cI, 8, .inl (fun _ => 0))), (m2, .inl (cI, 8, .inl (fun _ => 0))), (qe, .inr (4, [.ref e1, .ref e2])), (e1, .inl (cI, 8, .inl (fun _ => 0))), (e2, .inl (cI, 8, .inl (fun _ => 0)))] H := by rw [← hHe]; exact hP
  clear hHe hLe
  have hl := lv_entry ([.ref h0, .long p1, .int p3]) (n := 6) (Nat.le_of_ble_eq_true rfl)
  rw [lg_entry_eq]
  generalize (lg_sl ([.ref h0, .long p1, .int p3]) ++ List.replicate (6 - (lg_sl ([.ref h0, .long p1, .int p3])).length) Slot.unset).toArray = ls at hl ⊢
  replace hl : lv_has ls 6 [(0, .ref h0), (1, .long p1), (3, .int p3)] := hl
  refine lv_lload_n hx hb dX9_mixRegister_0 rfl (lv_at hl 1 rfl) ?_
  refine lv_lstore (lv' := [(4, .long p1), (0, .ref h0), (1, .long p1), (3, .int p3)]) hx hb dX9_mixRegister_1 hl (by decide) rfl (fun ls hl => ?_)
  refine lv_ldc2 (v := 31) hx hb hown (hts (.constantLong RX9 205 (31)) (List.mem_of_getElem? (i := 1) rfl)) dX9_mixRegister_3 ?_
  refine lv_lload hx hb dX9_mixRegister_6 (lv_at hl 0 rfl) ?_
  refine lv_lmul hx hb dX9_mixRegister_8 ?_
  refine lv_topl (fun x_1 ex_1 => ?_)
  refine lv_aload_n hx hb dX9_mixRegister_9 rfl (lv_at hl 1 rfl) ?_
  refine va_get (D := (dC, dI)) (ci := 7) (v := .ref qm) (C := RX9) (T := TX9) (N := 14) hx hb hts iw_c_X9_mixRegister_X9 hown hK.1 hP 0 rfl rfl 3 (by decide) (hts (.fieldLink RX9 31 "TraceTrees" "machine" "LTraceTrees$Machine;") (List.mem_of_getElem? (i := 2) rfl)) (fun _ h9 => h9) rfl dX9_mixRegister_10 ?_
  refine va_get (D := (dC, dI)) (ci := 2) (v := .ref mr) (C := RX3) (T := TX3) (N := 12) hx hb hts iw_c_X9_mixRegister_X3 hown hK.1 hP 1 rfl rfl 1 (by decide) (hts (.fieldLink RX9 109 "TraceTrees$Machine" "registers" "LTraceTrees$Registers;") (List.mem_of_getElem? (i := 3) rfl)) (fun _ h9 => h9) rfl dX9_mixRegister_13 ?_
  refine lv_iload_n hx hb dX9_mixRegister_16 rfl (lv_at hl 3 rfl) ?_
  refine lv_iconst (v := 0) hx hb dX9_mixRegister_17 (by decide) ?_
  refine gcalli (S := Unit) (wc := [(mr, .inr (4, [.ref m1, .ref m2])), (m1, .inl (cI, 8, .inl (fun _ => 0))), (m2, .inl (cI, 8, .inl (fun _ => 0)))]) (wr := [(h0, .inr (7, [.ref qp, .ref ql, .ref qs, .ref qm, .ref qt, .ref qe, .int li, .int ho, .int fi, .int f1, .int f2, .int f3, .int bh, .int bc])), (qm, .inr (2, [.ref qp, .ref mr, .ref mf, .ref me, .int hot0, .int pt0, .int how0, .int st0, .int co0, .int ex0, .null, .int at0])), (qe, .inr (4, [.ref e1, .ref e2])), (e1, .inl (cI, 8, .inl (fun _ => 0))), (e2, .inl (cI, 8, .inl (fun _ => 0)))]) (w1 := fun _ => [(mr, .inr (4, [.ref m1, .ref m2])), (m1, .inl (cI, 8, .inl (fun _ => 0))), (m2, .inl (cI, 8, .inl (fun _ => 0)))]) (va_runV (As := [.int p3, .int 0]) (rest := [.long x_1]) ⟨hx, hb, hml, hown, hts⟩ (c_X5_fact l dC dI cI cT cS H.size mr m1 m2 p3 0 ) (cwV 2 hts (gWV (List.mem_of_getElem? (i := 4) rfl) (List.mem_of_getElem? (i := 5) rfl) (List.mem_of_getElem? (i := 6) rfl) (List.mem_of_getElem? (i := 7) rfl) ic_c_X9_mixRegister_c_X5_fact gd_c_X5_fact) rfl rfl rfl (by decide +kernel) ⟨(Nat.le_of_ble_eq_true rfl), (Nat.le_of_ble_eq_true rfl)⟩) (gpV 0 4 (hP.sub (ws' := [(mr, .inr (4, [.ref m1, .ref m2])), (m1, .inl (cI, 8, .inl (fun _ => 0))), (m2, .inl (cI, 8, .inl (fun _ => 0)))]) [2, 3, 4] rfl) hK (hD.sub (ws' := [(mr, .inr (4, [.ref m1, .ref m2])), (m1, .inl (cI, 8, .inl (fun _ => 0))), (m2, .inl (cI, 8, .inl (fun _ => 0)))]) [2, 3, 4] (by decide) rfl) rfl rfl) rfl rfl hl.1 rfl (lv_room (Nat.le_of_ble_eq_true rfl)) dX9_mixRegister_18 ⟨(Nat.le_of_ble_eq_true rfl), (Nat.le_of_ble_eq_true rfl)⟩) hP hD hS hA [2, 3, 4] [0, 1, 5, 6, 7] rfl rfl (by decide) (by decide) (fun r_2 ur_2 H locs wr_2 hP hD hS => ?_)
  replace hP : va_P (dC, dI) vwCl [(h0, .inr (7, [.ref qp, .ref ql, .ref qs, .ref qm, .ref qt, .ref qe, .int li, .int ho, .int fi, .int f1, .int f2, .int f3, .int bh, .int bc])), (qm, .inr (2, [.ref qp, .ref mr, .ref mf, .ref me, .int hot0, .int pt0, .int how0, .int st0, .int co0, .int ex0, .null, .int at0])), (qe, .inr (4, [.ref e1, .ref e2])), (e1, .inl (cI, 8, .inl (fun _ => 0))), (e2, .inl (cI, 8, .inl (fun _ => 0))), (mr, .inr (4, [.ref m1, .ref m2])), (m1, .inl (cI, 8, .inl (fun _ => 0))), (m2, .inl (cI, 8, .inl (fun _ => 0)))] H := hP
  replace hD : va_D A [(h0, .inr (7, [.ref qp, .ref ql, .ref qs, .ref qm, .ref qt, .ref qe, .int li, .int ho, .int fi, .int f1, .int f2, .int f3, .int bh, .int bc])), (qm, .inr (2, [.ref qp, .ref mr, .ref mf, .ref me, .int hot0, .int pt0, .int how0, .int st0, .int co0, .int ex0, .null, .int at0])), (qe, .inr (4, [.ref e1, .ref e2])), (e1, .inl (cI, 8, .inl (fun _ => 0))), (e2, .inl (cI, 8, .inl (fun _ => 0))), (mr, .inr (4, [.ref m1, .ref m2])), (m1, .inl (cI, 8, .inl (fun _ => 0))), (m2, .inl (cI, 8, .inl (fun _ => 0)))] := hD
  obtain rfl : r_2 = 0 := (by have h0 := wr_2; exact h0.trans (if_pos ⟨⟨by first | decide | omega, by first | decide | omega⟩, by decide, by decide⟩))
  refine lv_i2l (v := 0) hx hb dX9_mixRegister_21 (by decide) ?_
  refine lv_ladd hx hb dX9_mixRegister_22 ?_
  refine lv_topl (fun x_3 ex_3 => ?_)
  refine lv_lstore (lv' := [(4, .long x_3), (0, .ref h0), (1, .long p1), (3, .int p3)]) hx hb dX9_mixRegister_23 hl (by decide) rfl (fun ls hl => ?_)
  refine lv_ldc2 (v := 31) hx hb hown (hts (.constantLong RX9 205 (31)) (List.mem_of_getElem? (i := 1) rfl)) dX9_mixRegister_25 ?_
  refine lv_lload hx hb dX9_mixRegister_28 (lv_at hl 0 rfl) ?_
  refine lv_lmul hx hb dX9_mixRegister_30 ?_
  refine lv_topl (fun x_4 ex_4 => ?_)
  refine lv_aload_n hx hb dX9_mixRegister_31 rfl (lv_at hl 1 rfl) ?_
  refine va_get (D := (dC, dI)) (ci := 7) (v := .ref qm) (C := RX9) (T := TX9) (N := 14) hx hb hts iw_c_X9_mixRegister_X9 hown hK.1 hP 0 rfl rfl 3 (by decide) (hts (.fieldLink RX9 31 "TraceTrees" "machine" "LTraceTrees$Machine;") (List.mem_of_getElem? (i := 2) rfl)) (fun _ h9 => h9) rfl dX9_mixRegister_32 ?_
  refine va_get (D := (dC, dI)) (ci := 2) (v := .ref mr) (C := RX3) (T := TX3) (N := 12) hx hb hts iw_c_X9_mixRegister_X3 hown hK.1 hP 1 rfl rfl 1 (by decide) (hts (.fieldLink RX9 109 "TraceTrees$Machine" "registers" "LTraceTrees$Registers;") (List.mem_of_getElem? (i := 3) rfl)) (fun _ h9 => h9) rfl dX9_mixRegister_35 ?_
  refine lv_iload_n hx hb dX9_mixRegister_38 rfl (lv_at hl 3 rfl) ?_
  refine lv_iconst (v := 1) hx hb dX9_mixRegister_39 (by decide) ?_
  refine gcalli (S := Unit) (wc := [(mr, .inr (4, [.ref m1, .ref m2])), (m1, .inl (cI, 8, .inl (fun _ => 0))), (m2, .inl (cI, 8, .inl (fun _ => 0)))]) (wr := [(h0, .inr (7, [.ref qp, .ref ql, .ref qs, .ref qm, .ref qt, .ref qe, .int li, .int ho, .int fi, .int f1, .int f2, .int f3, .int bh, .int bc])), (qm, .inr (2, [.ref qp, .ref mr, .ref mf, .ref me, .int hot0, .int pt0, .int how0, .int st0, .int co0, .int ex0, .null, .int at0])), (qe, .inr (4, [.ref e1, .ref e2])), (e1, .inl (cI, 8, .inl (fun _ => 0))), (e2, .inl (cI, 8, .inl (fun _ => 0)))]) (w1 := fun _ => [(mr, .inr (4, [.ref m1, .ref m2])), (m1, .inl (cI, 8, .inl (fun _ => 0))), (m2, .inl (cI, 8, .inl (fun _ => 0)))]) (va_runV (As := [.int p3, .int 1]) (rest := [.long x_4]) ⟨hx, hb, hml, hown, hts⟩ (c_X5_fact l dC dI cI cT cS H.size mr m1 m2 p3 1 ) (cwV 2 hts (gWV (List.mem_of_getElem? (i := 4) rfl) (List.mem_of_getElem? (i := 5) rfl) (List.mem_of_getElem? (i := 6) rfl) (List.mem_of_getElem? (i := 7) rfl) ic_c_X9_mixRegister_c_X5_fact gd_c_X5_fact) rfl rfl rfl (by decide +kernel) ⟨(Nat.le_of_ble_eq_true rfl), (Nat.le_of_ble_eq_true rfl)⟩) (gpV 0 4 (hP.sub (ws' := [(mr, .inr (4, [.ref m1, .ref m2])), (m1, .inl (cI, 8, .inl (fun _ => 0))), (m2, .inl (cI, 8, .inl (fun _ => 0)))]) [5, 6, 7] rfl) hK (hD.sub (ws' := [(mr, .inr (4, [.ref m1, .ref m2])), (m1, .inl (cI, 8, .inl (fun _ => 0))), (m2, .inl (cI, 8, .inl (fun _ => 0)))]) [5, 6, 7] (by decide) rfl) rfl rfl) rfl rfl hl.1 rfl (lv_room (Nat.le_of_ble_eq_true rfl)) dX9_mixRegister_40 ⟨(Nat.le_of_ble_eq_true rfl), (Nat.le_of_ble_eq_true rfl)⟩) hP hD hS hA [5, 6, 7] [0, 1, 2, 3, 4] rfl rfl (by decide) (by decide) (fun r_5 ur_5 H locs wr_5 hP hD hS => ?_)
  replace hP : va_P (dC, dI) vwCl [(h0, .inr (7, [.ref qp, .ref ql, .ref qs, .ref qm, .ref qt, .ref qe, .int li, .int ho, .int fi, .int f1, .int f2, .int f3, .int bh, .int bc])), (qm, .inr (2, [.ref qp, .ref mr, .ref mf, .ref me, .int hot0, .int pt0, .int how0, .int st0, .int co0, .int ex0, .null, .int at0])), (qe, .inr (4, [.ref e1, .ref e2])), (e1, .inl (cI, 8, .inl (fun _ => 0))), (e2, .inl (cI, 8, .inl (fun _ => 0))), (mr, .inr (4, [.ref m1, .ref m2])), (m1, .inl (cI, 8, .inl (fun _ => 0))), (m2, .inl (cI, 8, .inl (fun _ => 0)))] H := hP
  replace hD : va_D A [(h0, .inr (7, [.ref qp, .ref ql, .ref qs, .ref qm, .ref qt, .ref qe, .int li, .int ho, .int fi, .int f1, .int f2, .int f3, .int bh, .int bc])), (qm, .inr (2, [.ref qp, .ref mr, .ref mf, .ref me, .int hot0, .int pt0, .int how0, .int st0, .int co0, .int ex0, .null, .int at0])), (qe, .inr (4, [.ref e1, .ref e2])), (e1, .inl (cI, 8, .inl (fun _ => 0))), (e2, .inl (cI, 8, .inl (fun _ => 0))), (mr, .inr (4, [.ref m1, .ref m2])), (m1, .inl (cI, 8, .inl (fun _ => 0))), (m2, .inl (cI, 8, .inl (fun _ => 0)))] := hD
  obtain rfl : r_5 = 0 := (by have h0 := wr_5; exact h0.trans (if_pos ⟨⟨by first | decide | omega, by first | decide | omega⟩, by decide, by decide⟩))
  refine lv_i2l (v := 0) hx hb dX9_mixRegister_43 (by decide) ?_
  refine lv_ladd hx hb dX9_mixRegister_44 ?_
  refine lv_topl (fun x_6 ex_6 => ?_)
  refine lv_lstore (lv' := [(4, .long x_6), (0, .ref h0), (1, .long p1), (3, .int p3)]) hx hb dX9_mixRegister_45 hl (by decide) rfl (fun ls hl => ?_)
  refine lv_ldc2 (v := 31) hx hb hown (hts (.constantLong RX9 205 (31)) (List.mem_of_getElem? (i := 1) rfl)) dX9_mixRegister_47 ?_
  refine lv_lload hx hb dX9_mixRegister_50 (lv_at hl 0 rfl) ?_
  refine lv_lmul hx hb dX9_mixRegister_52 ?_
  refine lv_topl (fun x_7 ex_7 => ?_)
  refine lv_aload_n hx hb dX9_mixRegister_53 rfl (lv_at hl 1 rfl) ?_
  refine va_get (D := (dC, dI)) (ci := 7) (v := .ref qe) (C := RX9) (T := TX9) (N := 14) hx hb hts iw_c_X9_mixRegister_X9 hown hK.1 hP 0 rfl rfl 5 (by decide) (hts (.fieldLink RX9 23 "TraceTrees" "plainEnd" "LTraceTrees$Registers;") (List.mem_of_getElem? (i := 8) rfl)) (fun _ h9 => h9) rfl dX9_mixRegister_54 ?_
  refine lv_iload_n hx hb dX9_mixRegister_57 rfl (lv_at hl 3 rfl) ?_
  refine lv_iconst (v := 0) hx hb dX9_mixRegister_58 (by decide) ?_
  refine gcalli (S := Unit) (wc := [(qe, .inr (4, [.ref e1, .ref e2])), (e1, .inl (cI, 8, .inl (fun _ => 0))), (e2, .inl (cI, 8, .inl (fun _ => 0)))]) (wr := [(h0, .inr (7, [.ref qp, .ref ql, .ref qs, .ref qm, .ref qt, .ref qe, .int li, .int ho, .int fi, .int f1, .int f2, .int f3, .int bh, .int bc])), (qm, .inr (2, [.ref qp, .ref mr, .ref mf, .ref me, .int hot0, .int pt0, .int how0, .int st0, .int co0, .int ex0, .null, .int at0])), (mr, .inr (4, [.ref m1, .ref m2])), (m1, .inl (cI, 8, .inl (fun _ => 0))), (m2, .inl (cI, 8, .inl (fun _ => 0)))]) (w1 := fun _ => [(qe, .inr (4, [.ref e1, .ref e2])), (e1, .inl (cI, 8, .inl (fun _ => 0))), (e2, .inl (cI, 8, .inl (fun _ => 0)))]) (va_runV (As := [.int p3, .int 0]) (rest := [.long x_7]) ⟨hx, hb, hml, hown, hts⟩ (c_X5_fact l dC dI cI cT cS H.size qe e1 e2 p3 0 ) (cwV 2 hts (gWV (List.mem_of_getElem? (i := 4) rfl) (List.mem_of_getElem? (i := 5) rfl) (List.mem_of_getElem? (i := 6) rfl) (List.mem_of_getElem? (i := 7) rfl) ic_c_X9_mixRegister_c_X5_fact gd_c_X5_fact) rfl rfl rfl (by decide +kernel) ⟨(Nat.le_of_ble_eq_true rfl), (Nat.le_of_ble_eq_true rfl)⟩) (gpV 0 4 (hP.sub (ws' := [(qe, .inr (4, [.ref e1, .ref e2])), (e1, .inl (cI, 8, .inl (fun _ => 0))), (e2, .inl (cI, 8, .inl (fun _ => 0)))]) [2, 3, 4] rfl) hK (hD.sub (ws' := [(qe, .inr (4, [.ref e1, .ref e2])), (e1, .inl (cI, 8, .inl (fun _ => 0))), (e2, .inl (cI, 8, .inl (fun _ => 0)))]) [2, 3, 4] (by decide) rfl) rfl rfl) rfl rfl hl.1 rfl (lv_room (Nat.le_of_ble_eq_true rfl)) dX9_mixRegister_59 ⟨(Nat.le_of_ble_eq_true rfl), (Nat.le_of_ble_eq_true rfl)⟩) hP hD hS hA [2, 3, 4] [0, 1, 5, 6, 7] rfl rfl (by decide) (by decide) (fun r_8 ur_8 H locs wr_8 hP hD hS => ?_)
  replace hP : va_P (dC, dI) vwCl [(h0, .inr (7, [.ref qp, .ref ql, .ref qs, .ref qm, .ref qt, .ref qe, .int li, .int ho, .int fi, .int f1, .int f2, .int f3, .int bh, .int bc])), (qm, .inr (2, [.ref qp, .ref mr, .ref mf, .ref me, .int hot0, .int pt0, .int how0, .int st0, .int co0, .int ex0, .null, .int at0])), (mr, .inr (4, [.ref m1, .ref m2])), (m1, .inl (cI, 8, .inl (fun _ => 0))), (m2, .inl (cI, 8, .inl (fun _ => 0))), (qe, .inr (4, [.ref e1, .ref e2])), (e1, .inl (cI, 8, .inl (fun _ => 0))), (e2, .inl (cI, 8, .inl (fun _ => 0)))] H := hP
  replace hD : va_D A [(h0, .inr (7, [.ref qp, .ref ql, .ref qs, .ref qm, .ref qt, .ref qe, .int li, .int ho, .int fi, .int f1, .int f2, .int f3, .int bh, .int bc])), (qm, .inr (2, [.ref qp, .ref mr, .ref mf, .ref me, .int hot0, .int pt0, .int how0, .int st0, .int co0, .int ex0, .null, .int at0])), (mr, .inr (4, [.ref m1, .ref m2])), (m1, .inl (cI, 8, .inl (fun _ => 0))), (m2, .inl (cI, 8, .inl (fun _ => 0))), (qe, .inr (4, [.ref e1, .ref e2])), (e1, .inl (cI, 8, .inl (fun _ => 0))), (e2, .inl (cI, 8, .inl (fun _ => 0)))] := hD
  obtain rfl : r_8 = 0 := (by have h0 := wr_8; exact h0.trans (if_pos ⟨⟨by first | decide | omega, by first | decide | omega⟩, by decide, by decide⟩))
  refine lv_i2l (v := 0) hx hb dX9_mixRegister_62 (by decide) ?_
  refine lv_ladd hx hb dX9_mixRegister_63 ?_
  refine lv_topl (fun x_9 ex_9 => ?_)
  refine lv_lstore (lv' := [(4, .long x_9), (0, .ref h0), (1, .long p1), (3, .int p3)]) hx hb dX9_mixRegister_64 hl (by decide) rfl (fun ls hl => ?_)
  refine lv_ldc2 (v := 31) hx hb hown (hts (.constantLong RX9 205 (31)) (List.mem_of_getElem? (i := 1) rfl)) dX9_mixRegister_66 ?_
  refine lv_lload hx hb dX9_mixRegister_69 (lv_at hl 0 rfl) ?_
  refine lv_lmul hx hb dX9_mixRegister_71 ?_
  refine lv_topl (fun x_10 ex_10 => ?_)
  refine lv_aload_n hx hb dX9_mixRegister_72 rfl (lv_at hl 1 rfl) ?_
  refine va_get (D := (dC, dI)) (ci := 7) (v := .ref qe) (C := RX9) (T := TX9) (N := 14) hx hb hts iw_c_X9_mixRegister_X9 hown hK.1 hP 0 rfl rfl 5 (by decide) (hts (.fieldLink RX9 23 "TraceTrees" "plainEnd" "LTraceTrees$Registers;") (List.mem_of_getElem? (i := 8) rfl)) (fun _ h9 => h9) rfl dX9_mixRegister_73 ?_
  refine lv_iload_n hx hb dX9_mixRegister_76 rfl (lv_at hl 3 rfl) ?_
  refine lv_iconst (v := 1) hx hb dX9_mixRegister_77 (by decide) ?_
  refine gcalli (S := Unit) (wc := [(qe, .inr (4, [.ref e1, .ref e2])), (e1, .inl (cI, 8, .inl (fun _ => 0))), (e2, .inl (cI, 8, .inl (fun _ => 0)))]) (wr := [(h0, .inr (7, [.ref qp, .ref ql, .ref qs, .ref qm, .ref qt, .ref qe, .int li, .int ho, .int fi, .int f1, .int f2, .int f3, .int bh, .int bc])), (qm, .inr (2, [.ref qp, .ref mr, .ref mf, .ref me, .int hot0, .int pt0, .int how0, .int st0, .int co0, .int ex0, .null, .int at0])), (mr, .inr (4, [.ref m1, .ref m2])), (m1, .inl (cI, 8, .inl (fun _ => 0))), (m2, .inl (cI, 8, .inl (fun _ => 0)))]) (w1 := fun _ => [(qe, .inr (4, [.ref e1, .ref e2])), (e1, .inl (cI, 8, .inl (fun _ => 0))), (e2, .inl (cI, 8, .inl (fun _ => 0)))]) (va_runV (As := [.int p3, .int 1]) (rest := [.long x_10]) ⟨hx, hb, hml, hown, hts⟩ (c_X5_fact l dC dI cI cT cS H.size qe e1 e2 p3 1 ) (cwV 2 hts (gWV (List.mem_of_getElem? (i := 4) rfl) (List.mem_of_getElem? (i := 5) rfl) (List.mem_of_getElem? (i := 6) rfl) (List.mem_of_getElem? (i := 7) rfl) ic_c_X9_mixRegister_c_X5_fact gd_c_X5_fact) rfl rfl rfl (by decide +kernel) ⟨(Nat.le_of_ble_eq_true rfl), (Nat.le_of_ble_eq_true rfl)⟩) (gpV 0 4 (hP.sub (ws' := [(qe, .inr (4, [.ref e1, .ref e2])), (e1, .inl (cI, 8, .inl (fun _ => 0))), (e2, .inl (cI, 8, .inl (fun _ => 0)))]) [5, 6, 7] rfl) hK (hD.sub (ws' := [(qe, .inr (4, [.ref e1, .ref e2])), (e1, .inl (cI, 8, .inl (fun _ => 0))), (e2, .inl (cI, 8, .inl (fun _ => 0)))]) [5, 6, 7] (by decide) rfl) rfl rfl) rfl rfl hl.1 rfl (lv_room (Nat.le_of_ble_eq_true rfl)) dX9_mixRegister_78 ⟨(Nat.le_of_ble_eq_true rfl), (Nat.le_of_ble_eq_true rfl)⟩) hP hD hS hA [5, 6, 7] [0, 1, 2, 3, 4] rfl rfl (by decide) (by decide) (fun r_11 ur_11 H locs wr_11 hP hD hS => ?_)
  replace hP : va_P (dC, dI) vwCl [(h0, .inr (7, [.ref qp, .ref ql, .ref qs, .ref qm, .ref qt, .ref qe, .int li, .int ho, .int fi, .int f1, .int f2, .int f3, .int bh, .int bc])), (qm, .inr (2, [.ref qp, .ref mr, .ref mf, .ref me, .int hot0, .int pt0, .int how0, .int st0, .int co0, .int ex0, .null, .int at0])), (mr, .inr (4, [.ref m1, .ref m2])), (m1, .inl (cI, 8, .inl (fun _ => 0))), (m2, .inl (cI, 8, .inl (fun _ => 0))), (qe, .inr (4, [.ref e1, .ref e2])), (e1, .inl (cI, 8, .inl (fun _ => 0))), (e2, .inl (cI, 8, .inl (fun _ => 0)))] H := hP
  replace hD : va_D A [(h0, .inr (7, [.ref qp, .ref ql, .ref qs, .ref qm, .ref qt, .ref qe, .int li, .int ho, .int fi, .int f1, .int f2, .int f3, .int bh, .int bc])), (qm, .inr (2, [.ref qp, .ref mr, .ref mf, .ref me, .int hot0, .int pt0, .int how0, .int st0, .int co0, .int ex0, .null, .int at0])), (mr, .inr (4, [.ref m1, .ref m2])), (m1, .inl (cI, 8, .inl (fun _ => 0))), (m2, .inl (cI, 8, .inl (fun _ => 0))), (qe, .inr (4, [.ref e1, .ref e2])), (e1, .inl (cI, 8, .inl (fun _ => 0))), (e2, .inl (cI, 8, .inl (fun _ => 0)))] := hD
  obtain rfl : r_11 = 0 := (by have h0 := wr_11; exact h0.trans (if_pos ⟨⟨by first | decide | omega, by first | decide | omega⟩, by decide, by decide⟩))
  refine lv_i2l (v := 0) hx hb dX9_mixRegister_81 (by decide) ?_
  refine lv_ladd hx hb dX9_mixRegister_82 ?_
  refine lv_topl (fun x_12 ex_12 => ?_)
  refine W.widen (k := 0) (n := 0) (Nat.le_of_ble_eq_true rfl) (Nat.le_of_ble_eq_true rfl) ?_
  have hP9 := hP.sub (ws' := [(h0, .inr (7, [.ref qp, .ref ql, .ref qs, .ref qm, .ref qt, .ref qe, .int li, .int ho, .int fi, .int f1, .int f2, .int f3, .int bh, .int bc])), (qm, .inr (2, [.ref qp, .ref mr, .ref mf, .ref me, .int hot0, .int pt0, .int how0, .int st0, .int co0, .int ex0, .null, .int at0])), (mr, .inr (4, [.ref m1, .ref m2])), (m1, .inl (cI, 8, .inl (fun _ => 0))), (m2, .inl (cI, 8, .inl (fun _ => 0))), (qe, .inr (4, [.ref e1, .ref e2])), (e1, .inl (cI, 8, .inl (fun _ => 0))), (e2, .inl (cI, 8, .inl (fun _ => 0)))]) [0, 1, 2, 3, 4, 5, 6, 7] rfl
  have hD9 := hD.sub (ws' := [(h0, .inr (7, [.ref qp, .ref ql, .ref qs, .ref qm, .ref qt, .ref qe, .int li, .int ho, .int fi, .int f1, .int f2, .int f3, .int bh, .int bc])), (qm, .inr (2, [.ref qp, .ref mr, .ref mf, .ref me, .int hot0, .int pt0, .int how0, .int st0, .int co0, .int ex0, .null, .int at0])), (mr, .inr (4, [.ref m1, .ref m2])), (m1, .inl (cI, 8, .inl (fun _ => 0))), (m2, .inl (cI, 8, .inl (fun _ => 0))), (qe, .inr (4, [.ref e1, .ref e2])), (e1, .inl (cI, 8, .inl (fun _ => 0))), (e2, .inl (cI, 8, .inl (fun _ => 0)))]) [0, 1, 2, 3, 4, 5, 6, 7] (by decide) rfl
  exact W.lret (v := x_12) hx hb hr (fun t ht hW => ⟨⟨x_12, (), rfl, by simp only [ex_12, ex_10, ex_9, ex_7, ex_6, ex_4, ex_3, ex_1]; rfl, by rw [ht]; exact hP9, hD9⟩, hS.F ht⟩) hS.2.2 dX9_mixRegister_83
def oc_X9_mixPoint : List Cond := [.constantLong RX9 205 (31), .methodLink RX9 74 yX9_codeFact, .instanceMethod yX9_codeFact, .selects RX9 yX9_codeFact yX9_codeFact, .initialized RX9, .fieldLink RX9 31 "TraceTrees" "machine" "LTraceTrees$Machine;", .fieldLink RX9 121 "TraceTrees$Machine" "forest" "LTraceTrees$Forest;", .methodLink RX9 125 yX2_heatFact, .instanceMethod yX2_heatFact, .selects RX2 yX2_heatFact yX2_heatFact, .initialized RX2]
def vc_X9_mixPoint : List Cond := .code yX9_mixPoint cX9_mixPoint 7 (some .long) :: (oc_X9_mixPoint ++ (wsX90 ++ (wsX30 ++ (vc_X9_codeFact ++ (vc_X2_heatFact)))))
theorem iw_c_X9_mixPoint_X9 : ∀ w ∈ wsX90, w ∈ vc_X9_mixPoint := fun _ h => List.mem_cons_of_mem _ (List.mem_append_right _ (List.mem_append_left _ h))
theorem iw_c_X9_mixPoint_X3 : ∀ w ∈ wsX30, w ∈ vc_X9_mixPoint := fun _ h => List.mem_cons_of_mem _ (List.mem_append_right _ (List.mem_append_right _ (List.mem_append_left _ h)))
theorem ic_c_X9_mixPoint_c_X9_codeFact : ∀ w ∈ vc_X9_codeFact, w ∈ vc_X9_mixPoint := fun _ h => List.mem_cons_of_mem _ (List.mem_append_right _ (List.mem_append_right _ (List.mem_append_right _ (List.mem_append_left _ h))))
theorem ic_c_X9_mixPoint_c_X2_heatFact : ∀ w ∈ vc_X2_heatFact, w ∈ vc_X9_mixPoint := fun _ h => List.mem_cons_of_mem _ (List.mem_append_right _ (List.mem_append_right _ (List.mem_append_right _ (List.mem_append_right _ (h)))))
theorem gd_c_X9_mixPoint : (vc_X9_mixPoint).all goodWord = true := by decide +kernel
set_option maxHeartbeats 4000000 in
set_option maxRecDepth 100000 in
theorem c_X9_mixPoint (l : Launch) (dC : Nat → ClassId) (dI : Nat → Nat → Nat) (cI cT cS : ClassId) (sz : Nat) (h0 : Nat) (qp : Nat) (ql : Nat) (qs : Nat) (qm : Nat) (qt : Nat) (qe : Nat) (ka : Nat) (aa : Nat) (ba : Nat) (ca : Nat) (mr : Nat) (mf : Nat) (mt : Nat) (mh : Nat) (md : Nat) (mo : Nat) (me : Nat) (li : Int32) (ho : Int32) (fi : Int32) (f1 : Int32) (f2 : Int32) (f3 : Int32) (bh : Int32) (bc : Int32) (hot0 : Int32) (pt0 : Int32) (how0 : Int32) (st0 : Int32) (co0 : Int32) (ex0 : Int32) (at0 : Int32) (s0 : Int32) (d0 : Int32) (p1 : Int64) (p3 : Int32) (hr8 : 0 ≤ p3.toInt ∧ p3.toInt < 24) : gCL (S := Unit) l yX9_mixPoint vc_X9_mixPoint ({ frames := 2, cells := 0, slots := 0, locals := 43 }) (dC, dI) (gTY cI cT cS) sz [.ref h0, .long p1, .int p3] [(h0, .inr (7, [.ref qp, .ref ql, .ref qs, .ref qm, .ref qt, .ref qe, .int li, .int ho, .int fi, .int f1, .int f2, .int f3, .int bh, .int bc])), (qp, .inr (3, [.ref ka, .ref aa, .ref ba, .ref ca, .int 0])), (qm, .inr (2, [.ref qp, .ref mr, .ref mf, .ref me, .int hot0, .int pt0, .int how0, .int st0, .int co0, .int ex0, .null, .int at0])), (mf, .inr (1, [.ref mt, .ref mh, .ref md, .ref mo, .int s0, .int d0, .null])), (mh, .inl (cI, 24, .inl (fun _ => 0))), (md, .inl (cI, 24, .inl (fun _ => 0))), (mo, .inl (cT, 24, .inr (.inr (.inr (.inr (fun _ => none))))))] (fun r u => r = mixL [-2147483648, -2147483648, -2147483648, -2147483648, 0, 0, -1] p1) (fun _ => [(h0, .inr (7, [.ref qp, .ref ql, .ref qs, .ref qm, .ref qt, .ref qe, .int li, .int ho, .int fi, .int f1, .int f2, .int f3, .int bh, .int bc])), (qp, .inr (3, [.ref ka, .ref aa, .ref ba, .ref ca, .int 0])), (qm, .inr (2, [.ref qp, .ref mr, .ref mf, .ref me, .int hot0, .int pt0, .int how0, .int st0, .int co0, .int ex0, .null, .int at0])), (mf, .inr (1, [.ref mt, .ref mh, .ref md, .ref mo, .int s0, .int d0, .null])), (mh, .inl (cI, 24, .inl (fun _ => 0))), (md, .inl (cI, 24, .inl (fun _ => 0))), (mo, .inl (cT, 24, .inr (.inr (.inr (.inr (fun _ => none))))))]) 0 0 := by
  refine Met.ofW (cc := cX9_mixPoint) (maxL := 7) (ret := (some .long)) (by decide) rfl ?_
  intro p e s m args below meth c s₁ B hml hv
  obtain ⟨rfl, hsz, hP, hK, hD0⟩ := hv
  have hx := B.exec
  have hb := B.bytes
  have hr := B.returns
  have hts := atoms_spec (ws := vc_X9_mixPoint) B.pre
  have hown : s.vm.findClass RX9 = some m.cls := findClass_of_methodNamed B.named
  have hlocks := B.notSynchronized
  subst hsz
  have hD := hD0.self (sz := s.heap.size)
  generalize hAe : va_A [(h0, .inr (7, [.ref qp, .ref ql, .ref qs, .ref qm, .ref qt, .ref qe, .int li, .int ho, .int fi, .int f1, .int f2, .int f3, .int bh, .int bc])), (qp, .inr (3, [.ref ka, .ref aa, .ref ba, .ref ca, .int 0])), (qm, .inr (2, [.ref qp, .ref mr, .ref mf, .ref me, .int hot0, .int pt0, .int how0, .int st0, .int co0, .int ex0, .null, .int at0])), (mf, .inr (1, [.ref mt, .ref mh, .ref md, .ref mo, .int s0, .int d0, .null])), (mh, .inl (cI, 24, .inl (fun _ => 0))), (md, .inl (cI, 24, .inl (fun _ => 0))), (mo, .inl (cT, 24, .inr (.inr (.inr (.inr (fun _ => none))))))] s.heap.size = A at hD ⊢
  have hA : ∀ q : Nat, s.heap.size ≤ q → A q := fun q h => by rw [← hAe]; exact Or.inr h
  refine gstart (fun H locs hHe hLe => ?_)
  have hS : va_S A s.heap H locs := by rw [← hHe, ← hLe]; exact va_S.rf
  replace hP : va_P (dC, dI) vwCl [(h0, .inr (7, [.ref qp, .ref ql, .ref qs, .ref qm, .ref qt, .ref qe, .int li, .int ho, .int fi, .int f1, .int f2, .int f3, .int bh, .int bc])), (qp, .inr (3, [.ref ka, .ref aa, .ref ba, .ref ca, .int 0])), (qm, .inr (2, [.ref qp, .ref mr, .ref mf, .ref me, .int hot0, .int pt0, .int how0, .int st0, .int co0, .int ex0, .null, .int at0])), (mf, .inr (1, [.ref mt, .ref mh, .ref md, .ref mo, .int s0, .int d0, .null])), (mh, .inl (cI, 24, .inl (fun _ => 0))), (md, .inl (cI, 24, .inl (fun _ => 0))), (mo, .inl (cT, 24, .inr (.inr (.inr (.inr (fun _ => none))))))] H := by rw [← hHe]; exact hP
  clear hHe hLe
  have hl := lv_entry ([.ref h0, .long p1, .int p3]) (n := 7) (Nat.le_of_ble_eq_true rfl)
  rw [lg_entry_eq]
  generalize (lg_sl ([.ref h0, .long p1, .int p3]) ++ List.replicate (7 - (lg_sl ([.ref h0, .long p1, .int p3])).length) Slot.unset).toArray = ls at hl ⊢
  replace hl : lv_has ls 7 [(0, .ref h0), (1, .long p1), (3, .int p3)] := hl
  refine lv_lload_n hx hb dX9_mixPoint_0 rfl (lv_at hl 1 rfl) ?_
  refine lv_lstore (lv' := [(4, .long p1), (0, .ref h0), (1, .long p1), (3, .int p3)]) hx hb dX9_mixPoint_1 hl (by decide) rfl (fun ls hl => ?_)
  refine lv_iconst (v := 0) hx hb dX9_mixPoint_3 (by decide) ?_
  refine lv_istore (lv' := [(6, .int 0), (4, .long p1), (0, .ref h0), (1, .long p1), (3, .int p3)]) hx hb dX9_mixPoint_4 hl (by decide) rfl (fun ls hl => ?_)
  refine lv_iload hx hb dX9_mixPoint_6 (lv_at hl 0 rfl) ?_
  refine lv_iconst (v := 4) hx hb dX9_mixPoint_8 (by decide) ?_
  refine lv_icmp_ge (tgt := 35) hx hb dX9_mixPoint_9 (by decide) (fun c_1 => ?_) (fun c_1 => ?_)
  · skip
    exact absurd c_1 (by decide)
  · skip
    refine lv_ldc2 (v := 31) hx hb hown (hts (.constantLong RX9 205 (31)) (List.mem_of_getElem? (i := 1) rfl)) dX9_mixPoint_12 ?_
    refine lv_lload hx hb dX9_mixPoint_15 (lv_at hl 1 rfl) ?_
    refine lv_lmul hx hb dX9_mixPoint_17 ?_
    refine lv_topl (fun x_2 ex_2 => ?_)
    refine lv_aload_n hx hb dX9_mixPoint_18 rfl (lv_at hl 2 rfl) ?_
    refine lv_iload_n hx hb dX9_mixPoint_19 rfl (lv_at hl 4 rfl) ?_
    refine lv_iload hx hb dX9_mixPoint_20 (lv_at hl 0 rfl) ?_
    refine gcalli (S := Unit) (wc := [(h0, .inr (7, [.ref qp, .ref ql, .ref qs, .ref qm, .ref qt, .ref qe, .int li, .int ho, .int fi, .int f1, .int f2, .int f3, .int bh, .int bc])), (qp, .inr (3, [.ref ka, .ref aa, .ref ba, .ref ca, .int 0]))]) (wr := [(qm, .inr (2, [.ref qp, .ref mr, .ref mf, .ref me, .int hot0, .int pt0, .int how0, .int st0, .int co0, .int ex0, .null, .int at0])), (mf, .inr (1, [.ref mt, .ref mh, .ref md, .ref mo, .int s0, .int d0, .null])), (mh, .inl (cI, 24, .inl (fun _ => 0))), (md, .inl (cI, 24, .inl (fun _ => 0))), (mo, .inl (cT, 24, .inr (.inr (.inr (.inr (fun _ => none))))))]) (w1 := fun _ => [(h0, .inr (7, [.ref qp, .ref ql, .ref qs, .ref qm, .ref qt, .ref qe, .int li, .int ho, .int fi, .int f1, .int f2, .int f3, .int bh, .int bc])), (qp, .inr (3, [.ref ka, .ref aa, .ref ba, .ref ca, .int 0]))]) (va_runV (As := [.int p3, .int 0]) (rest := [.long x_2]) ⟨hx, hb, hml, hown, hts⟩ (c_X9_codeFact l dC dI cI cT cS H.size h0 qp ql qs qm qt qe ka aa ba ca li ho fi f1 f2 f3 bh bc p3 0 ) (cwV 2 hts (gWV (List.mem_of_getElem? (i := 2) rfl) (List.mem_of_getElem? (i := 3) rfl) (List.mem_of_getElem? (i := 4) rfl) (List.mem_of_getElem? (i := 5) rfl) ic_c_X9_mixPoint_c_X9_codeFact gd_c_X9_codeFact) rfl rfl rfl (by decide +kernel) ⟨(Nat.le_of_ble_eq_true rfl), (Nat.le_of_ble_eq_true rfl)⟩) (gpV 0 7 (hP.sub (ws' := [(h0, .inr (7, [.ref qp, .ref ql, .ref qs, .ref qm, .ref qt, .ref qe, .int li, .int ho, .int fi, .int f1, .int f2, .int f3, .int bh, .int bc])), (qp, .inr (3, [.ref ka, .ref aa, .ref ba, .ref ca, .int 0]))]) [0, 1] rfl) hK (hD.sub (ws' := [(h0, .inr (7, [.ref qp, .ref ql, .ref qs, .ref qm, .ref qt, .ref qe, .int li, .int ho, .int fi, .int f1, .int f2, .int f3, .int bh, .int bc])), (qp, .inr (3, [.ref ka, .ref aa, .ref ba, .ref ca, .int 0]))]) [0, 1] (by decide) rfl) rfl rfl) rfl rfl hl.1 rfl (lv_room (Nat.le_of_ble_eq_true rfl)) dX9_mixPoint_22 ⟨(Nat.le_of_ble_eq_true rfl), (Nat.le_of_ble_eq_true rfl)⟩) hP hD hS hA [0, 1] [2, 3, 4, 5, 6] rfl rfl (by decide) (by decide) (fun r_3 ur_3 H locs wr_3 hP hD hS => ?_)
    replace hP : va_P (dC, dI) vwCl [(qm, .inr (2, [.ref qp, .ref mr, .ref mf, .ref me, .int hot0, .int pt0, .int how0, .int st0, .int co0, .int ex0, .null, .int at0])), (mf, .inr (1, [.ref mt, .ref mh, .ref md, .ref mo, .int s0, .int d0, .null])), (mh, .inl (cI, 24, .inl (fun _ => 0))), (md, .inl (cI, 24, .inl (fun _ => 0))), (mo, .inl (cT, 24, .inr (.inr (.inr (.inr (fun _ => none)))))), (h0, .inr (7, [.ref qp, .ref ql, .ref qs, .ref qm, .ref qt, .ref qe, .int li, .int ho, .int fi, .int f1, .int f2, .int f3, .int bh, .int bc])), (qp, .inr (3, [.ref ka, .ref aa, .ref ba, .ref ca, .int 0]))] H := hP
    replace hD : va_D A [(qm, .inr (2, [.ref qp, .ref mr, .ref mf, .ref me, .int hot0, .int pt0, .int how0, .int st0, .int co0, .int ex0, .null, .int at0])), (mf, .inr (1, [.ref mt, .ref mh, .ref md, .ref mo, .int s0, .int d0, .null])), (mh, .inl (cI, 24, .inl (fun _ => 0))), (md, .inl (cI, 24, .inl (fun _ => 0))), (mo, .inl (cT, 24, .inr (.inr (.inr (.inr (fun _ => none)))))), (h0, .inr (7, [.ref qp, .ref ql, .ref qs, .ref qm, .ref qt, .ref qe, .int li, .int ho, .int fi, .int f1, .int f2, .int f3, .int bh, .int bc])), (qp, .inr (3, [.ref ka, .ref aa, .ref ba, .ref ca, .int 0]))] := hD
    obtain rfl : r_3 = (-2147483648) := (wr_3)
    refine lv_i2l (v := (-2147483648)) hx hb dX9_mixPoint_25 (by decide) ?_
    refine lv_ladd hx hb dX9_mixPoint_26 ?_
    refine lv_topl (fun x_4 ex_4 => ?_)
    refine lv_lstore (lv' := [(4, .long x_4), (6, .int 0), (0, .ref h0), (1, .long p1), (3, .int p3)]) hx hb dX9_mixPoint_27 hl (by decide) rfl (fun ls hl => ?_)
    refine lv_iinc (v := 1) (lv' := [(6, .int 1), (4, .long x_4), (0, .ref h0), (1, .long p1), (3, .int p3)]) hx hb dX9_mixPoint_29 hl (k := 1) rfl (by decide) (by decide) rfl (fun ls hl => ?_)
    refine lv_goto (tgt := 6) hx hb dX9_mixPoint_32 (by decide) ?_
    refine lv_iload hx hb dX9_mixPoint_6 (lv_at hl 0 rfl) ?_
    refine lv_iconst (v := 4) hx hb dX9_mixPoint_8 (by decide) ?_
    refine lv_icmp_ge (tgt := 35) hx hb dX9_mixPoint_9 (by decide) (fun c_5 => ?_) (fun c_5 => ?_)
    · skip
      exact absurd c_5 (by decide)
    · skip
      refine lv_ldc2 (v := 31) hx hb hown (hts (.constantLong RX9 205 (31)) (List.mem_of_getElem? (i := 1) rfl)) dX9_mixPoint_12 ?_
      refine lv_lload hx hb dX9_mixPoint_15 (lv_at hl 1 rfl) ?_
      refine lv_lmul hx hb dX9_mixPoint_17 ?_
      refine lv_topl (fun x_6 ex_6 => ?_)
      refine lv_aload_n hx hb dX9_mixPoint_18 rfl (lv_at hl 2 rfl) ?_
      refine lv_iload_n hx hb dX9_mixPoint_19 rfl (lv_at hl 4 rfl) ?_
      refine lv_iload hx hb dX9_mixPoint_20 (lv_at hl 0 rfl) ?_
      refine gcalli (S := Unit) (wc := [(h0, .inr (7, [.ref qp, .ref ql, .ref qs, .ref qm, .ref qt, .ref qe, .int li, .int ho, .int fi, .int f1, .int f2, .int f3, .int bh, .int bc])), (qp, .inr (3, [.ref ka, .ref aa, .ref ba, .ref ca, .int 0]))]) (wr := [(qm, .inr (2, [.ref qp, .ref mr, .ref mf, .ref me, .int hot0, .int pt0, .int how0, .int st0, .int co0, .int ex0, .null, .int at0])), (mf, .inr (1, [.ref mt, .ref mh, .ref md, .ref mo, .int s0, .int d0, .null])), (mh, .inl (cI, 24, .inl (fun _ => 0))), (md, .inl (cI, 24, .inl (fun _ => 0))), (mo, .inl (cT, 24, .inr (.inr (.inr (.inr (fun _ => none))))))]) (w1 := fun _ => [(h0, .inr (7, [.ref qp, .ref ql, .ref qs, .ref qm, .ref qt, .ref qe, .int li, .int ho, .int fi, .int f1, .int f2, .int f3, .int bh, .int bc])), (qp, .inr (3, [.ref ka, .ref aa, .ref ba, .ref ca, .int 0]))]) (va_runV (As := [.int p3, .int 1]) (rest := [.long x_6]) ⟨hx, hb, hml, hown, hts⟩ (c_X9_codeFact l dC dI cI cT cS H.size h0 qp ql qs qm qt qe ka aa ba ca li ho fi f1 f2 f3 bh bc p3 1 ) (cwV 2 hts (gWV (List.mem_of_getElem? (i := 2) rfl) (List.mem_of_getElem? (i := 3) rfl) (List.mem_of_getElem? (i := 4) rfl) (List.mem_of_getElem? (i := 5) rfl) ic_c_X9_mixPoint_c_X9_codeFact gd_c_X9_codeFact) rfl rfl rfl (by decide +kernel) ⟨(Nat.le_of_ble_eq_true rfl), (Nat.le_of_ble_eq_true rfl)⟩) (gpV 0 7 (hP.sub (ws' := [(h0, .inr (7, [.ref qp, .ref ql, .ref qs, .ref qm, .ref qt, .ref qe, .int li, .int ho, .int fi, .int f1, .int f2, .int f3, .int bh, .int bc])), (qp, .inr (3, [.ref ka, .ref aa, .ref ba, .ref ca, .int 0]))]) [5, 6] rfl) hK (hD.sub (ws' := [(h0, .inr (7, [.ref qp, .ref ql, .ref qs, .ref qm, .ref qt, .ref qe, .int li, .int ho, .int fi, .int f1, .int f2, .int f3, .int bh, .int bc])), (qp, .inr (3, [.ref ka, .ref aa, .ref ba, .ref ca, .int 0]))]) [5, 6] (by decide) rfl) rfl rfl) rfl rfl hl.1 rfl (lv_room (Nat.le_of_ble_eq_true rfl)) dX9_mixPoint_22 ⟨(Nat.le_of_ble_eq_true rfl), (Nat.le_of_ble_eq_true rfl)⟩) hP hD hS hA [5, 6] [0, 1, 2, 3, 4] rfl rfl (by decide) (by decide) (fun r_7 ur_7 H locs wr_7 hP hD hS => ?_)
      replace hP : va_P (dC, dI) vwCl [(qm, .inr (2, [.ref qp, .ref mr, .ref mf, .ref me, .int hot0, .int pt0, .int how0, .int st0, .int co0, .int ex0, .null, .int at0])), (mf, .inr (1, [.ref mt, .ref mh, .ref md, .ref mo, .int s0, .int d0, .null])), (mh, .inl (cI, 24, .inl (fun _ => 0))), (md, .inl (cI, 24, .inl (fun _ => 0))), (mo, .inl (cT, 24, .inr (.inr (.inr (.inr (fun _ => none)))))), (h0, .inr (7, [.ref qp, .ref ql, .ref qs, .ref qm, .ref qt, .ref qe, .int li, .int ho, .int fi, .int f1, .int f2, .int f3, .int bh, .int bc])), (qp, .inr (3, [.ref ka, .ref aa, .ref ba, .ref ca, .int 0]))] H := hP
      replace hD : va_D A [(qm, .inr (2, [.ref qp, .ref mr, .ref mf, .ref me, .int hot0, .int pt0, .int how0, .int st0, .int co0, .int ex0, .null, .int at0])), (mf, .inr (1, [.ref mt, .ref mh, .ref md, .ref mo, .int s0, .int d0, .null])), (mh, .inl (cI, 24, .inl (fun _ => 0))), (md, .inl (cI, 24, .inl (fun _ => 0))), (mo, .inl (cT, 24, .inr (.inr (.inr (.inr (fun _ => none)))))), (h0, .inr (7, [.ref qp, .ref ql, .ref qs, .ref qm, .ref qt, .ref qe, .int li, .int ho, .int fi, .int f1, .int f2, .int f3, .int bh, .int bc])), (qp, .inr (3, [.ref ka, .ref aa, .ref ba, .ref ca, .int 0]))] := hD
      obtain rfl : r_7 = (-2147483648) := (wr_7)
      refine lv_i2l (v := (-2147483648)) hx hb dX9_mixPoint_25 (by decide) ?_
      refine lv_ladd hx hb dX9_mixPoint_26 ?_
      refine lv_topl (fun x_8 ex_8 => ?_)
      refine lv_lstore (lv' := [(4, .long x_8), (6, .int 1), (0, .ref h0), (1, .long p1), (3, .int p3)]) hx hb dX9_mixPoint_27 hl (by decide) rfl (fun ls hl => ?_)
      refine lv_iinc (v := 2) (lv' := [(6, .int 2), (4, .long x_8), (0, .ref h0), (1, .long p1), (3, .int p3)]) hx hb dX9_mixPoint_29 hl (k := 1) rfl (by decide) (by decide) rfl (fun ls hl => ?_)
      refine lv_goto (tgt := 6) hx hb dX9_mixPoint_32 (by decide) ?_
      refine lv_iload hx hb dX9_mixPoint_6 (lv_at hl 0 rfl) ?_
      refine lv_iconst (v := 4) hx hb dX9_mixPoint_8 (by decide) ?_
      refine lv_icmp_ge (tgt := 35) hx hb dX9_mixPoint_9 (by decide) (fun c_9 => ?_) (fun c_9 => ?_)
      · skip
        exact absurd c_9 (by decide)
      · skip
        refine lv_ldc2 (v := 31) hx hb hown (hts (.constantLong RX9 205 (31)) (List.mem_of_getElem? (i := 1) rfl)) dX9_mixPoint_12 ?_
        refine lv_lload hx hb dX9_mixPoint_15 (lv_at hl 1 rfl) ?_
        refine lv_lmul hx hb dX9_mixPoint_17 ?_
        refine lv_topl (fun x_10 ex_10 => ?_)
        refine lv_aload_n hx hb dX9_mixPoint_18 rfl (lv_at hl 2 rfl) ?_
        refine lv_iload_n hx hb dX9_mixPoint_19 rfl (lv_at hl 4 rfl) ?_
        refine lv_iload hx hb dX9_mixPoint_20 (lv_at hl 0 rfl) ?_
        refine gcalli (S := Unit) (wc := [(h0, .inr (7, [.ref qp, .ref ql, .ref qs, .ref qm, .ref qt, .ref qe, .int li, .int ho, .int fi, .int f1, .int f2, .int f3, .int bh, .int bc])), (qp, .inr (3, [.ref ka, .ref aa, .ref ba, .ref ca, .int 0]))]) (wr := [(qm, .inr (2, [.ref qp, .ref mr, .ref mf, .ref me, .int hot0, .int pt0, .int how0, .int st0, .int co0, .int ex0, .null, .int at0])), (mf, .inr (1, [.ref mt, .ref mh, .ref md, .ref mo, .int s0, .int d0, .null])), (mh, .inl (cI, 24, .inl (fun _ => 0))), (md, .inl (cI, 24, .inl (fun _ => 0))), (mo, .inl (cT, 24, .inr (.inr (.inr (.inr (fun _ => none))))))]) (w1 := fun _ => [(h0, .inr (7, [.ref qp, .ref ql, .ref qs, .ref qm, .ref qt, .ref qe, .int li, .int ho, .int fi, .int f1, .int f2, .int f3, .int bh, .int bc])), (qp, .inr (3, [.ref ka, .ref aa, .ref ba, .ref ca, .int 0]))]) (va_runV (As := [.int p3, .int 2]) (rest := [.long x_10]) ⟨hx, hb, hml, hown, hts⟩ (c_X9_codeFact l dC dI cI cT cS H.size h0 qp ql qs qm qt qe ka aa ba ca li ho fi f1 f2 f3 bh bc p3 2 ) (cwV 2 hts (gWV (List.mem_of_getElem? (i := 2) rfl) (List.mem_of_getElem? (i := 3) rfl) (List.mem_of_getElem? (i := 4) rfl) (List.mem_of_getElem? (i := 5) rfl) ic_c_X9_mixPoint_c_X9_codeFact gd_c_X9_codeFact) rfl rfl rfl (by decide +kernel) ⟨(Nat.le_of_ble_eq_true rfl), (Nat.le_of_ble_eq_true rfl)⟩) (gpV 0 7 (hP.sub (ws' := [(h0, .inr (7, [.ref qp, .ref ql, .ref qs, .ref qm, .ref qt, .ref qe, .int li, .int ho, .int fi, .int f1, .int f2, .int f3, .int bh, .int bc])), (qp, .inr (3, [.ref ka, .ref aa, .ref ba, .ref ca, .int 0]))]) [5, 6] rfl) hK (hD.sub (ws' := [(h0, .inr (7, [.ref qp, .ref ql, .ref qs, .ref qm, .ref qt, .ref qe, .int li, .int ho, .int fi, .int f1, .int f2, .int f3, .int bh, .int bc])), (qp, .inr (3, [.ref ka, .ref aa, .ref ba, .ref ca, .int 0]))]) [5, 6] (by decide) rfl) rfl rfl) rfl rfl hl.1 rfl (lv_room (Nat.le_of_ble_eq_true rfl)) dX9_mixPoint_22 ⟨(Nat.le_of_ble_eq_true rfl), (Nat.le_of_ble_eq_true rfl)⟩) hP hD hS hA [5, 6] [0, 1, 2, 3, 4] rfl rfl (by decide) (by decide) (fun r_11 ur_11 H locs wr_11 hP hD hS => ?_)
        replace hP : va_P (dC, dI) vwCl [(qm, .inr (2, [.ref qp, .ref mr, .ref mf, .ref me, .int hot0, .int pt0, .int how0, .int st0, .int co0, .int ex0, .null, .int at0])), (mf, .inr (1, [.ref mt, .ref mh, .ref md, .ref mo, .int s0, .int d0, .null])), (mh, .inl (cI, 24, .inl (fun _ => 0))), (md, .inl (cI, 24, .inl (fun _ => 0))), (mo, .inl (cT, 24, .inr (.inr (.inr (.inr (fun _ => none)))))), (h0, .inr (7, [.ref qp, .ref ql, .ref qs, .ref qm, .ref qt, .ref qe, .int li, .int ho, .int fi, .int f1, .int f2, .int f3, .int bh, .int bc])), (qp, .inr (3, [.ref ka, .ref aa, .ref ba, .ref ca, .int 0]))] H := hP
        replace hD : va_D A [(qm, .inr (2, [.ref qp, .ref mr, .ref mf, .ref me, .int hot0, .int pt0, .int how0, .int st0, .int co0, .int ex0, .null, .int at0])), (mf, .inr (1, [.ref mt, .ref mh, .ref md, .ref mo, .int s0, .int d0, .null])), (mh, .inl (cI, 24, .inl (fun _ => 0))), (md, .inl (cI, 24, .inl (fun _ => 0))), (mo, .inl (cT, 24, .inr (.inr (.inr (.inr (fun _ => none)))))), (h0, .inr (7, [.ref qp, .ref ql, .ref qs, .ref qm, .ref qt, .ref qe, .int li, .int ho, .int fi, .int f1, .int f2, .int f3, .int bh, .int bc])), (qp, .inr (3, [.ref ka, .ref aa, .ref ba, .ref ca, .int 0]))] := hD
        obtain rfl : r_11 = (-2147483648) := (wr_11)
        refine lv_i2l (v := (-2147483648)) hx hb dX9_mixPoint_25 (by decide) ?_
        refine lv_ladd hx hb dX9_mixPoint_26 ?_
        refine lv_topl (fun x_12 ex_12 => ?_)
        refine lv_lstore (lv' := [(4, .long x_12), (6, .int 2), (0, .ref h0), (1, .long p1), (3, .int p3)]) hx hb dX9_mixPoint_27 hl (by decide) rfl (fun ls hl => ?_)
        refine lv_iinc (v := 3) (lv' := [(6, .int 3), (4, .long x_12), (0, .ref h0), (1, .long p1), (3, .int p3)]) hx hb dX9_mixPoint_29 hl (k := 1) rfl (by decide) (by decide) rfl (fun ls hl => ?_)
        refine lv_goto (tgt := 6) hx hb dX9_mixPoint_32 (by decide) ?_
        refine lv_iload hx hb dX9_mixPoint_6 (lv_at hl 0 rfl) ?_
        refine lv_iconst (v := 4) hx hb dX9_mixPoint_8 (by decide) ?_
        refine lv_icmp_ge (tgt := 35) hx hb dX9_mixPoint_9 (by decide) (fun c_13 => ?_) (fun c_13 => ?_)
        · skip
          exact absurd c_13 (by decide)
        · skip
          refine lv_ldc2 (v := 31) hx hb hown (hts (.constantLong RX9 205 (31)) (List.mem_of_getElem? (i := 1) rfl)) dX9_mixPoint_12 ?_
          refine lv_lload hx hb dX9_mixPoint_15 (lv_at hl 1 rfl) ?_
          refine lv_lmul hx hb dX9_mixPoint_17 ?_
          refine lv_topl (fun x_14 ex_14 => ?_)
          refine lv_aload_n hx hb dX9_mixPoint_18 rfl (lv_at hl 2 rfl) ?_
          refine lv_iload_n hx hb dX9_mixPoint_19 rfl (lv_at hl 4 rfl) ?_
          refine lv_iload hx hb dX9_mixPoint_20 (lv_at hl 0 rfl) ?_
          refine gcalli (S := Unit) (wc := [(h0, .inr (7, [.ref qp, .ref ql, .ref qs, .ref qm, .ref qt, .ref qe, .int li, .int ho, .int fi, .int f1, .int f2, .int f3, .int bh, .int bc])), (qp, .inr (3, [.ref ka, .ref aa, .ref ba, .ref ca, .int 0]))]) (wr := [(qm, .inr (2, [.ref qp, .ref mr, .ref mf, .ref me, .int hot0, .int pt0, .int how0, .int st0, .int co0, .int ex0, .null, .int at0])), (mf, .inr (1, [.ref mt, .ref mh, .ref md, .ref mo, .int s0, .int d0, .null])), (mh, .inl (cI, 24, .inl (fun _ => 0))), (md, .inl (cI, 24, .inl (fun _ => 0))), (mo, .inl (cT, 24, .inr (.inr (.inr (.inr (fun _ => none))))))]) (w1 := fun _ => [(h0, .inr (7, [.ref qp, .ref ql, .ref qs, .ref qm, .ref qt, .ref qe, .int li, .int ho, .int fi, .int f1, .int f2, .int f3, .int bh, .int bc])), (qp, .inr (3, [.ref ka, .ref aa, .ref ba, .ref ca, .int 0]))]) (va_runV (As := [.int p3, .int 3]) (rest := [.long x_14]) ⟨hx, hb, hml, hown, hts⟩ (c_X9_codeFact l dC dI cI cT cS H.size h0 qp ql qs qm qt qe ka aa ba ca li ho fi f1 f2 f3 bh bc p3 3 ) (cwV 2 hts (gWV (List.mem_of_getElem? (i := 2) rfl) (List.mem_of_getElem? (i := 3) rfl) (List.mem_of_getElem? (i := 4) rfl) (List.mem_of_getElem? (i := 5) rfl) ic_c_X9_mixPoint_c_X9_codeFact gd_c_X9_codeFact) rfl rfl rfl (by decide +kernel) ⟨(Nat.le_of_ble_eq_true rfl), (Nat.le_of_ble_eq_true rfl)⟩) (gpV 0 7 (hP.sub (ws' := [(h0, .inr (7, [.ref qp, .ref ql, .ref qs, .ref qm, .ref qt, .ref qe, .int li, .int ho, .int fi, .int f1, .int f2, .int f3, .int bh, .int bc])), (qp, .inr (3, [.ref ka, .ref aa, .ref ba, .ref ca, .int 0]))]) [5, 6] rfl) hK (hD.sub (ws' := [(h0, .inr (7, [.ref qp, .ref ql, .ref qs, .ref qm, .ref qt, .ref qe, .int li, .int ho, .int fi, .int f1, .int f2, .int f3, .int bh, .int bc])), (qp, .inr (3, [.ref ka, .ref aa, .ref ba, .ref ca, .int 0]))]) [5, 6] (by decide) rfl) rfl rfl) rfl rfl hl.1 rfl (lv_room (Nat.le_of_ble_eq_true rfl)) dX9_mixPoint_22 ⟨(Nat.le_of_ble_eq_true rfl), (Nat.le_of_ble_eq_true rfl)⟩) hP hD hS hA [5, 6] [0, 1, 2, 3, 4] rfl rfl (by decide) (by decide) (fun r_15 ur_15 H locs wr_15 hP hD hS => ?_)
          replace hP : va_P (dC, dI) vwCl [(qm, .inr (2, [.ref qp, .ref mr, .ref mf, .ref me, .int hot0, .int pt0, .int how0, .int st0, .int co0, .int ex0, .null, .int at0])), (mf, .inr (1, [.ref mt, .ref mh, .ref md, .ref mo, .int s0, .int d0, .null])), (mh, .inl (cI, 24, .inl (fun _ => 0))), (md, .inl (cI, 24, .inl (fun _ => 0))), (mo, .inl (cT, 24, .inr (.inr (.inr (.inr (fun _ => none)))))), (h0, .inr (7, [.ref qp, .ref ql, .ref qs, .ref qm, .ref qt, .ref qe, .int li, .int ho, .int fi, .int f1, .int f2, .int f3, .int bh, .int bc])), (qp, .inr (3, [.ref ka, .ref aa, .ref ba, .ref ca, .int 0]))] H := hP
          replace hD : va_D A [(qm, .inr (2, [.ref qp, .ref mr, .ref mf, .ref me, .int hot0, .int pt0, .int how0, .int st0, .int co0, .int ex0, .null, .int at0])), (mf, .inr (1, [.ref mt, .ref mh, .ref md, .ref mo, .int s0, .int d0, .null])), (mh, .inl (cI, 24, .inl (fun _ => 0))), (md, .inl (cI, 24, .inl (fun _ => 0))), (mo, .inl (cT, 24, .inr (.inr (.inr (.inr (fun _ => none)))))), (h0, .inr (7, [.ref qp, .ref ql, .ref qs, .ref qm, .ref qt, .ref qe, .int li, .int ho, .int fi, .int f1, .int f2, .int f3, .int bh, .int bc])), (qp, .inr (3, [.ref ka, .ref aa, .ref ba, .ref ca, .int 0]))] := hD
          obtain rfl : r_15 = (-2147483648) := (wr_15)
          refine lv_i2l (v := (-2147483648)) hx hb dX9_mixPoint_25 (by decide) ?_
          refine lv_ladd hx hb dX9_mixPoint_26 ?_
          refine lv_topl (fun x_16 ex_16 => ?_)
          refine lv_lstore (lv' := [(4, .long x_16), (6, .int 3), (0, .ref h0), (1, .long p1), (3, .int p3)]) hx hb dX9_mixPoint_27 hl (by decide) rfl (fun ls hl => ?_)
          refine lv_iinc (v := 4) (lv' := [(6, .int 4), (4, .long x_16), (0, .ref h0), (1, .long p1), (3, .int p3)]) hx hb dX9_mixPoint_29 hl (k := 1) rfl (by decide) (by decide) rfl (fun ls hl => ?_)
          refine lv_goto (tgt := 6) hx hb dX9_mixPoint_32 (by decide) ?_
          refine lv_iload hx hb dX9_mixPoint_6 (lv_at hl 0 rfl) ?_
          refine lv_iconst (v := 4) hx hb dX9_mixPoint_8 (by decide) ?_
          refine lv_icmp_ge (tgt := 35) hx hb dX9_mixPoint_9 (by decide) (fun c_17 => ?_) (fun c_17 => ?_)
          · skip
            refine lv_iconst (v := 0) hx hb dX9_mixPoint_35 (by decide) ?_
            refine lv_istore (lv' := [(6, .int 0), (4, .long x_16), (0, .ref h0), (1, .long p1), (3, .int p3)]) hx hb dX9_mixPoint_36 hl (by decide) rfl (fun ls hl => ?_)
            refine lv_iload hx hb dX9_mixPoint_38 (lv_at hl 0 rfl) ?_
            refine lv_iconst (v := 3) hx hb dX9_mixPoint_40 (by decide) ?_
            refine lv_icmp_ge (tgt := 73) hx hb dX9_mixPoint_41 (by decide) (fun c_18 => ?_) (fun c_18 => ?_)
            · skip
              exact absurd c_18 (by decide)
            · skip
              refine lv_ldc2 (v := 31) hx hb hown (hts (.constantLong RX9 205 (31)) (List.mem_of_getElem? (i := 1) rfl)) dX9_mixPoint_44 ?_
              refine lv_lload hx hb dX9_mixPoint_47 (lv_at hl 1 rfl) ?_
              refine lv_lmul hx hb dX9_mixPoint_49 ?_
              refine lv_topl (fun x_19 ex_19 => ?_)
              refine lv_aload_n hx hb dX9_mixPoint_50 rfl (lv_at hl 2 rfl) ?_
              refine va_get (D := (dC, dI)) (ci := 7) (v := .ref qm) (C := RX9) (T := TX9) (N := 14) hx hb hts iw_c_X9_mixPoint_X9 hown hK.1 hP 5 rfl rfl 3 (by decide) (hts (.fieldLink RX9 31 "TraceTrees" "machine" "LTraceTrees$Machine;") (List.mem_of_getElem? (i := 6) rfl)) (fun _ h9 => h9) rfl dX9_mixPoint_51 ?_
              refine va_get (D := (dC, dI)) (ci := 2) (v := .ref mf) (C := RX3) (T := TX3) (N := 12) hx hb hts iw_c_X9_mixPoint_X3 hown hK.1 hP 0 rfl rfl 2 (by decide) (hts (.fieldLink RX9 121 "TraceTrees$Machine" "forest" "LTraceTrees$Forest;") (List.mem_of_getElem? (i := 7) rfl)) (fun _ h9 => h9) rfl dX9_mixPoint_54 ?_
              refine lv_iload_n hx hb dX9_mixPoint_57 rfl (lv_at hl 4 rfl) ?_
              refine lv_iload hx hb dX9_mixPoint_58 (lv_at hl 0 rfl) ?_
              refine gcalli (S := Unit) (wc := [(mf, .inr (1, [.ref mt, .ref mh, .ref md, .ref mo, .int s0, .int d0, .null])), (mh, .inl (cI, 24, .inl (fun _ => 0))), (md, .inl (cI, 24, .inl (fun _ => 0))), (mo, .inl (cT, 24, .inr (.inr (.inr (.inr (fun _ => none))))))]) (wr := [(qm, .inr (2, [.ref qp, .ref mr, .ref mf, .ref me, .int hot0, .int pt0, .int how0, .int st0, .int co0, .int ex0, .null, .int at0])), (h0, .inr (7, [.ref qp, .ref ql, .ref qs, .ref qm, .ref qt, .ref qe, .int li, .int ho, .int fi, .int f1, .int f2, .int f3, .int bh, .int bc])), (qp, .inr (3, [.ref ka, .ref aa, .ref ba, .ref ca, .int 0]))]) (w1 := fun _ => [(mf, .inr (1, [.ref mt, .ref mh, .ref md, .ref mo, .int s0, .int d0, .null])), (mh, .inl (cI, 24, .inl (fun _ => 0))), (md, .inl (cI, 24, .inl (fun _ => 0))), (mo, .inl (cT, 24, .inr (.inr (.inr (.inr (fun _ => none))))))]) (va_runV (As := [.int p3, .int 0]) (rest := [.long x_19]) ⟨hx, hb, hml, hown, hts⟩ (c_X2_heatFact l dC dI cI cT cS H.size mf mt mh md mo s0 d0 p3 0 ) (cwV 2 hts (gWV (List.mem_of_getElem? (i := 8) rfl) (List.mem_of_getElem? (i := 9) rfl) (List.mem_of_getElem? (i := 10) rfl) (List.mem_of_getElem? (i := 11) rfl) ic_c_X9_mixPoint_c_X2_heatFact gd_c_X2_heatFact) rfl rfl rfl (by decide +kernel) ⟨(Nat.le_of_ble_eq_true rfl), (Nat.le_of_ble_eq_true rfl)⟩) (gpV 0 1 (hP.sub (ws' := [(mf, .inr (1, [.ref mt, .ref mh, .ref md, .ref mo, .int s0, .int d0, .null])), (mh, .inl (cI, 24, .inl (fun _ => 0))), (md, .inl (cI, 24, .inl (fun _ => 0))), (mo, .inl (cT, 24, .inr (.inr (.inr (.inr (fun _ => none))))))]) [1, 2, 3, 4] rfl) hK (hD.sub (ws' := [(mf, .inr (1, [.ref mt, .ref mh, .ref md, .ref mo, .int s0, .int d0, .null])), (mh, .inl (cI, 24, .inl (fun _ => 0))), (md, .inl (cI, 24, .inl (fun _ => 0))), (mo, .inl (cT, 24, .inr (.inr (.inr (.inr (fun _ => none))))))]) [1, 2, 3, 4] (by decide) rfl) rfl rfl) rfl rfl hl.1 rfl (lv_room (Nat.le_of_ble_eq_true rfl)) dX9_mixPoint_60 ⟨(Nat.le_of_ble_eq_true rfl), (Nat.le_of_ble_eq_true rfl)⟩) hP hD hS hA [1, 2, 3, 4] [0, 5, 6] rfl rfl (by decide) (by decide) (fun r_20 ur_20 H locs wr_20 hP hD hS => ?_)
              replace hP : va_P (dC, dI) vwCl [(qm, .inr (2, [.ref qp, .ref mr, .ref mf, .ref me, .int hot0, .int pt0, .int how0, .int st0, .int co0, .int ex0, .null, .int at0])), (h0, .inr (7, [.ref qp, .ref ql, .ref qs, .ref qm, .ref qt, .ref qe, .int li, .int ho, .int fi, .int f1, .int f2, .int f3, .int bh, .int bc])), (qp, .inr (3, [.ref ka, .ref aa, .ref ba, .ref ca, .int 0])), (mf, .inr (1, [.ref mt, .ref mh, .ref md, .ref mo, .int s0, .int d0, .null])), (mh, .inl (cI, 24, .inl (fun _ => 0))), (md, .inl (cI, 24, .inl (fun _ => 0))), (mo, .inl (cT, 24, .inr (.inr (.inr (.inr (fun _ => none))))))] H := hP
              replace hD : va_D A [(qm, .inr (2, [.ref qp, .ref mr, .ref mf, .ref me, .int hot0, .int pt0, .int how0, .int st0, .int co0, .int ex0, .null, .int at0])), (h0, .inr (7, [.ref qp, .ref ql, .ref qs, .ref qm, .ref qt, .ref qe, .int li, .int ho, .int fi, .int f1, .int f2, .int f3, .int bh, .int bc])), (qp, .inr (3, [.ref ka, .ref aa, .ref ba, .ref ca, .int 0])), (mf, .inr (1, [.ref mt, .ref mh, .ref md, .ref mo, .int s0, .int d0, .null])), (mh, .inl (cI, 24, .inl (fun _ => 0))), (md, .inl (cI, 24, .inl (fun _ => 0))), (mo, .inl (cT, 24, .inr (.inr (.inr (.inr (fun _ => none))))))] := hD
              obtain rfl : r_20 = 0 := (by have h0 := wr_20; exact h0.trans ((if_pos ⟨by first | decide | omega, by first | decide | omega⟩).trans (by decide)))
              refine lv_i2l (v := 0) hx hb dX9_mixPoint_63 (by decide) ?_
              refine lv_ladd hx hb dX9_mixPoint_64 ?_
              refine lv_topl (fun x_21 ex_21 => ?_)
              refine lv_lstore (lv' := [(4, .long x_21), (6, .int 0), (0, .ref h0), (1, .long p1), (3, .int p3)]) hx hb dX9_mixPoint_65 hl (by decide) rfl (fun ls hl => ?_)
              refine lv_iinc (v := 1) (lv' := [(6, .int 1), (4, .long x_21), (0, .ref h0), (1, .long p1), (3, .int p3)]) hx hb dX9_mixPoint_67 hl (k := 1) rfl (by decide) (by decide) rfl (fun ls hl => ?_)
              refine lv_goto (tgt := 38) hx hb dX9_mixPoint_70 (by decide) ?_
              refine lv_iload hx hb dX9_mixPoint_38 (lv_at hl 0 rfl) ?_
              refine lv_iconst (v := 3) hx hb dX9_mixPoint_40 (by decide) ?_
              refine lv_icmp_ge (tgt := 73) hx hb dX9_mixPoint_41 (by decide) (fun c_22 => ?_) (fun c_22 => ?_)
              · skip
                exact absurd c_22 (by decide)
              · skip
                refine lv_ldc2 (v := 31) hx hb hown (hts (.constantLong RX9 205 (31)) (List.mem_of_getElem? (i := 1) rfl)) dX9_mixPoint_44 ?_
                refine lv_lload hx hb dX9_mixPoint_47 (lv_at hl 1 rfl) ?_
                refine lv_lmul hx hb dX9_mixPoint_49 ?_
                refine lv_topl (fun x_23 ex_23 => ?_)
                refine lv_aload_n hx hb dX9_mixPoint_50 rfl (lv_at hl 2 rfl) ?_
                refine va_get (D := (dC, dI)) (ci := 7) (v := .ref qm) (C := RX9) (T := TX9) (N := 14) hx hb hts iw_c_X9_mixPoint_X9 hown hK.1 hP 1 rfl rfl 3 (by decide) (hts (.fieldLink RX9 31 "TraceTrees" "machine" "LTraceTrees$Machine;") (List.mem_of_getElem? (i := 6) rfl)) (fun _ h9 => h9) rfl dX9_mixPoint_51 ?_
                refine va_get (D := (dC, dI)) (ci := 2) (v := .ref mf) (C := RX3) (T := TX3) (N := 12) hx hb hts iw_c_X9_mixPoint_X3 hown hK.1 hP 0 rfl rfl 2 (by decide) (hts (.fieldLink RX9 121 "TraceTrees$Machine" "forest" "LTraceTrees$Forest;") (List.mem_of_getElem? (i := 7) rfl)) (fun _ h9 => h9) rfl dX9_mixPoint_54 ?_
                refine lv_iload_n hx hb dX9_mixPoint_57 rfl (lv_at hl 4 rfl) ?_
                refine lv_iload hx hb dX9_mixPoint_58 (lv_at hl 0 rfl) ?_
                refine gcalli (S := Unit) (wc := [(mf, .inr (1, [.ref mt, .ref mh, .ref md, .ref mo, .int s0, .int d0, .null])), (mh, .inl (cI, 24, .inl (fun _ => 0))), (md, .inl (cI, 24, .inl (fun _ => 0))), (mo, .inl (cT, 24, .inr (.inr (.inr (.inr (fun _ => none))))))]) (wr := [(qm, .inr (2, [.ref qp, .ref mr, .ref mf, .ref me, .int hot0, .int pt0, .int how0, .int st0, .int co0, .int ex0, .null, .int at0])), (h0, .inr (7, [.ref qp, .ref ql, .ref qs, .ref qm, .ref qt, .ref qe, .int li, .int ho, .int fi, .int f1, .int f2, .int f3, .int bh, .int bc])), (qp, .inr (3, [.ref ka, .ref aa, .ref ba, .ref ca, .int 0]))]) (w1 := fun _ => [(mf, .inr (1, [.ref mt, .ref mh, .ref md, .ref mo, .int s0, .int d0, .null])), (mh, .inl (cI, 24, .inl (fun _ => 0))), (md, .inl (cI, 24, .inl (fun _ => 0))), (mo, .inl (cT, 24, .inr (.inr (.inr (.inr (fun _ => none))))))]) (va_runV (As := [.int p3, .int 1]) (rest := [.long x_23]) ⟨hx, hb, hml, hown, hts⟩ (c_X2_heatFact l dC dI cI cT cS H.size mf mt mh md mo s0 d0 p3 1 ) (cwV 2 hts (gWV (List.mem_of_getElem? (i := 8) rfl) (List.mem_of_getElem? (i := 9) rfl) (List.mem_of_getElem? (i := 10) rfl) (List.mem_of_getElem? (i := 11) rfl) ic_c_X9_mixPoint_c_X2_heatFact gd_c_X2_heatFact) rfl rfl rfl (by decide +kernel) ⟨(Nat.le_of_ble_eq_true rfl), (Nat.le_of_ble_eq_true rfl)⟩) (gpV 0 1 (hP.sub (ws' := [(mf, .inr (1, [.ref mt, .ref mh, .ref md, .ref mo, .int s0, .int d0, .null])), (mh, .inl (cI, 24, .inl (fun _ => 0))), (md, .inl (cI, 24, .inl (fun _ => 0))), (mo, .inl (cT, 24, .inr (.inr (.inr (.inr (fun _ => none))))))]) [3, 4, 5, 6] rfl) hK (hD.sub (ws' := [(mf, .inr (1, [.ref mt, .ref mh, .ref md, .ref mo, .int s0, .int d0, .null])), (mh, .inl (cI, 24, .inl (fun _ => 0))), (md, .inl (cI, 24, .inl (fun _ => 0))), (mo, .inl (cT, 24, .inr (.inr (.inr (.inr (fun _ => none))))))]) [3, 4, 5, 6] (by decide) rfl) rfl rfl) rfl rfl hl.1 rfl (lv_room (Nat.le_of_ble_eq_true rfl)) dX9_mixPoint_60 ⟨(Nat.le_of_ble_eq_true rfl), (Nat.le_of_ble_eq_true rfl)⟩) hP hD hS hA [3, 4, 5, 6] [0, 1, 2] rfl rfl (by decide) (by decide) (fun r_24 ur_24 H locs wr_24 hP hD hS => ?_)
                replace hP : va_P (dC, dI) vwCl [(qm, .inr (2, [.ref qp, .ref mr, .ref mf, .ref me, .int hot0, .int pt0, .int how0, .int st0, .int co0, .int ex0, .null, .int at0])), (h0, .inr (7, [.ref qp, .ref ql, .ref qs, .ref qm, .ref qt, .ref qe, .int li, .int ho, .int fi, .int f1, .int f2, .int f3, .int bh, .int bc])), (qp, .inr (3, [.ref ka, .ref aa, .ref ba, .ref ca, .int 0])), (mf, .inr (1, [.ref mt, .ref mh, .ref md, .ref mo, .int s0, .int d0, .null])), (mh, .inl (cI, 24, .inl (fun _ => 0))), (md, .inl (cI, 24, .inl (fun _ => 0))), (mo, .inl (cT, 24, .inr (.inr (.inr (.inr (fun _ => none))))))] H := hP
                replace hD : va_D A [(qm, .inr (2, [.ref qp, .ref mr, .ref mf, .ref me, .int hot0, .int pt0, .int how0, .int st0, .int co0, .int ex0, .null, .int at0])), (h0, .inr (7, [.ref qp, .ref ql, .ref qs, .ref qm, .ref qt, .ref qe, .int li, .int ho, .int fi, .int f1, .int f2, .int f3, .int bh, .int bc])), (qp, .inr (3, [.ref ka, .ref aa, .ref ba, .ref ca, .int 0])), (mf, .inr (1, [.ref mt, .ref mh, .ref md, .ref mo, .int s0, .int d0, .null])), (mh, .inl (cI, 24, .inl (fun _ => 0))), (md, .inl (cI, 24, .inl (fun _ => 0))), (mo, .inl (cT, 24, .inr (.inr (.inr (.inr (fun _ => none))))))] := hD
                obtain rfl : r_24 = 0 := (by have h0 := wr_24; exact h0.trans ((if_pos ⟨by first | decide | omega, by first | decide | omega⟩).trans (by decide)))
                refine lv_i2l (v := 0) hx hb dX9_mixPoint_63 (by decide) ?_
                refine lv_ladd hx hb dX9_mixPoint_64 ?_
                refine lv_topl (fun x_25 ex_25 => ?_)
                refine lv_lstore (lv' := [(4, .long x_25), (6, .int 1), (0, .ref h0), (1, .long p1), (3, .int p3)]) hx hb dX9_mixPoint_65 hl (by decide) rfl (fun ls hl => ?_)
                refine lv_iinc (v := 2) (lv' := [(6, .int 2), (4, .long x_25), (0, .ref h0), (1, .long p1), (3, .int p3)]) hx hb dX9_mixPoint_67 hl (k := 1) rfl (by decide) (by decide) rfl (fun ls hl => ?_)
                refine lv_goto (tgt := 38) hx hb dX9_mixPoint_70 (by decide) ?_
                refine lv_iload hx hb dX9_mixPoint_38 (lv_at hl 0 rfl) ?_
                refine lv_iconst (v := 3) hx hb dX9_mixPoint_40 (by decide) ?_
                refine lv_icmp_ge (tgt := 73) hx hb dX9_mixPoint_41 (by decide) (fun c_26 => ?_) (fun c_26 => ?_)
                · skip
                  exact absurd c_26 (by decide)
                · skip
                  refine lv_ldc2 (v := 31) hx hb hown (hts (.constantLong RX9 205 (31)) (List.mem_of_getElem? (i := 1) rfl)) dX9_mixPoint_44 ?_
                  refine lv_lload hx hb dX9_mixPoint_47 (lv_at hl 1 rfl) ?_
                  refine lv_lmul hx hb dX9_mixPoint_49 ?_
                  refine lv_topl (fun x_27 ex_27 => ?_)
                  refine lv_aload_n hx hb dX9_mixPoint_50 rfl (lv_at hl 2 rfl) ?_
                  refine va_get (D := (dC, dI)) (ci := 7) (v := .ref qm) (C := RX9) (T := TX9) (N := 14) hx hb hts iw_c_X9_mixPoint_X9 hown hK.1 hP 1 rfl rfl 3 (by decide) (hts (.fieldLink RX9 31 "TraceTrees" "machine" "LTraceTrees$Machine;") (List.mem_of_getElem? (i := 6) rfl)) (fun _ h9 => h9) rfl dX9_mixPoint_51 ?_
                  refine va_get (D := (dC, dI)) (ci := 2) (v := .ref mf) (C := RX3) (T := TX3) (N := 12) hx hb hts iw_c_X9_mixPoint_X3 hown hK.1 hP 0 rfl rfl 2 (by decide) (hts (.fieldLink RX9 121 "TraceTrees$Machine" "forest" "LTraceTrees$Forest;") (List.mem_of_getElem? (i := 7) rfl)) (fun _ h9 => h9) rfl dX9_mixPoint_54 ?_
                  refine lv_iload_n hx hb dX9_mixPoint_57 rfl (lv_at hl 4 rfl) ?_
                  refine lv_iload hx hb dX9_mixPoint_58 (lv_at hl 0 rfl) ?_
                  refine gcalli (S := Unit) (wc := [(mf, .inr (1, [.ref mt, .ref mh, .ref md, .ref mo, .int s0, .int d0, .null])), (mh, .inl (cI, 24, .inl (fun _ => 0))), (md, .inl (cI, 24, .inl (fun _ => 0))), (mo, .inl (cT, 24, .inr (.inr (.inr (.inr (fun _ => none))))))]) (wr := [(qm, .inr (2, [.ref qp, .ref mr, .ref mf, .ref me, .int hot0, .int pt0, .int how0, .int st0, .int co0, .int ex0, .null, .int at0])), (h0, .inr (7, [.ref qp, .ref ql, .ref qs, .ref qm, .ref qt, .ref qe, .int li, .int ho, .int fi, .int f1, .int f2, .int f3, .int bh, .int bc])), (qp, .inr (3, [.ref ka, .ref aa, .ref ba, .ref ca, .int 0]))]) (w1 := fun _ => [(mf, .inr (1, [.ref mt, .ref mh, .ref md, .ref mo, .int s0, .int d0, .null])), (mh, .inl (cI, 24, .inl (fun _ => 0))), (md, .inl (cI, 24, .inl (fun _ => 0))), (mo, .inl (cT, 24, .inr (.inr (.inr (.inr (fun _ => none))))))]) (va_runV (As := [.int p3, .int 2]) (rest := [.long x_27]) ⟨hx, hb, hml, hown, hts⟩ (c_X2_heatFact l dC dI cI cT cS H.size mf mt mh md mo s0 d0 p3 2 ) (cwV 2 hts (gWV (List.mem_of_getElem? (i := 8) rfl) (List.mem_of_getElem? (i := 9) rfl) (List.mem_of_getElem? (i := 10) rfl) (List.mem_of_getElem? (i := 11) rfl) ic_c_X9_mixPoint_c_X2_heatFact gd_c_X2_heatFact) rfl rfl rfl (by decide +kernel) ⟨(Nat.le_of_ble_eq_true rfl), (Nat.le_of_ble_eq_true rfl)⟩) (gpV 0 1 (hP.sub (ws' := [(mf, .inr (1, [.ref mt, .ref mh, .ref md, .ref mo, .int s0, .int d0, .null])), (mh, .inl (cI, 24, .inl (fun _ => 0))), (md, .inl (cI, 24, .inl (fun _ => 0))), (mo, .inl (cT, 24, .inr (.inr (.inr (.inr (fun _ => none))))))]) [3, 4, 5, 6] rfl) hK (hD.sub (ws' := [(mf, .inr (1, [.ref mt, .ref mh, .ref md, .ref mo, .int s0, .int d0, .null])), (mh, .inl (cI, 24, .inl (fun _ => 0))), (md, .inl (cI, 24, .inl (fun _ => 0))), (mo, .inl (cT, 24, .inr (.inr (.inr (.inr (fun _ => none))))))]) [3, 4, 5, 6] (by decide) rfl) rfl rfl) rfl rfl hl.1 rfl (lv_room (Nat.le_of_ble_eq_true rfl)) dX9_mixPoint_60 ⟨(Nat.le_of_ble_eq_true rfl), (Nat.le_of_ble_eq_true rfl)⟩) hP hD hS hA [3, 4, 5, 6] [0, 1, 2] rfl rfl (by decide) (by decide) (fun r_28 ur_28 H locs wr_28 hP hD hS => ?_)
                  replace hP : va_P (dC, dI) vwCl [(qm, .inr (2, [.ref qp, .ref mr, .ref mf, .ref me, .int hot0, .int pt0, .int how0, .int st0, .int co0, .int ex0, .null, .int at0])), (h0, .inr (7, [.ref qp, .ref ql, .ref qs, .ref qm, .ref qt, .ref qe, .int li, .int ho, .int fi, .int f1, .int f2, .int f3, .int bh, .int bc])), (qp, .inr (3, [.ref ka, .ref aa, .ref ba, .ref ca, .int 0])), (mf, .inr (1, [.ref mt, .ref mh, .ref md, .ref mo, .int s0, .int d0, .null])), (mh, .inl (cI, 24, .inl (fun _ => 0))), (md, .inl (cI, 24, .inl (fun _ => 0))), (mo, .inl (cT, 24, .inr (.inr (.inr (.inr (fun _ => none))))))] H := hP
                  replace hD : va_D A [(qm, .inr (2, [.ref qp, .ref mr, .ref mf, .ref me, .int hot0, .int pt0, .int how0, .int st0, .int co0, .int ex0, .null, .int at0])), (h0, .inr (7, [.ref qp, .ref ql, .ref qs, .ref qm, .ref qt, .ref qe, .int li, .int ho, .int fi, .int f1, .int f2, .int f3, .int bh, .int bc])), (qp, .inr (3, [.ref ka, .ref aa, .ref ba, .ref ca, .int 0])), (mf, .inr (1, [.ref mt, .ref mh, .ref md, .ref mo, .int s0, .int d0, .null])), (mh, .inl (cI, 24, .inl (fun _ => 0))), (md, .inl (cI, 24, .inl (fun _ => 0))), (mo, .inl (cT, 24, .inr (.inr (.inr (.inr (fun _ => none))))))] := hD
                  obtain rfl : r_28 = (-1) := (by have h0 := wr_28; exact h0.trans ((if_pos ⟨by first | decide | omega, by first | decide | omega⟩).trans (by decide)))
                  refine lv_i2l (v := (-1)) hx hb dX9_mixPoint_63 (by decide) ?_
                  refine lv_ladd hx hb dX9_mixPoint_64 ?_
                  refine lv_topl (fun x_29 ex_29 => ?_)
                  refine lv_lstore (lv' := [(4, .long x_29), (6, .int 2), (0, .ref h0), (1, .long p1), (3, .int p3)]) hx hb dX9_mixPoint_65 hl (by decide) rfl (fun ls hl => ?_)
                  refine lv_iinc (v := 3) (lv' := [(6, .int 3), (4, .long x_29), (0, .ref h0), (1, .long p1), (3, .int p3)]) hx hb dX9_mixPoint_67 hl (k := 1) rfl (by decide) (by decide) rfl (fun ls hl => ?_)
                  refine lv_goto (tgt := 38) hx hb dX9_mixPoint_70 (by decide) ?_
                  refine lv_iload hx hb dX9_mixPoint_38 (lv_at hl 0 rfl) ?_
                  refine lv_iconst (v := 3) hx hb dX9_mixPoint_40 (by decide) ?_
                  refine lv_icmp_ge (tgt := 73) hx hb dX9_mixPoint_41 (by decide) (fun c_30 => ?_) (fun c_30 => ?_)
                  · skip
                    refine lv_lload hx hb dX9_mixPoint_73 (lv_at hl 1 rfl) ?_
                    refine W.widen (k := 0) (n := 0) (Nat.le_of_ble_eq_true rfl) (Nat.le_of_ble_eq_true rfl) ?_
                    have hP9 := hP.sub (ws' := [(h0, .inr (7, [.ref qp, .ref ql, .ref qs, .ref qm, .ref qt, .ref qe, .int li, .int ho, .int fi, .int f1, .int f2, .int f3, .int bh, .int bc])), (qp, .inr (3, [.ref ka, .ref aa, .ref ba, .ref ca, .int 0])), (qm, .inr (2, [.ref qp, .ref mr, .ref mf, .ref me, .int hot0, .int pt0, .int how0, .int st0, .int co0, .int ex0, .null, .int at0])), (mf, .inr (1, [.ref mt, .ref mh, .ref md, .ref mo, .int s0, .int d0, .null])), (mh, .inl (cI, 24, .inl (fun _ => 0))), (md, .inl (cI, 24, .inl (fun _ => 0))), (mo, .inl (cT, 24, .inr (.inr (.inr (.inr (fun _ => none))))))]) [1, 2, 0, 3, 4, 5, 6] rfl
                    have hD9 := hD.sub (ws' := [(h0, .inr (7, [.ref qp, .ref ql, .ref qs, .ref qm, .ref qt, .ref qe, .int li, .int ho, .int fi, .int f1, .int f2, .int f3, .int bh, .int bc])), (qp, .inr (3, [.ref ka, .ref aa, .ref ba, .ref ca, .int 0])), (qm, .inr (2, [.ref qp, .ref mr, .ref mf, .ref me, .int hot0, .int pt0, .int how0, .int st0, .int co0, .int ex0, .null, .int at0])), (mf, .inr (1, [.ref mt, .ref mh, .ref md, .ref mo, .int s0, .int d0, .null])), (mh, .inl (cI, 24, .inl (fun _ => 0))), (md, .inl (cI, 24, .inl (fun _ => 0))), (mo, .inl (cT, 24, .inr (.inr (.inr (.inr (fun _ => none))))))]) [1, 2, 0, 3, 4, 5, 6] (by decide) rfl
                    exact W.lret (v := x_29) hx hb hr (fun t ht hW => ⟨⟨x_29, (), rfl, by simp only [ex_29, ex_27, ex_25, ex_23, ex_21, ex_19, ex_16, ex_14, ex_12, ex_10, ex_8, ex_6, ex_4, ex_2]; rfl, by rw [ht]; exact hP9, hD9⟩, hS.F ht⟩) hS.2.2 dX9_mixPoint_75
                  · skip
                    exact absurd c_30 (by decide)
          · skip
            exact absurd c_17 (by decide)
