/-! the law's loop -/
set_option maxHeartbeats 4000000 in
set_option maxRecDepth 100000 in
theorem law_step {p : Program} {l : Launch} {e : Env} {s : State} {m : MethodId} {below : List Frame} {meth : Method} {c : Code} {b L : Nat} {xs : Nat → Int32} {dC : Nat → ClassId} {dI : Nat → Nat → Nat} {cI cT cS : ClassId} {ad ad' : Nat → Nat} {H : Heap} {locs : List Loc} {ls : Array Slot} {i : Nat} {κ ρ : Sg} (hr : meth.sig.returnType = ret) (hlocks : meth.locks = false) (X : LX p s m meth c b L xs dC dI cI cT cS) (hi : i ≤ L + 6) (hl : lv_has ls 4 [(3, .int (nI i)), (2, .ref (ad' 0)), (1, .ref (ad 0)), (0, .ref b)]) (hP : va_P (dC, dI) vwCl (Wd 153 (cfC ad cI cT cS) κ ++ Wd 24 (cfR ad' cI) ρ) H) (hD : va_D (fun q : Nat => s.heap.size ≤ q) (Wd 153 (cfC ad cI cT cS) κ ++ Wd 24 (cfR ad' cI) ρ)) (hS : va_S (fun q : Nat => s.heap.size ≤ q) s.heap H locs) (hR : Rel κ ρ) (K : i + 6 ≤ L → ∀ (ls : Array Slot) (H : Heap) (locs : List Loc) (κ ρ : Sg), lv_has ls 4 [(3, .int (nI (i + 6))), (2, .ref (ad' 0)), (1, .ref (ad 0)), (0, .ref b)] → va_P (dC, dI) vwCl (Wd 153 (cfC ad cI cT cS) κ ++ Wd 24 (cfR ad' cI) ρ) H → va_D (fun q : Nat => s.heap.size ≤ q) (Wd 153 (cfC ad cI cT cS) κ ++ Wd 24 (cfR ad' cI) ρ) → va_S (fun q : Nat => s.heap.size ≤ q) s.heap H locs → Rel κ ρ → W p l e room_1 s m #[Value.ref b] below meth c H locs 177 3831 (lw_Z below #[Value.ref b] s) (F0 m 18 ls [])) : W p l e room_1 s m #[Value.ref b] below meth c H locs 177 3831 (lw_Z below #[Value.ref b] s) (F0 m 18 ls []) := by
  obtain ⟨hx, hb, hml, hown, hts, hX, hbl, hK, hL⟩ := id X
  have hbA : ¬ (fun q : Nat => s.heap.size ≤ q) b := Nat.not_le.mpr hbl
  refine lv_iload_n hx hb dL_law_18 rfl (lv_at hl 0 rfl) ?_
  refine lv_aload_n hx hb dL_law_19 rfl (lv_at hl 3 rfl) ?_
  refine va_slen hx hb hX hbl hbA hS dL_law_20 ?_
  refine lv_bipush (v := 6) hx hb dL_law_21 (by decide) ?_
  refine lv_isub hx hb dL_law_23 ?_
  have t6 : (nI L - 6).toInt = (L : Int) - 6 := gl_sub rfl (nI_toInt (n := L) (by omega)) rfl (by show (-2147483648 : Int) ≤ (L : Int) - 6 ∧ (L : Int) - 6 ≤ 2147483647; omega)
  refine lv_icmp_gt (tgt := 1029) hx hb dL_law_24 (by decide) (fun cc => ?_) (fun cc => ?_)
  · refine lv_iconst (v := 1) hx hb dL_law_1029 (by decide) ?_
    refine va_forget (fun q hq => hS.2.2 q hq) ?_
    refine W.widen (k := 600000) (n := 7302249) (Nat.le_of_ble_eq_true rfl) (Nat.le_of_ble_eq_true rfl) ?_
    exact lw_ret hx hb hr hlocks dL_law_1030
  · have hi6 : i + 6 ≤ L := by
      have cc' : ¬ (nI L - 6) < nI i := cc
      rw [Int32.lt_iff_toInt_lt, t6, nI_toInt (by omega)] at cc'
      omega
    have KC : ∀ (H : Heap) (locs : List Loc) (κ ρ : Sg), va_P (dC, dI) vwCl (Wd 153 (cfC ad cI cT cS) κ ++ Wd 24 (cfR ad' cI) ρ) H → va_D (fun q : Nat => s.heap.size ≤ q) (Wd 153 (cfC ad cI cT cS) κ ++ Wd 24 (cfR ad' cI) ρ) → va_S (fun q : Nat => s.heap.size ≤ q) s.heap H locs → Rel κ ρ → W p l e room_1 s m #[Value.ref b] below meth c H locs 177 3831 (lw_Z below #[Value.ref b] s) (F0 m 1023 ls []) := fun H locs κ ρ hP hD hS hR => by
      refine lv_iinc (v := nI (i + 6)) (k := 0) (lv' := [(3, .int (nI (i + 6))), (2, .ref (ad' 0)), (1, .ref (ad 0)), (0, .ref b)]) hx hb dL_law_1023 hl rfl (by rw [← nI_add]; rfl) (by decide) rfl (fun ls hl => ?_)
      refine lv_goto (tgt := 18) hx hb dL_law_1026 (by decide) ?_
      exact K hi6 ls H locs κ ρ hl hP hD hS hR
    refine lv_aload_n hx hb dL_law_27 rfl (lv_at hl 3 rfl) ?_
    refine lv_iload_n hx hb dL_law_28 rfl (lv_at hl 0 rfl) ?_
    refine va_sld hx hb hX hbl hbA hS (g_inI (by rw [nI_toInt (by omega)]; omega)) dL_law_29 ?_
    rw [nI_clamp (by omega)]
    refine lv_bipush (v := 31) hx hb dL_law_30 (by decide) ?_
    refine lv_iand hx hb dL_law_32 ?_
    rw [andm (xs i) (j := 5) (by decide) 31 rfl]
    have hy : (xs i).toBitVec.toNat % 2 ^ 5 < 32 := Nat.mod_lt _ (by decide)
    generalize (xs i).toBitVec.toNat % 2 ^ 5 = y at hy ⊢
    by_cases hy2 : y ≤ 24
    · rcases le24 hy2 with rfl | rfl | rfl | rfl | rfl | rfl | rfl | rfl | rfl | rfl | rfl | rfl | rfl | rfl | rfl | rfl | rfl | rfl | rfl | rfl | rfl | rfl | rfl | rfl | rfl
      · refine lv_tableIn (off := 115) (tgt := 148) hx hb dL_law_33 (by decide) (by decide) (by decide) (by decide) ?_
        exact case_add X hi6 hl hP hD hS hR KC
      · refine lv_tableIn (off := 168) (tgt := 201) hx hb dL_law_33 (by decide) (by decide) (by decide) (by decide) ?_
        exact case_alter X hi6 hl hP hD hS hR KC
      · refine lv_tableIn (off := 231) (tgt := 264) hx hb dL_law_33 (by decide) (by decide) (by decide) (by decide) ?_
        exact case_back X hi6 hl hP hD hS hR KC
      · refine lv_tableIn (off := 244) (tgt := 277) hx hb dL_law_33 (by decide) (by decide) (by decide) (by decide) ?_
        exact case_code X hi6 hl hP hD hS hR KC
      · refine lv_tableIn (off := 277) (tgt := 310) hx hb dL_law_33 (by decide) (by decide) (by decide) (by decide) ?_
        exact case_load X hi6 hl hP hD hS hR KC
      · refine lv_tableIn (off := 320) (tgt := 353) hx hb dL_law_33 (by decide) (by decide) (by decide) (by decide) ?_
        exact case_set X hi6 hl hP hD hS hR KC
      · refine lv_tableIn (off := 353) (tgt := 386) hx hb dL_law_33 (by decide) (by decide) (by decide) (by decide) ?_
        exact case_read X hi6 hl hP hD hS hR KC
      · refine lv_tableIn (off := 376) (tgt := 409) hx hb dL_law_33 (by decide) (by decide) (by decide) (by decide) ?_
        exact case_value X hi6 hl hP hD hS hR KC
      · refine lv_tableIn (off := 409) (tgt := 442) hx hb dL_law_33 (by decide) (by decide) (by decide) (by decide) ?_
        exact case_plain X hi6 hl hP hD hS hR KC
      · refine lv_tableIn (off := 442) (tgt := 475) hx hb dL_law_33 (by decide) (by decide) (by decide) (by decide) ?_
        exact case_ends X hi6 hl hP hD hS hR KC
      · refine lv_tableIn (off := 465) (tgt := 498) hx hb dL_law_33 (by decide) (by decide) (by decide) (by decide) ?_
        exact case_heat X hi6 hl hP hD hS hR KC
      · refine lv_tableIn (off := 498) (tgt := 531) hx hb dL_law_33 (by decide) (by decide) (by decide) (by decide) ?_
        exact case_trace X hi6 hl hP hD hS hR KC
      · refine lv_tableIn (off := 531) (tgt := 564) hx hb dL_law_33 (by decide) (by decide) (by decide) (by decide) ?_
        exact case_entry X hi6 hl hP hD hS hR KC
      · refine lv_tableIn (off := 574) (tgt := 607) hx hb dL_law_33 (by decide) (by decide) (by decide) (by decide) ?_
        exact case_checks X hi6 hl hP hD hS hR KC
      · refine lv_tableIn (off := 607) (tgt := 640) hx hb dL_law_33 (by decide) (by decide) (by decide) (by decide) ?_
        exact case_snapshot X hi6 hl hP hD hS hR KC
      · refine lv_tableIn (off := 650) (tgt := 683) hx hb dL_law_33 (by decide) (by decide) (by decide) (by decide) ?_
        exact case_writes X hi6 hl hP hD hS hR KC
      · refine lv_tableIn (off := 673) (tgt := 706) hx hb dL_law_33 (by decide) (by decide) (by decide) (by decide) ?_
        exact case_better X hi6 hl hP hD hS hR KC
      · refine lv_tableIn (off := 696) (tgt := 729) hx hb dL_law_33 (by decide) (by decide) (by decide) (by decide) ?_
        exact case_sheet X hi6 hl hP hD hS hR KC
      · refine lv_tableIn (off := 739) (tgt := 772) hx hb dL_law_33 (by decide) (by decide) (by decide) (by decide) ?_
        exact case_lose X hi6 hl hP hD hS hR KC
      · refine lv_tableIn (off := 762) (tgt := 795) hx hb dL_law_33 (by decide) (by decide) (by decide) (by decide) ?_
        exact case_lay X hi6 hl hP hD hS hR KC
      · refine lv_tableIn (off := 815) (tgt := 848) hx hb dL_law_33 (by decide) (by decide) (by decide) (by decide) ?_
        exact case_get X hi6 hl hP hD hS hR KC
      · refine lv_tableIn (off := 858) (tgt := 891) hx hb dL_law_33 (by decide) (by decide) (by decide) (by decide) ?_
        exact case_copy X hi6 hl hP hD hS hR KC
      · refine lv_tableIn (off := 921) (tgt := 954) hx hb dL_law_33 (by decide) (by decide) (by decide) (by decide) ?_
        exact case_write X hi6 hl hP hD hS hR KC
      · refine lv_tableIn (off := 954) (tgt := 987) hx hb dL_law_33 (by decide) (by decide) (by decide) (by decide) ?_
        exact case_count X hi6 hl hP hD hS hR KC
      · refine lv_tableIn (off := 977) (tgt := 1010) hx hb dL_law_33 (by decide) (by decide) (by decide) (by decide) ?_
        exact case_digest X hi6 hl hP hD hS hR KC
    · refine lv_tableOut (tgt := 1023) hx hb dL_law_33 (Or.inr (by rw [nI_toInt (by omega)]; omega)) (by decide) ?_
      exact KC H locs κ ρ hP hD hS hR
theorem law_loop {p : Program} {l : Launch} {e : Env} {s : State} {m : MethodId} {below : List Frame} {meth : Method} {c : Code} {b L : Nat} {xs : Nat → Int32} {dC : Nat → ClassId} {dI : Nat → Nat → Nat} {cI cT cS : ClassId} {ad ad' : Nat → Nat} : ∀ (n i : Nat) {ls : Array Slot} {H : Heap} {locs : List Loc} {κ ρ : Sg} (hr : meth.sig.returnType = ret) (hlocks : meth.locks = false) (X : LX p s m meth c b L xs dC dI cI cT cS) (hn : i ≤ L + 6 ∧ L < i + n) (hl : lv_has ls 4 [(3, .int (nI i)), (2, .ref (ad' 0)), (1, .ref (ad 0)), (0, .ref b)]) (hP : va_P (dC, dI) vwCl (Wd 153 (cfC ad cI cT cS) κ ++ Wd 24 (cfR ad' cI) ρ) H) (hD : va_D (fun q : Nat => s.heap.size ≤ q) (Wd 153 (cfC ad cI cT cS) κ ++ Wd 24 (cfR ad' cI) ρ)) (hS : va_S (fun q : Nat => s.heap.size ≤ q) s.heap H locs) (hR : Rel κ ρ), W p l e room_1 s m #[Value.ref b] below meth c H locs 177 3831 (lw_Z below #[Value.ref b] s) (F0 m 18 ls [])
  | 0, i, _, _, _, _, _, hr, hlocks, X, hn, hl, hP, hD, hS, hR => law_step hr hlocks X hn.1 hl hP hD hS hR (fun h => absurd h (by omega))
  | n + 1, i, _, _, _, _, _, hr, hlocks, X, hn, hl, hP, hD, hS, hR => law_step hr hlocks X hn.1 hl hP hD hS hR (fun h _ _ _ _ _ hl hP hD hS hR => law_loop n (i + 6) hr hlocks X ⟨by omega, by omega⟩ hl hP hD hS hR)
set_option maxHeartbeats 40000000 in
set_option maxRecDepth 100000 in
theorem whole_start {p : Program} {e : Env} {s : State} {m : MethodId} {below : List Frame} {meth : Method} {c : Code} (l : Launch) (hflags : l.flags = flags0) {b L : Nat} {xs : Nat → Int32} (hL : L ≤ 3072) (C0 : lw_At p s m meth c b L xs) : W p l e room_1 s m #[Value.ref b] below meth c s.heap [] 0 0 (lw_Z below #[Value.ref b] s) (entryFrame m ([Value.ref b] : List Value).toArray 4) := by
  obtain ⟨hx, hb, hr, hml, hown0, hts0, hX, hbl, hlocks, hgv⟩ := id C0
  have hown : s.vm.findClass RL = some m.cls := hown0
  have hA : ∀ q : Nat, s.heap.size ≤ q → (fun q : Nat => s.heap.size ≤ q) q := fun _ h => h
  have hts : ∀ w ∈ vc_law, w.before #[Value.ref b] s = true := fun w h => hts0 w (tb_c_law w h)
  obtain ⟨c0, iS0, hKn0⟩ := u_known (C := RX0) (T := TX0) (N := 6) (n := 6) hts0 tab_X0 (hts0 (.instantiable RX0 6) (mt_1 (List.mem_of_getElem? (i := 187) rfl)))
  obtain ⟨c1, iS1, hKn1⟩ := u_known (C := RX2) (T := TX2) (N := 7) (n := 7) hts0 tab_X2 (hts0 (.instantiable RX2 7) (mt_1 (List.mem_of_getElem? (i := 83) rfl)))
  obtain ⟨c2, iS2, hKn2⟩ := u_known (C := RX3) (T := TX3) (N := 12) (n := 12) hts0 tab_X3 (hts0 (.instantiable RX3 12) (mt_1 (List.mem_of_getElem? (i := 75) rfl)))
  obtain ⟨c3, iS3, hKn3⟩ := u_known (C := RX4) (T := TX4) (N := 5) (n := 5) hts0 tab_X4 (hts0 (.instantiable RX4 5) (mt_1 (List.mem_of_getElem? (i := 27) rfl)))
  obtain ⟨c4, iS4, hKn4⟩ := u_known (C := RX5) (T := TX5) (N := 2) (n := 2) hts0 tab_X5 (hts0 (.instantiable RX5 2) (mt_1 (List.mem_of_getElem? (i := 60) rfl)))
  obtain ⟨c5, iS5, hKn5⟩ := u_known (C := RX6) (T := TX6) (N := 3) (n := 3) hts0 tab_X6 (hts0 (.instantiable RX6 3) (mt_2 (List.mem_of_getElem? (i := 23) rfl)))
  obtain ⟨c6, iS6, hKn6⟩ := u_known (C := RX8) (T := TX8) (N := 12) (n := 12) hts0 tab_X8 (hts0 (.instantiable RX8 12) (mt_1 (List.mem_of_getElem? (i := 90) rfl)))
  obtain ⟨c7, iS7, hKn7⟩ := u_known (C := RX9) (T := TX9) (N := 14) (n := 14) hts0 tab_X9 (hts0 (.instantiable RX9 14) (mt_1 (List.mem_of_getElem? (i := 19) rfl)))
  obtain ⟨c8, iS8, hKn8⟩ := u_known (C := RX10) (T := TX10) (N := 46) (n := 46) hts0 tab_X10 (hts0 (.instantiable RX10 46) (mt_4 (List.mem_of_getElem? (i := 76) rfl)))
  obtain ⟨dC, dI, hKc⟩ : ∃ (dC : Nat → ClassId) (dI : Nat → Nat → Nat), ∀ (k : Nat) (q : vw_C), vwCl[k]? = some q → u_Kn s q.1 q.2.1 q.2.2 (dC k) (dI k) := by
    refine ⟨fun k => if k = 0 then c0 else if k = 1 then c1 else if k = 2 then c2 else if k = 3 then c3 else if k = 4 then c4 else if k = 5 then c5 else if k = 6 then c6 else if k = 7 then c7 else c8, fun k => if k = 0 then iS0 else if k = 1 then iS1 else if k = 2 then iS2 else if k = 3 then iS3 else if k = 4 then iS4 else if k = 5 then iS5 else if k = 6 then iS6 else if k = 7 then iS7 else iS8, ?_⟩
    intro k q hq
    match k, hq with
    | 0, hq => cases hq; exact hKn0
    | 1, hq => cases hq; exact hKn1
    | 2, hq => cases hq; exact hKn2
    | 3, hq => cases hq; exact hKn3
    | 4, hq => cases hq; exact hKn4
    | 5, hq => cases hq; exact hKn5
    | 6, hq => cases hq; exact hKn6
    | 7, hq => cases hq; exact hKn7
    | 8, hq => cases hq; exact hKn8
    | k + 9, hq => simp [vwCl] at hq
  obtain ⟨cI, kI, compI, i1, i2, i3⟩ := Cond.arrayClass_spec (hts0 (.arrayClass .int) (mt_1 (List.mem_of_getElem? (i := 58) rfl)))
  obtain ⟨cpT, cT, kT, t1, _, t3, t4, t5⟩ := Cond.arrayOver_spec (hts0 (.arrayOver (.object RX8)) (mt_1 (List.mem_of_getElem? (i := 89) rfl)))
  obtain ⟨cpS, cS, kS, s1, _, s3, s4, s5⟩ := Cond.arrayOver_spec (hts0 (.arrayOver (.object RX6)) (mt_2 (List.mem_of_getElem? (i := 22) rfl)))
  have hK0 : va_K (dC, dI) vwCl (gTY cI cT cS) s := by
    refine ⟨hKc, fun k q hq => ?_⟩
    match k, hq with
    | 0, hq => cases hq; exact ⟨fun n z => ⟨fun k h => (by cases h), kI, i2, compI, i3⟩, i1⟩
    | 1, hq => cases hq; exact ⟨fun n z => ⟨fun k h => (by cases h), kT, t3, cpT, t4⟩, kT, cpT, t3, t4, t1, t5⟩
    | 2, hq => cases hq; exact ⟨fun n z => ⟨fun k h => (by cases h), kS, s3, cpS, s4⟩, kS, cpS, s3, s4, s1, s5⟩
    | k + 3, hq => simp [gTY] at hq
  have hK : gK (dC, dI) (gTY cI cT cS) s := ⟨hK0, va_Nw.of rfl (hts0 (.methodLinkNest RX9 9 yX4_init RX9) (mt_1 (List.mem_of_getElem? (i := 28) rfl))), va_Nw.of rfl (hts0 (.methodLinkNest RX9 18 yX5_init RX9) (mt_1 (List.mem_of_getElem? (i := 61) rfl))), va_Nw.of rfl (hts0 (.methodLinkNest RX9 44 yX6_init RX9) (mt_2 (List.mem_of_getElem? (i := 24) rfl))), va_Nw.of rfl (hts0 (.methodLinkNest RX3 11 yX5_init RX9) (mt_1 (List.mem_of_getElem? (i := 81) rfl))), va_Nw.of rfl (hts0 (.methodLinkNest RX3 27 yX0_init RX9) (mt_1 (List.mem_of_getElem? (i := 188) rfl))), va_Nw.of rfl (hts0 (.methodLinkNest RX5 22 yX9_isRegister RX9) (mt_3 (List.mem_of_getElem? (i := 125) rfl))), va_AO.of (hts0 (.arrayOver (.object RX8)) (mt_1 (List.mem_of_getElem? (i := 89) rfl))), va_AO.of (hts0 (.arrayOver (.object RX6)) (mt_2 (List.mem_of_getElem? (i := 22) rfl)))⟩
  have X : LX p s m meth c b L xs dC dI cI cT cS := ⟨hx, hb, hml, hown, hts, hX, hbl, hK, hL⟩
  refine gstart (fun H locs hHe hLe => ?_)
  have hS : va_S (fun q : Nat => s.heap.size ≤ q) s.heap H locs := by rw [← hHe, ← hLe]; exact va_S.rf
  have hP : va_P (dC, dI) vwCl [] H := fun k q h => by simp at h
  have hD : va_D (fun q : Nat => s.heap.size ≤ q) [] := ⟨fun i j p q h => by simp at h, fun k q h => by simp at h⟩
  clear hHe hLe
  have hl := lv_entry ([.ref b]) (n := 4) (Nat.le_of_ble_eq_true rfl)
  rw [lg_entry_eq]
  generalize (lg_sl ([.ref b]) ++ List.replicate (4 - (lg_sl ([.ref b])).length) Slot.unset).toArray = ls at hl ⊢
  replace hl : lv_has ls 4 [(0, .ref b)] := hl
  refine va_new (ci := 7) (fs := [.null, .null, .null, .null, .null, .null, .int 0, .int 0, .int 0, .int 0, .int 0, .int 0, .int 0, .int 0]) (C := RX9) (T := TX9) (N := 14) hx hb hts iw_c_law_X9 tyX9 tyX9_ok hown (hts (.classLink RL 7 RX9) (List.mem_of_getElem? (i := 153) rfl)) (hts (.instantiable RX9 14) (List.mem_of_getElem? (i := 154) rfl)) (hts (.initialized RX9) (List.mem_of_getElem? (i := 4) rfl)) hK.1 hP hD hS hA rfl (by decide) (Nat.le_of_ble_eq_true rfl) (Nat.le_of_ble_eq_true rfl) dL_law_0 (fun q1 H hP hD hS => ?_)
  replace hP : va_P (dC, dI) vwCl [(q1, .inr (7, [.null, .null, .null, .null, .null, .null, .int 0, .int 0, .int 0, .int 0, .int 0, .int 0, .int 0, .int 0]))] H := hP
  replace hD : va_D (fun q : Nat => s.heap.size ≤ q) [(q1, .inr (7, [.null, .null, .null, .null, .null, .null, .int 0, .int 0, .int 0, .int 0, .int 0, .int 0, .int 0, .int 0]))] := hD
  refine lv_dup hx hb dL_law_3 rfl ?_
  refine gcallv (S := (Nat → Nat)) (wc := [(q1, .inr (7, [.null, .null, .null, .null, .null, .null, .int 0, .int 0, .int 0, .int 0, .int 0, .int 0, .int 0, .int 0]))]) (wr := []) (w1 := fun (u : Nat → Nat) => Wd 153 (cfC u cI cT cS) sg0) (va_runI (As := []) (rest := [.ref q1]) ⟨hx, hb, hml, hown, hts⟩ (c_X9_init l dC dI cI cT cS H.size q1) (cwI 0 hts (goodIn_sub ic_c_law_c_X9_init gd_c_X9_init) rfl rfl rfl (hts (.initialized RX9) (List.mem_of_getElem? (i := 4) rfl)) (hts (.methodLink RL 9 yX9_init) (List.mem_of_getElem? (i := 155) rfl)) (hts (.instanceMethod yX9_init) (List.mem_of_getElem? (i := 156) rfl)) rfl (by decide +kernel) ⟨(Nat.le_of_ble_eq_true rfl), (Nat.le_of_ble_eq_true rfl)⟩) (gpS (hP.sub (ws' := [(q1, .inr (7, [.null, .null, .null, .null, .null, .null, .int 0, .int 0, .int 0, .int 0, .int 0, .int 0, .int 0, .int 0]))]) [0] rfl) hK (hD.sub (ws' := [(q1, .inr (7, [.null, .null, .null, .null, .null, .null, .int 0, .int 0, .int 0, .int 0, .int 0, .int 0, .int 0, .int 0]))]) [0] (by decide) rfl)) rfl rfl hl.1 rfl (lv_room (Nat.le_of_ble_eq_true rfl)) dL_law_4 ⟨(Nat.le_of_ble_eq_true rfl), (Nat.le_of_ble_eq_true rfl)⟩) hP hD hS hA [0] [] rfl rfl (by decide) (by decide) (fun ad H locs wad hP hD hS => ?_)
  have wad1 : ad 0 = q1 := wad
  replace hP : va_P (dC, dI) vwCl (Wd 153 (cfC ad cI cT cS) sg0) H := hP
  replace hD : va_D (fun q : Nat => s.heap.size ≤ q) (Wd 153 (cfC ad cI cT cS) sg0) := hD
  refine W.widen (k := 153) (n := 2381) (Nat.le_of_ble_eq_true rfl) (Nat.le_of_ble_eq_true rfl) ?_
  refine lv_astore_n (lv' := [(1, .ref q1), (0, .ref b)]) hx hb dL_law_7 rfl hl (by decide) rfl (fun ls hl => ?_)
  refine va_new (ci := 8) (fs := [.null, .null, .null, .null, .int 0, .int 0, .null, .null, .null, .int 0, .int 0, .null, .null, .int 0, .int 0, .int 0, .int 0, .int 0, .int 0, .int 0, .int 0, .int 0, .int 0, .null, .null, .int 0, .null, .null, .null, .null, .null, .null, .null, .null, .null, .null, .null, .int 0, .int 0, .int 0, .int 0, .int 0, .int 0, .int 0, .int 0, .null]) (C := RX10) (T := TX10) (N := 46) hx hb hts iw_c_law_X10 tyX10 tyX10_ok hown (hts (.classLink RL 10 RX10) (List.mem_of_getElem? (i := 157) rfl)) (hts (.instantiable RX10 46) (List.mem_of_getElem? (i := 158) rfl)) (hts (.initialized RX10) (List.mem_of_getElem? (i := 8) rfl)) hK.1 hP hD hS hA rfl (by decide) (Nat.le_of_ble_eq_true rfl) (Nat.le_of_ble_eq_true rfl) dL_law_8 (fun q2 H hP hD hS => ?_)
  replace hP : va_P (dC, dI) vwCl (Wd 153 (cfC ad cI cT cS) sg0 ++ [(q2, .inr (8, [.null, .null, .null, .null, .int 0, .int 0, .null, .null, .null, .int 0, .int 0, .null, .null, .int 0, .int 0, .int 0, .int 0, .int 0, .int 0, .int 0, .int 0, .int 0, .int 0, .null, .null, .int 0, .null, .null, .null, .null, .null, .null, .null, .null, .null, .null, .null, .int 0, .int 0, .int 0, .int 0, .int 0, .int 0, .int 0, .int 0, .null]))]) H := hP
  replace hD : va_D (fun q : Nat => s.heap.size ≤ q) (Wd 153 (cfC ad cI cT cS) sg0 ++ [(q2, .inr (8, [.null, .null, .null, .null, .int 0, .int 0, .null, .null, .null, .int 0, .int 0, .null, .null, .int 0, .int 0, .int 0, .int 0, .int 0, .int 0, .int 0, .int 0, .int 0, .int 0, .null, .null, .int 0, .null, .null, .null, .null, .null, .null, .null, .null, .null, .null, .null, .int 0, .int 0, .int 0, .int 0, .int 0, .int 0, .int 0, .int 0, .null]))]) := hD
  refine lv_dup hx hb dL_law_11 rfl ?_
  refine gcallv (S := (Nat → Nat)) (wc := [(q2, .inr (8, [.null, .null, .null, .null, .int 0, .int 0, .null, .null, .null, .int 0, .int 0, .null, .null, .int 0, .int 0, .int 0, .int 0, .int 0, .int 0, .int 0, .int 0, .int 0, .int 0, .null, .null, .int 0, .null, .null, .null, .null, .null, .null, .null, .null, .null, .null, .null, .int 0, .int 0, .int 0, .int 0, .int 0, .int 0, .int 0, .int 0, .null]))]) (wr := Wd 153 (cfC ad cI cT cS) sg0) (w1 := fun (u : Nat → Nat) => Wd 24 (cfR u cI) sgR0) (va_runI (As := []) (rest := [.ref q2]) ⟨hx, hb, hml, hown, hts⟩ (c_X10_init l dC dI cI cT cS H.size q2) (cwI 0 hts (goodIn_sub ic_c_law_c_X10_init gd_c_X10_init) rfl rfl rfl (hts (.initialized RX10) (List.mem_of_getElem? (i := 8) rfl)) (hts (.methodLink RL 12 yX10_init) (List.mem_of_getElem? (i := 159) rfl)) (hts (.instanceMethod yX10_init) (List.mem_of_getElem? (i := 160) rfl)) rfl (by decide +kernel) ⟨(Nat.le_of_ble_eq_true rfl), (Nat.le_of_ble_eq_true rfl)⟩) (gpS (tw_P2 hP) hK (tw_D2 hD)) rfl rfl hl.1 rfl (lv_room (Nat.le_of_ble_eq_true rfl)) dL_law_12 ⟨(Nat.le_of_ble_eq_true rfl), (Nat.le_of_ble_eq_true rfl)⟩) hP hD hS hA [153] (List.range 153) (tw_last _ _) (tw_first _ _) nd153' dis153 (fun ad' H locs wad hP hD hS => ?_)
  have wad2 : ad' 0 = q2 := wad
  replace hP : va_P (dC, dI) vwCl (Wd 153 (cfC ad cI cT cS) sg0 ++ Wd 24 (cfR ad' cI) sgR0) H := hP
  replace hD : va_D (fun q : Nat => s.heap.size ≤ q) (Wd 153 (cfC ad cI cT cS) sg0 ++ Wd 24 (cfR ad' cI) sgR0) := hD
  refine W.widen (k := 177) (n := 3831) (Nat.le_of_ble_eq_true rfl) (Nat.le_of_ble_eq_true rfl) ?_
  refine lv_astore_n (lv' := [(2, .ref q2), (1, .ref q1), (0, .ref b)]) hx hb dL_law_15 rfl hl (by decide) rfl (fun ls hl => ?_)
  refine lv_iconst (v := 0) hx hb dL_law_16 (by decide) ?_
  refine lv_istore_n (lv' := [(3, .int (nI 0)), (2, .ref q2), (1, .ref q1), (0, .ref b)]) hx hb dL_law_17 rfl hl (by decide) rfl (fun ls hl => ?_)
  rw [← wad1, ← wad2] at hl
  exact law_loop (L + 1) 0 hr hlocks X (by omega) hl hP hD hS rel0
