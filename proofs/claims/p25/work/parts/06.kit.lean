/-! own rows: worlds, contracts and calls in short words -/
abbrev gTY (cI cT cS : ClassId) : List (ClassId × FieldType) := [(cI, .int), (cT, .object RX8), (cS, .object RX6)]
def gNE (U : State) : Prop := va_Nw (.methodLinkNest RX9 9 yX4_init RX9) U ∧ va_Nw (.methodLinkNest RX9 18 yX5_init RX9) U ∧ va_Nw (.methodLinkNest RX9 44 yX6_init RX9) U ∧ va_Nw (.methodLinkNest RX3 11 yX5_init RX9) U ∧ va_Nw (.methodLinkNest RX3 27 yX0_init RX9) U ∧ va_Nw (.methodLinkNest RX5 22 yX9_isRegister RX9) U ∧ va_AO RX8 U ∧ va_AO RX6 U
def gK (D : va_G) (T : List (ClassId × FieldType)) (U : State) : Prop := va_K D vwCl T U ∧ gNE U
theorem gNE.warm {s U : State} (hW : s.WarmedH U.vm) (h : gNE s) : gNE U :=
  ⟨va_Nw.warmM hW h.1, va_Nw.warmM hW h.2.1, va_Nw.warmM hW h.2.2.1, va_Nw.warmM hW h.2.2.2.1, va_Nw.warmM hW h.2.2.2.2.1, va_Nw.warmM hW h.2.2.2.2.2.1, va_AO.moved hW.alike h.2.2.2.2.2.2.1, va_AO.moved hW.alike h.2.2.2.2.2.2.2⟩
theorem gNE.same {s U : State} (e : s.vm = U.vm) (h : gNE s) : gNE U :=
  ⟨va_Nw.same rfl e h.1, va_Nw.same rfl e h.2.1, va_Nw.same rfl e h.2.2.1, va_Nw.same rfl e h.2.2.2.1, va_Nw.same rfl e h.2.2.2.2.1, va_Nw.same rfl e h.2.2.2.2.2.1, va_AO.moved (e ▸ Vm.Alike.refl s.vm) h.2.2.2.2.2.2.1, va_AO.moved (e ▸ Vm.Alike.refl s.vm) h.2.2.2.2.2.2.2⟩
theorem gK.warm {D : va_G} {T : List (ClassId × FieldType)} {s U : State} (hW : s.WarmedH U.vm) (h : gK D T s) : gK D T U := ⟨va_K.moved hW.alike h.1, h.2.warm hW⟩
theorem gK.call {D : va_G} {T : List (ClassId × FieldType)} {U : State} {g : JFrame} {mk : MethodId} {a : Array Value} (h : gK D T U) : gK D T (U.calling g mk a) := ⟨va_K.moved (u := U) (U := U.calling g mk a) (Vm.Alike.refl U.vm) h.1, h.2.same (U := U.calling g mk a) rfl⟩
def gI (D : va_G) (T : List (ClassId × FieldType)) (sz : Nat) (ws : va_W) (U : State) : Prop := U.heap.size = sz ∧ va_P D vwCl ws U.heap ∧ gK D T U ∧ va_D (fun _ => True) ws
def gB {S : Type} (D : va_G) (A : Nat → Prop) (w1 : S → va_W) (u : S) (t : State) : Prop := va_P D vwCl (w1 u) t.heap ∧ va_D A (w1 u)
abbrev gCI {S : Type} (l : Launch) (y : MethodName) (wy : List Cond) (rm : Room) (D : va_G) (T : List (ClassId × FieldType)) (sz : Nat) (av : List Value) (ws : va_W) (post : Int32 → S → Prop) (w1 : S → va_W) (mc ms : Nat) : Prop := Met l y wy rm (va_Pc av (gI D T sz ws)) (va_Qi post (gB D (va_A ws sz) w1) (va_A ws sz)) mc ms (va_A ws sz)
abbrev gCL {S : Type} (l : Launch) (y : MethodName) (wy : List Cond) (rm : Room) (D : va_G) (T : List (ClassId × FieldType)) (sz : Nat) (av : List Value) (ws : va_W) (post : Int64 → S → Prop) (w1 : S → va_W) (mc ms : Nat) : Prop := Met l y wy rm (va_Pc av (gI D T sz ws)) (va_Ql post (gB D (va_A ws sz) w1) (va_A ws sz)) mc ms (va_A ws sz)
abbrev gCV {S : Type} (l : Launch) (y : MethodName) (wy : List Cond) (rm : Room) (D : va_G) (T : List (ClassId × FieldType)) (sz : Nat) (av : List Value) (ws : va_W) (post : S → Prop) (w1 : S → va_W) (mc ms : Nat) : Prop := Met l y wy rm (va_Pc av (gI D T sz ws)) (va_Qv post (gB D (va_A ws sz) w1) (va_A ws sz)) mc ms (va_A ws sz)
theorem gblind {D : va_G} {T : List (ClassId × FieldType)} {sz : Nat} {ws : va_W} {av : List Value} : FrameBlind (va_Pc av (gI D T sz ws)) := fun _ _ _ _ q => ⟨q.1, q.2.1, q.2.2.1, q.2.2.2.1.call, q.2.2.2.2⟩
theorem gpS {s : State} {H : Heap} {A : Nat → Prop} {D : va_G} {T : List (ClassId × FieldType)} {ws : va_W} {av : List Value} (hP : va_P D vwCl ws H) (hK : gK D T s) (hD : va_D A ws) : PreS s H (va_Pc av (gI D T H.size ws)) av :=
  ⟨gblind, fun U hU hW => ⟨rfl, by rw [hU], by rw [hU]; exact hP, hK.warm hW, hD.weaken (fun _ _ _ _ => trivial)⟩⟩
theorem gpV {s : State} {H : Heap} {A : Nat → Prop} {D : va_G} {T : List (ClassId × FieldType)} {ws : va_W} {As : List Value} {a : Nat} (q0 ci : Nat) {q : vw_C} {fs : List Value} (hP : va_P D vwCl ws H) (hK : gK D T s) (hD : va_D A ws) (hc : vwCl[ci]? = some q) (he : ws[q0]? = some (a, .inr (ci, fs))) : PreV s H q.1 a (va_Pc (.ref a :: As) (gI D T H.size ws)) As :=
  ⟨gblind, va_recv hK.1 hP hc he, fun U hU hW => ⟨rfl, by rw [hU], by rw [hU]; exact hP, hK.warm hW, hD.weaken (fun _ _ _ _ => trivial)⟩⟩
section GC
variable {p : Program} {l : Launch} {e : Env} {R : Room} {s : State} {m : MethodId} {args : Array Value} {below : List Frame} {meth : Method} {c : Code} {H : Heap} {locs : List Loc} {cells slots : Nat} {Q : State → Prop} {pc : Nat} {ls : Array Slot} {rest st0 : List Value} {D : va_G} {A0 : Nat → Prop} {H0 : Heap} {mc ms : Nat} {a : Array Value} {wc wr ws : va_W}
theorem gcalli {S : Type} {post : Int32 → S → Prop} {w1 : S → va_W} (hr : va_Run p l e R s m args below meth c H locs cells slots mc ms (F0 m pc ls st0) rest (va_Qi post (gB D (va_A wc H.size) w1) (va_A wc H.size) a) (va_A wc H.size)) (hP : va_P D vwCl ws H) (hD : va_D A0 ws) (hS : va_S A0 H0 H locs) (hA : ∀ q, H0.size ≤ q → A0 q) (isC isR : List Nat) (hC : isC.map (fun i => ws[i]?) = wc.map some) (hR : isR.map (fun i => ws[i]?) = wr.map some) (hn : va_nd isR = true) (hdis : ∀ i ∈ isR, i ∉ isC)
    (kk : ∀ (r : Int32) (u : S) (H1 : Heap) (locs1 : List Loc), post r u → va_P D vwCl (wr ++ w1 u) H1 → va_D A0 (wr ++ w1 u) → va_S A0 H0 H1 locs1 → W p l e R s m args below meth c H1 locs1 (cells + mc) (slots + ms) Q (F0 m (pc + 3) ls (.int r :: rest))) : W p l e R s m args below meth c H locs cells slots Q (F0 m pc ls st0) := by
  have hF := va_free hD hS hA isC hC
  refine va_calli hr hS (fun q _ h => hF q h) hF (fun r u t H1 locs1 ht hvm hw hB hz hk hS1 => ?_)
  obtain ⟨hP1, hD1⟩ := hB
  rw [ht] at hP1
  obtain ⟨hP2, hD2⟩ := va_join hP hD isC isR hC hR hn hdis hk hF hP1 hD1
  exact kk r u H1 locs1 hw hP2 hD2 hS1
theorem gcalll {S : Type} {post : Int64 → S → Prop} {w1 : S → va_W} (hr : va_Run p l e R s m args below meth c H locs cells slots mc ms (F0 m pc ls st0) rest (va_Ql post (gB D (va_A wc H.size) w1) (va_A wc H.size) a) (va_A wc H.size)) (hP : va_P D vwCl ws H) (hD : va_D A0 ws) (hS : va_S A0 H0 H locs) (hA : ∀ q, H0.size ≤ q → A0 q) (isC isR : List Nat) (hC : isC.map (fun i => ws[i]?) = wc.map some) (hR : isR.map (fun i => ws[i]?) = wr.map some) (hn : va_nd isR = true) (hdis : ∀ i ∈ isR, i ∉ isC)
    (kk : ∀ (r : Int64) (u : S) (H1 : Heap) (locs1 : List Loc), post r u → va_P D vwCl (wr ++ w1 u) H1 → va_D A0 (wr ++ w1 u) → va_S A0 H0 H1 locs1 → W p l e R s m args below meth c H1 locs1 (cells + mc) (slots + ms) Q (F0 m (pc + 3) ls (.long r :: rest))) : W p l e R s m args below meth c H locs cells slots Q (F0 m pc ls st0) := by
  have hF := va_free hD hS hA isC hC
  refine va_calll hr hS (fun q _ h => hF q h) hF (fun r u t H1 locs1 ht hvm hw hB hz hk hS1 => ?_)
  obtain ⟨hP1, hD1⟩ := hB
  rw [ht] at hP1
  obtain ⟨hP2, hD2⟩ := va_join hP hD isC isR hC hR hn hdis hk hF hP1 hD1
  exact kk r u H1 locs1 hw hP2 hD2 hS1
theorem gcallv {S : Type} {post : S → Prop} {w1 : S → va_W} (hr : va_Run p l e R s m args below meth c H locs cells slots mc ms (F0 m pc ls st0) rest (va_Qv post (gB D (va_A wc H.size) w1) (va_A wc H.size) a) (va_A wc H.size)) (hP : va_P D vwCl ws H) (hD : va_D A0 ws) (hS : va_S A0 H0 H locs) (hA : ∀ q, H0.size ≤ q → A0 q) (isC isR : List Nat) (hC : isC.map (fun i => ws[i]?) = wc.map some) (hR : isR.map (fun i => ws[i]?) = wr.map some) (hn : va_nd isR = true) (hdis : ∀ i ∈ isR, i ∉ isC)
    (kk : ∀ (u : S) (H1 : Heap) (locs1 : List Loc), post u → va_P D vwCl (wr ++ w1 u) H1 → va_D A0 (wr ++ w1 u) → va_S A0 H0 H1 locs1 → W p l e R s m args below meth c H1 locs1 (cells + mc) (slots + ms) Q (F0 m (pc + 3) ls rest)) : W p l e R s m args below meth c H locs cells slots Q (F0 m pc ls st0) := by
  have hF := va_free hD hS hA isC hC
  refine va_callv hr hS (fun q _ h => hF q h) hF (fun u t H1 locs1 ht hvm hw hB hz hk hS1 => ?_)
  obtain ⟨hP1, hD1⟩ := hB
  rw [ht] at hP1
  obtain ⟨hP2, hD2⟩ := va_join hP hD isC isR hC hR hn hdis hk hF hP1 hD1
  exact kk u H1 locs1 hw hP2 hD2 hS1
theorem gnewi {cc : ByteArray} {cI cT cS : ClassId} (hexec : p.tables.exec = Jvm.exec) (hb : c.code = cc) (harr : (Cond.arrayClass .int).before args s = true) (hK : gK D (gTY cI cT cS) s) (hP : va_P D vwCl ws H) (hD : va_D A0 ws) (hS : va_S A0 H0 H locs) (hA : ∀ q, H0.size ≤ q → A0 q)
    {n : Int32} (N' : Nat) (hn : ¬ n < 0) (hN : n.toNatClampNeg = N') (hbytes : N' * 4 ≤ 536870912) (hcells : cells + 1 ≤ R.cells) (hslots : slots + N' ≤ R.slots) (hdg : decode cc pc = .ok (.newarray .int, 2))
    (kk : ∀ (q : Nat) (H1 : Heap), va_P D vwCl (ws ++ [(q, .inl (cI, N', .inl (fun _ => 0)))]) H1 → va_D A0 (ws ++ [(q, .inl (cI, N', .inl (fun _ => 0)))]) → va_S A0 H0 H1 locs →
      W p l e R s m args below meth c H1 locs (cells + 1) (slots + N') Q (F0 m (pc + 2) ls (.ref q :: rest))) : W p l e R s m args below meth c H locs cells slots Q (F0 m pc ls (.int n :: rest)) := by
  refine va_newa (atype := .int) (ty := .int) (a0 := (N', .inl (fun _ => 0))) hexec hb harr rfl hK.1 hP hD hS hA (fun cA => by rw [vp_cell_i]; rfl) hn hN hbytes hcells hslots hdg (fun q cA H1 hK1 hP1 hD1 hS1 => ?_)
  have e1 : s.vm.findClass ("[" ++ FieldType.int.toString) = some cA := (hK1.2 3 (cA, .int) rfl).2
  have e2 : s.vm.findClass ("[" ++ FieldType.int.toString) = some cI := (hK.1.2 0 (cI, .int) rfl).2
  have e3 : cA = cI := Option.some.inj (e1.symm.trans e2)
  subst e3
  exact kk q H1 hP1 hD1 hS1
theorem gnewT {cc : ByteArray} {cI cT cS : ClassId} (hexec : p.tables.exec = Jvm.exec) (hb : c.code = cc) {own : String} {index : Nat} (hown : s.vm.findClass own = some m.cls) (hclink : (Cond.classLink own index RX8).before args s = true) (hK : gK D (gTY cI cT cS) s) (hP : va_P D vwCl ws H) (hD : va_D A0 ws) (hS : va_S A0 H0 H locs) (hA : ∀ q, H0.size ≤ q → A0 q)
    {n : Int32} (N' : Nat) (hn : ¬ n < 0) (hN : n.toNatClampNeg = N') (hbytes : N' * 4 ≤ 536870912) (hcells : cells + 1 ≤ R.cells) (hslots : slots + N' ≤ R.slots) (hdg : decode cc pc = .ok (.anewarray index, 3))
    (kk : ∀ (q : Nat) (H1 : Heap), va_P D vwCl (ws ++ [(q, .inl (cT, N', .inr (.inr (.inr (.inr (fun _ => none))))))]) H1 → va_D A0 (ws ++ [(q, .inl (cT, N', .inr (.inr (.inr (.inr (fun _ => none))))))]) → va_S A0 H0 H1 locs →
      W p l e R s m args below meth c H1 locs (cells + 1) (slots + N') Q (F0 m (pc + 3) ls (.ref q :: rest))) : W p l e R s m args below meth c H locs cells slots Q (F0 m pc ls (.int n :: rest)) := by
  refine va_newq hexec hb hown hclink hK.2.2.2.2.2.2.2.1 hK.1 hP hD hS hA hn hN hbytes hcells hslots hdg (fun q cA H1 hK1 hP1 hD1 hS1 => ?_)
  obtain ⟨_, _, _, _, _, e1⟩ := (hK1.2 3 (cA, .object RX8) rfl).2
  obtain ⟨_, _, _, _, _, e2⟩ := (hK.1.2 1 (cT, .object RX8) rfl).2
  have e3 : cA = cT := Option.some.inj (e1.symm.trans e2)
  subst e3
  exact kk q H1 hP1 hD1 hS1
theorem gnewS {cc : ByteArray} {cI cT cS : ClassId} (hexec : p.tables.exec = Jvm.exec) (hb : c.code = cc) {own : String} {index : Nat} (hown : s.vm.findClass own = some m.cls) (hclink : (Cond.classLink own index RX6).before args s = true) (hK : gK D (gTY cI cT cS) s) (hP : va_P D vwCl ws H) (hD : va_D A0 ws) (hS : va_S A0 H0 H locs) (hA : ∀ q, H0.size ≤ q → A0 q)
    {n : Int32} (N' : Nat) (hn : ¬ n < 0) (hN : n.toNatClampNeg = N') (hbytes : N' * 4 ≤ 536870912) (hcells : cells + 1 ≤ R.cells) (hslots : slots + N' ≤ R.slots) (hdg : decode cc pc = .ok (.anewarray index, 3))
    (kk : ∀ (q : Nat) (H1 : Heap), va_P D vwCl (ws ++ [(q, .inl (cS, N', .inr (.inr (.inr (.inr (fun _ => none))))))]) H1 → va_D A0 (ws ++ [(q, .inl (cS, N', .inr (.inr (.inr (.inr (fun _ => none))))))]) → va_S A0 H0 H1 locs →
      W p l e R s m args below meth c H1 locs (cells + 1) (slots + N') Q (F0 m (pc + 3) ls (.ref q :: rest))) : W p l e R s m args below meth c H locs cells slots Q (F0 m pc ls (.int n :: rest)) := by
  refine va_newq hexec hb hown hclink hK.2.2.2.2.2.2.2.2 hK.1 hP hD hS hA hn hN hbytes hcells hslots hdg (fun q cA H1 hK1 hP1 hD1 hS1 => ?_)
  obtain ⟨_, _, _, _, _, e1⟩ := (hK1.2 3 (cA, .object RX6) rfl).2
  obtain ⟨_, _, _, _, _, e2⟩ := (hK.1.2 2 (cS, .object RX6) rfl).2
  have e3 : cA = cS := Option.some.inj (e1.symm.trans e2)
  subst e3
  exact kk q H1 hP1 hD1 hS1
end GC
theorem g_in {x : Int32} {N : Nat} (h : ¬ (x < 0 ∨ N ≤ x.toNatClampNeg)) : vp_in x N := h
theorem g_ite1 {r : Int32} {P : Prop} [Decidable P] (h : r = if P then 1 else 0) (c : ¬ r = 0) : P := Decidable.byContradiction (fun n => c (by rw [h, if_neg n]))
theorem g_ite0 {r : Int32} {P : Prop} [Decidable P] (h : r = if P then 1 else 0) (c : r = 0) : ¬ P := fun n => by rw [h, if_pos n] at c; exact absurd c (by decide)
theorem g_upd0 (k : Nat) : upd (fun _ => 0) k 0 = fun _ => 0 := by funext j; simp [upd]
theorem g_upN (k : Nat) : va_up (fun _ => (none : Option Nat)) k none = fun _ => none := by funext j; simp [va_up]
theorem g_lx (N : Nat) {x k : Int32} {i : Nat} (hk : k = nI N) (ex : x = nI i) (hi : i ≤ N) (hN : N < 2 ^ 31) (c : k ≤ x) : i = N := by
  rw [hk, ex, nI_leI hN (by omega)] at c
  omega
theorem g_ln (N : Nat) {x k : Int32} {i : Nat} (hk : k = nI N) (ex : x = nI i) (hi : i ≤ N) (hN : N < 2 ^ 31) (c : ¬ k ≤ x) : i < N := by
  rw [hk, ex, nI_leI hN (by omega)] at c
  omega
theorem g_c_lt {x y : Int64} : lg_cmp x y < 0 ↔ x < y := by
  unfold lg_cmp
  rw [Int64.lt_iff_toInt_lt]
  split
  · rename_i h
    have := Int64.lt_iff_toInt_lt.mp h
    exact ⟨fun h => absurd h (by decide), fun h => by omega⟩
  · rename_i h
    split
    · rename_i h2
      subst h2
      exact ⟨fun h => absurd h (by decide), fun h => by omega⟩
    · rename_i h2
      have h3 : ¬ y.toInt < x.toInt := fun q => h (Int64.lt_iff_toInt_lt.mpr q)
      have h4 : ¬ x.toInt = y.toInt := fun q => h2 (Int64.toInt_inj.mp q)
      exact ⟨fun _ => by omega, fun _ => by decide⟩
theorem g_c_gt {x y : Int64} : 0 < lg_cmp x y ↔ y < x := by
  unfold lg_cmp
  split
  · rename_i h
    exact ⟨fun _ => h, fun _ => by decide⟩
  · rename_i h
    split
    · exact ⟨fun h => absurd h (by decide), fun q => absurd q h⟩
    · exact ⟨fun h => absurd h (by decide), fun q => absurd q h⟩
theorem g_c_eq {x y : Int64} : lg_cmp x y = 0 ↔ x = y := by
  unfold lg_cmp
  split
  · rename_i h
    exact ⟨fun h => absurd h (by decide), fun q => by subst q; have := Int64.lt_iff_toInt_lt.mp h; omega⟩
  · rename_i h
    split
    · rename_i h2
      exact ⟨fun _ => h2, fun _ => rfl⟩
    · rename_i h2
      exact ⟨fun h => absurd h (by decide), fun q => absurd q h2⟩
theorem g_c_ne {x y : Int64} : (¬ lg_cmp x y = 0) ↔ ¬ x = y := not_congr g_c_eq
theorem g_c_ge {x y : Int64} : 0 ≤ lg_cmp x y ↔ y ≤ x := by
  have h : (0 ≤ lg_cmp x y) ↔ ¬ (lg_cmp x y < 0) := by rw [Int32.le_iff_toInt_le, Int32.lt_iff_toInt_lt]; omega
  rw [h, g_c_lt, Int64.lt_iff_toInt_lt, Int64.le_iff_toInt_le]; omega
theorem g_c_le {x y : Int64} : lg_cmp x y ≤ 0 ↔ x ≤ y := by
  have h : (lg_cmp x y ≤ 0) ↔ ¬ (0 < lg_cmp x y) := by rw [Int32.le_iff_toInt_le, Int32.lt_iff_toInt_lt]; omega
  rw [h, g_c_gt, Int64.lt_iff_toInt_lt, Int64.le_iff_toInt_le]; omega
theorem gWV {Ts ws : List Cond} {own : String} {idx : Nat} {C : String} {y : MethodName} (a : Cond.methodLink own idx y ∈ Ts) (b : Cond.instanceMethod y ∈ Ts) (c : Cond.selects C y y ∈ Ts) (d : Cond.initialized C ∈ Ts) (h : ∀ w ∈ ws, w ∈ Ts) (g : ws.all goodWord = true) : GoodIn Ts (wsV own idx C y ws) := by
  refine goodIn_app ?_ (goodIn_sub h g)
  intro w hw
  simp only [List.mem_cons, List.not_mem_nil, or_false] at hw
  rcases hw with rfl | rfl | rfl | rfl
  · exact ⟨a, good_of_word rfl⟩
  · exact ⟨b, good_of_word rfl⟩
  · exact ⟨c, good_of_word rfl⟩
  · exact ⟨d, good_of_word rfl⟩
theorem gWS {Ts ws : List Cond} {own : String} {idx : Nat} {y : MethodName} (a : Cond.methodLink own idx y ∈ Ts) (b : Cond.static y ∈ Ts) (d : Cond.initialized y.cls ∈ Ts) (h : ∀ w ∈ ws, w ∈ Ts) (g : ws.all goodWord = true) : GoodIn Ts (va_wsS own idx y ws) := by
  refine goodIn_app ?_ (goodIn_sub h g)
  intro w hw
  simp only [List.mem_cons, List.not_mem_nil, or_false] at hw
  rcases hw with rfl | rfl | rfl
  · exact ⟨a, good_of_word rfl⟩
  · exact ⟨b, good_of_word rfl⟩
  · exact ⟨d, good_of_word rfl⟩
theorem g_sp4 {x : Int32} (h : 0 ≤ x.toInt ∧ x.toInt < 4) : x = 0 ∨ x = 1 ∨ x = 2 ∨ x = 3 := by
  have h0 : (x.toInt = 0 ∨ x.toInt = 1 ∨ x.toInt = 2 ∨ x.toInt = 3) := by omega
  rcases h0 with h0 | h0 | h0 | h0
  · exact Or.inl (Int32.toInt_inj.mp h0)
  · exact Or.inr (Or.inl (Int32.toInt_inj.mp h0))
  · exact Or.inr (Or.inr (Or.inl (Int32.toInt_inj.mp h0)))
  · exact Or.inr (Or.inr (Or.inr (Int32.toInt_inj.mp h0)))
theorem g_inof {x : Int32} {N : Nat} (h : 0 ≤ x.toInt ∧ x.toInt < N) : vp_in x N := vp_in_iff.mpr h
def mixB : Nat → Int64 → Int64
  | 0, h => h
  | n + 1, h => 31 * mixB n h + (-2)
theorem gstart {p : Program} {l : Launch} {e : Env} {R : Room} {s : State} {m : MethodId} {args : Array Value} {below : List Frame} {meth : Method} {c : Code} {H0 : Heap} {L0 : List Loc} {cells slots : Nat} {Q : State → Prop} {g : JFrame} (k : ∀ (H : Heap) (locs : List Loc), H0 = H → L0 = locs → W p l e R s m args below meth c H locs cells slots Q g) : W p l e R s m args below meth c H0 L0 cells slots Q g := k H0 L0 rfl rfl
def mixL : List Int64 → Int64 → Int64
  | [], h => h
  | c :: cs, h => mixL cs (31 * h + c)
def mixPn : Nat → Int64 → Int64
  | 0, h => h
  | n + 1, h => mixL [-2147483648, -2147483648, -2147483648, -2147483648, 0, 0, -1] (mixPn n h)
theorem g_nat60 {x : Int32} (h : 0 ≤ x.toInt ∧ x.toInt ≤ 60) : ∃ N : Nat, N ≤ 60 ∧ x = nI N := by
  refine ⟨x.toInt.toNat, by omega, Int32.toInt_inj.mp ?_⟩
  rw [nI_toInt (by omega)]
  omega
theorem g_in60 {x y : Int32} {i k : Nat} (ey : y = nI k + x) (ex : x = nI i) (h : k + i < 240) : vp_in y 240 := by
  rw [ey, ex, nI_add]
  exact vp_in_nI h (by decide)
theorem gjoin {α : Type} {p : Program} {l : Launch} {e : Env} {R : Room} {s : State} {m : MethodId} {args : Array Value} {below : List Frame} {meth : Method} {c : Code} {H0 : Heap} {L0 : List Loc} {cells slots : Nat} {Q : State → Prop} {g : JFrame} (pc2 : Nat) (Inv : α → Heap → List Loc → Array Slot → Prop) (k1 : ∀ (y : α) (H : Heap) (locs : List Loc) (ls : Array Slot), Inv y H locs ls → W p l e R s m args below meth c H locs cells slots Q (F0 m pc2 ls [])) (k2 : (∀ (y : α) (H : Heap) (locs : List Loc) (ls : Array Slot), Inv y H locs ls → W p l e R s m args below meth c H locs cells slots Q (F0 m pc2 ls [])) → W p l e R s m args below meth c H0 L0 cells slots Q g) : W p l e R s m args below meth c H0 L0 cells slots Q g := k2 k1
theorem g_mask23 (x : Int32) : 0 ≤ (x &&& 8388607).toInt ∧ (x &&& 8388607).toInt ≤ 8388607 := by
  have h1 : (x &&& 8388607).toBitVec = x.toBitVec &&& 8388607#32 := rfl
  have h2 : (x.toBitVec &&& 8388607#32).toNat ≤ 8388607 := by
    rw [BitVec.toNat_and]
    exact Nat.and_le_right
  have h3 : (x &&& 8388607).toInt = ((x.toBitVec &&& 8388607#32).toNat : Int) := by
    show (x &&& 8388607).toBitVec.toInt = _
    rw [h1, BitVec.toInt_eq_toNat_of_lt (by omega)]
  rw [h3]
  omega
theorem g_mask24 (x : Int32) : 0 ≤ (x &&& 8388607 ||| 8388608).toInt ∧ (x &&& 8388607 ||| 8388608).toInt < 16777216 := by
  have h1 : (x &&& 8388607 ||| 8388608).toBitVec = x.toBitVec &&& 8388607#32 ||| 8388608#32 := rfl
  have h0 : (x.toBitVec &&& 8388607#32).toNat < 2 ^ 24 := by
    rw [BitVec.toNat_and]
    exact Nat.lt_of_le_of_lt Nat.and_le_right (by decide)
  have h2 : (x.toBitVec &&& 8388607#32 ||| 8388608#32).toNat < 2 ^ 24 := by
    rw [BitVec.toNat_or]
    exact Nat.or_lt_two_pow h0 (by decide)
  have h3 : (x &&& 8388607 ||| 8388608).toInt = ((x.toBitVec &&& 8388607#32 ||| 8388608#32).toNat : Int) := by
    show (x &&& 8388607 ||| 8388608).toBitVec.toInt = _
    rw [h1, BitVec.toInt_eq_toNat_of_lt (by omega)]
  rw [h3]
  omega
theorem g_shr1 (y : Int64) : (y >>> ((1 : Int32).toInt64 &&& 63)).toInt = y.toInt / 2 := by
  have h1 : ((1 : Int32).toInt64 &&& 63) = (1 : Int64) := by decide
  rw [h1]
  have h2 : (y >>> (1 : Int64)).toInt = (y.toBitVec.sshiftRight' ((1 : Int64).toBitVec.smod 64)).toInt := rfl
  have h3 : ((1 : Int64).toBitVec.smod 64).toNat = 1 := by decide
  rw [h2, BitVec.toInt_sshiftRight', h3, Int.shiftRight_eq_div_pow]
  rfl
theorem g_neg64 {x : Int64} (h : x.toInt < 0 ∧ -2147483648 ≤ x.toInt) : 0 ≤ (-x).toInt := by
  obtain ⟨h1, h2⟩ := h
  rw [Int64.toInt_neg, show (2 ^ 64 : Nat) = 18446744073709551616 from rfl, Int.bmod_eq_of_le (by omega) (by omega)]
  omega
theorem g_mul64 {a b : Int64} (ha : 0 ≤ a.toInt ∧ a.toInt < 16777216) (hb : 0 ≤ b.toInt ∧ b.toInt < 16777216) : 0 ≤ (a * b).toInt := by
  have h1 : 0 ≤ a.toInt * b.toInt := Int.mul_nonneg ha.1 hb.1
  have h2 : a.toInt * b.toInt ≤ 16777216 * 16777216 := Int.mul_le_mul (by omega) (by omega) hb.1 (by decide)
  rw [Int64.toInt_mul, show (2 ^ 64 : Nat) = 18446744073709551616 from rfl]
  generalize a.toInt * b.toInt = z at h1 h2
  rw [Int.bmod_eq_of_le (by omega) (by omega)]
  exact h1
