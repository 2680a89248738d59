/-! checks: class counts bits, reference counts sides -/
def Yk (d : Nat) : Bool := decide (d = 2 ∨ d = 3 ∨ d = 4 ∨ d = 6)
def Zk (d : Nat) : Bool := decide (d = 1 ∨ d = 2 ∨ d = 3 ∨ d = 4 ∨ d = 5 ∨ d = 6)
theorem le9 {x : Nat} (h : x ≤ 9) : x = 0 ∨ x = 1 ∨ x = 2 ∨ x = 3 ∨ x = 4 ∨ x = 5 ∨ x = 6 ∨ x = 7 ∨ x = 8 ∨ x = 9 := by omega
theorem kindR {σ : Sg} {r2 q : Int32} {x : Int32 × Int32 × Int32 × Int32 × Int32} {d : Nat} (hd : d ≤ 9) : (if nI d = (2 : Int32) then (zb_X10_checksBy_88 σ r2 x (nI d) q) else (if nI d = (3 : Int32) then (zb_X10_checksBy_88 σ r2 x (nI d) q) else (if nI d = (4 : Int32) then (zb_X10_checksBy_88 σ r2 x (nI d) q) else (if nI d = (6 : Int32) then (zb_X10_checksBy_88 σ r2 x (nI d) q) else (zb_X10_checksBy_93 σ r2 x (nI d) q false))))) = zb_X10_checksBy_117 σ r2 x (Yk d) (nI d) q (Zk d) := by
  rcases le9 hd with rfl | rfl | rfl | rfl | rfl | rfl | rfl | rfl | rfl | rfl <;> rfl
theorem sideR {W : Int32} (x : Int32 × Int32 × Int32 × Int32 × Int32) (cnt : Bool) {r : Nat} (hr : r < 8) : zb_X10_checksBy_190 W x (nI r) cnt = some (true, (x.1 + 1, x.2.1 + b2i (cnt && (!bt x.2.2.2.2 r && !bt W r)), x.2.2.1 + b2i (cnt && !bt x.2.2.2.2 r), x.2.2.2.1 + b2i cnt, x.2.2.2.2 ||| (if cnt then bi r else 0))) := by
  unfold zb_X10_checksBy_190 zb_X10_checksBy_204 zb_X10_checksBy_228 zb_X10_checksBy_229 zb_X10_checksBy_262 zb_X10_checksBy_263 zb_X10_checksBy_281
  simp only [isIn_bt _ hr]
  cases cnt
  · rfl
  · cases h1 : bt x.2.2.2.2 r
    · cases h2 : bt W r
      · rfl
      · rfl
    · rfl
section Checks
variable {κ ρ κ' ρ' : Sg} {n : Nat} {kd aa zz : Nat → Nat} {bb : Nat → Int32} {T : Nat} {hd ln : Nat → Nat} {pt : Nat → Nat → Nat} {P S : Nat}
theorem sidesR {W : Int32} {q : Nat} (h : PR ρ n kd aa zz bb) (w : PW n kd aa zz) (hq : q < 24) (v u : Bool) (c2 c1 c0 s : Int32) : lp (X := Int32 × Int32 × Int32 × Int32 × Int32) (zl_X10_checksBy_122 ρ W v (nI q) u) 1000 ((0 : Int32), c2, c1, c0, s) = some (2, c2 + b2i (v && (!bt s (yy bb q) && !bt W (yy bb q))) + b2i ((u && !(v && decide (yy bb q = zz q))) && (!bt (s ||| (if v then bi (yy bb q) else 0)) (zz q) && !bt W (zz q))), c1 + b2i (v && !bt s (yy bb q)) + b2i ((u && !(v && decide (yy bb q = zz q))) && !bt (s ||| (if v then bi (yy bb q) else 0)) (zz q)), c0 + b2i v + b2i (u && !(v && decide (yy bb q = zz q))), s ||| (if v then bi (yy bb q) else 0) ||| (if (u && !(v && decide (yy bb q = zz q))) then bi (zz q) else 0)) := by
  have hy := yy_lt bb q
  have hz := (w.2 q hq).2.2
  have s0 : ∀ c2 c1 c0 s, zl_X10_checksBy_122 ρ W v (nI q) u ((0 : Int32), c2, c1, c0, s) = zb_X10_checksBy_190 W ((0 : Int32), c2, c1, c0, s) (nI (yy bb q)) v := by
    intro c2 c1 c0 s
    unfold zl_X10_checksBy_122 zb_X10_checksBy_148
    simp only []
    rw [if_neg (by decide), if_pos trivial, yR h hq, obd_some, if_pos trivial]
  have s1 : ∀ c2 c1 c0 s, zl_X10_checksBy_122 ρ W v (nI q) u ((1 : Int32), c2, c1, c0, s) = zb_X10_checksBy_190 W ((1 : Int32), c2, c1, c0, s) (nI (zz q)) (u && !(v && decide (yy bb q = zz q))) := by
    intro c2 c1 c0 s
    unfold zl_X10_checksBy_122 zb_X10_checksBy_148 zb_X10_checksBy_189 zb_X10_checksBy_185
    simp only []
    rw [if_neg (show ¬ (2 : Int32) ≤ 1 by decide), if_neg (show ¬ (1 : Int32) = 0 by decide), yR h hq, zR h hq, obd_some, obd_some, obd_some, if_neg (show ¬ (1 : Int32) = 0 by decide)]
    cases u
    · rfl
    · cases v
      · rfl
      · by_cases k : yy bb q = zz q
        · rw [if_pos rfl, if_pos rfl, if_pos (by rw [k])]
          simp [k]
        · rw [if_pos rfl, if_pos rfl, if_neg (fun z => k (nI_inj (by omega) (by omega) z))]
          simp [k]
  have s2 : ∀ c2 c1 c0 s, zl_X10_checksBy_122 ρ W v (nI q) u ((2 : Int32), c2, c1, c0, s) = some (false, ((2 : Int32), c2, c1, c0, s)) := by
    intro c2 c1 c0 s
    unfold zl_X10_checksBy_122
    simp only []
    rw [if_pos (by decide)]
  rw [show (1000 : Nat) = 997 + 1 + 1 + 1 from rfl, lp_true ((s0 _ _ _ _).trans (sideR _ _ hy))]
  dsimp only
  rw [show (0 : Int32) + 1 = 1 from rfl, lp_true ((s1 _ _ _ _).trans (sideR _ _ hz))]
  dsimp only
  rw [show (1 : Int32) + 1 = 2 from rfl, lp_false (s2 _ _ _ _)]
/-- the registers that a place reads -/
def rm (kd zz : Nat → Nat) (bb : Nat → Int32) (q : Nat) : Int32 := (if Yk (kd q) then bi (yy bb q) else 0) ||| (if Zk (kd q) ∨ kd q = 8 then bi (zz q) else 0)
theorem readAtC {q : Nat} (h : PC κ n kd aa zz bb) (w : PW n kd aa zz) (hq : q < 24) : zf_X7_readAt (nI q) κ = some (rm kd zz bb q) := by
  unfold zf_X7_readAt zb_X7_readAt_19 zb_X7_readAt_39
  rw [readsYC h w hq, readsZC h w hq, yC h hq, zC h hq]
  simp only [obd_some]
  unfold rm bi
  rcases le9 (w.2 q hq).1 with e | e | e | e | e | e | e | e | e | e <;> rw [e] <;> rfl
/-- what one place makes of the counts -/
def cks (kd aa zz : Nat → Nat) (bb : Nat → Int32) (W : Int32) (q : Nat) (t : Int32 × Int32 × Int32 × Int32) : Int32 × Int32 × Int32 × Int32 := if kd q = 8 then (t.1, t.2.1, t.2.2.1, t.2.2.2 ||| (rm kd zz bb q ||| wb kd aa q)) else (t.1 + zf_J6_bitCount_0f7a4 ((rm kd zz bb q &&& (t.2.2.2 ^^^ (-1 : Int32))) &&& (W ^^^ (-1 : Int32))), t.2.1 + zf_J6_bitCount_0f7a4 (rm kd zz bb q &&& (t.2.2.2 ^^^ (-1 : Int32))), t.2.2.1 + zf_J6_bitCount_0f7a4 (rm kd zz bb q), t.2.2.2 ||| (rm kd zz bb q ||| wb kd aa q))
def ckA (kd aa zz : Nat → Nat) (bb : Nat → Int32) (W : Int32) (f : Nat → Nat) : Nat → Int32 × Int32 × Int32 × Int32
  | 0 => (0, 0, 0, 0)
  | m + 1 => cks kd aa zz bb W (f m) (ckA kd aa zz bb W f m)
theorem cnt2 (s : Int32) {y z : Nat} (hy : y < 8) (hz : z < 8) : zf_J6_bitCount_0f7a4 ((bi y ||| bi z) &&& (s ^^^ (-1 : Int32))) = b2i (!bt s y) + b2i (!decide (y = z) && !bt s z) := by
  rw [or_and3, bi_and s hy, bi_and s hz]
  by_cases q : y = z
  · subst q
    cases bt s y
    · simp [bc1 hy]; rfl
    · simp [bc0]; rfl
  · cases bt s y <;> cases bt s z <;> simp [bc0, bc1 hy, bc1 hz, bc2 hy hz q, q] <;> rfl
theorem cnt1 (s : Int32) {z : Nat} (hz : z < 8) : zf_J6_bitCount_0f7a4 (bi z &&& (s ^^^ (-1 : Int32))) = b2i (!bt s z) := by
  rw [bi_and s hz]
  cases bt s z <;> simp [bc0, bc1 hz] <;> rfl
theorem cnt0 {y z : Nat} (hy : y < 8) (hz : z < 8) : zf_J6_bitCount_0f7a4 (bi y ||| bi z) = 1 + b2i (!decide (y = z)) := by
  by_cases q : y = z
  · subst q
    simp [bc1 hy]; rfl
  · simp [bc2 hy hz q, q]; rfl
end Checks
