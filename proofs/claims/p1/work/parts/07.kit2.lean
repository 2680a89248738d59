theorem gstart {p : Program} {l : Launch} {e : Env} {R : Room} {s : State} {m : MethodId} {args : Array Value} {below : List Frame} {meth : Method} {c : Code} {H0 : Heap} {L0 : List Loc} {cells slots : Nat} {Q : State → Prop} {g : JFrame} (k : ∀ (H : Heap) (locs : List Loc), H0 = H → L0 = locs → W p l e R s m args below meth c H locs cells slots Q g) : W p l e R s m args below meth c H0 L0 cells slots Q g := k H0 L0 rfl rfl
def mixL : List Int64 → Int64 → Int64
  | [], h => h
  | c :: cs, h => mixL cs (31 * h + c)
