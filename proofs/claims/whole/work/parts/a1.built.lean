/-! what is built: one run of both constructors -/
def zS0 : zS := fun _ _ => 0
def zB1 : Option (Int32 × Nat × zS) := zrun zkC true 6 100000 81 [.ref 0] 1 zS0
def zBst (x : Option (Int32 × Nat × zS)) : zS := match x with
  | some (_, _, σ) => σ
  | none => zS0
def zBnn (x : Option (Int32 × Nat × zS)) : Nat := match x with
  | some (_, n, _) => n
  | none => 0
def zBvv (x : Option (Int32 × Nat × zS)) : Int32 := match x with
  | some (v, _, _) => v
  | none => 0
set_option maxRecDepth 1000000 in
theorem zB1_n : zBnn zB1 = 214 := by decide +kernel
theorem zB_some {x : Option (Int32 × Nat × zS)} {n : Nat} (h : zBnn x = n) (hn : 0 < n) : x = some (zBvv x, n, zBst x) := by
  unfold zBnn at h
  split at h
  · rw [← h]; rfl
  · omega
def zB2 : Option (Int32 × Nat × zS) := zrun zkC true 6 100000 169 [.ref 214] 215 (zBst zB1)
def zfok (σ : zS) (o k f fC : Nat) : Bool := f == fC || (fC == 1 && Nat.ble 2 f && (σ o k == nI (f - 1)))
def zkok (σ : zS) (o : Nat) : Bool := match zkS o, zkC o with
  | (t, c, fl), (t', c', fl') => c == c' && ((t == t' && t == 0 && fl.length == fl'.length && (List.range fl.length).all (fun k => zfok σ o k (fl.getD k 0) (fl'.getD k 0))) || (t == t' && Nat.ble 1 t && Nat.ble t 4) || (t == 5 && t' == 6 && (List.range c).all (fun j => σ o j == nI (fl.getD j 0 + 1))))
def zcells : List (Nat × Nat × Int32) := [(14, 3, 0), (214, 1, 0), (17, 4, 0), (17, 5, 0), (215, 45, 0), (17, 6, 0), (215, 46, 0), (215, 47, 0), (32, 4, 0), (32, 5, 0), (3, 2, 3), (5, 0, 1000), (5, 1, 3), (5, 2, -62), (214, 20, 0), (3, 5, 0), (214, 6, 0), (1, 1, 0), (214, 9, 0), (0, 13, 0), (214, 4, 0), (0, 12, 0), (214, 11, 0), (183, 3, 0), (214, 43, 0), (187, 0, 0), (214, 46, 0), (37, 0, 0), (37, 2, 0), (214, 30, 0), (214, 47, 0), (192, 0, 0), (203, 0, 0), (235, 0, 0), (235, 1, 0), (214, 7, 0)]
def zgood (σ : zS) : Bool := zcells.all (fun q => σ q.1 q.2.1 == q.2.2) && (List.range 9).all (fun f => σ 19 f == 0 && σ 20 f == -1 && σ 21 f == -1) && (List.range 60).all (fun p => σ 33 p == σ 215 (48 + 4 * p) && σ 34 p == σ 215 (48 + 4 * p + 1) && σ 35 p == σ 215 (48 + 4 * p + 2) && σ 36 p == σ 215 (48 + 4 * p + 3)) && (List.range 80).all (fun i => σ 2 i == 0 && σ 219 i == 0)
def zBok (x : Option (Int32 × Nat × zS)) : Nat := match x with
  | some (_, n, σ) => if Nat.beq n 237 = true then (if (List.range 238).all (zkok σ) = true then (if zgood σ = true then 1 else 2) else 3) else 4
  | none => 5
set_option maxRecDepth 1000000 in
theorem zB2_ok : zBok zB2 = 1 := by decide +kernel
