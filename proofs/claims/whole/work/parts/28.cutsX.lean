/-! some runs, cut at more places -/
set_option maxRecDepth 100000 in
theorem kx_78_0_i14 {d : Nat} {Q : Int32 → zS → Prop} {x1 : Int32} {σ : zS} (h : Z d 78 Q 12 [.ref 14, .int x1, .int 0, (.retAddr 0)] [] (zup (zup σ 14 4 0) 14 5 0)) : Z d 78 Q 0 [.ref 14, .int x1, (.retAddr 0), (.retAddr 0)] [] σ :=
  zwp1_ok (code := zc_78) (cuts := [12, 57, 94, 181]) rfl 400 h
set_option maxRecDepth 100000 in
theorem kx_78_12_i14 {d : Nat} {Q : Int32 → zS → Prop} {x1 x2 : Int32} {xw3 : Value} {σ : zS} (h : (if x2 < (σ 14 3) then (if x1 = 0 then (if zin x2 9 = true then (if (σ 18 (Int32.toNatClampNeg x2)) = 9 then (if zin x2 9 = true then (if (σ 20 (Int32.toNatClampNeg x2)) = (-1) then Z d 78 Q 57 [.ref 14, .int x1, .int x2, .int 1] [] σ else Z d 78 Q 57 [.ref 14, .int x1, .int x2, .int 0] [] σ) else False) else Z d 78 Q 57 [.ref 14, .int x1, .int x2, .int 0] [] σ) else False) else Z d 78 Q 57 [.ref 14, .int x1, .int x2, .int 0] [] σ) else Q 0 σ)) : Z d 78 Q 12 [.ref 14, .int x1, .int x2, xw3] [] σ :=
  zwp1_ok (code := zc_78) (cuts := [12, 57, 94, 181]) rfl 400 h
set_option maxRecDepth 100000 in
theorem kx_78_57_i14 {d : Nat} {Q : Int32 → zS → Prop} {x1 x2 x3 : Int32} {σ : zS} (h : (ZC d 132 [.int (σ 17 5), .int x2] σ (fun v2 s1 => (if v2 = 0 then (if x3 = 0 then (if zin x2 9 = true then (if (s1 20 (Int32.toNatClampNeg x2)) = (s1 17 6) then Z d 78 Q 94 [.ref 14, .int x1, .int x2, .int x3] [] s1 else Z d 78 Q 181 [.ref 14, .int x1, .int x2, .int x3] [] s1) else False) else Z d 78 Q 94 [.ref 14, .int x1, .int x2, .int x3] [] s1) else Z d 78 Q 181 [.ref 14, .int x1, .int x2, .int x3] [] s1)))) : Z d 78 Q 57 [.ref 14, .int x1, .int x2, .int x3] [] σ :=
  zwp1_ok (code := zc_78) (cuts := [12, 57, 94, 181]) rfl 400 h
set_option maxRecDepth 100000 in
theorem kx_78_94_i14 {d : Nat} {Q : Int32 → zS → Prop} {x1 x2 x3 : Int32} {σ : zS} (h : (ZC d 131 [.int x2] σ (fun v2 s1 => (ZC d 131 [.int x2] (zup s1 14 4 ((σ 14 4) ||| v2)) (fun v4 s3 => (if zin x2 9 = true then (if zin x2 9 = true then (ZC d 28 [.ref 17, .int x2] (zup (zup s3 14 5 ((s1 14 5) ||| ((s1 17 4) &&& v4))) 22 (Int32.toNatClampNeg x2) (s3 21 (Int32.toNatClampNeg x2))) (fun _ s5 => (if zin x2 9 = true then (if zin x2 9 = true then (if x1 = 0 then (ZC d 33 [.ref 17, .int x2, .int (-1)] (zup s5 19 (Int32.toNatClampNeg x2) ((s5 19 (Int32.toNatClampNeg x2)) + 1)) (fun _ s7 => Z d 78 Q 181 [.ref 14, .int x1, .int x2, .int x3] [] s7)) else (ZC d 33 [.ref 17, .int x2, .int 0] (zup s5 19 (Int32.toNatClampNeg x2) ((s5 19 (Int32.toNatClampNeg x2)) + 1)) (fun _ s9 => Z d 78 Q 181 [.ref 14, .int x1, .int x2, .int x3] [] s9))) else False) else False))) else False) else False)))))) : Z d 78 Q 94 [.ref 14, .int x1, .int x2, .int x3] [] σ :=
  zwp1_ok (code := zc_78) (cuts := [12, 57, 94, 181]) rfl 400 h
set_option maxRecDepth 100000 in
theorem kx_78_181_i14 {d : Nat} {Q : Int32 → zS → Prop} {x1 x2 x3 : Int32} {σ : zS} (h : Z d 78 Q 12 [.ref 14, .int x1, .int (x2 + 1), .int x3] [] σ) : Z d 78 Q 181 [.ref 14, .int x1, .int x2, .int x3] [] σ :=
  zwp1_ok (code := zc_78) (cuts := [12, 57, 94, 181]) rfl 400 h
set_option maxRecDepth 100000 in
theorem kx_78_0_i23 {d : Nat} {Q : Int32 → zS → Prop} {x1 : Int32} {σ : zS} (h : Z d 78 Q 12 [.ref 23, .int x1, .int 0, (.retAddr 0)] [] (zup (zup σ 23 4 0) 23 5 0)) : Z d 78 Q 0 [.ref 23, .int x1, (.retAddr 0), (.retAddr 0)] [] σ :=
  zwp1_ok (code := zc_78) (cuts := [12, 57, 94, 181]) rfl 400 h
set_option maxRecDepth 100000 in
theorem kx_78_12_i23 {d : Nat} {Q : Int32 → zS → Prop} {x1 x2 : Int32} {xw3 : Value} {σ : zS} (h : (if x2 < (σ 23 3) then (if x1 = 0 then (if zin x2 9 = true then (if (σ 27 (Int32.toNatClampNeg x2)) = 9 then (if zin x2 9 = true then (if (σ 29 (Int32.toNatClampNeg x2)) = (-1) then Z d 78 Q 57 [.ref 23, .int x1, .int x2, .int 1] [] σ else Z d 78 Q 57 [.ref 23, .int x1, .int x2, .int 0] [] σ) else False) else Z d 78 Q 57 [.ref 23, .int x1, .int x2, .int 0] [] σ) else False) else Z d 78 Q 57 [.ref 23, .int x1, .int x2, .int 0] [] σ) else Q 0 σ)) : Z d 78 Q 12 [.ref 23, .int x1, .int x2, xw3] [] σ :=
  zwp1_ok (code := zc_78) (cuts := [12, 57, 94, 181]) rfl 400 h
set_option maxRecDepth 100000 in
theorem kx_78_57_i23 {d : Nat} {Q : Int32 → zS → Prop} {x1 x2 x3 : Int32} {σ : zS} (h : (ZC d 132 [.int (σ 26 5), .int x2] σ (fun v2 s1 => (if v2 = 0 then (if x3 = 0 then (if zin x2 9 = true then (if (s1 29 (Int32.toNatClampNeg x2)) = (s1 26 6) then Z d 78 Q 94 [.ref 23, .int x1, .int x2, .int x3] [] s1 else Z d 78 Q 181 [.ref 23, .int x1, .int x2, .int x3] [] s1) else False) else Z d 78 Q 94 [.ref 23, .int x1, .int x2, .int x3] [] s1) else Z d 78 Q 181 [.ref 23, .int x1, .int x2, .int x3] [] s1)))) : Z d 78 Q 57 [.ref 23, .int x1, .int x2, .int x3] [] σ :=
  zwp1_ok (code := zc_78) (cuts := [12, 57, 94, 181]) rfl 400 h
set_option maxRecDepth 100000 in
theorem kx_78_94_i23 {d : Nat} {Q : Int32 → zS → Prop} {x1 x2 x3 : Int32} {σ : zS} (h : (ZC d 131 [.int x2] σ (fun v2 s1 => (ZC d 131 [.int x2] (zup s1 23 4 ((σ 23 4) ||| v2)) (fun v4 s3 => (if zin x2 9 = true then (if zin x2 9 = true then (ZC d 28 [.ref 26, .int x2] (zup (zup s3 23 5 ((s1 23 5) ||| ((s1 26 4) &&& v4))) 31 (Int32.toNatClampNeg x2) (s3 30 (Int32.toNatClampNeg x2))) (fun _ s5 => (if zin x2 9 = true then (if zin x2 9 = true then (if x1 = 0 then (ZC d 33 [.ref 26, .int x2, .int (-1)] (zup s5 28 (Int32.toNatClampNeg x2) ((s5 28 (Int32.toNatClampNeg x2)) + 1)) (fun _ s7 => Z d 78 Q 181 [.ref 23, .int x1, .int x2, .int x3] [] s7)) else (ZC d 33 [.ref 26, .int x2, .int 0] (zup s5 28 (Int32.toNatClampNeg x2) ((s5 28 (Int32.toNatClampNeg x2)) + 1)) (fun _ s9 => Z d 78 Q 181 [.ref 23, .int x1, .int x2, .int x3] [] s9))) else False) else False))) else False) else False)))))) : Z d 78 Q 94 [.ref 23, .int x1, .int x2, .int x3] [] σ :=
  zwp1_ok (code := zc_78) (cuts := [12, 57, 94, 181]) rfl 400 h
set_option maxRecDepth 100000 in
theorem kx_78_181_i23 {d : Nat} {Q : Int32 → zS → Prop} {x1 x2 x3 : Int32} {σ : zS} (h : Z d 78 Q 12 [.ref 23, .int x1, .int (x2 + 1), .int x3] [] σ) : Z d 78 Q 181 [.ref 23, .int x1, .int x2, .int x3] [] σ :=
  zwp1_ok (code := zc_78) (cuts := [12, 57, 94, 181]) rfl 400 h
