/-! what a run comes to from each entry and each loop: the class and the library -/
set_option maxRecDepth 100000 in
theorem k_0_0 {d : Nat} {Q : Int32 → zS → Prop} {x0 : Int32} {σ : zS} (h : Q ((((((((x0 - ((zushr x0 1) &&& 1431655765)) &&& 858993459) + ((zushr (x0 - ((zushr x0 1) &&& 1431655765)) 2) &&& 858993459)) + (zushr (((x0 - ((zushr x0 1) &&& 1431655765)) &&& 858993459) + ((zushr (x0 - ((zushr x0 1) &&& 1431655765)) 2) &&& 858993459)) 4)) &&& 252645135) + (zushr (((((x0 - ((zushr x0 1) &&& 1431655765)) &&& 858993459) + ((zushr (x0 - ((zushr x0 1) &&& 1431655765)) 2) &&& 858993459)) + (zushr (((x0 - ((zushr x0 1) &&& 1431655765)) &&& 858993459) + ((zushr (x0 - ((zushr x0 1) &&& 1431655765)) 2) &&& 858993459)) 4)) &&& 252645135) 8)) + (zushr ((((((x0 - ((zushr x0 1) &&& 1431655765)) &&& 858993459) + ((zushr (x0 - ((zushr x0 1) &&& 1431655765)) 2) &&& 858993459)) + (zushr (((x0 - ((zushr x0 1) &&& 1431655765)) &&& 858993459) + ((zushr (x0 - ((zushr x0 1) &&& 1431655765)) 2) &&& 858993459)) 4)) &&& 252645135) + (zushr (((((x0 - ((zushr x0 1) &&& 1431655765)) &&& 858993459) + ((zushr (x0 - ((zushr x0 1) &&& 1431655765)) 2) &&& 858993459)) + (zushr (((x0 - ((zushr x0 1) &&& 1431655765)) &&& 858993459) + ((zushr (x0 - ((zushr x0 1) &&& 1431655765)) 2) &&& 858993459)) 4)) &&& 252645135) 8)) 16)) &&& 63) σ) : Z d 0 Q 0 [.int x0] [] σ :=
  zwp1_ok (code := zc_0) (cuts := []) rfl 400 h
set_option maxRecDepth 100000 in
theorem k_1_0 {d : Nat} {Q : Int32 → zS → Prop} {x0 x1 : Int32} {σ : zS} (h : (if x1 = 0 then False else (if (x0 ^^^ x1) < 0 then (if (zrem x0 x1) = 0 then Q (zrem x0 x1) σ else Q ((zrem x0 x1) + x1) σ) else Q (zrem x0 x1) σ))) : Z d 1 Q 0 [.int x0, .int x1, (.retAddr 0)] [] σ :=
  zwp1_ok (code := zc_1) (cuts := []) rfl 400 h
set_option maxRecDepth 100000 in
theorem k_2_0 {d : Nat} {Q : Int32 → zS → Prop} {x0 : Int32} {σ : zS} (h : (if x0 < 0 then Q (-x0) σ else Q x0 σ)) : Z d 2 Q 0 [.int x0] [] σ :=
  zwp1_ok (code := zc_2) (cuts := []) rfl 400 h
set_option maxRecDepth 100000 in
theorem k_3_0 {d : Nat} {Q : Int32 → zS → Prop} {x0 x1 : Int32} {σ : zS} (h : (if x0 < x1 then Q x1 σ else Q x0 σ)) : Z d 3 Q 0 [.int x0, .int x1] [] σ :=
  zwp1_ok (code := zc_3) (cuts := []) rfl 400 h
set_option maxRecDepth 100000 in
theorem k_4_0 {d : Nat} {Q : Int32 → zS → Prop} {x0 x1 : Int32} {σ : zS} (h : (if x1 < x0 then Q x1 σ else Q x0 σ)) : Z d 4 Q 0 [.int x0, .int x1] [] σ :=
  zwp1_ok (code := zc_4) (cuts := []) rfl 400 h
set_option maxRecDepth 100000 in
theorem k_5_0_i191 {d : Nat} {Q : Int32 → zS → Prop} {x1 : Int32} {σ : zS} (h : Z d 5 Q 5 [.ref 191, .int x1, .int 0, .int (Int32.ofNat 10)] [] σ) : Z d 5 Q 0 [.ref 191, .int x1, (.retAddr 0), (.retAddr 0)] [] σ :=
  zwp1_ok (code := zc_5) (cuts := [5]) rfl 400 h
set_option maxRecDepth 100000 in
theorem k_5_5_i191 {d : Nat} {Q : Int32 → zS → Prop} {x1 x2 x3 : Int32} {σ : zS} (h : (if x2 < x3 then (if zin x2 10 = true then Z d 5 Q 5 [.ref 191, .int x1, .int (x2 + 1), .int x3] [] (zup σ 191 (Int32.toNatClampNeg x2) x1) else False) else Q 0 σ)) : Z d 5 Q 5 [.ref 191, .int x1, .int x2, .int x3] [] σ :=
  zwp1_ok (code := zc_5) (cuts := [5]) rfl 400 h
set_option maxRecDepth 100000 in
theorem k_5_0_i29 {d : Nat} {Q : Int32 → zS → Prop} {x1 : Int32} {σ : zS} (h : Z d 5 Q 5 [.ref 29, .int x1, .int 0, .int (Int32.ofNat 9)] [] σ) : Z d 5 Q 0 [.ref 29, .int x1, (.retAddr 0), (.retAddr 0)] [] σ :=
  zwp1_ok (code := zc_5) (cuts := [5]) rfl 400 h
set_option maxRecDepth 100000 in
theorem k_5_5_i29 {d : Nat} {Q : Int32 → zS → Prop} {x1 x2 x3 : Int32} {σ : zS} (h : (if x2 < x3 then (if zin x2 9 = true then Z d 5 Q 5 [.ref 29, .int x1, .int (x2 + 1), .int x3] [] (zup σ 29 (Int32.toNatClampNeg x2) x1) else False) else Q 0 σ)) : Z d 5 Q 5 [.ref 29, .int x1, .int x2, .int x3] [] σ :=
  zwp1_ok (code := zc_5) (cuts := [5]) rfl 400 h
set_option maxRecDepth 100000 in
theorem k_5_0_i30 {d : Nat} {Q : Int32 → zS → Prop} {x1 : Int32} {σ : zS} (h : Z d 5 Q 5 [.ref 30, .int x1, .int 0, .int (Int32.ofNat 9)] [] σ) : Z d 5 Q 0 [.ref 30, .int x1, (.retAddr 0), (.retAddr 0)] [] σ :=
  zwp1_ok (code := zc_5) (cuts := [5]) rfl 400 h
set_option maxRecDepth 100000 in
theorem k_5_5_i30 {d : Nat} {Q : Int32 → zS → Prop} {x1 x2 x3 : Int32} {σ : zS} (h : (if x2 < x3 then (if zin x2 9 = true then Z d 5 Q 5 [.ref 30, .int x1, .int (x2 + 1), .int x3] [] (zup σ 30 (Int32.toNatClampNeg x2) x1) else False) else Q 0 σ)) : Z d 5 Q 5 [.ref 30, .int x1, .int x2, .int x3] [] σ :=
  zwp1_ok (code := zc_5) (cuts := [5]) rfl 400 h
set_option maxRecDepth 100000 in
theorem k_7_0 {d : Nat} {Q : Int32 → zS → Prop}  {σ : zS} (h : (ZC d 61 [.ref 1] (zup σ 10 3 0) (fun v2 s1 => (if v2 = 0 then Z d 7 Q 19 [.ref 10, .int 0] [] s1 else Q 1 s1)))) : Z d 7 Q 0 [.ref 10, (.retAddr 0)] [] σ :=
  zwp1_ok (code := zc_7) (cuts := [19]) rfl 400 h
set_option maxRecDepth 100000 in
theorem k_7_19 {d : Nat} {Q : Int32 → zS → Prop} {x1 : Int32} {σ : zS} (h : (if x1 < 60 then (ZC d 8 [.ref 10] σ (fun v2 s1 => (if v2 = 0 then Q 0 s1 else (ZC d 61 [.ref 1] s1 (fun v4 s3 => (if v4 = 0 then (ZC d 66 [.ref 1, .int 59] s3 (fun v6 s5 => (if v6 = 0 then Q 0 s5 else Z d 7 Q 19 [.ref 10, .int (x1 + 1)] [] s5))) else Q 1 s3)))))) else Q 0 σ)) : Z d 7 Q 19 [.ref 10, .int x1] [] σ :=
  zwp1_ok (code := zc_7) (cuts := [19]) rfl 400 h
set_option maxRecDepth 100000 in
theorem k_8_0 {d : Nat} {Q : Int32 → zS → Prop}  {σ : zS} (h : (ZC d 64 [.ref 1] σ (fun v2 s1 => (if v2 = 109 then (ZC d 65 [.ref 1] s1 (fun _ s3 => (ZC d 9 [.ref 10] s3 (fun v6 s5 => (if v6 &&& 1 = v6 then Q v6 s5 else False))))) else (if v2 = 121 then (ZC d 65 [.ref 1] s1 (fun _ s7 => (ZC d 68 [.ref 1, .int 0] s7 (fun v10 s9 => (if v10 = (-1) then Q 0 s9 else (if v2 = 116 then (ZC d 67 [.ref 1, .int 0] s9 (fun v12 s11 => (if v12 = (-1) then Q 0 s11 else (ZC d 10 [.ref 10, .int v2, .int v10, .int v12] s11 (fun v14 s13 => (if v14 = 0 then Q 0 s13 else Q 1 s13)))))) else (ZC d 10 [.ref 10, .int v2, .int v10, .int 0] s9 (fun v16 s15 => (if v16 = 0 then Q 0 s15 else Q 1 s15))))))))) else (if v2 = 102 then (ZC d 65 [.ref 1] s1 (fun _ s17 => (ZC d 68 [.ref 1, .int 0] s17 (fun v20 s19 => (if v20 = (-1) then Q 0 s19 else (if v2 = 116 then (ZC d 67 [.ref 1, .int 0] s19 (fun v22 s21 => (if v22 = (-1) then Q 0 s21 else (ZC d 10 [.ref 10, .int v2, .int v20, .int v22] s21 (fun v24 s23 => (if v24 = 0 then Q 0 s23 else Q 1 s23)))))) else (ZC d 10 [.ref 10, .int v2, .int v20, .int 0] s19 (fun v26 s25 => (if v26 = 0 then Q 0 s25 else Q 1 s25))))))))) else (if v2 = 97 then (ZC d 65 [.ref 1] s1 (fun _ s27 => (ZC d 68 [.ref 1, .int 0] s27 (fun v30 s29 => (if v30 = (-1) then Q 0 s29 else (if v2 = 116 then (ZC d 67 [.ref 1, .int 0] s29 (fun v32 s31 => (if v32 = (-1) then Q 0 s31 else (ZC d 10 [.ref 10, .int v2, .int v30, .int v32] s31 (fun v34 s33 => (if v34 = 0 then Q 0 s33 else Q 1 s33)))))) else (ZC d 10 [.ref 10, .int v2, .int v30, .int 0] s29 (fun v36 s35 => (if v36 = 0 then Q 0 s35 else Q 1 s35))))))))) else (if v2 = 116 then (ZC d 65 [.ref 1] s1 (fun _ s37 => (ZC d 68 [.ref 1, .int 0] s37 (fun v40 s39 => (if v40 = (-1) then Q 0 s39 else (if v2 = 116 then (ZC d 67 [.ref 1, .int 0] s39 (fun v42 s41 => (if v42 = (-1) then Q 0 s41 else (ZC d 10 [.ref 10, .int v2, .int v40, .int v42] s41 (fun v44 s43 => (if v44 = 0 then Q 0 s43 else Q 1 s43)))))) else (ZC d 10 [.ref 10, .int v2, .int v40, .int 0] s39 (fun v46 s45 => (if v46 = 0 then Q 0 s45 else Q 1 s45))))))))) else Q 0 s1)))))))) : Z d 8 Q 0 [.ref 10, (.retAddr 0), (.retAddr 0), (.retAddr 0)] [] σ :=
  zwp1_ok (code := zc_8) (cuts := []) rfl 400 h
set_option maxRecDepth 100000 in
theorem k_9_0 {d : Nat} {Q : Int32 → zS → Prop}  {σ : zS} (h : (ZC d 67 [.ref 1, .int 0] σ (fun v2 s1 => (if v2 = (-1) then Q 0 s1 else (ZC d 67 [.ref 1, .int 0] s1 (fun v4 s3 => (if v4 = (-1) then (ZC d 10 [.ref 10, .int 109, .int (-1), .int v2] s3 (fun v6 s5 => (if v6 &&& 1 = v6 then Q v6 s5 else False))) else (ZC d 10 [.ref 10, .int 109, .int (-1), .int ((10 * v2) + v4)] s3 (fun v8 s7 => (if v8 &&& 1 = v8 then Q v8 s7 else False)))))))))) : Z d 9 Q 0 [.ref 10, (.retAddr 0), (.retAddr 0)] [] σ :=
  zwp1_ok (code := zc_9) (cuts := []) rfl 400 h
set_option maxRecDepth 100000 in
theorem k_10_0 {d : Nat} {Q : Int32 → zS → Prop} {x1 x2 x3 : Int32} {σ : zS} (h : (if (σ 10 3) < 0 then Q 0 σ else (if (σ 10 3) < 20 then (if zin (σ 10 3) 20 = true then (if zin (σ 10 3) 20 = true then (if zin (σ 10 3) 20 = true then Q 1 (zup (zup (zup (zup σ 11 (Int32.toNatClampNeg (σ 10 3)) x1) 12 (Int32.toNatClampNeg (σ 10 3)) x2) 13 (Int32.toNatClampNeg (σ 10 3)) x3) 10 3 ((σ 10 3) + 1)) else False) else False) else False) else Q 0 σ))) : Z d 10 Q 0 [.ref 10, .int x1, .int x2, .int x3] [] σ :=
  zwp1_ok (code := zc_10) (cuts := []) rfl 400 h
set_option maxRecDepth 100000 in
theorem k_12_0_i100_32 {d : Nat} {Q : Int32 → zS → Prop}  {σ : zS} (h : Q 0 (zup (zup (zput (zput (zput (zput σ 101 (va_cpy (σ 33) (σ 101) (Int32.toNatClampNeg 0) (Int32.toNatClampNeg 0) (Int32.toNatClampNeg 60))) 102 (va_cpy (σ 34) (σ 102) (Int32.toNatClampNeg 0) (Int32.toNatClampNeg 0) (Int32.toNatClampNeg 60))) 103 (va_cpy (σ 35) (σ 103) (Int32.toNatClampNeg 0) (Int32.toNatClampNeg 0) (Int32.toNatClampNeg 60))) 104 (va_cpy (σ 36) (σ 104) (Int32.toNatClampNeg 0) (Int32.toNatClampNeg 0) (Int32.toNatClampNeg 60))) 100 4 (σ 32 4)) 100 5 (σ 32 5))) : Z d 12 Q 0 [.ref 100, .ref 32] [] σ :=
  zwp1_ok (code := zc_12) (cuts := []) rfl 400 h
set_option maxRecDepth 100000 in
theorem k_12_0_i111_32 {d : Nat} {Q : Int32 → zS → Prop}  {σ : zS} (h : Q 0 (zup (zup (zput (zput (zput (zput σ 112 (va_cpy (σ 33) (σ 112) (Int32.toNatClampNeg 0) (Int32.toNatClampNeg 0) (Int32.toNatClampNeg 60))) 113 (va_cpy (σ 34) (σ 113) (Int32.toNatClampNeg 0) (Int32.toNatClampNeg 0) (Int32.toNatClampNeg 60))) 114 (va_cpy (σ 35) (σ 114) (Int32.toNatClampNeg 0) (Int32.toNatClampNeg 0) (Int32.toNatClampNeg 60))) 115 (va_cpy (σ 36) (σ 115) (Int32.toNatClampNeg 0) (Int32.toNatClampNeg 0) (Int32.toNatClampNeg 60))) 111 4 (σ 32 4)) 111 5 (σ 32 5))) : Z d 12 Q 0 [.ref 111, .ref 32] [] σ :=
  zwp1_ok (code := zc_12) (cuts := []) rfl 400 h
set_option maxRecDepth 100000 in
theorem k_12_0_i122_32 {d : Nat} {Q : Int32 → zS → Prop}  {σ : zS} (h : Q 0 (zup (zup (zput (zput (zput (zput σ 123 (va_cpy (σ 33) (σ 123) (Int32.toNatClampNeg 0) (Int32.toNatClampNeg 0) (Int32.toNatClampNeg 60))) 124 (va_cpy (σ 34) (σ 124) (Int32.toNatClampNeg 0) (Int32.toNatClampNeg 0) (Int32.toNatClampNeg 60))) 125 (va_cpy (σ 35) (σ 125) (Int32.toNatClampNeg 0) (Int32.toNatClampNeg 0) (Int32.toNatClampNeg 60))) 126 (va_cpy (σ 36) (σ 126) (Int32.toNatClampNeg 0) (Int32.toNatClampNeg 0) (Int32.toNatClampNeg 60))) 122 4 (σ 32 4)) 122 5 (σ 32 5))) : Z d 12 Q 0 [.ref 122, .ref 32] [] σ :=
  zwp1_ok (code := zc_12) (cuts := []) rfl 400 h
set_option maxRecDepth 100000 in
theorem k_12_0_i133_32 {d : Nat} {Q : Int32 → zS → Prop}  {σ : zS} (h : Q 0 (zup (zup (zput (zput (zput (zput σ 134 (va_cpy (σ 33) (σ 134) (Int32.toNatClampNeg 0) (Int32.toNatClampNeg 0) (Int32.toNatClampNeg 60))) 135 (va_cpy (σ 34) (σ 135) (Int32.toNatClampNeg 0) (Int32.toNatClampNeg 0) (Int32.toNatClampNeg 60))) 136 (va_cpy (σ 35) (σ 136) (Int32.toNatClampNeg 0) (Int32.toNatClampNeg 0) (Int32.toNatClampNeg 60))) 137 (va_cpy (σ 36) (σ 137) (Int32.toNatClampNeg 0) (Int32.toNatClampNeg 0) (Int32.toNatClampNeg 60))) 133 4 (σ 32 4)) 133 5 (σ 32 5))) : Z d 12 Q 0 [.ref 133, .ref 32] [] σ :=
  zwp1_ok (code := zc_12) (cuts := []) rfl 400 h
set_option maxRecDepth 100000 in
theorem k_12_0_i144_32 {d : Nat} {Q : Int32 → zS → Prop}  {σ : zS} (h : Q 0 (zup (zup (zput (zput (zput (zput σ 145 (va_cpy (σ 33) (σ 145) (Int32.toNatClampNeg 0) (Int32.toNatClampNeg 0) (Int32.toNatClampNeg 60))) 146 (va_cpy (σ 34) (σ 146) (Int32.toNatClampNeg 0) (Int32.toNatClampNeg 0) (Int32.toNatClampNeg 60))) 147 (va_cpy (σ 35) (σ 147) (Int32.toNatClampNeg 0) (Int32.toNatClampNeg 0) (Int32.toNatClampNeg 60))) 148 (va_cpy (σ 36) (σ 148) (Int32.toNatClampNeg 0) (Int32.toNatClampNeg 0) (Int32.toNatClampNeg 60))) 144 4 (σ 32 4)) 144 5 (σ 32 5))) : Z d 12 Q 0 [.ref 144, .ref 32] [] σ :=
  zwp1_ok (code := zc_12) (cuts := []) rfl 400 h
set_option maxRecDepth 100000 in
theorem k_12_0_i155_32 {d : Nat} {Q : Int32 → zS → Prop}  {σ : zS} (h : Q 0 (zup (zup (zput (zput (zput (zput σ 156 (va_cpy (σ 33) (σ 156) (Int32.toNatClampNeg 0) (Int32.toNatClampNeg 0) (Int32.toNatClampNeg 60))) 157 (va_cpy (σ 34) (σ 157) (Int32.toNatClampNeg 0) (Int32.toNatClampNeg 0) (Int32.toNatClampNeg 60))) 158 (va_cpy (σ 35) (σ 158) (Int32.toNatClampNeg 0) (Int32.toNatClampNeg 0) (Int32.toNatClampNeg 60))) 159 (va_cpy (σ 36) (σ 159) (Int32.toNatClampNeg 0) (Int32.toNatClampNeg 0) (Int32.toNatClampNeg 60))) 155 4 (σ 32 4)) 155 5 (σ 32 5))) : Z d 12 Q 0 [.ref 155, .ref 32] [] σ :=
  zwp1_ok (code := zc_12) (cuts := []) rfl 400 h
set_option maxRecDepth 100000 in
theorem k_12_0_i166_32 {d : Nat} {Q : Int32 → zS → Prop}  {σ : zS} (h : Q 0 (zup (zup (zput (zput (zput (zput σ 167 (va_cpy (σ 33) (σ 167) (Int32.toNatClampNeg 0) (Int32.toNatClampNeg 0) (Int32.toNatClampNeg 60))) 168 (va_cpy (σ 34) (σ 168) (Int32.toNatClampNeg 0) (Int32.toNatClampNeg 0) (Int32.toNatClampNeg 60))) 169 (va_cpy (σ 35) (σ 169) (Int32.toNatClampNeg 0) (Int32.toNatClampNeg 0) (Int32.toNatClampNeg 60))) 170 (va_cpy (σ 36) (σ 170) (Int32.toNatClampNeg 0) (Int32.toNatClampNeg 0) (Int32.toNatClampNeg 60))) 166 4 (σ 32 4)) 166 5 (σ 32 5))) : Z d 12 Q 0 [.ref 166, .ref 32] [] σ :=
  zwp1_ok (code := zc_12) (cuts := []) rfl 400 h
set_option maxRecDepth 100000 in
theorem k_12_0_i177_32 {d : Nat} {Q : Int32 → zS → Prop}  {σ : zS} (h : Q 0 (zup (zup (zput (zput (zput (zput σ 178 (va_cpy (σ 33) (σ 178) (Int32.toNatClampNeg 0) (Int32.toNatClampNeg 0) (Int32.toNatClampNeg 60))) 179 (va_cpy (σ 34) (σ 179) (Int32.toNatClampNeg 0) (Int32.toNatClampNeg 0) (Int32.toNatClampNeg 60))) 180 (va_cpy (σ 35) (σ 180) (Int32.toNatClampNeg 0) (Int32.toNatClampNeg 0) (Int32.toNatClampNeg 60))) 181 (va_cpy (σ 36) (σ 181) (Int32.toNatClampNeg 0) (Int32.toNatClampNeg 0) (Int32.toNatClampNeg 60))) 177 4 (σ 32 4)) 177 5 (σ 32 5))) : Z d 12 Q 0 [.ref 177, .ref 32] [] σ :=
  zwp1_ok (code := zc_12) (cuts := []) rfl 400 h
set_option maxRecDepth 100000 in
theorem k_12_0_i198_32 {d : Nat} {Q : Int32 → zS → Prop}  {σ : zS} (h : Q 0 (zup (zup (zput (zput (zput (zput σ 199 (va_cpy (σ 33) (σ 199) (Int32.toNatClampNeg 0) (Int32.toNatClampNeg 0) (Int32.toNatClampNeg 60))) 200 (va_cpy (σ 34) (σ 200) (Int32.toNatClampNeg 0) (Int32.toNatClampNeg 0) (Int32.toNatClampNeg 60))) 201 (va_cpy (σ 35) (σ 201) (Int32.toNatClampNeg 0) (Int32.toNatClampNeg 0) (Int32.toNatClampNeg 60))) 202 (va_cpy (σ 36) (σ 202) (Int32.toNatClampNeg 0) (Int32.toNatClampNeg 0) (Int32.toNatClampNeg 60))) 198 4 (σ 32 4)) 198 5 (σ 32 5))) : Z d 12 Q 0 [.ref 198, .ref 32] [] σ :=
  zwp1_ok (code := zc_12) (cuts := []) rfl 400 h
set_option maxRecDepth 100000 in
theorem k_12_0_i209_32 {d : Nat} {Q : Int32 → zS → Prop}  {σ : zS} (h : Q 0 (zup (zup (zput (zput (zput (zput σ 210 (va_cpy (σ 33) (σ 210) (Int32.toNatClampNeg 0) (Int32.toNatClampNeg 0) (Int32.toNatClampNeg 60))) 211 (va_cpy (σ 34) (σ 211) (Int32.toNatClampNeg 0) (Int32.toNatClampNeg 0) (Int32.toNatClampNeg 60))) 212 (va_cpy (σ 35) (σ 212) (Int32.toNatClampNeg 0) (Int32.toNatClampNeg 0) (Int32.toNatClampNeg 60))) 213 (va_cpy (σ 36) (σ 213) (Int32.toNatClampNeg 0) (Int32.toNatClampNeg 0) (Int32.toNatClampNeg 60))) 209 4 (σ 32 4)) 209 5 (σ 32 5))) : Z d 12 Q 0 [.ref 209, .ref 32] [] σ :=
  zwp1_ok (code := zc_12) (cuts := []) rfl 400 h
set_option maxRecDepth 100000 in
theorem k_12_0_i32_100 {d : Nat} {Q : Int32 → zS → Prop}  {σ : zS} (h : Q 0 (zup (zup (zput (zput (zput (zput σ 33 (va_cpy (σ 101) (σ 33) (Int32.toNatClampNeg 0) (Int32.toNatClampNeg 0) (Int32.toNatClampNeg 60))) 34 (va_cpy (σ 102) (σ 34) (Int32.toNatClampNeg 0) (Int32.toNatClampNeg 0) (Int32.toNatClampNeg 60))) 35 (va_cpy (σ 103) (σ 35) (Int32.toNatClampNeg 0) (Int32.toNatClampNeg 0) (Int32.toNatClampNeg 60))) 36 (va_cpy (σ 104) (σ 36) (Int32.toNatClampNeg 0) (Int32.toNatClampNeg 0) (Int32.toNatClampNeg 60))) 32 4 (σ 100 4)) 32 5 (σ 100 5))) : Z d 12 Q 0 [.ref 32, .ref 100] [] σ :=
  zwp1_ok (code := zc_12) (cuts := []) rfl 400 h
set_option maxRecDepth 100000 in
theorem k_12_0_i32_111 {d : Nat} {Q : Int32 → zS → Prop}  {σ : zS} (h : Q 0 (zup (zup (zput (zput (zput (zput σ 33 (va_cpy (σ 112) (σ 33) (Int32.toNatClampNeg 0) (Int32.toNatClampNeg 0) (Int32.toNatClampNeg 60))) 34 (va_cpy (σ 113) (σ 34) (Int32.toNatClampNeg 0) (Int32.toNatClampNeg 0) (Int32.toNatClampNeg 60))) 35 (va_cpy (σ 114) (σ 35) (Int32.toNatClampNeg 0) (Int32.toNatClampNeg 0) (Int32.toNatClampNeg 60))) 36 (va_cpy (σ 115) (σ 36) (Int32.toNatClampNeg 0) (Int32.toNatClampNeg 0) (Int32.toNatClampNeg 60))) 32 4 (σ 111 4)) 32 5 (σ 111 5))) : Z d 12 Q 0 [.ref 32, .ref 111] [] σ :=
  zwp1_ok (code := zc_12) (cuts := []) rfl 400 h
set_option maxRecDepth 100000 in
theorem k_12_0_i32_122 {d : Nat} {Q : Int32 → zS → Prop}  {σ : zS} (h : Q 0 (zup (zup (zput (zput (zput (zput σ 33 (va_cpy (σ 123) (σ 33) (Int32.toNatClampNeg 0) (Int32.toNatClampNeg 0) (Int32.toNatClampNeg 60))) 34 (va_cpy (σ 124) (σ 34) (Int32.toNatClampNeg 0) (Int32.toNatClampNeg 0) (Int32.toNatClampNeg 60))) 35 (va_cpy (σ 125) (σ 35) (Int32.toNatClampNeg 0) (Int32.toNatClampNeg 0) (Int32.toNatClampNeg 60))) 36 (va_cpy (σ 126) (σ 36) (Int32.toNatClampNeg 0) (Int32.toNatClampNeg 0) (Int32.toNatClampNeg 60))) 32 4 (σ 122 4)) 32 5 (σ 122 5))) : Z d 12 Q 0 [.ref 32, .ref 122] [] σ :=
  zwp1_ok (code := zc_12) (cuts := []) rfl 400 h
set_option maxRecDepth 100000 in
theorem k_12_0_i32_133 {d : Nat} {Q : Int32 → zS → Prop}  {σ : zS} (h : Q 0 (zup (zup (zput (zput (zput (zput σ 33 (va_cpy (σ 134) (σ 33) (Int32.toNatClampNeg 0) (Int32.toNatClampNeg 0) (Int32.toNatClampNeg 60))) 34 (va_cpy (σ 135) (σ 34) (Int32.toNatClampNeg 0) (Int32.toNatClampNeg 0) (Int32.toNatClampNeg 60))) 35 (va_cpy (σ 136) (σ 35) (Int32.toNatClampNeg 0) (Int32.toNatClampNeg 0) (Int32.toNatClampNeg 60))) 36 (va_cpy (σ 137) (σ 36) (Int32.toNatClampNeg 0) (Int32.toNatClampNeg 0) (Int32.toNatClampNeg 60))) 32 4 (σ 133 4)) 32 5 (σ 133 5))) : Z d 12 Q 0 [.ref 32, .ref 133] [] σ :=
  zwp1_ok (code := zc_12) (cuts := []) rfl 400 h
set_option maxRecDepth 100000 in
theorem k_12_0_i32_144 {d : Nat} {Q : Int32 → zS → Prop}  {σ : zS} (h : Q 0 (zup (zup (zput (zput (zput (zput σ 33 (va_cpy (σ 145) (σ 33) (Int32.toNatClampNeg 0) (Int32.toNatClampNeg 0) (Int32.toNatClampNeg 60))) 34 (va_cpy (σ 146) (σ 34) (Int32.toNatClampNeg 0) (Int32.toNatClampNeg 0) (Int32.toNatClampNeg 60))) 35 (va_cpy (σ 147) (σ 35) (Int32.toNatClampNeg 0) (Int32.toNatClampNeg 0) (Int32.toNatClampNeg 60))) 36 (va_cpy (σ 148) (σ 36) (Int32.toNatClampNeg 0) (Int32.toNatClampNeg 0) (Int32.toNatClampNeg 60))) 32 4 (σ 144 4)) 32 5 (σ 144 5))) : Z d 12 Q 0 [.ref 32, .ref 144] [] σ :=
  zwp1_ok (code := zc_12) (cuts := []) rfl 400 h
set_option maxRecDepth 100000 in
theorem k_12_0_i32_155 {d : Nat} {Q : Int32 → zS → Prop}  {σ : zS} (h : Q 0 (zup (zup (zput (zput (zput (zput σ 33 (va_cpy (σ 156) (σ 33) (Int32.toNatClampNeg 0) (Int32.toNatClampNeg 0) (Int32.toNatClampNeg 60))) 34 (va_cpy (σ 157) (σ 34) (Int32.toNatClampNeg 0) (Int32.toNatClampNeg 0) (Int32.toNatClampNeg 60))) 35 (va_cpy (σ 158) (σ 35) (Int32.toNatClampNeg 0) (Int32.toNatClampNeg 0) (Int32.toNatClampNeg 60))) 36 (va_cpy (σ 159) (σ 36) (Int32.toNatClampNeg 0) (Int32.toNatClampNeg 0) (Int32.toNatClampNeg 60))) 32 4 (σ 155 4)) 32 5 (σ 155 5))) : Z d 12 Q 0 [.ref 32, .ref 155] [] σ :=
  zwp1_ok (code := zc_12) (cuts := []) rfl 400 h
set_option maxRecDepth 100000 in
theorem k_12_0_i32_166 {d : Nat} {Q : Int32 → zS → Prop}  {σ : zS} (h : Q 0 (zup (zup (zput (zput (zput (zput σ 33 (va_cpy (σ 167) (σ 33) (Int32.toNatClampNeg 0) (Int32.toNatClampNeg 0) (Int32.toNatClampNeg 60))) 34 (va_cpy (σ 168) (σ 34) (Int32.toNatClampNeg 0) (Int32.toNatClampNeg 0) (Int32.toNatClampNeg 60))) 35 (va_cpy (σ 169) (σ 35) (Int32.toNatClampNeg 0) (Int32.toNatClampNeg 0) (Int32.toNatClampNeg 60))) 36 (va_cpy (σ 170) (σ 36) (Int32.toNatClampNeg 0) (Int32.toNatClampNeg 0) (Int32.toNatClampNeg 60))) 32 4 (σ 166 4)) 32 5 (σ 166 5))) : Z d 12 Q 0 [.ref 32, .ref 166] [] σ :=
  zwp1_ok (code := zc_12) (cuts := []) rfl 400 h
set_option maxRecDepth 100000 in
theorem k_12_0_i32_177 {d : Nat} {Q : Int32 → zS → Prop}  {σ : zS} (h : Q 0 (zup (zup (zput (zput (zput (zput σ 33 (va_cpy (σ 178) (σ 33) (Int32.toNatClampNeg 0) (Int32.toNatClampNeg 0) (Int32.toNatClampNeg 60))) 34 (va_cpy (σ 179) (σ 34) (Int32.toNatClampNeg 0) (Int32.toNatClampNeg 0) (Int32.toNatClampNeg 60))) 35 (va_cpy (σ 180) (σ 35) (Int32.toNatClampNeg 0) (Int32.toNatClampNeg 0) (Int32.toNatClampNeg 60))) 36 (va_cpy (σ 181) (σ 36) (Int32.toNatClampNeg 0) (Int32.toNatClampNeg 0) (Int32.toNatClampNeg 60))) 32 4 (σ 177 4)) 32 5 (σ 177 5))) : Z d 12 Q 0 [.ref 32, .ref 177] [] σ :=
  zwp1_ok (code := zc_12) (cuts := []) rfl 400 h
set_option maxRecDepth 100000 in
theorem k_12_0_i32_198 {d : Nat} {Q : Int32 → zS → Prop}  {σ : zS} (h : Q 0 (zup (zup (zput (zput (zput (zput σ 33 (va_cpy (σ 199) (σ 33) (Int32.toNatClampNeg 0) (Int32.toNatClampNeg 0) (Int32.toNatClampNeg 60))) 34 (va_cpy (σ 200) (σ 34) (Int32.toNatClampNeg 0) (Int32.toNatClampNeg 0) (Int32.toNatClampNeg 60))) 35 (va_cpy (σ 201) (σ 35) (Int32.toNatClampNeg 0) (Int32.toNatClampNeg 0) (Int32.toNatClampNeg 60))) 36 (va_cpy (σ 202) (σ 36) (Int32.toNatClampNeg 0) (Int32.toNatClampNeg 0) (Int32.toNatClampNeg 60))) 32 4 (σ 198 4)) 32 5 (σ 198 5))) : Z d 12 Q 0 [.ref 32, .ref 198] [] σ :=
  zwp1_ok (code := zc_12) (cuts := []) rfl 400 h
set_option maxRecDepth 100000 in
theorem k_12_0_i32_209 {d : Nat} {Q : Int32 → zS → Prop}  {σ : zS} (h : Q 0 (zup (zup (zput (zput (zput (zput σ 33 (va_cpy (σ 210) (σ 33) (Int32.toNatClampNeg 0) (Int32.toNatClampNeg 0) (Int32.toNatClampNeg 60))) 34 (va_cpy (σ 211) (σ 34) (Int32.toNatClampNeg 0) (Int32.toNatClampNeg 0) (Int32.toNatClampNeg 60))) 35 (va_cpy (σ 212) (σ 35) (Int32.toNatClampNeg 0) (Int32.toNatClampNeg 0) (Int32.toNatClampNeg 60))) 36 (va_cpy (σ 213) (σ 36) (Int32.toNatClampNeg 0) (Int32.toNatClampNeg 0) (Int32.toNatClampNeg 60))) 32 4 (σ 209 4)) 32 5 (σ 209 5))) : Z d 12 Q 0 [.ref 32, .ref 209] [] σ :=
  zwp1_ok (code := zc_12) (cuts := []) rfl 400 h
set_option maxRecDepth 100000 in
theorem k_12_0_i32_45 {d : Nat} {Q : Int32 → zS → Prop}  {σ : zS} (h : Q 0 (zup (zup (zput (zput (zput (zput σ 33 (va_cpy (σ 46) (σ 33) (Int32.toNatClampNeg 0) (Int32.toNatClampNeg 0) (Int32.toNatClampNeg 60))) 34 (va_cpy (σ 47) (σ 34) (Int32.toNatClampNeg 0) (Int32.toNatClampNeg 0) (Int32.toNatClampNeg 60))) 35 (va_cpy (σ 48) (σ 35) (Int32.toNatClampNeg 0) (Int32.toNatClampNeg 0) (Int32.toNatClampNeg 60))) 36 (va_cpy (σ 49) (σ 36) (Int32.toNatClampNeg 0) (Int32.toNatClampNeg 0) (Int32.toNatClampNeg 60))) 32 4 (σ 45 4)) 32 5 (σ 45 5))) : Z d 12 Q 0 [.ref 32, .ref 45] [] σ :=
  zwp1_ok (code := zc_12) (cuts := []) rfl 400 h
set_option maxRecDepth 100000 in
theorem k_12_0_i32_56 {d : Nat} {Q : Int32 → zS → Prop}  {σ : zS} (h : Q 0 (zup (zup (zput (zput (zput (zput σ 33 (va_cpy (σ 57) (σ 33) (Int32.toNatClampNeg 0) (Int32.toNatClampNeg 0) (Int32.toNatClampNeg 60))) 34 (va_cpy (σ 58) (σ 34) (Int32.toNatClampNeg 0) (Int32.toNatClampNeg 0) (Int32.toNatClampNeg 60))) 35 (va_cpy (σ 59) (σ 35) (Int32.toNatClampNeg 0) (Int32.toNatClampNeg 0) (Int32.toNatClampNeg 60))) 36 (va_cpy (σ 60) (σ 36) (Int32.toNatClampNeg 0) (Int32.toNatClampNeg 0) (Int32.toNatClampNeg 60))) 32 4 (σ 56 4)) 32 5 (σ 56 5))) : Z d 12 Q 0 [.ref 32, .ref 56] [] σ :=
  zwp1_ok (code := zc_12) (cuts := []) rfl 400 h
set_option maxRecDepth 100000 in
theorem k_12_0_i32_67 {d : Nat} {Q : Int32 → zS → Prop}  {σ : zS} (h : Q 0 (zup (zup (zput (zput (zput (zput σ 33 (va_cpy (σ 68) (σ 33) (Int32.toNatClampNeg 0) (Int32.toNatClampNeg 0) (Int32.toNatClampNeg 60))) 34 (va_cpy (σ 69) (σ 34) (Int32.toNatClampNeg 0) (Int32.toNatClampNeg 0) (Int32.toNatClampNeg 60))) 35 (va_cpy (σ 70) (σ 35) (Int32.toNatClampNeg 0) (Int32.toNatClampNeg 0) (Int32.toNatClampNeg 60))) 36 (va_cpy (σ 71) (σ 36) (Int32.toNatClampNeg 0) (Int32.toNatClampNeg 0) (Int32.toNatClampNeg 60))) 32 4 (σ 67 4)) 32 5 (σ 67 5))) : Z d 12 Q 0 [.ref 32, .ref 67] [] σ :=
  zwp1_ok (code := zc_12) (cuts := []) rfl 400 h
set_option maxRecDepth 100000 in
theorem k_12_0_i32_78 {d : Nat} {Q : Int32 → zS → Prop}  {σ : zS} (h : Q 0 (zup (zup (zput (zput (zput (zput σ 33 (va_cpy (σ 79) (σ 33) (Int32.toNatClampNeg 0) (Int32.toNatClampNeg 0) (Int32.toNatClampNeg 60))) 34 (va_cpy (σ 80) (σ 34) (Int32.toNatClampNeg 0) (Int32.toNatClampNeg 0) (Int32.toNatClampNeg 60))) 35 (va_cpy (σ 81) (σ 35) (Int32.toNatClampNeg 0) (Int32.toNatClampNeg 0) (Int32.toNatClampNeg 60))) 36 (va_cpy (σ 82) (σ 36) (Int32.toNatClampNeg 0) (Int32.toNatClampNeg 0) (Int32.toNatClampNeg 60))) 32 4 (σ 78 4)) 32 5 (σ 78 5))) : Z d 12 Q 0 [.ref 32, .ref 78] [] σ :=
  zwp1_ok (code := zc_12) (cuts := []) rfl 400 h
set_option maxRecDepth 100000 in
theorem k_12_0_i32_89 {d : Nat} {Q : Int32 → zS → Prop}  {σ : zS} (h : Q 0 (zup (zup (zput (zput (zput (zput σ 33 (va_cpy (σ 90) (σ 33) (Int32.toNatClampNeg 0) (Int32.toNatClampNeg 0) (Int32.toNatClampNeg 60))) 34 (va_cpy (σ 91) (σ 34) (Int32.toNatClampNeg 0) (Int32.toNatClampNeg 0) (Int32.toNatClampNeg 60))) 35 (va_cpy (σ 92) (σ 35) (Int32.toNatClampNeg 0) (Int32.toNatClampNeg 0) (Int32.toNatClampNeg 60))) 36 (va_cpy (σ 93) (σ 36) (Int32.toNatClampNeg 0) (Int32.toNatClampNeg 0) (Int32.toNatClampNeg 60))) 32 4 (σ 89 4)) 32 5 (σ 89 5))) : Z d 12 Q 0 [.ref 32, .ref 89] [] σ :=
  zwp1_ok (code := zc_12) (cuts := []) rfl 400 h
set_option maxRecDepth 100000 in
theorem k_12_0_i45_32 {d : Nat} {Q : Int32 → zS → Prop}  {σ : zS} (h : Q 0 (zup (zup (zput (zput (zput (zput σ 46 (va_cpy (σ 33) (σ 46) (Int32.toNatClampNeg 0) (Int32.toNatClampNeg 0) (Int32.toNatClampNeg 60))) 47 (va_cpy (σ 34) (σ 47) (Int32.toNatClampNeg 0) (Int32.toNatClampNeg 0) (Int32.toNatClampNeg 60))) 48 (va_cpy (σ 35) (σ 48) (Int32.toNatClampNeg 0) (Int32.toNatClampNeg 0) (Int32.toNatClampNeg 60))) 49 (va_cpy (σ 36) (σ 49) (Int32.toNatClampNeg 0) (Int32.toNatClampNeg 0) (Int32.toNatClampNeg 60))) 45 4 (σ 32 4)) 45 5 (σ 32 5))) : Z d 12 Q 0 [.ref 45, .ref 32] [] σ :=
  zwp1_ok (code := zc_12) (cuts := []) rfl 400 h
set_option maxRecDepth 100000 in
theorem k_12_0_i56_32 {d : Nat} {Q : Int32 → zS → Prop}  {σ : zS} (h : Q 0 (zup (zup (zput (zput (zput (zput σ 57 (va_cpy (σ 33) (σ 57) (Int32.toNatClampNeg 0) (Int32.toNatClampNeg 0) (Int32.toNatClampNeg 60))) 58 (va_cpy (σ 34) (σ 58) (Int32.toNatClampNeg 0) (Int32.toNatClampNeg 0) (Int32.toNatClampNeg 60))) 59 (va_cpy (σ 35) (σ 59) (Int32.toNatClampNeg 0) (Int32.toNatClampNeg 0) (Int32.toNatClampNeg 60))) 60 (va_cpy (σ 36) (σ 60) (Int32.toNatClampNeg 0) (Int32.toNatClampNeg 0) (Int32.toNatClampNeg 60))) 56 4 (σ 32 4)) 56 5 (σ 32 5))) : Z d 12 Q 0 [.ref 56, .ref 32] [] σ :=
  zwp1_ok (code := zc_12) (cuts := []) rfl 400 h
set_option maxRecDepth 100000 in
theorem k_12_0_i67_32 {d : Nat} {Q : Int32 → zS → Prop}  {σ : zS} (h : Q 0 (zup (zup (zput (zput (zput (zput σ 68 (va_cpy (σ 33) (σ 68) (Int32.toNatClampNeg 0) (Int32.toNatClampNeg 0) (Int32.toNatClampNeg 60))) 69 (va_cpy (σ 34) (σ 69) (Int32.toNatClampNeg 0) (Int32.toNatClampNeg 0) (Int32.toNatClampNeg 60))) 70 (va_cpy (σ 35) (σ 70) (Int32.toNatClampNeg 0) (Int32.toNatClampNeg 0) (Int32.toNatClampNeg 60))) 71 (va_cpy (σ 36) (σ 71) (Int32.toNatClampNeg 0) (Int32.toNatClampNeg 0) (Int32.toNatClampNeg 60))) 67 4 (σ 32 4)) 67 5 (σ 32 5))) : Z d 12 Q 0 [.ref 67, .ref 32] [] σ :=
  zwp1_ok (code := zc_12) (cuts := []) rfl 400 h
set_option maxRecDepth 100000 in
theorem k_12_0_i78_32 {d : Nat} {Q : Int32 → zS → Prop}  {σ : zS} (h : Q 0 (zup (zup (zput (zput (zput (zput σ 79 (va_cpy (σ 33) (σ 79) (Int32.toNatClampNeg 0) (Int32.toNatClampNeg 0) (Int32.toNatClampNeg 60))) 80 (va_cpy (σ 34) (σ 80) (Int32.toNatClampNeg 0) (Int32.toNatClampNeg 0) (Int32.toNatClampNeg 60))) 81 (va_cpy (σ 35) (σ 81) (Int32.toNatClampNeg 0) (Int32.toNatClampNeg 0) (Int32.toNatClampNeg 60))) 82 (va_cpy (σ 36) (σ 82) (Int32.toNatClampNeg 0) (Int32.toNatClampNeg 0) (Int32.toNatClampNeg 60))) 78 4 (σ 32 4)) 78 5 (σ 32 5))) : Z d 12 Q 0 [.ref 78, .ref 32] [] σ :=
  zwp1_ok (code := zc_12) (cuts := []) rfl 400 h
set_option maxRecDepth 100000 in
theorem k_12_0_i89_32 {d : Nat} {Q : Int32 → zS → Prop}  {σ : zS} (h : Q 0 (zup (zup (zput (zput (zput (zput σ 90 (va_cpy (σ 33) (σ 90) (Int32.toNatClampNeg 0) (Int32.toNatClampNeg 0) (Int32.toNatClampNeg 60))) 91 (va_cpy (σ 34) (σ 91) (Int32.toNatClampNeg 0) (Int32.toNatClampNeg 0) (Int32.toNatClampNeg 60))) 92 (va_cpy (σ 35) (σ 92) (Int32.toNatClampNeg 0) (Int32.toNatClampNeg 0) (Int32.toNatClampNeg 60))) 93 (va_cpy (σ 36) (σ 93) (Int32.toNatClampNeg 0) (Int32.toNatClampNeg 0) (Int32.toNatClampNeg 60))) 89 4 (σ 32 4)) 89 5 (σ 32 5))) : Z d 12 Q 0 [.ref 89, .ref 32] [] σ :=
  zwp1_ok (code := zc_12) (cuts := []) rfl 400 h
set_option maxRecDepth 100000 in
theorem k_13_0 {d : Nat} {Q : Int32 → zS → Prop} {x1 : Int32} {σ : zS} (h : (if x1 < 0 then Q 0 σ else (if x1 < (σ 32 4) then Q 1 σ else Q 0 σ))) : Z d 13 Q 0 [.ref 32, .int x1] [] σ :=
  zwp1_ok (code := zc_13) (cuts := []) rfl 400 h
set_option maxRecDepth 100000 in
theorem k_14_0 {d : Nat} {Q : Int32 → zS → Prop} {x1 : Int32} {σ : zS} (h : (ZC d 1 [.int ((σ 32 5) + x1), .int 60] σ (fun v2 s1 => Q v2 s1))) : Z d 14 Q 0 [.ref 32, .int x1] [] σ :=
  zwp1_ok (code := zc_14) (cuts := []) rfl 400 h
set_option maxRecDepth 100000 in
theorem k_15_0 {d : Nat} {Q : Int32 → zS → Prop} {x1 x2 x3 x4 : Int32} {σ : zS} (h : (ZC d 14 [.ref 32, .int (σ 32 4)] σ (fun v2 s1 => (if zin v2 60 = true then (if zin v2 60 = true then (if zin v2 60 = true then (if zin v2 60 = true then (if (s1 32 4) < 60 then Q 0 (zup (zup (zup (zup (zup s1 33 (Int32.toNatClampNeg v2) x1) 34 (Int32.toNatClampNeg v2) x2) 35 (Int32.toNatClampNeg v2) x3) 36 (Int32.toNatClampNeg v2) x4) 32 4 ((s1 32 4) + 1)) else (ZC d 14 [.ref 32, .int 1] (zup (zup (zup (zup s1 33 (Int32.toNatClampNeg v2) x1) 34 (Int32.toNatClampNeg v2) x2) 35 (Int32.toNatClampNeg v2) x3) 36 (Int32.toNatClampNeg v2) x4) (fun v4 s3 => Q 0 (zup s3 32 5 v4)))) else False) else False) else False) else False)))) : Z d 15 Q 0 [.ref 32, .int x1, .int x2, .int x3, .int x4, (.retAddr 0)] [] σ :=
  zwp1_ok (code := zc_15) (cuts := []) rfl 400 h
set_option maxRecDepth 100000 in
theorem k_16_0 {d : Nat} {Q : Int32 → zS → Prop} {x1 : Int32} {σ : zS} (h : (ZC d 14 [.ref 32, .int x1] σ (fun v2 s1 => (if zin v2 60 = true then Q (s1 35 (Int32.toNatClampNeg v2)) s1 else False)))) : Z d 16 Q 0 [.ref 32, .int x1] [] σ :=
  zwp1_ok (code := zc_16) (cuts := []) rfl 400 h
set_option maxRecDepth 100000 in
theorem k_17_0 {d : Nat} {Q : Int32 → zS → Prop} {x1 : Int32} {σ : zS} (h : (ZC d 14 [.ref 32, .int x1] σ (fun v2 s1 => (if zin v2 60 = true then Q (s1 34 (Int32.toNatClampNeg v2)) s1 else False)))) : Z d 17 Q 0 [.ref 32, .int x1] [] σ :=
  zwp1_ok (code := zc_17) (cuts := []) rfl 400 h
set_option maxRecDepth 100000 in
theorem k_18_0 {d : Nat} {Q : Int32 → zS → Prop} {x1 x2 : Int32} {σ : zS} (h : (ZC d 14 [.ref 32, .int x1] σ (fun v2 s1 => (if zin v2 60 = true then Z d 18 Q 16 [.ref 32, .int x1, .int x2, .int (s1 33 (Int32.toNatClampNeg v2)), .int (x1 - 1)] [] s1 else False)))) : Z d 18 Q 0 [.ref 32, .int x1, .int x2, (.retAddr 0), (.retAddr 0)] [] σ :=
  zwp1_ok (code := zc_18) (cuts := [16]) rfl 400 h
set_option maxRecDepth 100000 in
theorem k_18_16 {d : Nat} {Q : Int32 → zS → Prop} {x1 x2 x3 x4 : Int32} {σ : zS} (h : (if x4 < 0 then Q (-1) σ else (ZC d 14 [.ref 32, .int x4] σ (fun v2 s1 => (if zin v2 60 = true then (if (s1 34 (Int32.toNatClampNeg v2)) = x2 then (ZC d 14 [.ref 32, .int x4] s1 (fun v4 s3 => (if zin v4 60 = true then (if (s3 33 (Int32.toNatClampNeg v4)) < x3 then Q x4 s3 else Z d 18 Q 16 [.ref 32, .int x1, .int x2, .int x3, .int (x4 + (-1))] [] s3) else False))) else Z d 18 Q 16 [.ref 32, .int x1, .int x2, .int x3, .int (x4 + (-1))] [] s1) else False))))) : Z d 18 Q 16 [.ref 32, .int x1, .int x2, .int x3, .int x4] [] σ :=
  zwp1_ok (code := zc_18) (cuts := [16]) rfl 400 h
set_option maxRecDepth 100000 in
theorem k_20_0 {d : Nat} {Q : Int32 → zS → Prop} {x1 x2 x3 : Int32} {σ : zS} (h : (if (σ 183 3) < 0 then Q 0 σ else (if (σ 183 3) < 5 then (if zin (σ 183 3) 5 = true then (if zin (σ 183 3) 5 = true then (if zin (σ 183 3) 5 = true then Q 1 (zup (zup (zup (zup σ 184 (Int32.toNatClampNeg (σ 183 3)) x1) 185 (Int32.toNatClampNeg (σ 183 3)) x2) 186 (Int32.toNatClampNeg (σ 183 3)) x3) 183 3 ((σ 183 3) + 1)) else False) else False) else False) else Q 0 σ))) : Z d 20 Q 0 [.ref 183, .int x1, .int x2, .int x3] [] σ :=
  zwp1_ok (code := zc_20) (cuts := []) rfl 400 h
set_option maxRecDepth 100000 in
theorem k_21_0 {d : Nat} {Q : Int32 → zS → Prop} {x1 x2 x3 : Int32} {σ : zS} (h : (if x1 < 0 then Q 0 σ else (if x1 < 5 then (if x3 < x2 then (if zin x1 5 = true then Q ((σ 186 (Int32.toNatClampNeg x1)) * (x2 - x3)) σ else False) else (if zin x1 5 = true then Q ((σ 185 (Int32.toNatClampNeg x1)) * (x3 - x2)) σ else False)) else Q 0 σ))) : Z d 21 Q 0 [.ref 183, .int x1, .int x2, .int x3] [] σ :=
  zwp1_ok (code := zc_21) (cuts := []) rfl 400 h
set_option maxRecDepth 100000 in
theorem k_23_0_i105_14_32 {d : Nat} {Q : Int32 → zS → Prop}  {σ : zS} (h : (ZC d 26 [.ref 106, .ref 17] σ (fun _ s1 => (ZC d 12 [.ref 111, .ref 32] s1 (fun _ s3 => Q 0 (zup (zup s3 105 1 (s3 14 3)) 105 0 1)))))) : Z d 23 Q 0 [.ref 105, .ref 14, .ref 32] [] σ :=
  zwp1_ok (code := zc_23) (cuts := []) rfl 400 h
set_option maxRecDepth 100000 in
theorem k_23_0_i116_14_32 {d : Nat} {Q : Int32 → zS → Prop}  {σ : zS} (h : (ZC d 26 [.ref 117, .ref 17] σ (fun _ s1 => (ZC d 12 [.ref 122, .ref 32] s1 (fun _ s3 => Q 0 (zup (zup s3 116 1 (s3 14 3)) 116 0 1)))))) : Z d 23 Q 0 [.ref 116, .ref 14, .ref 32] [] σ :=
  zwp1_ok (code := zc_23) (cuts := []) rfl 400 h
set_option maxRecDepth 100000 in
theorem k_23_0_i127_14_32 {d : Nat} {Q : Int32 → zS → Prop}  {σ : zS} (h : (ZC d 26 [.ref 128, .ref 17] σ (fun _ s1 => (ZC d 12 [.ref 133, .ref 32] s1 (fun _ s3 => Q 0 (zup (zup s3 127 1 (s3 14 3)) 127 0 1)))))) : Z d 23 Q 0 [.ref 127, .ref 14, .ref 32] [] σ :=
  zwp1_ok (code := zc_23) (cuts := []) rfl 400 h
set_option maxRecDepth 100000 in
theorem k_23_0_i138_14_32 {d : Nat} {Q : Int32 → zS → Prop}  {σ : zS} (h : (ZC d 26 [.ref 139, .ref 17] σ (fun _ s1 => (ZC d 12 [.ref 144, .ref 32] s1 (fun _ s3 => Q 0 (zup (zup s3 138 1 (s3 14 3)) 138 0 1)))))) : Z d 23 Q 0 [.ref 138, .ref 14, .ref 32] [] σ :=
  zwp1_ok (code := zc_23) (cuts := []) rfl 400 h
set_option maxRecDepth 100000 in
theorem k_23_0_i149_14_32 {d : Nat} {Q : Int32 → zS → Prop}  {σ : zS} (h : (ZC d 26 [.ref 150, .ref 17] σ (fun _ s1 => (ZC d 12 [.ref 155, .ref 32] s1 (fun _ s3 => Q 0 (zup (zup s3 149 1 (s3 14 3)) 149 0 1)))))) : Z d 23 Q 0 [.ref 149, .ref 14, .ref 32] [] σ :=
  zwp1_ok (code := zc_23) (cuts := []) rfl 400 h
set_option maxRecDepth 100000 in
theorem k_23_0_i160_14_32 {d : Nat} {Q : Int32 → zS → Prop}  {σ : zS} (h : (ZC d 26 [.ref 161, .ref 17] σ (fun _ s1 => (ZC d 12 [.ref 166, .ref 32] s1 (fun _ s3 => Q 0 (zup (zup s3 160 1 (s3 14 3)) 160 0 1)))))) : Z d 23 Q 0 [.ref 160, .ref 14, .ref 32] [] σ :=
  zwp1_ok (code := zc_23) (cuts := []) rfl 400 h
set_option maxRecDepth 100000 in
theorem k_23_0_i171_14_32 {d : Nat} {Q : Int32 → zS → Prop}  {σ : zS} (h : (ZC d 26 [.ref 172, .ref 17] σ (fun _ s1 => (ZC d 12 [.ref 177, .ref 32] s1 (fun _ s3 => Q 0 (zup (zup s3 171 1 (s3 14 3)) 171 0 1)))))) : Z d 23 Q 0 [.ref 171, .ref 14, .ref 32] [] σ :=
  zwp1_ok (code := zc_23) (cuts := []) rfl 400 h
set_option maxRecDepth 100000 in
theorem k_23_0_i192_14_32 {d : Nat} {Q : Int32 → zS → Prop}  {σ : zS} (h : (ZC d 26 [.ref 193, .ref 17] σ (fun _ s1 => (ZC d 12 [.ref 198, .ref 32] s1 (fun _ s3 => Q 0 (zup (zup s3 192 1 (s3 14 3)) 192 0 1)))))) : Z d 23 Q 0 [.ref 192, .ref 14, .ref 32] [] σ :=
  zwp1_ok (code := zc_23) (cuts := []) rfl 400 h
set_option maxRecDepth 100000 in
theorem k_23_0_i203_14_32 {d : Nat} {Q : Int32 → zS → Prop}  {σ : zS} (h : (ZC d 26 [.ref 204, .ref 17] σ (fun _ s1 => (ZC d 12 [.ref 209, .ref 32] s1 (fun _ s3 => Q 0 (zup (zup s3 203 1 (s3 14 3)) 203 0 1)))))) : Z d 23 Q 0 [.ref 203, .ref 14, .ref 32] [] σ :=
  zwp1_ok (code := zc_23) (cuts := []) rfl 400 h
set_option maxRecDepth 100000 in
theorem k_23_0_i39_14_32 {d : Nat} {Q : Int32 → zS → Prop}  {σ : zS} (h : (ZC d 26 [.ref 40, .ref 17] σ (fun _ s1 => (ZC d 12 [.ref 45, .ref 32] s1 (fun _ s3 => Q 0 (zup (zup s3 39 1 (s3 14 3)) 39 0 1)))))) : Z d 23 Q 0 [.ref 39, .ref 14, .ref 32] [] σ :=
  zwp1_ok (code := zc_23) (cuts := []) rfl 400 h
set_option maxRecDepth 100000 in
theorem k_23_0_i50_14_32 {d : Nat} {Q : Int32 → zS → Prop}  {σ : zS} (h : (ZC d 26 [.ref 51, .ref 17] σ (fun _ s1 => (ZC d 12 [.ref 56, .ref 32] s1 (fun _ s3 => Q 0 (zup (zup s3 50 1 (s3 14 3)) 50 0 1)))))) : Z d 23 Q 0 [.ref 50, .ref 14, .ref 32] [] σ :=
  zwp1_ok (code := zc_23) (cuts := []) rfl 400 h
set_option maxRecDepth 100000 in
theorem k_23_0_i61_14_32 {d : Nat} {Q : Int32 → zS → Prop}  {σ : zS} (h : (ZC d 26 [.ref 62, .ref 17] σ (fun _ s1 => (ZC d 12 [.ref 67, .ref 32] s1 (fun _ s3 => Q 0 (zup (zup s3 61 1 (s3 14 3)) 61 0 1)))))) : Z d 23 Q 0 [.ref 61, .ref 14, .ref 32] [] σ :=
  zwp1_ok (code := zc_23) (cuts := []) rfl 400 h
set_option maxRecDepth 100000 in
theorem k_23_0_i72_14_32 {d : Nat} {Q : Int32 → zS → Prop}  {σ : zS} (h : (ZC d 26 [.ref 73, .ref 17] σ (fun _ s1 => (ZC d 12 [.ref 78, .ref 32] s1 (fun _ s3 => Q 0 (zup (zup s3 72 1 (s3 14 3)) 72 0 1)))))) : Z d 23 Q 0 [.ref 72, .ref 14, .ref 32] [] σ :=
  zwp1_ok (code := zc_23) (cuts := []) rfl 400 h
set_option maxRecDepth 100000 in
theorem k_23_0_i83_14_32 {d : Nat} {Q : Int32 → zS → Prop}  {σ : zS} (h : (ZC d 26 [.ref 84, .ref 17] σ (fun _ s1 => (ZC d 12 [.ref 89, .ref 32] s1 (fun _ s3 => Q 0 (zup (zup s3 83 1 (s3 14 3)) 83 0 1)))))) : Z d 23 Q 0 [.ref 83, .ref 14, .ref 32] [] σ :=
  zwp1_ok (code := zc_23) (cuts := []) rfl 400 h
set_option maxRecDepth 100000 in
theorem k_23_0_i94_14_32 {d : Nat} {Q : Int32 → zS → Prop}  {σ : zS} (h : (ZC d 26 [.ref 95, .ref 17] σ (fun _ s1 => (ZC d 12 [.ref 100, .ref 32] s1 (fun _ s3 => Q 0 (zup (zup s3 94 1 (s3 14 3)) 94 0 1)))))) : Z d 23 Q 0 [.ref 94, .ref 14, .ref 32] [] σ :=
  zwp1_ok (code := zc_23) (cuts := []) rfl 400 h
set_option maxRecDepth 100000 in
theorem k_24_0_i105_14_32 {d : Nat} {Q : Int32 → zS → Prop}  {σ : zS} (h : (ZC d 26 [.ref 17, .ref 106] σ (fun _ s1 => (ZC d 12 [.ref 32, .ref 111] s1 (fun _ s3 => Q 0 s3))))) : Z d 24 Q 0 [.ref 105, .ref 14, .ref 32] [] σ :=
  zwp1_ok (code := zc_24) (cuts := []) rfl 400 h
set_option maxRecDepth 100000 in
theorem k_24_0_i116_14_32 {d : Nat} {Q : Int32 → zS → Prop}  {σ : zS} (h : (ZC d 26 [.ref 17, .ref 117] σ (fun _ s1 => (ZC d 12 [.ref 32, .ref 122] s1 (fun _ s3 => Q 0 s3))))) : Z d 24 Q 0 [.ref 116, .ref 14, .ref 32] [] σ :=
  zwp1_ok (code := zc_24) (cuts := []) rfl 400 h
set_option maxRecDepth 100000 in
theorem k_24_0_i127_14_32 {d : Nat} {Q : Int32 → zS → Prop}  {σ : zS} (h : (ZC d 26 [.ref 17, .ref 128] σ (fun _ s1 => (ZC d 12 [.ref 32, .ref 133] s1 (fun _ s3 => Q 0 s3))))) : Z d 24 Q 0 [.ref 127, .ref 14, .ref 32] [] σ :=
  zwp1_ok (code := zc_24) (cuts := []) rfl 400 h
set_option maxRecDepth 100000 in
theorem k_24_0_i138_14_32 {d : Nat} {Q : Int32 → zS → Prop}  {σ : zS} (h : (ZC d 26 [.ref 17, .ref 139] σ (fun _ s1 => (ZC d 12 [.ref 32, .ref 144] s1 (fun _ s3 => Q 0 s3))))) : Z d 24 Q 0 [.ref 138, .ref 14, .ref 32] [] σ :=
  zwp1_ok (code := zc_24) (cuts := []) rfl 400 h
set_option maxRecDepth 100000 in
theorem k_24_0_i149_14_32 {d : Nat} {Q : Int32 → zS → Prop}  {σ : zS} (h : (ZC d 26 [.ref 17, .ref 150] σ (fun _ s1 => (ZC d 12 [.ref 32, .ref 155] s1 (fun _ s3 => Q 0 s3))))) : Z d 24 Q 0 [.ref 149, .ref 14, .ref 32] [] σ :=
  zwp1_ok (code := zc_24) (cuts := []) rfl 400 h
set_option maxRecDepth 100000 in
theorem k_24_0_i160_14_32 {d : Nat} {Q : Int32 → zS → Prop}  {σ : zS} (h : (ZC d 26 [.ref 17, .ref 161] σ (fun _ s1 => (ZC d 12 [.ref 32, .ref 166] s1 (fun _ s3 => Q 0 s3))))) : Z d 24 Q 0 [.ref 160, .ref 14, .ref 32] [] σ :=
  zwp1_ok (code := zc_24) (cuts := []) rfl 400 h
set_option maxRecDepth 100000 in
theorem k_24_0_i171_14_32 {d : Nat} {Q : Int32 → zS → Prop}  {σ : zS} (h : (ZC d 26 [.ref 17, .ref 172] σ (fun _ s1 => (ZC d 12 [.ref 32, .ref 177] s1 (fun _ s3 => Q 0 s3))))) : Z d 24 Q 0 [.ref 171, .ref 14, .ref 32] [] σ :=
  zwp1_ok (code := zc_24) (cuts := []) rfl 400 h
set_option maxRecDepth 100000 in
theorem k_24_0_i192_14_32 {d : Nat} {Q : Int32 → zS → Prop}  {σ : zS} (h : (ZC d 26 [.ref 17, .ref 193] σ (fun _ s1 => (ZC d 12 [.ref 32, .ref 198] s1 (fun _ s3 => Q 0 s3))))) : Z d 24 Q 0 [.ref 192, .ref 14, .ref 32] [] σ :=
  zwp1_ok (code := zc_24) (cuts := []) rfl 400 h
set_option maxRecDepth 100000 in
theorem k_24_0_i203_14_32 {d : Nat} {Q : Int32 → zS → Prop}  {σ : zS} (h : (ZC d 26 [.ref 17, .ref 204] σ (fun _ s1 => (ZC d 12 [.ref 32, .ref 209] s1 (fun _ s3 => Q 0 s3))))) : Z d 24 Q 0 [.ref 203, .ref 14, .ref 32] [] σ :=
  zwp1_ok (code := zc_24) (cuts := []) rfl 400 h
set_option maxRecDepth 100000 in
theorem k_24_0_i39_14_32 {d : Nat} {Q : Int32 → zS → Prop}  {σ : zS} (h : (ZC d 26 [.ref 17, .ref 40] σ (fun _ s1 => (ZC d 12 [.ref 32, .ref 45] s1 (fun _ s3 => Q 0 s3))))) : Z d 24 Q 0 [.ref 39, .ref 14, .ref 32] [] σ :=
  zwp1_ok (code := zc_24) (cuts := []) rfl 400 h
set_option maxRecDepth 100000 in
theorem k_24_0_i50_14_32 {d : Nat} {Q : Int32 → zS → Prop}  {σ : zS} (h : (ZC d 26 [.ref 17, .ref 51] σ (fun _ s1 => (ZC d 12 [.ref 32, .ref 56] s1 (fun _ s3 => Q 0 s3))))) : Z d 24 Q 0 [.ref 50, .ref 14, .ref 32] [] σ :=
  zwp1_ok (code := zc_24) (cuts := []) rfl 400 h
set_option maxRecDepth 100000 in
theorem k_24_0_i61_14_32 {d : Nat} {Q : Int32 → zS → Prop}  {σ : zS} (h : (ZC d 26 [.ref 17, .ref 62] σ (fun _ s1 => (ZC d 12 [.ref 32, .ref 67] s1 (fun _ s3 => Q 0 s3))))) : Z d 24 Q 0 [.ref 61, .ref 14, .ref 32] [] σ :=
  zwp1_ok (code := zc_24) (cuts := []) rfl 400 h
set_option maxRecDepth 100000 in
theorem k_24_0_i72_14_32 {d : Nat} {Q : Int32 → zS → Prop}  {σ : zS} (h : (ZC d 26 [.ref 17, .ref 73] σ (fun _ s1 => (ZC d 12 [.ref 32, .ref 78] s1 (fun _ s3 => Q 0 s3))))) : Z d 24 Q 0 [.ref 72, .ref 14, .ref 32] [] σ :=
  zwp1_ok (code := zc_24) (cuts := []) rfl 400 h
set_option maxRecDepth 100000 in
theorem k_24_0_i83_14_32 {d : Nat} {Q : Int32 → zS → Prop}  {σ : zS} (h : (ZC d 26 [.ref 17, .ref 84] σ (fun _ s1 => (ZC d 12 [.ref 32, .ref 89] s1 (fun _ s3 => Q 0 s3))))) : Z d 24 Q 0 [.ref 83, .ref 14, .ref 32] [] σ :=
  zwp1_ok (code := zc_24) (cuts := []) rfl 400 h
set_option maxRecDepth 100000 in
theorem k_24_0_i94_14_32 {d : Nat} {Q : Int32 → zS → Prop}  {σ : zS} (h : (ZC d 26 [.ref 17, .ref 95] σ (fun _ s1 => (ZC d 12 [.ref 32, .ref 100] s1 (fun _ s3 => Q 0 s3))))) : Z d 24 Q 0 [.ref 94, .ref 14, .ref 32] [] σ :=
  zwp1_ok (code := zc_24) (cuts := []) rfl 400 h
set_option maxRecDepth 100000 in
theorem k_26_0_i106_17 {d : Nat} {Q : Int32 → zS → Prop}  {σ : zS} (h : Q 0 (zup (zup (zup (zput (zput (zput (zput σ 107 (va_cpy (σ 18) (σ 107) (Int32.toNatClampNeg 0) (Int32.toNatClampNeg 0) (Int32.toNatClampNeg 9))) 108 (va_cpy (σ 19) (σ 108) (Int32.toNatClampNeg 0) (Int32.toNatClampNeg 0) (Int32.toNatClampNeg 9))) 109 (va_cpy (σ 20) (σ 109) (Int32.toNatClampNeg 0) (Int32.toNatClampNeg 0) (Int32.toNatClampNeg 9))) 110 (va_cpy (σ 21) (σ 110) (Int32.toNatClampNeg 0) (Int32.toNatClampNeg 0) (Int32.toNatClampNeg 9))) 106 4 (σ 17 4)) 106 5 (σ 17 5)) 106 6 (σ 17 6))) : Z d 26 Q 0 [.ref 106, .ref 17] [] σ :=
  zwp1_ok (code := zc_26) (cuts := []) rfl 400 h
set_option maxRecDepth 100000 in
theorem k_26_0_i117_17 {d : Nat} {Q : Int32 → zS → Prop}  {σ : zS} (h : Q 0 (zup (zup (zup (zput (zput (zput (zput σ 118 (va_cpy (σ 18) (σ 118) (Int32.toNatClampNeg 0) (Int32.toNatClampNeg 0) (Int32.toNatClampNeg 9))) 119 (va_cpy (σ 19) (σ 119) (Int32.toNatClampNeg 0) (Int32.toNatClampNeg 0) (Int32.toNatClampNeg 9))) 120 (va_cpy (σ 20) (σ 120) (Int32.toNatClampNeg 0) (Int32.toNatClampNeg 0) (Int32.toNatClampNeg 9))) 121 (va_cpy (σ 21) (σ 121) (Int32.toNatClampNeg 0) (Int32.toNatClampNeg 0) (Int32.toNatClampNeg 9))) 117 4 (σ 17 4)) 117 5 (σ 17 5)) 117 6 (σ 17 6))) : Z d 26 Q 0 [.ref 117, .ref 17] [] σ :=
  zwp1_ok (code := zc_26) (cuts := []) rfl 400 h
set_option maxRecDepth 100000 in
theorem k_26_0_i128_17 {d : Nat} {Q : Int32 → zS → Prop}  {σ : zS} (h : Q 0 (zup (zup (zup (zput (zput (zput (zput σ 129 (va_cpy (σ 18) (σ 129) (Int32.toNatClampNeg 0) (Int32.toNatClampNeg 0) (Int32.toNatClampNeg 9))) 130 (va_cpy (σ 19) (σ 130) (Int32.toNatClampNeg 0) (Int32.toNatClampNeg 0) (Int32.toNatClampNeg 9))) 131 (va_cpy (σ 20) (σ 131) (Int32.toNatClampNeg 0) (Int32.toNatClampNeg 0) (Int32.toNatClampNeg 9))) 132 (va_cpy (σ 21) (σ 132) (Int32.toNatClampNeg 0) (Int32.toNatClampNeg 0) (Int32.toNatClampNeg 9))) 128 4 (σ 17 4)) 128 5 (σ 17 5)) 128 6 (σ 17 6))) : Z d 26 Q 0 [.ref 128, .ref 17] [] σ :=
  zwp1_ok (code := zc_26) (cuts := []) rfl 400 h
set_option maxRecDepth 100000 in
theorem k_26_0_i139_17 {d : Nat} {Q : Int32 → zS → Prop}  {σ : zS} (h : Q 0 (zup (zup (zup (zput (zput (zput (zput σ 140 (va_cpy (σ 18) (σ 140) (Int32.toNatClampNeg 0) (Int32.toNatClampNeg 0) (Int32.toNatClampNeg 9))) 141 (va_cpy (σ 19) (σ 141) (Int32.toNatClampNeg 0) (Int32.toNatClampNeg 0) (Int32.toNatClampNeg 9))) 142 (va_cpy (σ 20) (σ 142) (Int32.toNatClampNeg 0) (Int32.toNatClampNeg 0) (Int32.toNatClampNeg 9))) 143 (va_cpy (σ 21) (σ 143) (Int32.toNatClampNeg 0) (Int32.toNatClampNeg 0) (Int32.toNatClampNeg 9))) 139 4 (σ 17 4)) 139 5 (σ 17 5)) 139 6 (σ 17 6))) : Z d 26 Q 0 [.ref 139, .ref 17] [] σ :=
  zwp1_ok (code := zc_26) (cuts := []) rfl 400 h
set_option maxRecDepth 100000 in
theorem k_26_0_i150_17 {d : Nat} {Q : Int32 → zS → Prop}  {σ : zS} (h : Q 0 (zup (zup (zup (zput (zput (zput (zput σ 151 (va_cpy (σ 18) (σ 151) (Int32.toNatClampNeg 0) (Int32.toNatClampNeg 0) (Int32.toNatClampNeg 9))) 152 (va_cpy (σ 19) (σ 152) (Int32.toNatClampNeg 0) (Int32.toNatClampNeg 0) (Int32.toNatClampNeg 9))) 153 (va_cpy (σ 20) (σ 153) (Int32.toNatClampNeg 0) (Int32.toNatClampNeg 0) (Int32.toNatClampNeg 9))) 154 (va_cpy (σ 21) (σ 154) (Int32.toNatClampNeg 0) (Int32.toNatClampNeg 0) (Int32.toNatClampNeg 9))) 150 4 (σ 17 4)) 150 5 (σ 17 5)) 150 6 (σ 17 6))) : Z d 26 Q 0 [.ref 150, .ref 17] [] σ :=
  zwp1_ok (code := zc_26) (cuts := []) rfl 400 h
set_option maxRecDepth 100000 in
theorem k_26_0_i161_17 {d : Nat} {Q : Int32 → zS → Prop}  {σ : zS} (h : Q 0 (zup (zup (zup (zput (zput (zput (zput σ 162 (va_cpy (σ 18) (σ 162) (Int32.toNatClampNeg 0) (Int32.toNatClampNeg 0) (Int32.toNatClampNeg 9))) 163 (va_cpy (σ 19) (σ 163) (Int32.toNatClampNeg 0) (Int32.toNatClampNeg 0) (Int32.toNatClampNeg 9))) 164 (va_cpy (σ 20) (σ 164) (Int32.toNatClampNeg 0) (Int32.toNatClampNeg 0) (Int32.toNatClampNeg 9))) 165 (va_cpy (σ 21) (σ 165) (Int32.toNatClampNeg 0) (Int32.toNatClampNeg 0) (Int32.toNatClampNeg 9))) 161 4 (σ 17 4)) 161 5 (σ 17 5)) 161 6 (σ 17 6))) : Z d 26 Q 0 [.ref 161, .ref 17] [] σ :=
  zwp1_ok (code := zc_26) (cuts := []) rfl 400 h
set_option maxRecDepth 100000 in
theorem k_26_0_i17_106 {d : Nat} {Q : Int32 → zS → Prop}  {σ : zS} (h : Q 0 (zup (zup (zup (zput (zput (zput (zput σ 18 (va_cpy (σ 107) (σ 18) (Int32.toNatClampNeg 0) (Int32.toNatClampNeg 0) (Int32.toNatClampNeg 9))) 19 (va_cpy (σ 108) (σ 19) (Int32.toNatClampNeg 0) (Int32.toNatClampNeg 0) (Int32.toNatClampNeg 9))) 20 (va_cpy (σ 109) (σ 20) (Int32.toNatClampNeg 0) (Int32.toNatClampNeg 0) (Int32.toNatClampNeg 9))) 21 (va_cpy (σ 110) (σ 21) (Int32.toNatClampNeg 0) (Int32.toNatClampNeg 0) (Int32.toNatClampNeg 9))) 17 4 (σ 106 4)) 17 5 (σ 106 5)) 17 6 (σ 106 6))) : Z d 26 Q 0 [.ref 17, .ref 106] [] σ :=
  zwp1_ok (code := zc_26) (cuts := []) rfl 400 h
set_option maxRecDepth 100000 in
theorem k_26_0_i17_117 {d : Nat} {Q : Int32 → zS → Prop}  {σ : zS} (h : Q 0 (zup (zup (zup (zput (zput (zput (zput σ 18 (va_cpy (σ 118) (σ 18) (Int32.toNatClampNeg 0) (Int32.toNatClampNeg 0) (Int32.toNatClampNeg 9))) 19 (va_cpy (σ 119) (σ 19) (Int32.toNatClampNeg 0) (Int32.toNatClampNeg 0) (Int32.toNatClampNeg 9))) 20 (va_cpy (σ 120) (σ 20) (Int32.toNatClampNeg 0) (Int32.toNatClampNeg 0) (Int32.toNatClampNeg 9))) 21 (va_cpy (σ 121) (σ 21) (Int32.toNatClampNeg 0) (Int32.toNatClampNeg 0) (Int32.toNatClampNeg 9))) 17 4 (σ 117 4)) 17 5 (σ 117 5)) 17 6 (σ 117 6))) : Z d 26 Q 0 [.ref 17, .ref 117] [] σ :=
  zwp1_ok (code := zc_26) (cuts := []) rfl 400 h
set_option maxRecDepth 100000 in
theorem k_26_0_i17_128 {d : Nat} {Q : Int32 → zS → Prop}  {σ : zS} (h : Q 0 (zup (zup (zup (zput (zput (zput (zput σ 18 (va_cpy (σ 129) (σ 18) (Int32.toNatClampNeg 0) (Int32.toNatClampNeg 0) (Int32.toNatClampNeg 9))) 19 (va_cpy (σ 130) (σ 19) (Int32.toNatClampNeg 0) (Int32.toNatClampNeg 0) (Int32.toNatClampNeg 9))) 20 (va_cpy (σ 131) (σ 20) (Int32.toNatClampNeg 0) (Int32.toNatClampNeg 0) (Int32.toNatClampNeg 9))) 21 (va_cpy (σ 132) (σ 21) (Int32.toNatClampNeg 0) (Int32.toNatClampNeg 0) (Int32.toNatClampNeg 9))) 17 4 (σ 128 4)) 17 5 (σ 128 5)) 17 6 (σ 128 6))) : Z d 26 Q 0 [.ref 17, .ref 128] [] σ :=
  zwp1_ok (code := zc_26) (cuts := []) rfl 400 h
set_option maxRecDepth 100000 in
theorem k_26_0_i17_139 {d : Nat} {Q : Int32 → zS → Prop}  {σ : zS} (h : Q 0 (zup (zup (zup (zput (zput (zput (zput σ 18 (va_cpy (σ 140) (σ 18) (Int32.toNatClampNeg 0) (Int32.toNatClampNeg 0) (Int32.toNatClampNeg 9))) 19 (va_cpy (σ 141) (σ 19) (Int32.toNatClampNeg 0) (Int32.toNatClampNeg 0) (Int32.toNatClampNeg 9))) 20 (va_cpy (σ 142) (σ 20) (Int32.toNatClampNeg 0) (Int32.toNatClampNeg 0) (Int32.toNatClampNeg 9))) 21 (va_cpy (σ 143) (σ 21) (Int32.toNatClampNeg 0) (Int32.toNatClampNeg 0) (Int32.toNatClampNeg 9))) 17 4 (σ 139 4)) 17 5 (σ 139 5)) 17 6 (σ 139 6))) : Z d 26 Q 0 [.ref 17, .ref 139] [] σ :=
  zwp1_ok (code := zc_26) (cuts := []) rfl 400 h
set_option maxRecDepth 100000 in
theorem k_26_0_i17_150 {d : Nat} {Q : Int32 → zS → Prop}  {σ : zS} (h : Q 0 (zup (zup (zup (zput (zput (zput (zput σ 18 (va_cpy (σ 151) (σ 18) (Int32.toNatClampNeg 0) (Int32.toNatClampNeg 0) (Int32.toNatClampNeg 9))) 19 (va_cpy (σ 152) (σ 19) (Int32.toNatClampNeg 0) (Int32.toNatClampNeg 0) (Int32.toNatClampNeg 9))) 20 (va_cpy (σ 153) (σ 20) (Int32.toNatClampNeg 0) (Int32.toNatClampNeg 0) (Int32.toNatClampNeg 9))) 21 (va_cpy (σ 154) (σ 21) (Int32.toNatClampNeg 0) (Int32.toNatClampNeg 0) (Int32.toNatClampNeg 9))) 17 4 (σ 150 4)) 17 5 (σ 150 5)) 17 6 (σ 150 6))) : Z d 26 Q 0 [.ref 17, .ref 150] [] σ :=
  zwp1_ok (code := zc_26) (cuts := []) rfl 400 h
set_option maxRecDepth 100000 in
theorem k_26_0_i17_161 {d : Nat} {Q : Int32 → zS → Prop}  {σ : zS} (h : Q 0 (zup (zup (zup (zput (zput (zput (zput σ 18 (va_cpy (σ 162) (σ 18) (Int32.toNatClampNeg 0) (Int32.toNatClampNeg 0) (Int32.toNatClampNeg 9))) 19 (va_cpy (σ 163) (σ 19) (Int32.toNatClampNeg 0) (Int32.toNatClampNeg 0) (Int32.toNatClampNeg 9))) 20 (va_cpy (σ 164) (σ 20) (Int32.toNatClampNeg 0) (Int32.toNatClampNeg 0) (Int32.toNatClampNeg 9))) 21 (va_cpy (σ 165) (σ 21) (Int32.toNatClampNeg 0) (Int32.toNatClampNeg 0) (Int32.toNatClampNeg 9))) 17 4 (σ 161 4)) 17 5 (σ 161 5)) 17 6 (σ 161 6))) : Z d 26 Q 0 [.ref 17, .ref 161] [] σ :=
  zwp1_ok (code := zc_26) (cuts := []) rfl 400 h
set_option maxRecDepth 100000 in
theorem k_26_0_i17_172 {d : Nat} {Q : Int32 → zS → Prop}  {σ : zS} (h : Q 0 (zup (zup (zup (zput (zput (zput (zput σ 18 (va_cpy (σ 173) (σ 18) (Int32.toNatClampNeg 0) (Int32.toNatClampNeg 0) (Int32.toNatClampNeg 9))) 19 (va_cpy (σ 174) (σ 19) (Int32.toNatClampNeg 0) (Int32.toNatClampNeg 0) (Int32.toNatClampNeg 9))) 20 (va_cpy (σ 175) (σ 20) (Int32.toNatClampNeg 0) (Int32.toNatClampNeg 0) (Int32.toNatClampNeg 9))) 21 (va_cpy (σ 176) (σ 21) (Int32.toNatClampNeg 0) (Int32.toNatClampNeg 0) (Int32.toNatClampNeg 9))) 17 4 (σ 172 4)) 17 5 (σ 172 5)) 17 6 (σ 172 6))) : Z d 26 Q 0 [.ref 17, .ref 172] [] σ :=
  zwp1_ok (code := zc_26) (cuts := []) rfl 400 h
set_option maxRecDepth 100000 in
theorem k_26_0_i17_193 {d : Nat} {Q : Int32 → zS → Prop}  {σ : zS} (h : Q 0 (zup (zup (zup (zput (zput (zput (zput σ 18 (va_cpy (σ 194) (σ 18) (Int32.toNatClampNeg 0) (Int32.toNatClampNeg 0) (Int32.toNatClampNeg 9))) 19 (va_cpy (σ 195) (σ 19) (Int32.toNatClampNeg 0) (Int32.toNatClampNeg 0) (Int32.toNatClampNeg 9))) 20 (va_cpy (σ 196) (σ 20) (Int32.toNatClampNeg 0) (Int32.toNatClampNeg 0) (Int32.toNatClampNeg 9))) 21 (va_cpy (σ 197) (σ 21) (Int32.toNatClampNeg 0) (Int32.toNatClampNeg 0) (Int32.toNatClampNeg 9))) 17 4 (σ 193 4)) 17 5 (σ 193 5)) 17 6 (σ 193 6))) : Z d 26 Q 0 [.ref 17, .ref 193] [] σ :=
  zwp1_ok (code := zc_26) (cuts := []) rfl 400 h
set_option maxRecDepth 100000 in
theorem k_26_0_i17_204 {d : Nat} {Q : Int32 → zS → Prop}  {σ : zS} (h : Q 0 (zup (zup (zup (zput (zput (zput (zput σ 18 (va_cpy (σ 205) (σ 18) (Int32.toNatClampNeg 0) (Int32.toNatClampNeg 0) (Int32.toNatClampNeg 9))) 19 (va_cpy (σ 206) (σ 19) (Int32.toNatClampNeg 0) (Int32.toNatClampNeg 0) (Int32.toNatClampNeg 9))) 20 (va_cpy (σ 207) (σ 20) (Int32.toNatClampNeg 0) (Int32.toNatClampNeg 0) (Int32.toNatClampNeg 9))) 21 (va_cpy (σ 208) (σ 21) (Int32.toNatClampNeg 0) (Int32.toNatClampNeg 0) (Int32.toNatClampNeg 9))) 17 4 (σ 204 4)) 17 5 (σ 204 5)) 17 6 (σ 204 6))) : Z d 26 Q 0 [.ref 17, .ref 204] [] σ :=
  zwp1_ok (code := zc_26) (cuts := []) rfl 400 h
set_option maxRecDepth 100000 in
theorem k_26_0_i17_40 {d : Nat} {Q : Int32 → zS → Prop}  {σ : zS} (h : Q 0 (zup (zup (zup (zput (zput (zput (zput σ 18 (va_cpy (σ 41) (σ 18) (Int32.toNatClampNeg 0) (Int32.toNatClampNeg 0) (Int32.toNatClampNeg 9))) 19 (va_cpy (σ 42) (σ 19) (Int32.toNatClampNeg 0) (Int32.toNatClampNeg 0) (Int32.toNatClampNeg 9))) 20 (va_cpy (σ 43) (σ 20) (Int32.toNatClampNeg 0) (Int32.toNatClampNeg 0) (Int32.toNatClampNeg 9))) 21 (va_cpy (σ 44) (σ 21) (Int32.toNatClampNeg 0) (Int32.toNatClampNeg 0) (Int32.toNatClampNeg 9))) 17 4 (σ 40 4)) 17 5 (σ 40 5)) 17 6 (σ 40 6))) : Z d 26 Q 0 [.ref 17, .ref 40] [] σ :=
  zwp1_ok (code := zc_26) (cuts := []) rfl 400 h
set_option maxRecDepth 100000 in
theorem k_26_0_i17_51 {d : Nat} {Q : Int32 → zS → Prop}  {σ : zS} (h : Q 0 (zup (zup (zup (zput (zput (zput (zput σ 18 (va_cpy (σ 52) (σ 18) (Int32.toNatClampNeg 0) (Int32.toNatClampNeg 0) (Int32.toNatClampNeg 9))) 19 (va_cpy (σ 53) (σ 19) (Int32.toNatClampNeg 0) (Int32.toNatClampNeg 0) (Int32.toNatClampNeg 9))) 20 (va_cpy (σ 54) (σ 20) (Int32.toNatClampNeg 0) (Int32.toNatClampNeg 0) (Int32.toNatClampNeg 9))) 21 (va_cpy (σ 55) (σ 21) (Int32.toNatClampNeg 0) (Int32.toNatClampNeg 0) (Int32.toNatClampNeg 9))) 17 4 (σ 51 4)) 17 5 (σ 51 5)) 17 6 (σ 51 6))) : Z d 26 Q 0 [.ref 17, .ref 51] [] σ :=
  zwp1_ok (code := zc_26) (cuts := []) rfl 400 h
set_option maxRecDepth 100000 in
theorem k_26_0_i17_62 {d : Nat} {Q : Int32 → zS → Prop}  {σ : zS} (h : Q 0 (zup (zup (zup (zput (zput (zput (zput σ 18 (va_cpy (σ 63) (σ 18) (Int32.toNatClampNeg 0) (Int32.toNatClampNeg 0) (Int32.toNatClampNeg 9))) 19 (va_cpy (σ 64) (σ 19) (Int32.toNatClampNeg 0) (Int32.toNatClampNeg 0) (Int32.toNatClampNeg 9))) 20 (va_cpy (σ 65) (σ 20) (Int32.toNatClampNeg 0) (Int32.toNatClampNeg 0) (Int32.toNatClampNeg 9))) 21 (va_cpy (σ 66) (σ 21) (Int32.toNatClampNeg 0) (Int32.toNatClampNeg 0) (Int32.toNatClampNeg 9))) 17 4 (σ 62 4)) 17 5 (σ 62 5)) 17 6 (σ 62 6))) : Z d 26 Q 0 [.ref 17, .ref 62] [] σ :=
  zwp1_ok (code := zc_26) (cuts := []) rfl 400 h
set_option maxRecDepth 100000 in
theorem k_26_0_i17_73 {d : Nat} {Q : Int32 → zS → Prop}  {σ : zS} (h : Q 0 (zup (zup (zup (zput (zput (zput (zput σ 18 (va_cpy (σ 74) (σ 18) (Int32.toNatClampNeg 0) (Int32.toNatClampNeg 0) (Int32.toNatClampNeg 9))) 19 (va_cpy (σ 75) (σ 19) (Int32.toNatClampNeg 0) (Int32.toNatClampNeg 0) (Int32.toNatClampNeg 9))) 20 (va_cpy (σ 76) (σ 20) (Int32.toNatClampNeg 0) (Int32.toNatClampNeg 0) (Int32.toNatClampNeg 9))) 21 (va_cpy (σ 77) (σ 21) (Int32.toNatClampNeg 0) (Int32.toNatClampNeg 0) (Int32.toNatClampNeg 9))) 17 4 (σ 73 4)) 17 5 (σ 73 5)) 17 6 (σ 73 6))) : Z d 26 Q 0 [.ref 17, .ref 73] [] σ :=
  zwp1_ok (code := zc_26) (cuts := []) rfl 400 h
set_option maxRecDepth 100000 in
theorem k_26_0_i17_84 {d : Nat} {Q : Int32 → zS → Prop}  {σ : zS} (h : Q 0 (zup (zup (zup (zput (zput (zput (zput σ 18 (va_cpy (σ 85) (σ 18) (Int32.toNatClampNeg 0) (Int32.toNatClampNeg 0) (Int32.toNatClampNeg 9))) 19 (va_cpy (σ 86) (σ 19) (Int32.toNatClampNeg 0) (Int32.toNatClampNeg 0) (Int32.toNatClampNeg 9))) 20 (va_cpy (σ 87) (σ 20) (Int32.toNatClampNeg 0) (Int32.toNatClampNeg 0) (Int32.toNatClampNeg 9))) 21 (va_cpy (σ 88) (σ 21) (Int32.toNatClampNeg 0) (Int32.toNatClampNeg 0) (Int32.toNatClampNeg 9))) 17 4 (σ 84 4)) 17 5 (σ 84 5)) 17 6 (σ 84 6))) : Z d 26 Q 0 [.ref 17, .ref 84] [] σ :=
  zwp1_ok (code := zc_26) (cuts := []) rfl 400 h
set_option maxRecDepth 100000 in
theorem k_26_0_i17_95 {d : Nat} {Q : Int32 → zS → Prop}  {σ : zS} (h : Q 0 (zup (zup (zup (zput (zput (zput (zput σ 18 (va_cpy (σ 96) (σ 18) (Int32.toNatClampNeg 0) (Int32.toNatClampNeg 0) (Int32.toNatClampNeg 9))) 19 (va_cpy (σ 97) (σ 19) (Int32.toNatClampNeg 0) (Int32.toNatClampNeg 0) (Int32.toNatClampNeg 9))) 20 (va_cpy (σ 98) (σ 20) (Int32.toNatClampNeg 0) (Int32.toNatClampNeg 0) (Int32.toNatClampNeg 9))) 21 (va_cpy (σ 99) (σ 21) (Int32.toNatClampNeg 0) (Int32.toNatClampNeg 0) (Int32.toNatClampNeg 9))) 17 4 (σ 95 4)) 17 5 (σ 95 5)) 17 6 (σ 95 6))) : Z d 26 Q 0 [.ref 17, .ref 95] [] σ :=
  zwp1_ok (code := zc_26) (cuts := []) rfl 400 h
set_option maxRecDepth 100000 in
theorem k_26_0_i172_17 {d : Nat} {Q : Int32 → zS → Prop}  {σ : zS} (h : Q 0 (zup (zup (zup (zput (zput (zput (zput σ 173 (va_cpy (σ 18) (σ 173) (Int32.toNatClampNeg 0) (Int32.toNatClampNeg 0) (Int32.toNatClampNeg 9))) 174 (va_cpy (σ 19) (σ 174) (Int32.toNatClampNeg 0) (Int32.toNatClampNeg 0) (Int32.toNatClampNeg 9))) 175 (va_cpy (σ 20) (σ 175) (Int32.toNatClampNeg 0) (Int32.toNatClampNeg 0) (Int32.toNatClampNeg 9))) 176 (va_cpy (σ 21) (σ 176) (Int32.toNatClampNeg 0) (Int32.toNatClampNeg 0) (Int32.toNatClampNeg 9))) 172 4 (σ 17 4)) 172 5 (σ 17 5)) 172 6 (σ 17 6))) : Z d 26 Q 0 [.ref 172, .ref 17] [] σ :=
  zwp1_ok (code := zc_26) (cuts := []) rfl 400 h
set_option maxRecDepth 100000 in
theorem k_26_0_i193_17 {d : Nat} {Q : Int32 → zS → Prop}  {σ : zS} (h : Q 0 (zup (zup (zup (zput (zput (zput (zput σ 194 (va_cpy (σ 18) (σ 194) (Int32.toNatClampNeg 0) (Int32.toNatClampNeg 0) (Int32.toNatClampNeg 9))) 195 (va_cpy (σ 19) (σ 195) (Int32.toNatClampNeg 0) (Int32.toNatClampNeg 0) (Int32.toNatClampNeg 9))) 196 (va_cpy (σ 20) (σ 196) (Int32.toNatClampNeg 0) (Int32.toNatClampNeg 0) (Int32.toNatClampNeg 9))) 197 (va_cpy (σ 21) (σ 197) (Int32.toNatClampNeg 0) (Int32.toNatClampNeg 0) (Int32.toNatClampNeg 9))) 193 4 (σ 17 4)) 193 5 (σ 17 5)) 193 6 (σ 17 6))) : Z d 26 Q 0 [.ref 193, .ref 17] [] σ :=
  zwp1_ok (code := zc_26) (cuts := []) rfl 400 h
set_option maxRecDepth 100000 in
theorem k_26_0_i204_17 {d : Nat} {Q : Int32 → zS → Prop}  {σ : zS} (h : Q 0 (zup (zup (zup (zput (zput (zput (zput σ 205 (va_cpy (σ 18) (σ 205) (Int32.toNatClampNeg 0) (Int32.toNatClampNeg 0) (Int32.toNatClampNeg 9))) 206 (va_cpy (σ 19) (σ 206) (Int32.toNatClampNeg 0) (Int32.toNatClampNeg 0) (Int32.toNatClampNeg 9))) 207 (va_cpy (σ 20) (σ 207) (Int32.toNatClampNeg 0) (Int32.toNatClampNeg 0) (Int32.toNatClampNeg 9))) 208 (va_cpy (σ 21) (σ 208) (Int32.toNatClampNeg 0) (Int32.toNatClampNeg 0) (Int32.toNatClampNeg 9))) 204 4 (σ 17 4)) 204 5 (σ 17 5)) 204 6 (σ 17 6))) : Z d 26 Q 0 [.ref 204, .ref 17] [] σ :=
  zwp1_ok (code := zc_26) (cuts := []) rfl 400 h
set_option maxRecDepth 100000 in
theorem k_26_0_i26_17 {d : Nat} {Q : Int32 → zS → Prop}  {σ : zS} (h : Q 0 (zup (zup (zup (zput (zput (zput (zput σ 27 (va_cpy (σ 18) (σ 27) (Int32.toNatClampNeg 0) (Int32.toNatClampNeg 0) (Int32.toNatClampNeg 9))) 28 (va_cpy (σ 19) (σ 28) (Int32.toNatClampNeg 0) (Int32.toNatClampNeg 0) (Int32.toNatClampNeg 9))) 29 (va_cpy (σ 20) (σ 29) (Int32.toNatClampNeg 0) (Int32.toNatClampNeg 0) (Int32.toNatClampNeg 9))) 30 (va_cpy (σ 21) (σ 30) (Int32.toNatClampNeg 0) (Int32.toNatClampNeg 0) (Int32.toNatClampNeg 9))) 26 4 (σ 17 4)) 26 5 (σ 17 5)) 26 6 (σ 17 6))) : Z d 26 Q 0 [.ref 26, .ref 17] [] σ :=
  zwp1_ok (code := zc_26) (cuts := []) rfl 400 h
set_option maxRecDepth 100000 in
theorem k_26_0_i40_17 {d : Nat} {Q : Int32 → zS → Prop}  {σ : zS} (h : Q 0 (zup (zup (zup (zput (zput (zput (zput σ 41 (va_cpy (σ 18) (σ 41) (Int32.toNatClampNeg 0) (Int32.toNatClampNeg 0) (Int32.toNatClampNeg 9))) 42 (va_cpy (σ 19) (σ 42) (Int32.toNatClampNeg 0) (Int32.toNatClampNeg 0) (Int32.toNatClampNeg 9))) 43 (va_cpy (σ 20) (σ 43) (Int32.toNatClampNeg 0) (Int32.toNatClampNeg 0) (Int32.toNatClampNeg 9))) 44 (va_cpy (σ 21) (σ 44) (Int32.toNatClampNeg 0) (Int32.toNatClampNeg 0) (Int32.toNatClampNeg 9))) 40 4 (σ 17 4)) 40 5 (σ 17 5)) 40 6 (σ 17 6))) : Z d 26 Q 0 [.ref 40, .ref 17] [] σ :=
  zwp1_ok (code := zc_26) (cuts := []) rfl 400 h
set_option maxRecDepth 100000 in
theorem k_26_0_i51_17 {d : Nat} {Q : Int32 → zS → Prop}  {σ : zS} (h : Q 0 (zup (zup (zup (zput (zput (zput (zput σ 52 (va_cpy (σ 18) (σ 52) (Int32.toNatClampNeg 0) (Int32.toNatClampNeg 0) (Int32.toNatClampNeg 9))) 53 (va_cpy (σ 19) (σ 53) (Int32.toNatClampNeg 0) (Int32.toNatClampNeg 0) (Int32.toNatClampNeg 9))) 54 (va_cpy (σ 20) (σ 54) (Int32.toNatClampNeg 0) (Int32.toNatClampNeg 0) (Int32.toNatClampNeg 9))) 55 (va_cpy (σ 21) (σ 55) (Int32.toNatClampNeg 0) (Int32.toNatClampNeg 0) (Int32.toNatClampNeg 9))) 51 4 (σ 17 4)) 51 5 (σ 17 5)) 51 6 (σ 17 6))) : Z d 26 Q 0 [.ref 51, .ref 17] [] σ :=
  zwp1_ok (code := zc_26) (cuts := []) rfl 400 h
set_option maxRecDepth 100000 in
theorem k_26_0_i62_17 {d : Nat} {Q : Int32 → zS → Prop}  {σ : zS} (h : Q 0 (zup (zup (zup (zput (zput (zput (zput σ 63 (va_cpy (σ 18) (σ 63) (Int32.toNatClampNeg 0) (Int32.toNatClampNeg 0) (Int32.toNatClampNeg 9))) 64 (va_cpy (σ 19) (σ 64) (Int32.toNatClampNeg 0) (Int32.toNatClampNeg 0) (Int32.toNatClampNeg 9))) 65 (va_cpy (σ 20) (σ 65) (Int32.toNatClampNeg 0) (Int32.toNatClampNeg 0) (Int32.toNatClampNeg 9))) 66 (va_cpy (σ 21) (σ 66) (Int32.toNatClampNeg 0) (Int32.toNatClampNeg 0) (Int32.toNatClampNeg 9))) 62 4 (σ 17 4)) 62 5 (σ 17 5)) 62 6 (σ 17 6))) : Z d 26 Q 0 [.ref 62, .ref 17] [] σ :=
  zwp1_ok (code := zc_26) (cuts := []) rfl 400 h
set_option maxRecDepth 100000 in
theorem k_26_0_i73_17 {d : Nat} {Q : Int32 → zS → Prop}  {σ : zS} (h : Q 0 (zup (zup (zup (zput (zput (zput (zput σ 74 (va_cpy (σ 18) (σ 74) (Int32.toNatClampNeg 0) (Int32.toNatClampNeg 0) (Int32.toNatClampNeg 9))) 75 (va_cpy (σ 19) (σ 75) (Int32.toNatClampNeg 0) (Int32.toNatClampNeg 0) (Int32.toNatClampNeg 9))) 76 (va_cpy (σ 20) (σ 76) (Int32.toNatClampNeg 0) (Int32.toNatClampNeg 0) (Int32.toNatClampNeg 9))) 77 (va_cpy (σ 21) (σ 77) (Int32.toNatClampNeg 0) (Int32.toNatClampNeg 0) (Int32.toNatClampNeg 9))) 73 4 (σ 17 4)) 73 5 (σ 17 5)) 73 6 (σ 17 6))) : Z d 26 Q 0 [.ref 73, .ref 17] [] σ :=
  zwp1_ok (code := zc_26) (cuts := []) rfl 400 h
set_option maxRecDepth 100000 in
theorem k_26_0_i84_17 {d : Nat} {Q : Int32 → zS → Prop}  {σ : zS} (h : Q 0 (zup (zup (zup (zput (zput (zput (zput σ 85 (va_cpy (σ 18) (σ 85) (Int32.toNatClampNeg 0) (Int32.toNatClampNeg 0) (Int32.toNatClampNeg 9))) 86 (va_cpy (σ 19) (σ 86) (Int32.toNatClampNeg 0) (Int32.toNatClampNeg 0) (Int32.toNatClampNeg 9))) 87 (va_cpy (σ 20) (σ 87) (Int32.toNatClampNeg 0) (Int32.toNatClampNeg 0) (Int32.toNatClampNeg 9))) 88 (va_cpy (σ 21) (σ 88) (Int32.toNatClampNeg 0) (Int32.toNatClampNeg 0) (Int32.toNatClampNeg 9))) 84 4 (σ 17 4)) 84 5 (σ 17 5)) 84 6 (σ 17 6))) : Z d 26 Q 0 [.ref 84, .ref 17] [] σ :=
  zwp1_ok (code := zc_26) (cuts := []) rfl 400 h
set_option maxRecDepth 100000 in
theorem k_26_0_i95_17 {d : Nat} {Q : Int32 → zS → Prop}  {σ : zS} (h : Q 0 (zup (zup (zup (zput (zput (zput (zput σ 96 (va_cpy (σ 18) (σ 96) (Int32.toNatClampNeg 0) (Int32.toNatClampNeg 0) (Int32.toNatClampNeg 9))) 97 (va_cpy (σ 19) (σ 97) (Int32.toNatClampNeg 0) (Int32.toNatClampNeg 0) (Int32.toNatClampNeg 9))) 98 (va_cpy (σ 20) (σ 98) (Int32.toNatClampNeg 0) (Int32.toNatClampNeg 0) (Int32.toNatClampNeg 9))) 99 (va_cpy (σ 21) (σ 99) (Int32.toNatClampNeg 0) (Int32.toNatClampNeg 0) (Int32.toNatClampNeg 9))) 95 4 (σ 17 4)) 95 5 (σ 17 5)) 95 6 (σ 17 6))) : Z d 26 Q 0 [.ref 95, .ref 17] [] σ :=
  zwp1_ok (code := zc_26) (cuts := []) rfl 400 h
set_option maxRecDepth 100000 in
theorem k_27_0_i17 {d : Nat} {Q : Int32 → zS → Prop} {x1 x2 x3 x4 : Int32} {σ : zS} (h : (if x1 < 0 then Q 0 σ else (if x1 < 9 then (if zin x1 9 = true then (if zin x1 9 = true then (if x4 = 1 then (ZC d 131 [.int x1] (zup (zup σ 20 (Int32.toNatClampNeg x1) x2) 21 (Int32.toNatClampNeg x1) x3) (fun v2 s1 => Q 0 (zup s1 17 4 ((σ 17 4) ||| v2)))) else (ZC d 131 [.int x1] (zup (zup σ 20 (Int32.toNatClampNeg x1) x2) 21 (Int32.toNatClampNeg x1) x3) (fun v4 s3 => Q 0 (zup s3 17 4 ((σ 17 4) &&& (v4 ^^^ (-1))))))) else False) else False) else Q 0 σ))) : Z d 27 Q 0 [.ref 17, .int x1, .int x2, .int x3, .int x4] [] σ :=
  zwp1_ok (code := zc_27) (cuts := []) rfl 400 h
set_option maxRecDepth 100000 in
theorem k_27_0_i26 {d : Nat} {Q : Int32 → zS → Prop} {x1 x2 x3 x4 : Int32} {σ : zS} (h : (if x1 < 0 then Q 0 σ else (if x1 < 9 then (if zin x1 9 = true then (if zin x1 9 = true then (if x4 = 1 then (ZC d 131 [.int x1] (zup (zup σ 29 (Int32.toNatClampNeg x1) x2) 30 (Int32.toNatClampNeg x1) x3) (fun v2 s1 => Q 0 (zup s1 26 4 ((σ 26 4) ||| v2)))) else (ZC d 131 [.int x1] (zup (zup σ 29 (Int32.toNatClampNeg x1) x2) 30 (Int32.toNatClampNeg x1) x3) (fun v4 s3 => Q 0 (zup s3 26 4 ((σ 26 4) &&& (v4 ^^^ (-1))))))) else False) else False) else Q 0 σ))) : Z d 27 Q 0 [.ref 26, .int x1, .int x2, .int x3, .int x4] [] σ :=
  zwp1_ok (code := zc_27) (cuts := []) rfl 400 h
set_option maxRecDepth 100000 in
theorem k_28_0_i17 {d : Nat} {Q : Int32 → zS → Prop} {x1 : Int32} {σ : zS} (h : (ZC d 27 [.ref 17, .int x1, .int (-1), .int (-1), .int 0] σ (fun _ s1 => Q 0 s1))) : Z d 28 Q 0 [.ref 17, .int x1] [] σ :=
  zwp1_ok (code := zc_28) (cuts := []) rfl 400 h
set_option maxRecDepth 100000 in
theorem k_28_0_i26 {d : Nat} {Q : Int32 → zS → Prop} {x1 : Int32} {σ : zS} (h : (ZC d 27 [.ref 26, .int x1, .int (-1), .int (-1), .int 0] σ (fun _ s1 => Q 0 s1))) : Z d 28 Q 0 [.ref 26, .int x1] [] σ :=
  zwp1_ok (code := zc_28) (cuts := []) rfl 400 h
set_option maxRecDepth 100000 in
theorem k_29_0 {d : Nat} {Q : Int32 → zS → Prop}  {σ : zS} (h : (ZC d 5 [.ref 29, .int (-1)] σ (fun _ s1 => (ZC d 5 [.ref 30, .int (-1)] s1 (fun _ s3 => Q 0 (zup s3 26 4 0)))))) : Z d 29 Q 0 [.ref 26] [] σ :=
  zwp1_ok (code := zc_29) (cuts := []) rfl 400 h
set_option maxRecDepth 100000 in
theorem k_30_0_i17 {d : Nat} {Q : Int32 → zS → Prop}  {σ : zS} (h : Z d 30 Q 4 [.ref 17, .int 0, .int 0] [] σ) : Z d 30 Q 0 [.ref 17, (.retAddr 0), (.retAddr 0)] [] σ :=
  zwp1_ok (code := zc_30) (cuts := [4]) rfl 400 h
set_option maxRecDepth 100000 in
theorem k_30_4_i17 {d : Nat} {Q : Int32 → zS → Prop} {x1 x2 : Int32} {σ : zS} (h : (if x2 < 9 then (if zin x2 9 = true then (if (σ 20 (Int32.toNatClampNeg x2)) = (-1) then Z d 30 Q 4 [.ref 17, .int (x1 ||| 0), .int (x2 + 1)] [] σ else (ZC d 131 [.int x2] σ (fun v2 s1 => Z d 30 Q 4 [.ref 17, .int (x1 ||| v2), .int (x2 + 1)] [] s1))) else False) else Q x1 σ)) : Z d 30 Q 4 [.ref 17, .int x1, .int x2] [] σ :=
  zwp1_ok (code := zc_30) (cuts := [4]) rfl 400 h
set_option maxRecDepth 100000 in
theorem k_30_0_i26 {d : Nat} {Q : Int32 → zS → Prop}  {σ : zS} (h : Z d 30 Q 4 [.ref 26, .int 0, .int 0] [] σ) : Z d 30 Q 0 [.ref 26, (.retAddr 0), (.retAddr 0)] [] σ :=
  zwp1_ok (code := zc_30) (cuts := [4]) rfl 400 h
set_option maxRecDepth 100000 in
theorem k_30_4_i26 {d : Nat} {Q : Int32 → zS → Prop} {x1 x2 : Int32} {σ : zS} (h : (if x2 < 9 then (if zin x2 9 = true then (if (σ 29 (Int32.toNatClampNeg x2)) = (-1) then Z d 30 Q 4 [.ref 26, .int (x1 ||| 0), .int (x2 + 1)] [] σ else (ZC d 131 [.int x2] σ (fun v2 s1 => Z d 30 Q 4 [.ref 26, .int (x1 ||| v2), .int (x2 + 1)] [] s1))) else False) else Q x1 σ)) : Z d 30 Q 4 [.ref 26, .int x1, .int x2] [] σ :=
  zwp1_ok (code := zc_30) (cuts := [4]) rfl 400 h
set_option maxRecDepth 100000 in
theorem k_31_0_i17 {d : Nat} {Q : Int32 → zS → Prop} {x1 : Int32} {σ : zS} (h : (ZC d 131 [.int x1] σ (fun v2 s1 => (ZC d 28 [.ref 17, .int x1] (zup s1 17 5 ((σ 17 5) ^^^ v2)) (fun _ s3 => Q 0 s3))))) : Z d 31 Q 0 [.ref 17, .int x1] [] σ :=
  zwp1_ok (code := zc_31) (cuts := []) rfl 400 h
set_option maxRecDepth 100000 in
theorem k_31_0_i26 {d : Nat} {Q : Int32 → zS → Prop} {x1 : Int32} {σ : zS} (h : (ZC d 131 [.int x1] σ (fun v2 s1 => (ZC d 28 [.ref 26, .int x1] (zup s1 26 5 ((σ 26 5) ^^^ v2)) (fun _ s3 => Q 0 s3))))) : Z d 31 Q 0 [.ref 26, .int x1] [] σ :=
  zwp1_ok (code := zc_31) (cuts := []) rfl 400 h
set_option maxRecDepth 100000 in
theorem k_32_0 {d : Nat} {Q : Int32 → zS → Prop} {x1 : Int32} {σ : zS} (h : Z d 32 Q 2 [.ref 26, .int x1, .int 0] [] σ) : Z d 32 Q 0 [.ref 26, .int x1, (.retAddr 0)] [] σ :=
  zwp1_ok (code := zc_32) (cuts := [2]) rfl 400 h
set_option maxRecDepth 100000 in
theorem k_32_2 {d : Nat} {Q : Int32 → zS → Prop} {x1 x2 : Int32} {σ : zS} (h : (if x2 < 9 then (ZC d 132 [.int (x1 &&& ((σ 26 5) ^^^ (-1))), .int x2] σ (fun v2 s1 => (if v2 = 0 then Z d 32 Q 2 [.ref 26, .int x1, .int (x2 + 1)] [] s1 else (ZC d 31 [.ref 26, .int x2] s1 (fun _ s3 => Z d 32 Q 2 [.ref 26, .int x1, .int (x2 + 1)] [] s3))))) else Q 0 σ)) : Z d 32 Q 2 [.ref 26, .int x1, .int x2] [] σ :=
  zwp1_ok (code := zc_32) (cuts := [2]) rfl 400 h
set_option maxRecDepth 100000 in
theorem k_33_0_i17 {d : Nat} {Q : Int32 → zS → Prop} {x1 x2 : Int32} {σ : zS} (h : (if x1 < 0 then Q 0 σ else (if x1 < 9 then (if zin x1 9 = true then (ZC d 4 [.int 9, .int ((σ 18 (Int32.toNatClampNeg x1)) + x2)] σ (fun v2 s1 => (ZC d 3 [.int 0, .int v2] s1 (fun v4 s3 => (if zin x1 9 = true then Q 0 (zup s3 18 (Int32.toNatClampNeg x1) v4) else False))))) else False) else Q 0 σ))) : Z d 33 Q 0 [.ref 17, .int x1, .int x2] [] σ :=
  zwp1_ok (code := zc_33) (cuts := []) rfl 400 h
set_option maxRecDepth 100000 in
theorem k_33_0_i26 {d : Nat} {Q : Int32 → zS → Prop} {x1 x2 : Int32} {σ : zS} (h : (if x1 < 0 then Q 0 σ else (if x1 < 9 then (if zin x1 9 = true then (ZC d 4 [.int 9, .int ((σ 27 (Int32.toNatClampNeg x1)) + x2)] σ (fun v2 s1 => (ZC d 3 [.int 0, .int v2] s1 (fun v4 s3 => (if zin x1 9 = true then Q 0 (zup s3 27 (Int32.toNatClampNeg x1) v4) else False))))) else False) else Q 0 σ))) : Z d 33 Q 0 [.ref 26, .int x1, .int x2] [] σ :=
  zwp1_ok (code := zc_33) (cuts := []) rfl 400 h
set_option maxRecDepth 100000 in
theorem k_35_0 {d : Nat} {Q : Int32 → zS → Prop}  {σ : zS} (h : (if zin (σ 37 2) 13 = true then Z d 35 Q 9 [.ref 37, .ref 14, .ref 32, (.retAddr 0)] [(.ref ([39, 50, 61, 72, 83, 94, 105, 116, 127, 138, 149, 160, 171].getD (Int32.toNatClampNeg (σ 37 2)) 0))] σ else False)) : Z d 35 Q 0 [.ref 37, .ref 14, .ref 32, (.retAddr 0)] [] σ :=
  zwp1_ok (code := zc_35) (cuts := [9]) rfl 400 h
set_option maxRecDepth 100000 in
theorem k_35_9_39 {d : Nat} {Q : Int32 → zS → Prop} {xw3 : Value} {σ : zS} (h : (ZC d 23 [.ref 39, .ref 14, .ref 32] σ (fun _ s1 => Q 0 s1))) : Z d 35 Q 9 [.ref 37, .ref 14, .ref 32, xw3] [.ref 39] σ :=
  zwp1_ok (code := zc_35) (cuts := [9]) rfl 400 h
set_option maxRecDepth 100000 in
theorem k_35_9_50 {d : Nat} {Q : Int32 → zS → Prop} {xw3 : Value} {σ : zS} (h : (ZC d 23 [.ref 50, .ref 14, .ref 32] σ (fun _ s3 => Q 0 s3))) : Z d 35 Q 9 [.ref 37, .ref 14, .ref 32, xw3] [.ref 50] σ :=
  zwp1_ok (code := zc_35) (cuts := [9]) rfl 400 h
set_option maxRecDepth 100000 in
theorem k_35_9_61 {d : Nat} {Q : Int32 → zS → Prop} {xw3 : Value} {σ : zS} (h : (ZC d 23 [.ref 61, .ref 14, .ref 32] σ (fun _ s5 => Q 0 s5))) : Z d 35 Q 9 [.ref 37, .ref 14, .ref 32, xw3] [.ref 61] σ :=
  zwp1_ok (code := zc_35) (cuts := [9]) rfl 400 h
set_option maxRecDepth 100000 in
theorem k_35_9_72 {d : Nat} {Q : Int32 → zS → Prop} {xw3 : Value} {σ : zS} (h : (ZC d 23 [.ref 72, .ref 14, .ref 32] σ (fun _ s7 => Q 0 s7))) : Z d 35 Q 9 [.ref 37, .ref 14, .ref 32, xw3] [.ref 72] σ :=
  zwp1_ok (code := zc_35) (cuts := [9]) rfl 400 h
set_option maxRecDepth 100000 in
theorem k_35_9_83 {d : Nat} {Q : Int32 → zS → Prop} {xw3 : Value} {σ : zS} (h : (ZC d 23 [.ref 83, .ref 14, .ref 32] σ (fun _ s9 => Q 0 s9))) : Z d 35 Q 9 [.ref 37, .ref 14, .ref 32, xw3] [.ref 83] σ :=
  zwp1_ok (code := zc_35) (cuts := [9]) rfl 400 h
set_option maxRecDepth 100000 in
theorem k_35_9_94 {d : Nat} {Q : Int32 → zS → Prop} {xw3 : Value} {σ : zS} (h : (ZC d 23 [.ref 94, .ref 14, .ref 32] σ (fun _ s11 => Q 0 s11))) : Z d 35 Q 9 [.ref 37, .ref 14, .ref 32, xw3] [.ref 94] σ :=
  zwp1_ok (code := zc_35) (cuts := [9]) rfl 400 h
set_option maxRecDepth 100000 in
theorem k_35_9_105 {d : Nat} {Q : Int32 → zS → Prop} {xw3 : Value} {σ : zS} (h : (ZC d 23 [.ref 105, .ref 14, .ref 32] σ (fun _ s13 => Q 0 s13))) : Z d 35 Q 9 [.ref 37, .ref 14, .ref 32, xw3] [.ref 105] σ :=
  zwp1_ok (code := zc_35) (cuts := [9]) rfl 400 h
set_option maxRecDepth 100000 in
theorem k_35_9_116 {d : Nat} {Q : Int32 → zS → Prop} {xw3 : Value} {σ : zS} (h : (ZC d 23 [.ref 116, .ref 14, .ref 32] σ (fun _ s15 => Q 0 s15))) : Z d 35 Q 9 [.ref 37, .ref 14, .ref 32, xw3] [.ref 116] σ :=
  zwp1_ok (code := zc_35) (cuts := [9]) rfl 400 h
set_option maxRecDepth 100000 in
theorem k_35_9_127 {d : Nat} {Q : Int32 → zS → Prop} {xw3 : Value} {σ : zS} (h : (ZC d 23 [.ref 127, .ref 14, .ref 32] σ (fun _ s17 => Q 0 s17))) : Z d 35 Q 9 [.ref 37, .ref 14, .ref 32, xw3] [.ref 127] σ :=
  zwp1_ok (code := zc_35) (cuts := [9]) rfl 400 h
set_option maxRecDepth 100000 in
theorem k_35_9_138 {d : Nat} {Q : Int32 → zS → Prop} {xw3 : Value} {σ : zS} (h : (ZC d 23 [.ref 138, .ref 14, .ref 32] σ (fun _ s19 => Q 0 s19))) : Z d 35 Q 9 [.ref 37, .ref 14, .ref 32, xw3] [.ref 138] σ :=
  zwp1_ok (code := zc_35) (cuts := [9]) rfl 400 h
set_option maxRecDepth 100000 in
theorem k_35_9_149 {d : Nat} {Q : Int32 → zS → Prop} {xw3 : Value} {σ : zS} (h : (ZC d 23 [.ref 149, .ref 14, .ref 32] σ (fun _ s21 => Q 0 s21))) : Z d 35 Q 9 [.ref 37, .ref 14, .ref 32, xw3] [.ref 149] σ :=
  zwp1_ok (code := zc_35) (cuts := [9]) rfl 400 h
set_option maxRecDepth 100000 in
theorem k_35_9_160 {d : Nat} {Q : Int32 → zS → Prop} {xw3 : Value} {σ : zS} (h : (ZC d 23 [.ref 160, .ref 14, .ref 32] σ (fun _ s23 => Q 0 s23))) : Z d 35 Q 9 [.ref 37, .ref 14, .ref 32, xw3] [.ref 160] σ :=
  zwp1_ok (code := zc_35) (cuts := [9]) rfl 400 h
set_option maxRecDepth 100000 in
theorem k_35_9_171 {d : Nat} {Q : Int32 → zS → Prop} {xw3 : Value} {σ : zS} (h : (ZC d 23 [.ref 171, .ref 14, .ref 32] σ (fun _ s25 => Q 0 s25))) : Z d 35 Q 9 [.ref 37, .ref 14, .ref 32, xw3] [.ref 171] σ :=
  zwp1_ok (code := zc_35) (cuts := [9]) rfl 400 h
set_option maxRecDepth 100000 in
theorem k_36_0 {d : Nat} {Q : Int32 → zS → Prop}  {σ : zS} (h : (ZC d 4 [.int ((σ 37 0) + 1), .int 12] (zup σ 37 2 (zrem ((σ 37 2) + 1) 13)) (fun v2 s1 => Q 0 (zup s1 37 0 v2)))) : Z d 36 Q 0 [.ref 37] [] σ :=
  zwp1_ok (code := zc_36) (cuts := []) rfl 400 h
set_option maxRecDepth 100000 in
theorem k_37_0 {d : Nat} {Q : Int32 → zS → Prop}  {σ : zS} (h : (if 0 < (σ 37 0) then (if zin (zrem (((σ 37 2) + 13) - 1) 13) 13 = true then Z d 37 Q 44 [.ref 37, .ref 14, .ref 32, (.retAddr 0)] [(.ref ([39, 50, 61, 72, 83, 94, 105, 116, 127, 138, 149, 160, 171].getD (Int32.toNatClampNeg (zrem (((σ 37 2) + 13) - 1) 13)) 0))] (zup (zup σ 37 2 (zrem (((σ 37 2) + 13) - 1) 13)) 37 0 ((σ 37 0) - 1)) else False) else Q 0 σ)) : Z d 37 Q 0 [.ref 37, .ref 14, .ref 32, (.retAddr 0)] [] σ :=
  zwp1_ok (code := zc_37) (cuts := [44]) rfl 400 h
set_option maxRecDepth 100000 in
theorem k_37_44_39 {d : Nat} {Q : Int32 → zS → Prop} {xw3 : Value} {σ : zS} (h : (ZC d 24 [.ref 39, .ref 14, .ref 32] σ (fun _ s1 => Q 1 s1))) : Z d 37 Q 44 [.ref 37, .ref 14, .ref 32, xw3] [.ref 39] σ :=
  zwp1_ok (code := zc_37) (cuts := [44]) rfl 400 h
set_option maxRecDepth 100000 in
theorem k_37_44_50 {d : Nat} {Q : Int32 → zS → Prop} {xw3 : Value} {σ : zS} (h : (ZC d 24 [.ref 50, .ref 14, .ref 32] σ (fun _ s3 => Q 1 s3))) : Z d 37 Q 44 [.ref 37, .ref 14, .ref 32, xw3] [.ref 50] σ :=
  zwp1_ok (code := zc_37) (cuts := [44]) rfl 400 h
set_option maxRecDepth 100000 in
theorem k_37_44_61 {d : Nat} {Q : Int32 → zS → Prop} {xw3 : Value} {σ : zS} (h : (ZC d 24 [.ref 61, .ref 14, .ref 32] σ (fun _ s5 => Q 1 s5))) : Z d 37 Q 44 [.ref 37, .ref 14, .ref 32, xw3] [.ref 61] σ :=
  zwp1_ok (code := zc_37) (cuts := [44]) rfl 400 h
set_option maxRecDepth 100000 in
theorem k_37_44_72 {d : Nat} {Q : Int32 → zS → Prop} {xw3 : Value} {σ : zS} (h : (ZC d 24 [.ref 72, .ref 14, .ref 32] σ (fun _ s7 => Q 1 s7))) : Z d 37 Q 44 [.ref 37, .ref 14, .ref 32, xw3] [.ref 72] σ :=
  zwp1_ok (code := zc_37) (cuts := [44]) rfl 400 h
set_option maxRecDepth 100000 in
theorem k_37_44_83 {d : Nat} {Q : Int32 → zS → Prop} {xw3 : Value} {σ : zS} (h : (ZC d 24 [.ref 83, .ref 14, .ref 32] σ (fun _ s9 => Q 1 s9))) : Z d 37 Q 44 [.ref 37, .ref 14, .ref 32, xw3] [.ref 83] σ :=
  zwp1_ok (code := zc_37) (cuts := [44]) rfl 400 h
set_option maxRecDepth 100000 in
theorem k_37_44_94 {d : Nat} {Q : Int32 → zS → Prop} {xw3 : Value} {σ : zS} (h : (ZC d 24 [.ref 94, .ref 14, .ref 32] σ (fun _ s11 => Q 1 s11))) : Z d 37 Q 44 [.ref 37, .ref 14, .ref 32, xw3] [.ref 94] σ :=
  zwp1_ok (code := zc_37) (cuts := [44]) rfl 400 h
set_option maxRecDepth 100000 in
theorem k_37_44_105 {d : Nat} {Q : Int32 → zS → Prop} {xw3 : Value} {σ : zS} (h : (ZC d 24 [.ref 105, .ref 14, .ref 32] σ (fun _ s13 => Q 1 s13))) : Z d 37 Q 44 [.ref 37, .ref 14, .ref 32, xw3] [.ref 105] σ :=
  zwp1_ok (code := zc_37) (cuts := [44]) rfl 400 h
set_option maxRecDepth 100000 in
theorem k_37_44_116 {d : Nat} {Q : Int32 → zS → Prop} {xw3 : Value} {σ : zS} (h : (ZC d 24 [.ref 116, .ref 14, .ref 32] σ (fun _ s15 => Q 1 s15))) : Z d 37 Q 44 [.ref 37, .ref 14, .ref 32, xw3] [.ref 116] σ :=
  zwp1_ok (code := zc_37) (cuts := [44]) rfl 400 h
set_option maxRecDepth 100000 in
theorem k_37_44_127 {d : Nat} {Q : Int32 → zS → Prop} {xw3 : Value} {σ : zS} (h : (ZC d 24 [.ref 127, .ref 14, .ref 32] σ (fun _ s17 => Q 1 s17))) : Z d 37 Q 44 [.ref 37, .ref 14, .ref 32, xw3] [.ref 127] σ :=
  zwp1_ok (code := zc_37) (cuts := [44]) rfl 400 h
set_option maxRecDepth 100000 in
theorem k_37_44_138 {d : Nat} {Q : Int32 → zS → Prop} {xw3 : Value} {σ : zS} (h : (ZC d 24 [.ref 138, .ref 14, .ref 32] σ (fun _ s19 => Q 1 s19))) : Z d 37 Q 44 [.ref 37, .ref 14, .ref 32, xw3] [.ref 138] σ :=
  zwp1_ok (code := zc_37) (cuts := [44]) rfl 400 h
set_option maxRecDepth 100000 in
theorem k_37_44_149 {d : Nat} {Q : Int32 → zS → Prop} {xw3 : Value} {σ : zS} (h : (ZC d 24 [.ref 149, .ref 14, .ref 32] σ (fun _ s21 => Q 1 s21))) : Z d 37 Q 44 [.ref 37, .ref 14, .ref 32, xw3] [.ref 149] σ :=
  zwp1_ok (code := zc_37) (cuts := [44]) rfl 400 h
set_option maxRecDepth 100000 in
theorem k_37_44_160 {d : Nat} {Q : Int32 → zS → Prop} {xw3 : Value} {σ : zS} (h : (ZC d 24 [.ref 160, .ref 14, .ref 32] σ (fun _ s23 => Q 1 s23))) : Z d 37 Q 44 [.ref 37, .ref 14, .ref 32, xw3] [.ref 160] σ :=
  zwp1_ok (code := zc_37) (cuts := [44]) rfl 400 h
set_option maxRecDepth 100000 in
theorem k_37_44_171 {d : Nat} {Q : Int32 → zS → Prop} {xw3 : Value} {σ : zS} (h : (ZC d 24 [.ref 171, .ref 14, .ref 32] σ (fun _ s25 => Q 1 s25))) : Z d 37 Q 44 [.ref 37, .ref 14, .ref 32, xw3] [.ref 171] σ :=
  zwp1_ok (code := zc_37) (cuts := [44]) rfl 400 h
set_option maxRecDepth 100000 in
theorem k_39_0 {d : Nat} {Q : Int32 → zS → Prop}  {σ : zS} (h : Q 0 (zup (zup (zup (zup σ 5 0 1000) 5 1 3) 5 2 (-62)) 3 2 3)) : Z d 39 Q 0 [.ref 3] [] σ :=
  zwp1_ok (code := zc_39) (cuts := []) rfl 400 h
set_option maxRecDepth 100000 in
theorem k_40_0 {d : Nat} {Q : Int32 → zS → Prop}  {σ : zS} (h : Q 0 (zup (zput σ 5 (va_cpy (σ 9) (σ 5) (Int32.toNatClampNeg 0) (Int32.toNatClampNeg 0) (Int32.toNatClampNeg 40))) 3 2 (σ 8 1))) : Z d 40 Q 0 [.ref 3, .ref 8] [] σ :=
  zwp1_ok (code := zc_40) (cuts := []) rfl 400 h
set_option maxRecDepth 100000 in
theorem k_41_0 {d : Nat} {Q : Int32 → zS → Prop} {x2 : Int32} {σ : zS} (h : (ZC d 4 [.int 40, .int (Int32.ofNat 80)] σ (fun v2 s1 => (ZC d 4 [.int x2, .int v2] s1 (fun v4 s3 => Z d 41 Q 17 [.ref 3, .ref 2, .int x2, .int 0] [] (zup s3 3 5 v4)))))) : Z d 41 Q 0 [.ref 3, .ref 2, .int x2, (.retAddr 0)] [] σ :=
  zwp1_ok (code := zc_41) (cuts := [17]) rfl 400 h
set_option maxRecDepth 100000 in
theorem k_41_17 {d : Nat} {Q : Int32 → zS → Prop} {x2 x3 : Int32} {σ : zS} (h : (if x3 < (σ 3 5) then (if zin x3 80 = true then (if zin x3 40 = true then Z d 41 Q 17 [.ref 3, .ref 2, .int x2, .int (x3 + 1)] [] (zup σ 7 (Int32.toNatClampNeg x3) ((σ 2 (Int32.toNatClampNeg x3)) - 48)) else False) else False) else Q 0 σ)) : Z d 41 Q 17 [.ref 3, .ref 2, .int x2, .int x3] [] σ :=
  zwp1_ok (code := zc_41) (cuts := [17]) rfl 400 h
set_option maxRecDepth 100000 in
theorem k_42_0 {d : Nat} {Q : Int32 → zS → Prop} {x1 : Int32} {σ : zS} (h : (if 0 < (σ 3 5) then (if x1 < 0 then Q 0 σ else (if (σ 3 5) = 0 then False else (if zin (zrem x1 (σ 3 5)) 40 = true then Q (σ 7 (Int32.toNatClampNeg (zrem x1 (σ 3 5)))) σ else False))) else Q 0 σ)) : Z d 42 Q 0 [.ref 3, .int x1] [] σ :=
  zwp1_ok (code := zc_42) (cuts := []) rfl 400 h
set_option maxRecDepth 100000 in
theorem k_43_0 {d : Nat} {Q : Int32 → zS → Prop}  {σ : zS} (h : Z d 43 Q 4 [.ref 3, .int 0, .int 0, (.retAddr 0), (.retAddr 0)] [] σ) : Z d 43 Q 0 [.ref 3, (.retAddr 0), (.retAddr 0), (.retAddr 0), (.retAddr 0)] [] σ :=
  zwp1_ok (code := zc_43) (cuts := [4, 49, 58, 70, 78, 84, 87, 91, 104, 139]) rfl 400 h
set_option maxRecDepth 100000 in
theorem k_43_4 {d : Nat} {Q : Int32 → zS → Prop} {x1 x2 : Int32} {xw3 xw4 : Value} {σ : zS} (h : (if x2 < (σ 3 2) then (if zin x2 40 = true then (if (σ 5 (Int32.toNatClampNeg x2)) = (-126) then (if 0 < x1 then (if zin (x1 - 1) 40 = true then (if zin (x1 - 1) 40 = true then Z d 43 Q 139 [.ref 3, .int x1, .int x2, .int (σ 5 (Int32.toNatClampNeg x2)), xw4] [] (zup σ 6 (Int32.toNatClampNeg (x1 - 1)) (-(σ 6 (Int32.toNatClampNeg (x1 - 1))))) else False) else False) else Z d 43 Q 139 [.ref 3, .int x1, .int x2, .int (σ 5 (Int32.toNatClampNeg x2)), xw4] [] σ) else Z d 43 Q 49 [.ref 3, .int x1, .int x2, .int (σ 5 (Int32.toNatClampNeg x2)), xw4] [] σ) else False) else (if (σ 6 0) = 0 then Q 0 σ else Q 1 σ))) : Z d 43 Q 4 [.ref 3, .int x1, .int x2, xw3, xw4] [] σ :=
  zwp1_ok (code := zc_43) (cuts := [4, 49, 58, 70, 78, 84, 87, 91, 104, 139]) rfl 400 h
set_option maxRecDepth 100000 in
theorem k_43_49 {d : Nat} {Q : Int32 → zS → Prop} {x1 x2 x3 : Int32} {xw4 : Value} {σ : zS} (h : (if x3 < 0 then (if 1 < x1 then Z d 43 Q 58 [.ref 3, .int x1, .int x2, .int x3, xw4] [] σ else Z d 43 Q 139 [.ref 3, .int x1, .int x2, .int x3, xw4] [] σ) else Z d 43 Q 91 [.ref 3, .int x1, .int x2, .int x3, xw4] [] σ)) : Z d 43 Q 49 [.ref 3, .int x1, .int x2, .int x3, xw4] [] σ :=
  zwp1_ok (code := zc_43) (cuts := [4, 49, 58, 70, 78, 84, 87, 91, 104, 139]) rfl 400 h
set_option maxRecDepth 100000 in
theorem k_43_58 {d : Nat} {Q : Int32 → zS → Prop} {x1 x2 x3 : Int32} {xw4 : Value} {σ : zS} (h : Z d 43 Q 70 [.ref 3, .int (x1 + (-1)), .int x2, .int x3, xw4] [.int (-x3), .int ((x1 + (-1)) - 1), .ref 6] σ) : Z d 43 Q 58 [.ref 3, .int x1, .int x2, .int x3, xw4] [] σ :=
  zwp1_ok (code := zc_43) (cuts := [4, 49, 58, 70, 78, 84, 87, 91, 104, 139]) rfl 400 h
set_option maxRecDepth 100000 in
theorem k_43_70 {d : Nat} {Q : Int32 → zS → Prop} {x1 x2 x3 t0 t1 : Int32} {xw4 : Value} {σ : zS} (h : (if zin (x1 - 1) 40 = true then Z d 43 Q 78 [.ref 3, .int x1, .int x2, .int x3, xw4] [.int (σ 6 (Int32.toNatClampNeg (x1 - 1))), .int t0, .int t1, .ref 6] σ else False)) : Z d 43 Q 70 [.ref 3, .int x1, .int x2, .int x3, xw4] [.int t0, .int t1, .ref 6] σ :=
  zwp1_ok (code := zc_43) (cuts := [4, 49, 58, 70, 78, 84, 87, 91, 104, 139]) rfl 400 h
set_option maxRecDepth 100000 in
theorem k_43_78 {d : Nat} {Q : Int32 → zS → Prop} {x1 x2 x3 t0 t1 t2 : Int32} {xw4 : Value} {σ : zS} (h : (if zin x1 40 = true then Z d 43 Q 84 [.ref 3, .int x1, .int x2, .int x3, xw4] [.int (σ 6 (Int32.toNatClampNeg x1)), .int t0, .int t1, .int t2, .ref 6] σ else False)) : Z d 43 Q 78 [.ref 3, .int x1, .int x2, .int x3, xw4] [.int t0, .int t1, .int t2, .ref 6] σ :=
  zwp1_ok (code := zc_43) (cuts := [4, 49, 58, 70, 78, 84, 87, 91, 104, 139]) rfl 400 h
set_option maxRecDepth 100000 in
theorem k_43_84 {d : Nat} {Q : Int32 → zS → Prop} {x1 x2 x3 t0 t1 t2 t3 : Int32} {xw4 : Value} {σ : zS} (h : (ZC d 44 [.int t2, .int t1, .int t0] σ (fun v2 s1 => Z d 43 Q 87 [.ref 3, .int x1, .int x2, .int x3, xw4] [.int v2, .int t3, .ref 6] s1))) : Z d 43 Q 84 [.ref 3, .int x1, .int x2, .int x3, xw4] [.int t0, .int t1, .int t2, .int t3, .ref 6] σ :=
  zwp1_ok (code := zc_43) (cuts := [4, 49, 58, 70, 78, 84, 87, 91, 104, 139]) rfl 400 h
set_option maxRecDepth 100000 in
theorem k_43_87 {d : Nat} {Q : Int32 → zS → Prop} {x1 x2 x3 t0 t1 : Int32} {xw4 : Value} {σ : zS} (h : (if zin t1 40 = true then Z d 43 Q 139 [.ref 3, .int x1, .int x2, .int x3, xw4] [] (zup σ 6 (Int32.toNatClampNeg t1) t0) else False)) : Z d 43 Q 87 [.ref 3, .int x1, .int x2, .int x3, xw4] [.int t0, .int t1, .ref 6] σ :=
  zwp1_ok (code := zc_43) (cuts := [4, 49, 58, 70, 78, 84, 87, 91, 104, 139]) rfl 400 h
set_option maxRecDepth 100000 in
theorem k_43_91 {d : Nat} {Q : Int32 → zS → Prop} {x1 x2 x3 : Int32} {xw4 : Value} {σ : zS} (h : (if x1 < 40 then Z d 43 Q 104 [.ref 3, .int x1, .int x2, .int x3, .int (x3 - 1000)] [] σ else Z d 43 Q 139 [.ref 3, .int x1, .int x2, .int x3, xw4] [] σ)) : Z d 43 Q 91 [.ref 3, .int x1, .int x2, .int x3, xw4] [] σ :=
  zwp1_ok (code := zc_43) (cuts := [4, 49, 58, 70, 78, 84, 87, 91, 104, 139]) rfl 400 h
set_option maxRecDepth 100000 in
theorem k_43_104 {d : Nat} {Q : Int32 → zS → Prop} {x1 x2 x3 x4 : Int32} {σ : zS} (h : (if x4 < 0 then (if zin x1 40 = true then Z d 43 Q 139 [.ref 3, .int (x1 + 1), .int x2, .int x3, .int x4] [] (zup σ 6 (Int32.toNatClampNeg x1) x3) else False) else (if x4 < (Int32.ofNat 9) then (if zin x4 9 = true then (if zin x1 40 = true then Z d 43 Q 139 [.ref 3, .int (x1 + 1), .int x2, .int x3, .int x4] [] (zup σ 6 (Int32.toNatClampNeg x1) (σ 4 (Int32.toNatClampNeg x4))) else False) else False) else (if zin x1 40 = true then Z d 43 Q 139 [.ref 3, .int (x1 + 1), .int x2, .int x3, .int x4] [] (zup σ 6 (Int32.toNatClampNeg x1) x3) else False)))) : Z d 43 Q 104 [.ref 3, .int x1, .int x2, .int x3, .int x4] [] σ :=
  zwp1_ok (code := zc_43) (cuts := [4, 49, 58, 70, 78, 84, 87, 91, 104, 139]) rfl 400 h
set_option maxRecDepth 100000 in
theorem k_43_139 {d : Nat} {Q : Int32 → zS → Prop} {x1 x2 x3 : Int32} {xw4 : Value} {σ : zS} (h : Z d 43 Q 4 [.ref 3, .int x1, .int (x2 + 1), .int x3, xw4] [] σ) : Z d 43 Q 139 [.ref 3, .int x1, .int x2, .int x3, xw4] [] σ :=
  zwp1_ok (code := zc_43) (cuts := [4, 49, 58, 70, 78, 84, 87, 91, 104, 139]) rfl 400 h
set_option maxRecDepth 100000 in
theorem k_44_0 {d : Nat} {Q : Int32 → zS → Prop} {x0 x1 x2 : Int32} {σ : zS} (h : (if x0 = 42 then Q (x1 * x2) σ else (if x0 = 43 then Q (x1 + x2) σ else (if x0 = 45 then Q (x1 - x2) σ else (if x0 = 60 then (if x1 < x2 then Q 1 σ else Q 0 σ) else (if x0 = 61 then (if x1 = x2 then Q 1 σ else Q 0 σ) else (if x0 = 62 then (if x2 < x1 then Q 1 σ else Q 0 σ) else (if x2 = 0 then Q 0 σ else (if x2 = 0 then False else Q (x1 / x2) σ))))))))) : Z d 44 Q 0 [.int x0, .int x1, .int x2] [] σ :=
  zwp1_ok (code := zc_44) (cuts := []) rfl 400 h
set_option maxRecDepth 100000 in
theorem k_46_0 {d : Nat} {Q : Int32 → zS → Prop}  {σ : zS} (h : (ZC d 48 [.ref 8, .int 0] (zup σ 8 1 0) (fun v2 s1 => (if v2 &&& 1 = v2 then Q v2 s1 else False)))) : Z d 46 Q 0 [.ref 8] [] σ :=
  zwp1_ok (code := zc_46) (cuts := []) rfl 400 h
set_option maxRecDepth 100000 in
theorem k_47_0 {d : Nat} {Q : Int32 → zS → Prop} {x1 : Int32} {σ : zS} (h : (if (σ 8 1) < 40 then (if zin (σ 8 1) 40 = true then Q 0 (zup (zup σ 9 (Int32.toNatClampNeg (σ 8 1)) x1) 8 1 ((σ 8 1) + 1)) else False) else Q 0 σ)) : Z d 47 Q 0 [.ref 8, .int x1] [] σ :=
  zwp1_ok (code := zc_47) (cuts := []) rfl 400 h
set_option maxRecDepth 100000 in
theorem k_48_0 {d : Nat} {Q : Int32 → zS → Prop} {x1 : Int32} {σ : zS} (h : (ZC d 49 [.ref 8, .int x1] σ (fun v2 s1 => (if v2 = 0 then Q 0 s1 else (ZC d 64 [.ref 1] s1 (fun v4 s3 => (if v4 = 60 then (ZC d 65 [.ref 1] s3 (fun _ s5 => (ZC d 49 [.ref 8, .int x1] s5 (fun v8 s7 => (if v8 = 0 then Q 0 s7 else (ZC d 47 [.ref 8, .int (-v4)] s7 (fun _ s9 => Q 1 s9))))))) else (if v4 = 62 then (ZC d 65 [.ref 1] s3 (fun _ s11 => (ZC d 49 [.ref 8, .int x1] s11 (fun v14 s13 => (if v14 = 0 then Q 0 s13 else (ZC d 47 [.ref 8, .int (-v4)] s13 (fun _ s15 => Q 1 s15))))))) else (if v4 = 61 then (ZC d 65 [.ref 1] s3 (fun _ s17 => (ZC d 49 [.ref 8, .int x1] s17 (fun v20 s19 => (if v20 = 0 then Q 0 s19 else (ZC d 47 [.ref 8, .int (-v4)] s19 (fun _ s21 => Q 1 s21))))))) else Q 1 s3))))))))) : Z d 48 Q 0 [.ref 8, .int x1, (.retAddr 0)] [] σ :=
  zwp1_ok (code := zc_48) (cuts := []) rfl 400 h
set_option maxRecDepth 100000 in
theorem k_49_0 {d : Nat} {Q : Int32 → zS → Prop} {x1 : Int32} {σ : zS} (h : (ZC d 50 [.ref 8, .int x1] σ (fun v2 s1 => (ZC d 64 [.ref 1] s1 (fun v4 s3 => Z d 49 Q 17 [.ref 8, .int x1, .int v2, .int v4, .int 0] [] s3))))) : Z d 49 Q 0 [.ref 8, .int x1, (.retAddr 0), (.retAddr 0), (.retAddr 0)] [] σ :=
  zwp1_ok (code := zc_49) (cuts := [17]) rfl 400 h
set_option maxRecDepth 100000 in
theorem k_49_17 {d : Nat} {Q : Int32 → zS → Prop} {x1 x2 x3 x4 : Int32} {σ : zS} (h : (if x4 < 40 then (if x2 = 0 then (if x2 &&& 1 = x2 then Q x2 σ else False) else (if x3 = 43 then (ZC d 65 [.ref 1] σ (fun _ s1 => (ZC d 50 [.ref 8, .int x1] s1 (fun v4 s3 => (ZC d 47 [.ref 8, .int (-x3)] s3 (fun _ s5 => (ZC d 64 [.ref 1] s5 (fun v8 s7 => Z d 49 Q 17 [.ref 8, .int x1, .int v4, .int v8, .int (x4 + 1)] [] s7)))))))) else (if x3 = 45 then (ZC d 65 [.ref 1] σ (fun _ s9 => (ZC d 50 [.ref 8, .int x1] s9 (fun v12 s11 => (ZC d 47 [.ref 8, .int (-x3)] s11 (fun _ s13 => (ZC d 64 [.ref 1] s13 (fun v16 s15 => Z d 49 Q 17 [.ref 8, .int x1, .int v12, .int v16, .int (x4 + 1)] [] s15)))))))) else (if x2 &&& 1 = x2 then Q x2 σ else False)))) else (if x2 &&& 1 = x2 then Q x2 σ else False))) : Z d 49 Q 17 [.ref 8, .int x1, .int x2, .int x3, .int x4] [] σ :=
  zwp1_ok (code := zc_49) (cuts := [17]) rfl 400 h
set_option maxRecDepth 100000 in
theorem k_50_0 {d : Nat} {Q : Int32 → zS → Prop} {x1 : Int32} {σ : zS} (h : (ZC d 51 [.ref 8, .int x1] σ (fun v2 s1 => (ZC d 64 [.ref 1] s1 (fun v4 s3 => Z d 50 Q 17 [.ref 8, .int x1, .int v2, .int v4, .int 0] [] s3))))) : Z d 50 Q 0 [.ref 8, .int x1, (.retAddr 0), (.retAddr 0), (.retAddr 0)] [] σ :=
  zwp1_ok (code := zc_50) (cuts := [17]) rfl 400 h
set_option maxRecDepth 100000 in
theorem k_50_17 {d : Nat} {Q : Int32 → zS → Prop} {x1 x2 x3 x4 : Int32} {σ : zS} (h : (if x4 < 40 then (if x2 = 0 then (if x2 &&& 1 = x2 then Q x2 σ else False) else (if x3 = 42 then (ZC d 65 [.ref 1] σ (fun _ s1 => (ZC d 51 [.ref 8, .int x1] s1 (fun v4 s3 => (ZC d 47 [.ref 8, .int (-x3)] s3 (fun _ s5 => (ZC d 64 [.ref 1] s5 (fun v8 s7 => Z d 50 Q 17 [.ref 8, .int x1, .int v4, .int v8, .int (x4 + 1)] [] s7)))))))) else (if x3 = 47 then (ZC d 65 [.ref 1] σ (fun _ s9 => (ZC d 51 [.ref 8, .int x1] s9 (fun v12 s11 => (ZC d 47 [.ref 8, .int (-x3)] s11 (fun _ s13 => (ZC d 64 [.ref 1] s13 (fun v16 s15 => Z d 50 Q 17 [.ref 8, .int x1, .int v12, .int v16, .int (x4 + 1)] [] s15)))))))) else (if x2 &&& 1 = x2 then Q x2 σ else False)))) else (if x2 &&& 1 = x2 then Q x2 σ else False))) : Z d 50 Q 17 [.ref 8, .int x1, .int x2, .int x3, .int x4] [] σ :=
  zwp1_ok (code := zc_50) (cuts := [17]) rfl 400 h
set_option maxRecDepth 100000 in
theorem k_51_0 {d : Nat} {Q : Int32 → zS → Prop} {x1 : Int32} {σ : zS} (h : Z d 51 Q 2 [.ref 8, .int x1, .int 0] [] σ) : Z d 51 Q 0 [.ref 8, .int x1, (.retAddr 0)] [] σ :=
  zwp1_ok (code := zc_51) (cuts := [2]) rfl 400 h
set_option maxRecDepth 100000 in
theorem k_51_2 {d : Nat} {Q : Int32 → zS → Prop} {x1 x2 : Int32} {σ : zS} (h : (if x2 < 40 then (ZC d 66 [.ref 1, .int 45] σ (fun v2 s1 => (if v2 = 0 then (ZC d 52 [.ref 8, .int x1] s1 (fun v4 s3 => (if v4 = 0 then Q 0 s3 else (if (zrem x2 2) = 1 then (ZC d 47 [.ref 8, .int (-126)] s3 (fun _ s5 => Q 1 s5)) else Q 1 s3)))) else Z d 51 Q 2 [.ref 8, .int x1, .int (x2 + 1)] [] s1))) else (ZC d 52 [.ref 8, .int x1] σ (fun v8 s7 => (if v8 = 0 then Q 0 s7 else (if (zrem x2 2) = 1 then (ZC d 47 [.ref 8, .int (-126)] s7 (fun _ s9 => Q 1 s9)) else Q 1 s7)))))) : Z d 51 Q 2 [.ref 8, .int x1, .int x2] [] σ :=
  zwp1_ok (code := zc_51) (cuts := [2]) rfl 400 h
set_option maxRecDepth 100000 in
theorem k_52_0 {d : Nat} {Q : Int32 → zS → Prop} {x1 : Int32} {σ : zS} (h : (ZC d 64 [.ref 1] σ (fun v2 s1 => (if v2 = 40 then (if x1 < 4 then (ZC d 65 [.ref 1] s1 (fun _ s3 => (ZC d 48 [.ref 8, .int (x1 + 1)] s3 (fun v6 s5 => (if v6 = 0 then Q 0 s5 else (ZC d 66 [.ref 1, .int 41] s5 (fun v8 s7 => (if v8 = 0 then Q 0 s7 else Q 1 s7)))))))) else Q 0 s1) else (ZC d 67 [.ref 1, .int 0] s1 (fun v10 s9 => (if v10 = (-1) then (ZC d 64 [.ref 1] s9 (fun v12 s11 => (ZC d 54 [.int v12] s11 (fun v14 s13 => (if v14 = (-1) then Q 0 s13 else (ZC d 65 [.ref 1] s13 (fun _ s15 => (ZC d 47 [.ref 8, .int (1000 + v14)] s15 (fun _ s17 => Q 1 s17))))))))) else (ZC d 53 [.ref 8, .int v10] s9 (fun v20 s19 => (ZC d 47 [.ref 8, .int v20] s19 (fun _ s21 => Q 1 s21))))))))))) : Z d 52 Q 0 [.ref 8, .int x1, (.retAddr 0), (.retAddr 0)] [] σ :=
  zwp1_ok (code := zc_52) (cuts := []) rfl 400 h
set_option maxRecDepth 100000 in
theorem k_53_0 {d : Nat} {Q : Int32 → zS → Prop} {x1 : Int32} {σ : zS} (h : Z d 53 Q 4 [.ref 8, .int x1, .int x1, .int 1, (.retAddr 0)] [] σ) : Z d 53 Q 0 [.ref 8, .int x1, (.retAddr 0), (.retAddr 0), (.retAddr 0)] [] σ :=
  zwp1_ok (code := zc_53) (cuts := [4]) rfl 400 h
set_option maxRecDepth 100000 in
theorem k_53_4 {d : Nat} {Q : Int32 → zS → Prop} {x1 x2 x3 : Int32} {xw4 : Value} {σ : zS} (h : (if x3 < 3 then (ZC d 67 [.ref 1, .int 0] σ (fun v2 s1 => (if v2 = (-1) then Z d 53 Q 4 [.ref 8, .int x1, .int x2, .int (x3 + 1), .int v2] [] s1 else Z d 53 Q 4 [.ref 8, .int x1, .int ((10 * x2) + v2), .int (x3 + 1), .int v2] [] s1))) else Q x2 σ)) : Z d 53 Q 4 [.ref 8, .int x1, .int x2, .int x3, xw4] [] σ :=
  zwp1_ok (code := zc_53) (cuts := [4]) rfl 400 h
set_option maxRecDepth 100000 in
theorem k_54_0 {d : Nat} {Q : Int32 → zS → Prop} {x0 : Int32} {σ : zS} (h : (if x0 = 105 then Q 6 σ else (if x0 = 106 then Q 7 σ else (if x0 = 107 then Q 2 σ else (if x0 = 108 then Q (-1) σ else (if x0 = 109 then Q 5 σ else (if x0 = 110 then Q 3 σ else (if x0 = 111 then Q (-1) σ else (if x0 = 112 then Q (-1) σ else (if x0 = 113 then Q (-1) σ else (if x0 = 114 then Q (-1) σ else (if x0 = 115 then Q (-1) σ else (if x0 = 116 then Q 0 σ else (if x0 = 117 then Q (-1) σ else (if x0 = 118 then Q (-1) σ else (if x0 = 119 then Q 4 σ else (if x0 = 120 then Q 8 σ else (if x0 = 121 then Q 1 σ else Q (-1) σ)))))))))))))))))) : Z d 54 Q 0 [.int x0] [] σ :=
  zwp1_ok (code := zc_54) (cuts := []) rfl 400 h
set_option maxRecDepth 100000 in
theorem k_56_0 {d : Nat} {Q : Int32 → zS → Prop} {x1 x2 : Int32} {σ : zS} (h : (if (σ 187 0) < 0 then Q 0 σ else (if (σ 187 0) < 10 then (if zin (σ 187 0) 10 = true then (if zin (σ 187 0) 10 = true then Q 1 (zup (zup (zup σ 188 (Int32.toNatClampNeg (σ 187 0)) x1) 189 (Int32.toNatClampNeg (σ 187 0)) x2) 187 0 ((σ 187 0) + 1)) else False) else False) else Q 0 σ))) : Z d 56 Q 0 [.ref 187, .int x1, .int x2] [] σ :=
  zwp1_ok (code := zc_56) (cuts := []) rfl 400 h
set_option maxRecDepth 100000 in
theorem k_57_0 {d : Nat} {Q : Int32 → zS → Prop}  {σ : zS} (h : Z d 57 Q 4 [.ref 187, .ref 23, .int (-1), .int 0, (.retAddr 0)] [] σ) : Z d 57 Q 0 [.ref 187, .ref 23, (.retAddr 0), (.retAddr 0), (.retAddr 0)] [] σ :=
  zwp1_ok (code := zc_57) (cuts := [4, 31, 44]) rfl 400 h
set_option maxRecDepth 100000 in
theorem k_57_4 {d : Nat} {Q : Int32 → zS → Prop} {x2 x3 : Int32} {xw4 : Value} {σ : zS} (h : (if x3 < (σ 187 0) then (if zin x3 10 = true then (ZC d 3 [.int x2, .int (σ 189 (Int32.toNatClampNeg x3))] σ (fun v2 s1 => Z d 57 Q 4 [.ref 187, .ref 23, .int v2, .int (x3 + 1), xw4] [] s1)) else False) else Z d 57 Q 31 [.ref 187, .ref 23, .int x2, .int 0, xw4] [] σ)) : Z d 57 Q 4 [.ref 187, .ref 23, .int x2, .int x3, xw4] [] σ :=
  zwp1_ok (code := zc_57) (cuts := [4, 31, 44]) rfl 400 h
set_option maxRecDepth 100000 in
theorem k_57_31 {d : Nat} {Q : Int32 → zS → Prop} {x2 x3 : Int32} {xw4 : Value} {σ : zS} (h : (if x2 < x3 then Q 1 σ else (ZC d 77 [.ref 23, .int 0] σ (fun _ s1 => Z d 57 Q 44 [.ref 187, .ref 23, .int x2, .int x3, .int 0] [] s1)))) : Z d 57 Q 31 [.ref 187, .ref 23, .int x2, .int x3, xw4] [] σ :=
  zwp1_ok (code := zc_57) (cuts := [4, 31, 44]) rfl 400 h
set_option maxRecDepth 100000 in
theorem k_57_44 {d : Nat} {Q : Int32 → zS → Prop} {x2 x3 x4 : Int32} {σ : zS} (h : (if x4 < (σ 187 0) then (if zin x4 10 = true then (if (σ 189 (Int32.toNatClampNeg x4)) = x3 then (if zin x4 10 = true then (ZC d 132 [.int (σ 23 4), .int (σ 188 (Int32.toNatClampNeg x4))] σ (fun v2 s1 => (if v2 = 0 then Q 0 s1 else Z d 57 Q 44 [.ref 187, .ref 23, .int x2, .int x3, .int (x4 + 1)] [] s1))) else False) else Z d 57 Q 44 [.ref 187, .ref 23, .int x2, .int x3, .int (x4 + 1)] [] σ) else False) else Z d 57 Q 31 [.ref 187, .ref 23, .int x2, .int (x3 + 1), .int x4] [] σ)) : Z d 57 Q 44 [.ref 187, .ref 23, .int x2, .int x3, .int x4] [] σ :=
  zwp1_ok (code := zc_57) (cuts := [4, 31, 44]) rfl 400 h
set_option maxRecDepth 100000 in
theorem k_59_0 {d : Nat} {Q : Int32 → zS → Prop} {x1 : Int32} {σ : zS} (h : (if (σ 1 1) < 0 then Q 0 σ else (if 76 < (σ 1 1) then Q 0 σ else Z d 59 Q 20 [.ref 1, .int x1, .int 0] [] σ))) : Z d 59 Q 0 [.ref 1, .int x1, (.retAddr 0)] [] σ :=
  zwp1_ok (code := zc_59) (cuts := [20]) rfl 400 h
set_option maxRecDepth 100000 in
theorem k_59_20 {d : Nat} {Q : Int32 → zS → Prop} {x1 x2 : Int32} {σ : zS} (h : (if x2 < 4 then (if zin ((σ 1 1) + x2) 80 = true then Z d 59 Q 20 [.ref 1, .int x1, .int (x2 + 1)] [] (zup σ 2 (Int32.toNatClampNeg ((σ 1 1) + x2)) ((zushr x1 (24 - (8 * x2))) &&& 255)) else False) else Q 1 (zup σ 1 1 ((σ 1 1) + 4)))) : Z d 59 Q 20 [.ref 1, .int x1, .int x2] [] σ :=
  zwp1_ok (code := zc_59) (cuts := [20]) rfl 400 h
set_option maxRecDepth 100000 in
theorem k_60_0 {d : Nat} {Q : Int32 → zS → Prop} {x1 : Int32} {σ : zS} (h : (ZC d 4 [.int (σ 1 1), .int x1] (zup σ 1 2 0) (fun v2 s1 => (if x1 < (s1 1 1) then Q 0 (zup (zup s1 1 3 v2) 1 4 1) else Q 0 (zup (zup s1 1 3 v2) 1 4 0))))) : Z d 60 Q 0 [.ref 1, .int x1] [] σ :=
  zwp1_ok (code := zc_60) (cuts := []) rfl 400 h
set_option maxRecDepth 100000 in
theorem k_61_0 {d : Nat} {Q : Int32 → zS → Prop}  {σ : zS} (h : (if (σ 1 2) < (σ 1 3) then Q 0 σ else Q 1 σ)) : Z d 61 Q 0 [.ref 1] [] σ :=
  zwp1_ok (code := zc_61) (cuts := []) rfl 400 h
set_option maxRecDepth 100000 in
theorem k_62_0 {d : Nat} {Q : Int32 → zS → Prop} {x1 : Int32} {σ : zS} (h : (if x1 = 0 then Q 0 (zup σ 1 1 0) else (if (σ 1 2) < (σ 1 3) then Q 0 (zup σ 1 1 0) else (if (σ 1 4) = 0 then Q 1 (zup σ 1 1 0) else Q 0 (zup σ 1 1 0))))) : Z d 62 Q 0 [.ref 1, .int x1] [] σ :=
  zwp1_ok (code := zc_62) (cuts := []) rfl 400 h
set_option maxRecDepth 100000 in
theorem k_63_0 {d : Nat} {Q : Int32 → zS → Prop}  {σ : zS} (h : Q ((-1) - (σ 1 2)) σ) : Z d 63 Q 0 [.ref 1] [] σ :=
  zwp1_ok (code := zc_63) (cuts := []) rfl 400 h
set_option maxRecDepth 100000 in
theorem k_64_0 {d : Nat} {Q : Int32 → zS → Prop}  {σ : zS} (h : (if (σ 1 2) < 0 then Q (-1) σ else (if (σ 1 2) < (σ 1 3) then (if (σ 1 2) < (Int32.ofNat 80) then (if zin (σ 1 2) 80 = true then Q (σ 2 (Int32.toNatClampNeg (σ 1 2))) σ else False) else Q (-1) σ) else Q (-1) σ))) : Z d 64 Q 0 [.ref 1] [] σ :=
  zwp1_ok (code := zc_64) (cuts := []) rfl 400 h
set_option maxRecDepth 100000 in
theorem k_65_0 {d : Nat} {Q : Int32 → zS → Prop}  {σ : zS} (h : Q 0 (zup σ 1 2 ((σ 1 2) + 1))) : Z d 65 Q 0 [.ref 1] [] σ :=
  zwp1_ok (code := zc_65) (cuts := []) rfl 400 h
set_option maxRecDepth 100000 in
theorem k_66_0 {d : Nat} {Q : Int32 → zS → Prop} {x1 : Int32} {σ : zS} (h : (ZC d 64 [.ref 1] σ (fun v2 s1 => (if v2 = x1 then Q 1 (zup s1 1 2 ((s1 1 2) + 1)) else Q 0 s1)))) : Z d 66 Q 0 [.ref 1, .int x1] [] σ :=
  zwp1_ok (code := zc_66) (cuts := []) rfl 400 h
set_option maxRecDepth 100000 in
theorem k_67_0 {d : Nat} {Q : Int32 → zS → Prop} {x1 : Int32} {σ : zS} (h : (ZC d 69 [.ref 1, .int 48, .int x1, .int 9] σ (fun v2 s1 => Q v2 s1))) : Z d 67 Q 0 [.ref 1, .int x1] [] σ :=
  zwp1_ok (code := zc_67) (cuts := []) rfl 400 h
set_option maxRecDepth 100000 in
theorem k_68_0 {d : Nat} {Q : Int32 → zS → Prop} {x1 : Int32} {σ : zS} (h : (ZC d 69 [.ref 1, .int 97, .int x1, .int 8] σ (fun v2 s1 => Q v2 s1))) : Z d 68 Q 0 [.ref 1, .int x1] [] σ :=
  zwp1_ok (code := zc_68) (cuts := []) rfl 400 h
set_option maxRecDepth 100000 in
theorem k_69_0 {d : Nat} {Q : Int32 → zS → Prop} {x1 x2 x3 : Int32} {σ : zS} (h : (ZC d 64 [.ref 1] σ (fun v2 s1 => (if (v2 - x1) < x2 then Q (-1) s1 else (if x3 < (v2 - x1) then Q (-1) s1 else Q (v2 - x1) (zup s1 1 2 ((s1 1 2) + 1))))))) : Z d 69 Q 0 [.ref 1, .int x1, .int x2, .int x3, (.retAddr 0)] [] σ :=
  zwp1_ok (code := zc_69) (cuts := []) rfl 400 h
set_option maxRecDepth 100000 in
theorem k_71_0 {d : Nat} {Q : Int32 → zS → Prop}  {σ : zS} (h : (ZC d 26 [.ref 26, .ref 17] (zput (zput σ 24 (va_cpy (σ 15) (σ 24) (Int32.toNatClampNeg 0) (Int32.toNatClampNeg 0) (Int32.toNatClampNeg 9))) 25 (va_cpy (σ 16) (σ 25) (Int32.toNatClampNeg 0) (Int32.toNatClampNeg 0) (Int32.toNatClampNeg 9))) (fun _ s1 => Q 0 (zup s1 23 3 (s1 14 3))))) : Z d 71 Q 0 [.ref 23, .ref 14] [] σ :=
  zwp1_ok (code := zc_71) (cuts := []) rfl 400 h
set_option maxRecDepth 100000 in
theorem k_72_0_i14 {d : Nat} {Q : Int32 → zS → Prop}  {σ : zS} (h : (ZC d 131 [.int (σ 14 3)] σ (fun v2 s1 => Q (v2 - 1) s1))) : Z d 72 Q 0 [.ref 14] [] σ :=
  zwp1_ok (code := zc_72) (cuts := []) rfl 400 h
set_option maxRecDepth 100000 in
theorem k_72_0_i23 {d : Nat} {Q : Int32 → zS → Prop}  {σ : zS} (h : (ZC d 131 [.int (σ 23 3)] σ (fun v2 s1 => Q (v2 - 1) s1))) : Z d 72 Q 0 [.ref 23] [] σ :=
  zwp1_ok (code := zc_72) (cuts := []) rfl 400 h
set_option maxRecDepth 100000 in
theorem k_73_0_i14 {d : Nat} {Q : Int32 → zS → Prop}  {σ : zS} (h : (ZC d 72 [.ref 14] σ (fun v2 s1 => Q (v2 &&& ((s1 17 5) ^^^ (-1))) s1))) : Z d 73 Q 0 [.ref 14] [] σ :=
  zwp1_ok (code := zc_73) (cuts := []) rfl 400 h
set_option maxRecDepth 100000 in
theorem k_73_0_i23 {d : Nat} {Q : Int32 → zS → Prop}  {σ : zS} (h : (ZC d 72 [.ref 23] σ (fun v2 s1 => Q (v2 &&& ((s1 26 5) ^^^ (-1))) s1))) : Z d 73 Q 0 [.ref 23] [] σ :=
  zwp1_ok (code := zc_73) (cuts := []) rfl 400 h
set_option maxRecDepth 100000 in
theorem k_74_0_i14 {d : Nat} {Q : Int32 → zS → Prop} {x1 : Int32} {σ : zS} (h : (if x1 < 0 then Q 0 σ else (if x1 < 9 then (if zin x1 9 = true then (ZC d 72 [.ref 14] σ (fun v2 s1 => (ZC d 131 [.int x1] s1 (fun v4 s3 => Q (((σ 16 (Int32.toNatClampNeg x1)) &&& v2) &&& (v4 ^^^ (-1))) s3)))) else False) else Q 0 σ))) : Z d 74 Q 0 [.ref 14, .int x1] [] σ :=
  zwp1_ok (code := zc_74) (cuts := []) rfl 400 h
set_option maxRecDepth 100000 in
theorem k_74_0_i23 {d : Nat} {Q : Int32 → zS → Prop} {x1 : Int32} {σ : zS} (h : (if x1 < 0 then Q 0 σ else (if x1 < 9 then (if zin x1 9 = true then (ZC d 72 [.ref 23] σ (fun v2 s1 => (ZC d 131 [.int x1] s1 (fun v4 s3 => Q (((σ 25 (Int32.toNatClampNeg x1)) &&& v2) &&& (v4 ^^^ (-1))) s3)))) else False) else Q 0 σ))) : Z d 74 Q 0 [.ref 23, .int x1] [] σ :=
  zwp1_ok (code := zc_74) (cuts := []) rfl 400 h
set_option maxRecDepth 100000 in
theorem k_75_0_i14 {d : Nat} {Q : Int32 → zS → Prop} {x1 : Int32} {σ : zS} (h : Z d 75 Q 4 [.ref 14, .int x1, .int 0, .int 0] [] σ) : Z d 75 Q 0 [.ref 14, .int x1, (.retAddr 0), (.retAddr 0)] [] σ :=
  zwp1_ok (code := zc_75) (cuts := [4]) rfl 400 h
set_option maxRecDepth 100000 in
theorem k_75_4_i14 {d : Nat} {Q : Int32 → zS → Prop} {x1 x2 x3 : Int32} {σ : zS} (h : (if x3 < (σ 14 3) then (ZC d 132 [.int x1, .int x3] σ (fun v2 s1 => (if v2 = 0 then Z d 75 Q 4 [.ref 14, .int x1, .int (x2 ||| 0), .int (x3 + 1)] [] s1 else (ZC d 74 [.ref 14, .int x3] s1 (fun v4 s3 => Z d 75 Q 4 [.ref 14, .int x1, .int (x2 ||| v4), .int (x3 + 1)] [] s3))))) else Q x2 σ)) : Z d 75 Q 4 [.ref 14, .int x1, .int x2, .int x3] [] σ :=
  zwp1_ok (code := zc_75) (cuts := [4]) rfl 400 h
set_option maxRecDepth 100000 in
theorem k_75_0_i23 {d : Nat} {Q : Int32 → zS → Prop} {x1 : Int32} {σ : zS} (h : Z d 75 Q 4 [.ref 23, .int x1, .int 0, .int 0] [] σ) : Z d 75 Q 0 [.ref 23, .int x1, (.retAddr 0), (.retAddr 0)] [] σ :=
  zwp1_ok (code := zc_75) (cuts := [4]) rfl 400 h
set_option maxRecDepth 100000 in
theorem k_75_4_i23 {d : Nat} {Q : Int32 → zS → Prop} {x1 x2 x3 : Int32} {σ : zS} (h : (if x3 < (σ 23 3) then (ZC d 132 [.int x1, .int x3] σ (fun v2 s1 => (if v2 = 0 then Z d 75 Q 4 [.ref 23, .int x1, .int (x2 ||| 0), .int (x3 + 1)] [] s1 else (ZC d 74 [.ref 23, .int x3] s1 (fun v4 s3 => Z d 75 Q 4 [.ref 23, .int x1, .int (x2 ||| v4), .int (x3 + 1)] [] s3))))) else Q x2 σ)) : Z d 75 Q 4 [.ref 23, .int x1, .int x2, .int x3] [] σ :=
  zwp1_ok (code := zc_75) (cuts := [4]) rfl 400 h
set_option maxRecDepth 100000 in
theorem k_76_0 {d : Nat} {Q : Int32 → zS → Prop} {x1 : Int32} {σ : zS} (h : Z d 76 Q 4 [.ref 14, .int x1, .int 0, .int 0] [] σ) : Z d 76 Q 0 [.ref 14, .int x1, (.retAddr 0), (.retAddr 0)] [] σ :=
  zwp1_ok (code := zc_76) (cuts := [4]) rfl 400 h
set_option maxRecDepth 100000 in
theorem k_76_4 {d : Nat} {Q : Int32 → zS → Prop} {x1 x2 x3 : Int32} {σ : zS} (h : (if x3 < (σ 14 3) then (ZC d 74 [.ref 14, .int x3] σ (fun v2 s1 => (if (v2 &&& x1) = 0 then Z d 76 Q 4 [.ref 14, .int x1, .int (x2 ||| 0), .int (x3 + 1)] [] s1 else (ZC d 131 [.int x3] s1 (fun v4 s3 => Z d 76 Q 4 [.ref 14, .int x1, .int (x2 ||| v4), .int (x3 + 1)] [] s3))))) else Q (x2 &&& ((σ 17 5) ^^^ (-1))) σ)) : Z d 76 Q 4 [.ref 14, .int x1, .int x2, .int x3] [] σ :=
  zwp1_ok (code := zc_76) (cuts := [4]) rfl 400 h
set_option maxRecDepth 100000 in
theorem k_77_0_i14 {d : Nat} {Q : Int32 → zS → Prop} {x1 : Int32} {σ : zS} (h : (ZC d 78 [.ref 14, .int x1] σ (fun _ s1 => (ZC d 79 [.ref 14] s1 (fun _ s3 => (if x1 = 0 then (if (zrem ((s3 17 6) + 1) 10) = 0 then Z d 77 Q 41 [.ref 14, .int x1, .int 0] [] (zup s3 17 6 ((s3 17 6) + 1)) else Q 0 (zup s3 17 6 ((s3 17 6) + 1))) else Q 0 (zup s3 17 6 ((s3 17 6) + 1)))))))) : Z d 77 Q 0 [.ref 14, .int x1, (.retAddr 0)] [] σ :=
  zwp1_ok (code := zc_77) (cuts := [41]) rfl 400 h
set_option maxRecDepth 100000 in
theorem k_77_41_i14 {d : Nat} {Q : Int32 → zS → Prop} {x1 x2 : Int32} {σ : zS} (h : (if x2 < (σ 14 3) then (ZC d 33 [.ref 17, .int x2, .int 1] σ (fun _ s1 => Z d 77 Q 41 [.ref 14, .int x1, .int (x2 + 1)] [] s1)) else Q 0 σ)) : Z d 77 Q 41 [.ref 14, .int x1, .int x2] [] σ :=
  zwp1_ok (code := zc_77) (cuts := [41]) rfl 400 h
set_option maxRecDepth 100000 in
theorem k_77_0_i23 {d : Nat} {Q : Int32 → zS → Prop} {x1 : Int32} {σ : zS} (h : (ZC d 78 [.ref 23, .int x1] σ (fun _ s1 => (ZC d 79 [.ref 23] s1 (fun _ s3 => (if x1 = 0 then (if (zrem ((s3 26 6) + 1) 10) = 0 then Z d 77 Q 41 [.ref 23, .int x1, .int 0] [] (zup s3 26 6 ((s3 26 6) + 1)) else Q 0 (zup s3 26 6 ((s3 26 6) + 1))) else Q 0 (zup s3 26 6 ((s3 26 6) + 1)))))))) : Z d 77 Q 0 [.ref 23, .int x1, (.retAddr 0)] [] σ :=
  zwp1_ok (code := zc_77) (cuts := [41]) rfl 400 h
set_option maxRecDepth 100000 in
theorem k_77_41_i23 {d : Nat} {Q : Int32 → zS → Prop} {x1 x2 : Int32} {σ : zS} (h : (if x2 < (σ 23 3) then (ZC d 33 [.ref 26, .int x2, .int 1] σ (fun _ s1 => Z d 77 Q 41 [.ref 23, .int x1, .int (x2 + 1)] [] s1)) else Q 0 σ)) : Z d 77 Q 41 [.ref 23, .int x1, .int x2] [] σ :=
  zwp1_ok (code := zc_77) (cuts := [41]) rfl 400 h
set_option maxRecDepth 100000 in
theorem k_78_0_i14 {d : Nat} {Q : Int32 → zS → Prop} {x1 : Int32} {σ : zS} (h : Z d 78 Q 12 [.ref 14, .int x1, .int 0, (.retAddr 0)] [] (zup (zup σ 14 4 0) 14 5 0)) : Z d 78 Q 0 [.ref 14, .int x1, (.retAddr 0), (.retAddr 0)] [] σ :=
  zwp1_ok (code := zc_78) (cuts := [12]) rfl 400 h
set_option maxRecDepth 100000 in
theorem k_78_12_i14 {d : Nat} {Q : Int32 → zS → Prop} {x1 x2 : Int32} {xw3 : Value} {σ : zS} (h : (if x2 < (σ 14 3) then (if x1 = 0 then (if zin x2 9 = true then (if (σ 18 (Int32.toNatClampNeg x2)) = 9 then (if zin x2 9 = true then (if (σ 20 (Int32.toNatClampNeg x2)) = (-1) then (ZC d 132 [.int (σ 17 5), .int x2] σ (fun v2 s1 => (if v2 = 0 then (ZC d 131 [.int x2] s1 (fun v4 s3 => (ZC d 131 [.int x2] (zup s3 14 4 ((s1 14 4) ||| v4)) (fun v6 s5 => (if zin x2 9 = true then (if zin x2 9 = true then (ZC d 28 [.ref 17, .int x2] (zup (zup s5 14 5 ((s3 14 5) ||| ((s3 17 4) &&& v6))) 22 (Int32.toNatClampNeg x2) (s5 21 (Int32.toNatClampNeg x2))) (fun _ s7 => (if zin x2 9 = true then (if zin x2 9 = true then (if x1 = 0 then (ZC d 33 [.ref 17, .int x2, .int (-1)] (zup s7 19 (Int32.toNatClampNeg x2) ((s7 19 (Int32.toNatClampNeg x2)) + 1)) (fun _ s9 => Z d 78 Q 12 [.ref 14, .int x1, .int (x2 + 1), .int 1] [] s9)) else (ZC d 33 [.ref 17, .int x2, .int 0] (zup s7 19 (Int32.toNatClampNeg x2) ((s7 19 (Int32.toNatClampNeg x2)) + 1)) (fun _ s11 => Z d 78 Q 12 [.ref 14, .int x1, .int (x2 + 1), .int 1] [] s11))) else False) else False))) else False) else False))))) else Z d 78 Q 12 [.ref 14, .int x1, .int (x2 + 1), .int 1] [] s1))) else (ZC d 132 [.int (σ 17 5), .int x2] σ (fun v14 s13 => (if v14 = 0 then (if zin x2 9 = true then (if (s13 20 (Int32.toNatClampNeg x2)) = (s13 17 6) then (ZC d 131 [.int x2] s13 (fun v16 s15 => (ZC d 131 [.int x2] (zup s15 14 4 ((s13 14 4) ||| v16)) (fun v18 s17 => (if zin x2 9 = true then (if zin x2 9 = true then (ZC d 28 [.ref 17, .int x2] (zup (zup s17 14 5 ((s15 14 5) ||| ((s15 17 4) &&& v18))) 22 (Int32.toNatClampNeg x2) (s17 21 (Int32.toNatClampNeg x2))) (fun _ s19 => (if zin x2 9 = true then (if zin x2 9 = true then (if x1 = 0 then (ZC d 33 [.ref 17, .int x2, .int (-1)] (zup s19 19 (Int32.toNatClampNeg x2) ((s19 19 (Int32.toNatClampNeg x2)) + 1)) (fun _ s21 => Z d 78 Q 12 [.ref 14, .int x1, .int (x2 + 1), .int 0] [] s21)) else (ZC d 33 [.ref 17, .int x2, .int 0] (zup s19 19 (Int32.toNatClampNeg x2) ((s19 19 (Int32.toNatClampNeg x2)) + 1)) (fun _ s23 => Z d 78 Q 12 [.ref 14, .int x1, .int (x2 + 1), .int 0] [] s23))) else False) else False))) else False) else False))))) else Z d 78 Q 12 [.ref 14, .int x1, .int (x2 + 1), .int 0] [] s13) else False) else Z d 78 Q 12 [.ref 14, .int x1, .int (x2 + 1), .int 0] [] s13)))) else False) else (ZC d 132 [.int (σ 17 5), .int x2] σ (fun v26 s25 => (if v26 = 0 then (if zin x2 9 = true then (if (s25 20 (Int32.toNatClampNeg x2)) = (s25 17 6) then (ZC d 131 [.int x2] s25 (fun v28 s27 => (ZC d 131 [.int x2] (zup s27 14 4 ((s25 14 4) ||| v28)) (fun v30 s29 => (if zin x2 9 = true then (if zin x2 9 = true then (ZC d 28 [.ref 17, .int x2] (zup (zup s29 14 5 ((s27 14 5) ||| ((s27 17 4) &&& v30))) 22 (Int32.toNatClampNeg x2) (s29 21 (Int32.toNatClampNeg x2))) (fun _ s31 => (if zin x2 9 = true then (if zin x2 9 = true then (if x1 = 0 then (ZC d 33 [.ref 17, .int x2, .int (-1)] (zup s31 19 (Int32.toNatClampNeg x2) ((s31 19 (Int32.toNatClampNeg x2)) + 1)) (fun _ s33 => Z d 78 Q 12 [.ref 14, .int x1, .int (x2 + 1), .int 0] [] s33)) else (ZC d 33 [.ref 17, .int x2, .int 0] (zup s31 19 (Int32.toNatClampNeg x2) ((s31 19 (Int32.toNatClampNeg x2)) + 1)) (fun _ s35 => Z d 78 Q 12 [.ref 14, .int x1, .int (x2 + 1), .int 0] [] s35))) else False) else False))) else False) else False))))) else Z d 78 Q 12 [.ref 14, .int x1, .int (x2 + 1), .int 0] [] s25) else False) else Z d 78 Q 12 [.ref 14, .int x1, .int (x2 + 1), .int 0] [] s25)))) else False) else (ZC d 132 [.int (σ 17 5), .int x2] σ (fun v38 s37 => (if v38 = 0 then (if zin x2 9 = true then (if (s37 20 (Int32.toNatClampNeg x2)) = (s37 17 6) then (ZC d 131 [.int x2] s37 (fun v40 s39 => (ZC d 131 [.int x2] (zup s39 14 4 ((s37 14 4) ||| v40)) (fun v42 s41 => (if zin x2 9 = true then (if zin x2 9 = true then (ZC d 28 [.ref 17, .int x2] (zup (zup s41 14 5 ((s39 14 5) ||| ((s39 17 4) &&& v42))) 22 (Int32.toNatClampNeg x2) (s41 21 (Int32.toNatClampNeg x2))) (fun _ s43 => (if zin x2 9 = true then (if zin x2 9 = true then (if x1 = 0 then (ZC d 33 [.ref 17, .int x2, .int (-1)] (zup s43 19 (Int32.toNatClampNeg x2) ((s43 19 (Int32.toNatClampNeg x2)) + 1)) (fun _ s45 => Z d 78 Q 12 [.ref 14, .int x1, .int (x2 + 1), .int 0] [] s45)) else (ZC d 33 [.ref 17, .int x2, .int 0] (zup s43 19 (Int32.toNatClampNeg x2) ((s43 19 (Int32.toNatClampNeg x2)) + 1)) (fun _ s47 => Z d 78 Q 12 [.ref 14, .int x1, .int (x2 + 1), .int 0] [] s47))) else False) else False))) else False) else False))))) else Z d 78 Q 12 [.ref 14, .int x1, .int (x2 + 1), .int 0] [] s37) else False) else Z d 78 Q 12 [.ref 14, .int x1, .int (x2 + 1), .int 0] [] s37)))) else Q 0 σ)) : Z d 78 Q 12 [.ref 14, .int x1, .int x2, xw3] [] σ :=
  zwp1_ok (code := zc_78) (cuts := [12]) rfl 400 h
set_option maxRecDepth 100000 in
theorem k_78_0_i23 {d : Nat} {Q : Int32 → zS → Prop} {x1 : Int32} {σ : zS} (h : Z d 78 Q 12 [.ref 23, .int x1, .int 0, (.retAddr 0)] [] (zup (zup σ 23 4 0) 23 5 0)) : Z d 78 Q 0 [.ref 23, .int x1, (.retAddr 0), (.retAddr 0)] [] σ :=
  zwp1_ok (code := zc_78) (cuts := [12]) rfl 400 h
set_option maxRecDepth 100000 in
theorem k_78_12_i23 {d : Nat} {Q : Int32 → zS → Prop} {x1 x2 : Int32} {xw3 : Value} {σ : zS} (h : (if x2 < (σ 23 3) then (if x1 = 0 then (if zin x2 9 = true then (if (σ 27 (Int32.toNatClampNeg x2)) = 9 then (if zin x2 9 = true then (if (σ 29 (Int32.toNatClampNeg x2)) = (-1) then (ZC d 132 [.int (σ 26 5), .int x2] σ (fun v2 s1 => (if v2 = 0 then (ZC d 131 [.int x2] s1 (fun v4 s3 => (ZC d 131 [.int x2] (zup s3 23 4 ((s1 23 4) ||| v4)) (fun v6 s5 => (if zin x2 9 = true then (if zin x2 9 = true then (ZC d 28 [.ref 26, .int x2] (zup (zup s5 23 5 ((s3 23 5) ||| ((s3 26 4) &&& v6))) 31 (Int32.toNatClampNeg x2) (s5 30 (Int32.toNatClampNeg x2))) (fun _ s7 => (if zin x2 9 = true then (if zin x2 9 = true then (if x1 = 0 then (ZC d 33 [.ref 26, .int x2, .int (-1)] (zup s7 28 (Int32.toNatClampNeg x2) ((s7 28 (Int32.toNatClampNeg x2)) + 1)) (fun _ s9 => Z d 78 Q 12 [.ref 23, .int x1, .int (x2 + 1), .int 1] [] s9)) else (ZC d 33 [.ref 26, .int x2, .int 0] (zup s7 28 (Int32.toNatClampNeg x2) ((s7 28 (Int32.toNatClampNeg x2)) + 1)) (fun _ s11 => Z d 78 Q 12 [.ref 23, .int x1, .int (x2 + 1), .int 1] [] s11))) else False) else False))) else False) else False))))) else Z d 78 Q 12 [.ref 23, .int x1, .int (x2 + 1), .int 1] [] s1))) else (ZC d 132 [.int (σ 26 5), .int x2] σ (fun v14 s13 => (if v14 = 0 then (if zin x2 9 = true then (if (s13 29 (Int32.toNatClampNeg x2)) = (s13 26 6) then (ZC d 131 [.int x2] s13 (fun v16 s15 => (ZC d 131 [.int x2] (zup s15 23 4 ((s13 23 4) ||| v16)) (fun v18 s17 => (if zin x2 9 = true then (if zin x2 9 = true then (ZC d 28 [.ref 26, .int x2] (zup (zup s17 23 5 ((s15 23 5) ||| ((s15 26 4) &&& v18))) 31 (Int32.toNatClampNeg x2) (s17 30 (Int32.toNatClampNeg x2))) (fun _ s19 => (if zin x2 9 = true then (if zin x2 9 = true then (if x1 = 0 then (ZC d 33 [.ref 26, .int x2, .int (-1)] (zup s19 28 (Int32.toNatClampNeg x2) ((s19 28 (Int32.toNatClampNeg x2)) + 1)) (fun _ s21 => Z d 78 Q 12 [.ref 23, .int x1, .int (x2 + 1), .int 0] [] s21)) else (ZC d 33 [.ref 26, .int x2, .int 0] (zup s19 28 (Int32.toNatClampNeg x2) ((s19 28 (Int32.toNatClampNeg x2)) + 1)) (fun _ s23 => Z d 78 Q 12 [.ref 23, .int x1, .int (x2 + 1), .int 0] [] s23))) else False) else False))) else False) else False))))) else Z d 78 Q 12 [.ref 23, .int x1, .int (x2 + 1), .int 0] [] s13) else False) else Z d 78 Q 12 [.ref 23, .int x1, .int (x2 + 1), .int 0] [] s13)))) else False) else (ZC d 132 [.int (σ 26 5), .int x2] σ (fun v26 s25 => (if v26 = 0 then (if zin x2 9 = true then (if (s25 29 (Int32.toNatClampNeg x2)) = (s25 26 6) then (ZC d 131 [.int x2] s25 (fun v28 s27 => (ZC d 131 [.int x2] (zup s27 23 4 ((s25 23 4) ||| v28)) (fun v30 s29 => (if zin x2 9 = true then (if zin x2 9 = true then (ZC d 28 [.ref 26, .int x2] (zup (zup s29 23 5 ((s27 23 5) ||| ((s27 26 4) &&& v30))) 31 (Int32.toNatClampNeg x2) (s29 30 (Int32.toNatClampNeg x2))) (fun _ s31 => (if zin x2 9 = true then (if zin x2 9 = true then (if x1 = 0 then (ZC d 33 [.ref 26, .int x2, .int (-1)] (zup s31 28 (Int32.toNatClampNeg x2) ((s31 28 (Int32.toNatClampNeg x2)) + 1)) (fun _ s33 => Z d 78 Q 12 [.ref 23, .int x1, .int (x2 + 1), .int 0] [] s33)) else (ZC d 33 [.ref 26, .int x2, .int 0] (zup s31 28 (Int32.toNatClampNeg x2) ((s31 28 (Int32.toNatClampNeg x2)) + 1)) (fun _ s35 => Z d 78 Q 12 [.ref 23, .int x1, .int (x2 + 1), .int 0] [] s35))) else False) else False))) else False) else False))))) else Z d 78 Q 12 [.ref 23, .int x1, .int (x2 + 1), .int 0] [] s25) else False) else Z d 78 Q 12 [.ref 23, .int x1, .int (x2 + 1), .int 0] [] s25)))) else False) else (ZC d 132 [.int (σ 26 5), .int x2] σ (fun v38 s37 => (if v38 = 0 then (if zin x2 9 = true then (if (s37 29 (Int32.toNatClampNeg x2)) = (s37 26 6) then (ZC d 131 [.int x2] s37 (fun v40 s39 => (ZC d 131 [.int x2] (zup s39 23 4 ((s37 23 4) ||| v40)) (fun v42 s41 => (if zin x2 9 = true then (if zin x2 9 = true then (ZC d 28 [.ref 26, .int x2] (zup (zup s41 23 5 ((s39 23 5) ||| ((s39 26 4) &&& v42))) 31 (Int32.toNatClampNeg x2) (s41 30 (Int32.toNatClampNeg x2))) (fun _ s43 => (if zin x2 9 = true then (if zin x2 9 = true then (if x1 = 0 then (ZC d 33 [.ref 26, .int x2, .int (-1)] (zup s43 28 (Int32.toNatClampNeg x2) ((s43 28 (Int32.toNatClampNeg x2)) + 1)) (fun _ s45 => Z d 78 Q 12 [.ref 23, .int x1, .int (x2 + 1), .int 0] [] s45)) else (ZC d 33 [.ref 26, .int x2, .int 0] (zup s43 28 (Int32.toNatClampNeg x2) ((s43 28 (Int32.toNatClampNeg x2)) + 1)) (fun _ s47 => Z d 78 Q 12 [.ref 23, .int x1, .int (x2 + 1), .int 0] [] s47))) else False) else False))) else False) else False))))) else Z d 78 Q 12 [.ref 23, .int x1, .int (x2 + 1), .int 0] [] s37) else False) else Z d 78 Q 12 [.ref 23, .int x1, .int (x2 + 1), .int 0] [] s37)))) else Q 0 σ)) : Z d 78 Q 12 [.ref 23, .int x1, .int x2, xw3] [] σ :=
  zwp1_ok (code := zc_78) (cuts := [12]) rfl 400 h
set_option maxRecDepth 100000 in
theorem k_79_0_i14 {d : Nat} {Q : Int32 → zS → Prop}  {σ : zS} (h : (if (σ 14 4) = 0 then Z d 79 Q 30 [.ref 14, .int 0, .int 0, (.retAddr 0), (.retAddr 0)] [] (zup σ 14 6 0) else (ZC d 73 [.ref 14] (zup σ 14 6 0) (fun v2 s1 => Z d 79 Q 30 [.ref 14, .int (v2 &&& ((s1 14 4) ^^^ (-1))), .int 0, (.retAddr 0), (.retAddr 0)] [] s1)))) : Z d 79 Q 0 [.ref 14, (.retAddr 0), (.retAddr 0), (.retAddr 0), (.retAddr 0)] [] σ :=
  zwp1_ok (code := zc_79) (cuts := [30]) rfl 400 h
set_option maxRecDepth 100000 in
theorem k_79_30_i14 {d : Nat} {Q : Int32 → zS → Prop} {x1 x2 : Int32} {xw3 xw4 : Value} {σ : zS} (h : (if x2 < (σ 14 3) then (ZC d 132 [.int x1, .int x2] σ (fun v2 s1 => (if v2 = 0 then Z d 79 Q 30 [.ref 14, .int x1, .int (x2 + 1), .int 0, xw4] [] s1 else (ZC d 74 [.ref 14, .int x2] s1 (fun v4 s3 => (if (v4 &&& (s3 14 4)) = 0 then Z d 79 Q 30 [.ref 14, .int x1, .int (x2 + 1), .int (v4 &&& (s3 14 4)), xw4] [] s3 else (if zin x2 9 = true then (if (s3 20 (Int32.toNatClampNeg x2)) = (-1) then (ZC d 80 [.ref 14, .int x2, .int (v4 &&& (s3 14 4))] s3 (fun v6 s5 => (if v6 = (-1) then Z d 79 Q 30 [.ref 14, .int x1, .int (x2 + 1), .int (v4 &&& (s3 14 4)), .int v6] [] s5 else (if zin x2 9 = true then (ZC d 27 [.ref 17, .int x2, .int ((s5 17 6) + (s5 15 (Int32.toNatClampNeg x2))), .int v6, .int 0] s5 (fun _ s7 => (ZC d 131 [.int x2] s7 (fun v10 s9 => Z d 79 Q 30 [.ref 14, .int x1, .int (x2 + 1), .int (v4 &&& (s3 14 4)), .int v6] [] (zup s9 14 6 ((s7 14 6) ||| v10)))))) else False)))) else Z d 79 Q 30 [.ref 14, .int x1, .int (x2 + 1), .int (v4 &&& (s3 14 4)), xw4] [] s3) else False))))))) else Q 0 σ)) : Z d 79 Q 30 [.ref 14, .int x1, .int x2, xw3, xw4] [] σ :=
  zwp1_ok (code := zc_79) (cuts := [30]) rfl 400 h
set_option maxRecDepth 100000 in
theorem k_79_0_i23 {d : Nat} {Q : Int32 → zS → Prop}  {σ : zS} (h : (if (σ 23 4) = 0 then Z d 79 Q 30 [.ref 23, .int 0, .int 0, (.retAddr 0), (.retAddr 0)] [] (zup σ 23 6 0) else (ZC d 73 [.ref 23] (zup σ 23 6 0) (fun v2 s1 => Z d 79 Q 30 [.ref 23, .int (v2 &&& ((s1 23 4) ^^^ (-1))), .int 0, (.retAddr 0), (.retAddr 0)] [] s1)))) : Z d 79 Q 0 [.ref 23, (.retAddr 0), (.retAddr 0), (.retAddr 0), (.retAddr 0)] [] σ :=
  zwp1_ok (code := zc_79) (cuts := [30]) rfl 400 h
set_option maxRecDepth 100000 in
theorem k_79_30_i23 {d : Nat} {Q : Int32 → zS → Prop} {x1 x2 : Int32} {xw3 xw4 : Value} {σ : zS} (h : (if x2 < (σ 23 3) then (ZC d 132 [.int x1, .int x2] σ (fun v2 s1 => (if v2 = 0 then Z d 79 Q 30 [.ref 23, .int x1, .int (x2 + 1), .int 0, xw4] [] s1 else (ZC d 74 [.ref 23, .int x2] s1 (fun v4 s3 => (if (v4 &&& (s3 23 4)) = 0 then Z d 79 Q 30 [.ref 23, .int x1, .int (x2 + 1), .int (v4 &&& (s3 23 4)), xw4] [] s3 else (if zin x2 9 = true then (if (s3 29 (Int32.toNatClampNeg x2)) = (-1) then (ZC d 80 [.ref 23, .int x2, .int (v4 &&& (s3 23 4))] s3 (fun v6 s5 => (if v6 = (-1) then Z d 79 Q 30 [.ref 23, .int x1, .int (x2 + 1), .int (v4 &&& (s3 23 4)), .int v6] [] s5 else (if zin x2 9 = true then (ZC d 27 [.ref 26, .int x2, .int ((s5 26 6) + (s5 24 (Int32.toNatClampNeg x2))), .int v6, .int 0] s5 (fun _ s7 => (ZC d 131 [.int x2] s7 (fun v10 s9 => Z d 79 Q 30 [.ref 23, .int x1, .int (x2 + 1), .int (v4 &&& (s3 23 4)), .int v6] [] (zup s9 23 6 ((s7 23 6) ||| v10)))))) else False)))) else Z d 79 Q 30 [.ref 23, .int x1, .int (x2 + 1), .int (v4 &&& (s3 23 4)), xw4] [] s3) else False))))))) else Q 0 σ)) : Z d 79 Q 30 [.ref 23, .int x1, .int x2, xw3, xw4] [] σ :=
  zwp1_ok (code := zc_79) (cuts := [30]) rfl 400 h
set_option maxRecDepth 100000 in
theorem k_80_0_i14 {d : Nat} {Q : Int32 → zS → Prop} {x1 x2 : Int32} {σ : zS} (h : (if zin x1 9 = true then (if zin x1 9 = true then (ZC d 0 [.int x2] (zup (zup σ 4 0 (σ 18 (Int32.toNatClampNeg x1))) 4 2 (σ 19 (Int32.toNatClampNeg x1))) (fun v2 s1 => (ZC d 42 [.ref 3, .int (s1 17 6)] (zup s1 4 3 v2) (fun v4 s3 => Z d 80 Q 74 [.ref 14, .int x1, .int x2, .ref 4, .int 0] [] (zup (zup (zup s3 4 4 v4) 4 5 (s3 17 6)) 4 6 x1))))) else False) else False)) : Z d 80 Q 0 [.ref 14, .int x1, .int x2, (.retAddr 0), (.retAddr 0)] [] σ :=
  zwp1_ok (code := zc_80) (cuts := [74]) rfl 400 h
set_option maxRecDepth 100000 in
theorem k_80_74_i14 {d : Nat} {Q : Int32 → zS → Prop} {x1 x2 x4 : Int32} {σ : zS} (h : (if x4 < (σ 14 3) then (ZC d 132 [.int x2, .int x4] σ (fun v2 s1 => (if v2 = 0 then Z d 80 Q 74 [.ref 14, .int x1, .int x2, .ref 4, .int (x4 + 1)] [] s1 else (if zin x4 9 = true then (ZC d 132 [.int (s1 14 5), .int x4] (zup (zup s1 4 1 (s1 18 (Int32.toNatClampNeg x4))) 4 7 x4) (fun v4 s3 => (if v4 = 0 then (ZC d 43 [.ref 3] (zup s3 4 8 0) (fun v6 s5 => (if v6 = 0 then Z d 80 Q 74 [.ref 14, .int x1, .int x2, .ref 4, .int (x4 + 1)] [] s5 else Q x4 s5))) else (ZC d 43 [.ref 3] (zup s3 4 8 1) (fun v8 s7 => (if v8 = 0 then Z d 80 Q 74 [.ref 14, .int x1, .int x2, .ref 4, .int (x4 + 1)] [] s7 else Q x4 s7)))))) else False)))) else Q (-1) σ)) : Z d 80 Q 74 [.ref 14, .int x1, .int x2, .ref 4, .int x4] [] σ :=
  zwp1_ok (code := zc_80) (cuts := [74]) rfl 400 h
set_option maxRecDepth 100000 in
theorem k_80_0_i23 {d : Nat} {Q : Int32 → zS → Prop} {x1 x2 : Int32} {σ : zS} (h : (if zin x1 9 = true then (if zin x1 9 = true then (ZC d 0 [.int x2] (zup (zup σ 4 0 (σ 27 (Int32.toNatClampNeg x1))) 4 2 (σ 28 (Int32.toNatClampNeg x1))) (fun v2 s1 => (ZC d 42 [.ref 3, .int (s1 26 6)] (zup s1 4 3 v2) (fun v4 s3 => Z d 80 Q 74 [.ref 23, .int x1, .int x2, .ref 4, .int 0] [] (zup (zup (zup s3 4 4 v4) 4 5 (s3 26 6)) 4 6 x1))))) else False) else False)) : Z d 80 Q 0 [.ref 23, .int x1, .int x2, (.retAddr 0), (.retAddr 0)] [] σ :=
  zwp1_ok (code := zc_80) (cuts := [74]) rfl 400 h
set_option maxRecDepth 100000 in
theorem k_80_74_i23 {d : Nat} {Q : Int32 → zS → Prop} {x1 x2 x4 : Int32} {σ : zS} (h : (if x4 < (σ 23 3) then (ZC d 132 [.int x2, .int x4] σ (fun v2 s1 => (if v2 = 0 then Z d 80 Q 74 [.ref 23, .int x1, .int x2, .ref 4, .int (x4 + 1)] [] s1 else (if zin x4 9 = true then (ZC d 132 [.int (s1 23 5), .int x4] (zup (zup s1 4 1 (s1 27 (Int32.toNatClampNeg x4))) 4 7 x4) (fun v4 s3 => (if v4 = 0 then (ZC d 43 [.ref 3] (zup s3 4 8 0) (fun v6 s5 => (if v6 = 0 then Z d 80 Q 74 [.ref 23, .int x1, .int x2, .ref 4, .int (x4 + 1)] [] s5 else Q x4 s5))) else (ZC d 43 [.ref 3] (zup s3 4 8 1) (fun v8 s7 => (if v8 = 0 then Z d 80 Q 74 [.ref 23, .int x1, .int x2, .ref 4, .int (x4 + 1)] [] s7 else Q x4 s7)))))) else False)))) else Q (-1) σ)) : Z d 80 Q 74 [.ref 23, .int x1, .int x2, .ref 4, .int x4] [] σ :=
  zwp1_ok (code := zc_80) (cuts := [74]) rfl 400 h
set_option maxRecDepth 100000 in
theorem k_82_0 {d : Nat} {Q : Int32 → zS → Prop} {x1 : Int32} {σ : zS} (h : (ZC d 59 [.ref 1, .int x1] σ (fun v2 s1 => (if v2 = 0 then Q (-1) s1 else Q (s1 1 1) s1)))) : Z d 82 Q 0 [.ref 0, .int x1] [] σ :=
  zwp1_ok (code := zc_82) (cuts := []) rfl 400 h
set_option maxRecDepth 100000 in
theorem k_83_0 {d : Nat} {Q : Int32 → zS → Prop} {x1 : Int32} {σ : zS} (h : (if x1 < 0 then Q 0 σ else (if (σ 1 1) < x1 then Q 0 σ else Q 1 (zup σ 1 1 x1)))) : Z d 83 Q 0 [.ref 0, .int x1] [] σ :=
  zwp1_ok (code := zc_83) (cuts := []) rfl 400 h
set_option maxRecDepth 100000 in
theorem k_84_0 {d : Nat} {Q : Int32 → zS → Prop}  {σ : zS} (h : (ZC d 60 [.ref 1, .int 76] σ (fun _ s1 => (ZC d 141 [.ref 0] s1 (fun v4 s3 => (if v4 = (-1) then (ZC d 62 [.ref 1, .int 0] s3 (fun v6 s5 => (if v6 = 0 then (ZC d 63 [.ref 1] s5 (fun v8 s7 => Q v8 s7)) else (if 0 < v4 then Q v4 (zup (zup s5 14 3 ((s5 14 3) + v4)) 37 0 0) else Q v4 s5)))) else (ZC d 62 [.ref 1, .int 1] s3 (fun v10 s9 => (if v10 = 0 then (ZC d 63 [.ref 1] s9 (fun v12 s11 => Q v12 s11)) else (if 0 < v4 then Q v4 (zup (zup s9 14 3 ((s9 14 3) + v4)) 37 0 0) else Q v4 s9)))))))))) : Z d 84 Q 0 [.ref 0, (.retAddr 0)] [] σ :=
  zwp1_ok (code := zc_84) (cuts := []) rfl 400 h
set_option maxRecDepth 100000 in
theorem k_85_0 {d : Nat} {Q : Int32 → zS → Prop}  {σ : zS} (h : (ZC d 60 [.ref 1, .int 40] σ (fun _ s1 => Z d 85 Q 11 [.ref 0, .int 0] [] s1))) : Z d 85 Q 0 [.ref 0, (.retAddr 0)] [] σ :=
  zwp1_ok (code := zc_85) (cuts := [11]) rfl 400 h
set_option maxRecDepth 100000 in
theorem k_85_11 {d : Nat} {Q : Int32 → zS → Prop} {x1 : Int32} {σ : zS} (h : (if x1 < 40 then (ZC d 67 [.ref 1, .int 0] σ (fun v2 s1 => (if v2 = (-1) then (ZC d 62 [.ref 1, .int 1] s1 (fun v4 s3 => (if v4 = 0 then (ZC d 63 [.ref 1] s3 (fun v6 s5 => Q v6 s5)) else (ZC d 41 [.ref 3, .ref 2, .int x1] s3 (fun _ s7 => Q x1 s7))))) else Z d 85 Q 11 [.ref 0, .int (x1 + 1)] [] s1))) else (ZC d 62 [.ref 1, .int 1] σ (fun v10 s9 => (if v10 = 0 then (ZC d 63 [.ref 1] s9 (fun v12 s11 => Q v12 s11)) else (ZC d 41 [.ref 3, .ref 2, .int x1] s9 (fun _ s13 => Q x1 s13))))))) : Z d 85 Q 11 [.ref 0, .int x1] [] σ :=
  zwp1_ok (code := zc_85) (cuts := [11]) rfl 400 h
set_option maxRecDepth 100000 in
theorem k_86_0 {d : Nat} {Q : Int32 → zS → Prop}  {σ : zS} (h : (ZC d 60 [.ref 1, .int 40] σ (fun _ s1 => (ZC d 61 [.ref 1] s1 (fun v4 s3 => (if v4 = 0 then (ZC d 46 [.ref 8] s3 (fun v6 s5 => (if v6 = 0 then (ZC d 62 [.ref 1, .int 0] s5 (fun v8 s7 => (if v8 = 0 then (ZC d 63 [.ref 1] s7 (fun v10 s9 => Q v10 s9)) else (if v4 = 0 then (ZC d 40 [.ref 3, .ref 8] s7 (fun _ s11 => Q 0 s11)) else (ZC d 39 [.ref 3] s7 (fun _ s13 => Q 0 s13)))))) else (ZC d 62 [.ref 1, .int 1] s5 (fun v16 s15 => (if v16 = 0 then (ZC d 63 [.ref 1] s15 (fun v18 s17 => Q v18 s17)) else (if v4 = 0 then (ZC d 40 [.ref 3, .ref 8] s15 (fun _ s19 => Q 0 s19)) else (ZC d 39 [.ref 3] s15 (fun _ s21 => Q 0 s21))))))))) else (ZC d 62 [.ref 1, .int 1] s3 (fun v24 s23 => (if v24 = 0 then (ZC d 63 [.ref 1] s23 (fun v26 s25 => Q v26 s25)) else (if v4 = 0 then (ZC d 40 [.ref 3, .ref 8] s23 (fun _ s27 => Q 0 s27)) else (ZC d 39 [.ref 3] s23 (fun _ s29 => Q 0 s29)))))))))))) : Z d 86 Q 0 [.ref 0, (.retAddr 0)] [] σ :=
  zwp1_ok (code := zc_86) (cuts := []) rfl 400 h
set_option maxRecDepth 100000 in
theorem k_87_0 {d : Nat} {Q : Int32 → zS → Prop} {x1 x2 : Int32} {σ : zS} (h : (ZC d 134 [.ref 0, .int x1] σ (fun v2 s1 => (if v2 = 0 then False else (if x2 < 0 then False else (if 7 < x2 then False else (if zin x1 9 = true then (if (s1 20 (Int32.toNatClampNeg x1)) = (-1) then (if x2 = 0 then (if zin x1 9 = true then Q (s1 18 (Int32.toNatClampNeg x1)) s1 else False) else (if x2 = 1 then (if zin x1 9 = true then Q (s1 15 (Int32.toNatClampNeg x1)) s1 else False) else (if x2 = 2 then (ZC d 74 [.ref 14, .int x1] s1 (fun v4 s3 => Q v4 s3)) else (if x2 = 3 then (if zin x1 9 = true then Q (s1 19 (Int32.toNatClampNeg x1)) s1 else False) else (if x2 = 4 then Q (-1) s1 else (if x2 = 5 then Q (-1) s1 else (if x2 = 6 then Q 0 s1 else (ZC d 132 [.int (s1 17 5), .int x1] s1 (fun v6 s5 => (if v6 = 0 then Q 0 s5 else Q 1 s5)))))))))) else (if x2 = 0 then (if zin x1 9 = true then Q (s1 18 (Int32.toNatClampNeg x1)) s1 else False) else (if x2 = 1 then (if zin x1 9 = true then Q (s1 15 (Int32.toNatClampNeg x1)) s1 else False) else (if x2 = 2 then (ZC d 74 [.ref 14, .int x1] s1 (fun v8 s7 => Q v8 s7)) else (if x2 = 3 then (if zin x1 9 = true then Q (s1 19 (Int32.toNatClampNeg x1)) s1 else False) else (if x2 = 4 then (if zin x1 9 = true then Q ((s1 20 (Int32.toNatClampNeg x1)) - (s1 17 6)) s1 else False) else (if x2 = 5 then (if zin x1 9 = true then Q (s1 21 (Int32.toNatClampNeg x1)) s1 else False) else (if x2 = 6 then (ZC d 132 [.int (s1 17 4), .int x1] s1 (fun v10 s9 => (if v10 = 0 then Q 0 s9 else Q 1 s9))) else (ZC d 132 [.int (s1 17 5), .int x1] s1 (fun v12 s11 => (if v12 = 0 then Q 0 s11 else Q 1 s11))))))))))) else False))))))) : Z d 87 Q 0 [.ref 0, .int x1, .int x2, (.retAddr 0), (.retAddr 0)] [] σ :=
  zwp1_ok (code := zc_87) (cuts := []) rfl 400 h
set_option maxRecDepth 100000 in
theorem k_88_0 {d : Nat} {Q : Int32 → zS → Prop} {x1 x2 x3 : Int32} {σ : zS} (h : (ZC d 134 [.ref 0, .int x1] σ (fun v2 s1 => (if v2 = 0 then Q (-1) s1 else (if x2 = 0 then (ZC d 133 [.int x3, .int 0, .int 9] s1 (fun v4 s3 => (if v4 = 0 then (if x2 = 1 then (ZC d 133 [.int x3, .int 1, .int 9] s3 (fun v6 s5 => (if v6 = 0 then (if x2 = 2 then (ZC d 133 [.int x3, .int 0, .int 511] s5 (fun v8 s7 => (if v8 = 0 then Q (-1) s7 else (ZC d 144 [.ref 16, .int x1, .int x3] s7 (fun v10 s9 => Q v10 s9))))) else Q (-1) s5) else (ZC d 144 [.ref 15, .int x1, .int x3] s5 (fun v12 s11 => Q v12 s11))))) else (if x2 = 2 then (ZC d 133 [.int x3, .int 0, .int 511] s3 (fun v14 s13 => (if v14 = 0 then Q (-1) s13 else (ZC d 144 [.ref 16, .int x1, .int x3] s13 (fun v16 s15 => Q v16 s15))))) else Q (-1) s3)) else (ZC d 144 [.ref 18, .int x1, .int x3] s3 (fun v18 s17 => Q v18 s17))))) else (if x2 = 1 then (ZC d 133 [.int x3, .int 1, .int 9] s1 (fun v20 s19 => (if v20 = 0 then (if x2 = 2 then (ZC d 133 [.int x3, .int 0, .int 511] s19 (fun v22 s21 => (if v22 = 0 then Q (-1) s21 else (ZC d 144 [.ref 16, .int x1, .int x3] s21 (fun v24 s23 => Q v24 s23))))) else Q (-1) s19) else (ZC d 144 [.ref 15, .int x1, .int x3] s19 (fun v26 s25 => Q v26 s25))))) else (if x2 = 2 then (ZC d 133 [.int x3, .int 0, .int 511] s1 (fun v28 s27 => (if v28 = 0 then Q (-1) s27 else (ZC d 144 [.ref 16, .int x1, .int x3] s27 (fun v30 s29 => Q v30 s29))))) else Q (-1) s1))))))) : Z d 88 Q 0 [.ref 0, .int x1, .int x2, .int x3] [] σ :=
  zwp1_ok (code := zc_88) (cuts := []) rfl 400 h
set_option maxRecDepth 100000 in
theorem k_89_0 {d : Nat} {Q : Int32 → zS → Prop} {x1 x2 x3 x4 : Int32} {σ : zS} (h : (ZC d 133 [.int x1, .int 0, .int 3] σ (fun v2 s1 => (if v2 = 0 then Q (-1) s1 else (if 9 < x2 then Q (-1) s1 else (if x1 = 3 then Z d 89 Q 47 [.ref 0, .int x1, .int x2, .int x3, .int x4, .int 1, .int x3, .int 0] [] s1 else (if x2 < 0 then Q (-2) s1 else Z d 89 Q 47 [.ref 0, .int x1, .int x2, .int x3, .int x4, .int 0, .int x3, .int 0] [] s1))))))) : Z d 89 Q 0 [.ref 0, .int x1, .int x2, .int x3, .int x4, (.retAddr 0), (.retAddr 0), (.retAddr 0)] [] σ :=
  zwp1_ok (code := zc_89) (cuts := [47]) rfl 400 h
set_option maxRecDepth 100000 in
theorem k_89_47 {d : Nat} {Q : Int32 → zS → Prop} {x1 x2 x3 x4 x5 x6 x7 : Int32} {σ : zS} (h : (if x7 < (σ 14 3) then (if x5 = 0 then (if x7 < x2 then (ZC d 145 [.int x1, .int x6] σ (fun v2 s1 => (if zin x7 9 = true then Z d 89 Q 47 [.ref 0, .int x1, .int x2, .int x3, .int x4, .int x5, .int (x6 + x4), .int (x7 + 1)] [] (zup s1 18 (Int32.toNatClampNeg x7) v2) else False))) else (if zin x7 9 = true then Z d 89 Q 47 [.ref 0, .int x1, .int x2, .int x3, .int x4, .int x5, .int (x6 + x4), .int (x7 + 1)] [] (zup σ 18 (Int32.toNatClampNeg x7) 0) else False)) else (if zin x7 9 = true then Z d 89 Q 47 [.ref 0, .int x1, .int x2, .int x3, .int x4, .int x5, .int (x6 + x4), .int (x7 + 1)] [] (zup σ 18 (Int32.toNatClampNeg x7) 0) else False)) else (if x5 = 0 then (ZC d 146 [.ref 0] σ (fun v4 s3 => Q v4 s3)) else Q (-3) σ))) : Z d 89 Q 47 [.ref 0, .int x1, .int x2, .int x3, .int x4, .int x5, .int x6, .int x7] [] σ :=
  zwp1_ok (code := zc_89) (cuts := [47]) rfl 400 h
set_option maxRecDepth 100000 in
theorem k_90_0 {d : Nat} {Q : Int32 → zS → Prop} {x1 : Int32} {σ : zS} (h : (if x1 < 0 then Q (-1) σ else (ZC d 72 [.ref 14] σ (fun v2 s1 => (if (x1 &&& (v2 ^^^ (-1))) = 0 then (ZC d 75 [.ref 14, .int x1] (zup s1 0 13 x1) (fun v4 s3 => (ZC d 0 [.int v4] s3 (fun v6 s5 => Q v6 s5)))) else Q (-1) s1))))) : Z d 90 Q 0 [.ref 0, .int x1] [] σ :=
  zwp1_ok (code := zc_90) (cuts := []) rfl 400 h
set_option maxRecDepth 100000 in
theorem k_91_0 {d : Nat} {Q : Int32 → zS → Prop} {x1 x2 : Int32} {σ : zS} (h : (ZC d 133 [.int x2, .int 0, .int 1] σ (fun v2 s1 => (if v2 = 0 then Q 0 s1 else (ZC d 136 [.ref 0, .int x1] s1 (fun v4 s3 => (if v4 = 0 then Q 0 s3 else (ZC d 137 [.ref 0] s3 (fun _ s5 => (ZC d 27 [.ref 17, .int x1, .int (s5 17 6), .int (-1), .int x2] s5 (fun _ s7 => Q 1 s7))))))))))) : Z d 91 Q 0 [.ref 0, .int x1, .int x2] [] σ :=
  zwp1_ok (code := zc_91) (cuts := []) rfl 400 h
set_option maxRecDepth 100000 in
theorem k_92_0 {d : Nat} {Q : Int32 → zS → Prop} {x1 : Int32} {σ : zS} (h : (ZC d 134 [.ref 0, .int x1] σ (fun v2 s1 => (if v2 = 0 then Q (-1) s1 else (ZC d 137 [.ref 0] s1 (fun _ s3 => (ZC d 31 [.ref 17, .int x1] s3 (fun _ s5 => (ZC d 0 [.int (s5 17 5)] s5 (fun v8 s7 => Q v8 s7)))))))))) : Z d 92 Q 0 [.ref 0, .int x1] [] σ :=
  zwp1_ok (code := zc_92) (cuts := []) rfl 400 h
set_option maxRecDepth 100000 in
theorem k_93_0 {d : Nat} {Q : Int32 → zS → Prop} {x1 x2 : Int32} {σ : zS} (h : (ZC d 134 [.ref 0, .int x1] σ (fun v2 s1 => (if v2 = 0 then Q (-1) s1 else (ZC d 133 [.int x2, .int 0, .int 1] s1 (fun v4 s3 => (if v4 = 0 then Q (-1) s3 else (ZC d 132 [.int (s3 17 5), .int x1] s3 (fun v6 s5 => (if v6 = 0 then (ZC d 71 [.ref 23, .ref 14] s5 (fun _ s7 => (ZC d 131 [.int x1] s7 (fun v10 s9 => (if x2 = 1 then (ZC d 131 [.int x1] (zup s9 23 4 v10) (fun v12 s11 => (ZC d 79 [.ref 23] (zup s11 23 5 v12) (fun _ s13 => (ZC d 131 [.int x1] s13 (fun v16 s15 => (ZC d 76 [.ref 14, .int v16] s15 (fun v18 s17 => (ZC d 138 [.ref 0, .int v18] s17 (fun _ s19 => Q (s19 23 6) s19)))))))))) else (ZC d 79 [.ref 23] (zup (zup s9 23 4 v10) 23 5 0) (fun _ s21 => (ZC d 131 [.int x1] s21 (fun v24 s23 => (ZC d 76 [.ref 14, .int v24] s23 (fun v26 s25 => (ZC d 138 [.ref 0, .int v26] s25 (fun _ s27 => Q (s27 23 6) s27))))))))))))) else Q (-2) s5)))))))))) : Z d 93 Q 0 [.ref 0, .int x1, .int x2] [] σ :=
  zwp1_ok (code := zc_93) (cuts := []) rfl 400 h
set_option maxRecDepth 100000 in
theorem k_94_0 {d : Nat} {Q : Int32 → zS → Prop}  {σ : zS} (h : (ZC d 137 [.ref 0] σ (fun _ s1 => (ZC d 148 [.ref 0] s1 (fun v4 s3 => (ZC d 147 [.ref 0, .ref 14] s3 (fun v6 s5 => (ZC d 139 [.ref 0, .int (s3 14 6), .int v6] s5 (fun _ s7 => Q (s7 14 4) s7))))))))) : Z d 94 Q 0 [.ref 0] [] σ :=
  zwp1_ok (code := zc_94) (cuts := []) rfl 400 h
set_option maxRecDepth 100000 in
theorem k_95_0 {d : Nat} {Q : Int32 → zS → Prop} {x1 : Int32} {σ : zS} (h : (ZC d 133 [.int x1, .int 0, .int 300] σ (fun v2 s1 => (if v2 = 0 then Q (-1) s1 else (if 0 < x1 then (ZC d 137 [.ref 0] s1 (fun _ s3 => Z d 95 Q 31 [.ref 0, .int x1, .int 0, .int 0, .int (-1), .int 0, (.retAddr 0), (.retAddr 0)] [] s3)) else Z d 95 Q 31 [.ref 0, .int x1, .int 0, .int 0, .int (-1), .int 0, (.retAddr 0), (.retAddr 0)] [] s1))))) : Z d 95 Q 0 [.ref 0, .int x1, (.retAddr 0), (.retAddr 0), (.retAddr 0), (.retAddr 0), (.retAddr 0), (.retAddr 0)] [] σ :=
  zwp1_ok (code := zc_95) (cuts := [31]) rfl 400 h
set_option maxRecDepth 100000 in
theorem k_95_31 {d : Nat} {Q : Int32 → zS → Prop} {x1 x2 x3 x4 x5 : Int32} {xw6 xw7 : Value} {σ : zS} (h : (if x5 < x1 then (ZC d 148 [.ref 0] σ (fun v2 s1 => (ZC d 147 [.ref 0, .ref 14] s1 (fun v4 s3 => (ZC d 0 [.int v4] s3 (fun v6 s5 => (if x4 = (-1) then (if v6 < v2 then Z d 95 Q 31 [.ref 0, .int x1, .int (x2 + v2), .int (x3 + v6), .int x5, .int (x5 + 1), .int v2, .int v6] [] s5 else Z d 95 Q 31 [.ref 0, .int x1, .int (x2 + v2), .int (x3 + v6), .int x4, .int (x5 + 1), .int v2, .int v6] [] s5) else Z d 95 Q 31 [.ref 0, .int x1, .int (x2 + v2), .int (x3 + v6), .int x4, .int (x5 + 1), .int v2, .int v6] [] s5))))))) else (ZC d 139 [.ref 0, .int x3, .int x4] σ (fun _ s7 => Q x2 s7)))) : Z d 95 Q 31 [.ref 0, .int x1, .int x2, .int x3, .int x4, .int x5, xw6, xw7] [] σ :=
  zwp1_ok (code := zc_95) (cuts := [31]) rfl 400 h
set_option maxRecDepth 100000 in
theorem k_96_0 {d : Nat} {Q : Int32 → zS → Prop}  {σ : zS} (h : (ZC d 60 [.ref 1, .int 60] σ (fun _ s1 => (ZC d 7 [.ref 10] s1 (fun v4 s3 => (ZC d 62 [.ref 1, .int v4] s3 (fun v6 s5 => (if v6 = 0 then (ZC d 63 [.ref 1] s5 (fun v8 s7 => Q v8 s7)) else (ZC d 35 [.ref 37, .ref 14, .ref 32] s5 (fun _ s9 => Z d 96 Q 55 [.ref 0, .int 0, .int 0, .int 0, (.retAddr 0)] [] s9)))))))))) : Z d 96 Q 0 [.ref 0, (.retAddr 0), (.retAddr 0), (.retAddr 0), (.retAddr 0)] [] σ :=
  zwp1_ok (code := zc_96) (cuts := [55]) rfl 400 h
set_option maxRecDepth 100000 in
theorem k_96_55 {d : Nat} {Q : Int32 → zS → Prop} {x1 x2 x3 : Int32} {xw4 : Value} {σ : zS} (h : (if x3 < (σ 10 3) then (if zin x3 20 = true then (if zin x3 20 = true then (if zin x3 20 = true then (ZC d 149 [.ref 0, .int (σ 11 (Int32.toNatClampNeg x3)), .int (σ 12 (Int32.toNatClampNeg x3)), .int (σ 13 (Int32.toNatClampNeg x3))] σ (fun v2 s1 => (if v2 = (-1) then (if 0 < x1 then (ZC d 36 [.ref 37] s1 (fun _ s3 => (if x1 < (s3 10 3) then (ZC d 139 [.ref 0, .int 1, .int x2] s3 (fun _ s5 => Q x1 s5)) else (ZC d 139 [.ref 0, .int 0, .int x2] s3 (fun _ s7 => Q x1 s7))))) else (if x1 < (s1 10 3) then (ZC d 139 [.ref 0, .int 1, .int x2] s1 (fun _ s9 => Q x1 s9)) else (ZC d 139 [.ref 0, .int 0, .int x2] s1 (fun _ s11 => Q x1 s11)))) else Z d 96 Q 55 [.ref 0, .int (x1 + 1), .int (x2 + v2), .int (x3 + 1), .int v2] [] s1))) else False) else False) else False) else (if 0 < x1 then (ZC d 36 [.ref 37] σ (fun _ s13 => (if x1 < (s13 10 3) then (ZC d 139 [.ref 0, .int 1, .int x2] s13 (fun _ s15 => Q x1 s15)) else (ZC d 139 [.ref 0, .int 0, .int x2] s13 (fun _ s17 => Q x1 s17))))) else (if x1 < (σ 10 3) then (ZC d 139 [.ref 0, .int 1, .int x2] σ (fun _ s19 => Q x1 s19)) else (ZC d 139 [.ref 0, .int 0, .int x2] σ (fun _ s21 => Q x1 s21)))))) : Z d 96 Q 55 [.ref 0, .int x1, .int x2, .int x3, xw4] [] σ :=
  zwp1_ok (code := zc_96) (cuts := [55]) rfl 400 h
set_option maxRecDepth 100000 in
theorem k_97_0 {d : Nat} {Q : Int32 → zS → Prop}  {σ : zS} (h : (ZC d 37 [.ref 37, .ref 14, .ref 32] σ (fun v2 s1 => (if v2 = 0 then Q (-1) s1 else Q (s1 37 0) s1)))) : Z d 97 Q 0 [.ref 0] [] σ :=
  zwp1_ok (code := zc_97) (cuts := []) rfl 400 h
set_option maxRecDepth 100000 in
theorem k_98_0 {d : Nat} {Q : Int32 → zS → Prop} {x1 x2 : Int32} {σ : zS} (h : (ZC d 13 [.ref 32, .int x1] σ (fun v2 s1 => (if v2 = 0 then False else (if x2 < 0 then False else (if 4 < x2 then False else (ZC d 14 [.ref 32, .int x1] s1 (fun v4 s3 => (if x2 = 0 then (if zin v4 60 = true then Q (s3 33 (Int32.toNatClampNeg v4)) s3 else False) else (if x2 = 1 then (if zin v4 60 = true then Q (s3 34 (Int32.toNatClampNeg v4)) s3 else False) else (if x2 = 2 then (if zin v4 60 = true then Q (s3 35 (Int32.toNatClampNeg v4)) s3 else False) else (if x2 = 3 then (if zin v4 60 = true then Q (s3 36 (Int32.toNatClampNeg v4)) s3 else False) else (if zin v4 60 = true then (if (s3 36 (Int32.toNatClampNeg v4)) = 1 then (ZC d 75 [.ref 14, .int (s3 0 13)] s3 (fun v6 s5 => (if zin v4 60 = true then (ZC d 132 [.int v6, .int (s5 34 (Int32.toNatClampNeg v4))] s5 (fun v8 s7 => (if v8 = 0 then Q 0 s7 else Q 1 s7))) else False))) else Q 0 s3) else False))))))))))))) : Z d 98 Q 0 [.ref 0, .int x1, .int x2, (.retAddr 0)] [] σ :=
  zwp1_ok (code := zc_98) (cuts := []) rfl 400 h
set_option maxRecDepth 100000 in
theorem k_99_0 {d : Nat} {Q : Int32 → zS → Prop} {x1 : Int32} {σ : zS} (h : (ZC d 13 [.ref 32, .int x1] σ (fun v2 s1 => (if v2 = 0 then Q (-1) s1 else (ZC d 16 [.ref 32, .int x1] s1 (fun v4 s3 => Z d 99 Q 30 [.ref 0, .int x1, .int 0, .int x1, .int v4, .int 0, (.retAddr 0)] [] s3)))))) : Z d 99 Q 0 [.ref 0, .int x1, (.retAddr 0), (.retAddr 0), (.retAddr 0), (.retAddr 0), (.retAddr 0)] [] σ :=
  zwp1_ok (code := zc_99) (cuts := [30]) rfl 400 h
set_option maxRecDepth 100000 in
theorem k_99_30 {d : Nat} {Q : Int32 → zS → Prop} {x1 x2 x3 x4 x5 : Int32} {xw6 : Value} {σ : zS} (h : (if x5 < 60 then (if x4 = (-1) then (ZC d 17 [.ref 32, .int x3] σ (fun v2 s1 => (ZC d 139 [.ref 0, .int v2, .int 1] s1 (fun _ s3 => Q x2 s3)))) else (ZC d 18 [.ref 32, .int x3, .int x4] σ (fun v6 s5 => (if v6 = (-1) then (ZC d 139 [.ref 0, .int x4, .int 0] s5 (fun _ s7 => Q (x2 + 1) s7)) else (ZC d 16 [.ref 32, .int v6] s5 (fun v10 s9 => Z d 99 Q 30 [.ref 0, .int x1, .int (x2 + 1), .int v6, .int v10, .int (x5 + 1), .int v6] [] s9)))))) else (ZC d 17 [.ref 32, .int x3] σ (fun v12 s11 => (ZC d 139 [.ref 0, .int v12, .int 1] s11 (fun _ s13 => Q x2 s13)))))) : Z d 99 Q 30 [.ref 0, .int x1, .int x2, .int x3, .int x4, .int x5, xw6] [] σ :=
  zwp1_ok (code := zc_99) (cuts := [30]) rfl 400 h
set_option maxRecDepth 100000 in
theorem k_100_0 {d : Nat} {Q : Int32 → zS → Prop}  {σ : zS} (h : (ZC d 71 [.ref 23, .ref 14] σ (fun _ s1 => (ZC d 150 [.ref 0, .int 300] s1 (fun v4 s3 => (if v4 = (-1) then Q (-2) s3 else (ZC d 139 [.ref 0, .int (s3 0 14), .int (s3 0 15)] s3 (fun _ s5 => Q v4 s5)))))))) : Z d 100 Q 0 [.ref 0, (.retAddr 0)] [] σ :=
  zwp1_ok (code := zc_100) (cuts := []) rfl 400 h
set_option maxRecDepth 100000 in
theorem k_101_0 {d : Nat} {Q : Int32 → zS → Prop} {x1 : Int32} {σ : zS} (h : (ZC d 133 [.int x1, .int 0, .int 300] σ (fun v2 s1 => (if v2 = 0 then Q (-1) s1 else (ZC d 71 [.ref 23, .ref 14] s1 (fun _ s3 => (ZC d 154 [.ref 0, .int x1] s3 (fun v6 s5 => Z d 101 Q 45 [.ref 0, .int x1, .int 0, .int 0] [] (zup s5 0 12 (s5 14 3)))))))))) : Z d 101 Q 0 [.ref 0, .int x1, (.retAddr 0), (.retAddr 0)] [] σ :=
  zwp1_ok (code := zc_101) (cuts := [45]) rfl 400 h
set_option maxRecDepth 100000 in
theorem k_101_45 {d : Nat} {Q : Int32 → zS → Prop} {x1 x2 x3 : Int32} {σ : zS} (h : (if x3 < (σ 14 3) then (if zin x3 10 = true then (if zin x3 16 = true then (if zin x3 10 = true then Z d 101 Q 45 [.ref 0, .int x1, .int (x2 + (σ 191 (Int32.toNatClampNeg x3))), .int (x3 + 1)] [] (zup σ 190 (Int32.toNatClampNeg x3) (σ 191 (Int32.toNatClampNeg x3))) else False) else False) else False) else Q x2 σ)) : Z d 101 Q 45 [.ref 0, .int x1, .int x2, .int x3] [] σ :=
  zwp1_ok (code := zc_101) (cuts := [45]) rfl 400 h
set_option maxRecDepth 100000 in
theorem k_102_0 {d : Nat} {Q : Int32 → zS → Prop} {x1 : Int32} {σ : zS} (h : (ZC d 133 [.int x1, .int 0, .int 300] σ (fun v2 s1 => (if v2 = 0 then Q (-1) s1 else (ZC d 71 [.ref 23, .ref 14] s1 (fun _ s3 => (ZC d 154 [.ref 0, .int x1] s3 (fun v6 s5 => (ZC d 155 [.ref 0] s5 (fun v8 s7 => (if v8 = (-1) then Q (-2) s7 else (if zin v8 10 = true then (ZC d 139 [.ref 0, .int (s7 191 (Int32.toNatClampNeg v8)), .int v6] s7 (fun _ s9 => Q v8 s9)) else False)))))))))))) : Z d 102 Q 0 [.ref 0, .int x1, (.retAddr 0), (.retAddr 0)] [] σ :=
  zwp1_ok (code := zc_102) (cuts := []) rfl 400 h
set_option maxRecDepth 100000 in
theorem k_103_0 {d : Nat} {Q : Int32 → zS → Prop} {x1 : Int32} {σ : zS} (h : (ZC d 134 [.ref 0, .int x1] σ (fun v2 s1 => (if v2 = 0 then Q (-1) s1 else (ZC d 71 [.ref 23, .ref 14] s1 (fun _ s3 => (ZC d 158 [.ref 0, .int x1, .int 300] s3 (fun v6 s5 => (if v6 = (-1) then Q (-2) s5 else (if zin x1 9 = true then (ZC d 138 [.ref 0, .int (s5 31 (Int32.toNatClampNeg x1))] s5 (fun _ s7 => Q v6 s7)) else False)))))))))) : Z d 103 Q 0 [.ref 0, .int x1, (.retAddr 0)] [] σ :=
  zwp1_ok (code := zc_103) (cuts := []) rfl 400 h
set_option maxRecDepth 100000 in
theorem k_104_0 {d : Nat} {Q : Int32 → zS → Prop} {x1 x2 : Int32} {σ : zS} (h : (ZC d 134 [.ref 0, .int x1] σ (fun v2 s1 => (if v2 = 0 then Q (-1) s1 else (ZC d 133 [.int x2, .int 1, .int 300] s1 (fun v4 s3 => (if v4 = 0 then Q (-1) s3 else (ZC d 136 [.ref 0, .int x1] s3 (fun v6 s5 => (if v6 = 0 then Q (-2) s5 else (ZC d 71 [.ref 23, .ref 14] s5 (fun _ s7 => (ZC d 154 [.ref 0, .int x2] s7 (fun v10 s9 => (ZC d 156 [.ref 0] s9 (fun v12 s11 => (ZC d 157 [.ref 0] s11 (fun v14 s13 => (ZC d 71 [.ref 23, .ref 14] s13 (fun _ s15 => (ZC d 27 [.ref 26, .int x1, .int (s15 26 6), .int (-1), .int 0] s15 (fun _ s17 => (ZC d 154 [.ref 0, .int x2] s17 (fun v20 s19 => (ZC d 156 [.ref 0] s19 (fun v22 s21 => (ZC d 138 [.ref 0, .int (v22 - v12)] s21 (fun _ s23 => (ZC d 157 [.ref 0] s23 (fun v26 s25 => Q (v26 &&& (v14 ^^^ (-1))) s25)))))))))))))))))))))))))))))) : Z d 104 Q 0 [.ref 0, .int x1, .int x2, (.retAddr 0), (.retAddr 0)] [] σ :=
  zwp1_ok (code := zc_104) (cuts := []) rfl 400 h
set_option maxRecDepth 100000 in
theorem k_105_0 {d : Nat} {Q : Int32 → zS → Prop} {x1 : Int32} {σ : zS} (h : (ZC d 134 [.ref 0, .int x1] σ (fun v2 s1 => (if v2 = 0 then Q (-1) s1 else (ZC d 132 [.int (s1 17 5), .int x1] s1 (fun v4 s3 => (if v4 = 0 then (ZC d 159 [.ref 0, .int x1, .int 0] s3 (fun v6 s5 => Q v6 s5)) else Q (-3) s3))))))) : Z d 105 Q 0 [.ref 0, .int x1] [] σ :=
  zwp1_ok (code := zc_105) (cuts := []) rfl 400 h
set_option maxRecDepth 100000 in
theorem k_106_0 {d : Nat} {Q : Int32 → zS → Prop}  {σ : zS} (h : Z d 106 Q 4 [.ref 0, .int 0, .int 0] [] σ) : Z d 106 Q 0 [.ref 0, (.retAddr 0), (.retAddr 0)] [] σ :=
  zwp1_ok (code := zc_106) (cuts := [4]) rfl 400 h
set_option maxRecDepth 100000 in
theorem k_106_4 {d : Nat} {Q : Int32 → zS → Prop} {x1 x2 : Int32} {σ : zS} (h : (if x2 < (σ 14 3) then (ZC d 132 [.int (σ 17 5), .int x2] σ (fun v2 s1 => (if v2 = 0 then (ZC d 159 [.ref 0, .int x2, .int 0] s1 (fun v4 s3 => (if v4 = (-2) then (ZC d 131 [.int x2] s3 (fun v6 s5 => Z d 106 Q 4 [.ref 0, .int (x1 ||| v6), .int (x2 + 1)] [] s5)) else Z d 106 Q 4 [.ref 0, .int x1, .int (x2 + 1)] [] s3))) else Z d 106 Q 4 [.ref 0, .int x1, .int (x2 + 1)] [] s1))) else Q x1 σ)) : Z d 106 Q 4 [.ref 0, .int x1, .int x2] [] σ :=
  zwp1_ok (code := zc_106) (cuts := [4]) rfl 400 h
set_option maxRecDepth 100000 in
theorem k_107_0 {d : Nat} {Q : Int32 → zS → Prop} {x1 : Int32} {σ : zS} (h : (ZC d 134 [.ref 0, .int x1] σ (fun v2 s1 => (if v2 = 0 then Q (-1) s1 else (ZC d 132 [.int (s1 17 5), .int x1] s1 (fun v4 s3 => (if v4 = 0 then (ZC d 73 [.ref 14] s3 (fun v6 s5 => (ZC d 131 [.int x1] s5 (fun v8 s7 => Z d 107 Q 50 [.ref 0, .int x1, .int (v6 &&& (v8 ^^^ (-1))), .int 0, .int 0, (.retAddr 0)] [] s7)))) else Q (-3) s3))))))) : Z d 107 Q 0 [.ref 0, .int x1, (.retAddr 0), (.retAddr 0), (.retAddr 0), (.retAddr 0)] [] σ :=
  zwp1_ok (code := zc_107) (cuts := [50]) rfl 400 h
set_option maxRecDepth 100000 in
theorem k_107_50 {d : Nat} {Q : Int32 → zS → Prop} {x1 x2 x3 x4 : Int32} {xw5 : Value} {σ : zS} (h : (if x4 < 512 then (if x3 = (-1) then Q (-2) σ else (ZC d 159 [.ref 0, .int x1, .int x3] σ (fun v2 s1 => (if v2 < 0 then (ZC d 160 [.int x3, .int x2] s1 (fun v4 s3 => Z d 107 Q 50 [.ref 0, .int x1, .int x2, .int v4, .int (x4 + 1), .int v2] [] s3)) else (ZC d 139 [.ref 0, .int x3, .int v2] s1 (fun _ s5 => (ZC d 0 [.int x3] s5 (fun v8 s7 => Q v8 s7)))))))) else Q (-2) σ)) : Z d 107 Q 50 [.ref 0, .int x1, .int x2, .int x3, .int x4, xw5] [] σ :=
  zwp1_ok (code := zc_107) (cuts := [50]) rfl 400 h
set_option maxRecDepth 100000 in
theorem k_108_0 {d : Nat} {Q : Int32 → zS → Prop} {x1 : Int32} {σ : zS} (h : (ZC d 134 [.ref 0, .int x1] σ (fun v2 s1 => (if v2 = 0 then Q (-1) s1 else (ZC d 131 [.int x1] s1 (fun v4 s3 => (ZC d 73 [.ref 14] s3 (fun v6 s5 => Z d 108 Q 31 [.ref 0, .int x1, .int v4, .int (v4 &&& v6), .int 0, .int 0] [] s5)))))))) : Z d 108 Q 0 [.ref 0, .int x1, (.retAddr 0), (.retAddr 0), (.retAddr 0), (.retAddr 0)] [] σ :=
  zwp1_ok (code := zc_108) (cuts := [31]) rfl 400 h
set_option maxRecDepth 100000 in
theorem k_108_31 {d : Nat} {Q : Int32 → zS → Prop} {x1 x2 x3 x4 x5 : Int32} {σ : zS} (h : (if x5 < 9 then (if x3 = 0 then (ZC d 138 [.ref 0, .int x4] σ (fun _ s1 => (ZC d 131 [.int x1] s1 (fun v4 s3 => Q (x2 &&& (v4 ^^^ (-1))) s3)))) else (ZC d 76 [.ref 14, .int x3] σ (fun v6 s5 => (if (v6 &&& (x2 ^^^ (-1))) = 0 then Z d 108 Q 31 [.ref 0, .int x1, .int (x2 ||| (v6 &&& (x2 ^^^ (-1)))), .int (v6 &&& (x2 ^^^ (-1))), .int (x4 + 0), .int (x5 + 1)] [] s5 else Z d 108 Q 31 [.ref 0, .int x1, .int (x2 ||| (v6 &&& (x2 ^^^ (-1)))), .int (v6 &&& (x2 ^^^ (-1))), .int (x4 + 1), .int (x5 + 1)] [] s5)))) else (ZC d 138 [.ref 0, .int x4] σ (fun _ s7 => (ZC d 131 [.int x1] s7 (fun v10 s9 => Q (x2 &&& (v10 ^^^ (-1))) s9)))))) : Z d 108 Q 31 [.ref 0, .int x1, .int x2, .int x3, .int x4, .int x5] [] σ :=
  zwp1_ok (code := zc_108) (cuts := [31]) rfl 400 h
set_option maxRecDepth 100000 in
theorem k_109_0 {d : Nat} {Q : Int32 → zS → Prop} {x1 x2 : Int32} {σ : zS} (h : (ZC d 135 [.ref 0, .int x1] σ (fun v2 s1 => (if v2 = 0 then Q (-1) s1 else (ZC d 135 [.ref 0, .int x2] s1 (fun v4 s3 => (if v4 = 0 then Q (-1) s3 else (ZC d 161 [.ref 0, .int x2] s3 (fun _ s5 => (if zin x1 10 = true then (if (s5 191 (Int32.toNatClampNeg x1)) = (-1) then Q (-2) s5 else Z d 109 Q 49 [.ref 0, .int x1, .int x2, .int (s5 191 (Int32.toNatClampNeg x1)), .int x1, .int 0] [] (zup s5 0 12 0)) else False)))))))))) : Z d 109 Q 0 [.ref 0, .int x1, .int x2, (.retAddr 0), (.retAddr 0), (.retAddr 0)] [] σ :=
  zwp1_ok (code := zc_109) (cuts := [49]) rfl 400 h
set_option maxRecDepth 100000 in
theorem k_109_49 {d : Nat} {Q : Int32 → zS → Prop} {x1 x2 x3 x4 x5 : Int32} {σ : zS} (h : (if x5 < 9 then (if x4 = x2 then Q x3 σ else (if x4 = (-1) then Q x3 σ else (ZC d 163 [.ref 0, .int x4] σ (fun v2 s1 => (if zin (s1 0 12) 16 = true then Z d 109 Q 49 [.ref 0, .int x1, .int x2, .int x3, .int v2, .int (x5 + 1)] [] (zup (zup s1 190 (Int32.toNatClampNeg (s1 0 12)) v2) 0 12 ((s1 0 12) + 1)) else False))))) else Q x3 σ)) : Z d 109 Q 49 [.ref 0, .int x1, .int x2, .int x3, .int x4, .int x5] [] σ :=
  zwp1_ok (code := zc_109) (cuts := [49]) rfl 400 h
set_option maxRecDepth 100000 in
theorem k_110_0 {d : Nat} {Q : Int32 → zS → Prop}  {σ : zS} (h : (ZC d 72 [.ref 14] σ (fun v2 s1 => Z d 110 Q 12 [.ref 0, .int v2, .int 0, .int 0] [] s1))) : Z d 110 Q 0 [.ref 0, (.retAddr 0), (.retAddr 0), (.retAddr 0)] [] σ :=
  zwp1_ok (code := zc_110) (cuts := [12]) rfl 400 h
set_option maxRecDepth 100000 in
theorem k_110_12 {d : Nat} {Q : Int32 → zS → Prop} {x1 x2 x3 : Int32} {σ : zS} (h : (if x3 < 512 then (if x2 = (-1) then Q (-2) σ else (ZC d 75 [.ref 14, .int x2] σ (fun v2 s1 => (if v2 = x1 then (ZC d 138 [.ref 0, .int x2] s1 (fun _ s3 => (ZC d 0 [.int x2] s3 (fun v6 s5 => Q v6 s5)))) else (ZC d 160 [.int x2, .int x1] s1 (fun v8 s7 => Z d 110 Q 12 [.ref 0, .int x1, .int v8, .int (x3 + 1)] [] s7)))))) else Q (-2) σ)) : Z d 110 Q 12 [.ref 0, .int x1, .int x2, .int x3] [] σ :=
  zwp1_ok (code := zc_110) (cuts := [12]) rfl 400 h
set_option maxRecDepth 100000 in
theorem k_111_0 {d : Nat} {Q : Int32 → zS → Prop} {x1 x2 : Int32} {σ : zS} (h : (ZC d 133 [.int x1, .int 1, .int 9] σ (fun v2 s1 => (if v2 = 0 then Q (-1) s1 else (ZC d 133 [.int x2, .int 0, .int 299] s1 (fun v4 s3 => (if v4 = 0 then Q (-1) s3 else (if (s3 14 3) = 0 then Q (-2) s3 else Z d 111 Q 44 [.ref 0, .int x1, .int x2, .int 0, .int (-1), .int 0, (.retAddr 0)] [] s3)))))))) : Z d 111 Q 0 [.ref 0, .int x1, .int x2, (.retAddr 0), (.retAddr 0), (.retAddr 0), (.retAddr 0)] [] σ :=
  zwp1_ok (code := zc_111) (cuts := [44]) rfl 400 h
set_option maxRecDepth 100000 in
theorem k_111_44 {d : Nat} {Q : Int32 → zS → Prop} {x1 x2 x3 x4 x5 : Int32} {xw6 : Value} {σ : zS} (h : (if x5 < (σ 14 3) then (ZC d 153 [.ref 0, .int x5, .int x1] σ (fun v2 s1 => (if v2 = (-1) then Z d 111 Q 44 [.ref 0, .int x1, .int x2, .int x3, .int x4, .int (x5 + 1), .int v2] [] s1 else (if x4 = (-1) then Z d 111 Q 44 [.ref 0, .int x1, .int x2, .int x5, .int v2, .int (x5 + 1), .int v2] [] s1 else (ZC d 2 [.int (v2 - x2)] s1 (fun v4 s3 => (ZC d 2 [.int (x4 - x2)] s3 (fun v6 s5 => (if v4 < v6 then Z d 111 Q 44 [.ref 0, .int x1, .int x2, .int x5, .int v2, .int (x5 + 1), .int v2] [] s5 else Z d 111 Q 44 [.ref 0, .int x1, .int x2, .int x3, .int x4, .int (x5 + 1), .int v2] [] s5))))))))) else (ZC d 138 [.ref 0, .int x4] σ (fun _ s7 => Q x3 s7)))) : Z d 111 Q 44 [.ref 0, .int x1, .int x2, .int x3, .int x4, .int x5, xw6] [] σ :=
  zwp1_ok (code := zc_111) (cuts := [44]) rfl 400 h
set_option maxRecDepth 100000 in
theorem k_112_0 {d : Nat} {Q : Int32 → zS → Prop}  {σ : zS} (h : Z d 112 Q 6 [.ref 0, .int (-1), .int (-1), .int 0, (.retAddr 0)] [] σ) : Z d 112 Q 0 [.ref 0, (.retAddr 0), (.retAddr 0), (.retAddr 0), (.retAddr 0)] [] σ :=
  zwp1_ok (code := zc_112) (cuts := [6]) rfl 400 h
set_option maxRecDepth 100000 in
theorem k_112_6 {d : Nat} {Q : Int32 → zS → Prop} {x1 x2 x3 : Int32} {xw4 : Value} {σ : zS} (h : (if x3 < (σ 14 3) then (ZC d 136 [.ref 0, .int x3] σ (fun v2 s1 => (if v2 = 0 then Z d 112 Q 6 [.ref 0, .int x1, .int x2, .int (x3 + 1), xw4] [] s1 else (ZC d 71 [.ref 23, .ref 14] s1 (fun _ s3 => (ZC d 27 [.ref 26, .int x3, .int (s3 26 6), .int (-1), .int 1] s3 (fun _ s5 => (ZC d 150 [.ref 0, .int 300] s5 (fun v8 s7 => (if x1 = (-1) then Z d 112 Q 6 [.ref 0, .int x3, .int v8, .int (x3 + 1), .int v8] [] s7 else (ZC d 152 [.int v8] s7 (fun v10 s9 => (ZC d 152 [.int x2] s9 (fun v12 s11 => (if v10 < v12 then Z d 112 Q 6 [.ref 0, .int x3, .int v8, .int (x3 + 1), .int v8] [] s11 else Z d 112 Q 6 [.ref 0, .int x1, .int x2, .int (x3 + 1), .int v8] [] s11))))))))))))))) else (if x1 = (-1) then Q (-2) σ else (ZC d 153 [.ref 0, .int (-1), .int 0] σ (fun v14 s13 => (ZC d 139 [.ref 0, .int x2, .int v14] s13 (fun _ s15 => Q x1 s15))))))) : Z d 112 Q 6 [.ref 0, .int x1, .int x2, .int x3, xw4] [] σ :=
  zwp1_ok (code := zc_112) (cuts := [6]) rfl 400 h
set_option maxRecDepth 100000 in
theorem k_113_0 {d : Nat} {Q : Int32 → zS → Prop} {x1 x2 : Int32} {σ : zS} (h : (ZC d 134 [.ref 0, .int x1] σ (fun v2 s1 => (if v2 = 0 then Q (-1) s1 else (ZC d 133 [.int x2, .int 1, .int 300] s1 (fun v4 s3 => (if v4 = 0 then Q (-1) s3 else Z d 113 Q 23 [.ref 0, .int x1, .int x2, .int 0] [] s3))))))) : Z d 113 Q 0 [.ref 0, .int x1, .int x2, (.retAddr 0)] [] σ :=
  zwp1_ok (code := zc_113) (cuts := [23]) rfl 400 h
set_option maxRecDepth 100000 in
theorem k_113_23 {d : Nat} {Q : Int32 → zS → Prop} {x1 x2 x3 : Int32} {σ : zS} (h : (if 9 < x3 then Q (-2) σ else (ZC d 71 [.ref 23, .ref 14] σ (fun _ s1 => (ZC d 33 [.ref 26, .int x1, .int (-x3)] s1 (fun _ s3 => (ZC d 158 [.ref 0, .int x1, .int x2] s3 (fun v6 s5 => (if v6 = (-1) then Q x3 s5 else Z d 113 Q 23 [.ref 0, .int x1, .int x2, .int (x3 + 1)] [] s5))))))))) : Z d 113 Q 23 [.ref 0, .int x1, .int x2, .int x3] [] σ :=
  zwp1_ok (code := zc_113) (cuts := [23]) rfl 400 h
set_option maxRecDepth 100000 in
theorem k_114_0 {d : Nat} {Q : Int32 → zS → Prop} {x1 : Int32} {σ : zS} (h : (ZC d 133 [.int x1, .int 1, .int 300] σ (fun v2 s1 => (if v2 = 0 then Q (-1) s1 else Z d 114 Q 17 [.ref 0, .int x1, .int 0, .int 0] [] s1)))) : Z d 114 Q 0 [.ref 0, .int x1, (.retAddr 0), (.retAddr 0)] [] σ :=
  zwp1_ok (code := zc_114) (cuts := [17]) rfl 400 h
set_option maxRecDepth 100000 in
theorem k_114_17 {d : Nat} {Q : Int32 → zS → Prop} {x1 x2 x3 : Int32} {σ : zS} (h : (if x3 < 512 then (if x2 = (-1) then Q (-1) σ else (ZC d 71 [.ref 23, .ref 14] σ (fun _ s1 => (ZC d 32 [.ref 26, .int x2] s1 (fun _ s3 => (ZC d 150 [.ref 0, .int x1] s3 (fun v6 s5 => (if v6 = (-1) then (ZC d 138 [.ref 0, .int x2] s5 (fun _ s7 => (ZC d 0 [.int x2] s7 (fun v10 s9 => Q v10 s9)))) else (ZC d 73 [.ref 14] s5 (fun v12 s11 => (ZC d 160 [.int x2, .int v12] s11 (fun v14 s13 => Z d 114 Q 17 [.ref 0, .int x1, .int v14, .int (x3 + 1)] [] s13)))))))))))) else Q (-1) σ)) : Z d 114 Q 17 [.ref 0, .int x1, .int x2, .int x3] [] σ :=
  zwp1_ok (code := zc_114) (cuts := [17]) rfl 400 h
set_option maxRecDepth 100000 in
theorem k_115_0 {d : Nat} {Q : Int32 → zS → Prop} {x1 x2 : Int32} {σ : zS} (h : (ZC d 134 [.ref 0, .int x1] σ (fun v2 s1 => (if v2 = 0 then Q (-2) s1 else (ZC d 133 [.int x2, .int 1, .int 300] s1 (fun v4 s3 => (if v4 = 0 then Q (-2) s3 else (ZC d 164 [.ref 0, .int x1, .int (-1), .int x2] s3 (fun v6 s5 => Z d 115 Q 36 [.ref 0, .int x1, .int x2, .int (-1), .int v6, .int 0, (.retAddr 0)] [] s5))))))))) : Z d 115 Q 0 [.ref 0, .int x1, .int x2, (.retAddr 0), (.retAddr 0), (.retAddr 0), (.retAddr 0)] [] σ :=
  zwp1_ok (code := zc_115) (cuts := [36]) rfl 400 h
set_option maxRecDepth 100000 in
theorem k_115_36 {d : Nat} {Q : Int32 → zS → Prop} {x1 x2 x3 x4 x5 : Int32} {xw6 : Value} {σ : zS} (h : (if x5 < (σ 14 3) then (if x5 = x1 then (if x4 < 0 then Z d 115 Q 36 [.ref 0, .int x1, .int x2, .int x5, .int 0, .int (x5 + 1), .int 0] [] σ else Z d 115 Q 36 [.ref 0, .int x1, .int x2, .int x3, .int x4, .int (x5 + 1), .int 0] [] σ) else (ZC d 164 [.ref 0, .int x1, .int x5, .int x2] σ (fun v2 s1 => (if x4 < v2 then Z d 115 Q 36 [.ref 0, .int x1, .int x2, .int x5, .int v2, .int (x5 + 1), .int v2] [] s1 else Z d 115 Q 36 [.ref 0, .int x1, .int x2, .int x3, .int x4, .int (x5 + 1), .int v2] [] s1)))) else (ZC d 138 [.ref 0, .int x4] σ (fun _ s3 => Q x3 s3)))) : Z d 115 Q 36 [.ref 0, .int x1, .int x2, .int x3, .int x4, .int x5, xw6] [] σ :=
  zwp1_ok (code := zc_115) (cuts := [36]) rfl 400 h
set_option maxRecDepth 100000 in
theorem k_116_0 {d : Nat} {Q : Int32 → zS → Prop} {x1 : Int32} {σ : zS} (h : (ZC d 133 [.int x1, .int 0, .int 20] σ (fun v2 s1 => (if v2 = 0 then Q (-1) s1 else Z d 116 Q 22 [.ref 0, .int x1, .int (-1), .int (-1), .int 0, .int 0, (.retAddr 0), (.retAddr 0)] [] s1)))) : Z d 116 Q 0 [.ref 0, .int x1, (.retAddr 0), (.retAddr 0), (.retAddr 0), (.retAddr 0), (.retAddr 0), (.retAddr 0)] [] σ :=
  zwp1_ok (code := zc_116) (cuts := [22]) rfl 400 h
set_option maxRecDepth 100000 in
theorem k_116_22 {d : Nat} {Q : Int32 → zS → Prop} {x1 x2 x3 x4 x5 : Int32} {xw6 xw7 : Value} {σ : zS} (h : (if x4 < x1 then (if x5 < 2 then (ZC d 166 [.ref 0, .int (zrem x4 2), .int x2, .int x3] σ (fun v2 s1 => (if (zrem x4 2) = 0 then (if v2 = x2 then (if (zrem x4 2) = 0 then (if (zrem x4 2) = 1 then Z d 116 Q 22 [.ref 0, .int x1, .int v2, .int v2, .int (x4 + 1), .int (x5 + 1), .int (zrem x4 2), .int v2] [] s1 else Z d 116 Q 22 [.ref 0, .int x1, .int v2, .int x3, .int (x4 + 1), .int (x5 + 1), .int (zrem x4 2), .int v2] [] s1) else (if (zrem x4 2) = 1 then Z d 116 Q 22 [.ref 0, .int x1, .int x2, .int v2, .int (x4 + 1), .int (x5 + 1), .int (zrem x4 2), .int v2] [] s1 else Z d 116 Q 22 [.ref 0, .int x1, .int x2, .int x3, .int (x4 + 1), .int (x5 + 1), .int (zrem x4 2), .int v2] [] s1)) else (if (zrem x4 2) = 0 then (if (zrem x4 2) = 1 then Z d 116 Q 22 [.ref 0, .int x1, .int v2, .int v2, .int (x4 + 1), .int 0, .int (zrem x4 2), .int v2] [] s1 else Z d 116 Q 22 [.ref 0, .int x1, .int v2, .int x3, .int (x4 + 1), .int 0, .int (zrem x4 2), .int v2] [] s1) else (if (zrem x4 2) = 1 then Z d 116 Q 22 [.ref 0, .int x1, .int x2, .int v2, .int (x4 + 1), .int 0, .int (zrem x4 2), .int v2] [] s1 else Z d 116 Q 22 [.ref 0, .int x1, .int x2, .int x3, .int (x4 + 1), .int 0, .int (zrem x4 2), .int v2] [] s1))) else (if v2 = x3 then (if (zrem x4 2) = 0 then (if (zrem x4 2) = 1 then Z d 116 Q 22 [.ref 0, .int x1, .int v2, .int v2, .int (x4 + 1), .int (x5 + 1), .int (zrem x4 2), .int v2] [] s1 else Z d 116 Q 22 [.ref 0, .int x1, .int v2, .int x3, .int (x4 + 1), .int (x5 + 1), .int (zrem x4 2), .int v2] [] s1) else (if (zrem x4 2) = 1 then Z d 116 Q 22 [.ref 0, .int x1, .int x2, .int v2, .int (x4 + 1), .int (x5 + 1), .int (zrem x4 2), .int v2] [] s1 else Z d 116 Q 22 [.ref 0, .int x1, .int x2, .int x3, .int (x4 + 1), .int (x5 + 1), .int (zrem x4 2), .int v2] [] s1)) else (if (zrem x4 2) = 0 then (if (zrem x4 2) = 1 then Z d 116 Q 22 [.ref 0, .int x1, .int v2, .int v2, .int (x4 + 1), .int 0, .int (zrem x4 2), .int v2] [] s1 else Z d 116 Q 22 [.ref 0, .int x1, .int v2, .int x3, .int (x4 + 1), .int 0, .int (zrem x4 2), .int v2] [] s1) else (if (zrem x4 2) = 1 then Z d 116 Q 22 [.ref 0, .int x1, .int x2, .int v2, .int (x4 + 1), .int 0, .int (zrem x4 2), .int v2] [] s1 else Z d 116 Q 22 [.ref 0, .int x1, .int x2, .int x3, .int (x4 + 1), .int 0, .int (zrem x4 2), .int v2] [] s1)))))) else (ZC d 165 [.ref 0, .int x2, .int x3] σ (fun _ s3 => (if x5 = 2 then (ZC d 150 [.ref 0, .int 300] s3 (fun v6 s5 => (ZC d 140 [.ref 0, .int 1, .int x2, .int x3, .int v6] s5 (fun _ s7 => Q x4 s7)))) else (ZC d 150 [.ref 0, .int 300] s3 (fun v10 s9 => (ZC d 140 [.ref 0, .int 0, .int x2, .int x3, .int v10] s9 (fun _ s11 => Q x4 s11)))))))) else (ZC d 165 [.ref 0, .int x2, .int x3] σ (fun _ s13 => (if x5 = 2 then (ZC d 150 [.ref 0, .int 300] s13 (fun v16 s15 => (ZC d 140 [.ref 0, .int 1, .int x2, .int x3, .int v16] s15 (fun _ s17 => Q x4 s17)))) else (ZC d 150 [.ref 0, .int 300] s13 (fun v20 s19 => (ZC d 140 [.ref 0, .int 0, .int x2, .int x3, .int v20] s19 (fun _ s21 => Q x4 s21))))))))) : Z d 116 Q 22 [.ref 0, .int x1, .int x2, .int x3, .int x4, .int x5, xw6, xw7] [] σ :=
  zwp1_ok (code := zc_116) (cuts := [22]) rfl 400 h
set_option maxRecDepth 100000 in
theorem k_117_0 {d : Nat} {Q : Int32 → zS → Prop} {x1 x2 x3 : Int32} {σ : zS} (h : (ZC d 133 [.int x1, .int 0, .int 600] σ (fun v2 s1 => (if v2 = 0 then Q (-1) s1 else (ZC d 133 [.int x2, .int 0, .int 9] s1 (fun v4 s3 => (if v4 = 0 then Q (-1) s3 else (ZC d 133 [.int x3, .int 0, .int 99] s3 (fun v6 s5 => (if v6 = 0 then Q (-1) s5 else (ZC d 20 [.ref 183, .int x1, .int x2, .int x3] s5 (fun v8 s7 => (if v8 = 0 then Q (-2) s7 else Q (s5 183 3) s7))))))))))))) : Z d 117 Q 0 [.ref 0, .int x1, .int x2, .int x3, (.retAddr 0)] [] σ :=
  zwp1_ok (code := zc_117) (cuts := []) rfl 400 h
set_option maxRecDepth 100000 in
theorem k_118_0 {d : Nat} {Q : Int32 → zS → Prop}  {σ : zS} (h : Q (σ 183 3) (zup σ 183 3 0)) : Z d 118 Q 0 [.ref 0, (.retAddr 0)] [] σ :=
  zwp1_ok (code := zc_118) (cuts := []) rfl 400 h
set_option maxRecDepth 100000 in
theorem k_119_0 {d : Nat} {Q : Int32 → zS → Prop} {x1 : Int32} {σ : zS} (h : (ZC d 133 [.int x1, .int 0, .int ((σ 183 3) - 1)] σ (fun v2 s1 => (if v2 = 0 then Q (-1) s1 else (ZC d 153 [.ref 0, .int (-1), .int 0] s1 (fun v4 s3 => (if v4 = (-1) then Q (-2) s3 else (if zin x1 5 = true then (if v4 < (s3 184 (Int32.toNatClampNeg x1)) then (ZC d 138 [.ref 0, .int 0] s3 (fun _ s5 => (ZC d 21 [.ref 183, .int x1, .int (s3 184 (Int32.toNatClampNeg x1)), .int v4] s5 (fun v8 s7 => Q v8 s7)))) else (ZC d 138 [.ref 0, .int 1] s3 (fun _ s9 => (ZC d 21 [.ref 183, .int x1, .int (s3 184 (Int32.toNatClampNeg x1)), .int v4] s9 (fun v12 s11 => Q v12 s11))))) else False)))))))) : Z d 119 Q 0 [.ref 0, .int x1, (.retAddr 0), (.retAddr 0)] [] σ :=
  zwp1_ok (code := zc_119) (cuts := []) rfl 400 h
set_option maxRecDepth 100000 in
theorem k_120_0 {d : Nat} {Q : Int32 → zS → Prop} {x1 : Int32} {σ : zS} (h : (ZC d 133 [.int x1, .int 0, .int ((σ 183 3) - 1)] σ (fun v2 s1 => (if v2 = 0 then Q (-1) s1 else Z d 120 Q 23 [.ref 0, .int x1, .int 0, .int (-1), (.retAddr 0), (.retAddr 0), (.retAddr 0)] [] s1)))) : Z d 120 Q 0 [.ref 0, .int x1, (.retAddr 0), (.retAddr 0), (.retAddr 0), (.retAddr 0), (.retAddr 0)] [] σ :=
  zwp1_ok (code := zc_120) (cuts := [23, 86]) rfl 400 h
set_option maxRecDepth 100000 in
theorem k_120_23 {d : Nat} {Q : Int32 → zS → Prop} {x1 x2 x3 : Int32} {xw4 xw5 xw6 : Value} {σ : zS} (h : (if x3 < (σ 14 3) then (ZC d 153 [.ref 0, .int x3, .int 3] σ (fun v2 s1 => (if v2 = (-1) then Z d 120 Q 23 [.ref 0, .int x1, .int x2, .int (x3 + 1), .int v2, xw5, xw6] [] s1 else (if zin x2 10 = true then Z d 120 Q 23 [.ref 0, .int x1, .int (x2 + 1), .int (x3 + 1), .int v2, xw5, xw6] [] (zup s1 191 (Int32.toNatClampNeg x2) v2) else False)))) else (if x2 = 0 then Q (-2) σ else (ZC d 167 [.ref 0, .int x1, .int 0, .int x2] σ (fun v4 s3 => Z d 120 Q 86 [.ref 0, .int x1, .int x2, .int 0, .int v4, .int 1, xw6] [] s3))))) : Z d 120 Q 23 [.ref 0, .int x1, .int x2, .int x3, xw4, xw5, xw6] [] σ :=
  zwp1_ok (code := zc_120) (cuts := [23, 86]) rfl 400 h
set_option maxRecDepth 100000 in
theorem k_120_86 {d : Nat} {Q : Int32 → zS → Prop} {x1 x2 x3 x4 x5 : Int32} {xw6 : Value} {σ : zS} (h : (if x5 < 300 then (ZC d 167 [.ref 0, .int x1, .int x5, .int x2] σ (fun v2 s1 => (if v2 < x4 then Z d 120 Q 86 [.ref 0, .int x1, .int x2, .int x5, .int v2, .int (x5 + 1), .int v2] [] s1 else Z d 120 Q 86 [.ref 0, .int x1, .int x2, .int x3, .int x4, .int (x5 + 1), .int v2] [] s1))) else (ZC d 139 [.ref 0, .int x4, .int x2] σ (fun _ s3 => Q x3 s3)))) : Z d 120 Q 86 [.ref 0, .int x1, .int x2, .int x3, .int x4, .int x5, xw6] [] σ :=
  zwp1_ok (code := zc_120) (cuts := [23, 86]) rfl 400 h
set_option maxRecDepth 100000 in
theorem k_121_0 {d : Nat} {Q : Int32 → zS → Prop} {x1 x2 : Int32} {σ : zS} (h : (ZC d 134 [.ref 0, .int x1] σ (fun v2 s1 => (if v2 = 0 then Q (-1) s1 else (ZC d 133 [.int x2, .int 0, .int 60] s1 (fun v4 s3 => (if v4 = 0 then Q (-1) s3 else (ZC d 56 [.ref 187, .int x1, .int x2] s3 (fun v6 s5 => (if v6 = 0 then Q (-1) s5 else Q (s5 187 0) s5)))))))))) : Z d 121 Q 0 [.ref 0, .int x1, .int x2] [] σ :=
  zwp1_ok (code := zc_121) (cuts := []) rfl 400 h
set_option maxRecDepth 100000 in
theorem k_122_0 {d : Nat} {Q : Int32 → zS → Prop}  {σ : zS} (h : Q (σ 187 0) (zup σ 187 0 0)) : Z d 122 Q 0 [.ref 0, (.retAddr 0)] [] σ :=
  zwp1_ok (code := zc_122) (cuts := []) rfl 400 h
set_option maxRecDepth 100000 in
theorem k_123_0 {d : Nat} {Q : Int32 → zS → Prop}  {σ : zS} (h : Z d 123 Q 4 [.ref 0, .int 0, .int 0] [] σ) : Z d 123 Q 0 [.ref 0, (.retAddr 0), (.retAddr 0)] [] σ :=
  zwp1_ok (code := zc_123) (cuts := [4]) rfl 400 h
set_option maxRecDepth 100000 in
theorem k_123_4 {d : Nat} {Q : Int32 → zS → Prop} {x1 x2 : Int32} {σ : zS} (h : (if x2 < (σ 14 3) then (ZC d 136 [.ref 0, .int x2] σ (fun v2 s1 => (if v2 = 0 then Z d 123 Q 4 [.ref 0, .int x1, .int (x2 + 1)] [] s1 else (ZC d 131 [.int x2] s1 (fun v4 s3 => (ZC d 168 [.ref 0, .int v4] s3 (fun v6 s5 => (if v6 = 0 then Z d 123 Q 4 [.ref 0, .int x1, .int (x2 + 1)] [] s5 else (ZC d 131 [.int x2] s5 (fun v8 s7 => Z d 123 Q 4 [.ref 0, .int (x1 ||| v8), .int (x2 + 1)] [] s7)))))))))) else (ZC d 168 [.ref 0, .int 0] σ (fun v10 s9 => (if v10 = 0 then (ZC d 138 [.ref 0, .int 0] s9 (fun _ s11 => Q x1 s11)) else (ZC d 138 [.ref 0, .int 1] s9 (fun _ s13 => Q x1 s13))))))) : Z d 123 Q 4 [.ref 0, .int x1, .int x2] [] σ :=
  zwp1_ok (code := zc_123) (cuts := [4]) rfl 400 h
set_option maxRecDepth 100000 in
theorem k_124_0 {d : Nat} {Q : Int32 → zS → Prop} {x1 : Int32} {σ : zS} (h : (ZC d 134 [.ref 0, .int x1] σ (fun v2 s1 => (if v2 = 0 then Q (-1) s1 else Z d 124 Q 14 [.ref 0, .int x1, .int 0, .int 1] [] s1)))) : Z d 124 Q 0 [.ref 0, .int x1, (.retAddr 0), (.retAddr 0)] [] σ :=
  zwp1_ok (code := zc_124) (cuts := [14]) rfl 400 h
set_option maxRecDepth 100000 in
theorem k_124_14 {d : Nat} {Q : Int32 → zS → Prop} {x1 x2 x3 : Int32} {σ : zS} (h : (if 9 < x3 then Q x2 σ else (ZC d 71 [.ref 23, .ref 14] σ (fun _ s1 => (if zin x1 9 = true then (ZC d 57 [.ref 187, .ref 23] (zup s1 24 (Int32.toNatClampNeg x1) x3) (fun v4 s3 => (if v4 = 0 then Z d 124 Q 14 [.ref 0, .int x1, .int x2, .int (x3 + 1)] [] s3 else (ZC d 131 [.int x3] s3 (fun v6 s5 => Z d 124 Q 14 [.ref 0, .int x1, .int (x2 ||| v6), .int (x3 + 1)] [] s5))))) else False))))) : Z d 124 Q 14 [.ref 0, .int x1, .int x2, .int x3] [] σ :=
  zwp1_ok (code := zc_124) (cuts := [14]) rfl 400 h
set_option maxRecDepth 100000 in
theorem k_125_0 {d : Nat} {Q : Int32 → zS → Prop}  {σ : zS} (h : (ZC d 73 [.ref 14] σ (fun v2 s1 => (ZC d 30 [.ref 17] s1 (fun v4 s3 => Z d 125 Q 25 [.ref 0, .int (v2 &&& (v4 ^^^ (-1))), .int 0, .int 0] [] s3))))) : Z d 125 Q 0 [.ref 0, (.retAddr 0), (.retAddr 0), (.retAddr 0)] [] σ :=
  zwp1_ok (code := zc_125) (cuts := [25]) rfl 400 h
set_option maxRecDepth 100000 in
theorem k_125_25 {d : Nat} {Q : Int32 → zS → Prop} {x1 x2 x3 : Int32} {σ : zS} (h : (if x3 < 512 then (if x2 = (-1) then Q (-2) σ else (ZC d 168 [.ref 0, .int x2] σ (fun v2 s1 => (if v2 = 0 then (ZC d 160 [.int x2, .int x1] s1 (fun v4 s3 => Z d 125 Q 25 [.ref 0, .int x1, .int v4, .int (x3 + 1)] [] s3)) else (ZC d 138 [.ref 0, .int x2] s1 (fun _ s5 => (ZC d 0 [.int x2] s5 (fun v8 s7 => Q v8 s7)))))))) else Q (-2) σ)) : Z d 125 Q 25 [.ref 0, .int x1, .int x2, .int x3] [] σ :=
  zwp1_ok (code := zc_125) (cuts := [25]) rfl 400 h
set_option maxRecDepth 100000 in
theorem k_126_0 {d : Nat} {Q : Int32 → zS → Prop} {x1 x2 : Int32} {σ : zS} (h : (ZC d 133 [.int x2, .int 1, .int 20] σ (fun v2 s1 => (if v2 = 0 then Q (-1) s1 else (ZC d 5 [.ref 191, .int 0] s1 (fun _ s3 => Z d 126 Q 34 [.ref 0, .int x1, .int x2, .int x1, .int 0, .int (-1), .int (-1), .int 0, (.retAddr 0)] [] s3)))))) : Z d 126 Q 0 [.ref 0, .int x1, .int x2, (.retAddr 0), (.retAddr 0), (.retAddr 0), (.retAddr 0), (.retAddr 0), (.retAddr 0)] [] σ :=
  zwp1_ok (code := zc_126) (cuts := [34, 54]) rfl 400 h
set_option maxRecDepth 100000 in
theorem k_126_34 {d : Nat} {Q : Int32 → zS → Prop} {x1 x2 x3 x4 x5 x6 x7 : Int32} {xw8 : Value} {σ : zS} (h : (if x7 < x2 then (ZC d 71 [.ref 23, .ref 14] σ (fun _ s1 => Z d 126 Q 54 [.ref 0, .int x1, .int x2, .int x3, .int x4, .int x5, .int x6, .int x7, .int 0] [] s1)) else (ZC d 155 [.ref 0] σ (fun v4 s3 => (if v4 = (-1) then (ZC d 140 [.ref 0, .int x5, .int x6, .int v4, .int 0] s3 (fun _ s5 => Q x4 s5)) else (if zin v4 10 = true then (ZC d 140 [.ref 0, .int x5, .int x6, .int v4, .int (s3 191 (Int32.toNatClampNeg v4))] s3 (fun _ s7 => Q x4 s7)) else False)))))) : Z d 126 Q 34 [.ref 0, .int x1, .int x2, .int x3, .int x4, .int x5, .int x6, .int x7, xw8] [] σ :=
  zwp1_ok (code := zc_126) (cuts := [34, 54]) rfl 400 h
set_option maxRecDepth 100000 in
theorem k_126_54 {d : Nat} {Q : Int32 → zS → Prop} {x1 x2 x3 x4 x5 x6 x7 x8 : Int32} {σ : zS} (h : (if x8 < (σ 14 3) then (if zin x8 9 = true then Z d 126 Q 54 [.ref 0, .int x1, .int x2, .int ((x3 * 1103515245) + 12345), .int x4, .int x5, .int x6, .int x7, .int (x8 + 1)] [] (zup σ 27 (Int32.toNatClampNeg x8) (zrem (zushr ((x3 * 1103515245) + 12345) 16) 10)) else False) else (ZC d 150 [.ref 0, .int 300] σ (fun v2 s1 => (if v2 = (-1) then Z d 126 Q 34 [.ref 0, .int x1, .int x2, .int x3, .int x4, .int x5, .int x6, .int (x7 + 1), .int v2] [] s1 else (ZC d 134 [.ref 0, .int (s1 0 14)] s1 (fun v4 s3 => (if v4 = 0 then Z d 126 Q 34 [.ref 0, .int x1, .int x2, .int x3, .int x4, .int x5, .int x6, .int (x7 + 1), .int v2] [] s3 else (if zin (s3 0 14) 10 = true then (if zin (s3 0 14) 10 = true then (if x5 = (-1) then (ZC d 3 [.int x6, .int v2] (zup s3 191 (Int32.toNatClampNeg (s3 0 14)) ((s3 191 (Int32.toNatClampNeg (s3 0 14))) + 1)) (fun v6 s5 => Z d 126 Q 34 [.ref 0, .int x1, .int x2, .int x3, .int (x4 + 1), .int v2, .int v6, .int (x7 + 1), .int v2] [] s5)) else (ZC d 4 [.int x5, .int v2] (zup s3 191 (Int32.toNatClampNeg (s3 0 14)) ((s3 191 (Int32.toNatClampNeg (s3 0 14))) + 1)) (fun v8 s7 => (ZC d 3 [.int x6, .int v2] s7 (fun v10 s9 => Z d 126 Q 34 [.ref 0, .int x1, .int x2, .int x3, .int (x4 + 1), .int v8, .int v10, .int (x7 + 1), .int v2] [] s9))))) else False) else False))))))))) : Z d 126 Q 54 [.ref 0, .int x1, .int x2, .int x3, .int x4, .int x5, .int x6, .int x7, .int x8] [] σ :=
  zwp1_ok (code := zc_126) (cuts := [34, 54]) rfl 400 h
set_option maxRecDepth 100000 in
theorem k_127_0 {d : Nat} {Q : Int32 → zS → Prop} {x1 : Int32} {σ : zS} (h : (ZC d 133 [.int x1, .int 0, .int (((Int32.ofNat 2) : Int32) - 1)] σ (fun v2 s1 => (if v2 = 0 then Q 0 s1 else (if zin x1 2 = true then Z d 127 Q 21 [.ref 0, .int x1] [(.ref ([192, 203].getD (Int32.toNatClampNeg x1) 0))] s1 else False))))) : Z d 127 Q 0 [.ref 0, .int x1] [] σ :=
  zwp1_ok (code := zc_127) (cuts := [21, 32]) rfl 400 h
set_option maxRecDepth 100000 in
theorem k_127_21_192 {d : Nat} {Q : Int32 → zS → Prop} {x1 : Int32} {σ : zS} (h : (if zin x1 2 = true then Z d 127 Q 32 [.ref 0, .int x1] [(.ref ([192, 203].getD (Int32.toNatClampNeg x1) 0))] σ else False)) : Z d 127 Q 21 [.ref 0, .int x1] [.ref 192] σ :=
  zwp1_ok (code := zc_127) (cuts := [21, 32]) rfl 400 h
set_option maxRecDepth 100000 in
theorem k_127_21_203 {d : Nat} {Q : Int32 → zS → Prop} {x1 : Int32} {σ : zS} (h : (if zin x1 2 = true then Z d 127 Q 32 [.ref 0, .int x1] [(.ref ([192, 203].getD (Int32.toNatClampNeg x1) 0))] σ else False)) : Z d 127 Q 21 [.ref 0, .int x1] [.ref 203] σ :=
  zwp1_ok (code := zc_127) (cuts := [21, 32]) rfl 400 h
set_option maxRecDepth 100000 in
theorem k_127_32_192 {d : Nat} {Q : Int32 → zS → Prop} {x1 : Int32} {σ : zS} (h : (ZC d 23 [.ref 192, .ref 14, .ref 32] σ (fun _ s1 => Q 1 s1))) : Z d 127 Q 32 [.ref 0, .int x1] [.ref 192] σ :=
  zwp1_ok (code := zc_127) (cuts := [21, 32]) rfl 400 h
set_option maxRecDepth 100000 in
theorem k_127_32_203 {d : Nat} {Q : Int32 → zS → Prop} {x1 : Int32} {σ : zS} (h : (ZC d 23 [.ref 203, .ref 14, .ref 32] σ (fun _ s3 => Q 1 s3))) : Z d 127 Q 32 [.ref 0, .int x1] [.ref 203] σ :=
  zwp1_ok (code := zc_127) (cuts := [21, 32]) rfl 400 h
set_option maxRecDepth 100000 in
theorem k_128_0 {d : Nat} {Q : Int32 → zS → Prop} {x1 : Int32} {σ : zS} (h : (ZC d 133 [.int x1, .int 0, .int (((Int32.ofNat 2) : Int32) - 1)] σ (fun v2 s1 => (if v2 = 0 then Q 0 s1 else (if zin x1 2 = true then Z d 128 Q 21 [.ref 0, .int x1] [(.ref ([192, 203].getD (Int32.toNatClampNeg x1) 0))] s1 else False))))) : Z d 128 Q 0 [.ref 0, .int x1] [] σ :=
  zwp1_ok (code := zc_128) (cuts := [21, 32, 44, 65]) rfl 400 h
set_option maxRecDepth 100000 in
theorem k_128_21_192 {d : Nat} {Q : Int32 → zS → Prop} {x1 : Int32} {σ : zS} (h : (if zin x1 2 = true then Z d 128 Q 32 [.ref 0, .int x1] [(.ref ([192, 203].getD (Int32.toNatClampNeg x1) 0))] σ else False)) : Z d 128 Q 21 [.ref 0, .int x1] [.ref 192] σ :=
  zwp1_ok (code := zc_128) (cuts := [21, 32, 44, 65]) rfl 400 h
set_option maxRecDepth 100000 in
theorem k_128_21_203 {d : Nat} {Q : Int32 → zS → Prop} {x1 : Int32} {σ : zS} (h : (if zin x1 2 = true then Z d 128 Q 32 [.ref 0, .int x1] [(.ref ([192, 203].getD (Int32.toNatClampNeg x1) 0))] σ else False)) : Z d 128 Q 21 [.ref 0, .int x1] [.ref 203] σ :=
  zwp1_ok (code := zc_128) (cuts := [21, 32, 44, 65]) rfl 400 h
set_option maxRecDepth 100000 in
theorem k_128_32_192 {d : Nat} {Q : Int32 → zS → Prop} {x1 : Int32} {σ : zS} (h : (if (σ 192 0) = 0 then Q 0 σ else (if zin x1 2 = true then Z d 128 Q 44 [.ref 0, .int x1] [(.ref ([192, 203].getD (Int32.toNatClampNeg x1) 0))] σ else False))) : Z d 128 Q 32 [.ref 0, .int x1] [.ref 192] σ :=
  zwp1_ok (code := zc_128) (cuts := [21, 32, 44, 65]) rfl 400 h
set_option maxRecDepth 100000 in
theorem k_128_32_203 {d : Nat} {Q : Int32 → zS → Prop} {x1 : Int32} {σ : zS} (h : (if (σ 203 0) = 0 then Q 0 σ else (if zin x1 2 = true then Z d 128 Q 44 [.ref 0, .int x1] [(.ref ([192, 203].getD (Int32.toNatClampNeg x1) 0))] σ else False))) : Z d 128 Q 32 [.ref 0, .int x1] [.ref 203] σ :=
  zwp1_ok (code := zc_128) (cuts := [21, 32, 44, 65]) rfl 400 h
set_option maxRecDepth 100000 in
theorem k_128_44_192 {d : Nat} {Q : Int32 → zS → Prop} {x1 : Int32} {σ : zS} (h : (if (σ 192 1) = (σ 14 3) then (if zin x1 2 = true then Z d 128 Q 65 [.ref 0, .int x1] [(.ref ([192, 203].getD (Int32.toNatClampNeg x1) 0))] σ else False) else Q 0 σ)) : Z d 128 Q 44 [.ref 0, .int x1] [.ref 192] σ :=
  zwp1_ok (code := zc_128) (cuts := [21, 32, 44, 65]) rfl 400 h
set_option maxRecDepth 100000 in
theorem k_128_44_203 {d : Nat} {Q : Int32 → zS → Prop} {x1 : Int32} {σ : zS} (h : (if (σ 203 1) = (σ 14 3) then (if zin x1 2 = true then Z d 128 Q 65 [.ref 0, .int x1] [(.ref ([192, 203].getD (Int32.toNatClampNeg x1) 0))] σ else False) else Q 0 σ)) : Z d 128 Q 44 [.ref 0, .int x1] [.ref 203] σ :=
  zwp1_ok (code := zc_128) (cuts := [21, 32, 44, 65]) rfl 400 h
set_option maxRecDepth 100000 in
theorem k_128_65_192 {d : Nat} {Q : Int32 → zS → Prop} {x1 : Int32} {σ : zS} (h : (ZC d 24 [.ref 192, .ref 14, .ref 32] σ (fun _ s1 => Q 1 (zup s1 37 0 0)))) : Z d 128 Q 65 [.ref 0, .int x1] [.ref 192] σ :=
  zwp1_ok (code := zc_128) (cuts := [21, 32, 44, 65]) rfl 400 h
set_option maxRecDepth 100000 in
theorem k_128_65_203 {d : Nat} {Q : Int32 → zS → Prop} {x1 : Int32} {σ : zS} (h : (ZC d 24 [.ref 203, .ref 14, .ref 32] σ (fun _ s3 => Q 1 (zup s3 37 0 0)))) : Z d 128 Q 65 [.ref 0, .int x1] [.ref 203] σ :=
  zwp1_ok (code := zc_128) (cuts := [21, 32, 44, 65]) rfl 400 h
set_option maxRecDepth 100000 in
theorem k_129_0 {d : Nat} {Q : Int32 → zS → Prop} {x1 : Int32} {σ : zS} (h : (if x1 = 0 then Q (σ 14 3) σ else (if x1 = 1 then Q (σ 17 6) σ else (if x1 = 2 then Q (σ 0 13) σ else (if x1 = 3 then Q (σ 17 5) σ else (if x1 = 4 then (ZC d 30 [.ref 17] σ (fun v2 s1 => Q v2 s1)) else (if x1 = 5 then Q (σ 32 4) σ else (if x1 = 6 then (ZC d 146 [.ref 0] σ (fun v4 s3 => Q v4 s3)) else (if x1 = 7 then Q (σ 183 3) σ else (if x1 = 8 then Q (σ 37 0) σ else (if x1 = 9 then Q (σ 187 0) σ else (if x1 = 10 then Q (σ 0 12) σ else (if x1 = 11 then Q (σ 1 1) σ else Q (-1) σ))))))))))))) : Z d 129 Q 0 [.ref 0, .int x1] [] σ :=
  zwp1_ok (code := zc_129) (cuts := []) rfl 400 h
set_option maxRecDepth 100000 in
theorem k_130_0 {d : Nat} {Q : Int32 → zS → Prop} {x1 : Int32} {σ : zS} (h : (if x1 < 0 then False else (if x1 < (σ 0 12) then (if x1 < (Int32.ofNat 16) then (if zin x1 16 = true then Q (σ 190 (Int32.toNatClampNeg x1)) σ else False) else False) else False))) : Z d 130 Q 0 [.ref 0, .int x1] [] σ :=
  zwp1_ok (code := zc_130) (cuts := []) rfl 400 h
set_option maxRecDepth 100000 in
theorem k_131_0 {d : Nat} {Q : Int32 → zS → Prop} {x0 : Int32} {σ : zS} (h : Q (zshl 1 x0) σ) : Z d 131 Q 0 [.int x0] [] σ :=
  zwp1_ok (code := zc_131) (cuts := []) rfl 400 h
set_option maxRecDepth 100000 in
theorem k_132_0 {d : Nat} {Q : Int32 → zS → Prop} {x0 x1 : Int32} {σ : zS} (h : (if ((zshr x0 x1) &&& 1) = 0 then Q 0 σ else Q 1 σ)) : Z d 132 Q 0 [.int x0, .int x1] [] σ :=
  zwp1_ok (code := zc_132) (cuts := []) rfl 400 h
set_option maxRecDepth 100000 in
theorem k_133_0 {d : Nat} {Q : Int32 → zS → Prop} {x0 x1 x2 : Int32} {σ : zS} (h : (if x0 < x1 then Q 0 σ else (if x2 < x0 then Q 0 σ else Q 1 σ))) : Z d 133 Q 0 [.int x0, .int x1, .int x2] [] σ :=
  zwp1_ok (code := zc_133) (cuts := []) rfl 400 h
set_option maxRecDepth 100000 in
theorem k_134_0 {d : Nat} {Q : Int32 → zS → Prop} {x1 : Int32} {σ : zS} (h : (if x1 < 0 then Q 0 σ else (if x1 < (σ 14 3) then Q 1 σ else Q 0 σ))) : Z d 134 Q 0 [.ref 0, .int x1] [] σ :=
  zwp1_ok (code := zc_134) (cuts := []) rfl 400 h
set_option maxRecDepth 100000 in
theorem k_135_0 {d : Nat} {Q : Int32 → zS → Prop} {x1 : Int32} {σ : zS} (h : (ZC d 134 [.ref 0, .int x1] σ (fun v2 s1 => (if v2 = 0 then Q 0 s1 else (ZC d 73 [.ref 14] s1 (fun v4 s3 => (ZC d 132 [.int v4, .int x1] s3 (fun v6 s5 => (if v6 = 0 then Q 0 s5 else Q 1 s5))))))))) : Z d 135 Q 0 [.ref 0, .int x1] [] σ :=
  zwp1_ok (code := zc_135) (cuts := []) rfl 400 h
set_option maxRecDepth 100000 in
theorem k_136_0 {d : Nat} {Q : Int32 → zS → Prop} {x1 : Int32} {σ : zS} (h : (ZC d 135 [.ref 0, .int x1] σ (fun v2 s1 => (if v2 = 0 then Q 0 s1 else (if zin x1 9 = true then (if (s1 20 (Int32.toNatClampNeg x1)) = (-1) then Q 1 s1 else Q 0 s1) else False))))) : Z d 136 Q 0 [.ref 0, .int x1] [] σ :=
  zwp1_ok (code := zc_136) (cuts := []) rfl 400 h
set_option maxRecDepth 100000 in
theorem k_137_0 {d : Nat} {Q : Int32 → zS → Prop}  {σ : zS} (h : (ZC d 35 [.ref 37, .ref 14, .ref 32] σ (fun _ s1 => (ZC d 36 [.ref 37] s1 (fun _ s3 => Q 0 s3))))) : Z d 137 Q 0 [.ref 0] [] σ :=
  zwp1_ok (code := zc_137) (cuts := []) rfl 400 h
set_option maxRecDepth 100000 in
theorem k_138_0 {d : Nat} {Q : Int32 → zS → Prop} {x1 : Int32} {σ : zS} (h : Q 0 (zup (zup σ 190 0 x1) 0 12 1)) : Z d 138 Q 0 [.ref 0, .int x1] [] σ :=
  zwp1_ok (code := zc_138) (cuts := []) rfl 400 h
set_option maxRecDepth 100000 in
theorem k_139_0 {d : Nat} {Q : Int32 → zS → Prop} {x1 x2 : Int32} {σ : zS} (h : Q 0 (zup (zup (zup σ 190 0 x1) 190 1 x2) 0 12 2)) : Z d 139 Q 0 [.ref 0, .int x1, .int x2] [] σ :=
  zwp1_ok (code := zc_139) (cuts := []) rfl 400 h
set_option maxRecDepth 100000 in
theorem k_140_0 {d : Nat} {Q : Int32 → zS → Prop} {x1 x2 x3 x4 : Int32} {σ : zS} (h : Q 0 (zup (zup (zup (zup (zup σ 190 0 x1) 190 1 x2) 190 2 x3) 190 3 x4) 0 12 4)) : Z d 140 Q 0 [.ref 0, .int x1, .int x2, .int x3, .int x4] [] σ :=
  zwp1_ok (code := zc_140) (cuts := []) rfl 400 h
set_option maxRecDepth 100000 in
theorem k_141_0 {d : Nat} {Q : Int32 → zS → Prop}  {σ : zS} (h : (ZC d 61 [.ref 1] σ (fun v2 s1 => (if v2 = 0 then Z d 141 Q 14 [.ref 0, .int 0] [] s1 else Q 0 s1)))) : Z d 141 Q 0 [.ref 0, (.retAddr 0)] [] σ :=
  zwp1_ok (code := zc_141) (cuts := [14]) rfl 400 h
set_option maxRecDepth 100000 in
theorem k_141_14 {d : Nat} {Q : Int32 → zS → Prop} {x1 : Int32} {σ : zS} (h : (if x1 < 9 then (ZC d 142 [.ref 0, .int ((σ 14 3) + x1)] σ (fun v2 s1 => (if v2 = 0 then Q (-1) s1 else (ZC d 61 [.ref 1] s1 (fun v4 s3 => (if v4 = 0 then (ZC d 66 [.ref 1, .int 59] s3 (fun v6 s5 => (if v6 = 0 then Q (-1) s5 else Z d 141 Q 14 [.ref 0, .int (x1 + 1)] [] s5))) else Q (x1 + 1) s3)))))) else Q (-1) σ)) : Z d 141 Q 14 [.ref 0, .int x1] [] σ :=
  zwp1_ok (code := zc_141) (cuts := [14]) rfl 400 h
set_option maxRecDepth 100000 in
theorem k_142_0 {d : Nat} {Q : Int32 → zS → Prop} {x1 : Int32} {σ : zS} (h : (if x1 < 0 then Q 0 σ else (if x1 < 9 then (ZC d 67 [.ref 1, .int 0] σ (fun v2 s1 => (if v2 = (-1) then Q 0 s1 else (ZC d 66 [.ref 1, .int 47] s1 (fun v4 s3 => (if v4 = 0 then Q 0 s3 else (ZC d 67 [.ref 1, .int 1] s3 (fun v6 s5 => (if v6 = (-1) then Q 0 s5 else (ZC d 66 [.ref 1, .int 62] s5 (fun v8 s7 => (if v8 = 0 then (if zin x1 9 = true then (if zin x1 9 = true then (if zin x1 9 = true then Q 1 (zup (zup (zup s7 18 (Int32.toNatClampNeg x1) v2) 15 (Int32.toNatClampNeg x1) v6) 16 (Int32.toNatClampNeg x1) 0) else False) else False) else False) else (ZC d 143 [.ref 0] s7 (fun v10 s9 => (if v10 = 0 then Q 0 s9 else (if zin x1 9 = true then (if zin x1 9 = true then (if zin x1 9 = true then Q 1 (zup (zup (zup s9 18 (Int32.toNatClampNeg x1) v2) 15 (Int32.toNatClampNeg x1) v6) 16 (Int32.toNatClampNeg x1) v10) else False) else False) else False)))))))))))))))) else Q 0 σ))) : Z d 142 Q 0 [.ref 0, .int x1, (.retAddr 0), (.retAddr 0), (.retAddr 0)] [] σ :=
  zwp1_ok (code := zc_142) (cuts := []) rfl 400 h
set_option maxRecDepth 100000 in
theorem k_143_0 {d : Nat} {Q : Int32 → zS → Prop}  {σ : zS} (h : (ZC d 68 [.ref 1, .int 0] σ (fun v2 s1 => Z d 143 Q 13 [.ref 0, .int 0, .int v2, .int 0] [] s1))) : Z d 143 Q 0 [.ref 0, (.retAddr 0), (.retAddr 0), (.retAddr 0)] [] σ :=
  zwp1_ok (code := zc_143) (cuts := [13]) rfl 400 h
set_option maxRecDepth 100000 in
theorem k_143_13 {d : Nat} {Q : Int32 → zS → Prop} {x1 x2 x3 : Int32} {σ : zS} (h : (if x3 < 9 then (if x2 = (-1) then Q x1 σ else (ZC d 131 [.int x2] σ (fun v2 s1 => (ZC d 68 [.ref 1, .int (x2 + 1)] s1 (fun v4 s3 => Z d 143 Q 13 [.ref 0, .int (x1 ||| v2), .int v4, .int (x3 + 1)] [] s3))))) else Q x1 σ)) : Z d 143 Q 13 [.ref 0, .int x1, .int x2, .int x3] [] σ :=
  zwp1_ok (code := zc_143) (cuts := [13]) rfl 400 h
set_option maxRecDepth 100000 in
theorem k_144_0_i15 {d : Nat} {Q : Int32 → zS → Prop} {x1 x2 : Int32} {σ : zS} (h : (if x1 < 0 then Q (-1) σ else (if x1 < (Int32.ofNat 9) then (if zin x1 9 = true then (if zin x1 9 = true then Q (σ 15 (Int32.toNatClampNeg x1)) (zup σ 15 (Int32.toNatClampNeg x1) x2) else False) else False) else Q (-1) σ))) : Z d 144 Q 0 [.ref 15, .int x1, .int x2, (.retAddr 0)] [] σ :=
  zwp1_ok (code := zc_144) (cuts := []) rfl 400 h
set_option maxRecDepth 100000 in
theorem k_144_0_i16 {d : Nat} {Q : Int32 → zS → Prop} {x1 x2 : Int32} {σ : zS} (h : (if x1 < 0 then Q (-1) σ else (if x1 < (Int32.ofNat 9) then (if zin x1 9 = true then (if zin x1 9 = true then Q (σ 16 (Int32.toNatClampNeg x1)) (zup σ 16 (Int32.toNatClampNeg x1) x2) else False) else False) else Q (-1) σ))) : Z d 144 Q 0 [.ref 16, .int x1, .int x2, (.retAddr 0)] [] σ :=
  zwp1_ok (code := zc_144) (cuts := []) rfl 400 h
set_option maxRecDepth 100000 in
theorem k_144_0_i18 {d : Nat} {Q : Int32 → zS → Prop} {x1 x2 : Int32} {σ : zS} (h : (if x1 < 0 then Q (-1) σ else (if x1 < (Int32.ofNat 9) then (if zin x1 9 = true then (if zin x1 9 = true then Q (σ 18 (Int32.toNatClampNeg x1)) (zup σ 18 (Int32.toNatClampNeg x1) x2) else False) else False) else Q (-1) σ))) : Z d 144 Q 0 [.ref 18, .int x1, .int x2, (.retAddr 0)] [] σ :=
  zwp1_ok (code := zc_144) (cuts := []) rfl 400 h
set_option maxRecDepth 100000 in
theorem k_145_0 {d : Nat} {Q : Int32 → zS → Prop} {x0 x1 : Int32} {σ : zS} (h : (if x0 = 0 then (ZC d 4 [.int 9, .int (zi2b x1)] σ (fun v2 s1 => (ZC d 3 [.int 0, .int v2] s1 (fun v4 s3 => Q v4 s3)))) else (if x0 = 1 then (ZC d 4 [.int 9, .int (zi2s x1)] σ (fun v6 s5 => (ZC d 3 [.int 0, .int v6] s5 (fun v8 s7 => Q v8 s7)))) else (ZC d 4 [.int 9, .int x1] σ (fun v10 s9 => (ZC d 3 [.int 0, .int v10] s9 (fun v12 s11 => Q v12 s11))))))) : Z d 145 Q 0 [.int x0, .int x1, (.retAddr 0)] [] σ :=
  zwp1_ok (code := zc_145) (cuts := []) rfl 400 h
set_option maxRecDepth 100000 in
theorem k_146_0 {d : Nat} {Q : Int32 → zS → Prop}  {σ : zS} (h : Z d 146 Q 4 [.ref 0, .int 0, .int 0] [] σ) : Z d 146 Q 0 [.ref 0, (.retAddr 0), (.retAddr 0)] [] σ :=
  zwp1_ok (code := zc_146) (cuts := [4]) rfl 400 h
set_option maxRecDepth 100000 in
theorem k_146_4 {d : Nat} {Q : Int32 → zS → Prop} {x1 x2 : Int32} {σ : zS} (h : (if x2 < (σ 14 3) then (if zin x2 9 = true then Z d 146 Q 4 [.ref 0, .int (x1 + (σ 18 (Int32.toNatClampNeg x2))), .int (x2 + 1)] [] σ else False) else Q x1 σ)) : Z d 146 Q 4 [.ref 0, .int x1, .int x2] [] σ :=
  zwp1_ok (code := zc_146) (cuts := [4]) rfl 400 h
set_option maxRecDepth 100000 in
theorem k_147_0 {d : Nat} {Q : Int32 → zS → Prop}  {σ : zS} (h : (ZC d 75 [.ref 14, .int (σ 0 13)] σ (fun v2 s1 => Q ((σ 14 5) &&& v2) s1))) : Z d 147 Q 0 [.ref 0, .ref 14] [] σ :=
  zwp1_ok (code := zc_147) (cuts := []) rfl 400 h
set_option maxRecDepth 100000 in
theorem k_148_0 {d : Nat} {Q : Int32 → zS → Prop}  {σ : zS} (h : (ZC d 77 [.ref 14, .int 0] σ (fun _ s1 => Z d 148 Q 21 [.ref 0, .int (σ 17 6), .int 0] [] s1))) : Z d 148 Q 0 [.ref 0, (.retAddr 0), (.retAddr 0)] [] σ :=
  zwp1_ok (code := zc_148) (cuts := [21]) rfl 400 h
set_option maxRecDepth 100000 in
theorem k_148_21 {d : Nat} {Q : Int32 → zS → Prop} {x1 x2 : Int32} {σ : zS} (h : (if x2 < (σ 14 3) then (ZC d 132 [.int (σ 14 4), .int x2] σ (fun v2 s1 => (if v2 = 0 then Z d 148 Q 21 [.ref 0, .int x1, .int (x2 + 1)] [] s1 else (if zin x2 9 = true then (ZC d 132 [.int (s1 14 5), .int x2] s1 (fun v4 s3 => (if v4 = 0 then (ZC d 15 [.ref 32, .int x1, .int x2, .int (s1 22 (Int32.toNatClampNeg x2)), .int 0] s3 (fun _ s5 => Z d 148 Q 21 [.ref 0, .int x1, .int (x2 + 1)] [] s5)) else (ZC d 15 [.ref 32, .int x1, .int x2, .int (s1 22 (Int32.toNatClampNeg x2)), .int 1] s3 (fun _ s7 => Z d 148 Q 21 [.ref 0, .int x1, .int (x2 + 1)] [] s7))))) else False)))) else (ZC d 0 [.int (σ 14 4)] σ (fun v10 s9 => Q v10 s9)))) : Z d 148 Q 21 [.ref 0, .int x1, .int x2] [] σ :=
  zwp1_ok (code := zc_148) (cuts := [21]) rfl 400 h
set_option maxRecDepth 100000 in
theorem k_149_0 {d : Nat} {Q : Int32 → zS → Prop} {x1 x2 x3 : Int32} {σ : zS} (h : (if x1 = 109 then Z d 149 Q 12 [.ref 0, .int x1, .int x2, .int x3, .int 0, .int 0] [] σ else (ZC d 134 [.ref 0, .int x2] σ (fun v2 s1 => (if v2 = 0 then Q (-1) s1 else (if x1 = 97 then (ZC d 31 [.ref 17, .int x2] s1 (fun _ s3 => Q 0 s3)) else (if x1 = 116 then (if zin x2 9 = true then Q 0 (zup s1 18 (Int32.toNatClampNeg x2) x3) else False) else (ZC d 136 [.ref 0, .int x2] s1 (fun v6 s5 => (if v6 = 0 then Q (-1) s5 else (if x1 = 102 then (ZC d 27 [.ref 17, .int x2, .int (s5 17 6), .int (-1), .int 1] s5 (fun _ s7 => Q 0 s7)) else (ZC d 27 [.ref 17, .int x2, .int (s5 17 6), .int (-1), .int 0] s5 (fun _ s9 => Q 0 s9))))))))))))) : Z d 149 Q 0 [.ref 0, .int x1, .int x2, .int x3, (.retAddr 0), (.retAddr 0)] [] σ :=
  zwp1_ok (code := zc_149) (cuts := [12]) rfl 400 h
set_option maxRecDepth 100000 in
theorem k_149_12 {d : Nat} {Q : Int32 → zS → Prop} {x1 x2 x3 x4 x5 : Int32} {σ : zS} (h : (if x5 < x3 then (ZC d 148 [.ref 0] σ (fun v2 s1 => Z d 149 Q 12 [.ref 0, .int x1, .int x2, .int x3, .int (x4 + v2), .int (x5 + 1)] [] s1)) else Q x4 σ)) : Z d 149 Q 12 [.ref 0, .int x1, .int x2, .int x3, .int x4, .int x5] [] σ :=
  zwp1_ok (code := zc_149) (cuts := [12]) rfl 400 h
set_option maxRecDepth 100000 in
theorem k_150_0 {d : Nat} {Q : Int32 → zS → Prop} {x1 : Int32} {σ : zS} (h : (ZC d 75 [.ref 23, .int (σ 0 13)] (zup (zup σ 0 14 (-1)) 0 15 0) (fun v2 s1 => Z d 150 Q 24 [.ref 0, .int x1, .int v2, .int 0, (.retAddr 0), (.retAddr 0)] [] s1))) : Z d 150 Q 0 [.ref 0, .int x1, (.retAddr 0), (.retAddr 0), (.retAddr 0), (.retAddr 0)] [] σ :=
  zwp1_ok (code := zc_150) (cuts := [24]) rfl 400 h
set_option maxRecDepth 100000 in
theorem k_150_24 {d : Nat} {Q : Int32 → zS → Prop} {x1 x2 x3 : Int32} {xw4 xw5 : Value} {σ : zS} (h : (if x3 < x1 then (ZC d 77 [.ref 23, .int 0] σ (fun _ s1 => (if ((s1 23 4) &&& (((s1 23 5) &&& x2) ^^^ (-1))) = 0 then (ZC d 0 [.int ((s1 23 5) &&& x2)] s1 (fun v4 s3 => Z d 150 Q 24 [.ref 0, .int x1, .int x2, .int (x3 + 1), .int ((s1 23 5) &&& x2), .int ((s1 23 4) &&& (((s1 23 5) &&& x2) ^^^ (-1)))] [] (zup s3 0 15 ((s1 0 15) + v4)))) else (ZC d 151 [.int ((s1 23 4) &&& (((s1 23 5) &&& x2) ^^^ (-1)))] s1 (fun v6 s5 => (ZC d 131 [.int v6] (zup s5 0 14 v6) (fun v8 s7 => (ZC d 0 [.int (((s1 23 5) &&& x2) &&& (v8 - 1))] s7 (fun v10 s9 => Q x3 (zup s9 0 15 ((s5 0 15) + v10))))))))))) else Q (-1) σ)) : Z d 150 Q 24 [.ref 0, .int x1, .int x2, .int x3, xw4, xw5] [] σ :=
  zwp1_ok (code := zc_150) (cuts := [24]) rfl 400 h
set_option maxRecDepth 100000 in
theorem k_151_0 {d : Nat} {Q : Int32 → zS → Prop} {x0 : Int32} {σ : zS} (h : (ZC d 0 [.int ((x0 &&& (-x0)) - 1)] σ (fun v2 s1 => Q v2 s1))) : Z d 151 Q 0 [.int x0] [] σ :=
  zwp1_ok (code := zc_151) (cuts := []) rfl 400 h
set_option maxRecDepth 100000 in
theorem k_152_0 {d : Nat} {Q : Int32 → zS → Prop} {x0 : Int32} {σ : zS} (h : (if x0 = (-1) then Q 300 σ else Q x0 σ)) : Z d 152 Q 0 [.int x0] [] σ :=
  zwp1_ok (code := zc_152) (cuts := []) rfl 400 h
set_option maxRecDepth 100000 in
theorem k_153_0 {d : Nat} {Q : Int32 → zS → Prop} {x1 x2 : Int32} {σ : zS} (h : (ZC d 71 [.ref 23, .ref 14] σ (fun _ s1 => (ZC d 33 [.ref 26, .int x1, .int x2] s1 (fun _ s3 => (ZC d 150 [.ref 0, .int 300] s3 (fun v6 s5 => Q v6 s5))))))) : Z d 153 Q 0 [.ref 0, .int x1, .int x2] [] σ :=
  zwp1_ok (code := zc_153) (cuts := []) rfl 400 h
set_option maxRecDepth 100000 in
theorem k_154_0 {d : Nat} {Q : Int32 → zS → Prop} {x1 : Int32} {σ : zS} (h : (ZC d 5 [.ref 191, .int 0] σ (fun _ s1 => Z d 154 Q 12 [.ref 0, .int x1, .int 0, .int 0, (.retAddr 0)] [] s1))) : Z d 154 Q 0 [.ref 0, .int x1, (.retAddr 0), (.retAddr 0), (.retAddr 0)] [] σ :=
  zwp1_ok (code := zc_154) (cuts := [12, 46]) rfl 400 h
set_option maxRecDepth 100000 in
theorem k_154_12 {d : Nat} {Q : Int32 → zS → Prop} {x1 x2 x3 : Int32} {xw4 : Value} {σ : zS} (h : (if x3 < x1 then (ZC d 77 [.ref 23, .int 0] σ (fun _ s1 => (if (s1 23 4) = 0 then Z d 154 Q 46 [.ref 0, .int x1, .int (x2 + 1), .int x3, .int 0] [] s1 else Z d 154 Q 46 [.ref 0, .int x1, .int (x2 + 0), .int x3, .int 0] [] s1))) else Q x2 σ)) : Z d 154 Q 12 [.ref 0, .int x1, .int x2, .int x3, xw4] [] σ :=
  zwp1_ok (code := zc_154) (cuts := [12, 46]) rfl 400 h
set_option maxRecDepth 100000 in
theorem k_154_46 {d : Nat} {Q : Int32 → zS → Prop} {x1 x2 x3 x4 : Int32} {σ : zS} (h : (if x4 < (σ 14 3) then (if zin x4 10 = true then (if zin x4 10 = true then Z d 154 Q 46 [.ref 0, .int x1, .int x2, .int x3, .int (x4 + 1)] [] (zup σ 191 (Int32.toNatClampNeg x4) ((σ 191 (Int32.toNatClampNeg x4)) + ((zshr (σ 23 4) x4) &&& 1))) else False) else False) else Z d 154 Q 12 [.ref 0, .int x1, .int x2, .int (x3 + 1), .int x4] [] σ)) : Z d 154 Q 46 [.ref 0, .int x1, .int x2, .int x3, .int x4] [] σ :=
  zwp1_ok (code := zc_154) (cuts := [12, 46]) rfl 400 h
set_option maxRecDepth 100000 in
theorem k_155_0 {d : Nat} {Q : Int32 → zS → Prop}  {σ : zS} (h : Z d 155 Q 4 [.ref 0, .int (-1), .int 0] [] σ) : Z d 155 Q 0 [.ref 0, (.retAddr 0), (.retAddr 0)] [] σ :=
  zwp1_ok (code := zc_155) (cuts := [4]) rfl 400 h
set_option maxRecDepth 100000 in
theorem k_155_4 {d : Nat} {Q : Int32 → zS → Prop} {x1 x2 : Int32} {σ : zS} (h : (if x2 < (σ 14 3) then (if zin x2 10 = true then (if x1 = (-1) then (if 0 < (σ 191 (Int32.toNatClampNeg x2)) then Z d 155 Q 4 [.ref 0, .int x2, .int (x2 + 1)] [] σ else Z d 155 Q 4 [.ref 0, .int x1, .int (x2 + 1)] [] σ) else (if zin x1 10 = true then (if (σ 191 (Int32.toNatClampNeg x1)) < (σ 191 (Int32.toNatClampNeg x2)) then Z d 155 Q 4 [.ref 0, .int x2, .int (x2 + 1)] [] σ else Z d 155 Q 4 [.ref 0, .int x1, .int (x2 + 1)] [] σ) else False)) else False) else Q x1 σ)) : Z d 155 Q 4 [.ref 0, .int x1, .int x2] [] σ :=
  zwp1_ok (code := zc_155) (cuts := [4]) rfl 400 h
set_option maxRecDepth 100000 in
theorem k_156_0 {d : Nat} {Q : Int32 → zS → Prop}  {σ : zS} (h : Z d 156 Q 4 [.ref 0, .int 0, .int 0] [] σ) : Z d 156 Q 0 [.ref 0, (.retAddr 0), (.retAddr 0)] [] σ :=
  zwp1_ok (code := zc_156) (cuts := [4]) rfl 400 h
set_option maxRecDepth 100000 in
theorem k_156_4 {d : Nat} {Q : Int32 → zS → Prop} {x1 x2 : Int32} {σ : zS} (h : (if x2 < (σ 14 3) then (if zin x2 10 = true then Z d 156 Q 4 [.ref 0, .int (x1 + (σ 191 (Int32.toNatClampNeg x2))), .int (x2 + 1)] [] σ else False) else Q x1 σ)) : Z d 156 Q 4 [.ref 0, .int x1, .int x2] [] σ :=
  zwp1_ok (code := zc_156) (cuts := [4]) rfl 400 h
set_option maxRecDepth 100000 in
theorem k_157_0 {d : Nat} {Q : Int32 → zS → Prop}  {σ : zS} (h : Z d 157 Q 4 [.ref 0, .int 0, .int 0] [] σ) : Z d 157 Q 0 [.ref 0, (.retAddr 0), (.retAddr 0)] [] σ :=
  zwp1_ok (code := zc_157) (cuts := [4]) rfl 400 h
set_option maxRecDepth 100000 in
theorem k_157_4 {d : Nat} {Q : Int32 → zS → Prop} {x1 x2 : Int32} {σ : zS} (h : (if x2 < (σ 14 3) then (if zin x2 10 = true then (if 0 < (σ 191 (Int32.toNatClampNeg x2)) then (ZC d 131 [.int x2] σ (fun v2 s1 => Z d 157 Q 4 [.ref 0, .int (x1 ||| v2), .int (x2 + 1)] [] s1)) else Z d 157 Q 4 [.ref 0, .int (x1 ||| 0), .int (x2 + 1)] [] σ) else False) else Q x1 σ)) : Z d 157 Q 4 [.ref 0, .int x1, .int x2] [] σ :=
  zwp1_ok (code := zc_157) (cuts := [4]) rfl 400 h
set_option maxRecDepth 100000 in
theorem k_158_0 {d : Nat} {Q : Int32 → zS → Prop} {x1 x2 : Int32} {σ : zS} (h : Z d 158 Q 2 [.ref 0, .int x1, .int x2, .int 0] [] σ) : Z d 158 Q 0 [.ref 0, .int x1, .int x2, (.retAddr 0)] [] σ :=
  zwp1_ok (code := zc_158) (cuts := [2]) rfl 400 h
set_option maxRecDepth 100000 in
theorem k_158_2 {d : Nat} {Q : Int32 → zS → Prop} {x1 x2 x3 : Int32} {σ : zS} (h : (if x3 < x2 then (ZC d 77 [.ref 23, .int 0] σ (fun _ s1 => (ZC d 132 [.int (s1 23 4), .int x1] s1 (fun v4 s3 => (if v4 = 0 then Z d 158 Q 2 [.ref 0, .int x1, .int x2, .int (x3 + 1)] [] s3 else Q x3 s3))))) else Q (-1) σ)) : Z d 158 Q 2 [.ref 0, .int x1, .int x2, .int x3] [] σ :=
  zwp1_ok (code := zc_158) (cuts := [2]) rfl 400 h
set_option maxRecDepth 100000 in
theorem k_159_0 {d : Nat} {Q : Int32 → zS → Prop} {x1 x2 : Int32} {σ : zS} (h : (ZC d 71 [.ref 23, .ref 14] σ (fun _ s1 => (ZC d 72 [.ref 14] s1 (fun v4 s3 => (ZC d 32 [.ref 26, .int ((v4 &&& ((s3 17 5) ^^^ (-1))) &&& x2)] s3 (fun _ s5 => (ZC d 29 [.ref 26] s5 (fun _ s7 => (ZC d 27 [.ref 26, .int x1, .int (s7 26 6), .int (-1), .int 0] s7 (fun _ s9 => Z d 159 Q 78 [.ref 0, .int x1, .int x2, .int 1] [] s9))))))))))) : Z d 159 Q 0 [.ref 0, .int x1, .int x2, (.retAddr 0)] [] σ :=
  zwp1_ok (code := zc_159) (cuts := [78]) rfl 400 h
set_option maxRecDepth 100000 in
theorem k_159_78 {d : Nat} {Q : Int32 → zS → Prop} {x1 x2 x3 : Int32} {σ : zS} (h : (if 300 < x3 then Q (-2) σ else (ZC d 77 [.ref 23, .int 1] σ (fun _ s1 => (ZC d 30 [.ref 26] s1 (fun v4 s3 => (if v4 = 0 then Q x3 s3 else Z d 159 Q 78 [.ref 0, .int x1, .int x2, .int (x3 + 1)] [] s3))))))) : Z d 159 Q 78 [.ref 0, .int x1, .int x2, .int x3] [] σ :=
  zwp1_ok (code := zc_159) (cuts := [78]) rfl 400 h
set_option maxRecDepth 100000 in
theorem k_160_0 {d : Nat} {Q : Int32 → zS → Prop} {x0 x1 : Int32} {σ : zS} (h : (ZC d 0 [.int x0] σ (fun v2 s1 => Z d 160 Q 9 [.int x0, .int x1, .int v2, .int (x0 + 1)] [] s1))) : Z d 160 Q 0 [.int x0, .int x1, (.retAddr 0), (.retAddr 0)] [] σ :=
  zwp1_ok (code := zc_160) (cuts := [9, 40]) rfl 400 h
set_option maxRecDepth 100000 in
theorem k_160_9 {d : Nat} {Q : Int32 → zS → Prop} {x0 x1 x2 x3 : Int32} {σ : zS} (h : (if x1 < x3 then Z d 160 Q 40 [.int x0, .int x1, .int x2, .int 0] [] σ else (if (x3 &&& (x1 ^^^ (-1))) = 0 then (ZC d 0 [.int x3] σ (fun v2 s1 => (if v2 = x2 then Q x3 s1 else Z d 160 Q 9 [.int x0, .int x1, .int x2, .int (x3 + 1)] [] s1))) else Z d 160 Q 9 [.int x0, .int x1, .int x2, .int (x3 + 1)] [] σ))) : Z d 160 Q 9 [.int x0, .int x1, .int x2, .int x3] [] σ :=
  zwp1_ok (code := zc_160) (cuts := [9, 40]) rfl 400 h
set_option maxRecDepth 100000 in
theorem k_160_40 {d : Nat} {Q : Int32 → zS → Prop} {x0 x1 x2 x3 : Int32} {σ : zS} (h : (if x1 < x3 then Q (-1) σ else (if (x3 &&& (x1 ^^^ (-1))) = 0 then (ZC d 0 [.int x3] σ (fun v2 s1 => (if v2 = (x2 + 1) then Q x3 s1 else Z d 160 Q 40 [.int x0, .int x1, .int x2, .int (x3 + 1)] [] s1))) else Z d 160 Q 40 [.int x0, .int x1, .int x2, .int (x3 + 1)] [] σ))) : Z d 160 Q 40 [.int x0, .int x1, .int x2, .int x3] [] σ :=
  zwp1_ok (code := zc_160) (cuts := [9, 40]) rfl 400 h
set_option maxRecDepth 100000 in
theorem k_161_0 {d : Nat} {Q : Int32 → zS → Prop} {x1 : Int32} {σ : zS} (h : (ZC d 5 [.ref 191, .int (-1)] σ (fun _ s1 => (if zin x1 10 = true then Z d 161 Q 17 [.ref 0, .int x1, .int 0, (.retAddr 0), (.retAddr 0), (.retAddr 0)] [] (zup s1 191 (Int32.toNatClampNeg x1) 0) else False)))) : Z d 161 Q 0 [.ref 0, .int x1, (.retAddr 0), (.retAddr 0), (.retAddr 0), (.retAddr 0)] [] σ :=
  zwp1_ok (code := zc_161) (cuts := [17, 30, 44]) rfl 400 h
set_option maxRecDepth 100000 in
theorem k_161_17 {d : Nat} {Q : Int32 → zS → Prop} {x1 x2 : Int32} {xw3 xw4 xw5 : Value} {σ : zS} (h : (if x2 < (σ 14 3) then Z d 161 Q 30 [.ref 0, .int x1, .int x2, .int 0, xw4, xw5] [] σ else Q 0 σ)) : Z d 161 Q 17 [.ref 0, .int x1, .int x2, xw3, xw4, xw5] [] σ :=
  zwp1_ok (code := zc_161) (cuts := [17, 30, 44]) rfl 400 h
set_option maxRecDepth 100000 in
theorem k_161_30 {d : Nat} {Q : Int32 → zS → Prop} {x1 x2 x3 : Int32} {xw4 xw5 : Value} {σ : zS} (h : (if x3 < (σ 14 3) then Z d 161 Q 44 [.ref 0, .int x1, .int x2, .int x3, .int 0, xw5] [] σ else Z d 161 Q 17 [.ref 0, .int x1, .int (x2 + 1), .int x3, xw4, xw5] [] σ)) : Z d 161 Q 30 [.ref 0, .int x1, .int x2, .int x3, xw4, xw5] [] σ :=
  zwp1_ok (code := zc_161) (cuts := [17, 30, 44]) rfl 400 h
set_option maxRecDepth 100000 in
theorem k_161_44 {d : Nat} {Q : Int32 → zS → Prop} {x1 x2 x3 x4 : Int32} {xw5 : Value} {σ : zS} (h : (if x4 < (σ 14 3) then (if zin x3 10 = true then (if (σ 191 (Int32.toNatClampNeg x3)) = (-1) then Z d 161 Q 44 [.ref 0, .int x1, .int x2, .int x3, .int (x4 + 1), xw5] [] σ else (ZC d 162 [.ref 0, .int x4, .int x3] σ (fun v2 s1 => (if v2 = 0 then Z d 161 Q 44 [.ref 0, .int x1, .int x2, .int x3, .int (x4 + 1), xw5] [] s1 else (if zin x3 9 = true then (if zin x3 10 = true then (if zin x4 10 = true then (if (s1 191 (Int32.toNatClampNeg x4)) = (-1) then (if zin x4 10 = true then Z d 161 Q 44 [.ref 0, .int x1, .int x2, .int x3, .int (x4 + 1), .int ((s1 15 (Int32.toNatClampNeg x3)) + (s1 191 (Int32.toNatClampNeg x3)))] [] (zup s1 191 (Int32.toNatClampNeg x4) ((s1 15 (Int32.toNatClampNeg x3)) + (s1 191 (Int32.toNatClampNeg x3)))) else False) else (if zin x4 10 = true then (ZC d 4 [.int (s1 191 (Int32.toNatClampNeg x4)), .int ((s1 15 (Int32.toNatClampNeg x3)) + (s1 191 (Int32.toNatClampNeg x3)))] s1 (fun v4 s3 => (if zin x4 10 = true then Z d 161 Q 44 [.ref 0, .int x1, .int x2, .int x3, .int (x4 + 1), .int ((s1 15 (Int32.toNatClampNeg x3)) + (s1 191 (Int32.toNatClampNeg x3)))] [] (zup s3 191 (Int32.toNatClampNeg x4) v4) else False))) else False)) else False) else False) else False))))) else False) else Z d 161 Q 30 [.ref 0, .int x1, .int x2, .int (x3 + 1), .int x4, xw5] [] σ)) : Z d 161 Q 44 [.ref 0, .int x1, .int x2, .int x3, .int x4, xw5] [] σ :=
  zwp1_ok (code := zc_161) (cuts := [17, 30, 44]) rfl 400 h
set_option maxRecDepth 100000 in
theorem k_162_0 {d : Nat} {Q : Int32 → zS → Prop} {x1 x2 : Int32} {σ : zS} (h : (ZC d 135 [.ref 0, .int x1] σ (fun v2 s1 => (if v2 = 0 then Q 0 s1 else (ZC d 135 [.ref 0, .int x2] s1 (fun v4 s3 => (if v4 = 0 then Q 0 s3 else (ZC d 74 [.ref 14, .int x2] s3 (fun v6 s5 => (ZC d 132 [.int v6, .int x1] s5 (fun v8 s7 => (if v8 = 0 then Q 0 s7 else Q 1 s7)))))))))))) : Z d 162 Q 0 [.ref 0, .int x1, .int x2] [] σ :=
  zwp1_ok (code := zc_162) (cuts := []) rfl 400 h
set_option maxRecDepth 100000 in
theorem k_163_0 {d : Nat} {Q : Int32 → zS → Prop} {x1 : Int32} {σ : zS} (h : Z d 163 Q 2 [.ref 0, .int x1, .int 0] [] σ) : Z d 163 Q 0 [.ref 0, .int x1, (.retAddr 0)] [] σ :=
  zwp1_ok (code := zc_163) (cuts := [2]) rfl 400 h
set_option maxRecDepth 100000 in
theorem k_163_2 {d : Nat} {Q : Int32 → zS → Prop} {x1 x2 : Int32} {σ : zS} (h : (if x2 < (σ 14 3) then (if zin x2 10 = true then (if (σ 191 (Int32.toNatClampNeg x2)) = (-1) then Z d 163 Q 2 [.ref 0, .int x1, .int (x2 + 1)] [] σ else (ZC d 162 [.ref 0, .int x1, .int x2] σ (fun v2 s1 => (if v2 = 0 then Z d 163 Q 2 [.ref 0, .int x1, .int (x2 + 1)] [] s1 else (if zin x2 9 = true then (if zin x2 10 = true then (if zin x1 10 = true then (if ((s1 15 (Int32.toNatClampNeg x2)) + (s1 191 (Int32.toNatClampNeg x2))) = (s1 191 (Int32.toNatClampNeg x1)) then Q x2 s1 else Z d 163 Q 2 [.ref 0, .int x1, .int (x2 + 1)] [] s1) else False) else False) else False))))) else False) else Q (-1) σ)) : Z d 163 Q 2 [.ref 0, .int x1, .int x2] [] σ :=
  zwp1_ok (code := zc_163) (cuts := [2]) rfl 400 h
set_option maxRecDepth 100000 in
theorem k_164_0 {d : Nat} {Q : Int32 → zS → Prop} {x1 x2 x3 : Int32} {σ : zS} (h : (ZC d 71 [.ref 23, .ref 14] σ (fun _ s1 => (ZC d 134 [.ref 0, .int x2] s1 (fun v4 s3 => (if v4 = 0 then Z d 164 Q 41 [.ref 0, .int x1, .int x2, .int x3, .int 0, .int 0, (.retAddr 0)] [] s3 else (if zin x2 9 = true then (ZC d 131 [.int x1] s3 (fun v6 s5 => (if zin x2 9 = true then Z d 164 Q 41 [.ref 0, .int x1, .int x2, .int x3, .int 0, .int 0, (.retAddr 0)] [] (zup s5 25 (Int32.toNatClampNeg x2) ((s3 25 (Int32.toNatClampNeg x2)) ||| v6)) else False))) else False))))))) : Z d 164 Q 0 [.ref 0, .int x1, .int x2, .int x3, (.retAddr 0), (.retAddr 0), (.retAddr 0)] [] σ :=
  zwp1_ok (code := zc_164) (cuts := [41, 58]) rfl 400 h
set_option maxRecDepth 100000 in
theorem k_164_41 {d : Nat} {Q : Int32 → zS → Prop} {x1 x2 x3 x4 x5 : Int32} {xw6 : Value} {σ : zS} (h : (if x5 < x3 then (ZC d 77 [.ref 23, .int 0] σ (fun _ s1 => Z d 164 Q 58 [.ref 0, .int x1, .int x2, .int x3, .int x4, .int x5, .int 0] [] s1)) else Q x4 σ)) : Z d 164 Q 41 [.ref 0, .int x1, .int x2, .int x3, .int x4, .int x5, xw6] [] σ :=
  zwp1_ok (code := zc_164) (cuts := [41, 58]) rfl 400 h
set_option maxRecDepth 100000 in
theorem k_164_58 {d : Nat} {Q : Int32 → zS → Prop} {x1 x2 x3 x4 x5 x6 : Int32} {σ : zS} (h : (if x6 < (σ 14 3) then (ZC d 132 [.int (σ 23 4), .int x6] σ (fun v2 s1 => (if v2 = 0 then Z d 164 Q 58 [.ref 0, .int x1, .int x2, .int x3, .int (x4 + 0), .int x5, .int (x6 + 1)] [] s1 else (if zin x6 9 = true then (if (s1 31 (Int32.toNatClampNeg x6)) = x1 then Z d 164 Q 58 [.ref 0, .int x1, .int x2, .int x3, .int (x4 + 1), .int x5, .int (x6 + 1)] [] s1 else Z d 164 Q 58 [.ref 0, .int x1, .int x2, .int x3, .int (x4 + 0), .int x5, .int (x6 + 1)] [] s1) else False)))) else Z d 164 Q 41 [.ref 0, .int x1, .int x2, .int x3, .int x4, .int (x5 + 1), .int x6] [] σ)) : Z d 164 Q 58 [.ref 0, .int x1, .int x2, .int x3, .int x4, .int x5, .int x6] [] σ :=
  zwp1_ok (code := zc_164) (cuts := [41, 58]) rfl 400 h
set_option maxRecDepth 100000 in
theorem k_165_0 {d : Nat} {Q : Int32 → zS → Prop} {x1 x2 : Int32} {σ : zS} (h : (ZC d 71 [.ref 23, .ref 14] σ (fun _ s1 => (ZC d 33 [.ref 26, .int x1, .int 4] s1 (fun _ s3 => (ZC d 33 [.ref 26, .int x2, .int (-4)] s3 (fun _ s5 => Q 0 s5))))))) : Z d 165 Q 0 [.ref 0, .int x1, .int x2] [] σ :=
  zwp1_ok (code := zc_165) (cuts := []) rfl 400 h
set_option maxRecDepth 100000 in
theorem k_166_0 {d : Nat} {Q : Int32 → zS → Prop} {x1 x2 x3 : Int32} {σ : zS} (h : (if x1 = 0 then (ZC d 165 [.ref 0, .int x2, .int x3] σ (fun _ s1 => (ZC d 150 [.ref 0, .int 300] s1 (fun v4 s3 => (ZC d 152 [.int v4] s3 (fun v6 s5 => Z d 166 Q 36 [.ref 0, .int x1, .int x2, .int x3, .int x2, .int x2, .int v6, .int (-1), (.retAddr 0)] [] s5)))))) else (ZC d 165 [.ref 0, .int x2, .int x3] σ (fun _ s7 => (ZC d 150 [.ref 0, .int 300] s7 (fun v10 s9 => (ZC d 152 [.int v10] s9 (fun v12 s11 => Z d 166 Q 36 [.ref 0, .int x1, .int x2, .int x3, .int x3, .int x3, .int v12, .int (-1), (.retAddr 0)] [] s11)))))))) : Z d 166 Q 0 [.ref 0, .int x1, .int x2, .int x3, (.retAddr 0), (.retAddr 0), (.retAddr 0), (.retAddr 0), (.retAddr 0)] [] σ :=
  zwp1_ok (code := zc_166) (cuts := [36]) rfl 400 h
set_option maxRecDepth 100000 in
theorem k_166_36 {d : Nat} {Q : Int32 → zS → Prop} {x1 x2 x3 x4 x5 x6 x7 : Int32} {xw8 : Value} {σ : zS} (h : (if x7 < (σ 14 3) then (if x1 = 0 then (if x1 = 0 then (ZC d 165 [.ref 0, .int x7, .int x3] σ (fun _ s1 => (ZC d 150 [.ref 0, .int 300] s1 (fun v4 s3 => (ZC d 152 [.int v4] s3 (fun v6 s5 => (if x1 = 0 then (if v6 < x6 then Z d 166 Q 36 [.ref 0, .int x1, .int x2, .int x3, .int x4, .int x7, .int v6, .int (x7 + 1), .int v6] [] s5 else Z d 166 Q 36 [.ref 0, .int x1, .int x2, .int x3, .int x4, .int x5, .int x6, .int (x7 + 1), .int v6] [] s5) else (if x6 < v6 then Z d 166 Q 36 [.ref 0, .int x1, .int x2, .int x3, .int x4, .int x7, .int v6, .int (x7 + 1), .int v6] [] s5 else Z d 166 Q 36 [.ref 0, .int x1, .int x2, .int x3, .int x4, .int x5, .int x6, .int (x7 + 1), .int v6] [] s5)))))))) else (ZC d 165 [.ref 0, .int x7, .int x7] σ (fun _ s7 => (ZC d 150 [.ref 0, .int 300] s7 (fun v10 s9 => (ZC d 152 [.int v10] s9 (fun v12 s11 => (if x1 = 0 then (if v12 < x6 then Z d 166 Q 36 [.ref 0, .int x1, .int x2, .int x3, .int x4, .int x7, .int v12, .int (x7 + 1), .int v12] [] s11 else Z d 166 Q 36 [.ref 0, .int x1, .int x2, .int x3, .int x4, .int x5, .int x6, .int (x7 + 1), .int v12] [] s11) else (if x6 < v12 then Z d 166 Q 36 [.ref 0, .int x1, .int x2, .int x3, .int x4, .int x7, .int v12, .int (x7 + 1), .int v12] [] s11 else Z d 166 Q 36 [.ref 0, .int x1, .int x2, .int x3, .int x4, .int x5, .int x6, .int (x7 + 1), .int v12] [] s11))))))))) else (if x1 = 0 then (ZC d 165 [.ref 0, .int x2, .int x3] σ (fun _ s13 => (ZC d 150 [.ref 0, .int 300] s13 (fun v16 s15 => (ZC d 152 [.int v16] s15 (fun v18 s17 => (if x1 = 0 then (if v18 < x6 then Z d 166 Q 36 [.ref 0, .int x1, .int x2, .int x3, .int x4, .int x7, .int v18, .int (x7 + 1), .int v18] [] s17 else Z d 166 Q 36 [.ref 0, .int x1, .int x2, .int x3, .int x4, .int x5, .int x6, .int (x7 + 1), .int v18] [] s17) else (if x6 < v18 then Z d 166 Q 36 [.ref 0, .int x1, .int x2, .int x3, .int x4, .int x7, .int v18, .int (x7 + 1), .int v18] [] s17 else Z d 166 Q 36 [.ref 0, .int x1, .int x2, .int x3, .int x4, .int x5, .int x6, .int (x7 + 1), .int v18] [] s17)))))))) else (ZC d 165 [.ref 0, .int x2, .int x7] σ (fun _ s19 => (ZC d 150 [.ref 0, .int 300] s19 (fun v22 s21 => (ZC d 152 [.int v22] s21 (fun v24 s23 => (if x1 = 0 then (if v24 < x6 then Z d 166 Q 36 [.ref 0, .int x1, .int x2, .int x3, .int x4, .int x7, .int v24, .int (x7 + 1), .int v24] [] s23 else Z d 166 Q 36 [.ref 0, .int x1, .int x2, .int x3, .int x4, .int x5, .int x6, .int (x7 + 1), .int v24] [] s23) else (if x6 < v24 then Z d 166 Q 36 [.ref 0, .int x1, .int x2, .int x3, .int x4, .int x7, .int v24, .int (x7 + 1), .int v24] [] s23 else Z d 166 Q 36 [.ref 0, .int x1, .int x2, .int x3, .int x4, .int x5, .int x6, .int (x7 + 1), .int v24] [] s23)))))))))) else Q x5 σ)) : Z d 166 Q 36 [.ref 0, .int x1, .int x2, .int x3, .int x4, .int x5, .int x6, .int x7, xw8] [] σ :=
  zwp1_ok (code := zc_166) (cuts := [36]) rfl 400 h
set_option maxRecDepth 100000 in
theorem k_167_0 {d : Nat} {Q : Int32 → zS → Prop} {x1 x2 x3 : Int32} {σ : zS} (h : Z d 167 Q 6 [.ref 0, .int x1, .int x2, .int x3, .int 0, .int 0] [] σ) : Z d 167 Q 0 [.ref 0, .int x1, .int x2, .int x3, (.retAddr 0), (.retAddr 0)] [] σ :=
  zwp1_ok (code := zc_167) (cuts := [6]) rfl 400 h
set_option maxRecDepth 100000 in
theorem k_167_6 {d : Nat} {Q : Int32 → zS → Prop} {x1 x2 x3 x4 x5 : Int32} {σ : zS} (h : (if x5 < x3 then (if x5 < (Int32.ofNat 10) then (if zin x5 10 = true then (ZC d 21 [.ref 183, .int x1, .int x2, .int (σ 191 (Int32.toNatClampNeg x5))] σ (fun v2 s1 => Z d 167 Q 6 [.ref 0, .int x1, .int x2, .int x3, .int (x4 + v2), .int (x5 + 1)] [] s1)) else False) else Q x4 σ) else Q x4 σ)) : Z d 167 Q 6 [.ref 0, .int x1, .int x2, .int x3, .int x4, .int x5] [] σ :=
  zwp1_ok (code := zc_167) (cuts := [6]) rfl 400 h
set_option maxRecDepth 100000 in
theorem k_168_0 {d : Nat} {Q : Int32 → zS → Prop} {x1 : Int32} {σ : zS} (h : (ZC d 71 [.ref 23, .ref 14] σ (fun _ s1 => Z d 168 Q 13 [.ref 0, .int x1, .int 0] [] s1))) : Z d 168 Q 0 [.ref 0, .int x1, (.retAddr 0)] [] σ :=
  zwp1_ok (code := zc_168) (cuts := [13]) rfl 400 h
set_option maxRecDepth 100000 in
theorem k_168_13 {d : Nat} {Q : Int32 → zS → Prop} {x1 x2 : Int32} {σ : zS} (h : (if x2 < (σ 14 3) then (ZC d 132 [.int x1, .int x2] σ (fun v2 s1 => (if v2 = 0 then Z d 168 Q 13 [.ref 0, .int x1, .int (x2 + 1)] [] s1 else (ZC d 27 [.ref 26, .int x2, .int (s1 26 6), .int (-1), .int 0] s1 (fun _ s3 => Z d 168 Q 13 [.ref 0, .int x1, .int (x2 + 1)] [] s3))))) else (ZC d 57 [.ref 187, .ref 23] σ (fun v6 s5 => (if v6 &&& 1 = v6 then Q v6 s5 else False))))) : Z d 168 Q 13 [.ref 0, .int x1, .int x2] [] σ :=
  zwp1_ok (code := zc_168) (cuts := [13]) rfl 400 h
