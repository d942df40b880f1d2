/-! A SMALL MACHINE OF ITS OWN: objects are numbers (in the order in which they are made), what they hold are ints by object and place; kinds of objects stand in a table. One step, in any answer type. -/
abbrev zS : Type := Nat → Nat → Int32
abbrev zKd : Type := Nat → Nat × Nat × List Nat
def zput (σ : zS) (o : Nat) (f : Nat → Int32) : zS := fun o' => if o' = o then f else σ o'
def zup (σ : zS) (o i : Nat) (v : Int32) : zS := zput σ o (upd (σ o) i v)
def zin (i : Int32) (n : Nat) : Bool := !decide (i < 0) && decide (i.toNatClampNeg < n)
def zrem (x y : Int32) : Int32 := x - x / y * y
def zshl (x y : Int32) : Int32 := x <<< (y &&& 31)
def zshr (x y : Int32) : Int32 := x >>> (y &&& 31)
def zushr (x y : Int32) : Int32 := (x.toUInt32 >>> (y.toUInt32 &&& Int32.toUInt32 31)).toInt32
def zi2b (x : Int32) : Int32 := x.toInt8.toInt32
def zi2s (x : Int32) : Int32 := x.toInt16.toInt32
def zdec (v : Int32) : Value := if v = 0 then .null else .ref (v.toNatClampNeg - 1)
def zenc : Value → Int32
  | .ref o => nI (o + 1)
  | _ => 0
def zc1 : Value → Bool
  | .int _ => true
  | .ref _ => true
  | .null => true
  | _ => false
def zrefs : Value → Bool
  | .ref o => Nat.blt o 1000
  | .null => true
  | _ => false
section ZST
variable {ρ : Type} (bad : ρ) (K : Nat → List Value → List Value → Nat → zS → ρ) (R : Int32 → Nat → zS → ρ) (C : Nat → List Value → Nat → zS → (Int32 → Nat → zS → ρ) → ρ)
def zBin (f : Int32 → Int32 → Int32) (nx : Nat) (ls st : List Value) (n : Nat) (σ : zS) : ρ := match st with
  | .int y :: .int x :: r => K nx ls (.int (f x y) :: r) n σ
  | _ => bad
def zDiv (f : Int32 → Int32 → Int32) (nx : Nat) (ls st : List Value) (n : Nat) (σ : zS) : ρ := match st with
  | .int y :: .int x :: r => if y = 0 then bad else K nx ls (.int (f x y) :: r) n σ
  | _ => bad
def zUn (f : Int32 → Int32) (nx : Nat) (ls st : List Value) (n : Nat) (σ : zS) : ρ := match st with
  | .int x :: r => K nx ls (.int (f x) :: r) n σ
  | _ => bad
def zCnd (c : ClassFile.Cond) (x y : Int32) (t f : ρ) : ρ := match c with
  | .eq => if x = y then t else f
  | .ne => if x = y then f else t
  | .lt => if x < y then t else f
  | .ge => if x < y then f else t
  | .gt => if y < x then t else f
  | .le => if y < x then f else t
def zIf (c : ClassFile.Cond) (a nx : Nat) (ls st : List Value) (n : Nat) (σ : zS) : ρ := match st with
  | .int x :: r => zCnd c x 0 (K a ls r n σ) (K nx ls r n σ)
  | _ => bad
def zIf2 (c : ClassFile.Cond) (a nx : Nat) (ls st : List Value) (n : Nat) (σ : zS) : ρ := match st with
  | .int y :: .int x :: r => zCnd c x y (K a ls r n σ) (K nx ls r n σ)
  | _ => bad
def zIld (a nx : Nat) (ls st : List Value) (n : Nat) (σ : zS) : ρ := match ls[a]? with
  | some (.int x) => K nx ls (.int x :: st) n σ
  | _ => bad
def zAld (a nx : Nat) (ls st : List Value) (n : Nat) (σ : zS) : ρ := match ls[a]? with
  | some (.ref o) => K nx ls (.ref o :: st) n σ
  | some .null => K nx ls (.null :: st) n σ
  | _ => bad
def zIst (a nx : Nat) (ls st : List Value) (n : Nat) (σ : zS) : ρ := match st with
  | .int x :: r => if a < ls.length then K nx (ls.set a (.int x)) r n σ else bad
  | _ => bad
def zAst (a nx : Nat) (ls st : List Value) (n : Nat) (σ : zS) : ρ := match st with
  | .ref o :: r => if a < ls.length then K nx (ls.set a (.ref o)) r n σ else bad
  | .null :: r => if a < ls.length then K nx (ls.set a .null) r n σ else bad
  | _ => bad
def zInc (c : Int32) (a nx : Nat) (ls st : List Value) (n : Nat) (σ : zS) : ρ := match ls[a]? with
  | some (.int x) => K nx (ls.set a (.int (x + c))) st n σ
  | _ => bad
def zNul (a nx : Nat) (ls st : List Value) (n : Nat) (σ : zS) : ρ := match st with
  | .null :: r => K a ls r n σ
  | .ref _ :: r => K nx ls r n σ
  | _ => bad
def zDup (nx : Nat) (ls st : List Value) (n : Nat) (σ : zS) : ρ := match st with
  | v :: r => if zc1 v = true then K nx ls (v :: v :: r) n σ else bad
  | _ => bad
def zPop (nx : Nat) (ls st : List Value) (n : Nat) (σ : zS) : ρ := match st with
  | v :: r => if zc1 v = true then K nx ls r n σ else bad
  | _ => bad
def zDup2 (nx : Nat) (ls st : List Value) (n : Nat) (σ : zS) : ρ := match st with
  | v :: w :: r => if (zc1 v && zc1 w) = true then K nx ls (v :: w :: v :: w :: r) n σ else bad
  | _ => bad
def zDupX (nx : Nat) (ls st : List Value) (n : Nat) (σ : zS) : ρ := match st with
  | v :: w :: r => if (zc1 v && zc1 w) = true then K nx ls (v :: w :: v :: r) n σ else bad
  | _ => bad
def zSwc (a : Nat) (ls st : List Value) (n : Nat) (σ : zS) (x : Int32) : List (Int32 × Nat) → ρ
  | [] => K a ls st n σ
  | (v, t) :: r => if x = v then K t ls st n σ else zSwc a ls st n σ x r
def zSw (sw : List (Int32 × Nat)) (a : Nat) (ls st : List Value) (n : Nat) (σ : zS) : ρ := match st with
  | .int x :: r => zSwc K a ls r n σ x sw
  | _ => bad
variable (zk : zKd)
def zFld (o b f : Nat) (σ : zS) : Value := match f with
  | 0 => .int (σ o b)
  | 1 => zdec (σ o b)
  | j + 2 => .ref j
def zGet (a b nx : Nat) (ls st : List Value) (n : Nat) (σ : zS) : ρ := match st with
  | .ref o :: r => match zk o with
    | (t, ci, fl) => match fl[b]? with
      | some f => if (Nat.blt o n && t == 0 && ci == a) = true then K nx ls (zFld o b f σ :: r) n σ else bad
      | none => bad
  | _ => bad
def zPutI (a b d nx o : Nat) (x : Int32) (ls r : List Value) (n : Nat) (σ : zS) : ρ := match zk o with
  | (t, ci, fl) => if (Nat.blt o n && t == 0 && ci == a && fl[b]? == some 0) = true then (match d with
    | 0 => K nx ls r n (zup σ o b x)
    | 1 => if x &&& 1 = x then K nx ls r n (zup σ o b x) else bad
    | _ => bad) else bad
def zPut (a b d nx : Nat) (ls st : List Value) (n : Nat) (σ : zS) : ρ := match st with
  | .int x :: .ref o :: r => zPutI bad K zk a b d nx o x ls r n σ
  | v :: .ref o :: r => match zk o with
    | (t, ci, fl) => if (Nat.blt o n && t == 0 && ci == a && fl[b]? == some 1 && d == 2 && zrefs v) = true then K nx ls r n (zup σ o b (zenc v)) else bad
  | _ => bad
def zAld1 (t1 t2 nx : Nat) (ls st : List Value) (n : Nat) (σ : zS) : ρ := match st with
  | .int i :: .ref o :: r => match zk o with
    | (t, len, _) => if (Nat.blt o n && (t == t1 || t == t2)) = true then (if zin i len = true then K nx ls (.int (σ o i.toNatClampNeg) :: r) n σ else bad) else bad
  | _ => bad
def zAst1 (nx : Nat) (ls st : List Value) (n : Nat) (σ : zS) : ρ := match st with
  | .int x :: .int i :: .ref o :: r => match zk o with
    | (t, len, _) => if (Nat.blt o n && t == 1) = true then (if zin i len = true then K nx ls r n (zup σ o i.toNatClampNeg x) else bad) else bad
  | _ => bad
def zAst2 (al : Bool) (nx : Nat) (ls st : List Value) (n : Nat) (σ : zS) : ρ := match st with
  | .int x :: .int i :: .ref o :: r => match zk o with
    | (t, len, _) => if (Nat.blt o n && !al) = true then (if zin i len = true then (match t with
      | 2 => K nx ls r n (zup σ o i.toNatClampNeg (zi2b x))
      | 3 => K nx ls r n (zup σ o i.toNatClampNeg (x &&& 1))
      | _ => bad) else bad) else bad
  | _ => bad
def zAldq (nx : Nat) (ls st : List Value) (n : Nat) (σ : zS) : ρ := match st with
  | .int i :: .ref o :: r => match zk o with
    | (t, len, fl) => if Nat.blt o n = true then (if zin i len = true then (match t with
      | 5 => K nx ls (.ref (fl.getD i.toNatClampNeg 0) :: r) n σ
      | 6 => K nx ls (zdec (σ o i.toNatClampNeg) :: r) n σ
      | _ => bad) else bad) else bad
  | _ => bad
def zAstq (nx : Nat) (ls st : List Value) (n : Nat) (σ : zS) : ρ := match st with
  | .ref v :: .int i :: .ref o :: r => match zk o, zk v with
    | (t, len, _), (t2, ci, _) => if (Nat.blt o n && Nat.blt v n && t == 6 && t2 == 0 && ci == 3 && Nat.blt v 1000 && zin i len) = true then K nx ls r n (zup σ o i.toNatClampNeg (nI (v + 1))) else bad
  | _ => bad
def zLen (nx : Nat) (ls st : List Value) (n : Nat) (σ : zS) : ρ := match st with
  | .ref o :: r => match zk o with
    | (t, len, _) => if (Nat.blt o n && Nat.blt 0 t && Nat.blt t 7) = true then K nx ls (.int (Int32.ofNat len) :: r) n σ else bad
  | _ => bad
def zRet (d : Nat) (st : List Value) (n : Nat) (σ : zS) : ρ := match st with
  | .int v :: [] => if d = 0 then R v n σ else (if v &&& 1 = v then R v n σ else bad)
  | _ => bad
def zRetv (st : List Value) (n : Nat) (σ : zS) : ρ := match st with
  | [] => R 0 n σ
  | _ => bad
def zGo (a b f nx : Nat) (ls st : List Value) (n : Nat) (σ : zS) : ρ :=
  if (Nat.ble b st.length && Nat.ble st.length (b + 8)) = true then C a ((st.take b).reverse) n σ (fun v n' σ' => K nx ls (if f % 2 = 1 then st.drop b else .int v :: st.drop b) n' σ') else bad
def zVirt (a b f nx : Nat) (ls st : List Value) (n : Nat) (σ : zS) : ρ := match st[b - 1]? with
  | some (.ref o) => match zk o with
    | (t, ci, _) => if (Nat.blt o n && t == 0 && ci == f / 2) = true then zGo bad K C a b f nx ls st n σ else bad
  | _ => bad
def zSpec (a b f nx : Nat) (ls st : List Value) (n : Nat) (σ : zS) : ρ := match st[b - 1]? with
  | some (.ref o) => if Nat.blt o n = true then zGo bad K C a b f nx ls st n σ else bad
  | _ => bad
def zCopy (al : Bool) (nx : Nat) (ls st : List Value) (n : Nat) (σ : zS) : ρ := match st with
  | .int m :: .int dp :: .ref o :: .int sp :: .ref o0 :: r => match zk o, zk o0 with
    | (t, len, _), (t0, len0, _) => if (!al && Nat.blt o n && Nat.blt o0 n && t == 1 && t0 == 1 && zin m (len + 1) && zin dp (len + 1) && zin sp (len0 + 1) && Nat.ble (dp.toNatClampNeg + m.toNatClampNeg) len && Nat.ble (sp.toNatClampNeg + m.toNatClampNeg) len0 && Nat.ble r.length 8) = true then K nx ls r n (zput σ o (va_cpy (σ o0) (σ o) sp.toNatClampNeg dp.toNatClampNeg m.toNatClampNeg)) else bad
  | _ => bad
def zObj (nx : Nat) (ls st : List Value) (n : Nat) (σ : zS) : ρ := match st with
  | .ref o :: r => if (Nat.blt o n && Nat.ble r.length 8) = true then K nx ls r n σ else bad
  | _ => bad
def zNew (al : Bool) (a nx : Nat) (ls st : List Value) (n : Nat) (σ : zS) : ρ := match zk n with
  | (t, ci, fl) => if (al && t == 0 && ci == a && fl.all (fun f => Nat.ble f 1)) = true then K nx ls (.ref n :: st) (n + 1) σ else bad
def zNewa (al : Bool) (a nx : Nat) (ls st : List Value) (n : Nat) (σ : zS) : ρ := match st with
  | .int m :: r => match zk n with
    | (t, len, _) => if (al && t == a && zin m (len + 1) && (m.toNatClampNeg == len)) = true then K nx ls (.ref n :: r) (n + 1) σ else bad
  | _ => bad
def zStep (al : Bool) (e : zE) (ls st : List Value) (n : Nat) (σ : zS) : ρ := match e with
  | (_, ins, nx, a, b, d, f, c, sw) => match ins with
    | .iconst _ => K nx ls (.int c :: st) n σ
    | .bipush _ => K nx ls (.int c :: st) n σ
    | .sipush _ => K nx ls (.int c :: st) n σ
    | .ldc _ => if d = 0 then K nx ls (.int c :: st) n σ else bad
    | .ldc_w _ => if d = 0 then K nx ls (.int c :: st) n σ else bad
    | .aconst_null => K nx ls (.null :: st) n σ
    | .iload_n _ => zIld bad K a nx ls st n σ
    | .iload _ => zIld bad K a nx ls st n σ
    | .aload_n _ => zAld bad K a nx ls st n σ
    | .aload _ => zAld bad K a nx ls st n σ
    | .istore_n _ => zIst bad K a nx ls st n σ
    | .istore _ => zIst bad K a nx ls st n σ
    | .astore_n _ => zAst bad K a nx ls st n σ
    | .astore _ => zAst bad K a nx ls st n σ
    | .iinc _ _ => zInc bad K c a nx ls st n σ
    | .ifCond cd _ => zIf bad K cd a nx ls st n σ
    | .if_icmp cd _ => zIf2 bad K cd a nx ls st n σ
    | .goto _ => K a ls st n σ
    | .ifnull _ => zNul bad K a nx ls st n σ
    | .ifnonnull _ => zNul bad K nx a ls st n σ
    | .iadd => zBin bad K (fun x y => x + y) nx ls st n σ
    | .isub => zBin bad K (fun x y => x - y) nx ls st n σ
    | .imul => zBin bad K (fun x y => x * y) nx ls st n σ
    | .iand => zBin bad K (fun x y => x &&& y) nx ls st n σ
    | .ior => zBin bad K (fun x y => x ||| y) nx ls st n σ
    | .ixor => zBin bad K (fun x y => x ^^^ y) nx ls st n σ
    | .ishl => zBin bad K zshl nx ls st n σ
    | .ishr => zBin bad K zshr nx ls st n σ
    | .iushr => zBin bad K zushr nx ls st n σ
    | .idiv => zDiv bad K (fun x y => x / y) nx ls st n σ
    | .irem => zDiv bad K zrem nx ls st n σ
    | .ineg => zUn bad K (fun x => -x) nx ls st n σ
    | .i2b => zUn bad K zi2b nx ls st n σ
    | .i2s => zUn bad K zi2s nx ls st n σ
    | .dup => zDup bad K nx ls st n σ
    | .dup2 => zDup2 bad K nx ls st n σ
    | .dup_x1 => zDupX bad K nx ls st n σ
    | .pop => zPop bad K nx ls st n σ
    | .getfield _ => zGet bad K zk a b nx ls st n σ
    | .putfield _ => zPut bad K zk a b d nx ls st n σ
    | .iaload => zAld1 bad K zk 1 1 nx ls st n σ
    | .baload => zAld1 bad K zk 2 3 nx ls st n σ
    | .aaload => zAldq bad K zk nx ls st n σ
    | .iastore => zAst1 bad K zk nx ls st n σ
    | .bastore => zAst2 bad K zk al nx ls st n σ
    | .aastore => zAstq bad K zk nx ls st n σ
    | .arraylength => zLen bad K zk nx ls st n σ
    | .tableswitch _ _ _ _ => zSw bad K sw a ls st n σ
    | .lookupswitch _ _ => zSw bad K sw a ls st n σ
    | .ireturn => zRet bad R d st n σ
    | .return_ => zRetv bad R st n σ
    | .invokestatic _ => if d = 5 then zCopy bad K zk al nx ls st n σ else zGo bad K C a b f nx ls st n σ
    | .invokevirtual _ => zVirt bad K C zk a b f nx ls st n σ
    | .invokespecial _ => if d = 6 then zObj bad K nx ls st n σ else (if d = 9 then bad else zSpec bad K C a b f nx ls st n σ)
    | .new _ => if d = 0 then zNew bad K zk al a nx ls st n σ else bad
    | .newarray _ => zNewa bad K zk al a nx ls st n σ
    | .anewarray _ => zNewa bad K zk al 6 nx ls st n σ
    | _ => bad
end ZST
/-- the entry at a pc -/
def zAt (l : List zE) (pc : Nat) : Option zE := match l with
  | [] => none
  | e :: r => if Nat.beq e.1 pc = true then some e else zAt r pc
/-- a run: d calls deep at most, k steps at most -/
def zrunI (zk : zKd) (al : Bool) (callee : Nat → Nat → List Value → Nat → zS → Option (Int32 × Nat × zS)) (code : List zE) : Nat → Nat → List Value → List Value → Nat → zS → Option (Int32 × Nat × zS)
  | 0, _, _, _, _, _ => none
  | k + 1, pc, ls, st, n, σ => match zAt code pc with
    | none => none
    | some e => zStep none (zrunI zk al callee code k) (fun v n σ => some (v, n, σ)) (fun mi as n σ kk => match callee k mi as n σ with
      | none => none
      | some (v, n', σ') => kk v n' σ') zk al e ls st n σ
def zloc (mi : Nat) (as : List Value) : List Value := as ++ List.replicate ((zMi mi).2.1 - as.length) (.retAddr 0)
def zrun (zk : zKd) (al : Bool) : Nat → Nat → Nat → List Value → Nat → zS → Option (Int32 × Nat × zS)
  | 0, k, mi, as, n, σ => zrunI zk al (fun _ _ _ _ _ => none) (zCode mi) k 0 (zloc mi as) [] n σ
  | d + 1, k, mi, as, n, σ => zrunI zk al (zrun zk al d) (zCode mi) k 0 (zloc mi as) [] n σ
def zkL : List (Nat × Nat × List Nat) := [(0, 11, [3, 5, 10, 12, 16, 25, 34, 39, 184, 185, 189, 192, 0, 0, 0, 0, 193]), (0, 9, [4, 0, 0, 0, 0]), (1, 80, []), (0, 6, [6, 7, 0, 8, 9, 0]), (1, 9, []), (1, 40, []), (1, 40, []), (1, 40, []), (0, 7, [11, 0, 3]), (1, 40, []), (0, 0, [13, 14, 15, 0, 3]), (1, 20, []), (1, 20, []), (1, 20, []), (0, 10, [17, 18, 19, 0, 0, 0, 0, 24, 5]), (1, 9, []), (1, 9, []), (0, 4, [20, 21, 22, 23, 0, 0, 0]), (1, 9, []), (1, 9, []), (1, 9, []), (1, 9, []), (1, 9, []), (0, 10, [26, 27, 28, 0, 0, 0, 0, 33, 5]), (1, 9, []), (1, 9, []), (0, 4, [29, 30, 31, 32, 0, 0, 0]), (1, 9, []), (1, 9, []), (1, 9, []), (1, 9, []), (1, 9, []), (0, 1, [35, 36, 37, 38, 0, 0]), (1, 60, []), (1, 60, []), (1, 60, []), (1, 60, []), (0, 5, [0, 40, 0]), (5, 13, [39, 50, 61, 72, 83, 94, 105, 116, 127, 138, 149, 160, 171]), (0, 3, [0, 0, 42, 47]), (0, 4, [43, 44, 45, 46, 0, 0, 0]), (1, 9, []), (1, 9, []), (1, 9, []), (1, 9, []), (0, 1, [48, 49, 50, 51, 0, 0]), (1, 60, []), (1, 60, []), (1, 60, []), (1, 60, []), (0, 3, [0, 0, 53, 58]), (0, 4, [54, 55, 56, 57, 0, 0, 0]), (1, 9, []), (1, 9, []), (1, 9, []), (1, 9, []), (0, 1, [59, 60, 61, 62, 0, 0]), (1, 60, []), (1, 60, []), (1, 60, []), (1, 60, []), (0, 3, [0, 0, 64, 69]), (0, 4, [65, 66, 67, 68, 0, 0, 0]), (1, 9, []), (1, 9, []), (1, 9, []), (1, 9, []), (0, 1, [70, 71, 72, 73, 0, 0]), (1, 60, []), (1, 60, []), (1, 60, []), (1, 60, []), (0, 3, [0, 0, 75, 80]), (0, 4, [76, 77, 78, 79, 0, 0, 0]), (1, 9, []), (1, 9, []), (1, 9, []), (1, 9, []), (0, 1, [81, 82, 83, 84, 0, 0]), (1, 60, []), (1, 60, []), (1, 60, []), (1, 60, []), (0, 3, [0, 0, 86, 91]), (0, 4, [87, 88, 89, 90, 0, 0, 0]), (1, 9, []), (1, 9, []), (1, 9, []), (1, 9, []), (0, 1, [92, 93, 94, 95, 0, 0]), (1, 60, []), (1, 60, []), (1, 60, []), (1, 60, []), (0, 3, [0, 0, 97, 102]), (0, 4, [98, 99, 100, 101, 0, 0, 0]), (1, 9, []), (1, 9, []), (1, 9, []), (1, 9, []), (0, 1, [103, 104, 105, 106, 0, 0]), (1, 60, []), (1, 60, []), (1, 60, []), (1, 60, []), (0, 3, [0, 0, 108, 113]), (0, 4, [109, 110, 111, 112, 0, 0, 0]), (1, 9, []), (1, 9, []), (1, 9, []), (1, 9, []), (0, 1, [114, 115, 116, 117, 0, 0]), (1, 60, []), (1, 60, []), (1, 60, []), (1, 60, []), (0, 3, [0, 0, 119, 124]), (0, 4, [120, 121, 122, 123, 0, 0, 0]), (1, 9, []), (1, 9, []), (1, 9, []), (1, 9, []), (0, 1, [125, 126, 127, 128, 0, 0]), (1, 60, []), (1, 60, []), (1, 60, []), (1, 60, []), (0, 3, [0, 0, 130, 135]), (0, 4, [131, 132, 133, 134, 0, 0, 0]), (1, 9, []), (1, 9, []), (1, 9, []), (1, 9, []), (0, 1, [136, 137, 138, 139, 0, 0]), (1, 60, []), (1, 60, []), (1, 60, []), (1, 60, []), (0, 3, [0, 0, 141, 146]), (0, 4, [142, 143, 144, 145, 0, 0, 0]), (1, 9, []), (1, 9, []), (1, 9, []), (1, 9, []), (0, 1, [147, 148, 149, 150, 0, 0]), (1, 60, []), (1, 60, []), (1, 60, []), (1, 60, []), (0, 3, [0, 0, 152, 157]), (0, 4, [153, 154, 155, 156, 0, 0, 0]), (1, 9, []), (1, 9, []), (1, 9, []), (1, 9, []), (0, 1, [158, 159, 160, 161, 0, 0]), (1, 60, []), (1, 60, []), (1, 60, []), (1, 60, []), (0, 3, [0, 0, 163, 168]), (0, 4, [164, 165, 166, 167, 0, 0, 0]), (1, 9, []), (1, 9, []), (1, 9, []), (1, 9, []), (0, 1, [169, 170, 171, 172, 0, 0]), (1, 60, []), (1, 60, []), (1, 60, []), (1, 60, []), (0, 3, [0, 0, 174, 179]), (0, 4, [175, 176, 177, 178, 0, 0, 0]), (1, 9, []), (1, 9, []), (1, 9, []), (1, 9, []), (0, 1, [180, 181, 182, 183, 0, 0]), (1, 60, []), (1, 60, []), (1, 60, []), (1, 60, []), (5, 2, [192, 203]), (0, 2, [186, 187, 188, 0]), (1, 5, []), (1, 5, []), (1, 5, []), (0, 8, [0, 190, 191]), (1, 10, []), (1, 10, []), (1, 16, []), (1, 10, []), (0, 3, [0, 0, 195, 200]), (0, 4, [196, 197, 198, 199, 0, 0, 0]), (1, 9, []), (1, 9, []), (1, 9, []), (1, 9, []), (0, 1, [201, 202, 203, 204, 0, 0]), (1, 60, []), (1, 60, []), (1, 60, []), (1, 60, []), (0, 3, [0, 0, 206, 211]), (0, 4, [207, 208, 209, 210, 0, 0, 0]), (1, 9, []), (1, 9, []), (1, 9, []), (1, 9, []), (0, 1, [212, 213, 214, 215, 0, 0]), (1, 60, []), (1, 60, []), (1, 60, []), (1, 60, []), (0, 12, [217, 0, 218, 219, 0, 220, 0, 0, 221, 0, 222, 0, 0, 1, 0, 0, 0, 0, 223, 224, 0, 1, 0, 0, 0, 0, 0, 0, 0, 225, 0, 226, 227, 0, 228, 0, 0, 229, 0, 230, 231, 232, 233, 0, 234, 235, 0, 0, 236, 237, 238]), (1, 288, []), (1, 9, []), (1, 9, []), (1, 40, []), (2, 80, []), (1, 16, []), (1, 27, []), (2, 40, []), (1, 3456, []), (1, 288, []), (1, 240, []), (1, 288, []), (1, 9, []), (1, 9, []), (1, 9, []), (1, 2, []), (1, 15, []), (1, 10, []), (1, 20, []), (1, 576, []), (3, 2, []), (1, 2, []), (4, 1, [])]
def zkS : zKd := fun o => zkL.getD o (9, 0, [])
def zkLC : List (Nat × Nat × List Nat) := [(0, 11, [1, 1, 1, 1, 1, 1, 1, 1, 1, 1, 1, 1, 0, 0, 0, 0, 1]), (0, 9, [1, 0, 0, 0, 0]), (1, 80, []), (0, 6, [1, 1, 0, 1, 1, 0]), (1, 9, []), (1, 40, []), (1, 40, []), (1, 40, []), (0, 7, [1, 0, 1]), (1, 40, []), (0, 0, [1, 1, 1, 0, 1]), (1, 20, []), (1, 20, []), (1, 20, []), (0, 10, [1, 1, 1, 0, 0, 0, 0, 1, 1]), (1, 9, []), (1, 9, []), (0, 4, [1, 1, 1, 1, 0, 0, 0]), (1, 9, []), (1, 9, []), (1, 9, []), (1, 9, []), (1, 9, []), (0, 10, [1, 1, 1, 0, 0, 0, 0, 1, 1]), (1, 9, []), (1, 9, []), (0, 4, [1, 1, 1, 1, 0, 0, 0]), (1, 9, []), (1, 9, []), (1, 9, []), (1, 9, []), (1, 9, []), (0, 1, [1, 1, 1, 1, 0, 0]), (1, 60, []), (1, 60, []), (1, 60, []), (1, 60, []), (0, 5, [0, 1, 0]), (6, 13, []), (0, 3, [0, 0, 1, 1]), (0, 4, [1, 1, 1, 1, 0, 0, 0]), (1, 9, []), (1, 9, []), (1, 9, []), (1, 9, []), (0, 1, [1, 1, 1, 1, 0, 0]), (1, 60, []), (1, 60, []), (1, 60, []), (1, 60, []), (0, 3, [0, 0, 1, 1]), (0, 4, [1, 1, 1, 1, 0, 0, 0]), (1, 9, []), (1, 9, []), (1, 9, []), (1, 9, []), (0, 1, [1, 1, 1, 1, 0, 0]), (1, 60, []), (1, 60, []), (1, 60, []), (1, 60, []), (0, 3, [0, 0, 1, 1]), (0, 4, [1, 1, 1, 1, 0, 0, 0]), (1, 9, []), (1, 9, []), (1, 9, []), (1, 9, []), (0, 1, [1, 1, 1, 1, 0, 0]), (1, 60, []), (1, 60, []), (1, 60, []), (1, 60, []), (0, 3, [0, 0, 1, 1]), (0, 4, [1, 1, 1, 1, 0, 0, 0]), (1, 9, []), (1, 9, []), (1, 9, []), (1, 9, []), (0, 1, [1, 1, 1, 1, 0, 0]), (1, 60, []), (1, 60, []), (1, 60, []), (1, 60, []), (0, 3, [0, 0, 1, 1]), (0, 4, [1, 1, 1, 1, 0, 0, 0]), (1, 9, []), (1, 9, []), (1, 9, []), (1, 9, []), (0, 1, [1, 1, 1, 1, 0, 0]), (1, 60, []), (1, 60, []), (1, 60, []), (1, 60, []), (0, 3, [0, 0, 1, 1]), (0, 4, [1, 1, 1, 1, 0, 0, 0]), (1, 9, []), (1, 9, []), (1, 9, []), (1, 9, []), (0, 1, [1, 1, 1, 1, 0, 0]), (1, 60, []), (1, 60, []), (1, 60, []), (1, 60, []), (0, 3, [0, 0, 1, 1]), (0, 4, [1, 1, 1, 1, 0, 0, 0]), (1, 9, []), (1, 9, []), (1, 9, []), (1, 9, []), (0, 1, [1, 1, 1, 1, 0, 0]), (1, 60, []), (1, 60, []), (1, 60, []), (1, 60, []), (0, 3, [0, 0, 1, 1]), (0, 4, [1, 1, 1, 1, 0, 0, 0]), (1, 9, []), (1, 9, []), (1, 9, []), (1, 9, []), (0, 1, [1, 1, 1, 1, 0, 0]), (1, 60, []), (1, 60, []), (1, 60, []), (1, 60, []), (0, 3, [0, 0, 1, 1]), (0, 4, [1, 1, 1, 1, 0, 0, 0]), (1, 9, []), (1, 9, []), (1, 9, []), (1, 9, []), (0, 1, [1, 1, 1, 1, 0, 0]), (1, 60, []), (1, 60, []), (1, 60, []), (1, 60, []), (0, 3, [0, 0, 1, 1]), (0, 4, [1, 1, 1, 1, 0, 0, 0]), (1, 9, []), (1, 9, []), (1, 9, []), (1, 9, []), (0, 1, [1, 1, 1, 1, 0, 0]), (1, 60, []), (1, 60, []), (1, 60, []), (1, 60, []), (0, 3, [0, 0, 1, 1]), (0, 4, [1, 1, 1, 1, 0, 0, 0]), (1, 9, []), (1, 9, []), (1, 9, []), (1, 9, []), (0, 1, [1, 1, 1, 1, 0, 0]), (1, 60, []), (1, 60, []), (1, 60, []), (1, 60, []), (0, 3, [0, 0, 1, 1]), (0, 4, [1, 1, 1, 1, 0, 0, 0]), (1, 9, []), (1, 9, []), (1, 9, []), (1, 9, []), (0, 1, [1, 1, 1, 1, 0, 0]), (1, 60, []), (1, 60, []), (1, 60, []), (1, 60, []), (0, 3, [0, 0, 1, 1]), (0, 4, [1, 1, 1, 1, 0, 0, 0]), (1, 9, []), (1, 9, []), (1, 9, []), (1, 9, []), (0, 1, [1, 1, 1, 1, 0, 0]), (1, 60, []), (1, 60, []), (1, 60, []), (1, 60, []), (6, 2, []), (0, 2, [1, 1, 1, 0]), (1, 5, []), (1, 5, []), (1, 5, []), (0, 8, [0, 1, 1]), (1, 10, []), (1, 10, []), (1, 16, []), (1, 10, []), (0, 3, [0, 0, 1, 1]), (0, 4, [1, 1, 1, 1, 0, 0, 0]), (1, 9, []), (1, 9, []), (1, 9, []), (1, 9, []), (0, 1, [1, 1, 1, 1, 0, 0]), (1, 60, []), (1, 60, []), (1, 60, []), (1, 60, []), (0, 3, [0, 0, 1, 1]), (0, 4, [1, 1, 1, 1, 0, 0, 0]), (1, 9, []), (1, 9, []), (1, 9, []), (1, 9, []), (0, 1, [1, 1, 1, 1, 0, 0]), (1, 60, []), (1, 60, []), (1, 60, []), (1, 60, []), (0, 12, [1, 0, 1, 1, 0, 1, 0, 0, 1, 0, 1, 0, 0, 1, 0, 0, 0, 0, 1, 1, 0, 1, 0, 0, 0, 0, 0, 0, 0, 1, 0, 1, 1, 0, 1, 0, 0, 1, 0, 1, 1, 1, 1, 0, 1, 1, 0, 0, 1, 1, 1]), (1, 288, []), (1, 9, []), (1, 9, []), (1, 40, []), (2, 80, []), (1, 16, []), (1, 27, []), (2, 40, []), (1, 3456, []), (1, 288, []), (1, 240, []), (1, 288, []), (1, 9, []), (1, 9, []), (1, 9, []), (1, 2, []), (1, 15, []), (1, 10, []), (1, 20, []), (1, 576, []), (3, 2, []), (1, 2, []), (4, 1, [])]
def zkC : zKd := fun o => zkLC.getD o (9, 0, [])
