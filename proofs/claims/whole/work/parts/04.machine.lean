/-! THE ABSTRACT MACHINE: memory by places; places 0 .. 19 are old (0 the script, 1 ABOVE, 2 .. 8 the texts, 9 .. 15 their bytes, 18 the formatter), 20 .. are what the run has made -/
/-- count, slots, shapes (tag, length); whole numbers; longs; references -/
abbrev ZMem : Type := (Nat × Nat × (Nat → Nat × Nat)) × (Nat → Nat → Int32) × (Nat → Nat → Int64) × (Nat → Nat → Option Nat)
def zn (M : ZMem) : Nat := M.1.1
def zc (M : ZMem) : Nat := M.1.2.1
def zsh (M : ZMem) : Nat → Nat × Nat := M.1.2.2
def zI (M : ZMem) : Nat → Nat → Int32 := M.2.1
def zL (M : ZMem) : Nat → Nat → Int64 := M.2.2.1
def zR (M : ZMem) : Nat → Nat → Option Nat := M.2.2.2
def zpI (M : ZMem) (p k : Nat) (v : Int32) : ZMem := (M.1, fun a b => if a = p ∧ b = k then v else zI M a b, zL M, zR M)
def zpL (M : ZMem) (p k : Nat) (v : Int64) : ZMem := (M.1, zI M, fun a b => if a = p ∧ b = k then v else zL M a b, zR M)
def zpR (M : ZMem) (p k : Nat) (v : Option Nat) : ZMem := (M.1, zI M, zL M, fun a b => if a = p ∧ b = k then v else zR M a b)
def zcpI (M : ZMem) (p sp q dp n : Nat) : ZMem := (M.1, fun a b => if a = q ∧ dp ≤ b ∧ b < dp + n then zI M p (sp + (b - dp)) else zI M a b, zL M, zR M)
def zcpL (M : ZMem) (p sp q dp n : Nat) : ZMem := (M.1, zI M, fun a b => if a = q ∧ dp ≤ b ∧ b < dp + n then zL M p (sp + (b - dp)) else zL M a b, zR M)
def znew (M : ZMem) (tag len sl : Nat) : ZMem := ((zn M + 1, zc M + sl, fun a => if a = zn M then (tag, len) else zsh M a), fun a b => if a = zn M then 0 else zI M a b, fun a b => if a = zn M then 0 else zL M a b, fun a b => if a = zn M then none else zR M a b)
/-- fields: their types by tag and place; 13 is a text: value, coder -/
def zty (t j : Nat) : FieldType := match t with
  | 0 => tyX0 j
  | 1 => tyX1 j
  | 2 => tyX2 j
  | 3 => tyX3 j
  | 4 => tyX4 j
  | 5 => tyX5 j
  | 6 => tyX6 j
  | 7 => tyX7 j
  | 8 => tyX8 j
  | 9 => tyX9 j
  | 10 => tyX10 j
  | 11 => tyX11 j
  | 12 => tyX12 j
  | _ => if j = 0 then .array .byte else .byte
def zcl (t : Nat) : vw_C := vwCl.getD t (RX0, TX0, 5)
def zN (t : Nat) : Nat := if t = 13 then 2 else (zcl t).2.2
def zfin (t j : Nat) : Bool := if t = 13 then true else ((zcl t).2.1 j).2.2.2
def zkd (ty : FieldType) : Nat := match ty with
  | .long => 1
  | .object _ => 2
  | .array _ => 2
  | .float => 3
  | .double => 3
  | _ => 0
def zrf (r : Option Nat) : Value := match r with
  | none => .null
  | some q => .ref q
def zfv (M : ZMem) (t o j : Nat) : Value := match zkd (zty t j) with
  | 0 => .int (zI M o j)
  | 1 => .long (zL M o j)
  | _ => zrf (zR M o j)
/-- links -/
def zfind2 {α : Type} (l : List (Nat × α)) (i : Nat) : Option α := match l with
  | [] => none
  | (j, v) :: r => if j = i then some v else zfind2 r i
def zmeth (k : Nat) : MethodName × ByteArray × Nat × Option FieldType × Nat × Nat := zms.getD k (⟨"", "", ""⟩, ⟨#[]⟩, 0, none, 0, 0)
def zcid (k : Nat) : Nat := (zmeth k).2.2.2.2.1
def zml (k : Nat) : Nat := (zmeth k).2.2.1
def zret (k : Nat) : Option FieldType := (zmeth k).2.2.2.1
def zlk (k i : Nat) : Option (Nat × Nat × Nat × Nat) := zfind2 (zlks.getD (zcid k) []) i
def zki (k i : Nat) : Option (Int32 × Nat) := zfind2 (zkis.getD (zcid k) []) i
def zkl (k i : Nat) : Option (Int64 × Nat) := zfind2 (zkls.getD (zcid k) []) i
def ztab (k : Nat) : List (Nat × Instr) := zts.getD k []
def zi (k pc : Nat) : Option Instr := zfind2 (ztab k) pc
/-- locals -/
def zget (l : List (Nat × Value)) (i : Nat) : Option Value := zfind2 l i
def zst1 (l : List (Nat × Value)) (i : Nat) (v : Value) : List (Nat × Value) := (i, v) :: l.filter (fun q => !(q.1 == i) && !(q.1 + 1 == i && q.2.category == 2))
def zjmp (pc : Nat) (off : Int) : Option Nat := if 0 ≤ (pc : Int) + off then some ((pc : Int) + off).toNat else none
def zcnd (c : ClassFile.Cond) (x y : Int32) : Prop := match c with
  | .eq => x = y
  | .ne => ¬ x = y
  | .lt => x < y
  | .ge => y ≤ x
  | .gt => y < x
  | .le => x ≤ y
def zcndB (c : ClassFile.Cond) (x y : Int32) : Bool := match c with
  | .eq => decide (x = y)
  | .ne => decide (¬ x = y)
  | .lt => decide (x < y)
  | .ge => decide (y ≤ x)
  | .gt => decide (y < x)
  | .le => decide (x ≤ y)
theorem zcndB_iff (c : ClassFile.Cond) (x y : Int32) : zcndB c x y = true ↔ zcnd c x y := by cases c <;> simp [zcndB, zcnd]
/-- the arm of a table of jumps: the first key that is x -/
def zsel (x : Int32) (ks : List (Int × Int)) (d : Int) : Int := match ks with
  | [] => d
  | (k, o) :: r => if x.toInt = k then o else zsel x r d
def zkeys (lo : Int) (os : List Int) : List (Int × Int) := match os with
  | [] => []
  | o :: r => (lo, o) :: zkeys (lo + 1) r
/-- the field that a link names: read and written -/
def zgf (M : ZMem) (t j o : Nat) : Option Value := if (zsh M o).1 = t ∧ t < 14 ∧ j < zN t ∧ o < zn M ∧ (20 ≤ o ∨ t = 13) ∧ (t = 13 → 2 ≤ o ∧ o < 9) then some (zfv M t o j) else none
def zpf (M : ZMem) (t j o : Nat) (v : Value) (isI : Bool) : Option ZMem := if (zsh M o).1 = t ∧ t < 13 ∧ j < zN t ∧ o < zn M ∧ 20 ≤ o ∧ (zfin t j = true → isI = true) ∧ narrow (zty t j) v = v ∧ fits (zty t j) v = true then
    match zkd (zty t j), v with
    | 0, .int x => some (zpI M o j x)
    | 1, .long x => some (zpL M o j x)
    | 2, .null => some (zpR M o j none)
    | 2, .ref q => some (zpR M o j (some q))
    | _, _ => none
  else none
def zin (i : Int32) (n : Nat) : Prop := ¬ (i < 0 ∨ n ≤ i.toNatClampNeg)
/-- rows of whole numbers: 20 int, 21 byte, 22 boolean; 31 the old row of ints, 32 old bytes -/
def zla (M : ZMem) (t p : Nat) (i : Int32) : Option Int32 := if (zsh M p).1 = t ∧ (20 ≤ p ∨ t = 31 ∨ t = 32) ∧ p < zn M ∧ ¬ (i < 0 ∨ (zsh M p).2 ≤ i.toNatClampNeg) then some (zI M p i.toNatClampNeg) else none
def zlaL (M : ZMem) (p : Nat) (i : Int32) : Option Int64 := if (zsh M p).1 = 23 ∧ 20 ≤ p ∧ p < zn M ∧ ¬ (i < 0 ∨ (zsh M p).2 ≤ i.toNatClampNeg) then some (zL M p i.toNatClampNeg) else none
def zlaR (M : ZMem) (p : Nat) (i : Int32) : Option (Option Nat) := if 24 ≤ (zsh M p).1 ∧ (zsh M p).1 ≤ 26 ∧ 20 ≤ p ∧ p < zn M ∧ ¬ (i < 0 ∨ (zsh M p).2 ≤ i.toNatClampNeg) then some (zR M p i.toNatClampNeg) else none
def zsa (M : ZMem) (t p : Nat) (i x : Int32) : Option ZMem := if (zsh M p).1 = t ∧ 20 ≤ p ∧ p < zn M ∧ ¬ (i < 0 ∨ (zsh M p).2 ≤ i.toNatClampNeg) then some (zpI M p i.toNatClampNeg x) else none
def zsaL (M : ZMem) (p : Nat) (i : Int32) (x : Int64) : Option ZMem := if (zsh M p).1 = 23 ∧ 20 ≤ p ∧ p < zn M ∧ ¬ (i < 0 ∨ (zsh M p).2 ≤ i.toNatClampNeg) then some (zpL M p i.toNatClampNeg x) else none
/-- the class of which a row of references is: Hill, Tape, Block -/
def zact (t : Nat) : Nat := match t with
  | 24 => 3
  | 25 => 8
  | _ => 1
def zsaR (M : ZMem) (p : Nat) (i : Int32) (q : Nat) : Option ZMem := if 24 ≤ (zsh M p).1 ∧ (zsh M p).1 ≤ 26 ∧ 20 ≤ p ∧ p < zn M ∧ ¬ (i < 0 ∨ (zsh M p).2 ≤ i.toNatClampNeg) ∧ 20 ≤ q ∧ q < zn M ∧ (zsh M q).1 = zact (zsh M p).1 then some (zpR M p i.toNatClampNeg (some q)) else none
def zlen (sc : Option (Nat × (Nat → Int32))) (M : ZMem) (p : Nat) : Option Int32 :=
  if p = 0 then sc.map (fun s => Int32.ofNat s.1)
  else if p < zn M ∧ ((20 ≤ p ∧ 20 ≤ (zsh M p).1 ∧ (zsh M p).1 ≤ 26) ∨ (p < 20 ∧ ((zsh M p).1 = 31 ∨ (zsh M p).1 = 32))) then some (Int32.ofNat (zsh M p).2) else none
/-- copying: rows of ints or of longs, both ends within -/
def zcopy (M : ZMem) (p : Nat) (sp : Int32) (q : Nat) (dp n : Int32) : Option ZMem :=
  if 20 ≤ p ∧ p < zn M ∧ 20 ≤ q ∧ q < zn M ∧ ¬ sp < 0 ∧ ¬ dp < 0 ∧ ¬ n < 0 ∧ sp.toNatClampNeg + n.toNatClampNeg ≤ (zsh M p).2 ∧ dp.toNatClampNeg + n.toNatClampNeg ≤ (zsh M q).2 then
    if (zsh M p).1 = 20 ∧ (zsh M q).1 = 20 then some (zcpI M p sp.toNatClampNeg q dp.toNatClampNeg n.toNatClampNeg)
    else if (zsh M p).1 = 23 ∧ (zsh M q).1 = 23 then some (zcpL M p sp.toNatClampNeg q dp.toNatClampNeg n.toNatClampNeg)
    else none
  else none
/-- what a machine's frame is: place in the bytes, locals, stack -/
abbrev ZFr : Type := Nat × List (Nat × Value) × List Value
/-- is the method a constructor -/
def zini (k : Nat) : Bool := (zmeth k).1.name == "<init>"
def zatag (a : ArrayType) : Option Nat := match a with
  | .int => some 20
  | .byte => some 21
  | .boolean => some 22
  | .long => some 23
  | _ => none
/-- one instruction that is no call and no return -/
def zs (sc : Option (Nat × (Nat → Int32))) (d k pc : Nat) (l : List (Nat × Value)) (st : List Value) (M : ZMem) (i : Instr) : Option (ZFr × ZMem) :=
  match i, st with
  | .iconst n, st => some ((pc + 1, l, .int (Int32.ofInt n) :: st), M)
  | .bipush n, st => some ((pc + 2, l, .int (Int8.ofInt n).toInt32 :: st), M)
  | .sipush n, st => some ((pc + 3, l, .int (Int16.ofInt n).toInt32 :: st), M)
  | .lconst n, st => some ((pc + 1, l, .long (Int64.ofNat (n : Nat)) :: st), M)
  | .ldc n, st => match zlk k n with
    | some (9, a, _, _) => some ((pc + 2, l, .ref (2 + a) :: st), M)
    | _ => (zki k n).map (fun v => ((pc + 2, l, .int v.1 :: st), M))
  | .ldc_w n, st => (zki k n).map (fun v => ((pc + 3, l, .int v.1 :: st), M))
  | .ldc2_w n, st => (zkl k n).map (fun v => ((pc + 3, l, .long v.1 :: st), M))
  | .aconst_null, st => some ((pc + 1, l, .null :: st), M)
  | .iload_n n, st => match zget l n with
    | some (.int x) => some ((pc + 1, l, .int x :: st), M)
    | _ => none
  | .iload n, st => match zget l n with
    | some (.int x) => some ((pc + 2, l, .int x :: st), M)
    | _ => none
  | .lload_n n, st => match zget l n with
    | some (.long x) => some ((pc + 1, l, .long x :: st), M)
    | _ => none
  | .lload n, st => match zget l n with
    | some (.long x) => some ((pc + 2, l, .long x :: st), M)
    | _ => none
  | .aload_n n, st => match zget l n with
    | some (.ref x) => some ((pc + 1, l, .ref x :: st), M)
    | some .null => some ((pc + 1, l, .null :: st), M)
    | _ => none
  | .aload n, st => match zget l n with
    | some (.ref x) => some ((pc + 2, l, .ref x :: st), M)
    | some .null => some ((pc + 2, l, .null :: st), M)
    | _ => none
  | .istore_n n, .int x :: st => if (n : Nat) < zml k then some ((pc + 1, zst1 l n (.int x), st), M) else none
  | .istore n, .int x :: st => if n < zml k then some ((pc + 2, zst1 l n (.int x), st), M) else none
  | .astore_n n, .ref x :: st => if (n : Nat) < zml k then some ((pc + 1, zst1 l n (.ref x), st), M) else none
  | .astore_n n, .null :: st => if (n : Nat) < zml k then some ((pc + 1, zst1 l n .null, st), M) else none
  | .astore n, .ref x :: st => if n < zml k then some ((pc + 2, zst1 l n (.ref x), st), M) else none
  | .astore n, .null :: st => if n < zml k then some ((pc + 2, zst1 l n .null, st), M) else none
  | .iinc n c, st => match zget l n with
    | some (.int x) => if n < zml k then some ((pc + 3, zst1 l n (.int (x + Int32.ofInt c)), st), M) else none
    | _ => none
  | .iadd, .int y :: .int x :: st => some ((pc + 1, l, .int (x + y) :: st), M)
  | .isub, .int y :: .int x :: st => some ((pc + 1, l, .int (x - y) :: st), M)
  | .imul, .int y :: .int x :: st => some ((pc + 1, l, .int (x * y) :: st), M)
  | .idiv, .int y :: .int x :: st => if y = 0 then none else some ((pc + 1, l, .int (x / y) :: st), M)
  | .irem, .int y :: .int x :: st => if y = 0 then none else some ((pc + 1, l, .int (x - x / y * y) :: st), M)
  | .ineg, .int x :: st => some ((pc + 1, l, .int (-x) :: st), M)
  | .iand, .int y :: .int x :: st => some ((pc + 1, l, .int (x &&& y) :: st), M)
  | .ior, .int y :: .int x :: st => some ((pc + 1, l, .int (x ||| y) :: st), M)
  | .ixor, .int y :: .int x :: st => some ((pc + 1, l, .int (x ^^^ y) :: st), M)
  | .ishl, .int y :: .int x :: st => some ((pc + 1, l, .int (x <<< (y &&& 31)) :: st), M)
  | .ishr, .int y :: .int x :: st => some ((pc + 1, l, .int (x >>> (y &&& 31)) :: st), M)
  | .iushr, .int y :: .int x :: st => some ((pc + 1, l, .int (x.toUInt32 >>> (y.toUInt32 &&& Int32.toUInt32 31)).toInt32 :: st), M)
  | .lshl, .int y :: .long x :: st => some ((pc + 1, l, .long (x <<< (y.toInt64 &&& 63)) :: st), M)
  | .lor, .long y :: .long x :: st => some ((pc + 1, l, .long (x ||| y) :: st), M)
  | .land, .long y :: .long x :: st => some ((pc + 1, l, .long (x &&& y) :: st), M)
  | .lcmp, .long y :: .long x :: st => some ((pc + 1, l, .int (lg_cmp x y) :: st), M)
  | .i2l, .int x :: st => some ((pc + 1, l, .long x.toInt64 :: st), M)
  | .l2i, .long x :: st => some ((pc + 1, l, .int x.toInt32 :: st), M)
  | .i2b, .int x :: st => some ((pc + 1, l, .int x.toInt8.toInt32 :: st), M)
  | .i2s, .int x :: st => some ((pc + 1, l, .int x.toInt16.toInt32 :: st), M)
  | .i2c, .int x :: st => some ((pc + 1, l, .int (x.toUInt32 % 65536).toInt32 :: st), M)
  | .dup, v :: st => if v.category = 1 then some ((pc + 1, l, v :: v :: st), M) else none
  | .dup2, v :: w :: st => if v.category = 1 ∧ w.category = 1 then some ((pc + 1, l, v :: w :: v :: w :: st), M) else none
  | .pop, v :: st => if v.category = 1 then some ((pc + 1, l, st), M) else none
  | .goto o, st => (zjmp pc o).map (fun t => ((t, l, st), M))
  | .ifCond c o, .int x :: st => (zjmp pc o).map (fun t => ((if zcndB c x 0 then t else pc + 3, l, st), M))
  | .if_icmp c o, .int y :: .int x :: st => (zjmp pc o).map (fun t => ((if zcndB c x y then t else pc + 3, l, st), M))
  | .ifnull o, .null :: st => (zjmp pc o).map (fun t => ((t, l, st), M))
  | .ifnull _, .ref q :: st => if q = 18 then none else some ((pc + 3, l, st), M)
  | .ifnonnull _, .null :: st => some ((pc + 3, l, st), M)
  | .ifnonnull o, .ref q :: st => if q = 18 then none else (zjmp pc o).map (fun t => ((t, l, st), M))
  | .tableswitch df lo hi os, .int x :: st => if os.toList.length = (hi - lo + 1).toNat ∧ lo ≤ hi then (zjmp pc (zsel x (zkeys lo os.toList) df)).map (fun t => ((t, l, st), M)) else none
  | .lookupswitch df ps, .int x :: st => if (ps.toList.zip (ps.toList.drop 1)).all (fun (a, next) => a.1 < next.1) = true then (zjmp pc (zsel x ps.toList df)).map (fun t => ((t, l, st), M)) else none
  | .getfield n, .ref o :: st => match zlk k n with
    | some (0, t, j, _) => (zgf M t j o).map (fun v => ((pc + 3, l, v :: st), M))
    | _ => none
  | .putfield n, v :: .ref o :: st => match zlk k n with
    | some (0, t, j, _) => (zpf M t j o v (zini k && ((zcl t).1 == (zmeth k).1.cls))).map (fun M' => ((pc + 3, l, st), M'))
    | _ => none
  | .getstatic n, st => match zlk k n with
    | some (1, 0, _, _) => some ((pc + 3, l, .ref 1 :: st), M)
    | some (1, 1, _, _) => some ((pc + 3, l, .int 1 :: st), M)
    | some (1, 2, _, _) => some ((pc + 3, l, .ref 18 :: st), M)
    | _ => none
  | .iaload, .int i :: .ref p :: st =>
    if p = 0 then match sc with
      | some (n, xs) => if i < 0 ∨ n ≤ i.toNatClampNeg then none else some ((pc + 1, l, .int (xs i.toNatClampNeg) :: st), M)
      | none => none
    else (zla M (if p = 1 then 31 else 20) p i).map (fun x => ((pc + 1, l, .int x :: st), M))
  | .baload, .int i :: .ref p :: st => (zla M (if p < 20 then 32 else if (zsh M p).1 = 21 then 21 else 22) p i).map (fun x => ((pc + 1, l, .int x :: st), M))
  | .laload, .int i :: .ref p :: st => (zlaL M p i).map (fun x => ((pc + 1, l, .long x :: st), M))
  | .aaload, .int i :: .ref p :: st => (zlaR M p i).map (fun r => ((pc + 1, l, zrf r :: st), M))
  | .iastore, .int x :: .int i :: .ref p :: st => (zsa M 20 p i x).map (fun M' => ((pc + 1, l, st), M'))
  | .bastore, .int x :: .int i :: .ref p :: st => (zsa M (if (zsh M p).1 = 21 then 21 else 22) p i (if (zsh M p).1 = 21 then vp_nar .byte x else vp_nar .boolean x)).map (fun M' => ((pc + 1, l, st), M'))
  | .lastore, .long x :: .int i :: .ref p :: st => (zsaL M p i x).map (fun M' => ((pc + 1, l, st), M'))
  | .aastore, .ref q :: .int i :: .ref p :: st => (zsaR M p i q).map (fun M' => ((pc + 1, l, st), M'))
  | .arraylength, .ref p :: st => (zlen sc M p).map (fun x => ((pc + 1, l, .int x :: st), M))
  | .newarray a, .int n :: st => match zatag a with
    | some t => if ¬ n < 0 ∧ n.toNatClampNeg ≤ 1000 then some ((pc + 2, l, .ref (zn M) :: st), znew M t n.toNatClampNeg n.toNatClampNeg) else none
    | none => none
  | .anewarray n, .int x :: st => match zlk k n with
    | some (6, _, t, _) => if 24 ≤ t ∧ t ≤ 26 ∧ ¬ x < 0 ∧ x.toNatClampNeg ≤ 1000 then some ((pc + 3, l, .ref (zn M) :: st), znew M t x.toNatClampNeg x.toNatClampNeg) else none
    | _ => none
  | .new n, st => match zlk k n with
    | some (6, t, _, _) => if t < 13 then some ((pc + 3, l, .ref (zn M) :: st), znew M t 0 (zN t)) else none
    | _ => none
  | .invokespecial n, .ref o :: st => match zlk k n with
    | some (4, _, _, _) => if 1 ≤ d ∧ o ≠ 18 ∧ (st.map fun v => v.category).sum ≤ 8 then some ((pc + 3, l, st), M) else none
    | _ => none
  | .invokestatic n, .int c :: .int dp :: .ref q :: .int sp :: .ref p :: st => match zlk k n with
    | some (5, _, _, _) => if 1 ≤ d ∧ (st.map fun v => v.category).sum ≤ 8 then (zcopy M p sp q dp c).map (fun M' => ((pc + 3, l, st), M')) else none
    | _ => none
  | _, _ => none
/-- a call: whom, with what, what is left below -/
def zargs (n : Nat) (st : List Value) : Option (List Value × List Value) := if n ≤ st.length then some ((st.take n).reverse, st.drop n) else none
/-- the kind of a method: 0 by its object, 1 static, 2 a constructor -/
def zmk (k : Nat) : Nat := (zmw.getD k (3, 0, 0, 0, 0)).1
def zcall (k : Nat) (i : Instr) (st : List Value) (M : ZMem) : Option (Nat × List Value × List Value) :=
  match i with
  | .invokevirtual n => match zlk k n with
    | some (2, q, np, _) => match zargs np st with
      | some (as, .ref o :: r) => if zmk q = 0 ∧ (((zsh M o).1 < 13 ∧ 20 ≤ o ∧ o < zn M ∧ (zcl (zsh M o).1).1 = (zmeth q).1.cls) ∨ ((zsh M o).1 = 13 ∧ 2 ≤ o ∧ o < 9 ∧ (zmeth q).1.cls = "java/lang/String")) ∧ (r.map fun v => v.category).sum ≤ 8 ∧ (lg_sl (.ref o :: as)).length ≤ zml q then some (q, .ref o :: as, r) else none
      | _ => none
    | _ => none
  | .invokestatic n => match zlk k n with
    | some (2, q, np, _) => match zargs np st with
      | some (as, r) => if zmk q = 1 ∧ (r.map fun v => v.category).sum ≤ 8 ∧ (lg_sl as).length ≤ zml q then some (q, as, r) else none
      | _ => none
    | some (3, q, np, _) => match zargs np st with
      | some (as, r) => if zmk q = 1 ∧ (r.map fun v => v.category).sum ≤ 8 ∧ (lg_sl as).length ≤ zml q then some (q, as, r) else none
      | _ => none
    | _ => none
  | .invokespecial n => match zlk k n with
    | some (2, q, np, _) => match zargs np st with
      | some (as, .ref o :: r) => if zmk q = 2 ∧ o ≠ 18 ∧ (r.map fun v => v.category).sum ≤ 8 ∧ (lg_sl (.ref o :: as)).length ≤ zml q then some (q, .ref o :: as, r) else none
      | _ => none
    | some (3, q, np, _) => match zargs np st with
      | some (as, .ref o :: r) => if zmk q = 2 ∧ o ≠ 18 ∧ (r.map fun v => v.category).sum ≤ 8 ∧ (lg_sl (.ref o :: as)).length ≤ zml q then some (q, .ref o :: as, r) else none
      | _ => none
    | _ => none
  | _ => none
/-- a return: the answer, as the method's type has it -/
def zend (k : Nat) (i : Instr) (st : List Value) : Option (Option Value) :=
  match i, st with
  | .ireturn, [.int v] => match zret k with
    | some ty => if zkd ty = 0 ∧ narrow ty (.int v) = .int v then some (some (.int v)) else none
    | none => none
  | .lreturn, [.long v] => if zret k = some .long then some (some (.long v)) else none
  | .areturn, [.ref v] => match zret k with
    | some ty => if zkd ty = 2 ∧ v ≠ 18 then some (some (.ref v)) else none
    | none => none
  | .areturn, [.null] => match zret k with
    | some ty => if zkd ty = 2 then some (some .null) else none
    | none => none
  | .return_, [] => if zret k = none then some none else none
  | _, _ => none
/-- the run of a method from a frame: depth d of calls, f instructions at most at each depth -/
def zr (sc : Option (Nat × (Nat → Int32))) (d f k : Nat) (g : ZFr) (M : ZMem) : Option (Option Value × ZMem) :=
  match f with
  | 0 => none
  | f + 1 => match zi k g.1 with
    | none => none
    | some i => match zs sc d k g.1 g.2.1 g.2.2 M i with
      | some (g', M') => zr sc d f k g' M'
      | none => match zcall k i g.2.2 M with
        | some (q, as, r) => match d with
          | 0 => none
          | d' + 1 => match zr none d' f q (0, lv_args 0 as, []) M with
            | some (v, M') => zr sc (d' + 1) f k (g.1 + 3, g.2.1, v.toList ++ r) M'
            | none => none
        | none => match zend k i g.2.2 with
          | some v => some (v, M)
          | none => none
