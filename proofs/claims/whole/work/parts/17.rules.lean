section ZG2
variable {sc : Option (Nat × (Nat → Int32))} {d k pc : Nat} {L : List (Nat × Value)} {st : List Value} {M M' : ZMem} {o : Option Value × ZMem} {p' : Nat}
theorem zo_iadd {x y : Int32} (hi : zi k pc = some .iadd) (hp : pc + 1 = p') (h : zgo sc d k p' L (.int (x + y) :: st) M o) : zgo sc d k pc L (.int y :: .int x :: st) M o := by
  subst hp; exact zgo_p hi (fun l => rfl) h
theorem zo_isub {x y : Int32} (hi : zi k pc = some .isub) (hp : pc + 1 = p') (h : zgo sc d k p' L (.int (x - y) :: st) M o) : zgo sc d k pc L (.int y :: .int x :: st) M o := by
  subst hp; exact zgo_p hi (fun l => rfl) h
theorem zo_imul {x y : Int32} (hi : zi k pc = some .imul) (hp : pc + 1 = p') (h : zgo sc d k p' L (.int (x * y) :: st) M o) : zgo sc d k pc L (.int y :: .int x :: st) M o := by
  subst hp; exact zgo_p hi (fun l => rfl) h
theorem zo_idiv {x y : Int32} (hi : zi k pc = some .idiv) (hp : pc + 1 = p') (hy : ¬ y = 0) (h : zgo sc d k p' L (.int (x / y) :: st) M o) : zgo sc d k pc L (.int y :: .int x :: st) M o := by
  subst hp; exact zgo_p hi (fun l => if_neg hy) h
theorem zo_irem {x y : Int32} (hi : zi k pc = some .irem) (hp : pc + 1 = p') (hy : ¬ y = 0) (h : zgo sc d k p' L (.int (x - x / y * y) :: st) M o) : zgo sc d k pc L (.int y :: .int x :: st) M o := by
  subst hp; exact zgo_p hi (fun l => if_neg hy) h
theorem zo_ineg {x : Int32} (hi : zi k pc = some .ineg) (hp : pc + 1 = p') (h : zgo sc d k p' L (.int (-x) :: st) M o) : zgo sc d k pc L (.int x :: st) M o := by
  subst hp; exact zgo_p hi (fun l => rfl) h
theorem zo_iand {x y : Int32} (hi : zi k pc = some .iand) (hp : pc + 1 = p') (h : zgo sc d k p' L (.int (x &&& y) :: st) M o) : zgo sc d k pc L (.int y :: .int x :: st) M o := by
  subst hp; exact zgo_p hi (fun l => rfl) h
theorem zo_ior {x y : Int32} (hi : zi k pc = some .ior) (hp : pc + 1 = p') (h : zgo sc d k p' L (.int (x ||| y) :: st) M o) : zgo sc d k pc L (.int y :: .int x :: st) M o := by
  subst hp; exact zgo_p hi (fun l => rfl) h
theorem zo_ixor {x y : Int32} (hi : zi k pc = some .ixor) (hp : pc + 1 = p') (h : zgo sc d k p' L (.int (x ^^^ y) :: st) M o) : zgo sc d k pc L (.int y :: .int x :: st) M o := by
  subst hp; exact zgo_p hi (fun l => rfl) h
theorem zo_ishl {x y : Int32} (hi : zi k pc = some .ishl) (hp : pc + 1 = p') (h : zgo sc d k p' L (.int (x <<< (y &&& 31)) :: st) M o) : zgo sc d k pc L (.int y :: .int x :: st) M o := by
  subst hp; exact zgo_p hi (fun l => rfl) h
theorem zo_ishr {x y : Int32} (hi : zi k pc = some .ishr) (hp : pc + 1 = p') (h : zgo sc d k p' L (.int (x >>> (y &&& 31)) :: st) M o) : zgo sc d k pc L (.int y :: .int x :: st) M o := by
  subst hp; exact zgo_p hi (fun l => rfl) h
theorem zo_iushr {x y : Int32} (hi : zi k pc = some .iushr) (hp : pc + 1 = p') (h : zgo sc d k p' L (.int (x.toUInt32 >>> (y.toUInt32 &&& Int32.toUInt32 31)).toInt32 :: st) M o) : zgo sc d k pc L (.int y :: .int x :: st) M o := by
  subst hp; exact zgo_p hi (fun l => rfl) h
theorem zo_lshl {x : Int64} {y : Int32} (hi : zi k pc = some .lshl) (hp : pc + 1 = p') (h : zgo sc d k p' L (.long (x <<< (y.toInt64 &&& 63)) :: st) M o) : zgo sc d k pc L (.int y :: .long x :: st) M o := by
  subst hp; exact zgo_p hi (fun l => rfl) h
theorem zo_lor {x y : Int64} (hi : zi k pc = some .lor) (hp : pc + 1 = p') (h : zgo sc d k p' L (.long (x ||| y) :: st) M o) : zgo sc d k pc L (.long y :: .long x :: st) M o := by
  subst hp; exact zgo_p hi (fun l => rfl) h
theorem zo_land {x y : Int64} (hi : zi k pc = some .land) (hp : pc + 1 = p') (h : zgo sc d k p' L (.long (x &&& y) :: st) M o) : zgo sc d k pc L (.long y :: .long x :: st) M o := by
  subst hp; exact zgo_p hi (fun l => rfl) h
theorem zo_lcmp {x y : Int64} (hi : zi k pc = some .lcmp) (hp : pc + 1 = p') (h : zgo sc d k p' L (.int (lg_cmp x y) :: st) M o) : zgo sc d k pc L (.long y :: .long x :: st) M o := by
  subst hp; exact zgo_p hi (fun l => rfl) h
theorem zo_i2l {x : Int32} (hi : zi k pc = some .i2l) (hp : pc + 1 = p') (h : zgo sc d k p' L (.long x.toInt64 :: st) M o) : zgo sc d k pc L (.int x :: st) M o := by
  subst hp; exact zgo_p hi (fun l => rfl) h
theorem zo_l2i {x : Int64} (hi : zi k pc = some .l2i) (hp : pc + 1 = p') (h : zgo sc d k p' L (.int x.toInt32 :: st) M o) : zgo sc d k pc L (.long x :: st) M o := by
  subst hp; exact zgo_p hi (fun l => rfl) h
theorem zo_i2b {x : Int32} (hi : zi k pc = some .i2b) (hp : pc + 1 = p') (h : zgo sc d k p' L (.int x.toInt8.toInt32 :: st) M o) : zgo sc d k pc L (.int x :: st) M o := by
  subst hp; exact zgo_p hi (fun l => rfl) h
theorem zo_i2s {x : Int32} (hi : zi k pc = some .i2s) (hp : pc + 1 = p') (h : zgo sc d k p' L (.int x.toInt16.toInt32 :: st) M o) : zgo sc d k pc L (.int x :: st) M o := by
  subst hp; exact zgo_p hi (fun l => rfl) h
theorem zo_i2c {x : Int32} (hi : zi k pc = some .i2c) (hp : pc + 1 = p') (h : zgo sc d k p' L (.int (x.toUInt32 % 65536).toInt32 :: st) M o) : zgo sc d k pc L (.int x :: st) M o := by
  subst hp; exact zgo_p hi (fun l => rfl) h
theorem zo_dup {v : Value} (hi : zi k pc = some .dup) (hp : pc + 1 = p') (hv : v.category = 1) (h : zgo sc d k p' L (v :: v :: st) M o) : zgo sc d k pc L (v :: st) M o := by
  subst hp; exact zgo_p hi (fun l => if_pos hv) h
theorem zo_dup2 {v w : Value} (hi : zi k pc = some .dup2) (hp : pc + 1 = p') (hv : v.category = 1 ∧ w.category = 1) (h : zgo sc d k p' L (v :: w :: v :: w :: st) M o) : zgo sc d k pc L (v :: w :: st) M o := by
  subst hp; exact zgo_p hi (fun l => if_pos hv) h
theorem zo_pop {v : Value} (hi : zi k pc = some .pop) (hp : pc + 1 = p') (hv : v.category = 1) (h : zgo sc d k p' L st M o) : zgo sc d k pc L (v :: st) M o := by
  subst hp; exact zgo_p hi (fun l => if_pos hv) h
-- branches
theorem zo_goto {n : Int} (hi : zi k pc = some (.goto n)) (hp : zjmp pc n = some p') (h : zgo sc d k p' L st M o) : zgo sc d k pc L st M o := zgo_p hi (fun l => by simp [zs, hp]) h
theorem zo_ifT {c : ClassFile.Cond} {n : Int} {x : Int32} (hi : zi k pc = some (.ifCond c n)) (hp : zjmp pc n = some p') (hc : zcnd c x 0) (h : zgo sc d k p' L st M o) : zgo sc d k pc L (.int x :: st) M o := zgo_p hi (fun l => by simp [zs, hp, (zcndB_iff c x 0).mpr hc]) h
theorem zo_ifF {c : ClassFile.Cond} {n : Int} {x : Int32} {q : Nat} (hi : zi k pc = some (.ifCond c n)) (hq : zjmp pc n = some q) (hp : pc + 3 = p') (hc : ¬ zcnd c x 0) (h : zgo sc d k p' L st M o) : zgo sc d k pc L (.int x :: st) M o := by
  subst hp
  have hb : zcndB c x 0 = false := by
    cases hz : zcndB c x 0 with
    | false => rfl
    | true => exact absurd ((zcndB_iff c x 0).mp hz) hc
  exact zgo_p hi (fun l => by simp [zs, hq, hb]) h
theorem zo_icT {c : ClassFile.Cond} {n : Int} {x y : Int32} (hi : zi k pc = some (.if_icmp c n)) (hp : zjmp pc n = some p') (hc : zcnd c x y) (h : zgo sc d k p' L st M o) : zgo sc d k pc L (.int y :: .int x :: st) M o := zgo_p hi (fun l => by simp [zs, hp, (zcndB_iff c x y).mpr hc]) h
theorem zo_icF {c : ClassFile.Cond} {n : Int} {x y : Int32} {q : Nat} (hi : zi k pc = some (.if_icmp c n)) (hq : zjmp pc n = some q) (hp : pc + 3 = p') (hc : ¬ zcnd c x y) (h : zgo sc d k p' L st M o) : zgo sc d k pc L (.int y :: .int x :: st) M o := by
  subst hp
  have hb : zcndB c x y = false := by
    cases hz : zcndB c x y with
    | false => rfl
    | true => exact absurd ((zcndB_iff c x y).mp hz) hc
  exact zgo_p hi (fun l => by simp [zs, hq, hb]) h
theorem zo_nullT {n : Int} (hi : zi k pc = some (.ifnull n)) (hp : zjmp pc n = some p') (h : zgo sc d k p' L st M o) : zgo sc d k pc L (zrf none :: st) M o := zgo_p hi (fun l => by simp [zs, zrf, hp]) h
theorem zo_nullF {n : Int} {q : Nat} (hi : zi k pc = some (.ifnull n)) (hp : pc + 3 = p') (hq : q ≠ 18) (h : zgo sc d k p' L st M o) : zgo sc d k pc L (zrf (some q) :: st) M o := by
  subst hp; exact zgo_p hi (fun l => by simp [zs, zrf, hq]) h
theorem zo_nonnullF {n : Int} (hi : zi k pc = some (.ifnonnull n)) (hp : pc + 3 = p') (h : zgo sc d k p' L st M o) : zgo sc d k pc L (zrf none :: st) M o := by
  subst hp; exact zgo_p hi (fun l => by simp [zs, zrf]) h
theorem zo_nonnullT {n : Int} {q : Nat} (hi : zi k pc = some (.ifnonnull n)) (hp : zjmp pc n = some p') (hq : q ≠ 18) (h : zgo sc d k p' L st M o) : zgo sc d k pc L (zrf (some q) :: st) M o := zgo_p hi (fun l => by simp [zs, zrf, hp, hq]) h
theorem zo_table {df lo hi' : Int} {os : Array Int} {x : Int32} {n : Int} (hi : zi k pc = some (.tableswitch df lo hi' os)) (hl : os.toList.length = (hi' - lo + 1).toNat ∧ lo ≤ hi') (hn : zsel x (zkeys lo os.toList) df = n) (hp : zjmp pc n = some p') (h : zgo sc d k p' L st M o) : zgo sc d k pc L (.int x :: st) M o := by
  subst hn
  exact zgo_p hi (fun l => by
    show (if os.toList.length = (hi' - lo + 1).toNat ∧ lo ≤ hi' then _ else _) = _
    rw [if_pos hl, hp]; rfl) h
theorem zo_look {df : Int} {ps : Array (Int × Int)} {x : Int32} {n : Int} (hi : zi k pc = some (.lookupswitch df ps)) (hl : (ps.toList.zip (ps.toList.drop 1)).all (fun (a, next) => a.1 < next.1) = true) (hn : zsel x ps.toList df = n) (hp : zjmp pc n = some p') (h : zgo sc d k p' L st M o) : zgo sc d k pc L (.int x :: st) M o := by
  subst hn
  exact zgo_p hi (fun l => by
    show (if _ then _ else _) = _
    rw [if_pos hl, hp]; rfl) h
/-- the arms of a switch by equality of whole numbers -/
theorem zsel_hit {x : Int32} {c : Int32} {n m : Int} {r : List (Int × Int)} {df : Int} (hx : x = c) (hc : c.toInt = n) : zsel x ((n, m) :: r) df = m := by
  subst hx; exact if_pos hc
theorem zsel_skip {x : Int32} {c : Int32} {n m v : Int} {r : List (Int × Int)} {df : Int} (hx : ¬ x = c) (hc : c.toInt = n) (h : zsel x r df = v) : zsel x ((n, m) :: r) df = v := by
  show (if x.toInt = n then m else zsel x r df) = v
  rw [if_neg (fun q => hx (Int32.toInt_inj.mp (q.trans hc.symm)))]
  exact h
-- fields
def zgi (M : ZMem) (t j o : Nat) : Option Int32 := match zgf M t j o with
  | some (.int x) => some x
  | _ => none
def zgr (M : ZMem) (t j o : Nat) : Option (Option Nat) := match zgf M t j o with
  | some (.ref q) => some (some q)
  | some .null => some none
  | _ => none
theorem zgi_of {t j q : Nat} {x : Int32} (h : zgi M t j q = some x) : zgf M t j q = some (.int x) := by
  unfold zgi at h
  split at h
  · next hz => cases h; exact hz
  · cases h
theorem zgr_of {t j q : Nat} {r : Option Nat} (h : zgr M t j q = some r) : zgf M t j q = some (zrf r) := by
  unfold zgr at h
  split at h
  · next hz => cases h; exact hz
  · next hz => cases h; exact hz
  · cases h
theorem zo_getI {n t j q w : Nat} {x : Int32} (hi : zi k pc = some (.getfield n)) (hp : pc + 3 = p') (hl : zlk k n = some (0, t, j, w)) (hx : zgi M t j q = some x) (h : zgo sc d k p' L (.int x :: st) M o) : zgo sc d k pc L (.ref q :: st) M o := by
  subst hp; exact zgo_p hi (fun l => by simp [zs, hl, zgi_of hx]) h
theorem zo_getR {n t j q w : Nat} {x : Option Nat} (hi : zi k pc = some (.getfield n)) (hp : pc + 3 = p') (hl : zlk k n = some (0, t, j, w)) (hx : zgr M t j q = some x) (h : zgo sc d k p' L (zrf x :: st) M o) : zgo sc d k pc L (.ref q :: st) M o := by
  subst hp; exact zgo_p hi (fun l => by simp [zs, hl, zgr_of hx]) h
theorem zo_putI {n t j q w : Nat} {x : Int32} {b : Bool} (hi : zi k pc = some (.putfield n)) (hp : pc + 3 = p') (hl : zlk k n = some (0, t, j, w)) (hb : (zini k && ((zcl t).1 == (zmeth k).1.cls)) = b) (hx : zpf M t j q (.int x) b = some M') (h : zgo sc d k p' L st M' o) : zgo sc d k pc L (.int x :: .ref q :: st) M o := by
  subst hp; subst hb; exact zgo_p hi (fun l => by simp [zs, hl, hx]) h
theorem zo_putR {n t j q w : Nat} {x : Option Nat} {b : Bool} (hi : zi k pc = some (.putfield n)) (hp : pc + 3 = p') (hl : zlk k n = some (0, t, j, w)) (hb : (zini k && ((zcl t).1 == (zmeth k).1.cls)) = b) (hx : zpf M t j q (zrf x) b = some M') (h : zgo sc d k p' L st M' o) : zgo sc d k pc L (zrf x :: .ref q :: st) M o := by
  subst hp; subst hb; exact zgo_p hi (fun l => by cases x <;> simp_all [zs, zrf]) h
theorem zo_gets0 {n w1 w2 : Nat} (hi : zi k pc = some (.getstatic n)) (hp : pc + 3 = p') (hl : zlk k n = some (1, 0, w1, w2)) (h : zgo sc d k p' L (zrf (some 1) :: st) M o) : zgo sc d k pc L st M o := by
  subst hp; exact zgo_p hi (fun l => by simp [zs, hl, zrf]) h
theorem zo_gets1 {n w1 w2 : Nat} (hi : zi k pc = some (.getstatic n)) (hp : pc + 3 = p') (hl : zlk k n = some (1, 1, w1, w2)) (h : zgo sc d k p' L (.int 1 :: st) M o) : zgo sc d k pc L st M o := by
  subst hp; exact zgo_p hi (fun l => by simp [zs, hl]) h
theorem zo_gets2 {n w1 w2 : Nat} (hi : zi k pc = some (.getstatic n)) (hp : pc + 3 = p') (hl : zlk k n = some (1, 2, w1, w2)) (h : zgo sc d k p' L (zrf (some 18) :: st) M o) : zgo sc d k pc L st M o := by
  subst hp; exact zgo_p hi (fun l => by simp [zs, hl, zrf]) h
-- rows
/-- a row of ints: ours, or ABOVE -/
def zai (M : ZMem) (p : Nat) (i : Int32) : Option Int32 := if p = 0 then none else zla M (if p = 1 then 31 else 20) p i
def zab (M : ZMem) (p : Nat) (i : Int32) : Option Int32 := zla M (if p < 20 then 32 else if (zsh M p).1 = 21 then 21 else 22) p i
def zsb (M : ZMem) (p : Nat) (i x : Int32) : Option ZMem := zsa M (if (zsh M p).1 = 21 then 21 else 22) p i (if (zsh M p).1 = 21 then vp_nar .byte x else vp_nar .boolean x)
theorem zo_iald {q : Nat} {i x : Int32} (hi : zi k pc = some .iaload) (hp : pc + 1 = p') (hx : zai M q i = some x) (h : zgo sc d k p' L (.int x :: st) M o) : zgo sc d k pc L (.int i :: .ref q :: st) M o := by
  subst hp
  unfold zai at hx
  split at hx
  · cases hx
  · next h0 => exact zgo_p hi (fun l => by simp [zs, h0, hx]) h
theorem zo_bald {q : Nat} {i x : Int32} (hi : zi k pc = some .baload) (hp : pc + 1 = p') (hx : zab M q i = some x) (h : zgo sc d k p' L (.int x :: st) M o) : zgo sc d k pc L (.int i :: .ref q :: st) M o := by
  subst hp; unfold zab at hx; exact zgo_p hi (fun l => by simp [zs, hx]) h
theorem zo_lald {q : Nat} {i : Int32} {x : Int64} (hi : zi k pc = some .laload) (hp : pc + 1 = p') (hx : zlaL M q i = some x) (h : zgo sc d k p' L (.long x :: st) M o) : zgo sc d k pc L (.int i :: .ref q :: st) M o := by
  subst hp; exact zgo_p hi (fun l => by simp [zs, hx]) h
theorem zo_aald {q : Nat} {i : Int32} {x : Option Nat} (hi : zi k pc = some .aaload) (hp : pc + 1 = p') (hx : zlaR M q i = some x) (h : zgo sc d k p' L (zrf x :: st) M o) : zgo sc d k pc L (.int i :: .ref q :: st) M o := by
  subst hp; exact zgo_p hi (fun l => by simp [zs, hx]) h
theorem zo_iast {q : Nat} {i x : Int32} (hi : zi k pc = some .iastore) (hp : pc + 1 = p') (hx : zsa M 20 q i x = some M') (h : zgo sc d k p' L st M' o) : zgo sc d k pc L (.int x :: .int i :: .ref q :: st) M o := by
  subst hp; exact zgo_p hi (fun l => by simp [zs, hx]) h
theorem zo_bast {q : Nat} {i x : Int32} (hi : zi k pc = some .bastore) (hp : pc + 1 = p') (hx : zsb M q i x = some M') (h : zgo sc d k p' L st M' o) : zgo sc d k pc L (.int x :: .int i :: .ref q :: st) M o := by
  subst hp; unfold zsb at hx; exact zgo_p hi (fun l => by simp [zs, hx]) h
theorem zo_last {q : Nat} {i : Int32} {x : Int64} (hi : zi k pc = some .lastore) (hp : pc + 1 = p') (hx : zsaL M q i x = some M') (h : zgo sc d k p' L st M' o) : zgo sc d k pc L (.long x :: .int i :: .ref q :: st) M o := by
  subst hp; exact zgo_p hi (fun l => by simp [zs, hx]) h
theorem zo_alen {q : Nat} {x : Int32} (hi : zi k pc = some .arraylength) (hp : pc + 1 = p') (hx : zlen sc M q = some x) (h : zgo sc d k p' L (.int x :: st) M o) : zgo sc d k pc L (.ref q :: st) M o := by
  subst hp; exact zgo_p hi (fun l => by simp [zs, hx]) h
theorem zo_copy {n w1 w2 w3 p q : Nat} {sp dp c : Int32} (hi : zi k pc = some (.invokestatic n)) (hp : pc + 3 = p') (hl : zlk k n = some (5, w1, w2, w3)) (hs : (st.map fun v => v.category).sum ≤ 8) (hx : zcopy M p sp q dp c = some M') (h : zgo sc (d + 1) k p' L st M' o) : zgo sc (d + 1) k pc L (.int c :: .int dp :: .ref q :: .int sp :: .ref p :: st) M o := by
  subst hp; exact zgo_p hi (fun l => by simp [zs, hl, hs, hx]) h
-- returns
theorem zo_iret {ty : FieldType} {v : Int32} (hi : zi k pc = some .ireturn) (ht : zret k = some ty) (hc : zkd ty = 0 ∧ narrow ty (.int v) = .int v) : zgo sc d k pc L [.int v] M (some (.int v), M) :=
  zgo_r hi (fun l => rfl) rfl (by simp [zend, ht, hc]) rfl
theorem zo_lret {v : Int64} (hi : zi k pc = some .lreturn) (ht : zret k = some .long) : zgo sc d k pc L [.long v] M (some (.long v), M) :=
  zgo_r hi (fun l => rfl) rfl (by simp [zend, ht]) rfl
theorem zo_aret {ty : FieldType} {r : Option Nat} (hi : zi k pc = some .areturn) (ht : zret k = some ty) (hc : zkd ty = 2) (hr : r ≠ some 18) : zgo sc d k pc L [zrf r] M (some (zrf r), M) :=
  zgo_r hi (fun l => by cases r <;> rfl) rfl (by
    cases r with
    | none => simp [zend, ht, hc, zrf]
    | some q => simp [zend, ht, hc, zrf]; exact fun h => hr (by rw [h])) rfl
theorem zo_vret (hi : zi k pc = some .return_) (ht : zret k = none) : zgo sc d k pc L [] M (none, M) :=
  zgo_r hi (fun l => rfl) rfl (by simp [zend, ht]) rfl
-- calls
/-- the receiver of a call: an object of that class -/
def zok (M : ZMem) (t q : Nat) : Bool := decide ((zsh M q).1 = t ∧ ((t < 13 ∧ 20 ≤ q ∧ q < zn M) ∨ (t = 13 ∧ 2 ≤ q ∧ q < 9)))
theorem zo_callV {n t q c np w : Nat} {as r : List Value} {v : Option Value} {M1 : ZMem} (hi : zi k pc = some (.invokevirtual n)) (hp : pc + 3 = p') (hl : zlk k n = some (2, c, np, w)) (ha : zargs np st = some (as, .ref q :: r)) (hk : zmk c = 0) (ht : (t < 13 ∧ (zcl t).1 = (zmeth c).1.cls) ∨ (t = 13 ∧ (zmeth c).1.cls = "java/lang/String")) (hs : (r.map fun v => v.category).sum ≤ 8) (hg : (lg_sl (.ref q :: as)).length ≤ zml c) (hok : zok M t q = true) (hq : zrn d c (.ref q :: as) M (v, M1)) (h : zgo sc (d + 1) k p' L (v.toList ++ r) M1 o) : zgo sc (d + 1) k pc L st M o := by
  subst hp
  simp only [zok, decide_eq_true_eq] at hok
  refine zgo_c hi (fun l => ?_) (as := .ref q :: as) (r := r) ?_ hq h
  · unfold zs; split <;> first | rfl | simp_all
  · unfold zcall
    simp only [hl, ha]
    refine if_pos ⟨hk, ?_, hs, hg⟩
    obtain ⟨h1, h2⟩ := hok
    rcases ht with ⟨h3, h4⟩ | ⟨h3, h4⟩
    · rcases h2 with h2 | h2
      · exact Or.inl ⟨by omega, h2.2.1, h2.2.2, by rw [h1]; exact h4⟩
      · omega
    · rcases h2 with h2 | h2
      · omega
      · exact Or.inr ⟨by omega, h2.2.1, h2.2.2, h4⟩
theorem zo_callS {n c np w : Nat} {as r : List Value} {v : Option Value} {M1 : ZMem} (hi : zi k pc = some (.invokestatic n)) (hp : pc + 3 = p') (hl : zlk k n = some (2, c, np, w) ∨ zlk k n = some (3, c, np, w)) (ha : zargs np st = some (as, r)) (hk : zmk c = 1) (hs : (r.map fun v => v.category).sum ≤ 8) (hg : (lg_sl as).length ≤ zml c) (hq : zrn d c as M (v, M1)) (h : zgo sc (d + 1) k p' L (v.toList ++ r) M1 o) : zgo sc (d + 1) k pc L st M o := by
  subst hp
  refine zgo_c hi (fun l => ?_) (as := as) (r := r) ?_ hq h
  · unfold zs
    split <;> first | rfl | simp_all
    rcases hl with hl | hl <;> simp_all
  · unfold zcall
    rcases hl with hl | hl
    · simp only [hl, ha]
      exact if_pos ⟨hk, hs, hg⟩
    · simp only [hl, ha]
      exact if_pos ⟨hk, hs, hg⟩
end ZG2
