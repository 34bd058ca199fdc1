/-! what the functions are made of -/
def zF : Nat := 100000
def zb {α β : Type} (x : Option α) (f : α → Option β) : Option β := match x with
  | none => none
  | some a => f a
theorem zb_of {α β : Type} {x : Option α} {f : α → Option β} {b : β} (h : zb x f = some b) : ∃ a, x = some a ∧ f a = some b := by
  cases x with
  | none => cases h
  | some a => exact ⟨a, rfl, h⟩
theorem zb_some {α β : Type} (a : α) (f : α → Option β) : zb (some a) f = f a := rfl
theorem zb_none {α β : Type} (f : α → Option β) : zb none f = none := rfl
def zbd {α β : Type} (x : Option (α × ZMem)) (f : α → ZMem → Option β) : Option β := match x with
  | none => none
  | some y => f y.1 y.2
theorem zbd_of {α β : Type} {x : Option (α × ZMem)} {f : α → ZMem → Option β} {b : β} (h : zbd x f = some b) : ∃ a M, x = some (a, M) ∧ f a M = some b := by
  cases x with
  | none => cases h
  | some y => exact ⟨y.1, y.2, rfl, h⟩
theorem zbd_some {α β : Type} (a : α) (M : ZMem) (f : α → ZMem → Option β) : zbd (some (a, M)) f = f a M := rfl
theorem zbd_none {α β : Type} (f : α → ZMem → Option β) : zbd none f = none := rfl
def zcs {β : Type} (r : Option Nat) (a : Option β) (f : Nat → Option β) : Option β := match r with
  | none => a
  | some q => if q = 18 then none else f q
theorem zcat_i (x : Int32) : (Value.int x).category = 1 := rfl
theorem zcat_r (x : Nat) : (Value.ref x).category = 1 := rfl
theorem zcat_l (x : Int64) : (Value.long x).category = 2 := rfl
theorem zcs_none {β : Type} {a : Option β} {f : Nat → Option β} {b : β} (h : zcs none a f = some b) : a = some b := h
theorem zcs_some {β : Type} {a : Option β} {f : Nat → Option β} {b : β} {q : Nat} (h : zcs (some q) a f = some b) : q ≠ 18 ∧ f q = some b := by
  by_cases hq : q = 18
  · have h2 : (if q = 18 then none else f q) = some b := h
    rw [if_pos hq] at h2; cases h2
  · have h2 : (if q = 18 then none else f q) = some b := h
    rw [if_neg hq] at h2
    exact ⟨hq, h2⟩
section ZG3
variable {sc : Option (Nat × (Nat → Int32))} {d k pc : Nat} {L : List (Nat × Value)} {st : List Value} {M M' : ZMem} {o : Option Value × ZMem} {p' : Nat}
theorem zo_callVi {n t q c np w : Nat} {as r : List Value} {x : Int32} {M1 : ZMem} (hi : zi k pc = some (.invokevirtual n)) (hp : pc + 3 = p') (hl : zlk k n = some (2, c, np, w)) (ha : zargs np st = some (as, .ref q :: r)) (hk : zmk c = 0) (ht : (t < 13 ∧ (zcl t).1 = (zmeth c).1.cls) ∨ (t = 13 ∧ (zmeth c).1.cls = "java/lang/String")) (hs : (r.map fun v => v.category).sum ≤ 8) (hg : (lg_sl (.ref q :: as)).length ≤ zml c) (hok : zok M t q = true) (hq : zrn d c (.ref q :: as) M (some (.int x), M1)) (h : zgo sc (d + 1) k p' L (.int x :: r) M1 o) : zgo sc (d + 1) k pc L st M o := zo_callV hi hp hl ha hk ht hs hg hok hq h
theorem zo_callSi {n c np w : Nat} {as r : List Value} {x : Int32} {M1 : ZMem} (hi : zi k pc = some (.invokestatic n)) (hp : pc + 3 = p') (hl : zlk k n = some (2, c, np, w) ∨ zlk k n = some (3, c, np, w)) (ha : zargs np st = some (as, r)) (hk : zmk c = 1) (hs : (r.map fun v => v.category).sum ≤ 8) (hg : (lg_sl as).length ≤ zml c) (hq : zrn d c as M (some (.int x), M1)) (h : zgo sc (d + 1) k p' L (.int x :: r) M1 o) : zgo sc (d + 1) k pc L st M o := zo_callS hi hp hl ha hk hs hg hq h
theorem zo_callVl {n t q c np w : Nat} {as r : List Value} {x : Int64} {M1 : ZMem} (hi : zi k pc = some (.invokevirtual n)) (hp : pc + 3 = p') (hl : zlk k n = some (2, c, np, w)) (ha : zargs np st = some (as, .ref q :: r)) (hk : zmk c = 0) (ht : (t < 13 ∧ (zcl t).1 = (zmeth c).1.cls) ∨ (t = 13 ∧ (zmeth c).1.cls = "java/lang/String")) (hs : (r.map fun v => v.category).sum ≤ 8) (hg : (lg_sl (.ref q :: as)).length ≤ zml c) (hok : zok M t q = true) (hq : zrn d c (.ref q :: as) M (some (.long x), M1)) (h : zgo sc (d + 1) k p' L (.long x :: r) M1 o) : zgo sc (d + 1) k pc L st M o := zo_callV hi hp hl ha hk ht hs hg hok hq h
theorem zo_callSl {n c np w : Nat} {as r : List Value} {x : Int64} {M1 : ZMem} (hi : zi k pc = some (.invokestatic n)) (hp : pc + 3 = p') (hl : zlk k n = some (2, c, np, w) ∨ zlk k n = some (3, c, np, w)) (ha : zargs np st = some (as, r)) (hk : zmk c = 1) (hs : (r.map fun v => v.category).sum ≤ 8) (hg : (lg_sl as).length ≤ zml c) (hq : zrn d c as M (some (.long x), M1)) (h : zgo sc (d + 1) k p' L (.long x :: r) M1 o) : zgo sc (d + 1) k pc L st M o := zo_callS hi hp hl ha hk hs hg hq h
theorem zo_callVa {n t q c np w : Nat} {as r : List Value} {x : Option Nat} {M1 : ZMem} (hi : zi k pc = some (.invokevirtual n)) (hp : pc + 3 = p') (hl : zlk k n = some (2, c, np, w)) (ha : zargs np st = some (as, .ref q :: r)) (hk : zmk c = 0) (ht : (t < 13 ∧ (zcl t).1 = (zmeth c).1.cls) ∨ (t = 13 ∧ (zmeth c).1.cls = "java/lang/String")) (hs : (r.map fun v => v.category).sum ≤ 8) (hg : (lg_sl (.ref q :: as)).length ≤ zml c) (hok : zok M t q = true) (hq : zrn d c (.ref q :: as) M (some (zrf x), M1)) (h : zgo sc (d + 1) k p' L (zrf x :: r) M1 o) : zgo sc (d + 1) k pc L st M o := zo_callV hi hp hl ha hk ht hs hg hok hq h
theorem zo_callSa {n c np w : Nat} {as r : List Value} {x : Option Nat} {M1 : ZMem} (hi : zi k pc = some (.invokestatic n)) (hp : pc + 3 = p') (hl : zlk k n = some (2, c, np, w) ∨ zlk k n = some (3, c, np, w)) (ha : zargs np st = some (as, r)) (hk : zmk c = 1) (hs : (r.map fun v => v.category).sum ≤ 8) (hg : (lg_sl as).length ≤ zml c) (hq : zrn d c as M (some (zrf x), M1)) (h : zgo sc (d + 1) k p' L (zrf x :: r) M1 o) : zgo sc (d + 1) k pc L st M o := zo_callS hi hp hl ha hk hs hg hq h
theorem zo_callVv {n t q c np w : Nat} {as r : List Value}  {M1 : ZMem} (hi : zi k pc = some (.invokevirtual n)) (hp : pc + 3 = p') (hl : zlk k n = some (2, c, np, w)) (ha : zargs np st = some (as, .ref q :: r)) (hk : zmk c = 0) (ht : (t < 13 ∧ (zcl t).1 = (zmeth c).1.cls) ∨ (t = 13 ∧ (zmeth c).1.cls = "java/lang/String")) (hs : (r.map fun v => v.category).sum ≤ 8) (hg : (lg_sl (.ref q :: as)).length ≤ zml c) (hok : zok M t q = true) (hq : zrn d c (.ref q :: as) M (none, M1)) (h : zgo sc (d + 1) k p' L (r) M1 o) : zgo sc (d + 1) k pc L st M o := zo_callV hi hp hl ha hk ht hs hg hok hq h
theorem zo_callSv {n c np w : Nat} {as r : List Value}  {M1 : ZMem} (hi : zi k pc = some (.invokestatic n)) (hp : pc + 3 = p') (hl : zlk k n = some (2, c, np, w) ∨ zlk k n = some (3, c, np, w)) (ha : zargs np st = some (as, r)) (hk : zmk c = 1) (hs : (r.map fun v => v.category).sum ≤ 8) (hg : (lg_sl as).length ≤ zml c) (hq : zrn d c as M (none, M1)) (h : zgo sc (d + 1) k p' L (r) M1 o) : zgo sc (d + 1) k pc L st M o := zo_callS hi hp hl ha hk hs hg hq h
end ZG3
theorem zi_0 {pc : Nat} {i : Instr} (h : zfind2 zt_0 pc = some i) : zi 0 pc = some i := h
theorem zml_0 : zml 0 = 4 := rfl
theorem zi_1 {pc : Nat} {i : Instr} (h : zfind2 zt_1 pc = some i) : zi 1 pc = some i := h
theorem zml_1 : zml 1 = 2 := rfl
theorem zi_2 {pc : Nat} {i : Instr} (h : zfind2 zt_2 pc = some i) : zi 2 pc = some i := h
theorem zml_2 : zml 2 = 1 := rfl
theorem zi_3 {pc : Nat} {i : Instr} (h : zfind2 zt_3 pc = some i) : zi 3 pc = some i := h
theorem zml_3 : zml 3 = 2 := rfl
theorem zi_4 {pc : Nat} {i : Instr} (h : zfind2 zt_4 pc = some i) : zi 4 pc = some i := h
theorem zml_4 : zml 4 = 2 := rfl
theorem zi_5 {pc : Nat} {i : Instr} (h : zfind2 zt_5 pc = some i) : zi 5 pc = some i := h
theorem zml_5 : zml 5 = 2 := rfl
theorem zi_6 {pc : Nat} {i : Instr} (h : zfind2 zt_6 pc = some i) : zi 6 pc = some i := h
theorem zml_6 : zml 6 = 1 := rfl
theorem zi_7 {pc : Nat} {i : Instr} (h : zfind2 zt_7 pc = some i) : zi 7 pc = some i := h
theorem zml_7 : zml 7 = 1 := rfl
theorem zi_8 {pc : Nat} {i : Instr} (h : zfind2 zt_8 pc = some i) : zi 8 pc = some i := h
theorem zml_8 : zml 8 = 1 := rfl
theorem zi_9 {pc : Nat} {i : Instr} (h : zfind2 zt_9 pc = some i) : zi 9 pc = some i := h
theorem zml_9 : zml 9 = 1 := rfl
theorem zi_10 {pc : Nat} {i : Instr} (h : zfind2 zt_10 pc = some i) : zi 10 pc = some i := h
theorem zml_10 : zml 10 = 1 := rfl
theorem zi_11 {pc : Nat} {i : Instr} (h : zfind2 zt_11 pc = some i) : zi 11 pc = some i := h
theorem zml_11 : zml 11 = 1 := rfl
theorem zi_12 {pc : Nat} {i : Instr} (h : zfind2 zt_12 pc = some i) : zi 12 pc = some i := h
theorem zml_12 : zml 12 = 1 := rfl
theorem zi_13 {pc : Nat} {i : Instr} (h : zfind2 zt_13 pc = some i) : zi 13 pc = some i := h
theorem zml_13 : zml 13 = 5 := rfl
theorem zm_13_4 : 4 < zml 13 := by rw [zml_13]; decide
theorem zi_14 {pc : Nat} {i : Instr} (h : zfind2 zt_14 pc = some i) : zi 14 pc = some i := h
theorem zml_14 : zml 14 = 3 := rfl
theorem zi_15 {pc : Nat} {i : Instr} (h : zfind2 zt_15 pc = some i) : zi 15 pc = some i := h
theorem zml_15 : zml 15 = 1 := rfl
theorem zpb_15 (t : Nat) : (zini 15 && ((zcl t).1 == (zmeth 15).1.cls)) = false := by rw [show zini 15 = false by decide +kernel]; rfl
theorem zi_16 {pc : Nat} {i : Instr} (h : zfind2 zt_16 pc = some i) : zi 16 pc = some i := h
theorem zml_16 : zml 16 = 4 := rfl
theorem zpb_16 (t : Nat) : (zini 16 && ((zcl t).1 == (zmeth 16).1.cls)) = false := by rw [show zini 16 = false by decide +kernel]; rfl
theorem zi_17 {pc : Nat} {i : Instr} (h : zfind2 zt_17 pc = some i) : zi 17 pc = some i := h
theorem zml_17 : zml 17 = 4 := rfl
theorem zm_17_2 : 2 < zml 17 := by rw [zml_17]; decide
theorem zm_17_3 : 3 < zml 17 := by rw [zml_17]; decide
theorem zi_18 {pc : Nat} {i : Instr} (h : zfind2 zt_18 pc = some i) : zi 18 pc = some i := h
theorem zml_18 : zml 18 = 4 := rfl
theorem zm_18_3 : 3 < zml 18 := by rw [zml_18]; decide
theorem zi_19 {pc : Nat} {i : Instr} (h : zfind2 zt_19 pc = some i) : zi 19 pc = some i := h
theorem zml_19 : zml 19 = 2 := rfl
theorem zi_20 {pc : Nat} {i : Instr} (h : zfind2 zt_20 pc = some i) : zi 20 pc = some i := h
theorem zml_20 : zml 20 = 2 := rfl
theorem zm_20_1 : 1 < zml 20 := by rw [zml_20]; decide
theorem zi_21 {pc : Nat} {i : Instr} (h : zfind2 zt_21 pc = some i) : zi 21 pc = some i := h
theorem zml_21 : zml 21 = 7 := rfl
theorem zm_21_3 : 3 < zml 21 := by rw [zml_21]; decide
theorem zm_21_4 : 4 < zml 21 := by rw [zml_21]; decide
theorem zm_21_5 : 5 < zml 21 := by rw [zml_21]; decide
theorem zm_21_6 : 6 < zml 21 := by rw [zml_21]; decide
theorem zi_22 {pc : Nat} {i : Instr} (h : zfind2 zt_22 pc = some i) : zi 22 pc = some i := h
theorem zml_22 : zml 22 = 5 := rfl
theorem zm_22_3 : 3 < zml 22 := by rw [zml_22]; decide
theorem zm_22_4 : 4 < zml 22 := by rw [zml_22]; decide
theorem zi_23 {pc : Nat} {i : Instr} (h : zfind2 zt_23 pc = some i) : zi 23 pc = some i := h
theorem zml_23 : zml 23 = 3 := rfl
theorem zi_24 {pc : Nat} {i : Instr} (h : zfind2 zt_24 pc = some i) : zi 24 pc = some i := h
theorem zml_24 : zml 24 = 2 := rfl
theorem zi_25 {pc : Nat} {i : Instr} (h : zfind2 zt_25 pc = some i) : zi 25 pc = some i := h
theorem zml_25 : zml 25 = 4 := rfl
theorem zm_25_3 : 3 < zml 25 := by rw [zml_25]; decide
theorem zi_26 {pc : Nat} {i : Instr} (h : zfind2 zt_26 pc = some i) : zi 26 pc = some i := h
theorem zml_26 : zml 26 = 2 := rfl
theorem zi_27 {pc : Nat} {i : Instr} (h : zfind2 zt_27 pc = some i) : zi 27 pc = some i := h
theorem zml_27 : zml 27 = 3 := rfl
theorem zi_28 {pc : Nat} {i : Instr} (h : zfind2 zt_28 pc = some i) : zi 28 pc = some i := h
theorem zml_28 : zml 28 = 4 := rfl
theorem zpb_28 (t : Nat) : (zini 28 && ((zcl t).1 == (zmeth 28).1.cls)) = false := by rw [show zini 28 = false by decide +kernel]; rfl
theorem zi_29 {pc : Nat} {i : Instr} (h : zfind2 zt_29 pc = some i) : zi 29 pc = some i := h
theorem zml_29 : zml 29 = 5 := rfl
theorem zpb_29 (t : Nat) : (zini 29 && ((zcl t).1 == (zmeth 29).1.cls)) = false := by rw [show zini 29 = false by decide +kernel]; rfl
theorem zi_30 {pc : Nat} {i : Instr} (h : zfind2 zt_30 pc = some i) : zi 30 pc = some i := h
theorem zml_30 : zml 30 = 3 := rfl
theorem zm_30_2 : 2 < zml 30 := by rw [zml_30]; decide
theorem zi_31 {pc : Nat} {i : Instr} (h : zfind2 zt_31 pc = some i) : zi 31 pc = some i := h
theorem zml_31 : zml 31 = 1 := rfl
theorem zi_32 {pc : Nat} {i : Instr} (h : zfind2 zt_32 pc = some i) : zi 32 pc = some i := h
theorem zml_32 : zml 32 = 1 := rfl
theorem zi_33 {pc : Nat} {i : Instr} (h : zfind2 zt_33 pc = some i) : zi 33 pc = some i := h
theorem zml_33 : zml 33 = 2 := rfl
theorem zi_34 {pc : Nat} {i : Instr} (h : zfind2 zt_34 pc = some i) : zi 34 pc = some i := h
theorem zml_34 : zml 34 = 2 := rfl
theorem zi_35 {pc : Nat} {i : Instr} (h : zfind2 zt_35 pc = some i) : zi 35 pc = some i := h
theorem zml_35 : zml 35 = 7 := rfl
theorem zm_35_2 : 2 < zml 35 := by rw [zml_35]; decide
theorem zm_35_3 : 3 < zml 35 := by rw [zml_35]; decide
theorem zm_35_4 : 4 < zml 35 := by rw [zml_35]; decide
theorem zm_35_5 : 5 < zml 35 := by rw [zml_35]; decide
theorem zm_35_6 : 6 < zml 35 := by rw [zml_35]; decide
theorem zi_36 {pc : Nat} {i : Instr} (h : zfind2 zt_36 pc = some i) : zi 36 pc = some i := h
theorem zml_36 : zml 36 = 1 := rfl
theorem zi_37 {pc : Nat} {i : Instr} (h : zfind2 zt_37 pc = some i) : zi 37 pc = some i := h
theorem zml_37 : zml 37 = 2 := rfl
theorem zi_38 {pc : Nat} {i : Instr} (h : zfind2 zt_38 pc = some i) : zi 38 pc = some i := h
theorem zml_38 : zml 38 = 2 := rfl
theorem zi_39 {pc : Nat} {i : Instr} (h : zfind2 zt_39 pc = some i) : zi 39 pc = some i := h
theorem zml_39 : zml 39 = 2 := rfl
theorem zi_40 {pc : Nat} {i : Instr} (h : zfind2 zt_40 pc = some i) : zi 40 pc = some i := h
theorem zml_40 : zml 40 = 3 := rfl
theorem zi_41 {pc : Nat} {i : Instr} (h : zfind2 zt_41 pc = some i) : zi 41 pc = some i := h
theorem zml_41 : zml 41 = 5 := rfl
theorem zm_41_3 : 3 < zml 41 := by rw [zml_41]; decide
theorem zm_41_4 : 4 < zml 41 := by rw [zml_41]; decide
theorem zi_42 {pc : Nat} {i : Instr} (h : zfind2 zt_42 pc = some i) : zi 42 pc = some i := h
theorem zml_42 : zml 42 = 4 := rfl
theorem zm_42_2 : 2 < zml 42 := by rw [zml_42]; decide
theorem zm_42_3 : 3 < zml 42 := by rw [zml_42]; decide
theorem zi_43 {pc : Nat} {i : Instr} (h : zfind2 zt_43 pc = some i) : zi 43 pc = some i := h
theorem zml_43 : zml 43 = 4 := rfl
theorem zm_43_2 : 2 < zml 43 := by rw [zml_43]; decide
theorem zm_43_3 : 3 < zml 43 := by rw [zml_43]; decide
theorem zi_44 {pc : Nat} {i : Instr} (h : zfind2 zt_44 pc = some i) : zi 44 pc = some i := h
theorem zml_44 : zml 44 = 4 := rfl
theorem zi_45 {pc : Nat} {i : Instr} (h : zfind2 zt_45 pc = some i) : zi 45 pc = some i := h
theorem zml_45 : zml 45 = 2 := rfl
theorem zpb_45 (t : Nat) : (zini 45 && ((zcl t).1 == (zmeth 45).1.cls)) = false := by rw [show zini 45 = false by decide +kernel]; rfl
theorem zi_46 {pc : Nat} {i : Instr} (h : zfind2 zt_46 pc = some i) : zi 46 pc = some i := h
theorem zml_46 : zml 46 = 4 := rfl
theorem zm_46_2 : 2 < zml 46 := by rw [zml_46]; decide
theorem zm_46_3 : 3 < zml 46 := by rw [zml_46]; decide
theorem zi_47 {pc : Nat} {i : Instr} (h : zfind2 zt_47 pc = some i) : zi 47 pc = some i := h
theorem zml_47 : zml 47 = 4 := rfl
theorem zm_47_2 : 2 < zml 47 := by rw [zml_47]; decide
theorem zm_47_3 : 3 < zml 47 := by rw [zml_47]; decide
theorem zi_48 {pc : Nat} {i : Instr} (h : zfind2 zt_48 pc = some i) : zi 48 pc = some i := h
theorem zml_48 : zml 48 = 5 := rfl
theorem zpb_48 (t : Nat) : (zini 48 && ((zcl t).1 == (zmeth 48).1.cls)) = false := by rw [show zini 48 = false by decide +kernel]; rfl
theorem zm_48_3 : 3 < zml 48 := by rw [zml_48]; decide
theorem zm_48_4 : 4 < zml 48 := by rw [zml_48]; decide
theorem zi_49 {pc : Nat} {i : Instr} (h : zfind2 zt_49 pc = some i) : zi 49 pc = some i := h
theorem zml_49 : zml 49 = 6 := rfl
theorem zm_49_4 : 4 < zml 49 := by rw [zml_49]; decide
theorem zm_49_5 : 5 < zml 49 := by rw [zml_49]; decide
theorem zi_50 {pc : Nat} {i : Instr} (h : zfind2 zt_50 pc = some i) : zi 50 pc = some i := h
theorem zml_50 : zml 50 = 6 := rfl
theorem zpb_50 (t : Nat) : (zini 50 && ((zcl t).1 == (zmeth 50).1.cls)) = false := by rw [show zini 50 = false by decide +kernel]; rfl
theorem zm_50_3 : 3 < zml 50 := by rw [zml_50]; decide
theorem zm_50_4 : 4 < zml 50 := by rw [zml_50]; decide
theorem zm_50_5 : 5 < zml 50 := by rw [zml_50]; decide
theorem zi_51 {pc : Nat} {i : Instr} (h : zfind2 zt_51 pc = some i) : zi 51 pc = some i := h
theorem zml_51 : zml 51 = 4 := rfl
theorem zi_52 {pc : Nat} {i : Instr} (h : zfind2 zt_52 pc = some i) : zi 52 pc = some i := h
theorem zml_52 : zml 52 = 3 := rfl
theorem zi_53 {pc : Nat} {i : Instr} (h : zfind2 zt_53 pc = some i) : zi 53 pc = some i := h
theorem zml_53 : zml 53 = 2 := rfl
theorem zpb_53 (t : Nat) : (zini 53 && ((zcl t).1 == (zmeth 53).1.cls)) = false := by rw [show zini 53 = false by decide +kernel]; rfl
theorem zi_54 {pc : Nat} {i : Instr} (h : zfind2 zt_54 pc = some i) : zi 54 pc = some i := h
theorem zml_54 : zml 54 = 5 := rfl
theorem zm_54_4 : 4 < zml 54 := by rw [zml_54]; decide
theorem zi_55 {pc : Nat} {i : Instr} (h : zfind2 zt_55 pc = some i) : zi 55 pc = some i := h
theorem zml_55 : zml 55 = 2 := rfl
theorem zi_56 {pc : Nat} {i : Instr} (h : zfind2 zt_56 pc = some i) : zi 56 pc = some i := h
theorem zml_56 : zml 56 = 4 := rfl
theorem zpb_56 (t : Nat) : (zini 56 && ((zcl t).1 == (zmeth 56).1.cls)) = false := by rw [show zini 56 = false by decide +kernel]; rfl
theorem zm_56_2 : 2 < zml 56 := by rw [zml_56]; decide
theorem zm_56_3 : 3 < zml 56 := by rw [zml_56]; decide
theorem zi_57 {pc : Nat} {i : Instr} (h : zfind2 zt_57 pc = some i) : zi 57 pc = some i := h
theorem zml_57 : zml 57 = 1 := rfl
theorem zi_58 {pc : Nat} {i : Instr} (h : zfind2 zt_58 pc = some i) : zi 58 pc = some i := h
theorem zml_58 : zml 58 = 3 := rfl
theorem zi_59 {pc : Nat} {i : Instr} (h : zfind2 zt_59 pc = some i) : zi 59 pc = some i := h
theorem zml_59 : zml 59 = 2 := rfl
theorem zpb_59 (t : Nat) : (zini 59 && ((zcl t).1 == (zmeth 59).1.cls)) = false := by rw [show zini 59 = false by decide +kernel]; rfl
theorem zi_60 {pc : Nat} {i : Instr} (h : zfind2 zt_60 pc = some i) : zi 60 pc = some i := h
theorem zml_60 : zml 60 = 2 := rfl
theorem zpb_60 (t : Nat) : (zini 60 && ((zcl t).1 == (zmeth 60).1.cls)) = false := by rw [show zini 60 = false by decide +kernel]; rfl
theorem zm_60_1 : 1 < zml 60 := by rw [zml_60]; decide
theorem zi_61 {pc : Nat} {i : Instr} (h : zfind2 zt_61 pc = some i) : zi 61 pc = some i := h
theorem zml_61 : zml 61 = 5 := rfl
theorem zpb_61 (t : Nat) : (zini 61 && ((zcl t).1 == (zmeth 61).1.cls)) = false := by rw [show zini 61 = false by decide +kernel]; rfl
theorem zm_61_4 : 4 < zml 61 := by rw [zml_61]; decide
theorem zi_62 {pc : Nat} {i : Instr} (h : zfind2 zt_62 pc = some i) : zi 62 pc = some i := h
theorem zml_62 : zml 62 = 1 := rfl
theorem zpb_62 (t : Nat) : (zini 62 && ((zcl t).1 == (zmeth 62).1.cls)) = false := by rw [show zini 62 = false by decide +kernel]; rfl
theorem zi_63 {pc : Nat} {i : Instr} (h : zfind2 zt_63 pc = some i) : zi 63 pc = some i := h
theorem zml_63 : zml 63 = 3 := rfl
theorem zpb_63 (t : Nat) : (zini 63 && ((zcl t).1 == (zmeth 63).1.cls)) = false := by rw [show zini 63 = false by decide +kernel]; rfl
theorem zm_63_1 : 1 < zml 63 := by rw [zml_63]; decide
theorem zm_63_2 : 2 < zml 63 := by rw [zml_63]; decide
theorem zi_64 {pc : Nat} {i : Instr} (h : zfind2 zt_64 pc = some i) : zi 64 pc = some i := h
theorem zml_64 : zml 64 = 4 := rfl
theorem zpb_64 (t : Nat) : (zini 64 && ((zcl t).1 == (zmeth 64).1.cls)) = false := by rw [show zini 64 = false by decide +kernel]; rfl
theorem zm_64_1 : 1 < zml 64 := by rw [zml_64]; decide
theorem zm_64_2 : 2 < zml 64 := by rw [zml_64]; decide
theorem zm_64_3 : 3 < zml 64 := by rw [zml_64]; decide
theorem zi_65 {pc : Nat} {i : Instr} (h : zfind2 zt_65 pc = some i) : zi 65 pc = some i := h
theorem zml_65 : zml 65 = 1 := rfl
theorem zi_66 {pc : Nat} {i : Instr} (h : zfind2 zt_66 pc = some i) : zi 66 pc = some i := h
theorem zml_66 : zml 66 = 4 := rfl
theorem zm_66_2 : 2 < zml 66 := by rw [zml_66]; decide
theorem zm_66_3 : 3 < zml 66 := by rw [zml_66]; decide
theorem zi_67 {pc : Nat} {i : Instr} (h : zfind2 zt_67 pc = some i) : zi 67 pc = some i := h
theorem zml_67 : zml 67 = 1 := rfl
theorem zi_68 {pc : Nat} {i : Instr} (h : zfind2 zt_68 pc = some i) : zi 68 pc = some i := h
theorem zml_68 : zml 68 = 1 := rfl
theorem zi_69 {pc : Nat} {i : Instr} (h : zfind2 zt_69 pc = some i) : zi 69 pc = some i := h
theorem zml_69 : zml 69 = 2 := rfl
theorem zi_70 {pc : Nat} {i : Instr} (h : zfind2 zt_70 pc = some i) : zi 70 pc = some i := h
theorem zml_70 : zml 70 = 1 := rfl
theorem zi_71 {pc : Nat} {i : Instr} (h : zfind2 zt_71 pc = some i) : zi 71 pc = some i := h
theorem zml_71 : zml 71 = 2 := rfl
theorem zi_72 {pc : Nat} {i : Instr} (h : zfind2 zt_72 pc = some i) : zi 72 pc = some i := h
theorem zml_72 : zml 72 = 2 := rfl
theorem zi_73 {pc : Nat} {i : Instr} (h : zfind2 zt_73 pc = some i) : zi 73 pc = some i := h
theorem zml_73 : zml 73 = 3 := rfl
theorem zi_74 {pc : Nat} {i : Instr} (h : zfind2 zt_74 pc = some i) : zi 74 pc = some i := h
theorem zml_74 : zml 74 = 2 := rfl
theorem zpb_74 (t : Nat) : (zini 74 && ((zcl t).1 == (zmeth 74).1.cls)) = false := by rw [show zini 74 = false by decide +kernel]; rfl
theorem zi_75 {pc : Nat} {i : Instr} (h : zfind2 zt_75 pc = some i) : zi 75 pc = some i := h
theorem zml_75 : zml 75 = 1 := rfl
theorem zi_76 {pc : Nat} {i : Instr} (h : zfind2 zt_76 pc = some i) : zi 76 pc = some i := h
theorem zml_76 : zml 76 = 3 := rfl
theorem zpb_76 (t : Nat) : (zini 76 && ((zcl t).1 == (zmeth 76).1.cls)) = false := by rw [show zini 76 = false by decide +kernel]; rfl
theorem zm_76_1 : 1 < zml 76 := by rw [zml_76]; decide
theorem zm_76_2 : 2 < zml 76 := by rw [zml_76]; decide
theorem zi_77 {pc : Nat} {i : Instr} (h : zfind2 zt_77 pc = some i) : zi 77 pc = some i := h
theorem zml_77 : zml 77 = 3 := rfl
theorem zm_77_2 : 2 < zml 77 := by rw [zml_77]; decide
theorem zi_78 {pc : Nat} {i : Instr} (h : zfind2 zt_78 pc = some i) : zi 78 pc = some i := h
theorem zml_78 : zml 78 = 3 := rfl
theorem zm_78_2 : 2 < zml 78 := by rw [zml_78]; decide
theorem zi_79 {pc : Nat} {i : Instr} (h : zfind2 zt_79 pc = some i) : zi 79 pc = some i := h
theorem zml_79 : zml 79 = 2 := rfl
theorem zi_80 {pc : Nat} {i : Instr} (h : zfind2 zt_80 pc = some i) : zi 80 pc = some i := h
theorem zml_80 : zml 80 = 4 := rfl
theorem zm_80_1 : 1 < zml 80 := by rw [zml_80]; decide
theorem zm_80_2 : 2 < zml 80 := by rw [zml_80]; decide
theorem zm_80_3 : 3 < zml 80 := by rw [zml_80]; decide
theorem zi_81 {pc : Nat} {i : Instr} (h : zfind2 zt_81 pc = some i) : zi 81 pc = some i := h
theorem zml_81 : zml 81 = 3 := rfl
theorem zpb_81 (t : Nat) : (zini 81 && ((zcl t).1 == (zmeth 81).1.cls)) = false := by rw [show zini 81 = false by decide +kernel]; rfl
theorem zm_81_2 : 2 < zml 81 := by rw [zml_81]; decide
theorem zi_82 {pc : Nat} {i : Instr} (h : zfind2 zt_82 pc = some i) : zi 82 pc = some i := h
theorem zml_82 : zml 82 = 2 := rfl
theorem zi_83 {pc : Nat} {i : Instr} (h : zfind2 zt_83 pc = some i) : zi 83 pc = some i := h
theorem zml_83 : zml 83 = 3 := rfl
theorem zi_84 {pc : Nat} {i : Instr} (h : zfind2 zt_84 pc = some i) : zi 84 pc = some i := h
theorem zml_84 : zml 84 = 4 := rfl
theorem zm_84_2 : 2 < zml 84 := by rw [zml_84]; decide
theorem zm_84_3 : 3 < zml 84 := by rw [zml_84]; decide
theorem zi_85 {pc : Nat} {i : Instr} (h : zfind2 zt_85 pc = some i) : zi 85 pc = some i := h
theorem zml_85 : zml 85 = 1 := rfl
theorem zi_86 {pc : Nat} {i : Instr} (h : zfind2 zt_86 pc = some i) : zi 86 pc = some i := h
theorem zml_86 : zml 86 = 6 := rfl
theorem zm_86_4 : 4 < zml 86 := by rw [zml_86]; decide
theorem zm_86_5 : 5 < zml 86 := by rw [zml_86]; decide
theorem zi_87 {pc : Nat} {i : Instr} (h : zfind2 zt_87 pc = some i) : zi 87 pc = some i := h
theorem zml_87 : zml 87 = 5 := rfl
theorem zpb_87 (t : Nat) : (zini 87 && ((zcl t).1 == (zmeth 87).1.cls)) = false := by rw [show zini 87 = false by decide +kernel]; rfl
theorem zi_88 {pc : Nat} {i : Instr} (h : zfind2 zt_88 pc = some i) : zi 88 pc = some i := h
theorem zml_88 : zml 88 = 2 := rfl
theorem zi_89 {pc : Nat} {i : Instr} (h : zfind2 zt_89 pc = some i) : zi 89 pc = some i := h
theorem zml_89 : zml 89 = 4 := rfl
theorem zm_89_2 : 2 < zml 89 := by rw [zml_89]; decide
theorem zm_89_3 : 3 < zml 89 := by rw [zml_89]; decide
theorem zi_90 {pc : Nat} {i : Instr} (h : zfind2 zt_90 pc = some i) : zi 90 pc = some i := h
theorem zml_90 : zml 90 = 3 := rfl
theorem zi_91 {pc : Nat} {i : Instr} (h : zfind2 zt_91 pc = some i) : zi 91 pc = some i := h
theorem zml_91 : zml 91 = 2 := rfl
theorem zi_92 {pc : Nat} {i : Instr} (h : zfind2 zt_92 pc = some i) : zi 92 pc = some i := h
theorem zml_92 : zml 92 = 5 := rfl
theorem zpb_92 (t : Nat) : (zini 92 && ((zcl t).1 == (zmeth 92).1.cls)) = false := by rw [show zini 92 = false by decide +kernel]; rfl
theorem zm_92_3 : 3 < zml 92 := by rw [zml_92]; decide
theorem zm_92_4 : 4 < zml 92 := by rw [zml_92]; decide
theorem zi_93 {pc : Nat} {i : Instr} (h : zfind2 zt_93 pc = some i) : zi 93 pc = some i := h
theorem zml_93 : zml 93 = 5 := rfl
theorem zm_93_3 : 3 < zml 93 := by rw [zml_93]; decide
theorem zm_93_4 : 4 < zml 93 := by rw [zml_93]; decide
theorem zi_94 {pc : Nat} {i : Instr} (h : zfind2 zt_94 pc = some i) : zi 94 pc = some i := h
theorem zml_94 : zml 94 = 2 := rfl
theorem zi_95 {pc : Nat} {i : Instr} (h : zfind2 zt_95 pc = some i) : zi 95 pc = some i := h
theorem zml_95 : zml 95 = 3 := rfl
theorem zpb_95 (t : Nat) : (zini 95 && ((zcl t).1 == (zmeth 95).1.cls)) = false := by rw [show zini 95 = false by decide +kernel]; rfl
theorem zm_95_2 : 2 < zml 95 := by rw [zml_95]; decide
theorem zi_96 {pc : Nat} {i : Instr} (h : zfind2 zt_96 pc = some i) : zi 96 pc = some i := h
theorem zml_96 : zml 96 = 3 := rfl
theorem zm_96_2 : 2 < zml 96 := by rw [zml_96]; decide
theorem zi_97 {pc : Nat} {i : Instr} (h : zfind2 zt_97 pc = some i) : zi 97 pc = some i := h
theorem zml_97 : zml 97 = 2 := rfl
theorem zi_98 {pc : Nat} {i : Instr} (h : zfind2 zt_98 pc = some i) : zi 98 pc = some i := h
theorem zml_98 : zml 98 = 5 := rfl
theorem zm_98_1 : 1 < zml 98 := by rw [zml_98]; decide
theorem zm_98_2 : 2 < zml 98 := by rw [zml_98]; decide
theorem zm_98_3 : 3 < zml 98 := by rw [zml_98]; decide
theorem zm_98_4 : 4 < zml 98 := by rw [zml_98]; decide
theorem zi_99 {pc : Nat} {i : Instr} (h : zfind2 zt_99 pc = some i) : zi 99 pc = some i := h
theorem zml_99 : zml 99 = 1 := rfl
theorem zm_99_0 : 0 < zml 99 := by rw [zml_99]; decide
theorem zi_100 {pc : Nat} {i : Instr} (h : zfind2 zt_100 pc = some i) : zi 100 pc = some i := h
theorem zml_100 : zml 100 = 4 := rfl
theorem zpb_100 (t : Nat) : (zini 100 && ((zcl t).1 == (zmeth 100).1.cls)) = false := by rw [show zini 100 = false by decide +kernel]; rfl
theorem zm_100_2 : 2 < zml 100 := by rw [zml_100]; decide
theorem zm_100_3 : 3 < zml 100 := by rw [zml_100]; decide
theorem zi_101 {pc : Nat} {i : Instr} (h : zfind2 zt_101 pc = some i) : zi 101 pc = some i := h
theorem zml_101 : zml 101 = 4 := rfl
theorem zm_101_2 : 2 < zml 101 := by rw [zml_101]; decide
theorem zm_101_3 : 3 < zml 101 := by rw [zml_101]; decide
theorem zi_102 {pc : Nat} {i : Instr} (h : zfind2 zt_102 pc = some i) : zi 102 pc = some i := h
theorem zml_102 : zml 102 = 5 := rfl
theorem zm_102_3 : 3 < zml 102 := by rw [zml_102]; decide
theorem zm_102_4 : 4 < zml 102 := by rw [zml_102]; decide
theorem zi_103 {pc : Nat} {i : Instr} (h : zfind2 zt_103 pc = some i) : zi 103 pc = some i := h
theorem zml_103 : zml 103 = 3 := rfl
theorem zm_103_2 : 2 < zml 103 := by rw [zml_103]; decide
theorem zi_104 {pc : Nat} {i : Instr} (h : zfind2 zt_104 pc = some i) : zi 104 pc = some i := h
theorem zml_104 : zml 104 = 3 := rfl
theorem zm_104_2 : 2 < zml 104 := by rw [zml_104]; decide
theorem zi_105 {pc : Nat} {i : Instr} (h : zfind2 zt_105 pc = some i) : zi 105 pc = some i := h
theorem zml_105 : zml 105 = 4 := rfl
theorem zm_105_2 : 2 < zml 105 := by rw [zml_105]; decide
theorem zm_105_3 : 3 < zml 105 := by rw [zml_105]; decide
theorem zi_106 {pc : Nat} {i : Instr} (h : zfind2 zt_106 pc = some i) : zi 106 pc = some i := h
theorem zml_106 : zml 106 = 6 := rfl
theorem zm_106_1 : 1 < zml 106 := by rw [zml_106]; decide
theorem zm_106_2 : 2 < zml 106 := by rw [zml_106]; decide
theorem zm_106_3 : 3 < zml 106 := by rw [zml_106]; decide
theorem zm_106_4 : 4 < zml 106 := by rw [zml_106]; decide
theorem zm_106_5 : 5 < zml 106 := by rw [zml_106]; decide
theorem zi_107 {pc : Nat} {i : Instr} (h : zfind2 zt_107 pc = some i) : zi 107 pc = some i := h
theorem zml_107 : zml 107 = 4 := rfl
theorem zpb_107 (t : Nat) : (zini 107 && ((zcl t).1 == (zmeth 107).1.cls)) = false := by rw [show zini 107 = false by decide +kernel]; rfl
theorem zi_108 {pc : Nat} {i : Instr} (h : zfind2 zt_108 pc = some i) : zi 108 pc = some i := h
theorem zml_108 : zml 108 = 4 := rfl
theorem zpb_108 (t : Nat) : (zini 108 && ((zcl t).1 == (zmeth 108).1.cls)) = false := by rw [show zini 108 = false by decide +kernel]; rfl
theorem zi_109 {pc : Nat} {i : Instr} (h : zfind2 zt_109 pc = some i) : zi 109 pc = some i := h
theorem zml_109 : zml 109 = 3 := rfl
theorem zi_110 {pc : Nat} {i : Instr} (h : zfind2 zt_110 pc = some i) : zi 110 pc = some i := h
theorem zml_110 : zml 110 = 9 := rfl
theorem zm_110_5 : 5 < zml 110 := by rw [zml_110]; decide
theorem zm_110_6 : 6 < zml 110 := by rw [zml_110]; decide
theorem zm_110_7 : 7 < zml 110 := by rw [zml_110]; decide
theorem zm_110_8 : 8 < zml 110 := by rw [zml_110]; decide
theorem zi_111 {pc : Nat} {i : Instr} (h : zfind2 zt_111 pc = some i) : zi 111 pc = some i := h
theorem zml_111 : zml 111 = 3 := rfl
theorem zm_111_1 : 1 < zml 111 := by rw [zml_111]; decide
theorem zm_111_2 : 2 < zml 111 := by rw [zml_111]; decide
theorem zi_112 {pc : Nat} {i : Instr} (h : zfind2 zt_112 pc = some i) : zi 112 pc = some i := h
theorem zml_112 : zml 112 = 3 := rfl
theorem zi_113 {pc : Nat} {i : Instr} (h : zfind2 zt_113 pc = some i) : zi 113 pc = some i := h
theorem zml_113 : zml 113 = 6 := rfl
theorem zm_113_3 : 3 < zml 113 := by rw [zml_113]; decide
theorem zm_113_4 : 4 < zml 113 := by rw [zml_113]; decide
theorem zm_113_5 : 5 < zml 113 := by rw [zml_113]; decide
theorem zi_114 {pc : Nat} {i : Instr} (h : zfind2 zt_114 pc = some i) : zi 114 pc = some i := h
theorem zml_114 : zml 114 = 7 := rfl
theorem zm_114_3 : 3 < zml 114 := by rw [zml_114]; decide
theorem zm_114_4 : 4 < zml 114 := by rw [zml_114]; decide
theorem zm_114_5 : 5 < zml 114 := by rw [zml_114]; decide
theorem zm_114_6 : 6 < zml 114 := by rw [zml_114]; decide
theorem zi_115 {pc : Nat} {i : Instr} (h : zfind2 zt_115 pc = some i) : zi 115 pc = some i := h
theorem zml_115 : zml 115 = 5 := rfl
theorem zm_115_2 : 2 < zml 115 := by rw [zml_115]; decide
theorem zm_115_3 : 3 < zml 115 := by rw [zml_115]; decide
theorem zm_115_4 : 4 < zml 115 := by rw [zml_115]; decide
theorem zi_116 {pc : Nat} {i : Instr} (h : zfind2 zt_116 pc = some i) : zi 116 pc = some i := h
theorem zml_116 : zml 116 = 3 := rfl
theorem zpb_116 (t : Nat) : (zini 116 && ((zcl t).1 == (zmeth 116).1.cls)) = false := by rw [show zini 116 = false by decide +kernel]; rfl
theorem zi_117 {pc : Nat} {i : Instr} (h : zfind2 zt_117 pc = some i) : zi 117 pc = some i := h
theorem zml_117 : zml 117 = 4 := rfl
theorem zm_117_2 : 2 < zml 117 := by rw [zml_117]; decide
theorem zm_117_3 : 3 < zml 117 := by rw [zml_117]; decide
theorem zi_118 {pc : Nat} {i : Instr} (h : zfind2 zt_118 pc = some i) : zi 118 pc = some i := h
theorem zml_118 : zml 118 = 4 := rfl
theorem zpb_118 (t : Nat) : (zini 118 && ((zcl t).1 == (zmeth 118).1.cls)) = false := by rw [show zini 118 = false by decide +kernel]; rfl
theorem zm_118_3 : 3 < zml 118 := by rw [zml_118]; decide
theorem zi_119 {pc : Nat} {i : Instr} (h : zfind2 zt_119 pc = some i) : zi 119 pc = some i := h
theorem zml_119 : zml 119 = 3 := rfl
theorem zm_119_1 : 1 < zml 119 := by rw [zml_119]; decide
theorem zm_119_2 : 2 < zml 119 := by rw [zml_119]; decide
theorem zi_120 {pc : Nat} {i : Instr} (h : zfind2 zt_120 pc = some i) : zi 120 pc = some i := h
theorem zml_120 : zml 120 = 3 := rfl
theorem zpb_120 (t : Nat) : (zini 120 && ((zcl t).1 == (zmeth 120).1.cls)) = false := by rw [show zini 120 = false by decide +kernel]; rfl
theorem zi_121 {pc : Nat} {i : Instr} (h : zfind2 zt_121 pc = some i) : zi 121 pc = some i := h
theorem zml_121 : zml 121 = 3 := rfl
theorem zm_121_1 : 1 < zml 121 := by rw [zml_121]; decide
theorem zm_121_2 : 2 < zml 121 := by rw [zml_121]; decide
theorem zi_122 {pc : Nat} {i : Instr} (h : zfind2 zt_122 pc = some i) : zi 122 pc = some i := h
theorem zml_122 : zml 122 = 5 := rfl
theorem zm_122_3 : 3 < zml 122 := by rw [zml_122]; decide
theorem zm_122_4 : 4 < zml 122 := by rw [zml_122]; decide
theorem zi_123 {pc : Nat} {i : Instr} (h : zfind2 zt_123 pc = some i) : zi 123 pc = some i := h
theorem zml_123 : zml 123 = 1 := rfl
theorem zi_124 {pc : Nat} {i : Instr} (h : zfind2 zt_124 pc = some i) : zi 124 pc = some i := h
theorem zml_124 : zml 124 = 1 := rfl
theorem zpb_124 (t : Nat) : (zini 124 && ((zcl t).1 == (zmeth 124).1.cls)) = false := by rw [show zini 124 = false by decide +kernel]; rfl
theorem zi_125 {pc : Nat} {i : Instr} (h : zfind2 zt_125 pc = some i) : zi 125 pc = some i := h
theorem zml_125 : zml 125 = 2 := rfl
theorem zi_126 {pc : Nat} {i : Instr} (h : zfind2 zt_126 pc = some i) : zi 126 pc = some i := h
theorem zml_126 : zml 126 = 2 := rfl
theorem zpb_126 (t : Nat) : (zini 126 && ((zcl t).1 == (zmeth 126).1.cls)) = false := by rw [show zini 126 = false by decide +kernel]; rfl
theorem zi_127 {pc : Nat} {i : Instr} (h : zfind2 zt_127 pc = some i) : zi 127 pc = some i := h
theorem zml_127 : zml 127 = 1 := rfl
theorem zi_128 {pc : Nat} {i : Instr} (h : zfind2 zt_128 pc = some i) : zi 128 pc = some i := h
theorem zml_128 : zml 128 = 5 := rfl
theorem zpb_128 (t : Nat) : (zini 128 && ((zcl t).1 == (zmeth 128).1.cls)) = false := by rw [show zini 128 = false by decide +kernel]; rfl
theorem zm_128_4 : 4 < zml 128 := by rw [zml_128]; decide
theorem zi_129 {pc : Nat} {i : Instr} (h : zfind2 zt_129 pc = some i) : zi 129 pc = some i := h
theorem zml_129 : zml 129 = 4 := rfl
theorem zpb_129 (t : Nat) : (zini 129 && ((zcl t).1 == (zmeth 129).1.cls)) = false := by rw [show zini 129 = false by decide +kernel]; rfl
theorem zi_130 {pc : Nat} {i : Instr} (h : zfind2 zt_130 pc = some i) : zi 130 pc = some i := h
theorem zml_130 : zml 130 = 3 := rfl
theorem zi_131 {pc : Nat} {i : Instr} (h : zfind2 zt_131 pc = some i) : zi 131 pc = some i := h
theorem zml_131 : zml 131 = 2 := rfl
theorem zpb_131 (t : Nat) : (zini 131 && ((zcl t).1 == (zmeth 131).1.cls)) = false := by rw [show zini 131 = false by decide +kernel]; rfl
theorem zi_132 {pc : Nat} {i : Instr} (h : zfind2 zt_132 pc = some i) : zi 132 pc = some i := h
theorem zml_132 : zml 132 = 3 := rfl
theorem zi_133 {pc : Nat} {i : Instr} (h : zfind2 zt_133 pc = some i) : zi 133 pc = some i := h
theorem zml_133 : zml 133 = 3 := rfl
theorem zi_134 {pc : Nat} {i : Instr} (h : zfind2 zt_134 pc = some i) : zi 134 pc = some i := h
theorem zml_134 : zml 134 = 2 := rfl
theorem zi_135 {pc : Nat} {i : Instr} (h : zfind2 zt_135 pc = some i) : zi 135 pc = some i := h
theorem zml_135 : zml 135 = 6 := rfl
theorem zm_135_3 : 3 < zml 135 := by rw [zml_135]; decide
theorem zm_135_4 : 4 < zml 135 := by rw [zml_135]; decide
theorem zm_135_5 : 5 < zml 135 := by rw [zml_135]; decide
theorem zi_136 {pc : Nat} {i : Instr} (h : zfind2 zt_136 pc = some i) : zi 136 pc = some i := h
theorem zml_136 : zml 136 = 2 := rfl
theorem zi_137 {pc : Nat} {i : Instr} (h : zfind2 zt_137 pc = some i) : zi 137 pc = some i := h
theorem zml_137 : zml 137 = 4 := rfl
theorem zi_138 {pc : Nat} {i : Instr} (h : zfind2 zt_138 pc = some i) : zi 138 pc = some i := h
theorem zml_138 : zml 138 = 1 := rfl
theorem zpb_138 (t : Nat) : (zini 138 && ((zcl t).1 == (zmeth 138).1.cls)) = false := by rw [show zini 138 = false by decide +kernel]; rfl
theorem zi_139 {pc : Nat} {i : Instr} (h : zfind2 zt_139 pc = some i) : zi 139 pc = some i := h
theorem zml_139 : zml 139 = 3 := rfl
theorem zpb_139 (t : Nat) : (zini 139 && ((zcl t).1 == (zmeth 139).1.cls)) = false := by rw [show zini 139 = false by decide +kernel]; rfl
theorem zi_140 {pc : Nat} {i : Instr} (h : zfind2 zt_140 pc = some i) : zi 140 pc = some i := h
theorem zml_140 : zml 140 = 5 := rfl
theorem zm_140_3 : 3 < zml 140 := by rw [zml_140]; decide
theorem zm_140_4 : 4 < zml 140 := by rw [zml_140]; decide
theorem zi_141 {pc : Nat} {i : Instr} (h : zfind2 zt_141 pc = some i) : zi 141 pc = some i := h
theorem zml_141 : zml 141 = 6 := rfl
theorem zm_141_5 : 5 < zml 141 := by rw [zml_141]; decide
theorem zi_142 {pc : Nat} {i : Instr} (h : zfind2 zt_142 pc = some i) : zi 142 pc = some i := h
theorem zml_142 : zml 142 = 3 := rfl
theorem zi_143 {pc : Nat} {i : Instr} (h : zfind2 zt_143 pc = some i) : zi 143 pc = some i := h
theorem zml_143 : zml 143 = 3 := rfl
theorem zi_144 {pc : Nat} {i : Instr} (h : zfind2 zt_144 pc = some i) : zi 144 pc = some i := h
theorem zml_144 : zml 144 = 8 := rfl
theorem zm_144_6 : 6 < zml 144 := by rw [zml_144]; decide
theorem zm_144_7 : 7 < zml 144 := by rw [zml_144]; decide
theorem zi_145 {pc : Nat} {i : Instr} (h : zfind2 zt_145 pc = some i) : zi 145 pc = some i := h
theorem zml_145 : zml 145 = 1 := rfl
theorem zi_146 {pc : Nat} {i : Instr} (h : zfind2 zt_146 pc = some i) : zi 146 pc = some i := h
theorem zml_146 : zml 146 = 5 := rfl
theorem zpb_146 (t : Nat) : (zini 146 && ((zcl t).1 == (zmeth 146).1.cls)) = false := by rw [show zini 146 = false by decide +kernel]; rfl
theorem zm_146_4 : 4 < zml 146 := by rw [zml_146]; decide
theorem zi_147 {pc : Nat} {i : Instr} (h : zfind2 zt_147 pc = some i) : zi 147 pc = some i := h
theorem zml_147 : zml 147 = 4 := rfl
theorem zi_148 {pc : Nat} {i : Instr} (h : zfind2 zt_148 pc = some i) : zi 148 pc = some i := h
theorem zml_148 : zml 148 = 4 := rfl
theorem zm_148_3 : 3 < zml 148 := by rw [zml_148]; decide
theorem zi_149 {pc : Nat} {i : Instr} (h : zfind2 zt_149 pc = some i) : zi 149 pc = some i := h
theorem zml_149 : zml 149 = 2 := rfl
theorem zi_150 {pc : Nat} {i : Instr} (h : zfind2 zt_150 pc = some i) : zi 150 pc = some i := h
theorem zml_150 : zml 150 = 5 := rfl
theorem zm_150_4 : 4 < zml 150 := by rw [zml_150]; decide
theorem zi_151 {pc : Nat} {i : Instr} (h : zfind2 zt_151 pc = some i) : zi 151 pc = some i := h
theorem zml_151 : zml 151 = 2 := rfl
theorem zpb_151 (t : Nat) : (zini 151 && ((zcl t).1 == (zmeth 151).1.cls)) = false := by rw [show zini 151 = false by decide +kernel]; rfl
theorem zi_152 {pc : Nat} {i : Instr} (h : zfind2 zt_152 pc = some i) : zi 152 pc = some i := h
theorem zml_152 : zml 152 = 2 := rfl
theorem zpb_152 (t : Nat) : (zini 152 && ((zcl t).1 == (zmeth 152).1.cls)) = false := by rw [show zini 152 = false by decide +kernel]; rfl
theorem zm_152_1 : 1 < zml 152 := by rw [zml_152]; decide
theorem zi_153 {pc : Nat} {i : Instr} (h : zfind2 zt_153 pc = some i) : zi 153 pc = some i := h
theorem zml_153 : zml 153 = 3 := rfl
theorem zpb_153 (t : Nat) : (zini 153 && ((zcl t).1 == (zmeth 153).1.cls)) = false := by rw [show zini 153 = false by decide +kernel]; rfl
theorem zm_153_2 : 2 < zml 153 := by rw [zml_153]; decide
theorem zi_154 {pc : Nat} {i : Instr} (h : zfind2 zt_154 pc = some i) : zi 154 pc = some i := h
theorem zml_154 : zml 154 = 2 := rfl
theorem zi_155 {pc : Nat} {i : Instr} (h : zfind2 zt_155 pc = some i) : zi 155 pc = some i := h
theorem zml_155 : zml 155 = 2 := rfl
theorem zi_156 {pc : Nat} {i : Instr} (h : zfind2 zt_156 pc = some i) : zi 156 pc = some i := h
theorem zml_156 : zml 156 = 1 := rfl
theorem zi_157 {pc : Nat} {i : Instr} (h : zfind2 zt_157 pc = some i) : zi 157 pc = some i := h
theorem zml_157 : zml 157 = 4 := rfl
theorem zm_157_3 : 3 < zml 157 := by rw [zml_157]; decide
theorem zi_158 {pc : Nat} {i : Instr} (h : zfind2 zt_158 pc = some i) : zi 158 pc = some i := h
theorem zml_158 : zml 158 = 2 := rfl
theorem zpb_158 (t : Nat) : (zini 158 && ((zcl t).1 == (zmeth 158).1.cls)) = false := by rw [show zini 158 = false by decide +kernel]; rfl
theorem zi_159 {pc : Nat} {i : Instr} (h : zfind2 zt_159 pc = some i) : zi 159 pc = some i := h
theorem zml_159 : zml 159 = 2 := rfl
theorem zpb_159 (t : Nat) : (zini 159 && ((zcl t).1 == (zmeth 159).1.cls)) = false := by rw [show zini 159 = false by decide +kernel]; rfl
theorem zm_159_1 : 1 < zml 159 := by rw [zml_159]; decide
theorem zi_160 {pc : Nat} {i : Instr} (h : zfind2 zt_160 pc = some i) : zi 160 pc = some i := h
theorem zml_160 : zml 160 = 1 := rfl
theorem zi_161 {pc : Nat} {i : Instr} (h : zfind2 zt_161 pc = some i) : zi 161 pc = some i := h
theorem zml_161 : zml 161 = 4 := rfl
theorem zpb_161 (t : Nat) : (zini 161 && ((zcl t).1 == (zmeth 161).1.cls)) = false := by rw [show zini 161 = false by decide +kernel]; rfl
theorem zm_161_2 : 2 < zml 161 := by rw [zml_161]; decide
theorem zm_161_3 : 3 < zml 161 := by rw [zml_161]; decide
theorem zi_162 {pc : Nat} {i : Instr} (h : zfind2 zt_162 pc = some i) : zi 162 pc = some i := h
theorem zml_162 : zml 162 = 3 := rfl
theorem zpb_162 (t : Nat) : (zini 162 && ((zcl t).1 == (zmeth 162).1.cls)) = false := by rw [show zini 162 = false by decide +kernel]; rfl
theorem zm_162_1 : 1 < zml 162 := by rw [zml_162]; decide
theorem zm_162_2 : 2 < zml 162 := by rw [zml_162]; decide
theorem zi_163 {pc : Nat} {i : Instr} (h : zfind2 zt_163 pc = some i) : zi 163 pc = some i := h
theorem zml_163 : zml 163 = 2 := rfl
theorem zi_164 {pc : Nat} {i : Instr} (h : zfind2 zt_164 pc = some i) : zi 164 pc = some i := h
theorem zml_164 : zml 164 = 2 := rfl
theorem zpb_164 (t : Nat) : (zini 164 && ((zcl t).1 == (zmeth 164).1.cls)) = false := by rw [show zini 164 = false by decide +kernel]; rfl
theorem zi_165 {pc : Nat} {i : Instr} (h : zfind2 zt_165 pc = some i) : zi 165 pc = some i := h
theorem zml_165 : zml 165 = 1 := rfl
theorem zpb_165 (t : Nat) : (zini 165 && ((zcl t).1 == (zmeth 165).1.cls)) = false := by rw [show zini 165 = false by decide +kernel]; rfl
theorem zi_166 {pc : Nat} {i : Instr} (h : zfind2 zt_166 pc = some i) : zi 166 pc = some i := h
theorem zml_166 : zml 166 = 2 := rfl
theorem zpb_166 (t : Nat) : (zini 166 && ((zcl t).1 == (zmeth 166).1.cls)) = false := by rw [show zini 166 = false by decide +kernel]; rfl
theorem zi_167 {pc : Nat} {i : Instr} (h : zfind2 zt_167 pc = some i) : zi 167 pc = some i := h
theorem zml_167 : zml 167 = 3 := rfl
theorem zi_168 {pc : Nat} {i : Instr} (h : zfind2 zt_168 pc = some i) : zi 168 pc = some i := h
theorem zml_168 : zml 168 = 4 := rfl
theorem zm_168_2 : 2 < zml 168 := by rw [zml_168]; decide
theorem zm_168_3 : 3 < zml 168 := by rw [zml_168]; decide
theorem zi_169 {pc : Nat} {i : Instr} (h : zfind2 zt_169 pc = some i) : zi 169 pc = some i := h
theorem zml_169 : zml 169 = 1 := rfl
theorem zi_170 {pc : Nat} {i : Instr} (h : zfind2 zt_170 pc = some i) : zi 170 pc = some i := h
theorem zml_170 : zml 170 = 1 := rfl
theorem zi_171 {pc : Nat} {i : Instr} (h : zfind2 zt_171 pc = some i) : zi 171 pc = some i := h
theorem zml_171 : zml 171 = 8 := rfl
theorem zm_171_3 : 3 < zml 171 := by rw [zml_171]; decide
theorem zm_171_4 : 4 < zml 171 := by rw [zml_171]; decide
theorem zm_171_5 : 5 < zml 171 := by rw [zml_171]; decide
theorem zm_171_6 : 6 < zml 171 := by rw [zml_171]; decide
theorem zm_171_7 : 7 < zml 171 := by rw [zml_171]; decide
theorem zi_172 {pc : Nat} {i : Instr} (h : zfind2 zt_172 pc = some i) : zi 172 pc = some i := h
theorem zml_172 : zml 172 = 3 := rfl
theorem zi_173 {pc : Nat} {i : Instr} (h : zfind2 zt_173 pc = some i) : zi 173 pc = some i := h
theorem zml_173 : zml 173 = 2 := rfl
theorem zi_174 {pc : Nat} {i : Instr} (h : zfind2 zt_174 pc = some i) : zi 174 pc = some i := h
theorem zml_174 : zml 174 = 3 := rfl
theorem zm_174_2 : 2 < zml 174 := by rw [zml_174]; decide
theorem zi_175 {pc : Nat} {i : Instr} (h : zfind2 zt_175 pc = some i) : zi 175 pc = some i := h
theorem zml_175 : zml 175 = 3 := rfl
theorem zm_175_2 : 2 < zml 175 := by rw [zml_175]; decide
theorem zi_176 {pc : Nat} {i : Instr} (h : zfind2 zt_176 pc = some i) : zi 176 pc = some i := h
theorem zml_176 : zml 176 = 5 := rfl
theorem zm_176_3 : 3 < zml 176 := by rw [zml_176]; decide
theorem zm_176_4 : 4 < zml 176 := by rw [zml_176]; decide
theorem zi_177 {pc : Nat} {i : Instr} (h : zfind2 zt_177 pc = some i) : zi 177 pc = some i := h
theorem zml_177 : zml 177 = 3 := rfl
theorem zi_178 {pc : Nat} {i : Instr} (h : zfind2 zt_178 pc = some i) : zi 178 pc = some i := h
theorem zml_178 : zml 178 = 1 := rfl
theorem zi_179 {pc : Nat} {i : Instr} (h : zfind2 zt_179 pc = some i) : zi 179 pc = some i := h
theorem zml_179 : zml 179 = 3 := rfl
theorem zi_180 {pc : Nat} {i : Instr} (h : zfind2 zt_180 pc = some i) : zi 180 pc = some i := h
theorem zml_180 : zml 180 = 1 := rfl
theorem zi_181 {pc : Nat} {i : Instr} (h : zfind2 zt_181 pc = some i) : zi 181 pc = some i := h
theorem zml_181 : zml 181 = 4 := rfl
theorem zm_181_3 : 3 < zml 181 := by rw [zml_181]; decide
theorem zi_182 {pc : Nat} {i : Instr} (h : zfind2 zt_182 pc = some i) : zi 182 pc = some i := h
theorem zml_182 : zml 182 = 9 := rfl
theorem zm_182_2 : 2 < zml 182 := by rw [zml_182]; decide
theorem zm_182_3 : 3 < zml 182 := by rw [zml_182]; decide
theorem zm_182_4 : 4 < zml 182 := by rw [zml_182]; decide
theorem zm_182_5 : 5 < zml 182 := by rw [zml_182]; decide
theorem zm_182_6 : 6 < zml 182 := by rw [zml_182]; decide
theorem zm_182_7 : 7 < zml 182 := by rw [zml_182]; decide
theorem zm_182_8 : 8 < zml 182 := by rw [zml_182]; decide
theorem zi_183 {pc : Nat} {i : Instr} (h : zfind2 zt_183 pc = some i) : zi 183 pc = some i := h
theorem zml_183 : zml 183 = 5 := rfl
theorem zm_183_4 : 4 < zml 183 := by rw [zml_183]; decide
theorem zi_184 {pc : Nat} {i : Instr} (h : zfind2 zt_184 pc = some i) : zi 184 pc = some i := h
theorem zml_184 : zml 184 = 5 := rfl
theorem zm_184_4 : 4 < zml 184 := by rw [zml_184]; decide
theorem zi_185 {pc : Nat} {i : Instr} (h : zfind2 zt_185 pc = some i) : zi 185 pc = some i := h
theorem zml_185 : zml 185 = 9 := rfl
theorem zm_185_4 : 4 < zml 185 := by rw [zml_185]; decide
theorem zm_185_5 : 5 < zml 185 := by rw [zml_185]; decide
theorem zm_185_6 : 6 < zml 185 := by rw [zml_185]; decide
theorem zm_185_7 : 7 < zml 185 := by rw [zml_185]; decide
theorem zm_185_8 : 8 < zml 185 := by rw [zml_185]; decide
theorem zi_186 {pc : Nat} {i : Instr} (h : zfind2 zt_186 pc = some i) : zi 186 pc = some i := h
theorem zml_186 : zml 186 = 4 := rfl
theorem zm_186_2 : 2 < zml 186 := by rw [zml_186]; decide
theorem zm_186_3 : 3 < zml 186 := by rw [zml_186]; decide
theorem zi_187 {pc : Nat} {i : Instr} (h : zfind2 zt_187 pc = some i) : zi 187 pc = some i := h
theorem zml_187 : zml 187 = 2 := rfl
theorem zi_188 {pc : Nat} {i : Instr} (h : zfind2 zt_188 pc = some i) : zi 188 pc = some i := h
theorem zml_188 : zml 188 = 3 := rfl
theorem zm_188_1 : 1 < zml 188 := by rw [zml_188]; decide
theorem zm_188_2 : 2 < zml 188 := by rw [zml_188]; decide
theorem zi_189 {pc : Nat} {i : Instr} (h : zfind2 zt_189 pc = some i) : zi 189 pc = some i := h
theorem zml_189 : zml 189 = 2 := rfl
theorem zi_190 {pc : Nat} {i : Instr} (h : zfind2 zt_190 pc = some i) : zi 190 pc = some i := h
theorem zml_190 : zml 190 = 6 := rfl
theorem zpb_190 (t : Nat) : (zini 190 && ((zcl t).1 == (zmeth 190).1.cls)) = false := by rw [show zini 190 = false by decide +kernel]; rfl
theorem zm_190_3 : 3 < zml 190 := by rw [zml_190]; decide
theorem zm_190_4 : 4 < zml 190 := by rw [zml_190]; decide
theorem zm_190_5 : 5 < zml 190 := by rw [zml_190]; decide
theorem zi_191 {pc : Nat} {i : Instr} (h : zfind2 zt_191 pc = some i) : zi 191 pc = some i := h
theorem zml_191 : zml 191 = 4 := rfl
theorem zi_192 {pc : Nat} {i : Instr} (h : zfind2 zt_192 pc = some i) : zi 192 pc = some i := h
theorem zml_192 : zml 192 = 3 := rfl
theorem zpb_192 (t : Nat) : (zini 192 && ((zcl t).1 == (zmeth 192).1.cls)) = false := by rw [show zini 192 = false by decide +kernel]; rfl
theorem zm_192_2 : 2 < zml 192 := by rw [zml_192]; decide
theorem zi_193 {pc : Nat} {i : Instr} (h : zfind2 zt_193 pc = some i) : zi 193 pc = some i := h
theorem zml_193 : zml 193 = 2 := rfl
theorem zi_194 {pc : Nat} {i : Instr} (h : zfind2 zt_194 pc = some i) : zi 194 pc = some i := h
theorem zml_194 : zml 194 = 2 := rfl
theorem zi_195 {pc : Nat} {i : Instr} (h : zfind2 zt_195 pc = some i) : zi 195 pc = some i := h
theorem zml_195 : zml 195 = 3 := rfl
theorem zm_195_2 : 2 < zml 195 := by rw [zml_195]; decide
theorem zi_196 {pc : Nat} {i : Instr} (h : zfind2 zt_196 pc = some i) : zi 196 pc = some i := h
theorem zml_196 : zml 196 = 3 := rfl
theorem zpb_196 (t : Nat) : (zini 196 && ((zcl t).1 == (zmeth 196).1.cls)) = false := by rw [show zini 196 = false by decide +kernel]; rfl
theorem zm_196_1 : 1 < zml 196 := by rw [zml_196]; decide
theorem zm_196_2 : 2 < zml 196 := by rw [zml_196]; decide
theorem zi_197 {pc : Nat} {i : Instr} (h : zfind2 zt_197 pc = some i) : zi 197 pc = some i := h
theorem zml_197 : zml 197 = 4 := rfl
theorem zm_197_3 : 3 < zml 197 := by rw [zml_197]; decide
theorem zi_198 {pc : Nat} {i : Instr} (h : zfind2 zt_198 pc = some i) : zi 198 pc = some i := h
theorem zml_198 : zml 198 = 2 := rfl
theorem zpb_198 (t : Nat) : (zini 198 && ((zcl t).1 == (zmeth 198).1.cls)) = false := by rw [show zini 198 = false by decide +kernel]; rfl
theorem zm_198_1 : 1 < zml 198 := by rw [zml_198]; decide
theorem zi_199 {pc : Nat} {i : Instr} (h : zfind2 zt_199 pc = some i) : zi 199 pc = some i := h
theorem zml_199 : zml 199 = 2 := rfl
theorem zpb_199 (t : Nat) : (zini 199 && ((zcl t).1 == (zmeth 199).1.cls)) = false := by rw [show zini 199 = false by decide +kernel]; rfl
theorem zm_199_1 : 1 < zml 199 := by rw [zml_199]; decide
theorem zi_200 {pc : Nat} {i : Instr} (h : zfind2 zt_200 pc = some i) : zi 200 pc = some i := h
theorem zml_200 : zml 200 = 4 := rfl
theorem zm_200_2 : 2 < zml 200 := by rw [zml_200]; decide
theorem zm_200_3 : 3 < zml 200 := by rw [zml_200]; decide
theorem zi_201 {pc : Nat} {i : Instr} (h : zfind2 zt_201 pc = some i) : zi 201 pc = some i := h
theorem zml_201 : zml 201 = 7 := rfl
theorem zm_201_2 : 2 < zml 201 := by rw [zml_201]; decide
theorem zm_201_3 : 3 < zml 201 := by rw [zml_201]; decide
theorem zm_201_4 : 4 < zml 201 := by rw [zml_201]; decide
theorem zm_201_5 : 5 < zml 201 := by rw [zml_201]; decide
theorem zm_201_6 : 6 < zml 201 := by rw [zml_201]; decide
theorem zi_202 {pc : Nat} {i : Instr} (h : zfind2 zt_202 pc = some i) : zi 202 pc = some i := h
theorem zml_202 : zml 202 = 3 := rfl
theorem zpb_202 (t : Nat) : (zini 202 && ((zcl t).1 == (zmeth 202).1.cls)) = false := by rw [show zini 202 = false by decide +kernel]; rfl
theorem zm_202_1 : 1 < zml 202 := by rw [zml_202]; decide
theorem zm_202_2 : 2 < zml 202 := by rw [zml_202]; decide
theorem zi_203 {pc : Nat} {i : Instr} (h : zfind2 zt_203 pc = some i) : zi 203 pc = some i := h
theorem zml_203 : zml 203 = 5 := rfl
theorem zm_203_2 : 2 < zml 203 := by rw [zml_203]; decide
theorem zm_203_3 : 3 < zml 203 := by rw [zml_203]; decide
theorem zm_203_4 : 4 < zml 203 := by rw [zml_203]; decide
theorem zi_204 {pc : Nat} {i : Instr} (h : zfind2 zt_204 pc = some i) : zi 204 pc = some i := h
theorem zml_204 : zml 204 = 3 := rfl
theorem zi_205 {pc : Nat} {i : Instr} (h : zfind2 zt_205 pc = some i) : zi 205 pc = some i := h
theorem zml_205 : zml 205 = 2 := rfl
theorem zi_206 {pc : Nat} {i : Instr} (h : zfind2 zt_206 pc = some i) : zi 206 pc = some i := h
theorem zml_206 : zml 206 = 5 := rfl
theorem zm_206_1 : 1 < zml 206 := by rw [zml_206]; decide
theorem zm_206_2 : 2 < zml 206 := by rw [zml_206]; decide
theorem zm_206_3 : 3 < zml 206 := by rw [zml_206]; decide
theorem zm_206_4 : 4 < zml 206 := by rw [zml_206]; decide
theorem zi_207 {pc : Nat} {i : Instr} (h : zfind2 zt_207 pc = some i) : zi 207 pc = some i := h
theorem zml_207 : zml 207 = 4 := rfl
theorem zpb_207 (t : Nat) : (zini 207 && ((zcl t).1 == (zmeth 207).1.cls)) = false := by rw [show zini 207 = false by decide +kernel]; rfl
theorem zi_208 {pc : Nat} {i : Instr} (h : zfind2 zt_208 pc = some i) : zi 208 pc = some i := h
theorem zml_208 : zml 208 = 7 := rfl
theorem zm_208_3 : 3 < zml 208 := by rw [zml_208]; decide
theorem zm_208_4 : 4 < zml 208 := by rw [zml_208]; decide
theorem zm_208_5 : 5 < zml 208 := by rw [zml_208]; decide
theorem zm_208_6 : 6 < zml 208 := by rw [zml_208]; decide
theorem zi_209 {pc : Nat} {i : Instr} (h : zfind2 zt_209 pc = some i) : zi 209 pc = some i := h
theorem zml_209 : zml 209 = 3 := rfl
theorem zm_209_2 : 2 < zml 209 := by rw [zml_209]; decide
theorem zi_210 {pc : Nat} {i : Instr} (h : zfind2 zt_210 pc = some i) : zi 210 pc = some i := h
theorem zml_210 : zml 210 = 7 := rfl
theorem zm_210_3 : 3 < zml 210 := by rw [zml_210]; decide
theorem zm_210_4 : 4 < zml 210 := by rw [zml_210]; decide
theorem zm_210_5 : 5 < zml 210 := by rw [zml_210]; decide
theorem zm_210_6 : 6 < zml 210 := by rw [zml_210]; decide
theorem zi_211 {pc : Nat} {i : Instr} (h : zfind2 zt_211 pc = some i) : zi 211 pc = some i := h
theorem zml_211 : zml 211 = 5 := rfl
theorem zm_211_3 : 3 < zml 211 := by rw [zml_211]; decide
theorem zm_211_4 : 4 < zml 211 := by rw [zml_211]; decide
theorem zi_212 {pc : Nat} {i : Instr} (h : zfind2 zt_212 pc = some i) : zi 212 pc = some i := h
theorem zml_212 : zml 212 = 5 := rfl
theorem zm_212_4 : 4 < zml 212 := by rw [zml_212]; decide
theorem zi_213 {pc : Nat} {i : Instr} (h : zfind2 zt_213 pc = some i) : zi 213 pc = some i := h
theorem zml_213 : zml 213 = 6 := rfl
theorem zm_213_3 : 3 < zml 213 := by rw [zml_213]; decide
theorem zm_213_4 : 4 < zml 213 := by rw [zml_213]; decide
theorem zm_213_5 : 5 < zml 213 := by rw [zml_213]; decide
theorem zi_214 {pc : Nat} {i : Instr} (h : zfind2 zt_214 pc = some i) : zi 214 pc = some i := h
theorem zml_214 : zml 214 = 5 := rfl
theorem zm_214_2 : 2 < zml 214 := by rw [zml_214]; decide
theorem zm_214_3 : 3 < zml 214 := by rw [zml_214]; decide
theorem zm_214_4 : 4 < zml 214 := by rw [zml_214]; decide
theorem zi_215 {pc : Nat} {i : Instr} (h : zfind2 zt_215 pc = some i) : zi 215 pc = some i := h
theorem zml_215 : zml 215 = 3 := rfl
theorem zpb_215 (t : Nat) : (zini 215 && ((zcl t).1 == (zmeth 215).1.cls)) = false := by rw [show zini 215 = false by decide +kernel]; rfl
theorem zi_216 {pc : Nat} {i : Instr} (h : zfind2 zt_216 pc = some i) : zi 216 pc = some i := h
theorem zml_216 : zml 216 = 5 := rfl
theorem zm_216_2 : 2 < zml 216 := by rw [zml_216]; decide
theorem zm_216_3 : 3 < zml 216 := by rw [zml_216]; decide
theorem zm_216_4 : 4 < zml 216 := by rw [zml_216]; decide
theorem zi_217 {pc : Nat} {i : Instr} (h : zfind2 zt_217 pc = some i) : zi 217 pc = some i := h
theorem zml_217 : zml 217 = 3 := rfl
theorem zpb_217 (t : Nat) : (zini 217 && ((zcl t).1 == (zmeth 217).1.cls)) = false := by rw [show zini 217 = false by decide +kernel]; rfl
theorem zi_218 {pc : Nat} {i : Instr} (h : zfind2 zt_218 pc = some i) : zi 218 pc = some i := h
theorem zml_218 : zml 218 = 2 := rfl
theorem zm_218_1 : 1 < zml 218 := by rw [zml_218]; decide
theorem zi_219 {pc : Nat} {i : Instr} (h : zfind2 zt_219 pc = some i) : zi 219 pc = some i := h
theorem zml_219 : zml 219 = 4 := rfl
theorem zm_219_3 : 3 < zml 219 := by rw [zml_219]; decide
theorem zi_220 {pc : Nat} {i : Instr} (h : zfind2 zt_220 pc = some i) : zi 220 pc = some i := h
theorem zml_220 : zml 220 = 2 := rfl
theorem zi_221 {pc : Nat} {i : Instr} (h : zfind2 zt_221 pc = some i) : zi 221 pc = some i := h
theorem zml_221 : zml 221 = 2 := rfl
theorem zpb_221 (t : Nat) : (zini 221 && ((zcl t).1 == (zmeth 221).1.cls)) = false := by rw [show zini 221 = false by decide +kernel]; rfl
theorem zm_221_1 : 1 < zml 221 := by rw [zml_221]; decide
theorem zi_222 {pc : Nat} {i : Instr} (h : zfind2 zt_222 pc = some i) : zi 222 pc = some i := h
theorem zml_222 : zml 222 = 2 := rfl
theorem zpb_222 (t : Nat) : (zini 222 && ((zcl t).1 == (zmeth 222).1.cls)) = false := by rw [show zini 222 = false by decide +kernel]; rfl
theorem zm_222_1 : 1 < zml 222 := by rw [zml_222]; decide
theorem zi_223 {pc : Nat} {i : Instr} (h : zfind2 zt_223 pc = some i) : zi 223 pc = some i := h
theorem zml_223 : zml 223 = 4 := rfl
theorem zpb_223 (t : Nat) : (zini 223 && ((zcl t).1 == (zmeth 223).1.cls)) = false := by rw [show zini 223 = false by decide +kernel]; rfl
theorem zi_224 {pc : Nat} {i : Instr} (h : zfind2 zt_224 pc = some i) : zi 224 pc = some i := h
theorem zml_224 : zml 224 = 3 := rfl
theorem zi_225 {pc : Nat} {i : Instr} (h : zfind2 zt_225 pc = some i) : zi 225 pc = some i := h
theorem zml_225 : zml 225 = 2 := rfl
theorem zpb_225 (t : Nat) : (zini 225 && ((zcl t).1 == (zmeth 225).1.cls)) = false := by rw [show zini 225 = false by decide +kernel]; rfl
theorem zi_226 {pc : Nat} {i : Instr} (h : zfind2 zt_226 pc = some i) : zi 226 pc = some i := h
theorem zml_226 : zml 226 = 3 := rfl
theorem zi_227 {pc : Nat} {i : Instr} (h : zfind2 zt_227 pc = some i) : zi 227 pc = some i := h
theorem zml_227 : zml 227 = 4 := rfl
theorem zm_227_3 : 3 < zml 227 := by rw [zml_227]; decide
theorem zi_228 {pc : Nat} {i : Instr} (h : zfind2 zt_228 pc = some i) : zi 228 pc = some i := h
theorem zml_228 : zml 228 = 3 := rfl
theorem zi_229 {pc : Nat} {i : Instr} (h : zfind2 zt_229 pc = some i) : zi 229 pc = some i := h
theorem zml_229 : zml 229 = 3 := rfl
theorem zi_230 {pc : Nat} {i : Instr} (h : zfind2 zt_230 pc = some i) : zi 230 pc = some i := h
theorem zml_230 : zml 230 = 4 := rfl
theorem zm_230_3 : 3 < zml 230 := by rw [zml_230]; decide
theorem zi_231 {pc : Nat} {i : Instr} (h : zfind2 zt_231 pc = some i) : zi 231 pc = some i := h
theorem zml_231 : zml 231 = 3 := rfl
theorem zi_232 {pc : Nat} {i : Instr} (h : zfind2 zt_232 pc = some i) : zi 232 pc = some i := h
theorem zml_232 : zml 232 = 2 := rfl
theorem zi_233 {pc : Nat} {i : Instr} (h : zfind2 zt_233 pc = some i) : zi 233 pc = some i := h
theorem zml_233 : zml 233 = 4 := rfl
theorem zm_233_3 : 3 < zml 233 := by rw [zml_233]; decide
theorem zi_234 {pc : Nat} {i : Instr} (h : zfind2 zt_234 pc = some i) : zi 234 pc = some i := h
theorem zml_234 : zml 234 = 2 := rfl
theorem zi_235 {pc : Nat} {i : Instr} (h : zfind2 zt_235 pc = some i) : zi 235 pc = some i := h
theorem zml_235 : zml 235 = 5 := rfl
theorem zm_235_4 : 4 < zml 235 := by rw [zml_235]; decide
theorem zi_236 {pc : Nat} {i : Instr} (h : zfind2 zt_236 pc = some i) : zi 236 pc = some i := h
theorem zml_236 : zml 236 = 5 := rfl
theorem zi_237 {pc : Nat} {i : Instr} (h : zfind2 zt_237 pc = some i) : zi 237 pc = some i := h
theorem zml_237 : zml 237 = 4 := rfl
theorem zi_238 {pc : Nat} {i : Instr} (h : zfind2 zt_238 pc = some i) : zi 238 pc = some i := h
theorem zml_238 : zml 238 = 3 := rfl
theorem zi_239 {pc : Nat} {i : Instr} (h : zfind2 zt_239 pc = some i) : zi 239 pc = some i := h
theorem zml_239 : zml 239 = 7 := rfl
theorem zm_239_6 : 6 < zml 239 := by rw [zml_239]; decide
theorem zl_0_7 {k : Nat} (hk : zcid k = 0 := by rfl) : zlk k 7 = some (6, 11, 0, 115) := by unfold zlk; rw [hk]; rfl
theorem zl_0_9 {k : Nat} (hk : zcid k = 0 := by rfl) : zlk k 9 = some (2, 1, 0, 117) := by unfold zlk; rw [hk]; rfl
theorem zl_0_10 {k : Nat} (hk : zcid k = 0 := by rfl) : zlk k 10 = some (6, 12, 0, 1087) := by unfold zlk; rw [hk]; rfl
theorem zl_0_12 {k : Nat} (hk : zcid k = 0 := by rfl) : zlk k 12 = some (2, 145, 0, 1089) := by unfold zlk; rw [hk]; rfl
theorem zl_0_13 {k : Nat} (hk : zcid k = 0 := by rfl) : zlk k 13 = some (2, 13, 3, 469) := by unfold zlk; rw [hk]; rfl
theorem zl_0_17 {k : Nat} (hk : zcid k = 0 := by rfl) : zlk k 17 = some (2, 146, 3, 1320) := by unfold zlk; rw [hk]; rfl
theorem zl_0_18 {k : Nat} (hk : zcid k = 0 := by rfl) : zlk k 18 = some (2, 18, 2, 487) := by unfold zlk; rw [hk]; rfl
theorem zl_0_22 {k : Nat} (hk : zcid k = 0 := by rfl) : zlk k 22 = some (2, 167, 2, 1404) := by unfold zlk; rw [hk]; rfl
theorem zl_0_23 {k : Nat} (hk : zcid k = 0 := by rfl) : zlk k 23 = some (2, 48, 2, 610) := by unfold zlk; rw [hk]; rfl
theorem zl_0_26 {k : Nat} (hk : zcid k = 0 := by rfl) : zlk k 26 = some (2, 148, 2, 1328) := by unfold zlk; rw [hk]; rfl
theorem zl_0_27 {k : Nat} (hk : zcid k = 0 := by rfl) : zlk k 27 = some (2, 49, 3, 614) := by unfold zlk; rw [hk]; rfl
theorem zl_0_30 {k : Nat} (hk : zcid k = 0 := by rfl) : zlk k 30 = some (2, 150, 3, 1336) := by unfold zlk; rw [hk]; rfl
theorem zl_0_31 {k : Nat} (hk : zcid k = 0 := by rfl) : zlk k 31 = some (2, 50, 2, 618) := by unfold zlk; rw [hk]; rfl
theorem zl_0_34 {k : Nat} (hk : zcid k = 0 := by rfl) : zlk k 34 = some (2, 190, 2, 1496) := by unfold zlk; rw [hk]; rfl
theorem zl_0_35 {k : Nat} (hk : zcid k = 0 := by rfl) : zlk k 35 = some (2, 54, 3, 639) := by unfold zlk; rw [hk]; rfl
theorem zl_0_38 {k : Nat} (hk : zcid k = 0 := by rfl) : zlk k 38 = some (2, 191, 3, 1500) := by unfold zlk; rw [hk]; rfl
theorem zl_0_39 {k : Nat} (hk : zcid k = 0 := by rfl) : zlk k 39 = some (2, 56, 1, 646) := by unfold zlk; rw [hk]; rfl
theorem zl_0_43 {k : Nat} (hk : zcid k = 0 := by rfl) : zlk k 43 = some (2, 192, 1, 1504) := by unfold zlk; rw [hk]; rfl
theorem zl_0_44 {k : Nat} (hk : zcid k = 0 := by rfl) : zlk k 44 = some (2, 59, 1, 660) := by unfold zlk; rw [hk]; rfl
theorem zl_0_47 {k : Nat} (hk : zcid k = 0 := by rfl) : zlk k 47 = some (2, 151, 1, 1340) := by unfold zlk; rw [hk]; rfl
theorem zl_0_48 {k : Nat} (hk : zcid k = 0 := by rfl) : zlk k 48 = some (2, 60, 0, 664) := by unfold zlk; rw [hk]; rfl
theorem zl_0_52 {k : Nat} (hk : zcid k = 0 := by rfl) : zlk k 52 = some (2, 152, 0, 1344) := by unfold zlk; rw [hk]; rfl
theorem zl_0_53 {k : Nat} (hk : zcid k = 0 := by rfl) : zlk k 53 = some (2, 88, 1, 840) := by unfold zlk; rw [hk]; rfl
theorem zl_0_56 {k : Nat} (hk : zcid k = 0 := by rfl) : zlk k 56 = some (2, 187, 1, 1484) := by unfold zlk; rw [hk]; rfl
theorem zl_0_57 {k : Nat} (hk : zcid k = 0 := by rfl) : zlk k 57 = some (2, 91, 1, 854) := by unfold zlk; rw [hk]; rfl
theorem zl_0_60 {k : Nat} (hk : zcid k = 0 := by rfl) : zlk k 60 = some (2, 193, 1, 1509) := by unfold zlk; rw [hk]; rfl
theorem zl_0_61 {k : Nat} (hk : zcid k = 0 := by rfl) : zlk k 61 = some (2, 93, 2, 865) := by unfold zlk; rw [hk]; rfl
theorem zl_0_64 {k : Nat} (hk : zcid k = 0 := by rfl) : zlk k 64 = some (2, 197, 2, 1525) := by unfold zlk; rw [hk]; rfl
theorem zl_0_65 {k : Nat} (hk : zcid k = 0 := by rfl) : zlk k 65 = some (2, 96, 1, 878) := by unfold zlk; rw [hk]; rfl
theorem zl_0_68 {k : Nat} (hk : zcid k = 0 := by rfl) : zlk k 68 = some (2, 200, 1, 1537) := by unfold zlk; rw [hk]; rfl
theorem zl_0_69 {k : Nat} (hk : zcid k = 0 := by rfl) : zlk k 69 = some (2, 97, 1, 883) := by unfold zlk; rw [hk]; rfl
theorem zl_0_72 {k : Nat} (hk : zcid k = 0 := by rfl) : zlk k 72 = some (2, 201, 1, 1542) := by unfold zlk; rw [hk]; rfl
theorem zl_0_73 {k : Nat} (hk : zcid k = 0 := by rfl) : zlk k 73 = some (2, 104, 1, 917) := by unfold zlk; rw [hk]; rfl
theorem zl_0_76 {k : Nat} (hk : zcid k = 0 := by rfl) : zlk k 76 = some (2, 205, 1, 1558) := by unfold zlk; rw [hk]; rfl
theorem zl_0_77 {k : Nat} (hk : zcid k = 0 := by rfl) : zlk k 77 = some (2, 106, 0, 925) := by unfold zlk; rw [hk]; rfl
theorem zl_0_80 {k : Nat} (hk : zcid k = 0 := by rfl) : zlk k 80 = some (2, 206, 0, 1563) := by unfold zlk; rw [hk]; rfl
theorem zl_0_81 {k : Nat} (hk : zcid k = 0 := by rfl) : zlk k 81 = some (2, 107, 3, 929) := by unfold zlk; rw [hk]; rfl
theorem zl_0_85 {k : Nat} (hk : zcid k = 0 := by rfl) : zlk k 85 = some (2, 207, 3, 1568) := by unfold zlk; rw [hk]; rfl
theorem zl_0_86 {k : Nat} (hk : zcid k = 0 := by rfl) : zlk k 86 = some (2, 109, 2, 937) := by unfold zlk; rw [hk]; rfl
theorem zl_0_89 {k : Nat} (hk : zcid k = 0 := by rfl) : zlk k 89 = some (2, 208, 2, 1572) := by unfold zlk; rw [hk]; rfl
theorem zl_0_90 {k : Nat} (hk : zcid k = 0 := by rfl) : zlk k 90 = some (2, 112, 2, 950) := by unfold zlk; rw [hk]; rfl
theorem zl_0_93 {k : Nat} (hk : zcid k = 0 := by rfl) : zlk k 93 = some (2, 210, 2, 1580) := by unfold zlk; rw [hk]; rfl
theorem zl_0_94 {k : Nat} (hk : zcid k = 0 := by rfl) : zlk k 94 = some (2, 113, 2, 954) := by unfold zlk; rw [hk]; rfl
theorem zl_0_98 {k : Nat} (hk : zcid k = 0 := by rfl) : zlk k 98 = some (2, 211, 2, 1584) := by unfold zlk; rw [hk]; rfl
theorem zl_0_99 {k : Nat} (hk : zcid k = 0 := by rfl) : zlk k 99 = some (2, 115, 1, 962) := by unfold zlk; rw [hk]; rfl
theorem zl_0_103 {k : Nat} (hk : zcid k = 0 := by rfl) : zlk k 103 = some (2, 214, 1, 1597) := by unfold zlk; rw [hk]; rfl
theorem zl_0_104 {k : Nat} (hk : zcid k = 0 := by rfl) : zlk k 104 = some (2, 116, 2, 966) := by unfold zlk; rw [hk]; rfl
theorem zl_0_107 {k : Nat} (hk : zcid k = 0 := by rfl) : zlk k 107 = some (2, 215, 2, 1601) := by unfold zlk; rw [hk]; rfl
theorem zl_0_108 {k : Nat} (hk : zcid k = 0 := by rfl) : zlk k 108 = some (2, 117, 1, 970) := by unfold zlk; rw [hk]; rfl
theorem zl_0_111 {k : Nat} (hk : zcid k = 0 := by rfl) : zlk k 111 = some (2, 216, 1, 1605) := by unfold zlk; rw [hk]; rfl
theorem zl_0_112 {k : Nat} (hk : zcid k = 0 := by rfl) : zlk k 112 = some (2, 120, 2, 982) := by unfold zlk; rw [hk]; rfl
theorem zl_0_115 {k : Nat} (hk : zcid k = 0 := by rfl) : zlk k 115 = some (2, 217, 2, 1609) := by unfold zlk; rw [hk]; rfl
theorem zl_0_116 {k : Nat} (hk : zcid k = 0 := by rfl) : zlk k 116 = some (2, 121, 0, 986) := by unfold zlk; rw [hk]; rfl
theorem zl_0_119 {k : Nat} (hk : zcid k = 0 := by rfl) : zlk k 119 = some (2, 218, 0, 1613) := by unfold zlk; rw [hk]; rfl
theorem zl_0_120 {k : Nat} (hk : zcid k = 0 := by rfl) : zlk k 120 = some (2, 122, 2, 990) := by unfold zlk; rw [hk]; rfl
theorem zl_0_123 {k : Nat} (hk : zcid k = 0 := by rfl) : zlk k 123 = some (2, 219, 2, 1617) := by unfold zlk; rw [hk]; rfl
theorem zl_0_124 {k : Nat} (hk : zcid k = 0 := by rfl) : zlk k 124 = some (2, 124, 0, 998) := by unfold zlk; rw [hk]; rfl
theorem zl_0_127 {k : Nat} (hk : zcid k = 0 := by rfl) : zlk k 127 = some (2, 221, 0, 1625) := by unfold zlk; rw [hk]; rfl
theorem zl_0_128 {k : Nat} (hk : zcid k = 0 := by rfl) : zlk k 128 = some (2, 127, 0, 1013) := by unfold zlk; rw [hk]; rfl
theorem zl_0_131 {k : Nat} (hk : zcid k = 0 := by rfl) : zlk k 131 = some (2, 222, 0, 1629) := by unfold zlk; rw [hk]; rfl
theorem zl_0_132 {k : Nat} (hk : zcid k = 0 := by rfl) : zlk k 132 = some (2, 128, 3, 1017) := by unfold zlk; rw [hk]; rfl
theorem zl_0_135 {k : Nat} (hk : zcid k = 0 := by rfl) : zlk k 135 = some (2, 223, 3, 1633) := by unfold zlk; rw [hk]; rfl
theorem zl_0_136 {k : Nat} (hk : zcid k = 0 := by rfl) : zlk k 136 = some (2, 134, 1, 1041) := by unfold zlk; rw [hk]; rfl
theorem zl_0_139 {k : Nat} (hk : zcid k = 0 := by rfl) : zlk k 139 = some (2, 232, 1, 1669) := by unfold zlk; rw [hk]; rfl
theorem zl_0_140 {k : Nat} (hk : zcid k = 0 := by rfl) : zlk k 140 = some (2, 135, 2, 1045) := by unfold zlk; rw [hk]; rfl
theorem zl_0_143 {k : Nat} (hk : zcid k = 0 := by rfl) : zlk k 143 = some (2, 233, 2, 1673) := by unfold zlk; rw [hk]; rfl
theorem zl_0_144 {k : Nat} (hk : zcid k = 0 := by rfl) : zlk k 144 = some (2, 136, 1, 1051) := by unfold zlk; rw [hk]; rfl
theorem zl_0_147 {k : Nat} (hk : zcid k = 0 := by rfl) : zlk k 147 = some (2, 234, 1, 1677) := by unfold zlk; rw [hk]; rfl
theorem zl_0_148 {k : Nat} (hk : zcid k = 0 := by rfl) : zlk k 148 = some (2, 137, 3, 1055) := by unfold zlk; rw [hk]; rfl
theorem zl_0_151 {k : Nat} (hk : zcid k = 0 := by rfl) : zlk k 151 = some (2, 235, 3, 1681) := by unfold zlk; rw [hk]; rfl
theorem zl_0_154 {k : Nat} (hk : zcid k = 0 := by rfl) : zlk k 154 = some (2, 141, 3, 1070) := by unfold zlk; rw [hk]; rfl
theorem zl_0_158 {k : Nat} (hk : zcid k = 0 := by rfl) : zlk k 158 = some (2, 236, 3, 1685) := by unfold zlk; rw [hk]; rfl
theorem zl_0_159 {k : Nat} (hk : zcid k = 0 := by rfl) : zlk k 159 = some (2, 143, 2, 1078) := by unfold zlk; rw [hk]; rfl
theorem zl_0_162 {k : Nat} (hk : zcid k = 0 := by rfl) : zlk k 162 = some (2, 238, 2, 1693) := by unfold zlk; rw [hk]; rfl
theorem zl_0_163 {k : Nat} (hk : zcid k = 0 := by rfl) : zlk k 163 = some (2, 144, 5, 1082) := by unfold zlk; rw [hk]; rfl
theorem zl_0_167 {k : Nat} (hk : zcid k = 0 := by rfl) : zlk k 167 = some (2, 239, 5, 1697) := by unfold zlk; rw [hk]; rfl
theorem zl_1_5 {k : Nat} (hk : zcid k = 1 := by rfl) : zlk k 5 = some (4, 0, 0, 120) := by unfold zlk; rw [hk]; rfl
theorem zl_1_11 {k : Nat} (hk : zcid k = 1 := by rfl) : zlk k 11 = some (6, 7, 0, 123) := by unfold zlk; rw [hk]; rfl
theorem zl_1_13 {k : Nat} (hk : zcid k = 1 := by rfl) : zlk k 13 = some (3, 2, 0, 125) := by unfold zlk; rw [hk]; rfl
theorem zl_1_14 {k : Nat} (hk : zcid k = 1 := by rfl) : zlk k 14 = some (0, 11, 0, 423) := by unfold zlk; rw [hk]; rfl
theorem zl_1_18 {k : Nat} (hk : zcid k = 1 := by rfl) : zlk k 18 = some (0, 11, 1, 424) := by unfold zlk; rw [hk]; rfl
theorem zl_1_21 {k : Nat} (hk : zcid k = 1 := by rfl) : zlk k 21 = some (0, 11, 2, 425) := by unfold zlk; rw [hk]; rfl
theorem zl_1_25 {k : Nat} (hk : zcid k = 1 := by rfl) : zlk k 25 = some (6, 10, 0, 251) := by unfold zlk; rw [hk]; rfl
theorem zl_1_27 {k : Nat} (hk : zcid k = 1 := by rfl) : zlk k 27 = some (2, 3, 0, 252) := by unfold zlk; rw [hk]; rfl
theorem zl_1_28 {k : Nat} (hk : zcid k = 1 := by rfl) : zlk k 28 = some (0, 11, 3, 426) := by unfold zlk; rw [hk]; rfl
theorem zl_1_32 {k : Nat} (hk : zcid k = 1 := by rfl) : zlk k 32 = some (0, 11, 4, 427) := by unfold zlk; rw [hk]; rfl
theorem zl_1_36 {k : Nat} (hk : zcid k = 1 := by rfl) : zlk k 36 = some (0, 11, 5, 428) := by unfold zlk; rw [hk]; rfl
theorem zl_1_40 {k : Nat} (hk : zcid k = 1 := by rfl) : zlk k 40 = some (6, 3, 24, 253) := by unfold zlk; rw [hk]; rfl
theorem zl_1_42 {k : Nat} (hk : zcid k = 1 := by rfl) : zlk k 42 = some (0, 11, 6, 429) := by unfold zlk; rw [hk]; rfl
theorem zl_1_46 {k : Nat} (hk : zcid k = 1 := by rfl) : zlk k 46 = some (0, 11, 7, 430) := by unfold zlk; rw [hk]; rfl
theorem zl_1_49 {k : Nat} (hk : zcid k = 1 := by rfl) : zlk k 49 = some (3, 6, 0, 256) := by unfold zlk; rw [hk]; rfl
theorem zl_1_50 {k : Nat} (hk : zcid k = 1 := by rfl) : zlk k 50 = some (0, 11, 8, 431) := by unfold zlk; rw [hk]; rfl
theorem zl_1_54 {k : Nat} (hk : zcid k = 1 := by rfl) : zlk k 54 = some (6, 4, 0, 281) := by unfold zlk; rw [hk]; rfl
theorem zl_1_56 {k : Nat} (hk : zcid k = 1 := by rfl) : zlk k 56 = some (3, 7, 0, 283) := by unfold zlk; rw [hk]; rfl
theorem zl_1_57 {k : Nat} (hk : zcid k = 1 := by rfl) : zlk k 57 = some (0, 11, 9, 432) := by unfold zlk; rw [hk]; rfl
theorem zl_1_61 {k : Nat} (hk : zcid k = 1 := by rfl) : zlk k 61 = some (6, 2, 0, 302) := by unfold zlk; rw [hk]; rfl
theorem zl_1_63 {k : Nat} (hk : zcid k = 1 := by rfl) : zlk k 63 = some (3, 8, 0, 304) := by unfold zlk; rw [hk]; rfl
theorem zl_1_64 {k : Nat} (hk : zcid k = 1 := by rfl) : zlk k 64 = some (0, 11, 10, 433) := by unfold zlk; rw [hk]; rfl
theorem zl_1_68 {k : Nat} (hk : zcid k = 1 := by rfl) : zlk k 68 = some (6, 9, 0, 322) := by unfold zlk; rw [hk]; rfl
theorem zl_1_70 {k : Nat} (hk : zcid k = 1 := by rfl) : zlk k 70 = some (3, 9, 0, 324) := by unfold zlk; rw [hk]; rfl
theorem zl_1_71 {k : Nat} (hk : zcid k = 1 := by rfl) : zlk k 71 = some (0, 11, 11, 434) := by unfold zlk; rw [hk]; rfl
theorem zl_1_75 {k : Nat} (hk : zcid k = 1 := by rfl) : zlk k 75 = some (6, 5, 0, 352) := by unfold zlk; rw [hk]; rfl
theorem zl_1_77 {k : Nat} (hk : zcid k = 1 := by rfl) : zlk k 77 = some (3, 10, 0, 354) := by unfold zlk; rw [hk]; rfl
theorem zl_1_78 {k : Nat} (hk : zcid k = 1 := by rfl) : zlk k 78 = some (0, 11, 12, 435) := by unfold zlk; rw [hk]; rfl
theorem zl_1_82 {k : Nat} (hk : zcid k = 1 := by rfl) : zlk k 82 = some (6, 0, 0, 378) := by unfold zlk; rw [hk]; rfl
theorem zl_1_84 {k : Nat} (hk : zcid k = 1 := by rfl) : zlk k 84 = some (3, 11, 0, 380) := by unfold zlk; rw [hk]; rfl
theorem zl_1_85 {k : Nat} (hk : zcid k = 1 := by rfl) : zlk k 85 = some (0, 11, 13, 436) := by unfold zlk; rw [hk]; rfl
theorem zl_1_89 {k : Nat} (hk : zcid k = 1 := by rfl) : zlk k 89 = some (6, 8, 25, 402) := by unfold zlk; rw [hk]; rfl
theorem zl_1_91 {k : Nat} (hk : zcid k = 1 := by rfl) : zlk k 91 = some (0, 11, 14, 437) := by unfold zlk; rw [hk]; rfl
theorem zl_1_95 {k : Nat} (hk : zcid k = 1 := by rfl) : zlk k 95 = some (3, 12, 0, 405) := by unfold zlk; rw [hk]; rfl
theorem zl_1_96 {k : Nat} (hk : zcid k = 1 := by rfl) : zlk k 96 = some (2, 14, 3, 473) := by unfold zlk; rw [hk]; rfl
theorem zl_1_100 {k : Nat} (hk : zcid k = 1 := by rfl) : zlk k 100 = some (0, 7, 0, 235) := by unfold zlk; rw [hk]; rfl
theorem zl_1_103 {k : Nat} (hk : zcid k = 1 := by rfl) : zlk k 103 = some (2, 15, 0, 476) := by unfold zlk; rw [hk]; rfl
theorem zl_1_107 {k : Nat} (hk : zcid k = 1 := by rfl) : zlk k 107 = some (2, 16, 3, 480) := by unfold zlk; rw [hk]; rfl
theorem zl_1_113 {k : Nat} (hk : zcid k = 1 := by rfl) : zlk k 113 = some (0, 1, 0, 144) := by unfold zlk; rw [hk]; rfl
theorem zl_1_116 {k : Nat} (hk : zcid k = 1 := by rfl) : zlk k 116 = some (2, 19, 1, 491) := by unfold zlk; rw [hk]; rfl
theorem zl_1_120 {k : Nat} (hk : zcid k = 1 := by rfl) : zlk k 120 = some (0, 1, 1, 149) := by unfold zlk; rw [hk]; rfl
theorem zl_1_123 {k : Nat} (hk : zcid k = 1 := by rfl) : zlk k 123 = some (0, 1, 2, 155) := by unfold zlk; rw [hk]; rfl
theorem zl_1_126 {k : Nat} (hk : zcid k = 1 := by rfl) : zlk k 126 = some (0, 1, 3, 158) := by unfold zlk; rw [hk]; rfl
theorem zl_1_129 {k : Nat} (hk : zcid k = 1 := by rfl) : zlk k 129 = some (0, 1, 4, 163) := by unfold zlk; rw [hk]; rfl
theorem zl_1_132 {k : Nat} (hk : zcid k = 1 := by rfl) : zlk k 132 = some (0, 1, 5, 167) := by unfold zlk; rw [hk]; rfl
theorem zl_1_135 {k : Nat} (hk : zcid k = 1 := by rfl) : zlk k 135 = some (2, 20, 0, 496) := by unfold zlk; rw [hk]; rfl
theorem zl_1_139 {k : Nat} (hk : zcid k = 1 := by rfl) : zlk k 139 = some (0, 10, 3, 194) := by unfold zlk; rw [hk]; rfl
theorem zl_1_142 {k : Nat} (hk : zcid k = 1 := by rfl) : zlk k 142 = some (2, 21, 2, 500) := by unfold zlk; rw [hk]; rfl
theorem zl_1_146 {k : Nat} (hk : zcid k = 1 := by rfl) : zlk k 146 = some (2, 25, 3, 513) := by unfold zlk; rw [hk]; rfl
theorem zl_1_150 {k : Nat} (hk : zcid k = 1 := by rfl) : zlk k 150 = some (0, 3, 4, 267) := by unfold zlk; rw [hk]; rfl
theorem zl_1_153 {k : Nat} (hk : zcid k = 1 := by rfl) : zlk k 153 = some (2, 26, 2, 517) := by unfold zlk; rw [hk]; rfl
theorem zl_1_156 {k : Nat} (hk : zcid k = 1 := by rfl) : zlk k 156 = some (2, 27, 2, 520) := by unfold zlk; rw [hk]; rfl
theorem zl_1_159 {k : Nat} (hk : zcid k = 1 := by rfl) : zlk k 159 = some (2, 28, 3, 524) := by unfold zlk; rw [hk]; rfl
theorem zl_1_163 {k : Nat} (hk : zcid k = 1 := by rfl) : zlk k 163 = some (2, 33, 1, 546) := by unfold zlk; rw [hk]; rfl
theorem zl_1_167 {k : Nat} (hk : zcid k = 1 := by rfl) : zlk k 167 = some (2, 34, 1, 550) := by unfold zlk; rw [hk]; rfl
theorem zl_1_170 {k : Nat} (hk : zcid k = 1 := by rfl) : zlk k 170 = some (2, 42, 1, 585) := by unfold zlk; rw [hk]; rfl
theorem zl_1_173 {k : Nat} (hk : zcid k = 1 := by rfl) : zlk k 173 = some (2, 45, 1, 597) := by unfold zlk; rw [hk]; rfl
theorem zl_1_176 {k : Nat} (hk : zcid k = 1 := by rfl) : zlk k 176 = some (2, 46, 1, 602) := by unfold zlk; rw [hk]; rfl
theorem zl_1_179 {k : Nat} (hk : zcid k = 1 := by rfl) : zlk k 179 = some (2, 47, 1, 606) := by unfold zlk; rw [hk]; rfl
theorem zl_1_182 {k : Nat} (hk : zcid k = 1 := by rfl) : zlk k 182 = some (0, 1, 6, 170) := by unfold zlk; rw [hk]; rfl
theorem zl_1_186 {k : Nat} (hk : zcid k = 1 := by rfl) : zlk k 186 = some (2, 51, 3, 622) := by unfold zlk; rw [hk]; rfl
theorem zl_1_190 {k : Nat} (hk : zcid k = 1 := by rfl) : zlk k 190 = some (2, 24, 2, 516) := by unfold zlk; rw [hk]; rfl
theorem zl_1_196 {k : Nat} (hk : zcid k = 1 := by rfl) : zlk k 196 = some (2, 53, 1, 632) := by unfold zlk; rw [hk]; rfl
theorem zl_1_200 {k : Nat} (hk : zcid k = 1 := by rfl) : zlk k 200 = some (2, 55, 2, 643) := by unfold zlk; rw [hk]; rfl
theorem zl_1_204 {k : Nat} (hk : zcid k = 1 := by rfl) : zlk k 204 = some (2, 57, 0, 650) := by unfold zlk; rw [hk]; rfl
theorem zl_1_208 {k : Nat} (hk : zcid k = 1 := by rfl) : zlk k 208 = some (2, 58, 2, 654) := by unfold zlk; rw [hk]; rfl
theorem zl_1_213 {k : Nat} (hk : zcid k = 1 := by rfl) : zlk k 213 = some (0, 10, 2, 192) := by unfold zlk; rw [hk]; rfl
theorem zl_1_216 {k : Nat} (hk : zcid k = 1 := by rfl) : zlk k 216 = some (2, 37, 2, 659) := by unfold zlk; rw [hk]; rfl
theorem zl_1_219 {k : Nat} (hk : zcid k = 1 := by rfl) : zlk k 219 = some (2, 61, 3, 668) := by unfold zlk; rw [hk]; rfl
theorem zl_1_223 {k : Nat} (hk : zcid k = 1 := by rfl) : zlk k 223 = some (0, 10, 4, 196) := by unfold zlk; rw [hk]; rfl
theorem zl_1_226 {k : Nat} (hk : zcid k = 1 := by rfl) : zlk k 226 = some (2, 31, 0, 844) := by unfold zlk; rw [hk]; rfl
theorem zl_1_230 {k : Nat} (hk : zcid k = 1 := by rfl) : zlk k 230 = some (2, 32, 0, 845) := by unfold zlk; rw [hk]; rfl
theorem zl_1_233 {k : Nat} (hk : zcid k = 1 := by rfl) : zlk k 233 = some (2, 89, 1, 846) := by unfold zlk; rw [hk]; rfl
theorem zl_1_237 {k : Nat} (hk : zcid k = 1 := by rfl) : zlk k 237 = some (2, 92, 2, 858) := by unfold zlk; rw [hk]; rfl
theorem zl_1_241 {k : Nat} (hk : zcid k = 1 := by rfl) : zlk k 241 = some (2, 94, 1, 869) := by unfold zlk; rw [hk]; rfl
theorem zl_1_245 {k : Nat} (hk : zcid k = 1 := by rfl) : zlk k 245 = some (2, 90, 2, 850) := by unfold zlk; rw [hk]; rfl
theorem zl_1_249 {k : Nat} (hk : zcid k = 1 := by rfl) : zlk k 249 = some (2, 98, 0, 887) := by unfold zlk; rw [hk]; rfl
theorem zl_1_252 {k : Nat} (hk : zcid k = 1 := by rfl) : zlk k 252 = some (0, 5, 3, 365) := by unfold zlk; rw [hk]; rfl
theorem zl_1_255 {k : Nat} (hk : zcid k = 1 := by rfl) : zlk k 255 = some (0, 5, 2, 363) := by unfold zlk; rw [hk]; rfl
theorem zl_1_258 {k : Nat} (hk : zcid k = 1 := by rfl) : zlk k 258 = some (0, 5, 1, 361) := by unfold zlk; rw [hk]; rfl
theorem zl_1_261 {k : Nat} (hk : zcid k = 1 := by rfl) : zlk k 261 = some (0, 10, 1, 190) := by unfold zlk; rw [hk]; rfl
theorem zl_1_264 {k : Nat} (hk : zcid k = 1 := by rfl) : zlk k 264 = some (0, 10, 0, 188) := by unfold zlk; rw [hk]; rfl
theorem zl_1_268 {k : Nat} (hk : zcid k = 1 := by rfl) : zlk k 268 = some (2, 99, 1, 891) := by unfold zlk; rw [hk]; rfl
theorem zl_1_273 {k : Nat} (hk : zcid k = 1 := by rfl) : zlk k 273 = some (0, 5, 0, 359) := by unfold zlk; rw [hk]; rfl
theorem zl_1_276 {k : Nat} (hk : zcid k = 1 := by rfl) : zlk k 276 = some (2, 100, 1, 897) := by unfold zlk; rw [hk]; rfl
theorem zl_1_279 {k : Nat} (hk : zcid k = 1 := by rfl) : zlk k 279 = some (2, 105, 1, 921) := by unfold zlk; rw [hk]; rfl
theorem zl_1_283 {k : Nat} (hk : zcid k = 1 := by rfl) : zlk k 283 = some (0, 7, 1, 237) := by unfold zlk; rw [hk]; rfl
theorem zl_1_287 {k : Nat} (hk : zcid k = 1 := by rfl) : zlk k 287 = some (0, 6, 4, 222) := by unfold zlk; rw [hk]; rfl
theorem zl_1_292 {k : Nat} (hk : zcid k = 1 := by rfl) : zlk k 292 = some (2, 108, 3, 933) := by unfold zlk; rw [hk]; rfl
theorem zl_1_295 {k : Nat} (hk : zcid k = 1 := by rfl) : zlk k 295 = some (2, 110, 4, 941) := by unfold zlk; rw [hk]; rfl
theorem zl_1_299 {k : Nat} (hk : zcid k = 1 := by rfl) : zlk k 299 = some (2, 29, 4, 945) := by unfold zlk; rw [hk]; rfl
theorem zl_1_303 {k : Nat} (hk : zcid k = 1 := by rfl) : zlk k 303 = some (2, 111, 0, 946) := by unfold zlk; rw [hk]; rfl
theorem zl_1_306 {k : Nat} (hk : zcid k = 1 := by rfl) : zlk k 306 = some (0, 6, 2, 218) := by unfold zlk; rw [hk]; rfl
theorem zl_1_309 {k : Nat} (hk : zcid k = 1 := by rfl) : zlk k 309 = some (0, 6, 1, 216) := by unfold zlk; rw [hk]; rfl
theorem zl_1_312 {k : Nat} (hk : zcid k = 1 := by rfl) : zlk k 312 = some (2, 41, 2, 631) := by unfold zlk; rw [hk]; rfl
theorem zl_1_315 {k : Nat} (hk : zcid k = 1 := by rfl) : zlk k 315 = some (0, 6, 3, 220) := by unfold zlk; rw [hk]; rfl
theorem zl_1_320 {k : Nat} (hk : zcid k = 1 := by rfl) : zlk k 320 = some (2, 52, 2, 626) := by unfold zlk; rw [hk]; rfl
theorem zl_1_323 {k : Nat} (hk : zcid k = 1 := by rfl) : zlk k 323 = some (2, 114, 3, 959) := by unfold zlk; rw [hk]; rfl
theorem zl_1_327 {k : Nat} (hk : zcid k = 1 := by rfl) : zlk k 327 = some (0, 7, 2, 239) := by unfold zlk; rw [hk]; rfl
theorem zl_1_330 {k : Nat} (hk : zcid k = 1 := by rfl) : zlk k 330 = some (2, 95, 1, 873) := by unfold zlk; rw [hk]; rfl
theorem zl_1_333 {k : Nat} (hk : zcid k = 1 := by rfl) : zlk k 333 = some (2, 118, 2, 974) := by unfold zlk; rw [hk]; rfl
theorem zl_1_337 {k : Nat} (hk : zcid k = 1 := by rfl) : zlk k 337 = some (2, 119, 0, 978) := by unfold zlk; rw [hk]; rfl
theorem zl_1_340 {k : Nat} (hk : zcid k = 1 := by rfl) : zlk k 340 = some (0, 7, 3, 241) := by unfold zlk; rw [hk]; rfl
theorem zl_1_343 {k : Nat} (hk : zcid k = 1 := by rfl) : zlk k 343 = some (2, 123, 0, 994) := by unfold zlk; rw [hk]; rfl
theorem zl_1_346 {k : Nat} (hk : zcid k = 1 := by rfl) : zlk k 346 = some (0, 8, 1, 412) := by unfold zlk; rw [hk]; rfl
theorem zl_1_349 {k : Nat} (hk : zcid k = 1 := by rfl) : zlk k 349 = some (0, 8, 2, 414) := by unfold zlk; rw [hk]; rfl
theorem zl_1_350 {k : Nat} (hk : zcid k = 1 := by rfl) : zlk k 350 = some (0, 8, 0, 410) := by unfold zlk; rw [hk]; rfl
theorem zl_1_354 {k : Nat} (hk : zcid k = 1 := by rfl) : zlk k 354 = some (2, 125, 1, 1002) := by unfold zlk; rw [hk]; rfl
theorem zl_1_357 {k : Nat} (hk : zcid k = 1 := by rfl) : zlk k 357 = some (0, 0, 1, 387) := by unfold zlk; rw [hk]; rfl
theorem zl_1_360 {k : Nat} (hk : zcid k = 1 := by rfl) : zlk k 360 = some (2, 129, 3, 1021) := by unfold zlk; rw [hk]; rfl
theorem zl_1_364 {k : Nat} (hk : zcid k = 1 := by rfl) : zlk k 364 = some (0, 0, 0, 385) := by unfold zlk; rw [hk]; rfl
theorem zl_1_367 {k : Nat} (hk : zcid k = 1 := by rfl) : zlk k 367 = some (1, 0, 0, 1049) := by unfold zlk; rw [hk]; rfl
theorem zl_1_370 {k : Nat} (hk : zcid k = 1 := by rfl) : zlk k 370 = some (2, 138, 0, 1059) := by unfold zlk; rw [hk]; rfl
theorem zl_1_373 {k : Nat} (hk : zcid k = 1 := by rfl) : zlk k 373 = some (2, 139, 2, 1063) := by unfold zlk; rw [hk]; rfl
theorem zl_1_375 {k : Nat} (hk : zcid k = 1 := by rfl) : zlk k 375 = some (2, 142, 1, 1074) := by unfold zlk; rw [hk]; rfl
theorem zl_1_379 {k : Nat} (hk : zcid k = 1 := by rfl) : zlk k 379 = some (5, 0, 0, 1086) := by unfold zlk; rw [hk]; rfl
theorem zl_2_3 {k : Nat} (hk : zcid k = 2 := by rfl) : zlk k 3 = some (4, 0, 0, 128) := by unfold zlk; rw [hk]; rfl
theorem zl_2_9 {k : Nat} (hk : zcid k = 2 := by rfl) : zlk k 9 = some (6, 10, 0, 129) := by unfold zlk; rw [hk]; rfl
theorem zl_2_11 {k : Nat} (hk : zcid k = 2 := by rfl) : zlk k 11 = some (2, 3, 0, 131) := by unfold zlk; rw [hk]; rfl
theorem zl_2_12 {k : Nat} (hk : zcid k = 2 := by rfl) : zlk k 12 = some (0, 7, 0, 234) := by unfold zlk; rw [hk]; rfl
theorem zl_2_18 {k : Nat} (hk : zcid k = 2 := by rfl) : zlk k 18 = some (6, 6, 0, 208) := by unfold zlk; rw [hk]; rfl
theorem zl_2_20 {k : Nat} (hk : zcid k = 2 := by rfl) : zlk k 20 = some (2, 5, 1, 210) := by unfold zlk; rw [hk]; rfl
theorem zl_2_23 {k : Nat} (hk : zcid k = 2 := by rfl) : zlk k 23 = some (0, 7, 1, 236) := by unfold zlk; rw [hk]; rfl
theorem zl_2_27 {k : Nat} (hk : zcid k = 2 := by rfl) : zlk k 27 = some (0, 7, 2, 238) := by unfold zlk; rw [hk]; rfl
theorem zl_2_30 {k : Nat} (hk : zcid k = 2 := by rfl) : zlk k 30 = some (0, 7, 3, 240) := by unfold zlk; rw [hk]; rfl
theorem zl_2_33 {k : Nat} (hk : zcid k = 2 := by rfl) : zlk k 33 = some (2, 95, 1, 1006) := by unfold zlk; rw [hk]; rfl
theorem zl_2_37 {k : Nat} (hk : zcid k = 2 := by rfl) : zlk k 37 = some (2, 126, 1, 1007) := by unfold zlk; rw [hk]; rfl
theorem zl_3_3 {k : Nat} (hk : zcid k = 3 := by rfl) : zlk k 3 = some (4, 0, 0, 134) := by unfold zlk; rw [hk]; rfl
theorem zl_3_9 {k : Nat} (hk : zcid k = 3 := by rfl) : zlk k 9 = some (6, 1, 26, 135) := by unfold zlk; rw [hk]; rfl
theorem zl_3_11 {k : Nat} (hk : zcid k = 3 := by rfl) : zlk k 11 = some (0, 10, 0, 187) := by unfold zlk; rw [hk]; rfl
theorem zl_3_17 {k : Nat} (hk : zcid k = 3 := by rfl) : zlk k 17 = some (0, 10, 1, 189) := by unfold zlk; rw [hk]; rfl
theorem zl_3_21 {k : Nat} (hk : zcid k = 3 := by rfl) : zlk k 21 = some (0, 10, 2, 191) := by unfold zlk; rw [hk]; rfl
theorem zl_3_24 {k : Nat} (hk : zcid k = 3 := by rfl) : zlk k 24 = some (0, 10, 3, 193) := by unfold zlk; rw [hk]; rfl
theorem zl_3_27 {k : Nat} (hk : zcid k = 3 := by rfl) : zlk k 27 = some (0, 10, 4, 195) := by unfold zlk; rw [hk]; rfl
theorem zl_3_30 {k : Nat} (hk : zcid k = 3 := by rfl) : zlk k 30 = some (2, 4, 1, 138) := by unfold zlk; rw [hk]; rfl
theorem zl_3_33 {k : Nat} (hk : zcid k = 3 := by rfl) : zlk k 33 = some (3, 14, 3, 495) := by unfold zlk; rw [hk]; rfl
theorem zl_3_37 {k : Nat} (hk : zcid k = 3 := by rfl) : zlk k 37 = some (2, 57, 0, 862) := by unfold zlk; rw [hk]; rfl
theorem zl_3_41 {k : Nat} (hk : zcid k = 3 := by rfl) : zlk k 41 = some (0, 1, 4, 164) := by unfold zlk; rw [hk]; rfl
theorem zl_3_44 {k : Nat} (hk : zcid k = 3 := by rfl) : zlk k 44 = some (3, 26, 2, 863) := by unfold zlk; rw [hk]; rfl
theorem zl_3_48 {k : Nat} (hk : zcid k = 3 := by rfl) : zlk k 48 = some (2, 37, 2, 864) := by unfold zlk; rw [hk]; rfl
theorem zl_3_54 {k : Nat} (hk : zcid k = 3 := by rfl) : zlk k 54 = some (2, 53, 1, 877) := by unfold zlk; rw [hk]; rfl
theorem zl_4_3 {k : Nat} (hk : zcid k = 4 := by rfl) : zlk k 3 = some (4, 0, 0, 141) := by unfold zlk; rw [hk]; rfl
theorem zl_4_9 {k : Nat} (hk : zcid k = 4 := by rfl) : zlk k 9 = some (0, 1, 6, 168) := by unfold zlk; rw [hk]; rfl
theorem zl_4_15 {k : Nat} (hk : zcid k = 4 := by rfl) : zlk k 15 = some (0, 1, 0, 142) := by unfold zlk; rw [hk]; rfl
theorem zl_4_19 {k : Nat} (hk : zcid k = 4 := by rfl) : zlk k 19 = some (0, 1, 3, 157) := by unfold zlk; rw [hk]; rfl
theorem zl_4_22 {k : Nat} (hk : zcid k = 4 := by rfl) : zlk k 22 = some (0, 1, 1, 147) := by unfold zlk; rw [hk]; rfl
theorem zl_4_25 {k : Nat} (hk : zcid k = 4 := by rfl) : zlk k 25 = some (0, 1, 2, 154) := by unfold zlk; rw [hk]; rfl
theorem zl_4_28 {k : Nat} (hk : zcid k = 4 := by rfl) : zlk k 28 = some (0, 1, 4, 162) := by unfold zlk; rw [hk]; rfl
theorem zl_4_31 {k : Nat} (hk : zcid k = 4 := by rfl) : zlk k 31 = some (0, 1, 5, 166) := by unfold zlk; rw [hk]; rfl
theorem zl_4_34 {k : Nat} (hk : zcid k = 4 := by rfl) : zlk k 34 = some (2, 17, 2, 484) := by unfold zlk; rw [hk]; rfl
theorem zl_4_40 {k : Nat} (hk : zcid k = 4 := by rfl) : zlk k 40 = some (5, 0, 0, 636) := by unfold zlk; rw [hk]; rfl
theorem zl_5_3 {k : Nat} (hk : zcid k = 5 := by rfl) : zlk k 3 = some (4, 0, 0, 213) := by unfold zlk; rw [hk]; rfl
theorem zl_5_9 {k : Nat} (hk : zcid k = 5 := by rfl) : zlk k 9 = some (0, 6, 4, 221) := by unfold zlk; rw [hk]; rfl
theorem zl_5_15 {k : Nat} (hk : zcid k = 5 := by rfl) : zlk k 15 = some (0, 6, 0, 214) := by unfold zlk; rw [hk]; rfl
theorem zl_5_18 {k : Nat} (hk : zcid k = 5 := by rfl) : zlk k 18 = some (0, 6, 1, 215) := by unfold zlk; rw [hk]; rfl
theorem zl_5_22 {k : Nat} (hk : zcid k = 5 := by rfl) : zlk k 22 = some (0, 6, 2, 217) := by unfold zlk; rw [hk]; rfl
theorem zl_5_25 {k : Nat} (hk : zcid k = 5 := by rfl) : zlk k 25 = some (0, 6, 3, 219) := by unfold zlk; rw [hk]; rfl
theorem zl_5_28 {k : Nat} (hk : zcid k = 5 := by rfl) : zlk k 28 = some (2, 37, 2, 1011) := by unfold zlk; rw [hk]; rfl
theorem zl_5_34 {k : Nat} (hk : zcid k = 5 := by rfl) : zlk k 34 = some (5, 0, 0, 1012) := by unfold zlk; rw [hk]; rfl
theorem zl_6_3 {k : Nat} (hk : zcid k = 6 := by rfl) : zlk k 3 = some (4, 0, 0, 259) := by unfold zlk; rw [hk]; rfl
theorem zl_6_9 {k : Nat} (hk : zcid k = 6 := by rfl) : zlk k 9 = some (0, 3, 0, 260) := by unfold zlk; rw [hk]; rfl
theorem zl_6_15 {k : Nat} (hk : zcid k = 6 := by rfl) : zlk k 15 = some (0, 3, 1, 261) := by unfold zlk; rw [hk]; rfl
theorem zl_6_19 {k : Nat} (hk : zcid k = 6 := by rfl) : zlk k 19 = some (0, 3, 2, 262) := by unfold zlk; rw [hk]; rfl
theorem zl_6_22 {k : Nat} (hk : zcid k = 6 := by rfl) : zlk k 22 = some (0, 3, 3, 264) := by unfold zlk; rw [hk]; rfl
theorem zl_6_25 {k : Nat} (hk : zcid k = 6 := by rfl) : zlk k 25 = some (0, 3, 4, 266) := by unfold zlk; rw [hk]; rfl
theorem zl_6_28 {k : Nat} (hk : zcid k = 6 := by rfl) : zlk k 28 = some (2, 24, 2, 510) := by unfold zlk; rw [hk]; rfl
theorem zl_6_34 {k : Nat} (hk : zcid k = 6 := by rfl) : zlk k 34 = some (2, 31, 0, 544) := by unfold zlk; rw [hk]; rfl
theorem zl_6_38 {k : Nat} (hk : zcid k = 6 := by rfl) : zlk k 38 = some (2, 22, 3, 504) := by unfold zlk; rw [hk]; rfl
theorem zl_6_42 {k : Nat} (hk : zcid k = 6 := by rfl) : zlk k 42 = some (2, 23, 3, 507) := by unfold zlk; rw [hk]; rfl
theorem zl_6_46 {k : Nat} (hk : zcid k = 6 := by rfl) : zlk k 46 = some (0, 1, 0, 145) := by unfold zlk; rw [hk]; rfl
theorem zl_6_51 {k : Nat} (hk : zcid k = 6 := by rfl) : zlk k 51 = some (0, 1, 1, 150) := by unfold zlk; rw [hk]; rfl
theorem zl_6_54 {k : Nat} (hk : zcid k = 6 := by rfl) : zlk k 54 = some (0, 1, 2, 156) := by unfold zlk; rw [hk]; rfl
theorem zl_6_57 {k : Nat} (hk : zcid k = 6 := by rfl) : zlk k 57 = some (0, 1, 3, 159) := by unfold zlk; rw [hk]; rfl
theorem zl_6_58 {k : Nat} (hk : zcid k = 6 := by rfl) : zlk k 58 = some (0, 1, 4, 165) := by unfold zlk; rw [hk]; rfl
theorem zl_7_1 {k : Nat} (hk : zcid k = 7 := by rfl) : zlk k 1 = some (4, 0, 0, 286) := by unfold zlk; rw [hk]; rfl
theorem zl_7_7 {k : Nat} (hk : zcid k = 7 := by rfl) : zlk k 7 = some (0, 4, 0, 289) := by unfold zlk; rw [hk]; rfl
theorem zl_7_13 {k : Nat} (hk : zcid k = 7 := by rfl) : zlk k 13 = some (0, 4, 1, 290) := by unfold zlk; rw [hk]; rfl
theorem zl_7_17 {k : Nat} (hk : zcid k = 7 := by rfl) : zlk k 17 = some (0, 4, 2, 291) := by unfold zlk; rw [hk]; rfl
theorem zl_7_20 {k : Nat} (hk : zcid k = 7 := by rfl) : zlk k 20 = some (6, 3, 24, 287) := by unfold zlk; rw [hk]; rfl
theorem zl_7_22 {k : Nat} (hk : zcid k = 7 := by rfl) : zlk k 22 = some (3, 6, 0, 288) := by unfold zlk; rw [hk]; rfl
theorem zl_7_23 {k : Nat} (hk : zcid k = 7 := by rfl) : zlk k 23 = some (0, 4, 3, 292) := by unfold zlk; rw [hk]; rfl
theorem zl_7_27 {k : Nat} (hk : zcid k = 7 := by rfl) : zlk k 27 = some (2, 37, 2, 672) := by unfold zlk; rw [hk]; rfl
theorem zl_7_33 {k : Nat} (hk : zcid k = 7 := by rfl) : zlk k 33 = some (2, 62, 0, 673) := by unfold zlk; rw [hk]; rfl
theorem zl_7_36 {k : Nat} (hk : zcid k = 7 := by rfl) : zlk k 36 = some (2, 63, 0, 677) := by unfold zlk; rw [hk]; rfl
theorem zl_7_40 {k : Nat} (hk : zcid k = 7 := by rfl) : zlk k 40 = some (2, 74, 1, 746) := by unfold zlk; rw [hk]; rfl
theorem zl_7_44 {k : Nat} (hk : zcid k = 7 := by rfl) : zlk k 44 = some (2, 75, 0, 750) := by unfold zlk; rw [hk]; rfl
theorem zl_7_48 {k : Nat} (hk : zcid k = 7 := by rfl) : zlk k 48 = some (2, 64, 0, 681) := by unfold zlk; rw [hk]; rfl
theorem zl_7_51 {k : Nat} (hk : zcid k = 7 := by rfl) : zlk k 51 = some (2, 76, 0, 754) := by unfold zlk; rw [hk]; rfl
theorem zl_7_54 {k : Nat} (hk : zcid k = 7 := by rfl) : zlk k 54 = some (2, 77, 1, 759) := by unfold zlk; rw [hk]; rfl
theorem zl_7_57 {k : Nat} (hk : zcid k = 7 := by rfl) : zlk k 57 = some (2, 87, 4, 836) := by unfold zlk; rw [hk]; rfl
theorem zl_7_61 {k : Nat} (hk : zcid k = 7 := by rfl) : zlk k 61 = some (0, 3, 2, 263) := by unfold zlk; rw [hk]; rfl
theorem zl_7_64 {k : Nat} (hk : zcid k = 7 := by rfl) : zlk k 64 = some (0, 3, 3, 265) := by unfold zlk; rw [hk]; rfl
theorem zl_7_67 {k : Nat} (hk : zcid k = 7 := by rfl) : zlk k 67 = some (0, 3, 4, 268) := by unfold zlk; rw [hk]; rfl
theorem zl_7_70 {k : Nat} (hk : zcid k = 7 := by rfl) : zlk k 70 = some (9, 0, 0, 688) := by unfold zlk; rw [hk]; rfl
theorem zl_7_72 {k : Nat} (hk : zcid k = 7 := by rfl) : zlk k 72 = some (9, 1, 0, 689) := by unfold zlk; rw [hk]; rfl
theorem zl_7_74 {k : Nat} (hk : zcid k = 7 := by rfl) : zlk k 74 = some (9, 2, 0, 690) := by unfold zlk; rw [hk]; rfl
theorem zl_7_75 {k : Nat} (hk : zcid k = 7 := by rfl) : zlk k 75 = some (9, 3, 0, 691) := by unfold zlk; rw [hk]; rfl
theorem zl_7_76 {k : Nat} (hk : zcid k = 7 := by rfl) : zlk k 76 = some (9, 4, 0, 692) := by unfold zlk; rw [hk]; rfl
theorem zl_7_77 {k : Nat} (hk : zcid k = 7 := by rfl) : zlk k 77 = some (2, 65, 1, 685) := by unfold zlk; rw [hk]; rfl
theorem zl_7_81 {k : Nat} (hk : zcid k = 7 := by rfl) : zlk k 81 = some (2, 66, 1, 693) := by unfold zlk; rw [hk]; rfl
theorem zl_7_85 {k : Nat} (hk : zcid k = 7 := by rfl) : zlk k 85 = some (2, 67, 0, 697) := by unfold zlk; rw [hk]; rfl
theorem zl_7_89 {k : Nat} (hk : zcid k = 7 := by rfl) : zlk k 89 = some (2, 24, 2, 745) := by unfold zlk; rw [hk]; rfl
theorem zl_7_92 {k : Nat} (hk : zcid k = 7 := by rfl) : zlk k 92 = some (2, 69, 1, 707) := by unfold zlk; rw [hk]; rfl
theorem zl_7_96 {k : Nat} (hk : zcid k = 7 := by rfl) : zlk k 96 = some (3, 14, 3, 758) := by unfold zlk; rw [hk]; rfl
theorem zl_7_102 {k : Nat} (hk : zcid k = 7 := by rfl) : zlk k 102 = some (2, 78, 1, 763) := by unfold zlk; rw [hk]; rfl
theorem zl_7_105 {k : Nat} (hk : zcid k = 7 := by rfl) : zlk k 105 = some (2, 79, 1, 767) := by unfold zlk; rw [hk]; rfl
theorem zl_7_108 {k : Nat} (hk : zcid k = 7 := by rfl) : zlk k 108 = some (2, 80, 0, 771) := by unfold zlk; rw [hk]; rfl
theorem zl_7_111 {k : Nat} (hk : zcid k = 7 := by rfl) : zlk k 111 = some (9, 5, 0, 775) := by unfold zlk; rw [hk]; rfl
theorem zl_7_113 {k : Nat} (hk : zcid k = 7 := by rfl) : zlk k 113 = some (2, 81, 1, 776) := by unfold zlk; rw [hk]; rfl
theorem zl_7_116 {k : Nat} (hk : zcid k = 7 := by rfl) : zlk k 116 = some (9, 6, 0, 835) := by unfold zlk; rw [hk]; rfl
theorem zl_7_118 {k : Nat} (hk : zcid k = 7 := by rfl) : zlk k 118 = some (2, 82, 1, 780) := by unfold zlk; rw [hk]; rfl
theorem zl_8_3 {k : Nat} (hk : zcid k = 8 := by rfl) : zlk k 3 = some (4, 0, 0, 307) := by unfold zlk; rw [hk]; rfl
theorem zl_8_9 {k : Nat} (hk : zcid k = 8 := by rfl) : zlk k 9 = some (0, 2, 3, 311) := by unfold zlk; rw [hk]; rfl
theorem zl_8_15 {k : Nat} (hk : zcid k = 8 := by rfl) : zlk k 15 = some (0, 1, 2, 151) := by unfold zlk; rw [hk]; rfl
theorem zl_8_20 {k : Nat} (hk : zcid k = 8 := by rfl) : zlk k 20 = some (0, 1, 4, 160) := by unfold zlk; rw [hk]; rfl
theorem zl_8_23 {k : Nat} (hk : zcid k = 8 := by rfl) : zlk k 23 = some (2, 29, 4, 630) := by unfold zlk; rw [hk]; rfl
theorem zl_8_27 {k : Nat} (hk : zcid k = 8 := by rfl) : zlk k 27 = some (0, 1, 1, 148) := by unfold zlk; rw [hk]; rfl
theorem zl_8_30 {k : Nat} (hk : zcid k = 8 := by rfl) : zlk k 30 = some (0, 2, 0, 308) := by unfold zlk; rw [hk]; rfl
theorem zl_8_31 {k : Nat} (hk : zcid k = 8 := by rfl) : zlk k 31 = some (3, 25, 3, 532) := by unfold zlk; rw [hk]; rfl
theorem zl_8_35 {k : Nat} (hk : zcid k = 8 := by rfl) : zlk k 35 = some (0, 2, 1, 309) := by unfold zlk; rw [hk]; rfl
theorem zl_8_38 {k : Nat} (hk : zcid k = 8 := by rfl) : zlk k 38 = some (0, 1, 6, 169) := by unfold zlk; rw [hk]; rfl
theorem zl_8_42 {k : Nat} (hk : zcid k = 8 := by rfl) : zlk k 42 = some (2, 30, 2, 533) := by unfold zlk; rw [hk]; rfl
theorem zl_8_48 {k : Nat} (hk : zcid k = 8 := by rfl) : zlk k 48 = some (0, 2, 2, 310) := by unfold zlk; rw [hk]; rfl
theorem zl_8_51 {k : Nat} (hk : zcid k = 8 := by rfl) : zlk k 51 = some (2, 24, 2, 575) := by unfold zlk; rw [hk]; rfl
theorem zl_8_54 {k : Nat} (hk : zcid k = 8 := by rfl) : zlk k 54 = some (2, 37, 2, 570) := by unfold zlk; rw [hk]; rfl
theorem zl_9_3 {k : Nat} (hk : zcid k = 9 := by rfl) : zlk k 3 = some (4, 0, 0, 327) := by unfold zlk; rw [hk]; rfl
theorem zl_9_9 {k : Nat} (hk : zcid k = 9 := by rfl) : zlk k 9 = some (6, 2, 0, 328) := by unfold zlk; rw [hk]; rfl
theorem zl_9_11 {k : Nat} (hk : zcid k = 9 := by rfl) : zlk k 11 = some (3, 8, 0, 329) := by unfold zlk; rw [hk]; rfl
theorem zl_9_12 {k : Nat} (hk : zcid k = 9 := by rfl) : zlk k 12 = some (0, 9, 0, 330) := by unfold zlk; rw [hk]; rfl
theorem zl_9_18 {k : Nat} (hk : zcid k = 9 := by rfl) : zlk k 18 = some (0, 9, 1, 331) := by unfold zlk; rw [hk]; rfl
theorem zl_9_22 {k : Nat} (hk : zcid k = 9 := by rfl) : zlk k 22 = some (0, 9, 2, 332) := by unfold zlk; rw [hk]; rfl
theorem zl_9_25 {k : Nat} (hk : zcid k = 9 := by rfl) : zlk k 25 = some (0, 1, 2, 152) := by unfold zlk; rw [hk]; rfl
theorem zl_9_31 {k : Nat} (hk : zcid k = 9 := by rfl) : zlk k 31 = some (0, 1, 4, 161) := by unfold zlk; rw [hk]; rfl
theorem zl_9_34 {k : Nat} (hk : zcid k = 9 := by rfl) : zlk k 34 = some (2, 29, 4, 528) := by unfold zlk; rw [hk]; rfl
theorem zl_9_38 {k : Nat} (hk : zcid k = 9 := by rfl) : zlk k 38 = some (2, 31, 0, 536) := by unfold zlk; rw [hk]; rfl
theorem zl_9_44 {k : Nat} (hk : zcid k = 9 := by rfl) : zlk k 44 = some (0, 9, 3, 333) := by unfold zlk; rw [hk]; rfl
theorem zl_9_47 {k : Nat} (hk : zcid k = 9 := by rfl) : zlk k 47 = some (2, 32, 0, 540) := by unfold zlk; rw [hk]; rfl
theorem zl_9_50 {k : Nat} (hk : zcid k = 9 := by rfl) : zlk k 50 = some (0, 9, 4, 334) := by unfold zlk; rw [hk]; rfl
theorem zl_9_53 {k : Nat} (hk : zcid k = 9 := by rfl) : zlk k 53 = some (2, 21, 2, 545) := by unfold zlk; rw [hk]; rfl
theorem zl_9_57 {k : Nat} (hk : zcid k = 9 := by rfl) : zlk k 57 = some (0, 9, 5, 335) := by unfold zlk; rw [hk]; rfl
theorem zl_9_60 {k : Nat} (hk : zcid k = 9 := by rfl) : zlk k 60 = some (0, 9, 6, 336) := by unfold zlk; rw [hk]; rfl
theorem zl_9_63 {k : Nat} (hk : zcid k = 9 := by rfl) : zlk k 63 = some (2, 35, 1, 554) := by unfold zlk; rw [hk]; rfl
theorem zl_9_67 {k : Nat} (hk : zcid k = 9 := by rfl) : zlk k 67 = some (2, 36, 1, 558) := by unfold zlk; rw [hk]; rfl
theorem zl_9_71 {k : Nat} (hk : zcid k = 9 := by rfl) : zlk k 71 = some (2, 34, 1, 601) := by unfold zlk; rw [hk]; rfl
theorem zl_9_74 {k : Nat} (hk : zcid k = 9 := by rfl) : zlk k 74 = some (2, 33, 1, 565) := by unfold zlk; rw [hk]; rfl
theorem zl_9_77 {k : Nat} (hk : zcid k = 9 := by rfl) : zlk k 77 = some (2, 43, 1, 589) := by unfold zlk; rw [hk]; rfl
theorem zl_9_80 {k : Nat} (hk : zcid k = 9 := by rfl) : zlk k 80 = some (2, 44, 3, 593) := by unfold zlk; rw [hk]; rfl
theorem zl_9_84 {k : Nat} (hk : zcid k = 9 := by rfl) : zlk k 84 = some (2, 37, 2, 561) := by unfold zlk; rw [hk]; rfl
theorem zl_9_90 {k : Nat} (hk : zcid k = 9 := by rfl) : zlk k 90 = some (2, 24, 2, 564) := by unfold zlk; rw [hk]; rfl
theorem zl_9_93 {k : Nat} (hk : zcid k = 9 := by rfl) : zlk k 93 = some (2, 38, 1, 566) := by unfold zlk; rw [hk]; rfl
theorem zl_9_96 {k : Nat} (hk : zcid k = 9 := by rfl) : zlk k 96 = some (2, 39, 1, 571) := by unfold zlk; rw [hk]; rfl
theorem zl_9_99 {k : Nat} (hk : zcid k = 9 := by rfl) : zlk k 99 = some (2, 40, 2, 576) := by unfold zlk; rw [hk]; rfl
theorem zl_9_102 {k : Nat} (hk : zcid k = 9 := by rfl) : zlk k 102 = some (0, 2, 3, 312) := by unfold zlk; rw [hk]; rfl
theorem zl_9_105 {k : Nat} (hk : zcid k = 9 := by rfl) : zlk k 105 = some (3, 14, 3, 580) := by unfold zlk; rw [hk]; rfl
theorem zl_9_109 {k : Nat} (hk : zcid k = 9 := by rfl) : zlk k 109 = some (2, 41, 2, 581) := by unfold zlk; rw [hk]; rfl
theorem zl_10_3 {k : Nat} (hk : zcid k = 10 := by rfl) : zlk k 3 = some (4, 0, 0, 357) := by unfold zlk; rw [hk]; rfl
theorem zl_10_9 {k : Nat} (hk : zcid k = 10 := by rfl) : zlk k 9 = some (0, 5, 0, 358) := by unfold zlk; rw [hk]; rfl
theorem zl_10_15 {k : Nat} (hk : zcid k = 10 := by rfl) : zlk k 15 = some (0, 5, 1, 360) := by unfold zlk; rw [hk]; rfl
theorem zl_10_18 {k : Nat} (hk : zcid k = 10 := by rfl) : zlk k 18 = some (0, 5, 2, 362) := by unfold zlk; rw [hk]; rfl
theorem zl_10_22 {k : Nat} (hk : zcid k = 10 := by rfl) : zlk k 22 = some (0, 5, 3, 364) := by unfold zlk; rw [hk]; rfl
theorem zl_10_25 {k : Nat} (hk : zcid k = 10 := by rfl) : zlk k 25 = some (0, 5, 4, 366) := by unfold zlk; rw [hk]; rfl
theorem zl_10_28 {k : Nat} (hk : zcid k = 10 := by rfl) : zlk k 28 = some (2, 99, 1, 901) := by unfold zlk; rw [hk]; rfl
theorem zl_10_34 {k : Nat} (hk : zcid k = 10 := by rfl) : zlk k 34 = some (2, 37, 2, 902) := by unfold zlk; rw [hk]; rfl
theorem zl_10_40 {k : Nat} (hk : zcid k = 10 := by rfl) : zlk k 40 = some (2, 101, 1, 903) := by unfold zlk; rw [hk]; rfl
theorem zl_10_43 {k : Nat} (hk : zcid k = 10 := by rfl) : zlk k 43 = some (2, 103, 1, 913) := by unfold zlk; rw [hk]; rfl
theorem zl_10_46 {k : Nat} (hk : zcid k = 10 := by rfl) : zlk k 46 = some (2, 102, 2, 907) := by unfold zlk; rw [hk]; rfl
theorem zl_10_49 {k : Nat} (hk : zcid k = 10 := by rfl) : zlk k 49 = some (2, 24, 2, 912) := by unfold zlk; rw [hk]; rfl
theorem zl_10_52 {k : Nat} (hk : zcid k = 10 := by rfl) : zlk k 52 = some (3, 14, 3, 911) := by unfold zlk; rw [hk]; rfl
theorem zl_11_3 {k : Nat} (hk : zcid k = 11 := by rfl) : zlk k 3 = some (4, 0, 0, 383) := by unfold zlk; rw [hk]; rfl
theorem zl_11_9 {k : Nat} (hk : zcid k = 11 := by rfl) : zlk k 9 = some (0, 0, 0, 384) := by unfold zlk; rw [hk]; rfl
theorem zl_11_15 {k : Nat} (hk : zcid k = 11 := by rfl) : zlk k 15 = some (0, 0, 1, 386) := by unfold zlk; rw [hk]; rfl
theorem zl_11_19 {k : Nat} (hk : zcid k = 11 := by rfl) : zlk k 19 = some (0, 1, 1, 146) := by unfold zlk; rw [hk]; rfl
theorem zl_11_24 {k : Nat} (hk : zcid k = 11 := by rfl) : zlk k 24 = some (0, 0, 2, 388) := by unfold zlk; rw [hk]; rfl
theorem zl_11_25 {k : Nat} (hk : zcid k = 11 := by rfl) : zlk k 25 = some (0, 1, 2, 153) := by unfold zlk; rw [hk]; rfl
theorem zl_11_28 {k : Nat} (hk : zcid k = 11 := by rfl) : zlk k 28 = some (0, 0, 3, 389) := by unfold zlk; rw [hk]; rfl
theorem zl_11_29 {k : Nat} (hk : zcid k = 11 := by rfl) : zlk k 29 = some (0, 1, 0, 143) := by unfold zlk; rw [hk]; rfl
theorem zl_11_32 {k : Nat} (hk : zcid k = 11 := by rfl) : zlk k 32 = some (0, 0, 4, 390) := by unfold zlk; rw [hk]; rfl
theorem zl_11_33 {k : Nat} (hk : zcid k = 11 := by rfl) : zlk k 33 = some (2, 130, 2, 1025) := by unfold zlk; rw [hk]; rfl
theorem zl_11_37 {k : Nat} (hk : zcid k = 11 := by rfl) : zlk k 37 = some (2, 132, 2, 1033) := by unfold zlk; rw [hk]; rfl
theorem zl_11_40 {k : Nat} (hk : zcid k = 11 := by rfl) : zlk k 40 = some (2, 133, 2, 1037) := by unfold zlk; rw [hk]; rfl
theorem zl_11_43 {k : Nat} (hk : zcid k = 11 := by rfl) : zlk k 43 = some (2, 131, 1, 1029) := by unfold zlk; rw [hk]; rfl
theorem zl_12_3 {k : Nat} (hk : zcid k = 12 := by rfl) : zlk k 3 = some (4, 0, 0, 408) := by unfold zlk; rw [hk]; rfl
theorem zl_12_9 {k : Nat} (hk : zcid k = 12 := by rfl) : zlk k 9 = some (0, 8, 0, 409) := by unfold zlk; rw [hk]; rfl
theorem zl_12_15 {k : Nat} (hk : zcid k = 12 := by rfl) : zlk k 15 = some (0, 8, 1, 411) := by unfold zlk; rw [hk]; rfl
theorem zl_12_19 {k : Nat} (hk : zcid k = 12 := by rfl) : zlk k 19 = some (0, 8, 2, 413) := by unfold zlk; rw [hk]; rfl
theorem zl_12_22 {k : Nat} (hk : zcid k = 12 := by rfl) : zlk k 22 = some (2, 140, 2, 1067) := by unfold zlk; rw [hk]; rfl
theorem zl_15_9 {k : Nat} (hk : zcid k = 15 := by rfl) : zlk k 9 = some (0, 13, 0, 1702) := by unfold zlk; rw [hk]; rfl
theorem zl_15_15 {k : Nat} (hk : zcid k = 15 := by rfl) : zlk k 15 = some (0, 13, 1, 1703) := by unfold zlk; rw [hk]; rfl
theorem zl_15_38 {k : Nat} (hk : zcid k = 15 := by rfl) : zlk k 38 = some (1, 1, 0, 705) := by unfold zlk; rw [hk]; rfl
theorem zl_15_335 {k : Nat} (hk : zcid k = 15 := by rfl) : zlk k 335 = some (2, 68, 0, 701) := by unfold zlk; rw [hk]; rfl
theorem zl_15_492 {k : Nat} (hk : zcid k = 15 := by rfl) : zlk k 492 = some (2, 70, 0, 711) := by unfold zlk; rw [hk]; rfl
theorem zl_15_495 {k : Nat} (hk : zcid k = 15 := by rfl) : zlk k 495 = some (2, 71, 2, 715) := by unfold zlk; rw [hk]; rfl
theorem zl_15_505 {k : Nat} (hk : zcid k = 15 := by rfl) : zlk k 505 = some (2, 67, 0, 788) := by unfold zlk; rw [hk]; rfl
theorem zl_15_633 {k : Nat} (hk : zcid k = 15 := by rfl) : zlk k 633 = some (2, 83, 2, 784) := by unfold zlk; rw [hk]; rfl
theorem zl_15_637 {k : Nat} (hk : zcid k = 15 := by rfl) : zlk k 637 = some (2, 84, 4, 789) := by unfold zlk; rw [hk]; rfl
theorem zl_15_1053 {k : Nat} (hk : zcid k = 15 := by rfl) : zlk k 1053 = some (1, 2, 0, 721) := by unfold zlk; rw [hk]; rfl
theorem zl_15_1059 {k : Nat} (hk : zcid k = 15 := by rfl) : zlk k 1059 = some (2, 73, 3, 723) := by unfold zlk; rw [hk]; rfl
theorem zl_16_9 {k : Nat} (hk : zcid k = 16 := by rfl) : zlk k 9 = some (2, 72, 2, 718) := by unfold zlk; rw [hk]; rfl
theorem zl_16_38 {k : Nat} (hk : zcid k = 16 := by rfl) : zlk k 38 = some (2, 37, 2, 796) := by unfold zlk; rw [hk]; rfl
theorem zl_16_88 {k : Nat} (hk : zcid k = 16 := by rfl) : zlk k 88 = some (2, 85, 1, 792) := by unfold zlk; rw [hk]; rfl
theorem zl_16_92 {k : Nat} (hk : zcid k = 16 := by rfl) : zlk k 92 = some (2, 24, 2, 795) := by unfold zlk; rw [hk]; rfl
theorem zl_16_95 {k : Nat} (hk : zcid k = 16 := by rfl) : zlk k 95 = some (2, 86, 4, 797) := by unfold zlk; rw [hk]; rfl
theorem zl_19_1 {k : Nat} (hk : zcid k = 19 := by rfl) : zlk k 1 = some (4, 0, 0, 1092) := by unfold zlk; rw [hk]; rfl
theorem zl_19_7 {k : Nat} (hk : zcid k = 19 := by rfl) : zlk k 7 = some (0, 12, 0, 1093) := by unfold zlk; rw [hk]; rfl
theorem zl_19_13 {k : Nat} (hk : zcid k = 19 := by rfl) : zlk k 13 = some (0, 12, 1, 1094) := by unfold zlk; rw [hk]; rfl
theorem zl_19_16 {k : Nat} (hk : zcid k = 19 := by rfl) : zlk k 16 = some (0, 12, 2, 1095) := by unfold zlk; rw [hk]; rfl
theorem zl_19_19 {k : Nat} (hk : zcid k = 19 := by rfl) : zlk k 19 = some (0, 12, 3, 1096) := by unfold zlk; rw [hk]; rfl
theorem zl_19_23 {k : Nat} (hk : zcid k = 19 := by rfl) : zlk k 23 = some (0, 12, 4, 1097) := by unfold zlk; rw [hk]; rfl
theorem zl_19_26 {k : Nat} (hk : zcid k = 19 := by rfl) : zlk k 26 = some (0, 12, 5, 1098) := by unfold zlk; rw [hk]; rfl
theorem zl_19_29 {k : Nat} (hk : zcid k = 19 := by rfl) : zlk k 29 = some (0, 12, 6, 1099) := by unfold zlk; rw [hk]; rfl
theorem zl_19_32 {k : Nat} (hk : zcid k = 19 := by rfl) : zlk k 32 = some (0, 12, 7, 1100) := by unfold zlk; rw [hk]; rfl
theorem zl_19_35 {k : Nat} (hk : zcid k = 19 := by rfl) : zlk k 35 = some (0, 12, 8, 1101) := by unfold zlk; rw [hk]; rfl
theorem zl_19_38 {k : Nat} (hk : zcid k = 19 := by rfl) : zlk k 38 = some (0, 12, 9, 1102) := by unfold zlk; rw [hk]; rfl
theorem zl_19_41 {k : Nat} (hk : zcid k = 19 := by rfl) : zlk k 41 = some (0, 12, 10, 1103) := by unfold zlk; rw [hk]; rfl
theorem zl_19_44 {k : Nat} (hk : zcid k = 19 := by rfl) : zlk k 44 = some (0, 12, 11, 1104) := by unfold zlk; rw [hk]; rfl
theorem zl_19_47 {k : Nat} (hk : zcid k = 19 := by rfl) : zlk k 47 = some (0, 12, 12, 1105) := by unfold zlk; rw [hk]; rfl
theorem zl_19_50 {k : Nat} (hk : zcid k = 19 := by rfl) : zlk k 50 = some (0, 12, 13, 1106) := by unfold zlk; rw [hk]; rfl
theorem zl_19_53 {k : Nat} (hk : zcid k = 19 := by rfl) : zlk k 53 = some (0, 12, 14, 1107) := by unfold zlk; rw [hk]; rfl
theorem zl_19_56 {k : Nat} (hk : zcid k = 19 := by rfl) : zlk k 56 = some (0, 12, 15, 1108) := by unfold zlk; rw [hk]; rfl
theorem zl_19_59 {k : Nat} (hk : zcid k = 19 := by rfl) : zlk k 59 = some (0, 12, 16, 1109) := by unfold zlk; rw [hk]; rfl
theorem zl_19_62 {k : Nat} (hk : zcid k = 19 := by rfl) : zlk k 62 = some (0, 12, 17, 1110) := by unfold zlk; rw [hk]; rfl
theorem zl_19_65 {k : Nat} (hk : zcid k = 19 := by rfl) : zlk k 65 = some (0, 12, 18, 1111) := by unfold zlk; rw [hk]; rfl
theorem zl_19_68 {k : Nat} (hk : zcid k = 19 := by rfl) : zlk k 68 = some (0, 12, 19, 1112) := by unfold zlk; rw [hk]; rfl
theorem zl_19_71 {k : Nat} (hk : zcid k = 19 := by rfl) : zlk k 71 = some (0, 12, 20, 1113) := by unfold zlk; rw [hk]; rfl
theorem zl_19_74 {k : Nat} (hk : zcid k = 19 := by rfl) : zlk k 74 = some (0, 12, 21, 1114) := by unfold zlk; rw [hk]; rfl
theorem zl_19_77 {k : Nat} (hk : zcid k = 19 := by rfl) : zlk k 77 = some (0, 12, 22, 1115) := by unfold zlk; rw [hk]; rfl
theorem zl_19_80 {k : Nat} (hk : zcid k = 19 := by rfl) : zlk k 80 = some (0, 12, 23, 1116) := by unfold zlk; rw [hk]; rfl
theorem zl_19_83 {k : Nat} (hk : zcid k = 19 := by rfl) : zlk k 83 = some (0, 12, 24, 1117) := by unfold zlk; rw [hk]; rfl
theorem zl_19_86 {k : Nat} (hk : zcid k = 19 := by rfl) : zlk k 86 = some (0, 12, 25, 1118) := by unfold zlk; rw [hk]; rfl
theorem zl_19_89 {k : Nat} (hk : zcid k = 19 := by rfl) : zlk k 89 = some (0, 12, 26, 1119) := by unfold zlk; rw [hk]; rfl
theorem zl_19_93 {k : Nat} (hk : zcid k = 19 := by rfl) : zlk k 93 = some (0, 12, 27, 1120) := by unfold zlk; rw [hk]; rfl
theorem zl_19_96 {k : Nat} (hk : zcid k = 19 := by rfl) : zlk k 96 = some (0, 12, 28, 1121) := by unfold zlk; rw [hk]; rfl
theorem zl_19_99 {k : Nat} (hk : zcid k = 19 := by rfl) : zlk k 99 = some (0, 12, 29, 1122) := by unfold zlk; rw [hk]; rfl
theorem zl_19_102 {k : Nat} (hk : zcid k = 19 := by rfl) : zlk k 102 = some (0, 12, 30, 1123) := by unfold zlk; rw [hk]; rfl
theorem zl_19_105 {k : Nat} (hk : zcid k = 19 := by rfl) : zlk k 105 = some (0, 12, 31, 1124) := by unfold zlk; rw [hk]; rfl
theorem zl_19_108 {k : Nat} (hk : zcid k = 19 := by rfl) : zlk k 108 = some (0, 12, 32, 1125) := by unfold zlk; rw [hk]; rfl
theorem zl_19_111 {k : Nat} (hk : zcid k = 19 := by rfl) : zlk k 111 = some (0, 12, 33, 1126) := by unfold zlk; rw [hk]; rfl
theorem zl_19_114 {k : Nat} (hk : zcid k = 19 := by rfl) : zlk k 114 = some (0, 12, 34, 1127) := by unfold zlk; rw [hk]; rfl
theorem zl_19_117 {k : Nat} (hk : zcid k = 19 := by rfl) : zlk k 117 = some (0, 12, 35, 1128) := by unfold zlk; rw [hk]; rfl
theorem zl_19_120 {k : Nat} (hk : zcid k = 19 := by rfl) : zlk k 120 = some (0, 12, 36, 1129) := by unfold zlk; rw [hk]; rfl
theorem zl_19_123 {k : Nat} (hk : zcid k = 19 := by rfl) : zlk k 123 = some (0, 12, 37, 1130) := by unfold zlk; rw [hk]; rfl
theorem zl_19_126 {k : Nat} (hk : zcid k = 19 := by rfl) : zlk k 126 = some (0, 12, 38, 1131) := by unfold zlk; rw [hk]; rfl
theorem zl_19_129 {k : Nat} (hk : zcid k = 19 := by rfl) : zlk k 129 = some (0, 12, 39, 1132) := by unfold zlk; rw [hk]; rfl
theorem zl_19_132 {k : Nat} (hk : zcid k = 19 := by rfl) : zlk k 132 = some (0, 12, 40, 1133) := by unfold zlk; rw [hk]; rfl
theorem zl_19_135 {k : Nat} (hk : zcid k = 19 := by rfl) : zlk k 135 = some (0, 12, 41, 1134) := by unfold zlk; rw [hk]; rfl
theorem zl_19_138 {k : Nat} (hk : zcid k = 19 := by rfl) : zlk k 138 = some (0, 12, 42, 1135) := by unfold zlk; rw [hk]; rfl
theorem zl_19_141 {k : Nat} (hk : zcid k = 19 := by rfl) : zlk k 141 = some (0, 12, 43, 1136) := by unfold zlk; rw [hk]; rfl
theorem zl_19_144 {k : Nat} (hk : zcid k = 19 := by rfl) : zlk k 144 = some (0, 12, 44, 1137) := by unfold zlk; rw [hk]; rfl
theorem zl_19_147 {k : Nat} (hk : zcid k = 19 := by rfl) : zlk k 147 = some (0, 12, 45, 1138) := by unfold zlk; rw [hk]; rfl
theorem zl_19_150 {k : Nat} (hk : zcid k = 19 := by rfl) : zlk k 150 = some (0, 12, 46, 1139) := by unfold zlk; rw [hk]; rfl
theorem zl_19_153 {k : Nat} (hk : zcid k = 19 := by rfl) : zlk k 153 = some (0, 12, 47, 1140) := by unfold zlk; rw [hk]; rfl
theorem zl_19_156 {k : Nat} (hk : zcid k = 19 := by rfl) : zlk k 156 = some (0, 12, 48, 1141) := by unfold zlk; rw [hk]; rfl
theorem zl_19_160 {k : Nat} (hk : zcid k = 19 := by rfl) : zlk k 160 = some (0, 12, 49, 1142) := by unfold zlk; rw [hk]; rfl
theorem zl_19_163 {k : Nat} (hk : zcid k = 19 := by rfl) : zlk k 163 = some (0, 12, 50, 1143) := by unfold zlk; rw [hk]; rfl
theorem zl_19_166 {k : Nat} (hk : zcid k = 19 := by rfl) : zlk k 166 = some (0, 12, 51, 1144) := by unfold zlk; rw [hk]; rfl
theorem zl_19_169 {k : Nat} (hk : zcid k = 19 := by rfl) : zlk k 169 = some (0, 12, 52, 1145) := by unfold zlk; rw [hk]; rfl
theorem zl_19_172 {k : Nat} (hk : zcid k = 19 := by rfl) : zlk k 172 = some (0, 12, 53, 1146) := by unfold zlk; rw [hk]; rfl
theorem zl_19_175 {k : Nat} (hk : zcid k = 19 := by rfl) : zlk k 175 = some (0, 12, 54, 1147) := by unfold zlk; rw [hk]; rfl
theorem zl_19_178 {k : Nat} (hk : zcid k = 19 := by rfl) : zlk k 178 = some (0, 12, 55, 1148) := by unfold zlk; rw [hk]; rfl
theorem zl_19_181 {k : Nat} (hk : zcid k = 19 := by rfl) : zlk k 181 = some (0, 12, 56, 1149) := by unfold zlk; rw [hk]; rfl
theorem zl_19_184 {k : Nat} (hk : zcid k = 19 := by rfl) : zlk k 184 = some (0, 12, 57, 1150) := by unfold zlk; rw [hk]; rfl
theorem zl_19_187 {k : Nat} (hk : zcid k = 19 := by rfl) : zlk k 187 = some (0, 12, 58, 1151) := by unfold zlk; rw [hk]; rfl
theorem zl_19_190 {k : Nat} (hk : zcid k = 19 := by rfl) : zlk k 190 = some (0, 12, 59, 1152) := by unfold zlk; rw [hk]; rfl
theorem zl_19_193 {k : Nat} (hk : zcid k = 19 := by rfl) : zlk k 193 = some (0, 12, 60, 1153) := by unfold zlk; rw [hk]; rfl
theorem zl_19_196 {k : Nat} (hk : zcid k = 19 := by rfl) : zlk k 196 = some (0, 12, 61, 1154) := by unfold zlk; rw [hk]; rfl
theorem zl_19_199 {k : Nat} (hk : zcid k = 19 := by rfl) : zlk k 199 = some (0, 12, 62, 1155) := by unfold zlk; rw [hk]; rfl
theorem zl_19_202 {k : Nat} (hk : zcid k = 19 := by rfl) : zlk k 202 = some (0, 12, 63, 1156) := by unfold zlk; rw [hk]; rfl
theorem zl_19_205 {k : Nat} (hk : zcid k = 19 := by rfl) : zlk k 205 = some (0, 12, 64, 1157) := by unfold zlk; rw [hk]; rfl
theorem zl_19_208 {k : Nat} (hk : zcid k = 19 := by rfl) : zlk k 208 = some (0, 12, 65, 1158) := by unfold zlk; rw [hk]; rfl
theorem zl_19_211 {k : Nat} (hk : zcid k = 19 := by rfl) : zlk k 211 = some (0, 12, 66, 1159) := by unfold zlk; rw [hk]; rfl
theorem zl_19_214 {k : Nat} (hk : zcid k = 19 := by rfl) : zlk k 214 = some (0, 12, 67, 1160) := by unfold zlk; rw [hk]; rfl
theorem zl_19_217 {k : Nat} (hk : zcid k = 19 := by rfl) : zlk k 217 = some (0, 12, 68, 1161) := by unfold zlk; rw [hk]; rfl
theorem zl_19_220 {k : Nat} (hk : zcid k = 19 := by rfl) : zlk k 220 = some (0, 12, 69, 1162) := by unfold zlk; rw [hk]; rfl
theorem zl_19_223 {k : Nat} (hk : zcid k = 19 := by rfl) : zlk k 223 = some (0, 12, 70, 1163) := by unfold zlk; rw [hk]; rfl
theorem zl_19_226 {k : Nat} (hk : zcid k = 19 := by rfl) : zlk k 226 = some (0, 12, 71, 1164) := by unfold zlk; rw [hk]; rfl
theorem zl_19_229 {k : Nat} (hk : zcid k = 19 := by rfl) : zlk k 229 = some (0, 12, 72, 1165) := by unfold zlk; rw [hk]; rfl
theorem zl_19_232 {k : Nat} (hk : zcid k = 19 := by rfl) : zlk k 232 = some (0, 12, 73, 1166) := by unfold zlk; rw [hk]; rfl
theorem zl_19_236 {k : Nat} (hk : zcid k = 19 := by rfl) : zlk k 236 = some (0, 12, 74, 1167) := by unfold zlk; rw [hk]; rfl
theorem zl_19_239 {k : Nat} (hk : zcid k = 19 := by rfl) : zlk k 239 = some (2, 147, 3, 1324) := by unfold zlk; rw [hk]; rfl
theorem zl_19_243 {k : Nat} (hk : zcid k = 19 := by rfl) : zlk k 243 = some (2, 149, 1, 1332) := by unfold zlk; rw [hk]; rfl
theorem zl_19_247 {k : Nat} (hk : zcid k = 19 := by rfl) : zlk k 247 = some (2, 156, 0, 1360) := by unfold zlk; rw [hk]; rfl
theorem zl_19_251 {k : Nat} (hk : zcid k = 19 := by rfl) : zlk k 251 = some (2, 158, 1, 1368) := by unfold zlk; rw [hk]; rfl
theorem zl_19_254 {k : Nat} (hk : zcid k = 19 := by rfl) : zlk k 254 = some (2, 160, 0, 1376) := by unfold zlk; rw [hk]; rfl
theorem zl_19_258 {k : Nat} (hk : zcid k = 19 := by rfl) : zlk k 258 = some (2, 164, 1, 1392) := by unfold zlk; rw [hk]; rfl
theorem zl_19_262 {k : Nat} (hk : zcid k = 19 := by rfl) : zlk k 262 = some (2, 163, 1, 1388) := by unfold zlk; rw [hk]; rfl
theorem zl_19_266 {k : Nat} (hk : zcid k = 19 := by rfl) : zlk k 266 = some (2, 159, 0, 1372) := by unfold zlk; rw [hk]; rfl
theorem zl_19_269 {k : Nat} (hk : zcid k = 19 := by rfl) : zlk k 269 = some (2, 165, 0, 1396) := by unfold zlk; rw [hk]; rfl
theorem zl_19_272 {k : Nat} (hk : zcid k = 19 := by rfl) : zlk k 272 = some (2, 162, 0, 1384) := by unfold zlk; rw [hk]; rfl
theorem zl_19_275 {k : Nat} (hk : zcid k = 19 := by rfl) : zlk k 275 = some (2, 166, 1, 1400) := by unfold zlk; rw [hk]; rfl
theorem zl_19_278 {k : Nat} (hk : zcid k = 19 := by rfl) : zlk k 278 = some (2, 157, 2, 1364) := by unfold zlk; rw [hk]; rfl
theorem zl_19_282 {k : Nat} (hk : zcid k = 19 := by rfl) : zlk k 282 = some (2, 155, 1, 1356) := by unfold zlk; rw [hk]; rfl
theorem zl_19_285 {k : Nat} (hk : zcid k = 19 := by rfl) : zlk k 285 = some (2, 161, 1, 1380) := by unfold zlk; rw [hk]; rfl
theorem zl_19_288 {k : Nat} (hk : zcid k = 19 := by rfl) : zlk k 288 = some (2, 154, 1, 1352) := by unfold zlk; rw [hk]; rfl
theorem zl_19_291 {k : Nat} (hk : zcid k = 19 := by rfl) : zlk k 291 = some (2, 153, 1, 1348) := by unfold zlk; rw [hk]; rfl
theorem zl_19_294 {k : Nat} (hk : zcid k = 19 := by rfl) : zlk k 294 = some (2, 169, 0, 1412) := by unfold zlk; rw [hk]; rfl
theorem zl_19_297 {k : Nat} (hk : zcid k = 19 := by rfl) : zlk k 297 = some (2, 170, 0, 1416) := by unfold zlk; rw [hk]; rfl
theorem zl_19_300 {k : Nat} (hk : zcid k = 19 := by rfl) : zlk k 300 = some (2, 176, 2, 1440) := by unfold zlk; rw [hk]; rfl
theorem zl_19_304 {k : Nat} (hk : zcid k = 19 := by rfl) : zlk k 304 = some (2, 179, 2, 1452) := by unfold zlk; rw [hk]; rfl
theorem zl_19_307 {k : Nat} (hk : zcid k = 19 := by rfl) : zlk k 307 = some (2, 178, 0, 1448) := by unfold zlk; rw [hk]; rfl
theorem zl_19_310 {k : Nat} (hk : zcid k = 19 := by rfl) : zlk k 310 = some (2, 172, 2, 1424) := by unfold zlk; rw [hk]; rfl
theorem zl_19_313 {k : Nat} (hk : zcid k = 19 := by rfl) : zlk k 313 = some (2, 171, 2, 1420) := by unfold zlk; rw [hk]; rfl
theorem zl_19_316 {k : Nat} (hk : zcid k = 19 := by rfl) : zlk k 316 = some (2, 173, 1, 1428) := by unfold zlk; rw [hk]; rfl
theorem zl_19_319 {k : Nat} (hk : zcid k = 19 := by rfl) : zlk k 319 = some (2, 174, 1, 1432) := by unfold zlk; rw [hk]; rfl
theorem zl_19_322 {k : Nat} (hk : zcid k = 19 := by rfl) : zlk k 322 = some (2, 184, 3, 1472) := by unfold zlk; rw [hk]; rfl
theorem zl_19_325 {k : Nat} (hk : zcid k = 19 := by rfl) : zlk k 325 = some (2, 180, 0, 1456) := by unfold zlk; rw [hk]; rfl
theorem zl_19_328 {k : Nat} (hk : zcid k = 19 := by rfl) : zlk k 328 = some (2, 168, 1, 1408) := by unfold zlk; rw [hk]; rfl
theorem zl_19_331 {k : Nat} (hk : zcid k = 19 := by rfl) : zlk k 331 = some (2, 183, 3, 1468) := by unfold zlk; rw [hk]; rfl
theorem zl_19_334 {k : Nat} (hk : zcid k = 19 := by rfl) : zlk k 334 = some (2, 185, 3, 1476) := by unfold zlk; rw [hk]; rfl
theorem zl_19_338 {k : Nat} (hk : zcid k = 19 := by rfl) : zlk k 338 = some (2, 182, 1, 1464) := by unfold zlk; rw [hk]; rfl
theorem zl_19_341 {k : Nat} (hk : zcid k = 19 := by rfl) : zlk k 341 = some (2, 175, 1, 1436) := by unfold zlk; rw [hk]; rfl
theorem zl_19_344 {k : Nat} (hk : zcid k = 19 := by rfl) : zlk k 344 = some (2, 177, 2, 1444) := by unfold zlk; rw [hk]; rfl
theorem zl_19_347 {k : Nat} (hk : zcid k = 19 := by rfl) : zlk k 347 = some (2, 181, 2, 1460) := by unfold zlk; rw [hk]; rfl
theorem zl_19_350 {k : Nat} (hk : zcid k = 19 := by rfl) : zlk k 350 = some (2, 186, 1, 1480) := by unfold zlk; rw [hk]; rfl
theorem zl_19_353 {k : Nat} (hk : zcid k = 19 := by rfl) : zlk k 353 = some (2, 189, 1, 1492) := by unfold zlk; rw [hk]; rfl
theorem zl_19_356 {k : Nat} (hk : zcid k = 19 := by rfl) : zlk k 356 = some (2, 188, 0, 1488) := by unfold zlk; rw [hk]; rfl
theorem zl_19_360 {k : Nat} (hk : zcid k = 19 := by rfl) : zlk k 360 = some (2, 196, 0, 1521) := by unfold zlk; rw [hk]; rfl
theorem zl_19_363 {k : Nat} (hk : zcid k = 19 := by rfl) : zlk k 363 = some (2, 194, 1, 1513) := by unfold zlk; rw [hk]; rfl
theorem zl_19_366 {k : Nat} (hk : zcid k = 19 := by rfl) : zlk k 366 = some (2, 195, 1, 1517) := by unfold zlk; rw [hk]; rfl
theorem zl_19_369 {k : Nat} (hk : zcid k = 19 := by rfl) : zlk k 369 = some (2, 198, 0, 1529) := by unfold zlk; rw [hk]; rfl
theorem zl_19_372 {k : Nat} (hk : zcid k = 19 := by rfl) : zlk k 372 = some (2, 199, 0, 1533) := by unfold zlk; rw [hk]; rfl
theorem zl_19_376 {k : Nat} (hk : zcid k = 19 := by rfl) : zlk k 376 = some (2, 204, 2, 1554) := by unfold zlk; rw [hk]; rfl
theorem zl_19_379 {k : Nat} (hk : zcid k = 19 := by rfl) : zlk k 379 = some (2, 202, 0, 1546) := by unfold zlk; rw [hk]; rfl
theorem zl_19_382 {k : Nat} (hk : zcid k = 19 := by rfl) : zlk k 382 = some (2, 203, 1, 1550) := by unfold zlk; rw [hk]; rfl
theorem zl_19_385 {k : Nat} (hk : zcid k = 19 := by rfl) : zlk k 385 = some (2, 197, 2, 1562) := by unfold zlk; rw [hk]; rfl
theorem zl_19_388 {k : Nat} (hk : zcid k = 19 := by rfl) : zlk k 388 = some (2, 205, 1, 1567) := by unfold zlk; rw [hk]; rfl
theorem zl_19_391 {k : Nat} (hk : zcid k = 19 := by rfl) : zlk k 391 = some (2, 209, 1, 1576) := by unfold zlk; rw [hk]; rfl
theorem zl_19_394 {k : Nat} (hk : zcid k = 19 := by rfl) : zlk k 394 = some (2, 213, 2, 1593) := by unfold zlk; rw [hk]; rfl
theorem zl_19_399 {k : Nat} (hk : zcid k = 19 := by rfl) : zlk k 399 = some (2, 212, 3, 1589) := by unfold zlk; rw [hk]; rfl
theorem zl_19_403 {k : Nat} (hk : zcid k = 19 := by rfl) : zlk k 403 = some (2, 220, 1, 1621) := by unfold zlk; rw [hk]; rfl
theorem zl_19_406 {k : Nat} (hk : zcid k = 19 := by rfl) : zlk k 406 = some (2, 225, 1, 1641) := by unfold zlk; rw [hk]; rfl
theorem zl_19_409 {k : Nat} (hk : zcid k = 19 := by rfl) : zlk k 409 = some (2, 226, 2, 1645) := by unfold zlk; rw [hk]; rfl
theorem zl_19_412 {k : Nat} (hk : zcid k = 19 := by rfl) : zlk k 412 = some (2, 224, 2, 1637) := by unfold zlk; rw [hk]; rfl
theorem zl_19_415 {k : Nat} (hk : zcid k = 19 := by rfl) : zlk k 415 = some (2, 229, 2, 1657) := by unfold zlk; rw [hk]; rfl
theorem zl_19_418 {k : Nat} (hk : zcid k = 19 := by rfl) : zlk k 418 = some (2, 228, 2, 1653) := by unfold zlk; rw [hk]; rfl
theorem zl_19_421 {k : Nat} (hk : zcid k = 19 := by rfl) : zlk k 421 = some (2, 227, 2, 1649) := by unfold zlk; rw [hk]; rfl
theorem zl_19_424 {k : Nat} (hk : zcid k = 19 := by rfl) : zlk k 424 = some (2, 231, 2, 1665) := by unfold zlk; rw [hk]; rfl
theorem zl_19_427 {k : Nat} (hk : zcid k = 19 := by rfl) : zlk k 427 = some (2, 230, 2, 1661) := by unfold zlk; rw [hk]; rfl
theorem zl_19_430 {k : Nat} (hk : zcid k = 19 := by rfl) : zlk k 430 = some (2, 237, 2, 1689) := by unfold zlk; rw [hk]; rfl
