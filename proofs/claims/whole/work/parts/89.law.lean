/-! THE LAW: what holds between calls -/
theorem wt (x : Int32) : -2147483648 ≤ x.toInt ∧ x.toInt < 2147483648 := ⟨Int32.le_toInt x, Int32.toInt_lt x⟩
def LI (M : ZMem) (s : ZSt) (l : Nat → Int64) : Prop := Ly M ∧ RC M s l ∧ RM M s ∧ RML M l ∧ IX s
theorem zCt_u : (zCt.all fun e => e.1 == 148 || decide (e.1 < 133)) = true := by decide +kernel
theorem zCt_l : (zCt.all fun e => e.1 != 148 || (decide (e.2.1 < 22) && decide (e.2.2 = ii (ltr.getD e.2.1 0)))) = true := by decide +kernel
/-- the reference's run leaves the class's side -/
theorem RC_dn {M M' : ZMem} {s : ZSt} {l : Nat → Int64} (h : RC M s l) (hi : s 133 0 ≤ 6 ∧ s 133 50 ≤ 6 ∧ s 133 9 ≤ 6) (d : Dp M M') (m : RM M' s) (hT : ∀ k : Nat, k < 22 → s 148 k = ltr.getD k 0) : RC M' s l := by
  obtain ⟨⟨h1, h2, h3⟩, ⟨h4, h5, h6⟩, h7, h8, h9, h10, h11⟩ := h
  have e : ∀ p, p < 133 → ∀ j, zI M' p j = zI M p j := fun p hp => (d p hp).1
  refine ⟨⟨RCy_fr h1 (e 22 (by omega)), RCb_fr h2 hi.1 (fun p a b => e p (by omega)), fun x hx => ?_⟩, ⟨RCs_fr h4 (e 36 (by omega)) (e 37 (by omega)) (e 38 (by omega)) (e 39 (by omega)), RCw_fr h5 (e 40 (by omega)) (e 41 (by omega)) (e 42 (by omega)) (e 43 (by omega)), RCk_fr h6 (e 44 (by omega)) (e 45 (by omega)) (e 46 (by omega)) (e 47 (by omega))⟩, RCt_fr h7 (fun j _ => e 20 (by omega) j) (e 89 (by omega)), RCi_fr h8 hi.2.1 (e 20 (by omega) 2) (fun p a b => e p (by omega)), RCa_fr h9 (e 106 (by omega)) (e 107 (by omega)), RCh_fr h10 hi.2.2 (fun p a b => e p (by omega)), RCp_fr h11 (fun p a b => ⟨e p (by omega), (d p (by omega)).2.1⟩)⟩
  by_cases q : x.1 = 148
  · have := List.all_eq_true.mp zCt_l x hx
    rw [Bool.or_eq_true, Bool.and_eq_true, decide_eq_true_eq, decide_eq_true_eq] at this
    rcases this with t | t
    · rw [bne_iff_ne] at t; exact absurd q t
    · rw [q, m 148 _ rfl, hT _ t.1, t.2]
  · have lt : x.1 < 133 := by
      have := List.all_eq_true.mp zCt_u x hx
      rw [Bool.or_eq_true, beq_iff_eq, decide_eq_true_eq] at this
      omega
    rw [e x.1 lt]
    exact h3 x hx
theorem LI_fin2 {M1 M2 : ZMem} {s1 : ZSt} {l1 : Nat → Int64} (r : RC M1 s1 l1) (hL : Ly M2) (d : Dp M1 M2) (m : RM M2 s1) (ml : RML M2 l1) (x : IX s1) : LI M2 s1 l1 := by
  have hn := x.1.1.1.1
  have h50 := x.1.1.1.2
  unfold SIn at hn
  exact ⟨hL, RC_dn r ⟨by omega, h50, by omega⟩ d m x.2.2.2, m, ml, x⟩
theorem LI_fin {M M1 M2 : ZMem} {s s1 : ZSt} {l : Nat → Int64} (h : LI M s l) (u : Up M M1) (r : RC M1 s1 l) (m : MS M1 M2 s1) (x : IX s1) : LI M2 s1 l := by
  refine LI_fin2 r m.1 (fun p hp => m.2.1.1 p hp) m.2.2 (fun j hj => ?_) x
  rw [m.2.1.2 j, (u 182 (by omega)).2 j]
  exact h.2.2.2.1 j hj
theorem LI.cs {M : ZMem} {s : ZSt} {l : Nat → Int64} (h : LI M s l) : CS M M s l := ⟨h.1, Up.rf M, h.2.1⟩
theorem LI.ms {M M1 : ZMem} {s s1 : ZSt} {l l1 : Nat → Int64} (h : LI M s l) (c : CS M M1 s1 l1) : MS M1 M1 s := ⟨c.1, Dn.rf M1, c.2.1.rm h.2.2.1⟩
theorem LI.ml {M M1 : ZMem} {s s1 : ZSt} {l l1 : Nat → Int64} (h : LI M s l) (c : CS M M1 s1 l1) : RML M1 l := fun j hj => ((c.2.1 182 (by omega)).2 j).trans (h.2.2.2.1 j hj)
/-- the script -/
def lwL (i : Nat) : List (Nat × Value) := [(0, .ref 0), (1, .ref 20), (2, .ref 133), (3, .int (ii (i : Int)))]
def zsc (N : Nat) (xs : Nat → Int32) : Option (Nat × (Nat → Int32)) := some (N, xs)
section ZLW
variable {N : Nat} {xs : Nat → Int32} {d i pc p' : Nat} {st : List Value} {L : List (Nat × Value)} {M : ZMem} {o : Option Value × ZMem}
theorem zo_scr {k : Nat} {j : Nat} (hi : zi k pc = some .iaload) (hp : pc + 1 = p') (hN : N ≤ 3072) (hj : j < N) (h : zgo (zsc N xs) d k p' L (.int (xs j) :: st) M o) : zgo (zsc N xs) d k pc L (.int (ii (j : Int)) :: .ref 0 :: st) M o := by
  subst hp
  have e : (ii (j : Int)).toNatClampNeg = j := by
    show (ii (j : Int)).toInt.toNat = j
    rw [ii_toInt (by omega), Int.toNat_natCast]
  refine zgo_p hi (fun l => ?_) h
  show (if ii (j : Int) < 0 ∨ N ≤ (ii (j : Int)).toNatClampNeg then none else some (((pc + 1, l, Value.int (xs (ii (j : Int)).toNatClampNeg) :: st), M) : ZFr × ZMem)) = _
  rw [e, if_neg]
  rintro (q | q)
  · rw [show (0 : Int32) = ii 0 from rfl, ii_lt (by omega) (by omega)] at q
    omega
  · omega
theorem zo_arg {m : Nat} (h1 : zi 0 pc = some (.aload_n 0)) (h2 : zi 0 (pc + 1) = some (.iload_n 3)) (h3 : zi 0 (pc + 2) = some (.iconst (m : Int))) (h4 : zi 0 (pc + 3) = some .iadd) (h5 : zi 0 (pc + 4) = some .iaload) (hp : pc + 5 = p') (hN : N ≤ 3072) (hm : i + m < N) (h : zgo (zsc N xs) d 0 p' (lwL i) (.int (xs (i + m)) :: st) M o) : zgo (zsc N xs) d 0 pc (lwL i) st M o := by
  subst hp
  refine zo_aload_n (r := some 0) h1 rfl rfl ?_
  refine zo_iload_n h2 rfl rfl ?_
  refine zo_iconst h3 rfl rfl ?_
  refine zo_iadd h4 rfl ?_
  rw [show ii (i : Int) + Int32.ofInt (m : Int) = ii ((i + m : Nat) : Int) from (ii_add _ _).trans rfl]
  exact zo_scr h5 rfl hN hm h
/-- a number as a truth -/
def nzb (x : Int32) : Int32 := if x = 0 then 0 else 1
theorem zo_bool {x : Int32} (h1 : zi 0 pc = some (.ifCond .eq 7)) (j1 : zjmp pc 7 = some (pc + 7)) (h2 : zi 0 (pc + 3) = some (.iconst 1)) (h3 : zi 0 (pc + 4) = some (.goto 4)) (j3 : zjmp (pc + 4) 4 = some (pc + 8)) (h4 : zi 0 (pc + 7) = some (.iconst 0)) (hp : pc + 8 = p') (h : zgo (zsc N xs) d 0 p' L (.int (nzb x) :: st) M o) : zgo (zsc N xs) d 0 pc L (.int x :: st) M o := by
  subst hp
  unfold nzb at h
  by_cases c : x = 0
  · rw [if_pos c] at h
    exact zo_ifT h1 j1 c (zo_iconst h4 rfl rfl h)
  · rw [if_neg c] at h
    exact zo_ifF h1 j1 rfl c (zo_iconst h2 rfl rfl (zo_goto h3 j3 h))
end ZLW
