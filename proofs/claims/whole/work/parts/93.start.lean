/-! THE LAW'S START; the law -/
def zck (M : ZMem) : Bool := ([(22, 1), (22, 2), (22, 3), (36, 4), (40, 4), (44, 4), (20, 5), (20, 7), (20, 2), (106, 1), (133, 0), (133, 1), (133, 2), (133, 9), (133, 11), (133, 38), (133, 42), (133, 43), (133, 48), (133, 50), (133, 69)].all fun e => zI M e.1 e.2 == 0) && (zI M 22 4 == -1) && (zI M 133 10 == -1) && ((List.range 6).all fun t => zI M 180 t == -1 && zI M 181 t == 0 && zI M (121 + 2 * t) 1 == -1 && zI M (121 + 2 * t) 2 == 0) && ((List.range 22).all fun k => zI M 148 k == ii (ltr.getD k 0))
set_option maxRecDepth 100000 in
theorem zck_ok : zck zM2 = true := by decide +kernel
def s00 : ZSt := fun p j => (zI zM2 p j).toInt
def l00 : Nat → Int64 := fun j => zL zM2 182 j
theorem z2_ly : Ly zM2 ∧ RCc zM2 := by
  have h := zX_ok
  simp only [Bool.and_eq_true] at h
  have h2 := h.2
  unfold zchk at h2
  simp only [Bool.and_eq_true, beq_iff_eq] at h2
  obtain ⟨⟨⟨⟨⟨⟨a1, a2⟩, a3⟩, a4⟩, a5⟩, -⟩, -⟩ := h2
  refine ⟨⟨⟨a1, a2⟩, fun p hp => ?_, fun e he => ?_⟩, fun e he => ?_⟩
  · rw [← a3]
    simp [List.getD, hp]
  · have := List.all_eq_true.mp a4 e he
    rwa [beq_iff_eq] at this
  · have := List.all_eq_true.mp a5 e (List.mem_filter.mp he).1
    rwa [beq_iff_eq] at this
theorem LI_0 : LI zM2 s00 l00 := by
  have h := zck_ok
  unfold zck at h
  simp only [Bool.and_eq_true, List.all_cons, List.all_nil, beq_iff_eq, Bool.and_true] at h
  obtain ⟨⟨⟨⟨⟨a1, a2, a3, a4, a5, a6, a7, a8, a9, a10, b0, b1, b2, b9, b11, b38, b42, b43, b48, b50, b69⟩, c1⟩, c2⟩, c3⟩, c4⟩ := h
  have e0 : ∀ {p j : Nat}, zI zM2 p j = 0 → s00 p j = 0 := fun {p j} h => by show (zI zM2 p j).toInt = 0; rw [h]; rfl
  have e1 : ∀ {p j : Nat}, zI zM2 p j = -1 → s00 p j = -1 := fun {p j} h => by show (zI zM2 p j).toInt = -1; rw [h]; rfl
  have d3 : ∀ t : Nat, t < 6 → (zI zM2 180 t = -1 ∧ zI zM2 181 t = 0) ∧ zI zM2 (121 + 2 * t) 1 = -1 ∧ zI zM2 (121 + 2 * t) 2 = 0 := by
    intro t ht
    have := List.all_eq_true.mp c3 t (List.mem_range.mpr ht)
    simp only [Bool.and_eq_true, beq_iff_eq] at this
    exact ⟨⟨this.1.1.1, this.1.1.2⟩, this.1.2, this.2⟩
  have f0 := e0 b0
  have f1 := e0 b1
  have f2 := e0 b2
  have f9 := e0 b9
  have f10 := e1 c2
  have f11 := e0 b11
  have f38 := e0 b38
  have f42 := e0 b42
  have f43 := e0 b43
  have f48 := e0 b48
  have f50 := e0 b50
  have f69 := e0 b69
  have z : ∀ x : Int, x = 0 → (0 : Int32) = ii x := fun x h => by rw [h]; rfl
  obtain ⟨hL, hC⟩ := z2_ly
  refine ⟨hL, ⟨⟨⟨a1.trans (z _ f0), a2.trans (z _ f2), a3.trans (z _ f1), c1.trans (by rw [f10]; rfl)⟩, fun b hb => ?_, hC⟩, ⟨⟨a4.trans (z _ f38), fun k hk => ?_⟩, ⟨a5.trans (z _ f42), fun k hk => ?_⟩, a6.trans (z _ f43), fun k hk => ?_⟩, ⟨a7.trans (z _ f11), a8.trans (z _ f9), fun k hk => ?_⟩, ⟨a9.trans (z _ f48), fun q => ?_⟩, ⟨a10.trans (z _ f69), fun k hk => ?_⟩, fun g hg => ?_, fun t ht => ?_⟩, fun p j _ => (ii_of _).symm, fun j _ => rfl, ⟨⟨⟨⟨?_, ?_⟩, ?_, fun b hb => ?_, fun g hg => ?_⟩, ⟨fun k hk => ?_, fun t ht => ?_, fun k hk => ?_, fun k hk => ?_⟩, fun q => ?_⟩, fun k hk => ?_, fun g hg => ?_, fun k hk => ?_⟩⟩
  all_goals first | (exfalso; omega) | skip
  · obtain ⟨⟨t1, t2⟩, t3, t4⟩ := d3 t ht
    refine ⟨t3.trans ?_, t4.trans ?_, fun q => ?_⟩
    · rw [e1 t1]; rfl
    · rw [e0 t2]; rfl
    · rw [e1 t1] at q; omega
  · unfold SIn
    omega
  · omega
  · omega
  · obtain ⟨⟨t1, t2⟩, t3, t4⟩ := d3 t ht
    rw [e1 t1, e0 t2]
    omega
  · have := List.all_eq_true.mp c4 k (List.mem_range.mpr hk)
    rw [beq_iff_eq] at this
    have b : ∀ k : Nat, k < 22 → 0 ≤ ltr.getD k 0 ∧ ltr.getD k 0 ≤ 127 := by decide
    have := b k hk
    show (zI zM2 148 k).toInt = _
    rw [‹zI zM2 148 k = _›, ii_toInt (by omega)]
section ZST
variable {sc : Option (Nat × (Nat → Int32))} {d k pc p' : Nat} {L : List (Nat × Value)} {st : List Value} {M : ZMem} {o : Option Value × ZMem}
theorem zo_new {n t w1 w2 : Nat} (hi : zi k pc = some (.new n)) (hp : pc + 3 = p') (hl : zlk k n = some (6, t, w1, w2)) (ht : t < 13) (h : zgo sc d k p' L (.ref (zn M) :: st) (znew M t 0 (zN t)) o) : zgo sc d k pc L st M o := by
  subst hp
  exact zgo_p hi (fun l => by simp [zs, hl, ht]) h
theorem zo_init {n c np w q : Nat} {as r : List Value} {M1 : ZMem} (hi : zi k pc = some (.invokespecial n)) (hp : pc + 3 = p') (hl : zlk k n = some (2, c, np, w)) (ha : zargs np st = some (as, .ref q :: r)) (hk : zmk c = 2) (hq : q ≠ 18) (hs : (r.map fun v => v.category).sum ≤ 8) (hg : (lg_sl (.ref q :: as)).length ≤ zml c) (hrun : zrn d c (.ref q :: as) M (none, M1)) (h : zgo sc (d + 1) k p' L r M1 o) : zgo sc (d + 1) k pc L st M o := by
  subst hp
  refine zgo_c hi (fun l => ?_) (as := .ref q :: as) (r := r) ?_ hrun h
  · unfold zs
    split <;> first | rfl | simp_all
  · unfold zcall
    simp only [hl, ha]
    exact if_pos ⟨hk, hq, hs, hg⟩
end ZST
theorem zx_1 (h : zvn zX1 = true) : zX1 = some (none, zM1) := by
  unfold zM1
  revert h
  generalize zX1 = x
  intro h
  unfold zvn at h
  split at h
  · rfl
  · cases h
theorem zx_2 (h : zvn zX2 = true) : zX2 = some (none, zM2) := by
  unfold zM2
  revert h
  generalize zX2 = x
  intro h
  unfold zvn at h
  split at h
  · rfl
  · cases h
theorem zx_12 : zX1 = some (none, zM1) ∧ zn zM1 = 133 ∧ zX2 = some (none, zM2) := by
  have h := zX_ok
  rw [Bool.and_eq_true, Bool.and_eq_true, Bool.and_eq_true, beq_iff_eq] at h
  exact ⟨zx_1 h.1.1.1, h.1.1.2, zx_2 h.1.2⟩
theorem zn_0 : zn zM0 = 20 := by decide +kernel
set_option maxRecDepth 20000 in
theorem law_0 {N : Nat} {xs : Nat → Int32} {o : Option Value × ZMem} (K : zgo (zsc N xs) 61 0 18 (lwL 0) [] zM2 o) : zgo (zsc N xs) 61 0 0 [(0, .ref 0)] [] zM0 o := by
  obtain ⟨x1, x2, x3⟩ := zx_12
  unfold zX1 at x1
  unfold zX2 at x3
  refine zo_new (p' := 3) (zi_0 rfl) rfl zl_0_7 (by omega) ?_
  rw [zn_0]
  refine zo_dup (p' := 4) (zi_0 rfl) rfl rfl ?_
  refine zo_init (p' := 7) (as := []) (r := [.ref 20]) (zi_0 rfl) rfl zl_0_9 rfl rfl (by omega) (Nat.le_of_ble_eq_true rfl) (Nat.le_of_ble_eq_true rfl) ⟨100000, x1⟩ ?_
  refine zo_astore_n (p' := 8) (r := some 20) (L' := [(0, .ref 0), (1, .ref 20)]) (zi_0 rfl) rfl (show (1 : Nat) < 4 by omega) ⟨Or.inr ⟨by decide, rfl, fun _ => rfl⟩, ⟨Or.inl ⟨rfl, rfl⟩, trivial⟩⟩ ?_
  refine zo_new (p' := 11) (zi_0 rfl) rfl zl_0_10 (by omega) ?_
  rw [x2]
  refine zo_dup (p' := 12) (zi_0 rfl) rfl rfl ?_
  refine zo_init (p' := 15) (as := []) (r := [.ref 133]) (zi_0 rfl) rfl zl_0_12 rfl rfl (by omega) (Nat.le_of_ble_eq_true rfl) (Nat.le_of_ble_eq_true rfl) ⟨100000, x3⟩ ?_
  refine zo_astore_n (p' := 16) (r := some 133) (L' := [(0, .ref 0), (1, .ref 20), (2, .ref 133)]) (zi_0 rfl) rfl (show (2 : Nat) < 4 by omega) ⟨Or.inr ⟨by decide, rfl, fun q => absurd q (by decide)⟩, ⟨Or.inr ⟨by decide, rfl, fun _ => rfl⟩, ⟨Or.inl ⟨rfl, rfl⟩, trivial⟩⟩⟩ ?_
  refine zo_iconst (p' := 17) (v := 0) (zi_0 rfl) rfl rfl ?_
  exact zo_istore_n (p' := 18) (L' := lwL 0) (zi_0 rfl) rfl (show (3 : Nat) < 4 by omega) ⟨Or.inr ⟨by decide, rfl, fun q => absurd q (by decide)⟩, ⟨Or.inr ⟨by decide, rfl, fun q => absurd q (by decide)⟩, ⟨Or.inr ⟨by decide, rfl, fun _ => rfl⟩, ⟨Or.inl ⟨rfl, rfl⟩, trivial⟩⟩⟩⟩ K
theorem zlaw : zLaw := by
  intro L xs hL
  obtain ⟨M', q1, q2⟩ := law_loop (xs := xs) hL (L / 6 + 1) 0 zM2 s00 l00 LI_0 (by omega) (by omega)
  obtain ⟨f, hf⟩ := law_0 q2 _ (zhas_rf _)
  exact ⟨61, f, M', by omega, hf, by rw [q1.n]; omega, by rw [q1.c]; omega⟩
