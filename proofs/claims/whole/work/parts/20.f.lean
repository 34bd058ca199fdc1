/-- SlateHalves.isWithin(III)Z -/
def f_14 (M : ZMem) (a0 : Int32) (a1 : Int32) (a2 : Int32) : Option (Int32) := if a0 < a1 then (some 0) else (if a2 < a0 then (some 0) else (some 1))
set_option maxRecDepth 20000 in
theorem k_14 (d : Nat) {M : ZMem} {a0 : Int32} {a1 : Int32} {a2 : Int32} {out : Int32} (h : f_14 M a0 a1 a2 = some out) : zrn (d) 14 [.int a0, .int a1, .int a2] M (some (.int out), M) := by
  unfold f_14 at h
  refine zrn_of (L := [(0, .int a0), (1, .int a1), (2, .int a2)]) rfl ?_
  refine zo_iload_n (p' := 1) (zi_14 rfl) rfl rfl ?_
  refine zo_iload_n (p' := 2) (zi_14 rfl) rfl rfl ?_
  by_cases hc1 : a0 < a1
  · rw [if_pos hc1] at h
    refine zo_icT (p' := 14) (zi_14 rfl) rfl hc1 ?_
    refine zo_iconst (p' := 15) (v := 0) (zi_14 rfl) rfl rfl ?_
    have g3 := Option.some.inj h
    subst g3
    exact zo_iret (zi_14 rfl) rfl ⟨rfl, rfl⟩
  · rw [if_neg hc1] at h
    refine zo_icF (p' := 5) (zi_14 rfl) rfl rfl hc1 ?_
    refine zo_iload_n (p' := 6) (zi_14 rfl) rfl rfl ?_
    refine zo_iload_n (p' := 7) (zi_14 rfl) rfl rfl ?_
    by_cases hc2 : a2 < a0
    · rw [if_pos hc2] at h
      refine zo_icT (p' := 14) (zi_14 rfl) rfl hc2 ?_
      refine zo_iconst (p' := 15) (v := 0) (zi_14 rfl) rfl rfl ?_
      have g4 := Option.some.inj h
      subst g4
      exact zo_iret (zi_14 rfl) rfl ⟨rfl, rfl⟩
    · rw [if_neg hc2] at h
      refine zo_icF (p' := 10) (zi_14 rfl) rfl rfl hc2 ?_
      refine zo_iconst (p' := 11) (v := 1) (zi_14 rfl) rfl rfl ?_
      refine zo_goto (p' := 15) (zi_14 rfl) rfl ?_
      have g5 := Option.some.inj h
      subst g5
      exact zo_iret (zi_14 rfl) rfl ⟨rfl, rfl⟩
/-- SlateHalves$Yard.addBlock()LSlateHalves$Block; -/
def f_15 (M : ZMem) (o : Nat) : Option (Option Nat × ZMem) := if zok M 10 o = true then (zb (zgi M 10 1 o) fun x1 => if x1 < 6 then (zb (zgi M 10 1 o) fun x4 => zb (zpf M 10 1 o (.int ((x4 + 1))) false) fun M6 => zb (zgr M6 10 0 o) fun r8 => zb (zgi M6 10 1 o) fun x10 => zb r8 fun q12 => zb (zlaR M6 q12 (x10 - 1)) fun r13 => if r13 = some 18 then none else some (r13, M6)) else (some (none, M))) else none
theorem f_15_ok {M : ZMem} {o : Nat} {out : Option Nat × ZMem} (h : f_15 M o = some out) : zok M 10 o = true := by
  unfold f_15 at h
  by_cases hok : zok M 10 o = true
  · exact hok
  · rw [if_neg hok] at h; cases h
set_option maxRecDepth 20000 in
theorem k_15 (d : Nat) {M : ZMem} {o : Nat} {out : Option Nat × ZMem} (h : f_15 M o = some out) : zrn (d) 15 [zrf (some o)] M (some (zrf out.1), out.2) := by
  unfold f_15 at h
  by_cases hok : zok M 10 o = true
  · rw [if_pos hok] at h
    refine zrn_of (L := [(0, zrf (some o))]) rfl ?_
    refine zo_aload_n (p' := 1) (zi_15 rfl) rfl rfl ?_
    obtain ⟨x1, hx2, g16⟩ := zb_of h
    refine zo_getI (p' := 4) (zi_15 rfl) rfl zl_3_17 hx2 ?_
    refine zo_bipush (p' := 6) (v := 6) (zi_15 rfl) rfl rfl ?_
    by_cases hc3 : x1 < 6
    · rw [if_pos hc3] at g16
      refine zo_icT (p' := 11) (zi_15 rfl) rfl hc3 ?_
      refine zo_aload_n (p' := 12) (zi_15 rfl) rfl rfl ?_
      refine zo_dup (p' := 13) (zi_15 rfl) rfl (zrf_cat _) ?_
      obtain ⟨x4, hx5, g17⟩ := zb_of g16
      refine zo_getI (p' := 16) (zi_15 rfl) rfl zl_3_17 hx5 ?_
      refine zo_iconst (p' := 17) (v := 1) (zi_15 rfl) rfl rfl ?_
      refine zo_iadd (p' := 18) (zi_15 rfl) rfl ?_
      obtain ⟨M6, hx7, g18⟩ := zb_of g17
      refine zo_putI (p' := 21) (zi_15 rfl) rfl zl_3_17 (zpb_15 _) hx7 ?_
      refine zo_aload_n (p' := 22) (zi_15 rfl) rfl rfl ?_
      obtain ⟨r8, hx9, g19⟩ := zb_of g18
      refine zo_getR (p' := 25) (zi_15 rfl) rfl zl_3_11 hx9 ?_
      refine zo_aload_n (p' := 26) (zi_15 rfl) rfl rfl ?_
      obtain ⟨x10, hx11, g20⟩ := zb_of g19
      refine zo_getI (p' := 29) (zi_15 rfl) rfl zl_3_17 hx11 ?_
      refine zo_iconst (p' := 30) (v := 1) (zi_15 rfl) rfl rfl ?_
      refine zo_isub (p' := 31) (zi_15 rfl) rfl ?_
      obtain ⟨q12, h0, g21⟩ := zb_of g20
      subst h0
      obtain ⟨r13, hx14, g22⟩ := zb_of g21
      refine zo_aald (p' := 32) (zi_15 rfl) rfl hx14 ?_
      by_cases hr15 : r13 = some 18
      · rw [if_pos hr15] at g22; cases g22
      · rw [if_neg hr15] at g22
        have g23 := Option.some.inj g22
        subst g23
        exact zo_aret (zi_15 rfl) rfl rfl hr15
    · rw [if_neg hc3] at g16
      refine zo_icF (p' := 9) (zi_15 rfl) rfl rfl hc3 ?_
      refine zo_null (p' := 10) (zi_15 rfl) rfl ?_
      have g24 := Option.some.inj g16
      subst g24
      exact zo_aret (r := none) (zi_15 rfl) rfl rfl (by decide)
  · rw [if_neg hok] at h; cases h
/-- java/util/Arrays.fill([II)V -/
def f_17_5 : Nat → ZMem → Option Nat → Int32 → Int32 → Int32 → Option (ZMem)
  | 0, _, _, _, _, _ => none
  | z + 1, M, b0, b1, b2, b3 => if b3 ≤ b2 then (some M) else (zb b0 fun q7 => zb (zsa M 20 q7 b2 b1) fun M8 => f_17_5 z M8 (some q7) b1 ((b2 + 1)) b3)
set_option maxRecDepth 20000 in
theorem k_17_5 (d : Nat) : ∀ (z : Nat) (M : ZMem) (b0 : Option Nat) (b1 : Int32) (b2 : Int32) (b3 : Int32) (out : ZMem), f_17_5 z M b0 b1 b2 b3 = some out → zgo none (d) 17 5 [(0, zrf b0), (1, .int b1), (2, .int b2), (3, .int b3)] [] M (none, out) := by
  intro z
  induction z with
  | zero => intro M b0 b1 b2 b3 out h; cases h
  | succ z ih =>
    intro M b0 b1 b2 b3 out h
    rw [f_17_5] at h
    refine zo_iload_n (p' := 6) (zi_17 rfl) rfl rfl ?_
    refine zo_iload_n (p' := 7) (zi_17 rfl) rfl rfl ?_
    by_cases hc6 : b3 ≤ b2
    · rw [if_pos hc6] at h
      refine zo_icT (p' := 20) (zi_17 rfl) rfl hc6 ?_
      have g10 := Option.some.inj h
      subst g10
      exact zo_vret (zi_17 rfl) rfl
    · rw [if_neg hc6] at h
      refine zo_icF (p' := 10) (zi_17 rfl) rfl rfl hc6 ?_
      refine zo_aload_n (p' := 11) (zi_17 rfl) rfl rfl ?_
      refine zo_iload_n (p' := 12) (zi_17 rfl) rfl rfl ?_
      refine zo_iload_n (p' := 13) (zi_17 rfl) rfl rfl ?_
      obtain ⟨q7, h0, g11⟩ := zb_of h
      subst h0
      obtain ⟨M8, hx9, g12⟩ := zb_of g11
      refine zo_iast (p' := 14) (zi_17 rfl) rfl hx9 ?_
      refine zo_iinc (p' := 17) (v := (b2 + 1)) (L' := [(0, zrf (some q7)), (1, .int b1), (2, .int ((b2 + 1))), (3, .int b3)]) (zi_17 rfl) rfl zm_17_2 rfl rfl ⟨Or.inr ⟨by decide, rfl, fun q => absurd q (by decide)⟩, ⟨Or.inr ⟨by decide, rfl, fun _ => rfl⟩, ⟨Or.inl ⟨rfl, rfl⟩, ⟨Or.inr ⟨by decide, rfl, fun q => absurd q (by decide)⟩, trivial⟩⟩⟩⟩ ?_
      refine zo_goto (p' := 5) (zi_17 rfl) rfl ?_
      refine zgo_sub (L' := [(0, zrf ((some q7))), (1, .int b1), (2, .int (((b2 + 1)))), (3, .int b3)]) (⟨rfl, rfl, rfl, rfl, trivial⟩) ?_
      exact ih M8 (some q7) b1 ((b2 + 1)) b3 _ g12
def f_17 (M : ZMem) (a0 : Option Nat) (a1 : Int32) : Option (ZMem) := zb a0 fun q1 => zb (zlen none M q1) fun x2 => f_17_5 zF M (some q1) a1 0 x2
set_option maxRecDepth 20000 in
theorem k_17 (d : Nat) {M : ZMem} {a0 : Option Nat} {a1 : Int32} {out : ZMem} (h : f_17 M a0 a1 = some out) : zrn (d) 17 [zrf a0, .int a1] M (none, out) := by
  unfold f_17 at h
  refine zrn_of (L := [(0, zrf a0), (1, .int a1)]) (by simp [lv_args, zrf_cat, zcat_i, zcat_l, zcat_r]) ?_
  refine zo_iconst (p' := 1) (v := 0) (zi_17 rfl) rfl rfl ?_
  refine zo_istore_n (p' := 2) (L' := [(0, zrf a0), (1, .int a1), (2, .int 0)]) (zi_17 rfl) rfl zm_17_2 ⟨Or.inr ⟨by decide, rfl, fun q => absurd q (by decide)⟩, ⟨Or.inr ⟨by decide, rfl, fun _ => rfl⟩, ⟨Or.inl ⟨rfl, rfl⟩, trivial⟩⟩⟩ ?_
  refine zo_aload_n (p' := 3) (zi_17 rfl) rfl rfl ?_
  obtain ⟨q1, h0, g4⟩ := zb_of h
  subst h0
  obtain ⟨x2, hx3, g5⟩ := zb_of g4
  refine zo_alen (p' := 4) (zi_17 rfl) rfl hx3 ?_
  refine zo_istore_n (p' := 5) (L' := [(0, zrf (some q1)), (1, .int a1), (2, .int 0), (3, .int x2)]) (zi_17 rfl) rfl zm_17_3 ⟨Or.inr ⟨by decide, rfl, fun q => absurd q (by decide)⟩, ⟨Or.inr ⟨by decide, rfl, fun q => absurd q (by decide)⟩, ⟨Or.inr ⟨by decide, rfl, fun _ => rfl⟩, ⟨Or.inl ⟨rfl, rfl⟩, trivial⟩⟩⟩⟩ ?_
  refine zgo_sub (L' := [(0, zrf ((some q1))), (1, .int a1), (2, .int 0), (3, .int x2)]) (⟨rfl, rfl, rfl, rfl, trivial⟩) ?_
  exact k_17_5 _ zF M (some q1) a1 0 x2 _ g5
/-- SlateHalves$Block.become(III)V -/
def f_16 (M : ZMem) (o : Nat) (a0 : Int32) (a1 : Int32) (a2 : Int32) : Option (ZMem) := if zok M 1 o = true then (zb (zpf M 1 1 o (.int a0) false) fun M1 => zb (zpf M1 1 2 o (.int a1) false) fun M3 => zb (zpf M3 1 3 o (.int a2) false) fun M5 => zb (zpf M5 1 4 o (.int 0) false) fun M7 => zb (zpf M7 1 5 o (.int 0) false) fun M9 => zb (zgr M9 1 6 o) fun r11 => zb (f_17 M9 r11 0) fun M15 => some M15) else none
theorem f_16_ok {M : ZMem} {o : Nat} {a0 : Int32} {a1 : Int32} {a2 : Int32} {out : ZMem} (h : f_16 M o a0 a1 a2 = some out) : zok M 1 o = true := by
  unfold f_16 at h
  by_cases hok : zok M 1 o = true
  · exact hok
  · rw [if_neg hok] at h; cases h
set_option maxRecDepth 20000 in
theorem k_16 (d : Nat) {M : ZMem} {o : Nat} {a0 : Int32} {a1 : Int32} {a2 : Int32} {out : ZMem} (h : f_16 M o a0 a1 a2 = some out) : zrn (d + 1) 16 [zrf (some o), .int a0, .int a1, .int a2] M (none, out) := by
  unfold f_16 at h
  by_cases hok : zok M 1 o = true
  · rw [if_pos hok] at h
    refine zrn_of (L := [(0, zrf (some o)), (1, .int a0), (2, .int a1), (3, .int a2)]) rfl ?_
    refine zo_aload_n (p' := 1) (zi_16 rfl) rfl rfl ?_
    refine zo_iload_n (p' := 2) (zi_16 rfl) rfl rfl ?_
    obtain ⟨M1, hx2, g16⟩ := zb_of h
    refine zo_putI (p' := 5) (zi_16 rfl) rfl zl_4_22 (zpb_16 _) hx2 ?_
    refine zo_aload_n (p' := 6) (zi_16 rfl) rfl rfl ?_
    refine zo_iload_n (p' := 7) (zi_16 rfl) rfl rfl ?_
    obtain ⟨M3, hx4, g17⟩ := zb_of g16
    refine zo_putI (p' := 10) (zi_16 rfl) rfl zl_4_25 (zpb_16 _) hx4 ?_
    refine zo_aload_n (p' := 11) (zi_16 rfl) rfl rfl ?_
    refine zo_iload_n (p' := 12) (zi_16 rfl) rfl rfl ?_
    obtain ⟨M5, hx6, g18⟩ := zb_of g17
    refine zo_putI (p' := 15) (zi_16 rfl) rfl zl_4_19 (zpb_16 _) hx6 ?_
    refine zo_aload_n (p' := 16) (zi_16 rfl) rfl rfl ?_
    refine zo_iconst (p' := 17) (v := 0) (zi_16 rfl) rfl rfl ?_
    obtain ⟨M7, hx8, g19⟩ := zb_of g18
    refine zo_putI (p' := 20) (zi_16 rfl) rfl zl_4_28 (zpb_16 _) hx8 ?_
    refine zo_aload_n (p' := 21) (zi_16 rfl) rfl rfl ?_
    refine zo_iconst (p' := 22) (v := 0) (zi_16 rfl) rfl rfl ?_
    obtain ⟨M9, hx10, g20⟩ := zb_of g19
    refine zo_putI (p' := 25) (zi_16 rfl) rfl zl_4_31 (zpb_16 _) hx10 ?_
    refine zo_aload_n (p' := 26) (zi_16 rfl) rfl rfl ?_
    obtain ⟨r11, hx12, g21⟩ := zb_of g20
    refine zo_getR (p' := 29) (zi_16 rfl) rfl zl_4_9 hx12 ?_
    refine zo_iconst (p' := 30) (v := 0) (zi_16 rfl) rfl rfl ?_
    obtain ⟨M15, hx14, g22⟩ := zb_of g21
    refine zo_callSv (p' := 33) (as := [zrf r11, .int 0]) (r := []) (zi_16 rfl) rfl (Or.inl zl_4_34) rfl rfl (Nat.le_of_ble_eq_true rfl) (by rw [zml_17]; simp [lg_sl, zrf_cat, zcat_i, zcat_l, zcat_r]; done) (k_17 _ hx14) ?_
    have g23 := Option.some.inj g22
    subst g23
    exact zo_vret (zi_16 rfl) rfl
  · rw [if_neg hok] at h; cases h
/-- SlateHalves.block(III)I -/
def f_13 (M : ZMem) (o : Nat) (a0 : Int32) (a1 : Int32) (a2 : Int32) : Option (Int32 × ZMem) := if zok M 11 o = true then (zb (f_14 M a0 0 6) fun x1 => if ¬ x1 = 0 then (zb (f_14 M a1 0 9) fun x4 => if x4 = 0 then (some ((-2), M)) else (zb (f_14 M a2 1 60) fun x7 => if ¬ x7 = 0 then (zb (zgr M 11 0 o) fun r10 => zb r10 fun q12 => zb (zgr M 7 0 q12) fun r13 => zb r13 fun q15 => zbd (f_15 M q15) fun r16 M18 => zcs r16 (some ((-4), M18)) (fun q19 => zb (f_16 M18 q19 a0 a1 a2) fun M23 => zb (zgi M23 1 0 q19) fun x24 => some (x24, M23))) else (some ((-2), M)))) else (some ((-1), M))) else none
theorem f_13_ok {M : ZMem} {o : Nat} {a0 : Int32} {a1 : Int32} {a2 : Int32} {out : Int32 × ZMem} (h : f_13 M o a0 a1 a2 = some out) : zok M 11 o = true := by
  unfold f_13 at h
  by_cases hok : zok M 11 o = true
  · exact hok
  · rw [if_neg hok] at h; cases h
set_option maxRecDepth 20000 in
theorem k_13 (d : Nat) {M : ZMem} {o : Nat} {a0 : Int32} {a1 : Int32} {a2 : Int32} {out : Int32 × ZMem} (h : f_13 M o a0 a1 a2 = some out) : zrn (d + 2) 13 [zrf (some o), .int a0, .int a1, .int a2] M (some (.int out.1), out.2) := by
  unfold f_13 at h
  by_cases hok : zok M 11 o = true
  · rw [if_pos hok] at h
    refine zrn_of (L := [(0, zrf (some o)), (1, .int a0), (2, .int a1), (3, .int a2)]) rfl ?_
    refine zo_iload_n (p' := 1) (zi_13 rfl) rfl rfl ?_
    refine zo_iconst (p' := 2) (v := 0) (zi_13 rfl) rfl rfl ?_
    refine zo_bipush (p' := 4) (v := 6) (zi_13 rfl) rfl rfl ?_
    obtain ⟨x1, hx2, g26⟩ := zb_of h
    refine zo_callSi (p' := 7) (as := [.int a0, .int 0, .int 6]) (r := []) (zi_13 rfl) rfl (Or.inl zl_1_96) rfl rfl (Nat.le_of_ble_eq_true rfl) (Nat.le_of_ble_eq_true rfl) (k_14 _ hx2) ?_
    by_cases hc3 : ¬ x1 = 0
    · rw [if_pos hc3] at g26
      refine zo_ifT (p' := 12) (zi_13 rfl) rfl hc3 ?_
      refine zo_iload_n (p' := 13) (zi_13 rfl) rfl rfl ?_
      refine zo_iconst (p' := 14) (v := 0) (zi_13 rfl) rfl rfl ?_
      refine zo_bipush (p' := 16) (v := 9) (zi_13 rfl) rfl rfl ?_
      obtain ⟨x4, hx5, g27⟩ := zb_of g26
      refine zo_callSi (p' := 19) (as := [.int a1, .int 0, .int 9]) (r := []) (zi_13 rfl) rfl (Or.inl zl_1_96) rfl rfl (Nat.le_of_ble_eq_true rfl) (Nat.le_of_ble_eq_true rfl) (k_14 _ hx5) ?_
      by_cases hc6 : x4 = 0
      · rw [if_pos hc6] at g27
        refine zo_ifT (p' := 32) (zi_13 rfl) rfl hc6 ?_
        refine zo_bipush (p' := 34) (v := (-2)) (zi_13 rfl) rfl rfl ?_
        have g28 := Option.some.inj g27
        subst g28
        exact zo_iret (zi_13 rfl) rfl ⟨rfl, rfl⟩
      · rw [if_neg hc6] at g27
        refine zo_ifF (p' := 22) (zi_13 rfl) rfl rfl hc6 ?_
        refine zo_iload_n (p' := 23) (zi_13 rfl) rfl rfl ?_
        refine zo_iconst (p' := 24) (v := 1) (zi_13 rfl) rfl rfl ?_
        refine zo_bipush (p' := 26) (v := 60) (zi_13 rfl) rfl rfl ?_
        obtain ⟨x7, hx8, g29⟩ := zb_of g27
        refine zo_callSi (p' := 29) (as := [.int a2, .int 1, .int 60]) (r := []) (zi_13 rfl) rfl (Or.inl zl_1_96) rfl rfl (Nat.le_of_ble_eq_true rfl) (Nat.le_of_ble_eq_true rfl) (k_14 _ hx8) ?_
        by_cases hc9 : ¬ x7 = 0
        · rw [if_pos hc9] at g29
          refine zo_ifT (p' := 35) (zi_13 rfl) rfl hc9 ?_
          refine zo_aload_n (p' := 36) (zi_13 rfl) rfl rfl ?_
          obtain ⟨r10, hx11, g30⟩ := zb_of g29
          refine zo_getR (p' := 39) (zi_13 rfl) rfl zl_1_14 hx11 ?_
          obtain ⟨q12, h0, g31⟩ := zb_of g30
          subst h0
          obtain ⟨r13, hx14, g32⟩ := zb_of g31
          refine zo_getR (p' := 42) (zi_13 rfl) rfl zl_1_100 hx14 ?_
          obtain ⟨q15, h0, g33⟩ := zb_of g32
          subst h0
          obtain ⟨r16, M18, hx17, g34⟩ := zbd_of g33
          refine zo_callVa (p' := 45) (t := 10) (as := []) (r := []) (zi_13 rfl) rfl zl_1_103 rfl rfl (Or.inl ⟨by decide, rfl⟩) (Nat.le_of_ble_eq_true rfl) (Nat.le_of_ble_eq_true rfl) (f_15_ok hx17) (k_15 _ hx17) ?_
          refine zo_astore (p' := 47) (L' := [(0, zrf (some o)), (1, .int a0), (2, .int a1), (3, .int a2), (4, zrf r16)]) (zi_13 rfl) rfl zm_13_4 ⟨Or.inr ⟨by decide, rfl, fun q => absurd q (by decide)⟩, ⟨Or.inr ⟨by decide, rfl, fun q => absurd q (by decide)⟩, ⟨Or.inr ⟨by decide, rfl, fun q => absurd q (by decide)⟩, ⟨Or.inr ⟨by decide, rfl, fun _ => rfl⟩, ⟨Or.inl ⟨rfl, rfl⟩, trivial⟩⟩⟩⟩⟩ ?_
          refine zo_aload (p' := 49) (zi_13 rfl) rfl rfl ?_
          rcases r16 with _ | q19
          · have g35 := zcs_none g34
            refine zo_nonnullF (p' := 52) (zi_13 rfl) rfl ?_
            refine zo_bipush (p' := 54) (v := (-4)) (zi_13 rfl) rfl rfl ?_
            have g36 := Option.some.inj g35
            subst g36
            exact zo_iret (zi_13 rfl) rfl ⟨rfl, rfl⟩
          · obtain ⟨hq20, g37⟩ := zcs_some g34
            refine zo_nonnullT (p' := 55) (zi_13 rfl) rfl hq20 ?_
            refine zo_aload (p' := 57) (zi_13 rfl) rfl rfl ?_
            refine zo_iload_n (p' := 58) (zi_13 rfl) rfl rfl ?_
            refine zo_iload_n (p' := 59) (zi_13 rfl) rfl rfl ?_
            refine zo_iload_n (p' := 60) (zi_13 rfl) rfl rfl ?_
            obtain ⟨M23, hx22, g38⟩ := zb_of g37
            refine zo_callVv (p' := 63) (t := 1) (as := [.int a0, .int a1, .int a2]) (r := []) (zi_13 rfl) rfl zl_1_107 rfl rfl (Or.inl ⟨by decide, rfl⟩) (Nat.le_of_ble_eq_true rfl) (Nat.le_of_ble_eq_true rfl) (f_16_ok hx22) (k_16 _ hx22) ?_
            refine zo_aload (p' := 65) (zi_13 rfl) rfl rfl ?_
            obtain ⟨x24, hx25, g39⟩ := zb_of g38
            refine zo_getI (p' := 68) (zi_13 rfl) rfl zl_1_113 hx25 ?_
            have g40 := Option.some.inj g39
            subst g40
            exact zo_iret (zi_13 rfl) rfl ⟨rfl, rfl⟩
        · rw [if_neg hc9] at g29
          refine zo_ifF (p' := 32) (zi_13 rfl) rfl rfl hc9 ?_
          refine zo_bipush (p' := 34) (v := (-2)) (zi_13 rfl) rfl rfl ?_
          have g41 := Option.some.inj g29
          subst g41
          exact zo_iret (zi_13 rfl) rfl ⟨rfl, rfl⟩
    · rw [if_neg hc3] at g26
      refine zo_ifF (p' := 10) (zi_13 rfl) rfl rfl hc3 ?_
      refine zo_iconst (p' := 11) (v := (-1)) (zi_13 rfl) rfl rfl ?_
      have g42 := Option.some.inj g26
      subst g42
      exact zo_iret (zi_13 rfl) rfl ⟨rfl, rfl⟩
  · rw [if_neg hok] at h; cases h
/-- SlateHalves$Yard.find(I)LSlateHalves$Block; -/
def f_19 (M : ZMem) (o : Nat) (a0 : Int32) : Option (Option Nat) := if zok M 10 o = true then (zb (zgi M 10 1 o) fun x1 => zb (f_14 M a0 0 ((x1 - 1))) fun x3 => if x3 = 0 then (some none) else (zb (zgr M 10 0 o) fun r6 => zb r6 fun q8 => zb (zlaR M q8 a0) fun r9 => if r9 = some 18 then none else some r9)) else none
theorem f_19_ok {M : ZMem} {o : Nat} {a0 : Int32} {out : Option Nat} (h : f_19 M o a0 = some out) : zok M 10 o = true := by
  unfold f_19 at h
  by_cases hok : zok M 10 o = true
  · exact hok
  · rw [if_neg hok] at h; cases h
set_option maxRecDepth 20000 in
theorem k_19 (d : Nat) {M : ZMem} {o : Nat} {a0 : Int32} {out : Option Nat} (h : f_19 M o a0 = some out) : zrn (d + 1) 19 [zrf (some o), .int a0] M (some (zrf out), M) := by
  unfold f_19 at h
  by_cases hok : zok M 10 o = true
  · rw [if_pos hok] at h
    refine zrn_of (L := [(0, zrf (some o)), (1, .int a0)]) rfl ?_
    refine zo_iload_n (p' := 1) (zi_19 rfl) rfl rfl ?_
    refine zo_iconst (p' := 2) (v := 0) (zi_19 rfl) rfl rfl ?_
    refine zo_aload_n (p' := 3) (zi_19 rfl) rfl rfl ?_
    obtain ⟨x1, hx2, g12⟩ := zb_of h
    refine zo_getI (p' := 6) (zi_19 rfl) rfl zl_3_17 hx2 ?_
    refine zo_iconst (p' := 7) (v := 1) (zi_19 rfl) rfl rfl ?_
    refine zo_isub (p' := 8) (zi_19 rfl) rfl ?_
    obtain ⟨x3, hx4, g13⟩ := zb_of g12
    refine zo_callSi (p' := 11) (as := [.int a0, .int 0, .int ((x1 - 1))]) (r := []) (zi_19 rfl) rfl (Or.inr zl_3_33) rfl rfl (Nat.le_of_ble_eq_true rfl) (Nat.le_of_ble_eq_true rfl) (k_14 _ hx4) ?_
    by_cases hc5 : x3 = 0
    · rw [if_pos hc5] at g13
      refine zo_ifT (p' := 23) (zi_19 rfl) rfl hc5 ?_
      refine zo_null (p' := 24) (zi_19 rfl) rfl ?_
      have g14 := Option.some.inj g13
      subst g14
      exact zo_aret (r := none) (zi_19 rfl) rfl rfl (by decide)
    · rw [if_neg hc5] at g13
      refine zo_ifF (p' := 14) (zi_19 rfl) rfl rfl hc5 ?_
      refine zo_aload_n (p' := 15) (zi_19 rfl) rfl rfl ?_
      obtain ⟨r6, hx7, g15⟩ := zb_of g13
      refine zo_getR (p' := 18) (zi_19 rfl) rfl zl_3_11 hx7 ?_
      refine zo_iload_n (p' := 19) (zi_19 rfl) rfl rfl ?_
      obtain ⟨q8, h0, g16⟩ := zb_of g15
      subst h0
      obtain ⟨r9, hx10, g17⟩ := zb_of g16
      refine zo_aald (p' := 20) (zi_19 rfl) rfl hx10 ?_
      refine zo_goto (p' := 24) (zi_19 rfl) rfl ?_
      by_cases hr11 : r9 = some 18
      · rw [if_pos hr11] at g17; cases g17
      · rw [if_neg hr11] at g17
        have g18 := Option.some.inj g17
        subst g18
        exact zo_aret (zi_19 rfl) rfl rfl hr11
  · rw [if_neg hok] at h; cases h
/-- SlateHalves.holding()LSlateHalves$Hill; -/
def f_20 (M : ZMem) (o : Nat) : Option (Option Nat) := if zok M 11 o = true then (zb (zgr M 11 0 o) fun r1 => zb r1 fun q3 => zb (zgr M 7 0 q3) fun r4 => zb r4 fun q6 => zb (zgi M 10 4 q6) fun x7 => zb (zgi M 11 7 o) fun x9 => zb (f_14 M x7 0 ((x9 - 1))) fun x11 => if x11 = 0 then (zb (zgr M 11 8 o) fun r14 => if r14 = some 18 then none else some r14) else (zb (zgr M 11 6 o) fun r17 => zb r17 fun q19 => zb (zlaR M q19 x7) fun r20 => if r20 = some 18 then none else some r20)) else none
theorem f_20_ok {M : ZMem} {o : Nat} {out : Option Nat} (h : f_20 M o = some out) : zok M 11 o = true := by
  unfold f_20 at h
  by_cases hok : zok M 11 o = true
  · exact hok
  · rw [if_neg hok] at h; cases h
set_option maxRecDepth 20000 in
theorem k_20 (d : Nat) {M : ZMem} {o : Nat} {out : Option Nat} (h : f_20 M o = some out) : zrn (d + 1) 20 [zrf (some o)] M (some (zrf out), M) := by
  unfold f_20 at h
  by_cases hok : zok M 11 o = true
  · rw [if_pos hok] at h
    refine zrn_of (L := [(0, zrf (some o))]) rfl ?_
    refine zo_aload_n (p' := 1) (zi_20 rfl) rfl rfl ?_
    obtain ⟨r1, hx2, g23⟩ := zb_of h
    refine zo_getR (p' := 4) (zi_20 rfl) rfl zl_1_14 hx2 ?_
    obtain ⟨q3, h0, g24⟩ := zb_of g23
    subst h0
    obtain ⟨r4, hx5, g25⟩ := zb_of g24
    refine zo_getR (p' := 7) (zi_20 rfl) rfl zl_1_100 hx5 ?_
    obtain ⟨q6, h0, g26⟩ := zb_of g25
    subst h0
    obtain ⟨x7, hx8, g27⟩ := zb_of g26
    refine zo_getI (p' := 10) (zi_20 rfl) rfl zl_1_223 hx8 ?_
    refine zo_istore_n (p' := 11) (L' := [(0, zrf (some o)), (1, .int x7)]) (zi_20 rfl) rfl zm_20_1 ⟨Or.inr ⟨by decide, rfl, fun _ => zrf_cat _⟩, ⟨Or.inl ⟨rfl, rfl⟩, trivial⟩⟩ ?_
    refine zo_iload_n (p' := 12) (zi_20 rfl) rfl rfl ?_
    refine zo_iconst (p' := 13) (v := 0) (zi_20 rfl) rfl rfl ?_
    refine zo_aload_n (p' := 14) (zi_20 rfl) rfl rfl ?_
    obtain ⟨x9, hx10, g28⟩ := zb_of g27
    refine zo_getI (p' := 17) (zi_20 rfl) rfl zl_1_46 hx10 ?_
    refine zo_iconst (p' := 18) (v := 1) (zi_20 rfl) rfl rfl ?_
    refine zo_isub (p' := 19) (zi_20 rfl) rfl ?_
    obtain ⟨x11, hx12, g29⟩ := zb_of g28
    refine zo_callSi (p' := 22) (as := [.int x7, .int 0, .int ((x9 - 1))]) (r := []) (zi_20 rfl) rfl (Or.inl zl_1_96) rfl rfl (Nat.le_of_ble_eq_true rfl) (Nat.le_of_ble_eq_true rfl) (k_14 _ hx12) ?_
    by_cases hc13 : x11 = 0
    · rw [if_pos hc13] at g29
      refine zo_ifT (p' := 34) (zi_20 rfl) rfl hc13 ?_
      refine zo_aload_n (p' := 35) (zi_20 rfl) rfl rfl ?_
      obtain ⟨r14, hx15, g30⟩ := zb_of g29
      refine zo_getR (p' := 38) (zi_20 rfl) rfl zl_1_50 hx15 ?_
      by_cases hr16 : r14 = some 18
      · rw [if_pos hr16] at g30; cases g30
      · rw [if_neg hr16] at g30
        have g31 := Option.some.inj g30
        subst g31
        exact zo_aret (zi_20 rfl) rfl rfl hr16
    · rw [if_neg hc13] at g29
      refine zo_ifF (p' := 25) (zi_20 rfl) rfl rfl hc13 ?_
      refine zo_aload_n (p' := 26) (zi_20 rfl) rfl rfl ?_
      obtain ⟨r17, hx18, g32⟩ := zb_of g29
      refine zo_getR (p' := 29) (zi_20 rfl) rfl zl_1_42 hx18 ?_
      refine zo_iload_n (p' := 30) (zi_20 rfl) rfl rfl ?_
      obtain ⟨q19, h0, g33⟩ := zb_of g32
      subst h0
      obtain ⟨r20, hx21, g34⟩ := zb_of g33
      refine zo_aald (p' := 31) (zi_20 rfl) rfl hx21 ?_
      refine zo_goto (p' := 38) (zi_20 rfl) rfl ?_
      by_cases hr22 : r20 = some 18
      · rw [if_pos hr22] at g34; cases g34
      · rw [if_neg hr22] at g34
        have g35 := Option.some.inj g34
        subst g35
        exact zo_aret (zi_20 rfl) rfl rfl hr22
  · rw [if_neg hok] at h; cases h
/-- SlateHalves$Hill.looksAt(ILSlateHalves$Block;I)I -/
def f_23 (M : ZMem) (a0 : Int32) (a1 : Option Nat) (a2 : Int32) : Option (Int32) := if a0 = 98 then (zb a1 fun q6 => zb (zgi M 1 0 q6) fun x7 => some x7) else (if a0 = 100 then (zb a1 fun q9 => zb (zgi M 1 4 q9) fun x10 => some (x10 / 10)) else (if a0 = 107 then (zb a1 fun q12 => zb (zgi M 1 1 q12) fun x13 => some x13) else (if a0 = 116 then (zb a1 fun q15 => zb (zgi M 1 3 q15) fun x16 => some (x16 / 10)) else (if a0 = 118 then (zb a1 fun q18 => zb (zgi M 1 2 q18) fun x19 => some x19) else (some (a2 - a2 / 10 * 10))))))
set_option maxRecDepth 20000 in
theorem k_23 (d : Nat) {M : ZMem} {a0 : Int32} {a1 : Option Nat} {a2 : Int32} {out : Int32} (h : f_23 M a0 a1 a2 = some out) : zrn (d) 23 [.int a0, zrf a1, .int a2] M (some (.int out), M) := by
  unfold f_23 at h
  refine zrn_of (L := [(0, .int a0), (1, zrf a1), (2, .int a2)]) (by simp [lv_args, zrf_cat, zcat_i, zcat_l, zcat_r]) ?_
  refine zo_iload_n (p' := 1) (zi_23 rfl) rfl rfl ?_
  by_cases hc1 : a0 = 98
  · rw [if_pos hc1] at h
    refine zo_look (p' := 52) (n := 51) (zi_23 rfl) (by decide) (zsel_hit hc1 (by decide)) rfl ?_
    refine zo_aload_n (p' := 53) (zi_23 rfl) rfl rfl ?_
    obtain ⟨q6, h0, g21⟩ := zb_of h
    subst h0
    obtain ⟨x7, hx8, g22⟩ := zb_of g21
    refine zo_getI (p' := 56) (zi_23 rfl) rfl zl_6_46 hx8 ?_
    have g23 := Option.some.inj g22
    subst g23
    exact zo_iret (zi_23 rfl) rfl ⟨rfl, rfl⟩
  · rw [if_neg hc1] at h
    by_cases hc2 : a0 = 100
    · rw [if_pos hc2] at h
      refine zo_look (p' := 75) (n := 74) (zi_23 rfl) (by decide) (zsel_skip hc1 (by decide) (zsel_hit hc2 (by decide))) rfl ?_
      refine zo_aload_n (p' := 76) (zi_23 rfl) rfl rfl ?_
      obtain ⟨q9, h0, g24⟩ := zb_of h
      subst h0
      obtain ⟨x10, hx11, g25⟩ := zb_of g24
      refine zo_getI (p' := 79) (zi_23 rfl) rfl zl_6_58 hx11 ?_
      refine zo_bipush (p' := 81) (v := 10) (zi_23 rfl) rfl rfl ?_
      refine zo_idiv (p' := 82) (zi_23 rfl) rfl (by decide) ?_
      have g26 := Option.some.inj g25
      subst g26
      exact zo_iret (zi_23 rfl) rfl ⟨rfl, rfl⟩
    · rw [if_neg hc2] at h
      by_cases hc3 : a0 = 107
      · rw [if_pos hc3] at h
        refine zo_look (p' := 57) (n := 56) (zi_23 rfl) (by decide) (zsel_skip hc1 (by decide) (zsel_skip hc2 (by decide) (zsel_hit hc3 (by decide)))) rfl ?_
        refine zo_aload_n (p' := 58) (zi_23 rfl) rfl rfl ?_
        obtain ⟨q12, h0, g27⟩ := zb_of h
        subst h0
        obtain ⟨x13, hx14, g28⟩ := zb_of g27
        refine zo_getI (p' := 61) (zi_23 rfl) rfl zl_6_51 hx14 ?_
        have g29 := Option.some.inj g28
        subst g29
        exact zo_iret (zi_23 rfl) rfl ⟨rfl, rfl⟩
      · rw [if_neg hc3] at h
        by_cases hc4 : a0 = 116
        · rw [if_pos hc4] at h
          refine zo_look (p' := 67) (n := 66) (zi_23 rfl) (by decide) (zsel_skip hc1 (by decide) (zsel_skip hc2 (by decide) (zsel_skip hc3 (by decide) (zsel_hit hc4 (by decide))))) rfl ?_
          refine zo_aload_n (p' := 68) (zi_23 rfl) rfl rfl ?_
          obtain ⟨q15, h0, g30⟩ := zb_of h
          subst h0
          obtain ⟨x16, hx17, g31⟩ := zb_of g30
          refine zo_getI (p' := 71) (zi_23 rfl) rfl zl_6_57 hx17 ?_
          refine zo_bipush (p' := 73) (v := 10) (zi_23 rfl) rfl rfl ?_
          refine zo_idiv (p' := 74) (zi_23 rfl) rfl (by decide) ?_
          have g32 := Option.some.inj g31
          subst g32
          exact zo_iret (zi_23 rfl) rfl ⟨rfl, rfl⟩
        · rw [if_neg hc4] at h
          by_cases hc5 : a0 = 118
          · rw [if_pos hc5] at h
            refine zo_look (p' := 62) (n := 61) (zi_23 rfl) (by decide) (zsel_skip hc1 (by decide) (zsel_skip hc2 (by decide) (zsel_skip hc3 (by decide) (zsel_skip hc4 (by decide) (zsel_hit hc5 (by decide)))))) rfl ?_
            refine zo_aload_n (p' := 63) (zi_23 rfl) rfl rfl ?_
            obtain ⟨q18, h0, g33⟩ := zb_of h
            subst h0
            obtain ⟨x19, hx20, g34⟩ := zb_of g33
            refine zo_getI (p' := 66) (zi_23 rfl) rfl zl_6_54 hx20 ?_
            have g35 := Option.some.inj g34
            subst g35
            exact zo_iret (zi_23 rfl) rfl ⟨rfl, rfl⟩
          · rw [if_neg hc5] at h
            refine zo_look (p' := 83) (n := 82) (zi_23 rfl) (by decide) (zsel_skip hc1 (by decide) (zsel_skip hc2 (by decide) (zsel_skip hc3 (by decide) (zsel_skip hc4 (by decide) (zsel_skip hc5 (by decide) (rfl)))))) rfl ?_
            refine zo_iload_n (p' := 84) (zi_23 rfl) rfl rfl ?_
            refine zo_bipush (p' := 86) (v := 10) (zi_23 rfl) rfl rfl ?_
            refine zo_irem (p' := 87) (zi_23 rfl) rfl (by decide) ?_
            have g36 := Option.some.inj h
            subst g36
            exact zo_iret (zi_23 rfl) rfl ⟨rfl, rfl⟩
/-- SlateHalves$Hill.holdsTest(ILSlateHalves$Block;I)Z -/
def f_22 (M : ZMem) (a0 : Int32) (a1 : Option Nat) (a2 : Int32) : Option (Int32) := zb (f_23 M (((a0 >>> (16 &&& 31)) &&& 255)) a1 a2) fun x1 => if ((a0 >>> (8 &&& 31)) &&& 255) = 60 then (if (a0 &&& 255) ≤ x1 then (some 0) else (some 1)) else (if ((a0 >>> (8 &&& 31)) &&& 255) = 61 then (if ¬ x1 = (a0 &&& 255) then (some 0) else (some 1)) else (if x1 ≤ (a0 &&& 255) then (some 0) else (some 1)))
set_option maxRecDepth 20000 in
theorem k_22 (d : Nat) {M : ZMem} {a0 : Int32} {a1 : Option Nat} {a2 : Int32} {out : Int32} (h : f_22 M a0 a1 a2 = some out) : zrn (d + 1) 22 [.int a0, zrf a1, .int a2] M (some (.int out), M) := by
  unfold f_22 at h
  refine zrn_of (L := [(0, .int a0), (1, zrf a1), (2, .int a2)]) (by simp [lv_args, zrf_cat, zcat_i, zcat_l, zcat_r]) ?_
  refine zo_iload_n (p' := 1) (zi_22 rfl) rfl rfl ?_
  refine zo_bipush (p' := 3) (v := 16) (zi_22 rfl) rfl rfl ?_
  refine zo_ishr (p' := 4) (zi_22 rfl) rfl ?_
  refine zo_sipush (p' := 7) (v := 255) (zi_22 rfl) rfl rfl ?_
  refine zo_iand (p' := 8) (zi_22 rfl) rfl ?_
  refine zo_aload_n (p' := 9) (zi_22 rfl) rfl rfl ?_
  refine zo_iload_n (p' := 10) (zi_22 rfl) rfl rfl ?_
  obtain ⟨x1, hx2, g8⟩ := zb_of h
  refine zo_callSi (p' := 13) (as := [.int (((a0 >>> (16 &&& 31)) &&& 255)), zrf a1, .int a2]) (r := []) (zi_22 rfl) rfl (Or.inl zl_6_42) rfl rfl (Nat.le_of_ble_eq_true rfl) (by rw [zml_23]; simp [lg_sl, zrf_cat, zcat_i, zcat_l, zcat_r]; done) (k_23 _ hx2) ?_
  refine zo_istore_n (p' := 14) (L' := [(0, .int a0), (1, zrf a1), (2, .int a2), (3, .int x1)]) (zi_22 rfl) rfl zm_22_3 ⟨Or.inr ⟨by decide, rfl, fun q => absurd q (by decide)⟩, ⟨Or.inr ⟨by decide, rfl, fun q => absurd q (by decide)⟩, ⟨Or.inr ⟨by decide, rfl, fun _ => rfl⟩, ⟨Or.inl ⟨rfl, rfl⟩, trivial⟩⟩⟩⟩ ?_
  refine zo_iload_n (p' := 15) (zi_22 rfl) rfl rfl ?_
  refine zo_sipush (p' := 18) (v := 255) (zi_22 rfl) rfl rfl ?_
  refine zo_iand (p' := 19) (zi_22 rfl) rfl ?_
  refine zo_istore (p' := 21) (L' := [(0, .int a0), (1, zrf a1), (2, .int a2), (3, .int x1), (4, .int ((a0 &&& 255)))]) (zi_22 rfl) rfl zm_22_4 ⟨Or.inr ⟨by decide, rfl, fun q => absurd q (by decide)⟩, ⟨Or.inr ⟨by decide, rfl, fun q => absurd q (by decide)⟩, ⟨Or.inr ⟨by decide, rfl, fun q => absurd q (by decide)⟩, ⟨Or.inr ⟨by decide, rfl, fun _ => rfl⟩, ⟨Or.inl ⟨rfl, rfl⟩, trivial⟩⟩⟩⟩⟩ ?_
  refine zo_iload_n (p' := 22) (zi_22 rfl) rfl rfl ?_
  refine zo_bipush (p' := 24) (v := 8) (zi_22 rfl) rfl rfl ?_
  refine zo_ishr (p' := 25) (zi_22 rfl) rfl ?_
  refine zo_sipush (p' := 28) (v := 255) (zi_22 rfl) rfl rfl ?_
  refine zo_iand (p' := 29) (zi_22 rfl) rfl ?_
  by_cases hc3 : ((a0 >>> (8 &&& 31)) &&& 255) = 60
  · rw [if_pos hc3] at g8
    refine zo_look (p' := 56) (n := 27) (zi_22 rfl) (by decide) (zsel_hit hc3 (by decide)) rfl ?_
    refine zo_iload_n (p' := 57) (zi_22 rfl) rfl rfl ?_
    refine zo_iload (p' := 59) (zi_22 rfl) rfl rfl ?_
    by_cases hc5 : (a0 &&& 255) ≤ x1
    · rw [if_pos hc5] at g8
      refine zo_icT (p' := 66) (zi_22 rfl) rfl hc5 ?_
      refine zo_iconst (p' := 67) (v := 0) (zi_22 rfl) rfl rfl ?_
      have g9 := Option.some.inj g8
      subst g9
      exact zo_iret (zi_22 rfl) rfl ⟨rfl, rfl⟩
    · rw [if_neg hc5] at g8
      refine zo_icF (p' := 62) (zi_22 rfl) rfl rfl hc5 ?_
      refine zo_iconst (p' := 63) (v := 1) (zi_22 rfl) rfl rfl ?_
      refine zo_goto (p' := 67) (zi_22 rfl) rfl ?_
      have g10 := Option.some.inj g8
      subst g10
      exact zo_iret (zi_22 rfl) rfl ⟨rfl, rfl⟩
  · rw [if_neg hc3] at g8
    by_cases hc4 : ((a0 >>> (8 &&& 31)) &&& 255) = 61
    · rw [if_pos hc4] at g8
      refine zo_look (p' := 68) (n := 39) (zi_22 rfl) (by decide) (zsel_skip hc3 (by decide) (zsel_hit hc4 (by decide))) rfl ?_
      refine zo_iload_n (p' := 69) (zi_22 rfl) rfl rfl ?_
      refine zo_iload (p' := 71) (zi_22 rfl) rfl rfl ?_
      by_cases hc6 : ¬ x1 = (a0 &&& 255)
      · rw [if_pos hc6] at g8
        refine zo_icT (p' := 78) (zi_22 rfl) rfl hc6 ?_
        refine zo_iconst (p' := 79) (v := 0) (zi_22 rfl) rfl rfl ?_
        have g11 := Option.some.inj g8
        subst g11
        exact zo_iret (zi_22 rfl) rfl ⟨rfl, rfl⟩
      · rw [if_neg hc6] at g8
        refine zo_icF (p' := 74) (zi_22 rfl) rfl rfl hc6 ?_
        refine zo_iconst (p' := 75) (v := 1) (zi_22 rfl) rfl rfl ?_
        refine zo_goto (p' := 79) (zi_22 rfl) rfl ?_
        have g12 := Option.some.inj g8
        subst g12
        exact zo_iret (zi_22 rfl) rfl ⟨rfl, rfl⟩
    · rw [if_neg hc4] at g8
      refine zo_look (p' := 80) (n := 51) (zi_22 rfl) (by decide) (zsel_skip hc3 (by decide) (zsel_skip hc4 (by decide) (rfl))) rfl ?_
      refine zo_iload_n (p' := 81) (zi_22 rfl) rfl rfl ?_
      refine zo_iload (p' := 83) (zi_22 rfl) rfl rfl ?_
      by_cases hc7 : x1 ≤ (a0 &&& 255)
      · rw [if_pos hc7] at g8
        refine zo_icT (p' := 90) (zi_22 rfl) rfl hc7 ?_
        refine zo_iconst (p' := 91) (v := 0) (zi_22 rfl) rfl rfl ?_
        have g13 := Option.some.inj g8
        subst g13
        exact zo_iret (zi_22 rfl) rfl ⟨rfl, rfl⟩
      · rw [if_neg hc7] at g8
        refine zo_icF (p' := 86) (zi_22 rfl) rfl rfl hc7 ?_
        refine zo_iconst (p' := 87) (v := 1) (zi_22 rfl) rfl rfl ?_
        refine zo_goto (p' := 91) (zi_22 rfl) rfl ?_
        have g14 := Option.some.inj g8
        subst g14
        exact zo_iret (zi_22 rfl) rfl ⟨rfl, rfl⟩
/-- java/lang/Math.max(II)I -/
def f_24 (M : ZMem) (a0 : Int32) (a1 : Int32) : Option (Int32) := if a0 < a1 then (some a1) else (some a0)
set_option maxRecDepth 20000 in
theorem k_24 (d : Nat) {M : ZMem} {a0 : Int32} {a1 : Int32} {out : Int32} (h : f_24 M a0 a1 = some out) : zrn (d) 24 [.int a0, .int a1] M (some (.int out), M) := by
  unfold f_24 at h
  refine zrn_of (L := [(0, .int a0), (1, .int a1)]) rfl ?_
  refine zo_iload_n (p' := 1) (zi_24 rfl) rfl rfl ?_
  refine zo_iload_n (p' := 2) (zi_24 rfl) rfl rfl ?_
  by_cases hc1 : a0 < a1
  · rw [if_pos hc1] at h
    refine zo_icT (p' := 9) (zi_24 rfl) rfl hc1 ?_
    refine zo_iload_n (p' := 10) (zi_24 rfl) rfl rfl ?_
    have g2 := Option.some.inj h
    subst g2
    exact zo_iret (zi_24 rfl) rfl ⟨rfl, rfl⟩
  · rw [if_neg hc1] at h
    refine zo_icF (p' := 5) (zi_24 rfl) rfl rfl hc1 ?_
    refine zo_iload_n (p' := 6) (zi_24 rfl) rfl rfl ?_
    refine zo_goto (p' := 10) (zi_24 rfl) rfl ?_
    have g3 := Option.some.inj h
    subst g3
    exact zo_iret (zi_24 rfl) rfl ⟨rfl, rfl⟩
/-- SlateHalves$Hill.priceOf(LSlateHalves$Block;I)I -/
def f_21_168 (r9 : ZMem → Nat → Option Nat → Int32 → Int32 → Int32 → Int32 → Option (Int32)) (M : ZMem) (o : Nat) (b1 : Option Nat) (b2 : Int32) (b3 : Int32) (b4 : Int32) (b5 : Int32) : Option (Int32) := r9 M o b1 b2 b3 b4 ((b5 + 1))
def f_21_87 (r9 : ZMem → Nat → Option Nat → Int32 → Int32 → Int32 → Int32 → Option (Int32)) (M : ZMem) (o : Nat) (b1 : Option Nat) (b2 : Int32) (b3 : Int32) (b4 : Int32) (b5 : Int32) (b6 : Int32) : Option (Int32) := f_21_168 (fun M a0 a1 a2 a3 a4 a5 => r9 M a0 a1 a2 a3 a4 a5) M o b1 b2 b3 ((b6 ||| b5)) b4
def f_21_9 : Nat → ZMem → Nat → Option Nat → Int32 → Int32 → Int32 → Int32 → Option (Int32)
  | 0, _, _, _, _, _, _, _ => none
  | z + 1, M, o, b1, b2, b3, b4, b5 => zb (zgi M 3 1 o) fun x1 => if x1 ≤ b5 then (zb (f_24 M 0 b3) fun x4 => some x4) else (zb (zgr M 3 0 o) fun r6 => zb r6 fun q8 => zb (zai M q8 b5) fun x9 => if (x9 >>> (24 &&& 31)) = 0 then (zb (f_22 M x9 b1 b2) fun x16 => if x16 = 0 then (f_21_87 (fun M a0 a1 a2 a3 a4 a5 => f_21_9 z M a0 a1 a2 a3 a4 a5) M o b1 b2 b3 b5 0 ((b4 <<< (1 &&& 31)))) else (f_21_87 (fun M a0 a1 a2 a3 a4 a5 => f_21_9 z M a0 a1 a2 a3 a4 a5) M o b1 b2 b3 b5 1 ((b4 <<< (1 &&& 31))))) else (if (x9 >>> (24 &&& 31)) = 1 then (f_21_168 (fun M a0 a1 a2 a3 a4 a5 => f_21_9 z M a0 a1 a2 a3 a4 a5) M o b1 b2 b3 ((b4 ^^^ 1)) b5) else (if (x9 >>> (24 &&& 31)) = 2 then (f_21_168 (fun M a0 a1 a2 a3 a4 a5 => f_21_9 z M a0 a1 a2 a3 a4 a5) M o b1 b2 b3 (((b4 >>> (1 &&& 31)) &&& (b4 ||| (-2)))) b5) else (if (x9 >>> (24 &&& 31)) = 3 then (f_21_168 (fun M a0 a1 a2 a3 a4 a5 => f_21_9 z M a0 a1 a2 a3 a4 a5) M o b1 b2 b3 (((b4 >>> (1 &&& 31)) ||| (b4 &&& 1))) b5) else (if (x9 >>> (24 &&& 31)) = 4 then (f_21_168 (fun M a0 a1 a2 a3 a4 a5 => f_21_9 z M a0 a1 a2 a3 a4 a5) M o b1 b2 ((b3 + ((b4 &&& 1) * (x9 &&& 255)))) 0 b5) else (f_21_168 (fun M a0 a1 a2 a3 a4 a5 => f_21_9 z M a0 a1 a2 a3 a4 a5) M o b1 b2 ((b3 - ((b4 &&& 1) * (x9 &&& 255)))) 0 b5))))))
set_option maxRecDepth 20000 in
theorem k_21_168 (d : Nat) (r9 : ZMem → Nat → Option Nat → Int32 → Int32 → Int32 → Int32 → Option (Int32)) (h9 : ∀ (M : ZMem) (a0 : Nat) (a1 : Option Nat) (a2 : Int32) (a3 : Int32) (a4 : Int32) (a5 : Int32) (out : Int32), r9 M a0 a1 a2 a3 a4 a5 = some out → zgo none (d + 2) 21 9 [(0, zrf (some a0)), (1, zrf a1), (2, .int a2), (3, .int a3), (4, .int a4), (5, .int a5)] [] M (some (.int out), M)) : ∀ (M : ZMem) (o : Nat) (b1 : Option Nat) (b2 : Int32) (b3 : Int32) (b4 : Int32) (b5 : Int32) (out : Int32), f_21_168 r9 M o b1 b2 b3 b4 b5 = some out → zgo none (d + 2) 21 168 [(0, zrf (some o)), (1, zrf b1), (2, .int b2), (3, .int b3), (4, .int b4), (5, .int b5)] [] M (some (.int out), M) := by
  intro M o b1 b2 b3 b4 b5 out h
  unfold f_21_168 at h
  refine zo_iinc (p' := 171) (v := (b5 + 1)) (L' := [(0, zrf (some o)), (1, zrf b1), (2, .int b2), (3, .int b3), (4, .int b4), (5, .int ((b5 + 1)))]) (zi_21 rfl) rfl zm_21_5 rfl rfl ⟨Or.inr ⟨by decide, rfl, fun q => absurd q (by decide)⟩, ⟨Or.inr ⟨by decide, rfl, fun q => absurd q (by decide)⟩, ⟨Or.inr ⟨by decide, rfl, fun q => absurd q (by decide)⟩, ⟨Or.inr ⟨by decide, rfl, fun q => absurd q (by decide)⟩, ⟨Or.inr ⟨by decide, rfl, fun _ => rfl⟩, ⟨Or.inl ⟨rfl, rfl⟩, trivial⟩⟩⟩⟩⟩⟩ ?_
  refine zo_goto (p' := 9) (zi_21 rfl) rfl ?_
  refine zgo_sub (L' := [(0, zrf (some o)), (1, zrf b1), (2, .int b2), (3, .int b3), (4, .int b4), (5, .int (((b5 + 1))))]) (⟨rfl, rfl, rfl, rfl, rfl, rfl, trivial⟩) ?_
  exact h9 M o b1 b2 b3 b4 ((b5 + 1)) _ h
set_option maxRecDepth 20000 in
theorem k_21_87 (d : Nat) (r9 : ZMem → Nat → Option Nat → Int32 → Int32 → Int32 → Int32 → Option (Int32)) (h9 : ∀ (M : ZMem) (a0 : Nat) (a1 : Option Nat) (a2 : Int32) (a3 : Int32) (a4 : Int32) (a5 : Int32) (out : Int32), r9 M a0 a1 a2 a3 a4 a5 = some out → zgo none (d + 2) 21 9 [(0, zrf (some a0)), (1, zrf a1), (2, .int a2), (3, .int a3), (4, .int a4), (5, .int a5)] [] M (some (.int out), M)) : ∀ (M : ZMem) (o : Nat) (b1 : Option Nat) (b2 : Int32) (b3 : Int32) (b4 : Int32) (b5 : Int32) (b6 : Int32) (out : Int32), f_21_87 r9 M o b1 b2 b3 b4 b5 b6 = some out → zgo none (d + 2) 21 87 [(0, zrf (some o)), (1, zrf b1), (2, .int b2), (3, .int b3), (5, .int b4)] [.int b5, .int b6] M (some (.int out), M) := by
  intro M o b1 b2 b3 b4 b5 b6 out h
  unfold f_21_87 at h
  refine zo_ior (p' := 88) (zi_21 rfl) rfl ?_
  refine zo_istore (p' := 90) (L' := [(0, zrf (some o)), (1, zrf b1), (2, .int b2), (3, .int b3), (4, .int ((b6 ||| b5))), (5, .int b4)]) (zi_21 rfl) rfl zm_21_4 ⟨Or.inr ⟨by decide, rfl, fun q => absurd q (by decide)⟩, ⟨Or.inr ⟨by decide, rfl, fun q => absurd q (by decide)⟩, ⟨Or.inr ⟨by decide, rfl, fun q => absurd q (by decide)⟩, ⟨Or.inr ⟨by decide, rfl, fun _ => rfl⟩, ⟨Or.inl ⟨rfl, rfl⟩, ⟨Or.inr ⟨by decide, rfl, fun q => absurd q (by decide)⟩, trivial⟩⟩⟩⟩⟩⟩ ?_
  refine zo_goto (p' := 168) (zi_21 rfl) rfl ?_
  refine zgo_sub (L' := [(0, zrf (some o)), (1, zrf b1), (2, .int b2), (3, .int b3), (4, .int (((b6 ||| b5)))), (5, .int b4)]) (⟨rfl, rfl, rfl, rfl, rfl, rfl, trivial⟩) ?_
  exact k_21_168 _ _ (fun M a0 a1 a2 a3 a4 a5 out h => h9 M a0 a1 a2 a3 a4 a5 out h) M o b1 b2 b3 ((b6 ||| b5)) b4 _ h
set_option maxRecDepth 20000 in
theorem k_21_9 (d : Nat) : ∀ (z : Nat) (M : ZMem) (o : Nat) (b1 : Option Nat) (b2 : Int32) (b3 : Int32) (b4 : Int32) (b5 : Int32) (out : Int32), f_21_9 z M o b1 b2 b3 b4 b5 = some out → zgo none (d + 2) 21 9 [(0, zrf (some o)), (1, zrf b1), (2, .int b2), (3, .int b3), (4, .int b4), (5, .int b5)] [] M (some (.int out), M) := by
  intro z
  induction z with
  | zero => intro M o b1 b2 b3 b4 b5 out h; cases h
  | succ z ih =>
    intro M o b1 b2 b3 b4 b5 out h
    rw [f_21_9] at h
    refine zo_iload (p' := 11) (zi_21 rfl) rfl rfl ?_
    refine zo_aload_n (p' := 12) (zi_21 rfl) rfl rfl ?_
    obtain ⟨x1, hx2, g19⟩ := zb_of h
    refine zo_getI (p' := 15) (zi_21 rfl) rfl zl_6_15 hx2 ?_
    by_cases hc3 : x1 ≤ b5
    · rw [if_pos hc3] at g19
      refine zo_icT (p' := 174) (zi_21 rfl) rfl hc3 ?_
      refine zo_iconst (p' := 175) (v := 0) (zi_21 rfl) rfl rfl ?_
      refine zo_iload_n (p' := 176) (zi_21 rfl) rfl rfl ?_
      obtain ⟨x4, hx5, g20⟩ := zb_of g19
      refine zo_callSi (p' := 179) (as := [.int 0, .int b3]) (r := []) (zi_21 rfl) rfl (Or.inl zl_6_28) rfl rfl (Nat.le_of_ble_eq_true rfl) (Nat.le_of_ble_eq_true rfl) (k_24 _ hx5) ?_
      have g21 := Option.some.inj g20
      subst g21
      exact zo_iret (zi_21 rfl) rfl ⟨rfl, rfl⟩
    · rw [if_neg hc3] at g19
      refine zo_icF (p' := 18) (zi_21 rfl) rfl rfl hc3 ?_
      refine zo_aload_n (p' := 19) (zi_21 rfl) rfl rfl ?_
      obtain ⟨r6, hx7, g22⟩ := zb_of g19
      refine zo_getR (p' := 22) (zi_21 rfl) rfl zl_6_9 hx7 ?_
      refine zo_iload (p' := 24) (zi_21 rfl) rfl rfl ?_
      obtain ⟨q8, h0, g23⟩ := zb_of g22
      subst h0
      obtain ⟨x9, hx10, g24⟩ := zb_of g23
      refine zo_iald (p' := 25) (zi_21 rfl) rfl hx10 ?_
      refine zo_istore (p' := 27) (L' := [(0, zrf (some o)), (1, zrf b1), (2, .int b2), (3, .int b3), (4, .int b4), (5, .int b5), (6, .int x9)]) (zi_21 rfl) rfl zm_21_6 ⟨Or.inr ⟨by decide, rfl, fun q => absurd q (by decide)⟩, ⟨Or.inr ⟨by decide, rfl, fun q => absurd q (by decide)⟩, ⟨Or.inr ⟨by decide, rfl, fun q => absurd q (by decide)⟩, ⟨Or.inr ⟨by decide, rfl, fun q => absurd q (by decide)⟩, ⟨Or.inr ⟨by decide, rfl, fun q => absurd q (by decide)⟩, ⟨Or.inr ⟨by decide, rfl, fun _ => rfl⟩, ⟨Or.inl ⟨rfl, rfl⟩, trivial⟩⟩⟩⟩⟩⟩⟩ ?_
      refine zo_iload (p' := 29) (zi_21 rfl) rfl rfl ?_
      refine zo_bipush (p' := 31) (v := 24) (zi_21 rfl) rfl rfl ?_
      refine zo_ishr (p' := 32) (zi_21 rfl) rfl ?_
      by_cases hc11 : (x9 >>> (24 &&& 31)) = 0
      · rw [if_pos hc11] at g24
        refine zo_table (p' := 68) (n := 36) (zi_21 rfl) (by decide) (zsel_hit hc11 (by decide)) rfl ?_
        refine zo_iload (p' := 70) (zi_21 rfl) rfl rfl ?_
        refine zo_iconst (p' := 71) (v := 1) (zi_21 rfl) rfl rfl ?_
        refine zo_ishl (p' := 72) (zi_21 rfl) rfl ?_
        refine zo_iload (p' := 74) (zi_21 rfl) rfl rfl ?_
        refine zo_aload_n (p' := 75) (zi_21 rfl) rfl rfl ?_
        refine zo_iload_n (p' := 76) (zi_21 rfl) rfl rfl ?_
        obtain ⟨x16, hx17, g25⟩ := zb_of g24
        refine zo_callSi (p' := 79) (as := [.int x9, zrf b1, .int b2]) (r := [.int ((b4 <<< (1 &&& 31)))]) (zi_21 rfl) rfl (Or.inl zl_6_38) rfl rfl (Nat.le_of_ble_eq_true rfl) (by rw [zml_22]; simp [lg_sl, zrf_cat, zcat_i, zcat_l, zcat_r]; done) (k_22 _ hx17) ?_
        by_cases hc18 : x16 = 0
        · rw [if_pos hc18] at g25
          refine zo_ifT (p' := 86) (zi_21 rfl) rfl hc18 ?_
          refine zo_iconst (p' := 87) (v := 0) (zi_21 rfl) rfl rfl ?_
          refine zgo_sub (L' := [(0, zrf (some o)), (1, zrf b1), (2, .int b2), (3, .int b3), (5, .int b5)]) (⟨rfl, rfl, rfl, rfl, rfl, trivial⟩) ?_
          exact k_21_87 _ _ (fun M a0 a1 a2 a3 a4 a5 out h => ih M a0 a1 a2 a3 a4 a5 out h) M o b1 b2 b3 b5 0 ((b4 <<< (1 &&& 31))) _ g25
        · rw [if_neg hc18] at g25
          refine zo_ifF (p' := 82) (zi_21 rfl) rfl rfl hc18 ?_
          refine zo_iconst (p' := 83) (v := 1) (zi_21 rfl) rfl rfl ?_
          refine zo_goto (p' := 87) (zi_21 rfl) rfl ?_
          refine zgo_sub (L' := [(0, zrf (some o)), (1, zrf b1), (2, .int b2), (3, .int b3), (5, .int b5)]) (⟨rfl, rfl, rfl, rfl, rfl, trivial⟩) ?_
          exact k_21_87 _ _ (fun M a0 a1 a2 a3 a4 a5 out h => ih M a0 a1 a2 a3 a4 a5 out h) M o b1 b2 b3 b5 1 ((b4 <<< (1 &&& 31))) _ g25
      · rw [if_neg hc11] at g24
        by_cases hc12 : (x9 >>> (24 &&& 31)) = 1
        · rw [if_pos hc12] at g24
          refine zo_table (p' := 93) (n := 61) (zi_21 rfl) (by decide) (zsel_skip hc11 (by decide) (zsel_hit hc12 (by decide))) rfl ?_
          refine zo_iload (p' := 95) (zi_21 rfl) rfl rfl ?_
          refine zo_iconst (p' := 96) (v := 1) (zi_21 rfl) rfl rfl ?_
          refine zo_ixor (p' := 97) (zi_21 rfl) rfl ?_
          refine zo_istore (p' := 99) (L' := [(0, zrf (some o)), (1, zrf b1), (2, .int b2), (3, .int b3), (4, .int ((b4 ^^^ 1))), (5, .int b5), (6, .int x9)]) (zi_21 rfl) rfl zm_21_4 ⟨Or.inr ⟨by decide, rfl, fun q => absurd q (by decide)⟩, ⟨Or.inr ⟨by decide, rfl, fun q => absurd q (by decide)⟩, ⟨Or.inr ⟨by decide, rfl, fun q => absurd q (by decide)⟩, ⟨Or.inr ⟨by decide, rfl, fun _ => rfl⟩, ⟨Or.inl ⟨rfl, rfl⟩, ⟨Or.inr ⟨by decide, rfl, fun q => absurd q (by decide)⟩, ⟨Or.inr ⟨by decide, rfl, fun q => absurd q (by decide)⟩, trivial⟩⟩⟩⟩⟩⟩⟩ ?_
          refine zo_goto (p' := 168) (zi_21 rfl) rfl ?_
          refine zgo_sub (L' := [(0, zrf (some o)), (1, zrf b1), (2, .int b2), (3, .int b3), (4, .int (((b4 ^^^ 1)))), (5, .int b5)]) (⟨rfl, rfl, rfl, rfl, rfl, rfl, trivial⟩) ?_
          exact k_21_168 _ _ (fun M a0 a1 a2 a3 a4 a5 out h => ih M a0 a1 a2 a3 a4 a5 out h) M o b1 b2 b3 ((b4 ^^^ 1)) b5 _ g24
        · rw [if_neg hc12] at g24
          by_cases hc13 : (x9 >>> (24 &&& 31)) = 2
          · rw [if_pos hc13] at g24
            refine zo_table (p' := 102) (n := 70) (zi_21 rfl) (by decide) (zsel_skip hc11 (by decide) (zsel_skip hc12 (by decide) (zsel_hit hc13 (by decide)))) rfl ?_
            refine zo_iload (p' := 104) (zi_21 rfl) rfl rfl ?_
            refine zo_iconst (p' := 105) (v := 1) (zi_21 rfl) rfl rfl ?_
            refine zo_ishr (p' := 106) (zi_21 rfl) rfl ?_
            refine zo_iload (p' := 108) (zi_21 rfl) rfl rfl ?_
            refine zo_bipush (p' := 110) (v := (-2)) (zi_21 rfl) rfl rfl ?_
            refine zo_ior (p' := 111) (zi_21 rfl) rfl ?_
            refine zo_iand (p' := 112) (zi_21 rfl) rfl ?_
            refine zo_istore (p' := 114) (L' := [(0, zrf (some o)), (1, zrf b1), (2, .int b2), (3, .int b3), (4, .int (((b4 >>> (1 &&& 31)) &&& (b4 ||| (-2))))), (5, .int b5), (6, .int x9)]) (zi_21 rfl) rfl zm_21_4 ⟨Or.inr ⟨by decide, rfl, fun q => absurd q (by decide)⟩, ⟨Or.inr ⟨by decide, rfl, fun q => absurd q (by decide)⟩, ⟨Or.inr ⟨by decide, rfl, fun q => absurd q (by decide)⟩, ⟨Or.inr ⟨by decide, rfl, fun _ => rfl⟩, ⟨Or.inl ⟨rfl, rfl⟩, ⟨Or.inr ⟨by decide, rfl, fun q => absurd q (by decide)⟩, ⟨Or.inr ⟨by decide, rfl, fun q => absurd q (by decide)⟩, trivial⟩⟩⟩⟩⟩⟩⟩ ?_
            refine zo_goto (p' := 168) (zi_21 rfl) rfl ?_
            refine zgo_sub (L' := [(0, zrf (some o)), (1, zrf b1), (2, .int b2), (3, .int b3), (4, .int ((((b4 >>> (1 &&& 31)) &&& (b4 ||| (-2)))))), (5, .int b5)]) (⟨rfl, rfl, rfl, rfl, rfl, rfl, trivial⟩) ?_
            exact k_21_168 _ _ (fun M a0 a1 a2 a3 a4 a5 out h => ih M a0 a1 a2 a3 a4 a5 out h) M o b1 b2 b3 (((b4 >>> (1 &&& 31)) &&& (b4 ||| (-2)))) b5 _ g24
          · rw [if_neg hc13] at g24
            by_cases hc14 : (x9 >>> (24 &&& 31)) = 3
            · rw [if_pos hc14] at g24
              refine zo_table (p' := 117) (n := 85) (zi_21 rfl) (by decide) (zsel_skip hc11 (by decide) (zsel_skip hc12 (by decide) (zsel_skip hc13 (by decide) (zsel_hit hc14 (by decide))))) rfl ?_
              refine zo_iload (p' := 119) (zi_21 rfl) rfl rfl ?_
              refine zo_iconst (p' := 120) (v := 1) (zi_21 rfl) rfl rfl ?_
              refine zo_ishr (p' := 121) (zi_21 rfl) rfl ?_
              refine zo_iload (p' := 123) (zi_21 rfl) rfl rfl ?_
              refine zo_iconst (p' := 124) (v := 1) (zi_21 rfl) rfl rfl ?_
              refine zo_iand (p' := 125) (zi_21 rfl) rfl ?_
              refine zo_ior (p' := 126) (zi_21 rfl) rfl ?_
              refine zo_istore (p' := 128) (L' := [(0, zrf (some o)), (1, zrf b1), (2, .int b2), (3, .int b3), (4, .int (((b4 >>> (1 &&& 31)) ||| (b4 &&& 1)))), (5, .int b5), (6, .int x9)]) (zi_21 rfl) rfl zm_21_4 ⟨Or.inr ⟨by decide, rfl, fun q => absurd q (by decide)⟩, ⟨Or.inr ⟨by decide, rfl, fun q => absurd q (by decide)⟩, ⟨Or.inr ⟨by decide, rfl, fun q => absurd q (by decide)⟩, ⟨Or.inr ⟨by decide, rfl, fun _ => rfl⟩, ⟨Or.inl ⟨rfl, rfl⟩, ⟨Or.inr ⟨by decide, rfl, fun q => absurd q (by decide)⟩, ⟨Or.inr ⟨by decide, rfl, fun q => absurd q (by decide)⟩, trivial⟩⟩⟩⟩⟩⟩⟩ ?_
              refine zo_goto (p' := 168) (zi_21 rfl) rfl ?_
              refine zgo_sub (L' := [(0, zrf (some o)), (1, zrf b1), (2, .int b2), (3, .int b3), (4, .int ((((b4 >>> (1 &&& 31)) ||| (b4 &&& 1))))), (5, .int b5)]) (⟨rfl, rfl, rfl, rfl, rfl, rfl, trivial⟩) ?_
              exact k_21_168 _ _ (fun M a0 a1 a2 a3 a4 a5 out h => ih M a0 a1 a2 a3 a4 a5 out h) M o b1 b2 b3 (((b4 >>> (1 &&& 31)) ||| (b4 &&& 1))) b5 _ g24
            · rw [if_neg hc14] at g24
              by_cases hc15 : (x9 >>> (24 &&& 31)) = 4
              · rw [if_pos hc15] at g24
                refine zo_table (p' := 131) (n := 99) (zi_21 rfl) (by decide) (zsel_skip hc11 (by decide) (zsel_skip hc12 (by decide) (zsel_skip hc13 (by decide) (zsel_skip hc14 (by decide) (zsel_hit hc15 (by decide)))))) rfl ?_
                refine zo_iload_n (p' := 132) (zi_21 rfl) rfl rfl ?_
                refine zo_iload (p' := 134) (zi_21 rfl) rfl rfl ?_
                refine zo_iconst (p' := 135) (v := 1) (zi_21 rfl) rfl rfl ?_
                refine zo_iand (p' := 136) (zi_21 rfl) rfl ?_
                refine zo_iload (p' := 138) (zi_21 rfl) rfl rfl ?_
                refine zo_sipush (p' := 141) (v := 255) (zi_21 rfl) rfl rfl ?_
                refine zo_iand (p' := 142) (zi_21 rfl) rfl ?_
                refine zo_imul (p' := 143) (zi_21 rfl) rfl ?_
                refine zo_iadd (p' := 144) (zi_21 rfl) rfl ?_
                refine zo_istore_n (p' := 145) (L' := [(0, zrf (some o)), (1, zrf b1), (2, .int b2), (3, .int ((b3 + ((b4 &&& 1) * (x9 &&& 255))))), (4, .int b4), (5, .int b5), (6, .int x9)]) (zi_21 rfl) rfl zm_21_3 ⟨Or.inr ⟨by decide, rfl, fun q => absurd q (by decide)⟩, ⟨Or.inr ⟨by decide, rfl, fun q => absurd q (by decide)⟩, ⟨Or.inr ⟨by decide, rfl, fun _ => rfl⟩, ⟨Or.inl ⟨rfl, rfl⟩, ⟨Or.inr ⟨by decide, rfl, fun q => absurd q (by decide)⟩, ⟨Or.inr ⟨by decide, rfl, fun q => absurd q (by decide)⟩, ⟨Or.inr ⟨by decide, rfl, fun q => absurd q (by decide)⟩, trivial⟩⟩⟩⟩⟩⟩⟩ ?_
                refine zo_iconst (p' := 146) (v := 0) (zi_21 rfl) rfl rfl ?_
                refine zo_istore (p' := 148) (L' := [(0, zrf (some o)), (1, zrf b1), (2, .int b2), (3, .int ((b3 + ((b4 &&& 1) * (x9 &&& 255))))), (4, .int 0), (5, .int b5), (6, .int x9)]) (zi_21 rfl) rfl zm_21_4 ⟨Or.inr ⟨by decide, rfl, fun q => absurd q (by decide)⟩, ⟨Or.inr ⟨by decide, rfl, fun q => absurd q (by decide)⟩, ⟨Or.inr ⟨by decide, rfl, fun q => absurd q (by decide)⟩, ⟨Or.inr ⟨by decide, rfl, fun _ => rfl⟩, ⟨Or.inl ⟨rfl, rfl⟩, ⟨Or.inr ⟨by decide, rfl, fun q => absurd q (by decide)⟩, ⟨Or.inr ⟨by decide, rfl, fun q => absurd q (by decide)⟩, trivial⟩⟩⟩⟩⟩⟩⟩ ?_
                refine zo_goto (p' := 168) (zi_21 rfl) rfl ?_
                refine zgo_sub (L' := [(0, zrf (some o)), (1, zrf b1), (2, .int b2), (3, .int (((b3 + ((b4 &&& 1) * (x9 &&& 255)))))), (4, .int 0), (5, .int b5)]) (⟨rfl, rfl, rfl, rfl, rfl, rfl, trivial⟩) ?_
                exact k_21_168 _ _ (fun M a0 a1 a2 a3 a4 a5 out h => ih M a0 a1 a2 a3 a4 a5 out h) M o b1 b2 ((b3 + ((b4 &&& 1) * (x9 &&& 255)))) 0 b5 _ g24
              · rw [if_neg hc15] at g24
                refine zo_table (p' := 151) (n := 119) (zi_21 rfl) (by decide) (zsel_skip hc11 (by decide) (zsel_skip hc12 (by decide) (zsel_skip hc13 (by decide) (zsel_skip hc14 (by decide) (zsel_skip hc15 (by decide) (rfl)))))) rfl ?_
                refine zo_iload_n (p' := 152) (zi_21 rfl) rfl rfl ?_
                refine zo_iload (p' := 154) (zi_21 rfl) rfl rfl ?_
                refine zo_iconst (p' := 155) (v := 1) (zi_21 rfl) rfl rfl ?_
                refine zo_iand (p' := 156) (zi_21 rfl) rfl ?_
                refine zo_iload (p' := 158) (zi_21 rfl) rfl rfl ?_
                refine zo_sipush (p' := 161) (v := 255) (zi_21 rfl) rfl rfl ?_
                refine zo_iand (p' := 162) (zi_21 rfl) rfl ?_
                refine zo_imul (p' := 163) (zi_21 rfl) rfl ?_
                refine zo_isub (p' := 164) (zi_21 rfl) rfl ?_
                refine zo_istore_n (p' := 165) (L' := [(0, zrf (some o)), (1, zrf b1), (2, .int b2), (3, .int ((b3 - ((b4 &&& 1) * (x9 &&& 255))))), (4, .int b4), (5, .int b5), (6, .int x9)]) (zi_21 rfl) rfl zm_21_3 ⟨Or.inr ⟨by decide, rfl, fun q => absurd q (by decide)⟩, ⟨Or.inr ⟨by decide, rfl, fun q => absurd q (by decide)⟩, ⟨Or.inr ⟨by decide, rfl, fun _ => rfl⟩, ⟨Or.inl ⟨rfl, rfl⟩, ⟨Or.inr ⟨by decide, rfl, fun q => absurd q (by decide)⟩, ⟨Or.inr ⟨by decide, rfl, fun q => absurd q (by decide)⟩, ⟨Or.inr ⟨by decide, rfl, fun q => absurd q (by decide)⟩, trivial⟩⟩⟩⟩⟩⟩⟩ ?_
                refine zo_iconst (p' := 166) (v := 0) (zi_21 rfl) rfl rfl ?_
                refine zo_istore (p' := 168) (L' := [(0, zrf (some o)), (1, zrf b1), (2, .int b2), (3, .int ((b3 - ((b4 &&& 1) * (x9 &&& 255))))), (4, .int 0), (5, .int b5), (6, .int x9)]) (zi_21 rfl) rfl zm_21_4 ⟨Or.inr ⟨by decide, rfl, fun q => absurd q (by decide)⟩, ⟨Or.inr ⟨by decide, rfl, fun q => absurd q (by decide)⟩, ⟨Or.inr ⟨by decide, rfl, fun q => absurd q (by decide)⟩, ⟨Or.inr ⟨by decide, rfl, fun _ => rfl⟩, ⟨Or.inl ⟨rfl, rfl⟩, ⟨Or.inr ⟨by decide, rfl, fun q => absurd q (by decide)⟩, ⟨Or.inr ⟨by decide, rfl, fun q => absurd q (by decide)⟩, trivial⟩⟩⟩⟩⟩⟩⟩ ?_
                refine zgo_sub (L' := [(0, zrf (some o)), (1, zrf b1), (2, .int b2), (3, .int (((b3 - ((b4 &&& 1) * (x9 &&& 255)))))), (4, .int 0), (5, .int b5)]) (⟨rfl, rfl, rfl, rfl, rfl, rfl, trivial⟩) ?_
                exact k_21_168 _ _ (fun M a0 a1 a2 a3 a4 a5 out h => ih M a0 a1 a2 a3 a4 a5 out h) M o b1 b2 ((b3 - ((b4 &&& 1) * (x9 &&& 255)))) 0 b5 _ g24
def f_21 (M : ZMem) (o : Nat) (a0 : Option Nat) (a1 : Int32) : Option (Int32) := if zok M 3 o = true then (f_21_9 zF M o a0 a1 10 0 0) else none
theorem f_21_ok {M : ZMem} {o : Nat} {a0 : Option Nat} {a1 : Int32} {out : Int32} (h : f_21 M o a0 a1 = some out) : zok M 3 o = true := by
  unfold f_21 at h
  by_cases hok : zok M 3 o = true
  · exact hok
  · rw [if_neg hok] at h; cases h
set_option maxRecDepth 20000 in
theorem k_21 (d : Nat) {M : ZMem} {o : Nat} {a0 : Option Nat} {a1 : Int32} {out : Int32} (h : f_21 M o a0 a1 = some out) : zrn (d + 2) 21 [zrf (some o), zrf a0, .int a1] M (some (.int out), M) := by
  unfold f_21 at h
  by_cases hok : zok M 3 o = true
  · rw [if_pos hok] at h
    refine zrn_of (L := [(0, zrf (some o)), (1, zrf a0), (2, .int a1)]) (by simp [lv_args, zrf_cat, zcat_i, zcat_l, zcat_r]) ?_
    refine zo_bipush (p' := 2) (v := 10) (zi_21 rfl) rfl rfl ?_
    refine zo_istore_n (p' := 3) (L' := [(0, zrf (some o)), (1, zrf a0), (2, .int a1), (3, .int 10)]) (zi_21 rfl) rfl zm_21_3 ⟨Or.inr ⟨by decide, rfl, fun q => absurd q (by decide)⟩, ⟨Or.inr ⟨by decide, rfl, fun q => absurd q (by decide)⟩, ⟨Or.inr ⟨by decide, rfl, fun _ => rfl⟩, ⟨Or.inl ⟨rfl, rfl⟩, trivial⟩⟩⟩⟩ ?_
    refine zo_iconst (p' := 4) (v := 0) (zi_21 rfl) rfl rfl ?_
    refine zo_istore (p' := 6) (L' := [(0, zrf (some o)), (1, zrf a0), (2, .int a1), (3, .int 10), (4, .int 0)]) (zi_21 rfl) rfl zm_21_4 ⟨Or.inr ⟨by decide, rfl, fun q => absurd q (by decide)⟩, ⟨Or.inr ⟨by decide, rfl, fun q => absurd q (by decide)⟩, ⟨Or.inr ⟨by decide, rfl, fun q => absurd q (by decide)⟩, ⟨Or.inr ⟨by decide, rfl, fun _ => rfl⟩, ⟨Or.inl ⟨rfl, rfl⟩, trivial⟩⟩⟩⟩⟩ ?_
    refine zo_iconst (p' := 7) (v := 0) (zi_21 rfl) rfl rfl ?_
    refine zo_istore (p' := 9) (L' := [(0, zrf (some o)), (1, zrf a0), (2, .int a1), (3, .int 10), (4, .int 0), (5, .int 0)]) (zi_21 rfl) rfl zm_21_5 ⟨Or.inr ⟨by decide, rfl, fun q => absurd q (by decide)⟩, ⟨Or.inr ⟨by decide, rfl, fun q => absurd q (by decide)⟩, ⟨Or.inr ⟨by decide, rfl, fun q => absurd q (by decide)⟩, ⟨Or.inr ⟨by decide, rfl, fun q => absurd q (by decide)⟩, ⟨Or.inr ⟨by decide, rfl, fun _ => rfl⟩, ⟨Or.inl ⟨rfl, rfl⟩, trivial⟩⟩⟩⟩⟩⟩ ?_
    refine zgo_sub (L' := [(0, zrf (some o)), (1, zrf a0), (2, .int a1), (3, .int 10), (4, .int 0), (5, .int 0)]) (⟨rfl, rfl, rfl, rfl, rfl, rfl, trivial⟩) ?_
    exact k_21_9 _ zF M o a0 a1 10 0 0 _ h
  · rw [if_neg hok] at h; cases h
/-- SlateHalves.gripOf(III)I -/
def f_25_19 (M : ZMem) (b0 : Int32) (b1 : Int32) : Option (Int32) := zb (f_24 M 0 ((b1 - (b0 / 10)))) fun x3 => some x3
def f_25_10 (M : ZMem) (b0 : Int32) (b1 : Int32) : Option (Int32) := f_25_19 M b1 ((3 + (b0 / 3)))
set_option maxRecDepth 20000 in
theorem k_25_19 (d : Nat) : ∀ (M : ZMem) (b0 : Int32) (b1 : Int32) (out : Int32), f_25_19 M b0 b1 = some out → zgo none (d + 1) 25 19 [(2, .int b0)] [.int b1] M (some (.int out), M) := by
  intro M b0 b1 out h
  unfold f_25_19 at h
  refine zo_istore_n (p' := 20) (L' := [(2, .int b0), (3, .int b1)]) (zi_25 rfl) rfl zm_25_3 ⟨Or.inr ⟨by decide, rfl, fun _ => rfl⟩, ⟨Or.inl ⟨rfl, rfl⟩, trivial⟩⟩ ?_
  refine zo_iconst (p' := 21) (v := 0) (zi_25 rfl) rfl rfl ?_
  refine zo_iload_n (p' := 22) (zi_25 rfl) rfl rfl ?_
  refine zo_iload_n (p' := 23) (zi_25 rfl) rfl rfl ?_
  refine zo_bipush (p' := 25) (v := 10) (zi_25 rfl) rfl rfl ?_
  refine zo_idiv (p' := 26) (zi_25 rfl) rfl (by decide) ?_
  refine zo_isub (p' := 27) (zi_25 rfl) rfl ?_
  obtain ⟨x3, hx4, g5⟩ := zb_of h
  refine zo_callSi (p' := 30) (as := [.int 0, .int ((b1 - (b0 / 10)))]) (r := []) (zi_25 rfl) rfl (Or.inl zl_1_190) rfl rfl (Nat.le_of_ble_eq_true rfl) (Nat.le_of_ble_eq_true rfl) (k_24 _ hx4) ?_
  have g6 := Option.some.inj g5
  subst g6
  exact zo_iret (zi_25 rfl) rfl ⟨rfl, rfl⟩
set_option maxRecDepth 20000 in
theorem k_25_10 (d : Nat) : ∀ (M : ZMem) (b0 : Int32) (b1 : Int32) (out : Int32), f_25_10 M b0 b1 = some out → zgo none (d + 1) 25 10 [(1, .int b0), (2, .int b1)] [] M (some (.int out), M) := by
  intro M b0 b1 out h
  unfold f_25_10 at h
  refine zo_iconst (p' := 11) (v := 3) (zi_25 rfl) rfl rfl ?_
  refine zo_iload_n (p' := 12) (zi_25 rfl) rfl rfl ?_
  refine zo_iconst (p' := 13) (v := 3) (zi_25 rfl) rfl rfl ?_
  refine zo_idiv (p' := 14) (zi_25 rfl) rfl (by decide) ?_
  refine zo_iadd (p' := 15) (zi_25 rfl) rfl ?_
  refine zo_goto (p' := 19) (zi_25 rfl) rfl ?_
  refine zgo_sub (L' := [(2, .int b1)]) (⟨rfl, trivial⟩) ?_
  exact k_25_19 _ M b1 ((3 + (b0 / 3))) _ h
def f_25 (M : ZMem) (a0 : Int32) (a1 : Int32) (a2 : Int32) : Option (Int32) := if a0 = 1 then (f_25_10 M a1 a2) else (if ¬ a0 = 4 then (f_25_19 M a2 3) else (f_25_10 M a1 a2))
set_option maxRecDepth 20000 in
theorem k_25 (d : Nat) {M : ZMem} {a0 : Int32} {a1 : Int32} {a2 : Int32} {out : Int32} (h : f_25 M a0 a1 a2 = some out) : zrn (d + 1) 25 [.int a0, .int a1, .int a2] M (some (.int out), M) := by
  unfold f_25 at h
  refine zrn_of (L := [(0, .int a0), (1, .int a1), (2, .int a2)]) rfl ?_
  refine zo_iload_n (p' := 1) (zi_25 rfl) rfl rfl ?_
  refine zo_iconst (p' := 2) (v := 1) (zi_25 rfl) rfl rfl ?_
  by_cases hc1 : a0 = 1
  · rw [if_pos hc1] at h
    refine zo_icT (p' := 10) (zi_25 rfl) rfl hc1 ?_
    refine zgo_sub (L' := [(1, .int a1), (2, .int a2)]) (⟨rfl, rfl, trivial⟩) ?_
    exact k_25_10 _ M a1 a2 _ h
  · rw [if_neg hc1] at h
    refine zo_icF (p' := 5) (zi_25 rfl) rfl rfl hc1 ?_
    refine zo_iload_n (p' := 6) (zi_25 rfl) rfl rfl ?_
    refine zo_iconst (p' := 7) (v := 4) (zi_25 rfl) rfl rfl ?_
    by_cases hc2 : ¬ a0 = 4
    · rw [if_pos hc2] at h
      refine zo_icT (p' := 18) (zi_25 rfl) rfl hc2 ?_
      refine zo_iconst (p' := 19) (v := 3) (zi_25 rfl) rfl rfl ?_
      refine zgo_sub (L' := [(2, .int a2)]) (⟨rfl, trivial⟩) ?_
      exact k_25_19 _ M a2 3 _ h
    · rw [if_neg hc2] at h
      refine zo_icF (p' := 10) (zi_25 rfl) rfl rfl hc2 ?_
      refine zgo_sub (L' := [(1, .int a1), (2, .int a2)]) (⟨rfl, rfl, trivial⟩) ?_
      exact k_25_10 _ M a1 a2 _ h
/-- SlateHalves.driesOf(LSlateHalves$Block;I)I -/
def f_26 (M : ZMem) (a0 : Option Nat) (a1 : Int32) : Option (Int32) := zb a0 fun q1 => zb (zgi M 1 1 q1) fun x2 => if ¬ x2 = 5 then (some a1) else (some (a1 / 2))
set_option maxRecDepth 20000 in
theorem k_26 (d : Nat) {M : ZMem} {a0 : Option Nat} {a1 : Int32} {out : Int32} (h : f_26 M a0 a1 = some out) : zrn (d) 26 [zrf a0, .int a1] M (some (.int out), M) := by
  unfold f_26 at h
  refine zrn_of (L := [(0, zrf a0), (1, .int a1)]) (by simp [lv_args, zrf_cat, zcat_i, zcat_l, zcat_r]) ?_
  refine zo_aload_n (p' := 1) (zi_26 rfl) rfl rfl ?_
  obtain ⟨q1, h0, g5⟩ := zb_of h
  subst h0
  obtain ⟨x2, hx3, g6⟩ := zb_of g5
  refine zo_getI (p' := 4) (zi_26 rfl) rfl zl_1_120 hx3 ?_
  refine zo_iconst (p' := 5) (v := 5) (zi_26 rfl) rfl rfl ?_
  by_cases hc4 : ¬ x2 = 5
  · rw [if_pos hc4] at g6
    refine zo_icT (p' := 14) (zi_26 rfl) rfl hc4 ?_
    refine zo_iload_n (p' := 15) (zi_26 rfl) rfl rfl ?_
    have g7 := Option.some.inj g6
    subst g7
    exact zo_iret (zi_26 rfl) rfl ⟨rfl, rfl⟩
  · rw [if_neg hc4] at g6
    refine zo_icF (p' := 8) (zi_26 rfl) rfl rfl hc4 ?_
    refine zo_iload_n (p' := 9) (zi_26 rfl) rfl rfl ?_
    refine zo_iconst (p' := 10) (v := 2) (zi_26 rfl) rfl rfl ?_
    refine zo_idiv (p' := 11) (zi_26 rfl) rfl (by decide) ?_
    refine zo_goto (p' := 15) (zi_26 rfl) rfl ?_
    have g8 := Option.some.inj g6
    subst g8
    exact zo_iret (zi_26 rfl) rfl ⟨rfl, rfl⟩
/-- java/lang/Math.floorMod(II)I -/
def f_30 (M : ZMem) (a0 : Int32) (a1 : Int32) : Option (Int32) := if a1 = 0 then none else if 0 ≤ (a0 ^^^ a1) then (some (a0 - a0 / a1 * a1)) else (if (a0 - a0 / a1 * a1) = 0 then (some (a0 - a0 / a1 * a1)) else (some ((a0 - a0 / a1 * a1) + a1)))
set_option maxRecDepth 20000 in
theorem k_30 (d : Nat) {M : ZMem} {a0 : Int32} {a1 : Int32} {out : Int32} (h : f_30 M a0 a1 = some out) : zrn (d) 30 [.int a0, .int a1] M (some (.int out), M) := by
  unfold f_30 at h
  refine zrn_of (L := [(0, .int a0), (1, .int a1)]) rfl ?_
  refine zo_iload_n (p' := 1) (zi_30 rfl) rfl rfl ?_
  refine zo_iload_n (p' := 2) (zi_30 rfl) rfl rfl ?_
  by_cases hc1 : a1 = 0
  · rw [if_pos hc1] at h; cases h
  · rw [if_neg hc1] at h
    refine zo_irem (p' := 3) (zi_30 rfl) rfl hc1 ?_
    refine zo_istore_n (p' := 4) (L' := [(0, .int a0), (1, .int a1), (2, .int ((a0 - a0 / a1 * a1)))]) (zi_30 rfl) rfl zm_30_2 ⟨Or.inr ⟨by decide, rfl, fun q => absurd q (by decide)⟩, ⟨Or.inr ⟨by decide, rfl, fun _ => rfl⟩, ⟨Or.inl ⟨rfl, rfl⟩, trivial⟩⟩⟩ ?_
    refine zo_iload_n (p' := 5) (zi_30 rfl) rfl rfl ?_
    refine zo_iload_n (p' := 6) (zi_30 rfl) rfl rfl ?_
    refine zo_ixor (p' := 7) (zi_30 rfl) rfl ?_
    by_cases hc2 : 0 ≤ (a0 ^^^ a1)
    · rw [if_pos hc2] at h
      refine zo_ifT (p' := 18) (zi_30 rfl) rfl hc2 ?_
      refine zo_iload_n (p' := 19) (zi_30 rfl) rfl rfl ?_
      have g4 := Option.some.inj h
      subst g4
      exact zo_iret (zi_30 rfl) rfl ⟨rfl, rfl⟩
    · rw [if_neg hc2] at h
      refine zo_ifF (p' := 10) (zi_30 rfl) rfl rfl hc2 ?_
      refine zo_iload_n (p' := 11) (zi_30 rfl) rfl rfl ?_
      by_cases hc3 : (a0 - a0 / a1 * a1) = 0
      · rw [if_pos hc3] at h
        refine zo_ifT (p' := 18) (zi_30 rfl) rfl hc3 ?_
        refine zo_iload_n (p' := 19) (zi_30 rfl) rfl rfl ?_
        have g5 := Option.some.inj h
        subst g5
        exact zo_iret (zi_30 rfl) rfl ⟨rfl, rfl⟩
      · rw [if_neg hc3] at h
        refine zo_ifF (p' := 14) (zi_30 rfl) rfl rfl hc3 ?_
        refine zo_iload_n (p' := 15) (zi_30 rfl) rfl rfl ?_
        refine zo_iload_n (p' := 16) (zi_30 rfl) rfl rfl ?_
        refine zo_iadd (p' := 17) (zi_30 rfl) rfl ?_
        have g6 := Option.some.inj h
        subst g6
        exact zo_iret (zi_30 rfl) rfl ⟨rfl, rfl⟩
/-- SlateHalves$Blows.setAs(LSlateHalves$Block;III)V -/
def f_29_46 (M : ZMem) (o : Nat) (b1 : Int32) (b2 : Int32) (b3 : Option Nat) : Option (ZMem) := zb b3 fun q33 => zb (zpf M 2 2 q33 (.int b2) false) fun M34 => zb (zpf M34 2 3 o (.int ((b1 + 1))) false) fun M36 => some M36
set_option maxRecDepth 20000 in
theorem k_29_46 (d : Nat) : ∀ (M : ZMem) (o : Nat) (b1 : Int32) (b2 : Int32) (b3 : Option Nat) (out : ZMem), f_29_46 M o b1 b2 b3 = some out → zgo none (d + 2) 29 46 [(0, zrf (some o)), (2, .int b1)] [.int b2, zrf b3] M (none, out) := by
  intro M o b1 b2 b3 out h
  unfold f_29_46 at h
  obtain ⟨q33, h0, g38⟩ := zb_of h
  subst h0
  obtain ⟨M34, hx35, g39⟩ := zb_of g38
  refine zo_putI (p' := 49) (zi_29 rfl) rfl zl_8_48 (zpb_29 _) hx35 ?_
  refine zo_aload_n (p' := 50) (zi_29 rfl) rfl rfl ?_
  refine zo_iload_n (p' := 51) (zi_29 rfl) rfl rfl ?_
  refine zo_iconst (p' := 52) (v := 1) (zi_29 rfl) rfl rfl ?_
  refine zo_iadd (p' := 53) (zi_29 rfl) rfl ?_
  obtain ⟨M36, hx37, g40⟩ := zb_of g39
  refine zo_putI (p' := 56) (zi_29 rfl) rfl zl_8_9 (zpb_29 _) hx37 ?_
  have g41 := Option.some.inj g40
  subst g41
  exact zo_vret (zi_29 rfl) rfl
def f_29 (M : ZMem) (o : Nat) (a0 : Option Nat) (a1 : Int32) (a2 : Int32) (a3 : Int32) : Option (ZMem) := if zok M 2 o = true then (zb a0 fun q1 => zb (zgi M 1 1 q1) fun x2 => zb (zpf M 2 0 o (.int x2) false) fun M4 => zb (zgi M4 2 0 o) fun x6 => zb (f_25 M4 x6 a1 a2) fun x8 => zb (zpf M4 2 1 o (.int x8) false) fun M10 => zb (zgi M10 2 0 o) fun x12 => if ¬ x12 = 6 then (f_29_46 M10 o a1 0 (some o)) else (zb (zgr M10 1 6 q1) fun r15 => zb (f_30 M10 a3 4) fun x17 => zb r15 fun q19 => zb (zai M10 q19 x17) fun x20 => f_29_46 M10 o a1 x20 (some o))) else none
theorem f_29_ok {M : ZMem} {o : Nat} {a0 : Option Nat} {a1 : Int32} {a2 : Int32} {a3 : Int32} {out : ZMem} (h : f_29 M o a0 a1 a2 a3 = some out) : zok M 2 o = true := by
  unfold f_29 at h
  by_cases hok : zok M 2 o = true
  · exact hok
  · rw [if_neg hok] at h; cases h
set_option maxRecDepth 20000 in
theorem k_29 (d : Nat) {M : ZMem} {o : Nat} {a0 : Option Nat} {a1 : Int32} {a2 : Int32} {a3 : Int32} {out : ZMem} (h : f_29 M o a0 a1 a2 a3 = some out) : zrn (d + 2) 29 [zrf (some o), zrf a0, .int a1, .int a2, .int a3] M (none, out) := by
  unfold f_29 at h
  by_cases hok : zok M 2 o = true
  · rw [if_pos hok] at h
    refine zrn_of (L := [(0, zrf (some o)), (1, zrf a0), (2, .int a1), (3, .int a2), (4, .int a3)]) (by simp [lv_args, zrf_cat, zcat_i, zcat_l, zcat_r]) ?_
    refine zo_aload_n (p' := 1) (zi_29 rfl) rfl rfl ?_
    refine zo_aload_n (p' := 2) (zi_29 rfl) rfl rfl ?_
    obtain ⟨q1, h0, g22⟩ := zb_of h
    subst h0
    obtain ⟨x2, hx3, g23⟩ := zb_of g22
    refine zo_getI (p' := 5) (zi_29 rfl) rfl zl_8_27 hx3 ?_
    obtain ⟨M4, hx5, g24⟩ := zb_of g23
    refine zo_putI (p' := 8) (zi_29 rfl) rfl zl_8_30 (zpb_29 _) hx5 ?_
    refine zo_aload_n (p' := 9) (zi_29 rfl) rfl rfl ?_
    refine zo_aload_n (p' := 10) (zi_29 rfl) rfl rfl ?_
    obtain ⟨x6, hx7, g25⟩ := zb_of g24
    refine zo_getI (p' := 13) (zi_29 rfl) rfl zl_8_30 hx7 ?_
    refine zo_iload_n (p' := 14) (zi_29 rfl) rfl rfl ?_
    refine zo_iload_n (p' := 15) (zi_29 rfl) rfl rfl ?_
    obtain ⟨x8, hx9, g26⟩ := zb_of g25
    refine zo_callSi (p' := 18) (as := [.int x6, .int a1, .int a2]) (r := [zrf (some o)]) (zi_29 rfl) rfl (Or.inr zl_8_31) rfl rfl (Nat.le_of_ble_eq_true rfl) (Nat.le_of_ble_eq_true rfl) (k_25 _ hx9) ?_
    obtain ⟨M10, hx11, g27⟩ := zb_of g26
    refine zo_putI (p' := 21) (zi_29 rfl) rfl zl_8_35 (zpb_29 _) hx11 ?_
    refine zo_aload_n (p' := 22) (zi_29 rfl) rfl rfl ?_
    refine zo_aload_n (p' := 23) (zi_29 rfl) rfl rfl ?_
    obtain ⟨x12, hx13, g28⟩ := zb_of g27
    refine zo_getI (p' := 26) (zi_29 rfl) rfl zl_8_30 hx13 ?_
    refine zo_bipush (p' := 28) (v := 6) (zi_29 rfl) rfl rfl ?_
    by_cases hc14 : ¬ x12 = 6
    · rw [if_pos hc14] at g28
      refine zo_icT (p' := 45) (zi_29 rfl) rfl hc14 ?_
      refine zo_iconst (p' := 46) (v := 0) (zi_29 rfl) rfl rfl ?_
      refine zgo_sub (L' := [(0, zrf (some o)), (2, .int a1)]) (⟨rfl, rfl, trivial⟩) ?_
      exact k_29_46 _ M10 o a1 0 (some o) _ g28
    · rw [if_neg hc14] at g28
      refine zo_icF (p' := 31) (zi_29 rfl) rfl rfl hc14 ?_
      refine zo_aload_n (p' := 32) (zi_29 rfl) rfl rfl ?_
      obtain ⟨r15, hx16, g29⟩ := zb_of g28
      refine zo_getR (p' := 35) (zi_29 rfl) rfl zl_8_38 hx16 ?_
      refine zo_iload (p' := 37) (zi_29 rfl) rfl rfl ?_
      refine zo_iconst (p' := 38) (v := 4) (zi_29 rfl) rfl rfl ?_
      obtain ⟨x17, hx18, g30⟩ := zb_of g29
      refine zo_callSi (p' := 41) (as := [.int a3, .int 4]) (r := [zrf r15, zrf (some o)]) (zi_29 rfl) rfl (Or.inl zl_8_42) rfl rfl (by simp [zrf_cat, zcat_i, zcat_l, zcat_r]) (Nat.le_of_ble_eq_true rfl) (k_30 _ hx18) ?_
      obtain ⟨q19, h0, g31⟩ := zb_of g30
      subst h0
      obtain ⟨x20, hx21, g32⟩ := zb_of g31
      refine zo_iald (p' := 42) (zi_29 rfl) rfl hx21 ?_
      refine zo_goto (p' := 46) (zi_29 rfl) rfl ?_
      refine zgo_sub (L' := [(0, zrf (some o)), (2, .int a1)]) (⟨rfl, rfl, trivial⟩) ?_
      exact k_29_46 _ M10 o a1 x20 (some o) _ g32
  · rw [if_neg hok] at h; cases h
/-- SlateHalves$Hill.thinnest()I -/
def f_31 (M : ZMem) (o : Nat) : Option (Int32) := if zok M 3 o = true then (zb (zgi M 3 2 o) fun x1 => zb (f_24 M 1 x1) fun x3 => some x3) else none
theorem f_31_ok {M : ZMem} {o : Nat} {out : Int32} (h : f_31 M o = some out) : zok M 3 o = true := by
  unfold f_31 at h
  by_cases hok : zok M 3 o = true
  · exact hok
  · rw [if_neg hok] at h; cases h
set_option maxRecDepth 20000 in
theorem k_31 (d : Nat) {M : ZMem} {o : Nat} {out : Int32} (h : f_31 M o = some out) : zrn (d + 1) 31 [zrf (some o)] M (some (.int out), M) := by
  unfold f_31 at h
  by_cases hok : zok M 3 o = true
  · rw [if_pos hok] at h
    refine zrn_of (L := [(0, zrf (some o))]) rfl ?_
    refine zo_iconst (p' := 1) (v := 1) (zi_31 rfl) rfl rfl ?_
    refine zo_aload_n (p' := 2) (zi_31 rfl) rfl rfl ?_
    obtain ⟨x1, hx2, g5⟩ := zb_of h
    refine zo_getI (p' := 5) (zi_31 rfl) rfl zl_6_19 hx2 ?_
    obtain ⟨x3, hx4, g6⟩ := zb_of g5
    refine zo_callSi (p' := 8) (as := [.int 1, .int x1]) (r := []) (zi_31 rfl) rfl (Or.inl zl_6_28) rfl rfl (Nat.le_of_ble_eq_true rfl) (Nat.le_of_ble_eq_true rfl) (k_24 _ hx4) ?_
    have g7 := Option.some.inj g6
    subst g7
    exact zo_iret (zi_31 rfl) rfl ⟨rfl, rfl⟩
  · rw [if_neg hok] at h; cases h
/-- SlateHalves$Hill.thickest()I -/
def f_32 (M : ZMem) (o : Nat) : Option (Int32) := if zok M 3 o = true then (zb (f_31 M o) fun x1 => zb (zgi M 3 3 o) fun x3 => zb (f_24 M x1 x3) fun x5 => some x5) else none
theorem f_32_ok {M : ZMem} {o : Nat} {out : Int32} (h : f_32 M o = some out) : zok M 3 o = true := by
  unfold f_32 at h
  by_cases hok : zok M 3 o = true
  · exact hok
  · rw [if_neg hok] at h; cases h
set_option maxRecDepth 20000 in
theorem k_32 (d : Nat) {M : ZMem} {o : Nat} {out : Int32} (h : f_32 M o = some out) : zrn (d + 2) 32 [zrf (some o)] M (some (.int out), M) := by
  unfold f_32 at h
  by_cases hok : zok M 3 o = true
  · rw [if_pos hok] at h
    refine zrn_of (L := [(0, zrf (some o))]) rfl ?_
    refine zo_aload_n (p' := 1) (zi_32 rfl) rfl rfl ?_
    obtain ⟨x1, hx2, g7⟩ := zb_of h
    refine zo_callVi (p' := 4) (t := 3) (as := []) (r := []) (zi_32 rfl) rfl zl_6_34 rfl rfl (Or.inl ⟨by decide, rfl⟩) (Nat.le_of_ble_eq_true rfl) (Nat.le_of_ble_eq_true rfl) (f_31_ok hx2) (k_31 _ hx2) ?_
    refine zo_aload_n (p' := 5) (zi_32 rfl) rfl rfl ?_
    obtain ⟨x3, hx4, g8⟩ := zb_of g7
    refine zo_getI (p' := 8) (zi_32 rfl) rfl zl_6_22 hx4 ?_
    obtain ⟨x5, hx6, g9⟩ := zb_of g8
    refine zo_callSi (p' := 11) (as := [.int x1, .int x3]) (r := []) (zi_32 rfl) rfl (Or.inl zl_6_28) rfl rfl (Nat.le_of_ble_eq_true rfl) (Nat.le_of_ble_eq_true rfl) (k_24 _ hx6) ?_
    have g10 := Option.some.inj g9
    subst g10
    exact zo_iret (zi_32 rfl) rfl ⟨rfl, rfl⟩
  · rw [if_neg hok] at h; cases h
/-- SlateHalves$Valuer.setBy(LSlateHalves$Block;ILSlateHalves$Hill;)V -/
def f_28 (M : ZMem) (o : Nat) (a0 : Option Nat) (a1 : Int32) (a2 : Option Nat) : Option (ZMem) := if zok M 9 o = true then (zb (zgr M 9 0 o) fun r1 => zb a0 fun q3 => zb (zgi M 1 2 q3) fun x4 => zb (zgi M 1 4 q3) fun x6 => zb r1 fun q8 => zb (f_29 M q8 (some q3) x4 x6 a1) fun M11 => zb a2 fun q12 => zb (f_31 M11 q12) fun x13 => zb (zpf M11 9 3 o (.int x13) false) fun M15 => zb (f_32 M15 q12) fun x17 => zb (zpf M15 9 4 o (.int x17) false) fun M19 => zb (f_21 M19 q12 (some q3) a1) fun x21 => zb (zpf M19 9 5 o (.int x21) false) fun M23 => zb (zgi M23 9 5 o) fun x25 => zb (zpf M23 9 6 o (.int ((x25 / 2))) false) fun M27 => some M27) else none
theorem f_28_ok {M : ZMem} {o : Nat} {a0 : Option Nat} {a1 : Int32} {a2 : Option Nat} {out : ZMem} (h : f_28 M o a0 a1 a2 = some out) : zok M 9 o = true := by
  unfold f_28 at h
  by_cases hok : zok M 9 o = true
  · exact hok
  · rw [if_neg hok] at h; cases h
set_option maxRecDepth 20000 in
theorem k_28 (d : Nat) {M : ZMem} {o : Nat} {a0 : Option Nat} {a1 : Int32} {a2 : Option Nat} {out : ZMem} (h : f_28 M o a0 a1 a2 = some out) : zrn (d + 3) 28 [zrf (some o), zrf a0, .int a1, zrf a2] M (none, out) := by
  unfold f_28 at h
  by_cases hok : zok M 9 o = true
  · rw [if_pos hok] at h
    refine zrn_of (L := [(0, zrf (some o)), (1, zrf a0), (2, .int a1), (3, zrf a2)]) (by simp [lv_args, zrf_cat, zcat_i, zcat_l, zcat_r]) ?_
    refine zo_aload_n (p' := 1) (zi_28 rfl) rfl rfl ?_
    obtain ⟨r1, hx2, g29⟩ := zb_of h
    refine zo_getR (p' := 4) (zi_28 rfl) rfl zl_9_12 hx2 ?_
    refine zo_aload_n (p' := 5) (zi_28 rfl) rfl rfl ?_
    refine zo_aload_n (p' := 6) (zi_28 rfl) rfl rfl ?_
    obtain ⟨q3, h0, g30⟩ := zb_of g29
    subst h0
    obtain ⟨x4, hx5, g31⟩ := zb_of g30
    refine zo_getI (p' := 9) (zi_28 rfl) rfl zl_9_25 hx5 ?_
    refine zo_aload_n (p' := 10) (zi_28 rfl) rfl rfl ?_
    obtain ⟨x6, hx7, g32⟩ := zb_of g31
    refine zo_getI (p' := 13) (zi_28 rfl) rfl zl_9_31 hx7 ?_
    refine zo_iload_n (p' := 14) (zi_28 rfl) rfl rfl ?_
    obtain ⟨q8, h0, g33⟩ := zb_of g32
    subst h0
    obtain ⟨M11, hx10, g34⟩ := zb_of g33
    refine zo_callVv (p' := 17) (t := 2) (as := [zrf (some q3), .int x4, .int x6, .int a1]) (r := []) (zi_28 rfl) rfl zl_9_34 rfl rfl (Or.inl ⟨by decide, rfl⟩) (Nat.le_of_ble_eq_true rfl) (Nat.le_of_ble_eq_true rfl) (f_29_ok hx10) (k_29 _ hx10) ?_
    refine zo_aload_n (p' := 18) (zi_28 rfl) rfl rfl ?_
    refine zo_aload_n (p' := 19) (zi_28 rfl) rfl rfl ?_
    obtain ⟨q12, h0, g35⟩ := zb_of g34
    subst h0
    obtain ⟨x13, hx14, g36⟩ := zb_of g35
    refine zo_callVi (p' := 22) (t := 3) (as := []) (r := [zrf (some o)]) (zi_28 rfl) rfl zl_9_38 rfl rfl (Or.inl ⟨by decide, rfl⟩) (Nat.le_of_ble_eq_true rfl) (Nat.le_of_ble_eq_true rfl) (f_31_ok hx14) (k_31 _ hx14) ?_
    obtain ⟨M15, hx16, g37⟩ := zb_of g36
    refine zo_putI (p' := 25) (zi_28 rfl) rfl zl_9_44 (zpb_28 _) hx16 ?_
    refine zo_aload_n (p' := 26) (zi_28 rfl) rfl rfl ?_
    refine zo_aload_n (p' := 27) (zi_28 rfl) rfl rfl ?_
    obtain ⟨x17, hx18, g38⟩ := zb_of g37
    refine zo_callVi (p' := 30) (t := 3) (as := []) (r := [zrf (some o)]) (zi_28 rfl) rfl zl_9_47 rfl rfl (Or.inl ⟨by decide, rfl⟩) (Nat.le_of_ble_eq_true rfl) (Nat.le_of_ble_eq_true rfl) (f_32_ok hx18) (k_32 _ hx18) ?_
    obtain ⟨M19, hx20, g39⟩ := zb_of g38
    refine zo_putI (p' := 33) (zi_28 rfl) rfl zl_9_50 (zpb_28 _) hx20 ?_
    refine zo_aload_n (p' := 34) (zi_28 rfl) rfl rfl ?_
    refine zo_aload_n (p' := 35) (zi_28 rfl) rfl rfl ?_
    refine zo_aload_n (p' := 36) (zi_28 rfl) rfl rfl ?_
    refine zo_iload_n (p' := 37) (zi_28 rfl) rfl rfl ?_
    obtain ⟨x21, hx22, g40⟩ := zb_of g39
    refine zo_callVi (p' := 40) (t := 3) (as := [zrf (some q3), .int a1]) (r := [zrf (some o)]) (zi_28 rfl) rfl zl_9_53 rfl rfl (Or.inl ⟨by decide, rfl⟩) (Nat.le_of_ble_eq_true rfl) (Nat.le_of_ble_eq_true rfl) (f_21_ok hx22) (k_21 _ hx22) ?_
    obtain ⟨M23, hx24, g41⟩ := zb_of g40
    refine zo_putI (p' := 43) (zi_28 rfl) rfl zl_9_57 (zpb_28 _) hx24 ?_
    refine zo_aload_n (p' := 44) (zi_28 rfl) rfl rfl ?_
    refine zo_aload_n (p' := 45) (zi_28 rfl) rfl rfl ?_
    obtain ⟨x25, hx26, g42⟩ := zb_of g41
    refine zo_getI (p' := 48) (zi_28 rfl) rfl zl_9_57 hx26 ?_
    refine zo_iconst (p' := 49) (v := 2) (zi_28 rfl) rfl rfl ?_
    refine zo_idiv (p' := 50) (zi_28 rfl) rfl (by decide) ?_
    obtain ⟨M27, hx28, g43⟩ := zb_of g42
    refine zo_putI (p' := 53) (zi_28 rfl) rfl zl_9_60 (zpb_28 _) hx28 ?_
    have g44 := Option.some.inj g43
    subst g44
    exact zo_vret (zi_28 rfl) rfl
  · rw [if_neg hok] at h; cases h
/-- SlateHalves$Valuer.worthOf(I)I -/
def f_33 (M : ZMem) (o : Nat) (a0 : Int32) : Option (Int32) := if zok M 9 o = true then (zb (zgi M 9 3 o) fun x1 => if a0 < x1 then (some 0) else (zb (zgi M 9 4 o) fun x4 => if a0 ≤ (2 * x4) then (zb (zgi M 9 4 o) fun x7 => if x7 < a0 then (zb (zgi M 9 6 o) fun x10 => some x10) else (zb (zgi M 9 5 o) fun x12 => some x12)) else (some 0))) else none
theorem f_33_ok {M : ZMem} {o : Nat} {a0 : Int32} {out : Int32} (h : f_33 M o a0 = some out) : zok M 9 o = true := by
  unfold f_33 at h
  by_cases hok : zok M 9 o = true
  · exact hok
  · rw [if_neg hok] at h; cases h
set_option maxRecDepth 20000 in
theorem k_33 (d : Nat) {M : ZMem} {o : Nat} {a0 : Int32} {out : Int32} (h : f_33 M o a0 = some out) : zrn (d) 33 [zrf (some o), .int a0] M (some (.int out), M) := by
  unfold f_33 at h
  by_cases hok : zok M 9 o = true
  · rw [if_pos hok] at h
    refine zrn_of (L := [(0, zrf (some o)), (1, .int a0)]) rfl ?_
    refine zo_iload_n (p' := 1) (zi_33 rfl) rfl rfl ?_
    refine zo_aload_n (p' := 2) (zi_33 rfl) rfl rfl ?_
    obtain ⟨x1, hx2, g14⟩ := zb_of h
    refine zo_getI (p' := 5) (zi_33 rfl) rfl zl_9_44 hx2 ?_
    by_cases hc3 : a0 < x1
    · rw [if_pos hc3] at g14
      refine zo_icT (p' := 18) (zi_33 rfl) rfl hc3 ?_
      refine zo_iconst (p' := 19) (v := 0) (zi_33 rfl) rfl rfl ?_
      have g15 := Option.some.inj g14
      subst g15
      exact zo_iret (zi_33 rfl) rfl ⟨rfl, rfl⟩
    · rw [if_neg hc3] at g14
      refine zo_icF (p' := 8) (zi_33 rfl) rfl rfl hc3 ?_
      refine zo_iload_n (p' := 9) (zi_33 rfl) rfl rfl ?_
      refine zo_iconst (p' := 10) (v := 2) (zi_33 rfl) rfl rfl ?_
      refine zo_aload_n (p' := 11) (zi_33 rfl) rfl rfl ?_
      obtain ⟨x4, hx5, g16⟩ := zb_of g14
      refine zo_getI (p' := 14) (zi_33 rfl) rfl zl_9_50 hx5 ?_
      refine zo_imul (p' := 15) (zi_33 rfl) rfl ?_
      by_cases hc6 : a0 ≤ (2 * x4)
      · rw [if_pos hc6] at g16
        refine zo_icT (p' := 20) (zi_33 rfl) rfl hc6 ?_
        refine zo_iload_n (p' := 21) (zi_33 rfl) rfl rfl ?_
        refine zo_aload_n (p' := 22) (zi_33 rfl) rfl rfl ?_
        obtain ⟨x7, hx8, g17⟩ := zb_of g16
        refine zo_getI (p' := 25) (zi_33 rfl) rfl zl_9_50 hx8 ?_
        by_cases hc9 : x7 < a0
        · rw [if_pos hc9] at g17
          refine zo_icT (p' := 35) (zi_33 rfl) rfl hc9 ?_
          refine zo_aload_n (p' := 36) (zi_33 rfl) rfl rfl ?_
          obtain ⟨x10, hx11, g18⟩ := zb_of g17
          refine zo_getI (p' := 39) (zi_33 rfl) rfl zl_9_60 hx11 ?_
          have g19 := Option.some.inj g18
          subst g19
          exact zo_iret (zi_33 rfl) rfl ⟨rfl, rfl⟩
        · rw [if_neg hc9] at g17
          refine zo_icF (p' := 28) (zi_33 rfl) rfl rfl hc9 ?_
          refine zo_aload_n (p' := 29) (zi_33 rfl) rfl rfl ?_
          obtain ⟨x12, hx13, g20⟩ := zb_of g17
          refine zo_getI (p' := 32) (zi_33 rfl) rfl zl_9_57 hx13 ?_
          refine zo_goto (p' := 39) (zi_33 rfl) rfl ?_
          have g21 := Option.some.inj g20
          subst g21
          exact zo_iret (zi_33 rfl) rfl ⟨rfl, rfl⟩
      · rw [if_neg hc6] at g16
        refine zo_icF (p' := 18) (zi_33 rfl) rfl rfl hc6 ?_
        refine zo_iconst (p' := 19) (v := 0) (zi_33 rfl) rfl rfl ?_
        have g22 := Option.some.inj g16
        subst g22
        exact zo_iret (zi_33 rfl) rfl ⟨rfl, rfl⟩
  · rw [if_neg hok] at h; cases h
/-- java/lang/Math.min(II)I -/
def f_37 (M : ZMem) (a0 : Int32) (a1 : Int32) : Option (Int32) := if a1 < a0 then (some a1) else (some a0)
set_option maxRecDepth 20000 in
theorem k_37 (d : Nat) {M : ZMem} {a0 : Int32} {a1 : Int32} {out : Int32} (h : f_37 M a0 a1 = some out) : zrn (d) 37 [.int a0, .int a1] M (some (.int out), M) := by
  unfold f_37 at h
  refine zrn_of (L := [(0, .int a0), (1, .int a1)]) rfl ?_
  refine zo_iload_n (p' := 1) (zi_37 rfl) rfl rfl ?_
  refine zo_iload_n (p' := 2) (zi_37 rfl) rfl rfl ?_
  by_cases hc1 : a1 < a0
  · rw [if_pos hc1] at h
    refine zo_icT (p' := 9) (zi_37 rfl) rfl hc1 ?_
    refine zo_iload_n (p' := 10) (zi_37 rfl) rfl rfl ?_
    have g2 := Option.some.inj h
    subst g2
    exact zo_iret (zi_37 rfl) rfl ⟨rfl, rfl⟩
  · rw [if_neg hc1] at h
    refine zo_icF (p' := 5) (zi_37 rfl) rfl rfl hc1 ?_
    refine zo_iload_n (p' := 6) (zi_37 rfl) rfl rfl ?_
    refine zo_goto (p' := 10) (zi_37 rfl) rfl ?_
    have g3 := Option.some.inj h
    subst g3
    exact zo_iret (zi_37 rfl) rfl ⟨rfl, rfl⟩
/-- SlateHalves$Valuer.limited(I)I -/
def f_36 (M : ZMem) (a0 : Int32) : Option (Int32) := zb (f_37 M 60 a0) fun x1 => zb (f_24 M 0 x1) fun x3 => some x3
set_option maxRecDepth 20000 in
theorem k_36 (d : Nat) {M : ZMem} {a0 : Int32} {out : Int32} (h : f_36 M a0 = some out) : zrn (d + 1) 36 [.int a0] M (some (.int out), M) := by
  unfold f_36 at h
  refine zrn_of (L := [(0, .int a0)]) rfl ?_
  refine zo_iconst (p' := 1) (v := 0) (zi_36 rfl) rfl rfl ?_
  refine zo_bipush (p' := 3) (v := 60) (zi_36 rfl) rfl rfl ?_
  refine zo_iload_n (p' := 4) (zi_36 rfl) rfl rfl ?_
  obtain ⟨x1, hx2, g5⟩ := zb_of h
  refine zo_callSi (p' := 7) (as := [.int 60, .int a0]) (r := [.int 0]) (zi_36 rfl) rfl (Or.inl zl_9_84) rfl rfl (Nat.le_of_ble_eq_true rfl) (Nat.le_of_ble_eq_true rfl) (k_37 _ hx2) ?_
  obtain ⟨x3, hx4, g6⟩ := zb_of g5
  refine zo_callSi (p' := 10) (as := [.int 0, .int x1]) (r := []) (zi_36 rfl) rfl (Or.inl zl_9_90) rfl rfl (Nat.le_of_ble_eq_true rfl) (Nat.le_of_ble_eq_true rfl) (k_24 _ hx4) ?_
  have g7 := Option.some.inj g6
  subst g7
  exact zo_iret (zi_36 rfl) rfl ⟨rfl, rfl⟩
/-- SlateHalves$Blows.greatestNear(I)I -/
def f_38 (M : ZMem) (o : Nat) (a0 : Int32) : Option (Int32) := if zok M 2 o = true then (zb (zgi M 2 2 o) fun x1 => zb (zgi M 2 1 o) fun x3 => zb (f_37 M ((a0 - 1)) ((((a0 + x1) + x3) >>> (1 &&& 31)))) fun x5 => some x5) else none
theorem f_38_ok {M : ZMem} {o : Nat} {a0 : Int32} {out : Int32} (h : f_38 M o a0 = some out) : zok M 2 o = true := by
  unfold f_38 at h
  by_cases hok : zok M 2 o = true
  · exact hok
  · rw [if_neg hok] at h; cases h
set_option maxRecDepth 20000 in
theorem k_38 (d : Nat) {M : ZMem} {o : Nat} {a0 : Int32} {out : Int32} (h : f_38 M o a0 = some out) : zrn (d + 1) 38 [zrf (some o), .int a0] M (some (.int out), M) := by
  unfold f_38 at h
  by_cases hok : zok M 2 o = true
  · rw [if_pos hok] at h
    refine zrn_of (L := [(0, zrf (some o)), (1, .int a0)]) rfl ?_
    refine zo_iload_n (p' := 1) (zi_38 rfl) rfl rfl ?_
    refine zo_iconst (p' := 2) (v := 1) (zi_38 rfl) rfl rfl ?_
    refine zo_isub (p' := 3) (zi_38 rfl) rfl ?_
    refine zo_iload_n (p' := 4) (zi_38 rfl) rfl rfl ?_
    refine zo_aload_n (p' := 5) (zi_38 rfl) rfl rfl ?_
    obtain ⟨x1, hx2, g7⟩ := zb_of h
    refine zo_getI (p' := 8) (zi_38 rfl) rfl zl_8_48 hx2 ?_
    refine zo_iadd (p' := 9) (zi_38 rfl) rfl ?_
    refine zo_aload_n (p' := 10) (zi_38 rfl) rfl rfl ?_
    obtain ⟨x3, hx4, g8⟩ := zb_of g7
    refine zo_getI (p' := 13) (zi_38 rfl) rfl zl_8_35 hx4 ?_
    refine zo_iadd (p' := 14) (zi_38 rfl) rfl ?_
    refine zo_iconst (p' := 15) (v := 1) (zi_38 rfl) rfl rfl ?_
    refine zo_ishr (p' := 16) (zi_38 rfl) rfl ?_
    obtain ⟨x5, hx6, g9⟩ := zb_of g8
    refine zo_callSi (p' := 19) (as := [.int ((a0 - 1)), .int ((((a0 + x1) + x3) >>> (1 &&& 31)))]) (r := []) (zi_38 rfl) rfl (Or.inl zl_8_54) rfl rfl (Nat.le_of_ble_eq_true rfl) (Nat.le_of_ble_eq_true rfl) (k_37 _ hx6) ?_
    have g10 := Option.some.inj g9
    subst g10
    exact zo_iret (zi_38 rfl) rfl ⟨rfl, rfl⟩
  · rw [if_neg hok] at h; cases h
/-- SlateHalves$Blows.leastNear(I)I -/
def f_39 (M : ZMem) (o : Nat) (a0 : Int32) : Option (Int32) := if zok M 2 o = true then (zb (zgi M 2 2 o) fun x1 => zb (zgi M 2 1 o) fun x3 => zb (f_24 M 1 (((((a0 + x1) - x3) + 1) >>> (1 &&& 31)))) fun x5 => some x5) else none
theorem f_39_ok {M : ZMem} {o : Nat} {a0 : Int32} {out : Int32} (h : f_39 M o a0 = some out) : zok M 2 o = true := by
  unfold f_39 at h
  by_cases hok : zok M 2 o = true
  · exact hok
  · rw [if_neg hok] at h; cases h
set_option maxRecDepth 20000 in
theorem k_39 (d : Nat) {M : ZMem} {o : Nat} {a0 : Int32} {out : Int32} (h : f_39 M o a0 = some out) : zrn (d + 1) 39 [zrf (some o), .int a0] M (some (.int out), M) := by
  unfold f_39 at h
  by_cases hok : zok M 2 o = true
  · rw [if_pos hok] at h
    refine zrn_of (L := [(0, zrf (some o)), (1, .int a0)]) rfl ?_
    refine zo_iconst (p' := 1) (v := 1) (zi_39 rfl) rfl rfl ?_
    refine zo_iload_n (p' := 2) (zi_39 rfl) rfl rfl ?_
    refine zo_aload_n (p' := 3) (zi_39 rfl) rfl rfl ?_
    obtain ⟨x1, hx2, g7⟩ := zb_of h
    refine zo_getI (p' := 6) (zi_39 rfl) rfl zl_8_48 hx2 ?_
    refine zo_iadd (p' := 7) (zi_39 rfl) rfl ?_
    refine zo_aload_n (p' := 8) (zi_39 rfl) rfl rfl ?_
    obtain ⟨x3, hx4, g8⟩ := zb_of g7
    refine zo_getI (p' := 11) (zi_39 rfl) rfl zl_8_35 hx4 ?_
    refine zo_isub (p' := 12) (zi_39 rfl) rfl ?_
    refine zo_iconst (p' := 13) (v := 1) (zi_39 rfl) rfl rfl ?_
    refine zo_iadd (p' := 14) (zi_39 rfl) rfl ?_
    refine zo_iconst (p' := 15) (v := 1) (zi_39 rfl) rfl rfl ?_
    refine zo_ishr (p' := 16) (zi_39 rfl) rfl ?_
    obtain ⟨x5, hx6, g9⟩ := zb_of g8
    refine zo_callSi (p' := 19) (as := [.int 1, .int (((((a0 + x1) - x3) + 1) >>> (1 &&& 31)))]) (r := []) (zi_39 rfl) rfl (Or.inl zl_8_51) rfl rfl (Nat.le_of_ble_eq_true rfl) (Nat.le_of_ble_eq_true rfl) (k_24 _ hx6) ?_
    have g10 := Option.some.inj g9
    subst g10
    exact zo_iret (zi_39 rfl) rfl ⟨rfl, rfl⟩
  · rw [if_neg hok] at h; cases h
/-- SlateHalves$Blows.isCleanAt(II)Z -/
def f_41_72 (M : ZMem) (o : Nat) (b1 : Int32) (b2 : Int32) : Option (Int32) := if ¬ b2 = 0 then (some 1) else (zb (zgi M 2 3 o) fun x28 => if ¬ b1 = x28 then (some 0) else (some 1))
def f_41_91 (M : ZMem) (o : Nat) (b1 : Int32) (b2 : Int32) : Option (Int32) := if b2 = 0 then (some 0) else (zb (zgi M 2 3 o) fun x36 => if b1 = x36 then (some 0) else (some 1))
def f_41_33 (M : ZMem) (o : Nat) (b1 : Int32) (b2 : Int32) (b3 : Int32) : Option (Int32) := zb (zgi M 2 0 o) fun x12 => if x12 = 2 then (f_41_72 M o b2 b3) else (if x12 = 3 then (f_41_91 M o b2 b3) else (if x12 = 4 then (if b3 = 0 then (some 0) else (if b1 < 4 then (some 0) else (some 1))) else (if x12 = 5 then (f_41_72 M o b2 b3) else (if x12 = 6 then (f_41_91 M o b2 b3) else (if narrow .boolean (.int b3) = .int b3 then some b3 else none)))))
def f_41_32 (M : ZMem) (o : Nat) (b1 : Int32) (b2 : Int32) : Option (Int32) := f_41_33 M o b1 b2 0
set_option maxRecDepth 20000 in
theorem k_41_72 (d : Nat) : ∀ (M : ZMem) (o : Nat) (b1 : Int32) (b2 : Int32) (out : Int32), f_41_72 M o b1 b2 = some out → zgo none (d) 41 72 [(0, zrf (some o)), (2, .int b1), (4, .int b2)] [] M (some (.int out), M) := by
  intro M o b1 b2 out h
  unfold f_41_72 at h
  refine zo_iload (p' := 74) (zi_41 rfl) rfl rfl ?_
  by_cases hc27 : ¬ b2 = 0
  · rw [if_pos hc27] at h
    refine zo_ifT (p' := 85) (zi_41 rfl) rfl hc27 ?_
    refine zo_iconst (p' := 86) (v := 1) (zi_41 rfl) rfl rfl ?_
    refine zo_goto (p' := 90) (zi_41 rfl) rfl ?_
    have g31 := Option.some.inj h
    subst g31
    exact zo_iret (zi_41 rfl) rfl ⟨rfl, rfl⟩
  · rw [if_neg hc27] at h
    refine zo_ifF (p' := 77) (zi_41 rfl) rfl rfl hc27 ?_
    refine zo_iload_n (p' := 78) (zi_41 rfl) rfl rfl ?_
    refine zo_aload_n (p' := 79) (zi_41 rfl) rfl rfl ?_
    obtain ⟨x28, hx29, g32⟩ := zb_of h
    refine zo_getI (p' := 82) (zi_41 rfl) rfl zl_8_9 hx29 ?_
    by_cases hc30 : ¬ b1 = x28
    · rw [if_pos hc30] at g32
      refine zo_icT (p' := 89) (zi_41 rfl) rfl hc30 ?_
      refine zo_iconst (p' := 90) (v := 0) (zi_41 rfl) rfl rfl ?_
      have g33 := Option.some.inj g32
      subst g33
      exact zo_iret (zi_41 rfl) rfl ⟨rfl, rfl⟩
    · rw [if_neg hc30] at g32
      refine zo_icF (p' := 85) (zi_41 rfl) rfl rfl hc30 ?_
      refine zo_iconst (p' := 86) (v := 1) (zi_41 rfl) rfl rfl ?_
      refine zo_goto (p' := 90) (zi_41 rfl) rfl ?_
      have g34 := Option.some.inj g32
      subst g34
      exact zo_iret (zi_41 rfl) rfl ⟨rfl, rfl⟩
set_option maxRecDepth 20000 in
theorem k_41_91 (d : Nat) : ∀ (M : ZMem) (o : Nat) (b1 : Int32) (b2 : Int32) (out : Int32), f_41_91 M o b1 b2 = some out → zgo none (d) 41 91 [(0, zrf (some o)), (2, .int b1), (4, .int b2)] [] M (some (.int out), M) := by
  intro M o b1 b2 out h
  unfold f_41_91 at h
  refine zo_iload (p' := 93) (zi_41 rfl) rfl rfl ?_
  by_cases hc35 : b2 = 0
  · rw [if_pos hc35] at h
    refine zo_ifT (p' := 108) (zi_41 rfl) rfl hc35 ?_
    refine zo_iconst (p' := 109) (v := 0) (zi_41 rfl) rfl rfl ?_
    have g39 := Option.some.inj h
    subst g39
    exact zo_iret (zi_41 rfl) rfl ⟨rfl, rfl⟩
  · rw [if_neg hc35] at h
    refine zo_ifF (p' := 96) (zi_41 rfl) rfl rfl hc35 ?_
    refine zo_iload_n (p' := 97) (zi_41 rfl) rfl rfl ?_
    refine zo_aload_n (p' := 98) (zi_41 rfl) rfl rfl ?_
    obtain ⟨x36, hx37, g40⟩ := zb_of h
    refine zo_getI (p' := 101) (zi_41 rfl) rfl zl_8_9 hx37 ?_
    by_cases hc38 : b1 = x36
    · rw [if_pos hc38] at g40
      refine zo_icT (p' := 108) (zi_41 rfl) rfl hc38 ?_
      refine zo_iconst (p' := 109) (v := 0) (zi_41 rfl) rfl rfl ?_
      have g41 := Option.some.inj g40
      subst g41
      exact zo_iret (zi_41 rfl) rfl ⟨rfl, rfl⟩
    · rw [if_neg hc38] at g40
      refine zo_icF (p' := 104) (zi_41 rfl) rfl rfl hc38 ?_
      refine zo_iconst (p' := 105) (v := 1) (zi_41 rfl) rfl rfl ?_
      refine zo_goto (p' := 109) (zi_41 rfl) rfl ?_
      have g42 := Option.some.inj g40
      subst g42
      exact zo_iret (zi_41 rfl) rfl ⟨rfl, rfl⟩
set_option maxRecDepth 20000 in
theorem k_41_33 (d : Nat) : ∀ (M : ZMem) (o : Nat) (b1 : Int32) (b2 : Int32) (b3 : Int32) (out : Int32), f_41_33 M o b1 b2 b3 = some out → zgo none (d) 41 33 [(0, zrf (some o)), (1, .int b1), (2, .int b2)] [.int b3] M (some (.int out), M) := by
  intro M o b1 b2 b3 out h
  unfold f_41_33 at h
  refine zo_istore (p' := 35) (L' := [(0, zrf (some o)), (1, .int b1), (2, .int b2), (4, .int b3)]) (zi_41 rfl) rfl zm_41_4 ⟨Or.inr ⟨by decide, rfl, fun q => absurd q (by decide)⟩, ⟨Or.inr ⟨by decide, rfl, fun q => absurd q (by decide)⟩, ⟨Or.inr ⟨by decide, rfl, fun q => absurd q (by decide)⟩, ⟨Or.inl ⟨rfl, rfl⟩, trivial⟩⟩⟩⟩ ?_
  refine zo_aload_n (p' := 36) (zi_41 rfl) rfl rfl ?_
  obtain ⟨x12, hx13, g22⟩ := zb_of h
  refine zo_getI (p' := 39) (zi_41 rfl) rfl zl_8_30 hx13 ?_
  by_cases hc14 : x12 = 2
  · rw [if_pos hc14] at g22
    refine zo_table (p' := 72) (n := 33) (zi_41 rfl) (by decide) (zsel_hit hc14 (by decide)) rfl ?_
    refine zgo_sub (L' := [(0, zrf (some o)), (2, .int b2), (4, .int b3)]) (⟨rfl, rfl, rfl, trivial⟩) ?_
    exact k_41_72 _ M o b2 b3 _ g22
  · rw [if_neg hc14] at g22
    by_cases hc15 : x12 = 3
    · rw [if_pos hc15] at g22
      refine zo_table (p' := 91) (n := 52) (zi_41 rfl) (by decide) (zsel_skip hc14 (by decide) (zsel_hit hc15 (by decide))) rfl ?_
      refine zgo_sub (L' := [(0, zrf (some o)), (2, .int b2), (4, .int b3)]) (⟨rfl, rfl, rfl, trivial⟩) ?_
      exact k_41_91 _ M o b2 b3 _ g22
    · rw [if_neg hc15] at g22
      by_cases hc16 : x12 = 4
      · rw [if_pos hc16] at g22
        refine zo_table (p' := 110) (n := 71) (zi_41 rfl) (by decide) (zsel_skip hc14 (by decide) (zsel_skip hc15 (by decide) (zsel_hit hc16 (by decide)))) rfl ?_
        refine zo_iload (p' := 112) (zi_41 rfl) rfl rfl ?_
        by_cases hc19 : b3 = 0
        · rw [if_pos hc19] at g22
          refine zo_ifT (p' := 124) (zi_41 rfl) rfl hc19 ?_
          refine zo_iconst (p' := 125) (v := 0) (zi_41 rfl) rfl rfl ?_
          have g23 := Option.some.inj g22
          subst g23
          exact zo_iret (zi_41 rfl) rfl ⟨rfl, rfl⟩
        · rw [if_neg hc19] at g22
          refine zo_ifF (p' := 115) (zi_41 rfl) rfl rfl hc19 ?_
          refine zo_iload_n (p' := 116) (zi_41 rfl) rfl rfl ?_
          refine zo_iconst (p' := 117) (v := 4) (zi_41 rfl) rfl rfl ?_
          by_cases hc20 : b1 < 4
          · rw [if_pos hc20] at g22
            refine zo_icT (p' := 124) (zi_41 rfl) rfl hc20 ?_
            refine zo_iconst (p' := 125) (v := 0) (zi_41 rfl) rfl rfl ?_
            have g24 := Option.some.inj g22
            subst g24
            exact zo_iret (zi_41 rfl) rfl ⟨rfl, rfl⟩
          · rw [if_neg hc20] at g22
            refine zo_icF (p' := 120) (zi_41 rfl) rfl rfl hc20 ?_
            refine zo_iconst (p' := 121) (v := 1) (zi_41 rfl) rfl rfl ?_
            refine zo_goto (p' := 125) (zi_41 rfl) rfl ?_
            have g25 := Option.some.inj g22
            subst g25
            exact zo_iret (zi_41 rfl) rfl ⟨rfl, rfl⟩
      · rw [if_neg hc16] at g22
        by_cases hc17 : x12 = 5
        · rw [if_pos hc17] at g22
          refine zo_table (p' := 72) (n := 33) (zi_41 rfl) (by decide) (zsel_skip hc14 (by decide) (zsel_skip hc15 (by decide) (zsel_skip hc16 (by decide) (zsel_hit hc17 (by decide))))) rfl ?_
          refine zgo_sub (L' := [(0, zrf (some o)), (2, .int b2), (4, .int b3)]) (⟨rfl, rfl, rfl, trivial⟩) ?_
          exact k_41_72 _ M o b2 b3 _ g22
        · rw [if_neg hc17] at g22
          by_cases hc18 : x12 = 6
          · rw [if_pos hc18] at g22
            refine zo_table (p' := 91) (n := 52) (zi_41 rfl) (by decide) (zsel_skip hc14 (by decide) (zsel_skip hc15 (by decide) (zsel_skip hc16 (by decide) (zsel_skip hc17 (by decide) (zsel_hit hc18 (by decide)))))) rfl ?_
            refine zgo_sub (L' := [(0, zrf (some o)), (2, .int b2), (4, .int b3)]) (⟨rfl, rfl, rfl, trivial⟩) ?_
            exact k_41_91 _ M o b2 b3 _ g22
          · rw [if_neg hc18] at g22
            refine zo_table (p' := 126) (n := 87) (zi_41 rfl) (by decide) (zsel_skip hc14 (by decide) (zsel_skip hc15 (by decide) (zsel_skip hc16 (by decide) (zsel_skip hc17 (by decide) (zsel_skip hc18 (by decide) (rfl)))))) rfl ?_
            refine zo_iload (p' := 128) (zi_41 rfl) rfl rfl ?_
            by_cases hr21 : narrow .boolean (.int b3) = .int b3
            · rw [if_pos hr21] at g22
              have g26 := Option.some.inj g22
              subst g26
              exact zo_iret (zi_41 rfl) rfl ⟨rfl, hr21⟩
            · rw [if_neg hr21] at g22; cases g22
set_option maxRecDepth 20000 in
theorem k_41_32 (d : Nat) : ∀ (M : ZMem) (o : Nat) (b1 : Int32) (b2 : Int32) (out : Int32), f_41_32 M o b1 b2 = some out → zgo none (d) 41 32 [(0, zrf (some o)), (1, .int b1), (2, .int b2)] [] M (some (.int out), M) := by
  intro M o b1 b2 out h
  unfold f_41_32 at h
  refine zo_iconst (p' := 33) (v := 0) (zi_41 rfl) rfl rfl ?_
  refine zgo_sub (L' := [(0, zrf (some o)), (1, .int b1), (2, .int b2)]) (⟨rfl, rfl, rfl, trivial⟩) ?_
  exact k_41_33 _ M o b1 b2 0 _ h
def f_41 (M : ZMem) (o : Nat) (a0 : Int32) (a1 : Int32) : Option (Int32) := if zok M 2 o = true then (zb (zgi M 2 2 o) fun x1 => zb (zgi M 2 1 o) fun x3 => if x3 < (((2 * a1) - a0) - x1) then (f_41_32 M o a0 a1) else (zb (zgi M 2 1 o) fun x6 => if (((2 * a1) - a0) - x1) < (-x6) then (f_41_32 M o a0 a1) else (f_41_33 M o a0 a1 1))) else none
theorem f_41_ok {M : ZMem} {o : Nat} {a0 : Int32} {a1 : Int32} {out : Int32} (h : f_41 M o a0 a1 = some out) : zok M 2 o = true := by
  unfold f_41 at h
  by_cases hok : zok M 2 o = true
  · exact hok
  · rw [if_neg hok] at h; cases h
set_option maxRecDepth 20000 in
theorem k_41 (d : Nat) {M : ZMem} {o : Nat} {a0 : Int32} {a1 : Int32} {out : Int32} (h : f_41 M o a0 a1 = some out) : zrn (d) 41 [zrf (some o), .int a0, .int a1] M (some (.int out), M) := by
  unfold f_41 at h
  by_cases hok : zok M 2 o = true
  · rw [if_pos hok] at h
    refine zrn_of (L := [(0, zrf (some o)), (1, .int a0), (2, .int a1)]) rfl ?_
    refine zo_iconst (p' := 1) (v := 2) (zi_41 rfl) rfl rfl ?_
    refine zo_iload_n (p' := 2) (zi_41 rfl) rfl rfl ?_
    refine zo_imul (p' := 3) (zi_41 rfl) rfl ?_
    refine zo_iload_n (p' := 4) (zi_41 rfl) rfl rfl ?_
    refine zo_isub (p' := 5) (zi_41 rfl) rfl ?_
    refine zo_aload_n (p' := 6) (zi_41 rfl) rfl rfl ?_
    obtain ⟨x1, hx2, g9⟩ := zb_of h
    refine zo_getI (p' := 9) (zi_41 rfl) rfl zl_8_48 hx2 ?_
    refine zo_isub (p' := 10) (zi_41 rfl) rfl ?_
    refine zo_istore_n (p' := 11) (L' := [(0, zrf (some o)), (1, .int a0), (2, .int a1), (3, .int ((((2 * a1) - a0) - x1)))]) (zi_41 rfl) rfl zm_41_3 ⟨Or.inr ⟨by decide, rfl, fun q => absurd q (by decide)⟩, ⟨Or.inr ⟨by decide, rfl, fun q => absurd q (by decide)⟩, ⟨Or.inr ⟨by decide, rfl, fun _ => rfl⟩, ⟨Or.inl ⟨rfl, rfl⟩, trivial⟩⟩⟩⟩ ?_
    refine zo_iload_n (p' := 12) (zi_41 rfl) rfl rfl ?_
    refine zo_aload_n (p' := 13) (zi_41 rfl) rfl rfl ?_
    obtain ⟨x3, hx4, g10⟩ := zb_of g9
    refine zo_getI (p' := 16) (zi_41 rfl) rfl zl_8_35 hx4 ?_
    by_cases hc5 : x3 < (((2 * a1) - a0) - x1)
    · rw [if_pos hc5] at g10
      refine zo_icT (p' := 32) (zi_41 rfl) rfl hc5 ?_
      refine zgo_sub (L' := [(0, zrf (some o)), (1, .int a0), (2, .int a1)]) (⟨rfl, rfl, rfl, trivial⟩) ?_
      exact k_41_32 _ M o a0 a1 _ g10
    · rw [if_neg hc5] at g10
      refine zo_icF (p' := 19) (zi_41 rfl) rfl rfl hc5 ?_
      refine zo_iload_n (p' := 20) (zi_41 rfl) rfl rfl ?_
      refine zo_aload_n (p' := 21) (zi_41 rfl) rfl rfl ?_
      obtain ⟨x6, hx7, g11⟩ := zb_of g10
      refine zo_getI (p' := 24) (zi_41 rfl) rfl zl_8_35 hx7 ?_
      refine zo_ineg (p' := 25) (zi_41 rfl) rfl ?_
      by_cases hc8 : (((2 * a1) - a0) - x1) < (-x6)
      · rw [if_pos hc8] at g11
        refine zo_icT (p' := 32) (zi_41 rfl) rfl hc8 ?_
        refine zgo_sub (L' := [(0, zrf (some o)), (1, .int a0), (2, .int a1)]) (⟨rfl, rfl, rfl, trivial⟩) ?_
        exact k_41_32 _ M o a0 a1 _ g11
      · rw [if_neg hc8] at g11
        refine zo_icF (p' := 28) (zi_41 rfl) rfl rfl hc8 ?_
        refine zo_iconst (p' := 29) (v := 1) (zi_41 rfl) rfl rfl ?_
        refine zo_goto (p' := 33) (zi_41 rfl) rfl ?_
        refine zgo_sub (L' := [(0, zrf (some o)), (1, .int a0), (2, .int a1)]) (⟨rfl, rfl, rfl, trivial⟩) ?_
        exact k_41_33 _ M o a0 a1 1 _ g11
  · rw [if_neg hok] at h; cases h
/-- SlateHalves$Valuer.cleanSum(II)I -/
def f_40 (M : ZMem) (o : Nat) (a0 : Int32) (a1 : Int32) : Option (Int32) := if zok M 9 o = true then (zb (f_14 M a1 1 ((a0 - 1))) fun x1 => if x1 = 0 then (some 0) else (zb (zgr M 9 0 o) fun r4 => zb r4 fun q6 => zb (f_41 M q6 a0 a1) fun x7 => if x7 = 0 then (some 0) else (zb (zgr M 9 1 o) fun r10 => zb r10 fun q12 => zb (zai M q12 a1) fun x13 => zb (zgr M 9 1 o) fun r15 => zb r15 fun q17 => zb (zai M q17 (a0 - a1)) fun x18 => some (x13 + x18)))) else none
theorem f_40_ok {M : ZMem} {o : Nat} {a0 : Int32} {a1 : Int32} {out : Int32} (h : f_40 M o a0 a1 = some out) : zok M 9 o = true := by
  unfold f_40 at h
  by_cases hok : zok M 9 o = true
  · exact hok
  · rw [if_neg hok] at h; cases h
set_option maxRecDepth 20000 in
theorem k_40 (d : Nat) {M : ZMem} {o : Nat} {a0 : Int32} {a1 : Int32} {out : Int32} (h : f_40 M o a0 a1 = some out) : zrn (d + 1) 40 [zrf (some o), .int a0, .int a1] M (some (.int out), M) := by
  unfold f_40 at h
  by_cases hok : zok M 9 o = true
  · rw [if_pos hok] at h
    refine zrn_of (L := [(0, zrf (some o)), (1, .int a0), (2, .int a1)]) rfl ?_
    refine zo_iload_n (p' := 1) (zi_40 rfl) rfl rfl ?_
    refine zo_iconst (p' := 2) (v := 1) (zi_40 rfl) rfl rfl ?_
    refine zo_iload_n (p' := 3) (zi_40 rfl) rfl rfl ?_
    refine zo_iconst (p' := 4) (v := 1) (zi_40 rfl) rfl rfl ?_
    refine zo_isub (p' := 5) (zi_40 rfl) rfl ?_
    obtain ⟨x1, hx2, g20⟩ := zb_of h
    refine zo_callSi (p' := 8) (as := [.int a1, .int 1, .int ((a0 - 1))]) (r := []) (zi_40 rfl) rfl (Or.inr zl_9_105) rfl rfl (Nat.le_of_ble_eq_true rfl) (Nat.le_of_ble_eq_true rfl) (k_14 _ hx2) ?_
    by_cases hc3 : x1 = 0
    · rw [if_pos hc3] at g20
      refine zo_ifT (p' := 41) (zi_40 rfl) rfl hc3 ?_
      refine zo_iconst (p' := 42) (v := 0) (zi_40 rfl) rfl rfl ?_
      have g21 := Option.some.inj g20
      subst g21
      exact zo_iret (zi_40 rfl) rfl ⟨rfl, rfl⟩
    · rw [if_neg hc3] at g20
      refine zo_ifF (p' := 11) (zi_40 rfl) rfl rfl hc3 ?_
      refine zo_aload_n (p' := 12) (zi_40 rfl) rfl rfl ?_
      obtain ⟨r4, hx5, g22⟩ := zb_of g20
      refine zo_getR (p' := 15) (zi_40 rfl) rfl zl_9_12 hx5 ?_
      refine zo_iload_n (p' := 16) (zi_40 rfl) rfl rfl ?_
      refine zo_iload_n (p' := 17) (zi_40 rfl) rfl rfl ?_
      obtain ⟨q6, h0, g23⟩ := zb_of g22
      subst h0
      obtain ⟨x7, hx8, g24⟩ := zb_of g23
      refine zo_callVi (p' := 20) (t := 2) (as := [.int a0, .int a1]) (r := []) (zi_40 rfl) rfl zl_9_109 rfl rfl (Or.inl ⟨by decide, rfl⟩) (Nat.le_of_ble_eq_true rfl) (Nat.le_of_ble_eq_true rfl) (f_41_ok hx8) (k_41 _ hx8) ?_
      by_cases hc9 : x7 = 0
      · rw [if_pos hc9] at g24
        refine zo_ifT (p' := 41) (zi_40 rfl) rfl hc9 ?_
        refine zo_iconst (p' := 42) (v := 0) (zi_40 rfl) rfl rfl ?_
        have g25 := Option.some.inj g24
        subst g25
        exact zo_iret (zi_40 rfl) rfl ⟨rfl, rfl⟩
      · rw [if_neg hc9] at g24
        refine zo_ifF (p' := 23) (zi_40 rfl) rfl rfl hc9 ?_
        refine zo_aload_n (p' := 24) (zi_40 rfl) rfl rfl ?_
        obtain ⟨r10, hx11, g26⟩ := zb_of g24
        refine zo_getR (p' := 27) (zi_40 rfl) rfl zl_9_18 hx11 ?_
        refine zo_iload_n (p' := 28) (zi_40 rfl) rfl rfl ?_
        obtain ⟨q12, h0, g27⟩ := zb_of g26
        subst h0
        obtain ⟨x13, hx14, g28⟩ := zb_of g27
        refine zo_iald (p' := 29) (zi_40 rfl) rfl hx14 ?_
        refine zo_aload_n (p' := 30) (zi_40 rfl) rfl rfl ?_
        obtain ⟨r15, hx16, g29⟩ := zb_of g28
        refine zo_getR (p' := 33) (zi_40 rfl) rfl zl_9_18 hx16 ?_
        refine zo_iload_n (p' := 34) (zi_40 rfl) rfl rfl ?_
        refine zo_iload_n (p' := 35) (zi_40 rfl) rfl rfl ?_
        refine zo_isub (p' := 36) (zi_40 rfl) rfl ?_
        obtain ⟨q17, h0, g30⟩ := zb_of g29
        subst h0
        obtain ⟨x18, hx19, g31⟩ := zb_of g30
        refine zo_iald (p' := 37) (zi_40 rfl) rfl hx19 ?_
        refine zo_iadd (p' := 38) (zi_40 rfl) rfl ?_
        refine zo_goto (p' := 42) (zi_40 rfl) rfl ?_
        have g32 := Option.some.inj g31
        subst g32
        exact zo_iret (zi_40 rfl) rfl ⟨rfl, rfl⟩
  · rw [if_neg hok] at h; cases h
/-- SlateHalves$Valuer.fillBest(I)V -/
def f_35_57 (r14 : ZMem → Nat → Int32 → Int32 → Option (ZMem)) : Nat → ZMem → Nat → Int32 → Int32 → Int32 → Int32 → Int32 → Option (ZMem)
  | 0, _, _, _, _, _, _, _ => none
  | z + 1, M, o, b1, b2, b3, b4, b5 => if b4 < b5 then (zb (zgr M 9 1 o) fun r45 => zb (zgr M 9 0 o) fun r47 => zb r47 fun q49 => zb (zgi M 2 3 q49) fun x50 => zb (f_40 M o b2 x50) fun x52 => zb (f_24 M b3 x52) fun x54 => zb r45 fun q56 => zb (zsa M 20 q56 b2 x54) fun M57 => r14 M57 o b1 ((b2 + 1))) else (zb (f_40 M o b2 b5) fun x59 => zb (f_24 M b3 x59) fun x61 => f_35_57 r14 z M o b1 b2 x61 b4 ((b5 + 1)))
def f_35_14 : Nat → ZMem → Nat → Int32 → Int32 → Option (ZMem)
  | 0, _, _, _, _ => none
  | z + 1, M, o, b1, b2 => if b1 < b2 then (some M) else (zb (f_33 M o b2) fun x13 => zb (zgr M 9 1 o) fun r15 => zb r15 fun q17 => zb (zai M q17 (b2 - 1)) fun x18 => zb (f_24 M x13 x18) fun x20 => zb (zgr M 9 0 o) fun r22 => zb r22 fun q24 => zb (f_38 M q24 b2) fun x25 => zb (zgr M 9 0 o) fun r27 => zb r27 fun q29 => zb (f_39 M q29 b2) fun x30 => f_35_57 (fun M a0 a1 a2 => f_35_14 z M a0 a1 a2) zF M o b1 b2 x20 x25 x30)
set_option maxRecDepth 20000 in
theorem k_35_57 (d : Nat) (r14 : ZMem → Nat → Int32 → Int32 → Option (ZMem)) (h14 : ∀ (M : ZMem) (a0 : Nat) (a1 : Int32) (a2 : Int32) (out : ZMem), r14 M a0 a1 a2 = some out → zgo none (d + 2) 35 14 [(0, zrf (some a0)), (2, .int a1), (3, .int a2)] [] M (none, out)) : ∀ (z : Nat) (M : ZMem) (o : Nat) (b1 : Int32) (b2 : Int32) (b3 : Int32) (b4 : Int32) (b5 : Int32) (out : ZMem), f_35_57 r14 z M o b1 b2 b3 b4 b5 = some out → zgo none (d + 2) 35 57 [(0, zrf (some o)), (2, .int b1), (3, .int b2), (4, .int b3), (5, .int b4), (6, .int b5)] [] M (none, out) := by
  intro z
  induction z with
  | zero => intro M o b1 b2 b3 b4 b5 out h; cases h
  | succ z ih =>
    intro M o b1 b2 b3 b4 b5 out h
    rw [f_35_57] at h
    refine zo_iload (p' := 59) (zi_35 rfl) rfl rfl ?_
    refine zo_iload (p' := 61) (zi_35 rfl) rfl rfl ?_
    by_cases hc44 : b4 < b5
    · rw [if_pos hc44] at h
      refine zo_icT (p' := 84) (zi_35 rfl) rfl hc44 ?_
      refine zo_aload_n (p' := 85) (zi_35 rfl) rfl rfl ?_
      obtain ⟨r45, hx46, g63⟩ := zb_of h
      refine zo_getR (p' := 88) (zi_35 rfl) rfl zl_9_18 hx46 ?_
      refine zo_iload_n (p' := 89) (zi_35 rfl) rfl rfl ?_
      refine zo_iload (p' := 91) (zi_35 rfl) rfl rfl ?_
      refine zo_aload_n (p' := 92) (zi_35 rfl) rfl rfl ?_
      refine zo_iload_n (p' := 93) (zi_35 rfl) rfl rfl ?_
      refine zo_aload_n (p' := 94) (zi_35 rfl) rfl rfl ?_
      obtain ⟨r47, hx48, g64⟩ := zb_of g63
      refine zo_getR (p' := 97) (zi_35 rfl) rfl zl_9_12 hx48 ?_
      obtain ⟨q49, h0, g65⟩ := zb_of g64
      subst h0
      obtain ⟨x50, hx51, g66⟩ := zb_of g65
      refine zo_getI (p' := 100) (zi_35 rfl) rfl zl_9_102 hx51 ?_
      obtain ⟨x52, hx53, g67⟩ := zb_of g66
      refine zo_callVi (p' := 103) (t := 9) (as := [.int b2, .int x50]) (r := [.int b3, .int b2, zrf r45]) (zi_35 rfl) rfl zl_9_99 rfl rfl (Or.inl ⟨by decide, rfl⟩) (by simp [zrf_cat, zcat_i, zcat_l, zcat_r]) (Nat.le_of_ble_eq_true rfl) (f_40_ok hx53) (k_40 _ hx53) ?_
      obtain ⟨x54, hx55, g68⟩ := zb_of g67
      refine zo_callSi (p' := 106) (as := [.int b3, .int x52]) (r := [.int b2, zrf r45]) (zi_35 rfl) rfl (Or.inl zl_9_90) rfl rfl (by simp [zrf_cat, zcat_i, zcat_l, zcat_r]) (Nat.le_of_ble_eq_true rfl) (k_24 _ hx55) ?_
      obtain ⟨q56, h0, g69⟩ := zb_of g68
      subst h0
      obtain ⟨M57, hx58, g70⟩ := zb_of g69
      refine zo_iast (p' := 107) (zi_35 rfl) rfl hx58 ?_
      refine zo_iinc (p' := 110) (v := (b2 + 1)) (L' := [(0, zrf (some o)), (2, .int b1), (3, .int ((b2 + 1))), (4, .int b3), (5, .int b4), (6, .int b5)]) (zi_35 rfl) rfl zm_35_3 rfl rfl ⟨Or.inr ⟨by decide, rfl, fun q => absurd q (by decide)⟩, ⟨Or.inr ⟨by decide, rfl, fun _ => rfl⟩, ⟨Or.inl ⟨rfl, rfl⟩, ⟨Or.inr ⟨by decide, rfl, fun q => absurd q (by decide)⟩, ⟨Or.inr ⟨by decide, rfl, fun q => absurd q (by decide)⟩, ⟨Or.inr ⟨by decide, rfl, fun q => absurd q (by decide)⟩, trivial⟩⟩⟩⟩⟩⟩ ?_
      refine zo_goto (p' := 14) (zi_35 rfl) rfl ?_
      refine zgo_sub (L' := [(0, zrf (some o)), (2, .int b1), (3, .int (((b2 + 1))))]) (⟨rfl, rfl, rfl, trivial⟩) ?_
      exact h14 M57 o b1 ((b2 + 1)) _ g70
    · rw [if_neg hc44] at h
      refine zo_icF (p' := 64) (zi_35 rfl) rfl rfl hc44 ?_
      refine zo_iload (p' := 66) (zi_35 rfl) rfl rfl ?_
      refine zo_aload_n (p' := 67) (zi_35 rfl) rfl rfl ?_
      refine zo_iload_n (p' := 68) (zi_35 rfl) rfl rfl ?_
      refine zo_iload (p' := 70) (zi_35 rfl) rfl rfl ?_
      obtain ⟨x59, hx60, g71⟩ := zb_of h
      refine zo_callVi (p' := 73) (t := 9) (as := [.int b2, .int b5]) (r := [.int b3]) (zi_35 rfl) rfl zl_9_99 rfl rfl (Or.inl ⟨by decide, rfl⟩) (Nat.le_of_ble_eq_true rfl) (Nat.le_of_ble_eq_true rfl) (f_40_ok hx60) (k_40 _ hx60) ?_
      obtain ⟨x61, hx62, g72⟩ := zb_of g71
      refine zo_callSi (p' := 76) (as := [.int b3, .int x59]) (r := []) (zi_35 rfl) rfl (Or.inl zl_9_90) rfl rfl (Nat.le_of_ble_eq_true rfl) (Nat.le_of_ble_eq_true rfl) (k_24 _ hx62) ?_
      refine zo_istore (p' := 78) (L' := [(0, zrf (some o)), (2, .int b1), (3, .int b2), (4, .int x61), (5, .int b4), (6, .int b5)]) (zi_35 rfl) rfl zm_35_4 ⟨Or.inr ⟨by decide, rfl, fun q => absurd q (by decide)⟩, ⟨Or.inr ⟨by decide, rfl, fun q => absurd q (by decide)⟩, ⟨Or.inr ⟨by decide, rfl, fun _ => rfl⟩, ⟨Or.inl ⟨rfl, rfl⟩, ⟨Or.inr ⟨by decide, rfl, fun q => absurd q (by decide)⟩, ⟨Or.inr ⟨by decide, rfl, fun q => absurd q (by decide)⟩, trivial⟩⟩⟩⟩⟩⟩ ?_
      refine zo_iinc (p' := 81) (v := (b5 + 1)) (L' := [(0, zrf (some o)), (2, .int b1), (3, .int b2), (4, .int x61), (5, .int b4), (6, .int ((b5 + 1)))]) (zi_35 rfl) rfl zm_35_6 rfl rfl ⟨Or.inr ⟨by decide, rfl, fun q => absurd q (by decide)⟩, ⟨Or.inr ⟨by decide, rfl, fun q => absurd q (by decide)⟩, ⟨Or.inr ⟨by decide, rfl, fun q => absurd q (by decide)⟩, ⟨Or.inr ⟨by decide, rfl, fun q => absurd q (by decide)⟩, ⟨Or.inr ⟨by decide, rfl, fun _ => rfl⟩, ⟨Or.inl ⟨rfl, rfl⟩, trivial⟩⟩⟩⟩⟩⟩ ?_
      refine zo_goto (p' := 57) (zi_35 rfl) rfl ?_
      refine zgo_sub (L' := [(0, zrf (some o)), (2, .int b1), (3, .int b2), (4, .int x61), (5, .int b4), (6, .int (((b5 + 1))))]) (⟨rfl, rfl, rfl, rfl, rfl, rfl, trivial⟩) ?_
      exact ih M o b1 b2 x61 b4 ((b5 + 1)) _ g72
set_option maxRecDepth 20000 in
theorem k_35_14 (d : Nat) : ∀ (z : Nat) (M : ZMem) (o : Nat) (b1 : Int32) (b2 : Int32) (out : ZMem), f_35_14 z M o b1 b2 = some out → zgo none (d + 2) 35 14 [(0, zrf (some o)), (2, .int b1), (3, .int b2)] [] M (none, out) := by
  intro z
  induction z with
  | zero => intro M o b1 b2 out h; cases h
  | succ z ih =>
    intro M o b1 b2 out h
    rw [f_35_14] at h
    refine zo_iload_n (p' := 15) (zi_35 rfl) rfl rfl ?_
    refine zo_iload_n (p' := 16) (zi_35 rfl) rfl rfl ?_
    by_cases hc12 : b1 < b2
    · rw [if_pos hc12] at h
      refine zo_icT (p' := 113) (zi_35 rfl) rfl hc12 ?_
      have g32 := Option.some.inj h
      subst g32
      exact zo_vret (zi_35 rfl) rfl
    · rw [if_neg hc12] at h
      refine zo_icF (p' := 19) (zi_35 rfl) rfl rfl hc12 ?_
      refine zo_aload_n (p' := 20) (zi_35 rfl) rfl rfl ?_
      refine zo_iload_n (p' := 21) (zi_35 rfl) rfl rfl ?_
      obtain ⟨x13, hx14, g33⟩ := zb_of h
      refine zo_callVi (p' := 24) (t := 9) (as := [.int b2]) (r := []) (zi_35 rfl) rfl zl_9_74 rfl rfl (Or.inl ⟨by decide, rfl⟩) (Nat.le_of_ble_eq_true rfl) (Nat.le_of_ble_eq_true rfl) (f_33_ok hx14) (k_33 _ hx14) ?_
      refine zo_aload_n (p' := 25) (zi_35 rfl) rfl rfl ?_
      obtain ⟨r15, hx16, g34⟩ := zb_of g33
      refine zo_getR (p' := 28) (zi_35 rfl) rfl zl_9_18 hx16 ?_
      refine zo_iload_n (p' := 29) (zi_35 rfl) rfl rfl ?_
      refine zo_iconst (p' := 30) (v := 1) (zi_35 rfl) rfl rfl ?_
      refine zo_isub (p' := 31) (zi_35 rfl) rfl ?_
      obtain ⟨q17, h0, g35⟩ := zb_of g34
      subst h0
      obtain ⟨x18, hx19, g36⟩ := zb_of g35
      refine zo_iald (p' := 32) (zi_35 rfl) rfl hx19 ?_
      obtain ⟨x20, hx21, g37⟩ := zb_of g36
      refine zo_callSi (p' := 35) (as := [.int x13, .int x18]) (r := []) (zi_35 rfl) rfl (Or.inl zl_9_90) rfl rfl (Nat.le_of_ble_eq_true rfl) (Nat.le_of_ble_eq_true rfl) (k_24 _ hx21) ?_
      refine zo_istore (p' := 37) (L' := [(0, zrf (some o)), (2, .int b1), (3, .int b2), (4, .int x20)]) (zi_35 rfl) rfl zm_35_4 ⟨Or.inr ⟨by decide, rfl, fun q => absurd q (by decide)⟩, ⟨Or.inr ⟨by decide, rfl, fun q => absurd q (by decide)⟩, ⟨Or.inr ⟨by decide, rfl, fun _ => rfl⟩, ⟨Or.inl ⟨rfl, rfl⟩, trivial⟩⟩⟩⟩ ?_
      refine zo_aload_n (p' := 38) (zi_35 rfl) rfl rfl ?_
      obtain ⟨r22, hx23, g38⟩ := zb_of g37
      refine zo_getR (p' := 41) (zi_35 rfl) rfl zl_9_12 hx23 ?_
      refine zo_iload_n (p' := 42) (zi_35 rfl) rfl rfl ?_
      obtain ⟨q24, h0, g39⟩ := zb_of g38
      subst h0
      obtain ⟨x25, hx26, g40⟩ := zb_of g39
      refine zo_callVi (p' := 45) (t := 2) (as := [.int b2]) (r := []) (zi_35 rfl) rfl zl_9_93 rfl rfl (Or.inl ⟨by decide, rfl⟩) (Nat.le_of_ble_eq_true rfl) (Nat.le_of_ble_eq_true rfl) (f_38_ok hx26) (k_38 _ hx26) ?_
      refine zo_istore (p' := 47) (L' := [(0, zrf (some o)), (2, .int b1), (3, .int b2), (4, .int x20), (5, .int x25)]) (zi_35 rfl) rfl zm_35_5 ⟨Or.inr ⟨by decide, rfl, fun q => absurd q (by decide)⟩, ⟨Or.inr ⟨by decide, rfl, fun q => absurd q (by decide)⟩, ⟨Or.inr ⟨by decide, rfl, fun q => absurd q (by decide)⟩, ⟨Or.inr ⟨by decide, rfl, fun _ => rfl⟩, ⟨Or.inl ⟨rfl, rfl⟩, trivial⟩⟩⟩⟩⟩ ?_
      refine zo_aload_n (p' := 48) (zi_35 rfl) rfl rfl ?_
      obtain ⟨r27, hx28, g41⟩ := zb_of g40
      refine zo_getR (p' := 51) (zi_35 rfl) rfl zl_9_12 hx28 ?_
      refine zo_iload_n (p' := 52) (zi_35 rfl) rfl rfl ?_
      obtain ⟨q29, h0, g42⟩ := zb_of g41
      subst h0
      obtain ⟨x30, hx31, g43⟩ := zb_of g42
      refine zo_callVi (p' := 55) (t := 2) (as := [.int b2]) (r := []) (zi_35 rfl) rfl zl_9_96 rfl rfl (Or.inl ⟨by decide, rfl⟩) (Nat.le_of_ble_eq_true rfl) (Nat.le_of_ble_eq_true rfl) (f_39_ok hx31) (k_39 _ hx31) ?_
      refine zo_istore (p' := 57) (L' := [(0, zrf (some o)), (2, .int b1), (3, .int b2), (4, .int x20), (5, .int x25), (6, .int x30)]) (zi_35 rfl) rfl zm_35_6 ⟨Or.inr ⟨by decide, rfl, fun q => absurd q (by decide)⟩, ⟨Or.inr ⟨by decide, rfl, fun q => absurd q (by decide)⟩, ⟨Or.inr ⟨by decide, rfl, fun q => absurd q (by decide)⟩, ⟨Or.inr ⟨by decide, rfl, fun q => absurd q (by decide)⟩, ⟨Or.inr ⟨by decide, rfl, fun _ => rfl⟩, ⟨Or.inl ⟨rfl, rfl⟩, trivial⟩⟩⟩⟩⟩⟩ ?_
      refine zgo_sub (L' := [(0, zrf (some o)), (2, .int b1), (3, .int b2), (4, .int x20), (5, .int x25), (6, .int x30)]) (⟨rfl, rfl, rfl, rfl, rfl, rfl, trivial⟩) ?_
      exact k_35_57 _ _ (fun M a0 a1 a2 out h => ih M a0 a1 a2 out h) zF M o b1 b2 x20 x25 x30 _ g43
def f_35 (M : ZMem) (o : Nat) (a0 : Int32) : Option (ZMem) := if zok M 9 o = true then (zb (f_36 M a0) fun x1 => zb (zgr M 9 1 o) fun r3 => zb r3 fun q5 => zb (zsa M 20 q5 0 0) fun M6 => f_35_14 zF M6 o x1 1) else none
theorem f_35_ok {M : ZMem} {o : Nat} {a0 : Int32} {out : ZMem} (h : f_35 M o a0 = some out) : zok M 9 o = true := by
  unfold f_35 at h
  by_cases hok : zok M 9 o = true
  · exact hok
  · rw [if_neg hok] at h; cases h
set_option maxRecDepth 20000 in
theorem k_35 (d : Nat) {M : ZMem} {o : Nat} {a0 : Int32} {out : ZMem} (h : f_35 M o a0 = some out) : zrn (d + 2) 35 [zrf (some o), .int a0] M (none, out) := by
  unfold f_35 at h
  by_cases hok : zok M 9 o = true
  · rw [if_pos hok] at h
    refine zrn_of (L := [(0, zrf (some o)), (1, .int a0)]) rfl ?_
    refine zo_iload_n (p' := 1) (zi_35 rfl) rfl rfl ?_
    obtain ⟨x1, hx2, g8⟩ := zb_of h
    refine zo_callSi (p' := 4) (as := [.int a0]) (r := []) (zi_35 rfl) rfl (Or.inl zl_9_67) rfl rfl (Nat.le_of_ble_eq_true rfl) (Nat.le_of_ble_eq_true rfl) (k_36 _ hx2) ?_
    refine zo_istore_n (p' := 5) (L' := [(0, zrf (some o)), (1, .int a0), (2, .int x1)]) (zi_35 rfl) rfl zm_35_2 ⟨Or.inr ⟨by decide, rfl, fun q => absurd q (by decide)⟩, ⟨Or.inr ⟨by decide, rfl, fun _ => rfl⟩, ⟨Or.inl ⟨rfl, rfl⟩, trivial⟩⟩⟩ ?_
    refine zo_aload_n (p' := 6) (zi_35 rfl) rfl rfl ?_
    obtain ⟨r3, hx4, g9⟩ := zb_of g8
    refine zo_getR (p' := 9) (zi_35 rfl) rfl zl_9_18 hx4 ?_
    refine zo_iconst (p' := 10) (v := 0) (zi_35 rfl) rfl rfl ?_
    refine zo_iconst (p' := 11) (v := 0) (zi_35 rfl) rfl rfl ?_
    obtain ⟨q5, h0, g10⟩ := zb_of g9
    subst h0
    obtain ⟨M6, hx7, g11⟩ := zb_of g10
    refine zo_iast (p' := 12) (zi_35 rfl) rfl hx7 ?_
    refine zo_iconst (p' := 13) (v := 1) (zi_35 rfl) rfl rfl ?_
    refine zo_istore_n (p' := 14) (L' := [(0, zrf (some o)), (1, .int a0), (2, .int x1), (3, .int 1)]) (zi_35 rfl) rfl zm_35_3 ⟨Or.inr ⟨by decide, rfl, fun q => absurd q (by decide)⟩, ⟨Or.inr ⟨by decide, rfl, fun q => absurd q (by decide)⟩, ⟨Or.inr ⟨by decide, rfl, fun _ => rfl⟩, ⟨Or.inl ⟨rfl, rfl⟩, trivial⟩⟩⟩⟩ ?_
    refine zgo_sub (L' := [(0, zrf (some o)), (2, .int x1), (3, .int 1)]) (⟨rfl, rfl, rfl, trivial⟩) ?_
    exact k_35_14 _ zF M6 o x1 1 _ g11
  · rw [if_neg hok] at h; cases h
/-- SlateHalves$Valuer.bestOf(I)I -/
def f_34 (M : ZMem) (o : Nat) (a0 : Int32) : Option (Int32 × ZMem) := if zok M 9 o = true then (zb (f_35 M o a0) fun M3 => zb (zgr M3 9 1 o) fun r4 => zb (f_36 M3 a0) fun x6 => zb r4 fun q8 => zb (zai M3 q8 x6) fun x9 => some (x9, M3)) else none
theorem f_34_ok {M : ZMem} {o : Nat} {a0 : Int32} {out : Int32 × ZMem} (h : f_34 M o a0 = some out) : zok M 9 o = true := by
  unfold f_34 at h
  by_cases hok : zok M 9 o = true
  · exact hok
  · rw [if_neg hok] at h; cases h
set_option maxRecDepth 20000 in
theorem k_34 (d : Nat) {M : ZMem} {o : Nat} {a0 : Int32} {out : Int32 × ZMem} (h : f_34 M o a0 = some out) : zrn (d + 3) 34 [zrf (some o), .int a0] M (some (.int out.1), out.2) := by
  unfold f_34 at h
  by_cases hok : zok M 9 o = true
  · rw [if_pos hok] at h
    refine zrn_of (L := [(0, zrf (some o)), (1, .int a0)]) rfl ?_
    refine zo_aload_n (p' := 1) (zi_34 rfl) rfl rfl ?_
    refine zo_iload_n (p' := 2) (zi_34 rfl) rfl rfl ?_
    obtain ⟨M3, hx2, g11⟩ := zb_of h
    refine zo_callVv (p' := 5) (t := 9) (as := [.int a0]) (r := []) (zi_34 rfl) rfl zl_9_63 rfl rfl (Or.inl ⟨by decide, rfl⟩) (Nat.le_of_ble_eq_true rfl) (Nat.le_of_ble_eq_true rfl) (f_35_ok hx2) (k_35 _ hx2) ?_
    refine zo_aload_n (p' := 6) (zi_34 rfl) rfl rfl ?_
    obtain ⟨r4, hx5, g12⟩ := zb_of g11
    refine zo_getR (p' := 9) (zi_34 rfl) rfl zl_9_18 hx5 ?_
    refine zo_iload_n (p' := 10) (zi_34 rfl) rfl rfl ?_
    obtain ⟨x6, hx7, g13⟩ := zb_of g12
    refine zo_callSi (p' := 13) (as := [.int a0]) (r := [zrf r4]) (zi_34 rfl) rfl (Or.inl zl_9_67) rfl rfl (by simp [zrf_cat, zcat_i, zcat_l, zcat_r]) (Nat.le_of_ble_eq_true rfl) (k_36 _ hx7) ?_
    obtain ⟨q8, h0, g14⟩ := zb_of g13
    subst h0
    obtain ⟨x9, hx10, g15⟩ := zb_of g14
    refine zo_iald (p' := 14) (zi_34 rfl) rfl hx10 ?_
    have g16 := Option.some.inj g15
    subst g16
    exact zo_iret (zi_34 rfl) rfl ⟨rfl, rfl⟩
  · rw [if_neg hok] at h; cases h
/-- SlateHalves$Valuer.behind([III)I -/
def f_44 (M : ZMem) (o : Nat) (a0 : Option Nat) (a1 : Int32) (a2 : Int32) : Option (Int32) := if zok M 9 o = true then (zb a0 fun q1 => zb (zlen none M q1) fun x2 => if x2 ≤ a1 then (some 0) else (zb (f_14 M a2 1 ((a1 - 1))) fun x5 => if ¬ x5 = 0 then (zb (zgr M 9 0 o) fun r8 => zb r8 fun q10 => zb (f_41 M q10 a1 a2) fun x11 => if x11 = 0 then (zb (f_24 M a2 ((a1 - a2))) fun x14 => zb (zai M q1 x14) fun x16 => some x16) else (zb (zai M q1 a2) fun x18 => zb (zai M q1 (a1 - a2)) fun x20 => some (x18 + x20))) else (some 0))) else none
theorem f_44_ok {M : ZMem} {o : Nat} {a0 : Option Nat} {a1 : Int32} {a2 : Int32} {out : Int32} (h : f_44 M o a0 a1 a2 = some out) : zok M 9 o = true := by
  unfold f_44 at h
  by_cases hok : zok M 9 o = true
  · exact hok
  · rw [if_neg hok] at h; cases h
set_option maxRecDepth 20000 in
theorem k_44 (d : Nat) {M : ZMem} {o : Nat} {a0 : Option Nat} {a1 : Int32} {a2 : Int32} {out : Int32} (h : f_44 M o a0 a1 a2 = some out) : zrn (d + 1) 44 [zrf (some o), zrf a0, .int a1, .int a2] M (some (.int out), M) := by
  unfold f_44 at h
  by_cases hok : zok M 9 o = true
  · rw [if_pos hok] at h
    refine zrn_of (L := [(0, zrf (some o)), (1, zrf a0), (2, .int a1), (3, .int a2)]) (by simp [lv_args, zrf_cat, zcat_i, zcat_l, zcat_r]) ?_
    refine zo_iload_n (p' := 1) (zi_44 rfl) rfl rfl ?_
    refine zo_aload_n (p' := 2) (zi_44 rfl) rfl rfl ?_
    obtain ⟨q1, h0, g22⟩ := zb_of h
    subst h0
    obtain ⟨x2, hx3, g23⟩ := zb_of g22
    refine zo_alen (p' := 3) (zi_44 rfl) rfl hx3 ?_
    by_cases hc4 : x2 ≤ a1
    · rw [if_pos hc4] at g23
      refine zo_icT (p' := 17) (zi_44 rfl) rfl hc4 ?_
      refine zo_iconst (p' := 18) (v := 0) (zi_44 rfl) rfl rfl ?_
      have g24 := Option.some.inj g23
      subst g24
      exact zo_iret (zi_44 rfl) rfl ⟨rfl, rfl⟩
    · rw [if_neg hc4] at g23
      refine zo_icF (p' := 6) (zi_44 rfl) rfl rfl hc4 ?_
      refine zo_iload_n (p' := 7) (zi_44 rfl) rfl rfl ?_
      refine zo_iconst (p' := 8) (v := 1) (zi_44 rfl) rfl rfl ?_
      refine zo_iload_n (p' := 9) (zi_44 rfl) rfl rfl ?_
      refine zo_iconst (p' := 10) (v := 1) (zi_44 rfl) rfl rfl ?_
      refine zo_isub (p' := 11) (zi_44 rfl) rfl ?_
      obtain ⟨x5, hx6, g25⟩ := zb_of g23
      refine zo_callSi (p' := 14) (as := [.int a2, .int 1, .int ((a1 - 1))]) (r := []) (zi_44 rfl) rfl (Or.inr zl_9_105) rfl rfl (Nat.le_of_ble_eq_true rfl) (Nat.le_of_ble_eq_true rfl) (k_14 _ hx6) ?_
      by_cases hc7 : ¬ x5 = 0
      · rw [if_pos hc7] at g25
        refine zo_ifT (p' := 19) (zi_44 rfl) rfl hc7 ?_
        refine zo_aload_n (p' := 20) (zi_44 rfl) rfl rfl ?_
        obtain ⟨r8, hx9, g26⟩ := zb_of g25
        refine zo_getR (p' := 23) (zi_44 rfl) rfl zl_9_12 hx9 ?_
        refine zo_iload_n (p' := 24) (zi_44 rfl) rfl rfl ?_
        refine zo_iload_n (p' := 25) (zi_44 rfl) rfl rfl ?_
        obtain ⟨q10, h0, g27⟩ := zb_of g26
        subst h0
        obtain ⟨x11, hx12, g28⟩ := zb_of g27
        refine zo_callVi (p' := 28) (t := 2) (as := [.int a1, .int a2]) (r := []) (zi_44 rfl) rfl zl_9_109 rfl rfl (Or.inl ⟨by decide, rfl⟩) (Nat.le_of_ble_eq_true rfl) (Nat.le_of_ble_eq_true rfl) (f_41_ok hx12) (k_41 _ hx12) ?_
        by_cases hc13 : x11 = 0
        · rw [if_pos hc13] at g28
          refine zo_ifT (p' := 43) (zi_44 rfl) rfl hc13 ?_
          refine zo_aload_n (p' := 44) (zi_44 rfl) rfl rfl ?_
          refine zo_iload_n (p' := 45) (zi_44 rfl) rfl rfl ?_
          refine zo_iload_n (p' := 46) (zi_44 rfl) rfl rfl ?_
          refine zo_iload_n (p' := 47) (zi_44 rfl) rfl rfl ?_
          refine zo_isub (p' := 48) (zi_44 rfl) rfl ?_
          obtain ⟨x14, hx15, g29⟩ := zb_of g28
          refine zo_callSi (p' := 51) (as := [.int a2, .int ((a1 - a2))]) (r := [zrf (some q1)]) (zi_44 rfl) rfl (Or.inl zl_9_90) rfl rfl (Nat.le_of_ble_eq_true rfl) (Nat.le_of_ble_eq_true rfl) (k_24 _ hx15) ?_
          obtain ⟨x16, hx17, g30⟩ := zb_of g29
          refine zo_iald (p' := 52) (zi_44 rfl) rfl hx17 ?_
          have g31 := Option.some.inj g30
          subst g31
          exact zo_iret (zi_44 rfl) rfl ⟨rfl, rfl⟩
        · rw [if_neg hc13] at g28
          refine zo_ifF (p' := 31) (zi_44 rfl) rfl rfl hc13 ?_
          refine zo_aload_n (p' := 32) (zi_44 rfl) rfl rfl ?_
          refine zo_iload_n (p' := 33) (zi_44 rfl) rfl rfl ?_
          obtain ⟨x18, hx19, g32⟩ := zb_of g28
          refine zo_iald (p' := 34) (zi_44 rfl) rfl hx19 ?_
          refine zo_aload_n (p' := 35) (zi_44 rfl) rfl rfl ?_
          refine zo_iload_n (p' := 36) (zi_44 rfl) rfl rfl ?_
          refine zo_iload_n (p' := 37) (zi_44 rfl) rfl rfl ?_
          refine zo_isub (p' := 38) (zi_44 rfl) rfl ?_
          obtain ⟨x20, hx21, g33⟩ := zb_of g32
          refine zo_iald (p' := 39) (zi_44 rfl) rfl hx21 ?_
          refine zo_iadd (p' := 40) (zi_44 rfl) rfl ?_
          refine zo_goto (p' := 52) (zi_44 rfl) rfl ?_
          have g34 := Option.some.inj g33
          subst g34
          exact zo_iret (zi_44 rfl) rfl ⟨rfl, rfl⟩
      · rw [if_neg hc7] at g25
        refine zo_ifF (p' := 17) (zi_44 rfl) rfl rfl hc7 ?_
        refine zo_iconst (p' := 18) (v := 0) (zi_44 rfl) rfl rfl ?_
        have g35 := Option.some.inj g25
        subst g35
        exact zo_iret (zi_44 rfl) rfl ⟨rfl, rfl⟩
  · rw [if_neg hok] at h; cases h
/-- SlateHalves$Valuer.fewestBehind(I)I -/
def f_43_46 (r5 : ZMem → Nat → Int32 → Int32 → Int32 → Option (Int32)) (M : ZMem) (o : Nat) (b1 : Int32) (b2 : Int32) (b3 : Int32) : Option (Int32) := r5 M o b1 b2 ((b3 + 1))
def f_43_5 : Nat → ZMem → Nat → Int32 → Int32 → Int32 → Option (Int32)
  | 0, _, _, _, _, _ => none
  | z + 1, M, o, b1, b2, b3 => if b1 ≤ b3 then (some b2) else (zb (zgr M 9 1 o) fun r2 => zb (f_44 M o r2 b1 b3) fun x4 => zb (zgr M 9 1 o) fun r6 => zb r6 fun q8 => zb (zai M q8 b1) fun x9 => if ¬ x4 = x9 then (f_43_46 (fun M a0 a1 a2 a3 => f_43_5 z M a0 a1 a2 a3) M o b1 b2 b3) else (zb (zgr M 9 2 o) fun r12 => zb (f_44 M o r12 b1 b3) fun x14 => zb (f_37 M b2 ((1 + x14))) fun x16 => f_43_46 (fun M a0 a1 a2 a3 => f_43_5 z M a0 a1 a2 a3) M o b1 x16 b3))
set_option maxRecDepth 20000 in
theorem k_43_46 (d : Nat) (r5 : ZMem → Nat → Int32 → Int32 → Int32 → Option (Int32)) (h5 : ∀ (M : ZMem) (a0 : Nat) (a1 : Int32) (a2 : Int32) (a3 : Int32) (out : Int32), r5 M a0 a1 a2 a3 = some out → zgo none (d + 2) 43 5 [(0, zrf (some a0)), (1, .int a1), (2, .int a2), (3, .int a3)] [] M (some (.int out), M)) : ∀ (M : ZMem) (o : Nat) (b1 : Int32) (b2 : Int32) (b3 : Int32) (out : Int32), f_43_46 r5 M o b1 b2 b3 = some out → zgo none (d + 2) 43 46 [(0, zrf (some o)), (1, .int b1), (2, .int b2), (3, .int b3)] [] M (some (.int out), M) := by
  intro M o b1 b2 b3 out h
  unfold f_43_46 at h
  refine zo_iinc (p' := 49) (v := (b3 + 1)) (L' := [(0, zrf (some o)), (1, .int b1), (2, .int b2), (3, .int ((b3 + 1)))]) (zi_43 rfl) rfl zm_43_3 rfl rfl ⟨Or.inr ⟨by decide, rfl, fun q => absurd q (by decide)⟩, ⟨Or.inr ⟨by decide, rfl, fun q => absurd q (by decide)⟩, ⟨Or.inr ⟨by decide, rfl, fun _ => rfl⟩, ⟨Or.inl ⟨rfl, rfl⟩, trivial⟩⟩⟩⟩ ?_
  refine zo_goto (p' := 5) (zi_43 rfl) rfl ?_
  refine zgo_sub (L' := [(0, zrf (some o)), (1, .int b1), (2, .int b2), (3, .int (((b3 + 1))))]) (⟨rfl, rfl, rfl, rfl, trivial⟩) ?_
  exact h5 M o b1 b2 ((b3 + 1)) _ h
set_option maxRecDepth 20000 in
theorem k_43_5 (d : Nat) : ∀ (z : Nat) (M : ZMem) (o : Nat) (b1 : Int32) (b2 : Int32) (b3 : Int32) (out : Int32), f_43_5 z M o b1 b2 b3 = some out → zgo none (d + 2) 43 5 [(0, zrf (some o)), (1, .int b1), (2, .int b2), (3, .int b3)] [] M (some (.int out), M) := by
  intro z
  induction z with
  | zero => intro M o b1 b2 b3 out h; cases h
  | succ z ih =>
    intro M o b1 b2 b3 out h
    rw [f_43_5] at h
    refine zo_iload_n (p' := 6) (zi_43 rfl) rfl rfl ?_
    refine zo_iload_n (p' := 7) (zi_43 rfl) rfl rfl ?_
    by_cases hc1 : b1 ≤ b3
    · rw [if_pos hc1] at h
      refine zo_icT (p' := 52) (zi_43 rfl) rfl hc1 ?_
      refine zo_iload_n (p' := 53) (zi_43 rfl) rfl rfl ?_
      have g18 := Option.some.inj h
      subst g18
      exact zo_iret (zi_43 rfl) rfl ⟨rfl, rfl⟩
    · rw [if_neg hc1] at h
      refine zo_icF (p' := 10) (zi_43 rfl) rfl rfl hc1 ?_
      refine zo_aload_n (p' := 11) (zi_43 rfl) rfl rfl ?_
      refine zo_aload_n (p' := 12) (zi_43 rfl) rfl rfl ?_
      obtain ⟨r2, hx3, g19⟩ := zb_of h
      refine zo_getR (p' := 15) (zi_43 rfl) rfl zl_9_18 hx3 ?_
      refine zo_iload_n (p' := 16) (zi_43 rfl) rfl rfl ?_
      refine zo_iload_n (p' := 17) (zi_43 rfl) rfl rfl ?_
      obtain ⟨x4, hx5, g20⟩ := zb_of g19
      refine zo_callVi (p' := 20) (t := 9) (as := [zrf r2, .int b1, .int b3]) (r := []) (zi_43 rfl) rfl zl_9_80 rfl rfl (Or.inl ⟨by decide, rfl⟩) (Nat.le_of_ble_eq_true rfl) (by rw [zml_44]; simp [lg_sl, zrf_cat, zcat_i, zcat_l, zcat_r]; done) (f_44_ok hx5) (k_44 _ hx5) ?_
      refine zo_aload_n (p' := 21) (zi_43 rfl) rfl rfl ?_
      obtain ⟨r6, hx7, g21⟩ := zb_of g20
      refine zo_getR (p' := 24) (zi_43 rfl) rfl zl_9_18 hx7 ?_
      refine zo_iload_n (p' := 25) (zi_43 rfl) rfl rfl ?_
      obtain ⟨q8, h0, g22⟩ := zb_of g21
      subst h0
      obtain ⟨x9, hx10, g23⟩ := zb_of g22
      refine zo_iald (p' := 26) (zi_43 rfl) rfl hx10 ?_
      by_cases hc11 : ¬ x4 = x9
      · rw [if_pos hc11] at g23
        refine zo_icT (p' := 46) (zi_43 rfl) rfl hc11 ?_
        refine zgo_sub (L' := [(0, zrf (some o)), (1, .int b1), (2, .int b2), (3, .int b3)]) (⟨rfl, rfl, rfl, rfl, trivial⟩) ?_
        exact k_43_46 _ _ (fun M a0 a1 a2 a3 out h => ih M a0 a1 a2 a3 out h) M o b1 b2 b3 _ g23
      · rw [if_neg hc11] at g23
        refine zo_icF (p' := 29) (zi_43 rfl) rfl rfl hc11 ?_
        refine zo_iload_n (p' := 30) (zi_43 rfl) rfl rfl ?_
        refine zo_iconst (p' := 31) (v := 1) (zi_43 rfl) rfl rfl ?_
        refine zo_aload_n (p' := 32) (zi_43 rfl) rfl rfl ?_
        refine zo_aload_n (p' := 33) (zi_43 rfl) rfl rfl ?_
        obtain ⟨r12, hx13, g24⟩ := zb_of g23
        refine zo_getR (p' := 36) (zi_43 rfl) rfl zl_9_22 hx13 ?_
        refine zo_iload_n (p' := 37) (zi_43 rfl) rfl rfl ?_
        refine zo_iload_n (p' := 38) (zi_43 rfl) rfl rfl ?_
        obtain ⟨x14, hx15, g25⟩ := zb_of g24
        refine zo_callVi (p' := 41) (t := 9) (as := [zrf r12, .int b1, .int b3]) (r := [.int 1, .int b2]) (zi_43 rfl) rfl zl_9_80 rfl rfl (Or.inl ⟨by decide, rfl⟩) (Nat.le_of_ble_eq_true rfl) (by rw [zml_44]; simp [lg_sl, zrf_cat, zcat_i, zcat_l, zcat_r]; done) (f_44_ok hx15) (k_44 _ hx15) ?_
        refine zo_iadd (p' := 42) (zi_43 rfl) rfl ?_
        obtain ⟨x16, hx17, g26⟩ := zb_of g25
        refine zo_callSi (p' := 45) (as := [.int b2, .int ((1 + x14))]) (r := []) (zi_43 rfl) rfl (Or.inl zl_9_84) rfl rfl (Nat.le_of_ble_eq_true rfl) (Nat.le_of_ble_eq_true rfl) (k_37 _ hx17) ?_
        refine zo_istore_n (p' := 46) (L' := [(0, zrf (some o)), (1, .int b1), (2, .int x16), (3, .int b3)]) (zi_43 rfl) rfl zm_43_2 ⟨Or.inr ⟨by decide, rfl, fun q => absurd q (by decide)⟩, ⟨Or.inr ⟨by decide, rfl, fun _ => rfl⟩, ⟨Or.inl ⟨rfl, rfl⟩, ⟨Or.inr ⟨by decide, rfl, fun q => absurd q (by decide)⟩, trivial⟩⟩⟩⟩ ?_
        refine zgo_sub (L' := [(0, zrf (some o)), (1, .int b1), (2, .int x16), (3, .int b3)]) (⟨rfl, rfl, rfl, rfl, trivial⟩) ?_
        exact k_43_46 _ _ (fun M a0 a1 a2 a3 out h => ih M a0 a1 a2 a3 out h) M o b1 x16 b3 _ g26
def f_43 (M : ZMem) (o : Nat) (a0 : Int32) : Option (Int32) := if zok M 9 o = true then (f_43_5 zF M o a0 60 1) else none
theorem f_43_ok {M : ZMem} {o : Nat} {a0 : Int32} {out : Int32} (h : f_43 M o a0 = some out) : zok M 9 o = true := by
  unfold f_43 at h
  by_cases hok : zok M 9 o = true
  · exact hok
  · rw [if_neg hok] at h; cases h
set_option maxRecDepth 20000 in
theorem k_43 (d : Nat) {M : ZMem} {o : Nat} {a0 : Int32} {out : Int32} (h : f_43 M o a0 = some out) : zrn (d + 2) 43 [zrf (some o), .int a0] M (some (.int out), M) := by
  unfold f_43 at h
  by_cases hok : zok M 9 o = true
  · rw [if_pos hok] at h
    refine zrn_of (L := [(0, zrf (some o)), (1, .int a0)]) rfl ?_
    refine zo_bipush (p' := 2) (v := 60) (zi_43 rfl) rfl rfl ?_
    refine zo_istore_n (p' := 3) (L' := [(0, zrf (some o)), (1, .int a0), (2, .int 60)]) (zi_43 rfl) rfl zm_43_2 ⟨Or.inr ⟨by decide, rfl, fun q => absurd q (by decide)⟩, ⟨Or.inr ⟨by decide, rfl, fun _ => rfl⟩, ⟨Or.inl ⟨rfl, rfl⟩, trivial⟩⟩⟩ ?_
    refine zo_iconst (p' := 4) (v := 1) (zi_43 rfl) rfl rfl ?_
    refine zo_istore_n (p' := 5) (L' := [(0, zrf (some o)), (1, .int a0), (2, .int 60), (3, .int 1)]) (zi_43 rfl) rfl zm_43_3 ⟨Or.inr ⟨by decide, rfl, fun q => absurd q (by decide)⟩, ⟨Or.inr ⟨by decide, rfl, fun q => absurd q (by decide)⟩, ⟨Or.inr ⟨by decide, rfl, fun _ => rfl⟩, ⟨Or.inl ⟨rfl, rfl⟩, trivial⟩⟩⟩⟩ ?_
    refine zgo_sub (L' := [(0, zrf (some o)), (1, .int a0), (2, .int 60), (3, .int 1)]) (⟨rfl, rfl, rfl, rfl, trivial⟩) ?_
    exact k_43_5 _ zF M o a0 60 1 _ h
  · rw [if_neg hok] at h; cases h
/-- SlateHalves$Valuer.fewOf(I)I -/
def f_42_52 (r19 : ZMem → Nat → Int32 → Int32 → Option (Int32 × ZMem)) (M : ZMem) (o : Nat) (b1 : Int32) (b2 : Int32) (b3 : Int32) (b4 : Int32) (b5 : Option Nat) : Option (Int32 × ZMem) := zb b5 fun q44 => zb (zsa M 20 q44 b4 b3) fun M45 => r19 M45 o b1 ((b2 + 1))
def f_42_19 : Nat → ZMem → Nat → Int32 → Int32 → Option (Int32 × ZMem)
  | 0, _, _, _, _ => none
  | z + 1, M, o, b1, b2 => if b1 < b2 then (zb (zgr M 9 2 o) fun r17 => zb r17 fun q19 => zb (zai M q19 b1) fun x20 => some (x20, M)) else (zb (zgr M 9 2 o) fun r22 => zb (zgr M 9 1 o) fun r24 => zb r24 fun q26 => zb (zai M q26 b2) fun x27 => zb (f_33 M o b2) fun x29 => if ¬ x27 = x29 then (zb (f_43 M o b2) fun x32 => f_42_52 (fun M a0 a1 a2 => f_42_19 z M a0 a1 a2) M o b1 b2 x32 b2 r22) else (f_42_52 (fun M a0 a1 a2 => f_42_19 z M a0 a1 a2) M o b1 b2 0 b2 r22))
set_option maxRecDepth 20000 in
theorem k_42_52 (d : Nat) (r19 : ZMem → Nat → Int32 → Int32 → Option (Int32 × ZMem)) (h19 : ∀ (M : ZMem) (a0 : Nat) (a1 : Int32) (a2 : Int32) (out : Int32 × ZMem), r19 M a0 a1 a2 = some out → zgo none (d + 3) 42 19 [(0, zrf (some a0)), (2, .int a1), (3, .int a2)] [] M (some (.int out.1), out.2)) : ∀ (M : ZMem) (o : Nat) (b1 : Int32) (b2 : Int32) (b3 : Int32) (b4 : Int32) (b5 : Option Nat) (out : Int32 × ZMem), f_42_52 r19 M o b1 b2 b3 b4 b5 = some out → zgo none (d + 3) 42 52 [(0, zrf (some o)), (2, .int b1), (3, .int b2)] [.int b3, .int b4, zrf b5] M (some (.int out.1), out.2) := by
  intro M o b1 b2 b3 b4 b5 out h
  unfold f_42_52 at h
  obtain ⟨q44, h0, g47⟩ := zb_of h
  subst h0
  obtain ⟨M45, hx46, g48⟩ := zb_of g47
  refine zo_iast (p' := 53) (zi_42 rfl) rfl hx46 ?_
  refine zo_iinc (p' := 56) (v := (b2 + 1)) (L' := [(0, zrf (some o)), (2, .int b1), (3, .int ((b2 + 1)))]) (zi_42 rfl) rfl zm_42_3 rfl rfl ⟨Or.inr ⟨by decide, rfl, fun q => absurd q (by decide)⟩, ⟨Or.inr ⟨by decide, rfl, fun _ => rfl⟩, ⟨Or.inl ⟨rfl, rfl⟩, trivial⟩⟩⟩ ?_
  refine zo_goto (p' := 19) (zi_42 rfl) rfl ?_
  refine zgo_sub (L' := [(0, zrf (some o)), (2, .int b1), (3, .int (((b2 + 1))))]) (⟨rfl, rfl, rfl, trivial⟩) ?_
  exact h19 M45 o b1 ((b2 + 1)) _ g48
set_option maxRecDepth 20000 in
theorem k_42_19 (d : Nat) : ∀ (z : Nat) (M : ZMem) (o : Nat) (b1 : Int32) (b2 : Int32) (out : Int32 × ZMem), f_42_19 z M o b1 b2 = some out → zgo none (d + 3) 42 19 [(0, zrf (some o)), (2, .int b1), (3, .int b2)] [] M (some (.int out.1), out.2) := by
  intro z
  induction z with
  | zero => intro M o b1 b2 out h; cases h
  | succ z ih =>
    intro M o b1 b2 out h
    rw [f_42_19] at h
    refine zo_iload_n (p' := 20) (zi_42 rfl) rfl rfl ?_
    refine zo_iload_n (p' := 21) (zi_42 rfl) rfl rfl ?_
    by_cases hc16 : b1 < b2
    · rw [if_pos hc16] at h
      refine zo_icT (p' := 59) (zi_42 rfl) rfl hc16 ?_
      refine zo_aload_n (p' := 60) (zi_42 rfl) rfl rfl ?_
      obtain ⟨r17, hx18, g34⟩ := zb_of h
      refine zo_getR (p' := 63) (zi_42 rfl) rfl zl_9_22 hx18 ?_
      refine zo_iload_n (p' := 64) (zi_42 rfl) rfl rfl ?_
      obtain ⟨q19, h0, g35⟩ := zb_of g34
      subst h0
      obtain ⟨x20, hx21, g36⟩ := zb_of g35
      refine zo_iald (p' := 65) (zi_42 rfl) rfl hx21 ?_
      have g37 := Option.some.inj g36
      subst g37
      exact zo_iret (zi_42 rfl) rfl ⟨rfl, rfl⟩
    · rw [if_neg hc16] at h
      refine zo_icF (p' := 24) (zi_42 rfl) rfl rfl hc16 ?_
      refine zo_aload_n (p' := 25) (zi_42 rfl) rfl rfl ?_
      obtain ⟨r22, hx23, g38⟩ := zb_of h
      refine zo_getR (p' := 28) (zi_42 rfl) rfl zl_9_22 hx23 ?_
      refine zo_iload_n (p' := 29) (zi_42 rfl) rfl rfl ?_
      refine zo_aload_n (p' := 30) (zi_42 rfl) rfl rfl ?_
      obtain ⟨r24, hx25, g39⟩ := zb_of g38
      refine zo_getR (p' := 33) (zi_42 rfl) rfl zl_9_18 hx25 ?_
      refine zo_iload_n (p' := 34) (zi_42 rfl) rfl rfl ?_
      obtain ⟨q26, h0, g40⟩ := zb_of g39
      subst h0
      obtain ⟨x27, hx28, g41⟩ := zb_of g40
      refine zo_iald (p' := 35) (zi_42 rfl) rfl hx28 ?_
      refine zo_aload_n (p' := 36) (zi_42 rfl) rfl rfl ?_
      refine zo_iload_n (p' := 37) (zi_42 rfl) rfl rfl ?_
      obtain ⟨x29, hx30, g42⟩ := zb_of g41
      refine zo_callVi (p' := 40) (t := 9) (as := [.int b2]) (r := [.int x27, .int b2, zrf r22]) (zi_42 rfl) rfl zl_9_74 rfl rfl (Or.inl ⟨by decide, rfl⟩) (by simp [zrf_cat, zcat_i, zcat_l, zcat_r]) (Nat.le_of_ble_eq_true rfl) (f_33_ok hx30) (k_33 _ hx30) ?_
      by_cases hc31 : ¬ x27 = x29
      · rw [if_pos hc31] at g42
        refine zo_icT (p' := 47) (zi_42 rfl) rfl hc31 ?_
        refine zo_aload_n (p' := 48) (zi_42 rfl) rfl rfl ?_
        refine zo_iload_n (p' := 49) (zi_42 rfl) rfl rfl ?_
        obtain ⟨x32, hx33, g43⟩ := zb_of g42
        refine zo_callVi (p' := 52) (t := 9) (as := [.int b2]) (r := [.int b2, zrf r22]) (zi_42 rfl) rfl zl_9_77 rfl rfl (Or.inl ⟨by decide, rfl⟩) (by simp [zrf_cat, zcat_i, zcat_l, zcat_r]) (Nat.le_of_ble_eq_true rfl) (f_43_ok hx33) (k_43 _ hx33) ?_
        refine zgo_sub (L' := [(0, zrf (some o)), (2, .int b1), (3, .int b2)]) (⟨rfl, rfl, rfl, trivial⟩) ?_
        exact k_42_52 _ _ (fun M a0 a1 a2 out h => ih M a0 a1 a2 out h) M o b1 b2 x32 b2 r22 _ g43
      · rw [if_neg hc31] at g42
        refine zo_icF (p' := 43) (zi_42 rfl) rfl rfl hc31 ?_
        refine zo_iconst (p' := 44) (v := 0) (zi_42 rfl) rfl rfl ?_
        refine zo_goto (p' := 52) (zi_42 rfl) rfl ?_
        refine zgo_sub (L' := [(0, zrf (some o)), (2, .int b1), (3, .int b2)]) (⟨rfl, rfl, rfl, trivial⟩) ?_
        exact k_42_52 _ _ (fun M a0 a1 a2 out h => ih M a0 a1 a2 out h) M o b1 b2 0 b2 r22 _ g42
def f_42 (M : ZMem) (o : Nat) (a0 : Int32) : Option (Int32 × ZMem) := if zok M 9 o = true then (zb (f_35 M o a0) fun M3 => zb (f_36 M3 a0) fun x4 => zb (zgr M3 9 2 o) fun r6 => zb r6 fun q8 => zb (zsa M3 20 q8 0 0) fun M9 => f_42_19 zF M9 o x4 1) else none
theorem f_42_ok {M : ZMem} {o : Nat} {a0 : Int32} {out : Int32 × ZMem} (h : f_42 M o a0 = some out) : zok M 9 o = true := by
  unfold f_42 at h
  by_cases hok : zok M 9 o = true
  · exact hok
  · rw [if_neg hok] at h; cases h
set_option maxRecDepth 20000 in
theorem k_42 (d : Nat) {M : ZMem} {o : Nat} {a0 : Int32} {out : Int32 × ZMem} (h : f_42 M o a0 = some out) : zrn (d + 3) 42 [zrf (some o), .int a0] M (some (.int out.1), out.2) := by
  unfold f_42 at h
  by_cases hok : zok M 9 o = true
  · rw [if_pos hok] at h
    refine zrn_of (L := [(0, zrf (some o)), (1, .int a0)]) rfl ?_
    refine zo_aload_n (p' := 1) (zi_42 rfl) rfl rfl ?_
    refine zo_iload_n (p' := 2) (zi_42 rfl) rfl rfl ?_
    obtain ⟨M3, hx2, g11⟩ := zb_of h
    refine zo_callVv (p' := 5) (t := 9) (as := [.int a0]) (r := []) (zi_42 rfl) rfl zl_9_63 rfl rfl (Or.inl ⟨by decide, rfl⟩) (Nat.le_of_ble_eq_true rfl) (Nat.le_of_ble_eq_true rfl) (f_35_ok hx2) (k_35 _ hx2) ?_
    refine zo_iload_n (p' := 6) (zi_42 rfl) rfl rfl ?_
    obtain ⟨x4, hx5, g12⟩ := zb_of g11
    refine zo_callSi (p' := 9) (as := [.int a0]) (r := []) (zi_42 rfl) rfl (Or.inl zl_9_67) rfl rfl (Nat.le_of_ble_eq_true rfl) (Nat.le_of_ble_eq_true rfl) (k_36 _ hx5) ?_
    refine zo_istore_n (p' := 10) (L' := [(0, zrf (some o)), (1, .int a0), (2, .int x4)]) (zi_42 rfl) rfl zm_42_2 ⟨Or.inr ⟨by decide, rfl, fun q => absurd q (by decide)⟩, ⟨Or.inr ⟨by decide, rfl, fun _ => rfl⟩, ⟨Or.inl ⟨rfl, rfl⟩, trivial⟩⟩⟩ ?_
    refine zo_aload_n (p' := 11) (zi_42 rfl) rfl rfl ?_
    obtain ⟨r6, hx7, g13⟩ := zb_of g12
    refine zo_getR (p' := 14) (zi_42 rfl) rfl zl_9_22 hx7 ?_
    refine zo_iconst (p' := 15) (v := 0) (zi_42 rfl) rfl rfl ?_
    refine zo_iconst (p' := 16) (v := 0) (zi_42 rfl) rfl rfl ?_
    obtain ⟨q8, h0, g14⟩ := zb_of g13
    subst h0
    obtain ⟨M9, hx10, g15⟩ := zb_of g14
    refine zo_iast (p' := 17) (zi_42 rfl) rfl hx10 ?_
    refine zo_iconst (p' := 18) (v := 1) (zi_42 rfl) rfl rfl ?_
    refine zo_istore_n (p' := 19) (L' := [(0, zrf (some o)), (1, .int a0), (2, .int x4), (3, .int 1)]) (zi_42 rfl) rfl zm_42_3 ⟨Or.inr ⟨by decide, rfl, fun q => absurd q (by decide)⟩, ⟨Or.inr ⟨by decide, rfl, fun q => absurd q (by decide)⟩, ⟨Or.inr ⟨by decide, rfl, fun _ => rfl⟩, ⟨Or.inl ⟨rfl, rfl⟩, trivial⟩⟩⟩⟩ ?_
    refine zgo_sub (L' := [(0, zrf (some o)), (2, .int x4), (3, .int 1)]) (⟨rfl, rfl, rfl, trivial⟩) ?_
    exact k_42_19 _ zF M9 o x4 1 _ g15
  · rw [if_neg hok] at h; cases h
/-- SlateHalves$Valuer.manyOf(I)I -/
def f_45 (M : ZMem) (o : Nat) (a0 : Int32) : Option (Int32 × ZMem) := if zok M 9 o = true then (zb (zpf M 9 5 o (.int 1) false) fun M1 => zb (zpf M1 9 6 o (.int 0) false) fun M3 => zbd (f_34 M3 o a0) fun x5 M7 => some (x5, M7)) else none
theorem f_45_ok {M : ZMem} {o : Nat} {a0 : Int32} {out : Int32 × ZMem} (h : f_45 M o a0 = some out) : zok M 9 o = true := by
  unfold f_45 at h
  by_cases hok : zok M 9 o = true
  · exact hok
  · rw [if_neg hok] at h; cases h
set_option maxRecDepth 20000 in
theorem k_45 (d : Nat) {M : ZMem} {o : Nat} {a0 : Int32} {out : Int32 × ZMem} (h : f_45 M o a0 = some out) : zrn (d + 4) 45 [zrf (some o), .int a0] M (some (.int out.1), out.2) := by
  unfold f_45 at h
  by_cases hok : zok M 9 o = true
  · rw [if_pos hok] at h
    refine zrn_of (L := [(0, zrf (some o)), (1, .int a0)]) rfl ?_
    refine zo_aload_n (p' := 1) (zi_45 rfl) rfl rfl ?_
    refine zo_iconst (p' := 2) (v := 1) (zi_45 rfl) rfl rfl ?_
    obtain ⟨M1, hx2, g8⟩ := zb_of h
    refine zo_putI (p' := 5) (zi_45 rfl) rfl zl_9_57 (zpb_45 _) hx2 ?_
    refine zo_aload_n (p' := 6) (zi_45 rfl) rfl rfl ?_
    refine zo_iconst (p' := 7) (v := 0) (zi_45 rfl) rfl rfl ?_
    obtain ⟨M3, hx4, g9⟩ := zb_of g8
    refine zo_putI (p' := 10) (zi_45 rfl) rfl zl_9_60 (zpb_45 _) hx4 ?_
    refine zo_aload_n (p' := 11) (zi_45 rfl) rfl rfl ?_
    refine zo_iload_n (p' := 12) (zi_45 rfl) rfl rfl ?_
    obtain ⟨x5, M7, hx6, g10⟩ := zbd_of g9
    refine zo_callVi (p' := 15) (t := 9) (as := [.int a0]) (r := []) (zi_45 rfl) rfl zl_9_71 rfl rfl (Or.inl ⟨by decide, rfl⟩) (Nat.le_of_ble_eq_true rfl) (Nat.le_of_ble_eq_true rfl) (f_34_ok hx6) (k_34 _ hx6) ?_
    have g11 := Option.some.inj g10
    subst g11
    exact zo_iret (zi_45 rfl) rfl ⟨rfl, rfl⟩
  · rw [if_neg hok] at h; cases h
/-- SlateHalves$Valuer.halvesOf(I)I -/
def f_46_52 (r14 : ZMem → Nat → Int32 → Int32 → Option (Int32 × ZMem)) (M : ZMem) (o : Nat) (b1 : Int32) (b2 : Int32) (b3 : Int32) (b4 : Int32) (b5 : Option Nat) : Option (Int32 × ZMem) := zb b5 fun q38 => zb (zsa M 20 q38 b4 b3) fun M39 => r14 M39 o b1 ((b2 + 1))
def f_46_14 : Nat → ZMem → Nat → Int32 → Int32 → Option (Int32 × ZMem)
  | 0, _, _, _, _ => none
  | z + 1, M, o, b1, b2 => if b1 < b2 then (zb (zgr M 9 2 o) fun r13 => zb r13 fun q15 => zb (zai M q15 b1) fun x16 => some (x16, M)) else (zb (zgr M 9 2 o) fun r18 => zb (zgi M 9 4 o) fun x20 => if x20 < b2 then (zb (zgr M 9 2 o) fun r23 => zb (f_44 M o r23 b2 ((b2 / 2))) fun x25 => f_46_52 (fun M a0 a1 a2 => f_46_14 z M a0 a1 a2) M o b1 b2 x25 b2 r18) else (zb (f_33 M o b2) fun x27 => f_46_52 (fun M a0 a1 a2 => f_46_14 z M a0 a1 a2) M o b1 b2 x27 b2 r18))
set_option maxRecDepth 20000 in
theorem k_46_52 (d : Nat) (r14 : ZMem → Nat → Int32 → Int32 → Option (Int32 × ZMem)) (h14 : ∀ (M : ZMem) (a0 : Nat) (a1 : Int32) (a2 : Int32) (out : Int32 × ZMem), r14 M a0 a1 a2 = some out → zgo none (d + 2) 46 14 [(0, zrf (some a0)), (2, .int a1), (3, .int a2)] [] M (some (.int out.1), out.2)) : ∀ (M : ZMem) (o : Nat) (b1 : Int32) (b2 : Int32) (b3 : Int32) (b4 : Int32) (b5 : Option Nat) (out : Int32 × ZMem), f_46_52 r14 M o b1 b2 b3 b4 b5 = some out → zgo none (d + 2) 46 52 [(0, zrf (some o)), (2, .int b1), (3, .int b2)] [.int b3, .int b4, zrf b5] M (some (.int out.1), out.2) := by
  intro M o b1 b2 b3 b4 b5 out h
  unfold f_46_52 at h
  obtain ⟨q38, h0, g41⟩ := zb_of h
  subst h0
  obtain ⟨M39, hx40, g42⟩ := zb_of g41
  refine zo_iast (p' := 53) (zi_46 rfl) rfl hx40 ?_
  refine zo_iinc (p' := 56) (v := (b2 + 1)) (L' := [(0, zrf (some o)), (2, .int b1), (3, .int ((b2 + 1)))]) (zi_46 rfl) rfl zm_46_3 rfl rfl ⟨Or.inr ⟨by decide, rfl, fun q => absurd q (by decide)⟩, ⟨Or.inr ⟨by decide, rfl, fun _ => rfl⟩, ⟨Or.inl ⟨rfl, rfl⟩, trivial⟩⟩⟩ ?_
  refine zo_goto (p' := 14) (zi_46 rfl) rfl ?_
  refine zgo_sub (L' := [(0, zrf (some o)), (2, .int b1), (3, .int (((b2 + 1))))]) (⟨rfl, rfl, rfl, trivial⟩) ?_
  exact h14 M39 o b1 ((b2 + 1)) _ g42
set_option maxRecDepth 20000 in
theorem k_46_14 (d : Nat) : ∀ (z : Nat) (M : ZMem) (o : Nat) (b1 : Int32) (b2 : Int32) (out : Int32 × ZMem), f_46_14 z M o b1 b2 = some out → zgo none (d + 2) 46 14 [(0, zrf (some o)), (2, .int b1), (3, .int b2)] [] M (some (.int out.1), out.2) := by
  intro z
  induction z with
  | zero => intro M o b1 b2 out h; cases h
  | succ z ih =>
    intro M o b1 b2 out h
    rw [f_46_14] at h
    refine zo_iload_n (p' := 15) (zi_46 rfl) rfl rfl ?_
    refine zo_iload_n (p' := 16) (zi_46 rfl) rfl rfl ?_
    by_cases hc12 : b1 < b2
    · rw [if_pos hc12] at h
      refine zo_icT (p' := 59) (zi_46 rfl) rfl hc12 ?_
      refine zo_aload_n (p' := 60) (zi_46 rfl) rfl rfl ?_
      obtain ⟨r13, hx14, g29⟩ := zb_of h
      refine zo_getR (p' := 63) (zi_46 rfl) rfl zl_9_22 hx14 ?_
      refine zo_iload_n (p' := 64) (zi_46 rfl) rfl rfl ?_
      obtain ⟨q15, h0, g30⟩ := zb_of g29
      subst h0
      obtain ⟨x16, hx17, g31⟩ := zb_of g30
      refine zo_iald (p' := 65) (zi_46 rfl) rfl hx17 ?_
      have g32 := Option.some.inj g31
      subst g32
      exact zo_iret (zi_46 rfl) rfl ⟨rfl, rfl⟩
    · rw [if_neg hc12] at h
      refine zo_icF (p' := 19) (zi_46 rfl) rfl rfl hc12 ?_
      refine zo_aload_n (p' := 20) (zi_46 rfl) rfl rfl ?_
      obtain ⟨r18, hx19, g33⟩ := zb_of h
      refine zo_getR (p' := 23) (zi_46 rfl) rfl zl_9_22 hx19 ?_
      refine zo_iload_n (p' := 24) (zi_46 rfl) rfl rfl ?_
      refine zo_iload_n (p' := 25) (zi_46 rfl) rfl rfl ?_
      refine zo_aload_n (p' := 26) (zi_46 rfl) rfl rfl ?_
      obtain ⟨x20, hx21, g34⟩ := zb_of g33
      refine zo_getI (p' := 29) (zi_46 rfl) rfl zl_9_50 hx21 ?_
      by_cases hc22 : x20 < b2
      · rw [if_pos hc22] at g34
        refine zo_icT (p' := 40) (zi_46 rfl) rfl hc22 ?_
        refine zo_aload_n (p' := 41) (zi_46 rfl) rfl rfl ?_
        refine zo_aload_n (p' := 42) (zi_46 rfl) rfl rfl ?_
        obtain ⟨r23, hx24, g35⟩ := zb_of g34
        refine zo_getR (p' := 45) (zi_46 rfl) rfl zl_9_22 hx24 ?_
        refine zo_iload_n (p' := 46) (zi_46 rfl) rfl rfl ?_
        refine zo_iload_n (p' := 47) (zi_46 rfl) rfl rfl ?_
        refine zo_iconst (p' := 48) (v := 2) (zi_46 rfl) rfl rfl ?_
        refine zo_idiv (p' := 49) (zi_46 rfl) rfl (by decide) ?_
        obtain ⟨x25, hx26, g36⟩ := zb_of g35
        refine zo_callVi (p' := 52) (t := 9) (as := [zrf r23, .int b2, .int ((b2 / 2))]) (r := [.int b2, zrf r18]) (zi_46 rfl) rfl zl_9_80 rfl rfl (Or.inl ⟨by decide, rfl⟩) (by simp [zrf_cat, zcat_i, zcat_l, zcat_r]) (by rw [zml_44]; simp [lg_sl, zrf_cat, zcat_i, zcat_l, zcat_r]; done) (f_44_ok hx26) (k_44 _ hx26) ?_
        refine zgo_sub (L' := [(0, zrf (some o)), (2, .int b1), (3, .int b2)]) (⟨rfl, rfl, rfl, trivial⟩) ?_
        exact k_46_52 _ _ (fun M a0 a1 a2 out h => ih M a0 a1 a2 out h) M o b1 b2 x25 b2 r18 _ g36
      · rw [if_neg hc22] at g34
        refine zo_icF (p' := 32) (zi_46 rfl) rfl rfl hc22 ?_
        refine zo_aload_n (p' := 33) (zi_46 rfl) rfl rfl ?_
        refine zo_iload_n (p' := 34) (zi_46 rfl) rfl rfl ?_
        obtain ⟨x27, hx28, g37⟩ := zb_of g34
        refine zo_callVi (p' := 37) (t := 9) (as := [.int b2]) (r := [.int b2, zrf r18]) (zi_46 rfl) rfl zl_9_74 rfl rfl (Or.inl ⟨by decide, rfl⟩) (by simp [zrf_cat, zcat_i, zcat_l, zcat_r]) (Nat.le_of_ble_eq_true rfl) (f_33_ok hx28) (k_33 _ hx28) ?_
        refine zo_goto (p' := 52) (zi_46 rfl) rfl ?_
        refine zgo_sub (L' := [(0, zrf (some o)), (2, .int b1), (3, .int b2)]) (⟨rfl, rfl, rfl, trivial⟩) ?_
        exact k_46_52 _ _ (fun M a0 a1 a2 out h => ih M a0 a1 a2 out h) M o b1 b2 x27 b2 r18 _ g37
def f_46 (M : ZMem) (o : Nat) (a0 : Int32) : Option (Int32 × ZMem) := if zok M 9 o = true then (zb (f_36 M a0) fun x1 => zb (zgr M 9 2 o) fun r3 => zb r3 fun q5 => zb (zsa M 20 q5 0 0) fun M6 => f_46_14 zF M6 o x1 1) else none
theorem f_46_ok {M : ZMem} {o : Nat} {a0 : Int32} {out : Int32 × ZMem} (h : f_46 M o a0 = some out) : zok M 9 o = true := by
  unfold f_46 at h
  by_cases hok : zok M 9 o = true
  · exact hok
  · rw [if_neg hok] at h; cases h
set_option maxRecDepth 20000 in
theorem k_46 (d : Nat) {M : ZMem} {o : Nat} {a0 : Int32} {out : Int32 × ZMem} (h : f_46 M o a0 = some out) : zrn (d + 2) 46 [zrf (some o), .int a0] M (some (.int out.1), out.2) := by
  unfold f_46 at h
  by_cases hok : zok M 9 o = true
  · rw [if_pos hok] at h
    refine zrn_of (L := [(0, zrf (some o)), (1, .int a0)]) rfl ?_
    refine zo_iload_n (p' := 1) (zi_46 rfl) rfl rfl ?_
    obtain ⟨x1, hx2, g8⟩ := zb_of h
    refine zo_callSi (p' := 4) (as := [.int a0]) (r := []) (zi_46 rfl) rfl (Or.inl zl_9_67) rfl rfl (Nat.le_of_ble_eq_true rfl) (Nat.le_of_ble_eq_true rfl) (k_36 _ hx2) ?_
    refine zo_istore_n (p' := 5) (L' := [(0, zrf (some o)), (1, .int a0), (2, .int x1)]) (zi_46 rfl) rfl zm_46_2 ⟨Or.inr ⟨by decide, rfl, fun q => absurd q (by decide)⟩, ⟨Or.inr ⟨by decide, rfl, fun _ => rfl⟩, ⟨Or.inl ⟨rfl, rfl⟩, trivial⟩⟩⟩ ?_
    refine zo_aload_n (p' := 6) (zi_46 rfl) rfl rfl ?_
    obtain ⟨r3, hx4, g9⟩ := zb_of g8
    refine zo_getR (p' := 9) (zi_46 rfl) rfl zl_9_22 hx4 ?_
    refine zo_iconst (p' := 10) (v := 0) (zi_46 rfl) rfl rfl ?_
    refine zo_iconst (p' := 11) (v := 0) (zi_46 rfl) rfl rfl ?_
    obtain ⟨q5, h0, g10⟩ := zb_of g9
    subst h0
    obtain ⟨M6, hx7, g11⟩ := zb_of g10
    refine zo_iast (p' := 12) (zi_46 rfl) rfl hx7 ?_
    refine zo_iconst (p' := 13) (v := 1) (zi_46 rfl) rfl rfl ?_
    refine zo_istore_n (p' := 14) (L' := [(0, zrf (some o)), (1, .int a0), (2, .int x1), (3, .int 1)]) (zi_46 rfl) rfl zm_46_3 ⟨Or.inr ⟨by decide, rfl, fun q => absurd q (by decide)⟩, ⟨Or.inr ⟨by decide, rfl, fun q => absurd q (by decide)⟩, ⟨Or.inr ⟨by decide, rfl, fun _ => rfl⟩, ⟨Or.inl ⟨rfl, rfl⟩, trivial⟩⟩⟩⟩ ?_
    refine zgo_sub (L' := [(0, zrf (some o)), (2, .int x1), (3, .int 1)]) (⟨rfl, rfl, rfl, trivial⟩) ?_
    exact k_46_14 _ zF M6 o x1 1 _ g11
  · rw [if_neg hok] at h; cases h
/-- SlateHalves$Valuer.blowOf(I)I -/
def f_47_28 : Nat → ZMem → Nat → Int32 → Int32 → Option (Int32 × ZMem)
  | 0, _, _, _, _ => none
  | z + 1, M, o, b1, b2 => if b1 ≤ b2 then (some (0, M)) else (zb (zgr M 9 1 o) fun r22 => zb (f_44 M o r22 b1 b2) fun x24 => zb (zgr M 9 1 o) fun r26 => zb r26 fun q28 => zb (zai M q28 b1) fun x29 => if ¬ x24 = x29 then (f_47_28 z M o b1 ((b2 + 1))) else (some (b2, M)))
set_option maxRecDepth 20000 in
theorem k_47_28 (d : Nat) : ∀ (z : Nat) (M : ZMem) (o : Nat) (b1 : Int32) (b2 : Int32) (out : Int32 × ZMem), f_47_28 z M o b1 b2 = some out → zgo none (d + 3) 47 28 [(0, zrf (some o)), (2, .int b1), (3, .int b2)] [] M (some (.int out.1), out.2) := by
  intro z
  induction z with
  | zero => intro M o b1 b2 out h; cases h
  | succ z ih =>
    intro M o b1 b2 out h
    rw [f_47_28] at h
    refine zo_iload_n (p' := 29) (zi_47 rfl) rfl rfl ?_
    refine zo_iload_n (p' := 30) (zi_47 rfl) rfl rfl ?_
    by_cases hc21 : b1 ≤ b2
    · rw [if_pos hc21] at h
      refine zo_icT (p' := 60) (zi_47 rfl) rfl hc21 ?_
      refine zo_iconst (p' := 61) (v := 0) (zi_47 rfl) rfl rfl ?_
      have g32 := Option.some.inj h
      subst g32
      exact zo_iret (zi_47 rfl) rfl ⟨rfl, rfl⟩
    · rw [if_neg hc21] at h
      refine zo_icF (p' := 33) (zi_47 rfl) rfl rfl hc21 ?_
      refine zo_aload_n (p' := 34) (zi_47 rfl) rfl rfl ?_
      refine zo_aload_n (p' := 35) (zi_47 rfl) rfl rfl ?_
      obtain ⟨r22, hx23, g33⟩ := zb_of h
      refine zo_getR (p' := 38) (zi_47 rfl) rfl zl_9_18 hx23 ?_
      refine zo_iload_n (p' := 39) (zi_47 rfl) rfl rfl ?_
      refine zo_iload_n (p' := 40) (zi_47 rfl) rfl rfl ?_
      obtain ⟨x24, hx25, g34⟩ := zb_of g33
      refine zo_callVi (p' := 43) (t := 9) (as := [zrf r22, .int b1, .int b2]) (r := []) (zi_47 rfl) rfl zl_9_80 rfl rfl (Or.inl ⟨by decide, rfl⟩) (Nat.le_of_ble_eq_true rfl) (by rw [zml_44]; simp [lg_sl, zrf_cat, zcat_i, zcat_l, zcat_r]; done) (f_44_ok hx25) (k_44 _ hx25) ?_
      refine zo_aload_n (p' := 44) (zi_47 rfl) rfl rfl ?_
      obtain ⟨r26, hx27, g35⟩ := zb_of g34
      refine zo_getR (p' := 47) (zi_47 rfl) rfl zl_9_18 hx27 ?_
      refine zo_iload_n (p' := 48) (zi_47 rfl) rfl rfl ?_
      obtain ⟨q28, h0, g36⟩ := zb_of g35
      subst h0
      obtain ⟨x29, hx30, g37⟩ := zb_of g36
      refine zo_iald (p' := 49) (zi_47 rfl) rfl hx30 ?_
      by_cases hc31 : ¬ x24 = x29
      · rw [if_pos hc31] at g37
        refine zo_icT (p' := 54) (zi_47 rfl) rfl hc31 ?_
        refine zo_iinc (p' := 57) (v := (b2 + 1)) (L' := [(0, zrf (some o)), (2, .int b1), (3, .int ((b2 + 1)))]) (zi_47 rfl) rfl zm_47_3 rfl rfl ⟨Or.inr ⟨by decide, rfl, fun q => absurd q (by decide)⟩, ⟨Or.inr ⟨by decide, rfl, fun _ => rfl⟩, ⟨Or.inl ⟨rfl, rfl⟩, trivial⟩⟩⟩ ?_
        refine zo_goto (p' := 28) (zi_47 rfl) rfl ?_
        refine zgo_sub (L' := [(0, zrf (some o)), (2, .int b1), (3, .int (((b2 + 1))))]) (⟨rfl, rfl, rfl, trivial⟩) ?_
        exact ih M o b1 ((b2 + 1)) _ g37
      · rw [if_neg hc31] at g37
        refine zo_icF (p' := 52) (zi_47 rfl) rfl rfl hc31 ?_
        refine zo_iload_n (p' := 53) (zi_47 rfl) rfl rfl ?_
        have g38 := Option.some.inj g37
        subst g38
        exact zo_iret (zi_47 rfl) rfl ⟨rfl, rfl⟩
def f_47 (M : ZMem) (o : Nat) (a0 : Int32) : Option (Int32 × ZMem) := if zok M 9 o = true then (zb (f_35 M o a0) fun M3 => zb (f_36 M3 a0) fun x4 => zb (zgr M3 9 1 o) fun r6 => zb r6 fun q8 => zb (zai M3 q8 x4) fun x9 => zb (f_33 M3 o x4) fun x11 => if ¬ x9 = x11 then (f_47_28 zF M3 o x4 1) else (some (0, M3))) else none
theorem f_47_ok {M : ZMem} {o : Nat} {a0 : Int32} {out : Int32 × ZMem} (h : f_47 M o a0 = some out) : zok M 9 o = true := by
  unfold f_47 at h
  by_cases hok : zok M 9 o = true
  · exact hok
  · rw [if_neg hok] at h; cases h
set_option maxRecDepth 20000 in
theorem k_47 (d : Nat) {M : ZMem} {o : Nat} {a0 : Int32} {out : Int32 × ZMem} (h : f_47 M o a0 = some out) : zrn (d + 3) 47 [zrf (some o), .int a0] M (some (.int out.1), out.2) := by
  unfold f_47 at h
  by_cases hok : zok M 9 o = true
  · rw [if_pos hok] at h
    refine zrn_of (L := [(0, zrf (some o)), (1, .int a0)]) rfl ?_
    refine zo_aload_n (p' := 1) (zi_47 rfl) rfl rfl ?_
    refine zo_iload_n (p' := 2) (zi_47 rfl) rfl rfl ?_
    obtain ⟨M3, hx2, g14⟩ := zb_of h
    refine zo_callVv (p' := 5) (t := 9) (as := [.int a0]) (r := []) (zi_47 rfl) rfl zl_9_63 rfl rfl (Or.inl ⟨by decide, rfl⟩) (Nat.le_of_ble_eq_true rfl) (Nat.le_of_ble_eq_true rfl) (f_35_ok hx2) (k_35 _ hx2) ?_
    refine zo_iload_n (p' := 6) (zi_47 rfl) rfl rfl ?_
    obtain ⟨x4, hx5, g15⟩ := zb_of g14
    refine zo_callSi (p' := 9) (as := [.int a0]) (r := []) (zi_47 rfl) rfl (Or.inl zl_9_67) rfl rfl (Nat.le_of_ble_eq_true rfl) (Nat.le_of_ble_eq_true rfl) (k_36 _ hx5) ?_
    refine zo_istore_n (p' := 10) (L' := [(0, zrf (some o)), (1, .int a0), (2, .int x4)]) (zi_47 rfl) rfl zm_47_2 ⟨Or.inr ⟨by decide, rfl, fun q => absurd q (by decide)⟩, ⟨Or.inr ⟨by decide, rfl, fun _ => rfl⟩, ⟨Or.inl ⟨rfl, rfl⟩, trivial⟩⟩⟩ ?_
    refine zo_aload_n (p' := 11) (zi_47 rfl) rfl rfl ?_
    obtain ⟨r6, hx7, g16⟩ := zb_of g15
    refine zo_getR (p' := 14) (zi_47 rfl) rfl zl_9_18 hx7 ?_
    refine zo_iload_n (p' := 15) (zi_47 rfl) rfl rfl ?_
    obtain ⟨q8, h0, g17⟩ := zb_of g16
    subst h0
    obtain ⟨x9, hx10, g18⟩ := zb_of g17
    refine zo_iald (p' := 16) (zi_47 rfl) rfl hx10 ?_
    refine zo_aload_n (p' := 17) (zi_47 rfl) rfl rfl ?_
    refine zo_iload_n (p' := 18) (zi_47 rfl) rfl rfl ?_
    obtain ⟨x11, hx12, g19⟩ := zb_of g18
    refine zo_callVi (p' := 21) (t := 9) (as := [.int x4]) (r := [.int x9]) (zi_47 rfl) rfl zl_9_74 rfl rfl (Or.inl ⟨by decide, rfl⟩) (Nat.le_of_ble_eq_true rfl) (Nat.le_of_ble_eq_true rfl) (f_33_ok hx12) (k_33 _ hx12) ?_
    by_cases hc13 : ¬ x9 = x11
    · rw [if_pos hc13] at g19
      refine zo_icT (p' := 26) (zi_47 rfl) rfl hc13 ?_
      refine zo_iconst (p' := 27) (v := 1) (zi_47 rfl) rfl rfl ?_
      refine zo_istore_n (p' := 28) (L' := [(0, zrf (some o)), (1, .int a0), (2, .int x4), (3, .int 1)]) (zi_47 rfl) rfl zm_47_3 ⟨Or.inr ⟨by decide, rfl, fun q => absurd q (by decide)⟩, ⟨Or.inr ⟨by decide, rfl, fun q => absurd q (by decide)⟩, ⟨Or.inr ⟨by decide, rfl, fun _ => rfl⟩, ⟨Or.inl ⟨rfl, rfl⟩, trivial⟩⟩⟩⟩ ?_
      refine zgo_sub (L' := [(0, zrf (some o)), (2, .int x4), (3, .int 1)]) (⟨rfl, rfl, rfl, trivial⟩) ?_
      exact k_47_28 _ zF M3 o x4 1 _ g19
    · rw [if_neg hc13] at g19
      refine zo_icF (p' := 24) (zi_47 rfl) rfl rfl hc13 ?_
      refine zo_iconst (p' := 25) (v := 0) (zi_47 rfl) rfl rfl ?_
      have g20 := Option.some.inj g19
      subst g20
      exact zo_iret (zi_47 rfl) rfl ⟨rfl, rfl⟩
  · rw [if_neg hok] at h; cases h
/-- SlateHalves.valueOf(LSlateHalves$Block;I)I -/
def f_27 (M : ZMem) (o : Nat) (a0 : Option Nat) (a1 : Int32) : Option (Int32 × ZMem) := if zok M 11 o = true then (zb (zgr M 11 11 o) fun r1 => zb (zgr M 11 0 o) fun r3 => zb r3 fun q5 => zb (zgr M 7 0 q5) fun r6 => zb r6 fun q8 => zb (zgi M 10 3 q8) fun x9 => zb (f_20 M o) fun r11 => zb r1 fun q13 => zb (f_28 M q13 a0 x9 r11) fun M16 => if a1 = 8 then (zb (zgr M16 11 11 o) fun r23 => zb a0 fun q25 => zb (zgi M16 1 3 q25) fun x26 => zb r23 fun q28 => zb (f_33 M16 q28 x26) fun x29 => some (x29, M16)) else (if a1 = 9 then (zb (zgr M16 11 11 o) fun r31 => zb a0 fun q33 => zb (zgi M16 1 3 q33) fun x34 => zb r31 fun q36 => zbd (f_34 M16 q36 x34) fun x37 M39 => some (x37, M39)) else (if a1 = 10 then (zb (zgr M16 11 11 o) fun r40 => zb a0 fun q42 => zb (zgi M16 1 3 q42) fun x43 => zb r40 fun q45 => zbd (f_42 M16 q45 x43) fun x46 M48 => some (x46, M48)) else (if a1 = 11 then (zb (zgr M16 11 11 o) fun r49 => zb a0 fun q51 => zb (zgi M16 1 3 q51) fun x52 => zb r49 fun q54 => zbd (f_45 M16 q54 x52) fun x55 M57 => some (x55, M57)) else (if a1 = 12 then (zb (zgr M16 11 11 o) fun r58 => zb a0 fun q60 => zb (zgi M16 1 3 q60) fun x61 => zb r58 fun q63 => zbd (f_46 M16 q63 x61) fun x64 M66 => some (x64, M66)) else (if a1 = 13 then (zb (zgr M16 11 11 o) fun r67 => zb a0 fun q69 => zb (zgi M16 1 3 q69) fun x70 => zb r67 fun q72 => zbd (f_47 M16 q72 x70) fun x73 M75 => some (x73, M75)) else (some ((-1), M16)))))))) else none
theorem f_27_ok {M : ZMem} {o : Nat} {a0 : Option Nat} {a1 : Int32} {out : Int32 × ZMem} (h : f_27 M o a0 a1 = some out) : zok M 11 o = true := by
  unfold f_27 at h
  by_cases hok : zok M 11 o = true
  · exact hok
  · rw [if_neg hok] at h; cases h
set_option maxRecDepth 20000 in
theorem k_27 (d : Nat) {M : ZMem} {o : Nat} {a0 : Option Nat} {a1 : Int32} {out : Int32 × ZMem} (h : f_27 M o a0 a1 = some out) : zrn (d + 5) 27 [zrf (some o), zrf a0, .int a1] M (some (.int out.1), out.2) := by
  unfold f_27 at h
  by_cases hok : zok M 11 o = true
  · rw [if_pos hok] at h
    refine zrn_of (L := [(0, zrf (some o)), (1, zrf a0), (2, .int a1)]) (by simp [lv_args, zrf_cat, zcat_i, zcat_l, zcat_r]) ?_
    refine zo_aload_n (p' := 1) (zi_27 rfl) rfl rfl ?_
    obtain ⟨r1, hx2, g76⟩ := zb_of h
    refine zo_getR (p' := 4) (zi_27 rfl) rfl zl_1_71 hx2 ?_
    refine zo_aload_n (p' := 5) (zi_27 rfl) rfl rfl ?_
    refine zo_aload_n (p' := 6) (zi_27 rfl) rfl rfl ?_
    obtain ⟨r3, hx4, g77⟩ := zb_of g76
    refine zo_getR (p' := 9) (zi_27 rfl) rfl zl_1_14 hx4 ?_
    obtain ⟨q5, h0, g78⟩ := zb_of g77
    subst h0
    obtain ⟨r6, hx7, g79⟩ := zb_of g78
    refine zo_getR (p' := 12) (zi_27 rfl) rfl zl_1_100 hx7 ?_
    obtain ⟨q8, h0, g80⟩ := zb_of g79
    subst h0
    obtain ⟨x9, hx10, g81⟩ := zb_of g80
    refine zo_getI (p' := 15) (zi_27 rfl) rfl zl_1_139 hx10 ?_
    refine zo_aload_n (p' := 16) (zi_27 rfl) rfl rfl ?_
    obtain ⟨r11, hx12, g82⟩ := zb_of g81
    refine zo_callVa (p' := 19) (t := 11) (as := []) (r := [.int x9, zrf a0, zrf r1]) (zi_27 rfl) rfl zl_1_135 rfl rfl (Or.inl ⟨by decide, rfl⟩) (by simp [zrf_cat, zcat_i, zcat_l, zcat_r]) (Nat.le_of_ble_eq_true rfl) (f_20_ok hx12) (k_20 _ hx12) ?_
    obtain ⟨q13, h0, g83⟩ := zb_of g82
    subst h0
    obtain ⟨M16, hx15, g84⟩ := zb_of g83
    refine zo_callVv (p' := 22) (t := 9) (as := [zrf a0, .int x9, zrf r11]) (r := []) (zi_27 rfl) rfl zl_1_159 rfl rfl (Or.inl ⟨by decide, rfl⟩) (Nat.le_of_ble_eq_true rfl) (by rw [zml_28]; simp [lg_sl, zrf_cat, zcat_i, zcat_l, zcat_r]; done) (f_28_ok hx15) (k_28 _ hx15) ?_
    refine zo_iload_n (p' := 23) (zi_27 rfl) rfl rfl ?_
    by_cases hc17 : a1 = 8
    · rw [if_pos hc17] at g84
      refine zo_table (p' := 60) (n := 37) (zi_27 rfl) (by decide) (zsel_hit hc17 (by decide)) rfl ?_
      refine zo_aload_n (p' := 61) (zi_27 rfl) rfl rfl ?_
      obtain ⟨r23, hx24, g85⟩ := zb_of g84
      refine zo_getR (p' := 64) (zi_27 rfl) rfl zl_1_71 hx24 ?_
      refine zo_aload_n (p' := 65) (zi_27 rfl) rfl rfl ?_
      obtain ⟨q25, h0, g86⟩ := zb_of g85
      subst h0
      obtain ⟨x26, hx27, g87⟩ := zb_of g86
      refine zo_getI (p' := 68) (zi_27 rfl) rfl zl_1_126 hx27 ?_
      obtain ⟨q28, h0, g88⟩ := zb_of g87
      subst h0
      obtain ⟨x29, hx30, g89⟩ := zb_of g88
      refine zo_callVi (p' := 71) (t := 9) (as := [.int x26]) (r := []) (zi_27 rfl) rfl zl_1_163 rfl rfl (Or.inl ⟨by decide, rfl⟩) (Nat.le_of_ble_eq_true rfl) (Nat.le_of_ble_eq_true rfl) (f_33_ok hx30) (k_33 _ hx30) ?_
      have g90 := Option.some.inj g89
      subst g90
      exact zo_iret (zi_27 rfl) rfl ⟨rfl, rfl⟩
    · rw [if_neg hc17] at g84
      by_cases hc18 : a1 = 9
      · rw [if_pos hc18] at g84
        refine zo_table (p' := 72) (n := 49) (zi_27 rfl) (by decide) (zsel_skip hc17 (by decide) (zsel_hit hc18 (by decide))) rfl ?_
        refine zo_aload_n (p' := 73) (zi_27 rfl) rfl rfl ?_
        obtain ⟨r31, hx32, g91⟩ := zb_of g84
        refine zo_getR (p' := 76) (zi_27 rfl) rfl zl_1_71 hx32 ?_
        refine zo_aload_n (p' := 77) (zi_27 rfl) rfl rfl ?_
        obtain ⟨q33, h0, g92⟩ := zb_of g91
        subst h0
        obtain ⟨x34, hx35, g93⟩ := zb_of g92
        refine zo_getI (p' := 80) (zi_27 rfl) rfl zl_1_126 hx35 ?_
        obtain ⟨q36, h0, g94⟩ := zb_of g93
        subst h0
        obtain ⟨x37, M39, hx38, g95⟩ := zbd_of g94
        refine zo_callVi (p' := 83) (t := 9) (as := [.int x34]) (r := []) (zi_27 rfl) rfl zl_1_167 rfl rfl (Or.inl ⟨by decide, rfl⟩) (Nat.le_of_ble_eq_true rfl) (Nat.le_of_ble_eq_true rfl) (f_34_ok hx38) (k_34 _ hx38) ?_
        have g96 := Option.some.inj g95
        subst g96
        exact zo_iret (zi_27 rfl) rfl ⟨rfl, rfl⟩
      · rw [if_neg hc18] at g84
        by_cases hc19 : a1 = 10
        · rw [if_pos hc19] at g84
          refine zo_table (p' := 84) (n := 61) (zi_27 rfl) (by decide) (zsel_skip hc17 (by decide) (zsel_skip hc18 (by decide) (zsel_hit hc19 (by decide)))) rfl ?_
          refine zo_aload_n (p' := 85) (zi_27 rfl) rfl rfl ?_
          obtain ⟨r40, hx41, g97⟩ := zb_of g84
          refine zo_getR (p' := 88) (zi_27 rfl) rfl zl_1_71 hx41 ?_
          refine zo_aload_n (p' := 89) (zi_27 rfl) rfl rfl ?_
          obtain ⟨q42, h0, g98⟩ := zb_of g97
          subst h0
          obtain ⟨x43, hx44, g99⟩ := zb_of g98
          refine zo_getI (p' := 92) (zi_27 rfl) rfl zl_1_126 hx44 ?_
          obtain ⟨q45, h0, g100⟩ := zb_of g99
          subst h0
          obtain ⟨x46, M48, hx47, g101⟩ := zbd_of g100
          refine zo_callVi (p' := 95) (t := 9) (as := [.int x43]) (r := []) (zi_27 rfl) rfl zl_1_170 rfl rfl (Or.inl ⟨by decide, rfl⟩) (Nat.le_of_ble_eq_true rfl) (Nat.le_of_ble_eq_true rfl) (f_42_ok hx47) (k_42 _ hx47) ?_
          have g102 := Option.some.inj g101
          subst g102
          exact zo_iret (zi_27 rfl) rfl ⟨rfl, rfl⟩
        · rw [if_neg hc19] at g84
          by_cases hc20 : a1 = 11
          · rw [if_pos hc20] at g84
            refine zo_table (p' := 96) (n := 73) (zi_27 rfl) (by decide) (zsel_skip hc17 (by decide) (zsel_skip hc18 (by decide) (zsel_skip hc19 (by decide) (zsel_hit hc20 (by decide))))) rfl ?_
            refine zo_aload_n (p' := 97) (zi_27 rfl) rfl rfl ?_
            obtain ⟨r49, hx50, g103⟩ := zb_of g84
            refine zo_getR (p' := 100) (zi_27 rfl) rfl zl_1_71 hx50 ?_
            refine zo_aload_n (p' := 101) (zi_27 rfl) rfl rfl ?_
            obtain ⟨q51, h0, g104⟩ := zb_of g103
            subst h0
            obtain ⟨x52, hx53, g105⟩ := zb_of g104
            refine zo_getI (p' := 104) (zi_27 rfl) rfl zl_1_126 hx53 ?_
            obtain ⟨q54, h0, g106⟩ := zb_of g105
            subst h0
            obtain ⟨x55, M57, hx56, g107⟩ := zbd_of g106
            refine zo_callVi (p' := 107) (t := 9) (as := [.int x52]) (r := []) (zi_27 rfl) rfl zl_1_173 rfl rfl (Or.inl ⟨by decide, rfl⟩) (Nat.le_of_ble_eq_true rfl) (Nat.le_of_ble_eq_true rfl) (f_45_ok hx56) (k_45 _ hx56) ?_
            have g108 := Option.some.inj g107
            subst g108
            exact zo_iret (zi_27 rfl) rfl ⟨rfl, rfl⟩
          · rw [if_neg hc20] at g84
            by_cases hc21 : a1 = 12
            · rw [if_pos hc21] at g84
              refine zo_table (p' := 108) (n := 85) (zi_27 rfl) (by decide) (zsel_skip hc17 (by decide) (zsel_skip hc18 (by decide) (zsel_skip hc19 (by decide) (zsel_skip hc20 (by decide) (zsel_hit hc21 (by decide)))))) rfl ?_
              refine zo_aload_n (p' := 109) (zi_27 rfl) rfl rfl ?_
              obtain ⟨r58, hx59, g109⟩ := zb_of g84
              refine zo_getR (p' := 112) (zi_27 rfl) rfl zl_1_71 hx59 ?_
              refine zo_aload_n (p' := 113) (zi_27 rfl) rfl rfl ?_
              obtain ⟨q60, h0, g110⟩ := zb_of g109
              subst h0
              obtain ⟨x61, hx62, g111⟩ := zb_of g110
              refine zo_getI (p' := 116) (zi_27 rfl) rfl zl_1_126 hx62 ?_
              obtain ⟨q63, h0, g112⟩ := zb_of g111
              subst h0
              obtain ⟨x64, M66, hx65, g113⟩ := zbd_of g112
              refine zo_callVi (p' := 119) (t := 9) (as := [.int x61]) (r := []) (zi_27 rfl) rfl zl_1_176 rfl rfl (Or.inl ⟨by decide, rfl⟩) (Nat.le_of_ble_eq_true rfl) (Nat.le_of_ble_eq_true rfl) (f_46_ok hx65) (k_46 _ hx65) ?_
              have g114 := Option.some.inj g113
              subst g114
              exact zo_iret (zi_27 rfl) rfl ⟨rfl, rfl⟩
            · rw [if_neg hc21] at g84
              by_cases hc22 : a1 = 13
              · rw [if_pos hc22] at g84
                refine zo_table (p' := 120) (n := 97) (zi_27 rfl) (by decide) (zsel_skip hc17 (by decide) (zsel_skip hc18 (by decide) (zsel_skip hc19 (by decide) (zsel_skip hc20 (by decide) (zsel_skip hc21 (by decide) (zsel_hit hc22 (by decide))))))) rfl ?_
                refine zo_aload_n (p' := 121) (zi_27 rfl) rfl rfl ?_
                obtain ⟨r67, hx68, g115⟩ := zb_of g84
                refine zo_getR (p' := 124) (zi_27 rfl) rfl zl_1_71 hx68 ?_
                refine zo_aload_n (p' := 125) (zi_27 rfl) rfl rfl ?_
                obtain ⟨q69, h0, g116⟩ := zb_of g115
                subst h0
                obtain ⟨x70, hx71, g117⟩ := zb_of g116
                refine zo_getI (p' := 128) (zi_27 rfl) rfl zl_1_126 hx71 ?_
                obtain ⟨q72, h0, g118⟩ := zb_of g117
                subst h0
                obtain ⟨x73, M75, hx74, g119⟩ := zbd_of g118
                refine zo_callVi (p' := 131) (t := 9) (as := [.int x70]) (r := []) (zi_27 rfl) rfl zl_1_179 rfl rfl (Or.inl ⟨by decide, rfl⟩) (Nat.le_of_ble_eq_true rfl) (Nat.le_of_ble_eq_true rfl) (f_47_ok hx74) (k_47 _ hx74) ?_
                have g120 := Option.some.inj g119
                subst g120
                exact zo_iret (zi_27 rfl) rfl ⟨rfl, rfl⟩
              · rw [if_neg hc22] at g84
                refine zo_table (p' := 132) (n := 109) (zi_27 rfl) (by decide) (zsel_skip hc17 (by decide) (zsel_skip hc18 (by decide) (zsel_skip hc19 (by decide) (zsel_skip hc20 (by decide) (zsel_skip hc21 (by decide) (zsel_skip hc22 (by decide) (rfl))))))) rfl ?_
                refine zo_iconst (p' := 133) (v := (-1)) (zi_27 rfl) rfl rfl ?_
                have g121 := Option.some.inj g84
                subst g121
                exact zo_iret (zi_27 rfl) rfl ⟨rfl, rfl⟩
  · rw [if_neg hok] at h; cases h
/-- SlateHalves.of(II)I -/
def f_18 (M : ZMem) (o : Nat) (a0 : Int32) (a1 : Int32) : Option (Int32 × ZMem) := if zok M 11 o = true then (zb (zgr M 11 0 o) fun r1 => zb r1 fun q3 => zb (zgr M 7 0 q3) fun r4 => zb r4 fun q6 => zb (f_19 M q6 a0) fun r7 => zcs r7 (some ((-1), M)) (fun q9 => if a1 = 0 then (zb (zgi M 1 1 q9) fun x19 => some (x19, M)) else (if a1 = 1 then (zb (zgi M 1 2 q9) fun x21 => some (x21, M)) else (if a1 = 2 then (zb (zgi M 1 3 q9) fun x23 => some (x23, M)) else (if a1 = 3 then (zb (zgi M 1 4 q9) fun x25 => some (x25, M)) else (if a1 = 4 then (zb (zgi M 1 5 q9) fun x27 => some (x27, M)) else (if a1 = 5 then (zb (f_20 M o) fun r29 => zb (zgr M 11 0 o) fun r31 => zb r31 fun q33 => zb (zgr M 7 0 q33) fun r34 => zb r34 fun q36 => zb (zgi M 10 3 q36) fun x37 => zb r29 fun q39 => zb (f_21 M q39 (some q9) x37) fun x40 => some (x40, M)) else (if a1 = 6 then (zb (zgi M 1 1 q9) fun x42 => zb (zgi M 1 2 q9) fun x44 => zb (zgi M 1 4 q9) fun x46 => zb (f_25 M x42 x44 x46) fun x48 => some (x48, M)) else (if a1 = 7 then (zb (f_20 M o) fun r50 => zb r50 fun q52 => zb (zgi M 3 4 q52) fun x53 => zb (f_26 M (some q9) x53) fun x55 => some (x55, M)) else (zbd (f_27 M o (some q9) a1) fun x57 M59 => some (x57, M59))))))))))) else none
theorem f_18_ok {M : ZMem} {o : Nat} {a0 : Int32} {a1 : Int32} {out : Int32 × ZMem} (h : f_18 M o a0 a1 = some out) : zok M 11 o = true := by
  unfold f_18 at h
  by_cases hok : zok M 11 o = true
  · exact hok
  · rw [if_neg hok] at h; cases h
set_option maxRecDepth 20000 in
theorem k_18 (d : Nat) {M : ZMem} {o : Nat} {a0 : Int32} {a1 : Int32} {out : Int32 × ZMem} (h : f_18 M o a0 a1 = some out) : zrn (d + 6) 18 [zrf (some o), .int a0, .int a1] M (some (.int out.1), out.2) := by
  unfold f_18 at h
  by_cases hok : zok M 11 o = true
  · rw [if_pos hok] at h
    refine zrn_of (L := [(0, zrf (some o)), (1, .int a0), (2, .int a1)]) rfl ?_
    refine zo_aload_n (p' := 1) (zi_18 rfl) rfl rfl ?_
    obtain ⟨r1, hx2, g60⟩ := zb_of h
    refine zo_getR (p' := 4) (zi_18 rfl) rfl zl_1_14 hx2 ?_
    obtain ⟨q3, h0, g61⟩ := zb_of g60
    subst h0
    obtain ⟨r4, hx5, g62⟩ := zb_of g61
    refine zo_getR (p' := 7) (zi_18 rfl) rfl zl_1_100 hx5 ?_
    refine zo_iload_n (p' := 8) (zi_18 rfl) rfl rfl ?_
    obtain ⟨q6, h0, g63⟩ := zb_of g62
    subst h0
    obtain ⟨r7, hx8, g64⟩ := zb_of g63
    refine zo_callVa (p' := 11) (t := 10) (as := [.int a0]) (r := []) (zi_18 rfl) rfl zl_1_116 rfl rfl (Or.inl ⟨by decide, rfl⟩) (Nat.le_of_ble_eq_true rfl) (Nat.le_of_ble_eq_true rfl) (f_19_ok hx8) (k_19 _ hx8) ?_
    refine zo_astore_n (p' := 12) (L' := [(0, zrf (some o)), (1, .int a0), (2, .int a1), (3, zrf r7)]) (zi_18 rfl) rfl zm_18_3 ⟨Or.inr ⟨by decide, rfl, fun q => absurd q (by decide)⟩, ⟨Or.inr ⟨by decide, rfl, fun q => absurd q (by decide)⟩, ⟨Or.inr ⟨by decide, rfl, fun _ => rfl⟩, ⟨Or.inl ⟨rfl, rfl⟩, trivial⟩⟩⟩⟩ ?_
    refine zo_aload_n (p' := 13) (zi_18 rfl) rfl rfl ?_
    rcases r7 with _ | q9
    · have g65 := zcs_none g64
      refine zo_nonnullF (p' := 16) (zi_18 rfl) rfl ?_
      refine zo_iconst (p' := 17) (v := (-1)) (zi_18 rfl) rfl rfl ?_
      have g66 := Option.some.inj g65
      subst g66
      exact zo_iret (zi_18 rfl) rfl ⟨rfl, rfl⟩
    · obtain ⟨hq10, g67⟩ := zcs_some g64
      refine zo_nonnullT (p' := 18) (zi_18 rfl) rfl hq10 ?_
      refine zo_iload_n (p' := 19) (zi_18 rfl) rfl rfl ?_
      by_cases hc11 : a1 = 0
      · rw [if_pos hc11] at g67
        refine zo_table (p' := 64) (n := 45) (zi_18 rfl) (by decide) (zsel_hit hc11 (by decide)) rfl ?_
        refine zo_aload_n (p' := 65) (zi_18 rfl) rfl rfl ?_
        obtain ⟨x19, hx20, g68⟩ := zb_of g67
        refine zo_getI (p' := 68) (zi_18 rfl) rfl zl_1_120 hx20 ?_
        have g69 := Option.some.inj g68
        subst g69
        exact zo_iret (zi_18 rfl) rfl ⟨rfl, rfl⟩
      · rw [if_neg hc11] at g67
        by_cases hc12 : a1 = 1
        · rw [if_pos hc12] at g67
          refine zo_table (p' := 69) (n := 50) (zi_18 rfl) (by decide) (zsel_skip hc11 (by decide) (zsel_hit hc12 (by decide))) rfl ?_
          refine zo_aload_n (p' := 70) (zi_18 rfl) rfl rfl ?_
          obtain ⟨x21, hx22, g70⟩ := zb_of g67
          refine zo_getI (p' := 73) (zi_18 rfl) rfl zl_1_123 hx22 ?_
          have g71 := Option.some.inj g70
          subst g71
          exact zo_iret (zi_18 rfl) rfl ⟨rfl, rfl⟩
        · rw [if_neg hc12] at g67
          by_cases hc13 : a1 = 2
          · rw [if_pos hc13] at g67
            refine zo_table (p' := 74) (n := 55) (zi_18 rfl) (by decide) (zsel_skip hc11 (by decide) (zsel_skip hc12 (by decide) (zsel_hit hc13 (by decide)))) rfl ?_
            refine zo_aload_n (p' := 75) (zi_18 rfl) rfl rfl ?_
            obtain ⟨x23, hx24, g72⟩ := zb_of g67
            refine zo_getI (p' := 78) (zi_18 rfl) rfl zl_1_126 hx24 ?_
            have g73 := Option.some.inj g72
            subst g73
            exact zo_iret (zi_18 rfl) rfl ⟨rfl, rfl⟩
          · rw [if_neg hc13] at g67
            by_cases hc14 : a1 = 3
            · rw [if_pos hc14] at g67
              refine zo_table (p' := 79) (n := 60) (zi_18 rfl) (by decide) (zsel_skip hc11 (by decide) (zsel_skip hc12 (by decide) (zsel_skip hc13 (by decide) (zsel_hit hc14 (by decide))))) rfl ?_
              refine zo_aload_n (p' := 80) (zi_18 rfl) rfl rfl ?_
              obtain ⟨x25, hx26, g74⟩ := zb_of g67
              refine zo_getI (p' := 83) (zi_18 rfl) rfl zl_1_129 hx26 ?_
              have g75 := Option.some.inj g74
              subst g75
              exact zo_iret (zi_18 rfl) rfl ⟨rfl, rfl⟩
            · rw [if_neg hc14] at g67
              by_cases hc15 : a1 = 4
              · rw [if_pos hc15] at g67
                refine zo_table (p' := 84) (n := 65) (zi_18 rfl) (by decide) (zsel_skip hc11 (by decide) (zsel_skip hc12 (by decide) (zsel_skip hc13 (by decide) (zsel_skip hc14 (by decide) (zsel_hit hc15 (by decide)))))) rfl ?_
                refine zo_aload_n (p' := 85) (zi_18 rfl) rfl rfl ?_
                obtain ⟨x27, hx28, g76⟩ := zb_of g67
                refine zo_getI (p' := 88) (zi_18 rfl) rfl zl_1_132 hx28 ?_
                have g77 := Option.some.inj g76
                subst g77
                exact zo_iret (zi_18 rfl) rfl ⟨rfl, rfl⟩
              · rw [if_neg hc15] at g67
                by_cases hc16 : a1 = 5
                · rw [if_pos hc16] at g67
                  refine zo_table (p' := 89) (n := 70) (zi_18 rfl) (by decide) (zsel_skip hc11 (by decide) (zsel_skip hc12 (by decide) (zsel_skip hc13 (by decide) (zsel_skip hc14 (by decide) (zsel_skip hc15 (by decide) (zsel_hit hc16 (by decide))))))) rfl ?_
                  refine zo_aload_n (p' := 90) (zi_18 rfl) rfl rfl ?_
                  obtain ⟨r29, hx30, g78⟩ := zb_of g67
                  refine zo_callVa (p' := 93) (t := 11) (as := []) (r := []) (zi_18 rfl) rfl zl_1_135 rfl rfl (Or.inl ⟨by decide, rfl⟩) (Nat.le_of_ble_eq_true rfl) (Nat.le_of_ble_eq_true rfl) (f_20_ok hx30) (k_20 _ hx30) ?_
                  refine zo_aload_n (p' := 94) (zi_18 rfl) rfl rfl ?_
                  refine zo_aload_n (p' := 95) (zi_18 rfl) rfl rfl ?_
                  obtain ⟨r31, hx32, g79⟩ := zb_of g78
                  refine zo_getR (p' := 98) (zi_18 rfl) rfl zl_1_14 hx32 ?_
                  obtain ⟨q33, h0, g80⟩ := zb_of g79
                  subst h0
                  obtain ⟨r34, hx35, g81⟩ := zb_of g80
                  refine zo_getR (p' := 101) (zi_18 rfl) rfl zl_1_100 hx35 ?_
                  obtain ⟨q36, h0, g82⟩ := zb_of g81
                  subst h0
                  obtain ⟨x37, hx38, g83⟩ := zb_of g82
                  refine zo_getI (p' := 104) (zi_18 rfl) rfl zl_1_139 hx38 ?_
                  obtain ⟨q39, h0, g84⟩ := zb_of g83
                  subst h0
                  obtain ⟨x40, hx41, g85⟩ := zb_of g84
                  refine zo_callVi (p' := 107) (t := 3) (as := [zrf (some q9), .int x37]) (r := []) (zi_18 rfl) rfl zl_1_142 rfl rfl (Or.inl ⟨by decide, rfl⟩) (Nat.le_of_ble_eq_true rfl) (Nat.le_of_ble_eq_true rfl) (f_21_ok hx41) (k_21 _ hx41) ?_
                  have g86 := Option.some.inj g85
                  subst g86
                  exact zo_iret (zi_18 rfl) rfl ⟨rfl, rfl⟩
                · rw [if_neg hc16] at g67
                  by_cases hc17 : a1 = 6
                  · rw [if_pos hc17] at g67
                    refine zo_table (p' := 108) (n := 89) (zi_18 rfl) (by decide) (zsel_skip hc11 (by decide) (zsel_skip hc12 (by decide) (zsel_skip hc13 (by decide) (zsel_skip hc14 (by decide) (zsel_skip hc15 (by decide) (zsel_skip hc16 (by decide) (zsel_hit hc17 (by decide)))))))) rfl ?_
                    refine zo_aload_n (p' := 109) (zi_18 rfl) rfl rfl ?_
                    obtain ⟨x42, hx43, g87⟩ := zb_of g67
                    refine zo_getI (p' := 112) (zi_18 rfl) rfl zl_1_120 hx43 ?_
                    refine zo_aload_n (p' := 113) (zi_18 rfl) rfl rfl ?_
                    obtain ⟨x44, hx45, g88⟩ := zb_of g87
                    refine zo_getI (p' := 116) (zi_18 rfl) rfl zl_1_123 hx45 ?_
                    refine zo_aload_n (p' := 117) (zi_18 rfl) rfl rfl ?_
                    obtain ⟨x46, hx47, g89⟩ := zb_of g88
                    refine zo_getI (p' := 120) (zi_18 rfl) rfl zl_1_129 hx47 ?_
                    obtain ⟨x48, hx49, g90⟩ := zb_of g89
                    refine zo_callSi (p' := 123) (as := [.int x42, .int x44, .int x46]) (r := []) (zi_18 rfl) rfl (Or.inl zl_1_146) rfl rfl (Nat.le_of_ble_eq_true rfl) (Nat.le_of_ble_eq_true rfl) (k_25 _ hx49) ?_
                    have g91 := Option.some.inj g90
                    subst g91
                    exact zo_iret (zi_18 rfl) rfl ⟨rfl, rfl⟩
                  · rw [if_neg hc17] at g67
                    by_cases hc18 : a1 = 7
                    · rw [if_pos hc18] at g67
                      refine zo_table (p' := 124) (n := 105) (zi_18 rfl) (by decide) (zsel_skip hc11 (by decide) (zsel_skip hc12 (by decide) (zsel_skip hc13 (by decide) (zsel_skip hc14 (by decide) (zsel_skip hc15 (by decide) (zsel_skip hc16 (by decide) (zsel_skip hc17 (by decide) (zsel_hit hc18 (by decide))))))))) rfl ?_
                      refine zo_aload_n (p' := 125) (zi_18 rfl) rfl rfl ?_
                      refine zo_aload_n (p' := 126) (zi_18 rfl) rfl rfl ?_
                      obtain ⟨r50, hx51, g92⟩ := zb_of g67
                      refine zo_callVa (p' := 129) (t := 11) (as := []) (r := [zrf (some q9)]) (zi_18 rfl) rfl zl_1_135 rfl rfl (Or.inl ⟨by decide, rfl⟩) (Nat.le_of_ble_eq_true rfl) (Nat.le_of_ble_eq_true rfl) (f_20_ok hx51) (k_20 _ hx51) ?_
                      obtain ⟨q52, h0, g93⟩ := zb_of g92
                      subst h0
                      obtain ⟨x53, hx54, g94⟩ := zb_of g93
                      refine zo_getI (p' := 132) (zi_18 rfl) rfl zl_1_150 hx54 ?_
                      obtain ⟨x55, hx56, g95⟩ := zb_of g94
                      refine zo_callSi (p' := 135) (as := [zrf (some q9), .int x53]) (r := []) (zi_18 rfl) rfl (Or.inl zl_1_153) rfl rfl (Nat.le_of_ble_eq_true rfl) (Nat.le_of_ble_eq_true rfl) (k_26 _ hx56) ?_
                      have g96 := Option.some.inj g95
                      subst g96
                      exact zo_iret (zi_18 rfl) rfl ⟨rfl, rfl⟩
                    · rw [if_neg hc18] at g67
                      refine zo_table (p' := 136) (n := 117) (zi_18 rfl) (by decide) (zsel_skip hc11 (by decide) (zsel_skip hc12 (by decide) (zsel_skip hc13 (by decide) (zsel_skip hc14 (by decide) (zsel_skip hc15 (by decide) (zsel_skip hc16 (by decide) (zsel_skip hc17 (by decide) (zsel_skip hc18 (by decide) (rfl))))))))) rfl ?_
                      refine zo_aload_n (p' := 137) (zi_18 rfl) rfl rfl ?_
                      refine zo_aload_n (p' := 138) (zi_18 rfl) rfl rfl ?_
                      refine zo_iload_n (p' := 139) (zi_18 rfl) rfl rfl ?_
                      obtain ⟨x57, M59, hx58, g97⟩ := zbd_of g67
                      refine zo_callVi (p' := 142) (t := 11) (as := [zrf (some q9), .int a1]) (r := []) (zi_18 rfl) rfl zl_1_156 rfl rfl (Or.inl ⟨by decide, rfl⟩) (Nat.le_of_ble_eq_true rfl) (Nat.le_of_ble_eq_true rfl) (f_27_ok hx58) (k_27 _ hx58) ?_
                      have g98 := Option.some.inj g97
                      subst g98
                      exact zo_iret (zi_18 rfl) rfl ⟨rfl, rfl⟩
  · rw [if_neg hok] at h; cases h
/-- SlateHalves.dry(II)I -/
def f_48 (M : ZMem) (o : Nat) (a0 : Int32) (a1 : Int32) : Option (Int32 × ZMem) := if zok M 11 o = true then (zb (zgr M 11 0 o) fun r1 => zb r1 fun q3 => zb (zgr M 7 0 q3) fun r4 => zb r4 fun q6 => zb (f_19 M q6 a0) fun r7 => zcs r7 (some ((-1), M)) (fun q9 => zb (f_14 M a1 0 99) fun x11 => if ¬ x11 = 0 then (zb (zgi M 1 4 q9) fun x14 => zb (zpf M 1 4 q9 (.int a1) false) fun M16 => some (x14, M16)) else (some ((-2), M)))) else none
theorem f_48_ok {M : ZMem} {o : Nat} {a0 : Int32} {a1 : Int32} {out : Int32 × ZMem} (h : f_48 M o a0 a1 = some out) : zok M 11 o = true := by
  unfold f_48 at h
  by_cases hok : zok M 11 o = true
  · exact hok
  · rw [if_neg hok] at h; cases h
set_option maxRecDepth 20000 in
theorem k_48 (d : Nat) {M : ZMem} {o : Nat} {a0 : Int32} {a1 : Int32} {out : Int32 × ZMem} (h : f_48 M o a0 a1 = some out) : zrn (d + 2) 48 [zrf (some o), .int a0, .int a1] M (some (.int out.1), out.2) := by
  unfold f_48 at h
  by_cases hok : zok M 11 o = true
  · rw [if_pos hok] at h
    refine zrn_of (L := [(0, zrf (some o)), (1, .int a0), (2, .int a1)]) rfl ?_
    refine zo_aload_n (p' := 1) (zi_48 rfl) rfl rfl ?_
    obtain ⟨r1, hx2, g18⟩ := zb_of h
    refine zo_getR (p' := 4) (zi_48 rfl) rfl zl_1_14 hx2 ?_
    obtain ⟨q3, h0, g19⟩ := zb_of g18
    subst h0
    obtain ⟨r4, hx5, g20⟩ := zb_of g19
    refine zo_getR (p' := 7) (zi_48 rfl) rfl zl_1_100 hx5 ?_
    refine zo_iload_n (p' := 8) (zi_48 rfl) rfl rfl ?_
    obtain ⟨q6, h0, g21⟩ := zb_of g20
    subst h0
    obtain ⟨r7, hx8, g22⟩ := zb_of g21
    refine zo_callVa (p' := 11) (t := 10) (as := [.int a0]) (r := []) (zi_48 rfl) rfl zl_1_116 rfl rfl (Or.inl ⟨by decide, rfl⟩) (Nat.le_of_ble_eq_true rfl) (Nat.le_of_ble_eq_true rfl) (f_19_ok hx8) (k_19 _ hx8) ?_
    refine zo_astore_n (p' := 12) (L' := [(0, zrf (some o)), (1, .int a0), (2, .int a1), (3, zrf r7)]) (zi_48 rfl) rfl zm_48_3 ⟨Or.inr ⟨by decide, rfl, fun q => absurd q (by decide)⟩, ⟨Or.inr ⟨by decide, rfl, fun q => absurd q (by decide)⟩, ⟨Or.inr ⟨by decide, rfl, fun _ => rfl⟩, ⟨Or.inl ⟨rfl, rfl⟩, trivial⟩⟩⟩⟩ ?_
    refine zo_aload_n (p' := 13) (zi_48 rfl) rfl rfl ?_
    rcases r7 with _ | q9
    · have g23 := zcs_none g22
      refine zo_nonnullF (p' := 16) (zi_48 rfl) rfl ?_
      refine zo_iconst (p' := 17) (v := (-1)) (zi_48 rfl) rfl rfl ?_
      have g24 := Option.some.inj g23
      subst g24
      exact zo_iret (zi_48 rfl) rfl ⟨rfl, rfl⟩
    · obtain ⟨hq10, g25⟩ := zcs_some g22
      refine zo_nonnullT (p' := 18) (zi_48 rfl) rfl hq10 ?_
      refine zo_iload_n (p' := 19) (zi_48 rfl) rfl rfl ?_
      refine zo_iconst (p' := 20) (v := 0) (zi_48 rfl) rfl rfl ?_
      refine zo_bipush (p' := 22) (v := 99) (zi_48 rfl) rfl rfl ?_
      obtain ⟨x11, hx12, g26⟩ := zb_of g25
      refine zo_callSi (p' := 25) (as := [.int a1, .int 0, .int 99]) (r := []) (zi_48 rfl) rfl (Or.inl zl_1_96) rfl rfl (Nat.le_of_ble_eq_true rfl) (Nat.le_of_ble_eq_true rfl) (k_14 _ hx12) ?_
      by_cases hc13 : ¬ x11 = 0
      · rw [if_pos hc13] at g26
        refine zo_ifT (p' := 31) (zi_48 rfl) rfl hc13 ?_
        refine zo_aload_n (p' := 32) (zi_48 rfl) rfl rfl ?_
        obtain ⟨x14, hx15, g27⟩ := zb_of g26
        refine zo_getI (p' := 35) (zi_48 rfl) rfl zl_1_129 hx15 ?_
        refine zo_istore (p' := 37) (L' := [(0, zrf (some o)), (1, .int a0), (2, .int a1), (3, zrf (some q9)), (4, .int x14)]) (zi_48 rfl) rfl zm_48_4 ⟨Or.inr ⟨by decide, rfl, fun q => absurd q (by decide)⟩, ⟨Or.inr ⟨by decide, rfl, fun q => absurd q (by decide)⟩, ⟨Or.inr ⟨by decide, rfl, fun q => absurd q (by decide)⟩, ⟨Or.inr ⟨by decide, rfl, fun _ => zrf_cat _⟩, ⟨Or.inl ⟨rfl, rfl⟩, trivial⟩⟩⟩⟩⟩ ?_
        refine zo_aload_n (p' := 38) (zi_48 rfl) rfl rfl ?_
        refine zo_iload_n (p' := 39) (zi_48 rfl) rfl rfl ?_
        obtain ⟨M16, hx17, g28⟩ := zb_of g27
        refine zo_putI (p' := 42) (zi_48 rfl) rfl zl_1_129 (zpb_48 _) hx17 ?_
        refine zo_iload (p' := 44) (zi_48 rfl) rfl rfl ?_
        have g29 := Option.some.inj g28
        subst g29
        exact zo_iret (zi_48 rfl) rfl ⟨rfl, rfl⟩
      · rw [if_neg hc13] at g26
        refine zo_ifF (p' := 28) (zi_48 rfl) rfl rfl hc13 ?_
        refine zo_bipush (p' := 30) (v := (-2)) (zi_48 rfl) rfl rfl ?_
        have g30 := Option.some.inj g26
        subst g30
        exact zo_iret (zi_48 rfl) rfl ⟨rfl, rfl⟩
  · rw [if_neg hok] at h; cases h
/-- SlateHalves.row(III)I -/
def f_49 (M : ZMem) (o : Nat) (a0 : Int32) (a1 : Int32) (a2 : Int32) : Option (Int32 × ZMem) := if zok M 11 o = true then (zb (zgr M 11 0 o) fun r1 => zb r1 fun q3 => zb (zgr M 7 0 q3) fun r4 => zb r4 fun q6 => zb (f_19 M q6 a0) fun r7 => zcs r7 (some ((-1), M)) (fun q9 => zb (f_14 M a1 0 3) fun x11 => if ¬ x11 = 0 then (zb (f_14 M a2 0 9) fun x14 => if ¬ x14 = 0 then (zb (zgi M 1 1 q9) fun x17 => if x17 = 6 then (zb (zgr M 1 6 q9) fun r20 => zb r20 fun q22 => zb (zai M q22 a1) fun x23 => zb (zgr M 1 6 q9) fun r25 => zb r25 fun q27 => zb (zsa M 20 q27 a1 a2) fun M28 => some (x23, M28)) else (some ((-3), M))) else (some ((-2), M))) else (some ((-1), M)))) else none
theorem f_49_ok {M : ZMem} {o : Nat} {a0 : Int32} {a1 : Int32} {a2 : Int32} {out : Int32 × ZMem} (h : f_49 M o a0 a1 a2 = some out) : zok M 11 o = true := by
  unfold f_49 at h
  by_cases hok : zok M 11 o = true
  · exact hok
  · rw [if_neg hok] at h; cases h
set_option maxRecDepth 20000 in
theorem k_49 (d : Nat) {M : ZMem} {o : Nat} {a0 : Int32} {a1 : Int32} {a2 : Int32} {out : Int32 × ZMem} (h : f_49 M o a0 a1 a2 = some out) : zrn (d + 2) 49 [zrf (some o), .int a0, .int a1, .int a2] M (some (.int out.1), out.2) := by
  unfold f_49 at h
  by_cases hok : zok M 11 o = true
  · rw [if_pos hok] at h
    refine zrn_of (L := [(0, zrf (some o)), (1, .int a0), (2, .int a1), (3, .int a2)]) rfl ?_
    refine zo_aload_n (p' := 1) (zi_49 rfl) rfl rfl ?_
    obtain ⟨r1, hx2, g30⟩ := zb_of h
    refine zo_getR (p' := 4) (zi_49 rfl) rfl zl_1_14 hx2 ?_
    obtain ⟨q3, h0, g31⟩ := zb_of g30
    subst h0
    obtain ⟨r4, hx5, g32⟩ := zb_of g31
    refine zo_getR (p' := 7) (zi_49 rfl) rfl zl_1_100 hx5 ?_
    refine zo_iload_n (p' := 8) (zi_49 rfl) rfl rfl ?_
    obtain ⟨q6, h0, g33⟩ := zb_of g32
    subst h0
    obtain ⟨r7, hx8, g34⟩ := zb_of g33
    refine zo_callVa (p' := 11) (t := 10) (as := [.int a0]) (r := []) (zi_49 rfl) rfl zl_1_116 rfl rfl (Or.inl ⟨by decide, rfl⟩) (Nat.le_of_ble_eq_true rfl) (Nat.le_of_ble_eq_true rfl) (f_19_ok hx8) (k_19 _ hx8) ?_
    refine zo_astore (p' := 13) (L' := [(0, zrf (some o)), (1, .int a0), (2, .int a1), (3, .int a2), (4, zrf r7)]) (zi_49 rfl) rfl zm_49_4 ⟨Or.inr ⟨by decide, rfl, fun q => absurd q (by decide)⟩, ⟨Or.inr ⟨by decide, rfl, fun q => absurd q (by decide)⟩, ⟨Or.inr ⟨by decide, rfl, fun q => absurd q (by decide)⟩, ⟨Or.inr ⟨by decide, rfl, fun _ => rfl⟩, ⟨Or.inl ⟨rfl, rfl⟩, trivial⟩⟩⟩⟩⟩ ?_
    refine zo_aload (p' := 15) (zi_49 rfl) rfl rfl ?_
    rcases r7 with _ | q9
    · have g35 := zcs_none g34
      refine zo_nullT (p' := 27) (zi_49 rfl) rfl ?_
      refine zo_iconst (p' := 28) (v := (-1)) (zi_49 rfl) rfl rfl ?_
      have g36 := Option.some.inj g35
      subst g36
      exact zo_iret (zi_49 rfl) rfl ⟨rfl, rfl⟩
    · obtain ⟨hq10, g37⟩ := zcs_some g34
      refine zo_nullF (p' := 18) (zi_49 rfl) rfl hq10 ?_
      refine zo_iload_n (p' := 19) (zi_49 rfl) rfl rfl ?_
      refine zo_iconst (p' := 20) (v := 0) (zi_49 rfl) rfl rfl ?_
      refine zo_iconst (p' := 21) (v := 3) (zi_49 rfl) rfl rfl ?_
      obtain ⟨x11, hx12, g38⟩ := zb_of g37
      refine zo_callSi (p' := 24) (as := [.int a1, .int 0, .int 3]) (r := []) (zi_49 rfl) rfl (Or.inl zl_1_96) rfl rfl (Nat.le_of_ble_eq_true rfl) (Nat.le_of_ble_eq_true rfl) (k_14 _ hx12) ?_
      by_cases hc13 : ¬ x11 = 0
      · rw [if_pos hc13] at g38
        refine zo_ifT (p' := 29) (zi_49 rfl) rfl hc13 ?_
        refine zo_iload_n (p' := 30) (zi_49 rfl) rfl rfl ?_
        refine zo_iconst (p' := 31) (v := 0) (zi_49 rfl) rfl rfl ?_
        refine zo_bipush (p' := 33) (v := 9) (zi_49 rfl) rfl rfl ?_
        obtain ⟨x14, hx15, g39⟩ := zb_of g38
        refine zo_callSi (p' := 36) (as := [.int a2, .int 0, .int 9]) (r := []) (zi_49 rfl) rfl (Or.inl zl_1_96) rfl rfl (Nat.le_of_ble_eq_true rfl) (Nat.le_of_ble_eq_true rfl) (k_14 _ hx15) ?_
        by_cases hc16 : ¬ x14 = 0
        · rw [if_pos hc16] at g39
          refine zo_ifT (p' := 42) (zi_49 rfl) rfl hc16 ?_
          refine zo_aload (p' := 44) (zi_49 rfl) rfl rfl ?_
          obtain ⟨x17, hx18, g40⟩ := zb_of g39
          refine zo_getI (p' := 47) (zi_49 rfl) rfl zl_1_120 hx18 ?_
          refine zo_bipush (p' := 49) (v := 6) (zi_49 rfl) rfl rfl ?_
          by_cases hc19 : x17 = 6
          · rw [if_pos hc19] at g40
            refine zo_icT (p' := 55) (zi_49 rfl) rfl hc19 ?_
            refine zo_aload (p' := 57) (zi_49 rfl) rfl rfl ?_
            obtain ⟨r20, hx21, g41⟩ := zb_of g40
            refine zo_getR (p' := 60) (zi_49 rfl) rfl zl_1_182 hx21 ?_
            refine zo_iload_n (p' := 61) (zi_49 rfl) rfl rfl ?_
            obtain ⟨q22, h0, g42⟩ := zb_of g41
            subst h0
            obtain ⟨x23, hx24, g43⟩ := zb_of g42
            refine zo_iald (p' := 62) (zi_49 rfl) rfl hx24 ?_
            refine zo_istore (p' := 64) (L' := [(0, zrf (some o)), (1, .int a0), (2, .int a1), (3, .int a2), (4, zrf (some q9)), (5, .int x23)]) (zi_49 rfl) rfl zm_49_5 ⟨Or.inr ⟨by decide, rfl, fun q => absurd q (by decide)⟩, ⟨Or.inr ⟨by decide, rfl, fun q => absurd q (by decide)⟩, ⟨Or.inr ⟨by decide, rfl, fun q => absurd q (by decide)⟩, ⟨Or.inr ⟨by decide, rfl, fun q => absurd q (by decide)⟩, ⟨Or.inr ⟨by decide, rfl, fun _ => zrf_cat _⟩, ⟨Or.inl ⟨rfl, rfl⟩, trivial⟩⟩⟩⟩⟩⟩ ?_
            refine zo_aload (p' := 66) (zi_49 rfl) rfl rfl ?_
            obtain ⟨r25, hx26, g44⟩ := zb_of g43
            refine zo_getR (p' := 69) (zi_49 rfl) rfl zl_1_182 hx26 ?_
            refine zo_iload_n (p' := 70) (zi_49 rfl) rfl rfl ?_
            refine zo_iload_n (p' := 71) (zi_49 rfl) rfl rfl ?_
            obtain ⟨q27, h0, g45⟩ := zb_of g44
            subst h0
            obtain ⟨M28, hx29, g46⟩ := zb_of g45
            refine zo_iast (p' := 72) (zi_49 rfl) rfl hx29 ?_
            refine zo_iload (p' := 74) (zi_49 rfl) rfl rfl ?_
            have g47 := Option.some.inj g46
            subst g47
            exact zo_iret (zi_49 rfl) rfl ⟨rfl, rfl⟩
          · rw [if_neg hc19] at g40
            refine zo_icF (p' := 52) (zi_49 rfl) rfl rfl hc19 ?_
            refine zo_bipush (p' := 54) (v := (-3)) (zi_49 rfl) rfl rfl ?_
            have g48 := Option.some.inj g40
            subst g48
            exact zo_iret (zi_49 rfl) rfl ⟨rfl, rfl⟩
        · rw [if_neg hc16] at g39
          refine zo_ifF (p' := 39) (zi_49 rfl) rfl rfl hc16 ?_
          refine zo_bipush (p' := 41) (v := (-2)) (zi_49 rfl) rfl rfl ?_
          have g49 := Option.some.inj g39
          subst g49
          exact zo_iret (zi_49 rfl) rfl ⟨rfl, rfl⟩
      · rw [if_neg hc13] at g38
        refine zo_ifF (p' := 27) (zi_49 rfl) rfl rfl hc13 ?_
        refine zo_iconst (p' := 28) (v := (-1)) (zi_49 rfl) rfl rfl ?_
        have g50 := Option.some.inj g38
        subst g50
        exact zo_iret (zi_49 rfl) rfl ⟨rfl, rfl⟩
  · rw [if_neg hok] at h; cases h
/-- SlateHalves$Blows.setBy(LSlateHalves$Block;I)V -/
def f_52 (M : ZMem) (o : Nat) (a0 : Option Nat) (a1 : Int32) : Option (ZMem) := if zok M 2 o = true then (zb a0 fun q1 => zb (zgi M 1 2 q1) fun x2 => zb (zgi M 1 4 q1) fun x4 => zb (f_29 M o (some q1) x2 x4 a1) fun M8 => some M8) else none
theorem f_52_ok {M : ZMem} {o : Nat} {a0 : Option Nat} {a1 : Int32} {out : ZMem} (h : f_52 M o a0 a1 = some out) : zok M 2 o = true := by
  unfold f_52 at h
  by_cases hok : zok M 2 o = true
  · exact hok
  · rw [if_neg hok] at h; cases h
set_option maxRecDepth 20000 in
theorem k_52 (d : Nat) {M : ZMem} {o : Nat} {a0 : Option Nat} {a1 : Int32} {out : ZMem} (h : f_52 M o a0 a1 = some out) : zrn (d + 3) 52 [zrf (some o), zrf a0, .int a1] M (none, out) := by
  unfold f_52 at h
  by_cases hok : zok M 2 o = true
  · rw [if_pos hok] at h
    refine zrn_of (L := [(0, zrf (some o)), (1, zrf a0), (2, .int a1)]) (by simp [lv_args, zrf_cat, zcat_i, zcat_l, zcat_r]) ?_
    refine zo_aload_n (p' := 1) (zi_52 rfl) rfl rfl ?_
    refine zo_aload_n (p' := 2) (zi_52 rfl) rfl rfl ?_
    refine zo_aload_n (p' := 3) (zi_52 rfl) rfl rfl ?_
    obtain ⟨q1, h0, g9⟩ := zb_of h
    subst h0
    obtain ⟨x2, hx3, g10⟩ := zb_of g9
    refine zo_getI (p' := 6) (zi_52 rfl) rfl zl_8_15 hx3 ?_
    refine zo_aload_n (p' := 7) (zi_52 rfl) rfl rfl ?_
    obtain ⟨x4, hx5, g11⟩ := zb_of g10
    refine zo_getI (p' := 10) (zi_52 rfl) rfl zl_8_20 hx5 ?_
    refine zo_iload_n (p' := 11) (zi_52 rfl) rfl rfl ?_
    obtain ⟨M8, hx7, g12⟩ := zb_of g11
    refine zo_callVv (p' := 14) (t := 2) (as := [zrf (some q1), .int x2, .int x4, .int a1]) (r := []) (zi_52 rfl) rfl zl_8_23 rfl rfl (Or.inl ⟨by decide, rfl⟩) (Nat.le_of_ble_eq_true rfl) (Nat.le_of_ble_eq_true rfl) (f_29_ok hx7) (k_29 _ hx7) ?_
    have g13 := Option.some.inj g12
    subst g13
    exact zo_vret (zi_52 rfl) rfl
  · rw [if_neg hok] at h; cases h
/-- SlateHalves.isCleanBlow(LSlateHalves$Block;II)Z -/
def f_51 (M : ZMem) (o : Nat) (a0 : Option Nat) (a1 : Int32) (a2 : Int32) : Option (Int32 × ZMem) := if zok M 11 o = true then (zb (zgr M 11 10 o) fun r1 => zb (zgr M 11 0 o) fun r3 => zb r3 fun q5 => zb (zgr M 7 0 q5) fun r6 => zb r6 fun q8 => zb (zgi M 10 3 q8) fun x9 => zb r1 fun q11 => zb (f_52 M q11 a0 x9) fun M14 => zb (zgr M14 11 10 o) fun r15 => zb r15 fun q17 => zb (f_41 M14 q17 a1 a2) fun x18 => if narrow .boolean (.int x18) = .int x18 then some (x18, M14) else none) else none
theorem f_51_ok {M : ZMem} {o : Nat} {a0 : Option Nat} {a1 : Int32} {a2 : Int32} {out : Int32 × ZMem} (h : f_51 M o a0 a1 a2 = some out) : zok M 11 o = true := by
  unfold f_51 at h
  by_cases hok : zok M 11 o = true
  · exact hok
  · rw [if_neg hok] at h; cases h
set_option maxRecDepth 20000 in
theorem k_51 (d : Nat) {M : ZMem} {o : Nat} {a0 : Option Nat} {a1 : Int32} {a2 : Int32} {out : Int32 × ZMem} (h : f_51 M o a0 a1 a2 = some out) : zrn (d + 4) 51 [zrf (some o), zrf a0, .int a1, .int a2] M (some (.int out.1), out.2) := by
  unfold f_51 at h
  by_cases hok : zok M 11 o = true
  · rw [if_pos hok] at h
    refine zrn_of (L := [(0, zrf (some o)), (1, zrf a0), (2, .int a1), (3, .int a2)]) (by simp [lv_args, zrf_cat, zcat_i, zcat_l, zcat_r]) ?_
    refine zo_aload_n (p' := 1) (zi_51 rfl) rfl rfl ?_
    obtain ⟨r1, hx2, g21⟩ := zb_of h
    refine zo_getR (p' := 4) (zi_51 rfl) rfl zl_1_64 hx2 ?_
    refine zo_aload_n (p' := 5) (zi_51 rfl) rfl rfl ?_
    refine zo_aload_n (p' := 6) (zi_51 rfl) rfl rfl ?_
    obtain ⟨r3, hx4, g22⟩ := zb_of g21
    refine zo_getR (p' := 9) (zi_51 rfl) rfl zl_1_14 hx4 ?_
    obtain ⟨q5, h0, g23⟩ := zb_of g22
    subst h0
    obtain ⟨r6, hx7, g24⟩ := zb_of g23
    refine zo_getR (p' := 12) (zi_51 rfl) rfl zl_1_100 hx7 ?_
    obtain ⟨q8, h0, g25⟩ := zb_of g24
    subst h0
    obtain ⟨x9, hx10, g26⟩ := zb_of g25
    refine zo_getI (p' := 15) (zi_51 rfl) rfl zl_1_139 hx10 ?_
    obtain ⟨q11, h0, g27⟩ := zb_of g26
    subst h0
    obtain ⟨M14, hx13, g28⟩ := zb_of g27
    refine zo_callVv (p' := 18) (t := 2) (as := [zrf a0, .int x9]) (r := []) (zi_51 rfl) rfl zl_1_320 rfl rfl (Or.inl ⟨by decide, rfl⟩) (Nat.le_of_ble_eq_true rfl) (by rw [zml_52]; simp [lg_sl, zrf_cat, zcat_i, zcat_l, zcat_r]; done) (f_52_ok hx13) (k_52 _ hx13) ?_
    refine zo_aload_n (p' := 19) (zi_51 rfl) rfl rfl ?_
    obtain ⟨r15, hx16, g29⟩ := zb_of g28
    refine zo_getR (p' := 22) (zi_51 rfl) rfl zl_1_64 hx16 ?_
    refine zo_iload_n (p' := 23) (zi_51 rfl) rfl rfl ?_
    refine zo_iload_n (p' := 24) (zi_51 rfl) rfl rfl ?_
    obtain ⟨q17, h0, g30⟩ := zb_of g29
    subst h0
    obtain ⟨x18, hx19, g31⟩ := zb_of g30
    refine zo_callVi (p' := 27) (t := 2) (as := [.int a1, .int a2]) (r := []) (zi_51 rfl) rfl zl_1_312 rfl rfl (Or.inl ⟨by decide, rfl⟩) (Nat.le_of_ble_eq_true rfl) (Nat.le_of_ble_eq_true rfl) (f_41_ok hx19) (k_41 _ hx19) ?_
    by_cases hr20 : narrow .boolean (.int x18) = .int x18
    · rw [if_pos hr20] at g31
      have g32 := Option.some.inj g31
      subst g32
      exact zo_iret (zi_51 rfl) rfl ⟨rfl, hr20⟩
    · rw [if_neg hr20] at g31; cases g31
  · rw [if_neg hok] at h; cases h
/-- SlateHalves$Block.copyFrom(LSlateHalves$Block;)V -/
def f_53 (M : ZMem) (o : Nat) (a0 : Option Nat) : Option (ZMem) := if zok M 1 o = true then (zb a0 fun q1 => zb (zgi M 1 1 q1) fun x2 => zb (zpf M 1 1 o (.int x2) false) fun M4 => zb (zgi M4 1 2 q1) fun x6 => zb (zpf M4 1 2 o (.int x6) false) fun M8 => zb (zgi M8 1 3 q1) fun x10 => zb (zpf M8 1 3 o (.int x10) false) fun M12 => zb (zgi M12 1 4 q1) fun x14 => zb (zpf M12 1 4 o (.int x14) false) fun M16 => zb (zgi M16 1 5 q1) fun x18 => zb (zpf M16 1 5 o (.int x18) false) fun M20 => zb (zgr M20 1 6 q1) fun r22 => zb (zgr M20 1 6 o) fun r24 => zb r24 fun q26 => zb r22 fun q27 => zb (zcopy M20 q27 0 q26 0 4) fun M28 => some M28) else none
theorem f_53_ok {M : ZMem} {o : Nat} {a0 : Option Nat} {out : ZMem} (h : f_53 M o a0 = some out) : zok M 1 o = true := by
  unfold f_53 at h
  by_cases hok : zok M 1 o = true
  · exact hok
  · rw [if_neg hok] at h; cases h
set_option maxRecDepth 20000 in
theorem k_53 (d : Nat) {M : ZMem} {o : Nat} {a0 : Option Nat} {out : ZMem} (h : f_53 M o a0 = some out) : zrn (d + 1) 53 [zrf (some o), zrf a0] M (none, out) := by
  unfold f_53 at h
  by_cases hok : zok M 1 o = true
  · rw [if_pos hok] at h
    refine zrn_of (L := [(0, zrf (some o)), (1, zrf a0)]) (by simp [lv_args, zrf_cat, zcat_i, zcat_l, zcat_r]) ?_
    refine zo_aload_n (p' := 1) (zi_53 rfl) rfl rfl ?_
    refine zo_aload_n (p' := 2) (zi_53 rfl) rfl rfl ?_
    obtain ⟨q1, h0, g30⟩ := zb_of h
    subst h0
    obtain ⟨x2, hx3, g31⟩ := zb_of g30
    refine zo_getI (p' := 5) (zi_53 rfl) rfl zl_4_22 hx3 ?_
    obtain ⟨M4, hx5, g32⟩ := zb_of g31
    refine zo_putI (p' := 8) (zi_53 rfl) rfl zl_4_22 (zpb_53 _) hx5 ?_
    refine zo_aload_n (p' := 9) (zi_53 rfl) rfl rfl ?_
    refine zo_aload_n (p' := 10) (zi_53 rfl) rfl rfl ?_
    obtain ⟨x6, hx7, g33⟩ := zb_of g32
    refine zo_getI (p' := 13) (zi_53 rfl) rfl zl_4_25 hx7 ?_
    obtain ⟨M8, hx9, g34⟩ := zb_of g33
    refine zo_putI (p' := 16) (zi_53 rfl) rfl zl_4_25 (zpb_53 _) hx9 ?_
    refine zo_aload_n (p' := 17) (zi_53 rfl) rfl rfl ?_
    refine zo_aload_n (p' := 18) (zi_53 rfl) rfl rfl ?_
    obtain ⟨x10, hx11, g35⟩ := zb_of g34
    refine zo_getI (p' := 21) (zi_53 rfl) rfl zl_4_19 hx11 ?_
    obtain ⟨M12, hx13, g36⟩ := zb_of g35
    refine zo_putI (p' := 24) (zi_53 rfl) rfl zl_4_19 (zpb_53 _) hx13 ?_
    refine zo_aload_n (p' := 25) (zi_53 rfl) rfl rfl ?_
    refine zo_aload_n (p' := 26) (zi_53 rfl) rfl rfl ?_
    obtain ⟨x14, hx15, g37⟩ := zb_of g36
    refine zo_getI (p' := 29) (zi_53 rfl) rfl zl_4_28 hx15 ?_
    obtain ⟨M16, hx17, g38⟩ := zb_of g37
    refine zo_putI (p' := 32) (zi_53 rfl) rfl zl_4_28 (zpb_53 _) hx17 ?_
    refine zo_aload_n (p' := 33) (zi_53 rfl) rfl rfl ?_
    refine zo_aload_n (p' := 34) (zi_53 rfl) rfl rfl ?_
    obtain ⟨x18, hx19, g39⟩ := zb_of g38
    refine zo_getI (p' := 37) (zi_53 rfl) rfl zl_4_31 hx19 ?_
    obtain ⟨M20, hx21, g40⟩ := zb_of g39
    refine zo_putI (p' := 40) (zi_53 rfl) rfl zl_4_31 (zpb_53 _) hx21 ?_
    refine zo_aload_n (p' := 41) (zi_53 rfl) rfl rfl ?_
    obtain ⟨r22, hx23, g41⟩ := zb_of g40
    refine zo_getR (p' := 44) (zi_53 rfl) rfl zl_4_9 hx23 ?_
    refine zo_iconst (p' := 45) (v := 0) (zi_53 rfl) rfl rfl ?_
    refine zo_aload_n (p' := 46) (zi_53 rfl) rfl rfl ?_
    obtain ⟨r24, hx25, g42⟩ := zb_of g41
    refine zo_getR (p' := 49) (zi_53 rfl) rfl zl_4_9 hx25 ?_
    refine zo_iconst (p' := 50) (v := 0) (zi_53 rfl) rfl rfl ?_
    refine zo_iconst (p' := 51) (v := 4) (zi_53 rfl) rfl rfl ?_
    obtain ⟨q26, h0, g43⟩ := zb_of g42
    subst h0
    obtain ⟨q27, h0, g44⟩ := zb_of g43
    subst h0
    obtain ⟨M28, hx29, g45⟩ := zb_of g44
    refine zo_copy (p' := 54) (zi_53 rfl) rfl zl_4_40 (Nat.le_of_ble_eq_true rfl) hx29 ?_
    have g46 := Option.some.inj g45
    subst g46
    exact zo_vret (zi_53 rfl) rfl
  · rw [if_neg hok] at h; cases h
/-- SlateHalves.strike(II)I -/
def f_50 (M : ZMem) (o : Nat) (a0 : Int32) (a1 : Int32) : Option (Int32 × ZMem) := if zok M 11 o = true then (zb (zgr M 11 0 o) fun r1 => zb r1 fun q3 => zb (zgr M 7 0 q3) fun r4 => zb r4 fun q6 => zb (f_19 M q6 a0) fun r7 => zcs r7 (some ((-1), M)) (fun q9 => zb (zgi M 1 3 q9) fun x11 => zb (f_14 M a1 1 ((x11 - 1))) fun x13 => if ¬ x13 = 0 then (zb (zgi M 1 5 q9) fun x16 => if x16 < 9999 then (zbd (f_51 M o (some q9) x11 a1) fun x19 M21 => if ¬ x19 = 0 then (zb (zgr M21 11 0 o) fun r23 => zb r23 fun q25 => zb (zgr M21 7 0 q25) fun r26 => zb r26 fun q28 => zbd (f_15 M21 q28) fun r29 M31 => zcs r29 (some ((-4), M31)) (fun q32 => zb (zgi M31 1 5 q9) fun x34 => zb (zpf M31 1 5 q9 (.int ((x34 + 1))) false) fun M36 => zb (zpf M36 1 3 q9 (.int a1) false) fun M38 => zb (f_53 M38 q32 (some q9)) fun M42 => zb (zpf M42 1 3 q32 (.int ((x11 - a1))) false) fun M43 => zb (zpf M43 1 5 q32 (.int 0) false) fun M45 => some (1, M45))) else (zb (zgi M21 1 5 q9) fun x47 => zb (zpf M21 1 5 q9 (.int ((x47 + 1))) false) fun M49 => zb (f_24 M49 a1 ((x11 - a1))) fun x51 => zb (zpf M49 1 3 q9 (.int x51) false) fun M53 => some (0, M53))) else (some ((-3), M))) else (some ((-2), M)))) else none
theorem f_50_ok {M : ZMem} {o : Nat} {a0 : Int32} {a1 : Int32} {out : Int32 × ZMem} (h : f_50 M o a0 a1 = some out) : zok M 11 o = true := by
  unfold f_50 at h
  by_cases hok : zok M 11 o = true
  · exact hok
  · rw [if_neg hok] at h; cases h
set_option maxRecDepth 20000 in
theorem k_50 (d : Nat) {M : ZMem} {o : Nat} {a0 : Int32} {a1 : Int32} {out : Int32 × ZMem} (h : f_50 M o a0 a1 = some out) : zrn (d + 5) 50 [zrf (some o), .int a0, .int a1] M (some (.int out.1), out.2) := by
  unfold f_50 at h
  by_cases hok : zok M 11 o = true
  · rw [if_pos hok] at h
    refine zrn_of (L := [(0, zrf (some o)), (1, .int a0), (2, .int a1)]) rfl ?_
    refine zo_aload_n (p' := 1) (zi_50 rfl) rfl rfl ?_
    obtain ⟨r1, hx2, g55⟩ := zb_of h
    refine zo_getR (p' := 4) (zi_50 rfl) rfl zl_1_14 hx2 ?_
    obtain ⟨q3, h0, g56⟩ := zb_of g55
    subst h0
    obtain ⟨r4, hx5, g57⟩ := zb_of g56
    refine zo_getR (p' := 7) (zi_50 rfl) rfl zl_1_100 hx5 ?_
    refine zo_iload_n (p' := 8) (zi_50 rfl) rfl rfl ?_
    obtain ⟨q6, h0, g58⟩ := zb_of g57
    subst h0
    obtain ⟨r7, hx8, g59⟩ := zb_of g58
    refine zo_callVa (p' := 11) (t := 10) (as := [.int a0]) (r := []) (zi_50 rfl) rfl zl_1_116 rfl rfl (Or.inl ⟨by decide, rfl⟩) (Nat.le_of_ble_eq_true rfl) (Nat.le_of_ble_eq_true rfl) (f_19_ok hx8) (k_19 _ hx8) ?_
    refine zo_astore_n (p' := 12) (L' := [(0, zrf (some o)), (1, .int a0), (2, .int a1), (3, zrf r7)]) (zi_50 rfl) rfl zm_50_3 ⟨Or.inr ⟨by decide, rfl, fun q => absurd q (by decide)⟩, ⟨Or.inr ⟨by decide, rfl, fun q => absurd q (by decide)⟩, ⟨Or.inr ⟨by decide, rfl, fun _ => rfl⟩, ⟨Or.inl ⟨rfl, rfl⟩, trivial⟩⟩⟩⟩ ?_
    refine zo_aload_n (p' := 13) (zi_50 rfl) rfl rfl ?_
    rcases r7 with _ | q9
    · have g60 := zcs_none g59
      refine zo_nonnullF (p' := 16) (zi_50 rfl) rfl ?_
      refine zo_iconst (p' := 17) (v := (-1)) (zi_50 rfl) rfl rfl ?_
      have g61 := Option.some.inj g60
      subst g61
      exact zo_iret (zi_50 rfl) rfl ⟨rfl, rfl⟩
    · obtain ⟨hq10, g62⟩ := zcs_some g59
      refine zo_nonnullT (p' := 18) (zi_50 rfl) rfl hq10 ?_
      refine zo_aload_n (p' := 19) (zi_50 rfl) rfl rfl ?_
      obtain ⟨x11, hx12, g63⟩ := zb_of g62
      refine zo_getI (p' := 22) (zi_50 rfl) rfl zl_1_126 hx12 ?_
      refine zo_istore (p' := 24) (L' := [(0, zrf (some o)), (1, .int a0), (2, .int a1), (3, zrf (some q9)), (4, .int x11)]) (zi_50 rfl) rfl zm_50_4 ⟨Or.inr ⟨by decide, rfl, fun q => absurd q (by decide)⟩, ⟨Or.inr ⟨by decide, rfl, fun q => absurd q (by decide)⟩, ⟨Or.inr ⟨by decide, rfl, fun q => absurd q (by decide)⟩, ⟨Or.inr ⟨by decide, rfl, fun _ => zrf_cat _⟩, ⟨Or.inl ⟨rfl, rfl⟩, trivial⟩⟩⟩⟩⟩ ?_
      refine zo_iload_n (p' := 25) (zi_50 rfl) rfl rfl ?_
      refine zo_iconst (p' := 26) (v := 1) (zi_50 rfl) rfl rfl ?_
      refine zo_iload (p' := 28) (zi_50 rfl) rfl rfl ?_
      refine zo_iconst (p' := 29) (v := 1) (zi_50 rfl) rfl rfl ?_
      refine zo_isub (p' := 30) (zi_50 rfl) rfl ?_
      obtain ⟨x13, hx14, g64⟩ := zb_of g63
      refine zo_callSi (p' := 33) (as := [.int a1, .int 1, .int ((x11 - 1))]) (r := []) (zi_50 rfl) rfl (Or.inl zl_1_96) rfl rfl (Nat.le_of_ble_eq_true rfl) (Nat.le_of_ble_eq_true rfl) (k_14 _ hx14) ?_
      by_cases hc15 : ¬ x13 = 0
      · rw [if_pos hc15] at g64
        refine zo_ifT (p' := 39) (zi_50 rfl) rfl hc15 ?_
        refine zo_aload_n (p' := 40) (zi_50 rfl) rfl rfl ?_
        obtain ⟨x16, hx17, g65⟩ := zb_of g64
        refine zo_getI (p' := 43) (zi_50 rfl) rfl zl_1_132 hx17 ?_
        refine zo_sipush (p' := 46) (v := 9999) (zi_50 rfl) rfl rfl ?_
        by_cases hc18 : x16 < 9999
        · rw [if_pos hc18] at g65
          refine zo_icT (p' := 52) (zi_50 rfl) rfl hc18 ?_
          refine zo_aload_n (p' := 53) (zi_50 rfl) rfl rfl ?_
          refine zo_aload_n (p' := 54) (zi_50 rfl) rfl rfl ?_
          refine zo_iload (p' := 56) (zi_50 rfl) rfl rfl ?_
          refine zo_iload_n (p' := 57) (zi_50 rfl) rfl rfl ?_
          obtain ⟨x19, M21, hx20, g66⟩ := zbd_of g65
          refine zo_callVi (p' := 60) (t := 11) (as := [zrf (some q9), .int x11, .int a1]) (r := []) (zi_50 rfl) rfl zl_1_186 rfl rfl (Or.inl ⟨by decide, rfl⟩) (Nat.le_of_ble_eq_true rfl) (Nat.le_of_ble_eq_true rfl) (f_51_ok hx20) (k_51 _ hx20) ?_
          by_cases hc22 : ¬ x19 = 0
          · rw [if_pos hc22] at g66
            refine zo_ifT (p' := 87) (zi_50 rfl) rfl hc22 ?_
            refine zo_aload_n (p' := 88) (zi_50 rfl) rfl rfl ?_
            obtain ⟨r23, hx24, g67⟩ := zb_of g66
            refine zo_getR (p' := 91) (zi_50 rfl) rfl zl_1_14 hx24 ?_
            obtain ⟨q25, h0, g68⟩ := zb_of g67
            subst h0
            obtain ⟨r26, hx27, g69⟩ := zb_of g68
            refine zo_getR (p' := 94) (zi_50 rfl) rfl zl_1_100 hx27 ?_
            obtain ⟨q28, h0, g70⟩ := zb_of g69
            subst h0
            obtain ⟨r29, M31, hx30, g71⟩ := zbd_of g70
            refine zo_callVa (p' := 97) (t := 10) (as := []) (r := []) (zi_50 rfl) rfl zl_1_103 rfl rfl (Or.inl ⟨by decide, rfl⟩) (Nat.le_of_ble_eq_true rfl) (Nat.le_of_ble_eq_true rfl) (f_15_ok hx30) (k_15 _ hx30) ?_
            refine zo_astore (p' := 99) (L' := [(0, zrf (some o)), (1, .int a0), (2, .int a1), (3, zrf (some q9)), (4, .int x11), (5, zrf r29)]) (zi_50 rfl) rfl zm_50_5 ⟨Or.inr ⟨by decide, rfl, fun q => absurd q (by decide)⟩, ⟨Or.inr ⟨by decide, rfl, fun q => absurd q (by decide)⟩, ⟨Or.inr ⟨by decide, rfl, fun q => absurd q (by decide)⟩, ⟨Or.inr ⟨by decide, rfl, fun q => absurd q (by decide)⟩, ⟨Or.inr ⟨by decide, rfl, fun _ => rfl⟩, ⟨Or.inl ⟨rfl, rfl⟩, trivial⟩⟩⟩⟩⟩⟩ ?_
            refine zo_aload (p' := 101) (zi_50 rfl) rfl rfl ?_
            rcases r29 with _ | q32
            · have g72 := zcs_none g71
              refine zo_nonnullF (p' := 104) (zi_50 rfl) rfl ?_
              refine zo_bipush (p' := 106) (v := (-4)) (zi_50 rfl) rfl rfl ?_
              have g73 := Option.some.inj g72
              subst g73
              exact zo_iret (zi_50 rfl) rfl ⟨rfl, rfl⟩
            · obtain ⟨hq33, g74⟩ := zcs_some g71
              refine zo_nonnullT (p' := 107) (zi_50 rfl) rfl hq33 ?_
              refine zo_aload_n (p' := 108) (zi_50 rfl) rfl rfl ?_
              refine zo_dup (p' := 109) (zi_50 rfl) rfl (zrf_cat _) ?_
              obtain ⟨x34, hx35, g75⟩ := zb_of g74
              refine zo_getI (p' := 112) (zi_50 rfl) rfl zl_1_132 hx35 ?_
              refine zo_iconst (p' := 113) (v := 1) (zi_50 rfl) rfl rfl ?_
              refine zo_iadd (p' := 114) (zi_50 rfl) rfl ?_
              obtain ⟨M36, hx37, g76⟩ := zb_of g75
              refine zo_putI (p' := 117) (zi_50 rfl) rfl zl_1_132 (zpb_50 _) hx37 ?_
              refine zo_aload_n (p' := 118) (zi_50 rfl) rfl rfl ?_
              refine zo_iload_n (p' := 119) (zi_50 rfl) rfl rfl ?_
              obtain ⟨M38, hx39, g77⟩ := zb_of g76
              refine zo_putI (p' := 122) (zi_50 rfl) rfl zl_1_126 (zpb_50 _) hx39 ?_
              refine zo_aload (p' := 124) (zi_50 rfl) rfl rfl ?_
              refine zo_aload_n (p' := 125) (zi_50 rfl) rfl rfl ?_
              obtain ⟨M42, hx41, g78⟩ := zb_of g77
              refine zo_callVv (p' := 128) (t := 1) (as := [zrf (some q9)]) (r := []) (zi_50 rfl) rfl zl_1_196 rfl rfl (Or.inl ⟨by decide, rfl⟩) (Nat.le_of_ble_eq_true rfl) (Nat.le_of_ble_eq_true rfl) (f_53_ok hx41) (k_53 _ hx41) ?_
              refine zo_aload (p' := 130) (zi_50 rfl) rfl rfl ?_
              refine zo_iload (p' := 132) (zi_50 rfl) rfl rfl ?_
              refine zo_iload_n (p' := 133) (zi_50 rfl) rfl rfl ?_
              refine zo_isub (p' := 134) (zi_50 rfl) rfl ?_
              obtain ⟨M43, hx44, g79⟩ := zb_of g78
              refine zo_putI (p' := 137) (zi_50 rfl) rfl zl_1_126 (zpb_50 _) hx44 ?_
              refine zo_aload (p' := 139) (zi_50 rfl) rfl rfl ?_
              refine zo_iconst (p' := 140) (v := 0) (zi_50 rfl) rfl rfl ?_
              obtain ⟨M45, hx46, g80⟩ := zb_of g79
              refine zo_putI (p' := 143) (zi_50 rfl) rfl zl_1_132 (zpb_50 _) hx46 ?_
              refine zo_iconst (p' := 144) (v := 1) (zi_50 rfl) rfl rfl ?_
              have g81 := Option.some.inj g80
              subst g81
              exact zo_iret (zi_50 rfl) rfl ⟨rfl, rfl⟩
          · rw [if_neg hc22] at g66
            refine zo_ifF (p' := 63) (zi_50 rfl) rfl rfl hc22 ?_
            refine zo_aload_n (p' := 64) (zi_50 rfl) rfl rfl ?_
            refine zo_dup (p' := 65) (zi_50 rfl) rfl (zrf_cat _) ?_
            obtain ⟨x47, hx48, g82⟩ := zb_of g66
            refine zo_getI (p' := 68) (zi_50 rfl) rfl zl_1_132 hx48 ?_
            refine zo_iconst (p' := 69) (v := 1) (zi_50 rfl) rfl rfl ?_
            refine zo_iadd (p' := 70) (zi_50 rfl) rfl ?_
            obtain ⟨M49, hx50, g83⟩ := zb_of g82
            refine zo_putI (p' := 73) (zi_50 rfl) rfl zl_1_132 (zpb_50 _) hx50 ?_
            refine zo_aload_n (p' := 74) (zi_50 rfl) rfl rfl ?_
            refine zo_iload_n (p' := 75) (zi_50 rfl) rfl rfl ?_
            refine zo_iload (p' := 77) (zi_50 rfl) rfl rfl ?_
            refine zo_iload_n (p' := 78) (zi_50 rfl) rfl rfl ?_
            refine zo_isub (p' := 79) (zi_50 rfl) rfl ?_
            obtain ⟨x51, hx52, g84⟩ := zb_of g83
            refine zo_callSi (p' := 82) (as := [.int a1, .int ((x11 - a1))]) (r := [zrf (some q9)]) (zi_50 rfl) rfl (Or.inl zl_1_190) rfl rfl (Nat.le_of_ble_eq_true rfl) (Nat.le_of_ble_eq_true rfl) (k_24 _ hx52) ?_
            obtain ⟨M53, hx54, g85⟩ := zb_of g84
            refine zo_putI (p' := 85) (zi_50 rfl) rfl zl_1_126 (zpb_50 _) hx54 ?_
            refine zo_iconst (p' := 86) (v := 0) (zi_50 rfl) rfl rfl ?_
            have g86 := Option.some.inj g85
            subst g86
            exact zo_iret (zi_50 rfl) rfl ⟨rfl, rfl⟩
        · rw [if_neg hc18] at g65
          refine zo_icF (p' := 49) (zi_50 rfl) rfl rfl hc18 ?_
          refine zo_bipush (p' := 51) (v := (-3)) (zi_50 rfl) rfl rfl ?_
          have g87 := Option.some.inj g65
          subst g87
          exact zo_iret (zi_50 rfl) rfl ⟨rfl, rfl⟩
      · rw [if_neg hc15] at g64
        refine zo_ifF (p' := 36) (zi_50 rfl) rfl rfl hc15 ?_
        refine zo_bipush (p' := 38) (v := (-2)) (zi_50 rfl) rfl rfl ?_
        have g88 := Option.some.inj g64
        subst g88
        exact zo_iret (zi_50 rfl) rfl ⟨rfl, rfl⟩
  · rw [if_neg hok] at h; cases h
/-- SlateHalves.isBlow(II)Z -/
def f_55 (M : ZMem) (a0 : Int32) (a1 : Int32) : Option (Int32) := zb (f_14 M a0 2 60) fun x1 => if x1 = 0 then (some 0) else (zb (f_14 M a1 1 ((a0 - 1))) fun x4 => if x4 = 0 then (some 0) else (some 1))
set_option maxRecDepth 20000 in
theorem k_55 (d : Nat) {M : ZMem} {a0 : Int32} {a1 : Int32} {out : Int32} (h : f_55 M a0 a1 = some out) : zrn (d + 1) 55 [.int a0, .int a1] M (some (.int out), M) := by
  unfold f_55 at h
  refine zrn_of (L := [(0, .int a0), (1, .int a1)]) rfl ?_
  refine zo_iload_n (p' := 1) (zi_55 rfl) rfl rfl ?_
  refine zo_iconst (p' := 2) (v := 2) (zi_55 rfl) rfl rfl ?_
  refine zo_bipush (p' := 4) (v := 60) (zi_55 rfl) rfl rfl ?_
  obtain ⟨x1, hx2, g7⟩ := zb_of h
  refine zo_callSi (p' := 7) (as := [.int a0, .int 2, .int 60]) (r := []) (zi_55 rfl) rfl (Or.inl zl_1_96) rfl rfl (Nat.le_of_ble_eq_true rfl) (Nat.le_of_ble_eq_true rfl) (k_14 _ hx2) ?_
  by_cases hc3 : x1 = 0
  · rw [if_pos hc3] at g7
    refine zo_ifT (p' := 25) (zi_55 rfl) rfl hc3 ?_
    refine zo_iconst (p' := 26) (v := 0) (zi_55 rfl) rfl rfl ?_
    have g8 := Option.some.inj g7
    subst g8
    exact zo_iret (zi_55 rfl) rfl ⟨rfl, rfl⟩
  · rw [if_neg hc3] at g7
    refine zo_ifF (p' := 10) (zi_55 rfl) rfl rfl hc3 ?_
    refine zo_iload_n (p' := 11) (zi_55 rfl) rfl rfl ?_
    refine zo_iconst (p' := 12) (v := 1) (zi_55 rfl) rfl rfl ?_
    refine zo_iload_n (p' := 13) (zi_55 rfl) rfl rfl ?_
    refine zo_iconst (p' := 14) (v := 1) (zi_55 rfl) rfl rfl ?_
    refine zo_isub (p' := 15) (zi_55 rfl) rfl ?_
    obtain ⟨x4, hx5, g9⟩ := zb_of g7
    refine zo_callSi (p' := 18) (as := [.int a1, .int 1, .int ((a0 - 1))]) (r := []) (zi_55 rfl) rfl (Or.inl zl_1_96) rfl rfl (Nat.le_of_ble_eq_true rfl) (Nat.le_of_ble_eq_true rfl) (k_14 _ hx5) ?_
    by_cases hc6 : x4 = 0
    · rw [if_pos hc6] at g9
      refine zo_ifT (p' := 25) (zi_55 rfl) rfl hc6 ?_
      refine zo_iconst (p' := 26) (v := 0) (zi_55 rfl) rfl rfl ?_
      have g10 := Option.some.inj g9
      subst g10
      exact zo_iret (zi_55 rfl) rfl ⟨rfl, rfl⟩
    · rw [if_neg hc6] at g9
      refine zo_ifF (p' := 21) (zi_55 rfl) rfl rfl hc6 ?_
      refine zo_iconst (p' := 22) (v := 1) (zi_55 rfl) rfl rfl ?_
      refine zo_goto (p' := 26) (zi_55 rfl) rfl ?_
      have g11 := Option.some.inj g9
      subst g11
      exact zo_iret (zi_55 rfl) rfl ⟨rfl, rfl⟩
/-- SlateHalves.clean(III)I -/
def f_54 (M : ZMem) (o : Nat) (a0 : Int32) (a1 : Int32) (a2 : Int32) : Option (Int32 × ZMem) := if zok M 11 o = true then (zb (zgr M 11 0 o) fun r1 => zb r1 fun q3 => zb (zgr M 7 0 q3) fun r4 => zb r4 fun q6 => zb (f_19 M q6 a0) fun r7 => zcs r7 (some ((-1), M)) (fun q9 => zb (f_55 M a1 a2) fun x11 => if ¬ x11 = 0 then (zbd (f_51 M o (some q9) a1 a2) fun x14 M16 => if x14 = 0 then (some (0, M16)) else (some (1, M16))) else (some ((-2), M)))) else none
theorem f_54_ok {M : ZMem} {o : Nat} {a0 : Int32} {a1 : Int32} {a2 : Int32} {out : Int32 × ZMem} (h : f_54 M o a0 a1 a2 = some out) : zok M 11 o = true := by
  unfold f_54 at h
  by_cases hok : zok M 11 o = true
  · exact hok
  · rw [if_neg hok] at h; cases h
set_option maxRecDepth 20000 in
theorem k_54 (d : Nat) {M : ZMem} {o : Nat} {a0 : Int32} {a1 : Int32} {a2 : Int32} {out : Int32 × ZMem} (h : f_54 M o a0 a1 a2 = some out) : zrn (d + 5) 54 [zrf (some o), .int a0, .int a1, .int a2] M (some (.int out.1), out.2) := by
  unfold f_54 at h
  by_cases hok : zok M 11 o = true
  · rw [if_pos hok] at h
    refine zrn_of (L := [(0, zrf (some o)), (1, .int a0), (2, .int a1), (3, .int a2)]) rfl ?_
    refine zo_aload_n (p' := 1) (zi_54 rfl) rfl rfl ?_
    obtain ⟨r1, hx2, g18⟩ := zb_of h
    refine zo_getR (p' := 4) (zi_54 rfl) rfl zl_1_14 hx2 ?_
    obtain ⟨q3, h0, g19⟩ := zb_of g18
    subst h0
    obtain ⟨r4, hx5, g20⟩ := zb_of g19
    refine zo_getR (p' := 7) (zi_54 rfl) rfl zl_1_100 hx5 ?_
    refine zo_iload_n (p' := 8) (zi_54 rfl) rfl rfl ?_
    obtain ⟨q6, h0, g21⟩ := zb_of g20
    subst h0
    obtain ⟨r7, hx8, g22⟩ := zb_of g21
    refine zo_callVa (p' := 11) (t := 10) (as := [.int a0]) (r := []) (zi_54 rfl) rfl zl_1_116 rfl rfl (Or.inl ⟨by decide, rfl⟩) (Nat.le_of_ble_eq_true rfl) (Nat.le_of_ble_eq_true rfl) (f_19_ok hx8) (k_19 _ hx8) ?_
    refine zo_astore (p' := 13) (L' := [(0, zrf (some o)), (1, .int a0), (2, .int a1), (3, .int a2), (4, zrf r7)]) (zi_54 rfl) rfl zm_54_4 ⟨Or.inr ⟨by decide, rfl, fun q => absurd q (by decide)⟩, ⟨Or.inr ⟨by decide, rfl, fun q => absurd q (by decide)⟩, ⟨Or.inr ⟨by decide, rfl, fun q => absurd q (by decide)⟩, ⟨Or.inr ⟨by decide, rfl, fun _ => rfl⟩, ⟨Or.inl ⟨rfl, rfl⟩, trivial⟩⟩⟩⟩⟩ ?_
    refine zo_aload (p' := 15) (zi_54 rfl) rfl rfl ?_
    rcases r7 with _ | q9
    · have g23 := zcs_none g22
      refine zo_nonnullF (p' := 18) (zi_54 rfl) rfl ?_
      refine zo_iconst (p' := 19) (v := (-1)) (zi_54 rfl) rfl rfl ?_
      have g24 := Option.some.inj g23
      subst g24
      exact zo_iret (zi_54 rfl) rfl ⟨rfl, rfl⟩
    · obtain ⟨hq10, g25⟩ := zcs_some g22
      refine zo_nonnullT (p' := 20) (zi_54 rfl) rfl hq10 ?_
      refine zo_iload_n (p' := 21) (zi_54 rfl) rfl rfl ?_
      refine zo_iload_n (p' := 22) (zi_54 rfl) rfl rfl ?_
      obtain ⟨x11, hx12, g26⟩ := zb_of g25
      refine zo_callSi (p' := 25) (as := [.int a1, .int a2]) (r := []) (zi_54 rfl) rfl (Or.inl zl_1_200) rfl rfl (Nat.le_of_ble_eq_true rfl) (Nat.le_of_ble_eq_true rfl) (k_55 _ hx12) ?_
      by_cases hc13 : ¬ x11 = 0
      · rw [if_pos hc13] at g26
        refine zo_ifT (p' := 31) (zi_54 rfl) rfl hc13 ?_
        refine zo_aload_n (p' := 32) (zi_54 rfl) rfl rfl ?_
        refine zo_aload (p' := 34) (zi_54 rfl) rfl rfl ?_
        refine zo_iload_n (p' := 35) (zi_54 rfl) rfl rfl ?_
        refine zo_iload_n (p' := 36) (zi_54 rfl) rfl rfl ?_
        obtain ⟨x14, M16, hx15, g27⟩ := zbd_of g26
        refine zo_callVi (p' := 39) (t := 11) (as := [zrf (some q9), .int a1, .int a2]) (r := []) (zi_54 rfl) rfl zl_1_186 rfl rfl (Or.inl ⟨by decide, rfl⟩) (Nat.le_of_ble_eq_true rfl) (Nat.le_of_ble_eq_true rfl) (f_51_ok hx15) (k_51 _ hx15) ?_
        by_cases hc17 : x14 = 0
        · rw [if_pos hc17] at g27
          refine zo_ifT (p' := 46) (zi_54 rfl) rfl hc17 ?_
          refine zo_iconst (p' := 47) (v := 0) (zi_54 rfl) rfl rfl ?_
          have g28 := Option.some.inj g27
          subst g28
          exact zo_iret (zi_54 rfl) rfl ⟨rfl, rfl⟩
        · rw [if_neg hc17] at g27
          refine zo_ifF (p' := 42) (zi_54 rfl) rfl rfl hc17 ?_
          refine zo_iconst (p' := 43) (v := 1) (zi_54 rfl) rfl rfl ?_
          refine zo_goto (p' := 47) (zi_54 rfl) rfl ?_
          have g29 := Option.some.inj g27
          subst g29
          exact zo_iret (zi_54 rfl) rfl ⟨rfl, rfl⟩
      · rw [if_neg hc13] at g26
        refine zo_ifF (p' := 28) (zi_54 rfl) rfl rfl hc13 ?_
        refine zo_bipush (p' := 30) (v := (-2)) (zi_54 rfl) rfl rfl ?_
        have g30 := Option.some.inj g26
        subst g30
        exact zo_iret (zi_54 rfl) rfl ⟨rfl, rfl⟩
  · rw [if_neg hok] at h; cases h
/-- SlateHalves$Block.isGone()Z -/
def f_57 (M : ZMem) (o : Nat) : Option (Int32) := if zok M 1 o = true then (zb (zgi M 1 3 o) fun x1 => if ¬ x1 = 0 then (some 0) else (some 1)) else none
theorem f_57_ok {M : ZMem} {o : Nat} {out : Int32} (h : f_57 M o = some out) : zok M 1 o = true := by
  unfold f_57 at h
  by_cases hok : zok M 1 o = true
  · exact hok
  · rw [if_neg hok] at h; cases h
set_option maxRecDepth 20000 in
theorem k_57 (d : Nat) {M : ZMem} {o : Nat} {out : Int32} (h : f_57 M o = some out) : zrn (d) 57 [zrf (some o)] M (some (.int out), M) := by
  unfold f_57 at h
  by_cases hok : zok M 1 o = true
  · rw [if_pos hok] at h
    refine zrn_of (L := [(0, zrf (some o))]) rfl ?_
    refine zo_aload_n (p' := 1) (zi_57 rfl) rfl rfl ?_
    obtain ⟨x1, hx2, g4⟩ := zb_of h
    refine zo_getI (p' := 4) (zi_57 rfl) rfl zl_4_19 hx2 ?_
    by_cases hc3 : ¬ x1 = 0
    · rw [if_pos hc3] at g4
      refine zo_ifT (p' := 11) (zi_57 rfl) rfl hc3 ?_
      refine zo_iconst (p' := 12) (v := 0) (zi_57 rfl) rfl rfl ?_
      have g5 := Option.some.inj g4
      subst g5
      exact zo_iret (zi_57 rfl) rfl ⟨rfl, rfl⟩
    · rw [if_neg hc3] at g4
      refine zo_ifF (p' := 7) (zi_57 rfl) rfl rfl hc3 ?_
      refine zo_iconst (p' := 8) (v := 1) (zi_57 rfl) rfl rfl ?_
      refine zo_goto (p' := 12) (zi_57 rfl) rfl ?_
      have g6 := Option.some.inj g4
      subst g6
      exact zo_iret (zi_57 rfl) rfl ⟨rfl, rfl⟩
  · rw [if_neg hok] at h; cases h
/-- SlateHalves.worthIn(LSlateHalves$Yard;LSlateHalves$Block;)I -/
def f_58 (M : ZMem) (o : Nat) (a0 : Option Nat) (a1 : Option Nat) : Option (Int32 × ZMem) := if zok M 11 o = true then (zb (zgr M 11 11 o) fun r1 => zb a0 fun q3 => zb (zgi M 10 3 q3) fun x4 => zb (f_20 M o) fun r6 => zb r1 fun q8 => zb (f_28 M q8 a1 x4 r6) fun M11 => zb (zgr M11 11 11 o) fun r12 => zb a1 fun q14 => zb (zgi M11 1 3 q14) fun x15 => zb r12 fun q17 => zb (f_33 M11 q17 x15) fun x18 => some (x18, M11)) else none
theorem f_58_ok {M : ZMem} {o : Nat} {a0 : Option Nat} {a1 : Option Nat} {out : Int32 × ZMem} (h : f_58 M o a0 a1 = some out) : zok M 11 o = true := by
  unfold f_58 at h
  by_cases hok : zok M 11 o = true
  · exact hok
  · rw [if_neg hok] at h; cases h
set_option maxRecDepth 20000 in
theorem k_58 (d : Nat) {M : ZMem} {o : Nat} {a0 : Option Nat} {a1 : Option Nat} {out : Int32 × ZMem} (h : f_58 M o a0 a1 = some out) : zrn (d + 4) 58 [zrf (some o), zrf a0, zrf a1] M (some (.int out.1), out.2) := by
  unfold f_58 at h
  by_cases hok : zok M 11 o = true
  · rw [if_pos hok] at h
    refine zrn_of (L := [(0, zrf (some o)), (1, zrf a0), (2, zrf a1)]) (by simp [lv_args, zrf_cat, zcat_i, zcat_l, zcat_r]) ?_
    refine zo_aload_n (p' := 1) (zi_58 rfl) rfl rfl ?_
    obtain ⟨r1, hx2, g20⟩ := zb_of h
    refine zo_getR (p' := 4) (zi_58 rfl) rfl zl_1_71 hx2 ?_
    refine zo_aload_n (p' := 5) (zi_58 rfl) rfl rfl ?_
    refine zo_aload_n (p' := 6) (zi_58 rfl) rfl rfl ?_
    obtain ⟨q3, h0, g21⟩ := zb_of g20
    subst h0
    obtain ⟨x4, hx5, g22⟩ := zb_of g21
    refine zo_getI (p' := 9) (zi_58 rfl) rfl zl_1_139 hx5 ?_
    refine zo_aload_n (p' := 10) (zi_58 rfl) rfl rfl ?_
    obtain ⟨r6, hx7, g23⟩ := zb_of g22
    refine zo_callVa (p' := 13) (t := 11) (as := []) (r := [.int x4, zrf a1, zrf r1]) (zi_58 rfl) rfl zl_1_135 rfl rfl (Or.inl ⟨by decide, rfl⟩) (by simp [zrf_cat, zcat_i, zcat_l, zcat_r]) (Nat.le_of_ble_eq_true rfl) (f_20_ok hx7) (k_20 _ hx7) ?_
    obtain ⟨q8, h0, g24⟩ := zb_of g23
    subst h0
    obtain ⟨M11, hx10, g25⟩ := zb_of g24
    refine zo_callVv (p' := 16) (t := 9) (as := [zrf a1, .int x4, zrf r6]) (r := []) (zi_58 rfl) rfl zl_1_159 rfl rfl (Or.inl ⟨by decide, rfl⟩) (Nat.le_of_ble_eq_true rfl) (by rw [zml_28]; simp [lg_sl, zrf_cat, zcat_i, zcat_l, zcat_r]; done) (f_28_ok hx10) (k_28 _ hx10) ?_
    refine zo_aload_n (p' := 17) (zi_58 rfl) rfl rfl ?_
    obtain ⟨r12, hx13, g26⟩ := zb_of g25
    refine zo_getR (p' := 20) (zi_58 rfl) rfl zl_1_71 hx13 ?_
    refine zo_aload_n (p' := 21) (zi_58 rfl) rfl rfl ?_
    obtain ⟨q14, h0, g27⟩ := zb_of g26
    subst h0
    obtain ⟨x15, hx16, g28⟩ := zb_of g27
    refine zo_getI (p' := 24) (zi_58 rfl) rfl zl_1_126 hx16 ?_
    obtain ⟨q17, h0, g29⟩ := zb_of g28
    subst h0
    obtain ⟨x18, hx19, g30⟩ := zb_of g29
    refine zo_callVi (p' := 27) (t := 9) (as := [.int x15]) (r := []) (zi_58 rfl) rfl zl_1_163 rfl rfl (Or.inl ⟨by decide, rfl⟩) (Nat.le_of_ble_eq_true rfl) (Nat.le_of_ble_eq_true rfl) (f_33_ok hx19) (k_33 _ hx19) ?_
    have g31 := Option.some.inj g30
    subst g31
    exact zo_iret (zi_58 rfl) rfl ⟨rfl, rfl⟩
  · rw [if_neg hok] at h; cases h
