/-- SlateHalvesModel.dry(II)I -/
def f_148 (M : ZMem) (o : Nat) (a0 : Int32) (a1 : Int32) : Option (Int32 × ZMem) := if zok M 12 o = true then (zb (f_149 M o a0) fun x1 => if ¬ x1 = 0 then (zb (f_147 M o a1 0 99) fun x4 => if ¬ x4 = 0 then (zb (zgr M 12 6 o) fun r7 => zb r7 fun q9 => zb (zai M q9 a0) fun x10 => zb (zgr M 12 6 o) fun r12 => zb r12 fun q14 => zb (zsa M 20 q14 a0 a1) fun M15 => some (x10, M15)) else (some ((-2), M))) else (some ((-1), M))) else none
theorem f_148_ok {M : ZMem} {o : Nat} {a0 : Int32} {a1 : Int32} {out : Int32 × ZMem} (h : f_148 M o a0 a1 = some out) : zok M 12 o = true := by
  unfold f_148 at h
  by_cases hok : zok M 12 o = true
  · exact hok
  · rw [if_neg hok] at h; cases h
set_option maxRecDepth 20000 in
theorem k_148 (d : Nat) {M : ZMem} {o : Nat} {a0 : Int32} {a1 : Int32} {out : Int32 × ZMem} (h : f_148 M o a0 a1 = some out) : zrn (d + 2) 148 [zrf (some o), .int a0, .int a1] M (some (.int out.1), out.2) := by
  unfold f_148 at h
  by_cases hok : zok M 12 o = true
  · rw [if_pos hok] at h
    refine zrn_of (L := [(0, zrf (some o)), (1, .int a0), (2, .int a1)]) rfl ?_
    refine zo_aload_n (p' := 1) (zi_148 rfl) rfl rfl ?_
    refine zo_iload_n (p' := 2) (zi_148 rfl) rfl rfl ?_
    obtain ⟨x1, hx2, g17⟩ := zb_of h
    refine zo_callVi (p' := 5) (t := 12) (as := [.int a0]) (r := []) (zi_148 rfl) rfl zl_19_243 rfl rfl (Or.inl ⟨by decide, rfl⟩) (Nat.le_of_ble_eq_true rfl) (Nat.le_of_ble_eq_true rfl) (f_149_ok hx2) (k_149 _ hx2) ?_
    by_cases hc3 : ¬ x1 = 0
    · rw [if_pos hc3] at g17
      refine zo_ifT (p' := 10) (zi_148 rfl) rfl hc3 ?_
      refine zo_aload_n (p' := 11) (zi_148 rfl) rfl rfl ?_
      refine zo_iload_n (p' := 12) (zi_148 rfl) rfl rfl ?_
      refine zo_iconst (p' := 13) (v := 0) (zi_148 rfl) rfl rfl ?_
      refine zo_bipush (p' := 15) (v := 99) (zi_148 rfl) rfl rfl ?_
      obtain ⟨x4, hx5, g18⟩ := zb_of g17
      refine zo_callVi (p' := 18) (t := 12) (as := [.int a1, .int 0, .int 99]) (r := []) (zi_148 rfl) rfl zl_19_239 rfl rfl (Or.inl ⟨by decide, rfl⟩) (Nat.le_of_ble_eq_true rfl) (Nat.le_of_ble_eq_true rfl) (f_147_ok hx5) (k_147 _ hx5) ?_
      by_cases hc6 : ¬ x4 = 0
      · rw [if_pos hc6] at g18
        refine zo_ifT (p' := 24) (zi_148 rfl) rfl hc6 ?_
        refine zo_aload_n (p' := 25) (zi_148 rfl) rfl rfl ?_
        obtain ⟨r7, hx8, g19⟩ := zb_of g18
        refine zo_getR (p' := 28) (zi_148 rfl) rfl zl_19_29 hx8 ?_
        refine zo_iload_n (p' := 29) (zi_148 rfl) rfl rfl ?_
        obtain ⟨q9, h0, g20⟩ := zb_of g19
        subst h0
        obtain ⟨x10, hx11, g21⟩ := zb_of g20
        refine zo_iald (p' := 30) (zi_148 rfl) rfl hx11 ?_
        refine zo_istore_n (p' := 31) (L' := [(0, zrf (some o)), (1, .int a0), (2, .int a1), (3, .int x10)]) (zi_148 rfl) rfl zm_148_3 ⟨Or.inr ⟨by decide, rfl, fun q => absurd q (by decide)⟩, ⟨Or.inr ⟨by decide, rfl, fun q => absurd q (by decide)⟩, ⟨Or.inr ⟨by decide, rfl, fun _ => rfl⟩, ⟨Or.inl ⟨rfl, rfl⟩, trivial⟩⟩⟩⟩ ?_
        refine zo_aload_n (p' := 32) (zi_148 rfl) rfl rfl ?_
        obtain ⟨r12, hx13, g22⟩ := zb_of g21
        refine zo_getR (p' := 35) (zi_148 rfl) rfl zl_19_29 hx13 ?_
        refine zo_iload_n (p' := 36) (zi_148 rfl) rfl rfl ?_
        refine zo_iload_n (p' := 37) (zi_148 rfl) rfl rfl ?_
        obtain ⟨q14, h0, g23⟩ := zb_of g22
        subst h0
        obtain ⟨M15, hx16, g24⟩ := zb_of g23
        refine zo_iast (p' := 38) (zi_148 rfl) rfl hx16 ?_
        refine zo_iload_n (p' := 39) (zi_148 rfl) rfl rfl ?_
        have g25 := Option.some.inj g24
        subst g25
        exact zo_iret (zi_148 rfl) rfl ⟨rfl, rfl⟩
      · rw [if_neg hc6] at g18
        refine zo_ifF (p' := 21) (zi_148 rfl) rfl rfl hc6 ?_
        refine zo_bipush (p' := 23) (v := (-2)) (zi_148 rfl) rfl rfl ?_
        have g26 := Option.some.inj g18
        subst g26
        exact zo_iret (zi_148 rfl) rfl ⟨rfl, rfl⟩
    · rw [if_neg hc3] at g17
      refine zo_ifF (p' := 8) (zi_148 rfl) rfl rfl hc3 ?_
      refine zo_iconst (p' := 9) (v := (-1)) (zi_148 rfl) rfl rfl ?_
      have g27 := Option.some.inj g17
      subst g27
      exact zo_iret (zi_148 rfl) rfl ⟨rfl, rfl⟩
  · rw [if_neg hok] at h; cases h
/-- SlateHalvesModel.row(III)I -/
def f_150 (M : ZMem) (o : Nat) (a0 : Int32) (a1 : Int32) (a2 : Int32) : Option (Int32 × ZMem) := if zok M 12 o = true then (zb (f_149 M o a0) fun x1 => if x1 = 0 then (some ((-1), M)) else (zb (f_147 M o a1 0 3) fun x4 => if ¬ x4 = 0 then (zb (f_147 M o a2 0 9) fun x7 => if ¬ x7 = 0 then (zb (zgr M 12 3 o) fun r10 => zb r10 fun q12 => zb (zai M q12 a0) fun x13 => if x13 = 6 then (zb (zgr M 12 8 o) fun r16 => zb r16 fun q18 => zb (zai M q18 ((4 * a0) + a1)) fun x19 => zb (zgr M 12 8 o) fun r21 => zb r21 fun q23 => zb (zsa M 20 q23 ((4 * a0) + a1) a2) fun M24 => some (x19, M24)) else (some ((-3), M))) else (some ((-2), M))) else (some ((-1), M)))) else none
theorem f_150_ok {M : ZMem} {o : Nat} {a0 : Int32} {a1 : Int32} {a2 : Int32} {out : Int32 × ZMem} (h : f_150 M o a0 a1 a2 = some out) : zok M 12 o = true := by
  unfold f_150 at h
  by_cases hok : zok M 12 o = true
  · exact hok
  · rw [if_neg hok] at h; cases h
set_option maxRecDepth 20000 in
theorem k_150 (d : Nat) {M : ZMem} {o : Nat} {a0 : Int32} {a1 : Int32} {a2 : Int32} {out : Int32 × ZMem} (h : f_150 M o a0 a1 a2 = some out) : zrn (d + 2) 150 [zrf (some o), .int a0, .int a1, .int a2] M (some (.int out.1), out.2) := by
  unfold f_150 at h
  by_cases hok : zok M 12 o = true
  · rw [if_pos hok] at h
    refine zrn_of (L := [(0, zrf (some o)), (1, .int a0), (2, .int a1), (3, .int a2)]) rfl ?_
    refine zo_aload_n (p' := 1) (zi_150 rfl) rfl rfl ?_
    refine zo_iload_n (p' := 2) (zi_150 rfl) rfl rfl ?_
    obtain ⟨x1, hx2, g26⟩ := zb_of h
    refine zo_callVi (p' := 5) (t := 12) (as := [.int a0]) (r := []) (zi_150 rfl) rfl zl_19_243 rfl rfl (Or.inl ⟨by decide, rfl⟩) (Nat.le_of_ble_eq_true rfl) (Nat.le_of_ble_eq_true rfl) (f_149_ok hx2) (k_149 _ hx2) ?_
    by_cases hc3 : x1 = 0
    · rw [if_pos hc3] at g26
      refine zo_ifT (p' := 18) (zi_150 rfl) rfl hc3 ?_
      refine zo_iconst (p' := 19) (v := (-1)) (zi_150 rfl) rfl rfl ?_
      have g27 := Option.some.inj g26
      subst g27
      exact zo_iret (zi_150 rfl) rfl ⟨rfl, rfl⟩
    · rw [if_neg hc3] at g26
      refine zo_ifF (p' := 8) (zi_150 rfl) rfl rfl hc3 ?_
      refine zo_aload_n (p' := 9) (zi_150 rfl) rfl rfl ?_
      refine zo_iload_n (p' := 10) (zi_150 rfl) rfl rfl ?_
      refine zo_iconst (p' := 11) (v := 0) (zi_150 rfl) rfl rfl ?_
      refine zo_iconst (p' := 12) (v := 3) (zi_150 rfl) rfl rfl ?_
      obtain ⟨x4, hx5, g28⟩ := zb_of g26
      refine zo_callVi (p' := 15) (t := 12) (as := [.int a1, .int 0, .int 3]) (r := []) (zi_150 rfl) rfl zl_19_239 rfl rfl (Or.inl ⟨by decide, rfl⟩) (Nat.le_of_ble_eq_true rfl) (Nat.le_of_ble_eq_true rfl) (f_147_ok hx5) (k_147 _ hx5) ?_
      by_cases hc6 : ¬ x4 = 0
      · rw [if_pos hc6] at g28
        refine zo_ifT (p' := 20) (zi_150 rfl) rfl hc6 ?_
        refine zo_aload_n (p' := 21) (zi_150 rfl) rfl rfl ?_
        refine zo_iload_n (p' := 22) (zi_150 rfl) rfl rfl ?_
        refine zo_iconst (p' := 23) (v := 0) (zi_150 rfl) rfl rfl ?_
        refine zo_bipush (p' := 25) (v := 9) (zi_150 rfl) rfl rfl ?_
        obtain ⟨x7, hx8, g29⟩ := zb_of g28
        refine zo_callVi (p' := 28) (t := 12) (as := [.int a2, .int 0, .int 9]) (r := []) (zi_150 rfl) rfl zl_19_239 rfl rfl (Or.inl ⟨by decide, rfl⟩) (Nat.le_of_ble_eq_true rfl) (Nat.le_of_ble_eq_true rfl) (f_147_ok hx8) (k_147 _ hx8) ?_
        by_cases hc9 : ¬ x7 = 0
        · rw [if_pos hc9] at g29
          refine zo_ifT (p' := 34) (zi_150 rfl) rfl hc9 ?_
          refine zo_aload_n (p' := 35) (zi_150 rfl) rfl rfl ?_
          obtain ⟨r10, hx11, g30⟩ := zb_of g29
          refine zo_getR (p' := 38) (zi_150 rfl) rfl zl_19_19 hx11 ?_
          refine zo_iload_n (p' := 39) (zi_150 rfl) rfl rfl ?_
          obtain ⟨q12, h0, g31⟩ := zb_of g30
          subst h0
          obtain ⟨x13, hx14, g32⟩ := zb_of g31
          refine zo_iald (p' := 40) (zi_150 rfl) rfl hx14 ?_
          refine zo_bipush (p' := 42) (v := 6) (zi_150 rfl) rfl rfl ?_
          by_cases hc15 : x13 = 6
          · rw [if_pos hc15] at g32
            refine zo_icT (p' := 48) (zi_150 rfl) rfl hc15 ?_
            refine zo_aload_n (p' := 49) (zi_150 rfl) rfl rfl ?_
            obtain ⟨r16, hx17, g33⟩ := zb_of g32
            refine zo_getR (p' := 52) (zi_150 rfl) rfl zl_19_35 hx17 ?_
            refine zo_iconst (p' := 53) (v := 4) (zi_150 rfl) rfl rfl ?_
            refine zo_iload_n (p' := 54) (zi_150 rfl) rfl rfl ?_
            refine zo_imul (p' := 55) (zi_150 rfl) rfl ?_
            refine zo_iload_n (p' := 56) (zi_150 rfl) rfl rfl ?_
            refine zo_iadd (p' := 57) (zi_150 rfl) rfl ?_
            obtain ⟨q18, h0, g34⟩ := zb_of g33
            subst h0
            obtain ⟨x19, hx20, g35⟩ := zb_of g34
            refine zo_iald (p' := 58) (zi_150 rfl) rfl hx20 ?_
            refine zo_istore (p' := 60) (L' := [(0, zrf (some o)), (1, .int a0), (2, .int a1), (3, .int a2), (4, .int x19)]) (zi_150 rfl) rfl zm_150_4 ⟨Or.inr ⟨by decide, rfl, fun q => absurd q (by decide)⟩, ⟨Or.inr ⟨by decide, rfl, fun q => absurd q (by decide)⟩, ⟨Or.inr ⟨by decide, rfl, fun q => absurd q (by decide)⟩, ⟨Or.inr ⟨by decide, rfl, fun _ => rfl⟩, ⟨Or.inl ⟨rfl, rfl⟩, trivial⟩⟩⟩⟩⟩ ?_
            refine zo_aload_n (p' := 61) (zi_150 rfl) rfl rfl ?_
            obtain ⟨r21, hx22, g36⟩ := zb_of g35
            refine zo_getR (p' := 64) (zi_150 rfl) rfl zl_19_35 hx22 ?_
            refine zo_iconst (p' := 65) (v := 4) (zi_150 rfl) rfl rfl ?_
            refine zo_iload_n (p' := 66) (zi_150 rfl) rfl rfl ?_
            refine zo_imul (p' := 67) (zi_150 rfl) rfl ?_
            refine zo_iload_n (p' := 68) (zi_150 rfl) rfl rfl ?_
            refine zo_iadd (p' := 69) (zi_150 rfl) rfl ?_
            refine zo_iload_n (p' := 70) (zi_150 rfl) rfl rfl ?_
            obtain ⟨q23, h0, g37⟩ := zb_of g36
            subst h0
            obtain ⟨M24, hx25, g38⟩ := zb_of g37
            refine zo_iast (p' := 71) (zi_150 rfl) rfl hx25 ?_
            refine zo_iload (p' := 73) (zi_150 rfl) rfl rfl ?_
            have g39 := Option.some.inj g38
            subst g39
            exact zo_iret (zi_150 rfl) rfl ⟨rfl, rfl⟩
          · rw [if_neg hc15] at g32
            refine zo_icF (p' := 45) (zi_150 rfl) rfl rfl hc15 ?_
            refine zo_bipush (p' := 47) (v := (-3)) (zi_150 rfl) rfl rfl ?_
            have g40 := Option.some.inj g32
            subst g40
            exact zo_iret (zi_150 rfl) rfl ⟨rfl, rfl⟩
        · rw [if_neg hc9] at g29
          refine zo_ifF (p' := 31) (zi_150 rfl) rfl rfl hc9 ?_
          refine zo_bipush (p' := 33) (v := (-2)) (zi_150 rfl) rfl rfl ?_
          have g41 := Option.some.inj g29
          subst g41
          exact zo_iret (zi_150 rfl) rfl ⟨rfl, rfl⟩
      · rw [if_neg hc6] at g28
        refine zo_ifF (p' := 18) (zi_150 rfl) rfl rfl hc6 ?_
        refine zo_iconst (p' := 19) (v := (-1)) (zi_150 rfl) rfl rfl ?_
        have g42 := Option.some.inj g28
        subst g42
        exact zo_iret (zi_150 rfl) rfl ⟨rfl, rfl⟩
  · rw [if_neg hok] at h; cases h
/-- SlateHalvesModel.feed(I)I -/
def f_151 (M : ZMem) (o : Nat) (a0 : Int32) : Option (Int32 × ZMem) := if zok M 12 o = true then (zb (f_147 M o a0 0 127) fun x1 => if ¬ x1 = 0 then (zb (zgi M 12 11 o) fun x4 => if ¬ x4 = 100 then (zb (zgr M 12 14 o) fun r7 => zb (zgi M 12 11 o) fun x9 => zb r7 fun q11 => zb (zsa M 20 q11 x9 a0) fun M12 => zb (zgi M12 12 11 o) fun x14 => zb (zpf M12 12 11 o (.int ((x14 + 1))) false) fun M16 => zb (zgi M16 12 11 o) fun x18 => some (x18, M16)) else (some ((-4), M))) else (some ((-2), M))) else none
theorem f_151_ok {M : ZMem} {o : Nat} {a0 : Int32} {out : Int32 × ZMem} (h : f_151 M o a0 = some out) : zok M 12 o = true := by
  unfold f_151 at h
  by_cases hok : zok M 12 o = true
  · exact hok
  · rw [if_neg hok] at h; cases h
set_option maxRecDepth 20000 in
theorem k_151 (d : Nat) {M : ZMem} {o : Nat} {a0 : Int32} {out : Int32 × ZMem} (h : f_151 M o a0 = some out) : zrn (d + 1) 151 [zrf (some o), .int a0] M (some (.int out.1), out.2) := by
  unfold f_151 at h
  by_cases hok : zok M 12 o = true
  · rw [if_pos hok] at h
    refine zrn_of (L := [(0, zrf (some o)), (1, .int a0)]) rfl ?_
    refine zo_aload_n (p' := 1) (zi_151 rfl) rfl rfl ?_
    refine zo_iload_n (p' := 2) (zi_151 rfl) rfl rfl ?_
    refine zo_iconst (p' := 3) (v := 0) (zi_151 rfl) rfl rfl ?_
    refine zo_bipush (p' := 5) (v := 127) (zi_151 rfl) rfl rfl ?_
    obtain ⟨x1, hx2, g20⟩ := zb_of h
    refine zo_callVi (p' := 8) (t := 12) (as := [.int a0, .int 0, .int 127]) (r := []) (zi_151 rfl) rfl zl_19_239 rfl rfl (Or.inl ⟨by decide, rfl⟩) (Nat.le_of_ble_eq_true rfl) (Nat.le_of_ble_eq_true rfl) (f_147_ok hx2) (k_147 _ hx2) ?_
    by_cases hc3 : ¬ x1 = 0
    · rw [if_pos hc3] at g20
      refine zo_ifT (p' := 14) (zi_151 rfl) rfl hc3 ?_
      refine zo_aload_n (p' := 15) (zi_151 rfl) rfl rfl ?_
      obtain ⟨x4, hx5, g21⟩ := zb_of g20
      refine zo_getI (p' := 18) (zi_151 rfl) rfl zl_19_44 hx5 ?_
      refine zo_bipush (p' := 20) (v := 100) (zi_151 rfl) rfl rfl ?_
      by_cases hc6 : ¬ x4 = 100
      · rw [if_pos hc6] at g21
        refine zo_icT (p' := 26) (zi_151 rfl) rfl hc6 ?_
        refine zo_aload_n (p' := 27) (zi_151 rfl) rfl rfl ?_
        obtain ⟨r7, hx8, g22⟩ := zb_of g21
        refine zo_getR (p' := 30) (zi_151 rfl) rfl zl_19_53 hx8 ?_
        refine zo_aload_n (p' := 31) (zi_151 rfl) rfl rfl ?_
        obtain ⟨x9, hx10, g23⟩ := zb_of g22
        refine zo_getI (p' := 34) (zi_151 rfl) rfl zl_19_44 hx10 ?_
        refine zo_iload_n (p' := 35) (zi_151 rfl) rfl rfl ?_
        obtain ⟨q11, h0, g24⟩ := zb_of g23
        subst h0
        obtain ⟨M12, hx13, g25⟩ := zb_of g24
        refine zo_iast (p' := 36) (zi_151 rfl) rfl hx13 ?_
        refine zo_aload_n (p' := 37) (zi_151 rfl) rfl rfl ?_
        refine zo_dup (p' := 38) (zi_151 rfl) rfl (zrf_cat _) ?_
        obtain ⟨x14, hx15, g26⟩ := zb_of g25
        refine zo_getI (p' := 41) (zi_151 rfl) rfl zl_19_44 hx15 ?_
        refine zo_iconst (p' := 42) (v := 1) (zi_151 rfl) rfl rfl ?_
        refine zo_iadd (p' := 43) (zi_151 rfl) rfl ?_
        obtain ⟨M16, hx17, g27⟩ := zb_of g26
        refine zo_putI (p' := 46) (zi_151 rfl) rfl zl_19_44 (zpb_151 _) hx17 ?_
        refine zo_aload_n (p' := 47) (zi_151 rfl) rfl rfl ?_
        obtain ⟨x18, hx19, g28⟩ := zb_of g27
        refine zo_getI (p' := 50) (zi_151 rfl) rfl zl_19_44 hx19 ?_
        have g29 := Option.some.inj g28
        subst g29
        exact zo_iret (zi_151 rfl) rfl ⟨rfl, rfl⟩
      · rw [if_neg hc6] at g21
        refine zo_icF (p' := 23) (zi_151 rfl) rfl rfl hc6 ?_
        refine zo_bipush (p' := 25) (v := (-4)) (zi_151 rfl) rfl rfl ?_
        have g30 := Option.some.inj g21
        subst g30
        exact zo_iret (zi_151 rfl) rfl ⟨rfl, rfl⟩
    · rw [if_neg hc3] at g20
      refine zo_ifF (p' := 11) (zi_151 rfl) rfl rfl hc3 ?_
      refine zo_bipush (p' := 13) (v := (-2)) (zi_151 rfl) rfl rfl ?_
      have g31 := Option.some.inj g20
      subst g31
      exact zo_iret (zi_151 rfl) rfl ⟨rfl, rfl⟩
  · rw [if_neg hok] at h; cases h
/-- SlateHalvesModel.next()I -/
def f_156 (M : ZMem) (o : Nat) : Option (Int32) := if zok M 12 o = true then (zb (zgi M 12 12 o) fun x1 => zb (zgi M 12 11 o) fun x3 => if x3 ≤ x1 then (some (-1)) else (zb (zgr M 12 14 o) fun r6 => zb (zgi M 12 12 o) fun x8 => zb r6 fun q10 => zb (zai M q10 x8) fun x11 => some x11)) else none
theorem f_156_ok {M : ZMem} {o : Nat} {out : Int32} (h : f_156 M o = some out) : zok M 12 o = true := by
  unfold f_156 at h
  by_cases hok : zok M 12 o = true
  · exact hok
  · rw [if_neg hok] at h; cases h
set_option maxRecDepth 20000 in
theorem k_156 (d : Nat) {M : ZMem} {o : Nat} {out : Int32} (h : f_156 M o = some out) : zrn (d) 156 [zrf (some o)] M (some (.int out), M) := by
  unfold f_156 at h
  by_cases hok : zok M 12 o = true
  · rw [if_pos hok] at h
    refine zrn_of (L := [(0, zrf (some o))]) rfl ?_
    refine zo_aload_n (p' := 1) (zi_156 rfl) rfl rfl ?_
    obtain ⟨x1, hx2, g13⟩ := zb_of h
    refine zo_getI (p' := 4) (zi_156 rfl) rfl zl_19_47 hx2 ?_
    refine zo_aload_n (p' := 5) (zi_156 rfl) rfl rfl ?_
    obtain ⟨x3, hx4, g14⟩ := zb_of g13
    refine zo_getI (p' := 8) (zi_156 rfl) rfl zl_19_44 hx4 ?_
    by_cases hc5 : x3 ≤ x1
    · rw [if_pos hc5] at g14
      refine zo_icT (p' := 23) (zi_156 rfl) rfl hc5 ?_
      refine zo_iconst (p' := 24) (v := (-1)) (zi_156 rfl) rfl rfl ?_
      have g15 := Option.some.inj g14
      subst g15
      exact zo_iret (zi_156 rfl) rfl ⟨rfl, rfl⟩
    · rw [if_neg hc5] at g14
      refine zo_icF (p' := 11) (zi_156 rfl) rfl rfl hc5 ?_
      refine zo_aload_n (p' := 12) (zi_156 rfl) rfl rfl ?_
      obtain ⟨r6, hx7, g16⟩ := zb_of g14
      refine zo_getR (p' := 15) (zi_156 rfl) rfl zl_19_53 hx7 ?_
      refine zo_aload_n (p' := 16) (zi_156 rfl) rfl rfl ?_
      obtain ⟨x8, hx9, g17⟩ := zb_of g16
      refine zo_getI (p' := 19) (zi_156 rfl) rfl zl_19_47 hx9 ?_
      obtain ⟨q10, h0, g18⟩ := zb_of g17
      subst h0
      obtain ⟨x11, hx12, g19⟩ := zb_of g18
      refine zo_iald (p' := 20) (zi_156 rfl) rfl hx12 ?_
      refine zo_goto (p' := 24) (zi_156 rfl) rfl ?_
      have g20 := Option.some.inj g19
      subst g20
      exact zo_iret (zi_156 rfl) rfl ⟨rfl, rfl⟩
  · rw [if_neg hok] at h; cases h
/-- SlateHalvesModel.takes(I)Z -/
def f_158 (M : ZMem) (o : Nat) (a0 : Int32) : Option (Int32 × ZMem) := if zok M 12 o = true then (zb (f_156 M o) fun x1 => if x1 = a0 then (zb (zgi M 12 12 o) fun x4 => zb (zpf M 12 12 o (.int ((x4 + 1))) false) fun M6 => some (1, M6)) else (some (0, M))) else none
theorem f_158_ok {M : ZMem} {o : Nat} {a0 : Int32} {out : Int32 × ZMem} (h : f_158 M o a0 = some out) : zok M 12 o = true := by
  unfold f_158 at h
  by_cases hok : zok M 12 o = true
  · exact hok
  · rw [if_neg hok] at h; cases h
set_option maxRecDepth 20000 in
theorem k_158 (d : Nat) {M : ZMem} {o : Nat} {a0 : Int32} {out : Int32 × ZMem} (h : f_158 M o a0 = some out) : zrn (d + 1) 158 [zrf (some o), .int a0] M (some (.int out.1), out.2) := by
  unfold f_158 at h
  by_cases hok : zok M 12 o = true
  · rw [if_pos hok] at h
    refine zrn_of (L := [(0, zrf (some o)), (1, .int a0)]) rfl ?_
    refine zo_aload_n (p' := 1) (zi_158 rfl) rfl rfl ?_
    obtain ⟨x1, hx2, g8⟩ := zb_of h
    refine zo_callVi (p' := 4) (t := 12) (as := []) (r := []) (zi_158 rfl) rfl zl_19_247 rfl rfl (Or.inl ⟨by decide, rfl⟩) (Nat.le_of_ble_eq_true rfl) (Nat.le_of_ble_eq_true rfl) (f_156_ok hx2) (k_156 _ hx2) ?_
    refine zo_iload_n (p' := 5) (zi_158 rfl) rfl rfl ?_
    by_cases hc3 : x1 = a0
    · rw [if_pos hc3] at g8
      refine zo_icT (p' := 10) (zi_158 rfl) rfl hc3 ?_
      refine zo_aload_n (p' := 11) (zi_158 rfl) rfl rfl ?_
      refine zo_dup (p' := 12) (zi_158 rfl) rfl (zrf_cat _) ?_
      obtain ⟨x4, hx5, g9⟩ := zb_of g8
      refine zo_getI (p' := 15) (zi_158 rfl) rfl zl_19_47 hx5 ?_
      refine zo_iconst (p' := 16) (v := 1) (zi_158 rfl) rfl rfl ?_
      refine zo_iadd (p' := 17) (zi_158 rfl) rfl ?_
      obtain ⟨M6, hx7, g10⟩ := zb_of g9
      refine zo_putI (p' := 20) (zi_158 rfl) rfl zl_19_47 (zpb_158 _) hx7 ?_
      refine zo_iconst (p' := 21) (v := 1) (zi_158 rfl) rfl rfl ?_
      have g11 := Option.some.inj g10
      subst g11
      exact zo_iret (zi_158 rfl) rfl ⟨rfl, rfl⟩
    · rw [if_neg hc3] at g8
      refine zo_icF (p' := 8) (zi_158 rfl) rfl rfl hc3 ?_
      refine zo_iconst (p' := 9) (v := 0) (zi_158 rfl) rfl rfl ?_
      have g12 := Option.some.inj g8
      subst g12
      exact zo_iret (zi_158 rfl) rfl ⟨rfl, rfl⟩
  · rw [if_neg hok] at h; cases h
/-- SlateHalvesModel.takesWord(II)Z -/
def f_157_2 : Nat → ZMem → Nat → Int32 → Int32 → Int32 → Option (Int32 × ZMem)
  | 0, _, _, _, _, _ => none
  | z + 1, M, o, b1, b2, b3 => if b2 ≤ b3 then (zbd (f_158 M o 32) fun x2 M4 => if narrow .boolean (.int x2) = .int x2 then some (x2, M4) else none) else (zb (zgr M 12 25 o) fun r6 => zb r6 fun q8 => zb (zai M q8 (b1 + b3)) fun x9 => zbd (f_158 M o x9) fun x11 M13 => if ¬ x11 = 0 then (f_157_2 z M13 o b1 b2 ((b3 + 1))) else (some (0, M13)))
set_option maxRecDepth 20000 in
theorem k_157_2 (d : Nat) : ∀ (z : Nat) (M : ZMem) (o : Nat) (b1 : Int32) (b2 : Int32) (b3 : Int32) (out : Int32 × ZMem), f_157_2 z M o b1 b2 b3 = some out → zgo none (d + 2) 157 2 [(0, zrf (some o)), (1, .int b1), (2, .int b2), (3, .int b3)] [] M (some (.int out.1), out.2) := by
  intro z
  induction z with
  | zero => intro M o b1 b2 b3 out h; cases h
  | succ z ih =>
    intro M o b1 b2 b3 out h
    rw [f_157_2] at h
    refine zo_iload_n (p' := 3) (zi_157 rfl) rfl rfl ?_
    refine zo_iload_n (p' := 4) (zi_157 rfl) rfl rfl ?_
    by_cases hc1 : b2 ≤ b3
    · rw [if_pos hc1] at h
      refine zo_icT (p' := 30) (zi_157 rfl) rfl hc1 ?_
      refine zo_aload_n (p' := 31) (zi_157 rfl) rfl rfl ?_
      refine zo_bipush (p' := 33) (v := 32) (zi_157 rfl) rfl rfl ?_
      obtain ⟨x2, M4, hx3, g15⟩ := zbd_of h
      refine zo_callVi (p' := 36) (t := 12) (as := [.int 32]) (r := []) (zi_157 rfl) rfl zl_19_251 rfl rfl (Or.inl ⟨by decide, rfl⟩) (Nat.le_of_ble_eq_true rfl) (Nat.le_of_ble_eq_true rfl) (f_158_ok hx3) (k_158 _ hx3) ?_
      by_cases hr5 : narrow .boolean (.int x2) = .int x2
      · rw [if_pos hr5] at g15
        have g16 := Option.some.inj g15
        subst g16
        exact zo_iret (zi_157 rfl) rfl ⟨rfl, hr5⟩
      · rw [if_neg hr5] at g15; cases g15
    · rw [if_neg hc1] at h
      refine zo_icF (p' := 7) (zi_157 rfl) rfl rfl hc1 ?_
      refine zo_aload_n (p' := 8) (zi_157 rfl) rfl rfl ?_
      refine zo_aload_n (p' := 9) (zi_157 rfl) rfl rfl ?_
      obtain ⟨r6, hx7, g17⟩ := zb_of h
      refine zo_getR (p' := 12) (zi_157 rfl) rfl zl_19_86 hx7 ?_
      refine zo_iload_n (p' := 13) (zi_157 rfl) rfl rfl ?_
      refine zo_iload_n (p' := 14) (zi_157 rfl) rfl rfl ?_
      refine zo_iadd (p' := 15) (zi_157 rfl) rfl ?_
      obtain ⟨q8, h0, g18⟩ := zb_of g17
      subst h0
      obtain ⟨x9, hx10, g19⟩ := zb_of g18
      refine zo_iald (p' := 16) (zi_157 rfl) rfl hx10 ?_
      obtain ⟨x11, M13, hx12, g20⟩ := zbd_of g19
      refine zo_callVi (p' := 19) (t := 12) (as := [.int x9]) (r := []) (zi_157 rfl) rfl zl_19_251 rfl rfl (Or.inl ⟨by decide, rfl⟩) (Nat.le_of_ble_eq_true rfl) (Nat.le_of_ble_eq_true rfl) (f_158_ok hx12) (k_158 _ hx12) ?_
      by_cases hc14 : ¬ x11 = 0
      · rw [if_pos hc14] at g20
        refine zo_ifT (p' := 24) (zi_157 rfl) rfl hc14 ?_
        refine zo_iinc (p' := 27) (v := (b3 + 1)) (L' := [(0, zrf (some o)), (1, .int b1), (2, .int b2), (3, .int ((b3 + 1)))]) (zi_157 rfl) rfl zm_157_3 rfl rfl ⟨Or.inr ⟨by decide, rfl, fun q => absurd q (by decide)⟩, ⟨Or.inr ⟨by decide, rfl, fun q => absurd q (by decide)⟩, ⟨Or.inr ⟨by decide, rfl, fun _ => rfl⟩, ⟨Or.inl ⟨rfl, rfl⟩, trivial⟩⟩⟩⟩ ?_
        refine zo_goto (p' := 2) (zi_157 rfl) rfl ?_
        refine zgo_sub (L' := [(0, zrf (some o)), (1, .int b1), (2, .int b2), (3, .int (((b3 + 1))))]) (⟨rfl, rfl, rfl, rfl, trivial⟩) ?_
        exact ih M13 o b1 b2 ((b3 + 1)) _ g20
      · rw [if_neg hc14] at g20
        refine zo_ifF (p' := 22) (zi_157 rfl) rfl rfl hc14 ?_
        refine zo_iconst (p' := 23) (v := 0) (zi_157 rfl) rfl rfl ?_
        have g21 := Option.some.inj g20
        subst g21
        exact zo_iret (zi_157 rfl) rfl ⟨rfl, rfl⟩
def f_157 (M : ZMem) (o : Nat) (a0 : Int32) (a1 : Int32) : Option (Int32 × ZMem) := if zok M 12 o = true then (f_157_2 zF M o a0 a1 0) else none
theorem f_157_ok {M : ZMem} {o : Nat} {a0 : Int32} {a1 : Int32} {out : Int32 × ZMem} (h : f_157 M o a0 a1 = some out) : zok M 12 o = true := by
  unfold f_157 at h
  by_cases hok : zok M 12 o = true
  · exact hok
  · rw [if_neg hok] at h; cases h
set_option maxRecDepth 20000 in
theorem k_157 (d : Nat) {M : ZMem} {o : Nat} {a0 : Int32} {a1 : Int32} {out : Int32 × ZMem} (h : f_157 M o a0 a1 = some out) : zrn (d + 2) 157 [zrf (some o), .int a0, .int a1] M (some (.int out.1), out.2) := by
  unfold f_157 at h
  by_cases hok : zok M 12 o = true
  · rw [if_pos hok] at h
    refine zrn_of (L := [(0, zrf (some o)), (1, .int a0), (2, .int a1)]) rfl ?_
    refine zo_iconst (p' := 1) (v := 0) (zi_157 rfl) rfl rfl ?_
    refine zo_istore_n (p' := 2) (L' := [(0, zrf (some o)), (1, .int a0), (2, .int a1), (3, .int 0)]) (zi_157 rfl) rfl zm_157_3 ⟨Or.inr ⟨by decide, rfl, fun q => absurd q (by decide)⟩, ⟨Or.inr ⟨by decide, rfl, fun q => absurd q (by decide)⟩, ⟨Or.inr ⟨by decide, rfl, fun _ => rfl⟩, ⟨Or.inl ⟨rfl, rfl⟩, trivial⟩⟩⟩⟩ ?_
    refine zgo_sub (L' := [(0, zrf (some o)), (1, .int a0), (2, .int a1), (3, .int 0)]) (⟨rfl, rfl, rfl, rfl, trivial⟩) ?_
    exact k_157_2 _ zF M o a0 a1 0 _ h
  · rw [if_neg hok] at h; cases h
/-- SlateHalvesModel.takesHead(I)Z -/
def f_155_122 (M : ZMem) (o : Nat) (b1 : Int32) (b2 : Int32) (b3 : Int32) (b4 : Option Nat) : Option (Int32 × ZMem) := zb b4 fun q71 => zb (zsa M 20 q71 b3 b2) fun M72 => zb (zgr M72 12 16 o) fun r74 => zb r74 fun q76 => zb (zai M72 q76 b1) fun x77 => if ¬ x77 = 3 then (zbd (f_157 M72 o 9 4) fun x80 M82 => if narrow .boolean (.int x80) = .int x80 then some (x80, M82) else none) else (zbd (f_157 M72 o 13 5) fun x84 M86 => if narrow .boolean (.int x84) = .int x84 then some (x84, M86) else none)
def f_155_121 (M : ZMem) (o : Nat) (b1 : Int32) (b2 : Int32) (b3 : Option Nat) : Option (Int32 × ZMem) := f_155_122 M o b1 2 b2 b3
set_option maxRecDepth 20000 in
theorem k_155_122 (d : Nat) : ∀ (M : ZMem) (o : Nat) (b1 : Int32) (b2 : Int32) (b3 : Int32) (b4 : Option Nat) (out : Int32 × ZMem), f_155_122 M o b1 b2 b3 b4 = some out → zgo none (d + 3) 155 122 [(0, zrf (some o)), (1, .int b1)] [.int b2, .int b3, zrf b4] M (some (.int out.1), out.2) := by
  intro M o b1 b2 b3 b4 out h
  unfold f_155_122 at h
  obtain ⟨q71, h0, g88⟩ := zb_of h
  subst h0
  obtain ⟨M72, hx73, g89⟩ := zb_of g88
  refine zo_iast (p' := 123) (zi_155 rfl) rfl hx73 ?_
  refine zo_aload_n (p' := 124) (zi_155 rfl) rfl rfl ?_
  obtain ⟨r74, hx75, g90⟩ := zb_of g89
  refine zo_getR (p' := 127) (zi_155 rfl) rfl zl_19_59 hx75 ?_
  refine zo_iload_n (p' := 128) (zi_155 rfl) rfl rfl ?_
  obtain ⟨q76, h0, g91⟩ := zb_of g90
  subst h0
  obtain ⟨x77, hx78, g92⟩ := zb_of g91
  refine zo_iald (p' := 129) (zi_155 rfl) rfl hx78 ?_
  refine zo_iconst (p' := 130) (v := 3) (zi_155 rfl) rfl rfl ?_
  by_cases hc79 : ¬ x77 = 3
  · rw [if_pos hc79] at g92
    refine zo_icT (p' := 143) (zi_155 rfl) rfl hc79 ?_
    refine zo_aload_n (p' := 144) (zi_155 rfl) rfl rfl ?_
    refine zo_bipush (p' := 146) (v := 9) (zi_155 rfl) rfl rfl ?_
    refine zo_iconst (p' := 147) (v := 4) (zi_155 rfl) rfl rfl ?_
    obtain ⟨x80, M82, hx81, g93⟩ := zbd_of g92
    refine zo_callVi (p' := 150) (t := 12) (as := [.int 9, .int 4]) (r := []) (zi_155 rfl) rfl zl_19_278 rfl rfl (Or.inl ⟨by decide, rfl⟩) (Nat.le_of_ble_eq_true rfl) (Nat.le_of_ble_eq_true rfl) (f_157_ok hx81) (k_157 _ hx81) ?_
    by_cases hr83 : narrow .boolean (.int x80) = .int x80
    · rw [if_pos hr83] at g93
      have g94 := Option.some.inj g93
      subst g94
      exact zo_iret (zi_155 rfl) rfl ⟨rfl, hr83⟩
    · rw [if_neg hr83] at g93; cases g93
  · rw [if_neg hc79] at g92
    refine zo_icF (p' := 133) (zi_155 rfl) rfl rfl hc79 ?_
    refine zo_aload_n (p' := 134) (zi_155 rfl) rfl rfl ?_
    refine zo_bipush (p' := 136) (v := 13) (zi_155 rfl) rfl rfl ?_
    refine zo_iconst (p' := 137) (v := 5) (zi_155 rfl) rfl rfl ?_
    obtain ⟨x84, M86, hx85, g95⟩ := zbd_of g92
    refine zo_callVi (p' := 140) (t := 12) (as := [.int 13, .int 5]) (r := []) (zi_155 rfl) rfl zl_19_278 rfl rfl (Or.inl ⟨by decide, rfl⟩) (Nat.le_of_ble_eq_true rfl) (Nat.le_of_ble_eq_true rfl) (f_157_ok hx85) (k_157 _ hx85) ?_
    refine zo_goto (p' := 150) (zi_155 rfl) rfl ?_
    by_cases hr87 : narrow .boolean (.int x84) = .int x84
    · rw [if_pos hr87] at g95
      have g96 := Option.some.inj g95
      subst g96
      exact zo_iret (zi_155 rfl) rfl ⟨rfl, hr87⟩
    · rw [if_neg hr87] at g95; cases g95
set_option maxRecDepth 20000 in
theorem k_155_121 (d : Nat) : ∀ (M : ZMem) (o : Nat) (b1 : Int32) (b2 : Int32) (b3 : Option Nat) (out : Int32 × ZMem), f_155_121 M o b1 b2 b3 = some out → zgo none (d + 3) 155 121 [(0, zrf (some o)), (1, .int b1)] [.int b2, zrf b3] M (some (.int out.1), out.2) := by
  intro M o b1 b2 b3 out h
  unfold f_155_121 at h
  refine zo_iconst (p' := 122) (v := 2) (zi_155 rfl) rfl rfl ?_
  refine zgo_sub (L' := [(0, zrf (some o)), (1, .int b1)]) (⟨rfl, rfl, trivial⟩) ?_
  exact k_155_122 _ M o b1 2 b2 b3 _ h
def f_155 (M : ZMem) (o : Nat) (a0 : Int32) : Option (Int32 × ZMem) := if zok M 12 o = true then (zb (f_156 M o) fun x1 => if x1 = 99 then (zb (zgr M 12 16 o) fun r6 => zb r6 fun q8 => zb (zsa M 20 q8 a0 1) fun M9 => zbd (f_157 M9 o 4 5) fun x11 M13 => if narrow .boolean (.int x11) = .int x11 then some (x11, M13) else none) else (if x1 = 100 then (zb (zgr M 12 16 o) fun r15 => zb r15 fun q17 => zb (zsa M 20 q17 a0 0) fun M18 => zbd (f_157 M18 o 0 4) fun x20 M22 => if narrow .boolean (.int x20) = .int x20 then some (x20, M22) else none) else (if x1 = 119 then (zb (zgr M 12 16 o) fun r24 => zb r24 fun q26 => zb (zsa M 20 q26 a0 4) fun M27 => zbd (f_157 M27 o 18 4) fun x29 M31 => if narrow .boolean (.int x29) = .int x29 then some (x29, M31) else none) else (zb (zgr M 12 16 o) fun r33 => zb (zgi M 12 12 o) fun x35 => zb (zgi M 12 11 o) fun x37 => if x37 ≤ (x35 + 3) then (f_155_121 M o a0 a0 r33) else (zb (zgr M 12 14 o) fun r40 => zb (zgi M 12 12 o) fun x42 => zb r40 fun q44 => zb (zai M q44 (x42 + 3)) fun x45 => if ¬ x45 = 99 then (f_155_121 M o a0 a0 r33) else (f_155_122 M o a0 3 a0 r33)))))) else none
theorem f_155_ok {M : ZMem} {o : Nat} {a0 : Int32} {out : Int32 × ZMem} (h : f_155 M o a0 = some out) : zok M 12 o = true := by
  unfold f_155 at h
  by_cases hok : zok M 12 o = true
  · exact hok
  · rw [if_neg hok] at h; cases h
set_option maxRecDepth 20000 in
theorem k_155 (d : Nat) {M : ZMem} {o : Nat} {a0 : Int32} {out : Int32 × ZMem} (h : f_155 M o a0 = some out) : zrn (d + 3) 155 [zrf (some o), .int a0] M (some (.int out.1), out.2) := by
  unfold f_155 at h
  by_cases hok : zok M 12 o = true
  · rw [if_pos hok] at h
    refine zrn_of (L := [(0, zrf (some o)), (1, .int a0)]) rfl ?_
    refine zo_aload_n (p' := 1) (zi_155 rfl) rfl rfl ?_
    obtain ⟨x1, hx2, g48⟩ := zb_of h
    refine zo_callVi (p' := 4) (t := 12) (as := []) (r := []) (zi_155 rfl) rfl zl_19_247 rfl rfl (Or.inl ⟨by decide, rfl⟩) (Nat.le_of_ble_eq_true rfl) (Nat.le_of_ble_eq_true rfl) (f_156_ok hx2) (k_156 _ hx2) ?_
    by_cases hc3 : x1 = 99
    · rw [if_pos hc3] at g48
      refine zo_look (p' := 54) (n := 50) (zi_155 rfl) (by decide) (zsel_hit hc3 (by decide)) rfl ?_
      refine zo_aload_n (p' := 55) (zi_155 rfl) rfl rfl ?_
      obtain ⟨r6, hx7, g49⟩ := zb_of g48
      refine zo_getR (p' := 58) (zi_155 rfl) rfl zl_19_59 hx7 ?_
      refine zo_iload_n (p' := 59) (zi_155 rfl) rfl rfl ?_
      refine zo_iconst (p' := 60) (v := 1) (zi_155 rfl) rfl rfl ?_
      obtain ⟨q8, h0, g50⟩ := zb_of g49
      subst h0
      obtain ⟨M9, hx10, g51⟩ := zb_of g50
      refine zo_iast (p' := 61) (zi_155 rfl) rfl hx10 ?_
      refine zo_aload_n (p' := 62) (zi_155 rfl) rfl rfl ?_
      refine zo_iconst (p' := 63) (v := 4) (zi_155 rfl) rfl rfl ?_
      refine zo_iconst (p' := 64) (v := 5) (zi_155 rfl) rfl rfl ?_
      obtain ⟨x11, M13, hx12, g52⟩ := zbd_of g51
      refine zo_callVi (p' := 67) (t := 12) (as := [.int 4, .int 5]) (r := []) (zi_155 rfl) rfl zl_19_278 rfl rfl (Or.inl ⟨by decide, rfl⟩) (Nat.le_of_ble_eq_true rfl) (Nat.le_of_ble_eq_true rfl) (f_157_ok hx12) (k_157 _ hx12) ?_
      by_cases hr14 : narrow .boolean (.int x11) = .int x11
      · rw [if_pos hr14] at g52
        have g53 := Option.some.inj g52
        subst g53
        exact zo_iret (zi_155 rfl) rfl ⟨rfl, hr14⟩
      · rw [if_neg hr14] at g52; cases g52
    · rw [if_neg hc3] at g48
      by_cases hc4 : x1 = 100
      · rw [if_pos hc4] at g48
        refine zo_look (p' := 40) (n := 36) (zi_155 rfl) (by decide) (zsel_skip hc3 (by decide) (zsel_hit hc4 (by decide))) rfl ?_
        refine zo_aload_n (p' := 41) (zi_155 rfl) rfl rfl ?_
        obtain ⟨r15, hx16, g54⟩ := zb_of g48
        refine zo_getR (p' := 44) (zi_155 rfl) rfl zl_19_59 hx16 ?_
        refine zo_iload_n (p' := 45) (zi_155 rfl) rfl rfl ?_
        refine zo_iconst (p' := 46) (v := 0) (zi_155 rfl) rfl rfl ?_
        obtain ⟨q17, h0, g55⟩ := zb_of g54
        subst h0
        obtain ⟨M18, hx19, g56⟩ := zb_of g55
        refine zo_iast (p' := 47) (zi_155 rfl) rfl hx19 ?_
        refine zo_aload_n (p' := 48) (zi_155 rfl) rfl rfl ?_
        refine zo_iconst (p' := 49) (v := 0) (zi_155 rfl) rfl rfl ?_
        refine zo_iconst (p' := 50) (v := 4) (zi_155 rfl) rfl rfl ?_
        obtain ⟨x20, M22, hx21, g57⟩ := zbd_of g56
        refine zo_callVi (p' := 53) (t := 12) (as := [.int 0, .int 4]) (r := []) (zi_155 rfl) rfl zl_19_278 rfl rfl (Or.inl ⟨by decide, rfl⟩) (Nat.le_of_ble_eq_true rfl) (Nat.le_of_ble_eq_true rfl) (f_157_ok hx21) (k_157 _ hx21) ?_
        by_cases hr23 : narrow .boolean (.int x20) = .int x20
        · rw [if_pos hr23] at g57
          have g58 := Option.some.inj g57
          subst g58
          exact zo_iret (zi_155 rfl) rfl ⟨rfl, hr23⟩
        · rw [if_neg hr23] at g57; cases g57
      · rw [if_neg hc4] at g48
        by_cases hc5 : x1 = 119
        · rw [if_pos hc5] at g48
          refine zo_look (p' := 68) (n := 64) (zi_155 rfl) (by decide) (zsel_skip hc3 (by decide) (zsel_skip hc4 (by decide) (zsel_hit hc5 (by decide)))) rfl ?_
          refine zo_aload_n (p' := 69) (zi_155 rfl) rfl rfl ?_
          obtain ⟨r24, hx25, g59⟩ := zb_of g48
          refine zo_getR (p' := 72) (zi_155 rfl) rfl zl_19_59 hx25 ?_
          refine zo_iload_n (p' := 73) (zi_155 rfl) rfl rfl ?_
          refine zo_iconst (p' := 74) (v := 4) (zi_155 rfl) rfl rfl ?_
          obtain ⟨q26, h0, g60⟩ := zb_of g59
          subst h0
          obtain ⟨M27, hx28, g61⟩ := zb_of g60
          refine zo_iast (p' := 75) (zi_155 rfl) rfl hx28 ?_
          refine zo_aload_n (p' := 76) (zi_155 rfl) rfl rfl ?_
          refine zo_bipush (p' := 78) (v := 18) (zi_155 rfl) rfl rfl ?_
          refine zo_iconst (p' := 79) (v := 4) (zi_155 rfl) rfl rfl ?_
          obtain ⟨x29, M31, hx30, g62⟩ := zbd_of g61
          refine zo_callVi (p' := 82) (t := 12) (as := [.int 18, .int 4]) (r := []) (zi_155 rfl) rfl zl_19_278 rfl rfl (Or.inl ⟨by decide, rfl⟩) (Nat.le_of_ble_eq_true rfl) (Nat.le_of_ble_eq_true rfl) (f_157_ok hx30) (k_157 _ hx30) ?_
          by_cases hr32 : narrow .boolean (.int x29) = .int x29
          · rw [if_pos hr32] at g62
            have g63 := Option.some.inj g62
            subst g63
            exact zo_iret (zi_155 rfl) rfl ⟨rfl, hr32⟩
          · rw [if_neg hr32] at g62; cases g62
        · rw [if_neg hc5] at g48
          refine zo_look (p' := 83) (n := 79) (zi_155 rfl) (by decide) (zsel_skip hc3 (by decide) (zsel_skip hc4 (by decide) (zsel_skip hc5 (by decide) (rfl)))) rfl ?_
          refine zo_aload_n (p' := 84) (zi_155 rfl) rfl rfl ?_
          obtain ⟨r33, hx34, g64⟩ := zb_of g48
          refine zo_getR (p' := 87) (zi_155 rfl) rfl zl_19_59 hx34 ?_
          refine zo_iload_n (p' := 88) (zi_155 rfl) rfl rfl ?_
          refine zo_aload_n (p' := 89) (zi_155 rfl) rfl rfl ?_
          obtain ⟨x35, hx36, g65⟩ := zb_of g64
          refine zo_getI (p' := 92) (zi_155 rfl) rfl zl_19_47 hx36 ?_
          refine zo_iconst (p' := 93) (v := 3) (zi_155 rfl) rfl rfl ?_
          refine zo_iadd (p' := 94) (zi_155 rfl) rfl ?_
          refine zo_aload_n (p' := 95) (zi_155 rfl) rfl rfl ?_
          obtain ⟨x37, hx38, g66⟩ := zb_of g65
          refine zo_getI (p' := 98) (zi_155 rfl) rfl zl_19_44 hx38 ?_
          by_cases hc39 : x37 ≤ (x35 + 3)
          · rw [if_pos hc39] at g66
            refine zo_icT (p' := 121) (zi_155 rfl) rfl hc39 ?_
            refine zgo_sub (L' := [(0, zrf (some o)), (1, .int a0)]) (⟨rfl, rfl, trivial⟩) ?_
            exact k_155_121 _ M o a0 a0 r33 _ g66
          · rw [if_neg hc39] at g66
            refine zo_icF (p' := 101) (zi_155 rfl) rfl rfl hc39 ?_
            refine zo_aload_n (p' := 102) (zi_155 rfl) rfl rfl ?_
            obtain ⟨r40, hx41, g67⟩ := zb_of g66
            refine zo_getR (p' := 105) (zi_155 rfl) rfl zl_19_53 hx41 ?_
            refine zo_aload_n (p' := 106) (zi_155 rfl) rfl rfl ?_
            obtain ⟨x42, hx43, g68⟩ := zb_of g67
            refine zo_getI (p' := 109) (zi_155 rfl) rfl zl_19_47 hx43 ?_
            refine zo_iconst (p' := 110) (v := 3) (zi_155 rfl) rfl rfl ?_
            refine zo_iadd (p' := 111) (zi_155 rfl) rfl ?_
            obtain ⟨q44, h0, g69⟩ := zb_of g68
            subst h0
            obtain ⟨x45, hx46, g70⟩ := zb_of g69
            refine zo_iald (p' := 112) (zi_155 rfl) rfl hx46 ?_
            refine zo_bipush (p' := 114) (v := 99) (zi_155 rfl) rfl rfl ?_
            by_cases hc47 : ¬ x45 = 99
            · rw [if_pos hc47] at g70
              refine zo_icT (p' := 121) (zi_155 rfl) rfl hc47 ?_
              refine zgo_sub (L' := [(0, zrf (some o)), (1, .int a0)]) (⟨rfl, rfl, trivial⟩) ?_
              exact k_155_121 _ M o a0 a0 r33 _ g70
            · rw [if_neg hc47] at g70
              refine zo_icF (p' := 117) (zi_155 rfl) rfl rfl hc47 ?_
              refine zo_iconst (p' := 118) (v := 3) (zi_155 rfl) rfl rfl ?_
              refine zo_goto (p' := 122) (zi_155 rfl) rfl ?_
              refine zgo_sub (L' := [(0, zrf (some o)), (1, .int a0)]) (⟨rfl, rfl, trivial⟩) ?_
              exact k_155_122 _ M o a0 3 a0 r33 _ g70
  · rw [if_neg hok] at h; cases h
/-- SlateHalvesModel.isDigit()Z -/
def f_160 (M : ZMem) (o : Nat) : Option (Int32) := if zok M 12 o = true then (zb (f_156 M o) fun x1 => zb (f_147 M o x1 48 57) fun x3 => if narrow .boolean (.int x3) = .int x3 then some x3 else none) else none
theorem f_160_ok {M : ZMem} {o : Nat} {out : Int32} (h : f_160 M o = some out) : zok M 12 o = true := by
  unfold f_160 at h
  by_cases hok : zok M 12 o = true
  · exact hok
  · rw [if_neg hok] at h; cases h
set_option maxRecDepth 20000 in
theorem k_160 (d : Nat) {M : ZMem} {o : Nat} {out : Int32} (h : f_160 M o = some out) : zrn (d + 1) 160 [zrf (some o)] M (some (.int out), M) := by
  unfold f_160 at h
  by_cases hok : zok M 12 o = true
  · rw [if_pos hok] at h
    refine zrn_of (L := [(0, zrf (some o))]) rfl ?_
    refine zo_aload_n (p' := 1) (zi_160 rfl) rfl rfl ?_
    refine zo_aload_n (p' := 2) (zi_160 rfl) rfl rfl ?_
    obtain ⟨x1, hx2, g6⟩ := zb_of h
    refine zo_callVi (p' := 5) (t := 12) (as := []) (r := [zrf (some o)]) (zi_160 rfl) rfl zl_19_247 rfl rfl (Or.inl ⟨by decide, rfl⟩) (Nat.le_of_ble_eq_true rfl) (Nat.le_of_ble_eq_true rfl) (f_156_ok hx2) (k_156 _ hx2) ?_
    refine zo_bipush (p' := 7) (v := 48) (zi_160 rfl) rfl rfl ?_
    refine zo_bipush (p' := 9) (v := 57) (zi_160 rfl) rfl rfl ?_
    obtain ⟨x3, hx4, g7⟩ := zb_of g6
    refine zo_callVi (p' := 12) (t := 12) (as := [.int x1, .int 48, .int 57]) (r := []) (zi_160 rfl) rfl zl_19_239 rfl rfl (Or.inl ⟨by decide, rfl⟩) (Nat.le_of_ble_eq_true rfl) (Nat.le_of_ble_eq_true rfl) (f_147_ok hx4) (k_147 _ hx4) ?_
    by_cases hr5 : narrow .boolean (.int x3) = .int x3
    · rw [if_pos hr5] at g7
      have g8 := Option.some.inj g7
      subst g8
      exact zo_iret (zi_160 rfl) rfl ⟨rfl, hr5⟩
    · rw [if_neg hr5] at g7; cases g7
  · rw [if_neg hok] at h; cases h
/-- SlateHalvesModel.takesNumber()Z -/
def f_159_16 : Nat → ZMem → Nat → Int32 → Option (Int32 × ZMem)
  | 0, _, _, _ => none
  | z + 1, M, o, b1 => if 2 ≤ b1 then (some (1, M)) else (zb (f_160 M o) fun x10 => if x10 = 0 then (some (1, M)) else (zb (zgi M 12 13 o) fun x13 => zb (f_156 M o) fun x15 => zb (zpf M 12 13 o (.int ((((10 * x13) + x15) - 48))) false) fun M17 => zb (zgi M17 12 12 o) fun x19 => zb (zpf M17 12 12 o (.int ((x19 + 1))) false) fun M21 => f_159_16 z M21 o ((b1 + 1))))
set_option maxRecDepth 20000 in
theorem k_159_16 (d : Nat) : ∀ (z : Nat) (M : ZMem) (o : Nat) (b1 : Int32) (out : Int32 × ZMem), f_159_16 z M o b1 = some out → zgo none (d + 2) 159 16 [(0, zrf (some o)), (1, .int b1)] [] M (some (.int out.1), out.2) := by
  intro z
  induction z with
  | zero => intro M o b1 out h; cases h
  | succ z ih =>
    intro M o b1 out h
    rw [f_159_16] at h
    refine zo_iload_n (p' := 17) (zi_159 rfl) rfl rfl ?_
    refine zo_iconst (p' := 18) (v := 2) (zi_159 rfl) rfl rfl ?_
    by_cases hc9 : 2 ≤ b1
    · rw [if_pos hc9] at h
      refine zo_icT (p' := 63) (zi_159 rfl) rfl hc9 ?_
      refine zo_iconst (p' := 64) (v := 1) (zi_159 rfl) rfl rfl ?_
      have g23 := Option.some.inj h
      subst g23
      exact zo_iret (zi_159 rfl) rfl ⟨rfl, rfl⟩
    · rw [if_neg hc9] at h
      refine zo_icF (p' := 21) (zi_159 rfl) rfl rfl hc9 ?_
      refine zo_aload_n (p' := 22) (zi_159 rfl) rfl rfl ?_
      obtain ⟨x10, hx11, g24⟩ := zb_of h
      refine zo_callVi (p' := 25) (t := 12) (as := []) (r := []) (zi_159 rfl) rfl zl_19_254 rfl rfl (Or.inl ⟨by decide, rfl⟩) (Nat.le_of_ble_eq_true rfl) (Nat.le_of_ble_eq_true rfl) (f_160_ok hx11) (k_160 _ hx11) ?_
      by_cases hc12 : x10 = 0
      · rw [if_pos hc12] at g24
        refine zo_ifT (p' := 63) (zi_159 rfl) rfl hc12 ?_
        refine zo_iconst (p' := 64) (v := 1) (zi_159 rfl) rfl rfl ?_
        have g25 := Option.some.inj g24
        subst g25
        exact zo_iret (zi_159 rfl) rfl ⟨rfl, rfl⟩
      · rw [if_neg hc12] at g24
        refine zo_ifF (p' := 28) (zi_159 rfl) rfl rfl hc12 ?_
        refine zo_aload_n (p' := 29) (zi_159 rfl) rfl rfl ?_
        refine zo_bipush (p' := 31) (v := 10) (zi_159 rfl) rfl rfl ?_
        refine zo_aload_n (p' := 32) (zi_159 rfl) rfl rfl ?_
        obtain ⟨x13, hx14, g26⟩ := zb_of g24
        refine zo_getI (p' := 35) (zi_159 rfl) rfl zl_19_50 hx14 ?_
        refine zo_imul (p' := 36) (zi_159 rfl) rfl ?_
        refine zo_aload_n (p' := 37) (zi_159 rfl) rfl rfl ?_
        obtain ⟨x15, hx16, g27⟩ := zb_of g26
        refine zo_callVi (p' := 40) (t := 12) (as := []) (r := [.int ((10 * x13)), zrf (some o)]) (zi_159 rfl) rfl zl_19_247 rfl rfl (Or.inl ⟨by decide, rfl⟩) (Nat.le_of_ble_eq_true rfl) (Nat.le_of_ble_eq_true rfl) (f_156_ok hx16) (k_156 _ hx16) ?_
        refine zo_iadd (p' := 41) (zi_159 rfl) rfl ?_
        refine zo_bipush (p' := 43) (v := 48) (zi_159 rfl) rfl rfl ?_
        refine zo_isub (p' := 44) (zi_159 rfl) rfl ?_
        obtain ⟨M17, hx18, g28⟩ := zb_of g27
        refine zo_putI (p' := 47) (zi_159 rfl) rfl zl_19_50 (zpb_159 _) hx18 ?_
        refine zo_aload_n (p' := 48) (zi_159 rfl) rfl rfl ?_
        refine zo_dup (p' := 49) (zi_159 rfl) rfl (zrf_cat _) ?_
        obtain ⟨x19, hx20, g29⟩ := zb_of g28
        refine zo_getI (p' := 52) (zi_159 rfl) rfl zl_19_47 hx20 ?_
        refine zo_iconst (p' := 53) (v := 1) (zi_159 rfl) rfl rfl ?_
        refine zo_iadd (p' := 54) (zi_159 rfl) rfl ?_
        obtain ⟨M21, hx22, g30⟩ := zb_of g29
        refine zo_putI (p' := 57) (zi_159 rfl) rfl zl_19_47 (zpb_159 _) hx22 ?_
        refine zo_iinc (p' := 60) (v := (b1 + 1)) (L' := [(0, zrf (some o)), (1, .int ((b1 + 1)))]) (zi_159 rfl) rfl zm_159_1 rfl rfl ⟨Or.inr ⟨by decide, rfl, fun _ => zrf_cat _⟩, ⟨Or.inl ⟨rfl, rfl⟩, trivial⟩⟩ ?_
        refine zo_goto (p' := 16) (zi_159 rfl) rfl ?_
        refine zgo_sub (L' := [(0, zrf (some o)), (1, .int (((b1 + 1))))]) (⟨rfl, rfl, trivial⟩) ?_
        exact ih M21 o ((b1 + 1)) _ g30
def f_159 (M : ZMem) (o : Nat) : Option (Int32 × ZMem) := if zok M 12 o = true then (zb (f_160 M o) fun x1 => if ¬ x1 = 0 then (zb (zpf M 12 13 o (.int 0) false) fun M4 => f_159_16 zF M4 o 0) else (some (0, M))) else none
theorem f_159_ok {M : ZMem} {o : Nat} {out : Int32 × ZMem} (h : f_159 M o = some out) : zok M 12 o = true := by
  unfold f_159 at h
  by_cases hok : zok M 12 o = true
  · exact hok
  · rw [if_neg hok] at h; cases h
set_option maxRecDepth 20000 in
theorem k_159 (d : Nat) {M : ZMem} {o : Nat} {out : Int32 × ZMem} (h : f_159 M o = some out) : zrn (d + 2) 159 [zrf (some o)] M (some (.int out.1), out.2) := by
  unfold f_159 at h
  by_cases hok : zok M 12 o = true
  · rw [if_pos hok] at h
    refine zrn_of (L := [(0, zrf (some o))]) rfl ?_
    refine zo_aload_n (p' := 1) (zi_159 rfl) rfl rfl ?_
    obtain ⟨x1, hx2, g6⟩ := zb_of h
    refine zo_callVi (p' := 4) (t := 12) (as := []) (r := []) (zi_159 rfl) rfl zl_19_254 rfl rfl (Or.inl ⟨by decide, rfl⟩) (Nat.le_of_ble_eq_true rfl) (Nat.le_of_ble_eq_true rfl) (f_160_ok hx2) (k_160 _ hx2) ?_
    by_cases hc3 : ¬ x1 = 0
    · rw [if_pos hc3] at g6
      refine zo_ifT (p' := 9) (zi_159 rfl) rfl hc3 ?_
      refine zo_aload_n (p' := 10) (zi_159 rfl) rfl rfl ?_
      refine zo_iconst (p' := 11) (v := 0) (zi_159 rfl) rfl rfl ?_
      obtain ⟨M4, hx5, g7⟩ := zb_of g6
      refine zo_putI (p' := 14) (zi_159 rfl) rfl zl_19_50 (zpb_159 _) hx5 ?_
      refine zo_iconst (p' := 15) (v := 0) (zi_159 rfl) rfl rfl ?_
      refine zo_istore_n (p' := 16) (L' := [(0, zrf (some o)), (1, .int 0)]) (zi_159 rfl) rfl zm_159_1 ⟨Or.inr ⟨by decide, rfl, fun _ => zrf_cat _⟩, ⟨Or.inl ⟨rfl, rfl⟩, trivial⟩⟩ ?_
      refine zgo_sub (L' := [(0, zrf (some o)), (1, .int 0)]) (⟨rfl, rfl, trivial⟩) ?_
      exact k_159_16 _ zF M4 o 0 _ g7
    · rw [if_neg hc3] at g6
      refine zo_ifF (p' := 7) (zi_159 rfl) rfl rfl hc3 ?_
      refine zo_iconst (p' := 8) (v := 0) (zi_159 rfl) rfl rfl ?_
      have g8 := Option.some.inj g6
      subst g8
      exact zo_iret (zi_159 rfl) rfl ⟨rfl, rfl⟩
  · rw [if_neg hok] at h; cases h
/-- SlateHalvesModel.place(I)I -/
def f_163 (M : ZMem) (o : Nat) (a0 : Int32) : Option (Int32) := if zok M 12 o = true then (if a0 = 98 then (some 0) else (if a0 = 100 then (some 4) else (if a0 = 107 then (some 1) else (if a0 = 116 then (some 3) else (if a0 = 118 then (some 2) else (if a0 = 121 then (some 5) else (some (-1)))))))) else none
theorem f_163_ok {M : ZMem} {o : Nat} {a0 : Int32} {out : Int32} (h : f_163 M o a0 = some out) : zok M 12 o = true := by
  unfold f_163 at h
  by_cases hok : zok M 12 o = true
  · exact hok
  · rw [if_neg hok] at h; cases h
set_option maxRecDepth 20000 in
theorem k_163 (d : Nat) {M : ZMem} {o : Nat} {a0 : Int32} {out : Int32} (h : f_163 M o a0 = some out) : zrn (d) 163 [zrf (some o), .int a0] M (some (.int out), M) := by
  unfold f_163 at h
  by_cases hok : zok M 12 o = true
  · rw [if_pos hok] at h
    refine zrn_of (L := [(0, zrf (some o)), (1, .int a0)]) rfl ?_
    refine zo_iload_n (p' := 1) (zi_163 rfl) rfl rfl ?_
    by_cases hc1 : a0 = 98
    · rw [if_pos hc1] at h
      refine zo_look (p' := 60) (n := 59) (zi_163 rfl) (by decide) (zsel_hit hc1 (by decide)) rfl ?_
      refine zo_iconst (p' := 61) (v := 0) (zi_163 rfl) rfl rfl ?_
      have g7 := Option.some.inj h
      subst g7
      exact zo_iret (zi_163 rfl) rfl ⟨rfl, rfl⟩
    · rw [if_neg hc1] at h
      by_cases hc2 : a0 = 100
      · rw [if_pos hc2] at h
        refine zo_look (p' := 68) (n := 67) (zi_163 rfl) (by decide) (zsel_skip hc1 (by decide) (zsel_hit hc2 (by decide))) rfl ?_
        refine zo_iconst (p' := 69) (v := 4) (zi_163 rfl) rfl rfl ?_
        have g8 := Option.some.inj h
        subst g8
        exact zo_iret (zi_163 rfl) rfl ⟨rfl, rfl⟩
      · rw [if_neg hc2] at h
        by_cases hc3 : a0 = 107
        · rw [if_pos hc3] at h
          refine zo_look (p' := 62) (n := 61) (zi_163 rfl) (by decide) (zsel_skip hc1 (by decide) (zsel_skip hc2 (by decide) (zsel_hit hc3 (by decide)))) rfl ?_
          refine zo_iconst (p' := 63) (v := 1) (zi_163 rfl) rfl rfl ?_
          have g9 := Option.some.inj h
          subst g9
          exact zo_iret (zi_163 rfl) rfl ⟨rfl, rfl⟩
        · rw [if_neg hc3] at h
          by_cases hc4 : a0 = 116
          · rw [if_pos hc4] at h
            refine zo_look (p' := 66) (n := 65) (zi_163 rfl) (by decide) (zsel_skip hc1 (by decide) (zsel_skip hc2 (by decide) (zsel_skip hc3 (by decide) (zsel_hit hc4 (by decide))))) rfl ?_
            refine zo_iconst (p' := 67) (v := 3) (zi_163 rfl) rfl rfl ?_
            have g10 := Option.some.inj h
            subst g10
            exact zo_iret (zi_163 rfl) rfl ⟨rfl, rfl⟩
          · rw [if_neg hc4] at h
            by_cases hc5 : a0 = 118
            · rw [if_pos hc5] at h
              refine zo_look (p' := 64) (n := 63) (zi_163 rfl) (by decide) (zsel_skip hc1 (by decide) (zsel_skip hc2 (by decide) (zsel_skip hc3 (by decide) (zsel_skip hc4 (by decide) (zsel_hit hc5 (by decide)))))) rfl ?_
              refine zo_iconst (p' := 65) (v := 2) (zi_163 rfl) rfl rfl ?_
              have g11 := Option.some.inj h
              subst g11
              exact zo_iret (zi_163 rfl) rfl ⟨rfl, rfl⟩
            · rw [if_neg hc5] at h
              by_cases hc6 : a0 = 121
              · rw [if_pos hc6] at h
                refine zo_look (p' := 70) (n := 69) (zi_163 rfl) (by decide) (zsel_skip hc1 (by decide) (zsel_skip hc2 (by decide) (zsel_skip hc3 (by decide) (zsel_skip hc4 (by decide) (zsel_skip hc5 (by decide) (zsel_hit hc6 (by decide))))))) rfl ?_
                refine zo_iconst (p' := 71) (v := 5) (zi_163 rfl) rfl rfl ?_
                have g12 := Option.some.inj h
                subst g12
                exact zo_iret (zi_163 rfl) rfl ⟨rfl, rfl⟩
              · rw [if_neg hc6] at h
                refine zo_look (p' := 72) (n := 71) (zi_163 rfl) (by decide) (zsel_skip hc1 (by decide) (zsel_skip hc2 (by decide) (zsel_skip hc3 (by decide) (zsel_skip hc4 (by decide) (zsel_skip hc5 (by decide) (zsel_skip hc6 (by decide) (rfl))))))) rfl ?_
                refine zo_iconst (p' := 73) (v := (-1)) (zi_163 rfl) rfl rfl ?_
                have g13 := Option.some.inj h
                subst g13
                exact zo_iret (zi_163 rfl) rfl ⟨rfl, rfl⟩
  · rw [if_neg hok] at h; cases h
/-- SlateHalvesModel.emits(I)V -/
def f_164 (M : ZMem) (o : Nat) (a0 : Int32) : Option (ZMem) := if zok M 12 o = true then (zb (zgr M 12 20 o) fun r1 => zb (zgi M 12 22 o) fun x3 => zb r1 fun q5 => zb (zsa M 20 q5 x3 a0) fun M6 => zb (zgi M6 12 22 o) fun x8 => zb (zpf M6 12 22 o (.int ((x8 + 1))) false) fun M10 => some M10) else none
theorem f_164_ok {M : ZMem} {o : Nat} {a0 : Int32} {out : ZMem} (h : f_164 M o a0 = some out) : zok M 12 o = true := by
  unfold f_164 at h
  by_cases hok : zok M 12 o = true
  · exact hok
  · rw [if_neg hok] at h; cases h
set_option maxRecDepth 20000 in
theorem k_164 (d : Nat) {M : ZMem} {o : Nat} {a0 : Int32} {out : ZMem} (h : f_164 M o a0 = some out) : zrn (d) 164 [zrf (some o), .int a0] M (none, out) := by
  unfold f_164 at h
  by_cases hok : zok M 12 o = true
  · rw [if_pos hok] at h
    refine zrn_of (L := [(0, zrf (some o)), (1, .int a0)]) rfl ?_
    refine zo_aload_n (p' := 1) (zi_164 rfl) rfl rfl ?_
    obtain ⟨r1, hx2, g12⟩ := zb_of h
    refine zo_getR (p' := 4) (zi_164 rfl) rfl zl_19_71 hx2 ?_
    refine zo_aload_n (p' := 5) (zi_164 rfl) rfl rfl ?_
    obtain ⟨x3, hx4, g13⟩ := zb_of g12
    refine zo_getI (p' := 8) (zi_164 rfl) rfl zl_19_77 hx4 ?_
    refine zo_iload_n (p' := 9) (zi_164 rfl) rfl rfl ?_
    obtain ⟨q5, h0, g14⟩ := zb_of g13
    subst h0
    obtain ⟨M6, hx7, g15⟩ := zb_of g14
    refine zo_iast (p' := 10) (zi_164 rfl) rfl hx7 ?_
    refine zo_aload_n (p' := 11) (zi_164 rfl) rfl rfl ?_
    refine zo_dup (p' := 12) (zi_164 rfl) rfl (zrf_cat _) ?_
    obtain ⟨x8, hx9, g16⟩ := zb_of g15
    refine zo_getI (p' := 15) (zi_164 rfl) rfl zl_19_77 hx9 ?_
    refine zo_iconst (p' := 16) (v := 1) (zi_164 rfl) rfl rfl ?_
    refine zo_iadd (p' := 17) (zi_164 rfl) rfl ?_
    obtain ⟨M10, hx11, g17⟩ := zb_of g16
    refine zo_putI (p' := 20) (zi_164 rfl) rfl zl_19_77 (zpb_164 _) hx11 ?_
    have g18 := Option.some.inj g17
    subst g18
    exact zo_vret (zi_164 rfl) rfl
  · rw [if_neg hok] at h; cases h
/-- SlateHalvesModel.whole()V -/
def f_165_0 : Nat → ZMem → Nat → Option (ZMem)
  | 0, _, _ => none
  | z + 1, M, o => zb (zgi M 12 23 o) fun x1 => if x1 ≤ 0 then (some M) else (zb (zgr M 12 21 o) fun r4 => zb (zgi M 12 23 o) fun x6 => zb r4 fun q8 => zb (zai M q8 (x6 - 1)) fun x9 => if ¬ x9 = 33 then (some M) else (zb (f_164 M o ((-33))) fun M14 => zb (zgi M14 12 23 o) fun x15 => zb (zpf M14 12 23 o (.int ((x15 - 1))) false) fun M17 => zb (zgi M17 12 24 o) fun x19 => zb (zpf M17 12 24 o (.int ((x19 - 1))) false) fun M21 => f_165_0 z M21 o))
set_option maxRecDepth 20000 in
theorem k_165_0 (d : Nat) : ∀ (z : Nat) (M : ZMem) (o : Nat) (out : ZMem), f_165_0 z M o = some out → zgo none (d + 1) 165 0 [(0, zrf (some o))] [] M (none, out) := by
  intro z
  induction z with
  | zero => intro M o out h; cases h
  | succ z ih =>
    intro M o out h
    rw [f_165_0] at h
    refine zo_aload_n (p' := 1) (zi_165 rfl) rfl rfl ?_
    obtain ⟨x1, hx2, g23⟩ := zb_of h
    refine zo_getI (p' := 4) (zi_165 rfl) rfl zl_19_80 hx2 ?_
    by_cases hc3 : x1 ≤ 0
    · rw [if_pos hc3] at g23
      refine zo_ifT (p' := 52) (zi_165 rfl) rfl hc3 ?_
      have g24 := Option.some.inj g23
      subst g24
      exact zo_vret (zi_165 rfl) rfl
    · rw [if_neg hc3] at g23
      refine zo_ifF (p' := 7) (zi_165 rfl) rfl rfl hc3 ?_
      refine zo_aload_n (p' := 8) (zi_165 rfl) rfl rfl ?_
      obtain ⟨r4, hx5, g25⟩ := zb_of g23
      refine zo_getR (p' := 11) (zi_165 rfl) rfl zl_19_74 hx5 ?_
      refine zo_aload_n (p' := 12) (zi_165 rfl) rfl rfl ?_
      obtain ⟨x6, hx7, g26⟩ := zb_of g25
      refine zo_getI (p' := 15) (zi_165 rfl) rfl zl_19_80 hx7 ?_
      refine zo_iconst (p' := 16) (v := 1) (zi_165 rfl) rfl rfl ?_
      refine zo_isub (p' := 17) (zi_165 rfl) rfl ?_
      obtain ⟨q8, h0, g27⟩ := zb_of g26
      subst h0
      obtain ⟨x9, hx10, g28⟩ := zb_of g27
      refine zo_iald (p' := 18) (zi_165 rfl) rfl hx10 ?_
      refine zo_bipush (p' := 20) (v := 33) (zi_165 rfl) rfl rfl ?_
      by_cases hc11 : ¬ x9 = 33
      · rw [if_pos hc11] at g28
        refine zo_icT (p' := 52) (zi_165 rfl) rfl hc11 ?_
        have g29 := Option.some.inj g28
        subst g29
        exact zo_vret (zi_165 rfl) rfl
      · rw [if_neg hc11] at g28
        refine zo_icF (p' := 23) (zi_165 rfl) rfl rfl hc11 ?_
        refine zo_aload_n (p' := 24) (zi_165 rfl) rfl rfl ?_
        refine zo_bipush (p' := 26) (v := (-33)) (zi_165 rfl) rfl rfl ?_
        obtain ⟨M14, hx13, g30⟩ := zb_of g28
        refine zo_callVv (p' := 29) (t := 12) (as := [.int ((-33))]) (r := []) (zi_165 rfl) rfl zl_19_258 rfl rfl (Or.inl ⟨by decide, rfl⟩) (Nat.le_of_ble_eq_true rfl) (Nat.le_of_ble_eq_true rfl) (f_164_ok hx13) (k_164 _ hx13) ?_
        refine zo_aload_n (p' := 30) (zi_165 rfl) rfl rfl ?_
        refine zo_dup (p' := 31) (zi_165 rfl) rfl (zrf_cat _) ?_
        obtain ⟨x15, hx16, g31⟩ := zb_of g30
        refine zo_getI (p' := 34) (zi_165 rfl) rfl zl_19_80 hx16 ?_
        refine zo_iconst (p' := 35) (v := 1) (zi_165 rfl) rfl rfl ?_
        refine zo_isub (p' := 36) (zi_165 rfl) rfl ?_
        obtain ⟨M17, hx18, g32⟩ := zb_of g31
        refine zo_putI (p' := 39) (zi_165 rfl) rfl zl_19_80 (zpb_165 _) hx18 ?_
        refine zo_aload_n (p' := 40) (zi_165 rfl) rfl rfl ?_
        refine zo_dup (p' := 41) (zi_165 rfl) rfl (zrf_cat _) ?_
        obtain ⟨x19, hx20, g33⟩ := zb_of g32
        refine zo_getI (p' := 44) (zi_165 rfl) rfl zl_19_83 hx20 ?_
        refine zo_iconst (p' := 45) (v := 1) (zi_165 rfl) rfl rfl ?_
        refine zo_isub (p' := 46) (zi_165 rfl) rfl ?_
        obtain ⟨M21, hx22, g34⟩ := zb_of g33
        refine zo_putI (p' := 49) (zi_165 rfl) rfl zl_19_83 (zpb_165 _) hx22 ?_
        refine zo_goto (p' := 0) (zi_165 rfl) rfl ?_
        refine zgo_sub (L' := [(0, zrf (some o))]) (⟨rfl, trivial⟩) ?_
        exact ih M21 o _ g34
def f_165 (M : ZMem) (o : Nat) : Option (ZMem) := if zok M 12 o = true then (f_165_0 zF M o) else none
theorem f_165_ok {M : ZMem} {o : Nat} {out : ZMem} (h : f_165 M o = some out) : zok M 12 o = true := by
  unfold f_165 at h
  by_cases hok : zok M 12 o = true
  · exact hok
  · rw [if_neg hok] at h; cases h
set_option maxRecDepth 20000 in
theorem k_165 (d : Nat) {M : ZMem} {o : Nat} {out : ZMem} (h : f_165 M o = some out) : zrn (d + 1) 165 [zrf (some o)] M (none, out) := by
  unfold f_165 at h
  by_cases hok : zok M 12 o = true
  · rw [if_pos hok] at h
    refine zrn_of (L := [(0, zrf (some o))]) rfl ?_
    refine zgo_sub (L' := [(0, zrf (some o))]) (⟨rfl, trivial⟩) ?_
    exact k_165_0 _ zF M o _ h
  · rw [if_neg hok] at h; cases h
/-- SlateHalvesModel.takesTest()Z -/
def f_162 (M : ZMem) (o : Nat) : Option (Int32 × ZMem) := if zok M 12 o = true then (zb (f_156 M o) fun x1 => zb (f_163 M o x1) fun x3 => if 0 ≤ x3 then (zb (zgi M 12 12 o) fun x6 => zb (zpf M 12 12 o (.int ((x6 + 1))) false) fun M8 => zb (f_156 M8 o) fun x10 => zb (f_147 M8 o x10 60 62) fun x12 => if ¬ x12 = 0 then (zb (zgi M8 12 12 o) fun x15 => zb (zpf M8 12 12 o (.int ((x15 + 1))) false) fun M17 => zbd (f_159 M17 o) fun x19 M21 => if ¬ x19 = 0 then (zb (zgi M21 12 13 o) fun x23 => zb (f_164 M21 o ((((1000 * x3) + (100 * (x10 - 60))) + x23))) fun M27 => zb (f_165 M27 o) fun M30 => some (1, M30)) else (some (0, M21))) else (some (0, M8))) else (some (0, M))) else none
theorem f_162_ok {M : ZMem} {o : Nat} {out : Int32 × ZMem} (h : f_162 M o = some out) : zok M 12 o = true := by
  unfold f_162 at h
  by_cases hok : zok M 12 o = true
  · exact hok
  · rw [if_neg hok] at h; cases h
set_option maxRecDepth 20000 in
theorem k_162 (d : Nat) {M : ZMem} {o : Nat} {out : Int32 × ZMem} (h : f_162 M o = some out) : zrn (d + 3) 162 [zrf (some o)] M (some (.int out.1), out.2) := by
  unfold f_162 at h
  by_cases hok : zok M 12 o = true
  · rw [if_pos hok] at h
    refine zrn_of (L := [(0, zrf (some o))]) rfl ?_
    refine zo_aload_n (p' := 1) (zi_162 rfl) rfl rfl ?_
    refine zo_aload_n (p' := 2) (zi_162 rfl) rfl rfl ?_
    obtain ⟨x1, hx2, g31⟩ := zb_of h
    refine zo_callVi (p' := 5) (t := 12) (as := []) (r := [zrf (some o)]) (zi_162 rfl) rfl zl_19_247 rfl rfl (Or.inl ⟨by decide, rfl⟩) (Nat.le_of_ble_eq_true rfl) (Nat.le_of_ble_eq_true rfl) (f_156_ok hx2) (k_156 _ hx2) ?_
    obtain ⟨x3, hx4, g32⟩ := zb_of g31
    refine zo_callVi (p' := 8) (t := 12) (as := [.int x1]) (r := []) (zi_162 rfl) rfl zl_19_262 rfl rfl (Or.inl ⟨by decide, rfl⟩) (Nat.le_of_ble_eq_true rfl) (Nat.le_of_ble_eq_true rfl) (f_163_ok hx4) (k_163 _ hx4) ?_
    refine zo_istore_n (p' := 9) (L' := [(0, zrf (some o)), (1, .int x3)]) (zi_162 rfl) rfl zm_162_1 ⟨Or.inr ⟨by decide, rfl, fun _ => zrf_cat _⟩, ⟨Or.inl ⟨rfl, rfl⟩, trivial⟩⟩ ?_
    refine zo_iload_n (p' := 10) (zi_162 rfl) rfl rfl ?_
    by_cases hc5 : 0 ≤ x3
    · rw [if_pos hc5] at g32
      refine zo_ifT (p' := 15) (zi_162 rfl) rfl hc5 ?_
      refine zo_aload_n (p' := 16) (zi_162 rfl) rfl rfl ?_
      refine zo_dup (p' := 17) (zi_162 rfl) rfl (zrf_cat _) ?_
      obtain ⟨x6, hx7, g33⟩ := zb_of g32
      refine zo_getI (p' := 20) (zi_162 rfl) rfl zl_19_47 hx7 ?_
      refine zo_iconst (p' := 21) (v := 1) (zi_162 rfl) rfl rfl ?_
      refine zo_iadd (p' := 22) (zi_162 rfl) rfl ?_
      obtain ⟨M8, hx9, g34⟩ := zb_of g33
      refine zo_putI (p' := 25) (zi_162 rfl) rfl zl_19_47 (zpb_162 _) hx9 ?_
      refine zo_aload_n (p' := 26) (zi_162 rfl) rfl rfl ?_
      obtain ⟨x10, hx11, g35⟩ := zb_of g34
      refine zo_callVi (p' := 29) (t := 12) (as := []) (r := []) (zi_162 rfl) rfl zl_19_247 rfl rfl (Or.inl ⟨by decide, rfl⟩) (Nat.le_of_ble_eq_true rfl) (Nat.le_of_ble_eq_true rfl) (f_156_ok hx11) (k_156 _ hx11) ?_
      refine zo_istore_n (p' := 30) (L' := [(0, zrf (some o)), (1, .int x3), (2, .int x10)]) (zi_162 rfl) rfl zm_162_2 ⟨Or.inr ⟨by decide, rfl, fun q => absurd q (by decide)⟩, ⟨Or.inr ⟨by decide, rfl, fun _ => rfl⟩, ⟨Or.inl ⟨rfl, rfl⟩, trivial⟩⟩⟩ ?_
      refine zo_aload_n (p' := 31) (zi_162 rfl) rfl rfl ?_
      refine zo_iload_n (p' := 32) (zi_162 rfl) rfl rfl ?_
      refine zo_bipush (p' := 34) (v := 60) (zi_162 rfl) rfl rfl ?_
      refine zo_bipush (p' := 36) (v := 62) (zi_162 rfl) rfl rfl ?_
      obtain ⟨x12, hx13, g36⟩ := zb_of g35
      refine zo_callVi (p' := 39) (t := 12) (as := [.int x10, .int 60, .int 62]) (r := []) (zi_162 rfl) rfl zl_19_239 rfl rfl (Or.inl ⟨by decide, rfl⟩) (Nat.le_of_ble_eq_true rfl) (Nat.le_of_ble_eq_true rfl) (f_147_ok hx13) (k_147 _ hx13) ?_
      by_cases hc14 : ¬ x12 = 0
      · rw [if_pos hc14] at g36
        refine zo_ifT (p' := 44) (zi_162 rfl) rfl hc14 ?_
        refine zo_aload_n (p' := 45) (zi_162 rfl) rfl rfl ?_
        refine zo_dup (p' := 46) (zi_162 rfl) rfl (zrf_cat _) ?_
        obtain ⟨x15, hx16, g37⟩ := zb_of g36
        refine zo_getI (p' := 49) (zi_162 rfl) rfl zl_19_47 hx16 ?_
        refine zo_iconst (p' := 50) (v := 1) (zi_162 rfl) rfl rfl ?_
        refine zo_iadd (p' := 51) (zi_162 rfl) rfl ?_
        obtain ⟨M17, hx18, g38⟩ := zb_of g37
        refine zo_putI (p' := 54) (zi_162 rfl) rfl zl_19_47 (zpb_162 _) hx18 ?_
        refine zo_aload_n (p' := 55) (zi_162 rfl) rfl rfl ?_
        obtain ⟨x19, M21, hx20, g39⟩ := zbd_of g38
        refine zo_callVi (p' := 58) (t := 12) (as := []) (r := []) (zi_162 rfl) rfl zl_19_266 rfl rfl (Or.inl ⟨by decide, rfl⟩) (Nat.le_of_ble_eq_true rfl) (Nat.le_of_ble_eq_true rfl) (f_159_ok hx20) (k_159 _ hx20) ?_
        by_cases hc22 : ¬ x19 = 0
        · rw [if_pos hc22] at g39
          refine zo_ifT (p' := 63) (zi_162 rfl) rfl hc22 ?_
          refine zo_aload_n (p' := 64) (zi_162 rfl) rfl rfl ?_
          refine zo_sipush (p' := 67) (v := 1000) (zi_162 rfl) rfl rfl ?_
          refine zo_iload_n (p' := 68) (zi_162 rfl) rfl rfl ?_
          refine zo_imul (p' := 69) (zi_162 rfl) rfl ?_
          refine zo_bipush (p' := 71) (v := 100) (zi_162 rfl) rfl rfl ?_
          refine zo_iload_n (p' := 72) (zi_162 rfl) rfl rfl ?_
          refine zo_bipush (p' := 74) (v := 60) (zi_162 rfl) rfl rfl ?_
          refine zo_isub (p' := 75) (zi_162 rfl) rfl ?_
          refine zo_imul (p' := 76) (zi_162 rfl) rfl ?_
          refine zo_iadd (p' := 77) (zi_162 rfl) rfl ?_
          refine zo_aload_n (p' := 78) (zi_162 rfl) rfl rfl ?_
          obtain ⟨x23, hx24, g40⟩ := zb_of g39
          refine zo_getI (p' := 81) (zi_162 rfl) rfl zl_19_50 hx24 ?_
          refine zo_iadd (p' := 82) (zi_162 rfl) rfl ?_
          obtain ⟨M27, hx26, g41⟩ := zb_of g40
          refine zo_callVv (p' := 85) (t := 12) (as := [.int ((((1000 * x3) + (100 * (x10 - 60))) + x23))]) (r := []) (zi_162 rfl) rfl zl_19_258 rfl rfl (Or.inl ⟨by decide, rfl⟩) (Nat.le_of_ble_eq_true rfl) (Nat.le_of_ble_eq_true rfl) (f_164_ok hx26) (k_164 _ hx26) ?_
          refine zo_aload_n (p' := 86) (zi_162 rfl) rfl rfl ?_
          obtain ⟨M30, hx29, g42⟩ := zb_of g41
          refine zo_callVv (p' := 89) (t := 12) (as := []) (r := []) (zi_162 rfl) rfl zl_19_269 rfl rfl (Or.inl ⟨by decide, rfl⟩) (Nat.le_of_ble_eq_true rfl) (Nat.le_of_ble_eq_true rfl) (f_165_ok hx29) (k_165 _ hx29) ?_
          refine zo_iconst (p' := 90) (v := 1) (zi_162 rfl) rfl rfl ?_
          have g43 := Option.some.inj g42
          subst g43
          exact zo_iret (zi_162 rfl) rfl ⟨rfl, rfl⟩
        · rw [if_neg hc22] at g39
          refine zo_ifF (p' := 61) (zi_162 rfl) rfl rfl hc22 ?_
          refine zo_iconst (p' := 62) (v := 0) (zi_162 rfl) rfl rfl ?_
          have g44 := Option.some.inj g39
          subst g44
          exact zo_iret (zi_162 rfl) rfl ⟨rfl, rfl⟩
      · rw [if_neg hc14] at g36
        refine zo_ifF (p' := 42) (zi_162 rfl) rfl rfl hc14 ?_
        refine zo_iconst (p' := 43) (v := 0) (zi_162 rfl) rfl rfl ?_
        have g45 := Option.some.inj g36
        subst g45
        exact zo_iret (zi_162 rfl) rfl ⟨rfl, rfl⟩
    · rw [if_neg hc5] at g32
      refine zo_ifF (p' := 13) (zi_162 rfl) rfl rfl hc5 ?_
      refine zo_iconst (p' := 14) (v := 0) (zi_162 rfl) rfl rfl ?_
      have g46 := Option.some.inj g32
      subst g46
      exact zo_iret (zi_162 rfl) rfl ⟨rfl, rfl⟩
  · rw [if_neg hok] at h; cases h
/-- SlateHalvesModel.settle(I)V -/
def f_166_45 (r0 : ZMem → Nat → Int32 → Option (ZMem)) (M : ZMem) (o : Nat) (b1 : Int32) : Option (ZMem) := zb (zgi M 12 23 o) fun x33 => zb (zpf M 12 23 o (.int ((x33 - 1))) false) fun M35 => zb (zgr M35 12 21 o) fun r37 => zb (zgi M35 12 23 o) fun x39 => zb r37 fun q41 => zb (zai M35 q41 x39) fun x42 => zb (f_164 M35 o ((-x42))) fun M46 => r0 M46 o b1
def f_166_0 : Nat → ZMem → Nat → Int32 → Option (ZMem)
  | 0, _, _, _ => none
  | z + 1, M, o, b1 => zb (zgi M 12 23 o) fun x1 => if x1 ≤ 0 then (some M) else (zb (zgr M 12 21 o) fun r4 => zb (zgi M 12 23 o) fun x6 => zb r4 fun q8 => zb (zai M q8 (x6 - 1)) fun x9 => if x9 = 38 then (f_166_45 (fun M a0 a1 => f_166_0 z M a0 a1) M o b1) else (zb (zgr M 12 21 o) fun r12 => zb (zgi M 12 23 o) fun x14 => zb r12 fun q16 => zb (zai M q16 (x14 - 1)) fun x17 => if ¬ x17 = 124 then (some M) else (if b1 = 38 then (some M) else (f_166_45 (fun M a0 a1 => f_166_0 z M a0 a1) M o b1))))
set_option maxRecDepth 20000 in
theorem k_166_45 (d : Nat) (r0 : ZMem → Nat → Int32 → Option (ZMem)) (h0 : ∀ (M : ZMem) (a0 : Nat) (a1 : Int32) (out : ZMem), r0 M a0 a1 = some out → zgo none (d + 1) 166 0 [(0, zrf (some a0)), (1, .int a1)] [] M (none, out)) : ∀ (M : ZMem) (o : Nat) (b1 : Int32) (out : ZMem), f_166_45 r0 M o b1 = some out → zgo none (d + 1) 166 45 [(0, zrf (some o)), (1, .int b1)] [] M (none, out) := by
  intro M o b1 out h
  unfold f_166_45 at h
  refine zo_aload_n (p' := 46) (zi_166 rfl) rfl rfl ?_
  refine zo_dup (p' := 47) (zi_166 rfl) rfl (zrf_cat _) ?_
  obtain ⟨x33, hx34, g47⟩ := zb_of h
  refine zo_getI (p' := 50) (zi_166 rfl) rfl zl_19_80 hx34 ?_
  refine zo_iconst (p' := 51) (v := 1) (zi_166 rfl) rfl rfl ?_
  refine zo_isub (p' := 52) (zi_166 rfl) rfl ?_
  obtain ⟨M35, hx36, g48⟩ := zb_of g47
  refine zo_putI (p' := 55) (zi_166 rfl) rfl zl_19_80 (zpb_166 _) hx36 ?_
  refine zo_aload_n (p' := 56) (zi_166 rfl) rfl rfl ?_
  refine zo_aload_n (p' := 57) (zi_166 rfl) rfl rfl ?_
  obtain ⟨r37, hx38, g49⟩ := zb_of g48
  refine zo_getR (p' := 60) (zi_166 rfl) rfl zl_19_74 hx38 ?_
  refine zo_aload_n (p' := 61) (zi_166 rfl) rfl rfl ?_
  obtain ⟨x39, hx40, g50⟩ := zb_of g49
  refine zo_getI (p' := 64) (zi_166 rfl) rfl zl_19_80 hx40 ?_
  obtain ⟨q41, h0, g51⟩ := zb_of g50
  subst h0
  obtain ⟨x42, hx43, g52⟩ := zb_of g51
  refine zo_iald (p' := 65) (zi_166 rfl) rfl hx43 ?_
  refine zo_ineg (p' := 66) (zi_166 rfl) rfl ?_
  obtain ⟨M46, hx45, g53⟩ := zb_of g52
  refine zo_callVv (p' := 69) (t := 12) (as := [.int ((-x42))]) (r := []) (zi_166 rfl) rfl zl_19_258 rfl rfl (Or.inl ⟨by decide, rfl⟩) (Nat.le_of_ble_eq_true rfl) (Nat.le_of_ble_eq_true rfl) (f_164_ok hx45) (k_164 _ hx45) ?_
  refine zo_goto (p' := 0) (zi_166 rfl) rfl ?_
  refine zgo_sub (L' := [(0, zrf (some o)), (1, .int b1)]) (⟨rfl, rfl, trivial⟩) ?_
  exact h0 M46 o b1 _ g53
set_option maxRecDepth 20000 in
theorem k_166_0 (d : Nat) : ∀ (z : Nat) (M : ZMem) (o : Nat) (b1 : Int32) (out : ZMem), f_166_0 z M o b1 = some out → zgo none (d + 1) 166 0 [(0, zrf (some o)), (1, .int b1)] [] M (none, out) := by
  intro z
  induction z with
  | zero => intro M o b1 out h; cases h
  | succ z ih =>
    intro M o b1 out h
    rw [f_166_0] at h
    refine zo_aload_n (p' := 1) (zi_166 rfl) rfl rfl ?_
    obtain ⟨x1, hx2, g21⟩ := zb_of h
    refine zo_getI (p' := 4) (zi_166 rfl) rfl zl_19_80 hx2 ?_
    by_cases hc3 : x1 ≤ 0
    · rw [if_pos hc3] at g21
      refine zo_ifT (p' := 72) (zi_166 rfl) rfl hc3 ?_
      have g22 := Option.some.inj g21
      subst g22
      exact zo_vret (zi_166 rfl) rfl
    · rw [if_neg hc3] at g21
      refine zo_ifF (p' := 7) (zi_166 rfl) rfl rfl hc3 ?_
      refine zo_aload_n (p' := 8) (zi_166 rfl) rfl rfl ?_
      obtain ⟨r4, hx5, g23⟩ := zb_of g21
      refine zo_getR (p' := 11) (zi_166 rfl) rfl zl_19_74 hx5 ?_
      refine zo_aload_n (p' := 12) (zi_166 rfl) rfl rfl ?_
      obtain ⟨x6, hx7, g24⟩ := zb_of g23
      refine zo_getI (p' := 15) (zi_166 rfl) rfl zl_19_80 hx7 ?_
      refine zo_iconst (p' := 16) (v := 1) (zi_166 rfl) rfl rfl ?_
      refine zo_isub (p' := 17) (zi_166 rfl) rfl ?_
      obtain ⟨q8, h0, g25⟩ := zb_of g24
      subst h0
      obtain ⟨x9, hx10, g26⟩ := zb_of g25
      refine zo_iald (p' := 18) (zi_166 rfl) rfl hx10 ?_
      refine zo_bipush (p' := 20) (v := 38) (zi_166 rfl) rfl rfl ?_
      by_cases hc11 : x9 = 38
      · rw [if_pos hc11] at g26
        refine zo_icT (p' := 45) (zi_166 rfl) rfl hc11 ?_
        refine zgo_sub (L' := [(0, zrf (some o)), (1, .int b1)]) (⟨rfl, rfl, trivial⟩) ?_
        exact k_166_45 _ _ (fun M a0 a1 out h => ih M a0 a1 out h) M o b1 _ g26
      · rw [if_neg hc11] at g26
        refine zo_icF (p' := 23) (zi_166 rfl) rfl rfl hc11 ?_
        refine zo_aload_n (p' := 24) (zi_166 rfl) rfl rfl ?_
        obtain ⟨r12, hx13, g27⟩ := zb_of g26
        refine zo_getR (p' := 27) (zi_166 rfl) rfl zl_19_74 hx13 ?_
        refine zo_aload_n (p' := 28) (zi_166 rfl) rfl rfl ?_
        obtain ⟨x14, hx15, g28⟩ := zb_of g27
        refine zo_getI (p' := 31) (zi_166 rfl) rfl zl_19_80 hx15 ?_
        refine zo_iconst (p' := 32) (v := 1) (zi_166 rfl) rfl rfl ?_
        refine zo_isub (p' := 33) (zi_166 rfl) rfl ?_
        obtain ⟨q16, h0, g29⟩ := zb_of g28
        subst h0
        obtain ⟨x17, hx18, g30⟩ := zb_of g29
        refine zo_iald (p' := 34) (zi_166 rfl) rfl hx18 ?_
        refine zo_bipush (p' := 36) (v := 124) (zi_166 rfl) rfl rfl ?_
        by_cases hc19 : ¬ x17 = 124
        · rw [if_pos hc19] at g30
          refine zo_icT (p' := 72) (zi_166 rfl) rfl hc19 ?_
          have g31 := Option.some.inj g30
          subst g31
          exact zo_vret (zi_166 rfl) rfl
        · rw [if_neg hc19] at g30
          refine zo_icF (p' := 39) (zi_166 rfl) rfl rfl hc19 ?_
          refine zo_iload_n (p' := 40) (zi_166 rfl) rfl rfl ?_
          refine zo_bipush (p' := 42) (v := 38) (zi_166 rfl) rfl rfl ?_
          by_cases hc20 : b1 = 38
          · rw [if_pos hc20] at g30
            refine zo_icT (p' := 72) (zi_166 rfl) rfl hc20 ?_
            have g32 := Option.some.inj g30
            subst g32
            exact zo_vret (zi_166 rfl) rfl
          · rw [if_neg hc20] at g30
            refine zo_icF (p' := 45) (zi_166 rfl) rfl rfl hc20 ?_
            refine zgo_sub (L' := [(0, zrf (some o)), (1, .int b1)]) (⟨rfl, rfl, trivial⟩) ?_
            exact k_166_45 _ _ (fun M a0 a1 out h => ih M a0 a1 out h) M o b1 _ g30
def f_166 (M : ZMem) (o : Nat) (a0 : Int32) : Option (ZMem) := if zok M 12 o = true then (f_166_0 zF M o a0) else none
theorem f_166_ok {M : ZMem} {o : Nat} {a0 : Int32} {out : ZMem} (h : f_166 M o a0 = some out) : zok M 12 o = true := by
  unfold f_166 at h
  by_cases hok : zok M 12 o = true
  · exact hok
  · rw [if_neg hok] at h; cases h
set_option maxRecDepth 20000 in
theorem k_166 (d : Nat) {M : ZMem} {o : Nat} {a0 : Int32} {out : ZMem} (h : f_166 M o a0 = some out) : zrn (d + 1) 166 [zrf (some o), .int a0] M (none, out) := by
  unfold f_166 at h
  by_cases hok : zok M 12 o = true
  · rw [if_pos hok] at h
    refine zrn_of (L := [(0, zrf (some o)), (1, .int a0)]) rfl ?_
    refine zgo_sub (L' := [(0, zrf (some o)), (1, .int a0)]) (⟨rfl, rfl, trivial⟩) ?_
    exact k_166_0 _ zF M o a0 _ h
  · rw [if_neg hok] at h; cases h
/-- SlateHalvesModel.takesE(I)Z -/
def f_161_43 (r22 : ZMem → Nat → Int32 → Int32 → Option (Int32 × ZMem)) (M : ZMem) (o : Nat) (b1 : Int32) (b2 : Int32) (b3 : Int32) : Option (Int32 × ZMem) := zb (zgi M 12 24 o) fun x103 => if ¬ x103 = 4 then (zb (zgi M 12 24 o) fun x106 => zb (zpf M 12 24 o (.int ((x106 + 1))) false) fun M108 => zb (zgr M108 12 21 o) fun r110 => zb (zgi M108 12 23 o) fun x112 => zb r110 fun q114 => zb (zsa M108 20 q114 x112 b3) fun M115 => zb (zgi M115 12 23 o) fun x117 => zb (zpf M115 12 23 o (.int ((x117 + 1))) false) fun M119 => zb (zgi M119 12 12 o) fun x121 => zb (zpf M119 12 12 o (.int ((x121 + 1))) false) fun M123 => r22 M123 o b1 b2) else (some (0, M))
def f_161_122 (r22 : ZMem → Nat → Int32 → Int32 → Option (Int32 × ZMem)) (M : ZMem) (o : Nat) (b1 : Int32) (b2 : Int32) : Option (Int32 × ZMem) := zb (f_166 M o b2) fun M78 => zb (zgr M78 12 21 o) fun r79 => zb (zgi M78 12 23 o) fun x81 => zb r79 fun q83 => zb (zsa M78 20 q83 x81 b2) fun M84 => zb (zgi M84 12 23 o) fun x86 => zb (zpf M84 12 23 o (.int ((x86 + 1))) false) fun M88 => zb (zgi M88 12 12 o) fun x90 => zb (zpf M88 12 12 o (.int ((x90 + 1))) false) fun M92 => r22 M92 o b1 1
def f_161_22 : Nat → ZMem → Nat → Int32 → Int32 → Option (Int32 × ZMem)
  | 0, _, _, _, _ => none
  | z + 1, M, o, b1, b2 => zb (f_156 M o) fun x18 => if b2 = 0 then (if x18 = 38 then (f_161_122 (fun M a0 a1 a2 => f_161_22 z M a0 a1 a2) M o b1 x18) else (if ¬ x18 = 124 then (zb (f_166 M o 124) fun M25 => zb (zgr M25 12 19 o) fun r26 => zb (zgi M25 12 22 o) fun x28 => zb r26 fun q30 => zb (zsa M25 20 q30 b1 x28) fun M31 => zb (zgi M31 12 23 o) fun x33 => if ¬ x33 = 0 then (if x18 = 41 then (zb (zgi M31 12 23 o) fun x37 => zb (zpf M31 12 23 o (.int ((x37 - 1))) false) fun M39 => zb (zgi M39 12 24 o) fun x41 => zb (zpf M39 12 24 o (.int ((x41 - 1))) false) fun M43 => zb (zgi M43 12 12 o) fun x45 => zb (zpf M43 12 12 o (.int ((x45 + 1))) false) fun M47 => zb (f_165 M47 o) fun M51 => f_161_22 z M51 o b1 b2) else (some (0, M31))) else (some (1, M31))) else (f_161_122 (fun M a0 a1 a2 => f_161_22 z M a0 a1 a2) M o b1 x18))) else (if x18 = 33 then (f_161_43 (fun M a0 a1 a2 => f_161_22 z M a0 a1 a2) M o b1 b2 x18) else (if ¬ x18 = 40 then (zbd (f_162 M o) fun x54 M56 => if x54 = 0 then (some (0, M56)) else (f_161_22 z M56 o b1 0)) else (f_161_43 (fun M a0 a1 a2 => f_161_22 z M a0 a1 a2) M o b1 b2 x18)))
set_option maxRecDepth 20000 in
theorem k_161_43 (d : Nat) (r22 : ZMem → Nat → Int32 → Int32 → Option (Int32 × ZMem)) (h22 : ∀ (M : ZMem) (a0 : Nat) (a1 : Int32) (a2 : Int32) (out : Int32 × ZMem), r22 M a0 a1 a2 = some out → zgo none (d + 4) 161 22 [(0, zrf (some a0)), (1, .int a1), (2, .int a2)] [] M (some (.int out.1), out.2)) : ∀ (M : ZMem) (o : Nat) (b1 : Int32) (b2 : Int32) (b3 : Int32) (out : Int32 × ZMem), f_161_43 r22 M o b1 b2 b3 = some out → zgo none (d + 4) 161 43 [(0, zrf (some o)), (1, .int b1), (2, .int b2), (3, .int b3)] [] M (some (.int out.1), out.2) := by
  intro M o b1 b2 b3 out h
  unfold f_161_43 at h
  refine zo_aload_n (p' := 44) (zi_161 rfl) rfl rfl ?_
  obtain ⟨x103, hx104, g125⟩ := zb_of h
  refine zo_getI (p' := 47) (zi_161 rfl) rfl zl_19_83 hx104 ?_
  refine zo_iconst (p' := 48) (v := 4) (zi_161 rfl) rfl rfl ?_
  by_cases hc105 : ¬ x103 = 4
  · rw [if_pos hc105] at g125
    refine zo_icT (p' := 53) (zi_161 rfl) rfl hc105 ?_
    refine zo_aload_n (p' := 54) (zi_161 rfl) rfl rfl ?_
    refine zo_dup (p' := 55) (zi_161 rfl) rfl (zrf_cat _) ?_
    obtain ⟨x106, hx107, g126⟩ := zb_of g125
    refine zo_getI (p' := 58) (zi_161 rfl) rfl zl_19_83 hx107 ?_
    refine zo_iconst (p' := 59) (v := 1) (zi_161 rfl) rfl rfl ?_
    refine zo_iadd (p' := 60) (zi_161 rfl) rfl ?_
    obtain ⟨M108, hx109, g127⟩ := zb_of g126
    refine zo_putI (p' := 63) (zi_161 rfl) rfl zl_19_83 (zpb_161 _) hx109 ?_
    refine zo_aload_n (p' := 64) (zi_161 rfl) rfl rfl ?_
    obtain ⟨r110, hx111, g128⟩ := zb_of g127
    refine zo_getR (p' := 67) (zi_161 rfl) rfl zl_19_74 hx111 ?_
    refine zo_aload_n (p' := 68) (zi_161 rfl) rfl rfl ?_
    obtain ⟨x112, hx113, g129⟩ := zb_of g128
    refine zo_getI (p' := 71) (zi_161 rfl) rfl zl_19_80 hx113 ?_
    refine zo_iload_n (p' := 72) (zi_161 rfl) rfl rfl ?_
    obtain ⟨q114, h0, g130⟩ := zb_of g129
    subst h0
    obtain ⟨M115, hx116, g131⟩ := zb_of g130
    refine zo_iast (p' := 73) (zi_161 rfl) rfl hx116 ?_
    refine zo_aload_n (p' := 74) (zi_161 rfl) rfl rfl ?_
    refine zo_dup (p' := 75) (zi_161 rfl) rfl (zrf_cat _) ?_
    obtain ⟨x117, hx118, g132⟩ := zb_of g131
    refine zo_getI (p' := 78) (zi_161 rfl) rfl zl_19_80 hx118 ?_
    refine zo_iconst (p' := 79) (v := 1) (zi_161 rfl) rfl rfl ?_
    refine zo_iadd (p' := 80) (zi_161 rfl) rfl ?_
    obtain ⟨M119, hx120, g133⟩ := zb_of g132
    refine zo_putI (p' := 83) (zi_161 rfl) rfl zl_19_80 (zpb_161 _) hx120 ?_
    refine zo_aload_n (p' := 84) (zi_161 rfl) rfl rfl ?_
    refine zo_dup (p' := 85) (zi_161 rfl) rfl (zrf_cat _) ?_
    obtain ⟨x121, hx122, g134⟩ := zb_of g133
    refine zo_getI (p' := 88) (zi_161 rfl) rfl zl_19_47 hx122 ?_
    refine zo_iconst (p' := 89) (v := 1) (zi_161 rfl) rfl rfl ?_
    refine zo_iadd (p' := 90) (zi_161 rfl) rfl ?_
    obtain ⟨M123, hx124, g135⟩ := zb_of g134
    refine zo_putI (p' := 93) (zi_161 rfl) rfl zl_19_47 (zpb_161 _) hx124 ?_
    refine zo_goto (p' := 22) (zi_161 rfl) rfl ?_
    refine zgo_sub (L' := [(0, zrf (some o)), (1, .int b1), (2, .int b2)]) (⟨rfl, rfl, rfl, trivial⟩) ?_
    exact h22 M123 o b1 b2 _ g135
  · rw [if_neg hc105] at g125
    refine zo_icF (p' := 51) (zi_161 rfl) rfl rfl hc105 ?_
    refine zo_iconst (p' := 52) (v := 0) (zi_161 rfl) rfl rfl ?_
    have g136 := Option.some.inj g125
    subst g136
    exact zo_iret (zi_161 rfl) rfl ⟨rfl, rfl⟩
set_option maxRecDepth 20000 in
theorem k_161_122 (d : Nat) (r22 : ZMem → Nat → Int32 → Int32 → Option (Int32 × ZMem)) (h22 : ∀ (M : ZMem) (a0 : Nat) (a1 : Int32) (a2 : Int32) (out : Int32 × ZMem), r22 M a0 a1 a2 = some out → zgo none (d + 4) 161 22 [(0, zrf (some a0)), (1, .int a1), (2, .int a2)] [] M (some (.int out.1), out.2)) : ∀ (M : ZMem) (o : Nat) (b1 : Int32) (b2 : Int32) (out : Int32 × ZMem), f_161_122 r22 M o b1 b2 = some out → zgo none (d + 4) 161 122 [(0, zrf (some o)), (1, .int b1), (3, .int b2)] [] M (some (.int out.1), out.2) := by
  intro M o b1 b2 out h
  unfold f_161_122 at h
  refine zo_aload_n (p' := 123) (zi_161 rfl) rfl rfl ?_
  refine zo_iload_n (p' := 124) (zi_161 rfl) rfl rfl ?_
  obtain ⟨M78, hx77, g94⟩ := zb_of h
  refine zo_callVv (p' := 127) (t := 12) (as := [.int b2]) (r := []) (zi_161 rfl) rfl zl_19_275 rfl rfl (Or.inl ⟨by decide, rfl⟩) (Nat.le_of_ble_eq_true rfl) (Nat.le_of_ble_eq_true rfl) (f_166_ok hx77) (k_166 _ hx77) ?_
  refine zo_aload_n (p' := 128) (zi_161 rfl) rfl rfl ?_
  obtain ⟨r79, hx80, g95⟩ := zb_of g94
  refine zo_getR (p' := 131) (zi_161 rfl) rfl zl_19_74 hx80 ?_
  refine zo_aload_n (p' := 132) (zi_161 rfl) rfl rfl ?_
  obtain ⟨x81, hx82, g96⟩ := zb_of g95
  refine zo_getI (p' := 135) (zi_161 rfl) rfl zl_19_80 hx82 ?_
  refine zo_iload_n (p' := 136) (zi_161 rfl) rfl rfl ?_
  obtain ⟨q83, h0, g97⟩ := zb_of g96
  subst h0
  obtain ⟨M84, hx85, g98⟩ := zb_of g97
  refine zo_iast (p' := 137) (zi_161 rfl) rfl hx85 ?_
  refine zo_aload_n (p' := 138) (zi_161 rfl) rfl rfl ?_
  refine zo_dup (p' := 139) (zi_161 rfl) rfl (zrf_cat _) ?_
  obtain ⟨x86, hx87, g99⟩ := zb_of g98
  refine zo_getI (p' := 142) (zi_161 rfl) rfl zl_19_80 hx87 ?_
  refine zo_iconst (p' := 143) (v := 1) (zi_161 rfl) rfl rfl ?_
  refine zo_iadd (p' := 144) (zi_161 rfl) rfl ?_
  obtain ⟨M88, hx89, g100⟩ := zb_of g99
  refine zo_putI (p' := 147) (zi_161 rfl) rfl zl_19_80 (zpb_161 _) hx89 ?_
  refine zo_iconst (p' := 148) (v := 1) (zi_161 rfl) rfl rfl ?_
  refine zo_istore_n (p' := 149) (L' := [(0, zrf (some o)), (1, .int b1), (2, .int 1), (3, .int b2)]) (zi_161 rfl) rfl zm_161_2 ⟨Or.inr ⟨by decide, rfl, fun q => absurd q (by decide)⟩, ⟨Or.inr ⟨by decide, rfl, fun _ => rfl⟩, ⟨Or.inl ⟨rfl, rfl⟩, ⟨Or.inr ⟨by decide, rfl, fun q => absurd q (by decide)⟩, trivial⟩⟩⟩⟩ ?_
  refine zo_aload_n (p' := 150) (zi_161 rfl) rfl rfl ?_
  refine zo_dup (p' := 151) (zi_161 rfl) rfl (zrf_cat _) ?_
  obtain ⟨x90, hx91, g101⟩ := zb_of g100
  refine zo_getI (p' := 154) (zi_161 rfl) rfl zl_19_47 hx91 ?_
  refine zo_iconst (p' := 155) (v := 1) (zi_161 rfl) rfl rfl ?_
  refine zo_iadd (p' := 156) (zi_161 rfl) rfl ?_
  obtain ⟨M92, hx93, g102⟩ := zb_of g101
  refine zo_putI (p' := 159) (zi_161 rfl) rfl zl_19_47 (zpb_161 _) hx93 ?_
  refine zo_goto (p' := 22) (zi_161 rfl) rfl ?_
  refine zgo_sub (L' := [(0, zrf (some o)), (1, .int b1), (2, .int 1)]) (⟨rfl, rfl, rfl, trivial⟩) ?_
  exact h22 M92 o b1 1 _ g102
set_option maxRecDepth 20000 in
theorem k_161_22 (d : Nat) : ∀ (z : Nat) (M : ZMem) (o : Nat) (b1 : Int32) (b2 : Int32) (out : Int32 × ZMem), f_161_22 z M o b1 b2 = some out → zgo none (d + 4) 161 22 [(0, zrf (some o)), (1, .int b1), (2, .int b2)] [] M (some (.int out.1), out.2) := by
  intro z
  induction z with
  | zero => intro M o b1 b2 out h; cases h
  | succ z ih =>
    intro M o b1 b2 out h
    rw [f_161_22] at h
    refine zo_aload_n (p' := 23) (zi_161 rfl) rfl rfl ?_
    obtain ⟨x18, hx19, g58⟩ := zb_of h
    refine zo_callVi (p' := 26) (t := 12) (as := []) (r := []) (zi_161 rfl) rfl zl_19_247 rfl rfl (Or.inl ⟨by decide, rfl⟩) (Nat.le_of_ble_eq_true rfl) (Nat.le_of_ble_eq_true rfl) (f_156_ok hx19) (k_156 _ hx19) ?_
    refine zo_istore_n (p' := 27) (L' := [(0, zrf (some o)), (1, .int b1), (2, .int b2), (3, .int x18)]) (zi_161 rfl) rfl zm_161_3 ⟨Or.inr ⟨by decide, rfl, fun q => absurd q (by decide)⟩, ⟨Or.inr ⟨by decide, rfl, fun q => absurd q (by decide)⟩, ⟨Or.inr ⟨by decide, rfl, fun _ => rfl⟩, ⟨Or.inl ⟨rfl, rfl⟩, trivial⟩⟩⟩⟩ ?_
    refine zo_iload_n (p' := 28) (zi_161 rfl) rfl rfl ?_
    by_cases hc20 : b2 = 0
    · rw [if_pos hc20] at g58
      refine zo_ifT (p' := 110) (zi_161 rfl) rfl hc20 ?_
      refine zo_iload_n (p' := 111) (zi_161 rfl) rfl rfl ?_
      refine zo_bipush (p' := 113) (v := 38) (zi_161 rfl) rfl rfl ?_
      by_cases hc21 : x18 = 38
      · rw [if_pos hc21] at g58
        refine zo_icT (p' := 122) (zi_161 rfl) rfl hc21 ?_
        refine zgo_sub (L' := [(0, zrf (some o)), (1, .int b1), (3, .int x18)]) (⟨rfl, rfl, rfl, trivial⟩) ?_
        exact k_161_122 _ _ (fun M a0 a1 a2 out h => ih M a0 a1 a2 out h) M o b1 x18 _ g58
      · rw [if_neg hc21] at g58
        refine zo_icF (p' := 116) (zi_161 rfl) rfl rfl hc21 ?_
        refine zo_iload_n (p' := 117) (zi_161 rfl) rfl rfl ?_
        refine zo_bipush (p' := 119) (v := 124) (zi_161 rfl) rfl rfl ?_
        by_cases hc22 : ¬ x18 = 124
        · rw [if_pos hc22] at g58
          refine zo_icT (p' := 162) (zi_161 rfl) rfl hc22 ?_
          refine zo_aload_n (p' := 163) (zi_161 rfl) rfl rfl ?_
          refine zo_bipush (p' := 165) (v := 124) (zi_161 rfl) rfl rfl ?_
          obtain ⟨M25, hx24, g59⟩ := zb_of g58
          refine zo_callVv (p' := 168) (t := 12) (as := [.int 124]) (r := []) (zi_161 rfl) rfl zl_19_275 rfl rfl (Or.inl ⟨by decide, rfl⟩) (Nat.le_of_ble_eq_true rfl) (Nat.le_of_ble_eq_true rfl) (f_166_ok hx24) (k_166 _ hx24) ?_
          refine zo_aload_n (p' := 169) (zi_161 rfl) rfl rfl ?_
          obtain ⟨r26, hx27, g60⟩ := zb_of g59
          refine zo_getR (p' := 172) (zi_161 rfl) rfl zl_19_68 hx27 ?_
          refine zo_iload_n (p' := 173) (zi_161 rfl) rfl rfl ?_
          refine zo_aload_n (p' := 174) (zi_161 rfl) rfl rfl ?_
          obtain ⟨x28, hx29, g61⟩ := zb_of g60
          refine zo_getI (p' := 177) (zi_161 rfl) rfl zl_19_77 hx29 ?_
          obtain ⟨q30, h0, g62⟩ := zb_of g61
          subst h0
          obtain ⟨M31, hx32, g63⟩ := zb_of g62
          refine zo_iast (p' := 178) (zi_161 rfl) rfl hx32 ?_
          refine zo_aload_n (p' := 179) (zi_161 rfl) rfl rfl ?_
          obtain ⟨x33, hx34, g64⟩ := zb_of g63
          refine zo_getI (p' := 182) (zi_161 rfl) rfl zl_19_80 hx34 ?_
          by_cases hc35 : ¬ x33 = 0
          · rw [if_pos hc35] at g64
            refine zo_ifT (p' := 187) (zi_161 rfl) rfl hc35 ?_
            refine zo_iload_n (p' := 188) (zi_161 rfl) rfl rfl ?_
            refine zo_bipush (p' := 190) (v := 41) (zi_161 rfl) rfl rfl ?_
            by_cases hc36 : x18 = 41
            · rw [if_pos hc36] at g64
              refine zo_icT (p' := 195) (zi_161 rfl) rfl hc36 ?_
              refine zo_aload_n (p' := 196) (zi_161 rfl) rfl rfl ?_
              refine zo_dup (p' := 197) (zi_161 rfl) rfl (zrf_cat _) ?_
              obtain ⟨x37, hx38, g65⟩ := zb_of g64
              refine zo_getI (p' := 200) (zi_161 rfl) rfl zl_19_80 hx38 ?_
              refine zo_iconst (p' := 201) (v := 1) (zi_161 rfl) rfl rfl ?_
              refine zo_isub (p' := 202) (zi_161 rfl) rfl ?_
              obtain ⟨M39, hx40, g66⟩ := zb_of g65
              refine zo_putI (p' := 205) (zi_161 rfl) rfl zl_19_80 (zpb_161 _) hx40 ?_
              refine zo_aload_n (p' := 206) (zi_161 rfl) rfl rfl ?_
              refine zo_dup (p' := 207) (zi_161 rfl) rfl (zrf_cat _) ?_
              obtain ⟨x41, hx42, g67⟩ := zb_of g66
              refine zo_getI (p' := 210) (zi_161 rfl) rfl zl_19_83 hx42 ?_
              refine zo_iconst (p' := 211) (v := 1) (zi_161 rfl) rfl rfl ?_
              refine zo_isub (p' := 212) (zi_161 rfl) rfl ?_
              obtain ⟨M43, hx44, g68⟩ := zb_of g67
              refine zo_putI (p' := 215) (zi_161 rfl) rfl zl_19_83 (zpb_161 _) hx44 ?_
              refine zo_aload_n (p' := 216) (zi_161 rfl) rfl rfl ?_
              refine zo_dup (p' := 217) (zi_161 rfl) rfl (zrf_cat _) ?_
              obtain ⟨x45, hx46, g69⟩ := zb_of g68
              refine zo_getI (p' := 220) (zi_161 rfl) rfl zl_19_47 hx46 ?_
              refine zo_iconst (p' := 221) (v := 1) (zi_161 rfl) rfl rfl ?_
              refine zo_iadd (p' := 222) (zi_161 rfl) rfl ?_
              obtain ⟨M47, hx48, g70⟩ := zb_of g69
              refine zo_putI (p' := 225) (zi_161 rfl) rfl zl_19_47 (zpb_161 _) hx48 ?_
              refine zo_aload_n (p' := 226) (zi_161 rfl) rfl rfl ?_
              obtain ⟨M51, hx50, g71⟩ := zb_of g70
              refine zo_callVv (p' := 229) (t := 12) (as := []) (r := []) (zi_161 rfl) rfl zl_19_269 rfl rfl (Or.inl ⟨by decide, rfl⟩) (Nat.le_of_ble_eq_true rfl) (Nat.le_of_ble_eq_true rfl) (f_165_ok hx50) (k_165 _ hx50) ?_
              refine zo_goto (p' := 22) (zi_161 rfl) rfl ?_
              refine zgo_sub (L' := [(0, zrf (some o)), (1, .int b1), (2, .int b2)]) (⟨rfl, rfl, rfl, trivial⟩) ?_
              exact ih M51 o b1 b2 _ g71
            · rw [if_neg hc36] at g64
              refine zo_icF (p' := 193) (zi_161 rfl) rfl rfl hc36 ?_
              refine zo_iconst (p' := 194) (v := 0) (zi_161 rfl) rfl rfl ?_
              have g72 := Option.some.inj g64
              subst g72
              exact zo_iret (zi_161 rfl) rfl ⟨rfl, rfl⟩
          · rw [if_neg hc35] at g64
            refine zo_ifF (p' := 185) (zi_161 rfl) rfl rfl hc35 ?_
            refine zo_iconst (p' := 186) (v := 1) (zi_161 rfl) rfl rfl ?_
            have g73 := Option.some.inj g64
            subst g73
            exact zo_iret (zi_161 rfl) rfl ⟨rfl, rfl⟩
        · rw [if_neg hc22] at g58
          refine zo_icF (p' := 122) (zi_161 rfl) rfl rfl hc22 ?_
          refine zgo_sub (L' := [(0, zrf (some o)), (1, .int b1), (3, .int x18)]) (⟨rfl, rfl, rfl, trivial⟩) ?_
          exact k_161_122 _ _ (fun M a0 a1 a2 out h => ih M a0 a1 a2 out h) M o b1 x18 _ g58
    · rw [if_neg hc20] at g58
      refine zo_ifF (p' := 31) (zi_161 rfl) rfl rfl hc20 ?_
      refine zo_iload_n (p' := 32) (zi_161 rfl) rfl rfl ?_
      refine zo_bipush (p' := 34) (v := 33) (zi_161 rfl) rfl rfl ?_
      by_cases hc52 : x18 = 33
      · rw [if_pos hc52] at g58
        refine zo_icT (p' := 43) (zi_161 rfl) rfl hc52 ?_
        refine zgo_sub (L' := [(0, zrf (some o)), (1, .int b1), (2, .int b2), (3, .int x18)]) (⟨rfl, rfl, rfl, rfl, trivial⟩) ?_
        exact k_161_43 _ _ (fun M a0 a1 a2 out h => ih M a0 a1 a2 out h) M o b1 b2 x18 _ g58
      · rw [if_neg hc52] at g58
        refine zo_icF (p' := 37) (zi_161 rfl) rfl rfl hc52 ?_
        refine zo_iload_n (p' := 38) (zi_161 rfl) rfl rfl ?_
        refine zo_bipush (p' := 40) (v := 40) (zi_161 rfl) rfl rfl ?_
        by_cases hc53 : ¬ x18 = 40
        · rw [if_pos hc53] at g58
          refine zo_icT (p' := 96) (zi_161 rfl) rfl hc53 ?_
          refine zo_aload_n (p' := 97) (zi_161 rfl) rfl rfl ?_
          obtain ⟨x54, M56, hx55, g74⟩ := zbd_of g58
          refine zo_callVi (p' := 100) (t := 12) (as := []) (r := []) (zi_161 rfl) rfl zl_19_272 rfl rfl (Or.inl ⟨by decide, rfl⟩) (Nat.le_of_ble_eq_true rfl) (Nat.le_of_ble_eq_true rfl) (f_162_ok hx55) (k_162 _ hx55) ?_
          by_cases hc57 : x54 = 0
          · rw [if_pos hc57] at g74
            refine zo_ifT (p' := 108) (zi_161 rfl) rfl hc57 ?_
            refine zo_iconst (p' := 109) (v := 0) (zi_161 rfl) rfl rfl ?_
            have g75 := Option.some.inj g74
            subst g75
            exact zo_iret (zi_161 rfl) rfl ⟨rfl, rfl⟩
          · rw [if_neg hc57] at g74
            refine zo_ifF (p' := 103) (zi_161 rfl) rfl rfl hc57 ?_
            refine zo_iconst (p' := 104) (v := 0) (zi_161 rfl) rfl rfl ?_
            refine zo_istore_n (p' := 105) (L' := [(0, zrf (some o)), (1, .int b1), (2, .int 0), (3, .int x18)]) (zi_161 rfl) rfl zm_161_2 ⟨Or.inr ⟨by decide, rfl, fun q => absurd q (by decide)⟩, ⟨Or.inr ⟨by decide, rfl, fun _ => rfl⟩, ⟨Or.inl ⟨rfl, rfl⟩, ⟨Or.inr ⟨by decide, rfl, fun q => absurd q (by decide)⟩, trivial⟩⟩⟩⟩ ?_
            refine zo_goto (p' := 22) (zi_161 rfl) rfl ?_
            refine zgo_sub (L' := [(0, zrf (some o)), (1, .int b1), (2, .int 0)]) (⟨rfl, rfl, rfl, trivial⟩) ?_
            exact ih M56 o b1 0 _ g74
        · rw [if_neg hc53] at g58
          refine zo_icF (p' := 43) (zi_161 rfl) rfl rfl hc53 ?_
          refine zgo_sub (L' := [(0, zrf (some o)), (1, .int b1), (2, .int b2), (3, .int x18)]) (⟨rfl, rfl, rfl, rfl, trivial⟩) ?_
          exact k_161_43 _ _ (fun M a0 a1 a2 out h => ih M a0 a1 a2 out h) M o b1 b2 x18 _ g58
def f_161 (M : ZMem) (o : Nat) (a0 : Int32) : Option (Int32 × ZMem) := if zok M 12 o = true then (zb (zpf M 12 23 o (.int 0) false) fun M1 => zb (zpf M1 12 24 o (.int 0) false) fun M3 => zb (zgr M3 12 18 o) fun r5 => zb (zgi M3 12 22 o) fun x7 => zb r5 fun q9 => zb (zsa M3 20 q9 a0 x7) fun M10 => f_161_22 zF M10 o a0 1) else none
theorem f_161_ok {M : ZMem} {o : Nat} {a0 : Int32} {out : Int32 × ZMem} (h : f_161 M o a0 = some out) : zok M 12 o = true := by
  unfold f_161 at h
  by_cases hok : zok M 12 o = true
  · exact hok
  · rw [if_neg hok] at h; cases h
set_option maxRecDepth 20000 in
theorem k_161 (d : Nat) {M : ZMem} {o : Nat} {a0 : Int32} {out : Int32 × ZMem} (h : f_161 M o a0 = some out) : zrn (d + 4) 161 [zrf (some o), .int a0] M (some (.int out.1), out.2) := by
  unfold f_161 at h
  by_cases hok : zok M 12 o = true
  · rw [if_pos hok] at h
    refine zrn_of (L := [(0, zrf (some o)), (1, .int a0)]) rfl ?_
    refine zo_aload_n (p' := 1) (zi_161 rfl) rfl rfl ?_
    refine zo_iconst (p' := 2) (v := 0) (zi_161 rfl) rfl rfl ?_
    obtain ⟨M1, hx2, g12⟩ := zb_of h
    refine zo_putI (p' := 5) (zi_161 rfl) rfl zl_19_80 (zpb_161 _) hx2 ?_
    refine zo_aload_n (p' := 6) (zi_161 rfl) rfl rfl ?_
    refine zo_iconst (p' := 7) (v := 0) (zi_161 rfl) rfl rfl ?_
    obtain ⟨M3, hx4, g13⟩ := zb_of g12
    refine zo_putI (p' := 10) (zi_161 rfl) rfl zl_19_83 (zpb_161 _) hx4 ?_
    refine zo_aload_n (p' := 11) (zi_161 rfl) rfl rfl ?_
    obtain ⟨r5, hx6, g14⟩ := zb_of g13
    refine zo_getR (p' := 14) (zi_161 rfl) rfl zl_19_65 hx6 ?_
    refine zo_iload_n (p' := 15) (zi_161 rfl) rfl rfl ?_
    refine zo_aload_n (p' := 16) (zi_161 rfl) rfl rfl ?_
    obtain ⟨x7, hx8, g15⟩ := zb_of g14
    refine zo_getI (p' := 19) (zi_161 rfl) rfl zl_19_77 hx8 ?_
    obtain ⟨q9, h0, g16⟩ := zb_of g15
    subst h0
    obtain ⟨M10, hx11, g17⟩ := zb_of g16
    refine zo_iast (p' := 20) (zi_161 rfl) rfl hx11 ?_
    refine zo_iconst (p' := 21) (v := 1) (zi_161 rfl) rfl rfl ?_
    refine zo_istore_n (p' := 22) (L' := [(0, zrf (some o)), (1, .int a0), (2, .int 1)]) (zi_161 rfl) rfl zm_161_2 ⟨Or.inr ⟨by decide, rfl, fun q => absurd q (by decide)⟩, ⟨Or.inr ⟨by decide, rfl, fun _ => rfl⟩, ⟨Or.inl ⟨rfl, rfl⟩, trivial⟩⟩⟩ ?_
    refine zgo_sub (L' := [(0, zrf (some o)), (1, .int a0), (2, .int 1)]) (⟨rfl, rfl, rfl, trivial⟩) ?_
    exact k_161_22 _ zF M10 o a0 1 _ g17
  · rw [if_neg hok] at h; cases h
/-- SlateHalvesModel.takesClause(I)Z -/
def f_154 (M : ZMem) (o : Nat) (a0 : Int32) : Option (Int32 × ZMem) := if zok M 12 o = true then (zbd (f_155 M o a0) fun x1 M3 => if x1 = 0 then (some (0, M3)) else (zbd (f_159 M3 o) fun x5 M7 => if ¬ x5 = 0 then (zb (zgr M7 12 17 o) fun r9 => zb (zgi M7 12 13 o) fun x11 => zb r9 fun q13 => zb (zsa M7 20 q13 a0 x11) fun M14 => zb (zgr M14 12 16 o) fun r16 => zb r16 fun q18 => zb (zai M14 q18 a0) fun x19 => if 2 ≤ x19 then (some (1, M14)) else (zbd (f_158 M14 o 32) fun x22 M24 => if x22 = 0 then (some (0, M24)) else (zbd (f_161 M24 o a0) fun x26 M28 => if x26 = 0 then (some (0, M28)) else (some (1, M28))))) else (some (0, M7)))) else none
theorem f_154_ok {M : ZMem} {o : Nat} {a0 : Int32} {out : Int32 × ZMem} (h : f_154 M o a0 = some out) : zok M 12 o = true := by
  unfold f_154 at h
  by_cases hok : zok M 12 o = true
  · exact hok
  · rw [if_neg hok] at h; cases h
set_option maxRecDepth 20000 in
theorem k_154 (d : Nat) {M : ZMem} {o : Nat} {a0 : Int32} {out : Int32 × ZMem} (h : f_154 M o a0 = some out) : zrn (d + 5) 154 [zrf (some o), .int a0] M (some (.int out.1), out.2) := by
  unfold f_154 at h
  by_cases hok : zok M 12 o = true
  · rw [if_pos hok] at h
    refine zrn_of (L := [(0, zrf (some o)), (1, .int a0)]) rfl ?_
    refine zo_aload_n (p' := 1) (zi_154 rfl) rfl rfl ?_
    refine zo_iload_n (p' := 2) (zi_154 rfl) rfl rfl ?_
    obtain ⟨x1, M3, hx2, g30⟩ := zbd_of h
    refine zo_callVi (p' := 5) (t := 12) (as := [.int a0]) (r := []) (zi_154 rfl) rfl zl_19_282 rfl rfl (Or.inl ⟨by decide, rfl⟩) (Nat.le_of_ble_eq_true rfl) (Nat.le_of_ble_eq_true rfl) (f_155_ok hx2) (k_155 _ hx2) ?_
    by_cases hc4 : x1 = 0
    · rw [if_pos hc4] at g30
      refine zo_ifT (p' := 15) (zi_154 rfl) rfl hc4 ?_
      refine zo_iconst (p' := 16) (v := 0) (zi_154 rfl) rfl rfl ?_
      have g31 := Option.some.inj g30
      subst g31
      exact zo_iret (zi_154 rfl) rfl ⟨rfl, rfl⟩
    · rw [if_neg hc4] at g30
      refine zo_ifF (p' := 8) (zi_154 rfl) rfl rfl hc4 ?_
      refine zo_aload_n (p' := 9) (zi_154 rfl) rfl rfl ?_
      obtain ⟨x5, M7, hx6, g32⟩ := zbd_of g30
      refine zo_callVi (p' := 12) (t := 12) (as := []) (r := []) (zi_154 rfl) rfl zl_19_266 rfl rfl (Or.inl ⟨by decide, rfl⟩) (Nat.le_of_ble_eq_true rfl) (Nat.le_of_ble_eq_true rfl) (f_159_ok hx6) (k_159 _ hx6) ?_
      by_cases hc8 : ¬ x5 = 0
      · rw [if_pos hc8] at g32
        refine zo_ifT (p' := 17) (zi_154 rfl) rfl hc8 ?_
        refine zo_aload_n (p' := 18) (zi_154 rfl) rfl rfl ?_
        obtain ⟨r9, hx10, g33⟩ := zb_of g32
        refine zo_getR (p' := 21) (zi_154 rfl) rfl zl_19_62 hx10 ?_
        refine zo_iload_n (p' := 22) (zi_154 rfl) rfl rfl ?_
        refine zo_aload_n (p' := 23) (zi_154 rfl) rfl rfl ?_
        obtain ⟨x11, hx12, g34⟩ := zb_of g33
        refine zo_getI (p' := 26) (zi_154 rfl) rfl zl_19_50 hx12 ?_
        obtain ⟨q13, h0, g35⟩ := zb_of g34
        subst h0
        obtain ⟨M14, hx15, g36⟩ := zb_of g35
        refine zo_iast (p' := 27) (zi_154 rfl) rfl hx15 ?_
        refine zo_aload_n (p' := 28) (zi_154 rfl) rfl rfl ?_
        obtain ⟨r16, hx17, g37⟩ := zb_of g36
        refine zo_getR (p' := 31) (zi_154 rfl) rfl zl_19_59 hx17 ?_
        refine zo_iload_n (p' := 32) (zi_154 rfl) rfl rfl ?_
        obtain ⟨q18, h0, g38⟩ := zb_of g37
        subst h0
        obtain ⟨x19, hx20, g39⟩ := zb_of g38
        refine zo_iald (p' := 33) (zi_154 rfl) rfl hx20 ?_
        refine zo_iconst (p' := 34) (v := 2) (zi_154 rfl) rfl rfl ?_
        by_cases hc21 : 2 ≤ x19
        · rw [if_pos hc21] at g39
          refine zo_icT (p' := 54) (zi_154 rfl) rfl hc21 ?_
          refine zo_iconst (p' := 55) (v := 1) (zi_154 rfl) rfl rfl ?_
          refine zo_goto (p' := 59) (zi_154 rfl) rfl ?_
          have g40 := Option.some.inj g39
          subst g40
          exact zo_iret (zi_154 rfl) rfl ⟨rfl, rfl⟩
        · rw [if_neg hc21] at g39
          refine zo_icF (p' := 37) (zi_154 rfl) rfl rfl hc21 ?_
          refine zo_aload_n (p' := 38) (zi_154 rfl) rfl rfl ?_
          refine zo_bipush (p' := 40) (v := 32) (zi_154 rfl) rfl rfl ?_
          obtain ⟨x22, M24, hx23, g41⟩ := zbd_of g39
          refine zo_callVi (p' := 43) (t := 12) (as := [.int 32]) (r := []) (zi_154 rfl) rfl zl_19_251 rfl rfl (Or.inl ⟨by decide, rfl⟩) (Nat.le_of_ble_eq_true rfl) (Nat.le_of_ble_eq_true rfl) (f_158_ok hx23) (k_158 _ hx23) ?_
          by_cases hc25 : x22 = 0
          · rw [if_pos hc25] at g41
            refine zo_ifT (p' := 58) (zi_154 rfl) rfl hc25 ?_
            refine zo_iconst (p' := 59) (v := 0) (zi_154 rfl) rfl rfl ?_
            have g42 := Option.some.inj g41
            subst g42
            exact zo_iret (zi_154 rfl) rfl ⟨rfl, rfl⟩
          · rw [if_neg hc25] at g41
            refine zo_ifF (p' := 46) (zi_154 rfl) rfl rfl hc25 ?_
            refine zo_aload_n (p' := 47) (zi_154 rfl) rfl rfl ?_
            refine zo_iload_n (p' := 48) (zi_154 rfl) rfl rfl ?_
            obtain ⟨x26, M28, hx27, g43⟩ := zbd_of g41
            refine zo_callVi (p' := 51) (t := 12) (as := [.int a0]) (r := []) (zi_154 rfl) rfl zl_19_285 rfl rfl (Or.inl ⟨by decide, rfl⟩) (Nat.le_of_ble_eq_true rfl) (Nat.le_of_ble_eq_true rfl) (f_161_ok hx27) (k_161 _ hx27) ?_
            by_cases hc29 : x26 = 0
            · rw [if_pos hc29] at g43
              refine zo_ifT (p' := 58) (zi_154 rfl) rfl hc29 ?_
              refine zo_iconst (p' := 59) (v := 0) (zi_154 rfl) rfl rfl ?_
              have g44 := Option.some.inj g43
              subst g44
              exact zo_iret (zi_154 rfl) rfl ⟨rfl, rfl⟩
            · rw [if_neg hc29] at g43
              refine zo_ifF (p' := 54) (zi_154 rfl) rfl rfl hc29 ?_
              refine zo_iconst (p' := 55) (v := 1) (zi_154 rfl) rfl rfl ?_
              refine zo_goto (p' := 59) (zi_154 rfl) rfl ?_
              have g45 := Option.some.inj g43
              subst g45
              exact zo_iret (zi_154 rfl) rfl ⟨rfl, rfl⟩
      · rw [if_neg hc8] at g32
        refine zo_ifF (p' := 15) (zi_154 rfl) rfl rfl hc8 ?_
        refine zo_iconst (p' := 16) (v := 0) (zi_154 rfl) rfl rfl ?_
        have g46 := Option.some.inj g32
        subst g46
        exact zo_iret (zi_154 rfl) rfl ⟨rfl, rfl⟩
  · rw [if_neg hok] at h; cases h
/-- SlateHalvesModel.goesText(I)Z -/
def f_153_15 : Nat → ZMem → Nat → Int32 → Int32 → Option (Int32 × ZMem)
  | 0, _, _, _, _ => none
  | z + 1, M, o, b1, b2 => zbd (f_154 M o (((10 * b1) + b2))) fun x7 M9 => if ¬ x7 = 0 then (zb (zgr M9 12 15 o) fun r11 => zb r11 fun q13 => zb (zsa M9 20 q13 b1 (b2 + 1)) fun M14 => zb (zgi M14 12 12 o) fun x16 => zb (zgi M14 12 11 o) fun x18 => if ¬ x16 = x18 then (if (b2 + 1) = 10 then (some (0, M14)) else (zbd (f_158 M14 o 59) fun x22 M24 => if ¬ x22 = 0 then (f_153_15 z M24 o b1 ((b2 + 1))) else (some (0, M24)))) else (some (1, M14))) else (some (0, M9))
set_option maxRecDepth 20000 in
theorem k_153_15 (d : Nat) : ∀ (z : Nat) (M : ZMem) (o : Nat) (b1 : Int32) (b2 : Int32) (out : Int32 × ZMem), f_153_15 z M o b1 b2 = some out → zgo none (d + 6) 153 15 [(0, zrf (some o)), (1, .int b1), (2, .int b2)] [] M (some (.int out.1), out.2) := by
  intro z
  induction z with
  | zero => intro M o b1 b2 out h; cases h
  | succ z ih =>
    intro M o b1 b2 out h
    rw [f_153_15] at h
    refine zo_aload_n (p' := 16) (zi_153 rfl) rfl rfl ?_
    refine zo_bipush (p' := 18) (v := 10) (zi_153 rfl) rfl rfl ?_
    refine zo_iload_n (p' := 19) (zi_153 rfl) rfl rfl ?_
    refine zo_imul (p' := 20) (zi_153 rfl) rfl ?_
    refine zo_iload_n (p' := 21) (zi_153 rfl) rfl rfl ?_
    refine zo_iadd (p' := 22) (zi_153 rfl) rfl ?_
    obtain ⟨x7, M9, hx8, g26⟩ := zbd_of h
    refine zo_callVi (p' := 25) (t := 12) (as := [.int (((10 * b1) + b2))]) (r := []) (zi_153 rfl) rfl zl_19_288 rfl rfl (Or.inl ⟨by decide, rfl⟩) (Nat.le_of_ble_eq_true rfl) (Nat.le_of_ble_eq_true rfl) (f_154_ok hx8) (k_154 _ hx8) ?_
    by_cases hc10 : ¬ x7 = 0
    · rw [if_pos hc10] at g26
      refine zo_ifT (p' := 30) (zi_153 rfl) rfl hc10 ?_
      refine zo_iinc (p' := 33) (v := (b2 + 1)) (L' := [(0, zrf (some o)), (1, .int b1), (2, .int ((b2 + 1)))]) (zi_153 rfl) rfl zm_153_2 rfl rfl ⟨Or.inr ⟨by decide, rfl, fun q => absurd q (by decide)⟩, ⟨Or.inr ⟨by decide, rfl, fun _ => rfl⟩, ⟨Or.inl ⟨rfl, rfl⟩, trivial⟩⟩⟩ ?_
      refine zo_aload_n (p' := 34) (zi_153 rfl) rfl rfl ?_
      obtain ⟨r11, hx12, g27⟩ := zb_of g26
      refine zo_getR (p' := 37) (zi_153 rfl) rfl zl_19_56 hx12 ?_
      refine zo_iload_n (p' := 38) (zi_153 rfl) rfl rfl ?_
      refine zo_iload_n (p' := 39) (zi_153 rfl) rfl rfl ?_
      obtain ⟨q13, h0, g28⟩ := zb_of g27
      subst h0
      obtain ⟨M14, hx15, g29⟩ := zb_of g28
      refine zo_iast (p' := 40) (zi_153 rfl) rfl hx15 ?_
      refine zo_aload_n (p' := 41) (zi_153 rfl) rfl rfl ?_
      obtain ⟨x16, hx17, g30⟩ := zb_of g29
      refine zo_getI (p' := 44) (zi_153 rfl) rfl zl_19_47 hx17 ?_
      refine zo_aload_n (p' := 45) (zi_153 rfl) rfl rfl ?_
      obtain ⟨x18, hx19, g31⟩ := zb_of g30
      refine zo_getI (p' := 48) (zi_153 rfl) rfl zl_19_44 hx19 ?_
      by_cases hc20 : ¬ x16 = x18
      · rw [if_pos hc20] at g31
        refine zo_icT (p' := 53) (zi_153 rfl) rfl hc20 ?_
        refine zo_iload_n (p' := 54) (zi_153 rfl) rfl rfl ?_
        refine zo_bipush (p' := 56) (v := 10) (zi_153 rfl) rfl rfl ?_
        by_cases hc21 : (b2 + 1) = 10
        · rw [if_pos hc21] at g31
          refine zo_icT (p' := 68) (zi_153 rfl) rfl hc21 ?_
          refine zo_iconst (p' := 69) (v := 0) (zi_153 rfl) rfl rfl ?_
          have g32 := Option.some.inj g31
          subst g32
          exact zo_iret (zi_153 rfl) rfl ⟨rfl, rfl⟩
        · rw [if_neg hc21] at g31
          refine zo_icF (p' := 59) (zi_153 rfl) rfl rfl hc21 ?_
          refine zo_aload_n (p' := 60) (zi_153 rfl) rfl rfl ?_
          refine zo_bipush (p' := 62) (v := 59) (zi_153 rfl) rfl rfl ?_
          obtain ⟨x22, M24, hx23, g33⟩ := zbd_of g31
          refine zo_callVi (p' := 65) (t := 12) (as := [.int 59]) (r := []) (zi_153 rfl) rfl zl_19_251 rfl rfl (Or.inl ⟨by decide, rfl⟩) (Nat.le_of_ble_eq_true rfl) (Nat.le_of_ble_eq_true rfl) (f_158_ok hx23) (k_158 _ hx23) ?_
          by_cases hc25 : ¬ x22 = 0
          · rw [if_pos hc25] at g33
            refine zo_ifT (p' := 15) (zi_153 rfl) rfl hc25 ?_
            refine zgo_sub (L' := [(0, zrf (some o)), (1, .int b1), (2, .int (((b2 + 1))))]) (⟨rfl, rfl, rfl, trivial⟩) ?_
            exact ih M24 o b1 ((b2 + 1)) _ g33
          · rw [if_neg hc25] at g33
            refine zo_ifF (p' := 68) (zi_153 rfl) rfl rfl hc25 ?_
            refine zo_iconst (p' := 69) (v := 0) (zi_153 rfl) rfl rfl ?_
            have g34 := Option.some.inj g33
            subst g34
            exact zo_iret (zi_153 rfl) rfl ⟨rfl, rfl⟩
      · rw [if_neg hc20] at g31
        refine zo_icF (p' := 51) (zi_153 rfl) rfl rfl hc20 ?_
        refine zo_iconst (p' := 52) (v := 1) (zi_153 rfl) rfl rfl ?_
        have g35 := Option.some.inj g31
        subst g35
        exact zo_iret (zi_153 rfl) rfl ⟨rfl, rfl⟩
    · rw [if_neg hc10] at g26
      refine zo_ifF (p' := 28) (zi_153 rfl) rfl rfl hc10 ?_
      refine zo_iconst (p' := 29) (v := 0) (zi_153 rfl) rfl rfl ?_
      have g36 := Option.some.inj g26
      subst g36
      exact zo_iret (zi_153 rfl) rfl ⟨rfl, rfl⟩
def f_153 (M : ZMem) (o : Nat) (a0 : Int32) : Option (Int32 × ZMem) := if zok M 12 o = true then (zb (zpf M 12 12 o (.int 0) false) fun M1 => zb (zpf M1 12 22 o (.int ((100 * a0))) false) fun M3 => f_153_15 zF M3 o a0 0) else none
theorem f_153_ok {M : ZMem} {o : Nat} {a0 : Int32} {out : Int32 × ZMem} (h : f_153 M o a0 = some out) : zok M 12 o = true := by
  unfold f_153 at h
  by_cases hok : zok M 12 o = true
  · exact hok
  · rw [if_neg hok] at h; cases h
set_option maxRecDepth 20000 in
theorem k_153 (d : Nat) {M : ZMem} {o : Nat} {a0 : Int32} {out : Int32 × ZMem} (h : f_153 M o a0 = some out) : zrn (d + 6) 153 [zrf (some o), .int a0] M (some (.int out.1), out.2) := by
  unfold f_153 at h
  by_cases hok : zok M 12 o = true
  · rw [if_pos hok] at h
    refine zrn_of (L := [(0, zrf (some o)), (1, .int a0)]) rfl ?_
    refine zo_aload_n (p' := 1) (zi_153 rfl) rfl rfl ?_
    refine zo_iconst (p' := 2) (v := 0) (zi_153 rfl) rfl rfl ?_
    obtain ⟨M1, hx2, g5⟩ := zb_of h
    refine zo_putI (p' := 5) (zi_153 rfl) rfl zl_19_47 (zpb_153 _) hx2 ?_
    refine zo_aload_n (p' := 6) (zi_153 rfl) rfl rfl ?_
    refine zo_bipush (p' := 8) (v := 100) (zi_153 rfl) rfl rfl ?_
    refine zo_iload_n (p' := 9) (zi_153 rfl) rfl rfl ?_
    refine zo_imul (p' := 10) (zi_153 rfl) rfl ?_
    obtain ⟨M3, hx4, g6⟩ := zb_of g5
    refine zo_putI (p' := 13) (zi_153 rfl) rfl zl_19_77 (zpb_153 _) hx4 ?_
    refine zo_iconst (p' := 14) (v := 0) (zi_153 rfl) rfl rfl ?_
    refine zo_istore_n (p' := 15) (L' := [(0, zrf (some o)), (1, .int a0), (2, .int 0)]) (zi_153 rfl) rfl zm_153_2 ⟨Or.inr ⟨by decide, rfl, fun q => absurd q (by decide)⟩, ⟨Or.inr ⟨by decide, rfl, fun _ => rfl⟩, ⟨Or.inl ⟨rfl, rfl⟩, trivial⟩⟩⟩ ?_
    refine zgo_sub (L' := [(0, zrf (some o)), (1, .int a0), (2, .int 0)]) (⟨rfl, rfl, rfl, trivial⟩) ?_
    exact k_153_15 _ zF M3 o a0 0 _ g6
  · rw [if_neg hok] at h; cases h
/-- SlateHalvesModel.hill()I -/
def f_152 (M : ZMem) (o : Nat) : Option (Int32 × ZMem) := if zok M 12 o = true then (zb (zgi M 12 9 o) fun x1 => if ¬ x1 = 6 then (zb (zgi M 12 9 o) fun x4 => zbd (f_153 M o x4) fun x6 M8 => zb (zpf M8 12 11 o (.int 0) false) fun M9 => if ¬ x6 = 0 then (zb (zgi M9 12 9 o) fun x12 => zb (zpf M9 12 10 o (.int x12) false) fun M14 => zb (zgi M14 12 9 o) fun x16 => zb (zpf M14 12 9 o (.int ((x16 + 1))) false) fun M18 => zb (zgi M18 12 10 o) fun x20 => some (x20, M18)) else (zb (zgi M9 12 12 o) fun x22 => some (((-10) - x22), M9))) else (some ((-4), M))) else none
theorem f_152_ok {M : ZMem} {o : Nat} {out : Int32 × ZMem} (h : f_152 M o = some out) : zok M 12 o = true := by
  unfold f_152 at h
  by_cases hok : zok M 12 o = true
  · exact hok
  · rw [if_neg hok] at h; cases h
set_option maxRecDepth 20000 in
theorem k_152 (d : Nat) {M : ZMem} {o : Nat} {out : Int32 × ZMem} (h : f_152 M o = some out) : zrn (d + 7) 152 [zrf (some o)] M (some (.int out.1), out.2) := by
  unfold f_152 at h
  by_cases hok : zok M 12 o = true
  · rw [if_pos hok] at h
    refine zrn_of (L := [(0, zrf (some o))]) rfl ?_
    refine zo_aload_n (p' := 1) (zi_152 rfl) rfl rfl ?_
    obtain ⟨x1, hx2, g24⟩ := zb_of h
    refine zo_getI (p' := 4) (zi_152 rfl) rfl zl_19_38 hx2 ?_
    refine zo_bipush (p' := 6) (v := 6) (zi_152 rfl) rfl rfl ?_
    by_cases hc3 : ¬ x1 = 6
    · rw [if_pos hc3] at g24
      refine zo_icT (p' := 12) (zi_152 rfl) rfl hc3 ?_
      refine zo_aload_n (p' := 13) (zi_152 rfl) rfl rfl ?_
      refine zo_aload_n (p' := 14) (zi_152 rfl) rfl rfl ?_
      obtain ⟨x4, hx5, g25⟩ := zb_of g24
      refine zo_getI (p' := 17) (zi_152 rfl) rfl zl_19_38 hx5 ?_
      obtain ⟨x6, M8, hx7, g26⟩ := zbd_of g25
      refine zo_callVi (p' := 20) (t := 12) (as := [.int x4]) (r := []) (zi_152 rfl) rfl zl_19_291 rfl rfl (Or.inl ⟨by decide, rfl⟩) (Nat.le_of_ble_eq_true rfl) (Nat.le_of_ble_eq_true rfl) (f_153_ok hx7) (k_153 _ hx7) ?_
      refine zo_istore_n (p' := 21) (L' := [(0, zrf (some o)), (1, .int x6)]) (zi_152 rfl) rfl zm_152_1 ⟨Or.inr ⟨by decide, rfl, fun _ => zrf_cat _⟩, ⟨Or.inl ⟨rfl, rfl⟩, trivial⟩⟩ ?_
      refine zo_aload_n (p' := 22) (zi_152 rfl) rfl rfl ?_
      refine zo_iconst (p' := 23) (v := 0) (zi_152 rfl) rfl rfl ?_
      obtain ⟨M9, hx10, g27⟩ := zb_of g26
      refine zo_putI (p' := 26) (zi_152 rfl) rfl zl_19_44 (zpb_152 _) hx10 ?_
      refine zo_iload_n (p' := 27) (zi_152 rfl) rfl rfl ?_
      by_cases hc11 : ¬ x6 = 0
      · rw [if_pos hc11] at g27
        refine zo_ifT (p' := 38) (zi_152 rfl) rfl hc11 ?_
        refine zo_aload_n (p' := 39) (zi_152 rfl) rfl rfl ?_
        refine zo_aload_n (p' := 40) (zi_152 rfl) rfl rfl ?_
        obtain ⟨x12, hx13, g28⟩ := zb_of g27
        refine zo_getI (p' := 43) (zi_152 rfl) rfl zl_19_38 hx13 ?_
        obtain ⟨M14, hx15, g29⟩ := zb_of g28
        refine zo_putI (p' := 46) (zi_152 rfl) rfl zl_19_41 (zpb_152 _) hx15 ?_
        refine zo_aload_n (p' := 47) (zi_152 rfl) rfl rfl ?_
        refine zo_dup (p' := 48) (zi_152 rfl) rfl (zrf_cat _) ?_
        obtain ⟨x16, hx17, g30⟩ := zb_of g29
        refine zo_getI (p' := 51) (zi_152 rfl) rfl zl_19_38 hx17 ?_
        refine zo_iconst (p' := 52) (v := 1) (zi_152 rfl) rfl rfl ?_
        refine zo_iadd (p' := 53) (zi_152 rfl) rfl ?_
        obtain ⟨M18, hx19, g31⟩ := zb_of g30
        refine zo_putI (p' := 56) (zi_152 rfl) rfl zl_19_38 (zpb_152 _) hx19 ?_
        refine zo_aload_n (p' := 57) (zi_152 rfl) rfl rfl ?_
        obtain ⟨x20, hx21, g32⟩ := zb_of g31
        refine zo_getI (p' := 60) (zi_152 rfl) rfl zl_19_41 hx21 ?_
        have g33 := Option.some.inj g32
        subst g33
        exact zo_iret (zi_152 rfl) rfl ⟨rfl, rfl⟩
      · rw [if_neg hc11] at g27
        refine zo_ifF (p' := 30) (zi_152 rfl) rfl rfl hc11 ?_
        refine zo_bipush (p' := 32) (v := (-10)) (zi_152 rfl) rfl rfl ?_
        refine zo_aload_n (p' := 33) (zi_152 rfl) rfl rfl ?_
        obtain ⟨x22, hx23, g34⟩ := zb_of g27
        refine zo_getI (p' := 36) (zi_152 rfl) rfl zl_19_47 hx23 ?_
        refine zo_isub (p' := 37) (zi_152 rfl) rfl ?_
        have g35 := Option.some.inj g34
        subst g35
        exact zo_iret (zi_152 rfl) rfl ⟨rfl, rfl⟩
    · rw [if_neg hc3] at g24
      refine zo_icF (p' := 9) (zi_152 rfl) rfl rfl hc3 ?_
      refine zo_bipush (p' := 11) (v := (-4)) (zi_152 rfl) rfl rfl ?_
      have g36 := Option.some.inj g24
      subst g36
      exact zo_iret (zi_152 rfl) rfl ⟨rfl, rfl⟩
  · rw [if_neg hok] at h; cases h
/-- SlateHalvesModel.begin()I -/
def f_169 (M : ZMem) (o : Nat) : Option (Int32) := if zok M 12 o = true then (zb (zgi M 12 10 o) fun x1 => if 0 ≤ x1 then (zb (zgi M 12 10 o) fun x4 => some (10 * x4)) else (some 0)) else none
theorem f_169_ok {M : ZMem} {o : Nat} {out : Int32} (h : f_169 M o = some out) : zok M 12 o = true := by
  unfold f_169 at h
  by_cases hok : zok M 12 o = true
  · exact hok
  · rw [if_neg hok] at h; cases h
set_option maxRecDepth 20000 in
theorem k_169 (d : Nat) {M : ZMem} {o : Nat} {out : Int32} (h : f_169 M o = some out) : zrn (d) 169 [zrf (some o)] M (some (.int out), M) := by
  unfold f_169 at h
  by_cases hok : zok M 12 o = true
  · rw [if_pos hok] at h
    refine zrn_of (L := [(0, zrf (some o))]) rfl ?_
    refine zo_aload_n (p' := 1) (zi_169 rfl) rfl rfl ?_
    obtain ⟨x1, hx2, g6⟩ := zb_of h
    refine zo_getI (p' := 4) (zi_169 rfl) rfl zl_19_41 hx2 ?_
    by_cases hc3 : 0 ≤ x1
    · rw [if_pos hc3] at g6
      refine zo_ifT (p' := 11) (zi_169 rfl) rfl hc3 ?_
      refine zo_bipush (p' := 13) (v := 10) (zi_169 rfl) rfl rfl ?_
      refine zo_aload_n (p' := 14) (zi_169 rfl) rfl rfl ?_
      obtain ⟨x4, hx5, g7⟩ := zb_of g6
      refine zo_getI (p' := 17) (zi_169 rfl) rfl zl_19_41 hx5 ?_
      refine zo_imul (p' := 18) (zi_169 rfl) rfl ?_
      have g8 := Option.some.inj g7
      subst g8
      exact zo_iret (zi_169 rfl) rfl ⟨rfl, rfl⟩
    · rw [if_neg hc3] at g6
      refine zo_ifF (p' := 7) (zi_169 rfl) rfl rfl hc3 ?_
      refine zo_iconst (p' := 8) (v := 0) (zi_169 rfl) rfl rfl ?_
      refine zo_goto (p' := 18) (zi_169 rfl) rfl ?_
      have g9 := Option.some.inj g6
      subst g9
      exact zo_iret (zi_169 rfl) rfl ⟨rfl, rfl⟩
  · rw [if_neg hok] at h; cases h
/-- SlateHalvesModel.behind()I -/
def f_170 (M : ZMem) (o : Nat) : Option (Int32) := if zok M 12 o = true then (zb (zgi M 12 10 o) fun x1 => if 0 ≤ x1 then (zb (zgi M 12 10 o) fun x4 => zb (zgr M 12 15 o) fun r6 => zb (zgi M 12 10 o) fun x8 => zb r6 fun q10 => zb (zai M q10 x8) fun x11 => some ((10 * x4) + x11)) else (some 0)) else none
theorem f_170_ok {M : ZMem} {o : Nat} {out : Int32} (h : f_170 M o = some out) : zok M 12 o = true := by
  unfold f_170 at h
  by_cases hok : zok M 12 o = true
  · exact hok
  · rw [if_neg hok] at h; cases h
set_option maxRecDepth 20000 in
theorem k_170 (d : Nat) {M : ZMem} {o : Nat} {out : Int32} (h : f_170 M o = some out) : zrn (d) 170 [zrf (some o)] M (some (.int out), M) := by
  unfold f_170 at h
  by_cases hok : zok M 12 o = true
  · rw [if_pos hok] at h
    refine zrn_of (L := [(0, zrf (some o))]) rfl ?_
    refine zo_aload_n (p' := 1) (zi_170 rfl) rfl rfl ?_
    obtain ⟨x1, hx2, g13⟩ := zb_of h
    refine zo_getI (p' := 4) (zi_170 rfl) rfl zl_19_41 hx2 ?_
    by_cases hc3 : 0 ≤ x1
    · rw [if_pos hc3] at g13
      refine zo_ifT (p' := 11) (zi_170 rfl) rfl hc3 ?_
      refine zo_bipush (p' := 13) (v := 10) (zi_170 rfl) rfl rfl ?_
      refine zo_aload_n (p' := 14) (zi_170 rfl) rfl rfl ?_
      obtain ⟨x4, hx5, g14⟩ := zb_of g13
      refine zo_getI (p' := 17) (zi_170 rfl) rfl zl_19_41 hx5 ?_
      refine zo_imul (p' := 18) (zi_170 rfl) rfl ?_
      refine zo_aload_n (p' := 19) (zi_170 rfl) rfl rfl ?_
      obtain ⟨r6, hx7, g15⟩ := zb_of g14
      refine zo_getR (p' := 22) (zi_170 rfl) rfl zl_19_56 hx7 ?_
      refine zo_aload_n (p' := 23) (zi_170 rfl) rfl rfl ?_
      obtain ⟨x8, hx9, g16⟩ := zb_of g15
      refine zo_getI (p' := 26) (zi_170 rfl) rfl zl_19_41 hx9 ?_
      obtain ⟨q10, h0, g17⟩ := zb_of g16
      subst h0
      obtain ⟨x11, hx12, g18⟩ := zb_of g17
      refine zo_iald (p' := 27) (zi_170 rfl) rfl hx12 ?_
      refine zo_iadd (p' := 28) (zi_170 rfl) rfl ?_
      have g19 := Option.some.inj g18
      subst g19
      exact zo_iret (zi_170 rfl) rfl ⟨rfl, rfl⟩
    · rw [if_neg hc3] at g13
      refine zo_ifF (p' := 7) (zi_170 rfl) rfl rfl hc3 ?_
      refine zo_iconst (p' := 8) (v := 0) (zi_170 rfl) rfl rfl ?_
      refine zo_goto (p' := 28) (zi_170 rfl) rfl ?_
      have g20 := Option.some.inj g13
      subst g20
      exact zo_iret (zi_170 rfl) rfl ⟨rfl, rfl⟩
  · rw [if_neg hok] at h; cases h
/-- SlateHalvesModel.factOf(II)I -/
def f_172 (M : ZMem) (o : Nat) (a0 : Int32) (a1 : Int32) : Option (Int32) := if zok M 12 o = true then (if a0 = 0 then (some a1) else (if a0 = 1 then (zb (zgr M 12 3 o) fun r6 => zb r6 fun q8 => zb (zai M q8 a1) fun x9 => some x9) else (if a0 = 2 then (zb (zgr M 12 4 o) fun r11 => zb r11 fun q13 => zb (zai M q13 a1) fun x14 => some x14) else (if a0 = 3 then (zb (zgr M 12 5 o) fun r16 => zb r16 fun q18 => zb (zai M q18 a1) fun x19 => some (x19 / 10)) else (if a0 = 4 then (zb (zgr M 12 6 o) fun r21 => zb r21 fun q23 => zb (zai M q23 a1) fun x24 => some (x24 / 10)) else (zb (zgi M 12 1 o) fun x26 => some (x26 - x26 / 10 * 10))))))) else none
theorem f_172_ok {M : ZMem} {o : Nat} {a0 : Int32} {a1 : Int32} {out : Int32} (h : f_172 M o a0 a1 = some out) : zok M 12 o = true := by
  unfold f_172 at h
  by_cases hok : zok M 12 o = true
  · exact hok
  · rw [if_neg hok] at h; cases h
set_option maxRecDepth 20000 in
theorem k_172 (d : Nat) {M : ZMem} {o : Nat} {a0 : Int32} {a1 : Int32} {out : Int32} (h : f_172 M o a0 a1 = some out) : zrn (d) 172 [zrf (some o), .int a0, .int a1] M (some (.int out), M) := by
  unfold f_172 at h
  by_cases hok : zok M 12 o = true
  · rw [if_pos hok] at h
    refine zrn_of (L := [(0, zrf (some o)), (1, .int a0), (2, .int a1)]) rfl ?_
    refine zo_iload_n (p' := 1) (zi_172 rfl) rfl rfl ?_
    by_cases hc1 : a0 = 0
    · rw [if_pos hc1] at h
      refine zo_table (p' := 36) (n := 35) (zi_172 rfl) (by decide) (zsel_hit hc1 (by decide)) rfl ?_
      refine zo_iload_n (p' := 37) (zi_172 rfl) rfl rfl ?_
      have g28 := Option.some.inj h
      subst g28
      exact zo_iret (zi_172 rfl) rfl ⟨rfl, rfl⟩
    · rw [if_neg hc1] at h
      by_cases hc2 : a0 = 1
      · rw [if_pos hc2] at h
        refine zo_table (p' := 38) (n := 37) (zi_172 rfl) (by decide) (zsel_skip hc1 (by decide) (zsel_hit hc2 (by decide))) rfl ?_
        refine zo_aload_n (p' := 39) (zi_172 rfl) rfl rfl ?_
        obtain ⟨r6, hx7, g29⟩ := zb_of h
        refine zo_getR (p' := 42) (zi_172 rfl) rfl zl_19_19 hx7 ?_
        refine zo_iload_n (p' := 43) (zi_172 rfl) rfl rfl ?_
        obtain ⟨q8, h0, g30⟩ := zb_of g29
        subst h0
        obtain ⟨x9, hx10, g31⟩ := zb_of g30
        refine zo_iald (p' := 44) (zi_172 rfl) rfl hx10 ?_
        have g32 := Option.some.inj g31
        subst g32
        exact zo_iret (zi_172 rfl) rfl ⟨rfl, rfl⟩
      · rw [if_neg hc2] at h
        by_cases hc3 : a0 = 2
        · rw [if_pos hc3] at h
          refine zo_table (p' := 45) (n := 44) (zi_172 rfl) (by decide) (zsel_skip hc1 (by decide) (zsel_skip hc2 (by decide) (zsel_hit hc3 (by decide)))) rfl ?_
          refine zo_aload_n (p' := 46) (zi_172 rfl) rfl rfl ?_
          obtain ⟨r11, hx12, g33⟩ := zb_of h
          refine zo_getR (p' := 49) (zi_172 rfl) rfl zl_19_23 hx12 ?_
          refine zo_iload_n (p' := 50) (zi_172 rfl) rfl rfl ?_
          obtain ⟨q13, h0, g34⟩ := zb_of g33
          subst h0
          obtain ⟨x14, hx15, g35⟩ := zb_of g34
          refine zo_iald (p' := 51) (zi_172 rfl) rfl hx15 ?_
          have g36 := Option.some.inj g35
          subst g36
          exact zo_iret (zi_172 rfl) rfl ⟨rfl, rfl⟩
        · rw [if_neg hc3] at h
          by_cases hc4 : a0 = 3
          · rw [if_pos hc4] at h
            refine zo_table (p' := 52) (n := 51) (zi_172 rfl) (by decide) (zsel_skip hc1 (by decide) (zsel_skip hc2 (by decide) (zsel_skip hc3 (by decide) (zsel_hit hc4 (by decide))))) rfl ?_
            refine zo_aload_n (p' := 53) (zi_172 rfl) rfl rfl ?_
            obtain ⟨r16, hx17, g37⟩ := zb_of h
            refine zo_getR (p' := 56) (zi_172 rfl) rfl zl_19_26 hx17 ?_
            refine zo_iload_n (p' := 57) (zi_172 rfl) rfl rfl ?_
            obtain ⟨q18, h0, g38⟩ := zb_of g37
            subst h0
            obtain ⟨x19, hx20, g39⟩ := zb_of g38
            refine zo_iald (p' := 58) (zi_172 rfl) rfl hx20 ?_
            refine zo_bipush (p' := 60) (v := 10) (zi_172 rfl) rfl rfl ?_
            refine zo_idiv (p' := 61) (zi_172 rfl) rfl (by decide) ?_
            have g40 := Option.some.inj g39
            subst g40
            exact zo_iret (zi_172 rfl) rfl ⟨rfl, rfl⟩
          · rw [if_neg hc4] at h
            by_cases hc5 : a0 = 4
            · rw [if_pos hc5] at h
              refine zo_table (p' := 62) (n := 61) (zi_172 rfl) (by decide) (zsel_skip hc1 (by decide) (zsel_skip hc2 (by decide) (zsel_skip hc3 (by decide) (zsel_skip hc4 (by decide) (zsel_hit hc5 (by decide)))))) rfl ?_
              refine zo_aload_n (p' := 63) (zi_172 rfl) rfl rfl ?_
              obtain ⟨r21, hx22, g41⟩ := zb_of h
              refine zo_getR (p' := 66) (zi_172 rfl) rfl zl_19_29 hx22 ?_
              refine zo_iload_n (p' := 67) (zi_172 rfl) rfl rfl ?_
              obtain ⟨q23, h0, g42⟩ := zb_of g41
              subst h0
              obtain ⟨x24, hx25, g43⟩ := zb_of g42
              refine zo_iald (p' := 68) (zi_172 rfl) rfl hx25 ?_
              refine zo_bipush (p' := 70) (v := 10) (zi_172 rfl) rfl rfl ?_
              refine zo_idiv (p' := 71) (zi_172 rfl) rfl (by decide) ?_
              have g44 := Option.some.inj g43
              subst g44
              exact zo_iret (zi_172 rfl) rfl ⟨rfl, rfl⟩
            · rw [if_neg hc5] at h
              refine zo_table (p' := 72) (n := 71) (zi_172 rfl) (by decide) (zsel_skip hc1 (by decide) (zsel_skip hc2 (by decide) (zsel_skip hc3 (by decide) (zsel_skip hc4 (by decide) (zsel_skip hc5 (by decide) (rfl)))))) rfl ?_
              refine zo_aload_n (p' := 73) (zi_172 rfl) rfl rfl ?_
              obtain ⟨x26, hx27, g45⟩ := zb_of h
              refine zo_getI (p' := 76) (zi_172 rfl) rfl zl_19_13 hx27 ?_
              refine zo_bipush (p' := 78) (v := 10) (zi_172 rfl) rfl rfl ?_
              refine zo_irem (p' := 79) (zi_172 rfl) rfl (by decide) ?_
              have g46 := Option.some.inj g45
              subst g46
              exact zo_iret (zi_172 rfl) rfl ⟨rfl, rfl⟩
  · rw [if_neg hok] at h; cases h
/-- SlateHalvesModel.holds(II)Z -/
def f_171_237 (r10 : ZMem → Nat → Int32 → Int32 → Int32 → Int32 → Option (Int32 × ZMem)) (M : ZMem) (o : Nat) (b1 : Int32) (b2 : Int32) (b3 : Int32) (b4 : Int32) : Option (Int32 × ZMem) := r10 M o b1 b2 b3 ((b4 + 1))
def f_171_60 (r10 : ZMem → Nat → Int32 → Int32 → Int32 → Int32 → Option (Int32 × ZMem)) (M : ZMem) (o : Nat) (b1 : Int32) (b2 : Int32) (b3 : Int32) (b4 : Int32) (b5 : Int32) (b6 : Int32) (b7 : Option Nat) : Option (Int32 × ZMem) := zb b7 fun q111 => zb (zsb M q111 b6 b5) fun M112 => f_171_237 (fun M a0 a1 a2 a3 a4 => r10 M a0 a1 a2 a3 a4) M112 o b1 b2 b3 b4
def f_171_139 (r10 : ZMem → Nat → Int32 → Int32 → Int32 → Int32 → Option (Int32 × ZMem)) (M : ZMem) (o : Nat) (b1 : Int32) (b2 : Int32) (b3 : Int32) (b4 : Int32) (b5 : Int32) (b6 : Int32) (b7 : Option Nat) : Option (Int32 × ZMem) := zb b7 fun q106 => zb (zsb M q106 b6 b5) fun M107 => f_171_237 (fun M a0 a1 a2 a3 a4 => r10 M a0 a1 a2 a3 a4) M107 o b1 b2 b3 b4
def f_171_110 (r10 : ZMem → Nat → Int32 → Int32 → Int32 → Int32 → Option (Int32 × ZMem)) (M : ZMem) (o : Nat) (b1 : Int32) (b2 : Int32) (b3 : Int32) (b4 : Int32) (b5 : Int32) (b6 : Option Nat) : Option (Int32 × ZMem) := f_171_139 (fun M a0 a1 a2 a3 a4 => r10 M a0 a1 a2 a3 a4) M o b1 b2 b3 b4 0 b5 b6
def f_171_134 (r10 : ZMem → Nat → Int32 → Int32 → Int32 → Int32 → Option (Int32 × ZMem)) (M : ZMem) (o : Nat) (b1 : Int32) (b2 : Int32) (b3 : Int32) (b4 : Int32) (b5 : Int32) (b6 : Option Nat) : Option (Int32 × ZMem) := f_171_139 (fun M a0 a1 a2 a3 a4 => r10 M a0 a1 a2 a3 a4) M o b1 b2 b3 b4 1 b5 b6
def f_171_233 (r10 : ZMem → Nat → Int32 → Int32 → Int32 → Int32 → Option (Int32 × ZMem)) (M : ZMem) (o : Nat) (b1 : Int32) (b2 : Int32) (b3 : Int32) (b4 : Int32) (b5 : Int32) (b6 : Int32) (b7 : Option Nat) : Option (Int32 × ZMem) := zb b7 fun q101 => zb (zsb M q101 b6 b5) fun M102 => f_171_237 (fun M a0 a1 a2 a3 a4 => r10 M a0 a1 a2 a3 a4) M102 o b1 b2 ((b3 + 1)) b4
def f_171_10 : Nat → ZMem → Nat → Int32 → Int32 → Int32 → Int32 → Option (Int32 × ZMem)
  | 0, _, _, _, _, _, _ => none
  | z + 1, M, o, b1, b2, b3, b4 => zb (zgr M 12 19 o) fun r9 => zb r9 fun q11 => zb (zai M q11 b1) fun x12 => if x12 ≤ b4 then (zb (zgr M 12 26 o) fun r15 => zb r15 fun q17 => zb (zab M q17 0) fun x18 => if narrow .boolean (.int x18) = .int x18 then some (x18, M) else none) else (zb (zgr M 12 20 o) fun r21 => zb r21 fun q23 => zb (zai M q23 b4) fun x24 => if ¬ x24 = (-33) then (if 0 ≤ x24 then (zb (f_172 M o ((x24 / 1000)) b2) fun x28 => zb (zgr M 12 26 o) fun r30 => if ¬ ((x24 / 100) - (x24 / 100) / 10 * 10) = 0 then (if ¬ ((x24 / 100) - (x24 / 100) / 10 * 10) = 1 then (if x28 ≤ (x24 - x24 / 100 * 100) then (f_171_233 (fun M a0 a1 a2 a3 a4 => f_171_10 z M a0 a1 a2 a3 a4) M o b1 b2 b3 b4 0 b3 r30) else (f_171_233 (fun M a0 a1 a2 a3 a4 => f_171_10 z M a0 a1 a2 a3 a4) M o b1 b2 b3 b4 1 b3 r30)) else (if ¬ x28 = (x24 - x24 / 100 * 100) then (f_171_233 (fun M a0 a1 a2 a3 a4 => f_171_10 z M a0 a1 a2 a3 a4) M o b1 b2 b3 b4 0 b3 r30) else (f_171_233 (fun M a0 a1 a2 a3 a4 => f_171_10 z M a0 a1 a2 a3 a4) M o b1 b2 b3 b4 1 b3 r30))) else (if (x24 - x24 / 100 * 100) ≤ x28 then (f_171_233 (fun M a0 a1 a2 a3 a4 => f_171_10 z M a0 a1 a2 a3 a4) M o b1 b2 b3 b4 0 b3 r30) else (f_171_233 (fun M a0 a1 a2 a3 a4 => f_171_10 z M a0 a1 a2 a3 a4) M o b1 b2 b3 b4 1 b3 r30))) else (zb (zgr M 12 26 o) fun r37 => if ¬ x24 = (-38) then (zb (zgr M 12 26 o) fun r40 => zb r40 fun q42 => zb (zab M q42 ((b3 + (-1)) - 1)) fun x43 => if ¬ x43 = 0 then (f_171_134 (fun M a0 a1 a2 a3 a4 => f_171_10 z M a0 a1 a2 a3 a4) M o b1 b2 ((b3 + (-1))) b4 (((b3 + (-1)) - 1)) r37) else (zb (zgr M 12 26 o) fun r46 => zb r46 fun q48 => zb (zab M q48 (b3 + (-1))) fun x49 => if x49 = 0 then (f_171_139 (fun M a0 a1 a2 a3 a4 => f_171_10 z M a0 a1 a2 a3 a4) M o b1 b2 ((b3 + (-1))) b4 0 (((b3 + (-1)) - 1)) r37) else (f_171_134 (fun M a0 a1 a2 a3 a4 => f_171_10 z M a0 a1 a2 a3 a4) M o b1 b2 ((b3 + (-1))) b4 (((b3 + (-1)) - 1)) r37))) else (zb (zgr M 12 26 o) fun r52 => zb r52 fun q54 => zb (zab M q54 ((b3 + (-1)) - 1)) fun x55 => if x55 = 0 then (f_171_110 (fun M a0 a1 a2 a3 a4 => f_171_10 z M a0 a1 a2 a3 a4) M o b1 b2 ((b3 + (-1))) b4 (((b3 + (-1)) - 1)) r37) else (zb (zgr M 12 26 o) fun r58 => zb r58 fun q60 => zb (zab M q60 (b3 + (-1))) fun x61 => if x61 = 0 then (f_171_110 (fun M a0 a1 a2 a3 a4 => f_171_10 z M a0 a1 a2 a3 a4) M o b1 b2 ((b3 + (-1))) b4 (((b3 + (-1)) - 1)) r37) else (f_171_139 (fun M a0 a1 a2 a3 a4 => f_171_10 z M a0 a1 a2 a3 a4) M o b1 b2 ((b3 + (-1))) b4 1 (((b3 + (-1)) - 1)) r37))))) else (zb (zgr M 12 26 o) fun r64 => zb (zgr M 12 26 o) fun r66 => zb r66 fun q68 => zb (zab M q68 (b3 - 1)) fun x69 => if ¬ x69 = 0 then (f_171_60 (fun M a0 a1 a2 a3 a4 => f_171_10 z M a0 a1 a2 a3 a4) M o b1 b2 b3 b4 0 ((b3 - 1)) r64) else (f_171_60 (fun M a0 a1 a2 a3 a4 => f_171_10 z M a0 a1 a2 a3 a4) M o b1 b2 b3 b4 1 ((b3 - 1)) r64)))
set_option maxRecDepth 20000 in
theorem k_171_237 (d : Nat) (r10 : ZMem → Nat → Int32 → Int32 → Int32 → Int32 → Option (Int32 × ZMem)) (h10 : ∀ (M : ZMem) (a0 : Nat) (a1 : Int32) (a2 : Int32) (a3 : Int32) (a4 : Int32) (out : Int32 × ZMem), r10 M a0 a1 a2 a3 a4 = some out → zgo none (d + 1) 171 10 [(0, zrf (some a0)), (1, .int a1), (2, .int a2), (3, .int a3), (4, .int a4)] [] M (some (.int out.1), out.2)) : ∀ (M : ZMem) (o : Nat) (b1 : Int32) (b2 : Int32) (b3 : Int32) (b4 : Int32) (out : Int32 × ZMem), f_171_237 r10 M o b1 b2 b3 b4 = some out → zgo none (d + 1) 171 237 [(0, zrf (some o)), (1, .int b1), (2, .int b2), (3, .int b3), (4, .int b4)] [] M (some (.int out.1), out.2) := by
  intro M o b1 b2 b3 b4 out h
  unfold f_171_237 at h
  refine zo_iinc (p' := 240) (v := (b4 + 1)) (L' := [(0, zrf (some o)), (1, .int b1), (2, .int b2), (3, .int b3), (4, .int ((b4 + 1)))]) (zi_171 rfl) rfl zm_171_4 rfl rfl ⟨Or.inr ⟨by decide, rfl, fun q => absurd q (by decide)⟩, ⟨Or.inr ⟨by decide, rfl, fun q => absurd q (by decide)⟩, ⟨Or.inr ⟨by decide, rfl, fun q => absurd q (by decide)⟩, ⟨Or.inr ⟨by decide, rfl, fun _ => rfl⟩, ⟨Or.inl ⟨rfl, rfl⟩, trivial⟩⟩⟩⟩⟩ ?_
  refine zo_goto (p' := 10) (zi_171 rfl) rfl ?_
  refine zgo_sub (L' := [(0, zrf (some o)), (1, .int b1), (2, .int b2), (3, .int b3), (4, .int (((b4 + 1))))]) (⟨rfl, rfl, rfl, rfl, rfl, trivial⟩) ?_
  exact h10 M o b1 b2 b3 ((b4 + 1)) _ h
set_option maxRecDepth 20000 in
theorem k_171_60 (d : Nat) (r10 : ZMem → Nat → Int32 → Int32 → Int32 → Int32 → Option (Int32 × ZMem)) (h10 : ∀ (M : ZMem) (a0 : Nat) (a1 : Int32) (a2 : Int32) (a3 : Int32) (a4 : Int32) (out : Int32 × ZMem), r10 M a0 a1 a2 a3 a4 = some out → zgo none (d + 1) 171 10 [(0, zrf (some a0)), (1, .int a1), (2, .int a2), (3, .int a3), (4, .int a4)] [] M (some (.int out.1), out.2)) : ∀ (M : ZMem) (o : Nat) (b1 : Int32) (b2 : Int32) (b3 : Int32) (b4 : Int32) (b5 : Int32) (b6 : Int32) (b7 : Option Nat) (out : Int32 × ZMem), f_171_60 r10 M o b1 b2 b3 b4 b5 b6 b7 = some out → zgo none (d + 1) 171 60 [(0, zrf (some o)), (1, .int b1), (2, .int b2), (3, .int b3), (4, .int b4)] [.int b5, .int b6, zrf b7] M (some (.int out.1), out.2) := by
  intro M o b1 b2 b3 b4 b5 b6 b7 out h
  unfold f_171_60 at h
  obtain ⟨q111, h0, g114⟩ := zb_of h
  subst h0
  obtain ⟨M112, hx113, g115⟩ := zb_of g114
  refine zo_bast (p' := 61) (zi_171 rfl) rfl hx113 ?_
  refine zo_goto (p' := 237) (zi_171 rfl) rfl ?_
  refine zgo_sub (L' := [(0, zrf (some o)), (1, .int b1), (2, .int b2), (3, .int b3), (4, .int b4)]) (⟨rfl, rfl, rfl, rfl, rfl, trivial⟩) ?_
  exact k_171_237 _ _ (fun M a0 a1 a2 a3 a4 out h => h10 M a0 a1 a2 a3 a4 out h) M112 o b1 b2 b3 b4 _ g115
set_option maxRecDepth 20000 in
theorem k_171_139 (d : Nat) (r10 : ZMem → Nat → Int32 → Int32 → Int32 → Int32 → Option (Int32 × ZMem)) (h10 : ∀ (M : ZMem) (a0 : Nat) (a1 : Int32) (a2 : Int32) (a3 : Int32) (a4 : Int32) (out : Int32 × ZMem), r10 M a0 a1 a2 a3 a4 = some out → zgo none (d + 1) 171 10 [(0, zrf (some a0)), (1, .int a1), (2, .int a2), (3, .int a3), (4, .int a4)] [] M (some (.int out.1), out.2)) : ∀ (M : ZMem) (o : Nat) (b1 : Int32) (b2 : Int32) (b3 : Int32) (b4 : Int32) (b5 : Int32) (b6 : Int32) (b7 : Option Nat) (out : Int32 × ZMem), f_171_139 r10 M o b1 b2 b3 b4 b5 b6 b7 = some out → zgo none (d + 1) 171 139 [(0, zrf (some o)), (1, .int b1), (2, .int b2), (3, .int b3), (4, .int b4)] [.int b5, .int b6, zrf b7] M (some (.int out.1), out.2) := by
  intro M o b1 b2 b3 b4 b5 b6 b7 out h
  unfold f_171_139 at h
  obtain ⟨q106, h0, g109⟩ := zb_of h
  subst h0
  obtain ⟨M107, hx108, g110⟩ := zb_of g109
  refine zo_bast (p' := 140) (zi_171 rfl) rfl hx108 ?_
  refine zo_goto (p' := 237) (zi_171 rfl) rfl ?_
  refine zgo_sub (L' := [(0, zrf (some o)), (1, .int b1), (2, .int b2), (3, .int b3), (4, .int b4)]) (⟨rfl, rfl, rfl, rfl, rfl, trivial⟩) ?_
  exact k_171_237 _ _ (fun M a0 a1 a2 a3 a4 out h => h10 M a0 a1 a2 a3 a4 out h) M107 o b1 b2 b3 b4 _ g110
set_option maxRecDepth 20000 in
theorem k_171_110 (d : Nat) (r10 : ZMem → Nat → Int32 → Int32 → Int32 → Int32 → Option (Int32 × ZMem)) (h10 : ∀ (M : ZMem) (a0 : Nat) (a1 : Int32) (a2 : Int32) (a3 : Int32) (a4 : Int32) (out : Int32 × ZMem), r10 M a0 a1 a2 a3 a4 = some out → zgo none (d + 1) 171 10 [(0, zrf (some a0)), (1, .int a1), (2, .int a2), (3, .int a3), (4, .int a4)] [] M (some (.int out.1), out.2)) : ∀ (M : ZMem) (o : Nat) (b1 : Int32) (b2 : Int32) (b3 : Int32) (b4 : Int32) (b5 : Int32) (b6 : Option Nat) (out : Int32 × ZMem), f_171_110 r10 M o b1 b2 b3 b4 b5 b6 = some out → zgo none (d + 1) 171 110 [(0, zrf (some o)), (1, .int b1), (2, .int b2), (3, .int b3), (4, .int b4)] [.int b5, zrf b6] M (some (.int out.1), out.2) := by
  intro M o b1 b2 b3 b4 b5 b6 out h
  unfold f_171_110 at h
  refine zo_iconst (p' := 111) (v := 0) (zi_171 rfl) rfl rfl ?_
  refine zo_goto (p' := 139) (zi_171 rfl) rfl ?_
  refine zgo_sub (L' := [(0, zrf (some o)), (1, .int b1), (2, .int b2), (3, .int b3), (4, .int b4)]) (⟨rfl, rfl, rfl, rfl, rfl, trivial⟩) ?_
  exact k_171_139 _ _ (fun M a0 a1 a2 a3 a4 out h => h10 M a0 a1 a2 a3 a4 out h) M o b1 b2 b3 b4 0 b5 b6 _ h
set_option maxRecDepth 20000 in
theorem k_171_134 (d : Nat) (r10 : ZMem → Nat → Int32 → Int32 → Int32 → Int32 → Option (Int32 × ZMem)) (h10 : ∀ (M : ZMem) (a0 : Nat) (a1 : Int32) (a2 : Int32) (a3 : Int32) (a4 : Int32) (out : Int32 × ZMem), r10 M a0 a1 a2 a3 a4 = some out → zgo none (d + 1) 171 10 [(0, zrf (some a0)), (1, .int a1), (2, .int a2), (3, .int a3), (4, .int a4)] [] M (some (.int out.1), out.2)) : ∀ (M : ZMem) (o : Nat) (b1 : Int32) (b2 : Int32) (b3 : Int32) (b4 : Int32) (b5 : Int32) (b6 : Option Nat) (out : Int32 × ZMem), f_171_134 r10 M o b1 b2 b3 b4 b5 b6 = some out → zgo none (d + 1) 171 134 [(0, zrf (some o)), (1, .int b1), (2, .int b2), (3, .int b3), (4, .int b4)] [.int b5, zrf b6] M (some (.int out.1), out.2) := by
  intro M o b1 b2 b3 b4 b5 b6 out h
  unfold f_171_134 at h
  refine zo_iconst (p' := 135) (v := 1) (zi_171 rfl) rfl rfl ?_
  refine zo_goto (p' := 139) (zi_171 rfl) rfl ?_
  refine zgo_sub (L' := [(0, zrf (some o)), (1, .int b1), (2, .int b2), (3, .int b3), (4, .int b4)]) (⟨rfl, rfl, rfl, rfl, rfl, trivial⟩) ?_
  exact k_171_139 _ _ (fun M a0 a1 a2 a3 a4 out h => h10 M a0 a1 a2 a3 a4 out h) M o b1 b2 b3 b4 1 b5 b6 _ h
set_option maxRecDepth 20000 in
theorem k_171_233 (d : Nat) (r10 : ZMem → Nat → Int32 → Int32 → Int32 → Int32 → Option (Int32 × ZMem)) (h10 : ∀ (M : ZMem) (a0 : Nat) (a1 : Int32) (a2 : Int32) (a3 : Int32) (a4 : Int32) (out : Int32 × ZMem), r10 M a0 a1 a2 a3 a4 = some out → zgo none (d + 1) 171 10 [(0, zrf (some a0)), (1, .int a1), (2, .int a2), (3, .int a3), (4, .int a4)] [] M (some (.int out.1), out.2)) : ∀ (M : ZMem) (o : Nat) (b1 : Int32) (b2 : Int32) (b3 : Int32) (b4 : Int32) (b5 : Int32) (b6 : Int32) (b7 : Option Nat) (out : Int32 × ZMem), f_171_233 r10 M o b1 b2 b3 b4 b5 b6 b7 = some out → zgo none (d + 1) 171 233 [(0, zrf (some o)), (1, .int b1), (2, .int b2), (3, .int b3), (4, .int b4)] [.int b5, .int b6, zrf b7] M (some (.int out.1), out.2) := by
  intro M o b1 b2 b3 b4 b5 b6 b7 out h
  unfold f_171_233 at h
  obtain ⟨q101, h0, g104⟩ := zb_of h
  subst h0
  obtain ⟨M102, hx103, g105⟩ := zb_of g104
  refine zo_bast (p' := 234) (zi_171 rfl) rfl hx103 ?_
  refine zo_iinc (p' := 237) (v := (b3 + 1)) (L' := [(0, zrf (some o)), (1, .int b1), (2, .int b2), (3, .int ((b3 + 1))), (4, .int b4)]) (zi_171 rfl) rfl zm_171_3 rfl rfl ⟨Or.inr ⟨by decide, rfl, fun q => absurd q (by decide)⟩, ⟨Or.inr ⟨by decide, rfl, fun q => absurd q (by decide)⟩, ⟨Or.inr ⟨by decide, rfl, fun _ => rfl⟩, ⟨Or.inl ⟨rfl, rfl⟩, ⟨Or.inr ⟨by decide, rfl, fun q => absurd q (by decide)⟩, trivial⟩⟩⟩⟩⟩ ?_
  refine zgo_sub (L' := [(0, zrf (some o)), (1, .int b1), (2, .int b2), (3, .int (((b3 + 1)))), (4, .int b4)]) (⟨rfl, rfl, rfl, rfl, rfl, trivial⟩) ?_
  exact k_171_237 _ _ (fun M a0 a1 a2 a3 a4 out h => h10 M a0 a1 a2 a3 a4 out h) M102 o b1 b2 ((b3 + 1)) b4 _ g105
set_option maxRecDepth 20000 in
theorem k_171_10 (d : Nat) : ∀ (z : Nat) (M : ZMem) (o : Nat) (b1 : Int32) (b2 : Int32) (b3 : Int32) (b4 : Int32) (out : Int32 × ZMem), f_171_10 z M o b1 b2 b3 b4 = some out → zgo none (d + 1) 171 10 [(0, zrf (some o)), (1, .int b1), (2, .int b2), (3, .int b3), (4, .int b4)] [] M (some (.int out.1), out.2) := by
  intro z
  induction z with
  | zero => intro M o b1 b2 b3 b4 out h; cases h
  | succ z ih =>
    intro M o b1 b2 b3 b4 out h
    rw [f_171_10] at h
    refine zo_iload (p' := 12) (zi_171 rfl) rfl rfl ?_
    refine zo_aload_n (p' := 13) (zi_171 rfl) rfl rfl ?_
    obtain ⟨r9, hx10, g72⟩ := zb_of h
    refine zo_getR (p' := 16) (zi_171 rfl) rfl zl_19_68 hx10 ?_
    refine zo_iload_n (p' := 17) (zi_171 rfl) rfl rfl ?_
    obtain ⟨q11, h0, g73⟩ := zb_of g72
    subst h0
    obtain ⟨x12, hx13, g74⟩ := zb_of g73
    refine zo_iald (p' := 18) (zi_171 rfl) rfl hx13 ?_
    by_cases hc14 : x12 ≤ b4
    · rw [if_pos hc14] at g74
      refine zo_icT (p' := 243) (zi_171 rfl) rfl hc14 ?_
      refine zo_aload_n (p' := 244) (zi_171 rfl) rfl rfl ?_
      obtain ⟨r15, hx16, g75⟩ := zb_of g74
      refine zo_getR (p' := 247) (zi_171 rfl) rfl zl_19_89 hx16 ?_
      refine zo_iconst (p' := 248) (v := 0) (zi_171 rfl) rfl rfl ?_
      obtain ⟨q17, h0, g76⟩ := zb_of g75
      subst h0
      obtain ⟨x18, hx19, g77⟩ := zb_of g76
      refine zo_bald (p' := 249) (zi_171 rfl) rfl hx19 ?_
      by_cases hr20 : narrow .boolean (.int x18) = .int x18
      · rw [if_pos hr20] at g77
        have g78 := Option.some.inj g77
        subst g78
        exact zo_iret (zi_171 rfl) rfl ⟨rfl, hr20⟩
      · rw [if_neg hr20] at g77; cases g77
    · rw [if_neg hc14] at g74
      refine zo_icF (p' := 21) (zi_171 rfl) rfl rfl hc14 ?_
      refine zo_aload_n (p' := 22) (zi_171 rfl) rfl rfl ?_
      obtain ⟨r21, hx22, g79⟩ := zb_of g74
      refine zo_getR (p' := 25) (zi_171 rfl) rfl zl_19_71 hx22 ?_
      refine zo_iload (p' := 27) (zi_171 rfl) rfl rfl ?_
      obtain ⟨q23, h0, g80⟩ := zb_of g79
      subst h0
      obtain ⟨x24, hx25, g81⟩ := zb_of g80
      refine zo_iald (p' := 28) (zi_171 rfl) rfl hx25 ?_
      refine zo_istore (p' := 30) (L' := [(0, zrf (some o)), (1, .int b1), (2, .int b2), (3, .int b3), (4, .int b4), (5, .int x24)]) (zi_171 rfl) rfl zm_171_5 ⟨Or.inr ⟨by decide, rfl, fun q => absurd q (by decide)⟩, ⟨Or.inr ⟨by decide, rfl, fun q => absurd q (by decide)⟩, ⟨Or.inr ⟨by decide, rfl, fun q => absurd q (by decide)⟩, ⟨Or.inr ⟨by decide, rfl, fun q => absurd q (by decide)⟩, ⟨Or.inr ⟨by decide, rfl, fun _ => rfl⟩, ⟨Or.inl ⟨rfl, rfl⟩, trivial⟩⟩⟩⟩⟩⟩ ?_
      refine zo_iload (p' := 32) (zi_171 rfl) rfl rfl ?_
      refine zo_bipush (p' := 34) (v := (-33)) (zi_171 rfl) rfl rfl ?_
      by_cases hc26 : ¬ x24 = (-33)
      · rw [if_pos hc26] at g81
        refine zo_icT (p' := 64) (zi_171 rfl) rfl hc26 ?_
        refine zo_iload (p' := 66) (zi_171 rfl) rfl rfl ?_
        by_cases hc27 : 0 ≤ x24
        · rw [if_pos hc27] at g81
          refine zo_ifT (p' := 143) (zi_171 rfl) rfl hc27 ?_
          refine zo_aload_n (p' := 144) (zi_171 rfl) rfl rfl ?_
          refine zo_iload (p' := 146) (zi_171 rfl) rfl rfl ?_
          refine zo_sipush (p' := 149) (v := 1000) (zi_171 rfl) rfl rfl ?_
          refine zo_idiv (p' := 150) (zi_171 rfl) rfl (by decide) ?_
          refine zo_iload_n (p' := 151) (zi_171 rfl) rfl rfl ?_
          obtain ⟨x28, hx29, g82⟩ := zb_of g81
          refine zo_callVi (p' := 154) (t := 12) (as := [.int ((x24 / 1000)), .int b2]) (r := []) (zi_171 rfl) rfl zl_19_310 rfl rfl (Or.inl ⟨by decide, rfl⟩) (Nat.le_of_ble_eq_true rfl) (Nat.le_of_ble_eq_true rfl) (f_172_ok hx29) (k_172 _ hx29) ?_
          refine zo_istore (p' := 156) (L' := [(0, zrf (some o)), (1, .int b1), (2, .int b2), (3, .int b3), (4, .int b4), (5, .int x24), (6, .int x28)]) (zi_171 rfl) rfl zm_171_6 ⟨Or.inr ⟨by decide, rfl, fun q => absurd q (by decide)⟩, ⟨Or.inr ⟨by decide, rfl, fun q => absurd q (by decide)⟩, ⟨Or.inr ⟨by decide, rfl, fun q => absurd q (by decide)⟩, ⟨Or.inr ⟨by decide, rfl, fun q => absurd q (by decide)⟩, ⟨Or.inr ⟨by decide, rfl, fun q => absurd q (by decide)⟩, ⟨Or.inr ⟨by decide, rfl, fun _ => rfl⟩, ⟨Or.inl ⟨rfl, rfl⟩, trivial⟩⟩⟩⟩⟩⟩⟩ ?_
          refine zo_iload (p' := 158) (zi_171 rfl) rfl rfl ?_
          refine zo_bipush (p' := 160) (v := 100) (zi_171 rfl) rfl rfl ?_
          refine zo_idiv (p' := 161) (zi_171 rfl) rfl (by decide) ?_
          refine zo_bipush (p' := 163) (v := 10) (zi_171 rfl) rfl rfl ?_
          refine zo_irem (p' := 164) (zi_171 rfl) rfl (by decide) ?_
          refine zo_istore (p' := 166) (L' := [(0, zrf (some o)), (1, .int b1), (2, .int b2), (3, .int b3), (4, .int b4), (5, .int x24), (6, .int x28), (7, .int (((x24 / 100) - (x24 / 100) / 10 * 10)))]) (zi_171 rfl) rfl zm_171_7 ⟨Or.inr ⟨by decide, rfl, fun q => absurd q (by decide)⟩, ⟨Or.inr ⟨by decide, rfl, fun q => absurd q (by decide)⟩, ⟨Or.inr ⟨by decide, rfl, fun q => absurd q (by decide)⟩, ⟨Or.inr ⟨by decide, rfl, fun q => absurd q (by decide)⟩, ⟨Or.inr ⟨by decide, rfl, fun q => absurd q (by decide)⟩, ⟨Or.inr ⟨by decide, rfl, fun q => absurd q (by decide)⟩, ⟨Or.inr ⟨by decide, rfl, fun _ => rfl⟩, ⟨Or.inl ⟨rfl, rfl⟩, trivial⟩⟩⟩⟩⟩⟩⟩⟩ ?_
          refine zo_aload_n (p' := 167) (zi_171 rfl) rfl rfl ?_
          obtain ⟨r30, hx31, g83⟩ := zb_of g82
          refine zo_getR (p' := 170) (zi_171 rfl) rfl zl_19_89 hx31 ?_
          refine zo_iload_n (p' := 171) (zi_171 rfl) rfl rfl ?_
          refine zo_iload (p' := 173) (zi_171 rfl) rfl rfl ?_
          by_cases hc32 : ¬ ((x24 / 100) - (x24 / 100) / 10 * 10) = 0
          · rw [if_pos hc32] at g83
            refine zo_ifT (p' := 194) (zi_171 rfl) rfl hc32 ?_
            refine zo_iload (p' := 196) (zi_171 rfl) rfl rfl ?_
            refine zo_iconst (p' := 197) (v := 1) (zi_171 rfl) rfl rfl ?_
            by_cases hc33 : ¬ ((x24 / 100) - (x24 / 100) / 10 * 10) = 1
            · rw [if_pos hc33] at g83
              refine zo_icT (p' := 218) (zi_171 rfl) rfl hc33 ?_
              refine zo_iload (p' := 220) (zi_171 rfl) rfl rfl ?_
              refine zo_iload (p' := 222) (zi_171 rfl) rfl rfl ?_
              refine zo_bipush (p' := 224) (v := 100) (zi_171 rfl) rfl rfl ?_
              refine zo_irem (p' := 225) (zi_171 rfl) rfl (by decide) ?_
              by_cases hc34 : x28 ≤ (x24 - x24 / 100 * 100)
              · rw [if_pos hc34] at g83
                refine zo_icT (p' := 232) (zi_171 rfl) rfl hc34 ?_
                refine zo_iconst (p' := 233) (v := 0) (zi_171 rfl) rfl rfl ?_
                refine zgo_sub (L' := [(0, zrf (some o)), (1, .int b1), (2, .int b2), (3, .int b3), (4, .int b4)]) (⟨rfl, rfl, rfl, rfl, rfl, trivial⟩) ?_
                exact k_171_233 _ _ (fun M a0 a1 a2 a3 a4 out h => ih M a0 a1 a2 a3 a4 out h) M o b1 b2 b3 b4 0 b3 r30 _ g83
              · rw [if_neg hc34] at g83
                refine zo_icF (p' := 228) (zi_171 rfl) rfl rfl hc34 ?_
                refine zo_iconst (p' := 229) (v := 1) (zi_171 rfl) rfl rfl ?_
                refine zo_goto (p' := 233) (zi_171 rfl) rfl ?_
                refine zgo_sub (L' := [(0, zrf (some o)), (1, .int b1), (2, .int b2), (3, .int b3), (4, .int b4)]) (⟨rfl, rfl, rfl, rfl, rfl, trivial⟩) ?_
                exact k_171_233 _ _ (fun M a0 a1 a2 a3 a4 out h => ih M a0 a1 a2 a3 a4 out h) M o b1 b2 b3 b4 1 b3 r30 _ g83
            · rw [if_neg hc33] at g83
              refine zo_icF (p' := 200) (zi_171 rfl) rfl rfl hc33 ?_
              refine zo_iload (p' := 202) (zi_171 rfl) rfl rfl ?_
              refine zo_iload (p' := 204) (zi_171 rfl) rfl rfl ?_
              refine zo_bipush (p' := 206) (v := 100) (zi_171 rfl) rfl rfl ?_
              refine zo_irem (p' := 207) (zi_171 rfl) rfl (by decide) ?_
              by_cases hc35 : ¬ x28 = (x24 - x24 / 100 * 100)
              · rw [if_pos hc35] at g83
                refine zo_icT (p' := 214) (zi_171 rfl) rfl hc35 ?_
                refine zo_iconst (p' := 215) (v := 0) (zi_171 rfl) rfl rfl ?_
                refine zo_goto (p' := 233) (zi_171 rfl) rfl ?_
                refine zgo_sub (L' := [(0, zrf (some o)), (1, .int b1), (2, .int b2), (3, .int b3), (4, .int b4)]) (⟨rfl, rfl, rfl, rfl, rfl, trivial⟩) ?_
                exact k_171_233 _ _ (fun M a0 a1 a2 a3 a4 out h => ih M a0 a1 a2 a3 a4 out h) M o b1 b2 b3 b4 0 b3 r30 _ g83
              · rw [if_neg hc35] at g83
                refine zo_icF (p' := 210) (zi_171 rfl) rfl rfl hc35 ?_
                refine zo_iconst (p' := 211) (v := 1) (zi_171 rfl) rfl rfl ?_
                refine zo_goto (p' := 233) (zi_171 rfl) rfl ?_
                refine zgo_sub (L' := [(0, zrf (some o)), (1, .int b1), (2, .int b2), (3, .int b3), (4, .int b4)]) (⟨rfl, rfl, rfl, rfl, rfl, trivial⟩) ?_
                exact k_171_233 _ _ (fun M a0 a1 a2 a3 a4 out h => ih M a0 a1 a2 a3 a4 out h) M o b1 b2 b3 b4 1 b3 r30 _ g83
          · rw [if_neg hc32] at g83
            refine zo_ifF (p' := 176) (zi_171 rfl) rfl rfl hc32 ?_
            refine zo_iload (p' := 178) (zi_171 rfl) rfl rfl ?_
            refine zo_iload (p' := 180) (zi_171 rfl) rfl rfl ?_
            refine zo_bipush (p' := 182) (v := 100) (zi_171 rfl) rfl rfl ?_
            refine zo_irem (p' := 183) (zi_171 rfl) rfl (by decide) ?_
            by_cases hc36 : (x24 - x24 / 100 * 100) ≤ x28
            · rw [if_pos hc36] at g83
              refine zo_icT (p' := 190) (zi_171 rfl) rfl hc36 ?_
              refine zo_iconst (p' := 191) (v := 0) (zi_171 rfl) rfl rfl ?_
              refine zo_goto (p' := 233) (zi_171 rfl) rfl ?_
              refine zgo_sub (L' := [(0, zrf (some o)), (1, .int b1), (2, .int b2), (3, .int b3), (4, .int b4)]) (⟨rfl, rfl, rfl, rfl, rfl, trivial⟩) ?_
              exact k_171_233 _ _ (fun M a0 a1 a2 a3 a4 out h => ih M a0 a1 a2 a3 a4 out h) M o b1 b2 b3 b4 0 b3 r30 _ g83
            · rw [if_neg hc36] at g83
              refine zo_icF (p' := 186) (zi_171 rfl) rfl rfl hc36 ?_
              refine zo_iconst (p' := 187) (v := 1) (zi_171 rfl) rfl rfl ?_
              refine zo_goto (p' := 233) (zi_171 rfl) rfl ?_
              refine zgo_sub (L' := [(0, zrf (some o)), (1, .int b1), (2, .int b2), (3, .int b3), (4, .int b4)]) (⟨rfl, rfl, rfl, rfl, rfl, trivial⟩) ?_
              exact k_171_233 _ _ (fun M a0 a1 a2 a3 a4 out h => ih M a0 a1 a2 a3 a4 out h) M o b1 b2 b3 b4 1 b3 r30 _ g83
        · rw [if_neg hc27] at g81
          refine zo_ifF (p' := 69) (zi_171 rfl) rfl rfl hc27 ?_
          refine zo_iinc (p' := 72) (v := (b3 + (-1))) (L' := [(0, zrf (some o)), (1, .int b1), (2, .int b2), (3, .int ((b3 + (-1)))), (4, .int b4), (5, .int x24)]) (zi_171 rfl) rfl zm_171_3 rfl rfl ⟨Or.inr ⟨by decide, rfl, fun q => absurd q (by decide)⟩, ⟨Or.inr ⟨by decide, rfl, fun q => absurd q (by decide)⟩, ⟨Or.inr ⟨by decide, rfl, fun _ => rfl⟩, ⟨Or.inl ⟨rfl, rfl⟩, ⟨Or.inr ⟨by decide, rfl, fun q => absurd q (by decide)⟩, ⟨Or.inr ⟨by decide, rfl, fun q => absurd q (by decide)⟩, trivial⟩⟩⟩⟩⟩⟩ ?_
          refine zo_aload_n (p' := 73) (zi_171 rfl) rfl rfl ?_
          obtain ⟨r37, hx38, g84⟩ := zb_of g81
          refine zo_getR (p' := 76) (zi_171 rfl) rfl zl_19_89 hx38 ?_
          refine zo_iload_n (p' := 77) (zi_171 rfl) rfl rfl ?_
          refine zo_iconst (p' := 78) (v := 1) (zi_171 rfl) rfl rfl ?_
          refine zo_isub (p' := 79) (zi_171 rfl) rfl ?_
          refine zo_iload (p' := 81) (zi_171 rfl) rfl rfl ?_
          refine zo_bipush (p' := 83) (v := (-38)) (zi_171 rfl) rfl rfl ?_
          by_cases hc39 : ¬ x24 = (-38)
          · rw [if_pos hc39] at g84
            refine zo_icT (p' := 114) (zi_171 rfl) rfl hc39 ?_
            refine zo_aload_n (p' := 115) (zi_171 rfl) rfl rfl ?_
            obtain ⟨r40, hx41, g85⟩ := zb_of g84
            refine zo_getR (p' := 118) (zi_171 rfl) rfl zl_19_89 hx41 ?_
            refine zo_iload_n (p' := 119) (zi_171 rfl) rfl rfl ?_
            refine zo_iconst (p' := 120) (v := 1) (zi_171 rfl) rfl rfl ?_
            refine zo_isub (p' := 121) (zi_171 rfl) rfl ?_
            obtain ⟨q42, h0, g86⟩ := zb_of g85
            subst h0
            obtain ⟨x43, hx44, g87⟩ := zb_of g86
            refine zo_bald (p' := 122) (zi_171 rfl) rfl hx44 ?_
            by_cases hc45 : ¬ x43 = 0
            · rw [if_pos hc45] at g87
              refine zo_ifT (p' := 134) (zi_171 rfl) rfl hc45 ?_
              refine zgo_sub (L' := [(0, zrf (some o)), (1, .int b1), (2, .int b2), (3, .int (((b3 + (-1))))), (4, .int b4)]) (⟨rfl, rfl, rfl, rfl, rfl, trivial⟩) ?_
              exact k_171_134 _ _ (fun M a0 a1 a2 a3 a4 out h => ih M a0 a1 a2 a3 a4 out h) M o b1 b2 ((b3 + (-1))) b4 (((b3 + (-1)) - 1)) r37 _ g87
            · rw [if_neg hc45] at g87
              refine zo_ifF (p' := 125) (zi_171 rfl) rfl rfl hc45 ?_
              refine zo_aload_n (p' := 126) (zi_171 rfl) rfl rfl ?_
              obtain ⟨r46, hx47, g88⟩ := zb_of g87
              refine zo_getR (p' := 129) (zi_171 rfl) rfl zl_19_89 hx47 ?_
              refine zo_iload_n (p' := 130) (zi_171 rfl) rfl rfl ?_
              obtain ⟨q48, h0, g89⟩ := zb_of g88
              subst h0
              obtain ⟨x49, hx50, g90⟩ := zb_of g89
              refine zo_bald (p' := 131) (zi_171 rfl) rfl hx50 ?_
              by_cases hc51 : x49 = 0
              · rw [if_pos hc51] at g90
                refine zo_ifT (p' := 138) (zi_171 rfl) rfl hc51 ?_
                refine zo_iconst (p' := 139) (v := 0) (zi_171 rfl) rfl rfl ?_
                refine zgo_sub (L' := [(0, zrf (some o)), (1, .int b1), (2, .int b2), (3, .int (((b3 + (-1))))), (4, .int b4)]) (⟨rfl, rfl, rfl, rfl, rfl, trivial⟩) ?_
                exact k_171_139 _ _ (fun M a0 a1 a2 a3 a4 out h => ih M a0 a1 a2 a3 a4 out h) M o b1 b2 ((b3 + (-1))) b4 0 (((b3 + (-1)) - 1)) r37 _ g90
              · rw [if_neg hc51] at g90
                refine zo_ifF (p' := 134) (zi_171 rfl) rfl rfl hc51 ?_
                refine zgo_sub (L' := [(0, zrf (some o)), (1, .int b1), (2, .int b2), (3, .int (((b3 + (-1))))), (4, .int b4)]) (⟨rfl, rfl, rfl, rfl, rfl, trivial⟩) ?_
                exact k_171_134 _ _ (fun M a0 a1 a2 a3 a4 out h => ih M a0 a1 a2 a3 a4 out h) M o b1 b2 ((b3 + (-1))) b4 (((b3 + (-1)) - 1)) r37 _ g90
          · rw [if_neg hc39] at g84
            refine zo_icF (p' := 86) (zi_171 rfl) rfl rfl hc39 ?_
            refine zo_aload_n (p' := 87) (zi_171 rfl) rfl rfl ?_
            obtain ⟨r52, hx53, g91⟩ := zb_of g84
            refine zo_getR (p' := 90) (zi_171 rfl) rfl zl_19_89 hx53 ?_
            refine zo_iload_n (p' := 91) (zi_171 rfl) rfl rfl ?_
            refine zo_iconst (p' := 92) (v := 1) (zi_171 rfl) rfl rfl ?_
            refine zo_isub (p' := 93) (zi_171 rfl) rfl ?_
            obtain ⟨q54, h0, g92⟩ := zb_of g91
            subst h0
            obtain ⟨x55, hx56, g93⟩ := zb_of g92
            refine zo_bald (p' := 94) (zi_171 rfl) rfl hx56 ?_
            by_cases hc57 : x55 = 0
            · rw [if_pos hc57] at g93
              refine zo_ifT (p' := 110) (zi_171 rfl) rfl hc57 ?_
              refine zgo_sub (L' := [(0, zrf (some o)), (1, .int b1), (2, .int b2), (3, .int (((b3 + (-1))))), (4, .int b4)]) (⟨rfl, rfl, rfl, rfl, rfl, trivial⟩) ?_
              exact k_171_110 _ _ (fun M a0 a1 a2 a3 a4 out h => ih M a0 a1 a2 a3 a4 out h) M o b1 b2 ((b3 + (-1))) b4 (((b3 + (-1)) - 1)) r37 _ g93
            · rw [if_neg hc57] at g93
              refine zo_ifF (p' := 97) (zi_171 rfl) rfl rfl hc57 ?_
              refine zo_aload_n (p' := 98) (zi_171 rfl) rfl rfl ?_
              obtain ⟨r58, hx59, g94⟩ := zb_of g93
              refine zo_getR (p' := 101) (zi_171 rfl) rfl zl_19_89 hx59 ?_
              refine zo_iload_n (p' := 102) (zi_171 rfl) rfl rfl ?_
              obtain ⟨q60, h0, g95⟩ := zb_of g94
              subst h0
              obtain ⟨x61, hx62, g96⟩ := zb_of g95
              refine zo_bald (p' := 103) (zi_171 rfl) rfl hx62 ?_
              by_cases hc63 : x61 = 0
              · rw [if_pos hc63] at g96
                refine zo_ifT (p' := 110) (zi_171 rfl) rfl hc63 ?_
                refine zgo_sub (L' := [(0, zrf (some o)), (1, .int b1), (2, .int b2), (3, .int (((b3 + (-1))))), (4, .int b4)]) (⟨rfl, rfl, rfl, rfl, rfl, trivial⟩) ?_
                exact k_171_110 _ _ (fun M a0 a1 a2 a3 a4 out h => ih M a0 a1 a2 a3 a4 out h) M o b1 b2 ((b3 + (-1))) b4 (((b3 + (-1)) - 1)) r37 _ g96
              · rw [if_neg hc63] at g96
                refine zo_ifF (p' := 106) (zi_171 rfl) rfl rfl hc63 ?_
                refine zo_iconst (p' := 107) (v := 1) (zi_171 rfl) rfl rfl ?_
                refine zo_goto (p' := 139) (zi_171 rfl) rfl ?_
                refine zgo_sub (L' := [(0, zrf (some o)), (1, .int b1), (2, .int b2), (3, .int (((b3 + (-1))))), (4, .int b4)]) (⟨rfl, rfl, rfl, rfl, rfl, trivial⟩) ?_
                exact k_171_139 _ _ (fun M a0 a1 a2 a3 a4 out h => ih M a0 a1 a2 a3 a4 out h) M o b1 b2 ((b3 + (-1))) b4 1 (((b3 + (-1)) - 1)) r37 _ g96
      · rw [if_neg hc26] at g81
        refine zo_icF (p' := 37) (zi_171 rfl) rfl rfl hc26 ?_
        refine zo_aload_n (p' := 38) (zi_171 rfl) rfl rfl ?_
        obtain ⟨r64, hx65, g97⟩ := zb_of g81
        refine zo_getR (p' := 41) (zi_171 rfl) rfl zl_19_89 hx65 ?_
        refine zo_iload_n (p' := 42) (zi_171 rfl) rfl rfl ?_
        refine zo_iconst (p' := 43) (v := 1) (zi_171 rfl) rfl rfl ?_
        refine zo_isub (p' := 44) (zi_171 rfl) rfl ?_
        refine zo_aload_n (p' := 45) (zi_171 rfl) rfl rfl ?_
        obtain ⟨r66, hx67, g98⟩ := zb_of g97
        refine zo_getR (p' := 48) (zi_171 rfl) rfl zl_19_89 hx67 ?_
        refine zo_iload_n (p' := 49) (zi_171 rfl) rfl rfl ?_
        refine zo_iconst (p' := 50) (v := 1) (zi_171 rfl) rfl rfl ?_
        refine zo_isub (p' := 51) (zi_171 rfl) rfl ?_
        obtain ⟨q68, h0, g99⟩ := zb_of g98
        subst h0
        obtain ⟨x69, hx70, g100⟩ := zb_of g99
        refine zo_bald (p' := 52) (zi_171 rfl) rfl hx70 ?_
        by_cases hc71 : ¬ x69 = 0
        · rw [if_pos hc71] at g100
          refine zo_ifT (p' := 59) (zi_171 rfl) rfl hc71 ?_
          refine zo_iconst (p' := 60) (v := 0) (zi_171 rfl) rfl rfl ?_
          refine zgo_sub (L' := [(0, zrf (some o)), (1, .int b1), (2, .int b2), (3, .int b3), (4, .int b4)]) (⟨rfl, rfl, rfl, rfl, rfl, trivial⟩) ?_
          exact k_171_60 _ _ (fun M a0 a1 a2 a3 a4 out h => ih M a0 a1 a2 a3 a4 out h) M o b1 b2 b3 b4 0 ((b3 - 1)) r64 _ g100
        · rw [if_neg hc71] at g100
          refine zo_ifF (p' := 55) (zi_171 rfl) rfl rfl hc71 ?_
          refine zo_iconst (p' := 56) (v := 1) (zi_171 rfl) rfl rfl ?_
          refine zo_goto (p' := 60) (zi_171 rfl) rfl ?_
          refine zgo_sub (L' := [(0, zrf (some o)), (1, .int b1), (2, .int b2), (3, .int b3), (4, .int b4)]) (⟨rfl, rfl, rfl, rfl, rfl, trivial⟩) ?_
          exact k_171_60 _ _ (fun M a0 a1 a2 a3 a4 out h => ih M a0 a1 a2 a3 a4 out h) M o b1 b2 b3 b4 1 ((b3 - 1)) r64 _ g100
def f_171 (M : ZMem) (o : Nat) (a0 : Int32) (a1 : Int32) : Option (Int32 × ZMem) := if zok M 12 o = true then (zb (zgr M 12 18 o) fun r1 => zb r1 fun q3 => zb (zai M q3 a0) fun x4 => f_171_10 zF M o a0 a1 0 x4) else none
theorem f_171_ok {M : ZMem} {o : Nat} {a0 : Int32} {a1 : Int32} {out : Int32 × ZMem} (h : f_171 M o a0 a1 = some out) : zok M 12 o = true := by
  unfold f_171 at h
  by_cases hok : zok M 12 o = true
  · exact hok
  · rw [if_neg hok] at h; cases h
set_option maxRecDepth 20000 in
theorem k_171 (d : Nat) {M : ZMem} {o : Nat} {a0 : Int32} {a1 : Int32} {out : Int32 × ZMem} (h : f_171 M o a0 a1 = some out) : zrn (d + 1) 171 [zrf (some o), .int a0, .int a1] M (some (.int out.1), out.2) := by
  unfold f_171 at h
  by_cases hok : zok M 12 o = true
  · rw [if_pos hok] at h
    refine zrn_of (L := [(0, zrf (some o)), (1, .int a0), (2, .int a1)]) rfl ?_
    refine zo_iconst (p' := 1) (v := 0) (zi_171 rfl) rfl rfl ?_
    refine zo_istore_n (p' := 2) (L' := [(0, zrf (some o)), (1, .int a0), (2, .int a1), (3, .int 0)]) (zi_171 rfl) rfl zm_171_3 ⟨Or.inr ⟨by decide, rfl, fun q => absurd q (by decide)⟩, ⟨Or.inr ⟨by decide, rfl, fun q => absurd q (by decide)⟩, ⟨Or.inr ⟨by decide, rfl, fun _ => rfl⟩, ⟨Or.inl ⟨rfl, rfl⟩, trivial⟩⟩⟩⟩ ?_
    refine zo_aload_n (p' := 3) (zi_171 rfl) rfl rfl ?_
    obtain ⟨r1, hx2, g6⟩ := zb_of h
    refine zo_getR (p' := 6) (zi_171 rfl) rfl zl_19_65 hx2 ?_
    refine zo_iload_n (p' := 7) (zi_171 rfl) rfl rfl ?_
    obtain ⟨q3, h0, g7⟩ := zb_of g6
    subst h0
    obtain ⟨x4, hx5, g8⟩ := zb_of g7
    refine zo_iald (p' := 8) (zi_171 rfl) rfl hx5 ?_
    refine zo_istore (p' := 10) (L' := [(0, zrf (some o)), (1, .int a0), (2, .int a1), (3, .int 0), (4, .int x4)]) (zi_171 rfl) rfl zm_171_4 ⟨Or.inr ⟨by decide, rfl, fun q => absurd q (by decide)⟩, ⟨Or.inr ⟨by decide, rfl, fun q => absurd q (by decide)⟩, ⟨Or.inr ⟨by decide, rfl, fun q => absurd q (by decide)⟩, ⟨Or.inr ⟨by decide, rfl, fun _ => rfl⟩, ⟨Or.inl ⟨rfl, rfl⟩, trivial⟩⟩⟩⟩⟩ ?_
    refine zgo_sub (L' := [(0, zrf (some o)), (1, .int a0), (2, .int a1), (3, .int 0), (4, .int x4)]) (⟨rfl, rfl, rfl, rfl, rfl, trivial⟩) ?_
    exact k_171_10 _ zF M o a0 a1 0 x4 _ g8
  · rw [if_neg hok] at h; cases h
/-- SlateHalvesModel.least0(I)I -/
def f_173 (M : ZMem) (o : Nat) (a0 : Int32) : Option (Int32) := if zok M 12 o = true then (if 0 ≤ a0 then (some a0) else (some 0)) else none
theorem f_173_ok {M : ZMem} {o : Nat} {a0 : Int32} {out : Int32} (h : f_173 M o a0 = some out) : zok M 12 o = true := by
  unfold f_173 at h
  by_cases hok : zok M 12 o = true
  · exact hok
  · rw [if_neg hok] at h; cases h
set_option maxRecDepth 20000 in
theorem k_173 (d : Nat) {M : ZMem} {o : Nat} {a0 : Int32} {out : Int32} (h : f_173 M o a0 = some out) : zrn (d) 173 [zrf (some o), .int a0] M (some (.int out), M) := by
  unfold f_173 at h
  by_cases hok : zok M 12 o = true
  · rw [if_pos hok] at h
    refine zrn_of (L := [(0, zrf (some o)), (1, .int a0)]) rfl ?_
    refine zo_iload_n (p' := 1) (zi_173 rfl) rfl rfl ?_
    by_cases hc1 : 0 ≤ a0
    · rw [if_pos hc1] at h
      refine zo_ifT (p' := 8) (zi_173 rfl) rfl hc1 ?_
      refine zo_iload_n (p' := 9) (zi_173 rfl) rfl rfl ?_
      have g2 := Option.some.inj h
      subst g2
      exact zo_iret (zi_173 rfl) rfl ⟨rfl, rfl⟩
    · rw [if_neg hc1] at h
      refine zo_ifF (p' := 4) (zi_173 rfl) rfl rfl hc1 ?_
      refine zo_iconst (p' := 5) (v := 0) (zi_173 rfl) rfl rfl ?_
      refine zo_goto (p' := 9) (zi_173 rfl) rfl ?_
      have g3 := Option.some.inj h
      subst g3
      exact zo_iret (zi_173 rfl) rfl ⟨rfl, rfl⟩
  · rw [if_neg hok] at h; cases h
/-- SlateHalvesModel.price(I)I -/
def f_168_66 (r8 : ZMem → Nat → Int32 → Int32 → Int32 → Option (Int32 × ZMem)) (M : ZMem) (o : Nat) (b1 : Int32) (b2 : Int32) (b3 : Int32) : Option (Int32 × ZMem) := r8 M o b1 b2 ((b3 + 1))
def f_168_64 (r8 : ZMem → Nat → Int32 → Int32 → Int32 → Option (Int32 × ZMem)) (M : ZMem) (o : Nat) (b1 : Int32) (b2 : Int32) (b3 : Int32) (b4 : Int32) : Option (Int32 × ZMem) := f_168_66 (fun M a0 a1 a2 a3 => r8 M a0 a1 a2 a3) M o b1 ((b4 + b3)) b2
def f_168_8 : Nat → ZMem → Nat → Int32 → Int32 → Int32 → Option (Int32 × ZMem)
  | 0, _, _, _, _, _ => none
  | z + 1, M, o, b1, b2, b3 => zb (f_170 M o) fun x4 => if x4 ≤ b3 then (zb (f_173 M o b2) fun x7 => some (x7, M)) else (zb (zgr M 12 16 o) fun r9 => zb r9 fun q11 => zb (zai M q11 b3) fun x12 => if 1 < x12 then (f_168_66 (fun M a0 a1 a2 a3 => f_168_8 z M a0 a1 a2 a3) M o b1 b2 b3) else (zbd (f_171 M o b3 b1) fun x15 M17 => if ¬ x15 = 0 then (zb (zgr M17 12 16 o) fun r19 => zb r19 fun q21 => zb (zai M17 q21 b3) fun x22 => if ¬ x22 = 0 then (zb (zgr M17 12 17 o) fun r25 => zb r25 fun q27 => zb (zai M17 q27 b3) fun x28 => f_168_64 (fun M a0 a1 a2 a3 => f_168_8 z M a0 a1 a2 a3) M17 o b1 b3 ((-x28)) b2) else (zb (zgr M17 12 17 o) fun r30 => zb r30 fun q32 => zb (zai M17 q32 b3) fun x33 => f_168_64 (fun M a0 a1 a2 a3 => f_168_8 z M a0 a1 a2 a3) M17 o b1 b3 x33 b2)) else (f_168_66 (fun M a0 a1 a2 a3 => f_168_8 z M a0 a1 a2 a3) M17 o b1 b2 b3)))
set_option maxRecDepth 20000 in
theorem k_168_66 (d : Nat) (r8 : ZMem → Nat → Int32 → Int32 → Int32 → Option (Int32 × ZMem)) (h8 : ∀ (M : ZMem) (a0 : Nat) (a1 : Int32) (a2 : Int32) (a3 : Int32) (out : Int32 × ZMem), r8 M a0 a1 a2 a3 = some out → zgo none (d + 2) 168 8 [(0, zrf (some a0)), (1, .int a1), (2, .int a2), (3, .int a3)] [] M (some (.int out.1), out.2)) : ∀ (M : ZMem) (o : Nat) (b1 : Int32) (b2 : Int32) (b3 : Int32) (out : Int32 × ZMem), f_168_66 r8 M o b1 b2 b3 = some out → zgo none (d + 2) 168 66 [(0, zrf (some o)), (1, .int b1), (2, .int b2), (3, .int b3)] [] M (some (.int out.1), out.2) := by
  intro M o b1 b2 b3 out h
  unfold f_168_66 at h
  refine zo_iinc (p' := 69) (v := (b3 + 1)) (L' := [(0, zrf (some o)), (1, .int b1), (2, .int b2), (3, .int ((b3 + 1)))]) (zi_168 rfl) rfl zm_168_3 rfl rfl ⟨Or.inr ⟨by decide, rfl, fun q => absurd q (by decide)⟩, ⟨Or.inr ⟨by decide, rfl, fun q => absurd q (by decide)⟩, ⟨Or.inr ⟨by decide, rfl, fun _ => rfl⟩, ⟨Or.inl ⟨rfl, rfl⟩, trivial⟩⟩⟩⟩ ?_
  refine zo_goto (p' := 8) (zi_168 rfl) rfl ?_
  refine zgo_sub (L' := [(0, zrf (some o)), (1, .int b1), (2, .int b2), (3, .int (((b3 + 1))))]) (⟨rfl, rfl, rfl, rfl, trivial⟩) ?_
  exact h8 M o b1 b2 ((b3 + 1)) _ h
set_option maxRecDepth 20000 in
theorem k_168_64 (d : Nat) (r8 : ZMem → Nat → Int32 → Int32 → Int32 → Option (Int32 × ZMem)) (h8 : ∀ (M : ZMem) (a0 : Nat) (a1 : Int32) (a2 : Int32) (a3 : Int32) (out : Int32 × ZMem), r8 M a0 a1 a2 a3 = some out → zgo none (d + 2) 168 8 [(0, zrf (some a0)), (1, .int a1), (2, .int a2), (3, .int a3)] [] M (some (.int out.1), out.2)) : ∀ (M : ZMem) (o : Nat) (b1 : Int32) (b2 : Int32) (b3 : Int32) (b4 : Int32) (out : Int32 × ZMem), f_168_64 r8 M o b1 b2 b3 b4 = some out → zgo none (d + 2) 168 64 [(0, zrf (some o)), (1, .int b1), (3, .int b2)] [.int b3, .int b4] M (some (.int out.1), out.2) := by
  intro M o b1 b2 b3 b4 out h
  unfold f_168_64 at h
  refine zo_iadd (p' := 65) (zi_168 rfl) rfl ?_
  refine zo_istore_n (p' := 66) (L' := [(0, zrf (some o)), (1, .int b1), (2, .int ((b4 + b3))), (3, .int b2)]) (zi_168 rfl) rfl zm_168_2 ⟨Or.inr ⟨by decide, rfl, fun q => absurd q (by decide)⟩, ⟨Or.inr ⟨by decide, rfl, fun _ => rfl⟩, ⟨Or.inl ⟨rfl, rfl⟩, ⟨Or.inr ⟨by decide, rfl, fun q => absurd q (by decide)⟩, trivial⟩⟩⟩⟩ ?_
  refine zgo_sub (L' := [(0, zrf (some o)), (1, .int b1), (2, .int (((b4 + b3)))), (3, .int b2)]) (⟨rfl, rfl, rfl, rfl, trivial⟩) ?_
  exact k_168_66 _ _ (fun M a0 a1 a2 a3 out h => h8 M a0 a1 a2 a3 out h) M o b1 ((b4 + b3)) b2 _ h
set_option maxRecDepth 20000 in
theorem k_168_8 (d : Nat) : ∀ (z : Nat) (M : ZMem) (o : Nat) (b1 : Int32) (b2 : Int32) (b3 : Int32) (out : Int32 × ZMem), f_168_8 z M o b1 b2 b3 = some out → zgo none (d + 2) 168 8 [(0, zrf (some o)), (1, .int b1), (2, .int b2), (3, .int b3)] [] M (some (.int out.1), out.2) := by
  intro z
  induction z with
  | zero => intro M o b1 b2 b3 out h; cases h
  | succ z ih =>
    intro M o b1 b2 b3 out h
    rw [f_168_8] at h
    refine zo_iload_n (p' := 9) (zi_168 rfl) rfl rfl ?_
    refine zo_aload_n (p' := 10) (zi_168 rfl) rfl rfl ?_
    obtain ⟨x4, hx5, g35⟩ := zb_of h
    refine zo_callVi (p' := 13) (t := 12) (as := []) (r := [.int b3]) (zi_168 rfl) rfl zl_19_297 rfl rfl (Or.inl ⟨by decide, rfl⟩) (Nat.le_of_ble_eq_true rfl) (Nat.le_of_ble_eq_true rfl) (f_170_ok hx5) (k_170 _ hx5) ?_
    by_cases hc6 : x4 ≤ b3
    · rw [if_pos hc6] at g35
      refine zo_icT (p' := 72) (zi_168 rfl) rfl hc6 ?_
      refine zo_aload_n (p' := 73) (zi_168 rfl) rfl rfl ?_
      refine zo_iload_n (p' := 74) (zi_168 rfl) rfl rfl ?_
      obtain ⟨x7, hx8, g36⟩ := zb_of g35
      refine zo_callVi (p' := 77) (t := 12) (as := [.int b2]) (r := []) (zi_168 rfl) rfl zl_19_316 rfl rfl (Or.inl ⟨by decide, rfl⟩) (Nat.le_of_ble_eq_true rfl) (Nat.le_of_ble_eq_true rfl) (f_173_ok hx8) (k_173 _ hx8) ?_
      have g37 := Option.some.inj g36
      subst g37
      exact zo_iret (zi_168 rfl) rfl ⟨rfl, rfl⟩
    · rw [if_neg hc6] at g35
      refine zo_icF (p' := 16) (zi_168 rfl) rfl rfl hc6 ?_
      refine zo_aload_n (p' := 17) (zi_168 rfl) rfl rfl ?_
      obtain ⟨r9, hx10, g38⟩ := zb_of g35
      refine zo_getR (p' := 20) (zi_168 rfl) rfl zl_19_59 hx10 ?_
      refine zo_iload_n (p' := 21) (zi_168 rfl) rfl rfl ?_
      obtain ⟨q11, h0, g39⟩ := zb_of g38
      subst h0
      obtain ⟨x12, hx13, g40⟩ := zb_of g39
      refine zo_iald (p' := 22) (zi_168 rfl) rfl hx13 ?_
      refine zo_iconst (p' := 23) (v := 1) (zi_168 rfl) rfl rfl ?_
      by_cases hc14 : 1 < x12
      · rw [if_pos hc14] at g40
        refine zo_icT (p' := 66) (zi_168 rfl) rfl hc14 ?_
        refine zgo_sub (L' := [(0, zrf (some o)), (1, .int b1), (2, .int b2), (3, .int b3)]) (⟨rfl, rfl, rfl, rfl, trivial⟩) ?_
        exact k_168_66 _ _ (fun M a0 a1 a2 a3 out h => ih M a0 a1 a2 a3 out h) M o b1 b2 b3 _ g40
      · rw [if_neg hc14] at g40
        refine zo_icF (p' := 26) (zi_168 rfl) rfl rfl hc14 ?_
        refine zo_aload_n (p' := 27) (zi_168 rfl) rfl rfl ?_
        refine zo_iload_n (p' := 28) (zi_168 rfl) rfl rfl ?_
        refine zo_iload_n (p' := 29) (zi_168 rfl) rfl rfl ?_
        obtain ⟨x15, M17, hx16, g41⟩ := zbd_of g40
        refine zo_callVi (p' := 32) (t := 12) (as := [.int b3, .int b1]) (r := []) (zi_168 rfl) rfl zl_19_313 rfl rfl (Or.inl ⟨by decide, rfl⟩) (Nat.le_of_ble_eq_true rfl) (Nat.le_of_ble_eq_true rfl) (f_171_ok hx16) (k_171 _ hx16) ?_
        by_cases hc18 : ¬ x15 = 0
        · rw [if_pos hc18] at g41
          refine zo_ifT (p' := 38) (zi_168 rfl) rfl hc18 ?_
          refine zo_iload_n (p' := 39) (zi_168 rfl) rfl rfl ?_
          refine zo_aload_n (p' := 40) (zi_168 rfl) rfl rfl ?_
          obtain ⟨r19, hx20, g42⟩ := zb_of g41
          refine zo_getR (p' := 43) (zi_168 rfl) rfl zl_19_59 hx20 ?_
          refine zo_iload_n (p' := 44) (zi_168 rfl) rfl rfl ?_
          obtain ⟨q21, h0, g43⟩ := zb_of g42
          subst h0
          obtain ⟨x22, hx23, g44⟩ := zb_of g43
          refine zo_iald (p' := 45) (zi_168 rfl) rfl hx23 ?_
          by_cases hc24 : ¬ x22 = 0
          · rw [if_pos hc24] at g44
            refine zo_ifT (p' := 57) (zi_168 rfl) rfl hc24 ?_
            refine zo_aload_n (p' := 58) (zi_168 rfl) rfl rfl ?_
            obtain ⟨r25, hx26, g45⟩ := zb_of g44
            refine zo_getR (p' := 61) (zi_168 rfl) rfl zl_19_62 hx26 ?_
            refine zo_iload_n (p' := 62) (zi_168 rfl) rfl rfl ?_
            obtain ⟨q27, h0, g46⟩ := zb_of g45
            subst h0
            obtain ⟨x28, hx29, g47⟩ := zb_of g46
            refine zo_iald (p' := 63) (zi_168 rfl) rfl hx29 ?_
            refine zo_ineg (p' := 64) (zi_168 rfl) rfl ?_
            refine zgo_sub (L' := [(0, zrf (some o)), (1, .int b1), (3, .int b3)]) (⟨rfl, rfl, rfl, trivial⟩) ?_
            exact k_168_64 _ _ (fun M a0 a1 a2 a3 out h => ih M a0 a1 a2 a3 out h) M17 o b1 b3 ((-x28)) b2 _ g47
          · rw [if_neg hc24] at g44
            refine zo_ifF (p' := 48) (zi_168 rfl) rfl rfl hc24 ?_
            refine zo_aload_n (p' := 49) (zi_168 rfl) rfl rfl ?_
            obtain ⟨r30, hx31, g48⟩ := zb_of g44
            refine zo_getR (p' := 52) (zi_168 rfl) rfl zl_19_62 hx31 ?_
            refine zo_iload_n (p' := 53) (zi_168 rfl) rfl rfl ?_
            obtain ⟨q32, h0, g49⟩ := zb_of g48
            subst h0
            obtain ⟨x33, hx34, g50⟩ := zb_of g49
            refine zo_iald (p' := 54) (zi_168 rfl) rfl hx34 ?_
            refine zo_goto (p' := 64) (zi_168 rfl) rfl ?_
            refine zgo_sub (L' := [(0, zrf (some o)), (1, .int b1), (3, .int b3)]) (⟨rfl, rfl, rfl, trivial⟩) ?_
            exact k_168_64 _ _ (fun M a0 a1 a2 a3 out h => ih M a0 a1 a2 a3 out h) M17 o b1 b3 x33 b2 _ g50
        · rw [if_neg hc18] at g41
          refine zo_ifF (p' := 35) (zi_168 rfl) rfl rfl hc18 ?_
          refine zo_goto (p' := 66) (zi_168 rfl) rfl ?_
          refine zgo_sub (L' := [(0, zrf (some o)), (1, .int b1), (2, .int b2), (3, .int b3)]) (⟨rfl, rfl, rfl, rfl, trivial⟩) ?_
          exact k_168_66 _ _ (fun M a0 a1 a2 a3 out h => ih M a0 a1 a2 a3 out h) M17 o b1 b2 b3 _ g41
def f_168 (M : ZMem) (o : Nat) (a0 : Int32) : Option (Int32 × ZMem) := if zok M 12 o = true then (zb (f_169 M o) fun x1 => f_168_8 zF M o a0 10 x1) else none
theorem f_168_ok {M : ZMem} {o : Nat} {a0 : Int32} {out : Int32 × ZMem} (h : f_168 M o a0 = some out) : zok M 12 o = true := by
  unfold f_168 at h
  by_cases hok : zok M 12 o = true
  · exact hok
  · rw [if_neg hok] at h; cases h
set_option maxRecDepth 20000 in
theorem k_168 (d : Nat) {M : ZMem} {o : Nat} {a0 : Int32} {out : Int32 × ZMem} (h : f_168 M o a0 = some out) : zrn (d + 2) 168 [zrf (some o), .int a0] M (some (.int out.1), out.2) := by
  unfold f_168 at h
  by_cases hok : zok M 12 o = true
  · rw [if_pos hok] at h
    refine zrn_of (L := [(0, zrf (some o)), (1, .int a0)]) rfl ?_
    refine zo_bipush (p' := 2) (v := 10) (zi_168 rfl) rfl rfl ?_
    refine zo_istore_n (p' := 3) (L' := [(0, zrf (some o)), (1, .int a0), (2, .int 10)]) (zi_168 rfl) rfl zm_168_2 ⟨Or.inr ⟨by decide, rfl, fun q => absurd q (by decide)⟩, ⟨Or.inr ⟨by decide, rfl, fun _ => rfl⟩, ⟨Or.inl ⟨rfl, rfl⟩, trivial⟩⟩⟩ ?_
    refine zo_aload_n (p' := 4) (zi_168 rfl) rfl rfl ?_
    obtain ⟨x1, hx2, g3⟩ := zb_of h
    refine zo_callVi (p' := 7) (t := 12) (as := []) (r := []) (zi_168 rfl) rfl zl_19_294 rfl rfl (Or.inl ⟨by decide, rfl⟩) (Nat.le_of_ble_eq_true rfl) (Nat.le_of_ble_eq_true rfl) (f_169_ok hx2) (k_169 _ hx2) ?_
    refine zo_istore_n (p' := 8) (L' := [(0, zrf (some o)), (1, .int a0), (2, .int 10), (3, .int x1)]) (zi_168 rfl) rfl zm_168_3 ⟨Or.inr ⟨by decide, rfl, fun q => absurd q (by decide)⟩, ⟨Or.inr ⟨by decide, rfl, fun q => absurd q (by decide)⟩, ⟨Or.inr ⟨by decide, rfl, fun _ => rfl⟩, ⟨Or.inl ⟨rfl, rfl⟩, trivial⟩⟩⟩⟩ ?_
    refine zgo_sub (L' := [(0, zrf (some o)), (1, .int a0), (2, .int 10), (3, .int x1)]) (⟨rfl, rfl, rfl, rfl, trivial⟩) ?_
    exact k_168_8 _ zF M o a0 10 x1 _ g3
  · rw [if_neg hok] at h; cases h
/-- SlateHalvesModel.grip(I)I -/
def f_174_34 (M : ZMem) (o : Nat) (b1 : Int32) (b2 : Int32) : Option (Int32) := zb (zgr M 12 6 o) fun r27 => zb r27 fun q29 => zb (zai M q29 b1) fun x30 => zb (f_173 M o ((b2 - (x30 / 10)))) fun x32 => some x32
def f_174_20 (M : ZMem) (o : Nat) (b1 : Int32) : Option (Int32) := zb (zgr M 12 4 o) fun r19 => zb r19 fun q21 => zb (zai M q21 b1) fun x22 => f_174_34 M o b1 ((3 + (x22 / 3)))
set_option maxRecDepth 20000 in
theorem k_174_34 (d : Nat) : ∀ (M : ZMem) (o : Nat) (b1 : Int32) (b2 : Int32) (out : Int32), f_174_34 M o b1 b2 = some out → zgo none (d + 1) 174 34 [(0, zrf (some o)), (1, .int b1)] [.int b2] M (some (.int out), M) := by
  intro M o b1 b2 out h
  unfold f_174_34 at h
  refine zo_istore_n (p' := 35) (L' := [(0, zrf (some o)), (1, .int b1), (2, .int b2)]) (zi_174 rfl) rfl zm_174_2 ⟨Or.inr ⟨by decide, rfl, fun q => absurd q (by decide)⟩, ⟨Or.inr ⟨by decide, rfl, fun _ => rfl⟩, ⟨Or.inl ⟨rfl, rfl⟩, trivial⟩⟩⟩ ?_
  refine zo_aload_n (p' := 36) (zi_174 rfl) rfl rfl ?_
  refine zo_iload_n (p' := 37) (zi_174 rfl) rfl rfl ?_
  refine zo_aload_n (p' := 38) (zi_174 rfl) rfl rfl ?_
  obtain ⟨r27, hx28, g34⟩ := zb_of h
  refine zo_getR (p' := 41) (zi_174 rfl) rfl zl_19_29 hx28 ?_
  refine zo_iload_n (p' := 42) (zi_174 rfl) rfl rfl ?_
  obtain ⟨q29, h0, g35⟩ := zb_of g34
  subst h0
  obtain ⟨x30, hx31, g36⟩ := zb_of g35
  refine zo_iald (p' := 43) (zi_174 rfl) rfl hx31 ?_
  refine zo_bipush (p' := 45) (v := 10) (zi_174 rfl) rfl rfl ?_
  refine zo_idiv (p' := 46) (zi_174 rfl) rfl (by decide) ?_
  refine zo_isub (p' := 47) (zi_174 rfl) rfl ?_
  obtain ⟨x32, hx33, g37⟩ := zb_of g36
  refine zo_callVi (p' := 50) (t := 12) (as := [.int ((b2 - (x30 / 10)))]) (r := []) (zi_174 rfl) rfl zl_19_316 rfl rfl (Or.inl ⟨by decide, rfl⟩) (Nat.le_of_ble_eq_true rfl) (Nat.le_of_ble_eq_true rfl) (f_173_ok hx33) (k_173 _ hx33) ?_
  have g38 := Option.some.inj g37
  subst g38
  exact zo_iret (zi_174 rfl) rfl ⟨rfl, rfl⟩
set_option maxRecDepth 20000 in
theorem k_174_20 (d : Nat) : ∀ (M : ZMem) (o : Nat) (b1 : Int32) (out : Int32), f_174_20 M o b1 = some out → zgo none (d + 1) 174 20 [(0, zrf (some o)), (1, .int b1)] [] M (some (.int out), M) := by
  intro M o b1 out h
  unfold f_174_20 at h
  refine zo_iconst (p' := 21) (v := 3) (zi_174 rfl) rfl rfl ?_
  refine zo_aload_n (p' := 22) (zi_174 rfl) rfl rfl ?_
  obtain ⟨r19, hx20, g24⟩ := zb_of h
  refine zo_getR (p' := 25) (zi_174 rfl) rfl zl_19_23 hx20 ?_
  refine zo_iload_n (p' := 26) (zi_174 rfl) rfl rfl ?_
  obtain ⟨q21, h0, g25⟩ := zb_of g24
  subst h0
  obtain ⟨x22, hx23, g26⟩ := zb_of g25
  refine zo_iald (p' := 27) (zi_174 rfl) rfl hx23 ?_
  refine zo_iconst (p' := 28) (v := 3) (zi_174 rfl) rfl rfl ?_
  refine zo_idiv (p' := 29) (zi_174 rfl) rfl (by decide) ?_
  refine zo_iadd (p' := 30) (zi_174 rfl) rfl ?_
  refine zo_goto (p' := 34) (zi_174 rfl) rfl ?_
  refine zgo_sub (L' := [(0, zrf (some o)), (1, .int b1)]) (⟨rfl, rfl, trivial⟩) ?_
  exact k_174_34 _ M o b1 ((3 + (x22 / 3))) _ g26
def f_174 (M : ZMem) (o : Nat) (a0 : Int32) : Option (Int32) := if zok M 12 o = true then (zb (zgr M 12 3 o) fun r1 => zb r1 fun q3 => zb (zai M q3 a0) fun x4 => if x4 = 1 then (f_174_20 M o a0) else (zb (zgr M 12 3 o) fun r7 => zb r7 fun q9 => zb (zai M q9 a0) fun x10 => if ¬ x10 = 4 then (f_174_34 M o a0 3) else (f_174_20 M o a0))) else none
theorem f_174_ok {M : ZMem} {o : Nat} {a0 : Int32} {out : Int32} (h : f_174 M o a0 = some out) : zok M 12 o = true := by
  unfold f_174 at h
  by_cases hok : zok M 12 o = true
  · exact hok
  · rw [if_neg hok] at h; cases h
set_option maxRecDepth 20000 in
theorem k_174 (d : Nat) {M : ZMem} {o : Nat} {a0 : Int32} {out : Int32} (h : f_174 M o a0 = some out) : zrn (d + 1) 174 [zrf (some o), .int a0] M (some (.int out), M) := by
  unfold f_174 at h
  by_cases hok : zok M 12 o = true
  · rw [if_pos hok] at h
    refine zrn_of (L := [(0, zrf (some o)), (1, .int a0)]) rfl ?_
    refine zo_aload_n (p' := 1) (zi_174 rfl) rfl rfl ?_
    obtain ⟨r1, hx2, g13⟩ := zb_of h
    refine zo_getR (p' := 4) (zi_174 rfl) rfl zl_19_19 hx2 ?_
    refine zo_iload_n (p' := 5) (zi_174 rfl) rfl rfl ?_
    obtain ⟨q3, h0, g14⟩ := zb_of g13
    subst h0
    obtain ⟨x4, hx5, g15⟩ := zb_of g14
    refine zo_iald (p' := 6) (zi_174 rfl) rfl hx5 ?_
    refine zo_iconst (p' := 7) (v := 1) (zi_174 rfl) rfl rfl ?_
    by_cases hc6 : x4 = 1
    · rw [if_pos hc6] at g15
      refine zo_icT (p' := 20) (zi_174 rfl) rfl hc6 ?_
      refine zgo_sub (L' := [(0, zrf (some o)), (1, .int a0)]) (⟨rfl, rfl, trivial⟩) ?_
      exact k_174_20 _ M o a0 _ g15
    · rw [if_neg hc6] at g15
      refine zo_icF (p' := 10) (zi_174 rfl) rfl rfl hc6 ?_
      refine zo_aload_n (p' := 11) (zi_174 rfl) rfl rfl ?_
      obtain ⟨r7, hx8, g16⟩ := zb_of g15
      refine zo_getR (p' := 14) (zi_174 rfl) rfl zl_19_19 hx8 ?_
      refine zo_iload_n (p' := 15) (zi_174 rfl) rfl rfl ?_
      obtain ⟨q9, h0, g17⟩ := zb_of g16
      subst h0
      obtain ⟨x10, hx11, g18⟩ := zb_of g17
      refine zo_iald (p' := 16) (zi_174 rfl) rfl hx11 ?_
      refine zo_iconst (p' := 17) (v := 4) (zi_174 rfl) rfl rfl ?_
      by_cases hc12 : ¬ x10 = 4
      · rw [if_pos hc12] at g18
        refine zo_icT (p' := 33) (zi_174 rfl) rfl hc12 ?_
        refine zo_iconst (p' := 34) (v := 3) (zi_174 rfl) rfl rfl ?_
        refine zgo_sub (L' := [(0, zrf (some o)), (1, .int a0)]) (⟨rfl, rfl, trivial⟩) ?_
        exact k_174_34 _ M o a0 3 _ g18
      · rw [if_neg hc12] at g18
        refine zo_icF (p' := 20) (zi_174 rfl) rfl rfl hc12 ?_
        refine zgo_sub (L' := [(0, zrf (some o)), (1, .int a0)]) (⟨rfl, rfl, trivial⟩) ?_
        exact k_174_20 _ M o a0 _ g18
  · rw [if_neg hok] at h; cases h
/-- SlateHalvesModel.lastOf(II)I -/
def f_176_39 (r8 : ZMem → Nat → Int32 → Int32 → Int32 → Option (Int32)) (M : ZMem) (o : Nat) (b1 : Int32) (b2 : Int32) (b3 : Int32) : Option (Int32) := r8 M o b1 b3 ((b2 + 1))
def f_176_8 : Nat → ZMem → Nat → Int32 → Int32 → Int32 → Option (Int32)
  | 0, _, _, _, _, _ => none
  | z + 1, M, o, b1, b2, b3 => zb (f_170 M o) fun x4 => if x4 ≤ b3 then (some b2) else (zb (zgr M 12 16 o) fun r7 => zb r7 fun q9 => zb (zai M q9 b3) fun x10 => if ¬ x10 = b1 then (f_176_39 (fun M a0 a1 a2 a3 => f_176_8 z M a0 a1 a2 a3) M o b1 b3 b2) else (zb (zgr M 12 17 o) fun r13 => zb r13 fun q15 => zb (zai M q15 b3) fun x16 => f_176_39 (fun M a0 a1 a2 a3 => f_176_8 z M a0 a1 a2 a3) M o b1 b3 x16))
set_option maxRecDepth 20000 in
theorem k_176_39 (d : Nat) (r8 : ZMem → Nat → Int32 → Int32 → Int32 → Option (Int32)) (h8 : ∀ (M : ZMem) (a0 : Nat) (a1 : Int32) (a2 : Int32) (a3 : Int32) (out : Int32), r8 M a0 a1 a2 a3 = some out → zgo none (d + 1) 176 8 [(0, zrf (some a0)), (1, .int a1), (3, .int a2), (4, .int a3)] [] M (some (.int out), M)) : ∀ (M : ZMem) (o : Nat) (b1 : Int32) (b2 : Int32) (b3 : Int32) (out : Int32), f_176_39 r8 M o b1 b2 b3 = some out → zgo none (d + 1) 176 39 [(0, zrf (some o)), (1, .int b1), (4, .int b2)] [.int b3] M (some (.int out), M) := by
  intro M o b1 b2 b3 out h
  unfold f_176_39 at h
  refine zo_istore_n (p' := 40) (L' := [(0, zrf (some o)), (1, .int b1), (3, .int b3), (4, .int b2)]) (zi_176 rfl) rfl zm_176_3 ⟨Or.inr ⟨by decide, rfl, fun q => absurd q (by decide)⟩, ⟨Or.inr ⟨by decide, rfl, fun q => absurd q (by decide)⟩, ⟨Or.inl ⟨rfl, rfl⟩, ⟨Or.inr ⟨by decide, rfl, fun q => absurd q (by decide)⟩, trivial⟩⟩⟩⟩ ?_
  refine zo_iinc (p' := 43) (v := (b2 + 1)) (L' := [(0, zrf (some o)), (1, .int b1), (3, .int b3), (4, .int ((b2 + 1)))]) (zi_176 rfl) rfl zm_176_4 rfl rfl ⟨Or.inr ⟨by decide, rfl, fun q => absurd q (by decide)⟩, ⟨Or.inr ⟨by decide, rfl, fun q => absurd q (by decide)⟩, ⟨Or.inr ⟨by decide, rfl, fun _ => rfl⟩, ⟨Or.inl ⟨rfl, rfl⟩, trivial⟩⟩⟩⟩ ?_
  refine zo_goto (p' := 8) (zi_176 rfl) rfl ?_
  refine zgo_sub (L' := [(0, zrf (some o)), (1, .int b1), (3, .int b3), (4, .int (((b2 + 1))))]) (⟨rfl, rfl, rfl, rfl, trivial⟩) ?_
  exact h8 M o b1 b3 ((b2 + 1)) _ h
set_option maxRecDepth 20000 in
theorem k_176_8 (d : Nat) : ∀ (z : Nat) (M : ZMem) (o : Nat) (b1 : Int32) (b2 : Int32) (b3 : Int32) (out : Int32), f_176_8 z M o b1 b2 b3 = some out → zgo none (d + 1) 176 8 [(0, zrf (some o)), (1, .int b1), (3, .int b2), (4, .int b3)] [] M (some (.int out), M) := by
  intro z
  induction z with
  | zero => intro M o b1 b2 b3 out h; cases h
  | succ z ih =>
    intro M o b1 b2 b3 out h
    rw [f_176_8] at h
    refine zo_iload (p' := 10) (zi_176 rfl) rfl rfl ?_
    refine zo_aload_n (p' := 11) (zi_176 rfl) rfl rfl ?_
    obtain ⟨x4, hx5, g18⟩ := zb_of h
    refine zo_callVi (p' := 14) (t := 12) (as := []) (r := [.int b3]) (zi_176 rfl) rfl zl_19_297 rfl rfl (Or.inl ⟨by decide, rfl⟩) (Nat.le_of_ble_eq_true rfl) (Nat.le_of_ble_eq_true rfl) (f_170_ok hx5) (k_170 _ hx5) ?_
    by_cases hc6 : x4 ≤ b3
    · rw [if_pos hc6] at g18
      refine zo_icT (p' := 46) (zi_176 rfl) rfl hc6 ?_
      refine zo_iload_n (p' := 47) (zi_176 rfl) rfl rfl ?_
      have g19 := Option.some.inj g18
      subst g19
      exact zo_iret (zi_176 rfl) rfl ⟨rfl, rfl⟩
    · rw [if_neg hc6] at g18
      refine zo_icF (p' := 17) (zi_176 rfl) rfl rfl hc6 ?_
      refine zo_aload_n (p' := 18) (zi_176 rfl) rfl rfl ?_
      obtain ⟨r7, hx8, g20⟩ := zb_of g18
      refine zo_getR (p' := 21) (zi_176 rfl) rfl zl_19_59 hx8 ?_
      refine zo_iload (p' := 23) (zi_176 rfl) rfl rfl ?_
      obtain ⟨q9, h0, g21⟩ := zb_of g20
      subst h0
      obtain ⟨x10, hx11, g22⟩ := zb_of g21
      refine zo_iald (p' := 24) (zi_176 rfl) rfl hx11 ?_
      refine zo_iload_n (p' := 25) (zi_176 rfl) rfl rfl ?_
      by_cases hc12 : ¬ x10 = b1
      · rw [if_pos hc12] at g22
        refine zo_icT (p' := 38) (zi_176 rfl) rfl hc12 ?_
        refine zo_iload_n (p' := 39) (zi_176 rfl) rfl rfl ?_
        refine zgo_sub (L' := [(0, zrf (some o)), (1, .int b1), (4, .int b3)]) (⟨rfl, rfl, rfl, trivial⟩) ?_
        exact k_176_39 _ _ (fun M a0 a1 a2 a3 out h => ih M a0 a1 a2 a3 out h) M o b1 b3 b2 _ g22
      · rw [if_neg hc12] at g22
        refine zo_icF (p' := 28) (zi_176 rfl) rfl rfl hc12 ?_
        refine zo_aload_n (p' := 29) (zi_176 rfl) rfl rfl ?_
        obtain ⟨r13, hx14, g23⟩ := zb_of g22
        refine zo_getR (p' := 32) (zi_176 rfl) rfl zl_19_62 hx14 ?_
        refine zo_iload (p' := 34) (zi_176 rfl) rfl rfl ?_
        obtain ⟨q15, h0, g24⟩ := zb_of g23
        subst h0
        obtain ⟨x16, hx17, g25⟩ := zb_of g24
        refine zo_iald (p' := 35) (zi_176 rfl) rfl hx17 ?_
        refine zo_goto (p' := 39) (zi_176 rfl) rfl ?_
        refine zgo_sub (L' := [(0, zrf (some o)), (1, .int b1), (4, .int b3)]) (⟨rfl, rfl, rfl, trivial⟩) ?_
        exact k_176_39 _ _ (fun M a0 a1 a2 a3 out h => ih M a0 a1 a2 a3 out h) M o b1 b3 x16 _ g25
def f_176 (M : ZMem) (o : Nat) (a0 : Int32) (a1 : Int32) : Option (Int32) := if zok M 12 o = true then (zb (f_169 M o) fun x1 => f_176_8 zF M o a0 a1 x1) else none
theorem f_176_ok {M : ZMem} {o : Nat} {a0 : Int32} {a1 : Int32} {out : Int32} (h : f_176 M o a0 a1 = some out) : zok M 12 o = true := by
  unfold f_176 at h
  by_cases hok : zok M 12 o = true
  · exact hok
  · rw [if_neg hok] at h; cases h
set_option maxRecDepth 20000 in
theorem k_176 (d : Nat) {M : ZMem} {o : Nat} {a0 : Int32} {a1 : Int32} {out : Int32} (h : f_176 M o a0 a1 = some out) : zrn (d + 1) 176 [zrf (some o), .int a0, .int a1] M (some (.int out), M) := by
  unfold f_176 at h
  by_cases hok : zok M 12 o = true
  · rw [if_pos hok] at h
    refine zrn_of (L := [(0, zrf (some o)), (1, .int a0), (2, .int a1)]) rfl ?_
    refine zo_iload_n (p' := 1) (zi_176 rfl) rfl rfl ?_
    refine zo_istore_n (p' := 2) (L' := [(0, zrf (some o)), (1, .int a0), (2, .int a1), (3, .int a1)]) (zi_176 rfl) rfl zm_176_3 ⟨Or.inr ⟨by decide, rfl, fun q => absurd q (by decide)⟩, ⟨Or.inr ⟨by decide, rfl, fun q => absurd q (by decide)⟩, ⟨Or.inr ⟨by decide, rfl, fun _ => rfl⟩, ⟨Or.inl ⟨rfl, rfl⟩, trivial⟩⟩⟩⟩ ?_
    refine zo_aload_n (p' := 3) (zi_176 rfl) rfl rfl ?_
    obtain ⟨x1, hx2, g3⟩ := zb_of h
    refine zo_callVi (p' := 6) (t := 12) (as := []) (r := []) (zi_176 rfl) rfl zl_19_294 rfl rfl (Or.inl ⟨by decide, rfl⟩) (Nat.le_of_ble_eq_true rfl) (Nat.le_of_ble_eq_true rfl) (f_169_ok hx2) (k_169 _ hx2) ?_
    refine zo_istore (p' := 8) (L' := [(0, zrf (some o)), (1, .int a0), (2, .int a1), (3, .int a1), (4, .int x1)]) (zi_176 rfl) rfl zm_176_4 ⟨Or.inr ⟨by decide, rfl, fun q => absurd q (by decide)⟩, ⟨Or.inr ⟨by decide, rfl, fun q => absurd q (by decide)⟩, ⟨Or.inr ⟨by decide, rfl, fun q => absurd q (by decide)⟩, ⟨Or.inr ⟨by decide, rfl, fun _ => rfl⟩, ⟨Or.inl ⟨rfl, rfl⟩, trivial⟩⟩⟩⟩⟩ ?_
    refine zgo_sub (L' := [(0, zrf (some o)), (1, .int a0), (3, .int a1), (4, .int x1)]) (⟨rfl, rfl, rfl, rfl, trivial⟩) ?_
    exact k_176_8 _ zF M o a0 a1 x1 _ g3
  · rw [if_neg hok] at h; cases h
/-- SlateHalvesModel.dries(I)I -/
def f_175 (M : ZMem) (o : Nat) (a0 : Int32) : Option (Int32) := if zok M 12 o = true then (zb (f_176 M o 4 1) fun x1 => zb (zgr M 12 3 o) fun r3 => zb r3 fun q5 => zb (zai M q5 a0) fun x6 => if ¬ x6 = 5 then (some x1) else (some (x1 / 2))) else none
theorem f_175_ok {M : ZMem} {o : Nat} {a0 : Int32} {out : Int32} (h : f_175 M o a0 = some out) : zok M 12 o = true := by
  unfold f_175 at h
  by_cases hok : zok M 12 o = true
  · exact hok
  · rw [if_neg hok] at h; cases h
set_option maxRecDepth 20000 in
theorem k_175 (d : Nat) {M : ZMem} {o : Nat} {a0 : Int32} {out : Int32} (h : f_175 M o a0 = some out) : zrn (d + 2) 175 [zrf (some o), .int a0] M (some (.int out), M) := by
  unfold f_175 at h
  by_cases hok : zok M 12 o = true
  · rw [if_pos hok] at h
    refine zrn_of (L := [(0, zrf (some o)), (1, .int a0)]) rfl ?_
    refine zo_aload_n (p' := 1) (zi_175 rfl) rfl rfl ?_
    refine zo_iconst (p' := 2) (v := 4) (zi_175 rfl) rfl rfl ?_
    refine zo_iconst (p' := 3) (v := 1) (zi_175 rfl) rfl rfl ?_
    obtain ⟨x1, hx2, g9⟩ := zb_of h
    refine zo_callVi (p' := 6) (t := 12) (as := [.int 4, .int 1]) (r := []) (zi_175 rfl) rfl zl_19_300 rfl rfl (Or.inl ⟨by decide, rfl⟩) (Nat.le_of_ble_eq_true rfl) (Nat.le_of_ble_eq_true rfl) (f_176_ok hx2) (k_176 _ hx2) ?_
    refine zo_istore_n (p' := 7) (L' := [(0, zrf (some o)), (1, .int a0), (2, .int x1)]) (zi_175 rfl) rfl zm_175_2 ⟨Or.inr ⟨by decide, rfl, fun q => absurd q (by decide)⟩, ⟨Or.inr ⟨by decide, rfl, fun _ => rfl⟩, ⟨Or.inl ⟨rfl, rfl⟩, trivial⟩⟩⟩ ?_
    refine zo_aload_n (p' := 8) (zi_175 rfl) rfl rfl ?_
    obtain ⟨r3, hx4, g10⟩ := zb_of g9
    refine zo_getR (p' := 11) (zi_175 rfl) rfl zl_19_19 hx4 ?_
    refine zo_iload_n (p' := 12) (zi_175 rfl) rfl rfl ?_
    obtain ⟨q5, h0, g11⟩ := zb_of g10
    subst h0
    obtain ⟨x6, hx7, g12⟩ := zb_of g11
    refine zo_iald (p' := 13) (zi_175 rfl) rfl hx7 ?_
    refine zo_iconst (p' := 14) (v := 5) (zi_175 rfl) rfl rfl ?_
    by_cases hc8 : ¬ x6 = 5
    · rw [if_pos hc8] at g12
      refine zo_icT (p' := 23) (zi_175 rfl) rfl hc8 ?_
      refine zo_iload_n (p' := 24) (zi_175 rfl) rfl rfl ?_
      have g13 := Option.some.inj g12
      subst g13
      exact zo_iret (zi_175 rfl) rfl ⟨rfl, rfl⟩
    · rw [if_neg hc8] at g12
      refine zo_icF (p' := 17) (zi_175 rfl) rfl rfl hc8 ?_
      refine zo_iload_n (p' := 18) (zi_175 rfl) rfl rfl ?_
      refine zo_iconst (p' := 19) (v := 2) (zi_175 rfl) rfl rfl ?_
      refine zo_idiv (p' := 20) (zi_175 rfl) rfl (by decide) ?_
      refine zo_goto (p' := 24) (zi_175 rfl) rfl ?_
      have g14 := Option.some.inj g12
      subst g14
      exact zo_iret (zi_175 rfl) rfl ⟨rfl, rfl⟩
  · rw [if_neg hok] at h; cases h
/-- SlateHalvesModel.greater(II)I -/
def f_179 (M : ZMem) (o : Nat) (a0 : Int32) (a1 : Int32) : Option (Int32) := if zok M 12 o = true then (if a0 ≤ a1 then (some a1) else (some a0)) else none
theorem f_179_ok {M : ZMem} {o : Nat} {a0 : Int32} {a1 : Int32} {out : Int32} (h : f_179 M o a0 a1 = some out) : zok M 12 o = true := by
  unfold f_179 at h
  by_cases hok : zok M 12 o = true
  · exact hok
  · rw [if_neg hok] at h; cases h
set_option maxRecDepth 20000 in
theorem k_179 (d : Nat) {M : ZMem} {o : Nat} {a0 : Int32} {a1 : Int32} {out : Int32} (h : f_179 M o a0 a1 = some out) : zrn (d) 179 [zrf (some o), .int a0, .int a1] M (some (.int out), M) := by
  unfold f_179 at h
  by_cases hok : zok M 12 o = true
  · rw [if_pos hok] at h
    refine zrn_of (L := [(0, zrf (some o)), (1, .int a0), (2, .int a1)]) rfl ?_
    refine zo_iload_n (p' := 1) (zi_179 rfl) rfl rfl ?_
    refine zo_iload_n (p' := 2) (zi_179 rfl) rfl rfl ?_
    by_cases hc1 : a0 ≤ a1
    · rw [if_pos hc1] at h
      refine zo_icT (p' := 9) (zi_179 rfl) rfl hc1 ?_
      refine zo_iload_n (p' := 10) (zi_179 rfl) rfl rfl ?_
      have g2 := Option.some.inj h
      subst g2
      exact zo_iret (zi_179 rfl) rfl ⟨rfl, rfl⟩
    · rw [if_neg hc1] at h
      refine zo_icF (p' := 5) (zi_179 rfl) rfl rfl hc1 ?_
      refine zo_iload_n (p' := 6) (zi_179 rfl) rfl rfl ?_
      refine zo_goto (p' := 10) (zi_179 rfl) rfl ?_
      have g3 := Option.some.inj h
      subst g3
      exact zo_iret (zi_179 rfl) rfl ⟨rfl, rfl⟩
  · rw [if_neg hok] at h; cases h
/-- SlateHalvesModel.thin()I -/
def f_178 (M : ZMem) (o : Nat) : Option (Int32) := if zok M 12 o = true then (zb (f_176 M o 2 2) fun x1 => zb (f_179 M o 1 x1) fun x3 => some x3) else none
theorem f_178_ok {M : ZMem} {o : Nat} {out : Int32} (h : f_178 M o = some out) : zok M 12 o = true := by
  unfold f_178 at h
  by_cases hok : zok M 12 o = true
  · exact hok
  · rw [if_neg hok] at h; cases h
set_option maxRecDepth 20000 in
theorem k_178 (d : Nat) {M : ZMem} {o : Nat} {out : Int32} (h : f_178 M o = some out) : zrn (d + 2) 178 [zrf (some o)] M (some (.int out), M) := by
  unfold f_178 at h
  by_cases hok : zok M 12 o = true
  · rw [if_pos hok] at h
    refine zrn_of (L := [(0, zrf (some o))]) rfl ?_
    refine zo_aload_n (p' := 1) (zi_178 rfl) rfl rfl ?_
    refine zo_iconst (p' := 2) (v := 1) (zi_178 rfl) rfl rfl ?_
    refine zo_aload_n (p' := 3) (zi_178 rfl) rfl rfl ?_
    refine zo_iconst (p' := 4) (v := 2) (zi_178 rfl) rfl rfl ?_
    refine zo_iconst (p' := 5) (v := 2) (zi_178 rfl) rfl rfl ?_
    obtain ⟨x1, hx2, g5⟩ := zb_of h
    refine zo_callVi (p' := 8) (t := 12) (as := [.int 2, .int 2]) (r := [.int 1, zrf (some o)]) (zi_178 rfl) rfl zl_19_300 rfl rfl (Or.inl ⟨by decide, rfl⟩) (Nat.le_of_ble_eq_true rfl) (Nat.le_of_ble_eq_true rfl) (f_176_ok hx2) (k_176 _ hx2) ?_
    obtain ⟨x3, hx4, g6⟩ := zb_of g5
    refine zo_callVi (p' := 11) (t := 12) (as := [.int 1, .int x1]) (r := []) (zi_178 rfl) rfl zl_19_304 rfl rfl (Or.inl ⟨by decide, rfl⟩) (Nat.le_of_ble_eq_true rfl) (Nat.le_of_ble_eq_true rfl) (f_179_ok hx4) (k_179 _ hx4) ?_
    have g7 := Option.some.inj g6
    subst g7
    exact zo_iret (zi_178 rfl) rfl ⟨rfl, rfl⟩
  · rw [if_neg hok] at h; cases h
/-- SlateHalvesModel.most()I -/
def f_180 (M : ZMem) (o : Nat) : Option (Int32) := if zok M 12 o = true then (zb (f_178 M o) fun x1 => zb (f_176 M o 3 5) fun x3 => zb (f_179 M o x1 x3) fun x5 => some x5) else none
theorem f_180_ok {M : ZMem} {o : Nat} {out : Int32} (h : f_180 M o = some out) : zok M 12 o = true := by
  unfold f_180 at h
  by_cases hok : zok M 12 o = true
  · exact hok
  · rw [if_neg hok] at h; cases h
set_option maxRecDepth 20000 in
theorem k_180 (d : Nat) {M : ZMem} {o : Nat} {out : Int32} (h : f_180 M o = some out) : zrn (d + 3) 180 [zrf (some o)] M (some (.int out), M) := by
  unfold f_180 at h
  by_cases hok : zok M 12 o = true
  · rw [if_pos hok] at h
    refine zrn_of (L := [(0, zrf (some o))]) rfl ?_
    refine zo_aload_n (p' := 1) (zi_180 rfl) rfl rfl ?_
    refine zo_aload_n (p' := 2) (zi_180 rfl) rfl rfl ?_
    obtain ⟨x1, hx2, g7⟩ := zb_of h
    refine zo_callVi (p' := 5) (t := 12) (as := []) (r := [zrf (some o)]) (zi_180 rfl) rfl zl_19_307 rfl rfl (Or.inl ⟨by decide, rfl⟩) (Nat.le_of_ble_eq_true rfl) (Nat.le_of_ble_eq_true rfl) (f_178_ok hx2) (k_178 _ hx2) ?_
    refine zo_aload_n (p' := 6) (zi_180 rfl) rfl rfl ?_
    refine zo_iconst (p' := 7) (v := 3) (zi_180 rfl) rfl rfl ?_
    refine zo_iconst (p' := 8) (v := 5) (zi_180 rfl) rfl rfl ?_
    obtain ⟨x3, hx4, g8⟩ := zb_of g7
    refine zo_callVi (p' := 11) (t := 12) (as := [.int 3, .int 5]) (r := [.int x1, zrf (some o)]) (zi_180 rfl) rfl zl_19_300 rfl rfl (Or.inl ⟨by decide, rfl⟩) (Nat.le_of_ble_eq_true rfl) (Nat.le_of_ble_eq_true rfl) (f_176_ok hx4) (k_176 _ hx4) ?_
    obtain ⟨x5, hx6, g9⟩ := zb_of g8
    refine zo_callVi (p' := 14) (t := 12) (as := [.int x1, .int x3]) (r := []) (zi_180 rfl) rfl zl_19_304 rfl rfl (Or.inl ⟨by decide, rfl⟩) (Nat.le_of_ble_eq_true rfl) (Nat.le_of_ble_eq_true rfl) (f_179_ok hx6) (k_179 _ hx6) ?_
    have g10 := Option.some.inj g9
    subst g10
    exact zo_iret (zi_180 rfl) rfl ⟨rfl, rfl⟩
  · rw [if_neg hok] at h; cases h
/-- SlateHalvesModel.worthOf(II)I -/
def f_177 (M : ZMem) (o : Nat) (a0 : Int32) (a1 : Int32) : Option (Int32 × ZMem) := if zok M 12 o = true then (zb (f_178 M o) fun x1 => zb (f_180 M o) fun x3 => zb (f_147 M o a1 x1 x3) fun x5 => if x5 = 0 then (zb (f_180 M o) fun x8 => if a1 ≤ x8 then (some (0, M)) else (zb (f_180 M o) fun x11 => if (2 * x11) < a1 then (some (0, M)) else (zbd (f_168 M o a0) fun x14 M16 => some ((x14 / 2), M16)))) else (zbd (f_168 M o a0) fun x17 M19 => some (x17, M19))) else none
theorem f_177_ok {M : ZMem} {o : Nat} {a0 : Int32} {a1 : Int32} {out : Int32 × ZMem} (h : f_177 M o a0 a1 = some out) : zok M 12 o = true := by
  unfold f_177 at h
  by_cases hok : zok M 12 o = true
  · exact hok
  · rw [if_neg hok] at h; cases h
set_option maxRecDepth 20000 in
theorem k_177 (d : Nat) {M : ZMem} {o : Nat} {a0 : Int32} {a1 : Int32} {out : Int32 × ZMem} (h : f_177 M o a0 a1 = some out) : zrn (d + 4) 177 [zrf (some o), .int a0, .int a1] M (some (.int out.1), out.2) := by
  unfold f_177 at h
  by_cases hok : zok M 12 o = true
  · rw [if_pos hok] at h
    refine zrn_of (L := [(0, zrf (some o)), (1, .int a0), (2, .int a1)]) rfl ?_
    refine zo_aload_n (p' := 1) (zi_177 rfl) rfl rfl ?_
    refine zo_iload_n (p' := 2) (zi_177 rfl) rfl rfl ?_
    refine zo_aload_n (p' := 3) (zi_177 rfl) rfl rfl ?_
    obtain ⟨x1, hx2, g20⟩ := zb_of h
    refine zo_callVi (p' := 6) (t := 12) (as := []) (r := [.int a1, zrf (some o)]) (zi_177 rfl) rfl zl_19_307 rfl rfl (Or.inl ⟨by decide, rfl⟩) (Nat.le_of_ble_eq_true rfl) (Nat.le_of_ble_eq_true rfl) (f_178_ok hx2) (k_178 _ hx2) ?_
    refine zo_aload_n (p' := 7) (zi_177 rfl) rfl rfl ?_
    obtain ⟨x3, hx4, g21⟩ := zb_of g20
    refine zo_callVi (p' := 10) (t := 12) (as := []) (r := [.int x1, .int a1, zrf (some o)]) (zi_177 rfl) rfl zl_19_325 rfl rfl (Or.inl ⟨by decide, rfl⟩) (Nat.le_of_ble_eq_true rfl) (Nat.le_of_ble_eq_true rfl) (f_180_ok hx4) (k_180 _ hx4) ?_
    obtain ⟨x5, hx6, g22⟩ := zb_of g21
    refine zo_callVi (p' := 13) (t := 12) (as := [.int a1, .int x1, .int x3]) (r := []) (zi_177 rfl) rfl zl_19_239 rfl rfl (Or.inl ⟨by decide, rfl⟩) (Nat.le_of_ble_eq_true rfl) (Nat.le_of_ble_eq_true rfl) (f_147_ok hx6) (k_147 _ hx6) ?_
    by_cases hc7 : x5 = 0
    · rw [if_pos hc7] at g22
      refine zo_ifT (p' := 22) (zi_177 rfl) rfl hc7 ?_
      refine zo_iload_n (p' := 23) (zi_177 rfl) rfl rfl ?_
      refine zo_aload_n (p' := 24) (zi_177 rfl) rfl rfl ?_
      obtain ⟨x8, hx9, g23⟩ := zb_of g22
      refine zo_callVi (p' := 27) (t := 12) (as := []) (r := [.int a1]) (zi_177 rfl) rfl zl_19_325 rfl rfl (Or.inl ⟨by decide, rfl⟩) (Nat.le_of_ble_eq_true rfl) (Nat.le_of_ble_eq_true rfl) (f_180_ok hx9) (k_180 _ hx9) ?_
      by_cases hc10 : a1 ≤ x8
      · rw [if_pos hc10] at g23
        refine zo_icT (p' := 50) (zi_177 rfl) rfl hc10 ?_
        refine zo_iconst (p' := 51) (v := 0) (zi_177 rfl) rfl rfl ?_
        have g24 := Option.some.inj g23
        subst g24
        exact zo_iret (zi_177 rfl) rfl ⟨rfl, rfl⟩
      · rw [if_neg hc10] at g23
        refine zo_icF (p' := 30) (zi_177 rfl) rfl rfl hc10 ?_
        refine zo_iload_n (p' := 31) (zi_177 rfl) rfl rfl ?_
        refine zo_iconst (p' := 32) (v := 2) (zi_177 rfl) rfl rfl ?_
        refine zo_aload_n (p' := 33) (zi_177 rfl) rfl rfl ?_
        obtain ⟨x11, hx12, g25⟩ := zb_of g23
        refine zo_callVi (p' := 36) (t := 12) (as := []) (r := [.int 2, .int a1]) (zi_177 rfl) rfl zl_19_325 rfl rfl (Or.inl ⟨by decide, rfl⟩) (Nat.le_of_ble_eq_true rfl) (Nat.le_of_ble_eq_true rfl) (f_180_ok hx12) (k_180 _ hx12) ?_
        refine zo_imul (p' := 37) (zi_177 rfl) rfl ?_
        by_cases hc13 : (2 * x11) < a1
        · rw [if_pos hc13] at g25
          refine zo_icT (p' := 50) (zi_177 rfl) rfl hc13 ?_
          refine zo_iconst (p' := 51) (v := 0) (zi_177 rfl) rfl rfl ?_
          have g26 := Option.some.inj g25
          subst g26
          exact zo_iret (zi_177 rfl) rfl ⟨rfl, rfl⟩
        · rw [if_neg hc13] at g25
          refine zo_icF (p' := 40) (zi_177 rfl) rfl rfl hc13 ?_
          refine zo_aload_n (p' := 41) (zi_177 rfl) rfl rfl ?_
          refine zo_iload_n (p' := 42) (zi_177 rfl) rfl rfl ?_
          obtain ⟨x14, M16, hx15, g27⟩ := zbd_of g25
          refine zo_callVi (p' := 45) (t := 12) (as := [.int a0]) (r := []) (zi_177 rfl) rfl zl_19_328 rfl rfl (Or.inl ⟨by decide, rfl⟩) (Nat.le_of_ble_eq_true rfl) (Nat.le_of_ble_eq_true rfl) (f_168_ok hx15) (k_168 _ hx15) ?_
          refine zo_iconst (p' := 46) (v := 2) (zi_177 rfl) rfl rfl ?_
          refine zo_idiv (p' := 47) (zi_177 rfl) rfl (by decide) ?_
          refine zo_goto (p' := 51) (zi_177 rfl) rfl ?_
          have g28 := Option.some.inj g27
          subst g28
          exact zo_iret (zi_177 rfl) rfl ⟨rfl, rfl⟩
    · rw [if_neg hc7] at g22
      refine zo_ifF (p' := 16) (zi_177 rfl) rfl rfl hc7 ?_
      refine zo_aload_n (p' := 17) (zi_177 rfl) rfl rfl ?_
      refine zo_iload_n (p' := 18) (zi_177 rfl) rfl rfl ?_
      obtain ⟨x17, M19, hx18, g29⟩ := zbd_of g22
      refine zo_callVi (p' := 21) (t := 12) (as := [.int a0]) (r := []) (zi_177 rfl) rfl zl_19_328 rfl rfl (Or.inl ⟨by decide, rfl⟩) (Nat.le_of_ble_eq_true rfl) (Nat.le_of_ble_eq_true rfl) (f_168_ok hx18) (k_168 _ hx18) ?_
      have g30 := Option.some.inj g29
      subst g30
      exact zo_iret (zi_177 rfl) rfl ⟨rfl, rfl⟩
  · rw [if_neg hok] at h; cases h
/-- SlateHalvesModel.isNear(III)Z -/
def f_184 (M : ZMem) (o : Nat) (a0 : Int32) (a1 : Int32) (a2 : Int32) : Option (Int32) := if zok M 12 o = true then (zb (f_174 M o a0) fun x1 => if x1 < ((2 * a2) - a1) then (some 0) else (zb (f_174 M o a0) fun x4 => if x4 < (-((2 * a2) - a1)) then (some 0) else (some 1))) else none
theorem f_184_ok {M : ZMem} {o : Nat} {a0 : Int32} {a1 : Int32} {a2 : Int32} {out : Int32} (h : f_184 M o a0 a1 a2 = some out) : zok M 12 o = true := by
  unfold f_184 at h
  by_cases hok : zok M 12 o = true
  · exact hok
  · rw [if_neg hok] at h; cases h
set_option maxRecDepth 20000 in
theorem k_184 (d : Nat) {M : ZMem} {o : Nat} {a0 : Int32} {a1 : Int32} {a2 : Int32} {out : Int32} (h : f_184 M o a0 a1 a2 = some out) : zrn (d + 2) 184 [zrf (some o), .int a0, .int a1, .int a2] M (some (.int out), M) := by
  unfold f_184 at h
  by_cases hok : zok M 12 o = true
  · rw [if_pos hok] at h
    refine zrn_of (L := [(0, zrf (some o)), (1, .int a0), (2, .int a1), (3, .int a2)]) rfl ?_
    refine zo_iconst (p' := 1) (v := 2) (zi_184 rfl) rfl rfl ?_
    refine zo_iload_n (p' := 2) (zi_184 rfl) rfl rfl ?_
    refine zo_imul (p' := 3) (zi_184 rfl) rfl ?_
    refine zo_iload_n (p' := 4) (zi_184 rfl) rfl rfl ?_
    refine zo_isub (p' := 5) (zi_184 rfl) rfl ?_
    refine zo_istore (p' := 7) (L' := [(0, zrf (some o)), (1, .int a0), (2, .int a1), (3, .int a2), (4, .int (((2 * a2) - a1)))]) (zi_184 rfl) rfl zm_184_4 ⟨Or.inr ⟨by decide, rfl, fun q => absurd q (by decide)⟩, ⟨Or.inr ⟨by decide, rfl, fun q => absurd q (by decide)⟩, ⟨Or.inr ⟨by decide, rfl, fun q => absurd q (by decide)⟩, ⟨Or.inr ⟨by decide, rfl, fun _ => rfl⟩, ⟨Or.inl ⟨rfl, rfl⟩, trivial⟩⟩⟩⟩⟩ ?_
    refine zo_iload (p' := 9) (zi_184 rfl) rfl rfl ?_
    refine zo_aload_n (p' := 10) (zi_184 rfl) rfl rfl ?_
    refine zo_iload_n (p' := 11) (zi_184 rfl) rfl rfl ?_
    obtain ⟨x1, hx2, g7⟩ := zb_of h
    refine zo_callVi (p' := 14) (t := 12) (as := [.int a0]) (r := [.int (((2 * a2) - a1))]) (zi_184 rfl) rfl zl_19_319 rfl rfl (Or.inl ⟨by decide, rfl⟩) (Nat.le_of_ble_eq_true rfl) (Nat.le_of_ble_eq_true rfl) (f_174_ok hx2) (k_174 _ hx2) ?_
    by_cases hc3 : x1 < ((2 * a2) - a1)
    · rw [if_pos hc3] at g7
      refine zo_icT (p' := 32) (zi_184 rfl) rfl hc3 ?_
      refine zo_iconst (p' := 33) (v := 0) (zi_184 rfl) rfl rfl ?_
      have g8 := Option.some.inj g7
      subst g8
      exact zo_iret (zi_184 rfl) rfl ⟨rfl, rfl⟩
    · rw [if_neg hc3] at g7
      refine zo_icF (p' := 17) (zi_184 rfl) rfl rfl hc3 ?_
      refine zo_iload (p' := 19) (zi_184 rfl) rfl rfl ?_
      refine zo_ineg (p' := 20) (zi_184 rfl) rfl ?_
      refine zo_aload_n (p' := 21) (zi_184 rfl) rfl rfl ?_
      refine zo_iload_n (p' := 22) (zi_184 rfl) rfl rfl ?_
      obtain ⟨x4, hx5, g9⟩ := zb_of g7
      refine zo_callVi (p' := 25) (t := 12) (as := [.int a0]) (r := [.int ((-((2 * a2) - a1)))]) (zi_184 rfl) rfl zl_19_319 rfl rfl (Or.inl ⟨by decide, rfl⟩) (Nat.le_of_ble_eq_true rfl) (Nat.le_of_ble_eq_true rfl) (f_174_ok hx5) (k_174 _ hx5) ?_
      by_cases hc6 : x4 < (-((2 * a2) - a1))
      · rw [if_pos hc6] at g9
        refine zo_icT (p' := 32) (zi_184 rfl) rfl hc6 ?_
        refine zo_iconst (p' := 33) (v := 0) (zi_184 rfl) rfl rfl ?_
        have g10 := Option.some.inj g9
        subst g10
        exact zo_iret (zi_184 rfl) rfl ⟨rfl, rfl⟩
      · rw [if_neg hc6] at g9
        refine zo_icF (p' := 28) (zi_184 rfl) rfl rfl hc6 ?_
        refine zo_iconst (p' := 29) (v := 1) (zi_184 rfl) rfl rfl ?_
        refine zo_goto (p' := 33) (zi_184 rfl) rfl ?_
        have g11 := Option.some.inj g9
        subst g11
        exact zo_iret (zi_184 rfl) rfl ⟨rfl, rfl⟩
  · rw [if_neg hok] at h; cases h
/-- SlateHalvesModel.isClean(III)Z -/
def f_183_60 (M : ZMem) (o : Nat) (b1 : Int32) (b2 : Int32) (b3 : Int32) (b4 : Int32) : Option (Int32) := if ¬ b4 = 0 then (some 1) else (zb (f_184 M o b1 b2 b3) fun x64 => if x64 = 0 then (some 0) else (some 1))
def f_183_17 (M : ZMem) (o : Nat) (b1 : Int32) (b2 : Int32) (b3 : Int32) (b4 : Int32) : Option (Int32) := zb (zgr M 12 3 o) fun r10 => zb r10 fun q12 => zb (zai M q12 b1) fun x13 => if x13 = 2 then (f_183_60 M o b1 b2 b3 b4) else (if x13 = 3 then (if ¬ b4 = 0 then (some 0) else (zb (f_184 M o b1 b2 b3) fun x21 => if x21 = 0 then (some 0) else (some 1))) else (if x13 = 4 then (if b2 ≤ 3 then (some 0) else (zb (f_184 M o b1 b2 b3) fun x25 => if x25 = 0 then (some 0) else (some 1))) else (if x13 = 5 then (f_183_60 M o b1 b2 b3 b4) else (if x13 = 6 then (if ¬ b4 = 0 then (some 0) else (zb (zgr M 12 8 o) fun r29 => zb (zgi M 12 1 o) fun x31 => zb r29 fun q33 => zb (zai M q33 ((4 * b1) + (x31 - x31 / 4 * 4))) fun x34 => zb (f_184 M o b1 ((b2 + x34)) b3) fun x36 => if x36 = 0 then (some 0) else (some 1))) else (zb (f_184 M o b1 b2 b3) fun x39 => if narrow .boolean (.int x39) = .int x39 then some x39 else none)))))
set_option maxRecDepth 20000 in
theorem k_183_60 (d : Nat) : ∀ (M : ZMem) (o : Nat) (b1 : Int32) (b2 : Int32) (b3 : Int32) (b4 : Int32) (out : Int32), f_183_60 M o b1 b2 b3 b4 = some out → zgo none (d + 3) 183 60 [(0, zrf (some o)), (1, .int b1), (2, .int b2), (3, .int b3), (4, .int b4)] [] M (some (.int out), M) := by
  intro M o b1 b2 b3 b4 out h
  unfold f_183_60 at h
  refine zo_iload (p' := 62) (zi_183 rfl) rfl rfl ?_
  by_cases hc63 : ¬ b4 = 0
  · rw [if_pos hc63] at h
    refine zo_ifT (p' := 75) (zi_183 rfl) rfl hc63 ?_
    refine zo_iconst (p' := 76) (v := 1) (zi_183 rfl) rfl rfl ?_
    refine zo_goto (p' := 80) (zi_183 rfl) rfl ?_
    have g67 := Option.some.inj h
    subst g67
    exact zo_iret (zi_183 rfl) rfl ⟨rfl, rfl⟩
  · rw [if_neg hc63] at h
    refine zo_ifF (p' := 65) (zi_183 rfl) rfl rfl hc63 ?_
    refine zo_aload_n (p' := 66) (zi_183 rfl) rfl rfl ?_
    refine zo_iload_n (p' := 67) (zi_183 rfl) rfl rfl ?_
    refine zo_iload_n (p' := 68) (zi_183 rfl) rfl rfl ?_
    refine zo_iload_n (p' := 69) (zi_183 rfl) rfl rfl ?_
    obtain ⟨x64, hx65, g68⟩ := zb_of h
    refine zo_callVi (p' := 72) (t := 12) (as := [.int b1, .int b2, .int b3]) (r := []) (zi_183 rfl) rfl zl_19_322 rfl rfl (Or.inl ⟨by decide, rfl⟩) (Nat.le_of_ble_eq_true rfl) (Nat.le_of_ble_eq_true rfl) (f_184_ok hx65) (k_184 _ hx65) ?_
    by_cases hc66 : x64 = 0
    · rw [if_pos hc66] at g68
      refine zo_ifT (p' := 79) (zi_183 rfl) rfl hc66 ?_
      refine zo_iconst (p' := 80) (v := 0) (zi_183 rfl) rfl rfl ?_
      have g69 := Option.some.inj g68
      subst g69
      exact zo_iret (zi_183 rfl) rfl ⟨rfl, rfl⟩
    · rw [if_neg hc66] at g68
      refine zo_ifF (p' := 75) (zi_183 rfl) rfl rfl hc66 ?_
      refine zo_iconst (p' := 76) (v := 1) (zi_183 rfl) rfl rfl ?_
      refine zo_goto (p' := 80) (zi_183 rfl) rfl ?_
      have g70 := Option.some.inj g68
      subst g70
      exact zo_iret (zi_183 rfl) rfl ⟨rfl, rfl⟩
set_option maxRecDepth 20000 in
theorem k_183_17 (d : Nat) : ∀ (M : ZMem) (o : Nat) (b1 : Int32) (b2 : Int32) (b3 : Int32) (b4 : Int32) (out : Int32), f_183_17 M o b1 b2 b3 b4 = some out → zgo none (d + 3) 183 17 [(0, zrf (some o)), (1, .int b1), (2, .int b2), (3, .int b3)] [.int b4] M (some (.int out), M) := by
  intro M o b1 b2 b3 b4 out h
  unfold f_183_17 at h
  refine zo_istore (p' := 19) (L' := [(0, zrf (some o)), (1, .int b1), (2, .int b2), (3, .int b3), (4, .int b4)]) (zi_183 rfl) rfl zm_183_4 ⟨Or.inr ⟨by decide, rfl, fun q => absurd q (by decide)⟩, ⟨Or.inr ⟨by decide, rfl, fun q => absurd q (by decide)⟩, ⟨Or.inr ⟨by decide, rfl, fun q => absurd q (by decide)⟩, ⟨Or.inr ⟨by decide, rfl, fun _ => rfl⟩, ⟨Or.inl ⟨rfl, rfl⟩, trivial⟩⟩⟩⟩⟩ ?_
  refine zo_aload_n (p' := 20) (zi_183 rfl) rfl rfl ?_
  obtain ⟨r10, hx11, g42⟩ := zb_of h
  refine zo_getR (p' := 23) (zi_183 rfl) rfl zl_19_19 hx11 ?_
  refine zo_iload_n (p' := 24) (zi_183 rfl) rfl rfl ?_
  obtain ⟨q12, h0, g43⟩ := zb_of g42
  subst h0
  obtain ⟨x13, hx14, g44⟩ := zb_of g43
  refine zo_iald (p' := 25) (zi_183 rfl) rfl hx14 ?_
  by_cases hc15 : x13 = 2
  · rw [if_pos hc15] at g44
    refine zo_table (p' := 60) (n := 35) (zi_183 rfl) (by decide) (zsel_hit hc15 (by decide)) rfl ?_
    refine zgo_sub (L' := [(0, zrf (some o)), (1, .int b1), (2, .int b2), (3, .int b3), (4, .int b4)]) (⟨rfl, rfl, rfl, rfl, rfl, trivial⟩) ?_
    exact k_183_60 _ M o b1 b2 b3 b4 _ g44
  · rw [if_neg hc15] at g44
    by_cases hc16 : x13 = 3
    · rw [if_pos hc16] at g44
      refine zo_table (p' := 81) (n := 56) (zi_183 rfl) (by decide) (zsel_skip hc15 (by decide) (zsel_hit hc16 (by decide))) rfl ?_
      refine zo_iload (p' := 83) (zi_183 rfl) rfl rfl ?_
      by_cases hc20 : ¬ b4 = 0
      · rw [if_pos hc20] at g44
        refine zo_ifT (p' := 100) (zi_183 rfl) rfl hc20 ?_
        refine zo_iconst (p' := 101) (v := 0) (zi_183 rfl) rfl rfl ?_
        have g45 := Option.some.inj g44
        subst g45
        exact zo_iret (zi_183 rfl) rfl ⟨rfl, rfl⟩
      · rw [if_neg hc20] at g44
        refine zo_ifF (p' := 86) (zi_183 rfl) rfl rfl hc20 ?_
        refine zo_aload_n (p' := 87) (zi_183 rfl) rfl rfl ?_
        refine zo_iload_n (p' := 88) (zi_183 rfl) rfl rfl ?_
        refine zo_iload_n (p' := 89) (zi_183 rfl) rfl rfl ?_
        refine zo_iload_n (p' := 90) (zi_183 rfl) rfl rfl ?_
        obtain ⟨x21, hx22, g46⟩ := zb_of g44
        refine zo_callVi (p' := 93) (t := 12) (as := [.int b1, .int b2, .int b3]) (r := []) (zi_183 rfl) rfl zl_19_322 rfl rfl (Or.inl ⟨by decide, rfl⟩) (Nat.le_of_ble_eq_true rfl) (Nat.le_of_ble_eq_true rfl) (f_184_ok hx22) (k_184 _ hx22) ?_
        by_cases hc23 : x21 = 0
        · rw [if_pos hc23] at g46
          refine zo_ifT (p' := 100) (zi_183 rfl) rfl hc23 ?_
          refine zo_iconst (p' := 101) (v := 0) (zi_183 rfl) rfl rfl ?_
          have g47 := Option.some.inj g46
          subst g47
          exact zo_iret (zi_183 rfl) rfl ⟨rfl, rfl⟩
        · rw [if_neg hc23] at g46
          refine zo_ifF (p' := 96) (zi_183 rfl) rfl rfl hc23 ?_
          refine zo_iconst (p' := 97) (v := 1) (zi_183 rfl) rfl rfl ?_
          refine zo_goto (p' := 101) (zi_183 rfl) rfl ?_
          have g48 := Option.some.inj g46
          subst g48
          exact zo_iret (zi_183 rfl) rfl ⟨rfl, rfl⟩
    · rw [if_neg hc16] at g44
      by_cases hc17 : x13 = 4
      · rw [if_pos hc17] at g44
        refine zo_table (p' := 139) (n := 114) (zi_183 rfl) (by decide) (zsel_skip hc15 (by decide) (zsel_skip hc16 (by decide) (zsel_hit hc17 (by decide)))) rfl ?_
        refine zo_iload_n (p' := 140) (zi_183 rfl) rfl rfl ?_
        refine zo_iconst (p' := 141) (v := 3) (zi_183 rfl) rfl rfl ?_
        by_cases hc24 : b2 ≤ 3
        · rw [if_pos hc24] at g44
          refine zo_icT (p' := 158) (zi_183 rfl) rfl hc24 ?_
          refine zo_iconst (p' := 159) (v := 0) (zi_183 rfl) rfl rfl ?_
          have g49 := Option.some.inj g44
          subst g49
          exact zo_iret (zi_183 rfl) rfl ⟨rfl, rfl⟩
        · rw [if_neg hc24] at g44
          refine zo_icF (p' := 144) (zi_183 rfl) rfl rfl hc24 ?_
          refine zo_aload_n (p' := 145) (zi_183 rfl) rfl rfl ?_
          refine zo_iload_n (p' := 146) (zi_183 rfl) rfl rfl ?_
          refine zo_iload_n (p' := 147) (zi_183 rfl) rfl rfl ?_
          refine zo_iload_n (p' := 148) (zi_183 rfl) rfl rfl ?_
          obtain ⟨x25, hx26, g50⟩ := zb_of g44
          refine zo_callVi (p' := 151) (t := 12) (as := [.int b1, .int b2, .int b3]) (r := []) (zi_183 rfl) rfl zl_19_322 rfl rfl (Or.inl ⟨by decide, rfl⟩) (Nat.le_of_ble_eq_true rfl) (Nat.le_of_ble_eq_true rfl) (f_184_ok hx26) (k_184 _ hx26) ?_
          by_cases hc27 : x25 = 0
          · rw [if_pos hc27] at g50
            refine zo_ifT (p' := 158) (zi_183 rfl) rfl hc27 ?_
            refine zo_iconst (p' := 159) (v := 0) (zi_183 rfl) rfl rfl ?_
            have g51 := Option.some.inj g50
            subst g51
            exact zo_iret (zi_183 rfl) rfl ⟨rfl, rfl⟩
          · rw [if_neg hc27] at g50
            refine zo_ifF (p' := 154) (zi_183 rfl) rfl rfl hc27 ?_
            refine zo_iconst (p' := 155) (v := 1) (zi_183 rfl) rfl rfl ?_
            refine zo_goto (p' := 159) (zi_183 rfl) rfl ?_
            have g52 := Option.some.inj g50
            subst g52
            exact zo_iret (zi_183 rfl) rfl ⟨rfl, rfl⟩
      · rw [if_neg hc17] at g44
        by_cases hc18 : x13 = 5
        · rw [if_pos hc18] at g44
          refine zo_table (p' := 60) (n := 35) (zi_183 rfl) (by decide) (zsel_skip hc15 (by decide) (zsel_skip hc16 (by decide) (zsel_skip hc17 (by decide) (zsel_hit hc18 (by decide))))) rfl ?_
          refine zgo_sub (L' := [(0, zrf (some o)), (1, .int b1), (2, .int b2), (3, .int b3), (4, .int b4)]) (⟨rfl, rfl, rfl, rfl, rfl, trivial⟩) ?_
          exact k_183_60 _ M o b1 b2 b3 b4 _ g44
        · rw [if_neg hc18] at g44
          by_cases hc19 : x13 = 6
          · rw [if_pos hc19] at g44
            refine zo_table (p' := 102) (n := 77) (zi_183 rfl) (by decide) (zsel_skip hc15 (by decide) (zsel_skip hc16 (by decide) (zsel_skip hc17 (by decide) (zsel_skip hc18 (by decide) (zsel_hit hc19 (by decide)))))) rfl ?_
            refine zo_iload (p' := 104) (zi_183 rfl) rfl rfl ?_
            by_cases hc28 : ¬ b4 = 0
            · rw [if_pos hc28] at g44
              refine zo_ifT (p' := 137) (zi_183 rfl) rfl hc28 ?_
              refine zo_iconst (p' := 138) (v := 0) (zi_183 rfl) rfl rfl ?_
              have g53 := Option.some.inj g44
              subst g53
              exact zo_iret (zi_183 rfl) rfl ⟨rfl, rfl⟩
            · rw [if_neg hc28] at g44
              refine zo_ifF (p' := 107) (zi_183 rfl) rfl rfl hc28 ?_
              refine zo_aload_n (p' := 108) (zi_183 rfl) rfl rfl ?_
              refine zo_iload_n (p' := 109) (zi_183 rfl) rfl rfl ?_
              refine zo_iload_n (p' := 110) (zi_183 rfl) rfl rfl ?_
              refine zo_aload_n (p' := 111) (zi_183 rfl) rfl rfl ?_
              obtain ⟨r29, hx30, g54⟩ := zb_of g44
              refine zo_getR (p' := 114) (zi_183 rfl) rfl zl_19_35 hx30 ?_
              refine zo_iconst (p' := 115) (v := 4) (zi_183 rfl) rfl rfl ?_
              refine zo_iload_n (p' := 116) (zi_183 rfl) rfl rfl ?_
              refine zo_imul (p' := 117) (zi_183 rfl) rfl ?_
              refine zo_aload_n (p' := 118) (zi_183 rfl) rfl rfl ?_
              obtain ⟨x31, hx32, g55⟩ := zb_of g54
              refine zo_getI (p' := 121) (zi_183 rfl) rfl zl_19_13 hx32 ?_
              refine zo_iconst (p' := 122) (v := 4) (zi_183 rfl) rfl rfl ?_
              refine zo_irem (p' := 123) (zi_183 rfl) rfl (by decide) ?_
              refine zo_iadd (p' := 124) (zi_183 rfl) rfl ?_
              obtain ⟨q33, h0, g56⟩ := zb_of g55
              subst h0
              obtain ⟨x34, hx35, g57⟩ := zb_of g56
              refine zo_iald (p' := 125) (zi_183 rfl) rfl hx35 ?_
              refine zo_iadd (p' := 126) (zi_183 rfl) rfl ?_
              refine zo_iload_n (p' := 127) (zi_183 rfl) rfl rfl ?_
              obtain ⟨x36, hx37, g58⟩ := zb_of g57
              refine zo_callVi (p' := 130) (t := 12) (as := [.int b1, .int ((b2 + x34)), .int b3]) (r := []) (zi_183 rfl) rfl zl_19_322 rfl rfl (Or.inl ⟨by decide, rfl⟩) (Nat.le_of_ble_eq_true rfl) (Nat.le_of_ble_eq_true rfl) (f_184_ok hx37) (k_184 _ hx37) ?_
              by_cases hc38 : x36 = 0
              · rw [if_pos hc38] at g58
                refine zo_ifT (p' := 137) (zi_183 rfl) rfl hc38 ?_
                refine zo_iconst (p' := 138) (v := 0) (zi_183 rfl) rfl rfl ?_
                have g59 := Option.some.inj g58
                subst g59
                exact zo_iret (zi_183 rfl) rfl ⟨rfl, rfl⟩
              · rw [if_neg hc38] at g58
                refine zo_ifF (p' := 133) (zi_183 rfl) rfl rfl hc38 ?_
                refine zo_iconst (p' := 134) (v := 1) (zi_183 rfl) rfl rfl ?_
                refine zo_goto (p' := 138) (zi_183 rfl) rfl ?_
                have g60 := Option.some.inj g58
                subst g60
                exact zo_iret (zi_183 rfl) rfl ⟨rfl, rfl⟩
          · rw [if_neg hc19] at g44
            refine zo_table (p' := 160) (n := 135) (zi_183 rfl) (by decide) (zsel_skip hc15 (by decide) (zsel_skip hc16 (by decide) (zsel_skip hc17 (by decide) (zsel_skip hc18 (by decide) (zsel_skip hc19 (by decide) (rfl)))))) rfl ?_
            refine zo_aload_n (p' := 161) (zi_183 rfl) rfl rfl ?_
            refine zo_iload_n (p' := 162) (zi_183 rfl) rfl rfl ?_
            refine zo_iload_n (p' := 163) (zi_183 rfl) rfl rfl ?_
            refine zo_iload_n (p' := 164) (zi_183 rfl) rfl rfl ?_
            obtain ⟨x39, hx40, g61⟩ := zb_of g44
            refine zo_callVi (p' := 167) (t := 12) (as := [.int b1, .int b2, .int b3]) (r := []) (zi_183 rfl) rfl zl_19_322 rfl rfl (Or.inl ⟨by decide, rfl⟩) (Nat.le_of_ble_eq_true rfl) (Nat.le_of_ble_eq_true rfl) (f_184_ok hx40) (k_184 _ hx40) ?_
            by_cases hr41 : narrow .boolean (.int x39) = .int x39
            · rw [if_pos hr41] at g61
              have g62 := Option.some.inj g61
              subst g62
              exact zo_iret (zi_183 rfl) rfl ⟨rfl, hr41⟩
            · rw [if_neg hr41] at g61; cases g61
def f_183 (M : ZMem) (o : Nat) (a0 : Int32) (a1 : Int32) (a2 : Int32) : Option (Int32) := if zok M 12 o = true then (zb (zgr M 12 4 o) fun r1 => zb r1 fun q3 => zb (zai M q3 a0) fun x4 => if ¬ a2 = (x4 + 1) then (f_183_17 M o a0 a1 a2 0) else (f_183_17 M o a0 a1 a2 1)) else none
theorem f_183_ok {M : ZMem} {o : Nat} {a0 : Int32} {a1 : Int32} {a2 : Int32} {out : Int32} (h : f_183 M o a0 a1 a2 = some out) : zok M 12 o = true := by
  unfold f_183 at h
  by_cases hok : zok M 12 o = true
  · exact hok
  · rw [if_neg hok] at h; cases h
set_option maxRecDepth 20000 in
theorem k_183 (d : Nat) {M : ZMem} {o : Nat} {a0 : Int32} {a1 : Int32} {a2 : Int32} {out : Int32} (h : f_183 M o a0 a1 a2 = some out) : zrn (d + 3) 183 [zrf (some o), .int a0, .int a1, .int a2] M (some (.int out), M) := by
  unfold f_183 at h
  by_cases hok : zok M 12 o = true
  · rw [if_pos hok] at h
    refine zrn_of (L := [(0, zrf (some o)), (1, .int a0), (2, .int a1), (3, .int a2)]) rfl ?_
    refine zo_iload_n (p' := 1) (zi_183 rfl) rfl rfl ?_
    refine zo_aload_n (p' := 2) (zi_183 rfl) rfl rfl ?_
    obtain ⟨r1, hx2, g7⟩ := zb_of h
    refine zo_getR (p' := 5) (zi_183 rfl) rfl zl_19_23 hx2 ?_
    refine zo_iload_n (p' := 6) (zi_183 rfl) rfl rfl ?_
    obtain ⟨q3, h0, g8⟩ := zb_of g7
    subst h0
    obtain ⟨x4, hx5, g9⟩ := zb_of g8
    refine zo_iald (p' := 7) (zi_183 rfl) rfl hx5 ?_
    refine zo_iconst (p' := 8) (v := 1) (zi_183 rfl) rfl rfl ?_
    refine zo_iadd (p' := 9) (zi_183 rfl) rfl ?_
    by_cases hc6 : ¬ a2 = (x4 + 1)
    · rw [if_pos hc6] at g9
      refine zo_icT (p' := 16) (zi_183 rfl) rfl hc6 ?_
      refine zo_iconst (p' := 17) (v := 0) (zi_183 rfl) rfl rfl ?_
      refine zgo_sub (L' := [(0, zrf (some o)), (1, .int a0), (2, .int a1), (3, .int a2)]) (⟨rfl, rfl, rfl, rfl, trivial⟩) ?_
      exact k_183_17 _ M o a0 a1 a2 0 _ g9
    · rw [if_neg hc6] at g9
      refine zo_icF (p' := 12) (zi_183 rfl) rfl rfl hc6 ?_
      refine zo_iconst (p' := 13) (v := 1) (zi_183 rfl) rfl rfl ?_
      refine zo_goto (p' := 17) (zi_183 rfl) rfl ?_
      refine zgo_sub (L' := [(0, zrf (some o)), (1, .int a0), (2, .int a1), (3, .int a2)]) (⟨rfl, rfl, rfl, rfl, trivial⟩) ?_
      exact k_183_17 _ M o a0 a1 a2 1 _ g9
  · rw [if_neg hok] at h; cases h
/-- SlateHalvesModel.layBlow(III)V -/
def f_185_166 (M : ZMem) (o : Nat) (b1 : Int32) (b2 : Int32) : Option (ZMem) := zb (zgr M 12 29 o) fun r125 => zb (zgr M 12 29 o) fun r127 => zb r127 fun q129 => zb (zai M q129 b1) fun x130 => zb (f_179 M o x130 b2) fun x132 => zb r125 fun q134 => zb (zsa M 20 q134 b1 x132) fun M135 => some M135
def f_185_150 (M : ZMem) (o : Nat) (b1 : Int32) (b2 : Int32) (b3 : Int32) (b4 : Int32) : Option (ZMem) := zb (zgr M 12 27 o) fun r109 => zb r109 fun q111 => zb (zsa M 20 q111 b1 b2) fun M112 => zb (zgr M112 12 28 o) fun r114 => zb r114 fun q116 => zb (zsa M112 20 q116 b1 b3) fun M117 => f_185_166 M117 o b1 b4
def f_185_115 (M : ZMem) (o : Nat) (b1 : Int32) (b2 : Int32) (b3 : Int32) (b4 : Int32) : Option (ZMem) := zb (zgr M 12 27 o) fun r82 => zb r82 fun q84 => zb (zai M q84 b1) fun x85 => if x85 < b2 then (f_185_150 M o b1 b2 b3 b4) else (zb (zgr M 12 27 o) fun r88 => zb r88 fun q90 => zb (zai M q90 b1) fun x91 => if ¬ b2 = x91 then (f_185_166 M o b1 b4) else (zb (zgr M 12 28 o) fun r94 => zb r94 fun q96 => zb (zai M q96 b1) fun x97 => if x97 ≤ b3 then (f_185_166 M o b1 b4) else (f_185_150 M o b1 b2 b3 b4)))
def f_185_82 (M : ZMem) (o : Nat) (b1 : Int32) (b2 : Int32) (b3 : Int32) (b4 : Int32) (b5 : Int32) (b6 : Int32) (b7 : Int32) : Option (ZMem) := if b3 = 0 then (zb (zgr M 12 29 o) fun r58 => zb r58 fun q60 => zb (zai M q60 b4) fun x61 => f_185_115 M o b1 b5 ((b7 + b6)) x61) else (zb (zgr M 12 29 o) fun r63 => zb r63 fun q65 => zb (zai M q65 b2) fun x66 => zb (zgr M 12 29 o) fun r68 => zb r68 fun q70 => zb (zai M q70 (b1 - b2)) fun x71 => f_185_115 M o b1 b5 ((b7 + b6)) ((x66 + x71)))
def f_185_49 (M : ZMem) (o : Nat) (b1 : Int32) (b2 : Int32) (b3 : Int32) (b4 : Int32) (b5 : Int32) : Option (ZMem) := if b3 = 0 then (zb (zgr M 12 28 o) fun r33 => zb r33 fun q35 => zb (zai M q35 b4) fun x36 => f_185_82 M o b1 b2 b3 b4 b5 x36 1) else (zb (zgr M 12 28 o) fun r38 => zb r38 fun q40 => zb (zai M q40 b2) fun x41 => zb (zgr M 12 28 o) fun r43 => zb r43 fun q45 => zb (zai M q45 (b1 - b2)) fun x46 => f_185_82 M o b1 b2 b3 b4 b5 ((x41 + x46)) 1)
set_option maxRecDepth 20000 in
theorem k_185_166 (d : Nat) : ∀ (M : ZMem) (o : Nat) (b1 : Int32) (b2 : Int32) (out : ZMem), f_185_166 M o b1 b2 = some out → zgo none (d + 4) 185 166 [(0, zrf (some o)), (2, .int b1), (8, .int b2)] [] M (none, out) := by
  intro M o b1 b2 out h
  unfold f_185_166 at h
  refine zo_aload_n (p' := 167) (zi_185 rfl) rfl rfl ?_
  obtain ⟨r125, hx126, g137⟩ := zb_of h
  refine zo_getR (p' := 170) (zi_185 rfl) rfl zl_19_99 hx126 ?_
  refine zo_iload_n (p' := 171) (zi_185 rfl) rfl rfl ?_
  refine zo_aload_n (p' := 172) (zi_185 rfl) rfl rfl ?_
  refine zo_aload_n (p' := 173) (zi_185 rfl) rfl rfl ?_
  obtain ⟨r127, hx128, g138⟩ := zb_of g137
  refine zo_getR (p' := 176) (zi_185 rfl) rfl zl_19_99 hx128 ?_
  refine zo_iload_n (p' := 177) (zi_185 rfl) rfl rfl ?_
  obtain ⟨q129, h0, g139⟩ := zb_of g138
  subst h0
  obtain ⟨x130, hx131, g140⟩ := zb_of g139
  refine zo_iald (p' := 178) (zi_185 rfl) rfl hx131 ?_
  refine zo_iload (p' := 180) (zi_185 rfl) rfl rfl ?_
  obtain ⟨x132, hx133, g141⟩ := zb_of g140
  refine zo_callVi (p' := 183) (t := 12) (as := [.int x130, .int b2]) (r := [.int b1, zrf r125]) (zi_185 rfl) rfl zl_19_304 rfl rfl (Or.inl ⟨by decide, rfl⟩) (by simp [zrf_cat, zcat_i, zcat_l, zcat_r]) (Nat.le_of_ble_eq_true rfl) (f_179_ok hx133) (k_179 _ hx133) ?_
  obtain ⟨q134, h0, g142⟩ := zb_of g141
  subst h0
  obtain ⟨M135, hx136, g143⟩ := zb_of g142
  refine zo_iast (p' := 184) (zi_185 rfl) rfl hx136 ?_
  have g144 := Option.some.inj g143
  subst g144
  exact zo_vret (zi_185 rfl) rfl
set_option maxRecDepth 20000 in
theorem k_185_150 (d : Nat) : ∀ (M : ZMem) (o : Nat) (b1 : Int32) (b2 : Int32) (b3 : Int32) (b4 : Int32) (out : ZMem), f_185_150 M o b1 b2 b3 b4 = some out → zgo none (d + 4) 185 150 [(0, zrf (some o)), (2, .int b1), (6, .int b2), (7, .int b3), (8, .int b4)] [] M (none, out) := by
  intro M o b1 b2 b3 b4 out h
  unfold f_185_150 at h
  refine zo_aload_n (p' := 151) (zi_185 rfl) rfl rfl ?_
  obtain ⟨r109, hx110, g119⟩ := zb_of h
  refine zo_getR (p' := 154) (zi_185 rfl) rfl zl_19_93 hx110 ?_
  refine zo_iload_n (p' := 155) (zi_185 rfl) rfl rfl ?_
  refine zo_iload (p' := 157) (zi_185 rfl) rfl rfl ?_
  obtain ⟨q111, h0, g120⟩ := zb_of g119
  subst h0
  obtain ⟨M112, hx113, g121⟩ := zb_of g120
  refine zo_iast (p' := 158) (zi_185 rfl) rfl hx113 ?_
  refine zo_aload_n (p' := 159) (zi_185 rfl) rfl rfl ?_
  obtain ⟨r114, hx115, g122⟩ := zb_of g121
  refine zo_getR (p' := 162) (zi_185 rfl) rfl zl_19_96 hx115 ?_
  refine zo_iload_n (p' := 163) (zi_185 rfl) rfl rfl ?_
  refine zo_iload (p' := 165) (zi_185 rfl) rfl rfl ?_
  obtain ⟨q116, h0, g123⟩ := zb_of g122
  subst h0
  obtain ⟨M117, hx118, g124⟩ := zb_of g123
  refine zo_iast (p' := 166) (zi_185 rfl) rfl hx118 ?_
  refine zgo_sub (L' := [(0, zrf (some o)), (2, .int b1), (8, .int b4)]) (⟨rfl, rfl, rfl, trivial⟩) ?_
  exact k_185_166 _ M117 o b1 b4 _ g124
set_option maxRecDepth 20000 in
theorem k_185_115 (d : Nat) : ∀ (M : ZMem) (o : Nat) (b1 : Int32) (b2 : Int32) (b3 : Int32) (b4 : Int32) (out : ZMem), f_185_115 M o b1 b2 b3 b4 = some out → zgo none (d + 4) 185 115 [(0, zrf (some o)), (2, .int b1), (6, .int b2), (7, .int b3)] [.int b4] M (none, out) := by
  intro M o b1 b2 b3 b4 out h
  unfold f_185_115 at h
  refine zo_istore (p' := 117) (L' := [(0, zrf (some o)), (2, .int b1), (6, .int b2), (7, .int b3), (8, .int b4)]) (zi_185 rfl) rfl zm_185_8 ⟨Or.inr ⟨by decide, rfl, fun q => absurd q (by decide)⟩, ⟨Or.inr ⟨by decide, rfl, fun q => absurd q (by decide)⟩, ⟨Or.inr ⟨by decide, rfl, fun q => absurd q (by decide)⟩, ⟨Or.inr ⟨by decide, rfl, fun _ => rfl⟩, ⟨Or.inl ⟨rfl, rfl⟩, trivial⟩⟩⟩⟩⟩ ?_
  refine zo_iload (p' := 119) (zi_185 rfl) rfl rfl ?_
  refine zo_aload_n (p' := 120) (zi_185 rfl) rfl rfl ?_
  obtain ⟨r82, hx83, g100⟩ := zb_of h
  refine zo_getR (p' := 123) (zi_185 rfl) rfl zl_19_93 hx83 ?_
  refine zo_iload_n (p' := 124) (zi_185 rfl) rfl rfl ?_
  obtain ⟨q84, h0, g101⟩ := zb_of g100
  subst h0
  obtain ⟨x85, hx86, g102⟩ := zb_of g101
  refine zo_iald (p' := 125) (zi_185 rfl) rfl hx86 ?_
  by_cases hc87 : x85 < b2
  · rw [if_pos hc87] at g102
    refine zo_icT (p' := 150) (zi_185 rfl) rfl hc87 ?_
    refine zgo_sub (L' := [(0, zrf (some o)), (2, .int b1), (6, .int b2), (7, .int b3), (8, .int b4)]) (⟨rfl, rfl, rfl, rfl, rfl, trivial⟩) ?_
    exact k_185_150 _ M o b1 b2 b3 b4 _ g102
  · rw [if_neg hc87] at g102
    refine zo_icF (p' := 128) (zi_185 rfl) rfl rfl hc87 ?_
    refine zo_iload (p' := 130) (zi_185 rfl) rfl rfl ?_
    refine zo_aload_n (p' := 131) (zi_185 rfl) rfl rfl ?_
    obtain ⟨r88, hx89, g103⟩ := zb_of g102
    refine zo_getR (p' := 134) (zi_185 rfl) rfl zl_19_93 hx89 ?_
    refine zo_iload_n (p' := 135) (zi_185 rfl) rfl rfl ?_
    obtain ⟨q90, h0, g104⟩ := zb_of g103
    subst h0
    obtain ⟨x91, hx92, g105⟩ := zb_of g104
    refine zo_iald (p' := 136) (zi_185 rfl) rfl hx92 ?_
    by_cases hc93 : ¬ b2 = x91
    · rw [if_pos hc93] at g105
      refine zo_icT (p' := 166) (zi_185 rfl) rfl hc93 ?_
      refine zgo_sub (L' := [(0, zrf (some o)), (2, .int b1), (8, .int b4)]) (⟨rfl, rfl, rfl, trivial⟩) ?_
      exact k_185_166 _ M o b1 b4 _ g105
    · rw [if_neg hc93] at g105
      refine zo_icF (p' := 139) (zi_185 rfl) rfl rfl hc93 ?_
      refine zo_iload (p' := 141) (zi_185 rfl) rfl rfl ?_
      refine zo_aload_n (p' := 142) (zi_185 rfl) rfl rfl ?_
      obtain ⟨r94, hx95, g106⟩ := zb_of g105
      refine zo_getR (p' := 145) (zi_185 rfl) rfl zl_19_96 hx95 ?_
      refine zo_iload_n (p' := 146) (zi_185 rfl) rfl rfl ?_
      obtain ⟨q96, h0, g107⟩ := zb_of g106
      subst h0
      obtain ⟨x97, hx98, g108⟩ := zb_of g107
      refine zo_iald (p' := 147) (zi_185 rfl) rfl hx98 ?_
      by_cases hc99 : x97 ≤ b3
      · rw [if_pos hc99] at g108
        refine zo_icT (p' := 166) (zi_185 rfl) rfl hc99 ?_
        refine zgo_sub (L' := [(0, zrf (some o)), (2, .int b1), (8, .int b4)]) (⟨rfl, rfl, rfl, trivial⟩) ?_
        exact k_185_166 _ M o b1 b4 _ g108
      · rw [if_neg hc99] at g108
        refine zo_icF (p' := 150) (zi_185 rfl) rfl rfl hc99 ?_
        refine zgo_sub (L' := [(0, zrf (some o)), (2, .int b1), (6, .int b2), (7, .int b3), (8, .int b4)]) (⟨rfl, rfl, rfl, rfl, rfl, trivial⟩) ?_
        exact k_185_150 _ M o b1 b2 b3 b4 _ g108
set_option maxRecDepth 20000 in
theorem k_185_82 (d : Nat) : ∀ (M : ZMem) (o : Nat) (b1 : Int32) (b2 : Int32) (b3 : Int32) (b4 : Int32) (b5 : Int32) (b6 : Int32) (b7 : Int32) (out : ZMem), f_185_82 M o b1 b2 b3 b4 b5 b6 b7 = some out → zgo none (d + 4) 185 82 [(0, zrf (some o)), (2, .int b1), (3, .int b2), (4, .int b3), (5, .int b4), (6, .int b5)] [.int b6, .int b7] M (none, out) := by
  intro M o b1 b2 b3 b4 b5 b6 b7 out h
  unfold f_185_82 at h
  refine zo_iadd (p' := 83) (zi_185 rfl) rfl ?_
  refine zo_istore (p' := 85) (L' := [(0, zrf (some o)), (2, .int b1), (3, .int b2), (4, .int b3), (5, .int b4), (6, .int b5), (7, .int ((b7 + b6)))]) (zi_185 rfl) rfl zm_185_7 ⟨Or.inr ⟨by decide, rfl, fun q => absurd q (by decide)⟩, ⟨Or.inr ⟨by decide, rfl, fun q => absurd q (by decide)⟩, ⟨Or.inr ⟨by decide, rfl, fun q => absurd q (by decide)⟩, ⟨Or.inr ⟨by decide, rfl, fun q => absurd q (by decide)⟩, ⟨Or.inr ⟨by decide, rfl, fun q => absurd q (by decide)⟩, ⟨Or.inr ⟨by decide, rfl, fun _ => rfl⟩, ⟨Or.inl ⟨rfl, rfl⟩, trivial⟩⟩⟩⟩⟩⟩⟩ ?_
  refine zo_iload (p' := 87) (zi_185 rfl) rfl rfl ?_
  by_cases hc57 : b3 = 0
  · rw [if_pos hc57] at h
    refine zo_ifT (p' := 108) (zi_185 rfl) rfl hc57 ?_
    refine zo_aload_n (p' := 109) (zi_185 rfl) rfl rfl ?_
    obtain ⟨r58, hx59, g73⟩ := zb_of h
    refine zo_getR (p' := 112) (zi_185 rfl) rfl zl_19_99 hx59 ?_
    refine zo_iload (p' := 114) (zi_185 rfl) rfl rfl ?_
    obtain ⟨q60, h0, g74⟩ := zb_of g73
    subst h0
    obtain ⟨x61, hx62, g75⟩ := zb_of g74
    refine zo_iald (p' := 115) (zi_185 rfl) rfl hx62 ?_
    refine zgo_sub (L' := [(0, zrf (some o)), (2, .int b1), (6, .int b5), (7, .int (((b7 + b6))))]) (⟨rfl, rfl, rfl, rfl, trivial⟩) ?_
    exact k_185_115 _ M o b1 b5 ((b7 + b6)) x61 _ g75
  · rw [if_neg hc57] at h
    refine zo_ifF (p' := 90) (zi_185 rfl) rfl rfl hc57 ?_
    refine zo_aload_n (p' := 91) (zi_185 rfl) rfl rfl ?_
    obtain ⟨r63, hx64, g76⟩ := zb_of h
    refine zo_getR (p' := 94) (zi_185 rfl) rfl zl_19_99 hx64 ?_
    refine zo_iload_n (p' := 95) (zi_185 rfl) rfl rfl ?_
    obtain ⟨q65, h0, g77⟩ := zb_of g76
    subst h0
    obtain ⟨x66, hx67, g78⟩ := zb_of g77
    refine zo_iald (p' := 96) (zi_185 rfl) rfl hx67 ?_
    refine zo_aload_n (p' := 97) (zi_185 rfl) rfl rfl ?_
    obtain ⟨r68, hx69, g79⟩ := zb_of g78
    refine zo_getR (p' := 100) (zi_185 rfl) rfl zl_19_99 hx69 ?_
    refine zo_iload_n (p' := 101) (zi_185 rfl) rfl rfl ?_
    refine zo_iload_n (p' := 102) (zi_185 rfl) rfl rfl ?_
    refine zo_isub (p' := 103) (zi_185 rfl) rfl ?_
    obtain ⟨q70, h0, g80⟩ := zb_of g79
    subst h0
    obtain ⟨x71, hx72, g81⟩ := zb_of g80
    refine zo_iald (p' := 104) (zi_185 rfl) rfl hx72 ?_
    refine zo_iadd (p' := 105) (zi_185 rfl) rfl ?_
    refine zo_goto (p' := 115) (zi_185 rfl) rfl ?_
    refine zgo_sub (L' := [(0, zrf (some o)), (2, .int b1), (6, .int b5), (7, .int (((b7 + b6))))]) (⟨rfl, rfl, rfl, rfl, trivial⟩) ?_
    exact k_185_115 _ M o b1 b5 ((b7 + b6)) ((x66 + x71)) _ g81
set_option maxRecDepth 20000 in
theorem k_185_49 (d : Nat) : ∀ (M : ZMem) (o : Nat) (b1 : Int32) (b2 : Int32) (b3 : Int32) (b4 : Int32) (b5 : Int32) (out : ZMem), f_185_49 M o b1 b2 b3 b4 b5 = some out → zgo none (d + 4) 185 49 [(0, zrf (some o)), (2, .int b1), (3, .int b2), (4, .int b3), (5, .int b4)] [.int b5] M (none, out) := by
  intro M o b1 b2 b3 b4 b5 out h
  unfold f_185_49 at h
  refine zo_istore (p' := 51) (L' := [(0, zrf (some o)), (2, .int b1), (3, .int b2), (4, .int b3), (5, .int b4), (6, .int b5)]) (zi_185 rfl) rfl zm_185_6 ⟨Or.inr ⟨by decide, rfl, fun q => absurd q (by decide)⟩, ⟨Or.inr ⟨by decide, rfl, fun q => absurd q (by decide)⟩, ⟨Or.inr ⟨by decide, rfl, fun q => absurd q (by decide)⟩, ⟨Or.inr ⟨by decide, rfl, fun q => absurd q (by decide)⟩, ⟨Or.inr ⟨by decide, rfl, fun _ => rfl⟩, ⟨Or.inl ⟨rfl, rfl⟩, trivial⟩⟩⟩⟩⟩⟩ ?_
  refine zo_iconst (p' := 52) (v := 1) (zi_185 rfl) rfl rfl ?_
  refine zo_iload (p' := 54) (zi_185 rfl) rfl rfl ?_
  by_cases hc32 : b3 = 0
  · rw [if_pos hc32] at h
    refine zo_ifT (p' := 75) (zi_185 rfl) rfl hc32 ?_
    refine zo_aload_n (p' := 76) (zi_185 rfl) rfl rfl ?_
    obtain ⟨r33, hx34, g48⟩ := zb_of h
    refine zo_getR (p' := 79) (zi_185 rfl) rfl zl_19_96 hx34 ?_
    refine zo_iload (p' := 81) (zi_185 rfl) rfl rfl ?_
    obtain ⟨q35, h0, g49⟩ := zb_of g48
    subst h0
    obtain ⟨x36, hx37, g50⟩ := zb_of g49
    refine zo_iald (p' := 82) (zi_185 rfl) rfl hx37 ?_
    refine zgo_sub (L' := [(0, zrf (some o)), (2, .int b1), (3, .int b2), (4, .int b3), (5, .int b4), (6, .int b5)]) (⟨rfl, rfl, rfl, rfl, rfl, rfl, trivial⟩) ?_
    exact k_185_82 _ M o b1 b2 b3 b4 b5 x36 1 _ g50
  · rw [if_neg hc32] at h
    refine zo_ifF (p' := 57) (zi_185 rfl) rfl rfl hc32 ?_
    refine zo_aload_n (p' := 58) (zi_185 rfl) rfl rfl ?_
    obtain ⟨r38, hx39, g51⟩ := zb_of h
    refine zo_getR (p' := 61) (zi_185 rfl) rfl zl_19_96 hx39 ?_
    refine zo_iload_n (p' := 62) (zi_185 rfl) rfl rfl ?_
    obtain ⟨q40, h0, g52⟩ := zb_of g51
    subst h0
    obtain ⟨x41, hx42, g53⟩ := zb_of g52
    refine zo_iald (p' := 63) (zi_185 rfl) rfl hx42 ?_
    refine zo_aload_n (p' := 64) (zi_185 rfl) rfl rfl ?_
    obtain ⟨r43, hx44, g54⟩ := zb_of g53
    refine zo_getR (p' := 67) (zi_185 rfl) rfl zl_19_96 hx44 ?_
    refine zo_iload_n (p' := 68) (zi_185 rfl) rfl rfl ?_
    refine zo_iload_n (p' := 69) (zi_185 rfl) rfl rfl ?_
    refine zo_isub (p' := 70) (zi_185 rfl) rfl ?_
    obtain ⟨q45, h0, g55⟩ := zb_of g54
    subst h0
    obtain ⟨x46, hx47, g56⟩ := zb_of g55
    refine zo_iald (p' := 71) (zi_185 rfl) rfl hx47 ?_
    refine zo_iadd (p' := 72) (zi_185 rfl) rfl ?_
    refine zo_goto (p' := 82) (zi_185 rfl) rfl ?_
    refine zgo_sub (L' := [(0, zrf (some o)), (2, .int b1), (3, .int b2), (4, .int b3), (5, .int b4), (6, .int b5)]) (⟨rfl, rfl, rfl, rfl, rfl, rfl, trivial⟩) ?_
    exact k_185_82 _ M o b1 b2 b3 b4 b5 ((x41 + x46)) 1 _ g56
def f_185 (M : ZMem) (o : Nat) (a0 : Int32) (a1 : Int32) (a2 : Int32) : Option (ZMem) := if zok M 12 o = true then (zb (f_183 M o a0 a1 a2) fun x1 => zb (f_179 M o a2 ((a1 - a2))) fun x3 => if x1 = 0 then (zb (zgr M 12 27 o) fun r6 => zb r6 fun q8 => zb (zai M q8 x3) fun x9 => f_185_49 M o a1 a2 x1 x3 x9) else (zb (zgr M 12 27 o) fun r11 => zb r11 fun q13 => zb (zai M q13 a2) fun x14 => zb (zgr M 12 27 o) fun r16 => zb r16 fun q18 => zb (zai M q18 (a1 - a2)) fun x19 => f_185_49 M o a1 a2 x1 x3 ((x14 + x19)))) else none
theorem f_185_ok {M : ZMem} {o : Nat} {a0 : Int32} {a1 : Int32} {a2 : Int32} {out : ZMem} (h : f_185 M o a0 a1 a2 = some out) : zok M 12 o = true := by
  unfold f_185 at h
  by_cases hok : zok M 12 o = true
  · exact hok
  · rw [if_neg hok] at h; cases h
set_option maxRecDepth 20000 in
theorem k_185 (d : Nat) {M : ZMem} {o : Nat} {a0 : Int32} {a1 : Int32} {a2 : Int32} {out : ZMem} (h : f_185 M o a0 a1 a2 = some out) : zrn (d + 4) 185 [zrf (some o), .int a0, .int a1, .int a2] M (none, out) := by
  unfold f_185 at h
  by_cases hok : zok M 12 o = true
  · rw [if_pos hok] at h
    refine zrn_of (L := [(0, zrf (some o)), (1, .int a0), (2, .int a1), (3, .int a2)]) rfl ?_
    refine zo_aload_n (p' := 1) (zi_185 rfl) rfl rfl ?_
    refine zo_iload_n (p' := 2) (zi_185 rfl) rfl rfl ?_
    refine zo_iload_n (p' := 3) (zi_185 rfl) rfl rfl ?_
    refine zo_iload_n (p' := 4) (zi_185 rfl) rfl rfl ?_
    obtain ⟨x1, hx2, g21⟩ := zb_of h
    refine zo_callVi (p' := 7) (t := 12) (as := [.int a0, .int a1, .int a2]) (r := []) (zi_185 rfl) rfl zl_19_331 rfl rfl (Or.inl ⟨by decide, rfl⟩) (Nat.le_of_ble_eq_true rfl) (Nat.le_of_ble_eq_true rfl) (f_183_ok hx2) (k_183 _ hx2) ?_
    refine zo_istore (p' := 9) (L' := [(0, zrf (some o)), (1, .int a0), (2, .int a1), (3, .int a2), (4, .int x1)]) (zi_185 rfl) rfl zm_185_4 ⟨Or.inr ⟨by decide, rfl, fun q => absurd q (by decide)⟩, ⟨Or.inr ⟨by decide, rfl, fun q => absurd q (by decide)⟩, ⟨Or.inr ⟨by decide, rfl, fun q => absurd q (by decide)⟩, ⟨Or.inr ⟨by decide, rfl, fun _ => rfl⟩, ⟨Or.inl ⟨rfl, rfl⟩, trivial⟩⟩⟩⟩⟩ ?_
    refine zo_aload_n (p' := 10) (zi_185 rfl) rfl rfl ?_
    refine zo_iload_n (p' := 11) (zi_185 rfl) rfl rfl ?_
    refine zo_iload_n (p' := 12) (zi_185 rfl) rfl rfl ?_
    refine zo_iload_n (p' := 13) (zi_185 rfl) rfl rfl ?_
    refine zo_isub (p' := 14) (zi_185 rfl) rfl ?_
    obtain ⟨x3, hx4, g22⟩ := zb_of g21
    refine zo_callVi (p' := 17) (t := 12) (as := [.int a2, .int ((a1 - a2))]) (r := []) (zi_185 rfl) rfl zl_19_304 rfl rfl (Or.inl ⟨by decide, rfl⟩) (Nat.le_of_ble_eq_true rfl) (Nat.le_of_ble_eq_true rfl) (f_179_ok hx4) (k_179 _ hx4) ?_
    refine zo_istore (p' := 19) (L' := [(0, zrf (some o)), (1, .int a0), (2, .int a1), (3, .int a2), (4, .int x1), (5, .int x3)]) (zi_185 rfl) rfl zm_185_5 ⟨Or.inr ⟨by decide, rfl, fun q => absurd q (by decide)⟩, ⟨Or.inr ⟨by decide, rfl, fun q => absurd q (by decide)⟩, ⟨Or.inr ⟨by decide, rfl, fun q => absurd q (by decide)⟩, ⟨Or.inr ⟨by decide, rfl, fun q => absurd q (by decide)⟩, ⟨Or.inr ⟨by decide, rfl, fun _ => rfl⟩, ⟨Or.inl ⟨rfl, rfl⟩, trivial⟩⟩⟩⟩⟩⟩ ?_
    refine zo_iload (p' := 21) (zi_185 rfl) rfl rfl ?_
    by_cases hc5 : x1 = 0
    · rw [if_pos hc5] at g22
      refine zo_ifT (p' := 42) (zi_185 rfl) rfl hc5 ?_
      refine zo_aload_n (p' := 43) (zi_185 rfl) rfl rfl ?_
      obtain ⟨r6, hx7, g23⟩ := zb_of g22
      refine zo_getR (p' := 46) (zi_185 rfl) rfl zl_19_93 hx7 ?_
      refine zo_iload (p' := 48) (zi_185 rfl) rfl rfl ?_
      obtain ⟨q8, h0, g24⟩ := zb_of g23
      subst h0
      obtain ⟨x9, hx10, g25⟩ := zb_of g24
      refine zo_iald (p' := 49) (zi_185 rfl) rfl hx10 ?_
      refine zgo_sub (L' := [(0, zrf (some o)), (2, .int a1), (3, .int a2), (4, .int x1), (5, .int x3)]) (⟨rfl, rfl, rfl, rfl, rfl, trivial⟩) ?_
      exact k_185_49 _ M o a1 a2 x1 x3 x9 _ g25
    · rw [if_neg hc5] at g22
      refine zo_ifF (p' := 24) (zi_185 rfl) rfl rfl hc5 ?_
      refine zo_aload_n (p' := 25) (zi_185 rfl) rfl rfl ?_
      obtain ⟨r11, hx12, g26⟩ := zb_of g22
      refine zo_getR (p' := 28) (zi_185 rfl) rfl zl_19_93 hx12 ?_
      refine zo_iload_n (p' := 29) (zi_185 rfl) rfl rfl ?_
      obtain ⟨q13, h0, g27⟩ := zb_of g26
      subst h0
      obtain ⟨x14, hx15, g28⟩ := zb_of g27
      refine zo_iald (p' := 30) (zi_185 rfl) rfl hx15 ?_
      refine zo_aload_n (p' := 31) (zi_185 rfl) rfl rfl ?_
      obtain ⟨r16, hx17, g29⟩ := zb_of g28
      refine zo_getR (p' := 34) (zi_185 rfl) rfl zl_19_93 hx17 ?_
      refine zo_iload_n (p' := 35) (zi_185 rfl) rfl rfl ?_
      refine zo_iload_n (p' := 36) (zi_185 rfl) rfl rfl ?_
      refine zo_isub (p' := 37) (zi_185 rfl) rfl ?_
      obtain ⟨q18, h0, g30⟩ := zb_of g29
      subst h0
      obtain ⟨x19, hx20, g31⟩ := zb_of g30
      refine zo_iald (p' := 38) (zi_185 rfl) rfl hx20 ?_
      refine zo_iadd (p' := 39) (zi_185 rfl) rfl ?_
      refine zo_goto (p' := 49) (zi_185 rfl) rfl ?_
      refine zgo_sub (L' := [(0, zrf (some o)), (2, .int a1), (3, .int a2), (4, .int x1), (5, .int x3)]) (⟨rfl, rfl, rfl, rfl, rfl, trivial⟩) ?_
      exact k_185_49 _ M o a1 a2 x1 x3 ((x14 + x19)) _ g31
  · rw [if_neg hok] at h; cases h
/-- SlateHalvesModel.lay(I)V -/
def f_182_218 (r56 : ZMem → Nat → Int32 → Int32 → Int32 → Int32 → Int32 → Int32 → Option (ZMem)) : Nat → ZMem → Nat → Int32 → Int32 → Int32 → Int32 → Int32 → Int32 → Int32 → Option (ZMem)
  | 0, _, _, _, _, _, _, _, _, _ => none
  | z + 1, M, o, b1, b2, b3, b4, b5, b6, b7 => if b6 ≤ b7 then (r56 M o b1 b2 b3 b4 b5 ((b6 + 1))) else (zb (f_185 M o b1 b6 b7) fun M135 => f_182_218 r56 z M135 o b1 b2 b3 b4 b5 b6 ((b7 + 1)))
def f_182_214 (r56 : ZMem → Nat → Int32 → Int32 → Int32 → Int32 → Int32 → Int32 → Option (ZMem)) (M : ZMem) (o : Nat) (b1 : Int32) (b2 : Int32) (b3 : Int32) (b4 : Int32) (b5 : Int32) (b6 : Int32) (b7 : Int32) (b8 : Int32) (b9 : Option Nat) : Option (ZMem) := zb b9 fun q127 => zb (zsa M 20 q127 b8 b7) fun M128 => f_182_218 (fun M a0 a1 a2 a3 a4 a5 a6 => r56 M a0 a1 a2 a3 a4 a5 a6) zF M128 o b1 b2 b3 b4 b5 b6 1
def f_182_141 (r56 : ZMem → Nat → Int32 → Int32 → Int32 → Int32 → Int32 → Int32 → Option (ZMem)) (M : ZMem) (o : Nat) (b1 : Int32) (b2 : Int32) (b3 : Int32) (b4 : Int32) (b5 : Int32) (b6 : Int32) (b7 : Int32) (b8 : Int32) (b9 : Option Nat) : Option (ZMem) := zb b9 fun q82 => zb (zsa M 20 q82 b8 b7) fun M83 => zb (zgr M83 12 30 o) fun r85 => if b5 < b6 then (zb (f_183 M83 o b1 b6 ((b6 / 2))) fun x88 => if x88 = 0 then (zb (zgr M83 12 30 o) fun r91 => zb r91 fun q93 => zb (zai M83 q93 (b6 - (b6 / 2))) fun x94 => f_182_214 (fun M a0 a1 a2 a3 a4 a5 a6 => r56 M a0 a1 a2 a3 a4 a5 a6) M83 o b1 b2 b3 b4 b5 b6 x94 b6 r85) else (zb (zgr M83 12 30 o) fun r96 => zb r96 fun q98 => zb (zai M83 q98 (b6 / 2)) fun x99 => zb (zgr M83 12 30 o) fun r101 => zb r101 fun q103 => zb (zai M83 q103 (b6 - (b6 / 2))) fun x104 => f_182_214 (fun M a0 a1 a2 a3 a4 a5 a6 => r56 M a0 a1 a2 a3 a4 a5 a6) M83 o b1 b2 b3 b4 b5 b6 ((x99 + x104)) b6 r85)) else (zb (zgr M83 12 27 o) fun r106 => zb r106 fun q108 => zb (zai M83 q108 b6) fun x109 => f_182_214 (fun M a0 a1 a2 a3 a4 a5 a6 => r56 M a0 a1 a2 a3 a4 a5 a6) M83 o b1 b2 b3 b4 b5 b6 x109 b6 r85)
def f_182_108 (r56 : ZMem → Nat → Int32 → Int32 → Int32 → Int32 → Int32 → Int32 → Option (ZMem)) (M : ZMem) (o : Nat) (b1 : Int32) (b2 : Int32) (b3 : Int32) (b4 : Int32) (b5 : Int32) (b6 : Int32) (b7 : Int32) (b8 : Int32) (b9 : Option Nat) : Option (ZMem) := zb b9 fun q62 => zb (zsa M 20 q62 b8 b7) fun M63 => zb (zgr M63 12 28 o) fun r65 => zb r65 fun q67 => zb (zsa M63 20 q67 b6 0) fun M68 => zb (zgr M68 12 29 o) fun r70 => zb (f_147 M68 o b6 b4 b5) fun x72 => if x72 = 0 then (f_182_141 (fun M a0 a1 a2 a3 a4 a5 a6 => r56 M a0 a1 a2 a3 a4 a5 a6) M68 o b1 b2 b3 b4 b5 b6 0 b6 r70) else (f_182_141 (fun M a0 a1 a2 a3 a4 a5 a6 => r56 M a0 a1 a2 a3 a4 a5 a6) M68 o b1 b2 b3 b4 b5 b6 1 b6 r70)
def f_182_107 (r56 : ZMem → Nat → Int32 → Int32 → Int32 → Int32 → Int32 → Int32 → Option (ZMem)) (M : ZMem) (o : Nat) (b1 : Int32) (b2 : Int32) (b3 : Int32) (b4 : Int32) (b5 : Int32) (b6 : Int32) (b7 : Int32) (b8 : Option Nat) : Option (ZMem) := f_182_108 (fun M a0 a1 a2 a3 a4 a5 a6 => r56 M a0 a1 a2 a3 a4 a5 a6) M o b1 b2 b3 b4 b5 b6 0 b7 b8
def f_182_56 : Nat → ZMem → Nat → Int32 → Int32 → Int32 → Int32 → Int32 → Int32 → Option (ZMem)
  | 0, _, _, _, _, _, _, _, _ => none
  | z + 1, M, o, b1, b2, b3, b4, b5, b6 => if b2 < b6 then (some M) else (zb (zgr M 12 27 o) fun r52 => zb (f_147 M o b6 b4 b5) fun x54 => if x54 = 0 then (if b6 ≤ b5 then (f_182_107 (fun M a0 a1 a2 a3 a4 a5 a6 => f_182_56 z M a0 a1 a2 a3 a4 a5 a6) M o b1 b2 b3 b4 b5 b6 b6 r52) else (if (2 * b5) < b6 then (f_182_107 (fun M a0 a1 a2 a3 a4 a5 a6 => f_182_56 z M a0 a1 a2 a3 a4 a5 a6) M o b1 b2 b3 b4 b5 b6 b6 r52) else (f_182_108 (fun M a0 a1 a2 a3 a4 a5 a6 => f_182_56 z M a0 a1 a2 a3 a4 a5 a6) M o b1 b2 b3 b4 b5 b6 ((b3 / 2)) b6 r52))) else (f_182_108 (fun M a0 a1 a2 a3 a4 a5 a6 => f_182_56 z M a0 a1 a2 a3 a4 a5 a6) M o b1 b2 b3 b4 b5 b6 b3 b6 r52))
set_option maxRecDepth 20000 in
theorem k_182_218 (d : Nat) (r56 : ZMem → Nat → Int32 → Int32 → Int32 → Int32 → Int32 → Int32 → Option (ZMem)) (h56 : ∀ (M : ZMem) (a0 : Nat) (a1 : Int32) (a2 : Int32) (a3 : Int32) (a4 : Int32) (a5 : Int32) (a6 : Int32) (out : ZMem), r56 M a0 a1 a2 a3 a4 a5 a6 = some out → zgo none (d + 5) 182 56 [(0, zrf (some a0)), (1, .int a1), (2, .int a2), (3, .int a3), (4, .int a4), (5, .int a5), (6, .int a6)] [] M (none, out)) : ∀ (z : Nat) (M : ZMem) (o : Nat) (b1 : Int32) (b2 : Int32) (b3 : Int32) (b4 : Int32) (b5 : Int32) (b6 : Int32) (b7 : Int32) (out : ZMem), f_182_218 r56 z M o b1 b2 b3 b4 b5 b6 b7 = some out → zgo none (d + 5) 182 218 [(0, zrf (some o)), (1, .int b1), (2, .int b2), (3, .int b3), (4, .int b4), (5, .int b5), (6, .int b6), (8, .int b7)] [] M (none, out) := by
  intro z
  induction z with
  | zero => intro M o b1 b2 b3 b4 b5 b6 b7 out h; cases h
  | succ z ih =>
    intro M o b1 b2 b3 b4 b5 b6 b7 out h
    rw [f_182_218] at h
    refine zo_iload (p' := 220) (zi_182 rfl) rfl rfl ?_
    refine zo_iload (p' := 222) (zi_182 rfl) rfl rfl ?_
    by_cases hc132 : b6 ≤ b7
    · rw [if_pos hc132] at h
      refine zo_icT (p' := 240) (zi_182 rfl) rfl hc132 ?_
      refine zo_iinc (p' := 243) (v := (b6 + 1)) (L' := [(0, zrf (some o)), (1, .int b1), (2, .int b2), (3, .int b3), (4, .int b4), (5, .int b5), (6, .int ((b6 + 1))), (8, .int b7)]) (zi_182 rfl) rfl zm_182_6 rfl rfl ⟨Or.inr ⟨by decide, rfl, fun q => absurd q (by decide)⟩, ⟨Or.inr ⟨by decide, rfl, fun q => absurd q (by decide)⟩, ⟨Or.inr ⟨by decide, rfl, fun q => absurd q (by decide)⟩, ⟨Or.inr ⟨by decide, rfl, fun q => absurd q (by decide)⟩, ⟨Or.inr ⟨by decide, rfl, fun q => absurd q (by decide)⟩, ⟨Or.inr ⟨by decide, rfl, fun _ => rfl⟩, ⟨Or.inl ⟨rfl, rfl⟩, ⟨Or.inr ⟨by decide, rfl, fun q => absurd q (by decide)⟩, trivial⟩⟩⟩⟩⟩⟩⟩⟩ ?_
      refine zo_goto (p' := 56) (zi_182 rfl) rfl ?_
      refine zgo_sub (L' := [(0, zrf (some o)), (1, .int b1), (2, .int b2), (3, .int b3), (4, .int b4), (5, .int b5), (6, .int (((b6 + 1))))]) (⟨rfl, rfl, rfl, rfl, rfl, rfl, rfl, trivial⟩) ?_
      exact h56 M o b1 b2 b3 b4 b5 ((b6 + 1)) _ h
    · rw [if_neg hc132] at h
      refine zo_icF (p' := 225) (zi_182 rfl) rfl rfl hc132 ?_
      refine zo_aload_n (p' := 226) (zi_182 rfl) rfl rfl ?_
      refine zo_iload_n (p' := 227) (zi_182 rfl) rfl rfl ?_
      refine zo_iload (p' := 229) (zi_182 rfl) rfl rfl ?_
      refine zo_iload (p' := 231) (zi_182 rfl) rfl rfl ?_
      obtain ⟨M135, hx134, g136⟩ := zb_of h
      refine zo_callVv (p' := 234) (t := 12) (as := [.int b1, .int b6, .int b7]) (r := []) (zi_182 rfl) rfl zl_19_334 rfl rfl (Or.inl ⟨by decide, rfl⟩) (Nat.le_of_ble_eq_true rfl) (Nat.le_of_ble_eq_true rfl) (f_185_ok hx134) (k_185 _ hx134) ?_
      refine zo_iinc (p' := 237) (v := (b7 + 1)) (L' := [(0, zrf (some o)), (1, .int b1), (2, .int b2), (3, .int b3), (4, .int b4), (5, .int b5), (6, .int b6), (8, .int ((b7 + 1)))]) (zi_182 rfl) rfl zm_182_8 rfl rfl ⟨Or.inr ⟨by decide, rfl, fun q => absurd q (by decide)⟩, ⟨Or.inr ⟨by decide, rfl, fun q => absurd q (by decide)⟩, ⟨Or.inr ⟨by decide, rfl, fun q => absurd q (by decide)⟩, ⟨Or.inr ⟨by decide, rfl, fun q => absurd q (by decide)⟩, ⟨Or.inr ⟨by decide, rfl, fun q => absurd q (by decide)⟩, ⟨Or.inr ⟨by decide, rfl, fun q => absurd q (by decide)⟩, ⟨Or.inr ⟨by decide, rfl, fun q => absurd q (by decide)⟩, ⟨Or.inl ⟨rfl, rfl⟩, trivial⟩⟩⟩⟩⟩⟩⟩⟩ ?_
      refine zo_goto (p' := 218) (zi_182 rfl) rfl ?_
      refine zgo_sub (L' := [(0, zrf (some o)), (1, .int b1), (2, .int b2), (3, .int b3), (4, .int b4), (5, .int b5), (6, .int b6), (8, .int (((b7 + 1))))]) (⟨rfl, rfl, rfl, rfl, rfl, rfl, rfl, rfl, trivial⟩) ?_
      exact ih M135 o b1 b2 b3 b4 b5 b6 ((b7 + 1)) _ g136
set_option maxRecDepth 20000 in
theorem k_182_214 (d : Nat) (r56 : ZMem → Nat → Int32 → Int32 → Int32 → Int32 → Int32 → Int32 → Option (ZMem)) (h56 : ∀ (M : ZMem) (a0 : Nat) (a1 : Int32) (a2 : Int32) (a3 : Int32) (a4 : Int32) (a5 : Int32) (a6 : Int32) (out : ZMem), r56 M a0 a1 a2 a3 a4 a5 a6 = some out → zgo none (d + 5) 182 56 [(0, zrf (some a0)), (1, .int a1), (2, .int a2), (3, .int a3), (4, .int a4), (5, .int a5), (6, .int a6)] [] M (none, out)) : ∀ (M : ZMem) (o : Nat) (b1 : Int32) (b2 : Int32) (b3 : Int32) (b4 : Int32) (b5 : Int32) (b6 : Int32) (b7 : Int32) (b8 : Int32) (b9 : Option Nat) (out : ZMem), f_182_214 r56 M o b1 b2 b3 b4 b5 b6 b7 b8 b9 = some out → zgo none (d + 5) 182 214 [(0, zrf (some o)), (1, .int b1), (2, .int b2), (3, .int b3), (4, .int b4), (5, .int b5), (6, .int b6)] [.int b7, .int b8, zrf b9] M (none, out) := by
  intro M o b1 b2 b3 b4 b5 b6 b7 b8 b9 out h
  unfold f_182_214 at h
  obtain ⟨q127, h0, g130⟩ := zb_of h
  subst h0
  obtain ⟨M128, hx129, g131⟩ := zb_of g130
  refine zo_iast (p' := 215) (zi_182 rfl) rfl hx129 ?_
  refine zo_iconst (p' := 216) (v := 1) (zi_182 rfl) rfl rfl ?_
  refine zo_istore (p' := 218) (L' := [(0, zrf (some o)), (1, .int b1), (2, .int b2), (3, .int b3), (4, .int b4), (5, .int b5), (6, .int b6), (8, .int 1)]) (zi_182 rfl) rfl zm_182_8 ⟨Or.inr ⟨by decide, rfl, fun q => absurd q (by decide)⟩, ⟨Or.inr ⟨by decide, rfl, fun q => absurd q (by decide)⟩, ⟨Or.inr ⟨by decide, rfl, fun q => absurd q (by decide)⟩, ⟨Or.inr ⟨by decide, rfl, fun q => absurd q (by decide)⟩, ⟨Or.inr ⟨by decide, rfl, fun q => absurd q (by decide)⟩, ⟨Or.inr ⟨by decide, rfl, fun q => absurd q (by decide)⟩, ⟨Or.inr ⟨by decide, rfl, fun q => absurd q (by decide)⟩, ⟨Or.inl ⟨rfl, rfl⟩, trivial⟩⟩⟩⟩⟩⟩⟩⟩ ?_
  refine zgo_sub (L' := [(0, zrf (some o)), (1, .int b1), (2, .int b2), (3, .int b3), (4, .int b4), (5, .int b5), (6, .int b6), (8, .int 1)]) (⟨rfl, rfl, rfl, rfl, rfl, rfl, rfl, rfl, trivial⟩) ?_
  exact k_182_218 _ _ (fun M a0 a1 a2 a3 a4 a5 a6 out h => h56 M a0 a1 a2 a3 a4 a5 a6 out h) zF M128 o b1 b2 b3 b4 b5 b6 1 _ g131
set_option maxRecDepth 20000 in
theorem k_182_141 (d : Nat) (r56 : ZMem → Nat → Int32 → Int32 → Int32 → Int32 → Int32 → Int32 → Option (ZMem)) (h56 : ∀ (M : ZMem) (a0 : Nat) (a1 : Int32) (a2 : Int32) (a3 : Int32) (a4 : Int32) (a5 : Int32) (a6 : Int32) (out : ZMem), r56 M a0 a1 a2 a3 a4 a5 a6 = some out → zgo none (d + 5) 182 56 [(0, zrf (some a0)), (1, .int a1), (2, .int a2), (3, .int a3), (4, .int a4), (5, .int a5), (6, .int a6)] [] M (none, out)) : ∀ (M : ZMem) (o : Nat) (b1 : Int32) (b2 : Int32) (b3 : Int32) (b4 : Int32) (b5 : Int32) (b6 : Int32) (b7 : Int32) (b8 : Int32) (b9 : Option Nat) (out : ZMem), f_182_141 r56 M o b1 b2 b3 b4 b5 b6 b7 b8 b9 = some out → zgo none (d + 5) 182 141 [(0, zrf (some o)), (1, .int b1), (2, .int b2), (3, .int b3), (4, .int b4), (5, .int b5), (6, .int b6)] [.int b7, .int b8, zrf b9] M (none, out) := by
  intro M o b1 b2 b3 b4 b5 b6 b7 b8 b9 out h
  unfold f_182_141 at h
  obtain ⟨q82, h0, g111⟩ := zb_of h
  subst h0
  obtain ⟨M83, hx84, g112⟩ := zb_of g111
  refine zo_iast (p' := 142) (zi_182 rfl) rfl hx84 ?_
  refine zo_iload (p' := 144) (zi_182 rfl) rfl rfl ?_
  refine zo_iconst (p' := 145) (v := 2) (zi_182 rfl) rfl rfl ?_
  refine zo_idiv (p' := 146) (zi_182 rfl) rfl (by decide) ?_
  refine zo_istore (p' := 148) (L' := [(0, zrf (some o)), (1, .int b1), (2, .int b2), (3, .int b3), (4, .int b4), (5, .int b5), (6, .int b6), (7, .int ((b6 / 2)))]) (zi_182 rfl) rfl zm_182_7 ⟨Or.inr ⟨by decide, rfl, fun q => absurd q (by decide)⟩, ⟨Or.inr ⟨by decide, rfl, fun q => absurd q (by decide)⟩, ⟨Or.inr ⟨by decide, rfl, fun q => absurd q (by decide)⟩, ⟨Or.inr ⟨by decide, rfl, fun q => absurd q (by decide)⟩, ⟨Or.inr ⟨by decide, rfl, fun q => absurd q (by decide)⟩, ⟨Or.inr ⟨by decide, rfl, fun q => absurd q (by decide)⟩, ⟨Or.inr ⟨by decide, rfl, fun _ => rfl⟩, ⟨Or.inl ⟨rfl, rfl⟩, trivial⟩⟩⟩⟩⟩⟩⟩⟩ ?_
  refine zo_aload_n (p' := 149) (zi_182 rfl) rfl rfl ?_
  obtain ⟨r85, hx86, g113⟩ := zb_of g112
  refine zo_getR (p' := 152) (zi_182 rfl) rfl zl_19_102 hx86 ?_
  refine zo_iload (p' := 154) (zi_182 rfl) rfl rfl ?_
  refine zo_iload (p' := 156) (zi_182 rfl) rfl rfl ?_
  refine zo_iload (p' := 158) (zi_182 rfl) rfl rfl ?_
  by_cases hc87 : b5 < b6
  · rw [if_pos hc87] at g113
    refine zo_icT (p' := 171) (zi_182 rfl) rfl hc87 ?_
    refine zo_aload_n (p' := 172) (zi_182 rfl) rfl rfl ?_
    refine zo_iload_n (p' := 173) (zi_182 rfl) rfl rfl ?_
    refine zo_iload (p' := 175) (zi_182 rfl) rfl rfl ?_
    refine zo_iload (p' := 177) (zi_182 rfl) rfl rfl ?_
    obtain ⟨x88, hx89, g114⟩ := zb_of g113
    refine zo_callVi (p' := 180) (t := 12) (as := [.int b1, .int b6, .int ((b6 / 2))]) (r := [.int b6, zrf r85]) (zi_182 rfl) rfl zl_19_331 rfl rfl (Or.inl ⟨by decide, rfl⟩) (by simp [zrf_cat, zcat_i, zcat_l, zcat_r]) (Nat.le_of_ble_eq_true rfl) (f_183_ok hx89) (k_183 _ hx89) ?_
    by_cases hc90 : x88 = 0
    · rw [if_pos hc90] at g114
      refine zo_ifT (p' := 204) (zi_182 rfl) rfl hc90 ?_
      refine zo_aload_n (p' := 205) (zi_182 rfl) rfl rfl ?_
      obtain ⟨r91, hx92, g115⟩ := zb_of g114
      refine zo_getR (p' := 208) (zi_182 rfl) rfl zl_19_102 hx92 ?_
      refine zo_iload (p' := 210) (zi_182 rfl) rfl rfl ?_
      refine zo_iload (p' := 212) (zi_182 rfl) rfl rfl ?_
      refine zo_isub (p' := 213) (zi_182 rfl) rfl ?_
      obtain ⟨q93, h0, g116⟩ := zb_of g115
      subst h0
      obtain ⟨x94, hx95, g117⟩ := zb_of g116
      refine zo_iald (p' := 214) (zi_182 rfl) rfl hx95 ?_
      refine zgo_sub (L' := [(0, zrf (some o)), (1, .int b1), (2, .int b2), (3, .int b3), (4, .int b4), (5, .int b5), (6, .int b6)]) (⟨rfl, rfl, rfl, rfl, rfl, rfl, rfl, trivial⟩) ?_
      exact k_182_214 _ _ (fun M a0 a1 a2 a3 a4 a5 a6 out h => h56 M a0 a1 a2 a3 a4 a5 a6 out h) M83 o b1 b2 b3 b4 b5 b6 x94 b6 r85 _ g117
    · rw [if_neg hc90] at g114
      refine zo_ifF (p' := 183) (zi_182 rfl) rfl rfl hc90 ?_
      refine zo_aload_n (p' := 184) (zi_182 rfl) rfl rfl ?_
      obtain ⟨r96, hx97, g118⟩ := zb_of g114
      refine zo_getR (p' := 187) (zi_182 rfl) rfl zl_19_102 hx97 ?_
      refine zo_iload (p' := 189) (zi_182 rfl) rfl rfl ?_
      obtain ⟨q98, h0, g119⟩ := zb_of g118
      subst h0
      obtain ⟨x99, hx100, g120⟩ := zb_of g119
      refine zo_iald (p' := 190) (zi_182 rfl) rfl hx100 ?_
      refine zo_aload_n (p' := 191) (zi_182 rfl) rfl rfl ?_
      obtain ⟨r101, hx102, g121⟩ := zb_of g120
      refine zo_getR (p' := 194) (zi_182 rfl) rfl zl_19_102 hx102 ?_
      refine zo_iload (p' := 196) (zi_182 rfl) rfl rfl ?_
      refine zo_iload (p' := 198) (zi_182 rfl) rfl rfl ?_
      refine zo_isub (p' := 199) (zi_182 rfl) rfl ?_
      obtain ⟨q103, h0, g122⟩ := zb_of g121
      subst h0
      obtain ⟨x104, hx105, g123⟩ := zb_of g122
      refine zo_iald (p' := 200) (zi_182 rfl) rfl hx105 ?_
      refine zo_iadd (p' := 201) (zi_182 rfl) rfl ?_
      refine zo_goto (p' := 214) (zi_182 rfl) rfl ?_
      refine zgo_sub (L' := [(0, zrf (some o)), (1, .int b1), (2, .int b2), (3, .int b3), (4, .int b4), (5, .int b5), (6, .int b6)]) (⟨rfl, rfl, rfl, rfl, rfl, rfl, rfl, trivial⟩) ?_
      exact k_182_214 _ _ (fun M a0 a1 a2 a3 a4 a5 a6 out h => h56 M a0 a1 a2 a3 a4 a5 a6 out h) M83 o b1 b2 b3 b4 b5 b6 ((x99 + x104)) b6 r85 _ g123
  · rw [if_neg hc87] at g113
    refine zo_icF (p' := 161) (zi_182 rfl) rfl rfl hc87 ?_
    refine zo_aload_n (p' := 162) (zi_182 rfl) rfl rfl ?_
    obtain ⟨r106, hx107, g124⟩ := zb_of g113
    refine zo_getR (p' := 165) (zi_182 rfl) rfl zl_19_93 hx107 ?_
    refine zo_iload (p' := 167) (zi_182 rfl) rfl rfl ?_
    obtain ⟨q108, h0, g125⟩ := zb_of g124
    subst h0
    obtain ⟨x109, hx110, g126⟩ := zb_of g125
    refine zo_iald (p' := 168) (zi_182 rfl) rfl hx110 ?_
    refine zo_goto (p' := 214) (zi_182 rfl) rfl ?_
    refine zgo_sub (L' := [(0, zrf (some o)), (1, .int b1), (2, .int b2), (3, .int b3), (4, .int b4), (5, .int b5), (6, .int b6)]) (⟨rfl, rfl, rfl, rfl, rfl, rfl, rfl, trivial⟩) ?_
    exact k_182_214 _ _ (fun M a0 a1 a2 a3 a4 a5 a6 out h => h56 M a0 a1 a2 a3 a4 a5 a6 out h) M83 o b1 b2 b3 b4 b5 b6 x109 b6 r85 _ g126
set_option maxRecDepth 20000 in
theorem k_182_108 (d : Nat) (r56 : ZMem → Nat → Int32 → Int32 → Int32 → Int32 → Int32 → Int32 → Option (ZMem)) (h56 : ∀ (M : ZMem) (a0 : Nat) (a1 : Int32) (a2 : Int32) (a3 : Int32) (a4 : Int32) (a5 : Int32) (a6 : Int32) (out : ZMem), r56 M a0 a1 a2 a3 a4 a5 a6 = some out → zgo none (d + 5) 182 56 [(0, zrf (some a0)), (1, .int a1), (2, .int a2), (3, .int a3), (4, .int a4), (5, .int a5), (6, .int a6)] [] M (none, out)) : ∀ (M : ZMem) (o : Nat) (b1 : Int32) (b2 : Int32) (b3 : Int32) (b4 : Int32) (b5 : Int32) (b6 : Int32) (b7 : Int32) (b8 : Int32) (b9 : Option Nat) (out : ZMem), f_182_108 r56 M o b1 b2 b3 b4 b5 b6 b7 b8 b9 = some out → zgo none (d + 5) 182 108 [(0, zrf (some o)), (1, .int b1), (2, .int b2), (3, .int b3), (4, .int b4), (5, .int b5), (6, .int b6)] [.int b7, .int b8, zrf b9] M (none, out) := by
  intro M o b1 b2 b3 b4 b5 b6 b7 b8 b9 out h
  unfold f_182_108 at h
  obtain ⟨q62, h0, g75⟩ := zb_of h
  subst h0
  obtain ⟨M63, hx64, g76⟩ := zb_of g75
  refine zo_iast (p' := 109) (zi_182 rfl) rfl hx64 ?_
  refine zo_aload_n (p' := 110) (zi_182 rfl) rfl rfl ?_
  obtain ⟨r65, hx66, g77⟩ := zb_of g76
  refine zo_getR (p' := 113) (zi_182 rfl) rfl zl_19_96 hx66 ?_
  refine zo_iload (p' := 115) (zi_182 rfl) rfl rfl ?_
  refine zo_iconst (p' := 116) (v := 0) (zi_182 rfl) rfl rfl ?_
  obtain ⟨q67, h0, g78⟩ := zb_of g77
  subst h0
  obtain ⟨M68, hx69, g79⟩ := zb_of g78
  refine zo_iast (p' := 117) (zi_182 rfl) rfl hx69 ?_
  refine zo_aload_n (p' := 118) (zi_182 rfl) rfl rfl ?_
  obtain ⟨r70, hx71, g80⟩ := zb_of g79
  refine zo_getR (p' := 121) (zi_182 rfl) rfl zl_19_99 hx71 ?_
  refine zo_iload (p' := 123) (zi_182 rfl) rfl rfl ?_
  refine zo_aload_n (p' := 124) (zi_182 rfl) rfl rfl ?_
  refine zo_iload (p' := 126) (zi_182 rfl) rfl rfl ?_
  refine zo_iload (p' := 128) (zi_182 rfl) rfl rfl ?_
  refine zo_iload (p' := 130) (zi_182 rfl) rfl rfl ?_
  obtain ⟨x72, hx73, g81⟩ := zb_of g80
  refine zo_callVi (p' := 133) (t := 12) (as := [.int b6, .int b4, .int b5]) (r := [.int b6, zrf r70]) (zi_182 rfl) rfl zl_19_239 rfl rfl (Or.inl ⟨by decide, rfl⟩) (by simp [zrf_cat, zcat_i, zcat_l, zcat_r]) (Nat.le_of_ble_eq_true rfl) (f_147_ok hx73) (k_147 _ hx73) ?_
  by_cases hc74 : x72 = 0
  · rw [if_pos hc74] at g81
    refine zo_ifT (p' := 140) (zi_182 rfl) rfl hc74 ?_
    refine zo_iconst (p' := 141) (v := 0) (zi_182 rfl) rfl rfl ?_
    refine zgo_sub (L' := [(0, zrf (some o)), (1, .int b1), (2, .int b2), (3, .int b3), (4, .int b4), (5, .int b5), (6, .int b6)]) (⟨rfl, rfl, rfl, rfl, rfl, rfl, rfl, trivial⟩) ?_
    exact k_182_141 _ _ (fun M a0 a1 a2 a3 a4 a5 a6 out h => h56 M a0 a1 a2 a3 a4 a5 a6 out h) M68 o b1 b2 b3 b4 b5 b6 0 b6 r70 _ g81
  · rw [if_neg hc74] at g81
    refine zo_ifF (p' := 136) (zi_182 rfl) rfl rfl hc74 ?_
    refine zo_iconst (p' := 137) (v := 1) (zi_182 rfl) rfl rfl ?_
    refine zo_goto (p' := 141) (zi_182 rfl) rfl ?_
    refine zgo_sub (L' := [(0, zrf (some o)), (1, .int b1), (2, .int b2), (3, .int b3), (4, .int b4), (5, .int b5), (6, .int b6)]) (⟨rfl, rfl, rfl, rfl, rfl, rfl, rfl, trivial⟩) ?_
    exact k_182_141 _ _ (fun M a0 a1 a2 a3 a4 a5 a6 out h => h56 M a0 a1 a2 a3 a4 a5 a6 out h) M68 o b1 b2 b3 b4 b5 b6 1 b6 r70 _ g81
set_option maxRecDepth 20000 in
theorem k_182_107 (d : Nat) (r56 : ZMem → Nat → Int32 → Int32 → Int32 → Int32 → Int32 → Int32 → Option (ZMem)) (h56 : ∀ (M : ZMem) (a0 : Nat) (a1 : Int32) (a2 : Int32) (a3 : Int32) (a4 : Int32) (a5 : Int32) (a6 : Int32) (out : ZMem), r56 M a0 a1 a2 a3 a4 a5 a6 = some out → zgo none (d + 5) 182 56 [(0, zrf (some a0)), (1, .int a1), (2, .int a2), (3, .int a3), (4, .int a4), (5, .int a5), (6, .int a6)] [] M (none, out)) : ∀ (M : ZMem) (o : Nat) (b1 : Int32) (b2 : Int32) (b3 : Int32) (b4 : Int32) (b5 : Int32) (b6 : Int32) (b7 : Int32) (b8 : Option Nat) (out : ZMem), f_182_107 r56 M o b1 b2 b3 b4 b5 b6 b7 b8 = some out → zgo none (d + 5) 182 107 [(0, zrf (some o)), (1, .int b1), (2, .int b2), (3, .int b3), (4, .int b4), (5, .int b5), (6, .int b6)] [.int b7, zrf b8] M (none, out) := by
  intro M o b1 b2 b3 b4 b5 b6 b7 b8 out h
  unfold f_182_107 at h
  refine zo_iconst (p' := 108) (v := 0) (zi_182 rfl) rfl rfl ?_
  refine zgo_sub (L' := [(0, zrf (some o)), (1, .int b1), (2, .int b2), (3, .int b3), (4, .int b4), (5, .int b5), (6, .int b6)]) (⟨rfl, rfl, rfl, rfl, rfl, rfl, rfl, trivial⟩) ?_
  exact k_182_108 _ _ (fun M a0 a1 a2 a3 a4 a5 a6 out h => h56 M a0 a1 a2 a3 a4 a5 a6 out h) M o b1 b2 b3 b4 b5 b6 0 b7 b8 _ h
set_option maxRecDepth 20000 in
theorem k_182_56 (d : Nat) : ∀ (z : Nat) (M : ZMem) (o : Nat) (b1 : Int32) (b2 : Int32) (b3 : Int32) (b4 : Int32) (b5 : Int32) (b6 : Int32) (out : ZMem), f_182_56 z M o b1 b2 b3 b4 b5 b6 = some out → zgo none (d + 5) 182 56 [(0, zrf (some o)), (1, .int b1), (2, .int b2), (3, .int b3), (4, .int b4), (5, .int b5), (6, .int b6)] [] M (none, out) := by
  intro z
  induction z with
  | zero => intro M o b1 b2 b3 b4 b5 b6 out h; cases h
  | succ z ih =>
    intro M o b1 b2 b3 b4 b5 b6 out h
    rw [f_182_56] at h
    refine zo_iload (p' := 58) (zi_182 rfl) rfl rfl ?_
    refine zo_iload_n (p' := 59) (zi_182 rfl) rfl rfl ?_
    by_cases hc51 : b2 < b6
    · rw [if_pos hc51] at h
      refine zo_icT (p' := 246) (zi_182 rfl) rfl hc51 ?_
      have g59 := Option.some.inj h
      subst g59
      exact zo_vret (zi_182 rfl) rfl
    · rw [if_neg hc51] at h
      refine zo_icF (p' := 62) (zi_182 rfl) rfl rfl hc51 ?_
      refine zo_aload_n (p' := 63) (zi_182 rfl) rfl rfl ?_
      obtain ⟨r52, hx53, g60⟩ := zb_of h
      refine zo_getR (p' := 66) (zi_182 rfl) rfl zl_19_93 hx53 ?_
      refine zo_iload (p' := 68) (zi_182 rfl) rfl rfl ?_
      refine zo_aload_n (p' := 69) (zi_182 rfl) rfl rfl ?_
      refine zo_iload (p' := 71) (zi_182 rfl) rfl rfl ?_
      refine zo_iload (p' := 73) (zi_182 rfl) rfl rfl ?_
      refine zo_iload (p' := 75) (zi_182 rfl) rfl rfl ?_
      obtain ⟨x54, hx55, g61⟩ := zb_of g60
      refine zo_callVi (p' := 78) (t := 12) (as := [.int b6, .int b4, .int b5]) (r := [.int b6, zrf r52]) (zi_182 rfl) rfl zl_19_239 rfl rfl (Or.inl ⟨by decide, rfl⟩) (by simp [zrf_cat, zcat_i, zcat_l, zcat_r]) (Nat.le_of_ble_eq_true rfl) (f_147_ok hx55) (k_147 _ hx55) ?_
      by_cases hc56 : x54 = 0
      · rw [if_pos hc56] at g61
        refine zo_ifT (p' := 85) (zi_182 rfl) rfl hc56 ?_
        refine zo_iload (p' := 87) (zi_182 rfl) rfl rfl ?_
        refine zo_iload (p' := 89) (zi_182 rfl) rfl rfl ?_
        by_cases hc57 : b6 ≤ b5
        · rw [if_pos hc57] at g61
          refine zo_icT (p' := 107) (zi_182 rfl) rfl hc57 ?_
          refine zgo_sub (L' := [(0, zrf (some o)), (1, .int b1), (2, .int b2), (3, .int b3), (4, .int b4), (5, .int b5), (6, .int b6)]) (⟨rfl, rfl, rfl, rfl, rfl, rfl, rfl, trivial⟩) ?_
          exact k_182_107 _ _ (fun M a0 a1 a2 a3 a4 a5 a6 out h => ih M a0 a1 a2 a3 a4 a5 a6 out h) M o b1 b2 b3 b4 b5 b6 b6 r52 _ g61
        · rw [if_neg hc57] at g61
          refine zo_icF (p' := 92) (zi_182 rfl) rfl rfl hc57 ?_
          refine zo_iload (p' := 94) (zi_182 rfl) rfl rfl ?_
          refine zo_iconst (p' := 95) (v := 2) (zi_182 rfl) rfl rfl ?_
          refine zo_iload (p' := 97) (zi_182 rfl) rfl rfl ?_
          refine zo_imul (p' := 98) (zi_182 rfl) rfl ?_
          by_cases hc58 : (2 * b5) < b6
          · rw [if_pos hc58] at g61
            refine zo_icT (p' := 107) (zi_182 rfl) rfl hc58 ?_
            refine zgo_sub (L' := [(0, zrf (some o)), (1, .int b1), (2, .int b2), (3, .int b3), (4, .int b4), (5, .int b5), (6, .int b6)]) (⟨rfl, rfl, rfl, rfl, rfl, rfl, rfl, trivial⟩) ?_
            exact k_182_107 _ _ (fun M a0 a1 a2 a3 a4 a5 a6 out h => ih M a0 a1 a2 a3 a4 a5 a6 out h) M o b1 b2 b3 b4 b5 b6 b6 r52 _ g61
          · rw [if_neg hc58] at g61
            refine zo_icF (p' := 101) (zi_182 rfl) rfl rfl hc58 ?_
            refine zo_iload_n (p' := 102) (zi_182 rfl) rfl rfl ?_
            refine zo_iconst (p' := 103) (v := 2) (zi_182 rfl) rfl rfl ?_
            refine zo_idiv (p' := 104) (zi_182 rfl) rfl (by decide) ?_
            refine zo_goto (p' := 108) (zi_182 rfl) rfl ?_
            refine zgo_sub (L' := [(0, zrf (some o)), (1, .int b1), (2, .int b2), (3, .int b3), (4, .int b4), (5, .int b5), (6, .int b6)]) (⟨rfl, rfl, rfl, rfl, rfl, rfl, rfl, trivial⟩) ?_
            exact k_182_108 _ _ (fun M a0 a1 a2 a3 a4 a5 a6 out h => ih M a0 a1 a2 a3 a4 a5 a6 out h) M o b1 b2 b3 b4 b5 b6 ((b3 / 2)) b6 r52 _ g61
      · rw [if_neg hc56] at g61
        refine zo_ifF (p' := 81) (zi_182 rfl) rfl rfl hc56 ?_
        refine zo_iload_n (p' := 82) (zi_182 rfl) rfl rfl ?_
        refine zo_goto (p' := 108) (zi_182 rfl) rfl ?_
        refine zgo_sub (L' := [(0, zrf (some o)), (1, .int b1), (2, .int b2), (3, .int b3), (4, .int b4), (5, .int b5), (6, .int b6)]) (⟨rfl, rfl, rfl, rfl, rfl, rfl, rfl, trivial⟩) ?_
        exact k_182_108 _ _ (fun M a0 a1 a2 a3 a4 a5 a6 out h => ih M a0 a1 a2 a3 a4 a5 a6 out h) M o b1 b2 b3 b4 b5 b6 b3 b6 r52 _ g61
def f_182 (M : ZMem) (o : Nat) (a0 : Int32) : Option (ZMem) := if zok M 12 o = true then (zb (zgr M 12 5 o) fun r1 => zb r1 fun q3 => zb (zai M q3 a0) fun x4 => zbd (f_168 M o a0) fun x6 M8 => zb (f_178 M8 o) fun x9 => zb (f_180 M8 o) fun x11 => zb (zgr M8 12 27 o) fun r13 => zb r13 fun q15 => zb (zsa M8 20 q15 0 0) fun M16 => zb (zgr M16 12 28 o) fun r18 => zb r18 fun q20 => zb (zsa M16 20 q20 0 0) fun M21 => zb (zgr M21 12 29 o) fun r23 => zb r23 fun q25 => zb (zsa M21 20 q25 0 0) fun M26 => zb (zgr M26 12 30 o) fun r28 => zb r28 fun q30 => zb (zsa M26 20 q30 0 0) fun M31 => f_182_56 zF M31 o a0 x4 x6 x9 x11 1) else none
theorem f_182_ok {M : ZMem} {o : Nat} {a0 : Int32} {out : ZMem} (h : f_182 M o a0 = some out) : zok M 12 o = true := by
  unfold f_182 at h
  by_cases hok : zok M 12 o = true
  · exact hok
  · rw [if_neg hok] at h; cases h
set_option maxRecDepth 20000 in
theorem k_182 (d : Nat) {M : ZMem} {o : Nat} {a0 : Int32} {out : ZMem} (h : f_182 M o a0 = some out) : zrn (d + 5) 182 [zrf (some o), .int a0] M (none, out) := by
  unfold f_182 at h
  by_cases hok : zok M 12 o = true
  · rw [if_pos hok] at h
    refine zrn_of (L := [(0, zrf (some o)), (1, .int a0)]) rfl ?_
    refine zo_aload_n (p' := 1) (zi_182 rfl) rfl rfl ?_
    obtain ⟨r1, hx2, g33⟩ := zb_of h
    refine zo_getR (p' := 4) (zi_182 rfl) rfl zl_19_26 hx2 ?_
    refine zo_iload_n (p' := 5) (zi_182 rfl) rfl rfl ?_
    obtain ⟨q3, h0, g34⟩ := zb_of g33
    subst h0
    obtain ⟨x4, hx5, g35⟩ := zb_of g34
    refine zo_iald (p' := 6) (zi_182 rfl) rfl hx5 ?_
    refine zo_istore_n (p' := 7) (L' := [(0, zrf (some o)), (1, .int a0), (2, .int x4)]) (zi_182 rfl) rfl zm_182_2 ⟨Or.inr ⟨by decide, rfl, fun q => absurd q (by decide)⟩, ⟨Or.inr ⟨by decide, rfl, fun _ => rfl⟩, ⟨Or.inl ⟨rfl, rfl⟩, trivial⟩⟩⟩ ?_
    refine zo_aload_n (p' := 8) (zi_182 rfl) rfl rfl ?_
    refine zo_iload_n (p' := 9) (zi_182 rfl) rfl rfl ?_
    obtain ⟨x6, M8, hx7, g36⟩ := zbd_of g35
    refine zo_callVi (p' := 12) (t := 12) (as := [.int a0]) (r := []) (zi_182 rfl) rfl zl_19_328 rfl rfl (Or.inl ⟨by decide, rfl⟩) (Nat.le_of_ble_eq_true rfl) (Nat.le_of_ble_eq_true rfl) (f_168_ok hx7) (k_168 _ hx7) ?_
    refine zo_istore_n (p' := 13) (L' := [(0, zrf (some o)), (1, .int a0), (2, .int x4), (3, .int x6)]) (zi_182 rfl) rfl zm_182_3 ⟨Or.inr ⟨by decide, rfl, fun q => absurd q (by decide)⟩, ⟨Or.inr ⟨by decide, rfl, fun q => absurd q (by decide)⟩, ⟨Or.inr ⟨by decide, rfl, fun _ => rfl⟩, ⟨Or.inl ⟨rfl, rfl⟩, trivial⟩⟩⟩⟩ ?_
    refine zo_aload_n (p' := 14) (zi_182 rfl) rfl rfl ?_
    obtain ⟨x9, hx10, g37⟩ := zb_of g36
    refine zo_callVi (p' := 17) (t := 12) (as := []) (r := []) (zi_182 rfl) rfl zl_19_307 rfl rfl (Or.inl ⟨by decide, rfl⟩) (Nat.le_of_ble_eq_true rfl) (Nat.le_of_ble_eq_true rfl) (f_178_ok hx10) (k_178 _ hx10) ?_
    refine zo_istore (p' := 19) (L' := [(0, zrf (some o)), (1, .int a0), (2, .int x4), (3, .int x6), (4, .int x9)]) (zi_182 rfl) rfl zm_182_4 ⟨Or.inr ⟨by decide, rfl, fun q => absurd q (by decide)⟩, ⟨Or.inr ⟨by decide, rfl, fun q => absurd q (by decide)⟩, ⟨Or.inr ⟨by decide, rfl, fun q => absurd q (by decide)⟩, ⟨Or.inr ⟨by decide, rfl, fun _ => rfl⟩, ⟨Or.inl ⟨rfl, rfl⟩, trivial⟩⟩⟩⟩⟩ ?_
    refine zo_aload_n (p' := 20) (zi_182 rfl) rfl rfl ?_
    obtain ⟨x11, hx12, g38⟩ := zb_of g37
    refine zo_callVi (p' := 23) (t := 12) (as := []) (r := []) (zi_182 rfl) rfl zl_19_325 rfl rfl (Or.inl ⟨by decide, rfl⟩) (Nat.le_of_ble_eq_true rfl) (Nat.le_of_ble_eq_true rfl) (f_180_ok hx12) (k_180 _ hx12) ?_
    refine zo_istore (p' := 25) (L' := [(0, zrf (some o)), (1, .int a0), (2, .int x4), (3, .int x6), (4, .int x9), (5, .int x11)]) (zi_182 rfl) rfl zm_182_5 ⟨Or.inr ⟨by decide, rfl, fun q => absurd q (by decide)⟩, ⟨Or.inr ⟨by decide, rfl, fun q => absurd q (by decide)⟩, ⟨Or.inr ⟨by decide, rfl, fun q => absurd q (by decide)⟩, ⟨Or.inr ⟨by decide, rfl, fun q => absurd q (by decide)⟩, ⟨Or.inr ⟨by decide, rfl, fun _ => rfl⟩, ⟨Or.inl ⟨rfl, rfl⟩, trivial⟩⟩⟩⟩⟩⟩ ?_
    refine zo_aload_n (p' := 26) (zi_182 rfl) rfl rfl ?_
    obtain ⟨r13, hx14, g39⟩ := zb_of g38
    refine zo_getR (p' := 29) (zi_182 rfl) rfl zl_19_93 hx14 ?_
    refine zo_iconst (p' := 30) (v := 0) (zi_182 rfl) rfl rfl ?_
    refine zo_iconst (p' := 31) (v := 0) (zi_182 rfl) rfl rfl ?_
    obtain ⟨q15, h0, g40⟩ := zb_of g39
    subst h0
    obtain ⟨M16, hx17, g41⟩ := zb_of g40
    refine zo_iast (p' := 32) (zi_182 rfl) rfl hx17 ?_
    refine zo_aload_n (p' := 33) (zi_182 rfl) rfl rfl ?_
    obtain ⟨r18, hx19, g42⟩ := zb_of g41
    refine zo_getR (p' := 36) (zi_182 rfl) rfl zl_19_96 hx19 ?_
    refine zo_iconst (p' := 37) (v := 0) (zi_182 rfl) rfl rfl ?_
    refine zo_iconst (p' := 38) (v := 0) (zi_182 rfl) rfl rfl ?_
    obtain ⟨q20, h0, g43⟩ := zb_of g42
    subst h0
    obtain ⟨M21, hx22, g44⟩ := zb_of g43
    refine zo_iast (p' := 39) (zi_182 rfl) rfl hx22 ?_
    refine zo_aload_n (p' := 40) (zi_182 rfl) rfl rfl ?_
    obtain ⟨r23, hx24, g45⟩ := zb_of g44
    refine zo_getR (p' := 43) (zi_182 rfl) rfl zl_19_99 hx24 ?_
    refine zo_iconst (p' := 44) (v := 0) (zi_182 rfl) rfl rfl ?_
    refine zo_iconst (p' := 45) (v := 0) (zi_182 rfl) rfl rfl ?_
    obtain ⟨q25, h0, g46⟩ := zb_of g45
    subst h0
    obtain ⟨M26, hx27, g47⟩ := zb_of g46
    refine zo_iast (p' := 46) (zi_182 rfl) rfl hx27 ?_
    refine zo_aload_n (p' := 47) (zi_182 rfl) rfl rfl ?_
    obtain ⟨r28, hx29, g48⟩ := zb_of g47
    refine zo_getR (p' := 50) (zi_182 rfl) rfl zl_19_102 hx29 ?_
    refine zo_iconst (p' := 51) (v := 0) (zi_182 rfl) rfl rfl ?_
    refine zo_iconst (p' := 52) (v := 0) (zi_182 rfl) rfl rfl ?_
    obtain ⟨q30, h0, g49⟩ := zb_of g48
    subst h0
    obtain ⟨M31, hx32, g50⟩ := zb_of g49
    refine zo_iast (p' := 53) (zi_182 rfl) rfl hx32 ?_
    refine zo_iconst (p' := 54) (v := 1) (zi_182 rfl) rfl rfl ?_
    refine zo_istore (p' := 56) (L' := [(0, zrf (some o)), (1, .int a0), (2, .int x4), (3, .int x6), (4, .int x9), (5, .int x11), (6, .int 1)]) (zi_182 rfl) rfl zm_182_6 ⟨Or.inr ⟨by decide, rfl, fun q => absurd q (by decide)⟩, ⟨Or.inr ⟨by decide, rfl, fun q => absurd q (by decide)⟩, ⟨Or.inr ⟨by decide, rfl, fun q => absurd q (by decide)⟩, ⟨Or.inr ⟨by decide, rfl, fun q => absurd q (by decide)⟩, ⟨Or.inr ⟨by decide, rfl, fun q => absurd q (by decide)⟩, ⟨Or.inr ⟨by decide, rfl, fun _ => rfl⟩, ⟨Or.inl ⟨rfl, rfl⟩, trivial⟩⟩⟩⟩⟩⟩⟩ ?_
    refine zgo_sub (L' := [(0, zrf (some o)), (1, .int a0), (2, .int x4), (3, .int x6), (4, .int x9), (5, .int x11), (6, .int 1)]) (⟨rfl, rfl, rfl, rfl, rfl, rfl, rfl, trivial⟩) ?_
    exact k_182_56 _ zF M31 o a0 x4 x6 x9 x11 1 _ g50
  · rw [if_neg hok] at h; cases h
/-- SlateHalvesModel.laid(II)I -/
def f_181 (M : ZMem) (o : Nat) (a0 : Int32) (a1 : Int32) : Option (Int32 × ZMem) := if zok M 12 o = true then (zb (f_182 M o a0) fun M3 => zb (zgr M3 12 5 o) fun r4 => zb r4 fun q6 => zb (zai M3 q6 a0) fun x7 => if ¬ a1 = 9 then (if ¬ a1 = 10 then (if ¬ a1 = 11 then (zb (zgr M3 12 30 o) fun r12 => zb r12 fun q14 => zb (zai M3 q14 x7) fun x15 => some (x15, M3)) else (zb (zgr M3 12 29 o) fun r17 => zb r17 fun q19 => zb (zai M3 q19 x7) fun x20 => some (x20, M3))) else (zb (zgr M3 12 28 o) fun r22 => zb r22 fun q24 => zb (zai M3 q24 x7) fun x25 => some (x25, M3))) else (zb (zgr M3 12 27 o) fun r27 => zb r27 fun q29 => zb (zai M3 q29 x7) fun x30 => some (x30, M3))) else none
theorem f_181_ok {M : ZMem} {o : Nat} {a0 : Int32} {a1 : Int32} {out : Int32 × ZMem} (h : f_181 M o a0 a1 = some out) : zok M 12 o = true := by
  unfold f_181 at h
  by_cases hok : zok M 12 o = true
  · exact hok
  · rw [if_neg hok] at h; cases h
set_option maxRecDepth 20000 in
theorem k_181 (d : Nat) {M : ZMem} {o : Nat} {a0 : Int32} {a1 : Int32} {out : Int32 × ZMem} (h : f_181 M o a0 a1 = some out) : zrn (d + 6) 181 [zrf (some o), .int a0, .int a1] M (some (.int out.1), out.2) := by
  unfold f_181 at h
  by_cases hok : zok M 12 o = true
  · rw [if_pos hok] at h
    refine zrn_of (L := [(0, zrf (some o)), (1, .int a0), (2, .int a1)]) rfl ?_
    refine zo_aload_n (p' := 1) (zi_181 rfl) rfl rfl ?_
    refine zo_iload_n (p' := 2) (zi_181 rfl) rfl rfl ?_
    obtain ⟨M3, hx2, g32⟩ := zb_of h
    refine zo_callVv (p' := 5) (t := 12) (as := [.int a0]) (r := []) (zi_181 rfl) rfl zl_19_338 rfl rfl (Or.inl ⟨by decide, rfl⟩) (Nat.le_of_ble_eq_true rfl) (Nat.le_of_ble_eq_true rfl) (f_182_ok hx2) (k_182 _ hx2) ?_
    refine zo_aload_n (p' := 6) (zi_181 rfl) rfl rfl ?_
    obtain ⟨r4, hx5, g33⟩ := zb_of g32
    refine zo_getR (p' := 9) (zi_181 rfl) rfl zl_19_26 hx5 ?_
    refine zo_iload_n (p' := 10) (zi_181 rfl) rfl rfl ?_
    obtain ⟨q6, h0, g34⟩ := zb_of g33
    subst h0
    obtain ⟨x7, hx8, g35⟩ := zb_of g34
    refine zo_iald (p' := 11) (zi_181 rfl) rfl hx8 ?_
    refine zo_istore_n (p' := 12) (L' := [(0, zrf (some o)), (1, .int a0), (2, .int a1), (3, .int x7)]) (zi_181 rfl) rfl zm_181_3 ⟨Or.inr ⟨by decide, rfl, fun q => absurd q (by decide)⟩, ⟨Or.inr ⟨by decide, rfl, fun q => absurd q (by decide)⟩, ⟨Or.inr ⟨by decide, rfl, fun _ => rfl⟩, ⟨Or.inl ⟨rfl, rfl⟩, trivial⟩⟩⟩⟩ ?_
    refine zo_iload_n (p' := 13) (zi_181 rfl) rfl rfl ?_
    refine zo_bipush (p' := 15) (v := 9) (zi_181 rfl) rfl rfl ?_
    by_cases hc9 : ¬ a1 = 9
    · rw [if_pos hc9] at g35
      refine zo_icT (p' := 27) (zi_181 rfl) rfl hc9 ?_
      refine zo_iload_n (p' := 28) (zi_181 rfl) rfl rfl ?_
      refine zo_bipush (p' := 30) (v := 10) (zi_181 rfl) rfl rfl ?_
      by_cases hc10 : ¬ a1 = 10
      · rw [if_pos hc10] at g35
        refine zo_icT (p' := 42) (zi_181 rfl) rfl hc10 ?_
        refine zo_iload_n (p' := 43) (zi_181 rfl) rfl rfl ?_
        refine zo_bipush (p' := 45) (v := 11) (zi_181 rfl) rfl rfl ?_
        by_cases hc11 : ¬ a1 = 11
        · rw [if_pos hc11] at g35
          refine zo_icT (p' := 57) (zi_181 rfl) rfl hc11 ?_
          refine zo_aload_n (p' := 58) (zi_181 rfl) rfl rfl ?_
          obtain ⟨r12, hx13, g36⟩ := zb_of g35
          refine zo_getR (p' := 61) (zi_181 rfl) rfl zl_19_102 hx13 ?_
          refine zo_iload_n (p' := 62) (zi_181 rfl) rfl rfl ?_
          obtain ⟨q14, h0, g37⟩ := zb_of g36
          subst h0
          obtain ⟨x15, hx16, g38⟩ := zb_of g37
          refine zo_iald (p' := 63) (zi_181 rfl) rfl hx16 ?_
          have g39 := Option.some.inj g38
          subst g39
          exact zo_iret (zi_181 rfl) rfl ⟨rfl, rfl⟩
        · rw [if_neg hc11] at g35
          refine zo_icF (p' := 48) (zi_181 rfl) rfl rfl hc11 ?_
          refine zo_aload_n (p' := 49) (zi_181 rfl) rfl rfl ?_
          obtain ⟨r17, hx18, g40⟩ := zb_of g35
          refine zo_getR (p' := 52) (zi_181 rfl) rfl zl_19_99 hx18 ?_
          refine zo_iload_n (p' := 53) (zi_181 rfl) rfl rfl ?_
          obtain ⟨q19, h0, g41⟩ := zb_of g40
          subst h0
          obtain ⟨x20, hx21, g42⟩ := zb_of g41
          refine zo_iald (p' := 54) (zi_181 rfl) rfl hx21 ?_
          refine zo_goto (p' := 63) (zi_181 rfl) rfl ?_
          have g43 := Option.some.inj g42
          subst g43
          exact zo_iret (zi_181 rfl) rfl ⟨rfl, rfl⟩
      · rw [if_neg hc10] at g35
        refine zo_icF (p' := 33) (zi_181 rfl) rfl rfl hc10 ?_
        refine zo_aload_n (p' := 34) (zi_181 rfl) rfl rfl ?_
        obtain ⟨r22, hx23, g44⟩ := zb_of g35
        refine zo_getR (p' := 37) (zi_181 rfl) rfl zl_19_96 hx23 ?_
        refine zo_iload_n (p' := 38) (zi_181 rfl) rfl rfl ?_
        obtain ⟨q24, h0, g45⟩ := zb_of g44
        subst h0
        obtain ⟨x25, hx26, g46⟩ := zb_of g45
        refine zo_iald (p' := 39) (zi_181 rfl) rfl hx26 ?_
        refine zo_goto (p' := 63) (zi_181 rfl) rfl ?_
        have g47 := Option.some.inj g46
        subst g47
        exact zo_iret (zi_181 rfl) rfl ⟨rfl, rfl⟩
    · rw [if_neg hc9] at g35
      refine zo_icF (p' := 18) (zi_181 rfl) rfl rfl hc9 ?_
      refine zo_aload_n (p' := 19) (zi_181 rfl) rfl rfl ?_
      obtain ⟨r27, hx28, g48⟩ := zb_of g35
      refine zo_getR (p' := 22) (zi_181 rfl) rfl zl_19_93 hx28 ?_
      refine zo_iload_n (p' := 23) (zi_181 rfl) rfl rfl ?_
      obtain ⟨q29, h0, g49⟩ := zb_of g48
      subst h0
      obtain ⟨x30, hx31, g50⟩ := zb_of g49
      refine zo_iald (p' := 24) (zi_181 rfl) rfl hx31 ?_
      refine zo_goto (p' := 63) (zi_181 rfl) rfl ?_
      have g51 := Option.some.inj g50
      subst g51
      exact zo_iret (zi_181 rfl) rfl ⟨rfl, rfl⟩
  · rw [if_neg hok] at h; cases h
/-- SlateHalvesModel.blow(I)I -/
def f_186_66 (r25 : ZMem → Nat → Int32 → Int32 → Int32 → Option (Int32 × ZMem)) (M : ZMem) (o : Nat) (b1 : Int32) (b2 : Int32) (b3 : Int32) (b4 : Int32) : Option (Int32 × ZMem) := zb (zgr M 12 27 o) fun r54 => zb r54 fun q56 => zb (zai M q56 b2) fun x57 => if x57 ≤ b4 then (some (b3, M)) else (r25 M o b1 b2 ((b3 + 1)))
def f_186_25 : Nat → ZMem → Nat → Int32 → Int32 → Int32 → Option (Int32 × ZMem)
  | 0, _, _, _, _, _ => none
  | z + 1, M, o, b1, b2, b3 => zb (f_183 M o b1 b2 b3) fun x23 => if x23 = 0 then (zb (zgr M 12 27 o) fun r26 => zb (f_179 M o b3 ((b2 - b3))) fun x28 => zb r26 fun q30 => zb (zai M q30 x28) fun x31 => f_186_66 (fun M a0 a1 a2 a3 => f_186_25 z M a0 a1 a2 a3) M o b1 b2 b3 x31) else (zb (zgr M 12 27 o) fun r33 => zb r33 fun q35 => zb (zai M q35 b3) fun x36 => zb (zgr M 12 27 o) fun r38 => zb r38 fun q40 => zb (zai M q40 (b2 - b3)) fun x41 => f_186_66 (fun M a0 a1 a2 a3 => f_186_25 z M a0 a1 a2 a3) M o b1 b2 b3 ((x36 + x41)))
set_option maxRecDepth 20000 in
theorem k_186_66 (d : Nat) (r25 : ZMem → Nat → Int32 → Int32 → Int32 → Option (Int32 × ZMem)) (h25 : ∀ (M : ZMem) (a0 : Nat) (a1 : Int32) (a2 : Int32) (a3 : Int32) (out : Int32 × ZMem), r25 M a0 a1 a2 a3 = some out → zgo none (d + 6) 186 25 [(0, zrf (some a0)), (1, .int a1), (2, .int a2), (3, .int a3)] [] M (some (.int out.1), out.2)) : ∀ (M : ZMem) (o : Nat) (b1 : Int32) (b2 : Int32) (b3 : Int32) (b4 : Int32) (out : Int32 × ZMem), f_186_66 r25 M o b1 b2 b3 b4 = some out → zgo none (d + 6) 186 66 [(0, zrf (some o)), (1, .int b1), (2, .int b2), (3, .int b3)] [.int b4] M (some (.int out.1), out.2) := by
  intro M o b1 b2 b3 b4 out h
  unfold f_186_66 at h
  refine zo_aload_n (p' := 67) (zi_186 rfl) rfl rfl ?_
  obtain ⟨r54, hx55, g60⟩ := zb_of h
  refine zo_getR (p' := 70) (zi_186 rfl) rfl zl_19_93 hx55 ?_
  refine zo_iload_n (p' := 71) (zi_186 rfl) rfl rfl ?_
  obtain ⟨q56, h0, g61⟩ := zb_of g60
  subst h0
  obtain ⟨x57, hx58, g62⟩ := zb_of g61
  refine zo_iald (p' := 72) (zi_186 rfl) rfl hx58 ?_
  by_cases hc59 : x57 ≤ b4
  · rw [if_pos hc59] at g62
    refine zo_icT (p' := 81) (zi_186 rfl) rfl hc59 ?_
    refine zo_iload_n (p' := 82) (zi_186 rfl) rfl rfl ?_
    have g63 := Option.some.inj g62
    subst g63
    exact zo_iret (zi_186 rfl) rfl ⟨rfl, rfl⟩
  · rw [if_neg hc59] at g62
    refine zo_icF (p' := 75) (zi_186 rfl) rfl rfl hc59 ?_
    refine zo_iinc (p' := 78) (v := (b3 + 1)) (L' := [(0, zrf (some o)), (1, .int b1), (2, .int b2), (3, .int ((b3 + 1)))]) (zi_186 rfl) rfl zm_186_3 rfl rfl ⟨Or.inr ⟨by decide, rfl, fun q => absurd q (by decide)⟩, ⟨Or.inr ⟨by decide, rfl, fun q => absurd q (by decide)⟩, ⟨Or.inr ⟨by decide, rfl, fun _ => rfl⟩, ⟨Or.inl ⟨rfl, rfl⟩, trivial⟩⟩⟩⟩ ?_
    refine zo_goto (p' := 25) (zi_186 rfl) rfl ?_
    refine zgo_sub (L' := [(0, zrf (some o)), (1, .int b1), (2, .int b2), (3, .int (((b3 + 1))))]) (⟨rfl, rfl, rfl, rfl, trivial⟩) ?_
    exact h25 M o b1 b2 ((b3 + 1)) _ g62
set_option maxRecDepth 20000 in
theorem k_186_25 (d : Nat) : ∀ (z : Nat) (M : ZMem) (o : Nat) (b1 : Int32) (b2 : Int32) (b3 : Int32) (out : Int32 × ZMem), f_186_25 z M o b1 b2 b3 = some out → zgo none (d + 6) 186 25 [(0, zrf (some o)), (1, .int b1), (2, .int b2), (3, .int b3)] [] M (some (.int out.1), out.2) := by
  intro z
  induction z with
  | zero => intro M o b1 b2 b3 out h; cases h
  | succ z ih =>
    intro M o b1 b2 b3 out h
    rw [f_186_25] at h
    refine zo_aload_n (p' := 26) (zi_186 rfl) rfl rfl ?_
    refine zo_iload_n (p' := 27) (zi_186 rfl) rfl rfl ?_
    refine zo_iload_n (p' := 28) (zi_186 rfl) rfl rfl ?_
    refine zo_iload_n (p' := 29) (zi_186 rfl) rfl rfl ?_
    obtain ⟨x23, hx24, g43⟩ := zb_of h
    refine zo_callVi (p' := 32) (t := 12) (as := [.int b1, .int b2, .int b3]) (r := []) (zi_186 rfl) rfl zl_19_331 rfl rfl (Or.inl ⟨by decide, rfl⟩) (Nat.le_of_ble_eq_true rfl) (Nat.le_of_ble_eq_true rfl) (f_183_ok hx24) (k_183 _ hx24) ?_
    by_cases hc25 : x23 = 0
    · rw [if_pos hc25] at g43
      refine zo_ifT (p' := 53) (zi_186 rfl) rfl hc25 ?_
      refine zo_aload_n (p' := 54) (zi_186 rfl) rfl rfl ?_
      obtain ⟨r26, hx27, g44⟩ := zb_of g43
      refine zo_getR (p' := 57) (zi_186 rfl) rfl zl_19_93 hx27 ?_
      refine zo_aload_n (p' := 58) (zi_186 rfl) rfl rfl ?_
      refine zo_iload_n (p' := 59) (zi_186 rfl) rfl rfl ?_
      refine zo_iload_n (p' := 60) (zi_186 rfl) rfl rfl ?_
      refine zo_iload_n (p' := 61) (zi_186 rfl) rfl rfl ?_
      refine zo_isub (p' := 62) (zi_186 rfl) rfl ?_
      obtain ⟨x28, hx29, g45⟩ := zb_of g44
      refine zo_callVi (p' := 65) (t := 12) (as := [.int b3, .int ((b2 - b3))]) (r := [zrf r26]) (zi_186 rfl) rfl zl_19_304 rfl rfl (Or.inl ⟨by decide, rfl⟩) (by simp [zrf_cat, zcat_i, zcat_l, zcat_r]) (Nat.le_of_ble_eq_true rfl) (f_179_ok hx29) (k_179 _ hx29) ?_
      obtain ⟨q30, h0, g46⟩ := zb_of g45
      subst h0
      obtain ⟨x31, hx32, g47⟩ := zb_of g46
      refine zo_iald (p' := 66) (zi_186 rfl) rfl hx32 ?_
      refine zgo_sub (L' := [(0, zrf (some o)), (1, .int b1), (2, .int b2), (3, .int b3)]) (⟨rfl, rfl, rfl, rfl, trivial⟩) ?_
      exact k_186_66 _ _ (fun M a0 a1 a2 a3 out h => ih M a0 a1 a2 a3 out h) M o b1 b2 b3 x31 _ g47
    · rw [if_neg hc25] at g43
      refine zo_ifF (p' := 35) (zi_186 rfl) rfl rfl hc25 ?_
      refine zo_aload_n (p' := 36) (zi_186 rfl) rfl rfl ?_
      obtain ⟨r33, hx34, g48⟩ := zb_of g43
      refine zo_getR (p' := 39) (zi_186 rfl) rfl zl_19_93 hx34 ?_
      refine zo_iload_n (p' := 40) (zi_186 rfl) rfl rfl ?_
      obtain ⟨q35, h0, g49⟩ := zb_of g48
      subst h0
      obtain ⟨x36, hx37, g50⟩ := zb_of g49
      refine zo_iald (p' := 41) (zi_186 rfl) rfl hx37 ?_
      refine zo_aload_n (p' := 42) (zi_186 rfl) rfl rfl ?_
      obtain ⟨r38, hx39, g51⟩ := zb_of g50
      refine zo_getR (p' := 45) (zi_186 rfl) rfl zl_19_93 hx39 ?_
      refine zo_iload_n (p' := 46) (zi_186 rfl) rfl rfl ?_
      refine zo_iload_n (p' := 47) (zi_186 rfl) rfl rfl ?_
      refine zo_isub (p' := 48) (zi_186 rfl) rfl ?_
      obtain ⟨q40, h0, g52⟩ := zb_of g51
      subst h0
      obtain ⟨x41, hx42, g53⟩ := zb_of g52
      refine zo_iald (p' := 49) (zi_186 rfl) rfl hx42 ?_
      refine zo_iadd (p' := 50) (zi_186 rfl) rfl ?_
      refine zo_goto (p' := 66) (zi_186 rfl) rfl ?_
      refine zgo_sub (L' := [(0, zrf (some o)), (1, .int b1), (2, .int b2), (3, .int b3)]) (⟨rfl, rfl, rfl, rfl, trivial⟩) ?_
      exact k_186_66 _ _ (fun M a0 a1 a2 a3 out h => ih M a0 a1 a2 a3 out h) M o b1 b2 b3 ((x36 + x41)) _ g53
def f_186 (M : ZMem) (o : Nat) (a0 : Int32) : Option (Int32 × ZMem) := if zok M 12 o = true then (zb (zgr M 12 5 o) fun r1 => zb r1 fun q3 => zb (zai M q3 a0) fun x4 => zb (f_182 M o a0) fun M8 => zb (zgr M8 12 28 o) fun r9 => zb r9 fun q11 => zb (zai M8 q11 x4) fun x12 => if ¬ x12 = 0 then (f_186_25 zF M8 o a0 x4 1) else (some (0, M8))) else none
theorem f_186_ok {M : ZMem} {o : Nat} {a0 : Int32} {out : Int32 × ZMem} (h : f_186 M o a0 = some out) : zok M 12 o = true := by
  unfold f_186 at h
  by_cases hok : zok M 12 o = true
  · exact hok
  · rw [if_neg hok] at h; cases h
set_option maxRecDepth 20000 in
theorem k_186 (d : Nat) {M : ZMem} {o : Nat} {a0 : Int32} {out : Int32 × ZMem} (h : f_186 M o a0 = some out) : zrn (d + 6) 186 [zrf (some o), .int a0] M (some (.int out.1), out.2) := by
  unfold f_186 at h
  by_cases hok : zok M 12 o = true
  · rw [if_pos hok] at h
    refine zrn_of (L := [(0, zrf (some o)), (1, .int a0)]) rfl ?_
    refine zo_aload_n (p' := 1) (zi_186 rfl) rfl rfl ?_
    obtain ⟨r1, hx2, g15⟩ := zb_of h
    refine zo_getR (p' := 4) (zi_186 rfl) rfl zl_19_26 hx2 ?_
    refine zo_iload_n (p' := 5) (zi_186 rfl) rfl rfl ?_
    obtain ⟨q3, h0, g16⟩ := zb_of g15
    subst h0
    obtain ⟨x4, hx5, g17⟩ := zb_of g16
    refine zo_iald (p' := 6) (zi_186 rfl) rfl hx5 ?_
    refine zo_istore_n (p' := 7) (L' := [(0, zrf (some o)), (1, .int a0), (2, .int x4)]) (zi_186 rfl) rfl zm_186_2 ⟨Or.inr ⟨by decide, rfl, fun q => absurd q (by decide)⟩, ⟨Or.inr ⟨by decide, rfl, fun _ => rfl⟩, ⟨Or.inl ⟨rfl, rfl⟩, trivial⟩⟩⟩ ?_
    refine zo_aload_n (p' := 8) (zi_186 rfl) rfl rfl ?_
    refine zo_iload_n (p' := 9) (zi_186 rfl) rfl rfl ?_
    obtain ⟨M8, hx7, g18⟩ := zb_of g17
    refine zo_callVv (p' := 12) (t := 12) (as := [.int a0]) (r := []) (zi_186 rfl) rfl zl_19_338 rfl rfl (Or.inl ⟨by decide, rfl⟩) (Nat.le_of_ble_eq_true rfl) (Nat.le_of_ble_eq_true rfl) (f_182_ok hx7) (k_182 _ hx7) ?_
    refine zo_aload_n (p' := 13) (zi_186 rfl) rfl rfl ?_
    obtain ⟨r9, hx10, g19⟩ := zb_of g18
    refine zo_getR (p' := 16) (zi_186 rfl) rfl zl_19_96 hx10 ?_
    refine zo_iload_n (p' := 17) (zi_186 rfl) rfl rfl ?_
    obtain ⟨q11, h0, g20⟩ := zb_of g19
    subst h0
    obtain ⟨x12, hx13, g21⟩ := zb_of g20
    refine zo_iald (p' := 18) (zi_186 rfl) rfl hx13 ?_
    by_cases hc14 : ¬ x12 = 0
    · rw [if_pos hc14] at g21
      refine zo_ifT (p' := 23) (zi_186 rfl) rfl hc14 ?_
      refine zo_iconst (p' := 24) (v := 1) (zi_186 rfl) rfl rfl ?_
      refine zo_istore_n (p' := 25) (L' := [(0, zrf (some o)), (1, .int a0), (2, .int x4), (3, .int 1)]) (zi_186 rfl) rfl zm_186_3 ⟨Or.inr ⟨by decide, rfl, fun q => absurd q (by decide)⟩, ⟨Or.inr ⟨by decide, rfl, fun q => absurd q (by decide)⟩, ⟨Or.inr ⟨by decide, rfl, fun _ => rfl⟩, ⟨Or.inl ⟨rfl, rfl⟩, trivial⟩⟩⟩⟩ ?_
      refine zgo_sub (L' := [(0, zrf (some o)), (1, .int a0), (2, .int x4), (3, .int 1)]) (⟨rfl, rfl, rfl, rfl, trivial⟩) ?_
      exact k_186_25 _ zF M8 o a0 x4 1 _ g21
    · rw [if_neg hc14] at g21
      refine zo_ifF (p' := 21) (zi_186 rfl) rfl rfl hc14 ?_
      refine zo_iconst (p' := 22) (v := 0) (zi_186 rfl) rfl rfl ?_
      have g22 := Option.some.inj g21
      subst g22
      exact zo_iret (zi_186 rfl) rfl ⟨rfl, rfl⟩
  · rw [if_neg hok] at h; cases h
/-- SlateHalvesModel.of(II)I -/
def f_167_145 (M : ZMem) (o : Nat) (b1 : Int32) (b2 : Int32) : Option (Int32 × ZMem) := zbd (f_181 M o b1 b2) fun x97 M99 => some (x97, M99)
set_option maxRecDepth 20000 in
theorem k_167_145 (d : Nat) : ∀ (M : ZMem) (o : Nat) (b1 : Int32) (b2 : Int32) (out : Int32 × ZMem), f_167_145 M o b1 b2 = some out → zgo none (d + 7) 167 145 [(0, zrf (some o)), (1, .int b1), (2, .int b2)] [] M (some (.int out.1), out.2) := by
  intro M o b1 b2 out h
  unfold f_167_145 at h
  refine zo_aload_n (p' := 146) (zi_167 rfl) rfl rfl ?_
  refine zo_iload_n (p' := 147) (zi_167 rfl) rfl rfl ?_
  refine zo_iload_n (p' := 148) (zi_167 rfl) rfl rfl ?_
  obtain ⟨x97, M99, hx98, g100⟩ := zbd_of h
  refine zo_callVi (p' := 151) (t := 12) (as := [.int b1, .int b2]) (r := []) (zi_167 rfl) rfl zl_19_347 rfl rfl (Or.inl ⟨by decide, rfl⟩) (Nat.le_of_ble_eq_true rfl) (Nat.le_of_ble_eq_true rfl) (f_181_ok hx98) (k_181 _ hx98) ?_
  have g101 := Option.some.inj g100
  subst g101
  exact zo_iret (zi_167 rfl) rfl ⟨rfl, rfl⟩
def f_167 (M : ZMem) (o : Nat) (a0 : Int32) (a1 : Int32) : Option (Int32 × ZMem) := if zok M 12 o = true then (zb (f_149 M o a0) fun x1 => if ¬ x1 = 0 then (if a1 = 0 then (zb (zgr M 12 3 o) fun r18 => zb r18 fun q20 => zb (zai M q20 a0) fun x21 => some (x21, M)) else (if a1 = 1 then (zb (zgr M 12 4 o) fun r23 => zb r23 fun q25 => zb (zai M q25 a0) fun x26 => some (x26, M)) else (if a1 = 2 then (zb (zgr M 12 5 o) fun r28 => zb r28 fun q30 => zb (zai M q30 a0) fun x31 => some (x31, M)) else (if a1 = 3 then (zb (zgr M 12 6 o) fun r33 => zb r33 fun q35 => zb (zai M q35 a0) fun x36 => some (x36, M)) else (if a1 = 4 then (zb (zgr M 12 7 o) fun r38 => zb r38 fun q40 => zb (zai M q40 a0) fun x41 => some (x41, M)) else (if a1 = 5 then (zbd (f_168 M o a0) fun x43 M45 => some (x43, M45)) else (if a1 = 6 then (zb (f_174 M o a0) fun x46 => some (x46, M)) else (if a1 = 7 then (zb (f_175 M o a0) fun x48 => some (x48, M)) else (if a1 = 8 then (zb (zgr M 12 5 o) fun r50 => zb r50 fun q52 => zb (zai M q52 a0) fun x53 => zbd (f_177 M o a0 x53) fun x55 M57 => some (x55, M57)) else (if a1 = 9 then (f_167_145 M o a0 a1) else (if a1 = 10 then (f_167_145 M o a0 a1) else (if a1 = 11 then (f_167_145 M o a0 a1) else (if a1 = 12 then (f_167_145 M o a0 a1) else (if a1 = 13 then (zbd (f_186 M o a0) fun x58 M60 => some (x58, M60)) else (some ((-1), M)))))))))))))))) else (some ((-1), M))) else none
theorem f_167_ok {M : ZMem} {o : Nat} {a0 : Int32} {a1 : Int32} {out : Int32 × ZMem} (h : f_167 M o a0 a1 = some out) : zok M 12 o = true := by
  unfold f_167 at h
  by_cases hok : zok M 12 o = true
  · exact hok
  · rw [if_neg hok] at h; cases h
set_option maxRecDepth 20000 in
theorem k_167 (d : Nat) {M : ZMem} {o : Nat} {a0 : Int32} {a1 : Int32} {out : Int32 × ZMem} (h : f_167 M o a0 a1 = some out) : zrn (d + 7) 167 [zrf (some o), .int a0, .int a1] M (some (.int out.1), out.2) := by
  unfold f_167 at h
  by_cases hok : zok M 12 o = true
  · rw [if_pos hok] at h
    refine zrn_of (L := [(0, zrf (some o)), (1, .int a0), (2, .int a1)]) rfl ?_
    refine zo_aload_n (p' := 1) (zi_167 rfl) rfl rfl ?_
    refine zo_iload_n (p' := 2) (zi_167 rfl) rfl rfl ?_
    obtain ⟨x1, hx2, g61⟩ := zb_of h
    refine zo_callVi (p' := 5) (t := 12) (as := [.int a0]) (r := []) (zi_167 rfl) rfl zl_19_243 rfl rfl (Or.inl ⟨by decide, rfl⟩) (Nat.le_of_ble_eq_true rfl) (Nat.le_of_ble_eq_true rfl) (f_149_ok hx2) (k_149 _ hx2) ?_
    by_cases hc3 : ¬ x1 = 0
    · rw [if_pos hc3] at g61
      refine zo_ifT (p' := 10) (zi_167 rfl) rfl hc3 ?_
      refine zo_iload_n (p' := 11) (zi_167 rfl) rfl rfl ?_
      by_cases hc4 : a1 = 0
      · rw [if_pos hc4] at g61
        refine zo_table (p' := 80) (n := 69) (zi_167 rfl) (by decide) (zsel_hit hc4 (by decide)) rfl ?_
        refine zo_aload_n (p' := 81) (zi_167 rfl) rfl rfl ?_
        obtain ⟨r18, hx19, g62⟩ := zb_of g61
        refine zo_getR (p' := 84) (zi_167 rfl) rfl zl_19_19 hx19 ?_
        refine zo_iload_n (p' := 85) (zi_167 rfl) rfl rfl ?_
        obtain ⟨q20, h0, g63⟩ := zb_of g62
        subst h0
        obtain ⟨x21, hx22, g64⟩ := zb_of g63
        refine zo_iald (p' := 86) (zi_167 rfl) rfl hx22 ?_
        have g65 := Option.some.inj g64
        subst g65
        exact zo_iret (zi_167 rfl) rfl ⟨rfl, rfl⟩
      · rw [if_neg hc4] at g61
        by_cases hc5 : a1 = 1
        · rw [if_pos hc5] at g61
          refine zo_table (p' := 87) (n := 76) (zi_167 rfl) (by decide) (zsel_skip hc4 (by decide) (zsel_hit hc5 (by decide))) rfl ?_
          refine zo_aload_n (p' := 88) (zi_167 rfl) rfl rfl ?_
          obtain ⟨r23, hx24, g66⟩ := zb_of g61
          refine zo_getR (p' := 91) (zi_167 rfl) rfl zl_19_23 hx24 ?_
          refine zo_iload_n (p' := 92) (zi_167 rfl) rfl rfl ?_
          obtain ⟨q25, h0, g67⟩ := zb_of g66
          subst h0
          obtain ⟨x26, hx27, g68⟩ := zb_of g67
          refine zo_iald (p' := 93) (zi_167 rfl) rfl hx27 ?_
          have g69 := Option.some.inj g68
          subst g69
          exact zo_iret (zi_167 rfl) rfl ⟨rfl, rfl⟩
        · rw [if_neg hc5] at g61
          by_cases hc6 : a1 = 2
          · rw [if_pos hc6] at g61
            refine zo_table (p' := 94) (n := 83) (zi_167 rfl) (by decide) (zsel_skip hc4 (by decide) (zsel_skip hc5 (by decide) (zsel_hit hc6 (by decide)))) rfl ?_
            refine zo_aload_n (p' := 95) (zi_167 rfl) rfl rfl ?_
            obtain ⟨r28, hx29, g70⟩ := zb_of g61
            refine zo_getR (p' := 98) (zi_167 rfl) rfl zl_19_26 hx29 ?_
            refine zo_iload_n (p' := 99) (zi_167 rfl) rfl rfl ?_
            obtain ⟨q30, h0, g71⟩ := zb_of g70
            subst h0
            obtain ⟨x31, hx32, g72⟩ := zb_of g71
            refine zo_iald (p' := 100) (zi_167 rfl) rfl hx32 ?_
            have g73 := Option.some.inj g72
            subst g73
            exact zo_iret (zi_167 rfl) rfl ⟨rfl, rfl⟩
          · rw [if_neg hc6] at g61
            by_cases hc7 : a1 = 3
            · rw [if_pos hc7] at g61
              refine zo_table (p' := 101) (n := 90) (zi_167 rfl) (by decide) (zsel_skip hc4 (by decide) (zsel_skip hc5 (by decide) (zsel_skip hc6 (by decide) (zsel_hit hc7 (by decide))))) rfl ?_
              refine zo_aload_n (p' := 102) (zi_167 rfl) rfl rfl ?_
              obtain ⟨r33, hx34, g74⟩ := zb_of g61
              refine zo_getR (p' := 105) (zi_167 rfl) rfl zl_19_29 hx34 ?_
              refine zo_iload_n (p' := 106) (zi_167 rfl) rfl rfl ?_
              obtain ⟨q35, h0, g75⟩ := zb_of g74
              subst h0
              obtain ⟨x36, hx37, g76⟩ := zb_of g75
              refine zo_iald (p' := 107) (zi_167 rfl) rfl hx37 ?_
              have g77 := Option.some.inj g76
              subst g77
              exact zo_iret (zi_167 rfl) rfl ⟨rfl, rfl⟩
            · rw [if_neg hc7] at g61
              by_cases hc8 : a1 = 4
              · rw [if_pos hc8] at g61
                refine zo_table (p' := 108) (n := 97) (zi_167 rfl) (by decide) (zsel_skip hc4 (by decide) (zsel_skip hc5 (by decide) (zsel_skip hc6 (by decide) (zsel_skip hc7 (by decide) (zsel_hit hc8 (by decide)))))) rfl ?_
                refine zo_aload_n (p' := 109) (zi_167 rfl) rfl rfl ?_
                obtain ⟨r38, hx39, g78⟩ := zb_of g61
                refine zo_getR (p' := 112) (zi_167 rfl) rfl zl_19_32 hx39 ?_
                refine zo_iload_n (p' := 113) (zi_167 rfl) rfl rfl ?_
                obtain ⟨q40, h0, g79⟩ := zb_of g78
                subst h0
                obtain ⟨x41, hx42, g80⟩ := zb_of g79
                refine zo_iald (p' := 114) (zi_167 rfl) rfl hx42 ?_
                have g81 := Option.some.inj g80
                subst g81
                exact zo_iret (zi_167 rfl) rfl ⟨rfl, rfl⟩
              · rw [if_neg hc8] at g61
                by_cases hc9 : a1 = 5
                · rw [if_pos hc9] at g61
                  refine zo_table (p' := 115) (n := 104) (zi_167 rfl) (by decide) (zsel_skip hc4 (by decide) (zsel_skip hc5 (by decide) (zsel_skip hc6 (by decide) (zsel_skip hc7 (by decide) (zsel_skip hc8 (by decide) (zsel_hit hc9 (by decide))))))) rfl ?_
                  refine zo_aload_n (p' := 116) (zi_167 rfl) rfl rfl ?_
                  refine zo_iload_n (p' := 117) (zi_167 rfl) rfl rfl ?_
                  obtain ⟨x43, M45, hx44, g82⟩ := zbd_of g61
                  refine zo_callVi (p' := 120) (t := 12) (as := [.int a0]) (r := []) (zi_167 rfl) rfl zl_19_328 rfl rfl (Or.inl ⟨by decide, rfl⟩) (Nat.le_of_ble_eq_true rfl) (Nat.le_of_ble_eq_true rfl) (f_168_ok hx44) (k_168 _ hx44) ?_
                  have g83 := Option.some.inj g82
                  subst g83
                  exact zo_iret (zi_167 rfl) rfl ⟨rfl, rfl⟩
                · rw [if_neg hc9] at g61
                  by_cases hc10 : a1 = 6
                  · rw [if_pos hc10] at g61
                    refine zo_table (p' := 121) (n := 110) (zi_167 rfl) (by decide) (zsel_skip hc4 (by decide) (zsel_skip hc5 (by decide) (zsel_skip hc6 (by decide) (zsel_skip hc7 (by decide) (zsel_skip hc8 (by decide) (zsel_skip hc9 (by decide) (zsel_hit hc10 (by decide)))))))) rfl ?_
                    refine zo_aload_n (p' := 122) (zi_167 rfl) rfl rfl ?_
                    refine zo_iload_n (p' := 123) (zi_167 rfl) rfl rfl ?_
                    obtain ⟨x46, hx47, g84⟩ := zb_of g61
                    refine zo_callVi (p' := 126) (t := 12) (as := [.int a0]) (r := []) (zi_167 rfl) rfl zl_19_319 rfl rfl (Or.inl ⟨by decide, rfl⟩) (Nat.le_of_ble_eq_true rfl) (Nat.le_of_ble_eq_true rfl) (f_174_ok hx47) (k_174 _ hx47) ?_
                    have g85 := Option.some.inj g84
                    subst g85
                    exact zo_iret (zi_167 rfl) rfl ⟨rfl, rfl⟩
                  · rw [if_neg hc10] at g61
                    by_cases hc11 : a1 = 7
                    · rw [if_pos hc11] at g61
                      refine zo_table (p' := 127) (n := 116) (zi_167 rfl) (by decide) (zsel_skip hc4 (by decide) (zsel_skip hc5 (by decide) (zsel_skip hc6 (by decide) (zsel_skip hc7 (by decide) (zsel_skip hc8 (by decide) (zsel_skip hc9 (by decide) (zsel_skip hc10 (by decide) (zsel_hit hc11 (by decide))))))))) rfl ?_
                      refine zo_aload_n (p' := 128) (zi_167 rfl) rfl rfl ?_
                      refine zo_iload_n (p' := 129) (zi_167 rfl) rfl rfl ?_
                      obtain ⟨x48, hx49, g86⟩ := zb_of g61
                      refine zo_callVi (p' := 132) (t := 12) (as := [.int a0]) (r := []) (zi_167 rfl) rfl zl_19_341 rfl rfl (Or.inl ⟨by decide, rfl⟩) (Nat.le_of_ble_eq_true rfl) (Nat.le_of_ble_eq_true rfl) (f_175_ok hx49) (k_175 _ hx49) ?_
                      have g87 := Option.some.inj g86
                      subst g87
                      exact zo_iret (zi_167 rfl) rfl ⟨rfl, rfl⟩
                    · rw [if_neg hc11] at g61
                      by_cases hc12 : a1 = 8
                      · rw [if_pos hc12] at g61
                        refine zo_table (p' := 133) (n := 122) (zi_167 rfl) (by decide) (zsel_skip hc4 (by decide) (zsel_skip hc5 (by decide) (zsel_skip hc6 (by decide) (zsel_skip hc7 (by decide) (zsel_skip hc8 (by decide) (zsel_skip hc9 (by decide) (zsel_skip hc10 (by decide) (zsel_skip hc11 (by decide) (zsel_hit hc12 (by decide)))))))))) rfl ?_
                        refine zo_aload_n (p' := 134) (zi_167 rfl) rfl rfl ?_
                        refine zo_iload_n (p' := 135) (zi_167 rfl) rfl rfl ?_
                        refine zo_aload_n (p' := 136) (zi_167 rfl) rfl rfl ?_
                        obtain ⟨r50, hx51, g88⟩ := zb_of g61
                        refine zo_getR (p' := 139) (zi_167 rfl) rfl zl_19_26 hx51 ?_
                        refine zo_iload_n (p' := 140) (zi_167 rfl) rfl rfl ?_
                        obtain ⟨q52, h0, g89⟩ := zb_of g88
                        subst h0
                        obtain ⟨x53, hx54, g90⟩ := zb_of g89
                        refine zo_iald (p' := 141) (zi_167 rfl) rfl hx54 ?_
                        obtain ⟨x55, M57, hx56, g91⟩ := zbd_of g90
                        refine zo_callVi (p' := 144) (t := 12) (as := [.int a0, .int x53]) (r := []) (zi_167 rfl) rfl zl_19_344 rfl rfl (Or.inl ⟨by decide, rfl⟩) (Nat.le_of_ble_eq_true rfl) (Nat.le_of_ble_eq_true rfl) (f_177_ok hx56) (k_177 _ hx56) ?_
                        have g92 := Option.some.inj g91
                        subst g92
                        exact zo_iret (zi_167 rfl) rfl ⟨rfl, rfl⟩
                      · rw [if_neg hc12] at g61
                        by_cases hc13 : a1 = 9
                        · rw [if_pos hc13] at g61
                          refine zo_table (p' := 145) (n := 134) (zi_167 rfl) (by decide) (zsel_skip hc4 (by decide) (zsel_skip hc5 (by decide) (zsel_skip hc6 (by decide) (zsel_skip hc7 (by decide) (zsel_skip hc8 (by decide) (zsel_skip hc9 (by decide) (zsel_skip hc10 (by decide) (zsel_skip hc11 (by decide) (zsel_skip hc12 (by decide) (zsel_hit hc13 (by decide))))))))))) rfl ?_
                          refine zgo_sub (L' := [(0, zrf (some o)), (1, .int a0), (2, .int a1)]) (⟨rfl, rfl, rfl, trivial⟩) ?_
                          exact k_167_145 _ M o a0 a1 _ g61
                        · rw [if_neg hc13] at g61
                          by_cases hc14 : a1 = 10
                          · rw [if_pos hc14] at g61
                            refine zo_table (p' := 145) (n := 134) (zi_167 rfl) (by decide) (zsel_skip hc4 (by decide) (zsel_skip hc5 (by decide) (zsel_skip hc6 (by decide) (zsel_skip hc7 (by decide) (zsel_skip hc8 (by decide) (zsel_skip hc9 (by decide) (zsel_skip hc10 (by decide) (zsel_skip hc11 (by decide) (zsel_skip hc12 (by decide) (zsel_skip hc13 (by decide) (zsel_hit hc14 (by decide)))))))))))) rfl ?_
                            refine zgo_sub (L' := [(0, zrf (some o)), (1, .int a0), (2, .int a1)]) (⟨rfl, rfl, rfl, trivial⟩) ?_
                            exact k_167_145 _ M o a0 a1 _ g61
                          · rw [if_neg hc14] at g61
                            by_cases hc15 : a1 = 11
                            · rw [if_pos hc15] at g61
                              refine zo_table (p' := 145) (n := 134) (zi_167 rfl) (by decide) (zsel_skip hc4 (by decide) (zsel_skip hc5 (by decide) (zsel_skip hc6 (by decide) (zsel_skip hc7 (by decide) (zsel_skip hc8 (by decide) (zsel_skip hc9 (by decide) (zsel_skip hc10 (by decide) (zsel_skip hc11 (by decide) (zsel_skip hc12 (by decide) (zsel_skip hc13 (by decide) (zsel_skip hc14 (by decide) (zsel_hit hc15 (by decide))))))))))))) rfl ?_
                              refine zgo_sub (L' := [(0, zrf (some o)), (1, .int a0), (2, .int a1)]) (⟨rfl, rfl, rfl, trivial⟩) ?_
                              exact k_167_145 _ M o a0 a1 _ g61
                            · rw [if_neg hc15] at g61
                              by_cases hc16 : a1 = 12
                              · rw [if_pos hc16] at g61
                                refine zo_table (p' := 145) (n := 134) (zi_167 rfl) (by decide) (zsel_skip hc4 (by decide) (zsel_skip hc5 (by decide) (zsel_skip hc6 (by decide) (zsel_skip hc7 (by decide) (zsel_skip hc8 (by decide) (zsel_skip hc9 (by decide) (zsel_skip hc10 (by decide) (zsel_skip hc11 (by decide) (zsel_skip hc12 (by decide) (zsel_skip hc13 (by decide) (zsel_skip hc14 (by decide) (zsel_skip hc15 (by decide) (zsel_hit hc16 (by decide)))))))))))))) rfl ?_
                                refine zgo_sub (L' := [(0, zrf (some o)), (1, .int a0), (2, .int a1)]) (⟨rfl, rfl, rfl, trivial⟩) ?_
                                exact k_167_145 _ M o a0 a1 _ g61
                              · rw [if_neg hc16] at g61
                                by_cases hc17 : a1 = 13
                                · rw [if_pos hc17] at g61
                                  refine zo_table (p' := 152) (n := 141) (zi_167 rfl) (by decide) (zsel_skip hc4 (by decide) (zsel_skip hc5 (by decide) (zsel_skip hc6 (by decide) (zsel_skip hc7 (by decide) (zsel_skip hc8 (by decide) (zsel_skip hc9 (by decide) (zsel_skip hc10 (by decide) (zsel_skip hc11 (by decide) (zsel_skip hc12 (by decide) (zsel_skip hc13 (by decide) (zsel_skip hc14 (by decide) (zsel_skip hc15 (by decide) (zsel_skip hc16 (by decide) (zsel_hit hc17 (by decide))))))))))))))) rfl ?_
                                  refine zo_aload_n (p' := 153) (zi_167 rfl) rfl rfl ?_
                                  refine zo_iload_n (p' := 154) (zi_167 rfl) rfl rfl ?_
                                  obtain ⟨x58, M60, hx59, g93⟩ := zbd_of g61
                                  refine zo_callVi (p' := 157) (t := 12) (as := [.int a0]) (r := []) (zi_167 rfl) rfl zl_19_350 rfl rfl (Or.inl ⟨by decide, rfl⟩) (Nat.le_of_ble_eq_true rfl) (Nat.le_of_ble_eq_true rfl) (f_186_ok hx59) (k_186 _ hx59) ?_
                                  have g94 := Option.some.inj g93
                                  subst g94
                                  exact zo_iret (zi_167 rfl) rfl ⟨rfl, rfl⟩
                                · rw [if_neg hc17] at g61
                                  refine zo_table (p' := 158) (n := 147) (zi_167 rfl) (by decide) (zsel_skip hc4 (by decide) (zsel_skip hc5 (by decide) (zsel_skip hc6 (by decide) (zsel_skip hc7 (by decide) (zsel_skip hc8 (by decide) (zsel_skip hc9 (by decide) (zsel_skip hc10 (by decide) (zsel_skip hc11 (by decide) (zsel_skip hc12 (by decide) (zsel_skip hc13 (by decide) (zsel_skip hc14 (by decide) (zsel_skip hc15 (by decide) (zsel_skip hc16 (by decide) (zsel_skip hc17 (by decide) (rfl))))))))))))))) rfl ?_
                                  refine zo_iconst (p' := 159) (v := (-1)) (zi_167 rfl) rfl rfl ?_
                                  have g95 := Option.some.inj g61
                                  subst g95
                                  exact zo_iret (zi_167 rfl) rfl ⟨rfl, rfl⟩
    · rw [if_neg hc3] at g61
      refine zo_ifF (p' := 8) (zi_167 rfl) rfl rfl hc3 ?_
      refine zo_iconst (p' := 9) (v := (-1)) (zi_167 rfl) rfl rfl ?_
      have g96 := Option.some.inj g61
      subst g96
      exact zo_iret (zi_167 rfl) rfl ⟨rfl, rfl⟩
  · rw [if_neg hok] at h; cases h
/-- SlateHalvesModel.best(I)I -/
def f_189 (M : ZMem) (o : Nat) (a0 : Int32) : Option (Int32 × ZMem) := if zok M 12 o = true then (zb (f_182 M o a0) fun M3 => zb (zgr M3 12 27 o) fun r4 => zb (zgr M3 12 5 o) fun r6 => zb r6 fun q8 => zb (zai M3 q8 a0) fun x9 => zb r4 fun q11 => zb (zai M3 q11 x9) fun x12 => some (x12, M3)) else none
theorem f_189_ok {M : ZMem} {o : Nat} {a0 : Int32} {out : Int32 × ZMem} (h : f_189 M o a0 = some out) : zok M 12 o = true := by
  unfold f_189 at h
  by_cases hok : zok M 12 o = true
  · exact hok
  · rw [if_neg hok] at h; cases h
set_option maxRecDepth 20000 in
theorem k_189 (d : Nat) {M : ZMem} {o : Nat} {a0 : Int32} {out : Int32 × ZMem} (h : f_189 M o a0 = some out) : zrn (d + 6) 189 [zrf (some o), .int a0] M (some (.int out.1), out.2) := by
  unfold f_189 at h
  by_cases hok : zok M 12 o = true
  · rw [if_pos hok] at h
    refine zrn_of (L := [(0, zrf (some o)), (1, .int a0)]) rfl ?_
    refine zo_aload_n (p' := 1) (zi_189 rfl) rfl rfl ?_
    refine zo_iload_n (p' := 2) (zi_189 rfl) rfl rfl ?_
    obtain ⟨M3, hx2, g14⟩ := zb_of h
    refine zo_callVv (p' := 5) (t := 12) (as := [.int a0]) (r := []) (zi_189 rfl) rfl zl_19_338 rfl rfl (Or.inl ⟨by decide, rfl⟩) (Nat.le_of_ble_eq_true rfl) (Nat.le_of_ble_eq_true rfl) (f_182_ok hx2) (k_182 _ hx2) ?_
    refine zo_aload_n (p' := 6) (zi_189 rfl) rfl rfl ?_
    obtain ⟨r4, hx5, g15⟩ := zb_of g14
    refine zo_getR (p' := 9) (zi_189 rfl) rfl zl_19_93 hx5 ?_
    refine zo_aload_n (p' := 10) (zi_189 rfl) rfl rfl ?_
    obtain ⟨r6, hx7, g16⟩ := zb_of g15
    refine zo_getR (p' := 13) (zi_189 rfl) rfl zl_19_26 hx7 ?_
    refine zo_iload_n (p' := 14) (zi_189 rfl) rfl rfl ?_
    obtain ⟨q8, h0, g17⟩ := zb_of g16
    subst h0
    obtain ⟨x9, hx10, g18⟩ := zb_of g17
    refine zo_iald (p' := 15) (zi_189 rfl) rfl hx10 ?_
    obtain ⟨q11, h0, g19⟩ := zb_of g18
    subst h0
    obtain ⟨x12, hx13, g20⟩ := zb_of g19
    refine zo_iald (p' := 16) (zi_189 rfl) rfl hx13 ?_
    have g21 := Option.some.inj g20
    subst g21
    exact zo_iret (zi_189 rfl) rfl ⟨rfl, rfl⟩
  · rw [if_neg hok] at h; cases h
/-- SlateHalvesModel.allBest()I -/
def f_188_4 : Nat → ZMem → Nat → Int32 → Int32 → Option (Int32 × ZMem)
  | 0, _, _, _, _ => none
  | z + 1, M, o, b1, b2 => zb (zgi M 12 0 o) fun x1 => if x1 ≤ b2 then (some (b1, M)) else (zbd (f_189 M o b2) fun x4 M6 => f_188_4 z M6 o ((b1 + x4)) ((b2 + 1)))
set_option maxRecDepth 20000 in
theorem k_188_4 (d : Nat) : ∀ (z : Nat) (M : ZMem) (o : Nat) (b1 : Int32) (b2 : Int32) (out : Int32 × ZMem), f_188_4 z M o b1 b2 = some out → zgo none (d + 7) 188 4 [(0, zrf (some o)), (1, .int b1), (2, .int b2)] [] M (some (.int out.1), out.2) := by
  intro z
  induction z with
  | zero => intro M o b1 b2 out h; cases h
  | succ z ih =>
    intro M o b1 b2 out h
    rw [f_188_4] at h
    refine zo_iload_n (p' := 5) (zi_188 rfl) rfl rfl ?_
    refine zo_aload_n (p' := 6) (zi_188 rfl) rfl rfl ?_
    obtain ⟨x1, hx2, g7⟩ := zb_of h
    refine zo_getI (p' := 9) (zi_188 rfl) rfl zl_19_7 hx2 ?_
    by_cases hc3 : x1 ≤ b2
    · rw [if_pos hc3] at g7
      refine zo_icT (p' := 26) (zi_188 rfl) rfl hc3 ?_
      refine zo_iload_n (p' := 27) (zi_188 rfl) rfl rfl ?_
      have g8 := Option.some.inj g7
      subst g8
      exact zo_iret (zi_188 rfl) rfl ⟨rfl, rfl⟩
    · rw [if_neg hc3] at g7
      refine zo_icF (p' := 12) (zi_188 rfl) rfl rfl hc3 ?_
      refine zo_iload_n (p' := 13) (zi_188 rfl) rfl rfl ?_
      refine zo_aload_n (p' := 14) (zi_188 rfl) rfl rfl ?_
      refine zo_iload_n (p' := 15) (zi_188 rfl) rfl rfl ?_
      obtain ⟨x4, M6, hx5, g9⟩ := zbd_of g7
      refine zo_callVi (p' := 18) (t := 12) (as := [.int b2]) (r := [.int b1]) (zi_188 rfl) rfl zl_19_353 rfl rfl (Or.inl ⟨by decide, rfl⟩) (Nat.le_of_ble_eq_true rfl) (Nat.le_of_ble_eq_true rfl) (f_189_ok hx5) (k_189 _ hx5) ?_
      refine zo_iadd (p' := 19) (zi_188 rfl) rfl ?_
      refine zo_istore_n (p' := 20) (L' := [(0, zrf (some o)), (1, .int ((b1 + x4))), (2, .int b2)]) (zi_188 rfl) rfl zm_188_1 ⟨Or.inr ⟨by decide, rfl, fun _ => zrf_cat _⟩, ⟨Or.inl ⟨rfl, rfl⟩, ⟨Or.inr ⟨by decide, rfl, fun q => absurd q (by decide)⟩, trivial⟩⟩⟩ ?_
      refine zo_iinc (p' := 23) (v := (b2 + 1)) (L' := [(0, zrf (some o)), (1, .int ((b1 + x4))), (2, .int ((b2 + 1)))]) (zi_188 rfl) rfl zm_188_2 rfl rfl ⟨Or.inr ⟨by decide, rfl, fun q => absurd q (by decide)⟩, ⟨Or.inr ⟨by decide, rfl, fun _ => rfl⟩, ⟨Or.inl ⟨rfl, rfl⟩, trivial⟩⟩⟩ ?_
      refine zo_goto (p' := 4) (zi_188 rfl) rfl ?_
      refine zgo_sub (L' := [(0, zrf (some o)), (1, .int (((b1 + x4)))), (2, .int (((b2 + 1))))]) (⟨rfl, rfl, rfl, trivial⟩) ?_
      exact ih M6 o ((b1 + x4)) ((b2 + 1)) _ g9
def f_188 (M : ZMem) (o : Nat) : Option (Int32 × ZMem) := if zok M 12 o = true then (f_188_4 zF M o 0 0) else none
theorem f_188_ok {M : ZMem} {o : Nat} {out : Int32 × ZMem} (h : f_188 M o = some out) : zok M 12 o = true := by
  unfold f_188 at h
  by_cases hok : zok M 12 o = true
  · exact hok
  · rw [if_neg hok] at h; cases h
set_option maxRecDepth 20000 in
theorem k_188 (d : Nat) {M : ZMem} {o : Nat} {out : Int32 × ZMem} (h : f_188 M o = some out) : zrn (d + 7) 188 [zrf (some o)] M (some (.int out.1), out.2) := by
  unfold f_188 at h
  by_cases hok : zok M 12 o = true
  · rw [if_pos hok] at h
    refine zrn_of (L := [(0, zrf (some o))]) rfl ?_
    refine zo_iconst (p' := 1) (v := 0) (zi_188 rfl) rfl rfl ?_
    refine zo_istore_n (p' := 2) (L' := [(0, zrf (some o)), (1, .int 0)]) (zi_188 rfl) rfl zm_188_1 ⟨Or.inr ⟨by decide, rfl, fun _ => zrf_cat _⟩, ⟨Or.inl ⟨rfl, rfl⟩, trivial⟩⟩ ?_
    refine zo_iconst (p' := 3) (v := 0) (zi_188 rfl) rfl rfl ?_
    refine zo_istore_n (p' := 4) (L' := [(0, zrf (some o)), (1, .int 0), (2, .int 0)]) (zi_188 rfl) rfl zm_188_2 ⟨Or.inr ⟨by decide, rfl, fun q => absurd q (by decide)⟩, ⟨Or.inr ⟨by decide, rfl, fun _ => rfl⟩, ⟨Or.inl ⟨rfl, rfl⟩, trivial⟩⟩⟩ ?_
    refine zgo_sub (L' := [(0, zrf (some o)), (1, .int 0), (2, .int 0)]) (⟨rfl, rfl, rfl, trivial⟩) ?_
    exact k_188_4 _ zF M o 0 0 _ h
  · rw [if_neg hok] at h; cases h
/-- SlateHalvesModel.told(I)I -/
def f_187 (M : ZMem) (o : Nat) (a0 : Int32) : Option (Int32 × ZMem) := if zok M 12 o = true then (if a0 = 0 then (zb (zgi M 12 1 o) fun x7 => some (x7, M)) else (if a0 = 1 then (zb (f_178 M o) fun x9 => some (x9, M)) else (if a0 = 2 then (zb (f_180 M o) fun x11 => some (x11, M)) else (if a0 = 3 then (zb (f_176 M o 4 1) fun x13 => some (x13, M)) else (if a0 = 4 then (zb (zgi M 12 2 o) fun x15 => some (x15, M)) else (if a0 = 5 then (zbd (f_188 M o) fun x17 M19 => some (x17, M19)) else (some ((-1), M)))))))) else none
theorem f_187_ok {M : ZMem} {o : Nat} {a0 : Int32} {out : Int32 × ZMem} (h : f_187 M o a0 = some out) : zok M 12 o = true := by
  unfold f_187 at h
  by_cases hok : zok M 12 o = true
  · exact hok
  · rw [if_neg hok] at h; cases h
set_option maxRecDepth 20000 in
theorem k_187 (d : Nat) {M : ZMem} {o : Nat} {a0 : Int32} {out : Int32 × ZMem} (h : f_187 M o a0 = some out) : zrn (d + 8) 187 [zrf (some o), .int a0] M (some (.int out.1), out.2) := by
  unfold f_187 at h
  by_cases hok : zok M 12 o = true
  · rw [if_pos hok] at h
    refine zrn_of (L := [(0, zrf (some o)), (1, .int a0)]) rfl ?_
    refine zo_iload_n (p' := 1) (zi_187 rfl) rfl rfl ?_
    by_cases hc1 : a0 = 0
    · rw [if_pos hc1] at h
      refine zo_table (p' := 40) (n := 39) (zi_187 rfl) (by decide) (zsel_hit hc1 (by decide)) rfl ?_
      refine zo_aload_n (p' := 41) (zi_187 rfl) rfl rfl ?_
      obtain ⟨x7, hx8, g20⟩ := zb_of h
      refine zo_getI (p' := 44) (zi_187 rfl) rfl zl_19_13 hx8 ?_
      have g21 := Option.some.inj g20
      subst g21
      exact zo_iret (zi_187 rfl) rfl ⟨rfl, rfl⟩
    · rw [if_neg hc1] at h
      by_cases hc2 : a0 = 1
      · rw [if_pos hc2] at h
        refine zo_table (p' := 45) (n := 44) (zi_187 rfl) (by decide) (zsel_skip hc1 (by decide) (zsel_hit hc2 (by decide))) rfl ?_
        refine zo_aload_n (p' := 46) (zi_187 rfl) rfl rfl ?_
        obtain ⟨x9, hx10, g22⟩ := zb_of h
        refine zo_callVi (p' := 49) (t := 12) (as := []) (r := []) (zi_187 rfl) rfl zl_19_307 rfl rfl (Or.inl ⟨by decide, rfl⟩) (Nat.le_of_ble_eq_true rfl) (Nat.le_of_ble_eq_true rfl) (f_178_ok hx10) (k_178 _ hx10) ?_
        have g23 := Option.some.inj g22
        subst g23
        exact zo_iret (zi_187 rfl) rfl ⟨rfl, rfl⟩
      · rw [if_neg hc2] at h
        by_cases hc3 : a0 = 2
        · rw [if_pos hc3] at h
          refine zo_table (p' := 50) (n := 49) (zi_187 rfl) (by decide) (zsel_skip hc1 (by decide) (zsel_skip hc2 (by decide) (zsel_hit hc3 (by decide)))) rfl ?_
          refine zo_aload_n (p' := 51) (zi_187 rfl) rfl rfl ?_
          obtain ⟨x11, hx12, g24⟩ := zb_of h
          refine zo_callVi (p' := 54) (t := 12) (as := []) (r := []) (zi_187 rfl) rfl zl_19_325 rfl rfl (Or.inl ⟨by decide, rfl⟩) (Nat.le_of_ble_eq_true rfl) (Nat.le_of_ble_eq_true rfl) (f_180_ok hx12) (k_180 _ hx12) ?_
          have g25 := Option.some.inj g24
          subst g25
          exact zo_iret (zi_187 rfl) rfl ⟨rfl, rfl⟩
        · rw [if_neg hc3] at h
          by_cases hc4 : a0 = 3
          · rw [if_pos hc4] at h
            refine zo_table (p' := 55) (n := 54) (zi_187 rfl) (by decide) (zsel_skip hc1 (by decide) (zsel_skip hc2 (by decide) (zsel_skip hc3 (by decide) (zsel_hit hc4 (by decide))))) rfl ?_
            refine zo_aload_n (p' := 56) (zi_187 rfl) rfl rfl ?_
            refine zo_iconst (p' := 57) (v := 4) (zi_187 rfl) rfl rfl ?_
            refine zo_iconst (p' := 58) (v := 1) (zi_187 rfl) rfl rfl ?_
            obtain ⟨x13, hx14, g26⟩ := zb_of h
            refine zo_callVi (p' := 61) (t := 12) (as := [.int 4, .int 1]) (r := []) (zi_187 rfl) rfl zl_19_300 rfl rfl (Or.inl ⟨by decide, rfl⟩) (Nat.le_of_ble_eq_true rfl) (Nat.le_of_ble_eq_true rfl) (f_176_ok hx14) (k_176 _ hx14) ?_
            have g27 := Option.some.inj g26
            subst g27
            exact zo_iret (zi_187 rfl) rfl ⟨rfl, rfl⟩
          · rw [if_neg hc4] at h
            by_cases hc5 : a0 = 4
            · rw [if_pos hc5] at h
              refine zo_table (p' := 62) (n := 61) (zi_187 rfl) (by decide) (zsel_skip hc1 (by decide) (zsel_skip hc2 (by decide) (zsel_skip hc3 (by decide) (zsel_skip hc4 (by decide) (zsel_hit hc5 (by decide)))))) rfl ?_
              refine zo_aload_n (p' := 63) (zi_187 rfl) rfl rfl ?_
              obtain ⟨x15, hx16, g28⟩ := zb_of h
              refine zo_getI (p' := 66) (zi_187 rfl) rfl zl_19_16 hx16 ?_
              have g29 := Option.some.inj g28
              subst g29
              exact zo_iret (zi_187 rfl) rfl ⟨rfl, rfl⟩
            · rw [if_neg hc5] at h
              by_cases hc6 : a0 = 5
              · rw [if_pos hc6] at h
                refine zo_table (p' := 67) (n := 66) (zi_187 rfl) (by decide) (zsel_skip hc1 (by decide) (zsel_skip hc2 (by decide) (zsel_skip hc3 (by decide) (zsel_skip hc4 (by decide) (zsel_skip hc5 (by decide) (zsel_hit hc6 (by decide))))))) rfl ?_
                refine zo_aload_n (p' := 68) (zi_187 rfl) rfl rfl ?_
                obtain ⟨x17, M19, hx18, g30⟩ := zbd_of h
                refine zo_callVi (p' := 71) (t := 12) (as := []) (r := []) (zi_187 rfl) rfl zl_19_356 rfl rfl (Or.inl ⟨by decide, rfl⟩) (Nat.le_of_ble_eq_true rfl) (Nat.le_of_ble_eq_true rfl) (f_188_ok hx18) (k_188 _ hx18) ?_
                have g31 := Option.some.inj g30
                subst g31
                exact zo_iret (zi_187 rfl) rfl ⟨rfl, rfl⟩
              · rw [if_neg hc6] at h
                refine zo_table (p' := 72) (n := 71) (zi_187 rfl) (by decide) (zsel_skip hc1 (by decide) (zsel_skip hc2 (by decide) (zsel_skip hc3 (by decide) (zsel_skip hc4 (by decide) (zsel_skip hc5 (by decide) (zsel_skip hc6 (by decide) (rfl))))))) rfl ?_
                refine zo_iconst (p' := 73) (v := (-1)) (zi_187 rfl) rfl rfl ?_
                have g32 := Option.some.inj h
                subst g32
                exact zo_iret (zi_187 rfl) rfl ⟨rfl, rfl⟩
  · rw [if_neg hok] at h; cases h
/-- SlateHalvesModel.strike(II)I -/
def f_190_183 : Nat → ZMem → Nat → Int32 → Int32 → Option (Int32 × ZMem)
  | 0, _, _, _, _ => none
  | z + 1, M, o, b1, b2 => if 4 ≤ b2 then (zb (zgi M 12 0 o) fun x143 => zb (zpf M 12 0 o (.int ((x143 + 1))) false) fun M145 => some (1, M145)) else (zb (zgr M 12 8 o) fun r147 => zb (zgi M 12 0 o) fun x149 => zb (zgr M 12 8 o) fun r151 => zb r151 fun q153 => zb (zai M q153 ((4 * b1) + b2)) fun x154 => zb r147 fun q156 => zb (zsa M 20 q156 ((4 * x149) + b2) x154) fun M157 => f_190_183 z M157 o b1 ((b2 + 1)))
def f_190_105 (M : ZMem) (o : Nat) (b1 : Int32) (b2 : Int32) (b3 : Int32) (b4 : Int32) (b5 : Int32) (b6 : Int32) (b7 : Option Nat) : Option (Int32 × ZMem) := zb b7 fun q56 => zb (zsa M 20 q56 b6 b5) fun M57 => if ¬ b4 = 0 then (zb (zgr M57 12 3 o) fun r60 => zb (zgi M57 12 0 o) fun x62 => zb (zgr M57 12 3 o) fun r64 => zb r64 fun q66 => zb (zai M57 q66 b1) fun x67 => zb r60 fun q69 => zb (zsa M57 20 q69 x62 x67) fun M70 => zb (zgr M70 12 4 o) fun r72 => zb (zgi M70 12 0 o) fun x74 => zb (zgr M70 12 4 o) fun r76 => zb r76 fun q78 => zb (zai M70 q78 b1) fun x79 => zb r72 fun q81 => zb (zsa M70 20 q81 x74 x79) fun M82 => zb (zgr M82 12 5 o) fun r84 => zb (zgi M82 12 0 o) fun x86 => zb r84 fun q88 => zb (zsa M82 20 q88 x86 (b3 - b2)) fun M89 => zb (zgr M89 12 6 o) fun r91 => zb (zgi M89 12 0 o) fun x93 => zb (zgr M89 12 6 o) fun r95 => zb r95 fun q97 => zb (zai M89 q97 b1) fun x98 => zb r91 fun q100 => zb (zsa M89 20 q100 x93 x98) fun M101 => zb (zgr M101 12 7 o) fun r103 => zb (zgi M101 12 0 o) fun x105 => zb r103 fun q107 => zb (zsa M101 20 q107 x105 0) fun M108 => f_190_183 zF M108 o b1 0) else (some (0, M57))
def f_190_73 (M : ZMem) (o : Nat) (b1 : Int32) (b2 : Int32) (b3 : Int32) (b4 : Int32) : Option (Int32 × ZMem) := zb (zgr M 12 7 o) fun r38 => zb r38 fun q40 => zb (zai M q40 b1) fun x41 => zb (zsa M 20 q40 b1 (x41 + 1)) fun M43 => zb (zgr M43 12 5 o) fun r45 => if b4 = 0 then (zb (f_179 M43 o b2 ((b3 - b2))) fun x48 => f_190_105 M43 o b1 b2 b3 b4 x48 b1 r45) else (f_190_105 M43 o b1 b2 b3 b4 b2 b1 r45)
set_option maxRecDepth 20000 in
theorem k_190_183 (d : Nat) : ∀ (z : Nat) (M : ZMem) (o : Nat) (b1 : Int32) (b2 : Int32) (out : Int32 × ZMem), f_190_183 z M o b1 b2 = some out → zgo none (d + 4) 190 183 [(0, zrf (some o)), (1, .int b1), (5, .int b2)] [] M (some (.int out.1), out.2) := by
  intro z
  induction z with
  | zero => intro M o b1 b2 out h; cases h
  | succ z ih =>
    intro M o b1 b2 out h
    rw [f_190_183] at h
    refine zo_iload (p' := 185) (zi_190 rfl) rfl rfl ?_
    refine zo_iconst (p' := 186) (v := 4) (zi_190 rfl) rfl rfl ?_
    by_cases hc142 : 4 ≤ b2
    · rw [if_pos hc142] at h
      refine zo_icT (p' := 220) (zi_190 rfl) rfl hc142 ?_
      refine zo_aload_n (p' := 221) (zi_190 rfl) rfl rfl ?_
      refine zo_dup (p' := 222) (zi_190 rfl) rfl (zrf_cat _) ?_
      obtain ⟨x143, hx144, g159⟩ := zb_of h
      refine zo_getI (p' := 225) (zi_190 rfl) rfl zl_19_7 hx144 ?_
      refine zo_iconst (p' := 226) (v := 1) (zi_190 rfl) rfl rfl ?_
      refine zo_iadd (p' := 227) (zi_190 rfl) rfl ?_
      obtain ⟨M145, hx146, g160⟩ := zb_of g159
      refine zo_putI (p' := 230) (zi_190 rfl) rfl zl_19_7 (zpb_190 _) hx146 ?_
      refine zo_iconst (p' := 231) (v := 1) (zi_190 rfl) rfl rfl ?_
      have g161 := Option.some.inj g160
      subst g161
      exact zo_iret (zi_190 rfl) rfl ⟨rfl, rfl⟩
    · rw [if_neg hc142] at h
      refine zo_icF (p' := 189) (zi_190 rfl) rfl rfl hc142 ?_
      refine zo_aload_n (p' := 190) (zi_190 rfl) rfl rfl ?_
      obtain ⟨r147, hx148, g162⟩ := zb_of h
      refine zo_getR (p' := 193) (zi_190 rfl) rfl zl_19_35 hx148 ?_
      refine zo_iconst (p' := 194) (v := 4) (zi_190 rfl) rfl rfl ?_
      refine zo_aload_n (p' := 195) (zi_190 rfl) rfl rfl ?_
      obtain ⟨x149, hx150, g163⟩ := zb_of g162
      refine zo_getI (p' := 198) (zi_190 rfl) rfl zl_19_7 hx150 ?_
      refine zo_imul (p' := 199) (zi_190 rfl) rfl ?_
      refine zo_iload (p' := 201) (zi_190 rfl) rfl rfl ?_
      refine zo_iadd (p' := 202) (zi_190 rfl) rfl ?_
      refine zo_aload_n (p' := 203) (zi_190 rfl) rfl rfl ?_
      obtain ⟨r151, hx152, g164⟩ := zb_of g163
      refine zo_getR (p' := 206) (zi_190 rfl) rfl zl_19_35 hx152 ?_
      refine zo_iconst (p' := 207) (v := 4) (zi_190 rfl) rfl rfl ?_
      refine zo_iload_n (p' := 208) (zi_190 rfl) rfl rfl ?_
      refine zo_imul (p' := 209) (zi_190 rfl) rfl ?_
      refine zo_iload (p' := 211) (zi_190 rfl) rfl rfl ?_
      refine zo_iadd (p' := 212) (zi_190 rfl) rfl ?_
      obtain ⟨q153, h0, g165⟩ := zb_of g164
      subst h0
      obtain ⟨x154, hx155, g166⟩ := zb_of g165
      refine zo_iald (p' := 213) (zi_190 rfl) rfl hx155 ?_
      obtain ⟨q156, h0, g167⟩ := zb_of g166
      subst h0
      obtain ⟨M157, hx158, g168⟩ := zb_of g167
      refine zo_iast (p' := 214) (zi_190 rfl) rfl hx158 ?_
      refine zo_iinc (p' := 217) (v := (b2 + 1)) (L' := [(0, zrf (some o)), (1, .int b1), (5, .int ((b2 + 1)))]) (zi_190 rfl) rfl zm_190_5 rfl rfl ⟨Or.inr ⟨by decide, rfl, fun q => absurd q (by decide)⟩, ⟨Or.inr ⟨by decide, rfl, fun q => absurd q (by decide)⟩, ⟨Or.inl ⟨rfl, rfl⟩, trivial⟩⟩⟩ ?_
      refine zo_goto (p' := 183) (zi_190 rfl) rfl ?_
      refine zgo_sub (L' := [(0, zrf (some o)), (1, .int b1), (5, .int (((b2 + 1))))]) (⟨rfl, rfl, rfl, trivial⟩) ?_
      exact ih M157 o b1 ((b2 + 1)) _ g168
set_option maxRecDepth 20000 in
theorem k_190_105 (d : Nat) : ∀ (M : ZMem) (o : Nat) (b1 : Int32) (b2 : Int32) (b3 : Int32) (b4 : Int32) (b5 : Int32) (b6 : Int32) (b7 : Option Nat) (out : Int32 × ZMem), f_190_105 M o b1 b2 b3 b4 b5 b6 b7 = some out → zgo none (d + 4) 190 105 [(0, zrf (some o)), (1, .int b1), (2, .int b2), (3, .int b3), (4, .int b4)] [.int b5, .int b6, zrf b7] M (some (.int out.1), out.2) := by
  intro M o b1 b2 b3 b4 b5 b6 b7 out h
  unfold f_190_105 at h
  obtain ⟨q56, h0, g110⟩ := zb_of h
  subst h0
  obtain ⟨M57, hx58, g111⟩ := zb_of g110
  refine zo_iast (p' := 106) (zi_190 rfl) rfl hx58 ?_
  refine zo_iload (p' := 108) (zi_190 rfl) rfl rfl ?_
  by_cases hc59 : ¬ b4 = 0
  · rw [if_pos hc59] at g111
    refine zo_ifT (p' := 113) (zi_190 rfl) rfl hc59 ?_
    refine zo_aload_n (p' := 114) (zi_190 rfl) rfl rfl ?_
    obtain ⟨r60, hx61, g112⟩ := zb_of g111
    refine zo_getR (p' := 117) (zi_190 rfl) rfl zl_19_19 hx61 ?_
    refine zo_aload_n (p' := 118) (zi_190 rfl) rfl rfl ?_
    obtain ⟨x62, hx63, g113⟩ := zb_of g112
    refine zo_getI (p' := 121) (zi_190 rfl) rfl zl_19_7 hx63 ?_
    refine zo_aload_n (p' := 122) (zi_190 rfl) rfl rfl ?_
    obtain ⟨r64, hx65, g114⟩ := zb_of g113
    refine zo_getR (p' := 125) (zi_190 rfl) rfl zl_19_19 hx65 ?_
    refine zo_iload_n (p' := 126) (zi_190 rfl) rfl rfl ?_
    obtain ⟨q66, h0, g115⟩ := zb_of g114
    subst h0
    obtain ⟨x67, hx68, g116⟩ := zb_of g115
    refine zo_iald (p' := 127) (zi_190 rfl) rfl hx68 ?_
    obtain ⟨q69, h0, g117⟩ := zb_of g116
    subst h0
    obtain ⟨M70, hx71, g118⟩ := zb_of g117
    refine zo_iast (p' := 128) (zi_190 rfl) rfl hx71 ?_
    refine zo_aload_n (p' := 129) (zi_190 rfl) rfl rfl ?_
    obtain ⟨r72, hx73, g119⟩ := zb_of g118
    refine zo_getR (p' := 132) (zi_190 rfl) rfl zl_19_23 hx73 ?_
    refine zo_aload_n (p' := 133) (zi_190 rfl) rfl rfl ?_
    obtain ⟨x74, hx75, g120⟩ := zb_of g119
    refine zo_getI (p' := 136) (zi_190 rfl) rfl zl_19_7 hx75 ?_
    refine zo_aload_n (p' := 137) (zi_190 rfl) rfl rfl ?_
    obtain ⟨r76, hx77, g121⟩ := zb_of g120
    refine zo_getR (p' := 140) (zi_190 rfl) rfl zl_19_23 hx77 ?_
    refine zo_iload_n (p' := 141) (zi_190 rfl) rfl rfl ?_
    obtain ⟨q78, h0, g122⟩ := zb_of g121
    subst h0
    obtain ⟨x79, hx80, g123⟩ := zb_of g122
    refine zo_iald (p' := 142) (zi_190 rfl) rfl hx80 ?_
    obtain ⟨q81, h0, g124⟩ := zb_of g123
    subst h0
    obtain ⟨M82, hx83, g125⟩ := zb_of g124
    refine zo_iast (p' := 143) (zi_190 rfl) rfl hx83 ?_
    refine zo_aload_n (p' := 144) (zi_190 rfl) rfl rfl ?_
    obtain ⟨r84, hx85, g126⟩ := zb_of g125
    refine zo_getR (p' := 147) (zi_190 rfl) rfl zl_19_26 hx85 ?_
    refine zo_aload_n (p' := 148) (zi_190 rfl) rfl rfl ?_
    obtain ⟨x86, hx87, g127⟩ := zb_of g126
    refine zo_getI (p' := 151) (zi_190 rfl) rfl zl_19_7 hx87 ?_
    refine zo_iload_n (p' := 152) (zi_190 rfl) rfl rfl ?_
    refine zo_iload_n (p' := 153) (zi_190 rfl) rfl rfl ?_
    refine zo_isub (p' := 154) (zi_190 rfl) rfl ?_
    obtain ⟨q88, h0, g128⟩ := zb_of g127
    subst h0
    obtain ⟨M89, hx90, g129⟩ := zb_of g128
    refine zo_iast (p' := 155) (zi_190 rfl) rfl hx90 ?_
    refine zo_aload_n (p' := 156) (zi_190 rfl) rfl rfl ?_
    obtain ⟨r91, hx92, g130⟩ := zb_of g129
    refine zo_getR (p' := 159) (zi_190 rfl) rfl zl_19_29 hx92 ?_
    refine zo_aload_n (p' := 160) (zi_190 rfl) rfl rfl ?_
    obtain ⟨x93, hx94, g131⟩ := zb_of g130
    refine zo_getI (p' := 163) (zi_190 rfl) rfl zl_19_7 hx94 ?_
    refine zo_aload_n (p' := 164) (zi_190 rfl) rfl rfl ?_
    obtain ⟨r95, hx96, g132⟩ := zb_of g131
    refine zo_getR (p' := 167) (zi_190 rfl) rfl zl_19_29 hx96 ?_
    refine zo_iload_n (p' := 168) (zi_190 rfl) rfl rfl ?_
    obtain ⟨q97, h0, g133⟩ := zb_of g132
    subst h0
    obtain ⟨x98, hx99, g134⟩ := zb_of g133
    refine zo_iald (p' := 169) (zi_190 rfl) rfl hx99 ?_
    obtain ⟨q100, h0, g135⟩ := zb_of g134
    subst h0
    obtain ⟨M101, hx102, g136⟩ := zb_of g135
    refine zo_iast (p' := 170) (zi_190 rfl) rfl hx102 ?_
    refine zo_aload_n (p' := 171) (zi_190 rfl) rfl rfl ?_
    obtain ⟨r103, hx104, g137⟩ := zb_of g136
    refine zo_getR (p' := 174) (zi_190 rfl) rfl zl_19_32 hx104 ?_
    refine zo_aload_n (p' := 175) (zi_190 rfl) rfl rfl ?_
    obtain ⟨x105, hx106, g138⟩ := zb_of g137
    refine zo_getI (p' := 178) (zi_190 rfl) rfl zl_19_7 hx106 ?_
    refine zo_iconst (p' := 179) (v := 0) (zi_190 rfl) rfl rfl ?_
    obtain ⟨q107, h0, g139⟩ := zb_of g138
    subst h0
    obtain ⟨M108, hx109, g140⟩ := zb_of g139
    refine zo_iast (p' := 180) (zi_190 rfl) rfl hx109 ?_
    refine zo_iconst (p' := 181) (v := 0) (zi_190 rfl) rfl rfl ?_
    refine zo_istore (p' := 183) (L' := [(0, zrf (some o)), (1, .int b1), (2, .int b2), (3, .int b3), (4, .int b4), (5, .int 0)]) (zi_190 rfl) rfl zm_190_5 ⟨Or.inr ⟨by decide, rfl, fun q => absurd q (by decide)⟩, ⟨Or.inr ⟨by decide, rfl, fun q => absurd q (by decide)⟩, ⟨Or.inr ⟨by decide, rfl, fun q => absurd q (by decide)⟩, ⟨Or.inr ⟨by decide, rfl, fun q => absurd q (by decide)⟩, ⟨Or.inr ⟨by decide, rfl, fun _ => rfl⟩, ⟨Or.inl ⟨rfl, rfl⟩, trivial⟩⟩⟩⟩⟩⟩ ?_
    refine zgo_sub (L' := [(0, zrf (some o)), (1, .int b1), (5, .int 0)]) (⟨rfl, rfl, rfl, trivial⟩) ?_
    exact k_190_183 _ zF M108 o b1 0 _ g140
  · rw [if_neg hc59] at g111
    refine zo_ifF (p' := 111) (zi_190 rfl) rfl rfl hc59 ?_
    refine zo_iconst (p' := 112) (v := 0) (zi_190 rfl) rfl rfl ?_
    have g141 := Option.some.inj g111
    subst g141
    exact zo_iret (zi_190 rfl) rfl ⟨rfl, rfl⟩
set_option maxRecDepth 20000 in
theorem k_190_73 (d : Nat) : ∀ (M : ZMem) (o : Nat) (b1 : Int32) (b2 : Int32) (b3 : Int32) (b4 : Int32) (out : Int32 × ZMem), f_190_73 M o b1 b2 b3 b4 = some out → zgo none (d + 4) 190 73 [(0, zrf (some o)), (1, .int b1), (2, .int b2), (3, .int b3), (4, .int b4)] [] M (some (.int out.1), out.2) := by
  intro M o b1 b2 b3 b4 out h
  unfold f_190_73 at h
  refine zo_aload_n (p' := 74) (zi_190 rfl) rfl rfl ?_
  obtain ⟨r38, hx39, g50⟩ := zb_of h
  refine zo_getR (p' := 77) (zi_190 rfl) rfl zl_19_32 hx39 ?_
  refine zo_iload_n (p' := 78) (zi_190 rfl) rfl rfl ?_
  refine zo_dup2 (p' := 79) (zi_190 rfl) rfl ⟨rfl, zrf_cat _⟩ ?_
  obtain ⟨q40, h0, g51⟩ := zb_of g50
  subst h0
  obtain ⟨x41, hx42, g52⟩ := zb_of g51
  refine zo_iald (p' := 80) (zi_190 rfl) rfl hx42 ?_
  refine zo_iconst (p' := 81) (v := 1) (zi_190 rfl) rfl rfl ?_
  refine zo_iadd (p' := 82) (zi_190 rfl) rfl ?_
  obtain ⟨M43, hx44, g53⟩ := zb_of g52
  refine zo_iast (p' := 83) (zi_190 rfl) rfl hx44 ?_
  refine zo_aload_n (p' := 84) (zi_190 rfl) rfl rfl ?_
  obtain ⟨r45, hx46, g54⟩ := zb_of g53
  refine zo_getR (p' := 87) (zi_190 rfl) rfl zl_19_26 hx46 ?_
  refine zo_iload_n (p' := 88) (zi_190 rfl) rfl rfl ?_
  refine zo_iload (p' := 90) (zi_190 rfl) rfl rfl ?_
  by_cases hc47 : b4 = 0
  · rw [if_pos hc47] at g54
    refine zo_ifT (p' := 97) (zi_190 rfl) rfl hc47 ?_
    refine zo_aload_n (p' := 98) (zi_190 rfl) rfl rfl ?_
    refine zo_iload_n (p' := 99) (zi_190 rfl) rfl rfl ?_
    refine zo_iload_n (p' := 100) (zi_190 rfl) rfl rfl ?_
    refine zo_iload_n (p' := 101) (zi_190 rfl) rfl rfl ?_
    refine zo_isub (p' := 102) (zi_190 rfl) rfl ?_
    obtain ⟨x48, hx49, g55⟩ := zb_of g54
    refine zo_callVi (p' := 105) (t := 12) (as := [.int b2, .int ((b3 - b2))]) (r := [.int b1, zrf r45]) (zi_190 rfl) rfl zl_19_304 rfl rfl (Or.inl ⟨by decide, rfl⟩) (by simp [zrf_cat, zcat_i, zcat_l, zcat_r]) (Nat.le_of_ble_eq_true rfl) (f_179_ok hx49) (k_179 _ hx49) ?_
    refine zgo_sub (L' := [(0, zrf (some o)), (1, .int b1), (2, .int b2), (3, .int b3), (4, .int b4)]) (⟨rfl, rfl, rfl, rfl, rfl, trivial⟩) ?_
    exact k_190_105 _ M43 o b1 b2 b3 b4 x48 b1 r45 _ g55
  · rw [if_neg hc47] at g54
    refine zo_ifF (p' := 93) (zi_190 rfl) rfl rfl hc47 ?_
    refine zo_iload_n (p' := 94) (zi_190 rfl) rfl rfl ?_
    refine zo_goto (p' := 105) (zi_190 rfl) rfl ?_
    refine zgo_sub (L' := [(0, zrf (some o)), (1, .int b1), (2, .int b2), (3, .int b3), (4, .int b4)]) (⟨rfl, rfl, rfl, rfl, rfl, trivial⟩) ?_
    exact k_190_105 _ M43 o b1 b2 b3 b4 b2 b1 r45 _ g54
def f_190 (M : ZMem) (o : Nat) (a0 : Int32) (a1 : Int32) : Option (Int32 × ZMem) := if zok M 12 o = true then (zb (f_149 M o a0) fun x1 => if ¬ x1 = 0 then (zb (zgr M 12 5 o) fun r4 => zb r4 fun q6 => zb (zai M q6 a0) fun x7 => zb (f_147 M o a1 1 ((x7 - 1))) fun x9 => if ¬ x9 = 0 then (zb (zgr M 12 7 o) fun r12 => zb r12 fun q14 => zb (zai M q14 a0) fun x15 => if ¬ x15 = 9999 then (zb (f_183 M o a0 x7 a1) fun x18 => if x18 = 0 then (f_190_73 M o a0 a1 x7 x18) else (zb (zgi M 12 0 o) fun x21 => if ¬ x21 = 6 then (f_190_73 M o a0 a1 x7 x18) else (some ((-4), M)))) else (some ((-3), M))) else (some ((-2), M))) else (some ((-1), M))) else none
theorem f_190_ok {M : ZMem} {o : Nat} {a0 : Int32} {a1 : Int32} {out : Int32 × ZMem} (h : f_190 M o a0 a1 = some out) : zok M 12 o = true := by
  unfold f_190 at h
  by_cases hok : zok M 12 o = true
  · exact hok
  · rw [if_neg hok] at h; cases h
set_option maxRecDepth 20000 in
theorem k_190 (d : Nat) {M : ZMem} {o : Nat} {a0 : Int32} {a1 : Int32} {out : Int32 × ZMem} (h : f_190 M o a0 a1 = some out) : zrn (d + 4) 190 [zrf (some o), .int a0, .int a1] M (some (.int out.1), out.2) := by
  unfold f_190 at h
  by_cases hok : zok M 12 o = true
  · rw [if_pos hok] at h
    refine zrn_of (L := [(0, zrf (some o)), (1, .int a0), (2, .int a1)]) rfl ?_
    refine zo_aload_n (p' := 1) (zi_190 rfl) rfl rfl ?_
    refine zo_iload_n (p' := 2) (zi_190 rfl) rfl rfl ?_
    obtain ⟨x1, hx2, g24⟩ := zb_of h
    refine zo_callVi (p' := 5) (t := 12) (as := [.int a0]) (r := []) (zi_190 rfl) rfl zl_19_243 rfl rfl (Or.inl ⟨by decide, rfl⟩) (Nat.le_of_ble_eq_true rfl) (Nat.le_of_ble_eq_true rfl) (f_149_ok hx2) (k_149 _ hx2) ?_
    by_cases hc3 : ¬ x1 = 0
    · rw [if_pos hc3] at g24
      refine zo_ifT (p' := 10) (zi_190 rfl) rfl hc3 ?_
      refine zo_aload_n (p' := 11) (zi_190 rfl) rfl rfl ?_
      obtain ⟨r4, hx5, g25⟩ := zb_of g24
      refine zo_getR (p' := 14) (zi_190 rfl) rfl zl_19_26 hx5 ?_
      refine zo_iload_n (p' := 15) (zi_190 rfl) rfl rfl ?_
      obtain ⟨q6, h0, g26⟩ := zb_of g25
      subst h0
      obtain ⟨x7, hx8, g27⟩ := zb_of g26
      refine zo_iald (p' := 16) (zi_190 rfl) rfl hx8 ?_
      refine zo_istore_n (p' := 17) (L' := [(0, zrf (some o)), (1, .int a0), (2, .int a1), (3, .int x7)]) (zi_190 rfl) rfl zm_190_3 ⟨Or.inr ⟨by decide, rfl, fun q => absurd q (by decide)⟩, ⟨Or.inr ⟨by decide, rfl, fun q => absurd q (by decide)⟩, ⟨Or.inr ⟨by decide, rfl, fun _ => rfl⟩, ⟨Or.inl ⟨rfl, rfl⟩, trivial⟩⟩⟩⟩ ?_
      refine zo_aload_n (p' := 18) (zi_190 rfl) rfl rfl ?_
      refine zo_iload_n (p' := 19) (zi_190 rfl) rfl rfl ?_
      refine zo_iconst (p' := 20) (v := 1) (zi_190 rfl) rfl rfl ?_
      refine zo_iload_n (p' := 21) (zi_190 rfl) rfl rfl ?_
      refine zo_iconst (p' := 22) (v := 1) (zi_190 rfl) rfl rfl ?_
      refine zo_isub (p' := 23) (zi_190 rfl) rfl ?_
      obtain ⟨x9, hx10, g28⟩ := zb_of g27
      refine zo_callVi (p' := 26) (t := 12) (as := [.int a1, .int 1, .int ((x7 - 1))]) (r := []) (zi_190 rfl) rfl zl_19_239 rfl rfl (Or.inl ⟨by decide, rfl⟩) (Nat.le_of_ble_eq_true rfl) (Nat.le_of_ble_eq_true rfl) (f_147_ok hx10) (k_147 _ hx10) ?_
      by_cases hc11 : ¬ x9 = 0
      · rw [if_pos hc11] at g28
        refine zo_ifT (p' := 32) (zi_190 rfl) rfl hc11 ?_
        refine zo_aload_n (p' := 33) (zi_190 rfl) rfl rfl ?_
        obtain ⟨r12, hx13, g29⟩ := zb_of g28
        refine zo_getR (p' := 36) (zi_190 rfl) rfl zl_19_32 hx13 ?_
        refine zo_iload_n (p' := 37) (zi_190 rfl) rfl rfl ?_
        obtain ⟨q14, h0, g30⟩ := zb_of g29
        subst h0
        obtain ⟨x15, hx16, g31⟩ := zb_of g30
        refine zo_iald (p' := 38) (zi_190 rfl) rfl hx16 ?_
        refine zo_sipush (p' := 41) (v := 9999) (zi_190 rfl) rfl rfl ?_
        by_cases hc17 : ¬ x15 = 9999
        · rw [if_pos hc17] at g31
          refine zo_icT (p' := 47) (zi_190 rfl) rfl hc17 ?_
          refine zo_aload_n (p' := 48) (zi_190 rfl) rfl rfl ?_
          refine zo_iload_n (p' := 49) (zi_190 rfl) rfl rfl ?_
          refine zo_iload_n (p' := 50) (zi_190 rfl) rfl rfl ?_
          refine zo_iload_n (p' := 51) (zi_190 rfl) rfl rfl ?_
          obtain ⟨x18, hx19, g32⟩ := zb_of g31
          refine zo_callVi (p' := 54) (t := 12) (as := [.int a0, .int x7, .int a1]) (r := []) (zi_190 rfl) rfl zl_19_331 rfl rfl (Or.inl ⟨by decide, rfl⟩) (Nat.le_of_ble_eq_true rfl) (Nat.le_of_ble_eq_true rfl) (f_183_ok hx19) (k_183 _ hx19) ?_
          refine zo_istore (p' := 56) (L' := [(0, zrf (some o)), (1, .int a0), (2, .int a1), (3, .int x7), (4, .int x18)]) (zi_190 rfl) rfl zm_190_4 ⟨Or.inr ⟨by decide, rfl, fun q => absurd q (by decide)⟩, ⟨Or.inr ⟨by decide, rfl, fun q => absurd q (by decide)⟩, ⟨Or.inr ⟨by decide, rfl, fun q => absurd q (by decide)⟩, ⟨Or.inr ⟨by decide, rfl, fun _ => rfl⟩, ⟨Or.inl ⟨rfl, rfl⟩, trivial⟩⟩⟩⟩⟩ ?_
          refine zo_iload (p' := 58) (zi_190 rfl) rfl rfl ?_
          by_cases hc20 : x18 = 0
          · rw [if_pos hc20] at g32
            refine zo_ifT (p' := 73) (zi_190 rfl) rfl hc20 ?_
            refine zgo_sub (L' := [(0, zrf (some o)), (1, .int a0), (2, .int a1), (3, .int x7), (4, .int x18)]) (⟨rfl, rfl, rfl, rfl, rfl, trivial⟩) ?_
            exact k_190_73 _ M o a0 a1 x7 x18 _ g32
          · rw [if_neg hc20] at g32
            refine zo_ifF (p' := 61) (zi_190 rfl) rfl rfl hc20 ?_
            refine zo_aload_n (p' := 62) (zi_190 rfl) rfl rfl ?_
            obtain ⟨x21, hx22, g33⟩ := zb_of g32
            refine zo_getI (p' := 65) (zi_190 rfl) rfl zl_19_7 hx22 ?_
            refine zo_bipush (p' := 67) (v := 6) (zi_190 rfl) rfl rfl ?_
            by_cases hc23 : ¬ x21 = 6
            · rw [if_pos hc23] at g33
              refine zo_icT (p' := 73) (zi_190 rfl) rfl hc23 ?_
              refine zgo_sub (L' := [(0, zrf (some o)), (1, .int a0), (2, .int a1), (3, .int x7), (4, .int x18)]) (⟨rfl, rfl, rfl, rfl, rfl, trivial⟩) ?_
              exact k_190_73 _ M o a0 a1 x7 x18 _ g33
            · rw [if_neg hc23] at g33
              refine zo_icF (p' := 70) (zi_190 rfl) rfl rfl hc23 ?_
              refine zo_bipush (p' := 72) (v := (-4)) (zi_190 rfl) rfl rfl ?_
              have g34 := Option.some.inj g33
              subst g34
              exact zo_iret (zi_190 rfl) rfl ⟨rfl, rfl⟩
        · rw [if_neg hc17] at g31
          refine zo_icF (p' := 44) (zi_190 rfl) rfl rfl hc17 ?_
          refine zo_bipush (p' := 46) (v := (-3)) (zi_190 rfl) rfl rfl ?_
          have g35 := Option.some.inj g31
          subst g35
          exact zo_iret (zi_190 rfl) rfl ⟨rfl, rfl⟩
      · rw [if_neg hc11] at g28
        refine zo_ifF (p' := 29) (zi_190 rfl) rfl rfl hc11 ?_
        refine zo_bipush (p' := 31) (v := (-2)) (zi_190 rfl) rfl rfl ?_
        have g36 := Option.some.inj g28
        subst g36
        exact zo_iret (zi_190 rfl) rfl ⟨rfl, rfl⟩
    · rw [if_neg hc3] at g24
      refine zo_ifF (p' := 8) (zi_190 rfl) rfl rfl hc3 ?_
      refine zo_iconst (p' := 9) (v := (-1)) (zi_190 rfl) rfl rfl ?_
      have g37 := Option.some.inj g24
      subst g37
      exact zo_iret (zi_190 rfl) rfl ⟨rfl, rfl⟩
  · rw [if_neg hok] at h; cases h
/-- SlateHalvesModel.clean(III)I -/
def f_191 (M : ZMem) (o : Nat) (a0 : Int32) (a1 : Int32) (a2 : Int32) : Option (Int32) := if zok M 12 o = true then (zb (f_149 M o a0) fun x1 => if ¬ x1 = 0 then (zb (f_147 M o a1 2 60) fun x4 => if x4 = 0 then (some (-2)) else (zb (f_147 M o a2 1 ((a1 - 1))) fun x7 => if ¬ x7 = 0 then (zb (f_183 M o a0 a1 a2) fun x10 => if x10 = 0 then (some 0) else (some 1)) else (some (-2)))) else (some (-1))) else none
theorem f_191_ok {M : ZMem} {o : Nat} {a0 : Int32} {a1 : Int32} {a2 : Int32} {out : Int32} (h : f_191 M o a0 a1 a2 = some out) : zok M 12 o = true := by
  unfold f_191 at h
  by_cases hok : zok M 12 o = true
  · exact hok
  · rw [if_neg hok] at h; cases h
set_option maxRecDepth 20000 in
theorem k_191 (d : Nat) {M : ZMem} {o : Nat} {a0 : Int32} {a1 : Int32} {a2 : Int32} {out : Int32} (h : f_191 M o a0 a1 a2 = some out) : zrn (d + 4) 191 [zrf (some o), .int a0, .int a1, .int a2] M (some (.int out), M) := by
  unfold f_191 at h
  by_cases hok : zok M 12 o = true
  · rw [if_pos hok] at h
    refine zrn_of (L := [(0, zrf (some o)), (1, .int a0), (2, .int a1), (3, .int a2)]) rfl ?_
    refine zo_aload_n (p' := 1) (zi_191 rfl) rfl rfl ?_
    refine zo_iload_n (p' := 2) (zi_191 rfl) rfl rfl ?_
    obtain ⟨x1, hx2, g13⟩ := zb_of h
    refine zo_callVi (p' := 5) (t := 12) (as := [.int a0]) (r := []) (zi_191 rfl) rfl zl_19_243 rfl rfl (Or.inl ⟨by decide, rfl⟩) (Nat.le_of_ble_eq_true rfl) (Nat.le_of_ble_eq_true rfl) (f_149_ok hx2) (k_149 _ hx2) ?_
    by_cases hc3 : ¬ x1 = 0
    · rw [if_pos hc3] at g13
      refine zo_ifT (p' := 10) (zi_191 rfl) rfl hc3 ?_
      refine zo_aload_n (p' := 11) (zi_191 rfl) rfl rfl ?_
      refine zo_iload_n (p' := 12) (zi_191 rfl) rfl rfl ?_
      refine zo_iconst (p' := 13) (v := 2) (zi_191 rfl) rfl rfl ?_
      refine zo_bipush (p' := 15) (v := 60) (zi_191 rfl) rfl rfl ?_
      obtain ⟨x4, hx5, g14⟩ := zb_of g13
      refine zo_callVi (p' := 18) (t := 12) (as := [.int a1, .int 2, .int 60]) (r := []) (zi_191 rfl) rfl zl_19_239 rfl rfl (Or.inl ⟨by decide, rfl⟩) (Nat.le_of_ble_eq_true rfl) (Nat.le_of_ble_eq_true rfl) (f_147_ok hx5) (k_147 _ hx5) ?_
      by_cases hc6 : x4 = 0
      · rw [if_pos hc6] at g14
        refine zo_ifT (p' := 33) (zi_191 rfl) rfl hc6 ?_
        refine zo_bipush (p' := 35) (v := (-2)) (zi_191 rfl) rfl rfl ?_
        have g15 := Option.some.inj g14
        subst g15
        exact zo_iret (zi_191 rfl) rfl ⟨rfl, rfl⟩
      · rw [if_neg hc6] at g14
        refine zo_ifF (p' := 21) (zi_191 rfl) rfl rfl hc6 ?_
        refine zo_aload_n (p' := 22) (zi_191 rfl) rfl rfl ?_
        refine zo_iload_n (p' := 23) (zi_191 rfl) rfl rfl ?_
        refine zo_iconst (p' := 24) (v := 1) (zi_191 rfl) rfl rfl ?_
        refine zo_iload_n (p' := 25) (zi_191 rfl) rfl rfl ?_
        refine zo_iconst (p' := 26) (v := 1) (zi_191 rfl) rfl rfl ?_
        refine zo_isub (p' := 27) (zi_191 rfl) rfl ?_
        obtain ⟨x7, hx8, g16⟩ := zb_of g14
        refine zo_callVi (p' := 30) (t := 12) (as := [.int a2, .int 1, .int ((a1 - 1))]) (r := []) (zi_191 rfl) rfl zl_19_239 rfl rfl (Or.inl ⟨by decide, rfl⟩) (Nat.le_of_ble_eq_true rfl) (Nat.le_of_ble_eq_true rfl) (f_147_ok hx8) (k_147 _ hx8) ?_
        by_cases hc9 : ¬ x7 = 0
        · rw [if_pos hc9] at g16
          refine zo_ifT (p' := 36) (zi_191 rfl) rfl hc9 ?_
          refine zo_aload_n (p' := 37) (zi_191 rfl) rfl rfl ?_
          refine zo_iload_n (p' := 38) (zi_191 rfl) rfl rfl ?_
          refine zo_iload_n (p' := 39) (zi_191 rfl) rfl rfl ?_
          refine zo_iload_n (p' := 40) (zi_191 rfl) rfl rfl ?_
          obtain ⟨x10, hx11, g17⟩ := zb_of g16
          refine zo_callVi (p' := 43) (t := 12) (as := [.int a0, .int a1, .int a2]) (r := []) (zi_191 rfl) rfl zl_19_331 rfl rfl (Or.inl ⟨by decide, rfl⟩) (Nat.le_of_ble_eq_true rfl) (Nat.le_of_ble_eq_true rfl) (f_183_ok hx11) (k_183 _ hx11) ?_
          by_cases hc12 : x10 = 0
          · rw [if_pos hc12] at g17
            refine zo_ifT (p' := 50) (zi_191 rfl) rfl hc12 ?_
            refine zo_iconst (p' := 51) (v := 0) (zi_191 rfl) rfl rfl ?_
            have g18 := Option.some.inj g17
            subst g18
            exact zo_iret (zi_191 rfl) rfl ⟨rfl, rfl⟩
          · rw [if_neg hc12] at g17
            refine zo_ifF (p' := 46) (zi_191 rfl) rfl rfl hc12 ?_
            refine zo_iconst (p' := 47) (v := 1) (zi_191 rfl) rfl rfl ?_
            refine zo_goto (p' := 51) (zi_191 rfl) rfl ?_
            have g19 := Option.some.inj g17
            subst g19
            exact zo_iret (zi_191 rfl) rfl ⟨rfl, rfl⟩
        · rw [if_neg hc9] at g16
          refine zo_ifF (p' := 33) (zi_191 rfl) rfl rfl hc9 ?_
          refine zo_bipush (p' := 35) (v := (-2)) (zi_191 rfl) rfl rfl ?_
          have g20 := Option.some.inj g16
          subst g20
          exact zo_iret (zi_191 rfl) rfl ⟨rfl, rfl⟩
    · rw [if_neg hc3] at g13
      refine zo_ifF (p' := 8) (zi_191 rfl) rfl rfl hc3 ?_
      refine zo_iconst (p' := 9) (v := (-1)) (zi_191 rfl) rfl rfl ?_
      have g21 := Option.some.inj g13
      subst g21
      exact zo_iret (zi_191 rfl) rfl ⟨rfl, rfl⟩
  · rw [if_neg hok] at h; cases h
/-- SlateHalvesModel.sell(I)I -/
def f_192_59 (M : ZMem) (o : Nat) (b1 : Int32) (b2 : Int32) (b3 : Int32) (b4 : Option Nat) : Option (Int32 × ZMem) := zb b4 fun q35 => zb (zpf M 12 2 q35 (.int b3) false) fun M36 => zb (zgr M36 12 5 o) fun r38 => zb r38 fun q40 => zb (zsa M36 20 q40 b1 0) fun M41 => some (b2, M41)
set_option maxRecDepth 20000 in
theorem k_192_59 (d : Nat) : ∀ (M : ZMem) (o : Nat) (b1 : Int32) (b2 : Int32) (b3 : Int32) (b4 : Option Nat) (out : Int32 × ZMem), f_192_59 M o b1 b2 b3 b4 = some out → zgo none (d + 5) 192 59 [(0, zrf (some o)), (1, .int b1), (2, .int b2)] [.int b3, zrf b4] M (some (.int out.1), out.2) := by
  intro M o b1 b2 b3 b4 out h
  unfold f_192_59 at h
  obtain ⟨q35, h0, g43⟩ := zb_of h
  subst h0
  obtain ⟨M36, hx37, g44⟩ := zb_of g43
  refine zo_putI (p' := 62) (zi_192 rfl) rfl zl_19_16 (zpb_192 _) hx37 ?_
  refine zo_aload_n (p' := 63) (zi_192 rfl) rfl rfl ?_
  obtain ⟨r38, hx39, g45⟩ := zb_of g44
  refine zo_getR (p' := 66) (zi_192 rfl) rfl zl_19_26 hx39 ?_
  refine zo_iload_n (p' := 67) (zi_192 rfl) rfl rfl ?_
  refine zo_iconst (p' := 68) (v := 0) (zi_192 rfl) rfl rfl ?_
  obtain ⟨q40, h0, g46⟩ := zb_of g45
  subst h0
  obtain ⟨M41, hx42, g47⟩ := zb_of g46
  refine zo_iast (p' := 69) (zi_192 rfl) rfl hx42 ?_
  refine zo_iload_n (p' := 70) (zi_192 rfl) rfl rfl ?_
  have g48 := Option.some.inj g47
  subst g48
  exact zo_iret (zi_192 rfl) rfl ⟨rfl, rfl⟩
def f_192 (M : ZMem) (o : Nat) (a0 : Int32) : Option (Int32 × ZMem) := if zok M 12 o = true then (zb (f_149 M o a0) fun x1 => if ¬ x1 = 0 then (zb (zgr M 12 5 o) fun r4 => zb r4 fun q6 => zb (zai M q6 a0) fun x7 => if ¬ x7 = 0 then (zb (zgr M 12 5 o) fun r10 => zb r10 fun q12 => zb (zai M q12 a0) fun x13 => zbd (f_177 M o a0 x13) fun x15 M17 => zb (zgi M17 12 2 o) fun x18 => if (x18 + x15) ≤ 999999 then (zb (zgi M17 12 2 o) fun x21 => f_192_59 M17 o a0 x15 ((x21 + x15)) (some o)) else (f_192_59 M17 o a0 x15 999999 (some o))) else (some ((-3), M))) else (some ((-1), M))) else none
theorem f_192_ok {M : ZMem} {o : Nat} {a0 : Int32} {out : Int32 × ZMem} (h : f_192 M o a0 = some out) : zok M 12 o = true := by
  unfold f_192 at h
  by_cases hok : zok M 12 o = true
  · exact hok
  · rw [if_neg hok] at h; cases h
set_option maxRecDepth 20000 in
theorem k_192 (d : Nat) {M : ZMem} {o : Nat} {a0 : Int32} {out : Int32 × ZMem} (h : f_192 M o a0 = some out) : zrn (d + 5) 192 [zrf (some o), .int a0] M (some (.int out.1), out.2) := by
  unfold f_192 at h
  by_cases hok : zok M 12 o = true
  · rw [if_pos hok] at h
    refine zrn_of (L := [(0, zrf (some o)), (1, .int a0)]) rfl ?_
    refine zo_aload_n (p' := 1) (zi_192 rfl) rfl rfl ?_
    refine zo_iload_n (p' := 2) (zi_192 rfl) rfl rfl ?_
    obtain ⟨x1, hx2, g23⟩ := zb_of h
    refine zo_callVi (p' := 5) (t := 12) (as := [.int a0]) (r := []) (zi_192 rfl) rfl zl_19_243 rfl rfl (Or.inl ⟨by decide, rfl⟩) (Nat.le_of_ble_eq_true rfl) (Nat.le_of_ble_eq_true rfl) (f_149_ok hx2) (k_149 _ hx2) ?_
    by_cases hc3 : ¬ x1 = 0
    · rw [if_pos hc3] at g23
      refine zo_ifT (p' := 10) (zi_192 rfl) rfl hc3 ?_
      refine zo_aload_n (p' := 11) (zi_192 rfl) rfl rfl ?_
      obtain ⟨r4, hx5, g24⟩ := zb_of g23
      refine zo_getR (p' := 14) (zi_192 rfl) rfl zl_19_26 hx5 ?_
      refine zo_iload_n (p' := 15) (zi_192 rfl) rfl rfl ?_
      obtain ⟨q6, h0, g25⟩ := zb_of g24
      subst h0
      obtain ⟨x7, hx8, g26⟩ := zb_of g25
      refine zo_iald (p' := 16) (zi_192 rfl) rfl hx8 ?_
      by_cases hc9 : ¬ x7 = 0
      · rw [if_pos hc9] at g26
        refine zo_ifT (p' := 22) (zi_192 rfl) rfl hc9 ?_
        refine zo_aload_n (p' := 23) (zi_192 rfl) rfl rfl ?_
        refine zo_iload_n (p' := 24) (zi_192 rfl) rfl rfl ?_
        refine zo_aload_n (p' := 25) (zi_192 rfl) rfl rfl ?_
        obtain ⟨r10, hx11, g27⟩ := zb_of g26
        refine zo_getR (p' := 28) (zi_192 rfl) rfl zl_19_26 hx11 ?_
        refine zo_iload_n (p' := 29) (zi_192 rfl) rfl rfl ?_
        obtain ⟨q12, h0, g28⟩ := zb_of g27
        subst h0
        obtain ⟨x13, hx14, g29⟩ := zb_of g28
        refine zo_iald (p' := 30) (zi_192 rfl) rfl hx14 ?_
        obtain ⟨x15, M17, hx16, g30⟩ := zbd_of g29
        refine zo_callVi (p' := 33) (t := 12) (as := [.int a0, .int x13]) (r := []) (zi_192 rfl) rfl zl_19_344 rfl rfl (Or.inl ⟨by decide, rfl⟩) (Nat.le_of_ble_eq_true rfl) (Nat.le_of_ble_eq_true rfl) (f_177_ok hx16) (k_177 _ hx16) ?_
        refine zo_istore_n (p' := 34) (L' := [(0, zrf (some o)), (1, .int a0), (2, .int x15)]) (zi_192 rfl) rfl zm_192_2 ⟨Or.inr ⟨by decide, rfl, fun q => absurd q (by decide)⟩, ⟨Or.inr ⟨by decide, rfl, fun _ => rfl⟩, ⟨Or.inl ⟨rfl, rfl⟩, trivial⟩⟩⟩ ?_
        refine zo_aload_n (p' := 35) (zi_192 rfl) rfl rfl ?_
        refine zo_aload_n (p' := 36) (zi_192 rfl) rfl rfl ?_
        obtain ⟨x18, hx19, g31⟩ := zb_of g30
        refine zo_getI (p' := 39) (zi_192 rfl) rfl zl_19_16 hx19 ?_
        refine zo_iload_n (p' := 40) (zi_192 rfl) rfl rfl ?_
        refine zo_iadd (p' := 41) (zi_192 rfl) rfl ?_
        refine zo_ldcw (p' := 44) (v := 999999) (zi_192 rfl) rfl rfl ?_
        by_cases hc20 : (x18 + x15) ≤ 999999
        · rw [if_pos hc20] at g31
          refine zo_icT (p' := 53) (zi_192 rfl) rfl hc20 ?_
          refine zo_aload_n (p' := 54) (zi_192 rfl) rfl rfl ?_
          obtain ⟨x21, hx22, g32⟩ := zb_of g31
          refine zo_getI (p' := 57) (zi_192 rfl) rfl zl_19_16 hx22 ?_
          refine zo_iload_n (p' := 58) (zi_192 rfl) rfl rfl ?_
          refine zo_iadd (p' := 59) (zi_192 rfl) rfl ?_
          refine zgo_sub (L' := [(0, zrf (some o)), (1, .int a0), (2, .int x15)]) (⟨rfl, rfl, rfl, trivial⟩) ?_
          exact k_192_59 _ M17 o a0 x15 ((x21 + x15)) (some o) _ g32
        · rw [if_neg hc20] at g31
          refine zo_icF (p' := 47) (zi_192 rfl) rfl rfl hc20 ?_
          refine zo_ldcw (p' := 50) (v := 999999) (zi_192 rfl) rfl rfl ?_
          refine zo_goto (p' := 59) (zi_192 rfl) rfl ?_
          refine zgo_sub (L' := [(0, zrf (some o)), (1, .int a0), (2, .int x15)]) (⟨rfl, rfl, rfl, trivial⟩) ?_
          exact k_192_59 _ M17 o a0 x15 999999 (some o) _ g31
      · rw [if_neg hc9] at g26
        refine zo_ifF (p' := 19) (zi_192 rfl) rfl rfl hc9 ?_
        refine zo_bipush (p' := 21) (v := (-3)) (zi_192 rfl) rfl rfl ?_
        have g33 := Option.some.inj g26
        subst g33
        exact zo_iret (zi_192 rfl) rfl ⟨rfl, rfl⟩
    · rw [if_neg hc3] at g23
      refine zo_ifF (p' := 8) (zi_192 rfl) rfl rfl hc3 ?_
      refine zo_iconst (p' := 9) (v := (-1)) (zi_192 rfl) rfl rfl ?_
      have g34 := Option.some.inj g23
      subst g34
      exact zo_iret (zi_192 rfl) rfl ⟨rfl, rfl⟩
  · rw [if_neg hok] at h; cases h
/-- SlateHalvesModel.isDays(I)Z -/
def f_194 (M : ZMem) (o : Nat) (a0 : Int32) : Option (Int32) := if zok M 12 o = true then (zb (f_147 M o a0 0 60) fun x1 => if narrow .boolean (.int x1) = .int x1 then some x1 else none) else none
theorem f_194_ok {M : ZMem} {o : Nat} {a0 : Int32} {out : Int32} (h : f_194 M o a0 = some out) : zok M 12 o = true := by
  unfold f_194 at h
  by_cases hok : zok M 12 o = true
  · exact hok
  · rw [if_neg hok] at h; cases h
set_option maxRecDepth 20000 in
theorem k_194 (d : Nat) {M : ZMem} {o : Nat} {a0 : Int32} {out : Int32} (h : f_194 M o a0 = some out) : zrn (d + 1) 194 [zrf (some o), .int a0] M (some (.int out), M) := by
  unfold f_194 at h
  by_cases hok : zok M 12 o = true
  · rw [if_pos hok] at h
    refine zrn_of (L := [(0, zrf (some o)), (1, .int a0)]) rfl ?_
    refine zo_aload_n (p' := 1) (zi_194 rfl) rfl rfl ?_
    refine zo_iload_n (p' := 2) (zi_194 rfl) rfl rfl ?_
    refine zo_iconst (p' := 3) (v := 0) (zi_194 rfl) rfl rfl ?_
    refine zo_bipush (p' := 5) (v := 60) (zi_194 rfl) rfl rfl ?_
    obtain ⟨x1, hx2, g4⟩ := zb_of h
    refine zo_callVi (p' := 8) (t := 12) (as := [.int a0, .int 0, .int 60]) (r := []) (zi_194 rfl) rfl zl_19_239 rfl rfl (Or.inl ⟨by decide, rfl⟩) (Nat.le_of_ble_eq_true rfl) (Nat.le_of_ble_eq_true rfl) (f_147_ok hx2) (k_147 _ hx2) ?_
    by_cases hr3 : narrow .boolean (.int x1) = .int x1
    · rw [if_pos hr3] at g4
      have g5 := Option.some.inj g4
      subst g5
      exact zo_iret (zi_194 rfl) rfl ⟨rfl, hr3⟩
    · rw [if_neg hr3] at g4; cases g4
  · rw [if_neg hok] at h; cases h
