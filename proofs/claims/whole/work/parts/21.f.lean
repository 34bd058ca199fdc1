/-- SlateHalves.sell(I)I -/
def f_56 (M : ZMem) (o : Nat) (a0 : Int32) : Option (Int32 × ZMem) := if zok M 11 o = true then (zb (zgr M 11 0 o) fun r1 => zb r1 fun q3 => zb (zgr M 7 0 q3) fun r4 => zb r4 fun q6 => zb (f_19 M q6 a0) fun r7 => zcs r7 (some ((-1), M)) (fun q9 => zb (f_57 M q9) fun x11 => if x11 = 0 then (zb (zgr M 11 0 o) fun r14 => zb r14 fun q16 => zb (zgr M 7 0 q16) fun r17 => zbd (f_58 M o r17 (some q9)) fun x19 M21 => zb (zgr M21 11 0 o) fun r22 => zb r22 fun q24 => zb (zgr M21 7 0 q24) fun r25 => zb (zgr M21 11 0 o) fun r27 => zb r27 fun q29 => zb (zgr M21 7 0 q29) fun r30 => zb r30 fun q32 => zb (zgi M21 10 2 q32) fun x33 => zb (f_37 M21 999999 ((x33 + x19))) fun x35 => zb r25 fun q37 => zb (zpf M21 10 2 q37 (.int x35) false) fun M38 => zb (zpf M38 1 3 q9 (.int 0) false) fun M40 => some (x19, M40)) else (some ((-3), M)))) else none
theorem f_56_ok {M : ZMem} {o : Nat} {a0 : Int32} {out : Int32 × ZMem} (h : f_56 M o a0 = some out) : zok M 11 o = true := by
  unfold f_56 at h
  by_cases hok : zok M 11 o = true
  · exact hok
  · rw [if_neg hok] at h; cases h
set_option maxRecDepth 20000 in
theorem k_56 (d : Nat) {M : ZMem} {o : Nat} {a0 : Int32} {out : Int32 × ZMem} (h : f_56 M o a0 = some out) : zrn (d + 5) 56 [zrf (some o), .int a0] M (some (.int out.1), out.2) := by
  unfold f_56 at h
  by_cases hok : zok M 11 o = true
  · rw [if_pos hok] at h
    refine zrn_of (L := [(0, zrf (some o)), (1, .int a0)]) rfl ?_
    refine zo_aload_n (p' := 1) (zi_56 rfl) rfl rfl ?_
    obtain ⟨r1, hx2, g42⟩ := zb_of h
    refine zo_getR (p' := 4) (zi_56 rfl) rfl zl_1_14 hx2 ?_
    obtain ⟨q3, h0, g43⟩ := zb_of g42
    subst h0
    obtain ⟨r4, hx5, g44⟩ := zb_of g43
    refine zo_getR (p' := 7) (zi_56 rfl) rfl zl_1_100 hx5 ?_
    refine zo_iload_n (p' := 8) (zi_56 rfl) rfl rfl ?_
    obtain ⟨q6, h0, g45⟩ := zb_of g44
    subst h0
    obtain ⟨r7, hx8, g46⟩ := zb_of g45
    refine zo_callVa (p' := 11) (t := 10) (as := [.int a0]) (r := []) (zi_56 rfl) rfl zl_1_116 rfl rfl (Or.inl ⟨by decide, rfl⟩) (Nat.le_of_ble_eq_true rfl) (Nat.le_of_ble_eq_true rfl) (f_19_ok hx8) (k_19 _ hx8) ?_
    refine zo_astore_n (p' := 12) (L' := [(0, zrf (some o)), (1, .int a0), (2, zrf r7)]) (zi_56 rfl) rfl zm_56_2 ⟨Or.inr ⟨by decide, rfl, fun q => absurd q (by decide)⟩, ⟨Or.inr ⟨by decide, rfl, fun _ => rfl⟩, ⟨Or.inl ⟨rfl, rfl⟩, trivial⟩⟩⟩ ?_
    refine zo_aload_n (p' := 13) (zi_56 rfl) rfl rfl ?_
    rcases r7 with _ | q9
    · have g47 := zcs_none g46
      refine zo_nonnullF (p' := 16) (zi_56 rfl) rfl ?_
      refine zo_iconst (p' := 17) (v := (-1)) (zi_56 rfl) rfl rfl ?_
      have g48 := Option.some.inj g47
      subst g48
      exact zo_iret (zi_56 rfl) rfl ⟨rfl, rfl⟩
    · obtain ⟨hq10, g49⟩ := zcs_some g46
      refine zo_nonnullT (p' := 18) (zi_56 rfl) rfl hq10 ?_
      refine zo_aload_n (p' := 19) (zi_56 rfl) rfl rfl ?_
      obtain ⟨x11, hx12, g50⟩ := zb_of g49
      refine zo_callVi (p' := 22) (t := 1) (as := []) (r := []) (zi_56 rfl) rfl zl_1_204 rfl rfl (Or.inl ⟨by decide, rfl⟩) (Nat.le_of_ble_eq_true rfl) (Nat.le_of_ble_eq_true rfl) (f_57_ok hx12) (k_57 _ hx12) ?_
      by_cases hc13 : x11 = 0
      · rw [if_pos hc13] at g50
        refine zo_ifT (p' := 28) (zi_56 rfl) rfl hc13 ?_
        refine zo_aload_n (p' := 29) (zi_56 rfl) rfl rfl ?_
        refine zo_aload_n (p' := 30) (zi_56 rfl) rfl rfl ?_
        obtain ⟨r14, hx15, g51⟩ := zb_of g50
        refine zo_getR (p' := 33) (zi_56 rfl) rfl zl_1_14 hx15 ?_
        obtain ⟨q16, h0, g52⟩ := zb_of g51
        subst h0
        obtain ⟨r17, hx18, g53⟩ := zb_of g52
        refine zo_getR (p' := 36) (zi_56 rfl) rfl zl_1_100 hx18 ?_
        refine zo_aload_n (p' := 37) (zi_56 rfl) rfl rfl ?_
        obtain ⟨x19, M21, hx20, g54⟩ := zbd_of g53
        refine zo_callVi (p' := 40) (t := 11) (as := [zrf r17, zrf (some q9)]) (r := []) (zi_56 rfl) rfl zl_1_208 rfl rfl (Or.inl ⟨by decide, rfl⟩) (Nat.le_of_ble_eq_true rfl) (by rw [zml_58]; simp [lg_sl, zrf_cat, zcat_i, zcat_l, zcat_r]; done) (f_58_ok hx20) (k_58 _ hx20) ?_
        refine zo_istore_n (p' := 41) (L' := [(0, zrf (some o)), (1, .int a0), (2, zrf (some q9)), (3, .int x19)]) (zi_56 rfl) rfl zm_56_3 ⟨Or.inr ⟨by decide, rfl, fun q => absurd q (by decide)⟩, ⟨Or.inr ⟨by decide, rfl, fun q => absurd q (by decide)⟩, ⟨Or.inr ⟨by decide, rfl, fun _ => zrf_cat _⟩, ⟨Or.inl ⟨rfl, rfl⟩, trivial⟩⟩⟩⟩ ?_
        refine zo_aload_n (p' := 42) (zi_56 rfl) rfl rfl ?_
        obtain ⟨r22, hx23, g55⟩ := zb_of g54
        refine zo_getR (p' := 45) (zi_56 rfl) rfl zl_1_14 hx23 ?_
        obtain ⟨q24, h0, g56⟩ := zb_of g55
        subst h0
        obtain ⟨r25, hx26, g57⟩ := zb_of g56
        refine zo_getR (p' := 48) (zi_56 rfl) rfl zl_1_100 hx26 ?_
        refine zo_ldcI (p' := 50) (v := 999999) (zi_56 rfl) rfl rfl rfl ?_
        refine zo_aload_n (p' := 51) (zi_56 rfl) rfl rfl ?_
        obtain ⟨r27, hx28, g58⟩ := zb_of g57
        refine zo_getR (p' := 54) (zi_56 rfl) rfl zl_1_14 hx28 ?_
        obtain ⟨q29, h0, g59⟩ := zb_of g58
        subst h0
        obtain ⟨r30, hx31, g60⟩ := zb_of g59
        refine zo_getR (p' := 57) (zi_56 rfl) rfl zl_1_100 hx31 ?_
        obtain ⟨q32, h0, g61⟩ := zb_of g60
        subst h0
        obtain ⟨x33, hx34, g62⟩ := zb_of g61
        refine zo_getI (p' := 60) (zi_56 rfl) rfl zl_1_213 hx34 ?_
        refine zo_iload_n (p' := 61) (zi_56 rfl) rfl rfl ?_
        refine zo_iadd (p' := 62) (zi_56 rfl) rfl ?_
        obtain ⟨x35, hx36, g63⟩ := zb_of g62
        refine zo_callSi (p' := 65) (as := [.int 999999, .int ((x33 + x19))]) (r := [zrf r25]) (zi_56 rfl) rfl (Or.inl zl_1_216) rfl rfl (by simp [zrf_cat, zcat_i, zcat_l, zcat_r]) (Nat.le_of_ble_eq_true rfl) (k_37 _ hx36) ?_
        obtain ⟨q37, h0, g64⟩ := zb_of g63
        subst h0
        obtain ⟨M38, hx39, g65⟩ := zb_of g64
        refine zo_putI (p' := 68) (zi_56 rfl) rfl zl_1_213 (zpb_56 _) hx39 ?_
        refine zo_aload_n (p' := 69) (zi_56 rfl) rfl rfl ?_
        refine zo_iconst (p' := 70) (v := 0) (zi_56 rfl) rfl rfl ?_
        obtain ⟨M40, hx41, g66⟩ := zb_of g65
        refine zo_putI (p' := 73) (zi_56 rfl) rfl zl_1_126 (zpb_56 _) hx41 ?_
        refine zo_iload_n (p' := 74) (zi_56 rfl) rfl rfl ?_
        have g67 := Option.some.inj g66
        subst g67
        exact zo_iret (zi_56 rfl) rfl ⟨rfl, rfl⟩
      · rw [if_neg hc13] at g50
        refine zo_ifF (p' := 25) (zi_56 rfl) rfl rfl hc13 ?_
        refine zo_bipush (p' := 27) (v := (-3)) (zi_56 rfl) rfl rfl ?_
        have g68 := Option.some.inj g50
        subst g68
        exact zo_iret (zi_56 rfl) rfl ⟨rfl, rfl⟩
  · rw [if_neg hok] at h; cases h
/-- SlateHalves.feed(I)I -/
def f_59 (M : ZMem) (o : Nat) (a0 : Int32) : Option (Int32 × ZMem) := if zok M 11 o = true then (zb (f_14 M a0 0 127) fun x1 => if ¬ x1 = 0 then (zb (zgi M 11 5 o) fun x4 => if x4 < 100 then (zb (zgr M 11 4 o) fun r7 => zb (zgi M 11 5 o) fun x9 => zb r7 fun q11 => zb (zsb M q11 x9 ((Int32.toInt8 a0).toInt32)) fun M12 => zb (zgi M12 11 5 o) fun x14 => zb (zpf M12 11 5 o (.int ((x14 + 1))) false) fun M16 => zb (zgi M16 11 5 o) fun x18 => some (x18, M16)) else (some ((-4), M))) else (some ((-2), M))) else none
theorem f_59_ok {M : ZMem} {o : Nat} {a0 : Int32} {out : Int32 × ZMem} (h : f_59 M o a0 = some out) : zok M 11 o = true := by
  unfold f_59 at h
  by_cases hok : zok M 11 o = true
  · exact hok
  · rw [if_neg hok] at h; cases h
set_option maxRecDepth 20000 in
theorem k_59 (d : Nat) {M : ZMem} {o : Nat} {a0 : Int32} {out : Int32 × ZMem} (h : f_59 M o a0 = some out) : zrn (d + 1) 59 [zrf (some o), .int a0] M (some (.int out.1), out.2) := by
  unfold f_59 at h
  by_cases hok : zok M 11 o = true
  · rw [if_pos hok] at h
    refine zrn_of (L := [(0, zrf (some o)), (1, .int a0)]) rfl ?_
    refine zo_iload_n (p' := 1) (zi_59 rfl) rfl rfl ?_
    refine zo_iconst (p' := 2) (v := 0) (zi_59 rfl) rfl rfl ?_
    refine zo_bipush (p' := 4) (v := 127) (zi_59 rfl) rfl rfl ?_
    obtain ⟨x1, hx2, g20⟩ := zb_of h
    refine zo_callSi (p' := 7) (as := [.int a0, .int 0, .int 127]) (r := []) (zi_59 rfl) rfl (Or.inl zl_1_96) rfl rfl (Nat.le_of_ble_eq_true rfl) (Nat.le_of_ble_eq_true rfl) (k_14 _ hx2) ?_
    by_cases hc3 : ¬ x1 = 0
    · rw [if_pos hc3] at g20
      refine zo_ifT (p' := 13) (zi_59 rfl) rfl hc3 ?_
      refine zo_aload_n (p' := 14) (zi_59 rfl) rfl rfl ?_
      obtain ⟨x4, hx5, g21⟩ := zb_of g20
      refine zo_getI (p' := 17) (zi_59 rfl) rfl zl_1_36 hx5 ?_
      refine zo_bipush (p' := 19) (v := 100) (zi_59 rfl) rfl rfl ?_
      by_cases hc6 : x4 < 100
      · rw [if_pos hc6] at g21
        refine zo_icT (p' := 25) (zi_59 rfl) rfl hc6 ?_
        refine zo_aload_n (p' := 26) (zi_59 rfl) rfl rfl ?_
        obtain ⟨r7, hx8, g22⟩ := zb_of g21
        refine zo_getR (p' := 29) (zi_59 rfl) rfl zl_1_32 hx8 ?_
        refine zo_aload_n (p' := 30) (zi_59 rfl) rfl rfl ?_
        obtain ⟨x9, hx10, g23⟩ := zb_of g22
        refine zo_getI (p' := 33) (zi_59 rfl) rfl zl_1_36 hx10 ?_
        refine zo_iload_n (p' := 34) (zi_59 rfl) rfl rfl ?_
        refine zo_i2b (p' := 35) (zi_59 rfl) rfl ?_
        obtain ⟨q11, h0, g24⟩ := zb_of g23
        subst h0
        obtain ⟨M12, hx13, g25⟩ := zb_of g24
        refine zo_bast (p' := 36) (zi_59 rfl) rfl hx13 ?_
        refine zo_aload_n (p' := 37) (zi_59 rfl) rfl rfl ?_
        refine zo_dup (p' := 38) (zi_59 rfl) rfl (zrf_cat _) ?_
        obtain ⟨x14, hx15, g26⟩ := zb_of g25
        refine zo_getI (p' := 41) (zi_59 rfl) rfl zl_1_36 hx15 ?_
        refine zo_iconst (p' := 42) (v := 1) (zi_59 rfl) rfl rfl ?_
        refine zo_iadd (p' := 43) (zi_59 rfl) rfl ?_
        obtain ⟨M16, hx17, g27⟩ := zb_of g26
        refine zo_putI (p' := 46) (zi_59 rfl) rfl zl_1_36 (zpb_59 _) hx17 ?_
        refine zo_aload_n (p' := 47) (zi_59 rfl) rfl rfl ?_
        obtain ⟨x18, hx19, g28⟩ := zb_of g27
        refine zo_getI (p' := 50) (zi_59 rfl) rfl zl_1_36 hx19 ?_
        have g29 := Option.some.inj g28
        subst g29
        exact zo_iret (zi_59 rfl) rfl ⟨rfl, rfl⟩
      · rw [if_neg hc6] at g21
        refine zo_icF (p' := 22) (zi_59 rfl) rfl rfl hc6 ?_
        refine zo_bipush (p' := 24) (v := (-4)) (zi_59 rfl) rfl rfl ?_
        have g30 := Option.some.inj g21
        subst g30
        exact zo_iret (zi_59 rfl) rfl ⟨rfl, rfl⟩
    · rw [if_neg hc3] at g20
      refine zo_ifF (p' := 10) (zi_59 rfl) rfl rfl hc3 ?_
      refine zo_bipush (p' := 12) (v := (-2)) (zi_59 rfl) rfl rfl ?_
      have g31 := Option.some.inj g20
      subst g31
      exact zo_iret (zi_59 rfl) rfl ⟨rfl, rfl⟩
  · rw [if_neg hok] at h; cases h
/-- SlateHalves$Hill.clear()V -/
def f_62 (M : ZMem) (o : Nat) : Option (ZMem) := if zok M 3 o = true then (zb (zpf M 3 1 o (.int 0) false) fun M1 => zb (zpf M1 3 2 o (.int 2) false) fun M3 => zb (zpf M3 3 3 o (.int 5) false) fun M5 => zb (zpf M5 3 4 o (.int 1) false) fun M7 => some M7) else none
theorem f_62_ok {M : ZMem} {o : Nat} {out : ZMem} (h : f_62 M o = some out) : zok M 3 o = true := by
  unfold f_62 at h
  by_cases hok : zok M 3 o = true
  · exact hok
  · rw [if_neg hok] at h; cases h
set_option maxRecDepth 20000 in
theorem k_62 (d : Nat) {M : ZMem} {o : Nat} {out : ZMem} (h : f_62 M o = some out) : zrn (d) 62 [zrf (some o)] M (none, out) := by
  unfold f_62 at h
  by_cases hok : zok M 3 o = true
  · rw [if_pos hok] at h
    refine zrn_of (L := [(0, zrf (some o))]) rfl ?_
    refine zo_aload_n (p' := 1) (zi_62 rfl) rfl rfl ?_
    refine zo_iconst (p' := 2) (v := 0) (zi_62 rfl) rfl rfl ?_
    obtain ⟨M1, hx2, g9⟩ := zb_of h
    refine zo_putI (p' := 5) (zi_62 rfl) rfl zl_6_15 (zpb_62 _) hx2 ?_
    refine zo_aload_n (p' := 6) (zi_62 rfl) rfl rfl ?_
    refine zo_iconst (p' := 7) (v := 2) (zi_62 rfl) rfl rfl ?_
    obtain ⟨M3, hx4, g10⟩ := zb_of g9
    refine zo_putI (p' := 10) (zi_62 rfl) rfl zl_6_19 (zpb_62 _) hx4 ?_
    refine zo_aload_n (p' := 11) (zi_62 rfl) rfl rfl ?_
    refine zo_iconst (p' := 12) (v := 5) (zi_62 rfl) rfl rfl ?_
    obtain ⟨M5, hx6, g11⟩ := zb_of g10
    refine zo_putI (p' := 15) (zi_62 rfl) rfl zl_6_22 (zpb_62 _) hx6 ?_
    refine zo_aload_n (p' := 16) (zi_62 rfl) rfl rfl ?_
    refine zo_iconst (p' := 17) (v := 1) (zi_62 rfl) rfl rfl ?_
    obtain ⟨M7, hx8, g12⟩ := zb_of g11
    refine zo_putI (p' := 20) (zi_62 rfl) rfl zl_6_25 (zpb_62 _) hx8 ?_
    have g13 := Option.some.inj g12
    subst g13
    exact zo_vret (zi_62 rfl) rfl
  · rw [if_neg hok] at h; cases h
/-- SlateHalves$HillReader.wordOf(I)Ljava/lang/String; -/
def f_65 (M : ZMem) (a0 : Int32) : Option (Option Nat) := if a0 = 0 then (some (some 2)) else (if a0 = 1 then (some (some 3)) else (if a0 = 2 then (some (some 4)) else (if a0 = 3 then (some (some 5)) else (some (some 6)))))
set_option maxRecDepth 20000 in
theorem k_65 (d : Nat) {M : ZMem} {a0 : Int32} {out : Option Nat} (h : f_65 M a0 = some out) : zrn (d) 65 [.int a0] M (some (zrf out), M) := by
  unfold f_65 at h
  refine zrn_of (L := [(0, .int a0)]) rfl ?_
  refine zo_iload_n (p' := 1) (zi_65 rfl) rfl rfl ?_
  by_cases hc1 : a0 = 0
  · rw [if_pos hc1] at h
    refine zo_table (p' := 32) (n := 31) (zi_65 rfl) (by decide) (zsel_hit hc1 (by decide)) rfl ?_
    refine zo_ldcS (p' := 34) (a := 0) (zi_65 rfl) rfl rfl ?_
    have g10 := Option.some.inj h
    subst g10
    exact zo_aret (r := (some 2)) (zi_65 rfl) rfl rfl (by decide)
  · rw [if_neg hc1] at h
    by_cases hc2 : a0 = 1
    · rw [if_pos hc2] at h
      refine zo_table (p' := 35) (n := 34) (zi_65 rfl) (by decide) (zsel_skip hc1 (by decide) (zsel_hit hc2 (by decide))) rfl ?_
      refine zo_ldcS (p' := 37) (a := 1) (zi_65 rfl) rfl rfl ?_
      have g11 := Option.some.inj h
      subst g11
      exact zo_aret (r := (some 3)) (zi_65 rfl) rfl rfl (by decide)
    · rw [if_neg hc2] at h
      by_cases hc3 : a0 = 2
      · rw [if_pos hc3] at h
        refine zo_table (p' := 38) (n := 37) (zi_65 rfl) (by decide) (zsel_skip hc1 (by decide) (zsel_skip hc2 (by decide) (zsel_hit hc3 (by decide)))) rfl ?_
        refine zo_ldcS (p' := 40) (a := 2) (zi_65 rfl) rfl rfl ?_
        have g12 := Option.some.inj h
        subst g12
        exact zo_aret (r := (some 4)) (zi_65 rfl) rfl rfl (by decide)
      · rw [if_neg hc3] at h
        by_cases hc4 : a0 = 3
        · rw [if_pos hc4] at h
          refine zo_table (p' := 41) (n := 40) (zi_65 rfl) (by decide) (zsel_skip hc1 (by decide) (zsel_skip hc2 (by decide) (zsel_skip hc3 (by decide) (zsel_hit hc4 (by decide))))) rfl ?_
          refine zo_ldcS (p' := 43) (a := 3) (zi_65 rfl) rfl rfl ?_
          have g13 := Option.some.inj h
          subst g13
          exact zo_aret (r := (some 5)) (zi_65 rfl) rfl rfl (by decide)
        · rw [if_neg hc4] at h
          refine zo_table (p' := 44) (n := 43) (zi_65 rfl) (by decide) (zsel_skip hc1 (by decide) (zsel_skip hc2 (by decide) (zsel_skip hc3 (by decide) (zsel_skip hc4 (by decide) (rfl))))) rfl ?_
          refine zo_ldcS (p' := 46) (a := 4) (zi_65 rfl) rfl rfl ?_
          have g14 := Option.some.inj h
          subst g14
          exact zo_aret (r := (some 6)) (zi_65 rfl) rfl rfl (by decide)
/-- java/lang/String.coder()B -/
def f_68 (M : ZMem) (o : Nat) : Option (Int32) := if zok M 13 o = true then (if (1 : Int32) = (0 : Int32) then (some 1) else (zb (zgi M 13 1 o) fun x2 => if narrow .byte (.int x2) = .int x2 then some x2 else none)) else none
theorem f_68_ok {M : ZMem} {o : Nat} {out : Int32} (h : f_68 M o = some out) : zok M 13 o = true := by
  unfold f_68 at h
  by_cases hok : zok M 13 o = true
  · exact hok
  · rw [if_neg hok] at h; cases h
set_option maxRecDepth 20000 in
theorem k_68 (d : Nat) {M : ZMem} {o : Nat} {out : Int32} (h : f_68 M o = some out) : zrn (d) 68 [zrf (some o)] M (some (.int out), M) := by
  unfold f_68 at h
  by_cases hok : zok M 13 o = true
  · rw [if_pos hok] at h
    refine zrn_of (L := [(0, zrf (some o))]) rfl ?_
    refine zo_gets1 (p' := 3) (zi_68 rfl) rfl zl_15_38 ?_
    by_cases hc1 : (1 : Int32) = (0 : Int32)
    · rw [if_pos hc1] at h
      refine zo_ifT (p' := 13) (zi_68 rfl) rfl hc1 ?_
      refine zo_iconst (p' := 14) (v := 1) (zi_68 rfl) rfl rfl ?_
      have g5 := Option.some.inj h
      subst g5
      exact zo_iret (zi_68 rfl) rfl ⟨rfl, rfl⟩
    · rw [if_neg hc1] at h
      refine zo_ifF (p' := 6) (zi_68 rfl) rfl rfl hc1 ?_
      refine zo_aload_n (p' := 7) (zi_68 rfl) rfl rfl ?_
      obtain ⟨x2, hx3, g6⟩ := zb_of h
      refine zo_getI (p' := 10) (zi_68 rfl) rfl zl_15_15 hx3 ?_
      refine zo_goto (p' := 14) (zi_68 rfl) rfl ?_
      by_cases hr4 : narrow .byte (.int x2) = .int x2
      · rw [if_pos hr4] at g6
        have g7 := Option.some.inj g6
        subst g7
        exact zo_iret (zi_68 rfl) rfl ⟨rfl, hr4⟩
      · rw [if_neg hr4] at g6; cases g6
  · rw [if_neg hok] at h; cases h
/-- java/lang/String.length()I -/
def f_67 (M : ZMem) (o : Nat) : Option (Int32) := if zok M 13 o = true then (zb (zgr M 13 0 o) fun r1 => zb r1 fun q3 => zb (zlen none M q3) fun x4 => zb (f_68 M o) fun x6 => some (x4 >>> (x6 &&& 31))) else none
theorem f_67_ok {M : ZMem} {o : Nat} {out : Int32} (h : f_67 M o = some out) : zok M 13 o = true := by
  unfold f_67 at h
  by_cases hok : zok M 13 o = true
  · exact hok
  · rw [if_neg hok] at h; cases h
set_option maxRecDepth 20000 in
theorem k_67 (d : Nat) {M : ZMem} {o : Nat} {out : Int32} (h : f_67 M o = some out) : zrn (d + 1) 67 [zrf (some o)] M (some (.int out), M) := by
  unfold f_67 at h
  by_cases hok : zok M 13 o = true
  · rw [if_pos hok] at h
    refine zrn_of (L := [(0, zrf (some o))]) rfl ?_
    refine zo_aload_n (p' := 1) (zi_67 rfl) rfl rfl ?_
    obtain ⟨r1, hx2, g8⟩ := zb_of h
    refine zo_getR (p' := 4) (zi_67 rfl) rfl zl_15_9 hx2 ?_
    obtain ⟨q3, h0, g9⟩ := zb_of g8
    subst h0
    obtain ⟨x4, hx5, g10⟩ := zb_of g9
    refine zo_alen (p' := 5) (zi_67 rfl) rfl hx5 ?_
    refine zo_aload_n (p' := 6) (zi_67 rfl) rfl rfl ?_
    obtain ⟨x6, hx7, g11⟩ := zb_of g10
    refine zo_callVi (p' := 9) (t := 13) (as := []) (r := [.int x4]) (zi_67 rfl) rfl zl_15_335 rfl rfl (Or.inr ⟨rfl, rfl⟩) (Nat.le_of_ble_eq_true rfl) (Nat.le_of_ble_eq_true rfl) (f_68_ok hx7) (k_68 _ hx7) ?_
    refine zo_ishr (p' := 10) (zi_67 rfl) rfl ?_
    have g12 := Option.some.inj g11
    subst g12
    exact zo_iret (zi_67 rfl) rfl ⟨rfl, rfl⟩
  · rw [if_neg hok] at h; cases h
/-- java/lang/String.isLatin1()Z -/
def f_70 (M : ZMem) (o : Nat) : Option (Int32) := if zok M 13 o = true then (if (1 : Int32) = (0 : Int32) then (some 0) else (zb (zgi M 13 1 o) fun x2 => if ¬ x2 = 0 then (some 0) else (some 1))) else none
theorem f_70_ok {M : ZMem} {o : Nat} {out : Int32} (h : f_70 M o = some out) : zok M 13 o = true := by
  unfold f_70 at h
  by_cases hok : zok M 13 o = true
  · exact hok
  · rw [if_neg hok] at h; cases h
set_option maxRecDepth 20000 in
theorem k_70 (d : Nat) {M : ZMem} {o : Nat} {out : Int32} (h : f_70 M o = some out) : zrn (d) 70 [zrf (some o)] M (some (.int out), M) := by
  unfold f_70 at h
  by_cases hok : zok M 13 o = true
  · rw [if_pos hok] at h
    refine zrn_of (L := [(0, zrf (some o))]) rfl ?_
    refine zo_gets1 (p' := 3) (zi_70 rfl) rfl zl_15_38 ?_
    by_cases hc1 : (1 : Int32) = (0 : Int32)
    · rw [if_pos hc1] at h
      refine zo_ifT (p' := 17) (zi_70 rfl) rfl hc1 ?_
      refine zo_iconst (p' := 18) (v := 0) (zi_70 rfl) rfl rfl ?_
      have g5 := Option.some.inj h
      subst g5
      exact zo_iret (zi_70 rfl) rfl ⟨rfl, rfl⟩
    · rw [if_neg hc1] at h
      refine zo_ifF (p' := 6) (zi_70 rfl) rfl rfl hc1 ?_
      refine zo_aload_n (p' := 7) (zi_70 rfl) rfl rfl ?_
      obtain ⟨x2, hx3, g6⟩ := zb_of h
      refine zo_getI (p' := 10) (zi_70 rfl) rfl zl_15_15 hx3 ?_
      by_cases hc4 : ¬ x2 = 0
      · rw [if_pos hc4] at g6
        refine zo_ifT (p' := 17) (zi_70 rfl) rfl hc4 ?_
        refine zo_iconst (p' := 18) (v := 0) (zi_70 rfl) rfl rfl ?_
        have g7 := Option.some.inj g6
        subst g7
        exact zo_iret (zi_70 rfl) rfl ⟨rfl, rfl⟩
      · rw [if_neg hc4] at g6
        refine zo_ifF (p' := 13) (zi_70 rfl) rfl rfl hc4 ?_
        refine zo_iconst (p' := 14) (v := 1) (zi_70 rfl) rfl rfl ?_
        refine zo_goto (p' := 18) (zi_70 rfl) rfl ?_
        have g8 := Option.some.inj g6
        subst g8
        exact zo_iret (zi_70 rfl) rfl ⟨rfl, rfl⟩
  · rw [if_neg hok] at h; cases h
/-- jdk/internal/util/Preconditions.checkIndex(IILjava/util/function/BiFunction;)I -/
def f_73_9 (M : ZMem) (b0 : Int32) (b1 : Int32) (b2 : Option Nat) : Option (Int32) := none
set_option maxRecDepth 20000 in
theorem k_73_9 (d : Nat) : ∀ (M : ZMem) (b0 : Int32) (b1 : Int32) (b2 : Option Nat) (out : Int32), f_73_9 M b0 b1 b2 = some out → zgo none (d) 73 9 [(0, .int b0), (1, .int b1), (2, zrf b2)] [] M (some (.int out), M) := by
  intro M b0 b1 b2 out h
  unfold f_73_9 at h
  refine zo_aload_n (p' := 10) (zi_73 rfl) rfl rfl ?_
  refine zo_iload_n (p' := 11) (zi_73 rfl) rfl rfl ?_
  refine zo_iload_n (p' := 12) (zi_73 rfl) rfl rfl ?_
  cases h
def f_73 (M : ZMem) (a0 : Int32) (a1 : Int32) (a2 : Option Nat) : Option (Int32) := if a0 < 0 then (f_73_9 M a0 a1 a2) else (if a0 < a1 then (some a0) else (f_73_9 M a0 a1 a2))
set_option maxRecDepth 20000 in
theorem k_73 (d : Nat) {M : ZMem} {a0 : Int32} {a1 : Int32} {a2 : Option Nat} {out : Int32} (h : f_73 M a0 a1 a2 = some out) : zrn (d) 73 [.int a0, .int a1, zrf a2] M (some (.int out), M) := by
  unfold f_73 at h
  refine zrn_of (L := [(0, .int a0), (1, .int a1), (2, zrf a2)]) (by simp [lv_args, zrf_cat, zcat_i, zcat_l, zcat_r]) ?_
  refine zo_iload_n (p' := 1) (zi_73 rfl) rfl rfl ?_
  by_cases hc1 : a0 < 0
  · rw [if_pos hc1] at h
    refine zo_ifT (p' := 9) (zi_73 rfl) rfl hc1 ?_
    refine zgo_sub (L' := [(0, .int a0), (1, .int a1), (2, zrf a2)]) (⟨rfl, rfl, rfl, trivial⟩) ?_
    exact k_73_9 _ M a0 a1 a2 _ h
  · rw [if_neg hc1] at h
    refine zo_ifF (p' := 4) (zi_73 rfl) rfl rfl hc1 ?_
    refine zo_iload_n (p' := 5) (zi_73 rfl) rfl rfl ?_
    refine zo_iload_n (p' := 6) (zi_73 rfl) rfl rfl ?_
    by_cases hc2 : a0 < a1
    · rw [if_pos hc2] at h
      refine zo_icT (p' := 16) (zi_73 rfl) rfl hc2 ?_
      refine zo_iload_n (p' := 17) (zi_73 rfl) rfl rfl ?_
      have g3 := Option.some.inj h
      subst g3
      exact zo_iret (zi_73 rfl) rfl ⟨rfl, rfl⟩
    · rw [if_neg hc2] at h
      refine zo_icF (p' := 9) (zi_73 rfl) rfl rfl hc2 ?_
      refine zgo_sub (L' := [(0, .int a0), (1, .int a1), (2, zrf a2)]) (⟨rfl, rfl, rfl, trivial⟩) ?_
      exact k_73_9 _ M a0 a1 a2 _ h
/-- java/lang/String.checkIndex(II)V -/
def f_72 (M : ZMem) (a0 : Int32) (a1 : Int32) : Option (Unit) := zb (f_73 M a0 a1 (some 18)) fun x1 => some ()
set_option maxRecDepth 20000 in
theorem k_72 (d : Nat) {M : ZMem} {a0 : Int32} {a1 : Int32} {out : Unit} (h : f_72 M a0 a1 = some out) : zrn (d + 1) 72 [.int a0, .int a1] M (none, M) := by
  unfold f_72 at h
  refine zrn_of (L := [(0, .int a0), (1, .int a1)]) rfl ?_
  refine zo_iload_n (p' := 1) (zi_72 rfl) rfl rfl ?_
  refine zo_iload_n (p' := 2) (zi_72 rfl) rfl rfl ?_
  refine zo_gets2 (p' := 5) (zi_72 rfl) rfl zl_15_1053 ?_
  obtain ⟨x1, hx2, g3⟩ := zb_of h
  refine zo_callSi (p' := 8) (as := [.int a0, .int a1, zrf (some 18)]) (r := []) (zi_72 rfl) rfl (Or.inl zl_15_1059) rfl rfl (Nat.le_of_ble_eq_true rfl) (Nat.le_of_ble_eq_true rfl) (k_73 _ hx2) ?_
  refine zo_pop (p' := 9) (zi_72 rfl) rfl (rfl) ?_
  have g4 := Option.some.inj g3
  subst g4
  exact zo_vret (zi_72 rfl) rfl
/-- java/lang/StringLatin1.charAt([BI)C -/
def f_71 (M : ZMem) (a0 : Option Nat) (a1 : Int32) : Option (Int32) := zb a0 fun q1 => zb (zlen none M q1) fun x2 => zb (f_72 M a1 x2) fun _ => zb (zab M q1 a1) fun x6 => if narrow .char (.int ((Int32.toUInt32 (x6 &&& 255) % 65536).toInt32)) = .int ((Int32.toUInt32 (x6 &&& 255) % 65536).toInt32) then some ((Int32.toUInt32 (x6 &&& 255) % 65536).toInt32) else none
set_option maxRecDepth 20000 in
theorem k_71 (d : Nat) {M : ZMem} {a0 : Option Nat} {a1 : Int32} {out : Int32} (h : f_71 M a0 a1 = some out) : zrn (d + 2) 71 [zrf a0, .int a1] M (some (.int out), M) := by
  unfold f_71 at h
  refine zrn_of (L := [(0, zrf a0), (1, .int a1)]) (by simp [lv_args, zrf_cat, zcat_i, zcat_l, zcat_r]) ?_
  refine zo_iload_n (p' := 1) (zi_71 rfl) rfl rfl ?_
  refine zo_aload_n (p' := 2) (zi_71 rfl) rfl rfl ?_
  obtain ⟨q1, h0, g9⟩ := zb_of h
  subst h0
  obtain ⟨x2, hx3, g10⟩ := zb_of g9
  refine zo_alen (p' := 3) (zi_71 rfl) rfl hx3 ?_
  obtain ⟨_, hx5, g11⟩ := zb_of g10
  refine zo_callSv (p' := 6) (as := [.int a1, .int x2]) (r := []) (zi_71 rfl) rfl (Or.inl zl_16_9) rfl rfl (Nat.le_of_ble_eq_true rfl) (Nat.le_of_ble_eq_true rfl) (k_72 _ hx5) ?_
  refine zo_aload_n (p' := 7) (zi_71 rfl) rfl rfl ?_
  refine zo_iload_n (p' := 8) (zi_71 rfl) rfl rfl ?_
  obtain ⟨x6, hx7, g12⟩ := zb_of g11
  refine zo_bald (p' := 9) (zi_71 rfl) rfl hx7 ?_
  refine zo_sipush (p' := 12) (v := 255) (zi_71 rfl) rfl rfl ?_
  refine zo_iand (p' := 13) (zi_71 rfl) rfl ?_
  refine zo_i2c (p' := 14) (zi_71 rfl) rfl ?_
  by_cases hr8 : narrow .char (.int ((Int32.toUInt32 (x6 &&& 255) % 65536).toInt32)) = .int ((Int32.toUInt32 (x6 &&& 255) % 65536).toInt32)
  · rw [if_pos hr8] at g12
    have g13 := Option.some.inj g12
    subst g13
    exact zo_iret (zi_71 rfl) rfl ⟨rfl, hr8⟩
  · rw [if_neg hr8] at g12; cases g12
/-- java/lang/String.charAt(I)C -/
def f_69 (M : ZMem) (o : Nat) (a0 : Int32) : Option (Int32) := if zok M 13 o = true then (zb (f_70 M o) fun x1 => if x1 = 0 then (zb (zgr M 13 0 o) fun r4 => none) else (zb (zgr M 13 0 o) fun r6 => zb (f_71 M r6 a0) fun x8 => if narrow .char (.int x8) = .int x8 then some x8 else none)) else none
theorem f_69_ok {M : ZMem} {o : Nat} {a0 : Int32} {out : Int32} (h : f_69 M o a0 = some out) : zok M 13 o = true := by
  unfold f_69 at h
  by_cases hok : zok M 13 o = true
  · exact hok
  · rw [if_neg hok] at h; cases h
set_option maxRecDepth 20000 in
theorem k_69 (d : Nat) {M : ZMem} {o : Nat} {a0 : Int32} {out : Int32} (h : f_69 M o a0 = some out) : zrn (d + 3) 69 [zrf (some o), .int a0] M (some (.int out), M) := by
  unfold f_69 at h
  by_cases hok : zok M 13 o = true
  · rw [if_pos hok] at h
    refine zrn_of (L := [(0, zrf (some o)), (1, .int a0)]) rfl ?_
    refine zo_aload_n (p' := 1) (zi_69 rfl) rfl rfl ?_
    obtain ⟨x1, hx2, g11⟩ := zb_of h
    refine zo_callVi (p' := 4) (t := 13) (as := []) (r := []) (zi_69 rfl) rfl zl_15_492 rfl rfl (Or.inr ⟨rfl, rfl⟩) (Nat.le_of_ble_eq_true rfl) (Nat.le_of_ble_eq_true rfl) (f_70_ok hx2) (k_70 _ hx2) ?_
    by_cases hc3 : x1 = 0
    · rw [if_pos hc3] at g11
      refine zo_ifT (p' := 16) (zi_69 rfl) rfl hc3 ?_
      refine zo_aload_n (p' := 17) (zi_69 rfl) rfl rfl ?_
      obtain ⟨r4, hx5, g12⟩ := zb_of g11
      refine zo_getR (p' := 20) (zi_69 rfl) rfl zl_15_9 hx5 ?_
      refine zo_iload_n (p' := 21) (zi_69 rfl) rfl rfl ?_
      cases g12
    · rw [if_neg hc3] at g11
      refine zo_ifF (p' := 7) (zi_69 rfl) rfl rfl hc3 ?_
      refine zo_aload_n (p' := 8) (zi_69 rfl) rfl rfl ?_
      obtain ⟨r6, hx7, g13⟩ := zb_of g11
      refine zo_getR (p' := 11) (zi_69 rfl) rfl zl_15_9 hx7 ?_
      refine zo_iload_n (p' := 12) (zi_69 rfl) rfl rfl ?_
      obtain ⟨x8, hx9, g14⟩ := zb_of g13
      refine zo_callSi (p' := 15) (as := [zrf r6, .int a0]) (r := []) (zi_69 rfl) rfl (Or.inl zl_15_495) rfl rfl (Nat.le_of_ble_eq_true rfl) (by rw [zml_71]; simp [lg_sl, zrf_cat, zcat_i, zcat_l, zcat_r]; done) (k_71 _ hx9) ?_
      by_cases hr10 : narrow .char (.int x8) = .int x8
      · rw [if_pos hr10] at g14
        have g15 := Option.some.inj g14
        subst g15
        exact zo_iret (zi_69 rfl) rfl ⟨rfl, hr10⟩
      · rw [if_neg hr10] at g14; cases g14
  · rw [if_neg hok] at h; cases h
/-- SlateHalves$HillReader.sameSigns(Ljava/lang/String;)I -/
def f_66_19 : Nat → ZMem → Nat → Option Nat → Int32 → Int32 → Option (Int32)
  | 0, _, _, _, _, _ => none
  | z + 1, M, o, b1, b2, b3 => if b2 ≤ b3 then (some b2) else (zb (zgr M 4 0 o) fun r16 => zb (zgi M 4 2 o) fun x18 => zb r16 fun q20 => zb (zab M q20 (x18 + b3)) fun x21 => zb b1 fun q23 => zb (f_69 M q23 b3) fun x24 => if x21 = x24 then (f_66_19 z M o (some q23) b2 ((b3 + 1))) else (some b3))
set_option maxRecDepth 20000 in
theorem k_66_19 (d : Nat) : ∀ (z : Nat) (M : ZMem) (o : Nat) (b1 : Option Nat) (b2 : Int32) (b3 : Int32) (out : Int32), f_66_19 z M o b1 b2 b3 = some out → zgo none (d + 4) 66 19 [(0, zrf (some o)), (1, zrf b1), (2, .int b2), (3, .int b3)] [] M (some (.int out), M) := by
  intro z
  induction z with
  | zero => intro M o b1 b2 b3 out h; cases h
  | succ z ih =>
    intro M o b1 b2 b3 out h
    rw [f_66_19] at h
    refine zo_iload_n (p' := 20) (zi_66 rfl) rfl rfl ?_
    refine zo_iload_n (p' := 21) (zi_66 rfl) rfl rfl ?_
    by_cases hc15 : b2 ≤ b3
    · rw [if_pos hc15] at h
      refine zo_icT (p' := 51) (zi_66 rfl) rfl hc15 ?_
      refine zo_iload_n (p' := 52) (zi_66 rfl) rfl rfl ?_
      have g27 := Option.some.inj h
      subst g27
      exact zo_iret (zi_66 rfl) rfl ⟨rfl, rfl⟩
    · rw [if_neg hc15] at h
      refine zo_icF (p' := 24) (zi_66 rfl) rfl rfl hc15 ?_
      refine zo_aload_n (p' := 25) (zi_66 rfl) rfl rfl ?_
      obtain ⟨r16, hx17, g28⟩ := zb_of h
      refine zo_getR (p' := 28) (zi_66 rfl) rfl zl_7_7 hx17 ?_
      refine zo_aload_n (p' := 29) (zi_66 rfl) rfl rfl ?_
      obtain ⟨x18, hx19, g29⟩ := zb_of g28
      refine zo_getI (p' := 32) (zi_66 rfl) rfl zl_7_17 hx19 ?_
      refine zo_iload_n (p' := 33) (zi_66 rfl) rfl rfl ?_
      refine zo_iadd (p' := 34) (zi_66 rfl) rfl ?_
      obtain ⟨q20, h0, g30⟩ := zb_of g29
      subst h0
      obtain ⟨x21, hx22, g31⟩ := zb_of g30
      refine zo_bald (p' := 35) (zi_66 rfl) rfl hx22 ?_
      refine zo_aload_n (p' := 36) (zi_66 rfl) rfl rfl ?_
      refine zo_iload_n (p' := 37) (zi_66 rfl) rfl rfl ?_
      obtain ⟨q23, h0, g32⟩ := zb_of g31
      subst h0
      obtain ⟨x24, hx25, g33⟩ := zb_of g32
      refine zo_callVi (p' := 40) (t := 13) (as := [.int b3]) (r := [.int x21]) (zi_66 rfl) rfl zl_7_92 rfl rfl (Or.inr ⟨rfl, rfl⟩) (Nat.le_of_ble_eq_true rfl) (Nat.le_of_ble_eq_true rfl) (f_69_ok hx25) (k_69 _ hx25) ?_
      by_cases hc26 : x21 = x24
      · rw [if_pos hc26] at g33
        refine zo_icT (p' := 45) (zi_66 rfl) rfl hc26 ?_
        refine zo_iinc (p' := 48) (v := (b3 + 1)) (L' := [(0, zrf (some o)), (1, zrf (some q23)), (2, .int b2), (3, .int ((b3 + 1)))]) (zi_66 rfl) rfl zm_66_3 rfl rfl ⟨Or.inr ⟨by decide, rfl, fun q => absurd q (by decide)⟩, ⟨Or.inr ⟨by decide, rfl, fun q => absurd q (by decide)⟩, ⟨Or.inr ⟨by decide, rfl, fun _ => rfl⟩, ⟨Or.inl ⟨rfl, rfl⟩, trivial⟩⟩⟩⟩ ?_
        refine zo_goto (p' := 19) (zi_66 rfl) rfl ?_
        refine zgo_sub (L' := [(0, zrf (some o)), (1, zrf ((some q23))), (2, .int b2), (3, .int (((b3 + 1))))]) (⟨rfl, rfl, rfl, rfl, trivial⟩) ?_
        exact ih M o (some q23) b2 ((b3 + 1)) _ g33
      · rw [if_neg hc26] at g33
        refine zo_icF (p' := 43) (zi_66 rfl) rfl rfl hc26 ?_
        refine zo_iload_n (p' := 44) (zi_66 rfl) rfl rfl ?_
        have g34 := Option.some.inj g33
        subst g34
        exact zo_iret (zi_66 rfl) rfl ⟨rfl, rfl⟩
def f_66 (M : ZMem) (o : Nat) (a0 : Option Nat) : Option (Int32) := if zok M 4 o = true then (zb a0 fun q1 => zb (f_67 M q1) fun x2 => zb (zgi M 4 1 o) fun x4 => zb (zgi M 4 2 o) fun x6 => zb (f_37 M x2 ((x4 - x6))) fun x8 => f_66_19 zF M o (some q1) x8 0) else none
theorem f_66_ok {M : ZMem} {o : Nat} {a0 : Option Nat} {out : Int32} (h : f_66 M o a0 = some out) : zok M 4 o = true := by
  unfold f_66 at h
  by_cases hok : zok M 4 o = true
  · exact hok
  · rw [if_neg hok] at h; cases h
set_option maxRecDepth 20000 in
theorem k_66 (d : Nat) {M : ZMem} {o : Nat} {a0 : Option Nat} {out : Int32} (h : f_66 M o a0 = some out) : zrn (d + 4) 66 [zrf (some o), zrf a0] M (some (.int out), M) := by
  unfold f_66 at h
  by_cases hok : zok M 4 o = true
  · rw [if_pos hok] at h
    refine zrn_of (L := [(0, zrf (some o)), (1, zrf a0)]) (by simp [lv_args, zrf_cat, zcat_i, zcat_l, zcat_r]) ?_
    refine zo_aload_n (p' := 1) (zi_66 rfl) rfl rfl ?_
    obtain ⟨q1, h0, g10⟩ := zb_of h
    subst h0
    obtain ⟨x2, hx3, g11⟩ := zb_of g10
    refine zo_callVi (p' := 4) (t := 13) (as := []) (r := []) (zi_66 rfl) rfl zl_7_85 rfl rfl (Or.inr ⟨rfl, rfl⟩) (Nat.le_of_ble_eq_true rfl) (Nat.le_of_ble_eq_true rfl) (f_67_ok hx3) (k_67 _ hx3) ?_
    refine zo_aload_n (p' := 5) (zi_66 rfl) rfl rfl ?_
    obtain ⟨x4, hx5, g12⟩ := zb_of g11
    refine zo_getI (p' := 8) (zi_66 rfl) rfl zl_7_13 hx5 ?_
    refine zo_aload_n (p' := 9) (zi_66 rfl) rfl rfl ?_
    obtain ⟨x6, hx7, g13⟩ := zb_of g12
    refine zo_getI (p' := 12) (zi_66 rfl) rfl zl_7_17 hx7 ?_
    refine zo_isub (p' := 13) (zi_66 rfl) rfl ?_
    obtain ⟨x8, hx9, g14⟩ := zb_of g13
    refine zo_callSi (p' := 16) (as := [.int x2, .int ((x4 - x6))]) (r := []) (zi_66 rfl) rfl (Or.inl zl_7_27) rfl rfl (Nat.le_of_ble_eq_true rfl) (Nat.le_of_ble_eq_true rfl) (k_37 _ hx9) ?_
    refine zo_istore_n (p' := 17) (L' := [(0, zrf (some o)), (1, zrf (some q1)), (2, .int x8)]) (zi_66 rfl) rfl zm_66_2 ⟨Or.inr ⟨by decide, rfl, fun q => absurd q (by decide)⟩, ⟨Or.inr ⟨by decide, rfl, fun _ => zrf_cat _⟩, ⟨Or.inl ⟨rfl, rfl⟩, trivial⟩⟩⟩ ?_
    refine zo_iconst (p' := 18) (v := 0) (zi_66 rfl) rfl rfl ?_
    refine zo_istore_n (p' := 19) (L' := [(0, zrf (some o)), (1, zrf (some q1)), (2, .int x8), (3, .int 0)]) (zi_66 rfl) rfl zm_66_3 ⟨Or.inr ⟨by decide, rfl, fun q => absurd q (by decide)⟩, ⟨Or.inr ⟨by decide, rfl, fun q => absurd q (by decide)⟩, ⟨Or.inr ⟨by decide, rfl, fun _ => rfl⟩, ⟨Or.inl ⟨rfl, rfl⟩, trivial⟩⟩⟩⟩ ?_
    refine zgo_sub (L' := [(0, zrf (some o)), (1, zrf ((some q1))), (2, .int x8), (3, .int 0)]) (⟨rfl, rfl, rfl, rfl, trivial⟩) ?_
    exact k_66_19 _ zF M o (some q1) x8 0 _ g14
  · rw [if_neg hok] at h; cases h
/-- SlateHalves$HillReader.takeWord()I -/
def f_64_4 : Nat → ZMem → Nat → Int32 → Int32 → Option (Int32 × ZMem)
  | 0, _, _, _, _ => none
  | z + 1, M, o, b1, b2 => if 5 ≤ b2 then (zb (zgi M 4 2 o) fun x2 => zb (zpf M 4 2 o (.int ((x2 + b1))) false) fun M4 => some ((-1), M4)) else (zb (f_65 M b2) fun r6 => zb (f_66 M o r6) fun x8 => zb (f_65 M b2) fun r10 => zb r10 fun q12 => zb (f_67 M q12) fun x13 => if ¬ x8 = x13 then (zb (f_24 M b1 x8) fun x16 => f_64_4 z M o x16 ((b2 + 1))) else (zb (zgi M 4 2 o) fun x18 => zb (zpf M 4 2 o (.int ((x18 + x8))) false) fun M20 => some (b2, M20)))
set_option maxRecDepth 20000 in
theorem k_64_4 (d : Nat) : ∀ (z : Nat) (M : ZMem) (o : Nat) (b1 : Int32) (b2 : Int32) (out : Int32 × ZMem), f_64_4 z M o b1 b2 = some out → zgo none (d + 5) 64 4 [(0, zrf (some o)), (1, .int b1), (2, .int b2)] [] M (some (.int out.1), out.2) := by
  intro z
  induction z with
  | zero => intro M o b1 b2 out h; cases h
  | succ z ih =>
    intro M o b1 b2 out h
    rw [f_64_4] at h
    refine zo_iload_n (p' := 5) (zi_64 rfl) rfl rfl ?_
    refine zo_iconst (p' := 6) (v := 5) (zi_64 rfl) rfl rfl ?_
    by_cases hc1 : 5 ≤ b2
    · rw [if_pos hc1] at h
      refine zo_icT (p' := 53) (zi_64 rfl) rfl hc1 ?_
      refine zo_aload_n (p' := 54) (zi_64 rfl) rfl rfl ?_
      refine zo_dup (p' := 55) (zi_64 rfl) rfl (zrf_cat _) ?_
      obtain ⟨x2, hx3, g22⟩ := zb_of h
      refine zo_getI (p' := 58) (zi_64 rfl) rfl zl_7_17 hx3 ?_
      refine zo_iload_n (p' := 59) (zi_64 rfl) rfl rfl ?_
      refine zo_iadd (p' := 60) (zi_64 rfl) rfl ?_
      obtain ⟨M4, hx5, g23⟩ := zb_of g22
      refine zo_putI (p' := 63) (zi_64 rfl) rfl zl_7_17 (zpb_64 _) hx5 ?_
      refine zo_iconst (p' := 64) (v := (-1)) (zi_64 rfl) rfl rfl ?_
      have g24 := Option.some.inj g23
      subst g24
      exact zo_iret (zi_64 rfl) rfl ⟨rfl, rfl⟩
    · rw [if_neg hc1] at h
      refine zo_icF (p' := 9) (zi_64 rfl) rfl rfl hc1 ?_
      refine zo_aload_n (p' := 10) (zi_64 rfl) rfl rfl ?_
      refine zo_iload_n (p' := 11) (zi_64 rfl) rfl rfl ?_
      obtain ⟨r6, hx7, g25⟩ := zb_of h
      refine zo_callSa (p' := 14) (as := [.int b2]) (r := [zrf (some o)]) (zi_64 rfl) rfl (Or.inl zl_7_77) rfl rfl (Nat.le_of_ble_eq_true rfl) (Nat.le_of_ble_eq_true rfl) (k_65 _ hx7) ?_
      obtain ⟨x8, hx9, g26⟩ := zb_of g25
      refine zo_callVi (p' := 17) (t := 4) (as := [zrf r6]) (r := []) (zi_64 rfl) rfl zl_7_81 rfl rfl (Or.inl ⟨by decide, rfl⟩) (Nat.le_of_ble_eq_true rfl) (by rw [zml_66]; simp [lg_sl, zrf_cat, zcat_i, zcat_l, zcat_r]; done) (f_66_ok hx9) (k_66 _ hx9) ?_
      refine zo_istore_n (p' := 18) (L' := [(0, zrf (some o)), (1, .int b1), (2, .int b2), (3, .int x8)]) (zi_64 rfl) rfl zm_64_3 ⟨Or.inr ⟨by decide, rfl, fun q => absurd q (by decide)⟩, ⟨Or.inr ⟨by decide, rfl, fun q => absurd q (by decide)⟩, ⟨Or.inr ⟨by decide, rfl, fun _ => rfl⟩, ⟨Or.inl ⟨rfl, rfl⟩, trivial⟩⟩⟩⟩ ?_
      refine zo_iload_n (p' := 19) (zi_64 rfl) rfl rfl ?_
      refine zo_iload_n (p' := 20) (zi_64 rfl) rfl rfl ?_
      obtain ⟨r10, hx11, g27⟩ := zb_of g26
      refine zo_callSa (p' := 23) (as := [.int b2]) (r := [.int x8]) (zi_64 rfl) rfl (Or.inl zl_7_77) rfl rfl (Nat.le_of_ble_eq_true rfl) (Nat.le_of_ble_eq_true rfl) (k_65 _ hx11) ?_
      obtain ⟨q12, h0, g28⟩ := zb_of g27
      subst h0
      obtain ⟨x13, hx14, g29⟩ := zb_of g28
      refine zo_callVi (p' := 26) (t := 13) (as := []) (r := [.int x8]) (zi_64 rfl) rfl zl_7_85 rfl rfl (Or.inr ⟨rfl, rfl⟩) (Nat.le_of_ble_eq_true rfl) (Nat.le_of_ble_eq_true rfl) (f_67_ok hx14) (k_67 _ hx14) ?_
      by_cases hc15 : ¬ x8 = x13
      · rw [if_pos hc15] at g29
        refine zo_icT (p' := 41) (zi_64 rfl) rfl hc15 ?_
        refine zo_iload_n (p' := 42) (zi_64 rfl) rfl rfl ?_
        refine zo_iload_n (p' := 43) (zi_64 rfl) rfl rfl ?_
        obtain ⟨x16, hx17, g30⟩ := zb_of g29
        refine zo_callSi (p' := 46) (as := [.int b1, .int x8]) (r := []) (zi_64 rfl) rfl (Or.inl zl_7_89) rfl rfl (Nat.le_of_ble_eq_true rfl) (Nat.le_of_ble_eq_true rfl) (k_24 _ hx17) ?_
        refine zo_istore_n (p' := 47) (L' := [(0, zrf (some o)), (1, .int x16), (2, .int b2), (3, .int x8)]) (zi_64 rfl) rfl zm_64_1 ⟨Or.inr ⟨by decide, rfl, fun _ => zrf_cat _⟩, ⟨Or.inl ⟨rfl, rfl⟩, ⟨Or.inr ⟨by decide, rfl, fun q => absurd q (by decide)⟩, ⟨Or.inr ⟨by decide, rfl, fun q => absurd q (by decide)⟩, trivial⟩⟩⟩⟩ ?_
        refine zo_iinc (p' := 50) (v := (b2 + 1)) (L' := [(0, zrf (some o)), (1, .int x16), (2, .int ((b2 + 1))), (3, .int x8)]) (zi_64 rfl) rfl zm_64_2 rfl rfl ⟨Or.inr ⟨by decide, rfl, fun q => absurd q (by decide)⟩, ⟨Or.inr ⟨by decide, rfl, fun _ => rfl⟩, ⟨Or.inl ⟨rfl, rfl⟩, ⟨Or.inr ⟨by decide, rfl, fun q => absurd q (by decide)⟩, trivial⟩⟩⟩⟩ ?_
        refine zo_goto (p' := 4) (zi_64 rfl) rfl ?_
        refine zgo_sub (L' := [(0, zrf (some o)), (1, .int x16), (2, .int (((b2 + 1))))]) (⟨rfl, rfl, rfl, trivial⟩) ?_
        exact ih M o x16 ((b2 + 1)) _ g30
      · rw [if_neg hc15] at g29
        refine zo_icF (p' := 29) (zi_64 rfl) rfl rfl hc15 ?_
        refine zo_aload_n (p' := 30) (zi_64 rfl) rfl rfl ?_
        refine zo_dup (p' := 31) (zi_64 rfl) rfl (zrf_cat _) ?_
        obtain ⟨x18, hx19, g31⟩ := zb_of g29
        refine zo_getI (p' := 34) (zi_64 rfl) rfl zl_7_17 hx19 ?_
        refine zo_iload_n (p' := 35) (zi_64 rfl) rfl rfl ?_
        refine zo_iadd (p' := 36) (zi_64 rfl) rfl ?_
        obtain ⟨M20, hx21, g32⟩ := zb_of g31
        refine zo_putI (p' := 39) (zi_64 rfl) rfl zl_7_17 (zpb_64 _) hx21 ?_
        refine zo_iload_n (p' := 40) (zi_64 rfl) rfl rfl ?_
        have g33 := Option.some.inj g32
        subst g33
        exact zo_iret (zi_64 rfl) rfl ⟨rfl, rfl⟩
def f_64 (M : ZMem) (o : Nat) : Option (Int32 × ZMem) := if zok M 4 o = true then (f_64_4 zF M o 0 0) else none
theorem f_64_ok {M : ZMem} {o : Nat} {out : Int32 × ZMem} (h : f_64 M o = some out) : zok M 4 o = true := by
  unfold f_64 at h
  by_cases hok : zok M 4 o = true
  · exact hok
  · rw [if_neg hok] at h; cases h
set_option maxRecDepth 20000 in
theorem k_64 (d : Nat) {M : ZMem} {o : Nat} {out : Int32 × ZMem} (h : f_64 M o = some out) : zrn (d + 5) 64 [zrf (some o)] M (some (.int out.1), out.2) := by
  unfold f_64 at h
  by_cases hok : zok M 4 o = true
  · rw [if_pos hok] at h
    refine zrn_of (L := [(0, zrf (some o))]) rfl ?_
    refine zo_iconst (p' := 1) (v := 0) (zi_64 rfl) rfl rfl ?_
    refine zo_istore_n (p' := 2) (L' := [(0, zrf (some o)), (1, .int 0)]) (zi_64 rfl) rfl zm_64_1 ⟨Or.inr ⟨by decide, rfl, fun _ => zrf_cat _⟩, ⟨Or.inl ⟨rfl, rfl⟩, trivial⟩⟩ ?_
    refine zo_iconst (p' := 3) (v := 0) (zi_64 rfl) rfl rfl ?_
    refine zo_istore_n (p' := 4) (L' := [(0, zrf (some o)), (1, .int 0), (2, .int 0)]) (zi_64 rfl) rfl zm_64_2 ⟨Or.inr ⟨by decide, rfl, fun q => absurd q (by decide)⟩, ⟨Or.inr ⟨by decide, rfl, fun _ => rfl⟩, ⟨Or.inl ⟨rfl, rfl⟩, trivial⟩⟩⟩ ?_
    refine zgo_sub (L' := [(0, zrf (some o)), (1, .int 0), (2, .int 0)]) (⟨rfl, rfl, rfl, trivial⟩) ?_
    exact k_64_4 _ zF M o 0 0 _ h
  · rw [if_neg hok] at h; cases h
/-- SlateHalves$HillReader.sign()I -/
def f_75 (M : ZMem) (o : Nat) : Option (Int32) := if zok M 4 o = true then (zb (zgi M 4 2 o) fun x1 => zb (zgi M 4 1 o) fun x3 => if x3 ≤ x1 then (some (-1)) else (zb (zgr M 4 0 o) fun r6 => zb (zgi M 4 2 o) fun x8 => zb r6 fun q10 => zb (zab M q10 x8) fun x11 => some x11)) else none
theorem f_75_ok {M : ZMem} {o : Nat} {out : Int32} (h : f_75 M o = some out) : zok M 4 o = true := by
  unfold f_75 at h
  by_cases hok : zok M 4 o = true
  · exact hok
  · rw [if_neg hok] at h; cases h
set_option maxRecDepth 20000 in
theorem k_75 (d : Nat) {M : ZMem} {o : Nat} {out : Int32} (h : f_75 M o = some out) : zrn (d) 75 [zrf (some o)] M (some (.int out), M) := by
  unfold f_75 at h
  by_cases hok : zok M 4 o = true
  · rw [if_pos hok] at h
    refine zrn_of (L := [(0, zrf (some o))]) rfl ?_
    refine zo_aload_n (p' := 1) (zi_75 rfl) rfl rfl ?_
    obtain ⟨x1, hx2, g13⟩ := zb_of h
    refine zo_getI (p' := 4) (zi_75 rfl) rfl zl_7_17 hx2 ?_
    refine zo_aload_n (p' := 5) (zi_75 rfl) rfl rfl ?_
    obtain ⟨x3, hx4, g14⟩ := zb_of g13
    refine zo_getI (p' := 8) (zi_75 rfl) rfl zl_7_13 hx4 ?_
    by_cases hc5 : x3 ≤ x1
    · rw [if_pos hc5] at g14
      refine zo_icT (p' := 23) (zi_75 rfl) rfl hc5 ?_
      refine zo_iconst (p' := 24) (v := (-1)) (zi_75 rfl) rfl rfl ?_
      have g15 := Option.some.inj g14
      subst g15
      exact zo_iret (zi_75 rfl) rfl ⟨rfl, rfl⟩
    · rw [if_neg hc5] at g14
      refine zo_icF (p' := 11) (zi_75 rfl) rfl rfl hc5 ?_
      refine zo_aload_n (p' := 12) (zi_75 rfl) rfl rfl ?_
      obtain ⟨r6, hx7, g16⟩ := zb_of g14
      refine zo_getR (p' := 15) (zi_75 rfl) rfl zl_7_7 hx7 ?_
      refine zo_aload_n (p' := 16) (zi_75 rfl) rfl rfl ?_
      obtain ⟨x8, hx9, g17⟩ := zb_of g16
      refine zo_getI (p' := 19) (zi_75 rfl) rfl zl_7_17 hx9 ?_
      obtain ⟨q10, h0, g18⟩ := zb_of g17
      subst h0
      obtain ⟨x11, hx12, g19⟩ := zb_of g18
      refine zo_bald (p' := 20) (zi_75 rfl) rfl hx12 ?_
      refine zo_goto (p' := 24) (zi_75 rfl) rfl ?_
      have g20 := Option.some.inj g19
      subst g20
      exact zo_iret (zi_75 rfl) rfl ⟨rfl, rfl⟩
  · rw [if_neg hok] at h; cases h
/-- SlateHalves$HillReader.takeSign(I)Z -/
def f_74 (M : ZMem) (o : Nat) (a0 : Int32) : Option (Int32 × ZMem) := if zok M 4 o = true then (zb (f_75 M o) fun x1 => if x1 = a0 then (zb (zgi M 4 2 o) fun x4 => zb (zpf M 4 2 o (.int ((x4 + 1))) false) fun M6 => some (1, M6)) else (some (0, M))) else none
theorem f_74_ok {M : ZMem} {o : Nat} {a0 : Int32} {out : Int32 × ZMem} (h : f_74 M o a0 = some out) : zok M 4 o = true := by
  unfold f_74 at h
  by_cases hok : zok M 4 o = true
  · exact hok
  · rw [if_neg hok] at h; cases h
set_option maxRecDepth 20000 in
theorem k_74 (d : Nat) {M : ZMem} {o : Nat} {a0 : Int32} {out : Int32 × ZMem} (h : f_74 M o a0 = some out) : zrn (d + 1) 74 [zrf (some o), .int a0] M (some (.int out.1), out.2) := by
  unfold f_74 at h
  by_cases hok : zok M 4 o = true
  · rw [if_pos hok] at h
    refine zrn_of (L := [(0, zrf (some o)), (1, .int a0)]) rfl ?_
    refine zo_aload_n (p' := 1) (zi_74 rfl) rfl rfl ?_
    obtain ⟨x1, hx2, g8⟩ := zb_of h
    refine zo_callVi (p' := 4) (t := 4) (as := []) (r := []) (zi_74 rfl) rfl zl_7_44 rfl rfl (Or.inl ⟨by decide, rfl⟩) (Nat.le_of_ble_eq_true rfl) (Nat.le_of_ble_eq_true rfl) (f_75_ok hx2) (k_75 _ hx2) ?_
    refine zo_iload_n (p' := 5) (zi_74 rfl) rfl rfl ?_
    by_cases hc3 : x1 = a0
    · rw [if_pos hc3] at g8
      refine zo_icT (p' := 10) (zi_74 rfl) rfl hc3 ?_
      refine zo_aload_n (p' := 11) (zi_74 rfl) rfl rfl ?_
      refine zo_dup (p' := 12) (zi_74 rfl) rfl (zrf_cat _) ?_
      obtain ⟨x4, hx5, g9⟩ := zb_of g8
      refine zo_getI (p' := 15) (zi_74 rfl) rfl zl_7_17 hx5 ?_
      refine zo_iconst (p' := 16) (v := 1) (zi_74 rfl) rfl rfl ?_
      refine zo_iadd (p' := 17) (zi_74 rfl) rfl ?_
      obtain ⟨M6, hx7, g10⟩ := zb_of g9
      refine zo_putI (p' := 20) (zi_74 rfl) rfl zl_7_17 (zpb_74 _) hx7 ?_
      refine zo_iconst (p' := 21) (v := 1) (zi_74 rfl) rfl rfl ?_
      have g11 := Option.some.inj g10
      subst g11
      exact zo_iret (zi_74 rfl) rfl ⟨rfl, rfl⟩
    · rw [if_neg hc3] at g8
      refine zo_icF (p' := 8) (zi_74 rfl) rfl rfl hc3 ?_
      refine zo_iconst (p' := 9) (v := 0) (zi_74 rfl) rfl rfl ?_
      have g12 := Option.some.inj g8
      subst g12
      exact zo_iret (zi_74 rfl) rfl ⟨rfl, rfl⟩
  · rw [if_neg hok] at h; cases h
/-- SlateHalves$HillReader.takeNumber()I -/
def f_76 (M : ZMem) (o : Nat) : Option (Int32 × ZMem) := if zok M 4 o = true then (zb (f_75 M o) fun x1 => zb (f_14 M x1 48 57) fun x3 => if ¬ x3 = 0 then (zb (zgi M 4 2 o) fun x6 => zb (zpf M 4 2 o (.int ((x6 + 1))) false) fun M8 => zb (f_75 M8 o) fun x10 => zb (f_14 M8 x10 48 57) fun x12 => if ¬ x12 = 0 then (zb (zgi M8 4 2 o) fun x15 => zb (zpf M8 4 2 o (.int ((x15 + 1))) false) fun M17 => some (((((x1 - 48) * 10) + x10) - 48), M17)) else (some ((x1 - 48), M8))) else (some ((-1), M))) else none
theorem f_76_ok {M : ZMem} {o : Nat} {out : Int32 × ZMem} (h : f_76 M o = some out) : zok M 4 o = true := by
  unfold f_76 at h
  by_cases hok : zok M 4 o = true
  · exact hok
  · rw [if_neg hok] at h; cases h
set_option maxRecDepth 20000 in
theorem k_76 (d : Nat) {M : ZMem} {o : Nat} {out : Int32 × ZMem} (h : f_76 M o = some out) : zrn (d + 1) 76 [zrf (some o)] M (some (.int out.1), out.2) := by
  unfold f_76 at h
  by_cases hok : zok M 4 o = true
  · rw [if_pos hok] at h
    refine zrn_of (L := [(0, zrf (some o))]) rfl ?_
    refine zo_aload_n (p' := 1) (zi_76 rfl) rfl rfl ?_
    obtain ⟨x1, hx2, g19⟩ := zb_of h
    refine zo_callVi (p' := 4) (t := 4) (as := []) (r := []) (zi_76 rfl) rfl zl_7_44 rfl rfl (Or.inl ⟨by decide, rfl⟩) (Nat.le_of_ble_eq_true rfl) (Nat.le_of_ble_eq_true rfl) (f_75_ok hx2) (k_75 _ hx2) ?_
    refine zo_istore_n (p' := 5) (L' := [(0, zrf (some o)), (1, .int x1)]) (zi_76 rfl) rfl zm_76_1 ⟨Or.inr ⟨by decide, rfl, fun _ => zrf_cat _⟩, ⟨Or.inl ⟨rfl, rfl⟩, trivial⟩⟩ ?_
    refine zo_iload_n (p' := 6) (zi_76 rfl) rfl rfl ?_
    refine zo_bipush (p' := 8) (v := 48) (zi_76 rfl) rfl rfl ?_
    refine zo_bipush (p' := 10) (v := 57) (zi_76 rfl) rfl rfl ?_
    obtain ⟨x3, hx4, g20⟩ := zb_of g19
    refine zo_callSi (p' := 13) (as := [.int x1, .int 48, .int 57]) (r := []) (zi_76 rfl) rfl (Or.inr zl_7_96) rfl rfl (Nat.le_of_ble_eq_true rfl) (Nat.le_of_ble_eq_true rfl) (k_14 _ hx4) ?_
    by_cases hc5 : ¬ x3 = 0
    · rw [if_pos hc5] at g20
      refine zo_ifT (p' := 18) (zi_76 rfl) rfl hc5 ?_
      refine zo_aload_n (p' := 19) (zi_76 rfl) rfl rfl ?_
      refine zo_dup (p' := 20) (zi_76 rfl) rfl (zrf_cat _) ?_
      obtain ⟨x6, hx7, g21⟩ := zb_of g20
      refine zo_getI (p' := 23) (zi_76 rfl) rfl zl_7_17 hx7 ?_
      refine zo_iconst (p' := 24) (v := 1) (zi_76 rfl) rfl rfl ?_
      refine zo_iadd (p' := 25) (zi_76 rfl) rfl ?_
      obtain ⟨M8, hx9, g22⟩ := zb_of g21
      refine zo_putI (p' := 28) (zi_76 rfl) rfl zl_7_17 (zpb_76 _) hx9 ?_
      refine zo_aload_n (p' := 29) (zi_76 rfl) rfl rfl ?_
      obtain ⟨x10, hx11, g23⟩ := zb_of g22
      refine zo_callVi (p' := 32) (t := 4) (as := []) (r := []) (zi_76 rfl) rfl zl_7_44 rfl rfl (Or.inl ⟨by decide, rfl⟩) (Nat.le_of_ble_eq_true rfl) (Nat.le_of_ble_eq_true rfl) (f_75_ok hx11) (k_75 _ hx11) ?_
      refine zo_istore_n (p' := 33) (L' := [(0, zrf (some o)), (1, .int x1), (2, .int x10)]) (zi_76 rfl) rfl zm_76_2 ⟨Or.inr ⟨by decide, rfl, fun q => absurd q (by decide)⟩, ⟨Or.inr ⟨by decide, rfl, fun _ => rfl⟩, ⟨Or.inl ⟨rfl, rfl⟩, trivial⟩⟩⟩ ?_
      refine zo_iload_n (p' := 34) (zi_76 rfl) rfl rfl ?_
      refine zo_bipush (p' := 36) (v := 48) (zi_76 rfl) rfl rfl ?_
      refine zo_bipush (p' := 38) (v := 57) (zi_76 rfl) rfl rfl ?_
      obtain ⟨x12, hx13, g24⟩ := zb_of g23
      refine zo_callSi (p' := 41) (as := [.int x10, .int 48, .int 57]) (r := []) (zi_76 rfl) rfl (Or.inr zl_7_96) rfl rfl (Nat.le_of_ble_eq_true rfl) (Nat.le_of_ble_eq_true rfl) (k_14 _ hx13) ?_
      by_cases hc14 : ¬ x12 = 0
      · rw [if_pos hc14] at g24
        refine zo_ifT (p' := 49) (zi_76 rfl) rfl hc14 ?_
        refine zo_aload_n (p' := 50) (zi_76 rfl) rfl rfl ?_
        refine zo_dup (p' := 51) (zi_76 rfl) rfl (zrf_cat _) ?_
        obtain ⟨x15, hx16, g25⟩ := zb_of g24
        refine zo_getI (p' := 54) (zi_76 rfl) rfl zl_7_17 hx16 ?_
        refine zo_iconst (p' := 55) (v := 1) (zi_76 rfl) rfl rfl ?_
        refine zo_iadd (p' := 56) (zi_76 rfl) rfl ?_
        obtain ⟨M17, hx18, g26⟩ := zb_of g25
        refine zo_putI (p' := 59) (zi_76 rfl) rfl zl_7_17 (zpb_76 _) hx18 ?_
        refine zo_iload_n (p' := 60) (zi_76 rfl) rfl rfl ?_
        refine zo_bipush (p' := 62) (v := 48) (zi_76 rfl) rfl rfl ?_
        refine zo_isub (p' := 63) (zi_76 rfl) rfl ?_
        refine zo_bipush (p' := 65) (v := 10) (zi_76 rfl) rfl rfl ?_
        refine zo_imul (p' := 66) (zi_76 rfl) rfl ?_
        refine zo_iload_n (p' := 67) (zi_76 rfl) rfl rfl ?_
        refine zo_iadd (p' := 68) (zi_76 rfl) rfl ?_
        refine zo_bipush (p' := 70) (v := 48) (zi_76 rfl) rfl rfl ?_
        refine zo_isub (p' := 71) (zi_76 rfl) rfl ?_
        have g27 := Option.some.inj g26
        subst g27
        exact zo_iret (zi_76 rfl) rfl ⟨rfl, rfl⟩
      · rw [if_neg hc14] at g24
        refine zo_ifF (p' := 44) (zi_76 rfl) rfl rfl hc14 ?_
        refine zo_iload_n (p' := 45) (zi_76 rfl) rfl rfl ?_
        refine zo_bipush (p' := 47) (v := 48) (zi_76 rfl) rfl rfl ?_
        refine zo_isub (p' := 48) (zi_76 rfl) rfl ?_
        have g28 := Option.some.inj g24
        subst g28
        exact zo_iret (zi_76 rfl) rfl ⟨rfl, rfl⟩
    · rw [if_neg hc5] at g20
      refine zo_ifF (p' := 16) (zi_76 rfl) rfl rfl hc5 ?_
      refine zo_iconst (p' := 17) (v := (-1)) (zi_76 rfl) rfl rfl ?_
      have g29 := Option.some.inj g20
      subst g29
      exact zo_iret (zi_76 rfl) rfl ⟨rfl, rfl⟩
  · rw [if_neg hok] at h; cases h
/-- SlateHalves$Hill.addStep(IIII)V -/
def f_87 (M : ZMem) (o : Nat) (a0 : Int32) (a1 : Int32) (a2 : Int32) (a3 : Int32) : Option (ZMem) := if zok M 3 o = true then (zb (zgi M 3 1 o) fun x1 => if 100 ≤ x1 then (some M) else (zb (zgr M 3 0 o) fun r4 => zb (zgi M 3 1 o) fun x6 => zb r4 fun q8 => zb (zsa M 20 q8 x6 ((((a0 <<< (24 &&& 31)) ||| (a1 <<< (16 &&& 31))) ||| (a2 <<< (8 &&& 31))) ||| a3)) fun M9 => zb (zgi M9 3 1 o) fun x11 => zb (zpf M9 3 1 o (.int ((x11 + 1))) false) fun M13 => some M13)) else none
theorem f_87_ok {M : ZMem} {o : Nat} {a0 : Int32} {a1 : Int32} {a2 : Int32} {a3 : Int32} {out : ZMem} (h : f_87 M o a0 a1 a2 a3 = some out) : zok M 3 o = true := by
  unfold f_87 at h
  by_cases hok : zok M 3 o = true
  · exact hok
  · rw [if_neg hok] at h; cases h
set_option maxRecDepth 20000 in
theorem k_87 (d : Nat) {M : ZMem} {o : Nat} {a0 : Int32} {a1 : Int32} {a2 : Int32} {a3 : Int32} {out : ZMem} (h : f_87 M o a0 a1 a2 a3 = some out) : zrn (d) 87 [zrf (some o), .int a0, .int a1, .int a2, .int a3] M (none, out) := by
  unfold f_87 at h
  by_cases hok : zok M 3 o = true
  · rw [if_pos hok] at h
    refine zrn_of (L := [(0, zrf (some o)), (1, .int a0), (2, .int a1), (3, .int a2), (4, .int a3)]) rfl ?_
    refine zo_aload_n (p' := 1) (zi_87 rfl) rfl rfl ?_
    obtain ⟨x1, hx2, g15⟩ := zb_of h
    refine zo_getI (p' := 4) (zi_87 rfl) rfl zl_6_15 hx2 ?_
    refine zo_bipush (p' := 6) (v := 100) (zi_87 rfl) rfl rfl ?_
    by_cases hc3 : 100 ≤ x1
    · rw [if_pos hc3] at g15
      refine zo_icT (p' := 45) (zi_87 rfl) rfl hc3 ?_
      have g16 := Option.some.inj g15
      subst g16
      exact zo_vret (zi_87 rfl) rfl
    · rw [if_neg hc3] at g15
      refine zo_icF (p' := 9) (zi_87 rfl) rfl rfl hc3 ?_
      refine zo_aload_n (p' := 10) (zi_87 rfl) rfl rfl ?_
      obtain ⟨r4, hx5, g17⟩ := zb_of g15
      refine zo_getR (p' := 13) (zi_87 rfl) rfl zl_6_9 hx5 ?_
      refine zo_aload_n (p' := 14) (zi_87 rfl) rfl rfl ?_
      obtain ⟨x6, hx7, g18⟩ := zb_of g17
      refine zo_getI (p' := 17) (zi_87 rfl) rfl zl_6_15 hx7 ?_
      refine zo_iload_n (p' := 18) (zi_87 rfl) rfl rfl ?_
      refine zo_bipush (p' := 20) (v := 24) (zi_87 rfl) rfl rfl ?_
      refine zo_ishl (p' := 21) (zi_87 rfl) rfl ?_
      refine zo_iload_n (p' := 22) (zi_87 rfl) rfl rfl ?_
      refine zo_bipush (p' := 24) (v := 16) (zi_87 rfl) rfl rfl ?_
      refine zo_ishl (p' := 25) (zi_87 rfl) rfl ?_
      refine zo_ior (p' := 26) (zi_87 rfl) rfl ?_
      refine zo_iload_n (p' := 27) (zi_87 rfl) rfl rfl ?_
      refine zo_bipush (p' := 29) (v := 8) (zi_87 rfl) rfl rfl ?_
      refine zo_ishl (p' := 30) (zi_87 rfl) rfl ?_
      refine zo_ior (p' := 31) (zi_87 rfl) rfl ?_
      refine zo_iload (p' := 33) (zi_87 rfl) rfl rfl ?_
      refine zo_ior (p' := 34) (zi_87 rfl) rfl ?_
      obtain ⟨q8, h0, g19⟩ := zb_of g18
      subst h0
      obtain ⟨M9, hx10, g20⟩ := zb_of g19
      refine zo_iast (p' := 35) (zi_87 rfl) rfl hx10 ?_
      refine zo_aload_n (p' := 36) (zi_87 rfl) rfl rfl ?_
      refine zo_dup (p' := 37) (zi_87 rfl) rfl (zrf_cat _) ?_
      obtain ⟨x11, hx12, g21⟩ := zb_of g20
      refine zo_getI (p' := 40) (zi_87 rfl) rfl zl_6_15 hx12 ?_
      refine zo_iconst (p' := 41) (v := 1) (zi_87 rfl) rfl rfl ?_
      refine zo_iadd (p' := 42) (zi_87 rfl) rfl ?_
      obtain ⟨M13, hx14, g22⟩ := zb_of g21
      refine zo_putI (p' := 45) (zi_87 rfl) rfl zl_6_15 (zpb_87 _) hx14 ?_
      have g23 := Option.some.inj g22
      subst g23
      exact zo_vret (zi_87 rfl) rfl
  · rw [if_neg hok] at h; cases h
/-- java/lang/StringLatin1.canEncode(I)Z -/
def f_85 (M : ZMem) (a0 : Int32) : Option (Int32) := if a0 < 0 then (some 0) else (if 255 < a0 then (some 0) else (some 1))
set_option maxRecDepth 20000 in
theorem k_85 (d : Nat) {M : ZMem} {a0 : Int32} {out : Int32} (h : f_85 M a0 = some out) : zrn (d) 85 [.int a0] M (some (.int out), M) := by
  unfold f_85 at h
  refine zrn_of (L := [(0, .int a0)]) rfl ?_
  refine zo_iload_n (p' := 1) (zi_85 rfl) rfl rfl ?_
  by_cases hc1 : a0 < 0
  · rw [if_pos hc1] at h
    refine zo_ifT (p' := 15) (zi_85 rfl) rfl hc1 ?_
    refine zo_iconst (p' := 16) (v := 0) (zi_85 rfl) rfl rfl ?_
    have g3 := Option.some.inj h
    subst g3
    exact zo_iret (zi_85 rfl) rfl ⟨rfl, rfl⟩
  · rw [if_neg hc1] at h
    refine zo_ifF (p' := 4) (zi_85 rfl) rfl rfl hc1 ?_
    refine zo_iload_n (p' := 5) (zi_85 rfl) rfl rfl ?_
    refine zo_sipush (p' := 8) (v := 255) (zi_85 rfl) rfl rfl ?_
    by_cases hc2 : 255 < a0
    · rw [if_pos hc2] at h
      refine zo_icT (p' := 15) (zi_85 rfl) rfl hc2 ?_
      refine zo_iconst (p' := 16) (v := 0) (zi_85 rfl) rfl rfl ?_
      have g4 := Option.some.inj h
      subst g4
      exact zo_iret (zi_85 rfl) rfl ⟨rfl, rfl⟩
    · rw [if_neg hc2] at h
      refine zo_icF (p' := 11) (zi_85 rfl) rfl rfl hc2 ?_
      refine zo_iconst (p' := 12) (v := 1) (zi_85 rfl) rfl rfl ?_
      refine zo_goto (p' := 16) (zi_85 rfl) rfl ?_
      have g5 := Option.some.inj h
      subst g5
      exact zo_iret (zi_85 rfl) rfl ⟨rfl, rfl⟩
/-- java/lang/StringLatin1.indexOfChar([BIII)I -/
def f_86_7 : Nat → ZMem → Option Nat → Int32 → Int32 → Int32 → Option (Int32)
  | 0, _, _, _, _, _ => none
  | z + 1, M, b0, b1, b2, b3 => if b1 ≤ b3 then (some (-1)) else (zb b0 fun q2 => zb (zab M q2 b3) fun x3 => if ¬ x3 = b2 then (f_86_7 z M (some q2) b1 b2 ((b3 + 1))) else (some b3))
set_option maxRecDepth 20000 in
theorem k_86_7 (d : Nat) : ∀ (z : Nat) (M : ZMem) (b0 : Option Nat) (b1 : Int32) (b2 : Int32) (b3 : Int32) (out : Int32), f_86_7 z M b0 b1 b2 b3 = some out → zgo none (d) 86 7 [(0, zrf b0), (3, .int b1), (4, .int b2), (5, .int b3)] [] M (some (.int out), M) := by
  intro z
  induction z with
  | zero => intro M b0 b1 b2 b3 out h; cases h
  | succ z ih =>
    intro M b0 b1 b2 b3 out h
    rw [f_86_7] at h
    refine zo_iload (p' := 9) (zi_86 rfl) rfl rfl ?_
    refine zo_iload_n (p' := 10) (zi_86 rfl) rfl rfl ?_
    by_cases hc1 : b1 ≤ b3
    · rw [if_pos hc1] at h
      refine zo_icT (p' := 31) (zi_86 rfl) rfl hc1 ?_
      refine zo_iconst (p' := 32) (v := (-1)) (zi_86 rfl) rfl rfl ?_
      have g6 := Option.some.inj h
      subst g6
      exact zo_iret (zi_86 rfl) rfl ⟨rfl, rfl⟩
    · rw [if_neg hc1] at h
      refine zo_icF (p' := 13) (zi_86 rfl) rfl rfl hc1 ?_
      refine zo_aload_n (p' := 14) (zi_86 rfl) rfl rfl ?_
      refine zo_iload (p' := 16) (zi_86 rfl) rfl rfl ?_
      obtain ⟨q2, h0, g7⟩ := zb_of h
      subst h0
      obtain ⟨x3, hx4, g8⟩ := zb_of g7
      refine zo_bald (p' := 17) (zi_86 rfl) rfl hx4 ?_
      refine zo_iload (p' := 19) (zi_86 rfl) rfl rfl ?_
      by_cases hc5 : ¬ x3 = b2
      · rw [if_pos hc5] at g8
        refine zo_icT (p' := 25) (zi_86 rfl) rfl hc5 ?_
        refine zo_iinc (p' := 28) (v := (b3 + 1)) (L' := [(0, zrf (some q2)), (3, .int b1), (4, .int b2), (5, .int ((b3 + 1)))]) (zi_86 rfl) rfl zm_86_5 rfl rfl ⟨Or.inr ⟨by decide, rfl, fun q => absurd q (by decide)⟩, ⟨Or.inr ⟨by decide, rfl, fun q => absurd q (by decide)⟩, ⟨Or.inr ⟨by decide, rfl, fun _ => rfl⟩, ⟨Or.inl ⟨rfl, rfl⟩, trivial⟩⟩⟩⟩ ?_
        refine zo_goto (p' := 7) (zi_86 rfl) rfl ?_
        refine zgo_sub (L' := [(0, zrf ((some q2))), (3, .int b1), (4, .int b2), (5, .int (((b3 + 1))))]) (⟨rfl, rfl, rfl, rfl, trivial⟩) ?_
        exact ih M (some q2) b1 b2 ((b3 + 1)) _ g8
      · rw [if_neg hc5] at g8
        refine zo_icF (p' := 22) (zi_86 rfl) rfl rfl hc5 ?_
        refine zo_iload (p' := 24) (zi_86 rfl) rfl rfl ?_
        have g9 := Option.some.inj g8
        subst g9
        exact zo_iret (zi_86 rfl) rfl ⟨rfl, rfl⟩
def f_86 (M : ZMem) (a0 : Option Nat) (a1 : Int32) (a2 : Int32) (a3 : Int32) : Option (Int32) := f_86_7 zF M a0 a3 (((Int32.toInt8 a1).toInt32)) a2
set_option maxRecDepth 20000 in
theorem k_86 (d : Nat) {M : ZMem} {a0 : Option Nat} {a1 : Int32} {a2 : Int32} {a3 : Int32} {out : Int32} (h : f_86 M a0 a1 a2 a3 = some out) : zrn (d) 86 [zrf a0, .int a1, .int a2, .int a3] M (some (.int out), M) := by
  unfold f_86 at h
  refine zrn_of (L := [(0, zrf a0), (1, .int a1), (2, .int a2), (3, .int a3)]) (by simp [lv_args, zrf_cat, zcat_i, zcat_l, zcat_r]) ?_
  refine zo_iload_n (p' := 1) (zi_86 rfl) rfl rfl ?_
  refine zo_i2b (p' := 2) (zi_86 rfl) rfl ?_
  refine zo_istore (p' := 4) (L' := [(0, zrf a0), (1, .int a1), (2, .int a2), (3, .int a3), (4, .int (((Int32.toInt8 a1).toInt32)))]) (zi_86 rfl) rfl zm_86_4 ⟨Or.inr ⟨by decide, rfl, fun q => absurd q (by decide)⟩, ⟨Or.inr ⟨by decide, rfl, fun q => absurd q (by decide)⟩, ⟨Or.inr ⟨by decide, rfl, fun q => absurd q (by decide)⟩, ⟨Or.inr ⟨by decide, rfl, fun _ => rfl⟩, ⟨Or.inl ⟨rfl, rfl⟩, trivial⟩⟩⟩⟩⟩ ?_
  refine zo_iload_n (p' := 5) (zi_86 rfl) rfl rfl ?_
  refine zo_istore (p' := 7) (L' := [(0, zrf a0), (1, .int a1), (2, .int a2), (3, .int a3), (4, .int (((Int32.toInt8 a1).toInt32))), (5, .int a2)]) (zi_86 rfl) rfl zm_86_5 ⟨Or.inr ⟨by decide, rfl, fun q => absurd q (by decide)⟩, ⟨Or.inr ⟨by decide, rfl, fun q => absurd q (by decide)⟩, ⟨Or.inr ⟨by decide, rfl, fun q => absurd q (by decide)⟩, ⟨Or.inr ⟨by decide, rfl, fun q => absurd q (by decide)⟩, ⟨Or.inr ⟨by decide, rfl, fun _ => rfl⟩, ⟨Or.inl ⟨rfl, rfl⟩, trivial⟩⟩⟩⟩⟩⟩ ?_
  refine zgo_sub (L' := [(0, zrf a0), (3, .int a3), (4, .int ((((Int32.toInt8 a1).toInt32)))), (5, .int a2)]) (⟨rfl, rfl, rfl, rfl, trivial⟩) ?_
  exact k_86_7 _ zF M a0 a3 (((Int32.toInt8 a1).toInt32)) a2 _ h
/-- java/lang/StringLatin1.indexOf([BIII)I -/
def f_84 (M : ZMem) (a0 : Option Nat) (a1 : Int32) (a2 : Int32) (a3 : Int32) : Option (Int32) := zb (f_85 M a1) fun x1 => if ¬ x1 = 0 then (zb (f_24 M a2 0) fun x4 => zb a0 fun q6 => zb (zlen none M q6) fun x7 => zb (f_37 M a3 x7) fun x9 => if x4 < x9 then (zb (f_86 M (some q6) a1 x4 x9) fun x12 => some x12) else (some (-1))) else (some (-1))
set_option maxRecDepth 20000 in
theorem k_84 (d : Nat) {M : ZMem} {a0 : Option Nat} {a1 : Int32} {a2 : Int32} {a3 : Int32} {out : Int32} (h : f_84 M a0 a1 a2 a3 = some out) : zrn (d + 1) 84 [zrf a0, .int a1, .int a2, .int a3] M (some (.int out), M) := by
  unfold f_84 at h
  refine zrn_of (L := [(0, zrf a0), (1, .int a1), (2, .int a2), (3, .int a3)]) (by simp [lv_args, zrf_cat, zcat_i, zcat_l, zcat_r]) ?_
  refine zo_iload_n (p' := 1) (zi_84 rfl) rfl rfl ?_
  obtain ⟨x1, hx2, g14⟩ := zb_of h
  refine zo_callSi (p' := 4) (as := [.int a1]) (r := []) (zi_84 rfl) rfl (Or.inl zl_16_88) rfl rfl (Nat.le_of_ble_eq_true rfl) (Nat.le_of_ble_eq_true rfl) (k_85 _ hx2) ?_
  by_cases hc3 : ¬ x1 = 0
  · rw [if_pos hc3] at g14
    refine zo_ifT (p' := 9) (zi_84 rfl) rfl hc3 ?_
    refine zo_iload_n (p' := 10) (zi_84 rfl) rfl rfl ?_
    refine zo_iconst (p' := 11) (v := 0) (zi_84 rfl) rfl rfl ?_
    obtain ⟨x4, hx5, g15⟩ := zb_of g14
    refine zo_callSi (p' := 14) (as := [.int a2, .int 0]) (r := []) (zi_84 rfl) rfl (Or.inl zl_16_92) rfl rfl (Nat.le_of_ble_eq_true rfl) (Nat.le_of_ble_eq_true rfl) (k_24 _ hx5) ?_
    refine zo_istore_n (p' := 15) (L' := [(0, zrf a0), (1, .int a1), (2, .int x4), (3, .int a3)]) (zi_84 rfl) rfl zm_84_2 ⟨Or.inr ⟨by decide, rfl, fun q => absurd q (by decide)⟩, ⟨Or.inr ⟨by decide, rfl, fun _ => rfl⟩, ⟨Or.inl ⟨rfl, rfl⟩, ⟨Or.inr ⟨by decide, rfl, fun q => absurd q (by decide)⟩, trivial⟩⟩⟩⟩ ?_
    refine zo_iload_n (p' := 16) (zi_84 rfl) rfl rfl ?_
    refine zo_aload_n (p' := 17) (zi_84 rfl) rfl rfl ?_
    obtain ⟨q6, h0, g16⟩ := zb_of g15
    subst h0
    obtain ⟨x7, hx8, g17⟩ := zb_of g16
    refine zo_alen (p' := 18) (zi_84 rfl) rfl hx8 ?_
    obtain ⟨x9, hx10, g18⟩ := zb_of g17
    refine zo_callSi (p' := 21) (as := [.int a3, .int x7]) (r := []) (zi_84 rfl) rfl (Or.inl zl_16_38) rfl rfl (Nat.le_of_ble_eq_true rfl) (Nat.le_of_ble_eq_true rfl) (k_37 _ hx10) ?_
    refine zo_istore_n (p' := 22) (L' := [(0, zrf (some q6)), (1, .int a1), (2, .int x4), (3, .int x9)]) (zi_84 rfl) rfl zm_84_3 ⟨Or.inr ⟨by decide, rfl, fun q => absurd q (by decide)⟩, ⟨Or.inr ⟨by decide, rfl, fun q => absurd q (by decide)⟩, ⟨Or.inr ⟨by decide, rfl, fun _ => rfl⟩, ⟨Or.inl ⟨rfl, rfl⟩, trivial⟩⟩⟩⟩ ?_
    refine zo_iload_n (p' := 23) (zi_84 rfl) rfl rfl ?_
    refine zo_iload_n (p' := 24) (zi_84 rfl) rfl rfl ?_
    by_cases hc11 : x4 < x9
    · rw [if_pos hc11] at g18
      refine zo_icT (p' := 29) (zi_84 rfl) rfl hc11 ?_
      refine zo_aload_n (p' := 30) (zi_84 rfl) rfl rfl ?_
      refine zo_iload_n (p' := 31) (zi_84 rfl) rfl rfl ?_
      refine zo_iload_n (p' := 32) (zi_84 rfl) rfl rfl ?_
      refine zo_iload_n (p' := 33) (zi_84 rfl) rfl rfl ?_
      obtain ⟨x12, hx13, g19⟩ := zb_of g18
      refine zo_callSi (p' := 36) (as := [zrf (some q6), .int a1, .int x4, .int x9]) (r := []) (zi_84 rfl) rfl (Or.inl zl_16_95) rfl rfl (Nat.le_of_ble_eq_true rfl) (Nat.le_of_ble_eq_true rfl) (k_86 _ hx13) ?_
      have g20 := Option.some.inj g19
      subst g20
      exact zo_iret (zi_84 rfl) rfl ⟨rfl, rfl⟩
    · rw [if_neg hc11] at g18
      refine zo_icF (p' := 27) (zi_84 rfl) rfl rfl hc11 ?_
      refine zo_iconst (p' := 28) (v := (-1)) (zi_84 rfl) rfl rfl ?_
      have g21 := Option.some.inj g18
      subst g21
      exact zo_iret (zi_84 rfl) rfl ⟨rfl, rfl⟩
  · rw [if_neg hc3] at g14
    refine zo_ifF (p' := 7) (zi_84 rfl) rfl rfl hc3 ?_
    refine zo_iconst (p' := 8) (v := (-1)) (zi_84 rfl) rfl rfl ?_
    have g22 := Option.some.inj g14
    subst g22
    exact zo_iret (zi_84 rfl) rfl ⟨rfl, rfl⟩
/-- java/lang/String.indexOf(II)I -/
def f_83 (M : ZMem) (o : Nat) (a0 : Int32) (a1 : Int32) : Option (Int32) := if zok M 13 o = true then (zb (f_70 M o) fun x1 => if x1 = 0 then (zb (zgr M 13 0 o) fun r4 => zb (f_67 M o) fun x6 => none) else (zb (zgr M 13 0 o) fun r8 => zb (f_67 M o) fun x10 => zb (f_84 M r8 a0 a1 x10) fun x12 => some x12)) else none
theorem f_83_ok {M : ZMem} {o : Nat} {a0 : Int32} {a1 : Int32} {out : Int32} (h : f_83 M o a0 a1 = some out) : zok M 13 o = true := by
  unfold f_83 at h
  by_cases hok : zok M 13 o = true
  · exact hok
  · rw [if_neg hok] at h; cases h
set_option maxRecDepth 20000 in
theorem k_83 (d : Nat) {M : ZMem} {o : Nat} {a0 : Int32} {a1 : Int32} {out : Int32} (h : f_83 M o a0 a1 = some out) : zrn (d + 2) 83 [zrf (some o), .int a0, .int a1] M (some (.int out), M) := by
  unfold f_83 at h
  by_cases hok : zok M 13 o = true
  · rw [if_pos hok] at h
    refine zrn_of (L := [(0, zrf (some o)), (1, .int a0), (2, .int a1)]) rfl ?_
    refine zo_aload_n (p' := 1) (zi_83 rfl) rfl rfl ?_
    obtain ⟨x1, hx2, g14⟩ := zb_of h
    refine zo_callVi (p' := 4) (t := 13) (as := []) (r := []) (zi_83 rfl) rfl zl_15_492 rfl rfl (Or.inr ⟨rfl, rfl⟩) (Nat.le_of_ble_eq_true rfl) (Nat.le_of_ble_eq_true rfl) (f_70_ok hx2) (k_70 _ hx2) ?_
    by_cases hc3 : x1 = 0
    · rw [if_pos hc3] at g14
      refine zo_ifT (p' := 23) (zi_83 rfl) rfl hc3 ?_
      refine zo_aload_n (p' := 24) (zi_83 rfl) rfl rfl ?_
      obtain ⟨r4, hx5, g15⟩ := zb_of g14
      refine zo_getR (p' := 27) (zi_83 rfl) rfl zl_15_9 hx5 ?_
      refine zo_iload_n (p' := 28) (zi_83 rfl) rfl rfl ?_
      refine zo_iload_n (p' := 29) (zi_83 rfl) rfl rfl ?_
      refine zo_aload_n (p' := 30) (zi_83 rfl) rfl rfl ?_
      obtain ⟨x6, hx7, g16⟩ := zb_of g15
      refine zo_callVi (p' := 33) (t := 13) (as := []) (r := [.int a1, .int a0, zrf r4]) (zi_83 rfl) rfl zl_15_505 rfl rfl (Or.inr ⟨rfl, rfl⟩) (by simp [zrf_cat, zcat_i, zcat_l, zcat_r]) (Nat.le_of_ble_eq_true rfl) (f_67_ok hx7) (k_67 _ hx7) ?_
      cases g16
    · rw [if_neg hc3] at g14
      refine zo_ifF (p' := 7) (zi_83 rfl) rfl rfl hc3 ?_
      refine zo_aload_n (p' := 8) (zi_83 rfl) rfl rfl ?_
      obtain ⟨r8, hx9, g17⟩ := zb_of g14
      refine zo_getR (p' := 11) (zi_83 rfl) rfl zl_15_9 hx9 ?_
      refine zo_iload_n (p' := 12) (zi_83 rfl) rfl rfl ?_
      refine zo_iload_n (p' := 13) (zi_83 rfl) rfl rfl ?_
      refine zo_aload_n (p' := 14) (zi_83 rfl) rfl rfl ?_
      obtain ⟨x10, hx11, g18⟩ := zb_of g17
      refine zo_callVi (p' := 17) (t := 13) (as := []) (r := [.int a1, .int a0, zrf r8]) (zi_83 rfl) rfl zl_15_505 rfl rfl (Or.inr ⟨rfl, rfl⟩) (by simp [zrf_cat, zcat_i, zcat_l, zcat_r]) (Nat.le_of_ble_eq_true rfl) (f_67_ok hx11) (k_67 _ hx11) ?_
      obtain ⟨x12, hx13, g19⟩ := zb_of g18
      refine zo_callSi (p' := 20) (as := [zrf r8, .int a0, .int a1, .int x10]) (r := []) (zi_83 rfl) rfl (Or.inl zl_15_637) rfl rfl (Nat.le_of_ble_eq_true rfl) (by rw [zml_84]; simp [lg_sl, zrf_cat, zcat_i, zcat_l, zcat_r]; done) (k_84 _ hx13) ?_
      refine zo_goto (p' := 36) (zi_83 rfl) rfl ?_
      have g20 := Option.some.inj g19
      subst g20
      exact zo_iret (zi_83 rfl) rfl ⟨rfl, rfl⟩
  · rw [if_neg hok] at h; cases h
/-- java/lang/String.indexOf(I)I -/
def f_82 (M : ZMem) (o : Nat) (a0 : Int32) : Option (Int32) := if zok M 13 o = true then (zb (f_83 M o a0 0) fun x1 => some x1) else none
theorem f_82_ok {M : ZMem} {o : Nat} {a0 : Int32} {out : Int32} (h : f_82 M o a0 = some out) : zok M 13 o = true := by
  unfold f_82 at h
  by_cases hok : zok M 13 o = true
  · exact hok
  · rw [if_neg hok] at h; cases h
set_option maxRecDepth 20000 in
theorem k_82 (d : Nat) {M : ZMem} {o : Nat} {a0 : Int32} {out : Int32} (h : f_82 M o a0 = some out) : zrn (d + 3) 82 [zrf (some o), .int a0] M (some (.int out), M) := by
  unfold f_82 at h
  by_cases hok : zok M 13 o = true
  · rw [if_pos hok] at h
    refine zrn_of (L := [(0, zrf (some o)), (1, .int a0)]) rfl ?_
    refine zo_aload_n (p' := 1) (zi_82 rfl) rfl rfl ?_
    refine zo_iload_n (p' := 2) (zi_82 rfl) rfl rfl ?_
    refine zo_iconst (p' := 3) (v := 0) (zi_82 rfl) rfl rfl ?_
    obtain ⟨x1, hx2, g3⟩ := zb_of h
    refine zo_callVi (p' := 6) (t := 13) (as := [.int a0, .int 0]) (r := []) (zi_82 rfl) rfl zl_15_633 rfl rfl (Or.inr ⟨rfl, rfl⟩) (Nat.le_of_ble_eq_true rfl) (Nat.le_of_ble_eq_true rfl) (f_83_ok hx2) (k_83 _ hx2) ?_
    have g4 := Option.some.inj g3
    subst g4
    exact zo_iret (zi_82 rfl) rfl ⟨rfl, rfl⟩
  · rw [if_neg hok] at h; cases h
/-- SlateHalves$HillReader.takeOneOf(Ljava/lang/String;)I -/
def f_81 (M : ZMem) (o : Nat) (a0 : Option Nat) : Option (Int32 × ZMem) := if zok M 4 o = true then (zb (f_75 M o) fun x1 => if x1 < 0 then (some ((-1), M)) else (zb a0 fun q4 => zb (f_82 M q4 (((Int32.toUInt32 x1 % 65536).toInt32))) fun x5 => if 0 ≤ x5 then (zb (zgi M 4 2 o) fun x8 => zb (zpf M 4 2 o (.int ((x8 + 1))) false) fun M10 => some (x1, M10)) else (some ((-1), M)))) else none
theorem f_81_ok {M : ZMem} {o : Nat} {a0 : Option Nat} {out : Int32 × ZMem} (h : f_81 M o a0 = some out) : zok M 4 o = true := by
  unfold f_81 at h
  by_cases hok : zok M 4 o = true
  · exact hok
  · rw [if_neg hok] at h; cases h
set_option maxRecDepth 20000 in
theorem k_81 (d : Nat) {M : ZMem} {o : Nat} {a0 : Option Nat} {out : Int32 × ZMem} (h : f_81 M o a0 = some out) : zrn (d + 4) 81 [zrf (some o), zrf a0] M (some (.int out.1), out.2) := by
  unfold f_81 at h
  by_cases hok : zok M 4 o = true
  · rw [if_pos hok] at h
    refine zrn_of (L := [(0, zrf (some o)), (1, zrf a0)]) (by simp [lv_args, zrf_cat, zcat_i, zcat_l, zcat_r]) ?_
    refine zo_aload_n (p' := 1) (zi_81 rfl) rfl rfl ?_
    obtain ⟨x1, hx2, g12⟩ := zb_of h
    refine zo_callVi (p' := 4) (t := 4) (as := []) (r := []) (zi_81 rfl) rfl zl_7_44 rfl rfl (Or.inl ⟨by decide, rfl⟩) (Nat.le_of_ble_eq_true rfl) (Nat.le_of_ble_eq_true rfl) (f_75_ok hx2) (k_75 _ hx2) ?_
    refine zo_istore_n (p' := 5) (L' := [(0, zrf (some o)), (1, zrf a0), (2, .int x1)]) (zi_81 rfl) rfl zm_81_2 ⟨Or.inr ⟨by decide, rfl, fun q => absurd q (by decide)⟩, ⟨Or.inr ⟨by decide, rfl, fun _ => zrf_cat _⟩, ⟨Or.inl ⟨rfl, rfl⟩, trivial⟩⟩⟩ ?_
    refine zo_iload_n (p' := 6) (zi_81 rfl) rfl rfl ?_
    by_cases hc3 : x1 < 0
    · rw [if_pos hc3] at g12
      refine zo_ifT (p' := 18) (zi_81 rfl) rfl hc3 ?_
      refine zo_iconst (p' := 19) (v := (-1)) (zi_81 rfl) rfl rfl ?_
      have g13 := Option.some.inj g12
      subst g13
      exact zo_iret (zi_81 rfl) rfl ⟨rfl, rfl⟩
    · rw [if_neg hc3] at g12
      refine zo_ifF (p' := 9) (zi_81 rfl) rfl rfl hc3 ?_
      refine zo_aload_n (p' := 10) (zi_81 rfl) rfl rfl ?_
      refine zo_iload_n (p' := 11) (zi_81 rfl) rfl rfl ?_
      refine zo_i2c (p' := 12) (zi_81 rfl) rfl ?_
      obtain ⟨q4, h0, g14⟩ := zb_of g12
      subst h0
      obtain ⟨x5, hx6, g15⟩ := zb_of g14
      refine zo_callVi (p' := 15) (t := 13) (as := [.int (((Int32.toUInt32 x1 % 65536).toInt32))]) (r := []) (zi_81 rfl) rfl zl_7_118 rfl rfl (Or.inr ⟨rfl, rfl⟩) (Nat.le_of_ble_eq_true rfl) (Nat.le_of_ble_eq_true rfl) (f_82_ok hx6) (k_82 _ hx6) ?_
      by_cases hc7 : 0 ≤ x5
      · rw [if_pos hc7] at g15
        refine zo_ifT (p' := 20) (zi_81 rfl) rfl hc7 ?_
        refine zo_aload_n (p' := 21) (zi_81 rfl) rfl rfl ?_
        refine zo_dup (p' := 22) (zi_81 rfl) rfl (zrf_cat _) ?_
        obtain ⟨x8, hx9, g16⟩ := zb_of g15
        refine zo_getI (p' := 25) (zi_81 rfl) rfl zl_7_17 hx9 ?_
        refine zo_iconst (p' := 26) (v := 1) (zi_81 rfl) rfl rfl ?_
        refine zo_iadd (p' := 27) (zi_81 rfl) rfl ?_
        obtain ⟨M10, hx11, g17⟩ := zb_of g16
        refine zo_putI (p' := 30) (zi_81 rfl) rfl zl_7_17 (zpb_81 _) hx11 ?_
        refine zo_iload_n (p' := 31) (zi_81 rfl) rfl rfl ?_
        have g18 := Option.some.inj g17
        subst g18
        exact zo_iret (zi_81 rfl) rfl ⟨rfl, rfl⟩
      · rw [if_neg hc7] at g15
        refine zo_ifF (p' := 18) (zi_81 rfl) rfl rfl hc7 ?_
        refine zo_iconst (p' := 19) (v := (-1)) (zi_81 rfl) rfl rfl ?_
        have g19 := Option.some.inj g15
        subst g19
        exact zo_iret (zi_81 rfl) rfl ⟨rfl, rfl⟩
  · rw [if_neg hok] at h; cases h
/-- SlateHalves$HillReader.takeTest()Z -/
def f_80 (M : ZMem) (o : Nat) : Option (Int32 × ZMem) := if zok M 4 o = true then (zbd (f_81 M o (some 7)) fun x1 M3 => if 0 ≤ x1 then (zbd (f_81 M3 o (some 8)) fun x5 M7 => if 0 ≤ x5 then (zbd (f_76 M7 o) fun x9 M11 => if 0 ≤ x9 then (zb (zgr M11 4 3 o) fun r13 => zb r13 fun q15 => zb (f_87 M11 q15 0 x1 x5 x9) fun M18 => some (1, M18)) else (some (0, M11))) else (some (0, M7))) else (some (0, M3))) else none
theorem f_80_ok {M : ZMem} {o : Nat} {out : Int32 × ZMem} (h : f_80 M o = some out) : zok M 4 o = true := by
  unfold f_80 at h
  by_cases hok : zok M 4 o = true
  · exact hok
  · rw [if_neg hok] at h; cases h
set_option maxRecDepth 20000 in
theorem k_80 (d : Nat) {M : ZMem} {o : Nat} {out : Int32 × ZMem} (h : f_80 M o = some out) : zrn (d + 5) 80 [zrf (some o)] M (some (.int out.1), out.2) := by
  unfold f_80 at h
  by_cases hok : zok M 4 o = true
  · rw [if_pos hok] at h
    refine zrn_of (L := [(0, zrf (some o))]) rfl ?_
    refine zo_aload_n (p' := 1) (zi_80 rfl) rfl rfl ?_
    refine zo_ldcS (p' := 3) (a := 5) (zi_80 rfl) rfl rfl ?_
    obtain ⟨x1, M3, hx2, g19⟩ := zbd_of h
    refine zo_callVi (p' := 6) (t := 4) (as := [zrf (some 7)]) (r := []) (zi_80 rfl) rfl zl_7_113 rfl rfl (Or.inl ⟨by decide, rfl⟩) (Nat.le_of_ble_eq_true rfl) (Nat.le_of_ble_eq_true rfl) (f_81_ok hx2) (k_81 _ hx2) ?_
    refine zo_istore_n (p' := 7) (L' := [(0, zrf (some o)), (1, .int x1)]) (zi_80 rfl) rfl zm_80_1 ⟨Or.inr ⟨by decide, rfl, fun _ => zrf_cat _⟩, ⟨Or.inl ⟨rfl, rfl⟩, trivial⟩⟩ ?_
    refine zo_iload_n (p' := 8) (zi_80 rfl) rfl rfl ?_
    by_cases hc4 : 0 ≤ x1
    · rw [if_pos hc4] at g19
      refine zo_ifT (p' := 13) (zi_80 rfl) rfl hc4 ?_
      refine zo_aload_n (p' := 14) (zi_80 rfl) rfl rfl ?_
      refine zo_ldcS (p' := 16) (a := 6) (zi_80 rfl) rfl rfl ?_
      obtain ⟨x5, M7, hx6, g20⟩ := zbd_of g19
      refine zo_callVi (p' := 19) (t := 4) (as := [zrf (some 8)]) (r := []) (zi_80 rfl) rfl zl_7_113 rfl rfl (Or.inl ⟨by decide, rfl⟩) (Nat.le_of_ble_eq_true rfl) (Nat.le_of_ble_eq_true rfl) (f_81_ok hx6) (k_81 _ hx6) ?_
      refine zo_istore_n (p' := 20) (L' := [(0, zrf (some o)), (1, .int x1), (2, .int x5)]) (zi_80 rfl) rfl zm_80_2 ⟨Or.inr ⟨by decide, rfl, fun q => absurd q (by decide)⟩, ⟨Or.inr ⟨by decide, rfl, fun _ => rfl⟩, ⟨Or.inl ⟨rfl, rfl⟩, trivial⟩⟩⟩ ?_
      refine zo_iload_n (p' := 21) (zi_80 rfl) rfl rfl ?_
      by_cases hc8 : 0 ≤ x5
      · rw [if_pos hc8] at g20
        refine zo_ifT (p' := 26) (zi_80 rfl) rfl hc8 ?_
        refine zo_aload_n (p' := 27) (zi_80 rfl) rfl rfl ?_
        obtain ⟨x9, M11, hx10, g21⟩ := zbd_of g20
        refine zo_callVi (p' := 30) (t := 4) (as := []) (r := []) (zi_80 rfl) rfl zl_7_51 rfl rfl (Or.inl ⟨by decide, rfl⟩) (Nat.le_of_ble_eq_true rfl) (Nat.le_of_ble_eq_true rfl) (f_76_ok hx10) (k_76 _ hx10) ?_
        refine zo_istore_n (p' := 31) (L' := [(0, zrf (some o)), (1, .int x1), (2, .int x5), (3, .int x9)]) (zi_80 rfl) rfl zm_80_3 ⟨Or.inr ⟨by decide, rfl, fun q => absurd q (by decide)⟩, ⟨Or.inr ⟨by decide, rfl, fun q => absurd q (by decide)⟩, ⟨Or.inr ⟨by decide, rfl, fun _ => rfl⟩, ⟨Or.inl ⟨rfl, rfl⟩, trivial⟩⟩⟩⟩ ?_
        refine zo_iload_n (p' := 32) (zi_80 rfl) rfl rfl ?_
        by_cases hc12 : 0 ≤ x9
        · rw [if_pos hc12] at g21
          refine zo_ifT (p' := 37) (zi_80 rfl) rfl hc12 ?_
          refine zo_aload_n (p' := 38) (zi_80 rfl) rfl rfl ?_
          obtain ⟨r13, hx14, g22⟩ := zb_of g21
          refine zo_getR (p' := 41) (zi_80 rfl) rfl zl_7_23 hx14 ?_
          refine zo_iconst (p' := 42) (v := 0) (zi_80 rfl) rfl rfl ?_
          refine zo_iload_n (p' := 43) (zi_80 rfl) rfl rfl ?_
          refine zo_iload_n (p' := 44) (zi_80 rfl) rfl rfl ?_
          refine zo_iload_n (p' := 45) (zi_80 rfl) rfl rfl ?_
          obtain ⟨q15, h0, g23⟩ := zb_of g22
          subst h0
          obtain ⟨M18, hx17, g24⟩ := zb_of g23
          refine zo_callVv (p' := 48) (t := 3) (as := [.int 0, .int x1, .int x5, .int x9]) (r := []) (zi_80 rfl) rfl zl_7_57 rfl rfl (Or.inl ⟨by decide, rfl⟩) (Nat.le_of_ble_eq_true rfl) (Nat.le_of_ble_eq_true rfl) (f_87_ok hx17) (k_87 _ hx17) ?_
          refine zo_iconst (p' := 49) (v := 1) (zi_80 rfl) rfl rfl ?_
          have g25 := Option.some.inj g24
          subst g25
          exact zo_iret (zi_80 rfl) rfl ⟨rfl, rfl⟩
        · rw [if_neg hc12] at g21
          refine zo_ifF (p' := 35) (zi_80 rfl) rfl rfl hc12 ?_
          refine zo_iconst (p' := 36) (v := 0) (zi_80 rfl) rfl rfl ?_
          have g26 := Option.some.inj g21
          subst g26
          exact zo_iret (zi_80 rfl) rfl ⟨rfl, rfl⟩
      · rw [if_neg hc8] at g20
        refine zo_ifF (p' := 24) (zi_80 rfl) rfl rfl hc8 ?_
        refine zo_iconst (p' := 25) (v := 0) (zi_80 rfl) rfl rfl ?_
        have g27 := Option.some.inj g20
        subst g27
        exact zo_iret (zi_80 rfl) rfl ⟨rfl, rfl⟩
    · rw [if_neg hc4] at g19
      refine zo_ifF (p' := 11) (zi_80 rfl) rfl rfl hc4 ?_
      refine zo_iconst (p' := 12) (v := 0) (zi_80 rfl) rfl rfl ?_
      have g28 := Option.some.inj g19
      subst g28
      exact zo_iret (zi_80 rfl) rfl ⟨rfl, rfl⟩
  · rw [if_neg hok] at h; cases h
/-- SlateHalves$HillReader.takeBoth(I)Z -/
def f_78_12 (P : ZMem → Nat → Int32 → Option (Int32 × ZMem)) : Nat → ZMem → Nat → Int32 → Int32 → Option (Int32 × ZMem)
  | 0, _, _, _, _ => none
  | z + 1, M, o, b1, b2 => zb (zgi M 4 1 o) fun x7 => if x7 ≤ b2 then (some (1, M)) else (zbd (f_74 M o 38) fun x10 M12 => if x10 = 0 then (some (1, M12)) else (zbd (P M12 o b1) fun x14 M16 => if ¬ x14 = 0 then (zb (zgr M16 4 3 o) fun r18 => zb r18 fun q20 => zb (f_87 M16 q20 2 0 0 0) fun M23 => f_78_12 P z M23 o b1 ((b2 + 1))) else (some (0, M16))))
set_option maxRecDepth 20000 in
theorem k_78_12 (d : Nat) {P : ZMem → Nat → Int32 → Option (Int32 × ZMem)} (hok79 : ∀ {M : ZMem} {o : Nat} {x : Int32} {out : Int32 × ZMem}, P M o x = some out → zok M 4 o = true) (hP : ∀ (M : ZMem) (o : Nat) (x : Int32) (out : Int32 × ZMem), P M o x = some out → zrn (d + 10) 79 [zrf (some o), .int x] M (some (.int out.1), out.2)) : ∀ (z : Nat) (M : ZMem) (o : Nat) (b1 : Int32) (b2 : Int32) (out : Int32 × ZMem), f_78_12 P z M o b1 b2 = some out → zgo none (d + 11) 78 12 [(0, zrf (some o)), (1, .int b1), (2, .int b2)] [] M (some (.int out.1), out.2) := by
  intro z
  induction z with
  | zero => intro M o b1 b2 out h; cases h
  | succ z ih =>
    intro M o b1 b2 out h
    rw [f_78_12] at h
    refine zo_iload_n (p' := 13) (zi_78 rfl) rfl rfl ?_
    refine zo_aload_n (p' := 14) (zi_78 rfl) rfl rfl ?_
    obtain ⟨x7, hx8, g24⟩ := zb_of h
    refine zo_getI (p' := 17) (zi_78 rfl) rfl zl_7_13 hx8 ?_
    by_cases hc9 : x7 ≤ b2
    · rw [if_pos hc9] at g24
      refine zo_icT (p' := 56) (zi_78 rfl) rfl hc9 ?_
      refine zo_iconst (p' := 57) (v := 1) (zi_78 rfl) rfl rfl ?_
      have g25 := Option.some.inj g24
      subst g25
      exact zo_iret (zi_78 rfl) rfl ⟨rfl, rfl⟩
    · rw [if_neg hc9] at g24
      refine zo_icF (p' := 20) (zi_78 rfl) rfl rfl hc9 ?_
      refine zo_aload_n (p' := 21) (zi_78 rfl) rfl rfl ?_
      refine zo_bipush (p' := 23) (v := 38) (zi_78 rfl) rfl rfl ?_
      obtain ⟨x10, M12, hx11, g26⟩ := zbd_of g24
      refine zo_callVi (p' := 26) (t := 4) (as := [.int 38]) (r := []) (zi_78 rfl) rfl zl_7_40 rfl rfl (Or.inl ⟨by decide, rfl⟩) (Nat.le_of_ble_eq_true rfl) (Nat.le_of_ble_eq_true rfl) (f_74_ok hx11) (k_74 _ hx11) ?_
      by_cases hc13 : x10 = 0
      · rw [if_pos hc13] at g26
        refine zo_ifT (p' := 56) (zi_78 rfl) rfl hc13 ?_
        refine zo_iconst (p' := 57) (v := 1) (zi_78 rfl) rfl rfl ?_
        have g27 := Option.some.inj g26
        subst g27
        exact zo_iret (zi_78 rfl) rfl ⟨rfl, rfl⟩
      · rw [if_neg hc13] at g26
        refine zo_ifF (p' := 29) (zi_78 rfl) rfl rfl hc13 ?_
        refine zo_aload_n (p' := 30) (zi_78 rfl) rfl rfl ?_
        refine zo_iload_n (p' := 31) (zi_78 rfl) rfl rfl ?_
        obtain ⟨x14, M16, hx15, g28⟩ := zbd_of g26
        refine zo_callVi (p' := 34) (t := 4) (as := [.int b1]) (r := []) (zi_78 rfl) rfl zl_7_105 rfl rfl (Or.inl ⟨by decide, rfl⟩) (Nat.le_of_ble_eq_true rfl) (Nat.le_of_ble_eq_true rfl) (hok79 hx15) (hP _ _ _ _ hx15) ?_
        by_cases hc17 : ¬ x14 = 0
        · rw [if_pos hc17] at g28
          refine zo_ifT (p' := 39) (zi_78 rfl) rfl hc17 ?_
          refine zo_aload_n (p' := 40) (zi_78 rfl) rfl rfl ?_
          obtain ⟨r18, hx19, g29⟩ := zb_of g28
          refine zo_getR (p' := 43) (zi_78 rfl) rfl zl_7_23 hx19 ?_
          refine zo_iconst (p' := 44) (v := 2) (zi_78 rfl) rfl rfl ?_
          refine zo_iconst (p' := 45) (v := 0) (zi_78 rfl) rfl rfl ?_
          refine zo_iconst (p' := 46) (v := 0) (zi_78 rfl) rfl rfl ?_
          refine zo_iconst (p' := 47) (v := 0) (zi_78 rfl) rfl rfl ?_
          obtain ⟨q20, h0, g30⟩ := zb_of g29
          subst h0
          obtain ⟨M23, hx22, g31⟩ := zb_of g30
          refine zo_callVv (p' := 50) (t := 3) (as := [.int 2, .int 0, .int 0, .int 0]) (r := []) (zi_78 rfl) rfl zl_7_57 rfl rfl (Or.inl ⟨by decide, rfl⟩) (Nat.le_of_ble_eq_true rfl) (Nat.le_of_ble_eq_true rfl) (f_87_ok hx22) (k_87 _ hx22) ?_
          refine zo_iinc (p' := 53) (v := (b2 + 1)) (L' := [(0, zrf (some o)), (1, .int b1), (2, .int ((b2 + 1)))]) (zi_78 rfl) rfl zm_78_2 rfl rfl ⟨Or.inr ⟨by decide, rfl, fun q => absurd q (by decide)⟩, ⟨Or.inr ⟨by decide, rfl, fun _ => rfl⟩, ⟨Or.inl ⟨rfl, rfl⟩, trivial⟩⟩⟩ ?_
          refine zo_goto (p' := 12) (zi_78 rfl) rfl ?_
          refine zgo_sub (L' := [(0, zrf (some o)), (1, .int b1), (2, .int (((b2 + 1))))]) (⟨rfl, rfl, rfl, trivial⟩) ?_
          exact ih M23 o b1 ((b2 + 1)) _ g31
        · rw [if_neg hc17] at g28
          refine zo_ifF (p' := 37) (zi_78 rfl) rfl rfl hc17 ?_
          refine zo_iconst (p' := 38) (v := 0) (zi_78 rfl) rfl rfl ?_
          have g32 := Option.some.inj g28
          subst g32
          exact zo_iret (zi_78 rfl) rfl ⟨rfl, rfl⟩
def f_78 (P : ZMem → Nat → Int32 → Option (Int32 × ZMem)) (M : ZMem) (o : Nat) (a0 : Int32) : Option (Int32 × ZMem) := if zok M 4 o = true then (zbd (P M o a0) fun x1 M3 => if ¬ x1 = 0 then (f_78_12 P zF M3 o a0 0) else (some (0, M3))) else none
theorem f_78_ok {P : ZMem → Nat → Int32 → Option (Int32 × ZMem)} {M : ZMem} {o : Nat} {a0 : Int32} {out : Int32 × ZMem} (h : f_78 P M o a0 = some out) : zok M 4 o = true := by
  unfold f_78 at h
  by_cases hok : zok M 4 o = true
  · exact hok
  · rw [if_neg hok] at h; cases h
set_option maxRecDepth 20000 in
theorem k_78 (d : Nat) {P : ZMem → Nat → Int32 → Option (Int32 × ZMem)} (hok79 : ∀ {M : ZMem} {o : Nat} {x : Int32} {out : Int32 × ZMem}, P M o x = some out → zok M 4 o = true) (hP : ∀ (M : ZMem) (o : Nat) (x : Int32) (out : Int32 × ZMem), P M o x = some out → zrn (d + 10) 79 [zrf (some o), .int x] M (some (.int out.1), out.2)) {M : ZMem} {o : Nat} {a0 : Int32} {out : Int32 × ZMem} (h : f_78 P M o a0 = some out) : zrn (d + 11) 78 [zrf (some o), .int a0] M (some (.int out.1), out.2) := by
  unfold f_78 at h
  by_cases hok : zok M 4 o = true
  · rw [if_pos hok] at h
    refine zrn_of (L := [(0, zrf (some o)), (1, .int a0)]) rfl ?_
    refine zo_aload_n (p' := 1) (zi_78 rfl) rfl rfl ?_
    refine zo_iload_n (p' := 2) (zi_78 rfl) rfl rfl ?_
    obtain ⟨x1, M3, hx2, g5⟩ := zbd_of h
    refine zo_callVi (p' := 5) (t := 4) (as := [.int a0]) (r := []) (zi_78 rfl) rfl zl_7_105 rfl rfl (Or.inl ⟨by decide, rfl⟩) (Nat.le_of_ble_eq_true rfl) (Nat.le_of_ble_eq_true rfl) (hok79 hx2) (hP _ _ _ _ hx2) ?_
    by_cases hc4 : ¬ x1 = 0
    · rw [if_pos hc4] at g5
      refine zo_ifT (p' := 10) (zi_78 rfl) rfl hc4 ?_
      refine zo_iconst (p' := 11) (v := 0) (zi_78 rfl) rfl rfl ?_
      refine zo_istore_n (p' := 12) (L' := [(0, zrf (some o)), (1, .int a0), (2, .int 0)]) (zi_78 rfl) rfl zm_78_2 ⟨Or.inr ⟨by decide, rfl, fun q => absurd q (by decide)⟩, ⟨Or.inr ⟨by decide, rfl, fun _ => rfl⟩, ⟨Or.inl ⟨rfl, rfl⟩, trivial⟩⟩⟩ ?_
      refine zgo_sub (L' := [(0, zrf (some o)), (1, .int a0), (2, .int 0)]) (⟨rfl, rfl, rfl, trivial⟩) ?_
      exact k_78_12 _ hok79 hP zF M3 o a0 0 _ g5
    · rw [if_neg hc4] at g5
      refine zo_ifF (p' := 8) (zi_78 rfl) rfl rfl hc4 ?_
      refine zo_iconst (p' := 9) (v := 0) (zi_78 rfl) rfl rfl ?_
      have g6 := Option.some.inj g5
      subst g6
      exact zo_iret (zi_78 rfl) rfl ⟨rfl, rfl⟩
  · rw [if_neg hok] at h; cases h
/-- SlateHalves$HillReader.takeEither(I)Z -/
def f_77_12 (P : ZMem → Nat → Int32 → Option (Int32 × ZMem)) : Nat → ZMem → Nat → Int32 → Int32 → Option (Int32 × ZMem)
  | 0, _, _, _, _ => none
  | z + 1, M, o, b1, b2 => zb (zgi M 4 1 o) fun x7 => if x7 ≤ b2 then (some (1, M)) else (zbd (f_74 M o 124) fun x10 M12 => if x10 = 0 then (some (1, M12)) else (zbd (f_78 P M12 o b1) fun x14 M16 => if ¬ x14 = 0 then (zb (zgr M16 4 3 o) fun r18 => zb r18 fun q20 => zb (f_87 M16 q20 3 0 0 0) fun M23 => f_77_12 P z M23 o b1 ((b2 + 1))) else (some (0, M16))))
set_option maxRecDepth 20000 in
theorem k_77_12 (d : Nat) {P : ZMem → Nat → Int32 → Option (Int32 × ZMem)} (hok79 : ∀ {M : ZMem} {o : Nat} {x : Int32} {out : Int32 × ZMem}, P M o x = some out → zok M 4 o = true) (hP : ∀ (M : ZMem) (o : Nat) (x : Int32) (out : Int32 × ZMem), P M o x = some out → zrn (d + 10) 79 [zrf (some o), .int x] M (some (.int out.1), out.2)) : ∀ (z : Nat) (M : ZMem) (o : Nat) (b1 : Int32) (b2 : Int32) (out : Int32 × ZMem), f_77_12 P z M o b1 b2 = some out → zgo none (d + 12) 77 12 [(0, zrf (some o)), (1, .int b1), (2, .int b2)] [] M (some (.int out.1), out.2) := by
  intro z
  induction z with
  | zero => intro M o b1 b2 out h; cases h
  | succ z ih =>
    intro M o b1 b2 out h
    rw [f_77_12] at h
    refine zo_iload_n (p' := 13) (zi_77 rfl) rfl rfl ?_
    refine zo_aload_n (p' := 14) (zi_77 rfl) rfl rfl ?_
    obtain ⟨x7, hx8, g24⟩ := zb_of h
    refine zo_getI (p' := 17) (zi_77 rfl) rfl zl_7_13 hx8 ?_
    by_cases hc9 : x7 ≤ b2
    · rw [if_pos hc9] at g24
      refine zo_icT (p' := 56) (zi_77 rfl) rfl hc9 ?_
      refine zo_iconst (p' := 57) (v := 1) (zi_77 rfl) rfl rfl ?_
      have g25 := Option.some.inj g24
      subst g25
      exact zo_iret (zi_77 rfl) rfl ⟨rfl, rfl⟩
    · rw [if_neg hc9] at g24
      refine zo_icF (p' := 20) (zi_77 rfl) rfl rfl hc9 ?_
      refine zo_aload_n (p' := 21) (zi_77 rfl) rfl rfl ?_
      refine zo_bipush (p' := 23) (v := 124) (zi_77 rfl) rfl rfl ?_
      obtain ⟨x10, M12, hx11, g26⟩ := zbd_of g24
      refine zo_callVi (p' := 26) (t := 4) (as := [.int 124]) (r := []) (zi_77 rfl) rfl zl_7_40 rfl rfl (Or.inl ⟨by decide, rfl⟩) (Nat.le_of_ble_eq_true rfl) (Nat.le_of_ble_eq_true rfl) (f_74_ok hx11) (k_74 _ hx11) ?_
      by_cases hc13 : x10 = 0
      · rw [if_pos hc13] at g26
        refine zo_ifT (p' := 56) (zi_77 rfl) rfl hc13 ?_
        refine zo_iconst (p' := 57) (v := 1) (zi_77 rfl) rfl rfl ?_
        have g27 := Option.some.inj g26
        subst g27
        exact zo_iret (zi_77 rfl) rfl ⟨rfl, rfl⟩
      · rw [if_neg hc13] at g26
        refine zo_ifF (p' := 29) (zi_77 rfl) rfl rfl hc13 ?_
        refine zo_aload_n (p' := 30) (zi_77 rfl) rfl rfl ?_
        refine zo_iload_n (p' := 31) (zi_77 rfl) rfl rfl ?_
        obtain ⟨x14, M16, hx15, g28⟩ := zbd_of g26
        refine zo_callVi (p' := 34) (t := 4) (as := [.int b1]) (r := []) (zi_77 rfl) rfl zl_7_102 rfl rfl (Or.inl ⟨by decide, rfl⟩) (Nat.le_of_ble_eq_true rfl) (Nat.le_of_ble_eq_true rfl) ((fun hh => f_78_ok hh) hx15) (k_78 _ hok79 hP hx15) ?_
        by_cases hc17 : ¬ x14 = 0
        · rw [if_pos hc17] at g28
          refine zo_ifT (p' := 39) (zi_77 rfl) rfl hc17 ?_
          refine zo_aload_n (p' := 40) (zi_77 rfl) rfl rfl ?_
          obtain ⟨r18, hx19, g29⟩ := zb_of g28
          refine zo_getR (p' := 43) (zi_77 rfl) rfl zl_7_23 hx19 ?_
          refine zo_iconst (p' := 44) (v := 3) (zi_77 rfl) rfl rfl ?_
          refine zo_iconst (p' := 45) (v := 0) (zi_77 rfl) rfl rfl ?_
          refine zo_iconst (p' := 46) (v := 0) (zi_77 rfl) rfl rfl ?_
          refine zo_iconst (p' := 47) (v := 0) (zi_77 rfl) rfl rfl ?_
          obtain ⟨q20, h0, g30⟩ := zb_of g29
          subst h0
          obtain ⟨M23, hx22, g31⟩ := zb_of g30
          refine zo_callVv (p' := 50) (t := 3) (as := [.int 3, .int 0, .int 0, .int 0]) (r := []) (zi_77 rfl) rfl zl_7_57 rfl rfl (Or.inl ⟨by decide, rfl⟩) (Nat.le_of_ble_eq_true rfl) (Nat.le_of_ble_eq_true rfl) (f_87_ok hx22) (k_87 _ hx22) ?_
          refine zo_iinc (p' := 53) (v := (b2 + 1)) (L' := [(0, zrf (some o)), (1, .int b1), (2, .int ((b2 + 1)))]) (zi_77 rfl) rfl zm_77_2 rfl rfl ⟨Or.inr ⟨by decide, rfl, fun q => absurd q (by decide)⟩, ⟨Or.inr ⟨by decide, rfl, fun _ => rfl⟩, ⟨Or.inl ⟨rfl, rfl⟩, trivial⟩⟩⟩ ?_
          refine zo_goto (p' := 12) (zi_77 rfl) rfl ?_
          refine zgo_sub (L' := [(0, zrf (some o)), (1, .int b1), (2, .int (((b2 + 1))))]) (⟨rfl, rfl, rfl, trivial⟩) ?_
          exact ih M23 o b1 ((b2 + 1)) _ g31
        · rw [if_neg hc17] at g28
          refine zo_ifF (p' := 37) (zi_77 rfl) rfl rfl hc17 ?_
          refine zo_iconst (p' := 38) (v := 0) (zi_77 rfl) rfl rfl ?_
          have g32 := Option.some.inj g28
          subst g32
          exact zo_iret (zi_77 rfl) rfl ⟨rfl, rfl⟩
def f_77 (P : ZMem → Nat → Int32 → Option (Int32 × ZMem)) (M : ZMem) (o : Nat) (a0 : Int32) : Option (Int32 × ZMem) := if zok M 4 o = true then (zbd (f_78 P M o a0) fun x1 M3 => if ¬ x1 = 0 then (f_77_12 P zF M3 o a0 0) else (some (0, M3))) else none
theorem f_77_ok {P : ZMem → Nat → Int32 → Option (Int32 × ZMem)} {M : ZMem} {o : Nat} {a0 : Int32} {out : Int32 × ZMem} (h : f_77 P M o a0 = some out) : zok M 4 o = true := by
  unfold f_77 at h
  by_cases hok : zok M 4 o = true
  · exact hok
  · rw [if_neg hok] at h; cases h
set_option maxRecDepth 20000 in
theorem k_77 (d : Nat) {P : ZMem → Nat → Int32 → Option (Int32 × ZMem)} (hok79 : ∀ {M : ZMem} {o : Nat} {x : Int32} {out : Int32 × ZMem}, P M o x = some out → zok M 4 o = true) (hP : ∀ (M : ZMem) (o : Nat) (x : Int32) (out : Int32 × ZMem), P M o x = some out → zrn (d + 10) 79 [zrf (some o), .int x] M (some (.int out.1), out.2)) {M : ZMem} {o : Nat} {a0 : Int32} {out : Int32 × ZMem} (h : f_77 P M o a0 = some out) : zrn (d + 12) 77 [zrf (some o), .int a0] M (some (.int out.1), out.2) := by
  unfold f_77 at h
  by_cases hok : zok M 4 o = true
  · rw [if_pos hok] at h
    refine zrn_of (L := [(0, zrf (some o)), (1, .int a0)]) rfl ?_
    refine zo_aload_n (p' := 1) (zi_77 rfl) rfl rfl ?_
    refine zo_iload_n (p' := 2) (zi_77 rfl) rfl rfl ?_
    obtain ⟨x1, M3, hx2, g5⟩ := zbd_of h
    refine zo_callVi (p' := 5) (t := 4) (as := [.int a0]) (r := []) (zi_77 rfl) rfl zl_7_102 rfl rfl (Or.inl ⟨by decide, rfl⟩) (Nat.le_of_ble_eq_true rfl) (Nat.le_of_ble_eq_true rfl) ((fun hh => f_78_ok hh) hx2) (k_78 _ hok79 hP hx2) ?_
    by_cases hc4 : ¬ x1 = 0
    · rw [if_pos hc4] at g5
      refine zo_ifT (p' := 10) (zi_77 rfl) rfl hc4 ?_
      refine zo_iconst (p' := 11) (v := 0) (zi_77 rfl) rfl rfl ?_
      refine zo_istore_n (p' := 12) (L' := [(0, zrf (some o)), (1, .int a0), (2, .int 0)]) (zi_77 rfl) rfl zm_77_2 ⟨Or.inr ⟨by decide, rfl, fun q => absurd q (by decide)⟩, ⟨Or.inr ⟨by decide, rfl, fun _ => rfl⟩, ⟨Or.inl ⟨rfl, rfl⟩, trivial⟩⟩⟩ ?_
      refine zgo_sub (L' := [(0, zrf (some o)), (1, .int a0), (2, .int 0)]) (⟨rfl, rfl, rfl, trivial⟩) ?_
      exact k_77_12 _ hok79 hP zF M3 o a0 0 _ g5
    · rw [if_neg hc4] at g5
      refine zo_ifF (p' := 8) (zi_77 rfl) rfl rfl hc4 ?_
      refine zo_iconst (p' := 9) (v := 0) (zi_77 rfl) rfl rfl ?_
      have g6 := Option.some.inj g5
      subst g6
      exact zo_iret (zi_77 rfl) rfl ⟨rfl, rfl⟩
  · rw [if_neg hok] at h; cases h
/-- SlateHalves$HillReader.takePart(I)Z -/
theorem zrn_cast {a b k : Nat} {as : List Value} {M : ZMem} {o : Option Value × ZMem} (e : a = b) (h : zrn a k as M o) : zrn b k as M o := e ▸ h
def f_79 : Nat → ZMem → Nat → Int32 → Option (Int32 × ZMem)
  | 0, _, _, _ => none
  | y + 1, M, o, a0 => if zok M 4 o = true then (zb (f_75 M o) fun x1 => if x1 = 40 then (if a0 < 4 then (zbd (f_74 M o 40) fun x5 M7 => if x5 = 0 then (zbd (f_74 M7 o 33) fun x9 M11 => if x9 = 0 then (some (0, M11)) else (zbd (f_79 y M11 o ((a0 + 1))) fun x13 M15 => if ¬ x13 = 0 then (zb (zgr M15 4 3 o) fun r17 => zb r17 fun q19 => zb (f_87 M15 q19 1 0 0 0) fun M22 => some (1, M22)) else (some (0, M15)))) else (zbd (f_77 (f_79 y) M7 o ((a0 + 1))) fun x23 M25 => if x23 = 0 then (some (0, M25)) else (zbd (f_74 M25 o 41) fun x27 M29 => if x27 = 0 then (some (0, M29)) else (some (1, M29))))) else (some (0, M))) else (zb (f_75 M o) fun x31 => if x31 = 33 then (if a0 < 4 then (zbd (f_74 M o 40) fun x35 M37 => if x35 = 0 then (zbd (f_74 M37 o 33) fun x39 M41 => if x39 = 0 then (some (0, M41)) else (zbd (f_79 y M41 o ((a0 + 1))) fun x43 M45 => if ¬ x43 = 0 then (zb (zgr M45 4 3 o) fun r47 => zb r47 fun q49 => zb (f_87 M45 q49 1 0 0 0) fun M52 => some (1, M52)) else (some (0, M45)))) else (zbd (f_77 (f_79 y) M37 o ((a0 + 1))) fun x53 M55 => if x53 = 0 then (some (0, M55)) else (zbd (f_74 M55 o 41) fun x57 M59 => if x57 = 0 then (some (0, M59)) else (some (1, M59))))) else (some (0, M))) else (zbd (f_80 M o) fun x61 M63 => if narrow .boolean (.int x61) = .int x61 then some (x61, M63) else none))) else none
theorem f_79_ok {y : Nat} {M : ZMem} {o : Nat} {a0 : Int32} {out : Int32 × ZMem} (h : f_79 y M o a0 = some out) : zok M 4 o = true := by
  cases y with
  | zero => cases h
  | succ y =>
    rw [f_79] at h
    by_cases hok : zok M 4 o = true
    · exact hok
    · rw [if_neg hok] at h; cases h
set_option maxRecDepth 20000 in
theorem k_79 : ∀ (y d : Nat) (M : ZMem) (o : Nat) (a0 : Int32) (out : Int32 × ZMem), f_79 y M o a0 = some out → zrn (d + 3 * y + 10) 79 [zrf (some o), .int a0] M (some (.int out.1), out.2) := by
  intro y
  induction y with
  | zero => intro d M o a0 out h; cases h
  | succ y ih =>
    intro d M o a0 out h
    rw [f_79] at h
    rw [show d + 3 * (y + 1) + 10 = (d + 3 * y + 12) + 1 by omega]
    by_cases hok : zok M 4 o = true
    · rw [if_pos hok] at h
      refine zrn_of (L := [(0, zrf (some o)), (1, .int a0)]) rfl ?_
      refine zo_aload_n (p' := 1) (zi_79 rfl) rfl rfl ?_
      obtain ⟨x1, hx2, g65⟩ := zb_of h
      refine zo_callVi (p' := 4) (t := 4) (as := []) (r := []) (zi_79 rfl) rfl zl_7_44 rfl rfl (Or.inl ⟨by decide, rfl⟩) (Nat.le_of_ble_eq_true rfl) (Nat.le_of_ble_eq_true rfl) (f_75_ok hx2) (k_75 _ hx2) ?_
      refine zo_bipush (p' := 6) (v := 40) (zi_79 rfl) rfl rfl ?_
      by_cases hc3 : x1 = 40
      · rw [if_pos hc3] at g65
        refine zo_icT (p' := 23) (zi_79 rfl) rfl hc3 ?_
        refine zo_iload_n (p' := 24) (zi_79 rfl) rfl rfl ?_
        refine zo_iconst (p' := 25) (v := 4) (zi_79 rfl) rfl rfl ?_
        by_cases hc4 : a0 < 4
        · rw [if_pos hc4] at g65
          refine zo_icT (p' := 30) (zi_79 rfl) rfl hc4 ?_
          refine zo_aload_n (p' := 31) (zi_79 rfl) rfl rfl ?_
          refine zo_bipush (p' := 33) (v := 40) (zi_79 rfl) rfl rfl ?_
          obtain ⟨x5, M7, hx6, g66⟩ := zbd_of g65
          refine zo_callVi (p' := 36) (t := 4) (as := [.int 40]) (r := []) (zi_79 rfl) rfl zl_7_40 rfl rfl (Or.inl ⟨by decide, rfl⟩) (Nat.le_of_ble_eq_true rfl) (Nat.le_of_ble_eq_true rfl) (f_74_ok hx6) (k_74 _ hx6) ?_
          by_cases hc8 : x5 = 0
          · rw [if_pos hc8] at g66
            refine zo_ifT (p' := 64) (zi_79 rfl) rfl hc8 ?_
            refine zo_aload_n (p' := 65) (zi_79 rfl) rfl rfl ?_
            refine zo_bipush (p' := 67) (v := 33) (zi_79 rfl) rfl rfl ?_
            obtain ⟨x9, M11, hx10, g67⟩ := zbd_of g66
            refine zo_callVi (p' := 70) (t := 4) (as := [.int 33]) (r := []) (zi_79 rfl) rfl zl_7_40 rfl rfl (Or.inl ⟨by decide, rfl⟩) (Nat.le_of_ble_eq_true rfl) (Nat.le_of_ble_eq_true rfl) (f_74_ok hx10) (k_74 _ hx10) ?_
            by_cases hc12 : x9 = 0
            · rw [if_pos hc12] at g67
              refine zo_ifT (p' := 83) (zi_79 rfl) rfl hc12 ?_
              refine zo_iconst (p' := 84) (v := 0) (zi_79 rfl) rfl rfl ?_
              have g68 := Option.some.inj g67
              subst g68
              exact zo_iret (zi_79 rfl) rfl ⟨rfl, rfl⟩
            · rw [if_neg hc12] at g67
              refine zo_ifF (p' := 73) (zi_79 rfl) rfl rfl hc12 ?_
              refine zo_aload_n (p' := 74) (zi_79 rfl) rfl rfl ?_
              refine zo_iload_n (p' := 75) (zi_79 rfl) rfl rfl ?_
              refine zo_iconst (p' := 76) (v := 1) (zi_79 rfl) rfl rfl ?_
              refine zo_iadd (p' := 77) (zi_79 rfl) rfl ?_
              obtain ⟨x13, M15, hx14, g69⟩ := zbd_of g67
              refine zo_callVi (p' := 80) (t := 4) (as := [.int ((a0 + 1))]) (r := []) (zi_79 rfl) rfl zl_7_105 rfl rfl (Or.inl ⟨by decide, rfl⟩) (Nat.le_of_ble_eq_true rfl) (Nat.le_of_ble_eq_true rfl) (f_79_ok hx14) (zrn_cast (show d + 2 + 3 * y + 10 = d + 3 * y + 12 by omega) <| ih (d + 2) _ _ _ _ hx14) ?_
              by_cases hc16 : ¬ x13 = 0
              · rw [if_pos hc16] at g69
                refine zo_ifT (p' := 85) (zi_79 rfl) rfl hc16 ?_
                refine zo_aload_n (p' := 86) (zi_79 rfl) rfl rfl ?_
                obtain ⟨r17, hx18, g70⟩ := zb_of g69
                refine zo_getR (p' := 89) (zi_79 rfl) rfl zl_7_23 hx18 ?_
                refine zo_iconst (p' := 90) (v := 1) (zi_79 rfl) rfl rfl ?_
                refine zo_iconst (p' := 91) (v := 0) (zi_79 rfl) rfl rfl ?_
                refine zo_iconst (p' := 92) (v := 0) (zi_79 rfl) rfl rfl ?_
                refine zo_iconst (p' := 93) (v := 0) (zi_79 rfl) rfl rfl ?_
                obtain ⟨q19, h0, g71⟩ := zb_of g70
                subst h0
                obtain ⟨M22, hx21, g72⟩ := zb_of g71
                refine zo_callVv (p' := 96) (t := 3) (as := [.int 1, .int 0, .int 0, .int 0]) (r := []) (zi_79 rfl) rfl zl_7_57 rfl rfl (Or.inl ⟨by decide, rfl⟩) (Nat.le_of_ble_eq_true rfl) (Nat.le_of_ble_eq_true rfl) (f_87_ok hx21) (k_87 _ hx21) ?_
                refine zo_iconst (p' := 97) (v := 1) (zi_79 rfl) rfl rfl ?_
                have g73 := Option.some.inj g72
                subst g73
                exact zo_iret (zi_79 rfl) rfl ⟨rfl, rfl⟩
              · rw [if_neg hc16] at g69
                refine zo_ifF (p' := 83) (zi_79 rfl) rfl rfl hc16 ?_
                refine zo_iconst (p' := 84) (v := 0) (zi_79 rfl) rfl rfl ?_
                have g74 := Option.some.inj g69
                subst g74
                exact zo_iret (zi_79 rfl) rfl ⟨rfl, rfl⟩
          · rw [if_neg hc8] at g66
            refine zo_ifF (p' := 39) (zi_79 rfl) rfl rfl hc8 ?_
            refine zo_aload_n (p' := 40) (zi_79 rfl) rfl rfl ?_
            refine zo_iload_n (p' := 41) (zi_79 rfl) rfl rfl ?_
            refine zo_iconst (p' := 42) (v := 1) (zi_79 rfl) rfl rfl ?_
            refine zo_iadd (p' := 43) (zi_79 rfl) rfl ?_
            obtain ⟨x23, M25, hx24, g75⟩ := zbd_of g66
            refine zo_callVi (p' := 46) (t := 4) (as := [.int ((a0 + 1))]) (r := []) (zi_79 rfl) rfl zl_7_54 rfl rfl (Or.inl ⟨by decide, rfl⟩) (Nat.le_of_ble_eq_true rfl) (Nat.le_of_ble_eq_true rfl) ((fun hh => f_77_ok hh) hx24) (k_77 _ (fun hh => f_79_ok hh) (fun M o x out hh => ih d M o x out hh) hx24) ?_
            by_cases hc26 : x23 = 0
            · rw [if_pos hc26] at g75
              refine zo_ifT (p' := 62) (zi_79 rfl) rfl hc26 ?_
              refine zo_iconst (p' := 63) (v := 0) (zi_79 rfl) rfl rfl ?_
              have g76 := Option.some.inj g75
              subst g76
              exact zo_iret (zi_79 rfl) rfl ⟨rfl, rfl⟩
            · rw [if_neg hc26] at g75
              refine zo_ifF (p' := 49) (zi_79 rfl) rfl rfl hc26 ?_
              refine zo_aload_n (p' := 50) (zi_79 rfl) rfl rfl ?_
              refine zo_bipush (p' := 52) (v := 41) (zi_79 rfl) rfl rfl ?_
              obtain ⟨x27, M29, hx28, g77⟩ := zbd_of g75
              refine zo_callVi (p' := 55) (t := 4) (as := [.int 41]) (r := []) (zi_79 rfl) rfl zl_7_40 rfl rfl (Or.inl ⟨by decide, rfl⟩) (Nat.le_of_ble_eq_true rfl) (Nat.le_of_ble_eq_true rfl) (f_74_ok hx28) (k_74 _ hx28) ?_
              by_cases hc30 : x27 = 0
              · rw [if_pos hc30] at g77
                refine zo_ifT (p' := 62) (zi_79 rfl) rfl hc30 ?_
                refine zo_iconst (p' := 63) (v := 0) (zi_79 rfl) rfl rfl ?_
                have g78 := Option.some.inj g77
                subst g78
                exact zo_iret (zi_79 rfl) rfl ⟨rfl, rfl⟩
              · rw [if_neg hc30] at g77
                refine zo_ifF (p' := 58) (zi_79 rfl) rfl rfl hc30 ?_
                refine zo_iconst (p' := 59) (v := 1) (zi_79 rfl) rfl rfl ?_
                refine zo_goto (p' := 63) (zi_79 rfl) rfl ?_
                have g79 := Option.some.inj g77
                subst g79
                exact zo_iret (zi_79 rfl) rfl ⟨rfl, rfl⟩
        · rw [if_neg hc4] at g65
          refine zo_icF (p' := 28) (zi_79 rfl) rfl rfl hc4 ?_
          refine zo_iconst (p' := 29) (v := 0) (zi_79 rfl) rfl rfl ?_
          have g80 := Option.some.inj g65
          subst g80
          exact zo_iret (zi_79 rfl) rfl ⟨rfl, rfl⟩
      · rw [if_neg hc3] at g65
        refine zo_icF (p' := 9) (zi_79 rfl) rfl rfl hc3 ?_
        refine zo_aload_n (p' := 10) (zi_79 rfl) rfl rfl ?_
        obtain ⟨x31, hx32, g81⟩ := zb_of g65
        refine zo_callVi (p' := 13) (t := 4) (as := []) (r := []) (zi_79 rfl) rfl zl_7_44 rfl rfl (Or.inl ⟨by decide, rfl⟩) (Nat.le_of_ble_eq_true rfl) (Nat.le_of_ble_eq_true rfl) (f_75_ok hx32) (k_75 _ hx32) ?_
        refine zo_bipush (p' := 15) (v := 33) (zi_79 rfl) rfl rfl ?_
        by_cases hc33 : x31 = 33
        · rw [if_pos hc33] at g81
          refine zo_icT (p' := 23) (zi_79 rfl) rfl hc33 ?_
          refine zo_iload_n (p' := 24) (zi_79 rfl) rfl rfl ?_
          refine zo_iconst (p' := 25) (v := 4) (zi_79 rfl) rfl rfl ?_
          by_cases hc34 : a0 < 4
          · rw [if_pos hc34] at g81
            refine zo_icT (p' := 30) (zi_79 rfl) rfl hc34 ?_
            refine zo_aload_n (p' := 31) (zi_79 rfl) rfl rfl ?_
            refine zo_bipush (p' := 33) (v := 40) (zi_79 rfl) rfl rfl ?_
            obtain ⟨x35, M37, hx36, g82⟩ := zbd_of g81
            refine zo_callVi (p' := 36) (t := 4) (as := [.int 40]) (r := []) (zi_79 rfl) rfl zl_7_40 rfl rfl (Or.inl ⟨by decide, rfl⟩) (Nat.le_of_ble_eq_true rfl) (Nat.le_of_ble_eq_true rfl) (f_74_ok hx36) (k_74 _ hx36) ?_
            by_cases hc38 : x35 = 0
            · rw [if_pos hc38] at g82
              refine zo_ifT (p' := 64) (zi_79 rfl) rfl hc38 ?_
              refine zo_aload_n (p' := 65) (zi_79 rfl) rfl rfl ?_
              refine zo_bipush (p' := 67) (v := 33) (zi_79 rfl) rfl rfl ?_
              obtain ⟨x39, M41, hx40, g83⟩ := zbd_of g82
              refine zo_callVi (p' := 70) (t := 4) (as := [.int 33]) (r := []) (zi_79 rfl) rfl zl_7_40 rfl rfl (Or.inl ⟨by decide, rfl⟩) (Nat.le_of_ble_eq_true rfl) (Nat.le_of_ble_eq_true rfl) (f_74_ok hx40) (k_74 _ hx40) ?_
              by_cases hc42 : x39 = 0
              · rw [if_pos hc42] at g83
                refine zo_ifT (p' := 83) (zi_79 rfl) rfl hc42 ?_
                refine zo_iconst (p' := 84) (v := 0) (zi_79 rfl) rfl rfl ?_
                have g84 := Option.some.inj g83
                subst g84
                exact zo_iret (zi_79 rfl) rfl ⟨rfl, rfl⟩
              · rw [if_neg hc42] at g83
                refine zo_ifF (p' := 73) (zi_79 rfl) rfl rfl hc42 ?_
                refine zo_aload_n (p' := 74) (zi_79 rfl) rfl rfl ?_
                refine zo_iload_n (p' := 75) (zi_79 rfl) rfl rfl ?_
                refine zo_iconst (p' := 76) (v := 1) (zi_79 rfl) rfl rfl ?_
                refine zo_iadd (p' := 77) (zi_79 rfl) rfl ?_
                obtain ⟨x43, M45, hx44, g85⟩ := zbd_of g83
                refine zo_callVi (p' := 80) (t := 4) (as := [.int ((a0 + 1))]) (r := []) (zi_79 rfl) rfl zl_7_105 rfl rfl (Or.inl ⟨by decide, rfl⟩) (Nat.le_of_ble_eq_true rfl) (Nat.le_of_ble_eq_true rfl) (f_79_ok hx44) (zrn_cast (show d + 2 + 3 * y + 10 = d + 3 * y + 12 by omega) <| ih (d + 2) _ _ _ _ hx44) ?_
                by_cases hc46 : ¬ x43 = 0
                · rw [if_pos hc46] at g85
                  refine zo_ifT (p' := 85) (zi_79 rfl) rfl hc46 ?_
                  refine zo_aload_n (p' := 86) (zi_79 rfl) rfl rfl ?_
                  obtain ⟨r47, hx48, g86⟩ := zb_of g85
                  refine zo_getR (p' := 89) (zi_79 rfl) rfl zl_7_23 hx48 ?_
                  refine zo_iconst (p' := 90) (v := 1) (zi_79 rfl) rfl rfl ?_
                  refine zo_iconst (p' := 91) (v := 0) (zi_79 rfl) rfl rfl ?_
                  refine zo_iconst (p' := 92) (v := 0) (zi_79 rfl) rfl rfl ?_
                  refine zo_iconst (p' := 93) (v := 0) (zi_79 rfl) rfl rfl ?_
                  obtain ⟨q49, h0, g87⟩ := zb_of g86
                  subst h0
                  obtain ⟨M52, hx51, g88⟩ := zb_of g87
                  refine zo_callVv (p' := 96) (t := 3) (as := [.int 1, .int 0, .int 0, .int 0]) (r := []) (zi_79 rfl) rfl zl_7_57 rfl rfl (Or.inl ⟨by decide, rfl⟩) (Nat.le_of_ble_eq_true rfl) (Nat.le_of_ble_eq_true rfl) (f_87_ok hx51) (k_87 _ hx51) ?_
                  refine zo_iconst (p' := 97) (v := 1) (zi_79 rfl) rfl rfl ?_
                  have g89 := Option.some.inj g88
                  subst g89
                  exact zo_iret (zi_79 rfl) rfl ⟨rfl, rfl⟩
                · rw [if_neg hc46] at g85
                  refine zo_ifF (p' := 83) (zi_79 rfl) rfl rfl hc46 ?_
                  refine zo_iconst (p' := 84) (v := 0) (zi_79 rfl) rfl rfl ?_
                  have g90 := Option.some.inj g85
                  subst g90
                  exact zo_iret (zi_79 rfl) rfl ⟨rfl, rfl⟩
            · rw [if_neg hc38] at g82
              refine zo_ifF (p' := 39) (zi_79 rfl) rfl rfl hc38 ?_
              refine zo_aload_n (p' := 40) (zi_79 rfl) rfl rfl ?_
              refine zo_iload_n (p' := 41) (zi_79 rfl) rfl rfl ?_
              refine zo_iconst (p' := 42) (v := 1) (zi_79 rfl) rfl rfl ?_
              refine zo_iadd (p' := 43) (zi_79 rfl) rfl ?_
              obtain ⟨x53, M55, hx54, g91⟩ := zbd_of g82
              refine zo_callVi (p' := 46) (t := 4) (as := [.int ((a0 + 1))]) (r := []) (zi_79 rfl) rfl zl_7_54 rfl rfl (Or.inl ⟨by decide, rfl⟩) (Nat.le_of_ble_eq_true rfl) (Nat.le_of_ble_eq_true rfl) ((fun hh => f_77_ok hh) hx54) (k_77 _ (fun hh => f_79_ok hh) (fun M o x out hh => ih d M o x out hh) hx54) ?_
              by_cases hc56 : x53 = 0
              · rw [if_pos hc56] at g91
                refine zo_ifT (p' := 62) (zi_79 rfl) rfl hc56 ?_
                refine zo_iconst (p' := 63) (v := 0) (zi_79 rfl) rfl rfl ?_
                have g92 := Option.some.inj g91
                subst g92
                exact zo_iret (zi_79 rfl) rfl ⟨rfl, rfl⟩
              · rw [if_neg hc56] at g91
                refine zo_ifF (p' := 49) (zi_79 rfl) rfl rfl hc56 ?_
                refine zo_aload_n (p' := 50) (zi_79 rfl) rfl rfl ?_
                refine zo_bipush (p' := 52) (v := 41) (zi_79 rfl) rfl rfl ?_
                obtain ⟨x57, M59, hx58, g93⟩ := zbd_of g91
                refine zo_callVi (p' := 55) (t := 4) (as := [.int 41]) (r := []) (zi_79 rfl) rfl zl_7_40 rfl rfl (Or.inl ⟨by decide, rfl⟩) (Nat.le_of_ble_eq_true rfl) (Nat.le_of_ble_eq_true rfl) (f_74_ok hx58) (k_74 _ hx58) ?_
                by_cases hc60 : x57 = 0
                · rw [if_pos hc60] at g93
                  refine zo_ifT (p' := 62) (zi_79 rfl) rfl hc60 ?_
                  refine zo_iconst (p' := 63) (v := 0) (zi_79 rfl) rfl rfl ?_
                  have g94 := Option.some.inj g93
                  subst g94
                  exact zo_iret (zi_79 rfl) rfl ⟨rfl, rfl⟩
                · rw [if_neg hc60] at g93
                  refine zo_ifF (p' := 58) (zi_79 rfl) rfl rfl hc60 ?_
                  refine zo_iconst (p' := 59) (v := 1) (zi_79 rfl) rfl rfl ?_
                  refine zo_goto (p' := 63) (zi_79 rfl) rfl ?_
                  have g95 := Option.some.inj g93
                  subst g95
                  exact zo_iret (zi_79 rfl) rfl ⟨rfl, rfl⟩
          · rw [if_neg hc34] at g81
            refine zo_icF (p' := 28) (zi_79 rfl) rfl rfl hc34 ?_
            refine zo_iconst (p' := 29) (v := 0) (zi_79 rfl) rfl rfl ?_
            have g96 := Option.some.inj g81
            subst g96
            exact zo_iret (zi_79 rfl) rfl ⟨rfl, rfl⟩
        · rw [if_neg hc33] at g81
          refine zo_icF (p' := 18) (zi_79 rfl) rfl rfl hc33 ?_
          refine zo_aload_n (p' := 19) (zi_79 rfl) rfl rfl ?_
          obtain ⟨x61, M63, hx62, g97⟩ := zbd_of g81
          refine zo_callVi (p' := 22) (t := 4) (as := []) (r := []) (zi_79 rfl) rfl zl_7_108 rfl rfl (Or.inl ⟨by decide, rfl⟩) (Nat.le_of_ble_eq_true rfl) (Nat.le_of_ble_eq_true rfl) (f_80_ok hx62) (k_80 _ hx62) ?_
          by_cases hr64 : narrow .boolean (.int x61) = .int x61
          · rw [if_pos hr64] at g97
            have g98 := Option.some.inj g97
            subst g98
            exact zo_iret (zi_79 rfl) rfl ⟨rfl, hr64⟩
          · rw [if_neg hr64] at g97; cases g97
    · rw [if_neg hok] at h; cases h
theorem kc_77 {d : Nat} {M : ZMem} {o : Nat} {a0 : Int32} {out : Int32 × ZMem} (h : f_77 (f_79 8) M o a0 = some out) : zrn (d + 36) 77 [zrf (some o), .int a0] M (some (.int out.1), out.2) := k_77 (d + 24) (fun hh => f_79_ok hh) (fun M o x out hh => k_79 8 d M o x out hh) h
/-- SlateHalves$HillReader.takeClause()Z -/
def f_63_72 (M : ZMem) (b0 : Int32) (b1 : Int32) (b2 : Option Nat) : Option (Int32 × ZMem) := zb b2 fun q66 => zb (f_87 M q66 b1 0 0 b0) fun M69 => some (1, M69)
def f_63_40 (M : ZMem) (o : Nat) (b1 : Int32) (b2 : Int32) : Option (Int32 × ZMem) := zbd (f_74 M o 32) fun x50 M52 => if x50 = 0 then (some (0, M52)) else (zbd (f_77 (f_79 8) M52 o 0) fun x54 M56 => if ¬ x54 = 0 then (zb (zgr M56 4 3 o) fun r58 => if ¬ b1 = 0 then (f_63_72 M56 b2 5 r58) else (f_63_72 M56 b2 4 r58)) else (some (0, M56)))
set_option maxRecDepth 20000 in
theorem k_63_72 (d : Nat) : ∀ (M : ZMem) (b0 : Int32) (b1 : Int32) (b2 : Option Nat) (out : Int32 × ZMem), f_63_72 M b0 b1 b2 = some out → zgo none (d + 37) 63 72 [(2, .int b0)] [.int b1, zrf b2] M (some (.int out.1), out.2) := by
  intro M b0 b1 b2 out h
  unfold f_63_72 at h
  refine zo_iconst (p' := 73) (v := 0) (zi_63 rfl) rfl rfl ?_
  refine zo_iconst (p' := 74) (v := 0) (zi_63 rfl) rfl rfl ?_
  refine zo_iload_n (p' := 75) (zi_63 rfl) rfl rfl ?_
  obtain ⟨q66, h0, g70⟩ := zb_of h
  subst h0
  obtain ⟨M69, hx68, g71⟩ := zb_of g70
  refine zo_callVv (p' := 78) (t := 3) (as := [.int b1, .int 0, .int 0, .int b0]) (r := []) (zi_63 rfl) rfl zl_7_57 rfl rfl (Or.inl ⟨by decide, rfl⟩) (Nat.le_of_ble_eq_true rfl) (Nat.le_of_ble_eq_true rfl) (f_87_ok hx68) (k_87 _ hx68) ?_
  refine zo_goto (p' := 121) (zi_63 rfl) rfl ?_
  refine zo_iconst (p' := 122) (v := 1) (zi_63 rfl) rfl rfl ?_
  have g72 := Option.some.inj g71
  subst g72
  exact zo_iret (zi_63 rfl) rfl ⟨rfl, rfl⟩
set_option maxRecDepth 20000 in
theorem k_63_40 (d : Nat) : ∀ (M : ZMem) (o : Nat) (b1 : Int32) (b2 : Int32) (out : Int32 × ZMem), f_63_40 M o b1 b2 = some out → zgo none (d + 37) 63 40 [(0, zrf (some o)), (1, .int b1), (2, .int b2)] [] M (some (.int out.1), out.2) := by
  intro M o b1 b2 out h
  unfold f_63_40 at h
  refine zo_aload_n (p' := 41) (zi_63 rfl) rfl rfl ?_
  refine zo_bipush (p' := 43) (v := 32) (zi_63 rfl) rfl rfl ?_
  obtain ⟨x50, M52, hx51, g61⟩ := zbd_of h
  refine zo_callVi (p' := 46) (t := 4) (as := [.int 32]) (r := []) (zi_63 rfl) rfl zl_7_40 rfl rfl (Or.inl ⟨by decide, rfl⟩) (Nat.le_of_ble_eq_true rfl) (Nat.le_of_ble_eq_true rfl) (f_74_ok hx51) (k_74 _ hx51) ?_
  by_cases hc53 : x50 = 0
  · rw [if_pos hc53] at g61
    refine zo_ifT (p' := 57) (zi_63 rfl) rfl hc53 ?_
    refine zo_iconst (p' := 58) (v := 0) (zi_63 rfl) rfl rfl ?_
    have g62 := Option.some.inj g61
    subst g62
    exact zo_iret (zi_63 rfl) rfl ⟨rfl, rfl⟩
  · rw [if_neg hc53] at g61
    refine zo_ifF (p' := 49) (zi_63 rfl) rfl rfl hc53 ?_
    refine zo_aload_n (p' := 50) (zi_63 rfl) rfl rfl ?_
    refine zo_iconst (p' := 51) (v := 0) (zi_63 rfl) rfl rfl ?_
    obtain ⟨x54, M56, hx55, g63⟩ := zbd_of g61
    refine zo_callVi (p' := 54) (t := 4) (as := [.int 0]) (r := []) (zi_63 rfl) rfl zl_7_54 rfl rfl (Or.inl ⟨by decide, rfl⟩) (Nat.le_of_ble_eq_true rfl) (Nat.le_of_ble_eq_true rfl) (f_77_ok hx55) (kc_77 hx55) ?_
    by_cases hc57 : ¬ x54 = 0
    · rw [if_pos hc57] at g63
      refine zo_ifT (p' := 59) (zi_63 rfl) rfl hc57 ?_
      refine zo_aload_n (p' := 60) (zi_63 rfl) rfl rfl ?_
      obtain ⟨r58, hx59, g64⟩ := zb_of g63
      refine zo_getR (p' := 63) (zi_63 rfl) rfl zl_7_23 hx59 ?_
      refine zo_iload_n (p' := 64) (zi_63 rfl) rfl rfl ?_
      by_cases hc60 : ¬ b1 = 0
      · rw [if_pos hc60] at g64
        refine zo_ifT (p' := 71) (zi_63 rfl) rfl hc60 ?_
        refine zo_iconst (p' := 72) (v := 5) (zi_63 rfl) rfl rfl ?_
        refine zgo_sub (L' := [(2, .int b2)]) (⟨rfl, trivial⟩) ?_
        exact k_63_72 _ M56 b2 5 r58 _ g64
      · rw [if_neg hc60] at g64
        refine zo_ifF (p' := 67) (zi_63 rfl) rfl rfl hc60 ?_
        refine zo_iconst (p' := 68) (v := 4) (zi_63 rfl) rfl rfl ?_
        refine zo_goto (p' := 72) (zi_63 rfl) rfl ?_
        refine zgo_sub (L' := [(2, .int b2)]) (⟨rfl, trivial⟩) ?_
        exact k_63_72 _ M56 b2 4 r58 _ g64
    · rw [if_neg hc57] at g63
      refine zo_ifF (p' := 57) (zi_63 rfl) rfl rfl hc57 ?_
      refine zo_iconst (p' := 58) (v := 0) (zi_63 rfl) rfl rfl ?_
      have g65 := Option.some.inj g63
      subst g65
      exact zo_iret (zi_63 rfl) rfl ⟨rfl, rfl⟩
def f_63 (M : ZMem) (o : Nat) : Option (Int32 × ZMem) := if zok M 4 o = true then (zbd (f_64 M o) fun x1 M3 => if x1 < 0 then (some (0, M3)) else (zbd (f_74 M3 o 32) fun x5 M7 => if ¬ x5 = 0 then (zbd (f_76 M7 o) fun x9 M11 => if 0 ≤ x9 then (if x1 = 0 then (f_63_40 M11 o x1 x9) else (if ¬ x1 = 1 then (if ¬ x1 = 2 then (if ¬ x1 = 3 then (zb (zgr M11 4 3 o) fun r17 => zb r17 fun q19 => zb (zpf M11 3 4 q19 (.int x9) false) fun M20 => some (1, M20)) else (zb (zgr M11 4 3 o) fun r22 => zb r22 fun q24 => zb (zpf M11 3 3 q24 (.int x9) false) fun M25 => some (1, M25))) else (zb (zgr M11 4 3 o) fun r27 => zb r27 fun q29 => zb (zpf M11 3 2 q29 (.int x9) false) fun M30 => some (1, M30))) else (f_63_40 M11 o x1 x9))) else (some (0, M11))) else (some (0, M7)))) else none
theorem f_63_ok {M : ZMem} {o : Nat} {out : Int32 × ZMem} (h : f_63 M o = some out) : zok M 4 o = true := by
  unfold f_63 at h
  by_cases hok : zok M 4 o = true
  · exact hok
  · rw [if_neg hok] at h; cases h
set_option maxRecDepth 20000 in
theorem k_63 (d : Nat) {M : ZMem} {o : Nat} {out : Int32 × ZMem} (h : f_63 M o = some out) : zrn (d + 37) 63 [zrf (some o)] M (some (.int out.1), out.2) := by
  unfold f_63 at h
  by_cases hok : zok M 4 o = true
  · rw [if_pos hok] at h
    refine zrn_of (L := [(0, zrf (some o))]) rfl ?_
    refine zo_aload_n (p' := 1) (zi_63 rfl) rfl rfl ?_
    obtain ⟨x1, M3, hx2, g32⟩ := zbd_of h
    refine zo_callVi (p' := 4) (t := 4) (as := []) (r := []) (zi_63 rfl) rfl zl_7_48 rfl rfl (Or.inl ⟨by decide, rfl⟩) (Nat.le_of_ble_eq_true rfl) (Nat.le_of_ble_eq_true rfl) (f_64_ok hx2) (k_64 _ hx2) ?_
    refine zo_istore_n (p' := 5) (L' := [(0, zrf (some o)), (1, .int x1)]) (zi_63 rfl) rfl zm_63_1 ⟨Or.inr ⟨by decide, rfl, fun _ => zrf_cat _⟩, ⟨Or.inl ⟨rfl, rfl⟩, trivial⟩⟩ ?_
    refine zo_iload_n (p' := 6) (zi_63 rfl) rfl rfl ?_
    by_cases hc4 : x1 < 0
    · rw [if_pos hc4] at g32
      refine zo_ifT (p' := 18) (zi_63 rfl) rfl hc4 ?_
      refine zo_iconst (p' := 19) (v := 0) (zi_63 rfl) rfl rfl ?_
      have g33 := Option.some.inj g32
      subst g33
      exact zo_iret (zi_63 rfl) rfl ⟨rfl, rfl⟩
    · rw [if_neg hc4] at g32
      refine zo_ifF (p' := 9) (zi_63 rfl) rfl rfl hc4 ?_
      refine zo_aload_n (p' := 10) (zi_63 rfl) rfl rfl ?_
      refine zo_bipush (p' := 12) (v := 32) (zi_63 rfl) rfl rfl ?_
      obtain ⟨x5, M7, hx6, g34⟩ := zbd_of g32
      refine zo_callVi (p' := 15) (t := 4) (as := [.int 32]) (r := []) (zi_63 rfl) rfl zl_7_40 rfl rfl (Or.inl ⟨by decide, rfl⟩) (Nat.le_of_ble_eq_true rfl) (Nat.le_of_ble_eq_true rfl) (f_74_ok hx6) (k_74 _ hx6) ?_
      by_cases hc8 : ¬ x5 = 0
      · rw [if_pos hc8] at g34
        refine zo_ifT (p' := 20) (zi_63 rfl) rfl hc8 ?_
        refine zo_aload_n (p' := 21) (zi_63 rfl) rfl rfl ?_
        obtain ⟨x9, M11, hx10, g35⟩ := zbd_of g34
        refine zo_callVi (p' := 24) (t := 4) (as := []) (r := []) (zi_63 rfl) rfl zl_7_51 rfl rfl (Or.inl ⟨by decide, rfl⟩) (Nat.le_of_ble_eq_true rfl) (Nat.le_of_ble_eq_true rfl) (f_76_ok hx10) (k_76 _ hx10) ?_
        refine zo_istore_n (p' := 25) (L' := [(0, zrf (some o)), (1, .int x1), (2, .int x9)]) (zi_63 rfl) rfl zm_63_2 ⟨Or.inr ⟨by decide, rfl, fun q => absurd q (by decide)⟩, ⟨Or.inr ⟨by decide, rfl, fun _ => rfl⟩, ⟨Or.inl ⟨rfl, rfl⟩, trivial⟩⟩⟩ ?_
        refine zo_iload_n (p' := 26) (zi_63 rfl) rfl rfl ?_
        by_cases hc12 : 0 ≤ x9
        · rw [if_pos hc12] at g35
          refine zo_ifT (p' := 31) (zi_63 rfl) rfl hc12 ?_
          refine zo_iload_n (p' := 32) (zi_63 rfl) rfl rfl ?_
          by_cases hc13 : x1 = 0
          · rw [if_pos hc13] at g35
            refine zo_ifT (p' := 40) (zi_63 rfl) rfl hc13 ?_
            refine zgo_sub (L' := [(0, zrf (some o)), (1, .int x1), (2, .int x9)]) (⟨rfl, rfl, rfl, trivial⟩) ?_
            exact k_63_40 _ M11 o x1 x9 _ g35
          · rw [if_neg hc13] at g35
            refine zo_ifF (p' := 35) (zi_63 rfl) rfl rfl hc13 ?_
            refine zo_iload_n (p' := 36) (zi_63 rfl) rfl rfl ?_
            refine zo_iconst (p' := 37) (v := 1) (zi_63 rfl) rfl rfl ?_
            by_cases hc14 : ¬ x1 = 1
            · rw [if_pos hc14] at g35
              refine zo_icT (p' := 81) (zi_63 rfl) rfl hc14 ?_
              refine zo_iload_n (p' := 82) (zi_63 rfl) rfl rfl ?_
              refine zo_iconst (p' := 83) (v := 2) (zi_63 rfl) rfl rfl ?_
              by_cases hc15 : ¬ x1 = 2
              · rw [if_pos hc15] at g35
                refine zo_icT (p' := 97) (zi_63 rfl) rfl hc15 ?_
                refine zo_iload_n (p' := 98) (zi_63 rfl) rfl rfl ?_
                refine zo_iconst (p' := 99) (v := 3) (zi_63 rfl) rfl rfl ?_
                by_cases hc16 : ¬ x1 = 3
                · rw [if_pos hc16] at g35
                  refine zo_icT (p' := 113) (zi_63 rfl) rfl hc16 ?_
                  refine zo_aload_n (p' := 114) (zi_63 rfl) rfl rfl ?_
                  obtain ⟨r17, hx18, g36⟩ := zb_of g35
                  refine zo_getR (p' := 117) (zi_63 rfl) rfl zl_7_23 hx18 ?_
                  refine zo_iload_n (p' := 118) (zi_63 rfl) rfl rfl ?_
                  obtain ⟨q19, h0, g37⟩ := zb_of g36
                  subst h0
                  obtain ⟨M20, hx21, g38⟩ := zb_of g37
                  refine zo_putI (p' := 121) (zi_63 rfl) rfl zl_7_67 (zpb_63 _) hx21 ?_
                  refine zo_iconst (p' := 122) (v := 1) (zi_63 rfl) rfl rfl ?_
                  have g39 := Option.some.inj g38
                  subst g39
                  exact zo_iret (zi_63 rfl) rfl ⟨rfl, rfl⟩
                · rw [if_neg hc16] at g35
                  refine zo_icF (p' := 102) (zi_63 rfl) rfl rfl hc16 ?_
                  refine zo_aload_n (p' := 103) (zi_63 rfl) rfl rfl ?_
                  obtain ⟨r22, hx23, g40⟩ := zb_of g35
                  refine zo_getR (p' := 106) (zi_63 rfl) rfl zl_7_23 hx23 ?_
                  refine zo_iload_n (p' := 107) (zi_63 rfl) rfl rfl ?_
                  obtain ⟨q24, h0, g41⟩ := zb_of g40
                  subst h0
                  obtain ⟨M25, hx26, g42⟩ := zb_of g41
                  refine zo_putI (p' := 110) (zi_63 rfl) rfl zl_7_64 (zpb_63 _) hx26 ?_
                  refine zo_goto (p' := 121) (zi_63 rfl) rfl ?_
                  refine zo_iconst (p' := 122) (v := 1) (zi_63 rfl) rfl rfl ?_
                  have g43 := Option.some.inj g42
                  subst g43
                  exact zo_iret (zi_63 rfl) rfl ⟨rfl, rfl⟩
              · rw [if_neg hc15] at g35
                refine zo_icF (p' := 86) (zi_63 rfl) rfl rfl hc15 ?_
                refine zo_aload_n (p' := 87) (zi_63 rfl) rfl rfl ?_
                obtain ⟨r27, hx28, g44⟩ := zb_of g35
                refine zo_getR (p' := 90) (zi_63 rfl) rfl zl_7_23 hx28 ?_
                refine zo_iload_n (p' := 91) (zi_63 rfl) rfl rfl ?_
                obtain ⟨q29, h0, g45⟩ := zb_of g44
                subst h0
                obtain ⟨M30, hx31, g46⟩ := zb_of g45
                refine zo_putI (p' := 94) (zi_63 rfl) rfl zl_7_61 (zpb_63 _) hx31 ?_
                refine zo_goto (p' := 121) (zi_63 rfl) rfl ?_
                refine zo_iconst (p' := 122) (v := 1) (zi_63 rfl) rfl rfl ?_
                have g47 := Option.some.inj g46
                subst g47
                exact zo_iret (zi_63 rfl) rfl ⟨rfl, rfl⟩
            · rw [if_neg hc14] at g35
              refine zo_icF (p' := 40) (zi_63 rfl) rfl rfl hc14 ?_
              refine zgo_sub (L' := [(0, zrf (some o)), (1, .int x1), (2, .int x9)]) (⟨rfl, rfl, rfl, trivial⟩) ?_
              exact k_63_40 _ M11 o x1 x9 _ g35
        · rw [if_neg hc12] at g35
          refine zo_ifF (p' := 29) (zi_63 rfl) rfl rfl hc12 ?_
          refine zo_iconst (p' := 30) (v := 0) (zi_63 rfl) rfl rfl ?_
          have g48 := Option.some.inj g35
          subst g48
          exact zo_iret (zi_63 rfl) rfl ⟨rfl, rfl⟩
      · rw [if_neg hc8] at g34
        refine zo_ifF (p' := 18) (zi_63 rfl) rfl rfl hc8 ?_
        refine zo_iconst (p' := 19) (v := 0) (zi_63 rfl) rfl rfl ?_
        have g49 := Option.some.inj g34
        subst g49
        exact zo_iret (zi_63 rfl) rfl ⟨rfl, rfl⟩
  · rw [if_neg hok] at h; cases h
/-- SlateHalves$HillReader.fillHill(LSlateHalves$Hill;[BI)I -/
def f_61_83 (M : ZMem) (o : Nat) : Option (Int32 × ZMem) := zb (zgi M 4 2 o) fun x58 => some (x58, M)
def f_61_35 : Nat → ZMem → Nat → Int32 → Option (Int32 × ZMem)
  | 0, _, _, _ => none
  | z + 1, M, o, b1 => if 10 < b1 then (zb (zgi M 4 2 o) fun x31 => some (x31, M)) else (zbd (f_63 M o) fun x33 M35 => if ¬ x33 = 0 then (zb (zgi M35 4 2 o) fun x37 => zb (zgi M35 4 1 o) fun x39 => if ¬ x37 = x39 then (if b1 = 10 then (f_61_83 M35 o) else (zbd (f_74 M35 o 59) fun x43 M45 => if ¬ x43 = 0 then (f_61_35 z M45 o ((b1 + 1))) else (f_61_83 M45 o))) else (some ((-1), M35))) else (zb (zgi M35 4 2 o) fun x47 => some (x47, M35)))
set_option maxRecDepth 20000 in
theorem k_61_83 (d : Nat) : ∀ (M : ZMem) (o : Nat) (out : Int32 × ZMem), f_61_83 M o = some out → zgo none (d + 38) 61 83 [(0, zrf (some o))] [] M (some (.int out.1), out.2) := by
  intro M o out h
  unfold f_61_83 at h
  refine zo_aload_n (p' := 84) (zi_61 rfl) rfl rfl ?_
  obtain ⟨x58, hx59, g60⟩ := zb_of h
  refine zo_getI (p' := 87) (zi_61 rfl) rfl zl_7_17 hx59 ?_
  have g61 := Option.some.inj g60
  subst g61
  exact zo_iret (zi_61 rfl) rfl ⟨rfl, rfl⟩
set_option maxRecDepth 20000 in
theorem k_61_35 (d : Nat) : ∀ (z : Nat) (M : ZMem) (o : Nat) (b1 : Int32) (out : Int32 × ZMem), f_61_35 z M o b1 = some out → zgo none (d + 38) 61 35 [(0, zrf (some o)), (4, .int b1)] [] M (some (.int out.1), out.2) := by
  intro z
  induction z with
  | zero => intro M o b1 out h; cases h
  | succ z ih =>
    intro M o b1 out h
    rw [f_61_35] at h
    refine zo_iload (p' := 37) (zi_61 rfl) rfl rfl ?_
    refine zo_bipush (p' := 39) (v := 10) (zi_61 rfl) rfl rfl ?_
    by_cases hc30 : 10 < b1
    · rw [if_pos hc30] at h
      refine zo_icT (p' := 94) (zi_61 rfl) rfl hc30 ?_
      refine zo_aload_n (p' := 95) (zi_61 rfl) rfl rfl ?_
      obtain ⟨x31, hx32, g49⟩ := zb_of h
      refine zo_getI (p' := 98) (zi_61 rfl) rfl zl_7_17 hx32 ?_
      have g50 := Option.some.inj g49
      subst g50
      exact zo_iret (zi_61 rfl) rfl ⟨rfl, rfl⟩
    · rw [if_neg hc30] at h
      refine zo_icF (p' := 42) (zi_61 rfl) rfl rfl hc30 ?_
      refine zo_aload_n (p' := 43) (zi_61 rfl) rfl rfl ?_
      obtain ⟨x33, M35, hx34, g51⟩ := zbd_of h
      refine zo_callVi (p' := 46) (t := 4) (as := []) (r := []) (zi_61 rfl) rfl zl_7_36 rfl rfl (Or.inl ⟨by decide, rfl⟩) (Nat.le_of_ble_eq_true rfl) (Nat.le_of_ble_eq_true rfl) (f_63_ok hx34) (k_63 _ hx34) ?_
      by_cases hc36 : ¬ x33 = 0
      · rw [if_pos hc36] at g51
        refine zo_ifT (p' := 54) (zi_61 rfl) rfl hc36 ?_
        refine zo_aload_n (p' := 55) (zi_61 rfl) rfl rfl ?_
        obtain ⟨x37, hx38, g52⟩ := zb_of g51
        refine zo_getI (p' := 58) (zi_61 rfl) rfl zl_7_17 hx38 ?_
        refine zo_aload_n (p' := 59) (zi_61 rfl) rfl rfl ?_
        obtain ⟨x39, hx40, g53⟩ := zb_of g52
        refine zo_getI (p' := 62) (zi_61 rfl) rfl zl_7_13 hx40 ?_
        by_cases hc41 : ¬ x37 = x39
        · rw [if_pos hc41] at g53
          refine zo_icT (p' := 67) (zi_61 rfl) rfl hc41 ?_
          refine zo_iload (p' := 69) (zi_61 rfl) rfl rfl ?_
          refine zo_bipush (p' := 71) (v := 10) (zi_61 rfl) rfl rfl ?_
          by_cases hc42 : b1 = 10
          · rw [if_pos hc42] at g53
            refine zo_icT (p' := 83) (zi_61 rfl) rfl hc42 ?_
            refine zgo_sub (L' := [(0, zrf (some o))]) (⟨rfl, trivial⟩) ?_
            exact k_61_83 _ M35 o _ g53
          · rw [if_neg hc42] at g53
            refine zo_icF (p' := 74) (zi_61 rfl) rfl rfl hc42 ?_
            refine zo_aload_n (p' := 75) (zi_61 rfl) rfl rfl ?_
            refine zo_bipush (p' := 77) (v := 59) (zi_61 rfl) rfl rfl ?_
            obtain ⟨x43, M45, hx44, g54⟩ := zbd_of g53
            refine zo_callVi (p' := 80) (t := 4) (as := [.int 59]) (r := []) (zi_61 rfl) rfl zl_7_40 rfl rfl (Or.inl ⟨by decide, rfl⟩) (Nat.le_of_ble_eq_true rfl) (Nat.le_of_ble_eq_true rfl) (f_74_ok hx44) (k_74 _ hx44) ?_
            by_cases hc46 : ¬ x43 = 0
            · rw [if_pos hc46] at g54
              refine zo_ifT (p' := 88) (zi_61 rfl) rfl hc46 ?_
              refine zo_iinc (p' := 91) (v := (b1 + 1)) (L' := [(0, zrf (some o)), (4, .int ((b1 + 1)))]) (zi_61 rfl) rfl zm_61_4 rfl rfl ⟨Or.inr ⟨by decide, rfl, fun q => absurd q (by decide)⟩, ⟨Or.inl ⟨rfl, rfl⟩, trivial⟩⟩ ?_
              refine zo_goto (p' := 35) (zi_61 rfl) rfl ?_
              refine zgo_sub (L' := [(0, zrf (some o)), (4, .int (((b1 + 1))))]) (⟨rfl, rfl, trivial⟩) ?_
              exact ih M45 o ((b1 + 1)) _ g54
            · rw [if_neg hc46] at g54
              refine zo_ifF (p' := 83) (zi_61 rfl) rfl rfl hc46 ?_
              refine zgo_sub (L' := [(0, zrf (some o))]) (⟨rfl, trivial⟩) ?_
              exact k_61_83 _ M45 o _ g54
        · rw [if_neg hc41] at g53
          refine zo_icF (p' := 65) (zi_61 rfl) rfl rfl hc41 ?_
          refine zo_iconst (p' := 66) (v := (-1)) (zi_61 rfl) rfl rfl ?_
          have g55 := Option.some.inj g53
          subst g55
          exact zo_iret (zi_61 rfl) rfl ⟨rfl, rfl⟩
      · rw [if_neg hc36] at g51
        refine zo_ifF (p' := 49) (zi_61 rfl) rfl rfl hc36 ?_
        refine zo_aload_n (p' := 50) (zi_61 rfl) rfl rfl ?_
        obtain ⟨x47, hx48, g56⟩ := zb_of g51
        refine zo_getI (p' := 53) (zi_61 rfl) rfl zl_7_17 hx48 ?_
        have g57 := Option.some.inj g56
        subst g57
        exact zo_iret (zi_61 rfl) rfl ⟨rfl, rfl⟩
def f_61 (M : ZMem) (o : Nat) (a0 : Option Nat) (a1 : Option Nat) (a2 : Int32) : Option (Int32 × ZMem) := if zok M 4 o = true then (zb (zpf M 4 0 o (zrf a1) false) fun M1 => zb a1 fun q3 => zb (zlen none M1 q3) fun x4 => zb (f_37 M1 a2 x4) fun x6 => zb (zpf M1 4 1 o (.int x6) false) fun M8 => zb (zpf M8 4 2 o (.int 0) false) fun M10 => zb (zpf M10 4 3 o (zrf a0) false) fun M12 => zb (zgr M12 4 3 o) fun r14 => zb r14 fun q16 => zb (f_62 M12 q16) fun M19 => f_61_35 zF M19 o 1) else none
theorem f_61_ok {M : ZMem} {o : Nat} {a0 : Option Nat} {a1 : Option Nat} {a2 : Int32} {out : Int32 × ZMem} (h : f_61 M o a0 a1 a2 = some out) : zok M 4 o = true := by
  unfold f_61 at h
  by_cases hok : zok M 4 o = true
  · exact hok
  · rw [if_neg hok] at h; cases h
set_option maxRecDepth 20000 in
theorem k_61 (d : Nat) {M : ZMem} {o : Nat} {a0 : Option Nat} {a1 : Option Nat} {a2 : Int32} {out : Int32 × ZMem} (h : f_61 M o a0 a1 a2 = some out) : zrn (d + 38) 61 [zrf (some o), zrf a0, zrf a1, .int a2] M (some (.int out.1), out.2) := by
  unfold f_61 at h
  by_cases hok : zok M 4 o = true
  · rw [if_pos hok] at h
    refine zrn_of (L := [(0, zrf (some o)), (1, zrf a0), (2, zrf a1), (3, .int a2)]) (by simp [lv_args, zrf_cat, zcat_i, zcat_l, zcat_r]) ?_
    refine zo_aload_n (p' := 1) (zi_61 rfl) rfl rfl ?_
    refine zo_aload_n (p' := 2) (zi_61 rfl) rfl rfl ?_
    obtain ⟨M1, hx2, g20⟩ := zb_of h
    refine zo_putR (p' := 5) (zi_61 rfl) rfl zl_7_7 (zpb_61 _) hx2 ?_
    refine zo_aload_n (p' := 6) (zi_61 rfl) rfl rfl ?_
    refine zo_iload_n (p' := 7) (zi_61 rfl) rfl rfl ?_
    refine zo_aload_n (p' := 8) (zi_61 rfl) rfl rfl ?_
    obtain ⟨q3, h0, g21⟩ := zb_of g20
    subst h0
    obtain ⟨x4, hx5, g22⟩ := zb_of g21
    refine zo_alen (p' := 9) (zi_61 rfl) rfl hx5 ?_
    obtain ⟨x6, hx7, g23⟩ := zb_of g22
    refine zo_callSi (p' := 12) (as := [.int a2, .int x4]) (r := [zrf (some o)]) (zi_61 rfl) rfl (Or.inl zl_7_27) rfl rfl (Nat.le_of_ble_eq_true rfl) (Nat.le_of_ble_eq_true rfl) (k_37 _ hx7) ?_
    obtain ⟨M8, hx9, g24⟩ := zb_of g23
    refine zo_putI (p' := 15) (zi_61 rfl) rfl zl_7_13 (zpb_61 _) hx9 ?_
    refine zo_aload_n (p' := 16) (zi_61 rfl) rfl rfl ?_
    refine zo_iconst (p' := 17) (v := 0) (zi_61 rfl) rfl rfl ?_
    obtain ⟨M10, hx11, g25⟩ := zb_of g24
    refine zo_putI (p' := 20) (zi_61 rfl) rfl zl_7_17 (zpb_61 _) hx11 ?_
    refine zo_aload_n (p' := 21) (zi_61 rfl) rfl rfl ?_
    refine zo_aload_n (p' := 22) (zi_61 rfl) rfl rfl ?_
    obtain ⟨M12, hx13, g26⟩ := zb_of g25
    refine zo_putR (p' := 25) (zi_61 rfl) rfl zl_7_23 (zpb_61 _) hx13 ?_
    refine zo_aload_n (p' := 26) (zi_61 rfl) rfl rfl ?_
    obtain ⟨r14, hx15, g27⟩ := zb_of g26
    refine zo_getR (p' := 29) (zi_61 rfl) rfl zl_7_23 hx15 ?_
    obtain ⟨q16, h0, g28⟩ := zb_of g27
    subst h0
    obtain ⟨M19, hx18, g29⟩ := zb_of g28
    refine zo_callVv (p' := 32) (t := 3) (as := []) (r := []) (zi_61 rfl) rfl zl_7_33 rfl rfl (Or.inl ⟨by decide, rfl⟩) (Nat.le_of_ble_eq_true rfl) (Nat.le_of_ble_eq_true rfl) (f_62_ok hx18) (k_62 _ hx18) ?_
    refine zo_iconst (p' := 33) (v := 1) (zi_61 rfl) rfl rfl ?_
    refine zo_istore (p' := 35) (L' := [(0, zrf (some o)), (1, zrf a0), (2, zrf (some q3)), (3, .int a2), (4, .int 1)]) (zi_61 rfl) rfl zm_61_4 ⟨Or.inr ⟨by decide, rfl, fun q => absurd q (by decide)⟩, ⟨Or.inr ⟨by decide, rfl, fun q => absurd q (by decide)⟩, ⟨Or.inr ⟨by decide, rfl, fun q => absurd q (by decide)⟩, ⟨Or.inr ⟨by decide, rfl, fun _ => rfl⟩, ⟨Or.inl ⟨rfl, rfl⟩, trivial⟩⟩⟩⟩⟩ ?_
    refine zgo_sub (L' := [(0, zrf (some o)), (4, .int 1)]) (⟨rfl, rfl, trivial⟩) ?_
    exact k_61_35 _ zF M19 o 1 _ g29
  · rw [if_neg hok] at h; cases h
/-- SlateHalves.hill()I -/
def f_60 (M : ZMem) (o : Nat) : Option (Int32 × ZMem) := if zok M 11 o = true then (zb (zgi M 11 7 o) fun x1 => if x1 < 6 then (zb (zgr M 11 9 o) fun r4 => zb (zgr M 11 6 o) fun r6 => zb (zgi M 11 7 o) fun x8 => zb r6 fun q10 => zb (zlaR M q10 x8) fun r11 => zb (zgr M 11 4 o) fun r13 => zb (zgi M 11 5 o) fun x15 => zb r4 fun q17 => zbd (f_61 M q17 r11 r13 x15) fun x18 M20 => zb (zpf M20 11 5 o (.int 0) false) fun M21 => if x18 < 0 then (zb (zgr M21 11 0 o) fun r24 => zb r24 fun q26 => zb (zgr M21 7 0 q26) fun r27 => zb (zgi M21 11 7 o) fun x29 => zb r27 fun q31 => zb (zpf M21 10 4 q31 (.int x29) false) fun M32 => zb (zgi M32 11 7 o) fun x34 => zb (zpf M32 11 7 o (.int ((x34 + 1))) false) fun M36 => zb (zgr M36 11 0 o) fun r38 => zb r38 fun q40 => zb (zgr M36 7 0 q40) fun r41 => zb r41 fun q43 => zb (zgi M36 10 4 q43) fun x44 => some (x44, M36)) else (some (((-10) - x18), M21))) else (some ((-4), M))) else none
theorem f_60_ok {M : ZMem} {o : Nat} {out : Int32 × ZMem} (h : f_60 M o = some out) : zok M 11 o = true := by
  unfold f_60 at h
  by_cases hok : zok M 11 o = true
  · exact hok
  · rw [if_neg hok] at h; cases h
set_option maxRecDepth 20000 in
theorem k_60 (d : Nat) {M : ZMem} {o : Nat} {out : Int32 × ZMem} (h : f_60 M o = some out) : zrn (d + 39) 60 [zrf (some o)] M (some (.int out.1), out.2) := by
  unfold f_60 at h
  by_cases hok : zok M 11 o = true
  · rw [if_pos hok] at h
    refine zrn_of (L := [(0, zrf (some o))]) rfl ?_
    refine zo_aload_n (p' := 1) (zi_60 rfl) rfl rfl ?_
    obtain ⟨x1, hx2, g46⟩ := zb_of h
    refine zo_getI (p' := 4) (zi_60 rfl) rfl zl_1_46 hx2 ?_
    refine zo_bipush (p' := 6) (v := 6) (zi_60 rfl) rfl rfl ?_
    by_cases hc3 : x1 < 6
    · rw [if_pos hc3] at g46
      refine zo_icT (p' := 12) (zi_60 rfl) rfl hc3 ?_
      refine zo_aload_n (p' := 13) (zi_60 rfl) rfl rfl ?_
      obtain ⟨r4, hx5, g47⟩ := zb_of g46
      refine zo_getR (p' := 16) (zi_60 rfl) rfl zl_1_57 hx5 ?_
      refine zo_aload_n (p' := 17) (zi_60 rfl) rfl rfl ?_
      obtain ⟨r6, hx7, g48⟩ := zb_of g47
      refine zo_getR (p' := 20) (zi_60 rfl) rfl zl_1_42 hx7 ?_
      refine zo_aload_n (p' := 21) (zi_60 rfl) rfl rfl ?_
      obtain ⟨x8, hx9, g49⟩ := zb_of g48
      refine zo_getI (p' := 24) (zi_60 rfl) rfl zl_1_46 hx9 ?_
      obtain ⟨q10, h0, g50⟩ := zb_of g49
      subst h0
      obtain ⟨r11, hx12, g51⟩ := zb_of g50
      refine zo_aald (p' := 25) (zi_60 rfl) rfl hx12 ?_
      refine zo_aload_n (p' := 26) (zi_60 rfl) rfl rfl ?_
      obtain ⟨r13, hx14, g52⟩ := zb_of g51
      refine zo_getR (p' := 29) (zi_60 rfl) rfl zl_1_32 hx14 ?_
      refine zo_aload_n (p' := 30) (zi_60 rfl) rfl rfl ?_
      obtain ⟨x15, hx16, g53⟩ := zb_of g52
      refine zo_getI (p' := 33) (zi_60 rfl) rfl zl_1_36 hx16 ?_
      obtain ⟨q17, h0, g54⟩ := zb_of g53
      subst h0
      obtain ⟨x18, M20, hx19, g55⟩ := zbd_of g54
      refine zo_callVi (p' := 36) (t := 4) (as := [zrf r11, zrf r13, .int x15]) (r := []) (zi_60 rfl) rfl zl_1_219 rfl rfl (Or.inl ⟨by decide, rfl⟩) (Nat.le_of_ble_eq_true rfl) (by rw [zml_61]; simp [lg_sl, zrf_cat, zcat_i, zcat_l, zcat_r]; done) (f_61_ok hx19) (k_61 _ hx19) ?_
      refine zo_istore_n (p' := 37) (L' := [(0, zrf (some o)), (1, .int x18)]) (zi_60 rfl) rfl zm_60_1 ⟨Or.inr ⟨by decide, rfl, fun _ => zrf_cat _⟩, ⟨Or.inl ⟨rfl, rfl⟩, trivial⟩⟩ ?_
      refine zo_aload_n (p' := 38) (zi_60 rfl) rfl rfl ?_
      refine zo_iconst (p' := 39) (v := 0) (zi_60 rfl) rfl rfl ?_
      obtain ⟨M21, hx22, g56⟩ := zb_of g55
      refine zo_putI (p' := 42) (zi_60 rfl) rfl zl_1_36 (zpb_60 _) hx22 ?_
      refine zo_iload_n (p' := 43) (zi_60 rfl) rfl rfl ?_
      by_cases hc23 : x18 < 0
      · rw [if_pos hc23] at g56
        refine zo_ifT (p' := 51) (zi_60 rfl) rfl hc23 ?_
        refine zo_aload_n (p' := 52) (zi_60 rfl) rfl rfl ?_
        obtain ⟨r24, hx25, g57⟩ := zb_of g56
        refine zo_getR (p' := 55) (zi_60 rfl) rfl zl_1_14 hx25 ?_
        obtain ⟨q26, h0, g58⟩ := zb_of g57
        subst h0
        obtain ⟨r27, hx28, g59⟩ := zb_of g58
        refine zo_getR (p' := 58) (zi_60 rfl) rfl zl_1_100 hx28 ?_
        refine zo_aload_n (p' := 59) (zi_60 rfl) rfl rfl ?_
        obtain ⟨x29, hx30, g60⟩ := zb_of g59
        refine zo_getI (p' := 62) (zi_60 rfl) rfl zl_1_46 hx30 ?_
        obtain ⟨q31, h0, g61⟩ := zb_of g60
        subst h0
        obtain ⟨M32, hx33, g62⟩ := zb_of g61
        refine zo_putI (p' := 65) (zi_60 rfl) rfl zl_1_223 (zpb_60 _) hx33 ?_
        refine zo_aload_n (p' := 66) (zi_60 rfl) rfl rfl ?_
        refine zo_dup (p' := 67) (zi_60 rfl) rfl (zrf_cat _) ?_
        obtain ⟨x34, hx35, g63⟩ := zb_of g62
        refine zo_getI (p' := 70) (zi_60 rfl) rfl zl_1_46 hx35 ?_
        refine zo_iconst (p' := 71) (v := 1) (zi_60 rfl) rfl rfl ?_
        refine zo_iadd (p' := 72) (zi_60 rfl) rfl ?_
        obtain ⟨M36, hx37, g64⟩ := zb_of g63
        refine zo_putI (p' := 75) (zi_60 rfl) rfl zl_1_46 (zpb_60 _) hx37 ?_
        refine zo_aload_n (p' := 76) (zi_60 rfl) rfl rfl ?_
        obtain ⟨r38, hx39, g65⟩ := zb_of g64
        refine zo_getR (p' := 79) (zi_60 rfl) rfl zl_1_14 hx39 ?_
        obtain ⟨q40, h0, g66⟩ := zb_of g65
        subst h0
        obtain ⟨r41, hx42, g67⟩ := zb_of g66
        refine zo_getR (p' := 82) (zi_60 rfl) rfl zl_1_100 hx42 ?_
        obtain ⟨q43, h0, g68⟩ := zb_of g67
        subst h0
        obtain ⟨x44, hx45, g69⟩ := zb_of g68
        refine zo_getI (p' := 85) (zi_60 rfl) rfl zl_1_223 hx45 ?_
        have g70 := Option.some.inj g69
        subst g70
        exact zo_iret (zi_60 rfl) rfl ⟨rfl, rfl⟩
      · rw [if_neg hc23] at g56
        refine zo_ifF (p' := 46) (zi_60 rfl) rfl rfl hc23 ?_
        refine zo_bipush (p' := 48) (v := (-10)) (zi_60 rfl) rfl rfl ?_
        refine zo_iload_n (p' := 49) (zi_60 rfl) rfl rfl ?_
        refine zo_isub (p' := 50) (zi_60 rfl) rfl ?_
        have g71 := Option.some.inj g56
        subst g71
        exact zo_iret (zi_60 rfl) rfl ⟨rfl, rfl⟩
    · rw [if_neg hc3] at g46
      refine zo_icF (p' := 9) (zi_60 rfl) rfl rfl hc3 ?_
      refine zo_bipush (p' := 11) (v := (-4)) (zi_60 rfl) rfl rfl ?_
      have g72 := Option.some.inj g46
      subst g72
      exact zo_iret (zi_60 rfl) rfl ⟨rfl, rfl⟩
  · rw [if_neg hok] at h; cases h
/-- SlateHalves.bestIn(LSlateHalves$Yard;LSlateHalves$Block;)I -/
def f_90 (M : ZMem) (o : Nat) (a0 : Option Nat) (a1 : Option Nat) : Option (Int32 × ZMem) := if zok M 11 o = true then (zb (zgr M 11 11 o) fun r1 => zb a0 fun q3 => zb (zgi M 10 3 q3) fun x4 => zb (f_20 M o) fun r6 => zb r1 fun q8 => zb (f_28 M q8 a1 x4 r6) fun M11 => zb (zgr M11 11 11 o) fun r12 => zb a1 fun q14 => zb (zgi M11 1 3 q14) fun x15 => zb r12 fun q17 => zbd (f_34 M11 q17 x15) fun x18 M20 => some (x18, M20)) else none
theorem f_90_ok {M : ZMem} {o : Nat} {a0 : Option Nat} {a1 : Option Nat} {out : Int32 × ZMem} (h : f_90 M o a0 a1 = some out) : zok M 11 o = true := by
  unfold f_90 at h
  by_cases hok : zok M 11 o = true
  · exact hok
  · rw [if_neg hok] at h; cases h
set_option maxRecDepth 20000 in
theorem k_90 (d : Nat) {M : ZMem} {o : Nat} {a0 : Option Nat} {a1 : Option Nat} {out : Int32 × ZMem} (h : f_90 M o a0 a1 = some out) : zrn (d + 4) 90 [zrf (some o), zrf a0, zrf a1] M (some (.int out.1), out.2) := by
  unfold f_90 at h
  by_cases hok : zok M 11 o = true
  · rw [if_pos hok] at h
    refine zrn_of (L := [(0, zrf (some o)), (1, zrf a0), (2, zrf a1)]) (by simp [lv_args, zrf_cat, zcat_i, zcat_l, zcat_r]) ?_
    refine zo_aload_n (p' := 1) (zi_90 rfl) rfl rfl ?_
    obtain ⟨r1, hx2, g21⟩ := zb_of h
    refine zo_getR (p' := 4) (zi_90 rfl) rfl zl_1_71 hx2 ?_
    refine zo_aload_n (p' := 5) (zi_90 rfl) rfl rfl ?_
    refine zo_aload_n (p' := 6) (zi_90 rfl) rfl rfl ?_
    obtain ⟨q3, h0, g22⟩ := zb_of g21
    subst h0
    obtain ⟨x4, hx5, g23⟩ := zb_of g22
    refine zo_getI (p' := 9) (zi_90 rfl) rfl zl_1_139 hx5 ?_
    refine zo_aload_n (p' := 10) (zi_90 rfl) rfl rfl ?_
    obtain ⟨r6, hx7, g24⟩ := zb_of g23
    refine zo_callVa (p' := 13) (t := 11) (as := []) (r := [.int x4, zrf a1, zrf r1]) (zi_90 rfl) rfl zl_1_135 rfl rfl (Or.inl ⟨by decide, rfl⟩) (by simp [zrf_cat, zcat_i, zcat_l, zcat_r]) (Nat.le_of_ble_eq_true rfl) (f_20_ok hx7) (k_20 _ hx7) ?_
    obtain ⟨q8, h0, g25⟩ := zb_of g24
    subst h0
    obtain ⟨M11, hx10, g26⟩ := zb_of g25
    refine zo_callVv (p' := 16) (t := 9) (as := [zrf a1, .int x4, zrf r6]) (r := []) (zi_90 rfl) rfl zl_1_159 rfl rfl (Or.inl ⟨by decide, rfl⟩) (Nat.le_of_ble_eq_true rfl) (by rw [zml_28]; simp [lg_sl, zrf_cat, zcat_i, zcat_l, zcat_r]; done) (f_28_ok hx10) (k_28 _ hx10) ?_
    refine zo_aload_n (p' := 17) (zi_90 rfl) rfl rfl ?_
    obtain ⟨r12, hx13, g27⟩ := zb_of g26
    refine zo_getR (p' := 20) (zi_90 rfl) rfl zl_1_71 hx13 ?_
    refine zo_aload_n (p' := 21) (zi_90 rfl) rfl rfl ?_
    obtain ⟨q14, h0, g28⟩ := zb_of g27
    subst h0
    obtain ⟨x15, hx16, g29⟩ := zb_of g28
    refine zo_getI (p' := 24) (zi_90 rfl) rfl zl_1_126 hx16 ?_
    obtain ⟨q17, h0, g30⟩ := zb_of g29
    subst h0
    obtain ⟨x18, M20, hx19, g31⟩ := zbd_of g30
    refine zo_callVi (p' := 27) (t := 9) (as := [.int x15]) (r := []) (zi_90 rfl) rfl zl_1_167 rfl rfl (Or.inl ⟨by decide, rfl⟩) (Nat.le_of_ble_eq_true rfl) (Nat.le_of_ble_eq_true rfl) (f_34_ok hx19) (k_34 _ hx19) ?_
    have g32 := Option.some.inj g31
    subst g32
    exact zo_iret (zi_90 rfl) rfl ⟨rfl, rfl⟩
  · rw [if_neg hok] at h; cases h
/-- SlateHalves.bestOfAll(LSlateHalves$Yard;)I -/
def f_89_4 : Nat → ZMem → Nat → Option Nat → Int32 → Int32 → Option (Int32 × ZMem)
  | 0, _, _, _, _, _ => none
  | z + 1, M, o, b1, b2, b3 => zb b1 fun q1 => zb (zgi M 10 1 q1) fun x2 => if x2 ≤ b3 then (some (b2, M)) else (zb (zgr M 10 0 q1) fun r5 => zb r5 fun q7 => zb (zlaR M q7 b3) fun r8 => zbd (f_90 M o (some q1) r8) fun x10 M12 => f_89_4 z M12 o (some q1) ((b2 + x10)) ((b3 + 1)))
set_option maxRecDepth 20000 in
theorem k_89_4 (d : Nat) : ∀ (z : Nat) (M : ZMem) (o : Nat) (b1 : Option Nat) (b2 : Int32) (b3 : Int32) (out : Int32 × ZMem), f_89_4 z M o b1 b2 b3 = some out → zgo none (d + 5) 89 4 [(0, zrf (some o)), (1, zrf b1), (2, .int b2), (3, .int b3)] [] M (some (.int out.1), out.2) := by
  intro z
  induction z with
  | zero => intro M o b1 b2 b3 out h; cases h
  | succ z ih =>
    intro M o b1 b2 b3 out h
    rw [f_89_4] at h
    refine zo_iload_n (p' := 5) (zi_89 rfl) rfl rfl ?_
    refine zo_aload_n (p' := 6) (zi_89 rfl) rfl rfl ?_
    obtain ⟨q1, h0, g13⟩ := zb_of h
    subst h0
    obtain ⟨x2, hx3, g14⟩ := zb_of g13
    refine zo_getI (p' := 9) (zi_89 rfl) rfl zl_1_261 hx3 ?_
    by_cases hc4 : x2 ≤ b3
    · rw [if_pos hc4] at g14
      refine zo_icT (p' := 32) (zi_89 rfl) rfl hc4 ?_
      refine zo_iload_n (p' := 33) (zi_89 rfl) rfl rfl ?_
      have g15 := Option.some.inj g14
      subst g15
      exact zo_iret (zi_89 rfl) rfl ⟨rfl, rfl⟩
    · rw [if_neg hc4] at g14
      refine zo_icF (p' := 12) (zi_89 rfl) rfl rfl hc4 ?_
      refine zo_iload_n (p' := 13) (zi_89 rfl) rfl rfl ?_
      refine zo_aload_n (p' := 14) (zi_89 rfl) rfl rfl ?_
      refine zo_aload_n (p' := 15) (zi_89 rfl) rfl rfl ?_
      refine zo_aload_n (p' := 16) (zi_89 rfl) rfl rfl ?_
      obtain ⟨r5, hx6, g16⟩ := zb_of g14
      refine zo_getR (p' := 19) (zi_89 rfl) rfl zl_1_264 hx6 ?_
      refine zo_iload_n (p' := 20) (zi_89 rfl) rfl rfl ?_
      obtain ⟨q7, h0, g17⟩ := zb_of g16
      subst h0
      obtain ⟨r8, hx9, g18⟩ := zb_of g17
      refine zo_aald (p' := 21) (zi_89 rfl) rfl hx9 ?_
      obtain ⟨x10, M12, hx11, g19⟩ := zbd_of g18
      refine zo_callVi (p' := 24) (t := 11) (as := [zrf (some q1), zrf r8]) (r := [.int b2]) (zi_89 rfl) rfl zl_1_245 rfl rfl (Or.inl ⟨by decide, rfl⟩) (Nat.le_of_ble_eq_true rfl) (by rw [zml_90]; simp [lg_sl, zrf_cat, zcat_i, zcat_l, zcat_r]; done) (f_90_ok hx11) (k_90 _ hx11) ?_
      refine zo_iadd (p' := 25) (zi_89 rfl) rfl ?_
      refine zo_istore_n (p' := 26) (L' := [(0, zrf (some o)), (1, zrf (some q1)), (2, .int ((b2 + x10))), (3, .int b3)]) (zi_89 rfl) rfl zm_89_2 ⟨Or.inr ⟨by decide, rfl, fun q => absurd q (by decide)⟩, ⟨Or.inr ⟨by decide, rfl, fun _ => zrf_cat _⟩, ⟨Or.inl ⟨rfl, rfl⟩, ⟨Or.inr ⟨by decide, rfl, fun q => absurd q (by decide)⟩, trivial⟩⟩⟩⟩ ?_
      refine zo_iinc (p' := 29) (v := (b3 + 1)) (L' := [(0, zrf (some o)), (1, zrf (some q1)), (2, .int ((b2 + x10))), (3, .int ((b3 + 1)))]) (zi_89 rfl) rfl zm_89_3 rfl rfl ⟨Or.inr ⟨by decide, rfl, fun q => absurd q (by decide)⟩, ⟨Or.inr ⟨by decide, rfl, fun q => absurd q (by decide)⟩, ⟨Or.inr ⟨by decide, rfl, fun _ => rfl⟩, ⟨Or.inl ⟨rfl, rfl⟩, trivial⟩⟩⟩⟩ ?_
      refine zo_goto (p' := 4) (zi_89 rfl) rfl ?_
      refine zgo_sub (L' := [(0, zrf (some o)), (1, zrf ((some q1))), (2, .int (((b2 + x10)))), (3, .int (((b3 + 1))))]) (⟨rfl, rfl, rfl, rfl, trivial⟩) ?_
      exact ih M12 o (some q1) ((b2 + x10)) ((b3 + 1)) _ g19
def f_89 (M : ZMem) (o : Nat) (a0 : Option Nat) : Option (Int32 × ZMem) := if zok M 11 o = true then (f_89_4 zF M o a0 0 0) else none
theorem f_89_ok {M : ZMem} {o : Nat} {a0 : Option Nat} {out : Int32 × ZMem} (h : f_89 M o a0 = some out) : zok M 11 o = true := by
  unfold f_89 at h
  by_cases hok : zok M 11 o = true
  · exact hok
  · rw [if_neg hok] at h; cases h
set_option maxRecDepth 20000 in
theorem k_89 (d : Nat) {M : ZMem} {o : Nat} {a0 : Option Nat} {out : Int32 × ZMem} (h : f_89 M o a0 = some out) : zrn (d + 5) 89 [zrf (some o), zrf a0] M (some (.int out.1), out.2) := by
  unfold f_89 at h
  by_cases hok : zok M 11 o = true
  · rw [if_pos hok] at h
    refine zrn_of (L := [(0, zrf (some o)), (1, zrf a0)]) (by simp [lv_args, zrf_cat, zcat_i, zcat_l, zcat_r]) ?_
    refine zo_iconst (p' := 1) (v := 0) (zi_89 rfl) rfl rfl ?_
    refine zo_istore_n (p' := 2) (L' := [(0, zrf (some o)), (1, zrf a0), (2, .int 0)]) (zi_89 rfl) rfl zm_89_2 ⟨Or.inr ⟨by decide, rfl, fun q => absurd q (by decide)⟩, ⟨Or.inr ⟨by decide, rfl, fun _ => zrf_cat _⟩, ⟨Or.inl ⟨rfl, rfl⟩, trivial⟩⟩⟩ ?_
    refine zo_iconst (p' := 3) (v := 0) (zi_89 rfl) rfl rfl ?_
    refine zo_istore_n (p' := 4) (L' := [(0, zrf (some o)), (1, zrf a0), (2, .int 0), (3, .int 0)]) (zi_89 rfl) rfl zm_89_3 ⟨Or.inr ⟨by decide, rfl, fun q => absurd q (by decide)⟩, ⟨Or.inr ⟨by decide, rfl, fun q => absurd q (by decide)⟩, ⟨Or.inr ⟨by decide, rfl, fun _ => rfl⟩, ⟨Or.inl ⟨rfl, rfl⟩, trivial⟩⟩⟩⟩ ?_
    refine zgo_sub (L' := [(0, zrf (some o)), (1, zrf a0), (2, .int 0), (3, .int 0)]) (⟨rfl, rfl, rfl, rfl, trivial⟩) ?_
    exact k_89_4 _ zF M o a0 0 0 _ h
  · rw [if_neg hok] at h; cases h
/-- SlateHalves.told(I)I -/
def f_88 (M : ZMem) (o : Nat) (a0 : Int32) : Option (Int32 × ZMem) := if zok M 11 o = true then (if a0 = 0 then (zb (zgr M 11 0 o) fun r7 => zb r7 fun q9 => zb (zgr M 7 0 q9) fun r10 => zb r10 fun q12 => zb (zgi M 10 3 q12) fun x13 => some (x13, M)) else (if a0 = 1 then (zb (f_20 M o) fun r15 => zb r15 fun q17 => zb (f_31 M q17) fun x18 => some (x18, M)) else (if a0 = 2 then (zb (f_20 M o) fun r20 => zb r20 fun q22 => zb (f_32 M q22) fun x23 => some (x23, M)) else (if a0 = 3 then (zb (f_20 M o) fun r25 => zb r25 fun q27 => zb (zgi M 3 4 q27) fun x28 => some (x28, M)) else (if a0 = 4 then (zb (zgr M 11 0 o) fun r30 => zb r30 fun q32 => zb (zgr M 7 0 q32) fun r33 => zb r33 fun q35 => zb (zgi M 10 2 q35) fun x36 => some (x36, M)) else (if a0 = 5 then (zb (zgr M 11 0 o) fun r38 => zb r38 fun q40 => zb (zgr M 7 0 q40) fun r41 => zbd (f_89 M o r41) fun x43 M45 => some (x43, M45)) else (some ((-1), M)))))))) else none
theorem f_88_ok {M : ZMem} {o : Nat} {a0 : Int32} {out : Int32 × ZMem} (h : f_88 M o a0 = some out) : zok M 11 o = true := by
  unfold f_88 at h
  by_cases hok : zok M 11 o = true
  · exact hok
  · rw [if_neg hok] at h; cases h
set_option maxRecDepth 20000 in
theorem k_88 (d : Nat) {M : ZMem} {o : Nat} {a0 : Int32} {out : Int32 × ZMem} (h : f_88 M o a0 = some out) : zrn (d + 6) 88 [zrf (some o), .int a0] M (some (.int out.1), out.2) := by
  unfold f_88 at h
  by_cases hok : zok M 11 o = true
  · rw [if_pos hok] at h
    refine zrn_of (L := [(0, zrf (some o)), (1, .int a0)]) rfl ?_
    refine zo_iload_n (p' := 1) (zi_88 rfl) rfl rfl ?_
    by_cases hc1 : a0 = 0
    · rw [if_pos hc1] at h
      refine zo_table (p' := 40) (n := 39) (zi_88 rfl) (by decide) (zsel_hit hc1 (by decide)) rfl ?_
      refine zo_aload_n (p' := 41) (zi_88 rfl) rfl rfl ?_
      obtain ⟨r7, hx8, g46⟩ := zb_of h
      refine zo_getR (p' := 44) (zi_88 rfl) rfl zl_1_14 hx8 ?_
      obtain ⟨q9, h0, g47⟩ := zb_of g46
      subst h0
      obtain ⟨r10, hx11, g48⟩ := zb_of g47
      refine zo_getR (p' := 47) (zi_88 rfl) rfl zl_1_100 hx11 ?_
      obtain ⟨q12, h0, g49⟩ := zb_of g48
      subst h0
      obtain ⟨x13, hx14, g50⟩ := zb_of g49
      refine zo_getI (p' := 50) (zi_88 rfl) rfl zl_1_139 hx14 ?_
      have g51 := Option.some.inj g50
      subst g51
      exact zo_iret (zi_88 rfl) rfl ⟨rfl, rfl⟩
    · rw [if_neg hc1] at h
      by_cases hc2 : a0 = 1
      · rw [if_pos hc2] at h
        refine zo_table (p' := 51) (n := 50) (zi_88 rfl) (by decide) (zsel_skip hc1 (by decide) (zsel_hit hc2 (by decide))) rfl ?_
        refine zo_aload_n (p' := 52) (zi_88 rfl) rfl rfl ?_
        obtain ⟨r15, hx16, g52⟩ := zb_of h
        refine zo_callVa (p' := 55) (t := 11) (as := []) (r := []) (zi_88 rfl) rfl zl_1_135 rfl rfl (Or.inl ⟨by decide, rfl⟩) (Nat.le_of_ble_eq_true rfl) (Nat.le_of_ble_eq_true rfl) (f_20_ok hx16) (k_20 _ hx16) ?_
        obtain ⟨q17, h0, g53⟩ := zb_of g52
        subst h0
        obtain ⟨x18, hx19, g54⟩ := zb_of g53
        refine zo_callVi (p' := 58) (t := 3) (as := []) (r := []) (zi_88 rfl) rfl zl_1_226 rfl rfl (Or.inl ⟨by decide, rfl⟩) (Nat.le_of_ble_eq_true rfl) (Nat.le_of_ble_eq_true rfl) (f_31_ok hx19) (k_31 _ hx19) ?_
        have g55 := Option.some.inj g54
        subst g55
        exact zo_iret (zi_88 rfl) rfl ⟨rfl, rfl⟩
      · rw [if_neg hc2] at h
        by_cases hc3 : a0 = 2
        · rw [if_pos hc3] at h
          refine zo_table (p' := 59) (n := 58) (zi_88 rfl) (by decide) (zsel_skip hc1 (by decide) (zsel_skip hc2 (by decide) (zsel_hit hc3 (by decide)))) rfl ?_
          refine zo_aload_n (p' := 60) (zi_88 rfl) rfl rfl ?_
          obtain ⟨r20, hx21, g56⟩ := zb_of h
          refine zo_callVa (p' := 63) (t := 11) (as := []) (r := []) (zi_88 rfl) rfl zl_1_135 rfl rfl (Or.inl ⟨by decide, rfl⟩) (Nat.le_of_ble_eq_true rfl) (Nat.le_of_ble_eq_true rfl) (f_20_ok hx21) (k_20 _ hx21) ?_
          obtain ⟨q22, h0, g57⟩ := zb_of g56
          subst h0
          obtain ⟨x23, hx24, g58⟩ := zb_of g57
          refine zo_callVi (p' := 66) (t := 3) (as := []) (r := []) (zi_88 rfl) rfl zl_1_230 rfl rfl (Or.inl ⟨by decide, rfl⟩) (Nat.le_of_ble_eq_true rfl) (Nat.le_of_ble_eq_true rfl) (f_32_ok hx24) (k_32 _ hx24) ?_
          have g59 := Option.some.inj g58
          subst g59
          exact zo_iret (zi_88 rfl) rfl ⟨rfl, rfl⟩
        · rw [if_neg hc3] at h
          by_cases hc4 : a0 = 3
          · rw [if_pos hc4] at h
            refine zo_table (p' := 67) (n := 66) (zi_88 rfl) (by decide) (zsel_skip hc1 (by decide) (zsel_skip hc2 (by decide) (zsel_skip hc3 (by decide) (zsel_hit hc4 (by decide))))) rfl ?_
            refine zo_aload_n (p' := 68) (zi_88 rfl) rfl rfl ?_
            obtain ⟨r25, hx26, g60⟩ := zb_of h
            refine zo_callVa (p' := 71) (t := 11) (as := []) (r := []) (zi_88 rfl) rfl zl_1_135 rfl rfl (Or.inl ⟨by decide, rfl⟩) (Nat.le_of_ble_eq_true rfl) (Nat.le_of_ble_eq_true rfl) (f_20_ok hx26) (k_20 _ hx26) ?_
            obtain ⟨q27, h0, g61⟩ := zb_of g60
            subst h0
            obtain ⟨x28, hx29, g62⟩ := zb_of g61
            refine zo_getI (p' := 74) (zi_88 rfl) rfl zl_1_150 hx29 ?_
            have g63 := Option.some.inj g62
            subst g63
            exact zo_iret (zi_88 rfl) rfl ⟨rfl, rfl⟩
          · rw [if_neg hc4] at h
            by_cases hc5 : a0 = 4
            · rw [if_pos hc5] at h
              refine zo_table (p' := 75) (n := 74) (zi_88 rfl) (by decide) (zsel_skip hc1 (by decide) (zsel_skip hc2 (by decide) (zsel_skip hc3 (by decide) (zsel_skip hc4 (by decide) (zsel_hit hc5 (by decide)))))) rfl ?_
              refine zo_aload_n (p' := 76) (zi_88 rfl) rfl rfl ?_
              obtain ⟨r30, hx31, g64⟩ := zb_of h
              refine zo_getR (p' := 79) (zi_88 rfl) rfl zl_1_14 hx31 ?_
              obtain ⟨q32, h0, g65⟩ := zb_of g64
              subst h0
              obtain ⟨r33, hx34, g66⟩ := zb_of g65
              refine zo_getR (p' := 82) (zi_88 rfl) rfl zl_1_100 hx34 ?_
              obtain ⟨q35, h0, g67⟩ := zb_of g66
              subst h0
              obtain ⟨x36, hx37, g68⟩ := zb_of g67
              refine zo_getI (p' := 85) (zi_88 rfl) rfl zl_1_213 hx37 ?_
              have g69 := Option.some.inj g68
              subst g69
              exact zo_iret (zi_88 rfl) rfl ⟨rfl, rfl⟩
            · rw [if_neg hc5] at h
              by_cases hc6 : a0 = 5
              · rw [if_pos hc6] at h
                refine zo_table (p' := 86) (n := 85) (zi_88 rfl) (by decide) (zsel_skip hc1 (by decide) (zsel_skip hc2 (by decide) (zsel_skip hc3 (by decide) (zsel_skip hc4 (by decide) (zsel_skip hc5 (by decide) (zsel_hit hc6 (by decide))))))) rfl ?_
                refine zo_aload_n (p' := 87) (zi_88 rfl) rfl rfl ?_
                refine zo_aload_n (p' := 88) (zi_88 rfl) rfl rfl ?_
                obtain ⟨r38, hx39, g70⟩ := zb_of h
                refine zo_getR (p' := 91) (zi_88 rfl) rfl zl_1_14 hx39 ?_
                obtain ⟨q40, h0, g71⟩ := zb_of g70
                subst h0
                obtain ⟨r41, hx42, g72⟩ := zb_of g71
                refine zo_getR (p' := 94) (zi_88 rfl) rfl zl_1_100 hx42 ?_
                obtain ⟨x43, M45, hx44, g73⟩ := zbd_of g72
                refine zo_callVi (p' := 97) (t := 11) (as := [zrf r41]) (r := []) (zi_88 rfl) rfl zl_1_233 rfl rfl (Or.inl ⟨by decide, rfl⟩) (Nat.le_of_ble_eq_true rfl) (by rw [zml_89]; simp [lg_sl, zrf_cat, zcat_i, zcat_l, zcat_r]; done) (f_89_ok hx44) (k_89 _ hx44) ?_
                have g74 := Option.some.inj g73
                subst g74
                exact zo_iret (zi_88 rfl) rfl ⟨rfl, rfl⟩
              · rw [if_neg hc6] at h
                refine zo_table (p' := 98) (n := 97) (zi_88 rfl) (by decide) (zsel_skip hc1 (by decide) (zsel_skip hc2 (by decide) (zsel_skip hc3 (by decide) (zsel_skip hc4 (by decide) (zsel_skip hc5 (by decide) (zsel_skip hc6 (by decide) (rfl))))))) rfl ?_
                refine zo_iconst (p' := 99) (v := (-1)) (zi_88 rfl) rfl rfl ?_
                have g75 := Option.some.inj h
                subst g75
                exact zo_iret (zi_88 rfl) rfl ⟨rfl, rfl⟩
  · rw [if_neg hok] at h; cases h
/-- SlateHalves$Yard.goDays(II)V -/
def f_92_50 (r2 : ZMem → Nat → Int32 → Int32 → Int32 → Option (ZMem)) (M : ZMem) (o : Nat) (b1 : Int32) (b2 : Int32) (b3 : Int32) : Option (ZMem) := r2 M o b1 b2 ((b3 + 1))
def f_92_2 : Nat → ZMem → Nat → Int32 → Int32 → Int32 → Option (ZMem)
  | 0, _, _, _, _, _ => none
  | z + 1, M, o, b1, b2, b3 => zb (zgi M 10 1 o) fun x1 => if x1 ≤ b3 then (zb (zgi M 10 3 o) fun x4 => zb (zpf M 10 3 o (.int ((x4 + b1))) false) fun M6 => some M6) else (zb (zgr M 10 0 o) fun r8 => zb r8 fun q10 => zb (zlaR M q10 b3) fun r11 => zb r11 fun q13 => zb (f_57 M q13) fun x14 => if ¬ x14 = 0 then (f_92_50 (fun M a0 a1 a2 a3 => f_92_2 z M a0 a1 a2 a3) M o b1 b2 b3) else (zb (zgi M 1 4 q13) fun x17 => zb (f_26 M (some q13) b2) fun x19 => zb (f_37 M 99 ((x17 + (b1 * x19)))) fun x21 => zb (zpf M 1 4 q13 (.int x21) false) fun M23 => f_92_50 (fun M a0 a1 a2 a3 => f_92_2 z M a0 a1 a2 a3) M23 o b1 b2 b3))
set_option maxRecDepth 20000 in
theorem k_92_50 (d : Nat) (r2 : ZMem → Nat → Int32 → Int32 → Int32 → Option (ZMem)) (h2 : ∀ (M : ZMem) (a0 : Nat) (a1 : Int32) (a2 : Int32) (a3 : Int32) (out : ZMem), r2 M a0 a1 a2 a3 = some out → zgo none (d + 1) 92 2 [(0, zrf (some a0)), (1, .int a1), (2, .int a2), (3, .int a3)] [] M (none, out)) : ∀ (M : ZMem) (o : Nat) (b1 : Int32) (b2 : Int32) (b3 : Int32) (out : ZMem), f_92_50 r2 M o b1 b2 b3 = some out → zgo none (d + 1) 92 50 [(0, zrf (some o)), (1, .int b1), (2, .int b2), (3, .int b3)] [] M (none, out) := by
  intro M o b1 b2 b3 out h
  unfold f_92_50 at h
  refine zo_iinc (p' := 53) (v := (b3 + 1)) (L' := [(0, zrf (some o)), (1, .int b1), (2, .int b2), (3, .int ((b3 + 1)))]) (zi_92 rfl) rfl zm_92_3 rfl rfl ⟨Or.inr ⟨by decide, rfl, fun q => absurd q (by decide)⟩, ⟨Or.inr ⟨by decide, rfl, fun q => absurd q (by decide)⟩, ⟨Or.inr ⟨by decide, rfl, fun _ => rfl⟩, ⟨Or.inl ⟨rfl, rfl⟩, trivial⟩⟩⟩⟩ ?_
  refine zo_goto (p' := 2) (zi_92 rfl) rfl ?_
  refine zgo_sub (L' := [(0, zrf (some o)), (1, .int b1), (2, .int b2), (3, .int (((b3 + 1))))]) (⟨rfl, rfl, rfl, rfl, trivial⟩) ?_
  exact h2 M o b1 b2 ((b3 + 1)) _ h
set_option maxRecDepth 20000 in
theorem k_92_2 (d : Nat) : ∀ (z : Nat) (M : ZMem) (o : Nat) (b1 : Int32) (b2 : Int32) (b3 : Int32) (out : ZMem), f_92_2 z M o b1 b2 b3 = some out → zgo none (d + 1) 92 2 [(0, zrf (some o)), (1, .int b1), (2, .int b2), (3, .int b3)] [] M (none, out) := by
  intro z
  induction z with
  | zero => intro M o b1 b2 b3 out h; cases h
  | succ z ih =>
    intro M o b1 b2 b3 out h
    rw [f_92_2] at h
    refine zo_iload_n (p' := 3) (zi_92 rfl) rfl rfl ?_
    refine zo_aload_n (p' := 4) (zi_92 rfl) rfl rfl ?_
    obtain ⟨x1, hx2, g25⟩ := zb_of h
    refine zo_getI (p' := 7) (zi_92 rfl) rfl zl_3_17 hx2 ?_
    by_cases hc3 : x1 ≤ b3
    · rw [if_pos hc3] at g25
      refine zo_icT (p' := 56) (zi_92 rfl) rfl hc3 ?_
      refine zo_aload_n (p' := 57) (zi_92 rfl) rfl rfl ?_
      refine zo_dup (p' := 58) (zi_92 rfl) rfl (zrf_cat _) ?_
      obtain ⟨x4, hx5, g26⟩ := zb_of g25
      refine zo_getI (p' := 61) (zi_92 rfl) rfl zl_3_24 hx5 ?_
      refine zo_iload_n (p' := 62) (zi_92 rfl) rfl rfl ?_
      refine zo_iadd (p' := 63) (zi_92 rfl) rfl ?_
      obtain ⟨M6, hx7, g27⟩ := zb_of g26
      refine zo_putI (p' := 66) (zi_92 rfl) rfl zl_3_24 (zpb_92 _) hx7 ?_
      have g28 := Option.some.inj g27
      subst g28
      exact zo_vret (zi_92 rfl) rfl
    · rw [if_neg hc3] at g25
      refine zo_icF (p' := 10) (zi_92 rfl) rfl rfl hc3 ?_
      refine zo_aload_n (p' := 11) (zi_92 rfl) rfl rfl ?_
      obtain ⟨r8, hx9, g29⟩ := zb_of g25
      refine zo_getR (p' := 14) (zi_92 rfl) rfl zl_3_11 hx9 ?_
      refine zo_iload_n (p' := 15) (zi_92 rfl) rfl rfl ?_
      obtain ⟨q10, h0, g30⟩ := zb_of g29
      subst h0
      obtain ⟨r11, hx12, g31⟩ := zb_of g30
      refine zo_aald (p' := 16) (zi_92 rfl) rfl hx12 ?_
      refine zo_astore (p' := 18) (L' := [(0, zrf (some o)), (1, .int b1), (2, .int b2), (3, .int b3), (4, zrf r11)]) (zi_92 rfl) rfl zm_92_4 ⟨Or.inr ⟨by decide, rfl, fun q => absurd q (by decide)⟩, ⟨Or.inr ⟨by decide, rfl, fun q => absurd q (by decide)⟩, ⟨Or.inr ⟨by decide, rfl, fun q => absurd q (by decide)⟩, ⟨Or.inr ⟨by decide, rfl, fun _ => rfl⟩, ⟨Or.inl ⟨rfl, rfl⟩, trivial⟩⟩⟩⟩⟩ ?_
      refine zo_aload (p' := 20) (zi_92 rfl) rfl rfl ?_
      obtain ⟨q13, h0, g32⟩ := zb_of g31
      subst h0
      obtain ⟨x14, hx15, g33⟩ := zb_of g32
      refine zo_callVi (p' := 23) (t := 1) (as := []) (r := []) (zi_92 rfl) rfl zl_3_37 rfl rfl (Or.inl ⟨by decide, rfl⟩) (Nat.le_of_ble_eq_true rfl) (Nat.le_of_ble_eq_true rfl) (f_57_ok hx15) (k_57 _ hx15) ?_
      by_cases hc16 : ¬ x14 = 0
      · rw [if_pos hc16] at g33
        refine zo_ifT (p' := 50) (zi_92 rfl) rfl hc16 ?_
        refine zgo_sub (L' := [(0, zrf (some o)), (1, .int b1), (2, .int b2), (3, .int b3)]) (⟨rfl, rfl, rfl, rfl, trivial⟩) ?_
        exact k_92_50 _ _ (fun M a0 a1 a2 a3 out h => ih M a0 a1 a2 a3 out h) M o b1 b2 b3 _ g33
      · rw [if_neg hc16] at g33
        refine zo_ifF (p' := 26) (zi_92 rfl) rfl rfl hc16 ?_
        refine zo_aload (p' := 28) (zi_92 rfl) rfl rfl ?_
        refine zo_bipush (p' := 30) (v := 99) (zi_92 rfl) rfl rfl ?_
        refine zo_aload (p' := 32) (zi_92 rfl) rfl rfl ?_
        obtain ⟨x17, hx18, g34⟩ := zb_of g33
        refine zo_getI (p' := 35) (zi_92 rfl) rfl zl_3_41 hx18 ?_
        refine zo_iload_n (p' := 36) (zi_92 rfl) rfl rfl ?_
        refine zo_aload (p' := 38) (zi_92 rfl) rfl rfl ?_
        refine zo_iload_n (p' := 39) (zi_92 rfl) rfl rfl ?_
        obtain ⟨x19, hx20, g35⟩ := zb_of g34
        refine zo_callSi (p' := 42) (as := [zrf (some q13), .int b2]) (r := [.int b1, .int x17, .int 99, zrf (some q13)]) (zi_92 rfl) rfl (Or.inr zl_3_44) rfl rfl (Nat.le_of_ble_eq_true rfl) (Nat.le_of_ble_eq_true rfl) (k_26 _ hx20) ?_
        refine zo_imul (p' := 43) (zi_92 rfl) rfl ?_
        refine zo_iadd (p' := 44) (zi_92 rfl) rfl ?_
        obtain ⟨x21, hx22, g36⟩ := zb_of g35
        refine zo_callSi (p' := 47) (as := [.int 99, .int ((x17 + (b1 * x19)))]) (r := [zrf (some q13)]) (zi_92 rfl) rfl (Or.inl zl_3_48) rfl rfl (Nat.le_of_ble_eq_true rfl) (Nat.le_of_ble_eq_true rfl) (k_37 _ hx22) ?_
        obtain ⟨M23, hx24, g37⟩ := zb_of g36
        refine zo_putI (p' := 50) (zi_92 rfl) rfl zl_3_41 (zpb_92 _) hx24 ?_
        refine zgo_sub (L' := [(0, zrf (some o)), (1, .int b1), (2, .int b2), (3, .int b3)]) (⟨rfl, rfl, rfl, rfl, trivial⟩) ?_
        exact k_92_50 _ _ (fun M a0 a1 a2 a3 out h => ih M a0 a1 a2 a3 out h) M23 o b1 b2 b3 _ g37
def f_92 (M : ZMem) (o : Nat) (a0 : Int32) (a1 : Int32) : Option (ZMem) := if zok M 10 o = true then (f_92_2 zF M o a0 a1 0) else none
theorem f_92_ok {M : ZMem} {o : Nat} {a0 : Int32} {a1 : Int32} {out : ZMem} (h : f_92 M o a0 a1 = some out) : zok M 10 o = true := by
  unfold f_92 at h
  by_cases hok : zok M 10 o = true
  · exact hok
  · rw [if_neg hok] at h; cases h
set_option maxRecDepth 20000 in
theorem k_92 (d : Nat) {M : ZMem} {o : Nat} {a0 : Int32} {a1 : Int32} {out : ZMem} (h : f_92 M o a0 a1 = some out) : zrn (d + 1) 92 [zrf (some o), .int a0, .int a1] M (none, out) := by
  unfold f_92 at h
  by_cases hok : zok M 10 o = true
  · rw [if_pos hok] at h
    refine zrn_of (L := [(0, zrf (some o)), (1, .int a0), (2, .int a1)]) rfl ?_
    refine zo_iconst (p' := 1) (v := 0) (zi_92 rfl) rfl rfl ?_
    refine zo_istore_n (p' := 2) (L' := [(0, zrf (some o)), (1, .int a0), (2, .int a1), (3, .int 0)]) (zi_92 rfl) rfl zm_92_3 ⟨Or.inr ⟨by decide, rfl, fun q => absurd q (by decide)⟩, ⟨Or.inr ⟨by decide, rfl, fun q => absurd q (by decide)⟩, ⟨Or.inr ⟨by decide, rfl, fun _ => rfl⟩, ⟨Or.inl ⟨rfl, rfl⟩, trivial⟩⟩⟩⟩ ?_
    refine zgo_sub (L' := [(0, zrf (some o)), (1, .int a0), (2, .int a1), (3, .int 0)]) (⟨rfl, rfl, rfl, rfl, trivial⟩) ?_
    exact k_92_2 _ zF M o a0 a1 0 _ h
  · rw [if_neg hok] at h; cases h
/-- SlateHalves.pass(I)I -/
def f_91 (M : ZMem) (o : Nat) (a0 : Int32) : Option (Int32 × ZMem) := if zok M 11 o = true then (zb (f_14 M a0 0 60) fun x1 => if ¬ x1 = 0 then (zb (zgr M 11 0 o) fun r4 => zb r4 fun q6 => zb (zgr M 7 0 q6) fun r7 => zb r7 fun q9 => zb (zgi M 10 3 q9) fun x10 => if (x10 + a0) ≤ 9999 then (zb (zgr M 11 0 o) fun r13 => zb r13 fun q15 => zb (zgr M 7 0 q15) fun r16 => zb (f_20 M o) fun r18 => zb r18 fun q20 => zb (zgi M 3 4 q20) fun x21 => zb r16 fun q23 => zb (f_92 M q23 a0 x21) fun M26 => zb (zgr M26 11 0 o) fun r27 => zb r27 fun q29 => zb (zgr M26 7 0 q29) fun r30 => zb r30 fun q32 => zb (zgi M26 10 3 q32) fun x33 => some (x33, M26)) else (some ((-3), M))) else (some ((-2), M))) else none
theorem f_91_ok {M : ZMem} {o : Nat} {a0 : Int32} {out : Int32 × ZMem} (h : f_91 M o a0 = some out) : zok M 11 o = true := by
  unfold f_91 at h
  by_cases hok : zok M 11 o = true
  · exact hok
  · rw [if_neg hok] at h; cases h
set_option maxRecDepth 20000 in
theorem k_91 (d : Nat) {M : ZMem} {o : Nat} {a0 : Int32} {out : Int32 × ZMem} (h : f_91 M o a0 = some out) : zrn (d + 2) 91 [zrf (some o), .int a0] M (some (.int out.1), out.2) := by
  unfold f_91 at h
  by_cases hok : zok M 11 o = true
  · rw [if_pos hok] at h
    refine zrn_of (L := [(0, zrf (some o)), (1, .int a0)]) rfl ?_
    refine zo_iload_n (p' := 1) (zi_91 rfl) rfl rfl ?_
    refine zo_iconst (p' := 2) (v := 0) (zi_91 rfl) rfl rfl ?_
    refine zo_bipush (p' := 4) (v := 60) (zi_91 rfl) rfl rfl ?_
    obtain ⟨x1, hx2, g35⟩ := zb_of h
    refine zo_callSi (p' := 7) (as := [.int a0, .int 0, .int 60]) (r := []) (zi_91 rfl) rfl (Or.inl zl_1_96) rfl rfl (Nat.le_of_ble_eq_true rfl) (Nat.le_of_ble_eq_true rfl) (k_14 _ hx2) ?_
    by_cases hc3 : ¬ x1 = 0
    · rw [if_pos hc3] at g35
      refine zo_ifT (p' := 13) (zi_91 rfl) rfl hc3 ?_
      refine zo_aload_n (p' := 14) (zi_91 rfl) rfl rfl ?_
      obtain ⟨r4, hx5, g36⟩ := zb_of g35
      refine zo_getR (p' := 17) (zi_91 rfl) rfl zl_1_14 hx5 ?_
      obtain ⟨q6, h0, g37⟩ := zb_of g36
      subst h0
      obtain ⟨r7, hx8, g38⟩ := zb_of g37
      refine zo_getR (p' := 20) (zi_91 rfl) rfl zl_1_100 hx8 ?_
      obtain ⟨q9, h0, g39⟩ := zb_of g38
      subst h0
      obtain ⟨x10, hx11, g40⟩ := zb_of g39
      refine zo_getI (p' := 23) (zi_91 rfl) rfl zl_1_139 hx11 ?_
      refine zo_iload_n (p' := 24) (zi_91 rfl) rfl rfl ?_
      refine zo_iadd (p' := 25) (zi_91 rfl) rfl ?_
      refine zo_sipush (p' := 28) (v := 9999) (zi_91 rfl) rfl rfl ?_
      by_cases hc12 : (x10 + a0) ≤ 9999
      · rw [if_pos hc12] at g40
        refine zo_icT (p' := 34) (zi_91 rfl) rfl hc12 ?_
        refine zo_aload_n (p' := 35) (zi_91 rfl) rfl rfl ?_
        obtain ⟨r13, hx14, g41⟩ := zb_of g40
        refine zo_getR (p' := 38) (zi_91 rfl) rfl zl_1_14 hx14 ?_
        obtain ⟨q15, h0, g42⟩ := zb_of g41
        subst h0
        obtain ⟨r16, hx17, g43⟩ := zb_of g42
        refine zo_getR (p' := 41) (zi_91 rfl) rfl zl_1_100 hx17 ?_
        refine zo_iload_n (p' := 42) (zi_91 rfl) rfl rfl ?_
        refine zo_aload_n (p' := 43) (zi_91 rfl) rfl rfl ?_
        obtain ⟨r18, hx19, g44⟩ := zb_of g43
        refine zo_callVa (p' := 46) (t := 11) (as := []) (r := [.int a0, zrf r16]) (zi_91 rfl) rfl zl_1_135 rfl rfl (Or.inl ⟨by decide, rfl⟩) (by simp [zrf_cat, zcat_i, zcat_l, zcat_r]) (Nat.le_of_ble_eq_true rfl) (f_20_ok hx19) (k_20 _ hx19) ?_
        obtain ⟨q20, h0, g45⟩ := zb_of g44
        subst h0
        obtain ⟨x21, hx22, g46⟩ := zb_of g45
        refine zo_getI (p' := 49) (zi_91 rfl) rfl zl_1_150 hx22 ?_
        obtain ⟨q23, h0, g47⟩ := zb_of g46
        subst h0
        obtain ⟨M26, hx25, g48⟩ := zb_of g47
        refine zo_callVv (p' := 52) (t := 10) (as := [.int a0, .int x21]) (r := []) (zi_91 rfl) rfl zl_1_237 rfl rfl (Or.inl ⟨by decide, rfl⟩) (Nat.le_of_ble_eq_true rfl) (Nat.le_of_ble_eq_true rfl) (f_92_ok hx25) (k_92 _ hx25) ?_
        refine zo_aload_n (p' := 53) (zi_91 rfl) rfl rfl ?_
        obtain ⟨r27, hx28, g49⟩ := zb_of g48
        refine zo_getR (p' := 56) (zi_91 rfl) rfl zl_1_14 hx28 ?_
        obtain ⟨q29, h0, g50⟩ := zb_of g49
        subst h0
        obtain ⟨r30, hx31, g51⟩ := zb_of g50
        refine zo_getR (p' := 59) (zi_91 rfl) rfl zl_1_100 hx31 ?_
        obtain ⟨q32, h0, g52⟩ := zb_of g51
        subst h0
        obtain ⟨x33, hx34, g53⟩ := zb_of g52
        refine zo_getI (p' := 62) (zi_91 rfl) rfl zl_1_139 hx34 ?_
        have g54 := Option.some.inj g53
        subst g54
        exact zo_iret (zi_91 rfl) rfl ⟨rfl, rfl⟩
      · rw [if_neg hc12] at g40
        refine zo_icF (p' := 31) (zi_91 rfl) rfl rfl hc12 ?_
        refine zo_bipush (p' := 33) (v := (-3)) (zi_91 rfl) rfl rfl ?_
        have g55 := Option.some.inj g40
        subst g55
        exact zo_iret (zi_91 rfl) rfl ⟨rfl, rfl⟩
    · rw [if_neg hc3] at g35
      refine zo_ifF (p' := 10) (zi_91 rfl) rfl rfl hc3 ?_
      refine zo_bipush (p' := 12) (v := (-2)) (zi_91 rfl) rfl rfl ?_
      have g56 := Option.some.inj g35
      subst g56
      exact zo_iret (zi_91 rfl) rfl ⟨rfl, rfl⟩
  · rw [if_neg hok] at h; cases h
/-- SlateHalves$Yard.copyFrom(LSlateHalves$Yard;)V -/
def f_95_2 : Nat → ZMem → Nat → Option Nat → Int32 → Option (ZMem)
  | 0, _, _, _, _ => none
  | z + 1, M, o, b1, b2 => zb b1 fun q1 => zb (zgi M 10 1 q1) fun x2 => if x2 ≤ b2 then (zb (zgi M 10 1 q1) fun x5 => zb (zpf M 10 1 o (.int x5) false) fun M7 => zb (zgi M7 10 2 q1) fun x9 => zb (zpf M7 10 2 o (.int x9) false) fun M11 => zb (zgi M11 10 3 q1) fun x13 => zb (zpf M11 10 3 o (.int x13) false) fun M15 => zb (zgi M15 10 4 q1) fun x17 => zb (zpf M15 10 4 o (.int x17) false) fun M19 => some M19) else (zb (zgr M 10 0 o) fun r21 => zb r21 fun q23 => zb (zlaR M q23 b2) fun r24 => zb (zgr M 10 0 q1) fun r26 => zb r26 fun q28 => zb (zlaR M q28 b2) fun r29 => zb r24 fun q31 => zb (f_53 M q31 r29) fun M34 => f_95_2 z M34 o (some q1) ((b2 + 1)))
set_option maxRecDepth 20000 in
theorem k_95_2 (d : Nat) : ∀ (z : Nat) (M : ZMem) (o : Nat) (b1 : Option Nat) (b2 : Int32) (out : ZMem), f_95_2 z M o b1 b2 = some out → zgo none (d + 2) 95 2 [(0, zrf (some o)), (1, zrf b1), (2, .int b2)] [] M (none, out) := by
  intro z
  induction z with
  | zero => intro M o b1 b2 out h; cases h
  | succ z ih =>
    intro M o b1 b2 out h
    rw [f_95_2] at h
    refine zo_iload_n (p' := 3) (zi_95 rfl) rfl rfl ?_
    refine zo_aload_n (p' := 4) (zi_95 rfl) rfl rfl ?_
    obtain ⟨q1, h0, g35⟩ := zb_of h
    subst h0
    obtain ⟨x2, hx3, g36⟩ := zb_of g35
    refine zo_getI (p' := 7) (zi_95 rfl) rfl zl_3_17 hx3 ?_
    by_cases hc4 : x2 ≤ b2
    · rw [if_pos hc4] at g36
      refine zo_icT (p' := 31) (zi_95 rfl) rfl hc4 ?_
      refine zo_aload_n (p' := 32) (zi_95 rfl) rfl rfl ?_
      refine zo_aload_n (p' := 33) (zi_95 rfl) rfl rfl ?_
      obtain ⟨x5, hx6, g37⟩ := zb_of g36
      refine zo_getI (p' := 36) (zi_95 rfl) rfl zl_3_17 hx6 ?_
      obtain ⟨M7, hx8, g38⟩ := zb_of g37
      refine zo_putI (p' := 39) (zi_95 rfl) rfl zl_3_17 (zpb_95 _) hx8 ?_
      refine zo_aload_n (p' := 40) (zi_95 rfl) rfl rfl ?_
      refine zo_aload_n (p' := 41) (zi_95 rfl) rfl rfl ?_
      obtain ⟨x9, hx10, g39⟩ := zb_of g38
      refine zo_getI (p' := 44) (zi_95 rfl) rfl zl_3_21 hx10 ?_
      obtain ⟨M11, hx12, g40⟩ := zb_of g39
      refine zo_putI (p' := 47) (zi_95 rfl) rfl zl_3_21 (zpb_95 _) hx12 ?_
      refine zo_aload_n (p' := 48) (zi_95 rfl) rfl rfl ?_
      refine zo_aload_n (p' := 49) (zi_95 rfl) rfl rfl ?_
      obtain ⟨x13, hx14, g41⟩ := zb_of g40
      refine zo_getI (p' := 52) (zi_95 rfl) rfl zl_3_24 hx14 ?_
      obtain ⟨M15, hx16, g42⟩ := zb_of g41
      refine zo_putI (p' := 55) (zi_95 rfl) rfl zl_3_24 (zpb_95 _) hx16 ?_
      refine zo_aload_n (p' := 56) (zi_95 rfl) rfl rfl ?_
      refine zo_aload_n (p' := 57) (zi_95 rfl) rfl rfl ?_
      obtain ⟨x17, hx18, g43⟩ := zb_of g42
      refine zo_getI (p' := 60) (zi_95 rfl) rfl zl_3_27 hx18 ?_
      obtain ⟨M19, hx20, g44⟩ := zb_of g43
      refine zo_putI (p' := 63) (zi_95 rfl) rfl zl_3_27 (zpb_95 _) hx20 ?_
      have g45 := Option.some.inj g44
      subst g45
      exact zo_vret (zi_95 rfl) rfl
    · rw [if_neg hc4] at g36
      refine zo_icF (p' := 10) (zi_95 rfl) rfl rfl hc4 ?_
      refine zo_aload_n (p' := 11) (zi_95 rfl) rfl rfl ?_
      obtain ⟨r21, hx22, g46⟩ := zb_of g36
      refine zo_getR (p' := 14) (zi_95 rfl) rfl zl_3_11 hx22 ?_
      refine zo_iload_n (p' := 15) (zi_95 rfl) rfl rfl ?_
      obtain ⟨q23, h0, g47⟩ := zb_of g46
      subst h0
      obtain ⟨r24, hx25, g48⟩ := zb_of g47
      refine zo_aald (p' := 16) (zi_95 rfl) rfl hx25 ?_
      refine zo_aload_n (p' := 17) (zi_95 rfl) rfl rfl ?_
      obtain ⟨r26, hx27, g49⟩ := zb_of g48
      refine zo_getR (p' := 20) (zi_95 rfl) rfl zl_3_11 hx27 ?_
      refine zo_iload_n (p' := 21) (zi_95 rfl) rfl rfl ?_
      obtain ⟨q28, h0, g50⟩ := zb_of g49
      subst h0
      obtain ⟨r29, hx30, g51⟩ := zb_of g50
      refine zo_aald (p' := 22) (zi_95 rfl) rfl hx30 ?_
      obtain ⟨q31, h0, g52⟩ := zb_of g51
      subst h0
      obtain ⟨M34, hx33, g53⟩ := zb_of g52
      refine zo_callVv (p' := 25) (t := 1) (as := [zrf r29]) (r := []) (zi_95 rfl) rfl zl_3_54 rfl rfl (Or.inl ⟨by decide, rfl⟩) (Nat.le_of_ble_eq_true rfl) (by rw [zml_53]; simp [lg_sl, zrf_cat, zcat_i, zcat_l, zcat_r]; done) (f_53_ok hx33) (k_53 _ hx33) ?_
      refine zo_iinc (p' := 28) (v := (b2 + 1)) (L' := [(0, zrf (some o)), (1, zrf (some q1)), (2, .int ((b2 + 1)))]) (zi_95 rfl) rfl zm_95_2 rfl rfl ⟨Or.inr ⟨by decide, rfl, fun q => absurd q (by decide)⟩, ⟨Or.inr ⟨by decide, rfl, fun _ => zrf_cat _⟩, ⟨Or.inl ⟨rfl, rfl⟩, trivial⟩⟩⟩ ?_
      refine zo_goto (p' := 2) (zi_95 rfl) rfl ?_
      refine zgo_sub (L' := [(0, zrf (some o)), (1, zrf ((some q1))), (2, .int (((b2 + 1))))]) (⟨rfl, rfl, rfl, trivial⟩) ?_
      exact ih M34 o (some q1) ((b2 + 1)) _ g53
def f_95 (M : ZMem) (o : Nat) (a0 : Option Nat) : Option (ZMem) := if zok M 10 o = true then (f_95_2 zF M o a0 0) else none
theorem f_95_ok {M : ZMem} {o : Nat} {a0 : Option Nat} {out : ZMem} (h : f_95 M o a0 = some out) : zok M 10 o = true := by
  unfold f_95 at h
  by_cases hok : zok M 10 o = true
  · exact hok
  · rw [if_neg hok] at h; cases h
set_option maxRecDepth 20000 in
theorem k_95 (d : Nat) {M : ZMem} {o : Nat} {a0 : Option Nat} {out : ZMem} (h : f_95 M o a0 = some out) : zrn (d + 2) 95 [zrf (some o), zrf a0] M (none, out) := by
  unfold f_95 at h
  by_cases hok : zok M 10 o = true
  · rw [if_pos hok] at h
    refine zrn_of (L := [(0, zrf (some o)), (1, zrf a0)]) (by simp [lv_args, zrf_cat, zcat_i, zcat_l, zcat_r]) ?_
    refine zo_iconst (p' := 1) (v := 0) (zi_95 rfl) rfl rfl ?_
    refine zo_istore_n (p' := 2) (L' := [(0, zrf (some o)), (1, zrf a0), (2, .int 0)]) (zi_95 rfl) rfl zm_95_2 ⟨Or.inr ⟨by decide, rfl, fun q => absurd q (by decide)⟩, ⟨Or.inr ⟨by decide, rfl, fun _ => zrf_cat _⟩, ⟨Or.inl ⟨rfl, rfl⟩, trivial⟩⟩⟩ ?_
    refine zgo_sub (L' := [(0, zrf (some o)), (1, zrf a0), (2, .int 0)]) (⟨rfl, rfl, rfl, trivial⟩) ?_
    exact k_95_2 _ zF M o a0 0 _ h
  · rw [if_neg hok] at h; cases h
/-- SlateHalves.lookAhead(I)V -/
def f_94 (M : ZMem) (o : Nat) (a0 : Int32) : Option (ZMem) := if zok M 11 o = true then (zb (zgr M 11 3 o) fun r1 => zb (zgr M 11 0 o) fun r3 => zb r3 fun q5 => zb (zgr M 7 0 q5) fun r6 => zb r1 fun q8 => zb (f_95 M q8 r6) fun M11 => zb (zgr M11 11 3 o) fun r12 => zb (f_20 M11 o) fun r14 => zb r14 fun q16 => zb (zgi M11 3 4 q16) fun x17 => zb r12 fun q19 => zb (f_92 M11 q19 a0 x17) fun M22 => some M22) else none
theorem f_94_ok {M : ZMem} {o : Nat} {a0 : Int32} {out : ZMem} (h : f_94 M o a0 = some out) : zok M 11 o = true := by
  unfold f_94 at h
  by_cases hok : zok M 11 o = true
  · exact hok
  · rw [if_neg hok] at h; cases h
set_option maxRecDepth 20000 in
theorem k_94 (d : Nat) {M : ZMem} {o : Nat} {a0 : Int32} {out : ZMem} (h : f_94 M o a0 = some out) : zrn (d + 3) 94 [zrf (some o), .int a0] M (none, out) := by
  unfold f_94 at h
  by_cases hok : zok M 11 o = true
  · rw [if_pos hok] at h
    refine zrn_of (L := [(0, zrf (some o)), (1, .int a0)]) rfl ?_
    refine zo_aload_n (p' := 1) (zi_94 rfl) rfl rfl ?_
    obtain ⟨r1, hx2, g23⟩ := zb_of h
    refine zo_getR (p' := 4) (zi_94 rfl) rfl zl_1_28 hx2 ?_
    refine zo_aload_n (p' := 5) (zi_94 rfl) rfl rfl ?_
    obtain ⟨r3, hx4, g24⟩ := zb_of g23
    refine zo_getR (p' := 8) (zi_94 rfl) rfl zl_1_14 hx4 ?_
    obtain ⟨q5, h0, g25⟩ := zb_of g24
    subst h0
    obtain ⟨r6, hx7, g26⟩ := zb_of g25
    refine zo_getR (p' := 11) (zi_94 rfl) rfl zl_1_100 hx7 ?_
    obtain ⟨q8, h0, g27⟩ := zb_of g26
    subst h0
    obtain ⟨M11, hx10, g28⟩ := zb_of g27
    refine zo_callVv (p' := 14) (t := 10) (as := [zrf r6]) (r := []) (zi_94 rfl) rfl zl_1_330 rfl rfl (Or.inl ⟨by decide, rfl⟩) (Nat.le_of_ble_eq_true rfl) (by rw [zml_95]; simp [lg_sl, zrf_cat, zcat_i, zcat_l, zcat_r]; done) (f_95_ok hx10) (k_95 _ hx10) ?_
    refine zo_aload_n (p' := 15) (zi_94 rfl) rfl rfl ?_
    obtain ⟨r12, hx13, g29⟩ := zb_of g28
    refine zo_getR (p' := 18) (zi_94 rfl) rfl zl_1_28 hx13 ?_
    refine zo_iload_n (p' := 19) (zi_94 rfl) rfl rfl ?_
    refine zo_aload_n (p' := 20) (zi_94 rfl) rfl rfl ?_
    obtain ⟨r14, hx15, g30⟩ := zb_of g29
    refine zo_callVa (p' := 23) (t := 11) (as := []) (r := [.int a0, zrf r12]) (zi_94 rfl) rfl zl_1_135 rfl rfl (Or.inl ⟨by decide, rfl⟩) (by simp [zrf_cat, zcat_i, zcat_l, zcat_r]) (Nat.le_of_ble_eq_true rfl) (f_20_ok hx15) (k_20 _ hx15) ?_
    obtain ⟨q16, h0, g31⟩ := zb_of g30
    subst h0
    obtain ⟨x17, hx18, g32⟩ := zb_of g31
    refine zo_getI (p' := 26) (zi_94 rfl) rfl zl_1_150 hx18 ?_
    obtain ⟨q19, h0, g33⟩ := zb_of g32
    subst h0
    obtain ⟨M22, hx21, g34⟩ := zb_of g33
    refine zo_callVv (p' := 29) (t := 10) (as := [.int a0, .int x17]) (r := []) (zi_94 rfl) rfl zl_1_237 rfl rfl (Or.inl ⟨by decide, rfl⟩) (Nat.le_of_ble_eq_true rfl) (Nat.le_of_ble_eq_true rfl) (f_92_ok hx21) (k_92 _ hx21) ?_
    have g35 := Option.some.inj g34
    subst g35
    exact zo_vret (zi_94 rfl) rfl
  · rw [if_neg hok] at h; cases h
/-- SlateHalves.on(II)I -/
def f_93_38 (M : ZMem) (o : Nat) (b1 : Int32) (b2 : Int32) (b3 : Int32) : Option (Int32 × ZMem) := zb (f_14 M b1 0 60) fun x21 => if ¬ x21 = 0 then (zb (f_94 M o b1) fun M26 => zb (zgr M26 11 3 o) fun r27 => zb r27 fun q29 => zb (f_19 M26 q29 b3) fun r30 => zcs r30 (zb (zgr M26 11 3 o) fun r34 => zbd (f_89 M26 o r34) fun x36 M38 => some (x36, M38)) (fun q32 => if 20 ≤ b2 then (zb (zgr M26 11 3 o) fun r40 => zbd (f_90 M26 o r40 (some q32)) fun x42 M44 => some (x42, M44)) else (zb (zgi M26 1 4 q32) fun x45 => some (x45, M26)))) else (some ((-2), M))
def f_93_17 (M : ZMem) (o : Nat) (b1 : Int32) (b2 : Int32) (b3 : Int32) : Option (Int32 × ZMem) := if b2 = 0 then (f_93_38 M o b1 b2 b3) else (zb (zgr M 11 0 o) fun r3 => zb r3 fun q5 => zb (zgr M 7 0 q5) fun r6 => zb r6 fun q8 => zb (f_19 M q8 b3) fun r9 => zcs r9 (some ((-1), M)) (fun q11 => f_93_38 M o b1 b2 b3))
set_option maxRecDepth 20000 in
theorem k_93_38 (d : Nat) : ∀ (M : ZMem) (o : Nat) (b1 : Int32) (b2 : Int32) (b3 : Int32) (out : Int32 × ZMem), f_93_38 M o b1 b2 b3 = some out → zgo none (d + 6) 93 38 [(0, zrf (some o)), (1, .int b1), (2, .int b2), (3, .int b3)] [] M (some (.int out.1), out.2) := by
  intro M o b1 b2 b3 out h
  unfold f_93_38 at h
  refine zo_iload_n (p' := 39) (zi_93 rfl) rfl rfl ?_
  refine zo_iconst (p' := 40) (v := 0) (zi_93 rfl) rfl rfl ?_
  refine zo_bipush (p' := 42) (v := 60) (zi_93 rfl) rfl rfl ?_
  obtain ⟨x21, hx22, g47⟩ := zb_of h
  refine zo_callSi (p' := 45) (as := [.int b1, .int 0, .int 60]) (r := []) (zi_93 rfl) rfl (Or.inl zl_1_96) rfl rfl (Nat.le_of_ble_eq_true rfl) (Nat.le_of_ble_eq_true rfl) (k_14 _ hx22) ?_
  by_cases hc23 : ¬ x21 = 0
  · rw [if_pos hc23] at g47
    refine zo_ifT (p' := 51) (zi_93 rfl) rfl hc23 ?_
    refine zo_aload_n (p' := 52) (zi_93 rfl) rfl rfl ?_
    refine zo_iload_n (p' := 53) (zi_93 rfl) rfl rfl ?_
    obtain ⟨M26, hx25, g48⟩ := zb_of g47
    refine zo_callVv (p' := 56) (t := 11) (as := [.int b1]) (r := []) (zi_93 rfl) rfl zl_1_241 rfl rfl (Or.inl ⟨by decide, rfl⟩) (Nat.le_of_ble_eq_true rfl) (Nat.le_of_ble_eq_true rfl) (f_94_ok hx25) (k_94 _ hx25) ?_
    refine zo_aload_n (p' := 57) (zi_93 rfl) rfl rfl ?_
    obtain ⟨r27, hx28, g49⟩ := zb_of g48
    refine zo_getR (p' := 60) (zi_93 rfl) rfl zl_1_28 hx28 ?_
    refine zo_iload_n (p' := 61) (zi_93 rfl) rfl rfl ?_
    obtain ⟨q29, h0, g50⟩ := zb_of g49
    subst h0
    obtain ⟨r30, hx31, g51⟩ := zb_of g50
    refine zo_callVa (p' := 64) (t := 10) (as := [.int b3]) (r := []) (zi_93 rfl) rfl zl_1_116 rfl rfl (Or.inl ⟨by decide, rfl⟩) (Nat.le_of_ble_eq_true rfl) (Nat.le_of_ble_eq_true rfl) (f_19_ok hx31) (k_19 _ hx31) ?_
    refine zo_astore (p' := 66) (L' := [(0, zrf (some o)), (1, .int b1), (2, .int b2), (3, .int b3), (4, zrf r30)]) (zi_93 rfl) rfl zm_93_4 ⟨Or.inr ⟨by decide, rfl, fun q => absurd q (by decide)⟩, ⟨Or.inr ⟨by decide, rfl, fun q => absurd q (by decide)⟩, ⟨Or.inr ⟨by decide, rfl, fun q => absurd q (by decide)⟩, ⟨Or.inr ⟨by decide, rfl, fun _ => rfl⟩, ⟨Or.inl ⟨rfl, rfl⟩, trivial⟩⟩⟩⟩⟩ ?_
    refine zo_aload (p' := 68) (zi_93 rfl) rfl rfl ?_
    rcases r30 with _ | q32
    · have g52 := zcs_none g51
      refine zo_nonnullF (p' := 71) (zi_93 rfl) rfl ?_
      refine zo_aload_n (p' := 72) (zi_93 rfl) rfl rfl ?_
      refine zo_aload_n (p' := 73) (zi_93 rfl) rfl rfl ?_
      obtain ⟨r34, hx35, g53⟩ := zb_of g52
      refine zo_getR (p' := 76) (zi_93 rfl) rfl zl_1_28 hx35 ?_
      obtain ⟨x36, M38, hx37, g54⟩ := zbd_of g53
      refine zo_callVi (p' := 79) (t := 11) (as := [zrf r34]) (r := []) (zi_93 rfl) rfl zl_1_233 rfl rfl (Or.inl ⟨by decide, rfl⟩) (Nat.le_of_ble_eq_true rfl) (by rw [zml_89]; simp [lg_sl, zrf_cat, zcat_i, zcat_l, zcat_r]; done) (f_89_ok hx37) (k_89 _ hx37) ?_
      have g55 := Option.some.inj g54
      subst g55
      exact zo_iret (zi_93 rfl) rfl ⟨rfl, rfl⟩
    · obtain ⟨hq33, g56⟩ := zcs_some g51
      refine zo_nonnullT (p' := 80) (zi_93 rfl) rfl hq33 ?_
      refine zo_iload_n (p' := 81) (zi_93 rfl) rfl rfl ?_
      refine zo_bipush (p' := 83) (v := 20) (zi_93 rfl) rfl rfl ?_
      by_cases hc39 : 20 ≤ b2
      · rw [if_pos hc39] at g56
        refine zo_icT (p' := 94) (zi_93 rfl) rfl hc39 ?_
        refine zo_aload_n (p' := 95) (zi_93 rfl) rfl rfl ?_
        refine zo_aload_n (p' := 96) (zi_93 rfl) rfl rfl ?_
        obtain ⟨r40, hx41, g57⟩ := zb_of g56
        refine zo_getR (p' := 99) (zi_93 rfl) rfl zl_1_28 hx41 ?_
        refine zo_aload (p' := 101) (zi_93 rfl) rfl rfl ?_
        obtain ⟨x42, M44, hx43, g58⟩ := zbd_of g57
        refine zo_callVi (p' := 104) (t := 11) (as := [zrf r40, zrf (some q32)]) (r := []) (zi_93 rfl) rfl zl_1_245 rfl rfl (Or.inl ⟨by decide, rfl⟩) (Nat.le_of_ble_eq_true rfl) (by rw [zml_90]; simp [lg_sl, zrf_cat, zcat_i, zcat_l, zcat_r]; done) (f_90_ok hx43) (k_90 _ hx43) ?_
        have g59 := Option.some.inj g58
        subst g59
        exact zo_iret (zi_93 rfl) rfl ⟨rfl, rfl⟩
      · rw [if_neg hc39] at g56
        refine zo_icF (p' := 86) (zi_93 rfl) rfl rfl hc39 ?_
        refine zo_aload (p' := 88) (zi_93 rfl) rfl rfl ?_
        obtain ⟨x45, hx46, g60⟩ := zb_of g56
        refine zo_getI (p' := 91) (zi_93 rfl) rfl zl_1_129 hx46 ?_
        refine zo_goto (p' := 104) (zi_93 rfl) rfl ?_
        have g61 := Option.some.inj g60
        subst g61
        exact zo_iret (zi_93 rfl) rfl ⟨rfl, rfl⟩
  · rw [if_neg hc23] at g47
    refine zo_ifF (p' := 48) (zi_93 rfl) rfl rfl hc23 ?_
    refine zo_bipush (p' := 50) (v := (-2)) (zi_93 rfl) rfl rfl ?_
    have g62 := Option.some.inj g47
    subst g62
    exact zo_iret (zi_93 rfl) rfl ⟨rfl, rfl⟩
set_option maxRecDepth 20000 in
theorem k_93_17 (d : Nat) : ∀ (M : ZMem) (o : Nat) (b1 : Int32) (b2 : Int32) (b3 : Int32) (out : Int32 × ZMem), f_93_17 M o b1 b2 b3 = some out → zgo none (d + 6) 93 17 [(0, zrf (some o)), (1, .int b1), (2, .int b2)] [.int b3] M (some (.int out.1), out.2) := by
  intro M o b1 b2 b3 out h
  unfold f_93_17 at h
  refine zo_istore_n (p' := 18) (L' := [(0, zrf (some o)), (1, .int b1), (2, .int b2), (3, .int b3)]) (zi_93 rfl) rfl zm_93_3 ⟨Or.inr ⟨by decide, rfl, fun q => absurd q (by decide)⟩, ⟨Or.inr ⟨by decide, rfl, fun q => absurd q (by decide)⟩, ⟨Or.inr ⟨by decide, rfl, fun _ => rfl⟩, ⟨Or.inl ⟨rfl, rfl⟩, trivial⟩⟩⟩⟩ ?_
  refine zo_iload_n (p' := 19) (zi_93 rfl) rfl rfl ?_
  by_cases hc2 : b2 = 0
  · rw [if_pos hc2] at h
    refine zo_ifT (p' := 38) (zi_93 rfl) rfl hc2 ?_
    refine zgo_sub (L' := [(0, zrf (some o)), (1, .int b1), (2, .int b2), (3, .int b3)]) (⟨rfl, rfl, rfl, rfl, trivial⟩) ?_
    exact k_93_38 _ M o b1 b2 b3 _ h
  · rw [if_neg hc2] at h
    refine zo_ifF (p' := 22) (zi_93 rfl) rfl rfl hc2 ?_
    refine zo_aload_n (p' := 23) (zi_93 rfl) rfl rfl ?_
    obtain ⟨r3, hx4, g13⟩ := zb_of h
    refine zo_getR (p' := 26) (zi_93 rfl) rfl zl_1_14 hx4 ?_
    obtain ⟨q5, h0, g14⟩ := zb_of g13
    subst h0
    obtain ⟨r6, hx7, g15⟩ := zb_of g14
    refine zo_getR (p' := 29) (zi_93 rfl) rfl zl_1_100 hx7 ?_
    refine zo_iload_n (p' := 30) (zi_93 rfl) rfl rfl ?_
    obtain ⟨q8, h0, g16⟩ := zb_of g15
    subst h0
    obtain ⟨r9, hx10, g17⟩ := zb_of g16
    refine zo_callVa (p' := 33) (t := 10) (as := [.int b3]) (r := []) (zi_93 rfl) rfl zl_1_116 rfl rfl (Or.inl ⟨by decide, rfl⟩) (Nat.le_of_ble_eq_true rfl) (Nat.le_of_ble_eq_true rfl) (f_19_ok hx10) (k_19 _ hx10) ?_
    rcases r9 with _ | q11
    · have g18 := zcs_none g17
      refine zo_nonnullF (p' := 36) (zi_93 rfl) rfl ?_
      refine zo_iconst (p' := 37) (v := (-1)) (zi_93 rfl) rfl rfl ?_
      have g19 := Option.some.inj g18
      subst g19
      exact zo_iret (zi_93 rfl) rfl ⟨rfl, rfl⟩
    · obtain ⟨hq12, g20⟩ := zcs_some g17
      refine zo_nonnullT (p' := 38) (zi_93 rfl) rfl hq12 ?_
      refine zgo_sub (L' := [(0, zrf (some o)), (1, .int b1), (2, .int b2), (3, .int b3)]) (⟨rfl, rfl, rfl, rfl, trivial⟩) ?_
      exact k_93_38 _ M o b1 b2 b3 _ g20
def f_93 (M : ZMem) (o : Nat) (a0 : Int32) (a1 : Int32) : Option (Int32 × ZMem) := if zok M 11 o = true then (if 20 ≤ a1 then (f_93_17 M o a0 a1 ((a1 - 20))) else (f_93_17 M o a0 a1 ((a1 - 10)))) else none
theorem f_93_ok {M : ZMem} {o : Nat} {a0 : Int32} {a1 : Int32} {out : Int32 × ZMem} (h : f_93 M o a0 a1 = some out) : zok M 11 o = true := by
  unfold f_93 at h
  by_cases hok : zok M 11 o = true
  · exact hok
  · rw [if_neg hok] at h; cases h
set_option maxRecDepth 20000 in
theorem k_93 (d : Nat) {M : ZMem} {o : Nat} {a0 : Int32} {a1 : Int32} {out : Int32 × ZMem} (h : f_93 M o a0 a1 = some out) : zrn (d + 6) 93 [zrf (some o), .int a0, .int a1] M (some (.int out.1), out.2) := by
  unfold f_93 at h
  by_cases hok : zok M 11 o = true
  · rw [if_pos hok] at h
    refine zrn_of (L := [(0, zrf (some o)), (1, .int a0), (2, .int a1)]) rfl ?_
    refine zo_iload_n (p' := 1) (zi_93 rfl) rfl rfl ?_
    refine zo_bipush (p' := 3) (v := 20) (zi_93 rfl) rfl rfl ?_
    by_cases hc1 : 20 ≤ a1
    · rw [if_pos hc1] at h
      refine zo_icT (p' := 13) (zi_93 rfl) rfl hc1 ?_
      refine zo_iload_n (p' := 14) (zi_93 rfl) rfl rfl ?_
      refine zo_bipush (p' := 16) (v := 20) (zi_93 rfl) rfl rfl ?_
      refine zo_isub (p' := 17) (zi_93 rfl) rfl ?_
      refine zgo_sub (L' := [(0, zrf (some o)), (1, .int a0), (2, .int a1)]) (⟨rfl, rfl, rfl, trivial⟩) ?_
      exact k_93_17 _ M o a0 a1 ((a1 - 20)) _ h
    · rw [if_neg hc1] at h
      refine zo_icF (p' := 6) (zi_93 rfl) rfl rfl hc1 ?_
      refine zo_iload_n (p' := 7) (zi_93 rfl) rfl rfl ?_
      refine zo_bipush (p' := 9) (v := 10) (zi_93 rfl) rfl rfl ?_
      refine zo_isub (p' := 10) (zi_93 rfl) rfl ?_
      refine zo_goto (p' := 17) (zi_93 rfl) rfl ?_
      refine zgo_sub (L' := [(0, zrf (some o)), (1, .int a0), (2, .int a1)]) (⟨rfl, rfl, rfl, trivial⟩) ?_
      exact k_93_17 _ M o a0 a1 ((a1 - 10)) _ h
  · rw [if_neg hok] at h; cases h
/-- SlateHalves.lasts(I)I -/
def f_96_16 : Nat → ZMem → Nat → Int32 → Int32 → Option (Int32 × ZMem)
  | 0, _, _, _, _ => none
  | z + 1, M, o, b1, b2 => if b2 < 0 then (some ((-5), M)) else (zb (f_94 M o b2) fun M9 => zb (zgr M9 11 3 o) fun r10 => zbd (f_89 M9 o r10) fun x12 M14 => if x12 < b1 then (f_96_16 z M14 o b1 ((b2 + (-1)))) else (some (b2, M14)))
set_option maxRecDepth 20000 in
theorem k_96_16 (d : Nat) : ∀ (z : Nat) (M : ZMem) (o : Nat) (b1 : Int32) (b2 : Int32) (out : Int32 × ZMem), f_96_16 z M o b1 b2 = some out → zgo none (d + 6) 96 16 [(0, zrf (some o)), (1, .int b1), (2, .int b2)] [] M (some (.int out.1), out.2) := by
  intro z
  induction z with
  | zero => intro M o b1 b2 out h; cases h
  | succ z ih =>
    intro M o b1 b2 out h
    rw [f_96_16] at h
    refine zo_iload_n (p' := 17) (zi_96 rfl) rfl rfl ?_
    by_cases hc6 : b2 < 0
    · rw [if_pos hc6] at h
      refine zo_ifT (p' := 45) (zi_96 rfl) rfl hc6 ?_
      refine zo_bipush (p' := 47) (v := (-5)) (zi_96 rfl) rfl rfl ?_
      have g16 := Option.some.inj h
      subst g16
      exact zo_iret (zi_96 rfl) rfl ⟨rfl, rfl⟩
    · rw [if_neg hc6] at h
      refine zo_ifF (p' := 20) (zi_96 rfl) rfl rfl hc6 ?_
      refine zo_aload_n (p' := 21) (zi_96 rfl) rfl rfl ?_
      refine zo_iload_n (p' := 22) (zi_96 rfl) rfl rfl ?_
      obtain ⟨M9, hx8, g17⟩ := zb_of h
      refine zo_callVv (p' := 25) (t := 11) (as := [.int b2]) (r := []) (zi_96 rfl) rfl zl_1_241 rfl rfl (Or.inl ⟨by decide, rfl⟩) (Nat.le_of_ble_eq_true rfl) (Nat.le_of_ble_eq_true rfl) (f_94_ok hx8) (k_94 _ hx8) ?_
      refine zo_aload_n (p' := 26) (zi_96 rfl) rfl rfl ?_
      refine zo_aload_n (p' := 27) (zi_96 rfl) rfl rfl ?_
      obtain ⟨r10, hx11, g18⟩ := zb_of g17
      refine zo_getR (p' := 30) (zi_96 rfl) rfl zl_1_28 hx11 ?_
      obtain ⟨x12, M14, hx13, g19⟩ := zbd_of g18
      refine zo_callVi (p' := 33) (t := 11) (as := [zrf r10]) (r := []) (zi_96 rfl) rfl zl_1_233 rfl rfl (Or.inl ⟨by decide, rfl⟩) (Nat.le_of_ble_eq_true rfl) (by rw [zml_89]; simp [lg_sl, zrf_cat, zcat_i, zcat_l, zcat_r]; done) (f_89_ok hx13) (k_89 _ hx13) ?_
      refine zo_iload_n (p' := 34) (zi_96 rfl) rfl rfl ?_
      by_cases hc15 : x12 < b1
      · rw [if_pos hc15] at g19
        refine zo_icT (p' := 39) (zi_96 rfl) rfl hc15 ?_
        refine zo_iinc (p' := 42) (v := (b2 + (-1))) (L' := [(0, zrf (some o)), (1, .int b1), (2, .int ((b2 + (-1))))]) (zi_96 rfl) rfl zm_96_2 rfl rfl ⟨Or.inr ⟨by decide, rfl, fun q => absurd q (by decide)⟩, ⟨Or.inr ⟨by decide, rfl, fun _ => rfl⟩, ⟨Or.inl ⟨rfl, rfl⟩, trivial⟩⟩⟩ ?_
        refine zo_goto (p' := 16) (zi_96 rfl) rfl ?_
        refine zgo_sub (L' := [(0, zrf (some o)), (1, .int b1), (2, .int (((b2 + (-1)))))]) (⟨rfl, rfl, rfl, trivial⟩) ?_
        exact ih M14 o b1 ((b2 + (-1))) _ g19
      · rw [if_neg hc15] at g19
        refine zo_icF (p' := 37) (zi_96 rfl) rfl rfl hc15 ?_
        refine zo_iload_n (p' := 38) (zi_96 rfl) rfl rfl ?_
        have g20 := Option.some.inj g19
        subst g20
        exact zo_iret (zi_96 rfl) rfl ⟨rfl, rfl⟩
def f_96 (M : ZMem) (o : Nat) (a0 : Int32) : Option (Int32 × ZMem) := if zok M 11 o = true then (zb (f_14 M a0 0 99999) fun x1 => if ¬ x1 = 0 then (f_96_16 zF M o a0 20) else (some ((-2), M))) else none
theorem f_96_ok {M : ZMem} {o : Nat} {a0 : Int32} {out : Int32 × ZMem} (h : f_96 M o a0 = some out) : zok M 11 o = true := by
  unfold f_96 at h
  by_cases hok : zok M 11 o = true
  · exact hok
  · rw [if_neg hok] at h; cases h
set_option maxRecDepth 20000 in
theorem k_96 (d : Nat) {M : ZMem} {o : Nat} {a0 : Int32} {out : Int32 × ZMem} (h : f_96 M o a0 = some out) : zrn (d + 6) 96 [zrf (some o), .int a0] M (some (.int out.1), out.2) := by
  unfold f_96 at h
  by_cases hok : zok M 11 o = true
  · rw [if_pos hok] at h
    refine zrn_of (L := [(0, zrf (some o)), (1, .int a0)]) rfl ?_
    refine zo_iload_n (p' := 1) (zi_96 rfl) rfl rfl ?_
    refine zo_iconst (p' := 2) (v := 0) (zi_96 rfl) rfl rfl ?_
    refine zo_ldcI (p' := 4) (v := 99999) (zi_96 rfl) rfl rfl rfl ?_
    obtain ⟨x1, hx2, g4⟩ := zb_of h
    refine zo_callSi (p' := 7) (as := [.int a0, .int 0, .int 99999]) (r := []) (zi_96 rfl) rfl (Or.inl zl_1_96) rfl rfl (Nat.le_of_ble_eq_true rfl) (Nat.le_of_ble_eq_true rfl) (k_14 _ hx2) ?_
    by_cases hc3 : ¬ x1 = 0
    · rw [if_pos hc3] at g4
      refine zo_ifT (p' := 13) (zi_96 rfl) rfl hc3 ?_
      refine zo_bipush (p' := 15) (v := 20) (zi_96 rfl) rfl rfl ?_
      refine zo_istore_n (p' := 16) (L' := [(0, zrf (some o)), (1, .int a0), (2, .int 20)]) (zi_96 rfl) rfl zm_96_2 ⟨Or.inr ⟨by decide, rfl, fun q => absurd q (by decide)⟩, ⟨Or.inr ⟨by decide, rfl, fun _ => rfl⟩, ⟨Or.inl ⟨rfl, rfl⟩, trivial⟩⟩⟩ ?_
      refine zgo_sub (L' := [(0, zrf (some o)), (1, .int a0), (2, .int 20)]) (⟨rfl, rfl, rfl, trivial⟩) ?_
      exact k_96_16 _ zF M o a0 20 _ g4
    · rw [if_neg hc3] at g4
      refine zo_ifF (p' := 10) (zi_96 rfl) rfl rfl hc3 ?_
      refine zo_bipush (p' := 12) (v := (-2)) (zi_96 rfl) rfl rfl ?_
      have g5 := Option.some.inj g4
      subst g5
      exact zo_iret (zi_96 rfl) rfl ⟨rfl, rfl⟩
  · rw [if_neg hok] at h; cases h
/-- java/lang/Integer.bitCount(I)I -/
def f_99 (M : ZMem) (a0 : Int32) : Option (Int32) := some ((((((((a0 - ((Int32.toUInt32 a0 >>> (Int32.toUInt32 1 &&& Int32.toUInt32 31)).toInt32 &&& 1431655765)) &&& 858993459) + ((Int32.toUInt32 (a0 - ((Int32.toUInt32 a0 >>> (Int32.toUInt32 1 &&& Int32.toUInt32 31)).toInt32 &&& 1431655765)) >>> (Int32.toUInt32 2 &&& Int32.toUInt32 31)).toInt32 &&& 858993459)) + (Int32.toUInt32 (((a0 - ((Int32.toUInt32 a0 >>> (Int32.toUInt32 1 &&& Int32.toUInt32 31)).toInt32 &&& 1431655765)) &&& 858993459) + ((Int32.toUInt32 (a0 - ((Int32.toUInt32 a0 >>> (Int32.toUInt32 1 &&& Int32.toUInt32 31)).toInt32 &&& 1431655765)) >>> (Int32.toUInt32 2 &&& Int32.toUInt32 31)).toInt32 &&& 858993459)) >>> (Int32.toUInt32 4 &&& Int32.toUInt32 31)).toInt32) &&& 252645135) + (Int32.toUInt32 (((((a0 - ((Int32.toUInt32 a0 >>> (Int32.toUInt32 1 &&& Int32.toUInt32 31)).toInt32 &&& 1431655765)) &&& 858993459) + ((Int32.toUInt32 (a0 - ((Int32.toUInt32 a0 >>> (Int32.toUInt32 1 &&& Int32.toUInt32 31)).toInt32 &&& 1431655765)) >>> (Int32.toUInt32 2 &&& Int32.toUInt32 31)).toInt32 &&& 858993459)) + (Int32.toUInt32 (((a0 - ((Int32.toUInt32 a0 >>> (Int32.toUInt32 1 &&& Int32.toUInt32 31)).toInt32 &&& 1431655765)) &&& 858993459) + ((Int32.toUInt32 (a0 - ((Int32.toUInt32 a0 >>> (Int32.toUInt32 1 &&& Int32.toUInt32 31)).toInt32 &&& 1431655765)) >>> (Int32.toUInt32 2 &&& Int32.toUInt32 31)).toInt32 &&& 858993459)) >>> (Int32.toUInt32 4 &&& Int32.toUInt32 31)).toInt32) &&& 252645135) >>> (Int32.toUInt32 8 &&& Int32.toUInt32 31)).toInt32) + (Int32.toUInt32 ((((((a0 - ((Int32.toUInt32 a0 >>> (Int32.toUInt32 1 &&& Int32.toUInt32 31)).toInt32 &&& 1431655765)) &&& 858993459) + ((Int32.toUInt32 (a0 - ((Int32.toUInt32 a0 >>> (Int32.toUInt32 1 &&& Int32.toUInt32 31)).toInt32 &&& 1431655765)) >>> (Int32.toUInt32 2 &&& Int32.toUInt32 31)).toInt32 &&& 858993459)) + (Int32.toUInt32 (((a0 - ((Int32.toUInt32 a0 >>> (Int32.toUInt32 1 &&& Int32.toUInt32 31)).toInt32 &&& 1431655765)) &&& 858993459) + ((Int32.toUInt32 (a0 - ((Int32.toUInt32 a0 >>> (Int32.toUInt32 1 &&& Int32.toUInt32 31)).toInt32 &&& 1431655765)) >>> (Int32.toUInt32 2 &&& Int32.toUInt32 31)).toInt32 &&& 858993459)) >>> (Int32.toUInt32 4 &&& Int32.toUInt32 31)).toInt32) &&& 252645135) + (Int32.toUInt32 (((((a0 - ((Int32.toUInt32 a0 >>> (Int32.toUInt32 1 &&& Int32.toUInt32 31)).toInt32 &&& 1431655765)) &&& 858993459) + ((Int32.toUInt32 (a0 - ((Int32.toUInt32 a0 >>> (Int32.toUInt32 1 &&& Int32.toUInt32 31)).toInt32 &&& 1431655765)) >>> (Int32.toUInt32 2 &&& Int32.toUInt32 31)).toInt32 &&& 858993459)) + (Int32.toUInt32 (((a0 - ((Int32.toUInt32 a0 >>> (Int32.toUInt32 1 &&& Int32.toUInt32 31)).toInt32 &&& 1431655765)) &&& 858993459) + ((Int32.toUInt32 (a0 - ((Int32.toUInt32 a0 >>> (Int32.toUInt32 1 &&& Int32.toUInt32 31)).toInt32 &&& 1431655765)) >>> (Int32.toUInt32 2 &&& Int32.toUInt32 31)).toInt32 &&& 858993459)) >>> (Int32.toUInt32 4 &&& Int32.toUInt32 31)).toInt32) &&& 252645135) >>> (Int32.toUInt32 8 &&& Int32.toUInt32 31)).toInt32) >>> (Int32.toUInt32 16 &&& Int32.toUInt32 31)).toInt32) &&& 63)
set_option maxRecDepth 20000 in
theorem k_99 (d : Nat) {M : ZMem} {a0 : Int32} {out : Int32} (h : f_99 M a0 = some out) : zrn (d) 99 [.int a0] M (some (.int out), M) := by
  unfold f_99 at h
  refine zrn_of (L := [(0, .int a0)]) rfl ?_
  refine zo_iload_n (p' := 1) (zi_99 rfl) rfl rfl ?_
  refine zo_iload_n (p' := 2) (zi_99 rfl) rfl rfl ?_
  refine zo_iconst (p' := 3) (v := 1) (zi_99 rfl) rfl rfl ?_
  refine zo_iushr (p' := 4) (zi_99 rfl) rfl ?_
  refine zo_ldcw (p' := 7) (v := 1431655765) (zi_99 rfl) rfl rfl ?_
  refine zo_iand (p' := 8) (zi_99 rfl) rfl ?_
  refine zo_isub (p' := 9) (zi_99 rfl) rfl ?_
  refine zo_istore_n (p' := 10) (L' := [(0, .int ((a0 - ((Int32.toUInt32 a0 >>> (Int32.toUInt32 1 &&& Int32.toUInt32 31)).toInt32 &&& 1431655765))))]) (zi_99 rfl) rfl zm_99_0 ⟨Or.inl ⟨rfl, rfl⟩, trivial⟩ ?_
  refine zo_iload_n (p' := 11) (zi_99 rfl) rfl rfl ?_
  refine zo_ldcw (p' := 14) (v := 858993459) (zi_99 rfl) rfl rfl ?_
  refine zo_iand (p' := 15) (zi_99 rfl) rfl ?_
  refine zo_iload_n (p' := 16) (zi_99 rfl) rfl rfl ?_
  refine zo_iconst (p' := 17) (v := 2) (zi_99 rfl) rfl rfl ?_
  refine zo_iushr (p' := 18) (zi_99 rfl) rfl ?_
  refine zo_ldcw (p' := 21) (v := 858993459) (zi_99 rfl) rfl rfl ?_
  refine zo_iand (p' := 22) (zi_99 rfl) rfl ?_
  refine zo_iadd (p' := 23) (zi_99 rfl) rfl ?_
  refine zo_istore_n (p' := 24) (L' := [(0, .int ((((a0 - ((Int32.toUInt32 a0 >>> (Int32.toUInt32 1 &&& Int32.toUInt32 31)).toInt32 &&& 1431655765)) &&& 858993459) + ((Int32.toUInt32 (a0 - ((Int32.toUInt32 a0 >>> (Int32.toUInt32 1 &&& Int32.toUInt32 31)).toInt32 &&& 1431655765)) >>> (Int32.toUInt32 2 &&& Int32.toUInt32 31)).toInt32 &&& 858993459))))]) (zi_99 rfl) rfl zm_99_0 ⟨Or.inl ⟨rfl, rfl⟩, trivial⟩ ?_
  refine zo_iload_n (p' := 25) (zi_99 rfl) rfl rfl ?_
  refine zo_iload_n (p' := 26) (zi_99 rfl) rfl rfl ?_
  refine zo_iconst (p' := 27) (v := 4) (zi_99 rfl) rfl rfl ?_
  refine zo_iushr (p' := 28) (zi_99 rfl) rfl ?_
  refine zo_iadd (p' := 29) (zi_99 rfl) rfl ?_
  refine zo_ldcw (p' := 32) (v := 252645135) (zi_99 rfl) rfl rfl ?_
  refine zo_iand (p' := 33) (zi_99 rfl) rfl ?_
  refine zo_istore_n (p' := 34) (L' := [(0, .int ((((((a0 - ((Int32.toUInt32 a0 >>> (Int32.toUInt32 1 &&& Int32.toUInt32 31)).toInt32 &&& 1431655765)) &&& 858993459) + ((Int32.toUInt32 (a0 - ((Int32.toUInt32 a0 >>> (Int32.toUInt32 1 &&& Int32.toUInt32 31)).toInt32 &&& 1431655765)) >>> (Int32.toUInt32 2 &&& Int32.toUInt32 31)).toInt32 &&& 858993459)) + (Int32.toUInt32 (((a0 - ((Int32.toUInt32 a0 >>> (Int32.toUInt32 1 &&& Int32.toUInt32 31)).toInt32 &&& 1431655765)) &&& 858993459) + ((Int32.toUInt32 (a0 - ((Int32.toUInt32 a0 >>> (Int32.toUInt32 1 &&& Int32.toUInt32 31)).toInt32 &&& 1431655765)) >>> (Int32.toUInt32 2 &&& Int32.toUInt32 31)).toInt32 &&& 858993459)) >>> (Int32.toUInt32 4 &&& Int32.toUInt32 31)).toInt32) &&& 252645135)))]) (zi_99 rfl) rfl zm_99_0 ⟨Or.inl ⟨rfl, rfl⟩, trivial⟩ ?_
  refine zo_iload_n (p' := 35) (zi_99 rfl) rfl rfl ?_
  refine zo_iload_n (p' := 36) (zi_99 rfl) rfl rfl ?_
  refine zo_bipush (p' := 38) (v := 8) (zi_99 rfl) rfl rfl ?_
  refine zo_iushr (p' := 39) (zi_99 rfl) rfl ?_
  refine zo_iadd (p' := 40) (zi_99 rfl) rfl ?_
  refine zo_istore_n (p' := 41) (L' := [(0, .int (((((((a0 - ((Int32.toUInt32 a0 >>> (Int32.toUInt32 1 &&& Int32.toUInt32 31)).toInt32 &&& 1431655765)) &&& 858993459) + ((Int32.toUInt32 (a0 - ((Int32.toUInt32 a0 >>> (Int32.toUInt32 1 &&& Int32.toUInt32 31)).toInt32 &&& 1431655765)) >>> (Int32.toUInt32 2 &&& Int32.toUInt32 31)).toInt32 &&& 858993459)) + (Int32.toUInt32 (((a0 - ((Int32.toUInt32 a0 >>> (Int32.toUInt32 1 &&& Int32.toUInt32 31)).toInt32 &&& 1431655765)) &&& 858993459) + ((Int32.toUInt32 (a0 - ((Int32.toUInt32 a0 >>> (Int32.toUInt32 1 &&& Int32.toUInt32 31)).toInt32 &&& 1431655765)) >>> (Int32.toUInt32 2 &&& Int32.toUInt32 31)).toInt32 &&& 858993459)) >>> (Int32.toUInt32 4 &&& Int32.toUInt32 31)).toInt32) &&& 252645135) + (Int32.toUInt32 (((((a0 - ((Int32.toUInt32 a0 >>> (Int32.toUInt32 1 &&& Int32.toUInt32 31)).toInt32 &&& 1431655765)) &&& 858993459) + ((Int32.toUInt32 (a0 - ((Int32.toUInt32 a0 >>> (Int32.toUInt32 1 &&& Int32.toUInt32 31)).toInt32 &&& 1431655765)) >>> (Int32.toUInt32 2 &&& Int32.toUInt32 31)).toInt32 &&& 858993459)) + (Int32.toUInt32 (((a0 - ((Int32.toUInt32 a0 >>> (Int32.toUInt32 1 &&& Int32.toUInt32 31)).toInt32 &&& 1431655765)) &&& 858993459) + ((Int32.toUInt32 (a0 - ((Int32.toUInt32 a0 >>> (Int32.toUInt32 1 &&& Int32.toUInt32 31)).toInt32 &&& 1431655765)) >>> (Int32.toUInt32 2 &&& Int32.toUInt32 31)).toInt32 &&& 858993459)) >>> (Int32.toUInt32 4 &&& Int32.toUInt32 31)).toInt32) &&& 252645135) >>> (Int32.toUInt32 8 &&& Int32.toUInt32 31)).toInt32)))]) (zi_99 rfl) rfl zm_99_0 ⟨Or.inl ⟨rfl, rfl⟩, trivial⟩ ?_
  refine zo_iload_n (p' := 42) (zi_99 rfl) rfl rfl ?_
  refine zo_iload_n (p' := 43) (zi_99 rfl) rfl rfl ?_
  refine zo_bipush (p' := 45) (v := 16) (zi_99 rfl) rfl rfl ?_
  refine zo_iushr (p' := 46) (zi_99 rfl) rfl ?_
  refine zo_iadd (p' := 47) (zi_99 rfl) rfl ?_
  refine zo_istore_n (p' := 48) (L' := [(0, .int ((((((((a0 - ((Int32.toUInt32 a0 >>> (Int32.toUInt32 1 &&& Int32.toUInt32 31)).toInt32 &&& 1431655765)) &&& 858993459) + ((Int32.toUInt32 (a0 - ((Int32.toUInt32 a0 >>> (Int32.toUInt32 1 &&& Int32.toUInt32 31)).toInt32 &&& 1431655765)) >>> (Int32.toUInt32 2 &&& Int32.toUInt32 31)).toInt32 &&& 858993459)) + (Int32.toUInt32 (((a0 - ((Int32.toUInt32 a0 >>> (Int32.toUInt32 1 &&& Int32.toUInt32 31)).toInt32 &&& 1431655765)) &&& 858993459) + ((Int32.toUInt32 (a0 - ((Int32.toUInt32 a0 >>> (Int32.toUInt32 1 &&& Int32.toUInt32 31)).toInt32 &&& 1431655765)) >>> (Int32.toUInt32 2 &&& Int32.toUInt32 31)).toInt32 &&& 858993459)) >>> (Int32.toUInt32 4 &&& Int32.toUInt32 31)).toInt32) &&& 252645135) + (Int32.toUInt32 (((((a0 - ((Int32.toUInt32 a0 >>> (Int32.toUInt32 1 &&& Int32.toUInt32 31)).toInt32 &&& 1431655765)) &&& 858993459) + ((Int32.toUInt32 (a0 - ((Int32.toUInt32 a0 >>> (Int32.toUInt32 1 &&& Int32.toUInt32 31)).toInt32 &&& 1431655765)) >>> (Int32.toUInt32 2 &&& Int32.toUInt32 31)).toInt32 &&& 858993459)) + (Int32.toUInt32 (((a0 - ((Int32.toUInt32 a0 >>> (Int32.toUInt32 1 &&& Int32.toUInt32 31)).toInt32 &&& 1431655765)) &&& 858993459) + ((Int32.toUInt32 (a0 - ((Int32.toUInt32 a0 >>> (Int32.toUInt32 1 &&& Int32.toUInt32 31)).toInt32 &&& 1431655765)) >>> (Int32.toUInt32 2 &&& Int32.toUInt32 31)).toInt32 &&& 858993459)) >>> (Int32.toUInt32 4 &&& Int32.toUInt32 31)).toInt32) &&& 252645135) >>> (Int32.toUInt32 8 &&& Int32.toUInt32 31)).toInt32) + (Int32.toUInt32 ((((((a0 - ((Int32.toUInt32 a0 >>> (Int32.toUInt32 1 &&& Int32.toUInt32 31)).toInt32 &&& 1431655765)) &&& 858993459) + ((Int32.toUInt32 (a0 - ((Int32.toUInt32 a0 >>> (Int32.toUInt32 1 &&& Int32.toUInt32 31)).toInt32 &&& 1431655765)) >>> (Int32.toUInt32 2 &&& Int32.toUInt32 31)).toInt32 &&& 858993459)) + (Int32.toUInt32 (((a0 - ((Int32.toUInt32 a0 >>> (Int32.toUInt32 1 &&& Int32.toUInt32 31)).toInt32 &&& 1431655765)) &&& 858993459) + ((Int32.toUInt32 (a0 - ((Int32.toUInt32 a0 >>> (Int32.toUInt32 1 &&& Int32.toUInt32 31)).toInt32 &&& 1431655765)) >>> (Int32.toUInt32 2 &&& Int32.toUInt32 31)).toInt32 &&& 858993459)) >>> (Int32.toUInt32 4 &&& Int32.toUInt32 31)).toInt32) &&& 252645135) + (Int32.toUInt32 (((((a0 - ((Int32.toUInt32 a0 >>> (Int32.toUInt32 1 &&& Int32.toUInt32 31)).toInt32 &&& 1431655765)) &&& 858993459) + ((Int32.toUInt32 (a0 - ((Int32.toUInt32 a0 >>> (Int32.toUInt32 1 &&& Int32.toUInt32 31)).toInt32 &&& 1431655765)) >>> (Int32.toUInt32 2 &&& Int32.toUInt32 31)).toInt32 &&& 858993459)) + (Int32.toUInt32 (((a0 - ((Int32.toUInt32 a0 >>> (Int32.toUInt32 1 &&& Int32.toUInt32 31)).toInt32 &&& 1431655765)) &&& 858993459) + ((Int32.toUInt32 (a0 - ((Int32.toUInt32 a0 >>> (Int32.toUInt32 1 &&& Int32.toUInt32 31)).toInt32 &&& 1431655765)) >>> (Int32.toUInt32 2 &&& Int32.toUInt32 31)).toInt32 &&& 858993459)) >>> (Int32.toUInt32 4 &&& Int32.toUInt32 31)).toInt32) &&& 252645135) >>> (Int32.toUInt32 8 &&& Int32.toUInt32 31)).toInt32) >>> (Int32.toUInt32 16 &&& Int32.toUInt32 31)).toInt32)))]) (zi_99 rfl) rfl zm_99_0 ⟨Or.inl ⟨rfl, rfl⟩, trivial⟩ ?_
  refine zo_iload_n (p' := 49) (zi_99 rfl) rfl rfl ?_
  refine zo_bipush (p' := 51) (v := 63) (zi_99 rfl) rfl rfl ?_
  refine zo_iand (p' := 52) (zi_99 rfl) rfl ?_
  have g1 := Option.some.inj h
  subst g1
  exact zo_iret (zi_99 rfl) rfl ⟨rfl, rfl⟩
/-- SlateHalves$Planner.sumWith(II)I -/
def f_102 (M : ZMem) (o : Nat) (a0 : Int32) (a1 : Int32) : Option (Int32) := if zok M 5 o = true then (zb (zgi M 5 2 o) fun x1 => zb (f_99 M a1) fun x3 => if (a1 &&& (1 <<< (a0 &&& 31))) = 0 then (some (-1)) else (zb (zgr M 5 4 o) fun r6 => zb r6 fun q8 => zb (zlen none M q8) fun x9 => if x9 ≤ a1 then (some (-1)) else (zb (f_14 M ((x1 - x3)) 0 5) fun x12 => if ¬ x12 = 0 then (zb (zgr M 5 0 o) fun r15 => zb r15 fun q17 => zb (zai M q17 ((a0 * 6) + (x1 - x3))) fun x18 => zb (zgr M 5 4 o) fun r20 => zb r20 fun q22 => zb (zai M q22 (a1 ^^^ (1 <<< (a0 &&& 31)))) fun x23 => some (x18 + x23)) else (some (-1))))) else none
theorem f_102_ok {M : ZMem} {o : Nat} {a0 : Int32} {a1 : Int32} {out : Int32} (h : f_102 M o a0 a1 = some out) : zok M 5 o = true := by
  unfold f_102 at h
  by_cases hok : zok M 5 o = true
  · exact hok
  · rw [if_neg hok] at h; cases h
set_option maxRecDepth 20000 in
theorem k_102 (d : Nat) {M : ZMem} {o : Nat} {a0 : Int32} {a1 : Int32} {out : Int32} (h : f_102 M o a0 a1 = some out) : zrn (d + 1) 102 [zrf (some o), .int a0, .int a1] M (some (.int out), M) := by
  unfold f_102 at h
  by_cases hok : zok M 5 o = true
  · rw [if_pos hok] at h
    refine zrn_of (L := [(0, zrf (some o)), (1, .int a0), (2, .int a1)]) rfl ?_
    refine zo_aload_n (p' := 1) (zi_102 rfl) rfl rfl ?_
    obtain ⟨x1, hx2, g25⟩ := zb_of h
    refine zo_getI (p' := 4) (zi_102 rfl) rfl zl_10_18 hx2 ?_
    refine zo_iload_n (p' := 5) (zi_102 rfl) rfl rfl ?_
    obtain ⟨x3, hx4, g26⟩ := zb_of g25
    refine zo_callSi (p' := 8) (as := [.int a1]) (r := [.int x1]) (zi_102 rfl) rfl (Or.inl zl_10_28) rfl rfl (Nat.le_of_ble_eq_true rfl) (Nat.le_of_ble_eq_true rfl) (k_99 _ hx4) ?_
    refine zo_isub (p' := 9) (zi_102 rfl) rfl ?_
    refine zo_istore_n (p' := 10) (L' := [(0, zrf (some o)), (1, .int a0), (2, .int a1), (3, .int ((x1 - x3)))]) (zi_102 rfl) rfl zm_102_3 ⟨Or.inr ⟨by decide, rfl, fun q => absurd q (by decide)⟩, ⟨Or.inr ⟨by decide, rfl, fun q => absurd q (by decide)⟩, ⟨Or.inr ⟨by decide, rfl, fun _ => rfl⟩, ⟨Or.inl ⟨rfl, rfl⟩, trivial⟩⟩⟩⟩ ?_
    refine zo_iconst (p' := 11) (v := 1) (zi_102 rfl) rfl rfl ?_
    refine zo_iload_n (p' := 12) (zi_102 rfl) rfl rfl ?_
    refine zo_ishl (p' := 13) (zi_102 rfl) rfl ?_
    refine zo_istore (p' := 15) (L' := [(0, zrf (some o)), (1, .int a0), (2, .int a1), (3, .int ((x1 - x3))), (4, .int ((1 <<< (a0 &&& 31))))]) (zi_102 rfl) rfl zm_102_4 ⟨Or.inr ⟨by decide, rfl, fun q => absurd q (by decide)⟩, ⟨Or.inr ⟨by decide, rfl, fun q => absurd q (by decide)⟩, ⟨Or.inr ⟨by decide, rfl, fun q => absurd q (by decide)⟩, ⟨Or.inr ⟨by decide, rfl, fun _ => rfl⟩, ⟨Or.inl ⟨rfl, rfl⟩, trivial⟩⟩⟩⟩⟩ ?_
    refine zo_iload_n (p' := 16) (zi_102 rfl) rfl rfl ?_
    refine zo_iload (p' := 18) (zi_102 rfl) rfl rfl ?_
    refine zo_iand (p' := 19) (zi_102 rfl) rfl ?_
    by_cases hc5 : (a1 &&& (1 <<< (a0 &&& 31))) = 0
    · rw [if_pos hc5] at g26
      refine zo_ifT (p' := 40) (zi_102 rfl) rfl hc5 ?_
      refine zo_iconst (p' := 41) (v := (-1)) (zi_102 rfl) rfl rfl ?_
      have g27 := Option.some.inj g26
      subst g27
      exact zo_iret (zi_102 rfl) rfl ⟨rfl, rfl⟩
    · rw [if_neg hc5] at g26
      refine zo_ifF (p' := 22) (zi_102 rfl) rfl rfl hc5 ?_
      refine zo_iload_n (p' := 23) (zi_102 rfl) rfl rfl ?_
      refine zo_aload_n (p' := 24) (zi_102 rfl) rfl rfl ?_
      obtain ⟨r6, hx7, g28⟩ := zb_of g26
      refine zo_getR (p' := 27) (zi_102 rfl) rfl zl_10_25 hx7 ?_
      obtain ⟨q8, h0, g29⟩ := zb_of g28
      subst h0
      obtain ⟨x9, hx10, g30⟩ := zb_of g29
      refine zo_alen (p' := 28) (zi_102 rfl) rfl hx10 ?_
      by_cases hc11 : x9 ≤ a1
      · rw [if_pos hc11] at g30
        refine zo_icT (p' := 40) (zi_102 rfl) rfl hc11 ?_
        refine zo_iconst (p' := 41) (v := (-1)) (zi_102 rfl) rfl rfl ?_
        have g31 := Option.some.inj g30
        subst g31
        exact zo_iret (zi_102 rfl) rfl ⟨rfl, rfl⟩
      · rw [if_neg hc11] at g30
        refine zo_icF (p' := 31) (zi_102 rfl) rfl rfl hc11 ?_
        refine zo_iload_n (p' := 32) (zi_102 rfl) rfl rfl ?_
        refine zo_iconst (p' := 33) (v := 0) (zi_102 rfl) rfl rfl ?_
        refine zo_iconst (p' := 34) (v := 5) (zi_102 rfl) rfl rfl ?_
        obtain ⟨x12, hx13, g32⟩ := zb_of g30
        refine zo_callSi (p' := 37) (as := [.int ((x1 - x3)), .int 0, .int 5]) (r := []) (zi_102 rfl) rfl (Or.inr zl_10_52) rfl rfl (Nat.le_of_ble_eq_true rfl) (Nat.le_of_ble_eq_true rfl) (k_14 _ hx13) ?_
        by_cases hc14 : ¬ x12 = 0
        · rw [if_pos hc14] at g32
          refine zo_ifT (p' := 42) (zi_102 rfl) rfl hc14 ?_
          refine zo_aload_n (p' := 43) (zi_102 rfl) rfl rfl ?_
          obtain ⟨r15, hx16, g33⟩ := zb_of g32
          refine zo_getR (p' := 46) (zi_102 rfl) rfl zl_10_9 hx16 ?_
          refine zo_iload_n (p' := 47) (zi_102 rfl) rfl rfl ?_
          refine zo_bipush (p' := 49) (v := 6) (zi_102 rfl) rfl rfl ?_
          refine zo_imul (p' := 50) (zi_102 rfl) rfl ?_
          refine zo_iload_n (p' := 51) (zi_102 rfl) rfl rfl ?_
          refine zo_iadd (p' := 52) (zi_102 rfl) rfl ?_
          obtain ⟨q17, h0, g34⟩ := zb_of g33
          subst h0
          obtain ⟨x18, hx19, g35⟩ := zb_of g34
          refine zo_iald (p' := 53) (zi_102 rfl) rfl hx19 ?_
          refine zo_aload_n (p' := 54) (zi_102 rfl) rfl rfl ?_
          obtain ⟨r20, hx21, g36⟩ := zb_of g35
          refine zo_getR (p' := 57) (zi_102 rfl) rfl zl_10_25 hx21 ?_
          refine zo_iload_n (p' := 58) (zi_102 rfl) rfl rfl ?_
          refine zo_iload (p' := 60) (zi_102 rfl) rfl rfl ?_
          refine zo_ixor (p' := 61) (zi_102 rfl) rfl ?_
          obtain ⟨q22, h0, g37⟩ := zb_of g36
          subst h0
          obtain ⟨x23, hx24, g38⟩ := zb_of g37
          refine zo_iald (p' := 62) (zi_102 rfl) rfl hx24 ?_
          refine zo_iadd (p' := 63) (zi_102 rfl) rfl ?_
          have g39 := Option.some.inj g38
          subst g39
          exact zo_iret (zi_102 rfl) rfl ⟨rfl, rfl⟩
        · rw [if_neg hc14] at g32
          refine zo_ifF (p' := 40) (zi_102 rfl) rfl rfl hc14 ?_
          refine zo_iconst (p' := 41) (v := (-1)) (zi_102 rfl) rfl rfl ?_
          have g40 := Option.some.inj g32
          subst g40
          exact zo_iret (zi_102 rfl) rfl ⟨rfl, rfl⟩
  · rw [if_neg hok] at h; cases h
/-- SlateHalves$Planner.mostOf(I)I -/
def f_101_4 : Nat → ZMem → Nat → Int32 → Int32 → Int32 → Option (Int32)
  | 0, _, _, _, _, _ => none
  | z + 1, M, o, b1, b2, b3 => if 6 ≤ b3 then (some b2) else (zb (f_102 M o b3 b1) fun x2 => zb (f_24 M b2 x2) fun x4 => f_101_4 z M o b1 x4 ((b3 + 1)))
set_option maxRecDepth 20000 in
theorem k_101_4 (d : Nat) : ∀ (z : Nat) (M : ZMem) (o : Nat) (b1 : Int32) (b2 : Int32) (b3 : Int32) (out : Int32), f_101_4 z M o b1 b2 b3 = some out → zgo none (d + 2) 101 4 [(0, zrf (some o)), (1, .int b1), (2, .int b2), (3, .int b3)] [] M (some (.int out), M) := by
  intro z
  induction z with
  | zero => intro M o b1 b2 b3 out h; cases h
  | succ z ih =>
    intro M o b1 b2 b3 out h
    rw [f_101_4] at h
    refine zo_iload_n (p' := 5) (zi_101 rfl) rfl rfl ?_
    refine zo_bipush (p' := 7) (v := 6) (zi_101 rfl) rfl rfl ?_
    by_cases hc1 : 6 ≤ b3
    · rw [if_pos hc1] at h
      refine zo_icT (p' := 27) (zi_101 rfl) rfl hc1 ?_
      refine zo_iload_n (p' := 28) (zi_101 rfl) rfl rfl ?_
      have g6 := Option.some.inj h
      subst g6
      exact zo_iret (zi_101 rfl) rfl ⟨rfl, rfl⟩
    · rw [if_neg hc1] at h
      refine zo_icF (p' := 10) (zi_101 rfl) rfl rfl hc1 ?_
      refine zo_iload_n (p' := 11) (zi_101 rfl) rfl rfl ?_
      refine zo_aload_n (p' := 12) (zi_101 rfl) rfl rfl ?_
      refine zo_iload_n (p' := 13) (zi_101 rfl) rfl rfl ?_
      refine zo_iload_n (p' := 14) (zi_101 rfl) rfl rfl ?_
      obtain ⟨x2, hx3, g7⟩ := zb_of h
      refine zo_callVi (p' := 17) (t := 5) (as := [.int b3, .int b1]) (r := [.int b2]) (zi_101 rfl) rfl zl_10_46 rfl rfl (Or.inl ⟨by decide, rfl⟩) (Nat.le_of_ble_eq_true rfl) (Nat.le_of_ble_eq_true rfl) (f_102_ok hx3) (k_102 _ hx3) ?_
      obtain ⟨x4, hx5, g8⟩ := zb_of g7
      refine zo_callSi (p' := 20) (as := [.int b2, .int x2]) (r := []) (zi_101 rfl) rfl (Or.inl zl_10_49) rfl rfl (Nat.le_of_ble_eq_true rfl) (Nat.le_of_ble_eq_true rfl) (k_24 _ hx5) ?_
      refine zo_istore_n (p' := 21) (L' := [(0, zrf (some o)), (1, .int b1), (2, .int x4), (3, .int b3)]) (zi_101 rfl) rfl zm_101_2 ⟨Or.inr ⟨by decide, rfl, fun q => absurd q (by decide)⟩, ⟨Or.inr ⟨by decide, rfl, fun _ => rfl⟩, ⟨Or.inl ⟨rfl, rfl⟩, ⟨Or.inr ⟨by decide, rfl, fun q => absurd q (by decide)⟩, trivial⟩⟩⟩⟩ ?_
      refine zo_iinc (p' := 24) (v := (b3 + 1)) (L' := [(0, zrf (some o)), (1, .int b1), (2, .int x4), (3, .int ((b3 + 1)))]) (zi_101 rfl) rfl zm_101_3 rfl rfl ⟨Or.inr ⟨by decide, rfl, fun q => absurd q (by decide)⟩, ⟨Or.inr ⟨by decide, rfl, fun q => absurd q (by decide)⟩, ⟨Or.inr ⟨by decide, rfl, fun _ => rfl⟩, ⟨Or.inl ⟨rfl, rfl⟩, trivial⟩⟩⟩⟩ ?_
      refine zo_goto (p' := 4) (zi_101 rfl) rfl ?_
      refine zgo_sub (L' := [(0, zrf (some o)), (1, .int b1), (2, .int x4), (3, .int (((b3 + 1))))]) (⟨rfl, rfl, rfl, rfl, trivial⟩) ?_
      exact ih M o b1 x4 ((b3 + 1)) _ g8
def f_101 (M : ZMem) (o : Nat) (a0 : Int32) : Option (Int32) := if zok M 5 o = true then (f_101_4 zF M o a0 0 0) else none
theorem f_101_ok {M : ZMem} {o : Nat} {a0 : Int32} {out : Int32} (h : f_101 M o a0 = some out) : zok M 5 o = true := by
  unfold f_101 at h
  by_cases hok : zok M 5 o = true
  · exact hok
  · rw [if_neg hok] at h; cases h
set_option maxRecDepth 20000 in
theorem k_101 (d : Nat) {M : ZMem} {o : Nat} {a0 : Int32} {out : Int32} (h : f_101 M o a0 = some out) : zrn (d + 2) 101 [zrf (some o), .int a0] M (some (.int out), M) := by
  unfold f_101 at h
  by_cases hok : zok M 5 o = true
  · rw [if_pos hok] at h
    refine zrn_of (L := [(0, zrf (some o)), (1, .int a0)]) rfl ?_
    refine zo_iconst (p' := 1) (v := 0) (zi_101 rfl) rfl rfl ?_
    refine zo_istore_n (p' := 2) (L' := [(0, zrf (some o)), (1, .int a0), (2, .int 0)]) (zi_101 rfl) rfl zm_101_2 ⟨Or.inr ⟨by decide, rfl, fun q => absurd q (by decide)⟩, ⟨Or.inr ⟨by decide, rfl, fun _ => rfl⟩, ⟨Or.inl ⟨rfl, rfl⟩, trivial⟩⟩⟩ ?_
    refine zo_iconst (p' := 3) (v := 0) (zi_101 rfl) rfl rfl ?_
    refine zo_istore_n (p' := 4) (L' := [(0, zrf (some o)), (1, .int a0), (2, .int 0), (3, .int 0)]) (zi_101 rfl) rfl zm_101_3 ⟨Or.inr ⟨by decide, rfl, fun q => absurd q (by decide)⟩, ⟨Or.inr ⟨by decide, rfl, fun q => absurd q (by decide)⟩, ⟨Or.inr ⟨by decide, rfl, fun _ => rfl⟩, ⟨Or.inl ⟨rfl, rfl⟩, trivial⟩⟩⟩⟩ ?_
    refine zgo_sub (L' := [(0, zrf (some o)), (1, .int a0), (2, .int 0), (3, .int 0)]) (⟨rfl, rfl, rfl, rfl, trivial⟩) ?_
    exact k_101_4 _ zF M o a0 0 0 _ h
  · rw [if_neg hok] at h; cases h
/-- SlateHalves$Planner.firstOf(I)I -/
def f_103_2 : Nat → ZMem → Nat → Int32 → Int32 → Option (Int32)
  | 0, _, _, _, _ => none
  | z + 1, M, o, b1, b2 => if 6 ≤ b2 then (some 0) else (zb (f_102 M o b2 b1) fun x2 => zb (zgr M 5 4 o) fun r4 => zb r4 fun q6 => zb (zai M q6 b1) fun x7 => if ¬ x2 = x7 then (f_103_2 z M o b1 ((b2 + 1))) else (some b2))
set_option maxRecDepth 20000 in
theorem k_103_2 (d : Nat) : ∀ (z : Nat) (M : ZMem) (o : Nat) (b1 : Int32) (b2 : Int32) (out : Int32), f_103_2 z M o b1 b2 = some out → zgo none (d + 2) 103 2 [(0, zrf (some o)), (1, .int b1), (2, .int b2)] [] M (some (.int out), M) := by
  intro z
  induction z with
  | zero => intro M o b1 b2 out h; cases h
  | succ z ih =>
    intro M o b1 b2 out h
    rw [f_103_2] at h
    refine zo_iload_n (p' := 3) (zi_103 rfl) rfl rfl ?_
    refine zo_bipush (p' := 5) (v := 6) (zi_103 rfl) rfl rfl ?_
    by_cases hc1 : 6 ≤ b2
    · rw [if_pos hc1] at h
      refine zo_icT (p' := 31) (zi_103 rfl) rfl hc1 ?_
      refine zo_iconst (p' := 32) (v := 0) (zi_103 rfl) rfl rfl ?_
      have g10 := Option.some.inj h
      subst g10
      exact zo_iret (zi_103 rfl) rfl ⟨rfl, rfl⟩
    · rw [if_neg hc1] at h
      refine zo_icF (p' := 8) (zi_103 rfl) rfl rfl hc1 ?_
      refine zo_aload_n (p' := 9) (zi_103 rfl) rfl rfl ?_
      refine zo_iload_n (p' := 10) (zi_103 rfl) rfl rfl ?_
      refine zo_iload_n (p' := 11) (zi_103 rfl) rfl rfl ?_
      obtain ⟨x2, hx3, g11⟩ := zb_of h
      refine zo_callVi (p' := 14) (t := 5) (as := [.int b2, .int b1]) (r := []) (zi_103 rfl) rfl zl_10_46 rfl rfl (Or.inl ⟨by decide, rfl⟩) (Nat.le_of_ble_eq_true rfl) (Nat.le_of_ble_eq_true rfl) (f_102_ok hx3) (k_102 _ hx3) ?_
      refine zo_aload_n (p' := 15) (zi_103 rfl) rfl rfl ?_
      obtain ⟨r4, hx5, g12⟩ := zb_of g11
      refine zo_getR (p' := 18) (zi_103 rfl) rfl zl_10_25 hx5 ?_
      refine zo_iload_n (p' := 19) (zi_103 rfl) rfl rfl ?_
      obtain ⟨q6, h0, g13⟩ := zb_of g12
      subst h0
      obtain ⟨x7, hx8, g14⟩ := zb_of g13
      refine zo_iald (p' := 20) (zi_103 rfl) rfl hx8 ?_
      by_cases hc9 : ¬ x2 = x7
      · rw [if_pos hc9] at g14
        refine zo_icT (p' := 25) (zi_103 rfl) rfl hc9 ?_
        refine zo_iinc (p' := 28) (v := (b2 + 1)) (L' := [(0, zrf (some o)), (1, .int b1), (2, .int ((b2 + 1)))]) (zi_103 rfl) rfl zm_103_2 rfl rfl ⟨Or.inr ⟨by decide, rfl, fun q => absurd q (by decide)⟩, ⟨Or.inr ⟨by decide, rfl, fun _ => rfl⟩, ⟨Or.inl ⟨rfl, rfl⟩, trivial⟩⟩⟩ ?_
        refine zo_goto (p' := 2) (zi_103 rfl) rfl ?_
        refine zgo_sub (L' := [(0, zrf (some o)), (1, .int b1), (2, .int (((b2 + 1))))]) (⟨rfl, rfl, rfl, trivial⟩) ?_
        exact ih M o b1 ((b2 + 1)) _ g14
      · rw [if_neg hc9] at g14
        refine zo_icF (p' := 23) (zi_103 rfl) rfl rfl hc9 ?_
        refine zo_iload_n (p' := 24) (zi_103 rfl) rfl rfl ?_
        have g15 := Option.some.inj g14
        subst g15
        exact zo_iret (zi_103 rfl) rfl ⟨rfl, rfl⟩
def f_103 (M : ZMem) (o : Nat) (a0 : Int32) : Option (Int32) := if zok M 5 o = true then (f_103_2 zF M o a0 0) else none
theorem f_103_ok {M : ZMem} {o : Nat} {a0 : Int32} {out : Int32} (h : f_103 M o a0 = some out) : zok M 5 o = true := by
  unfold f_103 at h
  by_cases hok : zok M 5 o = true
  · exact hok
  · rw [if_neg hok] at h; cases h
set_option maxRecDepth 20000 in
theorem k_103 (d : Nat) {M : ZMem} {o : Nat} {a0 : Int32} {out : Int32} (h : f_103 M o a0 = some out) : zrn (d + 2) 103 [zrf (some o), .int a0] M (some (.int out), M) := by
  unfold f_103 at h
  by_cases hok : zok M 5 o = true
  · rw [if_pos hok] at h
    refine zrn_of (L := [(0, zrf (some o)), (1, .int a0)]) rfl ?_
    refine zo_iconst (p' := 1) (v := 0) (zi_103 rfl) rfl rfl ?_
    refine zo_istore_n (p' := 2) (L' := [(0, zrf (some o)), (1, .int a0), (2, .int 0)]) (zi_103 rfl) rfl zm_103_2 ⟨Or.inr ⟨by decide, rfl, fun q => absurd q (by decide)⟩, ⟨Or.inr ⟨by decide, rfl, fun _ => rfl⟩, ⟨Or.inl ⟨rfl, rfl⟩, trivial⟩⟩⟩ ?_
    refine zgo_sub (L' := [(0, zrf (some o)), (1, .int a0), (2, .int 0)]) (⟨rfl, rfl, rfl, trivial⟩) ?_
    exact k_103_2 _ zF M o a0 0 _ h
  · rw [if_neg hok] at h; cases h
/-- SlateHalves$Planner.plan(I)V -/
def f_100_49 (r22 : ZMem → Nat → Int32 → Int32 → Option (ZMem)) (M : ZMem) (o : Nat) (b1 : Int32) (b2 : Int32) : Option (ZMem) := r22 M o b1 ((b2 + 1))
def f_100_77 : Nat → ZMem → Nat → Int32 → Int32 → Option (ZMem)
  | 0, _, _, _, _ => none
  | z + 1, M, o, b1, b2 => zb (zgi M 5 2 o) fun x58 => if x58 ≤ b2 then (some M) else (zb (zgr M 5 1 o) fun r61 => zb (f_103 M o b1) fun x63 => zb r61 fun q65 => zb (zsa M 20 q65 b2 x63) fun M66 => zb (zgr M66 5 1 o) fun r68 => zb r68 fun q70 => zb (zai M66 q70 b2) fun x71 => f_100_77 z M66 o ((b1 &&& ((1 <<< (x71 &&& 31)) ^^^ (-1)))) ((b2 + 1)))
def f_100_22 : Nat → ZMem → Nat → Int32 → Int32 → Option (ZMem)
  | 0, _, _, _, _ => none
  | z + 1, M, o, b1, b2 => zb (zgr M 5 4 o) fun r18 => zb r18 fun q20 => zb (zlen none M q20) fun x21 => if x21 ≤ b2 then (zb (zgr M 5 4 o) fun r24 => zb r24 fun q26 => zb (zlen none M q26) fun x27 => zb (zgr M 5 4 o) fun r29 => zb r29 fun q31 => zb (zai M q31 (b1 &&& (x27 - 1))) fun x32 => zb (zpf M 5 3 o (.int x32) false) fun M34 => f_100_77 zF M34 o ((b1 &&& (x27 - 1))) 0) else (if ¬ (b2 &&& b1) = b2 then (f_100_49 (fun M a0 a1 a2 => f_100_22 z M a0 a1 a2) M o b1 b2) else (zb (zgr M 5 4 o) fun r37 => zb (f_101 M o b2) fun x39 => zb r37 fun q41 => zb (zsa M 20 q41 b2 x39) fun M42 => f_100_49 (fun M a0 a1 a2 => f_100_22 z M a0 a1 a2) M42 o b1 b2))
set_option maxRecDepth 20000 in
theorem k_100_49 (d : Nat) (r22 : ZMem → Nat → Int32 → Int32 → Option (ZMem)) (h22 : ∀ (M : ZMem) (a0 : Nat) (a1 : Int32) (a2 : Int32) (out : ZMem), r22 M a0 a1 a2 = some out → zgo none (d + 3) 100 22 [(0, zrf (some a0)), (1, .int a1), (2, .int a2)] [] M (none, out)) : ∀ (M : ZMem) (o : Nat) (b1 : Int32) (b2 : Int32) (out : ZMem), f_100_49 r22 M o b1 b2 = some out → zgo none (d + 3) 100 49 [(0, zrf (some o)), (1, .int b1), (2, .int b2)] [] M (none, out) := by
  intro M o b1 b2 out h
  unfold f_100_49 at h
  refine zo_iinc (p' := 52) (v := (b2 + 1)) (L' := [(0, zrf (some o)), (1, .int b1), (2, .int ((b2 + 1)))]) (zi_100 rfl) rfl zm_100_2 rfl rfl ⟨Or.inr ⟨by decide, rfl, fun q => absurd q (by decide)⟩, ⟨Or.inr ⟨by decide, rfl, fun _ => rfl⟩, ⟨Or.inl ⟨rfl, rfl⟩, trivial⟩⟩⟩ ?_
  refine zo_goto (p' := 22) (zi_100 rfl) rfl ?_
  refine zgo_sub (L' := [(0, zrf (some o)), (1, .int b1), (2, .int (((b2 + 1))))]) (⟨rfl, rfl, rfl, trivial⟩) ?_
  exact h22 M o b1 ((b2 + 1)) _ h
set_option maxRecDepth 20000 in
theorem k_100_77 (d : Nat) : ∀ (z : Nat) (M : ZMem) (o : Nat) (b1 : Int32) (b2 : Int32) (out : ZMem), f_100_77 z M o b1 b2 = some out → zgo none (d + 3) 100 77 [(0, zrf (some o)), (2, .int b1), (3, .int b2)] [] M (none, out) := by
  intro z
  induction z with
  | zero => intro M o b1 b2 out h; cases h
  | succ z ih =>
    intro M o b1 b2 out h
    rw [f_100_77] at h
    refine zo_iload_n (p' := 78) (zi_100 rfl) rfl rfl ?_
    refine zo_aload_n (p' := 79) (zi_100 rfl) rfl rfl ?_
    obtain ⟨x58, hx59, g73⟩ := zb_of h
    refine zo_getI (p' := 82) (zi_100 rfl) rfl zl_10_18 hx59 ?_
    by_cases hc60 : x58 ≤ b2
    · rw [if_pos hc60] at g73
      refine zo_icT (p' := 115) (zi_100 rfl) rfl hc60 ?_
      have g74 := Option.some.inj g73
      subst g74
      exact zo_vret (zi_100 rfl) rfl
    · rw [if_neg hc60] at g73
      refine zo_icF (p' := 85) (zi_100 rfl) rfl rfl hc60 ?_
      refine zo_aload_n (p' := 86) (zi_100 rfl) rfl rfl ?_
      obtain ⟨r61, hx62, g75⟩ := zb_of g73
      refine zo_getR (p' := 89) (zi_100 rfl) rfl zl_10_15 hx62 ?_
      refine zo_iload_n (p' := 90) (zi_100 rfl) rfl rfl ?_
      refine zo_aload_n (p' := 91) (zi_100 rfl) rfl rfl ?_
      refine zo_iload_n (p' := 92) (zi_100 rfl) rfl rfl ?_
      obtain ⟨x63, hx64, g76⟩ := zb_of g75
      refine zo_callVi (p' := 95) (t := 5) (as := [.int b1]) (r := [.int b2, zrf r61]) (zi_100 rfl) rfl zl_10_43 rfl rfl (Or.inl ⟨by decide, rfl⟩) (by simp [zrf_cat, zcat_i, zcat_l, zcat_r]) (Nat.le_of_ble_eq_true rfl) (f_103_ok hx64) (k_103 _ hx64) ?_
      obtain ⟨q65, h0, g77⟩ := zb_of g76
      subst h0
      obtain ⟨M66, hx67, g78⟩ := zb_of g77
      refine zo_iast (p' := 96) (zi_100 rfl) rfl hx67 ?_
      refine zo_iload_n (p' := 97) (zi_100 rfl) rfl rfl ?_
      refine zo_iconst (p' := 98) (v := 1) (zi_100 rfl) rfl rfl ?_
      refine zo_aload_n (p' := 99) (zi_100 rfl) rfl rfl ?_
      obtain ⟨r68, hx69, g79⟩ := zb_of g78
      refine zo_getR (p' := 102) (zi_100 rfl) rfl zl_10_15 hx69 ?_
      refine zo_iload_n (p' := 103) (zi_100 rfl) rfl rfl ?_
      obtain ⟨q70, h0, g80⟩ := zb_of g79
      subst h0
      obtain ⟨x71, hx72, g81⟩ := zb_of g80
      refine zo_iald (p' := 104) (zi_100 rfl) rfl hx72 ?_
      refine zo_ishl (p' := 105) (zi_100 rfl) rfl ?_
      refine zo_iconst (p' := 106) (v := (-1)) (zi_100 rfl) rfl rfl ?_
      refine zo_ixor (p' := 107) (zi_100 rfl) rfl ?_
      refine zo_iand (p' := 108) (zi_100 rfl) rfl ?_
      refine zo_istore_n (p' := 109) (L' := [(0, zrf (some o)), (2, .int ((b1 &&& ((1 <<< (x71 &&& 31)) ^^^ (-1))))), (3, .int b2)]) (zi_100 rfl) rfl zm_100_2 ⟨Or.inr ⟨by decide, rfl, fun q => absurd q (by decide)⟩, ⟨Or.inl ⟨rfl, rfl⟩, ⟨Or.inr ⟨by decide, rfl, fun q => absurd q (by decide)⟩, trivial⟩⟩⟩ ?_
      refine zo_iinc (p' := 112) (v := (b2 + 1)) (L' := [(0, zrf (some o)), (2, .int ((b1 &&& ((1 <<< (x71 &&& 31)) ^^^ (-1))))), (3, .int ((b2 + 1)))]) (zi_100 rfl) rfl zm_100_3 rfl rfl ⟨Or.inr ⟨by decide, rfl, fun q => absurd q (by decide)⟩, ⟨Or.inr ⟨by decide, rfl, fun _ => rfl⟩, ⟨Or.inl ⟨rfl, rfl⟩, trivial⟩⟩⟩ ?_
      refine zo_goto (p' := 77) (zi_100 rfl) rfl ?_
      refine zgo_sub (L' := [(0, zrf (some o)), (2, .int (((b1 &&& ((1 <<< (x71 &&& 31)) ^^^ (-1)))))), (3, .int (((b2 + 1))))]) (⟨rfl, rfl, rfl, trivial⟩) ?_
      exact ih M66 o ((b1 &&& ((1 <<< (x71 &&& 31)) ^^^ (-1)))) ((b2 + 1)) _ g81
set_option maxRecDepth 20000 in
theorem k_100_22 (d : Nat) : ∀ (z : Nat) (M : ZMem) (o : Nat) (b1 : Int32) (b2 : Int32) (out : ZMem), f_100_22 z M o b1 b2 = some out → zgo none (d + 3) 100 22 [(0, zrf (some o)), (1, .int b1), (2, .int b2)] [] M (none, out) := by
  intro z
  induction z with
  | zero => intro M o b1 b2 out h; cases h
  | succ z ih =>
    intro M o b1 b2 out h
    rw [f_100_22] at h
    refine zo_iload_n (p' := 23) (zi_100 rfl) rfl rfl ?_
    refine zo_aload_n (p' := 24) (zi_100 rfl) rfl rfl ?_
    obtain ⟨r18, hx19, g44⟩ := zb_of h
    refine zo_getR (p' := 27) (zi_100 rfl) rfl zl_10_25 hx19 ?_
    obtain ⟨q20, h0, g45⟩ := zb_of g44
    subst h0
    obtain ⟨x21, hx22, g46⟩ := zb_of g45
    refine zo_alen (p' := 28) (zi_100 rfl) rfl hx22 ?_
    by_cases hc23 : x21 ≤ b2
    · rw [if_pos hc23] at g46
      refine zo_icT (p' := 55) (zi_100 rfl) rfl hc23 ?_
      refine zo_iload_n (p' := 56) (zi_100 rfl) rfl rfl ?_
      refine zo_aload_n (p' := 57) (zi_100 rfl) rfl rfl ?_
      obtain ⟨r24, hx25, g47⟩ := zb_of g46
      refine zo_getR (p' := 60) (zi_100 rfl) rfl zl_10_25 hx25 ?_
      obtain ⟨q26, h0, g48⟩ := zb_of g47
      subst h0
      obtain ⟨x27, hx28, g49⟩ := zb_of g48
      refine zo_alen (p' := 61) (zi_100 rfl) rfl hx28 ?_
      refine zo_iconst (p' := 62) (v := 1) (zi_100 rfl) rfl rfl ?_
      refine zo_isub (p' := 63) (zi_100 rfl) rfl ?_
      refine zo_iand (p' := 64) (zi_100 rfl) rfl ?_
      refine zo_istore_n (p' := 65) (L' := [(0, zrf (some o)), (1, .int b1), (2, .int ((b1 &&& (x27 - 1))))]) (zi_100 rfl) rfl zm_100_2 ⟨Or.inr ⟨by decide, rfl, fun q => absurd q (by decide)⟩, ⟨Or.inr ⟨by decide, rfl, fun _ => rfl⟩, ⟨Or.inl ⟨rfl, rfl⟩, trivial⟩⟩⟩ ?_
      refine zo_aload_n (p' := 66) (zi_100 rfl) rfl rfl ?_
      refine zo_aload_n (p' := 67) (zi_100 rfl) rfl rfl ?_
      obtain ⟨r29, hx30, g50⟩ := zb_of g49
      refine zo_getR (p' := 70) (zi_100 rfl) rfl zl_10_25 hx30 ?_
      refine zo_iload_n (p' := 71) (zi_100 rfl) rfl rfl ?_
      obtain ⟨q31, h0, g51⟩ := zb_of g50
      subst h0
      obtain ⟨x32, hx33, g52⟩ := zb_of g51
      refine zo_iald (p' := 72) (zi_100 rfl) rfl hx33 ?_
      obtain ⟨M34, hx35, g53⟩ := zb_of g52
      refine zo_putI (p' := 75) (zi_100 rfl) rfl zl_10_22 (zpb_100 _) hx35 ?_
      refine zo_iconst (p' := 76) (v := 0) (zi_100 rfl) rfl rfl ?_
      refine zo_istore_n (p' := 77) (L' := [(0, zrf (some o)), (1, .int b1), (2, .int ((b1 &&& (x27 - 1)))), (3, .int 0)]) (zi_100 rfl) rfl zm_100_3 ⟨Or.inr ⟨by decide, rfl, fun q => absurd q (by decide)⟩, ⟨Or.inr ⟨by decide, rfl, fun q => absurd q (by decide)⟩, ⟨Or.inr ⟨by decide, rfl, fun _ => rfl⟩, ⟨Or.inl ⟨rfl, rfl⟩, trivial⟩⟩⟩⟩ ?_
      refine zgo_sub (L' := [(0, zrf (some o)), (2, .int (((b1 &&& (x27 - 1))))), (3, .int 0)]) (⟨rfl, rfl, rfl, trivial⟩) ?_
      exact k_100_77 _ zF M34 o ((b1 &&& (x27 - 1))) 0 _ g53
    · rw [if_neg hc23] at g46
      refine zo_icF (p' := 31) (zi_100 rfl) rfl rfl hc23 ?_
      refine zo_iload_n (p' := 32) (zi_100 rfl) rfl rfl ?_
      refine zo_iload_n (p' := 33) (zi_100 rfl) rfl rfl ?_
      refine zo_iand (p' := 34) (zi_100 rfl) rfl ?_
      refine zo_iload_n (p' := 35) (zi_100 rfl) rfl rfl ?_
      by_cases hc36 : ¬ (b2 &&& b1) = b2
      · rw [if_pos hc36] at g46
        refine zo_icT (p' := 49) (zi_100 rfl) rfl hc36 ?_
        refine zgo_sub (L' := [(0, zrf (some o)), (1, .int b1), (2, .int b2)]) (⟨rfl, rfl, rfl, trivial⟩) ?_
        exact k_100_49 _ _ (fun M a0 a1 a2 out h => ih M a0 a1 a2 out h) M o b1 b2 _ g46
      · rw [if_neg hc36] at g46
        refine zo_icF (p' := 38) (zi_100 rfl) rfl rfl hc36 ?_
        refine zo_aload_n (p' := 39) (zi_100 rfl) rfl rfl ?_
        obtain ⟨r37, hx38, g54⟩ := zb_of g46
        refine zo_getR (p' := 42) (zi_100 rfl) rfl zl_10_25 hx38 ?_
        refine zo_iload_n (p' := 43) (zi_100 rfl) rfl rfl ?_
        refine zo_aload_n (p' := 44) (zi_100 rfl) rfl rfl ?_
        refine zo_iload_n (p' := 45) (zi_100 rfl) rfl rfl ?_
        obtain ⟨x39, hx40, g55⟩ := zb_of g54
        refine zo_callVi (p' := 48) (t := 5) (as := [.int b2]) (r := [.int b2, zrf r37]) (zi_100 rfl) rfl zl_10_40 rfl rfl (Or.inl ⟨by decide, rfl⟩) (by simp [zrf_cat, zcat_i, zcat_l, zcat_r]) (Nat.le_of_ble_eq_true rfl) (f_101_ok hx40) (k_101 _ hx40) ?_
        obtain ⟨q41, h0, g56⟩ := zb_of g55
        subst h0
        obtain ⟨M42, hx43, g57⟩ := zb_of g56
        refine zo_iast (p' := 49) (zi_100 rfl) rfl hx43 ?_
        refine zgo_sub (L' := [(0, zrf (some o)), (1, .int b1), (2, .int b2)]) (⟨rfl, rfl, rfl, trivial⟩) ?_
        exact k_100_49 _ _ (fun M a0 a1 a2 out h => ih M a0 a1 a2 out h) M42 o b1 b2 _ g57
def f_100 (M : ZMem) (o : Nat) (a0 : Int32) : Option (ZMem) := if zok M 5 o = true then (zb (f_99 M a0) fun x1 => zb (f_37 M 6 x1) fun x3 => zb (zpf M 5 2 o (.int x3) false) fun M5 => zb (zgr M5 5 4 o) fun r7 => zb r7 fun q9 => zb (zsa M5 20 q9 0 0) fun M10 => f_100_22 zF M10 o a0 1) else none
theorem f_100_ok {M : ZMem} {o : Nat} {a0 : Int32} {out : ZMem} (h : f_100 M o a0 = some out) : zok M 5 o = true := by
  unfold f_100 at h
  by_cases hok : zok M 5 o = true
  · exact hok
  · rw [if_neg hok] at h; cases h
set_option maxRecDepth 20000 in
theorem k_100 (d : Nat) {M : ZMem} {o : Nat} {a0 : Int32} {out : ZMem} (h : f_100 M o a0 = some out) : zrn (d + 3) 100 [zrf (some o), .int a0] M (none, out) := by
  unfold f_100 at h
  by_cases hok : zok M 5 o = true
  · rw [if_pos hok] at h
    refine zrn_of (L := [(0, zrf (some o)), (1, .int a0)]) rfl ?_
    refine zo_aload_n (p' := 1) (zi_100 rfl) rfl rfl ?_
    refine zo_bipush (p' := 3) (v := 6) (zi_100 rfl) rfl rfl ?_
    refine zo_iload_n (p' := 4) (zi_100 rfl) rfl rfl ?_
    obtain ⟨x1, hx2, g12⟩ := zb_of h
    refine zo_callSi (p' := 7) (as := [.int a0]) (r := [.int 6, zrf (some o)]) (zi_100 rfl) rfl (Or.inl zl_10_28) rfl rfl (Nat.le_of_ble_eq_true rfl) (Nat.le_of_ble_eq_true rfl) (k_99 _ hx2) ?_
    obtain ⟨x3, hx4, g13⟩ := zb_of g12
    refine zo_callSi (p' := 10) (as := [.int 6, .int x1]) (r := [zrf (some o)]) (zi_100 rfl) rfl (Or.inl zl_10_34) rfl rfl (Nat.le_of_ble_eq_true rfl) (Nat.le_of_ble_eq_true rfl) (k_37 _ hx4) ?_
    obtain ⟨M5, hx6, g14⟩ := zb_of g13
    refine zo_putI (p' := 13) (zi_100 rfl) rfl zl_10_18 (zpb_100 _) hx6 ?_
    refine zo_aload_n (p' := 14) (zi_100 rfl) rfl rfl ?_
    obtain ⟨r7, hx8, g15⟩ := zb_of g14
    refine zo_getR (p' := 17) (zi_100 rfl) rfl zl_10_25 hx8 ?_
    refine zo_iconst (p' := 18) (v := 0) (zi_100 rfl) rfl rfl ?_
    refine zo_iconst (p' := 19) (v := 0) (zi_100 rfl) rfl rfl ?_
    obtain ⟨q9, h0, g16⟩ := zb_of g15
    subst h0
    obtain ⟨M10, hx11, g17⟩ := zb_of g16
    refine zo_iast (p' := 20) (zi_100 rfl) rfl hx11 ?_
    refine zo_iconst (p' := 21) (v := 1) (zi_100 rfl) rfl rfl ?_
    refine zo_istore_n (p' := 22) (L' := [(0, zrf (some o)), (1, .int a0), (2, .int 1)]) (zi_100 rfl) rfl zm_100_2 ⟨Or.inr ⟨by decide, rfl, fun q => absurd q (by decide)⟩, ⟨Or.inr ⟨by decide, rfl, fun _ => rfl⟩, ⟨Or.inl ⟨rfl, rfl⟩, trivial⟩⟩⟩ ?_
    refine zgo_sub (L' := [(0, zrf (some o)), (1, .int a0), (2, .int 1)]) (⟨rfl, rfl, rfl, trivial⟩) ?_
    exact k_100_22 _ zF M10 o a0 1 _ g17
  · rw [if_neg hok] at h; cases h
/-- SlateHalves.planOrder()V -/
def f_98_42 (r4 : ZMem → Nat → Int32 → Int32 → Option (ZMem)) (M : ZMem) (o : Nat) (b1 : Int32) (b2 : Int32) : Option (ZMem) := r4 M o b1 ((b2 + 1))
def f_98_68 (r55 : ZMem → Nat → Int32 → Int32 → Int32 → Option (ZMem)) : Nat → ZMem → Nat → Int32 → Int32 → Int32 → Int32 → Option (ZMem)
  | 0, _, _, _, _, _, _ => none
  | z + 1, M, o, b1, b2, b3, b4 => zb (zgr M 11 3 o) fun r57 => zb r57 fun q59 => zb (zgi M 10 1 q59) fun x60 => if x60 ≤ b4 then (r55 M o b1 b2 ((b3 + 1))) else (zb (zgr M 11 12 o) fun r63 => zb r63 fun q65 => zb (zgr M 5 0 q65) fun r66 => zb (zgr M 11 3 o) fun r68 => zb (zgr M 11 3 o) fun r70 => zb r70 fun q72 => zb (zgr M 10 0 q72) fun r73 => zb r73 fun q75 => zb (zlaR M q75 b4) fun r76 => zbd (f_90 M o r68 r76) fun x78 M80 => zb r66 fun q81 => zb (zsa M80 20 q81 ((b4 * 6) + b3) x78) fun M82 => f_98_68 r55 z M82 o b1 b2 b3 ((b4 + 1)))
def f_98_55 : Nat → ZMem → Nat → Int32 → Int32 → Int32 → Option (ZMem)
  | 0, _, _, _, _, _ => none
  | z + 1, M, o, b1, b2, b3 => if b2 ≤ b3 then (zb (zgr M 11 12 o) fun r43 => zb r43 fun q45 => zb (f_100 M q45 b1) fun M48 => some M48) else (zb (f_94 M o b3) fun M51 => f_98_68 (fun M a0 a1 a2 a3 => f_98_55 z M a0 a1 a2 a3) zF M51 o b1 b2 b3 0)
def f_98_4 : Nat → ZMem → Nat → Int32 → Int32 → Option (ZMem)
  | 0, _, _, _, _ => none
  | z + 1, M, o, b1, b2 => zb (zgr M 11 0 o) fun r1 => zb r1 fun q3 => zb (zgr M 7 0 q3) fun r4 => zb r4 fun q6 => zb (zgi M 10 1 q6) fun x7 => if x7 ≤ b2 then (zb (f_99 M b1) fun x10 => f_98_55 zF M o b1 x10 0) else (zb (zgr M 11 0 o) fun r12 => zb r12 fun q14 => zb (zgr M 7 0 q14) fun r15 => zb r15 fun q17 => zb (zgr M 10 0 q17) fun r18 => zb r18 fun q20 => zb (zlaR M q20 b2) fun r21 => zb r21 fun q23 => zb (f_57 M q23) fun x24 => if ¬ x24 = 0 then (f_98_42 (fun M a0 a1 a2 => f_98_4 z M a0 a1 a2) M o b1 b2) else (f_98_42 (fun M a0 a1 a2 => f_98_4 z M a0 a1 a2) M o ((b1 ||| (1 <<< (b2 &&& 31)))) b2))
set_option maxRecDepth 20000 in
theorem k_98_42 (d : Nat) (r4 : ZMem → Nat → Int32 → Int32 → Option (ZMem)) (h4 : ∀ (M : ZMem) (a0 : Nat) (a1 : Int32) (a2 : Int32) (out : ZMem), r4 M a0 a1 a2 = some out → zgo none (d + 5) 98 4 [(0, zrf (some a0)), (1, .int a1), (2, .int a2)] [] M (none, out)) : ∀ (M : ZMem) (o : Nat) (b1 : Int32) (b2 : Int32) (out : ZMem), f_98_42 r4 M o b1 b2 = some out → zgo none (d + 5) 98 42 [(0, zrf (some o)), (1, .int b1), (2, .int b2)] [] M (none, out) := by
  intro M o b1 b2 out h
  unfold f_98_42 at h
  refine zo_iinc (p' := 45) (v := (b2 + 1)) (L' := [(0, zrf (some o)), (1, .int b1), (2, .int ((b2 + 1)))]) (zi_98 rfl) rfl zm_98_2 rfl rfl ⟨Or.inr ⟨by decide, rfl, fun q => absurd q (by decide)⟩, ⟨Or.inr ⟨by decide, rfl, fun _ => rfl⟩, ⟨Or.inl ⟨rfl, rfl⟩, trivial⟩⟩⟩ ?_
  refine zo_goto (p' := 4) (zi_98 rfl) rfl ?_
  refine zgo_sub (L' := [(0, zrf (some o)), (1, .int b1), (2, .int (((b2 + 1))))]) (⟨rfl, rfl, rfl, trivial⟩) ?_
  exact h4 M o b1 ((b2 + 1)) _ h
set_option maxRecDepth 20000 in
theorem k_98_68 (d : Nat) (r55 : ZMem → Nat → Int32 → Int32 → Int32 → Option (ZMem)) (h55 : ∀ (M : ZMem) (a0 : Nat) (a1 : Int32) (a2 : Int32) (a3 : Int32) (out : ZMem), r55 M a0 a1 a2 a3 = some out → zgo none (d + 5) 98 55 [(0, zrf (some a0)), (1, .int a1), (2, .int a2), (3, .int a3)] [] M (none, out)) : ∀ (z : Nat) (M : ZMem) (o : Nat) (b1 : Int32) (b2 : Int32) (b3 : Int32) (b4 : Int32) (out : ZMem), f_98_68 r55 z M o b1 b2 b3 b4 = some out → zgo none (d + 5) 98 68 [(0, zrf (some o)), (1, .int b1), (2, .int b2), (3, .int b3), (4, .int b4)] [] M (none, out) := by
  intro z
  induction z with
  | zero => intro M o b1 b2 b3 b4 out h; cases h
  | succ z ih =>
    intro M o b1 b2 b3 b4 out h
    rw [f_98_68] at h
    refine zo_iload (p' := 70) (zi_98 rfl) rfl rfl ?_
    refine zo_aload_n (p' := 71) (zi_98 rfl) rfl rfl ?_
    obtain ⟨r57, hx58, g84⟩ := zb_of h
    refine zo_getR (p' := 74) (zi_98 rfl) rfl zl_1_28 hx58 ?_
    obtain ⟨q59, h0, g85⟩ := zb_of g84
    subst h0
    obtain ⟨x60, hx61, g86⟩ := zb_of g85
    refine zo_getI (p' := 77) (zi_98 rfl) rfl zl_1_261 hx61 ?_
    by_cases hc62 : x60 ≤ b4
    · rw [if_pos hc62] at g86
      refine zo_icT (p' := 119) (zi_98 rfl) rfl hc62 ?_
      refine zo_iinc (p' := 122) (v := (b3 + 1)) (L' := [(0, zrf (some o)), (1, .int b1), (2, .int b2), (3, .int ((b3 + 1))), (4, .int b4)]) (zi_98 rfl) rfl zm_98_3 rfl rfl ⟨Or.inr ⟨by decide, rfl, fun q => absurd q (by decide)⟩, ⟨Or.inr ⟨by decide, rfl, fun q => absurd q (by decide)⟩, ⟨Or.inr ⟨by decide, rfl, fun _ => rfl⟩, ⟨Or.inl ⟨rfl, rfl⟩, ⟨Or.inr ⟨by decide, rfl, fun q => absurd q (by decide)⟩, trivial⟩⟩⟩⟩⟩ ?_
      refine zo_goto (p' := 55) (zi_98 rfl) rfl ?_
      refine zgo_sub (L' := [(0, zrf (some o)), (1, .int b1), (2, .int b2), (3, .int (((b3 + 1))))]) (⟨rfl, rfl, rfl, rfl, trivial⟩) ?_
      exact h55 M o b1 b2 ((b3 + 1)) _ g86
    · rw [if_neg hc62] at g86
      refine zo_icF (p' := 80) (zi_98 rfl) rfl rfl hc62 ?_
      refine zo_aload_n (p' := 81) (zi_98 rfl) rfl rfl ?_
      obtain ⟨r63, hx64, g87⟩ := zb_of g86
      refine zo_getR (p' := 84) (zi_98 rfl) rfl zl_1_78 hx64 ?_
      obtain ⟨q65, h0, g88⟩ := zb_of g87
      subst h0
      obtain ⟨r66, hx67, g89⟩ := zb_of g88
      refine zo_getR (p' := 87) (zi_98 rfl) rfl zl_1_273 hx67 ?_
      refine zo_iload (p' := 89) (zi_98 rfl) rfl rfl ?_
      refine zo_bipush (p' := 91) (v := 6) (zi_98 rfl) rfl rfl ?_
      refine zo_imul (p' := 92) (zi_98 rfl) rfl ?_
      refine zo_iload_n (p' := 93) (zi_98 rfl) rfl rfl ?_
      refine zo_iadd (p' := 94) (zi_98 rfl) rfl ?_
      refine zo_aload_n (p' := 95) (zi_98 rfl) rfl rfl ?_
      refine zo_aload_n (p' := 96) (zi_98 rfl) rfl rfl ?_
      obtain ⟨r68, hx69, g90⟩ := zb_of g89
      refine zo_getR (p' := 99) (zi_98 rfl) rfl zl_1_28 hx69 ?_
      refine zo_aload_n (p' := 100) (zi_98 rfl) rfl rfl ?_
      obtain ⟨r70, hx71, g91⟩ := zb_of g90
      refine zo_getR (p' := 103) (zi_98 rfl) rfl zl_1_28 hx71 ?_
      obtain ⟨q72, h0, g92⟩ := zb_of g91
      subst h0
      obtain ⟨r73, hx74, g93⟩ := zb_of g92
      refine zo_getR (p' := 106) (zi_98 rfl) rfl zl_1_264 hx74 ?_
      refine zo_iload (p' := 108) (zi_98 rfl) rfl rfl ?_
      obtain ⟨q75, h0, g94⟩ := zb_of g93
      subst h0
      obtain ⟨r76, hx77, g95⟩ := zb_of g94
      refine zo_aald (p' := 109) (zi_98 rfl) rfl hx77 ?_
      obtain ⟨x78, M80, hx79, g96⟩ := zbd_of g95
      refine zo_callVi (p' := 112) (t := 11) (as := [zrf r68, zrf r76]) (r := [.int (((b4 * 6) + b3)), zrf r66]) (zi_98 rfl) rfl zl_1_245 rfl rfl (Or.inl ⟨by decide, rfl⟩) (by simp [zrf_cat, zcat_i, zcat_l, zcat_r]) (by rw [zml_90]; simp [lg_sl, zrf_cat, zcat_i, zcat_l, zcat_r]; done) (f_90_ok hx79) (k_90 _ hx79) ?_
      obtain ⟨q81, h0, g97⟩ := zb_of g96
      subst h0
      obtain ⟨M82, hx83, g98⟩ := zb_of g97
      refine zo_iast (p' := 113) (zi_98 rfl) rfl hx83 ?_
      refine zo_iinc (p' := 116) (v := (b4 + 1)) (L' := [(0, zrf (some o)), (1, .int b1), (2, .int b2), (3, .int b3), (4, .int ((b4 + 1)))]) (zi_98 rfl) rfl zm_98_4 rfl rfl ⟨Or.inr ⟨by decide, rfl, fun q => absurd q (by decide)⟩, ⟨Or.inr ⟨by decide, rfl, fun q => absurd q (by decide)⟩, ⟨Or.inr ⟨by decide, rfl, fun q => absurd q (by decide)⟩, ⟨Or.inr ⟨by decide, rfl, fun _ => rfl⟩, ⟨Or.inl ⟨rfl, rfl⟩, trivial⟩⟩⟩⟩⟩ ?_
      refine zo_goto (p' := 68) (zi_98 rfl) rfl ?_
      refine zgo_sub (L' := [(0, zrf (some o)), (1, .int b1), (2, .int b2), (3, .int b3), (4, .int (((b4 + 1))))]) (⟨rfl, rfl, rfl, rfl, rfl, trivial⟩) ?_
      exact ih M82 o b1 b2 b3 ((b4 + 1)) _ g98
set_option maxRecDepth 20000 in
theorem k_98_55 (d : Nat) : ∀ (z : Nat) (M : ZMem) (o : Nat) (b1 : Int32) (b2 : Int32) (b3 : Int32) (out : ZMem), f_98_55 z M o b1 b2 b3 = some out → zgo none (d + 5) 98 55 [(0, zrf (some o)), (1, .int b1), (2, .int b2), (3, .int b3)] [] M (none, out) := by
  intro z
  induction z with
  | zero => intro M o b1 b2 b3 out h; cases h
  | succ z ih =>
    intro M o b1 b2 b3 out h
    rw [f_98_55] at h
    refine zo_iload_n (p' := 56) (zi_98 rfl) rfl rfl ?_
    refine zo_iload_n (p' := 57) (zi_98 rfl) rfl rfl ?_
    by_cases hc42 : b2 ≤ b3
    · rw [if_pos hc42] at h
      refine zo_icT (p' := 125) (zi_98 rfl) rfl hc42 ?_
      refine zo_aload_n (p' := 126) (zi_98 rfl) rfl rfl ?_
      obtain ⟨r43, hx44, g52⟩ := zb_of h
      refine zo_getR (p' := 129) (zi_98 rfl) rfl zl_1_78 hx44 ?_
      refine zo_iload_n (p' := 130) (zi_98 rfl) rfl rfl ?_
      obtain ⟨q45, h0, g53⟩ := zb_of g52
      subst h0
      obtain ⟨M48, hx47, g54⟩ := zb_of g53
      refine zo_callVv (p' := 133) (t := 5) (as := [.int b1]) (r := []) (zi_98 rfl) rfl zl_1_276 rfl rfl (Or.inl ⟨by decide, rfl⟩) (Nat.le_of_ble_eq_true rfl) (Nat.le_of_ble_eq_true rfl) (f_100_ok hx47) (k_100 _ hx47) ?_
      have g55 := Option.some.inj g54
      subst g55
      exact zo_vret (zi_98 rfl) rfl
    · rw [if_neg hc42] at h
      refine zo_icF (p' := 60) (zi_98 rfl) rfl rfl hc42 ?_
      refine zo_aload_n (p' := 61) (zi_98 rfl) rfl rfl ?_
      refine zo_iload_n (p' := 62) (zi_98 rfl) rfl rfl ?_
      obtain ⟨M51, hx50, g56⟩ := zb_of h
      refine zo_callVv (p' := 65) (t := 11) (as := [.int b3]) (r := []) (zi_98 rfl) rfl zl_1_241 rfl rfl (Or.inl ⟨by decide, rfl⟩) (Nat.le_of_ble_eq_true rfl) (Nat.le_of_ble_eq_true rfl) (f_94_ok hx50) (k_94 _ hx50) ?_
      refine zo_iconst (p' := 66) (v := 0) (zi_98 rfl) rfl rfl ?_
      refine zo_istore (p' := 68) (L' := [(0, zrf (some o)), (1, .int b1), (2, .int b2), (3, .int b3), (4, .int 0)]) (zi_98 rfl) rfl zm_98_4 ⟨Or.inr ⟨by decide, rfl, fun q => absurd q (by decide)⟩, ⟨Or.inr ⟨by decide, rfl, fun q => absurd q (by decide)⟩, ⟨Or.inr ⟨by decide, rfl, fun q => absurd q (by decide)⟩, ⟨Or.inr ⟨by decide, rfl, fun _ => rfl⟩, ⟨Or.inl ⟨rfl, rfl⟩, trivial⟩⟩⟩⟩⟩ ?_
      refine zgo_sub (L' := [(0, zrf (some o)), (1, .int b1), (2, .int b2), (3, .int b3), (4, .int 0)]) (⟨rfl, rfl, rfl, rfl, rfl, trivial⟩) ?_
      exact k_98_68 _ _ (fun M a0 a1 a2 a3 out h => ih M a0 a1 a2 a3 out h) zF M51 o b1 b2 b3 0 _ g56
set_option maxRecDepth 20000 in
theorem k_98_4 (d : Nat) : ∀ (z : Nat) (M : ZMem) (o : Nat) (b1 : Int32) (b2 : Int32) (out : ZMem), f_98_4 z M o b1 b2 = some out → zgo none (d + 5) 98 4 [(0, zrf (some o)), (1, .int b1), (2, .int b2)] [] M (none, out) := by
  intro z
  induction z with
  | zero => intro M o b1 b2 out h; cases h
  | succ z ih =>
    intro M o b1 b2 out h
    rw [f_98_4] at h
    refine zo_iload_n (p' := 5) (zi_98 rfl) rfl rfl ?_
    refine zo_aload_n (p' := 6) (zi_98 rfl) rfl rfl ?_
    obtain ⟨r1, hx2, g27⟩ := zb_of h
    refine zo_getR (p' := 9) (zi_98 rfl) rfl zl_1_14 hx2 ?_
    obtain ⟨q3, h0, g28⟩ := zb_of g27
    subst h0
    obtain ⟨r4, hx5, g29⟩ := zb_of g28
    refine zo_getR (p' := 12) (zi_98 rfl) rfl zl_1_100 hx5 ?_
    obtain ⟨q6, h0, g30⟩ := zb_of g29
    subst h0
    obtain ⟨x7, hx8, g31⟩ := zb_of g30
    refine zo_getI (p' := 15) (zi_98 rfl) rfl zl_1_261 hx8 ?_
    by_cases hc9 : x7 ≤ b2
    · rw [if_pos hc9] at g31
      refine zo_icT (p' := 48) (zi_98 rfl) rfl hc9 ?_
      refine zo_iload_n (p' := 49) (zi_98 rfl) rfl rfl ?_
      obtain ⟨x10, hx11, g32⟩ := zb_of g31
      refine zo_callSi (p' := 52) (as := [.int b1]) (r := []) (zi_98 rfl) rfl (Or.inl zl_1_268) rfl rfl (Nat.le_of_ble_eq_true rfl) (Nat.le_of_ble_eq_true rfl) (k_99 _ hx11) ?_
      refine zo_istore_n (p' := 53) (L' := [(0, zrf (some o)), (1, .int b1), (2, .int x10)]) (zi_98 rfl) rfl zm_98_2 ⟨Or.inr ⟨by decide, rfl, fun q => absurd q (by decide)⟩, ⟨Or.inr ⟨by decide, rfl, fun _ => rfl⟩, ⟨Or.inl ⟨rfl, rfl⟩, trivial⟩⟩⟩ ?_
      refine zo_iconst (p' := 54) (v := 0) (zi_98 rfl) rfl rfl ?_
      refine zo_istore_n (p' := 55) (L' := [(0, zrf (some o)), (1, .int b1), (2, .int x10), (3, .int 0)]) (zi_98 rfl) rfl zm_98_3 ⟨Or.inr ⟨by decide, rfl, fun q => absurd q (by decide)⟩, ⟨Or.inr ⟨by decide, rfl, fun q => absurd q (by decide)⟩, ⟨Or.inr ⟨by decide, rfl, fun _ => rfl⟩, ⟨Or.inl ⟨rfl, rfl⟩, trivial⟩⟩⟩⟩ ?_
      refine zgo_sub (L' := [(0, zrf (some o)), (1, .int b1), (2, .int x10), (3, .int 0)]) (⟨rfl, rfl, rfl, rfl, trivial⟩) ?_
      exact k_98_55 _ zF M o b1 x10 0 _ g32
    · rw [if_neg hc9] at g31
      refine zo_icF (p' := 18) (zi_98 rfl) rfl rfl hc9 ?_
      refine zo_aload_n (p' := 19) (zi_98 rfl) rfl rfl ?_
      obtain ⟨r12, hx13, g33⟩ := zb_of g31
      refine zo_getR (p' := 22) (zi_98 rfl) rfl zl_1_14 hx13 ?_
      obtain ⟨q14, h0, g34⟩ := zb_of g33
      subst h0
      obtain ⟨r15, hx16, g35⟩ := zb_of g34
      refine zo_getR (p' := 25) (zi_98 rfl) rfl zl_1_100 hx16 ?_
      obtain ⟨q17, h0, g36⟩ := zb_of g35
      subst h0
      obtain ⟨r18, hx19, g37⟩ := zb_of g36
      refine zo_getR (p' := 28) (zi_98 rfl) rfl zl_1_264 hx19 ?_
      refine zo_iload_n (p' := 29) (zi_98 rfl) rfl rfl ?_
      obtain ⟨q20, h0, g38⟩ := zb_of g37
      subst h0
      obtain ⟨r21, hx22, g39⟩ := zb_of g38
      refine zo_aald (p' := 30) (zi_98 rfl) rfl hx22 ?_
      obtain ⟨q23, h0, g40⟩ := zb_of g39
      subst h0
      obtain ⟨x24, hx25, g41⟩ := zb_of g40
      refine zo_callVi (p' := 33) (t := 1) (as := []) (r := []) (zi_98 rfl) rfl zl_1_204 rfl rfl (Or.inl ⟨by decide, rfl⟩) (Nat.le_of_ble_eq_true rfl) (Nat.le_of_ble_eq_true rfl) (f_57_ok hx25) (k_57 _ hx25) ?_
      by_cases hc26 : ¬ x24 = 0
      · rw [if_pos hc26] at g41
        refine zo_ifT (p' := 42) (zi_98 rfl) rfl hc26 ?_
        refine zgo_sub (L' := [(0, zrf (some o)), (1, .int b1), (2, .int b2)]) (⟨rfl, rfl, rfl, trivial⟩) ?_
        exact k_98_42 _ _ (fun M a0 a1 a2 out h => ih M a0 a1 a2 out h) M o b1 b2 _ g41
      · rw [if_neg hc26] at g41
        refine zo_ifF (p' := 36) (zi_98 rfl) rfl rfl hc26 ?_
        refine zo_iload_n (p' := 37) (zi_98 rfl) rfl rfl ?_
        refine zo_iconst (p' := 38) (v := 1) (zi_98 rfl) rfl rfl ?_
        refine zo_iload_n (p' := 39) (zi_98 rfl) rfl rfl ?_
        refine zo_ishl (p' := 40) (zi_98 rfl) rfl ?_
        refine zo_ior (p' := 41) (zi_98 rfl) rfl ?_
        refine zo_istore_n (p' := 42) (L' := [(0, zrf (some o)), (1, .int ((b1 ||| (1 <<< (b2 &&& 31))))), (2, .int b2)]) (zi_98 rfl) rfl zm_98_1 ⟨Or.inr ⟨by decide, rfl, fun _ => zrf_cat _⟩, ⟨Or.inl ⟨rfl, rfl⟩, ⟨Or.inr ⟨by decide, rfl, fun q => absurd q (by decide)⟩, trivial⟩⟩⟩ ?_
        refine zgo_sub (L' := [(0, zrf (some o)), (1, .int (((b1 ||| (1 <<< (b2 &&& 31)))))), (2, .int b2)]) (⟨rfl, rfl, rfl, trivial⟩) ?_
        exact k_98_42 _ _ (fun M a0 a1 a2 out h => ih M a0 a1 a2 out h) M o ((b1 ||| (1 <<< (b2 &&& 31)))) b2 _ g41
def f_98 (M : ZMem) (o : Nat) : Option (ZMem) := if zok M 11 o = true then (f_98_4 zF M o 0 0) else none
theorem f_98_ok {M : ZMem} {o : Nat} {out : ZMem} (h : f_98 M o = some out) : zok M 11 o = true := by
  unfold f_98 at h
  by_cases hok : zok M 11 o = true
  · exact hok
  · rw [if_neg hok] at h; cases h
set_option maxRecDepth 20000 in
theorem k_98 (d : Nat) {M : ZMem} {o : Nat} {out : ZMem} (h : f_98 M o = some out) : zrn (d + 5) 98 [zrf (some o)] M (none, out) := by
  unfold f_98 at h
  by_cases hok : zok M 11 o = true
  · rw [if_pos hok] at h
    refine zrn_of (L := [(0, zrf (some o))]) rfl ?_
    refine zo_iconst (p' := 1) (v := 0) (zi_98 rfl) rfl rfl ?_
    refine zo_istore_n (p' := 2) (L' := [(0, zrf (some o)), (1, .int 0)]) (zi_98 rfl) rfl zm_98_1 ⟨Or.inr ⟨by decide, rfl, fun _ => zrf_cat _⟩, ⟨Or.inl ⟨rfl, rfl⟩, trivial⟩⟩ ?_
    refine zo_iconst (p' := 3) (v := 0) (zi_98 rfl) rfl rfl ?_
    refine zo_istore_n (p' := 4) (L' := [(0, zrf (some o)), (1, .int 0), (2, .int 0)]) (zi_98 rfl) rfl zm_98_2 ⟨Or.inr ⟨by decide, rfl, fun q => absurd q (by decide)⟩, ⟨Or.inr ⟨by decide, rfl, fun _ => rfl⟩, ⟨Or.inl ⟨rfl, rfl⟩, trivial⟩⟩⟩ ?_
    refine zgo_sub (L' := [(0, zrf (some o)), (1, .int 0), (2, .int 0)]) (⟨rfl, rfl, rfl, trivial⟩) ?_
    exact k_98_4 _ zF M o 0 0 _ h
  · rw [if_neg hok] at h; cases h
