/-- SlateHalves.order(I)I -/
def f_97 (M : ZMem) (o : Nat) (a0 : Int32) : Option (Int32 × ZMem) := if zok M 11 o = true then (zb (f_14 M a0 ((-1)) 5) fun x1 => if ¬ x1 = 0 then (zb (f_98 M o) fun M6 => if 0 ≤ a0 then (zb (zgr M6 11 12 o) fun r8 => zb r8 fun q10 => zb (zgi M6 5 2 q10) fun x11 => if x11 ≤ a0 then (some ((-5), M6)) else (zb (zgr M6 11 12 o) fun r14 => zb r14 fun q16 => zb (zgr M6 5 1 q16) fun r17 => zb r17 fun q19 => zb (zai M6 q19 a0) fun x20 => some (x20, M6))) else (zb (zgr M6 11 12 o) fun r22 => zb r22 fun q24 => zb (zgi M6 5 3 q24) fun x25 => some (x25, M6))) else (some ((-1), M))) else none
theorem f_97_ok {M : ZMem} {o : Nat} {a0 : Int32} {out : Int32 × ZMem} (h : f_97 M o a0 = some out) : zok M 11 o = true := by
  unfold f_97 at h
  by_cases hok : zok M 11 o = true
  · exact hok
  · rw [if_neg hok] at h; cases h
set_option maxRecDepth 20000 in
theorem k_97 (d : Nat) {M : ZMem} {o : Nat} {a0 : Int32} {out : Int32 × ZMem} (h : f_97 M o a0 = some out) : zrn (d + 6) 97 [zrf (some o), .int a0] M (some (.int out.1), out.2) := by
  unfold f_97 at h
  by_cases hok : zok M 11 o = true
  · rw [if_pos hok] at h
    refine zrn_of (L := [(0, zrf (some o)), (1, .int a0)]) rfl ?_
    refine zo_iload_n (p' := 1) (zi_97 rfl) rfl rfl ?_
    refine zo_iconst (p' := 2) (v := (-1)) (zi_97 rfl) rfl rfl ?_
    refine zo_iconst (p' := 3) (v := 5) (zi_97 rfl) rfl rfl ?_
    obtain ⟨x1, hx2, g27⟩ := zb_of h
    refine zo_callSi (p' := 6) (as := [.int a0, .int ((-1)), .int 5]) (r := []) (zi_97 rfl) rfl (Or.inl zl_1_96) rfl rfl (Nat.le_of_ble_eq_true rfl) (Nat.le_of_ble_eq_true rfl) (k_14 _ hx2) ?_
    by_cases hc3 : ¬ x1 = 0
    · rw [if_pos hc3] at g27
      refine zo_ifT (p' := 11) (zi_97 rfl) rfl hc3 ?_
      refine zo_aload_n (p' := 12) (zi_97 rfl) rfl rfl ?_
      obtain ⟨M6, hx5, g28⟩ := zb_of g27
      refine zo_callVv (p' := 15) (t := 11) (as := []) (r := []) (zi_97 rfl) rfl zl_1_249 rfl rfl (Or.inl ⟨by decide, rfl⟩) (Nat.le_of_ble_eq_true rfl) (Nat.le_of_ble_eq_true rfl) (f_98_ok hx5) (k_98 _ hx5) ?_
      refine zo_iload_n (p' := 16) (zi_97 rfl) rfl rfl ?_
      by_cases hc7 : 0 ≤ a0
      · rw [if_pos hc7] at g28
        refine zo_ifT (p' := 27) (zi_97 rfl) rfl hc7 ?_
        refine zo_iload_n (p' := 28) (zi_97 rfl) rfl rfl ?_
        refine zo_aload_n (p' := 29) (zi_97 rfl) rfl rfl ?_
        obtain ⟨r8, hx9, g29⟩ := zb_of g28
        refine zo_getR (p' := 32) (zi_97 rfl) rfl zl_1_78 hx9 ?_
        obtain ⟨q10, h0, g30⟩ := zb_of g29
        subst h0
        obtain ⟨x11, hx12, g31⟩ := zb_of g30
        refine zo_getI (p' := 35) (zi_97 rfl) rfl zl_1_255 hx12 ?_
        by_cases hc13 : x11 ≤ a0
        · rw [if_pos hc13] at g31
          refine zo_icT (p' := 50) (zi_97 rfl) rfl hc13 ?_
          refine zo_bipush (p' := 52) (v := (-5)) (zi_97 rfl) rfl rfl ?_
          have g32 := Option.some.inj g31
          subst g32
          exact zo_iret (zi_97 rfl) rfl ⟨rfl, rfl⟩
        · rw [if_neg hc13] at g31
          refine zo_icF (p' := 38) (zi_97 rfl) rfl rfl hc13 ?_
          refine zo_aload_n (p' := 39) (zi_97 rfl) rfl rfl ?_
          obtain ⟨r14, hx15, g33⟩ := zb_of g31
          refine zo_getR (p' := 42) (zi_97 rfl) rfl zl_1_78 hx15 ?_
          obtain ⟨q16, h0, g34⟩ := zb_of g33
          subst h0
          obtain ⟨r17, hx18, g35⟩ := zb_of g34
          refine zo_getR (p' := 45) (zi_97 rfl) rfl zl_1_258 hx18 ?_
          refine zo_iload_n (p' := 46) (zi_97 rfl) rfl rfl ?_
          obtain ⟨q19, h0, g36⟩ := zb_of g35
          subst h0
          obtain ⟨x20, hx21, g37⟩ := zb_of g36
          refine zo_iald (p' := 47) (zi_97 rfl) rfl hx21 ?_
          refine zo_goto (p' := 52) (zi_97 rfl) rfl ?_
          have g38 := Option.some.inj g37
          subst g38
          exact zo_iret (zi_97 rfl) rfl ⟨rfl, rfl⟩
      · rw [if_neg hc7] at g28
        refine zo_ifF (p' := 19) (zi_97 rfl) rfl rfl hc7 ?_
        refine zo_aload_n (p' := 20) (zi_97 rfl) rfl rfl ?_
        obtain ⟨r22, hx23, g39⟩ := zb_of g28
        refine zo_getR (p' := 23) (zi_97 rfl) rfl zl_1_78 hx23 ?_
        obtain ⟨q24, h0, g40⟩ := zb_of g39
        subst h0
        obtain ⟨x25, hx26, g41⟩ := zb_of g40
        refine zo_getI (p' := 26) (zi_97 rfl) rfl zl_1_252 hx26 ?_
        have g42 := Option.some.inj g41
        subst g42
        exact zo_iret (zi_97 rfl) rfl ⟨rfl, rfl⟩
    · rw [if_neg hc3] at g27
      refine zo_ifF (p' := 9) (zi_97 rfl) rfl rfl hc3 ?_
      refine zo_iconst (p' := 10) (v := (-1)) (zi_97 rfl) rfl rfl ?_
      have g43 := Option.some.inj g27
      subst g43
      exact zo_iret (zi_97 rfl) rfl ⟨rfl, rfl⟩
  · rw [if_neg hok] at h; cases h
/-- SlateHalves.lossOf(LSlateHalves$Block;)I -/
def f_105_34 (M : ZMem) (o : Nat) (b1 : Option Nat) (b2 : Int32) : Option (Int32 × ZMem) := zb (zgr M 11 0 o) fun r29 => zb r29 fun q31 => zb (zgr M 7 0 q31) fun r32 => zbd (f_90 M o r32 b1) fun x34 M36 => some ((x34 - b2), M36)
set_option maxRecDepth 20000 in
theorem k_105_34 (d : Nat) : ∀ (M : ZMem) (o : Nat) (b1 : Option Nat) (b2 : Int32) (out : Int32 × ZMem), f_105_34 M o b1 b2 = some out → zgo none (d + 5) 105 34 [(0, zrf (some o)), (1, zrf b1)] [.int b2] M (some (.int out.1), out.2) := by
  intro M o b1 b2 out h
  unfold f_105_34 at h
  refine zo_istore_n (p' := 35) (L' := [(0, zrf (some o)), (1, zrf b1), (3, .int b2)]) (zi_105 rfl) rfl zm_105_3 ⟨Or.inr ⟨by decide, rfl, fun q => absurd q (by decide)⟩, ⟨Or.inr ⟨by decide, rfl, fun q => absurd q (by decide)⟩, ⟨Or.inl ⟨rfl, rfl⟩, trivial⟩⟩⟩ ?_
  refine zo_aload_n (p' := 36) (zi_105 rfl) rfl rfl ?_
  refine zo_aload_n (p' := 37) (zi_105 rfl) rfl rfl ?_
  obtain ⟨r29, hx30, g37⟩ := zb_of h
  refine zo_getR (p' := 40) (zi_105 rfl) rfl zl_1_14 hx30 ?_
  obtain ⟨q31, h0, g38⟩ := zb_of g37
  subst h0
  obtain ⟨r32, hx33, g39⟩ := zb_of g38
  refine zo_getR (p' := 43) (zi_105 rfl) rfl zl_1_100 hx33 ?_
  refine zo_aload_n (p' := 44) (zi_105 rfl) rfl rfl ?_
  obtain ⟨x34, M36, hx35, g40⟩ := zbd_of g39
  refine zo_callVi (p' := 47) (t := 11) (as := [zrf r32, zrf b1]) (r := []) (zi_105 rfl) rfl zl_1_245 rfl rfl (Or.inl ⟨by decide, rfl⟩) (Nat.le_of_ble_eq_true rfl) (by rw [zml_90]; simp [lg_sl, zrf_cat, zcat_i, zcat_l, zcat_r]; done) (f_90_ok hx35) (k_90 _ hx35) ?_
  refine zo_iload_n (p' := 48) (zi_105 rfl) rfl rfl ?_
  refine zo_isub (p' := 49) (zi_105 rfl) rfl ?_
  have g41 := Option.some.inj g40
  subst g41
  exact zo_iret (zi_105 rfl) rfl ⟨rfl, rfl⟩
def f_105 (M : ZMem) (o : Nat) (a0 : Option Nat) : Option (Int32 × ZMem) := if zok M 11 o = true then (zb (f_94 M o 1) fun M3 => zb (zgr M3 11 3 o) fun r4 => zb a0 fun q6 => zb (zgi M3 1 0 q6) fun x7 => zb r4 fun q9 => zb (f_19 M3 q9 x7) fun r10 => zcs r10 (f_105_34 M3 o (some q6) 0) (fun q12 => zb (zgr M3 11 3 o) fun r14 => zbd (f_90 M3 o r14 (some q12)) fun x16 M18 => f_105_34 M18 o (some q6) x16)) else none
theorem f_105_ok {M : ZMem} {o : Nat} {a0 : Option Nat} {out : Int32 × ZMem} (h : f_105 M o a0 = some out) : zok M 11 o = true := by
  unfold f_105 at h
  by_cases hok : zok M 11 o = true
  · exact hok
  · rw [if_neg hok] at h; cases h
set_option maxRecDepth 20000 in
theorem k_105 (d : Nat) {M : ZMem} {o : Nat} {a0 : Option Nat} {out : Int32 × ZMem} (h : f_105 M o a0 = some out) : zrn (d + 5) 105 [zrf (some o), zrf a0] M (some (.int out.1), out.2) := by
  unfold f_105 at h
  by_cases hok : zok M 11 o = true
  · rw [if_pos hok] at h
    refine zrn_of (L := [(0, zrf (some o)), (1, zrf a0)]) (by simp [lv_args, zrf_cat, zcat_i, zcat_l, zcat_r]) ?_
    refine zo_aload_n (p' := 1) (zi_105 rfl) rfl rfl ?_
    refine zo_iconst (p' := 2) (v := 1) (zi_105 rfl) rfl rfl ?_
    obtain ⟨M3, hx2, g19⟩ := zb_of h
    refine zo_callVv (p' := 5) (t := 11) (as := [.int 1]) (r := []) (zi_105 rfl) rfl zl_1_241 rfl rfl (Or.inl ⟨by decide, rfl⟩) (Nat.le_of_ble_eq_true rfl) (Nat.le_of_ble_eq_true rfl) (f_94_ok hx2) (k_94 _ hx2) ?_
    refine zo_aload_n (p' := 6) (zi_105 rfl) rfl rfl ?_
    obtain ⟨r4, hx5, g20⟩ := zb_of g19
    refine zo_getR (p' := 9) (zi_105 rfl) rfl zl_1_28 hx5 ?_
    refine zo_aload_n (p' := 10) (zi_105 rfl) rfl rfl ?_
    obtain ⟨q6, h0, g21⟩ := zb_of g20
    subst h0
    obtain ⟨x7, hx8, g22⟩ := zb_of g21
    refine zo_getI (p' := 13) (zi_105 rfl) rfl zl_1_113 hx8 ?_
    obtain ⟨q9, h0, g23⟩ := zb_of g22
    subst h0
    obtain ⟨r10, hx11, g24⟩ := zb_of g23
    refine zo_callVa (p' := 16) (t := 10) (as := [.int x7]) (r := []) (zi_105 rfl) rfl zl_1_116 rfl rfl (Or.inl ⟨by decide, rfl⟩) (Nat.le_of_ble_eq_true rfl) (Nat.le_of_ble_eq_true rfl) (f_19_ok hx11) (k_19 _ hx11) ?_
    refine zo_astore_n (p' := 17) (L' := [(0, zrf (some o)), (1, zrf (some q6)), (2, zrf r10)]) (zi_105 rfl) rfl zm_105_2 ⟨Or.inr ⟨by decide, rfl, fun q => absurd q (by decide)⟩, ⟨Or.inr ⟨by decide, rfl, fun _ => zrf_cat _⟩, ⟨Or.inl ⟨rfl, rfl⟩, trivial⟩⟩⟩ ?_
    refine zo_aload_n (p' := 18) (zi_105 rfl) rfl rfl ?_
    rcases r10 with _ | q12
    · have g25 := zcs_none g24
      refine zo_nonnullF (p' := 21) (zi_105 rfl) rfl ?_
      refine zo_iconst (p' := 22) (v := 0) (zi_105 rfl) rfl rfl ?_
      refine zo_goto (p' := 34) (zi_105 rfl) rfl ?_
      refine zgo_sub (L' := [(0, zrf (some o)), (1, zrf ((some q6)))]) (⟨rfl, rfl, trivial⟩) ?_
      exact k_105_34 _ M3 o (some q6) 0 _ g25
    · obtain ⟨hq13, g26⟩ := zcs_some g24
      refine zo_nonnullT (p' := 25) (zi_105 rfl) rfl hq13 ?_
      refine zo_aload_n (p' := 26) (zi_105 rfl) rfl rfl ?_
      refine zo_aload_n (p' := 27) (zi_105 rfl) rfl rfl ?_
      obtain ⟨r14, hx15, g27⟩ := zb_of g26
      refine zo_getR (p' := 30) (zi_105 rfl) rfl zl_1_28 hx15 ?_
      refine zo_aload_n (p' := 31) (zi_105 rfl) rfl rfl ?_
      obtain ⟨x16, M18, hx17, g28⟩ := zbd_of g27
      refine zo_callVi (p' := 34) (t := 11) (as := [zrf r14, zrf (some q12)]) (r := []) (zi_105 rfl) rfl zl_1_245 rfl rfl (Or.inl ⟨by decide, rfl⟩) (Nat.le_of_ble_eq_true rfl) (by rw [zml_90]; simp [lg_sl, zrf_cat, zcat_i, zcat_l, zcat_r]; done) (f_90_ok hx17) (k_90 _ hx17) ?_
      refine zgo_sub (L' := [(0, zrf (some o)), (1, zrf ((some q6)))]) (⟨rfl, rfl, trivial⟩) ?_
      exact k_105_34 _ M18 o (some q6) x16 _ g28
  · rw [if_neg hok] at h; cases h
/-- SlateHalves.loses(I)I -/
def f_104 (M : ZMem) (o : Nat) (a0 : Int32) : Option (Int32 × ZMem) := if zok M 11 o = true then (zb (zgr M 11 0 o) fun r1 => zb r1 fun q3 => zb (zgr M 7 0 q3) fun r4 => zb r4 fun q6 => zb (f_19 M q6 a0) fun r7 => zcs r7 (some ((-1001), M)) (fun q9 => zbd (f_105 M o (some q9)) fun x11 M13 => some (x11, M13))) else none
theorem f_104_ok {M : ZMem} {o : Nat} {a0 : Int32} {out : Int32 × ZMem} (h : f_104 M o a0 = some out) : zok M 11 o = true := by
  unfold f_104 at h
  by_cases hok : zok M 11 o = true
  · exact hok
  · rw [if_neg hok] at h; cases h
set_option maxRecDepth 20000 in
theorem k_104 (d : Nat) {M : ZMem} {o : Nat} {a0 : Int32} {out : Int32 × ZMem} (h : f_104 M o a0 = some out) : zrn (d + 6) 104 [zrf (some o), .int a0] M (some (.int out.1), out.2) := by
  unfold f_104 at h
  by_cases hok : zok M 11 o = true
  · rw [if_pos hok] at h
    refine zrn_of (L := [(0, zrf (some o)), (1, .int a0)]) rfl ?_
    refine zo_aload_n (p' := 1) (zi_104 rfl) rfl rfl ?_
    obtain ⟨r1, hx2, g14⟩ := zb_of h
    refine zo_getR (p' := 4) (zi_104 rfl) rfl zl_1_14 hx2 ?_
    obtain ⟨q3, h0, g15⟩ := zb_of g14
    subst h0
    obtain ⟨r4, hx5, g16⟩ := zb_of g15
    refine zo_getR (p' := 7) (zi_104 rfl) rfl zl_1_100 hx5 ?_
    refine zo_iload_n (p' := 8) (zi_104 rfl) rfl rfl ?_
    obtain ⟨q6, h0, g17⟩ := zb_of g16
    subst h0
    obtain ⟨r7, hx8, g18⟩ := zb_of g17
    refine zo_callVa (p' := 11) (t := 10) (as := [.int a0]) (r := []) (zi_104 rfl) rfl zl_1_116 rfl rfl (Or.inl ⟨by decide, rfl⟩) (Nat.le_of_ble_eq_true rfl) (Nat.le_of_ble_eq_true rfl) (f_19_ok hx8) (k_19 _ hx8) ?_
    refine zo_astore_n (p' := 12) (L' := [(0, zrf (some o)), (1, .int a0), (2, zrf r7)]) (zi_104 rfl) rfl zm_104_2 ⟨Or.inr ⟨by decide, rfl, fun q => absurd q (by decide)⟩, ⟨Or.inr ⟨by decide, rfl, fun _ => rfl⟩, ⟨Or.inl ⟨rfl, rfl⟩, trivial⟩⟩⟩ ?_
    refine zo_aload_n (p' := 13) (zi_104 rfl) rfl rfl ?_
    rcases r7 with _ | q9
    · have g19 := zcs_none g18
      refine zo_nonnullF (p' := 16) (zi_104 rfl) rfl ?_
      refine zo_sipush (p' := 19) (v := (-1001)) (zi_104 rfl) rfl rfl ?_
      refine zo_goto (p' := 27) (zi_104 rfl) rfl ?_
      have g20 := Option.some.inj g19
      subst g20
      exact zo_iret (zi_104 rfl) rfl ⟨rfl, rfl⟩
    · obtain ⟨hq10, g21⟩ := zcs_some g18
      refine zo_nonnullT (p' := 22) (zi_104 rfl) rfl hq10 ?_
      refine zo_aload_n (p' := 23) (zi_104 rfl) rfl rfl ?_
      refine zo_aload_n (p' := 24) (zi_104 rfl) rfl rfl ?_
      obtain ⟨x11, M13, hx12, g22⟩ := zbd_of g21
      refine zo_callVi (p' := 27) (t := 11) (as := [zrf (some q9)]) (r := []) (zi_104 rfl) rfl zl_1_279 rfl rfl (Or.inl ⟨by decide, rfl⟩) (Nat.le_of_ble_eq_true rfl) (Nat.le_of_ble_eq_true rfl) (f_105_ok hx12) (k_105 _ hx12) ?_
      have g23 := Option.some.inj g22
      subst g23
      exact zo_iret (zi_104 rfl) rfl ⟨rfl, rfl⟩
  · rw [if_neg hok] at h; cases h
/-- SlateHalves.worst()I -/
def f_106_68 (r7 : ZMem → Nat → Int32 → Int32 → Int32 → Option (Int32 × ZMem)) (M : ZMem) (o : Nat) (b1 : Int32) (b2 : Int32) (b3 : Int32) : Option (Int32 × ZMem) := r7 M o b1 b2 ((b3 + 1))
def f_106_63 (r7 : ZMem → Nat → Int32 → Int32 → Int32 → Option (Int32 × ZMem)) (M : ZMem) (o : Nat) (b1 : Int32) (b2 : Int32) : Option (Int32 × ZMem) := f_106_68 (fun M a0 a1 a2 a3 => r7 M a0 a1 a2 a3) M o b1 b2 b1
def f_106_7 : Nat → ZMem → Nat → Int32 → Int32 → Int32 → Option (Int32 × ZMem)
  | 0, _, _, _, _, _ => none
  | z + 1, M, o, b1, b2, b3 => zb (zgr M 11 0 o) fun r1 => zb r1 fun q3 => zb (zgr M 7 0 q3) fun r4 => zb r4 fun q6 => zb (zgi M 10 1 q6) fun x7 => if x7 ≤ b3 then (some (b1, M)) else (zb (zgr M 11 0 o) fun r10 => zb r10 fun q12 => zb (zgr M 7 0 q12) fun r13 => zb r13 fun q15 => zb (zgr M 10 0 q15) fun r16 => zb r16 fun q18 => zb (zlaR M q18 b3) fun r19 => zb r19 fun q21 => zb (f_57 M q21) fun x22 => if ¬ x22 = 0 then (f_106_68 (fun M a0 a1 a2 a3 => f_106_7 z M a0 a1 a2 a3) M o b1 b2 b3) else (zbd (f_105 M o (some q21)) fun x25 M27 => if b1 = (-5) then (f_106_63 (fun M a0 a1 a2 a3 => f_106_7 z M a0 a1 a2 a3) M27 o b3 x25) else (if x25 ≤ b2 then (f_106_68 (fun M a0 a1 a2 a3 => f_106_7 z M a0 a1 a2 a3) M27 o b1 b2 b3) else (f_106_63 (fun M a0 a1 a2 a3 => f_106_7 z M a0 a1 a2 a3) M27 o b3 x25))))
set_option maxRecDepth 20000 in
theorem k_106_68 (d : Nat) (r7 : ZMem → Nat → Int32 → Int32 → Int32 → Option (Int32 × ZMem)) (h7 : ∀ (M : ZMem) (a0 : Nat) (a1 : Int32) (a2 : Int32) (a3 : Int32) (out : Int32 × ZMem), r7 M a0 a1 a2 a3 = some out → zgo none (d + 6) 106 7 [(0, zrf (some a0)), (1, .int a1), (2, .int a2), (3, .int a3)] [] M (some (.int out.1), out.2)) : ∀ (M : ZMem) (o : Nat) (b1 : Int32) (b2 : Int32) (b3 : Int32) (out : Int32 × ZMem), f_106_68 r7 M o b1 b2 b3 = some out → zgo none (d + 6) 106 68 [(0, zrf (some o)), (1, .int b1), (2, .int b2), (3, .int b3)] [] M (some (.int out.1), out.2) := by
  intro M o b1 b2 b3 out h
  unfold f_106_68 at h
  refine zo_iinc (p' := 71) (v := (b3 + 1)) (L' := [(0, zrf (some o)), (1, .int b1), (2, .int b2), (3, .int ((b3 + 1)))]) (zi_106 rfl) rfl zm_106_3 rfl rfl ⟨Or.inr ⟨by decide, rfl, fun q => absurd q (by decide)⟩, ⟨Or.inr ⟨by decide, rfl, fun q => absurd q (by decide)⟩, ⟨Or.inr ⟨by decide, rfl, fun _ => rfl⟩, ⟨Or.inl ⟨rfl, rfl⟩, trivial⟩⟩⟩⟩ ?_
  refine zo_goto (p' := 7) (zi_106 rfl) rfl ?_
  refine zgo_sub (L' := [(0, zrf (some o)), (1, .int b1), (2, .int b2), (3, .int (((b3 + 1))))]) (⟨rfl, rfl, rfl, rfl, trivial⟩) ?_
  exact h7 M o b1 b2 ((b3 + 1)) _ h
set_option maxRecDepth 20000 in
theorem k_106_63 (d : Nat) (r7 : ZMem → Nat → Int32 → Int32 → Int32 → Option (Int32 × ZMem)) (h7 : ∀ (M : ZMem) (a0 : Nat) (a1 : Int32) (a2 : Int32) (a3 : Int32) (out : Int32 × ZMem), r7 M a0 a1 a2 a3 = some out → zgo none (d + 6) 106 7 [(0, zrf (some a0)), (1, .int a1), (2, .int a2), (3, .int a3)] [] M (some (.int out.1), out.2)) : ∀ (M : ZMem) (o : Nat) (b1 : Int32) (b2 : Int32) (out : Int32 × ZMem), f_106_63 r7 M o b1 b2 = some out → zgo none (d + 6) 106 63 [(0, zrf (some o)), (3, .int b1), (5, .int b2)] [] M (some (.int out.1), out.2) := by
  intro M o b1 b2 out h
  unfold f_106_63 at h
  refine zo_iload_n (p' := 64) (zi_106 rfl) rfl rfl ?_
  refine zo_istore_n (p' := 65) (L' := [(0, zrf (some o)), (1, .int b1), (3, .int b1), (5, .int b2)]) (zi_106 rfl) rfl zm_106_1 ⟨Or.inr ⟨by decide, rfl, fun _ => zrf_cat _⟩, ⟨Or.inl ⟨rfl, rfl⟩, ⟨Or.inr ⟨by decide, rfl, fun q => absurd q (by decide)⟩, ⟨Or.inr ⟨by decide, rfl, fun q => absurd q (by decide)⟩, trivial⟩⟩⟩⟩ ?_
  refine zo_iload (p' := 67) (zi_106 rfl) rfl rfl ?_
  refine zo_istore_n (p' := 68) (L' := [(0, zrf (some o)), (1, .int b1), (2, .int b2), (3, .int b1), (5, .int b2)]) (zi_106 rfl) rfl zm_106_2 ⟨Or.inr ⟨by decide, rfl, fun q => absurd q (by decide)⟩, ⟨Or.inr ⟨by decide, rfl, fun _ => rfl⟩, ⟨Or.inl ⟨rfl, rfl⟩, ⟨Or.inr ⟨by decide, rfl, fun q => absurd q (by decide)⟩, ⟨Or.inr ⟨by decide, rfl, fun q => absurd q (by decide)⟩, trivial⟩⟩⟩⟩⟩ ?_
  refine zgo_sub (L' := [(0, zrf (some o)), (1, .int b1), (2, .int b2), (3, .int b1)]) (⟨rfl, rfl, rfl, rfl, trivial⟩) ?_
  exact k_106_68 _ _ (fun M a0 a1 a2 a3 out h => h7 M a0 a1 a2 a3 out h) M o b1 b2 b1 _ h
set_option maxRecDepth 20000 in
theorem k_106_7 (d : Nat) : ∀ (z : Nat) (M : ZMem) (o : Nat) (b1 : Int32) (b2 : Int32) (b3 : Int32) (out : Int32 × ZMem), f_106_7 z M o b1 b2 b3 = some out → zgo none (d + 6) 106 7 [(0, zrf (some o)), (1, .int b1), (2, .int b2), (3, .int b3)] [] M (some (.int out.1), out.2) := by
  intro z
  induction z with
  | zero => intro M o b1 b2 b3 out h; cases h
  | succ z ih =>
    intro M o b1 b2 b3 out h
    rw [f_106_7] at h
    refine zo_iload_n (p' := 8) (zi_106 rfl) rfl rfl ?_
    refine zo_aload_n (p' := 9) (zi_106 rfl) rfl rfl ?_
    obtain ⟨r1, hx2, g30⟩ := zb_of h
    refine zo_getR (p' := 12) (zi_106 rfl) rfl zl_1_14 hx2 ?_
    obtain ⟨q3, h0, g31⟩ := zb_of g30
    subst h0
    obtain ⟨r4, hx5, g32⟩ := zb_of g31
    refine zo_getR (p' := 15) (zi_106 rfl) rfl zl_1_100 hx5 ?_
    obtain ⟨q6, h0, g33⟩ := zb_of g32
    subst h0
    obtain ⟨x7, hx8, g34⟩ := zb_of g33
    refine zo_getI (p' := 18) (zi_106 rfl) rfl zl_1_261 hx8 ?_
    by_cases hc9 : x7 ≤ b3
    · rw [if_pos hc9] at g34
      refine zo_icT (p' := 74) (zi_106 rfl) rfl hc9 ?_
      refine zo_iload_n (p' := 75) (zi_106 rfl) rfl rfl ?_
      have g35 := Option.some.inj g34
      subst g35
      exact zo_iret (zi_106 rfl) rfl ⟨rfl, rfl⟩
    · rw [if_neg hc9] at g34
      refine zo_icF (p' := 21) (zi_106 rfl) rfl rfl hc9 ?_
      refine zo_aload_n (p' := 22) (zi_106 rfl) rfl rfl ?_
      obtain ⟨r10, hx11, g36⟩ := zb_of g34
      refine zo_getR (p' := 25) (zi_106 rfl) rfl zl_1_14 hx11 ?_
      obtain ⟨q12, h0, g37⟩ := zb_of g36
      subst h0
      obtain ⟨r13, hx14, g38⟩ := zb_of g37
      refine zo_getR (p' := 28) (zi_106 rfl) rfl zl_1_100 hx14 ?_
      obtain ⟨q15, h0, g39⟩ := zb_of g38
      subst h0
      obtain ⟨r16, hx17, g40⟩ := zb_of g39
      refine zo_getR (p' := 31) (zi_106 rfl) rfl zl_1_264 hx17 ?_
      refine zo_iload_n (p' := 32) (zi_106 rfl) rfl rfl ?_
      obtain ⟨q18, h0, g41⟩ := zb_of g40
      subst h0
      obtain ⟨r19, hx20, g42⟩ := zb_of g41
      refine zo_aald (p' := 33) (zi_106 rfl) rfl hx20 ?_
      refine zo_astore (p' := 35) (L' := [(0, zrf (some o)), (1, .int b1), (2, .int b2), (3, .int b3), (4, zrf r19)]) (zi_106 rfl) rfl zm_106_4 ⟨Or.inr ⟨by decide, rfl, fun q => absurd q (by decide)⟩, ⟨Or.inr ⟨by decide, rfl, fun q => absurd q (by decide)⟩, ⟨Or.inr ⟨by decide, rfl, fun q => absurd q (by decide)⟩, ⟨Or.inr ⟨by decide, rfl, fun _ => rfl⟩, ⟨Or.inl ⟨rfl, rfl⟩, trivial⟩⟩⟩⟩⟩ ?_
      refine zo_aload (p' := 37) (zi_106 rfl) rfl rfl ?_
      obtain ⟨q21, h0, g43⟩ := zb_of g42
      subst h0
      obtain ⟨x22, hx23, g44⟩ := zb_of g43
      refine zo_callVi (p' := 40) (t := 1) (as := []) (r := []) (zi_106 rfl) rfl zl_1_204 rfl rfl (Or.inl ⟨by decide, rfl⟩) (Nat.le_of_ble_eq_true rfl) (Nat.le_of_ble_eq_true rfl) (f_57_ok hx23) (k_57 _ hx23) ?_
      by_cases hc24 : ¬ x22 = 0
      · rw [if_pos hc24] at g44
        refine zo_ifT (p' := 68) (zi_106 rfl) rfl hc24 ?_
        refine zgo_sub (L' := [(0, zrf (some o)), (1, .int b1), (2, .int b2), (3, .int b3)]) (⟨rfl, rfl, rfl, rfl, trivial⟩) ?_
        exact k_106_68 _ _ (fun M a0 a1 a2 a3 out h => ih M a0 a1 a2 a3 out h) M o b1 b2 b3 _ g44
      · rw [if_neg hc24] at g44
        refine zo_ifF (p' := 43) (zi_106 rfl) rfl rfl hc24 ?_
        refine zo_aload_n (p' := 44) (zi_106 rfl) rfl rfl ?_
        refine zo_aload (p' := 46) (zi_106 rfl) rfl rfl ?_
        obtain ⟨x25, M27, hx26, g45⟩ := zbd_of g44
        refine zo_callVi (p' := 49) (t := 11) (as := [zrf (some q21)]) (r := []) (zi_106 rfl) rfl zl_1_279 rfl rfl (Or.inl ⟨by decide, rfl⟩) (Nat.le_of_ble_eq_true rfl) (Nat.le_of_ble_eq_true rfl) (f_105_ok hx26) (k_105 _ hx26) ?_
        refine zo_istore (p' := 51) (L' := [(0, zrf (some o)), (1, .int b1), (2, .int b2), (3, .int b3), (4, zrf (some q21)), (5, .int x25)]) (zi_106 rfl) rfl zm_106_5 ⟨Or.inr ⟨by decide, rfl, fun q => absurd q (by decide)⟩, ⟨Or.inr ⟨by decide, rfl, fun q => absurd q (by decide)⟩, ⟨Or.inr ⟨by decide, rfl, fun q => absurd q (by decide)⟩, ⟨Or.inr ⟨by decide, rfl, fun q => absurd q (by decide)⟩, ⟨Or.inr ⟨by decide, rfl, fun _ => zrf_cat _⟩, ⟨Or.inl ⟨rfl, rfl⟩, trivial⟩⟩⟩⟩⟩⟩ ?_
        refine zo_iload_n (p' := 52) (zi_106 rfl) rfl rfl ?_
        refine zo_bipush (p' := 54) (v := (-5)) (zi_106 rfl) rfl rfl ?_
        by_cases hc28 : b1 = (-5)
        · rw [if_pos hc28] at g45
          refine zo_icT (p' := 63) (zi_106 rfl) rfl hc28 ?_
          refine zgo_sub (L' := [(0, zrf (some o)), (3, .int b3), (5, .int x25)]) (⟨rfl, rfl, rfl, trivial⟩) ?_
          exact k_106_63 _ _ (fun M a0 a1 a2 a3 out h => ih M a0 a1 a2 a3 out h) M27 o b3 x25 _ g45
        · rw [if_neg hc28] at g45
          refine zo_icF (p' := 57) (zi_106 rfl) rfl rfl hc28 ?_
          refine zo_iload (p' := 59) (zi_106 rfl) rfl rfl ?_
          refine zo_iload_n (p' := 60) (zi_106 rfl) rfl rfl ?_
          by_cases hc29 : x25 ≤ b2
          · rw [if_pos hc29] at g45
            refine zo_icT (p' := 68) (zi_106 rfl) rfl hc29 ?_
            refine zgo_sub (L' := [(0, zrf (some o)), (1, .int b1), (2, .int b2), (3, .int b3)]) (⟨rfl, rfl, rfl, rfl, trivial⟩) ?_
            exact k_106_68 _ _ (fun M a0 a1 a2 a3 out h => ih M a0 a1 a2 a3 out h) M27 o b1 b2 b3 _ g45
          · rw [if_neg hc29] at g45
            refine zo_icF (p' := 63) (zi_106 rfl) rfl rfl hc29 ?_
            refine zgo_sub (L' := [(0, zrf (some o)), (3, .int b3), (5, .int x25)]) (⟨rfl, rfl, rfl, trivial⟩) ?_
            exact k_106_63 _ _ (fun M a0 a1 a2 a3 out h => ih M a0 a1 a2 a3 out h) M27 o b3 x25 _ g45
def f_106 (M : ZMem) (o : Nat) : Option (Int32 × ZMem) := if zok M 11 o = true then (f_106_7 zF M o ((-5)) 0 0) else none
theorem f_106_ok {M : ZMem} {o : Nat} {out : Int32 × ZMem} (h : f_106 M o = some out) : zok M 11 o = true := by
  unfold f_106 at h
  by_cases hok : zok M 11 o = true
  · exact hok
  · rw [if_neg hok] at h; cases h
set_option maxRecDepth 20000 in
theorem k_106 (d : Nat) {M : ZMem} {o : Nat} {out : Int32 × ZMem} (h : f_106 M o = some out) : zrn (d + 6) 106 [zrf (some o)] M (some (.int out.1), out.2) := by
  unfold f_106 at h
  by_cases hok : zok M 11 o = true
  · rw [if_pos hok] at h
    refine zrn_of (L := [(0, zrf (some o))]) rfl ?_
    refine zo_bipush (p' := 2) (v := (-5)) (zi_106 rfl) rfl rfl ?_
    refine zo_istore_n (p' := 3) (L' := [(0, zrf (some o)), (1, .int ((-5)))]) (zi_106 rfl) rfl zm_106_1 ⟨Or.inr ⟨by decide, rfl, fun _ => zrf_cat _⟩, ⟨Or.inl ⟨rfl, rfl⟩, trivial⟩⟩ ?_
    refine zo_iconst (p' := 4) (v := 0) (zi_106 rfl) rfl rfl ?_
    refine zo_istore_n (p' := 5) (L' := [(0, zrf (some o)), (1, .int ((-5))), (2, .int 0)]) (zi_106 rfl) rfl zm_106_2 ⟨Or.inr ⟨by decide, rfl, fun q => absurd q (by decide)⟩, ⟨Or.inr ⟨by decide, rfl, fun _ => rfl⟩, ⟨Or.inl ⟨rfl, rfl⟩, trivial⟩⟩⟩ ?_
    refine zo_iconst (p' := 6) (v := 0) (zi_106 rfl) rfl rfl ?_
    refine zo_istore_n (p' := 7) (L' := [(0, zrf (some o)), (1, .int ((-5))), (2, .int 0), (3, .int 0)]) (zi_106 rfl) rfl zm_106_3 ⟨Or.inr ⟨by decide, rfl, fun q => absurd q (by decide)⟩, ⟨Or.inr ⟨by decide, rfl, fun q => absurd q (by decide)⟩, ⟨Or.inr ⟨by decide, rfl, fun _ => rfl⟩, ⟨Or.inl ⟨rfl, rfl⟩, trivial⟩⟩⟩⟩ ?_
    refine zgo_sub (L' := [(0, zrf (some o)), (1, .int (((-5)))), (2, .int 0), (3, .int 0)]) (⟨rfl, rfl, rfl, rfl, trivial⟩) ?_
    exact k_106_7 _ zF M o ((-5)) 0 0 _ h
  · rw [if_neg hok] at h; cases h
/-- SlateHalves$Rows.addRow(III)I -/
def f_108 (M : ZMem) (o : Nat) (a0 : Int32) (a1 : Int32) (a2 : Int32) : Option (Int32 × ZMem) := if zok M 6 o = true then (zb (zgi M 6 4 o) fun x1 => zb (zgi M 6 0 o) fun x3 => if x1 < x3 then (zb (zgr M 6 1 o) fun r6 => zb (zgi M 6 4 o) fun x8 => zb r6 fun q10 => zb (zsa M 20 q10 x8 a0) fun M11 => zb (zgr M11 6 2 o) fun r13 => zb (zgi M11 6 4 o) fun x15 => zb r13 fun q17 => zb (zsa M11 20 q17 x15 a1) fun M18 => zb (zgr M18 6 3 o) fun r20 => zb (zgi M18 6 4 o) fun x22 => zb r20 fun q24 => zb (zsa M18 20 q24 x22 a2) fun M25 => zb (zgi M25 6 4 o) fun x27 => zb (zpf M25 6 4 o (.int ((x27 + 1))) false) fun M29 => zb (zgi M29 6 4 o) fun x31 => some (x31, M29)) else (some ((-4), M))) else none
theorem f_108_ok {M : ZMem} {o : Nat} {a0 : Int32} {a1 : Int32} {a2 : Int32} {out : Int32 × ZMem} (h : f_108 M o a0 a1 a2 = some out) : zok M 6 o = true := by
  unfold f_108 at h
  by_cases hok : zok M 6 o = true
  · exact hok
  · rw [if_neg hok] at h; cases h
set_option maxRecDepth 20000 in
theorem k_108 (d : Nat) {M : ZMem} {o : Nat} {a0 : Int32} {a1 : Int32} {a2 : Int32} {out : Int32 × ZMem} (h : f_108 M o a0 a1 a2 = some out) : zrn (d) 108 [zrf (some o), .int a0, .int a1, .int a2] M (some (.int out.1), out.2) := by
  unfold f_108 at h
  by_cases hok : zok M 6 o = true
  · rw [if_pos hok] at h
    refine zrn_of (L := [(0, zrf (some o)), (1, .int a0), (2, .int a1), (3, .int a2)]) rfl ?_
    refine zo_aload_n (p' := 1) (zi_108 rfl) rfl rfl ?_
    obtain ⟨x1, hx2, g33⟩ := zb_of h
    refine zo_getI (p' := 4) (zi_108 rfl) rfl zl_5_9 hx2 ?_
    refine zo_aload_n (p' := 5) (zi_108 rfl) rfl rfl ?_
    obtain ⟨x3, hx4, g34⟩ := zb_of g33
    refine zo_getI (p' := 8) (zi_108 rfl) rfl zl_5_15 hx4 ?_
    by_cases hc5 : x1 < x3
    · rw [if_pos hc5] at g34
      refine zo_icT (p' := 14) (zi_108 rfl) rfl hc5 ?_
      refine zo_aload_n (p' := 15) (zi_108 rfl) rfl rfl ?_
      obtain ⟨r6, hx7, g35⟩ := zb_of g34
      refine zo_getR (p' := 18) (zi_108 rfl) rfl zl_5_18 hx7 ?_
      refine zo_aload_n (p' := 19) (zi_108 rfl) rfl rfl ?_
      obtain ⟨x8, hx9, g36⟩ := zb_of g35
      refine zo_getI (p' := 22) (zi_108 rfl) rfl zl_5_9 hx9 ?_
      refine zo_iload_n (p' := 23) (zi_108 rfl) rfl rfl ?_
      obtain ⟨q10, h0, g37⟩ := zb_of g36
      subst h0
      obtain ⟨M11, hx12, g38⟩ := zb_of g37
      refine zo_iast (p' := 24) (zi_108 rfl) rfl hx12 ?_
      refine zo_aload_n (p' := 25) (zi_108 rfl) rfl rfl ?_
      obtain ⟨r13, hx14, g39⟩ := zb_of g38
      refine zo_getR (p' := 28) (zi_108 rfl) rfl zl_5_22 hx14 ?_
      refine zo_aload_n (p' := 29) (zi_108 rfl) rfl rfl ?_
      obtain ⟨x15, hx16, g40⟩ := zb_of g39
      refine zo_getI (p' := 32) (zi_108 rfl) rfl zl_5_9 hx16 ?_
      refine zo_iload_n (p' := 33) (zi_108 rfl) rfl rfl ?_
      obtain ⟨q17, h0, g41⟩ := zb_of g40
      subst h0
      obtain ⟨M18, hx19, g42⟩ := zb_of g41
      refine zo_iast (p' := 34) (zi_108 rfl) rfl hx19 ?_
      refine zo_aload_n (p' := 35) (zi_108 rfl) rfl rfl ?_
      obtain ⟨r20, hx21, g43⟩ := zb_of g42
      refine zo_getR (p' := 38) (zi_108 rfl) rfl zl_5_25 hx21 ?_
      refine zo_aload_n (p' := 39) (zi_108 rfl) rfl rfl ?_
      obtain ⟨x22, hx23, g44⟩ := zb_of g43
      refine zo_getI (p' := 42) (zi_108 rfl) rfl zl_5_9 hx23 ?_
      refine zo_iload_n (p' := 43) (zi_108 rfl) rfl rfl ?_
      obtain ⟨q24, h0, g45⟩ := zb_of g44
      subst h0
      obtain ⟨M25, hx26, g46⟩ := zb_of g45
      refine zo_iast (p' := 44) (zi_108 rfl) rfl hx26 ?_
      refine zo_aload_n (p' := 45) (zi_108 rfl) rfl rfl ?_
      refine zo_dup (p' := 46) (zi_108 rfl) rfl (zrf_cat _) ?_
      obtain ⟨x27, hx28, g47⟩ := zb_of g46
      refine zo_getI (p' := 49) (zi_108 rfl) rfl zl_5_9 hx28 ?_
      refine zo_iconst (p' := 50) (v := 1) (zi_108 rfl) rfl rfl ?_
      refine zo_iadd (p' := 51) (zi_108 rfl) rfl ?_
      obtain ⟨M29, hx30, g48⟩ := zb_of g47
      refine zo_putI (p' := 54) (zi_108 rfl) rfl zl_5_9 (zpb_108 _) hx30 ?_
      refine zo_aload_n (p' := 55) (zi_108 rfl) rfl rfl ?_
      obtain ⟨x31, hx32, g49⟩ := zb_of g48
      refine zo_getI (p' := 58) (zi_108 rfl) rfl zl_5_9 hx32 ?_
      have g50 := Option.some.inj g49
      subst g50
      exact zo_iret (zi_108 rfl) rfl ⟨rfl, rfl⟩
    · rw [if_neg hc5] at g34
      refine zo_icF (p' := 11) (zi_108 rfl) rfl rfl hc5 ?_
      refine zo_bipush (p' := 13) (v := (-4)) (zi_108 rfl) rfl rfl ?_
      have g51 := Option.some.inj g34
      subst g51
      exact zo_iret (zi_108 rfl) rfl ⟨rfl, rfl⟩
  · rw [if_neg hok] at h; cases h
/-- SlateHalves.see(IIZ)I -/
def f_107_47 (M : ZMem) (b0 : Int32) (b1 : Int32) (b2 : Int32) (b3 : Option Nat) : Option (Int32 × ZMem) := zb b3 fun q30 => zbd (f_108 M q30 b2 b1 b0) fun x31 M33 => some (x31, M33)
set_option maxRecDepth 20000 in
theorem k_107_47 (d : Nat) : ∀ (M : ZMem) (b0 : Int32) (b1 : Int32) (b2 : Int32) (b3 : Option Nat) (out : Int32 × ZMem), f_107_47 M b0 b1 b2 b3 = some out → zgo none (d + 2) 107 47 [] [.int b0, .int b1, .int b2, zrf b3] M (some (.int out.1), out.2) := by
  intro M b0 b1 b2 b3 out h
  unfold f_107_47 at h
  obtain ⟨q30, h0, g34⟩ := zb_of h
  subst h0
  obtain ⟨x31, M33, hx32, g35⟩ := zbd_of g34
  refine zo_callVi (p' := 50) (t := 6) (as := [.int b2, .int b1, .int b0]) (r := []) (zi_107 rfl) rfl zl_1_292 rfl rfl (Or.inl ⟨by decide, rfl⟩) (Nat.le_of_ble_eq_true rfl) (Nat.le_of_ble_eq_true rfl) (f_108_ok hx32) (k_108 _ hx32) ?_
  have g36 := Option.some.inj g35
  subst g36
  exact zo_iret (zi_107 rfl) rfl ⟨rfl, rfl⟩
def f_107 (M : ZMem) (o : Nat) (a0 : Int32) (a1 : Int32) (a2 : Int32) : Option (Int32 × ZMem) := if zok M 11 o = true then (if ¬ a0 = (-1) then (zb (f_55 M a1 a0) fun x2 => if ¬ x2 = 0 then (zb (zgr M 11 0 o) fun r5 => zb r5 fun q7 => zb (zgr M 7 1 q7) fun r8 => if a2 = 0 then (f_107_47 M 0 a1 a0 r8) else (f_107_47 M 1 a1 a0 r8)) else (some ((-2), M))) else (zb (zgr M 11 0 o) fun r11 => zb r11 fun q13 => zb (zgr M 7 1 q13) fun r14 => zb r14 fun q16 => zb (zpf M 6 4 q16 (.int 0) false) fun M17 => some (0, M17))) else none
theorem f_107_ok {M : ZMem} {o : Nat} {a0 : Int32} {a1 : Int32} {a2 : Int32} {out : Int32 × ZMem} (h : f_107 M o a0 a1 a2 = some out) : zok M 11 o = true := by
  unfold f_107 at h
  by_cases hok : zok M 11 o = true
  · exact hok
  · rw [if_neg hok] at h; cases h
set_option maxRecDepth 20000 in
theorem k_107 (d : Nat) {M : ZMem} {o : Nat} {a0 : Int32} {a1 : Int32} {a2 : Int32} {out : Int32 × ZMem} (h : f_107 M o a0 a1 a2 = some out) : zrn (d + 2) 107 [zrf (some o), .int a0, .int a1, .int a2] M (some (.int out.1), out.2) := by
  unfold f_107 at h
  by_cases hok : zok M 11 o = true
  · rw [if_pos hok] at h
    refine zrn_of (L := [(0, zrf (some o)), (1, .int a0), (2, .int a1), (3, .int a2)]) rfl ?_
    refine zo_iload_n (p' := 1) (zi_107 rfl) rfl rfl ?_
    refine zo_iconst (p' := 2) (v := (-1)) (zi_107 rfl) rfl rfl ?_
    by_cases hc1 : ¬ a0 = (-1)
    · rw [if_pos hc1] at h
      refine zo_icT (p' := 18) (zi_107 rfl) rfl hc1 ?_
      refine zo_iload_n (p' := 19) (zi_107 rfl) rfl rfl ?_
      refine zo_iload_n (p' := 20) (zi_107 rfl) rfl rfl ?_
      obtain ⟨x2, hx3, g19⟩ := zb_of h
      refine zo_callSi (p' := 23) (as := [.int a1, .int a0]) (r := []) (zi_107 rfl) rfl (Or.inl zl_1_200) rfl rfl (Nat.le_of_ble_eq_true rfl) (Nat.le_of_ble_eq_true rfl) (k_55 _ hx3) ?_
      by_cases hc4 : ¬ x2 = 0
      · rw [if_pos hc4] at g19
        refine zo_ifT (p' := 29) (zi_107 rfl) rfl hc4 ?_
        refine zo_aload_n (p' := 30) (zi_107 rfl) rfl rfl ?_
        obtain ⟨r5, hx6, g20⟩ := zb_of g19
        refine zo_getR (p' := 33) (zi_107 rfl) rfl zl_1_14 hx6 ?_
        obtain ⟨q7, h0, g21⟩ := zb_of g20
        subst h0
        obtain ⟨r8, hx9, g22⟩ := zb_of g21
        refine zo_getR (p' := 36) (zi_107 rfl) rfl zl_1_283 hx9 ?_
        refine zo_iload_n (p' := 37) (zi_107 rfl) rfl rfl ?_
        refine zo_iload_n (p' := 38) (zi_107 rfl) rfl rfl ?_
        refine zo_iload_n (p' := 39) (zi_107 rfl) rfl rfl ?_
        by_cases hc10 : a2 = 0
        · rw [if_pos hc10] at g22
          refine zo_ifT (p' := 46) (zi_107 rfl) rfl hc10 ?_
          refine zo_iconst (p' := 47) (v := 0) (zi_107 rfl) rfl rfl ?_
          refine zgo_sub (L' := []) (trivial) ?_
          exact k_107_47 _ M 0 a1 a0 r8 _ g22
        · rw [if_neg hc10] at g22
          refine zo_ifF (p' := 42) (zi_107 rfl) rfl rfl hc10 ?_
          refine zo_iconst (p' := 43) (v := 1) (zi_107 rfl) rfl rfl ?_
          refine zo_goto (p' := 47) (zi_107 rfl) rfl ?_
          refine zgo_sub (L' := []) (trivial) ?_
          exact k_107_47 _ M 1 a1 a0 r8 _ g22
      · rw [if_neg hc4] at g19
        refine zo_ifF (p' := 26) (zi_107 rfl) rfl rfl hc4 ?_
        refine zo_bipush (p' := 28) (v := (-2)) (zi_107 rfl) rfl rfl ?_
        have g23 := Option.some.inj g19
        subst g23
        exact zo_iret (zi_107 rfl) rfl ⟨rfl, rfl⟩
    · rw [if_neg hc1] at h
      refine zo_icF (p' := 5) (zi_107 rfl) rfl rfl hc1 ?_
      refine zo_aload_n (p' := 6) (zi_107 rfl) rfl rfl ?_
      obtain ⟨r11, hx12, g24⟩ := zb_of h
      refine zo_getR (p' := 9) (zi_107 rfl) rfl zl_1_14 hx12 ?_
      obtain ⟨q13, h0, g25⟩ := zb_of g24
      subst h0
      obtain ⟨r14, hx15, g26⟩ := zb_of g25
      refine zo_getR (p' := 12) (zi_107 rfl) rfl zl_1_283 hx15 ?_
      refine zo_iconst (p' := 13) (v := 0) (zi_107 rfl) rfl rfl ?_
      obtain ⟨q16, h0, g27⟩ := zb_of g26
      subst h0
      obtain ⟨M17, hx18, g28⟩ := zb_of g27
      refine zo_putI (p' := 16) (zi_107 rfl) rfl zl_1_287 (zpb_107 _) hx18 ?_
      refine zo_iconst (p' := 17) (v := 0) (zi_107 rfl) rfl rfl ?_
      have g29 := Option.some.inj g28
      subst g29
      exact zo_iret (zi_107 rfl) rfl ⟨rfl, rfl⟩
  · rw [if_neg hok] at h; cases h
/-- SlateHalves.isAllSeenSo()Z -/
def f_111_52 (r10 : ZMem → Nat → Option Nat → Int32 → Option (Int32)) (M : ZMem) (o : Nat) (b1 : Option Nat) (b2 : Int32) (b3 : Int32) (b4 : Int32) : Option (Int32) := if b4 = b3 then (r10 M o b1 ((b2 + 1))) else (some 0)
def f_111_10 : Nat → ZMem → Nat → Option Nat → Int32 → Option (Int32)
  | 0, _, _, _, _ => none
  | z + 1, M, o, b1, b2 => zb b1 fun q9 => zb (zgi M 6 4 q9) fun x10 => if x10 ≤ b2 then (some 1) else (zb (zgr M 11 10 o) fun r13 => zb (zgr M 6 2 q9) fun r15 => zb r15 fun q17 => zb (zai M q17 b2) fun x18 => zb (zgr M 6 1 q9) fun r20 => zb r20 fun q22 => zb (zai M q22 b2) fun x23 => zb r13 fun q25 => zb (f_41 M q25 x18 x23) fun x26 => zb (zgr M 6 3 q9) fun r28 => zb r28 fun q30 => zb (zai M q30 b2) fun x31 => if ¬ x31 = 1 then (f_111_52 (fun M a0 a1 a2 => f_111_10 z M a0 a1 a2) M o (some q9) b2 0 x26) else (f_111_52 (fun M a0 a1 a2 => f_111_10 z M a0 a1 a2) M o (some q9) b2 1 x26))
set_option maxRecDepth 20000 in
theorem k_111_52 (d : Nat) (r10 : ZMem → Nat → Option Nat → Int32 → Option (Int32)) (h10 : ∀ (M : ZMem) (a0 : Nat) (a1 : Option Nat) (a2 : Int32) (out : Int32), r10 M a0 a1 a2 = some out → zgo none (d + 1) 111 10 [(0, zrf (some a0)), (1, zrf a1), (2, .int a2)] [] M (some (.int out), M)) : ∀ (M : ZMem) (o : Nat) (b1 : Option Nat) (b2 : Int32) (b3 : Int32) (b4 : Int32) (out : Int32), f_111_52 r10 M o b1 b2 b3 b4 = some out → zgo none (d + 1) 111 52 [(0, zrf (some o)), (1, zrf b1), (2, .int b2)] [.int b3, .int b4] M (some (.int out), M) := by
  intro M o b1 b2 b3 b4 out h
  unfold f_111_52 at h
  by_cases hc49 : b4 = b3
  · rw [if_pos hc49] at h
    refine zo_icT (p' := 57) (zi_111 rfl) rfl hc49 ?_
    refine zo_iinc (p' := 60) (v := (b2 + 1)) (L' := [(0, zrf (some o)), (1, zrf b1), (2, .int ((b2 + 1)))]) (zi_111 rfl) rfl zm_111_2 rfl rfl ⟨Or.inr ⟨by decide, rfl, fun q => absurd q (by decide)⟩, ⟨Or.inr ⟨by decide, rfl, fun _ => zrf_cat _⟩, ⟨Or.inl ⟨rfl, rfl⟩, trivial⟩⟩⟩ ?_
    refine zo_goto (p' := 10) (zi_111 rfl) rfl ?_
    refine zgo_sub (L' := [(0, zrf (some o)), (1, zrf b1), (2, .int (((b2 + 1))))]) (⟨rfl, rfl, rfl, trivial⟩) ?_
    exact h10 M o b1 ((b2 + 1)) _ h
  · rw [if_neg hc49] at h
    refine zo_icF (p' := 55) (zi_111 rfl) rfl rfl hc49 ?_
    refine zo_iconst (p' := 56) (v := 0) (zi_111 rfl) rfl rfl ?_
    have g50 := Option.some.inj h
    subst g50
    exact zo_iret (zi_111 rfl) rfl ⟨rfl, rfl⟩
set_option maxRecDepth 20000 in
theorem k_111_10 (d : Nat) : ∀ (z : Nat) (M : ZMem) (o : Nat) (b1 : Option Nat) (b2 : Int32) (out : Int32), f_111_10 z M o b1 b2 = some out → zgo none (d + 1) 111 10 [(0, zrf (some o)), (1, zrf b1), (2, .int b2)] [] M (some (.int out), M) := by
  intro z
  induction z with
  | zero => intro M o b1 b2 out h; cases h
  | succ z ih =>
    intro M o b1 b2 out h
    rw [f_111_10] at h
    refine zo_iload_n (p' := 11) (zi_111 rfl) rfl rfl ?_
    refine zo_aload_n (p' := 12) (zi_111 rfl) rfl rfl ?_
    obtain ⟨q9, h0, g34⟩ := zb_of h
    subst h0
    obtain ⟨x10, hx11, g35⟩ := zb_of g34
    refine zo_getI (p' := 15) (zi_111 rfl) rfl zl_1_287 hx11 ?_
    by_cases hc12 : x10 ≤ b2
    · rw [if_pos hc12] at g35
      refine zo_icT (p' := 63) (zi_111 rfl) rfl hc12 ?_
      refine zo_iconst (p' := 64) (v := 1) (zi_111 rfl) rfl rfl ?_
      have g36 := Option.some.inj g35
      subst g36
      exact zo_iret (zi_111 rfl) rfl ⟨rfl, rfl⟩
    · rw [if_neg hc12] at g35
      refine zo_icF (p' := 18) (zi_111 rfl) rfl rfl hc12 ?_
      refine zo_aload_n (p' := 19) (zi_111 rfl) rfl rfl ?_
      obtain ⟨r13, hx14, g37⟩ := zb_of g35
      refine zo_getR (p' := 22) (zi_111 rfl) rfl zl_1_64 hx14 ?_
      refine zo_aload_n (p' := 23) (zi_111 rfl) rfl rfl ?_
      obtain ⟨r15, hx16, g38⟩ := zb_of g37
      refine zo_getR (p' := 26) (zi_111 rfl) rfl zl_1_306 hx16 ?_
      refine zo_iload_n (p' := 27) (zi_111 rfl) rfl rfl ?_
      obtain ⟨q17, h0, g39⟩ := zb_of g38
      subst h0
      obtain ⟨x18, hx19, g40⟩ := zb_of g39
      refine zo_iald (p' := 28) (zi_111 rfl) rfl hx19 ?_
      refine zo_aload_n (p' := 29) (zi_111 rfl) rfl rfl ?_
      obtain ⟨r20, hx21, g41⟩ := zb_of g40
      refine zo_getR (p' := 32) (zi_111 rfl) rfl zl_1_309 hx21 ?_
      refine zo_iload_n (p' := 33) (zi_111 rfl) rfl rfl ?_
      obtain ⟨q22, h0, g42⟩ := zb_of g41
      subst h0
      obtain ⟨x23, hx24, g43⟩ := zb_of g42
      refine zo_iald (p' := 34) (zi_111 rfl) rfl hx24 ?_
      obtain ⟨q25, h0, g44⟩ := zb_of g43
      subst h0
      obtain ⟨x26, hx27, g45⟩ := zb_of g44
      refine zo_callVi (p' := 37) (t := 2) (as := [.int x18, .int x23]) (r := []) (zi_111 rfl) rfl zl_1_312 rfl rfl (Or.inl ⟨by decide, rfl⟩) (Nat.le_of_ble_eq_true rfl) (Nat.le_of_ble_eq_true rfl) (f_41_ok hx27) (k_41 _ hx27) ?_
      refine zo_aload_n (p' := 38) (zi_111 rfl) rfl rfl ?_
      obtain ⟨r28, hx29, g46⟩ := zb_of g45
      refine zo_getR (p' := 41) (zi_111 rfl) rfl zl_1_315 hx29 ?_
      refine zo_iload_n (p' := 42) (zi_111 rfl) rfl rfl ?_
      obtain ⟨q30, h0, g47⟩ := zb_of g46
      subst h0
      obtain ⟨x31, hx32, g48⟩ := zb_of g47
      refine zo_iald (p' := 43) (zi_111 rfl) rfl hx32 ?_
      refine zo_iconst (p' := 44) (v := 1) (zi_111 rfl) rfl rfl ?_
      by_cases hc33 : ¬ x31 = 1
      · rw [if_pos hc33] at g48
        refine zo_icT (p' := 51) (zi_111 rfl) rfl hc33 ?_
        refine zo_iconst (p' := 52) (v := 0) (zi_111 rfl) rfl rfl ?_
        refine zgo_sub (L' := [(0, zrf (some o)), (1, zrf ((some q9))), (2, .int b2)]) (⟨rfl, rfl, rfl, trivial⟩) ?_
        exact k_111_52 _ _ (fun M a0 a1 a2 out h => ih M a0 a1 a2 out h) M o (some q9) b2 0 x26 _ g48
      · rw [if_neg hc33] at g48
        refine zo_icF (p' := 47) (zi_111 rfl) rfl rfl hc33 ?_
        refine zo_iconst (p' := 48) (v := 1) (zi_111 rfl) rfl rfl ?_
        refine zo_goto (p' := 52) (zi_111 rfl) rfl ?_
        refine zgo_sub (L' := [(0, zrf (some o)), (1, zrf ((some q9))), (2, .int b2)]) (⟨rfl, rfl, rfl, trivial⟩) ?_
        exact k_111_52 _ _ (fun M a0 a1 a2 out h => ih M a0 a1 a2 out h) M o (some q9) b2 1 x26 _ g48
def f_111 (M : ZMem) (o : Nat) : Option (Int32) := if zok M 11 o = true then (zb (zgr M 11 0 o) fun r1 => zb r1 fun q3 => zb (zgr M 7 1 q3) fun r4 => f_111_10 zF M o r4 0) else none
theorem f_111_ok {M : ZMem} {o : Nat} {out : Int32} (h : f_111 M o = some out) : zok M 11 o = true := by
  unfold f_111 at h
  by_cases hok : zok M 11 o = true
  · exact hok
  · rw [if_neg hok] at h; cases h
set_option maxRecDepth 20000 in
theorem k_111 (d : Nat) {M : ZMem} {o : Nat} {out : Int32} (h : f_111 M o = some out) : zrn (d + 1) 111 [zrf (some o)] M (some (.int out), M) := by
  unfold f_111 at h
  by_cases hok : zok M 11 o = true
  · rw [if_pos hok] at h
    refine zrn_of (L := [(0, zrf (some o))]) rfl ?_
    refine zo_aload_n (p' := 1) (zi_111 rfl) rfl rfl ?_
    obtain ⟨r1, hx2, g6⟩ := zb_of h
    refine zo_getR (p' := 4) (zi_111 rfl) rfl zl_1_14 hx2 ?_
    obtain ⟨q3, h0, g7⟩ := zb_of g6
    subst h0
    obtain ⟨r4, hx5, g8⟩ := zb_of g7
    refine zo_getR (p' := 7) (zi_111 rfl) rfl zl_1_283 hx5 ?_
    refine zo_astore_n (p' := 8) (L' := [(0, zrf (some o)), (1, zrf r4)]) (zi_111 rfl) rfl zm_111_1 ⟨Or.inr ⟨by decide, rfl, fun _ => zrf_cat _⟩, ⟨Or.inl ⟨rfl, rfl⟩, trivial⟩⟩ ?_
    refine zo_iconst (p' := 9) (v := 0) (zi_111 rfl) rfl rfl ?_
    refine zo_istore_n (p' := 10) (L' := [(0, zrf (some o)), (1, zrf r4), (2, .int 0)]) (zi_111 rfl) rfl zm_111_2 ⟨Or.inr ⟨by decide, rfl, fun q => absurd q (by decide)⟩, ⟨Or.inr ⟨by decide, rfl, fun _ => zrf_cat _⟩, ⟨Or.inl ⟨rfl, rfl⟩, trivial⟩⟩⟩ ?_
    refine zgo_sub (L' := [(0, zrf (some o)), (1, zrf r4), (2, .int 0)]) (⟨rfl, rfl, rfl, trivial⟩) ?_
    exact k_111_10 _ zF M o r4 0 _ g8
  · rw [if_neg hok] at h; cases h
/-- SlateHalves.fitting(IIIZ)I -/
def f_110_107 (r39 : ZMem → Nat → Int32 → Int32 → Option Nat → Int32 → Int32 → Int32 → Option (Int32 × ZMem)) (M : ZMem) (o : Nat) (b1 : Int32) (b2 : Int32) (b3 : Option Nat) (b4 : Int32) (b5 : Int32) (b6 : Int32) : Option (Int32 × ZMem) := r39 M o b1 b2 b3 b4 b5 ((b6 + (-1)))
def f_110_80 (r39 : ZMem → Nat → Int32 → Int32 → Option Nat → Int32 → Int32 → Int32 → Option (Int32 × ZMem)) (M : ZMem) (o : Nat) (b1 : Int32) (b2 : Int32) (b3 : Option Nat) (b4 : Int32) (b5 : Int32) (b6 : Int32) (b7 : Int32) (b8 : Int32) (b9 : Option Nat) (b10 : Option Nat) : Option (Int32 × ZMem) := zb (zgr M 11 0 o) fun r43 => zb r43 fun q45 => zb (zgr M 7 0 q45) fun r46 => zb r46 fun q48 => zb (zgi M 10 3 q48) fun x49 => zb b10 fun q51 => zb (f_29 M q51 b9 b8 b7 x49) fun M54 => zb (f_111 M54 o) fun x55 => if x55 = 0 then (f_110_107 (fun M a0 a1 a2 a3 a4 a5 a6 => r39 M a0 a1 a2 a3 a4 a5 a6) M54 o b1 b2 b3 b4 b5 b6) else (f_110_107 (fun M a0 a1 a2 a3 a4 a5 a6 => r39 M a0 a1 a2 a3 a4 a5 a6) M54 o b1 b2 b3 ((b4 + 1)) b6 b6)
def f_110_65 (r39 : ZMem → Nat → Int32 → Int32 → Option Nat → Int32 → Int32 → Int32 → Option (Int32 × ZMem)) (M : ZMem) (o : Nat) (b1 : Int32) (b2 : Int32) (b3 : Option Nat) (b4 : Int32) (b5 : Int32) (b6 : Int32) (b7 : Int32) (b8 : Option Nat) (b9 : Option Nat) : Option (Int32 × ZMem) := if b2 = 0 then (zb b3 fun q38 => zb (zgi M 1 4 q38) fun x39 => f_110_80 (fun M a0 a1 a2 a3 a4 a5 a6 => r39 M a0 a1 a2 a3 a4 a5 a6) M o b1 b2 (some q38) b4 b5 b6 x39 b7 b8 b9) else (f_110_80 (fun M a0 a1 a2 a3 a4 a5 a6 => r39 M a0 a1 a2 a3 a4 a5 a6) M o b1 b2 b3 b4 b5 b6 b6 b7 b8 b9)
def f_110_39 : Nat → ZMem → Nat → Int32 → Int32 → Option Nat → Int32 → Int32 → Int32 → Option (Int32 × ZMem)
  | 0, _, _, _, _, _, _, _, _ => none
  | z + 1, M, o, b1, b2, b3, b4, b5, b6 => if b6 < 0 then (if ¬ b1 = 0 then (some (b5, M)) else (some (b4, M))) else (zb (zgr M 11 10 o) fun r26 => if b2 = 0 then (f_110_65 (fun M a0 a1 a2 a3 a4 a5 a6 => f_110_39 z M a0 a1 a2 a3 a4 a5 a6) M o b1 b2 b3 b4 b5 b6 b6 b3 r26) else (zb b3 fun q29 => zb (zgi M 1 2 q29) fun x30 => f_110_65 (fun M a0 a1 a2 a3 a4 a5 a6 => f_110_39 z M a0 a1 a2 a3 a4 a5 a6) M o b1 b2 (some q29) b4 b5 b6 x30 (some q29) r26))
set_option maxRecDepth 20000 in
theorem k_110_107 (d : Nat) (r39 : ZMem → Nat → Int32 → Int32 → Option Nat → Int32 → Int32 → Int32 → Option (Int32 × ZMem)) (h39 : ∀ (M : ZMem) (a0 : Nat) (a1 : Int32) (a2 : Int32) (a3 : Option Nat) (a4 : Int32) (a5 : Int32) (a6 : Int32) (out : Int32 × ZMem), r39 M a0 a1 a2 a3 a4 a5 a6 = some out → zgo none (d + 3) 110 39 [(0, zrf (some a0)), (2, .int a1), (4, .int a2), (5, zrf a3), (6, .int a4), (7, .int a5), (8, .int a6)] [] M (some (.int out.1), out.2)) : ∀ (M : ZMem) (o : Nat) (b1 : Int32) (b2 : Int32) (b3 : Option Nat) (b4 : Int32) (b5 : Int32) (b6 : Int32) (out : Int32 × ZMem), f_110_107 r39 M o b1 b2 b3 b4 b5 b6 = some out → zgo none (d + 3) 110 107 [(0, zrf (some o)), (2, .int b1), (4, .int b2), (5, zrf b3), (6, .int b4), (7, .int b5), (8, .int b6)] [] M (some (.int out.1), out.2) := by
  intro M o b1 b2 b3 b4 b5 b6 out h
  unfold f_110_107 at h
  refine zo_iinc (p' := 110) (v := (b6 + (-1))) (L' := [(0, zrf (some o)), (2, .int b1), (4, .int b2), (5, zrf b3), (6, .int b4), (7, .int b5), (8, .int ((b6 + (-1))))]) (zi_110 rfl) rfl zm_110_8 rfl rfl ⟨Or.inr ⟨by decide, rfl, fun q => absurd q (by decide)⟩, ⟨Or.inr ⟨by decide, rfl, fun q => absurd q (by decide)⟩, ⟨Or.inr ⟨by decide, rfl, fun q => absurd q (by decide)⟩, ⟨Or.inr ⟨by decide, rfl, fun q => absurd q (by decide)⟩, ⟨Or.inr ⟨by decide, rfl, fun q => absurd q (by decide)⟩, ⟨Or.inr ⟨by decide, rfl, fun _ => rfl⟩, ⟨Or.inl ⟨rfl, rfl⟩, trivial⟩⟩⟩⟩⟩⟩⟩ ?_
  refine zo_goto (p' := 39) (zi_110 rfl) rfl ?_
  refine zgo_sub (L' := [(0, zrf (some o)), (2, .int b1), (4, .int b2), (5, zrf b3), (6, .int b4), (7, .int b5), (8, .int (((b6 + (-1)))))]) (⟨rfl, rfl, rfl, rfl, rfl, rfl, rfl, trivial⟩) ?_
  exact h39 M o b1 b2 b3 b4 b5 ((b6 + (-1))) _ h
set_option maxRecDepth 20000 in
theorem k_110_80 (d : Nat) (r39 : ZMem → Nat → Int32 → Int32 → Option Nat → Int32 → Int32 → Int32 → Option (Int32 × ZMem)) (h39 : ∀ (M : ZMem) (a0 : Nat) (a1 : Int32) (a2 : Int32) (a3 : Option Nat) (a4 : Int32) (a5 : Int32) (a6 : Int32) (out : Int32 × ZMem), r39 M a0 a1 a2 a3 a4 a5 a6 = some out → zgo none (d + 3) 110 39 [(0, zrf (some a0)), (2, .int a1), (4, .int a2), (5, zrf a3), (6, .int a4), (7, .int a5), (8, .int a6)] [] M (some (.int out.1), out.2)) : ∀ (M : ZMem) (o : Nat) (b1 : Int32) (b2 : Int32) (b3 : Option Nat) (b4 : Int32) (b5 : Int32) (b6 : Int32) (b7 : Int32) (b8 : Int32) (b9 : Option Nat) (b10 : Option Nat) (out : Int32 × ZMem), f_110_80 r39 M o b1 b2 b3 b4 b5 b6 b7 b8 b9 b10 = some out → zgo none (d + 3) 110 80 [(0, zrf (some o)), (2, .int b1), (4, .int b2), (5, zrf b3), (6, .int b4), (7, .int b5), (8, .int b6)] [.int b7, .int b8, zrf b9, zrf b10] M (some (.int out.1), out.2) := by
  intro M o b1 b2 b3 b4 b5 b6 b7 b8 b9 b10 out h
  unfold f_110_80 at h
  refine zo_aload_n (p' := 81) (zi_110 rfl) rfl rfl ?_
  obtain ⟨r43, hx44, g58⟩ := zb_of h
  refine zo_getR (p' := 84) (zi_110 rfl) rfl zl_1_14 hx44 ?_
  obtain ⟨q45, h0, g59⟩ := zb_of g58
  subst h0
  obtain ⟨r46, hx47, g60⟩ := zb_of g59
  refine zo_getR (p' := 87) (zi_110 rfl) rfl zl_1_100 hx47 ?_
  obtain ⟨q48, h0, g61⟩ := zb_of g60
  subst h0
  obtain ⟨x49, hx50, g62⟩ := zb_of g61
  refine zo_getI (p' := 90) (zi_110 rfl) rfl zl_1_139 hx50 ?_
  obtain ⟨q51, h0, g63⟩ := zb_of g62
  subst h0
  obtain ⟨M54, hx53, g64⟩ := zb_of g63
  refine zo_callVv (p' := 93) (t := 2) (as := [zrf b9, .int b8, .int b7, .int x49]) (r := []) (zi_110 rfl) rfl zl_1_299 rfl rfl (Or.inl ⟨by decide, rfl⟩) (Nat.le_of_ble_eq_true rfl) (by rw [zml_29]; simp [lg_sl, zrf_cat, zcat_i, zcat_l, zcat_r]; done) (f_29_ok hx53) (k_29 _ hx53) ?_
  refine zo_aload_n (p' := 94) (zi_110 rfl) rfl rfl ?_
  obtain ⟨x55, hx56, g65⟩ := zb_of g64
  refine zo_callVi (p' := 97) (t := 11) (as := []) (r := []) (zi_110 rfl) rfl zl_1_303 rfl rfl (Or.inl ⟨by decide, rfl⟩) (Nat.le_of_ble_eq_true rfl) (Nat.le_of_ble_eq_true rfl) (f_111_ok hx56) (k_111 _ hx56) ?_
  by_cases hc57 : x55 = 0
  · rw [if_pos hc57] at g65
    refine zo_ifT (p' := 107) (zi_110 rfl) rfl hc57 ?_
    refine zgo_sub (L' := [(0, zrf (some o)), (2, .int b1), (4, .int b2), (5, zrf b3), (6, .int b4), (7, .int b5), (8, .int b6)]) (⟨rfl, rfl, rfl, rfl, rfl, rfl, rfl, trivial⟩) ?_
    exact k_110_107 _ _ (fun M a0 a1 a2 a3 a4 a5 a6 out h => h39 M a0 a1 a2 a3 a4 a5 a6 out h) M54 o b1 b2 b3 b4 b5 b6 _ g65
  · rw [if_neg hc57] at g65
    refine zo_ifF (p' := 100) (zi_110 rfl) rfl rfl hc57 ?_
    refine zo_iinc (p' := 103) (v := (b4 + 1)) (L' := [(0, zrf (some o)), (2, .int b1), (4, .int b2), (5, zrf b3), (6, .int ((b4 + 1))), (7, .int b5), (8, .int b6)]) (zi_110 rfl) rfl zm_110_6 rfl rfl ⟨Or.inr ⟨by decide, rfl, fun q => absurd q (by decide)⟩, ⟨Or.inr ⟨by decide, rfl, fun q => absurd q (by decide)⟩, ⟨Or.inr ⟨by decide, rfl, fun q => absurd q (by decide)⟩, ⟨Or.inr ⟨by decide, rfl, fun _ => zrf_cat _⟩, ⟨Or.inl ⟨rfl, rfl⟩, ⟨Or.inr ⟨by decide, rfl, fun q => absurd q (by decide)⟩, ⟨Or.inr ⟨by decide, rfl, fun q => absurd q (by decide)⟩, trivial⟩⟩⟩⟩⟩⟩⟩ ?_
    refine zo_iload (p' := 105) (zi_110 rfl) rfl rfl ?_
    refine zo_istore (p' := 107) (L' := [(0, zrf (some o)), (2, .int b1), (4, .int b2), (5, zrf b3), (6, .int ((b4 + 1))), (7, .int b6), (8, .int b6)]) (zi_110 rfl) rfl zm_110_7 ⟨Or.inr ⟨by decide, rfl, fun q => absurd q (by decide)⟩, ⟨Or.inr ⟨by decide, rfl, fun q => absurd q (by decide)⟩, ⟨Or.inr ⟨by decide, rfl, fun q => absurd q (by decide)⟩, ⟨Or.inr ⟨by decide, rfl, fun q => absurd q (by decide)⟩, ⟨Or.inr ⟨by decide, rfl, fun _ => rfl⟩, ⟨Or.inl ⟨rfl, rfl⟩, ⟨Or.inr ⟨by decide, rfl, fun q => absurd q (by decide)⟩, trivial⟩⟩⟩⟩⟩⟩⟩ ?_
    refine zgo_sub (L' := [(0, zrf (some o)), (2, .int b1), (4, .int b2), (5, zrf b3), (6, .int (((b4 + 1)))), (7, .int b6), (8, .int b6)]) (⟨rfl, rfl, rfl, rfl, rfl, rfl, rfl, trivial⟩) ?_
    exact k_110_107 _ _ (fun M a0 a1 a2 a3 a4 a5 a6 out h => h39 M a0 a1 a2 a3 a4 a5 a6 out h) M54 o b1 b2 b3 ((b4 + 1)) b6 b6 _ g65
set_option maxRecDepth 20000 in
theorem k_110_65 (d : Nat) (r39 : ZMem → Nat → Int32 → Int32 → Option Nat → Int32 → Int32 → Int32 → Option (Int32 × ZMem)) (h39 : ∀ (M : ZMem) (a0 : Nat) (a1 : Int32) (a2 : Int32) (a3 : Option Nat) (a4 : Int32) (a5 : Int32) (a6 : Int32) (out : Int32 × ZMem), r39 M a0 a1 a2 a3 a4 a5 a6 = some out → zgo none (d + 3) 110 39 [(0, zrf (some a0)), (2, .int a1), (4, .int a2), (5, zrf a3), (6, .int a4), (7, .int a5), (8, .int a6)] [] M (some (.int out.1), out.2)) : ∀ (M : ZMem) (o : Nat) (b1 : Int32) (b2 : Int32) (b3 : Option Nat) (b4 : Int32) (b5 : Int32) (b6 : Int32) (b7 : Int32) (b8 : Option Nat) (b9 : Option Nat) (out : Int32 × ZMem), f_110_65 r39 M o b1 b2 b3 b4 b5 b6 b7 b8 b9 = some out → zgo none (d + 3) 110 65 [(0, zrf (some o)), (2, .int b1), (4, .int b2), (5, zrf b3), (6, .int b4), (7, .int b5), (8, .int b6)] [.int b7, zrf b8, zrf b9] M (some (.int out.1), out.2) := by
  intro M o b1 b2 b3 b4 b5 b6 b7 b8 b9 out h
  unfold f_110_65 at h
  refine zo_iload (p' := 67) (zi_110 rfl) rfl rfl ?_
  by_cases hc37 : b2 = 0
  · rw [if_pos hc37] at h
    refine zo_ifT (p' := 75) (zi_110 rfl) rfl hc37 ?_
    refine zo_aload (p' := 77) (zi_110 rfl) rfl rfl ?_
    obtain ⟨q38, h0, g41⟩ := zb_of h
    subst h0
    obtain ⟨x39, hx40, g42⟩ := zb_of g41
    refine zo_getI (p' := 80) (zi_110 rfl) rfl zl_1_129 hx40 ?_
    refine zgo_sub (L' := [(0, zrf (some o)), (2, .int b1), (4, .int b2), (5, zrf ((some q38))), (6, .int b4), (7, .int b5), (8, .int b6)]) (⟨rfl, rfl, rfl, rfl, rfl, rfl, rfl, trivial⟩) ?_
    exact k_110_80 _ _ (fun M a0 a1 a2 a3 a4 a5 a6 out h => h39 M a0 a1 a2 a3 a4 a5 a6 out h) M o b1 b2 (some q38) b4 b5 b6 x39 b7 b8 b9 _ g42
  · rw [if_neg hc37] at h
    refine zo_ifF (p' := 70) (zi_110 rfl) rfl rfl hc37 ?_
    refine zo_iload (p' := 72) (zi_110 rfl) rfl rfl ?_
    refine zo_goto (p' := 80) (zi_110 rfl) rfl ?_
    refine zgo_sub (L' := [(0, zrf (some o)), (2, .int b1), (4, .int b2), (5, zrf b3), (6, .int b4), (7, .int b5), (8, .int b6)]) (⟨rfl, rfl, rfl, rfl, rfl, rfl, rfl, trivial⟩) ?_
    exact k_110_80 _ _ (fun M a0 a1 a2 a3 a4 a5 a6 out h => h39 M a0 a1 a2 a3 a4 a5 a6 out h) M o b1 b2 b3 b4 b5 b6 b6 b7 b8 b9 _ h
set_option maxRecDepth 20000 in
theorem k_110_39 (d : Nat) : ∀ (z : Nat) (M : ZMem) (o : Nat) (b1 : Int32) (b2 : Int32) (b3 : Option Nat) (b4 : Int32) (b5 : Int32) (b6 : Int32) (out : Int32 × ZMem), f_110_39 z M o b1 b2 b3 b4 b5 b6 = some out → zgo none (d + 3) 110 39 [(0, zrf (some o)), (2, .int b1), (4, .int b2), (5, zrf b3), (6, .int b4), (7, .int b5), (8, .int b6)] [] M (some (.int out.1), out.2) := by
  intro z
  induction z with
  | zero => intro M o b1 b2 b3 b4 b5 b6 out h; cases h
  | succ z ih =>
    intro M o b1 b2 b3 b4 b5 b6 out h
    rw [f_110_39] at h
    refine zo_iload (p' := 41) (zi_110 rfl) rfl rfl ?_
    by_cases hc24 : b6 < 0
    · rw [if_pos hc24] at h
      refine zo_ifT (p' := 113) (zi_110 rfl) rfl hc24 ?_
      refine zo_iload_n (p' := 114) (zi_110 rfl) rfl rfl ?_
      by_cases hc25 : ¬ b1 = 0
      · rw [if_pos hc25] at h
        refine zo_ifT (p' := 122) (zi_110 rfl) rfl hc25 ?_
        refine zo_iload (p' := 124) (zi_110 rfl) rfl rfl ?_
        have g32 := Option.some.inj h
        subst g32
        exact zo_iret (zi_110 rfl) rfl ⟨rfl, rfl⟩
      · rw [if_neg hc25] at h
        refine zo_ifF (p' := 117) (zi_110 rfl) rfl rfl hc25 ?_
        refine zo_iload (p' := 119) (zi_110 rfl) rfl rfl ?_
        refine zo_goto (p' := 124) (zi_110 rfl) rfl ?_
        have g33 := Option.some.inj h
        subst g33
        exact zo_iret (zi_110 rfl) rfl ⟨rfl, rfl⟩
    · rw [if_neg hc24] at h
      refine zo_ifF (p' := 44) (zi_110 rfl) rfl rfl hc24 ?_
      refine zo_aload_n (p' := 45) (zi_110 rfl) rfl rfl ?_
      obtain ⟨r26, hx27, g34⟩ := zb_of h
      refine zo_getR (p' := 48) (zi_110 rfl) rfl zl_1_64 hx27 ?_
      refine zo_aload (p' := 50) (zi_110 rfl) rfl rfl ?_
      refine zo_iload (p' := 52) (zi_110 rfl) rfl rfl ?_
      by_cases hc28 : b2 = 0
      · rw [if_pos hc28] at g34
        refine zo_ifT (p' := 63) (zi_110 rfl) rfl hc28 ?_
        refine zo_iload (p' := 65) (zi_110 rfl) rfl rfl ?_
        refine zgo_sub (L' := [(0, zrf (some o)), (2, .int b1), (4, .int b2), (5, zrf b3), (6, .int b4), (7, .int b5), (8, .int b6)]) (⟨rfl, rfl, rfl, rfl, rfl, rfl, rfl, trivial⟩) ?_
        exact k_110_65 _ _ (fun M a0 a1 a2 a3 a4 a5 a6 out h => ih M a0 a1 a2 a3 a4 a5 a6 out h) M o b1 b2 b3 b4 b5 b6 b6 b3 r26 _ g34
      · rw [if_neg hc28] at g34
        refine zo_ifF (p' := 55) (zi_110 rfl) rfl rfl hc28 ?_
        refine zo_aload (p' := 57) (zi_110 rfl) rfl rfl ?_
        obtain ⟨q29, h0, g35⟩ := zb_of g34
        subst h0
        obtain ⟨x30, hx31, g36⟩ := zb_of g35
        refine zo_getI (p' := 60) (zi_110 rfl) rfl zl_1_123 hx31 ?_
        refine zo_goto (p' := 65) (zi_110 rfl) rfl ?_
        refine zgo_sub (L' := [(0, zrf (some o)), (2, .int b1), (4, .int b2), (5, zrf ((some q29))), (6, .int b4), (7, .int b5), (8, .int b6)]) (⟨rfl, rfl, rfl, rfl, rfl, rfl, rfl, trivial⟩) ?_
        exact k_110_65 _ _ (fun M a0 a1 a2 a3 a4 a5 a6 out h => ih M a0 a1 a2 a3 a4 a5 a6 out h) M o b1 b2 (some q29) b4 b5 b6 x30 (some q29) r26 _ g36
def f_110 (M : ZMem) (o : Nat) (a0 : Int32) (a1 : Int32) (a2 : Int32) (a3 : Int32) : Option (Int32 × ZMem) := if zok M 11 o = true then (zb (zgr M 11 0 o) fun r1 => zb r1 fun q3 => zb (zgr M 7 0 q3) fun r4 => zb r4 fun q6 => zb (f_19 M q6 a0) fun r7 => zcs r7 (some ((-1), M)) (fun q9 => zb (f_14 M a1 0 1) fun x11 => if ¬ x11 = 0 then (f_110_39 zF M o a1 a3 (some q9) 0 ((-5)) a2) else (some ((-1), M)))) else none
theorem f_110_ok {M : ZMem} {o : Nat} {a0 : Int32} {a1 : Int32} {a2 : Int32} {a3 : Int32} {out : Int32 × ZMem} (h : f_110 M o a0 a1 a2 a3 = some out) : zok M 11 o = true := by
  unfold f_110 at h
  by_cases hok : zok M 11 o = true
  · exact hok
  · rw [if_neg hok] at h; cases h
set_option maxRecDepth 20000 in
theorem k_110 (d : Nat) {M : ZMem} {o : Nat} {a0 : Int32} {a1 : Int32} {a2 : Int32} {a3 : Int32} {out : Int32 × ZMem} (h : f_110 M o a0 a1 a2 a3 = some out) : zrn (d + 3) 110 [zrf (some o), .int a0, .int a1, .int a2, .int a3] M (some (.int out.1), out.2) := by
  unfold f_110 at h
  by_cases hok : zok M 11 o = true
  · rw [if_pos hok] at h
    refine zrn_of (L := [(0, zrf (some o)), (1, .int a0), (2, .int a1), (3, .int a2), (4, .int a3)]) rfl ?_
    refine zo_aload_n (p' := 1) (zi_110 rfl) rfl rfl ?_
    obtain ⟨r1, hx2, g14⟩ := zb_of h
    refine zo_getR (p' := 4) (zi_110 rfl) rfl zl_1_14 hx2 ?_
    obtain ⟨q3, h0, g15⟩ := zb_of g14
    subst h0
    obtain ⟨r4, hx5, g16⟩ := zb_of g15
    refine zo_getR (p' := 7) (zi_110 rfl) rfl zl_1_100 hx5 ?_
    refine zo_iload_n (p' := 8) (zi_110 rfl) rfl rfl ?_
    obtain ⟨q6, h0, g17⟩ := zb_of g16
    subst h0
    obtain ⟨r7, hx8, g18⟩ := zb_of g17
    refine zo_callVa (p' := 11) (t := 10) (as := [.int a0]) (r := []) (zi_110 rfl) rfl zl_1_116 rfl rfl (Or.inl ⟨by decide, rfl⟩) (Nat.le_of_ble_eq_true rfl) (Nat.le_of_ble_eq_true rfl) (f_19_ok hx8) (k_19 _ hx8) ?_
    refine zo_astore (p' := 13) (L' := [(0, zrf (some o)), (1, .int a0), (2, .int a1), (3, .int a2), (4, .int a3), (5, zrf r7)]) (zi_110 rfl) rfl zm_110_5 ⟨Or.inr ⟨by decide, rfl, fun q => absurd q (by decide)⟩, ⟨Or.inr ⟨by decide, rfl, fun q => absurd q (by decide)⟩, ⟨Or.inr ⟨by decide, rfl, fun q => absurd q (by decide)⟩, ⟨Or.inr ⟨by decide, rfl, fun q => absurd q (by decide)⟩, ⟨Or.inr ⟨by decide, rfl, fun _ => rfl⟩, ⟨Or.inl ⟨rfl, rfl⟩, trivial⟩⟩⟩⟩⟩⟩ ?_
    refine zo_aload (p' := 15) (zi_110 rfl) rfl rfl ?_
    rcases r7 with _ | q9
    · have g19 := zcs_none g18
      refine zo_nullT (p' := 27) (zi_110 rfl) rfl ?_
      refine zo_iconst (p' := 28) (v := (-1)) (zi_110 rfl) rfl rfl ?_
      have g20 := Option.some.inj g19
      subst g20
      exact zo_iret (zi_110 rfl) rfl ⟨rfl, rfl⟩
    · obtain ⟨hq10, g21⟩ := zcs_some g18
      refine zo_nullF (p' := 18) (zi_110 rfl) rfl hq10 ?_
      refine zo_iload_n (p' := 19) (zi_110 rfl) rfl rfl ?_
      refine zo_iconst (p' := 20) (v := 0) (zi_110 rfl) rfl rfl ?_
      refine zo_iconst (p' := 21) (v := 1) (zi_110 rfl) rfl rfl ?_
      obtain ⟨x11, hx12, g22⟩ := zb_of g21
      refine zo_callSi (p' := 24) (as := [.int a1, .int 0, .int 1]) (r := []) (zi_110 rfl) rfl (Or.inl zl_1_96) rfl rfl (Nat.le_of_ble_eq_true rfl) (Nat.le_of_ble_eq_true rfl) (k_14 _ hx12) ?_
      by_cases hc13 : ¬ x11 = 0
      · rw [if_pos hc13] at g22
        refine zo_ifT (p' := 29) (zi_110 rfl) rfl hc13 ?_
        refine zo_iconst (p' := 30) (v := 0) (zi_110 rfl) rfl rfl ?_
        refine zo_istore (p' := 32) (L' := [(0, zrf (some o)), (1, .int a0), (2, .int a1), (3, .int a2), (4, .int a3), (5, zrf (some q9)), (6, .int 0)]) (zi_110 rfl) rfl zm_110_6 ⟨Or.inr ⟨by decide, rfl, fun q => absurd q (by decide)⟩, ⟨Or.inr ⟨by decide, rfl, fun q => absurd q (by decide)⟩, ⟨Or.inr ⟨by decide, rfl, fun q => absurd q (by decide)⟩, ⟨Or.inr ⟨by decide, rfl, fun q => absurd q (by decide)⟩, ⟨Or.inr ⟨by decide, rfl, fun q => absurd q (by decide)⟩, ⟨Or.inr ⟨by decide, rfl, fun _ => zrf_cat _⟩, ⟨Or.inl ⟨rfl, rfl⟩, trivial⟩⟩⟩⟩⟩⟩⟩ ?_
        refine zo_bipush (p' := 34) (v := (-5)) (zi_110 rfl) rfl rfl ?_
        refine zo_istore (p' := 36) (L' := [(0, zrf (some o)), (1, .int a0), (2, .int a1), (3, .int a2), (4, .int a3), (5, zrf (some q9)), (6, .int 0), (7, .int ((-5)))]) (zi_110 rfl) rfl zm_110_7 ⟨Or.inr ⟨by decide, rfl, fun q => absurd q (by decide)⟩, ⟨Or.inr ⟨by decide, rfl, fun q => absurd q (by decide)⟩, ⟨Or.inr ⟨by decide, rfl, fun q => absurd q (by decide)⟩, ⟨Or.inr ⟨by decide, rfl, fun q => absurd q (by decide)⟩, ⟨Or.inr ⟨by decide, rfl, fun q => absurd q (by decide)⟩, ⟨Or.inr ⟨by decide, rfl, fun q => absurd q (by decide)⟩, ⟨Or.inr ⟨by decide, rfl, fun _ => rfl⟩, ⟨Or.inl ⟨rfl, rfl⟩, trivial⟩⟩⟩⟩⟩⟩⟩⟩ ?_
        refine zo_iload_n (p' := 37) (zi_110 rfl) rfl rfl ?_
        refine zo_istore (p' := 39) (L' := [(0, zrf (some o)), (1, .int a0), (2, .int a1), (3, .int a2), (4, .int a3), (5, zrf (some q9)), (6, .int 0), (7, .int ((-5))), (8, .int a2)]) (zi_110 rfl) rfl zm_110_8 ⟨Or.inr ⟨by decide, rfl, fun q => absurd q (by decide)⟩, ⟨Or.inr ⟨by decide, rfl, fun q => absurd q (by decide)⟩, ⟨Or.inr ⟨by decide, rfl, fun q => absurd q (by decide)⟩, ⟨Or.inr ⟨by decide, rfl, fun q => absurd q (by decide)⟩, ⟨Or.inr ⟨by decide, rfl, fun q => absurd q (by decide)⟩, ⟨Or.inr ⟨by decide, rfl, fun q => absurd q (by decide)⟩, ⟨Or.inr ⟨by decide, rfl, fun q => absurd q (by decide)⟩, ⟨Or.inr ⟨by decide, rfl, fun _ => rfl⟩, ⟨Or.inl ⟨rfl, rfl⟩, trivial⟩⟩⟩⟩⟩⟩⟩⟩⟩ ?_
        refine zgo_sub (L' := [(0, zrf (some o)), (2, .int a1), (4, .int a3), (5, zrf ((some q9))), (6, .int 0), (7, .int (((-5)))), (8, .int a2)]) (⟨rfl, rfl, rfl, rfl, rfl, rfl, rfl, trivial⟩) ?_
        exact k_110_39 _ zF M o a1 a3 (some q9) 0 ((-5)) a2 _ g22
      · rw [if_neg hc13] at g22
        refine zo_ifF (p' := 27) (zi_110 rfl) rfl rfl hc13 ?_
        refine zo_iconst (p' := 28) (v := (-1)) (zi_110 rfl) rfl rfl ?_
        have g23 := Option.some.inj g22
        subst g23
        exact zo_iret (zi_110 rfl) rfl ⟨rfl, rfl⟩
  · rw [if_neg hok] at h; cases h
/-- SlateHalves.dryness(II)I -/
def f_109 (M : ZMem) (o : Nat) (a0 : Int32) (a1 : Int32) : Option (Int32 × ZMem) := if zok M 11 o = true then (zbd (f_110 M o a0 a1 99 1) fun x1 M3 => some (x1, M3)) else none
theorem f_109_ok {M : ZMem} {o : Nat} {a0 : Int32} {a1 : Int32} {out : Int32 × ZMem} (h : f_109 M o a0 a1 = some out) : zok M 11 o = true := by
  unfold f_109 at h
  by_cases hok : zok M 11 o = true
  · exact hok
  · rw [if_neg hok] at h; cases h
set_option maxRecDepth 20000 in
theorem k_109 (d : Nat) {M : ZMem} {o : Nat} {a0 : Int32} {a1 : Int32} {out : Int32 × ZMem} (h : f_109 M o a0 a1 = some out) : zrn (d + 4) 109 [zrf (some o), .int a0, .int a1] M (some (.int out.1), out.2) := by
  unfold f_109 at h
  by_cases hok : zok M 11 o = true
  · rw [if_pos hok] at h
    refine zrn_of (L := [(0, zrf (some o)), (1, .int a0), (2, .int a1)]) rfl ?_
    refine zo_aload_n (p' := 1) (zi_109 rfl) rfl rfl ?_
    refine zo_iload_n (p' := 2) (zi_109 rfl) rfl rfl ?_
    refine zo_iload_n (p' := 3) (zi_109 rfl) rfl rfl ?_
    refine zo_bipush (p' := 5) (v := 99) (zi_109 rfl) rfl rfl ?_
    refine zo_iconst (p' := 6) (v := 1) (zi_109 rfl) rfl rfl ?_
    obtain ⟨x1, M3, hx2, g4⟩ := zbd_of h
    refine zo_callVi (p' := 9) (t := 11) (as := [.int a0, .int a1, .int 99, .int 1]) (r := []) (zi_109 rfl) rfl zl_1_295 rfl rfl (Or.inl ⟨by decide, rfl⟩) (Nat.le_of_ble_eq_true rfl) (Nat.le_of_ble_eq_true rfl) (f_110_ok hx2) (k_110 _ hx2) ?_
    have g5 := Option.some.inj g4
    subst g5
    exact zo_iret (zi_109 rfl) rfl ⟨rfl, rfl⟩
  · rw [if_neg hok] at h; cases h
/-- SlateHalves.can(II)I -/
def f_112 (M : ZMem) (o : Nat) (a0 : Int32) (a1 : Int32) : Option (Int32 × ZMem) := if zok M 11 o = true then (zbd (f_110 M o a0 a1 9 0) fun x1 M3 => some (x1, M3)) else none
theorem f_112_ok {M : ZMem} {o : Nat} {a0 : Int32} {a1 : Int32} {out : Int32 × ZMem} (h : f_112 M o a0 a1 = some out) : zok M 11 o = true := by
  unfold f_112 at h
  by_cases hok : zok M 11 o = true
  · exact hok
  · rw [if_neg hok] at h; cases h
set_option maxRecDepth 20000 in
theorem k_112 (d : Nat) {M : ZMem} {o : Nat} {a0 : Int32} {a1 : Int32} {out : Int32 × ZMem} (h : f_112 M o a0 a1 = some out) : zrn (d + 4) 112 [zrf (some o), .int a0, .int a1] M (some (.int out.1), out.2) := by
  unfold f_112 at h
  by_cases hok : zok M 11 o = true
  · rw [if_pos hok] at h
    refine zrn_of (L := [(0, zrf (some o)), (1, .int a0), (2, .int a1)]) rfl ?_
    refine zo_aload_n (p' := 1) (zi_112 rfl) rfl rfl ?_
    refine zo_iload_n (p' := 2) (zi_112 rfl) rfl rfl ?_
    refine zo_iload_n (p' := 3) (zi_112 rfl) rfl rfl ?_
    refine zo_bipush (p' := 5) (v := 9) (zi_112 rfl) rfl rfl ?_
    refine zo_iconst (p' := 6) (v := 0) (zi_112 rfl) rfl rfl ?_
    obtain ⟨x1, M3, hx2, g4⟩ := zbd_of h
    refine zo_callVi (p' := 9) (t := 11) (as := [.int a0, .int a1, .int 9, .int 0]) (r := []) (zi_112 rfl) rfl zl_1_295 rfl rfl (Or.inl ⟨by decide, rfl⟩) (Nat.le_of_ble_eq_true rfl) (Nat.le_of_ble_eq_true rfl) (f_110_ok hx2) (k_110 _ hx2) ?_
    have g5 := Option.some.inj g4
    subst g5
    exact zo_iret (zi_112 rfl) rfl ⟨rfl, rfl⟩
  · rw [if_neg hok] at h; cases h
/-- SlateHalves.partOf(III)J -/
def f_114_58 (M : ZMem) (b0 : Int32) (b1 : Int32) (b2 : Int32) (b3 : Int32) : Option (Int64) := if ¬ b3 = 0 then (if ¬ b2 = 0 then (if b3 = 0 then none else some (Int32.toInt64 (b1 / b3))) else (if b3 = 0 then none else some (Int32.toInt64 (b0 / b3)))) else (some (-9223372036854775808))
def f_114_26 : Nat → ZMem → Int32 → Int32 → Int32 → Int32 → Int32 → Int32 → Option (Int64)
  | 0, _, _, _, _, _, _, _ => none
  | z + 1, M, b0, b1, b2, b3, b4, b5 => if 360 ≤ b5 then (f_114_58 M b0 b1 b2 b3) else (if b4 = 0 then (f_114_58 M b0 b1 b2 b3) else (if b4 = 0 then none else f_114_26 z M b0 b1 b2 b4 ((b3 - b3 / b4 * b4)) ((b5 + 1))))
set_option maxRecDepth 20000 in
theorem k_114_58 (d : Nat) : ∀ (M : ZMem) (b0 : Int32) (b1 : Int32) (b2 : Int32) (b3 : Int32) (out : Int64), f_114_58 M b0 b1 b2 b3 = some out → zgo none (d + 1) 114 58 [(0, .int b0), (1, .int b1), (2, .int b2), (3, .int b3)] [] M (some (.long out), M) := by
  intro M b0 b1 b2 b3 out h
  unfold f_114_58 at h
  refine zo_iload_n (p' := 59) (zi_114 rfl) rfl rfl ?_
  by_cases hc11 : ¬ b3 = 0
  · rw [if_pos hc11] at h
    refine zo_ifT (p' := 68) (zi_114 rfl) rfl hc11 ?_
    refine zo_iload_n (p' := 69) (zi_114 rfl) rfl rfl ?_
    by_cases hc12 : ¬ b2 = 0
    · rw [if_pos hc12] at h
      refine zo_ifT (p' := 76) (zi_114 rfl) rfl hc12 ?_
      refine zo_iload_n (p' := 77) (zi_114 rfl) rfl rfl ?_
      refine zo_iload_n (p' := 78) (zi_114 rfl) rfl rfl ?_
      by_cases hc13 : b3 = 0
      · rw [if_pos hc13] at h; cases h
      · rw [if_neg hc13] at h
        refine zo_idiv (p' := 79) (zi_114 rfl) rfl hc13 ?_
        refine zo_i2l (p' := 80) (zi_114 rfl) rfl ?_
        have g15 := Option.some.inj h
        subst g15
        exact zo_lret (zi_114 rfl) rfl
    · rw [if_neg hc12] at h
      refine zo_ifF (p' := 72) (zi_114 rfl) rfl rfl hc12 ?_
      refine zo_iload_n (p' := 73) (zi_114 rfl) rfl rfl ?_
      refine zo_goto (p' := 77) (zi_114 rfl) rfl ?_
      refine zo_iload_n (p' := 78) (zi_114 rfl) rfl rfl ?_
      by_cases hc14 : b3 = 0
      · rw [if_pos hc14] at h; cases h
      · rw [if_neg hc14] at h
        refine zo_idiv (p' := 79) (zi_114 rfl) rfl hc14 ?_
        refine zo_i2l (p' := 80) (zi_114 rfl) rfl ?_
        have g16 := Option.some.inj h
        subst g16
        exact zo_lret (zi_114 rfl) rfl
  · rw [if_neg hc11] at h
    refine zo_ifF (p' := 62) (zi_114 rfl) rfl rfl hc11 ?_
    refine zo_ldc2 (p' := 65) (v := (-9223372036854775808)) (zi_114 rfl) rfl rfl ?_
    refine zo_goto (p' := 80) (zi_114 rfl) rfl ?_
    have g17 := Option.some.inj h
    subst g17
    exact zo_lret (zi_114 rfl) rfl
set_option maxRecDepth 20000 in
theorem k_114_26 (d : Nat) : ∀ (z : Nat) (M : ZMem) (b0 : Int32) (b1 : Int32) (b2 : Int32) (b3 : Int32) (b4 : Int32) (b5 : Int32) (out : Int64), f_114_26 z M b0 b1 b2 b3 b4 b5 = some out → zgo none (d + 1) 114 26 [(0, .int b0), (1, .int b1), (2, .int b2), (3, .int b3), (4, .int b4), (5, .int b5)] [] M (some (.long out), M) := by
  intro z
  induction z with
  | zero => intro M b0 b1 b2 b3 b4 b5 out h; cases h
  | succ z ih =>
    intro M b0 b1 b2 b3 b4 b5 out h
    rw [f_114_26] at h
    refine zo_iload (p' := 28) (zi_114 rfl) rfl rfl ?_
    refine zo_sipush (p' := 31) (v := 360) (zi_114 rfl) rfl rfl ?_
    by_cases hc8 : 360 ≤ b5
    · rw [if_pos hc8] at h
      refine zo_icT (p' := 58) (zi_114 rfl) rfl hc8 ?_
      refine zgo_sub (L' := [(0, .int b0), (1, .int b1), (2, .int b2), (3, .int b3)]) (⟨rfl, rfl, rfl, rfl, trivial⟩) ?_
      exact k_114_58 _ M b0 b1 b2 b3 _ h
    · rw [if_neg hc8] at h
      refine zo_icF (p' := 34) (zi_114 rfl) rfl rfl hc8 ?_
      refine zo_iload (p' := 36) (zi_114 rfl) rfl rfl ?_
      by_cases hc9 : b4 = 0
      · rw [if_pos hc9] at h
        refine zo_ifT (p' := 58) (zi_114 rfl) rfl hc9 ?_
        refine zgo_sub (L' := [(0, .int b0), (1, .int b1), (2, .int b2), (3, .int b3)]) (⟨rfl, rfl, rfl, rfl, trivial⟩) ?_
        exact k_114_58 _ M b0 b1 b2 b3 _ h
      · rw [if_neg hc9] at h
        refine zo_ifF (p' := 39) (zi_114 rfl) rfl rfl hc9 ?_
        refine zo_iload_n (p' := 40) (zi_114 rfl) rfl rfl ?_
        refine zo_iload (p' := 42) (zi_114 rfl) rfl rfl ?_
        by_cases hc10 : b4 = 0
        · rw [if_pos hc10] at h; cases h
        · rw [if_neg hc10] at h
          refine zo_irem (p' := 43) (zi_114 rfl) rfl hc10 ?_
          refine zo_istore (p' := 45) (L' := [(0, .int b0), (1, .int b1), (2, .int b2), (3, .int b3), (4, .int b4), (5, .int b5), (6, .int ((b3 - b3 / b4 * b4)))]) (zi_114 rfl) rfl zm_114_6 ⟨Or.inr ⟨by decide, rfl, fun q => absurd q (by decide)⟩, ⟨Or.inr ⟨by decide, rfl, fun q => absurd q (by decide)⟩, ⟨Or.inr ⟨by decide, rfl, fun q => absurd q (by decide)⟩, ⟨Or.inr ⟨by decide, rfl, fun q => absurd q (by decide)⟩, ⟨Or.inr ⟨by decide, rfl, fun q => absurd q (by decide)⟩, ⟨Or.inr ⟨by decide, rfl, fun _ => rfl⟩, ⟨Or.inl ⟨rfl, rfl⟩, trivial⟩⟩⟩⟩⟩⟩⟩ ?_
          refine zo_iload (p' := 47) (zi_114 rfl) rfl rfl ?_
          refine zo_istore_n (p' := 48) (L' := [(0, .int b0), (1, .int b1), (2, .int b2), (3, .int b4), (4, .int b4), (5, .int b5), (6, .int ((b3 - b3 / b4 * b4)))]) (zi_114 rfl) rfl zm_114_3 ⟨Or.inr ⟨by decide, rfl, fun q => absurd q (by decide)⟩, ⟨Or.inr ⟨by decide, rfl, fun q => absurd q (by decide)⟩, ⟨Or.inr ⟨by decide, rfl, fun _ => rfl⟩, ⟨Or.inl ⟨rfl, rfl⟩, ⟨Or.inr ⟨by decide, rfl, fun q => absurd q (by decide)⟩, ⟨Or.inr ⟨by decide, rfl, fun q => absurd q (by decide)⟩, ⟨Or.inr ⟨by decide, rfl, fun q => absurd q (by decide)⟩, trivial⟩⟩⟩⟩⟩⟩⟩ ?_
          refine zo_iload (p' := 50) (zi_114 rfl) rfl rfl ?_
          refine zo_istore (p' := 52) (L' := [(0, .int b0), (1, .int b1), (2, .int b2), (3, .int b4), (4, .int ((b3 - b3 / b4 * b4))), (5, .int b5), (6, .int ((b3 - b3 / b4 * b4)))]) (zi_114 rfl) rfl zm_114_4 ⟨Or.inr ⟨by decide, rfl, fun q => absurd q (by decide)⟩, ⟨Or.inr ⟨by decide, rfl, fun q => absurd q (by decide)⟩, ⟨Or.inr ⟨by decide, rfl, fun q => absurd q (by decide)⟩, ⟨Or.inr ⟨by decide, rfl, fun _ => rfl⟩, ⟨Or.inl ⟨rfl, rfl⟩, ⟨Or.inr ⟨by decide, rfl, fun q => absurd q (by decide)⟩, ⟨Or.inr ⟨by decide, rfl, fun q => absurd q (by decide)⟩, trivial⟩⟩⟩⟩⟩⟩⟩ ?_
          refine zo_iinc (p' := 55) (v := (b5 + 1)) (L' := [(0, .int b0), (1, .int b1), (2, .int b2), (3, .int b4), (4, .int ((b3 - b3 / b4 * b4))), (5, .int ((b5 + 1))), (6, .int ((b3 - b3 / b4 * b4)))]) (zi_114 rfl) rfl zm_114_5 rfl rfl ⟨Or.inr ⟨by decide, rfl, fun q => absurd q (by decide)⟩, ⟨Or.inr ⟨by decide, rfl, fun q => absurd q (by decide)⟩, ⟨Or.inr ⟨by decide, rfl, fun q => absurd q (by decide)⟩, ⟨Or.inr ⟨by decide, rfl, fun q => absurd q (by decide)⟩, ⟨Or.inr ⟨by decide, rfl, fun _ => rfl⟩, ⟨Or.inl ⟨rfl, rfl⟩, ⟨Or.inr ⟨by decide, rfl, fun q => absurd q (by decide)⟩, trivial⟩⟩⟩⟩⟩⟩⟩ ?_
          refine zo_goto (p' := 26) (zi_114 rfl) rfl ?_
          refine zgo_sub (L' := [(0, .int b0), (1, .int b1), (2, .int b2), (3, .int b4), (4, .int (((b3 - b3 / b4 * b4)))), (5, .int (((b5 + 1))))]) (⟨rfl, rfl, rfl, rfl, rfl, rfl, trivial⟩) ?_
          exact ih M b0 b1 b2 b4 ((b3 - b3 / b4 * b4)) ((b5 + 1)) _ h
def f_114 (M : ZMem) (a0 : Int32) (a1 : Int32) (a2 : Int32) : Option (Int64) := if a1 < 1 then (some (-9223372036854775808)) else (zb (f_14 M a2 0 1) fun x2 => if ¬ x2 = 0 then (f_114_26 zF M a0 a1 a2 a1 a0 0) else (some (-9223372036854775808)))
set_option maxRecDepth 20000 in
theorem k_114 (d : Nat) {M : ZMem} {a0 : Int32} {a1 : Int32} {a2 : Int32} {out : Int64} (h : f_114 M a0 a1 a2 = some out) : zrn (d + 1) 114 [.int a0, .int a1, .int a2] M (some (.long out), M) := by
  unfold f_114 at h
  refine zrn_of (L := [(0, .int a0), (1, .int a1), (2, .int a2)]) rfl ?_
  refine zo_iload_n (p' := 1) (zi_114 rfl) rfl rfl ?_
  refine zo_iconst (p' := 2) (v := 1) (zi_114 rfl) rfl rfl ?_
  by_cases hc1 : a1 < 1
  · rw [if_pos hc1] at h
    refine zo_icT (p' := 14) (zi_114 rfl) rfl hc1 ?_
    refine zo_ldc2 (p' := 17) (v := (-9223372036854775808)) (zi_114 rfl) rfl rfl ?_
    have g5 := Option.some.inj h
    subst g5
    exact zo_lret (zi_114 rfl) rfl
  · rw [if_neg hc1] at h
    refine zo_icF (p' := 5) (zi_114 rfl) rfl rfl hc1 ?_
    refine zo_iload_n (p' := 6) (zi_114 rfl) rfl rfl ?_
    refine zo_iconst (p' := 7) (v := 0) (zi_114 rfl) rfl rfl ?_
    refine zo_iconst (p' := 8) (v := 1) (zi_114 rfl) rfl rfl ?_
    obtain ⟨x2, hx3, g6⟩ := zb_of h
    refine zo_callSi (p' := 11) (as := [.int a2, .int 0, .int 1]) (r := []) (zi_114 rfl) rfl (Or.inl zl_1_96) rfl rfl (Nat.le_of_ble_eq_true rfl) (Nat.le_of_ble_eq_true rfl) (k_14 _ hx3) ?_
    by_cases hc4 : ¬ x2 = 0
    · rw [if_pos hc4] at g6
      refine zo_ifT (p' := 18) (zi_114 rfl) rfl hc4 ?_
      refine zo_iload_n (p' := 19) (zi_114 rfl) rfl rfl ?_
      refine zo_istore_n (p' := 20) (L' := [(0, .int a0), (1, .int a1), (2, .int a2), (3, .int a1)]) (zi_114 rfl) rfl zm_114_3 ⟨Or.inr ⟨by decide, rfl, fun q => absurd q (by decide)⟩, ⟨Or.inr ⟨by decide, rfl, fun q => absurd q (by decide)⟩, ⟨Or.inr ⟨by decide, rfl, fun _ => rfl⟩, ⟨Or.inl ⟨rfl, rfl⟩, trivial⟩⟩⟩⟩ ?_
      refine zo_iload_n (p' := 21) (zi_114 rfl) rfl rfl ?_
      refine zo_istore (p' := 23) (L' := [(0, .int a0), (1, .int a1), (2, .int a2), (3, .int a1), (4, .int a0)]) (zi_114 rfl) rfl zm_114_4 ⟨Or.inr ⟨by decide, rfl, fun q => absurd q (by decide)⟩, ⟨Or.inr ⟨by decide, rfl, fun q => absurd q (by decide)⟩, ⟨Or.inr ⟨by decide, rfl, fun q => absurd q (by decide)⟩, ⟨Or.inr ⟨by decide, rfl, fun _ => rfl⟩, ⟨Or.inl ⟨rfl, rfl⟩, trivial⟩⟩⟩⟩⟩ ?_
      refine zo_iconst (p' := 24) (v := 0) (zi_114 rfl) rfl rfl ?_
      refine zo_istore (p' := 26) (L' := [(0, .int a0), (1, .int a1), (2, .int a2), (3, .int a1), (4, .int a0), (5, .int 0)]) (zi_114 rfl) rfl zm_114_5 ⟨Or.inr ⟨by decide, rfl, fun q => absurd q (by decide)⟩, ⟨Or.inr ⟨by decide, rfl, fun q => absurd q (by decide)⟩, ⟨Or.inr ⟨by decide, rfl, fun q => absurd q (by decide)⟩, ⟨Or.inr ⟨by decide, rfl, fun q => absurd q (by decide)⟩, ⟨Or.inr ⟨by decide, rfl, fun _ => rfl⟩, ⟨Or.inl ⟨rfl, rfl⟩, trivial⟩⟩⟩⟩⟩⟩ ?_
      refine zgo_sub (L' := [(0, .int a0), (1, .int a1), (2, .int a2), (3, .int a1), (4, .int a0), (5, .int 0)]) (⟨rfl, rfl, rfl, rfl, rfl, rfl, trivial⟩) ?_
      exact k_114_26 _ zF M a0 a1 a2 a1 a0 0 _ g6
    · rw [if_neg hc4] at g6
      refine zo_ifF (p' := 14) (zi_114 rfl) rfl rfl hc4 ?_
      refine zo_ldc2 (p' := 17) (v := (-9223372036854775808)) (zi_114 rfl) rfl rfl ?_
      have g7 := Option.some.inj g6
      subst g7
      exact zo_lret (zi_114 rfl) rfl
/-- SlateHalves.odds(II)J -/
def f_113_80 (r52 : ZMem → Nat → Int32 → Option Nat → Int32 → Int32 → Option (Int64 × ZMem)) (M : ZMem) (o : Nat) (b1 : Int32) (b2 : Option Nat) (b3 : Int32) (b4 : Int32) : Option (Int64 × ZMem) := r52 M o b1 b2 b3 ((b4 + 1))
def f_113_52 : Nat → ZMem → Nat → Int32 → Option Nat → Int32 → Int32 → Option (Int64 × ZMem)
  | 0, _, _, _, _, _, _ => none
  | z + 1, M, o, b1, b2, b3, b4 => zb b2 fun q46 => zb (zgi M 1 3 q46) fun x47 => if x47 ≤ b4 then (zb (zgi M 1 3 q46) fun x50 => zb (f_114 M b3 ((x50 - 1)) b1) fun x52 => some (x52, M)) else (zb (zgr M 11 10 o) fun r54 => zb (zgi M 1 3 q46) fun x56 => zb r54 fun q58 => zb (f_41 M q58 x56 b4) fun x59 => if x59 = 0 then (f_113_80 (fun M a0 a1 a2 a3 a4 => f_113_52 z M a0 a1 a2 a3 a4) M o b1 (some q46) b3 b4) else (f_113_80 (fun M a0 a1 a2 a3 a4 => f_113_52 z M a0 a1 a2 a3 a4) M o b1 (some q46) ((b3 + 1)) b4))
set_option maxRecDepth 20000 in
theorem k_113_80 (d : Nat) (r52 : ZMem → Nat → Int32 → Option Nat → Int32 → Int32 → Option (Int64 × ZMem)) (h52 : ∀ (M : ZMem) (a0 : Nat) (a1 : Int32) (a2 : Option Nat) (a3 : Int32) (a4 : Int32) (out : Int64 × ZMem), r52 M a0 a1 a2 a3 a4 = some out → zgo none (d + 4) 113 52 [(0, zrf (some a0)), (2, .int a1), (3, zrf a2), (4, .int a3), (5, .int a4)] [] M (some (.long out.1), out.2)) : ∀ (M : ZMem) (o : Nat) (b1 : Int32) (b2 : Option Nat) (b3 : Int32) (b4 : Int32) (out : Int64 × ZMem), f_113_80 r52 M o b1 b2 b3 b4 = some out → zgo none (d + 4) 113 80 [(0, zrf (some o)), (2, .int b1), (3, zrf b2), (4, .int b3), (5, .int b4)] [] M (some (.long out.1), out.2) := by
  intro M o b1 b2 b3 b4 out h
  unfold f_113_80 at h
  refine zo_iinc (p' := 83) (v := (b4 + 1)) (L' := [(0, zrf (some o)), (2, .int b1), (3, zrf b2), (4, .int b3), (5, .int ((b4 + 1)))]) (zi_113 rfl) rfl zm_113_5 rfl rfl ⟨Or.inr ⟨by decide, rfl, fun q => absurd q (by decide)⟩, ⟨Or.inr ⟨by decide, rfl, fun q => absurd q (by decide)⟩, ⟨Or.inr ⟨by decide, rfl, fun q => absurd q (by decide)⟩, ⟨Or.inr ⟨by decide, rfl, fun _ => rfl⟩, ⟨Or.inl ⟨rfl, rfl⟩, trivial⟩⟩⟩⟩⟩ ?_
  refine zo_goto (p' := 52) (zi_113 rfl) rfl ?_
  refine zgo_sub (L' := [(0, zrf (some o)), (2, .int b1), (3, zrf b2), (4, .int b3), (5, .int (((b4 + 1))))]) (⟨rfl, rfl, rfl, rfl, rfl, trivial⟩) ?_
  exact h52 M o b1 b2 b3 ((b4 + 1)) _ h
set_option maxRecDepth 20000 in
theorem k_113_52 (d : Nat) : ∀ (z : Nat) (M : ZMem) (o : Nat) (b1 : Int32) (b2 : Option Nat) (b3 : Int32) (b4 : Int32) (out : Int64 × ZMem), f_113_52 z M o b1 b2 b3 b4 = some out → zgo none (d + 4) 113 52 [(0, zrf (some o)), (2, .int b1), (3, zrf b2), (4, .int b3), (5, .int b4)] [] M (some (.long out.1), out.2) := by
  intro z
  induction z with
  | zero => intro M o b1 b2 b3 b4 out h; cases h
  | succ z ih =>
    intro M o b1 b2 b3 b4 out h
    rw [f_113_52] at h
    refine zo_iload (p' := 54) (zi_113 rfl) rfl rfl ?_
    refine zo_aload_n (p' := 55) (zi_113 rfl) rfl rfl ?_
    obtain ⟨q46, h0, g62⟩ := zb_of h
    subst h0
    obtain ⟨x47, hx48, g63⟩ := zb_of g62
    refine zo_getI (p' := 58) (zi_113 rfl) rfl zl_1_126 hx48 ?_
    by_cases hc49 : x47 ≤ b4
    · rw [if_pos hc49] at g63
      refine zo_icT (p' := 86) (zi_113 rfl) rfl hc49 ?_
      refine zo_iload (p' := 88) (zi_113 rfl) rfl rfl ?_
      refine zo_aload_n (p' := 89) (zi_113 rfl) rfl rfl ?_
      obtain ⟨x50, hx51, g64⟩ := zb_of g63
      refine zo_getI (p' := 92) (zi_113 rfl) rfl zl_1_126 hx51 ?_
      refine zo_iconst (p' := 93) (v := 1) (zi_113 rfl) rfl rfl ?_
      refine zo_isub (p' := 94) (zi_113 rfl) rfl ?_
      refine zo_iload_n (p' := 95) (zi_113 rfl) rfl rfl ?_
      obtain ⟨x52, hx53, g65⟩ := zb_of g64
      refine zo_callSl (p' := 98) (as := [.int b3, .int ((x50 - 1)), .int b1]) (r := []) (zi_113 rfl) rfl (Or.inl zl_1_323) rfl rfl (Nat.le_of_ble_eq_true rfl) (Nat.le_of_ble_eq_true rfl) (k_114 _ hx53) ?_
      have g66 := Option.some.inj g65
      subst g66
      exact zo_lret (zi_113 rfl) rfl
    · rw [if_neg hc49] at g63
      refine zo_icF (p' := 61) (zi_113 rfl) rfl rfl hc49 ?_
      refine zo_aload_n (p' := 62) (zi_113 rfl) rfl rfl ?_
      obtain ⟨r54, hx55, g67⟩ := zb_of g63
      refine zo_getR (p' := 65) (zi_113 rfl) rfl zl_1_64 hx55 ?_
      refine zo_aload_n (p' := 66) (zi_113 rfl) rfl rfl ?_
      obtain ⟨x56, hx57, g68⟩ := zb_of g67
      refine zo_getI (p' := 69) (zi_113 rfl) rfl zl_1_126 hx57 ?_
      refine zo_iload (p' := 71) (zi_113 rfl) rfl rfl ?_
      obtain ⟨q58, h0, g69⟩ := zb_of g68
      subst h0
      obtain ⟨x59, hx60, g70⟩ := zb_of g69
      refine zo_callVi (p' := 74) (t := 2) (as := [.int x56, .int b4]) (r := []) (zi_113 rfl) rfl zl_1_312 rfl rfl (Or.inl ⟨by decide, rfl⟩) (Nat.le_of_ble_eq_true rfl) (Nat.le_of_ble_eq_true rfl) (f_41_ok hx60) (k_41 _ hx60) ?_
      by_cases hc61 : x59 = 0
      · rw [if_pos hc61] at g70
        refine zo_ifT (p' := 80) (zi_113 rfl) rfl hc61 ?_
        refine zgo_sub (L' := [(0, zrf (some o)), (2, .int b1), (3, zrf ((some q46))), (4, .int b3), (5, .int b4)]) (⟨rfl, rfl, rfl, rfl, rfl, trivial⟩) ?_
        exact k_113_80 _ _ (fun M a0 a1 a2 a3 a4 out h => ih M a0 a1 a2 a3 a4 out h) M o b1 (some q46) b3 b4 _ g70
      · rw [if_neg hc61] at g70
        refine zo_ifF (p' := 77) (zi_113 rfl) rfl rfl hc61 ?_
        refine zo_iinc (p' := 80) (v := (b3 + 1)) (L' := [(0, zrf (some o)), (2, .int b1), (3, zrf (some q46)), (4, .int ((b3 + 1))), (5, .int b4)]) (zi_113 rfl) rfl zm_113_4 rfl rfl ⟨Or.inr ⟨by decide, rfl, fun q => absurd q (by decide)⟩, ⟨Or.inr ⟨by decide, rfl, fun q => absurd q (by decide)⟩, ⟨Or.inr ⟨by decide, rfl, fun _ => zrf_cat _⟩, ⟨Or.inl ⟨rfl, rfl⟩, ⟨Or.inr ⟨by decide, rfl, fun q => absurd q (by decide)⟩, trivial⟩⟩⟩⟩⟩ ?_
        refine zgo_sub (L' := [(0, zrf (some o)), (2, .int b1), (3, zrf ((some q46))), (4, .int (((b3 + 1)))), (5, .int b4)]) (⟨rfl, rfl, rfl, rfl, rfl, trivial⟩) ?_
        exact k_113_80 _ _ (fun M a0 a1 a2 a3 a4 out h => ih M a0 a1 a2 a3 a4 out h) M o b1 (some q46) ((b3 + 1)) b4 _ g70
def f_113 (M : ZMem) (o : Nat) (a0 : Int32) (a1 : Int32) : Option (Int64 × ZMem) := if zok M 11 o = true then (zb (zgr M 11 0 o) fun r1 => zb r1 fun q3 => zb (zgr M 7 0 q3) fun r4 => zb r4 fun q6 => zb (f_19 M q6 a0) fun r7 => zcs r7 (some ((-9223372036854775808), M)) (fun q9 => zb (zgi M 1 3 q9) fun x11 => if 2 ≤ x11 then (zb (zgr M 11 10 o) fun r14 => zb (zgr M 11 0 o) fun r16 => zb r16 fun q18 => zb (zgr M 7 0 q18) fun r19 => zb r19 fun q21 => zb (zgi M 10 3 q21) fun x22 => zb r14 fun q24 => zb (f_52 M q24 (some q9) x22) fun M27 => f_113_52 zF M27 o a1 (some q9) 0 1) else (some ((-9223372036854775808), M)))) else none
theorem f_113_ok {M : ZMem} {o : Nat} {a0 : Int32} {a1 : Int32} {out : Int64 × ZMem} (h : f_113 M o a0 a1 = some out) : zok M 11 o = true := by
  unfold f_113 at h
  by_cases hok : zok M 11 o = true
  · exact hok
  · rw [if_neg hok] at h; cases h
set_option maxRecDepth 20000 in
theorem k_113 (d : Nat) {M : ZMem} {o : Nat} {a0 : Int32} {a1 : Int32} {out : Int64 × ZMem} (h : f_113 M o a0 a1 = some out) : zrn (d + 4) 113 [zrf (some o), .int a0, .int a1] M (some (.long out.1), out.2) := by
  unfold f_113 at h
  by_cases hok : zok M 11 o = true
  · rw [if_pos hok] at h
    refine zrn_of (L := [(0, zrf (some o)), (1, .int a0), (2, .int a1)]) rfl ?_
    refine zo_aload_n (p' := 1) (zi_113 rfl) rfl rfl ?_
    obtain ⟨r1, hx2, g28⟩ := zb_of h
    refine zo_getR (p' := 4) (zi_113 rfl) rfl zl_1_14 hx2 ?_
    obtain ⟨q3, h0, g29⟩ := zb_of g28
    subst h0
    obtain ⟨r4, hx5, g30⟩ := zb_of g29
    refine zo_getR (p' := 7) (zi_113 rfl) rfl zl_1_100 hx5 ?_
    refine zo_iload_n (p' := 8) (zi_113 rfl) rfl rfl ?_
    obtain ⟨q6, h0, g31⟩ := zb_of g30
    subst h0
    obtain ⟨r7, hx8, g32⟩ := zb_of g31
    refine zo_callVa (p' := 11) (t := 10) (as := [.int a0]) (r := []) (zi_113 rfl) rfl zl_1_116 rfl rfl (Or.inl ⟨by decide, rfl⟩) (Nat.le_of_ble_eq_true rfl) (Nat.le_of_ble_eq_true rfl) (f_19_ok hx8) (k_19 _ hx8) ?_
    refine zo_astore_n (p' := 12) (L' := [(0, zrf (some o)), (1, .int a0), (2, .int a1), (3, zrf r7)]) (zi_113 rfl) rfl zm_113_3 ⟨Or.inr ⟨by decide, rfl, fun q => absurd q (by decide)⟩, ⟨Or.inr ⟨by decide, rfl, fun q => absurd q (by decide)⟩, ⟨Or.inr ⟨by decide, rfl, fun _ => rfl⟩, ⟨Or.inl ⟨rfl, rfl⟩, trivial⟩⟩⟩⟩ ?_
    refine zo_aload_n (p' := 13) (zi_113 rfl) rfl rfl ?_
    rcases r7 with _ | q9
    · have g33 := zcs_none g32
      refine zo_nullT (p' := 24) (zi_113 rfl) rfl ?_
      refine zo_ldc2 (p' := 27) (v := (-9223372036854775808)) (zi_113 rfl) rfl rfl ?_
      have g34 := Option.some.inj g33
      subst g34
      exact zo_lret (zi_113 rfl) rfl
    · obtain ⟨hq10, g35⟩ := zcs_some g32
      refine zo_nullF (p' := 16) (zi_113 rfl) rfl hq10 ?_
      refine zo_aload_n (p' := 17) (zi_113 rfl) rfl rfl ?_
      obtain ⟨x11, hx12, g36⟩ := zb_of g35
      refine zo_getI (p' := 20) (zi_113 rfl) rfl zl_1_126 hx12 ?_
      refine zo_iconst (p' := 21) (v := 2) (zi_113 rfl) rfl rfl ?_
      by_cases hc13 : 2 ≤ x11
      · rw [if_pos hc13] at g36
        refine zo_icT (p' := 28) (zi_113 rfl) rfl hc13 ?_
        refine zo_aload_n (p' := 29) (zi_113 rfl) rfl rfl ?_
        obtain ⟨r14, hx15, g37⟩ := zb_of g36
        refine zo_getR (p' := 32) (zi_113 rfl) rfl zl_1_64 hx15 ?_
        refine zo_aload_n (p' := 33) (zi_113 rfl) rfl rfl ?_
        refine zo_aload_n (p' := 34) (zi_113 rfl) rfl rfl ?_
        obtain ⟨r16, hx17, g38⟩ := zb_of g37
        refine zo_getR (p' := 37) (zi_113 rfl) rfl zl_1_14 hx17 ?_
        obtain ⟨q18, h0, g39⟩ := zb_of g38
        subst h0
        obtain ⟨r19, hx20, g40⟩ := zb_of g39
        refine zo_getR (p' := 40) (zi_113 rfl) rfl zl_1_100 hx20 ?_
        obtain ⟨q21, h0, g41⟩ := zb_of g40
        subst h0
        obtain ⟨x22, hx23, g42⟩ := zb_of g41
        refine zo_getI (p' := 43) (zi_113 rfl) rfl zl_1_139 hx23 ?_
        obtain ⟨q24, h0, g43⟩ := zb_of g42
        subst h0
        obtain ⟨M27, hx26, g44⟩ := zb_of g43
        refine zo_callVv (p' := 46) (t := 2) (as := [zrf (some q9), .int x22]) (r := []) (zi_113 rfl) rfl zl_1_320 rfl rfl (Or.inl ⟨by decide, rfl⟩) (Nat.le_of_ble_eq_true rfl) (Nat.le_of_ble_eq_true rfl) (f_52_ok hx26) (k_52 _ hx26) ?_
        refine zo_iconst (p' := 47) (v := 0) (zi_113 rfl) rfl rfl ?_
        refine zo_istore (p' := 49) (L' := [(0, zrf (some o)), (1, .int a0), (2, .int a1), (3, zrf (some q9)), (4, .int 0)]) (zi_113 rfl) rfl zm_113_4 ⟨Or.inr ⟨by decide, rfl, fun q => absurd q (by decide)⟩, ⟨Or.inr ⟨by decide, rfl, fun q => absurd q (by decide)⟩, ⟨Or.inr ⟨by decide, rfl, fun q => absurd q (by decide)⟩, ⟨Or.inr ⟨by decide, rfl, fun _ => zrf_cat _⟩, ⟨Or.inl ⟨rfl, rfl⟩, trivial⟩⟩⟩⟩⟩ ?_
        refine zo_iconst (p' := 50) (v := 1) (zi_113 rfl) rfl rfl ?_
        refine zo_istore (p' := 52) (L' := [(0, zrf (some o)), (1, .int a0), (2, .int a1), (3, zrf (some q9)), (4, .int 0), (5, .int 1)]) (zi_113 rfl) rfl zm_113_5 ⟨Or.inr ⟨by decide, rfl, fun q => absurd q (by decide)⟩, ⟨Or.inr ⟨by decide, rfl, fun q => absurd q (by decide)⟩, ⟨Or.inr ⟨by decide, rfl, fun q => absurd q (by decide)⟩, ⟨Or.inr ⟨by decide, rfl, fun q => absurd q (by decide)⟩, ⟨Or.inr ⟨by decide, rfl, fun _ => rfl⟩, ⟨Or.inl ⟨rfl, rfl⟩, trivial⟩⟩⟩⟩⟩⟩ ?_
        refine zgo_sub (L' := [(0, zrf (some o)), (2, .int a1), (3, zrf ((some q9))), (4, .int 0), (5, .int 1)]) (⟨rfl, rfl, rfl, rfl, rfl, trivial⟩) ?_
        exact k_113_52 _ zF M27 o a1 (some q9) 0 1 _ g44
      · rw [if_neg hc13] at g36
        refine zo_icF (p' := 24) (zi_113 rfl) rfl rfl hc13 ?_
        refine zo_ldc2 (p' := 27) (v := (-9223372036854775808)) (zi_113 rfl) rfl rfl ?_
        have g45 := Option.some.inj g36
        subst g45
        exact zo_lret (zi_113 rfl) rfl
  · rw [if_neg hok] at h; cases h
/-- SlateHalves.mean(I)J -/
def f_115_63 (r7 : ZMem → Nat → Int32 → Int32 → Int32 → Int32 → Option (Int64)) (M : ZMem) (o : Nat) (b1 : Int32) (b2 : Int32) (b3 : Int32) (b4 : Int32) : Option (Int64) := r7 M o b1 b2 b3 ((b4 + 1))
def f_115_7 : Nat → ZMem → Nat → Int32 → Int32 → Int32 → Int32 → Option (Int64)
  | 0, _, _, _, _, _, _ => none
  | z + 1, M, o, b1, b2, b3, b4 => zb (zgr M 11 0 o) fun r1 => zb r1 fun q3 => zb (zgr M 7 0 q3) fun r4 => zb r4 fun q6 => zb (zgi M 10 1 q6) fun x7 => if x7 ≤ b4 then (zb (f_114 M b2 b3 b1) fun x10 => some x10) else (zb (zgr M 11 0 o) fun r12 => zb r12 fun q14 => zb (zgr M 7 0 q14) fun r15 => zb r15 fun q17 => zb (zgr M 10 0 q17) fun r18 => zb r18 fun q20 => zb (zlaR M q20 b4) fun r21 => zb r21 fun q23 => zb (f_57 M q23) fun x24 => if ¬ x24 = 0 then (f_115_63 (fun M a0 a1 a2 a3 a4 => f_115_7 z M a0 a1 a2 a3 a4) M o b1 b2 b3 b4) else (zb (zgr M 11 0 o) fun r27 => zb r27 fun q29 => zb (zgr M 7 0 q29) fun r30 => zb r30 fun q32 => zb (zgr M 10 0 q32) fun r33 => zb r33 fun q35 => zb (zlaR M q35 b4) fun r36 => zb r36 fun q38 => zb (zgi M 1 3 q38) fun x39 => f_115_63 (fun M a0 a1 a2 a3 a4 => f_115_7 z M a0 a1 a2 a3 a4) M o b1 ((b2 + x39)) ((b3 + 1)) b4))
set_option maxRecDepth 20000 in
theorem k_115_63 (d : Nat) (r7 : ZMem → Nat → Int32 → Int32 → Int32 → Int32 → Option (Int64)) (h7 : ∀ (M : ZMem) (a0 : Nat) (a1 : Int32) (a2 : Int32) (a3 : Int32) (a4 : Int32) (out : Int64), r7 M a0 a1 a2 a3 a4 = some out → zgo none (d + 2) 115 7 [(0, zrf (some a0)), (1, .int a1), (2, .int a2), (3, .int a3), (4, .int a4)] [] M (some (.long out), M)) : ∀ (M : ZMem) (o : Nat) (b1 : Int32) (b2 : Int32) (b3 : Int32) (b4 : Int32) (out : Int64), f_115_63 r7 M o b1 b2 b3 b4 = some out → zgo none (d + 2) 115 63 [(0, zrf (some o)), (1, .int b1), (2, .int b2), (3, .int b3), (4, .int b4)] [] M (some (.long out), M) := by
  intro M o b1 b2 b3 b4 out h
  unfold f_115_63 at h
  refine zo_iinc (p' := 66) (v := (b4 + 1)) (L' := [(0, zrf (some o)), (1, .int b1), (2, .int b2), (3, .int b3), (4, .int ((b4 + 1)))]) (zi_115 rfl) rfl zm_115_4 rfl rfl ⟨Or.inr ⟨by decide, rfl, fun q => absurd q (by decide)⟩, ⟨Or.inr ⟨by decide, rfl, fun q => absurd q (by decide)⟩, ⟨Or.inr ⟨by decide, rfl, fun q => absurd q (by decide)⟩, ⟨Or.inr ⟨by decide, rfl, fun _ => rfl⟩, ⟨Or.inl ⟨rfl, rfl⟩, trivial⟩⟩⟩⟩⟩ ?_
  refine zo_goto (p' := 7) (zi_115 rfl) rfl ?_
  refine zgo_sub (L' := [(0, zrf (some o)), (1, .int b1), (2, .int b2), (3, .int b3), (4, .int (((b4 + 1))))]) (⟨rfl, rfl, rfl, rfl, rfl, trivial⟩) ?_
  exact h7 M o b1 b2 b3 ((b4 + 1)) _ h
set_option maxRecDepth 20000 in
theorem k_115_7 (d : Nat) : ∀ (z : Nat) (M : ZMem) (o : Nat) (b1 : Int32) (b2 : Int32) (b3 : Int32) (b4 : Int32) (out : Int64), f_115_7 z M o b1 b2 b3 b4 = some out → zgo none (d + 2) 115 7 [(0, zrf (some o)), (1, .int b1), (2, .int b2), (3, .int b3), (4, .int b4)] [] M (some (.long out), M) := by
  intro z
  induction z with
  | zero => intro M o b1 b2 b3 b4 out h; cases h
  | succ z ih =>
    intro M o b1 b2 b3 b4 out h
    rw [f_115_7] at h
    refine zo_iload (p' := 9) (zi_115 rfl) rfl rfl ?_
    refine zo_aload_n (p' := 10) (zi_115 rfl) rfl rfl ?_
    obtain ⟨r1, hx2, g41⟩ := zb_of h
    refine zo_getR (p' := 13) (zi_115 rfl) rfl zl_1_14 hx2 ?_
    obtain ⟨q3, h0, g42⟩ := zb_of g41
    subst h0
    obtain ⟨r4, hx5, g43⟩ := zb_of g42
    refine zo_getR (p' := 16) (zi_115 rfl) rfl zl_1_100 hx5 ?_
    obtain ⟨q6, h0, g44⟩ := zb_of g43
    subst h0
    obtain ⟨x7, hx8, g45⟩ := zb_of g44
    refine zo_getI (p' := 19) (zi_115 rfl) rfl zl_1_261 hx8 ?_
    by_cases hc9 : x7 ≤ b4
    · rw [if_pos hc9] at g45
      refine zo_icT (p' := 69) (zi_115 rfl) rfl hc9 ?_
      refine zo_iload_n (p' := 70) (zi_115 rfl) rfl rfl ?_
      refine zo_iload_n (p' := 71) (zi_115 rfl) rfl rfl ?_
      refine zo_iload_n (p' := 72) (zi_115 rfl) rfl rfl ?_
      obtain ⟨x10, hx11, g46⟩ := zb_of g45
      refine zo_callSl (p' := 75) (as := [.int b2, .int b3, .int b1]) (r := []) (zi_115 rfl) rfl (Or.inl zl_1_323) rfl rfl (Nat.le_of_ble_eq_true rfl) (Nat.le_of_ble_eq_true rfl) (k_114 _ hx11) ?_
      have g47 := Option.some.inj g46
      subst g47
      exact zo_lret (zi_115 rfl) rfl
    · rw [if_neg hc9] at g45
      refine zo_icF (p' := 22) (zi_115 rfl) rfl rfl hc9 ?_
      refine zo_aload_n (p' := 23) (zi_115 rfl) rfl rfl ?_
      obtain ⟨r12, hx13, g48⟩ := zb_of g45
      refine zo_getR (p' := 26) (zi_115 rfl) rfl zl_1_14 hx13 ?_
      obtain ⟨q14, h0, g49⟩ := zb_of g48
      subst h0
      obtain ⟨r15, hx16, g50⟩ := zb_of g49
      refine zo_getR (p' := 29) (zi_115 rfl) rfl zl_1_100 hx16 ?_
      obtain ⟨q17, h0, g51⟩ := zb_of g50
      subst h0
      obtain ⟨r18, hx19, g52⟩ := zb_of g51
      refine zo_getR (p' := 32) (zi_115 rfl) rfl zl_1_264 hx19 ?_
      refine zo_iload (p' := 34) (zi_115 rfl) rfl rfl ?_
      obtain ⟨q20, h0, g53⟩ := zb_of g52
      subst h0
      obtain ⟨r21, hx22, g54⟩ := zb_of g53
      refine zo_aald (p' := 35) (zi_115 rfl) rfl hx22 ?_
      obtain ⟨q23, h0, g55⟩ := zb_of g54
      subst h0
      obtain ⟨x24, hx25, g56⟩ := zb_of g55
      refine zo_callVi (p' := 38) (t := 1) (as := []) (r := []) (zi_115 rfl) rfl zl_1_204 rfl rfl (Or.inl ⟨by decide, rfl⟩) (Nat.le_of_ble_eq_true rfl) (Nat.le_of_ble_eq_true rfl) (f_57_ok hx25) (k_57 _ hx25) ?_
      by_cases hc26 : ¬ x24 = 0
      · rw [if_pos hc26] at g56
        refine zo_ifT (p' := 63) (zi_115 rfl) rfl hc26 ?_
        refine zgo_sub (L' := [(0, zrf (some o)), (1, .int b1), (2, .int b2), (3, .int b3), (4, .int b4)]) (⟨rfl, rfl, rfl, rfl, rfl, trivial⟩) ?_
        exact k_115_63 _ _ (fun M a0 a1 a2 a3 a4 out h => ih M a0 a1 a2 a3 a4 out h) M o b1 b2 b3 b4 _ g56
      · rw [if_neg hc26] at g56
        refine zo_ifF (p' := 41) (zi_115 rfl) rfl rfl hc26 ?_
        refine zo_iload_n (p' := 42) (zi_115 rfl) rfl rfl ?_
        refine zo_aload_n (p' := 43) (zi_115 rfl) rfl rfl ?_
        obtain ⟨r27, hx28, g57⟩ := zb_of g56
        refine zo_getR (p' := 46) (zi_115 rfl) rfl zl_1_14 hx28 ?_
        obtain ⟨q29, h0, g58⟩ := zb_of g57
        subst h0
        obtain ⟨r30, hx31, g59⟩ := zb_of g58
        refine zo_getR (p' := 49) (zi_115 rfl) rfl zl_1_100 hx31 ?_
        obtain ⟨q32, h0, g60⟩ := zb_of g59
        subst h0
        obtain ⟨r33, hx34, g61⟩ := zb_of g60
        refine zo_getR (p' := 52) (zi_115 rfl) rfl zl_1_264 hx34 ?_
        refine zo_iload (p' := 54) (zi_115 rfl) rfl rfl ?_
        obtain ⟨q35, h0, g62⟩ := zb_of g61
        subst h0
        obtain ⟨r36, hx37, g63⟩ := zb_of g62
        refine zo_aald (p' := 55) (zi_115 rfl) rfl hx37 ?_
        obtain ⟨q38, h0, g64⟩ := zb_of g63
        subst h0
        obtain ⟨x39, hx40, g65⟩ := zb_of g64
        refine zo_getI (p' := 58) (zi_115 rfl) rfl zl_1_126 hx40 ?_
        refine zo_iadd (p' := 59) (zi_115 rfl) rfl ?_
        refine zo_istore_n (p' := 60) (L' := [(0, zrf (some o)), (1, .int b1), (2, .int ((b2 + x39))), (3, .int b3), (4, .int b4)]) (zi_115 rfl) rfl zm_115_2 ⟨Or.inr ⟨by decide, rfl, fun q => absurd q (by decide)⟩, ⟨Or.inr ⟨by decide, rfl, fun _ => rfl⟩, ⟨Or.inl ⟨rfl, rfl⟩, ⟨Or.inr ⟨by decide, rfl, fun q => absurd q (by decide)⟩, ⟨Or.inr ⟨by decide, rfl, fun q => absurd q (by decide)⟩, trivial⟩⟩⟩⟩⟩ ?_
        refine zo_iinc (p' := 63) (v := (b3 + 1)) (L' := [(0, zrf (some o)), (1, .int b1), (2, .int ((b2 + x39))), (3, .int ((b3 + 1))), (4, .int b4)]) (zi_115 rfl) rfl zm_115_3 rfl rfl ⟨Or.inr ⟨by decide, rfl, fun q => absurd q (by decide)⟩, ⟨Or.inr ⟨by decide, rfl, fun q => absurd q (by decide)⟩, ⟨Or.inr ⟨by decide, rfl, fun _ => rfl⟩, ⟨Or.inl ⟨rfl, rfl⟩, ⟨Or.inr ⟨by decide, rfl, fun q => absurd q (by decide)⟩, trivial⟩⟩⟩⟩⟩ ?_
        refine zgo_sub (L' := [(0, zrf (some o)), (1, .int b1), (2, .int (((b2 + x39)))), (3, .int (((b3 + 1)))), (4, .int b4)]) (⟨rfl, rfl, rfl, rfl, rfl, trivial⟩) ?_
        exact k_115_63 _ _ (fun M a0 a1 a2 a3 a4 out h => ih M a0 a1 a2 a3 a4 out h) M o b1 ((b2 + x39)) ((b3 + 1)) b4 _ g65
def f_115 (M : ZMem) (o : Nat) (a0 : Int32) : Option (Int64) := if zok M 11 o = true then (f_115_7 zF M o a0 0 0 0) else none
theorem f_115_ok {M : ZMem} {o : Nat} {a0 : Int32} {out : Int64} (h : f_115 M o a0 = some out) : zok M 11 o = true := by
  unfold f_115 at h
  by_cases hok : zok M 11 o = true
  · exact hok
  · rw [if_neg hok] at h; cases h
set_option maxRecDepth 20000 in
theorem k_115 (d : Nat) {M : ZMem} {o : Nat} {a0 : Int32} {out : Int64} (h : f_115 M o a0 = some out) : zrn (d + 2) 115 [zrf (some o), .int a0] M (some (.long out), M) := by
  unfold f_115 at h
  by_cases hok : zok M 11 o = true
  · rw [if_pos hok] at h
    refine zrn_of (L := [(0, zrf (some o)), (1, .int a0)]) rfl ?_
    refine zo_iconst (p' := 1) (v := 0) (zi_115 rfl) rfl rfl ?_
    refine zo_istore_n (p' := 2) (L' := [(0, zrf (some o)), (1, .int a0), (2, .int 0)]) (zi_115 rfl) rfl zm_115_2 ⟨Or.inr ⟨by decide, rfl, fun q => absurd q (by decide)⟩, ⟨Or.inr ⟨by decide, rfl, fun _ => rfl⟩, ⟨Or.inl ⟨rfl, rfl⟩, trivial⟩⟩⟩ ?_
    refine zo_iconst (p' := 3) (v := 0) (zi_115 rfl) rfl rfl ?_
    refine zo_istore_n (p' := 4) (L' := [(0, zrf (some o)), (1, .int a0), (2, .int 0), (3, .int 0)]) (zi_115 rfl) rfl zm_115_3 ⟨Or.inr ⟨by decide, rfl, fun q => absurd q (by decide)⟩, ⟨Or.inr ⟨by decide, rfl, fun q => absurd q (by decide)⟩, ⟨Or.inr ⟨by decide, rfl, fun _ => rfl⟩, ⟨Or.inl ⟨rfl, rfl⟩, trivial⟩⟩⟩⟩ ?_
    refine zo_iconst (p' := 5) (v := 0) (zi_115 rfl) rfl rfl ?_
    refine zo_istore (p' := 7) (L' := [(0, zrf (some o)), (1, .int a0), (2, .int 0), (3, .int 0), (4, .int 0)]) (zi_115 rfl) rfl zm_115_4 ⟨Or.inr ⟨by decide, rfl, fun q => absurd q (by decide)⟩, ⟨Or.inr ⟨by decide, rfl, fun q => absurd q (by decide)⟩, ⟨Or.inr ⟨by decide, rfl, fun q => absurd q (by decide)⟩, ⟨Or.inr ⟨by decide, rfl, fun _ => rfl⟩, ⟨Or.inl ⟨rfl, rfl⟩, trivial⟩⟩⟩⟩⟩ ?_
    refine zgo_sub (L' := [(0, zrf (some o)), (1, .int a0), (2, .int 0), (3, .int 0), (4, .int 0)]) (⟨rfl, rfl, rfl, rfl, rfl, trivial⟩) ?_
    exact k_115_7 _ zF M o a0 0 0 0 _ h
  · rw [if_neg hok] at h; cases h
/-- SlateHalves.week(II)I -/
def f_116_49 (M : ZMem) (o : Nat) (b1 : Int32) (b2 : Int32) : Option (Int32 × ZMem) := zb (zgr M 11 0 o) fun r40 => zb r40 fun q42 => zb (zgr M 7 2 q42) fun r43 => zb r43 fun q45 => zbd (f_108 M q45 b1 b2 0) fun x46 M48 => some (x46, M48)
set_option maxRecDepth 20000 in
theorem k_116_49 (d : Nat) : ∀ (M : ZMem) (o : Nat) (b1 : Int32) (b2 : Int32) (out : Int32 × ZMem), f_116_49 M o b1 b2 = some out → zgo none (d + 2) 116 49 [(0, zrf (some o)), (1, .int b1), (2, .int b2)] [] M (some (.int out.1), out.2) := by
  intro M o b1 b2 out h
  unfold f_116_49 at h
  refine zo_aload_n (p' := 50) (zi_116 rfl) rfl rfl ?_
  obtain ⟨r40, hx41, g49⟩ := zb_of h
  refine zo_getR (p' := 53) (zi_116 rfl) rfl zl_1_14 hx41 ?_
  obtain ⟨q42, h0, g50⟩ := zb_of g49
  subst h0
  obtain ⟨r43, hx44, g51⟩ := zb_of g50
  refine zo_getR (p' := 56) (zi_116 rfl) rfl zl_1_327 hx44 ?_
  refine zo_iload_n (p' := 57) (zi_116 rfl) rfl rfl ?_
  refine zo_iload_n (p' := 58) (zi_116 rfl) rfl rfl ?_
  refine zo_iconst (p' := 59) (v := 0) (zi_116 rfl) rfl rfl ?_
  obtain ⟨q45, h0, g52⟩ := zb_of g51
  subst h0
  obtain ⟨x46, M48, hx47, g53⟩ := zbd_of g52
  refine zo_callVi (p' := 62) (t := 6) (as := [.int b1, .int b2, .int 0]) (r := []) (zi_116 rfl) rfl zl_1_292 rfl rfl (Or.inl ⟨by decide, rfl⟩) (Nat.le_of_ble_eq_true rfl) (Nat.le_of_ble_eq_true rfl) (f_108_ok hx47) (k_108 _ hx47) ?_
  have g54 := Option.some.inj g53
  subst g54
  exact zo_iret (zi_116 rfl) rfl ⟨rfl, rfl⟩
def f_116 (M : ZMem) (o : Nat) (a0 : Int32) (a1 : Int32) : Option (Int32 × ZMem) := if zok M 11 o = true then (if ¬ a0 = (-1) then (zb (f_14 M a0 0 2) fun x2 => if ¬ x2 = 0 then (if a0 = 0 then (f_116_49 M o a0 a1) else (zb (zgr M 11 0 o) fun r6 => zb r6 fun q8 => zb (zgr M 7 0 q8) fun r9 => zb r9 fun q11 => zb (f_19 M q11 a1) fun r12 => zcs r12 (some ((-1), M)) (fun q14 => f_116_49 M o a0 a1))) else (some ((-1), M))) else (zb (zgr M 11 0 o) fun r16 => zb r16 fun q18 => zb (zgr M 7 2 q18) fun r19 => zb r19 fun q21 => zb (zpf M 6 4 q21 (.int 0) false) fun M22 => some (0, M22))) else none
theorem f_116_ok {M : ZMem} {o : Nat} {a0 : Int32} {a1 : Int32} {out : Int32 × ZMem} (h : f_116 M o a0 a1 = some out) : zok M 11 o = true := by
  unfold f_116 at h
  by_cases hok : zok M 11 o = true
  · exact hok
  · rw [if_neg hok] at h; cases h
set_option maxRecDepth 20000 in
theorem k_116 (d : Nat) {M : ZMem} {o : Nat} {a0 : Int32} {a1 : Int32} {out : Int32 × ZMem} (h : f_116 M o a0 a1 = some out) : zrn (d + 2) 116 [zrf (some o), .int a0, .int a1] M (some (.int out.1), out.2) := by
  unfold f_116 at h
  by_cases hok : zok M 11 o = true
  · rw [if_pos hok] at h
    refine zrn_of (L := [(0, zrf (some o)), (1, .int a0), (2, .int a1)]) rfl ?_
    refine zo_iload_n (p' := 1) (zi_116 rfl) rfl rfl ?_
    refine zo_iconst (p' := 2) (v := (-1)) (zi_116 rfl) rfl rfl ?_
    by_cases hc1 : ¬ a0 = (-1)
    · rw [if_pos hc1] at h
      refine zo_icT (p' := 18) (zi_116 rfl) rfl hc1 ?_
      refine zo_iload_n (p' := 19) (zi_116 rfl) rfl rfl ?_
      refine zo_iconst (p' := 20) (v := 0) (zi_116 rfl) rfl rfl ?_
      refine zo_iconst (p' := 21) (v := 2) (zi_116 rfl) rfl rfl ?_
      obtain ⟨x2, hx3, g24⟩ := zb_of h
      refine zo_callSi (p' := 24) (as := [.int a0, .int 0, .int 2]) (r := []) (zi_116 rfl) rfl (Or.inl zl_1_96) rfl rfl (Nat.le_of_ble_eq_true rfl) (Nat.le_of_ble_eq_true rfl) (k_14 _ hx3) ?_
      by_cases hc4 : ¬ x2 = 0
      · rw [if_pos hc4] at g24
        refine zo_ifT (p' := 29) (zi_116 rfl) rfl hc4 ?_
        refine zo_iload_n (p' := 30) (zi_116 rfl) rfl rfl ?_
        by_cases hc5 : a0 = 0
        · rw [if_pos hc5] at g24
          refine zo_ifT (p' := 49) (zi_116 rfl) rfl hc5 ?_
          refine zgo_sub (L' := [(0, zrf (some o)), (1, .int a0), (2, .int a1)]) (⟨rfl, rfl, rfl, trivial⟩) ?_
          exact k_116_49 _ M o a0 a1 _ g24
        · rw [if_neg hc5] at g24
          refine zo_ifF (p' := 33) (zi_116 rfl) rfl rfl hc5 ?_
          refine zo_aload_n (p' := 34) (zi_116 rfl) rfl rfl ?_
          obtain ⟨r6, hx7, g25⟩ := zb_of g24
          refine zo_getR (p' := 37) (zi_116 rfl) rfl zl_1_14 hx7 ?_
          obtain ⟨q8, h0, g26⟩ := zb_of g25
          subst h0
          obtain ⟨r9, hx10, g27⟩ := zb_of g26
          refine zo_getR (p' := 40) (zi_116 rfl) rfl zl_1_100 hx10 ?_
          refine zo_iload_n (p' := 41) (zi_116 rfl) rfl rfl ?_
          obtain ⟨q11, h0, g28⟩ := zb_of g27
          subst h0
          obtain ⟨r12, hx13, g29⟩ := zb_of g28
          refine zo_callVa (p' := 44) (t := 10) (as := [.int a1]) (r := []) (zi_116 rfl) rfl zl_1_116 rfl rfl (Or.inl ⟨by decide, rfl⟩) (Nat.le_of_ble_eq_true rfl) (Nat.le_of_ble_eq_true rfl) (f_19_ok hx13) (k_19 _ hx13) ?_
          rcases r12 with _ | q14
          · have g30 := zcs_none g29
            refine zo_nonnullF (p' := 47) (zi_116 rfl) rfl ?_
            refine zo_iconst (p' := 48) (v := (-1)) (zi_116 rfl) rfl rfl ?_
            have g31 := Option.some.inj g30
            subst g31
            exact zo_iret (zi_116 rfl) rfl ⟨rfl, rfl⟩
          · obtain ⟨hq15, g32⟩ := zcs_some g29
            refine zo_nonnullT (p' := 49) (zi_116 rfl) rfl hq15 ?_
            refine zgo_sub (L' := [(0, zrf (some o)), (1, .int a0), (2, .int a1)]) (⟨rfl, rfl, rfl, trivial⟩) ?_
            exact k_116_49 _ M o a0 a1 _ g32
      · rw [if_neg hc4] at g24
        refine zo_ifF (p' := 27) (zi_116 rfl) rfl rfl hc4 ?_
        refine zo_iconst (p' := 28) (v := (-1)) (zi_116 rfl) rfl rfl ?_
        have g33 := Option.some.inj g24
        subst g33
        exact zo_iret (zi_116 rfl) rfl ⟨rfl, rfl⟩
    · rw [if_neg hc1] at h
      refine zo_icF (p' := 5) (zi_116 rfl) rfl rfl hc1 ?_
      refine zo_aload_n (p' := 6) (zi_116 rfl) rfl rfl ?_
      obtain ⟨r16, hx17, g34⟩ := zb_of h
      refine zo_getR (p' := 9) (zi_116 rfl) rfl zl_1_14 hx17 ?_
      obtain ⟨q18, h0, g35⟩ := zb_of g34
      subst h0
      obtain ⟨r19, hx20, g36⟩ := zb_of g35
      refine zo_getR (p' := 12) (zi_116 rfl) rfl zl_1_327 hx20 ?_
      refine zo_iconst (p' := 13) (v := 0) (zi_116 rfl) rfl rfl ?_
      obtain ⟨q21, h0, g37⟩ := zb_of g36
      subst h0
      obtain ⟨M22, hx23, g38⟩ := zb_of g37
      refine zo_putI (p' := 16) (zi_116 rfl) rfl zl_1_287 (zpb_116 _) hx23 ?_
      refine zo_iconst (p' := 17) (v := 0) (zi_116 rfl) rfl rfl ?_
      have g39 := Option.some.inj g38
      subst g39
      exact zo_iret (zi_116 rfl) rfl ⟨rfl, rfl⟩
  · rw [if_neg hok] at h; cases h
/-- SlateHalves.goRow(ILSlateHalves$Block;)I -/
def f_118_60 (M : ZMem) (b0 : Option Nat) (b1 : Int32) : Option (Int32 × ZMem) := zb b0 fun q45 => zb (zpf M 1 3 q45 (.int 0) false) fun M46 => some (b1, M46)
set_option maxRecDepth 20000 in
theorem k_118_60 (d : Nat) : ∀ (M : ZMem) (b0 : Option Nat) (b1 : Int32) (out : Int32 × ZMem), f_118_60 M b0 b1 = some out → zgo none (d + 5) 118 60 [(2, zrf b0)] [.int b1] M (some (.int out.1), out.2) := by
  intro M b0 b1 out h
  unfold f_118_60 at h
  refine zo_istore_n (p' := 61) (L' := [(2, zrf b0), (3, .int b1)]) (zi_118 rfl) rfl zm_118_3 ⟨Or.inr ⟨by decide, rfl, fun _ => zrf_cat _⟩, ⟨Or.inl ⟨rfl, rfl⟩, trivial⟩⟩ ?_
  refine zo_aload_n (p' := 62) (zi_118 rfl) rfl rfl ?_
  refine zo_iconst (p' := 63) (v := 0) (zi_118 rfl) rfl rfl ?_
  obtain ⟨q45, h0, g48⟩ := zb_of h
  subst h0
  obtain ⟨M46, hx47, g49⟩ := zb_of g48
  refine zo_putI (p' := 66) (zi_118 rfl) rfl zl_1_126 (zpb_118 _) hx47 ?_
  refine zo_iload_n (p' := 67) (zi_118 rfl) rfl rfl ?_
  have g50 := Option.some.inj g49
  subst g50
  exact zo_iret (zi_118 rfl) rfl ⟨rfl, rfl⟩
def f_118 (M : ZMem) (o : Nat) (a0 : Int32) (a1 : Option Nat) : Option (Int32 × ZMem) := if zok M 11 o = true then (if ¬ a0 = 0 then (zcs a1 (some (0, M)) (fun q2 => zb (f_57 M q2) fun x4 => if x4 = 0 then (if ¬ a0 = 1 then (zb (zgr M 11 3 o) fun r8 => zbd (f_90 M o r8 (some q2)) fun x10 M12 => f_118_60 M12 (some q2) x10) else (zb (zgr M 11 3 o) fun r13 => zbd (f_58 M o r13 (some q2)) fun x15 M17 => f_118_60 M17 (some q2) x15)) else (some (0, M)))) else (zb (zgr M 11 3 o) fun r18 => zb (f_20 M o) fun r20 => zb r20 fun q22 => zb (zgi M 3 4 q22) fun x23 => zb r18 fun q25 => zb (f_92 M q25 1 x23) fun M28 => some (0, M28))) else none
theorem f_118_ok {M : ZMem} {o : Nat} {a0 : Int32} {a1 : Option Nat} {out : Int32 × ZMem} (h : f_118 M o a0 a1 = some out) : zok M 11 o = true := by
  unfold f_118 at h
  by_cases hok : zok M 11 o = true
  · exact hok
  · rw [if_neg hok] at h; cases h
set_option maxRecDepth 20000 in
theorem k_118 (d : Nat) {M : ZMem} {o : Nat} {a0 : Int32} {a1 : Option Nat} {out : Int32 × ZMem} (h : f_118 M o a0 a1 = some out) : zrn (d + 5) 118 [zrf (some o), .int a0, zrf a1] M (some (.int out.1), out.2) := by
  unfold f_118 at h
  by_cases hok : zok M 11 o = true
  · rw [if_pos hok] at h
    refine zrn_of (L := [(0, zrf (some o)), (1, .int a0), (2, zrf a1)]) (by simp [lv_args, zrf_cat, zcat_i, zcat_l, zcat_r]) ?_
    refine zo_iload_n (p' := 1) (zi_118 rfl) rfl rfl ?_
    by_cases hc1 : ¬ a0 = 0
    · rw [if_pos hc1] at h
      refine zo_ifT (p' := 21) (zi_118 rfl) rfl hc1 ?_
      refine zo_aload_n (p' := 22) (zi_118 rfl) rfl rfl ?_
      rcases a1 with _ | q2
      · have g29 := zcs_none h
        refine zo_nullT (p' := 32) (zi_118 rfl) rfl ?_
        refine zo_iconst (p' := 33) (v := 0) (zi_118 rfl) rfl rfl ?_
        have g30 := Option.some.inj g29
        subst g30
        exact zo_iret (zi_118 rfl) rfl ⟨rfl, rfl⟩
      · obtain ⟨hq3, g31⟩ := zcs_some h
        refine zo_nullF (p' := 25) (zi_118 rfl) rfl hq3 ?_
        refine zo_aload_n (p' := 26) (zi_118 rfl) rfl rfl ?_
        obtain ⟨x4, hx5, g32⟩ := zb_of g31
        refine zo_callVi (p' := 29) (t := 1) (as := []) (r := []) (zi_118 rfl) rfl zl_1_204 rfl rfl (Or.inl ⟨by decide, rfl⟩) (Nat.le_of_ble_eq_true rfl) (Nat.le_of_ble_eq_true rfl) (f_57_ok hx5) (k_57 _ hx5) ?_
        by_cases hc6 : x4 = 0
        · rw [if_pos hc6] at g32
          refine zo_ifT (p' := 34) (zi_118 rfl) rfl hc6 ?_
          refine zo_iload_n (p' := 35) (zi_118 rfl) rfl rfl ?_
          refine zo_iconst (p' := 36) (v := 1) (zi_118 rfl) rfl rfl ?_
          by_cases hc7 : ¬ a0 = 1
          · rw [if_pos hc7] at g32
            refine zo_icT (p' := 51) (zi_118 rfl) rfl hc7 ?_
            refine zo_aload_n (p' := 52) (zi_118 rfl) rfl rfl ?_
            refine zo_aload_n (p' := 53) (zi_118 rfl) rfl rfl ?_
            obtain ⟨r8, hx9, g33⟩ := zb_of g32
            refine zo_getR (p' := 56) (zi_118 rfl) rfl zl_1_28 hx9 ?_
            refine zo_aload_n (p' := 57) (zi_118 rfl) rfl rfl ?_
            obtain ⟨x10, M12, hx11, g34⟩ := zbd_of g33
            refine zo_callVi (p' := 60) (t := 11) (as := [zrf r8, zrf (some q2)]) (r := []) (zi_118 rfl) rfl zl_1_245 rfl rfl (Or.inl ⟨by decide, rfl⟩) (Nat.le_of_ble_eq_true rfl) (by rw [zml_90]; simp [lg_sl, zrf_cat, zcat_i, zcat_l, zcat_r]; done) (f_90_ok hx11) (k_90 _ hx11) ?_
            refine zgo_sub (L' := [(2, zrf ((some q2)))]) (⟨rfl, trivial⟩) ?_
            exact k_118_60 _ M12 (some q2) x10 _ g34
          · rw [if_neg hc7] at g32
            refine zo_icF (p' := 39) (zi_118 rfl) rfl rfl hc7 ?_
            refine zo_aload_n (p' := 40) (zi_118 rfl) rfl rfl ?_
            refine zo_aload_n (p' := 41) (zi_118 rfl) rfl rfl ?_
            obtain ⟨r13, hx14, g35⟩ := zb_of g32
            refine zo_getR (p' := 44) (zi_118 rfl) rfl zl_1_28 hx14 ?_
            refine zo_aload_n (p' := 45) (zi_118 rfl) rfl rfl ?_
            obtain ⟨x15, M17, hx16, g36⟩ := zbd_of g35
            refine zo_callVi (p' := 48) (t := 11) (as := [zrf r13, zrf (some q2)]) (r := []) (zi_118 rfl) rfl zl_1_208 rfl rfl (Or.inl ⟨by decide, rfl⟩) (Nat.le_of_ble_eq_true rfl) (by rw [zml_58]; simp [lg_sl, zrf_cat, zcat_i, zcat_l, zcat_r]; done) (f_58_ok hx16) (k_58 _ hx16) ?_
            refine zo_goto (p' := 60) (zi_118 rfl) rfl ?_
            refine zgo_sub (L' := [(2, zrf ((some q2)))]) (⟨rfl, trivial⟩) ?_
            exact k_118_60 _ M17 (some q2) x15 _ g36
        · rw [if_neg hc6] at g32
          refine zo_ifF (p' := 32) (zi_118 rfl) rfl rfl hc6 ?_
          refine zo_iconst (p' := 33) (v := 0) (zi_118 rfl) rfl rfl ?_
          have g37 := Option.some.inj g32
          subst g37
          exact zo_iret (zi_118 rfl) rfl ⟨rfl, rfl⟩
    · rw [if_neg hc1] at h
      refine zo_ifF (p' := 4) (zi_118 rfl) rfl rfl hc1 ?_
      refine zo_aload_n (p' := 5) (zi_118 rfl) rfl rfl ?_
      obtain ⟨r18, hx19, g38⟩ := zb_of h
      refine zo_getR (p' := 8) (zi_118 rfl) rfl zl_1_28 hx19 ?_
      refine zo_iconst (p' := 9) (v := 1) (zi_118 rfl) rfl rfl ?_
      refine zo_aload_n (p' := 10) (zi_118 rfl) rfl rfl ?_
      obtain ⟨r20, hx21, g39⟩ := zb_of g38
      refine zo_callVa (p' := 13) (t := 11) (as := []) (r := [.int 1, zrf r18]) (zi_118 rfl) rfl zl_1_135 rfl rfl (Or.inl ⟨by decide, rfl⟩) (by simp [zrf_cat, zcat_i, zcat_l, zcat_r]) (Nat.le_of_ble_eq_true rfl) (f_20_ok hx21) (k_20 _ hx21) ?_
      obtain ⟨q22, h0, g40⟩ := zb_of g39
      subst h0
      obtain ⟨x23, hx24, g41⟩ := zb_of g40
      refine zo_getI (p' := 16) (zi_118 rfl) rfl zl_1_150 hx24 ?_
      obtain ⟨q25, h0, g42⟩ := zb_of g41
      subst h0
      obtain ⟨M28, hx27, g43⟩ := zb_of g42
      refine zo_callVv (p' := 19) (t := 10) (as := [.int 1, .int x23]) (r := []) (zi_118 rfl) rfl zl_1_237 rfl rfl (Or.inl ⟨by decide, rfl⟩) (Nat.le_of_ble_eq_true rfl) (Nat.le_of_ble_eq_true rfl) (f_92_ok hx27) (k_92 _ hx27) ?_
      refine zo_iconst (p' := 20) (v := 0) (zi_118 rfl) rfl rfl ?_
      have g44 := Option.some.inj g43
      subst g44
      exact zo_iret (zi_118 rfl) rfl ⟨rfl, rfl⟩
  · rw [if_neg hok] at h; cases h
/-- SlateHalves$Yard.countPresent()I -/
def f_119_27 (r4 : ZMem → Nat → Int32 → Int32 → Option (Int32)) (M : ZMem) (o : Nat) (b1 : Int32) (b2 : Int32) : Option (Int32) := r4 M o b1 ((b2 + 1))
def f_119_4 : Nat → ZMem → Nat → Int32 → Int32 → Option (Int32)
  | 0, _, _, _, _ => none
  | z + 1, M, o, b1, b2 => zb (zgi M 10 1 o) fun x1 => if x1 ≤ b2 then (some b1) else (zb (zgr M 10 0 o) fun r4 => zb r4 fun q6 => zb (zlaR M q6 b2) fun r7 => zb r7 fun q9 => zb (f_57 M q9) fun x10 => if ¬ x10 = 0 then (f_119_27 (fun M a0 a1 a2 => f_119_4 z M a0 a1 a2) M o b1 b2) else (f_119_27 (fun M a0 a1 a2 => f_119_4 z M a0 a1 a2) M o ((b1 + 1)) b2))
set_option maxRecDepth 20000 in
theorem k_119_27 (d : Nat) (r4 : ZMem → Nat → Int32 → Int32 → Option (Int32)) (h4 : ∀ (M : ZMem) (a0 : Nat) (a1 : Int32) (a2 : Int32) (out : Int32), r4 M a0 a1 a2 = some out → zgo none (d + 1) 119 4 [(0, zrf (some a0)), (1, .int a1), (2, .int a2)] [] M (some (.int out), M)) : ∀ (M : ZMem) (o : Nat) (b1 : Int32) (b2 : Int32) (out : Int32), f_119_27 r4 M o b1 b2 = some out → zgo none (d + 1) 119 27 [(0, zrf (some o)), (1, .int b1), (2, .int b2)] [] M (some (.int out), M) := by
  intro M o b1 b2 out h
  unfold f_119_27 at h
  refine zo_iinc (p' := 30) (v := (b2 + 1)) (L' := [(0, zrf (some o)), (1, .int b1), (2, .int ((b2 + 1)))]) (zi_119 rfl) rfl zm_119_2 rfl rfl ⟨Or.inr ⟨by decide, rfl, fun q => absurd q (by decide)⟩, ⟨Or.inr ⟨by decide, rfl, fun _ => rfl⟩, ⟨Or.inl ⟨rfl, rfl⟩, trivial⟩⟩⟩ ?_
  refine zo_goto (p' := 4) (zi_119 rfl) rfl ?_
  refine zgo_sub (L' := [(0, zrf (some o)), (1, .int b1), (2, .int (((b2 + 1))))]) (⟨rfl, rfl, rfl, trivial⟩) ?_
  exact h4 M o b1 ((b2 + 1)) _ h
set_option maxRecDepth 20000 in
theorem k_119_4 (d : Nat) : ∀ (z : Nat) (M : ZMem) (o : Nat) (b1 : Int32) (b2 : Int32) (out : Int32), f_119_4 z M o b1 b2 = some out → zgo none (d + 1) 119 4 [(0, zrf (some o)), (1, .int b1), (2, .int b2)] [] M (some (.int out), M) := by
  intro z
  induction z with
  | zero => intro M o b1 b2 out h; cases h
  | succ z ih =>
    intro M o b1 b2 out h
    rw [f_119_4] at h
    refine zo_iload_n (p' := 5) (zi_119 rfl) rfl rfl ?_
    refine zo_aload_n (p' := 6) (zi_119 rfl) rfl rfl ?_
    obtain ⟨x1, hx2, g13⟩ := zb_of h
    refine zo_getI (p' := 9) (zi_119 rfl) rfl zl_3_17 hx2 ?_
    by_cases hc3 : x1 ≤ b2
    · rw [if_pos hc3] at g13
      refine zo_icT (p' := 33) (zi_119 rfl) rfl hc3 ?_
      refine zo_iload_n (p' := 34) (zi_119 rfl) rfl rfl ?_
      have g14 := Option.some.inj g13
      subst g14
      exact zo_iret (zi_119 rfl) rfl ⟨rfl, rfl⟩
    · rw [if_neg hc3] at g13
      refine zo_icF (p' := 12) (zi_119 rfl) rfl rfl hc3 ?_
      refine zo_aload_n (p' := 13) (zi_119 rfl) rfl rfl ?_
      obtain ⟨r4, hx5, g15⟩ := zb_of g13
      refine zo_getR (p' := 16) (zi_119 rfl) rfl zl_3_11 hx5 ?_
      refine zo_iload_n (p' := 17) (zi_119 rfl) rfl rfl ?_
      obtain ⟨q6, h0, g16⟩ := zb_of g15
      subst h0
      obtain ⟨r7, hx8, g17⟩ := zb_of g16
      refine zo_aald (p' := 18) (zi_119 rfl) rfl hx8 ?_
      obtain ⟨q9, h0, g18⟩ := zb_of g17
      subst h0
      obtain ⟨x10, hx11, g19⟩ := zb_of g18
      refine zo_callVi (p' := 21) (t := 1) (as := []) (r := []) (zi_119 rfl) rfl zl_3_37 rfl rfl (Or.inl ⟨by decide, rfl⟩) (Nat.le_of_ble_eq_true rfl) (Nat.le_of_ble_eq_true rfl) (f_57_ok hx11) (k_57 _ hx11) ?_
      by_cases hc12 : ¬ x10 = 0
      · rw [if_pos hc12] at g19
        refine zo_ifT (p' := 27) (zi_119 rfl) rfl hc12 ?_
        refine zgo_sub (L' := [(0, zrf (some o)), (1, .int b1), (2, .int b2)]) (⟨rfl, rfl, rfl, trivial⟩) ?_
        exact k_119_27 _ _ (fun M a0 a1 a2 out h => ih M a0 a1 a2 out h) M o b1 b2 _ g19
      · rw [if_neg hc12] at g19
        refine zo_ifF (p' := 24) (zi_119 rfl) rfl rfl hc12 ?_
        refine zo_iinc (p' := 27) (v := (b1 + 1)) (L' := [(0, zrf (some o)), (1, .int ((b1 + 1))), (2, .int b2)]) (zi_119 rfl) rfl zm_119_1 rfl rfl ⟨Or.inr ⟨by decide, rfl, fun _ => zrf_cat _⟩, ⟨Or.inl ⟨rfl, rfl⟩, ⟨Or.inr ⟨by decide, rfl, fun q => absurd q (by decide)⟩, trivial⟩⟩⟩ ?_
        refine zgo_sub (L' := [(0, zrf (some o)), (1, .int (((b1 + 1)))), (2, .int b2)]) (⟨rfl, rfl, rfl, trivial⟩) ?_
        exact k_119_27 _ _ (fun M a0 a1 a2 out h => ih M a0 a1 a2 out h) M o ((b1 + 1)) b2 _ g19
def f_119 (M : ZMem) (o : Nat) : Option (Int32) := if zok M 10 o = true then (f_119_4 zF M o 0 0) else none
theorem f_119_ok {M : ZMem} {o : Nat} {out : Int32} (h : f_119 M o = some out) : zok M 10 o = true := by
  unfold f_119 at h
  by_cases hok : zok M 10 o = true
  · exact hok
  · rw [if_neg hok] at h; cases h
set_option maxRecDepth 20000 in
theorem k_119 (d : Nat) {M : ZMem} {o : Nat} {out : Int32} (h : f_119 M o = some out) : zrn (d + 1) 119 [zrf (some o)] M (some (.int out), M) := by
  unfold f_119 at h
  by_cases hok : zok M 10 o = true
  · rw [if_pos hok] at h
    refine zrn_of (L := [(0, zrf (some o))]) rfl ?_
    refine zo_iconst (p' := 1) (v := 0) (zi_119 rfl) rfl rfl ?_
    refine zo_istore_n (p' := 2) (L' := [(0, zrf (some o)), (1, .int 0)]) (zi_119 rfl) rfl zm_119_1 ⟨Or.inr ⟨by decide, rfl, fun _ => zrf_cat _⟩, ⟨Or.inl ⟨rfl, rfl⟩, trivial⟩⟩ ?_
    refine zo_iconst (p' := 3) (v := 0) (zi_119 rfl) rfl rfl ?_
    refine zo_istore_n (p' := 4) (L' := [(0, zrf (some o)), (1, .int 0), (2, .int 0)]) (zi_119 rfl) rfl zm_119_2 ⟨Or.inr ⟨by decide, rfl, fun q => absurd q (by decide)⟩, ⟨Or.inr ⟨by decide, rfl, fun _ => rfl⟩, ⟨Or.inl ⟨rfl, rfl⟩, trivial⟩⟩⟩ ?_
    refine zgo_sub (L' := [(0, zrf (some o)), (1, .int 0), (2, .int 0)]) (⟨rfl, rfl, rfl, trivial⟩) ?_
    exact k_119_4 _ zF M o 0 0 _ h
  · rw [if_neg hok] at h; cases h
/-- SlateHalves.ends(I)I -/
def f_117_29 : Nat → ZMem → Nat → Int32 → Int32 → Int32 → Option (Int32 × ZMem)
  | 0, _, _, _, _, _ => none
  | z + 1, M, o, b1, b2, b3 => zb (zgr M 11 0 o) fun r23 => zb r23 fun q25 => zb (zgr M 7 2 q25) fun r26 => zb r26 fun q28 => zb (zgi M 6 4 q28) fun x29 => if x29 ≤ b3 then (if ¬ b1 = 0 then (zb (zgr M 11 3 o) fun r33 => zb r33 fun q35 => zb (f_119 M q35) fun x36 => some (x36, M)) else (some (b2, M))) else (zb (zgr M 11 0 o) fun r38 => zb r38 fun q40 => zb (zgr M 7 2 q40) fun r41 => zb r41 fun q43 => zb (zgr M 6 1 q43) fun r44 => zb r44 fun q46 => zb (zai M q46 b3) fun x47 => zb (zgr M 11 3 o) fun r49 => zb (zgr M 11 0 o) fun r51 => zb r51 fun q53 => zb (zgr M 7 2 q53) fun r54 => zb r54 fun q56 => zb (zgr M 6 2 q56) fun r57 => zb r57 fun q59 => zb (zai M q59 b3) fun x60 => zb r49 fun q62 => zb (f_19 M q62 x60) fun r63 => zbd (f_118 M o x47 r63) fun x65 M67 => f_117_29 z M67 o b1 ((b2 + x65)) ((b3 + 1)))
set_option maxRecDepth 20000 in
theorem k_117_29 (d : Nat) : ∀ (z : Nat) (M : ZMem) (o : Nat) (b1 : Int32) (b2 : Int32) (b3 : Int32) (out : Int32 × ZMem), f_117_29 z M o b1 b2 b3 = some out → zgo none (d + 6) 117 29 [(0, zrf (some o)), (1, .int b1), (2, .int b2), (3, .int b3)] [] M (some (.int out.1), out.2) := by
  intro z
  induction z with
  | zero => intro M o b1 b2 b3 out h; cases h
  | succ z ih =>
    intro M o b1 b2 b3 out h
    rw [f_117_29] at h
    refine zo_iload_n (p' := 30) (zi_117 rfl) rfl rfl ?_
    refine zo_aload_n (p' := 31) (zi_117 rfl) rfl rfl ?_
    obtain ⟨r23, hx24, g68⟩ := zb_of h
    refine zo_getR (p' := 34) (zi_117 rfl) rfl zl_1_14 hx24 ?_
    obtain ⟨q25, h0, g69⟩ := zb_of g68
    subst h0
    obtain ⟨r26, hx27, g70⟩ := zb_of g69
    refine zo_getR (p' := 37) (zi_117 rfl) rfl zl_1_327 hx27 ?_
    obtain ⟨q28, h0, g71⟩ := zb_of g70
    subst h0
    obtain ⟨x29, hx30, g72⟩ := zb_of g71
    refine zo_getI (p' := 40) (zi_117 rfl) rfl zl_1_287 hx30 ?_
    by_cases hc31 : x29 ≤ b3
    · rw [if_pos hc31] at g72
      refine zo_icT (p' := 87) (zi_117 rfl) rfl hc31 ?_
      refine zo_iload_n (p' := 88) (zi_117 rfl) rfl rfl ?_
      by_cases hc32 : ¬ b1 = 0
      · rw [if_pos hc32] at g72
        refine zo_ifT (p' := 95) (zi_117 rfl) rfl hc32 ?_
        refine zo_aload_n (p' := 96) (zi_117 rfl) rfl rfl ?_
        obtain ⟨r33, hx34, g73⟩ := zb_of g72
        refine zo_getR (p' := 99) (zi_117 rfl) rfl zl_1_28 hx34 ?_
        obtain ⟨q35, h0, g74⟩ := zb_of g73
        subst h0
        obtain ⟨x36, hx37, g75⟩ := zb_of g74
        refine zo_callVi (p' := 102) (t := 10) (as := []) (r := []) (zi_117 rfl) rfl zl_1_337 rfl rfl (Or.inl ⟨by decide, rfl⟩) (Nat.le_of_ble_eq_true rfl) (Nat.le_of_ble_eq_true rfl) (f_119_ok hx37) (k_119 _ hx37) ?_
        have g76 := Option.some.inj g75
        subst g76
        exact zo_iret (zi_117 rfl) rfl ⟨rfl, rfl⟩
      · rw [if_neg hc32] at g72
        refine zo_ifF (p' := 91) (zi_117 rfl) rfl rfl hc32 ?_
        refine zo_iload_n (p' := 92) (zi_117 rfl) rfl rfl ?_
        refine zo_goto (p' := 102) (zi_117 rfl) rfl ?_
        have g77 := Option.some.inj g72
        subst g77
        exact zo_iret (zi_117 rfl) rfl ⟨rfl, rfl⟩
    · rw [if_neg hc31] at g72
      refine zo_icF (p' := 43) (zi_117 rfl) rfl rfl hc31 ?_
      refine zo_iload_n (p' := 44) (zi_117 rfl) rfl rfl ?_
      refine zo_aload_n (p' := 45) (zi_117 rfl) rfl rfl ?_
      refine zo_aload_n (p' := 46) (zi_117 rfl) rfl rfl ?_
      obtain ⟨r38, hx39, g78⟩ := zb_of g72
      refine zo_getR (p' := 49) (zi_117 rfl) rfl zl_1_14 hx39 ?_
      obtain ⟨q40, h0, g79⟩ := zb_of g78
      subst h0
      obtain ⟨r41, hx42, g80⟩ := zb_of g79
      refine zo_getR (p' := 52) (zi_117 rfl) rfl zl_1_327 hx42 ?_
      obtain ⟨q43, h0, g81⟩ := zb_of g80
      subst h0
      obtain ⟨r44, hx45, g82⟩ := zb_of g81
      refine zo_getR (p' := 55) (zi_117 rfl) rfl zl_1_309 hx45 ?_
      refine zo_iload_n (p' := 56) (zi_117 rfl) rfl rfl ?_
      obtain ⟨q46, h0, g83⟩ := zb_of g82
      subst h0
      obtain ⟨x47, hx48, g84⟩ := zb_of g83
      refine zo_iald (p' := 57) (zi_117 rfl) rfl hx48 ?_
      refine zo_aload_n (p' := 58) (zi_117 rfl) rfl rfl ?_
      obtain ⟨r49, hx50, g85⟩ := zb_of g84
      refine zo_getR (p' := 61) (zi_117 rfl) rfl zl_1_28 hx50 ?_
      refine zo_aload_n (p' := 62) (zi_117 rfl) rfl rfl ?_
      obtain ⟨r51, hx52, g86⟩ := zb_of g85
      refine zo_getR (p' := 65) (zi_117 rfl) rfl zl_1_14 hx52 ?_
      obtain ⟨q53, h0, g87⟩ := zb_of g86
      subst h0
      obtain ⟨r54, hx55, g88⟩ := zb_of g87
      refine zo_getR (p' := 68) (zi_117 rfl) rfl zl_1_327 hx55 ?_
      obtain ⟨q56, h0, g89⟩ := zb_of g88
      subst h0
      obtain ⟨r57, hx58, g90⟩ := zb_of g89
      refine zo_getR (p' := 71) (zi_117 rfl) rfl zl_1_306 hx58 ?_
      refine zo_iload_n (p' := 72) (zi_117 rfl) rfl rfl ?_
      obtain ⟨q59, h0, g91⟩ := zb_of g90
      subst h0
      obtain ⟨x60, hx61, g92⟩ := zb_of g91
      refine zo_iald (p' := 73) (zi_117 rfl) rfl hx61 ?_
      obtain ⟨q62, h0, g93⟩ := zb_of g92
      subst h0
      obtain ⟨r63, hx64, g94⟩ := zb_of g93
      refine zo_callVa (p' := 76) (t := 10) (as := [.int x60]) (r := [.int x47, zrf (some o), .int b2]) (zi_117 rfl) rfl zl_1_116 rfl rfl (Or.inl ⟨by decide, rfl⟩) (Nat.le_of_ble_eq_true rfl) (Nat.le_of_ble_eq_true rfl) (f_19_ok hx64) (k_19 _ hx64) ?_
      obtain ⟨x65, M67, hx66, g95⟩ := zbd_of g94
      refine zo_callVi (p' := 79) (t := 11) (as := [.int x47, zrf r63]) (r := [.int b2]) (zi_117 rfl) rfl zl_1_333 rfl rfl (Or.inl ⟨by decide, rfl⟩) (Nat.le_of_ble_eq_true rfl) (by rw [zml_118]; simp [lg_sl, zrf_cat, zcat_i, zcat_l, zcat_r]; done) (f_118_ok hx66) (k_118 _ hx66) ?_
      refine zo_iadd (p' := 80) (zi_117 rfl) rfl ?_
      refine zo_istore_n (p' := 81) (L' := [(0, zrf (some o)), (1, .int b1), (2, .int ((b2 + x65))), (3, .int b3)]) (zi_117 rfl) rfl zm_117_2 ⟨Or.inr ⟨by decide, rfl, fun q => absurd q (by decide)⟩, ⟨Or.inr ⟨by decide, rfl, fun _ => rfl⟩, ⟨Or.inl ⟨rfl, rfl⟩, ⟨Or.inr ⟨by decide, rfl, fun q => absurd q (by decide)⟩, trivial⟩⟩⟩⟩ ?_
      refine zo_iinc (p' := 84) (v := (b3 + 1)) (L' := [(0, zrf (some o)), (1, .int b1), (2, .int ((b2 + x65))), (3, .int ((b3 + 1)))]) (zi_117 rfl) rfl zm_117_3 rfl rfl ⟨Or.inr ⟨by decide, rfl, fun q => absurd q (by decide)⟩, ⟨Or.inr ⟨by decide, rfl, fun q => absurd q (by decide)⟩, ⟨Or.inr ⟨by decide, rfl, fun _ => rfl⟩, ⟨Or.inl ⟨rfl, rfl⟩, trivial⟩⟩⟩⟩ ?_
      refine zo_goto (p' := 29) (zi_117 rfl) rfl ?_
      refine zgo_sub (L' := [(0, zrf (some o)), (1, .int b1), (2, .int (((b2 + x65)))), (3, .int (((b3 + 1))))]) (⟨rfl, rfl, rfl, rfl, trivial⟩) ?_
      exact ih M67 o b1 ((b2 + x65)) ((b3 + 1)) _ g95
def f_117 (M : ZMem) (o : Nat) (a0 : Int32) : Option (Int32 × ZMem) := if zok M 11 o = true then (zb (f_14 M a0 0 1) fun x1 => if ¬ x1 = 0 then (zb (zgr M 11 3 o) fun r4 => zb (zgr M 11 0 o) fun r6 => zb r6 fun q8 => zb (zgr M 7 0 q8) fun r9 => zb r4 fun q11 => zb (f_95 M q11 r9) fun M14 => f_117_29 zF M14 o a0 0 0) else (some ((-1), M))) else none
theorem f_117_ok {M : ZMem} {o : Nat} {a0 : Int32} {out : Int32 × ZMem} (h : f_117 M o a0 = some out) : zok M 11 o = true := by
  unfold f_117 at h
  by_cases hok : zok M 11 o = true
  · exact hok
  · rw [if_neg hok] at h; cases h
set_option maxRecDepth 20000 in
theorem k_117 (d : Nat) {M : ZMem} {o : Nat} {a0 : Int32} {out : Int32 × ZMem} (h : f_117 M o a0 = some out) : zrn (d + 6) 117 [zrf (some o), .int a0] M (some (.int out.1), out.2) := by
  unfold f_117 at h
  by_cases hok : zok M 11 o = true
  · rw [if_pos hok] at h
    refine zrn_of (L := [(0, zrf (some o)), (1, .int a0)]) rfl ?_
    refine zo_iload_n (p' := 1) (zi_117 rfl) rfl rfl ?_
    refine zo_iconst (p' := 2) (v := 0) (zi_117 rfl) rfl rfl ?_
    refine zo_iconst (p' := 3) (v := 1) (zi_117 rfl) rfl rfl ?_
    obtain ⟨x1, hx2, g15⟩ := zb_of h
    refine zo_callSi (p' := 6) (as := [.int a0, .int 0, .int 1]) (r := []) (zi_117 rfl) rfl (Or.inl zl_1_96) rfl rfl (Nat.le_of_ble_eq_true rfl) (Nat.le_of_ble_eq_true rfl) (k_14 _ hx2) ?_
    by_cases hc3 : ¬ x1 = 0
    · rw [if_pos hc3] at g15
      refine zo_ifT (p' := 11) (zi_117 rfl) rfl hc3 ?_
      refine zo_aload_n (p' := 12) (zi_117 rfl) rfl rfl ?_
      obtain ⟨r4, hx5, g16⟩ := zb_of g15
      refine zo_getR (p' := 15) (zi_117 rfl) rfl zl_1_28 hx5 ?_
      refine zo_aload_n (p' := 16) (zi_117 rfl) rfl rfl ?_
      obtain ⟨r6, hx7, g17⟩ := zb_of g16
      refine zo_getR (p' := 19) (zi_117 rfl) rfl zl_1_14 hx7 ?_
      obtain ⟨q8, h0, g18⟩ := zb_of g17
      subst h0
      obtain ⟨r9, hx10, g19⟩ := zb_of g18
      refine zo_getR (p' := 22) (zi_117 rfl) rfl zl_1_100 hx10 ?_
      obtain ⟨q11, h0, g20⟩ := zb_of g19
      subst h0
      obtain ⟨M14, hx13, g21⟩ := zb_of g20
      refine zo_callVv (p' := 25) (t := 10) (as := [zrf r9]) (r := []) (zi_117 rfl) rfl zl_1_330 rfl rfl (Or.inl ⟨by decide, rfl⟩) (Nat.le_of_ble_eq_true rfl) (by rw [zml_95]; simp [lg_sl, zrf_cat, zcat_i, zcat_l, zcat_r]; done) (f_95_ok hx13) (k_95 _ hx13) ?_
      refine zo_iconst (p' := 26) (v := 0) (zi_117 rfl) rfl rfl ?_
      refine zo_istore_n (p' := 27) (L' := [(0, zrf (some o)), (1, .int a0), (2, .int 0)]) (zi_117 rfl) rfl zm_117_2 ⟨Or.inr ⟨by decide, rfl, fun q => absurd q (by decide)⟩, ⟨Or.inr ⟨by decide, rfl, fun _ => rfl⟩, ⟨Or.inl ⟨rfl, rfl⟩, trivial⟩⟩⟩ ?_
      refine zo_iconst (p' := 28) (v := 0) (zi_117 rfl) rfl rfl ?_
      refine zo_istore_n (p' := 29) (L' := [(0, zrf (some o)), (1, .int a0), (2, .int 0), (3, .int 0)]) (zi_117 rfl) rfl zm_117_3 ⟨Or.inr ⟨by decide, rfl, fun q => absurd q (by decide)⟩, ⟨Or.inr ⟨by decide, rfl, fun q => absurd q (by decide)⟩, ⟨Or.inr ⟨by decide, rfl, fun _ => rfl⟩, ⟨Or.inl ⟨rfl, rfl⟩, trivial⟩⟩⟩⟩ ?_
      refine zgo_sub (L' := [(0, zrf (some o)), (1, .int a0), (2, .int 0), (3, .int 0)]) (⟨rfl, rfl, rfl, rfl, trivial⟩) ?_
      exact k_117_29 _ zF M14 o a0 0 0 _ g21
    · rw [if_neg hc3] at g15
      refine zo_ifF (p' := 9) (zi_117 rfl) rfl rfl hc3 ?_
      refine zo_iconst (p' := 10) (v := (-1)) (zi_117 rfl) rfl rfl ?_
      have g22 := Option.some.inj g15
      subst g22
      exact zo_iret (zi_117 rfl) rfl ⟨rfl, rfl⟩
  · rw [if_neg hok] at h; cases h
/-- SlateHalves.book(II)I -/
def f_120 (M : ZMem) (o : Nat) (a0 : Int32) (a1 : Int32) : Option (Int32 × ZMem) := if zok M 11 o = true then (if ¬ a0 = (-1) then (zb (zgr M 11 0 o) fun r2 => zb r2 fun q4 => zb (zgr M 7 0 q4) fun r5 => zb r5 fun q7 => zb (f_19 M q7 a0) fun r8 => zcs r8 (some ((-1), M)) (fun q10 => zb (f_14 M a1 0 60) fun x12 => if ¬ x12 = 0 then (zb (zgr M 11 0 o) fun r15 => zb r15 fun q17 => zb (zgr M 7 3 q17) fun r18 => zb r18 fun q20 => zbd (f_108 M q20 a0 a1 0) fun x21 M23 => some (x21, M23)) else (some ((-2), M)))) else (zb (zgr M 11 0 o) fun r24 => zb r24 fun q26 => zb (zgr M 7 3 q26) fun r27 => zb r27 fun q29 => zb (zpf M 6 4 q29 (.int 0) false) fun M30 => some (0, M30))) else none
theorem f_120_ok {M : ZMem} {o : Nat} {a0 : Int32} {a1 : Int32} {out : Int32 × ZMem} (h : f_120 M o a0 a1 = some out) : zok M 11 o = true := by
  unfold f_120 at h
  by_cases hok : zok M 11 o = true
  · exact hok
  · rw [if_neg hok] at h; cases h
set_option maxRecDepth 20000 in
theorem k_120 (d : Nat) {M : ZMem} {o : Nat} {a0 : Int32} {a1 : Int32} {out : Int32 × ZMem} (h : f_120 M o a0 a1 = some out) : zrn (d + 2) 120 [zrf (some o), .int a0, .int a1] M (some (.int out.1), out.2) := by
  unfold f_120 at h
  by_cases hok : zok M 11 o = true
  · rw [if_pos hok] at h
    refine zrn_of (L := [(0, zrf (some o)), (1, .int a0), (2, .int a1)]) rfl ?_
    refine zo_iload_n (p' := 1) (zi_120 rfl) rfl rfl ?_
    refine zo_iconst (p' := 2) (v := (-1)) (zi_120 rfl) rfl rfl ?_
    by_cases hc1 : ¬ a0 = (-1)
    · rw [if_pos hc1] at h
      refine zo_icT (p' := 18) (zi_120 rfl) rfl hc1 ?_
      refine zo_aload_n (p' := 19) (zi_120 rfl) rfl rfl ?_
      obtain ⟨r2, hx3, g32⟩ := zb_of h
      refine zo_getR (p' := 22) (zi_120 rfl) rfl zl_1_14 hx3 ?_
      obtain ⟨q4, h0, g33⟩ := zb_of g32
      subst h0
      obtain ⟨r5, hx6, g34⟩ := zb_of g33
      refine zo_getR (p' := 25) (zi_120 rfl) rfl zl_1_100 hx6 ?_
      refine zo_iload_n (p' := 26) (zi_120 rfl) rfl rfl ?_
      obtain ⟨q7, h0, g35⟩ := zb_of g34
      subst h0
      obtain ⟨r8, hx9, g36⟩ := zb_of g35
      refine zo_callVa (p' := 29) (t := 10) (as := [.int a0]) (r := []) (zi_120 rfl) rfl zl_1_116 rfl rfl (Or.inl ⟨by decide, rfl⟩) (Nat.le_of_ble_eq_true rfl) (Nat.le_of_ble_eq_true rfl) (f_19_ok hx9) (k_19 _ hx9) ?_
      rcases r8 with _ | q10
      · have g37 := zcs_none g36
        refine zo_nonnullF (p' := 32) (zi_120 rfl) rfl ?_
        refine zo_iconst (p' := 33) (v := (-1)) (zi_120 rfl) rfl rfl ?_
        have g38 := Option.some.inj g37
        subst g38
        exact zo_iret (zi_120 rfl) rfl ⟨rfl, rfl⟩
      · obtain ⟨hq11, g39⟩ := zcs_some g36
        refine zo_nonnullT (p' := 34) (zi_120 rfl) rfl hq11 ?_
        refine zo_iload_n (p' := 35) (zi_120 rfl) rfl rfl ?_
        refine zo_iconst (p' := 36) (v := 0) (zi_120 rfl) rfl rfl ?_
        refine zo_bipush (p' := 38) (v := 60) (zi_120 rfl) rfl rfl ?_
        obtain ⟨x12, hx13, g40⟩ := zb_of g39
        refine zo_callSi (p' := 41) (as := [.int a1, .int 0, .int 60]) (r := []) (zi_120 rfl) rfl (Or.inl zl_1_96) rfl rfl (Nat.le_of_ble_eq_true rfl) (Nat.le_of_ble_eq_true rfl) (k_14 _ hx13) ?_
        by_cases hc14 : ¬ x12 = 0
        · rw [if_pos hc14] at g40
          refine zo_ifT (p' := 47) (zi_120 rfl) rfl hc14 ?_
          refine zo_aload_n (p' := 48) (zi_120 rfl) rfl rfl ?_
          obtain ⟨r15, hx16, g41⟩ := zb_of g40
          refine zo_getR (p' := 51) (zi_120 rfl) rfl zl_1_14 hx16 ?_
          obtain ⟨q17, h0, g42⟩ := zb_of g41
          subst h0
          obtain ⟨r18, hx19, g43⟩ := zb_of g42
          refine zo_getR (p' := 54) (zi_120 rfl) rfl zl_1_340 hx19 ?_
          refine zo_iload_n (p' := 55) (zi_120 rfl) rfl rfl ?_
          refine zo_iload_n (p' := 56) (zi_120 rfl) rfl rfl ?_
          refine zo_iconst (p' := 57) (v := 0) (zi_120 rfl) rfl rfl ?_
          obtain ⟨q20, h0, g44⟩ := zb_of g43
          subst h0
          obtain ⟨x21, M23, hx22, g45⟩ := zbd_of g44
          refine zo_callVi (p' := 60) (t := 6) (as := [.int a0, .int a1, .int 0]) (r := []) (zi_120 rfl) rfl zl_1_292 rfl rfl (Or.inl ⟨by decide, rfl⟩) (Nat.le_of_ble_eq_true rfl) (Nat.le_of_ble_eq_true rfl) (f_108_ok hx22) (k_108 _ hx22) ?_
          have g46 := Option.some.inj g45
          subst g46
          exact zo_iret (zi_120 rfl) rfl ⟨rfl, rfl⟩
        · rw [if_neg hc14] at g40
          refine zo_ifF (p' := 44) (zi_120 rfl) rfl rfl hc14 ?_
          refine zo_bipush (p' := 46) (v := (-2)) (zi_120 rfl) rfl rfl ?_
          have g47 := Option.some.inj g40
          subst g47
          exact zo_iret (zi_120 rfl) rfl ⟨rfl, rfl⟩
    · rw [if_neg hc1] at h
      refine zo_icF (p' := 5) (zi_120 rfl) rfl rfl hc1 ?_
      refine zo_aload_n (p' := 6) (zi_120 rfl) rfl rfl ?_
      obtain ⟨r24, hx25, g48⟩ := zb_of h
      refine zo_getR (p' := 9) (zi_120 rfl) rfl zl_1_14 hx25 ?_
      obtain ⟨q26, h0, g49⟩ := zb_of g48
      subst h0
      obtain ⟨r27, hx28, g50⟩ := zb_of g49
      refine zo_getR (p' := 12) (zi_120 rfl) rfl zl_1_340 hx28 ?_
      refine zo_iconst (p' := 13) (v := 0) (zi_120 rfl) rfl rfl ?_
      obtain ⟨q29, h0, g51⟩ := zb_of g50
      subst h0
      obtain ⟨M30, hx31, g52⟩ := zb_of g51
      refine zo_putI (p' := 16) (zi_120 rfl) rfl zl_1_287 (zpb_120 _) hx31 ?_
      refine zo_iconst (p' := 17) (v := 0) (zi_120 rfl) rfl rfl ?_
      have g53 := Option.some.inj g52
      subst g53
      exact zo_iret (zi_120 rfl) rfl ⟨rfl, rfl⟩
  · rw [if_neg hok] at h; cases h
/-- SlateHalves.looked()I -/
def f_121_2 : Nat → ZMem → Nat → Int32 → Option (Int32)
  | 0, _, _, _ => none
  | z + 1, M, o, b1 => zb (zgr M 11 0 o) fun r1 => zb r1 fun q3 => zb (zgr M 7 3 q3) fun r4 => zb r4 fun q6 => zb (zgi M 6 4 q6) fun x7 => if x7 ≤ b1 then (some (-5)) else (zb (zgr M 11 0 o) fun r10 => zb r10 fun q12 => zb (zgr M 7 0 q12) fun r13 => zb (zgr M 11 0 o) fun r15 => zb r15 fun q17 => zb (zgr M 7 3 q17) fun r18 => zb r18 fun q20 => zb (zgr M 6 1 q20) fun r21 => zb r21 fun q23 => zb (zai M q23 b1) fun x24 => zb r13 fun q26 => zb (f_19 M q26 x24) fun r27 => zcs r27 (some b1) (fun q29 => zb (zgi M 1 3 q29) fun x31 => zb (zgr M 11 0 o) fun r33 => zb r33 fun q35 => zb (zgr M 7 3 q35) fun r36 => zb r36 fun q38 => zb (zgr M 6 2 q38) fun r39 => zb r39 fun q41 => zb (zai M q41 b1) fun x42 => if x31 = x42 then (f_121_2 z M o ((b1 + 1))) else (some b1)))
set_option maxRecDepth 20000 in
theorem k_121_2 (d : Nat) : ∀ (z : Nat) (M : ZMem) (o : Nat) (b1 : Int32) (out : Int32), f_121_2 z M o b1 = some out → zgo none (d + 2) 121 2 [(0, zrf (some o)), (1, .int b1)] [] M (some (.int out), M) := by
  intro z
  induction z with
  | zero => intro M o b1 out h; cases h
  | succ z ih =>
    intro M o b1 out h
    rw [f_121_2] at h
    refine zo_iload_n (p' := 3) (zi_121 rfl) rfl rfl ?_
    refine zo_aload_n (p' := 4) (zi_121 rfl) rfl rfl ?_
    obtain ⟨r1, hx2, g45⟩ := zb_of h
    refine zo_getR (p' := 7) (zi_121 rfl) rfl zl_1_14 hx2 ?_
    obtain ⟨q3, h0, g46⟩ := zb_of g45
    subst h0
    obtain ⟨r4, hx5, g47⟩ := zb_of g46
    refine zo_getR (p' := 10) (zi_121 rfl) rfl zl_1_340 hx5 ?_
    obtain ⟨q6, h0, g48⟩ := zb_of g47
    subst h0
    obtain ⟨x7, hx8, g49⟩ := zb_of g48
    refine zo_getI (p' := 13) (zi_121 rfl) rfl zl_1_287 hx8 ?_
    by_cases hc9 : x7 ≤ b1
    · rw [if_pos hc9] at g49
      refine zo_icT (p' := 70) (zi_121 rfl) rfl hc9 ?_
      refine zo_bipush (p' := 72) (v := (-5)) (zi_121 rfl) rfl rfl ?_
      have g50 := Option.some.inj g49
      subst g50
      exact zo_iret (zi_121 rfl) rfl ⟨rfl, rfl⟩
    · rw [if_neg hc9] at g49
      refine zo_icF (p' := 16) (zi_121 rfl) rfl rfl hc9 ?_
      refine zo_aload_n (p' := 17) (zi_121 rfl) rfl rfl ?_
      obtain ⟨r10, hx11, g51⟩ := zb_of g49
      refine zo_getR (p' := 20) (zi_121 rfl) rfl zl_1_14 hx11 ?_
      obtain ⟨q12, h0, g52⟩ := zb_of g51
      subst h0
      obtain ⟨r13, hx14, g53⟩ := zb_of g52
      refine zo_getR (p' := 23) (zi_121 rfl) rfl zl_1_100 hx14 ?_
      refine zo_aload_n (p' := 24) (zi_121 rfl) rfl rfl ?_
      obtain ⟨r15, hx16, g54⟩ := zb_of g53
      refine zo_getR (p' := 27) (zi_121 rfl) rfl zl_1_14 hx16 ?_
      obtain ⟨q17, h0, g55⟩ := zb_of g54
      subst h0
      obtain ⟨r18, hx19, g56⟩ := zb_of g55
      refine zo_getR (p' := 30) (zi_121 rfl) rfl zl_1_340 hx19 ?_
      obtain ⟨q20, h0, g57⟩ := zb_of g56
      subst h0
      obtain ⟨r21, hx22, g58⟩ := zb_of g57
      refine zo_getR (p' := 33) (zi_121 rfl) rfl zl_1_309 hx22 ?_
      refine zo_iload_n (p' := 34) (zi_121 rfl) rfl rfl ?_
      obtain ⟨q23, h0, g59⟩ := zb_of g58
      subst h0
      obtain ⟨x24, hx25, g60⟩ := zb_of g59
      refine zo_iald (p' := 35) (zi_121 rfl) rfl hx25 ?_
      obtain ⟨q26, h0, g61⟩ := zb_of g60
      subst h0
      obtain ⟨r27, hx28, g62⟩ := zb_of g61
      refine zo_callVa (p' := 38) (t := 10) (as := [.int x24]) (r := []) (zi_121 rfl) rfl zl_1_116 rfl rfl (Or.inl ⟨by decide, rfl⟩) (Nat.le_of_ble_eq_true rfl) (Nat.le_of_ble_eq_true rfl) (f_19_ok hx28) (k_19 _ hx28) ?_
      refine zo_astore_n (p' := 39) (L' := [(0, zrf (some o)), (1, .int b1), (2, zrf r27)]) (zi_121 rfl) rfl zm_121_2 ⟨Or.inr ⟨by decide, rfl, fun q => absurd q (by decide)⟩, ⟨Or.inr ⟨by decide, rfl, fun _ => rfl⟩, ⟨Or.inl ⟨rfl, rfl⟩, trivial⟩⟩⟩ ?_
      refine zo_aload_n (p' := 40) (zi_121 rfl) rfl rfl ?_
      rcases r27 with _ | q29
      · have g63 := zcs_none g62
        refine zo_nullT (p' := 62) (zi_121 rfl) rfl ?_
        refine zo_iload_n (p' := 63) (zi_121 rfl) rfl rfl ?_
        have g64 := Option.some.inj g63
        subst g64
        exact zo_iret (zi_121 rfl) rfl ⟨rfl, rfl⟩
      · obtain ⟨hq30, g65⟩ := zcs_some g62
        refine zo_nullF (p' := 43) (zi_121 rfl) rfl hq30 ?_
        refine zo_aload_n (p' := 44) (zi_121 rfl) rfl rfl ?_
        obtain ⟨x31, hx32, g66⟩ := zb_of g65
        refine zo_getI (p' := 47) (zi_121 rfl) rfl zl_1_126 hx32 ?_
        refine zo_aload_n (p' := 48) (zi_121 rfl) rfl rfl ?_
        obtain ⟨r33, hx34, g67⟩ := zb_of g66
        refine zo_getR (p' := 51) (zi_121 rfl) rfl zl_1_14 hx34 ?_
        obtain ⟨q35, h0, g68⟩ := zb_of g67
        subst h0
        obtain ⟨r36, hx37, g69⟩ := zb_of g68
        refine zo_getR (p' := 54) (zi_121 rfl) rfl zl_1_340 hx37 ?_
        obtain ⟨q38, h0, g70⟩ := zb_of g69
        subst h0
        obtain ⟨r39, hx40, g71⟩ := zb_of g70
        refine zo_getR (p' := 57) (zi_121 rfl) rfl zl_1_306 hx40 ?_
        refine zo_iload_n (p' := 58) (zi_121 rfl) rfl rfl ?_
        obtain ⟨q41, h0, g72⟩ := zb_of g71
        subst h0
        obtain ⟨x42, hx43, g73⟩ := zb_of g72
        refine zo_iald (p' := 59) (zi_121 rfl) rfl hx43 ?_
        by_cases hc44 : x31 = x42
        · rw [if_pos hc44] at g73
          refine zo_icT (p' := 64) (zi_121 rfl) rfl hc44 ?_
          refine zo_iinc (p' := 67) (v := (b1 + 1)) (L' := [(0, zrf (some o)), (1, .int ((b1 + 1))), (2, zrf (some q29))]) (zi_121 rfl) rfl zm_121_1 rfl rfl ⟨Or.inr ⟨by decide, rfl, fun _ => zrf_cat _⟩, ⟨Or.inl ⟨rfl, rfl⟩, ⟨Or.inr ⟨by decide, rfl, fun q => absurd q (by decide)⟩, trivial⟩⟩⟩ ?_
          refine zo_goto (p' := 2) (zi_121 rfl) rfl ?_
          refine zgo_sub (L' := [(0, zrf (some o)), (1, .int (((b1 + 1))))]) (⟨rfl, rfl, trivial⟩) ?_
          exact ih M o ((b1 + 1)) _ g73
        · rw [if_neg hc44] at g73
          refine zo_icF (p' := 62) (zi_121 rfl) rfl rfl hc44 ?_
          refine zo_iload_n (p' := 63) (zi_121 rfl) rfl rfl ?_
          have g74 := Option.some.inj g73
          subst g74
          exact zo_iret (zi_121 rfl) rfl ⟨rfl, rfl⟩
def f_121 (M : ZMem) (o : Nat) : Option (Int32) := if zok M 11 o = true then (f_121_2 zF M o 0) else none
theorem f_121_ok {M : ZMem} {o : Nat} {out : Int32} (h : f_121 M o = some out) : zok M 11 o = true := by
  unfold f_121 at h
  by_cases hok : zok M 11 o = true
  · exact hok
  · rw [if_neg hok] at h; cases h
set_option maxRecDepth 20000 in
theorem k_121 (d : Nat) {M : ZMem} {o : Nat} {out : Int32} (h : f_121 M o = some out) : zrn (d + 2) 121 [zrf (some o)] M (some (.int out), M) := by
  unfold f_121 at h
  by_cases hok : zok M 11 o = true
  · rw [if_pos hok] at h
    refine zrn_of (L := [(0, zrf (some o))]) rfl ?_
    refine zo_iconst (p' := 1) (v := 0) (zi_121 rfl) rfl rfl ?_
    refine zo_istore_n (p' := 2) (L' := [(0, zrf (some o)), (1, .int 0)]) (zi_121 rfl) rfl zm_121_1 ⟨Or.inr ⟨by decide, rfl, fun _ => zrf_cat _⟩, ⟨Or.inl ⟨rfl, rfl⟩, trivial⟩⟩ ?_
    refine zgo_sub (L' := [(0, zrf (some o)), (1, .int 0)]) (⟨rfl, rfl, trivial⟩) ?_
    exact k_121_2 _ zF M o 0 _ h
  · rw [if_neg hok] at h; cases h
/-- SlateHalves$Tape.isNothing()Z -/
def f_123 (M : ZMem) (o : Nat) : Option (Int32) := if zok M 8 o = true then (zb (zgi M 8 1 o) fun x1 => if 0 ≤ x1 then (some 0) else (some 1)) else none
theorem f_123_ok {M : ZMem} {o : Nat} {out : Int32} (h : f_123 M o = some out) : zok M 8 o = true := by
  unfold f_123 at h
  by_cases hok : zok M 8 o = true
  · exact hok
  · rw [if_neg hok] at h; cases h
set_option maxRecDepth 20000 in
theorem k_123 (d : Nat) {M : ZMem} {o : Nat} {out : Int32} (h : f_123 M o = some out) : zrn (d) 123 [zrf (some o)] M (some (.int out), M) := by
  unfold f_123 at h
  by_cases hok : zok M 8 o = true
  · rw [if_pos hok] at h
    refine zrn_of (L := [(0, zrf (some o))]) rfl ?_
    refine zo_aload_n (p' := 1) (zi_123 rfl) rfl rfl ?_
    obtain ⟨x1, hx2, g4⟩ := zb_of h
    refine zo_getI (p' := 4) (zi_123 rfl) rfl zl_12_15 hx2 ?_
    by_cases hc3 : 0 ≤ x1
    · rw [if_pos hc3] at g4
      refine zo_ifT (p' := 11) (zi_123 rfl) rfl hc3 ?_
      refine zo_iconst (p' := 12) (v := 0) (zi_123 rfl) rfl rfl ?_
      have g5 := Option.some.inj g4
      subst g5
      exact zo_iret (zi_123 rfl) rfl ⟨rfl, rfl⟩
    · rw [if_neg hc3] at g4
      refine zo_ifF (p' := 7) (zi_123 rfl) rfl rfl hc3 ?_
      refine zo_iconst (p' := 8) (v := 1) (zi_123 rfl) rfl rfl ?_
      refine zo_goto (p' := 12) (zi_123 rfl) rfl ?_
      have g6 := Option.some.inj g4
      subst g6
      exact zo_iret (zi_123 rfl) rfl ⟨rfl, rfl⟩
  · rw [if_neg hok] at h; cases h
/-- SlateHalves.judge(II)I -/
def f_122_38 : Nat → ZMem → Nat → Int32 → Option Nat → Int32 → Option (Int32)
  | 0, _, _, _, _, _ => none
  | z + 1, M, o, b1, b2, b3 => zb (zgr M 11 0 o) fun r25 => zb r25 fun q27 => zb (zgr M 7 0 q27) fun r28 => zb r28 fun q30 => zb (zgi M 10 1 q30) fun x31 => if x31 ≤ b3 then (some (-5)) else (if b1 < 0 then (some (100 + b3)) else (zb b2 fun q35 => zb (zgi M 8 2 q35) fun x36 => if b1 < (x36 - b3) then (zb (zgr M 8 0 q35) fun r39 => zb r39 fun q41 => zb (zlaL M q41 (b1 + b3)) fun x42 => zb (zgr M 11 0 o) fun r44 => zb r44 fun q46 => zb (zgr M 7 0 q46) fun r47 => zb r47 fun q49 => zb (zgr M 10 0 q49) fun r50 => zb r50 fun q52 => zb (zlaR M q52 b3) fun r53 => zb r53 fun q55 => zb (zgi M 1 3 q55) fun x56 => if (lg_cmp x42 (Int32.toInt64 x56)) = 0 then (f_122_38 z M o b1 (some q35) ((b3 + 1))) else (some b3)) else (some (100 + b3))))
def f_122_35 (M : ZMem) (o : Nat) (b1 : Int32) (b2 : Option Nat) : Option (Int32) := f_122_38 zF M o b1 b2 0
set_option maxRecDepth 20000 in
theorem k_122_38 (d : Nat) : ∀ (z : Nat) (M : ZMem) (o : Nat) (b1 : Int32) (b2 : Option Nat) (b3 : Int32) (out : Int32), f_122_38 z M o b1 b2 b3 = some out → zgo none (d + 1) 122 38 [(0, zrf (some o)), (2, .int b1), (3, zrf b2), (4, .int b3)] [] M (some (.int out), M) := by
  intro z
  induction z with
  | zero => intro M o b1 b2 b3 out h; cases h
  | succ z ih =>
    intro M o b1 b2 b3 out h
    rw [f_122_38] at h
    refine zo_iload (p' := 40) (zi_122 rfl) rfl rfl ?_
    refine zo_aload_n (p' := 41) (zi_122 rfl) rfl rfl ?_
    obtain ⟨r25, hx26, g59⟩ := zb_of h
    refine zo_getR (p' := 44) (zi_122 rfl) rfl zl_1_14 hx26 ?_
    obtain ⟨q27, h0, g60⟩ := zb_of g59
    subst h0
    obtain ⟨r28, hx29, g61⟩ := zb_of g60
    refine zo_getR (p' := 47) (zi_122 rfl) rfl zl_1_100 hx29 ?_
    obtain ⟨q30, h0, g62⟩ := zb_of g61
    subst h0
    obtain ⟨x31, hx32, g63⟩ := zb_of g62
    refine zo_getI (p' := 50) (zi_122 rfl) rfl zl_1_261 hx32 ?_
    by_cases hc33 : x31 ≤ b3
    · rw [if_pos hc33] at g63
      refine zo_icT (p' := 113) (zi_122 rfl) rfl hc33 ?_
      refine zo_bipush (p' := 115) (v := (-5)) (zi_122 rfl) rfl rfl ?_
      have g64 := Option.some.inj g63
      subst g64
      exact zo_iret (zi_122 rfl) rfl ⟨rfl, rfl⟩
    · rw [if_neg hc33] at g63
      refine zo_icF (p' := 53) (zi_122 rfl) rfl rfl hc33 ?_
      refine zo_iload_n (p' := 54) (zi_122 rfl) rfl rfl ?_
      by_cases hc34 : b1 < 0
      · rw [if_pos hc34] at g63
        refine zo_ifT (p' := 68) (zi_122 rfl) rfl hc34 ?_
        refine zo_bipush (p' := 70) (v := 100) (zi_122 rfl) rfl rfl ?_
        refine zo_iload (p' := 72) (zi_122 rfl) rfl rfl ?_
        refine zo_iadd (p' := 73) (zi_122 rfl) rfl ?_
        have g65 := Option.some.inj g63
        subst g65
        exact zo_iret (zi_122 rfl) rfl ⟨rfl, rfl⟩
      · rw [if_neg hc34] at g63
        refine zo_ifF (p' := 57) (zi_122 rfl) rfl rfl hc34 ?_
        refine zo_iload_n (p' := 58) (zi_122 rfl) rfl rfl ?_
        refine zo_aload_n (p' := 59) (zi_122 rfl) rfl rfl ?_
        obtain ⟨q35, h0, g66⟩ := zb_of g63
        subst h0
        obtain ⟨x36, hx37, g67⟩ := zb_of g66
        refine zo_getI (p' := 62) (zi_122 rfl) rfl zl_1_349 hx37 ?_
        refine zo_iload (p' := 64) (zi_122 rfl) rfl rfl ?_
        refine zo_isub (p' := 65) (zi_122 rfl) rfl ?_
        by_cases hc38 : b1 < (x36 - b3)
        · rw [if_pos hc38] at g67
          refine zo_icT (p' := 74) (zi_122 rfl) rfl hc38 ?_
          refine zo_aload_n (p' := 75) (zi_122 rfl) rfl rfl ?_
          obtain ⟨r39, hx40, g68⟩ := zb_of g67
          refine zo_getR (p' := 78) (zi_122 rfl) rfl zl_1_350 hx40 ?_
          refine zo_iload_n (p' := 79) (zi_122 rfl) rfl rfl ?_
          refine zo_iload (p' := 81) (zi_122 rfl) rfl rfl ?_
          refine zo_iadd (p' := 82) (zi_122 rfl) rfl ?_
          obtain ⟨q41, h0, g69⟩ := zb_of g68
          subst h0
          obtain ⟨x42, hx43, g70⟩ := zb_of g69
          refine zo_lald (p' := 83) (zi_122 rfl) rfl hx43 ?_
          refine zo_aload_n (p' := 84) (zi_122 rfl) rfl rfl ?_
          obtain ⟨r44, hx45, g71⟩ := zb_of g70
          refine zo_getR (p' := 87) (zi_122 rfl) rfl zl_1_14 hx45 ?_
          obtain ⟨q46, h0, g72⟩ := zb_of g71
          subst h0
          obtain ⟨r47, hx48, g73⟩ := zb_of g72
          refine zo_getR (p' := 90) (zi_122 rfl) rfl zl_1_100 hx48 ?_
          obtain ⟨q49, h0, g74⟩ := zb_of g73
          subst h0
          obtain ⟨r50, hx51, g75⟩ := zb_of g74
          refine zo_getR (p' := 93) (zi_122 rfl) rfl zl_1_264 hx51 ?_
          refine zo_iload (p' := 95) (zi_122 rfl) rfl rfl ?_
          obtain ⟨q52, h0, g76⟩ := zb_of g75
          subst h0
          obtain ⟨r53, hx54, g77⟩ := zb_of g76
          refine zo_aald (p' := 96) (zi_122 rfl) rfl hx54 ?_
          obtain ⟨q55, h0, g78⟩ := zb_of g77
          subst h0
          obtain ⟨x56, hx57, g79⟩ := zb_of g78
          refine zo_getI (p' := 99) (zi_122 rfl) rfl zl_1_126 hx57 ?_
          refine zo_i2l (p' := 100) (zi_122 rfl) rfl ?_
          refine zo_lcmp (p' := 101) (zi_122 rfl) rfl ?_
          by_cases hc58 : (lg_cmp x42 (Int32.toInt64 x56)) = 0
          · rw [if_pos hc58] at g79
            refine zo_ifT (p' := 107) (zi_122 rfl) rfl hc58 ?_
            refine zo_iinc (p' := 110) (v := (b3 + 1)) (L' := [(0, zrf (some o)), (2, .int b1), (3, zrf (some q35)), (4, .int ((b3 + 1)))]) (zi_122 rfl) rfl zm_122_4 rfl rfl ⟨Or.inr ⟨by decide, rfl, fun q => absurd q (by decide)⟩, ⟨Or.inr ⟨by decide, rfl, fun q => absurd q (by decide)⟩, ⟨Or.inr ⟨by decide, rfl, fun _ => zrf_cat _⟩, ⟨Or.inl ⟨rfl, rfl⟩, trivial⟩⟩⟩⟩ ?_
            refine zo_goto (p' := 38) (zi_122 rfl) rfl ?_
            refine zgo_sub (L' := [(0, zrf (some o)), (2, .int b1), (3, zrf ((some q35))), (4, .int (((b3 + 1))))]) (⟨rfl, rfl, rfl, rfl, trivial⟩) ?_
            exact ih M o b1 (some q35) ((b3 + 1)) _ g79
          · rw [if_neg hc58] at g79
            refine zo_ifF (p' := 104) (zi_122 rfl) rfl rfl hc58 ?_
            refine zo_iload (p' := 106) (zi_122 rfl) rfl rfl ?_
            have g80 := Option.some.inj g79
            subst g80
            exact zo_iret (zi_122 rfl) rfl ⟨rfl, rfl⟩
        · rw [if_neg hc38] at g67
          refine zo_icF (p' := 68) (zi_122 rfl) rfl rfl hc38 ?_
          refine zo_bipush (p' := 70) (v := 100) (zi_122 rfl) rfl rfl ?_
          refine zo_iload (p' := 72) (zi_122 rfl) rfl rfl ?_
          refine zo_iadd (p' := 73) (zi_122 rfl) rfl ?_
          have g81 := Option.some.inj g67
          subst g81
          exact zo_iret (zi_122 rfl) rfl ⟨rfl, rfl⟩
set_option maxRecDepth 20000 in
theorem k_122_35 (d : Nat) : ∀ (M : ZMem) (o : Nat) (b1 : Int32) (b2 : Option Nat) (out : Int32), f_122_35 M o b1 b2 = some out → zgo none (d + 1) 122 35 [(0, zrf (some o)), (2, .int b1), (3, zrf b2)] [] M (some (.int out), M) := by
  intro M o b1 b2 out h
  unfold f_122_35 at h
  refine zo_iconst (p' := 36) (v := 0) (zi_122 rfl) rfl rfl ?_
  refine zo_istore (p' := 38) (L' := [(0, zrf (some o)), (2, .int b1), (3, zrf b2), (4, .int 0)]) (zi_122 rfl) rfl zm_122_4 ⟨Or.inr ⟨by decide, rfl, fun q => absurd q (by decide)⟩, ⟨Or.inr ⟨by decide, rfl, fun q => absurd q (by decide)⟩, ⟨Or.inr ⟨by decide, rfl, fun _ => zrf_cat _⟩, ⟨Or.inl ⟨rfl, rfl⟩, trivial⟩⟩⟩⟩ ?_
  refine zgo_sub (L' := [(0, zrf (some o)), (2, .int b1), (3, zrf b2), (4, .int 0)]) (⟨rfl, rfl, rfl, rfl, trivial⟩) ?_
  exact k_122_38 _ zF M o b1 b2 0 _ h
def f_122 (M : ZMem) (o : Nat) (a0 : Int32) (a1 : Int32) : Option (Int32) := if zok M 11 o = true then (zb (f_14 M a0 0 5) fun x1 => if ¬ x1 = 0 then (zb (zgr M 11 14 o) fun r4 => zb r4 fun q6 => zb (zlaR M q6 a0) fun r7 => zb r7 fun q9 => zb (f_123 M q9) fun x10 => if ¬ x10 = 0 then (f_122_35 M o a1 (some q9)) else (zb (zgi M 8 1 q9) fun x13 => if x13 = 0 then (f_122_35 M o a1 (some q9)) else (some (-12)))) else (some (-1))) else none
theorem f_122_ok {M : ZMem} {o : Nat} {a0 : Int32} {a1 : Int32} {out : Int32} (h : f_122 M o a0 a1 = some out) : zok M 11 o = true := by
  unfold f_122 at h
  by_cases hok : zok M 11 o = true
  · exact hok
  · rw [if_neg hok] at h; cases h
set_option maxRecDepth 20000 in
theorem k_122 (d : Nat) {M : ZMem} {o : Nat} {a0 : Int32} {a1 : Int32} {out : Int32} (h : f_122 M o a0 a1 = some out) : zrn (d + 1) 122 [zrf (some o), .int a0, .int a1] M (some (.int out), M) := by
  unfold f_122 at h
  by_cases hok : zok M 11 o = true
  · rw [if_pos hok] at h
    refine zrn_of (L := [(0, zrf (some o)), (1, .int a0), (2, .int a1)]) rfl ?_
    refine zo_iload_n (p' := 1) (zi_122 rfl) rfl rfl ?_
    refine zo_iconst (p' := 2) (v := 0) (zi_122 rfl) rfl rfl ?_
    refine zo_iconst (p' := 3) (v := 5) (zi_122 rfl) rfl rfl ?_
    obtain ⟨x1, hx2, g16⟩ := zb_of h
    refine zo_callSi (p' := 6) (as := [.int a0, .int 0, .int 5]) (r := []) (zi_122 rfl) rfl (Or.inl zl_1_96) rfl rfl (Nat.le_of_ble_eq_true rfl) (Nat.le_of_ble_eq_true rfl) (k_14 _ hx2) ?_
    by_cases hc3 : ¬ x1 = 0
    · rw [if_pos hc3] at g16
      refine zo_ifT (p' := 11) (zi_122 rfl) rfl hc3 ?_
      refine zo_aload_n (p' := 12) (zi_122 rfl) rfl rfl ?_
      obtain ⟨r4, hx5, g17⟩ := zb_of g16
      refine zo_getR (p' := 15) (zi_122 rfl) rfl zl_1_91 hx5 ?_
      refine zo_iload_n (p' := 16) (zi_122 rfl) rfl rfl ?_
      obtain ⟨q6, h0, g18⟩ := zb_of g17
      subst h0
      obtain ⟨r7, hx8, g19⟩ := zb_of g18
      refine zo_aald (p' := 17) (zi_122 rfl) rfl hx8 ?_
      refine zo_astore_n (p' := 18) (L' := [(0, zrf (some o)), (1, .int a0), (2, .int a1), (3, zrf r7)]) (zi_122 rfl) rfl zm_122_3 ⟨Or.inr ⟨by decide, rfl, fun q => absurd q (by decide)⟩, ⟨Or.inr ⟨by decide, rfl, fun q => absurd q (by decide)⟩, ⟨Or.inr ⟨by decide, rfl, fun _ => rfl⟩, ⟨Or.inl ⟨rfl, rfl⟩, trivial⟩⟩⟩⟩ ?_
      refine zo_aload_n (p' := 19) (zi_122 rfl) rfl rfl ?_
      obtain ⟨q9, h0, g20⟩ := zb_of g19
      subst h0
      obtain ⟨x10, hx11, g21⟩ := zb_of g20
      refine zo_callVi (p' := 22) (t := 8) (as := []) (r := []) (zi_122 rfl) rfl zl_1_343 rfl rfl (Or.inl ⟨by decide, rfl⟩) (Nat.le_of_ble_eq_true rfl) (Nat.le_of_ble_eq_true rfl) (f_123_ok hx11) (k_123 _ hx11) ?_
      by_cases hc12 : ¬ x10 = 0
      · rw [if_pos hc12] at g21
        refine zo_ifT (p' := 35) (zi_122 rfl) rfl hc12 ?_
        refine zgo_sub (L' := [(0, zrf (some o)), (2, .int a1), (3, zrf ((some q9)))]) (⟨rfl, rfl, rfl, trivial⟩) ?_
        exact k_122_35 _ M o a1 (some q9) _ g21
      · rw [if_neg hc12] at g21
        refine zo_ifF (p' := 25) (zi_122 rfl) rfl rfl hc12 ?_
        refine zo_aload_n (p' := 26) (zi_122 rfl) rfl rfl ?_
        obtain ⟨x13, hx14, g22⟩ := zb_of g21
        refine zo_getI (p' := 29) (zi_122 rfl) rfl zl_1_346 hx14 ?_
        by_cases hc15 : x13 = 0
        · rw [if_pos hc15] at g22
          refine zo_ifT (p' := 35) (zi_122 rfl) rfl hc15 ?_
          refine zgo_sub (L' := [(0, zrf (some o)), (2, .int a1), (3, zrf ((some q9)))]) (⟨rfl, rfl, rfl, trivial⟩) ?_
          exact k_122_35 _ M o a1 (some q9) _ g22
        · rw [if_neg hc15] at g22
          refine zo_ifF (p' := 32) (zi_122 rfl) rfl rfl hc15 ?_
          refine zo_bipush (p' := 34) (v := (-12)) (zi_122 rfl) rfl rfl ?_
          have g23 := Option.some.inj g22
          subst g23
          exact zo_iret (zi_122 rfl) rfl ⟨rfl, rfl⟩
    · rw [if_neg hc3] at g16
      refine zo_ifF (p' := 9) (zi_122 rfl) rfl rfl hc3 ?_
      refine zo_iconst (p' := 10) (v := (-1)) (zi_122 rfl) rfl rfl ?_
      have g24 := Option.some.inj g16
      subst g24
      exact zo_iret (zi_122 rfl) rfl ⟨rfl, rfl⟩
  · rw [if_neg hok] at h; cases h
/-- SlateHalves$Rows.copyFrom(LSlateHalves$Rows;)V -/
def f_126 (M : ZMem) (o : Nat) (a0 : Option Nat) : Option (ZMem) := if zok M 6 o = true then (zb (zgi M 6 0 o) fun x1 => zb a0 fun q3 => zb (zgi M 6 4 q3) fun x4 => zb (f_37 M x1 x4) fun x6 => zb (zpf M 6 4 o (.int x6) false) fun M8 => zb (zgr M8 6 1 q3) fun r10 => zb (zgr M8 6 1 o) fun r12 => zb (zgi M8 6 4 o) fun x14 => zb r12 fun q16 => zb r10 fun q17 => zb (zcopy M8 q17 0 q16 0 x14) fun M18 => zb (zgr M18 6 2 q3) fun r20 => zb (zgr M18 6 2 o) fun r22 => zb (zgi M18 6 4 o) fun x24 => zb r22 fun q26 => zb r20 fun q27 => zb (zcopy M18 q27 0 q26 0 x24) fun M28 => zb (zgr M28 6 3 q3) fun r30 => zb (zgr M28 6 3 o) fun r32 => zb (zgi M28 6 4 o) fun x34 => zb r32 fun q36 => zb r30 fun q37 => zb (zcopy M28 q37 0 q36 0 x34) fun M38 => some M38) else none
theorem f_126_ok {M : ZMem} {o : Nat} {a0 : Option Nat} {out : ZMem} (h : f_126 M o a0 = some out) : zok M 6 o = true := by
  unfold f_126 at h
  by_cases hok : zok M 6 o = true
  · exact hok
  · rw [if_neg hok] at h; cases h
set_option maxRecDepth 20000 in
theorem k_126 (d : Nat) {M : ZMem} {o : Nat} {a0 : Option Nat} {out : ZMem} (h : f_126 M o a0 = some out) : zrn (d + 1) 126 [zrf (some o), zrf a0] M (none, out) := by
  unfold f_126 at h
  by_cases hok : zok M 6 o = true
  · rw [if_pos hok] at h
    refine zrn_of (L := [(0, zrf (some o)), (1, zrf a0)]) (by simp [lv_args, zrf_cat, zcat_i, zcat_l, zcat_r]) ?_
    refine zo_aload_n (p' := 1) (zi_126 rfl) rfl rfl ?_
    refine zo_aload_n (p' := 2) (zi_126 rfl) rfl rfl ?_
    obtain ⟨x1, hx2, g40⟩ := zb_of h
    refine zo_getI (p' := 5) (zi_126 rfl) rfl zl_5_15 hx2 ?_
    refine zo_aload_n (p' := 6) (zi_126 rfl) rfl rfl ?_
    obtain ⟨q3, h0, g41⟩ := zb_of g40
    subst h0
    obtain ⟨x4, hx5, g42⟩ := zb_of g41
    refine zo_getI (p' := 9) (zi_126 rfl) rfl zl_5_9 hx5 ?_
    obtain ⟨x6, hx7, g43⟩ := zb_of g42
    refine zo_callSi (p' := 12) (as := [.int x1, .int x4]) (r := [zrf (some o)]) (zi_126 rfl) rfl (Or.inl zl_5_28) rfl rfl (Nat.le_of_ble_eq_true rfl) (Nat.le_of_ble_eq_true rfl) (k_37 _ hx7) ?_
    obtain ⟨M8, hx9, g44⟩ := zb_of g43
    refine zo_putI (p' := 15) (zi_126 rfl) rfl zl_5_9 (zpb_126 _) hx9 ?_
    refine zo_aload_n (p' := 16) (zi_126 rfl) rfl rfl ?_
    obtain ⟨r10, hx11, g45⟩ := zb_of g44
    refine zo_getR (p' := 19) (zi_126 rfl) rfl zl_5_18 hx11 ?_
    refine zo_iconst (p' := 20) (v := 0) (zi_126 rfl) rfl rfl ?_
    refine zo_aload_n (p' := 21) (zi_126 rfl) rfl rfl ?_
    obtain ⟨r12, hx13, g46⟩ := zb_of g45
    refine zo_getR (p' := 24) (zi_126 rfl) rfl zl_5_18 hx13 ?_
    refine zo_iconst (p' := 25) (v := 0) (zi_126 rfl) rfl rfl ?_
    refine zo_aload_n (p' := 26) (zi_126 rfl) rfl rfl ?_
    obtain ⟨x14, hx15, g47⟩ := zb_of g46
    refine zo_getI (p' := 29) (zi_126 rfl) rfl zl_5_9 hx15 ?_
    obtain ⟨q16, h0, g48⟩ := zb_of g47
    subst h0
    obtain ⟨q17, h0, g49⟩ := zb_of g48
    subst h0
    obtain ⟨M18, hx19, g50⟩ := zb_of g49
    refine zo_copy (p' := 32) (zi_126 rfl) rfl zl_5_34 (Nat.le_of_ble_eq_true rfl) hx19 ?_
    refine zo_aload_n (p' := 33) (zi_126 rfl) rfl rfl ?_
    obtain ⟨r20, hx21, g51⟩ := zb_of g50
    refine zo_getR (p' := 36) (zi_126 rfl) rfl zl_5_22 hx21 ?_
    refine zo_iconst (p' := 37) (v := 0) (zi_126 rfl) rfl rfl ?_
    refine zo_aload_n (p' := 38) (zi_126 rfl) rfl rfl ?_
    obtain ⟨r22, hx23, g52⟩ := zb_of g51
    refine zo_getR (p' := 41) (zi_126 rfl) rfl zl_5_22 hx23 ?_
    refine zo_iconst (p' := 42) (v := 0) (zi_126 rfl) rfl rfl ?_
    refine zo_aload_n (p' := 43) (zi_126 rfl) rfl rfl ?_
    obtain ⟨x24, hx25, g53⟩ := zb_of g52
    refine zo_getI (p' := 46) (zi_126 rfl) rfl zl_5_9 hx25 ?_
    obtain ⟨q26, h0, g54⟩ := zb_of g53
    subst h0
    obtain ⟨q27, h0, g55⟩ := zb_of g54
    subst h0
    obtain ⟨M28, hx29, g56⟩ := zb_of g55
    refine zo_copy (p' := 49) (zi_126 rfl) rfl zl_5_34 (Nat.le_of_ble_eq_true rfl) hx29 ?_
    refine zo_aload_n (p' := 50) (zi_126 rfl) rfl rfl ?_
    obtain ⟨r30, hx31, g57⟩ := zb_of g56
    refine zo_getR (p' := 53) (zi_126 rfl) rfl zl_5_25 hx31 ?_
    refine zo_iconst (p' := 54) (v := 0) (zi_126 rfl) rfl rfl ?_
    refine zo_aload_n (p' := 55) (zi_126 rfl) rfl rfl ?_
    obtain ⟨r32, hx33, g58⟩ := zb_of g57
    refine zo_getR (p' := 58) (zi_126 rfl) rfl zl_5_25 hx33 ?_
    refine zo_iconst (p' := 59) (v := 0) (zi_126 rfl) rfl rfl ?_
    refine zo_aload_n (p' := 60) (zi_126 rfl) rfl rfl ?_
    obtain ⟨x34, hx35, g59⟩ := zb_of g58
    refine zo_getI (p' := 63) (zi_126 rfl) rfl zl_5_9 hx35 ?_
    obtain ⟨q36, h0, g60⟩ := zb_of g59
    subst h0
    obtain ⟨q37, h0, g61⟩ := zb_of g60
    subst h0
    obtain ⟨M38, hx39, g62⟩ := zb_of g61
    refine zo_copy (p' := 66) (zi_126 rfl) rfl zl_5_34 (Nat.le_of_ble_eq_true rfl) hx39 ?_
    have g63 := Option.some.inj g62
    subst g63
    exact zo_vret (zi_126 rfl) rfl
  · rw [if_neg hok] at h; cases h
/-- SlateHalves$Scene.copyFrom(LSlateHalves$Scene;)V -/
def f_125 (M : ZMem) (o : Nat) (a0 : Option Nat) : Option (ZMem) := if zok M 7 o = true then (zb (zgr M 7 0 o) fun r1 => zb a0 fun q3 => zb (zgr M 7 0 q3) fun r4 => zb r1 fun q6 => zb (f_95 M q6 r4) fun M9 => zb (zgr M9 7 1 o) fun r10 => zb (zgr M9 7 1 q3) fun r12 => zb r10 fun q14 => zb (f_126 M9 q14 r12) fun M17 => zb (zgr M17 7 2 o) fun r18 => zb (zgr M17 7 2 q3) fun r20 => zb r18 fun q22 => zb (f_126 M17 q22 r20) fun M25 => zb (zgr M25 7 3 o) fun r26 => zb (zgr M25 7 3 q3) fun r28 => zb r26 fun q30 => zb (f_126 M25 q30 r28) fun M33 => some M33) else none
theorem f_125_ok {M : ZMem} {o : Nat} {a0 : Option Nat} {out : ZMem} (h : f_125 M o a0 = some out) : zok M 7 o = true := by
  unfold f_125 at h
  by_cases hok : zok M 7 o = true
  · exact hok
  · rw [if_neg hok] at h; cases h
set_option maxRecDepth 20000 in
theorem k_125 (d : Nat) {M : ZMem} {o : Nat} {a0 : Option Nat} {out : ZMem} (h : f_125 M o a0 = some out) : zrn (d + 3) 125 [zrf (some o), zrf a0] M (none, out) := by
  unfold f_125 at h
  by_cases hok : zok M 7 o = true
  · rw [if_pos hok] at h
    refine zrn_of (L := [(0, zrf (some o)), (1, zrf a0)]) (by simp [lv_args, zrf_cat, zcat_i, zcat_l, zcat_r]) ?_
    refine zo_aload_n (p' := 1) (zi_125 rfl) rfl rfl ?_
    obtain ⟨r1, hx2, g34⟩ := zb_of h
    refine zo_getR (p' := 4) (zi_125 rfl) rfl zl_2_12 hx2 ?_
    refine zo_aload_n (p' := 5) (zi_125 rfl) rfl rfl ?_
    obtain ⟨q3, h0, g35⟩ := zb_of g34
    subst h0
    obtain ⟨r4, hx5, g36⟩ := zb_of g35
    refine zo_getR (p' := 8) (zi_125 rfl) rfl zl_2_12 hx5 ?_
    obtain ⟨q6, h0, g37⟩ := zb_of g36
    subst h0
    obtain ⟨M9, hx8, g38⟩ := zb_of g37
    refine zo_callVv (p' := 11) (t := 10) (as := [zrf r4]) (r := []) (zi_125 rfl) rfl zl_2_33 rfl rfl (Or.inl ⟨by decide, rfl⟩) (Nat.le_of_ble_eq_true rfl) (by rw [zml_95]; simp [lg_sl, zrf_cat, zcat_i, zcat_l, zcat_r]; done) (f_95_ok hx8) (k_95 _ hx8) ?_
    refine zo_aload_n (p' := 12) (zi_125 rfl) rfl rfl ?_
    obtain ⟨r10, hx11, g39⟩ := zb_of g38
    refine zo_getR (p' := 15) (zi_125 rfl) rfl zl_2_23 hx11 ?_
    refine zo_aload_n (p' := 16) (zi_125 rfl) rfl rfl ?_
    obtain ⟨r12, hx13, g40⟩ := zb_of g39
    refine zo_getR (p' := 19) (zi_125 rfl) rfl zl_2_23 hx13 ?_
    obtain ⟨q14, h0, g41⟩ := zb_of g40
    subst h0
    obtain ⟨M17, hx16, g42⟩ := zb_of g41
    refine zo_callVv (p' := 22) (t := 6) (as := [zrf r12]) (r := []) (zi_125 rfl) rfl zl_2_37 rfl rfl (Or.inl ⟨by decide, rfl⟩) (Nat.le_of_ble_eq_true rfl) (by rw [zml_126]; simp [lg_sl, zrf_cat, zcat_i, zcat_l, zcat_r]; done) (f_126_ok hx16) (k_126 _ hx16) ?_
    refine zo_aload_n (p' := 23) (zi_125 rfl) rfl rfl ?_
    obtain ⟨r18, hx19, g43⟩ := zb_of g42
    refine zo_getR (p' := 26) (zi_125 rfl) rfl zl_2_27 hx19 ?_
    refine zo_aload_n (p' := 27) (zi_125 rfl) rfl rfl ?_
    obtain ⟨r20, hx21, g44⟩ := zb_of g43
    refine zo_getR (p' := 30) (zi_125 rfl) rfl zl_2_27 hx21 ?_
    obtain ⟨q22, h0, g45⟩ := zb_of g44
    subst h0
    obtain ⟨M25, hx24, g46⟩ := zb_of g45
    refine zo_callVv (p' := 33) (t := 6) (as := [zrf r20]) (r := []) (zi_125 rfl) rfl zl_2_37 rfl rfl (Or.inl ⟨by decide, rfl⟩) (Nat.le_of_ble_eq_true rfl) (by rw [zml_126]; simp [lg_sl, zrf_cat, zcat_i, zcat_l, zcat_r]; done) (f_126_ok hx24) (k_126 _ hx24) ?_
    refine zo_aload_n (p' := 34) (zi_125 rfl) rfl rfl ?_
    obtain ⟨r26, hx27, g47⟩ := zb_of g46
    refine zo_getR (p' := 37) (zi_125 rfl) rfl zl_2_30 hx27 ?_
    refine zo_aload_n (p' := 38) (zi_125 rfl) rfl rfl ?_
    obtain ⟨r28, hx29, g48⟩ := zb_of g47
    refine zo_getR (p' := 41) (zi_125 rfl) rfl zl_2_30 hx29 ?_
    obtain ⟨q30, h0, g49⟩ := zb_of g48
    subst h0
    obtain ⟨M33, hx32, g50⟩ := zb_of g49
    refine zo_callVv (p' := 44) (t := 6) (as := [zrf r28]) (r := []) (zi_125 rfl) rfl zl_2_37 rfl rfl (Or.inl ⟨by decide, rfl⟩) (Nat.le_of_ble_eq_true rfl) (by rw [zml_126]; simp [lg_sl, zrf_cat, zcat_i, zcat_l, zcat_r]; done) (f_126_ok hx32) (k_126 _ hx32) ?_
    have g51 := Option.some.inj g50
    subst g51
    exact zo_vret (zi_125 rfl) rfl
  · rw [if_neg hok] at h; cases h
/-- SlateHalves.image()I -/
def f_124 (M : ZMem) (o : Nat) : Option (Int32 × ZMem) := if zok M 11 o = true then (zb (zgr M 11 1 o) fun r1 => zb (zgr M 11 0 o) fun r3 => zb r1 fun q5 => zb (f_125 M q5 r3) fun M8 => zb (zpf M8 11 2 o (.int 1) false) fun M9 => zb (zgr M9 11 1 o) fun r11 => zb r11 fun q13 => zb (zgr M9 7 0 q13) fun r14 => zb r14 fun q16 => zb (zgi M9 10 1 q16) fun x17 => some (x17, M9)) else none
theorem f_124_ok {M : ZMem} {o : Nat} {out : Int32 × ZMem} (h : f_124 M o = some out) : zok M 11 o = true := by
  unfold f_124 at h
  by_cases hok : zok M 11 o = true
  · exact hok
  · rw [if_neg hok] at h; cases h
set_option maxRecDepth 20000 in
theorem k_124 (d : Nat) {M : ZMem} {o : Nat} {out : Int32 × ZMem} (h : f_124 M o = some out) : zrn (d + 4) 124 [zrf (some o)] M (some (.int out.1), out.2) := by
  unfold f_124 at h
  by_cases hok : zok M 11 o = true
  · rw [if_pos hok] at h
    refine zrn_of (L := [(0, zrf (some o))]) rfl ?_
    refine zo_aload_n (p' := 1) (zi_124 rfl) rfl rfl ?_
    obtain ⟨r1, hx2, g19⟩ := zb_of h
    refine zo_getR (p' := 4) (zi_124 rfl) rfl zl_1_18 hx2 ?_
    refine zo_aload_n (p' := 5) (zi_124 rfl) rfl rfl ?_
    obtain ⟨r3, hx4, g20⟩ := zb_of g19
    refine zo_getR (p' := 8) (zi_124 rfl) rfl zl_1_14 hx4 ?_
    obtain ⟨q5, h0, g21⟩ := zb_of g20
    subst h0
    obtain ⟨M8, hx7, g22⟩ := zb_of g21
    refine zo_callVv (p' := 11) (t := 7) (as := [zrf r3]) (r := []) (zi_124 rfl) rfl zl_1_354 rfl rfl (Or.inl ⟨by decide, rfl⟩) (Nat.le_of_ble_eq_true rfl) (by rw [zml_125]; simp [lg_sl, zrf_cat, zcat_i, zcat_l, zcat_r]; done) (f_125_ok hx7) (k_125 _ hx7) ?_
    refine zo_aload_n (p' := 12) (zi_124 rfl) rfl rfl ?_
    refine zo_iconst (p' := 13) (v := 1) (zi_124 rfl) rfl rfl ?_
    obtain ⟨M9, hx10, g23⟩ := zb_of g22
    refine zo_putI (p' := 16) (zi_124 rfl) rfl zl_1_21 (zpb_124 _) hx10 ?_
    refine zo_aload_n (p' := 17) (zi_124 rfl) rfl rfl ?_
    obtain ⟨r11, hx12, g24⟩ := zb_of g23
    refine zo_getR (p' := 20) (zi_124 rfl) rfl zl_1_18 hx12 ?_
    obtain ⟨q13, h0, g25⟩ := zb_of g24
    subst h0
    obtain ⟨r14, hx15, g26⟩ := zb_of g25
    refine zo_getR (p' := 23) (zi_124 rfl) rfl zl_1_100 hx15 ?_
    obtain ⟨q16, h0, g27⟩ := zb_of g26
    subst h0
    obtain ⟨x17, hx18, g28⟩ := zb_of g27
    refine zo_getI (p' := 26) (zi_124 rfl) rfl zl_1_261 hx18 ?_
    have g29 := Option.some.inj g28
    subst g29
    exact zo_iret (zi_124 rfl) rfl ⟨rfl, rfl⟩
  · rw [if_neg hok] at h; cases h
/-- SlateHalves.undo()I -/
def f_127 (M : ZMem) (o : Nat) : Option (Int32 × ZMem) := if zok M 11 o = true then (zb (zgi M 11 2 o) fun x1 => if ¬ x1 = 0 then (zb (zgr M 11 0 o) fun r4 => zb (zgr M 11 1 o) fun r6 => zb r4 fun q8 => zb (f_125 M q8 r6) fun M11 => zb (zgr M11 11 0 o) fun r12 => zb r12 fun q14 => zb (zgr M11 7 0 q14) fun r15 => zb r15 fun q17 => zb (zgi M11 10 1 q17) fun x18 => some (x18, M11)) else (some ((-3), M))) else none
theorem f_127_ok {M : ZMem} {o : Nat} {out : Int32 × ZMem} (h : f_127 M o = some out) : zok M 11 o = true := by
  unfold f_127 at h
  by_cases hok : zok M 11 o = true
  · exact hok
  · rw [if_neg hok] at h; cases h
set_option maxRecDepth 20000 in
theorem k_127 (d : Nat) {M : ZMem} {o : Nat} {out : Int32 × ZMem} (h : f_127 M o = some out) : zrn (d + 4) 127 [zrf (some o)] M (some (.int out.1), out.2) := by
  unfold f_127 at h
  by_cases hok : zok M 11 o = true
  · rw [if_pos hok] at h
    refine zrn_of (L := [(0, zrf (some o))]) rfl ?_
    refine zo_aload_n (p' := 1) (zi_127 rfl) rfl rfl ?_
    obtain ⟨x1, hx2, g20⟩ := zb_of h
    refine zo_getI (p' := 4) (zi_127 rfl) rfl zl_1_21 hx2 ?_
    by_cases hc3 : ¬ x1 = 0
    · rw [if_pos hc3] at g20
      refine zo_ifT (p' := 10) (zi_127 rfl) rfl hc3 ?_
      refine zo_aload_n (p' := 11) (zi_127 rfl) rfl rfl ?_
      obtain ⟨r4, hx5, g21⟩ := zb_of g20
      refine zo_getR (p' := 14) (zi_127 rfl) rfl zl_1_14 hx5 ?_
      refine zo_aload_n (p' := 15) (zi_127 rfl) rfl rfl ?_
      obtain ⟨r6, hx7, g22⟩ := zb_of g21
      refine zo_getR (p' := 18) (zi_127 rfl) rfl zl_1_18 hx7 ?_
      obtain ⟨q8, h0, g23⟩ := zb_of g22
      subst h0
      obtain ⟨M11, hx10, g24⟩ := zb_of g23
      refine zo_callVv (p' := 21) (t := 7) (as := [zrf r6]) (r := []) (zi_127 rfl) rfl zl_1_354 rfl rfl (Or.inl ⟨by decide, rfl⟩) (Nat.le_of_ble_eq_true rfl) (by rw [zml_125]; simp [lg_sl, zrf_cat, zcat_i, zcat_l, zcat_r]; done) (f_125_ok hx10) (k_125 _ hx10) ?_
      refine zo_aload_n (p' := 22) (zi_127 rfl) rfl rfl ?_
      obtain ⟨r12, hx13, g25⟩ := zb_of g24
      refine zo_getR (p' := 25) (zi_127 rfl) rfl zl_1_14 hx13 ?_
      obtain ⟨q14, h0, g26⟩ := zb_of g25
      subst h0
      obtain ⟨r15, hx16, g27⟩ := zb_of g26
      refine zo_getR (p' := 28) (zi_127 rfl) rfl zl_1_100 hx16 ?_
      obtain ⟨q17, h0, g28⟩ := zb_of g27
      subst h0
      obtain ⟨x18, hx19, g29⟩ := zb_of g28
      refine zo_getI (p' := 31) (zi_127 rfl) rfl zl_1_261 hx19 ?_
      have g30 := Option.some.inj g29
      subst g30
      exact zo_iret (zi_127 rfl) rfl ⟨rfl, rfl⟩
    · rw [if_neg hc3] at g20
      refine zo_ifF (p' := 7) (zi_127 rfl) rfl rfl hc3 ?_
      refine zo_bipush (p' := 9) (v := (-3)) (zi_127 rfl) rfl rfl ?_
      have g31 := Option.some.inj g20
      subst g31
      exact zo_iret (zi_127 rfl) rfl ⟨rfl, rfl⟩
  · rw [if_neg hok] at h; cases h
/-- SlateHalves$Acts.begin(I)V -/
def f_131_19 (M : ZMem) (o : Nat) : Option (ZMem) := zb (zgi M 0 1 o) fun x16 => zb (zpf M 0 1 o (.int ((x16 + 1))) false) fun M18 => some M18
set_option maxRecDepth 20000 in
theorem k_131_19 (d : Nat) : ∀ (M : ZMem) (o : Nat) (out : ZMem), f_131_19 M o = some out → zgo none (d) 131 19 [(0, zrf (some o))] [] M (none, out) := by
  intro M o out h
  unfold f_131_19 at h
  refine zo_aload_n (p' := 20) (zi_131 rfl) rfl rfl ?_
  refine zo_dup (p' := 21) (zi_131 rfl) rfl (zrf_cat _) ?_
  obtain ⟨x16, hx17, g20⟩ := zb_of h
  refine zo_getI (p' := 24) (zi_131 rfl) rfl zl_11_15 hx17 ?_
  refine zo_iconst (p' := 25) (v := 1) (zi_131 rfl) rfl rfl ?_
  refine zo_iadd (p' := 26) (zi_131 rfl) rfl ?_
  obtain ⟨M18, hx19, g21⟩ := zb_of g20
  refine zo_putI (p' := 29) (zi_131 rfl) rfl zl_11_15 (zpb_131 _) hx19 ?_
  have g22 := Option.some.inj g21
  subst g22
  exact zo_vret (zi_131 rfl) rfl
def f_131 (M : ZMem) (o : Nat) (a0 : Int32) : Option (ZMem) := if zok M 0 o = true then (zb (zgi M 0 1 o) fun x1 => if 20 ≤ x1 then (f_131_19 M o) else (zb (zgr M 0 0 o) fun r4 => zb (zgi M 0 1 o) fun x6 => zb r4 fun q8 => zb (zsa M 20 q8 x6 a0) fun M9 => f_131_19 M9 o)) else none
theorem f_131_ok {M : ZMem} {o : Nat} {a0 : Int32} {out : ZMem} (h : f_131 M o a0 = some out) : zok M 0 o = true := by
  unfold f_131 at h
  by_cases hok : zok M 0 o = true
  · exact hok
  · rw [if_neg hok] at h; cases h
set_option maxRecDepth 20000 in
theorem k_131 (d : Nat) {M : ZMem} {o : Nat} {a0 : Int32} {out : ZMem} (h : f_131 M o a0 = some out) : zrn (d) 131 [zrf (some o), .int a0] M (none, out) := by
  unfold f_131 at h
  by_cases hok : zok M 0 o = true
  · rw [if_pos hok] at h
    refine zrn_of (L := [(0, zrf (some o)), (1, .int a0)]) rfl ?_
    refine zo_aload_n (p' := 1) (zi_131 rfl) rfl rfl ?_
    obtain ⟨x1, hx2, g11⟩ := zb_of h
    refine zo_getI (p' := 4) (zi_131 rfl) rfl zl_11_15 hx2 ?_
    refine zo_bipush (p' := 6) (v := 20) (zi_131 rfl) rfl rfl ?_
    by_cases hc3 : 20 ≤ x1
    · rw [if_pos hc3] at g11
      refine zo_icT (p' := 19) (zi_131 rfl) rfl hc3 ?_
      refine zgo_sub (L' := [(0, zrf (some o))]) (⟨rfl, trivial⟩) ?_
      exact k_131_19 _ M o _ g11
    · rw [if_neg hc3] at g11
      refine zo_icF (p' := 9) (zi_131 rfl) rfl rfl hc3 ?_
      refine zo_aload_n (p' := 10) (zi_131 rfl) rfl rfl ?_
      obtain ⟨r4, hx5, g12⟩ := zb_of g11
      refine zo_getR (p' := 13) (zi_131 rfl) rfl zl_11_9 hx5 ?_
      refine zo_aload_n (p' := 14) (zi_131 rfl) rfl rfl ?_
      obtain ⟨x6, hx7, g13⟩ := zb_of g12
      refine zo_getI (p' := 17) (zi_131 rfl) rfl zl_11_15 hx7 ?_
      refine zo_iload_n (p' := 18) (zi_131 rfl) rfl rfl ?_
      obtain ⟨q8, h0, g14⟩ := zb_of g13
      subst h0
      obtain ⟨M9, hx10, g15⟩ := zb_of g14
      refine zo_iast (p' := 19) (zi_131 rfl) rfl hx10 ?_
      refine zgo_sub (L' := [(0, zrf (some o))]) (⟨rfl, trivial⟩) ?_
      exact k_131_19 _ M9 o _ g15
  · rw [if_neg hok] at h; cases h
/-- SlateHalves$Acts.ringsFrom(II)I -/
def f_130 : Nat → ZMem → Nat → Int32 → Int32 → Option (Int32 × ZMem)
  | 0, _, _, _, _ => none
  | y + 1, M, o, a0, a1 => if zok M 0 o = true then (if a0 = 2 then (zb (f_131 M o 30) fun M8 => zbd (f_130 y M8 o 0 ((a1 * 3))) fun x9 M11 => some (x9, M11)) else (if a0 = 3 then (zb (f_131 M o 10) fun M14 => zb (zgi M14 0 4 o) fun x15 => some ((a1 + x15), M14)) else (if a0 = 4 then (zb (f_131 M o 50) fun M19 => zbd (f_130 y M19 o 1 a1) fun x20 M22 => some ((-x20), M22)) else (if a0 = 5 then (zb (f_131 M o 30) fun M25 => zbd (f_130 y M25 o 0 ((a1 * 3))) fun x26 M28 => some (x26, M28)) else (if a0 = 6 then (zb (f_131 M o 71) fun M31 => zbd (f_130 y M31 o 3 a1) fun x32 M34 => zb (zgi M34 0 3 o) fun x35 => some ((x32 ^^^ x35), M34)) else (zb (f_131 M o 10) fun M39 => zb (zgi M39 0 4 o) fun x40 => some ((a1 + x40), M39))))))) else none
theorem f_130_ok {y : Nat} {M : ZMem} {o : Nat} {a0 : Int32} {a1 : Int32} {out : Int32 × ZMem} (h : f_130 y M o a0 a1 = some out) : zok M 0 o = true := by
  cases y with
  | zero => cases h
  | succ y =>
    rw [f_130] at h
    by_cases hok : zok M 0 o = true
    · exact hok
    · rw [if_neg hok] at h; cases h
set_option maxRecDepth 20000 in
theorem k_130 (d : Nat) : ∀ (y : Nat) (M : ZMem) (o : Nat) (a0 : Int32) (a1 : Int32) (out : Int32 × ZMem), f_130 y M o a0 a1 = some out → zrn (d + y + 1) 130 [zrf (some o), .int a0, .int a1] M (some (.int out.1), out.2) := by
  intro y
  induction y with
  | zero => intro M o a0 a1 out h; cases h
  | succ y ih =>
    intro M o a0 a1 out h
    rw [f_130] at h
    rw [show d + (y + 1) + 1 = (d + y + 1) + 1 by omega]
    by_cases hok : zok M 0 o = true
    · rw [if_pos hok] at h
      refine zrn_of (L := [(0, zrf (some o)), (1, .int a0), (2, .int a1)]) rfl ?_
      refine zo_iload_n (p' := 1) (zi_130 rfl) rfl rfl ?_
      by_cases hc1 : a0 = 2
      · rw [if_pos hc1] at h
        refine zo_table (p' := 36) (n := 35) (zi_130 rfl) (by decide) (zsel_hit hc1 (by decide)) rfl ?_
        refine zo_aload_n (p' := 37) (zi_130 rfl) rfl rfl ?_
        refine zo_bipush (p' := 39) (v := 30) (zi_130 rfl) rfl rfl ?_
        obtain ⟨M8, hx7, g42⟩ := zb_of h
        refine zo_callVv (p' := 42) (t := 0) (as := [.int 30]) (r := []) (zi_130 rfl) rfl zl_11_43 rfl rfl (Or.inl ⟨by decide, rfl⟩) (Nat.le_of_ble_eq_true rfl) (Nat.le_of_ble_eq_true rfl) (f_131_ok hx7) (k_131 _ hx7) ?_
        refine zo_aload_n (p' := 43) (zi_130 rfl) rfl rfl ?_
        refine zo_iconst (p' := 44) (v := 0) (zi_130 rfl) rfl rfl ?_
        refine zo_iload_n (p' := 45) (zi_130 rfl) rfl rfl ?_
        refine zo_iconst (p' := 46) (v := 3) (zi_130 rfl) rfl rfl ?_
        refine zo_imul (p' := 47) (zi_130 rfl) rfl ?_
        obtain ⟨x9, M11, hx10, g43⟩ := zbd_of g42
        refine zo_callVi (p' := 50) (t := 0) (as := [.int 0, .int ((a1 * 3))]) (r := []) (zi_130 rfl) rfl zl_11_33 rfl rfl (Or.inl ⟨by decide, rfl⟩) (Nat.le_of_ble_eq_true rfl) (Nat.le_of_ble_eq_true rfl) (f_130_ok hx10) (ih _ _ _ _ _ hx10) ?_
        have g44 := Option.some.inj g43
        subst g44
        exact zo_iret (zi_130 rfl) rfl ⟨rfl, rfl⟩
      · rw [if_neg hc1] at h
        by_cases hc2 : a0 = 3
        · rw [if_pos hc2] at h
          refine zo_table (p' := 83) (n := 82) (zi_130 rfl) (by decide) (zsel_skip hc1 (by decide) (zsel_hit hc2 (by decide))) rfl ?_
          refine zo_aload_n (p' := 84) (zi_130 rfl) rfl rfl ?_
          refine zo_bipush (p' := 86) (v := 10) (zi_130 rfl) rfl rfl ?_
          obtain ⟨M14, hx13, g45⟩ := zb_of h
          refine zo_callVv (p' := 89) (t := 0) (as := [.int 10]) (r := []) (zi_130 rfl) rfl zl_11_43 rfl rfl (Or.inl ⟨by decide, rfl⟩) (Nat.le_of_ble_eq_true rfl) (Nat.le_of_ble_eq_true rfl) (f_131_ok hx13) (k_131 _ hx13) ?_
          refine zo_iload_n (p' := 90) (zi_130 rfl) rfl rfl ?_
          refine zo_aload_n (p' := 91) (zi_130 rfl) rfl rfl ?_
          obtain ⟨x15, hx16, g46⟩ := zb_of g45
          refine zo_getI (p' := 94) (zi_130 rfl) rfl zl_11_32 hx16 ?_
          refine zo_iadd (p' := 95) (zi_130 rfl) rfl ?_
          have g47 := Option.some.inj g46
          subst g47
          exact zo_iret (zi_130 rfl) rfl ⟨rfl, rfl⟩
        · rw [if_neg hc2] at h
          by_cases hc3 : a0 = 4
          · rw [if_pos hc3] at h
            refine zo_table (p' := 51) (n := 50) (zi_130 rfl) (by decide) (zsel_skip hc1 (by decide) (zsel_skip hc2 (by decide) (zsel_hit hc3 (by decide)))) rfl ?_
            refine zo_aload_n (p' := 52) (zi_130 rfl) rfl rfl ?_
            refine zo_bipush (p' := 54) (v := 50) (zi_130 rfl) rfl rfl ?_
            obtain ⟨M19, hx18, g48⟩ := zb_of h
            refine zo_callVv (p' := 57) (t := 0) (as := [.int 50]) (r := []) (zi_130 rfl) rfl zl_11_43 rfl rfl (Or.inl ⟨by decide, rfl⟩) (Nat.le_of_ble_eq_true rfl) (Nat.le_of_ble_eq_true rfl) (f_131_ok hx18) (k_131 _ hx18) ?_
            refine zo_aload_n (p' := 58) (zi_130 rfl) rfl rfl ?_
            refine zo_iconst (p' := 59) (v := 1) (zi_130 rfl) rfl rfl ?_
            refine zo_iload_n (p' := 60) (zi_130 rfl) rfl rfl ?_
            obtain ⟨x20, M22, hx21, g49⟩ := zbd_of g48
            refine zo_callVi (p' := 63) (t := 0) (as := [.int 1, .int a1]) (r := []) (zi_130 rfl) rfl zl_11_33 rfl rfl (Or.inl ⟨by decide, rfl⟩) (Nat.le_of_ble_eq_true rfl) (Nat.le_of_ble_eq_true rfl) (f_130_ok hx21) (ih _ _ _ _ _ hx21) ?_
            refine zo_ineg (p' := 64) (zi_130 rfl) rfl ?_
            have g50 := Option.some.inj g49
            subst g50
            exact zo_iret (zi_130 rfl) rfl ⟨rfl, rfl⟩
          · rw [if_neg hc3] at h
            by_cases hc4 : a0 = 5
            · rw [if_pos hc4] at h
              refine zo_table (p' := 36) (n := 35) (zi_130 rfl) (by decide) (zsel_skip hc1 (by decide) (zsel_skip hc2 (by decide) (zsel_skip hc3 (by decide) (zsel_hit hc4 (by decide))))) rfl ?_
              refine zo_aload_n (p' := 37) (zi_130 rfl) rfl rfl ?_
              refine zo_bipush (p' := 39) (v := 30) (zi_130 rfl) rfl rfl ?_
              obtain ⟨M25, hx24, g51⟩ := zb_of h
              refine zo_callVv (p' := 42) (t := 0) (as := [.int 30]) (r := []) (zi_130 rfl) rfl zl_11_43 rfl rfl (Or.inl ⟨by decide, rfl⟩) (Nat.le_of_ble_eq_true rfl) (Nat.le_of_ble_eq_true rfl) (f_131_ok hx24) (k_131 _ hx24) ?_
              refine zo_aload_n (p' := 43) (zi_130 rfl) rfl rfl ?_
              refine zo_iconst (p' := 44) (v := 0) (zi_130 rfl) rfl rfl ?_
              refine zo_iload_n (p' := 45) (zi_130 rfl) rfl rfl ?_
              refine zo_iconst (p' := 46) (v := 3) (zi_130 rfl) rfl rfl ?_
              refine zo_imul (p' := 47) (zi_130 rfl) rfl ?_
              obtain ⟨x26, M28, hx27, g52⟩ := zbd_of g51
              refine zo_callVi (p' := 50) (t := 0) (as := [.int 0, .int ((a1 * 3))]) (r := []) (zi_130 rfl) rfl zl_11_33 rfl rfl (Or.inl ⟨by decide, rfl⟩) (Nat.le_of_ble_eq_true rfl) (Nat.le_of_ble_eq_true rfl) (f_130_ok hx27) (ih _ _ _ _ _ hx27) ?_
              have g53 := Option.some.inj g52
              subst g53
              exact zo_iret (zi_130 rfl) rfl ⟨rfl, rfl⟩
            · rw [if_neg hc4] at h
              by_cases hc5 : a0 = 6
              · rw [if_pos hc5] at h
                refine zo_table (p' := 65) (n := 64) (zi_130 rfl) (by decide) (zsel_skip hc1 (by decide) (zsel_skip hc2 (by decide) (zsel_skip hc3 (by decide) (zsel_skip hc4 (by decide) (zsel_hit hc5 (by decide)))))) rfl ?_
                refine zo_aload_n (p' := 66) (zi_130 rfl) rfl rfl ?_
                refine zo_bipush (p' := 68) (v := 71) (zi_130 rfl) rfl rfl ?_
                obtain ⟨M31, hx30, g54⟩ := zb_of h
                refine zo_callVv (p' := 71) (t := 0) (as := [.int 71]) (r := []) (zi_130 rfl) rfl zl_11_43 rfl rfl (Or.inl ⟨by decide, rfl⟩) (Nat.le_of_ble_eq_true rfl) (Nat.le_of_ble_eq_true rfl) (f_131_ok hx30) (k_131 _ hx30) ?_
                refine zo_aload_n (p' := 72) (zi_130 rfl) rfl rfl ?_
                refine zo_iconst (p' := 73) (v := 3) (zi_130 rfl) rfl rfl ?_
                refine zo_iload_n (p' := 74) (zi_130 rfl) rfl rfl ?_
                obtain ⟨x32, M34, hx33, g55⟩ := zbd_of g54
                refine zo_callVi (p' := 77) (t := 0) (as := [.int 3, .int a1]) (r := []) (zi_130 rfl) rfl zl_11_33 rfl rfl (Or.inl ⟨by decide, rfl⟩) (Nat.le_of_ble_eq_true rfl) (Nat.le_of_ble_eq_true rfl) (f_130_ok hx33) (ih _ _ _ _ _ hx33) ?_
                refine zo_aload_n (p' := 78) (zi_130 rfl) rfl rfl ?_
                obtain ⟨x35, hx36, g56⟩ := zb_of g55
                refine zo_getI (p' := 81) (zi_130 rfl) rfl zl_11_28 hx36 ?_
                refine zo_ixor (p' := 82) (zi_130 rfl) rfl ?_
                have g57 := Option.some.inj g56
                subst g57
                exact zo_iret (zi_130 rfl) rfl ⟨rfl, rfl⟩
              · rw [if_neg hc5] at h
                refine zo_table (p' := 83) (n := 82) (zi_130 rfl) (by decide) (zsel_skip hc1 (by decide) (zsel_skip hc2 (by decide) (zsel_skip hc3 (by decide) (zsel_skip hc4 (by decide) (zsel_skip hc5 (by decide) (rfl)))))) rfl ?_
                refine zo_aload_n (p' := 84) (zi_130 rfl) rfl rfl ?_
                refine zo_bipush (p' := 86) (v := 10) (zi_130 rfl) rfl rfl ?_
                obtain ⟨M39, hx38, g58⟩ := zb_of h
                refine zo_callVv (p' := 89) (t := 0) (as := [.int 10]) (r := []) (zi_130 rfl) rfl zl_11_43 rfl rfl (Or.inl ⟨by decide, rfl⟩) (Nat.le_of_ble_eq_true rfl) (Nat.le_of_ble_eq_true rfl) (f_131_ok hx38) (k_131 _ hx38) ?_
                refine zo_iload_n (p' := 90) (zi_130 rfl) rfl rfl ?_
                refine zo_aload_n (p' := 91) (zi_130 rfl) rfl rfl ?_
                obtain ⟨x40, hx41, g59⟩ := zb_of g58
                refine zo_getI (p' := 94) (zi_130 rfl) rfl zl_11_32 hx41 ?_
                refine zo_iadd (p' := 95) (zi_130 rfl) rfl ?_
                have g60 := Option.some.inj g59
                subst g60
                exact zo_iret (zi_130 rfl) rfl ⟨rfl, rfl⟩
    · rw [if_neg hok] at h; cases h
theorem kc_130 {d : Nat} {M : ZMem} {o : Nat} {a0 a1 : Int32} {out : Int32 × ZMem} (h : f_130 4 M o a0 a1 = some out) : zrn (d + 5) 130 [zrf (some o), .int a0, .int a1] M (some (.int out.1), out.2) := k_130 d 4 _ _ _ _ _ h
/-- SlateHalves$Acts.splitsFrom(II)I -/
def f_132 : Nat → ZMem → Nat → Int32 → Int32 → Option (Int32 × ZMem)
  | 0, _, _, _, _ => none
  | y + 1, M, o, a0, a1 => if zok M 0 o = true then (if a0 = 1 then (zb (f_131 M o 20) fun M6 => zbd (f_132 y M6 o 0 a1) fun x7 M9 => some ((x7 ^^^ 6), M9)) else (if a0 = 4 then (zb (f_131 M o 51) fun M12 => zbd (f_132 y M12 o 1 ((a1 + 1))) fun x13 M15 => some (x13, M15)) else (if a0 = 6 then (zb (f_131 M o 70) fun M18 => zbd (f_132 y M18 o 3 a1) fun x19 M21 => zbd (f_130 4 M21 o 3 2) fun x22 M24 => some ((x19 + x22), M24)) else (zb (f_131 M o 11) fun M27 => zb (zgi M27 0 2 o) fun x28 => zbd (f_130 4 M27 o x28 a1) fun x30 M32 => zb (zgi M32 0 3 o) fun x33 => some ((x30 - x33), M32))))) else none
theorem f_132_ok {y : Nat} {M : ZMem} {o : Nat} {a0 : Int32} {a1 : Int32} {out : Int32 × ZMem} (h : f_132 y M o a0 a1 = some out) : zok M 0 o = true := by
  cases y with
  | zero => cases h
  | succ y =>
    rw [f_132] at h
    by_cases hok : zok M 0 o = true
    · exact hok
    · rw [if_neg hok] at h; cases h
set_option maxRecDepth 20000 in
theorem k_132 (d : Nat) : ∀ (y : Nat) (M : ZMem) (o : Nat) (a0 : Int32) (a1 : Int32) (out : Int32 × ZMem), f_132 y M o a0 a1 = some out → zrn (d + y + 6) 132 [zrf (some o), .int a0, .int a1] M (some (.int out.1), out.2) := by
  intro y
  induction y with
  | zero => intro M o a0 a1 out h; cases h
  | succ y ih =>
    intro M o a0 a1 out h
    rw [f_132] at h
    rw [show d + (y + 1) + 6 = (d + y + 6) + 1 by omega]
    by_cases hok : zok M 0 o = true
    · rw [if_pos hok] at h
      refine zrn_of (L := [(0, zrf (some o)), (1, .int a0), (2, .int a1)]) rfl ?_
      refine zo_iload_n (p' := 1) (zi_132 rfl) rfl rfl ?_
      by_cases hc1 : a0 = 1
      · rw [if_pos hc1] at h
        refine zo_look (p' := 36) (n := 35) (zi_132 rfl) (by decide) (zsel_hit hc1 (by decide)) rfl ?_
        refine zo_aload_n (p' := 37) (zi_132 rfl) rfl rfl ?_
        refine zo_bipush (p' := 39) (v := 20) (zi_132 rfl) rfl rfl ?_
        obtain ⟨M6, hx5, g35⟩ := zb_of h
        refine zo_callVv (p' := 42) (t := 0) (as := [.int 20]) (r := []) (zi_132 rfl) rfl zl_11_43 rfl rfl (Or.inl ⟨by decide, rfl⟩) (Nat.le_of_ble_eq_true rfl) (Nat.le_of_ble_eq_true rfl) (f_131_ok hx5) (k_131 _ hx5) ?_
        refine zo_aload_n (p' := 43) (zi_132 rfl) rfl rfl ?_
        refine zo_iconst (p' := 44) (v := 0) (zi_132 rfl) rfl rfl ?_
        refine zo_iload_n (p' := 45) (zi_132 rfl) rfl rfl ?_
        obtain ⟨x7, M9, hx8, g36⟩ := zbd_of g35
        refine zo_callVi (p' := 48) (t := 0) (as := [.int 0, .int a1]) (r := []) (zi_132 rfl) rfl zl_11_37 rfl rfl (Or.inl ⟨by decide, rfl⟩) (Nat.le_of_ble_eq_true rfl) (Nat.le_of_ble_eq_true rfl) (f_132_ok hx8) (ih _ _ _ _ _ hx8) ?_
        refine zo_bipush (p' := 50) (v := 6) (zi_132 rfl) rfl rfl ?_
        refine zo_ixor (p' := 51) (zi_132 rfl) rfl ?_
        have g37 := Option.some.inj g36
        subst g37
        exact zo_iret (zi_132 rfl) rfl ⟨rfl, rfl⟩
      · rw [if_neg hc1] at h
        by_cases hc2 : a0 = 4
        · rw [if_pos hc2] at h
          refine zo_look (p' := 52) (n := 51) (zi_132 rfl) (by decide) (zsel_skip hc1 (by decide) (zsel_hit hc2 (by decide))) rfl ?_
          refine zo_aload_n (p' := 53) (zi_132 rfl) rfl rfl ?_
          refine zo_bipush (p' := 55) (v := 51) (zi_132 rfl) rfl rfl ?_
          obtain ⟨M12, hx11, g38⟩ := zb_of h
          refine zo_callVv (p' := 58) (t := 0) (as := [.int 51]) (r := []) (zi_132 rfl) rfl zl_11_43 rfl rfl (Or.inl ⟨by decide, rfl⟩) (Nat.le_of_ble_eq_true rfl) (Nat.le_of_ble_eq_true rfl) (f_131_ok hx11) (k_131 _ hx11) ?_
          refine zo_aload_n (p' := 59) (zi_132 rfl) rfl rfl ?_
          refine zo_iconst (p' := 60) (v := 1) (zi_132 rfl) rfl rfl ?_
          refine zo_iload_n (p' := 61) (zi_132 rfl) rfl rfl ?_
          refine zo_iconst (p' := 62) (v := 1) (zi_132 rfl) rfl rfl ?_
          refine zo_iadd (p' := 63) (zi_132 rfl) rfl ?_
          obtain ⟨x13, M15, hx14, g39⟩ := zbd_of g38
          refine zo_callVi (p' := 66) (t := 0) (as := [.int 1, .int ((a1 + 1))]) (r := []) (zi_132 rfl) rfl zl_11_37 rfl rfl (Or.inl ⟨by decide, rfl⟩) (Nat.le_of_ble_eq_true rfl) (Nat.le_of_ble_eq_true rfl) (f_132_ok hx14) (ih _ _ _ _ _ hx14) ?_
          have g40 := Option.some.inj g39
          subst g40
          exact zo_iret (zi_132 rfl) rfl ⟨rfl, rfl⟩
        · rw [if_neg hc2] at h
          by_cases hc3 : a0 = 6
          · rw [if_pos hc3] at h
            refine zo_look (p' := 67) (n := 66) (zi_132 rfl) (by decide) (zsel_skip hc1 (by decide) (zsel_skip hc2 (by decide) (zsel_hit hc3 (by decide)))) rfl ?_
            refine zo_aload_n (p' := 68) (zi_132 rfl) rfl rfl ?_
            refine zo_bipush (p' := 70) (v := 70) (zi_132 rfl) rfl rfl ?_
            obtain ⟨M18, hx17, g41⟩ := zb_of h
            refine zo_callVv (p' := 73) (t := 0) (as := [.int 70]) (r := []) (zi_132 rfl) rfl zl_11_43 rfl rfl (Or.inl ⟨by decide, rfl⟩) (Nat.le_of_ble_eq_true rfl) (Nat.le_of_ble_eq_true rfl) (f_131_ok hx17) (k_131 _ hx17) ?_
            refine zo_aload_n (p' := 74) (zi_132 rfl) rfl rfl ?_
            refine zo_iconst (p' := 75) (v := 3) (zi_132 rfl) rfl rfl ?_
            refine zo_iload_n (p' := 76) (zi_132 rfl) rfl rfl ?_
            obtain ⟨x19, M21, hx20, g42⟩ := zbd_of g41
            refine zo_callVi (p' := 79) (t := 0) (as := [.int 3, .int a1]) (r := []) (zi_132 rfl) rfl zl_11_37 rfl rfl (Or.inl ⟨by decide, rfl⟩) (Nat.le_of_ble_eq_true rfl) (Nat.le_of_ble_eq_true rfl) (f_132_ok hx20) (ih _ _ _ _ _ hx20) ?_
            refine zo_aload_n (p' := 80) (zi_132 rfl) rfl rfl ?_
            refine zo_iconst (p' := 81) (v := 3) (zi_132 rfl) rfl rfl ?_
            refine zo_iconst (p' := 82) (v := 2) (zi_132 rfl) rfl rfl ?_
            obtain ⟨x22, M24, hx23, g43⟩ := zbd_of g42
            refine zo_callVi (p' := 85) (t := 0) (as := [.int 3, .int 2]) (r := [.int x19]) (zi_132 rfl) rfl zl_11_33 rfl rfl (Or.inl ⟨by decide, rfl⟩) (Nat.le_of_ble_eq_true rfl) (Nat.le_of_ble_eq_true rfl) (f_130_ok hx23) (kc_130 hx23) ?_
            refine zo_iadd (p' := 86) (zi_132 rfl) rfl ?_
            have g44 := Option.some.inj g43
            subst g44
            exact zo_iret (zi_132 rfl) rfl ⟨rfl, rfl⟩
          · rw [if_neg hc3] at h
            refine zo_look (p' := 87) (n := 86) (zi_132 rfl) (by decide) (zsel_skip hc1 (by decide) (zsel_skip hc2 (by decide) (zsel_skip hc3 (by decide) (rfl)))) rfl ?_
            refine zo_aload_n (p' := 88) (zi_132 rfl) rfl rfl ?_
            refine zo_bipush (p' := 90) (v := 11) (zi_132 rfl) rfl rfl ?_
            obtain ⟨M27, hx26, g45⟩ := zb_of h
            refine zo_callVv (p' := 93) (t := 0) (as := [.int 11]) (r := []) (zi_132 rfl) rfl zl_11_43 rfl rfl (Or.inl ⟨by decide, rfl⟩) (Nat.le_of_ble_eq_true rfl) (Nat.le_of_ble_eq_true rfl) (f_131_ok hx26) (k_131 _ hx26) ?_
            refine zo_aload_n (p' := 94) (zi_132 rfl) rfl rfl ?_
            refine zo_aload_n (p' := 95) (zi_132 rfl) rfl rfl ?_
            obtain ⟨x28, hx29, g46⟩ := zb_of g45
            refine zo_getI (p' := 98) (zi_132 rfl) rfl zl_11_24 hx29 ?_
            refine zo_iload_n (p' := 99) (zi_132 rfl) rfl rfl ?_
            obtain ⟨x30, M32, hx31, g47⟩ := zbd_of g46
            refine zo_callVi (p' := 102) (t := 0) (as := [.int x28, .int a1]) (r := []) (zi_132 rfl) rfl zl_11_33 rfl rfl (Or.inl ⟨by decide, rfl⟩) (Nat.le_of_ble_eq_true rfl) (Nat.le_of_ble_eq_true rfl) (f_130_ok hx31) (kc_130 hx31) ?_
            refine zo_aload_n (p' := 103) (zi_132 rfl) rfl rfl ?_
            obtain ⟨x33, hx34, g48⟩ := zb_of g47
            refine zo_getI (p' := 106) (zi_132 rfl) rfl zl_11_28 hx34 ?_
            refine zo_isub (p' := 107) (zi_132 rfl) rfl ?_
            have g49 := Option.some.inj g48
            subst g49
            exact zo_iret (zi_132 rfl) rfl ⟨rfl, rfl⟩
    · rw [if_neg hok] at h; cases h
theorem kc_132 {d : Nat} {M : ZMem} {o : Nat} {a0 a1 : Int32} {out : Int32 × ZMem} (h : f_132 4 M o a0 a1 = some out) : zrn (d + 10) 132 [zrf (some o), .int a0, .int a1] M (some (.int out.1), out.2) := k_132 d 4 _ _ _ _ _ h
/-- SlateHalves$Acts.tellsFrom(II)I -/
def f_133 : Nat → ZMem → Nat → Int32 → Int32 → Option (Int32 × ZMem)
  | 0, _, _, _, _ => none
  | y + 1, M, o, a0, a1 => if zok M 0 o = true then (if a0 = 3 then (zb (f_131 M o 40) fun M7 => zbd (f_133 y M7 o 0 a1) fun x8 M10 => zb (zgi M10 0 2 o) fun x11 => zbd (f_132 4 M10 o x11 1) fun x13 M15 => some ((x8 + x13), M15)) else (if a0 = 4 then (zb (f_131 M o 12) fun M18 => zb (zgi M18 0 2 o) fun x19 => zbd (f_132 4 M18 o x19 a1) fun x21 M23 => some ((x21 * 2), M23)) else (if a0 = 5 then (zb (f_131 M o 60) fun M26 => zb (zgi M26 0 4 o) fun x27 => zbd (f_133 y M26 o 2 ((a1 - x27))) fun x29 M31 => some (x29, M31)) else (if a0 = 6 then (zb (f_131 M o 40) fun M34 => zbd (f_133 y M34 o 0 a1) fun x35 M37 => zb (zgi M37 0 2 o) fun x38 => zbd (f_132 4 M37 o x38 1) fun x40 M42 => some ((x35 + x40), M42)) else (zb (f_131 M o 12) fun M45 => zb (zgi M45 0 2 o) fun x46 => zbd (f_132 4 M45 o x46 a1) fun x48 M50 => some ((x48 * 2), M50)))))) else none
theorem f_133_ok {y : Nat} {M : ZMem} {o : Nat} {a0 : Int32} {a1 : Int32} {out : Int32 × ZMem} (h : f_133 y M o a0 a1 = some out) : zok M 0 o = true := by
  cases y with
  | zero => cases h
  | succ y =>
    rw [f_133] at h
    by_cases hok : zok M 0 o = true
    · exact hok
    · rw [if_neg hok] at h; cases h
set_option maxRecDepth 20000 in
theorem k_133 (d : Nat) : ∀ (y : Nat) (M : ZMem) (o : Nat) (a0 : Int32) (a1 : Int32) (out : Int32 × ZMem), f_133 y M o a0 a1 = some out → zrn (d + y + 11) 133 [zrf (some o), .int a0, .int a1] M (some (.int out.1), out.2) := by
  intro y
  induction y with
  | zero => intro M o a0 a1 out h; cases h
  | succ y ih =>
    intro M o a0 a1 out h
    rw [f_133] at h
    rw [show d + (y + 1) + 11 = (d + y + 11) + 1 by omega]
    by_cases hok : zok M 0 o = true
    · rw [if_pos hok] at h
      refine zrn_of (L := [(0, zrf (some o)), (1, .int a0), (2, .int a1)]) rfl ?_
      refine zo_iload_n (p' := 1) (zi_133 rfl) rfl rfl ?_
      by_cases hc1 : a0 = 3
      · rw [if_pos hc1] at h
        refine zo_table (p' := 32) (n := 31) (zi_133 rfl) (by decide) (zsel_hit hc1 (by decide)) rfl ?_
        refine zo_aload_n (p' := 33) (zi_133 rfl) rfl rfl ?_
        refine zo_bipush (p' := 35) (v := 40) (zi_133 rfl) rfl rfl ?_
        obtain ⟨M7, hx6, g51⟩ := zb_of h
        refine zo_callVv (p' := 38) (t := 0) (as := [.int 40]) (r := []) (zi_133 rfl) rfl zl_11_43 rfl rfl (Or.inl ⟨by decide, rfl⟩) (Nat.le_of_ble_eq_true rfl) (Nat.le_of_ble_eq_true rfl) (f_131_ok hx6) (k_131 _ hx6) ?_
        refine zo_aload_n (p' := 39) (zi_133 rfl) rfl rfl ?_
        refine zo_iconst (p' := 40) (v := 0) (zi_133 rfl) rfl rfl ?_
        refine zo_iload_n (p' := 41) (zi_133 rfl) rfl rfl ?_
        obtain ⟨x8, M10, hx9, g52⟩ := zbd_of g51
        refine zo_callVi (p' := 44) (t := 0) (as := [.int 0, .int a1]) (r := []) (zi_133 rfl) rfl zl_11_40 rfl rfl (Or.inl ⟨by decide, rfl⟩) (Nat.le_of_ble_eq_true rfl) (Nat.le_of_ble_eq_true rfl) (f_133_ok hx9) (ih _ _ _ _ _ hx9) ?_
        refine zo_aload_n (p' := 45) (zi_133 rfl) rfl rfl ?_
        refine zo_aload_n (p' := 46) (zi_133 rfl) rfl rfl ?_
        obtain ⟨x11, hx12, g53⟩ := zb_of g52
        refine zo_getI (p' := 49) (zi_133 rfl) rfl zl_11_24 hx12 ?_
        refine zo_iconst (p' := 50) (v := 1) (zi_133 rfl) rfl rfl ?_
        obtain ⟨x13, M15, hx14, g54⟩ := zbd_of g53
        refine zo_callVi (p' := 53) (t := 0) (as := [.int x11, .int 1]) (r := [.int x8]) (zi_133 rfl) rfl zl_11_37 rfl rfl (Or.inl ⟨by decide, rfl⟩) (Nat.le_of_ble_eq_true rfl) (Nat.le_of_ble_eq_true rfl) (f_132_ok hx14) (kc_132 hx14) ?_
        refine zo_iadd (p' := 54) (zi_133 rfl) rfl ?_
        have g55 := Option.some.inj g54
        subst g55
        exact zo_iret (zi_133 rfl) rfl ⟨rfl, rfl⟩
      · rw [if_neg hc1] at h
        by_cases hc2 : a0 = 4
        · rw [if_pos hc2] at h
          refine zo_table (p' := 73) (n := 72) (zi_133 rfl) (by decide) (zsel_skip hc1 (by decide) (zsel_hit hc2 (by decide))) rfl ?_
          refine zo_aload_n (p' := 74) (zi_133 rfl) rfl rfl ?_
          refine zo_bipush (p' := 76) (v := 12) (zi_133 rfl) rfl rfl ?_
          obtain ⟨M18, hx17, g56⟩ := zb_of h
          refine zo_callVv (p' := 79) (t := 0) (as := [.int 12]) (r := []) (zi_133 rfl) rfl zl_11_43 rfl rfl (Or.inl ⟨by decide, rfl⟩) (Nat.le_of_ble_eq_true rfl) (Nat.le_of_ble_eq_true rfl) (f_131_ok hx17) (k_131 _ hx17) ?_
          refine zo_aload_n (p' := 80) (zi_133 rfl) rfl rfl ?_
          refine zo_aload_n (p' := 81) (zi_133 rfl) rfl rfl ?_
          obtain ⟨x19, hx20, g57⟩ := zb_of g56
          refine zo_getI (p' := 84) (zi_133 rfl) rfl zl_11_24 hx20 ?_
          refine zo_iload_n (p' := 85) (zi_133 rfl) rfl rfl ?_
          obtain ⟨x21, M23, hx22, g58⟩ := zbd_of g57
          refine zo_callVi (p' := 88) (t := 0) (as := [.int x19, .int a1]) (r := []) (zi_133 rfl) rfl zl_11_37 rfl rfl (Or.inl ⟨by decide, rfl⟩) (Nat.le_of_ble_eq_true rfl) (Nat.le_of_ble_eq_true rfl) (f_132_ok hx22) (kc_132 hx22) ?_
          refine zo_iconst (p' := 89) (v := 2) (zi_133 rfl) rfl rfl ?_
          refine zo_imul (p' := 90) (zi_133 rfl) rfl ?_
          have g59 := Option.some.inj g58
          subst g59
          exact zo_iret (zi_133 rfl) rfl ⟨rfl, rfl⟩
        · rw [if_neg hc2] at h
          by_cases hc3 : a0 = 5
          · rw [if_pos hc3] at h
            refine zo_table (p' := 55) (n := 54) (zi_133 rfl) (by decide) (zsel_skip hc1 (by decide) (zsel_skip hc2 (by decide) (zsel_hit hc3 (by decide)))) rfl ?_
            refine zo_aload_n (p' := 56) (zi_133 rfl) rfl rfl ?_
            refine zo_bipush (p' := 58) (v := 60) (zi_133 rfl) rfl rfl ?_
            obtain ⟨M26, hx25, g60⟩ := zb_of h
            refine zo_callVv (p' := 61) (t := 0) (as := [.int 60]) (r := []) (zi_133 rfl) rfl zl_11_43 rfl rfl (Or.inl ⟨by decide, rfl⟩) (Nat.le_of_ble_eq_true rfl) (Nat.le_of_ble_eq_true rfl) (f_131_ok hx25) (k_131 _ hx25) ?_
            refine zo_aload_n (p' := 62) (zi_133 rfl) rfl rfl ?_
            refine zo_iconst (p' := 63) (v := 2) (zi_133 rfl) rfl rfl ?_
            refine zo_iload_n (p' := 64) (zi_133 rfl) rfl rfl ?_
            refine zo_aload_n (p' := 65) (zi_133 rfl) rfl rfl ?_
            obtain ⟨x27, hx28, g61⟩ := zb_of g60
            refine zo_getI (p' := 68) (zi_133 rfl) rfl zl_11_32 hx28 ?_
            refine zo_isub (p' := 69) (zi_133 rfl) rfl ?_
            obtain ⟨x29, M31, hx30, g62⟩ := zbd_of g61
            refine zo_callVi (p' := 72) (t := 0) (as := [.int 2, .int ((a1 - x27))]) (r := []) (zi_133 rfl) rfl zl_11_40 rfl rfl (Or.inl ⟨by decide, rfl⟩) (Nat.le_of_ble_eq_true rfl) (Nat.le_of_ble_eq_true rfl) (f_133_ok hx30) (ih _ _ _ _ _ hx30) ?_
            have g63 := Option.some.inj g62
            subst g63
            exact zo_iret (zi_133 rfl) rfl ⟨rfl, rfl⟩
          · rw [if_neg hc3] at h
            by_cases hc4 : a0 = 6
            · rw [if_pos hc4] at h
              refine zo_table (p' := 32) (n := 31) (zi_133 rfl) (by decide) (zsel_skip hc1 (by decide) (zsel_skip hc2 (by decide) (zsel_skip hc3 (by decide) (zsel_hit hc4 (by decide))))) rfl ?_
              refine zo_aload_n (p' := 33) (zi_133 rfl) rfl rfl ?_
              refine zo_bipush (p' := 35) (v := 40) (zi_133 rfl) rfl rfl ?_
              obtain ⟨M34, hx33, g64⟩ := zb_of h
              refine zo_callVv (p' := 38) (t := 0) (as := [.int 40]) (r := []) (zi_133 rfl) rfl zl_11_43 rfl rfl (Or.inl ⟨by decide, rfl⟩) (Nat.le_of_ble_eq_true rfl) (Nat.le_of_ble_eq_true rfl) (f_131_ok hx33) (k_131 _ hx33) ?_
              refine zo_aload_n (p' := 39) (zi_133 rfl) rfl rfl ?_
              refine zo_iconst (p' := 40) (v := 0) (zi_133 rfl) rfl rfl ?_
              refine zo_iload_n (p' := 41) (zi_133 rfl) rfl rfl ?_
              obtain ⟨x35, M37, hx36, g65⟩ := zbd_of g64
              refine zo_callVi (p' := 44) (t := 0) (as := [.int 0, .int a1]) (r := []) (zi_133 rfl) rfl zl_11_40 rfl rfl (Or.inl ⟨by decide, rfl⟩) (Nat.le_of_ble_eq_true rfl) (Nat.le_of_ble_eq_true rfl) (f_133_ok hx36) (ih _ _ _ _ _ hx36) ?_
              refine zo_aload_n (p' := 45) (zi_133 rfl) rfl rfl ?_
              refine zo_aload_n (p' := 46) (zi_133 rfl) rfl rfl ?_
              obtain ⟨x38, hx39, g66⟩ := zb_of g65
              refine zo_getI (p' := 49) (zi_133 rfl) rfl zl_11_24 hx39 ?_
              refine zo_iconst (p' := 50) (v := 1) (zi_133 rfl) rfl rfl ?_
              obtain ⟨x40, M42, hx41, g67⟩ := zbd_of g66
              refine zo_callVi (p' := 53) (t := 0) (as := [.int x38, .int 1]) (r := [.int x35]) (zi_133 rfl) rfl zl_11_37 rfl rfl (Or.inl ⟨by decide, rfl⟩) (Nat.le_of_ble_eq_true rfl) (Nat.le_of_ble_eq_true rfl) (f_132_ok hx41) (kc_132 hx41) ?_
              refine zo_iadd (p' := 54) (zi_133 rfl) rfl ?_
              have g68 := Option.some.inj g67
              subst g68
              exact zo_iret (zi_133 rfl) rfl ⟨rfl, rfl⟩
            · rw [if_neg hc4] at h
              refine zo_table (p' := 73) (n := 72) (zi_133 rfl) (by decide) (zsel_skip hc1 (by decide) (zsel_skip hc2 (by decide) (zsel_skip hc3 (by decide) (zsel_skip hc4 (by decide) (rfl))))) rfl ?_
              refine zo_aload_n (p' := 74) (zi_133 rfl) rfl rfl ?_
              refine zo_bipush (p' := 76) (v := 12) (zi_133 rfl) rfl rfl ?_
              obtain ⟨M45, hx44, g69⟩ := zb_of h
              refine zo_callVv (p' := 79) (t := 0) (as := [.int 12]) (r := []) (zi_133 rfl) rfl zl_11_43 rfl rfl (Or.inl ⟨by decide, rfl⟩) (Nat.le_of_ble_eq_true rfl) (Nat.le_of_ble_eq_true rfl) (f_131_ok hx44) (k_131 _ hx44) ?_
              refine zo_aload_n (p' := 80) (zi_133 rfl) rfl rfl ?_
              refine zo_aload_n (p' := 81) (zi_133 rfl) rfl rfl ?_
              obtain ⟨x46, hx47, g70⟩ := zb_of g69
              refine zo_getI (p' := 84) (zi_133 rfl) rfl zl_11_24 hx47 ?_
              refine zo_iload_n (p' := 85) (zi_133 rfl) rfl rfl ?_
              obtain ⟨x48, M50, hx49, g71⟩ := zbd_of g70
              refine zo_callVi (p' := 88) (t := 0) (as := [.int x46, .int a1]) (r := []) (zi_133 rfl) rfl zl_11_37 rfl rfl (Or.inl ⟨by decide, rfl⟩) (Nat.le_of_ble_eq_true rfl) (Nat.le_of_ble_eq_true rfl) (f_132_ok hx49) (kc_132 hx49) ?_
              refine zo_iconst (p' := 89) (v := 2) (zi_133 rfl) rfl rfl ?_
              refine zo_imul (p' := 90) (zi_133 rfl) rfl ?_
              have g72 := Option.some.inj g71
              subst g72
              exact zo_iret (zi_133 rfl) rfl ⟨rfl, rfl⟩
    · rw [if_neg hok] at h; cases h
theorem kc_133 {d : Nat} {M : ZMem} {o : Nat} {a0 a1 : Int32} {out : Int32 × ZMem} (h : f_133 4 M o a0 a1 = some out) : zrn (d + 15) 133 [zrf (some o), .int a0, .int a1] M (some (.int out.1), out.2) := k_133 d 4 _ _ _ _ _ h
/-- SlateHalves$Acts.perform(LSlateHalves$Block;II)I -/
def f_129 (M : ZMem) (o : Nat) (a0 : Option Nat) (a1 : Int32) (a2 : Int32) : Option (Int32 × ZMem) := if zok M 0 o = true then (zb a0 fun q1 => zb (zgi M 1 1 q1) fun x2 => zb (zpf M 0 2 o (.int x2) false) fun M4 => zb (zgi M4 1 2 q1) fun x6 => zb (zpf M4 0 3 o (.int x6) false) fun M8 => zb (zgi M8 1 0 q1) fun x10 => zb (zpf M8 0 4 o (.int x10) false) fun M12 => if a1 = 0 then (zb (zgi M12 0 2 o) fun x17 => zbd (f_130 4 M12 o x17 a2) fun x19 M21 => some (x19, M21)) else (if a1 = 1 then (zb (zgi M12 0 2 o) fun x22 => zbd (f_132 4 M12 o x22 a2) fun x24 M26 => some (x24, M26)) else (if a1 = 2 then (zb (zgi M12 0 2 o) fun x27 => zbd (f_133 4 M12 o x27 a2) fun x29 M31 => some (x29, M31)) else (some (0, M12))))) else none
theorem f_129_ok {M : ZMem} {o : Nat} {a0 : Option Nat} {a1 : Int32} {a2 : Int32} {out : Int32 × ZMem} (h : f_129 M o a0 a1 a2 = some out) : zok M 0 o = true := by
  unfold f_129 at h
  by_cases hok : zok M 0 o = true
  · exact hok
  · rw [if_neg hok] at h; cases h
set_option maxRecDepth 20000 in
theorem k_129 (d : Nat) {M : ZMem} {o : Nat} {a0 : Option Nat} {a1 : Int32} {a2 : Int32} {out : Int32 × ZMem} (h : f_129 M o a0 a1 a2 = some out) : zrn (d + 16) 129 [zrf (some o), zrf a0, .int a1, .int a2] M (some (.int out.1), out.2) := by
  unfold f_129 at h
  by_cases hok : zok M 0 o = true
  · rw [if_pos hok] at h
    refine zrn_of (L := [(0, zrf (some o)), (1, zrf a0), (2, .int a1), (3, .int a2)]) (by simp [lv_args, zrf_cat, zcat_i, zcat_l, zcat_r]) ?_
    refine zo_aload_n (p' := 1) (zi_129 rfl) rfl rfl ?_
    refine zo_aload_n (p' := 2) (zi_129 rfl) rfl rfl ?_
    obtain ⟨q1, h0, g32⟩ := zb_of h
    subst h0
    obtain ⟨x2, hx3, g33⟩ := zb_of g32
    refine zo_getI (p' := 5) (zi_129 rfl) rfl zl_11_19 hx3 ?_
    obtain ⟨M4, hx5, g34⟩ := zb_of g33
    refine zo_putI (p' := 8) (zi_129 rfl) rfl zl_11_24 (zpb_129 _) hx5 ?_
    refine zo_aload_n (p' := 9) (zi_129 rfl) rfl rfl ?_
    refine zo_aload_n (p' := 10) (zi_129 rfl) rfl rfl ?_
    obtain ⟨x6, hx7, g35⟩ := zb_of g34
    refine zo_getI (p' := 13) (zi_129 rfl) rfl zl_11_25 hx7 ?_
    obtain ⟨M8, hx9, g36⟩ := zb_of g35
    refine zo_putI (p' := 16) (zi_129 rfl) rfl zl_11_28 (zpb_129 _) hx9 ?_
    refine zo_aload_n (p' := 17) (zi_129 rfl) rfl rfl ?_
    refine zo_aload_n (p' := 18) (zi_129 rfl) rfl rfl ?_
    obtain ⟨x10, hx11, g37⟩ := zb_of g36
    refine zo_getI (p' := 21) (zi_129 rfl) rfl zl_11_29 hx11 ?_
    obtain ⟨M12, hx13, g38⟩ := zb_of g37
    refine zo_putI (p' := 24) (zi_129 rfl) rfl zl_11_32 (zpb_129 _) hx13 ?_
    refine zo_iload_n (p' := 25) (zi_129 rfl) rfl rfl ?_
    by_cases hc14 : a1 = 0
    · rw [if_pos hc14] at g38
      refine zo_table (p' := 52) (n := 27) (zi_129 rfl) (by decide) (zsel_hit hc14 (by decide)) rfl ?_
      refine zo_aload_n (p' := 53) (zi_129 rfl) rfl rfl ?_
      refine zo_aload_n (p' := 54) (zi_129 rfl) rfl rfl ?_
      obtain ⟨x17, hx18, g39⟩ := zb_of g38
      refine zo_getI (p' := 57) (zi_129 rfl) rfl zl_11_24 hx18 ?_
      refine zo_iload_n (p' := 58) (zi_129 rfl) rfl rfl ?_
      obtain ⟨x19, M21, hx20, g40⟩ := zbd_of g39
      refine zo_callVi (p' := 61) (t := 0) (as := [.int x17, .int a2]) (r := []) (zi_129 rfl) rfl zl_11_33 rfl rfl (Or.inl ⟨by decide, rfl⟩) (Nat.le_of_ble_eq_true rfl) (Nat.le_of_ble_eq_true rfl) (f_130_ok hx20) (kc_130 hx20) ?_
      have g41 := Option.some.inj g40
      subst g41
      exact zo_iret (zi_129 rfl) rfl ⟨rfl, rfl⟩
    · rw [if_neg hc14] at g38
      by_cases hc15 : a1 = 1
      · rw [if_pos hc15] at g38
        refine zo_table (p' := 62) (n := 37) (zi_129 rfl) (by decide) (zsel_skip hc14 (by decide) (zsel_hit hc15 (by decide))) rfl ?_
        refine zo_aload_n (p' := 63) (zi_129 rfl) rfl rfl ?_
        refine zo_aload_n (p' := 64) (zi_129 rfl) rfl rfl ?_
        obtain ⟨x22, hx23, g42⟩ := zb_of g38
        refine zo_getI (p' := 67) (zi_129 rfl) rfl zl_11_24 hx23 ?_
        refine zo_iload_n (p' := 68) (zi_129 rfl) rfl rfl ?_
        obtain ⟨x24, M26, hx25, g43⟩ := zbd_of g42
        refine zo_callVi (p' := 71) (t := 0) (as := [.int x22, .int a2]) (r := []) (zi_129 rfl) rfl zl_11_37 rfl rfl (Or.inl ⟨by decide, rfl⟩) (Nat.le_of_ble_eq_true rfl) (Nat.le_of_ble_eq_true rfl) (f_132_ok hx25) (kc_132 hx25) ?_
        have g44 := Option.some.inj g43
        subst g44
        exact zo_iret (zi_129 rfl) rfl ⟨rfl, rfl⟩
      · rw [if_neg hc15] at g38
        by_cases hc16 : a1 = 2
        · rw [if_pos hc16] at g38
          refine zo_table (p' := 72) (n := 47) (zi_129 rfl) (by decide) (zsel_skip hc14 (by decide) (zsel_skip hc15 (by decide) (zsel_hit hc16 (by decide)))) rfl ?_
          refine zo_aload_n (p' := 73) (zi_129 rfl) rfl rfl ?_
          refine zo_aload_n (p' := 74) (zi_129 rfl) rfl rfl ?_
          obtain ⟨x27, hx28, g45⟩ := zb_of g38
          refine zo_getI (p' := 77) (zi_129 rfl) rfl zl_11_24 hx28 ?_
          refine zo_iload_n (p' := 78) (zi_129 rfl) rfl rfl ?_
          obtain ⟨x29, M31, hx30, g46⟩ := zbd_of g45
          refine zo_callVi (p' := 81) (t := 0) (as := [.int x27, .int a2]) (r := []) (zi_129 rfl) rfl zl_11_40 rfl rfl (Or.inl ⟨by decide, rfl⟩) (Nat.le_of_ble_eq_true rfl) (Nat.le_of_ble_eq_true rfl) (f_133_ok hx30) (kc_133 hx30) ?_
          have g47 := Option.some.inj g46
          subst g47
          exact zo_iret (zi_129 rfl) rfl ⟨rfl, rfl⟩
        · rw [if_neg hc16] at g38
          refine zo_table (p' := 82) (n := 57) (zi_129 rfl) (by decide) (zsel_skip hc14 (by decide) (zsel_skip hc15 (by decide) (zsel_skip hc16 (by decide) (rfl)))) rfl ?_
          refine zo_iconst (p' := 83) (v := 0) (zi_129 rfl) rfl rfl ?_
          have g48 := Option.some.inj g38
          subst g48
          exact zo_iret (zi_129 rfl) rfl ⟨rfl, rfl⟩
  · rw [if_neg hok] at h; cases h
/-- SlateHalves.act(III)I -/
def f_128 (M : ZMem) (o : Nat) (a0 : Int32) (a1 : Int32) (a2 : Int32) : Option (Int32 × ZMem) := if zok M 11 o = true then (zb (zgr M 11 13 o) fun r1 => zb r1 fun q3 => zb (zpf M 0 1 q3 (.int 0) false) fun M4 => zb (zgr M4 11 0 o) fun r6 => zb r6 fun q8 => zb (zgr M4 7 0 q8) fun r9 => zb r9 fun q11 => zb (f_19 M4 q11 a0) fun r12 => zcs r12 (some (0, M4)) (fun q14 => zb (zgr M4 11 13 o) fun r16 => zb r16 fun q18 => zbd (f_129 M4 q18 (some q14) a1 a2) fun x19 M21 => some (x19, M21))) else none
theorem f_128_ok {M : ZMem} {o : Nat} {a0 : Int32} {a1 : Int32} {a2 : Int32} {out : Int32 × ZMem} (h : f_128 M o a0 a1 a2 = some out) : zok M 11 o = true := by
  unfold f_128 at h
  by_cases hok : zok M 11 o = true
  · exact hok
  · rw [if_neg hok] at h; cases h
set_option maxRecDepth 20000 in
theorem k_128 (d : Nat) {M : ZMem} {o : Nat} {a0 : Int32} {a1 : Int32} {a2 : Int32} {out : Int32 × ZMem} (h : f_128 M o a0 a1 a2 = some out) : zrn (d + 17) 128 [zrf (some o), .int a0, .int a1, .int a2] M (some (.int out.1), out.2) := by
  unfold f_128 at h
  by_cases hok : zok M 11 o = true
  · rw [if_pos hok] at h
    refine zrn_of (L := [(0, zrf (some o)), (1, .int a0), (2, .int a1), (3, .int a2)]) rfl ?_
    refine zo_aload_n (p' := 1) (zi_128 rfl) rfl rfl ?_
    obtain ⟨r1, hx2, g22⟩ := zb_of h
    refine zo_getR (p' := 4) (zi_128 rfl) rfl zl_1_85 hx2 ?_
    refine zo_iconst (p' := 5) (v := 0) (zi_128 rfl) rfl rfl ?_
    obtain ⟨q3, h0, g23⟩ := zb_of g22
    subst h0
    obtain ⟨M4, hx5, g24⟩ := zb_of g23
    refine zo_putI (p' := 8) (zi_128 rfl) rfl zl_1_357 (zpb_128 _) hx5 ?_
    refine zo_aload_n (p' := 9) (zi_128 rfl) rfl rfl ?_
    obtain ⟨r6, hx7, g25⟩ := zb_of g24
    refine zo_getR (p' := 12) (zi_128 rfl) rfl zl_1_14 hx7 ?_
    obtain ⟨q8, h0, g26⟩ := zb_of g25
    subst h0
    obtain ⟨r9, hx10, g27⟩ := zb_of g26
    refine zo_getR (p' := 15) (zi_128 rfl) rfl zl_1_100 hx10 ?_
    refine zo_iload_n (p' := 16) (zi_128 rfl) rfl rfl ?_
    obtain ⟨q11, h0, g28⟩ := zb_of g27
    subst h0
    obtain ⟨r12, hx13, g29⟩ := zb_of g28
    refine zo_callVa (p' := 19) (t := 10) (as := [.int a0]) (r := []) (zi_128 rfl) rfl zl_1_116 rfl rfl (Or.inl ⟨by decide, rfl⟩) (Nat.le_of_ble_eq_true rfl) (Nat.le_of_ble_eq_true rfl) (f_19_ok hx13) (k_19 _ hx13) ?_
    refine zo_astore (p' := 21) (L' := [(0, zrf (some o)), (1, .int a0), (2, .int a1), (3, .int a2), (4, zrf r12)]) (zi_128 rfl) rfl zm_128_4 ⟨Or.inr ⟨by decide, rfl, fun q => absurd q (by decide)⟩, ⟨Or.inr ⟨by decide, rfl, fun q => absurd q (by decide)⟩, ⟨Or.inr ⟨by decide, rfl, fun q => absurd q (by decide)⟩, ⟨Or.inr ⟨by decide, rfl, fun _ => rfl⟩, ⟨Or.inl ⟨rfl, rfl⟩, trivial⟩⟩⟩⟩⟩ ?_
    refine zo_aload (p' := 23) (zi_128 rfl) rfl rfl ?_
    rcases r12 with _ | q14
    · have g30 := zcs_none g29
      refine zo_nonnullF (p' := 26) (zi_128 rfl) rfl ?_
      refine zo_iconst (p' := 27) (v := 0) (zi_128 rfl) rfl rfl ?_
      refine zo_goto (p' := 41) (zi_128 rfl) rfl ?_
      have g31 := Option.some.inj g30
      subst g31
      exact zo_iret (zi_128 rfl) rfl ⟨rfl, rfl⟩
    · obtain ⟨hq15, g32⟩ := zcs_some g29
      refine zo_nonnullT (p' := 30) (zi_128 rfl) rfl hq15 ?_
      refine zo_aload_n (p' := 31) (zi_128 rfl) rfl rfl ?_
      obtain ⟨r16, hx17, g33⟩ := zb_of g32
      refine zo_getR (p' := 34) (zi_128 rfl) rfl zl_1_85 hx17 ?_
      refine zo_aload (p' := 36) (zi_128 rfl) rfl rfl ?_
      refine zo_iload_n (p' := 37) (zi_128 rfl) rfl rfl ?_
      refine zo_iload_n (p' := 38) (zi_128 rfl) rfl rfl ?_
      obtain ⟨q18, h0, g34⟩ := zb_of g33
      subst h0
      obtain ⟨x19, M21, hx20, g35⟩ := zbd_of g34
      refine zo_callVi (p' := 41) (t := 0) (as := [zrf (some q14), .int a1, .int a2]) (r := []) (zi_128 rfl) rfl zl_1_360 rfl rfl (Or.inl ⟨by decide, rfl⟩) (Nat.le_of_ble_eq_true rfl) (Nat.le_of_ble_eq_true rfl) (f_129_ok hx20) (k_129 _ hx20) ?_
      have g36 := Option.some.inj g35
      subst g36
      exact zo_iret (zi_128 rfl) rfl ⟨rfl, rfl⟩
  · rw [if_neg hok] at h; cases h
/-- SlateHalves.trace(I)I -/
def f_134 (M : ZMem) (o : Nat) (a0 : Int32) : Option (Int32) := if zok M 11 o = true then (zb (zgr M 11 13 o) fun r1 => zb r1 fun q3 => zb (zgi M 0 1 q3) fun x4 => zb (f_37 M x4 20) fun x6 => zb (f_14 M a0 0 ((x6 - 1))) fun x8 => if x8 = 0 then (some (-1)) else (zb (zgr M 11 13 o) fun r11 => zb r11 fun q13 => zb (zgr M 0 0 q13) fun r14 => zb r14 fun q16 => zb (zai M q16 a0) fun x17 => some x17)) else none
theorem f_134_ok {M : ZMem} {o : Nat} {a0 : Int32} {out : Int32} (h : f_134 M o a0 = some out) : zok M 11 o = true := by
  unfold f_134 at h
  by_cases hok : zok M 11 o = true
  · exact hok
  · rw [if_neg hok] at h; cases h
set_option maxRecDepth 20000 in
theorem k_134 (d : Nat) {M : ZMem} {o : Nat} {a0 : Int32} {out : Int32} (h : f_134 M o a0 = some out) : zrn (d + 1) 134 [zrf (some o), .int a0] M (some (.int out), M) := by
  unfold f_134 at h
  by_cases hok : zok M 11 o = true
  · rw [if_pos hok] at h
    refine zrn_of (L := [(0, zrf (some o)), (1, .int a0)]) rfl ?_
    refine zo_iload_n (p' := 1) (zi_134 rfl) rfl rfl ?_
    refine zo_iconst (p' := 2) (v := 0) (zi_134 rfl) rfl rfl ?_
    refine zo_aload_n (p' := 3) (zi_134 rfl) rfl rfl ?_
    obtain ⟨r1, hx2, g19⟩ := zb_of h
    refine zo_getR (p' := 6) (zi_134 rfl) rfl zl_1_85 hx2 ?_
    obtain ⟨q3, h0, g20⟩ := zb_of g19
    subst h0
    obtain ⟨x4, hx5, g21⟩ := zb_of g20
    refine zo_getI (p' := 9) (zi_134 rfl) rfl zl_1_357 hx5 ?_
    refine zo_bipush (p' := 11) (v := 20) (zi_134 rfl) rfl rfl ?_
    obtain ⟨x6, hx7, g22⟩ := zb_of g21
    refine zo_callSi (p' := 14) (as := [.int x4, .int 20]) (r := [.int 0, .int a0]) (zi_134 rfl) rfl (Or.inl zl_1_216) rfl rfl (Nat.le_of_ble_eq_true rfl) (Nat.le_of_ble_eq_true rfl) (k_37 _ hx7) ?_
    refine zo_iconst (p' := 15) (v := 1) (zi_134 rfl) rfl rfl ?_
    refine zo_isub (p' := 16) (zi_134 rfl) rfl ?_
    obtain ⟨x8, hx9, g23⟩ := zb_of g22
    refine zo_callSi (p' := 19) (as := [.int a0, .int 0, .int ((x6 - 1))]) (r := []) (zi_134 rfl) rfl (Or.inl zl_1_96) rfl rfl (Nat.le_of_ble_eq_true rfl) (Nat.le_of_ble_eq_true rfl) (k_14 _ hx9) ?_
    by_cases hc10 : x8 = 0
    · rw [if_pos hc10] at g23
      refine zo_ifT (p' := 34) (zi_134 rfl) rfl hc10 ?_
      refine zo_iconst (p' := 35) (v := (-1)) (zi_134 rfl) rfl rfl ?_
      have g24 := Option.some.inj g23
      subst g24
      exact zo_iret (zi_134 rfl) rfl ⟨rfl, rfl⟩
    · rw [if_neg hc10] at g23
      refine zo_ifF (p' := 22) (zi_134 rfl) rfl rfl hc10 ?_
      refine zo_aload_n (p' := 23) (zi_134 rfl) rfl rfl ?_
      obtain ⟨r11, hx12, g25⟩ := zb_of g23
      refine zo_getR (p' := 26) (zi_134 rfl) rfl zl_1_85 hx12 ?_
      obtain ⟨q13, h0, g26⟩ := zb_of g25
      subst h0
      obtain ⟨r14, hx15, g27⟩ := zb_of g26
      refine zo_getR (p' := 29) (zi_134 rfl) rfl zl_1_364 hx15 ?_
      refine zo_iload_n (p' := 30) (zi_134 rfl) rfl rfl ?_
      obtain ⟨q16, h0, g28⟩ := zb_of g27
      subst h0
      obtain ⟨x17, hx18, g29⟩ := zb_of g28
      refine zo_iald (p' := 31) (zi_134 rfl) rfl hx18 ?_
      refine zo_goto (p' := 35) (zi_134 rfl) rfl ?_
      have g30 := Option.some.inj g29
      subst g30
      exact zo_iret (zi_134 rfl) rfl ⟨rfl, rfl⟩
  · rw [if_neg hok] at h; cases h
/-- SlateHalves.taken(II)I -/
def f_135_41 : Nat → ZMem → Int32 → Option Nat → Int32 → Int32 → Option (Int32)
  | 0, _, _, _, _, _ => none
  | z + 1, M, b0, b1, b2, b3 => if 6 < b3 then (some (-12)) else (zb (f_14 M b2 0 6) fun x28 => if x28 = 0 then (some (-12)) else (if ¬ b2 = b0 then (zb (zai M 1 b2) fun x32 => f_135_41 z M b0 b1 x32 ((b3 + 1))) else (zb b1 fun q34 => zb (zgi M 1 1 q34) fun x35 => some x35)))
set_option maxRecDepth 20000 in
theorem k_135_41 (d : Nat) : ∀ (z : Nat) (M : ZMem) (b0 : Int32) (b1 : Option Nat) (b2 : Int32) (b3 : Int32) (out : Int32), f_135_41 z M b0 b1 b2 b3 = some out → zgo none (d + 2) 135 41 [(2, .int b0), (3, zrf b1), (4, .int b2), (5, .int b3)] [] M (some (.int out), M) := by
  intro z
  induction z with
  | zero => intro M b0 b1 b2 b3 out h; cases h
  | succ z ih =>
    intro M b0 b1 b2 b3 out h
    rw [f_135_41] at h
    refine zo_iload (p' := 43) (zi_135 rfl) rfl rfl ?_
    refine zo_bipush (p' := 45) (v := 6) (zi_135 rfl) rfl rfl ?_
    by_cases hc27 : 6 < b3
    · rw [if_pos hc27] at h
      refine zo_icT (p' := 84) (zi_135 rfl) rfl hc27 ?_
      refine zo_bipush (p' := 86) (v := (-12)) (zi_135 rfl) rfl rfl ?_
      have g37 := Option.some.inj h
      subst g37
      exact zo_iret (zi_135 rfl) rfl ⟨rfl, rfl⟩
    · rw [if_neg hc27] at h
      refine zo_icF (p' := 48) (zi_135 rfl) rfl rfl hc27 ?_
      refine zo_iload (p' := 50) (zi_135 rfl) rfl rfl ?_
      refine zo_iconst (p' := 51) (v := 0) (zi_135 rfl) rfl rfl ?_
      refine zo_bipush (p' := 53) (v := 6) (zi_135 rfl) rfl rfl ?_
      obtain ⟨x28, hx29, g38⟩ := zb_of h
      refine zo_callSi (p' := 56) (as := [.int b2, .int 0, .int 6]) (r := []) (zi_135 rfl) rfl (Or.inl zl_1_96) rfl rfl (Nat.le_of_ble_eq_true rfl) (Nat.le_of_ble_eq_true rfl) (k_14 _ hx29) ?_
      by_cases hc30 : x28 = 0
      · rw [if_pos hc30] at g38
        refine zo_ifT (p' := 84) (zi_135 rfl) rfl hc30 ?_
        refine zo_bipush (p' := 86) (v := (-12)) (zi_135 rfl) rfl rfl ?_
        have g39 := Option.some.inj g38
        subst g39
        exact zo_iret (zi_135 rfl) rfl ⟨rfl, rfl⟩
      · rw [if_neg hc30] at g38
        refine zo_ifF (p' := 59) (zi_135 rfl) rfl rfl hc30 ?_
        refine zo_iload (p' := 61) (zi_135 rfl) rfl rfl ?_
        refine zo_iload_n (p' := 62) (zi_135 rfl) rfl rfl ?_
        by_cases hc31 : ¬ b2 = b0
        · rw [if_pos hc31] at g38
          refine zo_icT (p' := 70) (zi_135 rfl) rfl hc31 ?_
          refine zo_gets0 (p' := 73) (zi_135 rfl) rfl zl_1_367 ?_
          refine zo_iload (p' := 75) (zi_135 rfl) rfl rfl ?_
          obtain ⟨x32, hx33, g40⟩ := zb_of g38
          refine zo_iald (p' := 76) (zi_135 rfl) rfl hx33 ?_
          refine zo_istore (p' := 78) (L' := [(2, .int b0), (3, zrf b1), (4, .int x32), (5, .int b3)]) (zi_135 rfl) rfl zm_135_4 ⟨Or.inr ⟨by decide, rfl, fun q => absurd q (by decide)⟩, ⟨Or.inr ⟨by decide, rfl, fun _ => zrf_cat _⟩, ⟨Or.inl ⟨rfl, rfl⟩, ⟨Or.inr ⟨by decide, rfl, fun q => absurd q (by decide)⟩, trivial⟩⟩⟩⟩ ?_
          refine zo_iinc (p' := 81) (v := (b3 + 1)) (L' := [(2, .int b0), (3, zrf b1), (4, .int x32), (5, .int ((b3 + 1)))]) (zi_135 rfl) rfl zm_135_5 rfl rfl ⟨Or.inr ⟨by decide, rfl, fun q => absurd q (by decide)⟩, ⟨Or.inr ⟨by decide, rfl, fun q => absurd q (by decide)⟩, ⟨Or.inr ⟨by decide, rfl, fun _ => rfl⟩, ⟨Or.inl ⟨rfl, rfl⟩, trivial⟩⟩⟩⟩ ?_
          refine zo_goto (p' := 41) (zi_135 rfl) rfl ?_
          refine zgo_sub (L' := [(2, .int b0), (3, zrf b1), (4, .int x32), (5, .int (((b3 + 1))))]) (⟨rfl, rfl, rfl, rfl, trivial⟩) ?_
          exact ih M b0 b1 x32 ((b3 + 1)) _ g40
        · rw [if_neg hc31] at g38
          refine zo_icF (p' := 65) (zi_135 rfl) rfl rfl hc31 ?_
          refine zo_aload_n (p' := 66) (zi_135 rfl) rfl rfl ?_
          obtain ⟨q34, h0, g41⟩ := zb_of g38
          subst h0
          obtain ⟨x35, hx36, g42⟩ := zb_of g41
          refine zo_getI (p' := 69) (zi_135 rfl) rfl zl_1_120 hx36 ?_
          have g43 := Option.some.inj g42
          subst g43
          exact zo_iret (zi_135 rfl) rfl ⟨rfl, rfl⟩
def f_135 (M : ZMem) (o : Nat) (a0 : Int32) (a1 : Int32) : Option (Int32) := if zok M 11 o = true then (zb (f_14 M a1 0 6) fun x1 => if ¬ x1 = 0 then (zb (zgr M 11 0 o) fun r4 => zb r4 fun q6 => zb (zgr M 7 0 q6) fun r7 => zb r7 fun q9 => zb (f_19 M q9 a0) fun r10 => zcs r10 (some (-11)) (fun q12 => zb (zgi M 1 1 q12) fun x14 => f_135_41 zF M a1 (some q12) x14 0)) else (some (-2))) else none
theorem f_135_ok {M : ZMem} {o : Nat} {a0 : Int32} {a1 : Int32} {out : Int32} (h : f_135 M o a0 a1 = some out) : zok M 11 o = true := by
  unfold f_135 at h
  by_cases hok : zok M 11 o = true
  · exact hok
  · rw [if_neg hok] at h; cases h
set_option maxRecDepth 20000 in
theorem k_135 (d : Nat) {M : ZMem} {o : Nat} {a0 : Int32} {a1 : Int32} {out : Int32} (h : f_135 M o a0 a1 = some out) : zrn (d + 2) 135 [zrf (some o), .int a0, .int a1] M (some (.int out), M) := by
  unfold f_135 at h
  by_cases hok : zok M 11 o = true
  · rw [if_pos hok] at h
    refine zrn_of (L := [(0, zrf (some o)), (1, .int a0), (2, .int a1)]) rfl ?_
    refine zo_iload_n (p' := 1) (zi_135 rfl) rfl rfl ?_
    refine zo_iconst (p' := 2) (v := 0) (zi_135 rfl) rfl rfl ?_
    refine zo_bipush (p' := 4) (v := 6) (zi_135 rfl) rfl rfl ?_
    obtain ⟨x1, hx2, g16⟩ := zb_of h
    refine zo_callSi (p' := 7) (as := [.int a1, .int 0, .int 6]) (r := []) (zi_135 rfl) rfl (Or.inl zl_1_96) rfl rfl (Nat.le_of_ble_eq_true rfl) (Nat.le_of_ble_eq_true rfl) (k_14 _ hx2) ?_
    by_cases hc3 : ¬ x1 = 0
    · rw [if_pos hc3] at g16
      refine zo_ifT (p' := 13) (zi_135 rfl) rfl hc3 ?_
      refine zo_aload_n (p' := 14) (zi_135 rfl) rfl rfl ?_
      obtain ⟨r4, hx5, g17⟩ := zb_of g16
      refine zo_getR (p' := 17) (zi_135 rfl) rfl zl_1_14 hx5 ?_
      obtain ⟨q6, h0, g18⟩ := zb_of g17
      subst h0
      obtain ⟨r7, hx8, g19⟩ := zb_of g18
      refine zo_getR (p' := 20) (zi_135 rfl) rfl zl_1_100 hx8 ?_
      refine zo_iload_n (p' := 21) (zi_135 rfl) rfl rfl ?_
      obtain ⟨q9, h0, g20⟩ := zb_of g19
      subst h0
      obtain ⟨r10, hx11, g21⟩ := zb_of g20
      refine zo_callVa (p' := 24) (t := 10) (as := [.int a0]) (r := []) (zi_135 rfl) rfl zl_1_116 rfl rfl (Or.inl ⟨by decide, rfl⟩) (Nat.le_of_ble_eq_true rfl) (Nat.le_of_ble_eq_true rfl) (f_19_ok hx11) (k_19 _ hx11) ?_
      refine zo_astore_n (p' := 25) (L' := [(0, zrf (some o)), (1, .int a0), (2, .int a1), (3, zrf r10)]) (zi_135 rfl) rfl zm_135_3 ⟨Or.inr ⟨by decide, rfl, fun q => absurd q (by decide)⟩, ⟨Or.inr ⟨by decide, rfl, fun q => absurd q (by decide)⟩, ⟨Or.inr ⟨by decide, rfl, fun _ => rfl⟩, ⟨Or.inl ⟨rfl, rfl⟩, trivial⟩⟩⟩⟩ ?_
      refine zo_aload_n (p' := 26) (zi_135 rfl) rfl rfl ?_
      rcases r10 with _ | q12
      · have g22 := zcs_none g21
        refine zo_nonnullF (p' := 29) (zi_135 rfl) rfl ?_
        refine zo_bipush (p' := 31) (v := (-11)) (zi_135 rfl) rfl rfl ?_
        have g23 := Option.some.inj g22
        subst g23
        exact zo_iret (zi_135 rfl) rfl ⟨rfl, rfl⟩
      · obtain ⟨hq13, g24⟩ := zcs_some g21
        refine zo_nonnullT (p' := 32) (zi_135 rfl) rfl hq13 ?_
        refine zo_aload_n (p' := 33) (zi_135 rfl) rfl rfl ?_
        obtain ⟨x14, hx15, g25⟩ := zb_of g24
        refine zo_getI (p' := 36) (zi_135 rfl) rfl zl_1_120 hx15 ?_
        refine zo_istore (p' := 38) (L' := [(0, zrf (some o)), (1, .int a0), (2, .int a1), (3, zrf (some q12)), (4, .int x14)]) (zi_135 rfl) rfl zm_135_4 ⟨Or.inr ⟨by decide, rfl, fun q => absurd q (by decide)⟩, ⟨Or.inr ⟨by decide, rfl, fun q => absurd q (by decide)⟩, ⟨Or.inr ⟨by decide, rfl, fun q => absurd q (by decide)⟩, ⟨Or.inr ⟨by decide, rfl, fun _ => zrf_cat _⟩, ⟨Or.inl ⟨rfl, rfl⟩, trivial⟩⟩⟩⟩⟩ ?_
        refine zo_iconst (p' := 39) (v := 0) (zi_135 rfl) rfl rfl ?_
        refine zo_istore (p' := 41) (L' := [(0, zrf (some o)), (1, .int a0), (2, .int a1), (3, zrf (some q12)), (4, .int x14), (5, .int 0)]) (zi_135 rfl) rfl zm_135_5 ⟨Or.inr ⟨by decide, rfl, fun q => absurd q (by decide)⟩, ⟨Or.inr ⟨by decide, rfl, fun q => absurd q (by decide)⟩, ⟨Or.inr ⟨by decide, rfl, fun q => absurd q (by decide)⟩, ⟨Or.inr ⟨by decide, rfl, fun q => absurd q (by decide)⟩, ⟨Or.inr ⟨by decide, rfl, fun _ => rfl⟩, ⟨Or.inl ⟨rfl, rfl⟩, trivial⟩⟩⟩⟩⟩⟩ ?_
        refine zgo_sub (L' := [(2, .int a1), (3, zrf ((some q12))), (4, .int x14), (5, .int 0)]) (⟨rfl, rfl, rfl, rfl, trivial⟩) ?_
        exact k_135_41 _ zF M a1 (some q12) x14 0 _ g25
    · rw [if_neg hc3] at g16
      refine zo_ifF (p' := 10) (zi_135 rfl) rfl rfl hc3 ?_
      refine zo_bipush (p' := 12) (v := (-2)) (zi_135 rfl) rfl rfl ?_
      have g26 := Option.some.inj g16
      subst g26
      exact zo_iret (zi_135 rfl) rfl ⟨rfl, rfl⟩
  · rw [if_neg hok] at h; cases h
/-- SlateHalves.count(I)I -/
def f_136 (M : ZMem) (o : Nat) (a0 : Int32) : Option (Int32) := if zok M 11 o = true then (if a0 = 0 then (zb (zgr M 11 0 o) fun r8 => zb r8 fun q10 => zb (zgr M 7 0 q10) fun r11 => zb r11 fun q13 => zb (zgi M 10 1 q13) fun x14 => some x14) else (if a0 = 1 then (zb (zgi M 11 7 o) fun x16 => some x16) else (if a0 = 2 then (zb (zgr M 11 0 o) fun r18 => zb r18 fun q20 => zb (zgr M 7 1 q20) fun r21 => zb r21 fun q23 => zb (zgi M 6 4 q23) fun x24 => some x24) else (if a0 = 3 then (zb (zgr M 11 0 o) fun r26 => zb r26 fun q28 => zb (zgr M 7 2 q28) fun r29 => zb r29 fun q31 => zb (zgi M 6 4 q31) fun x32 => some x32) else (if a0 = 4 then (zb (zgr M 11 0 o) fun r34 => zb r34 fun q36 => zb (zgr M 7 3 q36) fun r37 => zb r37 fun q39 => zb (zgi M 6 4 q39) fun x40 => some x40) else (if a0 = 5 then (zb (zgi M 11 5 o) fun x42 => some x42) else (if a0 = 6 then (zb (zgr M 11 13 o) fun r44 => zb r44 fun q46 => zb (zgi M 0 1 q46) fun x47 => some x47) else (some (-2))))))))) else none
theorem f_136_ok {M : ZMem} {o : Nat} {a0 : Int32} {out : Int32} (h : f_136 M o a0 = some out) : zok M 11 o = true := by
  unfold f_136 at h
  by_cases hok : zok M 11 o = true
  · exact hok
  · rw [if_neg hok] at h; cases h
set_option maxRecDepth 20000 in
theorem k_136 (d : Nat) {M : ZMem} {o : Nat} {a0 : Int32} {out : Int32} (h : f_136 M o a0 = some out) : zrn (d) 136 [zrf (some o), .int a0] M (some (.int out), M) := by
  unfold f_136 at h
  by_cases hok : zok M 11 o = true
  · rw [if_pos hok] at h
    refine zrn_of (L := [(0, zrf (some o)), (1, .int a0)]) rfl ?_
    refine zo_iload_n (p' := 1) (zi_136 rfl) rfl rfl ?_
    by_cases hc1 : a0 = 0
    · rw [if_pos hc1] at h
      refine zo_table (p' := 44) (n := 43) (zi_136 rfl) (by decide) (zsel_hit hc1 (by decide)) rfl ?_
      refine zo_aload_n (p' := 45) (zi_136 rfl) rfl rfl ?_
      obtain ⟨r8, hx9, g49⟩ := zb_of h
      refine zo_getR (p' := 48) (zi_136 rfl) rfl zl_1_14 hx9 ?_
      obtain ⟨q10, h0, g50⟩ := zb_of g49
      subst h0
      obtain ⟨r11, hx12, g51⟩ := zb_of g50
      refine zo_getR (p' := 51) (zi_136 rfl) rfl zl_1_100 hx12 ?_
      obtain ⟨q13, h0, g52⟩ := zb_of g51
      subst h0
      obtain ⟨x14, hx15, g53⟩ := zb_of g52
      refine zo_getI (p' := 54) (zi_136 rfl) rfl zl_1_261 hx15 ?_
      have g54 := Option.some.inj g53
      subst g54
      exact zo_iret (zi_136 rfl) rfl ⟨rfl, rfl⟩
    · rw [if_neg hc1] at h
      by_cases hc2 : a0 = 1
      · rw [if_pos hc2] at h
        refine zo_table (p' := 55) (n := 54) (zi_136 rfl) (by decide) (zsel_skip hc1 (by decide) (zsel_hit hc2 (by decide))) rfl ?_
        refine zo_aload_n (p' := 56) (zi_136 rfl) rfl rfl ?_
        obtain ⟨x16, hx17, g55⟩ := zb_of h
        refine zo_getI (p' := 59) (zi_136 rfl) rfl zl_1_46 hx17 ?_
        have g56 := Option.some.inj g55
        subst g56
        exact zo_iret (zi_136 rfl) rfl ⟨rfl, rfl⟩
      · rw [if_neg hc2] at h
        by_cases hc3 : a0 = 2
        · rw [if_pos hc3] at h
          refine zo_table (p' := 60) (n := 59) (zi_136 rfl) (by decide) (zsel_skip hc1 (by decide) (zsel_skip hc2 (by decide) (zsel_hit hc3 (by decide)))) rfl ?_
          refine zo_aload_n (p' := 61) (zi_136 rfl) rfl rfl ?_
          obtain ⟨r18, hx19, g57⟩ := zb_of h
          refine zo_getR (p' := 64) (zi_136 rfl) rfl zl_1_14 hx19 ?_
          obtain ⟨q20, h0, g58⟩ := zb_of g57
          subst h0
          obtain ⟨r21, hx22, g59⟩ := zb_of g58
          refine zo_getR (p' := 67) (zi_136 rfl) rfl zl_1_283 hx22 ?_
          obtain ⟨q23, h0, g60⟩ := zb_of g59
          subst h0
          obtain ⟨x24, hx25, g61⟩ := zb_of g60
          refine zo_getI (p' := 70) (zi_136 rfl) rfl zl_1_287 hx25 ?_
          have g62 := Option.some.inj g61
          subst g62
          exact zo_iret (zi_136 rfl) rfl ⟨rfl, rfl⟩
        · rw [if_neg hc3] at h
          by_cases hc4 : a0 = 3
          · rw [if_pos hc4] at h
            refine zo_table (p' := 71) (n := 70) (zi_136 rfl) (by decide) (zsel_skip hc1 (by decide) (zsel_skip hc2 (by decide) (zsel_skip hc3 (by decide) (zsel_hit hc4 (by decide))))) rfl ?_
            refine zo_aload_n (p' := 72) (zi_136 rfl) rfl rfl ?_
            obtain ⟨r26, hx27, g63⟩ := zb_of h
            refine zo_getR (p' := 75) (zi_136 rfl) rfl zl_1_14 hx27 ?_
            obtain ⟨q28, h0, g64⟩ := zb_of g63
            subst h0
            obtain ⟨r29, hx30, g65⟩ := zb_of g64
            refine zo_getR (p' := 78) (zi_136 rfl) rfl zl_1_327 hx30 ?_
            obtain ⟨q31, h0, g66⟩ := zb_of g65
            subst h0
            obtain ⟨x32, hx33, g67⟩ := zb_of g66
            refine zo_getI (p' := 81) (zi_136 rfl) rfl zl_1_287 hx33 ?_
            have g68 := Option.some.inj g67
            subst g68
            exact zo_iret (zi_136 rfl) rfl ⟨rfl, rfl⟩
          · rw [if_neg hc4] at h
            by_cases hc5 : a0 = 4
            · rw [if_pos hc5] at h
              refine zo_table (p' := 82) (n := 81) (zi_136 rfl) (by decide) (zsel_skip hc1 (by decide) (zsel_skip hc2 (by decide) (zsel_skip hc3 (by decide) (zsel_skip hc4 (by decide) (zsel_hit hc5 (by decide)))))) rfl ?_
              refine zo_aload_n (p' := 83) (zi_136 rfl) rfl rfl ?_
              obtain ⟨r34, hx35, g69⟩ := zb_of h
              refine zo_getR (p' := 86) (zi_136 rfl) rfl zl_1_14 hx35 ?_
              obtain ⟨q36, h0, g70⟩ := zb_of g69
              subst h0
              obtain ⟨r37, hx38, g71⟩ := zb_of g70
              refine zo_getR (p' := 89) (zi_136 rfl) rfl zl_1_340 hx38 ?_
              obtain ⟨q39, h0, g72⟩ := zb_of g71
              subst h0
              obtain ⟨x40, hx41, g73⟩ := zb_of g72
              refine zo_getI (p' := 92) (zi_136 rfl) rfl zl_1_287 hx41 ?_
              have g74 := Option.some.inj g73
              subst g74
              exact zo_iret (zi_136 rfl) rfl ⟨rfl, rfl⟩
            · rw [if_neg hc5] at h
              by_cases hc6 : a0 = 5
              · rw [if_pos hc6] at h
                refine zo_table (p' := 93) (n := 92) (zi_136 rfl) (by decide) (zsel_skip hc1 (by decide) (zsel_skip hc2 (by decide) (zsel_skip hc3 (by decide) (zsel_skip hc4 (by decide) (zsel_skip hc5 (by decide) (zsel_hit hc6 (by decide))))))) rfl ?_
                refine zo_aload_n (p' := 94) (zi_136 rfl) rfl rfl ?_
                obtain ⟨x42, hx43, g75⟩ := zb_of h
                refine zo_getI (p' := 97) (zi_136 rfl) rfl zl_1_36 hx43 ?_
                have g76 := Option.some.inj g75
                subst g76
                exact zo_iret (zi_136 rfl) rfl ⟨rfl, rfl⟩
              · rw [if_neg hc6] at h
                by_cases hc7 : a0 = 6
                · rw [if_pos hc7] at h
                  refine zo_table (p' := 98) (n := 97) (zi_136 rfl) (by decide) (zsel_skip hc1 (by decide) (zsel_skip hc2 (by decide) (zsel_skip hc3 (by decide) (zsel_skip hc4 (by decide) (zsel_skip hc5 (by decide) (zsel_skip hc6 (by decide) (zsel_hit hc7 (by decide)))))))) rfl ?_
                  refine zo_aload_n (p' := 99) (zi_136 rfl) rfl rfl ?_
                  obtain ⟨r44, hx45, g77⟩ := zb_of h
                  refine zo_getR (p' := 102) (zi_136 rfl) rfl zl_1_85 hx45 ?_
                  obtain ⟨q46, h0, g78⟩ := zb_of g77
                  subst h0
                  obtain ⟨x47, hx48, g79⟩ := zb_of g78
                  refine zo_getI (p' := 105) (zi_136 rfl) rfl zl_1_357 hx48 ?_
                  have g80 := Option.some.inj g79
                  subst g80
                  exact zo_iret (zi_136 rfl) rfl ⟨rfl, rfl⟩
                · rw [if_neg hc7] at h
                  refine zo_table (p' := 106) (n := 105) (zi_136 rfl) (by decide) (zsel_skip hc1 (by decide) (zsel_skip hc2 (by decide) (zsel_skip hc3 (by decide) (zsel_skip hc4 (by decide) (zsel_skip hc5 (by decide) (zsel_skip hc6 (by decide) (zsel_skip hc7 (by decide) (rfl)))))))) rfl ?_
                  refine zo_bipush (p' := 108) (v := (-2)) (zi_136 rfl) rfl rfl ?_
                  have g81 := Option.some.inj h
                  subst g81
                  exact zo_iret (zi_136 rfl) rfl ⟨rfl, rfl⟩
  · rw [if_neg hok] at h; cases h
/-- SlateHalves$Tape.becomeNothing()V -/
def f_138 (M : ZMem) (o : Nat) : Option (ZMem) := if zok M 8 o = true then (zb (zpf M 8 1 o (.int ((-1))) false) fun M1 => zb (zpf M1 8 2 o (.int 0) false) fun M3 => some M3) else none
theorem f_138_ok {M : ZMem} {o : Nat} {out : ZMem} (h : f_138 M o = some out) : zok M 8 o = true := by
  unfold f_138 at h
  by_cases hok : zok M 8 o = true
  · exact hok
  · rw [if_neg hok] at h; cases h
set_option maxRecDepth 20000 in
theorem k_138 (d : Nat) {M : ZMem} {o : Nat} {out : ZMem} (h : f_138 M o = some out) : zrn (d) 138 [zrf (some o)] M (none, out) := by
  unfold f_138 at h
  by_cases hok : zok M 8 o = true
  · rw [if_pos hok] at h
    refine zrn_of (L := [(0, zrf (some o))]) rfl ?_
    refine zo_aload_n (p' := 1) (zi_138 rfl) rfl rfl ?_
    refine zo_iconst (p' := 2) (v := (-1)) (zi_138 rfl) rfl rfl ?_
    obtain ⟨M1, hx2, g5⟩ := zb_of h
    refine zo_putI (p' := 5) (zi_138 rfl) rfl zl_12_15 (zpb_138 _) hx2 ?_
    refine zo_aload_n (p' := 6) (zi_138 rfl) rfl rfl ?_
    refine zo_iconst (p' := 7) (v := 0) (zi_138 rfl) rfl rfl ?_
    obtain ⟨M3, hx4, g6⟩ := zb_of g5
    refine zo_putI (p' := 10) (zi_138 rfl) rfl zl_12_19 (zpb_138 _) hx4 ?_
    have g7 := Option.some.inj g6
    subst g7
    exact zo_vret (zi_138 rfl) rfl
  · rw [if_neg hok] at h; cases h
/-- java/util/Arrays.fill([JJ)V -/
def f_140_6 : Nat → ZMem → Option Nat → Int64 → Int32 → Int32 → Option (ZMem)
  | 0, _, _, _, _, _ => none
  | z + 1, M, b0, b1, b2, b3 => if b3 ≤ b2 then (some M) else (zb b0 fun q7 => zb (zsaL M q7 b2 b1) fun M8 => f_140_6 z M8 (some q7) b1 ((b2 + 1)) b3)
set_option maxRecDepth 20000 in
theorem k_140_6 (d : Nat) : ∀ (z : Nat) (M : ZMem) (b0 : Option Nat) (b1 : Int64) (b2 : Int32) (b3 : Int32) (out : ZMem), f_140_6 z M b0 b1 b2 b3 = some out → zgo none (d) 140 6 [(0, zrf b0), (1, .long b1), (3, .int b2), (4, .int b3)] [] M (none, out) := by
  intro z
  induction z with
  | zero => intro M b0 b1 b2 b3 out h; cases h
  | succ z ih =>
    intro M b0 b1 b2 b3 out h
    rw [f_140_6] at h
    refine zo_iload_n (p' := 7) (zi_140 rfl) rfl rfl ?_
    refine zo_iload (p' := 9) (zi_140 rfl) rfl rfl ?_
    by_cases hc6 : b3 ≤ b2
    · rw [if_pos hc6] at h
      refine zo_icT (p' := 22) (zi_140 rfl) rfl hc6 ?_
      have g10 := Option.some.inj h
      subst g10
      exact zo_vret (zi_140 rfl) rfl
    · rw [if_neg hc6] at h
      refine zo_icF (p' := 12) (zi_140 rfl) rfl rfl hc6 ?_
      refine zo_aload_n (p' := 13) (zi_140 rfl) rfl rfl ?_
      refine zo_iload_n (p' := 14) (zi_140 rfl) rfl rfl ?_
      refine zo_lload_n (p' := 15) (zi_140 rfl) rfl rfl ?_
      obtain ⟨q7, h0, g11⟩ := zb_of h
      subst h0
      obtain ⟨M8, hx9, g12⟩ := zb_of g11
      refine zo_last (p' := 16) (zi_140 rfl) rfl hx9 ?_
      refine zo_iinc (p' := 19) (v := (b2 + 1)) (L' := [(0, zrf (some q7)), (1, .long b1), (3, .int ((b2 + 1))), (4, .int b3)]) (zi_140 rfl) rfl zm_140_3 rfl rfl ⟨Or.inr ⟨by decide, rfl, fun q => absurd q (by decide)⟩, ⟨Or.inr ⟨by decide, rfl, fun q => absurd q (by decide)⟩, ⟨Or.inl ⟨rfl, rfl⟩, ⟨Or.inr ⟨by decide, rfl, fun q => absurd q (by decide)⟩, trivial⟩⟩⟩⟩ ?_
      refine zo_goto (p' := 6) (zi_140 rfl) rfl ?_
      refine zgo_sub (L' := [(0, zrf ((some q7))), (1, .long b1), (3, .int (((b2 + 1)))), (4, .int b3)]) (⟨rfl, rfl, rfl, rfl, trivial⟩) ?_
      exact ih M8 (some q7) b1 ((b2 + 1)) b3 _ g12
def f_140 (M : ZMem) (a0 : Option Nat) (a1 : Int64) : Option (ZMem) := zb a0 fun q1 => zb (zlen none M q1) fun x2 => f_140_6 zF M (some q1) a1 0 x2
set_option maxRecDepth 20000 in
theorem k_140 (d : Nat) {M : ZMem} {a0 : Option Nat} {a1 : Int64} {out : ZMem} (h : f_140 M a0 a1 = some out) : zrn (d) 140 [zrf a0, .long a1] M (none, out) := by
  unfold f_140 at h
  refine zrn_of (L := [(0, zrf a0), (1, .long a1)]) (by simp [lv_args, zrf_cat, zcat_i, zcat_l, zcat_r]) ?_
  refine zo_iconst (p' := 1) (v := 0) (zi_140 rfl) rfl rfl ?_
  refine zo_istore_n (p' := 2) (L' := [(0, zrf a0), (1, .long a1), (3, .int 0)]) (zi_140 rfl) rfl zm_140_3 ⟨Or.inr ⟨by decide, rfl, fun q => absurd q (by decide)⟩, ⟨Or.inr ⟨by decide, rfl, fun q => absurd q (by decide)⟩, ⟨Or.inl ⟨rfl, rfl⟩, trivial⟩⟩⟩ ?_
  refine zo_aload_n (p' := 3) (zi_140 rfl) rfl rfl ?_
  obtain ⟨q1, h0, g4⟩ := zb_of h
  subst h0
  obtain ⟨x2, hx3, g5⟩ := zb_of g4
  refine zo_alen (p' := 4) (zi_140 rfl) rfl hx3 ?_
  refine zo_istore (p' := 6) (L' := [(0, zrf (some q1)), (1, .long a1), (3, .int 0), (4, .int x2)]) (zi_140 rfl) rfl zm_140_4 ⟨Or.inr ⟨by decide, rfl, fun q => absurd q (by decide)⟩, ⟨Or.inr ⟨by decide, rfl, fun q => absurd q (by decide)⟩, ⟨Or.inr ⟨by decide, rfl, fun _ => rfl⟩, ⟨Or.inl ⟨rfl, rfl⟩, trivial⟩⟩⟩⟩ ?_
  refine zgo_sub (L' := [(0, zrf ((some q1))), (1, .long a1), (3, .int 0), (4, .int x2)]) (⟨rfl, rfl, rfl, rfl, trivial⟩) ?_
  exact k_140_6 _ zF M (some q1) a1 0 x2 _ g5
/-- SlateHalves$Tape.become(II)V -/
def f_139 (M : ZMem) (o : Nat) (a0 : Int32) (a1 : Int32) : Option (ZMem) := if zok M 8 o = true then (zb (zpf M 8 1 o (.int a0) false) fun M1 => zb (zpf M1 8 2 o (.int a1) false) fun M3 => zb (zgr M3 8 0 o) fun r5 => zb (f_140 M3 r5 0) fun M9 => some M9) else none
theorem f_139_ok {M : ZMem} {o : Nat} {a0 : Int32} {a1 : Int32} {out : ZMem} (h : f_139 M o a0 a1 = some out) : zok M 8 o = true := by
  unfold f_139 at h
  by_cases hok : zok M 8 o = true
  · exact hok
  · rw [if_neg hok] at h; cases h
set_option maxRecDepth 20000 in
theorem k_139 (d : Nat) {M : ZMem} {o : Nat} {a0 : Int32} {a1 : Int32} {out : ZMem} (h : f_139 M o a0 a1 = some out) : zrn (d + 1) 139 [zrf (some o), .int a0, .int a1] M (none, out) := by
  unfold f_139 at h
  by_cases hok : zok M 8 o = true
  · rw [if_pos hok] at h
    refine zrn_of (L := [(0, zrf (some o)), (1, .int a0), (2, .int a1)]) rfl ?_
    refine zo_aload_n (p' := 1) (zi_139 rfl) rfl rfl ?_
    refine zo_iload_n (p' := 2) (zi_139 rfl) rfl rfl ?_
    obtain ⟨M1, hx2, g10⟩ := zb_of h
    refine zo_putI (p' := 5) (zi_139 rfl) rfl zl_12_15 (zpb_139 _) hx2 ?_
    refine zo_aload_n (p' := 6) (zi_139 rfl) rfl rfl ?_
    refine zo_iload_n (p' := 7) (zi_139 rfl) rfl rfl ?_
    obtain ⟨M3, hx4, g11⟩ := zb_of g10
    refine zo_putI (p' := 10) (zi_139 rfl) rfl zl_12_19 (zpb_139 _) hx4 ?_
    refine zo_aload_n (p' := 11) (zi_139 rfl) rfl rfl ?_
    obtain ⟨r5, hx6, g12⟩ := zb_of g11
    refine zo_getR (p' := 14) (zi_139 rfl) rfl zl_12_9 hx6 ?_
    refine zo_lconst (p' := 15) (v := 0) (zi_139 rfl) rfl rfl ?_
    obtain ⟨M9, hx8, g13⟩ := zb_of g12
    refine zo_callSv (p' := 18) (as := [zrf r5, .long 0]) (r := []) (zi_139 rfl) rfl (Or.inl zl_12_22) rfl rfl (Nat.le_of_ble_eq_true rfl) (by rw [zml_140]; simp [lg_sl, zrf_cat, zcat_i, zcat_l, zcat_r]; done) (k_140 _ hx8) ?_
    have g14 := Option.some.inj g13
    subst g14
    exact zo_vret (zi_139 rfl) rfl
  · rw [if_neg hok] at h; cases h
/-- SlateHalves.tape(III)I -/
def f_137 (M : ZMem) (o : Nat) (a0 : Int32) (a1 : Int32) (a2 : Int32) : Option (Int32 × ZMem) := if zok M 11 o = true then (zb (f_14 M a0 0 5) fun x1 => if ¬ x1 = 0 then (if ¬ a1 = (-1) then (zb (f_14 M a1 0 4) fun x5 => if x5 = 0 then (some ((-2), M)) else (if a2 ≤ 60 then (if 0 ≤ a2 then (zb (zgr M 11 14 o) fun r10 => zb r10 fun q12 => zb (zlaR M q12 a0) fun r13 => zb r13 fun q15 => zb (f_139 M q15 a1 a2) fun M18 => some (1, M18)) else (some ((-14), M))) else (some ((-2), M)))) else (zb (zgr M 11 14 o) fun r19 => zb r19 fun q21 => zb (zlaR M q21 a0) fun r22 => zb r22 fun q24 => zb (f_138 M q24) fun M27 => some (1, M27))) else (some ((-1), M))) else none
theorem f_137_ok {M : ZMem} {o : Nat} {a0 : Int32} {a1 : Int32} {a2 : Int32} {out : Int32 × ZMem} (h : f_137 M o a0 a1 a2 = some out) : zok M 11 o = true := by
  unfold f_137 at h
  by_cases hok : zok M 11 o = true
  · exact hok
  · rw [if_neg hok] at h; cases h
set_option maxRecDepth 20000 in
theorem k_137 (d : Nat) {M : ZMem} {o : Nat} {a0 : Int32} {a1 : Int32} {a2 : Int32} {out : Int32 × ZMem} (h : f_137 M o a0 a1 a2 = some out) : zrn (d + 2) 137 [zrf (some o), .int a0, .int a1, .int a2] M (some (.int out.1), out.2) := by
  unfold f_137 at h
  by_cases hok : zok M 11 o = true
  · rw [if_pos hok] at h
    refine zrn_of (L := [(0, zrf (some o)), (1, .int a0), (2, .int a1), (3, .int a2)]) rfl ?_
    refine zo_iload_n (p' := 1) (zi_137 rfl) rfl rfl ?_
    refine zo_iconst (p' := 2) (v := 0) (zi_137 rfl) rfl rfl ?_
    refine zo_iconst (p' := 3) (v := 5) (zi_137 rfl) rfl rfl ?_
    obtain ⟨x1, hx2, g28⟩ := zb_of h
    refine zo_callSi (p' := 6) (as := [.int a0, .int 0, .int 5]) (r := []) (zi_137 rfl) rfl (Or.inl zl_1_96) rfl rfl (Nat.le_of_ble_eq_true rfl) (Nat.le_of_ble_eq_true rfl) (k_14 _ hx2) ?_
    by_cases hc3 : ¬ x1 = 0
    · rw [if_pos hc3] at g28
      refine zo_ifT (p' := 11) (zi_137 rfl) rfl hc3 ?_
      refine zo_iload_n (p' := 12) (zi_137 rfl) rfl rfl ?_
      refine zo_iconst (p' := 13) (v := (-1)) (zi_137 rfl) rfl rfl ?_
      by_cases hc4 : ¬ a1 = (-1)
      · rw [if_pos hc4] at g28
        refine zo_icT (p' := 27) (zi_137 rfl) rfl hc4 ?_
        refine zo_iload_n (p' := 28) (zi_137 rfl) rfl rfl ?_
        refine zo_iconst (p' := 29) (v := 0) (zi_137 rfl) rfl rfl ?_
        refine zo_iconst (p' := 30) (v := 4) (zi_137 rfl) rfl rfl ?_
        obtain ⟨x5, hx6, g29⟩ := zb_of g28
        refine zo_callSi (p' := 33) (as := [.int a1, .int 0, .int 4]) (r := []) (zi_137 rfl) rfl (Or.inl zl_1_96) rfl rfl (Nat.le_of_ble_eq_true rfl) (Nat.le_of_ble_eq_true rfl) (k_14 _ hx6) ?_
        by_cases hc7 : x5 = 0
        · rw [if_pos hc7] at g29
          refine zo_ifT (p' := 42) (zi_137 rfl) rfl hc7 ?_
          refine zo_bipush (p' := 44) (v := (-2)) (zi_137 rfl) rfl rfl ?_
          have g30 := Option.some.inj g29
          subst g30
          exact zo_iret (zi_137 rfl) rfl ⟨rfl, rfl⟩
        · rw [if_neg hc7] at g29
          refine zo_ifF (p' := 36) (zi_137 rfl) rfl rfl hc7 ?_
          refine zo_iload_n (p' := 37) (zi_137 rfl) rfl rfl ?_
          refine zo_bipush (p' := 39) (v := 60) (zi_137 rfl) rfl rfl ?_
          by_cases hc8 : a2 ≤ 60
          · rw [if_pos hc8] at g29
            refine zo_icT (p' := 45) (zi_137 rfl) rfl hc8 ?_
            refine zo_iload_n (p' := 46) (zi_137 rfl) rfl rfl ?_
            by_cases hc9 : 0 ≤ a2
            · rw [if_pos hc9] at g29
              refine zo_ifT (p' := 52) (zi_137 rfl) rfl hc9 ?_
              refine zo_aload_n (p' := 53) (zi_137 rfl) rfl rfl ?_
              obtain ⟨r10, hx11, g31⟩ := zb_of g29
              refine zo_getR (p' := 56) (zi_137 rfl) rfl zl_1_91 hx11 ?_
              refine zo_iload_n (p' := 57) (zi_137 rfl) rfl rfl ?_
              obtain ⟨q12, h0, g32⟩ := zb_of g31
              subst h0
              obtain ⟨r13, hx14, g33⟩ := zb_of g32
              refine zo_aald (p' := 58) (zi_137 rfl) rfl hx14 ?_
              refine zo_iload_n (p' := 59) (zi_137 rfl) rfl rfl ?_
              refine zo_iload_n (p' := 60) (zi_137 rfl) rfl rfl ?_
              obtain ⟨q15, h0, g34⟩ := zb_of g33
              subst h0
              obtain ⟨M18, hx17, g35⟩ := zb_of g34
              refine zo_callVv (p' := 63) (t := 8) (as := [.int a1, .int a2]) (r := []) (zi_137 rfl) rfl zl_1_373 rfl rfl (Or.inl ⟨by decide, rfl⟩) (Nat.le_of_ble_eq_true rfl) (Nat.le_of_ble_eq_true rfl) (f_139_ok hx17) (k_139 _ hx17) ?_
              refine zo_iconst (p' := 64) (v := 1) (zi_137 rfl) rfl rfl ?_
              have g36 := Option.some.inj g35
              subst g36
              exact zo_iret (zi_137 rfl) rfl ⟨rfl, rfl⟩
            · rw [if_neg hc9] at g29
              refine zo_ifF (p' := 49) (zi_137 rfl) rfl rfl hc9 ?_
              refine zo_bipush (p' := 51) (v := (-14)) (zi_137 rfl) rfl rfl ?_
              have g37 := Option.some.inj g29
              subst g37
              exact zo_iret (zi_137 rfl) rfl ⟨rfl, rfl⟩
          · rw [if_neg hc8] at g29
            refine zo_icF (p' := 42) (zi_137 rfl) rfl rfl hc8 ?_
            refine zo_bipush (p' := 44) (v := (-2)) (zi_137 rfl) rfl rfl ?_
            have g38 := Option.some.inj g29
            subst g38
            exact zo_iret (zi_137 rfl) rfl ⟨rfl, rfl⟩
      · rw [if_neg hc4] at g28
        refine zo_icF (p' := 16) (zi_137 rfl) rfl rfl hc4 ?_
        refine zo_aload_n (p' := 17) (zi_137 rfl) rfl rfl ?_
        obtain ⟨r19, hx20, g39⟩ := zb_of g28
        refine zo_getR (p' := 20) (zi_137 rfl) rfl zl_1_91 hx20 ?_
        refine zo_iload_n (p' := 21) (zi_137 rfl) rfl rfl ?_
        obtain ⟨q21, h0, g40⟩ := zb_of g39
        subst h0
        obtain ⟨r22, hx23, g41⟩ := zb_of g40
        refine zo_aald (p' := 22) (zi_137 rfl) rfl hx23 ?_
        obtain ⟨q24, h0, g42⟩ := zb_of g41
        subst h0
        obtain ⟨M27, hx26, g43⟩ := zb_of g42
        refine zo_callVv (p' := 25) (t := 8) (as := []) (r := []) (zi_137 rfl) rfl zl_1_370 rfl rfl (Or.inl ⟨by decide, rfl⟩) (Nat.le_of_ble_eq_true rfl) (Nat.le_of_ble_eq_true rfl) (f_138_ok hx26) (k_138 _ hx26) ?_
        refine zo_iconst (p' := 26) (v := 1) (zi_137 rfl) rfl rfl ?_
        have g44 := Option.some.inj g43
        subst g44
        exact zo_iret (zi_137 rfl) rfl ⟨rfl, rfl⟩
    · rw [if_neg hc3] at g28
      refine zo_ifF (p' := 9) (zi_137 rfl) rfl rfl hc3 ?_
      refine zo_iconst (p' := 10) (v := (-1)) (zi_137 rfl) rfl rfl ?_
      have g45 := Option.some.inj g28
      subst g45
      exact zo_iret (zi_137 rfl) rfl ⟨rfl, rfl⟩
  · rw [if_neg hok] at h; cases h
/-- SlateHalves$Tape.fit(J)J -/
def f_142 (M : ZMem) (o : Nat) (a0 : Int64) : Option (Int64) := if zok M 8 o = true then (zb (zgi M 8 1 o) fun x1 => if x1 = 0 then (some (Int32.toInt64 ((Int32.toInt8 (Int64.toInt32 a0)).toInt32))) else (if x1 = 1 then (some (Int32.toInt64 ((Int32.toInt16 (Int64.toInt32 a0)).toInt32))) else (if x1 = 2 then (some (Int32.toInt64 (Int64.toInt32 a0))) else (if x1 = 3 then (some a0) else (if (lg_cmp a0 0) = 0 then (some 0) else (some 1)))))) else none
theorem f_142_ok {M : ZMem} {o : Nat} {a0 : Int64} {out : Int64} (h : f_142 M o a0 = some out) : zok M 8 o = true := by
  unfold f_142 at h
  by_cases hok : zok M 8 o = true
  · exact hok
  · rw [if_neg hok] at h; cases h
set_option maxRecDepth 20000 in
theorem k_142 (d : Nat) {M : ZMem} {o : Nat} {a0 : Int64} {out : Int64} (h : f_142 M o a0 = some out) : zrn (d) 142 [zrf (some o), .long a0] M (some (.long out), M) := by
  unfold f_142 at h
  by_cases hok : zok M 8 o = true
  · rw [if_pos hok] at h
    refine zrn_of (L := [(0, zrf (some o)), (1, .long a0)]) rfl ?_
    refine zo_aload_n (p' := 1) (zi_142 rfl) rfl rfl ?_
    obtain ⟨x1, hx2, g8⟩ := zb_of h
    refine zo_getI (p' := 4) (zi_142 rfl) rfl zl_12_15 hx2 ?_
    by_cases hc3 : x1 = 0
    · rw [if_pos hc3] at g8
      refine zo_table (p' := 36) (n := 32) (zi_142 rfl) (by decide) (zsel_hit hc3 (by decide)) rfl ?_
      refine zo_lload_n (p' := 37) (zi_142 rfl) rfl rfl ?_
      refine zo_l2i (p' := 38) (zi_142 rfl) rfl ?_
      refine zo_i2b (p' := 39) (zi_142 rfl) rfl ?_
      refine zo_i2l (p' := 40) (zi_142 rfl) rfl ?_
      have g9 := Option.some.inj g8
      subst g9
      exact zo_lret (zi_142 rfl) rfl
    · rw [if_neg hc3] at g8
      by_cases hc4 : x1 = 1
      · rw [if_pos hc4] at g8
        refine zo_table (p' := 41) (n := 37) (zi_142 rfl) (by decide) (zsel_skip hc3 (by decide) (zsel_hit hc4 (by decide))) rfl ?_
        refine zo_lload_n (p' := 42) (zi_142 rfl) rfl rfl ?_
        refine zo_l2i (p' := 43) (zi_142 rfl) rfl ?_
        refine zo_i2s (p' := 44) (zi_142 rfl) rfl ?_
        refine zo_i2l (p' := 45) (zi_142 rfl) rfl ?_
        have g10 := Option.some.inj g8
        subst g10
        exact zo_lret (zi_142 rfl) rfl
      · rw [if_neg hc4] at g8
        by_cases hc5 : x1 = 2
        · rw [if_pos hc5] at g8
          refine zo_table (p' := 46) (n := 42) (zi_142 rfl) (by decide) (zsel_skip hc3 (by decide) (zsel_skip hc4 (by decide) (zsel_hit hc5 (by decide)))) rfl ?_
          refine zo_lload_n (p' := 47) (zi_142 rfl) rfl rfl ?_
          refine zo_l2i (p' := 48) (zi_142 rfl) rfl ?_
          refine zo_i2l (p' := 49) (zi_142 rfl) rfl ?_
          have g11 := Option.some.inj g8
          subst g11
          exact zo_lret (zi_142 rfl) rfl
        · rw [if_neg hc5] at g8
          by_cases hc6 : x1 = 3
          · rw [if_pos hc6] at g8
            refine zo_table (p' := 50) (n := 46) (zi_142 rfl) (by decide) (zsel_skip hc3 (by decide) (zsel_skip hc4 (by decide) (zsel_skip hc5 (by decide) (zsel_hit hc6 (by decide))))) rfl ?_
            refine zo_lload_n (p' := 51) (zi_142 rfl) rfl rfl ?_
            have g12 := Option.some.inj g8
            subst g12
            exact zo_lret (zi_142 rfl) rfl
          · rw [if_neg hc6] at g8
            refine zo_table (p' := 52) (n := 48) (zi_142 rfl) (by decide) (zsel_skip hc3 (by decide) (zsel_skip hc4 (by decide) (zsel_skip hc5 (by decide) (zsel_skip hc6 (by decide) (rfl))))) rfl ?_
            refine zo_lload_n (p' := 53) (zi_142 rfl) rfl rfl ?_
            refine zo_lconst (p' := 54) (v := 0) (zi_142 rfl) rfl rfl ?_
            refine zo_lcmp (p' := 55) (zi_142 rfl) rfl ?_
            by_cases hc7 : (lg_cmp a0 0) = 0
            · rw [if_pos hc7] at g8
              refine zo_ifT (p' := 62) (zi_142 rfl) rfl hc7 ?_
              refine zo_lconst (p' := 63) (v := 0) (zi_142 rfl) rfl rfl ?_
              have g13 := Option.some.inj g8
              subst g13
              exact zo_lret (zi_142 rfl) rfl
            · rw [if_neg hc7] at g8
              refine zo_ifF (p' := 58) (zi_142 rfl) rfl rfl hc7 ?_
              refine zo_lconst (p' := 59) (v := 1) (zi_142 rfl) rfl rfl ?_
              refine zo_goto (p' := 63) (zi_142 rfl) rfl ?_
              have g14 := Option.some.inj g8
              subst g14
              exact zo_lret (zi_142 rfl) rfl
  · rw [if_neg hok] at h; cases h
/-- SlateHalves.item(IIJ)I -/
def f_141 (M : ZMem) (o : Nat) (a0 : Int32) (a1 : Int32) (a2 : Int64) : Option (Int32 × ZMem) := if zok M 11 o = true then (zb (f_14 M a0 0 5) fun x1 => if ¬ x1 = 0 then (zb (zgr M 11 14 o) fun r4 => zb r4 fun q6 => zb (zlaR M q6 a0) fun r7 => zb r7 fun q9 => zb (f_123 M q9) fun x10 => if x10 = 0 then (zb (zgi M 8 2 q9) fun x13 => zb (f_14 M a1 0 ((x13 - 1))) fun x15 => if ¬ x15 = 0 then (zb (zgr M 8 0 q9) fun r18 => zb (f_142 M q9 a2) fun x20 => zb r18 fun q22 => zb (zsaL M q22 a1 x20) fun M23 => some (1, M23)) else (some ((-13), M))) else (some ((-11), M))) else (some ((-1), M))) else none
theorem f_141_ok {M : ZMem} {o : Nat} {a0 : Int32} {a1 : Int32} {a2 : Int64} {out : Int32 × ZMem} (h : f_141 M o a0 a1 a2 = some out) : zok M 11 o = true := by
  unfold f_141 at h
  by_cases hok : zok M 11 o = true
  · exact hok
  · rw [if_neg hok] at h; cases h
set_option maxRecDepth 20000 in
theorem k_141 (d : Nat) {M : ZMem} {o : Nat} {a0 : Int32} {a1 : Int32} {a2 : Int64} {out : Int32 × ZMem} (h : f_141 M o a0 a1 a2 = some out) : zrn (d + 1) 141 [zrf (some o), .int a0, .int a1, .long a2] M (some (.int out.1), out.2) := by
  unfold f_141 at h
  by_cases hok : zok M 11 o = true
  · rw [if_pos hok] at h
    refine zrn_of (L := [(0, zrf (some o)), (1, .int a0), (2, .int a1), (3, .long a2)]) rfl ?_
    refine zo_iload_n (p' := 1) (zi_141 rfl) rfl rfl ?_
    refine zo_iconst (p' := 2) (v := 0) (zi_141 rfl) rfl rfl ?_
    refine zo_iconst (p' := 3) (v := 5) (zi_141 rfl) rfl rfl ?_
    obtain ⟨x1, hx2, g25⟩ := zb_of h
    refine zo_callSi (p' := 6) (as := [.int a0, .int 0, .int 5]) (r := []) (zi_141 rfl) rfl (Or.inl zl_1_96) rfl rfl (Nat.le_of_ble_eq_true rfl) (Nat.le_of_ble_eq_true rfl) (k_14 _ hx2) ?_
    by_cases hc3 : ¬ x1 = 0
    · rw [if_pos hc3] at g25
      refine zo_ifT (p' := 11) (zi_141 rfl) rfl hc3 ?_
      refine zo_aload_n (p' := 12) (zi_141 rfl) rfl rfl ?_
      obtain ⟨r4, hx5, g26⟩ := zb_of g25
      refine zo_getR (p' := 15) (zi_141 rfl) rfl zl_1_91 hx5 ?_
      refine zo_iload_n (p' := 16) (zi_141 rfl) rfl rfl ?_
      obtain ⟨q6, h0, g27⟩ := zb_of g26
      subst h0
      obtain ⟨r7, hx8, g28⟩ := zb_of g27
      refine zo_aald (p' := 17) (zi_141 rfl) rfl hx8 ?_
      refine zo_astore (p' := 19) (L' := [(0, zrf (some o)), (1, .int a0), (2, .int a1), (3, .long a2), (5, zrf r7)]) (zi_141 rfl) rfl zm_141_5 ⟨Or.inr ⟨by decide, rfl, fun q => absurd q (by decide)⟩, ⟨Or.inr ⟨by decide, rfl, fun q => absurd q (by decide)⟩, ⟨Or.inr ⟨by decide, rfl, fun q => absurd q (by decide)⟩, ⟨Or.inr ⟨by decide, rfl, fun q => absurd q (by decide)⟩, ⟨Or.inl ⟨rfl, rfl⟩, trivial⟩⟩⟩⟩⟩ ?_
      refine zo_aload (p' := 21) (zi_141 rfl) rfl rfl ?_
      obtain ⟨q9, h0, g29⟩ := zb_of g28
      subst h0
      obtain ⟨x10, hx11, g30⟩ := zb_of g29
      refine zo_callVi (p' := 24) (t := 8) (as := []) (r := []) (zi_141 rfl) rfl zl_1_343 rfl rfl (Or.inl ⟨by decide, rfl⟩) (Nat.le_of_ble_eq_true rfl) (Nat.le_of_ble_eq_true rfl) (f_123_ok hx11) (k_123 _ hx11) ?_
      by_cases hc12 : x10 = 0
      · rw [if_pos hc12] at g30
        refine zo_ifT (p' := 30) (zi_141 rfl) rfl hc12 ?_
        refine zo_iload_n (p' := 31) (zi_141 rfl) rfl rfl ?_
        refine zo_iconst (p' := 32) (v := 0) (zi_141 rfl) rfl rfl ?_
        refine zo_aload (p' := 34) (zi_141 rfl) rfl rfl ?_
        obtain ⟨x13, hx14, g31⟩ := zb_of g30
        refine zo_getI (p' := 37) (zi_141 rfl) rfl zl_1_349 hx14 ?_
        refine zo_iconst (p' := 38) (v := 1) (zi_141 rfl) rfl rfl ?_
        refine zo_isub (p' := 39) (zi_141 rfl) rfl ?_
        obtain ⟨x15, hx16, g32⟩ := zb_of g31
        refine zo_callSi (p' := 42) (as := [.int a1, .int 0, .int ((x13 - 1))]) (r := []) (zi_141 rfl) rfl (Or.inl zl_1_96) rfl rfl (Nat.le_of_ble_eq_true rfl) (Nat.le_of_ble_eq_true rfl) (k_14 _ hx16) ?_
        by_cases hc17 : ¬ x15 = 0
        · rw [if_pos hc17] at g32
          refine zo_ifT (p' := 48) (zi_141 rfl) rfl hc17 ?_
          refine zo_aload (p' := 50) (zi_141 rfl) rfl rfl ?_
          obtain ⟨r18, hx19, g33⟩ := zb_of g32
          refine zo_getR (p' := 53) (zi_141 rfl) rfl zl_1_350 hx19 ?_
          refine zo_iload_n (p' := 54) (zi_141 rfl) rfl rfl ?_
          refine zo_aload (p' := 56) (zi_141 rfl) rfl rfl ?_
          refine zo_lload_n (p' := 57) (zi_141 rfl) rfl rfl ?_
          obtain ⟨x20, hx21, g34⟩ := zb_of g33
          refine zo_callVl (p' := 60) (t := 8) (as := [.long a2]) (r := [.int a1, zrf r18]) (zi_141 rfl) rfl zl_1_375 rfl rfl (Or.inl ⟨by decide, rfl⟩) (by simp [zrf_cat, zcat_i, zcat_l, zcat_r]) (Nat.le_of_ble_eq_true rfl) (f_142_ok hx21) (k_142 _ hx21) ?_
          obtain ⟨q22, h0, g35⟩ := zb_of g34
          subst h0
          obtain ⟨M23, hx24, g36⟩ := zb_of g35
          refine zo_last (p' := 61) (zi_141 rfl) rfl hx24 ?_
          refine zo_iconst (p' := 62) (v := 1) (zi_141 rfl) rfl rfl ?_
          have g37 := Option.some.inj g36
          subst g37
          exact zo_iret (zi_141 rfl) rfl ⟨rfl, rfl⟩
        · rw [if_neg hc17] at g32
          refine zo_ifF (p' := 45) (zi_141 rfl) rfl rfl hc17 ?_
          refine zo_bipush (p' := 47) (v := (-13)) (zi_141 rfl) rfl rfl ?_
          have g38 := Option.some.inj g32
          subst g38
          exact zo_iret (zi_141 rfl) rfl ⟨rfl, rfl⟩
      · rw [if_neg hc12] at g30
        refine zo_ifF (p' := 27) (zi_141 rfl) rfl rfl hc12 ?_
        refine zo_bipush (p' := 29) (v := (-11)) (zi_141 rfl) rfl rfl ?_
        have g39 := Option.some.inj g30
        subst g39
        exact zo_iret (zi_141 rfl) rfl ⟨rfl, rfl⟩
    · rw [if_neg hc3] at g25
      refine zo_ifF (p' := 9) (zi_141 rfl) rfl rfl hc3 ?_
      refine zo_iconst (p' := 10) (v := (-1)) (zi_141 rfl) rfl rfl ?_
      have g40 := Option.some.inj g25
      subst g40
      exact zo_iret (zi_141 rfl) rfl ⟨rfl, rfl⟩
  · rw [if_neg hok] at h; cases h
/-- SlateHalves.read(II)J -/
def f_143 (M : ZMem) (o : Nat) (a0 : Int32) (a1 : Int32) : Option (Int64) := if zok M 11 o = true then (zb (f_14 M a0 0 5) fun x1 => if x1 = 0 then (some (-9223372036854775808)) else (zb (zgr M 11 14 o) fun r4 => zb r4 fun q6 => zb (zlaR M q6 a0) fun r7 => zb r7 fun q9 => zb (zgi M 8 2 q9) fun x10 => zb (f_14 M a1 0 ((x10 - 1))) fun x12 => if ¬ x12 = 0 then (zb (zgr M 11 14 o) fun r15 => zb r15 fun q17 => zb (zlaR M q17 a0) fun r18 => zb r18 fun q20 => zb (zgr M 8 0 q20) fun r21 => zb r21 fun q23 => zb (zlaL M q23 a1) fun x24 => some x24) else (some (-9223372036854775808)))) else none
theorem f_143_ok {M : ZMem} {o : Nat} {a0 : Int32} {a1 : Int32} {out : Int64} (h : f_143 M o a0 a1 = some out) : zok M 11 o = true := by
  unfold f_143 at h
  by_cases hok : zok M 11 o = true
  · exact hok
  · rw [if_neg hok] at h; cases h
set_option maxRecDepth 20000 in
theorem k_143 (d : Nat) {M : ZMem} {o : Nat} {a0 : Int32} {a1 : Int32} {out : Int64} (h : f_143 M o a0 a1 = some out) : zrn (d + 1) 143 [zrf (some o), .int a0, .int a1] M (some (.long out), M) := by
  unfold f_143 at h
  by_cases hok : zok M 11 o = true
  · rw [if_pos hok] at h
    refine zrn_of (L := [(0, zrf (some o)), (1, .int a0), (2, .int a1)]) rfl ?_
    refine zo_iload_n (p' := 1) (zi_143 rfl) rfl rfl ?_
    refine zo_iconst (p' := 2) (v := 0) (zi_143 rfl) rfl rfl ?_
    refine zo_iconst (p' := 3) (v := 5) (zi_143 rfl) rfl rfl ?_
    obtain ⟨x1, hx2, g26⟩ := zb_of h
    refine zo_callSi (p' := 6) (as := [.int a0, .int 0, .int 5]) (r := []) (zi_143 rfl) rfl (Or.inl zl_1_96) rfl rfl (Nat.le_of_ble_eq_true rfl) (Nat.le_of_ble_eq_true rfl) (k_14 _ hx2) ?_
    by_cases hc3 : x1 = 0
    · rw [if_pos hc3] at g26
      refine zo_ifT (p' := 28) (zi_143 rfl) rfl hc3 ?_
      refine zo_ldc2 (p' := 31) (v := (-9223372036854775808)) (zi_143 rfl) rfl rfl ?_
      have g27 := Option.some.inj g26
      subst g27
      exact zo_lret (zi_143 rfl) rfl
    · rw [if_neg hc3] at g26
      refine zo_ifF (p' := 9) (zi_143 rfl) rfl rfl hc3 ?_
      refine zo_iload_n (p' := 10) (zi_143 rfl) rfl rfl ?_
      refine zo_iconst (p' := 11) (v := 0) (zi_143 rfl) rfl rfl ?_
      refine zo_aload_n (p' := 12) (zi_143 rfl) rfl rfl ?_
      obtain ⟨r4, hx5, g28⟩ := zb_of g26
      refine zo_getR (p' := 15) (zi_143 rfl) rfl zl_1_91 hx5 ?_
      refine zo_iload_n (p' := 16) (zi_143 rfl) rfl rfl ?_
      obtain ⟨q6, h0, g29⟩ := zb_of g28
      subst h0
      obtain ⟨r7, hx8, g30⟩ := zb_of g29
      refine zo_aald (p' := 17) (zi_143 rfl) rfl hx8 ?_
      obtain ⟨q9, h0, g31⟩ := zb_of g30
      subst h0
      obtain ⟨x10, hx11, g32⟩ := zb_of g31
      refine zo_getI (p' := 20) (zi_143 rfl) rfl zl_1_349 hx11 ?_
      refine zo_iconst (p' := 21) (v := 1) (zi_143 rfl) rfl rfl ?_
      refine zo_isub (p' := 22) (zi_143 rfl) rfl ?_
      obtain ⟨x12, hx13, g33⟩ := zb_of g32
      refine zo_callSi (p' := 25) (as := [.int a1, .int 0, .int ((x10 - 1))]) (r := []) (zi_143 rfl) rfl (Or.inl zl_1_96) rfl rfl (Nat.le_of_ble_eq_true rfl) (Nat.le_of_ble_eq_true rfl) (k_14 _ hx13) ?_
      by_cases hc14 : ¬ x12 = 0
      · rw [if_pos hc14] at g33
        refine zo_ifT (p' := 32) (zi_143 rfl) rfl hc14 ?_
        refine zo_aload_n (p' := 33) (zi_143 rfl) rfl rfl ?_
        obtain ⟨r15, hx16, g34⟩ := zb_of g33
        refine zo_getR (p' := 36) (zi_143 rfl) rfl zl_1_91 hx16 ?_
        refine zo_iload_n (p' := 37) (zi_143 rfl) rfl rfl ?_
        obtain ⟨q17, h0, g35⟩ := zb_of g34
        subst h0
        obtain ⟨r18, hx19, g36⟩ := zb_of g35
        refine zo_aald (p' := 38) (zi_143 rfl) rfl hx19 ?_
        obtain ⟨q20, h0, g37⟩ := zb_of g36
        subst h0
        obtain ⟨r21, hx22, g38⟩ := zb_of g37
        refine zo_getR (p' := 41) (zi_143 rfl) rfl zl_1_350 hx22 ?_
        refine zo_iload_n (p' := 42) (zi_143 rfl) rfl rfl ?_
        obtain ⟨q23, h0, g39⟩ := zb_of g38
        subst h0
        obtain ⟨x24, hx25, g40⟩ := zb_of g39
        refine zo_lald (p' := 43) (zi_143 rfl) rfl hx25 ?_
        have g41 := Option.some.inj g40
        subst g41
        exact zo_lret (zi_143 rfl) rfl
      · rw [if_neg hc14] at g33
        refine zo_ifF (p' := 28) (zi_143 rfl) rfl rfl hc14 ?_
        refine zo_ldc2 (p' := 31) (v := (-9223372036854775808)) (zi_143 rfl) rfl rfl ?_
        have g42 := Option.some.inj g33
        subst g42
        exact zo_lret (zi_143 rfl) rfl
  · rw [if_neg hok] at h; cases h
/-- SlateHalves.shift(IIIII)I -/
def f_144 (M : ZMem) (o : Nat) (a0 : Int32) (a1 : Int32) (a2 : Int32) (a3 : Int32) (a4 : Int32) : Option (Int32 × ZMem) := if zok M 11 o = true then (zb (f_14 M a0 0 5) fun x1 => if x1 = 0 then (some ((-1), M)) else (zb (f_14 M a2 0 5) fun x4 => if ¬ x4 = 0 then (zb (zgr M 11 14 o) fun r7 => zb r7 fun q9 => zb (zlaR M q9 a0) fun r10 => zb (zgr M 11 14 o) fun r12 => zb r12 fun q14 => zb (zlaR M q14 a2) fun r15 => zb r10 fun q17 => zb (f_123 M q17) fun x18 => if ¬ x18 = 0 then (some ((-11), M)) else (zb r15 fun q21 => zb (f_123 M q21) fun x22 => if x22 = 0 then (zb (zgi M 8 1 q17) fun x25 => zb (zgi M 8 1 q21) fun x27 => if x25 = x27 then (if a4 < 0 then (some ((-13), M)) else (zb (zgi M 8 2 q17) fun x31 => zb (f_14 M a1 0 ((x31 - a4))) fun x33 => if x33 = 0 then (some ((-13), M)) else (zb (zgi M 8 2 q21) fun x36 => zb (f_14 M a3 0 ((x36 - a4))) fun x38 => if ¬ x38 = 0 then (zb (zgr M 8 0 q17) fun r41 => zb (zgr M 8 0 q21) fun r43 => zb r43 fun q45 => zb r41 fun q46 => zb (zcopy M q46 a1 q45 a3 a4) fun M47 => some (a4, M47)) else (some ((-13), M))))) else (some ((-12), M))) else (some ((-11), M)))) else (some ((-1), M)))) else none
theorem f_144_ok {M : ZMem} {o : Nat} {a0 : Int32} {a1 : Int32} {a2 : Int32} {a3 : Int32} {a4 : Int32} {out : Int32 × ZMem} (h : f_144 M o a0 a1 a2 a3 a4 = some out) : zok M 11 o = true := by
  unfold f_144 at h
  by_cases hok : zok M 11 o = true
  · exact hok
  · rw [if_neg hok] at h; cases h
set_option maxRecDepth 20000 in
theorem k_144 (d : Nat) {M : ZMem} {o : Nat} {a0 : Int32} {a1 : Int32} {a2 : Int32} {a3 : Int32} {a4 : Int32} {out : Int32 × ZMem} (h : f_144 M o a0 a1 a2 a3 a4 = some out) : zrn (d + 1) 144 [zrf (some o), .int a0, .int a1, .int a2, .int a3, .int a4] M (some (.int out.1), out.2) := by
  unfold f_144 at h
  by_cases hok : zok M 11 o = true
  · rw [if_pos hok] at h
    refine zrn_of (L := [(0, zrf (some o)), (1, .int a0), (2, .int a1), (3, .int a2), (4, .int a3), (5, .int a4)]) rfl ?_
    refine zo_iload_n (p' := 1) (zi_144 rfl) rfl rfl ?_
    refine zo_iconst (p' := 2) (v := 0) (zi_144 rfl) rfl rfl ?_
    refine zo_iconst (p' := 3) (v := 5) (zi_144 rfl) rfl rfl ?_
    obtain ⟨x1, hx2, g49⟩ := zb_of h
    refine zo_callSi (p' := 6) (as := [.int a0, .int 0, .int 5]) (r := []) (zi_144 rfl) rfl (Or.inl zl_1_96) rfl rfl (Nat.le_of_ble_eq_true rfl) (Nat.le_of_ble_eq_true rfl) (k_14 _ hx2) ?_
    by_cases hc3 : x1 = 0
    · rw [if_pos hc3] at g49
      refine zo_ifT (p' := 18) (zi_144 rfl) rfl hc3 ?_
      refine zo_iconst (p' := 19) (v := (-1)) (zi_144 rfl) rfl rfl ?_
      have g50 := Option.some.inj g49
      subst g50
      exact zo_iret (zi_144 rfl) rfl ⟨rfl, rfl⟩
    · rw [if_neg hc3] at g49
      refine zo_ifF (p' := 9) (zi_144 rfl) rfl rfl hc3 ?_
      refine zo_iload_n (p' := 10) (zi_144 rfl) rfl rfl ?_
      refine zo_iconst (p' := 11) (v := 0) (zi_144 rfl) rfl rfl ?_
      refine zo_iconst (p' := 12) (v := 5) (zi_144 rfl) rfl rfl ?_
      obtain ⟨x4, hx5, g51⟩ := zb_of g49
      refine zo_callSi (p' := 15) (as := [.int a2, .int 0, .int 5]) (r := []) (zi_144 rfl) rfl (Or.inl zl_1_96) rfl rfl (Nat.le_of_ble_eq_true rfl) (Nat.le_of_ble_eq_true rfl) (k_14 _ hx5) ?_
      by_cases hc6 : ¬ x4 = 0
      · rw [if_pos hc6] at g51
        refine zo_ifT (p' := 20) (zi_144 rfl) rfl hc6 ?_
        refine zo_aload_n (p' := 21) (zi_144 rfl) rfl rfl ?_
        obtain ⟨r7, hx8, g52⟩ := zb_of g51
        refine zo_getR (p' := 24) (zi_144 rfl) rfl zl_1_91 hx8 ?_
        refine zo_iload_n (p' := 25) (zi_144 rfl) rfl rfl ?_
        obtain ⟨q9, h0, g53⟩ := zb_of g52
        subst h0
        obtain ⟨r10, hx11, g54⟩ := zb_of g53
        refine zo_aald (p' := 26) (zi_144 rfl) rfl hx11 ?_
        refine zo_astore (p' := 28) (L' := [(0, zrf (some o)), (1, .int a0), (2, .int a1), (3, .int a2), (4, .int a3), (5, .int a4), (6, zrf r10)]) (zi_144 rfl) rfl zm_144_6 ⟨Or.inr ⟨by decide, rfl, fun q => absurd q (by decide)⟩, ⟨Or.inr ⟨by decide, rfl, fun q => absurd q (by decide)⟩, ⟨Or.inr ⟨by decide, rfl, fun q => absurd q (by decide)⟩, ⟨Or.inr ⟨by decide, rfl, fun q => absurd q (by decide)⟩, ⟨Or.inr ⟨by decide, rfl, fun q => absurd q (by decide)⟩, ⟨Or.inr ⟨by decide, rfl, fun _ => rfl⟩, ⟨Or.inl ⟨rfl, rfl⟩, trivial⟩⟩⟩⟩⟩⟩⟩ ?_
        refine zo_aload_n (p' := 29) (zi_144 rfl) rfl rfl ?_
        obtain ⟨r12, hx13, g55⟩ := zb_of g54
        refine zo_getR (p' := 32) (zi_144 rfl) rfl zl_1_91 hx13 ?_
        refine zo_iload_n (p' := 33) (zi_144 rfl) rfl rfl ?_
        obtain ⟨q14, h0, g56⟩ := zb_of g55
        subst h0
        obtain ⟨r15, hx16, g57⟩ := zb_of g56
        refine zo_aald (p' := 34) (zi_144 rfl) rfl hx16 ?_
        refine zo_astore (p' := 36) (L' := [(0, zrf (some o)), (1, .int a0), (2, .int a1), (3, .int a2), (4, .int a3), (5, .int a4), (6, zrf r10), (7, zrf r15)]) (zi_144 rfl) rfl zm_144_7 ⟨Or.inr ⟨by decide, rfl, fun q => absurd q (by decide)⟩, ⟨Or.inr ⟨by decide, rfl, fun q => absurd q (by decide)⟩, ⟨Or.inr ⟨by decide, rfl, fun q => absurd q (by decide)⟩, ⟨Or.inr ⟨by decide, rfl, fun q => absurd q (by decide)⟩, ⟨Or.inr ⟨by decide, rfl, fun q => absurd q (by decide)⟩, ⟨Or.inr ⟨by decide, rfl, fun q => absurd q (by decide)⟩, ⟨Or.inr ⟨by decide, rfl, fun _ => zrf_cat _⟩, ⟨Or.inl ⟨rfl, rfl⟩, trivial⟩⟩⟩⟩⟩⟩⟩⟩ ?_
        refine zo_aload (p' := 38) (zi_144 rfl) rfl rfl ?_
        obtain ⟨q17, h0, g58⟩ := zb_of g57
        subst h0
        obtain ⟨x18, hx19, g59⟩ := zb_of g58
        refine zo_callVi (p' := 41) (t := 8) (as := []) (r := []) (zi_144 rfl) rfl zl_1_343 rfl rfl (Or.inl ⟨by decide, rfl⟩) (Nat.le_of_ble_eq_true rfl) (Nat.le_of_ble_eq_true rfl) (f_123_ok hx19) (k_123 _ hx19) ?_
        by_cases hc20 : ¬ x18 = 0
        · rw [if_pos hc20] at g59
          refine zo_ifT (p' := 52) (zi_144 rfl) rfl hc20 ?_
          refine zo_bipush (p' := 54) (v := (-11)) (zi_144 rfl) rfl rfl ?_
          have g60 := Option.some.inj g59
          subst g60
          exact zo_iret (zi_144 rfl) rfl ⟨rfl, rfl⟩
        · rw [if_neg hc20] at g59
          refine zo_ifF (p' := 44) (zi_144 rfl) rfl rfl hc20 ?_
          refine zo_aload (p' := 46) (zi_144 rfl) rfl rfl ?_
          obtain ⟨q21, h0, g61⟩ := zb_of g59
          subst h0
          obtain ⟨x22, hx23, g62⟩ := zb_of g61
          refine zo_callVi (p' := 49) (t := 8) (as := []) (r := []) (zi_144 rfl) rfl zl_1_343 rfl rfl (Or.inl ⟨by decide, rfl⟩) (Nat.le_of_ble_eq_true rfl) (Nat.le_of_ble_eq_true rfl) (f_123_ok hx23) (k_123 _ hx23) ?_
          by_cases hc24 : x22 = 0
          · rw [if_pos hc24] at g62
            refine zo_ifT (p' := 55) (zi_144 rfl) rfl hc24 ?_
            refine zo_aload (p' := 57) (zi_144 rfl) rfl rfl ?_
            obtain ⟨x25, hx26, g63⟩ := zb_of g62
            refine zo_getI (p' := 60) (zi_144 rfl) rfl zl_1_346 hx26 ?_
            refine zo_aload (p' := 62) (zi_144 rfl) rfl rfl ?_
            obtain ⟨x27, hx28, g64⟩ := zb_of g63
            refine zo_getI (p' := 65) (zi_144 rfl) rfl zl_1_346 hx28 ?_
            by_cases hc29 : x25 = x27
            · rw [if_pos hc29] at g64
              refine zo_icT (p' := 71) (zi_144 rfl) rfl hc29 ?_
              refine zo_iload (p' := 73) (zi_144 rfl) rfl rfl ?_
              by_cases hc30 : a4 < 0
              · rw [if_pos hc30] at g64
                refine zo_ifT (p' := 109) (zi_144 rfl) rfl hc30 ?_
                refine zo_bipush (p' := 111) (v := (-13)) (zi_144 rfl) rfl rfl ?_
                have g65 := Option.some.inj g64
                subst g65
                exact zo_iret (zi_144 rfl) rfl ⟨rfl, rfl⟩
              · rw [if_neg hc30] at g64
                refine zo_ifF (p' := 76) (zi_144 rfl) rfl rfl hc30 ?_
                refine zo_iload_n (p' := 77) (zi_144 rfl) rfl rfl ?_
                refine zo_iconst (p' := 78) (v := 0) (zi_144 rfl) rfl rfl ?_
                refine zo_aload (p' := 80) (zi_144 rfl) rfl rfl ?_
                obtain ⟨x31, hx32, g66⟩ := zb_of g64
                refine zo_getI (p' := 83) (zi_144 rfl) rfl zl_1_349 hx32 ?_
                refine zo_iload (p' := 85) (zi_144 rfl) rfl rfl ?_
                refine zo_isub (p' := 86) (zi_144 rfl) rfl ?_
                obtain ⟨x33, hx34, g67⟩ := zb_of g66
                refine zo_callSi (p' := 89) (as := [.int a1, .int 0, .int ((x31 - a4))]) (r := []) (zi_144 rfl) rfl (Or.inl zl_1_96) rfl rfl (Nat.le_of_ble_eq_true rfl) (Nat.le_of_ble_eq_true rfl) (k_14 _ hx34) ?_
                by_cases hc35 : x33 = 0
                · rw [if_pos hc35] at g67
                  refine zo_ifT (p' := 109) (zi_144 rfl) rfl hc35 ?_
                  refine zo_bipush (p' := 111) (v := (-13)) (zi_144 rfl) rfl rfl ?_
                  have g68 := Option.some.inj g67
                  subst g68
                  exact zo_iret (zi_144 rfl) rfl ⟨rfl, rfl⟩
                · rw [if_neg hc35] at g67
                  refine zo_ifF (p' := 92) (zi_144 rfl) rfl rfl hc35 ?_
                  refine zo_iload (p' := 94) (zi_144 rfl) rfl rfl ?_
                  refine zo_iconst (p' := 95) (v := 0) (zi_144 rfl) rfl rfl ?_
                  refine zo_aload (p' := 97) (zi_144 rfl) rfl rfl ?_
                  obtain ⟨x36, hx37, g69⟩ := zb_of g67
                  refine zo_getI (p' := 100) (zi_144 rfl) rfl zl_1_349 hx37 ?_
                  refine zo_iload (p' := 102) (zi_144 rfl) rfl rfl ?_
                  refine zo_isub (p' := 103) (zi_144 rfl) rfl ?_
                  obtain ⟨x38, hx39, g70⟩ := zb_of g69
                  refine zo_callSi (p' := 106) (as := [.int a3, .int 0, .int ((x36 - a4))]) (r := []) (zi_144 rfl) rfl (Or.inl zl_1_96) rfl rfl (Nat.le_of_ble_eq_true rfl) (Nat.le_of_ble_eq_true rfl) (k_14 _ hx39) ?_
                  by_cases hc40 : ¬ x38 = 0
                  · rw [if_pos hc40] at g70
                    refine zo_ifT (p' := 112) (zi_144 rfl) rfl hc40 ?_
                    refine zo_aload (p' := 114) (zi_144 rfl) rfl rfl ?_
                    obtain ⟨r41, hx42, g71⟩ := zb_of g70
                    refine zo_getR (p' := 117) (zi_144 rfl) rfl zl_1_350 hx42 ?_
                    refine zo_iload_n (p' := 118) (zi_144 rfl) rfl rfl ?_
                    refine zo_aload (p' := 120) (zi_144 rfl) rfl rfl ?_
                    obtain ⟨r43, hx44, g72⟩ := zb_of g71
                    refine zo_getR (p' := 123) (zi_144 rfl) rfl zl_1_350 hx44 ?_
                    refine zo_iload (p' := 125) (zi_144 rfl) rfl rfl ?_
                    refine zo_iload (p' := 127) (zi_144 rfl) rfl rfl ?_
                    obtain ⟨q45, h0, g73⟩ := zb_of g72
                    subst h0
                    obtain ⟨q46, h0, g74⟩ := zb_of g73
                    subst h0
                    obtain ⟨M47, hx48, g75⟩ := zb_of g74
                    refine zo_copy (p' := 130) (zi_144 rfl) rfl zl_1_379 (Nat.le_of_ble_eq_true rfl) hx48 ?_
                    refine zo_iload (p' := 132) (zi_144 rfl) rfl rfl ?_
                    have g76 := Option.some.inj g75
                    subst g76
                    exact zo_iret (zi_144 rfl) rfl ⟨rfl, rfl⟩
                  · rw [if_neg hc40] at g70
                    refine zo_ifF (p' := 109) (zi_144 rfl) rfl rfl hc40 ?_
                    refine zo_bipush (p' := 111) (v := (-13)) (zi_144 rfl) rfl rfl ?_
                    have g77 := Option.some.inj g70
                    subst g77
                    exact zo_iret (zi_144 rfl) rfl ⟨rfl, rfl⟩
            · rw [if_neg hc29] at g64
              refine zo_icF (p' := 68) (zi_144 rfl) rfl rfl hc29 ?_
              refine zo_bipush (p' := 70) (v := (-12)) (zi_144 rfl) rfl rfl ?_
              have g78 := Option.some.inj g64
              subst g78
              exact zo_iret (zi_144 rfl) rfl ⟨rfl, rfl⟩
          · rw [if_neg hc24] at g62
            refine zo_ifF (p' := 52) (zi_144 rfl) rfl rfl hc24 ?_
            refine zo_bipush (p' := 54) (v := (-11)) (zi_144 rfl) rfl rfl ?_
            have g79 := Option.some.inj g62
            subst g79
            exact zo_iret (zi_144 rfl) rfl ⟨rfl, rfl⟩
      · rw [if_neg hc6] at g51
        refine zo_ifF (p' := 18) (zi_144 rfl) rfl rfl hc6 ?_
        refine zo_iconst (p' := 19) (v := (-1)) (zi_144 rfl) rfl rfl ?_
        have g80 := Option.some.inj g51
        subst g80
        exact zo_iret (zi_144 rfl) rfl ⟨rfl, rfl⟩
  · rw [if_neg hok] at h; cases h
/-- SlateHalvesModel.in(III)Z -/
def f_147 (M : ZMem) (o : Nat) (a0 : Int32) (a1 : Int32) (a2 : Int32) : Option (Int32) := if zok M 12 o = true then (if a0 < a1 then (some 0) else (if a2 < a0 then (some 0) else (some 1))) else none
theorem f_147_ok {M : ZMem} {o : Nat} {a0 : Int32} {a1 : Int32} {a2 : Int32} {out : Int32} (h : f_147 M o a0 a1 a2 = some out) : zok M 12 o = true := by
  unfold f_147 at h
  by_cases hok : zok M 12 o = true
  · exact hok
  · rw [if_neg hok] at h; cases h
set_option maxRecDepth 20000 in
theorem k_147 (d : Nat) {M : ZMem} {o : Nat} {a0 : Int32} {a1 : Int32} {a2 : Int32} {out : Int32} (h : f_147 M o a0 a1 a2 = some out) : zrn (d) 147 [zrf (some o), .int a0, .int a1, .int a2] M (some (.int out), M) := by
  unfold f_147 at h
  by_cases hok : zok M 12 o = true
  · rw [if_pos hok] at h
    refine zrn_of (L := [(0, zrf (some o)), (1, .int a0), (2, .int a1), (3, .int a2)]) rfl ?_
    refine zo_iload_n (p' := 1) (zi_147 rfl) rfl rfl ?_
    refine zo_iload_n (p' := 2) (zi_147 rfl) rfl rfl ?_
    by_cases hc1 : a0 < a1
    · rw [if_pos hc1] at h
      refine zo_icT (p' := 14) (zi_147 rfl) rfl hc1 ?_
      refine zo_iconst (p' := 15) (v := 0) (zi_147 rfl) rfl rfl ?_
      have g3 := Option.some.inj h
      subst g3
      exact zo_iret (zi_147 rfl) rfl ⟨rfl, rfl⟩
    · rw [if_neg hc1] at h
      refine zo_icF (p' := 5) (zi_147 rfl) rfl rfl hc1 ?_
      refine zo_iload_n (p' := 6) (zi_147 rfl) rfl rfl ?_
      refine zo_iload_n (p' := 7) (zi_147 rfl) rfl rfl ?_
      by_cases hc2 : a2 < a0
      · rw [if_pos hc2] at h
        refine zo_icT (p' := 14) (zi_147 rfl) rfl hc2 ?_
        refine zo_iconst (p' := 15) (v := 0) (zi_147 rfl) rfl rfl ?_
        have g4 := Option.some.inj h
        subst g4
        exact zo_iret (zi_147 rfl) rfl ⟨rfl, rfl⟩
      · rw [if_neg hc2] at h
        refine zo_icF (p' := 10) (zi_147 rfl) rfl rfl hc2 ?_
        refine zo_iconst (p' := 11) (v := 1) (zi_147 rfl) rfl rfl ?_
        refine zo_goto (p' := 15) (zi_147 rfl) rfl ?_
        have g5 := Option.some.inj h
        subst g5
        exact zo_iret (zi_147 rfl) rfl ⟨rfl, rfl⟩
  · rw [if_neg hok] at h; cases h
/-- SlateHalvesModel.block(III)I -/
def f_146_103 : Nat → ZMem → Nat → Int32 → Option (Int32 × ZMem)
  | 0, _, _, _ => none
  | z + 1, M, o, b1 => if 4 ≤ b1 then (zb (zgi M 12 0 o) fun x77 => zb (zpf M 12 0 o (.int ((x77 + 1))) false) fun M79 => zb (zgi M79 12 0 o) fun x81 => some ((x81 - 1), M79)) else (zb (zgr M 12 8 o) fun r83 => zb (zgi M 12 0 o) fun x85 => zb r83 fun q87 => zb (zsa M 20 q87 ((4 * x85) + b1) 0) fun M88 => f_146_103 z M88 o ((b1 + 1)))
set_option maxRecDepth 20000 in
theorem k_146_103 (d : Nat) : ∀ (z : Nat) (M : ZMem) (o : Nat) (b1 : Int32) (out : Int32 × ZMem), f_146_103 z M o b1 = some out → zgo none (d + 1) 146 103 [(0, zrf (some o)), (4, .int b1)] [] M (some (.int out.1), out.2) := by
  intro z
  induction z with
  | zero => intro M o b1 out h; cases h
  | succ z ih =>
    intro M o b1 out h
    rw [f_146_103] at h
    refine zo_iload (p' := 105) (zi_146 rfl) rfl rfl ?_
    refine zo_iconst (p' := 106) (v := 4) (zi_146 rfl) rfl rfl ?_
    by_cases hc76 : 4 ≤ b1
    · rw [if_pos hc76] at h
      refine zo_icT (p' := 130) (zi_146 rfl) rfl hc76 ?_
      refine zo_aload_n (p' := 131) (zi_146 rfl) rfl rfl ?_
      refine zo_dup (p' := 132) (zi_146 rfl) rfl (zrf_cat _) ?_
      obtain ⟨x77, hx78, g90⟩ := zb_of h
      refine zo_getI (p' := 135) (zi_146 rfl) rfl zl_19_7 hx78 ?_
      refine zo_iconst (p' := 136) (v := 1) (zi_146 rfl) rfl rfl ?_
      refine zo_iadd (p' := 137) (zi_146 rfl) rfl ?_
      obtain ⟨M79, hx80, g91⟩ := zb_of g90
      refine zo_putI (p' := 140) (zi_146 rfl) rfl zl_19_7 (zpb_146 _) hx80 ?_
      refine zo_aload_n (p' := 141) (zi_146 rfl) rfl rfl ?_
      obtain ⟨x81, hx82, g92⟩ := zb_of g91
      refine zo_getI (p' := 144) (zi_146 rfl) rfl zl_19_7 hx82 ?_
      refine zo_iconst (p' := 145) (v := 1) (zi_146 rfl) rfl rfl ?_
      refine zo_isub (p' := 146) (zi_146 rfl) rfl ?_
      have g93 := Option.some.inj g92
      subst g93
      exact zo_iret (zi_146 rfl) rfl ⟨rfl, rfl⟩
    · rw [if_neg hc76] at h
      refine zo_icF (p' := 109) (zi_146 rfl) rfl rfl hc76 ?_
      refine zo_aload_n (p' := 110) (zi_146 rfl) rfl rfl ?_
      obtain ⟨r83, hx84, g94⟩ := zb_of h
      refine zo_getR (p' := 113) (zi_146 rfl) rfl zl_19_35 hx84 ?_
      refine zo_iconst (p' := 114) (v := 4) (zi_146 rfl) rfl rfl ?_
      refine zo_aload_n (p' := 115) (zi_146 rfl) rfl rfl ?_
      obtain ⟨x85, hx86, g95⟩ := zb_of g94
      refine zo_getI (p' := 118) (zi_146 rfl) rfl zl_19_7 hx86 ?_
      refine zo_imul (p' := 119) (zi_146 rfl) rfl ?_
      refine zo_iload (p' := 121) (zi_146 rfl) rfl rfl ?_
      refine zo_iadd (p' := 122) (zi_146 rfl) rfl ?_
      refine zo_iconst (p' := 123) (v := 0) (zi_146 rfl) rfl rfl ?_
      obtain ⟨q87, h0, g96⟩ := zb_of g95
      subst h0
      obtain ⟨M88, hx89, g97⟩ := zb_of g96
      refine zo_iast (p' := 124) (zi_146 rfl) rfl hx89 ?_
      refine zo_iinc (p' := 127) (v := (b1 + 1)) (L' := [(0, zrf (some o)), (4, .int ((b1 + 1)))]) (zi_146 rfl) rfl zm_146_4 rfl rfl ⟨Or.inr ⟨by decide, rfl, fun q => absurd q (by decide)⟩, ⟨Or.inl ⟨rfl, rfl⟩, trivial⟩⟩ ?_
      refine zo_goto (p' := 103) (zi_146 rfl) rfl ?_
      refine zgo_sub (L' := [(0, zrf (some o)), (4, .int (((b1 + 1))))]) (⟨rfl, rfl, trivial⟩) ?_
      exact ih M88 o ((b1 + 1)) _ g97
def f_146 (M : ZMem) (o : Nat) (a0 : Int32) (a1 : Int32) (a2 : Int32) : Option (Int32 × ZMem) := if zok M 12 o = true then (zb (f_147 M o a0 0 6) fun x1 => if ¬ x1 = 0 then (zb (f_147 M o a1 0 9) fun x4 => if x4 = 0 then (some ((-2), M)) else (zb (f_147 M o a2 1 60) fun x7 => if ¬ x7 = 0 then (zb (zgi M 12 0 o) fun x10 => if ¬ x10 = 6 then (zb (zgr M 12 3 o) fun r13 => zb (zgi M 12 0 o) fun x15 => zb r13 fun q17 => zb (zsa M 20 q17 x15 a0) fun M18 => zb (zgr M18 12 4 o) fun r20 => zb (zgi M18 12 0 o) fun x22 => zb r20 fun q24 => zb (zsa M18 20 q24 x22 a1) fun M25 => zb (zgr M25 12 5 o) fun r27 => zb (zgi M25 12 0 o) fun x29 => zb r27 fun q31 => zb (zsa M25 20 q31 x29 a2) fun M32 => zb (zgr M32 12 6 o) fun r34 => zb (zgi M32 12 0 o) fun x36 => zb r34 fun q38 => zb (zsa M32 20 q38 x36 0) fun M39 => zb (zgr M39 12 7 o) fun r41 => zb (zgi M39 12 0 o) fun x43 => zb r41 fun q45 => zb (zsa M39 20 q45 x43 0) fun M46 => f_146_103 zF M46 o 0) else (some ((-4), M))) else (some ((-2), M)))) else (some ((-1), M))) else none
theorem f_146_ok {M : ZMem} {o : Nat} {a0 : Int32} {a1 : Int32} {a2 : Int32} {out : Int32 × ZMem} (h : f_146 M o a0 a1 a2 = some out) : zok M 12 o = true := by
  unfold f_146 at h
  by_cases hok : zok M 12 o = true
  · exact hok
  · rw [if_neg hok] at h; cases h
set_option maxRecDepth 20000 in
theorem k_146 (d : Nat) {M : ZMem} {o : Nat} {a0 : Int32} {a1 : Int32} {a2 : Int32} {out : Int32 × ZMem} (h : f_146 M o a0 a1 a2 = some out) : zrn (d + 1) 146 [zrf (some o), .int a0, .int a1, .int a2] M (some (.int out.1), out.2) := by
  unfold f_146 at h
  by_cases hok : zok M 12 o = true
  · rw [if_pos hok] at h
    refine zrn_of (L := [(0, zrf (some o)), (1, .int a0), (2, .int a1), (3, .int a2)]) rfl ?_
    refine zo_aload_n (p' := 1) (zi_146 rfl) rfl rfl ?_
    refine zo_iload_n (p' := 2) (zi_146 rfl) rfl rfl ?_
    refine zo_iconst (p' := 3) (v := 0) (zi_146 rfl) rfl rfl ?_
    refine zo_bipush (p' := 5) (v := 6) (zi_146 rfl) rfl rfl ?_
    obtain ⟨x1, hx2, g48⟩ := zb_of h
    refine zo_callVi (p' := 8) (t := 12) (as := [.int a0, .int 0, .int 6]) (r := []) (zi_146 rfl) rfl zl_19_239 rfl rfl (Or.inl ⟨by decide, rfl⟩) (Nat.le_of_ble_eq_true rfl) (Nat.le_of_ble_eq_true rfl) (f_147_ok hx2) (k_147 _ hx2) ?_
    by_cases hc3 : ¬ x1 = 0
    · rw [if_pos hc3] at g48
      refine zo_ifT (p' := 13) (zi_146 rfl) rfl hc3 ?_
      refine zo_aload_n (p' := 14) (zi_146 rfl) rfl rfl ?_
      refine zo_iload_n (p' := 15) (zi_146 rfl) rfl rfl ?_
      refine zo_iconst (p' := 16) (v := 0) (zi_146 rfl) rfl rfl ?_
      refine zo_bipush (p' := 18) (v := 9) (zi_146 rfl) rfl rfl ?_
      obtain ⟨x4, hx5, g49⟩ := zb_of g48
      refine zo_callVi (p' := 21) (t := 12) (as := [.int a1, .int 0, .int 9]) (r := []) (zi_146 rfl) rfl zl_19_239 rfl rfl (Or.inl ⟨by decide, rfl⟩) (Nat.le_of_ble_eq_true rfl) (Nat.le_of_ble_eq_true rfl) (f_147_ok hx5) (k_147 _ hx5) ?_
      by_cases hc6 : x4 = 0
      · rw [if_pos hc6] at g49
        refine zo_ifT (p' := 35) (zi_146 rfl) rfl hc6 ?_
        refine zo_bipush (p' := 37) (v := (-2)) (zi_146 rfl) rfl rfl ?_
        have g50 := Option.some.inj g49
        subst g50
        exact zo_iret (zi_146 rfl) rfl ⟨rfl, rfl⟩
      · rw [if_neg hc6] at g49
        refine zo_ifF (p' := 24) (zi_146 rfl) rfl rfl hc6 ?_
        refine zo_aload_n (p' := 25) (zi_146 rfl) rfl rfl ?_
        refine zo_iload_n (p' := 26) (zi_146 rfl) rfl rfl ?_
        refine zo_iconst (p' := 27) (v := 1) (zi_146 rfl) rfl rfl ?_
        refine zo_bipush (p' := 29) (v := 60) (zi_146 rfl) rfl rfl ?_
        obtain ⟨x7, hx8, g51⟩ := zb_of g49
        refine zo_callVi (p' := 32) (t := 12) (as := [.int a2, .int 1, .int 60]) (r := []) (zi_146 rfl) rfl zl_19_239 rfl rfl (Or.inl ⟨by decide, rfl⟩) (Nat.le_of_ble_eq_true rfl) (Nat.le_of_ble_eq_true rfl) (f_147_ok hx8) (k_147 _ hx8) ?_
        by_cases hc9 : ¬ x7 = 0
        · rw [if_pos hc9] at g51
          refine zo_ifT (p' := 38) (zi_146 rfl) rfl hc9 ?_
          refine zo_aload_n (p' := 39) (zi_146 rfl) rfl rfl ?_
          obtain ⟨x10, hx11, g52⟩ := zb_of g51
          refine zo_getI (p' := 42) (zi_146 rfl) rfl zl_19_7 hx11 ?_
          refine zo_bipush (p' := 44) (v := 6) (zi_146 rfl) rfl rfl ?_
          by_cases hc12 : ¬ x10 = 6
          · rw [if_pos hc12] at g52
            refine zo_icT (p' := 50) (zi_146 rfl) rfl hc12 ?_
            refine zo_aload_n (p' := 51) (zi_146 rfl) rfl rfl ?_
            obtain ⟨r13, hx14, g53⟩ := zb_of g52
            refine zo_getR (p' := 54) (zi_146 rfl) rfl zl_19_19 hx14 ?_
            refine zo_aload_n (p' := 55) (zi_146 rfl) rfl rfl ?_
            obtain ⟨x15, hx16, g54⟩ := zb_of g53
            refine zo_getI (p' := 58) (zi_146 rfl) rfl zl_19_7 hx16 ?_
            refine zo_iload_n (p' := 59) (zi_146 rfl) rfl rfl ?_
            obtain ⟨q17, h0, g55⟩ := zb_of g54
            subst h0
            obtain ⟨M18, hx19, g56⟩ := zb_of g55
            refine zo_iast (p' := 60) (zi_146 rfl) rfl hx19 ?_
            refine zo_aload_n (p' := 61) (zi_146 rfl) rfl rfl ?_
            obtain ⟨r20, hx21, g57⟩ := zb_of g56
            refine zo_getR (p' := 64) (zi_146 rfl) rfl zl_19_23 hx21 ?_
            refine zo_aload_n (p' := 65) (zi_146 rfl) rfl rfl ?_
            obtain ⟨x22, hx23, g58⟩ := zb_of g57
            refine zo_getI (p' := 68) (zi_146 rfl) rfl zl_19_7 hx23 ?_
            refine zo_iload_n (p' := 69) (zi_146 rfl) rfl rfl ?_
            obtain ⟨q24, h0, g59⟩ := zb_of g58
            subst h0
            obtain ⟨M25, hx26, g60⟩ := zb_of g59
            refine zo_iast (p' := 70) (zi_146 rfl) rfl hx26 ?_
            refine zo_aload_n (p' := 71) (zi_146 rfl) rfl rfl ?_
            obtain ⟨r27, hx28, g61⟩ := zb_of g60
            refine zo_getR (p' := 74) (zi_146 rfl) rfl zl_19_26 hx28 ?_
            refine zo_aload_n (p' := 75) (zi_146 rfl) rfl rfl ?_
            obtain ⟨x29, hx30, g62⟩ := zb_of g61
            refine zo_getI (p' := 78) (zi_146 rfl) rfl zl_19_7 hx30 ?_
            refine zo_iload_n (p' := 79) (zi_146 rfl) rfl rfl ?_
            obtain ⟨q31, h0, g63⟩ := zb_of g62
            subst h0
            obtain ⟨M32, hx33, g64⟩ := zb_of g63
            refine zo_iast (p' := 80) (zi_146 rfl) rfl hx33 ?_
            refine zo_aload_n (p' := 81) (zi_146 rfl) rfl rfl ?_
            obtain ⟨r34, hx35, g65⟩ := zb_of g64
            refine zo_getR (p' := 84) (zi_146 rfl) rfl zl_19_29 hx35 ?_
            refine zo_aload_n (p' := 85) (zi_146 rfl) rfl rfl ?_
            obtain ⟨x36, hx37, g66⟩ := zb_of g65
            refine zo_getI (p' := 88) (zi_146 rfl) rfl zl_19_7 hx37 ?_
            refine zo_iconst (p' := 89) (v := 0) (zi_146 rfl) rfl rfl ?_
            obtain ⟨q38, h0, g67⟩ := zb_of g66
            subst h0
            obtain ⟨M39, hx40, g68⟩ := zb_of g67
            refine zo_iast (p' := 90) (zi_146 rfl) rfl hx40 ?_
            refine zo_aload_n (p' := 91) (zi_146 rfl) rfl rfl ?_
            obtain ⟨r41, hx42, g69⟩ := zb_of g68
            refine zo_getR (p' := 94) (zi_146 rfl) rfl zl_19_32 hx42 ?_
            refine zo_aload_n (p' := 95) (zi_146 rfl) rfl rfl ?_
            obtain ⟨x43, hx44, g70⟩ := zb_of g69
            refine zo_getI (p' := 98) (zi_146 rfl) rfl zl_19_7 hx44 ?_
            refine zo_iconst (p' := 99) (v := 0) (zi_146 rfl) rfl rfl ?_
            obtain ⟨q45, h0, g71⟩ := zb_of g70
            subst h0
            obtain ⟨M46, hx47, g72⟩ := zb_of g71
            refine zo_iast (p' := 100) (zi_146 rfl) rfl hx47 ?_
            refine zo_iconst (p' := 101) (v := 0) (zi_146 rfl) rfl rfl ?_
            refine zo_istore (p' := 103) (L' := [(0, zrf (some o)), (1, .int a0), (2, .int a1), (3, .int a2), (4, .int 0)]) (zi_146 rfl) rfl zm_146_4 ⟨Or.inr ⟨by decide, rfl, fun q => absurd q (by decide)⟩, ⟨Or.inr ⟨by decide, rfl, fun q => absurd q (by decide)⟩, ⟨Or.inr ⟨by decide, rfl, fun q => absurd q (by decide)⟩, ⟨Or.inr ⟨by decide, rfl, fun _ => rfl⟩, ⟨Or.inl ⟨rfl, rfl⟩, trivial⟩⟩⟩⟩⟩ ?_
            refine zgo_sub (L' := [(0, zrf (some o)), (4, .int 0)]) (⟨rfl, rfl, trivial⟩) ?_
            exact k_146_103 _ zF M46 o 0 _ g72
          · rw [if_neg hc12] at g52
            refine zo_icF (p' := 47) (zi_146 rfl) rfl rfl hc12 ?_
            refine zo_bipush (p' := 49) (v := (-4)) (zi_146 rfl) rfl rfl ?_
            have g73 := Option.some.inj g52
            subst g73
            exact zo_iret (zi_146 rfl) rfl ⟨rfl, rfl⟩
        · rw [if_neg hc9] at g51
          refine zo_ifF (p' := 35) (zi_146 rfl) rfl rfl hc9 ?_
          refine zo_bipush (p' := 37) (v := (-2)) (zi_146 rfl) rfl rfl ?_
          have g74 := Option.some.inj g51
          subst g74
          exact zo_iret (zi_146 rfl) rfl ⟨rfl, rfl⟩
    · rw [if_neg hc3] at g48
      refine zo_ifF (p' := 11) (zi_146 rfl) rfl rfl hc3 ?_
      refine zo_iconst (p' := 12) (v := (-1)) (zi_146 rfl) rfl rfl ?_
      have g75 := Option.some.inj g48
      subst g75
      exact zo_iret (zi_146 rfl) rfl ⟨rfl, rfl⟩
  · rw [if_neg hok] at h; cases h
/-- SlateHalvesModel.isBlock(I)Z -/
def f_149 (M : ZMem) (o : Nat) (a0 : Int32) : Option (Int32) := if zok M 12 o = true then (zb (zgi M 12 0 o) fun x1 => zb (f_147 M o a0 0 ((x1 - 1))) fun x3 => if narrow .boolean (.int x3) = .int x3 then some x3 else none) else none
theorem f_149_ok {M : ZMem} {o : Nat} {a0 : Int32} {out : Int32} (h : f_149 M o a0 = some out) : zok M 12 o = true := by
  unfold f_149 at h
  by_cases hok : zok M 12 o = true
  · exact hok
  · rw [if_neg hok] at h; cases h
set_option maxRecDepth 20000 in
theorem k_149 (d : Nat) {M : ZMem} {o : Nat} {a0 : Int32} {out : Int32} (h : f_149 M o a0 = some out) : zrn (d + 1) 149 [zrf (some o), .int a0] M (some (.int out), M) := by
  unfold f_149 at h
  by_cases hok : zok M 12 o = true
  · rw [if_pos hok] at h
    refine zrn_of (L := [(0, zrf (some o)), (1, .int a0)]) rfl ?_
    refine zo_aload_n (p' := 1) (zi_149 rfl) rfl rfl ?_
    refine zo_iload_n (p' := 2) (zi_149 rfl) rfl rfl ?_
    refine zo_iconst (p' := 3) (v := 0) (zi_149 rfl) rfl rfl ?_
    refine zo_aload_n (p' := 4) (zi_149 rfl) rfl rfl ?_
    obtain ⟨x1, hx2, g6⟩ := zb_of h
    refine zo_getI (p' := 7) (zi_149 rfl) rfl zl_19_7 hx2 ?_
    refine zo_iconst (p' := 8) (v := 1) (zi_149 rfl) rfl rfl ?_
    refine zo_isub (p' := 9) (zi_149 rfl) rfl ?_
    obtain ⟨x3, hx4, g7⟩ := zb_of g6
    refine zo_callVi (p' := 12) (t := 12) (as := [.int a0, .int 0, .int ((x1 - 1))]) (r := []) (zi_149 rfl) rfl zl_19_239 rfl rfl (Or.inl ⟨by decide, rfl⟩) (Nat.le_of_ble_eq_true rfl) (Nat.le_of_ble_eq_true rfl) (f_147_ok hx4) (k_147 _ hx4) ?_
    by_cases hr5 : narrow .boolean (.int x3) = .int x3
    · rw [if_pos hr5] at g7
      have g8 := Option.some.inj g7
      subst g8
      exact zo_iret (zi_149 rfl) rfl ⟨rfl, hr5⟩
    · rw [if_neg hr5] at g7; cases g7
  · rw [if_neg hok] at h; cases h
