/-- SlateHalvesModel.goDay()V -/
def f_196_53 (r2 : ZMem → Nat → Int32 → Option (ZMem)) (M : ZMem) (o : Nat) (b1 : Int32) : Option (ZMem) := r2 M o ((b1 + 1))
def f_196_52 (r2 : ZMem → Nat → Int32 → Option (ZMem)) (M : ZMem) (o : Nat) (b1 : Int32) (b2 : Int32) (b3 : Int32) (b4 : Option Nat) : Option (ZMem) := zb b4 fun q36 => zb (zsa M 20 q36 b3 b2) fun M37 => f_196_53 (fun M a0 a1 => r2 M a0 a1) M37 o b1
def f_196_2 : Nat → ZMem → Nat → Int32 → Option (ZMem)
  | 0, _, _, _ => none
  | z + 1, M, o, b1 => zb (zgi M 12 0 o) fun x1 => if x1 ≤ b1 then (zb (zgi M 12 1 o) fun x4 => zb (zpf M 12 1 o (.int ((x4 + 1))) false) fun M6 => some M6) else (zb (zgr M 12 5 o) fun r8 => zb r8 fun q10 => zb (zai M q10 b1) fun x11 => if ¬ x11 = 0 then (zb (zgr M 12 6 o) fun r14 => zb r14 fun q16 => zb (zai M q16 b1) fun x17 => zb (f_175 M o b1) fun x19 => zb (zgr M 12 6 o) fun r21 => if (x17 + x19) ≤ 99 then (f_196_52 (fun M a0 a1 => f_196_2 z M a0 a1) M o b1 ((x17 + x19)) b1 r21) else (f_196_52 (fun M a0 a1 => f_196_2 z M a0 a1) M o b1 99 b1 r21)) else (f_196_53 (fun M a0 a1 => f_196_2 z M a0 a1) M o b1))
set_option maxRecDepth 20000 in
theorem k_196_53 (d : Nat) (r2 : ZMem → Nat → Int32 → Option (ZMem)) (h2 : ∀ (M : ZMem) (a0 : Nat) (a1 : Int32) (out : ZMem), r2 M a0 a1 = some out → zgo none (d + 3) 196 2 [(0, zrf (some a0)), (1, .int a1)] [] M (none, out)) : ∀ (M : ZMem) (o : Nat) (b1 : Int32) (out : ZMem), f_196_53 r2 M o b1 = some out → zgo none (d + 3) 196 53 [(0, zrf (some o)), (1, .int b1)] [] M (none, out) := by
  intro M o b1 out h
  unfold f_196_53 at h
  refine zo_iinc (p' := 56) (v := (b1 + 1)) (L' := [(0, zrf (some o)), (1, .int ((b1 + 1)))]) (zi_196 rfl) rfl zm_196_1 rfl rfl ⟨Or.inr ⟨by decide, rfl, fun _ => zrf_cat _⟩, ⟨Or.inl ⟨rfl, rfl⟩, trivial⟩⟩ ?_
  refine zo_goto (p' := 2) (zi_196 rfl) rfl ?_
  refine zgo_sub (L' := [(0, zrf (some o)), (1, .int (((b1 + 1))))]) (⟨rfl, rfl, trivial⟩) ?_
  exact h2 M o ((b1 + 1)) _ h
set_option maxRecDepth 20000 in
theorem k_196_52 (d : Nat) (r2 : ZMem → Nat → Int32 → Option (ZMem)) (h2 : ∀ (M : ZMem) (a0 : Nat) (a1 : Int32) (out : ZMem), r2 M a0 a1 = some out → zgo none (d + 3) 196 2 [(0, zrf (some a0)), (1, .int a1)] [] M (none, out)) : ∀ (M : ZMem) (o : Nat) (b1 : Int32) (b2 : Int32) (b3 : Int32) (b4 : Option Nat) (out : ZMem), f_196_52 r2 M o b1 b2 b3 b4 = some out → zgo none (d + 3) 196 52 [(0, zrf (some o)), (1, .int b1)] [.int b2, .int b3, zrf b4] M (none, out) := by
  intro M o b1 b2 b3 b4 out h
  unfold f_196_52 at h
  obtain ⟨q36, h0, g39⟩ := zb_of h
  subst h0
  obtain ⟨M37, hx38, g40⟩ := zb_of g39
  refine zo_iast (p' := 53) (zi_196 rfl) rfl hx38 ?_
  refine zgo_sub (L' := [(0, zrf (some o)), (1, .int b1)]) (⟨rfl, rfl, trivial⟩) ?_
  exact k_196_53 _ _ (fun M a0 a1 out h => h2 M a0 a1 out h) M37 o b1 _ g40
set_option maxRecDepth 20000 in
theorem k_196_2 (d : Nat) : ∀ (z : Nat) (M : ZMem) (o : Nat) (b1 : Int32) (out : ZMem), f_196_2 z M o b1 = some out → zgo none (d + 3) 196 2 [(0, zrf (some o)), (1, .int b1)] [] M (none, out) := by
  intro z
  induction z with
  | zero => intro M o b1 out h; cases h
  | succ z ih =>
    intro M o b1 out h
    rw [f_196_2] at h
    refine zo_iload_n (p' := 3) (zi_196 rfl) rfl rfl ?_
    refine zo_aload_n (p' := 4) (zi_196 rfl) rfl rfl ?_
    obtain ⟨x1, hx2, g24⟩ := zb_of h
    refine zo_getI (p' := 7) (zi_196 rfl) rfl zl_19_7 hx2 ?_
    by_cases hc3 : x1 ≤ b1
    · rw [if_pos hc3] at g24
      refine zo_icT (p' := 59) (zi_196 rfl) rfl hc3 ?_
      refine zo_aload_n (p' := 60) (zi_196 rfl) rfl rfl ?_
      refine zo_dup (p' := 61) (zi_196 rfl) rfl (zrf_cat _) ?_
      obtain ⟨x4, hx5, g25⟩ := zb_of g24
      refine zo_getI (p' := 64) (zi_196 rfl) rfl zl_19_13 hx5 ?_
      refine zo_iconst (p' := 65) (v := 1) (zi_196 rfl) rfl rfl ?_
      refine zo_iadd (p' := 66) (zi_196 rfl) rfl ?_
      obtain ⟨M6, hx7, g26⟩ := zb_of g25
      refine zo_putI (p' := 69) (zi_196 rfl) rfl zl_19_13 (zpb_196 _) hx7 ?_
      have g27 := Option.some.inj g26
      subst g27
      exact zo_vret (zi_196 rfl) rfl
    · rw [if_neg hc3] at g24
      refine zo_icF (p' := 10) (zi_196 rfl) rfl rfl hc3 ?_
      refine zo_aload_n (p' := 11) (zi_196 rfl) rfl rfl ?_
      obtain ⟨r8, hx9, g28⟩ := zb_of g24
      refine zo_getR (p' := 14) (zi_196 rfl) rfl zl_19_26 hx9 ?_
      refine zo_iload_n (p' := 15) (zi_196 rfl) rfl rfl ?_
      obtain ⟨q10, h0, g29⟩ := zb_of g28
      subst h0
      obtain ⟨x11, hx12, g30⟩ := zb_of g29
      refine zo_iald (p' := 16) (zi_196 rfl) rfl hx12 ?_
      by_cases hc13 : ¬ x11 = 0
      · rw [if_pos hc13] at g30
        refine zo_ifT (p' := 22) (zi_196 rfl) rfl hc13 ?_
        refine zo_aload_n (p' := 23) (zi_196 rfl) rfl rfl ?_
        obtain ⟨r14, hx15, g31⟩ := zb_of g30
        refine zo_getR (p' := 26) (zi_196 rfl) rfl zl_19_29 hx15 ?_
        refine zo_iload_n (p' := 27) (zi_196 rfl) rfl rfl ?_
        obtain ⟨q16, h0, g32⟩ := zb_of g31
        subst h0
        obtain ⟨x17, hx18, g33⟩ := zb_of g32
        refine zo_iald (p' := 28) (zi_196 rfl) rfl hx18 ?_
        refine zo_aload_n (p' := 29) (zi_196 rfl) rfl rfl ?_
        refine zo_iload_n (p' := 30) (zi_196 rfl) rfl rfl ?_
        obtain ⟨x19, hx20, g34⟩ := zb_of g33
        refine zo_callVi (p' := 33) (t := 12) (as := [.int b1]) (r := [.int x17]) (zi_196 rfl) rfl zl_19_341 rfl rfl (Or.inl ⟨by decide, rfl⟩) (Nat.le_of_ble_eq_true rfl) (Nat.le_of_ble_eq_true rfl) (f_175_ok hx20) (k_175 _ hx20) ?_
        refine zo_iadd (p' := 34) (zi_196 rfl) rfl ?_
        refine zo_istore_n (p' := 35) (L' := [(0, zrf (some o)), (1, .int b1), (2, .int ((x17 + x19)))]) (zi_196 rfl) rfl zm_196_2 ⟨Or.inr ⟨by decide, rfl, fun q => absurd q (by decide)⟩, ⟨Or.inr ⟨by decide, rfl, fun _ => rfl⟩, ⟨Or.inl ⟨rfl, rfl⟩, trivial⟩⟩⟩ ?_
        refine zo_aload_n (p' := 36) (zi_196 rfl) rfl rfl ?_
        obtain ⟨r21, hx22, g35⟩ := zb_of g34
        refine zo_getR (p' := 39) (zi_196 rfl) rfl zl_19_29 hx22 ?_
        refine zo_iload_n (p' := 40) (zi_196 rfl) rfl rfl ?_
        refine zo_iload_n (p' := 41) (zi_196 rfl) rfl rfl ?_
        refine zo_bipush (p' := 43) (v := 99) (zi_196 rfl) rfl rfl ?_
        by_cases hc23 : (x17 + x19) ≤ 99
        · rw [if_pos hc23] at g35
          refine zo_icT (p' := 51) (zi_196 rfl) rfl hc23 ?_
          refine zo_iload_n (p' := 52) (zi_196 rfl) rfl rfl ?_
          refine zgo_sub (L' := [(0, zrf (some o)), (1, .int b1)]) (⟨rfl, rfl, trivial⟩) ?_
          exact k_196_52 _ _ (fun M a0 a1 out h => ih M a0 a1 out h) M o b1 ((x17 + x19)) b1 r21 _ g35
        · rw [if_neg hc23] at g35
          refine zo_icF (p' := 46) (zi_196 rfl) rfl rfl hc23 ?_
          refine zo_bipush (p' := 48) (v := 99) (zi_196 rfl) rfl rfl ?_
          refine zo_goto (p' := 52) (zi_196 rfl) rfl ?_
          refine zgo_sub (L' := [(0, zrf (some o)), (1, .int b1)]) (⟨rfl, rfl, trivial⟩) ?_
          exact k_196_52 _ _ (fun M a0 a1 out h => ih M a0 a1 out h) M o b1 99 b1 r21 _ g35
      · rw [if_neg hc13] at g30
        refine zo_ifF (p' := 19) (zi_196 rfl) rfl rfl hc13 ?_
        refine zo_goto (p' := 53) (zi_196 rfl) rfl ?_
        refine zgo_sub (L' := [(0, zrf (some o)), (1, .int b1)]) (⟨rfl, rfl, trivial⟩) ?_
        exact k_196_53 _ _ (fun M a0 a1 out h => ih M a0 a1 out h) M o b1 _ g30
def f_196 (M : ZMem) (o : Nat) : Option (ZMem) := if zok M 12 o = true then (f_196_2 zF M o 0) else none
theorem f_196_ok {M : ZMem} {o : Nat} {out : ZMem} (h : f_196 M o = some out) : zok M 12 o = true := by
  unfold f_196 at h
  by_cases hok : zok M 12 o = true
  · exact hok
  · rw [if_neg hok] at h; cases h
set_option maxRecDepth 20000 in
theorem k_196 (d : Nat) {M : ZMem} {o : Nat} {out : ZMem} (h : f_196 M o = some out) : zrn (d + 3) 196 [zrf (some o)] M (none, out) := by
  unfold f_196 at h
  by_cases hok : zok M 12 o = true
  · rw [if_pos hok] at h
    refine zrn_of (L := [(0, zrf (some o))]) rfl ?_
    refine zo_iconst (p' := 1) (v := 0) (zi_196 rfl) rfl rfl ?_
    refine zo_istore_n (p' := 2) (L' := [(0, zrf (some o)), (1, .int 0)]) (zi_196 rfl) rfl zm_196_1 ⟨Or.inr ⟨by decide, rfl, fun _ => zrf_cat _⟩, ⟨Or.inl ⟨rfl, rfl⟩, trivial⟩⟩ ?_
    refine zgo_sub (L' := [(0, zrf (some o)), (1, .int 0)]) (⟨rfl, rfl, trivial⟩) ?_
    exact k_196_2 _ zF M o 0 _ h
  · rw [if_neg hok] at h; cases h
/-- SlateHalvesModel.goDays(I)V -/
def f_195_2 : Nat → ZMem → Nat → Int32 → Int32 → Option (ZMem)
  | 0, _, _, _, _ => none
  | z + 1, M, o, b1, b2 => if b1 ≤ b2 then (some M) else (zb (f_196 M o) fun M4 => f_195_2 z M4 o b1 ((b2 + 1)))
set_option maxRecDepth 20000 in
theorem k_195_2 (d : Nat) : ∀ (z : Nat) (M : ZMem) (o : Nat) (b1 : Int32) (b2 : Int32) (out : ZMem), f_195_2 z M o b1 b2 = some out → zgo none (d + 4) 195 2 [(0, zrf (some o)), (1, .int b1), (2, .int b2)] [] M (none, out) := by
  intro z
  induction z with
  | zero => intro M o b1 b2 out h; cases h
  | succ z ih =>
    intro M o b1 b2 out h
    rw [f_195_2] at h
    refine zo_iload_n (p' := 3) (zi_195 rfl) rfl rfl ?_
    refine zo_iload_n (p' := 4) (zi_195 rfl) rfl rfl ?_
    by_cases hc1 : b1 ≤ b2
    · rw [if_pos hc1] at h
      refine zo_icT (p' := 17) (zi_195 rfl) rfl hc1 ?_
      have g5 := Option.some.inj h
      subst g5
      exact zo_vret (zi_195 rfl) rfl
    · rw [if_neg hc1] at h
      refine zo_icF (p' := 7) (zi_195 rfl) rfl rfl hc1 ?_
      refine zo_aload_n (p' := 8) (zi_195 rfl) rfl rfl ?_
      obtain ⟨M4, hx3, g6⟩ := zb_of h
      refine zo_callVv (p' := 11) (t := 12) (as := []) (r := []) (zi_195 rfl) rfl zl_19_360 rfl rfl (Or.inl ⟨by decide, rfl⟩) (Nat.le_of_ble_eq_true rfl) (Nat.le_of_ble_eq_true rfl) (f_196_ok hx3) (k_196 _ hx3) ?_
      refine zo_iinc (p' := 14) (v := (b2 + 1)) (L' := [(0, zrf (some o)), (1, .int b1), (2, .int ((b2 + 1)))]) (zi_195 rfl) rfl zm_195_2 rfl rfl ⟨Or.inr ⟨by decide, rfl, fun q => absurd q (by decide)⟩, ⟨Or.inr ⟨by decide, rfl, fun _ => rfl⟩, ⟨Or.inl ⟨rfl, rfl⟩, trivial⟩⟩⟩ ?_
      refine zo_goto (p' := 2) (zi_195 rfl) rfl ?_
      refine zgo_sub (L' := [(0, zrf (some o)), (1, .int b1), (2, .int (((b2 + 1))))]) (⟨rfl, rfl, rfl, trivial⟩) ?_
      exact ih M4 o b1 ((b2 + 1)) _ g6
def f_195 (M : ZMem) (o : Nat) (a0 : Int32) : Option (ZMem) := if zok M 12 o = true then (f_195_2 zF M o a0 0) else none
theorem f_195_ok {M : ZMem} {o : Nat} {a0 : Int32} {out : ZMem} (h : f_195 M o a0 = some out) : zok M 12 o = true := by
  unfold f_195 at h
  by_cases hok : zok M 12 o = true
  · exact hok
  · rw [if_neg hok] at h; cases h
set_option maxRecDepth 20000 in
theorem k_195 (d : Nat) {M : ZMem} {o : Nat} {a0 : Int32} {out : ZMem} (h : f_195 M o a0 = some out) : zrn (d + 4) 195 [zrf (some o), .int a0] M (none, out) := by
  unfold f_195 at h
  by_cases hok : zok M 12 o = true
  · rw [if_pos hok] at h
    refine zrn_of (L := [(0, zrf (some o)), (1, .int a0)]) rfl ?_
    refine zo_iconst (p' := 1) (v := 0) (zi_195 rfl) rfl rfl ?_
    refine zo_istore_n (p' := 2) (L' := [(0, zrf (some o)), (1, .int a0), (2, .int 0)]) (zi_195 rfl) rfl zm_195_2 ⟨Or.inr ⟨by decide, rfl, fun q => absurd q (by decide)⟩, ⟨Or.inr ⟨by decide, rfl, fun _ => rfl⟩, ⟨Or.inl ⟨rfl, rfl⟩, trivial⟩⟩⟩ ?_
    refine zgo_sub (L' := [(0, zrf (some o)), (1, .int a0), (2, .int 0)]) (⟨rfl, rfl, rfl, trivial⟩) ?_
    exact k_195_2 _ zF M o a0 0 _ h
  · rw [if_neg hok] at h; cases h
/-- SlateHalvesModel.pass(I)I -/
def f_193 (M : ZMem) (o : Nat) (a0 : Int32) : Option (Int32 × ZMem) := if zok M 12 o = true then (zb (f_194 M o a0) fun x1 => if ¬ x1 = 0 then (zb (zgi M 12 1 o) fun x4 => if (x4 + a0) ≤ 9999 then (zb (f_195 M o a0) fun M9 => zb (zgi M9 12 1 o) fun x10 => some (x10, M9)) else (some ((-3), M))) else (some ((-2), M))) else none
theorem f_193_ok {M : ZMem} {o : Nat} {a0 : Int32} {out : Int32 × ZMem} (h : f_193 M o a0 = some out) : zok M 12 o = true := by
  unfold f_193 at h
  by_cases hok : zok M 12 o = true
  · exact hok
  · rw [if_neg hok] at h; cases h
set_option maxRecDepth 20000 in
theorem k_193 (d : Nat) {M : ZMem} {o : Nat} {a0 : Int32} {out : Int32 × ZMem} (h : f_193 M o a0 = some out) : zrn (d + 5) 193 [zrf (some o), .int a0] M (some (.int out.1), out.2) := by
  unfold f_193 at h
  by_cases hok : zok M 12 o = true
  · rw [if_pos hok] at h
    refine zrn_of (L := [(0, zrf (some o)), (1, .int a0)]) rfl ?_
    refine zo_aload_n (p' := 1) (zi_193 rfl) rfl rfl ?_
    refine zo_iload_n (p' := 2) (zi_193 rfl) rfl rfl ?_
    obtain ⟨x1, hx2, g12⟩ := zb_of h
    refine zo_callVi (p' := 5) (t := 12) (as := [.int a0]) (r := []) (zi_193 rfl) rfl zl_19_363 rfl rfl (Or.inl ⟨by decide, rfl⟩) (Nat.le_of_ble_eq_true rfl) (Nat.le_of_ble_eq_true rfl) (f_194_ok hx2) (k_194 _ hx2) ?_
    by_cases hc3 : ¬ x1 = 0
    · rw [if_pos hc3] at g12
      refine zo_ifT (p' := 11) (zi_193 rfl) rfl hc3 ?_
      refine zo_aload_n (p' := 12) (zi_193 rfl) rfl rfl ?_
      obtain ⟨x4, hx5, g13⟩ := zb_of g12
      refine zo_getI (p' := 15) (zi_193 rfl) rfl zl_19_13 hx5 ?_
      refine zo_iload_n (p' := 16) (zi_193 rfl) rfl rfl ?_
      refine zo_iadd (p' := 17) (zi_193 rfl) rfl ?_
      refine zo_sipush (p' := 20) (v := 9999) (zi_193 rfl) rfl rfl ?_
      by_cases hc6 : (x4 + a0) ≤ 9999
      · rw [if_pos hc6] at g13
        refine zo_icT (p' := 26) (zi_193 rfl) rfl hc6 ?_
        refine zo_aload_n (p' := 27) (zi_193 rfl) rfl rfl ?_
        refine zo_iload_n (p' := 28) (zi_193 rfl) rfl rfl ?_
        obtain ⟨M9, hx8, g14⟩ := zb_of g13
        refine zo_callVv (p' := 31) (t := 12) (as := [.int a0]) (r := []) (zi_193 rfl) rfl zl_19_366 rfl rfl (Or.inl ⟨by decide, rfl⟩) (Nat.le_of_ble_eq_true rfl) (Nat.le_of_ble_eq_true rfl) (f_195_ok hx8) (k_195 _ hx8) ?_
        refine zo_aload_n (p' := 32) (zi_193 rfl) rfl rfl ?_
        obtain ⟨x10, hx11, g15⟩ := zb_of g14
        refine zo_getI (p' := 35) (zi_193 rfl) rfl zl_19_13 hx11 ?_
        have g16 := Option.some.inj g15
        subst g16
        exact zo_iret (zi_193 rfl) rfl ⟨rfl, rfl⟩
      · rw [if_neg hc6] at g13
        refine zo_icF (p' := 23) (zi_193 rfl) rfl rfl hc6 ?_
        refine zo_bipush (p' := 25) (v := (-3)) (zi_193 rfl) rfl rfl ?_
        have g17 := Option.some.inj g13
        subst g17
        exact zo_iret (zi_193 rfl) rfl ⟨rfl, rfl⟩
    · rw [if_neg hc3] at g12
      refine zo_ifF (p' := 8) (zi_193 rfl) rfl rfl hc3 ?_
      refine zo_bipush (p' := 10) (v := (-2)) (zi_193 rfl) rfl rfl ?_
      have g18 := Option.some.inj g12
      subst g18
      exact zo_iret (zi_193 rfl) rfl ⟨rfl, rfl⟩
  · rw [if_neg hok] at h; cases h
/-- SlateHalvesModel.save()V -/
def f_198_10 : Nat → ZMem → Nat → Int32 → Option (ZMem)
  | 0, _, _, _ => none
  | z + 1, M, o, b1 => if 6 ≤ b1 then (some M) else (zb (zgr M 12 32 o) fun r8 => zb (zgr M 12 5 o) fun r10 => zb r10 fun q12 => zb (zai M q12 b1) fun x13 => zb r8 fun q15 => zb (zsa M 20 q15 b1 x13) fun M16 => zb (zgr M16 12 33 o) fun r18 => zb (zgr M16 12 6 o) fun r20 => zb r20 fun q22 => zb (zai M16 q22 b1) fun x23 => zb r18 fun q25 => zb (zsa M16 20 q25 b1 x23) fun M26 => f_198_10 z M26 o ((b1 + 1)))
set_option maxRecDepth 20000 in
theorem k_198_10 (d : Nat) : ∀ (z : Nat) (M : ZMem) (o : Nat) (b1 : Int32) (out : ZMem), f_198_10 z M o b1 = some out → zgo none (d) 198 10 [(0, zrf (some o)), (1, .int b1)] [] M (none, out) := by
  intro z
  induction z with
  | zero => intro M o b1 out h; cases h
  | succ z ih =>
    intro M o b1 out h
    rw [f_198_10] at h
    refine zo_iload_n (p' := 11) (zi_198 rfl) rfl rfl ?_
    refine zo_bipush (p' := 13) (v := 6) (zi_198 rfl) rfl rfl ?_
    by_cases hc7 : 6 ≤ b1
    · rw [if_pos hc7] at h
      refine zo_icT (p' := 46) (zi_198 rfl) rfl hc7 ?_
      have g28 := Option.some.inj h
      subst g28
      exact zo_vret (zi_198 rfl) rfl
    · rw [if_neg hc7] at h
      refine zo_icF (p' := 16) (zi_198 rfl) rfl rfl hc7 ?_
      refine zo_aload_n (p' := 17) (zi_198 rfl) rfl rfl ?_
      obtain ⟨r8, hx9, g29⟩ := zb_of h
      refine zo_getR (p' := 20) (zi_198 rfl) rfl zl_19_108 hx9 ?_
      refine zo_iload_n (p' := 21) (zi_198 rfl) rfl rfl ?_
      refine zo_aload_n (p' := 22) (zi_198 rfl) rfl rfl ?_
      obtain ⟨r10, hx11, g30⟩ := zb_of g29
      refine zo_getR (p' := 25) (zi_198 rfl) rfl zl_19_26 hx11 ?_
      refine zo_iload_n (p' := 26) (zi_198 rfl) rfl rfl ?_
      obtain ⟨q12, h0, g31⟩ := zb_of g30
      subst h0
      obtain ⟨x13, hx14, g32⟩ := zb_of g31
      refine zo_iald (p' := 27) (zi_198 rfl) rfl hx14 ?_
      obtain ⟨q15, h0, g33⟩ := zb_of g32
      subst h0
      obtain ⟨M16, hx17, g34⟩ := zb_of g33
      refine zo_iast (p' := 28) (zi_198 rfl) rfl hx17 ?_
      refine zo_aload_n (p' := 29) (zi_198 rfl) rfl rfl ?_
      obtain ⟨r18, hx19, g35⟩ := zb_of g34
      refine zo_getR (p' := 32) (zi_198 rfl) rfl zl_19_111 hx19 ?_
      refine zo_iload_n (p' := 33) (zi_198 rfl) rfl rfl ?_
      refine zo_aload_n (p' := 34) (zi_198 rfl) rfl rfl ?_
      obtain ⟨r20, hx21, g36⟩ := zb_of g35
      refine zo_getR (p' := 37) (zi_198 rfl) rfl zl_19_29 hx21 ?_
      refine zo_iload_n (p' := 38) (zi_198 rfl) rfl rfl ?_
      obtain ⟨q22, h0, g37⟩ := zb_of g36
      subst h0
      obtain ⟨x23, hx24, g38⟩ := zb_of g37
      refine zo_iald (p' := 39) (zi_198 rfl) rfl hx24 ?_
      obtain ⟨q25, h0, g39⟩ := zb_of g38
      subst h0
      obtain ⟨M26, hx27, g40⟩ := zb_of g39
      refine zo_iast (p' := 40) (zi_198 rfl) rfl hx27 ?_
      refine zo_iinc (p' := 43) (v := (b1 + 1)) (L' := [(0, zrf (some o)), (1, .int ((b1 + 1)))]) (zi_198 rfl) rfl zm_198_1 rfl rfl ⟨Or.inr ⟨by decide, rfl, fun _ => zrf_cat _⟩, ⟨Or.inl ⟨rfl, rfl⟩, trivial⟩⟩ ?_
      refine zo_goto (p' := 10) (zi_198 rfl) rfl ?_
      refine zgo_sub (L' := [(0, zrf (some o)), (1, .int (((b1 + 1))))]) (⟨rfl, rfl, trivial⟩) ?_
      exact ih M26 o ((b1 + 1)) _ g40
def f_198 (M : ZMem) (o : Nat) : Option (ZMem) := if zok M 12 o = true then (zb (zgi M 12 1 o) fun x1 => zb (zpf M 12 31 o (.int x1) false) fun M3 => f_198_10 zF M3 o 0) else none
theorem f_198_ok {M : ZMem} {o : Nat} {out : ZMem} (h : f_198 M o = some out) : zok M 12 o = true := by
  unfold f_198 at h
  by_cases hok : zok M 12 o = true
  · exact hok
  · rw [if_neg hok] at h; cases h
set_option maxRecDepth 20000 in
theorem k_198 (d : Nat) {M : ZMem} {o : Nat} {out : ZMem} (h : f_198 M o = some out) : zrn (d) 198 [zrf (some o)] M (none, out) := by
  unfold f_198 at h
  by_cases hok : zok M 12 o = true
  · rw [if_pos hok] at h
    refine zrn_of (L := [(0, zrf (some o))]) rfl ?_
    refine zo_aload_n (p' := 1) (zi_198 rfl) rfl rfl ?_
    refine zo_aload_n (p' := 2) (zi_198 rfl) rfl rfl ?_
    obtain ⟨x1, hx2, g5⟩ := zb_of h
    refine zo_getI (p' := 5) (zi_198 rfl) rfl zl_19_13 hx2 ?_
    obtain ⟨M3, hx4, g6⟩ := zb_of g5
    refine zo_putI (p' := 8) (zi_198 rfl) rfl zl_19_105 (zpb_198 _) hx4 ?_
    refine zo_iconst (p' := 9) (v := 0) (zi_198 rfl) rfl rfl ?_
    refine zo_istore_n (p' := 10) (L' := [(0, zrf (some o)), (1, .int 0)]) (zi_198 rfl) rfl zm_198_1 ⟨Or.inr ⟨by decide, rfl, fun _ => zrf_cat _⟩, ⟨Or.inl ⟨rfl, rfl⟩, trivial⟩⟩ ?_
    refine zgo_sub (L' := [(0, zrf (some o)), (1, .int 0)]) (⟨rfl, rfl, trivial⟩) ?_
    exact k_198_10 _ zF M3 o 0 _ g6
  · rw [if_neg hok] at h; cases h
/-- SlateHalvesModel.putBack()V -/
def f_199_10 : Nat → ZMem → Nat → Int32 → Option (ZMem)
  | 0, _, _, _ => none
  | z + 1, M, o, b1 => if 6 ≤ b1 then (some M) else (zb (zgr M 12 5 o) fun r8 => zb (zgr M 12 32 o) fun r10 => zb r10 fun q12 => zb (zai M q12 b1) fun x13 => zb r8 fun q15 => zb (zsa M 20 q15 b1 x13) fun M16 => zb (zgr M16 12 6 o) fun r18 => zb (zgr M16 12 33 o) fun r20 => zb r20 fun q22 => zb (zai M16 q22 b1) fun x23 => zb r18 fun q25 => zb (zsa M16 20 q25 b1 x23) fun M26 => f_199_10 z M26 o ((b1 + 1)))
set_option maxRecDepth 20000 in
theorem k_199_10 (d : Nat) : ∀ (z : Nat) (M : ZMem) (o : Nat) (b1 : Int32) (out : ZMem), f_199_10 z M o b1 = some out → zgo none (d) 199 10 [(0, zrf (some o)), (1, .int b1)] [] M (none, out) := by
  intro z
  induction z with
  | zero => intro M o b1 out h; cases h
  | succ z ih =>
    intro M o b1 out h
    rw [f_199_10] at h
    refine zo_iload_n (p' := 11) (zi_199 rfl) rfl rfl ?_
    refine zo_bipush (p' := 13) (v := 6) (zi_199 rfl) rfl rfl ?_
    by_cases hc7 : 6 ≤ b1
    · rw [if_pos hc7] at h
      refine zo_icT (p' := 46) (zi_199 rfl) rfl hc7 ?_
      have g28 := Option.some.inj h
      subst g28
      exact zo_vret (zi_199 rfl) rfl
    · rw [if_neg hc7] at h
      refine zo_icF (p' := 16) (zi_199 rfl) rfl rfl hc7 ?_
      refine zo_aload_n (p' := 17) (zi_199 rfl) rfl rfl ?_
      obtain ⟨r8, hx9, g29⟩ := zb_of h
      refine zo_getR (p' := 20) (zi_199 rfl) rfl zl_19_26 hx9 ?_
      refine zo_iload_n (p' := 21) (zi_199 rfl) rfl rfl ?_
      refine zo_aload_n (p' := 22) (zi_199 rfl) rfl rfl ?_
      obtain ⟨r10, hx11, g30⟩ := zb_of g29
      refine zo_getR (p' := 25) (zi_199 rfl) rfl zl_19_108 hx11 ?_
      refine zo_iload_n (p' := 26) (zi_199 rfl) rfl rfl ?_
      obtain ⟨q12, h0, g31⟩ := zb_of g30
      subst h0
      obtain ⟨x13, hx14, g32⟩ := zb_of g31
      refine zo_iald (p' := 27) (zi_199 rfl) rfl hx14 ?_
      obtain ⟨q15, h0, g33⟩ := zb_of g32
      subst h0
      obtain ⟨M16, hx17, g34⟩ := zb_of g33
      refine zo_iast (p' := 28) (zi_199 rfl) rfl hx17 ?_
      refine zo_aload_n (p' := 29) (zi_199 rfl) rfl rfl ?_
      obtain ⟨r18, hx19, g35⟩ := zb_of g34
      refine zo_getR (p' := 32) (zi_199 rfl) rfl zl_19_29 hx19 ?_
      refine zo_iload_n (p' := 33) (zi_199 rfl) rfl rfl ?_
      refine zo_aload_n (p' := 34) (zi_199 rfl) rfl rfl ?_
      obtain ⟨r20, hx21, g36⟩ := zb_of g35
      refine zo_getR (p' := 37) (zi_199 rfl) rfl zl_19_111 hx21 ?_
      refine zo_iload_n (p' := 38) (zi_199 rfl) rfl rfl ?_
      obtain ⟨q22, h0, g37⟩ := zb_of g36
      subst h0
      obtain ⟨x23, hx24, g38⟩ := zb_of g37
      refine zo_iald (p' := 39) (zi_199 rfl) rfl hx24 ?_
      obtain ⟨q25, h0, g39⟩ := zb_of g38
      subst h0
      obtain ⟨M26, hx27, g40⟩ := zb_of g39
      refine zo_iast (p' := 40) (zi_199 rfl) rfl hx27 ?_
      refine zo_iinc (p' := 43) (v := (b1 + 1)) (L' := [(0, zrf (some o)), (1, .int ((b1 + 1)))]) (zi_199 rfl) rfl zm_199_1 rfl rfl ⟨Or.inr ⟨by decide, rfl, fun _ => zrf_cat _⟩, ⟨Or.inl ⟨rfl, rfl⟩, trivial⟩⟩ ?_
      refine zo_goto (p' := 10) (zi_199 rfl) rfl ?_
      refine zgo_sub (L' := [(0, zrf (some o)), (1, .int (((b1 + 1))))]) (⟨rfl, rfl, trivial⟩) ?_
      exact ih M26 o ((b1 + 1)) _ g40
def f_199 (M : ZMem) (o : Nat) : Option (ZMem) := if zok M 12 o = true then (zb (zgi M 12 31 o) fun x1 => zb (zpf M 12 1 o (.int x1) false) fun M3 => f_199_10 zF M3 o 0) else none
theorem f_199_ok {M : ZMem} {o : Nat} {out : ZMem} (h : f_199 M o = some out) : zok M 12 o = true := by
  unfold f_199 at h
  by_cases hok : zok M 12 o = true
  · exact hok
  · rw [if_neg hok] at h; cases h
set_option maxRecDepth 20000 in
theorem k_199 (d : Nat) {M : ZMem} {o : Nat} {out : ZMem} (h : f_199 M o = some out) : zrn (d) 199 [zrf (some o)] M (none, out) := by
  unfold f_199 at h
  by_cases hok : zok M 12 o = true
  · rw [if_pos hok] at h
    refine zrn_of (L := [(0, zrf (some o))]) rfl ?_
    refine zo_aload_n (p' := 1) (zi_199 rfl) rfl rfl ?_
    refine zo_aload_n (p' := 2) (zi_199 rfl) rfl rfl ?_
    obtain ⟨x1, hx2, g5⟩ := zb_of h
    refine zo_getI (p' := 5) (zi_199 rfl) rfl zl_19_105 hx2 ?_
    obtain ⟨M3, hx4, g6⟩ := zb_of g5
    refine zo_putI (p' := 8) (zi_199 rfl) rfl zl_19_13 (zpb_199 _) hx4 ?_
    refine zo_iconst (p' := 9) (v := 0) (zi_199 rfl) rfl rfl ?_
    refine zo_istore_n (p' := 10) (L' := [(0, zrf (some o)), (1, .int 0)]) (zi_199 rfl) rfl zm_199_1 ⟨Or.inr ⟨by decide, rfl, fun _ => zrf_cat _⟩, ⟨Or.inl ⟨rfl, rfl⟩, trivial⟩⟩ ?_
    refine zgo_sub (L' := [(0, zrf (some o)), (1, .int 0)]) (⟨rfl, rfl, trivial⟩) ?_
    exact k_199_10 _ zF M3 o 0 _ g6
  · rw [if_neg hok] at h; cases h
/-- SlateHalvesModel.on(II)I -/
def f_197_97 (M : ZMem) (o : Nat) (b1 : Int32) : Option (Int32 × ZMem) := zb (f_199 M o) fun M50 => some (b1, M50)
def f_197_40 (M : ZMem) (o : Nat) (b1 : Int32) (b2 : Int32) : Option (Int32 × ZMem) := zb (f_194 M o b1) fun x17 => if ¬ x17 = 0 then (zb (f_198 M o) fun M22 => zb (f_195 M22 o b1) fun M25 => if ¬ b2 = 0 then (if 20 ≤ b2 then (zbd (f_189 M25 o ((b2 - 20))) fun x28 M30 => f_197_97 M30 o x28) else (zb (zgr M25 12 6 o) fun r31 => zb r31 fun q33 => zb (zai M25 q33 (b2 - 10)) fun x34 => f_197_97 M25 o x34)) else (zbd (f_188 M25 o) fun x36 M38 => f_197_97 M38 o x36)) else (some ((-2), M))
set_option maxRecDepth 20000 in
theorem k_197_97 (d : Nat) : ∀ (M : ZMem) (o : Nat) (b1 : Int32) (out : Int32 × ZMem), f_197_97 M o b1 = some out → zgo none (d + 8) 197 97 [(0, zrf (some o))] [.int b1] M (some (.int out.1), out.2) := by
  intro M o b1 out h
  unfold f_197_97 at h
  refine zo_istore_n (p' := 98) (L' := [(0, zrf (some o)), (3, .int b1)]) (zi_197 rfl) rfl zm_197_3 ⟨Or.inr ⟨by decide, rfl, fun q => absurd q (by decide)⟩, ⟨Or.inl ⟨rfl, rfl⟩, trivial⟩⟩ ?_
  refine zo_aload_n (p' := 99) (zi_197 rfl) rfl rfl ?_
  obtain ⟨M50, hx49, g51⟩ := zb_of h
  refine zo_callVv (p' := 102) (t := 12) (as := []) (r := []) (zi_197 rfl) rfl zl_19_372 rfl rfl (Or.inl ⟨by decide, rfl⟩) (Nat.le_of_ble_eq_true rfl) (Nat.le_of_ble_eq_true rfl) (f_199_ok hx49) (k_199 _ hx49) ?_
  refine zo_iload_n (p' := 103) (zi_197 rfl) rfl rfl ?_
  have g52 := Option.some.inj g51
  subst g52
  exact zo_iret (zi_197 rfl) rfl ⟨rfl, rfl⟩
set_option maxRecDepth 20000 in
theorem k_197_40 (d : Nat) : ∀ (M : ZMem) (o : Nat) (b1 : Int32) (b2 : Int32) (out : Int32 × ZMem), f_197_40 M o b1 b2 = some out → zgo none (d + 8) 197 40 [(0, zrf (some o)), (1, .int b1), (2, .int b2)] [] M (some (.int out.1), out.2) := by
  intro M o b1 b2 out h
  unfold f_197_40 at h
  refine zo_aload_n (p' := 41) (zi_197 rfl) rfl rfl ?_
  refine zo_iload_n (p' := 42) (zi_197 rfl) rfl rfl ?_
  obtain ⟨x17, hx18, g39⟩ := zb_of h
  refine zo_callVi (p' := 45) (t := 12) (as := [.int b1]) (r := []) (zi_197 rfl) rfl zl_19_363 rfl rfl (Or.inl ⟨by decide, rfl⟩) (Nat.le_of_ble_eq_true rfl) (Nat.le_of_ble_eq_true rfl) (f_194_ok hx18) (k_194 _ hx18) ?_
  by_cases hc19 : ¬ x17 = 0
  · rw [if_pos hc19] at g39
    refine zo_ifT (p' := 51) (zi_197 rfl) rfl hc19 ?_
    refine zo_aload_n (p' := 52) (zi_197 rfl) rfl rfl ?_
    obtain ⟨M22, hx21, g40⟩ := zb_of g39
    refine zo_callVv (p' := 55) (t := 12) (as := []) (r := []) (zi_197 rfl) rfl zl_19_369 rfl rfl (Or.inl ⟨by decide, rfl⟩) (Nat.le_of_ble_eq_true rfl) (Nat.le_of_ble_eq_true rfl) (f_198_ok hx21) (k_198 _ hx21) ?_
    refine zo_aload_n (p' := 56) (zi_197 rfl) rfl rfl ?_
    refine zo_iload_n (p' := 57) (zi_197 rfl) rfl rfl ?_
    obtain ⟨M25, hx24, g41⟩ := zb_of g40
    refine zo_callVv (p' := 60) (t := 12) (as := [.int b1]) (r := []) (zi_197 rfl) rfl zl_19_366 rfl rfl (Or.inl ⟨by decide, rfl⟩) (Nat.le_of_ble_eq_true rfl) (Nat.le_of_ble_eq_true rfl) (f_195_ok hx24) (k_195 _ hx24) ?_
    refine zo_iload_n (p' := 61) (zi_197 rfl) rfl rfl ?_
    by_cases hc26 : ¬ b2 = 0
    · rw [if_pos hc26] at g41
      refine zo_ifT (p' := 71) (zi_197 rfl) rfl hc26 ?_
      refine zo_iload_n (p' := 72) (zi_197 rfl) rfl rfl ?_
      refine zo_bipush (p' := 74) (v := 20) (zi_197 rfl) rfl rfl ?_
      by_cases hc27 : 20 ≤ b2
      · rw [if_pos hc27] at g41
        refine zo_icT (p' := 89) (zi_197 rfl) rfl hc27 ?_
        refine zo_aload_n (p' := 90) (zi_197 rfl) rfl rfl ?_
        refine zo_iload_n (p' := 91) (zi_197 rfl) rfl rfl ?_
        refine zo_bipush (p' := 93) (v := 20) (zi_197 rfl) rfl rfl ?_
        refine zo_isub (p' := 94) (zi_197 rfl) rfl ?_
        obtain ⟨x28, M30, hx29, g42⟩ := zbd_of g41
        refine zo_callVi (p' := 97) (t := 12) (as := [.int ((b2 - 20))]) (r := []) (zi_197 rfl) rfl zl_19_353 rfl rfl (Or.inl ⟨by decide, rfl⟩) (Nat.le_of_ble_eq_true rfl) (Nat.le_of_ble_eq_true rfl) (f_189_ok hx29) (k_189 _ hx29) ?_
        refine zgo_sub (L' := [(0, zrf (some o))]) (⟨rfl, trivial⟩) ?_
        exact k_197_97 _ M30 o x28 _ g42
      · rw [if_neg hc27] at g41
        refine zo_icF (p' := 77) (zi_197 rfl) rfl rfl hc27 ?_
        refine zo_aload_n (p' := 78) (zi_197 rfl) rfl rfl ?_
        obtain ⟨r31, hx32, g43⟩ := zb_of g41
        refine zo_getR (p' := 81) (zi_197 rfl) rfl zl_19_29 hx32 ?_
        refine zo_iload_n (p' := 82) (zi_197 rfl) rfl rfl ?_
        refine zo_bipush (p' := 84) (v := 10) (zi_197 rfl) rfl rfl ?_
        refine zo_isub (p' := 85) (zi_197 rfl) rfl ?_
        obtain ⟨q33, h0, g44⟩ := zb_of g43
        subst h0
        obtain ⟨x34, hx35, g45⟩ := zb_of g44
        refine zo_iald (p' := 86) (zi_197 rfl) rfl hx35 ?_
        refine zo_goto (p' := 97) (zi_197 rfl) rfl ?_
        refine zgo_sub (L' := [(0, zrf (some o))]) (⟨rfl, trivial⟩) ?_
        exact k_197_97 _ M25 o x34 _ g45
    · rw [if_neg hc26] at g41
      refine zo_ifF (p' := 64) (zi_197 rfl) rfl rfl hc26 ?_
      refine zo_aload_n (p' := 65) (zi_197 rfl) rfl rfl ?_
      obtain ⟨x36, M38, hx37, g46⟩ := zbd_of g41
      refine zo_callVi (p' := 68) (t := 12) (as := []) (r := []) (zi_197 rfl) rfl zl_19_356 rfl rfl (Or.inl ⟨by decide, rfl⟩) (Nat.le_of_ble_eq_true rfl) (Nat.le_of_ble_eq_true rfl) (f_188_ok hx37) (k_188 _ hx37) ?_
      refine zo_goto (p' := 97) (zi_197 rfl) rfl ?_
      refine zgo_sub (L' := [(0, zrf (some o))]) (⟨rfl, trivial⟩) ?_
      exact k_197_97 _ M38 o x36 _ g46
  · rw [if_neg hc19] at g39
    refine zo_ifF (p' := 48) (zi_197 rfl) rfl rfl hc19 ?_
    refine zo_bipush (p' := 50) (v := (-2)) (zi_197 rfl) rfl rfl ?_
    have g47 := Option.some.inj g39
    subst g47
    exact zo_iret (zi_197 rfl) rfl ⟨rfl, rfl⟩
def f_197 (M : ZMem) (o : Nat) (a0 : Int32) (a1 : Int32) : Option (Int32 × ZMem) := if zok M 12 o = true then (if a1 = 0 then (f_197_40 M o a0 a1) else (zb (zgi M 12 0 o) fun x2 => zb (f_147 M o a1 10 ((9 + x2))) fun x4 => if ¬ x4 = 0 then (f_197_40 M o a0 a1) else (zb (zgi M 12 0 o) fun x7 => zb (f_147 M o a1 20 ((19 + x7))) fun x9 => if ¬ x9 = 0 then (f_197_40 M o a0 a1) else (some ((-1), M))))) else none
theorem f_197_ok {M : ZMem} {o : Nat} {a0 : Int32} {a1 : Int32} {out : Int32 × ZMem} (h : f_197 M o a0 a1 = some out) : zok M 12 o = true := by
  unfold f_197 at h
  by_cases hok : zok M 12 o = true
  · exact hok
  · rw [if_neg hok] at h; cases h
set_option maxRecDepth 20000 in
theorem k_197 (d : Nat) {M : ZMem} {o : Nat} {a0 : Int32} {a1 : Int32} {out : Int32 × ZMem} (h : f_197 M o a0 a1 = some out) : zrn (d + 8) 197 [zrf (some o), .int a0, .int a1] M (some (.int out.1), out.2) := by
  unfold f_197 at h
  by_cases hok : zok M 12 o = true
  · rw [if_pos hok] at h
    refine zrn_of (L := [(0, zrf (some o)), (1, .int a0), (2, .int a1)]) rfl ?_
    refine zo_iload_n (p' := 1) (zi_197 rfl) rfl rfl ?_
    by_cases hc1 : a1 = 0
    · rw [if_pos hc1] at h
      refine zo_ifT (p' := 40) (zi_197 rfl) rfl hc1 ?_
      refine zgo_sub (L' := [(0, zrf (some o)), (1, .int a0), (2, .int a1)]) (⟨rfl, rfl, rfl, trivial⟩) ?_
      exact k_197_40 _ M o a0 a1 _ h
    · rw [if_neg hc1] at h
      refine zo_ifF (p' := 4) (zi_197 rfl) rfl rfl hc1 ?_
      refine zo_aload_n (p' := 5) (zi_197 rfl) rfl rfl ?_
      refine zo_iload_n (p' := 6) (zi_197 rfl) rfl rfl ?_
      refine zo_bipush (p' := 8) (v := 10) (zi_197 rfl) rfl rfl ?_
      refine zo_bipush (p' := 10) (v := 9) (zi_197 rfl) rfl rfl ?_
      refine zo_aload_n (p' := 11) (zi_197 rfl) rfl rfl ?_
      obtain ⟨x2, hx3, g12⟩ := zb_of h
      refine zo_getI (p' := 14) (zi_197 rfl) rfl zl_19_7 hx3 ?_
      refine zo_iadd (p' := 15) (zi_197 rfl) rfl ?_
      obtain ⟨x4, hx5, g13⟩ := zb_of g12
      refine zo_callVi (p' := 18) (t := 12) (as := [.int a1, .int 10, .int ((9 + x2))]) (r := []) (zi_197 rfl) rfl zl_19_239 rfl rfl (Or.inl ⟨by decide, rfl⟩) (Nat.le_of_ble_eq_true rfl) (Nat.le_of_ble_eq_true rfl) (f_147_ok hx5) (k_147 _ hx5) ?_
      by_cases hc6 : ¬ x4 = 0
      · rw [if_pos hc6] at g13
        refine zo_ifT (p' := 40) (zi_197 rfl) rfl hc6 ?_
        refine zgo_sub (L' := [(0, zrf (some o)), (1, .int a0), (2, .int a1)]) (⟨rfl, rfl, rfl, trivial⟩) ?_
        exact k_197_40 _ M o a0 a1 _ g13
      · rw [if_neg hc6] at g13
        refine zo_ifF (p' := 21) (zi_197 rfl) rfl rfl hc6 ?_
        refine zo_aload_n (p' := 22) (zi_197 rfl) rfl rfl ?_
        refine zo_iload_n (p' := 23) (zi_197 rfl) rfl rfl ?_
        refine zo_bipush (p' := 25) (v := 20) (zi_197 rfl) rfl rfl ?_
        refine zo_bipush (p' := 27) (v := 19) (zi_197 rfl) rfl rfl ?_
        refine zo_aload_n (p' := 28) (zi_197 rfl) rfl rfl ?_
        obtain ⟨x7, hx8, g14⟩ := zb_of g13
        refine zo_getI (p' := 31) (zi_197 rfl) rfl zl_19_7 hx8 ?_
        refine zo_iadd (p' := 32) (zi_197 rfl) rfl ?_
        obtain ⟨x9, hx10, g15⟩ := zb_of g14
        refine zo_callVi (p' := 35) (t := 12) (as := [.int a1, .int 20, .int ((19 + x7))]) (r := []) (zi_197 rfl) rfl zl_19_239 rfl rfl (Or.inl ⟨by decide, rfl⟩) (Nat.le_of_ble_eq_true rfl) (Nat.le_of_ble_eq_true rfl) (f_147_ok hx10) (k_147 _ hx10) ?_
        by_cases hc11 : ¬ x9 = 0
        · rw [if_pos hc11] at g15
          refine zo_ifT (p' := 40) (zi_197 rfl) rfl hc11 ?_
          refine zgo_sub (L' := [(0, zrf (some o)), (1, .int a0), (2, .int a1)]) (⟨rfl, rfl, rfl, trivial⟩) ?_
          exact k_197_40 _ M o a0 a1 _ g15
        · rw [if_neg hc11] at g15
          refine zo_ifF (p' := 38) (zi_197 rfl) rfl rfl hc11 ?_
          refine zo_iconst (p' := 39) (v := (-1)) (zi_197 rfl) rfl rfl ?_
          have g16 := Option.some.inj g15
          subst g16
          exact zo_iret (zi_197 rfl) rfl ⟨rfl, rfl⟩
  · rw [if_neg hok] at h; cases h
/-- SlateHalvesModel.lasts(I)I -/
def f_200_43 (r24 : ZMem → Nat → Int32 → Int32 → Int32 → Option (Int32 × ZMem)) (M : ZMem) (o : Nat) (b1 : Int32) (b2 : Int32) (b3 : Int32) : Option (Int32 × ZMem) := zb (f_196 M o) fun M23 => r24 M23 o b1 b3 ((b2 + 1))
def f_200_24 : Nat → ZMem → Nat → Int32 → Int32 → Int32 → Option (Int32 × ZMem)
  | 0, _, _, _, _, _ => none
  | z + 1, M, o, b1, b2, b3 => if 21 ≤ b3 then (zb (f_199 M o) fun M13 => some (b2, M13)) else (zbd (f_188 M o) fun x14 M16 => if x14 < b1 then (f_200_43 (fun M a0 a1 a2 a3 => f_200_24 z M a0 a1 a2 a3) M16 o b1 b3 b2) else (f_200_43 (fun M a0 a1 a2 a3 => f_200_24 z M a0 a1 a2 a3) M16 o b1 b3 b3))
set_option maxRecDepth 20000 in
theorem k_200_43 (d : Nat) (r24 : ZMem → Nat → Int32 → Int32 → Int32 → Option (Int32 × ZMem)) (h24 : ∀ (M : ZMem) (a0 : Nat) (a1 : Int32) (a2 : Int32) (a3 : Int32) (out : Int32 × ZMem), r24 M a0 a1 a2 a3 = some out → zgo none (d + 8) 200 24 [(0, zrf (some a0)), (1, .int a1), (2, .int a2), (3, .int a3)] [] M (some (.int out.1), out.2)) : ∀ (M : ZMem) (o : Nat) (b1 : Int32) (b2 : Int32) (b3 : Int32) (out : Int32 × ZMem), f_200_43 r24 M o b1 b2 b3 = some out → zgo none (d + 8) 200 43 [(0, zrf (some o)), (1, .int b1), (3, .int b2)] [.int b3] M (some (.int out.1), out.2) := by
  intro M o b1 b2 b3 out h
  unfold f_200_43 at h
  refine zo_istore_n (p' := 44) (L' := [(0, zrf (some o)), (1, .int b1), (2, .int b3), (3, .int b2)]) (zi_200 rfl) rfl zm_200_2 ⟨Or.inr ⟨by decide, rfl, fun q => absurd q (by decide)⟩, ⟨Or.inr ⟨by decide, rfl, fun _ => rfl⟩, ⟨Or.inl ⟨rfl, rfl⟩, ⟨Or.inr ⟨by decide, rfl, fun q => absurd q (by decide)⟩, trivial⟩⟩⟩⟩ ?_
  refine zo_aload_n (p' := 45) (zi_200 rfl) rfl rfl ?_
  obtain ⟨M23, hx22, g24⟩ := zb_of h
  refine zo_callVv (p' := 48) (t := 12) (as := []) (r := []) (zi_200 rfl) rfl zl_19_360 rfl rfl (Or.inl ⟨by decide, rfl⟩) (Nat.le_of_ble_eq_true rfl) (Nat.le_of_ble_eq_true rfl) (f_196_ok hx22) (k_196 _ hx22) ?_
  refine zo_iinc (p' := 51) (v := (b2 + 1)) (L' := [(0, zrf (some o)), (1, .int b1), (2, .int b3), (3, .int ((b2 + 1)))]) (zi_200 rfl) rfl zm_200_3 rfl rfl ⟨Or.inr ⟨by decide, rfl, fun q => absurd q (by decide)⟩, ⟨Or.inr ⟨by decide, rfl, fun q => absurd q (by decide)⟩, ⟨Or.inr ⟨by decide, rfl, fun _ => rfl⟩, ⟨Or.inl ⟨rfl, rfl⟩, trivial⟩⟩⟩⟩ ?_
  refine zo_goto (p' := 24) (zi_200 rfl) rfl ?_
  refine zgo_sub (L' := [(0, zrf (some o)), (1, .int b1), (2, .int b3), (3, .int (((b2 + 1))))]) (⟨rfl, rfl, rfl, rfl, trivial⟩) ?_
  exact h24 M23 o b1 b3 ((b2 + 1)) _ g24
set_option maxRecDepth 20000 in
theorem k_200_24 (d : Nat) : ∀ (z : Nat) (M : ZMem) (o : Nat) (b1 : Int32) (b2 : Int32) (b3 : Int32) (out : Int32 × ZMem), f_200_24 z M o b1 b2 b3 = some out → zgo none (d + 8) 200 24 [(0, zrf (some o)), (1, .int b1), (2, .int b2), (3, .int b3)] [] M (some (.int out.1), out.2) := by
  intro z
  induction z with
  | zero => intro M o b1 b2 b3 out h; cases h
  | succ z ih =>
    intro M o b1 b2 b3 out h
    rw [f_200_24] at h
    refine zo_iload_n (p' := 25) (zi_200 rfl) rfl rfl ?_
    refine zo_bipush (p' := 27) (v := 21) (zi_200 rfl) rfl rfl ?_
    by_cases hc10 : 21 ≤ b3
    · rw [if_pos hc10] at h
      refine zo_icT (p' := 54) (zi_200 rfl) rfl hc10 ?_
      refine zo_aload_n (p' := 55) (zi_200 rfl) rfl rfl ?_
      obtain ⟨M13, hx12, g18⟩ := zb_of h
      refine zo_callVv (p' := 58) (t := 12) (as := []) (r := []) (zi_200 rfl) rfl zl_19_372 rfl rfl (Or.inl ⟨by decide, rfl⟩) (Nat.le_of_ble_eq_true rfl) (Nat.le_of_ble_eq_true rfl) (f_199_ok hx12) (k_199 _ hx12) ?_
      refine zo_iload_n (p' := 59) (zi_200 rfl) rfl rfl ?_
      have g19 := Option.some.inj g18
      subst g19
      exact zo_iret (zi_200 rfl) rfl ⟨rfl, rfl⟩
    · rw [if_neg hc10] at h
      refine zo_icF (p' := 30) (zi_200 rfl) rfl rfl hc10 ?_
      refine zo_aload_n (p' := 31) (zi_200 rfl) rfl rfl ?_
      obtain ⟨x14, M16, hx15, g20⟩ := zbd_of h
      refine zo_callVi (p' := 34) (t := 12) (as := []) (r := []) (zi_200 rfl) rfl zl_19_356 rfl rfl (Or.inl ⟨by decide, rfl⟩) (Nat.le_of_ble_eq_true rfl) (Nat.le_of_ble_eq_true rfl) (f_188_ok hx15) (k_188 _ hx15) ?_
      refine zo_iload_n (p' := 35) (zi_200 rfl) rfl rfl ?_
      by_cases hc17 : x14 < b1
      · rw [if_pos hc17] at g20
        refine zo_icT (p' := 42) (zi_200 rfl) rfl hc17 ?_
        refine zo_iload_n (p' := 43) (zi_200 rfl) rfl rfl ?_
        refine zgo_sub (L' := [(0, zrf (some o)), (1, .int b1), (3, .int b3)]) (⟨rfl, rfl, rfl, trivial⟩) ?_
        exact k_200_43 _ _ (fun M a0 a1 a2 a3 out h => ih M a0 a1 a2 a3 out h) M16 o b1 b3 b2 _ g20
      · rw [if_neg hc17] at g20
        refine zo_icF (p' := 38) (zi_200 rfl) rfl rfl hc17 ?_
        refine zo_iload_n (p' := 39) (zi_200 rfl) rfl rfl ?_
        refine zo_goto (p' := 43) (zi_200 rfl) rfl ?_
        refine zgo_sub (L' := [(0, zrf (some o)), (1, .int b1), (3, .int b3)]) (⟨rfl, rfl, rfl, trivial⟩) ?_
        exact k_200_43 _ _ (fun M a0 a1 a2 a3 out h => ih M a0 a1 a2 a3 out h) M16 o b1 b3 b3 _ g20
def f_200 (M : ZMem) (o : Nat) (a0 : Int32) : Option (Int32 × ZMem) := if zok M 12 o = true then (zb (f_147 M o a0 0 99999) fun x1 => if ¬ x1 = 0 then (zb (f_198 M o) fun M6 => f_200_24 zF M6 o a0 ((-5)) 0) else (some ((-2), M))) else none
theorem f_200_ok {M : ZMem} {o : Nat} {a0 : Int32} {out : Int32 × ZMem} (h : f_200 M o a0 = some out) : zok M 12 o = true := by
  unfold f_200 at h
  by_cases hok : zok M 12 o = true
  · exact hok
  · rw [if_neg hok] at h; cases h
set_option maxRecDepth 20000 in
theorem k_200 (d : Nat) {M : ZMem} {o : Nat} {a0 : Int32} {out : Int32 × ZMem} (h : f_200 M o a0 = some out) : zrn (d + 8) 200 [zrf (some o), .int a0] M (some (.int out.1), out.2) := by
  unfold f_200 at h
  by_cases hok : zok M 12 o = true
  · rw [if_pos hok] at h
    refine zrn_of (L := [(0, zrf (some o)), (1, .int a0)]) rfl ?_
    refine zo_aload_n (p' := 1) (zi_200 rfl) rfl rfl ?_
    refine zo_iload_n (p' := 2) (zi_200 rfl) rfl rfl ?_
    refine zo_iconst (p' := 3) (v := 0) (zi_200 rfl) rfl rfl ?_
    refine zo_ldcw (p' := 6) (v := 99999) (zi_200 rfl) rfl rfl ?_
    obtain ⟨x1, hx2, g7⟩ := zb_of h
    refine zo_callVi (p' := 9) (t := 12) (as := [.int a0, .int 0, .int 99999]) (r := []) (zi_200 rfl) rfl zl_19_239 rfl rfl (Or.inl ⟨by decide, rfl⟩) (Nat.le_of_ble_eq_true rfl) (Nat.le_of_ble_eq_true rfl) (f_147_ok hx2) (k_147 _ hx2) ?_
    by_cases hc3 : ¬ x1 = 0
    · rw [if_pos hc3] at g7
      refine zo_ifT (p' := 15) (zi_200 rfl) rfl hc3 ?_
      refine zo_aload_n (p' := 16) (zi_200 rfl) rfl rfl ?_
      obtain ⟨M6, hx5, g8⟩ := zb_of g7
      refine zo_callVv (p' := 19) (t := 12) (as := []) (r := []) (zi_200 rfl) rfl zl_19_369 rfl rfl (Or.inl ⟨by decide, rfl⟩) (Nat.le_of_ble_eq_true rfl) (Nat.le_of_ble_eq_true rfl) (f_198_ok hx5) (k_198 _ hx5) ?_
      refine zo_bipush (p' := 21) (v := (-5)) (zi_200 rfl) rfl rfl ?_
      refine zo_istore_n (p' := 22) (L' := [(0, zrf (some o)), (1, .int a0), (2, .int ((-5)))]) (zi_200 rfl) rfl zm_200_2 ⟨Or.inr ⟨by decide, rfl, fun q => absurd q (by decide)⟩, ⟨Or.inr ⟨by decide, rfl, fun _ => rfl⟩, ⟨Or.inl ⟨rfl, rfl⟩, trivial⟩⟩⟩ ?_
      refine zo_iconst (p' := 23) (v := 0) (zi_200 rfl) rfl rfl ?_
      refine zo_istore_n (p' := 24) (L' := [(0, zrf (some o)), (1, .int a0), (2, .int ((-5))), (3, .int 0)]) (zi_200 rfl) rfl zm_200_3 ⟨Or.inr ⟨by decide, rfl, fun q => absurd q (by decide)⟩, ⟨Or.inr ⟨by decide, rfl, fun q => absurd q (by decide)⟩, ⟨Or.inr ⟨by decide, rfl, fun _ => rfl⟩, ⟨Or.inl ⟨rfl, rfl⟩, trivial⟩⟩⟩⟩ ?_
      refine zgo_sub (L' := [(0, zrf (some o)), (1, .int a0), (2, .int (((-5)))), (3, .int 0)]) (⟨rfl, rfl, rfl, rfl, trivial⟩) ?_
      exact k_200_24 _ zF M6 o a0 ((-5)) 0 _ g8
    · rw [if_neg hc3] at g7
      refine zo_ifF (p' := 12) (zi_200 rfl) rfl rfl hc3 ?_
      refine zo_bipush (p' := 14) (v := (-2)) (zi_200 rfl) rfl rfl ?_
      have g9 := Option.some.inj g7
      subst g9
      exact zo_iret (zi_200 rfl) rfl ⟨rfl, rfl⟩
  · rw [if_neg hok] at h; cases h
/-- SlateHalvesModel.layThen()V -/
def f_202_38 (r11 : ZMem → Nat → Int32 → Option (ZMem)) (M : ZMem) (o : Nat) (b1 : Int32) (b2 : Int32) (b3 : Int32) (b4 : Option Nat) : Option (ZMem) := zb b4 fun q33 => zb (zpf M 12 37 q33 (.int ((b3 + b2))) false) fun M34 => r11 M34 o ((b1 + 1))
def f_202_60 (r50 : ZMem → Nat → Int32 → Option (ZMem)) : Nat → ZMem → Nat → Int32 → Int32 → Option (ZMem)
  | 0, _, _, _, _ => none
  | z + 1, M, o, b1, b2 => zb (zgi M 12 0 o) fun x38 => if x38 ≤ b2 then (zb (f_196 M o) fun M43 => r50 M43 o ((b1 + 1))) else (zb (zgr M 12 34 o) fun r44 => zbd (f_189 M o b2) fun x46 M48 => zb r44 fun q49 => zb (zsa M48 20 q49 ((6 * b1) + b2) x46) fun M50 => f_202_60 r50 z M50 o b1 ((b2 + 1)))
def f_202_50 : Nat → ZMem → Nat → Int32 → Option (ZMem)
  | 0, _, _, _ => none
  | z + 1, M, o, b1 => zb (zgi M 12 37 o) fun x24 => if x24 ≤ b1 then (zb (f_199 M o) fun M29 => some M29) else (f_202_60 (fun M a0 a1 => f_202_50 z M a0 a1) zF M o b1 0)
def f_202_11 : Nat → ZMem → Nat → Int32 → Option (ZMem)
  | 0, _, _, _ => none
  | z + 1, M, o, b1 => zb (zgi M 12 0 o) fun x8 => if x8 ≤ b1 then (f_202_50 zF M o 0) else (zb (zgi M 12 37 o) fun x11 => zb (zgr M 12 5 o) fun r13 => zb r13 fun q15 => zb (zai M q15 b1) fun x16 => if x16 ≤ 0 then (f_202_38 (fun M a0 a1 => f_202_11 z M a0 a1) M o b1 0 x11 (some o)) else (f_202_38 (fun M a0 a1 => f_202_11 z M a0 a1) M o b1 1 x11 (some o)))
set_option maxRecDepth 20000 in
theorem k_202_38 (d : Nat) (r11 : ZMem → Nat → Int32 → Option (ZMem)) (h11 : ∀ (M : ZMem) (a0 : Nat) (a1 : Int32) (out : ZMem), r11 M a0 a1 = some out → zgo none (d + 7) 202 11 [(0, zrf (some a0)), (1, .int a1)] [] M (none, out)) : ∀ (M : ZMem) (o : Nat) (b1 : Int32) (b2 : Int32) (b3 : Int32) (b4 : Option Nat) (out : ZMem), f_202_38 r11 M o b1 b2 b3 b4 = some out → zgo none (d + 7) 202 38 [(0, zrf (some o)), (1, .int b1)] [.int b2, .int b3, zrf b4] M (none, out) := by
  intro M o b1 b2 b3 b4 out h
  unfold f_202_38 at h
  refine zo_iadd (p' := 39) (zi_202 rfl) rfl ?_
  obtain ⟨q33, h0, g36⟩ := zb_of h
  subst h0
  obtain ⟨M34, hx35, g37⟩ := zb_of g36
  refine zo_putI (p' := 42) (zi_202 rfl) rfl zl_19_123 (zpb_202 _) hx35 ?_
  refine zo_iinc (p' := 45) (v := (b1 + 1)) (L' := [(0, zrf (some o)), (1, .int ((b1 + 1)))]) (zi_202 rfl) rfl zm_202_1 rfl rfl ⟨Or.inr ⟨by decide, rfl, fun _ => zrf_cat _⟩, ⟨Or.inl ⟨rfl, rfl⟩, trivial⟩⟩ ?_
  refine zo_goto (p' := 11) (zi_202 rfl) rfl ?_
  refine zgo_sub (L' := [(0, zrf (some o)), (1, .int (((b1 + 1))))]) (⟨rfl, rfl, trivial⟩) ?_
  exact h11 M34 o ((b1 + 1)) _ g37
set_option maxRecDepth 20000 in
theorem k_202_60 (d : Nat) (r50 : ZMem → Nat → Int32 → Option (ZMem)) (h50 : ∀ (M : ZMem) (a0 : Nat) (a1 : Int32) (out : ZMem), r50 M a0 a1 = some out → zgo none (d + 7) 202 50 [(0, zrf (some a0)), (1, .int a1)] [] M (none, out)) : ∀ (z : Nat) (M : ZMem) (o : Nat) (b1 : Int32) (b2 : Int32) (out : ZMem), f_202_60 r50 z M o b1 b2 = some out → zgo none (d + 7) 202 60 [(0, zrf (some o)), (1, .int b1), (2, .int b2)] [] M (none, out) := by
  intro z
  induction z with
  | zero => intro M o b1 b2 out h; cases h
  | succ z ih =>
    intro M o b1 b2 out h
    rw [f_202_60] at h
    refine zo_iload_n (p' := 61) (zi_202 rfl) rfl rfl ?_
    refine zo_aload_n (p' := 62) (zi_202 rfl) rfl rfl ?_
    obtain ⟨x38, hx39, g52⟩ := zb_of h
    refine zo_getI (p' := 65) (zi_202 rfl) rfl zl_19_7 hx39 ?_
    by_cases hc40 : x38 ≤ b2
    · rw [if_pos hc40] at g52
      refine zo_icT (p' := 90) (zi_202 rfl) rfl hc40 ?_
      refine zo_aload_n (p' := 91) (zi_202 rfl) rfl rfl ?_
      obtain ⟨M43, hx42, g53⟩ := zb_of g52
      refine zo_callVv (p' := 94) (t := 12) (as := []) (r := []) (zi_202 rfl) rfl zl_19_360 rfl rfl (Or.inl ⟨by decide, rfl⟩) (Nat.le_of_ble_eq_true rfl) (Nat.le_of_ble_eq_true rfl) (f_196_ok hx42) (k_196 _ hx42) ?_
      refine zo_iinc (p' := 97) (v := (b1 + 1)) (L' := [(0, zrf (some o)), (1, .int ((b1 + 1))), (2, .int b2)]) (zi_202 rfl) rfl zm_202_1 rfl rfl ⟨Or.inr ⟨by decide, rfl, fun _ => zrf_cat _⟩, ⟨Or.inl ⟨rfl, rfl⟩, ⟨Or.inr ⟨by decide, rfl, fun q => absurd q (by decide)⟩, trivial⟩⟩⟩ ?_
      refine zo_goto (p' := 50) (zi_202 rfl) rfl ?_
      refine zgo_sub (L' := [(0, zrf (some o)), (1, .int (((b1 + 1))))]) (⟨rfl, rfl, trivial⟩) ?_
      exact h50 M43 o ((b1 + 1)) _ g53
    · rw [if_neg hc40] at g52
      refine zo_icF (p' := 68) (zi_202 rfl) rfl rfl hc40 ?_
      refine zo_aload_n (p' := 69) (zi_202 rfl) rfl rfl ?_
      obtain ⟨r44, hx45, g54⟩ := zb_of g52
      refine zo_getR (p' := 72) (zi_202 rfl) rfl zl_19_114 hx45 ?_
      refine zo_bipush (p' := 74) (v := 6) (zi_202 rfl) rfl rfl ?_
      refine zo_iload_n (p' := 75) (zi_202 rfl) rfl rfl ?_
      refine zo_imul (p' := 76) (zi_202 rfl) rfl ?_
      refine zo_iload_n (p' := 77) (zi_202 rfl) rfl rfl ?_
      refine zo_iadd (p' := 78) (zi_202 rfl) rfl ?_
      refine zo_aload_n (p' := 79) (zi_202 rfl) rfl rfl ?_
      refine zo_iload_n (p' := 80) (zi_202 rfl) rfl rfl ?_
      obtain ⟨x46, M48, hx47, g55⟩ := zbd_of g54
      refine zo_callVi (p' := 83) (t := 12) (as := [.int b2]) (r := [.int (((6 * b1) + b2)), zrf r44]) (zi_202 rfl) rfl zl_19_353 rfl rfl (Or.inl ⟨by decide, rfl⟩) (by simp [zrf_cat, zcat_i, zcat_l, zcat_r]) (Nat.le_of_ble_eq_true rfl) (f_189_ok hx47) (k_189 _ hx47) ?_
      obtain ⟨q49, h0, g56⟩ := zb_of g55
      subst h0
      obtain ⟨M50, hx51, g57⟩ := zb_of g56
      refine zo_iast (p' := 84) (zi_202 rfl) rfl hx51 ?_
      refine zo_iinc (p' := 87) (v := (b2 + 1)) (L' := [(0, zrf (some o)), (1, .int b1), (2, .int ((b2 + 1)))]) (zi_202 rfl) rfl zm_202_2 rfl rfl ⟨Or.inr ⟨by decide, rfl, fun q => absurd q (by decide)⟩, ⟨Or.inr ⟨by decide, rfl, fun _ => rfl⟩, ⟨Or.inl ⟨rfl, rfl⟩, trivial⟩⟩⟩ ?_
      refine zo_goto (p' := 60) (zi_202 rfl) rfl ?_
      refine zgo_sub (L' := [(0, zrf (some o)), (1, .int b1), (2, .int (((b2 + 1))))]) (⟨rfl, rfl, rfl, trivial⟩) ?_
      exact ih M50 o b1 ((b2 + 1)) _ g57
set_option maxRecDepth 20000 in
theorem k_202_50 (d : Nat) : ∀ (z : Nat) (M : ZMem) (o : Nat) (b1 : Int32) (out : ZMem), f_202_50 z M o b1 = some out → zgo none (d + 7) 202 50 [(0, zrf (some o)), (1, .int b1)] [] M (none, out) := by
  intro z
  induction z with
  | zero => intro M o b1 out h; cases h
  | succ z ih =>
    intro M o b1 out h
    rw [f_202_50] at h
    refine zo_iload_n (p' := 51) (zi_202 rfl) rfl rfl ?_
    refine zo_aload_n (p' := 52) (zi_202 rfl) rfl rfl ?_
    obtain ⟨x24, hx25, g30⟩ := zb_of h
    refine zo_getI (p' := 55) (zi_202 rfl) rfl zl_19_123 hx25 ?_
    by_cases hc26 : x24 ≤ b1
    · rw [if_pos hc26] at g30
      refine zo_icT (p' := 100) (zi_202 rfl) rfl hc26 ?_
      refine zo_aload_n (p' := 101) (zi_202 rfl) rfl rfl ?_
      obtain ⟨M29, hx28, g31⟩ := zb_of g30
      refine zo_callVv (p' := 104) (t := 12) (as := []) (r := []) (zi_202 rfl) rfl zl_19_372 rfl rfl (Or.inl ⟨by decide, rfl⟩) (Nat.le_of_ble_eq_true rfl) (Nat.le_of_ble_eq_true rfl) (f_199_ok hx28) (k_199 _ hx28) ?_
      have g32 := Option.some.inj g31
      subst g32
      exact zo_vret (zi_202 rfl) rfl
    · rw [if_neg hc26] at g30
      refine zo_icF (p' := 58) (zi_202 rfl) rfl rfl hc26 ?_
      refine zo_iconst (p' := 59) (v := 0) (zi_202 rfl) rfl rfl ?_
      refine zo_istore_n (p' := 60) (L' := [(0, zrf (some o)), (1, .int b1), (2, .int 0)]) (zi_202 rfl) rfl zm_202_2 ⟨Or.inr ⟨by decide, rfl, fun q => absurd q (by decide)⟩, ⟨Or.inr ⟨by decide, rfl, fun _ => rfl⟩, ⟨Or.inl ⟨rfl, rfl⟩, trivial⟩⟩⟩ ?_
      refine zgo_sub (L' := [(0, zrf (some o)), (1, .int b1), (2, .int 0)]) (⟨rfl, rfl, rfl, trivial⟩) ?_
      exact k_202_60 _ _ (fun M a0 a1 out h => ih M a0 a1 out h) zF M o b1 0 _ g30
set_option maxRecDepth 20000 in
theorem k_202_11 (d : Nat) : ∀ (z : Nat) (M : ZMem) (o : Nat) (b1 : Int32) (out : ZMem), f_202_11 z M o b1 = some out → zgo none (d + 7) 202 11 [(0, zrf (some o)), (1, .int b1)] [] M (none, out) := by
  intro z
  induction z with
  | zero => intro M o b1 out h; cases h
  | succ z ih =>
    intro M o b1 out h
    rw [f_202_11] at h
    refine zo_iload_n (p' := 12) (zi_202 rfl) rfl rfl ?_
    refine zo_aload_n (p' := 13) (zi_202 rfl) rfl rfl ?_
    obtain ⟨x8, hx9, g19⟩ := zb_of h
    refine zo_getI (p' := 16) (zi_202 rfl) rfl zl_19_7 hx9 ?_
    by_cases hc10 : x8 ≤ b1
    · rw [if_pos hc10] at g19
      refine zo_icT (p' := 48) (zi_202 rfl) rfl hc10 ?_
      refine zo_iconst (p' := 49) (v := 0) (zi_202 rfl) rfl rfl ?_
      refine zo_istore_n (p' := 50) (L' := [(0, zrf (some o)), (1, .int 0)]) (zi_202 rfl) rfl zm_202_1 ⟨Or.inr ⟨by decide, rfl, fun _ => zrf_cat _⟩, ⟨Or.inl ⟨rfl, rfl⟩, trivial⟩⟩ ?_
      refine zgo_sub (L' := [(0, zrf (some o)), (1, .int 0)]) (⟨rfl, rfl, trivial⟩) ?_
      exact k_202_50 _ zF M o 0 _ g19
    · rw [if_neg hc10] at g19
      refine zo_icF (p' := 19) (zi_202 rfl) rfl rfl hc10 ?_
      refine zo_aload_n (p' := 20) (zi_202 rfl) rfl rfl ?_
      refine zo_dup (p' := 21) (zi_202 rfl) rfl (zrf_cat _) ?_
      obtain ⟨x11, hx12, g20⟩ := zb_of g19
      refine zo_getI (p' := 24) (zi_202 rfl) rfl zl_19_123 hx12 ?_
      refine zo_aload_n (p' := 25) (zi_202 rfl) rfl rfl ?_
      obtain ⟨r13, hx14, g21⟩ := zb_of g20
      refine zo_getR (p' := 28) (zi_202 rfl) rfl zl_19_26 hx14 ?_
      refine zo_iload_n (p' := 29) (zi_202 rfl) rfl rfl ?_
      obtain ⟨q15, h0, g22⟩ := zb_of g21
      subst h0
      obtain ⟨x16, hx17, g23⟩ := zb_of g22
      refine zo_iald (p' := 30) (zi_202 rfl) rfl hx17 ?_
      by_cases hc18 : x16 ≤ 0
      · rw [if_pos hc18] at g23
        refine zo_ifT (p' := 37) (zi_202 rfl) rfl hc18 ?_
        refine zo_iconst (p' := 38) (v := 0) (zi_202 rfl) rfl rfl ?_
        refine zgo_sub (L' := [(0, zrf (some o)), (1, .int b1)]) (⟨rfl, rfl, trivial⟩) ?_
        exact k_202_38 _ _ (fun M a0 a1 out h => ih M a0 a1 out h) M o b1 0 x11 (some o) _ g23
      · rw [if_neg hc18] at g23
        refine zo_ifF (p' := 33) (zi_202 rfl) rfl rfl hc18 ?_
        refine zo_iconst (p' := 34) (v := 1) (zi_202 rfl) rfl rfl ?_
        refine zo_goto (p' := 38) (zi_202 rfl) rfl ?_
        refine zgo_sub (L' := [(0, zrf (some o)), (1, .int b1)]) (⟨rfl, rfl, trivial⟩) ?_
        exact k_202_38 _ _ (fun M a0 a1 out h => ih M a0 a1 out h) M o b1 1 x11 (some o) _ g23
def f_202 (M : ZMem) (o : Nat) : Option (ZMem) := if zok M 12 o = true then (zb (f_198 M o) fun M3 => zb (zpf M3 12 37 o (.int 0) false) fun M4 => f_202_11 zF M4 o 0) else none
theorem f_202_ok {M : ZMem} {o : Nat} {out : ZMem} (h : f_202 M o = some out) : zok M 12 o = true := by
  unfold f_202 at h
  by_cases hok : zok M 12 o = true
  · exact hok
  · rw [if_neg hok] at h; cases h
set_option maxRecDepth 20000 in
theorem k_202 (d : Nat) {M : ZMem} {o : Nat} {out : ZMem} (h : f_202 M o = some out) : zrn (d + 7) 202 [zrf (some o)] M (none, out) := by
  unfold f_202 at h
  by_cases hok : zok M 12 o = true
  · rw [if_pos hok] at h
    refine zrn_of (L := [(0, zrf (some o))]) rfl ?_
    refine zo_aload_n (p' := 1) (zi_202 rfl) rfl rfl ?_
    obtain ⟨M3, hx2, g6⟩ := zb_of h
    refine zo_callVv (p' := 4) (t := 12) (as := []) (r := []) (zi_202 rfl) rfl zl_19_369 rfl rfl (Or.inl ⟨by decide, rfl⟩) (Nat.le_of_ble_eq_true rfl) (Nat.le_of_ble_eq_true rfl) (f_198_ok hx2) (k_198 _ hx2) ?_
    refine zo_aload_n (p' := 5) (zi_202 rfl) rfl rfl ?_
    refine zo_iconst (p' := 6) (v := 0) (zi_202 rfl) rfl rfl ?_
    obtain ⟨M4, hx5, g7⟩ := zb_of g6
    refine zo_putI (p' := 9) (zi_202 rfl) rfl zl_19_123 (zpb_202 _) hx5 ?_
    refine zo_iconst (p' := 10) (v := 0) (zi_202 rfl) rfl rfl ?_
    refine zo_istore_n (p' := 11) (L' := [(0, zrf (some o)), (1, .int 0)]) (zi_202 rfl) rfl zm_202_1 ⟨Or.inr ⟨by decide, rfl, fun _ => zrf_cat _⟩, ⟨Or.inl ⟨rfl, rfl⟩, trivial⟩⟩ ?_
    refine zgo_sub (L' := [(0, zrf (some o)), (1, .int 0)]) (⟨rfl, rfl, trivial⟩) ?_
    exact k_202_11 _ zF M4 o 0 _ g7
  · rw [if_neg hok] at h; cases h
/-- SlateHalvesModel.has(II)Z -/
def f_204 (M : ZMem) (o : Nat) (a0 : Int32) (a1 : Int32) : Option (Int32) := if zok M 12 o = true then (if ¬ ((a0 >>> (a1 &&& 31)) &&& 1) = 1 then (some 0) else (some 1)) else none
theorem f_204_ok {M : ZMem} {o : Nat} {a0 : Int32} {a1 : Int32} {out : Int32} (h : f_204 M o a0 a1 = some out) : zok M 12 o = true := by
  unfold f_204 at h
  by_cases hok : zok M 12 o = true
  · exact hok
  · rw [if_neg hok] at h; cases h
set_option maxRecDepth 20000 in
theorem k_204 (d : Nat) {M : ZMem} {o : Nat} {a0 : Int32} {a1 : Int32} {out : Int32} (h : f_204 M o a0 a1 = some out) : zrn (d) 204 [zrf (some o), .int a0, .int a1] M (some (.int out), M) := by
  unfold f_204 at h
  by_cases hok : zok M 12 o = true
  · rw [if_pos hok] at h
    refine zrn_of (L := [(0, zrf (some o)), (1, .int a0), (2, .int a1)]) rfl ?_
    refine zo_iload_n (p' := 1) (zi_204 rfl) rfl rfl ?_
    refine zo_iload_n (p' := 2) (zi_204 rfl) rfl rfl ?_
    refine zo_ishr (p' := 3) (zi_204 rfl) rfl ?_
    refine zo_iconst (p' := 4) (v := 1) (zi_204 rfl) rfl rfl ?_
    refine zo_iand (p' := 5) (zi_204 rfl) rfl ?_
    refine zo_iconst (p' := 6) (v := 1) (zi_204 rfl) rfl rfl ?_
    by_cases hc1 : ¬ ((a0 >>> (a1 &&& 31)) &&& 1) = 1
    · rw [if_pos hc1] at h
      refine zo_icT (p' := 13) (zi_204 rfl) rfl hc1 ?_
      refine zo_iconst (p' := 14) (v := 0) (zi_204 rfl) rfl rfl ?_
      have g2 := Option.some.inj h
      subst g2
      exact zo_iret (zi_204 rfl) rfl ⟨rfl, rfl⟩
    · rw [if_neg hc1] at h
      refine zo_icF (p' := 9) (zi_204 rfl) rfl rfl hc1 ?_
      refine zo_iconst (p' := 10) (v := 1) (zi_204 rfl) rfl rfl ?_
      refine zo_goto (p' := 14) (zi_204 rfl) rfl ?_
      have g3 := Option.some.inj h
      subst g3
      exact zo_iret (zi_204 rfl) rfl ⟨rfl, rfl⟩
  · rw [if_neg hok] at h; cases h
/-- SlateHalvesModel.layTurn(I)Z -/
def f_203_12 : Nat → ZMem → Nat → Int32 → Int32 → Int32 → Option (Int32 × ZMem)
  | 0, _, _, _, _, _ => none
  | z + 1, M, o, b1, b2, b3 => if b3 < 0 then (some (1, M)) else (zb (zgr M 12 35 o) fun r5 => zb r5 fun q7 => zb (zsa M 20 q7 b3 (b1 - b1 / 6 * 6)) fun M8 => zb (zgr M8 12 35 o) fun r10 => zb r10 fun q12 => zb (zai M8 q12 b3) fun x13 => zb (zgi M8 12 0 o) fun x15 => if x15 ≤ x13 then (some (0, M8)) else (zb (zgr M8 12 5 o) fun r18 => zb (zgr M8 12 35 o) fun r20 => zb r20 fun q22 => zb (zai M8 q22 b3) fun x23 => zb r18 fun q25 => zb (zai M8 q25 x23) fun x26 => if x26 = 0 then (some (0, M8)) else (zb (zgr M8 12 35 o) fun r29 => zb r29 fun q31 => zb (zai M8 q31 b3) fun x32 => zb (f_204 M8 o b2 x32) fun x34 => if x34 = 0 then (zb (zgr M8 12 35 o) fun r37 => zb r37 fun q39 => zb (zai M8 q39 b3) fun x40 => f_203_12 z M8 o ((b1 / 6)) ((b2 ||| (1 <<< (x40 &&& 31)))) ((b3 + (-1)))) else (some (0, M8)))))
set_option maxRecDepth 20000 in
theorem k_203_12 (d : Nat) : ∀ (z : Nat) (M : ZMem) (o : Nat) (b1 : Int32) (b2 : Int32) (b3 : Int32) (out : Int32 × ZMem), f_203_12 z M o b1 b2 b3 = some out → zgo none (d + 1) 203 12 [(0, zrf (some o)), (2, .int b1), (3, .int b2), (4, .int b3)] [] M (some (.int out.1), out.2) := by
  intro z
  induction z with
  | zero => intro M o b1 b2 b3 out h; cases h
  | succ z ih =>
    intro M o b1 b2 b3 out h
    rw [f_203_12] at h
    refine zo_iload (p' := 14) (zi_203 rfl) rfl rfl ?_
    by_cases hc4 : b3 < 0
    · rw [if_pos hc4] at h
      refine zo_ifT (p' := 97) (zi_203 rfl) rfl hc4 ?_
      refine zo_iconst (p' := 98) (v := 1) (zi_203 rfl) rfl rfl ?_
      have g42 := Option.some.inj h
      subst g42
      exact zo_iret (zi_203 rfl) rfl ⟨rfl, rfl⟩
    · rw [if_neg hc4] at h
      refine zo_ifF (p' := 17) (zi_203 rfl) rfl rfl hc4 ?_
      refine zo_aload_n (p' := 18) (zi_203 rfl) rfl rfl ?_
      obtain ⟨r5, hx6, g43⟩ := zb_of h
      refine zo_getR (p' := 21) (zi_203 rfl) rfl zl_19_117 hx6 ?_
      refine zo_iload (p' := 23) (zi_203 rfl) rfl rfl ?_
      refine zo_iload_n (p' := 24) (zi_203 rfl) rfl rfl ?_
      refine zo_bipush (p' := 26) (v := 6) (zi_203 rfl) rfl rfl ?_
      refine zo_irem (p' := 27) (zi_203 rfl) rfl (by decide) ?_
      obtain ⟨q7, h0, g44⟩ := zb_of g43
      subst h0
      obtain ⟨M8, hx9, g45⟩ := zb_of g44
      refine zo_iast (p' := 28) (zi_203 rfl) rfl hx9 ?_
      refine zo_iload_n (p' := 29) (zi_203 rfl) rfl rfl ?_
      refine zo_bipush (p' := 31) (v := 6) (zi_203 rfl) rfl rfl ?_
      refine zo_idiv (p' := 32) (zi_203 rfl) rfl (by decide) ?_
      refine zo_istore_n (p' := 33) (L' := [(0, zrf (some o)), (2, .int ((b1 / 6))), (3, .int b2), (4, .int b3)]) (zi_203 rfl) rfl zm_203_2 ⟨Or.inr ⟨by decide, rfl, fun q => absurd q (by decide)⟩, ⟨Or.inl ⟨rfl, rfl⟩, ⟨Or.inr ⟨by decide, rfl, fun q => absurd q (by decide)⟩, ⟨Or.inr ⟨by decide, rfl, fun q => absurd q (by decide)⟩, trivial⟩⟩⟩⟩ ?_
      refine zo_aload_n (p' := 34) (zi_203 rfl) rfl rfl ?_
      obtain ⟨r10, hx11, g46⟩ := zb_of g45
      refine zo_getR (p' := 37) (zi_203 rfl) rfl zl_19_117 hx11 ?_
      refine zo_iload (p' := 39) (zi_203 rfl) rfl rfl ?_
      obtain ⟨q12, h0, g47⟩ := zb_of g46
      subst h0
      obtain ⟨x13, hx14, g48⟩ := zb_of g47
      refine zo_iald (p' := 40) (zi_203 rfl) rfl hx14 ?_
      refine zo_aload_n (p' := 41) (zi_203 rfl) rfl rfl ?_
      obtain ⟨x15, hx16, g49⟩ := zb_of g48
      refine zo_getI (p' := 44) (zi_203 rfl) rfl zl_19_7 hx16 ?_
      by_cases hc17 : x15 ≤ x13
      · rw [if_pos hc17] at g49
        refine zo_icT (p' := 77) (zi_203 rfl) rfl hc17 ?_
        refine zo_iconst (p' := 78) (v := 0) (zi_203 rfl) rfl rfl ?_
        have g50 := Option.some.inj g49
        subst g50
        exact zo_iret (zi_203 rfl) rfl ⟨rfl, rfl⟩
      · rw [if_neg hc17] at g49
        refine zo_icF (p' := 47) (zi_203 rfl) rfl rfl hc17 ?_
        refine zo_aload_n (p' := 48) (zi_203 rfl) rfl rfl ?_
        obtain ⟨r18, hx19, g51⟩ := zb_of g49
        refine zo_getR (p' := 51) (zi_203 rfl) rfl zl_19_26 hx19 ?_
        refine zo_aload_n (p' := 52) (zi_203 rfl) rfl rfl ?_
        obtain ⟨r20, hx21, g52⟩ := zb_of g51
        refine zo_getR (p' := 55) (zi_203 rfl) rfl zl_19_117 hx21 ?_
        refine zo_iload (p' := 57) (zi_203 rfl) rfl rfl ?_
        obtain ⟨q22, h0, g53⟩ := zb_of g52
        subst h0
        obtain ⟨x23, hx24, g54⟩ := zb_of g53
        refine zo_iald (p' := 58) (zi_203 rfl) rfl hx24 ?_
        obtain ⟨q25, h0, g55⟩ := zb_of g54
        subst h0
        obtain ⟨x26, hx27, g56⟩ := zb_of g55
        refine zo_iald (p' := 59) (zi_203 rfl) rfl hx27 ?_
        by_cases hc28 : x26 = 0
        · rw [if_pos hc28] at g56
          refine zo_ifT (p' := 77) (zi_203 rfl) rfl hc28 ?_
          refine zo_iconst (p' := 78) (v := 0) (zi_203 rfl) rfl rfl ?_
          have g57 := Option.some.inj g56
          subst g57
          exact zo_iret (zi_203 rfl) rfl ⟨rfl, rfl⟩
        · rw [if_neg hc28] at g56
          refine zo_ifF (p' := 62) (zi_203 rfl) rfl rfl hc28 ?_
          refine zo_aload_n (p' := 63) (zi_203 rfl) rfl rfl ?_
          refine zo_iload_n (p' := 64) (zi_203 rfl) rfl rfl ?_
          refine zo_aload_n (p' := 65) (zi_203 rfl) rfl rfl ?_
          obtain ⟨r29, hx30, g58⟩ := zb_of g56
          refine zo_getR (p' := 68) (zi_203 rfl) rfl zl_19_117 hx30 ?_
          refine zo_iload (p' := 70) (zi_203 rfl) rfl rfl ?_
          obtain ⟨q31, h0, g59⟩ := zb_of g58
          subst h0
          obtain ⟨x32, hx33, g60⟩ := zb_of g59
          refine zo_iald (p' := 71) (zi_203 rfl) rfl hx33 ?_
          obtain ⟨x34, hx35, g61⟩ := zb_of g60
          refine zo_callVi (p' := 74) (t := 12) (as := [.int b2, .int x32]) (r := []) (zi_203 rfl) rfl zl_19_376 rfl rfl (Or.inl ⟨by decide, rfl⟩) (Nat.le_of_ble_eq_true rfl) (Nat.le_of_ble_eq_true rfl) (f_204_ok hx35) (k_204 _ hx35) ?_
          by_cases hc36 : x34 = 0
          · rw [if_pos hc36] at g61
            refine zo_ifT (p' := 79) (zi_203 rfl) rfl hc36 ?_
            refine zo_iload_n (p' := 80) (zi_203 rfl) rfl rfl ?_
            refine zo_iconst (p' := 81) (v := 1) (zi_203 rfl) rfl rfl ?_
            refine zo_aload_n (p' := 82) (zi_203 rfl) rfl rfl ?_
            obtain ⟨r37, hx38, g62⟩ := zb_of g61
            refine zo_getR (p' := 85) (zi_203 rfl) rfl zl_19_117 hx38 ?_
            refine zo_iload (p' := 87) (zi_203 rfl) rfl rfl ?_
            obtain ⟨q39, h0, g63⟩ := zb_of g62
            subst h0
            obtain ⟨x40, hx41, g64⟩ := zb_of g63
            refine zo_iald (p' := 88) (zi_203 rfl) rfl hx41 ?_
            refine zo_ishl (p' := 89) (zi_203 rfl) rfl ?_
            refine zo_ior (p' := 90) (zi_203 rfl) rfl ?_
            refine zo_istore_n (p' := 91) (L' := [(0, zrf (some o)), (2, .int ((b1 / 6))), (3, .int ((b2 ||| (1 <<< (x40 &&& 31))))), (4, .int b3)]) (zi_203 rfl) rfl zm_203_3 ⟨Or.inr ⟨by decide, rfl, fun q => absurd q (by decide)⟩, ⟨Or.inr ⟨by decide, rfl, fun _ => rfl⟩, ⟨Or.inl ⟨rfl, rfl⟩, ⟨Or.inr ⟨by decide, rfl, fun q => absurd q (by decide)⟩, trivial⟩⟩⟩⟩ ?_
            refine zo_iinc (p' := 94) (v := (b3 + (-1))) (L' := [(0, zrf (some o)), (2, .int ((b1 / 6))), (3, .int ((b2 ||| (1 <<< (x40 &&& 31))))), (4, .int ((b3 + (-1))))]) (zi_203 rfl) rfl zm_203_4 rfl rfl ⟨Or.inr ⟨by decide, rfl, fun q => absurd q (by decide)⟩, ⟨Or.inr ⟨by decide, rfl, fun q => absurd q (by decide)⟩, ⟨Or.inr ⟨by decide, rfl, fun _ => rfl⟩, ⟨Or.inl ⟨rfl, rfl⟩, trivial⟩⟩⟩⟩ ?_
            refine zo_goto (p' := 12) (zi_203 rfl) rfl ?_
            refine zgo_sub (L' := [(0, zrf (some o)), (2, .int (((b1 / 6)))), (3, .int (((b2 ||| (1 <<< (x40 &&& 31)))))), (4, .int (((b3 + (-1)))))]) (⟨rfl, rfl, rfl, rfl, trivial⟩) ?_
            exact ih M8 o ((b1 / 6)) ((b2 ||| (1 <<< (x40 &&& 31)))) ((b3 + (-1))) _ g64
          · rw [if_neg hc36] at g61
            refine zo_ifF (p' := 77) (zi_203 rfl) rfl rfl hc36 ?_
            refine zo_iconst (p' := 78) (v := 0) (zi_203 rfl) rfl rfl ?_
            have g65 := Option.some.inj g61
            subst g65
            exact zo_iret (zi_203 rfl) rfl ⟨rfl, rfl⟩
def f_203 (M : ZMem) (o : Nat) (a0 : Int32) : Option (Int32 × ZMem) := if zok M 12 o = true then (zb (zgi M 12 37 o) fun x1 => f_203_12 zF M o a0 0 ((x1 - 1))) else none
theorem f_203_ok {M : ZMem} {o : Nat} {a0 : Int32} {out : Int32 × ZMem} (h : f_203 M o a0 = some out) : zok M 12 o = true := by
  unfold f_203 at h
  by_cases hok : zok M 12 o = true
  · exact hok
  · rw [if_neg hok] at h; cases h
set_option maxRecDepth 20000 in
theorem k_203 (d : Nat) {M : ZMem} {o : Nat} {a0 : Int32} {out : Int32 × ZMem} (h : f_203 M o a0 = some out) : zrn (d + 1) 203 [zrf (some o), .int a0] M (some (.int out.1), out.2) := by
  unfold f_203 at h
  by_cases hok : zok M 12 o = true
  · rw [if_pos hok] at h
    refine zrn_of (L := [(0, zrf (some o)), (1, .int a0)]) rfl ?_
    refine zo_iload_n (p' := 1) (zi_203 rfl) rfl rfl ?_
    refine zo_istore_n (p' := 2) (L' := [(0, zrf (some o)), (1, .int a0), (2, .int a0)]) (zi_203 rfl) rfl zm_203_2 ⟨Or.inr ⟨by decide, rfl, fun q => absurd q (by decide)⟩, ⟨Or.inr ⟨by decide, rfl, fun _ => rfl⟩, ⟨Or.inl ⟨rfl, rfl⟩, trivial⟩⟩⟩ ?_
    refine zo_iconst (p' := 3) (v := 0) (zi_203 rfl) rfl rfl ?_
    refine zo_istore_n (p' := 4) (L' := [(0, zrf (some o)), (1, .int a0), (2, .int a0), (3, .int 0)]) (zi_203 rfl) rfl zm_203_3 ⟨Or.inr ⟨by decide, rfl, fun q => absurd q (by decide)⟩, ⟨Or.inr ⟨by decide, rfl, fun q => absurd q (by decide)⟩, ⟨Or.inr ⟨by decide, rfl, fun _ => rfl⟩, ⟨Or.inl ⟨rfl, rfl⟩, trivial⟩⟩⟩⟩ ?_
    refine zo_aload_n (p' := 5) (zi_203 rfl) rfl rfl ?_
    obtain ⟨x1, hx2, g3⟩ := zb_of h
    refine zo_getI (p' := 8) (zi_203 rfl) rfl zl_19_123 hx2 ?_
    refine zo_iconst (p' := 9) (v := 1) (zi_203 rfl) rfl rfl ?_
    refine zo_isub (p' := 10) (zi_203 rfl) rfl ?_
    refine zo_istore (p' := 12) (L' := [(0, zrf (some o)), (1, .int a0), (2, .int a0), (3, .int 0), (4, .int ((x1 - 1)))]) (zi_203 rfl) rfl zm_203_4 ⟨Or.inr ⟨by decide, rfl, fun q => absurd q (by decide)⟩, ⟨Or.inr ⟨by decide, rfl, fun q => absurd q (by decide)⟩, ⟨Or.inr ⟨by decide, rfl, fun q => absurd q (by decide)⟩, ⟨Or.inr ⟨by decide, rfl, fun _ => rfl⟩, ⟨Or.inl ⟨rfl, rfl⟩, trivial⟩⟩⟩⟩⟩ ?_
    refine zgo_sub (L' := [(0, zrf (some o)), (2, .int a0), (3, .int 0), (4, .int (((x1 - 1))))]) (⟨rfl, rfl, rfl, rfl, trivial⟩) ?_
    exact k_203_12 _ zF M o a0 0 ((x1 - 1)) _ g3
  · rw [if_neg hok] at h; cases h
/-- SlateHalvesModel.order(I)I -/
def f_201_148 (r44 : ZMem → Nat → Int32 → Int32 → Int32 → Int32 → Option (Int32 × ZMem)) (M : ZMem) (o : Nat) (b1 : Int32) (b2 : Int32) (b3 : Int32) (b4 : Int32) : Option (Int32 × ZMem) := r44 M o b1 b2 b3 ((b4 + 1))
def f_201_121 (r44 : ZMem → Nat → Int32 → Int32 → Int32 → Int32 → Option (Int32 × ZMem)) : Nat → ZMem → Nat → Int32 → Int32 → Int32 → Int32 → Int32 → Option (Int32 × ZMem)
  | 0, _, _, _, _, _, _, _ => none
  | z + 1, M, o, b1, b2, b3, b4, b5 => if 6 ≤ b5 then (f_201_148 (fun M a0 a1 a2 a3 a4 => r44 M a0 a1 a2 a3 a4) M o b1 b2 b3 b4) else (zb (zgr M 12 36 o) fun r58 => zb (zgr M 12 35 o) fun r60 => zb r60 fun q62 => zb (zai M q62 b5) fun x63 => zb r58 fun q65 => zb (zsa M 20 q65 b5 x63) fun M66 => f_201_121 r44 z M66 o b1 b2 b3 b4 ((b5 + 1)))
def f_201_68 (r44 : ZMem → Nat → Int32 → Int32 → Int32 → Int32 → Option (Int32 × ZMem)) : Nat → ZMem → Nat → Int32 → Int32 → Int32 → Int32 → Int32 → Int32 → Option (Int32 × ZMem)
  | 0, _, _, _, _, _, _, _, _ => none
  | z + 1, M, o, b1, b2, b3, b4, b5, b6 => zb (zgi M 12 37 o) fun x36 => if x36 ≤ b6 then (if b3 < b5 then (f_201_121 (fun M a0 a1 a2 a3 a4 => r44 M a0 a1 a2 a3 a4) zF M o b1 b2 b5 b4 0) else (f_201_148 (fun M a0 a1 a2 a3 a4 => r44 M a0 a1 a2 a3 a4) M o b1 b2 b3 b4)) else (zb (zgr M 12 34 o) fun r40 => zb (zgr M 12 35 o) fun r42 => zb r42 fun q44 => zb (zai M q44 b6) fun x45 => zb r40 fun q47 => zb (zai M q47 ((6 * b6) + x45)) fun x48 => f_201_68 r44 z M o b1 b2 b3 b4 ((b5 + x48)) ((b6 + 1)))
def f_201_44 : Nat → ZMem → Nat → Int32 → Int32 → Int32 → Int32 → Option (Int32 × ZMem)
  | 0, _, _, _, _, _, _ => none
  | z + 1, M, o, b1, b2, b3, b4 => if b2 ≤ b4 then (if 0 ≤ b1 then (zb (zgi M 12 37 o) fun x16 => if x16 ≤ b1 then (some ((-5), M)) else (zb (zgr M 12 36 o) fun r19 => zb r19 fun q21 => zb (zai M q21 b1) fun x22 => some (x22, M))) else (some (b3, M))) else (zbd (f_203 M o b4) fun x24 M26 => if ¬ x24 = 0 then (f_201_68 (fun M a0 a1 a2 a3 a4 => f_201_44 z M a0 a1 a2 a3 a4) zF M26 o b1 b2 b3 b4 0 0) else (f_201_148 (fun M a0 a1 a2 a3 a4 => f_201_44 z M a0 a1 a2 a3 a4) M26 o b1 b2 b3 b4))
def f_201_20 : Nat → ZMem → Nat → Int32 → Int32 → Int32 → Option (Int32 × ZMem)
  | 0, _, _, _, _, _ => none
  | z + 1, M, o, b1, b2, b3 => zb (zgi M 12 37 o) fun x10 => if x10 ≤ b3 then (f_201_44 zF M o b1 b2 ((-1)) 0) else (f_201_20 z M o b1 ((b2 * 6)) ((b3 + 1)))
set_option maxRecDepth 20000 in
theorem k_201_148 (d : Nat) (r44 : ZMem → Nat → Int32 → Int32 → Int32 → Int32 → Option (Int32 × ZMem)) (h44 : ∀ (M : ZMem) (a0 : Nat) (a1 : Int32) (a2 : Int32) (a3 : Int32) (a4 : Int32) (out : Int32 × ZMem), r44 M a0 a1 a2 a3 a4 = some out → zgo none (d + 8) 201 44 [(0, zrf (some a0)), (1, .int a1), (2, .int a2), (3, .int a3), (4, .int a4)] [] M (some (.int out.1), out.2)) : ∀ (M : ZMem) (o : Nat) (b1 : Int32) (b2 : Int32) (b3 : Int32) (b4 : Int32) (out : Int32 × ZMem), f_201_148 r44 M o b1 b2 b3 b4 = some out → zgo none (d + 8) 201 148 [(0, zrf (some o)), (1, .int b1), (2, .int b2), (3, .int b3), (4, .int b4)] [] M (some (.int out.1), out.2) := by
  intro M o b1 b2 b3 b4 out h
  unfold f_201_148 at h
  refine zo_iinc (p' := 151) (v := (b4 + 1)) (L' := [(0, zrf (some o)), (1, .int b1), (2, .int b2), (3, .int b3), (4, .int ((b4 + 1)))]) (zi_201 rfl) rfl zm_201_4 rfl rfl ⟨Or.inr ⟨by decide, rfl, fun q => absurd q (by decide)⟩, ⟨Or.inr ⟨by decide, rfl, fun q => absurd q (by decide)⟩, ⟨Or.inr ⟨by decide, rfl, fun q => absurd q (by decide)⟩, ⟨Or.inr ⟨by decide, rfl, fun _ => rfl⟩, ⟨Or.inl ⟨rfl, rfl⟩, trivial⟩⟩⟩⟩⟩ ?_
  refine zo_goto (p' := 44) (zi_201 rfl) rfl ?_
  refine zgo_sub (L' := [(0, zrf (some o)), (1, .int b1), (2, .int b2), (3, .int b3), (4, .int (((b4 + 1))))]) (⟨rfl, rfl, rfl, rfl, rfl, trivial⟩) ?_
  exact h44 M o b1 b2 b3 ((b4 + 1)) _ h
set_option maxRecDepth 20000 in
theorem k_201_121 (d : Nat) (r44 : ZMem → Nat → Int32 → Int32 → Int32 → Int32 → Option (Int32 × ZMem)) (h44 : ∀ (M : ZMem) (a0 : Nat) (a1 : Int32) (a2 : Int32) (a3 : Int32) (a4 : Int32) (out : Int32 × ZMem), r44 M a0 a1 a2 a3 a4 = some out → zgo none (d + 8) 201 44 [(0, zrf (some a0)), (1, .int a1), (2, .int a2), (3, .int a3), (4, .int a4)] [] M (some (.int out.1), out.2)) : ∀ (z : Nat) (M : ZMem) (o : Nat) (b1 : Int32) (b2 : Int32) (b3 : Int32) (b4 : Int32) (b5 : Int32) (out : Int32 × ZMem), f_201_121 r44 z M o b1 b2 b3 b4 b5 = some out → zgo none (d + 8) 201 121 [(0, zrf (some o)), (1, .int b1), (2, .int b2), (3, .int b3), (4, .int b4), (6, .int b5)] [] M (some (.int out.1), out.2) := by
  intro z
  induction z with
  | zero => intro M o b1 b2 b3 b4 b5 out h; cases h
  | succ z ih =>
    intro M o b1 b2 b3 b4 b5 out h
    rw [f_201_121] at h
    refine zo_iload (p' := 123) (zi_201 rfl) rfl rfl ?_
    refine zo_bipush (p' := 125) (v := 6) (zi_201 rfl) rfl rfl ?_
    by_cases hc57 : 6 ≤ b5
    · rw [if_pos hc57] at h
      refine zo_icT (p' := 148) (zi_201 rfl) rfl hc57 ?_
      refine zgo_sub (L' := [(0, zrf (some o)), (1, .int b1), (2, .int b2), (3, .int b3), (4, .int b4)]) (⟨rfl, rfl, rfl, rfl, rfl, trivial⟩) ?_
      exact k_201_148 _ _ (fun M a0 a1 a2 a3 a4 out h => h44 M a0 a1 a2 a3 a4 out h) M o b1 b2 b3 b4 _ h
    · rw [if_neg hc57] at h
      refine zo_icF (p' := 128) (zi_201 rfl) rfl rfl hc57 ?_
      refine zo_aload_n (p' := 129) (zi_201 rfl) rfl rfl ?_
      obtain ⟨r58, hx59, g68⟩ := zb_of h
      refine zo_getR (p' := 132) (zi_201 rfl) rfl zl_19_120 hx59 ?_
      refine zo_iload (p' := 134) (zi_201 rfl) rfl rfl ?_
      refine zo_aload_n (p' := 135) (zi_201 rfl) rfl rfl ?_
      obtain ⟨r60, hx61, g69⟩ := zb_of g68
      refine zo_getR (p' := 138) (zi_201 rfl) rfl zl_19_117 hx61 ?_
      refine zo_iload (p' := 140) (zi_201 rfl) rfl rfl ?_
      obtain ⟨q62, h0, g70⟩ := zb_of g69
      subst h0
      obtain ⟨x63, hx64, g71⟩ := zb_of g70
      refine zo_iald (p' := 141) (zi_201 rfl) rfl hx64 ?_
      obtain ⟨q65, h0, g72⟩ := zb_of g71
      subst h0
      obtain ⟨M66, hx67, g73⟩ := zb_of g72
      refine zo_iast (p' := 142) (zi_201 rfl) rfl hx67 ?_
      refine zo_iinc (p' := 145) (v := (b5 + 1)) (L' := [(0, zrf (some o)), (1, .int b1), (2, .int b2), (3, .int b3), (4, .int b4), (6, .int ((b5 + 1)))]) (zi_201 rfl) rfl zm_201_6 rfl rfl ⟨Or.inr ⟨by decide, rfl, fun q => absurd q (by decide)⟩, ⟨Or.inr ⟨by decide, rfl, fun q => absurd q (by decide)⟩, ⟨Or.inr ⟨by decide, rfl, fun q => absurd q (by decide)⟩, ⟨Or.inr ⟨by decide, rfl, fun q => absurd q (by decide)⟩, ⟨Or.inr ⟨by decide, rfl, fun q => absurd q (by decide)⟩, ⟨Or.inl ⟨rfl, rfl⟩, trivial⟩⟩⟩⟩⟩⟩ ?_
      refine zo_goto (p' := 121) (zi_201 rfl) rfl ?_
      refine zgo_sub (L' := [(0, zrf (some o)), (1, .int b1), (2, .int b2), (3, .int b3), (4, .int b4), (6, .int (((b5 + 1))))]) (⟨rfl, rfl, rfl, rfl, rfl, rfl, trivial⟩) ?_
      exact ih M66 o b1 b2 b3 b4 ((b5 + 1)) _ g73
set_option maxRecDepth 20000 in
theorem k_201_68 (d : Nat) (r44 : ZMem → Nat → Int32 → Int32 → Int32 → Int32 → Option (Int32 × ZMem)) (h44 : ∀ (M : ZMem) (a0 : Nat) (a1 : Int32) (a2 : Int32) (a3 : Int32) (a4 : Int32) (out : Int32 × ZMem), r44 M a0 a1 a2 a3 a4 = some out → zgo none (d + 8) 201 44 [(0, zrf (some a0)), (1, .int a1), (2, .int a2), (3, .int a3), (4, .int a4)] [] M (some (.int out.1), out.2)) : ∀ (z : Nat) (M : ZMem) (o : Nat) (b1 : Int32) (b2 : Int32) (b3 : Int32) (b4 : Int32) (b5 : Int32) (b6 : Int32) (out : Int32 × ZMem), f_201_68 r44 z M o b1 b2 b3 b4 b5 b6 = some out → zgo none (d + 8) 201 68 [(0, zrf (some o)), (1, .int b1), (2, .int b2), (3, .int b3), (4, .int b4), (5, .int b5), (6, .int b6)] [] M (some (.int out.1), out.2) := by
  intro z
  induction z with
  | zero => intro M o b1 b2 b3 b4 b5 b6 out h; cases h
  | succ z ih =>
    intro M o b1 b2 b3 b4 b5 b6 out h
    rw [f_201_68] at h
    refine zo_iload (p' := 70) (zi_201 rfl) rfl rfl ?_
    refine zo_aload_n (p' := 71) (zi_201 rfl) rfl rfl ?_
    obtain ⟨x36, hx37, g50⟩ := zb_of h
    refine zo_getI (p' := 74) (zi_201 rfl) rfl zl_19_123 hx37 ?_
    by_cases hc38 : x36 ≤ b6
    · rw [if_pos hc38] at g50
      refine zo_icT (p' := 106) (zi_201 rfl) rfl hc38 ?_
      refine zo_iload (p' := 108) (zi_201 rfl) rfl rfl ?_
      refine zo_iload_n (p' := 109) (zi_201 rfl) rfl rfl ?_
      by_cases hc39 : b3 < b5
      · rw [if_pos hc39] at g50
        refine zo_icT (p' := 115) (zi_201 rfl) rfl hc39 ?_
        refine zo_iload (p' := 117) (zi_201 rfl) rfl rfl ?_
        refine zo_istore_n (p' := 118) (L' := [(0, zrf (some o)), (1, .int b1), (2, .int b2), (3, .int b5), (4, .int b4), (5, .int b5), (6, .int b6)]) (zi_201 rfl) rfl zm_201_3 ⟨Or.inr ⟨by decide, rfl, fun q => absurd q (by decide)⟩, ⟨Or.inr ⟨by decide, rfl, fun q => absurd q (by decide)⟩, ⟨Or.inr ⟨by decide, rfl, fun _ => rfl⟩, ⟨Or.inl ⟨rfl, rfl⟩, ⟨Or.inr ⟨by decide, rfl, fun q => absurd q (by decide)⟩, ⟨Or.inr ⟨by decide, rfl, fun q => absurd q (by decide)⟩, ⟨Or.inr ⟨by decide, rfl, fun q => absurd q (by decide)⟩, trivial⟩⟩⟩⟩⟩⟩⟩ ?_
        refine zo_iconst (p' := 119) (v := 0) (zi_201 rfl) rfl rfl ?_
        refine zo_istore (p' := 121) (L' := [(0, zrf (some o)), (1, .int b1), (2, .int b2), (3, .int b5), (4, .int b4), (5, .int b5), (6, .int 0)]) (zi_201 rfl) rfl zm_201_6 ⟨Or.inr ⟨by decide, rfl, fun q => absurd q (by decide)⟩, ⟨Or.inr ⟨by decide, rfl, fun q => absurd q (by decide)⟩, ⟨Or.inr ⟨by decide, rfl, fun q => absurd q (by decide)⟩, ⟨Or.inr ⟨by decide, rfl, fun q => absurd q (by decide)⟩, ⟨Or.inr ⟨by decide, rfl, fun q => absurd q (by decide)⟩, ⟨Or.inr ⟨by decide, rfl, fun _ => rfl⟩, ⟨Or.inl ⟨rfl, rfl⟩, trivial⟩⟩⟩⟩⟩⟩⟩ ?_
        refine zgo_sub (L' := [(0, zrf (some o)), (1, .int b1), (2, .int b2), (3, .int b5), (4, .int b4), (6, .int 0)]) (⟨rfl, rfl, rfl, rfl, rfl, rfl, trivial⟩) ?_
        exact k_201_121 _ _ (fun M a0 a1 a2 a3 a4 out h => h44 M a0 a1 a2 a3 a4 out h) zF M o b1 b2 b5 b4 0 _ g50
      · rw [if_neg hc39] at g50
        refine zo_icF (p' := 112) (zi_201 rfl) rfl rfl hc39 ?_
        refine zo_goto (p' := 148) (zi_201 rfl) rfl ?_
        refine zgo_sub (L' := [(0, zrf (some o)), (1, .int b1), (2, .int b2), (3, .int b3), (4, .int b4)]) (⟨rfl, rfl, rfl, rfl, rfl, trivial⟩) ?_
        exact k_201_148 _ _ (fun M a0 a1 a2 a3 a4 out h => h44 M a0 a1 a2 a3 a4 out h) M o b1 b2 b3 b4 _ g50
    · rw [if_neg hc38] at g50
      refine zo_icF (p' := 77) (zi_201 rfl) rfl rfl hc38 ?_
      refine zo_iload (p' := 79) (zi_201 rfl) rfl rfl ?_
      refine zo_aload_n (p' := 80) (zi_201 rfl) rfl rfl ?_
      obtain ⟨r40, hx41, g51⟩ := zb_of g50
      refine zo_getR (p' := 83) (zi_201 rfl) rfl zl_19_114 hx41 ?_
      refine zo_bipush (p' := 85) (v := 6) (zi_201 rfl) rfl rfl ?_
      refine zo_iload (p' := 87) (zi_201 rfl) rfl rfl ?_
      refine zo_imul (p' := 88) (zi_201 rfl) rfl ?_
      refine zo_aload_n (p' := 89) (zi_201 rfl) rfl rfl ?_
      obtain ⟨r42, hx43, g52⟩ := zb_of g51
      refine zo_getR (p' := 92) (zi_201 rfl) rfl zl_19_117 hx43 ?_
      refine zo_iload (p' := 94) (zi_201 rfl) rfl rfl ?_
      obtain ⟨q44, h0, g53⟩ := zb_of g52
      subst h0
      obtain ⟨x45, hx46, g54⟩ := zb_of g53
      refine zo_iald (p' := 95) (zi_201 rfl) rfl hx46 ?_
      refine zo_iadd (p' := 96) (zi_201 rfl) rfl ?_
      obtain ⟨q47, h0, g55⟩ := zb_of g54
      subst h0
      obtain ⟨x48, hx49, g56⟩ := zb_of g55
      refine zo_iald (p' := 97) (zi_201 rfl) rfl hx49 ?_
      refine zo_iadd (p' := 98) (zi_201 rfl) rfl ?_
      refine zo_istore (p' := 100) (L' := [(0, zrf (some o)), (1, .int b1), (2, .int b2), (3, .int b3), (4, .int b4), (5, .int ((b5 + x48))), (6, .int b6)]) (zi_201 rfl) rfl zm_201_5 ⟨Or.inr ⟨by decide, rfl, fun q => absurd q (by decide)⟩, ⟨Or.inr ⟨by decide, rfl, fun q => absurd q (by decide)⟩, ⟨Or.inr ⟨by decide, rfl, fun q => absurd q (by decide)⟩, ⟨Or.inr ⟨by decide, rfl, fun q => absurd q (by decide)⟩, ⟨Or.inr ⟨by decide, rfl, fun _ => rfl⟩, ⟨Or.inl ⟨rfl, rfl⟩, ⟨Or.inr ⟨by decide, rfl, fun q => absurd q (by decide)⟩, trivial⟩⟩⟩⟩⟩⟩⟩ ?_
      refine zo_iinc (p' := 103) (v := (b6 + 1)) (L' := [(0, zrf (some o)), (1, .int b1), (2, .int b2), (3, .int b3), (4, .int b4), (5, .int ((b5 + x48))), (6, .int ((b6 + 1)))]) (zi_201 rfl) rfl zm_201_6 rfl rfl ⟨Or.inr ⟨by decide, rfl, fun q => absurd q (by decide)⟩, ⟨Or.inr ⟨by decide, rfl, fun q => absurd q (by decide)⟩, ⟨Or.inr ⟨by decide, rfl, fun q => absurd q (by decide)⟩, ⟨Or.inr ⟨by decide, rfl, fun q => absurd q (by decide)⟩, ⟨Or.inr ⟨by decide, rfl, fun q => absurd q (by decide)⟩, ⟨Or.inr ⟨by decide, rfl, fun _ => rfl⟩, ⟨Or.inl ⟨rfl, rfl⟩, trivial⟩⟩⟩⟩⟩⟩⟩ ?_
      refine zo_goto (p' := 68) (zi_201 rfl) rfl ?_
      refine zgo_sub (L' := [(0, zrf (some o)), (1, .int b1), (2, .int b2), (3, .int b3), (4, .int b4), (5, .int (((b5 + x48)))), (6, .int (((b6 + 1))))]) (⟨rfl, rfl, rfl, rfl, rfl, rfl, rfl, trivial⟩) ?_
      exact ih M o b1 b2 b3 b4 ((b5 + x48)) ((b6 + 1)) _ g56
set_option maxRecDepth 20000 in
theorem k_201_44 (d : Nat) : ∀ (z : Nat) (M : ZMem) (o : Nat) (b1 : Int32) (b2 : Int32) (b3 : Int32) (b4 : Int32) (out : Int32 × ZMem), f_201_44 z M o b1 b2 b3 b4 = some out → zgo none (d + 8) 201 44 [(0, zrf (some o)), (1, .int b1), (2, .int b2), (3, .int b3), (4, .int b4)] [] M (some (.int out.1), out.2) := by
  intro z
  induction z with
  | zero => intro M o b1 b2 b3 b4 out h; cases h
  | succ z ih =>
    intro M o b1 b2 b3 b4 out h
    rw [f_201_44] at h
    refine zo_iload (p' := 46) (zi_201 rfl) rfl rfl ?_
    refine zo_iload_n (p' := 47) (zi_201 rfl) rfl rfl ?_
    by_cases hc14 : b2 ≤ b4
    · rw [if_pos hc14] at h
      refine zo_icT (p' := 154) (zi_201 rfl) rfl hc14 ?_
      refine zo_iload_n (p' := 155) (zi_201 rfl) rfl rfl ?_
      by_cases hc15 : 0 ≤ b1
      · rw [if_pos hc15] at h
        refine zo_ifT (p' := 160) (zi_201 rfl) rfl hc15 ?_
        refine zo_iload_n (p' := 161) (zi_201 rfl) rfl rfl ?_
        refine zo_aload_n (p' := 162) (zi_201 rfl) rfl rfl ?_
        obtain ⟨x16, hx17, g28⟩ := zb_of h
        refine zo_getI (p' := 165) (zi_201 rfl) rfl zl_19_123 hx17 ?_
        by_cases hc18 : x16 ≤ b1
        · rw [if_pos hc18] at g28
          refine zo_icT (p' := 177) (zi_201 rfl) rfl hc18 ?_
          refine zo_bipush (p' := 179) (v := (-5)) (zi_201 rfl) rfl rfl ?_
          have g29 := Option.some.inj g28
          subst g29
          exact zo_iret (zi_201 rfl) rfl ⟨rfl, rfl⟩
        · rw [if_neg hc18] at g28
          refine zo_icF (p' := 168) (zi_201 rfl) rfl rfl hc18 ?_
          refine zo_aload_n (p' := 169) (zi_201 rfl) rfl rfl ?_
          obtain ⟨r19, hx20, g30⟩ := zb_of g28
          refine zo_getR (p' := 172) (zi_201 rfl) rfl zl_19_120 hx20 ?_
          refine zo_iload_n (p' := 173) (zi_201 rfl) rfl rfl ?_
          obtain ⟨q21, h0, g31⟩ := zb_of g30
          subst h0
          obtain ⟨x22, hx23, g32⟩ := zb_of g31
          refine zo_iald (p' := 174) (zi_201 rfl) rfl hx23 ?_
          refine zo_goto (p' := 179) (zi_201 rfl) rfl ?_
          have g33 := Option.some.inj g32
          subst g33
          exact zo_iret (zi_201 rfl) rfl ⟨rfl, rfl⟩
      · rw [if_neg hc15] at h
        refine zo_ifF (p' := 158) (zi_201 rfl) rfl rfl hc15 ?_
        refine zo_iload_n (p' := 159) (zi_201 rfl) rfl rfl ?_
        have g34 := Option.some.inj h
        subst g34
        exact zo_iret (zi_201 rfl) rfl ⟨rfl, rfl⟩
    · rw [if_neg hc14] at h
      refine zo_icF (p' := 50) (zi_201 rfl) rfl rfl hc14 ?_
      refine zo_aload_n (p' := 51) (zi_201 rfl) rfl rfl ?_
      refine zo_iload (p' := 53) (zi_201 rfl) rfl rfl ?_
      obtain ⟨x24, M26, hx25, g35⟩ := zbd_of h
      refine zo_callVi (p' := 56) (t := 12) (as := [.int b4]) (r := []) (zi_201 rfl) rfl zl_19_382 rfl rfl (Or.inl ⟨by decide, rfl⟩) (Nat.le_of_ble_eq_true rfl) (Nat.le_of_ble_eq_true rfl) (f_203_ok hx25) (k_203 _ hx25) ?_
      by_cases hc27 : ¬ x24 = 0
      · rw [if_pos hc27] at g35
        refine zo_ifT (p' := 62) (zi_201 rfl) rfl hc27 ?_
        refine zo_iconst (p' := 63) (v := 0) (zi_201 rfl) rfl rfl ?_
        refine zo_istore (p' := 65) (L' := [(0, zrf (some o)), (1, .int b1), (2, .int b2), (3, .int b3), (4, .int b4), (5, .int 0)]) (zi_201 rfl) rfl zm_201_5 ⟨Or.inr ⟨by decide, rfl, fun q => absurd q (by decide)⟩, ⟨Or.inr ⟨by decide, rfl, fun q => absurd q (by decide)⟩, ⟨Or.inr ⟨by decide, rfl, fun q => absurd q (by decide)⟩, ⟨Or.inr ⟨by decide, rfl, fun q => absurd q (by decide)⟩, ⟨Or.inr ⟨by decide, rfl, fun _ => rfl⟩, ⟨Or.inl ⟨rfl, rfl⟩, trivial⟩⟩⟩⟩⟩⟩ ?_
        refine zo_iconst (p' := 66) (v := 0) (zi_201 rfl) rfl rfl ?_
        refine zo_istore (p' := 68) (L' := [(0, zrf (some o)), (1, .int b1), (2, .int b2), (3, .int b3), (4, .int b4), (5, .int 0), (6, .int 0)]) (zi_201 rfl) rfl zm_201_6 ⟨Or.inr ⟨by decide, rfl, fun q => absurd q (by decide)⟩, ⟨Or.inr ⟨by decide, rfl, fun q => absurd q (by decide)⟩, ⟨Or.inr ⟨by decide, rfl, fun q => absurd q (by decide)⟩, ⟨Or.inr ⟨by decide, rfl, fun q => absurd q (by decide)⟩, ⟨Or.inr ⟨by decide, rfl, fun q => absurd q (by decide)⟩, ⟨Or.inr ⟨by decide, rfl, fun _ => rfl⟩, ⟨Or.inl ⟨rfl, rfl⟩, trivial⟩⟩⟩⟩⟩⟩⟩ ?_
        refine zgo_sub (L' := [(0, zrf (some o)), (1, .int b1), (2, .int b2), (3, .int b3), (4, .int b4), (5, .int 0), (6, .int 0)]) (⟨rfl, rfl, rfl, rfl, rfl, rfl, rfl, trivial⟩) ?_
        exact k_201_68 _ _ (fun M a0 a1 a2 a3 a4 out h => ih M a0 a1 a2 a3 a4 out h) zF M26 o b1 b2 b3 b4 0 0 _ g35
      · rw [if_neg hc27] at g35
        refine zo_ifF (p' := 59) (zi_201 rfl) rfl rfl hc27 ?_
        refine zo_goto (p' := 148) (zi_201 rfl) rfl ?_
        refine zgo_sub (L' := [(0, zrf (some o)), (1, .int b1), (2, .int b2), (3, .int b3), (4, .int b4)]) (⟨rfl, rfl, rfl, rfl, rfl, trivial⟩) ?_
        exact k_201_148 _ _ (fun M a0 a1 a2 a3 a4 out h => ih M a0 a1 a2 a3 a4 out h) M26 o b1 b2 b3 b4 _ g35
set_option maxRecDepth 20000 in
theorem k_201_20 (d : Nat) : ∀ (z : Nat) (M : ZMem) (o : Nat) (b1 : Int32) (b2 : Int32) (b3 : Int32) (out : Int32 × ZMem), f_201_20 z M o b1 b2 b3 = some out → zgo none (d + 8) 201 20 [(0, zrf (some o)), (1, .int b1), (2, .int b2), (3, .int b3)] [] M (some (.int out.1), out.2) := by
  intro z
  induction z with
  | zero => intro M o b1 b2 b3 out h; cases h
  | succ z ih =>
    intro M o b1 b2 b3 out h
    rw [f_201_20] at h
    refine zo_iload_n (p' := 21) (zi_201 rfl) rfl rfl ?_
    refine zo_aload_n (p' := 22) (zi_201 rfl) rfl rfl ?_
    obtain ⟨x10, hx11, g13⟩ := zb_of h
    refine zo_getI (p' := 25) (zi_201 rfl) rfl zl_19_123 hx11 ?_
    by_cases hc12 : x10 ≤ b3
    · rw [if_pos hc12] at g13
      refine zo_icT (p' := 39) (zi_201 rfl) rfl hc12 ?_
      refine zo_iconst (p' := 40) (v := (-1)) (zi_201 rfl) rfl rfl ?_
      refine zo_istore_n (p' := 41) (L' := [(0, zrf (some o)), (1, .int b1), (2, .int b2), (3, .int ((-1)))]) (zi_201 rfl) rfl zm_201_3 ⟨Or.inr ⟨by decide, rfl, fun q => absurd q (by decide)⟩, ⟨Or.inr ⟨by decide, rfl, fun q => absurd q (by decide)⟩, ⟨Or.inr ⟨by decide, rfl, fun _ => rfl⟩, ⟨Or.inl ⟨rfl, rfl⟩, trivial⟩⟩⟩⟩ ?_
      refine zo_iconst (p' := 42) (v := 0) (zi_201 rfl) rfl rfl ?_
      refine zo_istore (p' := 44) (L' := [(0, zrf (some o)), (1, .int b1), (2, .int b2), (3, .int ((-1))), (4, .int 0)]) (zi_201 rfl) rfl zm_201_4 ⟨Or.inr ⟨by decide, rfl, fun q => absurd q (by decide)⟩, ⟨Or.inr ⟨by decide, rfl, fun q => absurd q (by decide)⟩, ⟨Or.inr ⟨by decide, rfl, fun q => absurd q (by decide)⟩, ⟨Or.inr ⟨by decide, rfl, fun _ => rfl⟩, ⟨Or.inl ⟨rfl, rfl⟩, trivial⟩⟩⟩⟩⟩ ?_
      refine zgo_sub (L' := [(0, zrf (some o)), (1, .int b1), (2, .int b2), (3, .int (((-1)))), (4, .int 0)]) (⟨rfl, rfl, rfl, rfl, rfl, trivial⟩) ?_
      exact k_201_44 _ zF M o b1 b2 ((-1)) 0 _ g13
    · rw [if_neg hc12] at g13
      refine zo_icF (p' := 28) (zi_201 rfl) rfl rfl hc12 ?_
      refine zo_iload_n (p' := 29) (zi_201 rfl) rfl rfl ?_
      refine zo_bipush (p' := 31) (v := 6) (zi_201 rfl) rfl rfl ?_
      refine zo_imul (p' := 32) (zi_201 rfl) rfl ?_
      refine zo_istore_n (p' := 33) (L' := [(0, zrf (some o)), (1, .int b1), (2, .int ((b2 * 6))), (3, .int b3)]) (zi_201 rfl) rfl zm_201_2 ⟨Or.inr ⟨by decide, rfl, fun q => absurd q (by decide)⟩, ⟨Or.inr ⟨by decide, rfl, fun _ => rfl⟩, ⟨Or.inl ⟨rfl, rfl⟩, ⟨Or.inr ⟨by decide, rfl, fun q => absurd q (by decide)⟩, trivial⟩⟩⟩⟩ ?_
      refine zo_iinc (p' := 36) (v := (b3 + 1)) (L' := [(0, zrf (some o)), (1, .int b1), (2, .int ((b2 * 6))), (3, .int ((b3 + 1)))]) (zi_201 rfl) rfl zm_201_3 rfl rfl ⟨Or.inr ⟨by decide, rfl, fun q => absurd q (by decide)⟩, ⟨Or.inr ⟨by decide, rfl, fun q => absurd q (by decide)⟩, ⟨Or.inr ⟨by decide, rfl, fun _ => rfl⟩, ⟨Or.inl ⟨rfl, rfl⟩, trivial⟩⟩⟩⟩ ?_
      refine zo_goto (p' := 20) (zi_201 rfl) rfl ?_
      refine zgo_sub (L' := [(0, zrf (some o)), (1, .int b1), (2, .int (((b2 * 6)))), (3, .int (((b3 + 1))))]) (⟨rfl, rfl, rfl, rfl, trivial⟩) ?_
      exact ih M o b1 ((b2 * 6)) ((b3 + 1)) _ g13
def f_201 (M : ZMem) (o : Nat) (a0 : Int32) : Option (Int32 × ZMem) := if zok M 12 o = true then (zb (f_147 M o a0 ((-1)) 5) fun x1 => if ¬ x1 = 0 then (zb (f_202 M o) fun M6 => f_201_20 zF M6 o a0 1 0) else (some ((-1), M))) else none
theorem f_201_ok {M : ZMem} {o : Nat} {a0 : Int32} {out : Int32 × ZMem} (h : f_201 M o a0 = some out) : zok M 12 o = true := by
  unfold f_201 at h
  by_cases hok : zok M 12 o = true
  · exact hok
  · rw [if_neg hok] at h; cases h
set_option maxRecDepth 20000 in
theorem k_201 (d : Nat) {M : ZMem} {o : Nat} {a0 : Int32} {out : Int32 × ZMem} (h : f_201 M o a0 = some out) : zrn (d + 8) 201 [zrf (some o), .int a0] M (some (.int out.1), out.2) := by
  unfold f_201 at h
  by_cases hok : zok M 12 o = true
  · rw [if_pos hok] at h
    refine zrn_of (L := [(0, zrf (some o)), (1, .int a0)]) rfl ?_
    refine zo_aload_n (p' := 1) (zi_201 rfl) rfl rfl ?_
    refine zo_iload_n (p' := 2) (zi_201 rfl) rfl rfl ?_
    refine zo_iconst (p' := 3) (v := (-1)) (zi_201 rfl) rfl rfl ?_
    refine zo_iconst (p' := 4) (v := 5) (zi_201 rfl) rfl rfl ?_
    obtain ⟨x1, hx2, g7⟩ := zb_of h
    refine zo_callVi (p' := 7) (t := 12) (as := [.int a0, .int ((-1)), .int 5]) (r := []) (zi_201 rfl) rfl zl_19_239 rfl rfl (Or.inl ⟨by decide, rfl⟩) (Nat.le_of_ble_eq_true rfl) (Nat.le_of_ble_eq_true rfl) (f_147_ok hx2) (k_147 _ hx2) ?_
    by_cases hc3 : ¬ x1 = 0
    · rw [if_pos hc3] at g7
      refine zo_ifT (p' := 12) (zi_201 rfl) rfl hc3 ?_
      refine zo_aload_n (p' := 13) (zi_201 rfl) rfl rfl ?_
      obtain ⟨M6, hx5, g8⟩ := zb_of g7
      refine zo_callVv (p' := 16) (t := 12) (as := []) (r := []) (zi_201 rfl) rfl zl_19_379 rfl rfl (Or.inl ⟨by decide, rfl⟩) (Nat.le_of_ble_eq_true rfl) (Nat.le_of_ble_eq_true rfl) (f_202_ok hx5) (k_202 _ hx5) ?_
      refine zo_iconst (p' := 17) (v := 1) (zi_201 rfl) rfl rfl ?_
      refine zo_istore_n (p' := 18) (L' := [(0, zrf (some o)), (1, .int a0), (2, .int 1)]) (zi_201 rfl) rfl zm_201_2 ⟨Or.inr ⟨by decide, rfl, fun q => absurd q (by decide)⟩, ⟨Or.inr ⟨by decide, rfl, fun _ => rfl⟩, ⟨Or.inl ⟨rfl, rfl⟩, trivial⟩⟩⟩ ?_
      refine zo_iconst (p' := 19) (v := 0) (zi_201 rfl) rfl rfl ?_
      refine zo_istore_n (p' := 20) (L' := [(0, zrf (some o)), (1, .int a0), (2, .int 1), (3, .int 0)]) (zi_201 rfl) rfl zm_201_3 ⟨Or.inr ⟨by decide, rfl, fun q => absurd q (by decide)⟩, ⟨Or.inr ⟨by decide, rfl, fun q => absurd q (by decide)⟩, ⟨Or.inr ⟨by decide, rfl, fun _ => rfl⟩, ⟨Or.inl ⟨rfl, rfl⟩, trivial⟩⟩⟩⟩ ?_
      refine zgo_sub (L' := [(0, zrf (some o)), (1, .int a0), (2, .int 1), (3, .int 0)]) (⟨rfl, rfl, rfl, rfl, trivial⟩) ?_
      exact k_201_20 _ zF M6 o a0 1 0 _ g8
    · rw [if_neg hc3] at g7
      refine zo_ifF (p' := 10) (zi_201 rfl) rfl rfl hc3 ?_
      refine zo_iconst (p' := 11) (v := (-1)) (zi_201 rfl) rfl rfl ?_
      have g9 := Option.some.inj g7
      subst g9
      exact zo_iret (zi_201 rfl) rfl ⟨rfl, rfl⟩
  · rw [if_neg hok] at h; cases h
/-- SlateHalvesModel.loses(I)I -/
def f_205 (M : ZMem) (o : Nat) (a0 : Int32) : Option (Int32 × ZMem) := if zok M 12 o = true then (zb (f_149 M o a0) fun x1 => if x1 = 0 then (some ((-1001), M)) else (zbd (f_189 M o a0) fun x4 M6 => zbd (f_197 M6 o 1 ((20 + a0))) fun x7 M9 => some ((x4 - x7), M9))) else none
theorem f_205_ok {M : ZMem} {o : Nat} {a0 : Int32} {out : Int32 × ZMem} (h : f_205 M o a0 = some out) : zok M 12 o = true := by
  unfold f_205 at h
  by_cases hok : zok M 12 o = true
  · exact hok
  · rw [if_neg hok] at h; cases h
set_option maxRecDepth 20000 in
theorem k_205 (d : Nat) {M : ZMem} {o : Nat} {a0 : Int32} {out : Int32 × ZMem} (h : f_205 M o a0 = some out) : zrn (d + 9) 205 [zrf (some o), .int a0] M (some (.int out.1), out.2) := by
  unfold f_205 at h
  by_cases hok : zok M 12 o = true
  · rw [if_pos hok] at h
    refine zrn_of (L := [(0, zrf (some o)), (1, .int a0)]) rfl ?_
    refine zo_aload_n (p' := 1) (zi_205 rfl) rfl rfl ?_
    refine zo_iload_n (p' := 2) (zi_205 rfl) rfl rfl ?_
    obtain ⟨x1, hx2, g10⟩ := zb_of h
    refine zo_callVi (p' := 5) (t := 12) (as := [.int a0]) (r := []) (zi_205 rfl) rfl zl_19_243 rfl rfl (Or.inl ⟨by decide, rfl⟩) (Nat.le_of_ble_eq_true rfl) (Nat.le_of_ble_eq_true rfl) (f_149_ok hx2) (k_149 _ hx2) ?_
    by_cases hc3 : x1 = 0
    · rw [if_pos hc3] at g10
      refine zo_ifT (p' := 26) (zi_205 rfl) rfl hc3 ?_
      refine zo_sipush (p' := 29) (v := (-1001)) (zi_205 rfl) rfl rfl ?_
      have g11 := Option.some.inj g10
      subst g11
      exact zo_iret (zi_205 rfl) rfl ⟨rfl, rfl⟩
    · rw [if_neg hc3] at g10
      refine zo_ifF (p' := 8) (zi_205 rfl) rfl rfl hc3 ?_
      refine zo_aload_n (p' := 9) (zi_205 rfl) rfl rfl ?_
      refine zo_iload_n (p' := 10) (zi_205 rfl) rfl rfl ?_
      obtain ⟨x4, M6, hx5, g12⟩ := zbd_of g10
      refine zo_callVi (p' := 13) (t := 12) (as := [.int a0]) (r := []) (zi_205 rfl) rfl zl_19_353 rfl rfl (Or.inl ⟨by decide, rfl⟩) (Nat.le_of_ble_eq_true rfl) (Nat.le_of_ble_eq_true rfl) (f_189_ok hx5) (k_189 _ hx5) ?_
      refine zo_aload_n (p' := 14) (zi_205 rfl) rfl rfl ?_
      refine zo_iconst (p' := 15) (v := 1) (zi_205 rfl) rfl rfl ?_
      refine zo_bipush (p' := 17) (v := 20) (zi_205 rfl) rfl rfl ?_
      refine zo_iload_n (p' := 18) (zi_205 rfl) rfl rfl ?_
      refine zo_iadd (p' := 19) (zi_205 rfl) rfl ?_
      obtain ⟨x7, M9, hx8, g13⟩ := zbd_of g12
      refine zo_callVi (p' := 22) (t := 12) (as := [.int 1, .int ((20 + a0))]) (r := [.int x4]) (zi_205 rfl) rfl zl_19_385 rfl rfl (Or.inl ⟨by decide, rfl⟩) (Nat.le_of_ble_eq_true rfl) (Nat.le_of_ble_eq_true rfl) (f_197_ok hx8) (k_197 _ hx8) ?_
      refine zo_isub (p' := 23) (zi_205 rfl) rfl ?_
      refine zo_goto (p' := 29) (zi_205 rfl) rfl ?_
      have g14 := Option.some.inj g13
      subst g14
      exact zo_iret (zi_205 rfl) rfl ⟨rfl, rfl⟩
  · rw [if_neg hok] at h; cases h
/-- SlateHalvesModel.worst()I -/
def f_206_52 (r7 : ZMem → Nat → Int32 → Int32 → Int32 → Option (Int32 × ZMem)) (M : ZMem) (o : Nat) (b1 : Int32) (b2 : Int32) (b3 : Int32) : Option (Int32 × ZMem) := r7 M o b1 b2 ((b3 + 1))
def f_206_47 (r7 : ZMem → Nat → Int32 → Int32 → Int32 → Option (Int32 × ZMem)) (M : ZMem) (o : Nat) (b1 : Int32) (b2 : Int32) : Option (Int32 × ZMem) := f_206_52 (fun M a0 a1 a2 a3 => r7 M a0 a1 a2 a3) M o b1 b2 b1
def f_206_7 : Nat → ZMem → Nat → Int32 → Int32 → Int32 → Option (Int32 × ZMem)
  | 0, _, _, _, _, _ => none
  | z + 1, M, o, b1, b2, b3 => zb (zgi M 12 0 o) fun x1 => if x1 ≤ b3 then (some (b1, M)) else (zb (zgr M 12 5 o) fun r4 => zb r4 fun q6 => zb (zai M q6 b3) fun x7 => if ¬ x7 = 0 then (zbd (f_205 M o b3) fun x10 M12 => if b1 < 0 then (f_206_47 (fun M a0 a1 a2 a3 => f_206_7 z M a0 a1 a2 a3) M12 o b3 x10) else (if b2 < x10 then (f_206_47 (fun M a0 a1 a2 a3 => f_206_7 z M a0 a1 a2 a3) M12 o b3 x10) else (f_206_52 (fun M a0 a1 a2 a3 => f_206_7 z M a0 a1 a2 a3) M12 o b1 b2 b3))) else (f_206_52 (fun M a0 a1 a2 a3 => f_206_7 z M a0 a1 a2 a3) M o b1 b2 b3))
set_option maxRecDepth 20000 in
theorem k_206_52 (d : Nat) (r7 : ZMem → Nat → Int32 → Int32 → Int32 → Option (Int32 × ZMem)) (h7 : ∀ (M : ZMem) (a0 : Nat) (a1 : Int32) (a2 : Int32) (a3 : Int32) (out : Int32 × ZMem), r7 M a0 a1 a2 a3 = some out → zgo none (d + 10) 206 7 [(0, zrf (some a0)), (1, .int a1), (2, .int a2), (3, .int a3)] [] M (some (.int out.1), out.2)) : ∀ (M : ZMem) (o : Nat) (b1 : Int32) (b2 : Int32) (b3 : Int32) (out : Int32 × ZMem), f_206_52 r7 M o b1 b2 b3 = some out → zgo none (d + 10) 206 52 [(0, zrf (some o)), (1, .int b1), (2, .int b2), (3, .int b3)] [] M (some (.int out.1), out.2) := by
  intro M o b1 b2 b3 out h
  unfold f_206_52 at h
  refine zo_iinc (p' := 55) (v := (b3 + 1)) (L' := [(0, zrf (some o)), (1, .int b1), (2, .int b2), (3, .int ((b3 + 1)))]) (zi_206 rfl) rfl zm_206_3 rfl rfl ⟨Or.inr ⟨by decide, rfl, fun q => absurd q (by decide)⟩, ⟨Or.inr ⟨by decide, rfl, fun q => absurd q (by decide)⟩, ⟨Or.inr ⟨by decide, rfl, fun _ => rfl⟩, ⟨Or.inl ⟨rfl, rfl⟩, trivial⟩⟩⟩⟩ ?_
  refine zo_goto (p' := 7) (zi_206 rfl) rfl ?_
  refine zgo_sub (L' := [(0, zrf (some o)), (1, .int b1), (2, .int b2), (3, .int (((b3 + 1))))]) (⟨rfl, rfl, rfl, rfl, trivial⟩) ?_
  exact h7 M o b1 b2 ((b3 + 1)) _ h
set_option maxRecDepth 20000 in
theorem k_206_47 (d : Nat) (r7 : ZMem → Nat → Int32 → Int32 → Int32 → Option (Int32 × ZMem)) (h7 : ∀ (M : ZMem) (a0 : Nat) (a1 : Int32) (a2 : Int32) (a3 : Int32) (out : Int32 × ZMem), r7 M a0 a1 a2 a3 = some out → zgo none (d + 10) 206 7 [(0, zrf (some a0)), (1, .int a1), (2, .int a2), (3, .int a3)] [] M (some (.int out.1), out.2)) : ∀ (M : ZMem) (o : Nat) (b1 : Int32) (b2 : Int32) (out : Int32 × ZMem), f_206_47 r7 M o b1 b2 = some out → zgo none (d + 10) 206 47 [(0, zrf (some o)), (3, .int b1), (4, .int b2)] [] M (some (.int out.1), out.2) := by
  intro M o b1 b2 out h
  unfold f_206_47 at h
  refine zo_iload_n (p' := 48) (zi_206 rfl) rfl rfl ?_
  refine zo_istore_n (p' := 49) (L' := [(0, zrf (some o)), (1, .int b1), (3, .int b1), (4, .int b2)]) (zi_206 rfl) rfl zm_206_1 ⟨Or.inr ⟨by decide, rfl, fun _ => zrf_cat _⟩, ⟨Or.inl ⟨rfl, rfl⟩, ⟨Or.inr ⟨by decide, rfl, fun q => absurd q (by decide)⟩, ⟨Or.inr ⟨by decide, rfl, fun q => absurd q (by decide)⟩, trivial⟩⟩⟩⟩ ?_
  refine zo_iload (p' := 51) (zi_206 rfl) rfl rfl ?_
  refine zo_istore_n (p' := 52) (L' := [(0, zrf (some o)), (1, .int b1), (2, .int b2), (3, .int b1), (4, .int b2)]) (zi_206 rfl) rfl zm_206_2 ⟨Or.inr ⟨by decide, rfl, fun q => absurd q (by decide)⟩, ⟨Or.inr ⟨by decide, rfl, fun _ => rfl⟩, ⟨Or.inl ⟨rfl, rfl⟩, ⟨Or.inr ⟨by decide, rfl, fun q => absurd q (by decide)⟩, ⟨Or.inr ⟨by decide, rfl, fun q => absurd q (by decide)⟩, trivial⟩⟩⟩⟩⟩ ?_
  refine zgo_sub (L' := [(0, zrf (some o)), (1, .int b1), (2, .int b2), (3, .int b1)]) (⟨rfl, rfl, rfl, rfl, trivial⟩) ?_
  exact k_206_52 _ _ (fun M a0 a1 a2 a3 out h => h7 M a0 a1 a2 a3 out h) M o b1 b2 b1 _ h
set_option maxRecDepth 20000 in
theorem k_206_7 (d : Nat) : ∀ (z : Nat) (M : ZMem) (o : Nat) (b1 : Int32) (b2 : Int32) (b3 : Int32) (out : Int32 × ZMem), f_206_7 z M o b1 b2 b3 = some out → zgo none (d + 10) 206 7 [(0, zrf (some o)), (1, .int b1), (2, .int b2), (3, .int b3)] [] M (some (.int out.1), out.2) := by
  intro z
  induction z with
  | zero => intro M o b1 b2 b3 out h; cases h
  | succ z ih =>
    intro M o b1 b2 b3 out h
    rw [f_206_7] at h
    refine zo_iload_n (p' := 8) (zi_206 rfl) rfl rfl ?_
    refine zo_aload_n (p' := 9) (zi_206 rfl) rfl rfl ?_
    obtain ⟨x1, hx2, g15⟩ := zb_of h
    refine zo_getI (p' := 12) (zi_206 rfl) rfl zl_19_7 hx2 ?_
    by_cases hc3 : x1 ≤ b3
    · rw [if_pos hc3] at g15
      refine zo_icT (p' := 58) (zi_206 rfl) rfl hc3 ?_
      refine zo_iload_n (p' := 59) (zi_206 rfl) rfl rfl ?_
      have g16 := Option.some.inj g15
      subst g16
      exact zo_iret (zi_206 rfl) rfl ⟨rfl, rfl⟩
    · rw [if_neg hc3] at g15
      refine zo_icF (p' := 15) (zi_206 rfl) rfl rfl hc3 ?_
      refine zo_aload_n (p' := 16) (zi_206 rfl) rfl rfl ?_
      obtain ⟨r4, hx5, g17⟩ := zb_of g15
      refine zo_getR (p' := 19) (zi_206 rfl) rfl zl_19_26 hx5 ?_
      refine zo_iload_n (p' := 20) (zi_206 rfl) rfl rfl ?_
      obtain ⟨q6, h0, g18⟩ := zb_of g17
      subst h0
      obtain ⟨x7, hx8, g19⟩ := zb_of g18
      refine zo_iald (p' := 21) (zi_206 rfl) rfl hx8 ?_
      by_cases hc9 : ¬ x7 = 0
      · rw [if_pos hc9] at g19
        refine zo_ifT (p' := 27) (zi_206 rfl) rfl hc9 ?_
        refine zo_aload_n (p' := 28) (zi_206 rfl) rfl rfl ?_
        refine zo_iload_n (p' := 29) (zi_206 rfl) rfl rfl ?_
        obtain ⟨x10, M12, hx11, g20⟩ := zbd_of g19
        refine zo_callVi (p' := 32) (t := 12) (as := [.int b3]) (r := []) (zi_206 rfl) rfl zl_19_388 rfl rfl (Or.inl ⟨by decide, rfl⟩) (Nat.le_of_ble_eq_true rfl) (Nat.le_of_ble_eq_true rfl) (f_205_ok hx11) (k_205 _ hx11) ?_
        refine zo_istore (p' := 34) (L' := [(0, zrf (some o)), (1, .int b1), (2, .int b2), (3, .int b3), (4, .int x10)]) (zi_206 rfl) rfl zm_206_4 ⟨Or.inr ⟨by decide, rfl, fun q => absurd q (by decide)⟩, ⟨Or.inr ⟨by decide, rfl, fun q => absurd q (by decide)⟩, ⟨Or.inr ⟨by decide, rfl, fun q => absurd q (by decide)⟩, ⟨Or.inr ⟨by decide, rfl, fun _ => rfl⟩, ⟨Or.inl ⟨rfl, rfl⟩, trivial⟩⟩⟩⟩⟩ ?_
        refine zo_iload_n (p' := 35) (zi_206 rfl) rfl rfl ?_
        by_cases hc13 : b1 < 0
        · rw [if_pos hc13] at g20
          refine zo_ifT (p' := 47) (zi_206 rfl) rfl hc13 ?_
          refine zgo_sub (L' := [(0, zrf (some o)), (3, .int b3), (4, .int x10)]) (⟨rfl, rfl, rfl, trivial⟩) ?_
          exact k_206_47 _ _ (fun M a0 a1 a2 a3 out h => ih M a0 a1 a2 a3 out h) M12 o b3 x10 _ g20
        · rw [if_neg hc13] at g20
          refine zo_ifF (p' := 38) (zi_206 rfl) rfl rfl hc13 ?_
          refine zo_iload (p' := 40) (zi_206 rfl) rfl rfl ?_
          refine zo_iload_n (p' := 41) (zi_206 rfl) rfl rfl ?_
          by_cases hc14 : b2 < x10
          · rw [if_pos hc14] at g20
            refine zo_icT (p' := 47) (zi_206 rfl) rfl hc14 ?_
            refine zgo_sub (L' := [(0, zrf (some o)), (3, .int b3), (4, .int x10)]) (⟨rfl, rfl, rfl, trivial⟩) ?_
            exact k_206_47 _ _ (fun M a0 a1 a2 a3 out h => ih M a0 a1 a2 a3 out h) M12 o b3 x10 _ g20
          · rw [if_neg hc14] at g20
            refine zo_icF (p' := 44) (zi_206 rfl) rfl rfl hc14 ?_
            refine zo_goto (p' := 52) (zi_206 rfl) rfl ?_
            refine zgo_sub (L' := [(0, zrf (some o)), (1, .int b1), (2, .int b2), (3, .int b3)]) (⟨rfl, rfl, rfl, rfl, trivial⟩) ?_
            exact k_206_52 _ _ (fun M a0 a1 a2 a3 out h => ih M a0 a1 a2 a3 out h) M12 o b1 b2 b3 _ g20
      · rw [if_neg hc9] at g19
        refine zo_ifF (p' := 24) (zi_206 rfl) rfl rfl hc9 ?_
        refine zo_goto (p' := 52) (zi_206 rfl) rfl ?_
        refine zgo_sub (L' := [(0, zrf (some o)), (1, .int b1), (2, .int b2), (3, .int b3)]) (⟨rfl, rfl, rfl, rfl, trivial⟩) ?_
        exact k_206_52 _ _ (fun M a0 a1 a2 a3 out h => ih M a0 a1 a2 a3 out h) M o b1 b2 b3 _ g19
def f_206 (M : ZMem) (o : Nat) : Option (Int32 × ZMem) := if zok M 12 o = true then (f_206_7 zF M o ((-5)) 0 0) else none
theorem f_206_ok {M : ZMem} {o : Nat} {out : Int32 × ZMem} (h : f_206 M o = some out) : zok M 12 o = true := by
  unfold f_206 at h
  by_cases hok : zok M 12 o = true
  · exact hok
  · rw [if_neg hok] at h; cases h
set_option maxRecDepth 20000 in
theorem k_206 (d : Nat) {M : ZMem} {o : Nat} {out : Int32 × ZMem} (h : f_206 M o = some out) : zrn (d + 10) 206 [zrf (some o)] M (some (.int out.1), out.2) := by
  unfold f_206 at h
  by_cases hok : zok M 12 o = true
  · rw [if_pos hok] at h
    refine zrn_of (L := [(0, zrf (some o))]) rfl ?_
    refine zo_bipush (p' := 2) (v := (-5)) (zi_206 rfl) rfl rfl ?_
    refine zo_istore_n (p' := 3) (L' := [(0, zrf (some o)), (1, .int ((-5)))]) (zi_206 rfl) rfl zm_206_1 ⟨Or.inr ⟨by decide, rfl, fun _ => zrf_cat _⟩, ⟨Or.inl ⟨rfl, rfl⟩, trivial⟩⟩ ?_
    refine zo_iconst (p' := 4) (v := 0) (zi_206 rfl) rfl rfl ?_
    refine zo_istore_n (p' := 5) (L' := [(0, zrf (some o)), (1, .int ((-5))), (2, .int 0)]) (zi_206 rfl) rfl zm_206_2 ⟨Or.inr ⟨by decide, rfl, fun q => absurd q (by decide)⟩, ⟨Or.inr ⟨by decide, rfl, fun _ => rfl⟩, ⟨Or.inl ⟨rfl, rfl⟩, trivial⟩⟩⟩ ?_
    refine zo_iconst (p' := 6) (v := 0) (zi_206 rfl) rfl rfl ?_
    refine zo_istore_n (p' := 7) (L' := [(0, zrf (some o)), (1, .int ((-5))), (2, .int 0), (3, .int 0)]) (zi_206 rfl) rfl zm_206_3 ⟨Or.inr ⟨by decide, rfl, fun q => absurd q (by decide)⟩, ⟨Or.inr ⟨by decide, rfl, fun q => absurd q (by decide)⟩, ⟨Or.inr ⟨by decide, rfl, fun _ => rfl⟩, ⟨Or.inl ⟨rfl, rfl⟩, trivial⟩⟩⟩⟩ ?_
    refine zgo_sub (L' := [(0, zrf (some o)), (1, .int (((-5)))), (2, .int 0), (3, .int 0)]) (⟨rfl, rfl, rfl, rfl, trivial⟩) ?_
    exact k_206_7 _ zF M o ((-5)) 0 0 _ h
  · rw [if_neg hok] at h; cases h
/-- SlateHalvesModel.see(IIZ)I -/
def f_207 (M : ZMem) (o : Nat) (a0 : Int32) (a1 : Int32) (a2 : Int32) : Option (Int32 × ZMem) := if zok M 12 o = true then (if ¬ a0 = (-1) then (zb (f_147 M o a1 2 60) fun x2 => if x2 = 0 then (some ((-2), M)) else (zb (f_147 M o a0 1 ((a1 - 1))) fun x5 => if ¬ x5 = 0 then (zb (zgi M 12 38 o) fun x8 => if ¬ x8 = 6 then (zb (zgr M 12 39 o) fun r11 => zb (zgi M 12 38 o) fun x13 => zb r11 fun q15 => zb (zsa M 20 q15 x13 a0) fun M16 => zb (zgr M16 12 40 o) fun r18 => zb (zgi M16 12 38 o) fun x20 => zb r18 fun q22 => zb (zsa M16 20 q22 x20 a1) fun M23 => zb (zgr M23 12 41 o) fun r25 => zb (zgi M23 12 38 o) fun x27 => zb r25 fun q29 => zb (zsb M23 q29 x27 a2) fun M30 => zb (zgi M30 12 38 o) fun x32 => zb (zpf M30 12 38 o (.int ((x32 + 1))) false) fun M34 => zb (zgi M34 12 38 o) fun x36 => some (x36, M34)) else (some ((-4), M))) else (some ((-2), M)))) else (zb (zpf M 12 38 o (.int 0) false) fun M38 => some (0, M38))) else none
theorem f_207_ok {M : ZMem} {o : Nat} {a0 : Int32} {a1 : Int32} {a2 : Int32} {out : Int32 × ZMem} (h : f_207 M o a0 a1 a2 = some out) : zok M 12 o = true := by
  unfold f_207 at h
  by_cases hok : zok M 12 o = true
  · exact hok
  · rw [if_neg hok] at h; cases h
set_option maxRecDepth 20000 in
theorem k_207 (d : Nat) {M : ZMem} {o : Nat} {a0 : Int32} {a1 : Int32} {a2 : Int32} {out : Int32 × ZMem} (h : f_207 M o a0 a1 a2 = some out) : zrn (d + 1) 207 [zrf (some o), .int a0, .int a1, .int a2] M (some (.int out.1), out.2) := by
  unfold f_207 at h
  by_cases hok : zok M 12 o = true
  · rw [if_pos hok] at h
    refine zrn_of (L := [(0, zrf (some o)), (1, .int a0), (2, .int a1), (3, .int a2)]) rfl ?_
    refine zo_iload_n (p' := 1) (zi_207 rfl) rfl rfl ?_
    refine zo_iconst (p' := 2) (v := (-1)) (zi_207 rfl) rfl rfl ?_
    by_cases hc1 : ¬ a0 = (-1)
    · rw [if_pos hc1] at h
      refine zo_icT (p' := 12) (zi_207 rfl) rfl hc1 ?_
      refine zo_aload_n (p' := 13) (zi_207 rfl) rfl rfl ?_
      refine zo_iload_n (p' := 14) (zi_207 rfl) rfl rfl ?_
      refine zo_iconst (p' := 15) (v := 2) (zi_207 rfl) rfl rfl ?_
      refine zo_bipush (p' := 17) (v := 60) (zi_207 rfl) rfl rfl ?_
      obtain ⟨x2, hx3, g40⟩ := zb_of h
      refine zo_callVi (p' := 20) (t := 12) (as := [.int a1, .int 2, .int 60]) (r := []) (zi_207 rfl) rfl zl_19_239 rfl rfl (Or.inl ⟨by decide, rfl⟩) (Nat.le_of_ble_eq_true rfl) (Nat.le_of_ble_eq_true rfl) (f_147_ok hx3) (k_147 _ hx3) ?_
      by_cases hc4 : x2 = 0
      · rw [if_pos hc4] at g40
        refine zo_ifT (p' := 35) (zi_207 rfl) rfl hc4 ?_
        refine zo_bipush (p' := 37) (v := (-2)) (zi_207 rfl) rfl rfl ?_
        have g41 := Option.some.inj g40
        subst g41
        exact zo_iret (zi_207 rfl) rfl ⟨rfl, rfl⟩
      · rw [if_neg hc4] at g40
        refine zo_ifF (p' := 23) (zi_207 rfl) rfl rfl hc4 ?_
        refine zo_aload_n (p' := 24) (zi_207 rfl) rfl rfl ?_
        refine zo_iload_n (p' := 25) (zi_207 rfl) rfl rfl ?_
        refine zo_iconst (p' := 26) (v := 1) (zi_207 rfl) rfl rfl ?_
        refine zo_iload_n (p' := 27) (zi_207 rfl) rfl rfl ?_
        refine zo_iconst (p' := 28) (v := 1) (zi_207 rfl) rfl rfl ?_
        refine zo_isub (p' := 29) (zi_207 rfl) rfl ?_
        obtain ⟨x5, hx6, g42⟩ := zb_of g40
        refine zo_callVi (p' := 32) (t := 12) (as := [.int a0, .int 1, .int ((a1 - 1))]) (r := []) (zi_207 rfl) rfl zl_19_239 rfl rfl (Or.inl ⟨by decide, rfl⟩) (Nat.le_of_ble_eq_true rfl) (Nat.le_of_ble_eq_true rfl) (f_147_ok hx6) (k_147 _ hx6) ?_
        by_cases hc7 : ¬ x5 = 0
        · rw [if_pos hc7] at g42
          refine zo_ifT (p' := 38) (zi_207 rfl) rfl hc7 ?_
          refine zo_aload_n (p' := 39) (zi_207 rfl) rfl rfl ?_
          obtain ⟨x8, hx9, g43⟩ := zb_of g42
          refine zo_getI (p' := 42) (zi_207 rfl) rfl zl_19_126 hx9 ?_
          refine zo_bipush (p' := 44) (v := 6) (zi_207 rfl) rfl rfl ?_
          by_cases hc10 : ¬ x8 = 6
          · rw [if_pos hc10] at g43
            refine zo_icT (p' := 50) (zi_207 rfl) rfl hc10 ?_
            refine zo_aload_n (p' := 51) (zi_207 rfl) rfl rfl ?_
            obtain ⟨r11, hx12, g44⟩ := zb_of g43
            refine zo_getR (p' := 54) (zi_207 rfl) rfl zl_19_129 hx12 ?_
            refine zo_aload_n (p' := 55) (zi_207 rfl) rfl rfl ?_
            obtain ⟨x13, hx14, g45⟩ := zb_of g44
            refine zo_getI (p' := 58) (zi_207 rfl) rfl zl_19_126 hx14 ?_
            refine zo_iload_n (p' := 59) (zi_207 rfl) rfl rfl ?_
            obtain ⟨q15, h0, g46⟩ := zb_of g45
            subst h0
            obtain ⟨M16, hx17, g47⟩ := zb_of g46
            refine zo_iast (p' := 60) (zi_207 rfl) rfl hx17 ?_
            refine zo_aload_n (p' := 61) (zi_207 rfl) rfl rfl ?_
            obtain ⟨r18, hx19, g48⟩ := zb_of g47
            refine zo_getR (p' := 64) (zi_207 rfl) rfl zl_19_132 hx19 ?_
            refine zo_aload_n (p' := 65) (zi_207 rfl) rfl rfl ?_
            obtain ⟨x20, hx21, g49⟩ := zb_of g48
            refine zo_getI (p' := 68) (zi_207 rfl) rfl zl_19_126 hx21 ?_
            refine zo_iload_n (p' := 69) (zi_207 rfl) rfl rfl ?_
            obtain ⟨q22, h0, g50⟩ := zb_of g49
            subst h0
            obtain ⟨M23, hx24, g51⟩ := zb_of g50
            refine zo_iast (p' := 70) (zi_207 rfl) rfl hx24 ?_
            refine zo_aload_n (p' := 71) (zi_207 rfl) rfl rfl ?_
            obtain ⟨r25, hx26, g52⟩ := zb_of g51
            refine zo_getR (p' := 74) (zi_207 rfl) rfl zl_19_135 hx26 ?_
            refine zo_aload_n (p' := 75) (zi_207 rfl) rfl rfl ?_
            obtain ⟨x27, hx28, g53⟩ := zb_of g52
            refine zo_getI (p' := 78) (zi_207 rfl) rfl zl_19_126 hx28 ?_
            refine zo_iload_n (p' := 79) (zi_207 rfl) rfl rfl ?_
            obtain ⟨q29, h0, g54⟩ := zb_of g53
            subst h0
            obtain ⟨M30, hx31, g55⟩ := zb_of g54
            refine zo_bast (p' := 80) (zi_207 rfl) rfl hx31 ?_
            refine zo_aload_n (p' := 81) (zi_207 rfl) rfl rfl ?_
            refine zo_dup (p' := 82) (zi_207 rfl) rfl (zrf_cat _) ?_
            obtain ⟨x32, hx33, g56⟩ := zb_of g55
            refine zo_getI (p' := 85) (zi_207 rfl) rfl zl_19_126 hx33 ?_
            refine zo_iconst (p' := 86) (v := 1) (zi_207 rfl) rfl rfl ?_
            refine zo_iadd (p' := 87) (zi_207 rfl) rfl ?_
            obtain ⟨M34, hx35, g57⟩ := zb_of g56
            refine zo_putI (p' := 90) (zi_207 rfl) rfl zl_19_126 (zpb_207 _) hx35 ?_
            refine zo_aload_n (p' := 91) (zi_207 rfl) rfl rfl ?_
            obtain ⟨x36, hx37, g58⟩ := zb_of g57
            refine zo_getI (p' := 94) (zi_207 rfl) rfl zl_19_126 hx37 ?_
            have g59 := Option.some.inj g58
            subst g59
            exact zo_iret (zi_207 rfl) rfl ⟨rfl, rfl⟩
          · rw [if_neg hc10] at g43
            refine zo_icF (p' := 47) (zi_207 rfl) rfl rfl hc10 ?_
            refine zo_bipush (p' := 49) (v := (-4)) (zi_207 rfl) rfl rfl ?_
            have g60 := Option.some.inj g43
            subst g60
            exact zo_iret (zi_207 rfl) rfl ⟨rfl, rfl⟩
        · rw [if_neg hc7] at g42
          refine zo_ifF (p' := 35) (zi_207 rfl) rfl rfl hc7 ?_
          refine zo_bipush (p' := 37) (v := (-2)) (zi_207 rfl) rfl rfl ?_
          have g61 := Option.some.inj g42
          subst g61
          exact zo_iret (zi_207 rfl) rfl ⟨rfl, rfl⟩
    · rw [if_neg hc1] at h
      refine zo_icF (p' := 5) (zi_207 rfl) rfl rfl hc1 ?_
      refine zo_aload_n (p' := 6) (zi_207 rfl) rfl rfl ?_
      refine zo_iconst (p' := 7) (v := 0) (zi_207 rfl) rfl rfl ?_
      obtain ⟨M38, hx39, g62⟩ := zb_of h
      refine zo_putI (p' := 10) (zi_207 rfl) rfl zl_19_126 (zpb_207 _) hx39 ?_
      refine zo_iconst (p' := 11) (v := 0) (zi_207 rfl) rfl rfl ?_
      have g63 := Option.some.inj g62
      subst g63
      exact zo_iret (zi_207 rfl) rfl ⟨rfl, rfl⟩
  · rw [if_neg hok] at h; cases h
/-- SlateHalvesModel.isSeen(I)Z -/
def f_209_2 : Nat → ZMem → Nat → Int32 → Int32 → Option (Int32)
  | 0, _, _, _, _ => none
  | z + 1, M, o, b1, b2 => zb (zgi M 12 38 o) fun x1 => if x1 ≤ b2 then (some 1) else (zb (zgr M 12 40 o) fun r4 => zb r4 fun q6 => zb (zai M q6 b2) fun x7 => zb (zgr M 12 39 o) fun r9 => zb r9 fun q11 => zb (zai M q11 b2) fun x12 => zb (f_183 M o b1 x7 x12) fun x14 => zb (zgr M 12 41 o) fun r16 => zb r16 fun q18 => zb (zab M q18 b2) fun x19 => if x14 = x19 then (f_209_2 z M o b1 ((b2 + 1))) else (some 0))
set_option maxRecDepth 20000 in
theorem k_209_2 (d : Nat) : ∀ (z : Nat) (M : ZMem) (o : Nat) (b1 : Int32) (b2 : Int32) (out : Int32), f_209_2 z M o b1 b2 = some out → zgo none (d + 4) 209 2 [(0, zrf (some o)), (1, .int b1), (2, .int b2)] [] M (some (.int out), M) := by
  intro z
  induction z with
  | zero => intro M o b1 b2 out h; cases h
  | succ z ih =>
    intro M o b1 b2 out h
    rw [f_209_2] at h
    refine zo_iload_n (p' := 3) (zi_209 rfl) rfl rfl ?_
    refine zo_aload_n (p' := 4) (zi_209 rfl) rfl rfl ?_
    obtain ⟨x1, hx2, g22⟩ := zb_of h
    refine zo_getI (p' := 7) (zi_209 rfl) rfl zl_19_126 hx2 ?_
    by_cases hc3 : x1 ≤ b2
    · rw [if_pos hc3] at g22
      refine zo_icT (p' := 44) (zi_209 rfl) rfl hc3 ?_
      refine zo_iconst (p' := 45) (v := 1) (zi_209 rfl) rfl rfl ?_
      have g23 := Option.some.inj g22
      subst g23
      exact zo_iret (zi_209 rfl) rfl ⟨rfl, rfl⟩
    · rw [if_neg hc3] at g22
      refine zo_icF (p' := 10) (zi_209 rfl) rfl rfl hc3 ?_
      refine zo_aload_n (p' := 11) (zi_209 rfl) rfl rfl ?_
      refine zo_iload_n (p' := 12) (zi_209 rfl) rfl rfl ?_
      refine zo_aload_n (p' := 13) (zi_209 rfl) rfl rfl ?_
      obtain ⟨r4, hx5, g24⟩ := zb_of g22
      refine zo_getR (p' := 16) (zi_209 rfl) rfl zl_19_132 hx5 ?_
      refine zo_iload_n (p' := 17) (zi_209 rfl) rfl rfl ?_
      obtain ⟨q6, h0, g25⟩ := zb_of g24
      subst h0
      obtain ⟨x7, hx8, g26⟩ := zb_of g25
      refine zo_iald (p' := 18) (zi_209 rfl) rfl hx8 ?_
      refine zo_aload_n (p' := 19) (zi_209 rfl) rfl rfl ?_
      obtain ⟨r9, hx10, g27⟩ := zb_of g26
      refine zo_getR (p' := 22) (zi_209 rfl) rfl zl_19_129 hx10 ?_
      refine zo_iload_n (p' := 23) (zi_209 rfl) rfl rfl ?_
      obtain ⟨q11, h0, g28⟩ := zb_of g27
      subst h0
      obtain ⟨x12, hx13, g29⟩ := zb_of g28
      refine zo_iald (p' := 24) (zi_209 rfl) rfl hx13 ?_
      obtain ⟨x14, hx15, g30⟩ := zb_of g29
      refine zo_callVi (p' := 27) (t := 12) (as := [.int b1, .int x7, .int x12]) (r := []) (zi_209 rfl) rfl zl_19_331 rfl rfl (Or.inl ⟨by decide, rfl⟩) (Nat.le_of_ble_eq_true rfl) (Nat.le_of_ble_eq_true rfl) (f_183_ok hx15) (k_183 _ hx15) ?_
      refine zo_aload_n (p' := 28) (zi_209 rfl) rfl rfl ?_
      obtain ⟨r16, hx17, g31⟩ := zb_of g30
      refine zo_getR (p' := 31) (zi_209 rfl) rfl zl_19_135 hx17 ?_
      refine zo_iload_n (p' := 32) (zi_209 rfl) rfl rfl ?_
      obtain ⟨q18, h0, g32⟩ := zb_of g31
      subst h0
      obtain ⟨x19, hx20, g33⟩ := zb_of g32
      refine zo_bald (p' := 33) (zi_209 rfl) rfl hx20 ?_
      by_cases hc21 : x14 = x19
      · rw [if_pos hc21] at g33
        refine zo_icT (p' := 38) (zi_209 rfl) rfl hc21 ?_
        refine zo_iinc (p' := 41) (v := (b2 + 1)) (L' := [(0, zrf (some o)), (1, .int b1), (2, .int ((b2 + 1)))]) (zi_209 rfl) rfl zm_209_2 rfl rfl ⟨Or.inr ⟨by decide, rfl, fun q => absurd q (by decide)⟩, ⟨Or.inr ⟨by decide, rfl, fun _ => rfl⟩, ⟨Or.inl ⟨rfl, rfl⟩, trivial⟩⟩⟩ ?_
        refine zo_goto (p' := 2) (zi_209 rfl) rfl ?_
        refine zgo_sub (L' := [(0, zrf (some o)), (1, .int b1), (2, .int (((b2 + 1))))]) (⟨rfl, rfl, rfl, trivial⟩) ?_
        exact ih M o b1 ((b2 + 1)) _ g33
      · rw [if_neg hc21] at g33
        refine zo_icF (p' := 36) (zi_209 rfl) rfl rfl hc21 ?_
        refine zo_iconst (p' := 37) (v := 0) (zi_209 rfl) rfl rfl ?_
        have g34 := Option.some.inj g33
        subst g34
        exact zo_iret (zi_209 rfl) rfl ⟨rfl, rfl⟩
def f_209 (M : ZMem) (o : Nat) (a0 : Int32) : Option (Int32) := if zok M 12 o = true then (f_209_2 zF M o a0 0) else none
theorem f_209_ok {M : ZMem} {o : Nat} {a0 : Int32} {out : Int32} (h : f_209 M o a0 = some out) : zok M 12 o = true := by
  unfold f_209 at h
  by_cases hok : zok M 12 o = true
  · exact hok
  · rw [if_neg hok] at h; cases h
set_option maxRecDepth 20000 in
theorem k_209 (d : Nat) {M : ZMem} {o : Nat} {a0 : Int32} {out : Int32} (h : f_209 M o a0 = some out) : zrn (d + 4) 209 [zrf (some o), .int a0] M (some (.int out), M) := by
  unfold f_209 at h
  by_cases hok : zok M 12 o = true
  · rw [if_pos hok] at h
    refine zrn_of (L := [(0, zrf (some o)), (1, .int a0)]) rfl ?_
    refine zo_iconst (p' := 1) (v := 0) (zi_209 rfl) rfl rfl ?_
    refine zo_istore_n (p' := 2) (L' := [(0, zrf (some o)), (1, .int a0), (2, .int 0)]) (zi_209 rfl) rfl zm_209_2 ⟨Or.inr ⟨by decide, rfl, fun q => absurd q (by decide)⟩, ⟨Or.inr ⟨by decide, rfl, fun _ => rfl⟩, ⟨Or.inl ⟨rfl, rfl⟩, trivial⟩⟩⟩ ?_
    refine zgo_sub (L' := [(0, zrf (some o)), (1, .int a0), (2, .int 0)]) (⟨rfl, rfl, rfl, trivial⟩) ?_
    exact k_209_2 _ zF M o a0 0 _ h
  · rw [if_neg hok] at h; cases h
/-- SlateHalvesModel.dryness(II)I -/
def f_208_69 (r38 : ZMem → Nat → Int32 → Int32 → Int32 → Int32 → Int32 → Int32 → Option (Int32 × ZMem)) (M : ZMem) (o : Nat) (b1 : Int32) (b2 : Int32) (b3 : Int32) (b4 : Int32) (b5 : Int32) (b6 : Int32) : Option (Int32 × ZMem) := r38 M o b1 b2 b3 b4 b5 ((b6 + (-1)))
def f_208_38 : Nat → ZMem → Nat → Int32 → Int32 → Int32 → Int32 → Int32 → Int32 → Option (Int32 × ZMem)
  | 0, _, _, _, _, _, _, _, _ => none
  | z + 1, M, o, b1, b2, b3, b4, b5, b6 => if b6 < 0 then (zb (zgr M 12 6 o) fun r20 => zb r20 fun q22 => zb (zsa M 20 q22 b1 b3) fun M23 => if ¬ b2 = 0 then (some (b5, M23)) else (some (b4, M23))) else (zb (zgr M 12 6 o) fun r26 => zb r26 fun q28 => zb (zsa M 20 q28 b1 b6) fun M29 => zb (f_209 M29 o b1) fun x31 => if ¬ x31 = 0 then (f_208_69 (fun M a0 a1 a2 a3 a4 a5 a6 => f_208_38 z M a0 a1 a2 a3 a4 a5 a6) M29 o b1 b2 b3 ((b4 + 1)) b6 b6) else (f_208_69 (fun M a0 a1 a2 a3 a4 a5 a6 => f_208_38 z M a0 a1 a2 a3 a4 a5 a6) M29 o b1 b2 b3 b4 b5 b6))
set_option maxRecDepth 20000 in
theorem k_208_69 (d : Nat) (r38 : ZMem → Nat → Int32 → Int32 → Int32 → Int32 → Int32 → Int32 → Option (Int32 × ZMem)) (h38 : ∀ (M : ZMem) (a0 : Nat) (a1 : Int32) (a2 : Int32) (a3 : Int32) (a4 : Int32) (a5 : Int32) (a6 : Int32) (out : Int32 × ZMem), r38 M a0 a1 a2 a3 a4 a5 a6 = some out → zgo none (d + 5) 208 38 [(0, zrf (some a0)), (1, .int a1), (2, .int a2), (3, .int a3), (4, .int a4), (5, .int a5), (6, .int a6)] [] M (some (.int out.1), out.2)) : ∀ (M : ZMem) (o : Nat) (b1 : Int32) (b2 : Int32) (b3 : Int32) (b4 : Int32) (b5 : Int32) (b6 : Int32) (out : Int32 × ZMem), f_208_69 r38 M o b1 b2 b3 b4 b5 b6 = some out → zgo none (d + 5) 208 69 [(0, zrf (some o)), (1, .int b1), (2, .int b2), (3, .int b3), (4, .int b4), (5, .int b5), (6, .int b6)] [] M (some (.int out.1), out.2) := by
  intro M o b1 b2 b3 b4 b5 b6 out h
  unfold f_208_69 at h
  refine zo_iinc (p' := 72) (v := (b6 + (-1))) (L' := [(0, zrf (some o)), (1, .int b1), (2, .int b2), (3, .int b3), (4, .int b4), (5, .int b5), (6, .int ((b6 + (-1))))]) (zi_208 rfl) rfl zm_208_6 rfl rfl ⟨Or.inr ⟨by decide, rfl, fun q => absurd q (by decide)⟩, ⟨Or.inr ⟨by decide, rfl, fun q => absurd q (by decide)⟩, ⟨Or.inr ⟨by decide, rfl, fun q => absurd q (by decide)⟩, ⟨Or.inr ⟨by decide, rfl, fun q => absurd q (by decide)⟩, ⟨Or.inr ⟨by decide, rfl, fun q => absurd q (by decide)⟩, ⟨Or.inr ⟨by decide, rfl, fun _ => rfl⟩, ⟨Or.inl ⟨rfl, rfl⟩, trivial⟩⟩⟩⟩⟩⟩⟩ ?_
  refine zo_goto (p' := 38) (zi_208 rfl) rfl ?_
  refine zgo_sub (L' := [(0, zrf (some o)), (1, .int b1), (2, .int b2), (3, .int b3), (4, .int b4), (5, .int b5), (6, .int (((b6 + (-1)))))]) (⟨rfl, rfl, rfl, rfl, rfl, rfl, rfl, trivial⟩) ?_
  exact h38 M o b1 b2 b3 b4 b5 ((b6 + (-1))) _ h
set_option maxRecDepth 20000 in
theorem k_208_38 (d : Nat) : ∀ (z : Nat) (M : ZMem) (o : Nat) (b1 : Int32) (b2 : Int32) (b3 : Int32) (b4 : Int32) (b5 : Int32) (b6 : Int32) (out : Int32 × ZMem), f_208_38 z M o b1 b2 b3 b4 b5 b6 = some out → zgo none (d + 5) 208 38 [(0, zrf (some o)), (1, .int b1), (2, .int b2), (3, .int b3), (4, .int b4), (5, .int b5), (6, .int b6)] [] M (some (.int out.1), out.2) := by
  intro z
  induction z with
  | zero => intro M o b1 b2 b3 b4 b5 b6 out h; cases h
  | succ z ih =>
    intro M o b1 b2 b3 b4 b5 b6 out h
    rw [f_208_38] at h
    refine zo_iload (p' := 40) (zi_208 rfl) rfl rfl ?_
    by_cases hc19 : b6 < 0
    · rw [if_pos hc19] at h
      refine zo_ifT (p' := 75) (zi_208 rfl) rfl hc19 ?_
      refine zo_aload_n (p' := 76) (zi_208 rfl) rfl rfl ?_
      obtain ⟨r20, hx21, g34⟩ := zb_of h
      refine zo_getR (p' := 79) (zi_208 rfl) rfl zl_19_29 hx21 ?_
      refine zo_iload_n (p' := 80) (zi_208 rfl) rfl rfl ?_
      refine zo_iload_n (p' := 81) (zi_208 rfl) rfl rfl ?_
      obtain ⟨q22, h0, g35⟩ := zb_of g34
      subst h0
      obtain ⟨M23, hx24, g36⟩ := zb_of g35
      refine zo_iast (p' := 82) (zi_208 rfl) rfl hx24 ?_
      refine zo_iload_n (p' := 83) (zi_208 rfl) rfl rfl ?_
      by_cases hc25 : ¬ b2 = 0
      · rw [if_pos hc25] at g36
        refine zo_ifT (p' := 91) (zi_208 rfl) rfl hc25 ?_
        refine zo_iload (p' := 93) (zi_208 rfl) rfl rfl ?_
        have g37 := Option.some.inj g36
        subst g37
        exact zo_iret (zi_208 rfl) rfl ⟨rfl, rfl⟩
      · rw [if_neg hc25] at g36
        refine zo_ifF (p' := 86) (zi_208 rfl) rfl rfl hc25 ?_
        refine zo_iload (p' := 88) (zi_208 rfl) rfl rfl ?_
        refine zo_goto (p' := 93) (zi_208 rfl) rfl ?_
        have g38 := Option.some.inj g36
        subst g38
        exact zo_iret (zi_208 rfl) rfl ⟨rfl, rfl⟩
    · rw [if_neg hc19] at h
      refine zo_ifF (p' := 43) (zi_208 rfl) rfl rfl hc19 ?_
      refine zo_aload_n (p' := 44) (zi_208 rfl) rfl rfl ?_
      obtain ⟨r26, hx27, g39⟩ := zb_of h
      refine zo_getR (p' := 47) (zi_208 rfl) rfl zl_19_29 hx27 ?_
      refine zo_iload_n (p' := 48) (zi_208 rfl) rfl rfl ?_
      refine zo_iload (p' := 50) (zi_208 rfl) rfl rfl ?_
      obtain ⟨q28, h0, g40⟩ := zb_of g39
      subst h0
      obtain ⟨M29, hx30, g41⟩ := zb_of g40
      refine zo_iast (p' := 51) (zi_208 rfl) rfl hx30 ?_
      refine zo_aload_n (p' := 52) (zi_208 rfl) rfl rfl ?_
      refine zo_iload_n (p' := 53) (zi_208 rfl) rfl rfl ?_
      obtain ⟨x31, hx32, g42⟩ := zb_of g41
      refine zo_callVi (p' := 56) (t := 12) (as := [.int b1]) (r := []) (zi_208 rfl) rfl zl_19_391 rfl rfl (Or.inl ⟨by decide, rfl⟩) (Nat.le_of_ble_eq_true rfl) (Nat.le_of_ble_eq_true rfl) (f_209_ok hx32) (k_209 _ hx32) ?_
      by_cases hc33 : ¬ x31 = 0
      · rw [if_pos hc33] at g42
        refine zo_ifT (p' := 62) (zi_208 rfl) rfl hc33 ?_
        refine zo_iinc (p' := 65) (v := (b4 + 1)) (L' := [(0, zrf (some o)), (1, .int b1), (2, .int b2), (3, .int b3), (4, .int ((b4 + 1))), (5, .int b5), (6, .int b6)]) (zi_208 rfl) rfl zm_208_4 rfl rfl ⟨Or.inr ⟨by decide, rfl, fun q => absurd q (by decide)⟩, ⟨Or.inr ⟨by decide, rfl, fun q => absurd q (by decide)⟩, ⟨Or.inr ⟨by decide, rfl, fun q => absurd q (by decide)⟩, ⟨Or.inr ⟨by decide, rfl, fun _ => rfl⟩, ⟨Or.inl ⟨rfl, rfl⟩, ⟨Or.inr ⟨by decide, rfl, fun q => absurd q (by decide)⟩, ⟨Or.inr ⟨by decide, rfl, fun q => absurd q (by decide)⟩, trivial⟩⟩⟩⟩⟩⟩⟩ ?_
        refine zo_iload (p' := 67) (zi_208 rfl) rfl rfl ?_
        refine zo_istore (p' := 69) (L' := [(0, zrf (some o)), (1, .int b1), (2, .int b2), (3, .int b3), (4, .int ((b4 + 1))), (5, .int b6), (6, .int b6)]) (zi_208 rfl) rfl zm_208_5 ⟨Or.inr ⟨by decide, rfl, fun q => absurd q (by decide)⟩, ⟨Or.inr ⟨by decide, rfl, fun q => absurd q (by decide)⟩, ⟨Or.inr ⟨by decide, rfl, fun q => absurd q (by decide)⟩, ⟨Or.inr ⟨by decide, rfl, fun q => absurd q (by decide)⟩, ⟨Or.inr ⟨by decide, rfl, fun _ => rfl⟩, ⟨Or.inl ⟨rfl, rfl⟩, ⟨Or.inr ⟨by decide, rfl, fun q => absurd q (by decide)⟩, trivial⟩⟩⟩⟩⟩⟩⟩ ?_
        refine zgo_sub (L' := [(0, zrf (some o)), (1, .int b1), (2, .int b2), (3, .int b3), (4, .int (((b4 + 1)))), (5, .int b6), (6, .int b6)]) (⟨rfl, rfl, rfl, rfl, rfl, rfl, rfl, trivial⟩) ?_
        exact k_208_69 _ _ (fun M a0 a1 a2 a3 a4 a5 a6 out h => ih M a0 a1 a2 a3 a4 a5 a6 out h) M29 o b1 b2 b3 ((b4 + 1)) b6 b6 _ g42
      · rw [if_neg hc33] at g42
        refine zo_ifF (p' := 59) (zi_208 rfl) rfl rfl hc33 ?_
        refine zo_goto (p' := 69) (zi_208 rfl) rfl ?_
        refine zgo_sub (L' := [(0, zrf (some o)), (1, .int b1), (2, .int b2), (3, .int b3), (4, .int b4), (5, .int b5), (6, .int b6)]) (⟨rfl, rfl, rfl, rfl, rfl, rfl, rfl, trivial⟩) ?_
        exact k_208_69 _ _ (fun M a0 a1 a2 a3 a4 a5 a6 out h => ih M a0 a1 a2 a3 a4 a5 a6 out h) M29 o b1 b2 b3 b4 b5 b6 _ g42
def f_208 (M : ZMem) (o : Nat) (a0 : Int32) (a1 : Int32) : Option (Int32 × ZMem) := if zok M 12 o = true then (zb (f_149 M o a0) fun x1 => if x1 = 0 then (some ((-1), M)) else (zb (f_147 M o a1 0 1) fun x4 => if ¬ x4 = 0 then (zb (zgr M 12 6 o) fun r7 => zb r7 fun q9 => zb (zai M q9 a0) fun x10 => f_208_38 zF M o a0 a1 x10 0 ((-5)) 99) else (some ((-1), M)))) else none
theorem f_208_ok {M : ZMem} {o : Nat} {a0 : Int32} {a1 : Int32} {out : Int32 × ZMem} (h : f_208 M o a0 a1 = some out) : zok M 12 o = true := by
  unfold f_208 at h
  by_cases hok : zok M 12 o = true
  · exact hok
  · rw [if_neg hok] at h; cases h
set_option maxRecDepth 20000 in
theorem k_208 (d : Nat) {M : ZMem} {o : Nat} {a0 : Int32} {a1 : Int32} {out : Int32 × ZMem} (h : f_208 M o a0 a1 = some out) : zrn (d + 5) 208 [zrf (some o), .int a0, .int a1] M (some (.int out.1), out.2) := by
  unfold f_208 at h
  by_cases hok : zok M 12 o = true
  · rw [if_pos hok] at h
    refine zrn_of (L := [(0, zrf (some o)), (1, .int a0), (2, .int a1)]) rfl ?_
    refine zo_aload_n (p' := 1) (zi_208 rfl) rfl rfl ?_
    refine zo_iload_n (p' := 2) (zi_208 rfl) rfl rfl ?_
    obtain ⟨x1, hx2, g12⟩ := zb_of h
    refine zo_callVi (p' := 5) (t := 12) (as := [.int a0]) (r := []) (zi_208 rfl) rfl zl_19_243 rfl rfl (Or.inl ⟨by decide, rfl⟩) (Nat.le_of_ble_eq_true rfl) (Nat.le_of_ble_eq_true rfl) (f_149_ok hx2) (k_149 _ hx2) ?_
    by_cases hc3 : x1 = 0
    · rw [if_pos hc3] at g12
      refine zo_ifT (p' := 18) (zi_208 rfl) rfl hc3 ?_
      refine zo_iconst (p' := 19) (v := (-1)) (zi_208 rfl) rfl rfl ?_
      have g13 := Option.some.inj g12
      subst g13
      exact zo_iret (zi_208 rfl) rfl ⟨rfl, rfl⟩
    · rw [if_neg hc3] at g12
      refine zo_ifF (p' := 8) (zi_208 rfl) rfl rfl hc3 ?_
      refine zo_aload_n (p' := 9) (zi_208 rfl) rfl rfl ?_
      refine zo_iload_n (p' := 10) (zi_208 rfl) rfl rfl ?_
      refine zo_iconst (p' := 11) (v := 0) (zi_208 rfl) rfl rfl ?_
      refine zo_iconst (p' := 12) (v := 1) (zi_208 rfl) rfl rfl ?_
      obtain ⟨x4, hx5, g14⟩ := zb_of g12
      refine zo_callVi (p' := 15) (t := 12) (as := [.int a1, .int 0, .int 1]) (r := []) (zi_208 rfl) rfl zl_19_239 rfl rfl (Or.inl ⟨by decide, rfl⟩) (Nat.le_of_ble_eq_true rfl) (Nat.le_of_ble_eq_true rfl) (f_147_ok hx5) (k_147 _ hx5) ?_
      by_cases hc6 : ¬ x4 = 0
      · rw [if_pos hc6] at g14
        refine zo_ifT (p' := 20) (zi_208 rfl) rfl hc6 ?_
        refine zo_aload_n (p' := 21) (zi_208 rfl) rfl rfl ?_
        obtain ⟨r7, hx8, g15⟩ := zb_of g14
        refine zo_getR (p' := 24) (zi_208 rfl) rfl zl_19_29 hx8 ?_
        refine zo_iload_n (p' := 25) (zi_208 rfl) rfl rfl ?_
        obtain ⟨q9, h0, g16⟩ := zb_of g15
        subst h0
        obtain ⟨x10, hx11, g17⟩ := zb_of g16
        refine zo_iald (p' := 26) (zi_208 rfl) rfl hx11 ?_
        refine zo_istore_n (p' := 27) (L' := [(0, zrf (some o)), (1, .int a0), (2, .int a1), (3, .int x10)]) (zi_208 rfl) rfl zm_208_3 ⟨Or.inr ⟨by decide, rfl, fun q => absurd q (by decide)⟩, ⟨Or.inr ⟨by decide, rfl, fun q => absurd q (by decide)⟩, ⟨Or.inr ⟨by decide, rfl, fun _ => rfl⟩, ⟨Or.inl ⟨rfl, rfl⟩, trivial⟩⟩⟩⟩ ?_
        refine zo_iconst (p' := 28) (v := 0) (zi_208 rfl) rfl rfl ?_
        refine zo_istore (p' := 30) (L' := [(0, zrf (some o)), (1, .int a0), (2, .int a1), (3, .int x10), (4, .int 0)]) (zi_208 rfl) rfl zm_208_4 ⟨Or.inr ⟨by decide, rfl, fun q => absurd q (by decide)⟩, ⟨Or.inr ⟨by decide, rfl, fun q => absurd q (by decide)⟩, ⟨Or.inr ⟨by decide, rfl, fun q => absurd q (by decide)⟩, ⟨Or.inr ⟨by decide, rfl, fun _ => rfl⟩, ⟨Or.inl ⟨rfl, rfl⟩, trivial⟩⟩⟩⟩⟩ ?_
        refine zo_bipush (p' := 32) (v := (-5)) (zi_208 rfl) rfl rfl ?_
        refine zo_istore (p' := 34) (L' := [(0, zrf (some o)), (1, .int a0), (2, .int a1), (3, .int x10), (4, .int 0), (5, .int ((-5)))]) (zi_208 rfl) rfl zm_208_5 ⟨Or.inr ⟨by decide, rfl, fun q => absurd q (by decide)⟩, ⟨Or.inr ⟨by decide, rfl, fun q => absurd q (by decide)⟩, ⟨Or.inr ⟨by decide, rfl, fun q => absurd q (by decide)⟩, ⟨Or.inr ⟨by decide, rfl, fun q => absurd q (by decide)⟩, ⟨Or.inr ⟨by decide, rfl, fun _ => rfl⟩, ⟨Or.inl ⟨rfl, rfl⟩, trivial⟩⟩⟩⟩⟩⟩ ?_
        refine zo_bipush (p' := 36) (v := 99) (zi_208 rfl) rfl rfl ?_
        refine zo_istore (p' := 38) (L' := [(0, zrf (some o)), (1, .int a0), (2, .int a1), (3, .int x10), (4, .int 0), (5, .int ((-5))), (6, .int 99)]) (zi_208 rfl) rfl zm_208_6 ⟨Or.inr ⟨by decide, rfl, fun q => absurd q (by decide)⟩, ⟨Or.inr ⟨by decide, rfl, fun q => absurd q (by decide)⟩, ⟨Or.inr ⟨by decide, rfl, fun q => absurd q (by decide)⟩, ⟨Or.inr ⟨by decide, rfl, fun q => absurd q (by decide)⟩, ⟨Or.inr ⟨by decide, rfl, fun q => absurd q (by decide)⟩, ⟨Or.inr ⟨by decide, rfl, fun _ => rfl⟩, ⟨Or.inl ⟨rfl, rfl⟩, trivial⟩⟩⟩⟩⟩⟩⟩ ?_
        refine zgo_sub (L' := [(0, zrf (some o)), (1, .int a0), (2, .int a1), (3, .int x10), (4, .int 0), (5, .int (((-5)))), (6, .int 99)]) (⟨rfl, rfl, rfl, rfl, rfl, rfl, rfl, trivial⟩) ?_
        exact k_208_38 _ zF M o a0 a1 x10 0 ((-5)) 99 _ g17
      · rw [if_neg hc6] at g14
        refine zo_ifF (p' := 18) (zi_208 rfl) rfl rfl hc6 ?_
        refine zo_iconst (p' := 19) (v := (-1)) (zi_208 rfl) rfl rfl ?_
        have g18 := Option.some.inj g14
        subst g18
        exact zo_iret (zi_208 rfl) rfl ⟨rfl, rfl⟩
  · rw [if_neg hok] at h; cases h
/-- SlateHalvesModel.can(II)I -/
def f_210_69 (r38 : ZMem → Nat → Int32 → Int32 → Int32 → Int32 → Int32 → Int32 → Option (Int32 × ZMem)) (M : ZMem) (o : Nat) (b1 : Int32) (b2 : Int32) (b3 : Int32) (b4 : Int32) (b5 : Int32) (b6 : Int32) : Option (Int32 × ZMem) := r38 M o b1 b2 b3 b4 b5 ((b6 + (-1)))
def f_210_38 : Nat → ZMem → Nat → Int32 → Int32 → Int32 → Int32 → Int32 → Int32 → Option (Int32 × ZMem)
  | 0, _, _, _, _, _, _, _, _ => none
  | z + 1, M, o, b1, b2, b3, b4, b5, b6 => if b6 < 0 then (zb (zgr M 12 4 o) fun r20 => zb r20 fun q22 => zb (zsa M 20 q22 b1 b3) fun M23 => if ¬ b2 = 0 then (some (b5, M23)) else (some (b4, M23))) else (zb (zgr M 12 4 o) fun r26 => zb r26 fun q28 => zb (zsa M 20 q28 b1 b6) fun M29 => zb (f_209 M29 o b1) fun x31 => if ¬ x31 = 0 then (f_210_69 (fun M a0 a1 a2 a3 a4 a5 a6 => f_210_38 z M a0 a1 a2 a3 a4 a5 a6) M29 o b1 b2 b3 ((b4 + 1)) b6 b6) else (f_210_69 (fun M a0 a1 a2 a3 a4 a5 a6 => f_210_38 z M a0 a1 a2 a3 a4 a5 a6) M29 o b1 b2 b3 b4 b5 b6))
set_option maxRecDepth 20000 in
theorem k_210_69 (d : Nat) (r38 : ZMem → Nat → Int32 → Int32 → Int32 → Int32 → Int32 → Int32 → Option (Int32 × ZMem)) (h38 : ∀ (M : ZMem) (a0 : Nat) (a1 : Int32) (a2 : Int32) (a3 : Int32) (a4 : Int32) (a5 : Int32) (a6 : Int32) (out : Int32 × ZMem), r38 M a0 a1 a2 a3 a4 a5 a6 = some out → zgo none (d + 5) 210 38 [(0, zrf (some a0)), (1, .int a1), (2, .int a2), (3, .int a3), (4, .int a4), (5, .int a5), (6, .int a6)] [] M (some (.int out.1), out.2)) : ∀ (M : ZMem) (o : Nat) (b1 : Int32) (b2 : Int32) (b3 : Int32) (b4 : Int32) (b5 : Int32) (b6 : Int32) (out : Int32 × ZMem), f_210_69 r38 M o b1 b2 b3 b4 b5 b6 = some out → zgo none (d + 5) 210 69 [(0, zrf (some o)), (1, .int b1), (2, .int b2), (3, .int b3), (4, .int b4), (5, .int b5), (6, .int b6)] [] M (some (.int out.1), out.2) := by
  intro M o b1 b2 b3 b4 b5 b6 out h
  unfold f_210_69 at h
  refine zo_iinc (p' := 72) (v := (b6 + (-1))) (L' := [(0, zrf (some o)), (1, .int b1), (2, .int b2), (3, .int b3), (4, .int b4), (5, .int b5), (6, .int ((b6 + (-1))))]) (zi_210 rfl) rfl zm_210_6 rfl rfl ⟨Or.inr ⟨by decide, rfl, fun q => absurd q (by decide)⟩, ⟨Or.inr ⟨by decide, rfl, fun q => absurd q (by decide)⟩, ⟨Or.inr ⟨by decide, rfl, fun q => absurd q (by decide)⟩, ⟨Or.inr ⟨by decide, rfl, fun q => absurd q (by decide)⟩, ⟨Or.inr ⟨by decide, rfl, fun q => absurd q (by decide)⟩, ⟨Or.inr ⟨by decide, rfl, fun _ => rfl⟩, ⟨Or.inl ⟨rfl, rfl⟩, trivial⟩⟩⟩⟩⟩⟩⟩ ?_
  refine zo_goto (p' := 38) (zi_210 rfl) rfl ?_
  refine zgo_sub (L' := [(0, zrf (some o)), (1, .int b1), (2, .int b2), (3, .int b3), (4, .int b4), (5, .int b5), (6, .int (((b6 + (-1)))))]) (⟨rfl, rfl, rfl, rfl, rfl, rfl, rfl, trivial⟩) ?_
  exact h38 M o b1 b2 b3 b4 b5 ((b6 + (-1))) _ h
set_option maxRecDepth 20000 in
theorem k_210_38 (d : Nat) : ∀ (z : Nat) (M : ZMem) (o : Nat) (b1 : Int32) (b2 : Int32) (b3 : Int32) (b4 : Int32) (b5 : Int32) (b6 : Int32) (out : Int32 × ZMem), f_210_38 z M o b1 b2 b3 b4 b5 b6 = some out → zgo none (d + 5) 210 38 [(0, zrf (some o)), (1, .int b1), (2, .int b2), (3, .int b3), (4, .int b4), (5, .int b5), (6, .int b6)] [] M (some (.int out.1), out.2) := by
  intro z
  induction z with
  | zero => intro M o b1 b2 b3 b4 b5 b6 out h; cases h
  | succ z ih =>
    intro M o b1 b2 b3 b4 b5 b6 out h
    rw [f_210_38] at h
    refine zo_iload (p' := 40) (zi_210 rfl) rfl rfl ?_
    by_cases hc19 : b6 < 0
    · rw [if_pos hc19] at h
      refine zo_ifT (p' := 75) (zi_210 rfl) rfl hc19 ?_
      refine zo_aload_n (p' := 76) (zi_210 rfl) rfl rfl ?_
      obtain ⟨r20, hx21, g34⟩ := zb_of h
      refine zo_getR (p' := 79) (zi_210 rfl) rfl zl_19_23 hx21 ?_
      refine zo_iload_n (p' := 80) (zi_210 rfl) rfl rfl ?_
      refine zo_iload_n (p' := 81) (zi_210 rfl) rfl rfl ?_
      obtain ⟨q22, h0, g35⟩ := zb_of g34
      subst h0
      obtain ⟨M23, hx24, g36⟩ := zb_of g35
      refine zo_iast (p' := 82) (zi_210 rfl) rfl hx24 ?_
      refine zo_iload_n (p' := 83) (zi_210 rfl) rfl rfl ?_
      by_cases hc25 : ¬ b2 = 0
      · rw [if_pos hc25] at g36
        refine zo_ifT (p' := 91) (zi_210 rfl) rfl hc25 ?_
        refine zo_iload (p' := 93) (zi_210 rfl) rfl rfl ?_
        have g37 := Option.some.inj g36
        subst g37
        exact zo_iret (zi_210 rfl) rfl ⟨rfl, rfl⟩
      · rw [if_neg hc25] at g36
        refine zo_ifF (p' := 86) (zi_210 rfl) rfl rfl hc25 ?_
        refine zo_iload (p' := 88) (zi_210 rfl) rfl rfl ?_
        refine zo_goto (p' := 93) (zi_210 rfl) rfl ?_
        have g38 := Option.some.inj g36
        subst g38
        exact zo_iret (zi_210 rfl) rfl ⟨rfl, rfl⟩
    · rw [if_neg hc19] at h
      refine zo_ifF (p' := 43) (zi_210 rfl) rfl rfl hc19 ?_
      refine zo_aload_n (p' := 44) (zi_210 rfl) rfl rfl ?_
      obtain ⟨r26, hx27, g39⟩ := zb_of h
      refine zo_getR (p' := 47) (zi_210 rfl) rfl zl_19_23 hx27 ?_
      refine zo_iload_n (p' := 48) (zi_210 rfl) rfl rfl ?_
      refine zo_iload (p' := 50) (zi_210 rfl) rfl rfl ?_
      obtain ⟨q28, h0, g40⟩ := zb_of g39
      subst h0
      obtain ⟨M29, hx30, g41⟩ := zb_of g40
      refine zo_iast (p' := 51) (zi_210 rfl) rfl hx30 ?_
      refine zo_aload_n (p' := 52) (zi_210 rfl) rfl rfl ?_
      refine zo_iload_n (p' := 53) (zi_210 rfl) rfl rfl ?_
      obtain ⟨x31, hx32, g42⟩ := zb_of g41
      refine zo_callVi (p' := 56) (t := 12) (as := [.int b1]) (r := []) (zi_210 rfl) rfl zl_19_391 rfl rfl (Or.inl ⟨by decide, rfl⟩) (Nat.le_of_ble_eq_true rfl) (Nat.le_of_ble_eq_true rfl) (f_209_ok hx32) (k_209 _ hx32) ?_
      by_cases hc33 : ¬ x31 = 0
      · rw [if_pos hc33] at g42
        refine zo_ifT (p' := 62) (zi_210 rfl) rfl hc33 ?_
        refine zo_iinc (p' := 65) (v := (b4 + 1)) (L' := [(0, zrf (some o)), (1, .int b1), (2, .int b2), (3, .int b3), (4, .int ((b4 + 1))), (5, .int b5), (6, .int b6)]) (zi_210 rfl) rfl zm_210_4 rfl rfl ⟨Or.inr ⟨by decide, rfl, fun q => absurd q (by decide)⟩, ⟨Or.inr ⟨by decide, rfl, fun q => absurd q (by decide)⟩, ⟨Or.inr ⟨by decide, rfl, fun q => absurd q (by decide)⟩, ⟨Or.inr ⟨by decide, rfl, fun _ => rfl⟩, ⟨Or.inl ⟨rfl, rfl⟩, ⟨Or.inr ⟨by decide, rfl, fun q => absurd q (by decide)⟩, ⟨Or.inr ⟨by decide, rfl, fun q => absurd q (by decide)⟩, trivial⟩⟩⟩⟩⟩⟩⟩ ?_
        refine zo_iload (p' := 67) (zi_210 rfl) rfl rfl ?_
        refine zo_istore (p' := 69) (L' := [(0, zrf (some o)), (1, .int b1), (2, .int b2), (3, .int b3), (4, .int ((b4 + 1))), (5, .int b6), (6, .int b6)]) (zi_210 rfl) rfl zm_210_5 ⟨Or.inr ⟨by decide, rfl, fun q => absurd q (by decide)⟩, ⟨Or.inr ⟨by decide, rfl, fun q => absurd q (by decide)⟩, ⟨Or.inr ⟨by decide, rfl, fun q => absurd q (by decide)⟩, ⟨Or.inr ⟨by decide, rfl, fun q => absurd q (by decide)⟩, ⟨Or.inr ⟨by decide, rfl, fun _ => rfl⟩, ⟨Or.inl ⟨rfl, rfl⟩, ⟨Or.inr ⟨by decide, rfl, fun q => absurd q (by decide)⟩, trivial⟩⟩⟩⟩⟩⟩⟩ ?_
        refine zgo_sub (L' := [(0, zrf (some o)), (1, .int b1), (2, .int b2), (3, .int b3), (4, .int (((b4 + 1)))), (5, .int b6), (6, .int b6)]) (⟨rfl, rfl, rfl, rfl, rfl, rfl, rfl, trivial⟩) ?_
        exact k_210_69 _ _ (fun M a0 a1 a2 a3 a4 a5 a6 out h => ih M a0 a1 a2 a3 a4 a5 a6 out h) M29 o b1 b2 b3 ((b4 + 1)) b6 b6 _ g42
      · rw [if_neg hc33] at g42
        refine zo_ifF (p' := 59) (zi_210 rfl) rfl rfl hc33 ?_
        refine zo_goto (p' := 69) (zi_210 rfl) rfl ?_
        refine zgo_sub (L' := [(0, zrf (some o)), (1, .int b1), (2, .int b2), (3, .int b3), (4, .int b4), (5, .int b5), (6, .int b6)]) (⟨rfl, rfl, rfl, rfl, rfl, rfl, rfl, trivial⟩) ?_
        exact k_210_69 _ _ (fun M a0 a1 a2 a3 a4 a5 a6 out h => ih M a0 a1 a2 a3 a4 a5 a6 out h) M29 o b1 b2 b3 b4 b5 b6 _ g42
def f_210 (M : ZMem) (o : Nat) (a0 : Int32) (a1 : Int32) : Option (Int32 × ZMem) := if zok M 12 o = true then (zb (f_149 M o a0) fun x1 => if x1 = 0 then (some ((-1), M)) else (zb (f_147 M o a1 0 1) fun x4 => if ¬ x4 = 0 then (zb (zgr M 12 4 o) fun r7 => zb r7 fun q9 => zb (zai M q9 a0) fun x10 => f_210_38 zF M o a0 a1 x10 0 ((-5)) 9) else (some ((-1), M)))) else none
theorem f_210_ok {M : ZMem} {o : Nat} {a0 : Int32} {a1 : Int32} {out : Int32 × ZMem} (h : f_210 M o a0 a1 = some out) : zok M 12 o = true := by
  unfold f_210 at h
  by_cases hok : zok M 12 o = true
  · exact hok
  · rw [if_neg hok] at h; cases h
set_option maxRecDepth 20000 in
theorem k_210 (d : Nat) {M : ZMem} {o : Nat} {a0 : Int32} {a1 : Int32} {out : Int32 × ZMem} (h : f_210 M o a0 a1 = some out) : zrn (d + 5) 210 [zrf (some o), .int a0, .int a1] M (some (.int out.1), out.2) := by
  unfold f_210 at h
  by_cases hok : zok M 12 o = true
  · rw [if_pos hok] at h
    refine zrn_of (L := [(0, zrf (some o)), (1, .int a0), (2, .int a1)]) rfl ?_
    refine zo_aload_n (p' := 1) (zi_210 rfl) rfl rfl ?_
    refine zo_iload_n (p' := 2) (zi_210 rfl) rfl rfl ?_
    obtain ⟨x1, hx2, g12⟩ := zb_of h
    refine zo_callVi (p' := 5) (t := 12) (as := [.int a0]) (r := []) (zi_210 rfl) rfl zl_19_243 rfl rfl (Or.inl ⟨by decide, rfl⟩) (Nat.le_of_ble_eq_true rfl) (Nat.le_of_ble_eq_true rfl) (f_149_ok hx2) (k_149 _ hx2) ?_
    by_cases hc3 : x1 = 0
    · rw [if_pos hc3] at g12
      refine zo_ifT (p' := 18) (zi_210 rfl) rfl hc3 ?_
      refine zo_iconst (p' := 19) (v := (-1)) (zi_210 rfl) rfl rfl ?_
      have g13 := Option.some.inj g12
      subst g13
      exact zo_iret (zi_210 rfl) rfl ⟨rfl, rfl⟩
    · rw [if_neg hc3] at g12
      refine zo_ifF (p' := 8) (zi_210 rfl) rfl rfl hc3 ?_
      refine zo_aload_n (p' := 9) (zi_210 rfl) rfl rfl ?_
      refine zo_iload_n (p' := 10) (zi_210 rfl) rfl rfl ?_
      refine zo_iconst (p' := 11) (v := 0) (zi_210 rfl) rfl rfl ?_
      refine zo_iconst (p' := 12) (v := 1) (zi_210 rfl) rfl rfl ?_
      obtain ⟨x4, hx5, g14⟩ := zb_of g12
      refine zo_callVi (p' := 15) (t := 12) (as := [.int a1, .int 0, .int 1]) (r := []) (zi_210 rfl) rfl zl_19_239 rfl rfl (Or.inl ⟨by decide, rfl⟩) (Nat.le_of_ble_eq_true rfl) (Nat.le_of_ble_eq_true rfl) (f_147_ok hx5) (k_147 _ hx5) ?_
      by_cases hc6 : ¬ x4 = 0
      · rw [if_pos hc6] at g14
        refine zo_ifT (p' := 20) (zi_210 rfl) rfl hc6 ?_
        refine zo_aload_n (p' := 21) (zi_210 rfl) rfl rfl ?_
        obtain ⟨r7, hx8, g15⟩ := zb_of g14
        refine zo_getR (p' := 24) (zi_210 rfl) rfl zl_19_23 hx8 ?_
        refine zo_iload_n (p' := 25) (zi_210 rfl) rfl rfl ?_
        obtain ⟨q9, h0, g16⟩ := zb_of g15
        subst h0
        obtain ⟨x10, hx11, g17⟩ := zb_of g16
        refine zo_iald (p' := 26) (zi_210 rfl) rfl hx11 ?_
        refine zo_istore_n (p' := 27) (L' := [(0, zrf (some o)), (1, .int a0), (2, .int a1), (3, .int x10)]) (zi_210 rfl) rfl zm_210_3 ⟨Or.inr ⟨by decide, rfl, fun q => absurd q (by decide)⟩, ⟨Or.inr ⟨by decide, rfl, fun q => absurd q (by decide)⟩, ⟨Or.inr ⟨by decide, rfl, fun _ => rfl⟩, ⟨Or.inl ⟨rfl, rfl⟩, trivial⟩⟩⟩⟩ ?_
        refine zo_iconst (p' := 28) (v := 0) (zi_210 rfl) rfl rfl ?_
        refine zo_istore (p' := 30) (L' := [(0, zrf (some o)), (1, .int a0), (2, .int a1), (3, .int x10), (4, .int 0)]) (zi_210 rfl) rfl zm_210_4 ⟨Or.inr ⟨by decide, rfl, fun q => absurd q (by decide)⟩, ⟨Or.inr ⟨by decide, rfl, fun q => absurd q (by decide)⟩, ⟨Or.inr ⟨by decide, rfl, fun q => absurd q (by decide)⟩, ⟨Or.inr ⟨by decide, rfl, fun _ => rfl⟩, ⟨Or.inl ⟨rfl, rfl⟩, trivial⟩⟩⟩⟩⟩ ?_
        refine zo_bipush (p' := 32) (v := (-5)) (zi_210 rfl) rfl rfl ?_
        refine zo_istore (p' := 34) (L' := [(0, zrf (some o)), (1, .int a0), (2, .int a1), (3, .int x10), (4, .int 0), (5, .int ((-5)))]) (zi_210 rfl) rfl zm_210_5 ⟨Or.inr ⟨by decide, rfl, fun q => absurd q (by decide)⟩, ⟨Or.inr ⟨by decide, rfl, fun q => absurd q (by decide)⟩, ⟨Or.inr ⟨by decide, rfl, fun q => absurd q (by decide)⟩, ⟨Or.inr ⟨by decide, rfl, fun q => absurd q (by decide)⟩, ⟨Or.inr ⟨by decide, rfl, fun _ => rfl⟩, ⟨Or.inl ⟨rfl, rfl⟩, trivial⟩⟩⟩⟩⟩⟩ ?_
        refine zo_bipush (p' := 36) (v := 9) (zi_210 rfl) rfl rfl ?_
        refine zo_istore (p' := 38) (L' := [(0, zrf (some o)), (1, .int a0), (2, .int a1), (3, .int x10), (4, .int 0), (5, .int ((-5))), (6, .int 9)]) (zi_210 rfl) rfl zm_210_6 ⟨Or.inr ⟨by decide, rfl, fun q => absurd q (by decide)⟩, ⟨Or.inr ⟨by decide, rfl, fun q => absurd q (by decide)⟩, ⟨Or.inr ⟨by decide, rfl, fun q => absurd q (by decide)⟩, ⟨Or.inr ⟨by decide, rfl, fun q => absurd q (by decide)⟩, ⟨Or.inr ⟨by decide, rfl, fun q => absurd q (by decide)⟩, ⟨Or.inr ⟨by decide, rfl, fun _ => rfl⟩, ⟨Or.inl ⟨rfl, rfl⟩, trivial⟩⟩⟩⟩⟩⟩⟩ ?_
        refine zgo_sub (L' := [(0, zrf (some o)), (1, .int a0), (2, .int a1), (3, .int x10), (4, .int 0), (5, .int (((-5)))), (6, .int 9)]) (⟨rfl, rfl, rfl, rfl, rfl, rfl, rfl, trivial⟩) ?_
        exact k_210_38 _ zF M o a0 a1 x10 0 ((-5)) 9 _ g17
      · rw [if_neg hc6] at g14
        refine zo_ifF (p' := 18) (zi_210 rfl) rfl rfl hc6 ?_
        refine zo_iconst (p' := 19) (v := (-1)) (zi_210 rfl) rfl rfl ?_
        have g18 := Option.some.inj g14
        subst g18
        exact zo_iret (zi_210 rfl) rfl ⟨rfl, rfl⟩
  · rw [if_neg hok] at h; cases h
/-- SlateHalvesModel.divisor(II)I -/
def f_213_5 : Nat → ZMem → Int32 → Int32 → Option (Int32)
  | 0, _, _, _ => none
  | z + 1, M, b0, b1 => if b1 = 0 then (some b0) else (if b1 = 0 then none else f_213_5 z M b1 ((b0 - b0 / b1 * b1)))
set_option maxRecDepth 20000 in
theorem k_213_5 (d : Nat) : ∀ (z : Nat) (M : ZMem) (b0 : Int32) (b1 : Int32) (out : Int32), f_213_5 z M b0 b1 = some out → zgo none (d) 213 5 [(3, .int b0), (4, .int b1)] [] M (some (.int out), M) := by
  intro z
  induction z with
  | zero => intro M b0 b1 out h; cases h
  | succ z ih =>
    intro M b0 b1 out h
    rw [f_213_5] at h
    refine zo_iload (p' := 7) (zi_213 rfl) rfl rfl ?_
    by_cases hc1 : b1 = 0
    · rw [if_pos hc1] at h
      refine zo_ifT (p' := 26) (zi_213 rfl) rfl hc1 ?_
      refine zo_iload_n (p' := 27) (zi_213 rfl) rfl rfl ?_
      have g3 := Option.some.inj h
      subst g3
      exact zo_iret (zi_213 rfl) rfl ⟨rfl, rfl⟩
    · rw [if_neg hc1] at h
      refine zo_ifF (p' := 10) (zi_213 rfl) rfl rfl hc1 ?_
      refine zo_iload_n (p' := 11) (zi_213 rfl) rfl rfl ?_
      refine zo_iload (p' := 13) (zi_213 rfl) rfl rfl ?_
      by_cases hc2 : b1 = 0
      · rw [if_pos hc2] at h; cases h
      · rw [if_neg hc2] at h
        refine zo_irem (p' := 14) (zi_213 rfl) rfl hc2 ?_
        refine zo_istore (p' := 16) (L' := [(3, .int b0), (4, .int b1), (5, .int ((b0 - b0 / b1 * b1)))]) (zi_213 rfl) rfl zm_213_5 ⟨Or.inr ⟨by decide, rfl, fun q => absurd q (by decide)⟩, ⟨Or.inr ⟨by decide, rfl, fun _ => rfl⟩, ⟨Or.inl ⟨rfl, rfl⟩, trivial⟩⟩⟩ ?_
        refine zo_iload (p' := 18) (zi_213 rfl) rfl rfl ?_
        refine zo_istore_n (p' := 19) (L' := [(3, .int b1), (4, .int b1), (5, .int ((b0 - b0 / b1 * b1)))]) (zi_213 rfl) rfl zm_213_3 ⟨Or.inl ⟨rfl, rfl⟩, ⟨Or.inr ⟨by decide, rfl, fun q => absurd q (by decide)⟩, ⟨Or.inr ⟨by decide, rfl, fun q => absurd q (by decide)⟩, trivial⟩⟩⟩ ?_
        refine zo_iload (p' := 21) (zi_213 rfl) rfl rfl ?_
        refine zo_istore (p' := 23) (L' := [(3, .int b1), (4, .int ((b0 - b0 / b1 * b1))), (5, .int ((b0 - b0 / b1 * b1)))]) (zi_213 rfl) rfl zm_213_4 ⟨Or.inr ⟨by decide, rfl, fun _ => rfl⟩, ⟨Or.inl ⟨rfl, rfl⟩, ⟨Or.inr ⟨by decide, rfl, fun q => absurd q (by decide)⟩, trivial⟩⟩⟩ ?_
        refine zo_goto (p' := 5) (zi_213 rfl) rfl ?_
        refine zgo_sub (L' := [(3, .int b1), (4, .int (((b0 - b0 / b1 * b1))))]) (⟨rfl, rfl, trivial⟩) ?_
        exact ih M b1 ((b0 - b0 / b1 * b1)) _ h
def f_213 (M : ZMem) (o : Nat) (a0 : Int32) (a1 : Int32) : Option (Int32) := if zok M 12 o = true then (f_213_5 zF M a0 a1) else none
theorem f_213_ok {M : ZMem} {o : Nat} {a0 : Int32} {a1 : Int32} {out : Int32} (h : f_213 M o a0 a1 = some out) : zok M 12 o = true := by
  unfold f_213 at h
  by_cases hok : zok M 12 o = true
  · exact hok
  · rw [if_neg hok] at h; cases h
set_option maxRecDepth 20000 in
theorem k_213 (d : Nat) {M : ZMem} {o : Nat} {a0 : Int32} {a1 : Int32} {out : Int32} (h : f_213 M o a0 a1 = some out) : zrn (d) 213 [zrf (some o), .int a0, .int a1] M (some (.int out), M) := by
  unfold f_213 at h
  by_cases hok : zok M 12 o = true
  · rw [if_pos hok] at h
    refine zrn_of (L := [(0, zrf (some o)), (1, .int a0), (2, .int a1)]) rfl ?_
    refine zo_iload_n (p' := 1) (zi_213 rfl) rfl rfl ?_
    refine zo_istore_n (p' := 2) (L' := [(0, zrf (some o)), (1, .int a0), (2, .int a1), (3, .int a0)]) (zi_213 rfl) rfl zm_213_3 ⟨Or.inr ⟨by decide, rfl, fun q => absurd q (by decide)⟩, ⟨Or.inr ⟨by decide, rfl, fun q => absurd q (by decide)⟩, ⟨Or.inr ⟨by decide, rfl, fun _ => rfl⟩, ⟨Or.inl ⟨rfl, rfl⟩, trivial⟩⟩⟩⟩ ?_
    refine zo_iload_n (p' := 3) (zi_213 rfl) rfl rfl ?_
    refine zo_istore (p' := 5) (L' := [(0, zrf (some o)), (1, .int a0), (2, .int a1), (3, .int a0), (4, .int a1)]) (zi_213 rfl) rfl zm_213_4 ⟨Or.inr ⟨by decide, rfl, fun q => absurd q (by decide)⟩, ⟨Or.inr ⟨by decide, rfl, fun q => absurd q (by decide)⟩, ⟨Or.inr ⟨by decide, rfl, fun q => absurd q (by decide)⟩, ⟨Or.inr ⟨by decide, rfl, fun _ => rfl⟩, ⟨Or.inl ⟨rfl, rfl⟩, trivial⟩⟩⟩⟩⟩ ?_
    refine zgo_sub (L' := [(3, .int a0), (4, .int a1)]) (⟨rfl, rfl, trivial⟩) ?_
    exact k_213_5 _ zF M a0 a1 _ h
  · rw [if_neg hok] at h; cases h
/-- SlateHalvesModel.lowest(III)J -/
def f_212 (M : ZMem) (o : Nat) (a0 : Int32) (a1 : Int32) (a2 : Int32) : Option (Int64) := if zok M 12 o = true then (zb (f_213 M o a0 a1) fun x1 => if ¬ a2 = 0 then (if x1 = 0 then none else some (Int32.toInt64 (a1 / x1))) else (if x1 = 0 then none else some (Int32.toInt64 (a0 / x1)))) else none
theorem f_212_ok {M : ZMem} {o : Nat} {a0 : Int32} {a1 : Int32} {a2 : Int32} {out : Int64} (h : f_212 M o a0 a1 a2 = some out) : zok M 12 o = true := by
  unfold f_212 at h
  by_cases hok : zok M 12 o = true
  · exact hok
  · rw [if_neg hok] at h; cases h
set_option maxRecDepth 20000 in
theorem k_212 (d : Nat) {M : ZMem} {o : Nat} {a0 : Int32} {a1 : Int32} {a2 : Int32} {out : Int64} (h : f_212 M o a0 a1 a2 = some out) : zrn (d + 1) 212 [zrf (some o), .int a0, .int a1, .int a2] M (some (.long out), M) := by
  unfold f_212 at h
  by_cases hok : zok M 12 o = true
  · rw [if_pos hok] at h
    refine zrn_of (L := [(0, zrf (some o)), (1, .int a0), (2, .int a1), (3, .int a2)]) rfl ?_
    refine zo_aload_n (p' := 1) (zi_212 rfl) rfl rfl ?_
    refine zo_iload_n (p' := 2) (zi_212 rfl) rfl rfl ?_
    refine zo_iload_n (p' := 3) (zi_212 rfl) rfl rfl ?_
    obtain ⟨x1, hx2, g6⟩ := zb_of h
    refine zo_callVi (p' := 6) (t := 12) (as := [.int a0, .int a1]) (r := []) (zi_212 rfl) rfl zl_19_394 rfl rfl (Or.inl ⟨by decide, rfl⟩) (Nat.le_of_ble_eq_true rfl) (Nat.le_of_ble_eq_true rfl) (f_213_ok hx2) (k_213 _ hx2) ?_
    refine zo_istore (p' := 8) (L' := [(0, zrf (some o)), (1, .int a0), (2, .int a1), (3, .int a2), (4, .int x1)]) (zi_212 rfl) rfl zm_212_4 ⟨Or.inr ⟨by decide, rfl, fun q => absurd q (by decide)⟩, ⟨Or.inr ⟨by decide, rfl, fun q => absurd q (by decide)⟩, ⟨Or.inr ⟨by decide, rfl, fun q => absurd q (by decide)⟩, ⟨Or.inr ⟨by decide, rfl, fun _ => rfl⟩, ⟨Or.inl ⟨rfl, rfl⟩, trivial⟩⟩⟩⟩⟩ ?_
    refine zo_iload_n (p' := 9) (zi_212 rfl) rfl rfl ?_
    by_cases hc3 : ¬ a2 = 0
    · rw [if_pos hc3] at g6
      refine zo_ifT (p' := 20) (zi_212 rfl) rfl hc3 ?_
      refine zo_iload_n (p' := 21) (zi_212 rfl) rfl rfl ?_
      refine zo_iload (p' := 23) (zi_212 rfl) rfl rfl ?_
      by_cases hc4 : x1 = 0
      · rw [if_pos hc4] at g6; cases g6
      · rw [if_neg hc4] at g6
        refine zo_idiv (p' := 24) (zi_212 rfl) rfl hc4 ?_
        refine zo_i2l (p' := 25) (zi_212 rfl) rfl ?_
        have g7 := Option.some.inj g6
        subst g7
        exact zo_lret (zi_212 rfl) rfl
    · rw [if_neg hc3] at g6
      refine zo_ifF (p' := 12) (zi_212 rfl) rfl rfl hc3 ?_
      refine zo_iload_n (p' := 13) (zi_212 rfl) rfl rfl ?_
      refine zo_iload (p' := 15) (zi_212 rfl) rfl rfl ?_
      by_cases hc5 : x1 = 0
      · rw [if_pos hc5] at g6; cases g6
      · rw [if_neg hc5] at g6
        refine zo_idiv (p' := 16) (zi_212 rfl) rfl hc5 ?_
        refine zo_i2l (p' := 17) (zi_212 rfl) rfl ?_
        refine zo_goto (p' := 25) (zi_212 rfl) rfl ?_
        have g8 := Option.some.inj g6
        subst g8
        exact zo_lret (zi_212 rfl) rfl
  · rw [if_neg hok] at h; cases h
/-- SlateHalvesModel.odds(II)J -/
def f_211_70 (r37 : ZMem → Nat → Int32 → Int32 → Int32 → Int32 → Option (Int64)) (M : ZMem) (o : Nat) (b1 : Int32) (b2 : Int32) (b3 : Int32) (b4 : Int32) (b5 : Int32) : Option (Int64) := r37 M o b1 b2 ((b5 + b4)) ((b3 + 1))
def f_211_37 : Nat → ZMem → Nat → Int32 → Int32 → Int32 → Int32 → Option (Int64)
  | 0, _, _, _, _, _, _ => none
  | z + 1, M, o, b1, b2, b3, b4 => zb (zgr M 12 5 o) fun r21 => zb r21 fun q23 => zb (zai M q23 b1) fun x24 => if x24 ≤ b4 then (zb (zgr M 12 5 o) fun r27 => zb r27 fun q29 => zb (zai M q29 b1) fun x30 => zb (f_212 M o b3 ((x30 - 1)) b2) fun x32 => some x32) else (zb (zgr M 12 5 o) fun r34 => zb r34 fun q36 => zb (zai M q36 b1) fun x37 => zb (f_183 M o b1 x37 b4) fun x39 => if x39 = 0 then (f_211_70 (fun M a0 a1 a2 a3 a4 => f_211_37 z M a0 a1 a2 a3 a4) M o b1 b2 b4 0 b3) else (f_211_70 (fun M a0 a1 a2 a3 a4 => f_211_37 z M a0 a1 a2 a3 a4) M o b1 b2 b4 1 b3))
set_option maxRecDepth 20000 in
theorem k_211_70 (d : Nat) (r37 : ZMem → Nat → Int32 → Int32 → Int32 → Int32 → Option (Int64)) (h37 : ∀ (M : ZMem) (a0 : Nat) (a1 : Int32) (a2 : Int32) (a3 : Int32) (a4 : Int32) (out : Int64), r37 M a0 a1 a2 a3 a4 = some out → zgo none (d + 4) 211 37 [(0, zrf (some a0)), (1, .int a1), (2, .int a2), (3, .int a3), (4, .int a4)] [] M (some (.long out), M)) : ∀ (M : ZMem) (o : Nat) (b1 : Int32) (b2 : Int32) (b3 : Int32) (b4 : Int32) (b5 : Int32) (out : Int64), f_211_70 r37 M o b1 b2 b3 b4 b5 = some out → zgo none (d + 4) 211 70 [(0, zrf (some o)), (1, .int b1), (2, .int b2), (4, .int b3)] [.int b4, .int b5] M (some (.long out), M) := by
  intro M o b1 b2 b3 b4 b5 out h
  unfold f_211_70 at h
  refine zo_iadd (p' := 71) (zi_211 rfl) rfl ?_
  refine zo_istore_n (p' := 72) (L' := [(0, zrf (some o)), (1, .int b1), (2, .int b2), (3, .int ((b5 + b4))), (4, .int b3)]) (zi_211 rfl) rfl zm_211_3 ⟨Or.inr ⟨by decide, rfl, fun q => absurd q (by decide)⟩, ⟨Or.inr ⟨by decide, rfl, fun q => absurd q (by decide)⟩, ⟨Or.inr ⟨by decide, rfl, fun _ => rfl⟩, ⟨Or.inl ⟨rfl, rfl⟩, ⟨Or.inr ⟨by decide, rfl, fun q => absurd q (by decide)⟩, trivial⟩⟩⟩⟩⟩ ?_
  refine zo_iinc (p' := 75) (v := (b3 + 1)) (L' := [(0, zrf (some o)), (1, .int b1), (2, .int b2), (3, .int ((b5 + b4))), (4, .int ((b3 + 1)))]) (zi_211 rfl) rfl zm_211_4 rfl rfl ⟨Or.inr ⟨by decide, rfl, fun q => absurd q (by decide)⟩, ⟨Or.inr ⟨by decide, rfl, fun q => absurd q (by decide)⟩, ⟨Or.inr ⟨by decide, rfl, fun q => absurd q (by decide)⟩, ⟨Or.inr ⟨by decide, rfl, fun _ => rfl⟩, ⟨Or.inl ⟨rfl, rfl⟩, trivial⟩⟩⟩⟩⟩ ?_
  refine zo_goto (p' := 37) (zi_211 rfl) rfl ?_
  refine zgo_sub (L' := [(0, zrf (some o)), (1, .int b1), (2, .int b2), (3, .int (((b5 + b4)))), (4, .int (((b3 + 1))))]) (⟨rfl, rfl, rfl, rfl, rfl, trivial⟩) ?_
  exact h37 M o b1 b2 ((b5 + b4)) ((b3 + 1)) _ h
set_option maxRecDepth 20000 in
theorem k_211_37 (d : Nat) : ∀ (z : Nat) (M : ZMem) (o : Nat) (b1 : Int32) (b2 : Int32) (b3 : Int32) (b4 : Int32) (out : Int64), f_211_37 z M o b1 b2 b3 b4 = some out → zgo none (d + 4) 211 37 [(0, zrf (some o)), (1, .int b1), (2, .int b2), (3, .int b3), (4, .int b4)] [] M (some (.long out), M) := by
  intro z
  induction z with
  | zero => intro M o b1 b2 b3 b4 out h; cases h
  | succ z ih =>
    intro M o b1 b2 b3 b4 out h
    rw [f_211_37] at h
    refine zo_iload (p' := 39) (zi_211 rfl) rfl rfl ?_
    refine zo_aload_n (p' := 40) (zi_211 rfl) rfl rfl ?_
    obtain ⟨r21, hx22, g42⟩ := zb_of h
    refine zo_getR (p' := 43) (zi_211 rfl) rfl zl_19_26 hx22 ?_
    refine zo_iload_n (p' := 44) (zi_211 rfl) rfl rfl ?_
    obtain ⟨q23, h0, g43⟩ := zb_of g42
    subst h0
    obtain ⟨x24, hx25, g44⟩ := zb_of g43
    refine zo_iald (p' := 45) (zi_211 rfl) rfl hx25 ?_
    by_cases hc26 : x24 ≤ b4
    · rw [if_pos hc26] at g44
      refine zo_icT (p' := 78) (zi_211 rfl) rfl hc26 ?_
      refine zo_aload_n (p' := 79) (zi_211 rfl) rfl rfl ?_
      refine zo_iload_n (p' := 80) (zi_211 rfl) rfl rfl ?_
      refine zo_aload_n (p' := 81) (zi_211 rfl) rfl rfl ?_
      obtain ⟨r27, hx28, g45⟩ := zb_of g44
      refine zo_getR (p' := 84) (zi_211 rfl) rfl zl_19_26 hx28 ?_
      refine zo_iload_n (p' := 85) (zi_211 rfl) rfl rfl ?_
      obtain ⟨q29, h0, g46⟩ := zb_of g45
      subst h0
      obtain ⟨x30, hx31, g47⟩ := zb_of g46
      refine zo_iald (p' := 86) (zi_211 rfl) rfl hx31 ?_
      refine zo_iconst (p' := 87) (v := 1) (zi_211 rfl) rfl rfl ?_
      refine zo_isub (p' := 88) (zi_211 rfl) rfl ?_
      refine zo_iload_n (p' := 89) (zi_211 rfl) rfl rfl ?_
      obtain ⟨x32, hx33, g48⟩ := zb_of g47
      refine zo_callVl (p' := 92) (t := 12) (as := [.int b3, .int ((x30 - 1)), .int b2]) (r := []) (zi_211 rfl) rfl zl_19_399 rfl rfl (Or.inl ⟨by decide, rfl⟩) (Nat.le_of_ble_eq_true rfl) (Nat.le_of_ble_eq_true rfl) (f_212_ok hx33) (k_212 _ hx33) ?_
      have g49 := Option.some.inj g48
      subst g49
      exact zo_lret (zi_211 rfl) rfl
    · rw [if_neg hc26] at g44
      refine zo_icF (p' := 48) (zi_211 rfl) rfl rfl hc26 ?_
      refine zo_iload_n (p' := 49) (zi_211 rfl) rfl rfl ?_
      refine zo_aload_n (p' := 50) (zi_211 rfl) rfl rfl ?_
      refine zo_iload_n (p' := 51) (zi_211 rfl) rfl rfl ?_
      refine zo_aload_n (p' := 52) (zi_211 rfl) rfl rfl ?_
      obtain ⟨r34, hx35, g50⟩ := zb_of g44
      refine zo_getR (p' := 55) (zi_211 rfl) rfl zl_19_26 hx35 ?_
      refine zo_iload_n (p' := 56) (zi_211 rfl) rfl rfl ?_
      obtain ⟨q36, h0, g51⟩ := zb_of g50
      subst h0
      obtain ⟨x37, hx38, g52⟩ := zb_of g51
      refine zo_iald (p' := 57) (zi_211 rfl) rfl hx38 ?_
      refine zo_iload (p' := 59) (zi_211 rfl) rfl rfl ?_
      obtain ⟨x39, hx40, g53⟩ := zb_of g52
      refine zo_callVi (p' := 62) (t := 12) (as := [.int b1, .int x37, .int b4]) (r := [.int b3]) (zi_211 rfl) rfl zl_19_331 rfl rfl (Or.inl ⟨by decide, rfl⟩) (Nat.le_of_ble_eq_true rfl) (Nat.le_of_ble_eq_true rfl) (f_183_ok hx40) (k_183 _ hx40) ?_
      by_cases hc41 : x39 = 0
      · rw [if_pos hc41] at g53
        refine zo_ifT (p' := 69) (zi_211 rfl) rfl hc41 ?_
        refine zo_iconst (p' := 70) (v := 0) (zi_211 rfl) rfl rfl ?_
        refine zgo_sub (L' := [(0, zrf (some o)), (1, .int b1), (2, .int b2), (4, .int b4)]) (⟨rfl, rfl, rfl, rfl, trivial⟩) ?_
        exact k_211_70 _ _ (fun M a0 a1 a2 a3 a4 out h => ih M a0 a1 a2 a3 a4 out h) M o b1 b2 b4 0 b3 _ g53
      · rw [if_neg hc41] at g53
        refine zo_ifF (p' := 65) (zi_211 rfl) rfl rfl hc41 ?_
        refine zo_iconst (p' := 66) (v := 1) (zi_211 rfl) rfl rfl ?_
        refine zo_goto (p' := 70) (zi_211 rfl) rfl ?_
        refine zgo_sub (L' := [(0, zrf (some o)), (1, .int b1), (2, .int b2), (4, .int b4)]) (⟨rfl, rfl, rfl, rfl, trivial⟩) ?_
        exact k_211_70 _ _ (fun M a0 a1 a2 a3 a4 out h => ih M a0 a1 a2 a3 a4 out h) M o b1 b2 b4 1 b3 _ g53
def f_211 (M : ZMem) (o : Nat) (a0 : Int32) (a1 : Int32) : Option (Int64) := if zok M 12 o = true then (zb (f_149 M o a0) fun x1 => if x1 = 0 then (some (-9223372036854775808)) else (zb (f_147 M o a1 0 1) fun x4 => if x4 = 0 then (some (-9223372036854775808)) else (zb (zgr M 12 5 o) fun r7 => zb r7 fun q9 => zb (zai M q9 a0) fun x10 => if 2 ≤ x10 then (f_211_37 zF M o a0 a1 0 1) else (some (-9223372036854775808))))) else none
theorem f_211_ok {M : ZMem} {o : Nat} {a0 : Int32} {a1 : Int32} {out : Int64} (h : f_211 M o a0 a1 = some out) : zok M 12 o = true := by
  unfold f_211 at h
  by_cases hok : zok M 12 o = true
  · exact hok
  · rw [if_neg hok] at h; cases h
set_option maxRecDepth 20000 in
theorem k_211 (d : Nat) {M : ZMem} {o : Nat} {a0 : Int32} {a1 : Int32} {out : Int64} (h : f_211 M o a0 a1 = some out) : zrn (d + 4) 211 [zrf (some o), .int a0, .int a1] M (some (.long out), M) := by
  unfold f_211 at h
  by_cases hok : zok M 12 o = true
  · rw [if_pos hok] at h
    refine zrn_of (L := [(0, zrf (some o)), (1, .int a0), (2, .int a1)]) rfl ?_
    refine zo_aload_n (p' := 1) (zi_211 rfl) rfl rfl ?_
    refine zo_iload_n (p' := 2) (zi_211 rfl) rfl rfl ?_
    obtain ⟨x1, hx2, g13⟩ := zb_of h
    refine zo_callVi (p' := 5) (t := 12) (as := [.int a0]) (r := []) (zi_211 rfl) rfl zl_19_243 rfl rfl (Or.inl ⟨by decide, rfl⟩) (Nat.le_of_ble_eq_true rfl) (Nat.le_of_ble_eq_true rfl) (f_149_ok hx2) (k_149 _ hx2) ?_
    by_cases hc3 : x1 = 0
    · rw [if_pos hc3] at g13
      refine zo_ifT (p' := 28) (zi_211 rfl) rfl hc3 ?_
      refine zo_ldc2 (p' := 31) (v := (-9223372036854775808)) (zi_211 rfl) rfl rfl ?_
      have g14 := Option.some.inj g13
      subst g14
      exact zo_lret (zi_211 rfl) rfl
    · rw [if_neg hc3] at g13
      refine zo_ifF (p' := 8) (zi_211 rfl) rfl rfl hc3 ?_
      refine zo_aload_n (p' := 9) (zi_211 rfl) rfl rfl ?_
      refine zo_iload_n (p' := 10) (zi_211 rfl) rfl rfl ?_
      refine zo_iconst (p' := 11) (v := 0) (zi_211 rfl) rfl rfl ?_
      refine zo_iconst (p' := 12) (v := 1) (zi_211 rfl) rfl rfl ?_
      obtain ⟨x4, hx5, g15⟩ := zb_of g13
      refine zo_callVi (p' := 15) (t := 12) (as := [.int a1, .int 0, .int 1]) (r := []) (zi_211 rfl) rfl zl_19_239 rfl rfl (Or.inl ⟨by decide, rfl⟩) (Nat.le_of_ble_eq_true rfl) (Nat.le_of_ble_eq_true rfl) (f_147_ok hx5) (k_147 _ hx5) ?_
      by_cases hc6 : x4 = 0
      · rw [if_pos hc6] at g15
        refine zo_ifT (p' := 28) (zi_211 rfl) rfl hc6 ?_
        refine zo_ldc2 (p' := 31) (v := (-9223372036854775808)) (zi_211 rfl) rfl rfl ?_
        have g16 := Option.some.inj g15
        subst g16
        exact zo_lret (zi_211 rfl) rfl
      · rw [if_neg hc6] at g15
        refine zo_ifF (p' := 18) (zi_211 rfl) rfl rfl hc6 ?_
        refine zo_aload_n (p' := 19) (zi_211 rfl) rfl rfl ?_
        obtain ⟨r7, hx8, g17⟩ := zb_of g15
        refine zo_getR (p' := 22) (zi_211 rfl) rfl zl_19_26 hx8 ?_
        refine zo_iload_n (p' := 23) (zi_211 rfl) rfl rfl ?_
        obtain ⟨q9, h0, g18⟩ := zb_of g17
        subst h0
        obtain ⟨x10, hx11, g19⟩ := zb_of g18
        refine zo_iald (p' := 24) (zi_211 rfl) rfl hx11 ?_
        refine zo_iconst (p' := 25) (v := 2) (zi_211 rfl) rfl rfl ?_
        by_cases hc12 : 2 ≤ x10
        · rw [if_pos hc12] at g19
          refine zo_icT (p' := 32) (zi_211 rfl) rfl hc12 ?_
          refine zo_iconst (p' := 33) (v := 0) (zi_211 rfl) rfl rfl ?_
          refine zo_istore_n (p' := 34) (L' := [(0, zrf (some o)), (1, .int a0), (2, .int a1), (3, .int 0)]) (zi_211 rfl) rfl zm_211_3 ⟨Or.inr ⟨by decide, rfl, fun q => absurd q (by decide)⟩, ⟨Or.inr ⟨by decide, rfl, fun q => absurd q (by decide)⟩, ⟨Or.inr ⟨by decide, rfl, fun _ => rfl⟩, ⟨Or.inl ⟨rfl, rfl⟩, trivial⟩⟩⟩⟩ ?_
          refine zo_iconst (p' := 35) (v := 1) (zi_211 rfl) rfl rfl ?_
          refine zo_istore (p' := 37) (L' := [(0, zrf (some o)), (1, .int a0), (2, .int a1), (3, .int 0), (4, .int 1)]) (zi_211 rfl) rfl zm_211_4 ⟨Or.inr ⟨by decide, rfl, fun q => absurd q (by decide)⟩, ⟨Or.inr ⟨by decide, rfl, fun q => absurd q (by decide)⟩, ⟨Or.inr ⟨by decide, rfl, fun q => absurd q (by decide)⟩, ⟨Or.inr ⟨by decide, rfl, fun _ => rfl⟩, ⟨Or.inl ⟨rfl, rfl⟩, trivial⟩⟩⟩⟩⟩ ?_
          refine zgo_sub (L' := [(0, zrf (some o)), (1, .int a0), (2, .int a1), (3, .int 0), (4, .int 1)]) (⟨rfl, rfl, rfl, rfl, rfl, trivial⟩) ?_
          exact k_211_37 _ zF M o a0 a1 0 1 _ g19
        · rw [if_neg hc12] at g19
          refine zo_icF (p' := 28) (zi_211 rfl) rfl rfl hc12 ?_
          refine zo_ldc2 (p' := 31) (v := (-9223372036854775808)) (zi_211 rfl) rfl rfl ?_
          have g20 := Option.some.inj g19
          subst g20
          exact zo_lret (zi_211 rfl) rfl
  · rw [if_neg hok] at h; cases h
/-- SlateHalvesModel.mean(I)J -/
def f_214_32 (r7 : ZMem → Nat → Int32 → Int32 → Int32 → Int32 → Option (Int64)) (M : ZMem) (o : Nat) (b1 : Int32) (b2 : Int32) (b3 : Int32) (b4 : Int32) (b5 : Int32) : Option (Int64) := zb (zgr M 12 5 o) fun r25 => zb r25 fun q27 => zb (zai M q27 b3) fun x28 => r7 M o b1 ((b5 + b4)) ((b2 + x28)) ((b3 + 1))
def f_214_7 : Nat → ZMem → Nat → Int32 → Int32 → Int32 → Int32 → Option (Int64)
  | 0, _, _, _, _, _, _ => none
  | z + 1, M, o, b1, b2, b3, b4 => zb (zgi M 12 0 o) fun x1 => if x1 ≤ b4 then (zb (f_147 M o b1 0 1) fun x4 => if x4 = 0 then (some (-9223372036854775808)) else (if b2 ≤ 0 then (some (-9223372036854775808)) else (zb (f_212 M o b3 b2 b1) fun x8 => some x8))) else (zb (zgr M 12 5 o) fun r10 => zb r10 fun q12 => zb (zai M q12 b4) fun x13 => if x13 ≤ 0 then (f_214_32 (fun M a0 a1 a2 a3 a4 => f_214_7 z M a0 a1 a2 a3 a4) M o b1 b3 b4 0 b2) else (f_214_32 (fun M a0 a1 a2 a3 a4 => f_214_7 z M a0 a1 a2 a3 a4) M o b1 b3 b4 1 b2))
set_option maxRecDepth 20000 in
theorem k_214_32 (d : Nat) (r7 : ZMem → Nat → Int32 → Int32 → Int32 → Int32 → Option (Int64)) (h7 : ∀ (M : ZMem) (a0 : Nat) (a1 : Int32) (a2 : Int32) (a3 : Int32) (a4 : Int32) (out : Int64), r7 M a0 a1 a2 a3 a4 = some out → zgo none (d + 2) 214 7 [(0, zrf (some a0)), (1, .int a1), (2, .int a2), (3, .int a3), (4, .int a4)] [] M (some (.long out), M)) : ∀ (M : ZMem) (o : Nat) (b1 : Int32) (b2 : Int32) (b3 : Int32) (b4 : Int32) (b5 : Int32) (out : Int64), f_214_32 r7 M o b1 b2 b3 b4 b5 = some out → zgo none (d + 2) 214 32 [(0, zrf (some o)), (1, .int b1), (3, .int b2), (4, .int b3)] [.int b4, .int b5] M (some (.long out), M) := by
  intro M o b1 b2 b3 b4 b5 out h
  unfold f_214_32 at h
  refine zo_iadd (p' := 33) (zi_214 rfl) rfl ?_
  refine zo_istore_n (p' := 34) (L' := [(0, zrf (some o)), (1, .int b1), (2, .int ((b5 + b4))), (3, .int b2), (4, .int b3)]) (zi_214 rfl) rfl zm_214_2 ⟨Or.inr ⟨by decide, rfl, fun q => absurd q (by decide)⟩, ⟨Or.inr ⟨by decide, rfl, fun _ => rfl⟩, ⟨Or.inl ⟨rfl, rfl⟩, ⟨Or.inr ⟨by decide, rfl, fun q => absurd q (by decide)⟩, ⟨Or.inr ⟨by decide, rfl, fun q => absurd q (by decide)⟩, trivial⟩⟩⟩⟩⟩ ?_
  refine zo_iload_n (p' := 35) (zi_214 rfl) rfl rfl ?_
  refine zo_aload_n (p' := 36) (zi_214 rfl) rfl rfl ?_
  obtain ⟨r25, hx26, g30⟩ := zb_of h
  refine zo_getR (p' := 39) (zi_214 rfl) rfl zl_19_26 hx26 ?_
  refine zo_iload (p' := 41) (zi_214 rfl) rfl rfl ?_
  obtain ⟨q27, h0, g31⟩ := zb_of g30
  subst h0
  obtain ⟨x28, hx29, g32⟩ := zb_of g31
  refine zo_iald (p' := 42) (zi_214 rfl) rfl hx29 ?_
  refine zo_iadd (p' := 43) (zi_214 rfl) rfl ?_
  refine zo_istore_n (p' := 44) (L' := [(0, zrf (some o)), (1, .int b1), (2, .int ((b5 + b4))), (3, .int ((b2 + x28))), (4, .int b3)]) (zi_214 rfl) rfl zm_214_3 ⟨Or.inr ⟨by decide, rfl, fun q => absurd q (by decide)⟩, ⟨Or.inr ⟨by decide, rfl, fun q => absurd q (by decide)⟩, ⟨Or.inr ⟨by decide, rfl, fun _ => rfl⟩, ⟨Or.inl ⟨rfl, rfl⟩, ⟨Or.inr ⟨by decide, rfl, fun q => absurd q (by decide)⟩, trivial⟩⟩⟩⟩⟩ ?_
  refine zo_iinc (p' := 47) (v := (b3 + 1)) (L' := [(0, zrf (some o)), (1, .int b1), (2, .int ((b5 + b4))), (3, .int ((b2 + x28))), (4, .int ((b3 + 1)))]) (zi_214 rfl) rfl zm_214_4 rfl rfl ⟨Or.inr ⟨by decide, rfl, fun q => absurd q (by decide)⟩, ⟨Or.inr ⟨by decide, rfl, fun q => absurd q (by decide)⟩, ⟨Or.inr ⟨by decide, rfl, fun q => absurd q (by decide)⟩, ⟨Or.inr ⟨by decide, rfl, fun _ => rfl⟩, ⟨Or.inl ⟨rfl, rfl⟩, trivial⟩⟩⟩⟩⟩ ?_
  refine zo_goto (p' := 7) (zi_214 rfl) rfl ?_
  refine zgo_sub (L' := [(0, zrf (some o)), (1, .int b1), (2, .int (((b5 + b4)))), (3, .int (((b2 + x28)))), (4, .int (((b3 + 1))))]) (⟨rfl, rfl, rfl, rfl, rfl, trivial⟩) ?_
  exact h7 M o b1 ((b5 + b4)) ((b2 + x28)) ((b3 + 1)) _ g32
set_option maxRecDepth 20000 in
theorem k_214_7 (d : Nat) : ∀ (z : Nat) (M : ZMem) (o : Nat) (b1 : Int32) (b2 : Int32) (b3 : Int32) (b4 : Int32) (out : Int64), f_214_7 z M o b1 b2 b3 b4 = some out → zgo none (d + 2) 214 7 [(0, zrf (some o)), (1, .int b1), (2, .int b2), (3, .int b3), (4, .int b4)] [] M (some (.long out), M) := by
  intro z
  induction z with
  | zero => intro M o b1 b2 b3 b4 out h; cases h
  | succ z ih =>
    intro M o b1 b2 b3 b4 out h
    rw [f_214_7] at h
    refine zo_iload (p' := 9) (zi_214 rfl) rfl rfl ?_
    refine zo_aload_n (p' := 10) (zi_214 rfl) rfl rfl ?_
    obtain ⟨x1, hx2, g16⟩ := zb_of h
    refine zo_getI (p' := 13) (zi_214 rfl) rfl zl_19_7 hx2 ?_
    by_cases hc3 : x1 ≤ b4
    · rw [if_pos hc3] at g16
      refine zo_icT (p' := 50) (zi_214 rfl) rfl hc3 ?_
      refine zo_aload_n (p' := 51) (zi_214 rfl) rfl rfl ?_
      refine zo_iload_n (p' := 52) (zi_214 rfl) rfl rfl ?_
      refine zo_iconst (p' := 53) (v := 0) (zi_214 rfl) rfl rfl ?_
      refine zo_iconst (p' := 54) (v := 1) (zi_214 rfl) rfl rfl ?_
      obtain ⟨x4, hx5, g17⟩ := zb_of g16
      refine zo_callVi (p' := 57) (t := 12) (as := [.int b1, .int 0, .int 1]) (r := []) (zi_214 rfl) rfl zl_19_239 rfl rfl (Or.inl ⟨by decide, rfl⟩) (Nat.le_of_ble_eq_true rfl) (Nat.le_of_ble_eq_true rfl) (f_147_ok hx5) (k_147 _ hx5) ?_
      by_cases hc6 : x4 = 0
      · rw [if_pos hc6] at g17
        refine zo_ifT (p' := 74) (zi_214 rfl) rfl hc6 ?_
        refine zo_ldc2 (p' := 77) (v := (-9223372036854775808)) (zi_214 rfl) rfl rfl ?_
        have g18 := Option.some.inj g17
        subst g18
        exact zo_lret (zi_214 rfl) rfl
      · rw [if_neg hc6] at g17
        refine zo_ifF (p' := 60) (zi_214 rfl) rfl rfl hc6 ?_
        refine zo_iload_n (p' := 61) (zi_214 rfl) rfl rfl ?_
        by_cases hc7 : b2 ≤ 0
        · rw [if_pos hc7] at g17
          refine zo_ifT (p' := 74) (zi_214 rfl) rfl hc7 ?_
          refine zo_ldc2 (p' := 77) (v := (-9223372036854775808)) (zi_214 rfl) rfl rfl ?_
          have g19 := Option.some.inj g17
          subst g19
          exact zo_lret (zi_214 rfl) rfl
        · rw [if_neg hc7] at g17
          refine zo_ifF (p' := 64) (zi_214 rfl) rfl rfl hc7 ?_
          refine zo_aload_n (p' := 65) (zi_214 rfl) rfl rfl ?_
          refine zo_iload_n (p' := 66) (zi_214 rfl) rfl rfl ?_
          refine zo_iload_n (p' := 67) (zi_214 rfl) rfl rfl ?_
          refine zo_iload_n (p' := 68) (zi_214 rfl) rfl rfl ?_
          obtain ⟨x8, hx9, g20⟩ := zb_of g17
          refine zo_callVl (p' := 71) (t := 12) (as := [.int b3, .int b2, .int b1]) (r := []) (zi_214 rfl) rfl zl_19_399 rfl rfl (Or.inl ⟨by decide, rfl⟩) (Nat.le_of_ble_eq_true rfl) (Nat.le_of_ble_eq_true rfl) (f_212_ok hx9) (k_212 _ hx9) ?_
          refine zo_goto (p' := 77) (zi_214 rfl) rfl ?_
          have g21 := Option.some.inj g20
          subst g21
          exact zo_lret (zi_214 rfl) rfl
    · rw [if_neg hc3] at g16
      refine zo_icF (p' := 16) (zi_214 rfl) rfl rfl hc3 ?_
      refine zo_iload_n (p' := 17) (zi_214 rfl) rfl rfl ?_
      refine zo_aload_n (p' := 18) (zi_214 rfl) rfl rfl ?_
      obtain ⟨r10, hx11, g22⟩ := zb_of g16
      refine zo_getR (p' := 21) (zi_214 rfl) rfl zl_19_26 hx11 ?_
      refine zo_iload (p' := 23) (zi_214 rfl) rfl rfl ?_
      obtain ⟨q12, h0, g23⟩ := zb_of g22
      subst h0
      obtain ⟨x13, hx14, g24⟩ := zb_of g23
      refine zo_iald (p' := 24) (zi_214 rfl) rfl hx14 ?_
      by_cases hc15 : x13 ≤ 0
      · rw [if_pos hc15] at g24
        refine zo_ifT (p' := 31) (zi_214 rfl) rfl hc15 ?_
        refine zo_iconst (p' := 32) (v := 0) (zi_214 rfl) rfl rfl ?_
        refine zgo_sub (L' := [(0, zrf (some o)), (1, .int b1), (3, .int b3), (4, .int b4)]) (⟨rfl, rfl, rfl, rfl, trivial⟩) ?_
        exact k_214_32 _ _ (fun M a0 a1 a2 a3 a4 out h => ih M a0 a1 a2 a3 a4 out h) M o b1 b3 b4 0 b2 _ g24
      · rw [if_neg hc15] at g24
        refine zo_ifF (p' := 27) (zi_214 rfl) rfl rfl hc15 ?_
        refine zo_iconst (p' := 28) (v := 1) (zi_214 rfl) rfl rfl ?_
        refine zo_goto (p' := 32) (zi_214 rfl) rfl ?_
        refine zgo_sub (L' := [(0, zrf (some o)), (1, .int b1), (3, .int b3), (4, .int b4)]) (⟨rfl, rfl, rfl, rfl, trivial⟩) ?_
        exact k_214_32 _ _ (fun M a0 a1 a2 a3 a4 out h => ih M a0 a1 a2 a3 a4 out h) M o b1 b3 b4 1 b2 _ g24
def f_214 (M : ZMem) (o : Nat) (a0 : Int32) : Option (Int64) := if zok M 12 o = true then (f_214_7 zF M o a0 0 0 0) else none
theorem f_214_ok {M : ZMem} {o : Nat} {a0 : Int32} {out : Int64} (h : f_214 M o a0 = some out) : zok M 12 o = true := by
  unfold f_214 at h
  by_cases hok : zok M 12 o = true
  · exact hok
  · rw [if_neg hok] at h; cases h
set_option maxRecDepth 20000 in
theorem k_214 (d : Nat) {M : ZMem} {o : Nat} {a0 : Int32} {out : Int64} (h : f_214 M o a0 = some out) : zrn (d + 2) 214 [zrf (some o), .int a0] M (some (.long out), M) := by
  unfold f_214 at h
  by_cases hok : zok M 12 o = true
  · rw [if_pos hok] at h
    refine zrn_of (L := [(0, zrf (some o)), (1, .int a0)]) rfl ?_
    refine zo_iconst (p' := 1) (v := 0) (zi_214 rfl) rfl rfl ?_
    refine zo_istore_n (p' := 2) (L' := [(0, zrf (some o)), (1, .int a0), (2, .int 0)]) (zi_214 rfl) rfl zm_214_2 ⟨Or.inr ⟨by decide, rfl, fun q => absurd q (by decide)⟩, ⟨Or.inr ⟨by decide, rfl, fun _ => rfl⟩, ⟨Or.inl ⟨rfl, rfl⟩, trivial⟩⟩⟩ ?_
    refine zo_iconst (p' := 3) (v := 0) (zi_214 rfl) rfl rfl ?_
    refine zo_istore_n (p' := 4) (L' := [(0, zrf (some o)), (1, .int a0), (2, .int 0), (3, .int 0)]) (zi_214 rfl) rfl zm_214_3 ⟨Or.inr ⟨by decide, rfl, fun q => absurd q (by decide)⟩, ⟨Or.inr ⟨by decide, rfl, fun q => absurd q (by decide)⟩, ⟨Or.inr ⟨by decide, rfl, fun _ => rfl⟩, ⟨Or.inl ⟨rfl, rfl⟩, trivial⟩⟩⟩⟩ ?_
    refine zo_iconst (p' := 5) (v := 0) (zi_214 rfl) rfl rfl ?_
    refine zo_istore (p' := 7) (L' := [(0, zrf (some o)), (1, .int a0), (2, .int 0), (3, .int 0), (4, .int 0)]) (zi_214 rfl) rfl zm_214_4 ⟨Or.inr ⟨by decide, rfl, fun q => absurd q (by decide)⟩, ⟨Or.inr ⟨by decide, rfl, fun q => absurd q (by decide)⟩, ⟨Or.inr ⟨by decide, rfl, fun q => absurd q (by decide)⟩, ⟨Or.inr ⟨by decide, rfl, fun _ => rfl⟩, ⟨Or.inl ⟨rfl, rfl⟩, trivial⟩⟩⟩⟩⟩ ?_
    refine zgo_sub (L' := [(0, zrf (some o)), (1, .int a0), (2, .int 0), (3, .int 0), (4, .int 0)]) (⟨rfl, rfl, rfl, rfl, rfl, trivial⟩) ?_
    exact k_214_7 _ zF M o a0 0 0 0 _ h
  · rw [if_neg hok] at h; cases h
/-- SlateHalvesModel.week(II)I -/
def f_215_75 (M : ZMem) (o : Nat) (b1 : Int32) (b2 : Int32) (b3 : Option Nat) : Option (Int32 × ZMem) := zb b3 fun q40 => zb (zsa M 20 q40 b2 b1) fun M41 => zb (zgi M41 12 42 o) fun x43 => zb (zpf M41 12 42 o (.int ((x43 + 1))) false) fun M45 => zb (zgi M45 12 42 o) fun x47 => some (x47, M45)
def f_215_36 (M : ZMem) (o : Nat) (b1 : Int32) (b2 : Int32) : Option (Int32 × ZMem) := zb (zgi M 12 42 o) fun x17 => if ¬ x17 = 10 then (zb (zgr M 12 44 o) fun r20 => zb (zgi M 12 42 o) fun x22 => zb r20 fun q24 => zb (zsa M 20 q24 x22 b1) fun M25 => zb (zgr M25 12 45 o) fun r27 => zb (zgi M25 12 42 o) fun x29 => if b1 ≤ 0 then (f_215_75 M25 o 0 x29 r27) else (f_215_75 M25 o b2 x29 r27)) else (some ((-4), M))
set_option maxRecDepth 20000 in
theorem k_215_75 (d : Nat) : ∀ (M : ZMem) (o : Nat) (b1 : Int32) (b2 : Int32) (b3 : Option Nat) (out : Int32 × ZMem), f_215_75 M o b1 b2 b3 = some out → zgo none (d + 2) 215 75 [(0, zrf (some o))] [.int b1, .int b2, zrf b3] M (some (.int out.1), out.2) := by
  intro M o b1 b2 b3 out h
  unfold f_215_75 at h
  obtain ⟨q40, h0, g49⟩ := zb_of h
  subst h0
  obtain ⟨M41, hx42, g50⟩ := zb_of g49
  refine zo_iast (p' := 76) (zi_215 rfl) rfl hx42 ?_
  refine zo_aload_n (p' := 77) (zi_215 rfl) rfl rfl ?_
  refine zo_dup (p' := 78) (zi_215 rfl) rfl (zrf_cat _) ?_
  obtain ⟨x43, hx44, g51⟩ := zb_of g50
  refine zo_getI (p' := 81) (zi_215 rfl) rfl zl_19_138 hx44 ?_
  refine zo_iconst (p' := 82) (v := 1) (zi_215 rfl) rfl rfl ?_
  refine zo_iadd (p' := 83) (zi_215 rfl) rfl ?_
  obtain ⟨M45, hx46, g52⟩ := zb_of g51
  refine zo_putI (p' := 86) (zi_215 rfl) rfl zl_19_138 (zpb_215 _) hx46 ?_
  refine zo_aload_n (p' := 87) (zi_215 rfl) rfl rfl ?_
  obtain ⟨x47, hx48, g53⟩ := zb_of g52
  refine zo_getI (p' := 90) (zi_215 rfl) rfl zl_19_138 hx48 ?_
  have g54 := Option.some.inj g53
  subst g54
  exact zo_iret (zi_215 rfl) rfl ⟨rfl, rfl⟩
set_option maxRecDepth 20000 in
theorem k_215_36 (d : Nat) : ∀ (M : ZMem) (o : Nat) (b1 : Int32) (b2 : Int32) (out : Int32 × ZMem), f_215_36 M o b1 b2 = some out → zgo none (d + 2) 215 36 [(0, zrf (some o)), (1, .int b1), (2, .int b2)] [] M (some (.int out.1), out.2) := by
  intro M o b1 b2 out h
  unfold f_215_36 at h
  refine zo_aload_n (p' := 37) (zi_215 rfl) rfl rfl ?_
  obtain ⟨x17, hx18, g32⟩ := zb_of h
  refine zo_getI (p' := 40) (zi_215 rfl) rfl zl_19_138 hx18 ?_
  refine zo_bipush (p' := 42) (v := 10) (zi_215 rfl) rfl rfl ?_
  by_cases hc19 : ¬ x17 = 10
  · rw [if_pos hc19] at g32
    refine zo_icT (p' := 48) (zi_215 rfl) rfl hc19 ?_
    refine zo_aload_n (p' := 49) (zi_215 rfl) rfl rfl ?_
    obtain ⟨r20, hx21, g33⟩ := zb_of g32
    refine zo_getR (p' := 52) (zi_215 rfl) rfl zl_19_144 hx21 ?_
    refine zo_aload_n (p' := 53) (zi_215 rfl) rfl rfl ?_
    obtain ⟨x22, hx23, g34⟩ := zb_of g33
    refine zo_getI (p' := 56) (zi_215 rfl) rfl zl_19_138 hx23 ?_
    refine zo_iload_n (p' := 57) (zi_215 rfl) rfl rfl ?_
    obtain ⟨q24, h0, g35⟩ := zb_of g34
    subst h0
    obtain ⟨M25, hx26, g36⟩ := zb_of g35
    refine zo_iast (p' := 58) (zi_215 rfl) rfl hx26 ?_
    refine zo_aload_n (p' := 59) (zi_215 rfl) rfl rfl ?_
    obtain ⟨r27, hx28, g37⟩ := zb_of g36
    refine zo_getR (p' := 62) (zi_215 rfl) rfl zl_19_147 hx28 ?_
    refine zo_aload_n (p' := 63) (zi_215 rfl) rfl rfl ?_
    obtain ⟨x29, hx30, g38⟩ := zb_of g37
    refine zo_getI (p' := 66) (zi_215 rfl) rfl zl_19_138 hx30 ?_
    refine zo_iload_n (p' := 67) (zi_215 rfl) rfl rfl ?_
    by_cases hc31 : b1 ≤ 0
    · rw [if_pos hc31] at g38
      refine zo_ifT (p' := 74) (zi_215 rfl) rfl hc31 ?_
      refine zo_iconst (p' := 75) (v := 0) (zi_215 rfl) rfl rfl ?_
      refine zgo_sub (L' := [(0, zrf (some o))]) (⟨rfl, trivial⟩) ?_
      exact k_215_75 _ M25 o 0 x29 r27 _ g38
    · rw [if_neg hc31] at g38
      refine zo_ifF (p' := 70) (zi_215 rfl) rfl rfl hc31 ?_
      refine zo_iload_n (p' := 71) (zi_215 rfl) rfl rfl ?_
      refine zo_goto (p' := 75) (zi_215 rfl) rfl ?_
      refine zgo_sub (L' := [(0, zrf (some o))]) (⟨rfl, trivial⟩) ?_
      exact k_215_75 _ M25 o b2 x29 r27 _ g38
  · rw [if_neg hc19] at g32
    refine zo_icF (p' := 45) (zi_215 rfl) rfl rfl hc19 ?_
    refine zo_bipush (p' := 47) (v := (-4)) (zi_215 rfl) rfl rfl ?_
    have g39 := Option.some.inj g32
    subst g39
    exact zo_iret (zi_215 rfl) rfl ⟨rfl, rfl⟩
def f_215 (M : ZMem) (o : Nat) (a0 : Int32) (a1 : Int32) : Option (Int32 × ZMem) := if zok M 12 o = true then (if ¬ a0 = (-1) then (zb (f_147 M o a0 0 2) fun x2 => if x2 = 0 then (some ((-1), M)) else (if a0 ≤ 0 then (f_215_36 M o a0 a1) else (zb (f_149 M o a1) fun x6 => if ¬ x6 = 0 then (f_215_36 M o a0 a1) else (some ((-1), M))))) else (zb (zpf M 12 42 o (.int 0) false) fun M9 => some (0, M9))) else none
theorem f_215_ok {M : ZMem} {o : Nat} {a0 : Int32} {a1 : Int32} {out : Int32 × ZMem} (h : f_215 M o a0 a1 = some out) : zok M 12 o = true := by
  unfold f_215 at h
  by_cases hok : zok M 12 o = true
  · exact hok
  · rw [if_neg hok] at h; cases h
set_option maxRecDepth 20000 in
theorem k_215 (d : Nat) {M : ZMem} {o : Nat} {a0 : Int32} {a1 : Int32} {out : Int32 × ZMem} (h : f_215 M o a0 a1 = some out) : zrn (d + 2) 215 [zrf (some o), .int a0, .int a1] M (some (.int out.1), out.2) := by
  unfold f_215 at h
  by_cases hok : zok M 12 o = true
  · rw [if_pos hok] at h
    refine zrn_of (L := [(0, zrf (some o)), (1, .int a0), (2, .int a1)]) rfl ?_
    refine zo_iload_n (p' := 1) (zi_215 rfl) rfl rfl ?_
    refine zo_iconst (p' := 2) (v := (-1)) (zi_215 rfl) rfl rfl ?_
    by_cases hc1 : ¬ a0 = (-1)
    · rw [if_pos hc1] at h
      refine zo_icT (p' := 12) (zi_215 rfl) rfl hc1 ?_
      refine zo_aload_n (p' := 13) (zi_215 rfl) rfl rfl ?_
      refine zo_iload_n (p' := 14) (zi_215 rfl) rfl rfl ?_
      refine zo_iconst (p' := 15) (v := 0) (zi_215 rfl) rfl rfl ?_
      refine zo_iconst (p' := 16) (v := 2) (zi_215 rfl) rfl rfl ?_
      obtain ⟨x2, hx3, g11⟩ := zb_of h
      refine zo_callVi (p' := 19) (t := 12) (as := [.int a0, .int 0, .int 2]) (r := []) (zi_215 rfl) rfl zl_19_239 rfl rfl (Or.inl ⟨by decide, rfl⟩) (Nat.le_of_ble_eq_true rfl) (Nat.le_of_ble_eq_true rfl) (f_147_ok hx3) (k_147 _ hx3) ?_
      by_cases hc4 : x2 = 0
      · rw [if_pos hc4] at g11
        refine zo_ifT (p' := 34) (zi_215 rfl) rfl hc4 ?_
        refine zo_iconst (p' := 35) (v := (-1)) (zi_215 rfl) rfl rfl ?_
        have g12 := Option.some.inj g11
        subst g12
        exact zo_iret (zi_215 rfl) rfl ⟨rfl, rfl⟩
      · rw [if_neg hc4] at g11
        refine zo_ifF (p' := 22) (zi_215 rfl) rfl rfl hc4 ?_
        refine zo_iload_n (p' := 23) (zi_215 rfl) rfl rfl ?_
        by_cases hc5 : a0 ≤ 0
        · rw [if_pos hc5] at g11
          refine zo_ifT (p' := 36) (zi_215 rfl) rfl hc5 ?_
          refine zgo_sub (L' := [(0, zrf (some o)), (1, .int a0), (2, .int a1)]) (⟨rfl, rfl, rfl, trivial⟩) ?_
          exact k_215_36 _ M o a0 a1 _ g11
        · rw [if_neg hc5] at g11
          refine zo_ifF (p' := 26) (zi_215 rfl) rfl rfl hc5 ?_
          refine zo_aload_n (p' := 27) (zi_215 rfl) rfl rfl ?_
          refine zo_iload_n (p' := 28) (zi_215 rfl) rfl rfl ?_
          obtain ⟨x6, hx7, g13⟩ := zb_of g11
          refine zo_callVi (p' := 31) (t := 12) (as := [.int a1]) (r := []) (zi_215 rfl) rfl zl_19_243 rfl rfl (Or.inl ⟨by decide, rfl⟩) (Nat.le_of_ble_eq_true rfl) (Nat.le_of_ble_eq_true rfl) (f_149_ok hx7) (k_149 _ hx7) ?_
          by_cases hc8 : ¬ x6 = 0
          · rw [if_pos hc8] at g13
            refine zo_ifT (p' := 36) (zi_215 rfl) rfl hc8 ?_
            refine zgo_sub (L' := [(0, zrf (some o)), (1, .int a0), (2, .int a1)]) (⟨rfl, rfl, rfl, trivial⟩) ?_
            exact k_215_36 _ M o a0 a1 _ g13
          · rw [if_neg hc8] at g13
            refine zo_ifF (p' := 34) (zi_215 rfl) rfl rfl hc8 ?_
            refine zo_iconst (p' := 35) (v := (-1)) (zi_215 rfl) rfl rfl ?_
            have g14 := Option.some.inj g13
            subst g14
            exact zo_iret (zi_215 rfl) rfl ⟨rfl, rfl⟩
    · rw [if_neg hc1] at h
      refine zo_icF (p' := 5) (zi_215 rfl) rfl rfl hc1 ?_
      refine zo_aload_n (p' := 6) (zi_215 rfl) rfl rfl ?_
      refine zo_iconst (p' := 7) (v := 0) (zi_215 rfl) rfl rfl ?_
      obtain ⟨M9, hx10, g15⟩ := zb_of h
      refine zo_putI (p' := 10) (zi_215 rfl) rfl zl_19_138 (zpb_215 _) hx10 ?_
      refine zo_iconst (p' := 11) (v := 0) (zi_215 rfl) rfl rfl ?_
      have g16 := Option.some.inj g15
      subst g16
      exact zo_iret (zi_215 rfl) rfl ⟨rfl, rfl⟩
  · rw [if_neg hok] at h; cases h
/-- SlateHalvesModel.ends(I)I -/
def f_216_95 (r20 : ZMem → Nat → Int32 → Int32 → Int32 → Option (Int32 × ZMem)) (M : ZMem) (o : Nat) (b1 : Int32) (b2 : Int32) (b3 : Int32) : Option (Int32 × ZMem) := r20 M o b1 b2 ((b3 + 1))
def f_216_85 (r20 : ZMem → Nat → Int32 → Int32 → Int32 → Option (Int32 × ZMem)) (M : ZMem) (o : Nat) (b1 : Int32) (b2 : Int32) (b3 : Int32) (b4 : Int32) (b5 : Int32) : Option (Int32 × ZMem) := zb (zgr M 12 5 o) fun r80 => zb r80 fun q82 => zb (zsa M 20 q82 b3 0) fun M83 => f_216_95 (fun M a0 a1 a2 a3 => r20 M a0 a1 a2 a3) M83 o b1 ((b5 + b4)) b2
def f_216_131 (r106 : ZMem → Nat → Int32 → Int32 → Int32 → Int32 → Option (Int32 × ZMem)) (M : ZMem) (o : Nat) (b1 : Int32) (b2 : Int32) (b3 : Int32) (b4 : Int32) (b5 : Int32) : Option (Int32 × ZMem) := r106 M o b1 b2 ((b5 + b4)) ((b3 + 1))
def f_216_106 : Nat → ZMem → Nat → Int32 → Int32 → Int32 → Int32 → Option (Int32 × ZMem)
  | 0, _, _, _, _, _, _ => none
  | z + 1, M, o, b1, b2, b3, b4 => zb (zgi M 12 0 o) fun x60 => if x60 ≤ b4 then (zb (f_199 M o) fun M65 => if ¬ b1 = 0 then (some (b3, M65)) else (some (b2, M65))) else (zb (zgr M 12 5 o) fun r67 => zb r67 fun q69 => zb (zai M q69 b4) fun x70 => if x70 ≤ 0 then (f_216_131 (fun M a0 a1 a2 a3 a4 => f_216_106 z M a0 a1 a2 a3 a4) M o b1 b2 b4 0 b3) else (f_216_131 (fun M a0 a1 a2 a3 a4 => f_216_106 z M a0 a1 a2 a3 a4) M o b1 b2 b4 1 b3))
def f_216_20 : Nat → ZMem → Nat → Int32 → Int32 → Int32 → Option (Int32 × ZMem)
  | 0, _, _, _, _, _ => none
  | z + 1, M, o, b1, b2, b3 => zb (zgi M 12 42 o) fun x10 => if x10 ≤ b3 then (f_216_106 zF M o b1 b2 0 0) else (zb (zgr M 12 45 o) fun r13 => zb r13 fun q15 => zb (zai M q15 b3) fun x16 => zb (zgr M 12 44 o) fun r18 => zb r18 fun q20 => zb (zai M q20 b3) fun x21 => if ¬ x21 = 0 then (zb (zgr M 12 44 o) fun r24 => zb r24 fun q26 => zb (zai M q26 b3) fun x27 => if ¬ x27 = 1 then (zbd (f_189 M o x16) fun x30 M32 => f_216_85 (fun M a0 a1 a2 a3 => f_216_20 z M a0 a1 a2 a3) M32 o b1 b3 x16 x30 b2) else (zb (zgr M 12 5 o) fun r33 => zb r33 fun q35 => zb (zai M q35 x16) fun x36 => zbd (f_177 M o x16 x36) fun x38 M40 => f_216_85 (fun M a0 a1 a2 a3 => f_216_20 z M a0 a1 a2 a3) M40 o b1 b3 x16 x38 b2)) else (zb (f_196 M o) fun M43 => f_216_95 (fun M a0 a1 a2 a3 => f_216_20 z M a0 a1 a2 a3) M43 o b1 b2 b3))
set_option maxRecDepth 20000 in
theorem k_216_95 (d : Nat) (r20 : ZMem → Nat → Int32 → Int32 → Int32 → Option (Int32 × ZMem)) (h20 : ∀ (M : ZMem) (a0 : Nat) (a1 : Int32) (a2 : Int32) (a3 : Int32) (out : Int32 × ZMem), r20 M a0 a1 a2 a3 = some out → zgo none (d + 7) 216 20 [(0, zrf (some a0)), (1, .int a1), (2, .int a2), (3, .int a3)] [] M (some (.int out.1), out.2)) : ∀ (M : ZMem) (o : Nat) (b1 : Int32) (b2 : Int32) (b3 : Int32) (out : Int32 × ZMem), f_216_95 r20 M o b1 b2 b3 = some out → zgo none (d + 7) 216 95 [(0, zrf (some o)), (1, .int b1), (2, .int b2), (3, .int b3)] [] M (some (.int out.1), out.2) := by
  intro M o b1 b2 b3 out h
  unfold f_216_95 at h
  refine zo_iinc (p' := 98) (v := (b3 + 1)) (L' := [(0, zrf (some o)), (1, .int b1), (2, .int b2), (3, .int ((b3 + 1)))]) (zi_216 rfl) rfl zm_216_3 rfl rfl ⟨Or.inr ⟨by decide, rfl, fun q => absurd q (by decide)⟩, ⟨Or.inr ⟨by decide, rfl, fun q => absurd q (by decide)⟩, ⟨Or.inr ⟨by decide, rfl, fun _ => rfl⟩, ⟨Or.inl ⟨rfl, rfl⟩, trivial⟩⟩⟩⟩ ?_
  refine zo_goto (p' := 20) (zi_216 rfl) rfl ?_
  refine zgo_sub (L' := [(0, zrf (some o)), (1, .int b1), (2, .int b2), (3, .int (((b3 + 1))))]) (⟨rfl, rfl, rfl, rfl, trivial⟩) ?_
  exact h20 M o b1 b2 ((b3 + 1)) _ h
set_option maxRecDepth 20000 in
theorem k_216_85 (d : Nat) (r20 : ZMem → Nat → Int32 → Int32 → Int32 → Option (Int32 × ZMem)) (h20 : ∀ (M : ZMem) (a0 : Nat) (a1 : Int32) (a2 : Int32) (a3 : Int32) (out : Int32 × ZMem), r20 M a0 a1 a2 a3 = some out → zgo none (d + 7) 216 20 [(0, zrf (some a0)), (1, .int a1), (2, .int a2), (3, .int a3)] [] M (some (.int out.1), out.2)) : ∀ (M : ZMem) (o : Nat) (b1 : Int32) (b2 : Int32) (b3 : Int32) (b4 : Int32) (b5 : Int32) (out : Int32 × ZMem), f_216_85 r20 M o b1 b2 b3 b4 b5 = some out → zgo none (d + 7) 216 85 [(0, zrf (some o)), (1, .int b1), (3, .int b2), (4, .int b3)] [.int b4, .int b5] M (some (.int out.1), out.2) := by
  intro M o b1 b2 b3 b4 b5 out h
  unfold f_216_85 at h
  refine zo_iadd (p' := 86) (zi_216 rfl) rfl ?_
  refine zo_istore_n (p' := 87) (L' := [(0, zrf (some o)), (1, .int b1), (2, .int ((b5 + b4))), (3, .int b2), (4, .int b3)]) (zi_216 rfl) rfl zm_216_2 ⟨Or.inr ⟨by decide, rfl, fun q => absurd q (by decide)⟩, ⟨Or.inr ⟨by decide, rfl, fun _ => rfl⟩, ⟨Or.inl ⟨rfl, rfl⟩, ⟨Or.inr ⟨by decide, rfl, fun q => absurd q (by decide)⟩, ⟨Or.inr ⟨by decide, rfl, fun q => absurd q (by decide)⟩, trivial⟩⟩⟩⟩⟩ ?_
  refine zo_aload_n (p' := 88) (zi_216 rfl) rfl rfl ?_
  obtain ⟨r80, hx81, g85⟩ := zb_of h
  refine zo_getR (p' := 91) (zi_216 rfl) rfl zl_19_26 hx81 ?_
  refine zo_iload (p' := 93) (zi_216 rfl) rfl rfl ?_
  refine zo_iconst (p' := 94) (v := 0) (zi_216 rfl) rfl rfl ?_
  obtain ⟨q82, h0, g86⟩ := zb_of g85
  subst h0
  obtain ⟨M83, hx84, g87⟩ := zb_of g86
  refine zo_iast (p' := 95) (zi_216 rfl) rfl hx84 ?_
  refine zgo_sub (L' := [(0, zrf (some o)), (1, .int b1), (2, .int (((b5 + b4)))), (3, .int b2)]) (⟨rfl, rfl, rfl, rfl, trivial⟩) ?_
  exact k_216_95 _ _ (fun M a0 a1 a2 a3 out h => h20 M a0 a1 a2 a3 out h) M83 o b1 ((b5 + b4)) b2 _ g87
set_option maxRecDepth 20000 in
theorem k_216_131 (d : Nat) (r106 : ZMem → Nat → Int32 → Int32 → Int32 → Int32 → Option (Int32 × ZMem)) (h106 : ∀ (M : ZMem) (a0 : Nat) (a1 : Int32) (a2 : Int32) (a3 : Int32) (a4 : Int32) (out : Int32 × ZMem), r106 M a0 a1 a2 a3 a4 = some out → zgo none (d + 7) 216 106 [(0, zrf (some a0)), (1, .int a1), (2, .int a2), (3, .int a3), (4, .int a4)] [] M (some (.int out.1), out.2)) : ∀ (M : ZMem) (o : Nat) (b1 : Int32) (b2 : Int32) (b3 : Int32) (b4 : Int32) (b5 : Int32) (out : Int32 × ZMem), f_216_131 r106 M o b1 b2 b3 b4 b5 = some out → zgo none (d + 7) 216 131 [(0, zrf (some o)), (1, .int b1), (2, .int b2), (4, .int b3)] [.int b4, .int b5] M (some (.int out.1), out.2) := by
  intro M o b1 b2 b3 b4 b5 out h
  unfold f_216_131 at h
  refine zo_iadd (p' := 132) (zi_216 rfl) rfl ?_
  refine zo_istore_n (p' := 133) (L' := [(0, zrf (some o)), (1, .int b1), (2, .int b2), (3, .int ((b5 + b4))), (4, .int b3)]) (zi_216 rfl) rfl zm_216_3 ⟨Or.inr ⟨by decide, rfl, fun q => absurd q (by decide)⟩, ⟨Or.inr ⟨by decide, rfl, fun q => absurd q (by decide)⟩, ⟨Or.inr ⟨by decide, rfl, fun _ => rfl⟩, ⟨Or.inl ⟨rfl, rfl⟩, ⟨Or.inr ⟨by decide, rfl, fun q => absurd q (by decide)⟩, trivial⟩⟩⟩⟩⟩ ?_
  refine zo_iinc (p' := 136) (v := (b3 + 1)) (L' := [(0, zrf (some o)), (1, .int b1), (2, .int b2), (3, .int ((b5 + b4))), (4, .int ((b3 + 1)))]) (zi_216 rfl) rfl zm_216_4 rfl rfl ⟨Or.inr ⟨by decide, rfl, fun q => absurd q (by decide)⟩, ⟨Or.inr ⟨by decide, rfl, fun q => absurd q (by decide)⟩, ⟨Or.inr ⟨by decide, rfl, fun q => absurd q (by decide)⟩, ⟨Or.inr ⟨by decide, rfl, fun _ => rfl⟩, ⟨Or.inl ⟨rfl, rfl⟩, trivial⟩⟩⟩⟩⟩ ?_
  refine zo_goto (p' := 106) (zi_216 rfl) rfl ?_
  refine zgo_sub (L' := [(0, zrf (some o)), (1, .int b1), (2, .int b2), (3, .int (((b5 + b4)))), (4, .int (((b3 + 1))))]) (⟨rfl, rfl, rfl, rfl, rfl, trivial⟩) ?_
  exact h106 M o b1 b2 ((b5 + b4)) ((b3 + 1)) _ h
set_option maxRecDepth 20000 in
theorem k_216_106 (d : Nat) : ∀ (z : Nat) (M : ZMem) (o : Nat) (b1 : Int32) (b2 : Int32) (b3 : Int32) (b4 : Int32) (out : Int32 × ZMem), f_216_106 z M o b1 b2 b3 b4 = some out → zgo none (d + 7) 216 106 [(0, zrf (some o)), (1, .int b1), (2, .int b2), (3, .int b3), (4, .int b4)] [] M (some (.int out.1), out.2) := by
  intro z
  induction z with
  | zero => intro M o b1 b2 b3 b4 out h; cases h
  | succ z ih =>
    intro M o b1 b2 b3 b4 out h
    rw [f_216_106] at h
    refine zo_iload (p' := 108) (zi_216 rfl) rfl rfl ?_
    refine zo_aload_n (p' := 109) (zi_216 rfl) rfl rfl ?_
    obtain ⟨x60, hx61, g73⟩ := zb_of h
    refine zo_getI (p' := 112) (zi_216 rfl) rfl zl_19_7 hx61 ?_
    by_cases hc62 : x60 ≤ b4
    · rw [if_pos hc62] at g73
      refine zo_icT (p' := 139) (zi_216 rfl) rfl hc62 ?_
      refine zo_aload_n (p' := 140) (zi_216 rfl) rfl rfl ?_
      obtain ⟨M65, hx64, g74⟩ := zb_of g73
      refine zo_callVv (p' := 143) (t := 12) (as := []) (r := []) (zi_216 rfl) rfl zl_19_372 rfl rfl (Or.inl ⟨by decide, rfl⟩) (Nat.le_of_ble_eq_true rfl) (Nat.le_of_ble_eq_true rfl) (f_199_ok hx64) (k_199 _ hx64) ?_
      refine zo_iload_n (p' := 144) (zi_216 rfl) rfl rfl ?_
      by_cases hc66 : ¬ b1 = 0
      · rw [if_pos hc66] at g74
        refine zo_ifT (p' := 151) (zi_216 rfl) rfl hc66 ?_
        refine zo_iload_n (p' := 152) (zi_216 rfl) rfl rfl ?_
        have g75 := Option.some.inj g74
        subst g75
        exact zo_iret (zi_216 rfl) rfl ⟨rfl, rfl⟩
      · rw [if_neg hc66] at g74
        refine zo_ifF (p' := 147) (zi_216 rfl) rfl rfl hc66 ?_
        refine zo_iload_n (p' := 148) (zi_216 rfl) rfl rfl ?_
        refine zo_goto (p' := 152) (zi_216 rfl) rfl ?_
        have g76 := Option.some.inj g74
        subst g76
        exact zo_iret (zi_216 rfl) rfl ⟨rfl, rfl⟩
    · rw [if_neg hc62] at g73
      refine zo_icF (p' := 115) (zi_216 rfl) rfl rfl hc62 ?_
      refine zo_iload_n (p' := 116) (zi_216 rfl) rfl rfl ?_
      refine zo_aload_n (p' := 117) (zi_216 rfl) rfl rfl ?_
      obtain ⟨r67, hx68, g77⟩ := zb_of g73
      refine zo_getR (p' := 120) (zi_216 rfl) rfl zl_19_26 hx68 ?_
      refine zo_iload (p' := 122) (zi_216 rfl) rfl rfl ?_
      obtain ⟨q69, h0, g78⟩ := zb_of g77
      subst h0
      obtain ⟨x70, hx71, g79⟩ := zb_of g78
      refine zo_iald (p' := 123) (zi_216 rfl) rfl hx71 ?_
      by_cases hc72 : x70 ≤ 0
      · rw [if_pos hc72] at g79
        refine zo_ifT (p' := 130) (zi_216 rfl) rfl hc72 ?_
        refine zo_iconst (p' := 131) (v := 0) (zi_216 rfl) rfl rfl ?_
        refine zgo_sub (L' := [(0, zrf (some o)), (1, .int b1), (2, .int b2), (4, .int b4)]) (⟨rfl, rfl, rfl, rfl, trivial⟩) ?_
        exact k_216_131 _ _ (fun M a0 a1 a2 a3 a4 out h => ih M a0 a1 a2 a3 a4 out h) M o b1 b2 b4 0 b3 _ g79
      · rw [if_neg hc72] at g79
        refine zo_ifF (p' := 126) (zi_216 rfl) rfl rfl hc72 ?_
        refine zo_iconst (p' := 127) (v := 1) (zi_216 rfl) rfl rfl ?_
        refine zo_goto (p' := 131) (zi_216 rfl) rfl ?_
        refine zgo_sub (L' := [(0, zrf (some o)), (1, .int b1), (2, .int b2), (4, .int b4)]) (⟨rfl, rfl, rfl, rfl, trivial⟩) ?_
        exact k_216_131 _ _ (fun M a0 a1 a2 a3 a4 out h => ih M a0 a1 a2 a3 a4 out h) M o b1 b2 b4 1 b3 _ g79
set_option maxRecDepth 20000 in
theorem k_216_20 (d : Nat) : ∀ (z : Nat) (M : ZMem) (o : Nat) (b1 : Int32) (b2 : Int32) (b3 : Int32) (out : Int32 × ZMem), f_216_20 z M o b1 b2 b3 = some out → zgo none (d + 7) 216 20 [(0, zrf (some o)), (1, .int b1), (2, .int b2), (3, .int b3)] [] M (some (.int out.1), out.2) := by
  intro z
  induction z with
  | zero => intro M o b1 b2 b3 out h; cases h
  | succ z ih =>
    intro M o b1 b2 b3 out h
    rw [f_216_20] at h
    refine zo_iload_n (p' := 21) (zi_216 rfl) rfl rfl ?_
    refine zo_aload_n (p' := 22) (zi_216 rfl) rfl rfl ?_
    obtain ⟨x10, hx11, g44⟩ := zb_of h
    refine zo_getI (p' := 25) (zi_216 rfl) rfl zl_19_138 hx11 ?_
    by_cases hc12 : x10 ≤ b3
    · rw [if_pos hc12] at g44
      refine zo_icT (p' := 101) (zi_216 rfl) rfl hc12 ?_
      refine zo_iconst (p' := 102) (v := 0) (zi_216 rfl) rfl rfl ?_
      refine zo_istore_n (p' := 103) (L' := [(0, zrf (some o)), (1, .int b1), (2, .int b2), (3, .int 0)]) (zi_216 rfl) rfl zm_216_3 ⟨Or.inr ⟨by decide, rfl, fun q => absurd q (by decide)⟩, ⟨Or.inr ⟨by decide, rfl, fun q => absurd q (by decide)⟩, ⟨Or.inr ⟨by decide, rfl, fun _ => rfl⟩, ⟨Or.inl ⟨rfl, rfl⟩, trivial⟩⟩⟩⟩ ?_
      refine zo_iconst (p' := 104) (v := 0) (zi_216 rfl) rfl rfl ?_
      refine zo_istore (p' := 106) (L' := [(0, zrf (some o)), (1, .int b1), (2, .int b2), (3, .int 0), (4, .int 0)]) (zi_216 rfl) rfl zm_216_4 ⟨Or.inr ⟨by decide, rfl, fun q => absurd q (by decide)⟩, ⟨Or.inr ⟨by decide, rfl, fun q => absurd q (by decide)⟩, ⟨Or.inr ⟨by decide, rfl, fun q => absurd q (by decide)⟩, ⟨Or.inr ⟨by decide, rfl, fun _ => rfl⟩, ⟨Or.inl ⟨rfl, rfl⟩, trivial⟩⟩⟩⟩⟩ ?_
      refine zgo_sub (L' := [(0, zrf (some o)), (1, .int b1), (2, .int b2), (3, .int 0), (4, .int 0)]) (⟨rfl, rfl, rfl, rfl, rfl, trivial⟩) ?_
      exact k_216_106 _ zF M o b1 b2 0 0 _ g44
    · rw [if_neg hc12] at g44
      refine zo_icF (p' := 28) (zi_216 rfl) rfl rfl hc12 ?_
      refine zo_aload_n (p' := 29) (zi_216 rfl) rfl rfl ?_
      obtain ⟨r13, hx14, g45⟩ := zb_of g44
      refine zo_getR (p' := 32) (zi_216 rfl) rfl zl_19_147 hx14 ?_
      refine zo_iload_n (p' := 33) (zi_216 rfl) rfl rfl ?_
      obtain ⟨q15, h0, g46⟩ := zb_of g45
      subst h0
      obtain ⟨x16, hx17, g47⟩ := zb_of g46
      refine zo_iald (p' := 34) (zi_216 rfl) rfl hx17 ?_
      refine zo_istore (p' := 36) (L' := [(0, zrf (some o)), (1, .int b1), (2, .int b2), (3, .int b3), (4, .int x16)]) (zi_216 rfl) rfl zm_216_4 ⟨Or.inr ⟨by decide, rfl, fun q => absurd q (by decide)⟩, ⟨Or.inr ⟨by decide, rfl, fun q => absurd q (by decide)⟩, ⟨Or.inr ⟨by decide, rfl, fun q => absurd q (by decide)⟩, ⟨Or.inr ⟨by decide, rfl, fun _ => rfl⟩, ⟨Or.inl ⟨rfl, rfl⟩, trivial⟩⟩⟩⟩⟩ ?_
      refine zo_aload_n (p' := 37) (zi_216 rfl) rfl rfl ?_
      obtain ⟨r18, hx19, g48⟩ := zb_of g47
      refine zo_getR (p' := 40) (zi_216 rfl) rfl zl_19_144 hx19 ?_
      refine zo_iload_n (p' := 41) (zi_216 rfl) rfl rfl ?_
      obtain ⟨q20, h0, g49⟩ := zb_of g48
      subst h0
      obtain ⟨x21, hx22, g50⟩ := zb_of g49
      refine zo_iald (p' := 42) (zi_216 rfl) rfl hx22 ?_
      by_cases hc23 : ¬ x21 = 0
      · rw [if_pos hc23] at g50
        refine zo_ifT (p' := 52) (zi_216 rfl) rfl hc23 ?_
        refine zo_iload_n (p' := 53) (zi_216 rfl) rfl rfl ?_
        refine zo_aload_n (p' := 54) (zi_216 rfl) rfl rfl ?_
        obtain ⟨r24, hx25, g51⟩ := zb_of g50
        refine zo_getR (p' := 57) (zi_216 rfl) rfl zl_19_144 hx25 ?_
        refine zo_iload_n (p' := 58) (zi_216 rfl) rfl rfl ?_
        obtain ⟨q26, h0, g52⟩ := zb_of g51
        subst h0
        obtain ⟨x27, hx28, g53⟩ := zb_of g52
        refine zo_iald (p' := 59) (zi_216 rfl) rfl hx28 ?_
        refine zo_iconst (p' := 60) (v := 1) (zi_216 rfl) rfl rfl ?_
        by_cases hc29 : ¬ x27 = 1
        · rw [if_pos hc29] at g53
          refine zo_icT (p' := 79) (zi_216 rfl) rfl hc29 ?_
          refine zo_aload_n (p' := 80) (zi_216 rfl) rfl rfl ?_
          refine zo_iload (p' := 82) (zi_216 rfl) rfl rfl ?_
          obtain ⟨x30, M32, hx31, g54⟩ := zbd_of g53
          refine zo_callVi (p' := 85) (t := 12) (as := [.int x16]) (r := [.int b2]) (zi_216 rfl) rfl zl_19_353 rfl rfl (Or.inl ⟨by decide, rfl⟩) (Nat.le_of_ble_eq_true rfl) (Nat.le_of_ble_eq_true rfl) (f_189_ok hx31) (k_189 _ hx31) ?_
          refine zgo_sub (L' := [(0, zrf (some o)), (1, .int b1), (3, .int b3), (4, .int x16)]) (⟨rfl, rfl, rfl, rfl, trivial⟩) ?_
          exact k_216_85 _ _ (fun M a0 a1 a2 a3 out h => ih M a0 a1 a2 a3 out h) M32 o b1 b3 x16 x30 b2 _ g54
        · rw [if_neg hc29] at g53
          refine zo_icF (p' := 63) (zi_216 rfl) rfl rfl hc29 ?_
          refine zo_aload_n (p' := 64) (zi_216 rfl) rfl rfl ?_
          refine zo_iload (p' := 66) (zi_216 rfl) rfl rfl ?_
          refine zo_aload_n (p' := 67) (zi_216 rfl) rfl rfl ?_
          obtain ⟨r33, hx34, g55⟩ := zb_of g53
          refine zo_getR (p' := 70) (zi_216 rfl) rfl zl_19_26 hx34 ?_
          refine zo_iload (p' := 72) (zi_216 rfl) rfl rfl ?_
          obtain ⟨q35, h0, g56⟩ := zb_of g55
          subst h0
          obtain ⟨x36, hx37, g57⟩ := zb_of g56
          refine zo_iald (p' := 73) (zi_216 rfl) rfl hx37 ?_
          obtain ⟨x38, M40, hx39, g58⟩ := zbd_of g57
          refine zo_callVi (p' := 76) (t := 12) (as := [.int x16, .int x36]) (r := [.int b2]) (zi_216 rfl) rfl zl_19_344 rfl rfl (Or.inl ⟨by decide, rfl⟩) (Nat.le_of_ble_eq_true rfl) (Nat.le_of_ble_eq_true rfl) (f_177_ok hx39) (k_177 _ hx39) ?_
          refine zo_goto (p' := 85) (zi_216 rfl) rfl ?_
          refine zgo_sub (L' := [(0, zrf (some o)), (1, .int b1), (3, .int b3), (4, .int x16)]) (⟨rfl, rfl, rfl, rfl, trivial⟩) ?_
          exact k_216_85 _ _ (fun M a0 a1 a2 a3 out h => ih M a0 a1 a2 a3 out h) M40 o b1 b3 x16 x38 b2 _ g58
      · rw [if_neg hc23] at g50
        refine zo_ifF (p' := 45) (zi_216 rfl) rfl rfl hc23 ?_
        refine zo_aload_n (p' := 46) (zi_216 rfl) rfl rfl ?_
        obtain ⟨M43, hx42, g59⟩ := zb_of g50
        refine zo_callVv (p' := 49) (t := 12) (as := []) (r := []) (zi_216 rfl) rfl zl_19_360 rfl rfl (Or.inl ⟨by decide, rfl⟩) (Nat.le_of_ble_eq_true rfl) (Nat.le_of_ble_eq_true rfl) (f_196_ok hx42) (k_196 _ hx42) ?_
        refine zo_goto (p' := 95) (zi_216 rfl) rfl ?_
        refine zgo_sub (L' := [(0, zrf (some o)), (1, .int b1), (2, .int b2), (3, .int b3)]) (⟨rfl, rfl, rfl, rfl, trivial⟩) ?_
        exact k_216_95 _ _ (fun M a0 a1 a2 a3 out h => ih M a0 a1 a2 a3 out h) M43 o b1 b2 b3 _ g59
def f_216 (M : ZMem) (o : Nat) (a0 : Int32) : Option (Int32 × ZMem) := if zok M 12 o = true then (zb (f_147 M o a0 0 1) fun x1 => if ¬ x1 = 0 then (zb (f_198 M o) fun M6 => f_216_20 zF M6 o a0 0 0) else (some ((-1), M))) else none
theorem f_216_ok {M : ZMem} {o : Nat} {a0 : Int32} {out : Int32 × ZMem} (h : f_216 M o a0 = some out) : zok M 12 o = true := by
  unfold f_216 at h
  by_cases hok : zok M 12 o = true
  · exact hok
  · rw [if_neg hok] at h; cases h
set_option maxRecDepth 20000 in
theorem k_216 (d : Nat) {M : ZMem} {o : Nat} {a0 : Int32} {out : Int32 × ZMem} (h : f_216 M o a0 = some out) : zrn (d + 7) 216 [zrf (some o), .int a0] M (some (.int out.1), out.2) := by
  unfold f_216 at h
  by_cases hok : zok M 12 o = true
  · rw [if_pos hok] at h
    refine zrn_of (L := [(0, zrf (some o)), (1, .int a0)]) rfl ?_
    refine zo_aload_n (p' := 1) (zi_216 rfl) rfl rfl ?_
    refine zo_iload_n (p' := 2) (zi_216 rfl) rfl rfl ?_
    refine zo_iconst (p' := 3) (v := 0) (zi_216 rfl) rfl rfl ?_
    refine zo_iconst (p' := 4) (v := 1) (zi_216 rfl) rfl rfl ?_
    obtain ⟨x1, hx2, g7⟩ := zb_of h
    refine zo_callVi (p' := 7) (t := 12) (as := [.int a0, .int 0, .int 1]) (r := []) (zi_216 rfl) rfl zl_19_239 rfl rfl (Or.inl ⟨by decide, rfl⟩) (Nat.le_of_ble_eq_true rfl) (Nat.le_of_ble_eq_true rfl) (f_147_ok hx2) (k_147 _ hx2) ?_
    by_cases hc3 : ¬ x1 = 0
    · rw [if_pos hc3] at g7
      refine zo_ifT (p' := 12) (zi_216 rfl) rfl hc3 ?_
      refine zo_aload_n (p' := 13) (zi_216 rfl) rfl rfl ?_
      obtain ⟨M6, hx5, g8⟩ := zb_of g7
      refine zo_callVv (p' := 16) (t := 12) (as := []) (r := []) (zi_216 rfl) rfl zl_19_369 rfl rfl (Or.inl ⟨by decide, rfl⟩) (Nat.le_of_ble_eq_true rfl) (Nat.le_of_ble_eq_true rfl) (f_198_ok hx5) (k_198 _ hx5) ?_
      refine zo_iconst (p' := 17) (v := 0) (zi_216 rfl) rfl rfl ?_
      refine zo_istore_n (p' := 18) (L' := [(0, zrf (some o)), (1, .int a0), (2, .int 0)]) (zi_216 rfl) rfl zm_216_2 ⟨Or.inr ⟨by decide, rfl, fun q => absurd q (by decide)⟩, ⟨Or.inr ⟨by decide, rfl, fun _ => rfl⟩, ⟨Or.inl ⟨rfl, rfl⟩, trivial⟩⟩⟩ ?_
      refine zo_iconst (p' := 19) (v := 0) (zi_216 rfl) rfl rfl ?_
      refine zo_istore_n (p' := 20) (L' := [(0, zrf (some o)), (1, .int a0), (2, .int 0), (3, .int 0)]) (zi_216 rfl) rfl zm_216_3 ⟨Or.inr ⟨by decide, rfl, fun q => absurd q (by decide)⟩, ⟨Or.inr ⟨by decide, rfl, fun q => absurd q (by decide)⟩, ⟨Or.inr ⟨by decide, rfl, fun _ => rfl⟩, ⟨Or.inl ⟨rfl, rfl⟩, trivial⟩⟩⟩⟩ ?_
      refine zgo_sub (L' := [(0, zrf (some o)), (1, .int a0), (2, .int 0), (3, .int 0)]) (⟨rfl, rfl, rfl, rfl, trivial⟩) ?_
      exact k_216_20 _ zF M6 o a0 0 0 _ g8
    · rw [if_neg hc3] at g7
      refine zo_ifF (p' := 10) (zi_216 rfl) rfl rfl hc3 ?_
      refine zo_iconst (p' := 11) (v := (-1)) (zi_216 rfl) rfl rfl ?_
      have g9 := Option.some.inj g7
      subst g9
      exact zo_iret (zi_216 rfl) rfl ⟨rfl, rfl⟩
  · rw [if_neg hok] at h; cases h
/-- SlateHalvesModel.book(II)I -/
def f_217 (M : ZMem) (o : Nat) (a0 : Int32) (a1 : Int32) : Option (Int32 × ZMem) := if zok M 12 o = true then (if ¬ a0 = (-1) then (zb (f_149 M o a0) fun x2 => if ¬ x2 = 0 then (zb (f_147 M o a1 0 60) fun x5 => if ¬ x5 = 0 then (zb (zgi M 12 43 o) fun x8 => if ¬ x8 = 8 then (zb (zgr M 12 46 o) fun r11 => zb (zgi M 12 43 o) fun x13 => zb r11 fun q15 => zb (zsa M 20 q15 x13 a0) fun M16 => zb (zgr M16 12 47 o) fun r18 => zb (zgi M16 12 43 o) fun x20 => zb r18 fun q22 => zb (zsa M16 20 q22 x20 a1) fun M23 => zb (zgi M23 12 43 o) fun x25 => zb (zpf M23 12 43 o (.int ((x25 + 1))) false) fun M27 => zb (zgi M27 12 43 o) fun x29 => some (x29, M27)) else (some ((-4), M))) else (some ((-2), M))) else (some ((-1), M))) else (zb (zpf M 12 43 o (.int 0) false) fun M31 => some (0, M31))) else none
theorem f_217_ok {M : ZMem} {o : Nat} {a0 : Int32} {a1 : Int32} {out : Int32 × ZMem} (h : f_217 M o a0 a1 = some out) : zok M 12 o = true := by
  unfold f_217 at h
  by_cases hok : zok M 12 o = true
  · exact hok
  · rw [if_neg hok] at h; cases h
set_option maxRecDepth 20000 in
theorem k_217 (d : Nat) {M : ZMem} {o : Nat} {a0 : Int32} {a1 : Int32} {out : Int32 × ZMem} (h : f_217 M o a0 a1 = some out) : zrn (d + 2) 217 [zrf (some o), .int a0, .int a1] M (some (.int out.1), out.2) := by
  unfold f_217 at h
  by_cases hok : zok M 12 o = true
  · rw [if_pos hok] at h
    refine zrn_of (L := [(0, zrf (some o)), (1, .int a0), (2, .int a1)]) rfl ?_
    refine zo_iload_n (p' := 1) (zi_217 rfl) rfl rfl ?_
    refine zo_iconst (p' := 2) (v := (-1)) (zi_217 rfl) rfl rfl ?_
    by_cases hc1 : ¬ a0 = (-1)
    · rw [if_pos hc1] at h
      refine zo_icT (p' := 12) (zi_217 rfl) rfl hc1 ?_
      refine zo_aload_n (p' := 13) (zi_217 rfl) rfl rfl ?_
      refine zo_iload_n (p' := 14) (zi_217 rfl) rfl rfl ?_
      obtain ⟨x2, hx3, g33⟩ := zb_of h
      refine zo_callVi (p' := 17) (t := 12) (as := [.int a0]) (r := []) (zi_217 rfl) rfl zl_19_243 rfl rfl (Or.inl ⟨by decide, rfl⟩) (Nat.le_of_ble_eq_true rfl) (Nat.le_of_ble_eq_true rfl) (f_149_ok hx3) (k_149 _ hx3) ?_
      by_cases hc4 : ¬ x2 = 0
      · rw [if_pos hc4] at g33
        refine zo_ifT (p' := 22) (zi_217 rfl) rfl hc4 ?_
        refine zo_aload_n (p' := 23) (zi_217 rfl) rfl rfl ?_
        refine zo_iload_n (p' := 24) (zi_217 rfl) rfl rfl ?_
        refine zo_iconst (p' := 25) (v := 0) (zi_217 rfl) rfl rfl ?_
        refine zo_bipush (p' := 27) (v := 60) (zi_217 rfl) rfl rfl ?_
        obtain ⟨x5, hx6, g34⟩ := zb_of g33
        refine zo_callVi (p' := 30) (t := 12) (as := [.int a1, .int 0, .int 60]) (r := []) (zi_217 rfl) rfl zl_19_239 rfl rfl (Or.inl ⟨by decide, rfl⟩) (Nat.le_of_ble_eq_true rfl) (Nat.le_of_ble_eq_true rfl) (f_147_ok hx6) (k_147 _ hx6) ?_
        by_cases hc7 : ¬ x5 = 0
        · rw [if_pos hc7] at g34
          refine zo_ifT (p' := 36) (zi_217 rfl) rfl hc7 ?_
          refine zo_aload_n (p' := 37) (zi_217 rfl) rfl rfl ?_
          obtain ⟨x8, hx9, g35⟩ := zb_of g34
          refine zo_getI (p' := 40) (zi_217 rfl) rfl zl_19_141 hx9 ?_
          refine zo_bipush (p' := 42) (v := 8) (zi_217 rfl) rfl rfl ?_
          by_cases hc10 : ¬ x8 = 8
          · rw [if_pos hc10] at g35
            refine zo_icT (p' := 48) (zi_217 rfl) rfl hc10 ?_
            refine zo_aload_n (p' := 49) (zi_217 rfl) rfl rfl ?_
            obtain ⟨r11, hx12, g36⟩ := zb_of g35
            refine zo_getR (p' := 52) (zi_217 rfl) rfl zl_19_150 hx12 ?_
            refine zo_aload_n (p' := 53) (zi_217 rfl) rfl rfl ?_
            obtain ⟨x13, hx14, g37⟩ := zb_of g36
            refine zo_getI (p' := 56) (zi_217 rfl) rfl zl_19_141 hx14 ?_
            refine zo_iload_n (p' := 57) (zi_217 rfl) rfl rfl ?_
            obtain ⟨q15, h0, g38⟩ := zb_of g37
            subst h0
            obtain ⟨M16, hx17, g39⟩ := zb_of g38
            refine zo_iast (p' := 58) (zi_217 rfl) rfl hx17 ?_
            refine zo_aload_n (p' := 59) (zi_217 rfl) rfl rfl ?_
            obtain ⟨r18, hx19, g40⟩ := zb_of g39
            refine zo_getR (p' := 62) (zi_217 rfl) rfl zl_19_153 hx19 ?_
            refine zo_aload_n (p' := 63) (zi_217 rfl) rfl rfl ?_
            obtain ⟨x20, hx21, g41⟩ := zb_of g40
            refine zo_getI (p' := 66) (zi_217 rfl) rfl zl_19_141 hx21 ?_
            refine zo_iload_n (p' := 67) (zi_217 rfl) rfl rfl ?_
            obtain ⟨q22, h0, g42⟩ := zb_of g41
            subst h0
            obtain ⟨M23, hx24, g43⟩ := zb_of g42
            refine zo_iast (p' := 68) (zi_217 rfl) rfl hx24 ?_
            refine zo_aload_n (p' := 69) (zi_217 rfl) rfl rfl ?_
            refine zo_dup (p' := 70) (zi_217 rfl) rfl (zrf_cat _) ?_
            obtain ⟨x25, hx26, g44⟩ := zb_of g43
            refine zo_getI (p' := 73) (zi_217 rfl) rfl zl_19_141 hx26 ?_
            refine zo_iconst (p' := 74) (v := 1) (zi_217 rfl) rfl rfl ?_
            refine zo_iadd (p' := 75) (zi_217 rfl) rfl ?_
            obtain ⟨M27, hx28, g45⟩ := zb_of g44
            refine zo_putI (p' := 78) (zi_217 rfl) rfl zl_19_141 (zpb_217 _) hx28 ?_
            refine zo_aload_n (p' := 79) (zi_217 rfl) rfl rfl ?_
            obtain ⟨x29, hx30, g46⟩ := zb_of g45
            refine zo_getI (p' := 82) (zi_217 rfl) rfl zl_19_141 hx30 ?_
            have g47 := Option.some.inj g46
            subst g47
            exact zo_iret (zi_217 rfl) rfl ⟨rfl, rfl⟩
          · rw [if_neg hc10] at g35
            refine zo_icF (p' := 45) (zi_217 rfl) rfl rfl hc10 ?_
            refine zo_bipush (p' := 47) (v := (-4)) (zi_217 rfl) rfl rfl ?_
            have g48 := Option.some.inj g35
            subst g48
            exact zo_iret (zi_217 rfl) rfl ⟨rfl, rfl⟩
        · rw [if_neg hc7] at g34
          refine zo_ifF (p' := 33) (zi_217 rfl) rfl rfl hc7 ?_
          refine zo_bipush (p' := 35) (v := (-2)) (zi_217 rfl) rfl rfl ?_
          have g49 := Option.some.inj g34
          subst g49
          exact zo_iret (zi_217 rfl) rfl ⟨rfl, rfl⟩
      · rw [if_neg hc4] at g33
        refine zo_ifF (p' := 20) (zi_217 rfl) rfl rfl hc4 ?_
        refine zo_iconst (p' := 21) (v := (-1)) (zi_217 rfl) rfl rfl ?_
        have g50 := Option.some.inj g33
        subst g50
        exact zo_iret (zi_217 rfl) rfl ⟨rfl, rfl⟩
    · rw [if_neg hc1] at h
      refine zo_icF (p' := 5) (zi_217 rfl) rfl rfl hc1 ?_
      refine zo_aload_n (p' := 6) (zi_217 rfl) rfl rfl ?_
      refine zo_iconst (p' := 7) (v := 0) (zi_217 rfl) rfl rfl ?_
      obtain ⟨M31, hx32, g51⟩ := zb_of h
      refine zo_putI (p' := 10) (zi_217 rfl) rfl zl_19_141 (zpb_217 _) hx32 ?_
      refine zo_iconst (p' := 11) (v := 0) (zi_217 rfl) rfl rfl ?_
      have g52 := Option.some.inj g51
      subst g52
      exact zo_iret (zi_217 rfl) rfl ⟨rfl, rfl⟩
  · rw [if_neg hok] at h; cases h
/-- SlateHalvesModel.looked()I -/
def f_218_2 : Nat → ZMem → Nat → Int32 → Option (Int32)
  | 0, _, _, _ => none
  | z + 1, M, o, b1 => zb (zgi M 12 43 o) fun x1 => if x1 ≤ b1 then (some (-5)) else (zb (zgr M 12 5 o) fun r4 => zb (zgr M 12 46 o) fun r6 => zb r6 fun q8 => zb (zai M q8 b1) fun x9 => zb r4 fun q11 => zb (zai M q11 x9) fun x12 => zb (zgr M 12 47 o) fun r14 => zb r14 fun q16 => zb (zai M q16 b1) fun x17 => if x12 = x17 then (f_218_2 z M o ((b1 + 1))) else (some b1))
set_option maxRecDepth 20000 in
theorem k_218_2 (d : Nat) : ∀ (z : Nat) (M : ZMem) (o : Nat) (b1 : Int32) (out : Int32), f_218_2 z M o b1 = some out → zgo none (d) 218 2 [(0, zrf (some o)), (1, .int b1)] [] M (some (.int out), M) := by
  intro z
  induction z with
  | zero => intro M o b1 out h; cases h
  | succ z ih =>
    intro M o b1 out h
    rw [f_218_2] at h
    refine zo_iload_n (p' := 3) (zi_218 rfl) rfl rfl ?_
    refine zo_aload_n (p' := 4) (zi_218 rfl) rfl rfl ?_
    obtain ⟨x1, hx2, g20⟩ := zb_of h
    refine zo_getI (p' := 7) (zi_218 rfl) rfl zl_19_141 hx2 ?_
    by_cases hc3 : x1 ≤ b1
    · rw [if_pos hc3] at g20
      refine zo_icT (p' := 38) (zi_218 rfl) rfl hc3 ?_
      refine zo_bipush (p' := 40) (v := (-5)) (zi_218 rfl) rfl rfl ?_
      have g21 := Option.some.inj g20
      subst g21
      exact zo_iret (zi_218 rfl) rfl ⟨rfl, rfl⟩
    · rw [if_neg hc3] at g20
      refine zo_icF (p' := 10) (zi_218 rfl) rfl rfl hc3 ?_
      refine zo_aload_n (p' := 11) (zi_218 rfl) rfl rfl ?_
      obtain ⟨r4, hx5, g22⟩ := zb_of g20
      refine zo_getR (p' := 14) (zi_218 rfl) rfl zl_19_26 hx5 ?_
      refine zo_aload_n (p' := 15) (zi_218 rfl) rfl rfl ?_
      obtain ⟨r6, hx7, g23⟩ := zb_of g22
      refine zo_getR (p' := 18) (zi_218 rfl) rfl zl_19_150 hx7 ?_
      refine zo_iload_n (p' := 19) (zi_218 rfl) rfl rfl ?_
      obtain ⟨q8, h0, g24⟩ := zb_of g23
      subst h0
      obtain ⟨x9, hx10, g25⟩ := zb_of g24
      refine zo_iald (p' := 20) (zi_218 rfl) rfl hx10 ?_
      obtain ⟨q11, h0, g26⟩ := zb_of g25
      subst h0
      obtain ⟨x12, hx13, g27⟩ := zb_of g26
      refine zo_iald (p' := 21) (zi_218 rfl) rfl hx13 ?_
      refine zo_aload_n (p' := 22) (zi_218 rfl) rfl rfl ?_
      obtain ⟨r14, hx15, g28⟩ := zb_of g27
      refine zo_getR (p' := 25) (zi_218 rfl) rfl zl_19_153 hx15 ?_
      refine zo_iload_n (p' := 26) (zi_218 rfl) rfl rfl ?_
      obtain ⟨q16, h0, g29⟩ := zb_of g28
      subst h0
      obtain ⟨x17, hx18, g30⟩ := zb_of g29
      refine zo_iald (p' := 27) (zi_218 rfl) rfl hx18 ?_
      by_cases hc19 : x12 = x17
      · rw [if_pos hc19] at g30
        refine zo_icT (p' := 32) (zi_218 rfl) rfl hc19 ?_
        refine zo_iinc (p' := 35) (v := (b1 + 1)) (L' := [(0, zrf (some o)), (1, .int ((b1 + 1)))]) (zi_218 rfl) rfl zm_218_1 rfl rfl ⟨Or.inr ⟨by decide, rfl, fun _ => zrf_cat _⟩, ⟨Or.inl ⟨rfl, rfl⟩, trivial⟩⟩ ?_
        refine zo_goto (p' := 2) (zi_218 rfl) rfl ?_
        refine zgo_sub (L' := [(0, zrf (some o)), (1, .int (((b1 + 1))))]) (⟨rfl, rfl, trivial⟩) ?_
        exact ih M o ((b1 + 1)) _ g30
      · rw [if_neg hc19] at g30
        refine zo_icF (p' := 30) (zi_218 rfl) rfl rfl hc19 ?_
        refine zo_iload_n (p' := 31) (zi_218 rfl) rfl rfl ?_
        have g31 := Option.some.inj g30
        subst g31
        exact zo_iret (zi_218 rfl) rfl ⟨rfl, rfl⟩
def f_218 (M : ZMem) (o : Nat) : Option (Int32) := if zok M 12 o = true then (f_218_2 zF M o 0) else none
theorem f_218_ok {M : ZMem} {o : Nat} {out : Int32} (h : f_218 M o = some out) : zok M 12 o = true := by
  unfold f_218 at h
  by_cases hok : zok M 12 o = true
  · exact hok
  · rw [if_neg hok] at h; cases h
set_option maxRecDepth 20000 in
theorem k_218 (d : Nat) {M : ZMem} {o : Nat} {out : Int32} (h : f_218 M o = some out) : zrn (d) 218 [zrf (some o)] M (some (.int out), M) := by
  unfold f_218 at h
  by_cases hok : zok M 12 o = true
  · rw [if_pos hok] at h
    refine zrn_of (L := [(0, zrf (some o))]) rfl ?_
    refine zo_iconst (p' := 1) (v := 0) (zi_218 rfl) rfl rfl ?_
    refine zo_istore_n (p' := 2) (L' := [(0, zrf (some o)), (1, .int 0)]) (zi_218 rfl) rfl zm_218_1 ⟨Or.inr ⟨by decide, rfl, fun _ => zrf_cat _⟩, ⟨Or.inl ⟨rfl, rfl⟩, trivial⟩⟩ ?_
    refine zgo_sub (L' := [(0, zrf (some o)), (1, .int 0)]) (⟨rfl, rfl, trivial⟩) ?_
    exact k_218_2 _ zF M o 0 _ h
  · rw [if_neg hok] at h; cases h
/-- SlateHalvesModel.isTape(I)Z -/
def f_220 (M : ZMem) (o : Nat) (a0 : Int32) : Option (Int32) := if zok M 12 o = true then (zb (f_147 M o a0 0 5) fun x1 => if narrow .boolean (.int x1) = .int x1 then some x1 else none) else none
theorem f_220_ok {M : ZMem} {o : Nat} {a0 : Int32} {out : Int32} (h : f_220 M o a0 = some out) : zok M 12 o = true := by
  unfold f_220 at h
  by_cases hok : zok M 12 o = true
  · exact hok
  · rw [if_neg hok] at h; cases h
set_option maxRecDepth 20000 in
theorem k_220 (d : Nat) {M : ZMem} {o : Nat} {a0 : Int32} {out : Int32} (h : f_220 M o a0 = some out) : zrn (d + 1) 220 [zrf (some o), .int a0] M (some (.int out), M) := by
  unfold f_220 at h
  by_cases hok : zok M 12 o = true
  · rw [if_pos hok] at h
    refine zrn_of (L := [(0, zrf (some o)), (1, .int a0)]) rfl ?_
    refine zo_aload_n (p' := 1) (zi_220 rfl) rfl rfl ?_
    refine zo_iload_n (p' := 2) (zi_220 rfl) rfl rfl ?_
    refine zo_iconst (p' := 3) (v := 0) (zi_220 rfl) rfl rfl ?_
    refine zo_iconst (p' := 4) (v := 5) (zi_220 rfl) rfl rfl ?_
    obtain ⟨x1, hx2, g4⟩ := zb_of h
    refine zo_callVi (p' := 7) (t := 12) (as := [.int a0, .int 0, .int 5]) (r := []) (zi_220 rfl) rfl zl_19_239 rfl rfl (Or.inl ⟨by decide, rfl⟩) (Nat.le_of_ble_eq_true rfl) (Nat.le_of_ble_eq_true rfl) (f_147_ok hx2) (k_147 _ hx2) ?_
    by_cases hr3 : narrow .boolean (.int x1) = .int x1
    · rw [if_pos hr3] at g4
      have g5 := Option.some.inj g4
      subst g5
      exact zo_iret (zi_220 rfl) rfl ⟨rfl, hr3⟩
    · rw [if_neg hr3] at g4; cases g4
  · rw [if_neg hok] at h; cases h
/-- SlateHalvesModel.judge(II)I -/
def f_219_24 : Nat → ZMem → Nat → Int32 → Int32 → Int32 → Option (Int32)
  | 0, _, _, _, _, _ => none
  | z + 1, M, o, b1, b2, b3 => zb (zgi M 12 0 o) fun x16 => if x16 ≤ b3 then (some (-5)) else (zb (zgr M 12 71 o) fun r19 => zb r19 fun q21 => zb (zai M q21 b1) fun x22 => if x22 < 0 then (some (100 + b3)) else (if b2 < 0 then (some (100 + b3)) else (zb (zgr M 12 72 o) fun r26 => zb r26 fun q28 => zb (zai M q28 b1) fun x29 => if b2 ≤ ((x29 - b3) - 1) then (zb (zgr M 12 73 o) fun r32 => zb r32 fun q34 => zb (zlaL M q34 (((60 * b1) + b2) + b3)) fun x35 => zb (zgr M 12 5 o) fun r37 => zb r37 fun q39 => zb (zai M q39 b3) fun x40 => if (lg_cmp x35 (Int32.toInt64 x40)) = 0 then (f_219_24 z M o b1 b2 ((b3 + 1))) else (some b3)) else (some (100 + b3)))))
set_option maxRecDepth 20000 in
theorem k_219_24 (d : Nat) : ∀ (z : Nat) (M : ZMem) (o : Nat) (b1 : Int32) (b2 : Int32) (b3 : Int32) (out : Int32), f_219_24 z M o b1 b2 b3 = some out → zgo none (d + 2) 219 24 [(0, zrf (some o)), (1, .int b1), (2, .int b2), (3, .int b3)] [] M (some (.int out), M) := by
  intro z
  induction z with
  | zero => intro M o b1 b2 b3 out h; cases h
  | succ z ih =>
    intro M o b1 b2 b3 out h
    rw [f_219_24] at h
    refine zo_iload_n (p' := 25) (zi_219 rfl) rfl rfl ?_
    refine zo_aload_n (p' := 26) (zi_219 rfl) rfl rfl ?_
    obtain ⟨x16, hx17, g43⟩ := zb_of h
    refine zo_getI (p' := 29) (zi_219 rfl) rfl zl_19_7 hx17 ?_
    by_cases hc18 : x16 ≤ b3
    · rw [if_pos hc18] at g43
      refine zo_icT (p' := 96) (zi_219 rfl) rfl hc18 ?_
      refine zo_bipush (p' := 98) (v := (-5)) (zi_219 rfl) rfl rfl ?_
      have g44 := Option.some.inj g43
      subst g44
      exact zo_iret (zi_219 rfl) rfl ⟨rfl, rfl⟩
    · rw [if_neg hc18] at g43
      refine zo_icF (p' := 32) (zi_219 rfl) rfl rfl hc18 ?_
      refine zo_aload_n (p' := 33) (zi_219 rfl) rfl rfl ?_
      obtain ⟨r19, hx20, g45⟩ := zb_of g43
      refine zo_getR (p' := 36) (zi_219 rfl) rfl zl_19_226 hx20 ?_
      refine zo_iload_n (p' := 37) (zi_219 rfl) rfl rfl ?_
      obtain ⟨q21, h0, g46⟩ := zb_of g45
      subst h0
      obtain ⟨x22, hx23, g47⟩ := zb_of g46
      refine zo_iald (p' := 38) (zi_219 rfl) rfl hx23 ?_
      by_cases hc24 : x22 < 0
      · rw [if_pos hc24] at g47
        refine zo_ifT (p' := 59) (zi_219 rfl) rfl hc24 ?_
        refine zo_bipush (p' := 61) (v := 100) (zi_219 rfl) rfl rfl ?_
        refine zo_iload_n (p' := 62) (zi_219 rfl) rfl rfl ?_
        refine zo_iadd (p' := 63) (zi_219 rfl) rfl ?_
        have g48 := Option.some.inj g47
        subst g48
        exact zo_iret (zi_219 rfl) rfl ⟨rfl, rfl⟩
      · rw [if_neg hc24] at g47
        refine zo_ifF (p' := 41) (zi_219 rfl) rfl rfl hc24 ?_
        refine zo_iload_n (p' := 42) (zi_219 rfl) rfl rfl ?_
        by_cases hc25 : b2 < 0
        · rw [if_pos hc25] at g47
          refine zo_ifT (p' := 59) (zi_219 rfl) rfl hc25 ?_
          refine zo_bipush (p' := 61) (v := 100) (zi_219 rfl) rfl rfl ?_
          refine zo_iload_n (p' := 62) (zi_219 rfl) rfl rfl ?_
          refine zo_iadd (p' := 63) (zi_219 rfl) rfl ?_
          have g49 := Option.some.inj g47
          subst g49
          exact zo_iret (zi_219 rfl) rfl ⟨rfl, rfl⟩
        · rw [if_neg hc25] at g47
          refine zo_ifF (p' := 45) (zi_219 rfl) rfl rfl hc25 ?_
          refine zo_iload_n (p' := 46) (zi_219 rfl) rfl rfl ?_
          refine zo_aload_n (p' := 47) (zi_219 rfl) rfl rfl ?_
          obtain ⟨r26, hx27, g50⟩ := zb_of g47
          refine zo_getR (p' := 50) (zi_219 rfl) rfl zl_19_229 hx27 ?_
          refine zo_iload_n (p' := 51) (zi_219 rfl) rfl rfl ?_
          obtain ⟨q28, h0, g51⟩ := zb_of g50
          subst h0
          obtain ⟨x29, hx30, g52⟩ := zb_of g51
          refine zo_iald (p' := 52) (zi_219 rfl) rfl hx30 ?_
          refine zo_iload_n (p' := 53) (zi_219 rfl) rfl rfl ?_
          refine zo_isub (p' := 54) (zi_219 rfl) rfl ?_
          refine zo_iconst (p' := 55) (v := 1) (zi_219 rfl) rfl rfl ?_
          refine zo_isub (p' := 56) (zi_219 rfl) rfl ?_
          by_cases hc31 : b2 ≤ ((x29 - b3) - 1)
          · rw [if_pos hc31] at g52
            refine zo_icT (p' := 64) (zi_219 rfl) rfl hc31 ?_
            refine zo_aload_n (p' := 65) (zi_219 rfl) rfl rfl ?_
            obtain ⟨r32, hx33, g53⟩ := zb_of g52
            refine zo_getR (p' := 68) (zi_219 rfl) rfl zl_19_232 hx33 ?_
            refine zo_bipush (p' := 70) (v := 60) (zi_219 rfl) rfl rfl ?_
            refine zo_iload_n (p' := 71) (zi_219 rfl) rfl rfl ?_
            refine zo_imul (p' := 72) (zi_219 rfl) rfl ?_
            refine zo_iload_n (p' := 73) (zi_219 rfl) rfl rfl ?_
            refine zo_iadd (p' := 74) (zi_219 rfl) rfl ?_
            refine zo_iload_n (p' := 75) (zi_219 rfl) rfl rfl ?_
            refine zo_iadd (p' := 76) (zi_219 rfl) rfl ?_
            obtain ⟨q34, h0, g54⟩ := zb_of g53
            subst h0
            obtain ⟨x35, hx36, g55⟩ := zb_of g54
            refine zo_lald (p' := 77) (zi_219 rfl) rfl hx36 ?_
            refine zo_aload_n (p' := 78) (zi_219 rfl) rfl rfl ?_
            obtain ⟨r37, hx38, g56⟩ := zb_of g55
            refine zo_getR (p' := 81) (zi_219 rfl) rfl zl_19_26 hx38 ?_
            refine zo_iload_n (p' := 82) (zi_219 rfl) rfl rfl ?_
            obtain ⟨q39, h0, g57⟩ := zb_of g56
            subst h0
            obtain ⟨x40, hx41, g58⟩ := zb_of g57
            refine zo_iald (p' := 83) (zi_219 rfl) rfl hx41 ?_
            refine zo_i2l (p' := 84) (zi_219 rfl) rfl ?_
            refine zo_lcmp (p' := 85) (zi_219 rfl) rfl ?_
            by_cases hc42 : (lg_cmp x35 (Int32.toInt64 x40)) = 0
            · rw [if_pos hc42] at g58
              refine zo_ifT (p' := 90) (zi_219 rfl) rfl hc42 ?_
              refine zo_iinc (p' := 93) (v := (b3 + 1)) (L' := [(0, zrf (some o)), (1, .int b1), (2, .int b2), (3, .int ((b3 + 1)))]) (zi_219 rfl) rfl zm_219_3 rfl rfl ⟨Or.inr ⟨by decide, rfl, fun q => absurd q (by decide)⟩, ⟨Or.inr ⟨by decide, rfl, fun q => absurd q (by decide)⟩, ⟨Or.inr ⟨by decide, rfl, fun _ => rfl⟩, ⟨Or.inl ⟨rfl, rfl⟩, trivial⟩⟩⟩⟩ ?_
              refine zo_goto (p' := 24) (zi_219 rfl) rfl ?_
              refine zgo_sub (L' := [(0, zrf (some o)), (1, .int b1), (2, .int b2), (3, .int (((b3 + 1))))]) (⟨rfl, rfl, rfl, rfl, trivial⟩) ?_
              exact ih M o b1 b2 ((b3 + 1)) _ g58
            · rw [if_neg hc42] at g58
              refine zo_ifF (p' := 88) (zi_219 rfl) rfl rfl hc42 ?_
              refine zo_iload_n (p' := 89) (zi_219 rfl) rfl rfl ?_
              have g59 := Option.some.inj g58
              subst g59
              exact zo_iret (zi_219 rfl) rfl ⟨rfl, rfl⟩
          · rw [if_neg hc31] at g52
            refine zo_icF (p' := 59) (zi_219 rfl) rfl rfl hc31 ?_
            refine zo_bipush (p' := 61) (v := 100) (zi_219 rfl) rfl rfl ?_
            refine zo_iload_n (p' := 62) (zi_219 rfl) rfl rfl ?_
            refine zo_iadd (p' := 63) (zi_219 rfl) rfl ?_
            have g60 := Option.some.inj g52
            subst g60
            exact zo_iret (zi_219 rfl) rfl ⟨rfl, rfl⟩
def f_219 (M : ZMem) (o : Nat) (a0 : Int32) (a1 : Int32) : Option (Int32) := if zok M 12 o = true then (zb (f_220 M o a0) fun x1 => if ¬ x1 = 0 then (zb (zgr M 12 71 o) fun r4 => zb r4 fun q6 => zb (zai M q6 a0) fun x7 => if x7 ≤ 0 then (f_219_24 zF M o a0 a1 0) else (some (-12))) else (some (-1))) else none
theorem f_219_ok {M : ZMem} {o : Nat} {a0 : Int32} {a1 : Int32} {out : Int32} (h : f_219 M o a0 a1 = some out) : zok M 12 o = true := by
  unfold f_219 at h
  by_cases hok : zok M 12 o = true
  · exact hok
  · rw [if_neg hok] at h; cases h
set_option maxRecDepth 20000 in
theorem k_219 (d : Nat) {M : ZMem} {o : Nat} {a0 : Int32} {a1 : Int32} {out : Int32} (h : f_219 M o a0 a1 = some out) : zrn (d + 2) 219 [zrf (some o), .int a0, .int a1] M (some (.int out), M) := by
  unfold f_219 at h
  by_cases hok : zok M 12 o = true
  · rw [if_pos hok] at h
    refine zrn_of (L := [(0, zrf (some o)), (1, .int a0), (2, .int a1)]) rfl ?_
    refine zo_aload_n (p' := 1) (zi_219 rfl) rfl rfl ?_
    refine zo_iload_n (p' := 2) (zi_219 rfl) rfl rfl ?_
    obtain ⟨x1, hx2, g10⟩ := zb_of h
    refine zo_callVi (p' := 5) (t := 12) (as := [.int a0]) (r := []) (zi_219 rfl) rfl zl_19_403 rfl rfl (Or.inl ⟨by decide, rfl⟩) (Nat.le_of_ble_eq_true rfl) (Nat.le_of_ble_eq_true rfl) (f_220_ok hx2) (k_220 _ hx2) ?_
    by_cases hc3 : ¬ x1 = 0
    · rw [if_pos hc3] at g10
      refine zo_ifT (p' := 10) (zi_219 rfl) rfl hc3 ?_
      refine zo_aload_n (p' := 11) (zi_219 rfl) rfl rfl ?_
      obtain ⟨r4, hx5, g11⟩ := zb_of g10
      refine zo_getR (p' := 14) (zi_219 rfl) rfl zl_19_226 hx5 ?_
      refine zo_iload_n (p' := 15) (zi_219 rfl) rfl rfl ?_
      obtain ⟨q6, h0, g12⟩ := zb_of g11
      subst h0
      obtain ⟨x7, hx8, g13⟩ := zb_of g12
      refine zo_iald (p' := 16) (zi_219 rfl) rfl hx8 ?_
      by_cases hc9 : x7 ≤ 0
      · rw [if_pos hc9] at g13
        refine zo_ifT (p' := 22) (zi_219 rfl) rfl hc9 ?_
        refine zo_iconst (p' := 23) (v := 0) (zi_219 rfl) rfl rfl ?_
        refine zo_istore_n (p' := 24) (L' := [(0, zrf (some o)), (1, .int a0), (2, .int a1), (3, .int 0)]) (zi_219 rfl) rfl zm_219_3 ⟨Or.inr ⟨by decide, rfl, fun q => absurd q (by decide)⟩, ⟨Or.inr ⟨by decide, rfl, fun q => absurd q (by decide)⟩, ⟨Or.inr ⟨by decide, rfl, fun _ => rfl⟩, ⟨Or.inl ⟨rfl, rfl⟩, trivial⟩⟩⟩⟩ ?_
        refine zgo_sub (L' := [(0, zrf (some o)), (1, .int a0), (2, .int a1), (3, .int 0)]) (⟨rfl, rfl, rfl, rfl, trivial⟩) ?_
        exact k_219_24 _ zF M o a0 a1 0 _ g13
      · rw [if_neg hc9] at g13
        refine zo_ifF (p' := 19) (zi_219 rfl) rfl rfl hc9 ?_
        refine zo_bipush (p' := 21) (v := (-12)) (zi_219 rfl) rfl rfl ?_
        have g14 := Option.some.inj g13
        subst g14
        exact zo_iret (zi_219 rfl) rfl ⟨rfl, rfl⟩
    · rw [if_neg hc3] at g10
      refine zo_ifF (p' := 8) (zi_219 rfl) rfl rfl hc3 ?_
      refine zo_iconst (p' := 9) (v := (-1)) (zi_219 rfl) rfl rfl ?_
      have g15 := Option.some.inj g10
      subst g15
      exact zo_iret (zi_219 rfl) rfl ⟨rfl, rfl⟩
  · rw [if_neg hok] at h; cases h
/-- SlateHalvesModel.image()I -/
def f_221_237 : Nat → ZMem → Nat → Int32 → Option (Int32 × ZMem)
  | 0, _, _, _ => none
  | z + 1, M, o, b1 => if 8 ≤ b1 then (zb (zgi M 12 0 o) fun x226 => some (x226, M)) else (zb (zgr M 12 66 o) fun r228 => zb (zgr M 12 46 o) fun r230 => zb r230 fun q232 => zb (zai M q232 b1) fun x233 => zb r228 fun q235 => zb (zsa M 20 q235 b1 x233) fun M236 => zb (zgr M236 12 67 o) fun r238 => zb (zgr M236 12 47 o) fun r240 => zb r240 fun q242 => zb (zai M236 q242 b1) fun x243 => zb r238 fun q245 => zb (zsa M236 20 q245 b1 x243) fun M246 => f_221_237 z M246 o ((b1 + 1)))
def f_221_199 : Nat → ZMem → Nat → Int32 → Option (Int32 × ZMem)
  | 0, _, _, _ => none
  | z + 1, M, o, b1 => if 10 ≤ b1 then (f_221_237 zF M o 0) else (zb (zgr M 12 64 o) fun r193 => zb (zgr M 12 44 o) fun r195 => zb r195 fun q197 => zb (zai M q197 b1) fun x198 => zb r193 fun q200 => zb (zsa M 20 q200 b1 x198) fun M201 => zb (zgr M201 12 65 o) fun r203 => zb (zgr M201 12 45 o) fun r205 => zb r205 fun q207 => zb (zai M201 q207 b1) fun x208 => zb r203 fun q210 => zb (zsa M201 20 q210 b1 x208) fun M211 => f_221_199 z M211 o ((b1 + 1)))
def f_221_173 : Nat → ZMem → Nat → Int32 → Option (Int32 × ZMem)
  | 0, _, _, _ => none
  | z + 1, M, o, b1 => if 24 ≤ b1 then (f_221_199 zF M o 0) else (zb (zgr M 12 61 o) fun r176 => zb (zgr M 12 8 o) fun r178 => zb r178 fun q180 => zb (zai M q180 b1) fun x181 => zb r176 fun q183 => zb (zsa M 20 q183 b1 x181) fun M184 => f_221_173 z M184 o ((b1 + 1)))
def f_221_63 : Nat → ZMem → Nat → Int32 → Option (Int32 × ZMem)
  | 0, _, _, _ => none
  | z + 1, M, o, b1 => if 6 ≤ b1 then (f_221_173 zF M o 0) else (zb (zgr M 12 56 o) fun r47 => zb (zgr M 12 3 o) fun r49 => zb r49 fun q51 => zb (zai M q51 b1) fun x52 => zb r47 fun q54 => zb (zsa M 20 q54 b1 x52) fun M55 => zb (zgr M55 12 57 o) fun r57 => zb (zgr M55 12 4 o) fun r59 => zb r59 fun q61 => zb (zai M55 q61 b1) fun x62 => zb r57 fun q64 => zb (zsa M55 20 q64 b1 x62) fun M65 => zb (zgr M65 12 58 o) fun r67 => zb (zgr M65 12 5 o) fun r69 => zb r69 fun q71 => zb (zai M65 q71 b1) fun x72 => zb r67 fun q74 => zb (zsa M65 20 q74 b1 x72) fun M75 => zb (zgr M75 12 59 o) fun r77 => zb (zgr M75 12 6 o) fun r79 => zb r79 fun q81 => zb (zai M75 q81 b1) fun x82 => zb r77 fun q84 => zb (zsa M75 20 q84 b1 x82) fun M85 => zb (zgr M85 12 60 o) fun r87 => zb (zgr M85 12 7 o) fun r89 => zb r89 fun q91 => zb (zai M85 q91 b1) fun x92 => zb r87 fun q94 => zb (zsa M85 20 q94 b1 x92) fun M95 => zb (zgr M95 12 62 o) fun r97 => zb (zgr M95 12 39 o) fun r99 => zb r99 fun q101 => zb (zai M95 q101 b1) fun x102 => zb r97 fun q104 => zb (zsa M95 20 q104 b1 x102) fun M105 => zb (zgr M105 12 63 o) fun r107 => zb (zgr M105 12 40 o) fun r109 => zb r109 fun q111 => zb (zai M105 q111 b1) fun x112 => zb r107 fun q114 => zb (zsa M105 20 q114 b1 x112) fun M115 => zb (zgr M115 12 68 o) fun r117 => zb (zgr M115 12 41 o) fun r119 => zb r119 fun q121 => zb (zab M115 q121 b1) fun x122 => zb r117 fun q124 => zb (zsb M115 q124 b1 x122) fun M125 => f_221_63 z M125 o ((b1 + 1)))
set_option maxRecDepth 20000 in
theorem k_221_237 (d : Nat) : ∀ (z : Nat) (M : ZMem) (o : Nat) (b1 : Int32) (out : Int32 × ZMem), f_221_237 z M o b1 = some out → zgo none (d) 221 237 [(0, zrf (some o)), (1, .int b1)] [] M (some (.int out.1), out.2) := by
  intro z
  induction z with
  | zero => intro M o b1 out h; cases h
  | succ z ih =>
    intro M o b1 out h
    rw [f_221_237] at h
    refine zo_iload_n (p' := 238) (zi_221 rfl) rfl rfl ?_
    refine zo_bipush (p' := 240) (v := 8) (zi_221 rfl) rfl rfl ?_
    by_cases hc225 : 8 ≤ b1
    · rw [if_pos hc225] at h
      refine zo_icT (p' := 273) (zi_221 rfl) rfl hc225 ?_
      refine zo_aload_n (p' := 274) (zi_221 rfl) rfl rfl ?_
      obtain ⟨x226, hx227, g248⟩ := zb_of h
      refine zo_getI (p' := 277) (zi_221 rfl) rfl zl_19_7 hx227 ?_
      have g249 := Option.some.inj g248
      subst g249
      exact zo_iret (zi_221 rfl) rfl ⟨rfl, rfl⟩
    · rw [if_neg hc225] at h
      refine zo_icF (p' := 243) (zi_221 rfl) rfl rfl hc225 ?_
      refine zo_aload_n (p' := 244) (zi_221 rfl) rfl rfl ?_
      obtain ⟨r228, hx229, g250⟩ := zb_of h
      refine zo_getR (p' := 247) (zi_221 rfl) rfl zl_19_211 hx229 ?_
      refine zo_iload_n (p' := 248) (zi_221 rfl) rfl rfl ?_
      refine zo_aload_n (p' := 249) (zi_221 rfl) rfl rfl ?_
      obtain ⟨r230, hx231, g251⟩ := zb_of g250
      refine zo_getR (p' := 252) (zi_221 rfl) rfl zl_19_150 hx231 ?_
      refine zo_iload_n (p' := 253) (zi_221 rfl) rfl rfl ?_
      obtain ⟨q232, h0, g252⟩ := zb_of g251
      subst h0
      obtain ⟨x233, hx234, g253⟩ := zb_of g252
      refine zo_iald (p' := 254) (zi_221 rfl) rfl hx234 ?_
      obtain ⟨q235, h0, g254⟩ := zb_of g253
      subst h0
      obtain ⟨M236, hx237, g255⟩ := zb_of g254
      refine zo_iast (p' := 255) (zi_221 rfl) rfl hx237 ?_
      refine zo_aload_n (p' := 256) (zi_221 rfl) rfl rfl ?_
      obtain ⟨r238, hx239, g256⟩ := zb_of g255
      refine zo_getR (p' := 259) (zi_221 rfl) rfl zl_19_214 hx239 ?_
      refine zo_iload_n (p' := 260) (zi_221 rfl) rfl rfl ?_
      refine zo_aload_n (p' := 261) (zi_221 rfl) rfl rfl ?_
      obtain ⟨r240, hx241, g257⟩ := zb_of g256
      refine zo_getR (p' := 264) (zi_221 rfl) rfl zl_19_153 hx241 ?_
      refine zo_iload_n (p' := 265) (zi_221 rfl) rfl rfl ?_
      obtain ⟨q242, h0, g258⟩ := zb_of g257
      subst h0
      obtain ⟨x243, hx244, g259⟩ := zb_of g258
      refine zo_iald (p' := 266) (zi_221 rfl) rfl hx244 ?_
      obtain ⟨q245, h0, g260⟩ := zb_of g259
      subst h0
      obtain ⟨M246, hx247, g261⟩ := zb_of g260
      refine zo_iast (p' := 267) (zi_221 rfl) rfl hx247 ?_
      refine zo_iinc (p' := 270) (v := (b1 + 1)) (L' := [(0, zrf (some o)), (1, .int ((b1 + 1)))]) (zi_221 rfl) rfl zm_221_1 rfl rfl ⟨Or.inr ⟨by decide, rfl, fun _ => zrf_cat _⟩, ⟨Or.inl ⟨rfl, rfl⟩, trivial⟩⟩ ?_
      refine zo_goto (p' := 237) (zi_221 rfl) rfl ?_
      refine zgo_sub (L' := [(0, zrf (some o)), (1, .int (((b1 + 1))))]) (⟨rfl, rfl, trivial⟩) ?_
      exact ih M246 o ((b1 + 1)) _ g261
set_option maxRecDepth 20000 in
theorem k_221_199 (d : Nat) : ∀ (z : Nat) (M : ZMem) (o : Nat) (b1 : Int32) (out : Int32 × ZMem), f_221_199 z M o b1 = some out → zgo none (d) 221 199 [(0, zrf (some o)), (1, .int b1)] [] M (some (.int out.1), out.2) := by
  intro z
  induction z with
  | zero => intro M o b1 out h; cases h
  | succ z ih =>
    intro M o b1 out h
    rw [f_221_199] at h
    refine zo_iload_n (p' := 200) (zi_221 rfl) rfl rfl ?_
    refine zo_bipush (p' := 202) (v := 10) (zi_221 rfl) rfl rfl ?_
    by_cases hc192 : 10 ≤ b1
    · rw [if_pos hc192] at h
      refine zo_icT (p' := 235) (zi_221 rfl) rfl hc192 ?_
      refine zo_iconst (p' := 236) (v := 0) (zi_221 rfl) rfl rfl ?_
      refine zo_istore_n (p' := 237) (L' := [(0, zrf (some o)), (1, .int 0)]) (zi_221 rfl) rfl zm_221_1 ⟨Or.inr ⟨by decide, rfl, fun _ => zrf_cat _⟩, ⟨Or.inl ⟨rfl, rfl⟩, trivial⟩⟩ ?_
      refine zgo_sub (L' := [(0, zrf (some o)), (1, .int 0)]) (⟨rfl, rfl, trivial⟩) ?_
      exact k_221_237 _ zF M o 0 _ h
    · rw [if_neg hc192] at h
      refine zo_icF (p' := 205) (zi_221 rfl) rfl rfl hc192 ?_
      refine zo_aload_n (p' := 206) (zi_221 rfl) rfl rfl ?_
      obtain ⟨r193, hx194, g213⟩ := zb_of h
      refine zo_getR (p' := 209) (zi_221 rfl) rfl zl_19_205 hx194 ?_
      refine zo_iload_n (p' := 210) (zi_221 rfl) rfl rfl ?_
      refine zo_aload_n (p' := 211) (zi_221 rfl) rfl rfl ?_
      obtain ⟨r195, hx196, g214⟩ := zb_of g213
      refine zo_getR (p' := 214) (zi_221 rfl) rfl zl_19_144 hx196 ?_
      refine zo_iload_n (p' := 215) (zi_221 rfl) rfl rfl ?_
      obtain ⟨q197, h0, g215⟩ := zb_of g214
      subst h0
      obtain ⟨x198, hx199, g216⟩ := zb_of g215
      refine zo_iald (p' := 216) (zi_221 rfl) rfl hx199 ?_
      obtain ⟨q200, h0, g217⟩ := zb_of g216
      subst h0
      obtain ⟨M201, hx202, g218⟩ := zb_of g217
      refine zo_iast (p' := 217) (zi_221 rfl) rfl hx202 ?_
      refine zo_aload_n (p' := 218) (zi_221 rfl) rfl rfl ?_
      obtain ⟨r203, hx204, g219⟩ := zb_of g218
      refine zo_getR (p' := 221) (zi_221 rfl) rfl zl_19_208 hx204 ?_
      refine zo_iload_n (p' := 222) (zi_221 rfl) rfl rfl ?_
      refine zo_aload_n (p' := 223) (zi_221 rfl) rfl rfl ?_
      obtain ⟨r205, hx206, g220⟩ := zb_of g219
      refine zo_getR (p' := 226) (zi_221 rfl) rfl zl_19_147 hx206 ?_
      refine zo_iload_n (p' := 227) (zi_221 rfl) rfl rfl ?_
      obtain ⟨q207, h0, g221⟩ := zb_of g220
      subst h0
      obtain ⟨x208, hx209, g222⟩ := zb_of g221
      refine zo_iald (p' := 228) (zi_221 rfl) rfl hx209 ?_
      obtain ⟨q210, h0, g223⟩ := zb_of g222
      subst h0
      obtain ⟨M211, hx212, g224⟩ := zb_of g223
      refine zo_iast (p' := 229) (zi_221 rfl) rfl hx212 ?_
      refine zo_iinc (p' := 232) (v := (b1 + 1)) (L' := [(0, zrf (some o)), (1, .int ((b1 + 1)))]) (zi_221 rfl) rfl zm_221_1 rfl rfl ⟨Or.inr ⟨by decide, rfl, fun _ => zrf_cat _⟩, ⟨Or.inl ⟨rfl, rfl⟩, trivial⟩⟩ ?_
      refine zo_goto (p' := 199) (zi_221 rfl) rfl ?_
      refine zgo_sub (L' := [(0, zrf (some o)), (1, .int (((b1 + 1))))]) (⟨rfl, rfl, trivial⟩) ?_
      exact ih M211 o ((b1 + 1)) _ g224
set_option maxRecDepth 20000 in
theorem k_221_173 (d : Nat) : ∀ (z : Nat) (M : ZMem) (o : Nat) (b1 : Int32) (out : Int32 × ZMem), f_221_173 z M o b1 = some out → zgo none (d) 221 173 [(0, zrf (some o)), (1, .int b1)] [] M (some (.int out.1), out.2) := by
  intro z
  induction z with
  | zero => intro M o b1 out h; cases h
  | succ z ih =>
    intro M o b1 out h
    rw [f_221_173] at h
    refine zo_iload_n (p' := 174) (zi_221 rfl) rfl rfl ?_
    refine zo_bipush (p' := 176) (v := 24) (zi_221 rfl) rfl rfl ?_
    by_cases hc175 : 24 ≤ b1
    · rw [if_pos hc175] at h
      refine zo_icT (p' := 197) (zi_221 rfl) rfl hc175 ?_
      refine zo_iconst (p' := 198) (v := 0) (zi_221 rfl) rfl rfl ?_
      refine zo_istore_n (p' := 199) (L' := [(0, zrf (some o)), (1, .int 0)]) (zi_221 rfl) rfl zm_221_1 ⟨Or.inr ⟨by decide, rfl, fun _ => zrf_cat _⟩, ⟨Or.inl ⟨rfl, rfl⟩, trivial⟩⟩ ?_
      refine zgo_sub (L' := [(0, zrf (some o)), (1, .int 0)]) (⟨rfl, rfl, trivial⟩) ?_
      exact k_221_199 _ zF M o 0 _ h
    · rw [if_neg hc175] at h
      refine zo_icF (p' := 179) (zi_221 rfl) rfl rfl hc175 ?_
      refine zo_aload_n (p' := 180) (zi_221 rfl) rfl rfl ?_
      obtain ⟨r176, hx177, g186⟩ := zb_of h
      refine zo_getR (p' := 183) (zi_221 rfl) rfl zl_19_196 hx177 ?_
      refine zo_iload_n (p' := 184) (zi_221 rfl) rfl rfl ?_
      refine zo_aload_n (p' := 185) (zi_221 rfl) rfl rfl ?_
      obtain ⟨r178, hx179, g187⟩ := zb_of g186
      refine zo_getR (p' := 188) (zi_221 rfl) rfl zl_19_35 hx179 ?_
      refine zo_iload_n (p' := 189) (zi_221 rfl) rfl rfl ?_
      obtain ⟨q180, h0, g188⟩ := zb_of g187
      subst h0
      obtain ⟨x181, hx182, g189⟩ := zb_of g188
      refine zo_iald (p' := 190) (zi_221 rfl) rfl hx182 ?_
      obtain ⟨q183, h0, g190⟩ := zb_of g189
      subst h0
      obtain ⟨M184, hx185, g191⟩ := zb_of g190
      refine zo_iast (p' := 191) (zi_221 rfl) rfl hx185 ?_
      refine zo_iinc (p' := 194) (v := (b1 + 1)) (L' := [(0, zrf (some o)), (1, .int ((b1 + 1)))]) (zi_221 rfl) rfl zm_221_1 rfl rfl ⟨Or.inr ⟨by decide, rfl, fun _ => zrf_cat _⟩, ⟨Or.inl ⟨rfl, rfl⟩, trivial⟩⟩ ?_
      refine zo_goto (p' := 173) (zi_221 rfl) rfl ?_
      refine zgo_sub (L' := [(0, zrf (some o)), (1, .int (((b1 + 1))))]) (⟨rfl, rfl, trivial⟩) ?_
      exact ih M184 o ((b1 + 1)) _ g191
set_option maxRecDepth 20000 in
theorem k_221_63 (d : Nat) : ∀ (z : Nat) (M : ZMem) (o : Nat) (b1 : Int32) (out : Int32 × ZMem), f_221_63 z M o b1 = some out → zgo none (d) 221 63 [(0, zrf (some o)), (1, .int b1)] [] M (some (.int out.1), out.2) := by
  intro z
  induction z with
  | zero => intro M o b1 out h; cases h
  | succ z ih =>
    intro M o b1 out h
    rw [f_221_63] at h
    refine zo_iload_n (p' := 64) (zi_221 rfl) rfl rfl ?_
    refine zo_bipush (p' := 66) (v := 6) (zi_221 rfl) rfl rfl ?_
    by_cases hc46 : 6 ≤ b1
    · rw [if_pos hc46] at h
      refine zo_icT (p' := 171) (zi_221 rfl) rfl hc46 ?_
      refine zo_iconst (p' := 172) (v := 0) (zi_221 rfl) rfl rfl ?_
      refine zo_istore_n (p' := 173) (L' := [(0, zrf (some o)), (1, .int 0)]) (zi_221 rfl) rfl zm_221_1 ⟨Or.inr ⟨by decide, rfl, fun _ => zrf_cat _⟩, ⟨Or.inl ⟨rfl, rfl⟩, trivial⟩⟩ ?_
      refine zgo_sub (L' := [(0, zrf (some o)), (1, .int 0)]) (⟨rfl, rfl, trivial⟩) ?_
      exact k_221_173 _ zF M o 0 _ h
    · rw [if_neg hc46] at h
      refine zo_icF (p' := 69) (zi_221 rfl) rfl rfl hc46 ?_
      refine zo_aload_n (p' := 70) (zi_221 rfl) rfl rfl ?_
      obtain ⟨r47, hx48, g127⟩ := zb_of h
      refine zo_getR (p' := 73) (zi_221 rfl) rfl zl_19_181 hx48 ?_
      refine zo_iload_n (p' := 74) (zi_221 rfl) rfl rfl ?_
      refine zo_aload_n (p' := 75) (zi_221 rfl) rfl rfl ?_
      obtain ⟨r49, hx50, g128⟩ := zb_of g127
      refine zo_getR (p' := 78) (zi_221 rfl) rfl zl_19_19 hx50 ?_
      refine zo_iload_n (p' := 79) (zi_221 rfl) rfl rfl ?_
      obtain ⟨q51, h0, g129⟩ := zb_of g128
      subst h0
      obtain ⟨x52, hx53, g130⟩ := zb_of g129
      refine zo_iald (p' := 80) (zi_221 rfl) rfl hx53 ?_
      obtain ⟨q54, h0, g131⟩ := zb_of g130
      subst h0
      obtain ⟨M55, hx56, g132⟩ := zb_of g131
      refine zo_iast (p' := 81) (zi_221 rfl) rfl hx56 ?_
      refine zo_aload_n (p' := 82) (zi_221 rfl) rfl rfl ?_
      obtain ⟨r57, hx58, g133⟩ := zb_of g132
      refine zo_getR (p' := 85) (zi_221 rfl) rfl zl_19_184 hx58 ?_
      refine zo_iload_n (p' := 86) (zi_221 rfl) rfl rfl ?_
      refine zo_aload_n (p' := 87) (zi_221 rfl) rfl rfl ?_
      obtain ⟨r59, hx60, g134⟩ := zb_of g133
      refine zo_getR (p' := 90) (zi_221 rfl) rfl zl_19_23 hx60 ?_
      refine zo_iload_n (p' := 91) (zi_221 rfl) rfl rfl ?_
      obtain ⟨q61, h0, g135⟩ := zb_of g134
      subst h0
      obtain ⟨x62, hx63, g136⟩ := zb_of g135
      refine zo_iald (p' := 92) (zi_221 rfl) rfl hx63 ?_
      obtain ⟨q64, h0, g137⟩ := zb_of g136
      subst h0
      obtain ⟨M65, hx66, g138⟩ := zb_of g137
      refine zo_iast (p' := 93) (zi_221 rfl) rfl hx66 ?_
      refine zo_aload_n (p' := 94) (zi_221 rfl) rfl rfl ?_
      obtain ⟨r67, hx68, g139⟩ := zb_of g138
      refine zo_getR (p' := 97) (zi_221 rfl) rfl zl_19_187 hx68 ?_
      refine zo_iload_n (p' := 98) (zi_221 rfl) rfl rfl ?_
      refine zo_aload_n (p' := 99) (zi_221 rfl) rfl rfl ?_
      obtain ⟨r69, hx70, g140⟩ := zb_of g139
      refine zo_getR (p' := 102) (zi_221 rfl) rfl zl_19_26 hx70 ?_
      refine zo_iload_n (p' := 103) (zi_221 rfl) rfl rfl ?_
      obtain ⟨q71, h0, g141⟩ := zb_of g140
      subst h0
      obtain ⟨x72, hx73, g142⟩ := zb_of g141
      refine zo_iald (p' := 104) (zi_221 rfl) rfl hx73 ?_
      obtain ⟨q74, h0, g143⟩ := zb_of g142
      subst h0
      obtain ⟨M75, hx76, g144⟩ := zb_of g143
      refine zo_iast (p' := 105) (zi_221 rfl) rfl hx76 ?_
      refine zo_aload_n (p' := 106) (zi_221 rfl) rfl rfl ?_
      obtain ⟨r77, hx78, g145⟩ := zb_of g144
      refine zo_getR (p' := 109) (zi_221 rfl) rfl zl_19_190 hx78 ?_
      refine zo_iload_n (p' := 110) (zi_221 rfl) rfl rfl ?_
      refine zo_aload_n (p' := 111) (zi_221 rfl) rfl rfl ?_
      obtain ⟨r79, hx80, g146⟩ := zb_of g145
      refine zo_getR (p' := 114) (zi_221 rfl) rfl zl_19_29 hx80 ?_
      refine zo_iload_n (p' := 115) (zi_221 rfl) rfl rfl ?_
      obtain ⟨q81, h0, g147⟩ := zb_of g146
      subst h0
      obtain ⟨x82, hx83, g148⟩ := zb_of g147
      refine zo_iald (p' := 116) (zi_221 rfl) rfl hx83 ?_
      obtain ⟨q84, h0, g149⟩ := zb_of g148
      subst h0
      obtain ⟨M85, hx86, g150⟩ := zb_of g149
      refine zo_iast (p' := 117) (zi_221 rfl) rfl hx86 ?_
      refine zo_aload_n (p' := 118) (zi_221 rfl) rfl rfl ?_
      obtain ⟨r87, hx88, g151⟩ := zb_of g150
      refine zo_getR (p' := 121) (zi_221 rfl) rfl zl_19_193 hx88 ?_
      refine zo_iload_n (p' := 122) (zi_221 rfl) rfl rfl ?_
      refine zo_aload_n (p' := 123) (zi_221 rfl) rfl rfl ?_
      obtain ⟨r89, hx90, g152⟩ := zb_of g151
      refine zo_getR (p' := 126) (zi_221 rfl) rfl zl_19_32 hx90 ?_
      refine zo_iload_n (p' := 127) (zi_221 rfl) rfl rfl ?_
      obtain ⟨q91, h0, g153⟩ := zb_of g152
      subst h0
      obtain ⟨x92, hx93, g154⟩ := zb_of g153
      refine zo_iald (p' := 128) (zi_221 rfl) rfl hx93 ?_
      obtain ⟨q94, h0, g155⟩ := zb_of g154
      subst h0
      obtain ⟨M95, hx96, g156⟩ := zb_of g155
      refine zo_iast (p' := 129) (zi_221 rfl) rfl hx96 ?_
      refine zo_aload_n (p' := 130) (zi_221 rfl) rfl rfl ?_
      obtain ⟨r97, hx98, g157⟩ := zb_of g156
      refine zo_getR (p' := 133) (zi_221 rfl) rfl zl_19_199 hx98 ?_
      refine zo_iload_n (p' := 134) (zi_221 rfl) rfl rfl ?_
      refine zo_aload_n (p' := 135) (zi_221 rfl) rfl rfl ?_
      obtain ⟨r99, hx100, g158⟩ := zb_of g157
      refine zo_getR (p' := 138) (zi_221 rfl) rfl zl_19_129 hx100 ?_
      refine zo_iload_n (p' := 139) (zi_221 rfl) rfl rfl ?_
      obtain ⟨q101, h0, g159⟩ := zb_of g158
      subst h0
      obtain ⟨x102, hx103, g160⟩ := zb_of g159
      refine zo_iald (p' := 140) (zi_221 rfl) rfl hx103 ?_
      obtain ⟨q104, h0, g161⟩ := zb_of g160
      subst h0
      obtain ⟨M105, hx106, g162⟩ := zb_of g161
      refine zo_iast (p' := 141) (zi_221 rfl) rfl hx106 ?_
      refine zo_aload_n (p' := 142) (zi_221 rfl) rfl rfl ?_
      obtain ⟨r107, hx108, g163⟩ := zb_of g162
      refine zo_getR (p' := 145) (zi_221 rfl) rfl zl_19_202 hx108 ?_
      refine zo_iload_n (p' := 146) (zi_221 rfl) rfl rfl ?_
      refine zo_aload_n (p' := 147) (zi_221 rfl) rfl rfl ?_
      obtain ⟨r109, hx110, g164⟩ := zb_of g163
      refine zo_getR (p' := 150) (zi_221 rfl) rfl zl_19_132 hx110 ?_
      refine zo_iload_n (p' := 151) (zi_221 rfl) rfl rfl ?_
      obtain ⟨q111, h0, g165⟩ := zb_of g164
      subst h0
      obtain ⟨x112, hx113, g166⟩ := zb_of g165
      refine zo_iald (p' := 152) (zi_221 rfl) rfl hx113 ?_
      obtain ⟨q114, h0, g167⟩ := zb_of g166
      subst h0
      obtain ⟨M115, hx116, g168⟩ := zb_of g167
      refine zo_iast (p' := 153) (zi_221 rfl) rfl hx116 ?_
      refine zo_aload_n (p' := 154) (zi_221 rfl) rfl rfl ?_
      obtain ⟨r117, hx118, g169⟩ := zb_of g168
      refine zo_getR (p' := 157) (zi_221 rfl) rfl zl_19_217 hx118 ?_
      refine zo_iload_n (p' := 158) (zi_221 rfl) rfl rfl ?_
      refine zo_aload_n (p' := 159) (zi_221 rfl) rfl rfl ?_
      obtain ⟨r119, hx120, g170⟩ := zb_of g169
      refine zo_getR (p' := 162) (zi_221 rfl) rfl zl_19_135 hx120 ?_
      refine zo_iload_n (p' := 163) (zi_221 rfl) rfl rfl ?_
      obtain ⟨q121, h0, g171⟩ := zb_of g170
      subst h0
      obtain ⟨x122, hx123, g172⟩ := zb_of g171
      refine zo_bald (p' := 164) (zi_221 rfl) rfl hx123 ?_
      obtain ⟨q124, h0, g173⟩ := zb_of g172
      subst h0
      obtain ⟨M125, hx126, g174⟩ := zb_of g173
      refine zo_bast (p' := 165) (zi_221 rfl) rfl hx126 ?_
      refine zo_iinc (p' := 168) (v := (b1 + 1)) (L' := [(0, zrf (some o)), (1, .int ((b1 + 1)))]) (zi_221 rfl) rfl zm_221_1 rfl rfl ⟨Or.inr ⟨by decide, rfl, fun _ => zrf_cat _⟩, ⟨Or.inl ⟨rfl, rfl⟩, trivial⟩⟩ ?_
      refine zo_goto (p' := 63) (zi_221 rfl) rfl ?_
      refine zgo_sub (L' := [(0, zrf (some o)), (1, .int (((b1 + 1))))]) (⟨rfl, rfl, trivial⟩) ?_
      exact ih M125 o ((b1 + 1)) _ g174
def f_221 (M : ZMem) (o : Nat) : Option (Int32 × ZMem) := if zok M 12 o = true then (zb (zpf M 12 48 o (.int 1) false) fun M1 => zb (zgi M1 12 10 o) fun x3 => zb (zpf M1 12 49 o (.int x3) false) fun M5 => zb (zgi M5 12 0 o) fun x7 => zb (zpf M5 12 50 o (.int x7) false) fun M9 => zb (zgi M9 12 1 o) fun x11 => zb (zpf M9 12 51 o (.int x11) false) fun M13 => zb (zgi M13 12 2 o) fun x15 => zb (zpf M13 12 52 o (.int x15) false) fun M17 => zb (zgi M17 12 38 o) fun x19 => zb (zpf M17 12 53 o (.int x19) false) fun M21 => zb (zgi M21 12 42 o) fun x23 => zb (zpf M21 12 54 o (.int x23) false) fun M25 => zb (zgi M25 12 43 o) fun x27 => zb (zpf M25 12 55 o (.int x27) false) fun M29 => f_221_63 zF M29 o 0) else none
theorem f_221_ok {M : ZMem} {o : Nat} {out : Int32 × ZMem} (h : f_221 M o = some out) : zok M 12 o = true := by
  unfold f_221 at h
  by_cases hok : zok M 12 o = true
  · exact hok
  · rw [if_neg hok] at h; cases h
set_option maxRecDepth 20000 in
theorem k_221 (d : Nat) {M : ZMem} {o : Nat} {out : Int32 × ZMem} (h : f_221 M o = some out) : zrn (d) 221 [zrf (some o)] M (some (.int out.1), out.2) := by
  unfold f_221 at h
  by_cases hok : zok M 12 o = true
  · rw [if_pos hok] at h
    refine zrn_of (L := [(0, zrf (some o))]) rfl ?_
    refine zo_aload_n (p' := 1) (zi_221 rfl) rfl rfl ?_
    refine zo_iconst (p' := 2) (v := 1) (zi_221 rfl) rfl rfl ?_
    obtain ⟨M1, hx2, g31⟩ := zb_of h
    refine zo_putI (p' := 5) (zi_221 rfl) rfl zl_19_156 (zpb_221 _) hx2 ?_
    refine zo_aload_n (p' := 6) (zi_221 rfl) rfl rfl ?_
    refine zo_aload_n (p' := 7) (zi_221 rfl) rfl rfl ?_
    obtain ⟨x3, hx4, g32⟩ := zb_of g31
    refine zo_getI (p' := 10) (zi_221 rfl) rfl zl_19_41 hx4 ?_
    obtain ⟨M5, hx6, g33⟩ := zb_of g32
    refine zo_putI (p' := 13) (zi_221 rfl) rfl zl_19_160 (zpb_221 _) hx6 ?_
    refine zo_aload_n (p' := 14) (zi_221 rfl) rfl rfl ?_
    refine zo_aload_n (p' := 15) (zi_221 rfl) rfl rfl ?_
    obtain ⟨x7, hx8, g34⟩ := zb_of g33
    refine zo_getI (p' := 18) (zi_221 rfl) rfl zl_19_7 hx8 ?_
    obtain ⟨M9, hx10, g35⟩ := zb_of g34
    refine zo_putI (p' := 21) (zi_221 rfl) rfl zl_19_163 (zpb_221 _) hx10 ?_
    refine zo_aload_n (p' := 22) (zi_221 rfl) rfl rfl ?_
    refine zo_aload_n (p' := 23) (zi_221 rfl) rfl rfl ?_
    obtain ⟨x11, hx12, g36⟩ := zb_of g35
    refine zo_getI (p' := 26) (zi_221 rfl) rfl zl_19_13 hx12 ?_
    obtain ⟨M13, hx14, g37⟩ := zb_of g36
    refine zo_putI (p' := 29) (zi_221 rfl) rfl zl_19_166 (zpb_221 _) hx14 ?_
    refine zo_aload_n (p' := 30) (zi_221 rfl) rfl rfl ?_
    refine zo_aload_n (p' := 31) (zi_221 rfl) rfl rfl ?_
    obtain ⟨x15, hx16, g38⟩ := zb_of g37
    refine zo_getI (p' := 34) (zi_221 rfl) rfl zl_19_16 hx16 ?_
    obtain ⟨M17, hx18, g39⟩ := zb_of g38
    refine zo_putI (p' := 37) (zi_221 rfl) rfl zl_19_169 (zpb_221 _) hx18 ?_
    refine zo_aload_n (p' := 38) (zi_221 rfl) rfl rfl ?_
    refine zo_aload_n (p' := 39) (zi_221 rfl) rfl rfl ?_
    obtain ⟨x19, hx20, g40⟩ := zb_of g39
    refine zo_getI (p' := 42) (zi_221 rfl) rfl zl_19_126 hx20 ?_
    obtain ⟨M21, hx22, g41⟩ := zb_of g40
    refine zo_putI (p' := 45) (zi_221 rfl) rfl zl_19_172 (zpb_221 _) hx22 ?_
    refine zo_aload_n (p' := 46) (zi_221 rfl) rfl rfl ?_
    refine zo_aload_n (p' := 47) (zi_221 rfl) rfl rfl ?_
    obtain ⟨x23, hx24, g42⟩ := zb_of g41
    refine zo_getI (p' := 50) (zi_221 rfl) rfl zl_19_138 hx24 ?_
    obtain ⟨M25, hx26, g43⟩ := zb_of g42
    refine zo_putI (p' := 53) (zi_221 rfl) rfl zl_19_175 (zpb_221 _) hx26 ?_
    refine zo_aload_n (p' := 54) (zi_221 rfl) rfl rfl ?_
    refine zo_aload_n (p' := 55) (zi_221 rfl) rfl rfl ?_
    obtain ⟨x27, hx28, g44⟩ := zb_of g43
    refine zo_getI (p' := 58) (zi_221 rfl) rfl zl_19_141 hx28 ?_
    obtain ⟨M29, hx30, g45⟩ := zb_of g44
    refine zo_putI (p' := 61) (zi_221 rfl) rfl zl_19_178 (zpb_221 _) hx30 ?_
    refine zo_iconst (p' := 62) (v := 0) (zi_221 rfl) rfl rfl ?_
    refine zo_istore_n (p' := 63) (L' := [(0, zrf (some o)), (1, .int 0)]) (zi_221 rfl) rfl zm_221_1 ⟨Or.inr ⟨by decide, rfl, fun _ => zrf_cat _⟩, ⟨Or.inl ⟨rfl, rfl⟩, trivial⟩⟩ ?_
    refine zgo_sub (L' := [(0, zrf (some o)), (1, .int 0)]) (⟨rfl, rfl, trivial⟩) ?_
    exact k_221_63 _ zF M29 o 0 _ g45
  · rw [if_neg hok] at h; cases h
/-- SlateHalvesModel.undo()I -/
def f_222_242 : Nat → ZMem → Nat → Int32 → Option (Int32 × ZMem)
  | 0, _, _, _ => none
  | z + 1, M, o, b1 => if 8 ≤ b1 then (zb (zgi M 12 0 o) fun x228 => some (x228, M)) else (zb (zgr M 12 46 o) fun r230 => zb (zgr M 12 66 o) fun r232 => zb r232 fun q234 => zb (zai M q234 b1) fun x235 => zb r230 fun q237 => zb (zsa M 20 q237 b1 x235) fun M238 => zb (zgr M238 12 47 o) fun r240 => zb (zgr M238 12 67 o) fun r242 => zb r242 fun q244 => zb (zai M238 q244 b1) fun x245 => zb r240 fun q247 => zb (zsa M238 20 q247 b1 x245) fun M248 => f_222_242 z M248 o ((b1 + 1)))
def f_222_204 : Nat → ZMem → Nat → Int32 → Option (Int32 × ZMem)
  | 0, _, _, _ => none
  | z + 1, M, o, b1 => if 10 ≤ b1 then (f_222_242 zF M o 0) else (zb (zgr M 12 44 o) fun r195 => zb (zgr M 12 64 o) fun r197 => zb r197 fun q199 => zb (zai M q199 b1) fun x200 => zb r195 fun q202 => zb (zsa M 20 q202 b1 x200) fun M203 => zb (zgr M203 12 45 o) fun r205 => zb (zgr M203 12 65 o) fun r207 => zb r207 fun q209 => zb (zai M203 q209 b1) fun x210 => zb r205 fun q212 => zb (zsa M203 20 q212 b1 x210) fun M213 => f_222_204 z M213 o ((b1 + 1)))
def f_222_178 : Nat → ZMem → Nat → Int32 → Option (Int32 × ZMem)
  | 0, _, _, _ => none
  | z + 1, M, o, b1 => if 24 ≤ b1 then (f_222_204 zF M o 0) else (zb (zgr M 12 8 o) fun r178 => zb (zgr M 12 61 o) fun r180 => zb r180 fun q182 => zb (zai M q182 b1) fun x183 => zb r178 fun q185 => zb (zsa M 20 q185 b1 x183) fun M186 => f_222_178 z M186 o ((b1 + 1)))
def f_222_68 : Nat → ZMem → Nat → Int32 → Option (Int32 × ZMem)
  | 0, _, _, _ => none
  | z + 1, M, o, b1 => if 6 ≤ b1 then (f_222_178 zF M o 0) else (zb (zgr M 12 3 o) fun r49 => zb (zgr M 12 56 o) fun r51 => zb r51 fun q53 => zb (zai M q53 b1) fun x54 => zb r49 fun q56 => zb (zsa M 20 q56 b1 x54) fun M57 => zb (zgr M57 12 4 o) fun r59 => zb (zgr M57 12 57 o) fun r61 => zb r61 fun q63 => zb (zai M57 q63 b1) fun x64 => zb r59 fun q66 => zb (zsa M57 20 q66 b1 x64) fun M67 => zb (zgr M67 12 5 o) fun r69 => zb (zgr M67 12 58 o) fun r71 => zb r71 fun q73 => zb (zai M67 q73 b1) fun x74 => zb r69 fun q76 => zb (zsa M67 20 q76 b1 x74) fun M77 => zb (zgr M77 12 6 o) fun r79 => zb (zgr M77 12 59 o) fun r81 => zb r81 fun q83 => zb (zai M77 q83 b1) fun x84 => zb r79 fun q86 => zb (zsa M77 20 q86 b1 x84) fun M87 => zb (zgr M87 12 7 o) fun r89 => zb (zgr M87 12 60 o) fun r91 => zb r91 fun q93 => zb (zai M87 q93 b1) fun x94 => zb r89 fun q96 => zb (zsa M87 20 q96 b1 x94) fun M97 => zb (zgr M97 12 39 o) fun r99 => zb (zgr M97 12 62 o) fun r101 => zb r101 fun q103 => zb (zai M97 q103 b1) fun x104 => zb r99 fun q106 => zb (zsa M97 20 q106 b1 x104) fun M107 => zb (zgr M107 12 40 o) fun r109 => zb (zgr M107 12 63 o) fun r111 => zb r111 fun q113 => zb (zai M107 q113 b1) fun x114 => zb r109 fun q116 => zb (zsa M107 20 q116 b1 x114) fun M117 => zb (zgr M117 12 41 o) fun r119 => zb (zgr M117 12 68 o) fun r121 => zb r121 fun q123 => zb (zab M117 q123 b1) fun x124 => zb r119 fun q126 => zb (zsb M117 q126 b1 x124) fun M127 => f_222_68 z M127 o ((b1 + 1)))
set_option maxRecDepth 20000 in
theorem k_222_242 (d : Nat) : ∀ (z : Nat) (M : ZMem) (o : Nat) (b1 : Int32) (out : Int32 × ZMem), f_222_242 z M o b1 = some out → zgo none (d) 222 242 [(0, zrf (some o)), (1, .int b1)] [] M (some (.int out.1), out.2) := by
  intro z
  induction z with
  | zero => intro M o b1 out h; cases h
  | succ z ih =>
    intro M o b1 out h
    rw [f_222_242] at h
    refine zo_iload_n (p' := 243) (zi_222 rfl) rfl rfl ?_
    refine zo_bipush (p' := 245) (v := 8) (zi_222 rfl) rfl rfl ?_
    by_cases hc227 : 8 ≤ b1
    · rw [if_pos hc227] at h
      refine zo_icT (p' := 278) (zi_222 rfl) rfl hc227 ?_
      refine zo_aload_n (p' := 279) (zi_222 rfl) rfl rfl ?_
      obtain ⟨x228, hx229, g250⟩ := zb_of h
      refine zo_getI (p' := 282) (zi_222 rfl) rfl zl_19_7 hx229 ?_
      have g251 := Option.some.inj g250
      subst g251
      exact zo_iret (zi_222 rfl) rfl ⟨rfl, rfl⟩
    · rw [if_neg hc227] at h
      refine zo_icF (p' := 248) (zi_222 rfl) rfl rfl hc227 ?_
      refine zo_aload_n (p' := 249) (zi_222 rfl) rfl rfl ?_
      obtain ⟨r230, hx231, g252⟩ := zb_of h
      refine zo_getR (p' := 252) (zi_222 rfl) rfl zl_19_150 hx231 ?_
      refine zo_iload_n (p' := 253) (zi_222 rfl) rfl rfl ?_
      refine zo_aload_n (p' := 254) (zi_222 rfl) rfl rfl ?_
      obtain ⟨r232, hx233, g253⟩ := zb_of g252
      refine zo_getR (p' := 257) (zi_222 rfl) rfl zl_19_211 hx233 ?_
      refine zo_iload_n (p' := 258) (zi_222 rfl) rfl rfl ?_
      obtain ⟨q234, h0, g254⟩ := zb_of g253
      subst h0
      obtain ⟨x235, hx236, g255⟩ := zb_of g254
      refine zo_iald (p' := 259) (zi_222 rfl) rfl hx236 ?_
      obtain ⟨q237, h0, g256⟩ := zb_of g255
      subst h0
      obtain ⟨M238, hx239, g257⟩ := zb_of g256
      refine zo_iast (p' := 260) (zi_222 rfl) rfl hx239 ?_
      refine zo_aload_n (p' := 261) (zi_222 rfl) rfl rfl ?_
      obtain ⟨r240, hx241, g258⟩ := zb_of g257
      refine zo_getR (p' := 264) (zi_222 rfl) rfl zl_19_153 hx241 ?_
      refine zo_iload_n (p' := 265) (zi_222 rfl) rfl rfl ?_
      refine zo_aload_n (p' := 266) (zi_222 rfl) rfl rfl ?_
      obtain ⟨r242, hx243, g259⟩ := zb_of g258
      refine zo_getR (p' := 269) (zi_222 rfl) rfl zl_19_214 hx243 ?_
      refine zo_iload_n (p' := 270) (zi_222 rfl) rfl rfl ?_
      obtain ⟨q244, h0, g260⟩ := zb_of g259
      subst h0
      obtain ⟨x245, hx246, g261⟩ := zb_of g260
      refine zo_iald (p' := 271) (zi_222 rfl) rfl hx246 ?_
      obtain ⟨q247, h0, g262⟩ := zb_of g261
      subst h0
      obtain ⟨M248, hx249, g263⟩ := zb_of g262
      refine zo_iast (p' := 272) (zi_222 rfl) rfl hx249 ?_
      refine zo_iinc (p' := 275) (v := (b1 + 1)) (L' := [(0, zrf (some o)), (1, .int ((b1 + 1)))]) (zi_222 rfl) rfl zm_222_1 rfl rfl ⟨Or.inr ⟨by decide, rfl, fun _ => zrf_cat _⟩, ⟨Or.inl ⟨rfl, rfl⟩, trivial⟩⟩ ?_
      refine zo_goto (p' := 242) (zi_222 rfl) rfl ?_
      refine zgo_sub (L' := [(0, zrf (some o)), (1, .int (((b1 + 1))))]) (⟨rfl, rfl, trivial⟩) ?_
      exact ih M248 o ((b1 + 1)) _ g263
set_option maxRecDepth 20000 in
theorem k_222_204 (d : Nat) : ∀ (z : Nat) (M : ZMem) (o : Nat) (b1 : Int32) (out : Int32 × ZMem), f_222_204 z M o b1 = some out → zgo none (d) 222 204 [(0, zrf (some o)), (1, .int b1)] [] M (some (.int out.1), out.2) := by
  intro z
  induction z with
  | zero => intro M o b1 out h; cases h
  | succ z ih =>
    intro M o b1 out h
    rw [f_222_204] at h
    refine zo_iload_n (p' := 205) (zi_222 rfl) rfl rfl ?_
    refine zo_bipush (p' := 207) (v := 10) (zi_222 rfl) rfl rfl ?_
    by_cases hc194 : 10 ≤ b1
    · rw [if_pos hc194] at h
      refine zo_icT (p' := 240) (zi_222 rfl) rfl hc194 ?_
      refine zo_iconst (p' := 241) (v := 0) (zi_222 rfl) rfl rfl ?_
      refine zo_istore_n (p' := 242) (L' := [(0, zrf (some o)), (1, .int 0)]) (zi_222 rfl) rfl zm_222_1 ⟨Or.inr ⟨by decide, rfl, fun _ => zrf_cat _⟩, ⟨Or.inl ⟨rfl, rfl⟩, trivial⟩⟩ ?_
      refine zgo_sub (L' := [(0, zrf (some o)), (1, .int 0)]) (⟨rfl, rfl, trivial⟩) ?_
      exact k_222_242 _ zF M o 0 _ h
    · rw [if_neg hc194] at h
      refine zo_icF (p' := 210) (zi_222 rfl) rfl rfl hc194 ?_
      refine zo_aload_n (p' := 211) (zi_222 rfl) rfl rfl ?_
      obtain ⟨r195, hx196, g215⟩ := zb_of h
      refine zo_getR (p' := 214) (zi_222 rfl) rfl zl_19_144 hx196 ?_
      refine zo_iload_n (p' := 215) (zi_222 rfl) rfl rfl ?_
      refine zo_aload_n (p' := 216) (zi_222 rfl) rfl rfl ?_
      obtain ⟨r197, hx198, g216⟩ := zb_of g215
      refine zo_getR (p' := 219) (zi_222 rfl) rfl zl_19_205 hx198 ?_
      refine zo_iload_n (p' := 220) (zi_222 rfl) rfl rfl ?_
      obtain ⟨q199, h0, g217⟩ := zb_of g216
      subst h0
      obtain ⟨x200, hx201, g218⟩ := zb_of g217
      refine zo_iald (p' := 221) (zi_222 rfl) rfl hx201 ?_
      obtain ⟨q202, h0, g219⟩ := zb_of g218
      subst h0
      obtain ⟨M203, hx204, g220⟩ := zb_of g219
      refine zo_iast (p' := 222) (zi_222 rfl) rfl hx204 ?_
      refine zo_aload_n (p' := 223) (zi_222 rfl) rfl rfl ?_
      obtain ⟨r205, hx206, g221⟩ := zb_of g220
      refine zo_getR (p' := 226) (zi_222 rfl) rfl zl_19_147 hx206 ?_
      refine zo_iload_n (p' := 227) (zi_222 rfl) rfl rfl ?_
      refine zo_aload_n (p' := 228) (zi_222 rfl) rfl rfl ?_
      obtain ⟨r207, hx208, g222⟩ := zb_of g221
      refine zo_getR (p' := 231) (zi_222 rfl) rfl zl_19_208 hx208 ?_
      refine zo_iload_n (p' := 232) (zi_222 rfl) rfl rfl ?_
      obtain ⟨q209, h0, g223⟩ := zb_of g222
      subst h0
      obtain ⟨x210, hx211, g224⟩ := zb_of g223
      refine zo_iald (p' := 233) (zi_222 rfl) rfl hx211 ?_
      obtain ⟨q212, h0, g225⟩ := zb_of g224
      subst h0
      obtain ⟨M213, hx214, g226⟩ := zb_of g225
      refine zo_iast (p' := 234) (zi_222 rfl) rfl hx214 ?_
      refine zo_iinc (p' := 237) (v := (b1 + 1)) (L' := [(0, zrf (some o)), (1, .int ((b1 + 1)))]) (zi_222 rfl) rfl zm_222_1 rfl rfl ⟨Or.inr ⟨by decide, rfl, fun _ => zrf_cat _⟩, ⟨Or.inl ⟨rfl, rfl⟩, trivial⟩⟩ ?_
      refine zo_goto (p' := 204) (zi_222 rfl) rfl ?_
      refine zgo_sub (L' := [(0, zrf (some o)), (1, .int (((b1 + 1))))]) (⟨rfl, rfl, trivial⟩) ?_
      exact ih M213 o ((b1 + 1)) _ g226
set_option maxRecDepth 20000 in
theorem k_222_178 (d : Nat) : ∀ (z : Nat) (M : ZMem) (o : Nat) (b1 : Int32) (out : Int32 × ZMem), f_222_178 z M o b1 = some out → zgo none (d) 222 178 [(0, zrf (some o)), (1, .int b1)] [] M (some (.int out.1), out.2) := by
  intro z
  induction z with
  | zero => intro M o b1 out h; cases h
  | succ z ih =>
    intro M o b1 out h
    rw [f_222_178] at h
    refine zo_iload_n (p' := 179) (zi_222 rfl) rfl rfl ?_
    refine zo_bipush (p' := 181) (v := 24) (zi_222 rfl) rfl rfl ?_
    by_cases hc177 : 24 ≤ b1
    · rw [if_pos hc177] at h
      refine zo_icT (p' := 202) (zi_222 rfl) rfl hc177 ?_
      refine zo_iconst (p' := 203) (v := 0) (zi_222 rfl) rfl rfl ?_
      refine zo_istore_n (p' := 204) (L' := [(0, zrf (some o)), (1, .int 0)]) (zi_222 rfl) rfl zm_222_1 ⟨Or.inr ⟨by decide, rfl, fun _ => zrf_cat _⟩, ⟨Or.inl ⟨rfl, rfl⟩, trivial⟩⟩ ?_
      refine zgo_sub (L' := [(0, zrf (some o)), (1, .int 0)]) (⟨rfl, rfl, trivial⟩) ?_
      exact k_222_204 _ zF M o 0 _ h
    · rw [if_neg hc177] at h
      refine zo_icF (p' := 184) (zi_222 rfl) rfl rfl hc177 ?_
      refine zo_aload_n (p' := 185) (zi_222 rfl) rfl rfl ?_
      obtain ⟨r178, hx179, g188⟩ := zb_of h
      refine zo_getR (p' := 188) (zi_222 rfl) rfl zl_19_35 hx179 ?_
      refine zo_iload_n (p' := 189) (zi_222 rfl) rfl rfl ?_
      refine zo_aload_n (p' := 190) (zi_222 rfl) rfl rfl ?_
      obtain ⟨r180, hx181, g189⟩ := zb_of g188
      refine zo_getR (p' := 193) (zi_222 rfl) rfl zl_19_196 hx181 ?_
      refine zo_iload_n (p' := 194) (zi_222 rfl) rfl rfl ?_
      obtain ⟨q182, h0, g190⟩ := zb_of g189
      subst h0
      obtain ⟨x183, hx184, g191⟩ := zb_of g190
      refine zo_iald (p' := 195) (zi_222 rfl) rfl hx184 ?_
      obtain ⟨q185, h0, g192⟩ := zb_of g191
      subst h0
      obtain ⟨M186, hx187, g193⟩ := zb_of g192
      refine zo_iast (p' := 196) (zi_222 rfl) rfl hx187 ?_
      refine zo_iinc (p' := 199) (v := (b1 + 1)) (L' := [(0, zrf (some o)), (1, .int ((b1 + 1)))]) (zi_222 rfl) rfl zm_222_1 rfl rfl ⟨Or.inr ⟨by decide, rfl, fun _ => zrf_cat _⟩, ⟨Or.inl ⟨rfl, rfl⟩, trivial⟩⟩ ?_
      refine zo_goto (p' := 178) (zi_222 rfl) rfl ?_
      refine zgo_sub (L' := [(0, zrf (some o)), (1, .int (((b1 + 1))))]) (⟨rfl, rfl, trivial⟩) ?_
      exact ih M186 o ((b1 + 1)) _ g193
set_option maxRecDepth 20000 in
theorem k_222_68 (d : Nat) : ∀ (z : Nat) (M : ZMem) (o : Nat) (b1 : Int32) (out : Int32 × ZMem), f_222_68 z M o b1 = some out → zgo none (d) 222 68 [(0, zrf (some o)), (1, .int b1)] [] M (some (.int out.1), out.2) := by
  intro z
  induction z with
  | zero => intro M o b1 out h; cases h
  | succ z ih =>
    intro M o b1 out h
    rw [f_222_68] at h
    refine zo_iload_n (p' := 69) (zi_222 rfl) rfl rfl ?_
    refine zo_bipush (p' := 71) (v := 6) (zi_222 rfl) rfl rfl ?_
    by_cases hc48 : 6 ≤ b1
    · rw [if_pos hc48] at h
      refine zo_icT (p' := 176) (zi_222 rfl) rfl hc48 ?_
      refine zo_iconst (p' := 177) (v := 0) (zi_222 rfl) rfl rfl ?_
      refine zo_istore_n (p' := 178) (L' := [(0, zrf (some o)), (1, .int 0)]) (zi_222 rfl) rfl zm_222_1 ⟨Or.inr ⟨by decide, rfl, fun _ => zrf_cat _⟩, ⟨Or.inl ⟨rfl, rfl⟩, trivial⟩⟩ ?_
      refine zgo_sub (L' := [(0, zrf (some o)), (1, .int 0)]) (⟨rfl, rfl, trivial⟩) ?_
      exact k_222_178 _ zF M o 0 _ h
    · rw [if_neg hc48] at h
      refine zo_icF (p' := 74) (zi_222 rfl) rfl rfl hc48 ?_
      refine zo_aload_n (p' := 75) (zi_222 rfl) rfl rfl ?_
      obtain ⟨r49, hx50, g129⟩ := zb_of h
      refine zo_getR (p' := 78) (zi_222 rfl) rfl zl_19_19 hx50 ?_
      refine zo_iload_n (p' := 79) (zi_222 rfl) rfl rfl ?_
      refine zo_aload_n (p' := 80) (zi_222 rfl) rfl rfl ?_
      obtain ⟨r51, hx52, g130⟩ := zb_of g129
      refine zo_getR (p' := 83) (zi_222 rfl) rfl zl_19_181 hx52 ?_
      refine zo_iload_n (p' := 84) (zi_222 rfl) rfl rfl ?_
      obtain ⟨q53, h0, g131⟩ := zb_of g130
      subst h0
      obtain ⟨x54, hx55, g132⟩ := zb_of g131
      refine zo_iald (p' := 85) (zi_222 rfl) rfl hx55 ?_
      obtain ⟨q56, h0, g133⟩ := zb_of g132
      subst h0
      obtain ⟨M57, hx58, g134⟩ := zb_of g133
      refine zo_iast (p' := 86) (zi_222 rfl) rfl hx58 ?_
      refine zo_aload_n (p' := 87) (zi_222 rfl) rfl rfl ?_
      obtain ⟨r59, hx60, g135⟩ := zb_of g134
      refine zo_getR (p' := 90) (zi_222 rfl) rfl zl_19_23 hx60 ?_
      refine zo_iload_n (p' := 91) (zi_222 rfl) rfl rfl ?_
      refine zo_aload_n (p' := 92) (zi_222 rfl) rfl rfl ?_
      obtain ⟨r61, hx62, g136⟩ := zb_of g135
      refine zo_getR (p' := 95) (zi_222 rfl) rfl zl_19_184 hx62 ?_
      refine zo_iload_n (p' := 96) (zi_222 rfl) rfl rfl ?_
      obtain ⟨q63, h0, g137⟩ := zb_of g136
      subst h0
      obtain ⟨x64, hx65, g138⟩ := zb_of g137
      refine zo_iald (p' := 97) (zi_222 rfl) rfl hx65 ?_
      obtain ⟨q66, h0, g139⟩ := zb_of g138
      subst h0
      obtain ⟨M67, hx68, g140⟩ := zb_of g139
      refine zo_iast (p' := 98) (zi_222 rfl) rfl hx68 ?_
      refine zo_aload_n (p' := 99) (zi_222 rfl) rfl rfl ?_
      obtain ⟨r69, hx70, g141⟩ := zb_of g140
      refine zo_getR (p' := 102) (zi_222 rfl) rfl zl_19_26 hx70 ?_
      refine zo_iload_n (p' := 103) (zi_222 rfl) rfl rfl ?_
      refine zo_aload_n (p' := 104) (zi_222 rfl) rfl rfl ?_
      obtain ⟨r71, hx72, g142⟩ := zb_of g141
      refine zo_getR (p' := 107) (zi_222 rfl) rfl zl_19_187 hx72 ?_
      refine zo_iload_n (p' := 108) (zi_222 rfl) rfl rfl ?_
      obtain ⟨q73, h0, g143⟩ := zb_of g142
      subst h0
      obtain ⟨x74, hx75, g144⟩ := zb_of g143
      refine zo_iald (p' := 109) (zi_222 rfl) rfl hx75 ?_
      obtain ⟨q76, h0, g145⟩ := zb_of g144
      subst h0
      obtain ⟨M77, hx78, g146⟩ := zb_of g145
      refine zo_iast (p' := 110) (zi_222 rfl) rfl hx78 ?_
      refine zo_aload_n (p' := 111) (zi_222 rfl) rfl rfl ?_
      obtain ⟨r79, hx80, g147⟩ := zb_of g146
      refine zo_getR (p' := 114) (zi_222 rfl) rfl zl_19_29 hx80 ?_
      refine zo_iload_n (p' := 115) (zi_222 rfl) rfl rfl ?_
      refine zo_aload_n (p' := 116) (zi_222 rfl) rfl rfl ?_
      obtain ⟨r81, hx82, g148⟩ := zb_of g147
      refine zo_getR (p' := 119) (zi_222 rfl) rfl zl_19_190 hx82 ?_
      refine zo_iload_n (p' := 120) (zi_222 rfl) rfl rfl ?_
      obtain ⟨q83, h0, g149⟩ := zb_of g148
      subst h0
      obtain ⟨x84, hx85, g150⟩ := zb_of g149
      refine zo_iald (p' := 121) (zi_222 rfl) rfl hx85 ?_
      obtain ⟨q86, h0, g151⟩ := zb_of g150
      subst h0
      obtain ⟨M87, hx88, g152⟩ := zb_of g151
      refine zo_iast (p' := 122) (zi_222 rfl) rfl hx88 ?_
      refine zo_aload_n (p' := 123) (zi_222 rfl) rfl rfl ?_
      obtain ⟨r89, hx90, g153⟩ := zb_of g152
      refine zo_getR (p' := 126) (zi_222 rfl) rfl zl_19_32 hx90 ?_
      refine zo_iload_n (p' := 127) (zi_222 rfl) rfl rfl ?_
      refine zo_aload_n (p' := 128) (zi_222 rfl) rfl rfl ?_
      obtain ⟨r91, hx92, g154⟩ := zb_of g153
      refine zo_getR (p' := 131) (zi_222 rfl) rfl zl_19_193 hx92 ?_
      refine zo_iload_n (p' := 132) (zi_222 rfl) rfl rfl ?_
      obtain ⟨q93, h0, g155⟩ := zb_of g154
      subst h0
      obtain ⟨x94, hx95, g156⟩ := zb_of g155
      refine zo_iald (p' := 133) (zi_222 rfl) rfl hx95 ?_
      obtain ⟨q96, h0, g157⟩ := zb_of g156
      subst h0
      obtain ⟨M97, hx98, g158⟩ := zb_of g157
      refine zo_iast (p' := 134) (zi_222 rfl) rfl hx98 ?_
      refine zo_aload_n (p' := 135) (zi_222 rfl) rfl rfl ?_
      obtain ⟨r99, hx100, g159⟩ := zb_of g158
      refine zo_getR (p' := 138) (zi_222 rfl) rfl zl_19_129 hx100 ?_
      refine zo_iload_n (p' := 139) (zi_222 rfl) rfl rfl ?_
      refine zo_aload_n (p' := 140) (zi_222 rfl) rfl rfl ?_
      obtain ⟨r101, hx102, g160⟩ := zb_of g159
      refine zo_getR (p' := 143) (zi_222 rfl) rfl zl_19_199 hx102 ?_
      refine zo_iload_n (p' := 144) (zi_222 rfl) rfl rfl ?_
      obtain ⟨q103, h0, g161⟩ := zb_of g160
      subst h0
      obtain ⟨x104, hx105, g162⟩ := zb_of g161
      refine zo_iald (p' := 145) (zi_222 rfl) rfl hx105 ?_
      obtain ⟨q106, h0, g163⟩ := zb_of g162
      subst h0
      obtain ⟨M107, hx108, g164⟩ := zb_of g163
      refine zo_iast (p' := 146) (zi_222 rfl) rfl hx108 ?_
      refine zo_aload_n (p' := 147) (zi_222 rfl) rfl rfl ?_
      obtain ⟨r109, hx110, g165⟩ := zb_of g164
      refine zo_getR (p' := 150) (zi_222 rfl) rfl zl_19_132 hx110 ?_
      refine zo_iload_n (p' := 151) (zi_222 rfl) rfl rfl ?_
      refine zo_aload_n (p' := 152) (zi_222 rfl) rfl rfl ?_
      obtain ⟨r111, hx112, g166⟩ := zb_of g165
      refine zo_getR (p' := 155) (zi_222 rfl) rfl zl_19_202 hx112 ?_
      refine zo_iload_n (p' := 156) (zi_222 rfl) rfl rfl ?_
      obtain ⟨q113, h0, g167⟩ := zb_of g166
      subst h0
      obtain ⟨x114, hx115, g168⟩ := zb_of g167
      refine zo_iald (p' := 157) (zi_222 rfl) rfl hx115 ?_
      obtain ⟨q116, h0, g169⟩ := zb_of g168
      subst h0
      obtain ⟨M117, hx118, g170⟩ := zb_of g169
      refine zo_iast (p' := 158) (zi_222 rfl) rfl hx118 ?_
      refine zo_aload_n (p' := 159) (zi_222 rfl) rfl rfl ?_
      obtain ⟨r119, hx120, g171⟩ := zb_of g170
      refine zo_getR (p' := 162) (zi_222 rfl) rfl zl_19_135 hx120 ?_
      refine zo_iload_n (p' := 163) (zi_222 rfl) rfl rfl ?_
      refine zo_aload_n (p' := 164) (zi_222 rfl) rfl rfl ?_
      obtain ⟨r121, hx122, g172⟩ := zb_of g171
      refine zo_getR (p' := 167) (zi_222 rfl) rfl zl_19_217 hx122 ?_
      refine zo_iload_n (p' := 168) (zi_222 rfl) rfl rfl ?_
      obtain ⟨q123, h0, g173⟩ := zb_of g172
      subst h0
      obtain ⟨x124, hx125, g174⟩ := zb_of g173
      refine zo_bald (p' := 169) (zi_222 rfl) rfl hx125 ?_
      obtain ⟨q126, h0, g175⟩ := zb_of g174
      subst h0
      obtain ⟨M127, hx128, g176⟩ := zb_of g175
      refine zo_bast (p' := 170) (zi_222 rfl) rfl hx128 ?_
      refine zo_iinc (p' := 173) (v := (b1 + 1)) (L' := [(0, zrf (some o)), (1, .int ((b1 + 1)))]) (zi_222 rfl) rfl zm_222_1 rfl rfl ⟨Or.inr ⟨by decide, rfl, fun _ => zrf_cat _⟩, ⟨Or.inl ⟨rfl, rfl⟩, trivial⟩⟩ ?_
      refine zo_goto (p' := 68) (zi_222 rfl) rfl ?_
      refine zgo_sub (L' := [(0, zrf (some o)), (1, .int (((b1 + 1))))]) (⟨rfl, rfl, trivial⟩) ?_
      exact ih M127 o ((b1 + 1)) _ g176
def f_222 (M : ZMem) (o : Nat) : Option (Int32 × ZMem) := if zok M 12 o = true then (zb (zgi M 12 48 o) fun x1 => if ¬ x1 = 0 then (zb (zgi M 12 49 o) fun x4 => zb (zpf M 12 10 o (.int x4) false) fun M6 => zb (zgi M6 12 50 o) fun x8 => zb (zpf M6 12 0 o (.int x8) false) fun M10 => zb (zgi M10 12 51 o) fun x12 => zb (zpf M10 12 1 o (.int x12) false) fun M14 => zb (zgi M14 12 52 o) fun x16 => zb (zpf M14 12 2 o (.int x16) false) fun M18 => zb (zgi M18 12 53 o) fun x20 => zb (zpf M18 12 38 o (.int x20) false) fun M22 => zb (zgi M22 12 54 o) fun x24 => zb (zpf M22 12 42 o (.int x24) false) fun M26 => zb (zgi M26 12 55 o) fun x28 => zb (zpf M26 12 43 o (.int x28) false) fun M30 => f_222_68 zF M30 o 0) else (some ((-3), M))) else none
theorem f_222_ok {M : ZMem} {o : Nat} {out : Int32 × ZMem} (h : f_222 M o = some out) : zok M 12 o = true := by
  unfold f_222 at h
  by_cases hok : zok M 12 o = true
  · exact hok
  · rw [if_neg hok] at h; cases h
set_option maxRecDepth 20000 in
theorem k_222 (d : Nat) {M : ZMem} {o : Nat} {out : Int32 × ZMem} (h : f_222 M o = some out) : zrn (d) 222 [zrf (some o)] M (some (.int out.1), out.2) := by
  unfold f_222 at h
  by_cases hok : zok M 12 o = true
  · rw [if_pos hok] at h
    refine zrn_of (L := [(0, zrf (some o))]) rfl ?_
    refine zo_aload_n (p' := 1) (zi_222 rfl) rfl rfl ?_
    obtain ⟨x1, hx2, g32⟩ := zb_of h
    refine zo_getI (p' := 4) (zi_222 rfl) rfl zl_19_156 hx2 ?_
    by_cases hc3 : ¬ x1 = 0
    · rw [if_pos hc3] at g32
      refine zo_ifT (p' := 10) (zi_222 rfl) rfl hc3 ?_
      refine zo_aload_n (p' := 11) (zi_222 rfl) rfl rfl ?_
      refine zo_aload_n (p' := 12) (zi_222 rfl) rfl rfl ?_
      obtain ⟨x4, hx5, g33⟩ := zb_of g32
      refine zo_getI (p' := 15) (zi_222 rfl) rfl zl_19_160 hx5 ?_
      obtain ⟨M6, hx7, g34⟩ := zb_of g33
      refine zo_putI (p' := 18) (zi_222 rfl) rfl zl_19_41 (zpb_222 _) hx7 ?_
      refine zo_aload_n (p' := 19) (zi_222 rfl) rfl rfl ?_
      refine zo_aload_n (p' := 20) (zi_222 rfl) rfl rfl ?_
      obtain ⟨x8, hx9, g35⟩ := zb_of g34
      refine zo_getI (p' := 23) (zi_222 rfl) rfl zl_19_163 hx9 ?_
      obtain ⟨M10, hx11, g36⟩ := zb_of g35
      refine zo_putI (p' := 26) (zi_222 rfl) rfl zl_19_7 (zpb_222 _) hx11 ?_
      refine zo_aload_n (p' := 27) (zi_222 rfl) rfl rfl ?_
      refine zo_aload_n (p' := 28) (zi_222 rfl) rfl rfl ?_
      obtain ⟨x12, hx13, g37⟩ := zb_of g36
      refine zo_getI (p' := 31) (zi_222 rfl) rfl zl_19_166 hx13 ?_
      obtain ⟨M14, hx15, g38⟩ := zb_of g37
      refine zo_putI (p' := 34) (zi_222 rfl) rfl zl_19_13 (zpb_222 _) hx15 ?_
      refine zo_aload_n (p' := 35) (zi_222 rfl) rfl rfl ?_
      refine zo_aload_n (p' := 36) (zi_222 rfl) rfl rfl ?_
      obtain ⟨x16, hx17, g39⟩ := zb_of g38
      refine zo_getI (p' := 39) (zi_222 rfl) rfl zl_19_169 hx17 ?_
      obtain ⟨M18, hx19, g40⟩ := zb_of g39
      refine zo_putI (p' := 42) (zi_222 rfl) rfl zl_19_16 (zpb_222 _) hx19 ?_
      refine zo_aload_n (p' := 43) (zi_222 rfl) rfl rfl ?_
      refine zo_aload_n (p' := 44) (zi_222 rfl) rfl rfl ?_
      obtain ⟨x20, hx21, g41⟩ := zb_of g40
      refine zo_getI (p' := 47) (zi_222 rfl) rfl zl_19_172 hx21 ?_
      obtain ⟨M22, hx23, g42⟩ := zb_of g41
      refine zo_putI (p' := 50) (zi_222 rfl) rfl zl_19_126 (zpb_222 _) hx23 ?_
      refine zo_aload_n (p' := 51) (zi_222 rfl) rfl rfl ?_
      refine zo_aload_n (p' := 52) (zi_222 rfl) rfl rfl ?_
      obtain ⟨x24, hx25, g43⟩ := zb_of g42
      refine zo_getI (p' := 55) (zi_222 rfl) rfl zl_19_175 hx25 ?_
      obtain ⟨M26, hx27, g44⟩ := zb_of g43
      refine zo_putI (p' := 58) (zi_222 rfl) rfl zl_19_138 (zpb_222 _) hx27 ?_
      refine zo_aload_n (p' := 59) (zi_222 rfl) rfl rfl ?_
      refine zo_aload_n (p' := 60) (zi_222 rfl) rfl rfl ?_
      obtain ⟨x28, hx29, g45⟩ := zb_of g44
      refine zo_getI (p' := 63) (zi_222 rfl) rfl zl_19_178 hx29 ?_
      obtain ⟨M30, hx31, g46⟩ := zb_of g45
      refine zo_putI (p' := 66) (zi_222 rfl) rfl zl_19_141 (zpb_222 _) hx31 ?_
      refine zo_iconst (p' := 67) (v := 0) (zi_222 rfl) rfl rfl ?_
      refine zo_istore_n (p' := 68) (L' := [(0, zrf (some o)), (1, .int 0)]) (zi_222 rfl) rfl zm_222_1 ⟨Or.inr ⟨by decide, rfl, fun _ => zrf_cat _⟩, ⟨Or.inl ⟨rfl, rfl⟩, trivial⟩⟩ ?_
      refine zgo_sub (L' := [(0, zrf (some o)), (1, .int 0)]) (⟨rfl, rfl, trivial⟩) ?_
      exact k_222_68 _ zF M30 o 0 _ g46
    · rw [if_neg hc3] at g32
      refine zo_ifF (p' := 7) (zi_222 rfl) rfl rfl hc3 ?_
      refine zo_bipush (p' := 9) (v := (-3)) (zi_222 rfl) rfl rfl ?_
      have g47 := Option.some.inj g32
      subst g47
      exact zo_iret (zi_222 rfl) rfl ⟨rfl, rfl⟩
  · rw [if_neg hok] at h; cases h
/-- SlateHalvesModel.body(I)V -/
def f_225_19 (M : ZMem) (o : Nat) : Option (ZMem) := zb (zgi M 12 69 o) fun x16 => zb (zpf M 12 69 o (.int ((x16 + 1))) false) fun M18 => some M18
set_option maxRecDepth 20000 in
theorem k_225_19 (d : Nat) : ∀ (M : ZMem) (o : Nat) (out : ZMem), f_225_19 M o = some out → zgo none (d) 225 19 [(0, zrf (some o))] [] M (none, out) := by
  intro M o out h
  unfold f_225_19 at h
  refine zo_aload_n (p' := 20) (zi_225 rfl) rfl rfl ?_
  refine zo_dup (p' := 21) (zi_225 rfl) rfl (zrf_cat _) ?_
  obtain ⟨x16, hx17, g20⟩ := zb_of h
  refine zo_getI (p' := 24) (zi_225 rfl) rfl zl_19_220 hx17 ?_
  refine zo_iconst (p' := 25) (v := 1) (zi_225 rfl) rfl rfl ?_
  refine zo_iadd (p' := 26) (zi_225 rfl) rfl ?_
  obtain ⟨M18, hx19, g21⟩ := zb_of g20
  refine zo_putI (p' := 29) (zi_225 rfl) rfl zl_19_220 (zpb_225 _) hx19 ?_
  have g22 := Option.some.inj g21
  subst g22
  exact zo_vret (zi_225 rfl) rfl
def f_225 (M : ZMem) (o : Nat) (a0 : Int32) : Option (ZMem) := if zok M 12 o = true then (zb (zgi M 12 69 o) fun x1 => if 20 ≤ x1 then (f_225_19 M o) else (zb (zgr M 12 70 o) fun r4 => zb (zgi M 12 69 o) fun x6 => zb r4 fun q8 => zb (zsa M 20 q8 x6 a0) fun M9 => f_225_19 M9 o)) else none
theorem f_225_ok {M : ZMem} {o : Nat} {a0 : Int32} {out : ZMem} (h : f_225 M o a0 = some out) : zok M 12 o = true := by
  unfold f_225 at h
  by_cases hok : zok M 12 o = true
  · exact hok
  · rw [if_neg hok] at h; cases h
set_option maxRecDepth 20000 in
theorem k_225 (d : Nat) {M : ZMem} {o : Nat} {a0 : Int32} {out : ZMem} (h : f_225 M o a0 = some out) : zrn (d) 225 [zrf (some o), .int a0] M (none, out) := by
  unfold f_225 at h
  by_cases hok : zok M 12 o = true
  · rw [if_pos hok] at h
    refine zrn_of (L := [(0, zrf (some o)), (1, .int a0)]) rfl ?_
    refine zo_aload_n (p' := 1) (zi_225 rfl) rfl rfl ?_
    obtain ⟨x1, hx2, g11⟩ := zb_of h
    refine zo_getI (p' := 4) (zi_225 rfl) rfl zl_19_220 hx2 ?_
    refine zo_bipush (p' := 6) (v := 20) (zi_225 rfl) rfl rfl ?_
    by_cases hc3 : 20 ≤ x1
    · rw [if_pos hc3] at g11
      refine zo_icT (p' := 19) (zi_225 rfl) rfl hc3 ?_
      refine zgo_sub (L' := [(0, zrf (some o))]) (⟨rfl, trivial⟩) ?_
      exact k_225_19 _ M o _ g11
    · rw [if_neg hc3] at g11
      refine zo_icF (p' := 9) (zi_225 rfl) rfl rfl hc3 ?_
      refine zo_aload_n (p' := 10) (zi_225 rfl) rfl rfl ?_
      obtain ⟨r4, hx5, g12⟩ := zb_of g11
      refine zo_getR (p' := 13) (zi_225 rfl) rfl zl_19_223 hx5 ?_
      refine zo_aload_n (p' := 14) (zi_225 rfl) rfl rfl ?_
      obtain ⟨x6, hx7, g13⟩ := zb_of g12
      refine zo_getI (p' := 17) (zi_225 rfl) rfl zl_19_220 hx7 ?_
      refine zo_iload_n (p' := 18) (zi_225 rfl) rfl rfl ?_
      obtain ⟨q8, h0, g14⟩ := zb_of g13
      subst h0
      obtain ⟨M9, hx10, g15⟩ := zb_of g14
      refine zo_iast (p' := 19) (zi_225 rfl) rfl hx10 ?_
      refine zgo_sub (L' := [(0, zrf (some o))]) (⟨rfl, trivial⟩) ?_
      exact k_225_19 _ M9 o _ g15
  · rw [if_neg hok] at h; cases h
/-- SlateHalvesModel.blockRings(II)I -/
def f_226 (M : ZMem) (o : Nat) (a0 : Int32) (a1 : Int32) : Option (Int32 × ZMem) := if zok M 12 o = true then (zb (f_225 M o 10) fun M3 => some ((a1 + a0), M3)) else none
theorem f_226_ok {M : ZMem} {o : Nat} {a0 : Int32} {a1 : Int32} {out : Int32 × ZMem} (h : f_226 M o a0 a1 = some out) : zok M 12 o = true := by
  unfold f_226 at h
  by_cases hok : zok M 12 o = true
  · exact hok
  · rw [if_neg hok] at h; cases h
set_option maxRecDepth 20000 in
theorem k_226 (d : Nat) {M : ZMem} {o : Nat} {a0 : Int32} {a1 : Int32} {out : Int32 × ZMem} (h : f_226 M o a0 a1 = some out) : zrn (d + 1) 226 [zrf (some o), .int a0, .int a1] M (some (.int out.1), out.2) := by
  unfold f_226 at h
  by_cases hok : zok M 12 o = true
  · rw [if_pos hok] at h
    refine zrn_of (L := [(0, zrf (some o)), (1, .int a0), (2, .int a1)]) rfl ?_
    refine zo_aload_n (p' := 1) (zi_226 rfl) rfl rfl ?_
    refine zo_bipush (p' := 3) (v := 10) (zi_226 rfl) rfl rfl ?_
    obtain ⟨M3, hx2, g4⟩ := zb_of h
    refine zo_callVv (p' := 6) (t := 12) (as := [.int 10]) (r := []) (zi_226 rfl) rfl zl_19_406 rfl rfl (Or.inl ⟨by decide, rfl⟩) (Nat.le_of_ble_eq_true rfl) (Nat.le_of_ble_eq_true rfl) (f_225_ok hx2) (k_225 _ hx2) ?_
    refine zo_iload_n (p' := 7) (zi_226 rfl) rfl rfl ?_
    refine zo_iload_n (p' := 8) (zi_226 rfl) rfl rfl ?_
    refine zo_iadd (p' := 9) (zi_226 rfl) rfl ?_
    have g5 := Option.some.inj g4
    subst g5
    exact zo_iret (zi_226 rfl) rfl ⟨rfl, rfl⟩
  · rw [if_neg hok] at h; cases h
/-- SlateHalvesModel.ringsAct(II)I -/
def f_224_40 (M : ZMem) (o : Nat) (b1 : Int32) (b2 : Int32) : Option (Int32 × ZMem) := zb (f_225 M o 30) fun M42 => zbd (f_226 M42 o b1 ((b2 * 3))) fun x43 M45 => some (x43, M45)
def f_224_89 (M : ZMem) (o : Nat) (b1 : Int32) (b2 : Int32) : Option (Int32 × ZMem) := zbd (f_226 M o b1 b2) fun x49 M51 => some (x49, M51)
set_option maxRecDepth 20000 in
theorem k_224_40 (d : Nat) : ∀ (M : ZMem) (o : Nat) (b1 : Int32) (b2 : Int32) (out : Int32 × ZMem), f_224_40 M o b1 b2 = some out → zgo none (d + 2) 224 40 [(0, zrf (some o)), (1, .int b1), (2, .int b2)] [] M (some (.int out.1), out.2) := by
  intro M o b1 b2 out h
  unfold f_224_40 at h
  refine zo_aload_n (p' := 41) (zi_224 rfl) rfl rfl ?_
  refine zo_bipush (p' := 43) (v := 30) (zi_224 rfl) rfl rfl ?_
  obtain ⟨M42, hx41, g46⟩ := zb_of h
  refine zo_callVv (p' := 46) (t := 12) (as := [.int 30]) (r := []) (zi_224 rfl) rfl zl_19_406 rfl rfl (Or.inl ⟨by decide, rfl⟩) (Nat.le_of_ble_eq_true rfl) (Nat.le_of_ble_eq_true rfl) (f_225_ok hx41) (k_225 _ hx41) ?_
  refine zo_aload_n (p' := 47) (zi_224 rfl) rfl rfl ?_
  refine zo_iload_n (p' := 48) (zi_224 rfl) rfl rfl ?_
  refine zo_iload_n (p' := 49) (zi_224 rfl) rfl rfl ?_
  refine zo_iconst (p' := 50) (v := 3) (zi_224 rfl) rfl rfl ?_
  refine zo_imul (p' := 51) (zi_224 rfl) rfl ?_
  obtain ⟨x43, M45, hx44, g47⟩ := zbd_of g46
  refine zo_callVi (p' := 54) (t := 12) (as := [.int b1, .int ((b2 * 3))]) (r := []) (zi_224 rfl) rfl zl_19_409 rfl rfl (Or.inl ⟨by decide, rfl⟩) (Nat.le_of_ble_eq_true rfl) (Nat.le_of_ble_eq_true rfl) (f_226_ok hx44) (k_226 _ hx44) ?_
  have g48 := Option.some.inj g47
  subst g48
  exact zo_iret (zi_224 rfl) rfl ⟨rfl, rfl⟩
set_option maxRecDepth 20000 in
theorem k_224_89 (d : Nat) : ∀ (M : ZMem) (o : Nat) (b1 : Int32) (b2 : Int32) (out : Int32 × ZMem), f_224_89 M o b1 b2 = some out → zgo none (d + 2) 224 89 [(0, zrf (some o)), (1, .int b1), (2, .int b2)] [] M (some (.int out.1), out.2) := by
  intro M o b1 b2 out h
  unfold f_224_89 at h
  refine zo_aload_n (p' := 90) (zi_224 rfl) rfl rfl ?_
  refine zo_iload_n (p' := 91) (zi_224 rfl) rfl rfl ?_
  refine zo_iload_n (p' := 92) (zi_224 rfl) rfl rfl ?_
  obtain ⟨x49, M51, hx50, g52⟩ := zbd_of h
  refine zo_callVi (p' := 95) (t := 12) (as := [.int b1, .int b2]) (r := []) (zi_224 rfl) rfl zl_19_409 rfl rfl (Or.inl ⟨by decide, rfl⟩) (Nat.le_of_ble_eq_true rfl) (Nat.le_of_ble_eq_true rfl) (f_226_ok hx50) (k_226 _ hx50) ?_
  have g53 := Option.some.inj g52
  subst g53
  exact zo_iret (zi_224 rfl) rfl ⟨rfl, rfl⟩
def f_224 (M : ZMem) (o : Nat) (a0 : Int32) (a1 : Int32) : Option (Int32 × ZMem) := if zok M 12 o = true then (zb (zgr M 12 3 o) fun r1 => zb r1 fun q3 => zb (zai M q3 a0) fun x4 => if x4 = 2 then (f_224_40 M o a0 a1) else (if x4 = 3 then (f_224_89 M o a0 a1) else (if x4 = 4 then (zb (f_225 M o 50) fun M13 => zbd (f_226 M13 o a0 a1) fun x14 M16 => some ((-x14), M16)) else (if x4 = 5 then (f_224_40 M o a0 a1) else (if x4 = 6 then (zb (f_225 M o 71) fun M19 => zbd (f_226 M19 o a0 a1) fun x20 M22 => zb (zgr M22 12 4 o) fun r23 => zb r23 fun q25 => zb (zai M22 q25 a0) fun x26 => some ((x20 ^^^ x26), M22)) else (f_224_89 M o a0 a1)))))) else none
theorem f_224_ok {M : ZMem} {o : Nat} {a0 : Int32} {a1 : Int32} {out : Int32 × ZMem} (h : f_224 M o a0 a1 = some out) : zok M 12 o = true := by
  unfold f_224 at h
  by_cases hok : zok M 12 o = true
  · exact hok
  · rw [if_neg hok] at h; cases h
set_option maxRecDepth 20000 in
theorem k_224 (d : Nat) {M : ZMem} {o : Nat} {a0 : Int32} {a1 : Int32} {out : Int32 × ZMem} (h : f_224 M o a0 a1 = some out) : zrn (d + 2) 224 [zrf (some o), .int a0, .int a1] M (some (.int out.1), out.2) := by
  unfold f_224 at h
  by_cases hok : zok M 12 o = true
  · rw [if_pos hok] at h
    refine zrn_of (L := [(0, zrf (some o)), (1, .int a0), (2, .int a1)]) rfl ?_
    refine zo_aload_n (p' := 1) (zi_224 rfl) rfl rfl ?_
    obtain ⟨r1, hx2, g28⟩ := zb_of h
    refine zo_getR (p' := 4) (zi_224 rfl) rfl zl_19_19 hx2 ?_
    refine zo_iload_n (p' := 5) (zi_224 rfl) rfl rfl ?_
    obtain ⟨q3, h0, g29⟩ := zb_of g28
    subst h0
    obtain ⟨x4, hx5, g30⟩ := zb_of g29
    refine zo_iald (p' := 6) (zi_224 rfl) rfl hx5 ?_
    by_cases hc6 : x4 = 2
    · rw [if_pos hc6] at g30
      refine zo_table (p' := 40) (n := 34) (zi_224 rfl) (by decide) (zsel_hit hc6 (by decide)) rfl ?_
      refine zgo_sub (L' := [(0, zrf (some o)), (1, .int a0), (2, .int a1)]) (⟨rfl, rfl, rfl, trivial⟩) ?_
      exact k_224_40 _ M o a0 a1 _ g30
    · rw [if_neg hc6] at g30
      by_cases hc7 : x4 = 3
      · rw [if_pos hc7] at g30
        refine zo_table (p' := 89) (n := 83) (zi_224 rfl) (by decide) (zsel_skip hc6 (by decide) (zsel_hit hc7 (by decide))) rfl ?_
        refine zgo_sub (L' := [(0, zrf (some o)), (1, .int a0), (2, .int a1)]) (⟨rfl, rfl, rfl, trivial⟩) ?_
        exact k_224_89 _ M o a0 a1 _ g30
      · rw [if_neg hc7] at g30
        by_cases hc8 : x4 = 4
        · rw [if_pos hc8] at g30
          refine zo_table (p' := 55) (n := 49) (zi_224 rfl) (by decide) (zsel_skip hc6 (by decide) (zsel_skip hc7 (by decide) (zsel_hit hc8 (by decide)))) rfl ?_
          refine zo_aload_n (p' := 56) (zi_224 rfl) rfl rfl ?_
          refine zo_bipush (p' := 58) (v := 50) (zi_224 rfl) rfl rfl ?_
          obtain ⟨M13, hx12, g31⟩ := zb_of g30
          refine zo_callVv (p' := 61) (t := 12) (as := [.int 50]) (r := []) (zi_224 rfl) rfl zl_19_406 rfl rfl (Or.inl ⟨by decide, rfl⟩) (Nat.le_of_ble_eq_true rfl) (Nat.le_of_ble_eq_true rfl) (f_225_ok hx12) (k_225 _ hx12) ?_
          refine zo_aload_n (p' := 62) (zi_224 rfl) rfl rfl ?_
          refine zo_iload_n (p' := 63) (zi_224 rfl) rfl rfl ?_
          refine zo_iload_n (p' := 64) (zi_224 rfl) rfl rfl ?_
          obtain ⟨x14, M16, hx15, g32⟩ := zbd_of g31
          refine zo_callVi (p' := 67) (t := 12) (as := [.int a0, .int a1]) (r := []) (zi_224 rfl) rfl zl_19_409 rfl rfl (Or.inl ⟨by decide, rfl⟩) (Nat.le_of_ble_eq_true rfl) (Nat.le_of_ble_eq_true rfl) (f_226_ok hx15) (k_226 _ hx15) ?_
          refine zo_ineg (p' := 68) (zi_224 rfl) rfl ?_
          have g33 := Option.some.inj g32
          subst g33
          exact zo_iret (zi_224 rfl) rfl ⟨rfl, rfl⟩
        · rw [if_neg hc8] at g30
          by_cases hc9 : x4 = 5
          · rw [if_pos hc9] at g30
            refine zo_table (p' := 40) (n := 34) (zi_224 rfl) (by decide) (zsel_skip hc6 (by decide) (zsel_skip hc7 (by decide) (zsel_skip hc8 (by decide) (zsel_hit hc9 (by decide))))) rfl ?_
            refine zgo_sub (L' := [(0, zrf (some o)), (1, .int a0), (2, .int a1)]) (⟨rfl, rfl, rfl, trivial⟩) ?_
            exact k_224_40 _ M o a0 a1 _ g30
          · rw [if_neg hc9] at g30
            by_cases hc10 : x4 = 6
            · rw [if_pos hc10] at g30
              refine zo_table (p' := 69) (n := 63) (zi_224 rfl) (by decide) (zsel_skip hc6 (by decide) (zsel_skip hc7 (by decide) (zsel_skip hc8 (by decide) (zsel_skip hc9 (by decide) (zsel_hit hc10 (by decide)))))) rfl ?_
              refine zo_aload_n (p' := 70) (zi_224 rfl) rfl rfl ?_
              refine zo_bipush (p' := 72) (v := 71) (zi_224 rfl) rfl rfl ?_
              obtain ⟨M19, hx18, g34⟩ := zb_of g30
              refine zo_callVv (p' := 75) (t := 12) (as := [.int 71]) (r := []) (zi_224 rfl) rfl zl_19_406 rfl rfl (Or.inl ⟨by decide, rfl⟩) (Nat.le_of_ble_eq_true rfl) (Nat.le_of_ble_eq_true rfl) (f_225_ok hx18) (k_225 _ hx18) ?_
              refine zo_aload_n (p' := 76) (zi_224 rfl) rfl rfl ?_
              refine zo_iload_n (p' := 77) (zi_224 rfl) rfl rfl ?_
              refine zo_iload_n (p' := 78) (zi_224 rfl) rfl rfl ?_
              obtain ⟨x20, M22, hx21, g35⟩ := zbd_of g34
              refine zo_callVi (p' := 81) (t := 12) (as := [.int a0, .int a1]) (r := []) (zi_224 rfl) rfl zl_19_409 rfl rfl (Or.inl ⟨by decide, rfl⟩) (Nat.le_of_ble_eq_true rfl) (Nat.le_of_ble_eq_true rfl) (f_226_ok hx21) (k_226 _ hx21) ?_
              refine zo_aload_n (p' := 82) (zi_224 rfl) rfl rfl ?_
              obtain ⟨r23, hx24, g36⟩ := zb_of g35
              refine zo_getR (p' := 85) (zi_224 rfl) rfl zl_19_23 hx24 ?_
              refine zo_iload_n (p' := 86) (zi_224 rfl) rfl rfl ?_
              obtain ⟨q25, h0, g37⟩ := zb_of g36
              subst h0
              obtain ⟨x26, hx27, g38⟩ := zb_of g37
              refine zo_iald (p' := 87) (zi_224 rfl) rfl hx27 ?_
              refine zo_ixor (p' := 88) (zi_224 rfl) rfl ?_
              have g39 := Option.some.inj g38
              subst g39
              exact zo_iret (zi_224 rfl) rfl ⟨rfl, rfl⟩
            · rw [if_neg hc10] at g30
              refine zo_table (p' := 89) (n := 83) (zi_224 rfl) (by decide) (zsel_skip hc6 (by decide) (zsel_skip hc7 (by decide) (zsel_skip hc8 (by decide) (zsel_skip hc9 (by decide) (zsel_skip hc10 (by decide) (rfl)))))) rfl ?_
              refine zgo_sub (L' := [(0, zrf (some o)), (1, .int a0), (2, .int a1)]) (⟨rfl, rfl, rfl, trivial⟩) ?_
              exact k_224_89 _ M o a0 a1 _ g30
  · rw [if_neg hok] at h; cases h
/-- SlateHalvesModel.blockSplits(II)I -/
def f_229 (M : ZMem) (o : Nat) (a0 : Int32) (a1 : Int32) : Option (Int32 × ZMem) := if zok M 12 o = true then (zb (f_225 M o 11) fun M3 => zbd (f_224 M3 o a0 a1) fun x4 M6 => zb (zgr M6 12 4 o) fun r7 => zb r7 fun q9 => zb (zai M6 q9 a0) fun x10 => some ((x4 - x10), M6)) else none
theorem f_229_ok {M : ZMem} {o : Nat} {a0 : Int32} {a1 : Int32} {out : Int32 × ZMem} (h : f_229 M o a0 a1 = some out) : zok M 12 o = true := by
  unfold f_229 at h
  by_cases hok : zok M 12 o = true
  · exact hok
  · rw [if_neg hok] at h; cases h
set_option maxRecDepth 20000 in
theorem k_229 (d : Nat) {M : ZMem} {o : Nat} {a0 : Int32} {a1 : Int32} {out : Int32 × ZMem} (h : f_229 M o a0 a1 = some out) : zrn (d + 3) 229 [zrf (some o), .int a0, .int a1] M (some (.int out.1), out.2) := by
  unfold f_229 at h
  by_cases hok : zok M 12 o = true
  · rw [if_pos hok] at h
    refine zrn_of (L := [(0, zrf (some o)), (1, .int a0), (2, .int a1)]) rfl ?_
    refine zo_aload_n (p' := 1) (zi_229 rfl) rfl rfl ?_
    refine zo_bipush (p' := 3) (v := 11) (zi_229 rfl) rfl rfl ?_
    obtain ⟨M3, hx2, g12⟩ := zb_of h
    refine zo_callVv (p' := 6) (t := 12) (as := [.int 11]) (r := []) (zi_229 rfl) rfl zl_19_406 rfl rfl (Or.inl ⟨by decide, rfl⟩) (Nat.le_of_ble_eq_true rfl) (Nat.le_of_ble_eq_true rfl) (f_225_ok hx2) (k_225 _ hx2) ?_
    refine zo_aload_n (p' := 7) (zi_229 rfl) rfl rfl ?_
    refine zo_iload_n (p' := 8) (zi_229 rfl) rfl rfl ?_
    refine zo_iload_n (p' := 9) (zi_229 rfl) rfl rfl ?_
    obtain ⟨x4, M6, hx5, g13⟩ := zbd_of g12
    refine zo_callVi (p' := 12) (t := 12) (as := [.int a0, .int a1]) (r := []) (zi_229 rfl) rfl zl_19_412 rfl rfl (Or.inl ⟨by decide, rfl⟩) (Nat.le_of_ble_eq_true rfl) (Nat.le_of_ble_eq_true rfl) (f_224_ok hx5) (k_224 _ hx5) ?_
    refine zo_aload_n (p' := 13) (zi_229 rfl) rfl rfl ?_
    obtain ⟨r7, hx8, g14⟩ := zb_of g13
    refine zo_getR (p' := 16) (zi_229 rfl) rfl zl_19_23 hx8 ?_
    refine zo_iload_n (p' := 17) (zi_229 rfl) rfl rfl ?_
    obtain ⟨q9, h0, g15⟩ := zb_of g14
    subst h0
    obtain ⟨x10, hx11, g16⟩ := zb_of g15
    refine zo_iald (p' := 18) (zi_229 rfl) rfl hx11 ?_
    refine zo_isub (p' := 19) (zi_229 rfl) rfl ?_
    have g17 := Option.some.inj g16
    subst g17
    exact zo_iret (zi_229 rfl) rfl ⟨rfl, rfl⟩
  · rw [if_neg hok] at h; cases h
/-- SlateHalvesModel.fineSplits(II)I -/
def f_228 (M : ZMem) (o : Nat) (a0 : Int32) (a1 : Int32) : Option (Int32 × ZMem) := if zok M 12 o = true then (zb (f_225 M o 20) fun M3 => zbd (f_229 M3 o a0 a1) fun x4 M6 => some ((x4 ^^^ 6), M6)) else none
theorem f_228_ok {M : ZMem} {o : Nat} {a0 : Int32} {a1 : Int32} {out : Int32 × ZMem} (h : f_228 M o a0 a1 = some out) : zok M 12 o = true := by
  unfold f_228 at h
  by_cases hok : zok M 12 o = true
  · exact hok
  · rw [if_neg hok] at h; cases h
set_option maxRecDepth 20000 in
theorem k_228 (d : Nat) {M : ZMem} {o : Nat} {a0 : Int32} {a1 : Int32} {out : Int32 × ZMem} (h : f_228 M o a0 a1 = some out) : zrn (d + 4) 228 [zrf (some o), .int a0, .int a1] M (some (.int out.1), out.2) := by
  unfold f_228 at h
  by_cases hok : zok M 12 o = true
  · rw [if_pos hok] at h
    refine zrn_of (L := [(0, zrf (some o)), (1, .int a0), (2, .int a1)]) rfl ?_
    refine zo_aload_n (p' := 1) (zi_228 rfl) rfl rfl ?_
    refine zo_bipush (p' := 3) (v := 20) (zi_228 rfl) rfl rfl ?_
    obtain ⟨M3, hx2, g7⟩ := zb_of h
    refine zo_callVv (p' := 6) (t := 12) (as := [.int 20]) (r := []) (zi_228 rfl) rfl zl_19_406 rfl rfl (Or.inl ⟨by decide, rfl⟩) (Nat.le_of_ble_eq_true rfl) (Nat.le_of_ble_eq_true rfl) (f_225_ok hx2) (k_225 _ hx2) ?_
    refine zo_aload_n (p' := 7) (zi_228 rfl) rfl rfl ?_
    refine zo_iload_n (p' := 8) (zi_228 rfl) rfl rfl ?_
    refine zo_iload_n (p' := 9) (zi_228 rfl) rfl rfl ?_
    obtain ⟨x4, M6, hx5, g8⟩ := zbd_of g7
    refine zo_callVi (p' := 12) (t := 12) (as := [.int a0, .int a1]) (r := []) (zi_228 rfl) rfl zl_19_415 rfl rfl (Or.inl ⟨by decide, rfl⟩) (Nat.le_of_ble_eq_true rfl) (Nat.le_of_ble_eq_true rfl) (f_229_ok hx5) (k_229 _ hx5) ?_
    refine zo_bipush (p' := 14) (v := 6) (zi_228 rfl) rfl rfl ?_
    refine zo_ixor (p' := 15) (zi_228 rfl) rfl ?_
    have g9 := Option.some.inj g8
    subst g9
    exact zo_iret (zi_228 rfl) rfl ⟨rfl, rfl⟩
  · rw [if_neg hok] at h; cases h
/-- SlateHalvesModel.splitsAct(II)I -/
def f_227 (M : ZMem) (o : Nat) (a0 : Int32) (a1 : Int32) : Option (Int32 × ZMem) := if zok M 12 o = true then (zb (zgr M 12 3 o) fun r1 => zb r1 fun q3 => zb (zai M q3 a0) fun x4 => if x4 = 1 then (zbd (f_228 M o a0 a1) fun x9 M11 => some (x9, M11)) else (if x4 = 4 then (zb (f_225 M o 51) fun M14 => zbd (f_228 M14 o a0 ((a1 + 1))) fun x15 M17 => some (x15, M17)) else (if x4 = 6 then (zb (f_225 M o 70) fun M20 => zbd (f_229 M20 o a0 a1) fun x21 M23 => zbd (f_226 M23 o a0 2) fun x24 M26 => some ((x21 + x24), M26)) else (zbd (f_229 M o a0 a1) fun x27 M29 => some (x27, M29))))) else none
theorem f_227_ok {M : ZMem} {o : Nat} {a0 : Int32} {a1 : Int32} {out : Int32 × ZMem} (h : f_227 M o a0 a1 = some out) : zok M 12 o = true := by
  unfold f_227 at h
  by_cases hok : zok M 12 o = true
  · exact hok
  · rw [if_neg hok] at h; cases h
set_option maxRecDepth 20000 in
theorem k_227 (d : Nat) {M : ZMem} {o : Nat} {a0 : Int32} {a1 : Int32} {out : Int32 × ZMem} (h : f_227 M o a0 a1 = some out) : zrn (d + 5) 227 [zrf (some o), .int a0, .int a1] M (some (.int out.1), out.2) := by
  unfold f_227 at h
  by_cases hok : zok M 12 o = true
  · rw [if_pos hok] at h
    refine zrn_of (L := [(0, zrf (some o)), (1, .int a0), (2, .int a1)]) rfl ?_
    refine zo_aload_n (p' := 1) (zi_227 rfl) rfl rfl ?_
    obtain ⟨r1, hx2, g30⟩ := zb_of h
    refine zo_getR (p' := 4) (zi_227 rfl) rfl zl_19_19 hx2 ?_
    refine zo_iload_n (p' := 5) (zi_227 rfl) rfl rfl ?_
    obtain ⟨q3, h0, g31⟩ := zb_of g30
    subst h0
    obtain ⟨x4, hx5, g32⟩ := zb_of g31
    refine zo_iald (p' := 6) (zi_227 rfl) rfl hx5 ?_
    by_cases hc6 : x4 = 1
    · rw [if_pos hc6] at g32
      refine zo_look (p' := 40) (n := 34) (zi_227 rfl) (by decide) (zsel_hit hc6 (by decide)) rfl ?_
      refine zo_aload_n (p' := 41) (zi_227 rfl) rfl rfl ?_
      refine zo_iload_n (p' := 42) (zi_227 rfl) rfl rfl ?_
      refine zo_iload_n (p' := 43) (zi_227 rfl) rfl rfl ?_
      obtain ⟨x9, M11, hx10, g33⟩ := zbd_of g32
      refine zo_callVi (p' := 46) (t := 12) (as := [.int a0, .int a1]) (r := []) (zi_227 rfl) rfl zl_19_418 rfl rfl (Or.inl ⟨by decide, rfl⟩) (Nat.le_of_ble_eq_true rfl) (Nat.le_of_ble_eq_true rfl) (f_228_ok hx10) (k_228 _ hx10) ?_
      have g34 := Option.some.inj g33
      subst g34
      exact zo_iret (zi_227 rfl) rfl ⟨rfl, rfl⟩
    · rw [if_neg hc6] at g32
      by_cases hc7 : x4 = 4
      · rw [if_pos hc7] at g32
        refine zo_look (p' := 47) (n := 41) (zi_227 rfl) (by decide) (zsel_skip hc6 (by decide) (zsel_hit hc7 (by decide))) rfl ?_
        refine zo_aload_n (p' := 48) (zi_227 rfl) rfl rfl ?_
        refine zo_bipush (p' := 50) (v := 51) (zi_227 rfl) rfl rfl ?_
        obtain ⟨M14, hx13, g35⟩ := zb_of g32
        refine zo_callVv (p' := 53) (t := 12) (as := [.int 51]) (r := []) (zi_227 rfl) rfl zl_19_406 rfl rfl (Or.inl ⟨by decide, rfl⟩) (Nat.le_of_ble_eq_true rfl) (Nat.le_of_ble_eq_true rfl) (f_225_ok hx13) (k_225 _ hx13) ?_
        refine zo_aload_n (p' := 54) (zi_227 rfl) rfl rfl ?_
        refine zo_iload_n (p' := 55) (zi_227 rfl) rfl rfl ?_
        refine zo_iload_n (p' := 56) (zi_227 rfl) rfl rfl ?_
        refine zo_iconst (p' := 57) (v := 1) (zi_227 rfl) rfl rfl ?_
        refine zo_iadd (p' := 58) (zi_227 rfl) rfl ?_
        obtain ⟨x15, M17, hx16, g36⟩ := zbd_of g35
        refine zo_callVi (p' := 61) (t := 12) (as := [.int a0, .int ((a1 + 1))]) (r := []) (zi_227 rfl) rfl zl_19_418 rfl rfl (Or.inl ⟨by decide, rfl⟩) (Nat.le_of_ble_eq_true rfl) (Nat.le_of_ble_eq_true rfl) (f_228_ok hx16) (k_228 _ hx16) ?_
        have g37 := Option.some.inj g36
        subst g37
        exact zo_iret (zi_227 rfl) rfl ⟨rfl, rfl⟩
      · rw [if_neg hc7] at g32
        by_cases hc8 : x4 = 6
        · rw [if_pos hc8] at g32
          refine zo_look (p' := 62) (n := 56) (zi_227 rfl) (by decide) (zsel_skip hc6 (by decide) (zsel_skip hc7 (by decide) (zsel_hit hc8 (by decide)))) rfl ?_
          refine zo_aload_n (p' := 63) (zi_227 rfl) rfl rfl ?_
          refine zo_bipush (p' := 65) (v := 70) (zi_227 rfl) rfl rfl ?_
          obtain ⟨M20, hx19, g38⟩ := zb_of g32
          refine zo_callVv (p' := 68) (t := 12) (as := [.int 70]) (r := []) (zi_227 rfl) rfl zl_19_406 rfl rfl (Or.inl ⟨by decide, rfl⟩) (Nat.le_of_ble_eq_true rfl) (Nat.le_of_ble_eq_true rfl) (f_225_ok hx19) (k_225 _ hx19) ?_
          refine zo_aload_n (p' := 69) (zi_227 rfl) rfl rfl ?_
          refine zo_iload_n (p' := 70) (zi_227 rfl) rfl rfl ?_
          refine zo_iload_n (p' := 71) (zi_227 rfl) rfl rfl ?_
          obtain ⟨x21, M23, hx22, g39⟩ := zbd_of g38
          refine zo_callVi (p' := 74) (t := 12) (as := [.int a0, .int a1]) (r := []) (zi_227 rfl) rfl zl_19_415 rfl rfl (Or.inl ⟨by decide, rfl⟩) (Nat.le_of_ble_eq_true rfl) (Nat.le_of_ble_eq_true rfl) (f_229_ok hx22) (k_229 _ hx22) ?_
          refine zo_istore_n (p' := 75) (L' := [(0, zrf (some o)), (1, .int a0), (2, .int a1), (3, .int x21)]) (zi_227 rfl) rfl zm_227_3 ⟨Or.inr ⟨by decide, rfl, fun q => absurd q (by decide)⟩, ⟨Or.inr ⟨by decide, rfl, fun q => absurd q (by decide)⟩, ⟨Or.inr ⟨by decide, rfl, fun _ => rfl⟩, ⟨Or.inl ⟨rfl, rfl⟩, trivial⟩⟩⟩⟩ ?_
          refine zo_iload_n (p' := 76) (zi_227 rfl) rfl rfl ?_
          refine zo_aload_n (p' := 77) (zi_227 rfl) rfl rfl ?_
          refine zo_iload_n (p' := 78) (zi_227 rfl) rfl rfl ?_
          refine zo_iconst (p' := 79) (v := 2) (zi_227 rfl) rfl rfl ?_
          obtain ⟨x24, M26, hx25, g40⟩ := zbd_of g39
          refine zo_callVi (p' := 82) (t := 12) (as := [.int a0, .int 2]) (r := [.int x21]) (zi_227 rfl) rfl zl_19_409 rfl rfl (Or.inl ⟨by decide, rfl⟩) (Nat.le_of_ble_eq_true rfl) (Nat.le_of_ble_eq_true rfl) (f_226_ok hx25) (k_226 _ hx25) ?_
          refine zo_iadd (p' := 83) (zi_227 rfl) rfl ?_
          have g41 := Option.some.inj g40
          subst g41
          exact zo_iret (zi_227 rfl) rfl ⟨rfl, rfl⟩
        · rw [if_neg hc8] at g32
          refine zo_look (p' := 84) (n := 78) (zi_227 rfl) (by decide) (zsel_skip hc6 (by decide) (zsel_skip hc7 (by decide) (zsel_skip hc8 (by decide) (rfl)))) rfl ?_
          refine zo_aload_n (p' := 85) (zi_227 rfl) rfl rfl ?_
          refine zo_iload_n (p' := 86) (zi_227 rfl) rfl rfl ?_
          refine zo_iload_n (p' := 87) (zi_227 rfl) rfl rfl ?_
          obtain ⟨x27, M29, hx28, g42⟩ := zbd_of g32
          refine zo_callVi (p' := 90) (t := 12) (as := [.int a0, .int a1]) (r := []) (zi_227 rfl) rfl zl_19_415 rfl rfl (Or.inl ⟨by decide, rfl⟩) (Nat.le_of_ble_eq_true rfl) (Nat.le_of_ble_eq_true rfl) (f_229_ok hx28) (k_229 _ hx28) ?_
          have g43 := Option.some.inj g42
          subst g43
          exact zo_iret (zi_227 rfl) rfl ⟨rfl, rfl⟩
  · rw [if_neg hok] at h; cases h
/-- SlateHalvesModel.blockTells(II)I -/
def f_231 (M : ZMem) (o : Nat) (a0 : Int32) (a1 : Int32) : Option (Int32 × ZMem) := if zok M 12 o = true then (zb (f_225 M o 12) fun M3 => zbd (f_227 M3 o a0 a1) fun x4 M6 => some ((x4 * 2), M6)) else none
theorem f_231_ok {M : ZMem} {o : Nat} {a0 : Int32} {a1 : Int32} {out : Int32 × ZMem} (h : f_231 M o a0 a1 = some out) : zok M 12 o = true := by
  unfold f_231 at h
  by_cases hok : zok M 12 o = true
  · exact hok
  · rw [if_neg hok] at h; cases h
set_option maxRecDepth 20000 in
theorem k_231 (d : Nat) {M : ZMem} {o : Nat} {a0 : Int32} {a1 : Int32} {out : Int32 × ZMem} (h : f_231 M o a0 a1 = some out) : zrn (d + 6) 231 [zrf (some o), .int a0, .int a1] M (some (.int out.1), out.2) := by
  unfold f_231 at h
  by_cases hok : zok M 12 o = true
  · rw [if_pos hok] at h
    refine zrn_of (L := [(0, zrf (some o)), (1, .int a0), (2, .int a1)]) rfl ?_
    refine zo_aload_n (p' := 1) (zi_231 rfl) rfl rfl ?_
    refine zo_bipush (p' := 3) (v := 12) (zi_231 rfl) rfl rfl ?_
    obtain ⟨M3, hx2, g7⟩ := zb_of h
    refine zo_callVv (p' := 6) (t := 12) (as := [.int 12]) (r := []) (zi_231 rfl) rfl zl_19_406 rfl rfl (Or.inl ⟨by decide, rfl⟩) (Nat.le_of_ble_eq_true rfl) (Nat.le_of_ble_eq_true rfl) (f_225_ok hx2) (k_225 _ hx2) ?_
    refine zo_aload_n (p' := 7) (zi_231 rfl) rfl rfl ?_
    refine zo_iload_n (p' := 8) (zi_231 rfl) rfl rfl ?_
    refine zo_iload_n (p' := 9) (zi_231 rfl) rfl rfl ?_
    obtain ⟨x4, M6, hx5, g8⟩ := zbd_of g7
    refine zo_callVi (p' := 12) (t := 12) (as := [.int a0, .int a1]) (r := []) (zi_231 rfl) rfl zl_19_421 rfl rfl (Or.inl ⟨by decide, rfl⟩) (Nat.le_of_ble_eq_true rfl) (Nat.le_of_ble_eq_true rfl) (f_227_ok hx5) (k_227 _ hx5) ?_
    refine zo_iconst (p' := 13) (v := 2) (zi_231 rfl) rfl rfl ?_
    refine zo_imul (p' := 14) (zi_231 rfl) rfl ?_
    have g9 := Option.some.inj g8
    subst g9
    exact zo_iret (zi_231 rfl) rfl ⟨rfl, rfl⟩
  · rw [if_neg hok] at h; cases h
/-- SlateHalvesModel.tellsAct(II)I -/
def f_230_36 (M : ZMem) (o : Nat) (b1 : Int32) (b2 : Int32) : Option (Int32 × ZMem) := zb (f_225 M o 40) fun M24 => zbd (f_231 M24 o b1 b2) fun x25 M27 => zbd (f_227 M27 o b1 1) fun x28 M30 => some ((x25 + x28), M30)
def f_230_73 (M : ZMem) (o : Nat) (b1 : Int32) (b2 : Int32) : Option (Int32 × ZMem) := zbd (f_231 M o b1 b2) fun x35 M37 => some (x35, M37)
set_option maxRecDepth 20000 in
theorem k_230_36 (d : Nat) : ∀ (M : ZMem) (o : Nat) (b1 : Int32) (b2 : Int32) (out : Int32 × ZMem), f_230_36 M o b1 b2 = some out → zgo none (d + 7) 230 36 [(0, zrf (some o)), (1, .int b1), (2, .int b2)] [] M (some (.int out.1), out.2) := by
  intro M o b1 b2 out h
  unfold f_230_36 at h
  refine zo_aload_n (p' := 37) (zi_230 rfl) rfl rfl ?_
  refine zo_bipush (p' := 39) (v := 40) (zi_230 rfl) rfl rfl ?_
  obtain ⟨M24, hx23, g31⟩ := zb_of h
  refine zo_callVv (p' := 42) (t := 12) (as := [.int 40]) (r := []) (zi_230 rfl) rfl zl_19_406 rfl rfl (Or.inl ⟨by decide, rfl⟩) (Nat.le_of_ble_eq_true rfl) (Nat.le_of_ble_eq_true rfl) (f_225_ok hx23) (k_225 _ hx23) ?_
  refine zo_aload_n (p' := 43) (zi_230 rfl) rfl rfl ?_
  refine zo_iload_n (p' := 44) (zi_230 rfl) rfl rfl ?_
  refine zo_iload_n (p' := 45) (zi_230 rfl) rfl rfl ?_
  obtain ⟨x25, M27, hx26, g32⟩ := zbd_of g31
  refine zo_callVi (p' := 48) (t := 12) (as := [.int b1, .int b2]) (r := []) (zi_230 rfl) rfl zl_19_424 rfl rfl (Or.inl ⟨by decide, rfl⟩) (Nat.le_of_ble_eq_true rfl) (Nat.le_of_ble_eq_true rfl) (f_231_ok hx26) (k_231 _ hx26) ?_
  refine zo_istore_n (p' := 49) (L' := [(0, zrf (some o)), (1, .int b1), (2, .int b2), (3, .int x25)]) (zi_230 rfl) rfl zm_230_3 ⟨Or.inr ⟨by decide, rfl, fun q => absurd q (by decide)⟩, ⟨Or.inr ⟨by decide, rfl, fun q => absurd q (by decide)⟩, ⟨Or.inr ⟨by decide, rfl, fun _ => rfl⟩, ⟨Or.inl ⟨rfl, rfl⟩, trivial⟩⟩⟩⟩ ?_
  refine zo_iload_n (p' := 50) (zi_230 rfl) rfl rfl ?_
  refine zo_aload_n (p' := 51) (zi_230 rfl) rfl rfl ?_
  refine zo_iload_n (p' := 52) (zi_230 rfl) rfl rfl ?_
  refine zo_iconst (p' := 53) (v := 1) (zi_230 rfl) rfl rfl ?_
  obtain ⟨x28, M30, hx29, g33⟩ := zbd_of g32
  refine zo_callVi (p' := 56) (t := 12) (as := [.int b1, .int 1]) (r := [.int x25]) (zi_230 rfl) rfl zl_19_421 rfl rfl (Or.inl ⟨by decide, rfl⟩) (Nat.le_of_ble_eq_true rfl) (Nat.le_of_ble_eq_true rfl) (f_227_ok hx29) (k_227 _ hx29) ?_
  refine zo_iadd (p' := 57) (zi_230 rfl) rfl ?_
  have g34 := Option.some.inj g33
  subst g34
  exact zo_iret (zi_230 rfl) rfl ⟨rfl, rfl⟩
set_option maxRecDepth 20000 in
theorem k_230_73 (d : Nat) : ∀ (M : ZMem) (o : Nat) (b1 : Int32) (b2 : Int32) (out : Int32 × ZMem), f_230_73 M o b1 b2 = some out → zgo none (d + 7) 230 73 [(0, zrf (some o)), (1, .int b1), (2, .int b2)] [] M (some (.int out.1), out.2) := by
  intro M o b1 b2 out h
  unfold f_230_73 at h
  refine zo_aload_n (p' := 74) (zi_230 rfl) rfl rfl ?_
  refine zo_iload_n (p' := 75) (zi_230 rfl) rfl rfl ?_
  refine zo_iload_n (p' := 76) (zi_230 rfl) rfl rfl ?_
  obtain ⟨x35, M37, hx36, g38⟩ := zbd_of h
  refine zo_callVi (p' := 79) (t := 12) (as := [.int b1, .int b2]) (r := []) (zi_230 rfl) rfl zl_19_424 rfl rfl (Or.inl ⟨by decide, rfl⟩) (Nat.le_of_ble_eq_true rfl) (Nat.le_of_ble_eq_true rfl) (f_231_ok hx36) (k_231 _ hx36) ?_
  have g39 := Option.some.inj g38
  subst g39
  exact zo_iret (zi_230 rfl) rfl ⟨rfl, rfl⟩
def f_230 (M : ZMem) (o : Nat) (a0 : Int32) (a1 : Int32) : Option (Int32 × ZMem) := if zok M 12 o = true then (zb (zgr M 12 3 o) fun r1 => zb r1 fun q3 => zb (zai M q3 a0) fun x4 => if x4 = 3 then (f_230_36 M o a0 a1) else (if x4 = 4 then (f_230_73 M o a0 a1) else (if x4 = 5 then (zb (f_225 M o 60) fun M12 => zbd (f_231 M12 o a0 ((a1 - a0))) fun x13 M15 => some (x13, M15)) else (if x4 = 6 then (f_230_36 M o a0 a1) else (f_230_73 M o a0 a1))))) else none
theorem f_230_ok {M : ZMem} {o : Nat} {a0 : Int32} {a1 : Int32} {out : Int32 × ZMem} (h : f_230 M o a0 a1 = some out) : zok M 12 o = true := by
  unfold f_230 at h
  by_cases hok : zok M 12 o = true
  · exact hok
  · rw [if_neg hok] at h; cases h
set_option maxRecDepth 20000 in
theorem k_230 (d : Nat) {M : ZMem} {o : Nat} {a0 : Int32} {a1 : Int32} {out : Int32 × ZMem} (h : f_230 M o a0 a1 = some out) : zrn (d + 7) 230 [zrf (some o), .int a0, .int a1] M (some (.int out.1), out.2) := by
  unfold f_230 at h
  by_cases hok : zok M 12 o = true
  · rw [if_pos hok] at h
    refine zrn_of (L := [(0, zrf (some o)), (1, .int a0), (2, .int a1)]) rfl ?_
    refine zo_aload_n (p' := 1) (zi_230 rfl) rfl rfl ?_
    obtain ⟨r1, hx2, g16⟩ := zb_of h
    refine zo_getR (p' := 4) (zi_230 rfl) rfl zl_19_19 hx2 ?_
    refine zo_iload_n (p' := 5) (zi_230 rfl) rfl rfl ?_
    obtain ⟨q3, h0, g17⟩ := zb_of g16
    subst h0
    obtain ⟨x4, hx5, g18⟩ := zb_of g17
    refine zo_iald (p' := 6) (zi_230 rfl) rfl hx5 ?_
    by_cases hc6 : x4 = 3
    · rw [if_pos hc6] at g18
      refine zo_table (p' := 36) (n := 30) (zi_230 rfl) (by decide) (zsel_hit hc6 (by decide)) rfl ?_
      refine zgo_sub (L' := [(0, zrf (some o)), (1, .int a0), (2, .int a1)]) (⟨rfl, rfl, rfl, trivial⟩) ?_
      exact k_230_36 _ M o a0 a1 _ g18
    · rw [if_neg hc6] at g18
      by_cases hc7 : x4 = 4
      · rw [if_pos hc7] at g18
        refine zo_table (p' := 73) (n := 67) (zi_230 rfl) (by decide) (zsel_skip hc6 (by decide) (zsel_hit hc7 (by decide))) rfl ?_
        refine zgo_sub (L' := [(0, zrf (some o)), (1, .int a0), (2, .int a1)]) (⟨rfl, rfl, rfl, trivial⟩) ?_
        exact k_230_73 _ M o a0 a1 _ g18
      · rw [if_neg hc7] at g18
        by_cases hc8 : x4 = 5
        · rw [if_pos hc8] at g18
          refine zo_table (p' := 58) (n := 52) (zi_230 rfl) (by decide) (zsel_skip hc6 (by decide) (zsel_skip hc7 (by decide) (zsel_hit hc8 (by decide)))) rfl ?_
          refine zo_aload_n (p' := 59) (zi_230 rfl) rfl rfl ?_
          refine zo_bipush (p' := 61) (v := 60) (zi_230 rfl) rfl rfl ?_
          obtain ⟨M12, hx11, g19⟩ := zb_of g18
          refine zo_callVv (p' := 64) (t := 12) (as := [.int 60]) (r := []) (zi_230 rfl) rfl zl_19_406 rfl rfl (Or.inl ⟨by decide, rfl⟩) (Nat.le_of_ble_eq_true rfl) (Nat.le_of_ble_eq_true rfl) (f_225_ok hx11) (k_225 _ hx11) ?_
          refine zo_aload_n (p' := 65) (zi_230 rfl) rfl rfl ?_
          refine zo_iload_n (p' := 66) (zi_230 rfl) rfl rfl ?_
          refine zo_iload_n (p' := 67) (zi_230 rfl) rfl rfl ?_
          refine zo_iload_n (p' := 68) (zi_230 rfl) rfl rfl ?_
          refine zo_isub (p' := 69) (zi_230 rfl) rfl ?_
          obtain ⟨x13, M15, hx14, g20⟩ := zbd_of g19
          refine zo_callVi (p' := 72) (t := 12) (as := [.int a0, .int ((a1 - a0))]) (r := []) (zi_230 rfl) rfl zl_19_424 rfl rfl (Or.inl ⟨by decide, rfl⟩) (Nat.le_of_ble_eq_true rfl) (Nat.le_of_ble_eq_true rfl) (f_231_ok hx14) (k_231 _ hx14) ?_
          have g21 := Option.some.inj g20
          subst g21
          exact zo_iret (zi_230 rfl) rfl ⟨rfl, rfl⟩
        · rw [if_neg hc8] at g18
          by_cases hc9 : x4 = 6
          · rw [if_pos hc9] at g18
            refine zo_table (p' := 36) (n := 30) (zi_230 rfl) (by decide) (zsel_skip hc6 (by decide) (zsel_skip hc7 (by decide) (zsel_skip hc8 (by decide) (zsel_hit hc9 (by decide))))) rfl ?_
            refine zgo_sub (L' := [(0, zrf (some o)), (1, .int a0), (2, .int a1)]) (⟨rfl, rfl, rfl, trivial⟩) ?_
            exact k_230_36 _ M o a0 a1 _ g18
          · rw [if_neg hc9] at g18
            refine zo_table (p' := 73) (n := 67) (zi_230 rfl) (by decide) (zsel_skip hc6 (by decide) (zsel_skip hc7 (by decide) (zsel_skip hc8 (by decide) (zsel_skip hc9 (by decide) (rfl))))) rfl ?_
            refine zgo_sub (L' := [(0, zrf (some o)), (1, .int a0), (2, .int a1)]) (⟨rfl, rfl, rfl, trivial⟩) ?_
            exact k_230_73 _ M o a0 a1 _ g18
  · rw [if_neg hok] at h; cases h
/-- SlateHalvesModel.act(III)I -/
def f_223 (M : ZMem) (o : Nat) (a0 : Int32) (a1 : Int32) (a2 : Int32) : Option (Int32 × ZMem) := if zok M 12 o = true then (zb (zpf M 12 69 o (.int 0) false) fun M1 => zb (f_149 M1 o a0) fun x3 => if x3 = 0 then (some (0, M1)) else (zb (f_147 M1 o a1 0 2) fun x6 => if ¬ x6 = 0 then (if ¬ a1 = 0 then (if ¬ a1 = 1 then (zbd (f_230 M1 o a0 a2) fun x11 M13 => some (x11, M13)) else (zbd (f_227 M1 o a0 a2) fun x14 M16 => some (x14, M16))) else (zbd (f_224 M1 o a0 a2) fun x17 M19 => some (x17, M19))) else (some (0, M1)))) else none
theorem f_223_ok {M : ZMem} {o : Nat} {a0 : Int32} {a1 : Int32} {a2 : Int32} {out : Int32 × ZMem} (h : f_223 M o a0 a1 a2 = some out) : zok M 12 o = true := by
  unfold f_223 at h
  by_cases hok : zok M 12 o = true
  · exact hok
  · rw [if_neg hok] at h; cases h
set_option maxRecDepth 20000 in
theorem k_223 (d : Nat) {M : ZMem} {o : Nat} {a0 : Int32} {a1 : Int32} {a2 : Int32} {out : Int32 × ZMem} (h : f_223 M o a0 a1 a2 = some out) : zrn (d + 8) 223 [zrf (some o), .int a0, .int a1, .int a2] M (some (.int out.1), out.2) := by
  unfold f_223 at h
  by_cases hok : zok M 12 o = true
  · rw [if_pos hok] at h
    refine zrn_of (L := [(0, zrf (some o)), (1, .int a0), (2, .int a1), (3, .int a2)]) rfl ?_
    refine zo_aload_n (p' := 1) (zi_223 rfl) rfl rfl ?_
    refine zo_iconst (p' := 2) (v := 0) (zi_223 rfl) rfl rfl ?_
    obtain ⟨M1, hx2, g20⟩ := zb_of h
    refine zo_putI (p' := 5) (zi_223 rfl) rfl zl_19_220 (zpb_223 _) hx2 ?_
    refine zo_aload_n (p' := 6) (zi_223 rfl) rfl rfl ?_
    refine zo_iload_n (p' := 7) (zi_223 rfl) rfl rfl ?_
    obtain ⟨x3, hx4, g21⟩ := zb_of g20
    refine zo_callVi (p' := 10) (t := 12) (as := [.int a0]) (r := []) (zi_223 rfl) rfl zl_19_243 rfl rfl (Or.inl ⟨by decide, rfl⟩) (Nat.le_of_ble_eq_true rfl) (Nat.le_of_ble_eq_true rfl) (f_149_ok hx4) (k_149 _ hx4) ?_
    by_cases hc5 : x3 = 0
    · rw [if_pos hc5] at g21
      refine zo_ifT (p' := 23) (zi_223 rfl) rfl hc5 ?_
      refine zo_iconst (p' := 24) (v := 0) (zi_223 rfl) rfl rfl ?_
      have g22 := Option.some.inj g21
      subst g22
      exact zo_iret (zi_223 rfl) rfl ⟨rfl, rfl⟩
    · rw [if_neg hc5] at g21
      refine zo_ifF (p' := 13) (zi_223 rfl) rfl rfl hc5 ?_
      refine zo_aload_n (p' := 14) (zi_223 rfl) rfl rfl ?_
      refine zo_iload_n (p' := 15) (zi_223 rfl) rfl rfl ?_
      refine zo_iconst (p' := 16) (v := 0) (zi_223 rfl) rfl rfl ?_
      refine zo_iconst (p' := 17) (v := 2) (zi_223 rfl) rfl rfl ?_
      obtain ⟨x6, hx7, g23⟩ := zb_of g21
      refine zo_callVi (p' := 20) (t := 12) (as := [.int a1, .int 0, .int 2]) (r := []) (zi_223 rfl) rfl zl_19_239 rfl rfl (Or.inl ⟨by decide, rfl⟩) (Nat.le_of_ble_eq_true rfl) (Nat.le_of_ble_eq_true rfl) (f_147_ok hx7) (k_147 _ hx7) ?_
      by_cases hc8 : ¬ x6 = 0
      · rw [if_pos hc8] at g23
        refine zo_ifT (p' := 25) (zi_223 rfl) rfl hc8 ?_
        refine zo_iload_n (p' := 26) (zi_223 rfl) rfl rfl ?_
        by_cases hc9 : ¬ a1 = 0
        · rw [if_pos hc9] at g23
          refine zo_ifT (p' := 38) (zi_223 rfl) rfl hc9 ?_
          refine zo_iload_n (p' := 39) (zi_223 rfl) rfl rfl ?_
          refine zo_iconst (p' := 40) (v := 1) (zi_223 rfl) rfl rfl ?_
          by_cases hc10 : ¬ a1 = 1
          · rw [if_pos hc10] at g23
            refine zo_icT (p' := 52) (zi_223 rfl) rfl hc10 ?_
            refine zo_aload_n (p' := 53) (zi_223 rfl) rfl rfl ?_
            refine zo_iload_n (p' := 54) (zi_223 rfl) rfl rfl ?_
            refine zo_iload_n (p' := 55) (zi_223 rfl) rfl rfl ?_
            obtain ⟨x11, M13, hx12, g24⟩ := zbd_of g23
            refine zo_callVi (p' := 58) (t := 12) (as := [.int a0, .int a2]) (r := []) (zi_223 rfl) rfl zl_19_427 rfl rfl (Or.inl ⟨by decide, rfl⟩) (Nat.le_of_ble_eq_true rfl) (Nat.le_of_ble_eq_true rfl) (f_230_ok hx12) (k_230 _ hx12) ?_
            have g25 := Option.some.inj g24
            subst g25
            exact zo_iret (zi_223 rfl) rfl ⟨rfl, rfl⟩
          · rw [if_neg hc10] at g23
            refine zo_icF (p' := 43) (zi_223 rfl) rfl rfl hc10 ?_
            refine zo_aload_n (p' := 44) (zi_223 rfl) rfl rfl ?_
            refine zo_iload_n (p' := 45) (zi_223 rfl) rfl rfl ?_
            refine zo_iload_n (p' := 46) (zi_223 rfl) rfl rfl ?_
            obtain ⟨x14, M16, hx15, g26⟩ := zbd_of g23
            refine zo_callVi (p' := 49) (t := 12) (as := [.int a0, .int a2]) (r := []) (zi_223 rfl) rfl zl_19_421 rfl rfl (Or.inl ⟨by decide, rfl⟩) (Nat.le_of_ble_eq_true rfl) (Nat.le_of_ble_eq_true rfl) (f_227_ok hx15) (k_227 _ hx15) ?_
            refine zo_goto (p' := 58) (zi_223 rfl) rfl ?_
            have g27 := Option.some.inj g26
            subst g27
            exact zo_iret (zi_223 rfl) rfl ⟨rfl, rfl⟩
        · rw [if_neg hc9] at g23
          refine zo_ifF (p' := 29) (zi_223 rfl) rfl rfl hc9 ?_
          refine zo_aload_n (p' := 30) (zi_223 rfl) rfl rfl ?_
          refine zo_iload_n (p' := 31) (zi_223 rfl) rfl rfl ?_
          refine zo_iload_n (p' := 32) (zi_223 rfl) rfl rfl ?_
          obtain ⟨x17, M19, hx18, g28⟩ := zbd_of g23
          refine zo_callVi (p' := 35) (t := 12) (as := [.int a0, .int a2]) (r := []) (zi_223 rfl) rfl zl_19_412 rfl rfl (Or.inl ⟨by decide, rfl⟩) (Nat.le_of_ble_eq_true rfl) (Nat.le_of_ble_eq_true rfl) (f_224_ok hx18) (k_224 _ hx18) ?_
          refine zo_goto (p' := 58) (zi_223 rfl) rfl ?_
          have g29 := Option.some.inj g28
          subst g29
          exact zo_iret (zi_223 rfl) rfl ⟨rfl, rfl⟩
      · rw [if_neg hc8] at g23
        refine zo_ifF (p' := 23) (zi_223 rfl) rfl rfl hc8 ?_
        refine zo_iconst (p' := 24) (v := 0) (zi_223 rfl) rfl rfl ?_
        have g30 := Option.some.inj g23
        subst g30
        exact zo_iret (zi_223 rfl) rfl ⟨rfl, rfl⟩
  · rw [if_neg hok] at h; cases h
/-- SlateHalvesModel.trace(I)I -/
def f_232 (M : ZMem) (o : Nat) (a0 : Int32) : Option (Int32) := if zok M 12 o = true then (zb (f_147 M o a0 0 19) fun x1 => if x1 = 0 then (some (-1)) else (zb (zgi M 12 69 o) fun x4 => if x4 ≤ a0 then (some (-1)) else (zb (zgr M 12 70 o) fun r7 => zb r7 fun q9 => zb (zai M q9 a0) fun x10 => some x10))) else none
theorem f_232_ok {M : ZMem} {o : Nat} {a0 : Int32} {out : Int32} (h : f_232 M o a0 = some out) : zok M 12 o = true := by
  unfold f_232 at h
  by_cases hok : zok M 12 o = true
  · exact hok
  · rw [if_neg hok] at h; cases h
set_option maxRecDepth 20000 in
theorem k_232 (d : Nat) {M : ZMem} {o : Nat} {a0 : Int32} {out : Int32} (h : f_232 M o a0 = some out) : zrn (d + 1) 232 [zrf (some o), .int a0] M (some (.int out), M) := by
  unfold f_232 at h
  by_cases hok : zok M 12 o = true
  · rw [if_pos hok] at h
    refine zrn_of (L := [(0, zrf (some o)), (1, .int a0)]) rfl ?_
    refine zo_aload_n (p' := 1) (zi_232 rfl) rfl rfl ?_
    refine zo_iload_n (p' := 2) (zi_232 rfl) rfl rfl ?_
    refine zo_iconst (p' := 3) (v := 0) (zi_232 rfl) rfl rfl ?_
    refine zo_bipush (p' := 5) (v := 19) (zi_232 rfl) rfl rfl ?_
    obtain ⟨x1, hx2, g12⟩ := zb_of h
    refine zo_callVi (p' := 8) (t := 12) (as := [.int a0, .int 0, .int 19]) (r := []) (zi_232 rfl) rfl zl_19_239 rfl rfl (Or.inl ⟨by decide, rfl⟩) (Nat.le_of_ble_eq_true rfl) (Nat.le_of_ble_eq_true rfl) (f_147_ok hx2) (k_147 _ hx2) ?_
    by_cases hc3 : x1 = 0
    · rw [if_pos hc3] at g12
      refine zo_ifT (p' := 28) (zi_232 rfl) rfl hc3 ?_
      refine zo_iconst (p' := 29) (v := (-1)) (zi_232 rfl) rfl rfl ?_
      have g13 := Option.some.inj g12
      subst g13
      exact zo_iret (zi_232 rfl) rfl ⟨rfl, rfl⟩
    · rw [if_neg hc3] at g12
      refine zo_ifF (p' := 11) (zi_232 rfl) rfl rfl hc3 ?_
      refine zo_iload_n (p' := 12) (zi_232 rfl) rfl rfl ?_
      refine zo_aload_n (p' := 13) (zi_232 rfl) rfl rfl ?_
      obtain ⟨x4, hx5, g14⟩ := zb_of g12
      refine zo_getI (p' := 16) (zi_232 rfl) rfl zl_19_220 hx5 ?_
      by_cases hc6 : x4 ≤ a0
      · rw [if_pos hc6] at g14
        refine zo_icT (p' := 28) (zi_232 rfl) rfl hc6 ?_
        refine zo_iconst (p' := 29) (v := (-1)) (zi_232 rfl) rfl rfl ?_
        have g15 := Option.some.inj g14
        subst g15
        exact zo_iret (zi_232 rfl) rfl ⟨rfl, rfl⟩
      · rw [if_neg hc6] at g14
        refine zo_icF (p' := 19) (zi_232 rfl) rfl rfl hc6 ?_
        refine zo_aload_n (p' := 20) (zi_232 rfl) rfl rfl ?_
        obtain ⟨r7, hx8, g16⟩ := zb_of g14
        refine zo_getR (p' := 23) (zi_232 rfl) rfl zl_19_223 hx8 ?_
        refine zo_iload_n (p' := 24) (zi_232 rfl) rfl rfl ?_
        obtain ⟨q9, h0, g17⟩ := zb_of g16
        subst h0
        obtain ⟨x10, hx11, g18⟩ := zb_of g17
        refine zo_iald (p' := 25) (zi_232 rfl) rfl hx11 ?_
        refine zo_goto (p' := 29) (zi_232 rfl) rfl ?_
        have g19 := Option.some.inj g18
        subst g19
        exact zo_iret (zi_232 rfl) rfl ⟨rfl, rfl⟩
  · rw [if_neg hok] at h; cases h
/-- SlateHalvesModel.taken(II)I -/
def f_233_61 (M : ZMem) (b0 : Int32) (b1 : Int32) : Option (Int32) := if ¬ b0 = 3 then (some (-12)) else (if ¬ b1 = 6 then (some (-12)) else (some b1))
def f_233_51 (M : ZMem) (b0 : Int32) (b1 : Int32) : Option (Int32) := if ¬ b0 = 2 then (f_233_61 M b0 b1) else (if b1 = 5 then (some b1) else (f_233_61 M b0 b1))
set_option maxRecDepth 20000 in
theorem k_233_61 (d : Nat) : ∀ (M : ZMem) (b0 : Int32) (b1 : Int32) (out : Int32), f_233_61 M b0 b1 = some out → zgo none (d + 2) 233 61 [(2, .int b0), (3, .int b1)] [] M (some (.int out), M) := by
  intro M b0 b1 out h
  unfold f_233_61 at h
  refine zo_iload_n (p' := 62) (zi_233 rfl) rfl rfl ?_
  refine zo_iconst (p' := 63) (v := 3) (zi_233 rfl) rfl rfl ?_
  by_cases hc29 : ¬ b0 = 3
  · rw [if_pos hc29] at h
    refine zo_icT (p' := 76) (zi_233 rfl) rfl hc29 ?_
    refine zo_bipush (p' := 78) (v := (-12)) (zi_233 rfl) rfl rfl ?_
    have g31 := Option.some.inj h
    subst g31
    exact zo_iret (zi_233 rfl) rfl ⟨rfl, rfl⟩
  · rw [if_neg hc29] at h
    refine zo_icF (p' := 66) (zi_233 rfl) rfl rfl hc29 ?_
    refine zo_iload_n (p' := 67) (zi_233 rfl) rfl rfl ?_
    refine zo_bipush (p' := 69) (v := 6) (zi_233 rfl) rfl rfl ?_
    by_cases hc30 : ¬ b1 = 6
    · rw [if_pos hc30] at h
      refine zo_icT (p' := 76) (zi_233 rfl) rfl hc30 ?_
      refine zo_bipush (p' := 78) (v := (-12)) (zi_233 rfl) rfl rfl ?_
      have g32 := Option.some.inj h
      subst g32
      exact zo_iret (zi_233 rfl) rfl ⟨rfl, rfl⟩
    · rw [if_neg hc30] at h
      refine zo_icF (p' := 72) (zi_233 rfl) rfl rfl hc30 ?_
      refine zo_iload_n (p' := 73) (zi_233 rfl) rfl rfl ?_
      refine zo_goto (p' := 78) (zi_233 rfl) rfl ?_
      have g33 := Option.some.inj h
      subst g33
      exact zo_iret (zi_233 rfl) rfl ⟨rfl, rfl⟩
set_option maxRecDepth 20000 in
theorem k_233_51 (d : Nat) : ∀ (M : ZMem) (b0 : Int32) (b1 : Int32) (out : Int32), f_233_51 M b0 b1 = some out → zgo none (d + 2) 233 51 [(2, .int b0), (3, .int b1)] [] M (some (.int out), M) := by
  intro M b0 b1 out h
  unfold f_233_51 at h
  refine zo_iload_n (p' := 52) (zi_233 rfl) rfl rfl ?_
  refine zo_iconst (p' := 53) (v := 2) (zi_233 rfl) rfl rfl ?_
  by_cases hc26 : ¬ b0 = 2
  · rw [if_pos hc26] at h
    refine zo_icT (p' := 61) (zi_233 rfl) rfl hc26 ?_
    refine zgo_sub (L' := [(2, .int b0), (3, .int b1)]) (⟨rfl, rfl, trivial⟩) ?_
    exact k_233_61 _ M b0 b1 _ h
  · rw [if_neg hc26] at h
    refine zo_icF (p' := 56) (zi_233 rfl) rfl rfl hc26 ?_
    refine zo_iload_n (p' := 57) (zi_233 rfl) rfl rfl ?_
    refine zo_iconst (p' := 58) (v := 5) (zi_233 rfl) rfl rfl ?_
    by_cases hc27 : b1 = 5
    · rw [if_pos hc27] at h
      refine zo_icT (p' := 72) (zi_233 rfl) rfl hc27 ?_
      refine zo_iload_n (p' := 73) (zi_233 rfl) rfl rfl ?_
      refine zo_goto (p' := 78) (zi_233 rfl) rfl ?_
      have g28 := Option.some.inj h
      subst g28
      exact zo_iret (zi_233 rfl) rfl ⟨rfl, rfl⟩
    · rw [if_neg hc27] at h
      refine zo_icF (p' := 61) (zi_233 rfl) rfl rfl hc27 ?_
      refine zgo_sub (L' := [(2, .int b0), (3, .int b1)]) (⟨rfl, rfl, trivial⟩) ?_
      exact k_233_61 _ M b0 b1 _ h
def f_233 (M : ZMem) (o : Nat) (a0 : Int32) (a1 : Int32) : Option (Int32) := if zok M 12 o = true then (zb (f_147 M o a1 0 6) fun x1 => if ¬ x1 = 0 then (zb (f_149 M o a0) fun x4 => if ¬ x4 = 0 then (zb (zgr M 12 3 o) fun r7 => zb r7 fun q9 => zb (zai M q9 a0) fun x10 => if a1 = 0 then (some x10) else (if x10 = a1 then (some x10) else (if ¬ a1 = 1 then (f_233_51 M a1 x10) else (if x10 = 4 then (some x10) else (f_233_51 M a1 x10))))) else (some (-11))) else (some (-2))) else none
theorem f_233_ok {M : ZMem} {o : Nat} {a0 : Int32} {a1 : Int32} {out : Int32} (h : f_233 M o a0 a1 = some out) : zok M 12 o = true := by
  unfold f_233 at h
  by_cases hok : zok M 12 o = true
  · exact hok
  · rw [if_neg hok] at h; cases h
set_option maxRecDepth 20000 in
theorem k_233 (d : Nat) {M : ZMem} {o : Nat} {a0 : Int32} {a1 : Int32} {out : Int32} (h : f_233 M o a0 a1 = some out) : zrn (d + 2) 233 [zrf (some o), .int a0, .int a1] M (some (.int out), M) := by
  unfold f_233 at h
  by_cases hok : zok M 12 o = true
  · rw [if_pos hok] at h
    refine zrn_of (L := [(0, zrf (some o)), (1, .int a0), (2, .int a1)]) rfl ?_
    refine zo_aload_n (p' := 1) (zi_233 rfl) rfl rfl ?_
    refine zo_iload_n (p' := 2) (zi_233 rfl) rfl rfl ?_
    refine zo_iconst (p' := 3) (v := 0) (zi_233 rfl) rfl rfl ?_
    refine zo_bipush (p' := 5) (v := 6) (zi_233 rfl) rfl rfl ?_
    obtain ⟨x1, hx2, g16⟩ := zb_of h
    refine zo_callVi (p' := 8) (t := 12) (as := [.int a1, .int 0, .int 6]) (r := []) (zi_233 rfl) rfl zl_19_239 rfl rfl (Or.inl ⟨by decide, rfl⟩) (Nat.le_of_ble_eq_true rfl) (Nat.le_of_ble_eq_true rfl) (f_147_ok hx2) (k_147 _ hx2) ?_
    by_cases hc3 : ¬ x1 = 0
    · rw [if_pos hc3] at g16
      refine zo_ifT (p' := 14) (zi_233 rfl) rfl hc3 ?_
      refine zo_aload_n (p' := 15) (zi_233 rfl) rfl rfl ?_
      refine zo_iload_n (p' := 16) (zi_233 rfl) rfl rfl ?_
      obtain ⟨x4, hx5, g17⟩ := zb_of g16
      refine zo_callVi (p' := 19) (t := 12) (as := [.int a0]) (r := []) (zi_233 rfl) rfl zl_19_243 rfl rfl (Or.inl ⟨by decide, rfl⟩) (Nat.le_of_ble_eq_true rfl) (Nat.le_of_ble_eq_true rfl) (f_149_ok hx5) (k_149 _ hx5) ?_
      by_cases hc6 : ¬ x4 = 0
      · rw [if_pos hc6] at g17
        refine zo_ifT (p' := 25) (zi_233 rfl) rfl hc6 ?_
        refine zo_aload_n (p' := 26) (zi_233 rfl) rfl rfl ?_
        obtain ⟨r7, hx8, g18⟩ := zb_of g17
        refine zo_getR (p' := 29) (zi_233 rfl) rfl zl_19_19 hx8 ?_
        refine zo_iload_n (p' := 30) (zi_233 rfl) rfl rfl ?_
        obtain ⟨q9, h0, g19⟩ := zb_of g18
        subst h0
        obtain ⟨x10, hx11, g20⟩ := zb_of g19
        refine zo_iald (p' := 31) (zi_233 rfl) rfl hx11 ?_
        refine zo_istore_n (p' := 32) (L' := [(0, zrf (some o)), (1, .int a0), (2, .int a1), (3, .int x10)]) (zi_233 rfl) rfl zm_233_3 ⟨Or.inr ⟨by decide, rfl, fun q => absurd q (by decide)⟩, ⟨Or.inr ⟨by decide, rfl, fun q => absurd q (by decide)⟩, ⟨Or.inr ⟨by decide, rfl, fun _ => rfl⟩, ⟨Or.inl ⟨rfl, rfl⟩, trivial⟩⟩⟩⟩ ?_
        refine zo_iload_n (p' := 33) (zi_233 rfl) rfl rfl ?_
        by_cases hc12 : a1 = 0
        · rw [if_pos hc12] at g20
          refine zo_ifT (p' := 72) (zi_233 rfl) rfl hc12 ?_
          refine zo_iload_n (p' := 73) (zi_233 rfl) rfl rfl ?_
          refine zo_goto (p' := 78) (zi_233 rfl) rfl ?_
          have g21 := Option.some.inj g20
          subst g21
          exact zo_iret (zi_233 rfl) rfl ⟨rfl, rfl⟩
        · rw [if_neg hc12] at g20
          refine zo_ifF (p' := 36) (zi_233 rfl) rfl rfl hc12 ?_
          refine zo_iload_n (p' := 37) (zi_233 rfl) rfl rfl ?_
          refine zo_iload_n (p' := 38) (zi_233 rfl) rfl rfl ?_
          by_cases hc13 : x10 = a1
          · rw [if_pos hc13] at g20
            refine zo_icT (p' := 72) (zi_233 rfl) rfl hc13 ?_
            refine zo_iload_n (p' := 73) (zi_233 rfl) rfl rfl ?_
            refine zo_goto (p' := 78) (zi_233 rfl) rfl ?_
            have g22 := Option.some.inj g20
            subst g22
            exact zo_iret (zi_233 rfl) rfl ⟨rfl, rfl⟩
          · rw [if_neg hc13] at g20
            refine zo_icF (p' := 41) (zi_233 rfl) rfl rfl hc13 ?_
            refine zo_iload_n (p' := 42) (zi_233 rfl) rfl rfl ?_
            refine zo_iconst (p' := 43) (v := 1) (zi_233 rfl) rfl rfl ?_
            by_cases hc14 : ¬ a1 = 1
            · rw [if_pos hc14] at g20
              refine zo_icT (p' := 51) (zi_233 rfl) rfl hc14 ?_
              refine zgo_sub (L' := [(2, .int a1), (3, .int x10)]) (⟨rfl, rfl, trivial⟩) ?_
              exact k_233_51 _ M a1 x10 _ g20
            · rw [if_neg hc14] at g20
              refine zo_icF (p' := 46) (zi_233 rfl) rfl rfl hc14 ?_
              refine zo_iload_n (p' := 47) (zi_233 rfl) rfl rfl ?_
              refine zo_iconst (p' := 48) (v := 4) (zi_233 rfl) rfl rfl ?_
              by_cases hc15 : x10 = 4
              · rw [if_pos hc15] at g20
                refine zo_icT (p' := 72) (zi_233 rfl) rfl hc15 ?_
                refine zo_iload_n (p' := 73) (zi_233 rfl) rfl rfl ?_
                refine zo_goto (p' := 78) (zi_233 rfl) rfl ?_
                have g23 := Option.some.inj g20
                subst g23
                exact zo_iret (zi_233 rfl) rfl ⟨rfl, rfl⟩
              · rw [if_neg hc15] at g20
                refine zo_icF (p' := 51) (zi_233 rfl) rfl rfl hc15 ?_
                refine zgo_sub (L' := [(2, .int a1), (3, .int x10)]) (⟨rfl, rfl, trivial⟩) ?_
                exact k_233_51 _ M a1 x10 _ g20
      · rw [if_neg hc6] at g17
        refine zo_ifF (p' := 22) (zi_233 rfl) rfl rfl hc6 ?_
        refine zo_bipush (p' := 24) (v := (-11)) (zi_233 rfl) rfl rfl ?_
        have g24 := Option.some.inj g17
        subst g24
        exact zo_iret (zi_233 rfl) rfl ⟨rfl, rfl⟩
    · rw [if_neg hc3] at g16
      refine zo_ifF (p' := 11) (zi_233 rfl) rfl rfl hc3 ?_
      refine zo_bipush (p' := 13) (v := (-2)) (zi_233 rfl) rfl rfl ?_
      have g25 := Option.some.inj g16
      subst g25
      exact zo_iret (zi_233 rfl) rfl ⟨rfl, rfl⟩
  · rw [if_neg hok] at h; cases h
/-- SlateHalvesModel.count(I)I -/
def f_234 (M : ZMem) (o : Nat) (a0 : Int32) : Option (Int32) := if zok M 12 o = true then (if a0 = 0 then (zb (zgi M 12 0 o) fun x8 => some x8) else (if a0 = 1 then (zb (zgi M 12 9 o) fun x10 => some x10) else (if a0 = 2 then (zb (zgi M 12 38 o) fun x12 => some x12) else (if a0 = 3 then (zb (zgi M 12 42 o) fun x14 => some x14) else (if a0 = 4 then (zb (zgi M 12 43 o) fun x16 => some x16) else (if a0 = 5 then (zb (zgi M 12 11 o) fun x18 => some x18) else (if a0 = 6 then (zb (zgi M 12 69 o) fun x20 => some x20) else (some (-2))))))))) else none
theorem f_234_ok {M : ZMem} {o : Nat} {a0 : Int32} {out : Int32} (h : f_234 M o a0 = some out) : zok M 12 o = true := by
  unfold f_234 at h
  by_cases hok : zok M 12 o = true
  · exact hok
  · rw [if_neg hok] at h; cases h
set_option maxRecDepth 20000 in
theorem k_234 (d : Nat) {M : ZMem} {o : Nat} {a0 : Int32} {out : Int32} (h : f_234 M o a0 = some out) : zrn (d) 234 [zrf (some o), .int a0] M (some (.int out), M) := by
  unfold f_234 at h
  by_cases hok : zok M 12 o = true
  · rw [if_pos hok] at h
    refine zrn_of (L := [(0, zrf (some o)), (1, .int a0)]) rfl ?_
    refine zo_iload_n (p' := 1) (zi_234 rfl) rfl rfl ?_
    by_cases hc1 : a0 = 0
    · rw [if_pos hc1] at h
      refine zo_table (p' := 44) (n := 43) (zi_234 rfl) (by decide) (zsel_hit hc1 (by decide)) rfl ?_
      refine zo_aload_n (p' := 45) (zi_234 rfl) rfl rfl ?_
      obtain ⟨x8, hx9, g22⟩ := zb_of h
      refine zo_getI (p' := 48) (zi_234 rfl) rfl zl_19_7 hx9 ?_
      have g23 := Option.some.inj g22
      subst g23
      exact zo_iret (zi_234 rfl) rfl ⟨rfl, rfl⟩
    · rw [if_neg hc1] at h
      by_cases hc2 : a0 = 1
      · rw [if_pos hc2] at h
        refine zo_table (p' := 49) (n := 48) (zi_234 rfl) (by decide) (zsel_skip hc1 (by decide) (zsel_hit hc2 (by decide))) rfl ?_
        refine zo_aload_n (p' := 50) (zi_234 rfl) rfl rfl ?_
        obtain ⟨x10, hx11, g24⟩ := zb_of h
        refine zo_getI (p' := 53) (zi_234 rfl) rfl zl_19_38 hx11 ?_
        have g25 := Option.some.inj g24
        subst g25
        exact zo_iret (zi_234 rfl) rfl ⟨rfl, rfl⟩
      · rw [if_neg hc2] at h
        by_cases hc3 : a0 = 2
        · rw [if_pos hc3] at h
          refine zo_table (p' := 54) (n := 53) (zi_234 rfl) (by decide) (zsel_skip hc1 (by decide) (zsel_skip hc2 (by decide) (zsel_hit hc3 (by decide)))) rfl ?_
          refine zo_aload_n (p' := 55) (zi_234 rfl) rfl rfl ?_
          obtain ⟨x12, hx13, g26⟩ := zb_of h
          refine zo_getI (p' := 58) (zi_234 rfl) rfl zl_19_126 hx13 ?_
          have g27 := Option.some.inj g26
          subst g27
          exact zo_iret (zi_234 rfl) rfl ⟨rfl, rfl⟩
        · rw [if_neg hc3] at h
          by_cases hc4 : a0 = 3
          · rw [if_pos hc4] at h
            refine zo_table (p' := 59) (n := 58) (zi_234 rfl) (by decide) (zsel_skip hc1 (by decide) (zsel_skip hc2 (by decide) (zsel_skip hc3 (by decide) (zsel_hit hc4 (by decide))))) rfl ?_
            refine zo_aload_n (p' := 60) (zi_234 rfl) rfl rfl ?_
            obtain ⟨x14, hx15, g28⟩ := zb_of h
            refine zo_getI (p' := 63) (zi_234 rfl) rfl zl_19_138 hx15 ?_
            have g29 := Option.some.inj g28
            subst g29
            exact zo_iret (zi_234 rfl) rfl ⟨rfl, rfl⟩
          · rw [if_neg hc4] at h
            by_cases hc5 : a0 = 4
            · rw [if_pos hc5] at h
              refine zo_table (p' := 64) (n := 63) (zi_234 rfl) (by decide) (zsel_skip hc1 (by decide) (zsel_skip hc2 (by decide) (zsel_skip hc3 (by decide) (zsel_skip hc4 (by decide) (zsel_hit hc5 (by decide)))))) rfl ?_
              refine zo_aload_n (p' := 65) (zi_234 rfl) rfl rfl ?_
              obtain ⟨x16, hx17, g30⟩ := zb_of h
              refine zo_getI (p' := 68) (zi_234 rfl) rfl zl_19_141 hx17 ?_
              have g31 := Option.some.inj g30
              subst g31
              exact zo_iret (zi_234 rfl) rfl ⟨rfl, rfl⟩
            · rw [if_neg hc5] at h
              by_cases hc6 : a0 = 5
              · rw [if_pos hc6] at h
                refine zo_table (p' := 69) (n := 68) (zi_234 rfl) (by decide) (zsel_skip hc1 (by decide) (zsel_skip hc2 (by decide) (zsel_skip hc3 (by decide) (zsel_skip hc4 (by decide) (zsel_skip hc5 (by decide) (zsel_hit hc6 (by decide))))))) rfl ?_
                refine zo_aload_n (p' := 70) (zi_234 rfl) rfl rfl ?_
                obtain ⟨x18, hx19, g32⟩ := zb_of h
                refine zo_getI (p' := 73) (zi_234 rfl) rfl zl_19_44 hx19 ?_
                have g33 := Option.some.inj g32
                subst g33
                exact zo_iret (zi_234 rfl) rfl ⟨rfl, rfl⟩
              · rw [if_neg hc6] at h
                by_cases hc7 : a0 = 6
                · rw [if_pos hc7] at h
                  refine zo_table (p' := 74) (n := 73) (zi_234 rfl) (by decide) (zsel_skip hc1 (by decide) (zsel_skip hc2 (by decide) (zsel_skip hc3 (by decide) (zsel_skip hc4 (by decide) (zsel_skip hc5 (by decide) (zsel_skip hc6 (by decide) (zsel_hit hc7 (by decide)))))))) rfl ?_
                  refine zo_aload_n (p' := 75) (zi_234 rfl) rfl rfl ?_
                  obtain ⟨x20, hx21, g34⟩ := zb_of h
                  refine zo_getI (p' := 78) (zi_234 rfl) rfl zl_19_220 hx21 ?_
                  have g35 := Option.some.inj g34
                  subst g35
                  exact zo_iret (zi_234 rfl) rfl ⟨rfl, rfl⟩
                · rw [if_neg hc7] at h
                  refine zo_table (p' := 79) (n := 78) (zi_234 rfl) (by decide) (zsel_skip hc1 (by decide) (zsel_skip hc2 (by decide) (zsel_skip hc3 (by decide) (zsel_skip hc4 (by decide) (zsel_skip hc5 (by decide) (zsel_skip hc6 (by decide) (zsel_skip hc7 (by decide) (rfl)))))))) rfl ?_
                  refine zo_bipush (p' := 81) (v := (-2)) (zi_234 rfl) rfl rfl ?_
                  have g36 := Option.some.inj h
                  subst g36
                  exact zo_iret (zi_234 rfl) rfl ⟨rfl, rfl⟩
  · rw [if_neg hok] at h; cases h
/-- SlateHalvesModel.tape(III)I -/
def f_235_69 : Nat → ZMem → Nat → Int32 → Int32 → Option (Int32 × ZMem)
  | 0, _, _, _, _ => none
  | z + 1, M, o, b1, b2 => if 60 ≤ b2 then (some (1, M)) else (zb (zgr M 12 73 o) fun r35 => zb r35 fun q37 => zb (zsaL M q37 ((60 * b1) + b2) 0) fun M38 => f_235_69 z M38 o b1 ((b2 + 1)))
def f_235_65 (M : ZMem) (o : Nat) (b1 : Int32) (b2 : Int32) (b3 : Int32) (b4 : Option Nat) : Option (Int32 × ZMem) := zb b4 fun q29 => zb (zsa M 20 q29 b3 b2) fun M30 => f_235_69 zF M30 o b1 0
def f_235_44 (M : ZMem) (o : Nat) (b1 : Int32) (b2 : Int32) (b3 : Int32) : Option (Int32 × ZMem) := zb (zgr M 12 71 o) fun r17 => zb r17 fun q19 => zb (zsa M 20 q19 b1 b2) fun M20 => zb (zgr M20 12 72 o) fun r22 => if 0 ≤ b2 then (f_235_65 M20 o b1 b3 b1 r22) else (f_235_65 M20 o b1 0 b1 r22)
def f_235_33 (M : ZMem) (o : Nat) (b1 : Int32) (b2 : Int32) (b3 : Int32) : Option (Int32 × ZMem) := if b2 < 0 then (f_235_44 M o b1 b2 b3) else (if 0 ≤ b3 then (f_235_44 M o b1 b2 b3) else (some ((-14), M)))
set_option maxRecDepth 20000 in
theorem k_235_69 (d : Nat) : ∀ (z : Nat) (M : ZMem) (o : Nat) (b1 : Int32) (b2 : Int32) (out : Int32 × ZMem), f_235_69 z M o b1 b2 = some out → zgo none (d + 2) 235 69 [(0, zrf (some o)), (1, .int b1), (4, .int b2)] [] M (some (.int out.1), out.2) := by
  intro z
  induction z with
  | zero => intro M o b1 b2 out h; cases h
  | succ z ih =>
    intro M o b1 b2 out h
    rw [f_235_69] at h
    refine zo_iload (p' := 71) (zi_235 rfl) rfl rfl ?_
    refine zo_bipush (p' := 73) (v := 60) (zi_235 rfl) rfl rfl ?_
    by_cases hc34 : 60 ≤ b2
    · rw [if_pos hc34] at h
      refine zo_icT (p' := 95) (zi_235 rfl) rfl hc34 ?_
      refine zo_iconst (p' := 96) (v := 1) (zi_235 rfl) rfl rfl ?_
      have g40 := Option.some.inj h
      subst g40
      exact zo_iret (zi_235 rfl) rfl ⟨rfl, rfl⟩
    · rw [if_neg hc34] at h
      refine zo_icF (p' := 76) (zi_235 rfl) rfl rfl hc34 ?_
      refine zo_aload_n (p' := 77) (zi_235 rfl) rfl rfl ?_
      obtain ⟨r35, hx36, g41⟩ := zb_of h
      refine zo_getR (p' := 80) (zi_235 rfl) rfl zl_19_232 hx36 ?_
      refine zo_bipush (p' := 82) (v := 60) (zi_235 rfl) rfl rfl ?_
      refine zo_iload_n (p' := 83) (zi_235 rfl) rfl rfl ?_
      refine zo_imul (p' := 84) (zi_235 rfl) rfl ?_
      refine zo_iload (p' := 86) (zi_235 rfl) rfl rfl ?_
      refine zo_iadd (p' := 87) (zi_235 rfl) rfl ?_
      refine zo_lconst (p' := 88) (v := 0) (zi_235 rfl) rfl rfl ?_
      obtain ⟨q37, h0, g42⟩ := zb_of g41
      subst h0
      obtain ⟨M38, hx39, g43⟩ := zb_of g42
      refine zo_last (p' := 89) (zi_235 rfl) rfl hx39 ?_
      refine zo_iinc (p' := 92) (v := (b2 + 1)) (L' := [(0, zrf (some o)), (1, .int b1), (4, .int ((b2 + 1)))]) (zi_235 rfl) rfl zm_235_4 rfl rfl ⟨Or.inr ⟨by decide, rfl, fun q => absurd q (by decide)⟩, ⟨Or.inr ⟨by decide, rfl, fun q => absurd q (by decide)⟩, ⟨Or.inl ⟨rfl, rfl⟩, trivial⟩⟩⟩ ?_
      refine zo_goto (p' := 69) (zi_235 rfl) rfl ?_
      refine zgo_sub (L' := [(0, zrf (some o)), (1, .int b1), (4, .int (((b2 + 1))))]) (⟨rfl, rfl, rfl, trivial⟩) ?_
      exact ih M38 o b1 ((b2 + 1)) _ g43
set_option maxRecDepth 20000 in
theorem k_235_65 (d : Nat) : ∀ (M : ZMem) (o : Nat) (b1 : Int32) (b2 : Int32) (b3 : Int32) (b4 : Option Nat) (out : Int32 × ZMem), f_235_65 M o b1 b2 b3 b4 = some out → zgo none (d + 2) 235 65 [(0, zrf (some o)), (1, .int b1)] [.int b2, .int b3, zrf b4] M (some (.int out.1), out.2) := by
  intro M o b1 b2 b3 b4 out h
  unfold f_235_65 at h
  obtain ⟨q29, h0, g32⟩ := zb_of h
  subst h0
  obtain ⟨M30, hx31, g33⟩ := zb_of g32
  refine zo_iast (p' := 66) (zi_235 rfl) rfl hx31 ?_
  refine zo_iconst (p' := 67) (v := 0) (zi_235 rfl) rfl rfl ?_
  refine zo_istore (p' := 69) (L' := [(0, zrf (some o)), (1, .int b1), (4, .int 0)]) (zi_235 rfl) rfl zm_235_4 ⟨Or.inr ⟨by decide, rfl, fun q => absurd q (by decide)⟩, ⟨Or.inr ⟨by decide, rfl, fun q => absurd q (by decide)⟩, ⟨Or.inl ⟨rfl, rfl⟩, trivial⟩⟩⟩ ?_
  refine zgo_sub (L' := [(0, zrf (some o)), (1, .int b1), (4, .int 0)]) (⟨rfl, rfl, rfl, trivial⟩) ?_
  exact k_235_69 _ zF M30 o b1 0 _ g33
set_option maxRecDepth 20000 in
theorem k_235_44 (d : Nat) : ∀ (M : ZMem) (o : Nat) (b1 : Int32) (b2 : Int32) (b3 : Int32) (out : Int32 × ZMem), f_235_44 M o b1 b2 b3 = some out → zgo none (d + 2) 235 44 [(0, zrf (some o)), (1, .int b1), (2, .int b2), (3, .int b3)] [] M (some (.int out.1), out.2) := by
  intro M o b1 b2 b3 out h
  unfold f_235_44 at h
  refine zo_aload_n (p' := 45) (zi_235 rfl) rfl rfl ?_
  obtain ⟨r17, hx18, g25⟩ := zb_of h
  refine zo_getR (p' := 48) (zi_235 rfl) rfl zl_19_226 hx18 ?_
  refine zo_iload_n (p' := 49) (zi_235 rfl) rfl rfl ?_
  refine zo_iload_n (p' := 50) (zi_235 rfl) rfl rfl ?_
  obtain ⟨q19, h0, g26⟩ := zb_of g25
  subst h0
  obtain ⟨M20, hx21, g27⟩ := zb_of g26
  refine zo_iast (p' := 51) (zi_235 rfl) rfl hx21 ?_
  refine zo_aload_n (p' := 52) (zi_235 rfl) rfl rfl ?_
  obtain ⟨r22, hx23, g28⟩ := zb_of g27
  refine zo_getR (p' := 55) (zi_235 rfl) rfl zl_19_229 hx23 ?_
  refine zo_iload_n (p' := 56) (zi_235 rfl) rfl rfl ?_
  refine zo_iload_n (p' := 57) (zi_235 rfl) rfl rfl ?_
  by_cases hc24 : 0 ≤ b2
  · rw [if_pos hc24] at g28
    refine zo_ifT (p' := 64) (zi_235 rfl) rfl hc24 ?_
    refine zo_iload_n (p' := 65) (zi_235 rfl) rfl rfl ?_
    refine zgo_sub (L' := [(0, zrf (some o)), (1, .int b1)]) (⟨rfl, rfl, trivial⟩) ?_
    exact k_235_65 _ M20 o b1 b3 b1 r22 _ g28
  · rw [if_neg hc24] at g28
    refine zo_ifF (p' := 60) (zi_235 rfl) rfl rfl hc24 ?_
    refine zo_iconst (p' := 61) (v := 0) (zi_235 rfl) rfl rfl ?_
    refine zo_goto (p' := 65) (zi_235 rfl) rfl ?_
    refine zgo_sub (L' := [(0, zrf (some o)), (1, .int b1)]) (⟨rfl, rfl, trivial⟩) ?_
    exact k_235_65 _ M20 o b1 0 b1 r22 _ g28
set_option maxRecDepth 20000 in
theorem k_235_33 (d : Nat) : ∀ (M : ZMem) (o : Nat) (b1 : Int32) (b2 : Int32) (b3 : Int32) (out : Int32 × ZMem), f_235_33 M o b1 b2 b3 = some out → zgo none (d + 2) 235 33 [(0, zrf (some o)), (1, .int b1), (2, .int b2), (3, .int b3)] [] M (some (.int out.1), out.2) := by
  intro M o b1 b2 b3 out h
  unfold f_235_33 at h
  refine zo_iload_n (p' := 34) (zi_235 rfl) rfl rfl ?_
  by_cases hc14 : b2 < 0
  · rw [if_pos hc14] at h
    refine zo_ifT (p' := 44) (zi_235 rfl) rfl hc14 ?_
    refine zgo_sub (L' := [(0, zrf (some o)), (1, .int b1), (2, .int b2), (3, .int b3)]) (⟨rfl, rfl, rfl, rfl, trivial⟩) ?_
    exact k_235_44 _ M o b1 b2 b3 _ h
  · rw [if_neg hc14] at h
    refine zo_ifF (p' := 37) (zi_235 rfl) rfl rfl hc14 ?_
    refine zo_iload_n (p' := 38) (zi_235 rfl) rfl rfl ?_
    by_cases hc15 : 0 ≤ b3
    · rw [if_pos hc15] at h
      refine zo_ifT (p' := 44) (zi_235 rfl) rfl hc15 ?_
      refine zgo_sub (L' := [(0, zrf (some o)), (1, .int b1), (2, .int b2), (3, .int b3)]) (⟨rfl, rfl, rfl, rfl, trivial⟩) ?_
      exact k_235_44 _ M o b1 b2 b3 _ h
    · rw [if_neg hc15] at h
      refine zo_ifF (p' := 41) (zi_235 rfl) rfl rfl hc15 ?_
      refine zo_bipush (p' := 43) (v := (-14)) (zi_235 rfl) rfl rfl ?_
      have g16 := Option.some.inj h
      subst g16
      exact zo_iret (zi_235 rfl) rfl ⟨rfl, rfl⟩
def f_235 (M : ZMem) (o : Nat) (a0 : Int32) (a1 : Int32) (a2 : Int32) : Option (Int32 × ZMem) := if zok M 12 o = true then (zb (f_220 M o a0) fun x1 => if ¬ x1 = 0 then (zb (f_147 M o a1 ((-1)) 4) fun x4 => if x4 = 0 then (some ((-2), M)) else (if a1 < 0 then (f_235_33 M o a0 a1 a2) else (if a2 ≤ 60 then (f_235_33 M o a0 a1 a2) else (some ((-2), M))))) else (some ((-1), M))) else none
theorem f_235_ok {M : ZMem} {o : Nat} {a0 : Int32} {a1 : Int32} {a2 : Int32} {out : Int32 × ZMem} (h : f_235 M o a0 a1 a2 = some out) : zok M 12 o = true := by
  unfold f_235 at h
  by_cases hok : zok M 12 o = true
  · exact hok
  · rw [if_neg hok] at h; cases h
set_option maxRecDepth 20000 in
theorem k_235 (d : Nat) {M : ZMem} {o : Nat} {a0 : Int32} {a1 : Int32} {a2 : Int32} {out : Int32 × ZMem} (h : f_235 M o a0 a1 a2 = some out) : zrn (d + 2) 235 [zrf (some o), .int a0, .int a1, .int a2] M (some (.int out.1), out.2) := by
  unfold f_235 at h
  by_cases hok : zok M 12 o = true
  · rw [if_pos hok] at h
    refine zrn_of (L := [(0, zrf (some o)), (1, .int a0), (2, .int a1), (3, .int a2)]) rfl ?_
    refine zo_aload_n (p' := 1) (zi_235 rfl) rfl rfl ?_
    refine zo_iload_n (p' := 2) (zi_235 rfl) rfl rfl ?_
    obtain ⟨x1, hx2, g9⟩ := zb_of h
    refine zo_callVi (p' := 5) (t := 12) (as := [.int a0]) (r := []) (zi_235 rfl) rfl zl_19_403 rfl rfl (Or.inl ⟨by decide, rfl⟩) (Nat.le_of_ble_eq_true rfl) (Nat.le_of_ble_eq_true rfl) (f_220_ok hx2) (k_220 _ hx2) ?_
    by_cases hc3 : ¬ x1 = 0
    · rw [if_pos hc3] at g9
      refine zo_ifT (p' := 10) (zi_235 rfl) rfl hc3 ?_
      refine zo_aload_n (p' := 11) (zi_235 rfl) rfl rfl ?_
      refine zo_iload_n (p' := 12) (zi_235 rfl) rfl rfl ?_
      refine zo_iconst (p' := 13) (v := (-1)) (zi_235 rfl) rfl rfl ?_
      refine zo_iconst (p' := 14) (v := 4) (zi_235 rfl) rfl rfl ?_
      obtain ⟨x4, hx5, g10⟩ := zb_of g9
      refine zo_callVi (p' := 17) (t := 12) (as := [.int a1, .int ((-1)), .int 4]) (r := []) (zi_235 rfl) rfl zl_19_239 rfl rfl (Or.inl ⟨by decide, rfl⟩) (Nat.le_of_ble_eq_true rfl) (Nat.le_of_ble_eq_true rfl) (f_147_ok hx5) (k_147 _ hx5) ?_
      by_cases hc6 : x4 = 0
      · rw [if_pos hc6] at g10
        refine zo_ifT (p' := 30) (zi_235 rfl) rfl hc6 ?_
        refine zo_bipush (p' := 32) (v := (-2)) (zi_235 rfl) rfl rfl ?_
        have g11 := Option.some.inj g10
        subst g11
        exact zo_iret (zi_235 rfl) rfl ⟨rfl, rfl⟩
      · rw [if_neg hc6] at g10
        refine zo_ifF (p' := 20) (zi_235 rfl) rfl rfl hc6 ?_
        refine zo_iload_n (p' := 21) (zi_235 rfl) rfl rfl ?_
        by_cases hc7 : a1 < 0
        · rw [if_pos hc7] at g10
          refine zo_ifT (p' := 33) (zi_235 rfl) rfl hc7 ?_
          refine zgo_sub (L' := [(0, zrf (some o)), (1, .int a0), (2, .int a1), (3, .int a2)]) (⟨rfl, rfl, rfl, rfl, trivial⟩) ?_
          exact k_235_33 _ M o a0 a1 a2 _ g10
        · rw [if_neg hc7] at g10
          refine zo_ifF (p' := 24) (zi_235 rfl) rfl rfl hc7 ?_
          refine zo_iload_n (p' := 25) (zi_235 rfl) rfl rfl ?_
          refine zo_bipush (p' := 27) (v := 60) (zi_235 rfl) rfl rfl ?_
          by_cases hc8 : a2 ≤ 60
          · rw [if_pos hc8] at g10
            refine zo_icT (p' := 33) (zi_235 rfl) rfl hc8 ?_
            refine zgo_sub (L' := [(0, zrf (some o)), (1, .int a0), (2, .int a1), (3, .int a2)]) (⟨rfl, rfl, rfl, rfl, trivial⟩) ?_
            exact k_235_33 _ M o a0 a1 a2 _ g10
          · rw [if_neg hc8] at g10
            refine zo_icF (p' := 30) (zi_235 rfl) rfl rfl hc8 ?_
            refine zo_bipush (p' := 32) (v := (-2)) (zi_235 rfl) rfl rfl ?_
            have g12 := Option.some.inj g10
            subst g12
            exact zo_iret (zi_235 rfl) rfl ⟨rfl, rfl⟩
    · rw [if_neg hc3] at g9
      refine zo_ifF (p' := 8) (zi_235 rfl) rfl rfl hc3 ?_
      refine zo_iconst (p' := 9) (v := (-1)) (zi_235 rfl) rfl rfl ?_
      have g13 := Option.some.inj g9
      subst g13
      exact zo_iret (zi_235 rfl) rfl ⟨rfl, rfl⟩
  · rw [if_neg hok] at h; cases h
/-- SlateHalvesModel.narrow(IJ)J -/
def f_237 (M : ZMem) (o : Nat) (a0 : Int32) (a1 : Int64) : Option (Int64) := if zok M 12 o = true then (if ¬ a0 = 0 then (if ¬ a0 = 1 then (if ¬ a0 = 2 then (if ¬ a0 = 4 then (some a1) else (if (lg_cmp a1 0) = 0 then (some 0) else (some 1))) else (some (Int32.toInt64 (Int64.toInt32 a1)))) else (some (Int32.toInt64 ((Int32.toInt16 (Int64.toInt32 a1)).toInt32)))) else (some (Int32.toInt64 ((Int32.toInt8 (Int64.toInt32 a1)).toInt32)))) else none
theorem f_237_ok {M : ZMem} {o : Nat} {a0 : Int32} {a1 : Int64} {out : Int64} (h : f_237 M o a0 a1 = some out) : zok M 12 o = true := by
  unfold f_237 at h
  by_cases hok : zok M 12 o = true
  · exact hok
  · rw [if_neg hok] at h; cases h
set_option maxRecDepth 20000 in
theorem k_237 (d : Nat) {M : ZMem} {o : Nat} {a0 : Int32} {a1 : Int64} {out : Int64} (h : f_237 M o a0 a1 = some out) : zrn (d) 237 [zrf (some o), .int a0, .long a1] M (some (.long out), M) := by
  unfold f_237 at h
  by_cases hok : zok M 12 o = true
  · rw [if_pos hok] at h
    refine zrn_of (L := [(0, zrf (some o)), (1, .int a0), (2, .long a1)]) rfl ?_
    refine zo_iload_n (p' := 1) (zi_237 rfl) rfl rfl ?_
    by_cases hc1 : ¬ a0 = 0
    · rw [if_pos hc1] at h
      refine zo_ifT (p' := 11) (zi_237 rfl) rfl hc1 ?_
      refine zo_iload_n (p' := 12) (zi_237 rfl) rfl rfl ?_
      refine zo_iconst (p' := 13) (v := 1) (zi_237 rfl) rfl rfl ?_
      by_cases hc2 : ¬ a0 = 1
      · rw [if_pos hc2] at h
        refine zo_icT (p' := 23) (zi_237 rfl) rfl hc2 ?_
        refine zo_iload_n (p' := 24) (zi_237 rfl) rfl rfl ?_
        refine zo_iconst (p' := 25) (v := 2) (zi_237 rfl) rfl rfl ?_
        by_cases hc3 : ¬ a0 = 2
        · rw [if_pos hc3] at h
          refine zo_icT (p' := 34) (zi_237 rfl) rfl hc3 ?_
          refine zo_iload_n (p' := 35) (zi_237 rfl) rfl rfl ?_
          refine zo_iconst (p' := 36) (v := 4) (zi_237 rfl) rfl rfl ?_
          by_cases hc4 : ¬ a0 = 4
          · rw [if_pos hc4] at h
            refine zo_icT (p' := 53) (zi_237 rfl) rfl hc4 ?_
            refine zo_lload_n (p' := 54) (zi_237 rfl) rfl rfl ?_
            have g6 := Option.some.inj h
            subst g6
            exact zo_lret (zi_237 rfl) rfl
          · rw [if_neg hc4] at h
            refine zo_icF (p' := 39) (zi_237 rfl) rfl rfl hc4 ?_
            refine zo_lload_n (p' := 40) (zi_237 rfl) rfl rfl ?_
            refine zo_lconst (p' := 41) (v := 0) (zi_237 rfl) rfl rfl ?_
            refine zo_lcmp (p' := 42) (zi_237 rfl) rfl ?_
            by_cases hc5 : (lg_cmp a1 0) = 0
            · rw [if_pos hc5] at h
              refine zo_ifT (p' := 49) (zi_237 rfl) rfl hc5 ?_
              refine zo_lconst (p' := 50) (v := 0) (zi_237 rfl) rfl rfl ?_
              refine zo_goto (p' := 54) (zi_237 rfl) rfl ?_
              have g7 := Option.some.inj h
              subst g7
              exact zo_lret (zi_237 rfl) rfl
            · rw [if_neg hc5] at h
              refine zo_ifF (p' := 45) (zi_237 rfl) rfl rfl hc5 ?_
              refine zo_lconst (p' := 46) (v := 1) (zi_237 rfl) rfl rfl ?_
              refine zo_goto (p' := 54) (zi_237 rfl) rfl ?_
              have g8 := Option.some.inj h
              subst g8
              exact zo_lret (zi_237 rfl) rfl
        · rw [if_neg hc3] at h
          refine zo_icF (p' := 28) (zi_237 rfl) rfl rfl hc3 ?_
          refine zo_lload_n (p' := 29) (zi_237 rfl) rfl rfl ?_
          refine zo_l2i (p' := 30) (zi_237 rfl) rfl ?_
          refine zo_i2l (p' := 31) (zi_237 rfl) rfl ?_
          refine zo_goto (p' := 54) (zi_237 rfl) rfl ?_
          have g9 := Option.some.inj h
          subst g9
          exact zo_lret (zi_237 rfl) rfl
      · rw [if_neg hc2] at h
        refine zo_icF (p' := 16) (zi_237 rfl) rfl rfl hc2 ?_
        refine zo_lload_n (p' := 17) (zi_237 rfl) rfl rfl ?_
        refine zo_l2i (p' := 18) (zi_237 rfl) rfl ?_
        refine zo_i2s (p' := 19) (zi_237 rfl) rfl ?_
        refine zo_i2l (p' := 20) (zi_237 rfl) rfl ?_
        refine zo_goto (p' := 54) (zi_237 rfl) rfl ?_
        have g10 := Option.some.inj h
        subst g10
        exact zo_lret (zi_237 rfl) rfl
    · rw [if_neg hc1] at h
      refine zo_ifF (p' := 4) (zi_237 rfl) rfl rfl hc1 ?_
      refine zo_lload_n (p' := 5) (zi_237 rfl) rfl rfl ?_
      refine zo_l2i (p' := 6) (zi_237 rfl) rfl ?_
      refine zo_i2b (p' := 7) (zi_237 rfl) rfl ?_
      refine zo_i2l (p' := 8) (zi_237 rfl) rfl ?_
      refine zo_goto (p' := 54) (zi_237 rfl) rfl ?_
      have g11 := Option.some.inj h
      subst g11
      exact zo_lret (zi_237 rfl) rfl
  · rw [if_neg hok] at h; cases h
/-- SlateHalvesModel.item(IIJ)I -/
def f_236 (M : ZMem) (o : Nat) (a0 : Int32) (a1 : Int32) (a2 : Int64) : Option (Int32 × ZMem) := if zok M 12 o = true then (zb (f_220 M o a0) fun x1 => if ¬ x1 = 0 then (zb (zgr M 12 71 o) fun r4 => zb r4 fun q6 => zb (zai M q6 a0) fun x7 => if 0 ≤ x7 then (zb (zgr M 12 72 o) fun r10 => zb r10 fun q12 => zb (zai M q12 a0) fun x13 => zb (f_147 M o a1 0 ((x13 - 1))) fun x15 => if ¬ x15 = 0 then (zb (zgr M 12 73 o) fun r18 => zb (zgr M 12 71 o) fun r20 => zb r20 fun q22 => zb (zai M q22 a0) fun x23 => zb (f_237 M o x23 a2) fun x25 => zb r18 fun q27 => zb (zsaL M q27 ((60 * a0) + a1) x25) fun M28 => some (1, M28)) else (some ((-13), M))) else (some ((-11), M))) else (some ((-1), M))) else none
theorem f_236_ok {M : ZMem} {o : Nat} {a0 : Int32} {a1 : Int32} {a2 : Int64} {out : Int32 × ZMem} (h : f_236 M o a0 a1 a2 = some out) : zok M 12 o = true := by
  unfold f_236 at h
  by_cases hok : zok M 12 o = true
  · exact hok
  · rw [if_neg hok] at h; cases h
set_option maxRecDepth 20000 in
theorem k_236 (d : Nat) {M : ZMem} {o : Nat} {a0 : Int32} {a1 : Int32} {a2 : Int64} {out : Int32 × ZMem} (h : f_236 M o a0 a1 a2 = some out) : zrn (d + 2) 236 [zrf (some o), .int a0, .int a1, .long a2] M (some (.int out.1), out.2) := by
  unfold f_236 at h
  by_cases hok : zok M 12 o = true
  · rw [if_pos hok] at h
    refine zrn_of (L := [(0, zrf (some o)), (1, .int a0), (2, .int a1), (3, .long a2)]) rfl ?_
    refine zo_aload_n (p' := 1) (zi_236 rfl) rfl rfl ?_
    refine zo_iload_n (p' := 2) (zi_236 rfl) rfl rfl ?_
    obtain ⟨x1, hx2, g30⟩ := zb_of h
    refine zo_callVi (p' := 5) (t := 12) (as := [.int a0]) (r := []) (zi_236 rfl) rfl zl_19_403 rfl rfl (Or.inl ⟨by decide, rfl⟩) (Nat.le_of_ble_eq_true rfl) (Nat.le_of_ble_eq_true rfl) (f_220_ok hx2) (k_220 _ hx2) ?_
    by_cases hc3 : ¬ x1 = 0
    · rw [if_pos hc3] at g30
      refine zo_ifT (p' := 10) (zi_236 rfl) rfl hc3 ?_
      refine zo_aload_n (p' := 11) (zi_236 rfl) rfl rfl ?_
      obtain ⟨r4, hx5, g31⟩ := zb_of g30
      refine zo_getR (p' := 14) (zi_236 rfl) rfl zl_19_226 hx5 ?_
      refine zo_iload_n (p' := 15) (zi_236 rfl) rfl rfl ?_
      obtain ⟨q6, h0, g32⟩ := zb_of g31
      subst h0
      obtain ⟨x7, hx8, g33⟩ := zb_of g32
      refine zo_iald (p' := 16) (zi_236 rfl) rfl hx8 ?_
      by_cases hc9 : 0 ≤ x7
      · rw [if_pos hc9] at g33
        refine zo_ifT (p' := 22) (zi_236 rfl) rfl hc9 ?_
        refine zo_aload_n (p' := 23) (zi_236 rfl) rfl rfl ?_
        refine zo_iload_n (p' := 24) (zi_236 rfl) rfl rfl ?_
        refine zo_iconst (p' := 25) (v := 0) (zi_236 rfl) rfl rfl ?_
        refine zo_aload_n (p' := 26) (zi_236 rfl) rfl rfl ?_
        obtain ⟨r10, hx11, g34⟩ := zb_of g33
        refine zo_getR (p' := 29) (zi_236 rfl) rfl zl_19_229 hx11 ?_
        refine zo_iload_n (p' := 30) (zi_236 rfl) rfl rfl ?_
        obtain ⟨q12, h0, g35⟩ := zb_of g34
        subst h0
        obtain ⟨x13, hx14, g36⟩ := zb_of g35
        refine zo_iald (p' := 31) (zi_236 rfl) rfl hx14 ?_
        refine zo_iconst (p' := 32) (v := 1) (zi_236 rfl) rfl rfl ?_
        refine zo_isub (p' := 33) (zi_236 rfl) rfl ?_
        obtain ⟨x15, hx16, g37⟩ := zb_of g36
        refine zo_callVi (p' := 36) (t := 12) (as := [.int a1, .int 0, .int ((x13 - 1))]) (r := []) (zi_236 rfl) rfl zl_19_239 rfl rfl (Or.inl ⟨by decide, rfl⟩) (Nat.le_of_ble_eq_true rfl) (Nat.le_of_ble_eq_true rfl) (f_147_ok hx16) (k_147 _ hx16) ?_
        by_cases hc17 : ¬ x15 = 0
        · rw [if_pos hc17] at g37
          refine zo_ifT (p' := 42) (zi_236 rfl) rfl hc17 ?_
          refine zo_aload_n (p' := 43) (zi_236 rfl) rfl rfl ?_
          obtain ⟨r18, hx19, g38⟩ := zb_of g37
          refine zo_getR (p' := 46) (zi_236 rfl) rfl zl_19_232 hx19 ?_
          refine zo_bipush (p' := 48) (v := 60) (zi_236 rfl) rfl rfl ?_
          refine zo_iload_n (p' := 49) (zi_236 rfl) rfl rfl ?_
          refine zo_imul (p' := 50) (zi_236 rfl) rfl ?_
          refine zo_iload_n (p' := 51) (zi_236 rfl) rfl rfl ?_
          refine zo_iadd (p' := 52) (zi_236 rfl) rfl ?_
          refine zo_aload_n (p' := 53) (zi_236 rfl) rfl rfl ?_
          refine zo_aload_n (p' := 54) (zi_236 rfl) rfl rfl ?_
          obtain ⟨r20, hx21, g39⟩ := zb_of g38
          refine zo_getR (p' := 57) (zi_236 rfl) rfl zl_19_226 hx21 ?_
          refine zo_iload_n (p' := 58) (zi_236 rfl) rfl rfl ?_
          obtain ⟨q22, h0, g40⟩ := zb_of g39
          subst h0
          obtain ⟨x23, hx24, g41⟩ := zb_of g40
          refine zo_iald (p' := 59) (zi_236 rfl) rfl hx24 ?_
          refine zo_lload_n (p' := 60) (zi_236 rfl) rfl rfl ?_
          obtain ⟨x25, hx26, g42⟩ := zb_of g41
          refine zo_callVl (p' := 63) (t := 12) (as := [.int x23, .long a2]) (r := [.int (((60 * a0) + a1)), zrf r18]) (zi_236 rfl) rfl zl_19_430 rfl rfl (Or.inl ⟨by decide, rfl⟩) (by simp [zrf_cat, zcat_i, zcat_l, zcat_r]) (Nat.le_of_ble_eq_true rfl) (f_237_ok hx26) (k_237 _ hx26) ?_
          obtain ⟨q27, h0, g43⟩ := zb_of g42
          subst h0
          obtain ⟨M28, hx29, g44⟩ := zb_of g43
          refine zo_last (p' := 64) (zi_236 rfl) rfl hx29 ?_
          refine zo_iconst (p' := 65) (v := 1) (zi_236 rfl) rfl rfl ?_
          have g45 := Option.some.inj g44
          subst g45
          exact zo_iret (zi_236 rfl) rfl ⟨rfl, rfl⟩
        · rw [if_neg hc17] at g37
          refine zo_ifF (p' := 39) (zi_236 rfl) rfl rfl hc17 ?_
          refine zo_bipush (p' := 41) (v := (-13)) (zi_236 rfl) rfl rfl ?_
          have g46 := Option.some.inj g37
          subst g46
          exact zo_iret (zi_236 rfl) rfl ⟨rfl, rfl⟩
      · rw [if_neg hc9] at g33
        refine zo_ifF (p' := 19) (zi_236 rfl) rfl rfl hc9 ?_
        refine zo_bipush (p' := 21) (v := (-11)) (zi_236 rfl) rfl rfl ?_
        have g47 := Option.some.inj g33
        subst g47
        exact zo_iret (zi_236 rfl) rfl ⟨rfl, rfl⟩
    · rw [if_neg hc3] at g30
      refine zo_ifF (p' := 8) (zi_236 rfl) rfl rfl hc3 ?_
      refine zo_iconst (p' := 9) (v := (-1)) (zi_236 rfl) rfl rfl ?_
      have g48 := Option.some.inj g30
      subst g48
      exact zo_iret (zi_236 rfl) rfl ⟨rfl, rfl⟩
  · rw [if_neg hok] at h; cases h
/-- SlateHalvesModel.read(II)J -/
def f_238 (M : ZMem) (o : Nat) (a0 : Int32) (a1 : Int32) : Option (Int64) := if zok M 12 o = true then (zb (f_220 M o a0) fun x1 => if x1 = 0 then (some (-9223372036854775808)) else (zb (zgr M 12 71 o) fun r4 => zb r4 fun q6 => zb (zai M q6 a0) fun x7 => if x7 < 0 then (some (-9223372036854775808)) else (zb (zgr M 12 72 o) fun r10 => zb r10 fun q12 => zb (zai M q12 a0) fun x13 => zb (f_147 M o a1 0 ((x13 - 1))) fun x15 => if ¬ x15 = 0 then (zb (zgr M 12 73 o) fun r18 => zb r18 fun q20 => zb (zlaL M q20 ((60 * a0) + a1)) fun x21 => some x21) else (some (-9223372036854775808))))) else none
theorem f_238_ok {M : ZMem} {o : Nat} {a0 : Int32} {a1 : Int32} {out : Int64} (h : f_238 M o a0 a1 = some out) : zok M 12 o = true := by
  unfold f_238 at h
  by_cases hok : zok M 12 o = true
  · exact hok
  · rw [if_neg hok] at h; cases h
set_option maxRecDepth 20000 in
theorem k_238 (d : Nat) {M : ZMem} {o : Nat} {a0 : Int32} {a1 : Int32} {out : Int64} (h : f_238 M o a0 a1 = some out) : zrn (d + 2) 238 [zrf (some o), .int a0, .int a1] M (some (.long out), M) := by
  unfold f_238 at h
  by_cases hok : zok M 12 o = true
  · rw [if_pos hok] at h
    refine zrn_of (L := [(0, zrf (some o)), (1, .int a0), (2, .int a1)]) rfl ?_
    refine zo_aload_n (p' := 1) (zi_238 rfl) rfl rfl ?_
    refine zo_iload_n (p' := 2) (zi_238 rfl) rfl rfl ?_
    obtain ⟨x1, hx2, g23⟩ := zb_of h
    refine zo_callVi (p' := 5) (t := 12) (as := [.int a0]) (r := []) (zi_238 rfl) rfl zl_19_403 rfl rfl (Or.inl ⟨by decide, rfl⟩) (Nat.le_of_ble_eq_true rfl) (Nat.le_of_ble_eq_true rfl) (f_220_ok hx2) (k_220 _ hx2) ?_
    by_cases hc3 : x1 = 0
    · rw [if_pos hc3] at g23
      refine zo_ifT (p' := 34) (zi_238 rfl) rfl hc3 ?_
      refine zo_ldc2 (p' := 37) (v := (-9223372036854775808)) (zi_238 rfl) rfl rfl ?_
      refine zo_goto (p' := 51) (zi_238 rfl) rfl ?_
      have g24 := Option.some.inj g23
      subst g24
      exact zo_lret (zi_238 rfl) rfl
    · rw [if_neg hc3] at g23
      refine zo_ifF (p' := 8) (zi_238 rfl) rfl rfl hc3 ?_
      refine zo_aload_n (p' := 9) (zi_238 rfl) rfl rfl ?_
      obtain ⟨r4, hx5, g25⟩ := zb_of g23
      refine zo_getR (p' := 12) (zi_238 rfl) rfl zl_19_226 hx5 ?_
      refine zo_iload_n (p' := 13) (zi_238 rfl) rfl rfl ?_
      obtain ⟨q6, h0, g26⟩ := zb_of g25
      subst h0
      obtain ⟨x7, hx8, g27⟩ := zb_of g26
      refine zo_iald (p' := 14) (zi_238 rfl) rfl hx8 ?_
      by_cases hc9 : x7 < 0
      · rw [if_pos hc9] at g27
        refine zo_ifT (p' := 34) (zi_238 rfl) rfl hc9 ?_
        refine zo_ldc2 (p' := 37) (v := (-9223372036854775808)) (zi_238 rfl) rfl rfl ?_
        refine zo_goto (p' := 51) (zi_238 rfl) rfl ?_
        have g28 := Option.some.inj g27
        subst g28
        exact zo_lret (zi_238 rfl) rfl
      · rw [if_neg hc9] at g27
        refine zo_ifF (p' := 17) (zi_238 rfl) rfl rfl hc9 ?_
        refine zo_aload_n (p' := 18) (zi_238 rfl) rfl rfl ?_
        refine zo_iload_n (p' := 19) (zi_238 rfl) rfl rfl ?_
        refine zo_iconst (p' := 20) (v := 0) (zi_238 rfl) rfl rfl ?_
        refine zo_aload_n (p' := 21) (zi_238 rfl) rfl rfl ?_
        obtain ⟨r10, hx11, g29⟩ := zb_of g27
        refine zo_getR (p' := 24) (zi_238 rfl) rfl zl_19_229 hx11 ?_
        refine zo_iload_n (p' := 25) (zi_238 rfl) rfl rfl ?_
        obtain ⟨q12, h0, g30⟩ := zb_of g29
        subst h0
        obtain ⟨x13, hx14, g31⟩ := zb_of g30
        refine zo_iald (p' := 26) (zi_238 rfl) rfl hx14 ?_
        refine zo_iconst (p' := 27) (v := 1) (zi_238 rfl) rfl rfl ?_
        refine zo_isub (p' := 28) (zi_238 rfl) rfl ?_
        obtain ⟨x15, hx16, g32⟩ := zb_of g31
        refine zo_callVi (p' := 31) (t := 12) (as := [.int a1, .int 0, .int ((x13 - 1))]) (r := []) (zi_238 rfl) rfl zl_19_239 rfl rfl (Or.inl ⟨by decide, rfl⟩) (Nat.le_of_ble_eq_true rfl) (Nat.le_of_ble_eq_true rfl) (f_147_ok hx16) (k_147 _ hx16) ?_
        by_cases hc17 : ¬ x15 = 0
        · rw [if_pos hc17] at g32
          refine zo_ifT (p' := 40) (zi_238 rfl) rfl hc17 ?_
          refine zo_aload_n (p' := 41) (zi_238 rfl) rfl rfl ?_
          obtain ⟨r18, hx19, g33⟩ := zb_of g32
          refine zo_getR (p' := 44) (zi_238 rfl) rfl zl_19_232 hx19 ?_
          refine zo_bipush (p' := 46) (v := 60) (zi_238 rfl) rfl rfl ?_
          refine zo_iload_n (p' := 47) (zi_238 rfl) rfl rfl ?_
          refine zo_imul (p' := 48) (zi_238 rfl) rfl ?_
          refine zo_iload_n (p' := 49) (zi_238 rfl) rfl rfl ?_
          refine zo_iadd (p' := 50) (zi_238 rfl) rfl ?_
          obtain ⟨q20, h0, g34⟩ := zb_of g33
          subst h0
          obtain ⟨x21, hx22, g35⟩ := zb_of g34
          refine zo_lald (p' := 51) (zi_238 rfl) rfl hx22 ?_
          have g36 := Option.some.inj g35
          subst g36
          exact zo_lret (zi_238 rfl) rfl
        · rw [if_neg hc17] at g32
          refine zo_ifF (p' := 34) (zi_238 rfl) rfl rfl hc17 ?_
          refine zo_ldc2 (p' := 37) (v := (-9223372036854775808)) (zi_238 rfl) rfl rfl ?_
          refine zo_goto (p' := 51) (zi_238 rfl) rfl ?_
          have g37 := Option.some.inj g32
          subst g37
          exact zo_lret (zi_238 rfl) rfl
  · rw [if_neg hok] at h; cases h
