/-- SlateHalvesModel.shift(IIIII)I -/
def f_239_141 : Nat → ZMem → Nat → Int32 → Int32 → Int32 → Int32 → Option (Int32 × ZMem)
  | 0, _, _, _, _, _, _ => none
  | z + 1, M, o, b1, b2, b3, b4 => if b3 ≤ b4 then (some (b3, M)) else (zb (zgr M 12 73 o) fun r93 => zb (zgr M 12 74 o) fun r95 => zb r95 fun q97 => zb (zlaL M q97 b4) fun x98 => zb r93 fun q100 => zb (zsaL M q100 (((60 * b1) + b2) + b4) x98) fun M101 => f_239_141 z M101 o b1 b2 b3 ((b4 + 1)))
def f_239_104 : Nat → ZMem → Nat → Int32 → Int32 → Int32 → Int32 → Int32 → Int32 → Option (Int32 × ZMem)
  | 0, _, _, _, _, _, _, _, _ => none
  | z + 1, M, o, b1, b2, b3, b4, b5, b6 => if b5 ≤ b6 then (f_239_141 zF M o b3 b4 b5 0) else (zb (zgr M 12 74 o) fun r76 => zb (zgr M 12 73 o) fun r78 => zb r78 fun q80 => zb (zlaL M q80 (((60 * b1) + b2) + b6)) fun x81 => zb r76 fun q83 => zb (zsaL M q83 b6 x81) fun M84 => f_239_104 z M84 o b1 b2 b3 b4 b5 ((b6 + 1)))
set_option maxRecDepth 20000 in
theorem k_239_141 (d : Nat) : ∀ (z : Nat) (M : ZMem) (o : Nat) (b1 : Int32) (b2 : Int32) (b3 : Int32) (b4 : Int32) (out : Int32 × ZMem), f_239_141 z M o b1 b2 b3 b4 = some out → zgo none (d + 2) 239 141 [(0, zrf (some o)), (3, .int b1), (4, .int b2), (5, .int b3), (6, .int b4)] [] M (some (.int out.1), out.2) := by
  intro z
  induction z with
  | zero => intro M o b1 b2 b3 b4 out h; cases h
  | succ z ih =>
    intro M o b1 b2 b3 b4 out h
    rw [f_239_141] at h
    refine zo_iload (p' := 143) (zi_239 rfl) rfl rfl ?_
    refine zo_iload (p' := 145) (zi_239 rfl) rfl rfl ?_
    by_cases hc92 : b3 ≤ b4
    · rw [if_pos hc92] at h
      refine zo_icT (p' := 176) (zi_239 rfl) rfl hc92 ?_
      refine zo_iload (p' := 178) (zi_239 rfl) rfl rfl ?_
      have g103 := Option.some.inj h
      subst g103
      exact zo_iret (zi_239 rfl) rfl ⟨rfl, rfl⟩
    · rw [if_neg hc92] at h
      refine zo_icF (p' := 148) (zi_239 rfl) rfl rfl hc92 ?_
      refine zo_aload_n (p' := 149) (zi_239 rfl) rfl rfl ?_
      obtain ⟨r93, hx94, g104⟩ := zb_of h
      refine zo_getR (p' := 152) (zi_239 rfl) rfl zl_19_232 hx94 ?_
      refine zo_bipush (p' := 154) (v := 60) (zi_239 rfl) rfl rfl ?_
      refine zo_iload_n (p' := 155) (zi_239 rfl) rfl rfl ?_
      refine zo_imul (p' := 156) (zi_239 rfl) rfl ?_
      refine zo_iload (p' := 158) (zi_239 rfl) rfl rfl ?_
      refine zo_iadd (p' := 159) (zi_239 rfl) rfl ?_
      refine zo_iload (p' := 161) (zi_239 rfl) rfl rfl ?_
      refine zo_iadd (p' := 162) (zi_239 rfl) rfl ?_
      refine zo_aload_n (p' := 163) (zi_239 rfl) rfl rfl ?_
      obtain ⟨r95, hx96, g105⟩ := zb_of g104
      refine zo_getR (p' := 166) (zi_239 rfl) rfl zl_19_236 hx96 ?_
      refine zo_iload (p' := 168) (zi_239 rfl) rfl rfl ?_
      obtain ⟨q97, h0, g106⟩ := zb_of g105
      subst h0
      obtain ⟨x98, hx99, g107⟩ := zb_of g106
      refine zo_lald (p' := 169) (zi_239 rfl) rfl hx99 ?_
      obtain ⟨q100, h0, g108⟩ := zb_of g107
      subst h0
      obtain ⟨M101, hx102, g109⟩ := zb_of g108
      refine zo_last (p' := 170) (zi_239 rfl) rfl hx102 ?_
      refine zo_iinc (p' := 173) (v := (b4 + 1)) (L' := [(0, zrf (some o)), (3, .int b1), (4, .int b2), (5, .int b3), (6, .int ((b4 + 1)))]) (zi_239 rfl) rfl zm_239_6 rfl rfl ⟨Or.inr ⟨by decide, rfl, fun q => absurd q (by decide)⟩, ⟨Or.inr ⟨by decide, rfl, fun q => absurd q (by decide)⟩, ⟨Or.inr ⟨by decide, rfl, fun q => absurd q (by decide)⟩, ⟨Or.inr ⟨by decide, rfl, fun _ => rfl⟩, ⟨Or.inl ⟨rfl, rfl⟩, trivial⟩⟩⟩⟩⟩ ?_
      refine zo_goto (p' := 141) (zi_239 rfl) rfl ?_
      refine zgo_sub (L' := [(0, zrf (some o)), (3, .int b1), (4, .int b2), (5, .int b3), (6, .int (((b4 + 1))))]) (⟨rfl, rfl, rfl, rfl, rfl, trivial⟩) ?_
      exact ih M101 o b1 b2 b3 ((b4 + 1)) _ g109
set_option maxRecDepth 20000 in
theorem k_239_104 (d : Nat) : ∀ (z : Nat) (M : ZMem) (o : Nat) (b1 : Int32) (b2 : Int32) (b3 : Int32) (b4 : Int32) (b5 : Int32) (b6 : Int32) (out : Int32 × ZMem), f_239_104 z M o b1 b2 b3 b4 b5 b6 = some out → zgo none (d + 2) 239 104 [(0, zrf (some o)), (1, .int b1), (2, .int b2), (3, .int b3), (4, .int b4), (5, .int b5), (6, .int b6)] [] M (some (.int out.1), out.2) := by
  intro z
  induction z with
  | zero => intro M o b1 b2 b3 b4 b5 b6 out h; cases h
  | succ z ih =>
    intro M o b1 b2 b3 b4 b5 b6 out h
    rw [f_239_104] at h
    refine zo_iload (p' := 106) (zi_239 rfl) rfl rfl ?_
    refine zo_iload (p' := 108) (zi_239 rfl) rfl rfl ?_
    by_cases hc75 : b5 ≤ b6
    · rw [if_pos hc75] at h
      refine zo_icT (p' := 138) (zi_239 rfl) rfl hc75 ?_
      refine zo_iconst (p' := 139) (v := 0) (zi_239 rfl) rfl rfl ?_
      refine zo_istore (p' := 141) (L' := [(0, zrf (some o)), (1, .int b1), (2, .int b2), (3, .int b3), (4, .int b4), (5, .int b5), (6, .int 0)]) (zi_239 rfl) rfl zm_239_6 ⟨Or.inr ⟨by decide, rfl, fun q => absurd q (by decide)⟩, ⟨Or.inr ⟨by decide, rfl, fun q => absurd q (by decide)⟩, ⟨Or.inr ⟨by decide, rfl, fun q => absurd q (by decide)⟩, ⟨Or.inr ⟨by decide, rfl, fun q => absurd q (by decide)⟩, ⟨Or.inr ⟨by decide, rfl, fun q => absurd q (by decide)⟩, ⟨Or.inr ⟨by decide, rfl, fun _ => rfl⟩, ⟨Or.inl ⟨rfl, rfl⟩, trivial⟩⟩⟩⟩⟩⟩⟩ ?_
      refine zgo_sub (L' := [(0, zrf (some o)), (3, .int b3), (4, .int b4), (5, .int b5), (6, .int 0)]) (⟨rfl, rfl, rfl, rfl, rfl, trivial⟩) ?_
      exact k_239_141 _ zF M o b3 b4 b5 0 _ h
    · rw [if_neg hc75] at h
      refine zo_icF (p' := 111) (zi_239 rfl) rfl rfl hc75 ?_
      refine zo_aload_n (p' := 112) (zi_239 rfl) rfl rfl ?_
      obtain ⟨r76, hx77, g86⟩ := zb_of h
      refine zo_getR (p' := 115) (zi_239 rfl) rfl zl_19_236 hx77 ?_
      refine zo_iload (p' := 117) (zi_239 rfl) rfl rfl ?_
      refine zo_aload_n (p' := 118) (zi_239 rfl) rfl rfl ?_
      obtain ⟨r78, hx79, g87⟩ := zb_of g86
      refine zo_getR (p' := 121) (zi_239 rfl) rfl zl_19_232 hx79 ?_
      refine zo_bipush (p' := 123) (v := 60) (zi_239 rfl) rfl rfl ?_
      refine zo_iload_n (p' := 124) (zi_239 rfl) rfl rfl ?_
      refine zo_imul (p' := 125) (zi_239 rfl) rfl ?_
      refine zo_iload_n (p' := 126) (zi_239 rfl) rfl rfl ?_
      refine zo_iadd (p' := 127) (zi_239 rfl) rfl ?_
      refine zo_iload (p' := 129) (zi_239 rfl) rfl rfl ?_
      refine zo_iadd (p' := 130) (zi_239 rfl) rfl ?_
      obtain ⟨q80, h0, g88⟩ := zb_of g87
      subst h0
      obtain ⟨x81, hx82, g89⟩ := zb_of g88
      refine zo_lald (p' := 131) (zi_239 rfl) rfl hx82 ?_
      obtain ⟨q83, h0, g90⟩ := zb_of g89
      subst h0
      obtain ⟨M84, hx85, g91⟩ := zb_of g90
      refine zo_last (p' := 132) (zi_239 rfl) rfl hx85 ?_
      refine zo_iinc (p' := 135) (v := (b6 + 1)) (L' := [(0, zrf (some o)), (1, .int b1), (2, .int b2), (3, .int b3), (4, .int b4), (5, .int b5), (6, .int ((b6 + 1)))]) (zi_239 rfl) rfl zm_239_6 rfl rfl ⟨Or.inr ⟨by decide, rfl, fun q => absurd q (by decide)⟩, ⟨Or.inr ⟨by decide, rfl, fun q => absurd q (by decide)⟩, ⟨Or.inr ⟨by decide, rfl, fun q => absurd q (by decide)⟩, ⟨Or.inr ⟨by decide, rfl, fun q => absurd q (by decide)⟩, ⟨Or.inr ⟨by decide, rfl, fun q => absurd q (by decide)⟩, ⟨Or.inr ⟨by decide, rfl, fun _ => rfl⟩, ⟨Or.inl ⟨rfl, rfl⟩, trivial⟩⟩⟩⟩⟩⟩⟩ ?_
      refine zo_goto (p' := 104) (zi_239 rfl) rfl ?_
      refine zgo_sub (L' := [(0, zrf (some o)), (1, .int b1), (2, .int b2), (3, .int b3), (4, .int b4), (5, .int b5), (6, .int (((b6 + 1))))]) (⟨rfl, rfl, rfl, rfl, rfl, rfl, rfl, trivial⟩) ?_
      exact ih M84 o b1 b2 b3 b4 b5 ((b6 + 1)) _ g91
def f_239 (M : ZMem) (o : Nat) (a0 : Int32) (a1 : Int32) (a2 : Int32) (a3 : Int32) (a4 : Int32) : Option (Int32 × ZMem) := if zok M 12 o = true then (zb (f_220 M o a0) fun x1 => if x1 = 0 then (some ((-1), M)) else (zb (f_220 M o a2) fun x4 => if ¬ x4 = 0 then (zb (zgr M 12 71 o) fun r7 => zb r7 fun q9 => zb (zai M q9 a0) fun x10 => if x10 < 0 then (some ((-11), M)) else (zb (zgr M 12 71 o) fun r13 => zb r13 fun q15 => zb (zai M q15 a2) fun x16 => if 0 ≤ x16 then (zb (zgr M 12 71 o) fun r19 => zb r19 fun q21 => zb (zai M q21 a0) fun x22 => zb (zgr M 12 71 o) fun r24 => zb r24 fun q26 => zb (zai M q26 a2) fun x27 => if x22 = x27 then (if a4 < 0 then (some ((-13), M)) else (if a1 < 0 then (some ((-13), M)) else (if a3 < 0 then (some ((-13), M)) else (zb (zgr M 12 72 o) fun r33 => zb r33 fun q35 => zb (zai M q35 a0) fun x36 => if (x36 - a4) < a1 then (some ((-13), M)) else (zb (zgr M 12 72 o) fun r39 => zb r39 fun q41 => zb (zai M q41 a2) fun x42 => if a3 ≤ (x42 - a4) then (f_239_104 zF M o a0 a1 a2 a3 a4 0) else (some ((-13), M))))))) else (some ((-12), M))) else (some ((-11), M)))) else (some ((-1), M)))) else none
theorem f_239_ok {M : ZMem} {o : Nat} {a0 : Int32} {a1 : Int32} {a2 : Int32} {a3 : Int32} {a4 : Int32} {out : Int32 × ZMem} (h : f_239 M o a0 a1 a2 a3 a4 = some out) : zok M 12 o = true := by
  unfold f_239 at h
  by_cases hok : zok M 12 o = true
  · exact hok
  · rw [if_neg hok] at h; cases h
set_option maxRecDepth 20000 in
theorem k_239 (d : Nat) {M : ZMem} {o : Nat} {a0 : Int32} {a1 : Int32} {a2 : Int32} {a3 : Int32} {a4 : Int32} {out : Int32 × ZMem} (h : f_239 M o a0 a1 a2 a3 a4 = some out) : zrn (d + 2) 239 [zrf (some o), .int a0, .int a1, .int a2, .int a3, .int a4] M (some (.int out.1), out.2) := by
  unfold f_239 at h
  by_cases hok : zok M 12 o = true
  · rw [if_pos hok] at h
    refine zrn_of (L := [(0, zrf (some o)), (1, .int a0), (2, .int a1), (3, .int a2), (4, .int a3), (5, .int a4)]) rfl ?_
    refine zo_aload_n (p' := 1) (zi_239 rfl) rfl rfl ?_
    refine zo_iload_n (p' := 2) (zi_239 rfl) rfl rfl ?_
    obtain ⟨x1, hx2, g45⟩ := zb_of h
    refine zo_callVi (p' := 5) (t := 12) (as := [.int a0]) (r := []) (zi_239 rfl) rfl zl_19_403 rfl rfl (Or.inl ⟨by decide, rfl⟩) (Nat.le_of_ble_eq_true rfl) (Nat.le_of_ble_eq_true rfl) (f_220_ok hx2) (k_220 _ hx2) ?_
    by_cases hc3 : x1 = 0
    · rw [if_pos hc3] at g45
      refine zo_ifT (p' := 16) (zi_239 rfl) rfl hc3 ?_
      refine zo_iconst (p' := 17) (v := (-1)) (zi_239 rfl) rfl rfl ?_
      have g46 := Option.some.inj g45
      subst g46
      exact zo_iret (zi_239 rfl) rfl ⟨rfl, rfl⟩
    · rw [if_neg hc3] at g45
      refine zo_ifF (p' := 8) (zi_239 rfl) rfl rfl hc3 ?_
      refine zo_aload_n (p' := 9) (zi_239 rfl) rfl rfl ?_
      refine zo_iload_n (p' := 10) (zi_239 rfl) rfl rfl ?_
      obtain ⟨x4, hx5, g47⟩ := zb_of g45
      refine zo_callVi (p' := 13) (t := 12) (as := [.int a2]) (r := []) (zi_239 rfl) rfl zl_19_403 rfl rfl (Or.inl ⟨by decide, rfl⟩) (Nat.le_of_ble_eq_true rfl) (Nat.le_of_ble_eq_true rfl) (f_220_ok hx5) (k_220 _ hx5) ?_
      by_cases hc6 : ¬ x4 = 0
      · rw [if_pos hc6] at g47
        refine zo_ifT (p' := 18) (zi_239 rfl) rfl hc6 ?_
        refine zo_aload_n (p' := 19) (zi_239 rfl) rfl rfl ?_
        obtain ⟨r7, hx8, g48⟩ := zb_of g47
        refine zo_getR (p' := 22) (zi_239 rfl) rfl zl_19_226 hx8 ?_
        refine zo_iload_n (p' := 23) (zi_239 rfl) rfl rfl ?_
        obtain ⟨q9, h0, g49⟩ := zb_of g48
        subst h0
        obtain ⟨x10, hx11, g50⟩ := zb_of g49
        refine zo_iald (p' := 24) (zi_239 rfl) rfl hx11 ?_
        by_cases hc12 : x10 < 0
        · rw [if_pos hc12] at g50
          refine zo_ifT (p' := 36) (zi_239 rfl) rfl hc12 ?_
          refine zo_bipush (p' := 38) (v := (-11)) (zi_239 rfl) rfl rfl ?_
          have g51 := Option.some.inj g50
          subst g51
          exact zo_iret (zi_239 rfl) rfl ⟨rfl, rfl⟩
        · rw [if_neg hc12] at g50
          refine zo_ifF (p' := 27) (zi_239 rfl) rfl rfl hc12 ?_
          refine zo_aload_n (p' := 28) (zi_239 rfl) rfl rfl ?_
          obtain ⟨r13, hx14, g52⟩ := zb_of g50
          refine zo_getR (p' := 31) (zi_239 rfl) rfl zl_19_226 hx14 ?_
          refine zo_iload_n (p' := 32) (zi_239 rfl) rfl rfl ?_
          obtain ⟨q15, h0, g53⟩ := zb_of g52
          subst h0
          obtain ⟨x16, hx17, g54⟩ := zb_of g53
          refine zo_iald (p' := 33) (zi_239 rfl) rfl hx17 ?_
          by_cases hc18 : 0 ≤ x16
          · rw [if_pos hc18] at g54
            refine zo_ifT (p' := 39) (zi_239 rfl) rfl hc18 ?_
            refine zo_aload_n (p' := 40) (zi_239 rfl) rfl rfl ?_
            obtain ⟨r19, hx20, g55⟩ := zb_of g54
            refine zo_getR (p' := 43) (zi_239 rfl) rfl zl_19_226 hx20 ?_
            refine zo_iload_n (p' := 44) (zi_239 rfl) rfl rfl ?_
            obtain ⟨q21, h0, g56⟩ := zb_of g55
            subst h0
            obtain ⟨x22, hx23, g57⟩ := zb_of g56
            refine zo_iald (p' := 45) (zi_239 rfl) rfl hx23 ?_
            refine zo_aload_n (p' := 46) (zi_239 rfl) rfl rfl ?_
            obtain ⟨r24, hx25, g58⟩ := zb_of g57
            refine zo_getR (p' := 49) (zi_239 rfl) rfl zl_19_226 hx25 ?_
            refine zo_iload_n (p' := 50) (zi_239 rfl) rfl rfl ?_
            obtain ⟨q26, h0, g59⟩ := zb_of g58
            subst h0
            obtain ⟨x27, hx28, g60⟩ := zb_of g59
            refine zo_iald (p' := 51) (zi_239 rfl) rfl hx28 ?_
            by_cases hc29 : x22 = x27
            · rw [if_pos hc29] at g60
              refine zo_icT (p' := 57) (zi_239 rfl) rfl hc29 ?_
              refine zo_iload (p' := 59) (zi_239 rfl) rfl rfl ?_
              by_cases hc30 : a4 < 0
              · rw [if_pos hc30] at g60
                refine zo_ifT (p' := 98) (zi_239 rfl) rfl hc30 ?_
                refine zo_bipush (p' := 100) (v := (-13)) (zi_239 rfl) rfl rfl ?_
                have g61 := Option.some.inj g60
                subst g61
                exact zo_iret (zi_239 rfl) rfl ⟨rfl, rfl⟩
              · rw [if_neg hc30] at g60
                refine zo_ifF (p' := 62) (zi_239 rfl) rfl rfl hc30 ?_
                refine zo_iload_n (p' := 63) (zi_239 rfl) rfl rfl ?_
                by_cases hc31 : a1 < 0
                · rw [if_pos hc31] at g60
                  refine zo_ifT (p' := 98) (zi_239 rfl) rfl hc31 ?_
                  refine zo_bipush (p' := 100) (v := (-13)) (zi_239 rfl) rfl rfl ?_
                  have g62 := Option.some.inj g60
                  subst g62
                  exact zo_iret (zi_239 rfl) rfl ⟨rfl, rfl⟩
                · rw [if_neg hc31] at g60
                  refine zo_ifF (p' := 66) (zi_239 rfl) rfl rfl hc31 ?_
                  refine zo_iload (p' := 68) (zi_239 rfl) rfl rfl ?_
                  by_cases hc32 : a3 < 0
                  · rw [if_pos hc32] at g60
                    refine zo_ifT (p' := 98) (zi_239 rfl) rfl hc32 ?_
                    refine zo_bipush (p' := 100) (v := (-13)) (zi_239 rfl) rfl rfl ?_
                    have g63 := Option.some.inj g60
                    subst g63
                    exact zo_iret (zi_239 rfl) rfl ⟨rfl, rfl⟩
                  · rw [if_neg hc32] at g60
                    refine zo_ifF (p' := 71) (zi_239 rfl) rfl rfl hc32 ?_
                    refine zo_iload_n (p' := 72) (zi_239 rfl) rfl rfl ?_
                    refine zo_aload_n (p' := 73) (zi_239 rfl) rfl rfl ?_
                    obtain ⟨r33, hx34, g64⟩ := zb_of g60
                    refine zo_getR (p' := 76) (zi_239 rfl) rfl zl_19_229 hx34 ?_
                    refine zo_iload_n (p' := 77) (zi_239 rfl) rfl rfl ?_
                    obtain ⟨q35, h0, g65⟩ := zb_of g64
                    subst h0
                    obtain ⟨x36, hx37, g66⟩ := zb_of g65
                    refine zo_iald (p' := 78) (zi_239 rfl) rfl hx37 ?_
                    refine zo_iload (p' := 80) (zi_239 rfl) rfl rfl ?_
                    refine zo_isub (p' := 81) (zi_239 rfl) rfl ?_
                    by_cases hc38 : (x36 - a4) < a1
                    · rw [if_pos hc38] at g66
                      refine zo_icT (p' := 98) (zi_239 rfl) rfl hc38 ?_
                      refine zo_bipush (p' := 100) (v := (-13)) (zi_239 rfl) rfl rfl ?_
                      have g67 := Option.some.inj g66
                      subst g67
                      exact zo_iret (zi_239 rfl) rfl ⟨rfl, rfl⟩
                    · rw [if_neg hc38] at g66
                      refine zo_icF (p' := 84) (zi_239 rfl) rfl rfl hc38 ?_
                      refine zo_iload (p' := 86) (zi_239 rfl) rfl rfl ?_
                      refine zo_aload_n (p' := 87) (zi_239 rfl) rfl rfl ?_
                      obtain ⟨r39, hx40, g68⟩ := zb_of g66
                      refine zo_getR (p' := 90) (zi_239 rfl) rfl zl_19_229 hx40 ?_
                      refine zo_iload_n (p' := 91) (zi_239 rfl) rfl rfl ?_
                      obtain ⟨q41, h0, g69⟩ := zb_of g68
                      subst h0
                      obtain ⟨x42, hx43, g70⟩ := zb_of g69
                      refine zo_iald (p' := 92) (zi_239 rfl) rfl hx43 ?_
                      refine zo_iload (p' := 94) (zi_239 rfl) rfl rfl ?_
                      refine zo_isub (p' := 95) (zi_239 rfl) rfl ?_
                      by_cases hc44 : a3 ≤ (x42 - a4)
                      · rw [if_pos hc44] at g70
                        refine zo_icT (p' := 101) (zi_239 rfl) rfl hc44 ?_
                        refine zo_iconst (p' := 102) (v := 0) (zi_239 rfl) rfl rfl ?_
                        refine zo_istore (p' := 104) (L' := [(0, zrf (some o)), (1, .int a0), (2, .int a1), (3, .int a2), (4, .int a3), (5, .int a4), (6, .int 0)]) (zi_239 rfl) rfl zm_239_6 ⟨Or.inr ⟨by decide, rfl, fun q => absurd q (by decide)⟩, ⟨Or.inr ⟨by decide, rfl, fun q => absurd q (by decide)⟩, ⟨Or.inr ⟨by decide, rfl, fun q => absurd q (by decide)⟩, ⟨Or.inr ⟨by decide, rfl, fun q => absurd q (by decide)⟩, ⟨Or.inr ⟨by decide, rfl, fun q => absurd q (by decide)⟩, ⟨Or.inr ⟨by decide, rfl, fun _ => rfl⟩, ⟨Or.inl ⟨rfl, rfl⟩, trivial⟩⟩⟩⟩⟩⟩⟩ ?_
                        refine zgo_sub (L' := [(0, zrf (some o)), (1, .int a0), (2, .int a1), (3, .int a2), (4, .int a3), (5, .int a4), (6, .int 0)]) (⟨rfl, rfl, rfl, rfl, rfl, rfl, rfl, trivial⟩) ?_
                        exact k_239_104 _ zF M o a0 a1 a2 a3 a4 0 _ g70
                      · rw [if_neg hc44] at g70
                        refine zo_icF (p' := 98) (zi_239 rfl) rfl rfl hc44 ?_
                        refine zo_bipush (p' := 100) (v := (-13)) (zi_239 rfl) rfl rfl ?_
                        have g71 := Option.some.inj g70
                        subst g71
                        exact zo_iret (zi_239 rfl) rfl ⟨rfl, rfl⟩
            · rw [if_neg hc29] at g60
              refine zo_icF (p' := 54) (zi_239 rfl) rfl rfl hc29 ?_
              refine zo_bipush (p' := 56) (v := (-12)) (zi_239 rfl) rfl rfl ?_
              have g72 := Option.some.inj g60
              subst g72
              exact zo_iret (zi_239 rfl) rfl ⟨rfl, rfl⟩
          · rw [if_neg hc18] at g54
            refine zo_ifF (p' := 36) (zi_239 rfl) rfl rfl hc18 ?_
            refine zo_bipush (p' := 38) (v := (-11)) (zi_239 rfl) rfl rfl ?_
            have g73 := Option.some.inj g54
            subst g73
            exact zo_iret (zi_239 rfl) rfl ⟨rfl, rfl⟩
      · rw [if_neg hc6] at g47
        refine zo_ifF (p' := 16) (zi_239 rfl) rfl rfl hc6 ?_
        refine zo_iconst (p' := 17) (v := (-1)) (zi_239 rfl) rfl rfl ?_
        have g74 := Option.some.inj g47
        subst g74
        exact zo_iret (zi_239 rfl) rfl ⟨rfl, rfl⟩
  · rw [if_neg hok] at h; cases h
