/-! STRIKE, the reference's -/
theorem rN {M0 M : ZMem} {s : ZSt} (h : MS M0 M s) {j P n : Nat} (hj : zfk 12 j 2 = true) (hz : zRm 133 j = some P) (hP : zrw P n = true) (hs : ∀ i, zst P i = true) (hn : n ≤ 1000) {b : Nat} (hb : b < n) : zgr M 12 j 133 = some (some P) ∧ zai M P (ii (b : Int)) = some (ii (s P b)) := by
  have x := rA h (P := P) (n := n) (b := (b : Int)) hP hs (by omega) hn
  rw [Int.toNat_natCast] at x
  exact ⟨rP h hj hz, x⟩
theorem wNn {M0 M : ZMem} {s : ZSt} (h : MS M0 M s) {P n : Nat} {b : Nat} {x : Int} (hP : zrw P n = true) (hb : b < n) (hn : n ≤ 1000) : MV M0 (zsa M 20 P (ii (b : Int)) (ii x)) (up s P b x) := by
  have := wA h (P := P) (n := n) (b := (b : Int)) (x := x) hP (by omega) hn
  rw [Int.toNat_natCast] at this
  exact this
theorem m190r {M0 M : ZMem} {s s' : ZSt} {v : Int32} (h : MS M0 M s) {k n r : Nat} (hr : r < 4) (hk : k < n) (hn : n < 6) (e : s 133 0 = (n : Int)) {z : Nat} (next : ∀ M1, MS M0 M1 (up s 139 (4 * n + r) (s 139 (4 * k + r))) → MG M0 (f_190_183 z M1 133 (ii k) (ii ((r + 1 : Nat) : Int))) v s') : MG M0 (f_190_183 (z + 1) M 133 (ii k) (ii (r : Int))) v s' := by
  have x1 := rN h (j := 8) (P := 139) (n := 24) (by decide) (by decide +kernel) (by decide) (fun _ => rfl) (by omega) (b := 4 * k + r) (by omega)
  have x0 := rFx h (j := 0) (by decide) rfl e
  have e1 : (4 : Int32) * ii (k : Int) + ii (r : Int) = ii ((4 * k + r : Nat) : Int) := by rw [show (4 : Int32) = ii 4 from rfl, ii_mul, ii_add]; rfl
  have e2 : (4 : Int32) * ii (n : Int) + ii (r : Int) = ii ((4 * n + r : Nat) : Int) := by rw [show (4 : Int32) = ii 4 from rfl, ii_mul, ii_add]; rfl
  have er : ii (r : Int) + 1 = ii ((r + 1 : Nat) : Int) := by rw [show (1 : Int32) = ii 1 from rfl, ii_add]; rfl
  rw [f_190_183, if_neg (show ¬ (4 : Int32) ≤ ii (r : Int) by rw [show (4 : Int32) = ii 4 from rfl, ii_le (by omega) (by omega)]; omega)]
  simp only [x1, x0, zb_some, e1, e2, er]
  exact MG_bv (wNn h (n := 24) (by decide) (by omega) (by omega)) next
theorem m190c {M0 M : ZMem} {s : ZSt} (h : MS M0 M s) {k n : Nat} {x t : Int} (hk : k < n) (hn : n < 6) (e : s 133 0 = (n : Int)) (hx : 1 ≤ x ∧ x ≤ 60) (ht : 1 ≤ t ∧ t ≤ 60) (h5 : 0 ≤ s 138 k ∧ s 138 k ≤ 9999) : MG M0 (f_190_73 M 133 (ii k) (ii x) (ii t) 1) 1 (st50 s k x t) := by
  have k6 : k < 6 := by omega
  have en : (s 133 0).toNat = n := by omega
  have x5 := rN h (j := 7) (P := 138) (n := 6) (by decide) (by decide +kernel) (by decide) (fun _ => rfl) (by omega) k6
  unfold f_190_73 st50
  simp only [en]
  rw [x5.1, zb_some, zb_some, x5.2, zb_some, show (1 : Int32) = ii 1 from rfl, ii_add]
  refine MG_bv (wNn h (by decide) k6 (by omega)) fun M1 h1 => ?_
  rw [rP h1 (j := 5) (P := 136) (by decide) (by decide +kernel), zb_some, if_neg (show ¬ ii 1 = 0 by decide)]
  unfold f_190_105
  rw [zb_some]
  refine MG_bv (wNn h1 (P := 136) (n := 6) (by decide) k6 (by omega)) fun M2 h2 => ?_
  rw [if_pos (show ¬ ii 1 = 0 by decide)]
  have e2 : up (up s 138 k (s 138 k + 1)) 136 k x 133 0 = (n : Int) := by rw [up_ne (by omega), up_ne (by omega)]; exact e
  have y3 := rN h2 (j := 3) (P := 134) (n := 6) (by decide) (by decide +kernel) (by decide) (fun _ => rfl) (by omega) k6
  have y0 := rFx h2 (j := 0) (by decide) rfl e2
  rw [up_ne (by omega), up_ne (by omega)] at y3
  rw [y3.1, zb_some, y0, zb_some, zb_some, zb_some, y3.2, zb_some, zb_some]
  refine MG_bv (wNn h2 (by decide) hn (by omega)) fun M3 h3 => ?_
  have y4 := rN h3 (j := 4) (P := 135) (n := 6) (by decide) (by decide +kernel) (by decide) (fun _ => rfl) (by omega) k6
  have y0 := rFx h3 (j := 0) (x := (n : Int)) (by decide) rfl (by simp (disch := omega) only [up_ne]; exact e)
  rw [up_ne (by omega), up_ne (by omega), up_ne (by omega)] at y4
  rw [y4.1, zb_some, y0, zb_some, zb_some, zb_some, y4.2, zb_some, zb_some]
  refine MG_bv (wNn h3 (by decide) hn (by omega)) fun M4 h4 => ?_
  have y0 := rFx h4 (j := 0) (x := (n : Int)) (by decide) rfl (by simp (disch := omega) only [up_ne]; exact e)
  rw [rP h4 (j := 5) (P := 136) (by decide) (by decide +kernel), zb_some, y0, zb_some, zb_some, ii_sub]
  refine MG_bv (wNn h4 (by decide) hn (by omega)) fun M5 h5 => ?_
  have y6 := rN h5 (j := 6) (P := 137) (n := 6) (by decide) (by decide +kernel) (by decide) (fun _ => rfl) (by omega) k6
  have y0 := rFx h5 (j := 0) (x := (n : Int)) (by decide) rfl (by simp (disch := omega) only [up_ne]; exact e)
  rw [up_ne (by omega), up_ne (by omega), up_ne (by omega), up_ne (by omega), up_ne (by omega)] at y6
  rw [y6.1, zb_some, y0, zb_some, zb_some, zb_some, y6.2, zb_some, zb_some]
  refine MG_bv (wNn h5 (by decide) hn (by omega)) fun M6 h6 => ?_
  have y0 := rFx h6 (j := 0) (x := (n : Int)) (by decide) rfl (by simp (disch := omega) only [up_ne]; exact e)
  rw [rP h6 (j := 7) (P := 138) (by decide) (by decide +kernel), zb_some, y0, zb_some, zb_some, show (0 : Int32) = ii 0 from rfl]
  refine MG_bv (wNn h6 (by decide) hn (by omega)) fun M7 h7 => ?_
  rw [show zF = 99995 + 1 + 1 + 1 + 1 + 1 from rfl, show ii 0 = ii ((0 : Nat) : Int) from rfl]
  refine m190r (r := 0) h7 (by omega) hk hn (by simp (disch := omega) only [up_ne]; exact e) fun M8 h8 => ?_
  refine m190r (r := 1) h8 (by omega) hk hn (by simp (disch := omega) only [up_ne]; exact e) fun M9 h9 => ?_
  refine m190r (r := 2) h9 (by omega) hk hn (by simp (disch := omega) only [up_ne]; exact e) fun M10 h10 => ?_
  refine m190r (r := 3) h10 (by omega) hk hn (by simp (disch := omega) only [up_ne]; exact e) fun M11 h11 => ?_
  rw [f_190_183, if_pos (by decide)]
  refine MG_eq (rFx h11 (j := 0) (x := (n : Int)) (by decide) rfl (by simp (disch := omega) only [up_ne]; exact e)) ?_
  rw [show (1 : Int32) = ii 1 from rfl, ii_add]
  refine MG_bv (wF h11 (by decide) (by decide) (by decide)) fun M12 h12 => ?_
  simp (disch := omega) only [up_ne, up_nk, Nat.add_zero] at h12
  rw [e]
  exact MG_ret h12
theorem m190 {M0 M : ZMem} {s : ZSt} (h : MS M0 M s) (hi : SIn s) (hh : SH s) (hb' : SIb s) {b x : Int} (hb : -2147483648 ≤ b ∧ b < 2147483648) (hx : -2147483648 ≤ x ∧ x < 2147483648) : MG M0 (f_190 M 133 (ii b) (ii x)) (ii (sp50 s b x).1) (sp50 s b x).2 := by
  have h0 := hi.1
  unfold f_190 sp50
  rw [if_pos (zok_ly h.1 k133), c149 h.1 h.2.2 hi hb, zb_some]
  by_cases c : 0 ≤ b ∧ b < s 133 0
  · obtain ⟨n, rfl⟩ := Int.eq_ofNat_of_zero_le c.1
    have hK := RK_of hi hh hb' c.2
    have ht := hK.t
    have n6 : n < 6 := hK.2.1.1
    have v5 := hK.2.1.2.2.2.2.2.1
    simp only [Nat.add_zero] at v5
    rw [if_pos c, if_pos (show ¬ (1 : Int32) = 0 by decide), if_pos c, Int.toNat_natCast, (x136 hK h).1, zb_some, zb_some, (x136 hK h).2, zb_some, ht.1, show (1 : Int32) = ii 1 from rfl, ii_sub, c147z h.1 hx (by omega) (by omega), zb_some]
    by_cases d : 1 ≤ x ∧ x ≤ s 136 n - 1
    · have x5 := rN h (j := 7) (P := 138) (n := 6) (by decide) (by decide +kernel) (by decide) (fun _ => rfl) (by omega) n6
      have e183 := c183 h.1 h.2.2 n6 hK.2.1.2 hK.2.2 (t := s 136 n) (x := x) (by omega) (by omega)
      rw [bzT d, if_pos (show ¬ (1 : Int32) = 0 by decide), if_pos d, x5.1, zb_some, zb_some, x5.2, zb_some]
      by_cases e : s 138 n < 9999
      · rw [if_pos (show ¬ ii (s 138 n) = 9999 by rw [show (9999 : Int32) = ii 9999 from rfl, ii_eq (by omega) (by omega)]; omega), if_pos e, e183, zb_some]
        by_cases g : cle s n (s 136 n) x
        · rw [bzT g, if_neg (show ¬ (1 : Int32) = 0 by decide), if_pos g, rF h (j := 0) (by decide) rfl, zb_some]
          by_cases f : s 133 0 < 6
          · rw [if_pos (show ¬ ii (s 133 0) = 6 by rw [show (6 : Int32) = ii 6 from rfl, ii_eq (by omega) (by omega)]; omega), if_pos f]
            exact m190c h (n := (s 133 0).toNat) (by omega) (by omega) (by omega) (by omega) (by omega) v5
          · rw [if_neg (show ¬ ¬ ii (s 133 0) = 6 by rw [show s 133 0 = 6 by omega]; decide), if_neg f]
            exact MG_ret h
        · rw [bzF g, if_pos (show (0 : Int32) = 0 from rfl), if_neg g]
          unfold f_190_73
          rw [x5.1, zb_some, zb_some, x5.2, zb_some, show (1 : Int32) = ii 1 from rfl, ii_add]
          refine MG_bv (wNn h (by decide) n6 (by omega)) fun M1 h1 => ?_
          rw [rP h1 (j := 5) (P := 136) (by decide) (by decide +kernel), zb_some, if_pos (show (0 : Int32) = 0 from rfl), ii_sub, c179z h1.1 (by omega) (by omega), zb_some]
          unfold f_190_105
          rw [zb_some]
          refine MG_bv (wNn h1 (P := 136) (n := 6) (by decide) n6 (by omega)) fun M2 h2 => ?_
          rw [if_neg (show ¬ ¬ (0 : Int32) = 0 by decide)]
          exact MG_ret h2
      · rw [if_neg (show ¬ ¬ ii (s 138 n) = 9999 by rw [show s 138 n = 9999 by omega]; decide), if_neg e]
        exact MG_ret h
    · rw [bzF d, if_neg (show ¬ ¬ (0 : Int32) = 0 by decide), if_neg d]
      exact MG_ret h
  · rw [if_neg c, if_neg (show ¬ ¬ (0 : Int32) = 0 by decide), if_neg c]
    exact MG_ret h
