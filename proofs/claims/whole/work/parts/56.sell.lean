/-! SELL, STRIKE -/
/-- earned, or the day, of the yard that holds -/
theorem RC_y22 {M : ZMem} {s : ZSt} {l : Nat → Int64} (h : RC M s l) (hi : s 133 0 ≤ 6 ∧ s 133 50 ≤ 6 ∧ s 133 9 ≤ 6) {j q : Nat} {v : Int} (hj : (j = 2 ∧ q = 2) ∨ (j = 3 ∧ q = 1)) : RC (zpI M 22 j (ii v)) (up s 133 q v) l := by
  refine RC_yd h hi (fun p hp _ => ⟨fun i => zI_ne hp, fun i => rfl⟩) (fun b hb => zI_ne (by omega)) (fun a ha => up_fn (by omega)) (fun i hi => up_nk (by omega)) ?_ ?_
  · obtain ⟨h1, h2, h3, h4⟩ := h.1.1
    rcases hj with ⟨rfl, rfl⟩ | ⟨rfl, rfl⟩
    · refine ⟨?_, ?_, ?_, ?_⟩
      · rw [zI_nk (by omega), up_nk (by omega)]; exact h1
      · rw [zI_at, up_at]
      · rw [zI_nk (by omega), up_nk (by omega)]; exact h3
      · rw [zI_nk (by omega), up_nk (by omega)]; exact h4
    · refine ⟨?_, ?_, ?_, ?_⟩
      · rw [zI_nk (by omega), up_nk (by omega)]; exact h1
      · rw [zI_nk (by omega), up_nk (by omega)]; exact h2
      · rw [zI_at, up_at]
      · rw [zI_nk (by omega), up_nk (by omega)]; exact h4
  · exact RCb_sf (RCb_fr h.1.2.1 hi.1 (fun p p1 p2 i => zI_ne (by omega))) (up_nk (by omega)) (up_fn (by omega)) (up_fn (by omega)) (up_fn (by omega)) (up_fn (by omega)) (up_fn (by omega)) (up_fn (by omega))
def st56 (s : ZSt) (k : Nat) : ZSt := up (up s 133 2 (min 999999 (s 133 2 + wrt s k (s 136 k)))) 136 k 0
def sp56 (s : ZSt) (b : Int) : Int × ZSt := if 0 ≤ b ∧ b < s 133 0 then (if s 136 b.toNat = 0 then (-3, s) else (wrt s b.toNat (s 136 b.toNat), st56 s b.toNat)) else (-1, s)
theorem c57 {M : ZMem} (h : Ly M) {y b : Nat} (hy : y ∈ [22, 49, 75]) (hb : b < 6) {t : Int} (ht : 0 ≤ t ∧ t ≤ 60) (e : zI M (y + 2 + 2 * b) 3 = ii t) : f_57 M (y + 2 + 2 * b) = some (bz (t = 0)) := by
  have B0 := cB h hy hb
  unfold f_57
  simp only [B0, if_true, zb_some, e]
  by_cases c : t = 0
  · rw [c, if_neg (show ¬ ¬ ii 0 = 0 by decide)]; rfl
  · rw [if_pos (show ¬ ii t = 0 by rw [show (0 : Int32) = ii 0 from rfl, ii_eq (by omega) (by omega)]; exact c), bzF c]
theorem m56 {M0 M : ZMem} {s : ZSt} {l : Nat → Int64} (h : CS M0 M s l) (hi : SI6 s) (hh : SH s) (hb' : SIb s) {b : Int} (hb : -2147483648 ≤ b ∧ b < 2147483648) : CG M0 (f_56 M 20 (ii b)) (ii (sp56 s b).1) (sp56 s b).2 l := by
  have h0 := hi.1.1
  have h9 := hi.1.2.2.2.1
  have he := hi.1.2.2.1
  have hA := AK_now h.1 h.2.2 hi hh hb'
  unfold f_56 sp56
  rw [if_pos (zok_ly h.1 k20), gnow h.1, zb_some, zb_some, gyd h.1, zb_some, zb_some, c19 h.1 (by decide) h.2.2.1.1.1 h0 hb, zb_some]
  by_cases c : 0 ≤ b ∧ b < s 133 0
  · obtain ⟨n, rfl⟩ := Int.eq_ofNat_of_zero_le c.1
    obtain ⟨hb6, hv, hB, hd⟩ := hA.bb c.2
    have v3 := hv.2.2.1
    simp only [Nat.add_zero] at v3
    have hw := wrt_b hi.1 hh n (s 136 n)
    have e57 := c57 h.1 (show 22 ∈ [22, 49, 75] by decide) hb6 v3 hB.1.2.2.1
    have hS : Sc M (vluM M s n) := (vlu_sv h.1).sc
    have hN := CS_sc h hi hS
    have ee : zI (vluM M s n) 22 2 = ii (s 133 2) := hN.2.2.1.1.2.1
    rw [fnd_some c, zcs_so _ _ _ (by omega), if_pos c, Int.toNat_natCast, e57, zb_some]
    by_cases d : s 136 n = 0
    · rw [bzT d, if_neg (show ¬ (1 : Int32) = 0 by decide), if_pos d]
      exact CG_ret h
    · rw [bzF d, if_pos (show (0 : Int32) = 0 from rfl), if_neg d, zb_some, zb_some, gyd h.1, zb_some, c58 hA c.2, zbd_some]
      simp only [cX hN.1, zb_some, ee]
      rw [ii_add, show (999999 : Int32) = ii 999999 from rfl, c37i (by omega) (by omega), zb_some]
      have hN1 := hN.1.p (p := 22) (k := 2) (v := ii (min 999999 (s 133 2 + wrt s n (s 136 n))))
      have R1 := RC_y22 hN.2.2 ⟨h0.2, hi.2, h9.2⟩ (j := 2) (q := 2) (v := min 999999 (s 133 2 + wrt s n (s 136 n))) (.inl ⟨rfl, rfl⟩)
      have R2 := RC_put R1 ⟨by rw [up_nk (by omega)]; exact h0.2, by rw [up_nk (by omega)]; exact hi.2, by rw [up_nk (by omega)]; exact h9.2⟩ (b := n) (k := 3) (q := 136) (v := 0) hb6 (.inr (.inr (.inl ⟨rfl, rfl⟩)))
      simp only [zb_some, show (0 : Int32) = ii 0 from rfl, cB hN1 (show 22 ∈ [22, 49, 75] by decide) hb6]
      refine ⟨_, rfl, hN1.p, ((hN.2.1.pI (by omega)).pI (by omega)), ?_⟩
      rw [show 22 + 2 + 2 * n = 24 + 2 * n by omega]
      exact R2
  · rw [fnd_none c, zcs_no, if_neg c]
    exact CG_ret h
theorem m192 {M0 M : ZMem} {s : ZSt} (h : MS M0 M s) (hi : SIn s) (hh : SH s) (hb' : SIb s) {b : Int} (hb : -2147483648 ≤ b ∧ b < 2147483648) : MG M0 (f_192 M 133 (ii b)) (ii (sp56 s b).1) (sp56 s b).2 := by
  have h0 := hi.1
  have he := hi.2.2.1
  unfold f_192 sp56
  rw [if_pos (zok_ly h.1 k133), c149 h.1 h.2.2 hi hb, zb_some]
  by_cases c : 0 ≤ b ∧ b < s 133 0
  · obtain ⟨n, rfl⟩ := Int.eq_ofNat_of_zero_le c.1
    have hK := RK_of hi hh hb' c.2
    have ht := hK.t
    have hw := wrt_b hi hh n (s 136 n)
    rw [if_pos c, if_pos (show ¬ (1 : Int32) = 0 by decide), if_pos c, Int.toNat_natCast, (x136 hK h).1, zb_some, zb_some, (x136 hK h).2, zb_some, ht.1]
    by_cases d : s 136 n = 0
    · rw [d, if_neg (show ¬ ¬ ii 0 = 0 by decide), if_pos (show (0 : Int) = 0 from rfl)]
      exact MG_ret h
    · rw [if_pos (show ¬ ii (s 136 n) = 0 by rw [show (0 : Int32) = ii 0 from rfl, ii_eq (by omega) (by omega)]; exact d), if_neg d, zb_some, zb_some, (x136 hK h).2, zb_some, ht.1]
      refine MG_bd (c177 h hi hh hK.2.1.1 hK.2.1.2 hK.2.2 (by omega)) fun M1 h1 => ?_
      have e2 := rF h1 (j := 2) (by decide) rfl
      have fin : ∀ v : Int, v = min 999999 (s 133 2 + wrt s n (s 136 n)) → MG M0 (f_192_59 M1 133 (ii n) (ii (wrt s n (s 136 n))) (ii v) (some 133)) (ii (wrt s n (s 136 n))) (st56 s n) := by
        intro v hv
        unfold f_192_59 st56
        rw [zb_some, ← hv]
        refine MG_bv (wF h1 (by decide) (by decide) (by decide)) fun M2 h2 => ?_
        refine MG_eq (rP h2 (by decide) (P := 136) (by decide +kernel)) (MG_eq rfl ?_)
        refine MG_bv (wA h2 (P := 136) (n := 6) (b := (n : Int)) (x := 0) (by decide) (by omega) (by omega)) fun M3 h3 => ?_
        rw [Int.toNat_natCast] at h3
        exact MG_ret h3
      rw [e2, zb_some, ii_add]
      by_cases g : s 133 2 + wrt s n (s 136 n) ≤ 999999
      · rw [if_pos (show ii (s 133 2 + wrt s n (s 136 n)) ≤ 999999 by rw [show (999999 : Int32) = ii 999999 from rfl, ii_le (by omega) (by omega)]; exact g), zb_some, ii_add]
        exact fin _ (by omega)
      · rw [if_neg (show ¬ ii (s 133 2 + wrt s n (s 136 n)) ≤ 999999 by rw [show (999999 : Int32) = ii 999999 from rfl, ii_le (by omega) (by omega)]; exact g)]
        exact fin 999999 (by omega)
  · rw [if_neg c, if_neg (show ¬ ¬ (0 : Int32) = 0 by decide), if_neg c]
    exact MG_ret h
/-- copying of a block -/
theorem zcopy_ly {M : ZMem} (h : Ly M) {p q a b : Nat} {n : Int} (hp : 20 ≤ p ∧ p < 184) (hq : 20 ≤ q ∧ q < 184) (sp : zSh.getD p (0, 0) = (20, a)) (sq : zSh.getD q (0, 0) = (20, b)) (hn : 0 ≤ n ∧ n ≤ a ∧ n ≤ b) (ha : a ≤ 1000) : zcopy M p 0 q 0 (ii n) = some (zcpI M p 0 q 0 n.toNat) := by
  have e1 := h.s p hp.2
  have e2 := h.s q hq.2
  rw [sp] at e1
  rw [sq] at e2
  have en : (ii n).toInt = n := ii_toInt (by omega)
  have c0 : (0 : Int32).toNatClampNeg = 0 := rfl
  have cn : (ii n).toNatClampNeg = n.toNat := by show (ii n).toInt.toNat = _; rw [en]
  unfold zcopy
  rw [h.n, e1, e2, c0, cn, if_pos ⟨hp.1, hp.2, hq.1, hq.2, by decide, by decide, by rw [Int32.lt_iff_toInt_lt, en]; have : (0 : Int32).toInt = 0 := rfl; omega, by simp only; omega, by simp only; omega⟩, if_pos ⟨rfl, rfl⟩]
theorem zI_cp (M : ZMem) (p sp q dp n a b : Nat) : zI (zcpI M p sp q dp n) a b = if a = q ∧ dp ≤ b ∧ b < dp + n then zI M p (sp + (b - dp)) else zI M a b := rfl
theorem zL_cp (M : ZMem) (p sp q dp n : Nat) : zL (zcpI M p sp q dp n) = zL M := rfl
theorem zR_cp (M : ZMem) (p sp q dp n : Nat) : zR (zcpI M p sp q dp n) = zR M := rfl
def cpM (M : ZMem) (o q : Nat) : ZMem := zcpI (zpI (zpI (zpI (zpI (zpI M o 1 (zI M q 1)) o 2 (zI M q 2)) o 3 (zI M q 3)) o 4 (zI M q 4)) o 5 (zI M q 5)) (q + 1) 0 (o + 1) 0 4
theorem cp_ly {M : ZMem} (h : Ly M) {o q : Nat} : Ly (cpM M o q) := (Ly_cpI _ _ _ _ _ _).mpr h.p.p.p.p.p
theorem cp_at {M : ZMem} {o q : Nat} (hne : q + 1 ≠ o ∧ o ≠ q ∧ q + 1 ≠ o + 1 ∧ q ≠ o + 1) : (∀ j, 1 ≤ j → j ≤ 5 → zI (cpM M o q) o j = zI M q j) ∧ zI (cpM M o q) o 0 = zI M o 0 ∧ (∀ r, r < 4 → zI (cpM M o q) (o + 1) r = zI M (q + 1) r) ∧ (∀ p, p ≠ o → p ≠ o + 1 → ∀ j, zI (cpM M o q) p j = zI M p j) ∧ (∀ p, zL (cpM M o q) p = zL M p) ∧ ∀ p, zR (cpM M o q) p = zR M p := by
  refine ⟨fun j h1 h2 => ?_, ?_, fun r hr => ?_, fun p h1 h2 j => ?_, fun p => rfl, fun p => rfl⟩
  · unfold cpM
    rw [zI_cp, if_neg (by omega)]
    have hz : j = 1 ∨ j = 2 ∨ j = 3 ∨ j = 4 ∨ j = 5 := by omega
    rcases hz with rfl | rfl | rfl | rfl | rfl <;> simp (disch := omega) only [zI_nk, zI_at]
  · unfold cpM
    rw [zI_cp, if_neg (by omega)]
    simp (disch := omega) only [zI_nk]
  · unfold cpM
    rw [zI_cp, if_pos (by omega), show 0 + (r - 0) = r by omega]
    simp (disch := omega) only [zI_ne]
  · unfold cpM
    rw [zI_cp, if_neg (by omega)]
    simp (disch := omega) only [zI_ne]
theorem c53 {M : ZMem} (h : Ly M) {y1 b1 y2 b2 : Nat} (hy1 : y1 ∈ [22, 49, 75]) (hb1 : b1 < 6) (hy2 : y2 ∈ [22, 49, 75]) (hb2 : b2 < 6) (hne : y1 + 2 + 2 * b1 ≠ y2 + 2 + 2 * b2) : f_53 M (y1 + 2 + 2 * b1) (some (y2 + 2 + 2 * b2)) = some (cpM M (y1 + 2 + 2 * b1) (y2 + 2 + 2 * b2)) := by
  have s1 := cBs hy1 hb1
  have s2 := cBs hy2 hb2
  have r1 : y1 ≤ 75 ∧ 22 ≤ y1 := by simp only [List.mem_cons, List.not_mem_nil, or_false] at hy1; omega
  have r2 : y2 ≤ 75 ∧ 22 ≤ y2 := by simp only [List.mem_cons, List.not_mem_nil, or_false] at hy2; omega
  have zc : ∀ N, Ly N → zcopy N (y2 + 3 + 2 * b2) 0 (y1 + 3 + 2 * b1) 0 4 = some (zcpI N (y2 + 3 + 2 * b2) 0 (y1 + 3 + 2 * b1) 0 4) := fun N hN => zcopy_ly hN (n := 4) (by omega) (by omega) s2 s1 (by omega) (by omega)
  have B1 := fun N (hN : Ly N) => cB hN hy1 hb1
  have B2 := fun N (hN : Ly N) => cB hN hy2 hb2
  unfold f_53 cpM
  simp only [B1 _ h, B2 _ h, if_true, zb_some, B1 _ h.p, B2 _ h.p, B1 _ h.p.p, B2 _ h.p.p, B1 _ h.p.p.p, B2 _ h.p.p.p, B1 _ h.p.p.p.p, B2 _ h.p.p.p.p, B1 _ h.p.p.p.p.p, B2 _ h.p.p.p.p.p, zc _ h.p.p.p.p.p]
  rw [show y2 + 2 + 2 * b2 + 1 = y2 + 3 + 2 * b2 by omega, show y1 + 2 + 2 * b1 + 1 = y1 + 3 + 2 * b1 by omega]
  simp (disch := omega) only [zI_ne]
