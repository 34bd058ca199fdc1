/-! OF, SELL -/
theorem AK.vs {M : ZMem} {s : ZSt} {l : Nat → Int64} {s' : ZSt} {y : Nat} (h : AK M s l s' y) {b : Nat} (hb : (b : Int) < s' 133 0) : VS (vluM M s' b) s' b (prc s' b) (prc s' b / 2) := by
  obtain ⟨hb6, hv, hB, hd⟩ := h.bb hb
  have hA := h.2.2.1.1
  have hh' := hA.sh h.2.1.2.2
  have t1 := thn_b h.2.2.1.2.1 hh'
  have t2 := mst_b h.2.2.1.2.1 hh'
  have hp := prc_b h.2.2.1.2.1 hh' b
  exact ⟨⟨(vlu_sv h.1).1, vlu_v.2, vlu_v.1⟩, ⟨hv, hd.1⟩, ⟨t1, t2⟩, hp, by omega, by omega⟩
theorem AK.th {M : ZMem} {s : ZSt} {l : Nat → Int64} {s' : ZSt} {y : Nat} (h : AK M s l s' y) {b : Nat} (hb : (b : Int) < s' 133 0) : ((thk s' b : Nat) : Int) = s' 136 b ∧ thk s' b ≤ 60 := by
  have hv := (h.bb hb).2.1.2.2.1
  simp only [Nat.add_zero] at hv
  unfold thk
  omega
theorem AK.w3 {M : ZMem} {s : ZSt} {l : Nat → Int64} {s' : ZSt} {y : Nat} (h : AK M s l s' y) {b : Nat} (hb : (b : Int) < s' 133 0) : zI M (y + 2 + 2 * b) 3 = ii ((thk s' b : Nat) : Int) := by
  rw [(h.th hb).1]
  exact (h.bb hb).2.2.1.1.2.2.1
theorem AK.yd {M : ZMem} {s : ZSt} {l : Nat → Int64} {s' : ZSt} {y : Nat} (h : AK M s l s' y) : zgi M 10 3 y = some (ii (s' 133 1)) ∧ zgi M 10 1 y = some (ii (s' 133 0)) ∧ zgr M 10 0 y = some (some (y + 1)) ∧ zok M 10 y = true := by
  have e := h.2.2.2.2.2.1
  have e1 := h.2.2.2.2.1
  rcases h.2.2.2.1 with rfl | rfl
  · simp only [cX h.1, e, e1, and_self]
  · simp only [cX h.1, e, e1, and_self]
theorem c90 {M : ZMem} {s : ZSt} {l : Nat → Int64} {s' : ZSt} {y : Nat} (h : AK M s l s' y) {b : Nat} (hb : (b : Int) < s' 133 0) : SGv M (f_90 M 20 (some y) (some (y + 2 + 2 * b))) (ii (tB s' b (thk s' b))) := by
  have hym := AK.ymem h.2.2.2.1
  have hb6 := (h.bb hb).1
  have A1 := h.sv (vlu_sv (s := s') (b := b) h.1)
  obtain ⟨M', m1, m2⟩ := c34 (h.vs hb) (T := thk s' b) (h.th hb).2
  refine ⟨M', ?_, (vlu_sv h.1).tr (m2.sv (by omega))⟩
  have e20 := c20 h.1 h.2.1.1 h.2.1.2.1.1
  unfold f_90
  simp only [cX h.1, if_true, zb_some, h.yd, e20, c28 h hb, cX A1.1, cB A1.1 hym hb6, A1.w3 hb, m1, zbd_some]
  rfl
theorem c45 {M : ZMem} {s : ZSt} {b : Nat} {fu ha : Int} (h : VS M s b fu ha) {T : Nat} (hT : T ≤ 60) : ∃ M', f_45 M 98 (ii T) = some (ii (yT (yW s 1 0) (yC s b) T), M') ∧ Sv M M' := by
  have hL := h.1.1
  have hv : VS (zpI (zpI M 98 5 (ii 1)) 98 6 (ii 0)) s b 1 0 := by
    obtain ⟨⟨h1, h2, h3⟩, h4, h5, h6⟩ := h
    refine ⟨⟨h1.p.p, ?_, ?_⟩, h4, h5, by omega, by omega⟩
    · unfold BLo at h2 ⊢; simp (disch := omega) only [zI_ne]; exact h2
    · unfold VLo at h3 ⊢
      obtain ⟨v1, v2, v3, v4⟩ := h3
      simp (disch := omega) only [zI_nk, zI_at]
      exact ⟨v1, v2, trivial, trivial⟩
  obtain ⟨M', m1, m2⟩ := c34 hv hT
  refine ⟨M', ?_, (((Sv.rf hL).pI (by omega)).pI (by omega)).tr (m2.sv (by omega))⟩
  unfold f_45
  simp only [cV hL, if_true, zb_some, show (1 : Int32) = ii 1 from rfl, show (0 : Int32) = ii 0 from rfl, cV hL.p, m1, zbd_some]
def ofv (s : ZSt) (k : Nat) (w : Int) : Int :=
  if w = 0 then s 134 k else if w = 1 then s 135 k else if w = 2 then s 136 k else if w = 3 then s 137 k else if w = 4 then s 138 k else if w = 5 then prc s k else if w = 6 then grp (s 134 k) (s 135 k) (s 137 k) else if w = 7 then drs s k else if w = 8 then wrt s k (s 136 k) else if w = 9 then tB s k (thk s k) else if w = 10 then tF s k (thk s k) else if w = 11 then tM s k (thk s k) else if w = 12 then tH s k (thk s k) else if w = 13 then (tX s k (thk s k) : Nat) else -1
def sp18 (s : ZSt) (b w : Int) : Int := if 0 ≤ b ∧ b < s 133 0 then ofv s b.toNat w else -1
theorem c27 {M : ZMem} {s : ZSt} {l : Nat → Int64} (h : AK M s l s 22) {b : Nat} (hb : (b : Int) < s 133 0) {w : Int} (hw : -2147483648 ≤ w ∧ w < 2147483648) (h8 : ¬ (0 ≤ w ∧ w ≤ 7)) : SGv M (f_27 M 20 (some (22 + 2 + 2 * b)) (ii w)) (ii (ofv s b w)) := by
  have hb6 := (h.bb hb).1
  have A1 := h.sv (vlu_sv (s := s) (b := b) h.1)
  have hV := h.vs hb
  have hT := h.th hb
  have S0 := vlu_sv (s := s) (b := b) h.1
  have e20 := c20 h.1 h.2.1.1 h.2.1.2.1.1
  have t1 := hV.2.2.1
  have e33 := c33 A1.1 vlu_v.1 (t := ((thk s b : Nat) : Int)) (by omega) (by omega) (by omega)
  have hz : w = 8 ∨ w = 9 ∨ w = 10 ∨ w = 11 ∨ w = 12 ∨ w = 13 ∨ (w < 0 ∨ 13 < w) := by omega
  have e3 : zI M 22 3 = ii (s 133 1) := h.2.2.2.2.2.1
  unfold f_27 ofv
  simp only [cX h.1, if_true, zb_some, e3, e20, c28 h hb, cX A1.1, cB A1.1 (show 22 ∈ [22, 49, 75] by decide) hb6, A1.w3 hb]
  rcases hz with rfl | rfl | rfl | rfl | rfl | rfl | hz
  · refine ⟨_, ?_, S0⟩
    rw [if_pos (show ii 8 = 8 by decide), if_neg (show ¬ (8 : Int) = 0 by decide), if_neg (show ¬ (8 : Int) = 1 by decide), if_neg (show ¬ (8 : Int) = 2 by decide), if_neg (show ¬ (8 : Int) = 3 by decide), if_neg (show ¬ (8 : Int) = 4 by decide), if_neg (show ¬ (8 : Int) = 5 by decide), if_neg (show ¬ (8 : Int) = 6 by decide), if_neg (show ¬ (8 : Int) = 7 by decide), if_pos (show (8 : Int) = 8 from rfl), e33, zb_some, (h.th hb).1]
    rfl
  · obtain ⟨M', m1, m2⟩ := c34 hV hT.2
    refine ⟨M', ?_, S0.tr (m2.sv (by omega))⟩
    rw [if_neg (show ¬ ii 9 = 8 by decide), if_pos (show ii 9 = 9 by decide), if_neg (show ¬ (9 : Int) = 0 by decide), if_neg (show ¬ (9 : Int) = 1 by decide), if_neg (show ¬ (9 : Int) = 2 by decide), if_neg (show ¬ (9 : Int) = 3 by decide), if_neg (show ¬ (9 : Int) = 4 by decide), if_neg (show ¬ (9 : Int) = 5 by decide), if_neg (show ¬ (9 : Int) = 6 by decide), if_neg (show ¬ (9 : Int) = 7 by decide), if_neg (show ¬ (9 : Int) = 8 by decide), if_pos (show (9 : Int) = 9 from rfl), m1, zbd_some]
    rfl
  · obtain ⟨M', m1, m2⟩ := c42 hV hT.2
    refine ⟨M', ?_, S0.tr m2⟩
    rw [if_neg (show ¬ ii 10 = 8 by decide), if_neg (show ¬ ii 10 = 9 by decide), if_pos (show ii 10 = 10 by decide), if_neg (show ¬ (10 : Int) = 0 by decide), if_neg (show ¬ (10 : Int) = 1 by decide), if_neg (show ¬ (10 : Int) = 2 by decide), if_neg (show ¬ (10 : Int) = 3 by decide), if_neg (show ¬ (10 : Int) = 4 by decide), if_neg (show ¬ (10 : Int) = 5 by decide), if_neg (show ¬ (10 : Int) = 6 by decide), if_neg (show ¬ (10 : Int) = 7 by decide), if_neg (show ¬ (10 : Int) = 8 by decide), if_neg (show ¬ (10 : Int) = 9 by decide), if_pos (show (10 : Int) = 10 from rfl), m1, zbd_some]
    rfl
  · obtain ⟨M', m1, m2⟩ := c45 hV hT.2
    refine ⟨M', ?_, S0.tr m2⟩
    rw [if_neg (show ¬ ii 11 = 8 by decide), if_neg (show ¬ ii 11 = 9 by decide), if_neg (show ¬ ii 11 = 10 by decide), if_pos (show ii 11 = 11 by decide), if_neg (show ¬ (11 : Int) = 0 by decide), if_neg (show ¬ (11 : Int) = 1 by decide), if_neg (show ¬ (11 : Int) = 2 by decide), if_neg (show ¬ (11 : Int) = 3 by decide), if_neg (show ¬ (11 : Int) = 4 by decide), if_neg (show ¬ (11 : Int) = 5 by decide), if_neg (show ¬ (11 : Int) = 6 by decide), if_neg (show ¬ (11 : Int) = 7 by decide), if_neg (show ¬ (11 : Int) = 8 by decide), if_neg (show ¬ (11 : Int) = 9 by decide), if_neg (show ¬ (11 : Int) = 10 by decide), if_pos (show (11 : Int) = 11 from rfl), m1, zbd_some]
    rfl
  · obtain ⟨M', m1, m2⟩ := c46 hV hT.2
    refine ⟨M', ?_, S0.tr m2⟩
    rw [if_neg (show ¬ ii 12 = 8 by decide), if_neg (show ¬ ii 12 = 9 by decide), if_neg (show ¬ ii 12 = 10 by decide), if_neg (show ¬ ii 12 = 11 by decide), if_pos (show ii 12 = 12 by decide), if_neg (show ¬ (12 : Int) = 0 by decide), if_neg (show ¬ (12 : Int) = 1 by decide), if_neg (show ¬ (12 : Int) = 2 by decide), if_neg (show ¬ (12 : Int) = 3 by decide), if_neg (show ¬ (12 : Int) = 4 by decide), if_neg (show ¬ (12 : Int) = 5 by decide), if_neg (show ¬ (12 : Int) = 6 by decide), if_neg (show ¬ (12 : Int) = 7 by decide), if_neg (show ¬ (12 : Int) = 8 by decide), if_neg (show ¬ (12 : Int) = 9 by decide), if_neg (show ¬ (12 : Int) = 10 by decide), if_neg (show ¬ (12 : Int) = 11 by decide), if_pos (show (12 : Int) = 12 from rfl), m1, zbd_some]
    rfl
  · obtain ⟨M', m1, m2⟩ := c47 hV hT.2
    refine ⟨M', ?_, S0.tr m2⟩
    rw [if_neg (show ¬ ii 13 = 8 by decide), if_neg (show ¬ ii 13 = 9 by decide), if_neg (show ¬ ii 13 = 10 by decide), if_neg (show ¬ ii 13 = 11 by decide), if_neg (show ¬ ii 13 = 12 by decide), if_pos (show ii 13 = 13 by decide), if_neg (show ¬ (13 : Int) = 0 by decide), if_neg (show ¬ (13 : Int) = 1 by decide), if_neg (show ¬ (13 : Int) = 2 by decide), if_neg (show ¬ (13 : Int) = 3 by decide), if_neg (show ¬ (13 : Int) = 4 by decide), if_neg (show ¬ (13 : Int) = 5 by decide), if_neg (show ¬ (13 : Int) = 6 by decide), if_neg (show ¬ (13 : Int) = 7 by decide), if_neg (show ¬ (13 : Int) = 8 by decide), if_neg (show ¬ (13 : Int) = 9 by decide), if_neg (show ¬ (13 : Int) = 10 by decide), if_neg (show ¬ (13 : Int) = 11 by decide), if_neg (show ¬ (13 : Int) = 12 by decide), if_pos (show (13 : Int) = 13 from rfl), m1, zbd_some]
    rfl
  · refine ⟨_, ?_, S0⟩
    rw [if_neg (show ¬ ii w = 8 by rw [show (8 : Int32) = ii 8 from rfl, ii_eq (by omega) (by omega)]; omega), if_neg (show ¬ ii w = 9 by rw [show (9 : Int32) = ii 9 from rfl, ii_eq (by omega) (by omega)]; omega), if_neg (show ¬ ii w = 10 by rw [show (10 : Int32) = ii 10 from rfl, ii_eq (by omega) (by omega)]; omega), if_neg (show ¬ ii w = 11 by rw [show (11 : Int32) = ii 11 from rfl, ii_eq (by omega) (by omega)]; omega), if_neg (show ¬ ii w = 12 by rw [show (12 : Int32) = ii 12 from rfl, ii_eq (by omega) (by omega)]; omega), if_neg (show ¬ ii w = 13 by rw [show (13 : Int32) = ii 13 from rfl, ii_eq (by omega) (by omega)]; omega), if_neg (show ¬ w = 0 by omega), if_neg (show ¬ w = 1 by omega), if_neg (show ¬ w = 2 by omega), if_neg (show ¬ w = 3 by omega), if_neg (show ¬ w = 4 by omega), if_neg (show ¬ w = 5 by omega), if_neg (show ¬ w = 6 by omega), if_neg (show ¬ w = 7 by omega), if_neg (show ¬ w = 8 by omega), if_neg (show ¬ w = 9 by omega), if_neg (show ¬ w = 10 by omega), if_neg (show ¬ w = 11 by omega), if_neg (show ¬ w = 12 by omega), if_neg (show ¬ w = 13 by omega)]
    rfl
theorem m18 {M0 M : ZMem} {s : ZSt} {l : Nat → Int64} (h : CS M0 M s l) (hi : SI6 s) (hh : SH s) (hb' : SIb s) {b w : Int} (hb : -2147483648 ≤ b ∧ b < 2147483648) (hw : -2147483648 ≤ w ∧ w < 2147483648) : CG M0 (f_18 M 20 (ii b) (ii w)) (ii (sp18 s b w)) s l := by
  have h0 := hi.1.1
  have hA := AK_now h.1 h.2.2 hi hh hb'
  unfold f_18 sp18
  rw [if_pos (zok_ly h.1 k20), gnow h.1, zb_some, zb_some, gyd h.1, zb_some, zb_some, c19 h.1 (by decide) h.2.2.1.1.1 h0 hb, zb_some]
  by_cases c : 0 ≤ b ∧ b < s 133 0
  · obtain ⟨n, rfl⟩ := Int.eq_ofNat_of_zero_le c.1
    rw [fnd_some c, zcs_so _ _ _ (by omega), if_pos c, Int.toNat_natCast]
    obtain ⟨hb6, hv, hB, hd⟩ := hA.bb c.2
    have B0 := cB h.1 (show 22 ∈ [22, 49, 75] by decide) hb6
    obtain ⟨⟨b1, b2, b3, b4, b5⟩, b6⟩ := hB
    simp only [Nat.add_zero] at b1 b2 b3 b4 b5
    obtain ⟨v1, v2, v3, v4, v5, v6⟩ := id hv
    simp only [Nat.add_zero] at v1 v2 v4
    have e20 := c20 h.1 h.2.2 hi.1
    have hz : 0 ≤ w ∧ w ≤ 7 ∨ ¬ (0 ≤ w ∧ w ≤ 7) := by omega
    rcases hz with hz | hz
    · have hz : w = 0 ∨ w = 1 ∨ w = 2 ∨ w = 3 ∨ w = 4 ∨ w = 5 ∨ w = 6 ∨ w = 7 := by omega
      unfold ofv
      rcases hz with rfl | rfl | rfl | rfl | rfl | rfl | rfl | rfl
      · rw [if_pos (show ii 0 = 0 by decide), if_pos (show (0 : Int) = 0 from rfl)]
        simp only [B0, zb_some, b1]
        exact CG_ret h
      · rw [if_neg (show ¬ ii 1 = 0 by decide), if_pos (show ii 1 = 1 by decide), if_neg (show ¬ (1 : Int) = 0 by decide), if_pos (show (1 : Int) = 1 from rfl)]
        simp only [B0, zb_some, b2]
        exact CG_ret h
      · rw [if_neg (show ¬ ii 2 = 0 by decide), if_neg (show ¬ ii 2 = 1 by decide), if_pos (show ii 2 = 2 by decide), if_neg (show ¬ (2 : Int) = 0 by decide), if_neg (show ¬ (2 : Int) = 1 by decide), if_pos (show (2 : Int) = 2 from rfl)]
        simp only [B0, zb_some, b3]
        exact CG_ret h
      · rw [if_neg (show ¬ ii 3 = 0 by decide), if_neg (show ¬ ii 3 = 1 by decide), if_neg (show ¬ ii 3 = 2 by decide), if_pos (show ii 3 = 3 by decide), if_neg (show ¬ (3 : Int) = 0 by decide), if_neg (show ¬ (3 : Int) = 1 by decide), if_neg (show ¬ (3 : Int) = 2 by decide), if_pos (show (3 : Int) = 3 from rfl)]
        simp only [B0, zb_some, b4]
        exact CG_ret h
      · rw [if_neg (show ¬ ii 4 = 0 by decide), if_neg (show ¬ ii 4 = 1 by decide), if_neg (show ¬ ii 4 = 2 by decide), if_neg (show ¬ ii 4 = 3 by decide), if_pos (show ii 4 = 4 by decide), if_neg (show ¬ (4 : Int) = 0 by decide), if_neg (show ¬ (4 : Int) = 1 by decide), if_neg (show ¬ (4 : Int) = 2 by decide), if_neg (show ¬ (4 : Int) = 3 by decide), if_pos (show (4 : Int) = 4 from rfl)]
        simp only [B0, zb_some, b5]
        exact CG_ret h
      · rw [if_neg (show ¬ ii 5 = 0 by decide), if_neg (show ¬ ii 5 = 1 by decide), if_neg (show ¬ ii 5 = 2 by decide), if_neg (show ¬ ii 5 = 3 by decide), if_neg (show ¬ ii 5 = 4 by decide), if_pos (show ii 5 = 5 by decide), if_neg (show ¬ (5 : Int) = 0 by decide), if_neg (show ¬ (5 : Int) = 1 by decide), if_neg (show ¬ (5 : Int) = 2 by decide), if_neg (show ¬ (5 : Int) = 3 by decide), if_neg (show ¬ (5 : Int) = 4 by decide), if_pos (show (5 : Int) = 5 from rfl)]
        have e21 := c21 h.1 h.2.2 hi.1 hh (fun _ _ => rfl) rfl hi.1 hh (show 22 ∈ [22, 49, 75] by decide) hb6 (hA.bb c.2).2.2.1 hv hd
        have e3 : zI M 22 3 = ii (s 133 1) := hA.2.2.2.2.2.1
        simp only [cX h.1, zb_some, e20, e3, e21]
        exact CG_ret h
      · rw [if_neg (show ¬ ii 6 = 0 by decide), if_neg (show ¬ ii 6 = 1 by decide), if_neg (show ¬ ii 6 = 2 by decide), if_neg (show ¬ ii 6 = 3 by decide), if_neg (show ¬ ii 6 = 4 by decide), if_neg (show ¬ ii 6 = 5 by decide), if_pos (show ii 6 = 6 by decide), if_neg (show ¬ (6 : Int) = 0 by decide), if_neg (show ¬ (6 : Int) = 1 by decide), if_neg (show ¬ (6 : Int) = 2 by decide), if_neg (show ¬ (6 : Int) = 3 by decide), if_neg (show ¬ (6 : Int) = 4 by decide), if_neg (show ¬ (6 : Int) = 5 by decide), if_pos (show (6 : Int) = 6 from rfl)]
        simp only [B0, zb_some, b1, b2, b4, c25 v1 v2 v4]
        exact CG_ret h
      · rw [if_neg (show ¬ ii 7 = 0 by decide), if_neg (show ¬ ii 7 = 1 by decide), if_neg (show ¬ ii 7 = 2 by decide), if_neg (show ¬ ii 7 = 3 by decide), if_neg (show ¬ ii 7 = 4 by decide), if_neg (show ¬ ii 7 = 5 by decide), if_neg (show ¬ ii 7 = 6 by decide), if_pos (show ii 7 = 7 by decide), if_neg (show ¬ (7 : Int) = 0 by decide), if_neg (show ¬ (7 : Int) = 1 by decide), if_neg (show ¬ (7 : Int) = 2 by decide), if_neg (show ¬ (7 : Int) = 3 by decide), if_neg (show ¬ (7 : Int) = 4 by decide), if_neg (show ¬ (7 : Int) = 5 by decide), if_neg (show ¬ (7 : Int) = 6 by decide), if_pos (show (7 : Int) = 7 from rfl)]
        have wb := wnd_b hi.1 hh
        have ew : zI M (hpl s) 4 = ii (wnd s) := (hpl_v h.2.2 hi.1).2.2.2.2
        unfold f_26 drs
        simp only [e20, zb_some, cH h.1 (hpl_o hi.1), ew, B0, b1]
        by_cases k5 : s 134 n = 5
        · rw [if_neg (show ¬ ¬ ii (s 134 n) = 5 by rw [k5]; decide), if_pos k5, show (2 : Int32) = ii 2 from rfl, ii_div (by omega) (by omega), zb_some]
          exact CG_ret h
        · rw [if_pos (show ¬ ii (s 134 n) = 5 by rw [show (5 : Int32) = ii 5 from rfl, ii_eq (by omega) (by omega)]; exact k5), if_neg k5, zb_some]
          exact CG_ret h
    · rw [if_neg (show ¬ ii w = 0 by rw [show (0 : Int32) = ii 0 from rfl, ii_eq (by omega) (by omega)]; omega), if_neg (show ¬ ii w = 1 by rw [show (1 : Int32) = ii 1 from rfl, ii_eq (by omega) (by omega)]; omega), if_neg (show ¬ ii w = 2 by rw [show (2 : Int32) = ii 2 from rfl, ii_eq (by omega) (by omega)]; omega), if_neg (show ¬ ii w = 3 by rw [show (3 : Int32) = ii 3 from rfl, ii_eq (by omega) (by omega)]; omega), if_neg (show ¬ ii w = 4 by rw [show (4 : Int32) = ii 4 from rfl, ii_eq (by omega) (by omega)]; omega), if_neg (show ¬ ii w = 5 by rw [show (5 : Int32) = ii 5 from rfl, ii_eq (by omega) (by omega)]; omega), if_neg (show ¬ ii w = 6 by rw [show (6 : Int32) = ii 6 from rfl, ii_eq (by omega) (by omega)]; omega), if_neg (show ¬ ii w = 7 by rw [show (7 : Int32) = ii 7 from rfl, ii_eq (by omega) (by omega)]; omega)]
      obtain ⟨M', m1, m2⟩ := c27 hA c.2 hw hz
      rw [m1, zbd_some]
      exact CG_sg h hi ⟨M', rfl, m2.sc⟩
  · rw [fnd_none c, zcs_no, if_neg c]
    exact CG_ret h
theorem RK_of {s : ZSt} (hi : SIn s) (hh : SH s) (hb' : SIb s) {n : Nat} (hn : (n : Int) < s 133 0) : RK s n := by
  have h0 := hi.1
  have h1 := hi.2.1
  exact ⟨⟨hi, hh⟩, ⟨by omega, hb' n hn⟩, by omega, by omega⟩
theorem m167 {M0 M : ZMem} {s : ZSt} (h : MS M0 M s) (hi : SIn s) (hh : SH s) (hb' : SIb s) {b w : Int} (hb : -2147483648 ≤ b ∧ b < 2147483648) (hw : -2147483648 ≤ w ∧ w < 2147483648) : MG M0 (f_167 M 133 (ii b) (ii w)) (ii (sp18 s b w)) s := by
  have h0 := hi.1
  unfold f_167 sp18
  rw [if_pos (zok_ly h.1 k133), c149 h.1 h.2.2 hi hb, zb_some]
  by_cases c : 0 ≤ b ∧ b < s 133 0
  · obtain ⟨n, rfl⟩ := Int.eq_ofNat_of_zero_le c.1
    have hK := RK_of hi hh hb' c.2
    have v3 := hK.2.1.2.2.2.1
    simp only [Nat.add_zero] at v3
    rw [if_pos c, if_pos (show ¬ (1 : Int32) = 0 by decide), if_pos c, Int.toNat_natCast]
    have hz : w = 0 ∨ w = 1 ∨ w = 2 ∨ w = 3 ∨ w = 4 ∨ w = 5 ∨ w = 6 ∨ w = 7 ∨ w = 8 ∨ w = 9 ∨ w = 10 ∨ w = 11 ∨ w = 12 ∨ w = 13 ∨ (w < 0 ∨ 13 < w) := by omega
    unfold ofv
    rcases hz with rfl | rfl | rfl | rfl | rfl | rfl | rfl | rfl | rfl | rfl | rfl | rfl | rfl | rfl | hz
    · rw [if_pos (show ii 0 = 0 by decide), if_pos (show (0 : Int) = 0 from rfl)]
      have x := rM h.1 h.2.2 (P := 134) (n := 6) (b := (n : Int)) (by decide) (fun _ => rfl) (by omega) (by omega)
      rw [Int.toNat_natCast] at x
      rw [rPm h.1 (j := 3) (by decide) (show zRm 133 3 = some 134 by decide +kernel), zb_some, zb_some, x, zb_some]
      exact MG_ret h
    · rw [if_neg (show ¬ ii 1 = 0 by decide), if_pos (show ii 1 = 1 by decide), if_neg (show ¬ (1 : Int) = 0 by decide), if_pos (show (1 : Int) = 1 from rfl)]
      have x := rM h.1 h.2.2 (P := 135) (n := 6) (b := (n : Int)) (by decide) (fun _ => rfl) (by omega) (by omega)
      rw [Int.toNat_natCast] at x
      rw [rPm h.1 (j := 4) (by decide) (show zRm 133 4 = some 135 by decide +kernel), zb_some, zb_some, x, zb_some]
      exact MG_ret h
    · rw [if_neg (show ¬ ii 2 = 0 by decide), if_neg (show ¬ ii 2 = 1 by decide), if_pos (show ii 2 = 2 by decide), if_neg (show ¬ (2 : Int) = 0 by decide), if_neg (show ¬ (2 : Int) = 1 by decide), if_pos (show (2 : Int) = 2 from rfl)]
      have x := rM h.1 h.2.2 (P := 136) (n := 6) (b := (n : Int)) (by decide) (fun _ => rfl) (by omega) (by omega)
      rw [Int.toNat_natCast] at x
      rw [rPm h.1 (j := 5) (by decide) (show zRm 133 5 = some 136 by decide +kernel), zb_some, zb_some, x, zb_some]
      exact MG_ret h
    · rw [if_neg (show ¬ ii 3 = 0 by decide), if_neg (show ¬ ii 3 = 1 by decide), if_neg (show ¬ ii 3 = 2 by decide), if_pos (show ii 3 = 3 by decide), if_neg (show ¬ (3 : Int) = 0 by decide), if_neg (show ¬ (3 : Int) = 1 by decide), if_neg (show ¬ (3 : Int) = 2 by decide), if_pos (show (3 : Int) = 3 from rfl)]
      have x := rM h.1 h.2.2 (P := 137) (n := 6) (b := (n : Int)) (by decide) (fun _ => rfl) (by omega) (by omega)
      rw [Int.toNat_natCast] at x
      rw [rPm h.1 (j := 6) (by decide) (show zRm 133 6 = some 137 by decide +kernel), zb_some, zb_some, x, zb_some]
      exact MG_ret h
    · rw [if_neg (show ¬ ii 4 = 0 by decide), if_neg (show ¬ ii 4 = 1 by decide), if_neg (show ¬ ii 4 = 2 by decide), if_neg (show ¬ ii 4 = 3 by decide), if_pos (show ii 4 = 4 by decide), if_neg (show ¬ (4 : Int) = 0 by decide), if_neg (show ¬ (4 : Int) = 1 by decide), if_neg (show ¬ (4 : Int) = 2 by decide), if_neg (show ¬ (4 : Int) = 3 by decide), if_pos (show (4 : Int) = 4 from rfl)]
      have x := rM h.1 h.2.2 (P := 138) (n := 6) (b := (n : Int)) (by decide) (fun _ => rfl) (by omega) (by omega)
      rw [Int.toNat_natCast] at x
      rw [rPm h.1 (j := 7) (by decide) (show zRm 133 7 = some 138 by decide +kernel), zb_some, zb_some, x, zb_some]
      exact MG_ret h
    · rw [if_neg (show ¬ ii 5 = 0 by decide), if_neg (show ¬ ii 5 = 1 by decide), if_neg (show ¬ ii 5 = 2 by decide), if_neg (show ¬ ii 5 = 3 by decide), if_neg (show ¬ ii 5 = 4 by decide), if_pos (show ii 5 = 5 by decide), if_neg (show ¬ (5 : Int) = 0 by decide), if_neg (show ¬ (5 : Int) = 1 by decide), if_neg (show ¬ (5 : Int) = 2 by decide), if_neg (show ¬ (5 : Int) = 3 by decide), if_neg (show ¬ (5 : Int) = 4 by decide), if_pos (show (5 : Int) = 5 from rfl)]
      exact MG_bd (c168 h hi hh hK.2.1.1 hK.2.1.2 hK.2.2) fun M1 h1 => MG_ret h1
    · rw [if_neg (show ¬ ii 6 = 0 by decide), if_neg (show ¬ ii 6 = 1 by decide), if_neg (show ¬ ii 6 = 2 by decide), if_neg (show ¬ ii 6 = 3 by decide), if_neg (show ¬ ii 6 = 4 by decide), if_neg (show ¬ ii 6 = 5 by decide), if_pos (show ii 6 = 6 by decide), if_neg (show ¬ (6 : Int) = 0 by decide), if_neg (show ¬ (6 : Int) = 1 by decide), if_neg (show ¬ (6 : Int) = 2 by decide), if_neg (show ¬ (6 : Int) = 3 by decide), if_neg (show ¬ (6 : Int) = 4 by decide), if_neg (show ¬ (6 : Int) = 5 by decide), if_pos (show (6 : Int) = 6 from rfl)]
      have e := c174 h.1 h.2.2 (b := (n : Int)) (by omega) (by rw [Int.toNat_natCast]; exact hK.2.1.2)
      rw [Int.toNat_natCast] at e
      rw [e, zb_some]
      exact MG_ret h
    · rw [if_neg (show ¬ ii 7 = 0 by decide), if_neg (show ¬ ii 7 = 1 by decide), if_neg (show ¬ ii 7 = 2 by decide), if_neg (show ¬ ii 7 = 3 by decide), if_neg (show ¬ ii 7 = 4 by decide), if_neg (show ¬ ii 7 = 5 by decide), if_neg (show ¬ ii 7 = 6 by decide), if_pos (show ii 7 = 7 by decide), if_neg (show ¬ (7 : Int) = 0 by decide), if_neg (show ¬ (7 : Int) = 1 by decide), if_neg (show ¬ (7 : Int) = 2 by decide), if_neg (show ¬ (7 : Int) = 3 by decide), if_neg (show ¬ (7 : Int) = 4 by decide), if_neg (show ¬ (7 : Int) = 5 by decide), if_neg (show ¬ (7 : Int) = 6 by decide), if_pos (show (7 : Int) = 7 from rfl)]
      rw [c175 h.1 h.2.2 hi hh hK.2.1.1 hK.2.1.2, zb_some]
      exact MG_ret h
    · rw [if_neg (show ¬ ii 8 = 0 by decide), if_neg (show ¬ ii 8 = 1 by decide), if_neg (show ¬ ii 8 = 2 by decide), if_neg (show ¬ ii 8 = 3 by decide), if_neg (show ¬ ii 8 = 4 by decide), if_neg (show ¬ ii 8 = 5 by decide), if_neg (show ¬ ii 8 = 6 by decide), if_neg (show ¬ ii 8 = 7 by decide), if_pos (show ii 8 = 8 by decide), if_neg (show ¬ (8 : Int) = 0 by decide), if_neg (show ¬ (8 : Int) = 1 by decide), if_neg (show ¬ (8 : Int) = 2 by decide), if_neg (show ¬ (8 : Int) = 3 by decide), if_neg (show ¬ (8 : Int) = 4 by decide), if_neg (show ¬ (8 : Int) = 5 by decide), if_neg (show ¬ (8 : Int) = 6 by decide), if_neg (show ¬ (8 : Int) = 7 by decide), if_pos (show (8 : Int) = 8 from rfl)]
      rw [(x136 hK h).1, zb_some, zb_some, (x136 hK h).2, zb_some, hK.t.1]
      exact MG_bd (c177 h hi hh hK.2.1.1 hK.2.1.2 hK.2.2 (by omega)) fun M1 h1 => MG_ret h1
    · rw [if_neg (show ¬ ii 9 = 0 by decide), if_neg (show ¬ ii 9 = 1 by decide), if_neg (show ¬ ii 9 = 2 by decide), if_neg (show ¬ ii 9 = 3 by decide), if_neg (show ¬ ii 9 = 4 by decide), if_neg (show ¬ ii 9 = 5 by decide), if_neg (show ¬ ii 9 = 6 by decide), if_neg (show ¬ ii 9 = 7 by decide), if_neg (show ¬ ii 9 = 8 by decide), if_pos (show ii 9 = 9 by decide), if_neg (show ¬ (9 : Int) = 0 by decide), if_neg (show ¬ (9 : Int) = 1 by decide), if_neg (show ¬ (9 : Int) = 2 by decide), if_neg (show ¬ (9 : Int) = 3 by decide), if_neg (show ¬ (9 : Int) = 4 by decide), if_neg (show ¬ (9 : Int) = 5 by decide), if_neg (show ¬ (9 : Int) = 6 by decide), if_neg (show ¬ (9 : Int) = 7 by decide), if_neg (show ¬ (9 : Int) = 8 by decide), if_pos (show (9 : Int) = 9 from rfl)]
      unfold f_167_145
      exact MG_bd (c181 hK h (w := 9) (by omega)) fun M1 h1 => MG_ret h1
    · rw [if_neg (show ¬ ii 10 = 0 by decide), if_neg (show ¬ ii 10 = 1 by decide), if_neg (show ¬ ii 10 = 2 by decide), if_neg (show ¬ ii 10 = 3 by decide), if_neg (show ¬ ii 10 = 4 by decide), if_neg (show ¬ ii 10 = 5 by decide), if_neg (show ¬ ii 10 = 6 by decide), if_neg (show ¬ ii 10 = 7 by decide), if_neg (show ¬ ii 10 = 8 by decide), if_neg (show ¬ ii 10 = 9 by decide), if_pos (show ii 10 = 10 by decide), if_neg (show ¬ (10 : Int) = 0 by decide), if_neg (show ¬ (10 : Int) = 1 by decide), if_neg (show ¬ (10 : Int) = 2 by decide), if_neg (show ¬ (10 : Int) = 3 by decide), if_neg (show ¬ (10 : Int) = 4 by decide), if_neg (show ¬ (10 : Int) = 5 by decide), if_neg (show ¬ (10 : Int) = 6 by decide), if_neg (show ¬ (10 : Int) = 7 by decide), if_neg (show ¬ (10 : Int) = 8 by decide), if_neg (show ¬ (10 : Int) = 9 by decide), if_pos (show (10 : Int) = 10 from rfl)]
      unfold f_167_145
      exact MG_bd (c181 hK h (w := 10) (by omega)) fun M1 h1 => MG_ret h1
    · rw [if_neg (show ¬ ii 11 = 0 by decide), if_neg (show ¬ ii 11 = 1 by decide), if_neg (show ¬ ii 11 = 2 by decide), if_neg (show ¬ ii 11 = 3 by decide), if_neg (show ¬ ii 11 = 4 by decide), if_neg (show ¬ ii 11 = 5 by decide), if_neg (show ¬ ii 11 = 6 by decide), if_neg (show ¬ ii 11 = 7 by decide), if_neg (show ¬ ii 11 = 8 by decide), if_neg (show ¬ ii 11 = 9 by decide), if_neg (show ¬ ii 11 = 10 by decide), if_pos (show ii 11 = 11 by decide), if_neg (show ¬ (11 : Int) = 0 by decide), if_neg (show ¬ (11 : Int) = 1 by decide), if_neg (show ¬ (11 : Int) = 2 by decide), if_neg (show ¬ (11 : Int) = 3 by decide), if_neg (show ¬ (11 : Int) = 4 by decide), if_neg (show ¬ (11 : Int) = 5 by decide), if_neg (show ¬ (11 : Int) = 6 by decide), if_neg (show ¬ (11 : Int) = 7 by decide), if_neg (show ¬ (11 : Int) = 8 by decide), if_neg (show ¬ (11 : Int) = 9 by decide), if_neg (show ¬ (11 : Int) = 10 by decide), if_pos (show (11 : Int) = 11 from rfl)]
      unfold f_167_145
      exact MG_bd (c181 hK h (w := 11) (by omega)) fun M1 h1 => MG_ret h1
    · rw [if_neg (show ¬ ii 12 = 0 by decide), if_neg (show ¬ ii 12 = 1 by decide), if_neg (show ¬ ii 12 = 2 by decide), if_neg (show ¬ ii 12 = 3 by decide), if_neg (show ¬ ii 12 = 4 by decide), if_neg (show ¬ ii 12 = 5 by decide), if_neg (show ¬ ii 12 = 6 by decide), if_neg (show ¬ ii 12 = 7 by decide), if_neg (show ¬ ii 12 = 8 by decide), if_neg (show ¬ ii 12 = 9 by decide), if_neg (show ¬ ii 12 = 10 by decide), if_neg (show ¬ ii 12 = 11 by decide), if_pos (show ii 12 = 12 by decide), if_neg (show ¬ (12 : Int) = 0 by decide), if_neg (show ¬ (12 : Int) = 1 by decide), if_neg (show ¬ (12 : Int) = 2 by decide), if_neg (show ¬ (12 : Int) = 3 by decide), if_neg (show ¬ (12 : Int) = 4 by decide), if_neg (show ¬ (12 : Int) = 5 by decide), if_neg (show ¬ (12 : Int) = 6 by decide), if_neg (show ¬ (12 : Int) = 7 by decide), if_neg (show ¬ (12 : Int) = 8 by decide), if_neg (show ¬ (12 : Int) = 9 by decide), if_neg (show ¬ (12 : Int) = 10 by decide), if_neg (show ¬ (12 : Int) = 11 by decide), if_pos (show (12 : Int) = 12 from rfl)]
      unfold f_167_145
      exact MG_bd (c181 hK h (w := 12) (by omega)) fun M1 h1 => MG_ret h1
    · rw [if_neg (show ¬ ii 13 = 0 by decide), if_neg (show ¬ ii 13 = 1 by decide), if_neg (show ¬ ii 13 = 2 by decide), if_neg (show ¬ ii 13 = 3 by decide), if_neg (show ¬ ii 13 = 4 by decide), if_neg (show ¬ ii 13 = 5 by decide), if_neg (show ¬ ii 13 = 6 by decide), if_neg (show ¬ ii 13 = 7 by decide), if_neg (show ¬ ii 13 = 8 by decide), if_neg (show ¬ ii 13 = 9 by decide), if_neg (show ¬ ii 13 = 10 by decide), if_neg (show ¬ ii 13 = 11 by decide), if_neg (show ¬ ii 13 = 12 by decide), if_pos (show ii 13 = 13 by decide), if_neg (show ¬ (13 : Int) = 0 by decide), if_neg (show ¬ (13 : Int) = 1 by decide), if_neg (show ¬ (13 : Int) = 2 by decide), if_neg (show ¬ (13 : Int) = 3 by decide), if_neg (show ¬ (13 : Int) = 4 by decide), if_neg (show ¬ (13 : Int) = 5 by decide), if_neg (show ¬ (13 : Int) = 6 by decide), if_neg (show ¬ (13 : Int) = 7 by decide), if_neg (show ¬ (13 : Int) = 8 by decide), if_neg (show ¬ (13 : Int) = 9 by decide), if_neg (show ¬ (13 : Int) = 10 by decide), if_neg (show ¬ (13 : Int) = 11 by decide), if_neg (show ¬ (13 : Int) = 12 by decide), if_pos (show (13 : Int) = 13 from rfl)]
      exact MG_bd (c186 hK h) fun M1 h1 => MG_ret h1
    · rw [if_neg (show ¬ ii w = 0 by rw [show (0 : Int32) = ii 0 from rfl, ii_eq (by omega) (by omega)]; omega), if_neg (show ¬ ii w = 1 by rw [show (1 : Int32) = ii 1 from rfl, ii_eq (by omega) (by omega)]; omega), if_neg (show ¬ ii w = 2 by rw [show (2 : Int32) = ii 2 from rfl, ii_eq (by omega) (by omega)]; omega), if_neg (show ¬ ii w = 3 by rw [show (3 : Int32) = ii 3 from rfl, ii_eq (by omega) (by omega)]; omega), if_neg (show ¬ ii w = 4 by rw [show (4 : Int32) = ii 4 from rfl, ii_eq (by omega) (by omega)]; omega), if_neg (show ¬ ii w = 5 by rw [show (5 : Int32) = ii 5 from rfl, ii_eq (by omega) (by omega)]; omega), if_neg (show ¬ ii w = 6 by rw [show (6 : Int32) = ii 6 from rfl, ii_eq (by omega) (by omega)]; omega), if_neg (show ¬ ii w = 7 by rw [show (7 : Int32) = ii 7 from rfl, ii_eq (by omega) (by omega)]; omega), if_neg (show ¬ ii w = 8 by rw [show (8 : Int32) = ii 8 from rfl, ii_eq (by omega) (by omega)]; omega), if_neg (show ¬ ii w = 9 by rw [show (9 : Int32) = ii 9 from rfl, ii_eq (by omega) (by omega)]; omega), if_neg (show ¬ ii w = 10 by rw [show (10 : Int32) = ii 10 from rfl, ii_eq (by omega) (by omega)]; omega), if_neg (show ¬ ii w = 11 by rw [show (11 : Int32) = ii 11 from rfl, ii_eq (by omega) (by omega)]; omega), if_neg (show ¬ ii w = 12 by rw [show (12 : Int32) = ii 12 from rfl, ii_eq (by omega) (by omega)]; omega), if_neg (show ¬ ii w = 13 by rw [show (13 : Int32) = ii 13 from rfl, ii_eq (by omega) (by omega)]; omega), if_neg (show ¬ w = 0 by omega), if_neg (show ¬ w = 1 by omega), if_neg (show ¬ w = 2 by omega), if_neg (show ¬ w = 3 by omega), if_neg (show ¬ w = 4 by omega), if_neg (show ¬ w = 5 by omega), if_neg (show ¬ w = 6 by omega), if_neg (show ¬ w = 7 by omega), if_neg (show ¬ w = 8 by omega), if_neg (show ¬ w = 9 by omega), if_neg (show ¬ w = 10 by omega), if_neg (show ¬ w = 11 by omega), if_neg (show ¬ w = 12 by omega), if_neg (show ¬ w = 13 by omega)]
      exact MG_ret h
  · rw [if_neg c, if_neg (show ¬ ¬ (0 : Int32) = 0 by decide), if_neg c]
    exact MG_ret h
