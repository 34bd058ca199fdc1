/-! DAYS, the class's calls -/
def bsum (s : ZSt) : Nat → Int
  | 0 => 0
  | n + 1 => bsum s n + tB s n (thk s n)
def bAl (s : ZSt) : Int := bsum s (s 133 0).toNat
theorem bsum_b {s : ZSt} : ∀ n : Nat, (∀ b, b < n → RK s b) → 0 ≤ bsum s n ∧ bsum s n ≤ 60000 * (n : Int) := by
  intro n
  induction n with
  | zero => intro _; exact ⟨Int.le_refl _, Int.le_refl _⟩
  | succ n ih =>
    intro h
    have h1 := ih (fun b hb => h b (by omega))
    have hK := h n (by omega)
    have h2 := (hK.b hK.t.2).1
    rw [bsum]
    omega
theorem bAl_b {s : ZSt} (hi : SIn s) (hh : SH s) (hb : SIb s) : 0 ≤ bAl s ∧ bAl s ≤ 360000 := by
  have h0 := hi.1
  have := bsum_b (s := s) (s 133 0).toNat (fun b hb2 => RK_of hi hh hb (by omega))
  unfold bAl
  omega
theorem c89a {s : ZSt} {l : Nat → Int64} {s' : ZSt} {y : Nat} : ∀ (m z i : Nat) (M : ZMem), AK M s l s' y → (i : Int) + (m : Nat) = s' 133 0 → m < z → ∃ M', f_89_4 z M 20 (some y) (ii (bsum s' i)) (ii (i : Int)) = some (ii (bAl s'), M') ∧ Sv M M' := by
  intro m
  induction m with
  | zero =>
    intro z i M h e hz
    obtain ⟨w, rfl⟩ : ∃ w, z = w + 1 := ⟨z - 1, by omega⟩
    have h0 := h.2.2.1.2.1.1
    refine ⟨M, ?_, Sv.rf h.1⟩
    rw [f_89_4, zb_some, h.yd.2.1, zb_some, if_pos (show ii (s' 133 0) ≤ ii (i : Int) by rw [ii_le (by omega) (by omega)]; omega)]
    unfold bAl
    rw [show (s' 133 0).toNat = i by omega]
  | succ m ih =>
    intro z i M h e hz
    obtain ⟨w, rfl⟩ : ∃ w, z = w + 1 := ⟨z - 1, by omega⟩
    have h0 := h.2.2.1.2.1.1
    obtain ⟨M1, e1, v1⟩ := c90 h (b := i) (by omega)
    obtain ⟨M2, e2, v2⟩ := ih w (i + 1) M1 (h.sv v1) (by omega) (by omega)
    refine ⟨M2, ?_, v1.tr v2⟩
    rw [f_89_4, zb_some, h.yd.2.1, zb_some, if_neg (show ¬ ii (s' 133 0) ≤ ii (i : Int) by rw [ii_le (by omega) (by omega)]; omega), h.yd.2.2.1, zb_some, zb_some, cYl h.1 (AK.ymem h.2.2.2.1) (by omega), zb_some, e1, zbd_some, ii_add, ii_s1]
    exact e2
theorem c89 {M : ZMem} {s : ZSt} {l : Nat → Int64} {s' : ZSt} {y : Nat} (h : AK M s l s' y) : SGv M (f_89 M 20 (some y)) (ii (bAl s')) := by
  have h0 := h.2.2.1.2.1.1
  obtain ⟨M1, e1, v1⟩ := c89a (s' 133 0).toNat zF 0 M h (by omega) (by unfold zF; omega)
  refine ⟨M1, ?_, v1⟩
  unfold f_89
  rw [if_pos (cX h.1).1]
  exact e1
theorem FdY.sc {M M' : ZMem} (h : FdY 75 M M') : Sc M M' := ⟨h.1, fun p hp j => h.2.1 p j (by omega) (fun ⟨b, q1, q2, q3⟩ => by omega), fun b hb => h.2.1 _ _ (by omega) (fun ⟨c, q1, q2, q3⟩ => by omega), h.2.2.1, h.2.2.2⟩
theorem Fc.sc {M M' : ZMem} (h : Fc 75 M M') : Sc M M' := ⟨h.1, fun p hp j => h.2.1 p j (by omega), fun b hb => h.2.1 _ _ (by omega), h.2.2.1, h.2.2.2⟩
/-- the yard that holds, copied -/
theorem c95l {M0 M : ZMem} {s : ZSt} {l : Nat → Int64} (h : CS M0 M s l) (hV : IV s) : ∃ M', f_95 M 75 (some 22) = some M' ∧ CS M0 M' s l ∧ Sc M M' ∧ RY M' s 75 := by
  have h0 := hV.1.1.1.1
  obtain ⟨M1, m1, m2, m3, m4⟩ := c95 h.1 (y1 := 75) (y2 := 22) (by decide) (by decide) (by omega) (n := s 133 0) h0 h.2.2.1.1.1
  refine ⟨M1, m1, CS_sc h hV.1.1 m2.sc, m2.sc, ?_, ?_, fun b hb => ?_⟩
  · rw [m3 1 (by omega) (by omega)]; exact h.2.2.1.1.1
  · rw [m3 3 (by omega) (by omega)]; exact h.2.2.1.1.2.2.1
  · obtain ⟨⟨b1, b2, b3, b4, b5⟩, b6⟩ := h.2.2.1.2.1 b hb
    obtain ⟨q1, q2⟩ := m4 b hb
    rw [show 24 + 2 * b = 22 + 2 + 2 * b by omega] at b1 b2 b3 b4 b5 b6
    refine ⟨⟨(q1 1 (by omega) (by omega)).trans b1, (q1 2 (by omega) (by omega)).trans b2, (q1 3 (by omega) (by omega)).trans b3, (q1 4 (by omega) (by omega)).trans b4, (q1 5 (by omega) (by omega)).trans b5⟩, fun r hr => ?_⟩
    rw [show 75 + 2 + 2 * b + 1 = 75 + 3 + 2 * b by omega]
    refine (q2 r hr).trans ?_
    rw [show 22 + 3 + 2 * b = 22 + 2 + 2 * b + 1 by omega]
    exact b6 r hr
theorem gwnd {M : ZMem} {s : ZSt} {l : Nat → Int64} (h : Ly M) (hc : RC M s l) (hi : SIn s) : f_20 M 20 = some (some (hpl s)) ∧ zgi M 3 4 (hpl s) = some (ii (wnd s)) := by
  refine ⟨c20 h hc hi, ?_⟩
  have := (cH h (hpl_o hi)).2.2.2.2.1
  rw [this, (hpl_v hc hi).2.2.2.2]
  rfl
theorem c94 {M0 M : ZMem} {s : ZSt} {l : Nat → Int64} (h : CS M0 M s l) (hV : IV s) {n : Int} (hn : 0 ≤ n ∧ n ≤ 60) : ∃ M', f_94 M 20 (ii n) = some M' ∧ CS M0 M' s l ∧ AK M' s l (goS s n) 75 := by
  obtain ⟨M1, m1, m2, m3, m4⟩ := c95l h hV
  have hi := hV.1.1
  have hb := hV.1.2.2.1
  have hh := hV.1.2.2.2
  have hd := hV.1.2.1
  obtain ⟨M2, n1, n2, n3⟩ := c92 m2.1 (y := 75) (.inr rfl) hi.1 hh hb m4 hn
  have g := gwnd m2.1 m2.2.2 hi.1
  have C2 := CS_sc m2 hi n2.sc
  refine ⟨M2, ?_, C2, C2.1, ⟨C2.2.2, hi, hh⟩, ⟨goS_ah s n, goS_in hi.1 hn.1 (by omega), goS_ib hi.1 hh hb hn⟩, .inr rfl, n3⟩
  unfold f_94
  simp only [cX h.1, if_true, zb_some, m1, cX m2.1, g, n1]
/-- told -/
def sp88 (s : ZSt) (w : Int) : Int := if w = 0 then s 133 1 else if w = 1 then thn s else if w = 2 then mst s else if w = 3 then wnd s else if w = 4 then s 133 2 else if w = 5 then bAl s else -1
theorem CG_sv {M0 M : ZMem} {s : ZSt} {l : Nat → Int64} {α : Type} {t : Option (α × ZMem)} {v : α} (h : CS M0 M s l) (hi : SI6 s) (g : SGv M t v) : CG M0 t v s l := by
  obtain ⟨M', e, q⟩ := g
  exact CG_sg h hi ⟨M', e, q.sc⟩
theorem CG_a {M0 M : ZMem} {s : ZSt} {l : Nat → Int64} {α β : Type} {t : Option (β × ZMem)} {b : β} {v : α} {F : β → ZMem → Option (α × ZMem)} {s' : ZSt} {l' : Nat → Int64} (h : CS M0 M s l) (hi : SI6 s) (g : SGv M t b) (n : ∀ M1, Sv M M1 → CS M0 M1 s l → CG M0 (F b M1) v s' l') : CG M0 (zbd t F) v s' l' := by
  obtain ⟨M', e, q⟩ := g
  rw [e]
  exact n M' q (CS_sc h hi q.sc)
theorem m88 {M0 M : ZMem} {s : ZSt} {l : Nat → Int64} (h : CS M0 M s l) (hV : IV s) {w : Int} (hw : -2147483648 ≤ w ∧ w < 2147483648) : CG M0 (f_88 M 20 (ii w)) (ii (sp88 s w)) s l := by
  have hi := hV.1.1
  have hh := hV.1.2.2.2
  have hA := AK_now h.1 h.2.2 hi hh hV.1.2.2.1
  have g := gwnd h.1 h.2.2 hi.1
  have y := h.2.2.1.1
  have e1 := c31 h.1 h.2.2 hi.1 hh
  have e2 := c32 h.1 h.2.2 hi.1 hh
  unfold f_88 sp88
  simp only [cX h.1, if_true, zb_some, g, e1, e2, y.2.1, y.2.2.1, lits]
  simp (disch := omega) only [ii_eq]
  by_cases c0 : w = 0
  · simp only [if_pos c0]; exact CG_ret h
  · simp only [if_neg c0]
    by_cases c1 : w = 1
    · simp only [if_pos c1]; exact CG_ret h
    · simp only [if_neg c1]
      by_cases c2 : w = 2
      · simp only [if_pos c2]; exact CG_ret h
      · simp only [if_neg c2]
        by_cases c3 : w = 3
        · simp only [if_pos c3]; exact CG_ret h
        · simp only [if_neg c3]
          by_cases c4 : w = 4
          · simp only [if_pos c4]; exact CG_ret h
          · simp only [if_neg c4]
            by_cases c5 : w = 5
            · simp only [if_pos c5]
              exact CG_a h hi (c89 hA) fun M1 _ h1 => CG_ret h1
            · simp only [if_neg c5]; exact CG_ret h
/-- pass -/
def sp91 (s : ZSt) (n : Int) : Int × ZSt := if 0 ≤ n ∧ n ≤ 60 then (if s 133 1 + n ≤ 9999 then (s 133 1 + n, goS s n) else (-3, s)) else (-2, s)
theorem m91 {M0 M : ZMem} {s : ZSt} {l : Nat → Int64} (h : CS M0 M s l) (hV : IV s) {n : Int} (hn : -2147483648 ≤ n ∧ n < 2147483648) : CG M0 (f_91 M 20 (ii n)) (ii (sp91 s n).1) (sp91 s n).2 l := by
  have hi := hV.1.1
  have hh := hV.1.2.2.2
  have hb := hV.1.2.2.1
  have hd := hV.1.2.1
  have h0 := hi.1.1
  have h1 := hi.1.2.1
  have h9 := hi.1.2.2.2.1
  have hA := AK_now h.1 h.2.2 hi hh hb
  have g := gwnd h.1 h.2.2 hi.1
  have y := h.2.2.1.1
  unfold f_91 sp91
  rw [if_pos (cX h.1).1, show (0 : Int32) = ii 0 from rfl, show (60 : Int32) = ii 60 from rfl, c14z hn (by omega) (by omega), zb_some]
  by_cases c : 0 ≤ n ∧ n ≤ 60
  · rw [bzT c, if_pos (show ¬ (1 : Int32) = ii 0 by decide), if_pos c]
    obtain ⟨M2, n1, n2, n3⟩ := c92 h.1 (y := 22) (.inl rfl) hi.1 hh hb hA.2.2.2.2 c
    simp only [cX h.1, zb_some, y.2.2.1, g, n1, ii_add]
    by_cases d : s 133 1 + n ≤ 9999
    · rw [if_pos (show ii (s 133 1 + n) ≤ 9999 by rw [show (9999 : Int32) = ii 9999 from rfl, ii_le (by omega) (by omega)]; exact d), if_pos d]
      have e3 : zI M2 22 3 = ii (s 133 1 + n) := by rw [n3.2.1, goS_d]
      simp only [cX n2.1, zb_some, e3]
      have f : ∀ p j, ¬ (p = 22 ∧ j = 3) → (j ≠ 4 ∨ p % 2 = 1 ∨ p < 24 ∨ 34 < p) → zI M2 p j = zI M p j := fun p j q1 q2 => n2.2.1 p j q1 (fun ⟨b, _, q3, q4⟩ => by omega)
      refine ⟨M2, rfl, n2.1, fun p hp => ⟨fun j => ?_, fun j => ?_⟩, ?_⟩
      · rw [f p j (by omega) (by omega)]; exact (h.2.1 p hp).1 j
      · rw [n2.2.2.1]; exact (h.2.1 p hp).2 j
      · refine RC_yd h.2.2 ⟨h0.2, hi.2, h9.2⟩ (fun p p1 p2 => ⟨fun j => f p j (by omega) (by omega), fun j => n2.2.2.1 p j⟩) (fun b hb => f _ _ (by omega) (by omega)) (fun q hq => goS_f (by omega) (by omega)) (fun j hj => goS_o (by omega) (by omega)) ?_ ?_
        · refine ⟨n3.1, ?_, e3.trans (by rw [goS_d]), ?_⟩
          · rw [f _ _ (by omega) (by omega), goS_o (by omega) (by omega)]; exact y.2.1
          · rw [f _ _ (by omega) (by omega), goS_o (by omega) (by omega)]; exact y.2.2.2
        · intro b hb
          have := n3.2.2 b hb
          unfold YB at this
          rw [show 22 + 2 + 2 * b = 24 + 2 * b by omega] at this
          exact this
    · rw [if_neg (show ¬ ii (s 133 1 + n) ≤ 9999 by rw [show (9999 : Int32) = ii 9999 from rfl, ii_le (by omega) (by omega)]; exact d), if_neg d]
      exact CG_ret h
  · rw [bzF c, if_neg (show ¬ ¬ (0 : Int32) = ii 0 by decide), if_neg c]
    exact CG_ret h
/-- on -/
theorem ii_wr (a : Int) : ii a = ii (a + 4294967296) := by
  rw [← ii_add, show ii 4294967296 = 0 by decide, Int32.add_zero]
def sp93 (s : ZSt) (n w : Int) : Int := if w = 0 ∨ (10 ≤ w ∧ w < 10 + s 133 0) ∨ (20 ≤ w ∧ w < 20 + s 133 0) then (if 0 ≤ n ∧ n ≤ 60 then (if w = 0 then bAl (goS s n) else if w < 20 then goS s n 137 (w - 10).toNat else tB (goS s n) (w - 20).toNat (thk (goS s n) (w - 20).toNat)) else -2) else -1
theorem c93b {M0 M : ZMem} {s : ZSt} {l : Nat → Int64} (h : CS M0 M s l) (hV : IV s) {n w z : Int} (hn : -2147483648 ≤ n ∧ n < 2147483648) (hw : -2147483648 ≤ w ∧ w < 2147483648) (hz : (w = 0 ∧ z = -10) ∨ (w < 20 ∧ z = w - 10 ∧ 0 ≤ z ∧ z < s 133 0) ∨ (20 ≤ w ∧ z = w - 20 ∧ 0 ≤ z ∧ z < s 133 0)) : CG M0 (f_93_38 M 20 (ii n) (ii w) (ii z)) (ii (sp93 s n w)) s l := by
  have hi := hV.1.1
  have h0 := hi.1.1
  unfold f_93_38 sp93
  rw [if_pos (show w = 0 ∨ (10 ≤ w ∧ w < 10 + s 133 0) ∨ (20 ≤ w ∧ w < 20 + s 133 0) by omega), show (0 : Int32) = ii 0 from rfl, show (60 : Int32) = ii 60 from rfl, c14z hn (by omega) (by omega), zb_some]
  by_cases c : 0 ≤ n ∧ n ≤ 60
  · rw [bzT c, if_pos (show ¬ (1 : Int32) = ii 0 by decide), if_pos c]
    obtain ⟨M1, e1, C1, A1⟩ := c94 h hV c
    have y1 : zI M1 75 1 = ii (s 133 0) := by
      have := A1.2.2.2.2.1
      rw [goS_o (by omega) (by omega)] at this
      exact this
    rw [e1, zb_some]
    simp only [cX C1.1, zb_some]
    rw [c19 C1.1 (by decide) y1 h0 (by omega), zb_some]
    rcases hz with ⟨rfl, rfl⟩ | ⟨w1, rfl, w2, w3⟩ | ⟨w1, rfl, w2, w3⟩
    · rw [fnd_none (by omega), zcs_no, if_pos rfl]
      exact CG_a C1 hi (c89 A1) fun M2 _ h2 => CG_ret h2
    · obtain ⟨k, hk⟩ := Int.eq_ofNat_of_zero_le w2
      have hk' : (k : Int) < goS s n 133 0 := by rw [goS_o (by omega) (by omega)]; omega
      have B := cB C1.1 (show 75 ∈ [22, 49, 75] by decide) (A1.bb hk').1
      have e4 := (A1.bb hk').2.2.1.1.2.2.2.1
      simp only [Nat.add_zero] at e4
      rw [fnd_some ⟨w2, w3⟩, zcs_so _ _ _ (by omega), hk, Int.toNat_natCast, if_neg (show ¬ (20 : Int32) ≤ ii w by rw [show (20 : Int32) = ii 20 from rfl, ii_le (by omega) (by omega)]; omega), if_neg (by omega), if_pos w1, B.2.2.2.2.2.1, zb_some, e4]
      exact CG_ret C1
    · obtain ⟨k, hk⟩ := Int.eq_ofNat_of_zero_le w2
      have hk' : (k : Int) < goS s n 133 0 := by rw [goS_o (by omega) (by omega)]; omega
      rw [fnd_some ⟨w2, w3⟩, zcs_so _ _ _ (by omega), hk, Int.toNat_natCast, if_pos (show (20 : Int32) ≤ ii w by rw [show (20 : Int32) = ii 20 from rfl, ii_le (by omega) (by omega)]; omega), if_neg (by omega), if_neg (by omega)]
      exact CG_a C1 hi (c90 A1 hk') fun M2 _ h2 => CG_ret h2
  · rw [bzF c, if_neg (show ¬ ¬ (0 : Int32) = ii 0 by decide), if_neg c]
    exact CG_ret h
theorem c93a {M0 M : ZMem} {s : ZSt} {l : Nat → Int64} (h : CS M0 M s l) (hV : IV s) {n w z : Int} (hn : -2147483648 ≤ n ∧ n < 2147483648) (hw : -2147483648 ≤ w ∧ w < 2147483648) (hzr : -2147483648 ≤ z ∧ z < 2147483648) (hz : (20 ≤ w ∧ z = w - 20) ∨ (w < 20 ∧ (z = w - 10 ∨ (w < -1000 ∧ 1000 ≤ z)))) : CG M0 (f_93_17 M 20 (ii n) (ii w) (ii z)) (ii (sp93 s n w)) s l := by
  have h0 := hV.1.1.1.1
  unfold f_93_17
  by_cases c : w = 0
  · rw [if_pos (show ii w = 0 by rw [c]; rfl)]
    exact c93b h hV hn hw (by omega)
  · rw [if_neg (show ¬ ii w = 0 by rw [show (0 : Int32) = ii 0 from rfl, ii_eq (by omega) (by omega)]; exact c)]
    simp only [cX h.1, zb_some]
    rw [c19 h.1 (by decide) h.2.2.1.1.1 h0 hzr, zb_some]
    by_cases d : 0 ≤ z ∧ z < s 133 0
    · rw [fnd_some d, zcs_so _ _ _ (by omega)]
      exact c93b h hV hn hw (by omega)
    · rw [fnd_none d, zcs_no]
      unfold sp93
      rw [if_neg (by omega)]
      exact CG_ret h
theorem m93 {M0 M : ZMem} {s : ZSt} {l : Nat → Int64} (h : CS M0 M s l) (hV : IV s) {n w : Int} (hn : -2147483648 ≤ n ∧ n < 2147483648) (hw : -2147483648 ≤ w ∧ w < 2147483648) : CG M0 (f_93 M 20 (ii n) (ii w)) (ii (sp93 s n w)) s l := by
  unfold f_93
  rw [if_pos (cX h.1).1, show (20 : Int32) = ii 20 from rfl, show (10 : Int32) = ii 10 from rfl, ii_sub, ii_sub, it_le (by omega) hw]
  by_cases c : 20 ≤ w
  · rw [if_pos c]
    exact c93a h hV hn hw (by omega) (by omega)
  · rw [if_neg c]
    by_cases d : -2147483648 ≤ w - 10
    · exact c93a h hV hn hw (by omega) (by omega)
    · rw [ii_wr (w - 10)]
      exact c93a h hV hn hw (by omega) (by omega)
/-- lasts -/
def lst (s : ZSt) (q : Int) : Nat → Int
  | 0 => if q ≤ bAl (goS s ((0 : Nat) : Int)) then ((0 : Nat) : Int) else -5
  | n + 1 => if q ≤ bAl (goS s ((n + 1 : Nat) : Int)) then ((n + 1 : Nat) : Int) else lst s q n
def sp96 (s : ZSt) (q : Int) : Int := if 0 ≤ q ∧ q ≤ 99999 then lst s q 20 else -2
theorem goA_b {s : ZSt} (hV : IV s) {n : Int} (hn : 0 ≤ n ∧ n ≤ 60) : 0 ≤ bAl (goS s n) ∧ bAl (goS s n) ≤ 360000 := by
  have hd := hV.1.2.1
  exact bAl_b (goS_in hV.1.1.1 hn.1 (by omega)) ((goS_ah s n).sh hV.1.2.2.2) (goS_ib hV.1.1.1 hV.1.2.2.2 hV.1.2.2.1 hn)
theorem c96a {M0 : ZMem} {s : ZSt} {l : Nat → Int64} (hV : IV s) {q : Int} (hq : 0 ≤ q ∧ q ≤ 99999) : ∀ (n z : Nat) (M : ZMem), CS M0 M s l → n ≤ 20 → n + 1 < z → CG M0 (f_96_16 z M 20 (ii q) (ii (n : Int))) (ii (lst s q n)) s l := by
  intro n
  induction n with
  | zero =>
    intro z M h hn hz
    obtain ⟨w, rfl⟩ : ∃ w, z = w + 1 + 1 := ⟨z - 2, by omega⟩
    obtain ⟨M1, e1, C1, A1⟩ := c94 h hV (n := ((0 : Nat) : Int)) (by omega)
    have hB := goA_b hV (n := ((0 : Nat) : Int)) (by omega)
    rw [f_96_16, if_neg (show ¬ ii ((0 : Nat) : Int) < 0 by decide), e1, zb_some]
    simp only [cX C1.1, zb_some]
    refine CG_a C1 hV.1.1 (c89 A1) fun M2 _ h2 => ?_
    rw [it_lt (by omega) (by omega), lst]
    by_cases c : q ≤ bAl (goS s ((0 : Nat) : Int))
    · rw [if_neg (by omega), if_pos c]
      exact CG_ret h2
    · rw [if_pos (by omega), if_neg c, lm1, ii_add, f_96_16, if_pos (show ii (((0 : Nat) : Int) + -1) < 0 by decide)]
      exact CG_ret h2
  | succ n ih =>
    intro z M h hn hz
    obtain ⟨w, rfl⟩ : ∃ w, z = w + 1 := ⟨z - 1, by omega⟩
    obtain ⟨M1, e1, C1, A1⟩ := c94 h hV (n := ((n + 1 : Nat) : Int)) (by omega)
    have hB := goA_b hV (n := ((n + 1 : Nat) : Int)) (by omega)
    rw [f_96_16, if_neg (show ¬ ii ((n + 1 : Nat) : Int) < 0 by rw [show (0 : Int32) = ii 0 from rfl, ii_lt (by omega) (by omega)]; omega), e1, zb_some]
    simp only [cX C1.1, zb_some]
    refine CG_a C1 hV.1.1 (c89 A1) fun M2 _ h2 => ?_
    rw [it_lt (by omega) (by omega), lst]
    by_cases c : q ≤ bAl (goS s ((n + 1 : Nat) : Int))
    · rw [if_neg (by omega), if_pos c]
      exact CG_ret h2
    · rw [if_pos (by omega), if_neg c, lm1, ii_add, show ((n + 1 : Nat) : Int) + -1 = (n : Int) by omega]
      exact ih w M2 h2 (by omega) (by omega)
theorem m96 {M0 M : ZMem} {s : ZSt} {l : Nat → Int64} (h : CS M0 M s l) (hV : IV s) {q : Int} (hq : -2147483648 ≤ q ∧ q < 2147483648) : CG M0 (f_96 M 20 (ii q)) (ii (sp96 s q)) s l := by
  unfold f_96 sp96
  rw [if_pos (cX h.1).1, show (0 : Int32) = ii 0 from rfl, show (99999 : Int32) = ii 99999 from rfl, c14z hq (by omega) (by omega), zb_some]
  by_cases c : 0 ≤ q ∧ q ≤ 99999
  · rw [bzT c, if_pos (show ¬ (1 : Int32) = ii 0 by decide), if_pos c]
    exact c96a hV c 20 zF M h (by omega) (by unfold zF; omega)
  · rw [bzF c, if_neg (show ¬ ¬ (0 : Int32) = ii 0 by decide), if_neg c]
    exact CG_ret h
/-- loses, worst -/
def lo (s : ZSt) (b : Nat) : Int := tB s b (thk s b) - tB (goS s 1) b (thk (goS s 1) b)
theorem lo_b {s : ZSt} (hV : IV s) {b : Nat} (hb : (b : Int) < s 133 0) : -60000 ≤ lo s b ∧ lo s b ≤ 60000 := by
  have hd := hV.1.2.1
  have K1 := RK_of hV.1.1.1 hV.1.2.2.2 hV.1.2.2.1 hb
  have K2 := RK_of (goS_in hV.1.1.1 (n := 1) (by omega) (by omega)) ((goS_ah s 1).sh hV.1.2.2.2) (goS_ib hV.1.1.1 hV.1.2.2.2 hV.1.2.2.1 (n := 1) (by omega)) (n := b) (by rw [goS_o (by omega) (by omega)]; exact hb)
  have b1 := (K1.b K1.t.2).1
  have b2 := (K2.b K2.t.2).1
  unfold lo
  omega
theorem c105 {M0 M : ZMem} {s : ZSt} {l : Nat → Int64} (h : CS M0 M s l) (hV : IV s) {b : Nat} (hb : (b : Int) < s 133 0) : CG M0 (f_105 M 20 (some (22 + 2 + 2 * b))) (ii (lo s b)) s l := by
  have hi := hV.1.1
  have h0 := hi.1.1
  obtain ⟨M1, e1, C1, A1⟩ := c94 h hV (n := 1) (by omega)
  have y1 : zI M1 75 1 = ii (s 133 0) := by
    have := A1.2.2.2.2.1
    rw [goS_o (by omega) (by omega)] at this
    exact this
  have hk' : (b : Int) < goS s 1 133 0 := by rw [goS_o (by omega) (by omega)]; omega
  have nb := blk_nb C1.2.2.1.2.2 (show 22 ∈ [22, 49, 75] by decide) (b := b) (by omega)
  have B := cB C1.1 (show 22 ∈ [22, 49, 75] by decide) (b := b) (by omega)
  have e19 := c19 C1.1 (show 75 ∈ [22, 49, 75] by decide) y1 h0 (b := (b : Int)) (by omega)
  unfold f_105
  rw [if_pos (cX h.1).1, show (1 : Int32) = ii 1 from rfl, e1, zb_some]
  simp only [cX C1.1, zb_some, B, nb, e19]
  rw [fnd_some ⟨by omega, hb⟩, zcs_so _ _ _ (by omega), Int.toNat_natCast]
  refine CG_a C1 hi (c90 A1 hk') fun M2 v2 h2 => ?_
  unfold f_105_34
  simp only [cX h2.1, zb_some]
  refine CG_a h2 hi (c90 (AK_now h2.1 h2.2.2 hi hV.1.2.2.2 hV.1.2.2.1) hb) fun M3 v3 h3 => ?_
  rw [ii_sub]
  exact CG_ret h3
def sp104 (s : ZSt) (b : Int) : Int := if 0 ≤ b ∧ b < s 133 0 then lo s b.toNat else -1001
theorem m104 {M0 M : ZMem} {s : ZSt} {l : Nat → Int64} (h : CS M0 M s l) (hV : IV s) {b : Int} (hb : -2147483648 ≤ b ∧ b < 2147483648) : CG M0 (f_104 M 20 (ii b)) (ii (sp104 s b)) s l := by
  have h0 := hV.1.1.1.1
  unfold f_104 sp104
  simp only [cX h.1, if_true, zb_some]
  rw [c19 h.1 (by decide) h.2.2.1.1.1 h0 hb, zb_some]
  by_cases c : 0 ≤ b ∧ b < s 133 0
  · obtain ⟨n, rfl⟩ := Int.eq_ofNat_of_zero_le c.1
    rw [fnd_some c, zcs_so _ _ _ (by omega), if_pos c, Int.toNat_natCast]
    exact CG_bd (c105 h hV c.2) fun M1 h1 => CG_ret h1
  · rw [fnd_none c, zcs_no, if_neg c]
    exact CG_ret h
def wst (s : ZSt) : Nat → Int × Int
  | 0 => (-5, 0)
  | n + 1 => if s 136 n = 0 then wst s n else if (wst s n).1 < 0 ∨ (wst s n).2 < lo s n then ((n : Int), lo s n) else wst s n
theorem wst_b {s : ZSt} (hV : IV s) : ∀ n : Nat, (n : Int) ≤ s 133 0 → ((wst s n).1 = -5 ∨ (0 ≤ (wst s n).1 ∧ (wst s n).1 < 6)) ∧ -60000 ≤ (wst s n).2 ∧ (wst s n).2 ≤ 60000 := by
  have h0 := hV.1.1.1.1
  intro n
  induction n with
  | zero => intro _; exact ⟨.inl rfl, by show (-60000 : Int) ≤ 0; omega, by show (0 : Int) ≤ 60000; omega⟩
  | succ n ih =>
    intro h
    have h1 := ih (by omega)
    have h2 := lo_b hV (b := n) (by omega)
    rw [wst]
    split
    · exact h1
    · split
      · refine ⟨.inr ?_, h2⟩
        show 0 ≤ (n : Int) ∧ (n : Int) < 6
        omega
      · exact h1
theorem c106a {M0 : ZMem} {s : ZSt} {l : Nat → Int64} (hV : IV s) : ∀ (m z i : Nat) (M : ZMem), CS M0 M s l → (i : Int) + (m : Nat) = s 133 0 → m < z → CG M0 (f_106_7 z M 20 (ii (wst s i).1) (ii (wst s i).2) (ii (i : Int))) (ii (wst s (s 133 0).toNat).1) s l := by
  have hi := hV.1.1
  have h0 := hi.1.1
  intro m
  induction m with
  | zero =>
    intro z i M h e hz
    obtain ⟨w, rfl⟩ : ∃ w, z = w + 1 := ⟨z - 1, by omega⟩
    have y := h.2.2.1.1
    rw [f_106_7]
    simp only [cX h.1, zb_some, y.1]
    rw [if_pos (show ii (s 133 0) ≤ ii (i : Int) by rw [ii_le (by omega) (by omega)]; omega), show (s 133 0).toNat = i by omega]
    exact CG_ret h
  | succ m ih =>
    intro z i M h e hz
    obtain ⟨w, rfl⟩ : ∃ w, z = w + 1 := ⟨z - 1, by omega⟩
    have y := h.2.2.1.1
    have hib : (i : Int) < s 133 0 := by omega
    have hv := hV.1.2.2.1 i hib
    have v3 := hv.2.2.1
    simp only [Nat.add_zero] at v3
    have b3 := (h.2.2.1.2.1 i hib).1.2.2.1
    simp only [Nat.add_zero] at b3
    have wb := wst_b hV i (by omega)
    have lb := lo_b hV hib
    have el := cYl h.1 (y := 22) (by decide) (i := i) (by omega)
    have e57 := c57 h.1 (show 22 ∈ [22, 49, 75] by decide) (b := i) (by omega) v3 (by rw [show 22 + 2 + 2 * i = 24 + 2 * i by omega]; exact b3)
    rw [f_106_7]
    simp only [cX h.1, zb_some, y.1]
    rw [if_neg (show ¬ ii (s 133 0) ≤ ii (i : Int) by rw [ii_le (by omega) (by omega)]; omega), show (23 : Nat) = 22 + 1 from rfl, el, zb_some, zb_some, e57, zb_some]
    by_cases g : s 136 i = 0
    · rw [bzT g, if_pos (show ¬ (1 : Int32) = 0 by decide)]
      unfold f_106_68
      rw [ii_s1]
      have e1 : wst s (i + 1) = wst s i := by rw [wst, if_pos g]
      have := ih w (i + 1) M h (by omega) (by omega)
      rw [e1] at this
      exact this
    · rw [bzF g, if_neg (show ¬ ¬ (0 : Int32) = 0 by decide)]
      refine CG_bd (c105 h hV hib) fun M1 h1 => ?_
      have nx := ih w (i + 1) M1 h1 (by omega) (by omega)
      rw [wst, if_neg g] at nx
      unfold f_106_63 f_106_68
      rw [ii_s1]
      by_cases f1 : (wst s i).1 < 0
      · rw [if_pos (show ii (wst s i).1 = -5 by rw [show (wst s i).1 = -5 by omega]; decide)]
        rw [if_pos (.inl f1)] at nx
        exact nx
      · rw [if_neg (show ¬ ii (wst s i).1 = -5 by rw [show (-5 : Int32) = ii (-5) by decide, ii_eq (by omega) (by omega)]; omega)]
        by_cases f2 : (wst s i).2 < lo s i
        · rw [if_neg (show ¬ ii (lo s i) ≤ ii (wst s i).2 by rw [ii_le (by omega) (by omega)]; omega)]
          rw [if_pos (.inr f2)] at nx
          exact nx
        · rw [if_pos (show ii (lo s i) ≤ ii (wst s i).2 by rw [ii_le (by omega) (by omega)]; omega)]
          rw [if_neg (by omega)] at nx
          exact nx
def sp106 (s : ZSt) : Int := (wst s (s 133 0).toNat).1
theorem m106 {M0 M : ZMem} {s : ZSt} {l : Nat → Int64} (h : CS M0 M s l) (hV : IV s) : CG M0 (f_106 M 20) (ii (sp106 s)) s l := by
  have h0 := hV.1.1.1.1
  unfold f_106 sp106
  rw [if_pos (cX h.1).1]
  exact c106a hV (s 133 0).toNat zF 0 M h (by omega) (by unfold zF; omega)
