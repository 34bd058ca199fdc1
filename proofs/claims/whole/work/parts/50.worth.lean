/-! WORTH; what a block of a yard is asked with -/
/-- the hill asked is the same -/
def AH (s s' : ZSt) : Prop := (∀ q, 141 ≤ q → q ≤ 146 → s' q = s q) ∧ s' 133 10 = s 133 10 ∧ s' 133 9 = s 133 9
theorem AH.rf (s : ZSt) : AH s s := ⟨fun _ _ _ => rfl, rfl, rfl⟩
theorem AH.tr {s s1 s2 : ZSt} (h : AH s s1) (h' : AH s1 s2) : AH s s2 := ⟨fun q a b => (h'.1 q a b).trans (h.1 q a b), h'.2.1.trans h.2.1, h'.2.2.trans h.2.2⟩
theorem AH.hc {s s' : ZSt} (h : AH s s') : hcl s' = hcl s ∧ hnm s' = hnm s := by
  unfold hcl hnm
  rw [h.2.1, h.1 141 (by omega) (by omega)]
  exact ⟨rfl, rfl⟩
theorem AH.ls {s s' : ZSt} (h : AH s s') (w x : Int) : zlst s' w (hcl s') (hnm s') x = zlst s w (hcl s) (hnm s) x := by
  rw [h.hc.1, h.hc.2]
  exact zlst_sf (h.1 142 (by omega) (by omega)) (h.1 143 (by omega) (by omega)) _ _ _ _
theorem AH.tm {s s' : ZSt} (h : AH s s') : thn s' = thn s ∧ mst s' = mst s ∧ wnd s' = wnd s := by
  have e : thn s' = thn s := by unfold thn; rw [h.ls]
  refine ⟨e, ?_, ?_⟩
  · unfold mst; rw [h.ls, e]
  · unfold wnd; rw [h.ls]
theorem AH.sh {s s' : ZSt} (h : AH s s') (hh : SH s) : SH s' := by
  intro k hk
  rw [h.2.2] at hk
  obtain ⟨h1, h2, h3⟩ := hh k hk
  rw [h.1 141 (by omega) (by omega)]
  refine ⟨h1, fun j hj => ?_, ?_⟩
  · have := h2 j hj
    unfold SHc sgl at this ⊢
    rw [h.1 142 (by omega) (by omega), h.1 143 (by omega) (by omega), h.1 144 (by omega) (by omega), h.1 145 (by omega) (by omega), h.1 146 (by omega) (by omega)]
    exact this
  · rw [zstl_sf (h.1 142 (by omega) (by omega)) (h.1 143 (by omega) (by omega)) (h.1 144 (by omega) (by omega)) (h.1 145 (by omega) (by omega)) (h.1 146 (by omega) (by omega))]
    exact h3
/-- a yard stands for a state -/
def RY (M : ZMem) (s : ZSt) (y : Nat) : Prop := zI M y 1 = ii (s 133 0) ∧ zI M y 3 = ii (s 133 1) ∧ ∀ b : Nat, (b : Int) < s 133 0 → YB M s y b
/-- all that asking wants: the state s, and s' that the yard stands for -/
def AK (M : ZMem) (s : ZSt) (l : Nat → Int64) (s' : ZSt) (y : Nat) : Prop := Ly M ∧ (RC M s l ∧ SI6 s ∧ SH s) ∧ (AH s s' ∧ SIn s' ∧ SIb s') ∧ (y = 22 ∨ y = 75) ∧ RY M s' y
/-- blows, values and the planner alone change -/
def Sv (M M' : ZMem) : Prop := Ly M' ∧ (∀ p, (p < 97 ∨ 105 < p) → ∀ j, zI M' p j = zI M p j) ∧ (∀ p j, zL M' p j = zL M p j) ∧ ∀ p j, zR M' p j = zR M p j
theorem Sv.rf {M : ZMem} (h : Ly M) : Sv M M := ⟨h, fun _ _ _ => rfl, fun _ _ => rfl, fun _ _ => rfl⟩
theorem Sv.tr {M M1 M2 : ZMem} (h : Sv M M1) (h' : Sv M1 M2) : Sv M M2 := ⟨h'.1, fun p hp j => (h'.2.1 p hp j).trans (h.2.1 p hp j), fun p j => (h'.2.2.1 p j).trans (h.2.2.1 p j), fun p j => (h'.2.2.2 p j).trans (h.2.2.2 p j)⟩
theorem Sv.pI {M M1 : ZMem} (h : Sv M M1) {p k : Nat} {v : Int32} (hp : 97 ≤ p ∧ p ≤ 105) : Sv M (zpI M1 p k v) := ⟨h.1.p, fun q hq j => (zI_ne (by omega)).trans (h.2.1 q hq j), h.2.2.1, h.2.2.2⟩
theorem Sv.sc {M M' : ZMem} (h : Sv M M') : Sc M M' := ⟨h.1, fun p hp j => h.2.1 p (by omega) j, fun b hb => h.2.1 _ (by omega) 0, h.2.2.1, h.2.2.2⟩
theorem Sv.bw {M M1 : ZMem} (h : Sv M M1) {o : Nat} (ho : o = 97 ∨ o = 99) {K g ln mk : Int} : Sv M (blwM M1 o K g ln mk) := (((h.pI (by omega)).pI (by omega)).pI (by omega)).pI (by omega)
theorem RY_sv {M M' : ZMem} {s : ZSt} {y : Nat} (h : RY M s y) (hy : y = 22 ∨ y = 75) (hn : s 133 0 ≤ 6) (hv : Sv M M') : RY M' s y := by
  refine ⟨(hv.2.1 y (by omega) 1).trans h.1, (hv.2.1 y (by omega) 3).trans h.2.1, fun b hb => ?_⟩
  have h1 := h.2.2 b hb
  unfold YB Bk at h1 ⊢
  simp only [hv.2.1 (y + 2 + 2 * b) (by omega), hv.2.1 (y + 2 + 2 * b + 1) (by omega)]
  exact h1
theorem AK.sv {M M' : ZMem} {s : ZSt} {l : Nat → Int64} {s' : ZSt} {y : Nat} (h : AK M s l s' y) (hv : Sv M M') : AK M' s l s' y := by
  obtain ⟨h1, ⟨h2, h3, h4⟩, h5, h6, h7⟩ := h
  exact ⟨hv.1, ⟨RC_sc h2 ⟨h3.1.1.2, h3.2, h3.1.2.2.2.1.2⟩ hv.sc, h3, h4⟩, h5, h6, RY_sv h7 h6 h5.2.1.1.2 hv⟩
theorem AK.ymem {y : Nat} (h : y = 22 ∨ y = 75) : y ∈ [22, 49, 75] := by
  rcases h with rfl | rfl <;> decide
/-- the yard that holds -/
theorem AK_now {M : ZMem} {s : ZSt} {l : Nat → Int64} (h : Ly M) (hc : RC M s l) (hi : SI6 s) (hh : SH s) (hb : SIb s) : AK M s l s 22 := by
  refine ⟨h, ⟨hc, hi, hh⟩, ⟨AH.rf s, hi.1, hb⟩, .inl rfl, hc.1.1.1, hc.1.1.2.2.1, fun b hb => ?_⟩
  have := hc.1.2.1 b hb
  unfold YB
  rw [show 22 + 2 + 2 * b = 24 + 2 * b by omega]
  exact this
def SGv {α : Type} (M : ZMem) (t : Option (α × ZMem)) (v : α) : Prop := ∃ M', t = some (v, M') ∧ Sv M M'
/-- worth of a piece, by four numbers -/
def wr5 (th mo fu ha t : Int) : Int := if t < th ∨ 2 * mo < t then 0 else if t ≤ mo then fu else ha
def wrt (s : ZSt) (b : Nat) (t : Int) : Int := wr5 (thn s) (mst s) (prc s b) (prc s b / 2) t
def VLo (M : ZMem) (th mo fu ha : Int) : Prop := zI M 98 3 = ii th ∧ zI M 98 4 = ii mo ∧ zI M 98 5 = ii fu ∧ zI M 98 6 = ii ha
theorem c33 {M : ZMem} (h : Ly M) {th mo fu ha t : Int} (hv : VLo M th mo fu ha) (ht : 0 ≤ t ∧ t ≤ 1000) (h1 : 0 ≤ th ∧ th ≤ 1000) (h2 : 0 ≤ mo ∧ mo ≤ 1000) : f_33 M 98 (ii t) = some (ii (wr5 th mo fu ha t)) := by
  obtain ⟨v1, v2, v3, v4⟩ := hv
  unfold f_33 wr5
  simp only [cV h, if_true, zb_some, v1, v2, v3, v4]
  rw [show (2 : Int32) = ii 2 from rfl, ii_mul]
  by_cases c1 : t < th
  · rw [if_pos (show ii t < ii th by rw [ii_lt (by omega) (by omega)]; exact c1), if_pos (.inl c1)]; rfl
  · rw [if_neg (show ¬ ii t < ii th by rw [ii_lt (by omega) (by omega)]; exact c1)]
    by_cases c2 : 2 * mo < t
    · rw [if_neg (show ¬ ii t ≤ ii (2 * mo) by rw [ii_le (by omega) (by omega)]; omega), if_pos (.inr c2)]; rfl
    · rw [if_pos (show ii t ≤ ii (2 * mo) by rw [ii_le (by omega) (by omega)]; omega), if_neg (show ¬ (t < th ∨ 2 * mo < t) by omega)]
      by_cases c3 : t ≤ mo
      · rw [if_neg (show ¬ ii mo < ii t by rw [ii_lt (by omega) (by omega)]; omega), if_pos c3]
      · rw [if_pos (show ii mo < ii t by rw [ii_lt (by omega) (by omega)]; omega), if_neg c3]
theorem wrt_b {s : ZSt} (hi : SIn s) (hh : SH s) (b : Nat) (t : Int) : 0 ≤ wrt s b t ∧ wrt s b t ≤ 1000 := by
  have := prc_b hi hh b
  unfold wrt wr5
  (repeat' split) <;> omega
/-- the class's values, set for a block -/
def vluM (M : ZMem) (s : ZSt) (b : Nat) : ZMem := zpI (zpI (zpI (zpI (blwM M 99 (s 134 b) (grp (s 134 b) (s 135 b) (s 137 b)) (lnn s b) (s 135 b + 1)) 98 3 (ii (thn s))) 98 4 (ii (mst s))) 98 5 (ii (prc s b))) 98 6 (ii (prc s b / 2))
theorem vlu_v {M : ZMem} {s : ZSt} {b : Nat} : VLo (vluM M s b) (thn s) (mst s) (prc s b) (prc s b / 2) ∧ BLo (vluM M s b) s 99 b := by
  unfold VLo BLo vluM blwM
  generalize thn s = a
  generalize mst s = b'
  generalize prc s b = c
  generalize grp (s 134 b) (s 135 b) (s 137 b) = d
  generalize lnn s b = e
  simp (disch := omega) only [zI_ne, zI_nk, zI_at, true_and, and_true, and_self]
theorem vlu_sv {M : ZMem} {s : ZSt} {b : Nat} (h : Ly M) : Sv M (vluM M s b) := (((((Sv.rf h).bw (.inr rfl)).pI (by omega)).pI (by omega)).pI (by omega)).pI (by omega)
theorem AK.bb {M : ZMem} {s : ZSt} {l : Nat → Int64} {s' : ZSt} {y : Nat} (h : AK M s l s' y) {b : Nat} (hb : (b : Int) < s' 133 0) : b < 6 ∧ SBk s' 0 b ∧ YB M s' y b ∧ (0 ≤ s' 133 1 ∧ s' 133 1 < 100000) := by
  have h0 := h.2.2.1.2.1.1
  have h1 := h.2.2.1.2.1.2.1
  exact ⟨by omega, h.2.2.1.2.2 b hb, h.2.2.2.2.2.2 b hb, by omega⟩
theorem c28 {M : ZMem} {s : ZSt} {l : Nat → Int64} {s' : ZSt} {y : Nat} (h : AK M s l s' y) {b : Nat} (hb : (b : Int) < s' 133 0) : f_28 M 98 (some (y + 2 + 2 * b)) (ii (s' 133 1)) (some (hpl s)) = some (vluM M s' b) := by
  obtain ⟨hb6, hv, hB, hd⟩ := h.bb hb
  have hym := AK.ymem h.2.2.2.1
  have B0 := fun (N : ZMem) (hN : Ly N) => cB hN hym hb6
  have e29 := c52 (o := 99) h.1 (.inr rfl) hym hb6 hB hv hd
  have hA := h.2.2.1.1
  have hp := prc_b h.2.2.1.2.1 (hA.sh h.2.1.2.2) b
  have A1 := h.sv ((Sv.rf h.1).bw (o := 99) (.inr rfl) (K := s' 134 b) (g := grp (s' 134 b) (s' 135 b) (s' 137 b)) (ln := lnn s' b) (mk := s' 135 b + 1))
  have A2 := A1.sv ((Sv.rf A1.1).pI (p := 98) (k := 3) (v := ii (thn s')) (by omega))
  have A3 := A2.sv ((Sv.rf A2.1).pI (p := 98) (k := 4) (v := ii (mst s')) (by omega))
  have A4 := A3.sv ((Sv.rf A3.1).pI (p := 98) (k := 5) (v := ii (prc s' b)) (by omega))
  have i6 := h.2.1.2.1.1
  have hh := h.2.1.2.2
  have e31 := c31 A1.1 A1.2.1.1 i6 hh
  have e32 := c32 A2.1 A2.2.1.1 i6 hh
  rw [← hA.tm.1] at e31
  rw [← hA.tm.2.1] at e32
  have e21 := c21 A3.1 A3.2.1.1 i6 hh (fun q hq => hA.1 q hq.1 hq.2) hA.2.1 h.2.2.1.2.1 (hA.sh hh) hym hb6 (A3.2.2.2.2.2.2 b hb) hv hd
  have w2 : zI M (y + 2 + 2 * b) 2 = ii (s' 135 b) := hB.1.2.1
  have w4 : zI M (y + 2 + 2 * b) 4 = ii (s' 137 b) := hB.1.2.2.2.1
  unfold f_28 vluM
  simp only [cV h.1, B0 M h.1, if_true, zb_some, w2, w4, e29, e31, cV A1.1, e32, cV A2.1, e21, cV A3.1, cV A4.1]
  rw [zI_at, show (2 : Int32) = ii 2 from rfl, ii_div (by omega) (by omega)]
theorem c58 {M : ZMem} {s : ZSt} {l : Nat → Int64} {s' : ZSt} {y : Nat} (h : AK M s l s' y) {b : Nat} (hb : (b : Int) < s' 133 0) : f_58 M 20 (some y) (some (y + 2 + 2 * b)) = some (ii (wrt s' b (s' 136 b)), vluM M s' b) := by
  obtain ⟨hb6, hv, hB, hd⟩ := h.bb hb
  have hym := AK.ymem h.2.2.2.1
  have hA := h.2.2.1.1
  have hh' := hA.sh h.2.1.2.2
  have t1 := thn_b h.2.2.1.2.1 hh'
  have t2 := mst_b h.2.2.1.2.1 hh'
  have v3 := hv.2.2.1
  simp only [Nat.add_zero] at v3
  have A1 := h.sv (vlu_sv (s := s') (b := b) h.1)
  have w3 : zI (vluM M s' b) (y + 2 + 2 * b) 3 = ii (s' 136 b) := (A1.2.2.2.2.2.2 b hb).1.2.2.1
  have yd : zgi M 10 3 y = some (ii (s' 133 1)) := by
    have e := h.2.2.2.2.2.1
    rcases h.2.2.2.1 with rfl | rfl
    · simp only [cX h.1, e]
    · simp only [cX h.1, e]
  have e20 := c20 h.1 h.2.1.1 h.2.1.2.1.1
  have e33 := c33 A1.1 vlu_v.1 (t := s' 136 b) (by omega) (by omega) (by omega)
  unfold f_58
  simp only [cX h.1, if_true, zb_some, yd, e20, c28 h hb, cX A1.1, cB A1.1 hym hb6, w3, e33]
  rfl
/-- the reference's worth -/
theorem c177 {M0 M : ZMem} {s : ZSt} (hM : MS M0 M s) (hi : SIn s) (hh : SH s) {b : Nat} (hb : b < 6) (hv : SBk s 0 b) (hd : 0 ≤ s 133 1 ∧ s 133 1 < 100000) {t : Int} (ht : 0 ≤ t ∧ t ≤ 1000) : MG M0 (f_177 M 133 (ii b) (ii t)) (ii (wrt s b t)) s := by
  have t1 := thn_b hi hh
  have t2 := mst_b hi hh
  have hp := prc_b hi hh b
  unfold f_177 wrt wr5
  rw [if_pos (zok_ly hM.1 k133), c178 hM.1 hM.2.2 hi hh, zb_some, c180 hM.1 hM.2.2 hi hh, zb_some, c147i hM.1 (by omega) (by omega) (by omega), zb_some]
  by_cases c1 : thn s ≤ t ∧ t ≤ mst s
  · rw [if_pos c1, if_neg (show ¬ (1 : Int32) = 0 by decide), if_neg (show ¬ (t < thn s ∨ 2 * mst s < t) by omega), if_pos c1.2]
    exact MG_bd (c168 hM hi hh hb hv hd) fun M1 h1 => MG_ret h1
  · rw [if_neg c1, if_pos (show (0 : Int32) = 0 from rfl), zb_some]
    by_cases c2 : t ≤ mst s
    · rw [if_pos (show ii t ≤ ii (mst s) by rw [ii_le (by omega) (by omega)]; exact c2), if_pos (show t < thn s ∨ 2 * mst s < t by omega)]
      exact MG_ret hM
    · rw [if_neg (show ¬ ii t ≤ ii (mst s) by rw [ii_le (by omega) (by omega)]; exact c2), zb_some, show (2 : Int32) = ii 2 from rfl, ii_mul]
      by_cases c3 : 2 * mst s < t
      · rw [if_pos (show ii (2 * mst s) < ii t by rw [ii_lt (by omega) (by omega)]; exact c3), if_pos (show t < thn s ∨ 2 * mst s < t by omega)]
        exact MG_ret hM
      · rw [if_neg (show ¬ ii (2 * mst s) < ii t by rw [ii_lt (by omega) (by omega)]; exact c3), if_neg (show ¬ (t < thn s ∨ 2 * mst s < t) by omega), if_neg c2]
        refine MG_bd (c168 hM hi hh hb hv hd) fun M1 h1 => ?_
        rw [ii_div (by omega) (by omega)]
        exact MG_ret h1
