/-! DAYS -/
/-- a block's dryness behind n days -/
def gd (s : ZSt) (n : Int) (b : Nat) : Int := if s 136 b = 0 then s 137 b else min 99 (s 137 b + n * drs s b)
/-- the state behind n days -/
def goS (s : ZSt) (n : Int) : ZSt := fun p j => if p = 137 ∧ (j : Int) < s 133 0 then gd s n j else if p = 133 ∧ j = 1 then s 133 1 + n else s p j
theorem goS_137 {s : ZSt} {n : Int} {b : Nat} (h : (b : Int) < s 133 0) : goS s n 137 b = gd s n b := if_pos ⟨rfl, h⟩
theorem goS_d {s : ZSt} {n : Int} : goS s n 133 1 = s 133 1 + n := by
  unfold goS
  rw [if_neg (by omega), if_pos ⟨rfl, rfl⟩]
theorem goS_o {s : ZSt} {n : Int} {p j : Nat} (h1 : p ≠ 137) (h2 : ¬ (p = 133 ∧ j = 1)) : goS s n p j = s p j := by
  unfold goS
  rw [if_neg (fun q => h1 q.1), if_neg h2]
theorem goS_f {s : ZSt} {n : Int} {p : Nat} (h1 : p ≠ 137) (h2 : p ≠ 133) : goS s n p = s p := funext fun j => goS_o h1 (fun q => h2 q.1)
theorem goS_ah (s : ZSt) (n : Int) : AH s (goS s n) := ⟨fun q h1 h2 => goS_f (by omega) (by omega), goS_o (by omega) (by omega), goS_o (by omega) (by omega)⟩
theorem goS_dr (s : ZSt) (n : Int) (b : Nat) : drs (goS s n) b = drs s b := by
  unfold drs
  rw [(goS_ah s n).tm.2.2, goS_f (by omega) (by omega)]
theorem mul_b {a n d : Int} (hn : 0 ≤ n ∧ n ≤ a) (hd : 0 ≤ d ∧ d ≤ 99) : 0 ≤ n * d ∧ n * d ≤ a * 99 := ⟨Int.mul_nonneg hn.1 hd.1, Int.mul_le_mul hn.2 hd.2 hd.1 (by omega)⟩
theorem gd_b {s : ZSt} (hi : SIn s) (hh : SH s) {b : Nat} (hv : SBk s 0 b) {n : Int} (hn : 0 ≤ n ∧ n ≤ 60) : 0 ≤ gd s n b ∧ gd s n b ≤ 99 := by
  have d1 := hv.2.2.2.1
  simp only [Nat.add_zero] at d1
  have d2 := mul_b hn (drs_b hi hh (b := b))
  unfold gd
  split <;> omega
theorem goS_in {s : ZSt} (hi : SIn s) {n : Int} (hn : 0 ≤ n) (hd : s 133 1 + n ≤ 20000) : SIn (goS s n) := by
  obtain ⟨h0, h1, h2, h9, h10, h11, h38, h42, h43, h48, h69⟩ := hi
  unfold SIn
  rw [goS_d, goS_o (j := 0) (by omega) (by omega), goS_o (j := 2) (by omega) (by omega), goS_o (j := 9) (by omega) (by omega), goS_o (j := 10) (by omega) (by omega), goS_o (j := 11) (by omega) (by omega), goS_o (j := 38) (by omega) (by omega), goS_o (j := 42) (by omega) (by omega), goS_o (j := 43) (by omega) (by omega), goS_o (j := 48) (by omega) (by omega), goS_o (j := 69) (by omega) (by omega)]
  exact ⟨h0, by omega, h2, h9, h10, h11, h38, h42, h43, h48, h69⟩
theorem goS_ib {s : ZSt} (hi : SIn s) (hh : SH s) (hb : SIb s) {n : Int} (hn : 0 ≤ n ∧ n ≤ 60) : SIb (goS s n) := by
  intro b h
  rw [goS_o (j := 0) (by omega) (by omega)] at h
  have hv := hb b h
  have := gd_b hi hh hv hn
  unfold SBk at hv ⊢
  simp only [Nat.add_zero] at hv ⊢
  rw [goS_137 h, goS_f (p := 134) (by omega) (by omega), goS_f (p := 135) (by omega) (by omega), goS_f (p := 136) (by omega) (by omega), goS_f (p := 138) (by omega) (by omega), goS_f (p := 139) (by omega) (by omega)]
  exact ⟨hv.1, hv.2.1, hv.2.2.1, this, hv.2.2.2.2⟩
theorem goS_0 {s : ZSt} (hi : SIn s) (hb : SIb s) : goS s 0 = s := by
  refine up_ext fun p j => ?_
  by_cases c : p = 137 ∧ (j : Int) < s 133 0
  · obtain ⟨rfl, c⟩ := c
    have d1 := (hb j c).2.2.2.1
    simp only [Nat.add_zero] at d1
    rw [goS_137 c]
    unfold gd
    split
    · rfl
    · rw [Int.zero_mul]; omega
  · by_cases d : p = 133 ∧ j = 1
    · rw [d.1, d.2, goS_d]; omega
    · unfold goS
      rw [if_neg c, if_neg d]
theorem goS_1 {s : ZSt} (hi : SIn s) (hh : SH s) {n : Int} : goS (goS s n) 1 = goS s (n + 1) := by
  refine up_ext fun p j => ?_
  by_cases c : p = 137 ∧ (j : Int) < s 133 0
  · obtain ⟨rfl, c⟩ := c
    have c' : (j : Int) < goS s n 133 0 := by rw [goS_o (by omega) (by omega)]; exact c
    rw [goS_137 c', goS_137 c]
    unfold gd
    rw [goS_f (p := 136) (by omega) (by omega), goS_dr, goS_137 c]
    unfold gd
    have d := drs_b hi hh (b := j)
    by_cases g : s 136 j = 0
    · rw [if_pos g, if_pos g, if_pos g]
    · rw [if_neg g, if_neg g, if_neg g, Int.add_mul]
      omega
  · by_cases d : p = 133 ∧ j = 1
    · rw [d.1, d.2, goS_d, goS_d, goS_d]; omega
    · have e1 : goS s n 133 0 = s 133 0 := goS_o (by omega) (by omega)
      show (if p = 137 ∧ (j : Int) < goS s n 133 0 then gd (goS s n) 1 j else if p = 133 ∧ j = 1 then goS s n 133 1 + 1 else goS s n p j) = _
      rw [e1, if_neg c, if_neg d]
      unfold goS
      rw [if_neg c, if_neg d, if_neg c, if_neg d]
/-- the class's days of a yard -/
def FdY (y : Nat) (M M' : ZMem) : Prop := Ly M' ∧ (∀ p j, ¬ (p = y ∧ j = 3) → ¬ (∃ b, b < 6 ∧ p = y + 2 + 2 * b ∧ j = 4) → zI M' p j = zI M p j) ∧ (∀ p j, zL M' p j = zL M p j) ∧ ∀ p j, zR M' p j = zR M p j
theorem c92a {s : ZSt} {y : Nat} (hy : y = 22 ∨ y = 75) (hi : SIn s) (hh : SH s) (hb : SIb s) {n : Int} (hn : 0 ≤ n ∧ n ≤ 60) : ∀ (m z i : Nat) (M : ZMem), Ly M → (i : Int) + (m : Nat) = s 133 0 → m < z → zI M y 1 = ii (s 133 0) → zI M y 3 = ii (s 133 1) → (∀ b : Nat, (b : Int) < s 133 0 → zI M (y + 2 + 2 * b) 1 = ii (s 134 b) ∧ zI M (y + 2 + 2 * b) 3 = ii (s 136 b) ∧ zI M (y + 2 + 2 * b) 4 = ii (if b < i then gd s n b else s 137 b)) → ∃ M', f_92_2 z M y (ii n) (ii (wnd s)) (ii i) = some M' ∧ FdY y M M' ∧ zI M' y 3 = ii (s 133 1 + n) ∧ ∀ b : Nat, (b : Int) < s 133 0 → zI M' (y + 2 + 2 * b) 4 = ii (gd s n b) := by
  have h0 := hi.1
  have h1 := hi.2.1
  have hw := wnd_b hi hh
  have hym := AK.ymem hy
  intro m
  induction m with
  | zero =>
    intro z i M hL e hz e1 e3 hc
    obtain ⟨w, rfl⟩ : ∃ w, z = w + 1 := ⟨z - 1, by omega⟩
    have g1 : zgi M 10 1 y = some (ii (s 133 0)) := by rcases hy with rfl | rfl <;> simp only [cX hL, e1]
    have g3 : zgi M 10 3 y = some (ii (s 133 1)) := by rcases hy with rfl | rfl <;> simp only [cX hL, e3]
    have p3 : ∀ v, zpf M 10 3 y (.int v) false = some (zpI M y 3 v) := by intro v; rcases hy with rfl | rfl <;> simp only [cX hL]
    refine ⟨zpI M y 3 (ii (s 133 1 + n)), ?_, ⟨hL.p, fun p j q1 q2 => ?_, fun _ _ => rfl, fun _ _ => rfl⟩, zI_at, fun b hbb => ?_⟩
    · rw [f_92_2, g1, zb_some, if_pos (show ii (s 133 0) ≤ ii (i : Int) by rw [ii_le (by omega) (by omega)]; omega), g3, zb_some, ii_add, p3, zb_some]
    · rw [zI_pI, if_neg q1]
    · rw [zI_ne (by omega), (hc b hbb).2.2, if_pos (by omega)]
  | succ m ih =>
    intro z i M hL e hz e1 e3 hc
    obtain ⟨w, rfl⟩ : ∃ w, z = w + 1 := ⟨z - 1, by omega⟩
    have hi6 : i < 6 := by omega
    have hii : (i : Int) < s 133 0 := by omega
    have hv := hb i hii
    have v3 := hv.2.2.1
    have v4 := hv.2.2.2.1
    have v1 := hv.1
    simp only [Nat.add_zero] at v1 v3 v4
    obtain ⟨c1, c3, c4⟩ := hc i hii
    rw [if_neg (by omega)] at c4
    have g1 : zgi M 10 1 y = some (ii (s 133 0)) := by rcases hy with rfl | rfl <;> simp only [cX hL, e1]
    have g0 : zgr M 10 0 y = some (some (y + 1)) := by rcases hy with rfl | rfl <;> simp only [cX hL]
    have gl : zlaR M (y + 1) (ii (i : Int)) = some (some (y + 2 + 2 * i)) := by
      rcases hy with rfl | rfl
      · rw [zlaR_ii hL (by decide) (by omega) (by omega), Int.toNat_natCast]; rfl
      · rw [zlaR_ii hL (by decide) (by omega) (by omega), Int.toNat_natCast]; rfl
    have e57 := c57 hL hym hi6 v3 c3
    have B0 := cB hL hym hi6
    have ek : ii (i : Int) + 1 = ii ((i + 1 : Nat) : Int) := by rw [show (1 : Int32) = ii 1 from rfl, ii_add]; rfl
    have hd := drs_b hi hh (b := i)
    have e26 : f_26 M (some (y + 2 + 2 * i)) (ii (wnd s)) = some (ii (drs s i)) := by
      unfold f_26 drs
      simp only [B0, zb_some, c1]
      by_cases k5 : s 134 i = 5
      · rw [if_neg (show ¬ ¬ ii (s 134 i) = 5 by rw [k5]; decide), if_pos k5, show (2 : Int32) = ii 2 from rfl, ii_div (by omega) (by omega)]
      · rw [if_pos (show ¬ ii (s 134 i) = 5 by rw [show (5 : Int32) = ii 5 from rfl, ii_eq (by omega) (by omega)]; exact k5), if_neg k5]
    have hm := mul_b hn hd
    rw [f_92_2, g1, zb_some, if_neg (show ¬ ii (s 133 0) ≤ ii (i : Int) by rw [ii_le (by omega) (by omega)]; omega), g0, zb_some, zb_some, gl, zb_some, zb_some, e57, zb_some]
    unfold f_92_50
    by_cases g : s 136 i = 0
    · rw [bzT g, if_pos (show ¬ (1 : Int32) = 0 by decide), ek]
      refine ih w (i + 1) M hL (by omega) (by omega) e1 e3 (fun b hbb => ?_)
      obtain ⟨a1, a3, a4⟩ := hc b hbb
      refine ⟨a1, a3, ?_⟩
      by_cases q : b = i
      · subst q
        rw [c4, if_pos (by omega)]
        unfold gd
        rw [if_pos g]
      · rw [a4]
        by_cases q2 : b < i
        · rw [if_pos q2, if_pos (by omega)]
        · rw [if_neg q2, if_neg (by omega)]
    · have eg : gd s n i = min 99 (s 137 i + n * drs s i) := if_neg g
      rw [bzF g, if_neg (show ¬ ¬ (0 : Int32) = 0 by decide), B0.2.2.2.2.2.1, zb_some, c4, e26, zb_some, ii_mul, ii_add, show (99 : Int32) = ii 99 from rfl, c37i (by omega) (by omega), zb_some, B0.2.2.2.2.2.2.2.2.2.2.1, zb_some, ← eg, ek]
      obtain ⟨M', m1, ⟨m2, m3, m4, m5⟩, m6, m7⟩ := ih w (i + 1) (zpI M (y + 2 + 2 * i) 4 (ii (gd s n i))) hL.p (by omega) (by omega) ((zI_ne (by omega)).trans e1) ((zI_ne (by omega)).trans e3) (fun b hbb => by
        obtain ⟨a1, a3, a4⟩ := hc b hbb
        refine ⟨(zI_nk (by omega)).trans a1, (zI_nk (by omega)).trans a3, ?_⟩
        by_cases q : b = i
        · subst q
          rw [zI_at, if_pos (by omega)]
        · rw [zI_ne (by omega), a4]
          by_cases q2 : b < i
          · rw [if_pos q2, if_pos (by omega)]
          · rw [if_neg q2, if_neg (by omega)])
      refine ⟨M', m1, ⟨m2, fun p j q1 q2 => ?_, m4, m5⟩, m6, m7⟩
      rw [m3 p j q1 q2, zI_pI, if_neg]
      rintro ⟨rfl, rfl⟩
      exact q2 ⟨i, hi6, rfl, rfl⟩
theorem c92 {M : ZMem} {s : ZSt} {y : Nat} (hL : Ly M) (hy : y = 22 ∨ y = 75) (hi : SIn s) (hh : SH s) (hb : SIb s) (hR : RY M s y) {n : Int} (hn : 0 ≤ n ∧ n ≤ 60) : ∃ M', f_92 M y (ii n) (ii (wnd s)) = some M' ∧ FdY y M M' ∧ RY M' (goS s n) y := by
  have h0 := hi.1
  obtain ⟨M', m1, m2, m3, m4⟩ := c92a hy hi hh hb hn (s 133 0).toNat zF 0 M hL (by omega) (by unfold zF; omega) hR.1 hR.2.1 (fun b hbb => by
    obtain ⟨⟨b1, b2, b3, b4, b5⟩, b6⟩ := hR.2.2 b hbb
    exact ⟨b1, b3, by rw [if_neg (by omega)]; exact b4⟩)
  have f : ∀ p j, ¬ (p = y ∧ j = 3) → (j ≠ 4 ∨ p % 2 ≠ y % 2) → zI M' p j = zI M p j := fun p j q1 q2 => m2.2.1 p j q1 (fun ⟨b, _, q3, q4⟩ => by omega)
  refine ⟨M', ?_, m2, ?_, ?_, fun b hbb => ?_⟩
  · unfold f_92
    rw [if_pos (show zok M 10 y = true by rcases hy with rfl | rfl <;> simp only [cX hL])]
    exact m1
  · rw [f y 1 (by omega) (by omega), goS_o (by omega) (by omega)]; exact hR.1
  · rw [goS_d]; exact m3
  · rw [goS_o (by omega) (by omega)] at hbb
    obtain ⟨⟨b1, b2, b3, b4, b5⟩, b6⟩ := hR.2.2 b hbb
    simp only [Nat.add_zero] at b1 b2 b3 b4 b5 b6
    unfold YB Bk
    simp only [Nat.add_zero]
    rw [goS_137 hbb, goS_f (p := 134) (by omega) (by omega), goS_f (p := 135) (by omega) (by omega), goS_f (p := 136) (by omega) (by omega), goS_f (p := 138) (by omega) (by omega), goS_f (p := 139) (by omega) (by omega)]
    refine ⟨⟨?_, ?_, ?_, m4 b hbb, ?_⟩, fun r hr => ?_⟩
    · rw [f _ 1 (by omega) (by omega)]; exact b1
    · rw [f _ 2 (by omega) (by omega)]; exact b2
    · rw [f _ 3 (by omega) (by omega)]; exact b3
    · rw [f _ 5 (by omega) (by omega)]; exact b5
    · rw [f _ r (by omega) (by omega)]; exact b6 r hr
