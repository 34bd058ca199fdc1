/-! TAPES -/
def SIt (s : ZSt) : Prop := ∀ t : Nat, t < 6 → (-1 ≤ s 180 t ∧ s 180 t ≤ 4) ∧ (0 ≤ s 181 t ∧ s 181 t ≤ 60) ∧ (s 180 t < 0 → s 181 t = 0)
def RML (M : ZMem) (l : Nat → Int64) : Prop := ∀ j, j < 360 → zL M 182 j = l j
theorem gtps {M : ZMem} (h : Ly M) : zgr M 11 14 20 = some (some 108) := gR h k20 (by decide) (by decide +kernel)
theorem gtp {M : ZMem} (h : Ly M) {t : Int} (ht : 0 ≤ t ∧ t ≤ 5) : zlaR M 108 (ii t) = some (some (121 + 2 * t.toNat)) := by
  have hi : (ii t).toInt = t := ii_toInt (by omega)
  rw [zlaR_ly h (by decide) (by omega), hi]
  rfl
theorem kT : ∀ t, t < 6 → zokT 8 (121 + 2 * t) = true ∧ zRm (121 + 2 * t) 0 = some (122 + 2 * t) ∧ zSh.getD (122 + 2 * t) (0, 0) = (23, 60) := by decide +kernel
theorem c220 {M : ZMem} (h : Ly M) {t : Int} (ht : -2147483648 ≤ t ∧ t < 2147483648) : f_220 M 133 (ii t) = some (if 0 ≤ t ∧ t ≤ 5 then 1 else 0) := by
  unfold f_220
  rw [if_pos (zok_ly h k133), show (0 : Int32) = ii 0 from rfl, show (5 : Int32) = ii 5 from rfl, c147i h ht (by omega) (by omega), zb_some, nb01, if_pos rfl]; rfl
/-- read -/
theorem q34 {M : ZMem} {s : ZSt} {l : Nat → Int64} (h : Ly M) (hc : RC M s l) (hm : RM M s) (hl : RML M l) (ht' : SIt s) {t i : Int} (ht : -2147483648 ≤ t ∧ t < 2147483648) (hi : -2147483648 ≤ i ∧ i < 2147483648) : ∃ v, f_143 M 20 (ii t) (ii i) = some v ∧ f_238 M 133 (ii t) (ii i) = some v := by
  unfold f_143 f_238
  rw [if_pos (zok_ly h k20), if_pos (zok_ly h k133), c220 h ht, zb_some, show (0 : Int32) = ii 0 from rfl, show (5 : Int32) = ii 5 from rfl, c14i ht (by omega) (by omega), zb_some]
  by_cases c1 : 0 ≤ t ∧ t ≤ 5
  · simp only [if_pos c1]
    obtain ⟨a1, a2, a3⟩ := ht' t.toNat (by omega)
    obtain ⟨b1, b2, b3⟩ := hc.2.2.2.2.2.2 t.toNat (by omega)
    obtain ⟨d1, d2, d3⟩ := kT t.toNat (by omega)
    have hti : (ii t).toInt = t := ii_toInt ht
    have hii : (ii i).toInt = i := ii_toInt hi
    have n1 : ¬ ii 1 = ii 0 := by decide
    have z1 : zai M 180 (ii t) = some (ii (s 180 t.toNat)) := by rw [zai_ly h (n := 6) (p := 180) (by omega) (by decide) (by omega), hti, hm 180 _ rfl]
    have z2 : zai M 181 (ii t) = some (ii (s 181 t.toNat)) := by rw [zai_ly h (n := 6) (p := 181) (by omega) (by decide) (by omega), hti, hm 181 _ rfl]
    have w1 := c14i (M := M) (a := i) (b := 0) (c := s 181 t.toNat - 1) hi (by omega) (by omega)
    have w2 := c147i h (a := i) (b := 0) (c := s 181 t.toNat - 1) hi (by omega) (by omega)
    simp only [gtps h, gtp h c1, zb_some, gI h d1 (show zfk 8 2 0 = true by decide), b2, show (1 : Int32) = ii 1 from rfl, ii_sub, w1, w2, gR h k133 (j := 71) (by decide) (show zRm 133 71 = some 180 by decide +kernel), gR h k133 (j := 72) (by decide) (show zRm 133 72 = some 181 by decide +kernel), z1, z2, if_neg n1]
    by_cases c2 : 0 ≤ i ∧ i ≤ s 181 t.toNat - 1
    · have c3 : ¬ ii (s 180 t.toNat) < ii 0 := by rw [ii_lt (by omega) (by omega)]; omega
      have e60 : (60 : Int32) * ii t + ii i = ii (60 * t + i) := by rw [show (60 : Int32) = ii 60 from rfl, ii_mul, ii_add]
      have z3 : zlaL M (122 + 2 * t.toNat) (ii i) = some (l (60 * t.toNat + i.toNat)) := by rw [zlaL_ly h (by omega) d3 (by omega), hii, b3 (by omega) i.toNat (by omega)]
      have z4 : zlaL M 182 (ii (60 * t + i)) = some (l (60 * t.toNat + i.toNat)) := by
        rw [zlaL_ly h (n := 360) (p := 182) (by omega) (by decide) (by rw [ii_toInt (by omega)]; omega), ii_toInt (by omega), hl _ (by omega), show (60 * t + i).toNat = 60 * t.toNat + i.toNat by omega]
      simp only [if_pos c2, if_neg c3, n1, not_false_eq_true, if_true, gR h d1 (show zfk 8 0 2 = true by decide) d2, zb_some, z3, gR h k133 (j := 73) (by decide) (show zRm 133 73 = some 182 by decide +kernel), e60, z4]
      exact ⟨_, rfl, rfl⟩
    · simp only [if_neg c2]
      by_cases c3 : ii (s 180 t.toNat) < ii 0
      · rw [if_pos c3]; exact ⟨_, rfl, rfl⟩
      · rw [if_neg c3]; exact ⟨_, rfl, rfl⟩
  · simp only [if_neg c1]
    exact ⟨_, rfl, rfl⟩
/-! LOOKED, JUDGE -/
def SIk (s : ZSt) : Prop := ∀ k : Nat, (k : Int) < s 133 43 → (0 ≤ s 164 k ∧ s 164 k < s 133 0) ∧ 0 ≤ s 165 k ∧ s 165 k ≤ 60
/-- a row of the state, read -/
theorem rM {M : ZMem} {s : ZSt} (h : Ly M) (hm : RM M s) {P n : Nat} {b : Int} (hP : zrw P n = true) (hz : ∀ j, zst P j = true) (hb : 0 ≤ b ∧ b < n) (hn : n ≤ 1000) : zai M P (ii b) = some (ii (s P b.toNat)) := rA (M0 := M) ⟨h, Dn.rf M, hm⟩ hP hz hb hn
theorem rPm {M : ZMem} (h : Ly M) {j P : Nat} (hj : zfk 12 j 2 = true) (hz : zRm 133 j = some P) : zgr M 12 j 133 = some (some P) := gR h k133 hj hz
theorem q24a {M : ZMem} {s : ZSt} {l : Nat → Int64} (h : Ly M) (hc : RC M s l) (hm : RM M s) (hi : SIn s) (hb' : SIb s) (hk : SIk s) : ∀ (z k : Nat), s 133 43 < z + k → (k : Int) ≤ s 133 43 → ∃ v, f_121_2 z M 20 (ii k) = some v ∧ f_218_2 z M 133 (ii k) = some v := by
  have hn := hi
  unfold SIn at hn
  obtain ⟨e1, e2⟩ := hc.2.1.2.2
  intro z
  induction z with
  | zero => intro k h1 h2; omega
  | succ z ih =>
    intro k h1 h2
    rw [f_121_2, f_218_2]
    simp only [gnow h, gyd h, gbook h, zb_some, gI h k44 (show zfk 6 4 0 = true by decide), e1, g133 h hm (j := 43) (by decide) rfl]
    by_cases c1 : s 133 43 ≤ k
    · have c2 : ii (s 133 43) ≤ ii k := by rw [ii_le (by omega) (by omega)]; exact c1
      simp only [if_pos c2]
      exact ⟨_, rfl, rfl⟩
    · have c2 : ¬ ii (s 133 43) ≤ ii k := by rw [ii_le (by omega) (by omega)]; exact c1
      obtain ⟨b1, b2⟩ := e2 k (by omega)
      obtain ⟨d1, d2⟩ := hk k (by omega)
      have ki : (ii k).toInt = k := ii_toInt (by omega)
      have hv := (hb' (s 164 k).toNat (by omega)).2.2.1
      have hw := (hc.1.2.1 (s 164 k).toNat (by omega)).1.2.2.1
      simp only [Nat.add_zero] at hv hw
      have x1 : zai M 45 (ii k) = some (ii (s 164 k)) := by rw [zai_ly h (n := 8) (p := 45) (by omega) (by decide) (by omega), ki, Int.toNat_natCast, b1]
      have x2 : zai M 46 (ii k) = some (ii (s 165 k)) := by rw [zai_ly h (n := 8) (p := 46) (by omega) (by decide) (by omega), ki, Int.toNat_natCast, b2]
      have x3 := rM h hm (P := 164) (n := 8) (b := k) (by decide) (fun _ => rfl) (by omega) (by omega)
      have x4 := rM h hm (P := 165) (n := 8) (b := k) (by decide) (fun _ => rfl) (by omega) (by omega)
      have x5 := rM h hm (P := 136) (n := 6) (b := s 164 k) (by decide) (fun _ => rfl) (by omega) (by omega)
      rw [Int.toNat_natCast] at x3 x4
      have x6 := c19 h (y := 22) (by decide) hc.1.1.1 hn.1 (b := s 164 k) (by omega)
      rw [fnd_some d1, show 22 + 2 + 2 * (s 164 k).toNat = 24 + 2 * (s 164 k).toNat by omega] at x6
      have x7 : zgi M 1 3 (24 + 2 * (s 164 k).toNat) = some (ii (s 136 (s 164 k).toNat)) := (gI h (kBn (by omega)) (by decide)).trans (congrArg some hw)
      have n18 : ∀ (a : Option Int32) (f : Nat → Option Int32), zcs (some (24 + 2 * (s 164 k).toNat)) a f = f (24 + 2 * (s 164 k).toNat) := fun a f => zcs_so _ _ _ (by omega)
      simp only [if_neg c2, gR h k44 (show zfk 6 1 2 = true by decide) (show zRm 44 1 = some 45 by decide +kernel), gR h k44 (show zfk 6 2 2 = true by decide) (show zRm 44 2 = some 46 by decide +kernel), zb_some, x1, x2, x6, n18, x7, rPm h (j := 5) (by decide) (show zRm 133 5 = some 136 by decide +kernel), rPm h (j := 46) (by decide) (show zRm 133 46 = some 164 by decide +kernel), rPm h (j := 47) (by decide) (show zRm 133 47 = some 165 by decide +kernel), x3, x4, x5]
      by_cases c5 : ii (s 136 (s 164 k).toNat) = ii (s 165 k)
      · simp only [if_pos c5]
        rw [show (1 : Int32) = ii 1 from rfl, ii_add, show ((k : Int) + 1) = ((k + 1 : Nat) : Int) by omega]
        exact ih (k + 1) (by omega) (by omega)
      · simp only [if_neg c5]
        exact ⟨_, rfl, rfl⟩
theorem q24 {M : ZMem} {s : ZSt} {l : Nat → Int64} (h : Ly M) (hc : RC M s l) (hm : RM M s) (hi : SIn s) (hb' : SIb s) (hk : SIk s) : ∃ v, f_121 M 20 = some v ∧ f_218 M 133 = some v := by
  have hn := hi
  unfold SIn at hn
  unfold f_121 f_218
  rw [if_pos (zok_ly h k20), if_pos (zok_ly h k133)]
  exact q24a h hc hm hi hb' hk zF 0 (by unfold zF; omega) (by omega)
theorem q25a {M : ZMem} {s : ZSt} {l : Nat → Int64} (h : Ly M) (hc : RC M s l) (hm : RM M s) (hl : RML M l) (hi : SIn s) (ht' : SIt s) {t i : Int} (ht : 0 ≤ t ∧ t ≤ 5) (hir : -2147483648 ≤ i ∧ i < 2147483648) : ∀ (z k : Nat), s 133 0 < z + k → (k : Int) ≤ s 133 0 → ∃ v, f_122_38 z M 20 (ii i) (some (121 + 2 * t.toNat)) (ii k) = some v ∧ f_219_24 z M 133 (ii t) (ii i) (ii k) = some v := by
  have hn := hi
  unfold SIn at hn
  obtain ⟨a1, a2, a3⟩ := ht' t.toNat (by omega)
  obtain ⟨b1, b2, b3⟩ := hc.2.2.2.2.2.2 t.toNat (by omega)
  obtain ⟨d1, d2, d3⟩ := kT t.toNat (by omega)
  have y1 := rM h hm (P := 180) (n := 6) (b := t) (by decide) (fun _ => rfl) (by omega) (by omega)
  have y2 := rM h hm (P := 181) (n := 6) (b := t) (by decide) (fun _ => rfl) (by omega) (by omega)
  intro z
  induction z with
  | zero => intro k h1 h2; omega
  | succ z ih =>
    intro k h1 h2
    rw [f_122_38, f_219_24]
    have l0' : (0 : Int32) = ii 0 := rfl
    have l1' : (1 : Int32) = ii 1 := rfl
    simp only [gnow h, gyd h, zb_some, gI h k22 (show zfk 10 1 0 = true by decide), hc.1.1.1, g133 h hm (j := 0) (by decide) rfl, l0', l1', gI h d1 (show zfk 8 2 0 = true by decide), b2, ii_sub, rPm h (j := 71) (by decide) (show zRm 133 71 = some 180 by decide +kernel), rPm h (j := 72) (by decide) (show zRm 133 72 = some 181 by decide +kernel), y1, y2]
    by_cases c1 : s 133 0 ≤ k
    · have c2 : ii (s 133 0) ≤ ii k := by rw [ii_le (by omega) (by omega)]; exact c1
      simp only [if_pos c2]
      exact ⟨_, rfl, rfl⟩
    · have c2 : ¬ ii (s 133 0) ≤ ii k := by rw [ii_le (by omega) (by omega)]; exact c1
      simp only [if_neg c2]
      by_cases c3 : i < 0
      · have c4 : ii i < ii 0 := by rw [ii_lt hir (by omega)]; exact c3
        simp only [if_pos c4]
        refine ⟨_, rfl, ?_⟩
        split <;> rfl
      · have c4 : ¬ ii i < ii 0 := by rw [ii_lt hir (by omega)]; exact c3
        simp only [if_neg c4]
        by_cases c5 : i < s 181 t.toNat - k
        · have c6 : ii i < ii (s 181 t.toNat - k) := by rw [ii_lt hir (by omega)]; exact c5
          have c7 : ¬ ii (s 180 t.toNat) < ii 0 := by rw [ii_lt (by omega) (by omega)]; omega
          have c8 : ii i ≤ ii (s 181 t.toNat - k - 1) := by rw [ii_le hir (by omega)]; omega
          have hw := (hc.1.2.1 k (by omega)).1.2.2.1
          simp only [Nat.add_zero] at hw
          have e60 : (60 : Int32) * ii t + ii i + ii k = ii (60 * t + i + k) := by rw [show (60 : Int32) = ii 60 from rfl, ii_mul, ii_add, ii_add]
          have z3 : zlaL M (122 + 2 * t.toNat) (ii (i + k)) = some (l (60 * t.toNat + (i + k).toNat)) := by rw [zlaL_ly h (by omega) d3 (by rw [ii_toInt (by omega)]; omega), ii_toInt (by omega), b3 (by omega) (i + k).toNat (by omega)]
          have z4 : zlaL M 182 (ii (60 * t + i + k)) = some (l (60 * t.toNat + (i + k).toNat)) := by
            rw [zlaL_ly h (n := 360) (p := 182) (by omega) (by decide) (by rw [ii_toInt (by omega)]; omega), ii_toInt (by omega), hl _ (by omega), show (60 * t + i + k).toNat = 60 * t.toNat + (i + k).toNat by omega]
          have z5 : zlaR M 23 (ii k) = some (some (24 + 2 * k)) := by rw [zlaR_ly h (by decide) (by rw [ii_toInt (by omega)]; omega), ii_toInt (by omega)]; rfl
          have x5 := rM h hm (P := 136) (n := 6) (b := k) (by decide) (fun _ => rfl) (by omega) (by omega)
          rw [Int.toNat_natCast] at x5
          simp only [if_pos c6, if_neg c7, if_pos c8, gR h d1 (show zfk 8 0 2 = true by decide) d2, zb_some, ii_add, z3, gR h k22 (show zfk 10 0 2 = true by decide) (show zRm 22 0 = some 23 by decide +kernel), z5, gI h (kBn (show k < 6 by omega)) (show zfk 1 3 0 = true by decide), hw, rPm h (j := 73) (by decide) (show zRm 133 73 = some 182 by decide +kernel), rPm h (j := 5) (by decide) (show zRm 133 5 = some 136 by decide +kernel), show (60 : Int32) = ii 60 from rfl, ii_mul, z4, x5]
          by_cases c9 : lg_cmp (l (60 * t.toNat + (i + k).toNat)) (Int32.toInt64 (ii (s 136 k))) = ii 0
          · simp only [if_pos c9]
            rw [show ((k : Int) + 1) = ((k + 1 : Nat) : Int) by omega]
            exact ih (k + 1) (by omega) (by omega)
          · simp only [if_neg c9]
            exact ⟨_, rfl, rfl⟩
        · have c6 : ¬ ii i < ii (s 181 t.toNat - k) := by rw [ii_lt hir (by omega)]; exact c5
          have c8 : ¬ ii i ≤ ii (s 181 t.toNat - k - 1) := by rw [ii_le hir (by omega)]; omega
          simp only [if_neg c6, if_neg c8]
          refine ⟨_, rfl, ?_⟩
          split <;> rfl
theorem c123 {M : ZMem} (h : Ly M) {t : Nat} {x : Int} (ht : t < 6) (hx : zI M (121 + 2 * t) 1 = ii x) (hr : -2147483648 ≤ x ∧ x < 2147483648) : f_123 M (121 + 2 * t) = some (if 0 ≤ x then 0 else 1) := by
  unfold f_123
  rw [if_pos (zok_ly h (kT t ht).1), gI h (kT t ht).1 (by decide), zb_some, hx, show (0 : Int32) = ii 0 from rfl]
  by_cases c : 0 ≤ x
  · rw [if_pos (by rw [ii_le (by omega) hr]; exact c), if_pos c]
  · rw [if_neg (by rw [ii_le (by omega) hr]; exact c), if_neg c]
/-- judge -/
theorem q25 {M : ZMem} {s : ZSt} {l : Nat → Int64} (h : Ly M) (hc : RC M s l) (hm : RM M s) (hl : RML M l) (hi : SIn s) (ht' : SIt s) {t i : Int} (ht : -2147483648 ≤ t ∧ t < 2147483648) (hir : -2147483648 ≤ i ∧ i < 2147483648) : ∃ v, f_122 M 20 (ii t) (ii i) = some v ∧ f_219 M 133 (ii t) (ii i) = some v := by
  have hn := hi
  unfold SIn at hn
  unfold f_122 f_219
  rw [if_pos (zok_ly h k20), if_pos (zok_ly h k133), c220 h ht, zb_some, show (0 : Int32) = ii 0 from rfl, show (5 : Int32) = ii 5 from rfl, c14i ht (by omega) (by omega), zb_some]
  by_cases c1 : 0 ≤ t ∧ t ≤ 5
  · obtain ⟨a1, a2, a3⟩ := ht' t.toNat (by omega)
    obtain ⟨b1, b2, b3⟩ := hc.2.2.2.2.2.2 t.toNat (by omega)
    obtain ⟨d1, d2, d3⟩ := kT t.toNat (by omega)
    have y1 := rM h hm (P := 180) (n := 6) (b := t) (by decide) (fun _ => rfl) (by omega) (by omega)
    have n1 : ¬ (1 : Int32) = ii 0 := by decide
    have key := q25a h hc hm hl hi ht' c1 hir zF 0 (by unfold zF; omega) (by omega)
    simp only [if_pos c1, if_pos n1, gtps h, gtp h c1, zb_some, c123 h (show t.toNat < 6 by omega) b1 (by omega), gI h d1 (show zfk 8 1 0 = true by decide), b1, rPm h (j := 71) (by decide) (show zRm 133 71 = some 180 by decide +kernel), y1]
    unfold f_122_35
    by_cases c2 : s 180 t.toNat ≤ 0
    · have c3 : ii (s 180 t.toNat) ≤ ii 0 := by rw [ii_le (by omega) (by omega)]; exact c2
      simp only [if_pos c3]
      by_cases c4 : 0 ≤ s 180 t.toNat
      · have c5 : ii (s 180 t.toNat) = ii 0 := by rw [show s 180 t.toNat = 0 by omega]
        have c6 : ¬ ¬ (0 : Int32) = ii 0 := fun q => q rfl
        rw [if_pos c4, if_neg c6, if_pos c5]
        exact key
      · rw [if_neg c4, if_pos n1]
        exact key
    · have c3 : ¬ ii (s 180 t.toNat) ≤ ii 0 := by rw [ii_le (by omega) (by omega)]; exact c2
      have c5 : ¬ ii (s 180 t.toNat) = ii 0 := by rw [ii_eq (by omega) (by omega)]; omega
      have c6 : ¬ ¬ (0 : Int32) = ii 0 := fun q => q rfl
      rw [if_pos (show 0 ≤ s 180 t.toNat by omega), if_neg c6, if_neg c5, if_neg c3]
      exact ⟨_, rfl, rfl⟩
  · have n1 : ¬ ¬ ii 0 = ii 0 := fun q => q rfl
    simp only [if_neg c1, show (0 : Int32) = ii 0 from rfl, if_neg n1]
    exact ⟨_, rfl, rfl⟩
