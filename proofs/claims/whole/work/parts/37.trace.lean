/-! TRACE, TAKEN -/
theorem c37i {M : ZMem} {a b : Int} (ha : -2147483648 ≤ a ∧ a < 2147483648) (hb : -2147483648 ≤ b ∧ b < 2147483648) : f_37 M (ii a) (ii b) = some (ii (min a b)) := by
  unfold f_37
  by_cases h : b < a
  · rw [if_pos (by rw [ii_lt hb ha]; exact h), show min a b = b by omega]
  · rw [if_neg (by rw [ii_lt hb ha]; exact h), show min a b = a by omega]
theorem c24i {M : ZMem} {a b : Int} (ha : -2147483648 ≤ a ∧ a < 2147483648) (hb : -2147483648 ≤ b ∧ b < 2147483648) : f_24 M (ii a) (ii b) = some (ii (max a b)) := by
  unfold f_24
  by_cases h : a < b
  · rw [if_pos (by rw [ii_lt ha hb]; exact h), show max a b = b by omega]
  · rw [if_neg (by rw [ii_lt ha hb]; exact h), show max a b = a by omega]
theorem gbod {M : ZMem} (h : Ly M) : zgr M 0 0 106 = some (some 107) := gR h k106 (by decide) (by decide +kernel)
/-- trace -/
theorem q29 {M : ZMem} {s : ZSt} {l : Nat → Int64} (h : Ly M) (hc : RC M s l) (hm : RM M s) (hi : SIn s) {a : Int} (ha : -2147483648 ≤ a ∧ a < 2147483648) : ∃ v, f_134 M 20 (ii a) = some v ∧ f_232 M 133 (ii a) = some v := by
  have hn := hi
  unfold SIn at hn
  obtain ⟨h1, h2⟩ := hc.2.2.2.2.1
  unfold f_134 f_232
  rw [if_pos (zok_ly h k20), if_pos (zok_ly h k133), gacts h, zb_some, zb_some, gI h k106 (by decide), zb_some, h1, show (20 : Int32) = ii 20 from rfl, c37i (by omega) (by omega), zb_some, show (1 : Int32) = ii 1 from rfl, ii_sub, show (0 : Int32) = ii 0 from rfl, c14i ha (by omega) (by omega), zb_some, show (19 : Int32) = ii 19 from rfl, c147i h ha (by omega) (by omega), zb_some, zb_some, gbod h, zb_some, zb_some]
  rw [g133 h hm (j := 69) (by decide) rfl, zb_some, gR h k133 (j := 70) (by decide) (show zRm 133 70 = some 179 by decide +kernel), zb_some, zb_some]
  by_cases c1 : 0 ≤ a ∧ a ≤ 19
  · simp only [if_pos c1]
    rw [if_neg (show ¬ (1 : Int32) = ii 0 by decide)]
    by_cases c2 : s 133 69 ≤ a
    · have c3 : ¬ (0 ≤ a ∧ a ≤ min (s 133 69) 20 - 1) := by omega
      have c4 : ii (s 133 69) ≤ ii a := by rw [ii_le (by omega) ha]; exact c2
      simp only [if_neg c3, if_pos c4]
      exact ⟨_, rfl, rfl⟩
    · have c3 : 0 ≤ a ∧ a ≤ min (s 133 69) 20 - 1 := by omega
      have c4 : ¬ ii (s 133 69) ≤ ii a := by rw [ii_le (by omega) ha]; exact c2
      simp only [if_pos c3, if_neg c4]
      have hai : (ii a).toInt = a := ii_toInt ha
      rw [if_neg (show ¬ (1 : Int32) = ii 0 by decide), zai_ly h (n := 20) (p := 107) (by omega) (by decide) (by omega), zb_some, zb_some, zai_ly h (n := 20) (p := 179) (by omega) (by decide) (by omega), zb_some, hai, h2 a.toNat (by omega) (by omega), hm 179 _ rfl]
      exact ⟨_, rfl, rfl⟩
  · have c3 : ¬ (0 ≤ a ∧ a ≤ min (s 133 69) 20 - 1) := by omega
    simp only [if_neg c1, if_neg c3]
    exact ⟨_, rfl, rfl⟩
/-- the kind above -/
def zab1 (b : Int) : Int := if b = 0 then -1 else if b = 4 then 1 else if b = 5 then 2 else if b = 6 then 3 else 0
theorem zCt_a : ∀ b : Nat, b < 7 → (1, b, ii (zab1 b)) ∈ zCt := by decide +kernel
theorem zai_1 {M : ZMem} (h : Ly M) (hc : RCc M) {b : Int} (hb : 0 ≤ b ∧ b ≤ 6) : zai M 1 (ii b) = some (ii (zab1 b)) := by
  have hi : (ii b).toInt = b := ii_toInt (by omega)
  have hcc : (ii b).toNatClampNeg = b.toNat := congrArg Int.toNat hi
  have hs' := h.s 1 (by omega)
  have h0 : ¬ (ii b < 0 ∨ 7 ≤ (ii b).toNatClampNeg) := by
    rw [hcc, show (0 : Int32) = ii 0 from rfl, ii_lt (by omega) (by omega)]; omega
  unfold zai zla
  rw [if_neg (by omega), if_pos rfl, h.n, hs', if_pos ⟨rfl, .inr (.inl rfl), by omega, h0⟩, hcc]
  have := hc _ (zCt_a b.toNat (by omega))
  rw [show ((b.toNat : Nat) : Int) = b by omega] at this
  rw [this]
/-- taken -/
def tk (K k : Int) : Int := if k = 0 ∨ K = k ∨ (k = 1 ∧ K = 4) ∨ (k = 2 ∧ K = 5) ∨ (k = 3 ∧ K = 6) then K else -12
theorem c135s {M : ZMem} (h : Ly M) (hc : RCc M) {q z : Nat} {K k b i : Int} (hq : zokT 1 q = true) (hK : zI M q 1 = ii K) (hk : 0 ≤ k ∧ k ≤ 6) (hb : -1 ≤ b ∧ b ≤ 6) (hi : 0 ≤ i ∧ i ≤ 6) : f_135_41 (z + 1) M (ii k) (some q) (ii b) (ii i) = if b = -1 then some (-12) else if b = k then some (ii K) else f_135_41 z M (ii k) (some q) (ii (zab1 b)) (ii (i + 1)) := by
  rw [f_135_41, show (0 : Int32) = ii 0 from rfl, show (6 : Int32) = ii 6 from rfl, if_neg (show ¬ ii 6 < ii i by rw [ii_lt (by omega) (by omega)]; omega), c14i (by omega) (by omega) (by omega), zb_some]
  by_cases c1 : b = -1
  · subst c1
    rw [if_pos rfl]
    rfl
  · rw [if_neg c1]
    have c2 : 0 ≤ b ∧ b ≤ 6 := by omega
    simp only [if_pos c2]
    rw [if_neg (show ¬ (1 : Int32) = ii 0 by decide)]
    by_cases c3 : b = k
    · rw [if_pos c3, if_neg (by rw [ii_eq (by omega) (by omega)]; exact fun q => q c3), zb_some, gI h hq (by decide), zb_some, hK]
    · rw [if_neg c3, if_pos (by rw [ii_eq (by omega) (by omega)]; exact c3), zai_1 h hc c2, zb_some, show ii i + 1 = ii (i + 1) by rw [show (1 : Int32) = ii 1 from rfl, ii_add]]
theorem q30a {M : ZMem} (h : Ly M) (hc : RCc M) {q : Nat} {K k : Int} (hq : zokT 1 q = true) (hK : zI M q 1 = ii K) (hk : 0 ≤ k ∧ k ≤ 6) (hKr : 0 ≤ K ∧ K ≤ 6) : f_135_41 zF M (ii k) (some q) (ii K) (ii 0) = some (ii (tk K k)) := by
  have st := fun (z : Nat) (b i : Int) (hb : -1 ≤ b ∧ b ≤ 6) (hi : 0 ≤ i ∧ i ≤ 6) => c135s (z := z) (b := b) (i := i) h hc hq hK hk hb hi
  have hz : zF = 99995 + 1 + 1 + 1 + 1 + 1 := rfl
  have e1 : K = 0 ∨ K = 1 ∨ K = 2 ∨ K = 3 ∨ K = 4 ∨ K = 5 ∨ K = 6 := by omega
  have e2 : k = 0 ∨ k = 1 ∨ k = 2 ∨ k = 3 ∨ k = 4 ∨ k = 5 ∨ k = 6 := by omega
  rw [hz]
  rcases e1 with rfl | rfl | rfl | rfl | rfl | rfl | rfl <;> rcases e2 with rfl | rfl | rfl | rfl | rfl | rfl | rfl <;> simp [st, zab1, tk] <;> rfl
theorem q30b {K k : Int} (hk : 0 ≤ k ∧ k ≤ 6) (hKr : 0 ≤ K ∧ K ≤ 6) (M : ZMem) : (if ii k = 0 then (some (ii K)) else (if ii K = ii k then (some (ii K)) else (if ¬ ii k = 1 then (f_233_51 M (ii k) (ii K)) else (if ii K = 4 then (some (ii K)) else (f_233_51 M (ii k) (ii K)))))) = some (ii (tk K k)) := by
  have e1 : K = 0 ∨ K = 1 ∨ K = 2 ∨ K = 3 ∨ K = 4 ∨ K = 5 ∨ K = 6 := by omega
  have e2 : k = 0 ∨ k = 1 ∨ k = 2 ∨ k = 3 ∨ k = 4 ∨ k = 5 ∨ k = 6 := by omega
  rcases e1 with rfl | rfl | rfl | rfl | rfl | rfl | rfl <;> rcases e2 with rfl | rfl | rfl | rfl | rfl | rfl | rfl <;> rfl
/-- taken -/
theorem q30 {M : ZMem} {s : ZSt} {l : Nat → Int64} (h : Ly M) (hc : RC M s l) (hm : RM M s) (hi : SIn s) (hb' : SIb s) {b k : Int} (hb : -2147483648 ≤ b ∧ b < 2147483648) (hk : -2147483648 ≤ k ∧ k < 2147483648) : ∃ v, f_135 M 20 (ii b) (ii k) = some v ∧ f_233 M 133 (ii b) (ii k) = some v := by
  have hn := hi.1
  unfold f_135 f_233
  rw [if_pos (zok_ly h k20), if_pos (zok_ly h k133), show (6 : Int32) = ii 6 from rfl, show (0 : Int32) = ii 0 from rfl, c14i hk (by omega) (by omega), zb_some, c147i h hk (by omega) (by omega), zb_some]
  by_cases c1 : 0 ≤ k ∧ k ≤ 6
  · simp only [if_pos c1]
    rw [if_pos (show ¬ (1 : Int32) = ii 0 by decide), if_pos (show ¬ (1 : Int32) = ii 0 by decide), gnow h, zb_some, zb_some, gyd h, zb_some, zb_some, c19 h (by decide) hc.1.1.1 hn hb, zb_some, c149 h hm hi hb, zb_some]
    by_cases c2 : 0 ≤ b ∧ b < s 133 0
    · have hv := (hb' b.toNat (by omega)).1
      have hw := (hc.1.2.1 b.toNat (by omega)).1.1
      simp only [Nat.add_zero] at hv hw
      simp only [fnd_some c2, if_pos c2]
      rw [zcs_so _ _ _ (by omega), if_pos (show ¬ (1 : Int32) = ii 0 by decide), show 22 + 2 + 2 * b.toNat = 24 + 2 * b.toNat by omega, gI h (kBn (by omega)) (by decide), zb_some, hw, q30a h hc.1.2.2 (kBn (by omega)) hw c1 hv, gR h k133 (j := 3) (by decide) (show zRm 133 3 = some 134 by decide +kernel), zb_some, zb_some, zai_ly h (n := 6) (p := 134) (by omega) (by decide) (by rw [ii_toInt hb]; omega), zb_some, ii_toInt hb, hm 134 _ rfl]
      exact ⟨_, rfl, q30b c1 hv M⟩
    · simp only [fnd_none c2, if_neg c2]
      exact ⟨_, rfl, rfl⟩
  · simp only [if_neg c1]
    exact ⟨_, rfl, rfl⟩
