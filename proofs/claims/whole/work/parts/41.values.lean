/-! VALUES -/
theorem ii_div {a b : Int} (ha : 0 ≤ a ∧ a < 2147483648) (hb : 0 < b ∧ b < 2147483648) : ii a / ii b = ii (a / b) := by
  rw [← Int32.toInt_inj, Int32.toInt_div, ii_toInt (by omega), ii_toInt (by omega)]
  have h1 : a.tdiv b = a / b := Int.tdiv_eq_ediv_of_nonneg ha.1
  have h2 : 0 ≤ a / b := Int.ediv_nonneg ha.1 (by omega)
  have h3 : a / b ≤ a := Int.ediv_le_self b ha.1
  rw [h1, ii_toInt (by omega)]
  exact Int.bmod_eq_of_le (by omega) (by omega)
/-- GRIP -/
def grp (K v d : Int) : Int := max 0 ((if K = 1 ∨ K = 4 then 3 + v / 3 else 3) - d / 10)
theorem c25 {M : ZMem} {K v d : Int} (hK : 0 ≤ K ∧ K ≤ 6) (hv : 0 ≤ v ∧ v ≤ 9) (hd : 0 ≤ d ∧ d ≤ 99) : f_25 M (ii K) (ii v) (ii d) = some (ii (grp K v d)) := by
  have e0 : ∀ g : Int, 0 ≤ g ∧ g ≤ 6 → f_25_19 M (ii d) (ii g) = some (ii (max 0 (g - d / 10))) := by
    intro g hg
    unfold f_25_19
    rw [show (10 : Int32) = ii 10 from rfl, ii_div (by omega) (by omega), ii_sub, show (0 : Int32) = ii 0 from rfl, c24i (by omega) (by omega)]
    rfl
  have e1 : f_25_10 M (ii v) (ii d) = some (ii (max 0 (3 + v / 3 - d / 10))) := by
    unfold f_25_10
    rw [show (3 : Int32) = ii 3 from rfl, ii_div (by omega) (by omega), ii_add]
    exact e0 _ (by omega)
  unfold f_25 grp
  by_cases c1 : K = 1
  · rw [if_pos (by rw [c1]; rfl), if_pos (.inl c1)]; exact e1
  · rw [if_neg (by rw [show (1 : Int32) = ii 1 from rfl, ii_eq (by omega) (by omega)]; exact c1)]
    by_cases c2 : K = 4
    · rw [if_neg (by rw [c2]; exact fun q => q rfl), if_pos (.inr c2)]; exact e1
    · rw [if_pos (by rw [show (4 : Int32) = ii 4 from rfl, ii_eq (by omega) (by omega)]; exact c2), if_neg (by omega)]
      exact e0 3 (by omega)
theorem c173 {M : ZMem} (h : Ly M) {a : Int} (ha : -2147483648 ≤ a ∧ a < 2147483648) : f_173 M 133 (ii a) = some (ii (max 0 a)) := by
  unfold f_173
  rw [if_pos (zok_ly h k133)]
  by_cases c : a < 0
  · rw [show max 0 a = 0 by omega]
    first
      | (rw [if_pos (by rw [show (0 : Int32) = ii 0 from rfl, ii_lt ha (by omega)]; exact c)]; rfl)
      | (rw [if_neg (by rw [show (0 : Int32) = ii 0 from rfl, ii_le (by omega) ha]; omega)]; rfl)
  · rw [show max 0 a = a by omega]
    first
      | (rw [if_neg (by rw [show (0 : Int32) = ii 0 from rfl, ii_lt ha (by omega)]; exact c)])
      | (rw [if_pos (by rw [show (0 : Int32) = ii 0 from rfl, ii_le (by omega) ha]; omega)])
theorem c174 {M : ZMem} {s : ZSt} (h : Ly M) (hm : RM M s) {b : Int} (hb : 0 ≤ b ∧ b < 6) (hv : SBk s 0 b.toNat) : f_174 M 133 (ii b) = some (ii (grp (s 134 b.toNat) (s 135 b.toNat) (s 137 b.toNat))) := by
  obtain ⟨v1, v2, v3, v4, v5⟩ := hv
  simp only [Nat.add_zero] at v1 v2 v4
  have x1 := rM h hm (P := 134) (n := 6) (b := b) (by decide) (fun _ => rfl) (by omega) (by omega)
  have x2 := rM h hm (P := 135) (n := 6) (b := b) (by decide) (fun _ => rfl) (by omega) (by omega)
  have x4 := rM h hm (P := 137) (n := 6) (b := b) (by decide) (fun _ => rfl) (by omega) (by omega)
  have p1 := rPm h (j := 3) (by decide) (show zRm 133 3 = some 134 by decide +kernel)
  have p2 := rPm h (j := 4) (by decide) (show zRm 133 4 = some 135 by decide +kernel)
  have p4 := rPm h (j := 6) (by decide) (show zRm 133 6 = some 137 by decide +kernel)
  have e0 : ∀ g : Int, 0 ≤ g ∧ g ≤ 6 → f_174_34 M 133 (ii b) (ii g) = some (ii (max 0 (g - s 137 b.toNat / 10))) := by
    intro g hg
    unfold f_174_34
    simp only [p4, zb_some, x4]
    rw [show (10 : Int32) = ii 10 from rfl, ii_div (by omega) (by omega), ii_sub, c173 h (by omega)]
    rfl
  have e1 : f_174_20 M 133 (ii b) = some (ii (max 0 (3 + s 135 b.toNat / 3 - s 137 b.toNat / 10))) := by
    unfold f_174_20
    simp only [p2, zb_some, x2]
    rw [show (3 : Int32) = ii 3 from rfl, ii_div (by omega) (by omega), ii_add]
    exact e0 _ (by omega)
  unfold f_174 grp
  rw [if_pos (zok_ly h k133)]
  simp only [p1, zb_some, x1]
  by_cases c1 : s 134 b.toNat = 1
  · rw [if_pos (by rw [c1]; rfl), if_pos (.inl c1)]; exact e1
  · rw [if_neg (by rw [show (1 : Int32) = ii 1 from rfl, ii_eq (by omega) (by omega)]; exact c1)]
    by_cases c2 : s 134 b.toNat = 4
    · rw [if_neg (by rw [c2]; exact fun q => q rfl), if_pos (.inr c2)]; exact e1
    · rw [if_pos (by rw [show (4 : Int32) = ii 4 from rfl, ii_eq (by omega) (by omega)]; exact c2), if_neg (by omega)]
      exact e0 3 (by omega)
