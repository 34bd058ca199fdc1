/-! ODDS, MEAN -/
theorem c213 {M : ZMem} : ∀ (z p q : Nat), q < z → p ≤ 10000 → q ≤ 10000 → f_213_5 z M (ii (p : Int)) (ii (q : Int)) = some (ii ((Nat.gcd p q : Nat) : Int)) := by
  intro z
  induction z with
  | zero => intro p q h; omega
  | succ z ih =>
    intro p q h hp hq
    rw [f_213_5]
    by_cases c : q = 0
    · subst c
      rw [if_pos (show ii ((0 : Nat) : Int) = 0 from rfl), Nat.gcd_zero_right]
    · have e0 : ¬ ii (q : Int) = 0 := by rw [show (0 : Int32) = ii 0 from rfl, ii_eq (by omega) (by omega)]; omega
      have hlt : p % q < q := Nat.mod_lt p (by omega)
      rw [if_neg e0, if_neg e0, ii_mod (by omega) (by omega), show (p : Int) % (q : Int) = ((p % q : Nat) : Int) from rfl, ih q (p % q) (by omega) hq (by omega)]
      rw [Nat.gcd_comm q (p % q), ← Nat.gcd_rec, Nat.gcd_comm q p]
theorem c114e {M : ZMem} {b0 b1 b2 : Int32} {p : Nat} (hp : 1 ≤ p ∧ p ≤ 10000) : f_114_58 M b0 b1 b2 (ii (p : Int)) = (if ¬ b2 = 0 then some (Int32.toInt64 (b1 / ii (p : Int))) else some (Int32.toInt64 (b0 / ii (p : Int)))) := by
  have e0 : ¬ ii (p : Int) = 0 := by rw [show (0 : Int32) = ii 0 from rfl, ii_eq (by omega) (by omega)]; omega
  unfold f_114_58
  rw [if_pos e0, if_neg e0, if_neg e0]
/-- the counter stands at 360 at last when nothing is left: what is left is less by each step -/
theorem c114a {M : ZMem} {b0 b1 b2 : Int32} : ∀ (z i p q : Nat), q + i ≤ 360 → 360 < z + i → p ≤ 10000 → (1 ≤ p ∨ 1 ≤ q) → f_114_26 z M b0 b1 b2 (ii (p : Int)) (ii (q : Int)) (ii (i : Int)) = (if ¬ b2 = 0 then some (Int32.toInt64 (b1 / ii ((Nat.gcd p q : Nat) : Int))) else some (Int32.toInt64 (b0 / ii ((Nat.gcd p q : Nat) : Int)))) := by
  intro z
  induction z with
  | zero => intro i p q h h2; omega
  | succ z ih =>
    intro i p q h h2 hp h1
    rw [f_114_26]
    by_cases c : q = 0
    · subst c
      have e5 := c114e (M := M) (b0 := b0) (b1 := b1) (b2 := b2) (p := p) (by omega)
      rw [if_pos (show ii ((0 : Nat) : Int) = 0 from rfl), e5, Nat.gcd_zero_right]
      split <;> rfl
    · have e0 : ¬ ii (q : Int) = 0 := by rw [show (0 : Int32) = ii 0 from rfl, ii_eq (by omega) (by omega)]; omega
      have hlt : p % q < q := Nat.mod_lt p (by omega)
      have ei : ¬ (360 : Int32) ≤ ii (i : Int) := by rw [show (360 : Int32) = ii 360 from rfl, ii_le (by omega) (by omega)]; omega
      rw [if_neg ei, if_neg e0, if_neg e0, ii_mod (by omega) (by omega), show (p : Int) % (q : Int) = ((p % q : Nat) : Int) from rfl, ii_s1, ih (i + 1) q (p % q) (by omega) (by omega) (by omega) (.inl (by omega))]
      rw [Nat.gcd_comm q (p % q), ← Nat.gcd_rec, Nat.gcd_comm q p]
/-- a fraction's part in lowest terms -/
def frc (a b : Nat) (p : Int) : Int64 := if b < 1 ∨ ¬ (0 ≤ p ∧ p ≤ 1) then -9223372036854775808 else if p = 0 then Int32.toInt64 (ii (a : Int) / ii ((Nat.gcd a b : Nat) : Int)) else Int32.toInt64 (ii (b : Int) / ii ((Nat.gcd a b : Nat) : Int))
theorem c114 {M : ZMem} {a b : Nat} {p : Int} (ha : a ≤ 360) (hb : b ≤ 10000) (hp : -2147483648 ≤ p ∧ p < 2147483648) : f_114 M (ii (a : Int)) (ii (b : Int)) (ii p) = some (frc a b p) := by
  unfold f_114 frc
  by_cases c : b < 1
  · rw [if_pos (show ii (b : Int) < 1 by rw [show (1 : Int32) = ii 1 from rfl, ii_lt (by omega) (by omega)]; omega), if_pos (.inl c)]
  · rw [if_neg (show ¬ ii (b : Int) < 1 by rw [show (1 : Int32) = ii 1 from rfl, ii_lt (by omega) (by omega)]; omega), show (1 : Int32) = ii 1 from rfl, show (0 : Int32) = ii 0 from rfl, c14z hp (by omega) (by omega), zb_some]
    by_cases d : 0 ≤ p ∧ p ≤ 1
    · rw [bzT d, if_pos (show ¬ (1 : Int32) = ii 0 by decide), (show f_114_26 zF M (ii (a : Int)) (ii (b : Int)) (ii p) (ii (b : Int)) (ii (a : Int)) (ii 0) = _ from c114a zF 0 b a (by omega) (by unfold zF; omega) hb (.inl (by omega))), if_neg (show ¬ (b < 1 ∨ ¬ (0 ≤ p ∧ p ≤ 1)) by omega), Nat.gcd_comm b a]
      by_cases e : p = 0
      · rw [if_pos e, if_neg (show ¬ ¬ ii p = 0 by rw [e]; decide)]
      · rw [if_neg e, if_pos (show ¬ ii p = 0 by rw [show (0 : Int32) = ii 0 from rfl, ii_eq (by omega) (by omega)]; exact e)]
    · rw [bzF d, if_neg (show ¬ ¬ (0 : Int32) = ii 0 by decide), if_pos (.inr d)]
theorem c212 {M : ZMem} (h : Ly M) {a b : Nat} {p : Int} (ha : a ≤ 10000) (hb : 1 ≤ b ∧ b ≤ 10000) (hp : 0 ≤ p ∧ p ≤ 1) : f_212 M 133 (ii (a : Int)) (ii (b : Int)) (ii p) = some (frc a b p) := by
  have hg : 1 ≤ Nat.gcd a b ∧ Nat.gcd a b ≤ b := ⟨Nat.gcd_pos_of_pos_right a (by omega), Nat.gcd_le_right a (by omega)⟩
  have g0 : ¬ ii ((Nat.gcd a b : Nat) : Int) = 0 := by rw [show (0 : Int32) = ii 0 from rfl, ii_eq (by omega) (by omega)]; omega
  have e213 : f_213 M 133 (ii (a : Int)) (ii (b : Int)) = some (ii ((Nat.gcd a b : Nat) : Int)) := by
    unfold f_213
    rw [if_pos (zok_ly h k133)]
    exact c213 zF a b (by unfold zF; omega) ha hb.2
  unfold f_212 frc
  rw [if_pos (zok_ly h k133), e213, zb_some, if_neg (show ¬ (b < 1 ∨ ¬ (0 ≤ p ∧ p ≤ 1)) by omega), if_neg g0, if_neg g0]
  by_cases e : p = 0
  · rw [if_pos e, if_neg (show ¬ ¬ ii p = 0 by rw [e]; decide)]
  · rw [if_neg e, if_pos (show ¬ ii p = 0 by rw [show (0 : Int32) = ii 0 from rfl, ii_eq (by omega) (by omega)]; exact e)]
/-- how many blows are clean -/
def ocn (s : ZSt) (b : Nat) (t : Int) : Nat → Nat
  | 0 => 0
  | n + 1 => ocn s b t n + (if cle s b t ((n + 1 : Nat) : Int) then 1 else 0)
theorem ocn_b {s : ZSt} {b : Nat} {t : Int} : ∀ n, ocn s b t n ≤ n := by
  intro n
  induction n with
  | zero => exact Nat.le_refl _
  | succ n ih => rw [ocn]; split <;> omega
def sp113 (s : ZSt) (b p : Int) : Int64 := if (0 ≤ b ∧ b < s 133 0) ∧ 2 ≤ s 136 b.toNat then frc (ocn s b.toNat (s 136 b.toNat) ((s 136 b.toNat).toNat - 1)) ((s 136 b.toNat).toNat - 1) p else -9223372036854775808
theorem ii_sn (n : Nat) : ii ((n : Int)) + 1 = ii ((n + 1 : Nat) : Int) := ii_s1 n
theorem m113a {M : ZMem} {s : ZSt} (hL : Ly M) {b : Nat} (hb : b < 6) (hB : BLo M s 97 b) (hv : SBk s 0 b) (hd : 0 ≤ s 133 1) (h3 : zI M (22 + 2 + 2 * b) 3 = ii (s 136 b)) {p : Int} (hp : -2147483648 ≤ p ∧ p < 2147483648) : ∀ (m z n : Nat), ((n + 1 : Nat) : Int) + (m : Nat) = s 136 b → m < z → f_113_52 z M 20 (ii p) (some (22 + 2 + 2 * b)) (ii (ocn s b (s 136 b) n : Nat)) (ii ((n + 1 : Nat) : Int)) = some (frc (ocn s b (s 136 b) ((s 136 b).toNat - 1)) ((s 136 b).toNat - 1) p, M) := by
  have B0 := cB hL (show 22 ∈ [22, 49, 75] by decide) hb
  have v3 := hv.2.2.1
  simp only [Nat.add_zero] at v3
  intro m
  induction m with
  | zero =>
    intro z n e hz
    obtain ⟨w, rfl⟩ : ∃ w, z = w + 1 := ⟨z - 1, by omega⟩
    have ob := ocn_b (s := s) (b := b) (t := s 136 b) n
    have en : (s 136 b).toNat - 1 = n := by omega
    rw [f_113_52, zb_some, B0.2.2.2.2.1, zb_some, h3, if_pos (show ii (s 136 b) ≤ ii ((n + 1 : Nat) : Int) by rw [ii_le (by omega) (by omega)]; omega), zb_some, show (1 : Int32) = ii 1 from rfl, ii_sub, show s 136 b - 1 = (n : Int) by omega, c114 (by omega) (by omega) hp, zb_some, en]
  | succ m ih =>
    intro z n e hz
    obtain ⟨w, rfl⟩ : ∃ w, z = w + 1 := ⟨z - 1, by omega⟩
    have e41 := c41s hL (.inl rfl) hB hv hd (t := s 136 b) (x := ((n + 1 : Nat) : Int)) (by omega) (by omega)
    have nx := ih w (n + 1) (by omega) (by omega)
    rw [f_113_52, zb_some, B0.2.2.2.2.1, zb_some, h3, if_neg (show ¬ ii (s 136 b) ≤ ii ((n + 1 : Nat) : Int) by rw [ii_le (by omega) (by omega)]; omega)]
    simp only [cX hL, zb_some, e41]
    unfold f_113_80
    rw [ii_s1 (n + 1)]
    rw [ocn] at nx
    by_cases c : cle s b (s 136 b) ((n + 1 : Nat) : Int)
    · rw [if_pos c] at nx
      rw [bzT c, if_neg (show ¬ (1 : Int32) = 0 by decide), ii_s1]
      exact nx
    · rw [if_neg c, Nat.add_zero] at nx
      rw [bzF c, if_pos (show (0 : Int32) = 0 from rfl)]
      exact nx
theorem m113 {M0 M : ZMem} {s : ZSt} {l : Nat → Int64} (h : CS M0 M s l) (hV : IV s) {b p : Int} (hb : -2147483648 ≤ b ∧ b < 2147483648) (hp : -2147483648 ≤ p ∧ p < 2147483648) : CG M0 (f_113 M 20 (ii b) (ii p)) (sp113 s b p) s l := by
  have hi := hV.1.1
  have h0 := hi.1.1
  have h1 := hi.1.2.1
  unfold f_113 sp113
  simp only [cX h.1, if_true, zb_some]
  rw [c19 h.1 (by decide) h.2.2.1.1.1 h0 hb, zb_some]
  by_cases c : 0 ≤ b ∧ b < s 133 0
  · obtain ⟨n, rfl⟩ := Int.eq_ofNat_of_zero_le c.1
    have hv := hV.1.2.2.1 n c.2
    have v3 := hv.2.2.1
    simp only [Nat.add_zero] at v3
    have hB := h.2.2.1.2.1 n c.2
    have ym : 22 ∈ [22, 49, 75] := by decide
    have B0 := cB h.1 ym (show n < 6 by omega)
    have y3 := h.2.2.1.1.2.2.1
    have b2 : zI M (22 + 2 + 2 * n) 2 = ii (s 135 n) ∧ zI M (22 + 2 + 2 * n) 3 = ii (s 136 n) ∧ zI M (22 + 2 + 2 * n) 4 = ii (s 137 n) := by
      rw [show 22 + 2 + 2 * n = 24 + 2 * n by omega]
      exact ⟨hB.1.2.1, hB.1.2.2.1, hB.1.2.2.2.1⟩
    rw [fnd_some c, zcs_so _ _ _ (by omega), Int.toNat_natCast, B0.2.2.2.2.1, zb_some, b2.2.1]
    by_cases g : 2 ≤ s 136 n
    · have e52 := c52 (o := 97) (y := 22) h.1 (.inl rfl) ym (show n < 6 by omega) (by unfold YB; rw [show 22 + 2 + 2 * n = 24 + 2 * n by omega]; exact hB) hv (by omega)
      have S1 := blw_sc (Sc.rf h.1) (o := 97) (.inl rfl) (K := s 134 n) (g := grp (s 134 n) (s 135 n) (s 137 n)) (ln := lnn s n) (mk := s 135 n + 1)
      have C1 := CS_sc h hi S1
      have q := m113a C1.1 (show n < 6 by omega) blw_at.1 hv h1.1 ((blw_at.2 _ (by omega) 3).trans b2.2.1) hp ((s 136 n).toNat - 1) zF 0 (by omega) (by unfold zF; omega)
      rw [if_pos (show (2 : Int32) ≤ ii (s 136 n) by rw [show (2 : Int32) = ii 2 from rfl, ii_le (by omega) (by omega)]; exact g), if_pos ⟨c, g⟩]
      unfold f_52
      simp only [cX h.1, cV h.1, if_true, zb_some, y3, B0, b2.1, b2.2.2, e52]
      exact ⟨_, q, C1⟩
    · rw [if_neg (show ¬ (2 : Int32) ≤ ii (s 136 n) by rw [show (2 : Int32) = ii 2 from rfl, ii_le (by omega) (by omega)]; exact g), if_neg (fun w => g w.2)]
      exact CG_ret h
  · rw [fnd_none c, zcs_no, if_neg (fun w => c w.1)]
    exact CG_ret h
theorem m211a {M : ZMem} {s : ZSt} (h : MS M M s) {b : Nat} (hb : b < 6) (hv : SBk s 0 b) (hd : 0 ≤ s 133 1 ∧ s 133 1 < 100000) {p : Int} (hp : 0 ≤ p ∧ p ≤ 1) : ∀ (m z n : Nat), ((n + 1 : Nat) : Int) + (m : Nat) = s 136 b → m < z → 2 ≤ s 136 b → f_211_37 z M 133 (ii (b : Int)) (ii p) (ii (ocn s b (s 136 b) n : Nat)) (ii ((n + 1 : Nat) : Int)) = some (frc (ocn s b (s 136 b) ((s 136 b).toNat - 1)) ((s 136 b).toNat - 1) p) := by
  have v3 := hv.2.2.1
  simp only [Nat.add_zero] at v3
  have x5 := rN h (j := 5) (P := 136) (n := 6) (by decide) (by decide +kernel) (by decide) (fun _ => rfl) (by omega) hb
  intro m
  induction m with
  | zero =>
    intro z n e hz h2
    obtain ⟨w, rfl⟩ : ∃ w, z = w + 1 := ⟨z - 1, by omega⟩
    have ob := ocn_b (s := s) (b := b) (t := s 136 b) n
    have en : (s 136 b).toNat - 1 = n := by omega
    rw [f_211_37, x5.1, zb_some, zb_some, x5.2, zb_some, if_pos (show ii (s 136 b) ≤ ii ((n + 1 : Nat) : Int) by rw [ii_le (by omega) (by omega)]; omega), zb_some, zb_some, x5.2, zb_some, show (1 : Int32) = ii 1 from rfl, ii_sub, show s 136 b - 1 = (n : Int) by omega, c212 h.1 (by omega) (by omega) hp, zb_some, en]
  | succ m ih =>
    intro z n e hz h2
    obtain ⟨w, rfl⟩ : ∃ w, z = w + 1 := ⟨z - 1, by omega⟩
    have e83 := c183 h.1 h.2.2 hb hv hd (t := s 136 b) (x := ((n + 1 : Nat) : Int)) (by omega) (by omega)
    have nx := ih w (n + 1) (by omega) (by omega) h2
    rw [f_211_37, x5.1, zb_some, zb_some, x5.2, zb_some, if_neg (show ¬ ii (s 136 b) ≤ ii ((n + 1 : Nat) : Int) by rw [ii_le (by omega) (by omega)]; omega), zb_some, zb_some, x5.2, zb_some, e83, zb_some]
    unfold f_211_70
    rw [ii_s1 (n + 1)]
    rw [ocn] at nx
    by_cases c : cle s b (s 136 b) ((n + 1 : Nat) : Int)
    · rw [if_pos c] at nx
      rw [bzT c, if_neg (show ¬ (1 : Int32) = 0 by decide), ii_s1]
      exact nx
    · rw [if_neg c, Nat.add_zero] at nx
      rw [bzF c, if_pos (show (0 : Int32) = 0 from rfl), show ii ((ocn s b (s 136 b) n : Nat) : Int) + 0 = ii ((ocn s b (s 136 b) n : Nat) : Int) from Int32.add_zero _]
      exact nx
theorem m211 {M : ZMem} {s : ZSt} (h : MS M M s) (hV : IV s) {b p : Int} (hb : -2147483648 ≤ b ∧ b < 2147483648) (hp : -2147483648 ≤ p ∧ p < 2147483648) : f_211 M 133 (ii b) (ii p) = some (sp113 s b p) := by
  have hi := hV.1.1
  have h0 := hi.1.1
  have h1 := hi.1.2.1
  unfold f_211 sp113
  rw [if_pos (zok_ly h.1 k133), c149 h.1 h.2.2 hi.1 hb, zb_some]
  by_cases c : 0 ≤ b ∧ b < s 133 0
  · obtain ⟨n, rfl⟩ := Int.eq_ofNat_of_zero_le c.1
    have hv := hV.1.2.2.1 n c.2
    have v3 := hv.2.2.1
    simp only [Nat.add_zero] at v3
    have x5 := rN h (j := 5) (P := 136) (n := 6) (by decide) (by decide +kernel) (by decide) (fun _ => rfl) (by omega) (b := n) (by omega)
    rw [if_pos c, if_neg (show ¬ (1 : Int32) = 0 by decide), Int.toNat_natCast, show (1 : Int32) = ii 1 from rfl, show (0 : Int32) = ii 0 from rfl, c147z h.1 hp (by omega) (by omega), zb_some]
    by_cases d : 0 ≤ p ∧ p ≤ 1
    · rw [bzT d, if_neg (show ¬ (1 : Int32) = ii 0 by decide), x5.1, zb_some, zb_some, x5.2, zb_some]
      by_cases g : 2 ≤ s 136 n
      · rw [if_pos (show (2 : Int32) ≤ ii (s 136 n) by rw [show (2 : Int32) = ii 2 from rfl, ii_le (by omega) (by omega)]; exact g), if_pos ⟨c, g⟩]
        exact m211a h (show n < 6 by omega) hv (by omega) d ((s 136 n).toNat - 1) zF 0 (by omega) (by unfold zF; omega) g
      · rw [if_neg (show ¬ (2 : Int32) ≤ ii (s 136 n) by rw [show (2 : Int32) = ii 2 from rfl, ii_le (by omega) (by omega)]; exact g), if_neg (fun w => g w.2)]
    · rw [bzF d, if_pos (show (0 : Int32) = ii 0 from rfl)]
      split
      · unfold frc
        rw [if_pos (.inr d)]
      · rfl
  · rw [if_neg c, if_pos (show (0 : Int32) = 0 from rfl), if_neg (fun w => c w.1)]
/-- mean -/
def msm (s : ZSt) : Nat → Nat × Nat
  | 0 => (0, 0)
  | n + 1 => if s 136 n = 0 then msm s n else ((msm s n).1 + (s 136 n).toNat, (msm s n).2 + 1)
theorem msm_b {s : ZSt} (hV : IV s) : ∀ n : Nat, (n : Int) ≤ s 133 0 → (msm s n).1 ≤ 60 * n ∧ (msm s n).2 ≤ n := by
  intro n
  induction n with
  | zero => intro _; exact ⟨Nat.le_refl _, Nat.le_refl _⟩
  | succ n ih =>
    intro h
    have h1 := ih (by omega)
    have v3 := (hV.1.2.2.1 n (by omega)).2.2.1
    simp only [Nat.add_zero] at v3
    rw [msm]
    split
    · omega
    · show _ + _ ≤ _ ∧ _ + 1 ≤ _
      omega
def sp115 (s : ZSt) (p : Int) : Int64 := frc (msm s (s 133 0).toNat).1 (msm s (s 133 0).toNat).2 p
theorem m115a {M : ZMem} {s : ZSt} {l : Nat → Int64} (hL : Ly M) (hc : RC M s l) (hV : IV s) {p : Int} (hp : -2147483648 ≤ p ∧ p < 2147483648) : ∀ (m z i : Nat), (i : Int) + (m : Nat) = s 133 0 → m < z → f_115_7 z M 20 (ii p) (ii ((msm s i).1 : Int)) (ii ((msm s i).2 : Int)) (ii (i : Int)) = some (sp115 s p) := by
  have h0 := hV.1.1.1.1
  have y1 := hc.1.1.1
  intro m
  induction m with
  | zero =>
    intro z i e hz
    obtain ⟨w, rfl⟩ : ∃ w, z = w + 1 := ⟨z - 1, by omega⟩
    have mb := msm_b hV i (by omega)
    rw [f_115_7]
    simp only [cX hL, zb_some, y1]
    rw [if_pos (show ii (s 133 0) ≤ ii (i : Int) by rw [ii_le (by omega) (by omega)]; omega), c114 (by omega) (by omega) hp, zb_some]
    unfold sp115
    rw [show (s 133 0).toNat = i by omega]
  | succ m ih =>
    intro z i e hz
    obtain ⟨w, rfl⟩ : ∃ w, z = w + 1 := ⟨z - 1, by omega⟩
    have hib : (i : Int) < s 133 0 := by omega
    have v3 := (hV.1.2.2.1 i hib).2.2.1
    simp only [Nat.add_zero] at v3
    have b3 := (hc.1.2.1 i hib).1.2.2.1
    simp only [Nat.add_zero] at b3
    rw [show 24 + 2 * i = 22 + 2 + 2 * i by omega] at b3
    have el := cYl hL (y := 22) (by decide) (i := i) (by omega)
    have B0 := cB hL (show 22 ∈ [22, 49, 75] by decide) (b := i) (by omega)
    have e57 := c57 hL (show 22 ∈ [22, 49, 75] by decide) (b := i) (by omega) v3 b3
    have nx := ih w (i + 1) (by omega) (by omega)
    rw [f_115_7]
    simp only [cX hL, zb_some, y1]
    rw [if_neg (show ¬ ii (s 133 0) ≤ ii (i : Int) by rw [ii_le (by omega) (by omega)]; omega), show (23 : Nat) = 22 + 1 from rfl, el, zb_some, zb_some, e57, zb_some]
    unfold f_115_63
    rw [ii_s1]
    rw [msm] at nx
    by_cases g : s 136 i = 0
    · rw [if_pos g] at nx
      rw [bzT g, if_pos (show ¬ (1 : Int32) = 0 by decide)]
      exact nx
    · rw [if_neg g] at nx
      rw [bzF g, if_neg (show ¬ ¬ (0 : Int32) = 0 by decide), zb_some, zb_some, B0.2.2.2.2.1, zb_some, b3, ii_add, ii_s1]
      rw [show (((msm s i).1 : Nat) : Int) + s 136 i = (((msm s i).1 + (s 136 i).toNat : Nat) : Int) by omega]
      exact nx
theorem m115 {M : ZMem} {s : ZSt} {l : Nat → Int64} (hL : Ly M) (hc : RC M s l) (hV : IV s) {p : Int} (hp : -2147483648 ≤ p ∧ p < 2147483648) : f_115 M 20 (ii p) = some (sp115 s p) := by
  have h0 := hV.1.1.1.1
  unfold f_115
  rw [if_pos (cX hL).1]
  exact m115a hL hc hV hp (s 133 0).toNat zF 0 (by omega) (by unfold zF; omega)
theorem m214a {M : ZMem} {s : ZSt} (h : MS M M s) (hV : IV s) {p : Int} (hp : -2147483648 ≤ p ∧ p < 2147483648) : ∀ (m z i : Nat), (i : Int) + (m : Nat) = s 133 0 → m < z → f_214_7 z M 133 (ii p) (ii ((msm s i).2 : Int)) (ii ((msm s i).1 : Int)) (ii (i : Int)) = some (sp115 s p) := by
  have h0 := hV.1.1.1.1
  intro m
  induction m with
  | zero =>
    intro z i e hz
    obtain ⟨w, rfl⟩ : ∃ w, z = w + 1 := ⟨z - 1, by omega⟩
    have mb := msm_b hV i (by omega)
    unfold sp115
    rw [f_214_7, rF h (j := 0) (by decide) rfl, zb_some, if_pos (show ii (s 133 0) ≤ ii (i : Int) by rw [ii_le (by omega) (by omega)]; omega), show (1 : Int32) = ii 1 from rfl, show (0 : Int32) = ii 0 from rfl, c147z h.1 hp (by omega) (by omega), zb_some, show (s 133 0).toNat = i by omega]
    by_cases d : 0 ≤ p ∧ p ≤ 1
    · rw [bzT d, if_neg (show ¬ (1 : Int32) = ii 0 by decide)]
      by_cases g : (msm s i).2 < 1
      · rw [if_pos (show ii (((msm s i).2 : Nat) : Int) ≤ ii 0 by rw [ii_le (by omega) (by omega)]; omega)]
        unfold frc
        rw [if_pos (.inl g)]
      · rw [if_neg (show ¬ ii (((msm s i).2 : Nat) : Int) ≤ ii 0 by rw [ii_le (by omega) (by omega)]; omega), c212 h.1 (by omega) (by omega) d, zb_some]
    · rw [bzF d, if_pos (show (0 : Int32) = ii 0 from rfl)]
      unfold frc
      rw [if_pos (.inr d)]
  | succ m ih =>
    intro z i e hz
    obtain ⟨w, rfl⟩ : ∃ w, z = w + 1 := ⟨z - 1, by omega⟩
    have hib : (i : Int) < s 133 0 := by omega
    have v3 := (hV.1.2.2.1 i hib).2.2.1
    simp only [Nat.add_zero] at v3
    have x5 := rN h (j := 5) (P := 136) (n := 6) (by decide) (by decide +kernel) (by decide) (fun _ => rfl) (by omega) (b := i) (by omega)
    have nx := ih w (i + 1) (by omega) (by omega)
    rw [f_214_7, rF h (j := 0) (by decide) rfl, zb_some, if_neg (show ¬ ii (s 133 0) ≤ ii (i : Int) by rw [ii_le (by omega) (by omega)]; omega), x5.1, zb_some, zb_some, x5.2, zb_some]
    unfold f_214_32
    rw [x5.1, zb_some, zb_some, x5.2, zb_some, zb_some, zb_some, x5.2, zb_some, ii_add, ii_s1]
    rw [msm] at nx
    by_cases g : s 136 i = 0
    · rw [if_pos g] at nx
      rw [if_pos (show ii (s 136 i) ≤ 0 by rw [g]; decide), show ii (((msm s i).2 : Nat) : Int) + 0 = ii (((msm s i).2 : Nat) : Int) from Int32.add_zero _, g, Int.add_zero]
      exact nx
    · rw [if_neg g] at nx
      rw [if_neg (show ¬ ii (s 136 i) ≤ 0 by rw [show (0 : Int32) = ii 0 from rfl, ii_le (by omega) (by omega)]; omega), ii_s1]
      rw [show (((msm s i).1 : Nat) : Int) + s 136 i = (((msm s i).1 + (s 136 i).toNat : Nat) : Int) by omega]
      exact nx
theorem m214 {M : ZMem} {s : ZSt} (h : MS M M s) (hV : IV s) {p : Int} (hp : -2147483648 ≤ p ∧ p < 2147483648) : f_214 M 133 (ii p) = some (sp115 s p) := by
  have h0 := hV.1.1.1.1
  unfold f_214
  rw [if_pos (zok_ly h.1 k133)]
  exact m214a h hV hp (s 133 0).toNat zF 0 (by omega) (by unfold zF; omega)
