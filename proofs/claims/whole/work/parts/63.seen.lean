/-! SEEN: dryness, can -/
def aso (s : ZSt) (b : Nat) : Nat → Nat → Bool
  | _, 0 => true
  | i, m + 1 => if (cle s b (s 160 i) (s 159 i) ↔ s 161 i = 1) then aso s b (i + 1) m else false
theorem c111a {s : ZSt} {b : Nat} {M : ZMem} (hL : Ly M) (hR : RCs M s) (hB : BLo M s 97 b) (hv : SBk s 0 b) (hd : 0 ≤ s 133 1) (hS : SIs s) (hn : 0 ≤ s 133 38 ∧ s 133 38 ≤ 6) : ∀ (m z i : Nat), (i : Int) + (m : Nat) = s 133 38 → m < z → f_111_10 z M 20 (some 36) (ii (i : Int)) = some (bz (aso s b i m = true)) := by
  intro m
  induction m with
  | zero =>
    intro z i e hz
    obtain ⟨w, rfl⟩ : ∃ w, z = w + 1 := ⟨z - 1, by omega⟩
    rw [f_111_10, zb_some]
    simp only [cW hL, zb_some, hR.1]
    rw [if_pos (show ii (s 133 38) ≤ ii (i : Int) by rw [ii_le (by omega) (by omega)]; omega)]
    rfl
  | succ m ih =>
    intro z i e hz
    obtain ⟨w, rfl⟩ : ∃ w, z = w + 1 := ⟨z - 1, by omega⟩
    obtain ⟨r1, r2, r3⟩ := hR.2 i (by omega)
    obtain ⟨s1, s2, s3⟩ := hS i (by omega)
    have a1 := (cW hL).2.2.2.2.2.2
    have e41 := c41s hL (.inl rfl) hB hv hd (t := s 160 i) (x := s 159 i) (by omega) (by omega)
    have x37 := zai_ii hL (p := 37) (n := 6) (i := (i : Int)) (by omega) (by decide +kernel) (by omega) (by omega) (by omega)
    have x38 := zai_ii hL (p := 38) (n := 6) (i := (i : Int)) (by omega) (by decide +kernel) (by omega) (by omega) (by omega)
    have x39 := zai_ii hL (p := 39) (n := 6) (i := (i : Int)) (by omega) (by decide +kernel) (by omega) (by omega) (by omega)
    rw [Int.toNat_natCast] at x37 x38 x39
    rw [f_111_10, zb_some]
    simp only [cW hL, cX hL, zb_some, hR.1, x37, x38, x39, r1, r2, r3, e41]
    rw [if_neg (show ¬ ii (s 133 38) ≤ ii (i : Int) by rw [ii_le (by omega) (by omega)]; omega)]
    unfold f_111_52
    rw [ii_s1]
    have nx := ih w (i + 1) (by omega) (by omega)
    rw [aso]
    rcases s3 with g | g
    · rw [g, if_pos (show ¬ ii 0 = 1 by decide)]
      by_cases c : cle s b (s 160 i) (s 159 i)
      · rw [bzT c, if_neg (show ¬ (1 : Int32) = 0 by decide), if_neg (fun q => absurd (q.mp c) (by decide))]
        rfl
      · rw [bzF c, if_pos (show (0 : Int32) = 0 from rfl), if_pos ⟨fun q => absurd q c, fun q => absurd q (by decide)⟩]
        exact nx
    · rw [g, if_neg (show ¬ ¬ ii 1 = 1 by decide)]
      by_cases c : cle s b (s 160 i) (s 159 i)
      · rw [bzT c, if_pos (show (1 : Int32) = 1 from rfl), if_pos ⟨fun _ => rfl, fun _ => c⟩]
        exact nx
      · rw [bzF c, if_neg (show ¬ (0 : Int32) = 1 by decide), if_neg (fun q => c (q.mpr rfl))]
        rfl
theorem c209a {s : ZSt} {b : Nat} {M : ZMem} (hL : Ly M) (hm : RM M s) (hb : b < 6) (hv : SBk s 0 b) (hd : 0 ≤ s 133 1 ∧ s 133 1 < 100000) (hS : SIs s) (hn : 0 ≤ s 133 38 ∧ s 133 38 ≤ 6) : ∀ (m z i : Nat), (i : Int) + (m : Nat) = s 133 38 → m < z → f_209_2 z M 133 (ii (b : Int)) (ii (i : Int)) = some (bz (aso s b i m = true)) := by
  intro m
  induction m with
  | zero =>
    intro z i e hz
    obtain ⟨w, rfl⟩ : ∃ w, z = w + 1 := ⟨z - 1, by omega⟩
    rw [f_209_2, g133 hL hm (j := 38) (by decide) rfl, zb_some, if_pos (show ii (s 133 38) ≤ ii (i : Int) by rw [ii_le (by omega) (by omega)]; omega)]
    rfl
  | succ m ih =>
    intro z i e hz
    obtain ⟨w, rfl⟩ : ∃ w, z = w + 1 := ⟨z - 1, by omega⟩
    have hMS : MS M M s := ⟨hL, Dn.rf M, hm⟩
    obtain ⟨s1, s2, s3⟩ := hS i (by omega)
    have x0 := rN hMS (j := 40) (P := 160) (n := 6) (by decide) (by decide +kernel) (by decide) (fun _ => rfl) (by omega) (b := i) (by omega)
    have x9 := rN hMS (j := 39) (P := 159) (n := 6) (by decide) (by decide +kernel) (by decide) (fun _ => rfl) (by omega) (b := i) (by omega)
    have e83 := c183 hL hm hb hv hd (t := s 160 i) (x := s 159 i) (by omega) (by omega)
    have x1 := rP hMS (j := 41) (P := 161) (by decide) (by decide +kernel)
    have y1 : zab M 161 (ii (i : Int)) = some (ii (s 161 i)) := by
      have ei : (ii (i : Int)).toInt = (i : Int) := ii_toInt (by omega)
      rw [zab_ly hL (p := 161) (n := 6) (t := 22) (by omega) (by decide +kernel) (.inr rfl) (by rw [ei]; omega), ei, Int.toNat_natCast, hm 161 i rfl]
    rw [f_209_2, g133 hL hm (j := 38) (by decide) rfl, zb_some, if_neg (show ¬ ii (s 133 38) ≤ ii (i : Int) by rw [ii_le (by omega) (by omega)]; omega), x0.1, zb_some, zb_some, x0.2, zb_some, x9.1, zb_some, zb_some, x9.2, zb_some, e83, zb_some, x1, zb_some, zb_some, y1, zb_some, ii_s1]
    have nx := ih w (i + 1) (by omega) (by omega)
    rw [aso]
    rcases s3 with g | g
    · rw [g]
      by_cases c : cle s b (s 160 i) (s 159 i)
      · rw [bzT c, if_neg (show ¬ (1 : Int32) = ii 0 by decide), if_neg (fun q => absurd (q.mp c) (by decide))]
        rfl
      · rw [bzF c, if_pos (show (0 : Int32) = ii 0 from rfl), if_pos ⟨fun q => absurd q c, fun q => absurd q (by decide)⟩]
        exact nx
    · rw [g]
      by_cases c : cle s b (s 160 i) (s 159 i)
      · rw [bzT c, if_pos (show (1 : Int32) = ii 1 from rfl), if_pos ⟨fun _ => rfl, fun _ => c⟩]
        exact nx
      · rw [bzF c, if_neg (show ¬ (0 : Int32) = ii 1 by decide), if_neg (fun q => c (q.mpr rfl))]
        rfl
/-- from the greatest number down: how many fit, the least of them -/
def fitg (F : Nat → Bool) : Nat → Int × Int → Int × Int
  | 0, a => a
  | n + 1, a => fitg F n (if F n = true then (a.1 + 1, (n : Int)) else a)
def fq (s : ZSt) (q b : Nat) (n : Nat) : Bool := aso (up s q b (n : Int)) b 0 (s 133 38).toNat
theorem up_up {s : ZSt} {p k : Nat} {v w : Int} : up (up s p k v) p k w = up s p k w := by
  refine up_ext fun a b => ?_
  simp only [up_eq]
  split <;> rfl
theorem up_self {s : ZSt} {p k : Nat} : up s p k (s p k) = s := by
  refine up_ext fun a b => ?_
  rw [up_eq]
  by_cases c : a = p ∧ b = k
  · rw [if_pos c, c.1, c.2]
  · rw [if_neg c]
theorem SBk_q {s : ZSt} {b q n : Nat} (hv : SBk s 0 b) (hq : (q = 137 ∧ n ≤ 99) ∨ (q = 135 ∧ n ≤ 9)) : SBk (up s q b (n : Int)) 0 b := by
  obtain ⟨v1, v2, v3, v4, v5, v6⟩ := hv
  simp only [Nat.add_zero] at v1 v2 v3 v4 v5 v6
  unfold SBk
  simp only [Nat.add_zero]
  rcases hq with ⟨rfl, hn⟩ | ⟨rfl, hn⟩
  · simp (disch := omega) only [up_ne, up_at]
    exact ⟨v1, v2, v3, by omega, v5, v6⟩
  · simp (disch := omega) only [up_ne, up_at]
    exact ⟨v1, by omega, v3, v4, v5, v6⟩
theorem c29q {M : ZMem} {s : ZSt} (h : Ly M) {b : Nat} (hb : b < 6) (hB : Bk M s 0 (24 + 2 * b) b) (hv : SBk s 0 b) (hd : 0 ≤ s 133 1 ∧ s 133 1 < 100000) {t : ZSt} (hvt : SBk t 0 b) (e0 : t 134 b = s 134 b) (e1 : t 139 = s 139) (e2 : t 133 1 = s 133 1) : ∃ N, f_29 M 97 (some (22 + 2 + 2 * b)) (ii (t 135 b)) (ii (t 137 b)) (ii (s 133 1)) = some N ∧ BLo N t 97 b ∧ Sc M N := by
  obtain ⟨⟨b1, b2, b3, b4, b5⟩, b6⟩ := hB
  have v1 := hv.1
  have v2 := hvt.2.1
  have v4 := hvt.2.2.2.1
  simp only [Nat.add_zero] at b1 b2 b3 b4 b5 b6 v1 v2 v4
  have e := c29 h (o := 97) (y := 22) (b := b) (.inl rfl) (by decide) hb (K := s 134 b) (v := t 135 b) (d := t 137 b) (n := s 133 1) (R := fun r => s 139 (4 * b + r)) (by rw [show 22 + 2 + 2 * b = 24 + 2 * b by omega]; exact b1) (fun r hr => by rw [show 22 + 3 + 2 * b = 24 + 2 * b + 1 by omega]; exact b6 r hr) v1 v2 v4 hd
  refine ⟨_, e, ?_, blw_sc (Sc.rf h) (.inl rfl)⟩
  have a := (blw_at (M := M) (o := 97) (K := s 134 b) (g := grp (s 134 b) (t 135 b) (t 137 b)) (ln := if s 134 b = 6 then s 139 (4 * b + (s 133 1 % 4).toNat) else 0) (mk := t 135 b + 1)).1
  unfold BLo lnn
  rw [e0, e1, e2]
  exact a
theorem c110a {M0 : ZMem} {s : ZSt} {l : Nat → Int64} (hV : IV s) {b q : Nat} {d w : Int} (hb : (b : Int) < s 133 0) (hw : w = 0 ∨ w = 1) (hq : (q = 137 ∧ d = 1) ∨ (q = 135 ∧ d = 0)) : ∀ (n z : Nat) (M : ZMem) (a : Int × Int), CS M0 M s l → n ≤ (if q = 137 then 100 else 10) → n < z → CG M0 (f_110_39 z M 20 (ii w) (ii d) (some (22 + 2 + 2 * b)) (ii a.1) (ii a.2) (ii ((n : Int) - 1))) (ii (if w = 0 then (fitg (fq s q b) n a).1 else (fitg (fq s q b) n a).2)) s l := by
  have hi := hV.1.1
  have h0 := hi.1.1
  have h1 := hi.1.2.1
  have h38 := hi.1.2.2.2.2.2.2.1
  have hv := hV.1.2.2.1 b hb
  have hS := hV.2.1.2.2.2
  intro n
  induction n with
  | zero =>
    intro z M a h hn hz
    obtain ⟨y, rfl⟩ : ∃ y, z = y + 1 := ⟨z - 1, by omega⟩
    rw [f_110_39, if_pos (show ii (((0 : Nat) : Int) - 1) < 0 by decide)]
    rcases hw with rfl | rfl
    · rw [if_neg (show ¬ ¬ ii 0 = 0 by decide), if_pos rfl]
      exact CG_ret h
    · rw [if_pos (show ¬ ii 1 = 0 by decide), if_neg (by decide)]
      exact CG_ret h
  | succ n ih =>
    intro z M a h hn hz
    obtain ⟨y, rfl⟩ : ∃ y, z = y + 1 := ⟨z - 1, by omega⟩
    have hb6 : b < 6 := by omega
    have B0 := cB h.1 (show 22 ∈ [22, 49, 75] by decide) hb6
    have hB := h.2.2.1.2.1 b hb
    have yd := h.2.2.1.1.2.2.1
    have b2 : zI M (22 + 2 + 2 * b) 2 = ii (s 135 b) := by rw [show 22 + 2 + 2 * b = 24 + 2 * b by omega]; exact hB.1.2.1
    have b4 : zI M (22 + 2 + 2 * b) 4 = ii (s 137 b) := by rw [show 22 + 2 + 2 * b = 24 + 2 * b by omega]; exact hB.1.2.2.2.1
    have en : ((n + 1 : Nat) : Int) - 1 = (n : Int) := by omega
    have hn60 : n ≤ 99 := by split at hn <;> omega
    have em : ii (n : Int) + -1 = ii ((n : Int) - 1) := by rw [lm1, ii_add]; rfl
    have hvt : SBk (up s q b (n : Int)) 0 b := SBk_q hv (by
      rcases hq with ⟨rfl, _⟩ | ⟨rfl, _⟩
      · exact .inl ⟨rfl, hn60⟩
      · rw [if_neg (by decide)] at hn; exact .inr ⟨rfl, by omega⟩)
    have q134 : q ≠ 134 ∧ q ≠ 139 ∧ q ≠ 133 ∧ q ≠ 159 ∧ q ≠ 160 ∧ q ≠ 161 := by omega
    have key : ∀ dv vv : Int, dv = up s q b (n : Int) 137 b → vv = up s q b (n : Int) 135 b → CG M0 (f_110_80 (fun M a0 a1 a2 a3 a4 a5 a6 => f_110_39 y M a0 a1 a2 a3 a4 a5 a6) M 20 (ii w) (ii d) (some (22 + 2 + 2 * b)) (ii a.1) (ii a.2) (ii (n : Int)) (ii dv) (ii vv) (some (22 + 2 + 2 * b)) (some 97)) (ii (if w = 0 then (fitg (fq s q b) (n + 1) a).1 else (fitg (fq s q b) (n + 1) a).2)) s l := by
      intro dv vv hdv hvv
      obtain ⟨N, e29, hN, sN⟩ := c29q h.1 hb6 hB hv (by omega) hvt (up_ne (by omega)) (up_fn (by omega)) (up_ne (by omega))
      have hC := CS_sc h hi sN
      have RS : RCs N (up s q b (n : Int)) := RCs_sf hC.2.2.2.1.1 (up_ne (by omega)) (up_fn (by omega)) (up_fn (by omega)) (up_fn (by omega))
      have hS' : SIs (up s q b (n : Int)) := by
        unfold SIs
        rw [up_ne (show (133 : Nat) ≠ q by omega), up_fn (show (159 : Nat) ≠ q by omega), up_fn (show (160 : Nat) ≠ q by omega), up_fn (show (161 : Nat) ≠ q by omega)]
        exact hS
      have e38 : up s q b (n : Int) 133 38 = s 133 38 := up_ne (by omega)
      have e111 := c111a hC.1 RS hN hvt (by rw [up_ne (by omega)]; exact h1.1) hS' (by rw [e38]; exact h38) (s 133 38).toNat zF 0 (by rw [e38]; omega) (by unfold zF; omega)
      have f111 : f_111 N 20 = some (bz (fq s q b n = true)) := by
        unfold f_111
        simp only [cX hC.1, if_true, zb_some]
        exact e111
      unfold f_110_80
      rw [← hdv, ← hvv] at e29
      simp only [cX h.1, zb_some, yd, e29, f111]
      unfold f_110_107
      rw [em]
      rw [fitg]
      by_cases c : fq s q b n = true
      · rw [bzT c, if_neg (show ¬ (1 : Int32) = 0 by decide), if_pos c, show (1 : Int32) = ii 1 from rfl, ii_add]
        exact ih y N (a.1 + 1, (n : Int)) hC (by split <;> rename_i g <;> simp only [g, if_true, if_false] at hn <;> omega) (by omega)
      · rw [bzF c, if_pos (show (0 : Int32) = 0 from rfl), if_neg c]
        exact ih y N a hC (by split <;> rename_i g <;> simp only [g, if_true, if_false] at hn <;> omega) (by omega)
    rw [f_110_39, en, if_neg (show ¬ ii (n : Int) < 0 by rw [show (0 : Int32) = ii 0 from rfl, ii_lt (by omega) (by omega)]; omega)]
    simp only [cX h.1, zb_some]
    rcases hq with ⟨rfl, rfl⟩ | ⟨rfl, rfl⟩
    · rw [if_neg (show ¬ ii 1 = 0 by decide)]
      simp only [B0, zb_some, b2]
      unfold f_110_65
      rw [if_neg (show ¬ ii 1 = 0 by decide)]
      exact key _ _ up_at.symm (up_ne (by omega)).symm
    · rw [if_pos (show ii 0 = 0 by decide)]
      unfold f_110_65
      rw [if_pos (show ii 0 = 0 by decide)]
      simp only [B0, zb_some, b4]
      exact key _ _ (up_ne (by omega)).symm up_at.symm
def sp110 (s : ZSt) (q mx : Nat) (b w : Int) : Int := if (0 ≤ b ∧ b < s 133 0) ∧ 0 ≤ w ∧ w ≤ 1 then (if w = 0 then (fitg (fq s q b.toNat) mx (0, -5)).1 else (fitg (fq s q b.toNat) mx (0, -5)).2) else -1
theorem c110 {M0 M : ZMem} {s : ZSt} {l : Nat → Int64} (h : CS M0 M s l) (hV : IV s) {q mx : Nat} {d : Int} (hq : (q = 137 ∧ d = 1 ∧ mx = 100) ∨ (q = 135 ∧ d = 0 ∧ mx = 10)) {b w : Int} (hb : -2147483648 ≤ b ∧ b < 2147483648) (hw : -2147483648 ≤ w ∧ w < 2147483648) : CG M0 (f_110 M 20 (ii b) (ii w) (ii ((mx : Int) - 1)) (ii d)) (ii (sp110 s q mx b w)) s l := by
  have h0 := hV.1.1.1.1
  unfold f_110 sp110
  simp only [cX h.1, if_true, zb_some]
  rw [c19 h.1 (by decide) h.2.2.1.1.1 h0 hb, zb_some]
  by_cases c : 0 ≤ b ∧ b < s 133 0
  · obtain ⟨n, rfl⟩ := Int.eq_ofNat_of_zero_le c.1
    rw [fnd_some c, zcs_so _ _ _ (by omega), Int.toNat_natCast, show (1 : Int32) = ii 1 from rfl, show (0 : Int32) = ii 0 from rfl, c14z hw (by omega) (by omega), zb_some]
    by_cases g : 0 ≤ w ∧ w ≤ 1
    · rw [bzT g, if_pos (show ¬ (1 : Int32) = ii 0 by decide), if_pos ⟨c, g⟩]
      have q := c110a (M0 := M0) (l := l) (q := q) (d := d) (w := w) hV c.2 (by omega) (by omega) mx zF M ((0 : Int), (-5 : Int)) h (by rcases hq with ⟨rfl, _, rfl⟩ | ⟨rfl, _, rfl⟩ <;> decide) (by rcases hq with ⟨rfl, _, rfl⟩ | ⟨rfl, _, rfl⟩ <;> decide)
      rw [show (-5 : Int32) = ii (-5) by decide]
      exact q
    · rw [bzF g, if_neg (show ¬ ¬ (0 : Int32) = ii 0 by decide), if_neg (fun q => g q.2)]
      exact CG_ret h
  · rw [fnd_none c, zcs_no, if_neg (fun q => c q.1)]
    exact CG_ret h
theorem m109 {M0 M : ZMem} {s : ZSt} {l : Nat → Int64} (h : CS M0 M s l) (hV : IV s) {b w : Int} (hb : -2147483648 ≤ b ∧ b < 2147483648) (hw : -2147483648 ≤ w ∧ w < 2147483648) : CG M0 (f_109 M 20 (ii b) (ii w)) (ii (sp110 s 137 100 b w)) s l := by
  unfold f_109
  rw [if_pos (cX h.1).1]
  exact CG_bd (c110 h hV (q := 137) (mx := 100) (d := 1) (.inl ⟨rfl, rfl, rfl⟩) hb hw) fun M1 h1 => CG_ret h1
theorem m112 {M0 M : ZMem} {s : ZSt} {l : Nat → Int64} (h : CS M0 M s l) (hV : IV s) {b w : Int} (hb : -2147483648 ≤ b ∧ b < 2147483648) (hw : -2147483648 ≤ w ∧ w < 2147483648) : CG M0 (f_112 M 20 (ii b) (ii w)) (ii (sp110 s 135 10 b w)) s l := by
  unfold f_112
  rw [if_pos (cX h.1).1]
  exact CG_bd (c110 h hV (q := 135) (mx := 10) (d := 0) (.inr ⟨rfl, rfl, rfl⟩) hb hw) fun M1 h1 => CG_ret h1
/-- the reference's -/
theorem c209q {M0 M : ZMem} {s : ZSt} (hV : IV s) {b q n : Nat} (hb : (b : Int) < s 133 0) (hq : (q = 137 ∧ n ≤ 99) ∨ (q = 135 ∧ n ≤ 9)) (h : MS M0 M (up s q b (n : Int))) : f_209 M 133 (ii (b : Int)) = some (bz (fq s q b n = true)) := by
  have hi := hV.1.1
  have h0 := hi.1.1
  have h1 := hi.1.2.1
  have h38 := hi.1.2.2.2.2.2.2.1
  have hS := hV.2.1.2.2.2
  have q134 : q ≠ 133 ∧ q ≠ 159 ∧ q ≠ 160 ∧ q ≠ 161 := by omega
  have hS' : SIs (up s q b (n : Int)) := by
    unfold SIs
    rw [up_ne (show (133 : Nat) ≠ q by omega), up_fn (show (159 : Nat) ≠ q by omega), up_fn (show (160 : Nat) ≠ q by omega), up_fn (show (161 : Nat) ≠ q by omega)]
    exact hS
  have e38 : up s q b (n : Int) 133 38 = s 133 38 := up_ne (by omega)
  have e1 : up s q b (n : Int) 133 1 = s 133 1 := up_ne (by omega)
  unfold f_209
  rw [if_pos (zok_ly h.1 k133)]
  exact c209a h.1 h.2.2 (by omega) (SBk_q (hV.1.2.2.1 b hb) hq) (by rw [e1]; omega) hS' (by rw [e38]; exact h38) (s 133 38).toNat zF 0 (by rw [e38]; omega) (by unfold zF; omega)
theorem m208a {M0 : ZMem} {s : ZSt} (hV : IV s) {b : Nat} {w : Int} (hb : (b : Int) < s 133 0) (hw : w = 0 ∨ w = 1) : ∀ (n z : Nat) (M : ZMem) (a : Int × Int) (x : Int), MS M0 M (up s 137 b x) → n ≤ 100 → n < z → MG M0 (f_208_38 z M 133 (ii (b : Int)) (ii w) (ii (s 137 b)) (ii a.1) (ii a.2) (ii ((n : Int) - 1))) (ii (if w = 0 then (fitg (fq s 137 b) n a).1 else (fitg (fq s 137 b) n a).2)) s := by
  have h0 := hV.1.1.1.1
  intro n
  induction n with
  | zero =>
    intro z M a x h hn hz
    obtain ⟨y, rfl⟩ : ∃ y, z = y + 1 := ⟨z - 1, by omega⟩
    rw [f_208_38, if_pos (show ii (((0 : Nat) : Int) - 1) < 0 by decide), rP h (j := 6) (P := 137) (by decide) (by decide +kernel), zb_some, zb_some]
    refine MG_bv (wNn h (P := 137) (n := 6) (by decide) (by omega) (by omega)) fun M1 h1 => ?_
    rw [up_up, up_self] at h1
    rcases hw with rfl | rfl
    · rw [if_neg (show ¬ ¬ ii 0 = 0 by decide), if_pos rfl]
      exact MG_ret h1
    · rw [if_pos (show ¬ ii 1 = 0 by decide), if_neg (by decide)]
      exact MG_ret h1
  | succ n ih =>
    intro z M a x h hn hz
    obtain ⟨y, rfl⟩ : ∃ y, z = y + 1 := ⟨z - 1, by omega⟩
    have en : ((n + 1 : Nat) : Int) - 1 = (n : Int) := by omega
    have em : ii (n : Int) + -1 = ii ((n : Int) - 1) := by rw [lm1, ii_add]; rfl
    rw [f_208_38, en, if_neg (show ¬ ii (n : Int) < 0 by rw [show (0 : Int32) = ii 0 from rfl, ii_lt (by omega) (by omega)]; omega), rP h (j := 6) (P := 137) (by decide) (by decide +kernel), zb_some, zb_some]
    refine MG_bv (wNn h (P := 137) (n := 6) (by decide) (by omega) (by omega)) fun M1 h1 => ?_
    rw [up_up] at h1
    rw [c209q hV hb (.inl ⟨rfl, by omega⟩) h1, zb_some]
    unfold f_208_69
    rw [em, fitg]
    by_cases c : fq s 137 b n = true
    · rw [bzT c, if_pos (show ¬ (1 : Int32) = 0 by decide), if_pos c, show (1 : Int32) = ii 1 from rfl, ii_add]
      exact ih y M1 (a.1 + 1, (n : Int)) _ h1 (by omega) (by omega)
    · rw [bzF c, if_neg (show ¬ ¬ (0 : Int32) = 0 by decide), if_neg c]
      exact ih y M1 a _ h1 (by omega) (by omega)
theorem m210a {M0 : ZMem} {s : ZSt} (hV : IV s) {b : Nat} {w : Int} (hb : (b : Int) < s 133 0) (hw : w = 0 ∨ w = 1) : ∀ (n z : Nat) (M : ZMem) (a : Int × Int) (x : Int), MS M0 M (up s 135 b x) → n ≤ 10 → n < z → MG M0 (f_210_38 z M 133 (ii (b : Int)) (ii w) (ii (s 135 b)) (ii a.1) (ii a.2) (ii ((n : Int) - 1))) (ii (if w = 0 then (fitg (fq s 135 b) n a).1 else (fitg (fq s 135 b) n a).2)) s := by
  have h0 := hV.1.1.1.1
  intro n
  induction n with
  | zero =>
    intro z M a x h hn hz
    obtain ⟨y, rfl⟩ : ∃ y, z = y + 1 := ⟨z - 1, by omega⟩
    rw [f_210_38, if_pos (show ii (((0 : Nat) : Int) - 1) < 0 by decide), rP h (j := 4) (P := 135) (by decide) (by decide +kernel), zb_some, zb_some]
    refine MG_bv (wNn h (P := 135) (n := 6) (by decide) (by omega) (by omega)) fun M1 h1 => ?_
    rw [up_up, up_self] at h1
    rcases hw with rfl | rfl
    · rw [if_neg (show ¬ ¬ ii 0 = 0 by decide), if_pos rfl]
      exact MG_ret h1
    · rw [if_pos (show ¬ ii 1 = 0 by decide), if_neg (by decide)]
      exact MG_ret h1
  | succ n ih =>
    intro z M a x h hn hz
    obtain ⟨y, rfl⟩ : ∃ y, z = y + 1 := ⟨z - 1, by omega⟩
    have en : ((n + 1 : Nat) : Int) - 1 = (n : Int) := by omega
    have em : ii (n : Int) + -1 = ii ((n : Int) - 1) := by rw [lm1, ii_add]; rfl
    rw [f_210_38, en, if_neg (show ¬ ii (n : Int) < 0 by rw [show (0 : Int32) = ii 0 from rfl, ii_lt (by omega) (by omega)]; omega), rP h (j := 4) (P := 135) (by decide) (by decide +kernel), zb_some, zb_some]
    refine MG_bv (wNn h (P := 135) (n := 6) (by decide) (by omega) (by omega)) fun M1 h1 => ?_
    rw [up_up] at h1
    rw [c209q hV hb (.inr ⟨rfl, by omega⟩) h1, zb_some]
    unfold f_210_69
    rw [em, fitg]
    by_cases c : fq s 135 b n = true
    · rw [bzT c, if_pos (show ¬ (1 : Int32) = 0 by decide), if_pos c, show (1 : Int32) = ii 1 from rfl, ii_add]
      exact ih y M1 (a.1 + 1, (n : Int)) _ h1 (by omega) (by omega)
    · rw [bzF c, if_neg (show ¬ ¬ (0 : Int32) = 0 by decide), if_neg c]
      exact ih y M1 a _ h1 (by omega) (by omega)
theorem m208 {M0 M : ZMem} {s : ZSt} (h : MS M0 M s) (hV : IV s) {b w : Int} (hb : -2147483648 ≤ b ∧ b < 2147483648) (hw : -2147483648 ≤ w ∧ w < 2147483648) : MG M0 (f_208 M 133 (ii b) (ii w)) (ii (sp110 s 137 100 b w)) s := by
  have h0 := hV.1.1.1.1
  unfold f_208 sp110
  rw [if_pos (zok_ly h.1 k133), c149 h.1 h.2.2 hV.1.1.1 hb, zb_some]
  by_cases c : 0 ≤ b ∧ b < s 133 0
  · obtain ⟨n, rfl⟩ := Int.eq_ofNat_of_zero_le c.1
    have x6 := rN h (j := 6) (P := 137) (n := 6) (by decide) (by decide +kernel) (by decide) (fun _ => rfl) (by omega) (b := n) (by omega)
    rw [if_pos c, if_neg (show ¬ (1 : Int32) = 0 by decide), Int.toNat_natCast, show (1 : Int32) = ii 1 from rfl, show (0 : Int32) = ii 0 from rfl, c147z h.1 hw (by omega) (by omega), zb_some]
    by_cases g : 0 ≤ w ∧ w ≤ 1
    · rw [bzT g, if_pos (show ¬ (1 : Int32) = ii 0 by decide), if_pos ⟨c, g⟩, x6.1, zb_some, zb_some, x6.2, zb_some]
      have q := m208a (M0 := M0) (b := n) (w := w) hV c.2 (by omega) 100 zF M ((0 : Int), (-5 : Int)) (s 137 n) (by rw [up_self]; exact h) (by omega) (by unfold zF; omega)
      rw [show (-5 : Int32) = ii (-5) by decide]
      exact q
    · rw [bzF g, if_neg (show ¬ ¬ (0 : Int32) = ii 0 by decide), if_neg (fun q => g q.2)]
      exact MG_ret h
  · rw [if_neg c, if_pos (show (0 : Int32) = 0 from rfl), if_neg (fun q => c q.1)]
    exact MG_ret h
theorem m210 {M0 M : ZMem} {s : ZSt} (h : MS M0 M s) (hV : IV s) {b w : Int} (hb : -2147483648 ≤ b ∧ b < 2147483648) (hw : -2147483648 ≤ w ∧ w < 2147483648) : MG M0 (f_210 M 133 (ii b) (ii w)) (ii (sp110 s 135 10 b w)) s := by
  have h0 := hV.1.1.1.1
  unfold f_210 sp110
  rw [if_pos (zok_ly h.1 k133), c149 h.1 h.2.2 hV.1.1.1 hb, zb_some]
  by_cases c : 0 ≤ b ∧ b < s 133 0
  · obtain ⟨n, rfl⟩ := Int.eq_ofNat_of_zero_le c.1
    have x6 := rN h (j := 4) (P := 135) (n := 6) (by decide) (by decide +kernel) (by decide) (fun _ => rfl) (by omega) (b := n) (by omega)
    rw [if_pos c, if_neg (show ¬ (1 : Int32) = 0 by decide), Int.toNat_natCast, show (1 : Int32) = ii 1 from rfl, show (0 : Int32) = ii 0 from rfl, c147z h.1 hw (by omega) (by omega), zb_some]
    by_cases g : 0 ≤ w ∧ w ≤ 1
    · rw [bzT g, if_pos (show ¬ (1 : Int32) = ii 0 by decide), if_pos ⟨c, g⟩, x6.1, zb_some, zb_some, x6.2, zb_some]
      have q := m210a (M0 := M0) (b := n) (w := w) hV c.2 (by omega) 10 zF M ((0 : Int), (-5 : Int)) (s 135 n) (by rw [up_self]; exact h) (by omega) (by unfold zF; omega)
      rw [show (-5 : Int32) = ii (-5) by decide]
      exact q
    · rw [bzF g, if_neg (show ¬ ¬ (0 : Int32) = ii 0 by decide), if_neg (fun q => g q.2)]
      exact MG_ret h
  · rw [if_neg c, if_pos (show (0 : Int32) = 0 from rfl), if_neg (fun q => c q.1)]
    exact MG_ret h
