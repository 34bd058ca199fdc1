/-! BEST, FEW, MANY, HALVES, BLOW on the class's side -/
set_option maxRecDepth 20000 in
theorem sh_1 : ∀ n : Nat, n < 400 → ii ((n : Int) - 100) >>> (1 &&& 31) = ii (((n : Int) - 100) / 2) := by decide +kernel
theorem sh1 {a : Int} (h : -100 ≤ a ∧ a < 300) : ii a >>> (1 &&& 31) = ii (a / 2) := by
  have := sh_1 (a + 100).toNat (by omega)
  rw [show (((a + 100).toNat : Nat) : Int) - 100 = a by omega] at this
  exact this
/-- one row alone changes -/
def S1 (p : Nat) (M M' : ZMem) : Prop := Ly M' ∧ (∀ q, q ≠ p → ∀ j, zI M' q j = zI M q j) ∧ (∀ q j, zL M' q j = zL M q j) ∧ ∀ q j, zR M' q j = zR M q j
theorem S1.rf {p : Nat} {M : ZMem} (h : Ly M) : S1 p M M := ⟨h, fun _ _ _ => rfl, fun _ _ => rfl, fun _ _ => rfl⟩
theorem S1.tr {p : Nat} {M M1 M2 : ZMem} (h : S1 p M M1) (h' : S1 p M1 M2) : S1 p M M2 := ⟨h'.1, fun q hq j => (h'.2.1 q hq j).trans (h.2.1 q hq j), fun q j => (h'.2.2.1 q j).trans (h.2.2.1 q j), fun q j => (h'.2.2.2 q j).trans (h.2.2.2 q j)⟩
theorem S1.pI {p : Nat} {M M1 : ZMem} (h : S1 p M M1) {k : Nat} {v : Int32} : S1 p M (zpI M1 p k v) := ⟨h.1.p, fun q hq j => (zI_ne hq).trans (h.2.1 q hq j), h.2.2.1, h.2.2.2⟩
theorem S1.sv {p : Nat} {M M' : ZMem} (h : S1 p M M') (hp : 97 ≤ p ∧ p ≤ 105) : Sv M M' := ⟨h.1, fun q hq j => h.2.1 q (by omega) j, h.2.2.1, h.2.2.2⟩
/-- the values stand for a block -/
def VS (M : ZMem) (s : ZSt) (b : Nat) (fu ha : Int) : Prop := (Ly M ∧ BLo M s 99 b ∧ VLo M (thn s) (mst s) fu ha) ∧ (SBk s 0 b ∧ 0 ≤ s 133 1) ∧ ((1 ≤ thn s ∧ thn s ≤ 99) ∧ thn s ≤ mst s ∧ mst s ≤ 99) ∧ (0 ≤ fu ∧ fu ≤ 1000) ∧ 0 ≤ ha ∧ ha ≤ 1000
theorem VS.s1 {M M' : ZMem} {s : ZSt} {b : Nat} {fu ha : Int} (h : VS M s b fu ha) {p : Nat} (hp : p = 100 ∨ p = 101) (e : S1 p M M') : VS M' s b fu ha := by
  obtain ⟨⟨_, h2, h3⟩, h4⟩ := h
  refine ⟨⟨e.1, ?_, ?_⟩, h4⟩
  · unfold BLo at h2 ⊢; simp only [e.2.1 99 (by omega)]; exact h2
  · unfold VLo at h3 ⊢; simp only [e.2.1 98 (by omega)]; exact h3
def yW (s : ZSt) (fu ha : Int) (t : Nat) : Int := wr5 (thn s) (mst s) fu ha t
def yC (s : ZSt) (b : Nat) (t x : Nat) : Bool := decide (cle s b t x)
theorem VS.w {M : ZMem} {s : ZSt} {b : Nat} {fu ha : Int} (h : VS M s b fu ha) (t : Nat) : 0 ≤ yW s fu ha t ∧ yW s fu ha t ≤ 1000 := by
  have h1 := h.2.2.2.1
  have h2 := h.2.2.2.2
  unfold yW wr5
  (repeat' split) <;> omega
theorem VS.tb {M : ZMem} {s : ZSt} {b : Nat} {fu ha : Int} (h : VS M s b fu ha) {t : Nat} (ht : t ≤ 60) : 0 ≤ yT (yW s fu ha) (yC s b) t ∧ yT (yW s fu ha) (yC s b) t ≤ 60000 := by
  have := yT_b (W := yW s fu ha) (C := yC s b) h.w t
  omega
theorem c40 {M : ZMem} {s : ZSt} {b : Nat} {fu ha : Int} (h : VS M s b fu ha) {t x : Nat} (ht : 1 ≤ t ∧ t ≤ 60) (hx : x ≤ 100) (hc : ∀ k, k < t → zI M 100 k = ii (yT (yW s fu ha) (yC s b) k)) : f_40 M 98 (ii t) (ii x) = some (ii (ycs (yC s b) (yT (yW s fu ha) (yC s b)) t x)) := by
  have hL := h.1.1
  have e41 := c41s (o := 99) (b := b) hL (.inr rfl) h.1.2.1 h.2.1.1 h.2.1.2 (t := (t : Int)) (x := (x : Int)) (by omega) (by omega)
  unfold f_40 ycs
  simp only [cV hL, if_true, zb_some]
  rw [show (1 : Int32) = ii 1 from rfl, ii_sub, c14z (by omega) (by omega) (by omega), zb_some]
  by_cases c1 : 1 ≤ x ∧ x ≤ t - 1
  · rw [bzT (show (1 : Int) ≤ (x : Int) ∧ (x : Int) ≤ (t : Int) - 1 by omega), if_neg (show ¬ (1 : Int32) = 0 by decide), e41, zb_some]
    by_cases c2 : cle s b t x
    · have c3 : yC s b t x = true := decide_eq_true c2
      rw [bzT c2, if_neg (show ¬ (1 : Int32) = 0 by decide), if_pos ⟨c1, c3⟩]
      have e1 : (t : Int) - (x : Int) = ((t - x : Nat) : Int) := by omega
      rw [ii_sub, e1]
      simp (disch := omega) only [cV hL, zb_some, Int.toNat_natCast, hc x (by omega), hc (t - x) (by omega), ii_add]
    · have c3 : ¬ yC s b t x = true := fun q => c2 (of_decide_eq_true q)
      rw [bzF c2, if_pos (show (0 : Int32) = 0 from rfl), if_neg (fun q => c3 q.2)]
      rfl
  · rw [bzF (show ¬ ((1 : Int) ≤ (x : Int) ∧ (x : Int) ≤ (t : Int) - 1) by omega), if_pos (show (0 : Int32) = 0 from rfl), if_neg (fun q => c1 q.1)]
    rfl
theorem ycs_b {M : ZMem} {s : ZSt} {b : Nat} {fu ha : Int} (h : VS M s b fu ha) {t : Nat} (ht : t ≤ 60) (x : Nat) : 0 ≤ ycs (yC s b) (yT (yW s fu ha) (yC s b)) t x ∧ ycs (yC s b) (yT (yW s fu ha) (yC s b)) t x ≤ 60000 := by
  unfold ycs
  split
  · rename_i q
    have a1 := yT_b (W := yW s fu ha) (C := yC s b) h.w x
    have a2 := yT_b (W := yW s fu ha) (C := yC s b) h.w (t - x)
    omega
  · omega
theorem c35i {r : ZMem → Nat → Int32 → Int32 → Option ZMem} {M : ZMem} {s : ZSt} {b : Nat} {fu ha : Int} (h : VS M s b fu ha) {t : Nat} (ht : 1 ≤ t ∧ t ≤ 60) (T : Int) (hc : ∀ k, k < t → zI M 100 k = ii (yT (yW s fu ha) (yC s b) k)) {hi : Int} (hhi : -1 ≤ hi ∧ hi ≤ 60) :
    ∀ (n z x : Nat) (f : Int), (hi + 1 - x).toNat = n → n < z → x ≤ 100 → (0 ≤ f ∧ f ≤ 60000) → ∃ R, f_35_57 r z M 98 (ii T) (ii t) (ii f) (ii hi) (ii x) = r (zpI M 100 t (ii R)) 98 (ii T) (ii ((t + 1 : Nat) : Int)) ∧ ∀ c, R ≤ c ↔ f ≤ c ∧ (∀ x' : Nat, x ≤ x' → (x' : Int) ≤ hi → ycs (yC s b) (yT (yW s fu ha) (yC s b)) t x' ≤ c) ∧ ycs (yC s b) (yT (yW s fu ha) (yC s b)) t (s 135 b + 1).toNat ≤ c := by
  have hL := h.1.1
  have v2 : 0 ≤ s 135 b ∧ s 135 b ≤ 9 := h.2.1.1.2.1
  intro n
  induction n with
  | zero =>
    intro z x f e hz hx hf
    obtain ⟨w, rfl⟩ : ∃ w, z = w + 1 := ⟨z - 1, by omega⟩
    have hb := ycs_b h ht.2 (s 135 b + 1).toNat
    have e40 := c40 h ht (x := (s 135 b + 1).toNat) (by omega) hc
    rw [show (((s 135 b + 1).toNat : Nat) : Int) = s 135 b + 1 by omega] at e40
    have e3 : zI M 99 3 = ii (s 135 b + 1) := h.1.2.1.2.2.2
    refine ⟨max f (ycs (yC s b) (yT (yW s fu ha) (yC s b)) t (s 135 b + 1).toNat), ?_, fun c => ?_⟩
    · rw [f_35_57, if_pos (show ii hi < ii (x : Int) by rw [ii_lt (by omega) (by omega)]; omega)]
      simp only [cV hL, zb_some, e3, e40]
      rw [c24i (by omega) (by omega), zb_some]
      simp (disch := omega) only [cV hL, zb_some, Int.toNat_natCast, show (1 : Int32) = ii 1 from rfl, ii_add]
      rfl
    · constructor
      · intro q
        exact ⟨by omega, fun x' h1 h2 => by omega, by omega⟩
      · rintro ⟨q1, _, q2⟩
        omega
  | succ n ih =>
    intro z x f e hz hx hf
    obtain ⟨w, rfl⟩ : ∃ w, z = w + 1 := ⟨z - 1, by omega⟩
    have hb := ycs_b h ht.2 x
    obtain ⟨R, e1, e2⟩ := ih w (x + 1) (max f (ycs (yC s b) (yT (yW s fu ha) (yC s b)) t x)) (by omega) (by omega) (by omega) (by omega)
    refine ⟨R, ?_, fun c => ?_⟩
    · rw [f_35_57, if_neg (show ¬ ii hi < ii (x : Int) by rw [ii_lt (by omega) (by omega)]; omega), c40 h ht hx hc, zb_some, c24i (by omega) (by omega), zb_some, show (1 : Int32) = ii 1 from rfl, ii_add]
      exact e1
    · rw [e2 c]
      constructor
      · rintro ⟨q1, q2, q3⟩
        refine ⟨by omega, fun x' h1 h2 => ?_, q3⟩
        by_cases g : x' = x
        · rw [g]; omega
        · exact q2 x' (by omega) h2
      · rintro ⟨q1, q2, q3⟩
        have := q2 x (Nat.le_refl _) (by omega)
        exact ⟨by omega, fun x' h1 h2 => q2 x' (by omega) h2, q3⟩
theorem c38 {M : ZMem} {s : ZSt} {b : Nat} {fu ha : Int} (h : VS M s b fu ha) {t : Nat} (ht : 1 ≤ t ∧ t ≤ 60) : f_38 M 99 (ii t) = some (ii (min ((t : Int) - 1) (((t : Int) + lnn s b + grp (s 134 b) (s 135 b) (s 137 b)) / 2))) := by
  have hL := h.1.1
  obtain ⟨b0, b1, b2, b3⟩ := h.1.2.1
  have hl := lnn_b h.2.1.1 h.2.1.2
  have hg := grp_b (K := s 134 b) (v := s 135 b) (d := s 137 b) h.2.1.1.2.1 h.2.1.1.2.2.2.1.1
  unfold f_38
  simp only [cV hL, if_true, zb_some, b1, b2]
  rw [ii_add, ii_add, sh1 (by omega), show (1 : Int32) = ii 1 from rfl, ii_sub, c37i (by omega) (by omega), zb_some]
theorem c39 {M : ZMem} {s : ZSt} {b : Nat} {fu ha : Int} (h : VS M s b fu ha) {t : Nat} (ht : 1 ≤ t ∧ t ≤ 60) : f_39 M 99 (ii t) = some (ii (max 1 (((t : Int) + lnn s b - grp (s 134 b) (s 135 b) (s 137 b) + 1) / 2))) := by
  have hL := h.1.1
  obtain ⟨b0, b1, b2, b3⟩ := h.1.2.1
  have hl := lnn_b h.2.1.1 h.2.1.2
  have hg := grp_b (K := s 134 b) (v := s 135 b) (d := s 137 b) h.2.1.1.2.1 h.2.1.1.2.2.2.1.1
  unfold f_39
  simp only [cV hL, if_true, zb_some, b1, b2]
  have e1 : ii (t : Int) + ii (lnn s b) - ii (grp (s 134 b) (s 135 b) (s 137 b)) + 1 = ii ((t : Int) + lnn s b - grp (s 134 b) (s 135 b) (s 137 b) + 1) := by
    rw [ii_add, ii_sub, show (1 : Int32) = ii 1 from rfl, ii_add]
  rw [e1, sh1 (by omega), show (1 : Int32) = ii 1 from rfl, c24i (by omega) (by omega), zb_some]
theorem cle_nr {s : ZSt} {b : Nat} {t x : Int} (h : cle s b t x) : nr (grp (s 134 b) (s 135 b) (s 137 b)) (lnn s b) t x ∨ x = s 135 b + 1 := by
  unfold cle cln at h
  split at h
  · exact h
  · split at h
    · exact .inl h.1
    · split at h
      · exact .inl h.1
      · exact .inl h
theorem c35o {s : ZSt} {b : Nat} {fu ha : Int} {T : Nat} (hT : T ≤ 60) : ∀ (n z t : Nat) (M : ZMem), VS M s b fu ha → 1 ≤ t → t + n = T + 1 → n < z → (∀ k, k < t → zI M 100 k = ii (yT (yW s fu ha) (yC s b) k)) → ∃ M', f_35_14 z M 98 (ii T) (ii t) = some M' ∧ S1 100 M M' ∧ ∀ k, k ≤ T → zI M' 100 k = ii (yT (yW s fu ha) (yC s b) k) := by
  intro n
  induction n with
  | zero =>
    intro z t M h ht e hz hc
    obtain ⟨w, rfl⟩ : ∃ w, z = w + 1 := ⟨z - 1, by omega⟩
    refine ⟨M, ?_, S1.rf h.1.1, fun k hk => hc k (by omega)⟩
    rw [f_35_14, if_pos (show ii (T : Int) < ii (t : Int) by rw [ii_lt (by omega) (by omega)]; omega)]
  | succ n ih =>
    intro z t M h ht e hz hc
    obtain ⟨w, rfl⟩ : ∃ w, z = w + 1 := ⟨z - 1, by omega⟩
    have hL := h.1.1
    have hW := h.w t
    have hT1 := h.tb (t := t - 1) (by omega)
    have hl := lnn_b h.2.1.1 h.2.1.2
    have hg := grp_b (K := s 134 b) (v := s 135 b) (d := s 137 b) h.2.1.1.2.1 h.2.1.1.2.2.2.1.1
    have v2 : 0 ≤ s 135 b ∧ s 135 b ≤ 9 := h.2.1.1.2.1
    have e33 := c33 hL h.1.2.2 (t := (t : Int)) (by omega) (by have := h.2.2.1; omega) (by have := h.2.2.1; omega)
    have e38 := c38 h (t := t) (by omega)
    have e39 := c39 h (t := t) (by omega)
    generalize hG : grp (s 134 b) (s 135 b) (s 137 b) = G at hg e38 e39
    generalize hN : lnn s b = N at hl e38 e39
    obtain ⟨lo, hlo⟩ : ∃ lo : Nat, (lo : Int) = max 1 (((t : Int) + N - G + 1) / 2) := ⟨(max 1 (((t : Int) + N - G + 1) / 2)).toNat, by omega⟩
    obtain ⟨hi, hhi⟩ : ∃ hi : Nat, (hi : Int) = min ((t : Int) - 1) (((t : Int) + N + G) / 2) := ⟨(min ((t : Int) - 1) (((t : Int) + N + G) / 2)).toNat, by omega⟩
    rw [← hhi] at e38
    rw [← hlo] at e39
    obtain ⟨R, r1, r2⟩ := c35i (r := fun M a0 a1 a2 => f_35_14 w M a0 a1 a2) h (t := t) (by omega) (T : Int) hc (hi := (hi : Int)) (by omega) ((hi : Int) + 1 - lo).toNat zF lo (max (yW s fu ha t) (yT (yW s fu ha) (yC s b) (t - 1))) rfl (by unfold zF; omega) (by omega) (by omega)
    have hR : R = yT (yW s fu ha) (yC s b) t := by
      refine yT_cls (fun t => (h.w t).1) (lo := lo) (hi := hi) (mk := (s 135 b + 1).toNat) ht ?_ ?_
      · intro x h1 h2 h3
        have h4 := cle_nr (of_decide_eq_true h3)
        rw [hG, hN] at h4
        rcases h4 with h4 | h4
        · unfold nr at h4; left; omega
        · right; omega
      · intro c
        rw [r2 c]
        constructor
        · rintro ⟨q1, q2, q3⟩
          exact ⟨by omega, fun x h1 h2 => q2 x h1 (by omega), q3⟩
        · rintro ⟨q1, q2, q3⟩
          exact ⟨by omega, fun x h1 h2 => q2 x h1 (by omega), q3⟩
    have hS : S1 100 M (zpI M 100 t (ii R)) := (S1.rf hL).pI
    obtain ⟨M', m1, m2, m3⟩ := ih w (t + 1) (zpI M 100 t (ii R)) (h.s1 (.inl rfl) hS) (by omega) (by omega) (by omega) (fun k hk => by
      by_cases g : k = t
      · rw [g, zI_at, hR]
      · rw [zI_nk g]; exact hc k (by omega))
    refine ⟨M', ?_, hS.tr m2, m3⟩
    rw [f_35_14, if_neg (show ¬ ii (T : Int) < ii (t : Int) by rw [ii_lt (by omega) (by omega)]; omega), e33, zb_some]
    simp only [cV hL, zb_some, e38, e39]
    rw [show (1 : Int32) = ii 1 from rfl, ii_sub, show (t : Int) - 1 = ((t - 1 : Nat) : Int) by omega]
    simp (disch := omega) only [cV hL, zb_some, Int.toNat_natCast, hc (t - 1) (by omega)]
    show zb (f_24 M (ii (yW s fu ha t)) _) _ = _
    rw [c24i (by omega) (by omega), zb_some, r1]
    exact m1
theorem c36 {M : ZMem} {T : Int} (hT : 0 ≤ T ∧ T ≤ 60) : f_36 M (ii T) = some (ii T) := by
  unfold f_36
  rw [show (60 : Int32) = ii 60 from rfl, show (0 : Int32) = ii 0 from rfl, c37i (by omega) (by omega), zb_some, c24i (by omega) (by omega), zb_some, show max 0 (min 60 T) = T by omega]
theorem c35 {M : ZMem} {s : ZSt} {b : Nat} {fu ha : Int} (h : VS M s b fu ha) {T : Nat} (hT : T ≤ 60) : ∃ M', f_35 M 98 (ii T) = some M' ∧ S1 100 M M' ∧ ∀ k, k ≤ T → zI M' 100 k = ii (yT (yW s fu ha) (yC s b) k) := by
  have hL := h.1.1
  have hS : S1 100 M (zpI M 100 0 (ii 0)) := (S1.rf hL).pI
  obtain ⟨M', m1, m2, m3⟩ := c35o (s := s) (b := b) (fu := fu) (ha := ha) hT T zF 1 (zpI M 100 0 (ii 0)) (h.s1 (.inl rfl) hS) (by omega) (by omega) (by unfold zF; omega) (fun k hk => by rw [show k = 0 by omega, zI_at]; rfl)
  refine ⟨M', ?_, hS.tr m2, m3⟩
  unfold f_35
  simp only [cV hL, if_true, zb_some, c36 (M := M) (T := (T : Int)) (by omega)]
  simp (disch := omega) only [cV hL, zb_some, show (0 : Int32) = ii 0 from rfl]
  exact m1
