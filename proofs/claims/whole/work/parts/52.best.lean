/-! BEST, FEW, MANY, HALVES, BLOW: the class's answers -/
theorem c34 {M : ZMem} {s : ZSt} {b : Nat} {fu ha : Int} (h : VS M s b fu ha) {T : Nat} (hT : T ≤ 60) : ∃ M', f_34 M 98 (ii T) = some (ii (yT (yW s fu ha) (yC s b) T), M') ∧ S1 100 M M' := by
  obtain ⟨M', m1, m2, m3⟩ := c35 h hT
  refine ⟨M', ?_, m2⟩
  unfold f_34
  simp only [cV h.1.1, if_true, m1, zb_some, cV m2.1, c36 (M := M') (T := (T : Int)) (by omega)]
  simp (disch := omega) only [cV m2.1, zb_some, Int.toNat_natCast, m3 T (Nat.le_refl _)]
theorem c44 {M : ZMem} {s : ZSt} {b : Nat} {fu ha : Int} (h : VS M s b fu ha) {p : Nat} (hp : p = 100 ∨ p = 101) {U : Nat → Int} {t x : Nat} (ht : t ≤ 60) (h1 : 1 ≤ x) (h2 : x ≤ t - 1) (hc : ∀ k, k < t → zI M p k = ii (U k)) : f_44 M 98 (some p) (ii t) (ii x) = some (ii (yBv (yC s b) U t x)) := by
  have hL := h.1.1
  have e41 := c41s (o := 99) (b := b) hL (.inr rfl) h.1.2.1 h.2.1.1 h.2.1.2 (t := (t : Int)) (x := (x : Int)) (by omega) (by omega)
  have zl : zlen none M p = some (ii 61) := by
    rcases hp with rfl | rfl <;> simp only [cV hL]
  have za : ∀ k : Nat, k < t → zai M p (ii (k : Int)) = some (ii (U k)) := by
    intro k hk
    rcases hp with rfl | rfl <;> simp (disch := omega) only [cV hL, Int.toNat_natCast, hc k hk]
  unfold f_44 yBv
  rw [if_pos (show zok M 9 98 = true by simp only [cV hL]), zb_some, zl, zb_some, if_neg (show ¬ ii 61 ≤ ii (t : Int) by rw [ii_le (by omega) (by omega)]; omega), show (1 : Int32) = ii 1 from rfl, ii_sub, c14z (by omega) (by omega) (by omega), zb_some, bzT (show (1 : Int) ≤ (x : Int) ∧ (x : Int) ≤ (t : Int) - 1 by omega), if_pos (show ¬ (1 : Int32) = 0 by decide)]
  simp only [cV hL, zb_some, e41]
  have e1 : (t : Int) - (x : Int) = ((t - x : Nat) : Int) := by omega
  by_cases c : cle s b t x
  · have c3 : yC s b t x = true := decide_eq_true c
    rw [bzT c, if_neg (show ¬ (1 : Int32) = 0 by decide), if_pos c3, ii_sub, e1, za x (by omega), zb_some, za (t - x) (by omega), zb_some, ii_add]
  · have c3 : ¬ yC s b t x = true := fun q => c (of_decide_eq_true q)
    rw [bzF c, if_pos (show (0 : Int32) = 0 from rfl), if_neg c3, ii_sub, e1, c24i (by omega) (by omega), zb_some, show max (x : Int) ((t - x : Nat) : Int) = ((max x (t - x) : Nat) : Int) by omega, za _ (by omega), zb_some]
/-- FEW of a piece -/
theorem c43 {M : ZMem} {s : ZSt} {b : Nat} {fu ha : Int} (h : VS M s b fu ha) {t : Nat} (ht : 1 ≤ t ∧ t ≤ 60) (hb : ∀ k, k ≤ t → zI M 100 k = ii (yT (yW s fu ha) (yC s b) k)) (hf : ∀ k, k < t → zI M 101 k = ii (yF (yW s fu ha) (yC s b) k)) :
    ∀ (n z x : Nat), x + n = t → n < z → 1 ≤ x → f_43_5 z M 98 (ii t) (ii (ymn (fun x => yBv (yC s b) (yT (yW s fu ha) (yC s b)) t x = yT (yW s fu ha) (yC s b) t) (fun x => 1 + yBv (yC s b) (yF (yW s fu ha) (yC s b)) t x) 60 (x - 1))) (ii x) = some (ii (ymn (fun x => yBv (yC s b) (yT (yW s fu ha) (yC s b)) t x = yT (yW s fu ha) (yC s b) t) (fun x => 1 + yBv (yC s b) (yF (yW s fu ha) (yC s b)) t x) 60 (t - 1))) := by
  have hL := h.1.1
  have hym : ∀ m, m ≤ t - 1 → 0 ≤ ymn (fun x => yBv (yC s b) (yT (yW s fu ha) (yC s b)) t x = yT (yW s fu ha) (yC s b) t) (fun x => 1 + yBv (yC s b) (yF (yW s fu ha) (yC s b)) t x) 60 m ∧ ymn (fun x => yBv (yC s b) (yT (yW s fu ha) (yC s b)) t x = yT (yW s fu ha) (yC s b) t) (fun x => 1 + yBv (yC s b) (yF (yW s fu ha) (yC s b)) t x) 60 m ≤ 60 := fun m hm => ⟨ymn_lb (by omega) (fun x q1 q2 => by have := yF_B (W := yW s fu ha) (C := yC s b) ht.2 q1 (show x ≤ t - 1 by omega); omega), ymn_a⟩
  intro n
  induction n with
  | zero =>
    intro z x e hz hx
    obtain ⟨w, rfl⟩ : ∃ w, z = w + 1 := ⟨z - 1, by omega⟩
    rw [f_43_5, if_pos (show ii (t : Int) ≤ ii (x : Int) by rw [ii_le (by omega) (by omega)]; omega), show x - 1 = t - 1 by omega]
  | succ n ih =>
    intro z x e hz hx
    obtain ⟨w, rfl⟩ : ∃ w, z = w + 1 := ⟨z - 1, by omega⟩
    have b1 := yT_b (W := yW s fu ha) (C := yC s b) h.w t
    have b2 : 0 ≤ yBv (yC s b) (yT (yW s fu ha) (yC s b)) t x ∧ yBv (yC s b) (yT (yW s fu ha) (yC s b)) t x ≤ 60000 := by
      unfold yBv
      have a1 := yT_b (W := yW s fu ha) (C := yC s b) h.w x
      have a2 := yT_b (W := yW s fu ha) (C := yC s b) h.w (t - x)
      have a3 := yT_b (W := yW s fu ha) (C := yC s b) h.w (max x (t - x))
      split <;> omega
    have b3 := yF_B (W := yW s fu ha) (C := yC s b) ht.2 hx (show x ≤ t - 1 by omega)
    have b4 := hym (x - 1) (by omega)
    have i1 := ih w (x + 1) (by omega) (by omega) (by omega)
    rw [show x + 1 - 1 = (x - 1) + 1 by omega, ymn, show x - 1 + 1 = x by omega] at i1
    have e44a := c44 h (p := 100) (.inl rfl) ht.2 hx (show x ≤ t - 1 by omega) (fun k hk => hb k (by omega))
    have e44b := c44 h (p := 101) (.inr rfl) ht.2 hx (show x ≤ t - 1 by omega) (fun k hk => hf k (by omega))
    have zt : zai M 100 (ii (t : Int)) = some (ii (yT (yW s fu ha) (yC s b) t)) := by
      simp (disch := omega) only [cV hL, Int.toNat_natCast, hb t (Nat.le_refl _)]
    have ek : ii (x : Int) + 1 = ii ((x + 1 : Nat) : Int) := by rw [show (1 : Int32) = ii 1 from rfl, ii_add]; rfl
    rw [f_43_5, if_neg (show ¬ ii (t : Int) ≤ ii (x : Int) by rw [ii_le (by omega) (by omega)]; omega)]
    unfold f_43_46
    simp only [cV hL, zb_some, e44a, e44b, zt, ek]
    by_cases c : yBv (yC s b) (yT (yW s fu ha) (yC s b)) t x = yT (yW s fu ha) (yC s b) t
    · rw [if_pos c] at i1
      rw [if_neg (show ¬ ¬ ii (yBv (yC s b) (yT (yW s fu ha) (yC s b)) t x) = ii (yT (yW s fu ha) (yC s b) t) by rw [c]; exact fun q => q rfl), show (1 : Int32) = ii 1 from rfl, ii_add, c37i (by omega) (by omega), zb_some]
      exact i1
    · rw [if_neg c] at i1
      rw [if_pos (show ¬ ii (yBv (yC s b) (yT (yW s fu ha) (yC s b)) t x) = ii (yT (yW s fu ha) (yC s b) t) by rw [ii_eq (by omega) (by omega)]; exact c)]
      exact i1
theorem c42o {s : ZSt} {b : Nat} {fu ha : Int} {T : Nat} (hT : T ≤ 60) : ∀ (n z t : Nat) (M : ZMem), VS M s b fu ha → (∀ k, k ≤ T → zI M 100 k = ii (yT (yW s fu ha) (yC s b) k)) → 1 ≤ t → t + n = T + 1 → n < z → (∀ k, k < t → zI M 101 k = ii (yF (yW s fu ha) (yC s b) k)) → ∃ M', f_42_19 z M 98 (ii T) (ii t) = some (ii (yF (yW s fu ha) (yC s b) T), M') ∧ S1 101 M M' := by
  intro n
  induction n with
  | zero =>
    intro z t M h hb ht e hz hc
    obtain ⟨w, rfl⟩ : ∃ w, z = w + 1 := ⟨z - 1, by omega⟩
    have hL := h.1.1
    refine ⟨M, ?_, S1.rf hL⟩
    rw [f_42_19, if_pos (show ii (T : Int) < ii (t : Int) by rw [ii_lt (by omega) (by omega)]; omega)]
    simp (disch := omega) only [cV hL, zb_some, Int.toNat_natCast, hc T (by omega)]
  | succ n ih =>
    intro z t M h hb ht e hz hc
    obtain ⟨w, rfl⟩ : ∃ w, z = w + 1 := ⟨z - 1, by omega⟩
    have hL := h.1.1
    have hW := h.w t
    have b1 := yT_b (W := yW s fu ha) (C := yC s b) h.w t
    have e33 := c33 hL h.1.2.2 (t := (t : Int)) (by omega) (by have := h.2.2.1; omega) (by have := h.2.2.1; omega)
    have zt : zai M 100 (ii (t : Int)) = some (ii (yT (yW s fu ha) (yC s b) t)) := by
      simp (disch := omega) only [cV hL, Int.toNat_natCast, hb t (by omega)]
    have ek : ii (t : Int) + 1 = ii ((t + 1 : Nat) : Int) := by rw [show (1 : Int32) = ii 1 from rfl, ii_add]; rfl
    have hS : ∀ v, S1 101 M (zpI M 101 t v) := fun v => (S1.rf hL).pI
    have nx : ∀ R : Int, R = yF (yW s fu ha) (yC s b) t → ∃ M', zb (zsa M 20 101 (ii (t : Int)) (ii R)) (fun M45 => f_42_19 w M45 98 (ii T) (ii ((t + 1 : Nat) : Int))) = some (ii (yF (yW s fu ha) (yC s b) T), M') ∧ S1 101 M M' := by
      intro R hR
      obtain ⟨M', m1, m2⟩ := ih w (t + 1) (zpI M 101 t (ii R)) (h.s1 (.inr rfl) (hS _)) (fun k hk => (zI_ne (by omega)).trans (hb k hk)) (by omega) (by omega) (by omega) (fun k hk => by
        by_cases g : k = t
        · rw [g, zI_at, hR]
        · rw [zI_nk g]; exact hc k (by omega))
      refine ⟨M', ?_, (hS _).tr m2⟩
      simp (disch := omega) only [cV hL, zb_some, Int.toNat_natCast]
      exact m1
    rw [f_42_19, if_neg (show ¬ ii (T : Int) < ii (t : Int) by rw [ii_lt (by omega) (by omega)]; omega)]
    unfold f_42_52
    simp only [cV hL, zb_some, zt, e33, ek]
    by_cases c : yT (yW s fu ha) (yC s b) t = yW s fu ha t
    · rw [if_neg (show ¬ ¬ ii (yT (yW s fu ha) (yC s b) t) = ii (wr5 (thn s) (mst s) fu ha (t : Int)) by rw [c]; exact fun q => q rfl)]
      refine nx 0 ?_
      rw [yF_eq _ _ ht, ysF, if_pos c]
    · have hW' : 0 ≤ wr5 (thn s) (mst s) fu ha (t : Int) ∧ wr5 (thn s) (mst s) fu ha (t : Int) ≤ 1000 := hW
      have e43 := c43 h (t := t) (by omega) (fun k hk => hb k (by omega)) hc (t - 1) zF 1 (by omega) (by unfold zF; omega) (by omega)
      rw [if_pos (show ¬ ii (yT (yW s fu ha) (yC s b) t) = ii (wr5 (thn s) (mst s) fu ha (t : Int)) by rw [ii_eq (by omega) (by omega)]; exact c)]
      have e43' : f_43 M 98 (ii (t : Int)) = some (ii (yF (yW s fu ha) (yC s b) t)) := by
        unfold f_43
        rw [if_pos (show zok M 9 98 = true by simp only [cV hL]), yF_eq _ _ ht, ysF, if_neg c]
        exact e43
      rw [e43', zb_some]
      exact nx _ rfl
theorem c42 {M : ZMem} {s : ZSt} {b : Nat} {fu ha : Int} (h : VS M s b fu ha) {T : Nat} (hT : T ≤ 60) : ∃ M', f_42 M 98 (ii T) = some (ii (yF (yW s fu ha) (yC s b) T), M') ∧ Sv M M' := by
  obtain ⟨M3, m1, m2, m3⟩ := c35 h hT
  have h3 := h.s1 (.inl rfl) m2
  have hS : S1 101 M3 (zpI M3 101 0 (ii 0)) := (S1.rf m2.1).pI
  obtain ⟨M', n1, n2⟩ := c42o (s := s) (b := b) (fu := fu) (ha := ha) hT T zF 1 (zpI M3 101 0 (ii 0)) (h3.s1 (.inr rfl) hS) (fun k hk => (zI_ne (by omega)).trans (m3 k hk)) (by omega) (by omega) (by unfold zF; omega) (fun k hk => by rw [show k = 0 by omega, zI_at]; rfl)
  refine ⟨M', ?_, (m2.sv (by omega)).tr ((hS.tr n2).sv (by omega))⟩
  unfold f_42
  simp only [cV h.1.1, if_true, m1, zb_some, cV m2.1, c36 (M := M3) (T := (T : Int)) (by omega)]
  simp (disch := omega) only [cV m2.1, zb_some, show (0 : Int32) = ii 0 from rfl]
  exact n1
/-- HALVES -/
theorem c46o {s : ZSt} {b : Nat} {fu ha : Int} {T : Nat} (hT : T ≤ 60) : ∀ (n z t : Nat) (M : ZMem), VS M s b fu ha → 1 ≤ t → t + n = T + 1 → n < z → (∀ k, k < t → zI M 101 k = ii (yH (yW s fu ha) (yC s b) (mst s) k)) → ∃ M', f_46_14 z M 98 (ii T) (ii t) = some (ii (yH (yW s fu ha) (yC s b) (mst s) T), M') ∧ S1 101 M M' := by
  intro n
  induction n with
  | zero =>
    intro z t M h ht e hz hc
    obtain ⟨w, rfl⟩ : ∃ w, z = w + 1 := ⟨z - 1, by omega⟩
    have hL := h.1.1
    refine ⟨M, ?_, S1.rf hL⟩
    rw [f_46_14, if_pos (show ii (T : Int) < ii (t : Int) by rw [ii_lt (by omega) (by omega)]; omega)]
    simp (disch := omega) only [cV hL, zb_some, Int.toNat_natCast, hc T (by omega)]
  | succ n ih =>
    intro z t M h ht e hz hc
    obtain ⟨w, rfl⟩ : ∃ w, z = w + 1 := ⟨z - 1, by omega⟩
    have hL := h.1.1
    have hm := h.2.2.1
    have e33 := c33 hL h.1.2.2 (t := (t : Int)) (by omega) (by omega) (by omega)
    have ek : ii (t : Int) + 1 = ii ((t + 1 : Nat) : Int) := by rw [show (1 : Int32) = ii 1 from rfl, ii_add]; rfl
    have hS : ∀ v, S1 101 M (zpI M 101 t v) := fun v => (S1.rf hL).pI
    have nx : ∀ R : Int, R = yH (yW s fu ha) (yC s b) (mst s) t → ∃ M', zb (zsa M 20 101 (ii (t : Int)) (ii R)) (fun M45 => f_46_14 w M45 98 (ii T) (ii ((t + 1 : Nat) : Int))) = some (ii (yH (yW s fu ha) (yC s b) (mst s) T), M') ∧ S1 101 M M' := by
      intro R hR
      obtain ⟨M', m1, m2⟩ := ih w (t + 1) (zpI M 101 t (ii R)) (h.s1 (.inr rfl) (hS _)) (by omega) (by omega) (by omega) (fun k hk => by
        by_cases g : k = t
        · rw [g, zI_at, hR]
        · rw [zI_nk g]; exact hc k (by omega))
      refine ⟨M', ?_, (hS _).tr m2⟩
      simp (disch := omega) only [cV hL, zb_some, Int.toNat_natCast]
      exact m1
    have e4 : zI M 98 4 = ii (mst s) := h.1.2.2.2.1
    rw [f_46_14, if_neg (show ¬ ii (T : Int) < ii (t : Int) by rw [ii_lt (by omega) (by omega)]; omega)]
    unfold f_46_52
    simp only [cV hL, zb_some, e4, e33, ek]
    by_cases c : (t : Int) ≤ mst s
    · rw [if_neg (show ¬ ii (mst s) < ii (t : Int) by rw [ii_lt (by omega) (by omega)]; omega)]
      refine nx _ ?_
      rw [yH_eq _ _ (by omega) ht, ysH, if_pos c]
      rfl
    · have e44 := c44 h (p := 101) (.inr rfl) (t := t) (x := t / 2) (by omega) (by omega) (by omega) hc
      rw [if_pos (show ii (mst s) < ii (t : Int) by rw [ii_lt (by omega) (by omega)]; omega), show (2 : Int32) = ii 2 from rfl, ii_div (by omega) (by omega), show (t : Int) / 2 = ((t / 2 : Nat) : Int) by omega, e44, zb_some]
      refine nx _ ?_
      rw [yH_eq _ _ (by omega) ht, ysH, if_neg c]
      unfold yBv
      rw [show max (t / 2) (t - t / 2) = t - t / 2 by omega]
theorem c46 {M : ZMem} {s : ZSt} {b : Nat} {fu ha : Int} (h : VS M s b fu ha) {T : Nat} (hT : T ≤ 60) : ∃ M', f_46 M 98 (ii T) = some (ii (yH (yW s fu ha) (yC s b) (mst s) T), M') ∧ Sv M M' := by
  have hL := h.1.1
  have hS : S1 101 M (zpI M 101 0 (ii 0)) := (S1.rf hL).pI
  obtain ⟨M', n1, n2⟩ := c46o (s := s) (b := b) (fu := fu) (ha := ha) hT T zF 1 (zpI M 101 0 (ii 0)) (h.s1 (.inr rfl) hS) (by omega) (by omega) (by unfold zF; omega) (fun k hk => by rw [show k = 0 by omega, zI_at]; rfl)
  refine ⟨M', ?_, (hS.tr n2).sv (by omega)⟩
  unfold f_46
  simp only [cV hL, if_true, zb_some, c36 (M := M) (T := (T : Int)) (by omega)]
  simp (disch := omega) only [cV hL, zb_some, show (0 : Int32) = ii 0 from rfl]
  exact n1
/-- BLOW: the first of n places from x on -/
def yfx (p : Nat → Bool) : Nat → Nat → Nat
  | 0, _ => 0
  | n + 1, x => if p x = true then x else yfx p n (x + 1)
def yX (W : Nat → Int) (C : Nat → Nat → Bool) (t : Nat) : Nat := if yT W C t = W t then 0 else yfx (fun x => decide (yBv C (yT W C) t x = yT W C t)) (t - 1) 1
theorem c47a {M : ZMem} {s : ZSt} {b : Nat} {fu ha : Int} (h : VS M s b fu ha) {t : Nat} (ht : 1 ≤ t ∧ t ≤ 60) (hb : ∀ k, k ≤ t → zI M 100 k = ii (yT (yW s fu ha) (yC s b) k)) : ∀ (n z x : Nat), x + n = t → n < z → 1 ≤ x → f_47_28 z M 98 (ii t) (ii x) = some (ii (yfx (fun x => decide (yBv (yC s b) (yT (yW s fu ha) (yC s b)) t x = yT (yW s fu ha) (yC s b) t)) n x : Nat), M) := by
  have hL := h.1.1
  intro n
  induction n with
  | zero =>
    intro z x e hz hx
    obtain ⟨w, rfl⟩ : ∃ w, z = w + 1 := ⟨z - 1, by omega⟩
    rw [f_47_28, if_pos (show ii (t : Int) ≤ ii (x : Int) by rw [ii_le (by omega) (by omega)]; omega)]
    rfl
  | succ n ih =>
    intro z x e hz hx
    obtain ⟨w, rfl⟩ : ∃ w, z = w + 1 := ⟨z - 1, by omega⟩
    have b1 := yT_b (W := yW s fu ha) (C := yC s b) h.w t
    have b2 : 0 ≤ yBv (yC s b) (yT (yW s fu ha) (yC s b)) t x ∧ yBv (yC s b) (yT (yW s fu ha) (yC s b)) t x ≤ 60000 := by
      unfold yBv
      have a1 := yT_b (W := yW s fu ha) (C := yC s b) h.w x
      have a2 := yT_b (W := yW s fu ha) (C := yC s b) h.w (t - x)
      have a3 := yT_b (W := yW s fu ha) (C := yC s b) h.w (max x (t - x))
      split <;> omega
    have e44a := c44 h (p := 100) (.inl rfl) ht.2 hx (show x ≤ t - 1 by omega) (fun k hk => hb k (by omega))
    have zt : zai M 100 (ii (t : Int)) = some (ii (yT (yW s fu ha) (yC s b) t)) := by
      simp (disch := omega) only [cV hL, Int.toNat_natCast, hb t (Nat.le_refl _)]
    have ek : ii (x : Int) + 1 = ii ((x + 1 : Nat) : Int) := by rw [show (1 : Int32) = ii 1 from rfl, ii_add]; rfl
    rw [f_47_28, if_neg (show ¬ ii (t : Int) ≤ ii (x : Int) by rw [ii_le (by omega) (by omega)]; omega), yfx]
    simp only [cV hL, zb_some, e44a, zt, ek]
    by_cases c : yBv (yC s b) (yT (yW s fu ha) (yC s b)) t x = yT (yW s fu ha) (yC s b) t
    · rw [if_neg (show ¬ ¬ ii (yBv (yC s b) (yT (yW s fu ha) (yC s b)) t x) = ii (yT (yW s fu ha) (yC s b) t) by rw [c]; exact fun q => q rfl), if_pos (decide_eq_true c)]
    · rw [if_pos (show ¬ ii (yBv (yC s b) (yT (yW s fu ha) (yC s b)) t x) = ii (yT (yW s fu ha) (yC s b) t) by rw [ii_eq (by omega) (by omega)]; exact c), if_neg (fun q => c (of_decide_eq_true q))]
      exact ih w (x + 1) (by omega) (by omega) (by omega)
theorem c47 {M : ZMem} {s : ZSt} {b : Nat} {fu ha : Int} (h : VS M s b fu ha) {T : Nat} (hT : T ≤ 60) : ∃ M', f_47 M 98 (ii T) = some (ii (yX (yW s fu ha) (yC s b) T : Nat), M') ∧ Sv M M' := by
  obtain ⟨M3, m1, m2, m3⟩ := c35 h hT
  have h3 := h.s1 (.inl rfl) m2
  have hW := h.w T
  have b1 := yT_b (W := yW s fu ha) (C := yC s b) h.w T
  have e33 := c33 m2.1 h3.1.2.2 (t := (T : Int)) (by omega) (by have := h.2.2.1; omega) (by have := h.2.2.1; omega)
  have hW' : 0 ≤ wr5 (thn s) (mst s) fu ha (T : Int) ∧ wr5 (thn s) (mst s) fu ha (T : Int) ≤ 1000 := hW
  have zt : zai M3 100 (ii (T : Int)) = some (ii (yT (yW s fu ha) (yC s b) T)) := by
    simp (disch := omega) only [cV m2.1, Int.toNat_natCast, m3 T (Nat.le_refl _)]
  refine ⟨M3, ?_, m2.sv (by omega)⟩
  unfold f_47 yX
  simp only [cV h.1.1, if_true, m1, zb_some, cV m2.1, c36 (M := M3) (T := (T : Int)) (by omega), zt, e33]
  by_cases c : yT (yW s fu ha) (yC s b) T = yW s fu ha T
  · rw [if_neg (show ¬ ¬ ii (yT (yW s fu ha) (yC s b) T) = ii (wr5 (thn s) (mst s) fu ha (T : Int)) by rw [c]; exact fun q => q rfl), if_pos c]
    rfl
  · rw [if_pos (show ¬ ii (yT (yW s fu ha) (yC s b) T) = ii (wr5 (thn s) (mst s) fu ha (T : Int)) by rw [ii_eq (by omega) (by omega)]; exact c), if_neg c]
    have hT1 : 1 ≤ T := by
      by_cases g : T = 0
      · subst g
        exfalso
        apply c
        have := h.2.2.1
        unfold yW wr5
        rw [yT_0, if_pos (by omega)]
      · omega
    exact c47a h3 ⟨hT1, hT⟩ m3 (T - 1) zF 1 (by omega) (by unfold zF; omega) (by omega)
