/-! LAY, whole; best, laid, blow -/
theorem tH_eq {s : ZSt} {b : Nat} (hm : 1 ≤ mst s) {t : Nat} (ht : 1 ≤ t) : tH s b t = if (t : Int) ≤ mst s then wrt s b t else if yC s b t (t / 2) = true then tH s b (t / 2) + tH s b (t - t / 2) else tH s b (t - t / 2) := yH_eq _ _ hm ht
theorem c182m {M0 M : ZMem} {s : ZSt} {b : Nat} (hK : RK s b) (h : MS M0 M s) {t : Nat} (ht : 1 ≤ t ∧ t ≤ 60) (hc : CL M s b t) {r : ZMem → Nat → Int32 → Int32 → Int32 → Int32 → Int32 → Int32 → Option ZMem} {a2 a3 : Int32} {W : Int} (hW : W = wrt s b t) : ∃ M', f_182_108 r M 133 (ii b) a2 a3 (ii (thn s)) (ii (mst s)) (ii t) (ii W) (ii t) (some 150) = r M' 133 (ii b) a2 a3 (ii (thn s)) (ii (mst s)) (ii ((t + 1 : Nat) : Int)) ∧ MS M0 M' s ∧ CL M' s b (t + 1) := by
  have t1 := thn_b hK.1.1 hK.1.2
  have t2 := mst_b hK.1.1 hK.1.2
  have hw := wrt_b hK.1.1 hK.1.2 b t
  have h1 := MS_w h (p := 150) (k := t) (v := ii W) (.inl rfl)
  have h2 := MS_w h1 (p := 151) (k := t) (v := ii 0) (.inr (.inl rfl))
  have w0 := mW h.1 (p := 150) (k := t) (.inl rfl) (by omega)
  have w1 := mW h1.1 (p := 151) (k := t) (.inr (.inl rfl)) (by omega)
  have w2 := mW h2.1 (p := 152) (k := t) (.inr (.inr (.inl rfl))) (by omega)
  -- behind the third
  have part : ∀ m : Int, m = yW s 1 0 t → ∃ M', f_182_141 r (zpI (zpI M 150 t (ii W)) 151 t (ii 0)) 133 (ii b) a2 a3 (ii (thn s)) (ii (mst s)) (ii t) (ii m) (ii t) (some 152) = r M' 133 (ii b) a2 a3 (ii (thn s)) (ii (mst s)) (ii ((t + 1 : Nat) : Int)) ∧ MS M0 M' s ∧ CL M' s b (t + 1) := by
    intro m hm
    have h3 := MS_w h2 (p := 152) (k := t) (v := ii m) (.inr (.inr (.inl rfl)))
    have w3 := mW h3.1 (p := 153) (k := t) (.inr (.inr (.inr rfl))) (by omega)
    have last : ∃ M', f_182_214 r (zpI (zpI (zpI M 150 t (ii W)) 151 t (ii 0)) 152 t (ii m)) 133 (ii b) a2 a3 (ii (thn s)) (ii (mst s)) (ii t) (ii (tH s b t)) (ii t) (some 153) = r M' 133 (ii b) a2 a3 (ii (thn s)) (ii (mst s)) (ii ((t + 1 : Nat) : Int)) ∧ MS M0 M' s ∧ CL M' s b (t + 1) := by
      have h4 := MS_w h3 (p := 153) (k := t) (v := ii (tH s b t)) (.inr (.inr (.inr rfl)))
      obtain ⟨M', m1, m2, m3⟩ := c182i hK ht (r := fun M a0 a1 a2 a3 a4 a5 a6 => r M a0 a1 a2 a3 a4 a5 a6) (a2 := a2) (a3 := a3) (a4 := ii (thn s)) (a5 := ii (mst s)) (t - 1) zF 1 _ h4 (fun k hk => by
        have := hc k hk
        simp only [zI_nk (show k ≠ t by omega)]
        exact this) (by rw [zI_ne (by omega), zI_ne (by omega), zI_ne (by omega), zI_at, hW]; rfl) (by rw [zI_ne (by omega), zI_ne (by omega), zI_at]; rfl) (by rw [zI_ne (by omega), zI_at, hm]; rfl) zI_at (by omega) (by omega) (by unfold zF; omega)
      refine ⟨M', ?_, m2, m3⟩
      unfold f_182_214
      rw [zb_some, w3.2, zb_some]
      exact m1
    unfold f_182_141
    rw [zb_some, w2.2, zb_some, (g27 _ h3.1).2.2.2, zb_some]
    by_cases c : (t : Int) ≤ mst s
    · have eH : tH s b t = W := by rw [tH_eq (by omega) ht.1, if_pos c, hW]
      have w5 := mW h3.1 (p := 150) (k := t) (.inl rfl) (by omega)
      rw [if_neg (show ¬ ii (mst s) < ii (t : Int) by rw [ii_lt (by omega) (by omega)]; omega), (g27 _ h3.1).1, zb_some, zb_some, w5.1, zb_some, zI_ne (by omega), zI_ne (by omega), zI_at, ← eH]
      rw [eH] at last ⊢
      exact last
    · have hA : ∀ k, k < t → zai (zpI (zpI (zpI M 150 t (ii W)) 151 t (ii 0)) 152 t (ii m)) 153 (ii (k : Int)) = some (ii (tH s b k)) := fun k hk => by
        rw [(mW h3.1 (p := 153) (k := k) (.inr (.inr (.inr rfl))) (by omega)).1, zI_ne (by omega), zI_ne (by omega), zI_ne (by omega), (hc k hk).2.2.2]
      have e183 := c183 h3.1 h3.2.2 hK.2.1.1 hK.2.1.2 hK.2.2 (t := (t : Int)) (x := ((t / 2 : Nat) : Int)) (by omega) (by omega)
      have eh : ii (t : Int) / 2 = ii ((t / 2 : Nat) : Int) := by rw [show (2 : Int32) = ii 2 from rfl, ii_div (by omega) (by omega)]; rfl
      have et : ii (t : Int) - ii ((t / 2 : Nat) : Int) = ii ((t - t / 2 : Nat) : Int) := by rw [ii_sub, show (t : Int) - ((t / 2 : Nat) : Int) = ((t - t / 2 : Nat) : Int) by omega]
      rw [if_pos (show ii (mst s) < ii (t : Int) by rw [ii_lt (by omega) (by omega)]; omega), eh, e183, zb_some, et]
      have b1 := (hK.b (k := t / 2) (by omega)).2.2.2
      have b2 := (hK.b (k := t - t / 2) (by omega)).2.2.2
      by_cases d : cle s b t ((t / 2 : Nat) : Int)
      · have d3 : yC s b t (t / 2) = true := decide_eq_true d
        have eH : tH s b t = tH s b (t / 2) + tH s b (t - t / 2) := by rw [tH_eq (by omega) ht.1, if_neg c, if_pos d3]
        rw [bzT d, if_neg (show ¬ (1 : Int32) = 0 by decide), zb_some, zb_some, hA _ (by omega), zb_some, zb_some, zb_some, hA _ (by omega), zb_some, ii_add, ← eH]
        exact last
      · have d3 : ¬ yC s b t (t / 2) = true := fun q => d (of_decide_eq_true q)
        have eH : tH s b t = tH s b (t - t / 2) := by rw [tH_eq (by omega) ht.1, if_neg c, if_neg d3]
        rw [bzF d, if_pos (show (0 : Int32) = 0 from rfl), zb_some, zb_some, hA _ (by omega), zb_some, ← eH]
        exact last
  unfold f_182_108
  rw [zb_some, w0.2, zb_some, (g27 _ h1.1).2.1, zb_some, zb_some, show (0 : Int32) = ii 0 from rfl, w1.2, zb_some, (g27 _ h2.1).2.2.1, zb_some, c147i h2.1 (by omega) (by omega) (by omega), zb_some]
  by_cases c : thn s ≤ (t : Int) ∧ (t : Int) ≤ mst s
  · rw [if_pos c, if_neg (show ¬ (1 : Int32) = ii 0 by decide)]
    refine part 1 ?_
    unfold yW wr5
    rw [if_neg (by omega), if_pos c.2]
  · rw [if_neg c, if_pos (show (0 : Int32) = ii 0 from rfl)]
    refine part 0 ?_
    unfold yW wr5
    split
    · rfl
    · rw [if_neg (by omega)]
theorem c182o {M0 : ZMem} {s : ZSt} {b : Nat} (hK : RK s b) {T : Nat} (hT : T ≤ 60) : ∀ (n z t : Nat) (M : ZMem), MS M0 M s → CL M s b t → 1 ≤ t → t + n = T + 1 → n < z → ∃ M', f_182_56 z M 133 (ii b) (ii T) (ii (prc s b)) (ii (thn s)) (ii (mst s)) (ii t) = some M' ∧ MS M0 M' s ∧ CL M' s b (T + 1) := by
  have t1 := thn_b hK.1.1 hK.1.2
  have t2 := mst_b hK.1.1 hK.1.2
  have hp := prc_b hK.1.1 hK.1.2 b
  intro n
  induction n with
  | zero =>
    intro z t M hM hc ht e hz
    obtain ⟨w, rfl⟩ : ∃ w, z = w + 1 := ⟨z - 1, by omega⟩
    refine ⟨M, ?_, hM, by rw [show T + 1 = t by omega]; exact hc⟩
    rw [f_182_56, if_pos (show ii (T : Int) < ii (t : Int) by rw [ii_lt (by omega) (by omega)]; omega)]
  | succ n ih =>
    intro z t M hM hc ht e hz
    obtain ⟨w, rfl⟩ : ∃ w, z = w + 1 := ⟨z - 1, by omega⟩
    have nx : ∀ W : Int, W = wrt s b t → ∃ M', f_182_108 (fun M a0 a1 a2 a3 a4 a5 a6 => f_182_56 w M a0 a1 a2 a3 a4 a5 a6) M 133 (ii b) (ii T) (ii (prc s b)) (ii (thn s)) (ii (mst s)) (ii t) (ii W) (ii t) (some 150) = some M' ∧ MS M0 M' s ∧ CL M' s b (T + 1) := by
      intro W hW
      obtain ⟨M1, m1, m2, m3⟩ := c182m hK hM (t := t) (by omega) hc (r := fun M a0 a1 a2 a3 a4 a5 a6 => f_182_56 w M a0 a1 a2 a3 a4 a5 a6) (a2 := ii T) (a3 := ii (prc s b)) hW
      obtain ⟨M', n1, n2, n3⟩ := ih w (t + 1) M1 m2 m3 (by omega) (by omega) (by omega)
      exact ⟨M', m1.trans n1, n2, n3⟩
    rw [f_182_56, if_neg (show ¬ ii (T : Int) < ii (t : Int) by rw [ii_lt (by omega) (by omega)]; omega), (g27 M hM.1).1, zb_some, c147i hM.1 (by omega) (by omega) (by omega), zb_some]
    unfold f_182_107
    by_cases c : thn s ≤ (t : Int) ∧ (t : Int) ≤ mst s
    · rw [if_pos c, if_neg (show ¬ (1 : Int32) = 0 by decide)]
      refine nx _ ?_
      unfold wrt wr5
      rw [if_neg (by omega), if_pos c.2]
    · rw [if_neg c, if_pos (show (0 : Int32) = 0 from rfl)]
      by_cases d : (t : Int) ≤ mst s
      · rw [if_pos (show ii (t : Int) ≤ ii (mst s) by rw [ii_le (by omega) (by omega)]; exact d)]
        refine nx 0 ?_
        unfold wrt wr5
        rw [if_pos (by omega)]
      · rw [if_neg (show ¬ ii (t : Int) ≤ ii (mst s) by rw [ii_le (by omega) (by omega)]; exact d), show (2 : Int32) = ii 2 from rfl, ii_mul]
        by_cases g : 2 * mst s < (t : Int)
        · rw [if_pos (show ii (2 * mst s) < ii (t : Int) by rw [ii_lt (by omega) (by omega)]; exact g)]
          refine nx 0 ?_
          unfold wrt wr5
          rw [if_pos (by omega)]
        · rw [if_neg (show ¬ ii (2 * mst s) < ii (t : Int) by rw [ii_lt (by omega) (by omega)]; exact g), ii_div (by omega) (by omega)]
          refine nx _ ?_
          unfold wrt wr5
          rw [if_neg (by omega), if_neg d]
theorem c182 {M0 M : ZMem} {s : ZSt} {b : Nat} (hK : RK s b) (h : MS M0 M s) : ∃ M', f_182 M 133 (ii b) = some M' ∧ MS M0 M' s ∧ CL M' s b ((s 136 b).toNat + 1) := by
  have v3 := hK.2.1.2.2.2.1
  simp only [Nat.add_zero] at v3
  obtain ⟨M1, e1, h1⟩ := c168 h hK.1.1 hK.1.2 hK.2.1.1 hK.2.1.2 hK.2.2
  have r5 := rPm h.1 (j := 5) (by decide) (show zRm 133 5 = some 136 by decide +kernel)
  have x5 := rM h.1 h.2.2 (P := 136) (n := 6) (b := (b : Int)) (by decide) (fun _ => rfl) (by have := hK.2.1.1; omega) (by omega)
  rw [Int.toNat_natCast] at x5
  have h2 := MS_w h1 (p := 150) (k := 0) (v := ii ((0 : Nat) : Int)) (.inl rfl)
  have h3 := MS_w h2 (p := 151) (k := 0) (v := ii ((0 : Nat) : Int)) (.inr (.inl rfl))
  have h4 := MS_w h3 (p := 152) (k := 0) (v := ii ((0 : Nat) : Int)) (.inr (.inr (.inl rfl)))
  have h5 := MS_w h4 (p := 153) (k := 0) (v := ii ((0 : Nat) : Int)) (.inr (.inr (.inr rfl)))
  obtain ⟨M', m1, m2, m3⟩ := c182o hK (T := (s 136 b).toNat) (by omega) (s 136 b).toNat zF 1 _ h5 (fun k hk => by
    rw [show k = 0 by omega]
    refine ⟨?_, ?_, ?_, ?_⟩
    · rw [zI_ne (by omega), zI_ne (by omega), zI_ne (by omega), zI_at]; rfl
    · rw [zI_ne (by omega), zI_ne (by omega), zI_at]; rfl
    · rw [zI_ne (by omega), zI_at]; rfl
    · rw [zI_at]; rfl) (by omega) (by omega) (by unfold zF; omega)
  refine ⟨M', ?_, m2, m3⟩
  rw [show (((s 136 b).toNat : Nat) : Int) = s 136 b by omega] at m1
  have w0 := (mW h1.1 (p := 150) (k := 0) (.inl rfl) (by omega)).2
  have w1 := (mW h2.1 (p := 151) (k := 0) (.inr (.inl rfl)) (by omega)).2
  have w2 := (mW h3.1 (p := 152) (k := 0) (.inr (.inr (.inl rfl))) (by omega)).2
  have w3 := (mW h4.1 (p := 153) (k := 0) (.inr (.inr (.inr rfl))) (by omega)).2
  unfold f_182
  rw [if_pos (zok_ly h.1 k133), r5, zb_some, zb_some, x5, zb_some, e1, zbd_some, c178 h1.1 h1.2.2 hK.1.1 hK.1.2, zb_some, c180 h1.1 h1.2.2 hK.1.1 hK.1.2, zb_some, (g27 _ h1.1).1, zb_some, zb_some, show (0 : Int32) = ii ((0 : Nat) : Int) from rfl, w0, zb_some, (g27 _ h2.1).2.1, zb_some, zb_some, w1, zb_some, (g27 _ h3.1).2.2.1, zb_some, zb_some, w2, zb_some, (g27 _ h4.1).2.2.2, zb_some, zb_some, w3, zb_some]
  exact m1
/-- the thickness, as a number -/
def thk (s : ZSt) (b : Nat) : Nat := (s 136 b).toNat
theorem RK.t {s : ZSt} {b : Nat} (h : RK s b) : ((thk s b : Nat) : Int) = s 136 b ∧ thk s b ≤ 60 := by
  have v3 := h.2.1.2.2.2.1
  simp only [Nat.add_zero] at v3
  unfold thk
  omega
theorem x136 {M0 M : ZMem} {s : ZSt} {b : Nat} (hK : RK s b) (h : MS M0 M s) : zgr M 12 5 133 = some (some 136) ∧ zai M 136 (ii (b : Int)) = some (ii ((thk s b : Nat) : Int)) := by
  have x5 := rM h.1 h.2.2 (P := 136) (n := 6) (b := (b : Int)) (by decide) (fun _ => rfl) (by have := hK.2.1.1; omega) (by omega)
  rw [Int.toNat_natCast] at x5
  exact ⟨rPm h.1 (j := 5) (by decide) (show zRm 133 5 = some 136 by decide +kernel), by rw [hK.t.1]; exact x5⟩
theorem c189 {M0 M : ZMem} {s : ZSt} {b : Nat} (hK : RK s b) (h : MS M0 M s) : MG M0 (f_189 M 133 (ii b)) (ii (tB s b (thk s b))) s := by
  obtain ⟨M', m1, m2, m3⟩ := c182 hK h
  have ht := hK.t
  refine ⟨M', ?_, m2⟩
  unfold f_189
  rw [if_pos (zok_ly h.1 k133), m1, zb_some, (g27 _ m2.1).1, zb_some, (x136 hK m2).1, zb_some, zb_some, (x136 hK m2).2, zb_some, zb_some, (mW m2.1 (p := 150) (k := thk s b) (.inl rfl) (by omega)).1, zb_some, (m3 (thk s b) (by unfold thk; omega)).1]
/-- best, few, many, halves by their numbers -/
def lad (s : ZSt) (b : Nat) (w : Int) : Int := if w = 9 then tB s b (thk s b) else if w = 10 then tF s b (thk s b) else if w = 11 then tM s b (thk s b) else tH s b (thk s b)
theorem c181 {M0 M : ZMem} {s : ZSt} {b : Nat} (hK : RK s b) (h : MS M0 M s) {w : Int} (hw : 9 ≤ w ∧ w ≤ 12) : MG M0 (f_181 M 133 (ii b) (ii w)) (ii (lad s b w)) s := by
  obtain ⟨M', m1, m2, m3⟩ := c182 hK h
  have ht := hK.t
  have hk := m3 (thk s b) (by unfold thk; omega)
  refine ⟨M', ?_, m2⟩
  unfold f_181 lad
  rw [if_pos (zok_ly h.1 k133), m1, zb_some, (x136 hK m2).1, zb_some, zb_some, (x136 hK m2).2, zb_some]
  have hz : w = 9 ∨ w = 10 ∨ w = 11 ∨ w = 12 := by omega
  rcases hz with rfl | rfl | rfl | rfl
  · rw [if_neg (show ¬ ¬ ii 9 = 9 by decide), if_pos (show (9 : Int) = 9 from rfl), (g27 _ m2.1).1, zb_some, zb_some, (mW m2.1 (p := 150) (k := thk s b) (.inl rfl) (by omega)).1, zb_some, hk.1]
  · rw [if_pos (show ¬ ii 10 = 9 by decide), if_neg (show ¬ ¬ ii 10 = 10 by decide), if_neg (show ¬ (10 : Int) = 9 by decide), if_pos (show (10 : Int) = 10 from rfl), (g27 _ m2.1).2.1, zb_some, zb_some, (mW m2.1 (p := 151) (k := thk s b) (.inr (.inl rfl)) (by omega)).1, zb_some, hk.2.1]
  · rw [if_pos (show ¬ ii 11 = 9 by decide), if_pos (show ¬ ii 11 = 10 by decide), if_neg (show ¬ ¬ ii 11 = 11 by decide), if_neg (show ¬ (11 : Int) = 9 by decide), if_neg (show ¬ (11 : Int) = 10 by decide), if_pos (show (11 : Int) = 11 from rfl), (g27 _ m2.1).2.2.1, zb_some, zb_some, (mW m2.1 (p := 152) (k := thk s b) (.inr (.inr (.inl rfl))) (by omega)).1, zb_some, hk.2.2.1]
  · rw [if_pos (show ¬ ii 12 = 9 by decide), if_pos (show ¬ ii 12 = 10 by decide), if_pos (show ¬ ii 12 = 11 by decide), if_neg (show ¬ (12 : Int) = 9 by decide), if_neg (show ¬ (12 : Int) = 10 by decide), if_neg (show ¬ (12 : Int) = 11 by decide), (g27 _ m2.1).2.2.2, zb_some, zb_some, (mW m2.1 (p := 153) (k := thk s b) (.inr (.inr (.inr rfl))) (by omega)).1, zb_some, hk.2.2.2]
/-- BLOW -/
theorem c186a {M0 M : ZMem} {s : ZSt} {b : Nat} (hK : RK s b) (h : MS M0 M s) {t : Nat} (ht : 1 ≤ t ∧ t ≤ 60) (hc : CL M s b (t + 1)) : ∀ (n z x : Nat), x + n = t → n < z → 1 ≤ x → (∃ y, x ≤ y ∧ y ≤ t - 1 ∧ yBv (yC s b) (tB s b) t y = tB s b t) → f_186_25 z M 133 (ii b) (ii t) (ii x) = some (ii (yfx (fun x => decide (yBv (yC s b) (tB s b) t x = tB s b t)) n x : Nat), M) := by
  have hL := h.1
  intro n
  induction n with
  | zero =>
    intro z x e hz hx he
    obtain ⟨y, h1, h2, _⟩ := he
    omega
  | succ n ih =>
    intro z x e hz hx he
    obtain ⟨w, rfl⟩ : ∃ w, z = w + 1 := ⟨z - 1, by omega⟩
    have e183 := c183 hL h.2.2 hK.2.1.1 hK.2.1.2 hK.2.2 (t := (t : Int)) (x := (x : Int)) (by omega) (by omega)
    have etx : ii (t : Int) - ii (x : Int) = ii ((t - x : Nat) : Int) := by rw [ii_sub, show (t : Int) - (x : Int) = ((t - x : Nat) : Int) by omega]
    have e179 : f_179 M 133 (ii (x : Int)) (ii ((t - x : Nat) : Int)) = some (ii ((max x (t - x) : Nat) : Int)) := by
      rw [c179z hL (by omega) (by omega), show max (x : Int) ((t - x : Nat) : Int) = ((max x (t - x) : Nat) : Int) by omega]
    have A : ∀ k, k < t + 1 → zai M 150 (ii (k : Int)) = some (ii (tB s b k)) := fun k hk => by
      rw [(mW hL (p := 150) (.inl rfl) (by omega)).1, (hc k hk).1]
    have v1 := yBv_b (C := yC s b) (U := tB s b) (B := 60000) (fun k hk => (hK.b (k := k) (by omega)).1) hx (show x ≤ t - 1 by omega)
    have v2 := (hK.b (k := t) ht.2).1
    have v3 : yBv (yC s b) (tB s b) t x ≤ tB s b t := by
      have := ymx_ge (f := yBv (yC s b) (tB s b) t) (a := yW s (prc s b) (prc s b / 2) t) (n := t - 1) hx (show x ≤ t - 1 by omega)
      unfold tB at this ⊢
      rw [← yT_eq _ _ ht.1] at this
      exact this
    have ek : ii (x : Int) + 1 = ii ((x + 1 : Nat) : Int) := by rw [show (1 : Int32) = ii 1 from rfl, ii_add]; rfl
    have fin : ∀ V : Int, V = yBv (yC s b) (tB s b) t x → f_186_66 (fun M a0 a1 a2 a3 => f_186_25 w M a0 a1 a2 a3) M 133 (ii b) (ii t) (ii x) (ii V) = some (ii (yfx (fun x => decide (yBv (yC s b) (tB s b) t x = tB s b t)) (n + 1) x : Nat), M) := by
      intro V hV
      unfold f_186_66
      rw [(g27 M hL).1, zb_some, zb_some, A t (by omega), zb_some, yfx]
      by_cases c : yBv (yC s b) (tB s b) t x = tB s b t
      · rw [if_pos (show ii (tB s b t) ≤ ii V by rw [ii_le (by omega) (by omega)]; omega), if_pos (decide_eq_true c)]
      · rw [if_neg (show ¬ ii (tB s b t) ≤ ii V by rw [ii_le (by omega) (by omega)]; omega), if_neg (fun q => c (of_decide_eq_true q)), ek]
        refine ih w (x + 1) (by omega) (by omega) (by omega) ?_
        obtain ⟨y, h1, h2, h3⟩ := he
        refine ⟨y, ?_, h2, h3⟩
        by_cases g : y = x
        · subst g; exact absurd h3 c
        · omega
    rw [f_186_25, e183, zb_some]
    by_cases c : cle s b t x
    · have c3 : yC s b t x = true := decide_eq_true c
      rw [bzT c, if_neg (show ¬ (1 : Int32) = 0 by decide), (g27 M hL).1, zb_some, zb_some, A x (by omega), zb_some, zb_some, zb_some, etx, A (t - x) (by omega), zb_some, ii_add]
      exact fin _ (by unfold yBv; rw [if_pos c3])
    · have c3 : ¬ yC s b t x = true := fun q => c (of_decide_eq_true q)
      rw [bzF c, if_pos (show (0 : Int32) = 0 from rfl), (g27 M hL).1, zb_some, etx, e179, zb_some, zb_some, A _ (by omega), zb_some]
      exact fin _ (by unfold yBv; rw [if_neg c3])
theorem c186 {M0 M : ZMem} {s : ZSt} {b : Nat} (hK : RK s b) (h : MS M0 M s) : MG M0 (f_186 M 133 (ii b)) (ii ((tX s b (thk s b) : Nat) : Int)) s := by
  obtain ⟨M', m1, m2, m3⟩ := c182 hK h
  have ht := hK.t
  have hk := m3 (thk s b) (by unfold thk; omega)
  have bF := (hK.b (k := thk s b) ht.2).2.1
  refine ⟨M', ?_, m2⟩
  unfold f_186
  rw [if_pos (zok_ly h.1 k133), (x136 hK h).1, zb_some, zb_some, (x136 hK h).2, zb_some, m1, zb_some, (g27 _ m2.1).2.1, zb_some, zb_some, (mW m2.1 (p := 151) (k := thk s b) (.inr (.inl rfl)) (by omega)).1, zb_some, hk.2.1]
  by_cases c0 : thk s b = 0
  · have e1 : tF s b (thk s b) = 0 := by rw [c0]; rfl
    have t1 := thn_b hK.1.1 hK.1.2
    have e2 : tX s b (thk s b) = 0 := by
      rw [c0]
      unfold tX yX
      rw [if_pos]
      unfold yW wr5
      rw [yT_0, if_pos (by omega)]
    rw [e1, e2, if_neg (show ¬ ¬ ii 0 = 0 by decide)]
    rfl
  · have hz := yF_z (W := yW s (prc s b) (prc s b / 2)) (C := yC s b) (t := thk s b) (by omega) ht.2
    by_cases c : tF s b (thk s b) = 0
    · have e2 : tX s b (thk s b) = 0 := if_pos (hz.mp c)
      rw [c, e2, if_neg (show ¬ ¬ ii 0 = 0 by decide)]
      rfl
    · have c2 : ¬ yT (yW s (prc s b) (prc s b / 2)) (yC s b) (thk s b) = yW s (prc s b) (prc s b / 2) (thk s b) := fun q => c (hz.mpr q)
      have e2 : tX s b (thk s b) = yfx (fun x => decide (yBv (yC s b) (tB s b) (thk s b) x = tB s b (thk s b))) (thk s b - 1) 1 := if_neg c2
      rw [if_pos (show ¬ ii (tF s b (thk s b)) = 0 by rw [show (0 : Int32) = ii 0 from rfl, ii_eq (by omega) (by omega)]; exact c), e2]
      refine c186a hK m2 (by omega) m3 (thk s b - 1) zF 1 (by omega) (by unfold zF; omega) (by omega) ?_
      rcases ymx_in (f := yBv (yC s b) (tB s b) (thk s b)) (a := yW s (prc s b) (prc s b / 2) (thk s b)) (n := thk s b - 1) with q | ⟨y, q1, q2, q3⟩
      · exfalso
        apply c2
        rw [yT_eq _ _ (by omega)]
        exact q
      · exact ⟨y, q1, q2, q3.trans (yT_eq _ _ (by omega)).symm⟩
