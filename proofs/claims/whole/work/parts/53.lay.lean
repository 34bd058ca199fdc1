/-! LAY: the reference's tables -/
theorem mW {M : ZMem} (h : Ly M) {p k : Nat} (hp : p = 150 ∨ p = 151 ∨ p = 152 ∨ p = 153) (hk : k < 100) : zai M p (ii (k : Int)) = some (zI M p k) ∧ ∀ v, zsa M 20 p (ii (k : Int)) v = some (zpI M p k v) := by
  have hs : zSh.getD p (0, 0) = (20, 100) := by rcases hp with rfl | rfl | rfl | rfl <;> decide +kernel
  refine ⟨?_, fun v => ?_⟩
  · have := zai_ii h (p := p) (n := 100) (i := (k : Int)) (by omega) hs (by omega) (by omega) (by omega)
    rw [Int.toNat_natCast] at this; exact this
  · have := zsa_ii h (p := p) (n := 100) (i := (k : Int)) (x := v) (by omega) hs (by omega) (by omega) (by omega)
    rw [Int.toNat_natCast] at this; exact this
theorem g27 (N : ZMem) (h : Ly N) : zgr N 12 27 133 = some (some 150) ∧ zgr N 12 28 133 = some (some 151) ∧ zgr N 12 29 133 = some (some 152) ∧ zgr N 12 30 133 = some (some 153) := ⟨gR h k133 (by decide) (by decide +kernel), gR h k133 (by decide) (by decide +kernel), gR h k133 (by decide) (by decide +kernel), gR h k133 (by decide) (by decide +kernel)⟩
/-- what is laid for a block -/
def tB (s : ZSt) (b : Nat) : Nat → Int := yT (yW s (prc s b) (prc s b / 2)) (yC s b)
def tF (s : ZSt) (b : Nat) : Nat → Int := yF (yW s (prc s b) (prc s b / 2)) (yC s b)
def tM (s : ZSt) (b : Nat) : Nat → Int := yT (yW s 1 0) (yC s b)
def tH (s : ZSt) (b : Nat) : Nat → Int := yH (yW s (prc s b) (prc s b / 2)) (yC s b) (mst s)
def tX (s : ZSt) (b : Nat) : Nat → Nat := yX (yW s (prc s b) (prc s b / 2)) (yC s b)
def CL (M : ZMem) (s : ZSt) (b n : Nat) : Prop := ∀ k, k < n → zI M 150 k = ii (tB s b k) ∧ zI M 151 k = ii (tF s b k) ∧ zI M 152 k = ii (tM s b k) ∧ zI M 153 k = ii (tH s b k)
/-- all that asking a block wants, on the reference's side -/
def RK (s : ZSt) (b : Nat) : Prop := (SIn s ∧ SH s) ∧ (b < 6 ∧ SBk s 0 b) ∧ 0 ≤ s 133 1 ∧ s 133 1 < 100000
theorem RK.w {s : ZSt} {b : Nat} (h : RK s b) : (∀ t, 0 ≤ yW s (prc s b) (prc s b / 2) t ∧ yW s (prc s b) (prc s b / 2) t ≤ 1000) ∧ ∀ t, 0 ≤ yW s 1 0 t ∧ yW s 1 0 t ≤ 1000 := by
  have := prc_b h.1.1 h.1.2 b
  refine ⟨fun t => ?_, fun t => ?_⟩
  · unfold yW wr5
    (repeat' split) <;> omega
  · unfold yW wr5
    (repeat' split) <;> omega
theorem RK.b {s : ZSt} {b : Nat} (h : RK s b) {k : Nat} (hk : k ≤ 60) : (0 ≤ tB s b k ∧ tB s b k ≤ 60000) ∧ (0 ≤ tF s b k ∧ tF s b k ≤ 60) ∧ (0 ≤ tM s b k ∧ tM s b k ≤ 60000) ∧ 0 ≤ tH s b k ∧ tH s b k ≤ 60000 := by
  have a1 := yT_b (W := yW s (prc s b) (prc s b / 2)) (C := yC s b) h.w.1 k
  have a2 := yF_bd (yW s (prc s b) (prc s b / 2)) (yC s b) k k (Nat.le_refl k) hk
  have a3 := yT_b (W := yW s 1 0) (C := yC s b) h.w.2 k
  have t1 := thn_b h.1.1 h.1.2
  have t2 := mst_b h.1.1 h.1.2
  have a4 := yH_bd (W := yW s (prc s b) (prc s b / 2)) (C := yC s b) (mo := mst s) (by omega) h.w.1 k k (Nat.le_refl k)
  unfold tB tF tM tH
  by_cases k0 : k = 0
  · subst k0
    simp only [yF_0] at a2 ⊢
    omega
  · have := a2.2 (by omega)
    omega
theorem yBv_b {C : Nat → Nat → Bool} {U : Nat → Int} {B : Int} {t x : Nat} (hU : ∀ k, k < t → 0 ≤ U k ∧ U k ≤ B) (h1 : 1 ≤ x) (h2 : x ≤ t - 1) : 0 ≤ yBv C U t x ∧ yBv C U t x ≤ 2 * B := by
  have a1 := hU x (by omega)
  have a2 := hU (t - x) (by omega)
  have a3 := hU (max x (t - x)) (by omega)
  unfold yBv
  split <;> omega
theorem MS_w {M0 M : ZMem} {s : ZSt} (h : MS M0 M s) {p k : Nat} {v : Int32} (hp : p = 150 ∨ p = 151 ∨ p = 152 ∨ p = 153) : MS M0 (zpI M p k v) s := MS_scr h (by omega) (by rcases hp with rfl | rfl | rfl | rfl <;> rfl)
theorem c185f {M0 N : ZMem} {s : ZSt} (h : MS M0 N s) {t : Nat} (ht : t ≤ 60) {q VM : Int} (hq : 0 ≤ q ∧ q ≤ 200000) (hV : 0 ≤ VM ∧ VM ≤ 200000) (e : zI N 152 t = ii q) : f_185_166 N 133 (ii t) (ii VM) = some (zpI N 152 t (ii (max q VM))) := by
  have hL := h.1
  have w := mW hL (p := 152) (k := t) (.inr (.inr (.inl rfl))) (by omega)
  unfold f_185_166
  rw [(g27 N hL).2.2.1, zb_some, zb_some, zb_some, w.1, zb_some, e, c179z hL (by omega) (by omega), zb_some, zb_some, w.2, zb_some]
theorem c185m {M0 M : ZMem} {s : ZSt} (h : MS M0 M s) {t : Nat} (ht : t ≤ 60) {p1 p2 q V G VM : Int} (h1 : 0 ≤ p1 ∧ p1 ≤ 200000) (h2 : 0 ≤ p2 ∧ p2 ≤ 200000) (hq : 0 ≤ q ∧ q ≤ 200000) (hV : 0 ≤ V ∧ V ≤ 200000) (hG : 0 ≤ G ∧ G ≤ 200000) (hVM : 0 ≤ VM ∧ VM ≤ 200000) (e1 : zI M 150 t = ii p1) (e2 : zI M 151 t = ii p2) (e3 : zI M 152 t = ii q) : f_185_115 M 133 (ii t) (ii V) (ii G) (ii VM) = some (zpI (if p1 < V ∨ (V = p1 ∧ G < p2) then zpI (zpI M 150 t (ii V)) 151 t (ii G) else M) 152 t (ii (max q VM))) := by
  have hL := h.1
  have w0 := mW hL (p := 150) (k := t) (.inl rfl) (by omega)
  have w1 := mW hL (p := 151) (k := t) (.inr (.inl rfl)) (by omega)
  have hM1 := MS_w h (p := 150) (k := t) (v := ii V) (.inl rfl)
  have w2 := mW hM1.1 (p := 151) (k := t) (.inr (.inl rfl)) (by omega)
  have hM2 := MS_w hM1 (p := 151) (k := t) (v := ii G) (.inr (.inl rfl))
  have put : f_185_150 M 133 (ii t) (ii V) (ii G) (ii VM) = some (zpI (zpI (zpI M 150 t (ii V)) 151 t (ii G)) 152 t (ii (max q VM))) := by
    unfold f_185_150
    rw [(g27 M hL).1, zb_some, zb_some, w0.2, zb_some, (g27 _ hM1.1).2.1, zb_some, zb_some, w2.2, zb_some]
    exact c185f hM2 ht hq hVM ((zI_ne (by omega)).trans ((zI_ne (by omega)).trans e3))
  unfold f_185_115
  rw [(g27 M hL).1, zb_some, zb_some, w0.1, zb_some, e1]
  by_cases c1 : p1 < V
  · rw [if_pos (show ii p1 < ii V by rw [ii_lt (by omega) (by omega)]; exact c1), if_pos (show p1 < V ∨ (V = p1 ∧ G < p2) from .inl c1)]
    exact put
  · rw [if_neg (show ¬ ii p1 < ii V by rw [ii_lt (by omega) (by omega)]; exact c1), zb_some, zb_some, w0.1, zb_some, e1]
    by_cases c2 : V = p1
    · rw [if_neg (show ¬ ¬ ii V = ii p1 by rw [c2]; exact fun q => q rfl), (g27 M hL).2.1, zb_some, zb_some, w1.1, zb_some, e2]
      by_cases c3 : G < p2
      · rw [if_neg (show ¬ ii p2 ≤ ii G by rw [ii_le (by omega) (by omega)]; omega), if_pos (show p1 < V ∨ (V = p1 ∧ G < p2) from .inr ⟨c2, c3⟩)]
        exact put
      · rw [if_pos (show ii p2 ≤ ii G by rw [ii_le (by omega) (by omega)]; omega), if_neg (show ¬ (p1 < V ∨ (V = p1 ∧ G < p2)) by omega)]
        exact c185f h ht hq hVM e3
    · rw [if_pos (show ¬ ii V = ii p1 by rw [ii_eq (by omega) (by omega)]; exact c2), if_neg (show ¬ (p1 < V ∨ (V = p1 ∧ G < p2)) by omega)]
      exact c185f h ht hq hVM e3
theorem c185 {M0 M : ZMem} {s : ZSt} {b : Nat} (hK : RK s b) (h : MS M0 M s) {t x : Nat} (ht : t ≤ 60) (h1 : 1 ≤ x) (h2 : x ≤ t - 1) (hc : CL M s b t) {p1 p2 q : Int} (b1 : 0 ≤ p1 ∧ p1 ≤ 200000) (b2 : 0 ≤ p2 ∧ p2 ≤ 200000) (bq : 0 ≤ q ∧ q ≤ 200000) (e1 : zI M 150 t = ii p1) (e2 : zI M 151 t = ii p2) (e3 : zI M 152 t = ii q) : f_185 M 133 (ii b) (ii t) (ii x) = some (zpI (if p1 < yBv (yC s b) (tB s b) t x ∨ (yBv (yC s b) (tB s b) t x = p1 ∧ 1 + yBv (yC s b) (tF s b) t x < p2) then zpI (zpI M 150 t (ii (yBv (yC s b) (tB s b) t x))) 151 t (ii (1 + yBv (yC s b) (tF s b) t x)) else M) 152 t (ii (max q (yBv (yC s b) (tM s b) t x)))) := by
  have hL := h.1
  have e183 := c183 hL h.2.2 hK.2.1.1 hK.2.1.2 hK.2.2 (t := (t : Int)) (x := (x : Int)) (by omega) (by omega)
  have etx : ii (t : Int) - ii (x : Int) = ii ((t - x : Nat) : Int) := by rw [ii_sub, show (t : Int) - (x : Int) = ((t - x : Nat) : Int) by omega]
  have e179 : f_179 M 133 (ii (x : Int)) (ii ((t - x : Nat) : Int)) = some (ii ((max x (t - x) : Nat) : Int)) := by
    rw [c179z hL (by omega) (by omega), show max (x : Int) ((t - x : Nat) : Int) = ((max x (t - x) : Nat) : Int) by omega]
  have A : ∀ k, k < t → zai M 150 (ii (k : Int)) = some (ii (tB s b k)) ∧ zai M 151 (ii (k : Int)) = some (ii (tF s b k)) ∧ zai M 152 (ii (k : Int)) = some (ii (tM s b k)) := fun k hk => by
    have := hc k hk
    refine ⟨?_, ?_, ?_⟩
    · rw [(mW hL (p := 150) (.inl rfl) (by omega)).1, this.1]
    · rw [(mW hL (p := 151) (.inr (.inl rfl)) (by omega)).1, this.2.1]
    · rw [(mW hL (p := 152) (.inr (.inr (.inl rfl))) (by omega)).1, this.2.2.1]
  have v1 := yBv_b (C := yC s b) (U := tB s b) (B := 60000) (fun k hk => (hK.b (k := k) (by omega)).1) h1 h2
  have v2 := yBv_b (C := yC s b) (U := tF s b) (B := 60) (fun k hk => (hK.b (k := k) (by omega)).2.1) h1 h2
  have v3 := yBv_b (C := yC s b) (U := tM s b) (B := 60000) (fun k hk => (hK.b (k := k) (by omega)).2.2.1) h1 h2
  have key := c185m h ht b1 b2 bq (V := yBv (yC s b) (tB s b) t x) (G := 1 + yBv (yC s b) (tF s b) t x) (VM := yBv (yC s b) (tM s b) t x) (by omega) (by omega) (by omega) e1 e2 e3
  unfold f_185 f_185_49 f_185_82
  rw [if_pos (zok_ly hL k133), e183, zb_some, etx, e179, zb_some]
  have d1 := A x (by omega)
  have d2 := A (t - x) (by omega)
  have d3 := A (max x (t - x)) (by omega)
  by_cases c : cle s b t x
  · have c3 : yC s b t x = true := decide_eq_true c
    have y1 : yBv (yC s b) (tB s b) t x = tB s b x + tB s b (t - x) := if_pos c3
    have y2 : yBv (yC s b) (tF s b) t x = tF s b x + tF s b (t - x) := if_pos c3
    have y3 : yBv (yC s b) (tM s b) t x = tM s b x + tM s b (t - x) := if_pos c3
    rw [bzT c, if_neg (show ¬ (1 : Int32) = 0 by decide)]
    simp only [g27 M hL, zb_some, d1, d2]
    rw [if_neg (show ¬ (1 : Int32) = 0 by decide), if_neg (show ¬ (1 : Int32) = 0 by decide), ii_add, ii_add, ii_add, ← y1, ← y2, ← y3, show (1 : Int32) = ii 1 from rfl, ii_add]
    exact key
  · have c3 : ¬ yC s b t x = true := fun q => c (of_decide_eq_true q)
    have y1 : yBv (yC s b) (tB s b) t x = tB s b (max x (t - x)) := if_neg c3
    have y2 : yBv (yC s b) (tF s b) t x = tF s b (max x (t - x)) := if_neg c3
    have y3 : yBv (yC s b) (tM s b) t x = tM s b (max x (t - x)) := if_neg c3
    rw [bzF c, if_pos (show (0 : Int32) = 0 from rfl)]
    simp only [g27 M hL, zb_some, d3]
    rw [if_pos trivial, if_pos trivial, ← y1, ← y2, ← y3, show (1 : Int32) = ii 1 from rfl, ii_add]
    exact key
theorem c182i {M0 : ZMem} {s : ZSt} {b : Nat} (hK : RK s b) {t : Nat} (ht : 1 ≤ t ∧ t ≤ 60) {r : ZMem → Nat → Int32 → Int32 → Int32 → Int32 → Int32 → Int32 → Option ZMem} {a2 a3 a4 a5 : Int32} : ∀ (n z x : Nat) (M : ZMem), MS M0 M s → CL M s b t → zI M 150 t = ii (ylx (yBv (yC s b) (tB s b) t) (fun x => 1 + yBv (yC s b) (tF s b) t x) (yW s (prc s b) (prc s b / 2) t) (x - 1)).1 → zI M 151 t = ii (ylx (yBv (yC s b) (tB s b) t) (fun x => 1 + yBv (yC s b) (tF s b) t x) (yW s (prc s b) (prc s b / 2) t) (x - 1)).2 → zI M 152 t = ii (ymx (yBv (yC s b) (tM s b) t) (yW s 1 0 t) (x - 1)) → zI M 153 t = ii (tH s b t) → 1 ≤ x → x + n = t → n < z → ∃ M', f_182_218 r z M 133 (ii b) a2 a3 a4 a5 (ii t) (ii x) = r M' 133 (ii b) a2 a3 a4 a5 (ii ((t + 1 : Nat) : Int)) ∧ MS M0 M' s ∧ CL M' s b (t + 1) := by
  have hy : ∀ m, m ≤ t - 1 → (0 ≤ (ylx (yBv (yC s b) (tB s b) t) (fun x => 1 + yBv (yC s b) (tF s b) t x) (yW s (prc s b) (prc s b / 2) t) m).1 ∧ (ylx (yBv (yC s b) (tB s b) t) (fun x => 1 + yBv (yC s b) (tF s b) t x) (yW s (prc s b) (prc s b / 2) t) m).1 ≤ 200000) ∧ (0 ≤ (ylx (yBv (yC s b) (tB s b) t) (fun x => 1 + yBv (yC s b) (tF s b) t x) (yW s (prc s b) (prc s b / 2) t) m).2 ∧ (ylx (yBv (yC s b) (tB s b) t) (fun x => 1 + yBv (yC s b) (tF s b) t x) (yW s (prc s b) (prc s b / 2) t) m).2 ≤ 200000) ∧ 0 ≤ ymx (yBv (yC s b) (tM s b) t) (yW s 1 0 t) m ∧ ymx (yBv (yC s b) (tM s b) t) (yW s 1 0 t) m ≤ 200000 := by
    intro m
    have w1 := hK.w.1 t
    have w2 := hK.w.2 t
    induction m with
    | zero => intro _; rw [ylx, ymx]; simp only; omega
    | succ m ih =>
      intro hm
      have i1 := ih (by omega)
      have v1 := yBv_b (C := yC s b) (U := tB s b) (B := 60000) (fun k hk => (hK.b (k := k) (by omega)).1) (show 1 ≤ m + 1 by omega) hm
      have v2 := yBv_b (C := yC s b) (U := tF s b) (B := 60) (fun k hk => (hK.b (k := k) (by omega)).2.1) (show 1 ≤ m + 1 by omega) hm
      have v3 := yBv_b (C := yC s b) (U := tM s b) (B := 60000) (fun k hk => (hK.b (k := k) (by omega)).2.2.1) (show 1 ≤ m + 1 by omega) hm
      rw [ylx, ymx]
      refine ⟨?_, ?_, by omega⟩
      · split
        · simp only; omega
        · exact i1.1
      · split
        · simp only; omega
        · exact i1.2.1
  intro n
  induction n with
  | zero =>
    intro z x M hM hc e1 e2 e3 e4 hx e hz
    obtain ⟨w, rfl⟩ : ∃ w, z = w + 1 := ⟨z - 1, by omega⟩
    have hxt : x = t := by omega
    subst hxt
    have ey : ylx (yBv (yC s b) (tB s b) x) (fun y => 1 + yBv (yC s b) (tF s b) x y) (yW s (prc s b) (prc s b / 2) x) (x - 1) = (tB s b x, tF s b x) := yF_lx ht.1 ht.2
    rw [ey] at e1 e2
    refine ⟨M, ?_, hM, fun k hk => ?_⟩
    · rw [f_182_218, if_pos (show ii (x : Int) ≤ ii (x : Int) by rw [ii_le (by omega) (by omega)]; omega), show (1 : Int32) = ii 1 from rfl, ii_add]
      rfl
    · by_cases g : k = x
      · subst g
        refine ⟨e1, e2, e3.trans (congrArg ii ?_), e4⟩
        unfold tM
        rw [yT_eq _ _ ht.1]
      · exact hc k (by omega)
  | succ n ih =>
    intro z x M hM hc e1 e2 e3 e4 hx e hz
    obtain ⟨w, rfl⟩ : ∃ w, z = w + 1 := ⟨z - 1, by omega⟩
    have hB := hy (x - 1) (by omega)
    have e185 := c185 hK hM ht.2 hx (by omega) hc hB.1 hB.2.1 hB.2.2 e1 e2 e3
    have ek : ii (x : Int) + 1 = ii ((x + 1 : Nat) : Int) := by rw [show (1 : Int32) = ii 1 from rfl, ii_add]; rfl
    rw [f_182_218, if_neg (show ¬ ii (t : Int) ≤ ii (x : Int) by rw [ii_le (by omega) (by omega)]; omega), e185, zb_some, ek]
    have ex : x + 1 - 1 = (x - 1) + 1 := by omega
    have ex2 : x - 1 + 1 = x := by omega
    by_cases c : (ylx (yBv (yC s b) (tB s b) t) (fun x => 1 + yBv (yC s b) (tF s b) t x) (yW s (prc s b) (prc s b / 2) t) (x - 1)).1 < yBv (yC s b) (tB s b) t x ∨ (yBv (yC s b) (tB s b) t x = (ylx (yBv (yC s b) (tB s b) t) (fun x => 1 + yBv (yC s b) (tF s b) t x) (yW s (prc s b) (prc s b / 2) t) (x - 1)).1 ∧ 1 + yBv (yC s b) (tF s b) t x < (ylx (yBv (yC s b) (tB s b) t) (fun x => 1 + yBv (yC s b) (tF s b) t x) (yW s (prc s b) (prc s b / 2) t) (x - 1)).2)
    · rw [if_pos c]
      refine ih w (x + 1) _ (MS_w (MS_w (MS_w hM (.inl rfl)) (.inr (.inl rfl))) (.inr (.inr (.inl rfl)))) (fun k hk => ?_) ?_ ?_ ?_ ?_ (by omega) (by omega) (by omega)
      · have := hc k hk
        simp only [zI_nk (show k ≠ t by omega)]
        exact this
      · rw [zI_ne (by omega), zI_ne (by omega), zI_at, ex, ylx, ex2, if_pos c]
      · rw [zI_ne (by omega), zI_at, ex, ylx, ex2, if_pos c]
      · rw [zI_at, ex, ymx, ex2]
      · rw [zI_ne (by omega), zI_ne (by omega), zI_ne (by omega)]; exact e4
    · rw [if_neg c]
      refine ih w (x + 1) _ (MS_w hM (.inr (.inr (.inl rfl)))) (fun k hk => ?_) ?_ ?_ ?_ ?_ (by omega) (by omega) (by omega)
      · have := hc k hk
        simp only [zI_nk (show k ≠ t by omega)]
        exact this
      · rw [zI_ne (by omega), ex, ylx, ex2, if_neg c]; exact e1
      · rw [zI_ne (by omega), ex, ylx, ex2, if_neg c]; exact e2
      · rw [zI_at, ex, ymx, ex2]
      · rw [zI_ne (by omega)]; exact e4
