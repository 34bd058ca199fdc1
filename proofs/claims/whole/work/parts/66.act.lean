/-! ACT -/
theorem RC_ac {M M' : ZMem} {s s' : ZSt} {l : Nat → Int64} (h : RC M s l) (hi : s 133 0 ≤ 6 ∧ s 133 50 ≤ 6 ∧ s 133 9 ≤ 6) (hM : ∀ p, p ≠ 106 → p ≠ 107 → (∀ j, zI M' p j = zI M p j) ∧ ∀ j, zL M' p j = zL M p j) (hs : ∀ q, q ≠ 133 → q ≠ 179 → s' q = s q) (h3 : ∀ j, j ≠ 69 → s' 133 j = s 133 j) (ha : RCa M' s') : RC M' s' l := by
  obtain ⟨⟨h1, h2, h3'⟩, ⟨h4, h5, h6⟩, h7, h8, h9, h10, h11⟩ := h
  have e : ∀ p, p ≠ 106 → p ≠ 107 → ∀ j, zI M' p j = zI M p j := fun p hp hq => (hM p hp hq).1
  refine ⟨⟨RCy_sf (RCy_fr h1 (e 22 (by omega) (by omega))) ?_ ?_ ?_ ?_, RCb_sf (RCb_fr h2 hi.1 (fun p h1 h2 => e p (by omega) (by omega))) ?_ ?_ ?_ ?_ ?_ ?_ ?_, RCc_fr h3' ?_⟩, ⟨RCs_sf (RCs_fr h4 (e 36 (by omega) (by omega)) (e 37 (by omega) (by omega)) (e 38 (by omega) (by omega)) (e 39 (by omega) (by omega))) ?_ ?_ ?_ ?_, RCw_sf (RCw_fr h5 (e 40 (by omega) (by omega)) (e 41 (by omega) (by omega)) (e 42 (by omega) (by omega)) (e 43 (by omega) (by omega))) ?_ ?_ ?_, RCk_sf (RCk_fr h6 (e 44 (by omega) (by omega)) (e 45 (by omega) (by omega)) (e 46 (by omega) (by omega)) (e 47 (by omega) (by omega))) ?_ ?_ ?_⟩, RCt_sf (RCt_fr h7 (fun j _ => e 20 (by omega) (by omega) j) (e 89 (by omega) (by omega))) ?_ ?_ ?_, RCi_sf (RCi_fr h8 hi.2.1 (e 20 (by omega) (by omega) 2) (fun p h1 h2 => e p (by omega) (by omega))) ?_ ?_ ?_ ?_ ?_ ?_ ?_ ?_ ?_ ?_ ?_ ?_ ?_ ?_ ?_ ?_ ?_ ?_ ?_ ?_ ?_, ha, RCh_sf (RCh_fr h10 hi.2.2 (fun p h1 h2 => e p (by omega) (by omega))) ?_ ?_ ?_ ?_ ?_ ?_ ?_, RCp_sf (RCp_fr h11 (fun p h1 h2 => hM p (by omega) (by omega))) ?_ ?_⟩
  all_goals first | exact h3 _ (by omega) | exact hs _ (by omega) (by omega) | skip
  intro p j hp
  refine e p ?_ ?_ j
  · rintro rfl
    rcases hp with h | h | h | ⟨_, h⟩
    · omega
    · omega
    · omega
    · simp only [List.mem_cons, List.not_mem_nil, or_false] at h; omega
  · rintro rfl
    rcases hp with h | h | h | ⟨_, h⟩
    · omega
    · omega
    · omega
    · simp only [List.mem_cons, List.not_mem_nil, or_false] at h; omega
def bdS (s : ZSt) (k : Int) : ZSt := up (if s 133 69 < 20 then up s 179 (s 133 69).toNat k else s) 133 69 (s 133 69 + 1)
theorem bdS_n {s : ZSt} {k : Int} : bdS s k 133 69 = s 133 69 + 1 := up_at
theorem bdS_o {s : ZSt} {k : Int} {p : Nat} (h1 : p ≠ 133) (h2 : p ≠ 179) : bdS s k p = s p := by
  unfold bdS
  rw [up_fn h1]
  split
  · exact up_fn h2
  · rfl
theorem bdS_j {s : ZSt} {k : Int} {j : Nat} (h : j ≠ 69) : bdS s k 133 j = s 133 j := by
  unfold bdS
  rw [up_nk h]
  split
  · exact up_ne (by omega)
  · rfl
/-- values and traces -/
def rgS (K : Int) (i v x : Int32) (s : ZSt) : Int32 × ZSt := if K = 2 ∨ K = 5 then (x * 3 + i, bdS (bdS s 30) 10) else if K = 4 then (-(x + i), bdS (bdS s 50) 10) else if K = 6 then ((x + i) ^^^ v, bdS (bdS s 71) 10) else (x + i, bdS s 10)
def blS (K : Int) (i v x : Int32) (s : ZSt) : Int32 × ZSt := ((rgS K i v x (bdS s 11)).1 - v, (rgS K i v x (bdS s 11)).2)
def fnS (K : Int) (i v x : Int32) (s : ZSt) : Int32 × ZSt := ((blS K i v x (bdS s 20)).1 ^^^ 6, (blS K i v x (bdS s 20)).2)
def spS (K : Int) (i v x : Int32) (s : ZSt) : Int32 × ZSt := if K = 1 then fnS K i v x s else if K = 4 then fnS K i v (x + 1) (bdS s 51) else if K = 6 then ((blS K i v x (bdS s 70)).1 + (2 + i), bdS (blS K i v x (bdS s 70)).2 10) else blS K i v x s
def tbS (K : Int) (i v x : Int32) (s : ZSt) : Int32 × ZSt := ((spS K i v x (bdS s 12)).1 * 2, (spS K i v x (bdS s 12)).2)
def tlS (K : Int) (i v x : Int32) (s : ZSt) : Int32 × ZSt := if K = 3 ∨ K = 6 then ((tbS K i v x (bdS s 40)).1 + (spS K i v 1 (tbS K i v x (bdS s 40)).2).1, (spS K i v 1 (tbS K i v x (bdS s 40)).2).2) else if K = 5 then tbS K i v (x - i) (bdS s 60) else tbS K i v x s
/-- how far a trace grows; what else stays -/
def Gr (s t : ZSt) (n : Int) : Prop := (s 133 69 ≤ t 133 69 ∧ t 133 69 ≤ s 133 69 + n) ∧ (∀ p, p ≠ 133 → p ≠ 179 → t p = s p) ∧ ∀ j, j ≠ 69 → t 133 j = s 133 j
theorem Gr.bd {s t : ZSt} {n : Int} (h : Gr s t n) {k : Int} : Gr s (bdS t k) (n + 1) := by
  obtain ⟨h1, h2, h3⟩ := h
  refine ⟨?_, fun p a b => (bdS_o a b).trans (h2 p a b), fun j hj => (bdS_j hj).trans (h3 j hj)⟩
  rw [bdS_n]; omega
theorem Gr.rf (s : ZSt) : Gr s s 0 := ⟨by omega, fun _ _ _ => rfl, fun _ _ => rfl⟩
theorem Gr.le {s t : ZSt} {n m : Int} (h : Gr s t n) (hm : n ≤ m) : Gr s t m := ⟨by have := h.1; omega, h.2⟩
theorem Gr.tr {s t u : ZSt} {n m : Int} (h : Gr s t n) (h' : Gr t u m) : Gr s u (n + m) := ⟨by have := h.1; have := h'.1; omega, fun p a b => (h'.2.1 p a b).trans (h.2.1 p a b), fun j hj => (h'.2.2 j hj).trans (h.2.2 j hj)⟩
theorem rgS_g (K : Int) (i v x : Int32) (s : ZSt) : Gr s (rgS K i v x s).2 2 := by
  unfold rgS
  split
  · exact (Gr.rf s).bd.bd
  · split
    · exact (Gr.rf s).bd.bd
    · split
      · exact (Gr.rf s).bd.bd
      · exact (Gr.rf s).bd.le (by omega)
theorem blS_g (K : Int) (i v x : Int32) (s : ZSt) : Gr s (blS K i v x s).2 3 := (Gr.rf s).bd.tr (rgS_g K i v x _)
theorem fnS_g (K : Int) (i v x : Int32) (s : ZSt) : Gr s (fnS K i v x s).2 4 := (Gr.rf s).bd.tr (blS_g K i v x _)
theorem spS_g (K : Int) (i v x : Int32) (s : ZSt) : Gr s (spS K i v x s).2 5 := by
  unfold spS
  split
  · exact (fnS_g K i v x s).le (by omega)
  · split
    · exact (Gr.rf s).bd.tr (fnS_g K i v _ _)
    · split
      · exact (((Gr.rf s).bd.tr (blS_g K i v x _)).bd).le (by omega)
      · exact (blS_g K i v x s).le (by omega)
theorem tbS_g (K : Int) (i v x : Int32) (s : ZSt) : Gr s (tbS K i v x s).2 6 := (Gr.rf s).bd.tr (spS_g K i v x _)
theorem tlS_g (K : Int) (i v x : Int32) (s : ZSt) : Gr s (tlS K i v x s).2 12 := by
  unfold tlS
  split
  · exact (((Gr.rf s).bd.tr (tbS_g K i v x _)).tr (spS_g K i v 1 _)).le (by omega)
  · split
    · exact ((Gr.rf s).bd.tr (tbS_g K i v _ _)).le (by omega)
    · exact (tbS_g K i v x s).le (by omega)
/-- the class's actor -/
def CA (M0 M : ZMem) (s : ZSt) (l : Nat → Int64) (K : Int) (i v : Int32) : Prop := (CS M0 M s l ∧ s 133 0 ≤ 6 ∧ s 133 50 ≤ 6 ∧ s 133 9 ≤ 6 ∧ 0 ≤ s 133 69) ∧ zI M 106 2 = ii K ∧ zI M 106 3 = v ∧ zI M 106 4 = i
def AG (M0 : ZMem) (t : Option (Int32 × ZMem)) (r : Int32 × ZSt) (l : Nat → Int64) (K : Int) (i v : Int32) : Prop := ∃ M', t = some (r.1, M') ∧ CA M0 M' r.2 l K i v
theorem cA {M : ZMem} (h : Ly M) : zok M 0 106 = true ∧ zgi M 0 1 106 = some (zI M 106 1) ∧ zgi M 0 2 106 = some (zI M 106 2) ∧ zgi M 0 3 106 = some (zI M 106 3) ∧ zgi M 0 4 106 = some (zI M 106 4) ∧ (∀ x, zpf M 0 1 106 (.int x) false = some (zpI M 106 1 x)) ∧ (∀ x, zpf M 0 2 106 (.int x) false = some (zpI M 106 2 x)) ∧ (∀ x, zpf M 0 3 106 (.int x) false = some (zpI M 106 3 x)) ∧ (∀ x, zpf M 0 4 106 (.int x) false = some (zpI M 106 4 x)) ∧ zgr M 0 0 106 = some (some 107) := ⟨zok_ly h (by decide +kernel), gI h (by decide +kernel) (by decide), gI h (by decide +kernel) (by decide), gI h (by decide +kernel) (by decide), gI h (by decide +kernel) (by decide), fun x => pI h (by decide +kernel) (by decide) (by decide) (by decide), fun x => pI h (by decide +kernel) (by decide) (by decide) (by decide), fun x => pI h (by decide +kernel) (by decide) (by decide) (by decide), fun x => pI h (by decide +kernel) (by decide) (by decide) (by decide), gR h (by decide +kernel) (by decide) (by decide +kernel)⟩
theorem c131 {M0 M : ZMem} {s : ZSt} {l : Nat → Int64} {K : Int} {i v : Int32} (h : CA M0 M s l K i v) (hn : s 133 69 ≤ 1000) (k : Int) : ∃ M', f_131 M 106 (ii k) = some M' ∧ CA M0 M' (bdS s k) l K i v := by
  obtain ⟨⟨hC, b0, b50, b9, b69⟩, a2, a3, a4⟩ := h
  have hA := cA hC.1
  have r1 := hC.2.2.2.2.2.2.1
  have e1 : zI M 106 1 = ii (s 133 69) := r1.1
  have x107 := zsa_ii hC.1 (p := 107) (n := 20) (i := s 133 69) (x := ii k) (by omega) (by decide +kernel) (by omega) b69
  have fin : ∀ (N : ZMem) (s1 : ZSt), N = (if s 133 69 < 20 then zpI M 107 (s 133 69).toNat (ii k) else M) → s1 = (if s 133 69 < 20 then up s 179 (s 133 69).toNat k else s) → ∃ M', f_131_19 N 106 = some M' ∧ CA M0 M' (bdS s k) l K i v := by
    intro N s1 hN hs1
    have LN : Ly N := by rw [hN]; split; exact hC.1.p; exact hC.1
    have zN : ∀ p, p ≠ 107 → ∀ j, zI N p j = zI M p j := by
      intro p hp j
      rw [hN]
      split
      · exact zI_ne hp
      · rfl
    have zLN : ∀ p j, zL N p j = zL M p j := by
      intro p j
      rw [hN]
      split <;> rfl
    have AN := cA LN
    refine ⟨zpI N 106 1 (ii (s 133 69 + 1)), ?_, ⟨⟨LN.p, ?_, ?_⟩, ?_⟩, ?_⟩
    · unfold f_131_19
      simp only [AN, zb_some]
      rw [zN 106 (by omega), e1, show (1 : Int32) = ii 1 from rfl, ii_add]
    · intro p hp
      exact ⟨fun j => by rw [zI_ne (by omega), zN p (by omega)]; exact (hC.2.1 p hp).1 j, fun j => by rw [zL_pI, zLN]; exact (hC.2.1 p hp).2 j⟩
    · refine RC_ac hC.2.2 ⟨b0, b50, b9⟩ (fun p p1 p2 => ⟨fun j => (zI_ne p1).trans (zN p p2 j), fun j => by rw [zL_pI]; exact zLN p j⟩) (fun q q1 q2 => bdS_o q1 q2) (fun j hj => bdS_j hj) ⟨?_, fun c hc c20 => ?_⟩
      · rw [zI_at, bdS_n]
      · rw [bdS_n] at hc
        rw [zI_ne (by omega)]
        unfold bdS
        rw [up_ne (by omega), hN]
        by_cases g : s 133 69 < 20
        · rw [if_pos g, if_pos g]
          by_cases g2 : c = (s 133 69).toNat
          · rw [g2, zI_at, up_at]
          · rw [zI_nk g2, up_nk g2]
            exact r1.2 c (by omega) c20
        · rw [if_neg g, if_neg g]
          exact r1.2 c (by omega) c20
    · rw [bdS_j (by omega), bdS_j (by omega), bdS_j (by omega), bdS_n]
      exact ⟨b0, b50, b9, by omega⟩
    · rw [zI_nk (by omega), zI_nk (by omega), zI_nk (by omega), zN 106 (by omega), zN 106 (by omega), zN 106 (by omega)]
      exact ⟨a2, a3, a4⟩
  unfold f_131
  simp only [hA, if_true, zb_some, e1]
  by_cases g : s 133 69 < 20
  · rw [if_neg (show ¬ (20 : Int32) ≤ ii (s 133 69) by rw [show (20 : Int32) = ii 20 from rfl, ii_le (by omega) (by omega)]; omega), x107 g, zb_some]
    exact fin _ _ (if_pos g).symm (if_pos g).symm
  · rw [if_pos (show (20 : Int32) ≤ ii (s 133 69) by rw [show (20 : Int32) = ii 20 from rfl, ii_le (by omega) (by omega)]; omega)]
    exact fin _ _ (if_neg g).symm (if_neg g).symm
section ZAG
variable {M0 M : ZMem} {s : ZSt} {l : Nat → Int64} {K : Int} {i v : Int32} {r : Int32 × ZSt}
theorem AG_b (h : CA M0 M s l K i v) (hn : s 133 69 ≤ 1000) (k : Int) {k' : Int32} (e : k' = ii k) {F : ZMem → Option (Int32 × ZMem)} (n : ∀ M1, CA M0 M1 (bdS s k) l K i v → AG M0 (F M1) r l K i v) : AG M0 (zb (f_131 M 106 k') F) r l K i v := by
  obtain ⟨M1, e1, h1⟩ := c131 h hn k
  rw [e, e1]
  exact n M1 h1
theorem AG_d {q : Int32 × ZSt} {t : Option (Int32 × ZMem)} {F : Int32 → ZMem → Option (Int32 × ZMem)} (e : AG M0 t q l K i v) (n : ∀ M1, CA M0 M1 q.2 l K i v → AG M0 (F q.1 M1) r l K i v) : AG M0 (zbd t F) r l K i v := by
  obtain ⟨M1, e1, h1⟩ := e
  rw [e1]
  exact n M1 h1
theorem AG_r {x : Int32} (h : CA M0 M s l K i v) : AG M0 (some (x, M)) (x, s) l K i v := ⟨M, rfl, h⟩
theorem CA.y (h : CA M0 M s l K i v) : zok M 0 106 = true ∧ zgi M 0 2 106 = some (ii K) ∧ zgi M 0 3 106 = some v ∧ zgi M 0 4 106 = some i := by
  have hA := cA h.1.1.1
  refine ⟨hA.1, ?_, ?_, ?_⟩
  · rw [hA.2.2.1, h.2.1]
  · rw [hA.2.2.2.1, h.2.2.1]
  · rw [hA.2.2.2.2.1, h.2.2.2]
/-- plain rings -/
theorem c130p (h : CA M0 M s l K i v) (hn : s 133 69 ≤ 900) {F x : Int32} (hF : F = 0 ∨ F = 1 ∨ F = 3) {y : Nat} : AG M0 (f_130 (y + 1) M 106 F x) (x + i, bdS s 10) l K i v := by
  rw [f_130, if_pos h.y.1]
  rcases hF with rfl | rfl | rfl
  · rw [if_neg (by decide), if_neg (by decide), if_neg (by decide), if_neg (by decide), if_neg (by decide)]
    refine AG_b h (by omega) 10 rfl fun M1 h1 => ?_
    rw [h1.y.2.2.2, zb_some]
    exact AG_r h1
  · rw [if_neg (by decide), if_neg (by decide), if_neg (by decide), if_neg (by decide), if_neg (by decide)]
    refine AG_b h (by omega) 10 rfl fun M1 h1 => ?_
    rw [h1.y.2.2.2, zb_some]
    exact AG_r h1
  · rw [if_neg (by decide), if_pos (by decide)]
    refine AG_b h (by omega) 10 rfl fun M1 h1 => ?_
    rw [h1.y.2.2.2, zb_some]
    exact AG_r h1
theorem c130 (h : CA M0 M s l K i v) (hn : s 133 69 ≤ 800) (hK : 0 ≤ K ∧ K ≤ 6) {x : Int32} : AG M0 (f_130 4 M 106 (ii K) x) (rgS K i v x s) l K i v := by
  have hz : K = 0 ∨ K = 1 ∨ K = 2 ∨ K = 3 ∨ K = 4 ∨ K = 5 ∨ K = 6 := by omega
  have n1 : ∀ k, bdS s k 133 69 ≤ 900 := fun k => by rw [bdS_n]; omega
  unfold rgS
  rcases hz with rfl | rfl | rfl | rfl | rfl | rfl | rfl
  · exact c130p h (by omega) (.inl rfl)
  · exact c130p h (by omega) (.inr (.inl rfl))
  · rw [if_pos (by decide), f_130, if_pos h.y.1, if_pos (by decide)]
    refine AG_b h (by omega) 30 rfl fun M1 h1 => ?_
    exact AG_d (c130p h1 (n1 _) (.inl rfl)) fun M2 h2 => AG_r h2
  · exact c130p h (by omega) (.inr (.inr rfl))
  · rw [if_neg (by decide), if_pos (by decide), f_130, if_pos h.y.1, if_neg (by decide), if_neg (by decide), if_pos (by decide)]
    refine AG_b h (by omega) 50 rfl fun M1 h1 => ?_
    exact AG_d (c130p h1 (n1 _) (.inr (.inl rfl))) fun M2 h2 => AG_r h2
  · rw [if_pos (by decide), f_130, if_pos h.y.1, if_neg (by decide), if_neg (by decide), if_neg (by decide), if_pos (by decide)]
    refine AG_b h (by omega) 30 rfl fun M1 h1 => ?_
    exact AG_d (c130p h1 (n1 _) (.inl rfl)) fun M2 h2 => AG_r h2
  · rw [if_neg (by decide), if_neg (by decide), if_pos (by decide), f_130, if_pos h.y.1, if_neg (by decide), if_neg (by decide), if_neg (by decide), if_neg (by decide), if_pos (by decide)]
    refine AG_b h (by omega) 71 rfl fun M1 h1 => ?_
    refine AG_d (c130p h1 (n1 _) (.inr (.inr rfl))) fun M2 h2 => ?_
    rw [h2.y.2.2.1, zb_some]
    exact AG_r h2
theorem c132p (h : CA M0 M s l K i v) (hn : s 133 69 ≤ 700) (hK : 0 ≤ K ∧ K ≤ 6) {F x : Int32} (hF : F = 0 ∨ F = 2 ∨ F = 3 ∨ F = 5) {y : Nat} : AG M0 (f_132 (y + 1) M 106 F x) (blS K i v x s) l K i v := by
  have n1 : ∀ k, bdS s k 133 69 ≤ 800 := fun k => by rw [bdS_n]; omega
  rw [f_132, if_pos h.y.1, if_neg (by rcases hF with rfl | rfl | rfl | rfl <;> decide), if_neg (by rcases hF with rfl | rfl | rfl | rfl <;> decide), if_neg (by rcases hF with rfl | rfl | rfl | rfl <;> decide)]
  refine AG_b h (by omega) 11 rfl fun M1 h1 => ?_
  rw [h1.y.2.1, zb_some]
  refine AG_d (c130 h1 (n1 _) hK) fun M2 h2 => ?_
  rw [h2.y.2.2.1, zb_some]
  exact AG_r h2
theorem c132f (h : CA M0 M s l K i v) (hn : s 133 69 ≤ 600) (hK : 0 ≤ K ∧ K ≤ 6) {x : Int32} {y : Nat} : AG M0 (f_132 (y + 2) M 106 1 x) (fnS K i v x s) l K i v := by
  have n1 : ∀ k, bdS s k 133 69 ≤ 700 := fun k => by rw [bdS_n]; omega
  rw [f_132, if_pos h.y.1, if_pos rfl]
  refine AG_b h (by omega) 20 rfl fun M1 h1 => ?_
  exact AG_d (c132p h1 (n1 _) hK (.inl rfl)) fun M2 h2 => AG_r h2
theorem c132 (h : CA M0 M s l K i v) (hn : s 133 69 ≤ 500) (hK : 0 ≤ K ∧ K ≤ 6) {x : Int32} : AG M0 (f_132 4 M 106 (ii K) x) (spS K i v x s) l K i v := by
  have hz : K = 0 ∨ K = 1 ∨ K = 2 ∨ K = 3 ∨ K = 4 ∨ K = 5 ∨ K = 6 := by omega
  have n1 : ∀ k, bdS s k 133 69 ≤ 600 := fun k => by rw [bdS_n]; omega
  unfold spS
  rcases hz with rfl | rfl | rfl | rfl | rfl | rfl | rfl
  · exact c132p h (by omega) hK (.inl rfl)
  · exact c132f h (by omega) hK
  · exact c132p h (by omega) hK (.inr (.inl rfl))
  · exact c132p h (by omega) hK (.inr (.inr (.inl rfl)))
  · rw [if_neg (by decide), if_pos (by decide), f_132, if_pos h.y.1, if_neg (by decide), if_pos (by decide)]
    refine AG_b h (by omega) 51 rfl fun M1 h1 => ?_
    exact AG_d (c132f h1 (n1 _) hK) fun M2 h2 => AG_r h2
  · exact c132p h (by omega) hK (.inr (.inr (.inr rfl)))
  · rw [if_neg (by decide), if_neg (by decide), if_pos (by decide), f_132, if_pos h.y.1, if_neg (by decide), if_neg (by decide), if_pos (by decide)]
    refine AG_b h (by omega) 70 rfl fun M1 h1 => ?_
    refine AG_d (c132p h1 (Int.le_trans (n1 _) (by omega)) hK (.inr (.inr (.inl rfl)))) fun M2 h2 => ?_
    have g := (blS_g 6 i v x (bdS s 70)).1
    have g0 := n1 70
    refine AG_d (c130p h2 (by omega) (.inr (.inr rfl))) fun M3 h3 => ?_
    exact AG_r h3
theorem c133p (h : CA M0 M s l K i v) (hn : s 133 69 ≤ 400) (hK : 0 ≤ K ∧ K ≤ 6) {F x : Int32} (hF : F = 0 ∨ F = 1 ∨ F = 2 ∨ F = 4) {y : Nat} : AG M0 (f_133 (y + 1) M 106 F x) (tbS K i v x s) l K i v := by
  have n1 : ∀ k, bdS s k 133 69 ≤ 500 := fun k => by rw [bdS_n]; omega
  rcases hF with rfl | rfl | rfl | rfl
  · rw [f_133, if_pos h.y.1, if_neg (by decide), if_neg (by decide), if_neg (by decide), if_neg (by decide)]
    refine AG_b h (by omega) 12 rfl fun M1 h1 => ?_
    rw [h1.y.2.1, zb_some]
    exact AG_d (c132 h1 (n1 _) hK) fun M2 h2 => AG_r h2
  · rw [f_133, if_pos h.y.1, if_neg (by decide), if_neg (by decide), if_neg (by decide), if_neg (by decide)]
    refine AG_b h (by omega) 12 rfl fun M1 h1 => ?_
    rw [h1.y.2.1, zb_some]
    exact AG_d (c132 h1 (n1 _) hK) fun M2 h2 => AG_r h2
  · rw [f_133, if_pos h.y.1, if_neg (by decide), if_neg (by decide), if_neg (by decide), if_neg (by decide)]
    refine AG_b h (by omega) 12 rfl fun M1 h1 => ?_
    rw [h1.y.2.1, zb_some]
    exact AG_d (c132 h1 (n1 _) hK) fun M2 h2 => AG_r h2
  · rw [f_133, if_pos h.y.1, if_neg (by decide), if_pos (by decide)]
    refine AG_b h (by omega) 12 rfl fun M1 h1 => ?_
    rw [h1.y.2.1, zb_some]
    exact AG_d (c132 h1 (n1 _) hK) fun M2 h2 => AG_r h2
theorem c133 (h : CA M0 M s l K i v) (hn : s 133 69 ≤ 300) (hK : 0 ≤ K ∧ K ≤ 6) {x : Int32} : AG M0 (f_133 4 M 106 (ii K) x) (tlS K i v x s) l K i v := by
  have hz : K = 0 ∨ K = 1 ∨ K = 2 ∨ K = 3 ∨ K = 4 ∨ K = 5 ∨ K = 6 := by omega
  have n1 : ∀ k, bdS s k 133 69 ≤ 400 := fun k => by rw [bdS_n]; omega
  have g := fun K' x' => (tbS_g K' i v x' (bdS s 40)).1
  have g0 := n1 40
  unfold tlS
  rcases hz with rfl | rfl | rfl | rfl | rfl | rfl | rfl
  · exact c133p h (by omega) hK (.inl rfl)
  · exact c133p h (by omega) hK (.inr (.inl rfl))
  · exact c133p h (by omega) hK (.inr (.inr (.inl rfl)))
  · rw [if_pos (by decide), f_133, if_pos h.y.1, if_pos (by decide)]
    refine AG_b h (by omega) 40 rfl fun M1 h1 => ?_
    refine AG_d (c133p h1 (n1 _) hK (.inl rfl)) fun M2 h2 => ?_
    have := g 3 x
    rw [h2.y.2.1, zb_some]
    refine AG_d (c132 h2 (by omega) hK) fun M3 h3 => AG_r h3
  · exact c133p h (by omega) hK (.inr (.inr (.inr rfl)))
  · rw [if_neg (by decide), if_pos (by decide), f_133, if_pos h.y.1, if_neg (by decide), if_neg (by decide), if_pos (by decide)]
    refine AG_b h (by omega) 60 rfl fun M1 h1 => ?_
    rw [h1.y.2.2.2, zb_some]
    exact AG_d (c133p h1 (n1 _) hK (.inr (.inr (.inl rfl)))) fun M2 h2 => AG_r h2
  · rw [if_pos (by decide), f_133, if_pos h.y.1, if_neg (by decide), if_neg (by decide), if_neg (by decide), if_pos (by decide)]
    refine AG_b h (by omega) 40 rfl fun M1 h1 => ?_
    refine AG_d (c133p h1 (n1 _) hK (.inl rfl)) fun M2 h2 => ?_
    have := g 6 x
    rw [h2.y.2.1, zb_some]
    refine AG_d (c132 h2 (by omega) hK) fun M3 h3 => AG_r h3
end ZAG
def z69 (s : ZSt) : ZSt := up s 133 69 0
def sp128 (s : ZSt) (b a : Int) (x : Int32) : Int32 × ZSt := if (0 ≤ b ∧ b < s 133 0) ∧ 0 ≤ a ∧ a ≤ 2 then (if a = 0 then rgS (s 134 b.toNat) (ii b) (ii (s 135 b.toNat)) x (z69 s) else if a = 1 then spS (s 134 b.toNat) (ii b) (ii (s 135 b.toNat)) x (z69 s) else tlS (s 134 b.toNat) (ii b) (ii (s 135 b.toNat)) x (z69 s)) else (0, z69 s)
theorem m128 {M0 M : ZMem} {s : ZSt} {l : Nat → Int64} (h : CS M0 M s l) (hV : IV s) {b a : Int} {x : Int32} (hb : -2147483648 ≤ b ∧ b < 2147483648) (ha : -2147483648 ≤ a ∧ a < 2147483648) : CG M0 (f_128 M 20 (ii b) (ii a) x) (sp128 s b a x).1 (sp128 s b a x).2 l := by
  have hi := hV.1.1
  have h0 := hi.1.1
  have h9 := hi.1.2.2.2.1
  have C1 : CS M0 (zpI M 106 1 (ii 0)) (z69 s) l := by
    refine ⟨h.1.p, h.2.1.pI (by omega), RC_ac h.2.2 ⟨h0.2, hi.2, h9.2⟩ (fun p p1 p2 => ⟨fun j => zI_ne p1, fun j => rfl⟩) (fun q q1 q2 => up_fn q1) (fun j hj => up_nk hj) ⟨?_, fun c hc => ?_⟩⟩
    · rw [zI_at]; rfl
    · have : z69 s 133 69 = 0 := up_at
      omega
  have e0 : z69 s 133 0 = s 133 0 := up_nk (by omega)
  have hA := cA h.1
  have y1 : zI (zpI M 106 1 (ii 0)) 22 1 = ii (s 133 0) := (zI_ne (by omega)).trans h.2.2.1.1.1
  unfold f_128 sp128
  simp only [cX h.1, hA, if_true, zb_some, show (0 : Int32) = ii 0 from rfl, cX C1.1]
  rw [c19 C1.1 (by decide) y1 h0 hb, zb_some]
  by_cases c : 0 ≤ b ∧ b < s 133 0
  · obtain ⟨n, rfl⟩ := Int.eq_ofNat_of_zero_le c.1
    have hb6 : n < 6 := by omega
    have ym : 22 ∈ [22, 49, 75] := by decide
    have hv := hV.1.2.2.1 n c.2
    have v1 := hv.1
    simp only [Nat.add_zero] at v1
    have hB := h.2.2.1.2.1 n c.2
    have nb := blk_nb h.2.2.1.2.2 ym hb6
    have b1 : zI M (22 + 2 + 2 * n) 1 = ii (s 134 n) ∧ zI M (22 + 2 + 2 * n) 2 = ii (s 135 n) := by
      rw [show 22 + 2 + 2 * n = 24 + 2 * n by omega]
      exact ⟨hB.1.1, hB.1.2.1⟩
    rw [fnd_some c, zcs_so _ _ _ (by omega), Int.toNat_natCast]
    have L1 := C1.1
    have B1 := cB L1 ym hb6
    have hN : ∀ N : ZMem, N = zpI (zpI (zpI (zpI M 106 1 (ii 0)) 106 2 (ii (s 134 n))) 106 3 (ii (s 135 n))) 106 4 (ii (n : Int)) → CA M0 N (z69 s) l (s 134 n) (ii (n : Int)) (ii (s 135 n)) := by
      intro N e
      subst e
      refine ⟨⟨⟨L1.p.p.p, ((C1.2.1.pI (by omega)).pI (by omega)).pI (by omega), RC_ac C1.2.2 ⟨by rw [e0]; exact h0.2, by rw [show z69 s 133 50 = s 133 50 from up_nk (by omega)]; exact hi.2, by rw [show z69 s 133 9 = s 133 9 from up_nk (by omega)]; exact h9.2⟩ (fun p p1 p2 => ⟨fun j => by rw [zI_ne p1, zI_ne p1, zI_ne p1], fun j => rfl⟩) (fun q q1 q2 => rfl) (fun j hj => rfl) ⟨?_, fun c hc => ?_⟩⟩, ?_⟩, ?_⟩
      · rw [zI_nk (by omega), zI_nk (by omega), zI_nk (by omega), zI_at]; rfl
      · have : z69 s 133 69 = 0 := up_at
        omega
      · rw [e0, show z69 s 133 50 = s 133 50 from up_nk (by omega), show z69 s 133 9 = s 133 9 from up_nk (by omega), show z69 s 133 69 = 0 from up_at]
        exact ⟨h0.2, hi.2, h9.2, by omega⟩
      · refine ⟨?_, ?_, zI_at⟩
        · rw [zI_nk (by omega), zI_nk (by omega), zI_at]
        · rw [zI_nk (by omega), zI_at]
    have fin : CG M0 (f_129 (zpI M 106 1 (ii 0)) 106 (some (22 + 2 + 2 * n)) (ii a) x) (sp128 s (n : Int) a x).1 (sp128 s (n : Int) a x).2 l := by
      have N := hN _ rfl
      have n69 : z69 s 133 69 ≤ 300 := by rw [show z69 s 133 69 = 0 from up_at]; omega
      have toC : ∀ (t : Option (Int32 × ZMem)) (r : Int32 × ZSt), AG M0 t r l (s 134 n) (ii (n : Int)) (ii (s 135 n)) → CG M0 t r.1 r.2 l := fun t r ⟨M', q1, q2⟩ => ⟨M', q1, q2.1.1⟩
      have y := N.y
      unfold f_129 sp128
      simp (disch := omega) only [cA L1, cA L1.p, cA L1.p.p, B1, cB L1.p ym hb6, cB L1.p.p ym hb6, if_true, zb_some, zI_ne, b1, nb, Int.toNat_natCast, y]
      by_cases a0 : a = 0
      · rw [if_pos (show ii a = 0 by rw [a0]; rfl), if_pos (show (0 ≤ (n : Int) ∧ (n : Int) < s 133 0) ∧ 0 ≤ a ∧ a ≤ 2 from ⟨c, by omega⟩), if_pos a0]
        exact CG_bd (toC _ _ (c130 N (by omega) v1)) fun M1 h1 => CG_ret h1
      · rw [if_neg (show ¬ ii a = 0 by rw [show (0 : Int32) = ii 0 from rfl, ii_eq (by omega) (by omega)]; exact a0)]
        by_cases a1 : a = 1
        · rw [if_pos (show ii a = 1 by rw [a1]; rfl), if_pos (show (0 ≤ (n : Int) ∧ (n : Int) < s 133 0) ∧ 0 ≤ a ∧ a ≤ 2 from ⟨c, by omega⟩), if_neg a0, if_pos a1]
          exact CG_bd (toC _ _ (c132 N (by omega) v1)) fun M1 h1 => CG_ret h1
        · rw [if_neg (show ¬ ii a = 1 by rw [show (1 : Int32) = ii 1 from rfl, ii_eq (by omega) (by omega)]; exact a1)]
          by_cases a2 : a = 2
          · rw [if_pos (show ii a = 2 by rw [a2]; rfl), if_pos (show (0 ≤ (n : Int) ∧ (n : Int) < s 133 0) ∧ 0 ≤ a ∧ a ≤ 2 from ⟨c, by omega⟩), if_neg a0, if_neg a1]
            exact CG_bd (toC _ _ (c133 N (by omega) v1)) fun M1 h1 => CG_ret h1
          · rw [if_neg (show ¬ ii a = 2 by rw [show (2 : Int32) = ii 2 from rfl, ii_eq (by omega) (by omega)]; exact a2), if_neg (by omega)]
            exact CG_ret N.1.1
    unfold sp128 at fin
    exact CG_bd fin fun M1 h1 => CG_ret h1
  · rw [fnd_none c, zcs_no, if_neg (fun q => c q.1)]
    exact CG_ret C1
/-- the reference's -/
theorem m225 {M0 M : ZMem} {s : ZSt} (h : MS M0 M s) (hn : 0 ≤ s 133 69 ∧ s 133 69 ≤ 1000) (k : Int) : MV M0 (f_225 M 133 (ii k)) (bdS s k) := by
  unfold f_225 bdS
  rw [if_pos (zok_ly h.1 k133), rF h (j := 69) (by decide) rfl, zb_some]
  by_cases g : s 133 69 < 20
  · rw [if_neg (show ¬ (20 : Int32) ≤ ii (s 133 69) by rw [show (20 : Int32) = ii 20 from rfl, ii_le (by omega) (by omega)]; omega), rP h (j := 70) (P := 179) (by decide) (by decide +kernel), zb_some, zb_some, zb_some, if_pos g]
    refine MV_bv (wA h (P := 179) (n := 20) (by decide) (by omega) (by omega)) fun M1 h1 => ?_
    unfold f_225_19
    refine MV_eq (rFx h1 (j := 69) (x := s 133 69) (by decide) rfl (up_ne (by omega))) ?_
    rw [show (1 : Int32) = ii 1 from rfl, ii_add]
    exact MV_bv (wF h1 (by decide) (by decide) (by decide)) fun M2 h2 => MV_ret h2
  · rw [if_pos (show (20 : Int32) ≤ ii (s 133 69) by rw [show (20 : Int32) = ii 20 from rfl, ii_le (by omega) (by omega)]; omega), if_neg g]
    unfold f_225_19
    rw [rF h (j := 69) (by decide) rfl, zb_some, show (1 : Int32) = ii 1 from rfl, ii_add]
    exact MV_bv (wF h (by decide) (by decide) (by decide)) fun M2 h2 => MV_ret h2
theorem bdS_b {s : ZSt} {k n : Int} (h : 0 ≤ s 133 69 ∧ s 133 69 ≤ n) : 0 ≤ bdS s k 133 69 ∧ bdS s k 133 69 ≤ n + 1 := by
  rw [bdS_n]; omega
theorem Gr.b {s t : ZSt} {n m : Int} (g : Gr s t n) (h : 0 ≤ s 133 69 ∧ s 133 69 ≤ m) : 0 ≤ t 133 69 ∧ t 133 69 ≤ m + n := by
  have := g.1; omega
theorem m226 {M0 M : ZMem} {s : ZSt} (h : MS M0 M s) (hn : 0 ≤ s 133 69 ∧ s 133 69 ≤ 900) {b x : Int32} : MG M0 (f_226 M 133 b x) (x + b) (bdS s 10) := by
  unfold f_226
  rw [if_pos (zok_ly h.1 k133)]
  exact MG_bv (m225 h (by omega) 10) fun M1 h1 => MG_ret h1
/-- a block's kind and number v -/
def KV (s : ZSt) (b : Nat) (K v : Int) : Prop := s 134 b = K ∧ s 135 b = v
theorem KV.g {s t : ZSt} {b : Nat} {K v n : Int} (h : KV s b K v) (g : Gr s t n) : KV t b K v := by
  unfold KV at h ⊢
  rw [g.2.1 134 (by omega) (by omega), g.2.1 135 (by omega) (by omega)]
  exact h
theorem KV.bd {s : ZSt} {b : Nat} {K v k : Int} (h : KV s b K v) : KV (bdS s k) b K v := by
  unfold KV at h ⊢
  rw [bdS_o (by omega) (by omega), bdS_o (by omega) (by omega)]
  exact h
section ZMA
variable {M0 M : ZMem} {s : ZSt} {b : Nat} {K v : Int} {x : Int32}
theorem rKV (h : MS M0 M s) (hb : b < 6) (hk : KV s b K v) : (zgr M 12 3 133 = some (some 134) ∧ zai M 134 (ii (b : Int)) = some (ii K)) ∧ zgr M 12 4 133 = some (some 135) ∧ zai M 135 (ii (b : Int)) = some (ii v) := by
  have x3 := rN h (j := 3) (P := 134) (n := 6) (by decide) (by decide +kernel) (by decide) (fun _ => rfl) (by omega) hb
  have x4 := rN h (j := 4) (P := 135) (n := 6) (by decide) (by decide +kernel) (by decide) (fun _ => rfl) (by omega) hb
  rw [hk.1] at x3
  rw [hk.2] at x4
  exact ⟨x3, x4⟩
theorem m224 (h : MS M0 M s) (hn : 0 ≤ s 133 69 ∧ s 133 69 ≤ 800) (hb : b < 6) (hk : KV s b K v) (hK : 0 ≤ K ∧ K ≤ 6) : MG M0 (f_224 M 133 (ii (b : Int)) x) (rgS K (ii (b : Int)) (ii v) x s).1 (rgS K (ii (b : Int)) (ii v) x s).2 := by
  have hz : K = 0 ∨ K = 1 ∨ K = 2 ∨ K = 3 ∨ K = 4 ∨ K = 5 ∨ K = 6 := by omega
  have r := rKV h hb hk
  have nb := fun k => bdS_b (k := k) hn
  unfold f_224 rgS
  rw [if_pos (zok_ly h.1 k133), r.1.1, zb_some, zb_some, r.1.2, zb_some]
  have pl : MG M0 (f_224_89 M 133 (ii (b : Int)) x) (x + ii (b : Int)) (bdS s 10) := by
    unfold f_224_89
    exact MG_bd (m226 h (by omega)) fun M1 h1 => MG_ret h1
  have tr : MG M0 (f_224_40 M 133 (ii (b : Int)) x) (x * 3 + ii (b : Int)) (bdS (bdS s 30) 10) := by
    unfold f_224_40
    refine MG_bv (m225 h (by omega) 30) fun M1 h1 => ?_
    exact MG_bd (m226 h1 (by have := nb 30; omega)) fun M2 h2 => MG_ret h2
  rcases hz with rfl | rfl | rfl | rfl | rfl | rfl | rfl
  · rw [if_neg (by decide), if_neg (by decide), if_neg (by decide), if_neg (by decide), if_neg (by decide)]; exact pl
  · rw [if_neg (by decide), if_neg (by decide), if_neg (by decide), if_neg (by decide), if_neg (by decide)]; exact pl
  · rw [if_pos (by decide), if_pos (by decide)]; exact tr
  · rw [if_neg (by decide), if_pos (by decide)]; exact pl
  · rw [if_neg (by decide), if_neg (by decide), if_pos (by decide), if_neg (by decide), if_pos (by decide)]
    refine MG_bv (m225 h (by omega) 50) fun M1 h1 => ?_
    exact MG_bd (m226 h1 (by have := nb 50; omega)) fun M2 h2 => MG_ret h2
  · rw [if_neg (by decide), if_neg (by decide), if_neg (by decide), if_pos (by decide), if_pos (by decide)]; exact tr
  · rw [if_neg (by decide), if_neg (by decide), if_neg (by decide), if_neg (by decide), if_pos (by decide), if_neg (by decide), if_neg (by decide), if_pos (by decide)]
    refine MG_bv (m225 h (by omega) 71) fun M1 h1 => ?_
    refine MG_bd (m226 h1 (by have := nb 71; omega)) fun M2 h2 => ?_
    have r2 := rKV h2 hb hk.bd.bd
    rw [r2.2.1, zb_some, zb_some, r2.2.2, zb_some]
    exact MG_ret h2
theorem m229 (h : MS M0 M s) (hn : 0 ≤ s 133 69 ∧ s 133 69 ≤ 700) (hb : b < 6) (hk : KV s b K v) (hK : 0 ≤ K ∧ K ≤ 6) : MG M0 (f_229 M 133 (ii (b : Int)) x) (blS K (ii (b : Int)) (ii v) x s).1 (blS K (ii (b : Int)) (ii v) x s).2 := by
  have nb := bdS_b (k := 11) hn
  unfold f_229 blS
  rw [if_pos (zok_ly h.1 k133)]
  refine MG_bv (m225 h (by omega) 11) fun M1 h1 => ?_
  refine MG_bd (m224 h1 (by omega) hb hk.bd hK) fun M2 h2 => ?_
  have r2 := rKV h2 hb (hk.bd.g (rgS_g K (ii (b : Int)) (ii v) x (bdS s 11)))
  rw [r2.2.1, zb_some, zb_some, r2.2.2, zb_some]
  exact MG_ret h2
theorem m228 (h : MS M0 M s) (hn : 0 ≤ s 133 69 ∧ s 133 69 ≤ 600) (hb : b < 6) (hk : KV s b K v) (hK : 0 ≤ K ∧ K ≤ 6) : MG M0 (f_228 M 133 (ii (b : Int)) x) (fnS K (ii (b : Int)) (ii v) x s).1 (fnS K (ii (b : Int)) (ii v) x s).2 := by
  have nb := bdS_b (k := 20) hn
  unfold f_228 fnS
  rw [if_pos (zok_ly h.1 k133)]
  refine MG_bv (m225 h (by omega) 20) fun M1 h1 => ?_
  exact MG_bd (m229 h1 (by omega) hb hk.bd hK) fun M2 h2 => MG_ret h2
theorem m227 (h : MS M0 M s) (hn : 0 ≤ s 133 69 ∧ s 133 69 ≤ 500) (hb : b < 6) (hk : KV s b K v) (hK : 0 ≤ K ∧ K ≤ 6) : MG M0 (f_227 M 133 (ii (b : Int)) x) (spS K (ii (b : Int)) (ii v) x s).1 (spS K (ii (b : Int)) (ii v) x s).2 := by
  have r := rKV h hb hk
  have nb := fun k => bdS_b (k := k) hn
  unfold f_227 spS
  rw [if_pos (zok_ly h.1 k133), r.1.1, zb_some, zb_some, r.1.2, zb_some]
  by_cases k1 : K = 1
  · rw [if_pos (show ii K = 1 by rw [k1]; rfl), if_pos k1]
    exact MG_bd (m228 h (by omega) hb hk hK) fun M1 h1 => MG_ret h1
  · rw [if_neg (show ¬ ii K = 1 by rw [show (1 : Int32) = ii 1 from rfl, ii_eq (by omega) (by omega)]; exact k1), if_neg k1]
    by_cases k4 : K = 4
    · rw [if_pos (show ii K = 4 by rw [k4]; rfl), if_pos k4]
      refine MG_bv (m225 h (by omega) 51) fun M1 h1 => ?_
      exact MG_bd (m228 h1 (by have := nb 51; omega) hb hk.bd hK) fun M2 h2 => MG_ret h2
    · rw [if_neg (show ¬ ii K = 4 by rw [show (4 : Int32) = ii 4 from rfl, ii_eq (by omega) (by omega)]; exact k4), if_neg k4]
      by_cases k6 : K = 6
      · rw [if_pos (show ii K = 6 by rw [k6]; rfl), if_pos k6]
        refine MG_bv (m225 h (by omega) 70) fun M1 h1 => ?_
        have n7 := nb 70
        refine MG_bd (m229 h1 (by omega) hb hk.bd hK) fun M2 h2 => ?_
        have g := (blS_g K (ii (b : Int)) (ii v) x (bdS s 70)).b n7
        exact MG_bd (m226 h2 (by omega)) fun M3 h3 => MG_ret h3
      · rw [if_neg (show ¬ ii K = 6 by rw [show (6 : Int32) = ii 6 from rfl, ii_eq (by omega) (by omega)]; exact k6), if_neg k6]
        exact MG_bd (m229 h (by omega) hb hk hK) fun M1 h1 => MG_ret h1
theorem m231 (h : MS M0 M s) (hn : 0 ≤ s 133 69 ∧ s 133 69 ≤ 400) (hb : b < 6) (hk : KV s b K v) (hK : 0 ≤ K ∧ K ≤ 6) : MG M0 (f_231 M 133 (ii (b : Int)) x) (tbS K (ii (b : Int)) (ii v) x s).1 (tbS K (ii (b : Int)) (ii v) x s).2 := by
  have nb := bdS_b (k := 12) hn
  unfold f_231 tbS
  rw [if_pos (zok_ly h.1 k133)]
  refine MG_bv (m225 h (by omega) 12) fun M1 h1 => ?_
  exact MG_bd (m227 h1 (by omega) hb hk.bd hK) fun M2 h2 => MG_ret h2
theorem m230 (h : MS M0 M s) (hn : 0 ≤ s 133 69 ∧ s 133 69 ≤ 300) (hb : b < 6) (hk : KV s b K v) (hK : 0 ≤ K ∧ K ≤ 6) : MG M0 (f_230 M 133 (ii (b : Int)) x) (tlS K (ii (b : Int)) (ii v) x s).1 (tlS K (ii (b : Int)) (ii v) x s).2 := by
  have hz : K = 0 ∨ K = 1 ∨ K = 2 ∨ K = 3 ∨ K = 4 ∨ K = 5 ∨ K = 6 := by omega
  have r := rKV h hb hk
  have nb := fun k => bdS_b (k := k) hn
  unfold f_230 tlS
  rw [if_pos (zok_ly h.1 k133), r.1.1, zb_some, zb_some, r.1.2, zb_some]
  have pl : MG M0 (f_230_73 M 133 (ii (b : Int)) x) (tbS K (ii (b : Int)) (ii v) x s).1 (tbS K (ii (b : Int)) (ii v) x s).2 := by
    unfold f_230_73
    exact MG_bd (m231 h (by omega) hb hk hK) fun M1 h1 => MG_ret h1
  have kn : MG M0 (f_230_36 M 133 (ii (b : Int)) x) ((tbS K (ii (b : Int)) (ii v) x (bdS s 40)).1 + (spS K (ii (b : Int)) (ii v) 1 (tbS K (ii (b : Int)) (ii v) x (bdS s 40)).2).1) (spS K (ii (b : Int)) (ii v) 1 (tbS K (ii (b : Int)) (ii v) x (bdS s 40)).2).2 := by
    unfold f_230_36
    refine MG_bv (m225 h (by omega) 40) fun M1 h1 => ?_
    have n4 := nb 40
    refine MG_bd (m231 h1 (by omega) hb hk.bd hK) fun M2 h2 => ?_
    have g := tbS_g K (ii (b : Int)) (ii v) x (bdS s 40)
    have g2 := g.b n4
    exact MG_bd (m227 h2 (by omega) hb (hk.bd.g g) hK) fun M3 h3 => MG_ret h3
  rcases hz with rfl | rfl | rfl | rfl | rfl | rfl | rfl
  · rw [if_neg (by decide), if_neg (by decide), if_neg (by decide), if_neg (by decide)]; exact pl
  · rw [if_neg (by decide), if_neg (by decide), if_neg (by decide), if_neg (by decide)]; exact pl
  · rw [if_neg (by decide), if_neg (by decide), if_neg (by decide), if_neg (by decide)]; exact pl
  · rw [if_pos (by decide), if_pos (by decide)]; exact kn
  · rw [if_neg (by decide), if_pos (by decide)]; exact pl
  · rw [if_neg (by decide), if_neg (by decide), if_pos (by decide), if_neg (by decide), if_pos (by decide)]
    refine MG_bv (m225 h (by omega) 60) fun M1 h1 => ?_
    exact MG_bd (m231 h1 (by have := nb 60; omega) hb hk.bd hK) fun M2 h2 => MG_ret h2
  · rw [if_neg (by decide), if_neg (by decide), if_neg (by decide), if_pos (by decide), if_pos (by decide)]; exact kn
end ZMA
theorem m223 {M0 M : ZMem} {s : ZSt} (h : MS M0 M s) (hV : IV s) {b a : Int} {x : Int32} (hb : -2147483648 ≤ b ∧ b < 2147483648) (ha : -2147483648 ≤ a ∧ a < 2147483648) : MG M0 (f_223 M 133 (ii b) (ii a) x) (sp128 s b a x).1 (sp128 s b a x).2 := by
  have h0 := hV.1.1.1.1
  unfold f_223 sp128
  rw [if_pos (zok_ly h.1 k133), show (0 : Int32) = ii 0 from rfl]
  refine MG_bv (wF h (by decide) (by decide) (by decide)) fun M1 h1 => ?_
  have h1 : MS M0 M1 (z69 s) := h1
  have e0 : z69 s 133 0 = s 133 0 := up_nk (by omega)
  have e69 : z69 s 133 69 = 0 := up_at
  have hi1 : SIn (z69 s) := by
    have hi := hV.1.1.1
    unfold SIn at hi ⊢
    rw [e69, e0, show z69 s 133 1 = s 133 1 from up_nk (by omega), show z69 s 133 2 = s 133 2 from up_nk (by omega), show z69 s 133 9 = s 133 9 from up_nk (by omega), show z69 s 133 10 = s 133 10 from up_nk (by omega), show z69 s 133 11 = s 133 11 from up_nk (by omega), show z69 s 133 38 = s 133 38 from up_nk (by omega), show z69 s 133 42 = s 133 42 from up_nk (by omega), show z69 s 133 43 = s 133 43 from up_nk (by omega), show z69 s 133 48 = s 133 48 from up_nk (by omega)]
    obtain ⟨q0, q1, q2, q3, q4, q5, q6, q7, q8, q9, q10⟩ := hi
    exact ⟨q0, q1, q2, q3, q4, q5, q6, q7, q8, q9, by omega⟩
  rw [c149 h1.1 h1.2.2 hi1 hb, zb_some, e0]
  by_cases c : 0 ≤ b ∧ b < s 133 0
  · obtain ⟨n, rfl⟩ := Int.eq_ofNat_of_zero_le c.1
    have hv := hV.1.2.2.1 n c.2
    have v1 := hv.1
    simp only [Nat.add_zero] at v1
    have hk : KV (z69 s) n (s 134 n) (s 135 n) := ⟨up_ne (by omega), up_ne (by omega)⟩
    rw [if_pos c, if_neg (show ¬ (1 : Int32) = ii 0 by decide), show (2 : Int32) = ii 2 from rfl, c147z h1.1 ha (by omega) (by omega), zb_some, Int.toNat_natCast]
    by_cases d : 0 ≤ a ∧ a ≤ 2
    · rw [bzT d, if_pos (show ¬ (1 : Int32) = ii 0 by decide), if_pos (show (0 ≤ (n : Int) ∧ (n : Int) < s 133 0) ∧ 0 ≤ a ∧ a ≤ 2 from ⟨c, d⟩), show (1 : Int32) = ii 1 from rfl, it_ne (by omega) (by omega)]
      by_cases a0 : a = 0
      · rw [if_pos a0, if_pos a0]
        exact MG_bd (m224 h1 (by omega) (by omega) hk v1) fun M2 h2 => MG_ret h2
      · rw [if_neg a0, if_neg a0, it_ne (by omega) (by omega)]
        by_cases a1 : a = 1
        · rw [if_pos a1, if_pos a1]
          exact MG_bd (m227 h1 (by omega) (by omega) hk v1) fun M2 h2 => MG_ret h2
        · rw [if_neg a1, if_neg a1]
          exact MG_bd (m230 h1 (by omega) (by omega) hk v1) fun M2 h2 => MG_ret h2
    · rw [bzF d, if_neg (show ¬ ¬ (0 : Int32) = ii 0 by decide), if_neg (fun q => d q.2)]
      exact MG_ret h1
  · rw [if_neg c, if_pos (show (0 : Int32) = ii 0 from rfl), if_neg (fun q => c q.1)]
    exact MG_ret h1
