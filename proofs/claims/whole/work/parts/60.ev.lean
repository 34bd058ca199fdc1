/-! STATES ALIKE but for what the reference keeps aside; the copying of a yard -/
def EV (s s' : ZSt) : Prop := (∀ p, p ≠ 133 → (p < 154 ∨ 158 < p) → s' p = s p) ∧ ∀ j, j ≠ 31 → j ≠ 37 → s' 133 j = s 133 j
theorem EV.rf (s : ZSt) : EV s s := ⟨fun _ _ _ => rfl, fun _ _ _ => rfl⟩
theorem EV.tr {s s1 s2 : ZSt} (h : EV s s1) (h' : EV s1 s2) : EV s s2 := ⟨fun p a b => (h'.1 p a b).trans (h.1 p a b), fun j a b => (h'.2 j a b).trans (h.2 j a b)⟩
theorem EV.ah {s s' : ZSt} (h : EV s s') : AH s s' := ⟨fun q a b => h.1 q (by omega) (by omega), h.2 10 (by omega) (by omega), h.2 9 (by omega) (by omega)⟩
theorem RC_ev {M : ZMem} {s s' : ZSt} {l : Nat → Int64} (h : RC M s l) (e : EV s s') : RC M s' l := by
  obtain ⟨⟨h1, h2, h3⟩, ⟨h4, h5, h6⟩, h7, h8, h9, h10, h11⟩ := h
  refine ⟨⟨RCy_sf h1 ?_ ?_ ?_ ?_, RCb_sf h2 ?_ ?_ ?_ ?_ ?_ ?_ ?_, h3⟩, ⟨RCs_sf h4 ?_ ?_ ?_ ?_, RCw_sf h5 ?_ ?_ ?_, RCk_sf h6 ?_ ?_ ?_⟩, RCt_sf h7 ?_ ?_ ?_, RCi_sf h8 ?_ ?_ ?_ ?_ ?_ ?_ ?_ ?_ ?_ ?_ ?_ ?_ ?_ ?_ ?_ ?_ ?_ ?_ ?_ ?_ ?_, RCa_sf h9 ?_ ?_, RCh_sf h10 ?_ ?_ ?_ ?_ ?_ ?_ ?_, RCp_sf h11 ?_ ?_⟩
  all_goals first | exact e.2 _ (by omega) (by omega) | exact e.1 _ (by omega) (by omega)
theorem SIn_ev {s s' : ZSt} (h : SIn s) (e : EV s s') : SIn s' := by
  unfold SIn at h ⊢
  rw [e.2 0 (by omega) (by omega), e.2 1 (by omega) (by omega), e.2 2 (by omega) (by omega), e.2 9 (by omega) (by omega), e.2 10 (by omega) (by omega), e.2 11 (by omega) (by omega), e.2 38 (by omega) (by omega), e.2 42 (by omega) (by omega), e.2 43 (by omega) (by omega), e.2 48 (by omega) (by omega), e.2 69 (by omega) (by omega)]
  exact h
theorem SBk_ev {s s' : ZSt} (e : EV s s') {D b : Nat} (hD : D = 0 ∨ D = 32) (h : SBk s D b) : SBk s' D b := by
  unfold SBk at h ⊢
  rw [e.1 (134 + D) (by omega) (by omega), e.1 (135 + D) (by omega) (by omega), e.1 (136 + D) (by omega) (by omega), e.1 (137 + D) (by omega) (by omega), e.1 (138 + D) (by omega) (by omega), e.1 (139 + D) (by omega) (by omega)]
  exact h
theorem SIb_ev {s s' : ZSt} (h : SIb s) (e : EV s s') : SIb s' := by
  intro b hb
  rw [e.2 0 (by omega) (by omega)] at hb
  exact SBk_ev e (.inl rfl) (h b hb)
/-- what the state keeps: all bounds -/
def SIw (s : ZSt) : Prop := ∀ k : Nat, (k : Int) < s 133 42 → (0 ≤ s 162 k ∧ s 162 k ≤ 2) ∧ (0 < s 162 k → 0 ≤ s 163 k ∧ s 163 k < s 133 0)
def SIs (s : ZSt) : Prop := ∀ k : Nat, (k : Int) < s 133 38 → (2 ≤ s 160 k ∧ s 160 k ≤ 60) ∧ (1 ≤ s 159 k ∧ s 159 k ≤ s 160 k - 1) ∧ (s 161 k = 0 ∨ s 161 k = 1)
def SIi (s : ZSt) : Prop := s 133 48 = 1 → ((0 ≤ s 133 50 ∧ s 133 50 ≤ 6) ∧ (0 ≤ s 133 51 ∧ s 133 51 ≤ 9999) ∧ (0 ≤ s 133 52 ∧ s 133 52 ≤ 999999) ∧ (-1 ≤ s 133 49 ∧ s 133 49 < s 133 9) ∧ (0 ≤ s 133 53 ∧ s 133 53 ≤ 6) ∧ (0 ≤ s 133 54 ∧ s 133 54 ≤ 10) ∧ (0 ≤ s 133 55 ∧ s 133 55 ≤ 8)) ∧
  (∀ b : Nat, (b : Int) < s 133 50 → SBk s 32 b) ∧
  (∀ k : Nat, (k : Int) < s 133 53 → (2 ≤ s 173 k ∧ s 173 k ≤ 60) ∧ (1 ≤ s 172 k ∧ s 172 k ≤ s 173 k - 1) ∧ (s 178 k = 0 ∨ s 178 k = 1)) ∧
  (∀ k : Nat, (k : Int) < s 133 54 → (0 ≤ s 174 k ∧ s 174 k ≤ 2) ∧ (0 < s 174 k → 0 ≤ s 175 k ∧ s 175 k < s 133 50)) ∧
  ∀ k : Nat, (k : Int) < s 133 55 → (0 ≤ s 176 k ∧ s 176 k < s 133 50) ∧ 0 ≤ s 177 k ∧ s 177 k ≤ 60
def IV (s : ZSt) : Prop := (SI6 s ∧ s 133 1 ≤ 9999 ∧ SIb s ∧ SH s) ∧ (SIk s ∧ SIt s ∧ SIw s ∧ SIs s) ∧ SIi s
theorem SIi_ev {s s' : ZSt} (h : SIi s) (e : EV s s') : SIi s' := by
  intro hq
  rw [e.2 48 (by omega) (by omega)] at hq
  obtain ⟨h1, h2, h3, h4, h5⟩ := h hq
  rw [e.2 50 (by omega) (by omega), e.2 51 (by omega) (by omega), e.2 52 (by omega) (by omega), e.2 49 (by omega) (by omega), e.2 9 (by omega) (by omega), e.2 53 (by omega) (by omega), e.2 54 (by omega) (by omega), e.2 55 (by omega) (by omega), e.1 172 (by omega) (by omega), e.1 173 (by omega) (by omega), e.1 174 (by omega) (by omega), e.1 175 (by omega) (by omega), e.1 176 (by omega) (by omega), e.1 177 (by omega) (by omega), e.1 178 (by omega) (by omega)]
  exact ⟨h1, fun b hb => SBk_ev e (.inr rfl) (h2 b hb), h3, h4, h5⟩
theorem IV_ev {s s' : ZSt} (h : IV s) (e : EV s s') : IV s' := by
  obtain ⟨⟨⟨a1, a2⟩, a3, a4, a5⟩, ⟨b1, b2, b3, b4⟩, c⟩ := h
  refine ⟨⟨⟨SIn_ev a1 e, ?_⟩, ?_, SIb_ev a4 e, e.ah.sh a5⟩, ⟨?_, ?_, ?_, ?_⟩, SIi_ev c e⟩
  · rw [e.2 50 (by omega) (by omega)]; exact a2
  · rw [e.2 1 (by omega) (by omega)]; exact a3
  · unfold SIk at b1 ⊢
    rw [e.2 43 (by omega) (by omega), e.2 0 (by omega) (by omega), e.1 164 (by omega) (by omega), e.1 165 (by omega) (by omega)]
    exact b1
  · unfold SIt at b2 ⊢
    rw [e.1 180 (by omega) (by omega), e.1 181 (by omega) (by omega)]
    exact b2
  · unfold SIw at b3 ⊢
    rw [e.2 42 (by omega) (by omega), e.2 0 (by omega) (by omega), e.1 162 (by omega) (by omega), e.1 163 (by omega) (by omega)]
    exact b3
  · unfold SIs at b4 ⊢
    rw [e.2 38 (by omega) (by omega), e.1 159 (by omega) (by omega), e.1 160 (by omega) (by omega), e.1 161 (by omega) (by omega)]
    exact b4
/-- what a block is worth, alike in states alike -/
theorem prc_ev {s s' : ZSt} (e : EV s s') (b : Nat) : prc s' b = prc s b := by
  have f1 : ∀ f, fct s' b f = fct s b f := by
    intro f
    unfold fct
    rw [e.1 134 (by omega) (by omega), e.1 135 (by omega) (by omega), e.1 136 (by omega) (by omega), e.1 137 (by omega) (by omega), e.2 1 (by omega) (by omega)]
  have f2 : tev s' b = tev s b := by
    funext t
    unfold tev
    rw [f1]
  have f3 : ∀ c, hld s' b c = hld s b c := by
    intro c
    unfold hld sgl
    rw [f2, e.1 144 (by omega) (by omega), e.1 145 (by omega) (by omega), e.1 146 (by omega) (by omega)]
  have f4 : ∀ n c x, prl s' b c n x = prl s b c n x := by
    intro n
    induction n with
    | zero => intro c x; rfl
    | succ n ih =>
      intro c x
      rw [prl, prl, ih, f3, e.1 142 (by omega) (by omega), e.1 143 (by omega) (by omega)]
  unfold prc
  rw [f4, e.ah.hc.1, e.ah.hc.2]
theorem yC_ev {s s' : ZSt} (e : EV s s') (b : Nat) : yC s' b = yC s b := by
  funext t x
  unfold yC cle lnn
  rw [e.1 134 (by omega) (by omega), e.1 135 (by omega) (by omega), e.1 137 (by omega) (by omega), e.1 139 (by omega) (by omega), e.2 1 (by omega) (by omega)]
theorem tB_ev {s s' : ZSt} (e : EV s s') (b : Nat) : tB s' b = tB s b := by
  unfold tB yW
  rw [prc_ev e, yC_ev e, e.ah.tm.1, e.ah.tm.2.1]
theorem thk_ev {s s' : ZSt} (e : EV s s') (b : Nat) : thk s' b = thk s b := by
  unfold thk
  rw [e.1 136 (by omega) (by omega)]
/-- tests of whole numbers -/
theorem it_lt {α : Type} {a b : Int} {x y : α} (ha : -2147483648 ≤ a ∧ a < 2147483648) (hb : -2147483648 ≤ b ∧ b < 2147483648) : (if ii a < ii b then x else y) = if a < b then x else y := by simp only [ii_lt ha hb]
theorem it_le {α : Type} {a b : Int} {x y : α} (ha : -2147483648 ≤ a ∧ a < 2147483648) (hb : -2147483648 ≤ b ∧ b < 2147483648) : (if ii a ≤ ii b then x else y) = if a ≤ b then x else y := by simp only [ii_le ha hb]
theorem it_eq {α : Type} {a b : Int} {x y : α} (ha : -2147483648 ≤ a ∧ a < 2147483648) (hb : -2147483648 ≤ b ∧ b < 2147483648) : (if ii a = ii b then x else y) = if a = b then x else y := by simp only [ii_eq ha hb]
theorem it_ne {α : Type} {a b : Int} {x y : α} (ha : -2147483648 ≤ a ∧ a < 2147483648) (hb : -2147483648 ≤ b ∧ b < 2147483648) : (if ¬ ii a = ii b then x else y) = if a = b then y else x := by
  rw [ite_not]
  exact it_eq ha hb
/-- the yards -/
theorem cY {M : ZMem} (h : Ly M) {y : Nat} (hy : y ∈ [22, 49, 75]) : zok M 10 y = true ∧ zgr M 10 0 y = some (some (y + 1)) ∧ zgi M 10 1 y = some (zI M y 1) ∧ zgi M 10 2 y = some (zI M y 2) ∧ zgi M 10 3 y = some (zI M y 3) ∧ zgi M 10 4 y = some (zI M y 4) ∧ (∀ x, zpf M 10 1 y (.int x) false = some (zpI M y 1 x)) ∧ (∀ x, zpf M 10 2 y (.int x) false = some (zpI M y 2 x)) ∧ (∀ x, zpf M 10 3 y (.int x) false = some (zpI M y 3 x)) ∧ ∀ x, zpf M 10 4 y (.int x) false = some (zpI M y 4 x) := by
  simp only [List.mem_cons, List.not_mem_nil, or_false] at hy
  rcases hy with rfl | rfl | rfl <;> simp only [cX h, implies_true, and_self]
theorem cYl {M : ZMem} (h : Ly M) {y : Nat} (hy : y ∈ [22, 49, 75]) {i : Nat} (hi : i < 6) : zlaR M (y + 1) (ii (i : Int)) = some (some (y + 2 + 2 * i)) := by
  simp only [List.mem_cons, List.not_mem_nil, or_false] at hy
  rcases hy with rfl | rfl | rfl
  · rw [zlaR_ii h (by decide) (by omega) (by omega), Int.toNat_natCast]; rfl
  · rw [zlaR_ii h (by decide) (by omega) (by omega), Int.toNat_natCast]; rfl
  · rw [zlaR_ii h (by decide) (by omega) (by omega), Int.toNat_natCast]; rfl
def Fc (y1 : Nat) (M M' : ZMem) : Prop := Ly M' ∧ (∀ p j, (p < y1 ∨ y1 + 13 < p ∨ p = y1 + 1 ∨ (j = 0 ∧ p % 2 = y1 % 2)) → zI M' p j = zI M p j) ∧ (∀ p j, zL M' p j = zL M p j) ∧ ∀ p j, zR M' p j = zR M p j
theorem ii_s1 (i : Nat) : ii (i : Int) + 1 = ii ((i + 1 : Nat) : Int) := by rw [show (1 : Int32) = ii 1 from rfl, ii_add]; rfl
theorem c95a {y1 y2 : Nat} (h1 : y1 ∈ [22, 49, 75]) (h2 : y2 ∈ [22, 49, 75]) (hne : y1 ≠ y2) {n : Int} (hn : 0 ≤ n ∧ n ≤ 6) : ∀ (m z i : Nat) (M : ZMem), Ly M → (i : Int) + (m : Nat) = n → m < z → zI M y2 1 = ii n → ∃ M', f_95_2 z M y1 (some y2) (ii (i : Int)) = some M' ∧ Fc y1 M M' ∧ (∀ k, 1 ≤ k → k ≤ 4 → zI M' y1 k = zI M y2 k) ∧ (∀ b : Nat, i ≤ b → (b : Int) < n → (∀ j, 1 ≤ j → j ≤ 5 → zI M' (y1 + 2 + 2 * b) j = zI M (y2 + 2 + 2 * b) j) ∧ ∀ r, r < 4 → zI M' (y1 + 3 + 2 * b) r = zI M (y2 + 3 + 2 * b) r) ∧ ∀ b : Nat, b < i → ∀ j, zI M' (y1 + 2 + 2 * b) j = zI M (y1 + 2 + 2 * b) j ∧ zI M' (y1 + 3 + 2 * b) j = zI M (y1 + 3 + 2 * b) j := by
  have hd : (y1 = 22 ∨ y1 = 49 ∨ y1 = 75) ∧ (y2 = 22 ∨ y2 = 49 ∨ y2 = 75) := by
    simp only [List.mem_cons, List.not_mem_nil, or_false] at h1 h2
    exact ⟨h1, h2⟩
  have Y1 := fun N (hN : Ly N) => cY hN h1
  have Y2 := fun N (hN : Ly N) => cY hN h2
  intro m
  induction m with
  | zero =>
    intro z i M hL e hz e1
    obtain ⟨w, rfl⟩ : ∃ w, z = w + 1 := ⟨z - 1, by omega⟩
    refine ⟨zpI (zpI (zpI (zpI M y1 1 (zI M y2 1)) y1 2 (zI M y2 2)) y1 3 (zI M y2 3)) y1 4 (zI M y2 4), ?_, ⟨hL.p.p.p.p, fun p j hp => ?_, fun _ _ => rfl, fun _ _ => rfl⟩, fun k k1 k2 => ?_, fun b b1 b2 => by omega, fun b b1 j => ?_⟩
    · rw [f_95_2, zb_some, (Y2 _ hL).2.2.1, zb_some, if_pos (show zI M y2 1 ≤ ii (i : Int) by rw [e1, ii_le (by omega) (by omega)]; omega)]
      simp (disch := omega) only [zb_some, Y1 _ hL, Y2 _ hL, Y1 _ hL.p, Y2 _ hL.p, Y1 _ hL.p.p, Y2 _ hL.p.p, Y1 _ hL.p.p.p, Y2 _ hL.p.p.p, zI_ne]
    · have : p ≠ y1 ∨ j = 0 := by omega
      rcases this with q | q
      · simp (disch := omega) only [zI_ne]
      · simp (disch := omega) only [zI_nk]
    · have hz : k = 1 ∨ k = 2 ∨ k = 3 ∨ k = 4 := by omega
      rcases hz with rfl | rfl | rfl | rfl <;> simp (disch := omega) only [zI_nk, zI_at]
    · simp (disch := omega) only [zI_ne, and_self]
  | succ m ih =>
    intro z i M hL e hz e1
    obtain ⟨w, rfl⟩ : ∃ w, z = w + 1 := ⟨z - 1, by omega⟩
    have hi6 : i < 6 := by omega
    have C := cp_at (M := M) (o := y1 + 2 + 2 * i) (q := y2 + 2 + 2 * i) (by omega)
    have e53 := c53 hL h1 hi6 h2 hi6 (by omega)
    obtain ⟨M', m1, ⟨m2, m3, m4, m5⟩, m6, m7, m8⟩ := ih w (i + 1) (cpM M (y1 + 2 + 2 * i) (y2 + 2 + 2 * i)) (cp_ly hL) (by omega) (by omega) ((C.2.2.2.1 y2 (by omega) (by omega) 1).trans e1)
    refine ⟨M', ?_, ⟨m2, fun p j hp => (m3 p j hp).trans ?_, fun p j => (m4 p j).trans (congrFun (C.2.2.2.2.1 p) j), fun p j => (m5 p j).trans (congrFun (C.2.2.2.2.2 p) j)⟩, fun k k1 k2 => (m6 k k1 k2).trans (C.2.2.2.1 y2 (by omega) (by omega) k), fun b b1 b2 => ?_, fun b b1 j => ?_⟩
    · rw [f_95_2, zb_some, (Y2 _ hL).2.2.1, zb_some, if_neg (show ¬ zI M y2 1 ≤ ii (i : Int) by rw [e1, ii_le (by omega) (by omega)]; omega), (Y1 _ hL).2.1, zb_some, zb_some, cYl hL h1 hi6, zb_some, (Y2 _ hL).2.1, zb_some, zb_some, cYl hL h2 hi6, zb_some, zb_some, e53, zb_some, ii_s1]
      exact m1
    · by_cases q : p = y1 + 2 + 2 * i
      · have j0 : j = 0 := by omega
        rw [q, j0]; exact C.2.1
      · exact C.2.2.2.1 p q (by omega) j
    · by_cases q : b = i
      · subst q
        refine ⟨fun j j1 j2 => ((m8 b (by omega) j).1).trans (C.1 j j1 j2), fun r hr => ((m8 b (by omega) r).2).trans ?_⟩
        have := C.2.2.1 r hr
        rw [show y1 + 2 + 2 * b + 1 = y1 + 3 + 2 * b by omega, show y2 + 2 + 2 * b + 1 = y2 + 3 + 2 * b by omega] at this
        exact this
      · have := m7 b (by omega) b2
        exact ⟨fun j j1 j2 => (this.1 j j1 j2).trans (C.2.2.2.1 _ (by omega) (by omega) j), fun r hr => (this.2 r hr).trans (C.2.2.2.1 _ (by omega) (by omega) r)⟩
    · exact ⟨((m8 b (by omega) j).1).trans (C.2.2.2.1 _ (by omega) (by omega) j), ((m8 b (by omega) j).2).trans (C.2.2.2.1 _ (by omega) (by omega) j)⟩
theorem c95 {M : ZMem} (hL : Ly M) {y1 y2 : Nat} (h1 : y1 ∈ [22, 49, 75]) (h2 : y2 ∈ [22, 49, 75]) (hne : y1 ≠ y2) {n : Int} (hn : 0 ≤ n ∧ n ≤ 6) (e1 : zI M y2 1 = ii n) : ∃ M', f_95 M y1 (some y2) = some M' ∧ Fc y1 M M' ∧ (∀ k, 1 ≤ k → k ≤ 4 → zI M' y1 k = zI M y2 k) ∧ ∀ b : Nat, (b : Int) < n → (∀ j, 1 ≤ j → j ≤ 5 → zI M' (y1 + 2 + 2 * b) j = zI M (y2 + 2 + 2 * b) j) ∧ ∀ r, r < 4 → zI M' (y1 + 3 + 2 * b) r = zI M (y2 + 3 + 2 * b) r := by
  obtain ⟨M', m1, m2, m3, m4, -⟩ := c95a h1 h2 hne hn n.toNat zF 0 M hL (by omega) (by unfold zF; omega) e1
  refine ⟨M', ?_, m2, m3, fun b hb => m4 b (by omega) hb⟩
  unfold f_95
  rw [if_pos (cY hL h1).1]
  exact m1
