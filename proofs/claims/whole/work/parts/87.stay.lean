/-! WHAT STAYS, whatever is done -/
theorem IX_gen {s s' : ZSt} (h : IX s) (hh : ∀ p, (p = 148 ∨ (141 ≤ p ∧ p ≤ 146)) → s' p = s p) (e9 : s' 133 9 = s 133 9) (hn : SIn s') (e50 : s' 133 50 ≤ 6) (e1 : s' 133 1 ≤ 9999) (hb : SIb s') (hk : SIk s') (ht : SIt s') (hw : SIw s') (hs : SIs s') (hi : SIi s') (hl : ∀ k : Nat, (k : Int) < s' 133 11 → 0 ≤ s' 140 k ∧ s' 140 k ≤ 127) : IX s' := by
  obtain ⟨hV, -, hX, hT⟩ := h
  refine ⟨⟨⟨⟨hn, e50⟩, e1, hb, ?_⟩, ⟨hk, ht, hw, hs⟩, hi⟩, hl, ?_, ?_⟩
  · intro g hg
    rw [e9] at hg
    have x := hV.1.2.2.2 g hg
    unfold SHc sgl at x ⊢
    rw [hh 141 (by omega), zstl_sf (hh 142 (by omega)) (hh 143 (by omega)) (hh 144 (by omega)) (hh 145 (by omega)) (hh 146 (by omega)), hh 142 (by omega), hh 143 (by omega), hh 144 (by omega), hh 145 (by omega), hh 146 (by omega)]
    exact x
  · intro g hg k hk'
    rw [e9] at hg
    rw [hh 141 (by omega)] at hk'
    rw [hh 142 (by omega), hh 145 (by omega)]
    exact hX g hg k hk'
  · intro k hk'
    rw [hh 148 (by omega)]
    exact hT k hk'
theorem SIi_cg {s s' : ZSt} (h : SIi s) (h9 : s 133 9 ≤ s' 133 9) (hs : ∀ p, 166 ≤ p → p ≤ 178 → s' p = s p) (h3 : ∀ j, 48 ≤ j → j ≤ 55 → s' 133 j = s 133 j) : SIi s' := by
  intro hq
  rw [h3 48 (by omega) (by omega)] at hq
  obtain ⟨h1, h2, h4, h5, h6⟩ := h hq
  rw [h3 50 (by omega) (by omega), h3 51 (by omega) (by omega), h3 52 (by omega) (by omega), h3 49 (by omega) (by omega), h3 53 (by omega) (by omega), h3 54 (by omega) (by omega), h3 55 (by omega) (by omega), hs 172 (by omega) (by omega), hs 173 (by omega) (by omega), hs 174 (by omega) (by omega), hs 175 (by omega) (by omega), hs 176 (by omega) (by omega), hs 177 (by omega) (by omega), hs 178 (by omega) (by omega)]
  refine ⟨by omega, fun b hb => ?_, h4, h5, h6⟩
  have x := h2 b hb
  unfold SBk at x ⊢
  simp only [show 134 + 32 = 166 from rfl, show 135 + 32 = 167 from rfl, show 136 + 32 = 168 from rfl, show 137 + 32 = 169 from rfl, show 138 + 32 = 170 from rfl, show 139 + 32 = 171 from rfl] at x ⊢
  rw [hs 166 (by omega) (by omega), hs 167 (by omega) (by omega), hs 168 (by omega) (by omega), hs 169 (by omega) (by omega), hs 170 (by omega) (by omega), hs 171 (by omega) (by omega)]
  exact x
theorem SIk_cg {s s' : ZSt} (h : SIk s) (h0 : s 133 0 ≤ s' 133 0) (e : s' 133 43 = s 133 43) (e1 : s' 164 = s 164) (e2 : s' 165 = s 165) : SIk s' := by
  intro k hk
  rw [e] at hk
  rw [e1, e2]
  have := h k hk
  omega
theorem SIw_cg {s s' : ZSt} (h : SIw s) (h0 : s 133 0 ≤ s' 133 0) (e : s' 133 42 = s 133 42) (e1 : s' 162 = s 162) (e2 : s' 163 = s 163) : SIw s' := by
  intro k hk
  rw [e] at hk
  rw [e1, e2]
  have := h k hk
  exact ⟨this.1, fun q => by have := this.2 q; omega⟩
theorem SIs_cg {s s' : ZSt} (h : SIs s) (e : s' 133 38 = s 133 38) (e1 : s' 159 = s 159) (e2 : s' 160 = s 160) (e3 : s' 161 = s 161) : SIs s' := by
  unfold SIs at h ⊢
  rw [e, e1, e2, e3]
  exact h
theorem SIt_cg {s s' : ZSt} (h : SIt s) (e1 : s' 180 = s 180) (e2 : s' 181 = s 181) : SIt s' := by
  unfold SIt at h ⊢
  rw [e1, e2]
  exact h
theorem SIb_cg {s s' : ZSt} (h : SIb s) (e : s' 133 0 = s 133 0) (hs : ∀ p, 134 ≤ p → p ≤ 139 → s' p = s p) : SIb s' := by
  unfold SIb SBk at h ⊢
  simp only [Nat.add_zero] at h ⊢
  rw [e, hs 134 (by omega) (by omega), hs 135 (by omega) (by omega), hs 136 (by omega) (by omega), hs 137 (by omega) (by omega), hs 138 (by omega) (by omega), hs 139 (by omega) (by omega)]
  exact h
/-- blocks, day, earned -/
theorem IX_blk {s s' : ZSt} (h : IX s) (hs : ∀ p, (p < 133 ∨ 139 < p) → s' p = s p) (h3 : ∀ j, 2 < j → s' 133 j = s 133 j) (b0 : s 133 0 ≤ s' 133 0 ∧ s' 133 0 ≤ 6) (b1 : 0 ≤ s' 133 1 ∧ s' 133 1 ≤ 9999) (b2 : 0 ≤ s' 133 2 ∧ s' 133 2 ≤ 999999) (hb : SIb s') : IX s' := by
  have hV := h.1
  have hn := hV.1.1.1
  refine IX_gen h (fun p hp => hs p (by omega)) (h3 9 (by omega)) ?_ ?_ b1.2 hb (SIk_cg hV.2.1.1 b0.1 (h3 43 (by omega)) (hs 164 (by omega)) (hs 165 (by omega))) (SIt_cg hV.2.1.2.1 (hs 180 (by omega)) (hs 181 (by omega))) (SIw_cg hV.2.1.2.2.1 b0.1 (h3 42 (by omega)) (hs 162 (by omega)) (hs 163 (by omega))) (SIs_cg hV.2.1.2.2.2 (h3 38 (by omega)) (hs 159 (by omega)) (hs 160 (by omega)) (hs 161 (by omega))) (SIi_cg hV.2.2 (by rw [h3 9 (by omega)]; omega) (fun p _ _ => hs p (by omega)) (fun j _ _ => h3 j (by omega))) ?_
  · unfold SIn at hn ⊢
    rw [h3 9 (by omega), h3 10 (by omega), h3 11 (by omega), h3 38 (by omega), h3 42 (by omega), h3 43 (by omega), h3 48 (by omega), h3 69 (by omega)]
    exact ⟨⟨by omega, b0.2⟩, by omega, b2, hn.2.2.2⟩
  · rw [h3 50 (by omega)]; exact hV.1.1.2
  · rw [h3 11 (by omega), hs 140 (by omega)]; exact h.2.1
/-- beside blocks and hills -/
theorem IX_oth {s s' : ZSt} (h : IX s) (hs : ∀ p, p ≠ 133 → (p < 159 ∨ 178 < p) → p ≠ 179 → p ≠ 140 → p ≠ 180 → p ≠ 181 → s' p = s p) (h3 : ∀ j, (j < 11 ∨ j = 50 ∨ j = 48) → s' 133 j = s 133 j) (e11 : 0 ≤ s' 133 11 ∧ s' 133 11 ≤ 100) (e38 : 0 ≤ s' 133 38 ∧ s' 133 38 ≤ 6) (e42 : 0 ≤ s' 133 42 ∧ s' 133 42 ≤ 10) (e43 : 0 ≤ s' 133 43 ∧ s' 133 43 ≤ 8) (e69 : 0 ≤ s' 133 69 ∧ s' 133 69 ≤ 100) (hk : SIk s') (ht : SIt s') (hw : SIw s') (hss : SIs s') (hi : SIi s') (hl : ∀ k : Nat, (k : Int) < s' 133 11 → 0 ≤ s' 140 k ∧ s' 140 k ≤ 127) : IX s' := by
  have hV := h.1
  have hn := hV.1.1.1
  refine IX_gen h (fun p hp => hs p (by omega) (by omega) (by omega) (by omega) (by omega) (by omega)) (h3 9 (by omega)) ?_ ?_ ?_ (SIb_cg hV.1.2.2.1 (h3 0 (by omega)) (fun p _ _ => hs p (by omega) (by omega) (by omega) (by omega) (by omega) (by omega))) hk ht hw hss hi hl
  · unfold SIn at hn ⊢
    rw [h3 0 (by omega), h3 1 (by omega), h3 2 (by omega), h3 9 (by omega), h3 10 (by omega), h3 48 (by omega)]
    exact ⟨hn.1, hn.2.1, hn.2.2.1, hn.2.2.2.1, hn.2.2.2.2.1, e11, e38, e42, e43, hn.2.2.2.2.2.2.2.2.2.1, e69⟩
  · rw [h3 50 (by omega)]; exact hV.1.1.2
  · rw [h3 1 (by omega)]; exact hV.1.2.1
theorem IX_ev {s s' : ZSt} (h : IX s) (e : EV s s') : IX s' := by
  refine ⟨IV_ev h.1 e, ?_, ?_, ?_⟩
  · rw [e.2 11 (by omega) (by omega), e.1 140 (by omega) (by omega)]; exact h.2.1
  · unfold SX
    rw [e.2 9 (by omega) (by omega), e.1 141 (by omega) (by omega), e.1 142 (by omega) (by omega), e.1 145 (by omega) (by omega)]
    exact h.2.2.1
  · rw [e.1 148 (by omega) (by omega)]; exact h.2.2.2
/-- hill -/
theorem GC_b {T : Nat → Int} {n : Nat} {c : Nat × Int × List Int} (h : GC T n c) : c.1 < 5 ∧ (0 ≤ c.2.1 ∧ c.2.1 ≤ 99) ∧ (c.1 ≤ 1 → sok c.2.2 0) := by
  obtain ⟨p, q, hp, e⟩ := h
  have g := (pCl_g (T := T) hp).1 q c e
  refine ⟨g.2.2.1, g.2.2.2.1, fun q1 => ?_⟩
  obtain ⟨r, r1, r2, r3⟩ := g.2.2.2.2.2.2 q1
  have a := pE_a (T := T) (n := n) (k := 0) (pF_a 8 0 (by omega)) r _ _ r3 0 [] (Nat.le_refl _) (show sok [] 1 from rfl)
  rw [List.append_nil] at a
  exact a
theorem HC_at {s : ZSt} {B : Int} : ∀ (cs : List (Nat × Int × List Int)) (k i : Nat), HC s B k cs → i < cs.length → ∃ c ∈ cs, s 142 (k + i) = c.1 ∧ s 143 (k + i) = c.2.1 ∧ c.1 < 5 ∧ (c.1 ≤ 1 → sgl s (k + i) = c.2.2 ∧ 0 ≤ s 144 (k + i) ∧ s 144 (k + i) ≤ s 145 (k + i) ∧ s 145 (k + i) ≤ B) := by
  intro cs
  induction cs with
  | nil => intro k i _ h; exact absurd h (Nat.not_lt_zero i)
  | cons c r ih =>
    intro k i h hi
    obtain ⟨h1, h2⟩ := h
    cases i with
    | zero => exact ⟨c, List.mem_cons_self, h1⟩
    | succ i =>
      simp only [List.length_cons] at hi
      obtain ⟨d, d1, d2⟩ := ih (k + 1) i h2 (by omega)
      rw [show k + 1 + i = k + (i + 1) by omega] at d2
      exact ⟨d, List.mem_cons_of_mem _ d1, d2⟩
theorem IX_hr {s s' : ZSt} (h : IX s) (hr : HR s s') : IX s' := by
  by_cases c6 : s 133 9 < 6
  · obtain ⟨hf, e11, n1, n2⟩ := hr.1 c6
    obtain ⟨hV, hT, hX, hLt⟩ := id h
    have hn := hV.1.1.1
    have hSH := hV.1.2.2.2
    have hs : ∀ p, p ≠ 133 → (p < 141 ∨ 146 < p) → s' p = s p := hf.1
    have h3 := hf.2.1
    have base : ∀ (e9 : s 133 9 ≤ s' 133 9 ∧ s' 133 9 ≤ 6) (e10 : -1 ≤ s' 133 10 ∧ s' 133 10 < s' 133 9) (hH : SH s') (hXX : SX s'), IX s' := by
      intro e9 e10 hH hXX
      refine ⟨⟨⟨⟨?_, ?_⟩, ?_, SIb_cg hV.1.2.2.1 (h3 0 (by omega) (by omega) (by omega)) (fun p _ _ => hs p (by omega) (by omega)), hH⟩, ⟨SIk_cg hV.2.1.1 (by rw [h3 0 (by omega) (by omega) (by omega)]; omega) (h3 43 (by omega) (by omega) (by omega)) (hs 164 (by omega) (by omega)) (hs 165 (by omega) (by omega)), SIt_cg hV.2.1.2.1 (hs 180 (by omega) (by omega)) (hs 181 (by omega) (by omega)), SIw_cg hV.2.1.2.2.1 (by rw [h3 0 (by omega) (by omega) (by omega)]; omega) (h3 42 (by omega) (by omega) (by omega)) (hs 162 (by omega) (by omega)) (hs 163 (by omega) (by omega)), SIs_cg hV.2.1.2.2.2 (h3 38 (by omega) (by omega) (by omega)) (hs 159 (by omega) (by omega)) (hs 160 (by omega) (by omega)) (hs 161 (by omega) (by omega))⟩, SIi_cg hV.2.2 e9.1 (fun p _ _ => hs p (by omega) (by omega)) (fun j _ _ => h3 j (by omega) (by omega) (by omega))⟩, fun k hk => by omega, hXX, ?_⟩
      · unfold SIn at hn ⊢
        rw [h3 0 (by omega) (by omega) (by omega), h3 1 (by omega) (by omega) (by omega), h3 2 (by omega) (by omega) (by omega), e11, h3 38 (by omega) (by omega) (by omega), h3 42 (by omega) (by omega) (by omega), h3 43 (by omega) (by omega) (by omega), h3 48 (by omega) (by omega) (by omega), h3 69 (by omega) (by omega) (by omega)]
        exact ⟨hn.1, hn.2.1, hn.2.2.1, ⟨by omega, e9.2⟩, e10, ⟨by omega, by omega⟩, hn.2.2.2.2.2.2⟩
      · rw [h3 50 (by omega) (by omega) (by omega)]; exact hV.1.1.2
      · rw [h3 1 (by omega) (by omega) (by omega)]; exact hV.1.2.1
      · rw [hs 148 (by omega) (by omega)]; exact hLt
    have n9 := hn.2.2.2.1
    have n10 := hn.2.2.2.2.1
    have n11 := hn.2.2.2.2.2.1
    have old : ∀ g : Nat, (g : Int) < s 133 9 → ((1 ≤ s' 141 g ∧ s' 141 g ≤ 10) ∧ (∀ k : Nat, (k : Int) < s' 141 g → SHc s' (10 * g + k)) ∧ (zstl s' (10 * g) (s' 141 g).toNat).length ≤ 100) ∧ ∀ k : Nat, (k : Int) < s' 141 g → s' 142 (10 * g + k) ≤ 1 → s' 145 (10 * g + k) ≤ 100 * g + 100 := by
      intro g hg
      have x := hSH g hg
      obtain ⟨o1, o2, o3⟩ := HRf_o hf hSH hX hg
      rw [hf.2.2.1 g hg, o1]
      refine ⟨⟨x.1, fun k hk => ?_, x.2.2⟩, fun k hk hq => ?_⟩
      · obtain ⟨a1, a2, a3, a4, a5⟩ := o3 k hk
        have y := x.2.1 k hk
        unfold SHc at y ⊢
        rw [a1, a2, a3, a4]
        exact ⟨y.1, y.2.1, fun q => ⟨(y.2.2 q).1, by rw [a5 q]; exact (y.2.2 q).2⟩⟩
      · obtain ⟨a1, a2, a3, a4, a5⟩ := o3 k hk
        rw [a4]
        exact hX g hg k hk (by rw [← a1]; exact hq)
    cases ho : (pHl (s 140) (s 133 11).toNat 10 0 []).2 with
    | none =>
      obtain ⟨e9, e10⟩ := n1 ho
      exact base (by omega) (by omega) (fun g hg => (old g (by omega)).1) (fun g hg => (old g (by omega)).2)
    | some cs =>
      obtain ⟨e9, e10, e141, eC⟩ := n2 cs ho
      have pg := (pHl_g (T := s 140) (n := (s 133 11).toNat) 10 0 [] (by omega) (Nat.le_refl _) (fun c hc => by cases hc)).1 (pHl (s 140) (s 133 11).toNat 10 0 []).1 cs (by rw [← ho])
      simp only [List.length_nil] at pg
      have eg : ∀ g : Nat, (g : Int) < s' 133 9 → ¬ (g : Int) < s 133 9 → (s 133 9).toNat = g := by intro g a b; omega
      have at' : ∀ k : Nat, (k : Int) < s' 141 (s 133 9).toNat → ∃ c ∈ cs, _ := fun k hk => HC_at cs (10 * (s 133 9).toNat) k eC (by omega)
      refine base (by omega) (by omega) (fun g hg => ?_) (fun g hg => ?_)
      · by_cases c : (g : Int) < s 133 9
        · exact (old g c).1
        · have e := eg g hg c
          rw [e] at e141 eC at'
          refine ⟨by omega, fun k hk => ?_, ?_⟩
          · obtain ⟨c, hc, a1, a2, a3, a4⟩ := at' k hk
            have gb := GC_b (pg.2.2.2 c hc)
            unfold SHc
            rw [a1, a2]
            refine ⟨by omega, gb.2.1, fun q => ?_⟩
            obtain ⟨b1, b2, b3, b4⟩ := a4 (by omega)
            exact ⟨⟨b2, b3, by omega⟩, by rw [b1]; exact gb.2.2 (by omega)⟩
          · rw [e141, Int.toNat_natCast, (HC_l eC).1]
            omega
      · by_cases c : (g : Int) < s 133 9
        · exact (old g c).2
        · have e := eg g hg c
          rw [e] at e141 eC at'
          intro k hk hq
          obtain ⟨c, hc, a1, a2, a3, a4⟩ := at' k hk
          obtain ⟨b1, b2, b3, b4⟩ := a4 (by omega)
          omega
  · rw [hr.2 c6]; exact h
