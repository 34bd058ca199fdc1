/-! WHAT STAYS, call by call -/
theorem IX_13 {s : ZSt} (h : IX s) (k v t : Int) : IX (sp13 s k v t).2 := by
  have hn := h.1.1.1.1
  unfold SIn at hn
  unfold sp13
  by_cases c1 : 0 ≤ k ∧ k ≤ 6
  · rw [if_pos c1]
    by_cases c2 : 0 ≤ v ∧ v ≤ 9
    · rw [if_pos c2]
      by_cases c3 : 1 ≤ t ∧ t ≤ 60
      · rw [if_pos c3]
        by_cases c4 : s 133 0 = 6
        · rw [if_pos c4]; exact h
        · rw [if_neg c4]
          show IX (st13 s k v t)
          have e0 : st13 s k v t 133 0 = s 133 0 + 1 := up_at
          have ej : ∀ j, j ≠ 0 → st13 s k v t 133 j = s 133 j := by
            intro j hj
            unfold st13
            simp (disch := omega) only [up_nk, up_ne]
          refine IX_blk h (fun p hp => ?_) (fun j hj => ej j (by omega)) (by rw [e0]; omega) ?_ ?_ ?_
          · unfold st13
            funext j
            simp (disch := omega) only [up_ne]
          · rw [ej 1 (by omega)]; have := h.1.1.2.1; omega
          · rw [ej 2 (by omega)]; omega
          · intro b hb
            rw [e0] at hb
            unfold st13
            by_cases q : b = (s 133 0).toNat
            · subst q
              unfold SBk
              simp (disch := omega) only [Nat.add_zero, up_ne, up_at]
              refine ⟨by omega, by omega, by omega, by omega, by omega, fun r hr => ?_⟩
              have hz : r = 0 ∨ r = 1 ∨ r = 2 ∨ r = 3 := by omega
              rcases hz with rfl | rfl | rfl | rfl <;> simp (disch := omega) only [Nat.add_zero, up_ne, up_nk, up_at] <;> omega
            · have x := h.1.1.2.2.1 b (by omega)
              unfold SBk at x ⊢
              simp only [Nat.add_zero] at x ⊢
              simp (disch := omega) only [up_ne, up_nk]
              refine ⟨x.1, x.2.1, x.2.2.1, x.2.2.2.1, x.2.2.2.2.1, fun r hr => ?_⟩
              simp (disch := omega) only [up_ne, up_nk]
              exact x.2.2.2.2.2 r hr
      · rw [if_neg c3]; exact h
    · rw [if_neg c2]; exact h
  · rw [if_neg c1]; exact h
/-- one number of one block -/
theorem IX_b1 {s : ZSt} (h : IX s) {p b : Nat} {v : Int} (hp : p = 136 ∨ p = 137 ∨ p = 138) (hv : (p = 136 → 0 ≤ v ∧ v ≤ 60) ∧ (p = 137 → 0 ≤ v ∧ v ≤ 99) ∧ (p = 138 → 0 ≤ v ∧ v ≤ 9999)) : IX (up s p b v) := by
  have hn := h.1.1.1.1
  unfold SIn at hn
  have h1 := h.1.1.2.1
  refine IX_blk h (fun q hq => up_fn (by omega)) (fun j hj => up_ne (by omega)) (by rw [up_ne (by omega)]; omega) (by rw [up_ne (by omega)]; omega) (by rw [up_ne (by omega)]; omega) (fun d hd => ?_)
  rw [up_ne (by omega)] at hd
  have x := h.1.1.2.2.1 d hd
  unfold SBk at x ⊢
  simp only [Nat.add_zero] at x ⊢
  rw [up_ne (by omega), up_ne (by omega)]
  refine ⟨x.1, x.2.1, ?_, ?_, ?_, fun r hr => ?_⟩
  · rw [up_eq]; split
    · exact hv.1 (by omega)
    · exact x.2.2.1
  · rw [up_eq]; split
    · exact hv.2.1 (by omega)
    · exact x.2.2.2.1
  · rw [up_eq]; split
    · exact hv.2.2 (by omega)
    · exact x.2.2.2.2.1
  · rw [up_ne (by omega)]; exact x.2.2.2.2.2 r hr
theorem IX_48 {s : ZSt} (h : IX s) (b n : Int) : IX (sp48 s b n).2 := by
  unfold sp48
  by_cases c1 : 0 ≤ b ∧ b < s 133 0
  · rw [if_pos c1]
    by_cases c2 : 0 ≤ n ∧ n ≤ 99
    · rw [if_pos c2]
      dsimp only
      exact IX_b1 h (.inr (.inl rfl)) ⟨fun q => by omega, fun _ => c2, fun q => by omega⟩
    · rw [if_neg c2]; exact h
  · rw [if_neg c1]; exact h
theorem IX_49 {s : ZSt} (h : IX s) (b p n : Int) : IX (sp49 s b p n).2 := by
  have hn := h.1.1.1.1
  unfold SIn at hn
  have h1 := h.1.1.2.1
  unfold sp49
  by_cases c1 : (0 ≤ b ∧ b < s 133 0) ∧ 0 ≤ p ∧ p ≤ 3
  · rw [if_pos c1]
    by_cases c2 : 0 ≤ n ∧ n ≤ 9
    · rw [if_pos c2]
      by_cases c3 : s 134 b.toNat = 6
      · rw [if_pos c3]
        dsimp only
        refine IX_blk h (fun q hq => up_fn (by omega)) (fun j hj => up_ne (by omega)) (by rw [up_ne (by omega)]; omega) (by rw [up_ne (by omega)]; omega) (by rw [up_ne (by omega)]; omega) (fun d hd => ?_)
        rw [up_ne (by omega)] at hd
        have x := h.1.1.2.2.1 d hd
        unfold SBk at x ⊢
        simp only [Nat.add_zero] at x ⊢
        simp (disch := omega) only [up_ne]
        refine ⟨x.1, x.2.1, x.2.2.1, x.2.2.2.1, x.2.2.2.2.1, fun r hr => ?_⟩
        rw [up_eq]; split
        · exact c2
        · exact x.2.2.2.2.2 r hr
      · rw [if_neg c3]; exact h
    · rw [if_neg c2]; exact h
  · rw [if_neg c1]; exact h
theorem IX_50 {s : ZSt} (h : IX s) (b x : Int) : IX (sp50 s b x).2 := by
  have hn := h.1.1.1.1
  unfold SIn at hn
  have h1 := h.1.1.2.1
  unfold sp50
  by_cases c1 : 0 ≤ b ∧ b < s 133 0
  · rw [if_pos c1]
    have sb := h.1.1.2.2.1 b.toNat (by omega)
    unfold SBk at sb
    simp only [Nat.add_zero] at sb
    by_cases c2 : 1 ≤ x ∧ x ≤ s 136 b.toNat - 1
    · rw [if_pos c2]
      by_cases c3 : s 138 b.toNat < 9999
      · rw [if_pos c3]
        by_cases c4 : cle s b.toNat (s 136 b.toNat) x
        · rw [if_pos c4]
          by_cases c5 : s 133 0 < 6
          · rw [if_pos c5]
            obtain ⟨v0, v1, v2, v3, v4, v5, v6, v7, v8⟩ := st50_v (s := s) (k := b.toNat) (n := (s 133 0).toNat) (x := x) (t := s 136 b.toNat) rfl (by omega)
            dsimp only
            refine IX_blk h v1 (fun j hj => v0.2 j (by omega)) (by rw [v0.1]; omega) (by rw [v0.2 1 (by omega)]; omega) (by rw [v0.2 2 (by omega)]; omega) (fun d hd => ?_)
            rw [v0.1] at hd
            unfold SBk
            simp only [Nat.add_zero]
            rw [v2, v3, v4, v5, v6]
            by_cases q : d = (s 133 0).toNat
            · simp only [if_pos q]
              refine ⟨sb.1, sb.2.1, by omega, sb.2.2.2.1, by omega, fun r hr => ?_⟩
              rw [q, v7 r hr]
              exact sb.2.2.2.2.2 r hr
            · simp only [if_neg q]
              have sd := h.1.1.2.2.1 d (by omega)
              unfold SBk at sd
              simp only [Nat.add_zero] at sd
              refine ⟨sd.1, sd.2.1, ?_, sd.2.2.2.1, ?_, fun r hr => ?_⟩
              · split
                · omega
                · exact sd.2.2.1
              · split
                · omega
                · exact sd.2.2.2.2.1
              · rw [v8 (4 * d + r) (by omega)]; exact sd.2.2.2.2.2 r hr
          · rw [if_neg c5]; exact h
        · rw [if_neg c4]
          dsimp only
          exact IX_b1 (IX_b1 h (.inr (.inr rfl)) ⟨fun q => by omega, fun q => by omega, fun _ => by omega⟩) (.inl rfl) ⟨fun _ => by omega, fun q => by omega, fun q => by omega⟩
      · rw [if_neg c3]; exact h
    · rw [if_neg c2]; exact h
  · rw [if_neg c1]; exact h
theorem IX_56 {s : ZSt} (h : IX s) (b : Int) : IX (sp56 s b).2 := by
  have hn := h.1.1.1.1
  have hn' := hn
  unfold SIn at hn
  have h1 := h.1.1.2.1
  unfold sp56
  by_cases c1 : 0 ≤ b ∧ b < s 133 0
  · rw [if_pos c1]
    by_cases c2 : s 136 b.toNat = 0
    · rw [if_pos c2]; exact h
    · rw [if_neg c2]
      have w := wrt_b hn' h.1.1.2.2.2 b.toNat (s 136 b.toNat)
      unfold st56
      dsimp only
      refine IX_b1 ?_ (.inl rfl) ⟨fun _ => by omega, fun q => by omega, fun q => by omega⟩
      refine IX_blk h (fun q hq => up_fn (by omega)) (fun j hj => up_nk (by omega)) (by rw [up_nk (by omega)]; omega) (by rw [up_nk (by omega)]; omega) (by rw [up_at]; omega) (SIb_cg h.1.1.2.2.1 (up_nk (by omega)) (fun p _ _ => up_fn (by omega)))
  · rw [if_neg c1]; exact h
theorem IX_91 {s : ZSt} (h : IX s) (n : Int) : IX (sp91 s n).2 := by
  have hn := h.1.1.1.1
  have hn' := hn
  unfold SIn at hn
  unfold sp91
  by_cases c1 : 0 ≤ n ∧ n ≤ 60
  · rw [if_pos c1]
    by_cases c2 : s 133 1 + n ≤ 9999
    · rw [if_pos c2]
      dsimp only
      refine IX_blk h (fun q hq => goS_f (by omega) (by omega)) (fun j hj => goS_o (by omega) (by omega)) ?_ ?_ ?_ (goS_ib hn' h.1.1.2.2.2 h.1.1.2.2.1 c1)
      · rw [goS_o (by omega) (by omega)]; omega
      · rw [goS_d]; omega
      · rw [goS_o (by omega) (by omega)]; omega
    · rw [if_neg c2]; exact h
  · rw [if_neg c1]; exact h
theorem IX_59 {s : ZSt} (h : IX s) (n : Int) : IX (sp59 s n).2 := by
  have hn := h.1.1.1.1
  unfold SIn at hn
  have hV := h.1
  unfold sp59
  by_cases c1 : 0 ≤ n ∧ n ≤ 127
  · rw [if_pos c1]
    by_cases c2 : s 133 11 < 100
    · rw [if_pos c2]
      dsimp only
      refine IX_oth h (fun p p1 p2 p3 p4 p5 p6 => by funext j; rw [up_ne p1, up_ne p4]) (fun j hj => by rw [up_nk (by omega), up_ne (by omega)]) (by rw [up_at]; omega) (by rw [up_nk (by omega), up_ne (by omega)]; omega) (by rw [up_nk (by omega), up_ne (by omega)]; omega) (by rw [up_nk (by omega), up_ne (by omega)]; omega) (by rw [up_nk (by omega), up_ne (by omega)]; omega) ?_ ?_ ?_ ?_ ?_ ?_
      · exact SIk_cg hV.2.1.1 (by rw [up_nk (by omega), up_ne (by omega)]; omega) (by rw [up_nk (by omega), up_ne (by omega)]) (by rw [up_fn (by omega), up_fn (by omega)]) (by rw [up_fn (by omega), up_fn (by omega)])
      · exact SIt_cg hV.2.1.2.1 (by rw [up_fn (by omega), up_fn (by omega)]) (by rw [up_fn (by omega), up_fn (by omega)])
      · exact SIw_cg hV.2.1.2.2.1 (by rw [up_nk (by omega), up_ne (by omega)]; omega) (by rw [up_nk (by omega), up_ne (by omega)]) (by rw [up_fn (by omega), up_fn (by omega)]) (by rw [up_fn (by omega), up_fn (by omega)])
      · exact SIs_cg hV.2.1.2.2.2 (by rw [up_nk (by omega), up_ne (by omega)]) (by rw [up_fn (by omega), up_fn (by omega)]) (by rw [up_fn (by omega), up_fn (by omega)]) (by rw [up_fn (by omega), up_fn (by omega)])
      · exact SIi_cg hV.2.2 (by rw [up_nk (by omega), up_ne (by omega)]; omega) (fun p _ _ => by rw [up_fn (by omega), up_fn (by omega)]) (fun j _ _ => by rw [up_nk (by omega), up_ne (by omega)])
      · intro k hk
        rw [up_at] at hk
        rw [up_ne (by omega), up_eq]
        split
        · exact c1
        · exact h.2.1 k (by omega)
    · rw [if_neg c2]; exact h
  · rw [if_neg c1]; exact h
theorem IX_107 {s : ZSt} (h : IX s) (x t : Int) {c : Int} (hc : c = 0 ∨ c = 1) : IX (sp107 s x t c).2 := by
  have hn := h.1.1.1.1
  unfold SIn at hn
  have hV := h.1
  have key : ∀ (s' : ZSt), (∀ p, p ≠ 133 → p ≠ 159 → p ≠ 160 → p ≠ 161 → s' p = s p) → (∀ j, j ≠ 38 → s' 133 j = s 133 j) → 0 ≤ s' 133 38 ∧ s' 133 38 ≤ 6 → SIs s' → IX s' := by
    intro s' hs h3 h38 hS
    exact IX_oth h (fun p p1 p2 p3 p4 p5 p6 => hs p p1 (by omega) (by omega) (by omega)) (fun j hj => h3 j (by omega)) (by rw [h3 11 (by omega)]; omega) h38 (by rw [h3 42 (by omega)]; omega) (by rw [h3 43 (by omega)]; omega) (by rw [h3 69 (by omega)]; omega) (SIk_cg hV.2.1.1 (by rw [h3 0 (by omega)]; omega) (h3 43 (by omega)) (hs 164 (by omega) (by omega) (by omega) (by omega)) (hs 165 (by omega) (by omega) (by omega) (by omega))) (SIt_cg hV.2.1.2.1 (hs 180 (by omega) (by omega) (by omega) (by omega)) (hs 181 (by omega) (by omega) (by omega) (by omega))) (SIw_cg hV.2.1.2.2.1 (by rw [h3 0 (by omega)]; omega) (h3 42 (by omega)) (hs 162 (by omega) (by omega) (by omega) (by omega)) (hs 163 (by omega) (by omega) (by omega) (by omega))) hS (SIi_cg hV.2.2 (by rw [h3 9 (by omega)]; omega) (fun p _ _ => hs p (by omega) (by omega) (by omega) (by omega)) (fun j _ _ => h3 j (by omega))) (by rw [h3 11 (by omega), hs 140 (by omega) (by omega) (by omega) (by omega)]; exact h.2.1)
  unfold sp107
  by_cases c1 : x ≠ -1
  · rw [if_pos c1]
    by_cases c2 : (2 ≤ t ∧ t ≤ 60) ∧ 1 ≤ x ∧ x ≤ t - 1
    · rw [if_pos c2]
      by_cases c3 : s 133 38 < 6
      · rw [if_pos c3]
        dsimp only
        refine key _ (fun p p1 p2 p3 p4 => by rw [up_fn p1, up_fn p4, up_fn p3, up_fn p2]) (fun j hj => by rw [up_nk hj, up_ne (by omega), up_ne (by omega), up_ne (by omega)]) (by rw [up_at]; omega) (fun k hk => ?_)
        rw [up_at] at hk
        by_cases q : k = (s 133 38).toNat
        · subst q
          simp (disch := omega) only [up_ne, up_at]
          omega
        · simp (disch := omega) only [up_ne, up_nk]
          exact hV.2.1.2.2.2 k (by omega)
      · rw [if_neg c3]; exact h
    · rw [if_neg c2]; exact h
  · rw [if_neg c1]
    dsimp only
    refine key _ (fun p p1 p2 p3 p4 => up_fn p1) (fun j hj => up_nk hj) (by rw [up_at]; omega) (fun k hk => ?_)
    rw [up_at] at hk
    omega
theorem IX_116 {s : ZSt} (h : IX s) (w b : Int) : IX (sp116 s w b).2 := by
  have hn := h.1.1.1.1
  unfold SIn at hn
  have hV := h.1
  have key : ∀ (s' : ZSt), (∀ p, p ≠ 133 → p ≠ 162 → p ≠ 163 → s' p = s p) → (∀ j, j ≠ 42 → s' 133 j = s 133 j) → 0 ≤ s' 133 42 ∧ s' 133 42 ≤ 10 → SIw s' → IX s' := by
    intro s' hs h3 h42 hS
    exact IX_oth h (fun p p1 p2 p3 p4 p5 p6 => hs p p1 (by omega) (by omega)) (fun j hj => h3 j (by omega)) (by rw [h3 11 (by omega)]; omega) (by rw [h3 38 (by omega)]; omega) h42 (by rw [h3 43 (by omega)]; omega) (by rw [h3 69 (by omega)]; omega) (SIk_cg hV.2.1.1 (by rw [h3 0 (by omega)]; omega) (h3 43 (by omega)) (hs 164 (by omega) (by omega) (by omega)) (hs 165 (by omega) (by omega) (by omega))) (SIt_cg hV.2.1.2.1 (hs 180 (by omega) (by omega) (by omega)) (hs 181 (by omega) (by omega) (by omega))) hS (SIs_cg hV.2.1.2.2.2 (h3 38 (by omega)) (hs 159 (by omega) (by omega) (by omega)) (hs 160 (by omega) (by omega) (by omega)) (hs 161 (by omega) (by omega) (by omega))) (SIi_cg hV.2.2 (by rw [h3 9 (by omega)]; omega) (fun p _ _ => hs p (by omega) (by omega) (by omega)) (fun j _ _ => h3 j (by omega))) (by rw [h3 11 (by omega), hs 140 (by omega) (by omega) (by omega)]; exact h.2.1)
  unfold sp116
  by_cases c1 : w ≠ -1
  · rw [if_pos c1]
    by_cases c2 : (0 ≤ w ∧ w ≤ 2) ∧ (w = 0 ∨ 0 ≤ b ∧ b < s 133 0)
    · rw [if_pos c2]
      by_cases c3 : s 133 42 < 10
      · rw [if_pos c3]
        dsimp only
        refine key _ (fun p p1 p2 p3 => by rw [up_fn p1, up_fn p3, up_fn p2]) (fun j hj => by rw [up_nk hj, up_ne (by omega), up_ne (by omega)]) (by rw [up_at]; omega) (fun k hk => ?_)
        rw [up_at] at hk
        by_cases q : k = (s 133 42).toNat
        · subst q
          simp (disch := omega) only [up_ne, up_nk, up_at]
          refine ⟨c2.1, fun q => ?_⟩
          rw [if_neg (show ¬ w = 0 by omega)]
          omega
        · simp (disch := omega) only [up_ne, up_nk]
          exact hV.2.1.2.2.1 k (by omega)
      · rw [if_neg c3]; exact h
    · rw [if_neg c2]; exact h
  · rw [if_neg c1]
    dsimp only
    refine key _ (fun p p1 p2 p3 => up_fn p1) (fun j hj => up_nk hj) (by rw [up_at]; omega) (fun k hk => ?_)
    rw [up_at] at hk
    omega
theorem IX_120 {s : ZSt} (h : IX s) (b n : Int) : IX (sp120 s b n).2 := by
  have hn := h.1.1.1.1
  unfold SIn at hn
  have hV := h.1
  have key : ∀ (s' : ZSt), (∀ p, p ≠ 133 → p ≠ 164 → p ≠ 165 → s' p = s p) → (∀ j, j ≠ 43 → s' 133 j = s 133 j) → 0 ≤ s' 133 43 ∧ s' 133 43 ≤ 8 → SIk s' → IX s' := by
    intro s' hs h3 h43 hS
    exact IX_oth h (fun p p1 p2 p3 p4 p5 p6 => hs p p1 (by omega) (by omega)) (fun j hj => h3 j (by omega)) (by rw [h3 11 (by omega)]; omega) (by rw [h3 38 (by omega)]; omega) (by rw [h3 42 (by omega)]; omega) h43 (by rw [h3 69 (by omega)]; omega) hS (SIt_cg hV.2.1.2.1 (hs 180 (by omega) (by omega) (by omega)) (hs 181 (by omega) (by omega) (by omega))) (SIw_cg hV.2.1.2.2.1 (by rw [h3 0 (by omega)]; omega) (h3 42 (by omega)) (hs 162 (by omega) (by omega) (by omega)) (hs 163 (by omega) (by omega) (by omega))) (SIs_cg hV.2.1.2.2.2 (h3 38 (by omega)) (hs 159 (by omega) (by omega) (by omega)) (hs 160 (by omega) (by omega) (by omega)) (hs 161 (by omega) (by omega) (by omega))) (SIi_cg hV.2.2 (by rw [h3 9 (by omega)]; omega) (fun p _ _ => hs p (by omega) (by omega) (by omega)) (fun j _ _ => h3 j (by omega))) (by rw [h3 11 (by omega), hs 140 (by omega) (by omega) (by omega)]; exact h.2.1)
  unfold sp120
  by_cases c1 : b ≠ -1
  · rw [if_pos c1]
    by_cases c2 : 0 ≤ b ∧ b < s 133 0
    · rw [if_pos c2]
      by_cases c3 : 0 ≤ n ∧ n ≤ 60
      · rw [if_pos c3]
        by_cases c4 : s 133 43 < 8
        · rw [if_pos c4]
          dsimp only
          refine key _ (fun p p1 p2 p3 => by rw [up_fn p1, up_fn p3, up_fn p2]) (fun j hj => by rw [up_nk hj, up_ne (by omega), up_ne (by omega)]) (by rw [up_at]; omega) (fun k hk => ?_)
          rw [up_at] at hk
          by_cases q : k = (s 133 43).toNat
          · subst q
            simp (disch := omega) only [up_ne, up_nk, up_at]
            omega
          · simp (disch := omega) only [up_ne, up_nk]
            exact hV.2.1.1 k (by omega)
        · rw [if_neg c4]; exact h
      · rw [if_neg c3]; exact h
    · rw [if_neg c2]; exact h
  · rw [if_neg c1]
    dsimp only
    refine key _ (fun p p1 p2 p3 => up_fn p1) (fun j hj => up_nk hj) (by rw [up_at]; omega) (fun k hk => ?_)
    rw [up_at] at hk
    omega
theorem IX_im {s : ZSt} (h : IX s) : IX (imX s) := by
  have hn := h.1.1.1.1
  have hV := h.1
  obtain ⟨f1, f2, f3, f4, f5, f6, f7, f8⟩ := imX_f (s := s)
  have hs : ∀ p, p ≠ 133 → (p < 166 ∨ 178 < p) → imX s p = s p := fun p a b => imX_o a b
  have h3 : ∀ j, (j < 48 ∨ 55 < j) → imX s 133 j = s 133 j := fun j a => imX_j a
  have hn2 := hn
  unfold SIn at hn2
  refine IX_gen h (fun p hp => hs p (by omega) (by omega)) (h3 9 (by omega)) ?_ (by rw [f3]; omega) (by rw [h3 1 (by omega)]; exact hV.1.2.1) (SIb_cg hV.1.2.2.1 (h3 0 (by omega)) (fun p _ _ => hs p (by omega) (by omega))) (SIk_cg hV.2.1.1 (by rw [h3 0 (by omega)]; omega) (h3 43 (by omega)) (hs 164 (by omega) (by omega)) (hs 165 (by omega) (by omega))) (SIt_cg hV.2.1.2.1 (hs 180 (by omega) (by omega)) (hs 181 (by omega) (by omega))) (SIw_cg hV.2.1.2.2.1 (by rw [h3 0 (by omega)]; omega) (h3 42 (by omega)) (hs 162 (by omega) (by omega)) (hs 163 (by omega) (by omega))) (SIs_cg hV.2.1.2.2.2 (h3 38 (by omega)) (hs 159 (by omega) (by omega)) (hs 160 (by omega) (by omega)) (hs 161 (by omega) (by omega))) ?_ (by rw [h3 11 (by omega), hs 140 (by omega) (by omega)]; exact h.2.1)
  · unfold SIn at hn ⊢
    rw [h3 0 (by omega), h3 1 (by omega), h3 2 (by omega), h3 9 (by omega), h3 10 (by omega), h3 11 (by omega), h3 38 (by omega), h3 42 (by omega), h3 43 (by omega), f1, h3 69 (by omega)]
    exact ⟨hn.1, hn.2.1, hn.2.2.1, hn.2.2.2.1, hn.2.2.2.2.1, hn.2.2.2.2.2.1, hn.2.2.2.2.2.2.1, hn.2.2.2.2.2.2.2.1, hn.2.2.2.2.2.2.2.2.1, .inr rfl, hn.2.2.2.2.2.2.2.2.2.2⟩
  · intro _
    rw [f2, f3, f4, f5, f6, f7, f8, h3 9 (by omega)]
    have h1 := hV.1.2.1
    refine ⟨by omega, fun b hb => ?_, fun k hk => ?_, fun k hk => ?_, fun k hk => ?_⟩
    · have x := hV.1.2.2.1 b hb
      obtain ⟨a1, a2, a3, a4, a5, -⟩ := imX_b (s := s) (k := b) (by omega)
      unfold SBk at x ⊢
      simp only [Nat.add_zero, show 134 + 32 = 166 from rfl, show 135 + 32 = 167 from rfl, show 136 + 32 = 168 from rfl, show 137 + 32 = 169 from rfl, show 138 + 32 = 170 from rfl, show 139 + 32 = 171 from rfl] at x ⊢
      rw [a1, a2, a3, a4, a5]
      refine ⟨x.1, x.2.1, x.2.2.1, x.2.2.2.1, x.2.2.2.2.1, fun r hr => ?_⟩
      rw [imX_r (by omega)]
      exact x.2.2.2.2.2 r hr
    · obtain ⟨-, -, -, -, -, a6, a7, a8⟩ := imX_b (s := s) (k := k) (by omega)
      have x := hV.2.1.2.2.2 k hk
      rw [a6, a7, a8, nbv_01 x.2.2]
      exact x
    · obtain ⟨a1, a2⟩ := imX_w (s := s) (k := k) (by omega)
      rw [a1, a2]
      exact hV.2.1.2.2.1 k hk
    · obtain ⟨a1, a2⟩ := imX_k (s := s) (k := k) (by omega)
      rw [a1, a2]
      have := hV.2.1.1 k hk
      omega
theorem IX_127 {s : ZSt} (h : IX s) : IX (sp127 s).2 := by
  have hn := h.1.1.1.1
  have hV := h.1
  unfold sp127
  by_cases c : s 133 48 = 0
  · rw [if_pos c]; exact h
  · rw [if_neg c]
    show IX (unX s)
    have hn2 := hn
    unfold SIn at hn2
    have c1 : s 133 48 = 1 := by omega
    obtain ⟨i1, i2, i3, i4, i5⟩ := hV.2.2 c1
    obtain ⟨f1, f2, f3, f4, f5, f6, f7⟩ := unX_f (s := s)
    have hs : ∀ p, p ≠ 133 → (p < 134 ∨ (139 < p ∧ p < 159) ∨ 165 < p) → unX s p = s p := fun p a b => unX_o a b
    have h3 : ∀ j, (j ≠ 0 ∧ j ≠ 1 ∧ j ≠ 2 ∧ j ≠ 10 ∧ j ≠ 38 ∧ j ≠ 42 ∧ j ≠ 43) → unX s 133 j = s 133 j := fun j a => unX_j a
    refine IX_gen h (fun p hp => hs p (by omega) (by omega)) (h3 9 (by omega)) ?_ (by rw [h3 50 (by omega)]; exact hV.1.1.2) (by rw [f3]; omega) (fun b hb => ?_) (fun k hk => ?_) (SIt_cg hV.2.1.2.1 (hs 180 (by omega) (by omega)) (hs 181 (by omega) (by omega))) (fun k hk => ?_) (fun k hk => ?_) (SIi_cg hV.2.2 (by rw [h3 9 (by omega)]; omega) (fun p _ _ => hs p (by omega) (by omega)) (fun j _ _ => h3 j (by omega))) (by rw [h3 11 (by omega), hs 140 (by omega) (by omega)]; exact h.2.1)
    · unfold SIn at hn ⊢
      rw [f2, f3, f4, h3 9 (by omega), f1, h3 11 (by omega), f5, f6, f7, h3 48 (by omega), h3 69 (by omega)]
      refine ⟨i1.1, by omega, i1.2.2.1, hn.2.2.2.1, i1.2.2.2.1, hn.2.2.2.2.2.1, i1.2.2.2.2.1, i1.2.2.2.2.2.1, i1.2.2.2.2.2.2, hn.2.2.2.2.2.2.2.2.2⟩
    · rw [f2] at hb
      have x := i2 b hb
      obtain ⟨a1, a2, a3, a4, a5, -⟩ := unX_b (s := s) (k := b) (by omega)
      unfold SBk at x ⊢
      simp only [Nat.add_zero, show 134 + 32 = 166 from rfl, show 135 + 32 = 167 from rfl, show 136 + 32 = 168 from rfl, show 137 + 32 = 169 from rfl, show 138 + 32 = 170 from rfl, show 139 + 32 = 171 from rfl] at x ⊢
      rw [a1, a2, a3, a4, a5]
      refine ⟨x.1, x.2.1, x.2.2.1, x.2.2.2.1, x.2.2.2.2.1, fun r hr => ?_⟩
      rw [unX_r (by omega)]
      exact x.2.2.2.2.2 r hr
    · rw [f7] at hk
      obtain ⟨a1, a2⟩ := unX_k (s := s) (k := k) (by omega)
      rw [a1, a2, f2]
      have := i5 k hk
      omega
    · rw [f6] at hk
      obtain ⟨a1, a2⟩ := unX_w (s := s) (k := k) (by omega)
      rw [a1, a2, f2]
      exact i4 k hk
    · rw [f5] at hk
      obtain ⟨-, -, -, -, -, a6, a7, a8⟩ := unX_b (s := s) (k := k) (by omega)
      have x := i3 k hk
      rw [a6, a7, a8, nbv_01 x.2.2]
      exact x
theorem IX_gr {s t : ZSt} (h : IX s) (g : Gr s t 100) (h0 : s 133 69 = 0) : IX t := by
  have hn := h.1.1.1.1
  unfold SIn at hn
  have hV := h.1
  obtain ⟨g1, hs, h3⟩ := g
  exact IX_oth h (fun p p1 p2 p3 p4 p5 p6 => hs p p1 p3) (fun j hj => h3 j (by omega)) (by rw [h3 11 (by omega)]; omega) (by rw [h3 38 (by omega)]; omega) (by rw [h3 42 (by omega)]; omega) (by rw [h3 43 (by omega)]; omega) (by omega) (SIk_cg hV.2.1.1 (by rw [h3 0 (by omega)]; omega) (h3 43 (by omega)) (hs 164 (by omega) (by omega)) (hs 165 (by omega) (by omega))) (SIt_cg hV.2.1.2.1 (hs 180 (by omega) (by omega)) (hs 181 (by omega) (by omega))) (SIw_cg hV.2.1.2.2.1 (by rw [h3 0 (by omega)]; omega) (h3 42 (by omega)) (hs 162 (by omega) (by omega)) (hs 163 (by omega) (by omega))) (SIs_cg hV.2.1.2.2.2 (h3 38 (by omega)) (hs 159 (by omega) (by omega)) (hs 160 (by omega) (by omega)) (hs 161 (by omega) (by omega))) (SIi_cg hV.2.2 (by rw [h3 9 (by omega)]; omega) (fun p _ _ => hs p (by omega) (by omega)) (fun j _ _ => h3 j (by omega))) (by rw [h3 11 (by omega), hs 140 (by omega) (by omega)]; exact h.2.1)
theorem IX_z69 {s : ZSt} (h : IX s) : IX (z69 s) := by
  have hn := h.1.1.1.1
  unfold SIn at hn
  have hV := h.1
  unfold z69
  have hs : ∀ p, p ≠ 133 → up s 133 69 0 p = s p := fun p a => up_fn a
  have h3 : ∀ j, j ≠ 69 → up s 133 69 0 133 j = s 133 j := fun j a => up_nk a
  exact IX_oth h (fun p p1 p2 p3 p4 p5 p6 => hs p p1) (fun j hj => h3 j (by omega)) (by rw [h3 11 (by omega)]; omega) (by rw [h3 38 (by omega)]; omega) (by rw [h3 42 (by omega)]; omega) (by rw [h3 43 (by omega)]; omega) (by rw [up_at]; omega) (SIk_cg hV.2.1.1 (by rw [h3 0 (by omega)]; omega) (h3 43 (by omega)) (hs 164 (by omega)) (hs 165 (by omega))) (SIt_cg hV.2.1.2.1 (hs 180 (by omega)) (hs 181 (by omega))) (SIw_cg hV.2.1.2.2.1 (by rw [h3 0 (by omega)]; omega) (h3 42 (by omega)) (hs 162 (by omega)) (hs 163 (by omega))) (SIs_cg hV.2.1.2.2.2 (h3 38 (by omega)) (hs 159 (by omega)) (hs 160 (by omega)) (hs 161 (by omega))) (SIi_cg hV.2.2 (by rw [h3 9 (by omega)]; omega) (fun p _ _ => hs p (by omega)) (fun j _ _ => h3 j (by omega))) (by rw [h3 11 (by omega), hs 140 (by omega)]; exact h.2.1)
theorem IX_128 {s : ZSt} (h : IX s) (b a : Int) (x : Int32) : IX (sp128 s b a x).2 := by
  have hz : z69 s 133 69 = 0 := up_at
  have h0 := IX_z69 h
  unfold sp128
  by_cases c : (0 ≤ b ∧ b < s 133 0) ∧ 0 ≤ a ∧ a ≤ 2
  · rw [if_pos c]
    by_cases c1 : a = 0
    · rw [if_pos c1]; exact IX_gr h0 ((rgS_g _ _ _ _ _).le (by omega)) hz
    · rw [if_neg c1]
      by_cases c2 : a = 1
      · rw [if_pos c2]; exact IX_gr h0 ((spS_g _ _ _ _ _).le (by omega)) hz
      · rw [if_neg c2]; exact IX_gr h0 ((tlS_g _ _ _ _ _).le (by omega)) hz
  · rw [if_neg c]; exact h0
theorem IX_137 {s : ZSt} (h : IX s) (l : Nat → Int64) (t x n : Int) : IX (sp137 s l t x n).2.1 := by
  have hn := h.1.1.1.1
  unfold SIn at hn
  have hV := h.1
  unfold sp137
  by_cases c1 : 0 ≤ t ∧ t ≤ 5
  · rw [if_pos c1]
    by_cases c2 : -1 ≤ x ∧ x ≤ 4
    · rw [if_pos c2]
      by_cases c3 : 0 ≤ x ∧ 60 < n
      · rw [if_pos c3]; exact h
      · rw [if_neg c3]
        by_cases c4 : 0 ≤ x ∧ n < 0
        · rw [if_pos c4]; exact h
        · rw [if_neg c4]
          show IX (up (up s 180 t.toNat x) 181 t.toNat (if x < 0 then 0 else n))
          have hs : ∀ p, p ≠ 180 → p ≠ 181 → (up (up s 180 t.toNat x) 181 t.toNat (if x < 0 then 0 else n)) p = s p := fun p a b => by rw [up_fn b, up_fn a]
          have h3 : ∀ j, (up (up s 180 t.toNat x) 181 t.toNat (if x < 0 then 0 else n)) 133 j = s 133 j := fun j => by rw [up_ne (by omega), up_ne (by omega)]
          refine IX_oth h (fun p p1 p2 p3 p4 p5 p6 => hs p p5 p6) (fun j hj => h3 j) (by rw [h3 11]; omega) (by rw [h3 38]; omega) (by rw [h3 42]; omega) (by rw [h3 43]; omega) (by rw [h3 69]; omega) (SIk_cg hV.2.1.1 (by rw [h3 0]; omega) (h3 43) (hs 164 (by omega) (by omega)) (hs 165 (by omega) (by omega))) (fun k hk => ?_) (SIw_cg hV.2.1.2.2.1 (by rw [h3 0]; omega) (h3 42) (hs 162 (by omega) (by omega)) (hs 163 (by omega) (by omega))) (SIs_cg hV.2.1.2.2.2 (h3 38) (hs 159 (by omega) (by omega)) (hs 160 (by omega) (by omega)) (hs 161 (by omega) (by omega))) (SIi_cg hV.2.2 (by rw [h3 9]; omega) (fun p _ _ => hs p (by omega) (by omega)) (fun j _ _ => h3 j)) (by rw [h3 11, hs 140 (by omega) (by omega)]; exact h.2.1)
          by_cases q : k = t.toNat
          · subst q
            simp (disch := omega) only [up_ne, up_at]
            by_cases c5 : x < 0
            · rw [if_pos c5]; omega
            · rw [if_neg c5]; omega
          · simp (disch := omega) only [up_ne, up_nk]
            exact hV.2.1.2.1 k hk
    · rw [if_neg c2]; exact h
  · rw [if_neg c1]; exact h
