/-! ROW, FEED, TRACE -/
theorem RCb_row {M : ZMem} {s : ZSt} (h : RCb M s) {b r : Nat} {v : Int} (hr : r < 4) : RCb (zpI M (25 + 2 * b) r (ii v)) (up s 139 (4 * b + r) v) := by
  intro c hc
  rw [up_fn (by omega)] at hc
  obtain ⟨h1, h6⟩ := h c hc
  refine ⟨?_, fun i hi => ?_⟩
  · simp only [zI_ne (show 24 + 2 * c ≠ 25 + 2 * b by omega), Nat.add_zero, up_fn (show (134 : Nat) ≠ 139 by omega), up_fn (show (135 : Nat) ≠ 139 by omega), up_fn (show (136 : Nat) ≠ 139 by omega), up_fn (show (137 : Nat) ≠ 139 by omega), up_fn (show (138 : Nat) ≠ 139 by omega)]
    exact h1
  · rw [zI_pI, up_eq]
    by_cases q : c = b ∧ i = r
    · rw [if_pos (by omega), if_pos (by omega)]
    · rw [if_neg (by omega), if_neg (by omega)]; exact h6 i hi
/-- row -/
def sp49 (s : ZSt) (b p n : Int) : Int × ZSt := if (0 ≤ b ∧ b < s 133 0) ∧ 0 ≤ p ∧ p ≤ 3 then (if 0 ≤ n ∧ n ≤ 9 then (if s 134 b.toNat = 6 then (s 139 (4 * b.toNat + p.toNat), up s 139 (4 * b.toNat + p.toNat) n) else (-3, s)) else (-2, s)) else (-1, s)
theorem m49 {M0 M : ZMem} {s : ZSt} {l : Nat → Int64} (h : CS M0 M s l) (hi : SI6 s) (hb' : SIb s) {b p n : Int} (hb : -2147483648 ≤ b ∧ b < 2147483648) (hp : -2147483648 ≤ p ∧ p < 2147483648) (hw : -2147483648 ≤ n ∧ n < 2147483648) : CG M0 (f_49 M 20 (ii b) (ii p) (ii n)) (ii (sp49 s b p n).1) (sp49 s b p n).2 l := by
  have hn := hi.1
  unfold SIn at hn
  obtain ⟨hL, hU, hR⟩ := id h
  unfold f_49 sp49
  rw [if_pos (zok_ly hL k20)]
  refine CG_eq (gnow hL) (CG_eq rfl (CG_eq (gyd hL) (CG_eq rfl (CG_eq (c19 hL (by decide) hR.1.1.1 (by omega) hb) ?_))))
  by_cases c1 : 0 ≤ b ∧ b < s 133 0
  · rw [fnd_some c1, zcs_so _ _ _ (by omega)]
    have hb6 : b.toNat < 6 := by omega
    have eo : 22 + 2 + 2 * b.toNat = 24 + 2 * b.toNat := by omega
    obtain ⟨w1, w2⟩ := hR.1.2.1 b.toNat (by omega)
    have hv := hb' b.toNat (by omega)
    unfold SBk at hv
    simp only [Nat.add_zero] at hv w1 w2
    rw [eo]
    refine CG_eq (c14i (b := 0) (c := 3) hp (by omega) (by omega)) (CG_ite (tsn _) (fun c2 => ?_) fun c2 => ?_)
    · rw [if_pos (And.intro c1 c2)]
      refine CG_eq (c14i (b := 0) (c := 9) hw (by omega) (by omega)) (CG_ite (tsn _) (fun c3 => ?_) fun c3 => ?_)
      · rw [if_pos c3]
        refine CG_eq ((gI hL (kBn hb6) (by decide)).trans (congrArg some w1.1)) (CG_ite (iie (b := 6) (by omega) (by omega)) (fun c4 => ?_) fun c4 => ?_)
        · rw [if_pos c4]
          have hpi : (ii p).toInt = p := ii_toInt hp
          have hz := (zRm_row _ hb6)
          refine CG_eq (gR hL (kBn hb6) (by decide) hz.1) (CG_eq rfl (CG_eq (zai_ly hL (by omega) hz.2 (by omega)) (CG_eq (gR hL (kBn hb6) (by decide) hz.1) (CG_eq rfl (CG_eq (zsa_ly hL (by omega) hz.2 (by omega)) ?_)))))
          rw [hpi]
          have e1 := w2 p.toNat (by omega)
          rw [show 24 + 2 * b.toNat + 1 = 25 + 2 * b.toNat by omega] at e1
          rw [e1]
          refine CG_ret ⟨hL.p, hU.pI (by omega), RC_blk hR ⟨by omega, hi.2, by omega⟩ (fun q hq => ⟨fun j => zI_ne (by omega), fun j => rfl⟩) (fun c hc => zI_ne (by omega)) (fun a ha => up_fn (by omega)) (RCb_row hR.1.2.1 (by omega))⟩
        · rw [if_neg c4]; exact CG_ret h
      · rw [if_neg c3]; exact CG_ret h
    · rw [if_neg (fun q => c2 q.2)]; exact CG_ret h
  · rw [fnd_none c1, zcs_no, if_neg (fun q => c1 q.1)]; exact CG_ret h
theorem m150 {M0 M : ZMem} {s : ZSt} (h : MS M0 M s) (hi : SIn s) (hb' : SIb s) {b p n : Int} (hb : -2147483648 ≤ b ∧ b < 2147483648) (hp : -2147483648 ≤ p ∧ p < 2147483648) (hw : -2147483648 ≤ n ∧ n < 2147483648) : MG M0 (f_150 M 133 (ii b) (ii p) (ii n)) (ii (sp49 s b p n).1) (sp49 s b p n).2 := by
  have hn := hi
  unfold SIn at hn
  unfold f_150 sp49
  rw [if_pos (zok_ly h.1 k133)]
  refine MG_eq (c149 h.1 h.2.2 hi hb) (MG_ite (tst _) (fun c1 => ?_) fun c1 => ?_)
  · rw [if_neg (fun q => c1 q.1)]; exact MG_ret h
  · have c1 := Decidable.not_not.mp c1
    have hv := hb' b.toNat (by omega)
    unfold SBk at hv
    simp only [Nat.add_zero] at hv
    refine MG_eq (c147i h.1 (b := 0) (c := 3) hp (by omega) (by omega)) (MG_ite (tsn _) (fun c2 => ?_) fun c2 => ?_)
    · rw [if_pos (And.intro c1 c2)]
      refine MG_eq (c147i h.1 (b := 0) (c := 9) hw (by omega) (by omega)) (MG_ite (tsn _) (fun c3 => ?_) fun c3 => ?_)
      · rw [if_pos c3]
        refine MG_eq (rP h (by decide) (P := 134) (by decide +kernel)) (MG_eq rfl (MG_eq (rA (n := 6) h (by decide) (fun _ => rfl) (by omega) (by omega)) (MG_ite (iie (b := 6) (by omega) (by omega)) (fun c4 => ?_) fun c4 => ?_)))
        · rw [if_pos c4, show (4 : Int32) = ii 4 from rfl, ii_mul, ii_add]
          refine MG_eq (rP h (by decide) (P := 139) (by decide +kernel)) (MG_eq rfl (MG_eq (rA (n := 24) h (by decide) (fun _ => rfl) (by omega) (by omega)) (MG_eq (rP h (by decide) (P := 139) (by decide +kernel)) (MG_eq rfl (MG_bv (wA (n := 24) h (by decide) (by omega) (by omega)) fun M1 h1 => ?_)))))
          rw [show (4 * b + p).toNat = 4 * b.toNat + p.toNat by omega] at h1 ⊢
          exact MG_ret h1
        · rw [if_neg c4]; exact MG_ret h
      · rw [if_neg c3]; exact MG_ret h
    · rw [if_neg (fun q => c2 q.2)]; exact MG_ret h
/-- only the text changes -/
theorem RC_tx {M M' : ZMem} {s s' : ZSt} {l : Nat → Int64} (h : RC M s l) (hi : s 133 0 ≤ 6 ∧ s 133 50 ≤ 6 ∧ s 133 9 ≤ 6) (hM : ∀ p, p ≠ 20 → p ≠ 89 → (∀ j, zI M' p j = zI M p j) ∧ ∀ j, zL M' p j = zL M p j) (h2' : zI M' 20 2 = zI M 20 2) (hs : ∀ q, q ≠ 133 → q ≠ 140 → s' q = s q) (h3 : ∀ j, j ≠ 11 → s' 133 j = s 133 j) (ht : RCt M' s') : RC M' s' l := by
  obtain ⟨⟨h1, h2, h3'⟩, ⟨h4, h5, h6⟩, h7, h8, h9, h10, h11⟩ := h
  have e : ∀ p, p ≠ 20 → p ≠ 89 → ∀ j, zI M' p j = zI M p j := fun p hp hq => (hM p hp hq).1
  refine ⟨⟨RCy_sf (RCy_fr h1 (e 22 (by omega) (by omega))) ?_ ?_ ?_ ?_, RCb_sf (RCb_fr h2 hi.1 (fun p h1 h2 => e p (by omega) (by omega))) ?_ ?_ ?_ ?_ ?_ ?_ ?_, RCc_fr h3' ?_⟩, ⟨RCs_sf (RCs_fr h4 (e 36 (by omega) (by omega)) (e 37 (by omega) (by omega)) (e 38 (by omega) (by omega)) (e 39 (by omega) (by omega))) ?_ ?_ ?_ ?_, RCw_sf (RCw_fr h5 (e 40 (by omega) (by omega)) (e 41 (by omega) (by omega)) (e 42 (by omega) (by omega)) (e 43 (by omega) (by omega))) ?_ ?_ ?_, RCk_sf (RCk_fr h6 (e 44 (by omega) (by omega)) (e 45 (by omega) (by omega)) (e 46 (by omega) (by omega)) (e 47 (by omega) (by omega))) ?_ ?_ ?_⟩, ht, RCi_sf (RCi_fr h8 hi.2.1 h2' (fun p h1 h2 => e p (by omega) (by omega))) ?_ ?_ ?_ ?_ ?_ ?_ ?_ ?_ ?_ ?_ ?_ ?_ ?_ ?_ ?_ ?_ ?_ ?_ ?_ ?_ ?_, RCa_sf (RCa_fr h9 (e 106 (by omega) (by omega)) (e 107 (by omega) (by omega))) ?_ ?_, RCh_sf (RCh_fr h10 hi.2.2 (fun p h1 h2 => e p (by omega) (by omega))) ?_ ?_ ?_ ?_ ?_ ?_ ?_, RCp_sf (RCp_fr h11 (fun p h1 h2 => hM p (by omega) (by omega))) ?_ ?_⟩
  all_goals first | exact h3 _ (by omega) | exact hs _ (by omega) (by omega) | skip
  intro p j hp
  refine e p ?_ ?_ j
  · rintro rfl
    rcases hp with h | h | h | ⟨_, h⟩
    · omega
    · omega
    · omega
    · simp only [List.mem_cons, List.not_mem_nil, or_false] at h; omega
  · rintro rfl
    rcases hp with h | h | h | ⟨_, h⟩
    · omega
    · omega
    · omega
    · simp only [List.mem_cons, List.not_mem_nil, or_false] at h; omega
/-- feed -/
def sp59 (s : ZSt) (n : Int) : Int × ZSt := if 0 ≤ n ∧ n ≤ 127 then (if s 133 11 < 100 then (s 133 11 + 1, up (up s 140 (s 133 11).toNat n) 133 11 (s 133 11 + 1)) else (-4, s)) else (-2, s)
theorem bt127 : ∀ n : Nat, n < 128 → vp_nar .byte (ii (n : Int)).toInt8.toInt32 = ii (n : Int) := by decide +kernel
theorem m59 {M0 M : ZMem} {s : ZSt} {l : Nat → Int64} (h : CS M0 M s l) (hi : SI6 s) {n : Int} (hw : -2147483648 ≤ n ∧ n < 2147483648) : CG M0 (f_59 M 20 (ii n)) (ii (sp59 s n).1) (sp59 s n).2 l := by
  have hn := hi.1
  unfold SIn at hn
  obtain ⟨hL, hU, hR⟩ := id h
  have ht := hR.2.2.1
  unfold f_59 sp59
  rw [if_pos (zok_ly hL k20)]
  refine CG_eq (c14i (b := 0) (c := 127) hw (by omega) (by omega)) (CG_ite (tsn _) (fun c1 => ?_) fun c1 => ?_)
  · rw [if_pos c1]
    refine CG_eq ((gI hL k20 (by decide)).trans (congrArg some ht.1)) (CG_ite (P := s 133 11 < 100) (by rw [show (100 : Int32) = ii 100 from rfl, ii_lt (by omega) (by omega)]) (fun c2 => ?_) fun c2 => ?_)
    · rw [if_pos c2]
      show CG M0 _ (ii (s 133 11 + 1)) (up (up s 140 (s 133 11).toNat n) 133 11 (s 133 11 + 1)) l
      have hpi : (ii (s 133 11)).toInt = s 133 11 := ii_toInt (by omega)
      refine CG_eq (gR hL k20 (by decide) (q := 89) (by decide +kernel)) (CG_eq ((gI hL k20 (by decide)).trans (congrArg some ht.1)) (CG_eq rfl (CG_eq (zsb_ly hL (p := 89) (n := 100) (t := 21) (by omega) (by decide) (.inl rfl) (by omega)) ?_)))
      rw [if_pos rfl, hpi]
      have hb := bt127 n.toNat (by omega)
      rw [show ((n.toNat : Nat) : Int) = n by omega] at hb
      rw [hb]
      refine CG_eq ((gI hL.p k20 (by decide)).trans (congrArg some ((zI_ne (by omega)).trans ht.1))) ?_
      rw [l1, ii_add]
      refine CG_eq (pI hL.p k20 (by decide) (by decide) (by decide)) (CG_eq ((gI hL.p.p k20 (by decide)).trans (congrArg some zI_at)) (CG_ret ⟨hL.p.p, (hU.pI (by omega)).pI (by omega), RC_tx hR ⟨by omega, hi.2, by omega⟩ (fun p h1 h2 => ⟨fun j => (zI_ne h1).trans (zI_ne h2), fun j => rfl⟩) ((zI_nk (by omega)).trans (zI_ne (by omega))) (fun q h1 h2 => (up_fn h1).trans (up_fn h2)) (fun j hj => (up_nk hj).trans (up_ne (by omega))) ⟨zI_at.trans (congrArg ii up_at.symm), ?_, fun k hk => ?_⟩⟩))
      · rw [zI_nk (show (7 : Nat) ≠ 5 by omega), zI_ne (show (20 : Nat) ≠ 89 by omega), up_nk (show (9 : Nat) ≠ 11 by omega), up_ne (show (133 : Nat) ≠ 140 by omega)]; exact ht.2.1
      · rw [up_at] at hk
        rw [zI_ne (by omega), up_ne (by omega), zI_pI, up_eq]
        by_cases hkn : k = (s 133 11).toNat
        · rw [if_pos ⟨rfl, hkn⟩, if_pos ⟨rfl, hkn⟩]
        · rw [if_neg (fun q => hkn q.2), if_neg (fun q => hkn q.2)]; exact ht.2.2 k (by omega)
    · rw [if_neg c2]; exact CG_ret h
  · rw [if_neg c1]; exact CG_ret h
theorem m151 {M0 M : ZMem} {s : ZSt} (h : MS M0 M s) (hi : SIn s) {n : Int} (hw : -2147483648 ≤ n ∧ n < 2147483648) : MG M0 (f_151 M 133 (ii n)) (ii (sp59 s n).1) (sp59 s n).2 := by
  have hn := hi
  unfold SIn at hn
  unfold f_151 sp59
  rw [if_pos (zok_ly h.1 k133)]
  refine MG_eq (c147i h.1 (b := 0) (c := 127) hw (by omega) (by omega)) (MG_ite (tsn _) (fun c1 => ?_) fun c1 => ?_)
  · rw [if_pos c1]
    refine MG_eq (rF h (by decide) rfl) (MG_ite (iin (b := 100) (by omega) (by omega)) (fun c5 => ?_) fun c5 => ?_)
    · rw [if_pos (show s 133 11 < 100 by omega)]
      refine wK h (by decide) (P := 140) (m := 100) (by decide +kernel) (by decide) (by decide) rfl (by omega) (by omega) rfl fun M1 h1 => ?_
      exact wI h1 (by decide) (by decide) (by decide) rfl rfl
    · rw [if_neg (by omega)]; exact MG_ret h
  · rw [if_neg c1]; exact MG_ret h
