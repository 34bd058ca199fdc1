/-! ROWS: see, week, book; count -/
theorem RC_rw {M M' : ZMem} {s s' : ZSt} {l : Nat → Int64} (h : RC M s l) (hi : s 133 0 ≤ 6 ∧ s 133 50 ≤ 6 ∧ s 133 9 ≤ 6) (hM : ∀ p, (p < 36 ∨ 47 < p) → (∀ j, zI M' p j = zI M p j) ∧ ∀ j, zL M' p j = zL M p j) (h0 : zI M' 36 0 = zI M 36 0 ∧ zI M' 40 0 = zI M 40 0 ∧ zI M' 44 0 = zI M 44 0) (hs : ∀ q, q ≠ 133 → (q < 159 ∨ 165 < q) → s' q = s q) (h3 : ∀ j, j ≠ 38 → j ≠ 42 → j ≠ 43 → s' 133 j = s 133 j) (hh : RCs M' s' ∧ RCw M' s' ∧ RCk M' s') : RC M' s' l := by
  obtain ⟨⟨h1, h2, h3'⟩, ⟨h4, h5, h6⟩, h7, h8, h9, h10, h11⟩ := h
  have e : ∀ p, (p < 36 ∨ 47 < p) → ∀ j, zI M' p j = zI M p j := fun p hp => (hM p hp).1
  refine ⟨⟨RCy_sf (RCy_fr h1 (e 22 (by omega))) ?_ ?_ ?_ ?_, RCb_sf (RCb_fr h2 hi.1 (fun p h1 h2 => e p (by omega))) ?_ ?_ ?_ ?_ ?_ ?_ ?_, RCc_fr h3' ?_⟩, hh, RCt_sf (RCt_fr h7 (fun j _ => e 20 (by omega) j) (e 89 (by omega))) ?_ ?_ ?_, RCi_sf (RCi_fr h8 hi.2.1 (e 20 (by omega) 2) (fun p h1 h2 => e p (by omega))) ?_ ?_ ?_ ?_ ?_ ?_ ?_ ?_ ?_ ?_ ?_ ?_ ?_ ?_ ?_ ?_ ?_ ?_ ?_ ?_ ?_, RCa_sf (RCa_fr h9 (e 106 (by omega)) (e 107 (by omega))) ?_ ?_, RCh_sf (RCh_fr h10 hi.2.2 (fun p h1 h2 => e p (by omega))) ?_ ?_ ?_ ?_ ?_ ?_ ?_, RCp_sf (RCp_fr h11 (fun p h1 h2 => hM p (by omega))) ?_ ?_⟩
  all_goals first | exact h3 _ (by omega) (by omega) (by omega) | exact hs _ (by omega) (by omega) | skip
  intro p j hp
  by_cases hq : p < 36 ∨ 47 < p
  · exact e p hq j
  · have hp2 : j = 0 ∧ (p = 36 ∨ p = 40 ∨ p = 44) := by
      rcases hp with h | h | h | ⟨h, h'⟩
      · omega
      · omega
      · omega
      · refine ⟨h, ?_⟩
        simp only [List.mem_cons, List.not_mem_nil, or_false] at h'
        omega
    obtain ⟨rfl, rfl | rfl | rfl⟩ := hp2
    · exact h0.1
    · exact h0.2.1
    · exact h0.2.2
def rwM (M : ZMem) (p n : Nat) (x y z v : Int32) : ZMem := zpI (zpI (zpI (zpI M (p + 1) n x) (p + 2) n y) (p + 3) n z) p 4 v
theorem c108 {M : ZMem} (h : Ly M) {p L : Nat} {n : Int} {x y z : Int32} (hp : (p = 36 ∧ L = 6) ∨ (p = 40 ∧ L = 10) ∨ (p = 44 ∧ L = 8)) (hl : zI M p 0 = ii L) (hn : zI M p 4 = ii n) (h0 : 0 ≤ n ∧ n ≤ L) : f_108 M p x y z = some (if n < L then (ii (n + 1), rwM M p n.toNat x y z (ii (n + 1))) else (-4, M)) := by
  have hk : zokT 6 p = true := by rcases hp with ⟨rfl, _⟩ | ⟨rfl, _⟩ | ⟨rfl, _⟩ <;> decide +kernel
  have hr : zRm p 1 = some (p + 1) ∧ zRm p 2 = some (p + 2) ∧ zRm p 3 = some (p + 3) := by rcases hp with ⟨rfl, _⟩ | ⟨rfl, _⟩ | ⟨rfl, _⟩ <;> decide +kernel
  have hs : zSh.getD (p + 1) (0, 0) = (20, L) ∧ zSh.getD (p + 2) (0, 0) = (20, L) ∧ zSh.getD (p + 3) (0, 0) = (20, L) := by rcases hp with ⟨rfl, rfl⟩ | ⟨rfl, rfl⟩ | ⟨rfl, rfl⟩ <;> decide +kernel
  have hb : (ii n).toInt = n := ii_toInt (by omega)
  unfold f_108
  rw [if_pos (zok_ly h hk), gI h hk (by decide), zb_some, gI h hk (by decide), zb_some, hl, hn]
  by_cases hc : n < L
  · rw [if_pos (by rw [ii_lt (by omega) (by omega)]; exact hc), if_pos hc]
    rw [gR h hk (by decide) hr.1, zb_some, zb_some, zb_some, zsa_ly h (by omega) hs.1 (by omega), zb_some, hb]
    rw [gR h.p hk (by decide) hr.2.1, zb_some, gI h.p hk (by decide), zb_some, zb_some, zI_ne (by omega), hn, zsa_ly h.p (by omega) hs.2.1 (by omega), zb_some, hb]
    rw [gR h.p.p hk (by decide) hr.2.2, zb_some, gI h.p.p hk (by decide), zb_some, zb_some, zI_ne (by omega), zI_ne (by omega), hn, zsa_ly h.p.p (by omega) hs.2.2 (by omega), zb_some, hb]
    rw [gI h.p.p.p hk (by decide), zb_some, zI_ne (by omega), zI_ne (by omega), zI_ne (by omega), hn, pI h.p.p.p hk (by decide) (by decide) (by decide), zb_some, gI h.p.p.p.p hk (by decide), zb_some, zI_at, l1, ii_add]
    rfl
  · rw [if_neg (by rw [ii_lt (by omega) (by omega)]; exact hc), if_neg hc]
theorem gseen {M : ZMem} (h : Ly M) : zgr M 7 1 21 = some (some 36) := gR h k21 (by decide) (by decide +kernel)
theorem gweek {M : ZMem} (h : Ly M) : zgr M 7 2 21 = some (some 40) := gR h k21 (by decide) (by decide +kernel)
theorem gbook {M : ZMem} (h : Ly M) : zgr M 7 3 21 = some (some 44) := gR h k21 (by decide) (by decide +kernel)
theorem gacts {M : ZMem} (h : Ly M) : zgr M 11 13 20 = some (some 106) := gR h k20 (by decide) (by decide +kernel)
theorem k36 : zokT 6 36 = true := by decide +kernel
theorem k40 : zokT 6 40 = true := by decide +kernel
theorem k44 : zokT 6 44 = true := by decide +kernel
theorem k106 : zokT 0 106 = true := by decide +kernel
/-- count -/
theorem q31 {M : ZMem} {s : ZSt} {l : Nat → Int64} (h : Ly M) (hc : RC M s l) (hm : RM M s) {a : Int32} : ∃ v, f_136 M 20 a = some v ∧ f_234 M 133 a = some v := by
  obtain ⟨⟨h1, h2, h3'⟩, ⟨h4, h5, h6⟩, h7, h8, h9, h10, h11⟩ := hc
  unfold f_136 f_234
  rw [if_pos (zok_ly h k20), if_pos (zok_ly h k133)]
  simp only [gnow h, gyd h, gseen h, gweek h, gbook h, gacts h, zb_some, gI h k22 (show zfk 10 1 0 = true by decide), gI h k20 (show zfk 11 7 0 = true by decide), gI h k20 (show zfk 11 5 0 = true by decide), gI h k36 (show zfk 6 4 0 = true by decide), gI h k40 (show zfk 6 4 0 = true by decide), gI h k44 (show zfk 6 4 0 = true by decide), gI h k106 (show zfk 0 1 0 = true by decide), g133 h hm (show zfk 12 0 0 = true by decide) rfl, g133 h hm (show zfk 12 9 0 = true by decide) rfl, g133 h hm (show zfk 12 38 0 = true by decide) rfl, g133 h hm (show zfk 12 42 0 = true by decide) rfl, g133 h hm (show zfk 12 43 0 = true by decide) rfl, g133 h hm (show zfk 12 11 0 = true by decide) rfl, g133 h hm (show zfk 12 69 0 = true by decide) rfl, h1.1, h7.2.1, h7.1, h4.1, h5.1, h6.1, h9.1]
  repeat' split
  all_goals exact ⟨_, rfl, rfl⟩
theorem RCs_add {M : ZMem} {s : ZSt} {l : Nat → Int64} (h : RC M s l) (hi : SI6 s) {x y z : Int} : RC (rwM M 36 (s 133 38).toNat (ii x) (ii y) (ii z) (ii (s 133 38 + 1))) (up (up (up (up s 159 (s 133 38).toNat x) 160 (s 133 38).toNat y) 161 (s 133 38).toNat z) 133 38 (s 133 38 + 1)) l := by
  have h0 := hi.1
  unfold SIn at h0
  refine RC_rw h ⟨by omega, hi.2, by omega⟩ (fun p hp => ⟨fun j => ?_, fun j => rfl⟩) ⟨?_, ?_, ?_⟩ (fun q h1 h2 => ?_) (fun j h1 h2 h3 => ?_) ⟨⟨?_, fun k hk => ?_⟩, ?_, ?_⟩
  · unfold rwM
    rw [zI_ne (by omega), zI_ne (by omega), zI_ne (by omega), zI_ne (by omega)]
  · unfold rwM
    rw [zI_nk (by omega), zI_ne (by omega), zI_ne (by omega), zI_ne (by omega)]
  · unfold rwM
    rw [zI_ne (by omega), zI_ne (by omega), zI_ne (by omega), zI_ne (by omega)]
  · unfold rwM
    rw [zI_ne (by omega), zI_ne (by omega), zI_ne (by omega), zI_ne (by omega)]
  · rw [up_fn (by omega), up_fn (by omega), up_fn (by omega), up_fn (by omega)]
  · rw [up_nk (by omega), up_ne (by omega), up_ne (by omega), up_ne (by omega)]
  · unfold rwM
    rw [zI_at, up_at]
  · rw [up_at] at hk
    unfold rwM
    by_cases hkn : k = (s 133 38).toNat
    · subst hkn
      simp [zI_pI, up_eq]
    · have := h.2.1.1.2 k (by omega)
      simp [zI_pI, up_eq, hkn]
      exact this
  · refine RCw_sf (RCw_fr h.2.1.2.1 ?_ ?_ ?_ ?_) ?_ ?_ ?_
    all_goals first | (intro j; unfold rwM; rw [zI_ne (by omega), zI_ne (by omega), zI_ne (by omega), zI_ne (by omega)]) | (rw [up_nk (by omega), up_ne (by omega), up_ne (by omega), up_ne (by omega)]) | (rw [up_fn (by omega), up_fn (by omega), up_fn (by omega), up_fn (by omega)])
  · refine RCk_sf (RCk_fr h.2.1.2.2 ?_ ?_ ?_ ?_) ?_ ?_ ?_
    all_goals first | (intro j; unfold rwM; rw [zI_ne (by omega), zI_ne (by omega), zI_ne (by omega), zI_ne (by omega)]) | (rw [up_nk (by omega), up_ne (by omega), up_ne (by omega), up_ne (by omega)]) | (rw [up_fn (by omega), up_fn (by omega), up_fn (by omega), up_fn (by omega)])
theorem RCw_add {M : ZMem} {s : ZSt} {l : Nat → Int64} (h : RC M s l) (hi : SI6 s) {x y y' z : Int} (hy : 0 < x → y = y') : RC (rwM M 40 (s 133 42).toNat (ii x) (ii y) (ii z) (ii (s 133 42 + 1))) (up (up (up s 162 (s 133 42).toNat x) 163 (s 133 42).toNat y') 133 42 (s 133 42 + 1)) l := by
  have h0 := hi.1
  unfold SIn at h0
  refine RC_rw h ⟨by omega, hi.2, by omega⟩ (fun p hp => ⟨fun j => ?_, fun j => rfl⟩) ⟨?_, ?_, ?_⟩ (fun q h1 h2 => ?_) (fun j h1 h2 h3 => ?_) ⟨?_, ⟨?_, fun k hk => ?_⟩, ?_⟩
  · unfold rwM
    rw [zI_ne (by omega), zI_ne (by omega), zI_ne (by omega), zI_ne (by omega)]
  · unfold rwM
    rw [zI_ne (by omega), zI_ne (by omega), zI_ne (by omega), zI_ne (by omega)]
  · unfold rwM
    rw [zI_nk (by omega), zI_ne (by omega), zI_ne (by omega), zI_ne (by omega)]
  · unfold rwM
    rw [zI_ne (by omega), zI_ne (by omega), zI_ne (by omega), zI_ne (by omega)]
  · rw [up_fn (by omega), up_fn (by omega), up_fn (by omega)]
  · rw [up_nk (by omega), up_ne (by omega), up_ne (by omega)]
  · refine RCs_sf (RCs_fr h.2.1.1 ?_ ?_ ?_ ?_) ?_ ?_ ?_ ?_
    all_goals first | (intro j; unfold rwM; rw [zI_ne (by omega), zI_ne (by omega), zI_ne (by omega), zI_ne (by omega)]) | (rw [up_nk (by omega), up_ne (by omega), up_ne (by omega)]) | (rw [up_fn (by omega), up_fn (by omega), up_fn (by omega)])
  · unfold rwM
    rw [zI_at, up_at]
  · rw [up_at] at hk
    unfold rwM
    by_cases hkn : k = (s 133 42).toNat
    · subst hkn
      simp [zI_pI, up_eq]
      intro hx; rw [hy hx]
    · have := h.2.1.2.1.2 k (by omega)
      simp [zI_pI, up_eq, hkn]
      exact this
  · refine RCk_sf (RCk_fr h.2.1.2.2 ?_ ?_ ?_ ?_) ?_ ?_ ?_
    all_goals first | (intro j; unfold rwM; rw [zI_ne (by omega), zI_ne (by omega), zI_ne (by omega), zI_ne (by omega)]) | (rw [up_nk (by omega), up_ne (by omega), up_ne (by omega)]) | (rw [up_fn (by omega), up_fn (by omega), up_fn (by omega)])
theorem RCk_add {M : ZMem} {s : ZSt} {l : Nat → Int64} (h : RC M s l) (hi : SI6 s) {x y z : Int} : RC (rwM M 44 (s 133 43).toNat (ii x) (ii y) (ii z) (ii (s 133 43 + 1))) (up (up (up s 164 (s 133 43).toNat x) 165 (s 133 43).toNat y) 133 43 (s 133 43 + 1)) l := by
  have h0 := hi.1
  unfold SIn at h0
  refine RC_rw h ⟨by omega, hi.2, by omega⟩ (fun p hp => ⟨fun j => ?_, fun j => rfl⟩) ⟨?_, ?_, ?_⟩ (fun q h1 h2 => ?_) (fun j h1 h2 h3 => ?_) ⟨?_, ?_, ⟨?_, fun k hk => ?_⟩⟩
  · unfold rwM
    rw [zI_ne (by omega), zI_ne (by omega), zI_ne (by omega), zI_ne (by omega)]
  · unfold rwM
    rw [zI_ne (by omega), zI_ne (by omega), zI_ne (by omega), zI_ne (by omega)]
  · unfold rwM
    rw [zI_ne (by omega), zI_ne (by omega), zI_ne (by omega), zI_ne (by omega)]
  · unfold rwM
    rw [zI_nk (by omega), zI_ne (by omega), zI_ne (by omega), zI_ne (by omega)]
  · rw [up_fn (by omega), up_fn (by omega), up_fn (by omega)]
  · rw [up_nk (by omega), up_ne (by omega), up_ne (by omega)]
  · refine RCs_sf (RCs_fr h.2.1.1 ?_ ?_ ?_ ?_) ?_ ?_ ?_ ?_
    all_goals first | (intro j; unfold rwM; rw [zI_ne (by omega), zI_ne (by omega), zI_ne (by omega), zI_ne (by omega)]) | (rw [up_nk (by omega), up_ne (by omega), up_ne (by omega)]) | (rw [up_fn (by omega), up_fn (by omega), up_fn (by omega)])
  · refine RCw_sf (RCw_fr h.2.1.2.1 ?_ ?_ ?_ ?_) ?_ ?_ ?_
    all_goals first | (intro j; unfold rwM; rw [zI_ne (by omega), zI_ne (by omega), zI_ne (by omega), zI_ne (by omega)]) | (rw [up_nk (by omega), up_ne (by omega), up_ne (by omega)]) | (rw [up_fn (by omega), up_fn (by omega), up_fn (by omega)])
  · unfold rwM
    rw [zI_at, up_at]
  · rw [up_at] at hk
    unfold rwM
    by_cases hkn : k = (s 133 43).toNat
    · subst hkn
      simp [zI_pI, up_eq]
    · have := h.2.1.2.2.2 k (by omega)
      simp [zI_pI, up_eq, hkn]
      exact this
/-- one list is emptied -/
theorem RC_emp {M : ZMem} {s : ZSt} {l : Nat → Int64} (h : RC M s l) (hi : SI6 s) {p j : Nat} (hp : (p = 36 ∧ j = 38) ∨ (p = 40 ∧ j = 42) ∨ (p = 44 ∧ j = 43)) : RC (zpI M p 4 (ii 0)) (up s 133 j 0) l := by
  have h0 := hi.1
  unfold SIn at h0
  refine RC_rw h ⟨by omega, hi.2, by omega⟩ (fun q hq => ⟨fun j => zI_ne (by omega), fun j => rfl⟩) ⟨zI_nk (by omega), zI_nk (by omega), zI_nk (by omega)⟩ (fun q h1 h2 => up_fn h1) (fun i h1 h2 h3 => up_nk (by omega)) ⟨?_, ?_, ?_⟩
  · obtain ⟨a, b⟩ := h.2.1.1
    rcases hp with ⟨rfl, rfl⟩ | ⟨rfl, rfl⟩ | ⟨rfl, rfl⟩
    · exact ⟨rfl, fun k hk => by rw [up_at] at hk; omega⟩
    · exact ⟨a, b⟩
    · exact ⟨a, b⟩
  · obtain ⟨a, b⟩ := h.2.1.2.1
    rcases hp with ⟨rfl, rfl⟩ | ⟨rfl, rfl⟩ | ⟨rfl, rfl⟩
    · exact ⟨a, b⟩
    · exact ⟨rfl, fun k hk => by rw [up_at] at hk; omega⟩
    · exact ⟨a, b⟩
  · obtain ⟨a, b⟩ := h.2.1.2.2
    rcases hp with ⟨rfl, rfl⟩ | ⟨rfl, rfl⟩ | ⟨rfl, rfl⟩
    · exact ⟨a, b⟩
    · exact ⟨a, b⟩
    · exact ⟨rfl, fun k hk => by rw [up_at] at hk; omega⟩
theorem gL36 : (36, 0, ii 6) ∈ zCt := by decide +kernel
theorem gL40 : (40, 0, ii 10) ∈ zCt := by decide +kernel
theorem gL44 : (44, 0, ii 8) ∈ zCt := by decide +kernel
/-- see -/
def sp107 (s : ZSt) (x t c : Int) : Int × ZSt := if x ≠ -1 then (if (2 ≤ t ∧ t ≤ 60) ∧ 1 ≤ x ∧ x ≤ t - 1 then (if s 133 38 < 6 then (s 133 38 + 1, up (up (up (up s 159 (s 133 38).toNat x) 160 (s 133 38).toNat t) 161 (s 133 38).toNat c) 133 38 (s 133 38 + 1)) else (-4, s)) else (-2, s)) else (0, up s 133 38 0)
theorem lm1 : (-1 : Int32) = ii (-1) := rfl
theorem c55 {M : ZMem} {t x : Int} (ht : -2147483648 ≤ t ∧ t < 2147483648) (hx : -2147483648 ≤ x ∧ x < 2147483648) : f_55 M (ii t) (ii x) = some (if (2 ≤ t ∧ t ≤ 60) ∧ 1 ≤ x ∧ x ≤ t - 1 then 1 else 0) := by
  unfold f_55
  rw [show (2 : Int32) = ii 2 from rfl, show (60 : Int32) = ii 60 from rfl, c14i ht (by omega) (by omega), zb_some]
  by_cases h1 : 2 ≤ t ∧ t ≤ 60
  · rw [if_pos h1]
    show zb (f_14 M (ii x) (ii 1) (ii t - ii 1)) (fun x4 => if x4 = 0 then some 0 else some 1) = _
    rw [ii_sub, c14i hx (by omega) (by omega), zb_some]
    by_cases h2 : 1 ≤ x ∧ x ≤ t - 1
    · have h3 := And.intro h1 h2
      simp only [if_pos h2, if_pos h3]; rfl
    · have h3 : ¬ ((2 ≤ t ∧ t ≤ 60) ∧ 1 ≤ x ∧ x ≤ t - 1) := fun q => h2 q.2
      simp only [if_neg h2, if_neg h3]; rfl
  · have h3 : ¬ ((2 ≤ t ∧ t ≤ 60) ∧ 1 ≤ x ∧ x ≤ t - 1) := fun q => h1 q.1
    simp only [if_neg h1, if_neg h3]; rfl
theorem rw_up {M0 M : ZMem} (h : Up M0 M) {p n : Nat} {x y z v : Int32} (hp : p + 3 < 133) : Up M0 (rwM M p n x y z v) := (((h.pI (by omega)).pI (by omega)).pI (by omega)).pI (by omega)
theorem rw_ly {M : ZMem} (h : Ly M) {p n : Nat} {x y z v : Int32} : Ly (rwM M p n x y z v) := h.p.p.p.p
theorem m107 {M0 M : ZMem} {s : ZSt} {l : Nat → Int64} (h : CS M0 M s l) (hi : SI6 s) {x t c : Int} (hx : -2147483648 ≤ x ∧ x < 2147483648) (ht : -2147483648 ≤ t ∧ t < 2147483648) (hc : c = 0 ∨ c = 1) : CG M0 (f_107 M 20 (ii x) (ii t) (ii c)) (ii (sp107 s x t c).1) (sp107 s x t c).2 l := by
  have hn := hi.1
  unfold SIn at hn
  obtain ⟨hL, hU, hR⟩ := id h
  unfold f_107 sp107
  rw [if_pos (zok_ly hL k20), lm1]
  refine CG_ite (iin hx (by omega)) (fun c1 => ?_) fun c1 => ?_
  · rw [if_pos c1]
    refine CG_eq (c55 ht hx) (CG_ite (tsn _) (fun c2 => ?_) fun c2 => ?_)
    · rw [if_pos c2]
      refine CG_eq (gnow hL) (CG_eq rfl (CG_eq (gseen hL) ?_))
      have key : CG M0 (f_107_47 M (ii c) (ii t) (ii x) (some 36)) (ii (if s 133 38 < 6 then (s 133 38 + 1, up (up (up (up s 159 (s 133 38).toNat x) 160 (s 133 38).toNat t) 161 (s 133 38).toNat c) 133 38 (s 133 38 + 1)) else (-4, s)).1) (if s 133 38 < 6 then (s 133 38 + 1, up (up (up (up s 159 (s 133 38).toNat x) 160 (s 133 38).toNat t) 161 (s 133 38).toNat c) 133 38 (s 133 38 + 1)) else (-4, s)).2 l := by
        unfold f_107_47
        rw [zb_some, c108 hL (.inl ⟨rfl, rfl⟩) (hR.1.2.2 _ gL36) hR.2.1.1.1 (by omega)]
        by_cases c4 : s 133 38 < 6
        · rw [if_pos c4, if_pos (by omega), zbd_some]
          exact CG_ret ⟨rw_ly hL, rw_up hU (by omega), RCs_add hR hi⟩
        · rw [if_neg c4, if_neg (by omega), zbd_some]
          exact CG_ret h
      rcases hc with rfl | rfl
      · rw [if_pos (show ii 0 = (0 : Int32) from rfl)]; exact key
      · rw [if_neg (show ¬ ii 1 = (0 : Int32) by decide)]; exact key
    · rw [if_neg c2]; exact CG_ret h
  · rw [if_neg c1]
    refine CG_eq (gnow hL) (CG_eq rfl (CG_eq (gseen hL) (CG_eq rfl (CG_eq (pI hL k36 (by decide) (by decide) (by decide)) ?_))))
    exact CG_ret ⟨hL.p, hU.pI (by omega), RC_emp hR hi (.inl ⟨rfl, rfl⟩)⟩
theorem wB {M0 M : ZMem} {s : ZSt} (h : MS M0 M s) {P n : Nat} {b x : Int} (hP : 133 < P ∧ P < 184 ∧ zSh.getD P (0, 0) = (22, n)) (hb : 0 ≤ b ∧ b < n) (hn : n ≤ 1000) (hx : x = 0 ∨ x = 1) : MV M0 (zsb M P (ii b) (ii x)) (up s P b.toNat x) := by
  obtain ⟨h1, h2, h3⟩ := hP
  have hi : (ii b).toInt = b := ii_toInt (by omega)
  rw [zsb_ly h.1 (by omega) h3 (.inr rfl) (by omega), hi, if_neg (by omega)]
  rw [show vp_nar .boolean (ii x) = ii x by rcases hx with rfl | rfl <;> rfl]
  exact ⟨_, rfl, h.1.p, h.2.1.pI (by omega), RM_up h.2.2 _ _ _⟩
/-- at the place that a field names -/
theorem wK {α : Type} {M0 M : ZMem} {s s' : ZSt} {v : α} (h : MS M0 M s) {i j P m : Nat} {n x : Int} {F : ZMem → Option (α × ZMem)} (hj : zfk 12 j 2 = true) (hz : zRm 133 j = some P) (hP : zrw P m = true) (hi : zfk 12 i 0 = true) (hzi : zst 133 i = true) (hn : 0 ≤ n ∧ n < m) (hm : m ≤ 1000) (e : s 133 i = n) (next : ∀ M1, MS M0 M1 (up s P n.toNat x) → MG M0 (F M1) v s') : MG M0 (zb (zgr M 12 j 133) fun r => zb (zgi M 12 i 133) fun x0 => zb r fun q => zb (zsa M 20 q x0 (ii x)) F) v s' :=
  MG_eq (rP h hj hz) (MG_eq (rFx h hi hzi e) (MG_eq rfl (MG_bv (wA h hP hn hm) next)))
/-- a field one more, and answered -/
theorem wI {M0 M : ZMem} {s : ZSt} (h : MS M0 M s) {i : Nat} {n : Int} (hi : zfk 12 i 0 = true) (hf : zfin 12 i = false) (ht : zty 12 i = .int) (hzi : zst 133 i = true) (e : s 133 i = n) : MG M0 (zb (zgi M 12 i 133) fun x => zb (zpf M 12 i 133 (.int (x + 1)) false) fun M1 => zb (zgi M1 12 i 133) fun y => some (y, M1)) (ii (n + 1)) (up s 133 i (n + 1)) := by
  refine MG_eq (rFx h hi hzi e) ?_
  rw [l1, ii_add]
  refine MG_bv (wF h hi hf ht) fun M1 h1 => MG_eq (rFx h1 hi hzi (x := n + 1) up_at) (MG_ret h1)
theorem m207 {M0 M : ZMem} {s : ZSt} (h : MS M0 M s) (hi : SIn s) {x t c : Int} (hx : -2147483648 ≤ x ∧ x < 2147483648) (ht : -2147483648 ≤ t ∧ t < 2147483648) (hc : c = 0 ∨ c = 1) : MG M0 (f_207 M 133 (ii x) (ii t) (ii c)) (ii (sp107 s x t c).1) (sp107 s x t c).2 := by
  have hn := hi
  unfold SIn at hn
  unfold f_207 sp107
  rw [if_pos (zok_ly h.1 k133), lm1]
  refine MG_ite (iin hx (by omega)) (fun c1 => ?_) fun c1 => ?_
  · rw [if_pos c1]
    refine MG_eq (c147i h.1 (b := 2) (c := 60) ht (by omega) (by omega)) (MG_ite (tst _) (fun c2 => ?_) fun c2 => ?_)
    · rw [if_neg (fun q => c2 q.1)]; exact MG_ret h
    · have c2 := Decidable.not_not.mp c2
      rw [l1, ii_sub]
      refine MG_eq (c147i h.1 hx (by omega) (by omega)) (MG_ite (tsn _) (fun c3 => ?_) fun c3 => ?_)
      · rw [if_pos (And.intro c2 c3)]
        refine MG_eq (rF h (by decide) rfl) (MG_ite (iin (b := 6) (by omega) (by omega)) (fun c4 => ?_) fun c4 => ?_)
        · rw [if_pos (show s 133 38 < 6 by omega)]
          refine wK h (by decide) (P := 159) (m := 6) (by decide +kernel) (by decide) (by decide) rfl (by omega) (by omega) rfl fun M1 h1 => ?_
          refine wK h1 (by decide) (P := 160) (m := 6) (by decide +kernel) (by decide) (by decide) rfl (n := s 133 38) (by omega) (by omega) rfl fun M2 h2 => ?_
          refine MG_eq (rP h2 (by decide) (P := 161) (by decide +kernel)) (MG_eq (rFx h2 (by decide) rfl (x := s 133 38) rfl) (MG_eq rfl (MG_bv (wB h2 (n := 6) (by decide) (by omega) (by omega) hc) fun M3 h3 => ?_)))
          exact wI h3 (by decide) (by decide) (by decide) rfl rfl
        · rw [if_neg (by omega)]; exact MG_ret h
      · rw [if_neg (fun q => c3 q.2)]; exact MG_ret h
  · rw [if_neg c1]
    exact MG_bv (wF (x := 0) h (by decide) (by decide) (by decide)) fun M1 h1 => MG_ret h1
/-- week -/
def sp116 (s : ZSt) (w b : Int) : Int × ZSt := if w ≠ -1 then (if (0 ≤ w ∧ w ≤ 2) ∧ (w = 0 ∨ 0 ≤ b ∧ b < s 133 0) then (if s 133 42 < 10 then (s 133 42 + 1, up (up (up s 162 (s 133 42).toNat w) 163 (s 133 42).toNat (if w = 0 then 0 else b)) 133 42 (s 133 42 + 1)) else (-4, s)) else (-1, s)) else (0, up s 133 42 0)
theorem m116 {M0 M : ZMem} {s : ZSt} {l : Nat → Int64} (h : CS M0 M s l) (hi : SI6 s) {w b : Int} (hw : -2147483648 ≤ w ∧ w < 2147483648) (hb : -2147483648 ≤ b ∧ b < 2147483648) : CG M0 (f_116 M 20 (ii w) (ii b)) (ii (sp116 s w b).1) (sp116 s w b).2 l := by
  have hn := hi.1
  unfold SIn at hn
  obtain ⟨hL, hU, hR⟩ := id h
  unfold f_116 sp116
  rw [if_pos (zok_ly hL k20), lm1]
  refine CG_ite (iin hw (by omega)) (fun c1 => ?_) fun c1 => ?_
  · rw [if_pos c1]
    have key : CG M0 (f_116_49 M 20 (ii w) (ii b)) (ii (if s 133 42 < 10 then (s 133 42 + 1, up (up (up s 162 (s 133 42).toNat w) 163 (s 133 42).toNat (if w = 0 then 0 else b)) 133 42 (s 133 42 + 1)) else (-4, s)).1) (if s 133 42 < 10 then (s 133 42 + 1, up (up (up s 162 (s 133 42).toNat w) 163 (s 133 42).toNat (if w = 0 then 0 else b)) 133 42 (s 133 42 + 1)) else (-4, s)).2 l := by
      unfold f_116_49
      refine CG_eq (gnow hL) (CG_eq rfl (CG_eq (gweek hL) (CG_eq rfl ?_)))
      rw [l0, c108 hL (.inr (.inl ⟨rfl, rfl⟩)) (hR.1.2.2 _ gL40) hR.2.1.2.1.1 (by omega)]
      by_cases c4 : s 133 42 < 10
      · rw [if_pos c4, if_pos (by omega), zbd_some]
        exact CG_ret ⟨rw_ly hL, rw_up hU (by omega), RCw_add hR hi (fun q => by rw [if_neg (by omega)])⟩
      · rw [if_neg c4, if_neg (by omega), zbd_some]
        exact CG_ret h
    refine CG_eq (c14i (b := 0) (c := 2) hw (by omega) (by omega)) (CG_ite (tsn _) (fun c2 => ?_) fun c2 => ?_)
    · refine CG_ite (iie (b := 0) hw (by omega)) (fun c3 => ?_) fun c3 => ?_
      · rw [if_pos (And.intro c2 (Or.inl c3))]; exact key
      · refine CG_eq (gnow hL) (CG_eq rfl (CG_eq (gyd hL) (CG_eq rfl (CG_eq (c19 hL (by decide) hR.1.1.1 (by omega) hb) ?_))))
        by_cases c4 : 0 ≤ b ∧ b < s 133 0
        · rw [fnd_some c4, zcs_so _ _ _ (by omega), if_pos (And.intro c2 (Or.inr c4))]; exact key
        · rw [fnd_none c4, zcs_no, if_neg (fun q => q.2.elim c3 c4)]; exact CG_ret h
    · rw [if_neg (fun q => c2 q.1)]; exact CG_ret h
  · rw [if_neg c1]
    refine CG_eq (gnow hL) (CG_eq rfl (CG_eq (gweek hL) (CG_eq rfl (CG_eq (pI hL k40 (by decide) (by decide) (by decide)) ?_))))
    exact CG_ret ⟨hL.p, hU.pI (by omega), RC_emp hR hi (.inr (.inl ⟨rfl, rfl⟩))⟩
theorem m215 {M0 M : ZMem} {s : ZSt} (h : MS M0 M s) (hi : SIn s) {w b : Int} (hw : -2147483648 ≤ w ∧ w < 2147483648) (hb : -2147483648 ≤ b ∧ b < 2147483648) : MG M0 (f_215 M 133 (ii w) (ii b)) (ii (sp116 s w b).1) (sp116 s w b).2 := by
  have hn := hi
  unfold SIn at hn
  unfold f_215 sp116
  rw [if_pos (zok_ly h.1 k133), lm1]
  refine MG_ite (iin hw (by omega)) (fun c1 => ?_) fun c1 => ?_
  · rw [if_pos c1]
    have key : (0 ≤ w ∧ w ≤ 2) → MG M0 (f_215_36 M 133 (ii w) (ii b)) (ii (if s 133 42 < 10 then (s 133 42 + 1, up (up (up s 162 (s 133 42).toNat w) 163 (s 133 42).toNat (if w = 0 then 0 else b)) 133 42 (s 133 42 + 1)) else (-4, s)).1) (if s 133 42 < 10 then (s 133 42 + 1, up (up (up s 162 (s 133 42).toNat w) 163 (s 133 42).toNat (if w = 0 then 0 else b)) 133 42 (s 133 42 + 1)) else (-4, s)).2 := by
      intro hw2
      unfold f_215_36
      refine MG_eq (rF h (by decide) rfl) (MG_ite (iin (b := 10) (by omega) (by omega)) (fun c4 => ?_) fun c4 => ?_)
      · rw [if_pos (show s 133 42 < 10 by omega)]
        refine wK h (by decide) (P := 162) (m := 10) (by decide +kernel) (by decide) (by decide) rfl (by omega) (by omega) rfl fun M1 h1 => ?_
        refine MG_eq (rP h1 (by decide) (P := 163) (by decide +kernel)) (MG_eq (rFx h1 (by decide) rfl (x := s 133 42) rfl) ?_)
        have fin : ∀ y : Int, y = (if w = 0 then 0 else b) → MG M0 (f_215_75 M1 133 (ii y) (ii (s 133 42)) (some 163)) (ii (s 133 42 + 1)) (up (up (up s 162 (s 133 42).toNat w) 163 (s 133 42).toNat (if w = 0 then 0 else b)) 133 42 (s 133 42 + 1)) := by
          intro y hy
          rw [← hy]
          unfold f_215_75
          refine MG_eq rfl (MG_bv (wA (n := 10) h1 (by decide) (by omega) (by omega)) fun M3 h3 => ?_)
          exact wI h3 (by decide) (by decide) (by decide) rfl rfl
        refine MG_ite (P := w ≤ 0) (by rw [l0, ii_le hw (by omega)]) (fun c5 => ?_) fun c5 => ?_
        · exact fin 0 (by rw [if_pos (by omega)])
        · exact fin b (by rw [if_neg (by omega)])
      · rw [if_neg (by omega)]; exact MG_ret h
    refine MG_eq (c147i h.1 (b := 0) (c := 2) hw (by omega) (by omega)) (MG_ite (tst _) (fun c2 => ?_) fun c2 => ?_)
    · rw [if_neg (fun q => c2 q.1)]; exact MG_ret h
    · have c2 := Decidable.not_not.mp c2
      refine MG_ite (P := w ≤ 0) (by rw [l0, ii_le hw (by omega)]) (fun c3 => ?_) fun c3 => ?_
      · rw [if_pos (And.intro c2 (Or.inl (show w = 0 by omega)))]; exact key c2
      · refine MG_eq (c149 h.1 h.2.2 hi hb) (MG_ite (tsn _) (fun c4 => ?_) fun c4 => ?_)
        · rw [if_pos (And.intro c2 (Or.inr c4))]; exact key c2
        · rw [if_neg (fun q => q.2.elim (fun q => by omega) c4)]; exact MG_ret h
  · rw [if_neg c1]
    exact MG_bv (wF (x := 0) h (by decide) (by decide) (by decide)) fun M1 h1 => MG_ret h1
/-- book -/
def sp120 (s : ZSt) (b n : Int) : Int × ZSt := if b ≠ -1 then (if 0 ≤ b ∧ b < s 133 0 then (if 0 ≤ n ∧ n ≤ 60 then (if s 133 43 < 8 then (s 133 43 + 1, up (up (up s 164 (s 133 43).toNat b) 165 (s 133 43).toNat n) 133 43 (s 133 43 + 1)) else (-4, s)) else (-2, s)) else (-1, s)) else (0, up s 133 43 0)
theorem m120 {M0 M : ZMem} {s : ZSt} {l : Nat → Int64} (h : CS M0 M s l) (hi : SI6 s) {b n : Int} (hb : -2147483648 ≤ b ∧ b < 2147483648) (hw : -2147483648 ≤ n ∧ n < 2147483648) : CG M0 (f_120 M 20 (ii b) (ii n)) (ii (sp120 s b n).1) (sp120 s b n).2 l := by
  have hn := hi.1
  unfold SIn at hn
  obtain ⟨hL, hU, hR⟩ := id h
  unfold f_120 sp120
  rw [if_pos (zok_ly hL k20), lm1]
  refine CG_ite (iin hb (by omega)) (fun c1 => ?_) fun c1 => ?_
  · rw [if_pos c1]
    refine CG_eq (gnow hL) (CG_eq rfl (CG_eq (gyd hL) (CG_eq rfl (CG_eq (c19 hL (by decide) hR.1.1.1 (by omega) hb) ?_))))
    by_cases c4 : 0 ≤ b ∧ b < s 133 0
    · rw [fnd_some c4, zcs_so _ _ _ (by omega), if_pos c4]
      refine CG_eq (c14i (b := 0) (c := 60) hw (by omega) (by omega)) (CG_ite (tsn _) (fun c2 => ?_) fun c2 => ?_)
      · rw [if_pos c2]
        refine CG_eq (gnow hL) (CG_eq rfl (CG_eq (gbook hL) (CG_eq rfl ?_)))
        rw [l0, c108 hL (.inr (.inr ⟨rfl, rfl⟩)) (hR.1.2.2 _ gL44) hR.2.1.2.2.1 (by omega)]
        by_cases c5 : s 133 43 < 8
        · rw [if_pos c5, if_pos (by omega), zbd_some]
          exact CG_ret ⟨rw_ly hL, rw_up hU (by omega), RCk_add hR hi⟩
        · rw [if_neg c5, if_neg (by omega), zbd_some]
          exact CG_ret h
      · rw [if_neg c2]; exact CG_ret h
    · rw [fnd_none c4, zcs_no, if_neg c4]; exact CG_ret h
  · rw [if_neg c1]
    refine CG_eq (gnow hL) (CG_eq rfl (CG_eq (gbook hL) (CG_eq rfl (CG_eq (pI hL k44 (by decide) (by decide) (by decide)) ?_))))
    exact CG_ret ⟨hL.p, hU.pI (by omega), RC_emp hR hi (.inr (.inr ⟨rfl, rfl⟩))⟩
theorem m217 {M0 M : ZMem} {s : ZSt} (h : MS M0 M s) (hi : SIn s) {b n : Int} (hb : -2147483648 ≤ b ∧ b < 2147483648) (hw : -2147483648 ≤ n ∧ n < 2147483648) : MG M0 (f_217 M 133 (ii b) (ii n)) (ii (sp120 s b n).1) (sp120 s b n).2 := by
  have hn := hi
  unfold SIn at hn
  unfold f_217 sp120
  rw [if_pos (zok_ly h.1 k133), lm1]
  refine MG_ite (iin hb (by omega)) (fun c1 => ?_) fun c1 => ?_
  · rw [if_pos c1]
    refine MG_eq (c149 h.1 h.2.2 hi hb) (MG_ite (tsn _) (fun c4 => ?_) fun c4 => ?_)
    · rw [if_pos c4]
      refine MG_eq (c147i h.1 (b := 0) (c := 60) hw (by omega) (by omega)) (MG_ite (tsn _) (fun c2 => ?_) fun c2 => ?_)
      · rw [if_pos c2]
        refine MG_eq (rF h (by decide) rfl) (MG_ite (iin (b := 8) (by omega) (by omega)) (fun c5 => ?_) fun c5 => ?_)
        · rw [if_pos (show s 133 43 < 8 by omega)]
          refine wK h (by decide) (P := 164) (m := 8) (by decide +kernel) (by decide) (by decide) rfl (by omega) (by omega) rfl fun M1 h1 => ?_
          refine wK h1 (by decide) (P := 165) (m := 8) (by decide +kernel) (by decide) (by decide) rfl (n := s 133 43) (by omega) (by omega) rfl fun M2 h2 => ?_
          exact wI h2 (by decide) (by decide) (by decide) rfl rfl
        · rw [if_neg (by omega)]; exact MG_ret h
      · rw [if_neg c2]; exact MG_ret h
    · rw [if_neg c4]; exact MG_ret h
  · rw [if_neg c1]
    exact MG_bv (wF (x := 0) h (by decide) (by decide) (by decide)) fun M1 h1 => MG_ret h1
