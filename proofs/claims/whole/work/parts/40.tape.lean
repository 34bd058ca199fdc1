/-! TAPE -/
theorem c140 {p : Nat} {z0 : Int64} (hp : 20 ≤ p ∧ p < 184) (hs : zSh.getD p (0, 0) = (23, 60)) : ∀ (z k : Nat) (N : ZMem), Ly N → 60 < z + k → k ≤ 60 → ∃ M', f_140_6 z N (some p) z0 (ii k) (ii (60 : Nat)) = some M' ∧ M'.1 = N.1 ∧ zI M' = zI N ∧ zR M' = zR N ∧ ∀ a b, zL M' a b = if a = p ∧ k ≤ b ∧ b < 60 then z0 else zL N a b := by
  intro z
  induction z with
  | zero => intro k N hN h1 h2; omega
  | succ z ih =>
    intro k N hN h1 h2
    rw [f_140_6]
    by_cases c : k = 60
    · rw [if_pos (by rw [ii_le (by omega) (by omega)]; omega)]
      refine ⟨N, rfl, rfl, rfl, rfl, fun a b => ?_⟩
      rw [if_neg (by omega)]
    · rw [if_neg (by rw [ii_le (by omega) (by omega)]; omega), zb_some, zsaL_ly hN hp hs (by rw [ii_toInt (by omega)]; omega), zb_some, ii_toInt (by omega), Int.toNat_natCast, show (1 : Int32) = ii 1 from rfl, ii_add, show ((k : Int) + 1) = ((k + 1 : Nat) : Int) by omega]
      obtain ⟨M', e, e1, e2, e3, e4⟩ := ih (k + 1) (zpL N p k z0) ((Ly_pL _ _ _ _).mpr hN) (by omega) (by omega)
      refine ⟨M', e, e1, e2, e3, fun a b => ?_⟩
      rw [e4 a b, zL_pL]
      by_cases q : a = p ∧ b = k
      · rw [if_neg (by omega), if_pos q, if_pos (by omega)]
      · rw [if_neg q]
        by_cases q2 : a = p ∧ k + 1 ≤ b ∧ b < 60
        · rw [if_pos q2, if_pos (by omega)]
        · rw [if_neg q2, if_neg (by omega)]
theorem Ly_eq {M M' : ZMem} (h : Ly M) (e : M'.1 = M.1) (er : zR M' = zR M) : Ly M' := by
  obtain ⟨⟨h1, h2⟩, h3, h4⟩ := h
  unfold zn at h1; unfold zc at h2; unfold zsh at h3
  refine ⟨⟨?_, ?_⟩, ?_, ?_⟩
  · unfold zn; rw [e]; exact h1
  · unfold zc; rw [e]; exact h2
  · unfold zsh; rw [e]; exact h3
  · rw [er]; exact h4
/-- tape: the new state and the new longs -/
def sp137 (s : ZSt) (l : Nat → Int64) (t x n : Int) : Int × ZSt × (Nat → Int64) :=
  if 0 ≤ t ∧ t ≤ 5 then
    (if -1 ≤ x ∧ x ≤ 4 then
      (if 0 ≤ x ∧ 60 < n then (-2, s, l)
       else if 0 ≤ x ∧ n < 0 then (-14, s, l)
       else (1, up (up s 180 t.toNat x) 181 t.toNat (if x < 0 then 0 else n), fun j => if 60 * t.toNat ≤ j ∧ j < 60 * t.toNat + 60 then 0 else l j))
     else (-2, s, l))
  else (-1, s, l)
theorem m235a {t : Int} (ht : 0 ≤ t ∧ t ≤ 5) : ∀ (z k : Nat) (N : ZMem), Ly N → 60 < z + k → k ≤ 60 → ∃ M', f_235_69 z N 133 (ii t) (ii k) = some (1, M') ∧ M'.1 = N.1 ∧ zI M' = zI N ∧ zR M' = zR N ∧ ∀ a b, zL M' a b = if a = 182 ∧ 60 * t.toNat + k ≤ b ∧ b < 60 * t.toNat + 60 then 0 else zL N a b := by
  intro z
  induction z with
  | zero => intro k N hN h1 h2; omega
  | succ z ih =>
    intro k N hN h1 h2
    rw [f_235_69, show (60 : Int32) = ii 60 from rfl]
    by_cases c : k = 60
    · rw [if_pos (by rw [ii_le (by omega) (by omega)]; omega)]
      refine ⟨N, rfl, rfl, rfl, rfl, fun a b => ?_⟩
      rw [if_neg (by omega)]
    · rw [if_neg (by rw [ii_le (by omega) (by omega)]; omega), rPm hN (j := 73) (by decide) (show zRm 133 73 = some 182 by decide +kernel), zb_some, zb_some, ii_mul, ii_add, zsaL_ly hN (n := 360) (p := 182) (by omega) (by decide) (by rw [ii_toInt (by omega)]; omega), zb_some, ii_toInt (by omega), show (1 : Int32) = ii 1 from rfl, ii_add, show ((k : Int) + 1) = ((k + 1 : Nat) : Int) by omega]
      obtain ⟨M', e, e1, e2, e3, e4⟩ := ih (k + 1) (zpL N 182 (60 * t + k).toNat 0) ((Ly_pL _ _ _ _).mpr hN) (by omega) (by omega)
      refine ⟨M', e, e1, e2, e3, fun a b => ?_⟩
      rw [e4 a b, zL_pL]
      by_cases q : a = 182 ∧ b = (60 * t + k).toNat
      · rw [if_neg (by omega), if_pos q, if_pos (by omega)]
      · rw [if_neg q]
        by_cases q2 : a = 182 ∧ 60 * t.toNat + (k + 1) ≤ b ∧ b < 60 * t.toNat + 60
        · rw [if_pos q2, if_pos (by omega)]
        · rw [if_neg q2, if_neg (by omega)]
theorem up2 {s : ZSt} {t : Nat} {x n : Int} : (up (up s 180 t x) 181 t n) 180 t = x ∧ (up (up s 180 t x) 181 t n) 181 t = n ∧ (∀ q, q ≠ 180 → q ≠ 181 → (up (up s 180 t x) 181 t n) q = s q) ∧ ∀ u, u ≠ t → (up (up s 180 t x) 181 t n) 180 u = s 180 u ∧ (up (up s 180 t x) 181 t n) 181 u = s 181 u := by
  refine ⟨?_, up_at, fun q h1 h2 => (up_fn h2).trans (up_fn h1), fun u hu => ⟨?_, ?_⟩⟩
  · rw [up_ne (by omega), up_at]
  · rw [up_nk hu, up_nk hu]
  · rw [up_nk hu, up_ne (by omega)]
theorem m137 {M0 M : ZMem} {s : ZSt} {l : Nat → Int64} (h : CS M0 M s l) (hi : SI6 s) {t x n : Int} (ht : -2147483648 ≤ t ∧ t < 2147483648) (hx : -2147483648 ≤ x ∧ x < 2147483648) (hnr : -2147483648 ≤ n ∧ n < 2147483648) : CG M0 (f_137 M 20 (ii t) (ii x) (ii n)) (ii (sp137 s l t x n).1) (sp137 s l t x n).2.1 (sp137 s l t x n).2.2 := by
  have hn := hi.1
  unfold SIn at hn
  obtain ⟨hL, hU, hR⟩ := id h
  have l60 : (60 : Int32) = ii 60 := rfl
  unfold f_137 sp137
  rw [if_pos (zok_ly hL k20), lm1]
  refine CG_eq (c14i (b := 0) (c := 5) ht (by omega) (by omega)) (CG_ite (tsn _) (fun c1 => ?_) fun c1 => ?_)
  · rw [if_pos c1]
    obtain ⟨d1, d2, d3⟩ := kT t.toNat (by omega)
    refine CG_ite (iin hx (by omega)) (fun c2 => ?_) fun c2 => ?_
    · refine CG_eq (c14i (b := 0) (c := 4) hx (by omega) (by omega)) (CG_ite (tst _) (fun c3 => ?_) fun c3 => ?_)
      · rw [if_neg (show ¬ (-1 ≤ x ∧ x ≤ 4) by omega)]; exact CG_ret h
      · have c3 := Decidable.not_not.mp c3
        rw [if_pos (show -1 ≤ x ∧ x ≤ 4 by omega)]
        refine CG_ite (P := n ≤ 60) (by rw [l60, ii_le hnr (by omega)]) (fun c4 => ?_) fun c4 => ?_
        · rw [if_neg (show ¬ (0 ≤ x ∧ 60 < n) by omega)]
          refine CG_ite (P := 0 ≤ n) (by rw [l0, ii_le (by omega) hnr]) (fun c5 => ?_) fun c5 => ?_
          · rw [if_neg (show ¬ (0 ≤ x ∧ n < 0) by omega), if_neg (show ¬ x < 0 by omega)]
            refine CG_eq (gtps hL) (CG_eq rfl (CG_eq (gtp hL c1) (CG_eq rfl ?_)))
            obtain ⟨M', e, e1, e2, e3, e4⟩ := c140 (z0 := 0) (by omega) d3 zF 0 (zpI (zpI M (121 + 2 * t.toNat) 1 (ii x)) (121 + 2 * t.toNat) 2 (ii n)) hL.p.p (by unfold zF; omega) (by omega)
            have hf : f_139 M (121 + 2 * t.toNat) (ii x) (ii n) = some M' := by
              unfold f_139
              rw [if_pos (zok_ly hL d1), pI hL d1 (by decide) (by decide) (by decide), zb_some, pI hL.p d1 (by decide) (by decide) (by decide), zb_some, gR hL.p.p d1 (by decide) d2, zb_some]
              unfold f_140
              rw [zb_some, zlen_ly hL.p.p (by omega) d3 (by omega), zb_some]
              have e' := e
              rw [show ((0 : Nat) : Int) = 0 from rfl, ← l0] at e'
              rw [e', zb_some]
            refine CG_eq hf (CG_ret ⟨Ly_eq hL.p.p e1 e3, fun p hp => ⟨fun j => ?_, fun j => ?_⟩, ?_⟩)
            · rw [e2, zI_ne (by omega), zI_ne (by omega)]; exact (hU p hp).1 j
            · rw [e4, if_neg (by omega)]; exact (hU p hp).2 j
            · obtain ⟨u1, u2, u3, u4⟩ := up2 (s := s) (t := t.toNat) (x := x) (n := n)
              refine RC_tp hR ⟨by omega, hi.2, by omega⟩ (fun p hp j => ?_) u3 ?_
              · rw [e2, zI_ne (by omega), zI_ne (by omega)]
              · intro a ha
                obtain ⟨w1, w2, w3⟩ := hR.2.2.2.2.2.2 a ha
                by_cases q : a = t.toNat
                · subst q
                  refine ⟨?_, ?_, fun hz j hj => ?_⟩
                  · rw [e2, zI_nk (by omega), zI_at]; exact congrArg ii u1.symm
                  · rw [e2, zI_at]; exact congrArg ii u2.symm
                  · rw [e4, if_pos (by omega)]
                    show _ = (if 60 * t.toNat ≤ 60 * t.toNat + j ∧ 60 * t.toNat + j < 60 * t.toNat + 60 then 0 else l (60 * t.toNat + j))
                    rw [if_pos (by omega)]
                · refine ⟨?_, ?_, fun hz j hj => ?_⟩
                  · rw [e2, zI_ne (by omega), zI_ne (by omega), w1]; exact congrArg ii (u4 a q).1.symm
                  · rw [e2, zI_ne (by omega), zI_ne (by omega), w2]; exact congrArg ii (u4 a q).2.symm
                  · rw [e4, if_neg (by omega)]
                    show _ = (if 60 * t.toNat ≤ 60 * a + j ∧ 60 * a + j < 60 * t.toNat + 60 then 0 else l (60 * a + j))
                    rw [if_neg (by omega)]
                    exact w3 (by rw [← (u4 a q).1]; exact hz) j hj
          · rw [if_pos (show 0 ≤ x ∧ n < 0 by omega)]; exact CG_ret h
        · rw [if_pos (show 0 ≤ x ∧ 60 < n by omega)]; exact CG_ret h
    · have c2' : x = -1 := Decidable.not_not.mp c2
      subst c2'
      rw [if_pos (show (-1 : Int) ≤ -1 ∧ (-1 : Int) ≤ 4 by omega), if_neg (show ¬ (0 ≤ (-1 : Int) ∧ 60 < n) by omega), if_neg (show ¬ (0 ≤ (-1 : Int) ∧ n < 0) by omega), if_pos (show (-1 : Int) < 0 by omega)]
      refine CG_eq (gtps hL) (CG_eq rfl (CG_eq (gtp hL c1) (CG_eq rfl ?_)))
      have hf : f_138 M (121 + 2 * t.toNat) = some (zpI (zpI M (121 + 2 * t.toNat) 1 (ii (-1))) (121 + 2 * t.toNat) 2 (ii 0)) := by
        unfold f_138
        rw [if_pos (zok_ly hL d1), pI hL d1 (by decide) (by decide) (by decide), zb_some, pI hL.p d1 (by decide) (by decide) (by decide), zb_some]
        rfl
      refine CG_eq hf (CG_ret ⟨hL.p.p, (hU.pI (by omega)).pI (by omega), ?_⟩)
      obtain ⟨u1, u2, u3, u4⟩ := up2 (s := s) (t := t.toNat) (x := -1) (n := 0)
      refine RC_tp hR ⟨by omega, hi.2, by omega⟩ (fun p hp j => ?_) u3 ?_
      · rw [zI_ne (by omega), zI_ne (by omega)]
      · intro a ha
        obtain ⟨w1, w2, w3⟩ := hR.2.2.2.2.2.2 a ha
        by_cases q : a = t.toNat
        · subst q
          refine ⟨?_, ?_, fun hz j hj => ?_⟩
          · rw [zI_nk (by omega), zI_at]; exact congrArg ii u1.symm
          · rw [zI_at]; exact congrArg ii u2.symm
          · have hz' : (0 : Int) ≤ -1 := by rw [← u1]; exact hz
            omega
        · refine ⟨?_, ?_, fun hz j hj => ?_⟩
          · rw [zI_ne (by omega), zI_ne (by omega), w1]; exact congrArg ii (u4 a q).1.symm
          · rw [zI_ne (by omega), zI_ne (by omega), w2]; exact congrArg ii (u4 a q).2.symm
          · show _ = (if 60 * t.toNat ≤ 60 * a + j ∧ 60 * a + j < 60 * t.toNat + 60 then 0 else l (60 * a + j))
            rw [if_neg (by omega)]
            exact w3 (by rw [← (u4 a q).1]; exact hz) j hj
  · rw [if_neg c1]; exact CG_ret h
theorem m235 {M : ZMem} {s : ZSt} {l : Nat → Int64} (h : Ly M) (hm : RM M s) (hl : RML M l) {t x n : Int} (ht : -2147483648 ≤ t ∧ t < 2147483648) (hx : -2147483648 ≤ x ∧ x < 2147483648) (hnr : -2147483648 ≤ n ∧ n < 2147483648) : TG M (f_235 M 133 (ii t) (ii x) (ii n)) (ii (sp137 s l t x n).1) (sp137 s l t x n).2.1 (sp137 s l t x n).2.2 := by
  have ret : ∀ v : Int32, TG M (some (v, M)) v s l := fun v => ⟨M, rfl, h, fun p hp => ⟨fun j => rfl, fun j => rfl, fun j => rfl⟩, hm, hl⟩
  have l0' : (0 : Int32) = ii 0 := rfl
  have l60 : (60 : Int32) = ii 60 := rfl
  have n1 : ¬ (1 : Int32) = ii 0 := by decide
  have n0 : ¬ ¬ ii 0 = ii 0 := fun q => q rfl
  unfold f_235 sp137
  rw [if_pos (zok_ly h k133), c220 h ht, zb_some, show (-1 : Int32) = ii (-1) from rfl, show (4 : Int32) = ii 4 from rfl, c147i h hx (by omega) (by omega), zb_some]
  by_cases c1 : 0 ≤ t ∧ t ≤ 5
  · simp only [if_pos c1, l0', if_pos n1]
    by_cases c2 : -1 ≤ x ∧ x ≤ 4
    · simp only [if_pos c2, if_neg n1]
      have core : (x < 0 ∨ (0 ≤ n ∧ n ≤ 60)) → TG M (f_235_44 M 133 (ii t) (ii x) (ii n)) (ii 1) (up (up s 180 t.toNat x) 181 t.toNat (if x < 0 then 0 else n)) (fun j => if 60 * t.toNat ≤ j ∧ j < 60 * t.toNat + 60 then 0 else l j) := by
        intro hxn
        have last : ∀ y : Int, y = (if x < 0 then 0 else n) → TG M (f_235_65 (zpI M 180 t.toNat (ii x)) 133 (ii t) (ii y) (ii t) (some 181)) (ii 1) (up (up s 180 t.toNat x) 181 t.toNat (if x < 0 then 0 else n)) (fun j => if 60 * t.toNat ≤ j ∧ j < 60 * t.toNat + 60 then 0 else l j) := by
          intro y hy
          rw [← hy]
          unfold f_235_65
          rw [zb_some, zsa_ly h.p (n := 6) (p := 181) (by omega) (by decide) (by rw [ii_toInt ht]; omega), zb_some, ii_toInt ht]
          obtain ⟨M', e, e1, e2, e3, e4⟩ := m235a c1 zF 0 (zpI (zpI M 180 t.toNat (ii x)) 181 t.toNat (ii y)) h.p.p (by unfold zF; omega) (by omega)
          rw [show ((0 : Nat) : Int) = 0 from rfl, ← l0] at e
          refine ⟨M', e, Ly_eq h.p.p e1 e3, fun p hp => ⟨fun j => ?_, fun j => ?_, fun j => ?_⟩, fun p j hp => ?_, fun j hj => ?_⟩
          · rw [e2, zI_ne (by omega), zI_ne (by omega)]
          · rw [e4, if_neg (by omega)]; rfl
          · rw [e3]; rfl
          · rw [e2]; exact RM_up (RM_up hm _ _ _) _ _ _ p j hp
          · rw [e4]
            show _ = (if 60 * t.toNat ≤ j ∧ j < 60 * t.toNat + 60 then 0 else l j)
            by_cases q : 60 * t.toNat ≤ j ∧ j < 60 * t.toNat + 60
            · rw [if_pos (by omega), if_pos q]
            · rw [if_neg (by omega), if_neg q]; exact hl j hj
        unfold f_235_44
        rw [rPm h (j := 71) (by decide) (show zRm 133 71 = some 180 by decide +kernel), zb_some, zb_some, zsa_ly h (n := 6) (p := 180) (by omega) (by decide) (by rw [ii_toInt ht]; omega), zb_some, ii_toInt ht, rPm h.p (j := 72) (by decide) (show zRm 133 72 = some 181 by decide +kernel), zb_some, l0']
        by_cases c6 : x < 0
        · rw [if_neg (by rw [ii_le (by omega) hx]; omega)]
          exact last 0 (by rw [if_pos c6])
        · rw [if_pos (by rw [ii_le (by omega) hx]; omega)]
          exact last n (by rw [if_neg c6])
      unfold f_235_33
      by_cases c3 : x < 0
      · have c4 : ii x < ii 0 := by rw [ii_lt hx (by omega)]; exact c3
        have c5 : ¬ (0 ≤ x ∧ 60 < n) := by omega
        have c6 : ¬ (0 ≤ x ∧ n < 0) := by omega
        simp only [if_neg c5, if_neg c6, l0', if_pos c4]
        exact core (.inl c3)
      · have c4 : ¬ ii x < ii 0 := by rw [ii_lt hx (by omega)]; exact c3
        simp only [l0', if_neg c4, l60]
        by_cases c7 : n ≤ 60
        · have c8 : ii n ≤ ii 60 := by rw [ii_le hnr (by omega)]; exact c7
          have c5 : ¬ (0 ≤ x ∧ 60 < n) := by omega
          simp only [if_pos c8, if_neg c5]
          by_cases c9 : 0 ≤ n
          · have c10 : ii 0 ≤ ii n := by rw [ii_le (by omega) hnr]; exact c9
            have c6 : ¬ (0 ≤ x ∧ n < 0) := by omega
            simp only [if_pos c10, if_neg c6]
            exact core (.inr ⟨c9, c7⟩)
          · have c10 : ¬ ii 0 ≤ ii n := by rw [ii_le (by omega) hnr]; exact c9
            have c6 : 0 ≤ x ∧ n < 0 := by omega
            simp only [if_neg c10, if_pos c6]
            exact ret _
        · have c8 : ¬ ii n ≤ ii 60 := by rw [ii_le hnr (by omega)]; exact c7
          have c5 : 0 ≤ x ∧ 60 < n := by omega
          simp only [if_neg c8, if_pos c5]
          exact ret _
    · simp only [if_neg c2]
      exact ret _
  · simp only [if_neg c1]
    exact ret _
