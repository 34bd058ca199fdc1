/-! SHIFT -/
theorem zcopyL_ly {M : ZMem} (h : Ly M) {p q : Nat} {a b n : Int} (hp : 20 ≤ p ∧ p < 184) (hq : 20 ≤ q ∧ q < 184) (sp : zSh.getD p (0, 0) = (23, 60)) (sq : zSh.getD q (0, 0) = (23, 60)) (hn : 0 ≤ n) (ha : 0 ≤ a ∧ a + n ≤ 60) (hb : 0 ≤ b ∧ b + n ≤ 60) : zcopy M p (ii a) q (ii b) (ii n) = some (zcpL M p a.toNat q b.toNat n.toNat) := by
  have e1 := h.s p hp.2
  have e2 := h.s q hq.2
  rw [sp] at e1
  rw [sq] at e2
  have en : (ii n).toInt = n := ii_toInt (by omega)
  have ea : (ii a).toInt = a := ii_toInt (by omega)
  have eb : (ii b).toInt = b := ii_toInt (by omega)
  have cn : (ii n).toNatClampNeg = n.toNat := by show (ii n).toInt.toNat = _; rw [en]
  have ca : (ii a).toNatClampNeg = a.toNat := by show (ii a).toInt.toNat = _; rw [ea]
  have cb : (ii b).toNatClampNeg = b.toNat := by show (ii b).toInt.toNat = _; rw [eb]
  have z0 : (0 : Int32).toInt = 0 := rfl
  unfold zcopy
  rw [h.n, e1, e2, ca, cb, cn, if_pos ⟨hp.1, hp.2, hq.1, hq.2, by rw [Int32.lt_iff_toInt_lt, ea]; omega, by rw [Int32.lt_iff_toInt_lt, eb]; omega, by rw [Int32.lt_iff_toInt_lt, en]; omega, by simp only; omega, by simp only; omega⟩, if_neg (by simp), if_pos ⟨rfl, rfl⟩]
theorem zL_cpL (M : ZMem) (p sp q dp n a b : Nat) : zL (zcpL M p sp q dp n) a b = if a = q ∧ dp ≤ b ∧ b < dp + n then zL M p (sp + (b - dp)) else zL M a b := rfl
def shL (l : Nat → Int64) (t i o j n : Nat) : Nat → Int64 := fun k => if 60 * o + j ≤ k ∧ k < 60 * o + j + n then l (60 * t + i + (k - (60 * o + j))) else l k
def sp144 (s : ZSt) (l : Nat → Int64) (t i o j n : Int) : Int × (Nat → Int64) := if (0 ≤ t ∧ t ≤ 5) ∧ 0 ≤ o ∧ o ≤ 5 then (if 0 ≤ s 180 t.toNat ∧ 0 ≤ s 180 o.toNat then (if s 180 t.toNat = s 180 o.toNat then (if 0 ≤ n ∧ (0 ≤ i ∧ i ≤ s 181 t.toNat - n) ∧ 0 ≤ j ∧ j ≤ s 181 o.toNat - n then (n, shL l t.toNat i.toNat o.toNat j.toNat n.toNat) else (-13, l)) else (-12, l)) else (-11, l)) else (-1, l)
theorem m144 {M0 M : ZMem} {s : ZSt} {l : Nat → Int64} (h : CS M0 M s l) (hi : SI6 s) (ht' : SIt s) {t i o j n : Int} (ht : -2147483648 ≤ t ∧ t < 2147483648) (hir : -2147483648 ≤ i ∧ i < 2147483648) (ho : -2147483648 ≤ o ∧ o < 2147483648) (hjr : -2147483648 ≤ j ∧ j < 2147483648) (hnr : -2147483648 ≤ n ∧ n < 2147483648) : CG M0 (f_144 M 20 (ii t) (ii i) (ii o) (ii j) (ii n)) (ii (sp144 s l t i o j n).1) s (sp144 s l t i o j n).2 := by
  have h0 := hi.1.1
  have h9 := hi.1.2.2.2.1
  obtain ⟨hL, hU, hR⟩ := id h
  unfold f_144 sp144
  rw [if_pos (zok_ly hL k20), show (0 : Int32) = ii 0 from rfl, show (5 : Int32) = ii 5 from rfl, c14z ht (by omega) (by omega), zb_some]
  by_cases c1 : 0 ≤ t ∧ t ≤ 5
  · rw [bzT c1, if_neg (show ¬ (1 : Int32) = ii 0 by decide), c14z ho (by omega) (by omega), zb_some]
    by_cases c2 : 0 ≤ o ∧ o ≤ 5
    · obtain ⟨a1, a2, a3⟩ := ht' t.toNat (by omega)
      obtain ⟨b1, b2, b3⟩ := hR.2.2.2.2.2.2 t.toNat (by omega)
      obtain ⟨d1, d2, d3⟩ := kT t.toNat (by omega)
      obtain ⟨a1', a2', a3'⟩ := ht' o.toNat (by omega)
      obtain ⟨b1', b2', b3'⟩ := hR.2.2.2.2.2.2 o.toNat (by omega)
      obtain ⟨d1', d2', d3'⟩ := kT o.toNat (by omega)
      rw [bzT c2, if_pos (show ¬ (1 : Int32) = ii 0 by decide), if_pos (show (0 ≤ t ∧ t ≤ 5) ∧ 0 ≤ o ∧ o ≤ 5 from ⟨c1, c2⟩), gtps hL, zb_some, zb_some, gtp hL c1, zb_some, zb_some, zb_some, gtp hL c2, zb_some, zb_some, c123 hL (by omega) b1 (by omega), zb_some]
      by_cases e1 : 0 ≤ s 180 t.toNat
      · rw [if_pos e1, if_neg (show ¬ ¬ (0 : Int32) = ii 0 by decide), zb_some, c123 hL (by omega) b1' (by omega), zb_some]
        by_cases e2 : 0 ≤ s 180 o.toNat
        · rw [if_pos e2, if_pos (show (0 : Int32) = ii 0 by decide), if_pos (show 0 ≤ s 180 t.toNat ∧ 0 ≤ s 180 o.toNat from ⟨e1, e2⟩), gI hL d1 (by decide), zb_some, gI hL d1' (by decide), zb_some, b1, b1', it_eq (by omega) (by omega)]
          by_cases e3 : s 180 t.toNat = s 180 o.toNat
          · rw [if_pos e3, if_pos e3, it_lt hnr (by omega)]
            by_cases e4 : n < 0
            · rw [if_pos e4, if_neg (by omega)]
              exact CG_ret h
            · rw [if_neg e4, gI hL d1 (by decide), zb_some, b2, ii_sub, c14z hir (by omega) (by omega), zb_some]
              by_cases e5 : 0 ≤ i ∧ i ≤ s 181 t.toNat - n
              · rw [bzT e5, if_neg (show ¬ (1 : Int32) = ii 0 by decide), gI hL d1' (by decide), zb_some, b2', ii_sub, c14z hjr (by omega) (by omega), zb_some]
                by_cases e6 : 0 ≤ j ∧ j ≤ s 181 o.toNat - n
                · rw [bzT e6, if_pos (show ¬ (1 : Int32) = ii 0 by decide), if_pos (show 0 ≤ n ∧ (0 ≤ i ∧ i ≤ s 181 t.toNat - n) ∧ 0 ≤ j ∧ j ≤ s 181 o.toNat - n from ⟨by omega, e5, e6⟩), gR hL d1 (by decide) d2, zb_some, gR hL d1' (by decide) d2', zb_some, zb_some, zb_some, zcopyL_ly hL (by omega) (by omega) d3 d3' (by omega) (by omega) (by omega), zb_some]
                  refine CG_ret ⟨(Ly_cpL _ _ _ _ _ _).mpr hL, fun p hp => ⟨fun k => (hU p hp).1 k, fun k => ?_⟩, RC_tp hR ⟨by omega, hi.2, by omega⟩ (fun p hp k => rfl) (fun q h1 h2 => rfl) ?_⟩
                  · rw [zL_cpL, if_neg (by omega)]; exact (hU p hp).2 k
                  · intro u hu
                    obtain ⟨u1, u2, u3⟩ := hR.2.2.2.2.2.2 u hu
                    refine ⟨u1, u2, fun hz k hk => ?_⟩
                    rw [zL_cpL]
                    show _ = (if 60 * o.toNat + j.toNat ≤ 60 * u + k ∧ 60 * u + k < 60 * o.toNat + j.toNat + n.toNat then l (60 * t.toNat + i.toNat + (60 * u + k - (60 * o.toNat + j.toNat))) else l (60 * u + k))
                    by_cases hc : 122 + 2 * u = 122 + 2 * o.toNat ∧ j.toNat ≤ k ∧ k < j.toNat + n.toNat
                    · rw [if_pos hc, if_pos (by omega), b3 e1 _ (by omega)]
                      congr 1
                      omega
                    · rw [if_neg hc, if_neg (by omega)]
                      exact u3 hz k hk
                · rw [bzF e6, if_neg (show ¬ ¬ (0 : Int32) = ii 0 by decide), if_neg (fun q => e6 q.2.2)]
                  exact CG_ret h
              · rw [bzF e5, if_pos (show (0 : Int32) = ii 0 by decide), if_neg (fun q => e5 q.2.1)]
                exact CG_ret h
          · rw [if_neg e3, if_neg e3]
            exact CG_ret h
        · rw [if_neg e2, if_neg (show ¬ (1 : Int32) = ii 0 by decide), if_neg (fun q => e2 q.2)]
          exact CG_ret h
      · rw [if_neg e1, if_pos (show ¬ (1 : Int32) = ii 0 by decide), if_neg (fun q => e1 q.1)]
        exact CG_ret h
    · rw [bzF c2, if_neg (show ¬ ¬ (0 : Int32) = ii 0 by decide), if_neg (fun q => c2 q.2)]
      exact CG_ret h
  · rw [bzF c1, if_pos (show (0 : Int32) = ii 0 by decide), if_neg (fun q => c1 q.1)]
    exact CG_ret h
/-- the reference's, by way of what is kept aside -/
theorem m239b {o j n : Nat} (ho : o < 6) (hj : j + n ≤ 60) : ∀ (m z k : Nat) (N : ZMem), Ly N → k + m = n → m < z → ∃ M', f_239_141 z N 133 (ii (o : Int)) (ii (j : Int)) (ii (n : Int)) (ii (k : Int)) = some (ii (n : Int), M') ∧ M'.1 = N.1 ∧ zI M' = zI N ∧ zR M' = zR N ∧ ∀ a b, zL M' a b = if a = 182 ∧ 60 * o + j + k ≤ b ∧ b < 60 * o + j + n then zL N 183 (b - (60 * o + j)) else zL N a b := by
  intro m
  induction m with
  | zero =>
    intro z k N hN e hz
    obtain ⟨w, rfl⟩ : ∃ w, z = w + 1 := ⟨z - 1, by omega⟩
    refine ⟨N, ?_, rfl, rfl, rfl, fun a b => ?_⟩
    · rw [f_239_141, if_pos (show ii (n : Int) ≤ ii (k : Int) by rw [ii_le (by omega) (by omega)]; omega)]
    · rw [if_neg (by omega)]
  | succ m ih =>
    intro z k N hN e hz
    obtain ⟨w, rfl⟩ : ∃ w, z = w + 1 := ⟨z - 1, by omega⟩
    have e1 : (60 : Int32) * ii (o : Int) + ii (j : Int) + ii (k : Int) = ii ((60 * o + j + k : Nat) : Int) := by
      rw [show (60 : Int32) = ii 60 from rfl, ii_mul, ii_add, ii_add]; rfl
    obtain ⟨M', q, q1, q2, q3, q4⟩ := ih w (k + 1) (zpL N 182 (60 * o + j + k) (zL N 183 k)) ((Ly_pL _ _ _ _).mpr hN) (by omega) (by omega)
    refine ⟨M', ?_, q1, q2, q3, fun a b => ?_⟩
    · rw [f_239_141, if_neg (show ¬ ii (n : Int) ≤ ii (k : Int) by rw [ii_le (by omega) (by omega)]; omega), rPm hN (j := 73) (by decide) (show zRm 133 73 = some 182 by decide +kernel), zb_some, rPm hN (j := 74) (by decide) (show zRm 133 74 = some 183 by decide +kernel), zb_some, zb_some, zlaL_ly hN (n := 60) (p := 183) (by omega) (by decide) (by rw [ii_toInt (by omega)]; omega), zb_some, zb_some, e1, zsaL_ly hN (n := 360) (p := 182) (by omega) (by decide) (by rw [ii_toInt (by omega)]; omega), zb_some, ii_toInt (by omega), ii_toInt (by omega), Int.toNat_natCast, Int.toNat_natCast, ii_s1]
      exact q
    · rw [q4 a b, zL_pL, zL_pL]
      by_cases g : a = 182 ∧ b = 60 * o + j + k
      · obtain ⟨rfl, rfl⟩ := g
        rw [if_neg (by omega), if_pos ⟨rfl, rfl⟩, if_pos (by omega), show 60 * o + j + k - (60 * o + j) = k by omega]
      · rw [if_neg g]
        by_cases g2 : a = 182 ∧ 60 * o + j + (k + 1) ≤ b ∧ b < 60 * o + j + n
        · rw [if_pos g2, if_pos (show a = 182 ∧ 60 * o + j + k ≤ b ∧ b < 60 * o + j + n by omega), if_neg (show ¬ (183 = 182 ∧ b - (60 * o + j) = 60 * o + j + k) by omega)]
        · rw [if_neg g2, if_neg (by omega)]
theorem m239a {t i o j n : Nat} (ht : t < 6) (hi : i + n ≤ 60) (ho : o < 6) (hj : j + n ≤ 60) : ∀ (m z k : Nat) (N : ZMem), Ly N → k + m = n → m < z → ∃ M', f_239_104 z N 133 (ii (t : Int)) (ii (i : Int)) (ii (o : Int)) (ii (j : Int)) (ii (n : Int)) (ii (k : Int)) = some (ii (n : Int), M') ∧ M'.1 = N.1 ∧ zI M' = zI N ∧ zR M' = zR N ∧ (∀ a b, a ≠ 182 → a ≠ 183 → zL M' a b = zL N a b) ∧ ∀ b, zL M' 182 b = if 60 * o + j ≤ b ∧ b < 60 * o + j + n then (if b - (60 * o + j) < k then zL N 183 (b - (60 * o + j)) else zL N 182 (60 * t + i + (b - (60 * o + j)))) else zL N 182 b := by
  intro m
  induction m with
  | zero =>
    intro z k N hN e hz
    obtain ⟨w, rfl⟩ : ∃ w, z = w + 1 := ⟨z - 1, by omega⟩
    obtain ⟨M', q, q1, q2, q3, q4⟩ := m239b ho hj n zF 0 N hN (by omega) (by unfold zF; omega)
    refine ⟨M', ?_, q1, q2, q3, fun a b a1 a2 => ?_, fun b => ?_⟩
    · rw [f_239_104, if_pos (show ii (n : Int) ≤ ii (k : Int) by rw [ii_le (by omega) (by omega)]; omega)]
      exact q
    · rw [q4, if_neg (by omega)]
    · rw [q4]
      by_cases g : 60 * o + j ≤ b ∧ b < 60 * o + j + n
      · rw [if_pos ⟨rfl, by omega, g.2⟩, if_pos g, if_pos (by omega)]
      · rw [if_neg (by omega), if_neg g]
  | succ m ih =>
    intro z k N hN e hz
    obtain ⟨w, rfl⟩ : ∃ w, z = w + 1 := ⟨z - 1, by omega⟩
    have e1 : (60 : Int32) * ii (t : Int) + ii (i : Int) + ii (k : Int) = ii ((60 * t + i + k : Nat) : Int) := by
      rw [show (60 : Int32) = ii 60 from rfl, ii_mul, ii_add, ii_add]; rfl
    obtain ⟨M', q, q1, q2, q3, q4, q5⟩ := ih w (k + 1) (zpL N 183 k (zL N 182 (60 * t + i + k))) ((Ly_pL _ _ _ _).mpr hN) (by omega) (by omega)
    refine ⟨M', ?_, q1, q2, q3, fun a b a1 a2 => ?_, fun b => ?_⟩
    · rw [f_239_104, if_neg (show ¬ ii (n : Int) ≤ ii (k : Int) by rw [ii_le (by omega) (by omega)]; omega), rPm hN (j := 74) (by decide) (show zRm 133 74 = some 183 by decide +kernel), zb_some, rPm hN (j := 73) (by decide) (show zRm 133 73 = some 182 by decide +kernel), zb_some, zb_some, e1, zlaL_ly hN (n := 360) (p := 182) (by omega) (by decide) (by rw [ii_toInt (by omega)]; omega), zb_some, zb_some, zsaL_ly hN (n := 60) (p := 183) (by omega) (by decide) (by rw [ii_toInt (by omega)]; omega), zb_some, ii_toInt (by omega), ii_toInt (by omega), Int.toNat_natCast, Int.toNat_natCast, ii_s1]
      exact q
    · rw [q4 a b a1 a2, zL_pL, if_neg (by omega)]
    · rw [q5 b]
      by_cases g : 60 * o + j ≤ b ∧ b < 60 * o + j + n
      · rw [if_pos g, if_pos g, zL_pL, zL_pL]
        by_cases g2 : b - (60 * o + j) = k
        · rw [if_pos (by omega), if_pos ⟨rfl, g2⟩, if_neg (by omega), g2]
        · by_cases g3 : b - (60 * o + j) < k
          · rw [if_pos (by omega), if_neg (by omega), if_pos g3]
          · rw [if_neg (by omega), if_neg (by omega), if_neg g3]
      · rw [if_neg g, if_neg g, zL_pL, if_neg (by omega)]
theorem m239 {M : ZMem} {s : ZSt} {l : Nat → Int64} (h : Ly M) (hm : RM M s) (hl : RML M l) (ht' : SIt s) {t i o j n : Int} (ht : -2147483648 ≤ t ∧ t < 2147483648) (hir : -2147483648 ≤ i ∧ i < 2147483648) (ho : -2147483648 ≤ o ∧ o < 2147483648) (hjr : -2147483648 ≤ j ∧ j < 2147483648) (hnr : -2147483648 ≤ n ∧ n < 2147483648) : TG M (f_239 M 133 (ii t) (ii i) (ii o) (ii j) (ii n)) (ii (sp144 s l t i o j n).1) s (sp144 s l t i o j n).2 := by
  have ret : ∀ v : Int32, TG M (some (v, M)) v s l := fun v => ⟨M, rfl, h, fun p hp => ⟨fun j => rfl, fun j => rfl, fun j => rfl⟩, hm, hl⟩
  have p1 := rPm h (j := 71) (by decide) (show zRm 133 71 = some 180 by decide +kernel)
  have p2 := rPm h (j := 72) (by decide) (show zRm 133 72 = some 181 by decide +kernel)
  unfold f_239 sp144
  rw [if_pos (zok_ly h k133), c220 h ht, zb_some]
  by_cases c1 : 0 ≤ t ∧ t ≤ 5
  · rw [if_pos c1, if_neg (show ¬ (1 : Int32) = 0 by decide), c220 h ho, zb_some]
    by_cases c2 : 0 ≤ o ∧ o ≤ 5
    · obtain ⟨a1, a2, a3⟩ := ht' t.toNat (by omega)
      obtain ⟨a1', a2', a3'⟩ := ht' o.toNat (by omega)
      have y1 := rM h hm (P := 180) (n := 6) (b := t) (by decide) (fun _ => rfl) (by omega) (by omega)
      have y2 := rM h hm (P := 181) (n := 6) (b := t) (by decide) (fun _ => rfl) (by omega) (by omega)
      have y3 := rM h hm (P := 180) (n := 6) (b := o) (by decide) (fun _ => rfl) (by omega) (by omega)
      have y4 := rM h hm (P := 181) (n := 6) (b := o) (by decide) (fun _ => rfl) (by omega) (by omega)
      rw [if_pos c2, if_pos (show ¬ (1 : Int32) = 0 by decide), if_pos (show (0 ≤ t ∧ t ≤ 5) ∧ 0 ≤ o ∧ o ≤ 5 from ⟨c1, c2⟩), p1, zb_some, zb_some, y1, zb_some, show (0 : Int32) = ii 0 from rfl, it_lt (by omega) (by omega)]
      by_cases e1 : 0 ≤ s 180 t.toNat
      · rw [if_neg (by omega), zb_some, zb_some, y3, zb_some, it_le (by omega) (by omega)]
        by_cases e2 : 0 ≤ s 180 o.toNat
        · rw [if_pos e2, if_pos (show 0 ≤ s 180 t.toNat ∧ 0 ≤ s 180 o.toNat from ⟨e1, e2⟩), zb_some, zb_some, y1, zb_some, zb_some, zb_some, y3, zb_some, it_eq (by omega) (by omega)]
          by_cases e3 : s 180 t.toNat = s 180 o.toNat
          · rw [if_pos e3, if_pos e3, it_lt hnr (by omega)]
            by_cases e4 : n < 0
            · rw [if_pos e4, if_neg (by omega)]
              exact ret _
            · rw [if_neg e4, it_lt hir (by omega)]
              by_cases e5 : i < 0
              · rw [if_pos e5, if_neg (by omega)]
                exact ret _
              · rw [if_neg e5, it_lt hjr (by omega)]
                by_cases e6 : j < 0
                · rw [if_pos e6, if_neg (by omega)]
                  exact ret _
                · rw [if_neg e6, p2, zb_some, zb_some, y2, zb_some, ii_sub, it_lt (by omega) hir]
                  by_cases e7 : s 181 t.toNat - n < i
                  · rw [if_pos e7, if_neg (by omega)]
                    exact ret _
                  · rw [if_neg e7, zb_some, zb_some, y4, zb_some, ii_sub, it_le hjr (by omega)]
                    by_cases e8 : j ≤ s 181 o.toNat - n
                    · obtain ⟨t, rfl⟩ := Int.eq_ofNat_of_zero_le c1.1
                      obtain ⟨o, rfl⟩ := Int.eq_ofNat_of_zero_le c2.1
                      obtain ⟨i, rfl⟩ := Int.eq_ofNat_of_zero_le (show 0 ≤ i by omega)
                      obtain ⟨j, rfl⟩ := Int.eq_ofNat_of_zero_le (show 0 ≤ j by omega)
                      obtain ⟨n, rfl⟩ := Int.eq_ofNat_of_zero_le (show 0 ≤ n by omega)
                      simp only [Int.toNat_natCast] at *
                      obtain ⟨M', q, q1, q2, q3, q4, q5⟩ := m239a (t := t) (i := i) (o := o) (j := j) (n := n) (by omega) (by omega) (by omega) (by omega) n zF 0 M h (by omega) (by unfold zF; omega)
                      rw [if_pos e8, if_pos (by omega)]
                      refine ⟨M', q, Ly_eq h q1 q3, fun p hp => ⟨fun k => by rw [q2], fun k => q4 p k (by omega) (by omega), fun k => by rw [q3]⟩, fun p k hp => by rw [q2]; exact hm p k hp, fun k hk => ?_⟩
                      rw [q5 k]
                      show _ = shL l t i o j n k
                      unfold shL
                      by_cases g : 60 * o + j ≤ k ∧ k < 60 * o + j + n
                      · rw [if_pos g, if_pos g, if_neg (by omega)]
                        exact hl _ (by omega)
                      · rw [if_neg g, if_neg g]
                        exact hl _ hk
                    · rw [if_neg e8, if_neg (by omega)]
                      exact ret _
          · rw [if_neg e3, if_neg e3]
            exact ret _
        · rw [if_neg e2, if_neg (fun q => e2 q.2)]
          exact ret _
      · rw [if_pos (by omega), if_neg (fun q => e1 q.1)]
        exact ret _
    · rw [if_neg c2, if_neg (show ¬ ¬ (0 : Int32) = 0 by decide), if_neg (fun q => c2 q.2)]
      exact ret _
  · rw [if_neg c1, if_pos (show (0 : Int32) = 0 by decide), if_neg (fun q => c1 q.1)]
    exact ret _
