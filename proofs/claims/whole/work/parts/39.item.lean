/-! ITEM, TAPE -/
/-- the tapes' side conditions of a memory that the reference's tapes change -/
def Dp (M M' : ZMem) : Prop := ∀ p, p < 133 → (∀ j, zI M' p j = zI M p j) ∧ (∀ j, zL M' p j = zL M p j) ∧ ∀ j, zR M' p j = zR M p j
def TG {α : Type} (M : ZMem) (t : Option (α × ZMem)) (v : α) (s' : ZSt) (l' : Nat → Int64) : Prop := ∃ M', t = some (v, M') ∧ Ly M' ∧ Dp M M' ∧ RM M' s' ∧ RML M' l'
def ul (l : Nat → Int64) (k : Nat) (v : Int64) : Nat → Int64 := fun j => if j = k then v else l j
/-- only tapes change -/
theorem RC_tp {M M' : ZMem} {s s' : ZSt} {l l' : Nat → Int64} (h : RC M s l) (hi : s 133 0 ≤ 6 ∧ s 133 50 ≤ 6 ∧ s 133 9 ≤ 6) (hM : ∀ p, (p < 121 ∨ 132 < p) → ∀ j, zI M' p j = zI M p j) (hs : ∀ q, q ≠ 180 → q ≠ 181 → s' q = s q) (hp : RCp M' s' l') : RC M' s' l' := by
  obtain ⟨⟨h1, h2, h3'⟩, ⟨h4, h5, h6⟩, h7, h8, h9, h10, h11⟩ := h
  have e := hM
  have e133 := fun j => congrFun (hs 133 (by omega) (by omega)) j
  refine ⟨⟨RCy_sf (RCy_fr h1 (e 22 (by omega))) ?_ ?_ ?_ ?_, RCb_sf (RCb_fr h2 hi.1 (fun p h1 h2 => e p (by omega))) ?_ ?_ ?_ ?_ ?_ ?_ ?_, RCc_fr h3' ?_⟩, ⟨RCs_sf (RCs_fr h4 (e 36 (by omega)) (e 37 (by omega)) (e 38 (by omega)) (e 39 (by omega))) ?_ ?_ ?_ ?_, RCw_sf (RCw_fr h5 (e 40 (by omega)) (e 41 (by omega)) (e 42 (by omega)) (e 43 (by omega))) ?_ ?_ ?_, RCk_sf (RCk_fr h6 (e 44 (by omega)) (e 45 (by omega)) (e 46 (by omega)) (e 47 (by omega))) ?_ ?_ ?_⟩, RCt_sf (RCt_fr h7 (fun j _ => e 20 (by omega) j) (e 89 (by omega))) ?_ ?_ ?_, RCi_sf (RCi_fr h8 hi.2.1 (e 20 (by omega) 2) (fun p h1 h2 => e p (by omega))) ?_ ?_ ?_ ?_ ?_ ?_ ?_ ?_ ?_ ?_ ?_ ?_ ?_ ?_ ?_ ?_ ?_ ?_ ?_ ?_ ?_, RCa_sf (RCa_fr h9 (e 106 (by omega)) (e 107 (by omega))) ?_ ?_, RCh_sf (RCh_fr h10 hi.2.2 (fun p h1 h2 => e p (by omega))) ?_ ?_ ?_ ?_ ?_ ?_ ?_, hp⟩
  all_goals first | exact e133 _ | exact hs _ (by omega) (by omega) | skip
  intro p j hp
  refine e p ?_ j
  rcases hp with h | h | h | ⟨_, h⟩
  · omega
  · omega
  · omega
  · simp only [List.mem_cons, List.not_mem_nil, or_false] at h; omega
/-- a long as the sort has it -/
def fitL (x : Int) (z : Int64) : Int64 := if x = 0 then Int32.toInt64 ((Int32.toInt8 (Int64.toInt32 z)).toInt32) else if x = 1 then Int32.toInt64 ((Int32.toInt16 (Int64.toInt32 z)).toInt32) else if x = 2 then Int32.toInt64 (Int64.toInt32 z) else if x = 3 then z else if lg_cmp z 0 = 0 then 0 else 1
theorem c142 {M : ZMem} (h : Ly M) {t : Nat} {x : Int} {z : Int64} (ht : t < 6) (hx : zI M (121 + 2 * t) 1 = ii x) (hr : 0 ≤ x ∧ x ≤ 4) : f_142 M (121 + 2 * t) z = some (fitL x z) := by
  unfold f_142 fitL
  rw [if_pos (zok_ly h (kT t ht).1), gI h (kT t ht).1 (by decide), zb_some, hx]
  have e1 : x = 0 ∨ x = 1 ∨ x = 2 ∨ x = 3 ∨ x = 4 := by omega
  rcases e1 with rfl | rfl | rfl | rfl | rfl
  · rfl
  · rfl
  · rfl
  · rfl
  · show (if lg_cmp z 0 = 0 then some 0 else some 1) = some (if lg_cmp z 0 = 0 then 0 else 1)
    split <;> rfl
theorem c237 {M : ZMem} (h : Ly M) {x : Int} {z : Int64} (hr : 0 ≤ x ∧ x ≤ 4) : f_237 M 133 (ii x) z = some (fitL x z) := by
  unfold f_237 fitL
  rw [if_pos (zok_ly h k133)]
  have e1 : x = 0 ∨ x = 1 ∨ x = 2 ∨ x = 3 ∨ x = 4 := by omega
  rcases e1 with rfl | rfl | rfl | rfl | rfl
  · rfl
  · rfl
  · rfl
  · rfl
  · show (if lg_cmp z 0 = 0 then some 0 else some 1) = some (if lg_cmp z 0 = 0 then 0 else 1)
    split <;> rfl
/-- item -/
def sp141 (s : ZSt) (l : Nat → Int64) (t i : Int) (z : Int64) : Int × (Nat → Int64) := if 0 ≤ t ∧ t ≤ 5 then (if 0 ≤ s 180 t.toNat then (if 0 ≤ i ∧ i ≤ s 181 t.toNat - 1 then (1, ul l (60 * t.toNat + i.toNat) (fitL (s 180 t.toNat) z)) else (-13, l)) else (-11, l)) else (-1, l)
theorem m141 {M0 M : ZMem} {s : ZSt} {l : Nat → Int64} (h : CS M0 M s l) (hi : SI6 s) (ht' : SIt s) {t i : Int} {z : Int64} (ht : -2147483648 ≤ t ∧ t < 2147483648) (hir : -2147483648 ≤ i ∧ i < 2147483648) : CG M0 (f_141 M 20 (ii t) (ii i) z) (ii (sp141 s l t i z).1) s (sp141 s l t i z).2 := by
  have hn := hi.1
  unfold SIn at hn
  obtain ⟨hL, hU, hR⟩ := id h
  unfold f_141 sp141
  rw [if_pos (zok_ly hL k20)]
  refine CG_eq (c14i (b := 0) (c := 5) ht (by omega) (by omega)) (CG_ite (tsn _) (fun c1 => ?_) fun c1 => ?_)
  · rw [if_pos c1]
    obtain ⟨a1, a2, a3⟩ := ht' t.toNat (by omega)
    obtain ⟨b1, b2, b3⟩ := hR.2.2.2.2.2.2 t.toNat (by omega)
    obtain ⟨d1, d2, d3⟩ := kT t.toNat (by omega)
    refine CG_eq (gtps hL) (CG_eq rfl (CG_eq (gtp hL c1) (CG_eq rfl (CG_eq (c123 hL (by omega) b1 (by omega)) ?_))))
    refine CG_ite (P := 0 ≤ s 180 t.toNat) ?_ (fun c2 => ?_) fun c2 => ?_
    · by_cases c : 0 ≤ s 180 t.toNat
      · rw [if_pos c]; exact ⟨fun _ => c, fun _ => rfl⟩
      · rw [if_neg c]; exact ⟨fun q => absurd q (by decide), fun q => absurd q c⟩
    · rw [if_pos c2]
      refine CG_eq ((gI hL d1 (by decide)).trans (congrArg some b2)) ?_
      rw [l1, ii_sub]
      refine CG_eq (c14i (b := 0) hir (by omega) (by omega)) (CG_ite (tsn _) (fun c3 => ?_) fun c3 => ?_)
      · rw [if_pos c3]
        have hii : (ii i).toInt = i := ii_toInt hir
        refine CG_eq (gR hL d1 (by decide) d2) (CG_eq (c142 hL (by omega) b1 (by omega)) (CG_eq rfl (CG_eq (zsaL_ly hL (by omega) d3 (by omega)) ?_)))
        rw [hii]
        refine CG_ret ⟨(Ly_pL _ _ _ _).mpr hL, fun p hp => ⟨fun j => (hU p hp).1 j, fun j => ?_⟩, RC_tp hR ⟨by omega, hi.2, by omega⟩ (fun p hp j => rfl) (fun q h1 h2 => rfl) ?_⟩
        · rw [zL_pL, if_neg (by omega)]; exact (hU p hp).2 j
        · intro t2 ht2
          obtain ⟨u1, u2, u3⟩ := hR.2.2.2.2.2.2 t2 ht2
          refine ⟨u1, u2, fun hz j hj => ?_⟩
          rw [zL_pL]
          show _ = (if 60 * t2 + j = 60 * t.toNat + i.toNat then fitL (s 180 t.toNat) z else l (60 * t2 + j))
          by_cases hc : t2 = t.toNat ∧ j = i.toNat
          · rw [if_pos (by omega), if_pos (by omega)]
          · rw [if_neg (by omega), if_neg (by omega)]; exact u3 hz j hj
      · rw [if_neg c3]; exact CG_ret h
    · rw [if_neg c2]; exact CG_ret h
  · rw [if_neg c1]; exact CG_ret h
theorem m236 {M : ZMem} {s : ZSt} {l : Nat → Int64} (h : Ly M) (hm : RM M s) (hl : RML M l) (ht' : SIt s) {t i : Int} {z : Int64} (ht : -2147483648 ≤ t ∧ t < 2147483648) (hir : -2147483648 ≤ i ∧ i < 2147483648) : TG M (f_236 M 133 (ii t) (ii i) z) (ii (sp141 s l t i z).1) s (sp141 s l t i z).2 := by
  have ret : ∀ v : Int32, TG M (some (v, M)) v s l := fun v => ⟨M, rfl, h, fun p hp => ⟨fun j => rfl, fun j => rfl, fun j => rfl⟩, hm, hl⟩
  unfold f_236 sp141
  rw [if_pos (zok_ly h k133), c220 h ht, zb_some]
  by_cases c1 : 0 ≤ t ∧ t ≤ 5
  · obtain ⟨a1, a2, a3⟩ := ht' t.toNat (by omega)
    have y1 := rM h hm (P := 180) (n := 6) (b := t) (by decide) (fun _ => rfl) (by omega) (by omega)
    have y2 := rM h hm (P := 181) (n := 6) (b := t) (by decide) (fun _ => rfl) (by omega) (by omega)
    have n1 : ¬ (1 : Int32) = ii 0 := by decide
    have w2 := c147i h (a := i) (b := 0) (c := s 181 t.toNat - 1) hir (by omega) (by omega)
    simp only [if_pos c1, show (0 : Int32) = ii 0 from rfl, if_pos n1, zb_some, rPm h (j := 71) (by decide) (show zRm 133 71 = some 180 by decide +kernel), rPm h (j := 72) (by decide) (show zRm 133 72 = some 181 by decide +kernel), rPm h (j := 73) (by decide) (show zRm 133 73 = some 182 by decide +kernel), y1, y2]
    by_cases c2 : 0 ≤ s 180 t.toNat
    · have c3 : ii 0 ≤ ii (s 180 t.toNat) := by rw [ii_le (by omega) (by omega)]; exact c2
      simp only [if_pos c2, if_pos c3, show (1 : Int32) = ii 1 from rfl, ii_sub, w2, zb_some]
      by_cases c4 : 0 ≤ i ∧ i ≤ s 181 t.toNat - 1
      · have n2 : ¬ ii 1 = ii 0 := by decide
        have e60 : (60 : Int32) * ii t + ii i = ii (60 * t + i) := by rw [show (60 : Int32) = ii 60 from rfl, ii_mul, ii_add]
        simp only [if_pos c4, if_pos n2, c237 h (show 0 ≤ s 180 t.toNat ∧ s 180 t.toNat ≤ 4 by omega), zb_some, e60]
        rw [zsaL_ly h (n := 360) (p := 182) (by omega) (by decide) (by rw [ii_toInt (by omega)]; omega), zb_some, ii_toInt (by omega)]
        refine ⟨_, rfl, (Ly_pL _ _ _ _).mpr h, fun p hp => ⟨fun j => rfl, fun j => ?_, fun j => rfl⟩, hm, fun j hj => ?_⟩
        · rw [zL_pL, if_neg (by omega)]
        · rw [zL_pL]
          unfold ul
          by_cases hc : j = 60 * t.toNat + i.toNat
          · rw [if_pos (by omega), if_pos hc]
          · rw [if_neg (by omega), if_neg hc]; exact hl j hj
      · have n2 : ¬ ¬ ii 0 = ii 0 := fun q => q rfl
        simp only [if_neg c4, if_neg n2]
        exact ret _
    · have c3 : ¬ ii 0 ≤ ii (s 180 t.toNat) := by rw [ii_le (by omega) (by omega)]; exact c2
      simp only [if_neg c2, if_neg c3]
      exact ret _
  · simp only [if_neg c1]
    exact ret _
