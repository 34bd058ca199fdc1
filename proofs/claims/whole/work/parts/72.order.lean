/-! ORDER, the class's call -/
theorem c90x {M : ZMem} {s : ZSt} {l : Nat → Int64} {s' : ZSt} {y : Nat} (h : AK M s l s' y) {b : Nat} (hb : (b : Int) < s' 133 0) : ∃ M', f_90 M 20 (some y) (some (y + 2 + 2 * b)) = some (ii (tB s' b (thk s' b)), M') ∧ Sv M M' ∧ ∀ p, 102 ≤ p → p ≤ 105 → ∀ j, zI M' p j = zI M p j := by
  have hym := AK.ymem h.2.2.2.1
  have hb6 := (h.bb hb).1
  have A1 := h.sv (vlu_sv (s := s') (b := b) h.1)
  obtain ⟨M', m1, m2⟩ := c34 (h.vs hb) (T := thk s' b) (h.th hb).2
  refine ⟨M', ?_, (vlu_sv h.1).tr (m2.sv (by omega)), fun p p1 p2 j => (m2.2.1 p (by omega) j).trans ?_⟩
  · have e20 := c20 h.1 h.2.1.1 h.2.1.2.1.1
    unfold f_90
    simp only [cX h.1, if_true, zb_some, h.yd, e20, c28 h hb, cX A1.1, cB A1.1 hym hb6, A1.w3 hb, m1, zbd_some]
    rfl
  · unfold vluM
    rw [zI_ne (by omega), zI_ne (by omega), zI_ne (by omega), zI_ne (by omega)]
    exact blw_at.2 p (by omega) j
theorem c94x {M0 M : ZMem} {s : ZSt} {l : Nat → Int64} (h : CS M0 M s l) (hV : IV s) {n : Int} (hn : 0 ≤ n ∧ n ≤ 60) : ∃ M', f_94 M 20 (ii n) = some M' ∧ CS M0 M' s l ∧ AK M' s l (goS s n) 75 ∧ ∀ p, 102 ≤ p → p ≤ 105 → ∀ j, zI M' p j = zI M p j := by
  have h0 := hV.1.1.1.1
  have hi := hV.1.1
  have hb := hV.1.2.2.1
  have hh := hV.1.2.2.2
  have hd := hV.1.2.1
  obtain ⟨M1, m1, m2, m3, m4⟩ := c95 h.1 (y1 := 75) (y2 := 22) (by decide) (by decide) (by omega) (n := s 133 0) h0 h.2.2.1.1.1
  have C1 := CS_sc h hi m2.sc
  have hR : RY M1 s 75 := by
    refine ⟨?_, ?_, fun b hb => ?_⟩
    · rw [m3 1 (by omega) (by omega)]; exact h.2.2.1.1.1
    · rw [m3 3 (by omega) (by omega)]; exact h.2.2.1.1.2.2.1
    · obtain ⟨⟨b1, b2, b3, b4, b5⟩, b6⟩ := h.2.2.1.2.1 b hb
      obtain ⟨q1, q2⟩ := m4 b hb
      rw [show 24 + 2 * b = 22 + 2 + 2 * b by omega] at b1 b2 b3 b4 b5 b6
      refine ⟨⟨(q1 1 (by omega) (by omega)).trans b1, (q1 2 (by omega) (by omega)).trans b2, (q1 3 (by omega) (by omega)).trans b3, (q1 4 (by omega) (by omega)).trans b4, (q1 5 (by omega) (by omega)).trans b5⟩, fun r hr => ?_⟩
      rw [show 75 + 2 + 2 * b + 1 = 75 + 3 + 2 * b by omega]
      refine (q2 r hr).trans ?_
      rw [show 22 + 3 + 2 * b = 22 + 2 + 2 * b + 1 by omega]
      exact b6 r hr
  obtain ⟨M2, n1, n2, n3⟩ := c92 C1.1 (y := 75) (.inr rfl) hi.1 hh hb hR hn
  have g := gwnd C1.1 C1.2.2 hi.1
  have C2 := CS_sc C1 hi n2.sc
  refine ⟨M2, ?_, C2, ⟨C2.1, ⟨C2.2.2, hi, hh⟩, ⟨goS_ah s n, goS_in hi.1 hn.1 (by omega), goS_ib hi.1 hh hb hn⟩, .inr rfl, n3⟩, fun p p1 p2 j => (n2.2.1 p j (by omega) (fun ⟨b, q1, q2, q3⟩ => by omega)).trans (m2.2.1 p j (by omega))⟩
  unfold f_94
  simp only [cX h.1, if_true, zb_some, m1, cX C1.1, g, n1]
/-- worths of the days before, and of this day's blocks before -/
def WF (s : ZSt) (d i : Nat) (M : ZMem) : Prop := ∀ a e : Nat, (a : Int) < s 133 0 → (e < d ∨ (e = d ∧ a < i)) → e < 6 → zI M 103 (6 * a + e) = ii (oW s a e)
theorem c98i {M0 : ZMem} {s : ZSt} {l : Nat → Int64} (hV : IV s) {r : ZMem → Nat → Int32 → Int32 → Int32 → Option ZMem} {P m d : Nat} (hd : d < 6) {Q : Option ZMem → Prop} (next : ∀ M1, CS M0 M1 s l → WF s (d + 1) 0 M1 → Q (r M1 20 (ii (P : Int)) (ii (m : Int)) (ii ((d + 1 : Nat) : Int)))) : ∀ (n z i : Nat) (M : ZMem), CS M0 M s l → AK M s l (goS s (d : Int)) 75 → WF s d i M → (i : Int) + (n : Nat) = s 133 0 → n < z → Q (f_98_68 r z M 20 (ii (P : Int)) (ii (m : Int)) (ii (d : Int)) (ii (i : Int))) := by
  have h0 := hV.1.1.1.1
  intro n
  induction n with
  | zero =>
    intro z i M h A hW e hz
    obtain ⟨w, rfl⟩ : ∃ w, z = w + 1 := ⟨z - 1, by omega⟩
    have y1 : zI M 75 1 = ii (s 133 0) := by
      have := A.2.2.2.2.1
      rw [goS_o (by omega) (by omega)] at this
      exact this
    rw [f_98_68]
    simp only [cX h.1, zb_some, y1]
    rw [if_pos (show ii (s 133 0) ≤ ii (i : Int) by rw [ii_le (by omega) (by omega)]; omega), ii_s1]
    exact next M h (fun a b a1 a2 a3 => hW a b a1 (by omega) a3)
  | succ n ih =>
    intro z i M h A hW e hz
    obtain ⟨w, rfl⟩ : ∃ w, z = w + 1 := ⟨z - 1, by omega⟩
    have y1 : zI M 75 1 = ii (s 133 0) := by
      have := A.2.2.2.2.1
      rw [goS_o (by omega) (by omega)] at this
      exact this
    have hib : (i : Int) < s 133 0 := by omega
    have el := cYl h.1 (y := 75) (by decide) (i := i) (by omega)
    obtain ⟨M1, e1, v1, f1⟩ := c90x A (b := i) (by rw [goS_o (by omega) (by omega)]; exact hib)
    have C1 := CS_sc h hV.1.1 v1.sc
    have x103 := zsa_ii C1.1 (p := 103) (n := 36) (i := ((6 * i + d : Nat) : Int)) (x := ii (tB (goS s (d : Int)) i (thk (goS s (d : Int)) i))) (by omega) (by decide +kernel) (by omega) (by omega) (by omega)
    rw [Int.toNat_natCast] at x103
    have ei : ii (i : Int) * 6 + ii (d : Int) = ii ((6 * i + d : Nat) : Int) := by
      rw [show (6 : Int32) = ii 6 from rfl, ii_mul, ii_add]
      congr 1
      omega
    have S2 : Sv M1 (zpI M1 103 (6 * i + d) (ii (tB (goS s (d : Int)) i (thk (goS s (d : Int)) i)))) := (Sv.rf C1.1).pI (by omega)
    rw [f_98_68]
    simp only [cX h.1, zb_some, y1, cP h.1]
    rw [if_neg (show ¬ ii (s 133 0) ≤ ii (i : Int) by rw [ii_le (by omega) (by omega)]; omega), show (76 : Nat) = 75 + 1 from rfl, el, zb_some, e1, zbd_some, ei, x103, zb_some, ii_s1]
    refine ih w (i + 1) _ (CS_sc C1 hV.1.1 S2.sc) ((A.sv v1).sv S2) (fun a b a1 a2 a3 => ?_) (by omega) (by omega)
    by_cases g : a = i ∧ b = d
    · rw [g.1, g.2, zI_at]
      unfold oW
      rw [if_pos ⟨hib, by omega⟩]
    · rw [zI_nk (by omega), f1 103 (by omega) (by omega)]
      exact hW a b a1 (by omega) a3
theorem c98d {M0 : ZMem} {s : ZSt} {l : Nat → Int64} (hV : IV s) : ∀ (n z d : Nat) (M : ZMem), CS M0 M s l → WF s d 0 M → d + n = om s → n < z → ∃ M', f_98_55 z M 20 (ii (oP s : Nat)) (ii (om s : Nat)) (ii (d : Int)) = some M' ∧ CS M0 M' s l ∧ zI M' 102 2 = ii (om s : Nat) ∧ zI M' 102 3 = ii (oop (oW s) (om s) (om s) (oP s)) ∧ ∀ j, j < om s → zI M' 104 j = ii (((ool (oW s) (om s) (om s) (oP s)).getD j 0 : Nat) : Int) := by
  have h0 := hV.1.1.1.1
  obtain ⟨p1, p2, p3⟩ := oP_b hV.1.1.1
  intro n
  induction n with
  | zero =>
    intro z d M h hW e hz
    obtain ⟨w, rfl⟩ : ∃ w, z = w + 1 := ⟨z - 1, by omega⟩
    obtain ⟨M', m1, m2, m3⟩ := c100 (W := oW s) (P := oP s) (m := om s) (oW_b hV) p1 rfl h.1 (fun i d' a b c => hW i d' ((p3 i a).mp b).1 (by omega) (by omega))
    refine ⟨M', ?_, CS_sc h hV.1.1 m2.sc, m3⟩
    rw [f_98_55, if_pos (show ii ((om s : Nat) : Int) ≤ ii (d : Int) by rw [ii_le (by omega) (by omega)]; omega)]
    simp only [cX h.1, zb_some, m1]
  | succ n ih =>
    intro z d M h hW e hz
    obtain ⟨w, rfl⟩ : ∃ w, z = w + 1 := ⟨z - 1, by omega⟩
    obtain ⟨M1, e1, C1, A1, f1⟩ := c94x h hV (n := (d : Int)) (by omega)
    rw [f_98_55, if_neg (show ¬ ii ((om s : Nat) : Int) ≤ ii (d : Int) by rw [ii_le (by omega) (by omega)]; omega), e1, zb_some]
    refine c98i hV (r := fun M a0 a1 a2 a3 => f_98_55 w M a0 a1 a2 a3) (P := oP s) (m := om s) (d := d) (by omega) (Q := fun t => ∃ M', t = some M' ∧ CS M0 M' s l ∧ zI M' 102 2 = ii (om s : Nat) ∧ zI M' 102 3 = ii (oop (oW s) (om s) (om s) (oP s)) ∧ ∀ j, j < om s → zI M' 104 j = ii (((ool (oW s) (om s) (om s) (oP s)).getD j 0 : Nat) : Int)) (fun M2 C2 w2 => ih w (d + 1) M2 C2 w2 (by omega) (by omega)) (s 133 0).toNat zF 0 M1 C1 A1 (fun a b a1 a2 a3 => (f1 103 (by omega) (by omega) _).trans (hW a b a1 a2 a3)) (by omega) (by unfold zF; omega)
theorem c98a {M0 : ZMem} {s : ZSt} {l : Nat → Int64} (hV : IV s) : ∀ (n z i : Nat) (M : ZMem), CS M0 M s l → (i : Int) + (n : Nat) = s 133 0 → n < z → ∃ M', f_98_4 z M 20 (ii (opm s i : Nat)) (ii (i : Int)) = some M' ∧ CS M0 M' s l ∧ zI M' 102 2 = ii (om s : Nat) ∧ zI M' 102 3 = ii (oop (oW s) (om s) (om s) (oP s)) ∧ ∀ j, j < om s → zI M' 104 j = ii (((ool (oW s) (om s) (om s) (oP s)).getD j 0 : Nat) : Int) := by
  have h0 := hV.1.1.1.1
  obtain ⟨p1, p2, p3⟩ := oP_b hV.1.1.1
  intro n
  induction n with
  | zero =>
    intro z i M h e hz
    obtain ⟨w, rfl⟩ : ∃ w, z = w + 1 := ⟨z - 1, by omega⟩
    have ei : opm s i = oP s := by
      unfold oP
      rw [show (s 133 0).toNat = i by omega]
    rw [f_98_4]
    simp only [cX h.1, zb_some, h.2.2.1.1.1]
    rw [if_pos (show ii (s 133 0) ≤ ii (i : Int) by rw [ii_le (by omega) (by omega)]; omega), ei, c99 _ p1, zb_some]
    exact c98d hV (om s) zF 0 M h (fun a b a1 a2 a3 => by omega) (by omega) (by unfold zF; omega)
  | succ n ih =>
    intro z i M h e hz
    obtain ⟨w, rfl⟩ : ∃ w, z = w + 1 := ⟨z - 1, by omega⟩
    have hib : (i : Int) < s 133 0 := by omega
    have v3 := (hV.1.2.2.1 i hib).2.2.1
    simp only [Nat.add_zero] at v3
    have b3 := (h.2.2.1.2.1 i hib).1.2.2.1
    simp only [Nat.add_zero] at b3
    rw [show 24 + 2 * i = 22 + 2 + 2 * i by omega] at b3
    have el := cYl h.1 (y := 22) (by decide) (i := i) (by omega)
    have e57 := c57 h.1 (show 22 ∈ [22, 49, 75] by decide) (b := i) (by omega) v3 b3
    have nx := ih w (i + 1) M h (by omega) (by omega)
    rw [opm] at nx
    rw [f_98_4]
    simp only [cX h.1, zb_some, h.2.2.1.1.1]
    rw [if_neg (show ¬ ii (s 133 0) ≤ ii (i : Int) by rw [ii_le (by omega) (by omega)]; omega), show (23 : Nat) = 22 + 1 from rfl, el, zb_some, zb_some, e57, zb_some]
    unfold f_98_42
    rw [ii_s1]
    by_cases g : s 136 i = 0
    · rw [if_pos g] at nx
      rw [bzT g, if_pos (show ¬ (1 : Int32) = 0 by decide)]
      exact nx
    · rw [if_neg g] at nx
      rw [bzF g, if_neg (show ¬ ¬ (0 : Int32) = 0 by decide), b_or _ (opm_b (s := s) i (by omega)).1 i (by omega)]
      exact nx
def sp97 (s : ZSt) (k : Int) : Int := if -1 ≤ k ∧ k ≤ 5 then (if k < 0 then oop (oW s) (om s) (om s) (oP s) else if k < (om s : Nat) then (((ool (oW s) (om s) (om s) (oP s)).getD k.toNat 0 : Nat) : Int) else -5) else -1
theorem m97 {M0 M : ZMem} {s : ZSt} {l : Nat → Int64} (h : CS M0 M s l) (hV : IV s) {k : Int} (hk : -2147483648 ≤ k ∧ k < 2147483648) : CG M0 (f_97 M 20 (ii k)) (ii (sp97 s k)) s l := by
  have h0 := hV.1.1.1.1
  obtain ⟨p1, p2, p3⟩ := oP_b hV.1.1.1
  unfold f_97 sp97
  rw [if_pos (cX h.1).1, show (-1 : Int32) = ii (-1) from rfl, show (5 : Int32) = ii 5 from rfl, c14z hk (by omega) (by omega), zb_some]
  by_cases c : -1 ≤ k ∧ k ≤ 5
  · obtain ⟨M1, m1, C1, m2, m3, m4⟩ := c98a hV (s 133 0).toNat zF 0 M h (by omega) (by unfold zF; omega)
    have e98 : f_98 M 20 = some M1 := by
      unfold f_98
      rw [if_pos (cX h.1).1]
      exact m1
    rw [bzT c, if_pos (show ¬ (1 : Int32) = 0 by decide), if_pos c, e98, zb_some]
    by_cases d : k < 0
    · rw [if_neg (show ¬ (0 : Int32) ≤ ii k by rw [show (0 : Int32) = ii 0 from rfl, ii_le (by omega) (by omega)]; omega), if_pos d]
      simp only [cX C1.1, cP C1.1, zb_some, m3]
      exact CG_ret C1
    · obtain ⟨n, rfl⟩ := Int.eq_ofNat_of_zero_le (show 0 ≤ k by omega)
      rw [if_pos (show (0 : Int32) ≤ ii (n : Int) by rw [show (0 : Int32) = ii 0 from rfl, ii_le (by omega) (by omega)]; omega), if_neg d]
      simp only [cX C1.1, cP C1.1, zb_some, m2]
      by_cases f : (n : Int) < (om s : Nat)
      · have x104 := zai_ii C1.1 (p := 104) (n := 6) (i := (n : Int)) (by omega) (by decide +kernel) (by omega) (by omega) (by omega)
        rw [Int.toNat_natCast, m4 n (by omega)] at x104
        rw [if_neg (show ¬ ii ((om s : Nat) : Int) ≤ ii (n : Int) by rw [ii_le (by omega) (by omega)]; omega), if_pos f, x104, zb_some, Int.toNat_natCast]
        exact CG_ret C1
      · rw [if_pos (show ii ((om s : Nat) : Int) ≤ ii (n : Int) by rw [ii_le (by omega) (by omega)]; omega), if_neg f]
        exact CG_ret C1
  · rw [bzF c, if_neg (show ¬ ¬ (0 : Int32) = 0 by decide), if_neg c]
    exact CG_ret h
