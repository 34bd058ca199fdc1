/-! HILL, the reference's reader: words, numbers -/
theorem wlt : (∀ j, j < 4 → ltr.getD (0 + 0 + j) 0 = (wdl 0).getD j 0) ∧ (∀ j, j < 5 → ltr.getD (4 + 0 + j) 0 = (wdl 1).getD j 0) ∧ (∀ j, j < 4 → ltr.getD (9 + 0 + j) 0 = (wdl 2).getD j 0) ∧ (∀ j, j < 5 → ltr.getD (13 + 0 + j) 0 = (wdl 3).getD j 0) ∧ ∀ j, j < 4 → ltr.getD (18 + 0 + j) 0 = (wdl 4).getD j 0 := by decide
theorem wdl_b : ∀ w : Nat, w < 5 → ∀ c ∈ wdl w, 0 ≤ c ∧ c ≤ 127 := by decide
def wof (w : Nat) : Nat := if w = 0 then 0 else if w = 1 then 4 else if w = 2 then 9 else if w = 3 then 13 else 18
theorem wof_l : ∀ w : Nat, w < 5 → wof w + (wdl w).length ≤ 22 ∧ ∀ j, j < (wdl w).length → ltr.getD (wof w + 0 + j) 0 = (wdl w).getD j 0 := by decide
theorem mwd_5 {T : Nat → Int} {n p : Nat} : mwd T n p < 5 := by
  unfold mwd
  (repeat' split)
  all_goals omega
section ZDW
variable {M0 M : ZMem} {s0 s : ZSt} {n f p : Nat}
def okv (T : Nat → Int) (n p : Nat) : Int32 := if cpf T n (wdl (mwd T n p)) p = (wdl (mwd T n p)).length ∧ sg T n (p + (wdl (mwd T n p)).length) = 32 then 1 else 0
theorem okv_n (T : Nat → Int) (n p : Nat) : narrow .boolean (.int (okv T n p)) = .int (okv T n p) := nb01 _
def plw (T : Nat → Int) (n p : Nat) : Nat := if cpf T n (wdl (mwd T n p)) p = (wdl (mwd T n p)).length then (if sg T n (p + (wdl (mwd T n p)).length) = 32 then p + (wdl (mwd T n p)).length + 1 else p + (wdl (mwd T n p)).length) else p + cpf T n (wdl (mwd T n p)) p
/-- the state stays one of this hill's -/
theorem FS.u (h : FS s0 s f) {p k : Nat} {v : Int} (hp : (p = 141 ∧ k = f) ∨ ((142 ≤ p ∧ p ≤ 145) ∧ 10 * f ≤ k) ∨ (p = 146 ∧ 100 * f ≤ k)) : FS s0 (up s p k v) f := by
  obtain ⟨a, b, c, d⟩ := h
  refine ⟨fun q hq => ?_, fun x hx => ?_, fun x hx => ⟨?_, ?_, ?_, ?_⟩, fun x hx => ?_⟩
  · rw [← a q hq]
    funext j
    exact up_ne (by omega)
  · rw [up_eq, if_neg (by omega)]; exact b x hx
  · rw [up_eq, if_neg (by omega)]; exact (c x hx).1
  · rw [up_eq, if_neg (by omega)]; exact (c x hx).2.1
  · rw [up_eq, if_neg (by omega)]; exact (c x hx).2.2.1
  · rw [up_eq, if_neg (by omega)]; exact (c x hx).2.2.2
  · rw [up_eq, if_neg (by omega)]; exact d x hx
theorem PM.u (h : PM M0 s0 f M s p) {q k : Nat} {v : Int} (hp : (q = 141 ∧ k = f) ∨ ((142 ≤ q ∧ q ≤ 145) ∧ 10 * f ≤ k) ∨ (q = 146 ∧ 100 * f ≤ k)) : PM M0 s0 f (zpI M q k (ii v)) (up s q k v) p := ⟨⟨h.1.1.u (by omega), h.1.2.u hp⟩, (zI_ne (by omega)).trans h.2⟩
theorem d155 (hH : HM s0 n f) (h : PM M0 s0 f M s p) (hp : p ≤ n) {c : Nat} (hc : 10 * f ≤ c ∧ c < 60) : ∃ M', f_155 M 133 (ii (c : Int)) = some (okv (s0 140) n p, M') ∧ PM M0 s0 f M' (up s 142 c (mwd (s0 140) n p : Nat)) (plw (s0 140) n p) ∧ F1 M M' := by
  have hL := h.1.1.1
  have n100 := hH.1.2.1
  have b := sgb hH p
  have b3 := sgb hH (p + 3)
  have hw : ∀ (x : Int), zsa M 20 142 (ii (c : Int)) (ii x) = some (zpI M 142 c (ii x)) := fun x => by rw [zsa_ii hL (p := 142) (n := 60) (by omega) (by decide +kernel) (by omega) (by omega) (by omega), Int.toNat_natCast]
  have run : ∀ (w : Nat), w < 5 → mwd (s0 140) n p = w → ∃ M', f_157 (zpI M 142 c (ii (w : Int))) 133 (ii (wof w : Int)) (ii ((wdl w).length : Int)) = some (okv (s0 140) n p, M') ∧ PM M0 s0 f M' (up s 142 c (mwd (s0 140) n p : Nat)) (plw (s0 140) n p) ∧ F1 M M' := by
    intro w h5 ew
    have P1 : PM M0 s0 f (zpI M 142 c (ii (w : Int))) (up s 142 c (w : Int)) p := h.u (.inr (.inl ⟨by omega, hc.1⟩))
    obtain ⟨w1, w2⟩ := wof_l w h5
    obtain ⟨M', m1, m2, m3⟩ := d157 hH (o := wof w) (L := (wdl w).length) w1 (wdl w) zF 0 p _ P1 hp (wdl_b w h5) (by omega) w2 (by unfold zF; omega)
    unfold okv plw
    rw [ew]
    refine ⟨M', ?_, m2, ((F1.rf M).q (by omega) (by omega)).tr m3⟩
    unfold f_157
    rw [if_pos (dM hL.p).1]
    exact m1
  unfold f_155
  rw [if_pos (dM hL).1, d156 hH h (by omega), zb_some]
  have fin : ∀ (t : Option (Int32 × ZMem)), (∃ M', t = some (okv (s0 140) n p, M') ∧ PM M0 s0 f M' (up s 142 c (mwd (s0 140) n p : Nat)) (plw (s0 140) n p) ∧ F1 M M') → ∃ M', (zbd t fun x11 M13 => if narrow .boolean (.int x11) = .int x11 then some (x11, M13) else none) = some (okv (s0 140) n p, M') ∧ PM M0 s0 f M' (up s 142 c (mwd (s0 140) n p : Nat)) (plw (s0 140) n p) ∧ F1 M M' := by
    rintro t ⟨M', e, r⟩
    exact ⟨M', by rw [e, zbd_some, if_pos (okv_n _ _ _)], r⟩
  by_cases c1 : sg (s0 140) n p = 99
  · rw [if_pos (show ii (sg (s0 140) n p) = 99 by rw [c1]; rfl)]
    simp only [dM hL, zb_some]
    rw [show (1 : Int32) = ii ((1 : Nat) : Int) from rfl, hw, zb_some]
    exact fin _ (run 1 (by omega) (by unfold mwd; rw [if_pos c1]))
  · rw [if_neg (show ¬ ii (sg (s0 140) n p) = 99 by rw [show (99 : Int32) = ii 99 from rfl, ii_eq (by omega) (by omega)]; exact c1)]
    by_cases c2 : sg (s0 140) n p = 100
    · rw [if_pos (show ii (sg (s0 140) n p) = 100 by rw [c2]; rfl)]
      simp only [dM hL, zb_some]
      rw [show (0 : Int32) = ii ((0 : Nat) : Int) from rfl, hw, zb_some]
      exact fin _ (run 0 (by omega) (by unfold mwd; rw [if_neg c1, if_pos c2]))
    · rw [if_neg (show ¬ ii (sg (s0 140) n p) = 100 by rw [show (100 : Int32) = ii 100 from rfl, ii_eq (by omega) (by omega)]; exact c2)]
      by_cases c3 : sg (s0 140) n p = 119
      · rw [if_pos (show ii (sg (s0 140) n p) = 119 by rw [c3]; rfl)]
        simp only [dM hL, zb_some]
        rw [show (4 : Int32) = ii ((4 : Nat) : Int) from rfl, hw, zb_some]
        exact fin _ (run 4 (by omega) (by unfold mwd; rw [if_neg c1, if_neg c2, if_pos c3]))
      · rw [if_neg (show ¬ ii (sg (s0 140) n p) = 119 by rw [show (119 : Int32) = ii 119 from rfl, ii_eq (by omega) (by omega)]; exact c3)]
        have e11 : s 133 11 = (n : Int) := (congrFun (h.1.2.1 133 (by omega)) 11).trans hH.1.1
        have g11 : zgi M 12 11 133 = some (ii (n : Int)) := rFx h.1.1 (by decide) rfl e11
        have r1 : ∀ w : Nat, (w = 2 ∨ w = 3) → mwd (s0 140) n p = w → ∃ M', f_155_122 M 133 (ii (c : Int)) (ii (w : Int)) (ii (c : Int)) (some 142) = some (okv (s0 140) n p, M') ∧ PM M0 s0 f M' (up s 142 c (mwd (s0 140) n p : Nat)) (plw (s0 140) n p) ∧ F1 M M' := by
          intro w hw23 ew
          unfold f_155_122
          rw [zb_some, hw, zb_some]
          simp only [dM hL.p, zb_some]
          rw [zai_ii hL.p (p := 142) (n := 60) (by omega) (by decide +kernel) (by omega) (by omega) (by omega), Int.toNat_natCast, zb_some, zI_at]
          rcases hw23 with rfl | rfl
          · rw [if_pos (show ¬ ii ((2 : Nat) : Int) = 3 by decide)]
            exact fin _ (run 2 (by omega) ew)
          · rw [if_neg (show ¬ ¬ ii ((3 : Nat) : Int) = 3 by decide)]
            exact fin _ (run 3 (by omega) ew)
        simp only [dM hL, zb_some, g11, h.2]
        rw [show (3 : Int32) = ii 3 from rfl, ii_add]
        by_cases c4 : n ≤ p + 3
        · have s3 : sg (s0 140) n (p + 3) = -1 := if_neg (by omega)
          rw [if_pos (show ii (n : Int) ≤ ii ((p : Int) + 3) by rw [ii_le (by omega) (by omega)]; omega)]
          exact r1 2 (.inl rfl) (by unfold mwd; rw [if_neg c1, if_neg c2, if_neg c3, if_neg (by omega)])
        · have s3 : sg (s0 140) n (p + 3) = s0 140 (p + 3) := if_pos (by omega)
          have e140 : s 140 (p + 3) = s0 140 (p + 3) := congrFun (h.1.2.1 140 (by omega)) (p + 3)
          rw [if_neg (show ¬ ii (n : Int) ≤ ii ((p : Int) + 3) by rw [ii_le (by omega) (by omega)]; omega), show (p : Int) + 3 = ((p + 3 : Nat) : Int) by omega, zai_ii hL (p := 140) (n := 100) (by omega) (by decide +kernel) (by omega) (by omega) (by omega), zb_some, Int.toNat_natCast, h.1.1.2.2 140 (p + 3) rfl, e140, ← s3]
          by_cases c5 : sg (s0 140) n (p + 3) = 99
          · rw [if_neg (show ¬ ¬ ii (sg (s0 140) n (p + 3)) = 99 by rw [c5]; exact fun q => q rfl)]
            exact r1 3 (.inr rfl) (by unfold mwd; rw [if_neg c1, if_neg c2, if_neg c3, if_pos c5])
          · rw [if_pos (show ¬ ii (sg (s0 140) n (p + 3)) = 99 by rw [show (99 : Int32) = ii 99 from rfl, ii_eq (by omega) (by omega)]; exact c5)]
            exact r1 2 (.inl rfl) (by unfold mwd; rw [if_neg c1, if_neg c2, if_neg c3, if_neg c5])
theorem d160 (hH : HM s0 n f) (h : PM M0 s0 f M s p) (hp : p ≤ 200) : f_160 M 133 = some (if 48 ≤ sg (s0 140) n p ∧ sg (s0 140) n p ≤ 57 then 1 else 0) := by
  have hL := h.1.1.1
  have b := sgb hH p
  unfold f_160
  rw [if_pos (dM hL).1, d156 hH h hp, zb_some, show (48 : Int32) = ii 48 from rfl, show (57 : Int32) = ii 57 from rfl, c147i hL (by omega) (by omega) (by omega), zb_some, if_pos (nb01 _)]
theorem d159 (hH : HM s0 n f) (h : PM M0 s0 f M s p) (hp : p ≤ n) : ∃ M', f_159 M 133 = some (if (pNum (s0 140) n p).2.isSome = true then 1 else 0, M') ∧ PM M0 s0 f M' s (pNum (s0 140) n p).1 ∧ F1 M M' ∧ ∀ v, (pNum (s0 140) n p).2 = some v → zI M' 133 13 = ii v := by
  have hL := h.1.1.1
  have n100 := hH.1.2.1
  have b := sgb hH p
  have b1 := sgb hH (p + 1)
  unfold f_159 pNum
  rw [if_pos (dM hL).1, d160 hH h (by omega), zb_some]
  by_cases c : 48 ≤ sg (s0 140) n p ∧ sg (s0 140) n p ≤ 57
  · have hz : ∃ w, zF = w + 3 := ⟨zF - 3, by unfold zF; omega⟩
    obtain ⟨w, hw⟩ := hz
    have P1 : PM M0 s0 f (zpI M 133 13 0) s p := ⟨⟨MS_scr h.1.1 (by omega) rfl, h.1.2⟩, (zI_nk (by omega)).trans h.2⟩
    have e1 : zI (zpI M 133 13 0) 133 13 = ii 0 := zI_at
    rw [if_pos c, if_pos c, if_pos (show ¬ (1 : Int32) = 0 by decide), (dM hL).2.2.2.2.2.2.2.1, zb_some, hw, f_159_16, if_neg (by decide), d160 hH P1 (by omega), zb_some, if_pos c, if_neg (by decide)]
    have P2 : PM M0 s0 f (zpI (zpI M 133 13 0) 133 13 (ii (sg (s0 140) n p - 48))) s p := ⟨⟨MS_scr P1.1.1 (by omega) rfl, h.1.2⟩, (zI_nk (by omega)).trans P1.2⟩
    have P3 := P2.pl (p + 1)
    have e2 : zI (zpI (zpI (zpI M 133 13 0) 133 13 (ii (sg (s0 140) n p - 48))) 133 12 (ii ((p + 1 : Nat) : Int))) 133 13 = ii (sg (s0 140) n p - 48) := (zI_nk (by omega)).trans zI_at
    simp only [dM P1.1.1.1, zb_some, e1, d156 hH P1 (show p ≤ 200 by omega)]
    rw [show (10 : Int32) = ii 10 from rfl, show (48 : Int32) = ii 48 from rfl, ii_mul, ii_add, ii_sub, show (10 : Int) * 0 + sg (s0 140) n p - 48 = sg (s0 140) n p - 48 by omega]
    simp only [dM P2.1.1.1, zb_some, P2.2, ii_s1]
    rw [f_159_16, if_neg (by decide), d160 hH P3 (by omega), zb_some]
    by_cases d : 48 ≤ sg (s0 140) n (p + 1) ∧ sg (s0 140) n (p + 1) ≤ 57
    · rw [if_pos d, if_pos d, if_neg (by decide)]
      have P4 : PM M0 s0 f (zpI (zpI (zpI (zpI M 133 13 0) 133 13 (ii (sg (s0 140) n p - 48))) 133 12 (ii ((p + 1 : Nat) : Int))) 133 13 (ii ((sg (s0 140) n p - 48) * 10 + sg (s0 140) n (p + 1) - 48))) s (p + 1) := ⟨⟨MS_scr P3.1.1 (by omega) rfl, h.1.2⟩, (zI_nk (by omega)).trans P3.2⟩
      have P5 := P4.pl (p + 2)
      simp only [dM P3.1.1.1, zb_some, e2, d156 hH P3 (show p + 1 ≤ 200 by omega)]
      rw [show (10 : Int32) = ii 10 from rfl, show (48 : Int32) = ii 48 from rfl, ii_mul, ii_add, ii_sub, show (10 : Int) * (sg (s0 140) n p - 48) + sg (s0 140) n (p + 1) - 48 = (sg (s0 140) n p - 48) * 10 + sg (s0 140) n (p + 1) - 48 by omega]
      simp only [dM P4.1.1.1, zb_some, P4.2, ii_s1]
      rw [f_159_16, if_pos (by decide)]
      refine ⟨_, rfl, P5, ((((F1.rf M).p (.inr rfl)).p (.inr rfl)).p (.inl rfl)).p (.inr rfl) |>.p (.inl rfl), fun v hv => ?_⟩
      cases hv
      exact (zI_nk (by omega)).trans zI_at
    · rw [if_neg d, if_neg d, if_pos rfl]
      refine ⟨_, rfl, P3, (((F1.rf M).p (.inr rfl)).p (.inr rfl)).p (.inl rfl), fun v hv => ?_⟩
      cases hv
      exact e2
  · rw [if_neg c, if_neg c, if_neg (fun q => q rfl)]
    exact ⟨M, rfl, h, F1.rf M, fun v hv => by cases hv⟩
theorem d163 {M : ZMem} (h : Ly M) {c : Int} (hc : -1 ≤ c ∧ c ≤ 127) : f_163 M 133 (ii c) = some (ii (plc c)) := by
  unfold f_163 plc
  rw [if_pos (dM h).1, show (98 : Int32) = ii 98 from rfl, show (100 : Int32) = ii 100 from rfl, show (107 : Int32) = ii 107 from rfl, show (116 : Int32) = ii 116 from rfl, show (118 : Int32) = ii 118 from rfl, show (121 : Int32) = ii 121 from rfl]
  simp (disch := omega) only [ii_eq]
  repeat' split
  all_goals rfl
end ZDW
