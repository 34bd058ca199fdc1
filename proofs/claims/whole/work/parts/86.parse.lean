/-! HILL, the reference's reader: clauses, the whole -/
section ZDX
variable {M0 M : ZMem} {s0 s : ZSt} {n f p : Nat} {out : List Int}
theorem PQ.pl (h : PQ M0 s0 f M s p out) (q : Nat) : PQ M0 s0 f (zpI M 133 12 (ii (q : Int))) s q out := ⟨h.1.pl q, (zI_nk (by omega)).trans h.2.1, h.2.2⟩
theorem PQ.u (h : PQ M0 s0 f M s p out) {q k : Nat} {v : Int} (hp : (q = 141 ∧ k = f) ∨ ((142 ≤ q ∧ q ≤ 145) ∧ 10 * f ≤ k)) : PQ M0 s0 f (zpI M q k (ii v)) (up s q k v) p out := ⟨h.1.u (hp.elim .inl fun t => .inr (.inl t)), (zI_ne (by omega)).trans h.2.1, fun i hi => (up_ne (by omega)).trans (h.2.2 i hi)⟩
theorem PQ.f1 {M' : ZMem} {q : Nat} (h : PQ M0 s0 f M s p out) (h' : PM M0 s0 f M' s q) (e : F1 M M') : PQ M0 s0 f M' s q out := ⟨h', (e.1 22 (by omega) (by omega)).trans h.2.1, h.2.2⟩
theorem d154 (hH : HM s0 n f) {c : Nat} (hc : 10 * f ≤ c ∧ c < 60) (h : PQ M0 s0 f M s p out) (hp : p ≤ n) (hl : out.length ≤ p) : (∀ q cl, pCl (s0 140) n p = (q, some cl) → ∃ M' s', f_154 M 133 (ii (c : Int)) = some (1, M') ∧ PQ M0 s0 f M' s' q (out ++ cl.2.2) ∧ s' 141 = s 141 ∧ (∀ k, k ≠ c → s' 142 k = s 142 k ∧ s' 143 k = s 143 k ∧ s' 144 k = s 144 k ∧ s' 145 k = s 145 k) ∧ s' 142 c = (cl.1 : Int) ∧ s' 143 c = cl.2.1 ∧ (cl.1 ≤ 1 → s' 144 c = ((100 * f + out.length : Nat) : Int) ∧ s' 145 c = ((100 * f + (out ++ cl.2.2).length : Nat) : Int))) ∧ ∀ q, pCl (s0 140) n p = (q, none) → ∃ M' s', f_154 M 133 (ii (c : Int)) = some (0, M') ∧ PM M0 s0 f M' s' q := by
  have n100 := hH.1.2.1
  have hL := h.1.1.1.1
  have w5 := mwd_5 (T := s0 140) (n := n) (p := p)
  obtain ⟨M1, m1, m2, m3⟩ := d155 hH h.1 hp hc
  have P1 : PQ M0 s0 f M1 (up s 142 c (mwd (s0 140) n p : Nat)) (plw (s0 140) n p) out := ⟨m2, (m3.1 22 (by omega) (by omega)).trans h.2.1, fun i hi => (up_ne (by omega)).trans (h.2.2 i hi)⟩
  unfold f_154 pCl
  rw [if_pos (dM hL).1, m1, zbd_some, pWd_m]
  generalize hw : mwd (s0 140) n p = w at *
  have hcb := cpf_b (T := s0 140) (n := n) (wdl w) p (wdl_c w w5).1 hp
  by_cases c1 : cpf (s0 140) n (wdl w) p = (wdl w).length
  · rw [if_pos c1]
    simp only
    by_cases c2 : sg (s0 140) n (p + (wdl w).length) = 32
    · have ql := sg_e c2 (by omega)
      have ev : okv (s0 140) n p = 1 := by unfold okv; rw [hw]; exact if_pos ⟨c1, c2⟩
      have ep : plw (s0 140) n p = p + (wdl w).length + 1 := by unfold plw; rw [hw, if_pos c1, if_pos c2]
      rw [ep] at P1
      rw [ev, if_neg (show ¬ (1 : Int32) = 0 by decide), if_pos c2]
      obtain ⟨M2, t1, t2, t3, t4⟩ := d159 hH P1.1 (by omega)
      have P2 := P1.f1 t2 t3
      have L2 := P2.1.1.1.1
      obtain ⟨g1, g2⟩ := pNum_g (T := s0 140) (n := n) (p := p + (wdl w).length + 1) (by omega)
      rw [t1, zbd_some]
      cases hq : pNum (s0 140) n (p + (wdl w).length + 1) with
      | mk r o =>
        rw [hq] at P2 t4
        cases o with
        | none =>
          simp only [Option.isSome_none, Bool.false_eq_true, if_false]
          rw [if_neg (fun t => t trivial)]
          refine ⟨fun q e he => (by cases he), fun q he => ?_⟩
          cases he
          exact ⟨M2, _, rfl, P2.1⟩
        | some v =>
          have bb := g1 r v hq
          have P3 : PQ M0 s0 f (zpI M2 143 c (ii v)) (up (up s 142 c (w : Int)) 143 c v) r out := P2.u (.inr ⟨by omega, hc.1⟩)
          have L3 := P3.1.1.1.1
          have e142 : zai (zpI M2 143 c (ii v)) 142 (ii (c : Int)) = some (ii (w : Int)) := by
            rw [zai_ii L3 (p := 142) (n := 60) (by omega) (by decide +kernel) (by omega) (by omega) (by omega), Int.toNat_natCast, P3.1.1.1.2.2 142 c rfl, up_ne (by omega), up_at]
          simp only [Option.isSome_some, if_true]
          rw [if_pos (show ¬ (1 : Int32) = 0 by decide)]
          simp only [dM L2, zb_some, t4 v rfl]
          rw [zsa_ii L2 (p := 143) (n := 60) (by omega) (by decide +kernel) (by omega) (by omega) (by omega), zb_some, Int.toNat_natCast]
          simp only [dM L3, zb_some]
          rw [e142, zb_some]
          by_cases c3 : w ≤ 1
          · rw [if_neg (show ¬ (2 : Int32) ≤ ii (w : Int) by rw [show (2 : Int32) = ii 2 from rfl, ii_le (by omega) (by omega)]; omega), if_pos c3, show (32 : Int32) = ii 32 from rfl, d158 hH P3.1 (by omega) (c := 32) (by omega), zbd_some]
            by_cases c4 : sg (s0 140) n r = 32
            · have rl := sg_e c4 (by omega)
              have P4 := P3.pl (r + 1)
              obtain ⟨i1, i2⟩ := e161 hH hc P4 (by omega) (by omega)
              simp only [if_pos c4]
              rw [if_neg (show ¬ (1 : Int32) = 0 by decide)]
              cases hE : pE (s0 140) n (pF (s0 140) n 8 0) (r + 1) with
              | mk t o =>
                cases o with
                | none =>
                  obtain ⟨M5, s5, a1, a2⟩ := i2 t hE
                  rw [a1, zbd_some, if_pos rfl]
                  refine ⟨fun q e he => (by cases he), fun q he => ?_⟩
                  cases he
                  exact ⟨M5, s5, rfl, a2⟩
                | some e =>
                  obtain ⟨M5, s5, a1, a2, a3, a4, a5, a6⟩ := i1 t e hE
                  rw [a1, zbd_some, if_neg (show ¬ (1 : Int32) = 0 by decide)]
                  refine ⟨fun q cl he => ?_, fun q he => by cases he⟩
                  cases he
                  refine ⟨M5, s5, rfl, a2, ?_, fun k hk => ⟨?_, ?_, ?_, ?_⟩, ?_, ?_, fun _ => ⟨a5, a6⟩⟩
                  · rw [a3 141 (by omega) (by omega) (by omega)]
                    funext j
                    rw [up_ne (by omega), up_ne (by omega)]
                  · rw [a3 142 (by omega) (by omega) (by omega), up_ne (by omega), up_nk hk]
                  · rw [a3 143 (by omega) (by omega) (by omega), up_nk hk, up_ne (by omega)]
                  · rw [(a4 k hk).1, up_ne (by omega), up_ne (by omega)]
                  · rw [(a4 k hk).2, up_ne (by omega), up_ne (by omega)]
                  · rw [a3 142 (by omega) (by omega) (by omega), up_ne (by omega), up_at]
                  · rw [a3 143 (by omega) (by omega) (by omega), up_at]
            · simp only [if_neg c4]
              rw [if_pos trivial]
              refine ⟨fun q e he => (by cases he), fun q he => ?_⟩
              cases he
              exact ⟨_, _, rfl, P3.1⟩
          · rw [if_pos (show (2 : Int32) ≤ ii (w : Int) by rw [show (2 : Int32) = ii 2 from rfl, ii_le (by omega) (by omega)]; omega), if_neg c3]
            refine ⟨fun q cl he => ?_, fun q he => by cases he⟩
            cases he
            refine ⟨_, _, rfl, by simp only [List.append_nil]; exact P3, ?_, fun k hk => ⟨?_, ?_, ?_, ?_⟩, ?_, ?_, fun q => absurd q c3⟩
            · funext j; rw [up_ne (by omega), up_ne (by omega)]
            · rw [up_ne (by omega), up_nk hk]
            · rw [up_nk hk, up_ne (by omega)]
            · rw [up_ne (by omega), up_ne (by omega)]
            · rw [up_ne (by omega), up_ne (by omega)]
            · rw [up_ne (by omega), up_at]
            · rw [up_at]
    · have ev : okv (s0 140) n p = 0 := by unfold okv; rw [hw]; exact if_neg (fun t => c2 t.2)
      have ep : plw (s0 140) n p = p + (wdl w).length := by unfold plw; rw [hw, if_pos c1, if_neg c2]
      rw [ep] at P1
      rw [ev, if_pos rfl, if_neg c2]
      refine ⟨fun q e he => (by cases he), fun q he => ?_⟩
      cases he
      exact ⟨M1, _, rfl, P1.1⟩
  · have ev : okv (s0 140) n p = 0 := by unfold okv; rw [hw]; exact if_neg (fun t => c1 t.1)
    have ep : plw (s0 140) n p = p + cpf (s0 140) n (wdl w) p := by unfold plw; rw [hw, if_neg c1]
    rw [ep] at P1
    rw [ev, if_pos rfl, if_neg c1]
    refine ⟨fun q e he => (by cases he), fun q he => ?_⟩
    cases he
    exact ⟨M1, _, rfl, P1.1⟩
/-- clauses and their signs, as they lie -/
def HCr (s : ZSt) (f : Nat) (out : List Int) : Nat → List (Nat × Int × List Int) → Prop
  | _, [] => True
  | k, c :: r => (s 142 k = c.1 ∧ s 143 k = c.2.1 ∧ c.1 < 5 ∧ (c.1 ≤ 1 → ∃ x y, out = x ++ (c.2.2 ++ y) ∧ s 144 k = ((100 * f + x.length : Nat) : Int) ∧ s 145 k = ((100 * f + (x ++ c.2.2).length : Nat) : Int))) ∧ HCr s f out (k + 1) r
theorem HCr_m {s' : ZSt} (e : List Int) : ∀ (cs : List (Nat × Int × List Int)) (k : Nat), HCr s f out k cs → (∀ j, j < k + cs.length → s' 142 j = s 142 j ∧ s' 143 j = s 143 j ∧ s' 144 j = s 144 j ∧ s' 145 j = s 145 j) → HCr s' f (out ++ e) k cs := by
  intro cs
  induction cs with
  | nil => intro k _ _; trivial
  | cons c r ih =>
    intro k h hs
    obtain ⟨⟨a1, a2, a3, a4⟩, a5⟩ := h
    simp only [List.length_cons] at hs
    obtain ⟨b1, b2, b3, b4⟩ := hs k (by omega)
    refine ⟨⟨b1.trans a1, b2.trans a2, a3, fun q => ?_⟩, ih (k + 1) a5 (fun j hj => hs j (by omega))⟩
    obtain ⟨x, y, y1, y2, y3⟩ := a4 q
    exact ⟨x, y ++ e, by rw [y1]; simp, b3.trans y2, b4.trans y3⟩
theorem HCr_s {c : Nat × Int × List Int} : ∀ (cs : List (Nat × Int × List Int)) (k : Nat), HCr s f out k cs → HCr s f out (k + cs.length) [c] → HCr s f out k (cs ++ [c]) := by
  intro cs
  induction cs with
  | nil => intro k _ h; exact h
  | cons d r ih =>
    intro k h h2
    refine ⟨h.1, ih (k + 1) h.2 ?_⟩
    rw [List.length_cons, show k + (r.length + 1) = k + 1 + r.length by omega] at h2
    exact h2
theorem HCr_c (hO : ∀ i, i < out.length → s 146 (100 * f + i) = out.getD i 0) (hl : out.length ≤ 100) : ∀ (cs : List (Nat × Int × List Int)) (k : Nat), HCr s f out k cs → HC s (100 * (f : Int) + 100) k cs := by
  intro cs
  induction cs with
  | nil => intro k _; trivial
  | cons c r ih =>
    intro k h
    obtain ⟨⟨a1, a2, a3, a4⟩, a5⟩ := h
    refine ⟨⟨a1, a2, a3, fun q => ?_⟩, ih (k + 1) a5⟩
    obtain ⟨x, y, y1, y2, y3⟩ := a4 q
    have lo : out.length = x.length + (c.2.2.length + y.length) := by rw [y1]; simp
    simp only [List.length_append] at y3
    refine ⟨?_, by omega, by omega, by omega⟩
    unfold sgl
    rw [y2, y3, show (((100 * f + (x.length + c.2.2.length) : Nat) : Int) - ((100 * f + x.length : Nat) : Int)).toNat = c.2.2.length by omega, Int.toNat_natCast]
    apply List.ext_getElem
    · simp
    · intro i h1 h2
      simp only [List.getElem_map, List.getElem_range]
      rw [show 100 * f + x.length + i = 100 * f + (x.length + i) by omega, hO (x.length + i) (by omega), y1, gd_app2 (by omega), show x.length + i - x.length = i by omega, gd_app1 h2]
      simp [List.getD, h2]
theorem d153l (hH : HM s0 n f) : ∀ (kk z p b2 : Nat) (a : List (Nat × Int × List Int)) (out : List Int) (M : ZMem) (s : ZSt), b2 + kk = 10 → 1 ≤ kk → kk < z → a.length = b2 → PQ M0 s0 f M s p out → out.length ≤ p → p ≤ n → HCr s f out (10 * f) a → (∀ q cs, pHl (s0 140) n kk p a = (q, some cs) → ∃ M' s' out', f_153_15 z M 133 (ii (f : Int)) (ii (b2 : Int)) = some (1, M') ∧ PQ M0 s0 f M' s' q out' ∧ out'.length ≤ n ∧ HCr s' f out' (10 * f) cs ∧ s' 141 f = (cs.length : Int)) ∧ ∀ q, pHl (s0 140) n kk p a = (q, none) → ∃ M' s', f_153_15 z M 133 (ii (f : Int)) (ii (b2 : Int)) = some (0, M') ∧ PM M0 s0 f M' s' q := by
  have n100 := hH.1.2.1
  have hf := hH.1.2.2
  intro kk
  induction kk with
  | zero => intro z p b2 a out M s _ h; omega
  | succ kk ih =>
    intro z p b2 a out M s e10 _ hz ha h hl hp hC
    obtain ⟨w, rfl⟩ : ∃ w, z = w + 1 := ⟨z - 1, by omega⟩
    have hc : 10 * f ≤ 10 * f + b2 ∧ 10 * f + b2 < 60 := by omega
    obtain ⟨i1, i2⟩ := d154 hH hc h hp hl
    obtain ⟨g1, g2⟩ := pCl_g (T := s0 140) hp
    have ec : (10 : Int32) * ii (f : Int) + ii (b2 : Int) = ii ((10 * f + b2 : Nat) : Int) := by
      rw [show (10 : Int32) = ii 10 from rfl, ii_mul, ii_add]
      congr 1
    rw [pHl, f_153_15, ec]
    cases hq : pCl (s0 140) n p with
    | mk q o =>
      cases o with
      | none =>
        obtain ⟨M', s', a1, a2⟩ := i2 q hq
        rw [a1, zbd_some, if_neg (fun t => t rfl)]
        refine ⟨fun q e he => (by cases he), fun q he => ?_⟩
        cases he
        exact ⟨M', s', rfl, a2⟩
      | some cl =>
        have bb := g1 q cl hq
        obtain ⟨M1, s1, a1, a2, a3, a4, a5, a6, a7⟩ := i1 q cl hq
        have L1 := a2.1.1.1.1
        have P2 : PQ M0 s0 f (zpI M1 141 f (ii ((b2 + 1 : Nat) : Int))) (up s1 141 f ((b2 + 1 : Nat) : Int)) q (out ++ cl.2.2) := a2.u (.inl ⟨rfl, rfl⟩)
        have L2 := P2.1.1.1.1
        have lo : (out ++ cl.2.2).length ≤ q := by simp only [List.length_append]; omega
        have C2 : HCr (up s1 141 f ((b2 + 1 : Nat) : Int)) f (out ++ cl.2.2) (10 * f) (a ++ [cl]) := by
          refine HCr_s a (10 * f) (HCr_m cl.2.2 a (10 * f) hC fun j hj => ?_) ?_
          · have := a4 j (by omega)
            rw [up_ne (by omega), up_ne (by omega), up_ne (by omega), up_ne (by omega)]
            exact this
          · rw [ha]
            refine ⟨⟨(up_ne (by omega)).trans a5, (up_ne (by omega)).trans a6, bb.2.2.1, fun q => ⟨out, [], by simp, (up_ne (by omega)).trans (a7 q).1, (up_ne (by omega)).trans (a7 q).2⟩⟩, trivial⟩
        have e11 : (up s1 141 f ((b2 + 1 : Nat) : Int)) 133 11 = (n : Int) := (congrFun (P2.1.1.2.1 133 (by omega)) 11).trans hH.1.1
        have g11 : zgi (zpI M1 141 f (ii ((b2 + 1 : Nat) : Int))) 12 11 133 = some (ii (n : Int)) := rFx P2.1.1.1 (by decide) rfl e11
        rw [a1, zbd_some, if_pos (show ¬ (1 : Int32) = 0 by decide)]
        simp only [dM L1, zb_some, ii_s1]
        rw [zsa_ii L1 (p := 141) (n := 6) (by omega) (by decide +kernel) (by omega) (by omega) (by omega), zb_some, Int.toNat_natCast, (dM L2).2.1, zb_some, g11, zb_some, P2.1.2]
        by_cases e : q = n
        · rw [if_neg (show ¬ ¬ ii (q : Int) = ii (n : Int) by rw [e]; exact fun t => t rfl), if_pos e]
          refine ⟨fun r cs he => ?_, fun q he => by cases he⟩
          cases he
          exact ⟨_, _, _, rfl, P2, by omega, C2, by rw [up_at, List.length_append, ha]; rfl⟩
        · rw [if_pos (show ¬ ii (q : Int) = ii (n : Int) by rw [ii_eq (by omega) (by omega)]; omega), if_neg e]
          by_cases k0 : kk = 0
          · rw [if_pos (show ii ((b2 + 1 : Nat) : Int) = 10 by rw [show b2 = 9 by omega]; rfl), if_pos k0]
            refine ⟨fun q e he => (by cases he), fun q he => ?_⟩
            cases he
            exact ⟨_, _, rfl, P2.1⟩
          · rw [if_neg (show ¬ ii ((b2 + 1 : Nat) : Int) = 10 by rw [show (10 : Int32) = ii 10 from rfl, ii_eq (by omega) (by omega)]; omega), if_neg k0, show (59 : Int32) = ii 59 from rfl, d158 hH P2.1 (by omega) (c := 59) (by omega), zbd_some]
            by_cases c59 : sg (s0 140) n q = 59
            · have ql := sg_e c59 (by omega)
              simp only [if_pos c59]
              rw [if_pos (show ¬ (1 : Int32) = 0 by decide)]
              exact ih w (q + 1) (b2 + 1) (a ++ [cl]) (out ++ cl.2.2) _ _ (by omega) (by omega) (by omega) (by rw [List.length_append, ha]; rfl) (P2.pl (q + 1)) (by omega) (by omega) C2
            · simp only [if_neg c59]
              rw [if_neg (fun t => t trivial)]
              refine ⟨fun q e he => (by cases he), fun q he => ?_⟩
              cases he
              exact ⟨_, _, rfl, P2.1⟩
end ZDX
theorem m152 {M0 M : ZMem} {s : ZSt} (h : MS M0 M s) (hI : IX s) : ∃ s', HR s s' ∧ MG M0 (f_152 M 133) (ii (sp60 s)) s' := by
  obtain ⟨hV, hT, hX, hLt⟩ := hI
  have hn := hV.1.1.1
  unfold SIn at hn
  have hL := h.1
  have g9 : zgi M 12 9 133 = some (ii (s 133 9)) := rFx h (by decide) rfl rfl
  by_cases c6 : s 133 9 < 6
  · obtain ⟨f, ef⟩ := Int.eq_ofNat_of_zero_le hn.2.2.2.1.1
    have hf : f < 6 := by omega
    have ft : (s 133 9).toNat = f := by omega
    have hH : HM s (s 133 11).toNat f := ⟨⟨by omega, by omega, hf⟩, fun k hk => hT k (by omega), hLt⟩
    have L1 : Ly (zpI M 133 12 0) := hL.p
    have P0 : PQ M0 s f (zpI (zpI M 133 12 0) 133 22 (ii ((100 * f : Nat) : Int))) s 0 [] := ⟨⟨⟨MS_scr (MS_scr h (by omega) rfl) (by omega) rfl, ⟨fun _ _ => rfl, fun _ _ => rfl, fun _ _ => ⟨rfl, rfl, rfl, rfl⟩, fun _ _ => rfl⟩⟩, (zI_nk (by omega)).trans zI_at⟩, zI_at, fun i hi => absurd hi (Nat.not_lt_zero i)⟩
    obtain ⟨i1, i2⟩ := d153l hH 10 zF 0 0 [] [] _ _ (by omega) (by omega) (by unfold zF; omega) rfl P0 (Nat.le_refl _) (by omega) trivial
    have e153 : f_153 M 133 (ii (s 133 9)) = f_153_15 zF (zpI (zpI M 133 12 0) 133 22 (ii ((100 * f : Nat) : Int))) 133 (ii (f : Int)) (ii ((0 : Nat) : Int)) := by
      unfold f_153
      rw [if_pos (dM hL).1]
      simp only [dM hL, zb_some]
      simp only [dM L1, zb_some]
      rw [show (100 : Int32) = ii 100 from rfl, ii_mul, ef]
      rfl
    have pg := pHl_g (T := s 140) (n := (s 133 11).toNat) 10 0 [] (by omega) (Nat.le_refl _) (fun c hc => by cases hc)
    have e152 : f_152 M 133 = zbd (f_153_15 zF (zpI (zpI M 133 12 0) 133 22 (ii ((100 * f : Nat) : Int))) 133 (ii (f : Int)) (ii ((0 : Nat) : Int))) fun x6 M8 => zb (zpf M8 12 11 133 (.int 0) false) fun M9 => if ¬ x6 = 0 then (zb (zgi M9 12 9 133) fun x12 => zb (zpf M9 12 10 133 (.int x12) false) fun M14 => zb (zgi M14 12 9 133) fun x16 => zb (zpf M14 12 9 133 (.int ((x16 + 1))) false) fun M18 => zb (zgi M18 12 10 133) fun x20 => some (x20, M18)) else (zb (zgi M9 12 12 133) fun x22 => some (((-10) - x22), M9)) := by
      unfold f_152
      rw [if_pos (dM hL).1, g9, zb_some, if_pos (show ¬ ii (s 133 9) = 6 by rw [show (6 : Int32) = ii 6 from rfl, ii_eq (by omega) (by omega)]; omega), zb_some, e153]
    rw [e152]
    unfold sp60
    rw [if_pos c6]
    generalize hr : pHl (s 140) (s 133 11).toNat 10 0 [] = r at i1 i2 pg ⊢
    obtain ⟨q, o⟩ := r
    have hrf : ∀ (t : ZSt), FS s t f → HRf s (up t 133 11 0) := by
      intro t ht
      refine ⟨fun p p1 p2 => ?_, fun j j1 j2 j3 => ?_, fun k hk => ?_, fun k hk => ?_, fun k hk => ?_⟩
      · rw [← ht.1 p p2]; funext j; exact up_ne p1
      · rw [up_nk j3, ht.1 133 (by omega)]
      · rw [up_ne (by omega)]; exact ht.2.1 k (by omega)
      · rw [up_ne (by omega), up_ne (by omega), up_ne (by omega), up_ne (by omega)]; exact ht.2.2.1 k (by omega)
      · rw [up_ne (by omega)]; exact ht.2.2.2 k (by omega)
    cases o with
    | none =>
      have bq := pg.2 q rfl
      obtain ⟨M1, s1, a1, a2⟩ := i2 q rfl
      have hq : ¬ hAns (q, none) < 0 := by show ¬ ((q : Nat) : Int) < 0; omega
      rw [if_neg hq]
      refine ⟨up s1 133 11 0, ⟨fun _ => ⟨hrf s1 a2.1.2, up_at, fun _ => ⟨?_, ?_⟩, fun cs hc => by rw [hr] at hc; cases hc⟩, fun t => absurd c6 t⟩, ?_⟩
      · rw [up_nk (by omega), a2.1.2.1 133 (by omega)]
      · rw [up_nk (by omega), a2.1.2.1 133 (by omega)]
      · have w := wF a2.1.1 (j := 11) (x := 0) (by decide) (by decide) rfl
        obtain ⟨M2, w1, w2⟩ := w
        have e12 : zI M2 133 12 = ii (q : Int) := by
          rw [show zpf M1 12 11 133 (.int (ii 0)) false = some (zpI M1 133 11 (ii 0)) from pI a2.1.1.1 k133 (by decide) (by decide) rfl] at w1
          cases w1
          rw [zI_nk (by omega)]; exact a2.2
        rw [a1, zbd_some, show (0 : Int32) = ii 0 from rfl, w1, zb_some, if_neg (fun t => t rfl), (dM w2.1).2.1, zb_some, e12, show (-10 : Int32) = ii (-10) from rfl, ii_sub]
        exact ⟨M2, rfl, w2⟩
    | some cs =>
      have bq := pg.1 q cs rfl
      obtain ⟨M1, s1, out', a1, a2, a3, a4, a5⟩ := i1 q cs rfl
      have hq : hAns (q, some cs) < 0 := by show (-1 : Int) < 0; omega
      have F := a2.1.1.2
      have hC := HCr_c a2.2.2 (by omega) cs _ a4
      have e9 : (up s1 133 11 0) 133 9 = s 133 9 := by rw [up_nk (by omega), F.1 133 (by omega)]
      rw [if_pos hq]
      have FX := hrf s1 F
      refine ⟨up (up (up s1 133 11 0) 133 10 (s 133 9)) 133 9 (s 133 9 + 1), ⟨fun _ => ⟨⟨fun p p1 p2 => ?_, fun j j1 j2 j3 => ?_, fun k hk => ?_, fun k hk => ?_, fun k hk => ?_⟩, ?_, fun hc => (by rw [hr] at hc; cases hc), fun cs' hc => ?_⟩, fun t => absurd c6 t⟩, ?_⟩
      · rw [← FX.1 p p1 p2]; funext j; rw [up_ne p1, up_ne p1]
      · rw [up_nk j1, up_nk j2]; exact FX.2.1 j j1 j2 j3
      · rw [up_ne (by omega), up_ne (by omega)]; exact FX.2.2.1 k hk
      · simp only [up_ne (show (142 : Nat) ≠ 133 by omega), up_ne (show (143 : Nat) ≠ 133 by omega), up_ne (show (144 : Nat) ≠ 133 by omega), up_ne (show (145 : Nat) ≠ 133 by omega)]
        exact F.2.2.1 k (by omega)
      · rw [up_ne (by omega), up_ne (by omega)]; exact FX.2.2.2.2 k hk
      · rw [up_nk (by omega), up_nk (by omega), up_at]
      · rw [hr] at hc
        cases hc
        refine ⟨up_at, by rw [up_nk (by omega), up_at], ?_, ?_⟩
        · rw [ft, up_ne (by omega), up_ne (by omega), up_ne (by omega)]; exact a5
        · rw [ft, ef]
          have cg : ∀ (l : List (Nat × Int × List Int)) (k : Nat), HC s1 (100 * (f : Int) + 100) k l → HC (up (up (up s1 133 11 0) 133 10 (s 133 9)) 133 9 (s 133 9 + 1)) (100 * (f : Int) + 100) k l := by
            intro l
            induction l with
            | nil => intro k _; trivial
            | cons c r ih => intro k hk; exact ⟨hk.1, ih (k + 1) hk.2⟩
          rw [← ef]
          rw [ef] at cg ⊢
          exact cg cs _ hC
      · obtain ⟨M2, w1, w2⟩ := wF a2.1.1.1 (j := 11) (x := 0) (by decide) (by decide) rfl
        obtain ⟨M3, w3, w4⟩ := wF w2 (j := 10) (x := s 133 9) (by decide) (by decide) rfl
        obtain ⟨M4, w5, w6⟩ := wF w4 (j := 9) (x := s 133 9 + 1) (by decide) (by decide) rfl
        have r2 : zgi M2 12 9 133 = some (ii (s 133 9)) := rFx w2 (by decide) rfl e9
        have r3 : zgi M3 12 9 133 = some (ii (s 133 9)) := rFx w4 (by decide) rfl ((up_nk (by omega)).trans e9)
        have r4 : zgi M4 12 10 133 = some (ii (s 133 9)) := rFx w6 (by decide) rfl ((up_nk (by omega)).trans up_at)
        rw [a1, zbd_some, show (0 : Int32) = ii 0 from rfl, w1, zb_some, if_pos (show ¬ (1 : Int32) = ii 0 by decide), r2, zb_some, w3, zb_some, r3, zb_some, l1, ii_add, w5, zb_some, r4, zb_some]
        exact ⟨M4, rfl, w6⟩
  · have e6 : s 133 9 = 6 := by omega
    refine ⟨s, ⟨fun t => absurd t c6, fun _ => rfl⟩, ?_⟩
    unfold sp60 f_152
    rw [if_neg c6, if_pos (dM hL).1, g9, zb_some, if_neg (show ¬ ¬ ii (s 133 9) = 6 by rw [e6]; exact fun t => t rfl)]
    exact ⟨M, rfl, h⟩
