/-! ENDS -/
def rwv (t : ZSt) (k : Nat) : Int × ZSt := if t 162 k = 0 then (0, goS t 1) else (if t 162 k = 1 then wrt t (t 163 k).toNat (t 136 (t 163 k).toNat) else tB t (t 163 k).toNat (thk t (t 163 k).toNat), up t 136 (t 163 k).toNat 0)
def wkl : Nat → Nat → Int → ZSt → Int × ZSt
  | 0, _, a, t => (a, t)
  | m + 1, i, a, t => wkl m (i + 1) (a + (rwv t i).1) (rwv t i).2
def cpr (t : ZSt) : Nat → Int
  | 0 => 0
  | n + 1 => if t 136 n = 0 then cpr t n else cpr t n + 1
def PK (s t : ZSt) : Prop := (∀ p, p ≠ 136 → p ≠ 137 → p ≠ 133 → t p = s p) ∧ (∀ j, j ≠ 1 → t 133 j = s 133 j) ∧ ∀ j, 6 ≤ j → t 136 j = s 136 j ∧ t 137 j = s 137 j
def WT (s t : ZSt) (k : Nat) : Prop := PK s t ∧ (0 ≤ t 133 1 ∧ t 133 1 ≤ 9999 + (k : Int)) ∧ SIb t
theorem PK.ah {s t : ZSt} (h : PK s t) : AH s t := ⟨fun q a b => h.1 q (by omega) (by omega) (by omega), h.2.1 10 (by omega), h.2.1 9 (by omega)⟩
theorem WT.in {s t : ZSt} {k : Nat} (h : WT s t k) (hV : IV s) (hk : k ≤ 100) : SIn t := by
  have hi := hV.1.1.1
  obtain ⟨⟨h1, h2, h3⟩, h4, h5⟩ := h
  unfold SIn at hi ⊢
  rw [h2 0 (by omega), h2 2 (by omega), h2 9 (by omega), h2 10 (by omega), h2 11 (by omega), h2 38 (by omega), h2 42 (by omega), h2 43 (by omega), h2 48 (by omega), h2 69 (by omega)]
  exact ⟨hi.1, by omega, hi.2.2⟩
theorem WT.rw {s t : ZSt} {k : Nat} (h : WT s t k) (hV : IV s) (hk : (k : Int) < s 133 42) : (0 ≤ t 162 k ∧ t 162 k ≤ 2) ∧ (0 < t 162 k → 0 ≤ t 163 k ∧ t 163 k < s 133 0) := by
  have := hV.2.1.2.2.1 k hk
  rw [h.1.1 162 (by omega) (by omega) (by omega), h.1.1 163 (by omega) (by omega) (by omega)]
  exact this
theorem WT.s {s t : ZSt} {k : Nat} (h : WT s t k) (hV : IV s) (hk : (k : Int) < s 133 42) : WT s (rwv t k).2 (k + 1) := by
  have h0 := hV.1.1.1.1
  have h42 := hV.1.1.1.2.2.2.2.2.2.2.1
  have hi := h.in hV (by omega)
  have hh := h.1.ah.sh hV.1.2.2.2
  have hr := h.rw hV hk
  have t0 := h.1.2.1 0 (by omega)
  unfold rwv
  by_cases c : t 162 k = 0
  · rw [if_pos c]
    refine ⟨⟨fun p a b d => (goS_f b d).trans (h.1.1 p a b d), fun j hj => (goS_o (s := t) (n := 1) (by omega) (by omega)).trans (h.1.2.1 j hj), fun j hj => ⟨(goS_o (s := t) (n := 1) (by omega) (by omega)).trans (h.1.2.2 j hj).1, ?_⟩⟩, ?_, goS_ib hi hh h.2.2 (by omega)⟩
    · show (if 137 = 137 ∧ (j : Int) < t 133 0 then gd t 1 j else if 137 = 133 ∧ j = 1 then t 133 1 + 1 else t 137 j) = _
      rw [if_neg (by omega), if_neg (by omega)]
      exact (h.1.2.2 j hj).2
    · show 0 ≤ goS t 1 133 1 ∧ goS t 1 133 1 ≤ _
      rw [goS_d]
      have := h.2.1
      omega
  · have hb := hr.2 (by omega)
    rw [if_neg c]
    show WT s (up t 136 (t 163 k).toNat 0) (k + 1)
    refine ⟨⟨fun p a b d => (up_fn a).trans (h.1.1 p a b d), fun j hj => (up_ne (show (133 : Nat) ≠ 136 by omega)).trans (h.1.2.1 j hj), fun j hj => ⟨(up_nk (show j ≠ (t 163 k).toNat by omega)).trans (h.1.2.2 j hj).1, (up_ne (show (137 : Nat) ≠ 136 by omega)).trans (h.1.2.2 j hj).2⟩⟩, ?_, fun b hbb => ?_⟩
    · show 0 ≤ up t 136 _ 0 133 1 ∧ up t 136 _ 0 133 1 ≤ _
      rw [up_ne (by omega)]
      have := h.2.1
      omega
    · rw [show (up t 136 (t 163 k).toNat 0) 133 0 = t 133 0 from up_ne (by omega)] at hbb
      obtain ⟨v1, v2, v3, v4, v5, v6⟩ := h.2.2 b hbb
      simp only [Nat.add_zero] at v1 v2 v3 v4 v5 v6
      unfold SBk
      simp only [Nat.add_zero]
      rw [up_fn (show (134 : Nat) ≠ 136 by omega), up_fn (show (135 : Nat) ≠ 136 by omega), up_fn (show (137 : Nat) ≠ 136 by omega), up_fn (show (138 : Nat) ≠ 136 by omega), up_fn (show (139 : Nat) ≠ 136 by omega)]
      refine ⟨v1, v2, ?_, v4, v5, v6⟩
      rw [up_eq]
      split <;> omega
theorem wrt_0 {t : ZSt} (hi : SIn t) (hh : SH t) (b : Nat) : wrt t b 0 = 0 := by
  have := thn_b hi hh
  unfold wrt wr5
  rw [if_pos (by omega)]
/-- one row, the class's -/
theorem c118 {M0 M : ZMem} {s : ZSt} {l : Nat → Int64} (h : CS M0 M s l) (hV : IV s) {t : ZSt} {k : Nat} (hT : WT s t k) (hk : (k : Int) < s 133 42) (hR : RY M t 75) {r : Option Nat} (hr : 0 < t 162 k → r = some (75 + 2 + 2 * (t 163 k).toNat)) : ∃ M', f_118 M 20 (ii (t 162 k)) r = some (ii (rwv t k).1, M') ∧ CS M0 M' s l ∧ RY M' (rwv t k).2 75 := by
  have hi := hV.1.1
  have h0 := hi.1.1
  have h42 := hi.1.2.2.2.2.2.2.2.1
  have ti := hT.in hV (by omega)
  have th := hT.1.ah.sh hV.1.2.2.2
  have tr := hT.rw hV hk
  have t0 := hT.1.2.1 0 (by omega)
  have A : AK M s l t 75 := ⟨h.1, ⟨h.2.2, hi, hV.1.2.2.2⟩, ⟨hT.1.ah, ti, hT.2.2⟩, .inr rfl, hR⟩
  unfold f_118
  rw [if_pos (cX h.1).1]
  by_cases c : t 162 k = 0
  · have g := gwnd h.1 h.2.2 hi.1
    obtain ⟨M1, e1, e2, e3⟩ := c92 h.1 (y := 75) (.inr rfl) ti th hT.2.2 hR (n := 1) (by omega)
    rw [hT.1.ah.tm.2.2] at e1
    rw [if_neg (show ¬ ¬ ii (t 162 k) = 0 by rw [c]; decide)]
    simp only [cX h.1, zb_some, g, show (1 : Int32) = ii 1 from rfl, e1]
    unfold rwv
    rw [if_pos c]
    exact ⟨M1, rfl, CS_sc h hi e2.sc, e3⟩
  · have hb := tr.2 (by omega)
    obtain ⟨b, hbb⟩ := Int.eq_ofNat_of_zero_le hb.1
    have hbt : (b : Int) < t 133 0 := by omega
    have ym : 75 ∈ [22, 49, 75] := by decide
    obtain ⟨hb6, hv, hY, hd⟩ := A.bb hbt
    have v3 := hv.2.2.1
    simp only [Nat.add_zero] at v3
    have hr' := hr (by omega)
    rw [hbb, Int.toNat_natCast] at hr'
    have e57 := c57 h.1 ym hb6 v3 hY.1.2.2.1
    unfold rwv
    rw [if_neg c, hbb, Int.toNat_natCast, if_pos (show ¬ ii (t 162 k) = 0 by rw [show (0 : Int32) = ii 0 from rfl, ii_eq (by omega) (by omega)]; exact c), hr', zcs_so _ _ _ (by omega), e57, zb_some]
    by_cases g : t 136 b = 0
    · have ev : (if t 162 k = 1 then wrt t b (t 136 b) else tB t b (thk t b)) = 0 := by
        split
        · rw [g]; exact wrt_0 ti th b
        · unfold thk
          rw [g]
          rfl
      have es : up t 136 b 0 = t := by
        have := up_self (s := t) (p := 136) (k := b)
        rw [g] at this
        exact this
      rw [bzT g, if_neg (show ¬ (1 : Int32) = 0 by decide), ev, es]
      exact ⟨M, rfl, h, hR⟩
    · rw [bzF g, if_pos (show (0 : Int32) = 0 from rfl)]
      have fin : ∀ (N : ZMem) (v : Int), Sv M N → ∃ M', f_118_60 N (some (75 + 2 + 2 * b)) (ii v) = some (ii v, M') ∧ CS M0 M' s l ∧ RY M' (up t 136 b 0) 75 := by
        intro N v sv
        have hN := CS_sc h hi sv.sc
        have AN := A.sv sv
        have BN := cB hN.1 ym hb6
        refine ⟨zpI N (75 + 2 + 2 * b) 3 (ii 0), ?_, CS_sc hN hi ((Sc.rf hN.1).pI (by omega)), ?_, ?_, fun c hc => ?_⟩
        · unfold f_118_60
          simp only [zb_some, show (0 : Int32) = ii 0 from rfl, BN]
        · rw [zI_ne (by omega), up_ne (by omega)]; exact AN.2.2.2.2.1
        · rw [zI_ne (by omega), up_ne (by omega)]; exact AN.2.2.2.2.2.1
        · rw [up_ne (by omega)] at hc
          obtain ⟨⟨a1, a2, a3, a4, a5⟩, a6⟩ := AN.2.2.2.2.2.2 c hc
          simp only [Nat.add_zero] at a1 a2 a3 a4 a5 a6
          unfold YB Bk
          simp only [Nat.add_zero]
          rw [up_fn (show (134 : Nat) ≠ 136 by omega), up_fn (show (135 : Nat) ≠ 136 by omega), up_fn (show (137 : Nat) ≠ 136 by omega), up_fn (show (138 : Nat) ≠ 136 by omega), up_fn (show (139 : Nat) ≠ 136 by omega)]
          refine ⟨⟨(zI_nk (by omega)).trans a1, (zI_nk (by omega)).trans a2, ?_, (zI_nk (by omega)).trans a4, (zI_nk (by omega)).trans a5⟩, fun r hr => ?_⟩
          · by_cases e : c = b
            · subst e; rw [zI_at, up_at]
            · rw [zI_ne (by omega), up_nk e]; exact a3
          · rw [zI_ne (by omega)]; exact a6 r hr
      by_cases d : t 162 k = 1
      · rw [if_neg (show ¬ ¬ ii (t 162 k) = 1 by rw [d]; decide), if_pos d]
        simp only [cX h.1, zb_some]
        rw [c58 A hbt, zbd_some]
        exact fin _ _ (vlu_sv h.1)
      · obtain ⟨N, n1, n2⟩ := c90 A hbt
        rw [if_pos (show ¬ ii (t 162 k) = 1 by rw [show (1 : Int32) = ii 1 from rfl, ii_eq (by omega) (by omega)]; exact d), if_neg d]
        simp only [cX h.1, zb_some]
        rw [n1, zbd_some]
        exact fin _ _ n2
theorem c119a {M : ZMem} {t : ZSt} (hL : Ly M) (hR : RY M t 75) (hi : SIn t) (hb : SIb t) : ∀ (m z i : Nat), (i : Int) + (m : Nat) = t 133 0 → m < z → f_119_4 z M 75 (ii (cpr t i)) (ii (i : Int)) = some (ii (cpr t (t 133 0).toNat)) := by
  have h0 := hi.1
  intro m
  induction m with
  | zero =>
    intro z i e hz
    obtain ⟨w, rfl⟩ : ∃ w, z = w + 1 := ⟨z - 1, by omega⟩
    rw [f_119_4]
    simp only [cX hL, zb_some, hR.1]
    rw [if_pos (show ii (t 133 0) ≤ ii (i : Int) by rw [ii_le (by omega) (by omega)]; omega), show (t 133 0).toNat = i by omega]
  | succ m ih =>
    intro z i e hz
    obtain ⟨w, rfl⟩ : ∃ w, z = w + 1 := ⟨z - 1, by omega⟩
    have v3 := (hb i (by omega)).2.2.1
    simp only [Nat.add_zero] at v3
    have el := cYl hL (y := 75) (by decide) (i := i) (by omega)
    have e57 := c57 hL (show 75 ∈ [22, 49, 75] by decide) (b := i) (by omega) v3 (hR.2.2 i (by omega)).1.2.2.1
    have nx := ih w (i + 1) (by omega) (by omega)
    rw [f_119_4]
    simp only [cX hL, zb_some, hR.1]
    rw [if_neg (show ¬ ii (t 133 0) ≤ ii (i : Int) by rw [ii_le (by omega) (by omega)]; omega), show (76 : Nat) = 75 + 1 from rfl, el, zb_some, zb_some, e57, zb_some]
    unfold f_119_27
    rw [ii_s1]
    rw [cpr] at nx
    by_cases g : t 136 i = 0
    · rw [if_pos g] at nx
      rw [bzT g, if_pos (show ¬ (1 : Int32) = 0 by decide)]
      exact nx
    · rw [if_neg g] at nx
      rw [bzF g, if_neg (show ¬ ¬ (0 : Int32) = 0 by decide), show (1 : Int32) = ii 1 from rfl, ii_add]
      exact nx
def sp117 (s : ZSt) (w : Int) : Int := if 0 ≤ w ∧ w ≤ 1 then (if w = 0 then (wkl (s 133 42).toNat 0 0 s).1 else cpr (wkl (s 133 42).toNat 0 0 s).2 (s 133 0).toNat) else -1
theorem m117a {M0 : ZMem} {s : ZSt} {l : Nat → Int64} (hV : IV s) {w : Int} (hw : 0 ≤ w ∧ w ≤ 1) : ∀ (m z k : Nat) (M : ZMem) (t : ZSt) (a : Int), CS M0 M s l → WT s t k → RY M t 75 → (k : Int) + (m : Nat) = s 133 42 → m < z → CG M0 (f_117_29 z M 20 (ii w) (ii a) (ii (k : Int))) (ii (if w = 0 then (wkl m k a t).1 else cpr (wkl m k a t).2 (s 133 0).toNat)) s l := by
  have hi := hV.1.1
  have h0 := hi.1.1
  have h42 := hi.1.2.2.2.2.2.2.2.1
  intro m
  induction m with
  | zero =>
    intro z k M t a h hT hR e hz
    obtain ⟨y, rfl⟩ : ∃ y, z = y + 1 := ⟨z - 1, by omega⟩
    have ti := hT.in hV (by omega)
    have t0 := hT.1.2.1 0 (by omega)
    have e119 : f_119 M 75 = some (ii (cpr t (s 133 0).toNat)) := by
      unfold f_119
      rw [if_pos (show zok M 10 75 = true by simp only [cX h.1])]
      have := c119a h.1 hR ti hT.2.2 (t 133 0).toNat zF 0 (by omega) (by unfold zF; omega)
      rw [t0] at this
      exact this
    rw [f_117_29]
    simp only [cX h.1, cW h.1, zb_some, h.2.2.2.1.2.1.1]
    rw [if_pos (show ii (s 133 42) ≤ ii (k : Int) by rw [ii_le (by omega) (by omega)]; omega)]
    by_cases c : w = 0
    · rw [if_neg (show ¬ ¬ ii w = 0 by rw [c]; decide), if_pos c]
      exact CG_ret h
    · rw [if_pos (show ¬ ii w = 0 by rw [show (0 : Int32) = ii 0 from rfl, ii_eq (by omega) (by omega)]; exact c), if_neg c, e119, zb_some]
      exact CG_ret h
  | succ m ih =>
    intro z k M t a h hT hR e hz
    obtain ⟨y, rfl⟩ : ∃ y, z = y + 1 := ⟨z - 1, by omega⟩
    have hk : (k : Int) < s 133 42 := by omega
    have ti := hT.in hV (by omega)
    have tr := hT.rw hV hk
    have t0 := hT.1.2.1 0 (by omega)
    have t162 := hT.1.1 162 (by omega) (by omega) (by omega)
    have t163 := hT.1.1 163 (by omega) (by omega) (by omega)
    obtain ⟨r1, r2⟩ := h.2.2.2.1.2.1.2 k hk
    have x41 := zai_ii h.1 (p := 41) (n := 10) (i := (k : Int)) (by omega) (by decide +kernel) (by omega) (by omega) (by omega)
    have x42 := zai_ii h.1 (p := 42) (n := 10) (i := (k : Int)) (by omega) (by decide +kernel) (by omega) (by omega) (by omega)
    rw [Int.toNat_natCast] at x41 x42
    have e19 := c19 h.1 (show 75 ∈ [22, 49, 75] by decide) hR.1 (by omega) (b := (zI M 42 k).toInt) (ii_range _)
    rw [ii_of] at e19
    obtain ⟨M1, q1, q2, q3⟩ := c118 h hV hT hk hR (r := fnd 75 (t 133 0) (zI M 42 k).toInt) (fun hp => by
      have hb := tr.2 hp
      rw [t162] at hp
      have e2 := r2 hp
      have e3 : (zI M 42 k).toInt = t 163 k := by rw [e2, ii_toInt (by rw [← t163]; omega), t163]
      rw [e3]
      exact fnd_some (by omega))
    rw [t162] at q1
    rw [f_117_29]
    simp only [cX h.1, cW h.1, zb_some, h.2.2.2.1.2.1.1, x41, x42, r1, e19]
    rw [if_neg (show ¬ ii (s 133 42) ≤ ii (k : Int) by rw [ii_le (by omega) (by omega)]; omega), q1, zbd_some, ii_add, ii_s1]
    rw [wkl]
    exact ih y (k + 1) M1 _ _ q2 (hT.s hV hk) q3 (by omega) (by omega)
theorem WT_0 {s : ZSt} (hV : IV s) : WT s s 0 := by
  have h1 := hV.1.1.1.2.1
  have hd := hV.1.2.1
  exact ⟨⟨fun _ _ _ _ => rfl, fun _ _ => rfl, fun _ _ => ⟨rfl, rfl⟩⟩, by omega, hV.1.2.2.1⟩
theorem m117 {M0 M : ZMem} {s : ZSt} {l : Nat → Int64} (h : CS M0 M s l) (hV : IV s) {w : Int} (hw : -2147483648 ≤ w ∧ w < 2147483648) : CG M0 (f_117 M 20 (ii w)) (ii (sp117 s w)) s l := by
  have h42 := hV.1.1.1.2.2.2.2.2.2.2.1
  unfold f_117 sp117
  rw [if_pos (cX h.1).1, show (1 : Int32) = ii 1 from rfl, show (0 : Int32) = ii 0 from rfl, c14z hw (by omega) (by omega), zb_some]
  by_cases c : 0 ≤ w ∧ w ≤ 1
  · rw [bzT c, if_pos (show ¬ (1 : Int32) = ii 0 by decide), if_pos c]
    obtain ⟨M1, m1, m2, m3, m4⟩ := c95l h hV
    simp only [cX h.1, zb_some, m1]
    exact m117a hV c (s 133 42).toNat zF 0 M1 s 0 m2 (WT_0 hV) m4 (by omega) (by unfold zF; omega)
  · rw [bzF c, if_neg (show ¬ ¬ (0 : Int32) = ii 0 by decide), if_neg c]
    exact CG_ret h
/-- the reference's -/
theorem m216b {M0 : ZMem} {s t : ZSt} (hV : IV s) {k : Nat} (hT : WT (svS s) t k) (hk : k ≤ 100) {w a : Int} (hw : 0 ≤ w ∧ w ≤ 1) : ∀ (m z i : Nat) (M : ZMem), MS M0 M t → (i : Int) + (m : Nat) = s 133 0 → m < z → MG M0 (f_216_106 z M 133 (ii w) (ii a) (ii (cpr t i)) (ii (i : Int))) (ii (if w = 0 then a else cpr t (s 133 0).toNat)) (svS s) := by
  have h0 := hV.1.1.1.1
  have e0 : svS s 133 0 = s 133 0 := svP_o (by omega) (by omega) (by omega)
  have t0 : t 133 0 = s 133 0 := (hT.1.2.1 0 (by omega)).trans e0
  have pb : pbS t = svS s := pb_of (fun p a b c => hT.1.1 p a b c) (fun j hj => hT.1.2.1 j hj) (fun j hj => ⟨(hT.1.2.2 j hj).1.trans (svP_o (by omega) (by omega) (by omega)), (hT.1.2.2 j hj).2.trans (svP_o (by omega) (by omega) (by omega))⟩)
  intro m
  induction m with
  | zero =>
    intro z i M h e hz
    obtain ⟨y, rfl⟩ : ∃ y, z = y + 1 := ⟨z - 1, by omega⟩
    rw [f_216_106, rFx h (j := 0) (by decide) rfl t0, zb_some, if_pos (show ii (s 133 0) ≤ ii (i : Int) by rw [ii_le (by omega) (by omega)]; omega)]
    refine MG_bv (m199 h) fun M1 h1 => ?_
    rw [pb] at h1
    by_cases c : w = 0
    · rw [if_neg (show ¬ ¬ ii w = 0 by rw [c]; decide), if_pos c]
      exact MG_ret h1
    · rw [if_pos (show ¬ ii w = 0 by rw [show (0 : Int32) = ii 0 from rfl, ii_eq (by omega) (by omega)]; exact c), if_neg c, show (s 133 0).toNat = i by omega]
      exact MG_ret h1
  | succ m ih =>
    intro z i M h e hz
    obtain ⟨y, rfl⟩ : ∃ y, z = y + 1 := ⟨z - 1, by omega⟩
    have v3 := (hT.2.2 i (by omega)).2.2.1
    simp only [Nat.add_zero] at v3
    have x5 := rN h (j := 5) (P := 136) (n := 6) (by decide) (by decide +kernel) (by decide) (fun _ => rfl) (by omega) (b := i) (by omega)
    have nx := ih y (i + 1) M h (by omega) (by omega)
    rw [f_216_106, rFx h (j := 0) (by decide) rfl t0, zb_some, if_neg (show ¬ ii (s 133 0) ≤ ii (i : Int) by rw [ii_le (by omega) (by omega)]; omega), x5.1, zb_some, zb_some, x5.2, zb_some]
    unfold f_216_131
    rw [ii_s1]
    rw [cpr] at nx
    by_cases g : t 136 i = 0
    · rw [if_pos g] at nx
      rw [if_pos (show ii (t 136 i) ≤ 0 by rw [g]; decide), show ii (cpr t i) + 0 = ii (cpr t i) from Int32.add_zero _]
      exact nx
    · rw [if_neg g] at nx
      rw [if_neg (show ¬ ii (t 136 i) ≤ 0 by rw [show (0 : Int32) = ii 0 from rfl, ii_le (by omega) (by omega)]; omega), show (1 : Int32) = ii 1 from rfl, ii_add]
      exact nx
theorem m216a {M0 : ZMem} {s : ZSt} (hV : IV s) {w : Int} (hw : 0 ≤ w ∧ w ≤ 1) : ∀ (m z k : Nat) (M : ZMem) (t : ZSt) (a : Int), MS M0 M t → WT (svS s) t k → (k : Int) + (m : Nat) = s 133 42 → m < z → MG M0 (f_216_20 z M 133 (ii w) (ii a) (ii (k : Int))) (ii (if w = 0 then (wkl m k a t).1 else cpr (wkl m k a t).2 (s 133 0).toNat)) (svS s) := by
  have hU := IV_ev hV (sv_ev s)
  have h0 := hV.1.1.1.1
  have h42 := hV.1.1.1.2.2.2.2.2.2.2.1
  have e0 : svS s 133 0 = s 133 0 := svP_o (by omega) (by omega) (by omega)
  have e42 : svS s 133 42 = s 133 42 := svP_o (by omega) (by omega) (by omega)
  intro m
  induction m with
  | zero =>
    intro z k M t a h hT e hz
    obtain ⟨y, rfl⟩ : ∃ y, z = y + 1 := ⟨z - 1, by omega⟩
    have t42 : t 133 42 = s 133 42 := (hT.1.2.1 42 (by omega)).trans e42
    rw [f_216_20, rFx h (j := 42) (by decide) rfl t42, zb_some, if_pos (show ii (s 133 42) ≤ ii (k : Int) by rw [ii_le (by omega) (by omega)]; omega)]
    exact m216b hV hT (by omega) hw (s 133 0).toNat zF 0 M h (by omega) (by unfold zF; omega)
  | succ m ih =>
    intro z k M t a h hT e hz
    obtain ⟨y, rfl⟩ : ∃ y, z = y + 1 := ⟨z - 1, by omega⟩
    have t42 : t 133 42 = s 133 42 := (hT.1.2.1 42 (by omega)).trans e42
    have t0 : t 133 0 = s 133 0 := (hT.1.2.1 0 (by omega)).trans e0
    have hk : (k : Int) < svS s 133 42 := by omega
    have ti := hT.in hU (by omega)
    have th := hT.1.ah.sh hU.1.2.2.2
    have tr := hT.rw hU hk
    have nx := fun (N : ZMem) (hN : MS M0 N (rwv t k).2) => ih y (k + 1) N (rwv t k).2 (a + (rwv t k).1) hN (hT.s hU hk) (by omega) (by omega)
    have x45 := rN h (j := 45) (P := 163) (n := 10) (by decide) (by decide +kernel) (by decide) (fun _ => rfl) (by omega) (b := k) (by omega)
    have x44 := rN h (j := 44) (P := 162) (n := 10) (by decide) (by decide +kernel) (by decide) (fun _ => rfl) (by omega) (b := k) (by omega)
    rw [f_216_20, rFx h (j := 42) (by decide) rfl t42, zb_some, if_neg (show ¬ ii (s 133 42) ≤ ii (k : Int) by rw [ii_le (by omega) (by omega)]; omega), x45.1, zb_some, zb_some, x45.2, zb_some, x44.1, zb_some, zb_some, x44.2, zb_some]
    rw [wkl]
    by_cases c : t 162 k = 0
    · have er : rwv t k = (0, goS t 1) := if_pos c
      rw [if_neg (show ¬ ¬ ii (t 162 k) = 0 by rw [c]; decide)]
      refine MG_bv (m196 h ti th hT.2.2) fun M1 h1 => ?_
      unfold f_216_95
      rw [ii_s1]
      rw [er] at nx ⊢
      have := nx M1 h1
      rw [Int.add_zero] at this ⊢
      exact this
    · have hb := tr.2 (by omega)
      rw [if_pos (show ¬ ii (t 162 k) = 0 by rw [show (0 : Int32) = ii 0 from rfl, ii_eq (by omega) (by omega)]; exact c), zb_some, zb_some, x44.2, zb_some]
      obtain ⟨b, hbb⟩ := Int.eq_ofNat_of_zero_le hb.1
      have K := RK_of ti th hT.2.2 (n := b) (by omega)
      rw [hbb]
      have er : rwv t k = (if t 162 k = 1 then wrt t b (t 136 b) else tB t b (thk t b), up t 136 b 0) := by
        unfold rwv
        rw [if_neg c, hbb, Int.toNat_natCast]
      have fin : ∀ (N : ZMem) (v : Int), MS M0 N t → v = (rwv t k).1 → MG M0 (f_216_85 (fun M a0 a1 a2 a3 => f_216_20 y M a0 a1 a2 a3) N 133 (ii w) (ii (k : Int)) (ii (b : Int)) (ii v) (ii a)) (ii (if w = 0 then (wkl m (k + 1) (a + (rwv t k).1) (rwv t k).2).1 else cpr (wkl m (k + 1) (a + (rwv t k).1) (rwv t k).2).2 (s 133 0).toNat)) (svS s) := by
        intro N v hN hv
        unfold f_216_85 f_216_95
        rw [rP hN (j := 5) (P := 136) (by decide) (by decide +kernel), zb_some, zb_some, show (0 : Int32) = ii 0 from rfl]
        refine MG_bv (wNn hN (P := 136) (n := 6) (by decide) (by omega) (by omega)) fun M1 h1 => ?_
        rw [ii_add, ii_s1, hv]
        refine nx M1 ?_
        rw [er]
        exact h1
      by_cases d : t 162 k = 1
      · have x5 := rN h (j := 5) (P := 136) (n := 6) (by decide) (by decide +kernel) (by decide) (fun _ => rfl) (by omega) (b := b) (by omega)
        have v3 := K.2.1.2.2.2.1
        simp only [Nat.add_zero] at v3
        rw [if_neg (show ¬ ¬ ii (t 162 k) = 1 by rw [d]; decide), x5.1, zb_some, zb_some, x5.2, zb_some]
        refine MG_bd (c177 h ti th K.2.1.1 K.2.1.2 K.2.2 (by omega)) fun M1 h1 => ?_
        exact fin M1 _ h1 (by rw [er, if_pos d])
      · rw [if_pos (show ¬ ii (t 162 k) = 1 by rw [show (1 : Int32) = ii 1 from rfl, ii_eq (by omega) (by omega)]; exact d)]
        refine MG_bd (c189 K h) fun M1 h1 => ?_
        exact fin M1 _ h1 (by rw [er, if_neg d])
theorem m216 {M0 M : ZMem} {s : ZSt} (h : MS M0 M s) (hV : IV s) {w : Int} (hw : -2147483648 ≤ w ∧ w < 2147483648) : ∃ s', (s' = s ∨ s' = svS s) ∧ MG M0 (f_216 M 133 (ii w)) (ii (sp117 (svS s) w)) s' := by
  have hU := IV_ev hV (sv_ev s)
  have h42 := hV.1.1.1.2.2.2.2.2.2.2.1
  have e0 : svS s 133 0 = s 133 0 := svP_o (by omega) (by omega) (by omega)
  have e42 : svS s 133 42 = s 133 42 := svP_o (by omega) (by omega) (by omega)
  by_cases c : 0 ≤ w ∧ w ≤ 1
  · refine ⟨svS s, .inr rfl, ?_⟩
    unfold f_216 sp117
    rw [if_pos (zok_ly h.1 k133), show (0 : Int32) = ii 0 from rfl, show (1 : Int32) = ii 1 from rfl, c147z h.1 hw (by omega) (by omega), zb_some, bzT c, if_pos (show ¬ (1 : Int32) = ii 0 by decide), if_pos c, e0, e42]
    refine MG_bv (m198 h) fun M1 h1 => ?_
    exact m216a hV c (s 133 42).toNat zF 0 M1 (svS s) 0 h1 (WT_0 hU) (by omega) (by unfold zF; omega)
  · refine ⟨s, .inl rfl, ?_⟩
    unfold f_216 sp117
    rw [if_pos (zok_ly h.1 k133), show (0 : Int32) = ii 0 from rfl, show (1 : Int32) = ii 1 from rfl, c147z h.1 hw (by omega) (by omega), zb_some, bzF c, if_neg (show ¬ ¬ (0 : Int32) = ii 0 by decide), if_neg c]
    exact MG_ret h
