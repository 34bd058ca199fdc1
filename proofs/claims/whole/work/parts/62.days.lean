/-! DAYS, the reference's calls -/
theorem EV.sy {s s' : ZSt} (h : EV s s') : EV s' s := ⟨fun p a b => (h.1 p a b).symm, fun j a b => (h.2 j a b).symm⟩
theorem m188a {M0 : ZMem} {s : ZSt} (hi : SIn s) (hh : SH s) (hb : SIb s) : ∀ (m z i : Nat) (M : ZMem), MS M0 M s → (i : Int) + (m : Nat) = s 133 0 → m < z → MG M0 (f_188_4 z M 133 (ii (bsum s i)) (ii (i : Int))) (ii (bAl s)) s := by
  have h0 := hi.1
  intro m
  induction m with
  | zero =>
    intro z i M h e hz
    obtain ⟨w, rfl⟩ : ∃ w, z = w + 1 := ⟨z - 1, by omega⟩
    rw [f_188_4, rF h (j := 0) (by decide) rfl, zb_some, if_pos (show ii (s 133 0) ≤ ii (i : Int) by rw [ii_le (by omega) (by omega)]; omega)]
    unfold bAl
    rw [show (s 133 0).toNat = i by omega]
    exact MG_ret h
  | succ m ih =>
    intro z i M h e hz
    obtain ⟨w, rfl⟩ : ∃ w, z = w + 1 := ⟨z - 1, by omega⟩
    rw [f_188_4, rF h (j := 0) (by decide) rfl, zb_some, if_neg (show ¬ ii (s 133 0) ≤ ii (i : Int) by rw [ii_le (by omega) (by omega)]; omega)]
    refine MG_bd (c189 (RK_of hi hh hb (n := i) (by omega)) h) fun M1 h1 => ?_
    rw [ii_add, ii_s1]
    exact ih w (i + 1) M1 h1 (by omega) (by omega)
theorem m188 {M0 M : ZMem} {s : ZSt} (h : MS M0 M s) (hi : SIn s) (hh : SH s) (hb : SIb s) : MG M0 (f_188 M 133) (ii (bAl s)) s := by
  have h0 := hi.1
  unfold f_188
  rw [if_pos (zok_ly h.1 k133)]
  exact m188a hi hh hb (s 133 0).toNat zF 0 M h (by omega) (by unfold zF; omega)
theorem m187 {M0 M : ZMem} {s : ZSt} (h : MS M0 M s) (hV : IV s) {w : Int} (hw : -2147483648 ≤ w ∧ w < 2147483648) : MG M0 (f_187 M 133 (ii w)) (ii (sp88 s w)) s := by
  have hi := hV.1.1.1
  have hh := hV.1.2.2.2
  have e1 := c178 h.1 h.2.2 hi hh
  have e2 := c180 h.1 h.2.2 hi hh
  have e3 := c176 h.1 h.2.2 hi hh (w := 4) (x := 1) (by omega)
  unfold f_187 sp88
  simp only [mX h.1 h.2.2, if_true, zb_some, e1, e2, lits, e3]
  simp (disch := omega) only [ii_eq]
  by_cases c0 : w = 0
  · simp only [if_pos c0]; exact MG_ret h
  · simp only [if_neg c0]
    by_cases c1 : w = 1
    · simp only [if_pos c1]; exact MG_ret h
    · simp only [if_neg c1]
      by_cases c2 : w = 2
      · simp only [if_pos c2]; exact MG_ret h
      · simp only [if_neg c2]
        by_cases c3 : w = 3
        · simp only [if_pos c3]; exact MG_ret h
        · simp only [if_neg c3]
          by_cases c4 : w = 4
          · simp only [if_pos c4]; exact MG_ret h
          · simp only [if_neg c4]
            by_cases c5 : w = 5
            · simp only [if_pos c5]
              exact MG_bd (m188 h hi hh hV.1.2.2.1) fun M1 h1 => MG_ret h1
            · simp only [if_neg c5]; exact MG_ret h
/-- a day -/
def gP (s : ZSt) (i : Nat) : ZSt := fun p j => if p = 137 ∧ j < i then gd s 1 j else s p j
theorem gP_o {s : ZSt} {i p j : Nat} (h : p ≠ 137) : gP s i p j = s p j := if_neg (fun q => h q.1)
theorem gP_i {s : ZSt} {i : Nat} : gP s i 137 i = s 137 i := if_neg (fun q => by omega)
theorem gP_ah (s : ZSt) (i : Nat) : AH s (gP s i) := ⟨fun q a b => funext fun j => gP_o (by omega), gP_o (by omega), gP_o (by omega)⟩
theorem gP_in {s : ZSt} (h : SIn s) (i : Nat) : SIn (gP s i) := by
  have e : ∀ j, gP s i 133 j = s 133 j := fun j => gP_o (by omega)
  unfold SIn
  simp only [e]
  exact h
theorem gP_bk {s : ZSt} {i : Nat} (h : SBk s 0 i) : SBk (gP s i) 0 i := by
  have e : ∀ p j, p ≠ 137 → gP s i p j = s p j := fun p j hp => gP_o hp
  unfold SBk at h ⊢
  simp only [Nat.add_zero] at h ⊢
  simp (disch := omega) only [e, gP_i]
  exact h
theorem gP_s {s : ZSt} {i : Nat} : up (gP s i) 137 i (gd s 1 i) = gP s (i + 1) := by
  refine up_ext fun p j => ?_
  by_cases c : j = i
  · subst c
    simp only [up_eq, gP, and_true]
    repeat' split
    all_goals first | rfl | omega
  · simp only [up_eq, gP]
    repeat' split
    all_goals first | rfl | omega
theorem m196a {M0 : ZMem} {s : ZSt} (hi : SIn s) (hh : SH s) (hb : SIb s) : ∀ (m z i : Nat) (M : ZMem), MS M0 M (gP s i) → (i : Int) + (m : Nat) = s 133 0 → m < z → MV M0 (f_196_2 z M 133 (ii (i : Int))) (goS s 1) := by
  have h0 := hi.1
  have h1 := hi.2.1
  intro m
  induction m with
  | zero =>
    intro z i M h e hz
    obtain ⟨w, rfl⟩ : ∃ w, z = w + 1 := ⟨z - 1, by omega⟩
    rw [f_196_2, rFx h (j := 0) (x := s 133 0) (by decide) rfl (gP_o (by omega)), zb_some, if_pos (show ii (s 133 0) ≤ ii (i : Int) by rw [ii_le (by omega) (by omega)]; omega), rFx h (j := 1) (x := s 133 1) (by decide) rfl (gP_o (by omega)), zb_some, show (1 : Int32) = ii 1 from rfl, ii_add]
    refine MV_bv (wF h (by decide) (by decide) (by decide)) fun M1 q => ?_
    have ee : up (gP s i) 133 1 (s 133 1 + 1) = goS s 1 := by
      refine up_ext fun p j => ?_
      simp only [up_eq, gP, goS]
      repeat' split
      all_goals first | rfl | omega
    rw [ee] at q
    exact MV_ret q
  | succ m ih =>
    intro z i M h e hz
    obtain ⟨w, rfl⟩ : ∃ w, z = w + 1 := ⟨z - 1, by omega⟩
    have hib : (i : Int) < s 133 0 := by omega
    have hv := hb i hib
    have v3 := hv.2.2.1
    have v4 := hv.2.2.2.1
    simp only [Nat.add_zero] at v3 v4
    have x5 := rN h (j := 5) (P := 136) (n := 6) (by decide) (by decide +kernel) (by decide) (fun _ => rfl) (by omega) (b := i) (by omega)
    have x6 := rN h (j := 6) (P := 137) (n := 6) (by decide) (by decide +kernel) (by decide) (fun _ => rfl) (by omega) (b := i) (by omega)
    have e175 := c175 h.1 h.2.2 (gP_in hi i) ((gP_ah s i).sh hh) (b := i) (by omega) (gP_bk hv)
    have ed : drs (gP s i) i = drs s i := by
      unfold drs
      rw [(gP_ah s i).tm.2.2, gP_o (by omega)]
    have db := drs_b hi hh (b := i)
    rw [gP_o (by omega)] at x5
    rw [gP_i] at x6
    rw [ed] at e175
    have nx : ∀ M1, MS M0 M1 (gP s (i + 1)) → MV M0 (f_196_53 (fun M a0 a1 => f_196_2 w M a0 a1) M1 133 (ii (i : Int))) (goS s 1) := by
      intro M1 q
      unfold f_196_53
      rw [ii_s1]
      exact ih w (i + 1) M1 q (by omega) (by omega)
    have nw : ∀ v : Int, v = gd s 1 i → MV M0 (f_196_52 (fun M a0 a1 => f_196_2 w M a0 a1) M 133 (ii (i : Int)) (ii v) (ii (i : Int)) (some 137)) (goS s 1) := by
      intro v hv
      unfold f_196_52
      rw [zb_some]
      refine MV_bv (wNn h (P := 137) (n := 6) (by decide) (by omega) (by omega)) fun M1 q => ?_
      rw [hv, gP_s] at q
      exact nx M1 q
    rw [f_196_2, rFx h (j := 0) (x := s 133 0) (by decide) rfl (gP_o (by omega)), zb_some, if_neg (show ¬ ii (s 133 0) ≤ ii (i : Int) by rw [ii_le (by omega) (by omega)]; omega), x5.1, zb_some, zb_some, x5.2, zb_some]
    by_cases g : s 136 i = 0
    · rw [if_neg (show ¬ ¬ ii (s 136 i) = 0 by rw [g]; decide)]
      refine nx M ?_
      rw [← gP_s, show gd s 1 i = s 137 i from if_pos g]
      have : up (gP s i) 137 i (s 137 i) = gP s i := by
        refine up_ext fun p j => ?_
        rw [up_eq]
        by_cases c : p = 137 ∧ j = i
        · rw [if_pos c, c.1, c.2, gP_i]
        · rw [if_neg c]
      rw [this]; exact h
    · have eg : gd s 1 i = min 99 (s 137 i + 1 * drs s i) := if_neg g
      rw [if_pos (show ¬ ii (s 136 i) = 0 by rw [show (0 : Int32) = ii 0 from rfl, ii_eq (by omega) (by omega)]; exact g), x6.1, zb_some, zb_some, x6.2, zb_some, e175, zb_some, zb_some, ii_add]
      by_cases f : s 137 i + drs s i ≤ 99
      · rw [if_pos (show ii (s 137 i + drs s i) ≤ 99 by rw [show (99 : Int32) = ii 99 from rfl, ii_le (by omega) (by omega)]; exact f)]
        exact nw _ (by omega)
      · rw [if_neg (show ¬ ii (s 137 i + drs s i) ≤ 99 by rw [show (99 : Int32) = ii 99 from rfl, ii_le (by omega) (by omega)]; exact f)]
        exact nw 99 (by omega)
theorem m196 {M0 M : ZMem} {s : ZSt} (h : MS M0 M s) (hi : SIn s) (hh : SH s) (hb : SIb s) : MV M0 (f_196 M 133) (goS s 1) := by
  have h0 := hi.1
  unfold f_196
  rw [if_pos (zok_ly h.1 k133)]
  refine m196a hi hh hb (s 133 0).toNat zF 0 M ?_ (by omega) (by unfold zF; omega)
  have : gP s 0 = s := up_ext fun p j => if_neg (fun q => by omega)
  rw [this]; exact h
theorem goS_n {s : ZSt} (hi : SIn s) (hh : SH s) (i : Nat) : goS (goS s (i : Int)) 1 = goS s ((i + 1 : Nat) : Int) := goS_1 hi hh
theorem m195a {M0 : ZMem} {s : ZSt} (hi : SIn s) (hh : SH s) (hb : SIb s) (hd : s 133 1 ≤ 9999) {n : Nat} (hn : n ≤ 60) : ∀ (m z i : Nat) (M : ZMem), MS M0 M (goS s (i : Int)) → i + m = n → m < z → MV M0 (f_195_2 z M 133 (ii (n : Int)) (ii (i : Int))) (goS s (n : Int)) := by
  intro m
  induction m with
  | zero =>
    intro z i M h e hz
    obtain ⟨w, rfl⟩ : ∃ w, z = w + 1 := ⟨z - 1, by omega⟩
    rw [f_195_2, if_pos (show ii (n : Int) ≤ ii (i : Int) by rw [ii_le (by omega) (by omega)]; omega), show n = i by omega]
    exact MV_ret h
  | succ m ih =>
    intro z i M h e hz
    obtain ⟨w, rfl⟩ : ∃ w, z = w + 1 := ⟨z - 1, by omega⟩
    rw [f_195_2, if_neg (show ¬ ii (n : Int) ≤ ii (i : Int) by rw [ii_le (by omega) (by omega)]; omega)]
    refine MV_bv (m196 h (goS_in hi (by omega) (by omega)) ((goS_ah s i).sh hh) (goS_ib hi hh hb (by omega))) fun M1 q => ?_
    rw [goS_n hi hh] at q
    rw [ii_s1]
    exact ih w (i + 1) M1 q (by omega) (by omega)
theorem m195 {M0 M : ZMem} {s : ZSt} (h : MS M0 M s) (hi : SIn s) (hh : SH s) (hb : SIb s) (hd : s 133 1 ≤ 9999) {n : Int} (hn : 0 ≤ n ∧ n ≤ 60) : MV M0 (f_195 M 133 (ii n)) (goS s n) := by
  obtain ⟨k, rfl⟩ := Int.eq_ofNat_of_zero_le hn.1
  unfold f_195
  rw [if_pos (zok_ly h.1 k133)]
  refine m195a hi hh hb hd (by omega) k zF 0 M ?_ (by omega) (by unfold zF; omega)
  have := goS_0 hi hb
  show MS M0 M (goS s 0)
  rw [this]; exact h
theorem c194 {M : ZMem} (h : Ly M) {n : Int} (hn : -2147483648 ≤ n ∧ n < 2147483648) : f_194 M 133 (ii n) = some (bz (0 ≤ n ∧ n ≤ 60)) := by
  unfold f_194
  rw [if_pos (zok_ly h k133), show (0 : Int32) = ii 0 from rfl, show (60 : Int32) = ii 60 from rfl, c147z h hn (by omega) (by omega), zb_some]
  simp only [bzn, if_true]
theorem m193 {M0 M : ZMem} {s : ZSt} (h : MS M0 M s) (hV : IV s) {n : Int} (hn : -2147483648 ≤ n ∧ n < 2147483648) : MG M0 (f_193 M 133 (ii n)) (ii (sp91 s n).1) (sp91 s n).2 := by
  have hi := hV.1.1.1
  have hd := hV.1.2.1
  have h1 := hi.2.1
  unfold f_193 sp91
  rw [if_pos (zok_ly h.1 k133), c194 h.1 hn, zb_some]
  by_cases c : 0 ≤ n ∧ n ≤ 60
  · rw [bzT c, if_pos (show ¬ (1 : Int32) = 0 by decide), if_pos c, rF h (j := 1) (by decide) rfl, zb_some, ii_add]
    by_cases d : s 133 1 + n ≤ 9999
    · rw [if_pos (show ii (s 133 1 + n) ≤ 9999 by rw [show (9999 : Int32) = ii 9999 from rfl, ii_le (by omega) (by omega)]; exact d), if_pos d]
      refine MG_bv (m195 h hi hV.1.2.2.2 hV.1.2.2.1 hd c) fun M1 q => ?_
      refine MG_eq (rFx q (j := 1) (by decide) rfl goS_d) ?_
      exact MG_ret q
    · rw [if_neg (show ¬ ii (s 133 1 + n) ≤ 9999 by rw [show (9999 : Int32) = ii 9999 from rfl, ii_le (by omega) (by omega)]; exact d), if_neg d]
      exact MG_ret h
  · rw [bzF c, if_neg (show ¬ ¬ (0 : Int32) = 0 by decide), if_neg c]
    exact MG_ret h
/-- what is kept aside, and put back -/
def svP (s : ZSt) (i : Nat) : ZSt := fun p j => if p = 154 ∧ j < i then s 136 j else if p = 155 ∧ j < i then s 137 j else if p = 133 ∧ j = 31 then s 133 1 else s p j
def svS (s : ZSt) : ZSt := svP s 6
theorem svP_o {s : ZSt} {i p j : Nat} (h1 : p ≠ 154) (h2 : p ≠ 155) (h3 : ¬ (p = 133 ∧ j = 31)) : svP s i p j = s p j := by
  unfold svP
  rw [if_neg (fun q => h1 q.1), if_neg (fun q => h2 q.1), if_neg h3]
theorem sv_154 {s : ZSt} {j : Nat} (h : j < 6) : svS s 154 j = s 136 j := if_pos ⟨rfl, h⟩
theorem sv_155 {s : ZSt} {j : Nat} (h : j < 6) : svS s 155 j = s 137 j := by
  unfold svS svP
  rw [if_neg (by omega), if_pos ⟨rfl, h⟩]
theorem sv_31 {s : ZSt} : svS s 133 31 = s 133 1 := by
  unfold svS svP
  rw [if_neg (by omega), if_neg (by omega), if_pos ⟨rfl, rfl⟩]
theorem sv_ev (s : ZSt) : EV s (svS s) := ⟨fun p a b => funext fun j => svP_o (by omega) (by omega) (by omega), fun j a b => svP_o (by omega) (by omega) (by omega)⟩
theorem sv_sv (s : ZSt) : svS (svS s) = svS s := by
  refine up_ext fun p j => ?_
  show (if p = 154 ∧ j < 6 then svS s 136 j else if p = 155 ∧ j < 6 then svS s 137 j else if p = 133 ∧ j = 31 then svS s 133 1 else svS s p j) = svS s p j
  by_cases a : p = 154 ∧ j < 6
  · rw [if_pos a, a.1, sv_154 a.2]; exact svP_o (by omega) (by omega) (by omega)
  · rw [if_neg a]
    by_cases b : p = 155 ∧ j < 6
    · rw [if_pos b, b.1, sv_155 b.2]; exact svP_o (by omega) (by omega) (by omega)
    · rw [if_neg b]
      by_cases c : p = 133 ∧ j = 31
      · rw [if_pos c, c.1, c.2, sv_31]; exact svP_o (by omega) (by omega) (by omega)
      · rw [if_neg c]
theorem svP_s {s : ZSt} {i : Nat} : up (up (svP s i) 154 i (s 136 i)) 155 i (s 137 i) = svP s (i + 1) := by
  refine up_ext fun p j => ?_
  by_cases c : j = i
  · subst c
    simp only [up_eq, svP, and_true]
    repeat' split
    all_goals first | rfl | omega
  · simp only [up_eq, svP]
    repeat' split
    all_goals first | rfl | omega
theorem m198a {M0 : ZMem} {s : ZSt} : ∀ (m z i : Nat) (M : ZMem), MS M0 M (svP s i) → i + m = 6 → m < z → MV M0 (f_198_10 z M 133 (ii (i : Int))) (svS s) := by
  intro m
  induction m with
  | zero =>
    intro z i M h e hz
    obtain ⟨w, rfl⟩ : ∃ w, z = w + 1 := ⟨z - 1, by omega⟩
    rw [f_198_10, if_pos (show (6 : Int32) ≤ ii (i : Int) by rw [show i = 6 by omega]; decide)]
    rw [show i = 6 by omega] at h
    exact MV_ret h
  | succ m ih =>
    intro z i M h e hz
    obtain ⟨w, rfl⟩ : ∃ w, z = w + 1 := ⟨z - 1, by omega⟩
    have x5 := rN h (j := 5) (P := 136) (n := 6) (by decide) (by decide +kernel) (by decide) (fun _ => rfl) (by omega) (b := i) (by omega)
    rw [svP_o (by omega) (by omega) (by omega)] at x5
    rw [f_198_10, if_neg (show ¬ (6 : Int32) ≤ ii (i : Int) by rw [show (6 : Int32) = ii 6 from rfl, ii_le (by omega) (by omega)]; omega), rP h (j := 32) (P := 154) (by decide) (by decide +kernel), zb_some, x5.1, zb_some, zb_some, x5.2, zb_some, zb_some]
    refine MV_bv (wNn h (P := 154) (n := 6) (by decide) (by omega) (by omega)) fun M1 h1 => ?_
    have x6 := rN h1 (j := 6) (P := 137) (n := 6) (by decide) (by decide +kernel) (by decide) (fun _ => rfl) (by omega) (b := i) (by omega)
    rw [up_ne (by omega), svP_o (by omega) (by omega) (by omega)] at x6
    rw [rP h1 (j := 33) (P := 155) (by decide) (by decide +kernel), zb_some, x6.1, zb_some, zb_some, x6.2, zb_some, zb_some]
    refine MV_bv (wNn h1 (P := 155) (n := 6) (by decide) (by omega) (by omega)) fun M2 h2 => ?_
    rw [svP_s] at h2
    rw [ii_s1]
    exact ih w (i + 1) M2 h2 (by omega) (by omega)
theorem m198 {M0 M : ZMem} {s : ZSt} (h : MS M0 M s) : MV M0 (f_198 M 133) (svS s) := by
  unfold f_198
  rw [if_pos (zok_ly h.1 k133), rF h (j := 1) (by decide) rfl, zb_some]
  refine MV_bv (wF h (by decide) (by decide) (by decide)) fun M1 h1 => ?_
  refine m198a 6 zF 0 M1 ?_ (by omega) (by unfold zF; omega)
  have : up s 133 31 (s 133 1) = svP s 0 := by
    refine up_ext fun p j => ?_
    simp only [up_eq, svP]
    repeat' split
    all_goals first | rfl | omega
  rw [← this]; exact h1
def pbP (s : ZSt) (i : Nat) : ZSt := fun p j => if p = 136 ∧ j < i then s 154 j else if p = 137 ∧ j < i then s 155 j else if p = 133 ∧ j = 1 then s 133 31 else s p j
def pbS (s : ZSt) : ZSt := pbP s 6
theorem pbP_o {s : ZSt} {i p j : Nat} (h1 : p ≠ 136) (h2 : p ≠ 137) (h3 : ¬ (p = 133 ∧ j = 1)) : pbP s i p j = s p j := by
  unfold pbP
  rw [if_neg (fun q => h1 q.1), if_neg (fun q => h2 q.1), if_neg h3]
theorem pbP_s {s : ZSt} {i : Nat} : up (up (pbP s i) 136 i (s 154 i)) 137 i (s 155 i) = pbP s (i + 1) := by
  refine up_ext fun p j => ?_
  by_cases c : j = i
  · subst c
    simp only [up_eq, pbP, and_true]
    repeat' split
    all_goals first | rfl | omega
  · simp only [up_eq, pbP]
    repeat' split
    all_goals first | rfl | omega
theorem m199a {M0 : ZMem} {s : ZSt} : ∀ (m z i : Nat) (M : ZMem), MS M0 M (pbP s i) → i + m = 6 → m < z → MV M0 (f_199_10 z M 133 (ii (i : Int))) (pbS s) := by
  intro m
  induction m with
  | zero =>
    intro z i M h e hz
    obtain ⟨w, rfl⟩ : ∃ w, z = w + 1 := ⟨z - 1, by omega⟩
    rw [f_199_10, if_pos (show (6 : Int32) ≤ ii (i : Int) by rw [show i = 6 by omega]; decide)]
    rw [show i = 6 by omega] at h
    exact MV_ret h
  | succ m ih =>
    intro z i M h e hz
    obtain ⟨w, rfl⟩ : ∃ w, z = w + 1 := ⟨z - 1, by omega⟩
    have x5 := rN h (j := 32) (P := 154) (n := 6) (by decide) (by decide +kernel) (by decide) (fun _ => rfl) (by omega) (b := i) (by omega)
    rw [pbP_o (by omega) (by omega) (by omega)] at x5
    rw [f_199_10, if_neg (show ¬ (6 : Int32) ≤ ii (i : Int) by rw [show (6 : Int32) = ii 6 from rfl, ii_le (by omega) (by omega)]; omega), rP h (j := 5) (P := 136) (by decide) (by decide +kernel), zb_some, x5.1, zb_some, zb_some, x5.2, zb_some, zb_some]
    refine MV_bv (wNn h (P := 136) (n := 6) (by decide) (by omega) (by omega)) fun M1 h1 => ?_
    have x6 := rN h1 (j := 33) (P := 155) (n := 6) (by decide) (by decide +kernel) (by decide) (fun _ => rfl) (by omega) (b := i) (by omega)
    rw [up_ne (by omega), pbP_o (by omega) (by omega) (by omega)] at x6
    rw [rP h1 (j := 6) (P := 137) (by decide) (by decide +kernel), zb_some, x6.1, zb_some, zb_some, x6.2, zb_some, zb_some]
    refine MV_bv (wNn h1 (P := 137) (n := 6) (by decide) (by omega) (by omega)) fun M2 h2 => ?_
    rw [pbP_s] at h2
    rw [ii_s1]
    exact ih w (i + 1) M2 h2 (by omega) (by omega)
theorem m199 {M0 M : ZMem} {s : ZSt} (h : MS M0 M s) : MV M0 (f_199 M 133) (pbS s) := by
  unfold f_199
  rw [if_pos (zok_ly h.1 k133), rF h (j := 31) (by decide) rfl, zb_some]
  refine MV_bv (wF h (by decide) (by decide) (by decide)) fun M1 h1 => ?_
  refine m199a 6 zF 0 M1 ?_ (by omega) (by unfold zF; omega)
  have : up s 133 1 (s 133 31) = pbP s 0 := by
    refine up_ext fun p j => ?_
    simp only [up_eq, pbP]
    repeat' split
    all_goals first | rfl | omega
  rw [← this]; exact h1
/-- what is put back: all that goes on from what was kept comes back so -/
theorem pb_of {s t : ZSt} (h1 : ∀ p, p ≠ 136 → p ≠ 137 → p ≠ 133 → t p = svS s p) (h2 : ∀ j, j ≠ 1 → t 133 j = svS s 133 j) (h3 : ∀ j, 6 ≤ j → t 136 j = s 136 j ∧ t 137 j = s 137 j) : pbS t = svS s := by
  refine up_ext fun p j => ?_
  show (if p = 136 ∧ j < 6 then t 154 j else if p = 137 ∧ j < 6 then t 155 j else if p = 133 ∧ j = 1 then t 133 31 else t p j) = svS s p j
  by_cases a : p = 136 ∧ j < 6
  · rw [if_pos a, a.1, h1 154 (by omega) (by omega) (by omega), sv_154 a.2]
    exact (svP_o (by omega) (by omega) (by omega)).symm
  · rw [if_neg a]
    by_cases b : p = 137 ∧ j < 6
    · rw [if_pos b, b.1, h1 155 (by omega) (by omega) (by omega), sv_155 b.2]
      exact (svP_o (by omega) (by omega) (by omega)).symm
    · rw [if_neg b]
      by_cases c : p = 133 ∧ j = 1
      · rw [if_pos c, c.1, c.2, h2 31 (by omega), sv_31]
        exact (svP_o (by omega) (by omega) (by omega)).symm
      · rw [if_neg c]
        by_cases d : p = 136
        · subst d
          rw [(h3 j (by omega)).1]
          exact (svP_o (by omega) (by omega) (by omega)).symm
        · by_cases e : p = 137
          · subst e
            rw [(h3 j (by omega)).2]
            exact (svP_o (by omega) (by omega) (by omega)).symm
          · by_cases f : p = 133
            · subst f; exact h2 j (by omega)
            · rw [h1 p d e f]
theorem pb_go {s : ZSt} (h0 : s 133 0 ≤ 6) {n : Int} : pbS (goS (svS s) n) = svS s := by
  have e0 : svS s 133 0 = s 133 0 := svP_o (by omega) (by omega) (by omega)
  refine pb_of (fun p a b c => goS_f b c) (fun j hj => goS_o (by omega) (by omega)) (fun j hj => ⟨(goS_o (by omega) (by omega)).trans (svP_o (by omega) (by omega) (by omega)), ?_⟩)
  unfold goS
  rw [if_neg (by omega), if_neg (by omega)]
  exact svP_o (by omega) (by omega) (by omega)
theorem m197z {M0 M : ZMem} {s : ZSt} (h0 : s 133 0 ≤ 6) {n v : Int} (h : MS M0 M (goS (svS s) n)) : MG M0 (f_197_97 M 133 (ii v)) (ii v) (svS s) := by
  unfold f_197_97
  refine MG_bv (m199 h) fun M1 h1 => ?_
  rw [pb_go h0] at h1
  exact MG_ret h1
theorem m197b {M0 M : ZMem} {s : ZSt} (h : MS M0 M s) (hV : IV s) {n w : Int} (hn : -2147483648 ≤ n ∧ n < 2147483648) (hw : w = 0 ∨ (10 ≤ w ∧ w < 10 + s 133 0) ∨ (20 ≤ w ∧ w < 20 + s 133 0)) : MG M0 (f_197_40 M 133 (ii n) (ii w)) (ii (sp93 (svS s) n w)) (if 0 ≤ n ∧ n ≤ 60 then svS s else s) := by
  have e0 : svS s 133 0 = s 133 0 := svP_o (by omega) (by omega) (by omega)
  have hU := IV_ev hV (sv_ev s)
  have hi := hU.1.1.1
  have hh := hU.1.2.2.2
  have hb := hU.1.2.2.1
  have hd := hU.1.2.1
  have h0 := hV.1.1.1.1
  unfold f_197_40 sp93
  rw [e0, if_pos hw, c194 h.1 hn, zb_some]
  by_cases c : 0 ≤ n ∧ n ≤ 60
  · rw [bzT c, if_pos (show ¬ (1 : Int32) = 0 by decide), if_pos c, if_pos c]
    refine MG_bv (m198 h) fun M1 h1 => ?_
    refine MG_bv (m195 h1 hi hh hb hd c) fun M2 h2 => ?_
    have gi := goS_in hi c.1 (by omega)
    have gh := (goS_ah (svS s) n).sh hh
    have gb := goS_ib hi hh hb c
    by_cases d : w = 0
    · rw [if_neg (show ¬ ¬ ii w = 0 by rw [d]; decide), if_pos d]
      exact MG_bd (m188 h2 gi gh gb) fun M3 h3 => m197z h0.2 h3
    · rw [if_pos (show ¬ ii w = 0 by rw [show (0 : Int32) = ii 0 from rfl, ii_eq (by omega) (by omega)]; exact d), if_neg d]
      by_cases f : 20 ≤ w
      · obtain ⟨k, hk⟩ := Int.eq_ofNat_of_zero_le (show 0 ≤ w - 20 by omega)
        rw [if_pos (show (20 : Int32) ≤ ii w by rw [show (20 : Int32) = ii 20 from rfl, ii_le (by omega) (by omega)]; exact f), if_neg (by omega), show (20 : Int32) = ii 20 from rfl, ii_sub, hk, Int.toNat_natCast]
        exact MG_bd (c189 (RK_of gi gh gb (n := k) (by rw [goS_o (by omega) (by omega)]; omega)) h2) fun M3 h3 => m197z h0.2 h3
      · obtain ⟨k, hk⟩ := Int.eq_ofNat_of_zero_le (show 0 ≤ w - 10 by omega)
        have x6 := rN h2 (j := 6) (P := 137) (n := 6) (by decide) (by decide +kernel) (by decide) (fun _ => rfl) (by omega) (b := k) (by omega)
        rw [if_neg (show ¬ (20 : Int32) ≤ ii w by rw [show (20 : Int32) = ii 20 from rfl, ii_le (by omega) (by omega)]; exact f), if_pos (by omega), show (10 : Int32) = ii 10 from rfl, ii_sub, hk, Int.toNat_natCast, x6.1, zb_some, zb_some, x6.2, zb_some]
        exact m197z h0.2 h2
  · rw [bzF c, if_neg (show ¬ ¬ (0 : Int32) = 0 by decide), if_neg c, if_neg c]
    exact MG_ret h
theorem m197 {M0 M : ZMem} {s : ZSt} (h : MS M0 M s) (hV : IV s) {n w : Int} (hn : -2147483648 ≤ n ∧ n < 2147483648) (hw : -2147483648 ≤ w ∧ w < 2147483648) : ∃ s', (s' = s ∨ s' = svS s) ∧ MG M0 (f_197 M 133 (ii n) (ii w)) (ii (sp93 (svS s) n w)) s' := by
  have e0 : svS s 133 0 = s 133 0 := svP_o (by omega) (by omega) (by omega)
  have h0 := hV.1.1.1.1
  by_cases c : w = 0 ∨ (10 ≤ w ∧ w < 10 + s 133 0) ∨ (20 ≤ w ∧ w < 20 + s 133 0)
  · refine ⟨if 0 ≤ n ∧ n ≤ 60 then svS s else s, by split <;> simp, ?_⟩
    have fin := m197b h hV hn c
    unfold f_197
    rw [if_pos (zok_ly h.1 k133)]
    by_cases d : w = 0
    · rw [if_pos (show ii w = 0 by rw [d]; rfl)]; exact fin
    · rw [if_neg (show ¬ ii w = 0 by rw [show (0 : Int32) = ii 0 from rfl, ii_eq (by omega) (by omega)]; exact d), rF h (j := 0) (by decide) rfl, zb_some, show (9 : Int32) = ii 9 from rfl, show (10 : Int32) = ii 10 from rfl, ii_add, c147z h.1 hw (by omega) (by omega), zb_some]
      by_cases f : 10 ≤ w ∧ w ≤ 9 + s 133 0
      · rw [bzT f, if_pos (show ¬ (1 : Int32) = 0 by decide)]; exact fin
      · rw [bzF f, if_neg (show ¬ ¬ (0 : Int32) = 0 by decide), zb_some, show (19 : Int32) = ii 19 from rfl, show (20 : Int32) = ii 20 from rfl, ii_add, c147z h.1 hw (by omega) (by omega), zb_some, bzT (by omega), if_pos (show ¬ (1 : Int32) = 0 by decide)]
        exact fin
  · refine ⟨s, .inl rfl, ?_⟩
    unfold f_197 sp93
    rw [e0, if_neg c, if_pos (zok_ly h.1 k133), if_neg (show ¬ ii w = 0 by rw [show (0 : Int32) = ii 0 from rfl, ii_eq (by omega) (by omega)]; omega), rF h (j := 0) (by decide) rfl, zb_some, show (9 : Int32) = ii 9 from rfl, show (10 : Int32) = ii 10 from rfl, ii_add, c147z h.1 hw (by omega) (by omega), zb_some, bzF (by omega), if_neg (show ¬ ¬ (0 : Int32) = 0 by decide), zb_some, show (19 : Int32) = ii 19 from rfl, show (20 : Int32) = ii 20 from rfl, ii_add, c147z h.1 hw (by omega) (by omega), zb_some, bzF (by omega), if_neg (show ¬ ¬ (0 : Int32) = 0 by decide)]
    exact MG_ret h
/-- lasts -/
def lsu (s : ZSt) (q : Int) : Nat → Int
  | 0 => -5
  | n + 1 => lst s q n
theorem lsu_s {s : ZSt} {q : Int} (n : Nat) : lsu s q (n + 1) = if q ≤ bAl (goS s (n : Int)) then (n : Int) else lsu s q n := by
  cases n <;> rfl
theorem m200a {M0 : ZMem} {s : ZSt} (hV : IV s) {q : Int} (hq : 0 ≤ q ∧ q ≤ 99999) : ∀ (m z i : Nat) (M : ZMem), MS M0 M (goS (svS s) (i : Int)) → i + m = 21 → m < z → MG M0 (f_200_24 z M 133 (ii q) (ii (lsu (svS s) q i)) (ii (i : Int))) (ii (lst (svS s) q 20)) (svS s) := by
  have hU := IV_ev hV (sv_ev s)
  have hi := hU.1.1.1
  have hh := hU.1.2.2.2
  have hb := hU.1.2.2.1
  have hd := hU.1.2.1
  have h0 := hV.1.1.1.1
  intro m
  induction m with
  | zero =>
    intro z i M h e hz
    obtain ⟨w, rfl⟩ : ∃ w, z = w + 1 := ⟨z - 1, by omega⟩
    have ei : i = 21 := by omega
    subst ei
    rw [f_200_24, if_pos (show (21 : Int32) ≤ ii ((21 : Nat) : Int) by decide)]
    refine MG_bv (m199 h) fun M1 h1 => ?_
    rw [pb_go h0.2] at h1
    exact MG_ret h1
  | succ m ih =>
    intro z i M h e hz
    obtain ⟨w, rfl⟩ : ∃ w, z = w + 1 := ⟨z - 1, by omega⟩
    have gi := goS_in hi (n := (i : Int)) (by omega) (by omega)
    have gh := (goS_ah (svS s) (i : Int)).sh hh
    have gb := goS_ib hi hh hb (n := (i : Int)) (by omega)
    have B := bAl_b gi gh gb
    rw [f_200_24, if_neg (show ¬ (21 : Int32) ≤ ii (i : Int) by rw [show (21 : Int32) = ii 21 from rfl, ii_le (by omega) (by omega)]; omega)]
    refine MG_bd (m188 h gi gh gb) fun M1 h1 => ?_
    have nx : ∀ v : Int, v = lsu (svS s) q (i + 1) → MG M0 (f_200_43 (fun M a0 a1 a2 a3 => f_200_24 w M a0 a1 a2 a3) M1 133 (ii q) (ii (i : Int)) (ii v)) (ii (lst (svS s) q 20)) (svS s) := by
      intro v hv
      unfold f_200_43
      refine MG_bv (m196 h1 gi gh gb) fun M2 h2 => ?_
      rw [goS_n hi hh] at h2
      rw [ii_s1, hv]
      exact ih w (i + 1) M2 h2 (by omega) (by omega)
    rw [it_lt (by omega) (by omega)]
    by_cases c : q ≤ bAl (goS (svS s) (i : Int))
    · rw [if_neg (by omega)]
      exact nx _ (by rw [lsu_s, if_pos c])
    · rw [if_pos (by omega)]
      exact nx _ (by rw [lsu_s, if_neg c])
theorem m200 {M0 M : ZMem} {s : ZSt} (h : MS M0 M s) (hV : IV s) {q : Int} (hq : -2147483648 ≤ q ∧ q < 2147483648) : ∃ s', (s' = s ∨ s' = svS s) ∧ MG M0 (f_200 M 133 (ii q)) (ii (sp96 (svS s) q)) s' := by
  have hU := IV_ev hV (sv_ev s)
  by_cases c : 0 ≤ q ∧ q ≤ 99999
  · refine ⟨svS s, .inr rfl, ?_⟩
    unfold f_200 sp96
    rw [if_pos (zok_ly h.1 k133), show (0 : Int32) = ii 0 from rfl, show (99999 : Int32) = ii 99999 from rfl, c147z h.1 hq (by omega) (by omega), zb_some, bzT c, if_pos (show ¬ (1 : Int32) = ii 0 by decide), if_pos c]
    refine MG_bv (m198 h) fun M1 h1 => ?_
    refine m200a hV c 21 zF 0 M1 ?_ (by omega) (by unfold zF; omega)
    show MS M0 M1 (goS (svS s) 0)
    rw [goS_0 hU.1.1.1 hU.1.2.2.1]
    exact h1
  · refine ⟨s, .inl rfl, ?_⟩
    unfold f_200 sp96
    rw [if_pos (zok_ly h.1 k133), show (0 : Int32) = ii 0 from rfl, show (99999 : Int32) = ii 99999 from rfl, c147z h.1 hq (by omega) (by omega), zb_some, bzF c, if_neg (show ¬ ¬ (0 : Int32) = ii 0 by decide), if_neg c]
    exact MG_ret h
/-- loses, worst -/
theorem m205 {M0 M : ZMem} {s : ZSt} (h : MS M0 M s) (hV : IV s) {b : Nat} (hb : (b : Int) < s 133 0) : MG M0 (f_205 M 133 (ii (b : Int))) (ii (lo (svS s) b)) (svS s) := by
  have h0 := hV.1.1.1.1
  have e0 : svS s 133 0 = s 133 0 := svP_o (by omega) (by omega) (by omega)
  unfold f_205
  rw [if_pos (zok_ly h.1 k133), c149 h.1 h.2.2 hV.1.1.1 (by omega), zb_some, if_pos (show 0 ≤ (b : Int) ∧ (b : Int) < s 133 0 from ⟨by omega, hb⟩), if_neg (show ¬ (1 : Int32) = 0 by decide)]
  refine MG_bd (c189 (RK_of hV.1.1.1 hV.1.2.2.2 hV.1.2.2.1 hb) h) fun M1 h1 => ?_
  have x := m197b h1 hV (n := 1) (w := 20 + (b : Int)) (by omega) (by omega)
  rw [if_pos (by omega)] at x
  have ex : sp93 (svS s) 1 (20 + (b : Int)) = tB (goS (svS s) 1) b (thk (goS (svS s) 1) b) := by
    unfold sp93
    rw [e0, if_pos (by omega), if_pos (by omega), if_neg (by omega), if_neg (by omega), show (20 + (b : Int) - 20).toNat = b by omega]
  have x2 : MG M0 (f_197 M1 133 (ii 1) (ii (20 + (b : Int)))) (ii (sp93 (svS s) 1 (20 + (b : Int)))) (svS s) := by
    unfold f_197
    rw [if_pos (zok_ly h1.1 k133), if_neg (show ¬ ii (20 + (b : Int)) = 0 by rw [show (0 : Int32) = ii 0 from rfl, ii_eq (by omega) (by omega)]; omega), rF h1 (j := 0) (by decide) rfl, zb_some, show (9 : Int32) = ii 9 from rfl, show (10 : Int32) = ii 10 from rfl, ii_add, c147z h1.1 (by omega) (by omega) (by omega), zb_some, bzF (by omega), if_neg (show ¬ ¬ (0 : Int32) = 0 by decide), zb_some, show (19 : Int32) = ii 19 from rfl, show (20 : Int32) = ii 20 from rfl, ii_add, c147z h1.1 (by omega) (by omega) (by omega), zb_some, bzT (by omega), if_pos (show ¬ (1 : Int32) = 0 by decide)]
    exact x
  rw [show (1 : Int32) = ii 1 from rfl, show (20 : Int32) = ii 20 from rfl, ii_add]
  refine MG_bd x2 fun M2 h2 => ?_
  rw [ii_sub, ex]
  unfold lo
  rw [tB_ev (sv_ev s), thk_ev (sv_ev s)]
  exact MG_ret h2
theorem m205t {M0 M : ZMem} {s : ZSt} (h : MS M0 M s) (hV : IV s) {b : Int} (hb : -2147483648 ≤ b ∧ b < 2147483648) : ∃ s', (s' = s ∨ s' = svS s) ∧ MG M0 (f_205 M 133 (ii b)) (ii (sp104 (svS s) b)) s' := by
  have e0 : svS s 133 0 = s 133 0 := svP_o (by omega) (by omega) (by omega)
  by_cases c : 0 ≤ b ∧ b < s 133 0
  · obtain ⟨n, rfl⟩ := Int.eq_ofNat_of_zero_le c.1
    refine ⟨svS s, .inr rfl, ?_⟩
    unfold sp104
    rw [e0, if_pos c, Int.toNat_natCast]
    exact m205 h hV c.2
  · refine ⟨s, .inl rfl, ?_⟩
    unfold f_205 sp104
    rw [e0, if_neg c, if_pos (zok_ly h.1 k133), c149 h.1 h.2.2 hV.1.1.1 hb, zb_some, if_neg c, if_pos (show (0 : Int32) = 0 from rfl)]
    exact MG_ret h
theorem m206a {M0 : ZMem} {s : ZSt} (hV : IV s) : ∀ (m z i : Nat) (M : ZMem) (t : ZSt), (t = s ∨ t = svS s) → MS M0 M t → (i : Int) + (m : Nat) = s 133 0 → m < z → ∃ t', (t' = s ∨ t' = svS s) ∧ MG M0 (f_206_7 z M 133 (ii (wst (svS s) i).1) (ii (wst (svS s) i).2) (ii (i : Int))) (ii (wst (svS s) (s 133 0).toNat).1) t' := by
  have h0 := hV.1.1.1.1
  have hU := IV_ev hV (sv_ev s)
  have e0 : svS s 133 0 = s 133 0 := svP_o (by omega) (by omega) (by omega)
  intro m
  induction m with
  | zero =>
    intro z i M t ht h e hz
    obtain ⟨w, rfl⟩ : ∃ w, z = w + 1 := ⟨z - 1, by omega⟩
    have t0 : t 133 0 = s 133 0 := by rcases ht with rfl | rfl; rfl; exact e0
    refine ⟨t, ht, ?_⟩
    rw [f_206_7, rFx h (j := 0) (by decide) rfl t0, zb_some, if_pos (show ii (s 133 0) ≤ ii (i : Int) by rw [ii_le (by omega) (by omega)]; omega), show (s 133 0).toNat = i by omega]
    exact MG_ret h
  | succ m ih =>
    intro z i M t ht h e hz
    obtain ⟨w, rfl⟩ : ∃ w, z = w + 1 := ⟨z - 1, by omega⟩
    have t0 : t 133 0 = s 133 0 := by rcases ht with rfl | rfl; rfl; exact e0
    have s6 : svS s 136 i = s 136 i := svP_o (by omega) (by omega) (by omega)
    have t6 : t 136 i = s 136 i := by rcases ht with rfl | rfl; rfl; exact s6
    have hT : IV t := by rcases ht with rfl | rfl; exact hV; exact hU
    have sT : svS t = svS s := by rcases ht with rfl | rfl; rfl; exact sv_sv s
    have hib : (i : Int) < s 133 0 := by omega
    have v3 := (hV.1.2.2.1 i hib).2.2.1
    simp only [Nat.add_zero] at v3
    have x5 := rN h (j := 5) (P := 136) (n := 6) (by decide) (by decide +kernel) (by decide) (fun _ => rfl) (by omega) (b := i) (by omega)
    rw [t6] at x5
    have wb := wst_b hU i (by omega)
    have lb := lo_b hU (b := i) (by omega)
    rw [f_206_7, rFx h (j := 0) (by decide) rfl t0, zb_some, if_neg (show ¬ ii (s 133 0) ≤ ii (i : Int) by rw [ii_le (by omega) (by omega)]; omega), x5.1, zb_some, zb_some, x5.2, zb_some]
    by_cases g : s 136 i = 0
    · rw [if_neg (show ¬ ¬ ii (s 136 i) = 0 by rw [g]; decide)]
      unfold f_206_52
      rw [ii_s1]
      have nx := ih w (i + 1) M t ht h (by omega) (by omega)
      rw [wst, s6, if_pos g] at nx
      exact nx
    · rw [if_pos (show ¬ ii (s 136 i) = 0 by rw [show (0 : Int32) = ii 0 from rfl, ii_eq (by omega) (by omega)]; exact g)]
      obtain ⟨M1, q1, q2⟩ := m205 h hT (b := i) (by omega)
      rw [sT] at q1 q2
      obtain ⟨t', r1, r2⟩ := ih w (i + 1) M1 (svS s) (.inr rfl) q2 (by omega) (by omega)
      refine ⟨t', r1, ?_⟩
      rw [wst, s6, if_neg g] at r2
      rw [q1, zbd_some]
      unfold f_206_47 f_206_52
      rw [ii_s1]
      by_cases f1 : (wst (svS s) i).1 < 0
      · rw [if_pos (show ii (wst (svS s) i).1 < 0 by rw [show (0 : Int32) = ii 0 from rfl, ii_lt (by omega) (by omega)]; exact f1)]
        rw [if_pos (.inl f1)] at r2
        exact r2
      · rw [if_neg (show ¬ ii (wst (svS s) i).1 < 0 by rw [show (0 : Int32) = ii 0 from rfl, ii_lt (by omega) (by omega)]; exact f1)]
        by_cases f2 : (wst (svS s) i).2 < lo (svS s) i
        · rw [if_pos (show ii (wst (svS s) i).2 < ii (lo (svS s) i) by rw [ii_lt (by omega) (by omega)]; exact f2)]
          rw [if_pos (.inr f2)] at r2
          exact r2
        · rw [if_neg (show ¬ ii (wst (svS s) i).2 < ii (lo (svS s) i) by rw [ii_lt (by omega) (by omega)]; exact f2)]
          rw [if_neg (by omega)] at r2
          exact r2
theorem m206 {M0 M : ZMem} {s : ZSt} (h : MS M0 M s) (hV : IV s) : ∃ s', (s' = s ∨ s' = svS s) ∧ MG M0 (f_206 M 133) (ii (sp106 (svS s))) s' := by
  have h0 := hV.1.1.1.1
  have e0 : svS s 133 0 = s 133 0 := svP_o (by omega) (by omega) (by omega)
  obtain ⟨t, h1, h2⟩ := m206a hV (s 133 0).toNat zF 0 M s (.inl rfl) h (by omega) (by unfold zF; omega)
  refine ⟨t, h1, ?_⟩
  unfold f_206 sp106
  rw [if_pos (zok_ly h.1 k133), e0]
  exact h2
