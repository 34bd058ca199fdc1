/-! HILL, the class's reader -/
def wby (o : Nat) : List Int := if o = 2 then [100, 101, 97, 114] else if o = 3 then [99, 104, 101, 97, 112] else if o = 4 then [116, 104, 105, 110] else if o = 5 then [116, 104, 105, 99, 107] else if o = 6 then [119, 105, 110, 100] else if o = 7 then [98, 107, 118, 116, 100, 121] else [60, 61, 62]
def wbc (o : Nat) : Bool := decide ((o, 1, (0 : Int32)) ∈ zCt) && (zRm o 0 == some (o + 7)) && (zSh.getD o (0, 0) == (13, 0)) && (zSh.getD (o + 7) (0, 0) == (32, (wby o).length)) && decide ((wby o).length ≤ 6) && (List.range (wby o).length).all fun k => decide ((o + 7, k, ii ((wby o).getD k 0)) ∈ zCt) && decide (0 ≤ (wby o).getD k 0) && decide ((wby o).getD k 0 < 128)
theorem wbc_ok : ((List.range 9).all fun o => decide (o < 2) || wbc o) = true := by decide +kernel
theorem wby_i (o : Nat) (h9 : o < 9) (h2 : 2 ≤ o) : ((o, 1, (0 : Int32)) ∈ zCt ∧ zRm o 0 = some (o + 7) ∧ zSh.getD o (0, 0) = (13, 0) ∧ zSh.getD (o + 7) (0, 0) = (32, (wby o).length) ∧ (wby o).length ≤ 6) ∧ ∀ k : Nat, k < (wby o).length → (o + 7, k, ii ((wby o).getD k 0)) ∈ zCt ∧ 0 ≤ (wby o).getD k 0 ∧ (wby o).getD k 0 < 128 := by
  have h := List.all_eq_true.mp wbc_ok o (List.mem_range.mpr h9)
  rw [show decide (o < 2) = false from decide_eq_false (by omega), Bool.false_or] at h
  unfold wbc at h
  simp only [Bool.and_eq_true, decide_eq_true_eq, beq_iff_eq, List.all_eq_true, List.mem_range] at h
  obtain ⟨⟨⟨⟨⟨a1, a2⟩, a3⟩, a4⟩, a5⟩, a6⟩ := h
  exact ⟨⟨a1, a2, a3, a4, a5⟩, fun k hk => ⟨(a6 k hk).1.1, (a6 k hk).1.2, (a6 k hk).2⟩⟩
theorem sS {M : ZMem} (h : Ly M) (hc : RCc M) {o : Nat} (h2 : 2 ≤ o) (h9 : o < 9) : zok M 13 o = true ∧ zgi M 13 1 o = some 0 ∧ zgr M 13 0 o = some (some (o + 7)) ∧ zlen none M (o + 7) = some (ii (wby o).length) ∧ ∀ k : Nat, k < (wby o).length → zab M (o + 7) (ii (k : Int)) = some (ii ((wby o).getD k 0)) := by
  obtain ⟨⟨a1, a2, a3, a4, a5⟩, a6⟩ := wby_i o h9 h2
  have e1 := h.s o (by omega)
  have e2 := h.s (o + 7) (by omega)
  rw [a3] at e1
  rw [a4] at e2
  have n := h.n
  refine ⟨?_, ?_, ?_, ?_, fun k hk => ?_⟩
  · unfold zok
    rw [e1]
    exact decide_eq_true ⟨rfl, .inr ⟨rfl, h2, h9⟩⟩
  · unfold zgi zgf
    rw [n, e1, if_pos ⟨rfl, by omega, by decide, by omega, .inr rfl, fun _ => ⟨h2, h9⟩⟩]
    unfold zfv
    rw [show zkd (zty 13 1) = 0 by decide]
    show some (zI M o 1) = some 0
    rw [show zI M o 1 = 0 from hc _ a1]
  · unfold zgr zgf
    rw [n, e1, if_pos ⟨rfl, by omega, by decide, by omega, .inr rfl, fun _ => ⟨h2, h9⟩⟩]
    unfold zfv
    rw [show zkd (zty 13 0) = 2 by decide, zRm_of h a2]
    rfl
  · unfold zlen
    rw [if_neg (by omega), n, e2, if_pos ⟨by omega, .inr ⟨by omega, .inr rfl⟩⟩]
    rfl
  · have hk2 := a6 k hk
    have ek : (ii (k : Int)).toInt = (k : Int) := ii_toInt (by omega)
    have ck : (ii (k : Int)).toNatClampNeg = k := by show (ii (k : Int)).toInt.toNat = _; rw [ek]; omega
    unfold zab zla
    rw [show (if o + 7 < 20 then 32 else if (zsh M (o + 7)).1 = 21 then 21 else 22) = 32 from if_pos (by omega), e2, n, if_pos ⟨rfl, .inr (.inr rfl), by omega, by
      rw [ck, Int32.lt_iff_toInt_lt, ek]
      have : (0 : Int32).toInt = 0 := rfl
      simp only
      omega⟩, ck, show zI M (o + 7) k = ii ((wby o).getD k 0) from hc _ hk2.1]
theorem c68s {M : ZMem} (h : Ly M) (hc : RCc M) {o : Nat} (h2 : 2 ≤ o) (h9 : o < 9) : f_68 M o = some 0 ∧ f_70 M o = some 1 ∧ f_67 M o = some (ii (wby o).length) := by
  obtain ⟨a1, a2, a3, a4, a5⟩ := sS h hc h2 h9
  have l6 := (wby_i o h9 h2).1.2.2.2.2
  have e68 : f_68 M o = some 0 := by
    unfold f_68
    rw [if_pos a1, if_neg (by decide), a2, zb_some, if_pos (show narrow .byte (.int 0) = .int 0 by rfl)]
  refine ⟨e68, ?_, ?_⟩
  · unfold f_70
    rw [if_pos a1, if_neg (by decide), a2, zb_some, if_neg (fun q => q rfl)]
  · unfold f_67
    rw [if_pos a1, a3, zb_some, zb_some, a4, zb_some, e68, zb_some]
    have : ∀ k : Nat, k < 7 → ii (k : Int) >>> ((0 : Int32) &&& 31) = ii (k : Int) := by decide +kernel
    rw [this _ (by omega)]
theorem ch128 : ∀ c : Nat, c < 128 → ((Int32.toUInt32 (ii (c : Int) &&& 255) % 65536).toInt32 = ii (c : Int)) ∧ ((Int32.toUInt32 (ii (c : Int)) % 65536).toInt32 = ii (c : Int)) ∧ (Int32.toInt8 (ii (c : Int))).toInt32 = ii (c : Int) := by decide +kernel
theorem chx : ∀ c : Nat, c < 128 → (ii (c : Int)).toUInt32.toUInt16.toUInt32.toInt32 = ii (c : Int) := by decide +kernel
theorem nch {x : Int32} {c : Nat} (hc : c < 128) (e : x = ii (c : Int)) : narrow .char (.int x) = .int x := by
  subst e
  show Value.int (ii (c : Int)).toUInt32.toUInt16.toUInt32.toInt32 = _
  rw [chx c hc]
theorem c69s {M : ZMem} (h : Ly M) (hc : RCc M) {o : Nat} (h2 : 2 ≤ o) (h9 : o < 9) {k : Nat} (hk : k < (wby o).length) : f_69 M o (ii (k : Int)) = some (ii ((wby o).getD k 0)) := by
  obtain ⟨a1, a2, a3, a4, a5⟩ := sS h hc h2 h9
  obtain ⟨b1, b2⟩ := wby_i o h9 h2
  obtain ⟨c, hcc⟩ := Int.eq_ofNat_of_zero_le (b2 k hk).2.1
  have c128 : c < 128 := by have := (b2 k hk).2.2; omega
  have l6 := b1.2.2.2.2
  have e73 : f_72 M (ii (k : Int)) (ii (wby o).length) = some () := by
    unfold f_72 f_73
    rw [if_neg (show ¬ ii (k : Int) < 0 by rw [show (0 : Int32) = ii 0 from rfl, ii_lt (by omega) (by omega)]; omega), if_pos (show ii (k : Int) < ii ((wby o).length : Int) by rw [ii_lt (by omega) (by omega)]; omega), zb_some]
  have e71 : f_71 M (some (o + 7)) (ii (k : Int)) = some (ii (c : Int)) := by
    unfold f_71
    rw [zb_some, a4, zb_some, e73, zb_some, a5 k hk, zb_some, hcc, (ch128 c c128).1, if_pos (nch c128 rfl)]
  unfold f_69
  rw [if_pos a1, (c68s h hc h2 h9).2.1, zb_some, if_neg (by decide), a3, zb_some, e71, zb_some, if_pos (nch c128 rfl), hcc]
/-- the place of a sign in a text, or none -/
def ixo (c : Int) : List Int → Nat → Int
  | [], _ => -1
  | a :: r, k => if a = c then (k : Int) else ixo c r (k + 1)
theorem c86a {M : ZMem} (h : Ly M) (hc : RCc M) {o : Nat} (h2 : 2 ≤ o) (h9 : o < 9) {c : Int} (hcr : 0 ≤ c ∧ c < 128) : ∀ (m z k : Nat), k + m = (wby o).length → m < z → f_86_7 z M (some (o + 7)) (ii (wby o).length) (ii c) (ii (k : Int)) = some (ii (ixo c ((wby o).drop k) k)) := by
  obtain ⟨a1, a2, a3, a4, a5⟩ := sS h hc h2 h9
  obtain ⟨b1, b2⟩ := wby_i o h9 h2
  have l6 := b1.2.2.2.2
  intro m
  induction m with
  | zero =>
    intro z k e hz
    obtain ⟨w, rfl⟩ : ∃ w, z = w + 1 := ⟨z - 1, by omega⟩
    rw [f_86_7, if_pos (show ii ((wby o).length : Int) ≤ ii (k : Int) by rw [ii_le (by omega) (by omega)]; omega), List.drop_eq_nil_of_le (by omega)]
    rfl
  | succ m ih =>
    intro z k e hz
    obtain ⟨w, rfl⟩ : ∃ w, z = w + 1 := ⟨z - 1, by omega⟩
    have hk : k < (wby o).length := by omega
    have r := (b2 k hk).2
    have eg : (wby o).getD k 0 = (wby o)[k] := by simp [List.getD, hk]
    rw [f_86_7, if_neg (show ¬ ii ((wby o).length : Int) ≤ ii (k : Int) by rw [ii_le (by omega) (by omega)]; omega), zb_some, a5 k hk, zb_some, List.drop_eq_getElem_cons hk, ixo, ← eg, ii_s1]
    by_cases q : (wby o).getD k 0 = c
    · rw [if_neg (show ¬ ¬ ii ((wby o).getD k 0) = ii c by rw [q]; exact fun t => t rfl), if_pos q]
    · rw [if_pos (show ¬ ii ((wby o).getD k 0) = ii c by rw [ii_eq (by omega) (by omega)]; exact q), if_neg q]
      exact ih w (k + 1) (by omega) (by omega)
theorem c82s {M : ZMem} (h : Ly M) (hc : RCc M) {o : Nat} (h2 : 2 ≤ o) (h9 : o < 9) {c : Int} (hcr : 0 ≤ c ∧ c < 128) : f_82 M o (ii c) = some (ii (ixo c (wby o) 0)) := by
  obtain ⟨a1, a2, a3, a4, a5⟩ := sS h hc h2 h9
  obtain ⟨b1, b2⟩ := wby_i o h9 h2
  have l6 := b1.2.2.2.2
  have l1 : 1 ≤ (wby o).length := by
    have : ∀ o : Nat, o < 9 → 1 ≤ (wby o).length := by decide
    exact this o h9
  obtain ⟨k, rfl⟩ := Int.eq_ofNat_of_zero_le hcr.1
  have e85 : f_85 M (ii (k : Int)) = some 1 := by
    unfold f_85
    rw [if_neg (show ¬ ii (k : Int) < 0 by rw [show (0 : Int32) = ii 0 from rfl, ii_lt (by omega) (by omega)]; omega), if_neg (show ¬ (255 : Int32) < ii (k : Int) by rw [show (255 : Int32) = ii 255 from rfl, ii_lt (by omega) (by omega)]; omega)]
  have e24 : f_24 M (0 : Int32) 0 = some 0 := c24i (M := M) (a := 0) (b := 0) (by omega) (by omega)
  have e37 := c37i (M := M) (a := ((wby o).length : Int)) (b := ((wby o).length : Int)) (by omega) (by omega)
  rw [show min ((wby o).length : Int) ((wby o).length : Int) = ((wby o).length : Int) by omega] at e37
  have e86 : f_86 M (some (o + 7)) (ii (k : Int)) 0 (ii (wby o).length) = some (ii (ixo (k : Int) (wby o) 0)) := by
    unfold f_86
    rw [(ch128 k (by omega)).2.2]
    exact c86a h hc h2 h9 hcr (wby o).length zF 0 (by omega) (by unfold zF; omega)
  have e84 : f_84 M (some (o + 7)) (ii (k : Int)) 0 (ii (wby o).length) = some (ii (ixo (k : Int) (wby o) 0)) := by
    unfold f_84
    rw [e85, zb_some, if_pos (by decide), e24, zb_some, zb_some, a4, zb_some, e37, zb_some, if_pos (show (0 : Int32) < ii ((wby o).length : Int) by rw [show (0 : Int32) = ii 0 from rfl, ii_lt (by omega) (by omega)]; omega), e86, zb_some]
  unfold f_82 f_83
  rw [if_pos a1, if_pos a1, (c68s h hc h2 h9).2.1, zb_some, if_neg (by decide), a3, zb_some, (c68s h hc h2 h9).2.2, zb_some, e84, zb_some, zb_some]
/-- the reader: what stays, where it stands -/
def HB (T : Nat → Int) (n h : Nat) (M1 : ZMem) : Prop := (Ly M1 ∧ RCc M1) ∧ (n ≤ 100 ∧ h < 6) ∧ ∀ k, k < n → zI M1 89 k = ii (T k) ∧ 0 ≤ T k ∧ T k ≤ 127
def CH (n h : Nat) (M1 M : ZMem) (p : Nat) : Prop := Ly M ∧ (zR M 93 0 = some 89 ∧ zR M 93 3 = some (109 + 2 * h)) ∧ (zI M 93 1 = ii (n : Int) ∧ zI M 93 2 = ii (p : Int)) ∧ (∀ a j, a ≠ 93 → a ≠ 109 + 2 * h → a ≠ 110 + 2 * h → zI M a j = zI M1 a j) ∧ ∀ a j, zL M a j = zL M1 a j
def St (h : Nat) (M : ZMem) (st : List Int) (tm : Int × Int × Int) : Prop := zI M (109 + 2 * h) 1 = ii (st.length : Int) ∧ (∀ i, i < st.length → zI M (110 + 2 * h) i = ii (st.getD i 0)) ∧ zI M (109 + 2 * h) 2 = ii tm.1 ∧ zI M (109 + 2 * h) 3 = ii tm.2.1 ∧ zI M (109 + 2 * h) 4 = ii tm.2.2
theorem cD {M : ZMem} (h : Ly M) : zok M 4 93 = true ∧ zgi M 4 1 93 = some (zI M 93 1) ∧ zgi M 4 2 93 = some (zI M 93 2) ∧ (∀ x, zpf M 4 1 93 (.int x) false = some (zpI M 93 1 x)) ∧ ∀ x, zpf M 4 2 93 (.int x) false = some (zpI M 93 2 x) := ⟨zok_ly h (by decide +kernel), gI h (by decide +kernel) (by decide), gI h (by decide +kernel) (by decide), fun x => pI h (by decide +kernel) (by decide) (by decide) (by decide), fun x => pI h (by decide +kernel) (by decide) (by decide) (by decide)⟩
theorem cDr {M : ZMem} (h : Ly M) {j q : Nat} (hj : j = 0 ∨ j = 3) (e : zR M 93 j = some q) : zgr M 4 j 93 = some (some q) := by
  have e1 := h.s 93 (by omega)
  rw [show zSh.getD 93 (0, 0) = (4, 0) by decide +kernel] at e1
  have kd : zkd (zty 4 j) = 2 ∧ j < zN 4 := by rcases hj with rfl | rfl <;> decide
  unfold zgr zgf
  rw [h.n, e1, if_pos ⟨rfl, by omega, kd.2, by omega, .inl (by omega), fun q => by omega⟩]
  unfold zfv
  rw [kd.1, e]
  rfl
theorem cDw {M : ZMem} (h : Ly M) {j q : Nat} (hj : j = 0 ∨ j = 3) : zpf M 4 j 93 (zrf (some q)) false = some (zpR M 93 j (some q)) := by
  have e1 := h.s 93 (by omega)
  rw [show zSh.getD 93 (0, 0) = (4, 0) by decide +kernel] at e1
  have kd : zkd (zty 4 j) = 2 ∧ j < zN 4 ∧ zfin 4 j = false := by rcases hj with rfl | rfl <;> decide
  have nf : narrow (zty 4 j) (zrf (some q)) = zrf (some q) ∧ fits (zty 4 j) (zrf (some q)) = true := by rcases hj with rfl | rfl <;> exact ⟨rfl, rfl⟩
  unfold zpf
  rw [h.n, e1, if_pos ⟨rfl, by omega, kd.2.1, by omega, by omega, (fun t => absurd (kd.2.2.symm.trans t) (by decide)), nf.1, nf.2⟩, kd.1]
  rfl
theorem CH.pl {n h : Nat} {M1 M : ZMem} {p : Nat} (hC : CH n h M1 M p) (hh : h < 6) (q : Nat) : CH n h M1 (zpI M 93 2 (ii (q : Int))) q := by
  obtain ⟨a, b, c, d, e⟩ := hC
  exact ⟨a.p, b, ⟨(zI_nk (by omega)).trans c.1, zI_at⟩, fun x j x1 x2 x3 => (zI_ne x1).trans (d x j x1 x2 x3), e⟩
theorem St.fr {h : Nat} {M M' : ZMem} {st : List Int} {tm : Int × Int × Int} (hS : St h M st tm) (e : ∀ a j, a ≠ 93 → zI M' a j = zI M a j) : St h M' st tm := by
  obtain ⟨a, b, c, d, f⟩ := hS
  refine ⟨?_, fun i hi => ?_, ?_, ?_, ?_⟩
  · rw [e _ _ (by omega)]; exact a
  · rw [e _ _ (by omega)]; exact b i hi
  · rw [e _ _ (by omega)]; exact c
  · rw [e _ _ (by omega)]; exact d
  · rw [e _ _ (by omega)]; exact f
section ZCR
variable {T : Nat → Int} {n h : Nat} {M1 M : ZMem} {p : Nat}
theorem sg_b (hB : HB T n h M1) (p : Nat) : -1 ≤ sg T n p ∧ sg T n p ≤ 127 := by
  unfold sg
  by_cases c : p < n
  · rw [if_pos c]; have := (hB.2.2 p c).2; omega
  · rw [if_neg c]; omega
theorem c75 (hB : HB T n h M1) (hC : CH n h M1 M p) (hp : p ≤ 200) : f_75 M 93 = some (ii (sg T n p)) := by
  obtain ⟨a, b, c, d, e⟩ := hC
  have n100 := hB.2.1.1
  unfold f_75 sg
  simp only [cD a, if_true, zb_some, c.1, c.2, cDr a (.inl rfl) b.1]
  by_cases g : p < n
  · have ep : (ii (p : Int)).toInt = (p : Int) := ii_toInt (by omega)
    rw [if_neg (show ¬ ii (n : Int) ≤ ii (p : Int) by rw [ii_le (by omega) (by omega)]; omega), if_pos g, zab_ly a (p := 89) (n := 100) (t := 21) (by omega) (by decide +kernel) (.inl rfl) (by rw [ep]; omega), zb_some, ep, Int.toNat_natCast, d 89 p (by omega) (by omega) (by omega), (hB.2.2 p g).1]
  · rw [if_pos (show ii (n : Int) ≤ ii (p : Int) by rw [ii_le (by omega) (by omega)]; omega), if_neg g]
    rfl
theorem c74 (hB : HB T n h M1) (hC : CH n h M1 M p) (hp : p ≤ 200) {c : Int} (hc : -1000 ≤ c ∧ c ≤ 1000) : f_74 M 93 (ii c) = some (if sg T n p = c then (1, zpI M 93 2 (ii ((p + 1 : Nat) : Int))) else (0, M)) := by
  have b := sg_b hB p
  unfold f_74
  simp only [cD hC.1, if_true, zb_some, c75 hB hC hp, hC.2.2.1.2]
  by_cases g : sg T n p = c
  · rw [if_pos (show ii (sg T n p) = ii c by rw [g]), if_pos g, ii_s1]
  · rw [if_neg (show ¬ ii (sg T n p) = ii c by rw [ii_eq (by omega) (by omega)]; exact g), if_neg g]
theorem c76 (hB : HB T n h M1) (hC : CH n h M1 M p) (hp : p ≤ 150) : ∃ M', f_76 M 93 = some (ii ((pNum T n p).2.getD (-1)), M') ∧ CH n h M1 M' (pNum T n p).1 ∧ ∀ a j, a ≠ 93 → zI M' a j = zI M a j := by
  have hh := hB.2.1.2
  have b0 := sg_b hB p
  have b1 := sg_b hB (p + 1)
  have hC1 := hC.pl hh (p + 1)
  unfold f_76 pNum
  simp only [cD hC.1, if_true, zb_some, c75 hB hC (by omega), hC.2.2.1.2, show (48 : Int32) = ii 48 from rfl, show (57 : Int32) = ii 57 from rfl]
  rw [c14z (by omega) (by omega) (by omega), zb_some]
  by_cases c : 48 ≤ sg T n p ∧ sg T n p ≤ 57
  · rw [bzT c, if_pos (show ¬ (1 : Int32) = 0 by decide), if_pos c, ii_s1]
    simp only [cD hC1.1, zb_some, c75 hB hC1 (by omega), hC1.2.2.1.2]
    rw [c14z (by omega) (by omega) (by omega), zb_some]
    by_cases d : 48 ≤ sg T n (p + 1) ∧ sg T n (p + 1) ≤ 57
    · rw [bzT d, if_pos (show ¬ (1 : Int32) = 0 by decide), if_pos d, ii_s1, show (10 : Int32) = ii 10 from rfl, ii_sub, ii_mul, ii_add, ii_sub]
      exact ⟨_, rfl, hC1.pl hh (p + 1 + 1), fun a j ha => by rw [zI_ne ha, zI_ne ha]⟩
    · rw [bzF d, if_neg (show ¬ ¬ (0 : Int32) = 0 by decide), if_neg d, ii_sub]
      exact ⟨_, rfl, hC1, fun a j ha => zI_ne ha⟩
  · rw [bzF c, if_neg (show ¬ ¬ (0 : Int32) = 0 by decide), if_neg c]
    exact ⟨_, rfl, hC, fun a j ha => rfl⟩
theorem CH.cc (hB : HB T n h M1) (hC : CH n h M1 M p) : RCc M := by
  have hh := hB.2.1.2
  refine RCc_fr hB.1.2 fun q j hq => hC.2.2.2.1 q j ?_ ?_ ?_
  · rintro rfl
    rcases hq with q | q | q | ⟨_, q⟩
    · omega
    · omega
    · omega
    · exact absurd q (by decide)
  · rintro rfl
    rcases hq with q | q | q | ⟨_, q⟩
    · omega
    · omega
    · omega
    · simp only [List.mem_cons, List.not_mem_nil, or_false] at q; omega
  · rintro rfl
    rcases hq with q | q | q | ⟨_, q⟩
    · omega
    · omega
    · omega
    · simp only [List.mem_cons, List.not_mem_nil, or_false] at q; omega
theorem c81 (hB : HB T n h M1) (hC : CH n h M1 M p) (hp : p ≤ 150) {o : Nat} (h2 : 2 ≤ o) (h9 : o < 9) : f_81 M 93 (some o) = some (if 0 ≤ sg T n p ∧ 0 ≤ ixo (sg T n p) (wby o) 0 then (ii (sg T n p), zpI M 93 2 (ii ((p + 1 : Nat) : Int))) else (-1, M)) := by
  have b := sg_b hB p
  unfold f_81
  simp only [cD hC.1, if_true, zb_some, c75 hB hC (by omega), hC.2.2.1.2]
  by_cases c : 0 ≤ sg T n p
  · obtain ⟨k, hk⟩ := Int.eq_ofNat_of_zero_le c
    have ixb : ∀ (c : Int) (l : List Int) (k : Nat), -1 ≤ ixo c l k ∧ ixo c l k ≤ k + l.length := by
      intro c l
      induction l with
      | nil => intro k; show -1 ≤ (-1 : Int) ∧ (-1 : Int) ≤ (k : Int) + ((0 : Nat) : Int); omega
      | cons a r ih =>
        intro k
        rw [ixo]
        have := ih (k + 1)
        simp only [List.length_cons]
        split <;> omega
    have ib := ixb (sg T n p) (wby o) 0
    have l6 := (wby_i o h9 h2).1.2.2.2.2
    rw [if_neg (show ¬ ii (sg T n p) < 0 by rw [show (0 : Int32) = ii 0 from rfl, ii_lt (by omega) (by omega)]; omega)]
    rw [show (Int32.toUInt32 (ii (sg T n p)) % 65536).toInt32 = ii (sg T n p) by rw [hk]; exact (ch128 k (by omega)).2.1, c82s hC.1 (hC.cc hB) h2 h9 (by omega), zb_some]
    by_cases d : 0 ≤ ixo (sg T n p) (wby o) 0
    · rw [if_pos (show (0 : Int32) ≤ ii (ixo (sg T n p) (wby o) 0) by rw [show (0 : Int32) = ii 0 from rfl, ii_le (by omega) (by omega)]; exact d), if_pos ⟨c, d⟩, ii_s1]
    · rw [if_neg (show ¬ (0 : Int32) ≤ ii (ixo (sg T n p) (wby o) 0) by rw [show (0 : Int32) = ii 0 from rfl, ii_le (by omega) (by omega)]; exact d), if_neg (fun q => d q.2)]
  · rw [if_pos (show ii (sg T n p) < 0 by rw [show (0 : Int32) = ii 0 from rfl, ii_lt (by omega) (by omega)]; omega), if_neg (fun q => c q.1)]
theorem ix7 (c : Int) : (0 ≤ c ∧ 0 ≤ ixo c (wby 7) 0) ↔ ¬ plc c < 0 := by
  unfold plc
  show (0 ≤ c ∧ 0 ≤ ixo c [98, 107, 118, 116, 100, 121] 0) ↔ _
  by_cases h1 : c = 98
  · subst h1; decide
  · by_cases h2 : c = 107
    · subst h2; decide
    · by_cases h3 : c = 118
      · subst h3; decide
      · by_cases h4 : c = 116
        · subst h4; decide
        · by_cases h5 : c = 100
          · subst h5; decide
          · by_cases h6 : c = 121
            · subst h6; decide
            · simp [ixo, h1, h2, h3, h4, h5, h6, Ne.symm h1, Ne.symm h2, Ne.symm h3, Ne.symm h4, Ne.symm h5, Ne.symm h6]
theorem ix8 (c : Int) : (0 ≤ c ∧ 0 ≤ ixo c (wby 8) 0) ↔ 60 ≤ c ∧ c ≤ 62 := by
  show (0 ≤ c ∧ 0 ≤ ixo c [60, 61, 62] 0) ↔ _
  by_cases h1 : c = 60
  · subst h1; decide
  · by_cases h2 : c = 61
    · subst h2; decide
    · by_cases h3 : c = 62
      · subst h3; decide
      · simp [ixo, Ne.symm h1, Ne.symm h2, Ne.symm h3]
        omega
/-- a step comes -/
theorem c87 (hB : HB T n h M1) (hC : CH n h M1 M p) {st : List Int} {tm : Int × Int × Int} (hS : St h M st tm) (hl : st.length < 100) {a b c d : Int32} {v : Int} (hv : ((((a <<< (24 &&& 31)) ||| (b <<< (16 &&& 31))) ||| (c <<< (8 &&& 31))) ||| d) = ii v) : ∃ M', f_87 M (109 + 2 * h) a b c d = some M' ∧ CH n h M1 M' p ∧ St h M' (st ++ [v]) tm := by
  have hh := hB.2.1.2
  obtain ⟨x1, x2, x3, x4, x5, x6, x7⟩ := cH hC.1 (o := 109 + 2 * h) (.inr ⟨h, hh, rfl⟩)
  have hk : zokT 3 (109 + 2 * h) = true ∧ zSh.getD (110 + 2 * h) (0, 0) = (20, 100) := by
    have hz : h = 0 ∨ h = 1 ∨ h = 2 ∨ h = 3 ∨ h = 4 ∨ h = 5 := by omega
    rcases hz with rfl | rfl | rfl | rfl | rfl | rfl <;> decide +kernel
  have w1 := zsa_ii hC.1 (p := 110 + 2 * h) (n := 100) (i := (st.length : Int)) (x := ii v) (by omega) hk.2 (by omega) (by omega) (by omega)
  rw [Int.toNat_natCast] at w1
  have L1 := hC.1.p (p := 110 + 2 * h) (k := st.length) (v := ii v)
  have x2' := (cH L1 (o := 109 + 2 * h) (.inr ⟨h, hh, rfl⟩)).2.1
  have w2 : ∀ y, zpf (zpI M (110 + 2 * h) st.length (ii v)) 3 1 (109 + 2 * h) (.int y) false = some (zpI (zpI M (110 + 2 * h) st.length (ii v)) (109 + 2 * h) 1 y) := fun y => pI L1 hk.1 (by decide) (by decide) (by decide)
  obtain ⟨s1, s2, s3, s4, s5⟩ := hS
  refine ⟨zpI (zpI M (110 + 2 * h) st.length (ii v)) (109 + 2 * h) 1 (ii ((st.length + 1 : Nat) : Int)), ?_, ⟨L1.p, hC.2.1, ⟨?_, ?_⟩, fun a j a1 a2 a3 => ?_, hC.2.2.2.2⟩, ⟨?_, fun i hi => ?_, ?_, ?_, ?_⟩⟩
  · unfold f_87
    rw [if_pos x1, x2, zb_some, s1, if_neg (show ¬ (100 : Int32) ≤ ii (st.length : Int) by rw [show (100 : Int32) = ii 100 from rfl, ii_le (by omega) (by omega)]; omega), x6, zb_some, zb_some, zb_some, hv, show 109 + 2 * h + 1 = 110 + 2 * h by omega, w1, zb_some, x2', zb_some, zI_ne (by omega), s1, ii_s1, w2, zb_some]
  · rw [zI_ne (by omega), zI_ne (by omega)]; exact hC.2.2.1.1
  · rw [zI_ne (by omega), zI_ne (by omega)]; exact hC.2.2.1.2
  · rw [zI_ne (by omega), zI_ne (by omega)]; exact hC.2.2.2.1 a j a1 a2 a3
  · rw [zI_at]; simp
  · simp at hi
    rw [zI_ne (by omega)]
    by_cases q : i = st.length
    · rw [q, zI_at, gd_app2 (Nat.le_refl _), Nat.sub_self]; rfl
    · rw [zI_nk q, gd_app1 (by omega)]
      exact s2 i (by omega)
  · rw [zI_nk (by omega), zI_ne (by omega)]; exact s3
  · rw [zI_nk (by omega), zI_ne (by omega)]; exact s4
  · rw [zI_nk (by omega), zI_ne (by omega)]; exact s5
end ZCR
