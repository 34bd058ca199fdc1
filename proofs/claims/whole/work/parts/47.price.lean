/-! PRICE: signs as a pile of truths; the reference's side -/
def fct (s : ZSt) (b : Nat) (f : Int) : Int := if f = 0 then b else if f = 1 then s 134 b else if f = 2 then s 135 b else if f = 3 then s 136 b / 10 else if f = 4 then s 137 b / 10 else s 133 1 % 10
def tev (s : ZSt) (b : Nat) (t : Int) : Bool := if t / 100 % 10 = 0 then decide (fct s b (t / 1000) < t % 100) else if t / 100 % 10 = 1 then decide (fct s b (t / 1000) = t % 100) else decide (t % 100 < fct s b (t / 1000))
def sst (f : Int → Bool) (t : Int) (st : List Bool) : List Bool := if t = -33 then (match st with
  | a :: r => (!a) :: r
  | [] => []) else if t < 0 then (match st with
  | a :: d :: r => (if t = -38 then d && a else d || a) :: r
  | r => r) else f t :: st
def sev (f : Int → Bool) : List Int → List Bool → List Bool
  | [], st => st
  | t :: l, st => sev f l (sst f t st)
def hld (s : ZSt) (b c : Nat) : Bool := (sev (tev s b) (sgl s c) []).headD false
def prl (s : ZSt) (b : Nat) (c : Nat) : Nat → Int → Int
  | 0, x => x
  | n + 1, x => prl s b (c + 1) n (if s 142 c ≤ 1 ∧ hld s b c = true then (if s 142 c = 0 then x + s 143 c else x - s 143 c) else x)
def prc (s : ZSt) (b : Nat) : Int := max 0 (prl s b (hcl s) (hnm s) 10)
theorem fct_b {s : ZSt} {b : Nat} (hb : b < 6) (hv : SBk s 0 b) (hd : 0 ≤ s 133 1) (f : Int) : 0 ≤ fct s b f ∧ fct s b f ≤ 9 := by
  obtain ⟨v1, v2, v3, v4, v5, v6⟩ := hv
  simp only [Nat.add_zero] at v1 v2 v3 v4
  unfold fct
  (repeat' split) <;> omega
def PLs (M : ZMem) : List Bool → Prop
  | [] => True
  | a :: r => zI M 149 r.length = bz (a = true) ∧ PLs M r
theorem PLs_pI {M : ZMem} {i : Nat} {v : Int32} : ∀ {st : List Bool}, PLs M st → st.length ≤ i → PLs (zpI M 149 i v) st := by
  intro st
  induction st with
  | nil => intro _ _; trivial
  | cons a r ih =>
    intro h hi
    simp only [List.length_cons] at hi
    exact ⟨(zI_nk (by omega)).trans h.1, ih h.2 (by omega)⟩
theorem bzb_f : bz (false = true) = 0 := rfl
theorem bzb_t : bz (true = true) = 1 := rfl
theorem zsb_pl {M : ZMem} (h : Ly M) {i : Int} {x : Int32} (h0 : 0 ≤ i) (h1 : i < 100) (hx : x = 0 ∨ x = 1) : zsb M 149 (ii i) x = some (zpI M 149 i.toNat x) := by
  have e : (ii i).toInt = i := ii_toInt (by omega)
  rw [zsb_ly h (p := 149) (n := 100) (t := 22) (by omega) (by decide +kernel) (.inr rfl) (by rw [e]; omega), e, if_neg (by decide)]
  rcases hx with rfl | rfl <;> rfl
theorem zab_pl {M : ZMem} (h : Ly M) {i : Int} (h0 : 0 ≤ i) (h1 : i < 100) : zab M 149 (ii i) = some (zI M 149 i.toNat) := by
  have e : (ii i).toInt = i := ii_toInt (by omega)
  rw [zab_ly h (p := 149) (n := 100) (t := 22) (by omega) (by decide +kernel) (.inr rfl) (by rw [e]; omega), e]
theorem MS_scr {M0 M : ZMem} {s : ZSt} (h : MS M0 M s) {p k : Nat} {v : Int32} (hp : 133 ≤ p) (hz : zst p k = false) : MS M0 (zpI M p k v) s := ⟨h.1.p, h.2.1.pI hp, RM_scr h.2.2 hz⟩
theorem c172 {M : ZMem} {s : ZSt} (h : Ly M) (hm : RM M s) {b : Nat} (hb : b < 6) (hv : SBk s 0 b) (hd : 0 ≤ s 133 1 ∧ s 133 1 < 100000) {f : Int} (hf : 0 ≤ f ∧ f ≤ 5) : f_172 M 133 (ii f) (ii b) = some (ii (fct s b f)) := by
  obtain ⟨v1, v2, v3, v4, v5, v6⟩ := hv
  simp only [Nat.add_zero] at v1 v2 v3 v4
  have hz : f = 0 ∨ f = 1 ∨ f = 2 ∨ f = 3 ∨ f = 4 ∨ f = 5 := by omega
  unfold f_172 fct
  rw [if_pos (zok_ly h k133)]
  rcases hz with rfl | rfl | rfl | rfl | rfl | rfl
  · rw [if_pos (by decide), if_pos (by decide)]
  · rw [if_neg (by decide), if_pos (by decide), if_neg (by decide), if_pos (by decide)]
    simp (disch := omega) only [mX h hm, zb_some, Int.toNat_natCast]
  · rw [if_neg (by decide), if_neg (by decide), if_pos (by decide), if_neg (by decide), if_neg (by decide), if_pos (by decide)]
    simp (disch := omega) only [mX h hm, zb_some, Int.toNat_natCast]
  · rw [if_neg (by decide), if_neg (by decide), if_neg (by decide), if_pos (by decide), if_neg (by decide), if_neg (by decide), if_neg (by decide), if_pos (by decide)]
    simp (disch := omega) only [mX h hm, zb_some, Int.toNat_natCast]
    rw [show (10 : Int32) = ii 10 from rfl, ii_div (by omega) (by omega)]
  · rw [if_neg (by decide), if_neg (by decide), if_neg (by decide), if_neg (by decide), if_pos (by decide), if_neg (by decide), if_neg (by decide), if_neg (by decide), if_neg (by decide), if_pos (by decide)]
    simp (disch := omega) only [mX h hm, zb_some, Int.toNat_natCast]
    rw [show (10 : Int32) = ii 10 from rfl, ii_div (by omega) (by omega)]
  · rw [if_neg (by decide), if_neg (by decide), if_neg (by decide), if_neg (by decide), if_neg (by decide), if_neg (by decide), if_neg (by decide), if_neg (by decide), if_neg (by decide), if_neg (by decide)]
    simp (disch := omega) only [mX h hm, zb_some]
    rw [show (10 : Int32) = ii 10 from rfl, ii_mod (by omega) (by omega)]
theorem c171a {M0 : ZMem} {s : ZSt} {b c : Nat} (hb : b < 6) (hv : SBk s 0 b) (hd : 0 ≤ s 133 1 ∧ s 133 1 < 100000) (hc : c < 60) (hto : 0 ≤ s 145 c ∧ s 145 c ≤ 600) :
    ∀ (l : List Int) (z k : Nat) (M : ZMem) (st : List Bool), MS M0 M s → PLs M st → (∀ i, i < l.length → s 146 (k + i) = l.getD i 0) → (k : Int) + (l.length : Nat) = s 145 c → l.length < z → sok l st.length → st.length ≤ 12 → MG M0 (f_171_10 z M 133 (ii c) (ii b) (ii (st.length : Nat)) (ii k)) (bz ((sev (tev s b) l st).headD false = true)) s := by
  intro l
  induction l with
  | nil =>
    intro z k M st hM hP hl hk hz ho h12
    obtain ⟨y, rfl⟩ : ∃ y, z = y + 1 := ⟨z - 1, by simp only [List.length_nil] at hz; omega⟩
    simp only [List.length_nil] at hk
    have h1 : st.length = 1 := ho
    obtain ⟨a, rfl⟩ := List.length_eq_one_iff.mp h1
    have e0 : zI M 149 (0 : Int).toNat = bz (a = true) := hP.1
    have r19 := rPm hM.1 (j := 19) (by decide) (show zRm 133 19 = some 145 by decide +kernel)
    have r20 := rPm hM.1 (j := 20) (by decide) (show zRm 133 20 = some 146 by decide +kernel)
    have r26 := rPm hM.1 (j := 26) (by decide) (show zRm 133 26 = some 149 by decide +kernel)
    have x145 := rM hM.1 hM.2.2 (P := 145) (n := 60) (b := (c : Int)) (by decide) (fun _ => rfl) (by omega) (by omega)
    rw [Int.toNat_natCast] at x145
    rw [f_171_10]
    simp only [r19, r20, r26, x145, zb_some]
    rw [if_pos (by rw [ii_le (by omega) (by omega)]; omega), show (0 : Int32) = ii 0 from rfl, zab_pl hM.1 (by omega) (by omega), zb_some, e0]
    simp only [bzn, if_true]
    exact MG_ret hM
  | cons t l ih =>
    intro z k M st hM hP hl hk hz ho h12
    obtain ⟨y, rfl⟩ : ∃ y, z = y + 1 := ⟨z - 1, by simp only [List.length_cons] at hz; omega⟩
    simp only [List.length_cons] at hk hz
    have et : s 146 k = t := by
      have := hl 0 (by simp only [List.length_cons]; omega)
      simpa using this
    have hl' : ∀ i, i < l.length → s 146 (k + 1 + i) = l.getD i 0 := fun i h => by
      have := hl (i + 1) (by simp only [List.length_cons]; omega)
      rw [show k + (i + 1) = k + 1 + i by omega] at this
      simpa using this
    have hk' : ((k + 1 : Nat) : Int) + (l.length : Nat) = s 145 c := by omega
    have ek : ii (k : Int) + 1 = ii ((k + 1 : Nat) : Int) := by rw [show (1 : Int32) = ii 1 from rfl, ii_add]; rfl
    have r19 := rPm hM.1 (j := 19) (by decide) (show zRm 133 19 = some 145 by decide +kernel)
    have r20 := rPm hM.1 (j := 20) (by decide) (show zRm 133 20 = some 146 by decide +kernel)
    have r26 := rPm hM.1 (j := 26) (by decide) (show zRm 133 26 = some 149 by decide +kernel)
    have x145 := rM hM.1 hM.2.2 (P := 145) (n := 60) (b := (c : Int)) (by decide) (fun _ => rfl) (by omega) (by omega)
    rw [Int.toNat_natCast] at x145
    have x146 := rM hM.1 hM.2.2 (P := 146) (n := 600) (b := (k : Int)) (by decide) (fun _ => rfl) (by omega) (by omega)
    rw [Int.toNat_natCast, et] at x146
    rw [f_171_10]
    simp only [r19, r20, r26, x145, x146, zb_some]
    rw [if_neg (by rw [ii_le (by omega) (by omega)]; omega), sev]
    rcases ho with ⟨rfl, hn, ho⟩ | ⟨ht, hn, ho⟩ | ⟨ht, hn, ho⟩
    · cases st with
      | nil => simp at hn
      | cons a r =>
        simp only [List.length_cons] at ho h12 ⊢
        have e1 : ii ((r.length + 1 : Nat) : Int) - 1 = ii (r.length : Int) := by
          rw [show (1 : Int32) = ii 1 from rfl, ii_sub, show ((r.length + 1 : Nat) : Int) - 1 = (r.length : Int) by omega]
        have nx : ∀ x : Int32, x = bz ((!a) = true) → MG M0 (f_171_10 y (zpI M 149 r.length x) 133 (ii c) (ii b) (ii ((r.length + 1 : Nat) : Int)) (ii ((k + 1 : Nat) : Int))) (bz ((sev (tev s b) l ((!a) :: r)).headD false = true)) s := fun x hx => by
          have := ih y (k + 1) (zpI M 149 r.length x) ((!a) :: r) (MS_scr hM (by omega) rfl) ⟨zI_at.trans hx, PLs_pI hP.2 (by omega)⟩ hl' hk' (by omega) ho h12
          exact this
        rw [if_neg (by decide), e1, zab_pl hM.1 (by omega) (by omega), zb_some, Int.toNat_natCast, hP.1]
        show MG M0 _ (bz ((sev (tev s b) l ((!a) :: r)).headD false = true)) s
        cases a
        · rw [bzb_f, if_neg (by decide)]
          unfold f_171_60 f_171_237
          rw [zb_some, zsb_pl hM.1 (by omega) (by omega) (.inr rfl), zb_some, Int.toNat_natCast, ek]
          exact nx 1 rfl
        · rw [bzb_t, if_pos (by decide)]
          unfold f_171_60 f_171_237
          rw [zb_some, zsb_pl hM.1 (by omega) (by omega) (.inl rfl), zb_some, Int.toNat_natCast, ek]
          exact nx 0 rfl
    · cases st with
      | nil => simp at hn
      | cons a st2 =>
        cases st2 with
        | nil => simp at hn
        | cons d r =>
          simp only [List.length_cons] at ho h12 ⊢
          rw [show r.length + 1 + 1 - 1 = r.length + 1 by omega] at ho
          have e0 : ii ((r.length + 1 + 1 : Nat) : Int) + (-1) = ii ((r.length + 1 : Nat) : Int) := by
            rw [show (-1 : Int32) = ii (-1) from rfl, ii_add, show ((r.length + 1 + 1 : Nat) : Int) + (-1) = ((r.length + 1 : Nat) : Int) by omega]
          have e1 : ii ((r.length + 1 : Nat) : Int) - 1 = ii (r.length : Int) := by
            rw [show (1 : Int32) = ii 1 from rfl, ii_sub, show ((r.length + 1 : Nat) : Int) - 1 = (r.length : Int) by omega]
          have nx : ∀ (x : Int32) (v : Bool), x = bz (v = true) → MG M0 (f_171_10 y (zpI M 149 r.length x) 133 (ii c) (ii b) (ii ((r.length + 1 : Nat) : Int)) (ii ((k + 1 : Nat) : Int))) (bz ((sev (tev s b) l (v :: r)).headD false = true)) s := fun x v hx => by
            have := ih y (k + 1) (zpI M 149 r.length x) (v :: r) (MS_scr hM (by omega) rfl) ⟨zI_at.trans hx, PLs_pI hP.2.2 (by omega)⟩ hl' hk' (by omega) ho (by simp only [List.length_cons]; omega)
            exact this
          have ra : zab M 149 (ii ((r.length + 1 : Nat) : Int)) = some (bz (a = true)) := by
            rw [zab_pl hM.1 (by omega) (by omega), Int.toNat_natCast]; exact congrArg some hP.1
          have rd : zab M 149 (ii (r.length : Int)) = some (bz (d = true)) := by
            rw [zab_pl hM.1 (by omega) (by omega), Int.toNat_natCast]; exact congrArg some hP.2.1
          have wr : ∀ x : Int32, x = 0 ∨ x = 1 → zsb M 149 (ii (r.length : Int)) x = some (zpI M 149 r.length x) := fun x hx => by
            rw [zsb_pl hM.1 (by omega) (by omega) hx, Int.toNat_natCast]
          unfold f_171_110 f_171_134 f_171_139 f_171_237
          simp only [e0, e1, ra, rd, zb_some, wr 0 (.inl rfl), wr 1 (.inr rfl), ek]
          rcases ht with rfl | rfl
          · rw [if_pos (by decide), if_neg (by decide), if_neg (by decide)]
            show MG M0 _ (bz ((sev (tev s b) l ((d && a) :: r)).headD false = true)) s
            cases d <;> cases a <;> simp only [bzb_f, bzb_t]
            · exact nx 0 false rfl
            · exact nx 0 false rfl
            · exact nx 0 false rfl
            · exact nx 1 true rfl
          · rw [if_pos (by decide), if_neg (by decide), if_pos (by decide)]
            show MG M0 _ (bz ((sev (tev s b) l ((d || a) :: r)).headD false = true)) s
            cases d <;> cases a <;> simp only [bzb_f, bzb_t]
            · exact nx 0 false rfl
            · exact nx 1 true rfl
            · exact nx 1 true rfl
            · exact nx 1 true rfl
    · have hf := fct_b hb hv hd.1 (t / 1000)
      have e3 : ii t / 1000 = ii (t / 1000) := ii_div (b := 1000) (by omega) (by omega)
      have e2 : ii t / 100 - ii t / 100 / 10 * 10 = ii (t / 100 % 10) := by
        rw [show (100 : Int32) = ii 100 from rfl, show (10 : Int32) = ii 10 from rfl, ii_div (by omega) (by omega), ii_mod (by omega) (by omega)]
      have e1 : ii t - ii t / 100 * 100 = ii (t % 100) := ii_mod (b := 100) (by omega) (by omega)
      have nx : ∀ (x : Int32) (v : Bool), x = bz (v = true) → MG M0 (f_171_10 y (zpI M 149 st.length x) 133 (ii c) (ii b) (ii ((st.length + 1 : Nat) : Int)) (ii ((k + 1 : Nat) : Int))) (bz ((sev (tev s b) l (v :: st)).headD false = true)) s := fun x v hx => by
        have := ih y (k + 1) (zpI M 149 st.length x) (v :: st) (MS_scr hM (by omega) rfl) ⟨zI_at.trans hx, PLs_pI hP (by omega)⟩ hl' hk' (by omega) ho (by simp only [List.length_cons]; omega)
        exact this
      have wr : ∀ x : Int32, x = 0 ∨ x = 1 → zsb M 149 (ii (st.length : Int)) x = some (zpI M 149 st.length x) := fun x hx => by
        rw [zsb_pl hM.1 (by omega) (by omega) hx, Int.toNat_natCast]
      have en : ii (st.length : Int) + 1 = ii ((st.length + 1 : Nat) : Int) := by rw [show (1 : Int32) = ii 1 from rfl, ii_add]; rfl
      have el : sst (tev s b) t st = tev s b t :: st := by
        unfold sst
        rw [if_neg (by omega), if_neg (by omega)]
      have m33 : (ii t = -33) = (t = -33) := ii_eq (b := -33) (by omega) (by omega)
      have p0 : (0 ≤ ii t) = (0 ≤ t) := ii_le (a := 0) (by omega) (by omega)
      have q0 : (ii (t / 100 % 10) = 0) = (t / 100 % 10 = 0) := ii_eq (b := 0) (by omega) (by omega)
      have q1 : (ii (t / 100 % 10) = 1) = (t / 100 % 10 = 1) := ii_eq (b := 1) (by omega) (by omega)
      rw [el]
      unfold f_171_233 f_171_237
      simp only [e1, e2, e3, c172 hM.1 hM.2.2 hb hv hd (f := t / 1000) (by omega), zb_some, wr 0 (.inl rfl), wr 1 (.inr rfl), ek, en, m33, p0, q0, q1]
      rw [if_pos (by omega), if_pos (by omega)]
      unfold tev
      by_cases c0 : t / 100 % 10 = 0
      · rw [if_neg (fun q => q c0), if_pos c0]
        by_cases w : fct s b (t / 1000) < t % 100
        · rw [if_neg (by rw [ii_le (by omega) (by omega)]; omega)]
          exact nx 1 _ (by rw [decide_eq_true w]; rfl)
        · rw [if_pos (by rw [ii_le (by omega) (by omega)]; omega)]
          exact nx 0 _ (by rw [decide_eq_false w]; rfl)
      · rw [if_pos c0, if_neg c0]
        by_cases c1 : t / 100 % 10 = 1
        · rw [if_neg (fun q => q c1), if_pos c1]
          by_cases w : fct s b (t / 1000) = t % 100
          · rw [if_neg (by rw [ii_eq (by omega) (by omega)]; omega)]
            exact nx 1 _ (by rw [decide_eq_true w]; rfl)
          · rw [if_pos (by rw [ii_eq (by omega) (by omega)]; omega)]
            exact nx 0 _ (by rw [decide_eq_false w]; rfl)
        · rw [if_pos c1, if_neg c1]
          by_cases w : t % 100 < fct s b (t / 1000)
          · rw [if_neg (by rw [ii_le (by omega) (by omega)]; omega)]
            exact nx 1 _ (by rw [decide_eq_true w]; rfl)
          · rw [if_pos (by rw [ii_le (by omega) (by omega)]; omega)]
            exact nx 0 _ (by rw [decide_eq_false w]; rfl)
