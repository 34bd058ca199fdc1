/-! THE HILL THAT HOLDS: thin, most, wind -/
def hpl (s : ZSt) : Nat := if 0 ≤ s 133 10 then 109 + 2 * (s 133 10).toNat else 91
def hcl (s : ZSt) : Nat := if 0 ≤ s 133 10 then 10 * (s 133 10).toNat else 0
def hnm (s : ZSt) : Nat := if 0 ≤ s 133 10 then (s 141 (s 133 10).toNat).toNat else 0
def thn (s : ZSt) : Int := max 1 (zlst s 2 (hcl s) (hnm s) 2)
def mst (s : ZSt) : Int := max (thn s) (zlst s 3 (hcl s) (hnm s) 5)
def wnd (s : ZSt) : Int := zlst s 4 (hcl s) (hnm s) 1
/-- signs that come out right: on n found so far; never more than 12 -/
def sok : List Int → Nat → Prop
  | [], n => n = 1
  | t :: l, n => (t = -33 ∧ 1 ≤ n ∧ sok l n) ∨ ((t = -38 ∨ t = -124) ∧ 2 ≤ n ∧ sok l (n - 1)) ∨ ((0 ≤ t ∧ t < 6000 ∧ t / 100 % 10 ≤ 2) ∧ n < 12 ∧ sok l (n + 1))
def sgl (s : ZSt) (c : Nat) : List Int := (List.range (s 145 c - s 144 c).toNat).map fun k => s 146 ((s 144 c).toNat + k)
def SHc (s : ZSt) (c : Nat) : Prop := (0 ≤ s 142 c ∧ s 142 c ≤ 4) ∧ (0 ≤ s 143 c ∧ s 143 c ≤ 99) ∧ (s 142 c ≤ 1 → (0 ≤ s 144 c ∧ s 144 c ≤ s 145 c ∧ s 145 c ≤ 600) ∧ sok (sgl s c) 0)
def SH (s : ZSt) : Prop := ∀ h : Nat, (h : Int) < s 133 9 → (1 ≤ s 141 h ∧ s 141 h ≤ 10) ∧ (∀ k : Nat, (k : Int) < s 141 h → SHc s (10 * h + k)) ∧ (zstl s (10 * h) (s 141 h).toNat).length ≤ 100
theorem hcl_c {s : ZSt} (hi : SIn s) (hh : SH s) {k : Nat} (h1 : hcl s ≤ k) (h2 : k < hcl s + hnm s) : SHc s k ∧ k < 60 := by
  have h9 := hi.2.2.2.1
  have h10 := hi.2.2.2.2.1
  unfold hcl at h1 h2
  unfold hnm at h2
  by_cases c : 0 ≤ s 133 10
  · simp only [if_pos c] at h1 h2
    have hx := hh (s 133 10).toNat (by omega)
    have := hx.2.1 (k - 10 * (s 133 10).toNat) (by omega)
    rw [show 10 * (s 133 10).toNat + (k - 10 * (s 133 10).toNat) = k by omega] at this
    exact ⟨this, by omega⟩
  · simp only [if_neg c] at h1 h2
    omega
theorem hcl_60 {s : ZSt} (hi : SIn s) (hh : SH s) : hcl s + hnm s ≤ 60 := by
  have h9 := hi.2.2.2.1
  have h10 := hi.2.2.2.2.1
  unfold hcl hnm
  by_cases c : 0 ≤ s 133 10
  · simp only [if_pos c]
    have hx := (hh (s 133 10).toNat (by omega)).1
    omega
  · simp only [if_neg c]; omega
theorem c169 {M : ZMem} {s : ZSt} (h : Ly M) (hm : RM M s) (hi : SIn s) : f_169 M 133 = some (ii (hcl s : Nat)) := by
  have h10 := hi.2.2.2.2.1
  have h9 := hi.2.2.2.1
  unfold f_169 hcl
  simp (disch := omega) only [mX h hm, zb_some, if_true, lits, ii_le, ii_mul]
  by_cases c : 0 ≤ s 133 10
  · rw [if_pos c, if_pos c, show ((10 * (s 133 10).toNat : Nat) : Int) = 10 * s 133 10 by omega]
  · rw [if_neg c, if_neg c]; rfl
theorem c170 {M : ZMem} {s : ZSt} (h : Ly M) (hm : RM M s) (hi : SIn s) (hh : SH s) : f_170 M 133 = some (ii (hcl s + hnm s : Nat)) := by
  have h10 := hi.2.2.2.2.1
  have h9 := hi.2.2.2.1
  unfold f_170 hcl hnm
  by_cases c : 0 ≤ s 133 10
  · have hx := (hh (s 133 10).toNat (by omega)).1
    simp (disch := omega) only [mX h hm, zb_some, if_true, lits, ii_le, ii_mul, ii_add, if_pos c]
    rw [show ((10 * (s 133 10).toNat + (s 141 (s 133 10).toNat).toNat : Nat) : Int) = 10 * s 133 10 + s 141 (s 133 10).toNat by omega]
  · simp (disch := omega) only [mX h hm, zb_some, if_true, lits, ii_le, ii_mul, ii_add, if_neg c]
    rfl
theorem c176a {M : ZMem} {s : ZSt} (h : Ly M) (hm : RM M s) (hi : SIn s) (hh : SH s) {w : Int} (hw : 0 ≤ w ∧ w ≤ 4) : ∀ (n z k : Nat) (x : Int), k + n = hcl s + hnm s → hcl s ≤ k → n < z → f_176_8 z M 133 (ii w) (ii x) (ii k) = some (ii (zlst s w k n x)) := by
  have h60 := hcl_60 hi hh
  intro n
  induction n with
  | zero =>
    intro z k x e hk hz
    obtain ⟨y, rfl⟩ : ∃ y, z = y + 1 := ⟨z - 1, by omega⟩
    rw [f_176_8, c170 h hm hi hh, zb_some, if_pos (by rw [ii_le (by omega) (by omega)]; omega)]
    rfl
  | succ n ih =>
    intro z k x e hk hz
    obtain ⟨y, rfl⟩ : ∃ y, z = y + 1 := ⟨z - 1, by omega⟩
    have hx := (hcl_c hi hh hk (by omega)).1.1
    rw [f_176_8, c170 h hm hi hh, zb_some, if_neg (by rw [ii_le (by omega) (by omega)]; omega)]
    have e1 := ih y (k + 1) (if s 142 k = w then s 143 k else x) (by omega) (by omega) (by omega)
    rw [show (((k + 1 : Nat)) : Int) = (k : Int) + 1 by omega] at e1
    simp (disch := first | assumption | omega) only [mX h hm, zb_some, Int.toNat_natCast, ii_eq, f_176_39, lits, ii_add]
    rw [zlst]
    by_cases c : s 142 k = w
    · rw [if_neg (fun q => q c), if_pos c]; rw [if_pos c] at e1; exact e1
    · rw [if_pos c, if_neg c]; rw [if_neg c] at e1; exact e1
theorem c176 {M : ZMem} {s : ZSt} (h : Ly M) (hm : RM M s) (hi : SIn s) (hh : SH s) {w x : Int} (hw : 0 ≤ w ∧ w ≤ 4) : f_176 M 133 (ii w) (ii x) = some (ii (zlst s w (hcl s) (hnm s) x)) := by
  have h60 := hcl_60 hi hh
  unfold f_176
  rw [if_pos (zok_ly h k133), c169 h hm hi, zb_some]
  exact c176a h hm hi hh hw (hnm s) zF (hcl s) x rfl (Nat.le_refl _) (by unfold zF; omega)
theorem zlst_b {s : ZSt} {w : Int} : ∀ (n k : Nat) (x : Int), (∀ j, k ≤ j → j < k + n → 0 ≤ s 143 j ∧ s 143 j ≤ 99) → 0 ≤ x ∧ x ≤ 99 → 0 ≤ zlst s w k n x ∧ zlst s w k n x ≤ 99 := by
  intro n
  induction n with
  | zero => intro k x _ hx; exact hx
  | succ n ih =>
    intro k x hj hx
    rw [zlst]
    refine ih (k + 1) _ (fun j h1 h2 => hj j (by omega) (by omega)) ?_
    have := hj k (by omega) (by omega)
    split <;> omega
theorem zls_b {s : ZSt} (hi : SIn s) (hh : SH s) {w x : Int} (hx : 0 ≤ x ∧ x ≤ 99) : 0 ≤ zlst s w (hcl s) (hnm s) x ∧ zlst s w (hcl s) (hnm s) x ≤ 99 := zlst_b _ _ _ (fun j h1 h2 => (hcl_c hi hh h1 h2).1.2.1) hx
theorem thn_b {s : ZSt} (hi : SIn s) (hh : SH s) : 1 ≤ thn s ∧ thn s ≤ 99 := by
  have := zls_b hi hh (w := 2) (x := 2) (by omega)
  unfold thn; omega
theorem mst_b {s : ZSt} (hi : SIn s) (hh : SH s) : thn s ≤ mst s ∧ mst s ≤ 99 := by
  have := zls_b hi hh (w := 3) (x := 5) (by omega)
  have := thn_b hi hh
  unfold mst; omega
theorem wnd_b {s : ZSt} (hi : SIn s) (hh : SH s) : 0 ≤ wnd s ∧ wnd s ≤ 99 := zls_b hi hh (w := 4) (x := 1) (by omega)
theorem c178 {M : ZMem} {s : ZSt} (h : Ly M) (hm : RM M s) (hi : SIn s) (hh : SH s) : f_178 M 133 = some (ii (thn s)) := by
  have b := zls_b hi hh (w := 2) (x := 2) (by omega)
  unfold f_178 thn
  rw [if_pos (zok_ly h k133), show (2 : Int32) = ii 2 from rfl, c176 h hm hi hh (by omega), zb_some, show (1 : Int32) = ii 1 from rfl, c179z h (by omega) (by omega), zb_some]
theorem c180 {M : ZMem} {s : ZSt} (h : Ly M) (hm : RM M s) (hi : SIn s) (hh : SH s) : f_180 M 133 = some (ii (mst s)) := by
  have b := zls_b hi hh (w := 3) (x := 5) (by omega)
  have t := thn_b hi hh
  unfold f_180 mst
  rw [if_pos (zok_ly h k133), c178 h hm hi hh, zb_some, show (3 : Int32) = ii 3 from rfl, show (5 : Int32) = ii 5 from rfl, c176 h hm hi hh (by omega), zb_some, c179z h (by omega) (by omega), zb_some]
def drs (s : ZSt) (b : Nat) : Int := if s 134 b = 5 then wnd s / 2 else wnd s
theorem drs_b {s : ZSt} (hi : SIn s) (hh : SH s) {b : Nat} : 0 ≤ drs s b ∧ drs s b ≤ 99 := by
  have := wnd_b hi hh
  unfold drs; split <;> omega
theorem c175 {M : ZMem} {s : ZSt} (h : Ly M) (hm : RM M s) (hi : SIn s) (hh : SH s) {b : Nat} (hb : b < 6) (hv : SBk s 0 b) : f_175 M 133 (ii b) = some (ii (drs s b)) := by
  have w := wnd_b hi hh
  have v1 := hv.1
  simp only [Nat.add_zero] at v1
  unfold f_175 drs
  rw [if_pos (zok_ly h k133), show (4 : Int32) = ii 4 from rfl, show (1 : Int32) = ii 1 from rfl, c176 h hm hi hh (by omega), zb_some]
  show zb _ _ = _
  simp (disch := first | assumption | omega) only [mX h hm, zb_some, Int.toNat_natCast, lits, ii_eq]
  show (if ¬ s 134 b = 5 then some (ii (wnd s)) else some (ii (wnd s) / ii 2)) = _
  by_cases c : s 134 b = 5
  · rw [if_neg (fun q => q c), if_pos c, ii_div (by omega) (by omega)]
  · rw [if_pos c, if_neg c]
/-- the class's hills -/
theorem cH {M : ZMem} (h : Ly M) {o : Nat} (ho : o = 91 ∨ ∃ k, k < 6 ∧ o = 109 + 2 * k) :
  zok M 3 o = true ∧ zgi M 3 1 o = some (zI M o 1) ∧ zgi M 3 2 o = some (zI M o 2) ∧ zgi M 3 3 o = some (zI M o 3) ∧ zgi M 3 4 o = some (zI M o 4) ∧ zgr M 3 0 o = some (some (o + 1)) ∧ ∀ i : Int, 0 ≤ i → i < 100 → zai M (o + 1) (ii i) = some (zI M (o + 1) i.toNat) := by
  have hk : zokT 3 o = true ∧ zRm o 0 = some (o + 1) ∧ zSh.getD (o + 1) (0, 0) = (20, 100) ∧ 20 ≤ o ∧ o < 183 := by
    rcases ho with rfl | ⟨k, hk, rfl⟩
    · decide +kernel
    · have hz : k = 0 ∨ k = 1 ∨ k = 2 ∨ k = 3 ∨ k = 4 ∨ k = 5 := by omega
      rcases hz with rfl | rfl | rfl | rfl | rfl | rfl <;> decide +kernel
  exact ⟨zok_ly h hk.1, gI h hk.1 (by decide), gI h hk.1 (by decide), gI h hk.1 (by decide), gI h hk.1 (by decide), gR h hk.1 (by decide) hk.2.1, fun i h0 h1 => zai_ii h (by omega) hk.2.2.1 (by omega) h0 (by omega)⟩
theorem hpl_o {s : ZSt} (hi : SIn s) : hpl s = 91 ∨ ∃ k, k < 6 ∧ hpl s = 109 + 2 * k := by
  have h9 := hi.2.2.2.1
  have h10 := hi.2.2.2.2.1
  unfold hpl
  by_cases c : 0 ≤ s 133 10
  · rw [if_pos c]; exact .inr ⟨(s 133 10).toNat, by omega, rfl⟩
  · rw [if_neg c]; exact .inl rfl
theorem c20 {M : ZMem} {s : ZSt} {l : Nat → Int64} (h : Ly M) (hc : RC M s l) (hi : SIn s) : f_20 M 20 = some (some (hpl s)) := by
  have h9 := hi.2.2.2.1
  have h10 := hi.2.2.2.2.1
  have e1 : zI M 22 4 = ii (s 133 10) := hc.1.1.2.2.2
  have e2 : zI M 20 7 = ii (s 133 9) := hc.2.2.1.2.1
  unfold f_20 hpl
  by_cases c : 0 ≤ s 133 10
  · have e3 := zlaR_ii h (p := 90) (i := s 133 10) (by decide) c (by omega)
    rw [if_pos rfl] at e3
    simp (disch := first | assumption | omega) only [cX h, zb_some, if_true, e1, e2, lits, ii_sub, c14z]
    rw [bzT (by omega), if_neg (by decide), e3, zb_some, if_neg (by simp; omega), if_pos c]
  · simp (disch := first | assumption | omega) only [cX h, zb_some, if_true, e1, e2, lits, ii_sub, c14z]
    rw [bzF (by omega), if_pos (show (0 : Int32) = ii 0 from rfl), if_neg (by simp), if_neg c]
theorem zCt_91 : (91, 1, (0 : Int32)) ∈ zCt ∧ (91, 2, (2 : Int32)) ∈ zCt ∧ (91, 3, (5 : Int32)) ∈ zCt ∧ (91, 4, (1 : Int32)) ∈ zCt := by decide +kernel
/-- what the hill that holds says, on the class's side -/
theorem hpl_v {M : ZMem} {s : ZSt} {l : Nat → Int64} (hc : RC M s l) (hi : SIn s) : zI M (hpl s) 1 = ii (zstl s (hcl s) (hnm s)).length ∧ (∀ k : Nat, k < (zstl s (hcl s) (hnm s)).length → zI M (hpl s + 1) k = ii ((zstl s (hcl s) (hnm s)).getD k 0)) ∧ zI M (hpl s) 2 = ii (zlst s 2 (hcl s) (hnm s) 2) ∧ zI M (hpl s) 3 = ii (zlst s 3 (hcl s) (hnm s) 5) ∧ zI M (hpl s) 4 = ii (zlst s 4 (hcl s) (hnm s) 1) := by
  have h9 := hi.2.2.2.1
  have h10 := hi.2.2.2.2.1
  unfold hpl hcl hnm
  by_cases c : 0 ≤ s 133 10
  · simp only [if_pos c]
    have := hc.2.2.2.2.2.1 (s 133 10).toNat (by omega)
    unfold Hl at this
    rw [show 109 + 2 * (s 133 10).toNat + 1 = 110 + 2 * (s 133 10).toNat by omega]
    exact this
  · simp only [if_neg c]
    have hcc := hc.1.2.2
    exact ⟨hcc _ zCt_91.1, fun k hk => absurd hk (by simp [zstl]), hcc _ zCt_91.2.1, hcc _ zCt_91.2.2.1, hcc _ zCt_91.2.2.2⟩
theorem c31 {M : ZMem} {s : ZSt} {l : Nat → Int64} (h : Ly M) (hc : RC M s l) (hi : SIn s) (hh : SH s) : f_31 M (hpl s) = some (ii (thn s)) := by
  have b := zls_b hi hh (w := 2) (x := 2) (by omega)
  unfold f_31 thn
  simp only [cH h (hpl_o hi), if_true, zb_some, (hpl_v hc hi).2.2.1]
  rw [show (1 : Int32) = ii 1 from rfl, c24i (by omega) (by omega), zb_some]
theorem c32 {M : ZMem} {s : ZSt} {l : Nat → Int64} (h : Ly M) (hc : RC M s l) (hi : SIn s) (hh : SH s) : f_32 M (hpl s) = some (ii (mst s)) := by
  have b := zls_b hi hh (w := 3) (x := 5) (by omega)
  have t := thn_b hi hh
  unfold f_32 mst
  simp only [cH h (hpl_o hi), if_true, zb_some, (hpl_v hc hi).2.2.2.1, c31 h hc hi hh]
  rw [c24i (by omega) (by omega), zb_some]
