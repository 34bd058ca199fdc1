/-! THE LAYOUT AS A FACT THAT STAYS; whole numbers as ii z -/
def Ly (M : ZMem) : Prop := (zn M = 184 ∧ zc M = 4407) ∧ (∀ p, p < 184 → zsh M p = zSh.getD p (0, 0)) ∧ ∀ e ∈ zRt, zR M e.1 e.2.1 = some e.2.2
theorem Ly.n {M : ZMem} (h : Ly M) : zn M = 184 := h.1.1
theorem Ly.c {M : ZMem} (h : Ly M) : zc M = 4407 := h.1.2
theorem Ly.s {M : ZMem} (h : Ly M) : ∀ p, p < 184 → zsh M p = zSh.getD p (0, 0) := h.2.1
theorem Ly.r {M : ZMem} (h : Ly M) : ∀ e ∈ zRt, zR M e.1 e.2.1 = some e.2.2 := h.2.2
theorem zn_pI (M : ZMem) (p k : Nat) (v : Int32) : zn (zpI M p k v) = zn M := rfl
theorem zn_pL (M : ZMem) (p k : Nat) (v : Int64) : zn (zpL M p k v) = zn M := rfl
theorem zn_pR (M : ZMem) (p k : Nat) (v : Option Nat) : zn (zpR M p k v) = zn M := rfl
theorem zsh_pI (M : ZMem) (p k : Nat) (v : Int32) : zsh (zpI M p k v) = zsh M := rfl
theorem zsh_pL (M : ZMem) (p k : Nat) (v : Int64) : zsh (zpL M p k v) = zsh M := rfl
theorem zsh_pR (M : ZMem) (p k : Nat) (v : Option Nat) : zsh (zpR M p k v) = zsh M := rfl
theorem zI_pI (M : ZMem) (p k : Nat) (v : Int32) (a b : Nat) : zI (zpI M p k v) a b = if a = p ∧ b = k then v else zI M a b := rfl
theorem zI_pL (M : ZMem) (p k : Nat) (v : Int64) : zI (zpL M p k v) = zI M := rfl
theorem zI_pR (M : ZMem) (p k : Nat) (v : Option Nat) : zI (zpR M p k v) = zI M := rfl
theorem zL_pI (M : ZMem) (p k : Nat) (v : Int32) : zL (zpI M p k v) = zL M := rfl
theorem zL_pL (M : ZMem) (p k : Nat) (v : Int64) (a b : Nat) : zL (zpL M p k v) a b = if a = p ∧ b = k then v else zL M a b := rfl
theorem zL_pR (M : ZMem) (p k : Nat) (v : Option Nat) : zL (zpR M p k v) = zL M := rfl
theorem zR_pI (M : ZMem) (p k : Nat) (v : Int32) : zR (zpI M p k v) = zR M := rfl
theorem zR_pL (M : ZMem) (p k : Nat) (v : Int64) : zR (zpL M p k v) = zR M := rfl
theorem zR_pR (M : ZMem) (p k : Nat) (v : Option Nat) (a b : Nat) : zR (zpR M p k v) a b = if a = p ∧ b = k then v else zR M a b := rfl
theorem Ly_pI (M : ZMem) (p k : Nat) (v : Int32) : Ly (zpI M p k v) ↔ Ly M := ⟨fun h => h, fun h => h⟩
theorem Ly_pL (M : ZMem) (p k : Nat) (v : Int64) : Ly (zpL M p k v) ↔ Ly M := ⟨fun h => h, fun h => h⟩
theorem Ly_cpI (M : ZMem) (p k q l n : Nat) : Ly (zcpI M p k q l n) ↔ Ly M := ⟨fun h => h, fun h => h⟩
theorem Ly_cpL (M : ZMem) (p k q l n : Nat) : Ly (zcpL M p k q l n) ↔ Ly M := ⟨fun h => h, fun h => h⟩
theorem zRt_93 : ∀ e ∈ zRt, e.1 ≠ 93 := by decide +kernel
theorem Ly_pR (M : ZMem) (k : Nat) (v : Option Nat) : Ly M → Ly (zpR M 93 k v) := fun h => ⟨h.1, h.s, fun e he => by rw [zR_pR, if_neg (fun q => zRt_93 e he q.1)]; exact h.r e he⟩
/-- whether a place is an object of that class, by the layout -/
def zokT (t o : Nat) : Bool := decide (o < 184 ∧ (zSh.getD o (0, 0)).1 = t ∧ ((t < 13 ∧ 20 ≤ o) ∨ (t = 13 ∧ 2 ≤ o ∧ o < 9)))
theorem zok_ly {M : ZMem} (h : Ly M) {t o : Nat} (hk : zokT t o = true) : zok M t o = true := by
  unfold zokT at hk
  have hk := of_decide_eq_true hk
  unfold zok
  rw [h.n, h.s o hk.1]
  exact decide_eq_true ⟨hk.2.1, hk.2.2.imp (fun q => ⟨q.1, q.2, hk.1⟩) (fun q => q)⟩
theorem zgi_ly {M : ZMem} (h : Ly M) {t j o : Nat} (hk : zokT t o = true) (hj : t < 13 ∧ j < zN t ∧ zkd (zty t j) = 0) : zgi M t j o = some (zI M o j) := by
  have hk := of_decide_eq_true hk
  obtain ⟨h13, hjn, hkd⟩ := hj
  unfold zgi zgf
  rw [h.n, h.s o hk.1]
  rw [if_pos ⟨hk.2.1, by omega, hjn, hk.1, hk.2.2.elim (fun q => .inl q.2) (fun q => .inr q.1), fun q => by omega⟩]
  unfold zfv
  rw [hkd]
  rfl
theorem zpf_ly {M : ZMem} (h : Ly M) {t j o : Nat} {x : Int32} (hk : zokT t o = true) (hj : t < 13 ∧ j < zN t ∧ zkd (zty t j) = 0 ∧ zfin t j = false) (hx : narrow (zty t j) (.int x) = .int x ∧ fits (zty t j) (.int x) = true) : zpf M t j o (.int x) false = some (zpI M o j x) := by
  have hk := of_decide_eq_true hk
  obtain ⟨h13, hjn, hkd, hf⟩ := hj
  unfold zpf
  rw [h.n, h.s o hk.1]
  rw [if_pos ⟨hk.2.1, h13, hjn, hk.1, hk.2.2.elim (fun q => q.2) (fun q => by omega), (fun q => absurd (hf.symm.trans q) (by decide)), hx.1, hx.2⟩, hkd]
  rfl
/-- places of references, as the layout has them -/
def zof (t j : Nat) : Nat := match t, j with
  | 0, 0 => 1
  | 1, 6 => 1
  | 3, 0 => 1
  | 5, 0 => 1
  | 5, 1 => 2
  | 5, 4 => 3
  | 6, 1 => 1
  | 6, 2 => 2
  | 6, 3 => 3
  | 7, 0 => 1
  | 7, 1 => 15
  | 7, 2 => 19
  | 7, 3 => 23
  | 8, 0 => 1
  | 9, 0 => 1
  | 9, 1 => 2
  | 9, 2 => 3
  | 10, 0 => 1
  | _, _ => 0
def zRm (o j : Nat) : Option Nat := (zRt.find? fun e => e.1 == o && e.2.1 == j).map fun e => e.2.2
theorem zRm_of {M : ZMem} (h : Ly M) {o j q : Nat} (hq : zRm o j = some q) : zR M o j = some q := by
  unfold zRm at hq
  obtain ⟨e, he, rfl⟩ := Option.map_eq_some_iff.mp hq
  have h1 := h.r e (List.mem_of_find?_eq_some he)
  have h2 := List.find?_some he
  simp only [Bool.and_eq_true, beq_iff_eq] at h2
  rw [← h2.1, ← h2.2]; exact h1
theorem zgr_ly {M : ZMem} (h : Ly M) {t j o q : Nat} (hk : zokT t o = true) (hj : t < 13 ∧ j < zN t ∧ zkd (zty t j) = 2) (hq : zRm o j = some q) : zgr M t j o = some (some q) := by
  have hk := of_decide_eq_true hk
  obtain ⟨h13, hjn, hkd⟩ := hj
  unfold zgr zgf
  rw [h.n, h.s o hk.1]
  rw [if_pos ⟨hk.2.1, by omega, hjn, hk.1, hk.2.2.elim (fun q => .inl q.2) (fun q => .inr q.1), fun q => by omega⟩]
  unfold zfv
  rw [hkd, zRm_of h hq]
  rfl
def zofT (t j : Nat) : Bool := (List.range 184).all fun o => !zokT t o || (zRm o j == some (o + zof t j))
theorem zgr_lo {M : ZMem} (h : Ly M) {t j o : Nat} (hk : zokT t o = true) (hj : t < 13 ∧ j < zN t ∧ zkd (zty t j) = 2) (hq : zofT t j = true) : zgr M t j o = some (some (o + zof t j)) := by
  refine zgr_ly h hk hj ?_
  have h1 := List.all_eq_true.mp hq o (List.mem_range.mpr (of_decide_eq_true hk).1)
  rw [hk] at h1
  simpa using h1
-- rows
theorem zai_ly {M : ZMem} (h : Ly M) {p n : Nat} {i : Int32} (hp : 20 ≤ p ∧ p < 184) (hs : zSh.getD p (0, 0) = (20, n)) (hi : 0 ≤ i.toInt ∧ i.toInt < n) : zai M p i = some (zI M p i.toInt.toNat) := by
  have hs' := h.s p hp.2
  rw [hs] at hs'
  have hc : i.toNatClampNeg = i.toInt.toNat := rfl
  have h0 : ¬ (i < 0 ∨ n ≤ i.toNatClampNeg) := by
    rw [hc, Int32.lt_iff_toInt_lt]
    have : (0 : Int32).toInt = 0 := rfl
    omega
  unfold zai zla
  rw [if_neg (show ¬ p = 0 by omega), show (if p = 1 then 31 else 20) = 20 from if_neg (by omega), h.n, hs', if_pos ⟨rfl, .inl hp.1, hp.2, h0⟩, hc]
theorem zsa_ly {M : ZMem} (h : Ly M) {t p n : Nat} {i x : Int32} (hp : 20 ≤ p ∧ p < 184) (hs : zSh.getD p (0, 0) = (t, n)) (hi : 0 ≤ i.toInt ∧ i.toInt < n) : zsa M t p i x = some (zpI M p i.toInt.toNat x) := by
  have hs' := h.s p hp.2
  rw [hs] at hs'
  have hc : i.toNatClampNeg = i.toInt.toNat := rfl
  have h0 : ¬ (i < 0 ∨ n ≤ i.toNatClampNeg) := by
    rw [hc, Int32.lt_iff_toInt_lt]
    have : (0 : Int32).toInt = 0 := rfl
    omega
  unfold zsa
  rw [h.n, hs', if_pos ⟨rfl, hp.1, hp.2, h0⟩, hc]
theorem zlaL_ly {M : ZMem} (h : Ly M) {p n : Nat} {i : Int32} (hp : 20 ≤ p ∧ p < 184) (hs : zSh.getD p (0, 0) = (23, n)) (hi : 0 ≤ i.toInt ∧ i.toInt < n) : zlaL M p i = some (zL M p i.toInt.toNat) := by
  have hs' := h.s p hp.2
  rw [hs] at hs'
  have hc : i.toNatClampNeg = i.toInt.toNat := rfl
  have h0 : ¬ (i < 0 ∨ n ≤ i.toNatClampNeg) := by
    rw [hc, Int32.lt_iff_toInt_lt]
    have : (0 : Int32).toInt = 0 := rfl
    omega
  unfold zlaL
  rw [h.n, hs', if_pos ⟨rfl, hp.1, hp.2, h0⟩, hc]
theorem zsaL_ly {M : ZMem} (h : Ly M) {p n : Nat} {i : Int32} {x : Int64} (hp : 20 ≤ p ∧ p < 184) (hs : zSh.getD p (0, 0) = (23, n)) (hi : 0 ≤ i.toInt ∧ i.toInt < n) : zsaL M p i x = some (zpL M p i.toInt.toNat x) := by
  have hs' := h.s p hp.2
  rw [hs] at hs'
  have hc : i.toNatClampNeg = i.toInt.toNat := rfl
  have h0 : ¬ (i < 0 ∨ n ≤ i.toNatClampNeg) := by
    rw [hc, Int32.lt_iff_toInt_lt]
    have : (0 : Int32).toInt = 0 := rfl
    omega
  unfold zsaL
  rw [h.n, hs', if_pos ⟨rfl, hp.1, hp.2, h0⟩, hc]
theorem zab_ly {M : ZMem} (h : Ly M) {p n t : Nat} {i : Int32} (hp : 20 ≤ p ∧ p < 184) (hs : zSh.getD p (0, 0) = (t, n)) (ht : t = 21 ∨ t = 22) (hi : 0 ≤ i.toInt ∧ i.toInt < n) : zab M p i = some (zI M p i.toInt.toNat) := by
  have hs' := h.s p hp.2
  rw [hs] at hs'
  have hc : i.toNatClampNeg = i.toInt.toNat := rfl
  have h0 : ¬ (i < 0 ∨ n ≤ i.toNatClampNeg) := by
    rw [hc, Int32.lt_iff_toInt_lt]
    have : (0 : Int32).toInt = 0 := rfl
    omega
  unfold zab zla
  rw [show (if p < 20 then 32 else if (zsh M p).1 = 21 then 21 else 22) = (if (zsh M p).1 = 21 then 21 else 22) from if_neg (by omega), hs', h.n, if_pos ⟨by rcases ht with rfl | rfl <;> rfl, .inl hp.1, hp.2, h0⟩, hc]
theorem zsb_ly {M : ZMem} (h : Ly M) {p n t : Nat} {i x : Int32} (hp : 20 ≤ p ∧ p < 184) (hs : zSh.getD p (0, 0) = (t, n)) (ht : t = 21 ∨ t = 22) (hi : 0 ≤ i.toInt ∧ i.toInt < n) : zsb M p i x = some (zpI M p i.toInt.toNat (if t = 21 then vp_nar .byte x else vp_nar .boolean x)) := by
  have hs' := h.s p hp.2
  rw [hs] at hs'
  have hc : i.toNatClampNeg = i.toInt.toNat := rfl
  have h0 : ¬ (i < 0 ∨ n ≤ i.toNatClampNeg) := by
    rw [hc, Int32.lt_iff_toInt_lt]
    have : (0 : Int32).toInt = 0 := rfl
    omega
  unfold zsb zsa
  rw [hs', h.n, if_pos ⟨by rcases ht with rfl | rfl <;> rfl, hp.1, hp.2, h0⟩, hc]
/-- rows of references: the class's blocks, hills, tapes: two places apart -/
theorem zlaR_ly {M : ZMem} (h : Ly M) {p : Nat} {i : Int32} (hp : p ∈ [23, 50, 76, 90, 108]) (hi : 0 ≤ i.toInt ∧ i.toInt < 6) : zlaR M p i = some (some ((if p = 90 then 109 else if p = 108 then 121 else p + 1) + 2 * i.toInt.toNat)) := by
  have hc : i.toNatClampNeg = i.toInt.toNat := rfl
  have h0 : ¬ (i < 0 ∨ 6 ≤ i.toNatClampNeg) := by
    rw [hc, Int32.lt_iff_toInt_lt]
    have : (0 : Int32).toInt = 0 := rfl
    omega
  have hp2 : p < 184 ∧ 20 ≤ p ∧ 24 ≤ (zSh.getD p (0, 0)).1 ∧ (zSh.getD p (0, 0)).1 ≤ 26 ∧ (zSh.getD p (0, 0)).2 = 6 := by
    simp only [List.mem_cons, List.not_mem_nil, or_false] at hp
    rcases hp with rfl | rfl | rfl | rfl | rfl <;> decide
  have hs' := h.s p hp2.1
  unfold zlaR
  rw [h.n, hs', if_pos ⟨hp2.2.2.1, hp2.2.2.2.1, hp2.2.1, hp2.1, by rw [hp2.2.2.2.2]; exact h0⟩, hc]
  have hz : i.toInt.toNat = 0 ∨ i.toInt.toNat = 1 ∨ i.toInt.toNat = 2 ∨ i.toInt.toNat = 3 ∨ i.toInt.toNat = 4 ∨ i.toInt.toNat = 5 := by omega
  simp only [List.mem_cons, List.not_mem_nil, or_false] at hp
  congr 1
  rcases hp with rfl | rfl | rfl | rfl | rfl <;> rcases hz with hz | hz | hz | hz | hz | hz <;> rw [hz] <;> exact zRm_of h (by decide +kernel)
-- whole numbers: ii z
def ii (z : Int) : Int32 := Int32.ofInt z
theorem ii_lit (n : Nat) : (@OfNat.ofNat Int32 n _) = ii (n : Int) := rfl
theorem ii_of (x : Int32) : ii x.toInt = x := Int32.ofInt_toInt x
theorem ii_add (a b : Int) : ii a + ii b = ii (a + b) := (Int32.ofInt_add a b).symm
theorem ii_sub (a b : Int) : ii a - ii b = ii (a - b) := (Int32.ofInt_sub a b).symm
theorem ii_mul (a b : Int) : ii a * ii b = ii (a * b) := (Int32.ofInt_mul a b).symm
theorem ii_neg (a : Int) : -ii a = ii (-a) := (Int32.ofInt_neg a).symm
theorem ii_toInt {a : Int} (h : -2147483648 ≤ a ∧ a < 2147483648) : (ii a).toInt = a := by
  unfold ii
  rw [Int32.toInt_ofInt]
  have hz : (Int32.size : Int) = 4294967296 := rfl
  exact Int.bmod_eq_of_le (by omega) (by omega)
theorem ii_lt {a b : Int} (ha : -2147483648 ≤ a ∧ a < 2147483648) (hb : -2147483648 ≤ b ∧ b < 2147483648) : (ii a < ii b) = (a < b) := by
  rw [Int32.lt_iff_toInt_lt, ii_toInt ha, ii_toInt hb]
theorem ii_le {a b : Int} (ha : -2147483648 ≤ a ∧ a < 2147483648) (hb : -2147483648 ≤ b ∧ b < 2147483648) : (ii a ≤ ii b) = (a ≤ b) := by
  rw [Int32.le_iff_toInt_le, ii_toInt ha, ii_toInt hb]
theorem ii_eq {a b : Int} (ha : -2147483648 ≤ a ∧ a < 2147483648) (hb : -2147483648 ≤ b ∧ b < 2147483648) : (ii a = ii b) = (a = b) := by
  rw [← Int32.toInt_inj, ii_toInt ha, ii_toInt hb]
theorem ii_range (x : Int32) : -2147483648 ≤ x.toInt ∧ x.toInt < 2147483648 := ⟨Int32.le_toInt x, Int32.toInt_lt x⟩
