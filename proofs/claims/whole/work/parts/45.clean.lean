/-! CLEAN on both sides; the class's workplaces -/
theorem lits : (0 : Int32) = ii 0 ∧ (1 : Int32) = ii 1 ∧ (2 : Int32) = ii 2 ∧ (3 : Int32) = ii 3 ∧ (4 : Int32) = ii 4 ∧ (5 : Int32) = ii 5 ∧ (6 : Int32) = ii 6 ∧ (7 : Int32) = ii 7 ∧ (8 : Int32) = ii 8 ∧ (9 : Int32) = ii 9 ∧ (10 : Int32) = ii 10 ∧ (11 : Int32) = ii 11 ∧ (12 : Int32) = ii 12 ∧ (13 : Int32) = ii 13 ∧ (20 : Int32) = ii 20 ∧ (21 : Int32) = ii 21 ∧ (60 : Int32) = ii 60 ∧ (99 : Int32) = ii 99 ∧ (100 : Int32) = ii 100 ∧ (9999 : Int32) = ii 9999 ∧ (99999 : Int32) = ii 99999 ∧ (999999 : Int32) = ii 999999 := ⟨rfl, rfl, rfl, rfl, rfl, rfl, rfl, rfl, rfl, rfl, rfl, rfl, rfl, rfl, rfl, rfl, rfl, rfl, rfl, rfl, rfl, rfl⟩
theorem bzT {P : Prop} [Decidable P] (h : P) : bz P = 1 := if_pos h
theorem bzF {P : Prop} [Decidable P] (h : ¬ P) : bz P = 0 := if_neg h
theorem bzE {P Q : Prop} [Decidable P] [Decidable Q] (h : P ↔ Q) : bz P = bz Q := by
  by_cases c : P
  · rw [bzT c, bzT (h.mp c)]
  · rw [bzF c, bzF (fun q => c (h.mpr q))]
/-- the workplaces of the class: later's yard, blows, values, the planner -/
def Sc (M M' : ZMem) : Prop := Ly M' ∧ (∀ p, (p < 75 ∨ (88 < p ∧ p < 97) ∨ 105 < p) → ∀ j, zI M' p j = zI M p j) ∧ (∀ b, b < 6 → zI M' (77 + 2 * b) 0 = zI M (77 + 2 * b) 0) ∧ (∀ p j, zL M' p j = zL M p j) ∧ ∀ p j, zR M' p j = zR M p j
theorem Sc.rf {M : ZMem} (h : Ly M) : Sc M M := ⟨h, fun _ _ _ => rfl, fun _ _ => rfl, fun _ _ => rfl, fun _ _ => rfl⟩
theorem Sc.tr {M M1 M2 : ZMem} (h : Sc M M1) (h' : Sc M1 M2) : Sc M M2 := ⟨h'.1, fun p hp j => (h'.2.1 p hp j).trans (h.2.1 p hp j), fun b hb => (h'.2.2.1 b hb).trans (h.2.2.1 b hb), fun p j => (h'.2.2.2.1 p j).trans (h.2.2.2.1 p j), fun p j => (h'.2.2.2.2 p j).trans (h.2.2.2.2 p j)⟩
theorem Sc.pI {M M1 : ZMem} (h : Sc M M1) {p k : Nat} {v : Int32} (hp : (75 ≤ p ∧ p ≤ 88 ∧ (1 ≤ k ∨ p = 75 ∨ p % 2 = 0)) ∨ (97 ≤ p ∧ p ≤ 105)) : Sc M (zpI M1 p k v) := by
  refine ⟨h.1.p, fun q hq j => (zI_ne (by omega)).trans (h.2.1 q hq j), fun b hb => ?_, h.2.2.2.1, h.2.2.2.2⟩
  rw [zI_pI, if_neg (by omega)]
  exact h.2.2.1 b hb
theorem RC_sc {M M' : ZMem} {s : ZSt} {l : Nat → Int64} (h : RC M s l) (hi : s 133 0 ≤ 6 ∧ s 133 50 ≤ 6 ∧ s 133 9 ≤ 6) (hs : Sc M M') : RC M' s l := by
  obtain ⟨⟨h1, h2, h3⟩, ⟨h4, h5, h6⟩, h7, h8, h9, h10, h11⟩ := h
  obtain ⟨_, e, e0, eL, _⟩ := hs
  refine ⟨⟨RCy_fr h1 (e 22 (by omega)), RCb_fr h2 hi.1 (fun p p1 p2 => e p (by omega)), RCc_fr h3 ?_⟩, ⟨RCs_fr h4 (e 36 (by omega)) (e 37 (by omega)) (e 38 (by omega)) (e 39 (by omega)), RCw_fr h5 (e 40 (by omega)) (e 41 (by omega)) (e 42 (by omega)) (e 43 (by omega)), RCk_fr h6 (e 44 (by omega)) (e 45 (by omega)) (e 46 (by omega)) (e 47 (by omega))⟩, RCt_fr h7 (fun j _ => e 20 (by omega) j) (e 89 (by omega)), RCi_fr h8 hi.2.1 (e 20 (by omega) 2) (fun p p1 p2 => e p (by omega)), RCa_fr h9 (e 106 (by omega)) (e 107 (by omega)), RCh_fr h10 hi.2.2 (fun p p1 p2 => e p (by omega)), RCp_fr h11 (fun p p1 p2 => ⟨e p (by omega), eL p⟩)⟩
  intro p j hp
  by_cases hq : p < 75 ∨ (88 < p ∧ p < 97) ∨ 105 < p
  · exact e p hq j
  · have hp2 : j = 0 ∧ p % 2 = 1 ∧ 77 ≤ p ∧ p ≤ 87 := by
      rcases hp with h | h | h | ⟨h, h'⟩
      · omega
      · omega
      · omega
      · refine ⟨h, ?_⟩
        simp only [List.mem_cons, List.not_mem_nil, or_false] at h'
        omega
    have := e0 ((p - 77) / 2) (by omega)
    rw [show 77 + 2 * ((p - 77) / 2) = p by omega] at this
    rw [hp2.1]; exact this
theorem CS_sc {M0 M M' : ZMem} {s : ZSt} {l : Nat → Int64} (h : CS M0 M s l) (hi : SI6 s) (hs : Sc M M') : CS M0 M' s l := by
  have h0 := hi.1.1
  have h9 := hi.1.2.2.2.1
  refine ⟨hs.1, fun p hp => ⟨fun j => (hs.2.1 p (by omega) j).trans ((h.2.1 p hp).1 j), fun j => (hs.2.2.2.1 p j).trans ((h.2.1 p hp).2 j)⟩, RC_sc h.2.2 ⟨h0.2, hi.2, h9.2⟩ hs⟩
/-- a call that only works there: its answer -/
def SG {α : Type} (M : ZMem) (t : Option (α × ZMem)) (v : α) : Prop := ∃ M', t = some (v, M') ∧ Sc M M'
theorem CG_sg {α : Type} {M0 M : ZMem} {s : ZSt} {l : Nat → Int64} {t : Option (α × ZMem)} {v : α} (h : CS M0 M s l) (hi : SI6 s) (g : SG M t v) : CG M0 t v s l := by
  obtain ⟨M', e, h'⟩ := g
  exact ⟨M', e, CS_sc h hi h'⟩
theorem SG_bd {α β : Type} {M M1 : ZMem} {v : α} {b : β} {t : Option (β × ZMem)} {F : β → ZMem → Option (α × ZMem)} (e : t = some (b, M1)) (h1 : Sc M M1) (h : SG M1 (F b M1) v) : SG M (zbd t F) v := by
  obtain ⟨M2, e2, h2⟩ := h
  refine ⟨M2, ?_, h1.tr h2⟩
  rw [e]; exact e2
/-- floorMod by 4 -/
theorem ii_mod {a b : Int} (ha : 0 ≤ a ∧ a < 2147483648) (hb : 0 < b ∧ b < 2147483648) : ii a - ii a / ii b * ii b = ii (a % b) := by
  rw [ii_div ha hb, ii_mul, ii_sub, Int.emod_def, Int.mul_comm b (a / b)]
theorem xor_nn {x y : Int32} (hx : 0 ≤ x.toInt) (hy : 0 ≤ y.toInt) : 0 ≤ (x ^^^ y).toInt := by
  have e1 : x.toBitVec.msb = false := by
    rw [BitVec.msb_eq_toInt]
    have : x.toBitVec.toInt = x.toInt := rfl
    exact decide_eq_false (by omega)
  have e2 : y.toBitVec.msb = false := by
    rw [BitVec.msb_eq_toInt]
    have : y.toBitVec.toInt = y.toInt := rfl
    exact decide_eq_false (by omega)
  have e3 : (x ^^^ y).toBitVec.msb = false := by rw [Int32.toBitVec_xor, BitVec.msb_xor, e1, e2]; rfl
  rw [BitVec.msb_eq_toInt] at e3
  have e4 := of_decide_eq_false e3
  have e5 : (x ^^^ y).toBitVec.toInt = (x ^^^ y).toInt := rfl
  omega
theorem c30 {M : ZMem} {a : Int} (ha : 0 ≤ a ∧ a < 2147483648) : f_30 M (ii a) (ii 4) = some (ii (a % 4)) := by
  have e0 : (0 : Int32).toInt = 0 := rfl
  have e4 : (ii 4).toInt = 4 := ii_toInt (by omega)
  have ea := ii_toInt (a := a) (by omega)
  unfold f_30
  rw [if_neg (by decide), if_pos (by
    rw [Int32.le_iff_toInt_le, e0]
    exact xor_nn (by omega) (by omega)), ii_mod ha (by omega)]
theorem grp_b {K v d : Int} (hv : 0 ≤ v ∧ v ≤ 9) (hd : 0 ≤ d) : 0 ≤ grp K v d ∧ grp K v d ≤ 6 := by
  unfold grp
  split <;> omega
/-- a blow's numbers, as the class sets them -/
def blwM (M : ZMem) (o : Nat) (K g ln mk : Int) : ZMem := zpI (zpI (zpI (zpI M o 0 (ii K)) o 1 (ii g)) o 2 (ii ln)) o 3 (ii mk)
theorem blw_at {M : ZMem} {o : Nat} {K g ln mk : Int} : (zI (blwM M o K g ln mk) o 0 = ii K ∧ zI (blwM M o K g ln mk) o 1 = ii g ∧ zI (blwM M o K g ln mk) o 2 = ii ln ∧ zI (blwM M o K g ln mk) o 3 = ii mk) ∧ ∀ p, p ≠ o → ∀ j, zI (blwM M o K g ln mk) p j = zI M p j := by
  unfold blwM
  refine ⟨?_, fun p hp j => ?_⟩
  · simp [zI_pI]
  · simp [zI_pI, hp]
theorem blw_ly {M : ZMem} (h : Ly M) {o : Nat} {K g ln mk : Int} : Ly (blwM M o K g ln mk) := h.p.p.p.p
theorem blw_sc {M M1 : ZMem} (h : Sc M M1) {o : Nat} (ho : o = 97 ∨ o = 99) {K g ln mk : Int} : Sc M (blwM M1 o K g ln mk) := (((h.pI (by omega)).pI (by omega)).pI (by omega)).pI (by omega)
theorem c29 {M : ZMem} (h : Ly M) {o y b : Nat} (ho : o = 97 ∨ o = 99) (hy : y ∈ [22, 49, 75]) (hb : b < 6) {K v d n : Int} {R : Nat → Int} (hK : zI M (y + 2 + 2 * b) 1 = ii K) (hR : ∀ r, r < 4 → zI M (y + 3 + 2 * b) r = ii (R r)) (k : 0 ≤ K ∧ K ≤ 6) (hv : 0 ≤ v ∧ v ≤ 9) (hd : 0 ≤ d ∧ d ≤ 99) (hn : 0 ≤ n ∧ n < 100000) : f_29 M o (some (y + 2 + 2 * b)) (ii v) (ii d) (ii n) = some (blwM M o K (grp K v d) (if K = 6 then R (n % 4).toNat else 0) (v + 1)) := by
  have hy2 : y ≤ 75 := by
    simp only [List.mem_cons, List.not_mem_nil, or_false] at hy
    omega
  have hr4 := hR (n % 4).toNat (by omega)
  have n4 : (0 : Int) ≤ n % 4 ∧ n % 4 < 4 := by omega
  have B0 := cB h hy hb
  unfold f_29 f_29_46 blwM
  by_cases c : K = 6
  · subst c
    rw [if_pos rfl]
    rcases ho with rfl | rfl
    all_goals simp (disch := first | assumption | (simp only [Ly_pI]; assumption) | omega) only [B0, cV, zb_some, if_true, if_false, eq_self, hK, zI_ne, zI_nk, zI_at, c25, lits, ii_add, ii_eq, not_true_eq_false, cB, c30, cBr, hr4]
  · rw [if_neg c]
    rcases ho with rfl | rfl
    all_goals simp (disch := first | assumption | (simp only [Ly_pI]; assumption) | omega) only [B0, cV, zb_some, if_true, if_false, eq_self, hK, zI_ne, zI_nk, zI_at, c25, lits, ii_add, ii_eq, c, not_false_eq_true]
/-- a yard as the state has it: which block, which day -/
def YB (M : ZMem) (s : ZSt) (y b : Nat) : Prop := Bk M s 0 (y + 2 + 2 * b) b
def lnn (s : ZSt) (b : Nat) : Int := if s 134 b = 6 then s 139 (4 * b + (s 133 1 % 4).toNat) else 0
abbrev cle (s : ZSt) (b : Nat) (t x : Int) : Prop := cln (s 134 b) (grp (s 134 b) (s 135 b) (s 137 b)) (lnn s b) (s 135 b + 1) t x
theorem lnn_b {s : ZSt} {b : Nat} (hv : SBk s 0 b) (hd : 0 ≤ s 133 1) : 0 ≤ lnn s b ∧ lnn s b ≤ 9 := by
  unfold lnn
  split
  · exact hv.2.2.2.2.2 (s 133 1 % 4).toNat (by omega)
  · omega
/-- the class asks it of a block as it is -/
theorem c52 {M : ZMem} {s : ZSt} (h : Ly M) {o y b : Nat} (ho : o = 97 ∨ o = 99) (hy : y ∈ [22, 49, 75]) (hb : b < 6) (hB : YB M s y b) (hv : SBk s 0 b) (hd : 0 ≤ s 133 1 ∧ s 133 1 < 100000) : f_29 M o (some (y + 2 + 2 * b)) (ii (s 135 b)) (ii (s 137 b)) (ii (s 133 1)) = some (blwM M o (s 134 b) (grp (s 134 b) (s 135 b) (s 137 b)) (lnn s b) (s 135 b + 1)) := by
  obtain ⟨⟨b1, b2, b3, b4, b5⟩, b6⟩ := hB
  obtain ⟨v1, v2, v3, v4, v5, v6⟩ := hv
  exact c29 h ho hy hb (R := fun r => s 139 (4 * b + r)) b1 (fun r hr => by
    have := b6 r hr
    rw [show y + 2 + 2 * b + 1 = y + 3 + 2 * b by omega] at this
    exact this) v1 v2 v4 hd
theorem c41z {M : ZMem} (h : Ly M) {o : Nat} (ho : o = 97 ∨ o = 99) {K g ln mk t x : Int} (h0 : zI M o 0 = ii K) (h1 : zI M o 1 = ii g) (h2 : zI M o 2 = ii ln) (h3 : zI M o 3 = ii mk) (hK : 0 ≤ K ∧ K ≤ 6) (hg : 0 ≤ g ∧ g ≤ 6) (hl : 0 ≤ ln ∧ ln ≤ 9) (hm : 1 ≤ mk ∧ mk ≤ 10) (ht : -1000 ≤ t ∧ t ≤ 1000) (hx : -1000 ≤ x ∧ x ≤ 1000) : f_41 M o (ii t) (ii x) = some (bz (cln K g ln mk t x)) := by
  refine c41 h ?_ h0 h1 h2 h3 hK hg hl hm ht hx
  rcases ho with rfl | rfl <;> decide +kernel
/-- what the blows hold: the block's numbers -/
def BLo (M : ZMem) (s : ZSt) (o b : Nat) : Prop := zI M o 0 = ii (s 134 b) ∧ zI M o 1 = ii (grp (s 134 b) (s 135 b) (s 137 b)) ∧ zI M o 2 = ii (lnn s b) ∧ zI M o 3 = ii (s 135 b + 1)
theorem c41s {M : ZMem} {s : ZSt} (h : Ly M) {o b : Nat} (ho : o = 97 ∨ o = 99) (hB : BLo M s o b) (hv : SBk s 0 b) (hd : 0 ≤ s 133 1) {t x : Int} (ht : -1000 ≤ t ∧ t ≤ 1000) (hx : -1000 ≤ x ∧ x ≤ 1000) : f_41 M o (ii t) (ii x) = some (bz (cle s b t x)) := by
  have hl := lnn_b hv hd
  obtain ⟨v1, v2, v3, v4, v5, v6⟩ := hv
  simp only [Nat.add_zero] at v1 v2 v4
  exact c41z h ho hB.1 hB.2.1 hB.2.2.1 hB.2.2.2 v1 (grp_b v2 v4.1) hl (by omega) ht hx
/-- the reference's own -/
theorem c184 {M : ZMem} {s : ZSt} (h : Ly M) (hm : RM M s) {b : Nat} (hb : b < 6) (hv : SBk s 0 b) {t x : Int} (ht : -1000 ≤ t ∧ t ≤ 1000) (hx : -1000 ≤ x ∧ x ≤ 1000) : f_184 M 133 (ii b) (ii t) (ii x) = some (bz (nr (grp (s 134 b) (s 135 b) (s 137 b)) 0 t x)) := by
  have e := c174 h hm (b := (b : Int)) (by omega) (by rw [Int.toNat_natCast]; exact hv)
  rw [Int.toNat_natCast] at e
  have g := grp_b (K := s 134 b) (v := s 135 b) (d := s 137 b) hv.2.1 hv.2.2.2.1.1
  generalize grp (s 134 b) (s 135 b) (s 137 b) = G at e g ⊢
  unfold f_184
  rw [if_pos (zok_ly h k133), e, zb_some, zb_some, show (2 : Int32) = ii 2 from rfl, ii_mul, ii_sub, ii_neg]
  by_cases c1 : G < 2 * x - t
  · rw [if_pos (by rw [ii_lt (by omega) (by omega)]; exact c1), bzF (by unfold nr; omega)]
  · rw [if_neg (by rw [ii_lt (by omega) (by omega)]; exact c1)]
    by_cases c2 : G < -(2 * x - t)
    · rw [if_pos (by rw [ii_lt (by omega) (by omega)]; exact c2), bzF (by unfold nr; omega)]
    · rw [if_neg (by rw [ii_lt (by omega) (by omega)]; exact c2), bzT (by unfold nr; omega)]
theorem c183a {K : Int} (hK : K = 0 ∨ K = 1 ∨ K = 2 ∨ K = 3 ∨ K = 4 ∨ K = 5 ∨ K = 6) (O N S F : Prop) [Decidable O] [Decidable N] [Decidable S] [Decidable F] : (if ii K = 2 then (if ¬ bz O = 0 then some 1 else (if bz N = 0 then some 0 else some 1)) else (if ii K = 3 then (if ¬ bz O = 0 then some 0 else (if bz N = 0 then some 0 else some 1)) else (if ii K = 4 then (if F then some 0 else (if bz N = 0 then some 0 else some 1)) else (if ii K = 5 then (if ¬ bz O = 0 then some 1 else (if bz N = 0 then some 0 else some 1)) else (if ii K = 6 then (if ¬ bz O = 0 then some 0 else (if bz S = 0 then some 0 else some 1)) else some (bz N)))))) = some (bz (if K = 2 ∨ K = 5 then N ∨ O else if K = 3 then N ∧ ¬ O else if K = 6 then S ∧ ¬ O else if K = 4 then N ∧ ¬ F else N)) := by
  unfold bz
  rcases hK with rfl | rfl | rfl | rfl | rfl | rfl | rfl <;> by_cases o : O <;> by_cases n : N <;> by_cases q : S <;> by_cases f : F <;> simp [o, n, q, f] <;> decide
theorem c183 {M : ZMem} {s : ZSt} (h : Ly M) (hm : RM M s) {b : Nat} (hb : b < 6) (hv : SBk s 0 b) (hd : 0 ≤ s 133 1 ∧ s 133 1 < 100000) {t x : Int} (ht : -900 ≤ t ∧ t ≤ 900) (hx : -1000 ≤ x ∧ x ≤ 1000) : f_183 M 133 (ii b) (ii t) (ii x) = some (bz (cle s b t x)) := by
  have n0 := c184 h hm hb hv (t := t) (x := x) (by omega) hx
  have hw := hv.2.2.2.2.2 (s 133 1 % 4).toNat (by omega)
  have v1 := hv.1
  have v2 := hv.2.1
  simp only [Nat.add_zero] at hw v1 v2
  have n6 := c184 h hm hb hv (t := t + s 139 (4 * b + (s 133 1 % 4).toNat)) (x := x) (by omega) hx
  have k1 : s 134 b = 0 ∨ s 134 b = 1 ∨ s 134 b = 2 ∨ s 134 b = 3 ∨ s 134 b = 4 ∨ s 134 b = 5 ∨ s 134 b = 6 := by omega
  have m4 : (0 : Int) ≤ s 133 1 % 4 ∧ s 133 1 % 4 < 4 := by omega
  have t4 : (4 * (b : Int) + s 133 1 % 4).toNat = 4 * b + (s 133 1 % 4).toNat := by omega
  have ec : cle s b t x ↔ (if s 134 b = 2 ∨ s 134 b = 5 then nr (grp (s 134 b) (s 135 b) (s 137 b)) 0 t x ∨ x = s 135 b + 1 else if s 134 b = 3 then nr (grp (s 134 b) (s 135 b) (s 137 b)) 0 t x ∧ ¬ x = s 135 b + 1 else if s 134 b = 6 then nr (grp (s 134 b) (s 135 b) (s 137 b)) 0 (t + s 139 (4 * b + (s 133 1 % 4).toNat)) x ∧ ¬ x = s 135 b + 1 else if s 134 b = 4 then nr (grp (s 134 b) (s 135 b) (s 137 b)) 0 t x ∧ ¬ t ≤ 3 else nr (grp (s 134 b) (s 135 b) (s 137 b)) 0 t x) := by
    unfold cle cln lnn nr
    generalize grp (s 134 b) (s 135 b) (s 137 b) = G
    generalize s 139 (4 * b + (s 133 1 % 4).toNat) = R
    rcases k1 with e | e | e | e | e | e | e <;> simp only [e] <;> simp <;> omega
  have key : ∀ O : Prop, ∀ _ : Decidable O, (O ↔ x = s 135 b + 1) → f_183_17 M 133 (ii b) (ii t) (ii x) (bz O) = some (bz (cle s b t x)) := by
    intro O hO e
    unfold f_183_17 f_183_60
    simp (disch := first | assumption | omega) only [mX h hm, zb_some, Int.toNat_natCast, n0, show (4 : Int32) = ii 4 from rfl, ii_mul, ii_mod, ii_add, t4, n6]
    simp only [bzn, if_true]
    have := c183a k1 O (nr (grp (s 134 b) (s 135 b) (s 137 b)) 0 t x) (nr (grp (s 134 b) (s 135 b) (s 137 b)) 0 (t + s 139 (4 * b + (s 133 1 % 4).toNat)) x) (ii t ≤ 3)
    refine this.trans (congrArg some (bzE ?_))
    rw [ec, e, show (ii t ≤ 3) = (t ≤ 3) from ii_le (b := 3) (by omega) (by omega)]
  unfold f_183
  rw [if_pos (zok_ly h k133)]
  simp (disch := first | assumption | omega) only [mX h hm, zb_some, Int.toNat_natCast, show (1 : Int32) = ii 1 from rfl, ii_add, ii_eq]
  by_cases c : x = s 135 b + 1
  · rw [if_neg (fun q => q c)]
    have := key True inferInstance ⟨fun _ => c, fun _ => trivial⟩
    exact this
  · rw [if_pos c]
    have := key False inferInstance ⟨False.elim, fun q => absurd q c⟩
    exact this
/-- clean -/
theorem c51 {M : ZMem} {s : ZSt} {l : Nat → Int64} (h : Ly M) (hc : RC M s l) (hi : SIn s) {b : Nat} (hb : (b : Int) < s 133 0) (hv : SBk s 0 b) {t x : Int} (ht : -1000 ≤ t ∧ t ≤ 1000) (hx : -1000 ≤ x ∧ x ≤ 1000) : f_51 M 20 (some (22 + 2 + 2 * b)) (ii t) (ii x) = some (bz (cle s b t x), blwM M 97 (s 134 b) (grp (s 134 b) (s 135 b) (s 137 b)) (lnn s b) (s 135 b + 1)) := by
  have h0 := hi.1
  have hd := hi.2.1
  have hB := hc.1.2.1 b hb
  have e3 : zI M 22 3 = ii (s 133 1) := hc.1.1.2.2.1
  have e52 := c52 (o := 97) (y := 22) h (.inl rfl) (by decide) (show b < 6 by omega) (by unfold YB; rw [show 22 + 2 + 2 * b = 24 + 2 * b by omega]; exact hB) hv (by omega)
  have hB2 : zI M (22 + 2 + 2 * b) 2 = ii (s 135 b) ∧ zI M (22 + 2 + 2 * b) 4 = ii (s 137 b) := by
    rw [show 22 + 2 + 2 * b = 24 + 2 * b by omega]
    exact ⟨hB.1.2.1, hB.1.2.2.2.1⟩
  have hM := blw_ly h (o := 97) (K := s 134 b) (g := grp (s 134 b) (s 135 b) (s 137 b)) (ln := lnn s b) (mk := s 135 b + 1)
  have e41 := c41s (o := 97) (b := b) hM (.inl rfl) (s := s) blw_at.1 hv hd.1 ht hx
  unfold f_51 f_52
  simp only [cX h, cV h, cB h (show 22 ∈ [22, 49, 75] by decide) (show b < 6 by omega), zb_some, if_true, e3, hB2.1, hB2.2, e52, cX hM, e41, bzn]
def sp54 (s : ZSt) (b t x : Int) : Int := if 0 ≤ b ∧ b < s 133 0 then (if (2 ≤ t ∧ t ≤ 60) ∧ 1 ≤ x ∧ x ≤ t - 1 then (if cle s b.toNat t x then 1 else 0) else -2) else -1
theorem m54 {M0 M : ZMem} {s : ZSt} {l : Nat → Int64} (h : CS M0 M s l) (hi : SI6 s) (hb' : SIb s) {b t x : Int} (hb : -2147483648 ≤ b ∧ b < 2147483648) (ht : -2147483648 ≤ t ∧ t < 2147483648) (hx : -2147483648 ≤ x ∧ x < 2147483648) : CG M0 (f_54 M 20 (ii b) (ii t) (ii x)) (ii (sp54 s b t x)) s l := by
  have h0 := hi.1.1
  unfold f_54 sp54
  rw [if_pos (zok_ly h.1 k20), gnow h.1, zb_some, zb_some, gyd h.1, zb_some, zb_some, c19 h.1 (by decide) h.2.2.1.1.1 h0 hb, zb_some]
  by_cases c : 0 ≤ b ∧ b < s 133 0
  · obtain ⟨n, rfl⟩ := Int.eq_ofNat_of_zero_le c.1
    rw [fnd_some c, zcs_so _ _ _ (by omega), if_pos c, c55 ht hx, zb_some]
    by_cases d : (2 ≤ t ∧ t ≤ 60) ∧ 1 ≤ x ∧ x ≤ t - 1
    · rw [if_pos d, if_pos d, if_pos (by decide)]
      have e := c51 h.1 h.2.2 hi.1 (b := n) c.2 (hb' n c.2) (t := t) (x := x) (by omega) (by omega)
      rw [Int.toNat_natCast, e, zbd_some]
      by_cases q : cle s n t x
      · rw [bzT q, if_neg (by decide), if_pos q]
        exact CG_sg h hi ⟨_, rfl, blw_sc (Sc.rf h.1) (.inl rfl)⟩
      · rw [bzF q, if_pos rfl, if_neg q]
        exact CG_sg h hi ⟨_, rfl, blw_sc (Sc.rf h.1) (.inl rfl)⟩
    · rw [if_neg d, if_neg d, if_neg (by decide)]
      exact CG_ret h
  · rw [fnd_none c, zcs_no, if_neg c]
    exact CG_ret h
theorem m191 {M : ZMem} {s : ZSt} (h : Ly M) (hm : RM M s) (hi : SIn s) (hb' : SIb s) {b t x : Int} (hb : -2147483648 ≤ b ∧ b < 2147483648) (ht : -2147483648 ≤ t ∧ t < 2147483648) (hx : -2147483648 ≤ x ∧ x < 2147483648) : f_191 M 133 (ii b) (ii t) (ii x) = some (ii (sp54 s b t x)) := by
  have h0 := hi.1
  have hd := hi.2.1
  unfold f_191 sp54
  rw [if_pos (zok_ly h k133), c149 h hm hi hb, zb_some]
  by_cases c : 0 ≤ b ∧ b < s 133 0
  · obtain ⟨n, rfl⟩ := Int.eq_ofNat_of_zero_le c.1
    rw [if_pos c, if_pos c, if_pos (by decide), show (2 : Int32) = ii 2 from rfl, show (60 : Int32) = ii 60 from rfl, c147i h ht (by omega) (by omega), zb_some]
    by_cases d1 : 2 ≤ t ∧ t ≤ 60
    · rw [if_pos d1, if_neg (by decide), show (1 : Int32) = ii 1 from rfl, ii_sub, c147i h hx (by omega) (by omega), zb_some]
      by_cases d2 : 1 ≤ x ∧ x ≤ t - 1
      · have e := c183 h hm (b := n) (by omega) (hb' n c.2) (by omega) (t := t) (x := x) (by omega) (by omega)
        rw [if_pos d2, if_pos (by decide), if_pos ⟨d1, d2⟩, Int.toNat_natCast, e, zb_some]
        by_cases q : cle s n t x
        · rw [bzT q, if_neg (by decide), if_pos q]
        · rw [bzF q, if_pos rfl, if_neg q]; rfl
      · rw [if_neg d2, if_neg (by decide), if_neg (fun w => d2 w.2)]; rfl
    · rw [if_neg d1, if_pos rfl, if_neg (fun w => d1 w.1)]; rfl
  · rw [if_neg c, if_neg (by decide), if_neg c]; rfl
