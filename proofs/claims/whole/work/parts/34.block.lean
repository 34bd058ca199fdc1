/-! BLOCK -/
/-- only the yard changes: count, day, earned and the blocks -/
theorem RC_yd {M M' : ZMem} {s s' : ZSt} {l : Nat → Int64} (h : RC M s l) (hi : s 133 0 ≤ 6 ∧ s 133 50 ≤ 6 ∧ s 133 9 ≤ 6) (hM : ∀ p, p ≠ 22 → (p < 24 ∨ 35 < p) → (∀ j, zI M' p j = zI M p j) ∧ ∀ j, zL M' p j = zL M p j) (h0 : ∀ b, b < 6 → zI M' (24 + 2 * b) 0 = zI M (24 + 2 * b) 0) (hs : ∀ q, (q < 133 ∨ 139 < q) → s' q = s q) (h3 : ∀ j, 2 < j → s' 133 j = s 133 j) (hy : RCy M' s') (hb : RCb M' s') : RC M' s' l := by
  obtain ⟨⟨h1, h2, h3'⟩, ⟨h4, h5, h6⟩, h7, h8, h9, h10, h11⟩ := h
  have e : ∀ p, p ≠ 22 → (p < 24 ∨ 35 < p) → ∀ j, zI M' p j = zI M p j := fun p hq hp => (hM p hq hp).1
  refine ⟨⟨hy, hb, RCc_fr h3' ?_⟩, ⟨RCs_sf (RCs_fr h4 (e 36 (by omega) (by omega)) (e 37 (by omega) (by omega)) (e 38 (by omega) (by omega)) (e 39 (by omega) (by omega))) ?_ ?_ ?_ ?_, RCw_sf (RCw_fr h5 (e 40 (by omega) (by omega)) (e 41 (by omega) (by omega)) (e 42 (by omega) (by omega)) (e 43 (by omega) (by omega))) ?_ ?_ ?_, RCk_sf (RCk_fr h6 (e 44 (by omega) (by omega)) (e 45 (by omega) (by omega)) (e 46 (by omega) (by omega)) (e 47 (by omega) (by omega))) ?_ ?_ ?_⟩, RCt_sf (RCt_fr h7 (fun j _ => e 20 (by omega) (by omega) j) (e 89 (by omega) (by omega))) ?_ ?_ ?_, RCi_sf (RCi_fr h8 hi.2.1 (e 20 (by omega) (by omega) 2) (fun p h1 h2 => e p (by omega) (by omega))) ?_ ?_ ?_ ?_ ?_ ?_ ?_ ?_ ?_ ?_ ?_ ?_ ?_ ?_ ?_ ?_ ?_ ?_ ?_ ?_ ?_, RCa_sf (RCa_fr h9 (e 106 (by omega) (by omega)) (e 107 (by omega) (by omega))) ?_ ?_, RCh_sf (RCh_fr h10 hi.2.2 (fun p h1 h2 => e p (by omega) (by omega))) ?_ ?_ ?_ ?_ ?_ ?_ ?_, RCp_sf (RCp_fr h11 (fun p h1 h2 => hM p (by omega) (by omega))) ?_ ?_⟩
  all_goals first | exact h3 _ (by omega) | exact hs _ (by omega) | skip
  intro p j hp
  by_cases hq : p ≠ 22 ∧ (p < 24 ∨ 35 < p)
  · exact e p hq.1 hq.2 j
  · have hp2 : j = 0 ∧ p % 2 = 0 ∧ 24 ≤ p ∧ p ≤ 35 := by
      rcases hp with h | h | h | ⟨h, h'⟩
      · omega
      · omega
      · omega
      · refine ⟨h, ?_⟩
        simp only [List.mem_cons, List.not_mem_nil, or_false] at h'
        omega
    have := h0 ((p - 24) / 2) (by omega)
    rw [show 24 + 2 * ((p - 24) / 2) = p by omega] at this
    rw [hp2.1]; exact this
/-! RULES for the reference's own methods: a memory stands for a state, and no more of it is asked -/
def MS (M0 M : ZMem) (s : ZSt) : Prop := Ly M ∧ Dn M0 M ∧ RM M s
def MG {α : Type} (M0 : ZMem) (t : Option (α × ZMem)) (v : α) (s' : ZSt) : Prop := ∃ M', t = some (v, M') ∧ MS M0 M' s'
def MV (M0 : ZMem) (t : Option ZMem) (s' : ZSt) : Prop := ∃ M', t = some M' ∧ MS M0 M' s'
section ZMG
variable {α β : Type} {M0 M : ZMem} {s s1 s' : ZSt} {v : α}
theorem MG_ret (h : MS M0 M s) : MG M0 (some (v, M)) v s := ⟨M, rfl, h⟩
theorem MV_ret (h : MS M0 M s) : MV M0 (some M) s := ⟨M, rfl, h⟩
theorem MG_eq {β : Type} {t : Option β} {b : β} {F : β → Option (α × ZMem)} (e : t = some b) (h : MG M0 (F b) v s') : MG M0 (zb t F) v s' := by rw [e]; exact h
theorem MV_eq {β : Type} {t : Option β} {b : β} {F : β → Option ZMem} (e : t = some b) (h : MV M0 (F b) s') : MV M0 (zb t F) s' := by rw [e]; exact h
theorem MG_bd {β : Type} {t : Option (β × ZMem)} {b : β} {F : β → ZMem → Option (α × ZMem)} (e : MG M0 t b s1) (h : ∀ M1, MS M0 M1 s1 → MG M0 (F b M1) v s') : MG M0 (zbd t F) v s' := by
  obtain ⟨M1, e1, h1⟩ := e
  rw [e1]; exact h M1 h1
theorem MV_bd {β : Type} {t : Option (β × ZMem)} {b : β} {F : β → ZMem → Option ZMem} (e : MG M0 t b s1) (h : ∀ M1, MS M0 M1 s1 → MV M0 (F b M1) s') : MV M0 (zbd t F) s' := by
  obtain ⟨M1, e1, h1⟩ := e
  rw [e1]; exact h M1 h1
theorem MG_bv {t : Option ZMem} {F : ZMem → Option (α × ZMem)} (e : MV M0 t s1) (h : ∀ M1, MS M0 M1 s1 → MG M0 (F M1) v s') : MG M0 (zb t F) v s' := by
  obtain ⟨M1, e1, h1⟩ := e
  rw [e1]; exact h M1 h1
theorem MV_bv {t : Option ZMem} {F : ZMem → Option ZMem} (e : MV M0 t s1) (h : ∀ M1, MS M0 M1 s1 → MV M0 (F M1) s') : MV M0 (zb t F) s' := by
  obtain ⟨M1, e1, h1⟩ := e
  rw [e1]; exact h M1 h1
/-- reading -/
theorem rF (h : MS M0 M s) {j : Nat} (hj : zfk 12 j 0 = true) (hz : zst 133 j = true) : zgi M 12 j 133 = some (ii (s 133 j)) := g133 h.1 h.2.2 hj hz
theorem rP (h : MS M0 M s) {j P : Nat} (hj : zfk 12 j 2 = true) (hz : zRm 133 j = some P) : zgr M 12 j 133 = some (some P) := gR h.1 k133 hj hz
/-- a row of the state -/
def zrw (P n : Nat) : Bool := decide (133 < P ∧ P < 184 ∧ zSh.getD P (0, 0) = (20, n))
theorem rA (h : MS M0 M s) {P n : Nat} {b : Int} (hP : zrw P n = true) (hz : ∀ j, zst P j = true) (hb : 0 ≤ b ∧ b < n) (hn : n ≤ 1000) : zai M P (ii b) = some (ii (s P b.toNat)) := by
  obtain ⟨h1, h2, h3⟩ := of_decide_eq_true hP
  have hi : (ii b).toInt = b := ii_toInt (by omega)
  rw [zai_ly h.1 (by omega) h3 (by omega), hi, h.2.2 P _ (hz _)]
/-- writing -/
theorem wA (h : MS M0 M s) {P n : Nat} {b x : Int} (hP : zrw P n = true) (hb : 0 ≤ b ∧ b < n) (hn : n ≤ 1000) : MV M0 (zsa M 20 P (ii b) (ii x)) (up s P b.toNat x) := by
  obtain ⟨h1, h2, h3⟩ := of_decide_eq_true hP
  have hi : (ii b).toInt = b := ii_toInt (by omega)
  rw [zsa_ly h.1 (by omega) h3 (by omega), hi]
  exact ⟨_, rfl, (Ly_pI _ _ _ _).mpr h.1, h.2.1.pI (by omega), RM_up h.2.2 _ _ _⟩
theorem wF (h : MS M0 M s) {j : Nat} {x : Int} (hj : zfk 12 j 0 = true) (hf : zfin 12 j = false) (hx : zty 12 j = .int) : MV M0 (zpf M 12 j 133 (.int (ii x)) false) (up s 133 j x) := by
  rw [pI h.1 k133 hj hf hx]
  exact ⟨_, rfl, (Ly_pI _ _ _ _).mpr h.1, h.2.1.pI (by omega), RM_up h.2.2 _ _ _⟩
/-- a workplace: the state stays -/
theorem wAs (h : MS M0 M s) {P n : Nat} {b : Int} {x : Int32} (hP : zrw P n = true) (hz : ∀ j, zst P j = false) (hb : 0 ≤ b ∧ b < n) (hn : n ≤ 1000) : MV M0 (zsa M 20 P (ii b) x) s := by
  obtain ⟨h1, h2, h3⟩ := of_decide_eq_true hP
  have hi : (ii b).toInt = b := ii_toInt (by omega)
  rw [zsa_ly h.1 (by omega) h3 (by omega), hi]
  exact ⟨_, rfl, (Ly_pI _ _ _ _).mpr h.1, h.2.1.pI (by omega), RM_scr h.2.2 (hz _)⟩
end ZMG
theorem up_ext {s s' : ZSt} (h : ∀ p j, s p j = s' p j) : s = s' := funext fun p => funext fun j => h p j
theorem l0 : (0 : Int32) = ii 0 := rfl
theorem l1 : (1 : Int32) = ii 1 := rfl
theorem MG_ite {α : Type} {M0 : ZMem} {c P : Prop} [Decidable c] {t1 t2 : Option (α × ZMem)} {v : α} {s' : ZSt} (e : c ↔ P) (h1 : P → MG M0 t1 v s') (h2 : ¬ P → MG M0 t2 v s') : MG M0 (if c then t1 else t2) v s' := by
  by_cases hc : c
  · rw [if_pos hc]; exact h1 (e.mp hc)
  · rw [if_neg hc]; exact h2 (fun q => hc (e.mpr q))
theorem iie {a b : Int} (ha : -2147483648 ≤ a ∧ a < 2147483648) (hb : -2147483648 ≤ b ∧ b < 2147483648) : ii a = ii b ↔ a = b := by rw [ii_eq ha hb]
theorem iin {a b : Int} (ha : -2147483648 ≤ a ∧ a < 2147483648) (hb : -2147483648 ≤ b ∧ b < 2147483648) : (¬ ii a = ii b) ↔ a ≠ b := by rw [ii_eq ha hb]
/-- the answer of a test, as a number -/
theorem tst (P : Prop) [Decidable P] : (if P then (1 : Int32) else 0) = 0 ↔ ¬ P := by
  by_cases h : P
  · rw [if_pos h]; exact ⟨fun q => absurd q (by decide), fun q => absurd h q⟩
  · rw [if_neg h]; exact ⟨fun _ => h, fun _ => rfl⟩
theorem tsn (P : Prop) [Decidable P] : (¬ (if P then (1 : Int32) else 0) = 0) ↔ P := by rw [tst, Decidable.not_not]
theorem rFx {M0 M : ZMem} {s : ZSt} (h : MS M0 M s) {j : Nat} {x : Int} (hj : zfk 12 j 0 = true) (hz : zst 133 j = true) (e : s 133 j = x) : zgi M 12 j 133 = some (ii x) := by rw [← e]; exact rF h hj hz
/-- at the place behind the last block -/
theorem wN {α : Type} {M0 M : ZMem} {s s' : ZSt} {v : α} (h : MS M0 M s) {j P : Nat} {n x : Int} {F : ZMem → Option (α × ZMem)} (hj : zfk 12 j 2 = true) (hz : zRm 133 j = some P) (hP : zrw P 6 = true) (hn : 0 ≤ n ∧ n < 6) (e : s 133 0 = n) (next : ∀ M1, MS M0 M1 (up s P n.toNat x) → MG M0 (F M1) v s') : MG M0 (zb (zgr M 12 j 133) fun r => zb (zgi M 12 0 133) fun x0 => zb r fun q => zb (zsa M 20 q x0 (ii x)) F) v s' :=
  MG_eq (rP h hj hz) (MG_eq (rFx h (by decide) rfl e) (MG_eq rfl (MG_bv (wA h hP hn (by omega)) next)))
/-- block -/
def st13 (s : ZSt) (k v t : Int) : ZSt :=
  let n := (s 133 0).toNat
  up (up (up (up (up (up (up (up (up (up s 134 n k) 135 n v) 136 n t) 137 n 0) 138 n 0) 139 (4 * n) 0) 139 (4 * n + 1) 0) 139 (4 * n + 2) 0) 139 (4 * n + 3) 0) 133 0 (s 133 0 + 1)
def sp13 (s : ZSt) (k v t : Int) : Int × ZSt := if 0 ≤ k ∧ k ≤ 6 then (if 0 ≤ v ∧ v ≤ 9 then (if 1 ≤ t ∧ t ≤ 60 then (if s 133 0 = 6 then (-4, s) else (s 133 0, st13 s k v t)) else (-2, s)) else (-2, s)) else (-1, s)
theorem wR {M0 M : ZMem} {s s' : ZSt} {v : Int32} (h : MS M0 M s) {n : Int} {r : Nat} {z : Nat} (hr : r < 4) (hn : 0 ≤ n ∧ n < 6) (e : s 133 0 = n) (next : ∀ M1, MS M0 M1 (up s 139 (4 * n.toNat + r) 0) → MG M0 (f_146_103 z M1 133 (ii (r + 1 : Nat))) v s') : MG M0 (f_146_103 (z + 1) M 133 (ii r)) v s' := by
  rw [f_146_103]
  refine MG_ite (P := False) ⟨fun q => ?_, False.elim⟩ False.elim fun _ => ?_
  · rw [show (4 : Int32) = ii 4 from rfl, ii_le (by omega) (by omega)] at q; omega
  · refine MG_eq (rP h (by decide) (P := 139) (by decide +kernel)) (MG_eq (rFx h (by decide) rfl e) (MG_eq rfl ?_))
    rw [show (4 : Int32) = ii 4 from rfl, ii_mul, ii_add, l0, l1, ii_add]
    refine MG_bv (wA h (n := 24) (by decide) (by omega) (by omega)) fun M1 h1 => ?_
    rw [show (4 * n + (r : Int)).toNat = 4 * n.toNat + r by omega] at h1
    exact next M1 h1
theorem m146 {M0 M : ZMem} {s : ZSt} (h : MS M0 M s) (hi : SIn s) {k v t : Int} (hk : -2147483648 ≤ k ∧ k < 2147483648) (hv : -2147483648 ≤ v ∧ v < 2147483648) (ht : -2147483648 ≤ t ∧ t < 2147483648) : MG M0 (f_146 M 133 (ii k) (ii v) (ii t)) (ii (sp13 s k v t).1) (sp13 s k v t).2 := by
  have hn := hi.1
  unfold f_146 sp13
  rw [if_pos (zok_ly h.1 k133)]
  refine MG_eq (c147i h.1 (b := 0) (c := 6) hk (by omega) (by omega)) (MG_ite (tsn _) (fun c1 => ?_) fun c1 => ?_)
  · rw [if_pos c1]
    refine MG_eq (c147i h.1 (b := 0) (c := 9) hv (by omega) (by omega)) (MG_ite (tst _) (fun c2 => ?_) fun c2 => ?_)
    · rw [if_neg c2]; exact MG_ret h
    · have c2 := Decidable.not_not.mp c2
      rw [if_pos c2]
      refine MG_eq (c147i h.1 (b := 1) (c := 60) ht (by omega) (by omega)) (MG_ite (tsn _) (fun c3 => ?_) fun c3 => ?_)
      · rw [if_pos c3]
        refine MG_eq (rF h (by decide) rfl) (MG_ite (iin (b := 6) (by omega) (by omega)) (fun c4 => ?_) fun c4 => ?_)
        · rw [if_neg c4]
          have hn' : 0 ≤ s 133 0 ∧ s 133 0 < 6 := by omega
          refine wN h (by decide) (P := 134) (by decide +kernel) (by decide) hn' rfl fun M1 h1 => ?_
          refine wN h1 (by decide) (P := 135) (by decide +kernel) (by decide) hn' rfl fun M2 h2 => ?_
          refine wN h2 (by decide) (P := 136) (by decide +kernel) (by decide) hn' rfl fun M3 h3 => ?_
          refine wN (x := 0) h3 (by decide) (P := 137) (by decide +kernel) (by decide) hn' rfl fun M4 h4 => ?_
          refine wN (x := 0) h4 (by decide) (P := 138) (by decide +kernel) (by decide) hn' rfl fun M5 h5 => ?_
          rw [show zF = 99995 + 1 + 1 + 1 + 1 + 1 from rfl]
          refine wR (r := 0) h5 (by omega) hn' rfl fun M6 h6 => ?_
          refine wR (r := 1) h6 (by omega) hn' rfl fun M7 h7 => ?_
          refine wR (r := 2) h7 (by omega) hn' rfl fun M8 h8 => ?_
          refine wR (r := 3) h8 (by omega) hn' rfl fun M9 h9 => ?_
          rw [f_146_103, if_pos (by decide)]
          refine MG_eq (rFx h9 (by decide) rfl (x := s 133 0) rfl) ?_
          rw [l1, ii_add]
          refine MG_bv (wF h9 (by decide) (by decide) (by decide)) fun M10 h10 => ?_
          refine MG_eq (rFx h10 (by decide) rfl (x := s 133 0 + 1) rfl) ?_
          rw [ii_sub, show s 133 0 + 1 - 1 = s 133 0 by omega]
          exact MG_ret h10
        · rw [if_pos (by omega)]; exact MG_ret h
      · rw [if_neg c3]; exact MG_ret h
  · rw [if_neg c1]; exact MG_ret h
theorem zRm_row : ∀ b, b < 6 → zRm (24 + 2 * b) 6 = some (25 + 2 * b) ∧ zSh.getD (25 + 2 * b) (0, 0) = (20, 4) := by decide +kernel
theorem zlen_ly {M : ZMem} (h : Ly M) {p t n : Nat} (hp : 20 ≤ p ∧ p < 184) (hs : zSh.getD p (0, 0) = (t, n)) (ht : 20 ≤ t ∧ t ≤ 26) : zlen none M p = some (ii n) := by
  have hs' := h.s p hp.2
  rw [hs] at hs'
  unfold zlen
  rw [if_neg (by omega), h.n, hs', if_pos ⟨hp.2, .inl ⟨hp.1, ht⟩⟩]
  show some (Int32.ofNat n) = _
  rfl
/-- filling a row of four with one number -/
theorem c17 {M : ZMem} (h : Ly M) {p : Nat} {x : Int32} (hp : 20 ≤ p ∧ p < 184) (hs : zSh.getD p (0, 0) = (20, 4)) : f_17 M (some p) x = some (zpI (zpI (zpI (zpI M p 0 x) p 1 x) p 2 x) p 3 x) := by
  unfold f_17
  rw [zb_some, zlen_ly h hp hs (by omega), zb_some, show zF = 99995 + 1 + 1 + 1 + 1 + 1 from rfl, l0]
  have st : ∀ (z : Nat) (N : ZMem) (k : Nat), Ly N → k < 4 → f_17_5 (z + 1) N (some p) x (ii k) (ii (4 : Nat)) = f_17_5 z (zpI N p k x) (some p) x (ii (k + 1 : Nat)) (ii (4 : Nat)) := by
    intro z N k hN hk
    rw [f_17_5, if_neg (by rw [ii_le (by omega) (by omega)]; omega), zb_some, zsa_ly hN hp hs (by rw [ii_toInt (by omega)]; omega), zb_some, ii_toInt (by omega), l1, ii_add]
    rfl
  rw [show (0 : Int) = ((0 : Nat) : Int) from rfl, st _ _ _ h (by omega), st _ _ _ ((Ly_pI _ _ _ _).mpr h) (by omega), st _ _ _ ((Ly_pI _ _ _ _).mpr ((Ly_pI _ _ _ _).mpr h)) (by omega), st _ _ _ ((Ly_pI _ _ _ _).mpr ((Ly_pI _ _ _ _).mpr ((Ly_pI _ _ _ _).mpr h))) (by omega)]
  rw [f_17_5, if_pos (by decide)]
def blM (M : ZMem) (o : Nat) (k v t : Int32) : ZMem := zpI (zpI (zpI (zpI (zpI (zpI (zpI (zpI (zpI M o 1 k) o 2 v) o 3 t) o 4 0) o 5 0) (o + 1) 0 0) (o + 1) 1 0) (o + 1) 2 0) (o + 1) 3 0
theorem Ly.p {M : ZMem} (h : Ly M) {p k : Nat} {v : Int32} : Ly (zpI M p k v) := (Ly_pI _ _ _ _).mpr h
theorem c16 {M : ZMem} (h : Ly M) {b : Nat} (hb : b < 6) {k v t : Int32} : f_16 M (24 + 2 * b) k v t = some (blM M (24 + 2 * b) k v t) := by
  have hk : zokT 1 (24 + 2 * b) = true := kB (y := 22) (by decide) hb
  unfold f_16
  rw [if_pos (zok_ly h hk), pI h hk (by decide) (by decide) (by decide), zb_some, pI h.p hk (by decide) (by decide) (by decide), zb_some, pI h.p.p hk (by decide) (by decide) (by decide), zb_some, pI h.p.p.p hk (by decide) (by decide) (by decide), zb_some, pI h.p.p.p.p hk (by decide) (by decide) (by decide), zb_some, gR h.p.p.p.p.p hk (by decide) (zRm_row b hb).1, zb_some, c17 h.p.p.p.p.p (by omega) (zRm_row b hb).2, zb_some]
  unfold blM
  rw [show 24 + 2 * b + 1 = 25 + 2 * b by omega]
theorem k22 : zokT 10 22 = true := by decide +kernel
/-- the next block of the yard that holds -/
theorem c15 {M : ZMem} (h : Ly M) {n : Int} (hn : zI M 22 1 = ii n) (h0 : 0 ≤ n ∧ n ≤ 6) : f_15 M 22 = some (if n < 6 then (some (24 + 2 * n.toNat), zpI M 22 1 (ii (n + 1))) else (none, M)) := by
  unfold f_15
  rw [if_pos (zok_ly h k22), gI h k22 (by decide), zb_some, hn]
  by_cases hc : n < 6
  · rw [if_pos (by rw [show (6 : Int32) = ii 6 from rfl, ii_lt (by omega) (by omega)]; exact hc), if_pos hc, zb_some, pI h k22 (by decide) (by decide) (by decide), zb_some, gR h.p k22 (by decide) (show zRm 22 0 = some 23 by decide +kernel), zb_some, gI h.p k22 (by decide), zb_some, zb_some, zI_at, l1, ii_add, ii_sub, show n + 1 - 1 = n by omega]
    rw [zlaR_ly h.p (by decide) (by rw [ii_toInt (by omega)]; omega), zb_some, ii_toInt (by omega)]
    rw [if_neg (by simp; omega)]
    simp
  · rw [if_neg (by rw [show (6 : Int32) = ii 6 from rfl, ii_lt (by omega) (by omega)]; exact hc), if_neg hc]
/-- the class's side: a memory stands for a state -/
def CS (M0 M : ZMem) (s : ZSt) (l : Nat → Int64) : Prop := Ly M ∧ Up M0 M ∧ RC M s l
def CG {α : Type} (M0 : ZMem) (t : Option (α × ZMem)) (v : α) (s' : ZSt) (l' : Nat → Int64) : Prop := ∃ M', t = some (v, M') ∧ CS M0 M' s' l'
def CV (M0 : ZMem) (t : Option ZMem) (s' : ZSt) (l' : Nat → Int64) : Prop := ∃ M', t = some M' ∧ CS M0 M' s' l'
section ZCG
variable {α : Type} {M0 M : ZMem} {s s1 s' : ZSt} {l l1' l' : Nat → Int64} {v : α}
theorem CG_ret (h : CS M0 M s l) : CG M0 (some (v, M)) v s l := ⟨M, rfl, h⟩
theorem CG_eq {β : Type} {t : Option β} {b : β} {F : β → Option (α × ZMem)} (e : t = some b) (h : CG M0 (F b) v s' l') : CG M0 (zb t F) v s' l' := by rw [e]; exact h
theorem CG_bd {β : Type} {t : Option (β × ZMem)} {b : β} {F : β → ZMem → Option (α × ZMem)} (e : CG M0 t b s1 l1') (h : ∀ M1, CS M0 M1 s1 l1' → CG M0 (F b M1) v s' l') : CG M0 (zbd t F) v s' l' := by
  obtain ⟨M1, e1, h1⟩ := e
  rw [e1]; exact h M1 h1
theorem CG_bv {t : Option ZMem} {F : ZMem → Option (α × ZMem)} (e : CV M0 t s1 l1') (h : ∀ M1, CS M0 M1 s1 l1' → CG M0 (F M1) v s' l') : CG M0 (zb t F) v s' l' := by
  obtain ⟨M1, e1, h1⟩ := e
  rw [e1]; exact h M1 h1
theorem CG_ite {c P : Prop} [Decidable c] {t1 t2 : Option (α × ZMem)} (e : c ↔ P) (h1 : P → CG M0 t1 v s' l') (h2 : ¬ P → CG M0 t2 v s' l') : CG M0 (if c then t1 else t2) v s' l' := by
  by_cases hc : c
  · rw [if_pos hc]; exact h1 (e.mp hc)
  · rw [if_neg hc]; exact h2 (fun q => hc (e.mpr q))
end ZCG
/-- a new block in the yard that holds -/
theorem blM_at {M : ZMem} {o : Nat} {k v t : Int32} : (zI (blM M o k v t) o 1 = k ∧ zI (blM M o k v t) o 2 = v ∧ zI (blM M o k v t) o 3 = t ∧ zI (blM M o k v t) o 4 = 0 ∧ zI (blM M o k v t) o 5 = 0) ∧ (∀ r, r < 4 → zI (blM M o k v t) (o + 1) r = 0) ∧ (∀ p, p ≠ o → p ≠ o + 1 → ∀ j, zI (blM M o k v t) p j = zI M p j) ∧ zI (blM M o k v t) o 0 = zI M o 0 := by
  unfold blM
  refine ⟨?_, ?_, ?_, ?_⟩
  · simp [zI_pI]
  · intro r hr
    have : r = 0 ∨ r = 1 ∨ r = 2 ∨ r = 3 := by omega
    rcases this with rfl | rfl | rfl | rfl <;> simp [zI_pI]
  · intro p h1 h2 j
    simp [zI_pI, h1, h2]
  · simp [zI_pI]
theorem st13_b {s : ZSt} {k v t : Int} : st13 s k v t 133 0 = s 133 0 + 1 ∧ (∀ q, (q < 133 ∨ 139 < q) → st13 s k v t q = s q) ∧ (∀ j, j ≠ 0 → st13 s k v t 133 j = s 133 j) ∧ (∀ q b, b ≠ (s 133 0).toNat → 134 ≤ q → q ≤ 138 → st13 s k v t q b = s q b) ∧ (∀ j, (j < 4 * (s 133 0).toNat ∨ 4 * (s 133 0).toNat + 3 < j) → st13 s k v t 139 j = s 139 j) := by
  unfold st13
  refine ⟨up_at, fun q hq => ?_, fun j hj => ?_, fun q b hb h1 h2 => ?_, fun j hj => ?_⟩
  · funext j
    simp only [up_ne (show q ≠ 134 by omega), up_ne (show q ≠ 135 by omega), up_ne (show q ≠ 136 by omega), up_ne (show q ≠ 137 by omega), up_ne (show q ≠ 138 by omega), up_ne (show q ≠ 139 by omega), up_ne (show q ≠ 133 by omega)]
  · simp only [up_nk hj, up_ne (show 133 ≠ 134 by omega), up_ne (show 133 ≠ 135 by omega), up_ne (show 133 ≠ 136 by omega), up_ne (show 133 ≠ 137 by omega), up_ne (show 133 ≠ 138 by omega), up_ne (show 133 ≠ 139 by omega)]
  · simp only [up_nk hb, up_ne (show q ≠ 139 by omega), up_ne (show q ≠ 133 by omega)]
  · simp only [up_ne (show 139 ≠ 133 by omega), up_ne (show 139 ≠ 134 by omega), up_ne (show 139 ≠ 135 by omega), up_ne (show 139 ≠ 136 by omega), up_ne (show 139 ≠ 137 by omega), up_ne (show 139 ≠ 138 by omega), up_nk (show j ≠ 4 * (s 133 0).toNat + 3 by omega), up_nk (show j ≠ 4 * (s 133 0).toNat + 2 by omega), up_nk (show j ≠ 4 * (s 133 0).toNat + 1 by omega), up_nk (show j ≠ 4 * (s 133 0).toNat by omega)]
theorem st13_n {s : ZSt} {k v t : Int} : (st13 s k v t 134 (s 133 0).toNat = k ∧ st13 s k v t 135 (s 133 0).toNat = v ∧ st13 s k v t 136 (s 133 0).toNat = t ∧ st13 s k v t 137 (s 133 0).toNat = 0 ∧ st13 s k v t 138 (s 133 0).toNat = 0) ∧ ∀ r, r < 4 → st13 s k v t 139 (4 * (s 133 0).toNat + r) = 0 := by
  unfold st13
  refine ⟨?_, ?_⟩
  · simp [up_eq]
  · intro r hr
    have : r = 0 ∨ r = 1 ∨ r = 2 ∨ r = 3 := by omega
    rcases this with rfl | rfl | rfl | rfl <;> simp [up_eq]
theorem RC_new {M : ZMem} {s : ZSt} {l : Nat → Int64} (h : RC M s l) (hi : SI6 s) (hn : s 133 0 < 6) {k v t : Int} : RC (blM (zpI M 22 1 (ii (s 133 0 + 1))) (24 + 2 * (s 133 0).toNat) (ii k) (ii v) (ii t)) (st13 s k v t) l := by
  have h0 := hi.1.1
  have h9 := hi.1.2.2.2.1
  obtain ⟨b1, b2, b3, b4⟩ := blM_at (M := zpI M 22 1 (ii (s 133 0 + 1))) (o := 24 + 2 * (s 133 0).toNat) (k := ii k) (v := ii v) (t := ii t)
  obtain ⟨e1, e2, e3, e4, e5⟩ := st13_b (s := s) (k := k) (v := v) (t := t)
  refine RC_yd h ⟨h0.2, hi.2, h9.2⟩ (fun p hp hq => ⟨fun j => ?_, fun j => rfl⟩) (fun b hb => ?_) e2 (fun j hj => e3 j (by omega)) ?_ ?_
  · rw [b3 p (by omega) (by omega), zI_ne hp]
  · by_cases hbn : b = (s 133 0).toNat
    · rw [hbn, b4, zI_ne (by omega)]
    · rw [b3 _ (by omega) (by omega), zI_ne (by omega)]
  · obtain ⟨y1, y2, y3, y4⟩ := h.1.1
    refine ⟨?_, ?_, ?_, ?_⟩ <;> rw [b3 _ (by omega) (by omega)]
    · rw [zI_at, e1]
    · rw [zI_nk (by omega), e3 _ (by omega)]; exact y2
    · rw [zI_nk (by omega), e3 _ (by omega)]; exact y3
    · rw [zI_nk (by omega), e3 _ (by omega)]; exact y4
  · intro b hb
    rw [e1] at hb
    by_cases hbn : b = (s 133 0).toNat
    · subst hbn
      obtain ⟨n1, n2⟩ := st13_n (s := s) (k := k) (v := v) (t := t)
      refine ⟨?_, fun r hr => ?_⟩
      · simp only [Nat.add_zero, n1.1, n1.2.1, n1.2.2.1, n1.2.2.2.1, n1.2.2.2.2]
        exact b1
      · rw [b2 r hr, Nat.add_zero, n2 r hr]; rfl
    · obtain ⟨o1, o2⟩ := h.1.2.1 b (by omega)
      refine ⟨?_, fun r hr => ?_⟩
      · simp only [b3 _ (show 24 + 2 * b ≠ 24 + 2 * (s 133 0).toNat by omega) (by omega), zI_ne (show 24 + 2 * b ≠ 22 by omega), Nat.add_zero, e4 134 b hbn (by omega) (by omega), e4 135 b hbn (by omega) (by omega), e4 136 b hbn (by omega) (by omega), e4 137 b hbn (by omega) (by omega), e4 138 b hbn (by omega) (by omega)]
        exact o1
      · rw [b3 _ (by omega) (by omega), zI_ne (by omega), Nat.add_zero, e5 _ (by omega)]; exact o2 r hr
theorem kBn {b : Nat} (hb : b < 6) : zokT 1 (24 + 2 * b) = true := kB (y := 22) (by decide) hb
/-- the blocks' own numbers -/
theorem zCt_b : ∀ b : Nat, b < 6 → (24 + 2 * b, 0, ii (b : Int)) ∈ zCt := by decide +kernel
theorem m13 {M0 M : ZMem} {s : ZSt} {l : Nat → Int64} (h : CS M0 M s l) (hi : SI6 s) {k v t : Int} (hk : -2147483648 ≤ k ∧ k < 2147483648) (hv : -2147483648 ≤ v ∧ v < 2147483648) (ht : -2147483648 ≤ t ∧ t < 2147483648) : CG M0 (f_13 M 20 (ii k) (ii v) (ii t)) (ii (sp13 s k v t).1) (sp13 s k v t).2 l := by
  have hn := hi.1.1
  obtain ⟨hL, hU, hR⟩ := id h
  unfold f_13 sp13
  rw [if_pos (zok_ly hL k20)]
  refine CG_eq (c14i (b := 0) (c := 6) hk (by omega) (by omega)) (CG_ite (tsn _) (fun c1 => ?_) fun c1 => ?_)
  · rw [if_pos c1]
    refine CG_eq (c14i (b := 0) (c := 9) hv (by omega) (by omega)) (CG_ite (tst _) (fun c2 => ?_) fun c2 => ?_)
    · rw [if_neg c2]; exact CG_ret h
    · have c2 := Decidable.not_not.mp c2
      rw [if_pos c2]
      refine CG_eq (c14i (b := 1) (c := 60) ht (by omega) (by omega)) (CG_ite (tsn _) (fun c3 => ?_) fun c3 => ?_)
      · rw [if_pos c3]
        refine CG_eq (gnow hL) (CG_eq rfl (CG_eq (gyd hL) (CG_eq rfl ?_)))
        rw [c15 hL hR.1.1.1 hn]
        by_cases c4 : s 133 0 = 6
        · rw [if_neg (by omega), if_pos c4]; exact CG_ret h
        · rw [if_pos (show s 133 0 < 6 by omega), if_neg c4, zbd_some, zcs_so _ _ _ (by omega), c16 hL.p (by omega), zb_some]
          have hb6 : (s 133 0).toNat < 6 := by omega
          have hR' := RC_new hR hi (show s 133 0 < 6 by omega) (k := k) (v := v) (t := t)
          have hL' : Ly (blM (zpI M 22 1 (ii (s 133 0 + 1))) (24 + 2 * (s 133 0).toNat) (ii k) (ii v) (ii t)) := hL.p.p.p.p.p.p.p.p.p.p
          rw [gI hL' (kBn hb6) (by decide), zb_some]
          have e0 := hR'.1.2.2 _ (zCt_b _ hb6)
          refine ⟨_, ?_, hL', ((((((((((hU.pI ?_).pI ?_).pI ?_).pI ?_).pI ?_).pI ?_).pI ?_).pI ?_).pI ?_).pI ?_), hR'⟩
          · rw [e0, show (((s 133 0).toNat : Nat) : Int) = s 133 0 by omega]
          all_goals omega
      · rw [if_neg c3]; exact CG_ret h
  · rw [if_neg c1]; exact CG_ret h
