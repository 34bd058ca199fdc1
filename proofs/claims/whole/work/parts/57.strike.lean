/-! STRIKE -/
def st50 (s : ZSt) (k : Nat) (x t : Int) : ZSt :=
  let n := (s 133 0).toNat
  up (up (up (up (up (up (up (up (up (up (up (up s 138 k (s 138 k + 1)) 136 k x) 134 n (s 134 k)) 135 n (s 135 k)) 136 n (t - x)) 137 n (s 137 k)) 138 n 0) 139 (4 * n) (s 139 (4 * k))) 139 (4 * n + 1) (s 139 (4 * k + 1))) 139 (4 * n + 2) (s 139 (4 * k + 2))) 139 (4 * n + 3) (s 139 (4 * k + 3))) 133 0 (s 133 0 + 1)
theorem st50_v {s : ZSt} {k n : Nat} {x t : Int} (hn : (s 133 0).toNat = n) (hk : k < n) : (st50 s k x t 133 0 = s 133 0 + 1 ∧ ∀ j, j ≠ 0 → st50 s k x t 133 j = s 133 j) ∧ (∀ q, (q < 133 ∨ 139 < q) → st50 s k x t q = s q) ∧ (∀ c, st50 s k x t 134 c = if c = n then s 134 k else s 134 c) ∧ (∀ c, st50 s k x t 135 c = if c = n then s 135 k else s 135 c) ∧ (∀ c, st50 s k x t 136 c = if c = n then t - x else if c = k then x else s 136 c) ∧ (∀ c, st50 s k x t 137 c = if c = n then s 137 k else s 137 c) ∧ (∀ c, st50 s k x t 138 c = if c = n then 0 else if c = k then s 138 k + 1 else s 138 c) ∧ (∀ r, r < 4 → st50 s k x t 139 (4 * n + r) = s 139 (4 * k + r)) ∧ ∀ j, (j < 4 * n ∨ 4 * n + 3 < j) → st50 s k x t 139 j = s 139 j := by
  unfold st50
  simp only [hn]
  refine ⟨⟨up_at, fun j hj => ?_⟩, fun q hq => ?_, fun c => ?_, fun c => ?_, fun c => ?_, fun c => ?_, fun c => ?_, fun r hr => ?_, fun j hj => ?_⟩
  · simp (disch := omega) only [up_nk, up_ne]
  · funext j
    simp (disch := omega) only [up_ne]
  · by_cases h : c = n
    · subst h; simp (disch := omega) only [up_ne, up_at, if_true]
    · simp (disch := omega) only [up_ne, up_nk, if_neg h]
  · by_cases h : c = n
    · subst h; simp (disch := omega) only [up_ne, up_at, if_true]
    · simp (disch := omega) only [up_ne, up_nk, if_neg h]
  · by_cases h : c = n
    · subst h; simp (disch := omega) only [up_ne, up_at, if_true]
    · by_cases g : c = k
      · subst g; simp (disch := omega) only [up_ne, up_nk, up_at, if_neg h, if_true]
      · simp (disch := omega) only [up_ne, up_nk, if_neg h, if_neg g]
  · by_cases h : c = n
    · subst h; simp (disch := omega) only [up_ne, up_at, if_true]
    · simp (disch := omega) only [up_ne, up_nk, if_neg h]
  · by_cases h : c = n
    · subst h; simp (disch := omega) only [up_ne, up_at, if_true]
    · by_cases g : c = k
      · subst g; simp (disch := omega) only [up_ne, up_nk, up_at, if_neg h, if_true]
      · simp (disch := omega) only [up_ne, up_nk, if_neg h, if_neg g]
  · have : r = 0 ∨ r = 1 ∨ r = 2 ∨ r = 3 := by omega
    rcases this with rfl | rfl | rfl | rfl <;> simp (disch := omega) only [up_ne, up_nk, up_at, Nat.add_zero]
  · simp (disch := omega) only [up_ne, up_nk]
def stM (N : ZMem) (s : ZSt) (k n : Nat) (x t : Int) : ZMem := zpI (zpI (cpM (zpI (zpI (zpI N 22 1 (ii (s 133 0 + 1))) (24 + 2 * k) 5 (ii (s 138 k + 1))) (24 + 2 * k) 3 (ii x)) (24 + 2 * n) (24 + 2 * k)) (24 + 2 * n) 3 (ii (t - x))) (24 + 2 * n) 5 (ii 0)
theorem RC_split {N : ZMem} {s : ZSt} {l : Nat → Int64} (h : RC N s l) (hi : SI6 s) {k n : Nat} (hn : (s 133 0).toNat = n) (hn6 : s 133 0 < 6) (hk : k < n) {x t : Int} : RC (stM N s k n x t) (st50 s k x t) l := by
  have h0 := hi.1.1
  have h9 := hi.1.2.2.2.1
  obtain ⟨⟨S0, S3⟩, Sq, S134, S135, S136, S137, S138, S139, S139'⟩ := st50_v (s := s) (k := k) (n := n) (x := x) (t := t) hn hk
  have C := cp_at (M := zpI (zpI (zpI N 22 1 (ii (s 133 0 + 1))) (24 + 2 * k) 5 (ii (s 138 k + 1))) (24 + 2 * k) 3 (ii x)) (o := 24 + 2 * n) (q := 24 + 2 * k) (by omega)
  obtain ⟨C1, C0, C2, C3, CL, CR⟩ := C
  have eo : ∀ p j, p ≠ 24 + 2 * n → zI (stM N s k n x t) p j = zI (cpM (zpI (zpI (zpI N 22 1 (ii (s 133 0 + 1))) (24 + 2 * k) 5 (ii (s 138 k + 1))) (24 + 2 * k) 3 (ii x)) (24 + 2 * n) (24 + 2 * k)) p j := fun p j hp => by
    unfold stM
    rw [zI_ne hp, zI_ne hp]
  refine RC_yd h ⟨h0.2, hi.2, h9.2⟩ (fun p hp1 hp2 => ⟨fun j => ?_, fun j => ?_⟩) (fun b hb => ?_) Sq (fun j hj => S3 j (by omega)) ?_ ?_
  · rw [eo p j (by omega), C3 p (by omega) (by omega)]
    simp (disch := omega) only [zI_ne]
  · unfold stM
    rw [zL_pI, zL_pI, CL, zL_pI, zL_pI, zL_pI]
  · by_cases g : b = n
    · subst g
      unfold stM
      rw [zI_nk (by omega), zI_nk (by omega), C0]
      simp (disch := omega) only [zI_ne]
    · rw [eo _ _ (by omega), C3 _ (by omega) (by omega)]
      simp (disch := omega) only [zI_ne, zI_nk]
  · obtain ⟨y1, y2, y3, y4⟩ := h.1.1
    refine ⟨?_, ?_, ?_, ?_⟩
    · rw [eo _ _ (by omega), C3 _ (by omega) (by omega), zI_ne (by omega), zI_ne (by omega), zI_at, S0]
    · rw [eo _ _ (by omega), C3 _ (by omega) (by omega), zI_ne (by omega), zI_ne (by omega), zI_nk (by omega), S3 2 (by omega)]; exact y2
    · rw [eo _ _ (by omega), C3 _ (by omega) (by omega), zI_ne (by omega), zI_ne (by omega), zI_nk (by omega), S3 1 (by omega)]; exact y3
    · rw [eo _ _ (by omega), C3 _ (by omega) (by omega), zI_ne (by omega), zI_ne (by omega), zI_nk (by omega), S3 10 (by omega)]; exact y4
  · intro c hc
    rw [S0] at hc
    have hkB := h.1.2.1 k (by omega)
    obtain ⟨⟨k1, k2, k3, k4, k5⟩, k6⟩ := hkB
    simp only [Nat.add_zero] at k1 k2 k3 k4 k5 k6
    unfold Bk
    simp only [Nat.add_zero, S134, S135, S136, S137, S138]
    by_cases g : c = n
    · subst g
      simp only [if_true]
      refine ⟨⟨?_, ?_, ?_, ?_, ?_⟩, fun r hr => ?_⟩
      · unfold stM
        rw [zI_nk (by omega), zI_nk (by omega), C1 1 (by omega) (by omega)]
        simp (disch := omega) only [zI_nk, zI_ne]; exact k1
      · unfold stM
        rw [zI_nk (by omega), zI_nk (by omega), C1 2 (by omega) (by omega)]
        simp (disch := omega) only [zI_nk, zI_ne]; exact k2
      · unfold stM
        rw [zI_nk (by omega), zI_at]
      · unfold stM
        rw [zI_nk (by omega), zI_nk (by omega), C1 4 (by omega) (by omega)]
        simp (disch := omega) only [zI_nk, zI_ne]; exact k4
      · unfold stM
        rw [zI_at]
      · rw [eo _ _ (by omega), C2 r hr, S139 r hr]
        simp (disch := omega) only [zI_ne]; exact k6 r hr
    · have hcB := h.1.2.1 c (by omega)
      obtain ⟨⟨c1, c2, c3, c4, c5⟩, c6⟩ := hcB
      simp only [Nat.add_zero] at c1 c2 c3 c4 c5 c6
      simp only [if_neg g]
      have row : ∀ r, r < 4 → zI (stM N s k n x t) (24 + 2 * c + 1) r = ii (st50 s k x t 139 (4 * c + r)) := fun r hr => by
        rw [eo _ _ (by omega), C3 _ (by omega) (by omega), S139' _ (by omega)]
        simp (disch := omega) only [zI_ne]; exact c6 r hr
      by_cases d : c = k
      · subst d
        simp only [if_true]
        refine ⟨⟨?_, ?_, ?_, ?_, ?_⟩, row⟩
        · rw [eo _ _ (by omega), C3 _ (by omega) (by omega)]
          simp (disch := omega) only [zI_nk, zI_ne]; exact c1
        · rw [eo _ _ (by omega), C3 _ (by omega) (by omega)]
          simp (disch := omega) only [zI_nk, zI_ne]; exact c2
        · rw [eo _ _ (by omega), C3 _ (by omega) (by omega), zI_at]
        · rw [eo _ _ (by omega), C3 _ (by omega) (by omega)]
          simp (disch := omega) only [zI_nk, zI_ne]; exact c4
        · rw [eo _ _ (by omega), C3 _ (by omega) (by omega), zI_nk (by omega), zI_at]
      · simp only [if_neg d]
        refine ⟨⟨?_, ?_, ?_, ?_, ?_⟩, row⟩
        · rw [eo _ _ (by omega), C3 _ (by omega) (by omega)]
          simp (disch := omega) only [zI_ne]; exact c1
        · rw [eo _ _ (by omega), C3 _ (by omega) (by omega)]
          simp (disch := omega) only [zI_ne]; exact c2
        · rw [eo _ _ (by omega), C3 _ (by omega) (by omega)]
          simp (disch := omega) only [zI_ne]; exact c3
        · rw [eo _ _ (by omega), C3 _ (by omega) (by omega)]
          simp (disch := omega) only [zI_ne]; exact c4
        · rw [eo _ _ (by omega), C3 _ (by omega) (by omega)]
          simp (disch := omega) only [zI_ne]; exact c5
def sp50 (s : ZSt) (b x : Int) : Int × ZSt := if 0 ≤ b ∧ b < s 133 0 then (if 1 ≤ x ∧ x ≤ s 136 b.toNat - 1 then (if s 138 b.toNat < 9999 then (if cle s b.toNat (s 136 b.toNat) x then (if s 133 0 < 6 then (1, st50 s b.toNat x (s 136 b.toNat)) else (-4, s)) else (0, up (up s 138 b.toNat (s 138 b.toNat + 1)) 136 b.toNat (max x (s 136 b.toNat - x)))) else (-3, s)) else (-2, s)) else (-1, s)
theorem m50 {M0 M : ZMem} {s : ZSt} {l : Nat → Int64} (h : CS M0 M s l) (hi : SI6 s) (hh : SH s) (hb' : SIb s) {b x : Int} (hb : -2147483648 ≤ b ∧ b < 2147483648) (hx : -2147483648 ≤ x ∧ x < 2147483648) : CG M0 (f_50 M 20 (ii b) (ii x)) (ii (sp50 s b x).1) (sp50 s b x).2 l := by
  have h0 := hi.1.1
  have h9 := hi.1.2.2.2.1
  have hA := AK_now h.1 h.2.2 hi hh hb'
  have ym : 22 ∈ [22, 49, 75] := by decide
  unfold f_50 sp50
  rw [if_pos (zok_ly h.1 k20), gnow h.1, zb_some, zb_some, gyd h.1, zb_some, zb_some, c19 h.1 (by decide) h.2.2.1.1.1 h0 hb, zb_some]
  by_cases c : 0 ≤ b ∧ b < s 133 0
  · obtain ⟨n, rfl⟩ := Int.eq_ofNat_of_zero_le c.1
    obtain ⟨hb6, hv, hB, hd⟩ := hA.bb c.2
    have v3 := hv.2.2.1
    have v5 := hv.2.2.2.2.1
    simp only [Nat.add_zero] at v3 v5
    have b3 : zI M (22 + 2 + 2 * n) 3 = ii (s 136 n) := hB.1.2.2.1
    have b5 : zI M (22 + 2 + 2 * n) 5 = ii (s 138 n) := hB.1.2.2.2.2
    have B0 := cB h.1 ym hb6
    rw [fnd_some c, zcs_so _ _ _ (by omega), if_pos c, Int.toNat_natCast, B0.2.2.2.2.1, zb_some, b3, show (1 : Int32) = ii 1 from rfl, ii_sub, c14z hx (by omega) (by omega), zb_some]
    by_cases d : 1 ≤ x ∧ x ≤ s 136 n - 1
    · rw [bzT d, if_pos (show ¬ (1 : Int32) = 0 by decide), if_pos d, B0.2.2.2.2.2.2.1, zb_some, b5]
      by_cases e : s 138 n < 9999
      · have hN0 := blw_sc (Sc.rf h.1) (o := 97) (.inl rfl) (K := s 134 n) (g := grp (s 134 n) (s 135 n) (s 137 n)) (ln := lnn s n) (mk := s 135 n + 1)
        have hN := CS_sc h hi hN0
        have e51 := c51 h.1 h.2.2 hi.1 (b := n) c.2 hv (t := s 136 n) (x := x) (by omega) (by omega)
        rw [if_pos (show ii (s 138 n) < 9999 by rw [show (9999 : Int32) = ii 9999 from rfl, ii_lt (by omega) (by omega)]; exact e), if_pos e, e51, zbd_some]
        generalize blwM M 97 (s 134 n) (grp (s 134 n) (s 135 n) (s 137 n)) (lnn s n) (s 135 n + 1) = N at hN0 hN
        have n5 : zI N (22 + 2 + 2 * n) 5 = ii (s 138 n) := (hN0.2.1 _ (by omega) 5).trans b5
        by_cases g : cle s n (s 136 n) x
        · rw [bzT g, if_pos (show ¬ (1 : Int32) = 0 by decide), if_pos g, gnow hN.1, zb_some, zb_some, gyd hN.1, zb_some, zb_some, c15 hN.1 hN.2.2.1.1.1 h0, zbd_some]
          by_cases f : s 133 0 < 6
          · rw [if_pos f, if_pos f]
            obtain ⟨m, hm⟩ : ∃ m : Nat, (s 133 0).toNat = m := ⟨_, rfl⟩
            have R := RC_split hN.2.2 hi (k := n) (n := m) hm f (by omega) (x := x) (t := s 136 n)
            have q0 := hN.1.p (p := 22) (k := 1) (v := ii (s 133 0 + 1))
            have q1 := q0.p (p := 22 + 2 + 2 * n) (k := 5) (v := ii (s 138 n + 1))
            have q2 := q1.p (p := 22 + 2 + 2 * n) (k := 3) (v := ii x)
            have e53 := c53 q2 (y1 := 22) (b1 := m) (y2 := 22) (b2 := n) ym (by omega) ym hb6 (by omega)
            have q3 := cp_ly q2 (o := 22 + 2 + 2 * m) (q := 22 + 2 + 2 * n)
            have q4 := q3.p (p := 22 + 2 + 2 * m) (k := 3) (v := ii (s 136 n - x))
            have Bm3 := cB q3 ym (show m < 6 by omega)
            have Bm4 := cB q4 ym (show m < 6 by omega)
            have Bn0 := cB q0 ym hb6
            have Bn1 := cB q1 ym hb6
            have nn5 : zI (zpI N 22 1 (ii (s 133 0 + 1))) (22 + 2 + 2 * n) 5 = ii (s 138 n) := (zI_ne (by omega)).trans n5
            rw [hm, show 24 + 2 * m = 22 + 2 + 2 * m by omega]
            show CG M0 (zcs (some (22 + 2 + 2 * m)) _ _) _ _ _
            rw [zcs_so _ _ _ (by omega), Bn0.2.2.2.2.2.2.1, zb_some, nn5, ii_add, Bn0.2.2.2.2.2.2.2.2.2.2.2.1, zb_some, Bn1.2.2.2.2.2.2.2.2.2.1, zb_some, e53, zb_some, ii_sub, Bm3.2.2.2.2.2.2.2.2.2.1, zb_some, show (0 : Int32) = ii 0 from rfl, Bm4.2.2.2.2.2.2.2.2.2.2.2.1, zb_some]
            refine ⟨stM N s n m x (s 136 n), ?_, q4.p, ?_, R⟩
            · unfold stM
              rw [show 22 + 2 + 2 * m = 24 + 2 * m by omega, show 22 + 2 + 2 * n = 24 + 2 * n by omega]
            · intro p hp
              have C := cp_at (M := zpI (zpI (zpI N 22 1 (ii (s 133 0 + 1))) (24 + 2 * n) 5 (ii (s 138 n + 1))) (24 + 2 * n) 3 (ii x)) (o := 24 + 2 * m) (q := 24 + 2 * n) (by omega)
              refine ⟨fun j => ?_, fun j => ?_⟩
              · have e1 : zI (stM N s n m x (s 136 n)) p j = zI N p j := by
                  unfold stM
                  rw [zI_ne (by omega), zI_ne (by omega), C.2.2.2.1 p (by omega) (by omega)]
                  simp (disch := omega) only [zI_ne]
                exact e1.trans ((hN.2.1 p hp).1 j)
              · have e1 : zL (stM N s n m x (s 136 n)) p j = zL N p j := by
                  unfold stM
                  rw [zL_pI, zL_pI, C.2.2.2.2.1, zL_pI, zL_pI, zL_pI]
                exact e1.trans ((hN.2.1 p hp).2 j)
          · rw [if_neg f, if_neg f]
            exact CG_ret hN
        · have Bn := cB hN.1 ym hb6
          have q1 := hN.1.p (p := 22 + 2 + 2 * n) (k := 5) (v := ii (s 138 n + 1))
          have Bn1 := cB q1 ym hb6
          rw [bzF g, if_neg (show ¬ ¬ (0 : Int32) = 0 by decide), if_neg g, Bn.2.2.2.2.2.2.1, zb_some, n5, ii_add, Bn.2.2.2.2.2.2.2.2.2.2.2.1, zb_some, ii_sub, c24i (by omega) (by omega), zb_some, Bn1.2.2.2.2.2.2.2.2.2.1, zb_some]
          have R1 := RC_put hN.2.2 ⟨h0.2, hi.2, h9.2⟩ (b := n) (k := 5) (q := 138) (v := s 138 n + 1) hb6 (.inr (.inr (.inr (.inr ⟨rfl, rfl⟩))))
          have R2 := RC_put R1 ⟨by rw [up_ne (by omega)]; exact h0.2, by rw [up_ne (by omega)]; exact hi.2, by rw [up_ne (by omega)]; exact h9.2⟩ (b := n) (k := 3) (q := 136) (v := max x (s 136 n - x)) hb6 (.inr (.inr (.inl ⟨rfl, rfl⟩)))
          refine ⟨_, rfl, q1.p, (hN.2.1.pI (by omega)).pI (by omega), ?_⟩
          rw [show 22 + 2 + 2 * n = 24 + 2 * n by omega]
          exact R2
      · rw [if_neg (show ¬ ii (s 138 n) < 9999 by rw [show (9999 : Int32) = ii 9999 from rfl, ii_lt (by omega) (by omega)]; exact e), if_neg e]
        exact CG_ret h
    · rw [bzF d, if_neg (show ¬ ¬ (0 : Int32) = 0 by decide), if_neg d]
      exact CG_ret h
  · rw [fnd_none c, zcs_no, if_neg c]
    exact CG_ret h
