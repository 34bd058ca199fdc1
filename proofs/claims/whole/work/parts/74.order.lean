/-! ORDER, the reference's search -/
def sms (W : Nat → Nat → Int) (k p : Nat) : Nat → Int
  | 0 => 0
  | j + 1 => sms W k p j + W (dgt k p j) j
theorem sms_l {W : Nat → Nat → Int} {k p : Nat} : ∀ j, j ≤ k → sms W (k + 1) p j = sms W k (p / 6) j := by
  intro j
  induction j with
  | zero => intro _; rfl
  | succ j ih =>
    intro h
    rw [sms, sms, ih (by omega), dgt, if_neg (by omega)]
theorem sms_v {W : Nat → Nat → Int} : ∀ k p, sms W k p k = smv W k p := by
  intro k
  induction k with
  | zero => intro p; rfl
  | succ k ih =>
    intro p
    rw [sms, sms_l k (Nat.le_refl k), ih, smv, dgt, if_pos rfl]
theorem smv_b {W : Nat → Nat → Int} (hW : ∀ i d, 0 ≤ W i d ∧ W i d ≤ 60000) : ∀ k p, 0 ≤ smv W k p ∧ smv W k p ≤ 60000 * (k : Int) := by
  intro k
  induction k with
  | zero => intro p; exact ⟨Int.le_refl _, Int.le_refl _⟩
  | succ k ih =>
    intro p
    have := ih (p / 6)
    have := hW (p % 6) k
    rw [smv]; omega
theorem dgl_g : ∀ k p, (dgl k p).length = k ∧ ∀ j, j < k → (dgl k p).getD j 0 = dgt k p j := by
  intro k
  induction k with
  | zero => intro p; exact ⟨rfl, fun j hj => by omega⟩
  | succ k ih =>
    intro p
    obtain ⟨a, b⟩ := ih (p / 6)
    rw [dgl]
    refine ⟨by simp [a], fun j hj => ?_⟩
    rw [dgt]
    by_cases c : j = k
    · subst c
      rw [if_pos rfl, gd_app2 (by omega), a, Nat.sub_self]
      rfl
    · rw [if_neg c, gd_app1 (by omega)]
      exact b j (by omega)
/-- what the search holds -/
def SV (s : ZSt) (a : Int × List Nat) (g : ZSt) : Prop := GF s (om s) 0 g ∧ (-1 ≤ a.1 ∧ a.1 ≤ 400000) ∧ (0 ≤ a.1 → ∀ j, j < om s → g 158 j = (a.2.getD j 0 : Nat))
theorem m201c {M0 : ZMem} {s : ZSt} {r : ZMem → Nat → Int32 → Int32 → Int32 → Int32 → Option (Int32 × ZMem)} {k all best N : Int32} {c : Int} {Q : Option (Int32 × ZMem) → Prop} {g0 : ZSt} (next : ∀ M1 g, MS M0 M1 (ov g c s) → g 156 = g0 156 → (∀ j, j < 6 → g 158 j = g0 157 j) → Q (r M1 133 k all best (N + 1))) : ∀ (n z i : Nat) (M : ZMem) (g : ZSt), MS M0 M (ov g c s) → i + n = 6 → n < z → g 156 = g0 156 → g 157 = g0 157 → (∀ j, j < i → g 158 j = g0 157 j) → Q (f_201_121 r z M 133 k all best N (ii (i : Int))) := by
  intro n
  induction n with
  | zero =>
    intro z i M g h e hz h6 h7 h8
    obtain ⟨w, rfl⟩ : ∃ w, z = w + 1 := ⟨z - 1, by omega⟩
    rw [f_201_121, if_pos (show (6 : Int32) ≤ ii (i : Int) by rw [show i = 6 by omega]; decide)]
    unfold f_201_148
    exact next M g h h6 (fun j hj => h8 j (by omega))
  | succ n ih =>
    intro z i M g h e hz h6 h7 h8
    obtain ⟨w, rfl⟩ : ∃ w, z = w + 1 := ⟨z - 1, by omega⟩
    have x7 := rN h (j := 35) (P := 157) (n := 6) (by decide) (by decide +kernel) (by decide) (fun _ => rfl) (by omega) (b := i) (by omega)
    rw [ov_g (by omega), h7] at x7
    obtain ⟨M1, q1, q2⟩ := wNn h (P := 158) (n := 6) (b := i) (x := g0 157 i) (by decide) (by omega) (by omega)
    rw [up_ov (by omega)] at q2
    rw [f_201_121, if_neg (show ¬ (6 : Int32) ≤ ii (i : Int) by rw [show (6 : Int32) = ii 6 from rfl, ii_le (by omega) (by omega)]; omega), rP h (j := 36) (P := 158) (by decide) (by decide +kernel), zb_some, x7.1, zb_some, zb_some, x7.2, zb_some, zb_some, q1, zb_some, ii_s1]
    refine ih w (i + 1) M1 _ q2 (by omega) (by omega) ((up_fn (by omega)).trans h6) ((up_fn (by omega)).trans h7) (fun j hj => ?_)
    by_cases f : j = i
    · rw [f, up_at]
    · rw [up_nk f]; exact h8 j (by omega)
theorem m201s {M0 M : ZMem} {s : ZSt} (hV : IV s) {r : ZMem → Nat → Int32 → Int32 → Int32 → Int32 → Option (Int32 × ZMem)} {k all : Int32} {N : Nat} {a : Int × List Nat} {Q : Option (Int32 × ZMem) → Prop} {g : ZSt} (h : MS M0 M (ov g ((om s : Nat) : Int) s)) (hS : SV s a g) (hr : (rsv (oP s) (om s) N).isSome = true) (hg : ∀ j, j < om s → g 157 j = (dgt (om s) N j : Nat)) (next : ∀ M1 g, MS M0 M1 (ov g ((om s : Nat) : Int) s) → SV s (ost (oW s) (oP s) (om s) a N) g → Q (r M1 133 k all (ii (ost (oW s) (oP s) (om s) a N).1) (ii (N : Int) + 1))) : ∀ (n z i : Nat), i + n = om s → n < z → Q (f_201_68 r z M 133 k all (ii a.1) (ii (N : Int)) (ii (sms (oW s) (om s) N i)) (ii (i : Int))) := by
  have h0 := hV.1.1.1.1
  obtain ⟨p1, p2, p3⟩ := oP_b hV.1.1.1
  intro n
  induction n with
  | zero =>
    intro z i e hz
    obtain ⟨w, rfl⟩ : ∃ w, z = w + 1 := ⟨z - 1, by omega⟩
    have ei : i = om s := by omega
    have sb := smv_b (W := oW s) (oW_b hV) (om s) N
    rw [ei, sms_v]
    rw [f_201_68, rFx h (j := 37) (by decide) rfl ov_37, zb_some, if_pos (show ii ((om s : Nat) : Int) ≤ ii ((om s : Nat) : Int) by rw [ii_le (by omega) (by omega)]; omega)]
    have eo : ost (oW s) (oP s) (om s) a N = if a.1 < smv (oW s) (om s) N then (smv (oW s) (om s) N, dgl (om s) N) else a := by
      unfold ost
      by_cases c : a.1 < smv (oW s) (om s) N
      · rw [if_pos ⟨hr, c⟩, if_pos c]
      · rw [if_neg (fun q => c q.2), if_neg c]
    rw [eo] at next
    have ba := hS.2.1
    by_cases c : a.1 < smv (oW s) (om s) N
    · rw [if_pos c] at next
      rw [if_pos (show ii a.1 < ii (smv (oW s) (om s) N) by rw [ii_lt (by omega) (by omega)]; exact c)]
      refine m201c (g0 := g) (fun M1 g1 h1 h2 h3 => next M1 g1 h1 ⟨fun x y b1 b2 b3 => ?_, by show -1 ≤ smv (oW s) (om s) N ∧ smv (oW s) (om s) N ≤ 400000; omega, fun _ j hj => ?_⟩) 6 zF 0 M g h (by omega) (by unfold zF; omega) rfl rfl (fun j hj => by omega)
      · rw [h2]; exact hS.1 x y b1 b2 b3
      · rw [h3 j (by omega), hg j hj]
        show _ = (((dgl (om s) N).getD j 0 : Nat) : Int)
        rw [(dgl_g (om s) N).2 j hj]
    · rw [if_neg c] at next
      rw [if_neg (show ¬ ii a.1 < ii (smv (oW s) (om s) N) by rw [ii_lt (by omega) (by omega)]; exact c)]
      unfold f_201_148
      exact next M g h hS
  | succ n ih =>
    intro z i e hz
    obtain ⟨w, rfl⟩ : ∃ w, z = w + 1 := ⟨z - 1, by omega⟩
    have x7 := rN h (j := 35) (P := 157) (n := 6) (by decide) (by decide +kernel) (by decide) (fun _ => rfl) (by omega) (b := i) (by omega)
    rw [ov_g (by omega), hg i (by omega)] at x7
    have d6 : dgt (om s) N i < 6 := by
      have : ∀ k p j, dgt k p j < 6 := by
        intro k
        induction k with
        | zero => intro p j; show 0 < 6; omega
        | succ k ihk =>
          intro p j
          rw [dgt]
          split
          · exact Nat.mod_lt p (by omega)
          · exact ihk _ _
      exact this _ _ _
    have ei : (6 : Int32) * ii (i : Int) + ii ((dgt (om s) N i : Nat) : Int) = ii ((6 * i + dgt (om s) N i : Nat) : Int) := by
      rw [show (6 : Int32) = ii 6 from rfl, ii_mul, ii_add]; rfl
    have x6 := rN h (j := 34) (P := 156) (n := 36) (by decide) (by decide +kernel) (by decide) (fun _ => rfl) (by omega) (b := 6 * i + dgt (om s) N i) (by omega)
    -- the digit is a block's
    have hd : ((dgt (om s) N i : Nat) : Int) < s 133 0 := by
      have key : ∀ k p j, (rsv (oP s) k p).isSome = true → j < k → bt (oP s) (dgt k p j) = true := by
        intro k
        induction k with
        | zero => intro p j _ hj; omega
        | succ k ihk =>
          intro p j hs hj
          rw [rsv] at hs
          cases g1 : rsv (oP s) k (p / 6) with
          | none => rw [g1] at hs; cases hs
          | some R =>
            rw [g1] at hs
            simp only at hs
            rw [dgt]
            by_cases q : j = k
            · rw [if_pos q]
              by_cases bR : bt R (p % 6) = true
              · exact (rsv_p p1 k _ R g1).2.2 _ (Nat.mod_lt p (by omega)) bR
              · rw [if_neg bR] at hs; cases hs
            · rw [if_neg q]
              exact ihk _ _ (by rw [g1]; rfl) (by omega)
      exact ((p3 _ d6).mp (key _ _ _ hr (by omega))).1
    rw [ov_g (by omega), hS.1 _ i hd (by omega) (by omega)] at x6
    rw [f_201_68, rFx h (j := 37) (by decide) rfl ov_37, zb_some, if_neg (show ¬ ii ((om s : Nat) : Int) ≤ ii (i : Int) by rw [ii_le (by omega) (by omega)]; omega), rP h (j := 34) (P := 156) (by decide) (by decide +kernel), zb_some, x7.1, zb_some, zb_some, x7.2, zb_some, zb_some, ei, x6.2, zb_some, ii_add, ii_s1]
    exact ih w (i + 1) (by omega) (by omega)
theorem m201n {M0 : ZMem} {s : ZSt} (hV : IV s) {k : Int} (hk : -1 ≤ k ∧ k ≤ 5) : ∀ (n z N : Nat) (M : ZMem) (g : ZSt), MS M0 M (ov g ((om s : Nat) : Int) s) → SV s (ofr (ost (oW s) (oP s) (om s)) N 0 (-1, [])) g → N + n = 6 ^ om s → n < z → ∃ g' M', f_201_44 z M 133 (ii k) (ii ((6 ^ om s : Nat) : Int)) (ii (ofr (ost (oW s) (oP s) (om s)) N 0 (-1, [])).1) (ii (N : Int)) = some (ii (sp97 s k), M') ∧ MS M0 M' (ov g' ((om s : Nat) : Int) s) := by
  have h0 := hV.1.1.1.1
  obtain ⟨p1, p2, p3⟩ := oP_b hV.1.1.1
  have l6 : 6 ^ om s ≤ 46656 := by
    have : ∀ m : Nat, m ≤ 6 → 6 ^ m ≤ 46656 := by decide
    exact this _ p2
  have all := ofr_all (W := oW s) (oW_b hV) p1 (m := om s) rfl
  intro n
  induction n with
  | zero =>
    intro z N M g h hS e hz
    obtain ⟨w, rfl⟩ : ∃ w, z = w + 1 := ⟨z - 1, by omega⟩
    have eN : N = 6 ^ om s := by omega
    subst eN
    rw [all] at hS ⊢
    have ob := oop_b (W := oW s) (m := om s) (oW_b hV) (om s) (oP s) p1 rfl
    refine ⟨g, M, ?_, h⟩
    generalize 6 ^ om s = B at l6 ⊢
    unfold sp97
    rw [f_201_44, if_pos (show ii (B : Int) ≤ ii (B : Int) by rw [ii_le (by omega) (by omega)]; omega), if_pos hk]
    by_cases d : k < 0
    · rw [if_neg (show ¬ (0 : Int32) ≤ ii k by rw [show (0 : Int32) = ii 0 from rfl, ii_le (by omega) (by omega)]; omega), if_pos d]
    · obtain ⟨q, rfl⟩ := Int.eq_ofNat_of_zero_le (show 0 ≤ k by omega)
      rw [if_pos (show (0 : Int32) ≤ ii (q : Int) by rw [show (0 : Int32) = ii 0 from rfl, ii_le (by omega) (by omega)]; omega), if_neg d, rFx h (j := 37) (by decide) rfl ov_37, zb_some]
      by_cases f : (q : Int) < (om s : Nat)
      · have x8 := rN h (j := 36) (P := 158) (n := 6) (by decide) (by decide +kernel) (by decide) (fun _ => rfl) (by omega) (b := q) (by omega)
        rw [ov_g (by omega), hS.2.2 ob.1 q (by omega)] at x8
        rw [if_neg (show ¬ ii ((om s : Nat) : Int) ≤ ii (q : Int) by rw [ii_le (by omega) (by omega)]; omega), if_pos f, x8.1, zb_some, zb_some, x8.2, zb_some, Int.toNat_natCast]
      · rw [if_pos (show ii ((om s : Nat) : Int) ≤ ii (q : Int) by rw [ii_le (by omega) (by omega)]; omega), if_neg f]
        rfl
  | succ n ih =>
    intro z N M g h hS e hz
    obtain ⟨w, rfl⟩ : ∃ w, z = w + 1 := ⟨z - 1, by omega⟩
    obtain ⟨g1, M1, q1, q2, q3, q4⟩ := m203 hV h (N := N) (by omega)
    have hS1 : SV s (ofr (ost (oW s) (oP s) (om s)) N 0 (-1, [])) g1 := by
      obtain ⟨s1, s2, s3⟩ := hS
      refine ⟨fun x y b1 b2 b3 => ?_, s2, fun t j hj => ?_⟩
      · rw [q3 156 (by omega)]; exact s1 x y b1 b2 b3
      · rw [q3 158 (by omega)]; exact s3 t j hj
    have nx := fun M2 g2 (h2 : MS M0 M2 (ov g2 ((om s : Nat) : Int) s)) => ih w (N + 1) M2 g2 h2
    rw [ofr_end, Nat.zero_add] at nx
    generalize ofr (ost (oW s) (oP s) (om s)) N 0 (-1, []) = a at *
    rw [f_201_44, if_neg (show ¬ ii ((6 ^ om s : Nat) : Int) ≤ ii (N : Int) by rw [ii_le (by omega) (by omega)]; omega), q1, zbd_some]
    by_cases c : (rsv (oP s) (om s) N).isSome = true
    · rw [bzT c, if_pos (show ¬ (1 : Int32) = 0 by decide)]
      have := m201s (M0 := M0) (k := ii k) (all := ii ((6 ^ om s : Nat) : Int)) (r := fun M a0 a1 a2 a3 a4 => f_201_44 w M a0 a1 a2 a3 a4) hV q2 hS1 c (q4 c) (Q := fun t => ∃ g' M', t = some (ii (sp97 s k), M') ∧ MS M0 M' (ov g' ((om s : Nat) : Int) s)) (fun M2 g2 h2 h3 => by
        rw [ii_s1]
        exact nx M2 g2 h2 h3 (by omega) (by omega)) (om s) zF 0 (by omega) (by unfold zF; omega)
      exact this
    · rw [bzF c, if_neg (show ¬ ¬ (0 : Int32) = 0 by decide)]
      unfold f_201_148
      rw [ii_s1]
      have eo : ost (oW s) (oP s) (om s) a N = a := by
        unfold ost
        rw [if_neg (fun q => c q.1)]
      rw [eo] at nx
      exact nx M1 g1 q2 hS1 (by omega) (by omega)
theorem m201p {M0 : ZMem} {s : ZSt} (hV : IV s) {k : Int} (hk : -1 ≤ k ∧ k ≤ 5) : ∀ (n z i : Nat) (M : ZMem) (g : ZSt), MS M0 M (ov g ((om s : Nat) : Int) s) → GF s (om s) 0 g → i + n = om s → n < z → ∃ g' M', f_201_20 z M 133 (ii k) (ii ((6 ^ i : Nat) : Int)) (ii (i : Int)) = some (ii (sp97 s k), M') ∧ MS M0 M' (ov g' ((om s : Nat) : Int) s) := by
  obtain ⟨p1, p2, p3⟩ := oP_b hV.1.1.1
  intro n
  induction n with
  | zero =>
    intro z i M g h hG e hz
    obtain ⟨w, rfl⟩ : ∃ w, z = w + 1 := ⟨z - 1, by omega⟩
    have ei : i = om s := by omega
    subst ei
    have l6 : 6 ^ om s ≤ 46656 := by
      have : ∀ m : Nat, m ≤ 6 → 6 ^ m ≤ 46656 := by decide
      exact this _ p2
    rw [f_201_20, rFx h (j := 37) (by decide) rfl ov_37, zb_some, if_pos (show ii ((om s : Nat) : Int) ≤ ii ((om s : Nat) : Int) by rw [ii_le (by omega) (by omega)]; omega)]
    exact m201n hV hk (6 ^ om s) zF 0 M g h ⟨hG, by show (-1 : Int) ≤ -1 ∧ (-1 : Int) ≤ 400000; omega, fun t => absurd t (show ¬ (0 : Int) ≤ -1 by omega)⟩ (by omega) (by unfold zF; omega)
  | succ n ih =>
    intro z i M g h hG e hz
    obtain ⟨w, rfl⟩ : ∃ w, z = w + 1 := ⟨z - 1, by omega⟩
    have e6 : ii ((6 ^ i : Nat) : Int) * 6 = ii ((6 ^ (i + 1) : Nat) : Int) := by
      rw [show (6 : Int32) = ii 6 from rfl, ii_mul]
      congr 1
    rw [f_201_20, rFx h (j := 37) (by decide) rfl ov_37, zb_some, if_neg (show ¬ ii ((om s : Nat) : Int) ≤ ii (i : Int) by rw [ii_le (by omega) (by omega)]; omega), e6, ii_s1]
    exact ih w (i + 1) M g h hG (by omega) (by omega)
theorem m201 {M0 M : ZMem} {s : ZSt} (h : MS M0 M s) (hV : IV s) {k : Int} (hk : -2147483648 ≤ k ∧ k < 2147483648) : ∃ s', (s' = s ∨ EV (svS s) s') ∧ MG M0 (f_201 M 133 (ii k)) (ii (sp97 (svS s) k)) s' := by
  have hU := IV_ev hV (sv_ev s)
  have h0 := hV.1.1.1.1
  by_cases c : -1 ≤ k ∧ k ≤ 5
  · obtain ⟨M1, q1, q2⟩ := m198 h
    obtain ⟨M2, r1, r2⟩ := wF q2 (j := 37) (x := 0) (by decide) (by decide) (by decide)
    rw [ov_self] at r2
    obtain ⟨g3, M3, t1, t2, t3⟩ := m202c hU (fun n => pb_go h0.2) (svS s 133 0).toNat zF 0 M2 (by
      have e0 : opm (svS s) 0 = 0 := by rw [opm]
      rw [e0, show pc 0 = 0 by decide]
      exact r2) (by have := hU.1.1.1.1; omega) (by have := hU.1.1.1.1; unfold zF; omega)
    have e202 : f_202 M 133 = some M3 := by
      unfold f_202
      rw [if_pos (zok_ly h.1 k133), q1, zb_some, show (0 : Int32) = ii 0 from rfl, r1, zb_some]
      exact t1
    obtain ⟨g4, M4, u1, u2⟩ := m201p hU c (om (svS s)) zF 0 M3 g3 t2 t3 (by omega) (by have := (oP_b hU.1.1.1).2.1; unfold zF; omega)
    refine ⟨_, .inr (ov_ev g4 _ _), M4, ?_, u2⟩
    unfold f_201
    rw [if_pos (zok_ly h.1 k133), show (-1 : Int32) = ii (-1) from rfl, show (5 : Int32) = ii 5 from rfl, c147z h.1 hk (by omega) (by omega), zb_some, bzT c, if_pos (show ¬ (1 : Int32) = 0 by decide), e202, zb_some]
    exact u1
  · refine ⟨s, .inl rfl, ?_⟩
    unfold f_201 sp97
    rw [if_pos (zok_ly h.1 k133), show (-1 : Int32) = ii (-1) from rfl, show (5 : Int32) = ii 5 from rfl, c147z h.1 hk (by omega) (by omega), zb_some, bzF c, if_neg (show ¬ ¬ (0 : Int32) = 0 by decide), if_neg c]
    exact MG_ret h
