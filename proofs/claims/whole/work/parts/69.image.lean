/-! IMAGE, UNDO: the class's side -/
/-- rows told by hand, copied from p's to o's -/
def Fr (o : Nat) (M M' : ZMem) : Prop := Ly M' ∧ (∀ p j, (p < o ∨ o + 3 < p ∨ (p = o ∧ j ≠ 4)) → zI M' p j = zI M p j) ∧ (∀ p j, zL M' p j = zL M p j) ∧ ∀ p j, zR M' p j = zR M p j
def RP (o q L : Nat) : Prop := ((o = 36 ∧ q = 63) ∨ (o = 63 ∧ q = 36)) ∧ L = 6 ∨ ((o = 40 ∧ q = 67) ∨ (o = 67 ∧ q = 40)) ∧ L = 10 ∨ ((o = 44 ∧ q = 71) ∨ (o = 71 ∧ q = 44)) ∧ L = 8
theorem cRw {M : ZMem} (h : Ly M) {o L : Nat} (ho : ((o = 36 ∨ o = 63) ∧ L = 6) ∨ ((o = 40 ∨ o = 67) ∧ L = 10) ∨ ((o = 44 ∨ o = 71) ∧ L = 8)) : zok M 6 o = true ∧ zgi M 6 0 o = some (zI M o 0) ∧ zgi M 6 4 o = some (zI M o 4) ∧ (∀ x, zpf M 6 4 o (.int x) false = some (zpI M o 4 x)) ∧ zgr M 6 1 o = some (some (o + 1)) ∧ zgr M 6 2 o = some (some (o + 2)) ∧ zgr M 6 3 o = some (some (o + 3)) := by
  rcases ho with ⟨rfl | rfl, rfl⟩ | ⟨rfl | rfl, rfl⟩ | ⟨rfl | rfl, rfl⟩ <;> simp only [cW h, implies_true, and_self]
theorem cRs {o L : Nat} (ho : ((o = 36 ∨ o = 63) ∧ L = 6) ∨ ((o = 40 ∨ o = 67) ∧ L = 10) ∨ ((o = 44 ∨ o = 71) ∧ L = 8)) : zSh.getD (o + 1) (0, 0) = (20, L) ∧ zSh.getD (o + 2) (0, 0) = (20, L) ∧ zSh.getD (o + 3) (0, 0) = (20, L) ∧ 20 ≤ o ∧ o < 100 ∧ L ≤ 10 := by
  rcases ho with ⟨rfl | rfl, rfl⟩ | ⟨rfl | rfl, rfl⟩ | ⟨rfl | rfl, rfl⟩ <;> decide +kernel
theorem gL2 : (63, 0, ii 6) ∈ zCt ∧ (67, 0, ii 10) ∈ zCt ∧ (71, 0, ii 8) ∈ zCt := by decide +kernel
theorem cRl {M : ZMem} (hc : RCc M) {o L : Nat} (ho : ((o = 36 ∨ o = 63) ∧ L = 6) ∨ ((o = 40 ∨ o = 67) ∧ L = 10) ∨ ((o = 44 ∨ o = 71) ∧ L = 8)) : zI M o 0 = ii (L : Int) := by
  rcases ho with ⟨rfl | rfl, rfl⟩ | ⟨rfl | rfl, rfl⟩ | ⟨rfl | rfl, rfl⟩
  · exact hc _ gL36
  · exact hc _ gL2.1
  · exact hc _ gL40
  · exact hc _ gL2.2.1
  · exact hc _ gL44
  · exact hc _ gL2.2.2
theorem c126 {M : ZMem} (h : Ly M) (hc : RCc M) {o q L : Nat} (hp : RP o q L) {n : Int} (hn : 0 ≤ n ∧ n ≤ L) (e : zI M q 4 = ii n) : ∃ M', f_126 M o (some q) = some M' ∧ Fr o M M' ∧ zI M' o 4 = ii n ∧ ∀ k : Nat, (k : Int) < n → zI M' (o + 1) k = zI M (q + 1) k ∧ zI M' (o + 2) k = zI M (q + 2) k ∧ zI M' (o + 3) k = zI M (q + 3) k := by
  have ho : ((o = 36 ∨ o = 63) ∧ L = 6) ∨ ((o = 40 ∨ o = 67) ∧ L = 10) ∨ ((o = 44 ∨ o = 71) ∧ L = 8) := by unfold RP at hp; omega
  have hq : ((q = 36 ∨ q = 63) ∧ L = 6) ∨ ((q = 40 ∨ q = 67) ∧ L = 10) ∨ ((q = 44 ∨ q = 71) ∧ L = 8) := by unfold RP at hp; omega
  have hd : o + 3 < q ∨ q + 3 < o := by unfold RP at hp; omega
  obtain ⟨so1, so2, so3, so4, so5, L10⟩ := cRs ho
  obtain ⟨sq1, sq2, sq3, sq4, sq5, -⟩ := cRs hq
  have O := fun N (hN : Ly N) => cRw hN ho
  have Q := fun N (hN : Ly N) => cRw hN hq
  have el := cRl hc ho
  have z1 := fun N (hN : Ly N) => zcopy_ly hN (p := q + 1) (q := o + 1) (n := n) (by omega) (by omega) sq1 so1 (by omega) (by omega)
  have z2 := fun N (hN : Ly N) => zcopy_ly hN (p := q + 2) (q := o + 2) (n := n) (by omega) (by omega) sq2 so2 (by omega) (by omega)
  have z3 := fun N (hN : Ly N) => zcopy_ly hN (p := q + 3) (q := o + 3) (n := n) (by omega) (by omega) sq3 so3 (by omega) (by omega)
  have P1 := h.p (p := o) (k := 4) (v := ii n)
  have P2 := (Ly_cpI (zpI M o 4 (ii n)) (q + 1) 0 (o + 1) 0 n.toNat).mpr P1
  have P3 := (Ly_cpI (zcpI (zpI M o 4 (ii n)) (q + 1) 0 (o + 1) 0 n.toNat) (q + 2) 0 (o + 2) 0 n.toNat).mpr P2
  refine ⟨zcpI (zcpI (zcpI (zpI M o 4 (ii n)) (q + 1) 0 (o + 1) 0 n.toNat) (q + 2) 0 (o + 2) 0 n.toNat) (q + 3) 0 (o + 3) 0 n.toNat, ?_, ⟨(Ly_cpI _ _ _ _ _ _).mpr P3, fun p j hpj => ?_, fun _ _ => rfl, fun _ _ => rfl⟩, ?_, fun k hk => ⟨?_, ?_, ?_⟩⟩
  · have e37 := c37i (M := M) (a := (L : Int)) (b := n) (by omega) (by omega)
    rw [show min (L : Int) n = n by omega] at e37
    have s1 : zI (zpI M o 4 (ii n)) o 4 = ii n := zI_at
    have s2 : zI (zcpI (zpI M o 4 (ii n)) (q + 1) 0 (o + 1) 0 n.toNat) o 4 = ii n := by rw [zI_cp, if_neg (by omega)]; exact s1
    have s3 : zI (zcpI (zcpI (zpI M o 4 (ii n)) (q + 1) 0 (o + 1) 0 n.toNat) (q + 2) 0 (o + 2) 0 n.toNat) o 4 = ii n := by rw [zI_cp, if_neg (by omega)]; exact s2
    unfold f_126
    simp only [O _ h, Q _ h, if_true, zb_some, el, e, e37, O _ P1, Q _ P1, s1, z1 _ P1, O _ P2, Q _ P2, s2, z2 _ P2, O _ P3, Q _ P3, s3, z3 _ P3]
  · rw [zI_cp, if_neg (by omega), zI_cp, if_neg (by omega), zI_cp, if_neg (by omega), zI_pI, if_neg (by omega)]
  · rw [zI_cp, if_neg (by omega), zI_cp, if_neg (by omega), zI_cp, if_neg (by omega), zI_at]
  · rw [zI_cp, if_neg (by omega), zI_cp, if_neg (by omega), zI_cp, if_pos (by omega), zI_ne (by omega), show 0 + (k - 0) = k by omega]
  · rw [zI_cp, if_neg (by omega), zI_cp, if_pos (by omega), zI_cp, if_neg (by omega), zI_ne (by omega), show 0 + (k - 0) = k by omega]
  · rw [zI_cp, if_pos (by omega), zI_cp, if_neg (by omega), zI_cp, if_neg (by omega), zI_ne (by omega), show 0 + (k - 0) = k by omega]
theorem RCc_25 {M M' : ZMem} {B : Nat} (hB : B = 22 ∨ B = 49) (h : RCc M) (e : ∀ p j, (p < B ∨ B + 25 < p ∨ (j = 0 ∧ p ∈ [24, 26, 28, 30, 32, 34, 51, 53, 55, 57, 59, 61, 36, 40, 44, 63, 67, 71])) → zI M' p j = zI M p j) : RCc M' := by
  refine RCc_fr h fun p j hp => e p j ?_
  rcases hp with q | q | q | ⟨q1, q2⟩
  · exact .inl (by omega)
  · exact .inr (.inl (by omega))
  · exact .inr (.inl (by omega))
  · simp only [List.mem_cons, List.not_mem_nil, or_false] at q2 ⊢
    omega
/-- a scene copied: B2's to B1's -/
theorem c125 {M : ZMem} (h : Ly M) (hc : RCc M) {B1 B2 : Nat} (hB : (B1 = 22 ∧ B2 = 49) ∨ (B1 = 49 ∧ B2 = 22)) {n0 n1 n2 n3 : Int} (h0 : 0 ≤ n0 ∧ n0 ≤ 6) (h1 : 0 ≤ n1 ∧ n1 ≤ 6) (h2 : 0 ≤ n2 ∧ n2 ≤ 10) (h3 : 0 ≤ n3 ∧ n3 ≤ 8) (e0 : zI M B2 1 = ii n0) (e1 : zI M (B2 + 14) 4 = ii n1) (e2 : zI M (B2 + 18) 4 = ii n2) (e3 : zI M (B2 + 22) 4 = ii n3) :
    ∃ M', f_125 M (B1 - 1) (some (B2 - 1)) = some M' ∧ (Ly M' ∧ RCc M' ∧ (∀ p j, (p < B1 ∨ B1 + 25 < p) → zI M' p j = zI M p j) ∧ (∀ p j, zL M' p j = zL M p j) ∧ ∀ p j, zR M' p j = zR M p j) ∧
      (∀ k, 1 ≤ k → k ≤ 4 → zI M' B1 k = zI M B2 k) ∧
      (∀ b : Nat, (b : Int) < n0 → (∀ j, 1 ≤ j → j ≤ 5 → zI M' (B1 + 2 + 2 * b) j = zI M (B2 + 2 + 2 * b) j) ∧ ∀ r, r < 4 → zI M' (B1 + 3 + 2 * b) r = zI M (B2 + 3 + 2 * b) r) ∧
      (zI M' (B1 + 14) 4 = ii n1 ∧ ∀ k : Nat, (k : Int) < n1 → zI M' (B1 + 15) k = zI M (B2 + 15) k ∧ zI M' (B1 + 16) k = zI M (B2 + 16) k ∧ zI M' (B1 + 17) k = zI M (B2 + 17) k) ∧
      (zI M' (B1 + 18) 4 = ii n2 ∧ ∀ k : Nat, (k : Int) < n2 → zI M' (B1 + 19) k = zI M (B2 + 19) k ∧ zI M' (B1 + 20) k = zI M (B2 + 20) k) ∧
      (zI M' (B1 + 22) 4 = ii n3 ∧ ∀ k : Nat, (k : Int) < n3 → zI M' (B1 + 23) k = zI M (B2 + 23) k ∧ zI M' (B1 + 24) k = zI M (B2 + 24) k) := by
  have hm1 : B1 ∈ [22, 49, 75] := by rcases hB with ⟨rfl, _⟩ | ⟨rfl, _⟩ <;> decide
  have hm2 : B2 ∈ [22, 49, 75] := by rcases hB with ⟨_, rfl⟩ | ⟨_, rfl⟩ <;> decide
  obtain ⟨M1, a1, a2, a3, a4⟩ := c95 h hm1 hm2 (by omega) h0 e0
  have c1 : RCc M1 := RCc_25 (B := B1) (by omega) hc fun p j hp => a2.2.1 p j (by
    rcases hp with q | q | ⟨q1, q2⟩
    · exact .inl q
    · exact .inr (.inl (by omega))
    · simp only [List.mem_cons, List.not_mem_nil, or_false] at q2
      omega)
  have f1 : ∀ p j, (p < B1 ∨ B1 + 13 < p) → zI M1 p j = zI M p j := fun p j hp => a2.2.1 p j (by omega)
  obtain ⟨M2, b1, b2, b3, b4⟩ := c126 a2.1 c1 (o := B1 + 14) (q := B2 + 14) (L := 6) (by unfold RP; omega) (n := n1) (by omega) ((f1 _ _ (by omega)).trans e1)
  have f2 : ∀ p j, (p < B1 + 14 ∨ B1 + 17 < p) → zI M2 p j = zI M1 p j := fun p j hp => b2.2.1 p j (by omega)
  have c2 : RCc M2 := RCc_25 (B := B1) (by omega) c1 fun p j hp => b2.2.1 p j (by
    rcases hp with q | q | ⟨q1, q2⟩
    · omega
    · omega
    · simp only [List.mem_cons, List.not_mem_nil, or_false] at q2
      omega)
  obtain ⟨M3, d1, d2, d3, d4⟩ := c126 b2.1 c2 (o := B1 + 18) (q := B2 + 18) (L := 10) (by unfold RP; omega) (n := n2) (by omega) ((f2 _ _ (by omega)).trans ((f1 _ _ (by omega)).trans e2))
  have f3 : ∀ p j, (p < B1 + 18 ∨ B1 + 21 < p) → zI M3 p j = zI M2 p j := fun p j hp => d2.2.1 p j (by omega)
  have c3 : RCc M3 := RCc_25 (B := B1) (by omega) c2 fun p j hp => d2.2.1 p j (by
    rcases hp with q | q | ⟨q1, q2⟩
    · omega
    · omega
    · simp only [List.mem_cons, List.not_mem_nil, or_false] at q2
      omega)
  obtain ⟨M4, g1, g2, g3, g4⟩ := c126 d2.1 c3 (o := B1 + 22) (q := B2 + 22) (L := 8) (by unfold RP; omega) (n := n3) (by omega) ((f3 _ _ (by omega)).trans ((f2 _ _ (by omega)).trans ((f1 _ _ (by omega)).trans e3)))
  have f4 : ∀ p j, (p < B1 + 22 ∨ B1 + 25 < p) → zI M4 p j = zI M3 p j := fun p j hp => g2.2.1 p j (by omega)
  have c4 : RCc M4 := RCc_25 (B := B1) (by omega) c3 fun p j hp => g2.2.1 p j (by
    rcases hp with q | q | ⟨q1, q2⟩
    · omega
    · omega
    · simp only [List.mem_cons, List.not_mem_nil, or_false] at q2
      omega)
  have F4 : ∀ p j, (p < B1 + 14 ∨ B1 + 25 < p) → zI M4 p j = zI M1 p j := fun p j hp => (f4 p j (by omega)).trans ((f3 p j (by omega)).trans (f2 p j (by omega)))
  refine ⟨M4, ?_, ⟨g2.1, c4, fun p j hp => (F4 p j (by omega)).trans (f1 p j (by omega)), fun p j => (g2.2.2.1 p j).trans ((d2.2.2.1 p j).trans ((b2.2.2.1 p j).trans (a2.2.2.1 p j))), fun p j => (g2.2.2.2 p j).trans ((d2.2.2.2 p j).trans ((b2.2.2.2 p j).trans (a2.2.2.2 p j)))⟩, fun k k1 k2 => (F4 _ _ (by omega)).trans (a3 k k1 k2), fun b hb => ?_, ⟨?_, fun k hk => ?_⟩, ⟨?_, fun k hk => ?_⟩, ⟨g3, fun k hk => ?_⟩⟩
  · unfold f_125
    rcases hB with ⟨rfl, rfl⟩ | ⟨rfl, rfl⟩
    · simp only [cX h, cX a2.1, cX b2.1, cX d2.1, if_true, zb_some, a1, b1, d1, g1]
    · simp only [cX h, cX a2.1, cX b2.1, cX d2.1, if_true, zb_some, a1, b1, d1, g1]
  · obtain ⟨q1, q2⟩ := a4 b hb
    exact ⟨fun j j1 j2 => (F4 _ _ (by omega)).trans (q1 j j1 j2), fun r hr => (F4 _ _ (by omega)).trans (q2 r hr)⟩
  · exact (f4 _ _ (by omega)).trans ((f3 _ _ (by omega)).trans b3)
  · obtain ⟨q1, q2, q3⟩ := b4 k hk
    exact ⟨(f4 _ _ (by omega)).trans ((f3 _ _ (by omega)).trans (q1.trans (f1 _ _ (by omega)))), (f4 _ _ (by omega)).trans ((f3 _ _ (by omega)).trans (q2.trans (f1 _ _ (by omega)))), (f4 _ _ (by omega)).trans ((f3 _ _ (by omega)).trans (q3.trans (f1 _ _ (by omega))))⟩
  · exact (f4 _ _ (by omega)).trans d3
  · obtain ⟨q1, q2, q3⟩ := d4 k hk
    exact ⟨(f4 _ _ (by omega)).trans (q1.trans ((f2 _ _ (by omega)).trans (f1 _ _ (by omega)))), (f4 _ _ (by omega)).trans (q2.trans ((f2 _ _ (by omega)).trans (f1 _ _ (by omega))))⟩
  · obtain ⟨q1, q2, q3⟩ := g4 k hk
    exact ⟨q1.trans ((f3 _ _ (by omega)).trans ((f2 _ _ (by omega)).trans (f1 _ _ (by omega)))), q2.trans ((f3 _ _ (by omega)).trans ((f2 _ _ (by omega)).trans (f1 _ _ (by omega))))⟩
/-- what an image's state says -/
theorem imX_o {s : ZSt} {p : Nat} (h1 : p ≠ 133) (h2 : p < 166 ∨ 178 < p) : imX s p = s p := by
  unfold imX
  rw [imF_o (by omega)]
  unfold imT
  simp (disch := omega) only [up_fn]
theorem imX_p {s : ZSt} : imX s 133 = imT s 133 := imF_o (by omega)
theorem imX_j {s : ZSt} {j : Nat} (h : j < 48 ∨ 55 < j) : imX s 133 j = s 133 j := by
  rw [imX_p]
  unfold imT
  simp (disch := omega) only [up_nk]
theorem imX_f {s : ZSt} : imX s 133 48 = 1 ∧ imX s 133 49 = s 133 10 ∧ imX s 133 50 = s 133 0 ∧ imX s 133 51 = s 133 1 ∧ imX s 133 52 = s 133 2 ∧ imX s 133 53 = s 133 38 ∧ imX s 133 54 = s 133 42 ∧ imX s 133 55 = s 133 43 := by
  rw [imX_p]
  unfold imT
  simp (disch := omega) only [up_nk, up_at, and_self]
theorem imT_o {s : ZSt} {p : Nat} (h : p ≠ 133) : imT s p = s p := by
  unfold imT
  simp (disch := omega) only [up_fn]
theorem imX_b {s : ZSt} {k : Nat} (h : k < 6) : imX s 166 k = s 134 k ∧ imX s 167 k = s 135 k ∧ imX s 168 k = s 136 k ∧ imX s 169 k = s 137 k ∧ imX s 170 k = s 138 k ∧ imX s 172 k = s 159 k ∧ imX s 173 k = s 160 k ∧ imX s 178 k = nbv (s 161 k) := by
  unfold imX
  rw [imF_166 h, imF_167 h, imF_168 h, imF_169 h, imF_170 h, imF_172 h, imF_173 h, imF_178 h, imT_o (by omega), imT_o (by omega), imT_o (by omega), imT_o (by omega), imT_o (by omega), imT_o (by omega), imT_o (by omega), imT_o (by omega)]
  exact ⟨rfl, rfl, rfl, rfl, rfl, rfl, rfl, rfl⟩
theorem imX_r {s : ZSt} {k : Nat} (h : k < 24) : imX s 171 k = s 139 k := by
  unfold imX
  rw [imF_171 h, imT_o (by omega)]
theorem imX_w {s : ZSt} {k : Nat} (h : k < 10) : imX s 174 k = s 162 k ∧ imX s 175 k = s 163 k := by
  unfold imX
  rw [imF_174 h, imF_175 h, imT_o (by omega), imT_o (by omega)]
  exact ⟨rfl, rfl⟩
theorem imX_k {s : ZSt} {k : Nat} (h : k < 8) : imX s 176 k = s 164 k ∧ imX s 177 k = s 165 k := by
  unfold imX
  rw [imF_176 h, imF_177 h, imT_o (by omega), imT_o (by omega)]
  exact ⟨rfl, rfl⟩
theorem m124 {M0 M : ZMem} {s : ZSt} {l : Nat → Int64} (h : CS M0 M s l) (hV : IV s) : CG M0 (f_124 M 20) (ii (s 133 0)) (imX s) l := by
  have hi := hV.1.1
  have h0 := hi.1.1
  have h9 := hi.1.2.2.2.1
  have h38 := hi.1.2.2.2.2.2.2.1
  have h42 := hi.1.2.2.2.2.2.2.2.1
  have h43 := hi.1.2.2.2.2.2.2.2.2.1
  have hS := hV.2.1.2.2.2
  obtain ⟨⟨r1, r2, r3⟩, ⟨r4, r5, r6⟩, r7, r8, r9, r10, r11⟩ := id h.2.2
  obtain ⟨M1, e, ⟨q1, q2, q3, q4, q5⟩, a1, a2, a3, a4, a5⟩ := c125 h.1 r3 (B1 := 49) (B2 := 22) (.inr ⟨rfl, rfl⟩) h0 h38 h42 h43 r1.1 r4.1 r5.1 r6.1
  have pk : zpf M1 11 2 20 (.int (ii 1)) false = some (zpI M1 20 2 (ii 1)) := zpf_ly q1 k20 (t := 11) (j := 2) ⟨by decide, by decide, by decide, by decide⟩ (by
    rw [show zty 11 2 = .boolean by decide]
    exact ⟨nb1, rfl⟩)
  have L2 := q1.p (p := 20) (k := 2) (v := ii 1)
  have y49 : zI (zpI M1 20 2 (ii 1)) 49 1 = ii (s 133 0) := by
    rw [zI_ne (by omega), a1 1 (by omega) (by omega)]; exact r1.1
  unfold f_124
  simp only [cX h.1, if_true, zb_some, show (1 : Int32) = ii 1 from rfl, show (48 : Nat) = 49 - 1 from rfl, show (21 : Nat) = 22 - 1 from rfl, e, pk]
  simp only [show (49 - 1 : Nat) = 48 from rfl, cX L2, zb_some, y49]
  have fr : ∀ p, (p < 49 ∨ 74 < p) → p ≠ 20 → ∀ j, zI (zpI M1 20 2 (ii 1)) p j = zI M p j := fun p hp hq j => (zI_ne hq).trans (q3 p j (by omega))
  have f20 : ∀ j, 3 ≤ j → zI (zpI M1 20 2 (ii 1)) 20 j = zI M 20 j := fun j hj => (zI_nk (by omega)).trans (q3 20 j (by omega))
  refine ⟨_, rfl, L2, fun p hp => ⟨fun j => (fr p (by omega) (by omega) j).trans ((h.2.1 p hp).1 j), fun j => (q4 p j).trans ((h.2.1 p hp).2 j)⟩, ?_⟩
  have i0 := imX_f (s := s)
  refine ⟨⟨RCy_sf (RCy_fr r1 (fr 22 (by omega) (by omega))) ?_ ?_ ?_ ?_, RCb_sf (RCb_fr r2 h0.2 (fun p p1 p2 => fr p (by omega) (by omega))) ?_ ?_ ?_ ?_ ?_ ?_ ?_, fun w hw => ?_⟩, ⟨RCs_sf (RCs_fr r4 (fr 36 (by omega) (by omega)) (fr 37 (by omega) (by omega)) (fr 38 (by omega) (by omega)) (fr 39 (by omega) (by omega))) ?_ ?_ ?_ ?_, RCw_sf (RCw_fr r5 (fr 40 (by omega) (by omega)) (fr 41 (by omega) (by omega)) (fr 42 (by omega) (by omega)) (fr 43 (by omega) (by omega))) ?_ ?_ ?_, RCk_sf (RCk_fr r6 (fr 44 (by omega) (by omega)) (fr 45 (by omega) (by omega)) (fr 46 (by omega) (by omega)) (fr 47 (by omega) (by omega))) ?_ ?_ ?_⟩, RCt_sf (RCt_fr r7 f20 (fr 89 (by omega) (by omega))) ?_ ?_ ?_, ?_, RCa_sf (RCa_fr r9 (fr 106 (by omega) (by omega)) (fr 107 (by omega) (by omega))) ?_ ?_, RCh_sf (RCh_fr r10 h9.2 (fun p p1 p2 => fr p (by omega) (by omega))) ?_ ?_ ?_ ?_ ?_ ?_ ?_, RCp_sf (RCp_fr r11 (fun p p1 p2 => ⟨fr p (by omega) (by omega), fun j => q4 p j⟩)) ?_ ?_⟩
  all_goals first | exact imX_j (by omega) | exact imX_o (by omega) (by omega) | skip
  · have w1 := zCt_in w hw
    rw [zI_ne]
    · exact q2 w hw
    · intro w2
      rcases w1.2 with w3 | w3 | w3 | w3
      · omega
      · rcases w1.1 with w4 | w4 | w4 | w4
        · exact absurd hw (fun g => by
            have : ∀ e ∈ zCt, e.1 ≠ 20 := by decide +kernel
            exact this w g w2)
        · omega
        · omega
        · exact absurd hw (fun g => by
            have : ∀ e ∈ zCt, e.1 ≠ 20 := by decide +kernel
            exact this w g w2)
      · omega
      · rw [w2] at w3; exact absurd w3 (by decide)
  · refine ⟨?_, fun _ => ⟨⟨?_, ?_, ?_, ?_⟩, fun b hb => ?_, ⟨?_, fun k hk => ?_⟩, ⟨?_, fun k hk => ?_⟩, ⟨?_, fun k hk => ?_⟩⟩⟩
    · rw [zI_at, i0.1]
    · rw [zI_ne (by omega), a1 1 (by omega) (by omega), i0.2.2.1]; exact r1.1
    · rw [zI_ne (by omega), a1 2 (by omega) (by omega), i0.2.2.2.2.1]; exact r1.2.1
    · rw [zI_ne (by omega), a1 3 (by omega) (by omega), i0.2.2.2.1]; exact r1.2.2.1
    · rw [zI_ne (by omega), a1 4 (by omega) (by omega), i0.2.1]; exact r1.2.2.2
    · rw [i0.2.2.1] at hb
      obtain ⟨⟨b1, b2, b3, b4, b5⟩, b6⟩ := r2 b hb
      obtain ⟨g1, g2⟩ := a2 b hb
      simp only [Nat.add_zero] at b1 b2 b3 b4 b5 b6
      rw [show 24 + 2 * b = 22 + 2 + 2 * b by omega] at b1 b2 b3 b4 b5 b6
      obtain ⟨x1, x2, x3, x4, x5, -⟩ := imX_b (s := s) (k := b) (by omega)
      refine ⟨⟨?_, ?_, ?_, ?_, ?_⟩, fun r hr => ?_⟩
      · rw [zI_ne (by omega), show 51 + 2 * b = 49 + 2 + 2 * b by omega, g1 1 (by omega) (by omega)]
        show _ = ii (imX s 166 b)
        rw [x1]; exact b1
      · rw [zI_ne (by omega), show 51 + 2 * b = 49 + 2 + 2 * b by omega, g1 2 (by omega) (by omega)]
        show _ = ii (imX s 167 b)
        rw [x2]; exact b2
      · rw [zI_ne (by omega), show 51 + 2 * b = 49 + 2 + 2 * b by omega, g1 3 (by omega) (by omega)]
        show _ = ii (imX s 168 b)
        rw [x3]; exact b3
      · rw [zI_ne (by omega), show 51 + 2 * b = 49 + 2 + 2 * b by omega, g1 4 (by omega) (by omega)]
        show _ = ii (imX s 169 b)
        rw [x4]; exact b4
      · rw [zI_ne (by omega), show 51 + 2 * b = 49 + 2 + 2 * b by omega, g1 5 (by omega) (by omega)]
        show _ = ii (imX s 170 b)
        rw [x5]; exact b5
      · rw [zI_ne (by omega), show 51 + 2 * b + 1 = 49 + 3 + 2 * b by omega, g2 r hr]
        show _ = ii (imX s 171 (4 * b + r))
        rw [imX_r (by omega), show 22 + 3 + 2 * b = 22 + 2 + 2 * b + 1 by omega]
        exact b6 r hr
    · rw [zI_ne (by omega), a3.1, i0.2.2.2.2.2.1]
    · rw [i0.2.2.2.2.2.1] at hk
      obtain ⟨g1, g2, g3⟩ := a3.2 k hk
      obtain ⟨b1, b2, b3⟩ := r4.2 k hk
      obtain ⟨-, -, -, -, -, x6, x7, x8⟩ := imX_b (s := s) (k := k) (by omega)
      rw [zI_ne (by omega), zI_ne (by omega), zI_ne (by omega), g1, g2, g3, x6, x7, x8, nbv_01 (hS k hk).2.2]
      exact ⟨b1, b2, b3⟩
    · rw [zI_ne (by omega), a4.1, i0.2.2.2.2.2.2.1]
    · rw [i0.2.2.2.2.2.2.1] at hk
      obtain ⟨g1, g2⟩ := a4.2 k hk
      obtain ⟨b1, b2⟩ := r5.2 k hk
      obtain ⟨x1, x2⟩ := imX_w (s := s) (k := k) (by omega)
      rw [zI_ne (by omega), zI_ne (by omega), g1, g2, x1, x2]
      exact ⟨b1, b2⟩
    · rw [zI_ne (by omega), a5.1, i0.2.2.2.2.2.2.2]
    · rw [i0.2.2.2.2.2.2.2] at hk
      obtain ⟨g1, g2⟩ := a5.2 k hk
      obtain ⟨b1, b2⟩ := r6.2 k hk
      obtain ⟨x1, x2⟩ := imX_k (s := s) (k := k) (by omega)
      rw [zI_ne (by omega), zI_ne (by omega), g1, g2, x1, x2]
      exact ⟨b1, b2⟩
/-- all as the image -/
theorem unT_o {s : ZSt} {p : Nat} (h : p ≠ 133) : unT s p = s p := by
  unfold unT
  simp (disch := omega) only [up_fn]
theorem unX_o {s : ZSt} {p : Nat} (h1 : p ≠ 133) (h2 : p < 134 ∨ (139 < p ∧ p < 159) ∨ 165 < p) : unX s p = s p := by
  unfold unX
  rw [unF_o (by omega), unT_o h1]
theorem unX_p {s : ZSt} : unX s 133 = unT s 133 := unF_o (by omega)
theorem unX_j {s : ZSt} {j : Nat} (h : j ≠ 0 ∧ j ≠ 1 ∧ j ≠ 2 ∧ j ≠ 10 ∧ j ≠ 38 ∧ j ≠ 42 ∧ j ≠ 43) : unX s 133 j = s 133 j := by
  rw [unX_p]
  unfold unT
  simp (disch := omega) only [up_nk]
theorem unX_f {s : ZSt} : unX s 133 10 = s 133 49 ∧ unX s 133 0 = s 133 50 ∧ unX s 133 1 = s 133 51 ∧ unX s 133 2 = s 133 52 ∧ unX s 133 38 = s 133 53 ∧ unX s 133 42 = s 133 54 ∧ unX s 133 43 = s 133 55 := by
  rw [unX_p]
  unfold unT
  simp (disch := omega) only [up_nk, up_at, and_self]
theorem unX_b {s : ZSt} {k : Nat} (h : k < 6) : unX s 134 k = s 166 k ∧ unX s 135 k = s 167 k ∧ unX s 136 k = s 168 k ∧ unX s 137 k = s 169 k ∧ unX s 138 k = s 170 k ∧ unX s 159 k = s 172 k ∧ unX s 160 k = s 173 k ∧ unX s 161 k = nbv (s 178 k) := by
  unfold unX
  rw [unF_134 h, unF_135 h, unF_136 h, unF_137 h, unF_138 h, unF_159 h, unF_160 h, unF_161 h, unT_o (by omega), unT_o (by omega), unT_o (by omega), unT_o (by omega), unT_o (by omega), unT_o (by omega), unT_o (by omega), unT_o (by omega)]
  exact ⟨rfl, rfl, rfl, rfl, rfl, rfl, rfl, rfl⟩
theorem unX_r {s : ZSt} {k : Nat} (h : k < 24) : unX s 139 k = s 171 k := by
  unfold unX
  rw [unF_139 h, unT_o (by omega)]
theorem unX_w {s : ZSt} {k : Nat} (h : k < 10) : unX s 162 k = s 174 k ∧ unX s 163 k = s 175 k := by
  unfold unX
  rw [unF_162 h, unF_163 h, unT_o (by omega), unT_o (by omega)]
  exact ⟨rfl, rfl⟩
theorem unX_k {s : ZSt} {k : Nat} (h : k < 8) : unX s 164 k = s 176 k ∧ unX s 165 k = s 177 k := by
  unfold unX
  rw [unF_164 h, unF_165 h, unT_o (by omega), unT_o (by omega)]
  exact ⟨rfl, rfl⟩
theorem m127 {M0 M : ZMem} {s : ZSt} {l : Nat → Int64} (h : CS M0 M s l) (hV : IV s) : CG M0 (f_127 M 20) (ii (sp127 s).1) (sp127 s).2 l := by
  have hi := hV.1.1
  have h9 := hi.1.2.2.2.1
  have h48 := hi.1.2.2.2.2.2.2.2.2.2.1
  obtain ⟨⟨r1, r2, r3⟩, ⟨r4, r5, r6⟩, r7, r8, r9, r10, r11⟩ := id h.2.2
  unfold f_127 sp127
  simp only [cX h.1, if_true, zb_some, r8.1]
  by_cases c : s 133 48 = 0
  · rw [if_neg (show ¬ ¬ ii (s 133 48) = 0 by rw [c]; decide), if_pos c]
    exact CG_ret h
  have c1 : s 133 48 = 1 := by omega
  rw [if_pos (show ¬ ii (s 133 48) = 0 by rw [c1]; decide), if_neg c]
  obtain ⟨⟨v0, v1, v2, v3, v4, v5, v6⟩, v7, v8, v9, v10⟩ := hV.2.2 c1
  obtain ⟨o1, o2, o3, o4, o5⟩ := r8.2 c1
  obtain ⟨M1, e, ⟨q1, q2, q3, q4, q5⟩, a1, a2, a3, a4, a5⟩ := c125 h.1 r3 (B1 := 22) (B2 := 49) (.inl ⟨rfl, rfl⟩) v0 v4 v5 v6 o1.1 o3.1 o4.1 o5.1
  have y22 : zI M1 22 1 = ii (s 133 50) := by
    rw [a1 1 (by omega) (by omega)]; exact o1.1
  simp only [show (48 : Nat) = 49 - 1 from rfl, show (21 : Nat) = 22 - 1 from rfl, e, zb_some]
  simp only [show (22 - 1 : Nat) = 21 from rfl, cX q1, zb_some, y22]
  have fr : ∀ p, (p < 22 ∨ 47 < p) → ∀ j, zI M1 p j = zI M p j := fun p hp j => q3 p j (by omega)
  refine ⟨_, rfl, q1, fun p hp => ⟨fun j => (fr p (by omega) j).trans ((h.2.1 p hp).1 j), fun j => (q4 p j).trans ((h.2.1 p hp).2 j)⟩, ?_⟩
  obtain ⟨i10, i0, i1, i2, i38, i42, i43⟩ := unX_f (s := s)
  refine ⟨⟨⟨?_, ?_, ?_, ?_⟩, fun b hb => ?_, q2⟩, ⟨⟨?_, fun k hk => ?_⟩, ⟨?_, fun k hk => ?_⟩, ⟨?_, fun k hk => ?_⟩⟩, RCt_sf (RCt_fr r7 (fun j _ => fr 20 (by omega) j) (fr 89 (by omega))) ?_ ?_ ?_, RCi_sf (RCi_fr r8 hi.2 (fr 20 (by omega) 2) (fun p p1 p2 => fr p (by omega))) ?_ ?_ ?_ ?_ ?_ ?_ ?_ ?_ ?_ ?_ ?_ ?_ ?_ ?_ ?_ ?_ ?_ ?_ ?_ ?_ ?_, RCa_sf (RCa_fr r9 (fr 106 (by omega)) (fr 107 (by omega))) ?_ ?_, RCh_sf (RCh_fr r10 h9.2 (fun p p1 p2 => fr p (by omega))) ?_ ?_ ?_ ?_ ?_ ?_ ?_, RCp_sf (RCp_fr r11 (fun p p1 p2 => ⟨fr p (by omega), fun j => q4 p j⟩)) ?_ ?_⟩
  all_goals first | exact unX_j (by omega) | exact unX_o (by omega) (by omega) | skip
  · rw [y22, i0]
  · rw [a1 2 (by omega) (by omega), i2]; exact o1.2.1
  · rw [a1 3 (by omega) (by omega), i1]; exact o1.2.2.1
  · rw [a1 4 (by omega) (by omega), i10]; exact o1.2.2.2
  · rw [i0] at hb
    obtain ⟨⟨b1, b2, b3, b4, b5⟩, b6⟩ := o2 b hb
    obtain ⟨g1, g2⟩ := a2 b hb
    rw [show 51 + 2 * b = 49 + 2 + 2 * b by omega] at b1 b2 b3 b4 b5 b6
    obtain ⟨x1, x2, x3, x4, x5, -⟩ := unX_b (s := s) (k := b) (by omega)
    refine ⟨⟨?_, ?_, ?_, ?_, ?_⟩, fun r hr => ?_⟩
    · rw [show 24 + 2 * b = 22 + 2 + 2 * b by omega, g1 1 (by omega) (by omega)]
      show _ = ii (unX s 134 b)
      rw [x1]; exact b1
    · rw [show 24 + 2 * b = 22 + 2 + 2 * b by omega, g1 2 (by omega) (by omega)]
      show _ = ii (unX s 135 b)
      rw [x2]; exact b2
    · rw [show 24 + 2 * b = 22 + 2 + 2 * b by omega, g1 3 (by omega) (by omega)]
      show _ = ii (unX s 136 b)
      rw [x3]; exact b3
    · rw [show 24 + 2 * b = 22 + 2 + 2 * b by omega, g1 4 (by omega) (by omega)]
      show _ = ii (unX s 137 b)
      rw [x4]; exact b4
    · rw [show 24 + 2 * b = 22 + 2 + 2 * b by omega, g1 5 (by omega) (by omega)]
      show _ = ii (unX s 138 b)
      rw [x5]; exact b5
    · rw [show 24 + 2 * b + 1 = 22 + 3 + 2 * b by omega, g2 r hr]
      show _ = ii (unX s 139 (4 * b + r))
      rw [unX_r (by omega), show 49 + 3 + 2 * b = 49 + 2 + 2 * b + 1 by omega]
      exact b6 r hr
  · rw [i38]; exact a3.1
  · rw [i38] at hk
    obtain ⟨g1, g2, g3⟩ := a3.2 k hk
    obtain ⟨b1, b2, b3⟩ := o3.2 k hk
    obtain ⟨-, -, -, -, -, x6, x7, x8⟩ := unX_b (s := s) (k := k) (by omega)
    rw [g1, g2, g3, x6, x7, x8, nbv_01 (v8 k hk).2.2]
    exact ⟨b1, b2, b3⟩
  · rw [i42]; exact a4.1
  · rw [i42] at hk
    obtain ⟨g1, g2⟩ := a4.2 k hk
    obtain ⟨b1, b2⟩ := o4.2 k hk
    obtain ⟨x1, x2⟩ := unX_w (s := s) (k := k) (by omega)
    rw [g1, g2, x1, x2]
    exact ⟨b1, b2⟩
  · rw [i43]; exact a5.1
  · rw [i43] at hk
    obtain ⟨g1, g2⟩ := a5.2 k hk
    obtain ⟨b1, b2⟩ := o5.2 k hk
    obtain ⟨x1, x2⟩ := unX_k (s := s) (k := k) (by omega)
    rw [g1, g2, x1, x2]
    exact ⟨b1, b2⟩
