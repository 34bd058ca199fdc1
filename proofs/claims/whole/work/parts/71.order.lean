/-! ORDER, the class's -/
def oW (s : ZSt) (i d : Nat) : Int := if (i : Int) < s 133 0 ∧ d ≤ 6 then tB (goS s (d : Int)) i (thk (goS s (d : Int)) i) else 0
theorem oW_b {s : ZSt} (hV : IV s) (i d : Nat) : 0 ≤ oW s i d ∧ oW s i d ≤ 60000 := by
  have hd := hV.1.2.1
  unfold oW
  split
  · rename_i h
    have K := RK_of (goS_in hV.1.1.1 (n := (d : Int)) (by omega) (by omega)) ((goS_ah s (d : Int)).sh hV.1.2.2.2) (goS_ib hV.1.1.1 hV.1.2.2.2 hV.1.2.2.1 (n := (d : Int)) (by omega)) (n := i) (by rw [goS_o (by omega) (by omega)]; exact h.1)
    exact (K.b K.t.2).1
  · omega
/-- the blocks that are not gone, as bits -/
def opm (s : ZSt) : Nat → Nat
  | 0 => 0
  | n + 1 => if s 136 n = 0 then opm s n else opm s n ||| 2 ^ n
theorem opm_b {s : ZSt} : ∀ n, n ≤ 6 → opm s n < 64 ∧ ∀ d, d < 6 → (bt (opm s n) d = true ↔ d < n ∧ s 136 d ≠ 0) := by
  intro n
  induction n with
  | zero =>
    intro _
    refine ⟨by show (0 : Nat) < 64; omega, fun d hd => ?_⟩
    show bt 0 d = true ↔ _
    rw [bt_z d hd]
    exact ⟨fun q => absurd q (by decide), fun q => by omega⟩
  | succ n ih =>
    intro hn
    obtain ⟨a, b⟩ := ih (by omega)
    rw [opm]
    by_cases c : s 136 n = 0
    · rw [if_pos c]
      refine ⟨a, fun d hd => ?_⟩
      rw [b d hd]
      by_cases e : d = n
      · subst e; exact ⟨fun q => by omega, fun q => absurd c q.2⟩
      · exact ⟨fun q => ⟨by omega, q.2⟩, fun q => ⟨by omega, q.2⟩⟩
    · rw [if_neg c]
      obtain ⟨x1, x2⟩ := bs_or _ a n (by omega)
      refine ⟨x1, fun d hd => ?_⟩
      rw [x2 d hd]
      by_cases e : d = n
      · subst e; simp [c]
      · have := b d hd
        rw [show (d == n) = false by simp [e], Bool.false_or, this]
        exact ⟨fun q => ⟨by omega, q.2⟩, fun q => ⟨by omega, q.2⟩⟩
def oP (s : ZSt) : Nat := opm s (s 133 0).toNat
def om (s : ZSt) : Nat := pc (oP s)
theorem oP_b {s : ZSt} (hi : SIn s) : oP s < 64 ∧ om s ≤ 6 ∧ ∀ d, d < 6 → (bt (oP s) d = true ↔ (d : Int) < s 133 0 ∧ s 136 d ≠ 0) := by
  have h0 := hi.1
  obtain ⟨a, b⟩ := opm_b (s := s) (s 133 0).toNat (by omega)
  refine ⟨a, (pc_6 _ a).1, fun d hd => ?_⟩
  show bt (opm s (s 133 0).toNat) d = true ↔ _
  rw [b d hd]
  exact ⟨fun q => ⟨by omega, q.2⟩, fun q => ⟨by omega, q.2⟩⟩
-- bits of numbers below 64
theorem c99 {M : ZMem} : ∀ S : Nat, S < 64 → f_99 M (ii (S : Int)) = some (ii (pc S : Nat)) := by
  unfold f_99
  decide +kernel
theorem b_or : ∀ S : Nat, S < 64 → ∀ d : Nat, d < 6 → (ii (S : Int) ||| (1 <<< (ii (d : Int) &&& 31))) = ii ((S ||| 2 ^ d : Nat) : Int) := by decide +kernel
theorem b_an : ∀ S : Nat, S < 64 → ∀ d : Nat, d < 6 → decide ((ii (S : Int) &&& (1 <<< (ii (d : Int) &&& 31))) = 0) = !bt S d := by decide +kernel
theorem b_xr : ∀ S : Nat, S < 64 → ∀ d : Nat, d < 6 → (ii (S : Int) ^^^ (1 <<< (ii (d : Int) &&& 31))) = ii ((S ^^^ 2 ^ d : Nat) : Int) := by decide +kernel
theorem b_cl : ∀ S : Nat, S < 64 → ∀ d : Nat, d < 6 → bt S d = true → (ii (S : Int) &&& ((1 <<< (ii (d : Int) &&& 31)) ^^^ (-1))) = ii ((S ^^^ 2 ^ d : Nat) : Int) := by decide +kernel
theorem b_ld : ∀ S : Nat, S < 64 → ∀ P : Nat, P < 64 → (ii (S : Int) &&& ii (P : Int)) = ii ((S &&& P : Nat) : Int) := by decide +kernel
theorem b_s1 : ∀ S : Nat, S < 64 → ∀ P : Nat, P < 64 → (S &&& P) = S → pc S ≤ pc P := by decide +kernel
theorem b_s2 : ∀ S : Nat, S < 64 → ∀ P : Nat, P < 64 → ∀ d : Nat, d < 6 → ((S &&& P) == S && bt S d) = true → (bt P d && ((S ^^^ 2 ^ d) &&& P) == (S ^^^ 2 ^ d)) = true := by decide +kernel
theorem b_sb (S : Nat) (hS : S < 64) (P : Nat) (hP : P < 64) (h : (S &&& P) = S) : pc S ≤ pc P ∧ ∀ d : Nat, d < 6 → bt S d = true → bt P d = true ∧ ((S ^^^ 2 ^ d) &&& P) = (S ^^^ 2 ^ d) := by
  refine ⟨b_s1 S hS P hP h, fun d hd g => ?_⟩
  have := b_s2 S hS P hP d hd (by rw [h, g]; simp)
  simp only [Bool.and_eq_true, beq_iff_eq] at this
  exact this
/-- the planner's rows -/
def PLw (W : Nat → Nat → Int) (P m : Nat) (M : ZMem) : Prop := (Ly M ∧ zI M 102 2 = ii (m : Int)) ∧ ∀ i d, i < 6 → bt P i = true → d < m → zI M 103 (6 * i + d) = ii (W i d)
section ZOC
variable {W : Nat → Nat → Int} {P m : Nat} {M : ZMem}
theorem c102 (hW : ∀ i d, 0 ≤ W i d ∧ W i d ≤ 60000) (hP : P < 64) (hm : pc P = m) (h : PLw W P m M) {S i : Nat} (hS : S < 64) (sS : (S &&& P) = S) (p1 : 1 ≤ pc S) (hi : i < 6) (ht : bt S i = true → zI M 105 (S ^^^ 2 ^ i) = ii (oop W m (pc S - 1) (S ^^^ 2 ^ i))) : f_102 M 102 (ii (i : Int)) (ii (S : Int)) = some (ii (if bt S i = true then W i (m - pc S) + oop W m (pc S - 1) (S ^^^ 2 ^ i) else -1)) := by
  obtain ⟨⟨hL, e2⟩, hw⟩ := h
  obtain ⟨q1, q2⟩ := b_sb S hS P hP sS
  have m6 := (pc_6 P hP).1
  have ba := b_an S hS i hi
  unfold f_102
  simp only [cP hL, if_true, zb_some, e2, c99 S hS]
  by_cases c : bt S i = true
  · obtain ⟨q3, q4⟩ := q2 i hi c
    obtain ⟨x1, x2, x3⟩ := bt_xr S hS i hi c
    rw [c] at ba
    have n0 := of_decide_eq_false (show decide ((ii (S : Int) &&& (1 <<< (ii (i : Int) &&& 31))) = 0) = false from ba)
    have e3 := hw i (m - pc S) hi q3 (by omega)
    have e4 := ht c
    have x103 := zai_ii hL (p := 103) (n := 36) (i := ((6 * i + (m - pc S) : Nat) : Int)) (by omega) (by decide +kernel) (by omega) (by omega) (by omega)
    have x105 := zai_ii hL (p := 105) (n := 64) (i := ((S ^^^ 2 ^ i : Nat) : Int)) (by omega) (by decide +kernel) (by omega) (by omega) (by omega)
    rw [Int.toNat_natCast] at x103 x105
    have ei : ii (i : Int) * 6 + (ii (m : Int) - ii ((pc S : Nat) : Int)) = ii ((6 * i + (m - pc S) : Nat) : Int) := by
      rw [show (6 : Int32) = ii 6 from rfl, ii_mul, ii_sub, ii_add]
      congr 1
      omega
    rw [if_neg n0, if_neg (show ¬ ii 64 ≤ ii (S : Int) by rw [ii_le (by omega) (by omega)]; omega), ii_sub, show (0 : Int32) = ii 0 from rfl, show (5 : Int32) = ii 5 from rfl, c14z (by omega) (by omega) (by omega), zb_some, bzT (by omega), if_pos (show ¬ (1 : Int32) = ii 0 by decide), ← ii_sub, ei, x103, zb_some, e3, b_xr S hS i hi, x105, zb_some, e4, ii_add, if_pos c]
  · have cf : bt S i = false := by simpa using c
    rw [cf] at ba
    have n0 := of_decide_eq_true (show decide ((ii (S : Int) &&& (1 <<< (ii (i : Int) &&& 31))) = 0) = true from ba)
    rw [if_pos n0, if_neg c]
    rfl
theorem c101a (hW : ∀ i d, 0 ≤ W i d ∧ W i d ≤ 60000) (hP : P < 64) (hm : pc P = m) (h : PLw W P m M) {S n : Nat} (hS : S < 64) (sS : (S &&& P) = S) (p1 : pc S = n + 1) (ht : ∀ i, i < 6 → bt S i = true → zI M 105 (S ^^^ 2 ^ i) = ii (oop W m n (S ^^^ 2 ^ i))) : ∀ (k z j : Nat), j + k = 6 → k < z → f_101_4 z M 102 (ii (S : Int)) (ii (max 0 (omx W (oop W m n) (m - (n + 1)) S j))) (ii (j : Int)) = some (ii (oop W m (n + 1) S)) := by
  have bnd : ∀ i, i < 6 → bt S i = true → 0 ≤ W i (m - (n + 1)) + oop W m n (S ^^^ 2 ^ i) ∧ W i (m - (n + 1)) + oop W m n (S ^^^ 2 ^ i) ≤ 1000000 := by
    intro i hi g
    obtain ⟨x1, x2, x3⟩ := bt_xr S hS i hi g
    have := oop_b (W := W) (m := m) hW n (S ^^^ 2 ^ i) (by omega) (by omega)
    have := hW i (m - (n + 1))
    have := (pc_6 S hS).1
    omega
  have ob := oop_b (W := W) (m := m) hW (n + 1) S hS p1
  have ub := fun j (hj : j ≤ 6) => omx_ub (W := W) (o := oop W m n) (k := m - (n + 1)) (R := S) (B := 1000000) (by omega) (fun j hj g => (bnd j hj g).2) j hj
  have lb := fun j (hj : j ≤ 6) => (omx_p (W := W) (o := oop W m n) (k := m - (n + 1)) (R := S) (fun j hj g => (bnd j hj g).1) j hj).1
  intro k
  induction k with
  | zero =>
    intro z j e hz
    obtain ⟨w, rfl⟩ : ∃ w, z = w + 1 := ⟨z - 1, by omega⟩
    have ej : j = 6 := by omega
    subst ej
    rw [f_101_4, if_pos (show (6 : Int32) ≤ ii ((6 : Nat) : Int) by decide)]
    rw [oop] at ob ⊢
    rw [show max 0 (omx W (oop W m n) (m - (n + 1)) S 6) = omx W (oop W m n) (m - (n + 1)) S 6 by omega]
  | succ k ih =>
    intro z j e hz
    obtain ⟨w, rfl⟩ : ∃ w, z = w + 1 := ⟨z - 1, by omega⟩
    have u := ub j (by omega)
    have v := lb j (by omega)
    have e102 := c102 hW hP hm h hS sS (by omega) (i := j) (by omega) (fun g => by rw [p1, Nat.add_sub_cancel]; exact ht j (by omega) g)
    rw [p1, Nat.add_sub_cancel] at e102
    have nx := ih w (j + 1) (by omega) (by omega)
    rw [omx] at nx
    rw [f_101_4, if_neg (show ¬ (6 : Int32) ≤ ii (j : Int) by rw [show (6 : Int32) = ii 6 from rfl, ii_le (by omega) (by omega)]; omega), e102, zb_some]
    by_cases c : bt S j = true
    · have b := bnd j (by omega) c
      rw [if_pos c] at nx ⊢
      rw [c24i (by omega) (by omega), zb_some, ii_s1, show max (max 0 (omx W (oop W m n) (m - (n + 1)) S j)) (W j (m - (n + 1)) + oop W m n (S ^^^ 2 ^ j)) = max 0 (max (omx W (oop W m n) (m - (n + 1)) S j) (W j (m - (n + 1)) + oop W m n (S ^^^ 2 ^ j))) by omega]
      exact nx
    · rw [if_neg c] at nx ⊢
      rw [c24i (by omega) (by omega), zb_some, ii_s1, show max (max 0 (omx W (oop W m n) (m - (n + 1)) S j)) (-1) = max 0 (omx W (oop W m n) (m - (n + 1)) S j) by omega]
      exact nx
theorem c101 (hW : ∀ i d, 0 ≤ W i d ∧ W i d ≤ 60000) (hP : P < 64) (hm : pc P = m) (h : PLw W P m M) {S n : Nat} (hS : S < 64) (sS : (S &&& P) = S) (p1 : pc S = n + 1) (ht : ∀ i, i < 6 → bt S i = true → zI M 105 (S ^^^ 2 ^ i) = ii (oop W m n (S ^^^ 2 ^ i))) : f_101 M 102 (ii (S : Int)) = some (ii (oop W m (pc S) S)) := by
  unfold f_101
  rw [if_pos (cP h.1.1).1, p1]
  exact c101a hW hP hm h hS sS p1 ht 6 zF 0 (by omega) (by unfold zF; omega)
/-- the first that is as good -/
theorem c103a (hW : ∀ i d, 0 ≤ W i d ∧ W i d ≤ 60000) (hP : P < 64) (hm : pc P = m) (h : PLw W P m M) {S n : Nat} (hS : S < 64) (sS : (S &&& P) = S) (p1 : pc S = n + 1) (ht : ∀ i, i < 6 → bt S i = true → zI M 105 (S ^^^ 2 ^ i) = ii (oop W m n (S ^^^ 2 ^ i))) (hs : zI M 105 S = ii (oop W m (n + 1) S)) : ∀ (k z j : Nat), j + k = ofi W (oop W m n) (m - (n + 1)) S 6 → k < z → f_103_2 z M 102 (ii (S : Int)) (ii (j : Int)) = some (ii ((ofi W (oop W m n) (m - (n + 1)) S 6 : Nat) : Int)) := by
  have bnd : ∀ i, i < 6 → bt S i = true → 0 ≤ W i (m - (n + 1)) + oop W m n (S ^^^ 2 ^ i) ∧ W i (m - (n + 1)) + oop W m n (S ^^^ 2 ^ i) ≤ 1000000 := by
    intro i hi g
    obtain ⟨x1, x2, x3⟩ := bt_xr S hS i hi g
    have := oop_b (W := W) (m := m) hW n (S ^^^ 2 ^ i) (by omega) (by omega)
    have := hW i (m - (n + 1))
    have := (pc_6 S hS).1
    omega
  have ob := oop_b (W := W) (m := m) hW (n + 1) S hS p1
  have s6 := (pc_6 S hS).1
  obtain ⟨f0, ⟨f1, f2, f3⟩, f4⟩ := (omx_p (W := W) (o := oop W m n) (k := m - (n + 1)) (R := S) (fun j hj g => (bnd j hj g).1) 6 (Nat.le_refl _)).2.1 (bt_ne S hS (by omega))
  have eo : oop W m (n + 1) S = omx W (oop W m n) (m - (n + 1)) S 6 := rfl
  have x105 := zai_ii h.1.1 (p := 105) (n := 64) (i := (S : Int)) (by omega) (by decide +kernel) (by omega) (by omega) (by omega)
  rw [Int.toNat_natCast, hs] at x105
  have hcP := cP h.1.1
  intro k
  induction k with
  | zero =>
    intro z j e hz
    obtain ⟨w, rfl⟩ : ∃ w, z = w + 1 := ⟨z - 1, by omega⟩
    have ej : j = ofi W (oop W m n) (m - (n + 1)) S 6 := by omega
    have e102 := c102 hW hP hm h hS sS (by omega) (i := j) (by omega) (fun g => by rw [p1, Nat.add_sub_cancel]; exact ht j (by omega) g)
    rw [p1, Nat.add_sub_cancel, if_pos (by rw [ej]; exact f2)] at e102
    rw [f_103_2, if_neg (show ¬ (6 : Int32) ≤ ii (j : Int) by rw [show (6 : Int32) = ii 6 from rfl, ii_le (by omega) (by omega)]; omega), e102, zb_some]
    simp only [hcP, zb_some, x105]
    rw [if_neg (show ¬ ¬ ii (W j (m - (n + 1)) + oop W m n (S ^^^ 2 ^ j)) = ii (oop W m (n + 1) S) by rw [eo, ej, f3]; exact fun q => q rfl), ej]
  | succ k ih =>
    intro z j e hz
    obtain ⟨w, rfl⟩ : ∃ w, z = w + 1 := ⟨z - 1, by omega⟩
    have e102 := c102 hW hP hm h hS sS (by omega) (i := j) (by omega) (fun g => by rw [p1, Nat.add_sub_cancel]; exact ht j (by omega) g)
    rw [p1, Nat.add_sub_cancel] at e102
    rw [f_103_2, if_neg (show ¬ (6 : Int32) ≤ ii (j : Int) by rw [show (6 : Int32) = ii 6 from rfl, ii_le (by omega) (by omega)]; omega), e102, zb_some]
    simp only [hcP, zb_some, x105]
    rw [ii_s1]
    by_cases c : bt S j = true
    · have b := bnd j (by omega) c
      have lt := f4 j (by omega) c
      rw [if_pos c, if_pos (show ¬ ii (W j (m - (n + 1)) + oop W m n (S ^^^ 2 ^ j)) = ii (oop W m (n + 1) S) by rw [ii_eq (by omega) (by omega)]; omega)]
      exact ih w (j + 1) (by omega) (by omega)
    · rw [if_neg c, if_pos (show ¬ ii (-1) = ii (oop W m (n + 1) S) by rw [ii_eq (by omega) (by omega)]; omega)]
      exact ih w (j + 1) (by omega) (by omega)
/-- placed, one by one -/
theorem PLw.s1 {M' : ZMem} {p : Nat} (h : PLw W P m M) (e : S1 p M M') (hp : p = 104 ∨ p = 105) : PLw W P m M' := by
  obtain ⟨⟨h1, h2⟩, h3⟩ := h
  refine ⟨⟨e.1, ?_⟩, fun i d a b c => ?_⟩
  · rw [e.2.1 102 (by omega) 2]; exact h2
  · rw [e.2.1 103 (by omega)]; exact h3 i d a b c
def OT (W : Nat → Nat → Int) (P m : Nat) (M : ZMem) (N : Nat) : Prop := ∀ S, S < N → (S &&& P) = S → zI M 105 S = ii (oop W m (pc S) S)
theorem c100p (hW : ∀ i d, 0 ≤ W i d ∧ W i d ≤ 60000) (hP : P < 64) (hm : pc P = m) : ∀ (n z k R : Nat) (M : ZMem), PLw W P m M → OT W P m M 64 → R < 64 → (R &&& P) = R → pc R = n → k + n = m → n < z → ∃ M', f_100_77 z M 102 (ii (R : Int)) (ii (k : Int)) = some M' ∧ S1 104 M M' ∧ (∀ j, j < k → zI M' 104 j = zI M 104 j) ∧ ∀ j, j < n → zI M' 104 (k + j) = ii (((ool W m n R).getD j 0 : Nat) : Int) := by
  intro n
  induction n with
  | zero =>
    intro z k R M h hT hR sR p1 e hz
    obtain ⟨w, rfl⟩ : ∃ w, z = w + 1 := ⟨z - 1, by omega⟩
    have m6 := (pc_6 P hP).1
    refine ⟨M, ?_, S1.rf h.1.1, fun _ _ => rfl, fun j hj => by omega⟩
    rw [f_100_77]
    simp only [cP h.1.1, zb_some, h.1.2]
    rw [if_pos (show ii (m : Int) ≤ ii (k : Int) by rw [ii_le (by omega) (by omega)]; omega)]
  | succ n ih =>
    intro z k R M h hT hR sR p1 e hz
    obtain ⟨w, rfl⟩ : ∃ w, z = w + 1 := ⟨z - 1, by omega⟩
    have m6 := (pc_6 P hP).1
    have hL := h.1.1
    have ht : ∀ i, i < 6 → bt R i = true → zI M 105 (R ^^^ 2 ^ i) = ii (oop W m n (R ^^^ 2 ^ i)) := by
      intro i hi g
      obtain ⟨x1, x2, x3⟩ := bt_xr R hR i hi g
      have := hT (R ^^^ 2 ^ i) (by omega) ((b_sb R hR P hP sR).2 i hi g).2
      rw [show pc (R ^^^ 2 ^ i) = n by omega] at this
      exact this
    have hs := hT R hR sR
    rw [p1] at hs
    have ek : m - (n + 1) = k := by omega
    have bnd : ∀ i, i < 6 → bt R i = true → 0 ≤ W i (m - (n + 1)) + oop W m n (R ^^^ 2 ^ i) := by
      intro i hi g
      obtain ⟨x1, x2, x3⟩ := bt_xr R hR i hi g
      have := oop_b (W := W) (m := m) hW n (R ^^^ 2 ^ i) (by omega) (by omega)
      have := hW i (m - (n + 1))
      omega
    obtain ⟨f0, ⟨f1, f2, f3⟩, f4⟩ := (omx_p (W := W) (o := oop W m n) (k := m - (n + 1)) (R := R) bnd 6 (Nat.le_refl _)).2.1 (bt_ne R hR (by omega))
    have e103 : f_103 M 102 (ii (R : Int)) = some (ii ((ofi W (oop W m n) (m - (n + 1)) R 6 : Nat) : Int)) := by
      unfold f_103
      rw [if_pos (cP hL).1]
      exact c103a hW hP hm h hR sR p1 ht hs (ofi W (oop W m n) (m - (n + 1)) R 6) zF 0 (by omega) (by unfold zF; omega)
    have eol : ool W m (n + 1) R = ofi W (oop W m n) (m - (n + 1)) R 6 :: ool W m n (R ^^^ 2 ^ ofi W (oop W m n) (m - (n + 1)) R 6) := rfl
    rw [eol]
    generalize hf : ofi W (oop W m n) (m - (n + 1)) R 6 = f at *
    obtain ⟨x1, x2, x3⟩ := bt_xr R hR f f1 f2
    have x104 := zsa_ii hL (p := 104) (n := 6) (i := (k : Int)) (x := ii (f : Int)) (by omega) (by decide +kernel) (by omega) (by omega) (by omega)
    rw [Int.toNat_natCast] at x104
    have S0 : S1 104 M (zpI M 104 k (ii (f : Int))) := (S1.rf hL).pI
    have y104 := zai_ii S0.1 (p := 104) (n := 6) (i := (k : Int)) (by omega) (by decide +kernel) (by omega) (by omega) (by omega)
    rw [Int.toNat_natCast, zI_at] at y104
    obtain ⟨M', m1, m2, m3, m4⟩ := ih w (k + 1) (R ^^^ 2 ^ f) (zpI M 104 k (ii (f : Int))) (h.s1 S0 (.inl rfl)) (fun S a b => (zI_ne (by omega)).trans (hT S a b)) (by omega) ((b_sb R hR P hP sR).2 f f1 f2).2 (by omega) (by omega) (by omega)
    refine ⟨M', ?_, S0.tr m2, fun j hj => (m3 j (by omega)).trans (zI_nk (by omega)), fun j hj => ?_⟩
    · rw [f_100_77]
      simp only [cP hL, zb_some, h.1.2]
      rw [if_neg (show ¬ ii (m : Int) ≤ ii (k : Int) by rw [ii_le (by omega) (by omega)]; omega), e103, zb_some, x104, zb_some]
      simp only [cP S0.1, zb_some]
      rw [y104, zb_some, b_cl R hR f f1 f2, ii_s1]
      exact m1
    · cases j with
      | zero =>
        rw [Nat.add_zero, m3 k (by omega), zI_at]
        rfl
      | succ j =>
        have := m4 j (by omega)
        rw [show k + 1 + j = k + (j + 1) by omega] at this
        rw [this]
        rfl
/-- the table of all sets -/
theorem c100t (hW : ∀ i d, 0 ≤ W i d ∧ W i d ≤ 60000) (hP : P < 64) (hm : pc P = m) : ∀ (n z S : Nat) (M : ZMem), PLw W P m M → OT W P m M S → S + n = 64 → 1 ≤ S → n < z → ∃ M', f_100_22 z M 102 (ii (P : Int)) (ii (S : Int)) = some M' ∧ Sv M M' ∧ (∀ p, p ≠ 102 → p ≠ 104 → p ≠ 105 → ∀ j, zI M' p j = zI M p j) ∧ zI M' 102 2 = ii (m : Int) ∧ zI M' 102 3 = ii (oop W m m P) ∧ ∀ j, j < m → zI M' 104 j = ii (((ool W m m P).getD j 0 : Nat) : Int) := by
  intro n
  induction n with
  | zero =>
    intro z S M h hT e h1 hz
    obtain ⟨w, rfl⟩ : ∃ w, z = w + 1 := ⟨z - 1, by omega⟩
    have hL := h.1.1
    have eS : S = 64 := by omega
    subst eS
    have PP : (P &&& P) = P := Nat.and_self P
    have P63 : (ii (P : Int) &&& (ii 64 - 1)) = ii (P : Int) := by
      rw [show ii 64 - 1 = ii ((63 : Nat) : Int) by decide, b_ld P hP 63 (by omega)]
      have : ∀ P : Nat, P < 64 → (P &&& 63) = P := by decide +kernel
      rw [this P hP]
    have x105 := zai_ii hL (p := 105) (n := 64) (i := (P : Int)) (by omega) (by decide +kernel) (by omega) (by omega) (by omega)
    rw [Int.toNat_natCast, hT P hP PP, hm] at x105
    have hL2 := hL.p (p := 102) (k := 3) (v := ii (oop W m m P))
    have h2 : PLw W P m (zpI M 102 3 (ii (oop W m m P))) := ⟨⟨hL2, (zI_nk (by omega)).trans h.1.2⟩, fun i d a b c => (zI_ne (by omega)).trans (h.2 i d a b c)⟩
    obtain ⟨M', m1, m2, m3, m4⟩ := c100p hW hP hm m zF 0 P (zpI M 102 3 (ii (oop W m m P))) h2 (fun S a b => (zI_ne (by omega)).trans (hT S a b)) hP PP hm (by omega) (by have := (pc_6 P hP).1; unfold zF; omega)
    refine ⟨M', ?_, ((Sv.rf hL).pI (by omega)).tr (m2.sv (by omega)), fun p a b c j => (m2.2.1 p b j).trans (zI_ne a), (m2.2.1 102 (by omega) 2).trans h2.1.2, (m2.2.1 102 (by omega) 3).trans zI_at, fun j hj => ?_⟩
    · rw [f_100_22]
      simp only [cP hL, zb_some]
      rw [if_pos (show ii 64 ≤ ii ((64 : Nat) : Int) by decide), P63, x105, zb_some]
      exact m1
    · have := m4 j hj
      rw [Nat.zero_add] at this
      exact this
  | succ n ih =>
    intro z S M h hT e h1 hz
    obtain ⟨w, rfl⟩ : ∃ w, z = w + 1 := ⟨z - 1, by omega⟩
    have hL := h.1.1
    have S64 : S < 64 := by omega
    rw [f_100_22]
    simp only [cP hL, zb_some]
    rw [if_neg (show ¬ ii 64 ≤ ii (S : Int) by rw [ii_le (by omega) (by omega)]; omega), b_ld S S64 P hP]
    unfold f_100_49
    rw [ii_s1]
    by_cases c : (S &&& P) = S
    · have p1 : 1 ≤ pc S := by
        have := (pc_6 S S64).2
        omega
      obtain ⟨q, hq⟩ : ∃ q, pc S = q + 1 := ⟨pc S - 1, by omega⟩
      have e101 := c101 hW hP hm h S64 c hq (fun i hi g => by
        obtain ⟨x1, x2, x3⟩ := bt_xr S S64 i hi g
        have := hT (S ^^^ 2 ^ i) (by omega) ((b_sb S S64 P hP c).2 i hi g).2
        rw [show pc (S ^^^ 2 ^ i) = q by omega] at this
        exact this)
      have x105 := zsa_ii hL (p := 105) (n := 64) (i := (S : Int)) (x := ii (oop W m (pc S) S)) (by omega) (by decide +kernel) (by omega) (by omega) (by omega)
      rw [Int.toNat_natCast] at x105
      have S0 : S1 105 M (zpI M 105 S (ii (oop W m (pc S) S))) := (S1.rf hL).pI
      obtain ⟨M', m1, m2, m3, m4⟩ := ih w (S + 1) (zpI M 105 S (ii (oop W m (pc S) S))) (h.s1 S0 (.inr rfl)) (fun T a b => by
        by_cases g : T = S
        · rw [g, zI_at]
        · rw [zI_nk g]; exact hT T (by omega) b) (by omega) (by omega) (by omega)
      refine ⟨M', ?_, (S0.sv (by omega)).tr m2, fun p a b d j => (m3 p a b d j).trans (zI_ne d), m4⟩
      rw [if_neg (show ¬ ¬ ii ((S &&& P : Nat) : Int) = ii (S : Int) by rw [c]; exact fun q => q rfl), e101, zb_some, x105, zb_some]
      exact m1
    · have l64 : (S &&& P) < 64 := Nat.lt_of_le_of_lt Nat.and_le_left S64
      obtain ⟨M', m1, m2⟩ := ih w (S + 1) M h (fun T a b => hT T (by
        by_cases g : T = S
        · subst g; exact absurd b c
        · omega) b) (by omega) (by omega) (by omega)
      refine ⟨M', ?_, m2⟩
      rw [if_pos (show ¬ ii ((S &&& P : Nat) : Int) = ii (S : Int) by rw [ii_eq (by omega) (by omega)]; omega)]
      exact m1
theorem c100 (hW : ∀ i d, 0 ≤ W i d ∧ W i d ≤ 60000) (hP : P < 64) (hm : pc P = m) (hL : Ly M) (hw : ∀ i d, i < 6 → bt P i = true → d < m → zI M 103 (6 * i + d) = ii (W i d)) : ∃ M', f_100 M 102 (ii (P : Int)) = some M' ∧ Sv M M' ∧ zI M' 102 2 = ii (m : Int) ∧ zI M' 102 3 = ii (oop W m m P) ∧ ∀ j, j < m → zI M' 104 j = ii (((ool W m m P).getD j 0 : Nat) : Int) := by
  have m6 := (pc_6 P hP).1
  have L1 := hL.p (p := 102) (k := 2) (v := ii (m : Int))
  have x105 := zsa_ii L1 (p := 105) (n := 64) (i := ((0 : Nat) : Int)) (x := ii 0) (by omega) (by decide +kernel) (by omega) (by omega) (by omega)
  have L2 := L1.p (p := 105) (k := 0) (v := ii 0)
  have h : PLw W P m (zpI (zpI M 102 2 (ii (m : Int))) 105 0 (ii 0)) := ⟨⟨L2, (zI_ne (by omega)).trans zI_at⟩, fun i d a b c => (zI_ne (by omega)).trans ((zI_ne (by omega)).trans (hw i d a b c))⟩
  obtain ⟨M', m1, m2, m3, m4⟩ := c100t hW hP hm 63 zF 1 _ h (fun S a b => by
    have : S = 0 := by omega
    subst this
    rw [zI_at]
    rfl) (by omega) (by omega) (by unfold zF; omega)
  refine ⟨M', ?_, (((Sv.rf hL).pI (by omega)).pI (by omega)).tr m2, m4⟩
  have e37 := c37i (M := M) (a := 6) (b := (m : Int)) (by omega) (by omega)
  rw [show min 6 (m : Int) = (m : Int) by omega] at e37
  unfold f_100
  simp only [cP hL, if_true, zb_some, c99 P hP, hm, show (6 : Int32) = ii 6 from rfl, e37, cP L1]
  rw [show (0 : Int32) = ii ((0 : Nat) : Int) from rfl]
  rw [show ii 0 = ii ((0 : Nat) : Int) from rfl] at x105
  rw [x105, zb_some]
  exact m1
end ZOC
