/-! ORDER: sets of blocks as bits, the best order by what comes behind; numbers alone -/
def bt (S d : Nat) : Bool := S / 2 ^ d % 2 == 1
def pc (S : Nat) : Nat := S % 2 + S / 2 % 2 + S / 4 % 2 + S / 8 % 2 + S / 16 % 2 + S / 32 % 2
theorem bs_or : ∀ S : Nat, S < 64 → ∀ d : Nat, d < 6 → (S ||| 2 ^ d) < 64 ∧ ∀ e : Nat, e < 6 → bt (S ||| 2 ^ d) e = (e == d || bt S e) := by decide +kernel
theorem bt_xr : ∀ S : Nat, S < 64 → ∀ d : Nat, d < 6 → bt S d = true → (S ^^^ 2 ^ d) < S ∧ pc S = pc (S ^^^ 2 ^ d) + 1 ∧ ∀ e : Nat, e < 6 → bt (S ^^^ 2 ^ d) e = (!(e == d) && bt S e) := by decide +kernel
theorem bt_ne : ∀ S : Nat, S < 64 → 1 ≤ pc S → ∃ d : Nat, d < 6 ∧ bt S d = true := by decide +kernel
theorem bt_z : ∀ d : Nat, d < 6 → bt 0 d = false := by decide +kernel
theorem pc_6 : ∀ S : Nat, S < 64 → pc S ≤ 6 ∧ (pc S = 0 → S = 0) := by decide +kernel
section ZOR
variable (W : Nat → Nat → Int) (m : Nat)
/-- the greatest of those behind: of the blocks below j of a set -/
def omx (o : Nat → Int) (k R : Nat) : Nat → Int
  | 0 => -1
  | j + 1 => if bt R j = true then max (omx o k R j) (W j k + o (R ^^^ 2 ^ j)) else omx o k R j
def ofi (o : Nat → Int) (k R : Nat) : Nat → Nat
  | 0 => 0
  | j + 1 => if bt R j = true ∧ omx W o k R j < W j k + o (R ^^^ 2 ^ j) then j else ofi o k R j
/-- what a set of n blocks brings as the last of the order -/
def oop : Nat → Nat → Int
  | 0, _ => 0
  | n + 1, R => omx W (oop n) (m - (n + 1)) R 6
def ool : Nat → Nat → List Nat
  | 0, _ => []
  | n + 1, R => ofi W (oop W m n) (m - (n + 1)) R 6 :: ool n (R ^^^ 2 ^ ofi W (oop W m n) (m - (n + 1)) R 6)
variable {W m}
theorem omx_p {o : Nat → Int} {k R : Nat} (hv : ∀ j, j < 6 → bt R j = true → 0 ≤ W j k + o (R ^^^ 2 ^ j)) : ∀ j, j ≤ 6 → -1 ≤ omx W o k R j ∧ ((∃ i, i < j ∧ bt R i = true) → 0 ≤ omx W o k R j ∧ (ofi W o k R j < j ∧ bt R (ofi W o k R j) = true ∧ W (ofi W o k R j) k + o (R ^^^ 2 ^ ofi W o k R j) = omx W o k R j) ∧ ∀ i, i < ofi W o k R j → bt R i = true → W i k + o (R ^^^ 2 ^ i) < omx W o k R j) ∧ ((¬ ∃ i, i < j ∧ bt R i = true) → omx W o k R j = -1) := by
  intro j
  induction j with
  | zero =>
    intro _
    refine ⟨Int.le_refl _, fun ⟨i, h, _⟩ => by omega, fun _ => rfl⟩
  | succ j ih =>
    intro hj
    obtain ⟨a, b, c⟩ := ih (by omega)
    rw [omx, ofi]
    by_cases g : bt R j = true
    · have v := hv j (by omega) g
      rw [if_pos g]
      by_cases f : omx W o k R j < W j k + o (R ^^^ 2 ^ j)
      · rw [if_pos ⟨g, f⟩, show max (omx W o k R j) (W j k + o (R ^^^ 2 ^ j)) = W j k + o (R ^^^ 2 ^ j) by omega]
        refine ⟨by omega, fun _ => ⟨v, ⟨by omega, g, rfl⟩, fun i hi hb => ?_⟩, fun q => absurd ⟨j, by omega, g⟩ q⟩
        by_cases e : ∃ i, i < j ∧ bt R i = true
        · obtain ⟨b1, ⟨b2, b3, b4⟩, b5⟩ := b e
          have : W i k + o (R ^^^ 2 ^ i) ≤ omx W o k R j := by
            clear ih c v f b
            have key : ∀ n, i < n → n ≤ j → W i k + o (R ^^^ 2 ^ i) ≤ omx W o k R n := by
              intro n
              induction n with
              | zero => intro h; omega
              | succ n ihn =>
                intro h1 h2
                rw [omx]
                by_cases q : i = n
                · subst q; rw [if_pos hb]; omega
                · have := ihn (by omega) (by omega)
                  split <;> omega
            exact key j (by omega) (Nat.le_refl j)
          omega
        · exact absurd ⟨i, by omega, hb⟩ e
      · rw [if_neg (fun q => f q.2), show max (omx W o k R j) (W j k + o (R ^^^ 2 ^ j)) = omx W o k R j by omega]
        have e : ∃ i, i < j ∧ bt R i = true := by
          by_cases e : ∃ i, i < j ∧ bt R i = true
          · exact e
          · have := c e; omega
        obtain ⟨b1, ⟨b2, b3, b4⟩, b5⟩ := b e
        exact ⟨a, fun _ => ⟨b1, ⟨by omega, b3, b4⟩, b5⟩, fun q => absurd ⟨j, by omega, g⟩ q⟩
    · rw [if_neg g, if_neg (fun q => g q.1)]
      refine ⟨a, fun ⟨i, i1, i2⟩ => ?_, fun q => c (fun ⟨i, i1, i2⟩ => q ⟨i, by omega, i2⟩)⟩
      have : i ≠ j := fun q => g (by rw [← q]; exact i2)
      obtain ⟨b1, ⟨b2, b3, b4⟩, b5⟩ := b ⟨i, by omega, i2⟩
      exact ⟨b1, ⟨by omega, b3, b4⟩, b5⟩
theorem omx_ub {o : Nat → Int} {k R : Nat} {B : Int} (hB : -1 ≤ B) (hv : ∀ j, j < 6 → bt R j = true → W j k + o (R ^^^ 2 ^ j) ≤ B) : ∀ j, j ≤ 6 → omx W o k R j ≤ B := by
  intro j
  induction j with
  | zero => intro _; exact hB
  | succ j ih =>
    intro hj
    have := ih (by omega)
    rw [omx]
    split
    · rename_i g
      have := hv j (by omega) g
      omega
    · exact this
theorem oop_b (hW : ∀ i d, 0 ≤ W i d ∧ W i d ≤ 60000) : ∀ n R, R < 64 → pc R = n → 0 ≤ oop W m n R ∧ oop W m n R ≤ 60000 * (n : Int) := by
  intro n
  induction n with
  | zero => intro R _ _; exact ⟨Int.le_refl _, Int.le_refl _⟩
  | succ n ih =>
    intro R hR hp
    rw [oop]
    have hx := fun j (hj : j < 6) (g : bt R j = true) => by
      obtain ⟨x1, x2, x3⟩ := bt_xr R hR j hj g
      have := ih (R ^^^ 2 ^ j) (by omega) (by omega)
      have := hW j (m - (n + 1))
      exact (⟨by omega, by omega⟩ : 0 ≤ W j (m - (n + 1)) + oop W m n (R ^^^ 2 ^ j) ∧ W j (m - (n + 1)) + oop W m n (R ^^^ 2 ^ j) ≤ 60000 * ((n + 1 : Nat) : Int))
    obtain ⟨i, i1, i2⟩ := bt_ne R hR (by omega)
    refine ⟨((omx_p (W := W) (fun j hj g => (hx j hj g).1) 6 (Nat.le_refl _)).2.1 ⟨i, i1, i2⟩).1, omx_ub (by omega) (fun j hj g => (hx j hj g).2) 6 (Nat.le_refl _)⟩
/-- which blocks are left behind the first k places of a number's digits -/
def rsv (P : Nat) : Nat → Nat → Option Nat
  | 0, _ => some P
  | k + 1, p => match rsv P k (p / 6) with
    | some R => if bt R (p % 6) = true then some (R ^^^ 2 ^ (p % 6)) else none
    | none => none
def smv (W : Nat → Nat → Int) : Nat → Nat → Int
  | 0, _ => 0
  | k + 1, p => smv W k (p / 6) + W (p % 6) k
def dgl : Nat → Nat → List Nat
  | 0, _ => []
  | k + 1, p => dgl k (p / 6) ++ [p % 6]
theorem rsv_p {P : Nat} (hP : P < 64) : ∀ k p R, rsv P k p = some R → R < 64 ∧ pc R + k = pc P ∧ ∀ d, d < 6 → bt R d = true → bt P d = true := by
  intro k
  induction k with
  | zero => intro p R h; cases h; exact ⟨hP, rfl, fun _ _ h => h⟩
  | succ k ih =>
    intro p R h
    rw [rsv] at h
    cases e : rsv P k (p / 6) with
    | none => rw [e] at h; cases h
    | some Q =>
      rw [e] at h
      obtain ⟨a, b, c⟩ := ih _ _ e
      simp only at h
      by_cases g : bt Q (p % 6) = true
      · rw [if_pos g] at h
        cases h
        obtain ⟨x1, x2, x3⟩ := bt_xr Q a (p % 6) (by omega) g
        refine ⟨by omega, by omega, fun d hd hb => c d hd ?_⟩
        rw [x3 d hd] at hb
        simp at hb
        exact hb.2
      · rw [if_neg g] at h; cases h
/-- the reference's search: number by number -/
def ost (W : Nat → Nat → Int) (P m : Nat) (a : Int × List Nat) (N : Nat) : Int × List Nat := if (rsv P m N).isSome = true ∧ a.1 < smv W m N then (smv W m N, dgl m N) else a
def ofr (f : Int × List Nat → Nat → Int × List Nat) : Nat → Nat → Int × List Nat → Int × List Nat
  | 0, _, a => a
  | n + 1, i, a => ofr f n (i + 1) (f a i)
theorem ofr_add {f : Int × List Nat → Nat → Int × List Nat} : ∀ n k i a, ofr f (n + k) i a = ofr f k (i + n) (ofr f n i a) := by
  intro n
  induction n with
  | zero => intro k i a; rw [Nat.zero_add]; rfl
  | succ n ih =>
    intro k i a
    rw [show n + 1 + k = (n + k) + 1 by omega, ofr, ih, ofr, show i + 1 + n = i + (n + 1) by omega]
theorem ofr_end {f : Int × List Nat → Nat → Int × List Nat} (n i : Nat) (a : Int × List Nat) : ofr f (n + 1) i a = f (ofr f n i a) (i + n) := by
  rw [ofr_add n 1 i a]; rfl
theorem ofr_blk (hW : ∀ i d, 0 ≤ W i d ∧ W i d ≤ 60000) {P : Nat} (hP : P < 64) (hm : pc P = m) : ∀ n k p a, k + n = m → ofr (ost W P m) (6 ^ n) (p * 6 ^ n) a = (match rsv P k p with
    | none => a
    | some R => if a.1 < smv W k p + oop W m n R then (smv W k p + oop W m n R, dgl k p ++ ool W m n R) else a) := by
  intro n
  induction n with
  | zero =>
    intro k p a e
    have ek : k = m := by omega
    subst ek
    show ofr (ost W P k) 1 (p * 1) a = _
    rw [Nat.mul_one]
    show ost W P k a p = _
    unfold ost
    cases g : rsv P k p with
    | none => simp
    | some R =>
      simp only [Option.isSome_some, true_and]
      show _ = (if a.1 < smv W k p + 0 then (smv W k p + 0, dgl k p ++ []) else a)
      rw [Int.add_zero, List.append_nil]
  | succ n ih =>
    intro k p a e
    have six : ∀ j, j ≤ 6 → ofr (ost W P m) (j * 6 ^ n) (p * 6 ^ (n + 1)) a = (match rsv P k p with
        | none => a
        | some R => if 0 ≤ omx W (oop W m n) k R j ∧ a.1 < smv W k p + omx W (oop W m n) k R j then (smv W k p + omx W (oop W m n) k R j, (dgl k p ++ [ofi W (oop W m n) k R j]) ++ ool W m n (R ^^^ 2 ^ ofi W (oop W m n) k R j)) else a) := by
      intro j
      induction j with
      | zero =>
        intro _
        rw [Nat.zero_mul]
        show a = _
        cases rsv P k p with
        | none => rfl
        | some R =>
          exact (if_neg (fun q => absurd q.1 (show ¬ (0 ≤ (-1 : Int)) by decide))).symm
      | succ j ihj =>
        intro hj
        have h1 := ihj (by omega)
        rw [Nat.succ_mul, ofr_add, h1, show p * 6 ^ (n + 1) + j * 6 ^ n = (6 * p + j) * 6 ^ n by rw [Nat.pow_succ, Nat.add_mul, Nat.mul_comm (6 ^ n) 6, ← Nat.mul_assoc, Nat.mul_comm p 6], ih (k + 1) (6 * p + j) _ (by omega)]
        rw [rsv, smv, dgl, show (6 * p + j) / 6 = p by omega, show (6 * p + j) % 6 = j by omega]
        cases g : rsv P k p with
        | none => rfl
        | some R =>
          obtain ⟨r1, r2, r3⟩ := rsv_p hP k p R g
          simp only
          rw [omx, ofi]
          by_cases b : bt R j = true
          · obtain ⟨x1, x2, x3⟩ := bt_xr R r1 j (by omega) b
            have ob := oop_b (W := W) (m := m) hW n (R ^^^ 2 ^ j) (by omega) (by omega)
            have wb := hW j k
            rw [if_pos b, if_pos b]
            simp only
            generalize omx W (oop W m n) k R j = X at *
            generalize oop W m n (R ^^^ 2 ^ j) = Y at *
            by_cases c : 0 ≤ X ∧ a.1 < smv W k p + X
            · rw [if_pos c]
              by_cases d : X < W j k + Y
              · rw [if_pos (show smv W k p + X < smv W k p + W j k + Y by omega), if_pos (show bt R j = true ∧ X < W j k + Y from ⟨b, d⟩), show max X (W j k + Y) = W j k + Y by omega, if_pos (show 0 ≤ W j k + Y ∧ a.1 < smv W k p + (W j k + Y) by omega), Int.add_assoc]
              · rw [if_neg (show ¬ smv W k p + X < smv W k p + W j k + Y by omega), if_neg (show ¬ (bt R j = true ∧ X < W j k + Y) from fun q => d q.2), show max X (W j k + Y) = X by omega, if_pos c]
            · rw [if_neg c]
              by_cases d : a.1 < smv W k p + W j k + Y
              · have d2 : X < W j k + Y := by omega
                rw [if_pos d, if_pos (show bt R j = true ∧ X < W j k + Y from ⟨b, d2⟩), show max X (W j k + Y) = W j k + Y by omega, if_pos (show 0 ≤ W j k + Y ∧ a.1 < smv W k p + (W j k + Y) by omega), Int.add_assoc]
              · rw [if_neg d, if_neg (show ¬ (0 ≤ max X (W j k + Y) ∧ a.1 < smv W k p + max X (W j k + Y)) by omega)]
          · rw [if_neg b, if_neg b, if_neg (show ¬ (bt R j = true ∧ omx W (oop W m n) k R j < W j k + oop W m n (R ^^^ 2 ^ j)) from fun q => b q.1)]
    have h6 := six 6 (Nat.le_refl _)
    rw [show 6 ^ (n + 1) = 6 * 6 ^ n by rw [Nat.pow_succ, Nat.mul_comm]]
    rw [show 6 ^ (n + 1) = 6 * 6 ^ n by rw [Nat.pow_succ, Nat.mul_comm]] at h6
    rw [h6]
    cases g : rsv P k p with
    | none => rfl
    | some R =>
      obtain ⟨r1, r2, r3⟩ := rsv_p hP k p R g
      have ob := oop_b (W := W) (m := m) hW (n + 1) R r1 (by omega)
      have ek : m - (n + 1) = k := by omega
      simp only
      rw [oop, ek] at ob ⊢
      rw [ool, ek, List.append_assoc]
      by_cases c : a.1 < smv W k p + omx W (oop W m n) k R 6
      · rw [if_pos ⟨ob.1, c⟩, if_pos c]; rfl
      · rw [if_neg (fun q => c q.2), if_neg c]
theorem ofr_all (hW : ∀ i d, 0 ≤ W i d ∧ W i d ≤ 60000) {P : Nat} (hP : P < 64) (hm : pc P = m) : ofr (ost W P m) (6 ^ m) 0 (-1, []) = (oop W m m P, ool W m m P) := by
  have h := ofr_blk hW hP hm m 0 0 (-1, []) (by omega)
  rw [Nat.zero_mul] at h
  rw [h]
  have ob := oop_b (W := W) (m := m) hW m P hP hm
  show (if (-1 : Int) < 0 + oop W m m P then (0 + oop W m m P, [] ++ ool W m m P) else _) = _
  rw [if_pos (by omega), Int.zero_add, List.nil_append]
end ZOR
