/-! BASICS: what both sides ask of numbers and blocks -/
def bi (b : Bool) : Int := if b = true then 1 else 0
theorem c14 {M : ZMem} {a b c : Int32} : f_14 M a b c = some (if b ≤ a ∧ a ≤ c then 1 else 0) := by
  unfold f_14
  by_cases h1 : a < b
  · rw [if_pos h1, if_neg]
    rintro ⟨h2, _⟩
    rw [Int32.le_iff_toInt_le] at h2; rw [Int32.lt_iff_toInt_lt] at h1; omega
  · rw [if_neg h1]
    rw [Int32.lt_iff_toInt_lt] at h1
    by_cases h2 : c < a
    · rw [if_pos h2, if_neg]
      rintro ⟨_, h3⟩
      rw [Int32.le_iff_toInt_le] at h3; rw [Int32.lt_iff_toInt_lt] at h2; omega
    · rw [if_neg h2, if_pos]
      rw [Int32.lt_iff_toInt_lt] at h2
      rw [Int32.le_iff_toInt_le, Int32.le_iff_toInt_le]; omega
theorem c14i {M : ZMem} {a b c : Int} (ha : -2147483648 ≤ a ∧ a < 2147483648) (hb : -2147483648 ≤ b ∧ b < 2147483648) (hc : -2147483648 ≤ c ∧ c < 2147483648) : f_14 M (ii a) (ii b) (ii c) = some (if b ≤ a ∧ a ≤ c then 1 else 0) := by
  rw [c14]; simp only [ii_le hb ha, ii_le ha hc]
theorem k133 : zokT 12 133 = true := by decide +kernel
theorem c147 {M : ZMem} (h : Ly M) {a b c : Int32} : f_147 M 133 a b c = some (if b ≤ a ∧ a ≤ c then 1 else 0) := by
  unfold f_147
  rw [if_pos (zok_ly h k133)]
  by_cases h1 : a < b
  · rw [if_pos h1, if_neg]
    rintro ⟨h2, _⟩
    rw [Int32.le_iff_toInt_le] at h2; rw [Int32.lt_iff_toInt_lt] at h1; omega
  · rw [if_neg h1]
    rw [Int32.lt_iff_toInt_lt] at h1
    by_cases h2 : c < a
    · rw [if_pos h2, if_neg]
      rintro ⟨_, h3⟩
      rw [Int32.le_iff_toInt_le] at h3; rw [Int32.lt_iff_toInt_lt] at h2; omega
    · rw [if_neg h2, if_pos]
      rw [Int32.lt_iff_toInt_lt] at h2
      rw [Int32.le_iff_toInt_le, Int32.le_iff_toInt_le]; omega
theorem c147i {M : ZMem} (h : Ly M) {a b c : Int} (ha : -2147483648 ≤ a ∧ a < 2147483648) (hb : -2147483648 ≤ b ∧ b < 2147483648) (hc : -2147483648 ≤ c ∧ c < 2147483648) : f_147 M 133 (ii a) (ii b) (ii c) = some (if b ≤ a ∧ a ≤ c then 1 else 0) := by
  rw [c147 h]; simp only [ii_le hb ha, ii_le ha hc]
/-- a field's kind, by the tables -/
def zfk (t j c : Nat) : Bool := decide (t < 13 ∧ j < zN t ∧ zkd (zty t j) = c)
theorem gI {M : ZMem} (h : Ly M) {t j o : Nat} (hk : zokT t o = true) (hj : zfk t j 0 = true) : zgi M t j o = some (zI M o j) := zgi_ly h hk (of_decide_eq_true hj)
theorem gR {M : ZMem} (h : Ly M) {t j o q : Nat} (hk : zokT t o = true) (hj : zfk t j 2 = true) (hq : zRm o j = some q) : zgr M t j o = some (some q) := zgr_ly h hk (of_decide_eq_true hj) hq
theorem pI {M : ZMem} (h : Ly M) {t j o : Nat} {x : Int32} (hk : zokT t o = true) (hj : zfk t j 0 = true) (hf : zfin t j = false) (hx : zty t j = .int) : zpf M t j o (.int x) false = some (zpI M o j x) := by
  obtain ⟨h1, h2, h3⟩ := of_decide_eq_true hj
  refine zpf_ly h hk ⟨h1, h2, h3, hf⟩ ?_
  rw [hx]; exact ⟨rfl, rfl⟩
theorem rng {a : Int} (h : -1000000000 ≤ a ∧ a ≤ 1000000000) : -2147483648 ≤ a ∧ a < 2147483648 := by omega
theorem nb01 (p : Prop) [Decidable p] : narrow .boolean (.int (if p then 1 else 0)) = .int (if p then 1 else 0) := by
  by_cases h : p <;> simp only [if_pos, if_neg, h] <;> rfl
theorem g133 {M : ZMem} {s : ZSt} (h : Ly M) (hs : RM M s) {j : Nat} (hj : zfk 12 j 0 = true) (hz : zst 133 j = true) : zgi M 12 j 133 = some (ii (s 133 j)) := by
  rw [gI h k133 hj, hs 133 j hz]
theorem c149 {M : ZMem} {s : ZSt} (h : Ly M) (hs : RM M s) (hi : SIn s) {b : Int} (hb : -2147483648 ≤ b ∧ b < 2147483648) : f_149 M 133 (ii b) = some (if 0 ≤ b ∧ b < s 133 0 then 1 else 0) := by
  have h0 := hi.1
  unfold f_149
  rw [if_pos (zok_ly h k133), g133 h hs (by decide) rfl, zb_some, show (1 : Int32) = ii 1 from rfl, show (0 : Int32) = ii 0 from rfl, ii_sub, c147i h hb (by omega) (by omega), zb_some, nb01, if_pos rfl]
  have : (0 ≤ b ∧ b ≤ s 133 0 - 1) = (0 ≤ b ∧ b < s 133 0) := by apply propext; omega
  simp only [this]; rfl
theorem k20 : zokT 11 20 = true := by decide +kernel
/-- the block of that number in a yard, from its count -/
def fnd (y : Nat) (n b : Int) : Option Nat := if 0 ≤ b ∧ b < n then some (y + 2 + 2 * b.toNat) else none
theorem c19 {M : ZMem} (h : Ly M) {y : Nat} (hy : y ∈ [22, 49, 75]) {n b : Int} (hn : zI M y 1 = ii n) (h0 : 0 ≤ n ∧ n ≤ 6) (hb : -2147483648 ≤ b ∧ b < 2147483648) : f_19 M y (ii b) = some (fnd y n b) := by
  have hk : zokT 10 y = true := by
    simp only [List.mem_cons, List.not_mem_nil, or_false] at hy
    rcases hy with rfl | rfl | rfl <;> decide +kernel
  have hr : zRm y 0 = some (y + 1) := by
    simp only [List.mem_cons, List.not_mem_nil, or_false] at hy
    rcases hy with rfl | rfl | rfl <;> decide +kernel
  have hy1 : y + 1 ∈ [23, 50, 76, 90, 108] := by
    simp only [List.mem_cons, List.not_mem_nil, or_false] at hy ⊢
    omega
  unfold f_19
  rw [if_pos (zok_ly h hk), gI h hk (by decide), zb_some, hn, show (1 : Int32) = ii 1 from rfl, show (0 : Int32) = ii 0 from rfl, ii_sub, c14i hb (by omega) (by omega), zb_some]
  have e1 : (0 ≤ b ∧ b ≤ n - 1) = (0 ≤ b ∧ b < n) := by apply propext; omega
  simp only [e1]
  unfold fnd
  by_cases hc : 0 ≤ b ∧ b < n
  · rw [if_pos hc, if_pos hc, if_neg (by decide), gR h hk (by decide) hr, zb_some, zb_some, zlaR_ly h hy1 (by rw [ii_toInt hb]; omega), zb_some, ii_toInt hb]
    simp only [List.mem_cons, List.not_mem_nil, or_false] at hy
    rw [if_neg (by rcases hy with rfl | rfl | rfl <;> simp <;> omega)]
    rcases hy with rfl | rfl | rfl <;> simp <;> omega
  · rw [if_neg hc, if_neg hc]; rfl
theorem k21 : zokT 7 21 = true := by decide +kernel
/-- from the object to the yard that holds -/
theorem gnow {M : ZMem} (h : Ly M) : zgr M 11 0 20 = some (some 21) := gR h k20 (by decide) (by decide +kernel)
theorem gyd {M : ZMem} (h : Ly M) : zgr M 7 0 21 = some (some 22) := gR h k21 (by decide) (by decide +kernel)
theorem kB {y : Nat} (hy : y ∈ [22, 49, 75]) {b : Nat} (hb : b < 6) : zokT 1 (y + 2 + 2 * b) = true := by
  simp only [List.mem_cons, List.not_mem_nil, or_false] at hy
  have hz : b = 0 ∨ b = 1 ∨ b = 2 ∨ b = 3 ∨ b = 4 ∨ b = 5 := by omega
  rcases hy with rfl | rfl | rfl <;> rcases hz with rfl | rfl | rfl | rfl | rfl | rfl <;> decide +kernel
/-- dry -/
def sp48 (s : ZSt) (b n : Int) : Int × ZSt := if 0 ≤ b ∧ b < s 133 0 then (if 0 ≤ n ∧ n ≤ 99 then (s 137 b.toNat, up s 137 b.toNat n) else (-2, s)) else (-1, s)
theorem m148 {M : ZMem} {s : ZSt} (h : Ly M) (hs : RM M s) (hi : SIn s) {b n : Int} (hb : -2147483648 ≤ b ∧ b < 2147483648) (hn : -2147483648 ≤ n ∧ n < 2147483648) : ∃ M', f_148 M 133 (ii b) (ii n) = some (ii (sp48 s b n).1, M') ∧ Ly M' ∧ Dn M M' ∧ RM M' (sp48 s b n).2 := by
  have h0 := hi.1
  unfold f_148 sp48
  rw [if_pos (zok_ly h k133), c149 h hs hi hb, zb_some]
  by_cases hc : 0 ≤ b ∧ b < s 133 0
  · rw [if_pos hc, if_pos hc, if_pos (by decide), show (99 : Int32) = ii 99 from rfl, show (0 : Int32) = ii 0 from rfl, c147i h hn (by omega) (by omega), zb_some]
    by_cases hd : 0 ≤ n ∧ n ≤ 99
    · have hbz : 0 ≤ (ii b).toInt ∧ (ii b).toInt < (6 : Nat) := by rw [ii_toInt hb]; omega
      rw [if_pos hd, if_pos hd, if_pos (by decide), gR h k133 (by decide) (show zRm 133 6 = some 137 by decide +kernel), zb_some, zb_some, zai_ly h (by omega) (show zSh.getD 137 (0, 0) = (20, 6) from rfl) hbz, zb_some, zb_some, zb_some, zsa_ly h (by omega) (show zSh.getD 137 (0, 0) = (20, 6) from rfl) hbz, zb_some, ii_toInt hb]
      refine ⟨_, ?_, (Ly_pI _ _ _ _).mpr h, (Dn.rf M).pI (by omega), RM_up hs _ _ _⟩
      rw [hs 137 _ rfl]
    · rw [if_neg hd, if_neg hd]
      exact ⟨_, rfl, h, Dn.rf M, hs⟩
  · rw [if_neg hc, if_neg hc]
    exact ⟨_, rfl, h, Dn.rf M, hs⟩
theorem up_fn {s : ZSt} {p k : Nat} {v : Int} {a : Nat} (h : a ≠ p) : up s p k v a = s a := funext fun _ => up_ne h
theorem RCy_fr {M M' : ZMem} {s : ZSt} (h : RCy M s) : (∀ j, zI M' 22 j = zI M 22 j) → RCy M' s := by
  intro e0
  unfold RCy at h ⊢
  simp only [e0]
  exact h
theorem RCs_fr {M M' : ZMem} {s : ZSt} (h : RCs M s) : (∀ j, zI M' 36 j = zI M 36 j) → (∀ j, zI M' 37 j = zI M 37 j) → (∀ j, zI M' 38 j = zI M 38 j) → (∀ j, zI M' 39 j = zI M 39 j) → RCs M' s := by
  intro e0 e1 e2 e3
  unfold RCs at h ⊢
  simp only [e0, e1, e2, e3]
  exact h
theorem RCw_fr {M M' : ZMem} {s : ZSt} (h : RCw M s) : (∀ j, zI M' 40 j = zI M 40 j) → (∀ j, zI M' 41 j = zI M 41 j) → (∀ j, zI M' 42 j = zI M 42 j) → (∀ j, zI M' 43 j = zI M 43 j) → RCw M' s := by
  intro e0 e1 e2 e3
  unfold RCw at h ⊢
  simp only [e0, e1, e2, e3]
  exact h
theorem RCk_fr {M M' : ZMem} {s : ZSt} (h : RCk M s) : (∀ j, zI M' 44 j = zI M 44 j) → (∀ j, zI M' 45 j = zI M 45 j) → (∀ j, zI M' 46 j = zI M 46 j) → (∀ j, zI M' 47 j = zI M 47 j) → RCk M' s := by
  intro e0 e1 e2 e3
  unfold RCk at h ⊢
  simp only [e0, e1, e2, e3]
  exact h
theorem RCa_fr {M M' : ZMem} {s : ZSt} (h : RCa M s) : (∀ j, zI M' 106 j = zI M 106 j) → (∀ j, zI M' 107 j = zI M 107 j) → RCa M' s := by
  intro e0 e1
  unfold RCa at h ⊢
  simp only [e0, e1]
  exact h
theorem RCy_sf {M : ZMem} {s s' : ZSt} (h : RCy M s) : s' 133 0 = s 133 0 → s' 133 1 = s 133 1 → s' 133 2 = s 133 2 → s' 133 10 = s 133 10 → RCy M s' := by
  intro e0 e1 e2 e3
  unfold RCy at h ⊢
  simp only [e0, e1, e2, e3]
  exact h
theorem RCs_sf {M : ZMem} {s s' : ZSt} (h : RCs M s) : s' 133 38 = s 133 38 → s' 159 = s 159 → s' 160 = s 160 → s' 161 = s 161 → RCs M s' := by
  intro e0 e1 e2 e3
  unfold RCs at h ⊢
  simp only [e0, e1, e2, e3]
  exact h
theorem RCw_sf {M : ZMem} {s s' : ZSt} (h : RCw M s) : s' 133 42 = s 133 42 → s' 162 = s 162 → s' 163 = s 163 → RCw M s' := by
  intro e0 e1 e2
  unfold RCw at h ⊢
  simp only [e0, e1, e2]
  exact h
theorem RCk_sf {M : ZMem} {s s' : ZSt} (h : RCk M s) : s' 133 43 = s 133 43 → s' 164 = s 164 → s' 165 = s 165 → RCk M s' := by
  intro e0 e1 e2
  unfold RCk at h ⊢
  simp only [e0, e1, e2]
  exact h
theorem RCa_sf {M : ZMem} {s s' : ZSt} (h : RCa M s) : s' 133 69 = s 133 69 → s' 179 = s 179 → RCa M s' := by
  intro e0 e1
  unfold RCa at h ⊢
  simp only [e0, e1]
  exact h
theorem RCt_sf {M : ZMem} {s s' : ZSt} (h : RCt M s) : s' 133 11 = s 133 11 → s' 133 9 = s 133 9 → s' 140 = s 140 → RCt M s' := by
  intro e0 e1 e2
  unfold RCt at h ⊢
  simp only [e0, e1, e2]
  exact h
theorem RCi_sf {M : ZMem} {s s' : ZSt} (h : RCi M s) : s' 133 48 = s 133 48 → s' 133 50 = s 133 50 → s' 133 51 = s 133 51 → s' 133 52 = s 133 52 → s' 133 49 = s 133 49 → s' 133 53 = s 133 53 → s' 133 54 = s 133 54 → s' 133 55 = s 133 55 → s' 166 = s 166 → s' 167 = s 167 → s' 168 = s 168 → s' 169 = s 169 → s' 170 = s 170 → s' 171 = s 171 → s' 172 = s 172 → s' 173 = s 173 → s' 174 = s 174 → s' 175 = s 175 → s' 176 = s 176 → s' 177 = s 177 → s' 178 = s 178 → RCi M s' := by
  intro e0 e1 e2 e3 e4 e5 e6 e7 e8 e9 e10 e11 e12 e13 e14 e15 e16 e17 e18 e19 e20
  unfold RCi Bk at h ⊢
  simp only [e0, e1, e2, e3, e4, e5, e6, e7, e8, e9, e10, e11, e12, e13, e14, e15, e16, e17, e18, e19, e20]
  exact h
theorem RCb_sf {M : ZMem} {s s' : ZSt} (h : RCb M s) : s' 133 0 = s 133 0 → s' 134 = s 134 → s' 135 = s 135 → s' 136 = s 136 → s' 137 = s 137 → s' 138 = s 138 → s' 139 = s 139 → RCb M s' := by
  intro e0 e1 e2 e3 e4 e5 e6
  unfold RCb Bk at h ⊢
  simp only [e0, e1, e2, e3, e4, e5, e6]
  exact h
theorem RCt_fr {M M' : ZMem} {s : ZSt} (h : RCt M s) : (∀ j, 3 ≤ j → zI M' 20 j = zI M 20 j) → (∀ j, zI M' 89 j = zI M 89 j) → RCt M' s := by
  intro e0 e1
  unfold RCt at h ⊢
  simp only [e1, e0 5 (by omega), e0 7 (by omega)]
  exact h
theorem RCb_fr {M M' : ZMem} {s : ZSt} (h : RCb M s) (hn : s 133 0 ≤ 6) : (∀ p, 24 ≤ p → p ≤ 35 → ∀ j, zI M' p j = zI M p j) → RCb M' s := by
  intro e b hb
  have h1 := h b hb
  unfold Bk at h1 ⊢
  simp only [e (24 + 2 * b) (by omega) (by omega), e (24 + 2 * b + 1) (by omega) (by omega)]
  exact h1
theorem RCi_fr {M M' : ZMem} {s : ZSt} (h : RCi M s) (hn : s 133 50 ≤ 6) : zI M' 20 2 = zI M 20 2 → (∀ p, 49 ≤ p → p ≤ 74 → ∀ j, zI M' p j = zI M p j) → RCi M' s := by
  intro e0 e
  refine ⟨e0.trans h.1, fun hq => ?_⟩
  obtain ⟨h1, h2, h3, h4, h5⟩ := h.2 hq
  refine ⟨?_, fun b hb => ?_, ?_, ?_, ?_⟩
  · simp only [e 49 (by omega) (by omega)]; exact h1
  · have h1 := h2 b hb
    unfold Bk at h1 ⊢
    simp only [e (51 + 2 * b) (by omega) (by omega), e (51 + 2 * b + 1) (by omega) (by omega)]
    exact h1
  · simp only [e 63 (by omega) (by omega), e 64 (by omega) (by omega), e 65 (by omega) (by omega), e 66 (by omega) (by omega)]; exact h3
  · simp only [e 67 (by omega) (by omega), e 68 (by omega) (by omega), e 69 (by omega) (by omega)]; exact h4
  · simp only [e 71 (by omega) (by omega), e 72 (by omega) (by omega), e 73 (by omega) (by omega)]; exact h5
theorem RCh_fr {M M' : ZMem} {s : ZSt} (h : RCh M s) (hn : s 133 9 ≤ 6) : (∀ p, 109 ≤ p → p ≤ 120 → ∀ j, zI M' p j = zI M p j) → RCh M' s := by
  intro e k hk
  have h1 := h k hk
  unfold Hl at h1 ⊢
  simp only [e (109 + 2 * k) (by omega) (by omega), e (110 + 2 * k) (by omega) (by omega)]
  exact h1
theorem RCp_fr {M M' : ZMem} {s : ZSt} {l : Nat → Int64} (h : RCp M s l) : (∀ p, 121 ≤ p → p ≤ 132 → (∀ j, zI M' p j = zI M p j) ∧ ∀ j, zL M' p j = zL M p j) → RCp M' s l := by
  intro e t ht
  have h1 := h t ht
  simp only [(e (121 + 2 * t) (by omega) (by omega)).1, (e (122 + 2 * t) (by omega) (by omega)).2]
  exact h1
theorem zstl_sf {s s' : ZSt} (h2 : s' 142 = s 142) (h3 : s' 143 = s 143) (h4 : s' 144 = s 144) (h5 : s' 145 = s 145) (h6 : s' 146 = s 146) (c n : Nat) : zstl s' c n = zstl s c n := by
  induction n generalizing c with
  | zero => rfl
  | succ n ih => unfold zstl; rw [ih]; unfold zstc; rw [h2, h3, h4, h5, h6]
theorem zlst_sf {s s' : ZSt} (h2 : s' 142 = s 142) (h3 : s' 143 = s 143) (w : Int) (c n : Nat) (x : Int) : zlst s' w c n x = zlst s w c n x := by
  induction n generalizing c x with
  | zero => rfl
  | succ n ih => unfold zlst; rw [ih, h2, h3]
theorem RCh_sf {M : ZMem} {s s' : ZSt} (h : RCh M s) (h9 : s' 133 9 = s 133 9) (h1 : s' 141 = s 141) (h2 : s' 142 = s 142) (h3 : s' 143 = s 143) (h4 : s' 144 = s 144) (h5 : s' 145 = s 145) (h6 : s' 146 = s 146) : RCh M s' := by
  intro k hk
  rw [h9] at hk
  have hh := h k hk
  unfold Hl at hh ⊢
  simp only [zstl_sf h2 h3 h4 h5 h6, zlst_sf h2 h3, h1]
  exact hh
theorem RCp_sf {M : ZMem} {s s' : ZSt} {l : Nat → Int64} (h : RCp M s l) (h1 : s' 180 = s 180) (h2 : s' 181 = s 181) : RCp M s' l := by
  intro t ht
  rw [h1, h2]; exact h t ht
theorem zCt_in : ∀ e ∈ zCt, (e.1 < 20 ∨ e.1 = 148 ∨ e.1 = 91 ∨ e.2.1 = 0) ∧ (e.1 = 91 ∨ e.1 < 20 ∨ e.1 = 148 ∨ e.1 ∈ [24, 26, 28, 30, 32, 34, 51, 53, 55, 57, 59, 61, 77, 79, 81, 83, 85, 87, 36, 40, 44, 63, 67, 71]) := by decide +kernel
/-- what stays, stays: all but the places that are written -/
theorem RCc_fr {M M' : ZMem} (h : RCc M) : (∀ p j, (p < 20 ∨ p = 148 ∨ p = 91 ∨ (j = 0 ∧ p ∈ [24, 26, 28, 30, 32, 34, 51, 53, 55, 57, 59, 61, 77, 79, 81, 83, 85, 87, 36, 40, 44, 63, 67, 71])) → zI M' p j = zI M p j) → RCc M' := by
  intro e q hq
  have h1 := zCt_in q hq
  rw [e q.1 q.2.1 ?_]
  · exact h q hq
  · rcases h1 with ⟨h1, h2⟩
    rcases h2 with h2 | h2 | h2 | h2
    · exact .inr (.inr (.inl h2))
    · exact .inl h2
    · exact .inr (.inl h2)
    · rcases h1 with h1 | h1 | h1 | h1
      · exact .inl h1
      · exact .inr (.inl h1)
      · exact .inr (.inr (.inl h1))
      · exact .inr (.inr (.inr ⟨h1, h2⟩))
/-- the state's bounds that the frames ask for -/
def SI6 (s : ZSt) : Prop := SIn s ∧ s 133 50 ≤ 6
/-- only blocks change -/
theorem RC_blk {M M' : ZMem} {s s' : ZSt} {l : Nat → Int64} (h : RC M s l) (hi : s 133 0 ≤ 6 ∧ s 133 50 ≤ 6 ∧ s 133 9 ≤ 6) (hM : ∀ p, (p < 24 ∨ 35 < p) → (∀ j, zI M' p j = zI M p j) ∧ ∀ j, zL M' p j = zL M p j) (h0 : ∀ b, b < 6 → zI M' (24 + 2 * b) 0 = zI M (24 + 2 * b) 0) (hs : ∀ q, (q < 134 ∨ 139 < q) → s' q = s q) (hb : RCb M' s') : RC M' s' l := by
  obtain ⟨⟨h1, h2, h3⟩, ⟨h4, h5, h6⟩, h7, h8, h9, h10, h11⟩ := h
  have e : ∀ p, (p < 24 ∨ 35 < p) → ∀ j, zI M' p j = zI M p j := fun p hp => (hM p hp).1
  have t133 := hs 133 (by omega)
  refine ⟨⟨RCy_sf (RCy_fr h1 (e 22 (by omega))) ?_ ?_ ?_ ?_, hb, RCc_fr h3 ?_⟩, ⟨RCs_sf (RCs_fr h4 (e 36 (by omega)) (e 37 (by omega)) (e 38 (by omega)) (e 39 (by omega))) ?_ ?_ ?_ ?_, RCw_sf (RCw_fr h5 (e 40 (by omega)) (e 41 (by omega)) (e 42 (by omega)) (e 43 (by omega))) ?_ ?_ ?_, RCk_sf (RCk_fr h6 (e 44 (by omega)) (e 45 (by omega)) (e 46 (by omega)) (e 47 (by omega))) ?_ ?_ ?_⟩, RCt_sf (RCt_fr h7 (fun j _ => e 20 (by omega) j) (e 89 (by omega))) ?_ ?_ ?_, RCi_sf (RCi_fr h8 hi.2.1 (e 20 (by omega) 2) (fun p h1 h2 => e p (by omega))) ?_ ?_ ?_ ?_ ?_ ?_ ?_ ?_ ?_ ?_ ?_ ?_ ?_ ?_ ?_ ?_ ?_ ?_ ?_ ?_ ?_, RCa_sf (RCa_fr h9 (e 106 (by omega)) (e 107 (by omega))) ?_ ?_, RCh_sf (RCh_fr h10 hi.2.2 (fun p h1 h2 => e p (by omega))) ?_ ?_ ?_ ?_ ?_ ?_ ?_, RCp_sf (RCp_fr h11 (fun p h1 h2 => hM p (by omega))) ?_ ?_⟩
  all_goals first | exact congrFun t133 _ | exact hs _ (by omega) | skip
  intro p j hp
  by_cases hq : p < 24 ∨ 35 < p
  · exact e p hq j
  · have hp2 : j = 0 ∧ p % 2 = 0 := by
      rcases hp with h | h | h | ⟨h, h'⟩
      · omega
      · omega
      · omega
      · refine ⟨h, ?_⟩
        simp only [List.mem_cons, List.not_mem_nil, or_false] at h'
        omega
    have := h0 ((p - 24) / 2) (by omega)
    rw [show 24 + 2 * ((p - 24) / 2) = p by omega] at this
    rw [hp2.1]; exact this
/-- a number of a block -/
theorem RCb_put {M : ZMem} {s : ZSt} (h : RCb M s) {b k q : Nat} {v : Int} (hk : (k = 1 ∧ q = 134) ∨ (k = 2 ∧ q = 135) ∨ (k = 3 ∧ q = 136) ∨ (k = 4 ∧ q = 137) ∨ (k = 5 ∧ q = 138)) : RCb (zpI M (24 + 2 * b) k (ii v)) (up s q b v) := by
  intro c hc
  rw [up_fn (show (133 : Nat) ≠ q by omega)] at hc
  obtain ⟨⟨h1, h2, h3, h4, h5⟩, h6⟩ := h c hc
  by_cases hbc : c = b
  · subst hbc
    refine ⟨?_, fun r hr => ?_⟩
    · rcases hk with ⟨rfl, rfl⟩ | ⟨rfl, rfl⟩ | ⟨rfl, rfl⟩ | ⟨rfl, rfl⟩ | ⟨rfl, rfl⟩ <;> simp_all [zI_pI, up_eq]
    · rw [zI_ne (by omega), up_fn (by omega)]; exact h6 r hr
  · refine ⟨?_, fun r hr => ?_⟩
    · simp only [zI_ne (show 24 + 2 * c ≠ 24 + 2 * b by omega), up_nk (show c ≠ b by omega)]
      exact ⟨h1, h2, h3, h4, h5⟩
    · rw [zI_ne (by omega), up_fn (by omega)]; exact h6 r hr
theorem RC_put {M : ZMem} {s : ZSt} {l : Nat → Int64} (h : RC M s l) (hi : s 133 0 ≤ 6 ∧ s 133 50 ≤ 6 ∧ s 133 9 ≤ 6) {b k q : Nat} {v : Int} (hb : b < 6) (hk : (k = 1 ∧ q = 134) ∨ (k = 2 ∧ q = 135) ∨ (k = 3 ∧ q = 136) ∨ (k = 4 ∧ q = 137) ∨ (k = 5 ∧ q = 138)) : RC (zpI M (24 + 2 * b) k (ii v)) (up s q b v) l := by
  refine RC_blk h hi (fun p hp => ⟨fun j => zI_ne (by omega), fun j => rfl⟩) (fun c hc => zI_nk (by omega)) (fun a ha => up_fn (by omega)) (RCb_put h.1.2.1 hk)
theorem fnd_some {y : Nat} {n b : Int} (h : 0 ≤ b ∧ b < n) : fnd y n b = some (y + 2 + 2 * b.toNat) := if_pos h
theorem fnd_none {y : Nat} {n b : Int} (h : ¬ (0 ≤ b ∧ b < n)) : fnd y n b = none := if_neg h
theorem zcs_no {β : Type} (a : Option β) (f : Nat → Option β) : zcs none a f = a := rfl
theorem zcs_so {β : Type} (q : Nat) (a : Option β) (f : Nat → Option β) (h : q ≠ 18) : zcs (some q) a f = f q := if_neg h
theorem m48 {M : ZMem} {s : ZSt} {l : Nat → Int64} (h : Ly M) (hs : RC M s l) (hi : SI6 s) {b n : Int} (hb : -2147483648 ≤ b ∧ b < 2147483648) (hn : -2147483648 ≤ n ∧ n < 2147483648) : ∃ M', f_48 M 20 (ii b) (ii n) = some (ii (sp48 s b n).1, M') ∧ Ly M' ∧ Up M M' ∧ RC M' (sp48 s b n).2 l := by
  have h0 := hi.1.1
  have h9 := hi.1.2.2.2.1
  unfold f_48 sp48
  rw [if_pos (zok_ly h k20), gnow h, zb_some, zb_some, gyd h, zb_some, zb_some, c19 h (by decide) hs.1.1.1 h0 hb, zb_some]
  by_cases hc : 0 ≤ b ∧ b < s 133 0
  · have hkb := kB (y := 22) (by decide) (show b.toNat < 6 by omega)
    rw [fnd_some hc, zcs_so _ _ _ (by omega), if_pos hc, show (99 : Int32) = ii 99 from rfl, show (0 : Int32) = ii 0 from rfl, c14i hn (by omega) (by omega), zb_some]
    by_cases hd : 0 ≤ n ∧ n ≤ 99
    · rw [if_pos hd, if_pos hd, if_pos (by decide), gI h hkb (by decide), zb_some, pI h hkb (by decide) (by decide) (by decide), zb_some]
      refine ⟨_, ?_, (Ly_pI _ _ _ _).mpr h, (Up.rf M).pI (by omega), RC_put hs ⟨h0.2, hi.2, h9.2⟩ (by omega) (.inr (.inr (.inr (.inl ⟨rfl, rfl⟩))))⟩
      have := (hs.1.2.1 b.toNat (by omega)).1.2.2.2.1
      rw [show 22 + 2 + 2 * b.toNat = 24 + 2 * b.toNat by omega, this]
    · rw [if_neg hd, if_neg hd]
      exact ⟨_, rfl, h, Up.rf M, hs⟩
  · rw [fnd_none hc, zcs_no, if_neg hc]
    exact ⟨_, rfl, h, Up.rf M, hs⟩
