/-! PRICE: the reference's, whole; the class's steps -/
theorem gd_app1 {α : Type} {l r : List α} {n : Nat} {d : α} (h : n < l.length) : (l ++ r).getD n d = l.getD n d := by
  rw [List.getD_eq_getElem?_getD, List.getD_eq_getElem?_getD, List.getElem?_append_left h]
theorem gd_app2 {α : Type} {l r : List α} {n : Nat} {d : α} (h : l.length ≤ n) : (l ++ r).getD n d = r.getD (n - l.length) d := by
  rw [List.getD_eq_getElem?_getD, List.getD_eq_getElem?_getD, List.getElem?_append_right h]
theorem gd_map {α β : Type} {f : α → β} {l : List α} {n : Nat} {d : α} {e : β} (h : n < l.length) : (l.map f).getD n e = f (l.getD n d) := by
  rw [List.getD_eq_getElem?_getD, List.getD_eq_getElem?_getD, List.getElem?_map, List.getElem?_eq_getElem h]
  rfl
theorem sgl_len {s : ZSt} {c : Nat} : (sgl s c).length = (s 145 c - s 144 c).toNat := by
  unfold sgl
  rw [List.length_map, List.length_range]
theorem sgl_get {s : ZSt} {c i : Nat} (h : i < (sgl s c).length) : (sgl s c).getD i 0 = s 146 ((s 144 c).toNat + i) := by
  rw [sgl_len] at h
  unfold sgl
  rw [List.getD_eq_getElem?_getD, List.getElem?_map, List.getElem?_range h]
  rfl
theorem c171 {M0 M : ZMem} {s : ZSt} (hM : MS M0 M s) {b c : Nat} (hb : b < 6) (hv : SBk s 0 b) (hd : 0 ≤ s 133 1 ∧ s 133 1 < 100000) (hc : c < 60) (hs : SHc s c) (hw : s 142 c ≤ 1) : MG M0 (f_171 M 133 (ii c) (ii b)) (bz (hld s b c = true)) s := by
  obtain ⟨⟨h1, h2, h3⟩, h4⟩ := hs.2.2 hw
  have r18 := rPm hM.1 (j := 18) (by decide) (show zRm 133 18 = some 144 by decide +kernel)
  have x144 := rM hM.1 hM.2.2 (P := 144) (n := 60) (b := (c : Int)) (by decide) (fun _ => rfl) (by omega) (by omega)
  rw [Int.toNat_natCast] at x144
  unfold f_171
  rw [if_pos (zok_ly hM.1 k133), r18, zb_some, zb_some, x144, zb_some]
  have := c171a (M0 := M0) hb hv hd hc (by omega) (sgl s c) zF (s 144 c).toNat M [] hM trivial (fun i hi => (sgl_get hi).symm) (by rw [sgl_len]; omega) (by rw [sgl_len]; unfold zF; omega) h4 (by simp)
  rw [show (((s 144 c).toNat : Nat) : Int) = s 144 c by omega] at this
  exact this
theorem prl_b {s : ZSt} {b : Nat} : ∀ (n k : Nat) (x : Int), (∀ j, k ≤ j → j < k + n → 0 ≤ s 143 j ∧ s 143 j ≤ 99) → x - 99 * n ≤ prl s b k n x ∧ prl s b k n x ≤ x + 99 * n := by
  intro n
  induction n with
  | zero => intro k x _; rw [prl]; omega
  | succ n ih =>
    intro k x hj
    have := hj k (by omega) (by omega)
    have h := ih (k + 1) (if s 142 k ≤ 1 ∧ hld s b k = true then (if s 142 k = 0 then x + s 143 k else x - s 143 k) else x) (fun j h1 h2 => hj j (by omega) (by omega))
    rw [prl]
    split at h
    · rename_i q
      rw [if_pos q]
      split at h
      · rename_i q2
        rw [if_pos q2]; omega
      · rename_i q2
        rw [if_neg q2]; omega
    · rename_i q
      rw [if_neg q]; omega
theorem hnm_10 {s : ZSt} (hi : SIn s) (hh : SH s) : hnm s ≤ 10 := by
  have h9 := hi.2.2.2.1
  have h10 := hi.2.2.2.2.1
  unfold hnm
  by_cases c : 0 ≤ s 133 10
  · simp only [if_pos c]
    have hx := (hh (s 133 10).toNat (by omega)).1
    omega
  · simp only [if_neg c]; omega
theorem prc_b {s : ZSt} (hi : SIn s) (hh : SH s) (b : Nat) : 0 ≤ prc s b ∧ prc s b ≤ 1000 := by
  have h := prl_b (s := s) (b := b) (hnm s) (hcl s) 10 (fun j h1 h2 => (hcl_c hi hh h1 h2).1.2.1)
  have := hnm_10 hi hh
  unfold prc
  omega
theorem c168a {M0 : ZMem} {s : ZSt} (hi : SIn s) (hh : SH s) {b : Nat} (hb : b < 6) (hv : SBk s 0 b) (hd : 0 ≤ s 133 1 ∧ s 133 1 < 100000) : ∀ (n z k : Nat) (p : Int) (M : ZMem), MS M0 M s → k + n = hcl s + hnm s → hcl s ≤ k → n < z → (-(10000 - 100 * (n : Int)) ≤ p ∧ p ≤ 10000 - 100 * (n : Int)) → MG M0 (f_168_8 z M 133 (ii b) (ii p) (ii k)) (ii (max 0 (prl s b k n p))) s := by
  have h60 := hcl_60 hi hh
  intro n
  induction n with
  | zero =>
    intro z k p M hM e hk hz hp
    obtain ⟨y, rfl⟩ : ∃ y, z = y + 1 := ⟨z - 1, by omega⟩
    rw [f_168_8, c170 hM.1 hM.2.2 hi hh, zb_some, if_pos (by rw [ii_le (by omega) (by omega)]; omega), c173 hM.1 (by omega), zb_some]
    exact MG_ret hM
  | succ n ih =>
    intro z k p M hM e hk hz hp
    obtain ⟨y, rfl⟩ : ∃ y, z = y + 1 := ⟨z - 1, by omega⟩
    obtain ⟨hs, hk60⟩ := hcl_c hi hh hk (by omega)
    have w1 := hs.1
    have w2 := hs.2.1
    have r16 := fun (N : ZMem) (hN : MS M0 N s) => rPm hN.1 (j := 16) (by decide) (show zRm 133 16 = some 142 by decide +kernel)
    have r17 := fun (N : ZMem) (hN : MS M0 N s) => rPm hN.1 (j := 17) (by decide) (show zRm 133 17 = some 143 by decide +kernel)
    have x142 := fun (N : ZMem) (hN : MS M0 N s) => rM hN.1 hN.2.2 (P := 142) (n := 60) (b := (k : Int)) (by decide) (fun _ => rfl) (by omega) (by omega)
    have x143 := fun (N : ZMem) (hN : MS M0 N s) => rM hN.1 hN.2.2 (P := 143) (n := 60) (b := (k : Int)) (by decide) (fun _ => rfl) (by omega) (by omega)
    simp only [Int.toNat_natCast] at x142 x143
    have ek : ii (k : Int) + 1 = ii ((k + 1 : Nat) : Int) := by rw [show (1 : Int32) = ii 1 from rfl, ii_add]; rfl
    rw [f_168_8, c170 hM.1 hM.2.2 hi hh, zb_some, if_neg (by rw [ii_le (by omega) (by omega)]; omega), r16 M hM, zb_some, zb_some, x142 M hM, zb_some, prl]
    unfold f_168_64 f_168_66
    by_cases c : s 142 k ≤ 1
    · rw [if_neg (by rw [show (1 : Int32) = ii 1 from rfl, ii_lt (by omega) (by omega)]; omega)]
      refine MG_bd (c171 hM hb hv hd hk60 hs c) fun M1 h1 => ?_
      by_cases d : hld s b k = true
      · rw [if_pos (show s 142 k ≤ 1 ∧ hld s b k = true from ⟨c, d⟩), bzT d, if_pos (show ¬ (1 : Int32) = 0 by decide), r16 M1 h1, zb_some, zb_some, x142 M1 h1, zb_some]
        by_cases g : s 142 k = 0
        · rw [if_pos g, g, if_neg (show ¬ ¬ ii 0 = 0 by decide), r17 M1 h1, zb_some, zb_some, x143 M1 h1, zb_some, ek, ii_add]
          exact ih y (k + 1) (p + s 143 k) M1 h1 (by omega) (by omega) (by omega) (by omega)
        · rw [if_neg g, if_pos (show ¬ ii (s 142 k) = 0 by rw [show (0 : Int32) = ii 0 from rfl, ii_eq (by omega) (by omega)]; exact g), r17 M1 h1, zb_some, zb_some, x143 M1 h1, zb_some, ek, ii_neg, ii_add, show p + -s 143 k = p - s 143 k by omega]
          exact ih y (k + 1) (p - s 143 k) M1 h1 (by omega) (by omega) (by omega) (by omega)
      · rw [if_neg (show ¬ (s 142 k ≤ 1 ∧ hld s b k = true) from fun q => d q.2), bzF d, if_neg (show ¬ ¬ (0 : Int32) = 0 by decide), ek]
        exact ih y (k + 1) p M1 h1 (by omega) (by omega) (by omega) (by omega)
    · rw [if_pos (by rw [show (1 : Int32) = ii 1 from rfl, ii_lt (by omega) (by omega)]; omega), if_neg (fun q => c q.1), ek]
      exact ih y (k + 1) p M hM (by omega) (by omega) (by omega) (by omega)
theorem c168 {M0 M : ZMem} {s : ZSt} (hM : MS M0 M s) (hi : SIn s) (hh : SH s) {b : Nat} (hb : b < 6) (hv : SBk s 0 b) (hd : 0 ≤ s 133 1 ∧ s 133 1 < 100000) : MG M0 (f_168 M 133 (ii b)) (ii (prc s b)) s := by
  have h60 := hcl_60 hi hh
  have h10 := hnm_10 hi hh
  unfold f_168 prc
  rw [if_pos (zok_ly hM.1 k133), c169 hM.1 hM.2.2 hi, zb_some]
  exact c168a hi hh hb hv hd (hnm s) zF (hcl s) 10 M hM rfl (Nat.le_refl _) (by unfold zF; omega) (by omega)
/-- the class's pile: bits, the newest the lowest -/
def fv : List Bool → Nat
  | [] => 0
  | a :: r => (if a = true then 1 else 0) + 2 * fv r
theorem fv_lt : ∀ st : List Bool, fv st < 2 ^ st.length := by
  intro st
  induction st with
  | nil => decide
  | cons a r ih =>
    rw [fv, List.length_cons, Nat.pow_succ]
    split <;> omega
theorem fv_12 {st : List Bool} {n : Nat} (h : st.length ≤ n) : fv st < 2 ^ n := Nat.lt_of_lt_of_le (fv_lt st) (Nat.pow_le_pow_right (by omega) h)
/-- the place of a block, its number -/
theorem zCt_nb : ∀ b : Nat, b < 6 → (24 + 2 * b, 0, ii (b : Int)) ∈ zCt ∧ (51 + 2 * b, 0, ii (b : Int)) ∈ zCt ∧ (77 + 2 * b, 0, ii (b : Int)) ∈ zCt := by decide +kernel
theorem blk_nb {M : ZMem} (hc : RCc M) {y b : Nat} (hy : y ∈ [22, 49, 75]) (hb : b < 6) : zI M (y + 2 + 2 * b) 0 = ii (b : Int) := by
  have h := zCt_nb b hb
  simp only [List.mem_cons, List.not_mem_nil, or_false] at hy
  rcases hy with rfl | rfl | rfl
  · exact hc _ h.1
  · exact hc _ h.2.1
  · exact hc _ h.2.2
theorem c23 {M : ZMem} {s : ZSt} (h : Ly M) (hc : RCc M) {y b : Nat} (hy : y ∈ [22, 49, 75]) (hb : b < 6) (hB : YB M s y b) (hv : SBk s 0 b) (hd : 0 ≤ s 133 1 ∧ s 133 1 < 100000) {f : Int} (hf : 0 ≤ f ∧ f ≤ 5) : f_23 M (ii (zfl f)) (some (y + 2 + 2 * b)) (ii (s 133 1)) = some (ii (fct s b f)) := by
  obtain ⟨⟨b1, b2, b3, b4, b5⟩, b6⟩ := hB
  obtain ⟨v1, v2, v3, v4, v5, v6⟩ := hv
  simp only [Nat.add_zero] at v1 v2 v3 v4 b1 b2 b3 b4
  have B0 := cB h hy hb
  have nb := blk_nb hc hy hb
  have hz : f = 0 ∨ f = 1 ∨ f = 2 ∨ f = 3 ∨ f = 4 ∨ f = 5 := by omega
  unfold f_23 fct
  rcases hz with rfl | rfl | rfl | rfl | rfl | rfl
  · rw [if_pos (by decide), if_pos (by decide)]
    simp only [B0, zb_some, nb]
  · rw [if_neg (by decide), if_neg (by decide), if_pos (by decide), if_neg (by decide), if_pos (by decide)]
    simp only [B0, zb_some, b1]
  · rw [if_neg (by decide), if_neg (by decide), if_neg (by decide), if_neg (by decide), if_pos (by decide), if_neg (by decide), if_neg (by decide), if_pos (by decide)]
    simp only [B0, zb_some, b2]
  · rw [if_neg (by decide), if_neg (by decide), if_neg (by decide), if_pos (by decide), if_neg (by decide), if_neg (by decide), if_neg (by decide), if_pos (by decide)]
    simp only [B0, zb_some, b3]
    rw [show (10 : Int32) = ii 10 from rfl, ii_div (by omega) (by omega)]
  · rw [if_neg (by decide), if_pos (by decide), if_neg (by decide), if_neg (by decide), if_neg (by decide), if_neg (by decide), if_pos (by decide)]
    simp only [B0, zb_some, b4]
    rw [show (10 : Int32) = ii 10 from rfl, ii_div (by omega) (by omega)]
  · rw [if_neg (by decide), if_neg (by decide), if_neg (by decide), if_neg (by decide), if_neg (by decide), if_neg (by decide), if_neg (by decide), if_neg (by decide), if_neg (by decide), if_neg (by decide)]
    rw [show (10 : Int32) = ii 10 from rfl, ii_mod (by omega) (by omega)]
theorem zs1 {t : Int} (h : 0 ≤ t ∧ t < 6000 ∧ t / 100 % 10 ≤ 2) : zstep1 t = zfl (((t / 1000).toNat : Nat) : Int) * 65536 + (60 + (((t / 100 % 10).toNat : Nat) : Int)) * 256 + (((t % 100).toNat : Nat) : Int) := by
  unfold zstep1
  rw [if_neg (by omega), if_neg (by omega), if_neg (by omega), show (((t / 1000).toNat : Nat) : Int) = t / 1000 by omega, show (((t / 100 % 10).toNat : Nat) : Int) = t / 100 % 10 by omega, show (((t % 100).toNat : Nat) : Int) = t % 100 by omega]
theorem c22 {M : ZMem} {s : ZSt} (h : Ly M) (hc : RCc M) {y b : Nat} (hy : y ∈ [22, 49, 75]) (hb : b < 6) (hB : YB M s y b) (hv : SBk s 0 b) (hd : 0 ≤ s 133 1 ∧ s 133 1 < 100000) {t : Int} (ht : 0 ≤ t ∧ t < 6000 ∧ t / 100 % 10 ≤ 2) : f_22 M (ii (zstep1 t)) (some (y + 2 + 2 * b)) (ii (s 133 1)) = some (bz (tev s b t = true)) := by
  have hf := fct_b hb hv hd.1 (t / 1000)
  obtain ⟨d1, d2, d3, d4⟩ := st_dec (t / 1000).toNat (by omega) (t / 100 % 10).toNat (by omega) (t % 100).toNat (by omega)
  have e1 : (((t / 1000).toNat : Nat) : Int) = t / 1000 := by omega
  have e2 : (((t / 100 % 10).toNat : Nat) : Int) = t / 100 % 10 := by omega
  have e3 : (((t % 100).toNat : Nat) : Int) = t % 100 := by omega
  unfold f_22 tev
  rw [zs1 ht, d2, d3, d4, e1, e2, e3, c23 h hc hy hb hB hv hd (by omega), zb_some]
  by_cases c0 : t / 100 % 10 = 0
  · rw [if_pos (show ii (60 + t / 100 % 10) = 60 by rw [c0]; decide), if_pos c0]
    by_cases w : fct s b (t / 1000) < t % 100
    · rw [if_neg (show ¬ ii (t % 100) ≤ ii (fct s b (t / 1000)) by rw [ii_le (by omega) (by omega)]; omega), decide_eq_true w]; rfl
    · rw [if_pos (show ii (t % 100) ≤ ii (fct s b (t / 1000)) by rw [ii_le (by omega) (by omega)]; omega), decide_eq_false w]; rfl
  · rw [if_neg (show ¬ ii (60 + t / 100 % 10) = 60 by rw [show (60 : Int32) = ii 60 from rfl, ii_eq (by omega) (by omega)]; omega), if_neg c0]
    by_cases c1 : t / 100 % 10 = 1
    · rw [if_pos (show ii (60 + t / 100 % 10) = 61 by rw [c1]; decide), if_pos c1]
      by_cases w : fct s b (t / 1000) = t % 100
      · rw [if_neg (show ¬ ¬ ii (fct s b (t / 1000)) = ii (t % 100) by rw [ii_eq (by omega) (by omega)]; omega), decide_eq_true w]; rfl
      · rw [if_pos (show ¬ ii (fct s b (t / 1000)) = ii (t % 100) by rw [ii_eq (by omega) (by omega)]; omega), decide_eq_false w]; rfl
    · rw [if_neg (show ¬ ii (60 + t / 100 % 10) = 61 by rw [show (61 : Int32) = ii 61 from rfl, ii_eq (by omega) (by omega)]; omega), if_neg c1]
      by_cases w : t % 100 < fct s b (t / 1000)
      · rw [if_neg (show ¬ ii (fct s b (t / 1000)) ≤ ii (t % 100) by rw [ii_le (by omega) (by omega)]; omega), decide_eq_true w]; rfl
      · rw [if_pos (show ii (fct s b (t / 1000)) ≤ ii (t % 100) by rw [ii_le (by omega) (by omega)]; omega), decide_eq_false w]; rfl
