/-! PRICE: the class's, whole -/
theorem sev_len {f : Int → Bool} : ∀ (l : List Int) (st : List Bool), sok l st.length → (sev f l st).length = 1 := by
  intro l
  induction l with
  | nil => intro st h; exact h
  | cons t l ih =>
    intro st h
    rw [sev]
    refine ih _ ?_
    rcases h with ⟨rfl, hn, ho⟩ | ⟨ht, hn, ho⟩ | ⟨ht, hn, ho⟩
    · cases st with
      | nil => simp at hn
      | cons a r => exact ho
    · cases st with
      | nil => simp at hn
      | cons a r =>
        cases r with
        | nil => simp at hn
        | cons d r =>
          unfold sst
          rw [if_neg (by omega), if_pos (by omega)]
          simp only [List.length_cons] at ho ⊢
          rw [show r.length + 1 + 1 - 1 = r.length + 1 by omega] at ho
          exact ho
    · unfold sst
      rw [if_neg (by omega), if_neg (by omega)]
      exact ho
/-- one step's kind -/
theorem st_kd : (ii 16777216 >>> (24 &&& 31)) = 1 ∧ (ii 33554432 >>> (24 &&& 31)) = 2 ∧ (ii 50331648 >>> (24 &&& 31)) = 3 := by decide +kernel
theorem c21a {M : ZMem} {s : ZSt} (h : Ly M) (hc : RCc M) {y b : Nat} (hy : y ∈ [22, 49, 75]) (hb : b < 6) (hB : YB M s y b) (hv : SBk s 0 b) (hd : 0 ≤ s 133 1 ∧ s 133 1 < 100000) {o cnt : Nat} (ho : o = 91 ∨ ∃ k, k < 6 ∧ o = 109 + 2 * k) (hcnt : zI M o 1 = ii (cnt : Int)) (hc100 : cnt ≤ 100) (p : Int) :
    ∀ (l : List Int) (z i : Nat) (st : List Bool), (∀ j, j < l.length → zI M (o + 1) (i + j) = ii (zstep1 (l.getD j 0))) → i + l.length ≤ cnt → sok l st.length → st.length ≤ 12 → f_21_9 (z + l.length) M o (some (y + 2 + 2 * b)) (ii (s 133 1)) (ii p) (ii (fv st : Nat)) (ii i) = f_21_9 z M o (some (y + 2 + 2 * b)) (ii (s 133 1)) (ii p) (ii (fv (sev (tev s b) l st) : Nat)) (ii (i + l.length : Nat)) := by
  intro l
  induction l with
  | nil => intro z i st _ _ _ _; rfl
  | cons t l ih =>
    intro z i st hl hi hk h12
    simp only [List.length_cons] at hi ⊢
    have et := hl 0 (by simp only [List.length_cons]; omega)
    have hl' : ∀ j, j < l.length → zI M (o + 1) (i + 1 + j) = ii (zstep1 (l.getD j 0)) := fun j hj => by
      have := hl (j + 1) (by simp only [List.length_cons]; omega)
      rw [show i + (j + 1) = i + 1 + j by omega, List.getD_cons_succ] at this
      exact this
    have H0 := cH h ho
    have xs := H0.2.2.2.2.2.2 i (by omega) (by omega)
    rw [Int.toNat_natCast] at xs
    rw [Nat.add_zero] at et
    have et : zI M (o + 1) i = ii (zstep1 t) := et
    have ei : ii (i : Int) + 1 = ii ((i + 1 : Nat) : Int) := by rw [show (1 : Int32) = ii 1 from rfl, ii_add]; rfl
    have nx : ∀ (F : Nat) (st' : List Bool), F = fv st' → sok l st'.length → st'.length ≤ 12 → f_21_9 (z + l.length) M o (some (y + 2 + 2 * b)) (ii (s 133 1)) (ii p) (ii (F : Int)) (ii ((i + 1 : Nat) : Int)) = f_21_9 z M o (some (y + 2 + 2 * b)) (ii (s 133 1)) (ii p) (ii (fv (sev (tev s b) l st') : Nat)) (ii (i + (l.length + 1) : Nat)) := fun F st' hF h1 h2 => by
      have := ih z (i + 1) st' hl' (by omega) h1 h2
      rw [show i + 1 + l.length = i + (l.length + 1) by omega] at this
      rw [hF]; exact this
    have hF := fv_12 h12
    rw [show z + (l.length + 1) = (z + l.length) + 1 by omega, f_21_9, H0.2.1, zb_some, hcnt, if_neg (by rw [ii_le (by omega) (by omega)]; omega), H0.2.2.2.2.2.1, zb_some, zb_some, xs, zb_some, et, sev]
    unfold f_21_87 f_21_168
    rcases hk with ⟨rfl, hn, hk⟩ | ⟨ht, hn, hk⟩ | ⟨ht, hn, hk⟩
    · cases st with
      | nil => simp at hn
      | cons a r =>
        have hz : zstep1 (-33) = 16777216 := rfl
        rw [hz, st_kd.1, if_neg (show ¬ (1 : Int32) = 0 by decide), if_pos (show (1 : Int32) = 1 from rfl), ei, bt_not _ hF]
        refine nx _ ((!a) :: r) ?_ hk h12
        rw [fv, fv]
        cases a
        · rw [if_neg (show ¬ false = true by decide), if_pos (show (!false) = true by decide), if_pos (by omega)]; omega
        · rw [if_pos (show true = true from rfl), if_neg (show ¬ (!true) = true by decide), if_neg (by omega)]; omega
    · cases st with
      | nil => simp at hn
      | cons a st2 =>
        cases st2 with
        | nil => simp at hn
        | cons d r =>
          simp only [List.length_cons] at hk h12
          rw [show r.length + 1 + 1 - 1 = r.length + 1 by omega] at hk
          have e0 : fv (a :: d :: r) = (if a = true then 1 else 0) + 2 * ((if d = true then 1 else 0) + 2 * fv r) := rfl
          rcases ht with rfl | rfl
          · have hz : zstep1 (-38) = 33554432 := rfl
            rw [hz, st_kd.2.1, if_neg (show ¬ (2 : Int32) = 0 by decide), if_neg (show ¬ (2 : Int32) = 1 by decide), if_pos (show (2 : Int32) = 2 from rfl), ei, bt_and _ hF]
            refine nx _ ((d && a) :: r) ?_ hk (by simp only [List.length_cons]; omega)
            rw [e0, fv]
            cases a <;> cases d <;> simp <;> first | omega | (split <;> omega)
          · have hz : zstep1 (-124) = 50331648 := rfl
            rw [hz, st_kd.2.2, if_neg (show ¬ (3 : Int32) = 0 by decide), if_neg (show ¬ (3 : Int32) = 1 by decide), if_neg (show ¬ (3 : Int32) = 2 by decide), if_pos (show (3 : Int32) = 3 from rfl), ei, bt_or _ hF]
            refine nx _ ((d || a) :: r) ?_ hk (by simp only [List.length_cons]; omega)
            rw [e0, fv]
            cases a <;> cases d <;> simp <;> first | omega | (split <;> omega)
    · have el : sst (tev s b) t st = tev s b t :: st := by
        unfold sst
        rw [if_neg (by omega), if_neg (by omega)]
      have hd0 := (st_dec (t / 1000).toNat (by omega) (t / 100 % 10).toNat (by omega) (t % 100).toNat (by omega)).1
      rw [← zs1 ht] at hd0
      rw [hd0, if_pos (show (0 : Int32) = 0 from rfl), c22 h hc hy hb hB hv hd ht, zb_some, ei, el]
      cases e : tev s b t
      · rw [bzb_f, if_pos (show (0 : Int32) = 0 from rfl), Int32.or_comm _ 0, bt_t0 _ hF]
        refine nx _ (false :: st) ?_ hk (by simp only [List.length_cons]; omega)
        rw [fv]; simp
      · rw [bzb_t, if_neg (show ¬ (1 : Int32) = 0 by decide), Int32.or_comm _ 1, bt_t1 _ hF]
        refine nx _ (true :: st) ?_ hk (by simp only [List.length_cons]; omega)
        rw [fv]; simp; omega
theorem zstc_eq {s : ZSt} {c : Nat} (h : s 142 c ≤ 1) : zstc s c = (sgl s c).map zstep1 ++ [(if s 142 c = 0 then 67108864 else 83886080) + s 143 c] := by
  unfold zstc sgl
  rw [if_pos h, List.map_map]
  rfl
theorem c21b {M : ZMem} {s : ZSt} (h : Ly M) (hc : RCc M) (hi : SIn s) (hh : SH s) {y b : Nat} (hy : y ∈ [22, 49, 75]) (hb : b < 6) (hB : YB M s y b) (hv : SBk s 0 b) (hd : 0 ≤ s 133 1 ∧ s 133 1 < 100000) {o cnt : Nat} (ho : o = 91 ∨ ∃ k, k < 6 ∧ o = 109 + 2 * k) (hcnt : zI M o 1 = ii (cnt : Int)) (hc100 : cnt ≤ 100) :
    ∀ (n z c i : Nat) (p : Int), hcl s ≤ c → c + n = hcl s + hnm s → (∀ j, j < (zstl s c n).length → zI M (o + 1) (i + j) = ii ((zstl s c n).getD j 0)) → i + (zstl s c n).length = cnt → (zstl s c n).length < z → (-(10000 - 100 * (n : Int)) ≤ p ∧ p ≤ 10000 - 100 * (n : Int)) → f_21_9 z M o (some (y + 2 + 2 * b)) (ii (s 133 1)) (ii p) 0 (ii i) = some (ii (max 0 (prl s b c n p))) := by
  have h60 := hcl_60 hi hh
  have H0 := cH h ho
  intro n
  induction n with
  | zero =>
    intro z c i p h1 h2 h3 h4 h5 h6
    obtain ⟨w, rfl⟩ : ∃ w, z = w + 1 := ⟨z - 1, by omega⟩
    have h4 : i + 0 = cnt := h4
    rw [f_21_9, H0.2.1, zb_some, hcnt, if_pos (by rw [ii_le (by omega) (by omega)]; omega), show (0 : Int32) = ii 0 from rfl, c24i (by omega) (by omega), zb_some]
    rfl
  | succ n ih =>
    intro z c i p h1 h2 h3 h4 h5 h6
    obtain ⟨hs, hk60⟩ := hcl_c hi hh h1 (by omega)
    have w1 := hs.1
    have w2 := hs.2.1
    have es : zstl s c (n + 1) = zstc s c ++ zstl s (c + 1) n := rfl
    rw [es] at h3 h4 h5
    rw [List.length_append] at h4 h5
    rw [prl]
    by_cases g : s 142 c ≤ 1
    · have ez := zstc_eq g
      have eL : (zstc s c).length = (sgl s c).length + 1 := by rw [ez, List.length_append, List.length_map]; rfl
      rw [eL] at h4 h5
      have hk := (hs.2.2 g).2
      have q1 : ∀ j, j < (sgl s c).length → zI M (o + 1) (i + j) = ii (zstep1 ((sgl s c).getD j 0)) := fun j hj => by
        have := h3 j (by rw [List.length_append, eL]; omega)
        rw [gd_app1 (by rw [eL]; omega), ez, gd_app1 (by rw [List.length_map]; exact hj), gd_map (d := 0) hj] at this
        exact this
      have q2 : zI M (o + 1) (i + (sgl s c).length) = ii ((if s 142 c = 0 then 67108864 else 83886080) + s 143 c) := by
        have := h3 (sgl s c).length (by rw [List.length_append, eL]; omega)
        rw [gd_app1 (by rw [eL]; omega), ez, gd_app2 (by rw [List.length_map]; exact Nat.le_refl _), List.length_map, Nat.sub_self] at this
        exact this
      have q3 : ∀ j, j < (zstl s (c + 1) n).length → zI M (o + 1) (i + (sgl s c).length + 1 + j) = ii ((zstl s (c + 1) n).getD j 0) := fun j hj => by
        have := h3 ((sgl s c).length + 1 + j) (by rw [List.length_append, eL]; omega)
        rw [gd_app2 (by rw [eL]; omega), eL, show (sgl s c).length + 1 + j - ((sgl s c).length + 1) = j by omega, show i + ((sgl s c).length + 1 + j) = i + (sgl s c).length + 1 + j by omega] at this
        exact this
      obtain ⟨w, rfl⟩ : ∃ w, z = (w + 1) + (sgl s c).length := ⟨z - (sgl s c).length - 1, by omega⟩
      have e1 := c21a h hc hy hb hB hv hd ho hcnt hc100 p (sgl s c) (w + 1) i [] q1 (by omega) hk (by simp)
      have xs := H0.2.2.2.2.2.2 ((i + (sgl s c).length : Nat) : Int) (by omega) (by omega)
      rw [Int.toNat_natCast, q2] at xs
      rw [show (0 : Int32) = ii ((fv [] : Nat) : Int) from rfl, e1, f_21_9, H0.2.1, zb_some, hcnt, if_neg (by rw [ii_le (by omega) (by omega)]; omega), H0.2.2.2.2.2.1, zb_some, zb_some, xs, zb_some]
      have hl1 := sev_len (f := tev s b) (sgl s c) [] hk
      have ei : ii ((i + (sgl s c).length : Nat) : Int) + 1 = ii ((i + (sgl s c).length + 1 : Nat) : Int) := by rw [show (1 : Int32) = ii 1 from rfl, ii_add]; rfl
      obtain ⟨a, ea⟩ := List.length_eq_one_iff.mp hl1
      have eh : hld s b c = a := by unfold hld; rw [ea]; rfl
      have hn := st_end (s 143 c).toNat (by omega)
      rw [show (((s 143 c).toNat : Nat) : Int) = s 143 c by omega] at hn
      have a1 : ∀ q : Int, (-(10000 - 100 * (n : Int)) ≤ q ∧ q ≤ 10000 - 100 * (n : Int)) → f_21_9 w M o (some (y + 2 + 2 * b)) (ii (s 133 1)) (ii q) 0 (ii ((i + (sgl s c).length + 1 : Nat) : Int)) = some (ii (max 0 (prl s b (c + 1) n q))) := fun q hq => ih w (c + 1) (i + (sgl s c).length + 1) q (by omega) (by omega) q3 (by omega) (by omega) hq
      unfold f_21_168
      rw [ea, eh, ei]
      by_cases c0 : s 142 c = 0
      · rw [if_pos c0, hn.1.1, if_neg (show ¬ (4 : Int32) = 0 by decide), if_neg (show ¬ (4 : Int32) = 1 by decide), if_neg (show ¬ (4 : Int32) = 2 by decide), if_neg (show ¬ (4 : Int32) = 3 by decide), if_pos (show (4 : Int32) = 4 from rfl), hn.1.2]
        cases a
        · rw [show (ii ((fv [false] : Nat) : Int) &&& 1) = ii 0 by decide, ii_mul, ii_add, show p + 0 * s 143 c = p by omega, if_neg (by simp)]
          exact a1 p (by omega)
        · rw [show (ii ((fv [true] : Nat) : Int) &&& 1) = ii 1 by decide, ii_mul, ii_add, show p + 1 * s 143 c = p + s 143 c by omega, if_pos ⟨g, rfl⟩, if_pos c0]
          exact a1 _ (by omega)
      · rw [if_neg c0, hn.2.1, if_neg (show ¬ (5 : Int32) = 0 by decide), if_neg (show ¬ (5 : Int32) = 1 by decide), if_neg (show ¬ (5 : Int32) = 2 by decide), if_neg (show ¬ (5 : Int32) = 3 by decide), if_neg (show ¬ (5 : Int32) = 4 by decide), hn.2.2]
        cases a
        · rw [show (ii ((fv [false] : Nat) : Int) &&& 1) = ii 0 by decide, ii_mul, ii_sub, show p - 0 * s 143 c = p by omega, if_neg (by simp)]
          exact a1 p (by omega)
        · rw [show (ii ((fv [true] : Nat) : Int) &&& 1) = ii 1 by decide, ii_mul, ii_sub, show p - 1 * s 143 c = p - s 143 c by omega, if_pos ⟨g, rfl⟩, if_neg c0]
          exact a1 _ (by omega)
    · have ez : zstc s c = [] := by unfold zstc; rw [if_neg g]
      rw [ez] at h3 h4 h5
      simp only [List.length_nil, Nat.zero_add, List.nil_append] at h3 h4 h5
      rw [if_neg (fun q => g q.1)]
      exact ih z (c + 1) i p (by omega) (by omega) h3 h4 h5 (by omega)
theorem zst_100 {s : ZSt} (hi : SIn s) (hh : SH s) : (zstl s (hcl s) (hnm s)).length ≤ 100 := by
  have h9 := hi.2.2.2.1
  have h10 := hi.2.2.2.2.1
  unfold hcl hnm
  by_cases c : 0 ≤ s 133 10
  · simp only [if_pos c]
    exact (hh (s 133 10).toNat (by omega)).2.2
  · simp only [if_neg c]; exact Nat.zero_le _
theorem c21 {M : ZMem} {s : ZSt} {l : Nat → Int64} (h : Ly M) (hc : RC M s l) (hi : SIn s) (hh : SH s) {s' : ZSt} (e1 : ∀ q, (141 ≤ q ∧ q ≤ 146) → s' q = s q) (e2 : s' 133 10 = s 133 10) (hi' : SIn s') (hh' : SH s') {y b : Nat} (hy : y ∈ [22, 49, 75]) (hb : b < 6) (hB : YB M s' y b) (hv : SBk s' 0 b) (hd : 0 ≤ s' 133 1 ∧ s' 133 1 < 100000) : f_21 M (hpl s) (some (y + 2 + 2 * b)) (ii (s' 133 1)) = some (ii (prc s' b)) := by
  have hV := hpl_v hc hi
  have h100 := zst_100 hi hh
  have d1 : hcl s' = hcl s := by unfold hcl; rw [e2]
  have d2 : hnm s' = hnm s := by unfold hnm; rw [e2, e1 141 (by omega)]
  have d3 : zstl s' (hcl s) (hnm s) = zstl s (hcl s) (hnm s) := zstl_sf (e1 142 (by omega)) (e1 143 (by omega)) (e1 144 (by omega)) (e1 145 (by omega)) (e1 146 (by omega)) _ _
  have d4 := c21b h hc.1.2.2 hi' hh' hy hb hB hv hd (hpl_o hi) (cnt := (zstl s (hcl s) (hnm s)).length) hV.1 h100 (hnm s) zF (hcl s) 0 10 (by rw [d1]; exact Nat.le_refl _) (by rw [d1, d2]) (by rw [d3]; intro j hj; rw [Nat.zero_add]; exact hV.2.1 j hj) (by rw [d3]; omega) (by rw [d3]; unfold zF; omega) (by have := hnm_10 hi hh; omega)
  unfold f_21 prc
  rw [if_pos (cH h (hpl_o hi)).1, d1, d2]
  exact d4
