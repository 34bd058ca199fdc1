/-! HILL: the answer, the states it leaves, and the class's whole method -/
def sp60 (s : ZSt) : Int := if s 133 9 < 6 then (if hAns (pHl (s 140) (s 133 11).toNat 10 0 []) < 0 then s 133 9 else -10 - hAns (pHl (s 140) (s 133 11).toNat 10 0 [])) else -4
/-- clauses as the reference's rows keep them -/
def HC (s : ZSt) (B : Int) : Nat → List (Nat × Int × List Int) → Prop
  | _, [] => True
  | k, c :: r => (s 142 k = c.1 ∧ s 143 k = c.2.1 ∧ c.1 < 5 ∧ (c.1 ≤ 1 → sgl s k = c.2.2 ∧ 0 ≤ s 144 k ∧ s 144 k ≤ s 145 k ∧ s 145 k ≤ B)) ∧ HC s B (k + 1) r
theorem HC_f {s : ZSt} {B : Int} : ∀ (cs : List (Nat × Int × List Int)) (k : Nat) (a : List Int × Int × Int × Int), HC s B k cs → cs.foldl (fun a c => clS c a) a = (a.1 ++ zstl s k cs.length, zlst s 2 k cs.length a.2.1, zlst s 3 k cs.length a.2.2.1, zlst s 4 k cs.length a.2.2.2) := by
  intro cs
  induction cs with
  | nil => intro k a _; show a = (a.1 ++ [], a.2.1, a.2.2.1, a.2.2.2); rw [List.append_nil]
  | cons c r ih =>
    intro k a h
    obtain ⟨⟨h1, h2, h3, h4⟩, h5⟩ := h
    rw [List.foldl_cons, ih (k + 1) _ h5, List.length_cons, zstl, zlst, zlst, zlst, h1, h2]
    unfold clS
    by_cases c1 : c.1 ≤ 1
    · rw [if_pos c1, zstc_eq (by rw [h1]; omega), (h4 c1).1, h1, h2, if_neg (show ¬ (c.1 : Int) = 2 by omega), if_neg (show ¬ (c.1 : Int) = 3 by omega), if_neg (show ¬ (c.1 : Int) = 4 by omega)]
      by_cases c0 : c.1 = 0
      · rw [if_pos c0, if_pos (show (c.1 : Int) = 0 by omega), List.append_assoc]
      · rw [if_neg c0, if_neg (show ¬ (c.1 : Int) = 0 by omega), List.append_assoc]
    · have hz : zstc s k = [] := if_neg (by rw [h1]; omega)
      rw [if_neg c1, hz, List.nil_append]
      by_cases c2 : c.1 = 2
      · rw [if_pos c2, if_pos (show (c.1 : Int) = 2 by omega), if_neg (show ¬ (c.1 : Int) = 3 by omega), if_neg (show ¬ (c.1 : Int) = 4 by omega)]
      · rw [if_neg c2, if_neg (show ¬ (c.1 : Int) = 2 by omega)]
        by_cases c3 : c.1 = 3
        · rw [if_pos c3, if_pos (show (c.1 : Int) = 3 by omega), if_neg (show ¬ (c.1 : Int) = 4 by omega)]
        · rw [if_neg c3, if_neg (show ¬ (c.1 : Int) = 3 by omega), if_pos (show (c.1 : Int) = 4 by omega)]
theorem HC_l {s : ZSt} {B : Int} {k : Nat} {cs : List (Nat × Int × List Int)} (h : HC s B k cs) : zstl s k cs.length = (fld cs).1 ∧ zlst s 2 k cs.length 2 = (fld cs).2.1 ∧ zlst s 3 k cs.length 5 = (fld cs).2.2.1 ∧ zlst s 4 k cs.length 1 = (fld cs).2.2.2 := by
  have := HC_f cs k ([], 2, 5, 1) h
  unfold fld
  rw [this]
  simp only [List.nil_append, and_self]
/-- the states that hill may leave -/
def HRf (s s' : ZSt) : Prop := (∀ p, p ≠ 133 → (p < 141 ∨ 146 < p) → s' p = s p) ∧ (∀ j, j ≠ 9 → j ≠ 10 → j ≠ 11 → s' 133 j = s 133 j) ∧ (∀ h : Nat, (h : Int) < s 133 9 → s' 141 h = s 141 h) ∧ (∀ c : Nat, (c : Int) < 10 * s 133 9 → s' 142 c = s 142 c ∧ s' 143 c = s 143 c ∧ s' 144 c = s 144 c ∧ s' 145 c = s 145 c) ∧ ∀ k : Nat, (k : Int) < 100 * s 133 9 → s' 146 k = s 146 k
def HR (s s' : ZSt) : Prop := (s 133 9 < 6 → HRf s s' ∧ s' 133 11 = 0 ∧ ((pHl (s 140) (s 133 11).toNat 10 0 []).2 = none → s' 133 9 = s 133 9 ∧ s' 133 10 = s 133 10) ∧ ∀ cs, (pHl (s 140) (s 133 11).toNat 10 0 []).2 = some cs → s' 133 9 = s 133 9 + 1 ∧ s' 133 10 = s 133 9 ∧ s' 141 (s 133 9).toNat = cs.length ∧ HC s' (100 * s 133 9 + 100) (10 * (s 133 9).toNat) cs) ∧ (¬ s 133 9 < 6 → s' = s)
/-- more that stays: letters fed, the places of signs, the letters of the words -/
def SX (s : ZSt) : Prop := ∀ h : Nat, (h : Int) < s 133 9 → ∀ k : Nat, (k : Int) < s 141 h → s 142 (10 * h + k) ≤ 1 → s 145 (10 * h + k) ≤ 100 * h + 100
def ltr : List Int := [100, 101, 97, 114, 99, 104, 101, 97, 112, 116, 104, 105, 110, 116, 104, 105, 99, 107, 119, 105, 110, 100]
def IX (s : ZSt) : Prop := IV s ∧ (∀ k : Nat, (k : Int) < s 133 11 → 0 ≤ s 140 k ∧ s 140 k ≤ 127) ∧ SX s ∧ ∀ k : Nat, k < 22 → s 148 k = ltr.getD k 0
theorem zs_cg {s s' : ZSt} : ∀ (n c : Nat), (∀ j, c ≤ j → j < c + n → s' 142 j = s 142 j ∧ s' 143 j = s 143 j ∧ (s 142 j ≤ 1 → sgl s' j = sgl s j)) → zstl s' c n = zstl s c n ∧ ∀ w x, zlst s' w c n x = zlst s w c n x := by
  intro n
  induction n with
  | zero => intro c _; exact ⟨rfl, fun _ _ => rfl⟩
  | succ n ih =>
    intro c h
    obtain ⟨i1, i2⟩ := ih (c + 1) (fun j h1 h2 => h j (by omega) (by omega))
    obtain ⟨h1, h2, h3⟩ := h c (Nat.le_refl _) (by omega)
    refine ⟨?_, fun w x => ?_⟩
    · rw [zstl, zstl, i1]
      congr 1
      by_cases q : s 142 c ≤ 1
      · rw [zstc_eq q, zstc_eq (by rw [h1]; exact q), h1, h2, h3 q]
      · unfold zstc
        rw [h1, if_neg q, if_neg q]
    · rw [zlst, zlst, i2, h1, h2]
/-- a hill of before, in a state after -/
theorem HRf_o {s s' : ZSt} (hf : HRf s s') (hH : SH s) (hX : SX s) {h : Nat} (hh : (h : Int) < s 133 9) : zstl s' (10 * h) (s 141 h).toNat = zstl s (10 * h) (s 141 h).toNat ∧ (∀ w x, zlst s' w (10 * h) (s 141 h).toNat x = zlst s w (10 * h) (s 141 h).toNat x) ∧ ∀ k : Nat, (k : Int) < s 141 h → s' 142 (10 * h + k) = s 142 (10 * h + k) ∧ s' 143 (10 * h + k) = s 143 (10 * h + k) ∧ s' 144 (10 * h + k) = s 144 (10 * h + k) ∧ s' 145 (10 * h + k) = s 145 (10 * h + k) ∧ (s 142 (10 * h + k) ≤ 1 → sgl s' (10 * h + k) = sgl s (10 * h + k)) := by
  have x := hH h hh
  have key : ∀ k : Nat, (k : Int) < s 141 h → s' 142 (10 * h + k) = s 142 (10 * h + k) ∧ s' 143 (10 * h + k) = s 143 (10 * h + k) ∧ s' 144 (10 * h + k) = s 144 (10 * h + k) ∧ s' 145 (10 * h + k) = s 145 (10 * h + k) ∧ (s 142 (10 * h + k) ≤ 1 → sgl s' (10 * h + k) = sgl s (10 * h + k)) := by
    intro k hk
    obtain ⟨e2, e3, e4, e5⟩ := hf.2.2.2.1 (10 * h + k) (by omega)
    refine ⟨e2, e3, e4, e5, fun q => ?_⟩
    have b := hX h hh k hk q
    have b2 := ((x.2.1 k hk).2.2 q).1
    unfold sgl
    rw [e4, e5]
    apply List.map_congr_left
    intro i hi
    rw [List.mem_range] at hi
    exact hf.2.2.2.2 _ (by omega)
  have y := zs_cg (s := s) (s' := s') (s 141 h).toNat (10 * h) (fun j h1 h2 => by
    have := key (j - 10 * h) (by omega)
    rw [show 10 * h + (j - 10 * h) = j by omega] at this
    exact ⟨this.1, this.2.1, this.2.2.2.2⟩)
  exact ⟨y.1, y.2, key⟩
theorem RC_hl {M M' : ZMem} {s s' : ZSt} {l : Nat → Int64} (h : RC M s l) (hi : s 133 0 ≤ 6 ∧ s 133 50 ≤ 6) {g : Nat} (hg : g < 6) (hf : HRf s s') (hM : ∀ p j, p ≠ 93 → p ≠ 109 + 2 * g → p ≠ 110 + 2 * g → ¬ (p = 20 ∧ (j = 5 ∨ j = 7)) → ¬ (p = 22 ∧ j = 4) → zI M' p j = zI M p j) (hLL : ∀ p j, zL M' p j = zL M p j) (e11 : s' 133 11 = 0) (e5 : zI M' 20 5 = ii (s' 133 11)) (e7 : zI M' 20 7 = ii (s' 133 9)) (e4 : zI M' 22 4 = ii (s' 133 10)) (hh : RCh M' s') : RC M' s' l := by
  obtain ⟨⟨h1, h2, h3⟩, ⟨h4, h5, h6⟩, h7, h8, h9, h10, h11⟩ := h
  have f0 : ∀ p, p ≠ 133 → (p < 141 ∨ 146 < p) → s' p = s p := hf.1
  have f1 := hf.2.1
  have e : ∀ p, p ≠ 93 → p ≠ 20 → p ≠ 22 → (p < 109 ∨ 120 < p) → ∀ j, zI M' p j = zI M p j := fun p a b c d j => hM p j a (by omega) (by omega) (fun q => b q.1) (fun q => c q.1)
  refine ⟨⟨⟨?_, ?_, ?_, e4⟩, RCb_sf (RCb_fr h2 hi.1 (fun p a b => e p (by omega) (by omega) (by omega) (by omega))) ?_ ?_ ?_ ?_ ?_ ?_ ?_, RCc_fr h3 ?_⟩, ⟨RCs_sf (RCs_fr h4 (e 36 (by omega) (by omega) (by omega) (by omega)) (e 37 (by omega) (by omega) (by omega) (by omega)) (e 38 (by omega) (by omega) (by omega) (by omega)) (e 39 (by omega) (by omega) (by omega) (by omega))) ?_ ?_ ?_ ?_, RCw_sf (RCw_fr h5 (e 40 (by omega) (by omega) (by omega) (by omega)) (e 41 (by omega) (by omega) (by omega) (by omega)) (e 42 (by omega) (by omega) (by omega) (by omega)) (e 43 (by omega) (by omega) (by omega) (by omega))) ?_ ?_ ?_, RCk_sf (RCk_fr h6 (e 44 (by omega) (by omega) (by omega) (by omega)) (e 45 (by omega) (by omega) (by omega) (by omega)) (e 46 (by omega) (by omega) (by omega) (by omega)) (e 47 (by omega) (by omega) (by omega) (by omega))) ?_ ?_ ?_⟩, ⟨e5, e7, fun k hk => absurd hk (by omega)⟩, RCi_sf (RCi_fr h8 hi.2 (hM 20 2 (by omega) (by omega) (by omega) (by omega) (by omega)) (fun p a b => e p (by omega) (by omega) (by omega) (by omega))) ?_ ?_ ?_ ?_ ?_ ?_ ?_ ?_ ?_ ?_ ?_ ?_ ?_ ?_ ?_ ?_ ?_ ?_ ?_ ?_ ?_, RCa_sf (RCa_fr h9 (e 106 (by omega) (by omega) (by omega) (by omega)) (e 107 (by omega) (by omega) (by omega) (by omega))) ?_ ?_, hh, RCp_sf (RCp_fr h11 (fun p a b => ⟨e p (by omega) (by omega) (by omega) (by omega), hLL p⟩)) ?_ ?_⟩
  all_goals first | exact f1 _ (by omega) (by omega) (by omega) | exact f0 _ (by omega) (by omega) | skip
  · rw [hM 22 1 (by omega) (by omega) (by omega) (by omega) (by omega), f1 0 (by omega) (by omega) (by omega)]; exact h1.1
  · rw [hM 22 2 (by omega) (by omega) (by omega) (by omega) (by omega), f1 2 (by omega) (by omega) (by omega)]; exact h1.2.1
  · rw [hM 22 3 (by omega) (by omega) (by omega) (by omega) (by omega), f1 1 (by omega) (by omega) (by omega)]; exact h1.2.2.1
  · intro p j hp
    refine e p ?_ ?_ ?_ ?_ j
    all_goals
      rcases hp with q | q | q | ⟨_, q⟩
      · omega
      · omega
      · omega
      · simp only [List.mem_cons, List.not_mem_nil, or_false] at q; omega
theorem m60 {M0 M : ZMem} {s : ZSt} {l : Nat → Int64} (h : CS M0 M s l) (hI : IX s) : ∃ M', f_60 M 20 = some (ii (sp60 s), M') ∧ (Ly M' ∧ Up M0 M') ∧ ∀ s', HR s s' → CS M0 M' s' l := by
  obtain ⟨hV, hT, hX, -⟩ := hI
  have hSI := hV.1.1.1
  have hn := hSI
  unfold SIn at hn
  have hSH := hV.1.2.2.2
  have h50 := hV.1.1.2
  obtain ⟨hL, hU, hR⟩ := id h
  have ht := hR.2.2.1
  have b7 := ht.2.1
  have b5 := ht.1
  unfold f_60 sp60
  simp only [cX hL, if_true, zb_some, b7]
  by_cases c6 : s 133 9 < 6
  · rw [if_pos (show ii (s 133 9) < 6 by rw [show (6 : Int32) = ii 6 from rfl, ii_lt (by omega) (by omega)]; exact c6), if_pos c6]
    obtain ⟨g, eg⟩ := Int.eq_ofNat_of_zero_le hn.2.2.2.1.1
    have en : ii (s 133 11) = ii (((s 133 11).toNat : Nat) : Int) := by congr 1; omega
    have hg : g < 6 := by omega
    have eng : (s 133 9).toNat = g := by omega
    have hB : HB (s 140) (s 133 11).toNat g M := ⟨⟨hL, hR.1.2.2⟩, ⟨by omega, hg⟩, fun k hk => ⟨ht.2.2 k (by omega), hT k (by omega)⟩⟩
    obtain ⟨M2, m1, m2, m3⟩ := c61 hB
    have zl := zlaR_ii hL (p := 90) (i := s 133 9) (by decide) (by omega) c6
    rw [if_pos rfl, eng] at zl
    have C := m2.2.2.2.1
    have L2 := m2.1
    have L3 : Ly (zpI M2 20 5 0) := L2.p
    have z7 : zI (zpI M2 20 5 0) 20 7 = ii (s 133 9) := by rw [zI_nk (by omega), C 20 7 (by omega) (by omega) (by omega)]; exact b7
    have hUp : ∀ N : ZMem, (∀ a j, 133 ≤ a → zI N a j = zI M2 a j) → (∀ a j, zL N a j = zL M2 a j) → Up M0 N := fun N e1 e2 => hU.tr fun p hp => ⟨fun j => (e1 p j hp).trans (C p j (by omega) (by omega) (by omega)), fun j => (e2 p j).trans (m2.2.2.2.2 p j)⟩
    rw [zl, zb_some, b5, en, m1, zbd_some]
    simp only [cX L2, zb_some]
    generalize hr : pHl (s 140) (s 133 11).toNat 10 0 [] = r at m2 m3 ⊢
    obtain ⟨q, o⟩ := r
    have old : ∀ N : ZMem, (∀ a j, a ≠ 93 → a ≠ 109 + 2 * g → a ≠ 110 + 2 * g → a ≠ 20 → a ≠ 22 → zI N a j = zI M a j) → ∀ s', HRf s s' → ∀ k : Nat, (k : Int) < s 133 9 → Hl N s' k := by
      intro N hN s' hf k hk
      obtain ⟨o1, o2, o3⟩ := HRf_o hf hSH hX hk
      have e0 := hR.2.2.2.2.2.1 k hk
      have en : ∀ j, zI N (109 + 2 * k) j = zI M (109 + 2 * k) j ∧ zI N (110 + 2 * k) j = zI M (110 + 2 * k) j := fun j => ⟨hN _ _ (by omega) (by omega) (by omega) (by omega) (by omega), hN _ _ (by omega) (by omega) (by omega) (by omega) (by omega)⟩
      unfold Hl at e0 ⊢
      rw [hf.2.2.1 k hk, o1, o2, o2, o2]
      exact ⟨(en _).1.trans e0.1, fun j hj => (en _).2.trans (e0.2.1 j hj), (en _).1.trans e0.2.2.1, (en _).1.trans e0.2.2.2.1, (en _).1.trans e0.2.2.2.2⟩
    cases o with
    | none =>
      have hq : ¬ hAns (q, none) < 0 := by show ¬ ((q : Nat) : Int) < 0; omega
      have bq : q ≤ (s 133 11).toNat := by
        have := (pHl_g (T := s 140) (n := (s 133 11).toNat) 10 0 [] (by omega) (Nat.le_refl _) (fun c hc => by cases hc)).2 q hr
        omega
      have bA : -2147483648 ≤ hAns (q, none) ∧ hAns (q, none) < 2147483648 := by
        show -2147483648 ≤ ((q : Nat) : Int) ∧ ((q : Nat) : Int) < 2147483648
        omega
      rw [if_neg (show ¬ ii (hAns (q, none)) < 0 by rw [show (0 : Int32) = ii 0 from rfl, ii_lt bA (by omega)]; exact hq), if_neg hq]
      refine ⟨_, by rw [show ((-10 : Int32)) = ii (-10) from rfl, ii_sub], ⟨L3, hUp _ (fun a j ha => zI_ne (by omega)) (fun a j => rfl)⟩, fun s' hs => ?_⟩
      obtain ⟨hf, e11, e2, -⟩ := hs.1 c6
      obtain ⟨e9, e10⟩ := e2 (by rw [hr])
      have fN : ∀ a j, a ≠ 93 → a ≠ 109 + 2 * g → a ≠ 110 + 2 * g → a ≠ 20 → zI (zpI M2 20 5 0) a j = zI M a j := fun a j a1 a2 a3 a4 => (zI_ne a4).trans (C a j a1 a2 a3)
      refine ⟨L3, hUp _ (fun a j ha => zI_ne (by omega)) (fun a j => rfl), RC_hl hR ⟨by omega, h50⟩ hg hf (fun p j p1 p2 p3 p4 p5 => ?_) m2.2.2.2.2 e11 ?_ ?_ ?_ (fun k hk => old _ (fun a j a1 a2 a3 a4 _ => fN a j a1 a2 a3 a4) s' hf k (by omega))⟩
      · by_cases p20 : p = 20
        · rw [p20, zI_nk (by omega)]; exact C 20 j (by omega) (by omega) (by omega)
        · exact fN p j p1 p2 p3 p20
      · rw [zI_at, e11]; rfl
      · rw [z7, e9]
      · rw [fN 22 4 (by omega) (by omega) (by omega) (by omega), e10]; exact hR.1.1.2.2.2
    | some cs =>
      have hq : hAns (q, some cs) < 0 := by show (-1 : Int) < 0; omega
      rw [if_pos (show ii (hAns (q, some cs)) < 0 from (by decide : ii (-1) < 0)), if_pos hq]
      have L4 : Ly (zpI (zpI M2 20 5 0) 22 4 (ii (s 133 9))) := L3.p
      have L5 : Ly (zpI (zpI (zpI M2 20 5 0) 22 4 (ii (s 133 9))) 20 7 (ii (s 133 9 + 1))) := L4.p
      have z8 : zI (zpI (zpI M2 20 5 0) 22 4 (ii (s 133 9))) 20 7 = ii (s 133 9) := by rw [zI_ne (by omega)]; exact z7
      have z9 : zI (zpI (zpI (zpI M2 20 5 0) 22 4 (ii (s 133 9))) 20 7 (ii (s 133 9 + 1))) 22 4 = ii (s 133 9) := by rw [zI_ne (by omega), zI_at]
      simp only [cX L3, zb_some, z7]
      simp only [cX L4, zb_some, z8, l1, ii_add]
      simp only [cX L5, zb_some, z9]
      refine ⟨_, rfl, ⟨L5, hUp _ (fun a j ha => (zI_ne (by omega)).trans ((zI_ne (by omega)).trans (zI_ne (by omega)))) (fun a j => rfl)⟩, fun s' hs => ?_⟩
      obtain ⟨hf, e11, -, e2⟩ := hs.1 c6
      obtain ⟨e9, e10, e141, eC⟩ := e2 cs (by rw [hr])
      rw [eng] at e141 eC
      have fN : ∀ a j, a ≠ 93 → a ≠ 109 + 2 * g → a ≠ 110 + 2 * g → a ≠ 20 → a ≠ 22 → zI (zpI (zpI (zpI M2 20 5 0) 22 4 (ii (s 133 9))) 20 7 (ii (s 133 9 + 1))) a j = zI M a j := fun a j a1 a2 a3 a4 a5 => (zI_ne a4).trans ((zI_ne a5).trans ((zI_ne a4).trans (C a j a1 a2 a3)))
      refine ⟨L5, hUp _ (fun a j ha => (zI_ne (by omega)).trans ((zI_ne (by omega)).trans (zI_ne (by omega)))) (fun a j => rfl), RC_hl hR ⟨by omega, h50⟩ hg hf (fun p j p1 p2 p3 p4 p5 => ?_) m2.2.2.2.2 e11 ?_ ?_ ?_ (fun k hk => ?_)⟩
      · by_cases p20 : p = 20
        · rw [p20, zI_nk (by omega), zI_ne (by omega), zI_nk (by omega)]; exact C 20 j (by omega) (by omega) (by omega)
        · by_cases p22 : p = 22
          · rw [p22, zI_ne (by omega), zI_nk (by omega), zI_ne (by omega)]; exact C 22 j (by omega) (by omega) (by omega)
          · exact fN p j p1 p2 p3 p20 p22
      · rw [zI_nk (by omega), zI_ne (by omega), zI_at, e11]; rfl
      · rw [zI_at, e9]
      · rw [z9, e10]
      · by_cases kg : k = g
        · subst kg
          obtain ⟨s1, s2, s3, s4, s5⟩ := m3 cs rfl
          obtain ⟨h1, h2, h3, h4⟩ := HC_l eC
          have en : ∀ j, zI (zpI (zpI (zpI M2 20 5 0) 22 4 (ii (s 133 9))) 20 7 (ii (s 133 9 + 1))) (109 + 2 * k) j = zI M2 (109 + 2 * k) j ∧ zI (zpI (zpI (zpI M2 20 5 0) 22 4 (ii (s 133 9))) 20 7 (ii (s 133 9 + 1))) (110 + 2 * k) j = zI M2 (110 + 2 * k) j := fun j => ⟨(zI_ne (by omega)).trans ((zI_ne (by omega)).trans (zI_ne (by omega))), (zI_ne (by omega)).trans ((zI_ne (by omega)).trans (zI_ne (by omega)))⟩
          unfold Hl
          rw [e141, Int.toNat_natCast, h1, h2, h3, h4]
          exact ⟨(en _).1.trans s1, fun j hj => (en _).2.trans (s2 j hj), (en _).1.trans s3, (en _).1.trans s4, (en _).1.trans s5⟩
        · exact old _ fN s' hf k (by omega)
  · rw [if_neg (show ¬ ii (s 133 9) < 6 by rw [show (6 : Int32) = ii 6 from rfl, ii_lt (by omega) (by omega)]; exact c6), if_neg c6]
    exact ⟨M, rfl, ⟨hL, hU⟩, fun s' hs => by rw [hs.2 c6]; exact h⟩
