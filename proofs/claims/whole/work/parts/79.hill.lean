/-! HILL, the class's: a text of clauses, and the answer -/
def fld (l : List (Nat × Int × List Int)) : List Int × Int × Int × Int := l.foldl (fun a c => clS c a) ([], 2, 5, 1)
theorem fld_s (l : List (Nat × Int × List Int)) (c : Nat × Int × List Int) : fld (l ++ [c]) = clS c (fld l) := by unfold fld; rw [List.foldl_append]; rfl
theorem clS_l (c : Nat × Int × List Int) (a : List Int × Int × Int × Int) : (clS c a).1.length ≤ a.1.length + c.2.2.length + 1 := by
  unfold clS
  by_cases h : c.1 ≤ 1
  · rw [if_pos h]; simp; omega
  · rw [if_neg h]
    by_cases h2 : c.1 = 2
    · rw [if_pos h2]; simp only; omega
    · rw [if_neg h2]
      by_cases h3 : c.1 = 3
      · rw [if_pos h3]; simp only; omega
      · rw [if_neg h3]; simp only; omega
/-- what the text says: the clauses, or the place of the fault -/
def hAns (r : Nat × Option (List (Nat × Int × List Int))) : Int := match r.2 with
  | some _ => -1
  | none => (r.1 : Int)
def GC (T : Nat → Int) (n : Nat) (c : Nat × Int × List Int) : Prop := ∃ p q, p ≤ n ∧ pCl T n p = (q, some c)
theorem pHl_g {T : Nat → Int} {n : Nat} : ∀ (k p : Nat) (a : List (Nat × Int × List Int)), p ≤ n → (fld a).1.length ≤ p → (∀ c ∈ a, GC T n c) → (∀ q cs, pHl T n k p a = (q, some cs) → (fld cs).1.length ≤ n ∧ a.length + 1 ≤ cs.length ∧ cs.length ≤ a.length + k ∧ ∀ c ∈ cs, GC T n c) ∧ ∀ q, pHl T n k p a = (q, none) → q ≤ n := by
  intro k
  induction k with
  | zero =>
    intro p a hp hl hG
    refine ⟨fun q cs h => (by cases h), fun q h => by cases h; exact hp⟩
  | succ k ih =>
    intro p a hp hl hG
    obtain ⟨g1, g2⟩ := pCl_g (T := T) hp
    rw [pHl]
    cases hq : pCl T n p with
    | mk q o =>
      cases o with
      | none =>
        have bb := g2 q hq
        refine ⟨fun q cs h => (by cases h), fun q h => by cases h; omega⟩
      | some c =>
        have bb := g1 q c hq
        have l2 : (fld (a ++ [c])).1.length ≤ q := by
          rw [fld_s]
          have := clS_l c (fld a)
          omega
        have G2 : ∀ x ∈ a ++ [c], GC T n x := by
          intro x hx
          rcases List.mem_append.mp hx with hx | hx
          · exact hG x hx
          · rw [List.mem_singleton.mp hx]; exact ⟨p, q, hp, hq⟩
        simp only
        by_cases e : q = n
        · rw [if_pos e]
          refine ⟨fun q cs h => ?_, fun q h => by cases h⟩
          cases h
          refine ⟨by omega, ?_, ?_, G2⟩
          · simp
          · simp
        · rw [if_neg e]
          by_cases k0 : k = 0
          · rw [if_pos k0]
            refine ⟨fun q cs h => (by cases h), fun q h => by cases h; omega⟩
          · rw [if_neg k0]
            by_cases s : sg T n q = 59
            · have ql := sg_e s (by omega)
              rw [if_pos s]
              obtain ⟨i1, i2⟩ := ih (q + 1) (a ++ [c]) (by omega) (by omega) G2
              refine ⟨fun t cs h => ?_, i2⟩
              have := i1 t cs h
              simp only [List.length_append, List.length_singleton] at this
              exact ⟨this.1, by omega, by omega, this.2.2.2⟩
            · rw [if_neg s]
              refine ⟨fun q cs h => (by cases h), fun q h => by cases h; omega⟩
section ZCV
variable {T : Nat → Int} {n h : Nat} {M1 : ZMem}
theorem c61l (hB : HB T n h M1) : ∀ (k z p : Nat) (M : ZMem) (a : List (Nat × Int × List Int)), 1 ≤ k → k ≤ 10 → k < z → CH n h M1 M p → p ≤ n → St h M (fld a).1 (fld a).2 → (fld a).1.length ≤ p → ∃ M', f_61_35 z M 93 (ii (11 - (k : Int))) = some (ii (hAns (pHl T n k p a)), M') ∧ CH n h M1 M' (pHl T n k p a).1 ∧ ∀ cs, (pHl T n k p a).2 = some cs → St h M' (fld cs).1 (fld cs).2 := by
  have hh := hB.2.1.2
  have n100 := hB.2.1.1
  intro k
  induction k with
  | zero => intro z p M a h; omega
  | succ k ih =>
    intro z p M a _ hk hz hC hp hS hl
    obtain ⟨w, rfl⟩ : ∃ w, z = w + 1 := ⟨z - 1, by omega⟩
    obtain ⟨M2, a1, a2, a3⟩ := c63 hB hC hp hS hl
    obtain ⟨g1, g2⟩ := pCl_g (T := T) hp
    have e83 : ∀ {M : ZMem} {q : Nat}, CH n h M1 M q → f_61_83 M 93 = some (ii (q : Int), M) := by
      intro M q hq
      unfold f_61_83
      rw [(cD hq.1).2.2.1, zb_some, hq.2.2.1.2]
    rw [f_61_35, if_neg (show ¬ (10 : Int32) < ii (11 - ((k + 1 : Nat) : Int)) by rw [show (10 : Int32) = ii 10 from rfl, ii_lt (by omega) (by omega)]; omega), a1, zbd_some, pHl]
    cases hq : pCl T n p with
    | mk q o =>
      rw [hq] at a2 a3
      cases o with
      | none =>
        have bb := g2 q hq
        have a2' : CH n h M1 M2 q := a2
        simp only [Option.isSome_none]
        rw [if_neg (show ¬ ¬ bz (false = true) = 0 by decide), (cD a2'.1).2.2.1, zb_some, a2'.2.2.1.2]
        exact ⟨M2, rfl, a2', fun cs hc => by cases hc⟩
      | some c =>
        have bb := g1 q c hq
        have a2' : CH n h M1 M2 q := a2
        have S2 : St h M2 (fld (a ++ [c])).1 (fld (a ++ [c])).2 := by rw [fld_s]; exact a3 c rfl
        have l2 : (fld (a ++ [c])).1.length ≤ q := by
          rw [fld_s]
          have := clS_l c (fld a)
          omega
        rw [if_pos (bzg (o := ((q, some c) : Nat × Option (Nat × Int × List Int)).2) rfl), (cD a2'.1).2.2.1, zb_some, (cD a2'.1).2.1, zb_some, a2'.2.2.1.2, a2'.2.2.1.1]
        simp only
        by_cases e : q = n
        · rw [if_neg (show ¬ ¬ ii (q : Int) = ii (n : Int) by rw [e]; exact fun t => t rfl)]
          simp only [if_pos e]
          exact ⟨M2, rfl, a2', fun cs hc => by cases hc; exact S2⟩
        · rw [if_pos (show ¬ ii (q : Int) = ii (n : Int) by rw [ii_eq (by omega) (by omega)]; omega)]
          simp only [if_neg e]
          by_cases k0 : k = 0
          · rw [if_pos (show ii (11 - ((k + 1 : Nat) : Int)) = 10 by rw [k0]; rfl), e83 a2']
            simp only [if_pos k0]
            exact ⟨M2, rfl, a2', fun cs hc => by cases hc⟩
          · rw [if_neg (show ¬ ii (11 - ((k + 1 : Nat) : Int)) = 10 by rw [show (10 : Int32) = ii 10 from rfl, ii_eq (by omega) (by omega)]; omega), show (59 : Int32) = ii 59 from rfl, c74 hB a2' (by omega) (c := 59) (by omega), zbd_some]
            simp only [if_neg k0]
            by_cases s : sg T n q = 59
            · have ql := sg_e s (by omega)
              simp only [if_pos s]
              rw [if_pos (show ¬ (1 : Int32) = 0 by decide), show ii (11 - ((k + 1 : Nat) : Int)) + 1 = ii (11 - (k : Int)) by rw [show (1 : Int32) = ii 1 from rfl, ii_add]; congr 1; omega]
              exact ih w (q + 1) _ (a ++ [c]) (by omega) (by omega) (by omega) (a2'.pl hh (q + 1)) (by omega) (S2.fr (fun x j hx => zI_ne hx)) (by omega)
            · simp only [if_neg s]
              rw [if_neg (fun t => t trivial), e83 a2']
              exact ⟨M2, rfl, a2', fun cs hc => by cases hc⟩
theorem c61 (hB : HB T n h M1) : ∃ M', f_61 M1 93 (some (109 + 2 * h)) (some 89) (ii (n : Int)) = some (ii (hAns (pHl T n 10 0 [])), M') ∧ CH n h M1 M' (pHl T n 10 0 []).1 ∧ ∀ cs, (pHl T n 10 0 []).2 = some cs → St h M' (fld cs).1 (fld cs).2 := by
  have hh := hB.2.1.2
  have n100 := hB.2.1.1
  have hL := hB.1.1
  have L1 := Ly_pR M1 0 (some 89) hL
  have hk : zokT 3 (109 + 2 * h) = true := by
    have hz : h = 0 ∨ h = 1 ∨ h = 2 ∨ h = 3 ∨ h = 4 ∨ h = 5 := by omega
    rcases hz with rfl | rfl | rfl | rfl | rfl | rfl <;> decide +kernel
  have e37 := c37i (M := zpR M1 93 0 (some 89)) (a := (n : Int)) (b := 100) (by omega) (by omega)
  rw [show min (n : Int) 100 = (n : Int) by omega] at e37
  have L2 : Ly (zpI (zpR M1 93 0 (some 89)) 93 1 (ii (n : Int))) := L1.p
  have L3 : Ly (zpI (zpI (zpR M1 93 0 (some 89)) 93 1 (ii (n : Int))) 93 2 0) := L1.p.p
  have L4 := Ly_pR _ 3 (some (109 + 2 * h)) L3
  have r3 : zR (zpR (zpI (zpI (zpR M1 93 0 (some 89)) 93 1 (ii (n : Int))) 93 2 0) 93 3 (some (109 + 2 * h))) 93 3 = some (109 + 2 * h) := by rw [zR_pR, if_pos ⟨rfl, rfl⟩]
  have r0 : zR (zpR (zpI (zpI (zpR M1 93 0 (some 89)) 93 1 (ii (n : Int))) 93 2 0) 93 3 (some (109 + 2 * h))) 93 0 = some 89 := by
    rw [zR_pR, if_neg (fun q => absurd q.2 (by omega))]
    show zR (zpR M1 93 0 (some 89)) 93 0 = _
    rw [zR_pR, if_pos ⟨rfl, rfl⟩]
  generalize hM : zpR (zpI (zpI (zpR M1 93 0 (some 89)) 93 1 (ii (n : Int))) 93 2 0) 93 3 (some (109 + 2 * h)) = N at L4 r3 r0
  have zN' : ∀ a j, a ≠ 93 → zI N a j = zI M1 a j := by
    intro a j ha
    rw [← hM]
    show zI (zpI (zpI (zpR M1 93 0 (some 89)) 93 1 (ii (n : Int))) 93 2 0) a j = _
    rw [zI_ne ha, zI_ne ha]; rfl
  have zn1 : zI N 93 1 = ii (n : Int) := by
    rw [← hM]
    show zI (zpI (zpI (zpR M1 93 0 (some 89)) 93 1 (ii (n : Int))) 93 2 0) 93 1 = _
    rw [zI_nk (by omega), zI_at]
  have zn2 : zI N 93 2 = 0 := by
    rw [← hM]
    show zI (zpI (zpI (zpR M1 93 0 (some 89)) 93 1 (ii (n : Int))) 93 2 0) 93 2 = _
    rw [zI_at]
  have w62 : f_62 N (109 + 2 * h) = some (zpI (zpI (zpI (zpI N (109 + 2 * h) 1 0) (109 + 2 * h) 2 2) (109 + 2 * h) 3 5) (109 + 2 * h) 4 1) := by
    unfold f_62
    rw [if_pos (zok_ly L4 hk), pI L4 hk (by decide) (by decide) (by decide), zb_some, pI L4.p hk (by decide) (by decide) (by decide), zb_some, pI L4.p.p hk (by decide) (by decide) (by decide), zb_some, pI L4.p.p.p hk (by decide) (by decide) (by decide), zb_some]
  have C0 : CH n h M1 (zpI (zpI (zpI (zpI N (109 + 2 * h) 1 0) (109 + 2 * h) 2 2) (109 + 2 * h) 3 5) (109 + 2 * h) 4 1) 0 := by
    refine ⟨L4.p.p.p.p, ⟨r0, r3⟩, ⟨?_, ?_⟩, fun a j x1 x2 x3 => ?_, fun a j => ?_⟩
    · rw [zI_ne (by omega), zI_ne (by omega), zI_ne (by omega), zI_ne (by omega)]; exact zn1
    · rw [zI_ne (by omega), zI_ne (by omega), zI_ne (by omega), zI_ne (by omega)]; exact zn2
    · rw [zI_ne x2, zI_ne x2, zI_ne x2, zI_ne x2]; exact zN' a j x1
    · show zL N a j = _
      rw [← hM]; rfl
  have S0 : St h (zpI (zpI (zpI (zpI N (109 + 2 * h) 1 0) (109 + 2 * h) 2 2) (109 + 2 * h) 3 5) (109 + 2 * h) 4 1) (fld []).1 (fld []).2 := by
    refine ⟨?_, fun i hi => absurd hi (Nat.not_lt_zero i), ?_, ?_, ?_⟩
    · rw [zI_nk (by omega), zI_nk (by omega), zI_nk (by omega), zI_at]; rfl
    · rw [zI_nk (by omega), zI_nk (by omega), zI_at]; rfl
    · rw [zI_nk (by omega), zI_at]; rfl
    · rw [zI_at]; rfl
  obtain ⟨M', m1, m2, m3⟩ := c61l hB 10 zF 0 _ [] (by omega) (by omega) (by unfold zF; omega) C0 (by omega) S0 (Nat.le_refl _)
  refine ⟨M', ?_, m2, m3⟩
  unfold f_61
  rw [if_pos (cD hL).1, cDw hL (.inl rfl), zb_some, zb_some, zlen_ly L1 (p := 89) (t := 21) (n := 100) (by omega) (by decide +kernel) (by omega), zb_some]
  rw [show f_37 (zpR M1 93 0 (some 89)) (ii (n : Int)) (ii ((100 : Nat) : Int)) = _ from e37, zb_some, (pI L1 (t := 4) (o := 93) (by decide +kernel) (by decide) (by decide) (by decide)), zb_some, (pI L2 (t := 4) (o := 93) (by decide +kernel) (by decide) (by decide) (by decide)), zb_some, cDw L3 (.inr rfl), zb_some, hM, cDr L4 (.inr rfl) r3, zb_some, zb_some, w62, zb_some]
  exact m1
end ZCV
