/-! HILL: what a text says, as numbers alone -/
section ZHP
variable (T : Nat → Int) (n : Nat)
def sg (p : Nat) : Int := if p < n then T p else -1
/-- a number of one or two digits: where it ends, what it is -/
def pNum (p : Nat) : Nat × Option Int := if 48 ≤ sg T n p ∧ sg T n p ≤ 57 then (if 48 ≤ sg T n (p + 1) ∧ sg T n (p + 1) ≤ 57 then (p + 2, some ((sg T n p - 48) * 10 + sg T n (p + 1) - 48)) else (p + 1, some (sg T n p - 48))) else (p, none)
def plc (c : Int) : Int := if c = 98 then 0 else if c = 100 then 4 else if c = 107 then 1 else if c = 116 then 3 else if c = 118 then 2 else if c = 121 then 5 else -1
def pTest (p : Nat) : Nat × Option (List Int) := if plc (sg T n p) < 0 then (p, none) else if 60 ≤ sg T n (p + 1) ∧ sg T n (p + 1) ≤ 62 then (match pNum T n (p + 2) with
  | (q, some v) => (q, some [1000 * plc (sg T n p) + 100 * (sg T n (p + 1) - 60) + v])
  | (q, none) => (q, none)) else (p + 1, none)
/-- parts with a sign between, from the left on -/
def pAs (P : Nat → Nat × Option (List Int)) (op s : Int) : Nat → Nat → List Int → Nat × Option (List Int)
  | 0, q, e => (q, some e)
  | z + 1, q, e => if sg T n q = op then (match P (q + 1) with
    | (r, some e2) => pAs P op s z r (e ++ (e2 ++ [s]))
    | (r, none) => (r, none)) else (q, some e)
def pLv (P : Nat → Nat × Option (List Int)) (op s : Int) (p : Nat) : Nat × Option (List Int) := match P p with
  | (q, some e) => pAs T n P op s n q e
  | (q, none) => (q, none)
def pE (P : Nat → Nat × Option (List Int)) (p : Nat) : Nat × Option (List Int) := pLv T n (pLv T n P 38 (-38)) 124 (-124) p
def pF : Nat → Nat → Nat → Nat × Option (List Int)
  | 0, _, p => (p, none)
  | y + 1, d, p => if sg T n p = 40 ∨ sg T n p = 33 then (if d < 4 then (if sg T n p = 40 then (match pE T n (pF y (d + 1)) (p + 1) with
      | (q, some e) => if sg T n q = 41 then (q + 1, some e) else (q, none)
      | (q, none) => (q, none)) else (match pF y (d + 1) (p + 1) with
      | (q, some e) => (q, some (e ++ [-33]))
      | (q, none) => (q, none))) else (p, none)) else pTest T n p
/-- a word -/
def cpf : List Int → Nat → Nat
  | [], _ => 0
  | c :: r, p => if sg T n p = c then cpf r (p + 1) + 1 else 0
def wdl (w : Nat) : List Int := if w = 0 then [100, 101, 97, 114] else if w = 1 then [99, 104, 101, 97, 112] else if w = 2 then [116, 104, 105, 110] else if w = 3 then [116, 104, 105, 99, 107] else [119, 105, 110, 100]
def pWd (p : Nat) : Nat → Nat → Nat → Nat × Option Nat
  | 0, _, lo => (p + lo, none)
  | k + 1, w, lo => if cpf T n (wdl w) p = (wdl w).length then (p + (wdl w).length, some w) else pWd p k (w + 1) (max lo (cpf T n (wdl w) p))
def mwd (p : Nat) : Nat := if sg T n p = 99 then 1 else if sg T n p = 100 then 0 else if sg T n p = 119 then 4 else if sg T n (p + 3) = 99 then 3 else 2
theorem pWd_m (p : Nat) : pWd T n p 5 0 0 = if cpf T n (wdl (mwd T n p)) p = (wdl (mwd T n p)).length then (p + (wdl (mwd T n p)).length, some (mwd T n p)) else (p + cpf T n (wdl (mwd T n p)) p, none) := by
  unfold mwd
  by_cases h1 : sg T n p = 99
  · simp [pWd, wdl, cpf, h1]
  · by_cases h2 : sg T n p = 100
    · simp [pWd, wdl, cpf, h2]
    · by_cases h3 : sg T n p = 119
      · simp [pWd, wdl, cpf, h3]
      · by_cases h4 : sg T n p = 116
        · by_cases h5 : sg T n (p + 1) = 104
          · by_cases h6 : sg T n (p + 2) = 105
            · by_cases h7 : sg T n (p + 3) = 99
              · by_cases h8 : sg T n (p + 4) = 107 <;> simp [pWd, wdl, cpf, h4, h5, h6, h7, h8]
              · by_cases h9 : sg T n (p + 3) = 110 <;> simp [pWd, wdl, cpf, h4, h5, h6, h7, h9]
            · by_cases h7 : sg T n (p + 3) = 99 <;> simp [pWd, wdl, cpf, h4, h5, h6, h7]
          · by_cases h7 : sg T n (p + 3) = 99 <;> simp [pWd, wdl, cpf, h4, h5, h7]
        · by_cases h7 : sg T n (p + 3) = 99 <;> simp [pWd, wdl, cpf, h1, h2, h3, h4, h7]
/-- a clause: its word, its number, its signs -/
def pCl (p : Nat) : Nat × Option (Nat × Int × List Int) := match pWd T n p 5 0 0 with
  | (q, none) => (q, none)
  | (q, some w) => if sg T n q = 32 then (match pNum T n (q + 1) with
    | (r, none) => (r, none)
    | (r, some v) => if w ≤ 1 then (if sg T n r = 32 then (match pE T n (pF T n 8 0) (r + 1) with
        | (t, some e) => (t, some (w, v, e))
        | (t, none) => (t, none)) else (r, none)) else (r, some (w, v, []))) else (q, none)
def pHl : Nat → Nat → List (Nat × Int × List Int) → Nat × Option (List (Nat × Int × List Int))
  | 0, p, _ => (p, none)
  | k + 1, p, a => match pCl T n p with
    | (q, none) => (q, none)
    | (q, some c) => if q = n then (q, some (a ++ [c])) else if k = 0 then (q, none) else if sg T n q = 59 then pHl k (q + 1) (a ++ [c]) else (q, none)
variable {T n}
theorem sg_n {p : Nat} (h : 0 ≤ sg T n p) : p < n := by
  unfold sg at h
  by_cases c : p < n
  · exact c
  · rw [if_neg c] at h; omega
theorem sg_e {p : Nat} {c : Int} (h : sg T n p = c) (hc : 0 ≤ c) : p < n := sg_n (T := T) (n := n) (p := p) (by omega)
/-- a parser goes on, within the text, and brings no more signs than it passes -/
def GP (n : Nat) (P : Nat → Nat × Option (List Int)) : Prop := ∀ p, p ≤ n → (∀ q e, P p = (q, some e) → p < q ∧ q ≤ n ∧ e.length + p ≤ q ∧ 1 ≤ e.length) ∧ ∀ q, P p = (q, none) → p ≤ q ∧ q ≤ n
theorem pNum_g {p : Nat} (hp : p ≤ n) : (∀ q v, pNum T n p = (q, some v) → p < q ∧ q ≤ n ∧ 0 ≤ v ∧ v ≤ 99) ∧ ∀ q, pNum T n p = (q, none) → q = p := by
  unfold pNum
  by_cases c : 48 ≤ sg T n p ∧ sg T n p ≤ 57
  · rw [if_pos c]
    have := sg_n (T := T) (n := n) (p := p) (by omega)
    by_cases d : 48 ≤ sg T n (p + 1) ∧ sg T n (p + 1) ≤ 57
    · rw [if_pos d]
      have := sg_n (T := T) (n := n) (p := p + 1) (by omega)
      refine ⟨fun q v h => ?_, fun q h => by cases h⟩
      cases h
      omega
    · rw [if_neg d]
      refine ⟨fun q v h => ?_, fun q h => by cases h⟩
      cases h
      omega
  · rw [if_neg c]
    refine ⟨fun q v h => (by cases h), fun q h => ?_⟩
    cases h
    rfl
theorem plc_b {c : Int} (h : ¬ plc c < 0) : 0 ≤ plc c ∧ plc c ≤ 5 ∧ 0 ≤ c ∧ zfl (plc c) = c := by
  unfold plc at h ⊢
  by_cases h1 : c = 98
  · subst h1; decide
  · by_cases h2 : c = 100
    · subst h2; decide
    · by_cases h3 : c = 107
      · subst h3; decide
      · by_cases h4 : c = 116
        · subst h4; decide
        · by_cases h5 : c = 118
          · subst h5; decide
          · by_cases h6 : c = 121
            · subst h6; decide
            · simp only [if_neg h1, if_neg h2, if_neg h3, if_neg h4, if_neg h5, if_neg h6] at h
              omega
theorem pTest_g : GP n (pTest T n) := by
  intro p hp
  unfold pTest
  by_cases c : plc (sg T n p) < 0
  · rw [if_pos c]
    refine ⟨fun q e h => (by cases h), fun q h => by cases h; omega⟩
  · rw [if_neg c]
    have b := plc_b c
    have l1 := sg_n b.2.2.1
    by_cases d : 60 ≤ sg T n (p + 1) ∧ sg T n (p + 1) ≤ 62
    · rw [if_pos d]
      have l2 := sg_n (T := T) (n := n) (p := p + 1) (by omega)
      obtain ⟨g1, g2⟩ := pNum_g (T := T) (n := n) (p := p + 2) (by omega)
      cases h : pNum T n (p + 2) with
      | mk q o =>
        cases o with
        | none =>
          have := g2 q h
          refine ⟨fun q e h => (by cases h), fun q h => by cases h; omega⟩
        | some v =>
          have := g1 q v h
          refine ⟨fun q e h => ?_, fun q h => by cases h⟩
          cases h
          simp
          omega
    · rw [if_neg d]
      refine ⟨fun q e h => (by cases h), fun q h => by cases h; omega⟩
theorem pAs_g {P : Nat → Nat × Option (List Int)} {op s : Int} (ho : 0 ≤ op) (hP : GP n P) : ∀ z q e, q ≤ n → (∀ r f, pAs T n P op s z q e = (r, some f) → q ≤ r ∧ r ≤ n ∧ f.length + q ≤ e.length + r ∧ e.length ≤ f.length) ∧ ∀ r, pAs T n P op s z q e = (r, none) → q ≤ r ∧ r ≤ n := by
  intro z
  induction z with
  | zero =>
    intro q e hq
    refine ⟨fun r f h => by cases h; omega, fun r h => by cases h⟩
  | succ z ih =>
    intro q e hq
    rw [pAs]
    by_cases c : sg T n q = op
    · rw [if_pos c]
      have l := sg_e c ho
      obtain ⟨g1, g2⟩ := hP (q + 1) (by omega)
      cases h : P (q + 1) with
      | mk r o =>
        cases o with
        | none =>
          have := g2 r h
          refine ⟨fun q e h => (by cases h), fun q h => by cases h; omega⟩
        | some e2 =>
          have := g1 r e2 h
          obtain ⟨i1, i2⟩ := ih r (e ++ (e2 ++ [s])) (by omega)
          refine ⟨fun t f h => ?_, fun t h => ?_⟩
          · have := i1 t f h
            simp at this
            omega
          · have := i2 t h
            omega
    · rw [if_neg c]
      refine ⟨fun r f h => by cases h; omega, fun r h => by cases h⟩
theorem pLv_g {P : Nat → Nat × Option (List Int)} {op s : Int} (ho : 0 ≤ op) (hP : GP n P) : GP n (pLv T n P op s) := by
  intro p hp
  unfold pLv
  obtain ⟨g1, g2⟩ := hP p hp
  cases h : P p with
  | mk q o =>
    cases o with
    | none =>
      have := g2 q h
      refine ⟨fun q e h => (by cases h), fun q h => by cases h; omega⟩
    | some e =>
      have := g1 q e h
      obtain ⟨i1, i2⟩ := pAs_g (T := T) (s := s) ho hP n q e (by omega)
      refine ⟨fun t f h => ?_, fun t h => ?_⟩
      · have := i1 t f h
        omega
      · have := i2 t h
        omega
theorem pE_g {P : Nat → Nat × Option (List Int)} (hP : GP n P) : GP n (pE T n P) := pLv_g (by omega) (pLv_g (by omega) hP)
theorem pF_g : ∀ y d, GP n (pF T n y d) := by
  intro y
  induction y with
  | zero =>
    intro d p hp
    refine ⟨fun q e h => (by cases h), fun q h => by cases h; omega⟩
  | succ y ih =>
    intro d p hp
    rw [pF]
    by_cases c : sg T n p = 40 ∨ sg T n p = 33
    · rw [if_pos c]
      have l := sg_n (T := T) (n := n) (p := p) (by omega)
      by_cases hd : d < 4
      · rw [if_pos hd]
        by_cases c2 : sg T n p = 40
        · rw [if_pos c2]
          obtain ⟨g1, g2⟩ := pE_g (T := T) (ih (d + 1)) (p + 1) (by omega)
          cases h : pE T n (pF T n y (d + 1)) (p + 1) with
          | mk q o =>
            cases o with
            | none =>
              have := g2 q h
              refine ⟨fun q e h => (by cases h), fun q h => by cases h; omega⟩
            | some e =>
              have := g1 q e h
              simp only
              by_cases c3 : sg T n q = 41
              · rw [if_pos c3]
                have l2 := sg_n (T := T) (n := n) (p := q) (by omega)
                refine ⟨fun t f h => by cases h; omega, fun t h => by cases h⟩
              · rw [if_neg c3]
                refine ⟨fun q e h => (by cases h), fun q h => by cases h; omega⟩
        · rw [if_neg c2]
          obtain ⟨g1, g2⟩ := ih (d + 1) (p + 1) (by omega)
          cases h : pF T n y (d + 1) (p + 1) with
          | mk q o =>
            cases o with
            | none =>
              have := g2 q h
              refine ⟨fun q e h => (by cases h), fun q h => by cases h; omega⟩
            | some e =>
              have := g1 q e h
              refine ⟨fun t f h => ?_, fun t h => by cases h⟩
              cases h
              simp
              omega
      · rw [if_neg hd]
        refine ⟨fun q e h => (by cases h), fun q h => by cases h; omega⟩
    · rw [if_neg c]
      exact pTest_g p hp
/-- signs that come out right from m found on, up to k -/
def AP (k : Nat) (P : Nat → Nat × Option (List Int)) : Prop := ∀ p q e, P p = (q, some e) → ∀ m l, m ≤ k → sok l (m + 1) → sok (e ++ l) m
theorem pTest_a {k : Nat} (hk : k ≤ 11) : AP k (pTest T n) := by
  intro p q e h m l hm hl
  unfold pTest at h
  by_cases c : plc (sg T n p) < 0
  · rw [if_pos c] at h; cases h
  · rw [if_neg c] at h
    have b := plc_b c
    by_cases d : 60 ≤ sg T n (p + 1) ∧ sg T n (p + 1) ≤ 62
    · rw [if_pos d] at h
      have l2 := sg_n (T := T) (n := n) (p := p + 1) (by omega)
      cases g : pNum T n (p + 2) with
      | mk r o =>
        rw [g] at h
        cases o with
        | none => cases h
        | some v =>
          have := (pNum_g (T := T) (n := n) (p := p + 2) (by omega)).1 r v g
          cases h
          show sok (_ :: l) m
          rw [sok]
          exact .inr (.inr ⟨by omega, by omega, hl⟩)
    · rw [if_neg d] at h; cases h
theorem pAs_a {k : Nat} {P : Nat → Nat × Option (List Int)} {op s : Int} (hs : s = -38 ∨ s = -124) (hP : AP (k + 1) P) : ∀ z q e, (∀ m l, m ≤ k → sok l (m + 1) → sok (e ++ l) m) → ∀ r f, pAs T n P op s z q e = (r, some f) → ∀ m l, m ≤ k → sok l (m + 1) → sok (f ++ l) m := by
  intro z
  induction z with
  | zero => intro q e he r f h; cases h; exact he
  | succ z ih =>
    intro q e he r f h
    rw [pAs] at h
    by_cases c : sg T n q = op
    · rw [if_pos c] at h
      cases g : P (q + 1) with
      | mk t o =>
        rw [g] at h
        cases o with
        | none => cases h
        | some e2 =>
          refine ih t _ (fun m l hm hl => ?_) r f h
          rw [List.append_assoc, List.append_assoc]
          refine he m _ hm (hP _ _ _ g (m + 1) _ (by omega) ?_)
          show sok (s :: l) (m + 1 + 1)
          rw [sok]
          exact .inr (.inl ⟨hs, by omega, hl⟩)
    · rw [if_neg c] at h; cases h; exact he
theorem pLv_a {k : Nat} {P : Nat → Nat × Option (List Int)} {op s : Int} (hs : s = -38 ∨ s = -124) (hP : AP (k + 1) P) : AP k (pLv T n P op s) := by
  intro p q e h
  unfold pLv at h
  cases g : P p with
  | mk t o =>
    rw [g] at h
    cases o with
    | none => cases h
    | some e1 => exact pAs_a hs hP n t e1 (fun m l hm hl => hP _ _ _ g m l (by omega) hl) q e h
theorem pE_a {k : Nat} {P : Nat → Nat × Option (List Int)} (hP : AP (k + 2) P) : AP k (pE T n P) := pLv_a (.inr rfl) (pLv_a (.inl rfl) hP)
theorem pF_a : ∀ y d, d ≤ 4 → AP (2 * d + 2) (pF T n y d) := by
  intro y
  induction y with
  | zero => intro d hd p q e h; cases h
  | succ y ih =>
    intro d hd p q e h m l hm hl
    rw [pF] at h
    by_cases c : sg T n p = 40 ∨ sg T n p = 33
    · rw [if_pos c] at h
      by_cases hd4 : d < 4
      · rw [if_pos hd4] at h
        have ih1 := ih (d + 1) (by omega)
        by_cases c2 : sg T n p = 40
        · rw [if_pos c2] at h
          cases g : pE T n (pF T n y (d + 1)) (p + 1) with
          | mk t o =>
            rw [g] at h
            cases o with
            | none => cases h
            | some e1 =>
              simp only at h
              by_cases c3 : sg T n t = 41
              · rw [if_pos c3] at h
                cases h
                exact pE_a (k := 2 * d + 2) (by rw [show 2 * d + 2 + 2 = 2 * (d + 1) + 2 by omega]; exact ih1) _ _ _ g m l hm hl
              · rw [if_neg c3] at h; cases h
        · rw [if_neg c2] at h
          cases g : pF T n y (d + 1) (p + 1) with
          | mk t o =>
            rw [g] at h
            cases o with
            | none => cases h
            | some e1 =>
              cases h
              rw [List.append_assoc]
              refine ih1 _ _ _ g m _ (by omega) ?_
              show sok (-33 :: l) (m + 1)
              rw [sok]
              exact .inl ⟨rfl, by omega, hl⟩
      · rw [if_neg hd4] at h; cases h
    · rw [if_neg c] at h
      exact pTest_a (k := 2 * d + 2) (by omega) p q e h m l hm hl
end ZHP
