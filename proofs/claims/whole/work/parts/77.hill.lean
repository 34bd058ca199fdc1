/-! HILL, the class's reader: parts, clauses, the whole (levels printed by wip/whole/gen_hill.py) -/
theorem st_t : ∀ f : Nat, f < 6 → ∀ k : Nat, k < 3 → ∀ v : Nat, v < 100 → (((((0 : Int32) <<< (24 &&& 31)) ||| (ii (zfl (f : Int)) <<< (16 &&& 31))) ||| (ii (60 + (k : Int)) <<< (8 &&& 31))) ||| ii (v : Int)) = ii (zfl (f : Int) * 65536 + (60 + (k : Int)) * 256 + (v : Int)) := by decide +kernel
theorem st_o : (((((1 : Int32) <<< (24 &&& 31)) ||| ((0 : Int32) <<< (16 &&& 31))) ||| ((0 : Int32) <<< (8 &&& 31))) ||| (0 : Int32)) = ii (zstep1 (-33)) ∧ (((((2 : Int32) <<< (24 &&& 31)) ||| ((0 : Int32) <<< (16 &&& 31))) ||| ((0 : Int32) <<< (8 &&& 31))) ||| (0 : Int32)) = ii (zstep1 (-38)) ∧ (((((3 : Int32) <<< (24 &&& 31)) ||| ((0 : Int32) <<< (16 &&& 31))) ||| ((0 : Int32) <<< (8 &&& 31))) ||| (0 : Int32)) = ii (zstep1 (-124)) := by decide +kernel
theorem st_d : ∀ v : Nat, v < 100 → (((((4 : Int32) <<< (24 &&& 31)) ||| ((0 : Int32) <<< (16 &&& 31))) ||| ((0 : Int32) <<< (8 &&& 31))) ||| ii (v : Int)) = ii (67108864 + (v : Int)) ∧ (((((5 : Int32) <<< (24 &&& 31)) ||| ((0 : Int32) <<< (16 &&& 31))) ||| ((0 : Int32) <<< (8 &&& 31))) ||| ii (v : Int)) = ii (83886080 + (v : Int)) := by decide +kernel
/-- a method of the class's reader does what a parser says -/
def SimP (T : Nat → Int) (n h : Nat) (M1 : ZMem) (f : ZMem → Option (Int32 × ZMem)) (P : Nat → Nat × Option (List Int)) : Prop := ∀ M p st tm, CH n h M1 M p → p ≤ n → St h M st tm → st.length ≤ p → ∃ M', f M = some (bz ((P p).2.isSome = true), M') ∧ CH n h M1 M' (P p).1 ∧ ∀ e, (P p).2 = some e → St h M' (st ++ e.map zstep1) tm
theorem bzg {α : Type} {o : Option α} {e : α} (h : o = some e) : ¬ bz (o.isSome = true) = 0 := by
  subst h
  show ¬ (1 : Int32) = 0
  decide
section ZCL
variable {T : Nat → Int} {n h : Nat} {M1 : ZMem}
theorem c80 (hB : HB T n h M1) : SimP T n h M1 (fun M => f_80 M 93) (pTest T n) := by
  intro M p st tm hC hp hS hl
  have hh := hB.2.1.2
  have n100 := hB.2.1.1
  have C1 := hC.pl hh (p + 1)
  have C2 := C1.pl hh (p + 1 + 1)
  have e7 := c81 hB hC (by omega) (o := 7) (by omega) (by omega)
  have e8 := c81 hB C1 (by omega) (o := 8) (by omega) (by omega)
  have b0 := sg_b hB p
  have b1 := sg_b hB (p + 1)
  show ∃ M', f_80 M 93 = _ ∧ _
  unfold f_80 pTest
  rw [if_pos (cD hC.1).1, e7, zbd_some]
  by_cases c : plc (sg T n p) < 0
  · have g : ¬ (0 ≤ sg T n p ∧ 0 ≤ ixo (sg T n p) (wby 7) 0) := fun q => (ix7 _).mp q c
    rw [if_neg g, if_pos c]
    simp only
    rw [if_neg (show ¬ (0 : Int32) ≤ -1 by decide)]
    exact ⟨M, rfl, hC, fun e q => by cases q⟩
  · have g := (ix7 (sg T n p)).mpr c
    have pb := plc_b c
    rw [if_pos g, if_neg c]
    simp only
    rw [if_pos (show (0 : Int32) ≤ ii (sg T n p) by rw [show (0 : Int32) = ii 0 from rfl, ii_le (by omega) (by omega)]; omega), e8, zbd_some]
    by_cases d : 60 ≤ sg T n (p + 1) ∧ sg T n (p + 1) ≤ 62
    · rw [if_pos ((ix8 _).mpr d), if_pos d]
      simp only
      have l2 := sg_n (T := T) (n := n) (p := p + 1) (by omega)
      obtain ⟨M3, m1, m2, m3⟩ := c76 hB C2 (by omega)
      obtain ⟨g1, g2⟩ := pNum_g (T := T) (n := n) (p := p + 2) (by omega)
      rw [show p + 1 + 1 = p + 2 by omega] at m1 m2
      rw [if_pos (show (0 : Int32) ≤ ii (sg T n (p + 1)) by rw [show (0 : Int32) = ii 0 from rfl, ii_le (by omega) (by omega)]; omega), show p + 1 + 1 = p + 2 by omega, m1, zbd_some]
      cases hq : pNum T n (p + 2) with
      | mk q r =>
        rw [hq] at m2
        cases r with
        | none =>
          simp only [Option.getD_none]
          rw [if_neg (show ¬ (0 : Int32) ≤ ii (-1) by decide)]
          exact ⟨M3, rfl, m2, fun e q => by cases q⟩
        | some v =>
          have bv := g1 q v hq
          obtain ⟨v', rfl⟩ := Int.eq_ofNat_of_zero_le bv.2.2.1
          obtain ⟨f', hf⟩ := Int.eq_ofNat_of_zero_le pb.1
          obtain ⟨k', hk⟩ := Int.eq_ofNat_of_zero_le (show 0 ≤ sg T n (p + 1) - 60 by omega)
          have S3 : St h M3 st tm := hS.fr (fun a j ha => (m3 a j ha).trans ((zI_ne ha).trans (zI_ne ha)))
          have ez := st_t f' (by omega) k' (by omega) v' (by omega)
          rw [← hf, pb.2.2.2, show (60 : Int) + (k' : Int) = sg T n (p + 1) by omega] at ez
          obtain ⟨M4, w1, w2, w3⟩ := c87 hB m2 S3 (by omega) ez
          simp only [Option.getD_some]
          rw [if_pos (show (0 : Int32) ≤ ii (v' : Int) by rw [show (0 : Int32) = ii 0 from rfl, ii_le (by omega) (by omega)]; omega), cDr m2.1 (.inr rfl) m2.2.1.2, zb_some, zb_some, w1, zb_some]
          refine ⟨M4, rfl, w2, fun e he => ?_⟩
          cases he
          have et : zstep1 (1000 * plc (sg T n p) + 100 * (sg T n (p + 1) - 60) + (v' : Int)) = sg T n p * 65536 + sg T n (p + 1) * 256 + (v' : Int) := by
            have bb : 0 ≤ 1000 * plc (sg T n p) + 100 * (sg T n (p + 1) - 60) + (v' : Int) ∧ 1000 * plc (sg T n p) + 100 * (sg T n (p + 1) - 60) + (v' : Int) < 6000 := by omega
            unfold zstep1
            rw [if_neg (by omega), if_neg (by omega), if_neg (by omega), show (1000 * plc (sg T n p) + 100 * (sg T n (p + 1) - 60) + (v' : Int)) / 1000 = plc (sg T n p) by omega, pb.2.2.2, show 60 + (1000 * plc (sg T n p) + 100 * (sg T n (p + 1) - 60) + (v' : Int)) / 100 % 10 = sg T n (p + 1) by omega, show (1000 * plc (sg T n p) + 100 * (sg T n (p + 1) - 60) + (v' : Int)) % 100 = (v' : Int) by omega]
          rw [List.map_cons, List.map_nil, et]
          exact w3
    · rw [if_neg (fun q => d ((ix8 _).mp q)), if_neg d]
      simp only
      rw [if_neg (show ¬ (0 : Int32) ≤ -1 by decide)]
      exact ⟨_, rfl, C1, fun e q => by cases q⟩
theorem c78l (hB : HB T n h M1) {F : ZMem → Nat → Int32 → Option (Int32 × ZMem)} {d : Int32} {P : Nat → Nat × Option (List Int)} (hG : GP n P) (hP : SimP T n h M1 (fun M => F M 93 d) P) : ∀ (m z i : Nat) (M : ZMem) (q : Nat) (e st : List Int) (tm : Int × Int × Int), i + m = n → m < z → CH n h M1 M q → q ≤ n → St h M (st ++ e.map zstep1) tm → st.length + e.length ≤ q → ∃ M', f_78_12 F z M 93 d (ii (i : Int)) = some (bz ((pAs T n P 38 (-38) m q e).2.isSome = true), M') ∧ CH n h M1 M' (pAs T n P 38 (-38) m q e).1 ∧ ∀ f, (pAs T n P 38 (-38) m q e).2 = some f → St h M' (st ++ f.map zstep1) tm := by
  have hh := hB.2.1.2
  have n100 := hB.2.1.1
  intro m
  induction m with
  | zero =>
    intro z i M q e st tm hi hz hC hq hS hl
    obtain ⟨w, rfl⟩ : ∃ w, z = w + 1 := ⟨z - 1, by omega⟩
    refine ⟨M, ?_, hC, fun f hf => by cases hf; exact hS⟩
    rw [f_78_12, (cD hC.1).2.1, zb_some, hC.2.2.1.1, if_pos (show ii (n : Int) ≤ ii (i : Int) by rw [ii_le (by omega) (by omega)]; omega)]
    rfl
  | succ m ih =>
    intro z i M q e st tm hi hz hC hq hS hl
    obtain ⟨w, rfl⟩ : ∃ w, z = w + 1 := ⟨z - 1, by omega⟩
    have C1 := hC.pl hh (q + 1)
    have e74 := c74 hB hC (by omega) (c := 38) (by omega)
    rw [f_78_12, (cD hC.1).2.1, zb_some, hC.2.2.1.1, if_neg (show ¬ ii (n : Int) ≤ ii (i : Int) by rw [ii_le (by omega) (by omega)]; omega), show (38 : Int32) = ii 38 from rfl, e74, zbd_some, pAs]
    by_cases c : sg T n q = 38
    · have ql := sg_e c (by omega)
      have S1 : St h (zpI M 93 2 (ii ((q + 1 : Nat) : Int))) (st ++ e.map zstep1) tm := hS.fr (fun a j ha => zI_ne ha)
      obtain ⟨M2, a1, a2, a3⟩ := hP _ (q + 1) _ tm C1 (by omega) S1 (by simp; omega)
      obtain ⟨g1, g2⟩ := hG (q + 1) (by omega)
      rw [if_pos c, if_pos c]
      simp only
      rw [if_neg (show ¬ (1 : Int32) = 0 by decide)]
      rw [show F (zpI M 93 2 (ii ((q + 1 : Nat) : Int))) 93 d = _ from a1, zbd_some]
      cases hp : P (q + 1) with
      | mk r o =>
        rw [hp] at a2 a3
        cases o with
        | none =>
          simp only [Option.isSome_none]
          rw [if_neg (show ¬ ¬ bz (false = true) = 0 by decide)]
          exact ⟨M2, rfl, a2, fun f hf => by cases hf⟩
        | some e2 =>
          have bb := g1 r e2 hp
          have S2 := a3 e2 rfl
          obtain ⟨M3, w1, w2, w3⟩ := c87 hB a2 S2 (by simp; omega) st_o.2.1
          rw [if_pos (bzg (o := ((r, some e2) : Nat × Option (List Int)).2) rfl), cDr a2.1 (.inr rfl) a2.2.1.2, zb_some, zb_some, w1, zb_some, ii_s1]
          simp only
          refine ih w (i + 1) M3 r (e ++ (e2 ++ [-38])) st tm (by omega) (by omega) w2 (by omega) ?_ (by simp; omega)
          simp only [List.map_append, List.map_cons, List.map_nil]
          rw [List.append_assoc, List.append_assoc] at w3
          exact w3
    · rw [if_neg c, if_neg c]
      simp only
      rw [if_pos trivial]
      exact ⟨M, rfl, hC, fun f hf => by cases hf; exact hS⟩
theorem c78 (hB : HB T n h M1) {F : ZMem → Nat → Int32 → Option (Int32 × ZMem)} {d : Int32} {P : Nat → Nat × Option (List Int)} (hG : GP n P) (hP : SimP T n h M1 (fun M => F M 93 d) P) : SimP T n h M1 (fun M => f_78 F M 93 d) (pLv T n P 38 (-38)) := by
  intro M p st tm hC hp hS hl
  have n100 := hB.2.1.1
  obtain ⟨M2, a1, a2, a3⟩ := hP M p st tm hC hp hS hl
  obtain ⟨g1, g2⟩ := hG p hp
  show ∃ M', f_78 F M 93 d = _ ∧ _
  unfold f_78 pLv
  rw [if_pos (cD hC.1).1, show F M 93 d = _ from a1, zbd_some]
  cases hq : P p with
  | mk r o =>
    rw [hq] at a2 a3
    cases o with
    | none =>
      simp only [Option.isSome_none]
      rw [if_neg (show ¬ ¬ bz (false = true) = 0 by decide)]
      exact ⟨M2, rfl, a2, fun f hf => by cases hf⟩
    | some e =>
      have bb := g1 r e hq
      rw [if_pos (bzg (o := ((r, some e) : Nat × Option (List Int)).2) rfl)]
      simp only
      exact c78l hB hG hP n zF 0 M2 r e st tm (by omega) (by unfold zF; omega) a2 (by omega) (a3 e rfl) (by omega)
theorem c77l (hB : HB T n h M1) {F : ZMem → Nat → Int32 → Option (Int32 × ZMem)} {d : Int32} {P : Nat → Nat × Option (List Int)} (hG : GP n P) (hP : SimP T n h M1 (fun M => f_78 F M 93 d) P) : ∀ (m z i : Nat) (M : ZMem) (q : Nat) (e st : List Int) (tm : Int × Int × Int), i + m = n → m < z → CH n h M1 M q → q ≤ n → St h M (st ++ e.map zstep1) tm → st.length + e.length ≤ q → ∃ M', f_77_12 F z M 93 d (ii (i : Int)) = some (bz ((pAs T n P 124 (-124) m q e).2.isSome = true), M') ∧ CH n h M1 M' (pAs T n P 124 (-124) m q e).1 ∧ ∀ f, (pAs T n P 124 (-124) m q e).2 = some f → St h M' (st ++ f.map zstep1) tm := by
  have hh := hB.2.1.2
  have n100 := hB.2.1.1
  intro m
  induction m with
  | zero =>
    intro z i M q e st tm hi hz hC hq hS hl
    obtain ⟨w, rfl⟩ : ∃ w, z = w + 1 := ⟨z - 1, by omega⟩
    refine ⟨M, ?_, hC, fun f hf => by cases hf; exact hS⟩
    rw [f_77_12, (cD hC.1).2.1, zb_some, hC.2.2.1.1, if_pos (show ii (n : Int) ≤ ii (i : Int) by rw [ii_le (by omega) (by omega)]; omega)]
    rfl
  | succ m ih =>
    intro z i M q e st tm hi hz hC hq hS hl
    obtain ⟨w, rfl⟩ : ∃ w, z = w + 1 := ⟨z - 1, by omega⟩
    have C1 := hC.pl hh (q + 1)
    have e74 := c74 hB hC (by omega) (c := 124) (by omega)
    rw [f_77_12, (cD hC.1).2.1, zb_some, hC.2.2.1.1, if_neg (show ¬ ii (n : Int) ≤ ii (i : Int) by rw [ii_le (by omega) (by omega)]; omega), show (124 : Int32) = ii 124 from rfl, e74, zbd_some, pAs]
    by_cases c : sg T n q = 124
    · have ql := sg_e c (by omega)
      have S1 : St h (zpI M 93 2 (ii ((q + 1 : Nat) : Int))) (st ++ e.map zstep1) tm := hS.fr (fun a j ha => zI_ne ha)
      obtain ⟨M2, a1, a2, a3⟩ := hP _ (q + 1) _ tm C1 (by omega) S1 (by simp; omega)
      obtain ⟨g1, g2⟩ := hG (q + 1) (by omega)
      rw [if_pos c, if_pos c]
      simp only
      rw [if_neg (show ¬ (1 : Int32) = 0 by decide)]
      rw [show f_78 F (zpI M 93 2 (ii ((q + 1 : Nat) : Int))) 93 d = _ from a1, zbd_some]
      cases hp : P (q + 1) with
      | mk r o =>
        rw [hp] at a2 a3
        cases o with
        | none =>
          simp only [Option.isSome_none]
          rw [if_neg (show ¬ ¬ bz (false = true) = 0 by decide)]
          exact ⟨M2, rfl, a2, fun f hf => by cases hf⟩
        | some e2 =>
          have bb := g1 r e2 hp
          have S2 := a3 e2 rfl
          obtain ⟨M3, w1, w2, w3⟩ := c87 hB a2 S2 (by simp; omega) st_o.2.2
          rw [if_pos (bzg (o := ((r, some e2) : Nat × Option (List Int)).2) rfl), cDr a2.1 (.inr rfl) a2.2.1.2, zb_some, zb_some, w1, zb_some, ii_s1]
          simp only
          refine ih w (i + 1) M3 r (e ++ (e2 ++ [-124])) st tm (by omega) (by omega) w2 (by omega) ?_ (by simp; omega)
          simp only [List.map_append, List.map_cons, List.map_nil]
          rw [List.append_assoc, List.append_assoc] at w3
          exact w3
    · rw [if_neg c, if_neg c]
      simp only
      rw [if_pos trivial]
      exact ⟨M, rfl, hC, fun f hf => by cases hf; exact hS⟩
theorem c77 (hB : HB T n h M1) {F : ZMem → Nat → Int32 → Option (Int32 × ZMem)} {d : Int32} {P : Nat → Nat × Option (List Int)} (hG : GP n P) (hP : SimP T n h M1 (fun M => f_78 F M 93 d) P) : SimP T n h M1 (fun M => f_77 F M 93 d) (pLv T n P 124 (-124)) := by
  intro M p st tm hC hp hS hl
  have n100 := hB.2.1.1
  obtain ⟨M2, a1, a2, a3⟩ := hP M p st tm hC hp hS hl
  obtain ⟨g1, g2⟩ := hG p hp
  show ∃ M', f_77 F M 93 d = _ ∧ _
  unfold f_77 pLv
  rw [if_pos (cD hC.1).1, show f_78 F M 93 d = _ from a1, zbd_some]
  cases hq : P p with
  | mk r o =>
    rw [hq] at a2 a3
    cases o with
    | none =>
      simp only [Option.isSome_none]
      rw [if_neg (show ¬ ¬ bz (false = true) = 0 by decide)]
      exact ⟨M2, rfl, a2, fun f hf => by cases hf⟩
    | some e =>
      have bb := g1 r e hq
      rw [if_pos (bzg (o := ((r, some e) : Nat × Option (List Int)).2) rfl)]
      simp only
      exact c77l hB hG hP n zF 0 M2 r e st tm (by omega) (by unfold zF; omega) a2 (by omega) (a3 e rfl) (by omega)
theorem c79 (hB : HB T n h M1) : ∀ y d : Nat, d ≤ 4 → d + y ≤ 8 → 4 < d + y → SimP T n h M1 (fun M => f_79 y M 93 (ii (d : Int))) (pF T n y d) := by
  have hh := hB.2.1.2
  have n100 := hB.2.1.1
  intro y
  induction y with
  | zero => intro d hd h8 h4; omega
  | succ y ih =>
    intro d hd h8 h4 M p st tm hC hp hS hl
    have b0 := sg_b hB p
    have C1 := hC.pl hh (p + 1)
    have S1 : St h (zpI M 93 2 (ii ((p + 1 : Nat) : Int))) st tm := hS.fr (fun a j ha => zI_ne ha)
    have e40 := c74 hB hC (by omega) (c := 40) (by omega)
    have e33 := c74 hB hC (by omega) (c := 33) (by omega)
    have ed : ii (d : Int) + 1 = ii ((d + 1 : Nat) : Int) := ii_s1 d
    show ∃ M', f_79 (y + 1) M 93 (ii (d : Int)) = _ ∧ _
    rw [f_79, if_pos (cD hC.1).1, c75 hB hC (by omega), zb_some, pF]
    by_cases c40 : sg T n p = 40
    · have pl := sg_e c40 (by omega)
      rw [if_pos (show ii (sg T n p) = 40 by rw [c40]; rfl), if_pos (show sg T n p = 40 ∨ sg T n p = 33 from .inl c40)]
      by_cases hd4 : d < 4
      · rw [if_pos (show ii (d : Int) < 4 by rw [show (4 : Int32) = ii 4 from rfl, ii_lt (by omega) (by omega)]; omega), if_pos hd4, if_pos c40, show (40 : Int32) = ii 40 from rfl, e40, zbd_some, if_pos c40]
        simp only
        rw [if_neg (show ¬ (1 : Int32) = 0 by decide), ed]
        have hE := c77 hB (F := f_79 y) (d := ii ((d + 1 : Nat) : Int)) (pLv_g (by omega) (pF_g (T := T) (n := n) y (d + 1))) (c78 hB (pF_g y (d + 1)) (ih (d + 1) (by omega) (by omega) (by omega)))
        obtain ⟨M2, a1, a2, a3⟩ := hE _ (p + 1) st tm C1 (by omega) S1 (by omega)
        obtain ⟨g1, g2⟩ := pE_g (T := T) (pF_g (T := T) (n := n) y (d + 1)) (p + 1) (by omega)
        rw [show f_77 (f_79 y) (zpI M 93 2 (ii ((p + 1 : Nat) : Int))) 93 (ii ((d + 1 : Nat) : Int)) = _ from a1, zbd_some]
        have eE : pLv T n (pLv T n (pF T n y (d + 1)) 38 (-38)) 124 (-124) (p + 1) = pE T n (pF T n y (d + 1)) (p + 1) := rfl
        rw [eE] at a2 a3 ⊢
        cases hq : pE T n (pF T n y (d + 1)) (p + 1) with
        | mk r o =>
          rw [hq] at a2 a3
          cases o with
          | none =>
            simp only [Option.isSome_none]
            rw [if_pos (show bz (false = true) = 0 by decide)]
            exact ⟨M2, rfl, a2, fun f hf => by cases hf⟩
          | some e =>
            have bb := g1 r e hq
            have a2' : CH n h M1 M2 r := a2
            have e41 := c74 hB a2' (by omega) (c := 41) (by omega)
            rw [if_neg (bzg (o := ((r, some e) : Nat × Option (List Int)).2) rfl), show (41 : Int32) = ii 41 from rfl, e41, zbd_some]
            simp only
            by_cases c41 : sg T n r = 41
            · simp only [if_pos c41]
              rw [if_neg (show ¬ (1 : Int32) = 0 by decide)]
              exact ⟨_, rfl, a2'.pl hh (r + 1), fun f hf => by cases hf; exact (a3 e rfl).fr (fun a j ha => zI_ne ha)⟩
            · simp only [if_neg c41]
              rw [if_pos trivial]
              exact ⟨M2, rfl, a2, fun f hf => by cases hf⟩
      · rw [if_neg (show ¬ ii (d : Int) < 4 by rw [show (4 : Int32) = ii 4 from rfl, ii_lt (by omega) (by omega)]; omega), if_neg hd4]
        exact ⟨M, rfl, hC, fun f hf => by cases hf⟩
    · rw [if_neg (show ¬ ii (sg T n p) = 40 by rw [show (40 : Int32) = ii 40 from rfl, ii_eq (by omega) (by omega)]; exact c40), zb_some]
      by_cases c33 : sg T n p = 33
      · have pl := sg_e c33 (by omega)
        rw [if_pos (show ii (sg T n p) = 33 by rw [c33]; rfl), if_pos (show sg T n p = 40 ∨ sg T n p = 33 from .inr c33)]
        by_cases hd4 : d < 4
        · rw [if_pos (show ii (d : Int) < 4 by rw [show (4 : Int32) = ii 4 from rfl, ii_lt (by omega) (by omega)]; omega), if_pos hd4, if_neg c40, show (40 : Int32) = ii 40 from rfl, e40, zbd_some, if_neg c40]
          simp only
          rw [if_pos trivial, show (33 : Int32) = ii 33 from rfl, e33, zbd_some, if_pos c33]
          simp only
          rw [if_neg (show ¬ (1 : Int32) = 0 by decide), ed]
          obtain ⟨M2, a1, a2, a3⟩ := ih (d + 1) (by omega) (by omega) (by omega) _ (p + 1) st tm C1 (by omega) S1 (by omega)
          obtain ⟨g1, g2⟩ := pF_g (T := T) (n := n) y (d + 1) (p + 1) (by omega)
          rw [show f_79 y (zpI M 93 2 (ii ((p + 1 : Nat) : Int))) 93 (ii ((d + 1 : Nat) : Int)) = _ from a1, zbd_some]
          cases hq : pF T n y (d + 1) (p + 1) with
          | mk r o =>
            rw [hq] at a2 a3
            cases o with
            | none =>
              simp only [Option.isSome_none]
              rw [if_neg (show ¬ ¬ bz (false = true) = 0 by decide)]
              exact ⟨M2, rfl, a2, fun f hf => by cases hf⟩
            | some e =>
              have bb := g1 r e hq
              obtain ⟨M3, w1, w2, w3⟩ := c87 hB a2 (a3 e rfl) (by simp; omega) st_o.1
              rw [if_pos (bzg (o := ((r, some e) : Nat × Option (List Int)).2) rfl), cDr a2.1 (.inr rfl) a2.2.1.2, zb_some, zb_some, w1, zb_some]
              refine ⟨M3, rfl, w2, fun f hf => ?_⟩
              cases hf
              simp only [List.map_append, List.map_cons, List.map_nil]
              rw [List.append_assoc] at w3
              exact w3
        · rw [if_neg (show ¬ ii (d : Int) < 4 by rw [show (4 : Int32) = ii 4 from rfl, ii_lt (by omega) (by omega)]; omega), if_neg hd4]
          exact ⟨M, rfl, hC, fun f hf => by cases hf⟩
      · rw [if_neg (show ¬ ii (sg T n p) = 33 by rw [show (33 : Int32) = ii 33 from rfl, ii_eq (by omega) (by omega)]; exact c33), if_neg (show ¬ (sg T n p = 40 ∨ sg T n p = 33) from fun q => q.elim c40 c33)]
        obtain ⟨M2, a1, a2, a3⟩ := c80 hB M p st tm hC hp hS hl
        rw [show f_80 M 93 = _ from a1, zbd_some, if_pos (of_eq_true (bzn _))]
        exact ⟨M2, rfl, a2, a3⟩
theorem c77e (hB : HB T n h M1) : SimP T n h M1 (fun M => f_77 (f_79 8) M 93 (ii ((0 : Nat) : Int))) (pE T n (pF T n 8 0)) := c77 hB (F := f_79 8) (pLv_g (by omega) (pF_g 8 0)) (c78 hB (pF_g 8 0) (c79 hB 8 0 (by omega) (by omega) (by omega)))
end ZCL
