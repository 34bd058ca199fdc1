/-! HILL, the class's reader: words, clauses, the whole -/
section ZHQ
variable {T : Nat → Int} {n : Nat}
theorem cpf_b : ∀ (l : List Int) (p : Nat), (∀ c ∈ l, 0 ≤ c) → p ≤ n → p + cpf T n l p ≤ n ∧ cpf T n l p ≤ l.length := by
  intro l
  induction l with
  | nil => intro p _ hp; exact ⟨hp, Nat.le_refl _⟩
  | cons c r ih =>
    intro p hc hp
    rw [cpf]
    by_cases g : sg T n p = c
    · have := sg_e g (hc c (List.mem_cons_self))
      have i := ih (p + 1) (fun x hx => hc x (List.mem_cons_of_mem _ hx)) (by omega)
      rw [if_pos g, List.length_cons]
      omega
    · rw [if_neg g]; omega
theorem wdl_c : ∀ w : Nat, w < 5 → (∀ c ∈ wdl w, 0 ≤ c) ∧ 4 ≤ (wdl w).length ∧ wby (2 + w) = wdl w := by decide
theorem pWd_g {p : Nat} (hp : p ≤ n) : ∀ (k w lo : Nat), w + k = 5 → p + lo ≤ n → (∀ q v, pWd T n p k w lo = (q, some v) → p + 4 ≤ q ∧ q ≤ n ∧ v < 5) ∧ ∀ q, pWd T n p k w lo = (q, none) → p ≤ q ∧ q ≤ n := by
  intro k
  induction k with
  | zero =>
    intro w lo e hl
    refine ⟨fun q v h => (by cases h), fun q h => by cases h; omega⟩
  | succ k ih =>
    intro w lo e hl
    obtain ⟨c1, c2, c3⟩ := wdl_c w (by omega)
    have b := cpf_b (T := T) (wdl w) p c1 hp
    rw [pWd]
    by_cases g : cpf T n (wdl w) p = (wdl w).length
    · rw [if_pos g]
      refine ⟨fun q v h => by cases h; omega, fun q h => by cases h⟩
    · rw [if_neg g]
      exact ih (w + 1) _ (by omega) (by omega)
theorem pCl_g {p : Nat} (hp : p ≤ n) : (∀ q c, pCl T n p = (q, some c) → p < q ∧ q ≤ n ∧ c.1 < 5 ∧ (0 ≤ c.2.1 ∧ c.2.1 ≤ 99) ∧ (c.2.2.length + 1 + p ≤ q) ∧ (1 < c.1 → c.2.2 = []) ∧ (c.1 ≤ 1 → ∃ r, r ≤ n ∧ p < r ∧ pE T n (pF T n 8 0) r = (q, some c.2.2))) ∧ ∀ q, pCl T n p = (q, none) → p ≤ q ∧ q ≤ n := by
  obtain ⟨w1, w2⟩ := pWd_g (T := T) hp 5 0 0 (by omega) (by omega)
  unfold pCl
  cases hw : pWd T n p 5 0 0 with
  | mk q o =>
    cases o with
    | none =>
      have := w2 q hw
      refine ⟨fun q v h => (by cases h), fun q h => by cases h; exact this⟩
    | some w =>
      have bw := w1 q w hw
      simp only
      by_cases c : sg T n q = 32
      · have ql := sg_e c (by omega)
        rw [if_pos c]
        obtain ⟨n1, n2⟩ := pNum_g (T := T) (n := n) (p := q + 1) (by omega)
        cases hn : pNum T n (q + 1) with
        | mk r o =>
          cases o with
          | none =>
            have := n2 r hn
            refine ⟨fun q v h => (by cases h), fun q h => by cases h; omega⟩
          | some v =>
            have bn := n1 r v hn
            simp only
            by_cases d : w ≤ 1
            · rw [if_pos d]
              by_cases c2 : sg T n r = 32
              · have rl := sg_e c2 (by omega)
                rw [if_pos c2]
                obtain ⟨g1, g2⟩ := pE_g (T := T) (pF_g (T := T) (n := n) 8 0) (r + 1) (by omega)
                cases he : pE T n (pF T n 8 0) (r + 1) with
                | mk t o =>
                  cases o with
                  | none =>
                    have := g2 t he
                    refine ⟨fun q v h => (by cases h), fun q h => by cases h; omega⟩
                  | some e =>
                    have be := g1 t e he
                    refine ⟨fun q c h => ?_, fun q h => by cases h⟩
                    cases h
                    exact ⟨by omega, by omega, bw.2.2, bn.2.2, by simp only; omega, fun q => absurd q (by simp only; omega), fun _ => ⟨r + 1, by omega, by omega, he⟩⟩
              · rw [if_neg c2]
                refine ⟨fun q v h => (by cases h), fun q h => by cases h; omega⟩
            · rw [if_neg d]
              refine ⟨fun q c h => ?_, fun q h => by cases h⟩
              cases h
              exact ⟨by omega, by omega, bw.2.2, bn.2.2, by simp only [List.length_nil]; omega, fun _ => rfl, fun q => absurd q d⟩
      · rw [if_neg c]
        refine ⟨fun q v h => (by cases h), fun q h => by cases h; omega⟩
end ZHQ
section ZCW
variable {T : Nat → Int} {n h : Nat} {M1 M : ZMem} {p : Nat}
theorem c66a (hB : HB T n h M1) (hC : CH n h M1 M p) (hp : p ≤ n) {o : Nat} (h2 : 2 ≤ o) (h9 : o < 9) : ∀ (m z i : Nat), i + m = min (wby o).length (n - p) → m < z → f_66_19 z M 93 (some o) (ii ((min (wby o).length (n - p) : Nat) : Int)) (ii (i : Int)) = some (ii ((i + cpf T n ((wby o).drop i) (p + i) : Nat) : Int)) := by
  have n100 := hB.2.1.1
  obtain ⟨b1, b2⟩ := wby_i o h9 h2
  have l6 := b1.2.2.2.2
  intro m
  induction m with
  | zero =>
    intro z i e hz
    obtain ⟨w, rfl⟩ : ∃ w, z = w + 1 := ⟨z - 1, by omega⟩
    have e0 : cpf T n ((wby o).drop i) (p + i) = 0 := by
      by_cases q : (wby o).length ≤ i
      · rw [List.drop_eq_nil_of_le q]; rfl
      · rw [List.drop_eq_getElem_cons (by omega), cpf, if_neg]
        intro t
        have r := (b2 i (by omega)).2
        have eg : (wby o).getD i 0 = (wby o)[i] := by simp [List.getD, show i < (wby o).length by omega]
        rw [← eg] at t
        have := sg_e t r.1
        omega
    rw [f_66_19, e0, if_pos (show ii ((min (wby o).length (n - p) : Nat) : Int) ≤ ii (i : Int) by rw [ii_le (by omega) (by omega)]; omega), Nat.add_zero, show min (wby o).length (n - p) = i by omega]
  | succ m ih =>
    intro z i e hz
    obtain ⟨w, rfl⟩ : ∃ w, z = w + 1 := ⟨z - 1, by omega⟩
    have hi : i < (wby o).length := by omega
    have r := (b2 i hi).2
    have eg : (wby o).getD i 0 = (wby o)[i] := by simp [List.getD, hi]
    have ep : (ii ((p + i : Nat) : Int)).toInt = ((p + i : Nat) : Int) := ii_toInt (by omega)
    have et : ii (p : Int) + ii (i : Int) = ii ((p + i : Nat) : Int) := by rw [ii_add]; rfl
    have ez : zab M 89 (ii ((p + i : Nat) : Int)) = some (ii (T (p + i))) := by
      rw [zab_ly hC.1 (p := 89) (n := 100) (t := 21) (by omega) (by decide +kernel) (.inl rfl) (by rw [ep]; omega), ep, Int.toNat_natCast, hC.2.2.2.1 89 _ (by omega) (by have := hB.2.1.2; omega) (by have := hB.2.1.2; omega), (hB.2.2 (p + i) (by omega)).1]
    have bT := (hB.2.2 (p + i) (by omega)).2
    have es : sg T n (p + i) = T (p + i) := if_pos (by omega)
    rw [f_66_19, if_neg (show ¬ ii ((min (wby o).length (n - p) : Nat) : Int) ≤ ii (i : Int) by rw [ii_le (by omega) (by omega)]; omega), cDr hC.1 (.inl rfl) hC.2.1.1, zb_some, (cD hC.1).2.2.1, zb_some, zb_some, hC.2.2.1.2, et, ez, zb_some, zb_some, c69s hC.1 (hC.cc hB) h2 h9 hi, zb_some, List.drop_eq_getElem_cons hi, cpf, es, ← eg, ii_s1]
    by_cases g : T (p + i) = (wby o).getD i 0
    · rw [if_pos (show ii (T (p + i)) = ii ((wby o).getD i 0) by rw [g]), if_pos g, ih w (i + 1) (by omega) (by omega), show p + i + 1 = p + (i + 1) by omega]
      congr 3
      omega
    · rw [if_neg (show ¬ ii (T (p + i)) = ii ((wby o).getD i 0) by rw [ii_eq (by omega) (by omega)]; exact g), if_neg g, Nat.add_zero]
theorem c66 (hB : HB T n h M1) (hC : CH n h M1 M p) (hp : p ≤ n) {o : Nat} (h2 : 2 ≤ o) (h9 : o < 9) : f_66 M 93 (some o) = some (ii ((cpf T n (wby o) p : Nat) : Int)) := by
  have n100 := hB.2.1.1
  have l6 := (wby_i o h9 h2).1.2.2.2.2
  have e37 := c37i (M := M) (a := ((wby o).length : Int)) (b := (n : Int) - (p : Int)) (by omega) (by omega)
  rw [show min ((wby o).length : Int) ((n : Int) - (p : Int)) = ((min (wby o).length (n - p) : Nat) : Int) by omega] at e37
  have e := c66a hB hC hp h2 h9 (min (wby o).length (n - p)) zF 0 (by omega) (by unfold zF; omega)
  rw [List.drop_zero, Nat.add_zero, Nat.zero_add] at e
  unfold f_66
  simp only [cD hC.1, if_true, zb_some, (c68s hC.1 (hC.cc hB) h2 h9).2.2, hC.2.2.1.1, hC.2.2.1.2]
  rw [ii_sub, e37, zb_some]
  exact e
theorem c65 (M : ZMem) : ∀ w : Nat, w < 5 → f_65 M (ii (w : Int)) = some (some (2 + w)) := by
  intro w hw
  have hz : w = 0 ∨ w = 1 ∨ w = 2 ∨ w = 3 ∨ w = 4 := by omega
  unfold f_65
  rcases hz with rfl | rfl | rfl | rfl | rfl <;> rfl
theorem c64a (hB : HB T n h M1) (hC : CH n h M1 M p) (hp : p ≤ n) : ∀ (k z w lo : Nat), w + k = 5 → k < z → p + lo ≤ n → ∃ M', f_64_4 z M 93 (ii (lo : Int)) (ii (w : Int)) = some (ii (match (pWd T n p k w lo).2 with
    | some v => (v : Int)
    | none => -1), M') ∧ CH n h M1 M' (pWd T n p k w lo).1 ∧ ∀ a j, a ≠ 93 → zI M' a j = zI M a j := by
  have hh := hB.2.1.2
  have n100 := hB.2.1.1
  intro k
  induction k with
  | zero =>
    intro z w lo e hz hl
    obtain ⟨y, rfl⟩ : ∃ y, z = y + 1 := ⟨z - 1, by omega⟩
    refine ⟨zpI M 93 2 (ii ((p + lo : Nat) : Int)), ?_, hC.pl hh (p + lo), fun a j ha => zI_ne ha⟩
    rw [f_64_4, if_pos (show (5 : Int32) ≤ ii (w : Int) by rw [show w = 5 by omega]; decide)]
    simp only [cD hC.1, zb_some, hC.2.2.1.2]
    rw [ii_add]
    rfl
  | succ k ih =>
    intro z w lo e hz hl
    obtain ⟨y, rfl⟩ : ∃ y, z = y + 1 := ⟨z - 1, by omega⟩
    obtain ⟨c1, c2, c3⟩ := wdl_c w (by omega)
    have b := cpf_b (T := T) (wdl w) p c1 hp
    have e66 := c66 hB hC hp (o := 2 + w) (by omega) (by omega)
    have e67 := (c68s hC.1 (hC.cc hB) (o := 2 + w) (by omega) (by omega)).2.2
    have l6 : (wdl w).length ≤ 6 := by
      have := (wby_i (2 + w) (by omega) (by omega)).1.2.2.2.2
      rw [c3] at this
      exact this
    rw [c3] at e66 e67
    rw [f_64_4, if_neg (show ¬ (5 : Int32) ≤ ii (w : Int) by rw [show (5 : Int32) = ii 5 from rfl, ii_le (by omega) (by omega)]; omega), c65 M w (by omega), zb_some, e66, zb_some, zb_some, zb_some, e67, zb_some, pWd]
    by_cases g : cpf T n (wdl w) p = (wdl w).length
    · rw [if_neg (show ¬ ¬ ii ((cpf T n (wdl w) p : Nat) : Int) = ii ((wdl w).length : Int) by rw [g]; exact fun q => q rfl), if_pos g]
      refine ⟨zpI M 93 2 (ii ((p + (wdl w).length : Nat) : Int)), ?_, hC.pl hh _, fun a j ha => zI_ne ha⟩
      simp only [cD hC.1, zb_some, hC.2.2.1.2]
      rw [ii_add, g]
      rfl
    · rw [if_pos (show ¬ ii ((cpf T n (wdl w) p : Nat) : Int) = ii ((wdl w).length : Int) by rw [ii_eq (by omega) (by omega)]; omega), if_neg g, c24i (by omega) (by omega), zb_some, ii_s1, show max (lo : Int) ((cpf T n (wdl w) p : Nat) : Int) = ((max lo (cpf T n (wdl w) p) : Nat) : Int) by omega]
      exact ih y (w + 1) _ (by omega) (by omega) (by omega)
/-- what a clause does to the steps and to what is told -/
def clS (c : Nat × Int × List Int) (a : List Int × Int × Int × Int) : List Int × Int × Int × Int := if c.1 ≤ 1 then (a.1 ++ (c.2.2.map zstep1 ++ [(if c.1 = 0 then 67108864 else 83886080) + c.2.1]), a.2) else if c.1 = 2 then (a.1, c.2.1, a.2.2) else if c.1 = 3 then (a.1, a.2.1, c.2.1, a.2.2.2) else (a.1, a.2.1, a.2.2.1, c.2.1)
theorem c63d (hB : HB T n h M1) {r : Nat} (hC : CH n h M1 M r) {w : Nat} {v : Nat} {st : List Int} {tm : Int × Int × Int} (hr : r ≤ n) (hw : w ≤ 1) (hv : v ≤ 99) (hS : St h M st tm) (hl : st.length + 1 ≤ r) : ∃ M', f_63_40 M 93 (ii (w : Int)) (ii (v : Int)) = some (bz ((if sg T n r = 32 then (pE T n (pF T n 8 0) (r + 1)).2.isSome else false) = true), M') ∧ CH n h M1 M' (if sg T n r = 32 then (pE T n (pF T n 8 0) (r + 1)).1 else r) ∧ ∀ e, sg T n r = 32 → (pE T n (pF T n 8 0) (r + 1)).2 = some e → St h M' (st ++ (e.map zstep1 ++ [(if w = 0 then 67108864 else 83886080) + (v : Int)])) tm := by
  have hh := hB.2.1.2
  have n100 := hB.2.1.1
  have e74 := c74 hB hC (by omega) (c := 32) (by omega)
  unfold f_63_40
  rw [show (32 : Int32) = ii 32 from rfl, e74, zbd_some]
  by_cases c : sg T n r = 32
  · have rl := sg_e c (by omega)
    have C1 := hC.pl hh (r + 1)
    have S1 : St h (zpI M 93 2 (ii ((r + 1 : Nat) : Int))) st tm := hS.fr (fun a j ha => zI_ne ha)
    obtain ⟨M2, a1, a2, a3⟩ := c77e hB _ (r + 1) st tm C1 (by omega) S1 (by omega)
    obtain ⟨g1, g2⟩ := pE_g (T := T) (pF_g (T := T) (n := n) 8 0) (r + 1) (by omega)
    simp only [if_pos c]
    rw [if_neg (show ¬ (1 : Int32) = 0 by decide), show f_77 (f_79 8) (zpI M 93 2 (ii ((r + 1 : Nat) : Int))) 93 0 = _ from a1, zbd_some]
    cases hq : pE T n (pF T n 8 0) (r + 1) with
    | mk t o =>
      rw [hq] at a2 a3
      cases o with
      | none =>
        simp only [Option.isSome_none]
        rw [if_neg (show ¬ ¬ bz (false = true) = 0 by decide)]
        exact ⟨M2, rfl, a2, fun e _ he => by cases he⟩
      | some e =>
        have bb := g1 t e hq
        rw [if_pos (bzg (o := ((t, some e) : Nat × Option (List Int)).2) rfl), cDr a2.1 (.inr rfl) a2.2.1.2, zb_some]
        have sd := st_d v (by omega)
        have fin : ∀ (k : Int32) (x : Int), ((((k <<< (24 &&& 31)) ||| ((0 : Int32) <<< (16 &&& 31))) ||| ((0 : Int32) <<< (8 &&& 31))) ||| ii (v : Int)) = ii x → x = (if w = 0 then 67108864 else 83886080) + (v : Int) → ∃ M', f_63_72 M2 (ii (v : Int)) k (some (109 + 2 * h)) = some (1, M') ∧ CH n h M1 M' t ∧ ∀ e', sg T n r = 32 → some e = some e' → St h M' (st ++ (e'.map zstep1 ++ [(if w = 0 then 67108864 else 83886080) + (v : Int)])) tm := by
          intro k x hk hx
          obtain ⟨M3, w1, w2, w3⟩ := c87 hB a2 (a3 e rfl) (by simp; omega) hk
          refine ⟨M3, ?_, w2, fun e' _ he => ?_⟩
          · unfold f_63_72
            rw [zb_some, w1, zb_some]
          · cases he
            rw [← List.append_assoc, ← hx]
            exact w3
        by_cases w0 : w = 0
        · rw [if_neg (show ¬ ¬ ii (w : Int) = (0 : Int32) by rw [w0]; exact fun q => q rfl)]
          exact fin 4 _ sd.1 (by rw [if_pos w0])
        · rw [if_pos (show ¬ ii (w : Int) = (0 : Int32) by rw [show (0 : Int32) = ii 0 from rfl, ii_eq (by omega) (by omega)]; omega)]
          exact fin 5 _ sd.2 (by rw [if_neg w0])
  · simp only [if_neg c]
    rw [if_pos trivial]
    exact ⟨M, rfl, hC, fun e q => absurd q c⟩
theorem c63 (hB : HB T n h M1) (hC : CH n h M1 M p) (hp : p ≤ n) {a : List Int × Int × Int × Int} (hS : St h M a.1 a.2) (hl : a.1.length ≤ p) : ∃ M', f_63 M 93 = some (bz ((pCl T n p).2.isSome = true), M') ∧ CH n h M1 M' (pCl T n p).1 ∧ ∀ c, (pCl T n p).2 = some c → St h M' (clS c a).1 (clS c a).2 := by
  have hh := hB.2.1.2
  have n100 := hB.2.1.1
  obtain ⟨w1, w2⟩ := pWd_g (T := T) hp 5 0 0 (by omega) (by omega)
  obtain ⟨M2, a1, a2, a3⟩ := c64a hB hC hp 5 zF 0 0 (by omega) (by unfold zF; omega) (by omega)
  have e64 : f_64 M 93 = f_64_4 zF M 93 (ii ((0 : Nat) : Int)) (ii ((0 : Nat) : Int)) := by
    unfold f_64
    rw [if_pos (cD hC.1).1]
    rfl
  have S2 : St h M2 a.1 a.2 := hS.fr a3
  unfold f_63 pCl
  rw [if_pos (cD hC.1).1, e64, a1, zbd_some]
  cases hw : pWd T n p 5 0 0 with
  | mk q o =>
    rw [hw] at a2
    cases o with
    | none =>
      simp only
      rw [if_pos (show ii (-1) < 0 by decide)]
      exact ⟨M2, rfl, a2, fun c hc => by cases hc⟩
    | some w =>
      have bw := w1 q w hw
      have e74 := c74 hB a2 (by simp only; omega) (c := 32) (by omega)
      simp only at e74 a2 ⊢
      rw [if_neg (show ¬ ii (w : Int) < 0 by rw [show (0 : Int32) = ii 0 from rfl, ii_lt (by omega) (by omega)]; omega), show (32 : Int32) = ii 32 from rfl, e74, zbd_some]
      by_cases c : sg T n q = 32
      · have ql := sg_e c (by omega)
        have C3 := a2.pl hh (q + 1)
        have S3 : St h (zpI M2 93 2 (ii ((q + 1 : Nat) : Int))) a.1 a.2 := S2.fr (fun x j hx => zI_ne hx)
        obtain ⟨M4, b1, b2, b3⟩ := c76 hB C3 (by omega)
        have S4 : St h M4 a.1 a.2 := S3.fr b3
        obtain ⟨n1, n2⟩ := pNum_g (T := T) (n := n) (p := q + 1) (by omega)
        simp only [if_pos c]
        rw [if_pos (show ¬ (1 : Int32) = 0 by decide), b1, zbd_some]
        cases hn : pNum T n (q + 1) with
        | mk r o =>
          rw [hn] at b2
          cases o with
          | none =>
            simp only [Option.getD_none]
            rw [if_neg (show ¬ (0 : Int32) ≤ ii (-1) by decide)]
            exact ⟨M4, rfl, b2, fun c hc => by cases hc⟩
          | some v =>
            have bn := n1 r v hn
            obtain ⟨v', rfl⟩ := Int.eq_ofNat_of_zero_le bn.2.2.1
            simp only [Option.getD_some] at b2 ⊢
            rw [if_pos (show (0 : Int32) ≤ ii (v' : Int) by rw [show (0 : Int32) = ii 0 from rfl, ii_le (by omega) (by omega)]; omega)]
            have hk : zokT 3 (109 + 2 * h) = true := by
              have hz : h = 0 ∨ h = 1 ∨ h = 2 ∨ h = 3 ∨ h = 4 ∨ h = 5 := by omega
              rcases hz with rfl | rfl | rfl | rfl | rfl | rfl <;> decide +kernel
            have wr : ∀ j, j = 2 ∨ j = 3 ∨ j = 4 → zpf M4 3 j (109 + 2 * h) (.int (ii (v' : Int))) false = some (zpI M4 (109 + 2 * h) j (ii (v' : Int))) := by
              intro j hj
              rcases hj with rfl | rfl | rfl <;> exact pI b2.1 hk (by decide) (by decide) (by decide)
            have C5 : ∀ j, CH n h M1 (zpI M4 (109 + 2 * h) j (ii (v' : Int))) r := by
              intro j
              obtain ⟨x1, x2, x3, x4, x5⟩ := b2
              exact ⟨x1.p, x2, ⟨(zI_ne (by omega)).trans x3.1, (zI_ne (by omega)).trans x3.2⟩, fun y i y1 y2 y3 => (zI_ne y2).trans (x4 y i y1 y2 y3), x5⟩
            obtain ⟨s1, s2, s3, s4, s5⟩ := S4
            have hw5 : w = 0 ∨ w = 1 ∨ w = 2 ∨ w = 3 ∨ w = 4 := by omega
            have dear : w ≤ 1 → ∃ M', f_63_40 M4 93 (ii (w : Int)) (ii (v' : Int)) = some (bz ((if w ≤ 1 then (if sg T n r = 32 then (match pE T n (pF T n 8 0) (r + 1) with
                | (t, some e) => (t, some (w, (v' : Int), e))
                | (t, none) => (t, none)) else (r, none)) else (r, some (w, (v' : Int), [])) : Nat × Option (Nat × Int × List Int)).2.isSome = true), M') ∧ CH n h M1 M' (if w ≤ 1 then (if sg T n r = 32 then (match pE T n (pF T n 8 0) (r + 1) with
                | (t, some e) => (t, some (w, (v' : Int), e))
                | (t, none) => (t, none)) else (r, none)) else (r, some (w, (v' : Int), [])) : Nat × Option (Nat × Int × List Int)).1 ∧ ∀ c, (if w ≤ 1 then (if sg T n r = 32 then (match pE T n (pF T n 8 0) (r + 1) with
                | (t, some e) => (t, some (w, (v' : Int), e))
                | (t, none) => (t, none)) else (r, none)) else (r, some (w, (v' : Int), [])) : Nat × Option (Nat × Int × List Int)).2 = some c → St h M' (clS c a).1 (clS c a).2 := by
              intro hw1
              obtain ⟨M', d1, d2, d3⟩ := c63d hB b2 (w := w) (v := v') (by omega) hw1 (by omega) ⟨s1, s2, s3, s4, s5⟩ (by omega)
              refine ⟨M', ?_, ?_, ?_⟩
              · rw [d1, if_pos hw1]
                by_cases c2 : sg T n r = 32
                · rw [if_pos c2, if_pos c2]
                  cases pE T n (pF T n 8 0) (r + 1) with
                  | mk t o => cases o <;> rfl
                · rw [if_neg c2, if_neg c2]; rfl
              · rw [if_pos hw1]
                by_cases c2 : sg T n r = 32
                · rw [if_pos c2] at d2 ⊢
                  revert d2
                  cases pE T n (pF T n 8 0) (r + 1) with
                  | mk t o => cases o <;> exact fun d2 => d2
                · rw [if_neg c2] at d2 ⊢; exact d2
              · intro c hc
                rw [if_pos hw1] at hc
                by_cases c2 : sg T n r = 32
                · rw [if_pos c2] at hc
                  cases hE : pE T n (pF T n 8 0) (r + 1) with
                  | mk t o =>
                    rw [hE] at hc
                    cases o with
                    | none => cases hc
                    | some e =>
                      cases hc
                      have := d3 e c2 (by rw [hE])
                      unfold clS
                      simp only
                      rw [if_pos hw1]
                      exact this
                · rw [if_neg c2] at hc; cases hc
            rcases hw5 with rfl | rfl | rfl | rfl | rfl
            · rw [if_pos (show ii ((0 : Nat) : Int) = 0 from rfl)]
              exact dear (by omega)
            · rw [if_neg (show ¬ ii ((1 : Nat) : Int) = 0 by decide), if_neg (show ¬ ¬ ii ((1 : Nat) : Int) = 1 by decide)]
              exact dear (by omega)
            · rw [if_neg (show ¬ ii ((2 : Nat) : Int) = 0 by decide), if_pos (show ¬ ii ((2 : Nat) : Int) = 1 by decide), if_neg (show ¬ ¬ ii ((2 : Nat) : Int) = 2 by decide), cDr b2.1 (.inr rfl) b2.2.1.2, zb_some, zb_some, wr 2 (.inl rfl), zb_some]
              refine ⟨_, rfl, C5 2, fun c hc => ?_⟩
              cases hc
              exact ⟨(zI_nk (by omega)).trans s1, fun i hi => (zI_ne (by omega)).trans (s2 i hi), zI_at, (zI_nk (by omega)).trans s4, (zI_nk (by omega)).trans s5⟩
            · rw [if_neg (show ¬ ii ((3 : Nat) : Int) = 0 by decide), if_pos (show ¬ ii ((3 : Nat) : Int) = 1 by decide), if_pos (show ¬ ii ((3 : Nat) : Int) = 2 by decide), if_neg (show ¬ ¬ ii ((3 : Nat) : Int) = 3 by decide), cDr b2.1 (.inr rfl) b2.2.1.2, zb_some, zb_some, wr 3 (.inr (.inl rfl)), zb_some]
              refine ⟨_, rfl, C5 3, fun c hc => ?_⟩
              cases hc
              exact ⟨(zI_nk (by omega)).trans s1, fun i hi => (zI_ne (by omega)).trans (s2 i hi), (zI_nk (by omega)).trans s3, zI_at, (zI_nk (by omega)).trans s5⟩
            · rw [if_neg (show ¬ ii ((4 : Nat) : Int) = 0 by decide), if_pos (show ¬ ii ((4 : Nat) : Int) = 1 by decide), if_pos (show ¬ ii ((4 : Nat) : Int) = 2 by decide), if_pos (show ¬ ii ((4 : Nat) : Int) = 3 by decide), cDr b2.1 (.inr rfl) b2.2.1.2, zb_some, zb_some, wr 4 (.inr (.inr rfl)), zb_some]
              refine ⟨_, rfl, C5 4, fun c hc => ?_⟩
              cases hc
              exact ⟨(zI_nk (by omega)).trans s1, fun i hi => (zI_ne (by omega)).trans (s2 i hi), (zI_nk (by omega)).trans s3, (zI_nk (by omega)).trans s4, zI_at⟩
      · simp only [if_neg c]
        rw [if_neg (fun q => q trivial)]
        exact ⟨M2, rfl, a2, fun c hc => by cases hc⟩
end ZCW
