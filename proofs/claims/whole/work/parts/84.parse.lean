/-! HILL, the reference's reader: tests, openings, signs between -/
section ZDT
variable {M0 M : ZMem} {s0 s1 s : ZSt} {n f c p : Nat} {K out : List Int}
theorem PS.f1 {M' : ZMem} {q : Nat} (h : PS M0 s0 s1 f c M s p K out) (h' : PM M0 s0 f M' s q) (e : F1 M M') : PS M0 s0 s1 f c M' s q K out := ⟨⟨h', h.1.2⟩, ⟨(e.1 22 (by omega) (by omega)).trans h.2.1.1, (e.1 23 (by omega) (by omega)).trans h.2.1.2.1, (e.1 24 (by omega) (by omega)).trans h.2.1.2.2⟩, Ks_fr h.2.2.1 (fun j _ => e.2 j), h.2.2.2⟩
theorem e162 (hH : HM s0 n f) (h : PS M0 s0 s1 f c M s p K out) (hp : p ≤ n) (hl : out.length + K.length ≤ p) : (∀ q e, pTest (s0 140) n p = (q, some e) → ∃ M' s', f_162 M 133 = some (1, M') ∧ PS M0 s0 s1 f c M' s' q (nt K).1 (out ++ (e ++ (nt K).2))) ∧ ∀ q, pTest (s0 140) n p = (q, none) → ∃ M' s', f_162 M 133 = some (0, M') ∧ PM M0 s0 f M' s' q := by
  have hL := h.1.1.1.1.1
  have n100 := hH.1.2.1
  have b := sgb hH p
  have b1 := sgb hH (p + 1)
  have hpl : ∀ x : Int, -1 ≤ plc x ∧ plc x ≤ 5 := by
    intro x
    unfold plc
    (repeat' split)
    all_goals omega
  have bp := hpl (sg (s0 140) n p)
  unfold f_162 pTest
  rw [if_pos (dM hL).1, d156 hH h.1.1 (by omega), zb_some, d163 hL b, zb_some]
  by_cases c1 : plc (sg (s0 140) n p) < 0
  · rw [if_neg (show ¬ 0 ≤ ii (plc (sg (s0 140) n p)) by rw [show (0 : Int32) = ii 0 from rfl, ii_le (by omega) (by omega)]; omega), if_pos c1]
    refine ⟨fun q e h => (by cases h), fun q e => ?_⟩
    cases e
    exact ⟨M, s, rfl, h.1.1⟩
  · have pb := plc_b c1
    have l1' := sg_n pb.2.2.1
    have P1 := h.pl (p + 1)
    have L1 := P1.1.1.1.1.1
    rw [if_pos (show 0 ≤ ii (plc (sg (s0 140) n p)) by rw [show (0 : Int32) = ii 0 from rfl, ii_le (by omega) (by omega)]; omega), if_neg c1]
    simp only [dM hL, zb_some, h.1.1.2, ii_s1]
    rw [d156 hH P1.1.1 (by omega), zb_some, show (60 : Int32) = ii 60 from rfl, show (62 : Int32) = ii 62 from rfl, c147i L1 (by omega) (by omega) (by omega), zb_some]
    by_cases c2 : 60 ≤ sg (s0 140) n (p + 1) ∧ sg (s0 140) n (p + 1) ≤ 62
    · have l2' := sg_n (T := s0 140) (n := n) (p := p + 1) (by omega)
      have P2 := P1.pl (p + 1 + 1)
      have L2 := P2.1.1.1.1.1
      simp only [if_pos c2]
      rw [if_pos (show ¬ (1 : Int32) = 0 by decide)]
      simp only [dM L1, zb_some, P1.1.1.2, ii_s1]
      obtain ⟨M3, m1, m2, m3, m4⟩ := d159 hH P2.1.1 (by omega)
      have P3 := P2.f1 m2 m3
      have L3 := P3.1.1.1.1.1
      obtain ⟨g1, g2⟩ := pNum_g (T := s0 140) (n := n) (p := p + 2) (by omega)
      rw [m1, zbd_some]
      rw [show p + 1 + 1 = p + 2 by omega] at m4 P3 ⊢
      cases hq : pNum (s0 140) n (p + 2) with
      | mk q o =>
        rw [hq] at P3 m4
        cases o with
        | none =>
          simp only [Option.isSome_none]
          simp only [Bool.false_eq_true, if_false]
          rw [if_neg (fun t => t trivial)]
          refine ⟨fun q e h => (by cases h), fun q e => ?_⟩
          cases e
          exact ⟨M3, s, rfl, P3.1.1⟩
        | some v =>
          have bb := g1 q v hq
          simp only [Option.isSome_some, if_true]
          rw [if_pos (show ¬ (1 : Int32) = 0 by decide)]
          simp only [dM L3, zb_some, m4 v rfl]
          rw [show (1000 : Int32) = ii 1000 from rfl, show (100 : Int32) = ii 100 from rfl, ii_mul, ii_sub, ii_mul, ii_add, ii_add]
          obtain ⟨M4, s4, r1, r2⟩ := d164 P3 hH.1.2.2 (by omega) (1000 * plc (sg (s0 140) n p) + 100 * (sg (s0 140) n (p + 1) - 60) + v)
          obtain ⟨M5, s5, r3, r4⟩ := d165 hH.1.2.2 K zF M4 s4 _ r2 (by simp only [List.length_append, List.length_singleton]; omega) (by unfold zF; omega)
          rw [r1, zb_some]
          have e165 : f_165 M4 133 = some M5 := by
            unfold f_165
            rw [if_pos (dM r2.1.1.1.1.1).1]
            exact r3
          rw [e165, zb_some]
          refine ⟨fun q e he => ?_, fun q h => by cases h⟩
          cases he
          rw [List.append_assoc] at r4
          exact ⟨M5, s5, rfl, r4⟩
    · simp only [if_neg c2]
      rw [if_neg (fun t => t trivial)]
      refine ⟨fun q e h => (by cases h), fun q e => ?_⟩
      cases e
      exact ⟨_, s, rfl, P1.1.1⟩
/-- a sign waits -/
theorem e43 (h : PS M0 s0 s1 f c M s p K out) {x : Int} (hx : x = 33 ∨ x = 40) (hl : K.length ≤ 100) (h4 : Kn K < 4) {b2 : Int32} : ∃ M', (∀ r, f_161_43 r M 133 (ii (c : Int)) b2 (ii x) = r M' 133 (ii (c : Int)) b2) ∧ PS M0 s0 s1 f c M' s (p + 1) (x :: K) out := by
  have hL := h.1.1.1.1.1
  obtain ⟨⟨⟨⟨h1, h2⟩, h3⟩, h4'⟩, ⟨e22, e23, e24⟩, hK, hO⟩ := h
  have L1 : Ly (zpI M 133 24 (ii ((Kn K + 1 : Nat) : Int))) := hL.p
  have L2 : Ly (zpI (zpI M 133 24 (ii ((Kn K + 1 : Nat) : Int))) 147 K.length (ii x)) := hL.p.p
  have L3 : Ly (zpI (zpI (zpI M 133 24 (ii ((Kn K + 1 : Nat) : Int))) 147 K.length (ii x)) 133 23 (ii ((K.length + 1 : Nat) : Int))) := hL.p.p.p
  refine ⟨zpI (zpI (zpI (zpI M 133 24 (ii ((Kn K + 1 : Nat) : Int))) 147 K.length (ii x)) 133 23 (ii ((K.length + 1 : Nat) : Int))) 133 12 (ii ((p + 1 : Nat) : Int)), fun r => ?_, ⟨⟨⟨⟨MS_scr (MS_scr (MS_scr (MS_scr h1 (by omega) rfl) (by omega) rfl) (by omega) rfl) (by omega) rfl, h2⟩, zI_at⟩, h4'⟩, ⟨?_, ?_, ?_⟩, ⟨⟨?_, by omega⟩, Ks_fr hK (fun j hj => ?_)⟩, hO⟩⟩
  · unfold f_161_43
    simp only [dM hL, zb_some, e24]
    rw [if_pos (show ¬ ii (Kn K : Int) = 4 by rw [show (4 : Int32) = ii 4 from rfl, ii_eq (by omega) (by omega)]; omega), ii_s1]
    simp only [dM L1, zb_some]
    rw [zI_nk (by omega), e23, zsa_ii L1 (p := 147) (n := 101) (by omega) (by decide +kernel) (by omega) (by omega) (by omega), zb_some, Int.toNat_natCast]
    simp only [dM L2, zb_some]
    rw [zI_ne (by omega), zI_nk (by omega), e23, ii_s1]
    simp only [dM L3, zb_some]
    rw [zI_nk (by omega), zI_ne (by omega), zI_nk (by omega), h3, ii_s1]
  · rw [zI_nk (by omega), zI_nk (by omega), zI_ne (by omega), zI_nk (by omega)]; exact e22
  · rw [zI_nk (by omega), zI_at]; rfl
  · rw [zI_nk (by omega), zI_nk (by omega), zI_ne (by omega), zI_at, Kn, if_pos hx]
  · rw [zI_ne (by omega), zI_ne (by omega), zI_at]
  · rw [zI_ne (by omega), zI_ne (by omega), zI_nk (by omega), zI_ne (by omega)]
theorem e43f (h : PS M0 s0 s1 f c M s p K out) (h4 : Kn K = 4) {b1 b2 b3 : Int32} : ∀ r, f_161_43 r M 133 b1 b2 b3 = some (0, M) := by
  have hL := h.1.1.1.1.1
  intro r
  unfold f_161_43
  simp only [dM hL, zb_some, h.2.1.2.2]
  rw [if_neg (show ¬ ¬ ii (Kn K : Int) = 4 by rw [h4]; exact fun t => t rfl)]
/-- a sign between parts -/
theorem e122 (hf : f < 6) (h : PS M0 s0 s1 f c M s p K out) {b : Int} (hb : b = 38 ∨ b = 124) (hl : out.length + K.length ≤ 100) : ∃ M' s', (∀ r, f_161_122 r M 133 (ii (c : Int)) (ii b) = r M' 133 (ii (c : Int)) 1) ∧ PS M0 s0 s1 f c M' s' (p + 1) (b :: (setl b K).1) (out ++ (setl b K).2) := by
  obtain ⟨M1, t1, m1, m2⟩ := d166 hf hb K zF M s out h hl (by unfold zF; omega)
  have kl := setl_l b K
  have e166 : f_166 M 133 (ii b) = some M1 := by
    unfold f_166
    rw [if_pos (dM h.1.1.1.1.1).1]
    exact m1
  have hL := m2.1.1.1.1.1
  obtain ⟨⟨⟨⟨h1, h2⟩, h3⟩, h4'⟩, ⟨e22, e23, e24⟩, hK, hO⟩ := m2
  have L2 : Ly (zpI M1 147 (setl b K).1.length (ii b)) := hL.p
  have L3 : Ly (zpI (zpI M1 147 (setl b K).1.length (ii b)) 133 23 (ii (((setl b K).1.length + 1 : Nat) : Int))) := hL.p.p
  refine ⟨zpI (zpI (zpI M1 147 (setl b K).1.length (ii b)) 133 23 (ii (((setl b K).1.length + 1 : Nat) : Int))) 133 12 (ii ((p + 1 : Nat) : Int)), t1, fun r => ?_, ⟨⟨⟨⟨MS_scr (MS_scr (MS_scr h1 (by omega) rfl) (by omega) rfl) (by omega) rfl, h2⟩, zI_at⟩, h4'⟩, ⟨?_, ?_, ?_⟩, ⟨⟨?_, by omega⟩, Ks_fr hK (fun j hj => ?_)⟩, hO⟩⟩
  · unfold f_161_122
    rw [e166, zb_some]
    simp only [dM hL, zb_some, e23]
    rw [zsa_ii hL (p := 147) (n := 101) (by omega) (by decide +kernel) (by omega) (by omega) (by omega), zb_some, Int.toNat_natCast]
    simp only [dM L2, zb_some]
    rw [zI_ne (by omega), e23, ii_s1]
    simp only [dM L3, zb_some]
    rw [zI_nk (by omega), zI_ne (by omega), h3, ii_s1]
  · rw [zI_nk (by omega), zI_nk (by omega), zI_ne (by omega)]; exact e22
  · rw [zI_nk (by omega), zI_at]; rfl
  · rw [zI_nk (by omega), zI_nk (by omega), zI_ne (by omega), e24, Kn, if_neg (by omega)]
  · rw [zI_ne (by omega), zI_ne (by omega), zI_at]
  · rw [zI_ne (by omega), zI_ne (by omega), zI_nk (by omega)]
end ZDT
/-- how a run goes on, or ends -/
def OKR (M0 : ZMem) (s0 s1 : ZSt) (f c : Nat) (R : Option (Int32 × ZMem)) (B q : Nat) (K out : List Int) : Prop := ∃ z M s, R = f_161_22 z M 133 (ii (c : Int)) 0 ∧ B ≤ z + q ∧ PS M0 s0 s1 f c M s q K out
def FLR (M0 : ZMem) (s0 : ZSt) (f : Nat) (R : Option (Int32 × ZMem)) (q : Nat) : Prop := ∃ M s, R = some (0, M) ∧ PM M0 s0 f M s q
def FPp (M0 : ZMem) (s0 s1 : ZSt) (n f c : Nat) (P : Nat → Nat × Option (List Int)) (d : Nat) : Prop := ∀ (p : Nat) (K out : List Int) (z : Nat) (M : ZMem) (s : ZSt), PS M0 s0 s1 f c M s p K out → Kn K = d → out.length + K.length ≤ p → p ≤ n → 300 ≤ z + p → (∀ q e, P p = (q, some e) → OKR M0 s0 s1 f c (f_161_22 z M 133 (ii (c : Int)) 1) (z + p) q (nt K).1 (out ++ (e ++ (nt K).2))) ∧ ∀ q, P p = (q, none) → FLR M0 s0 f (f_161_22 z M 133 (ii (c : Int)) 1) q
def DE (D : List Int) : Prop := D = [] ∨ D = [38] ∨ D = [124] ∨ D = [38, 124]
def ngl (D : List Int) : List Int := D.map fun x => -x
def TPp (M0 : ZMem) (s0 s1 : ZSt) (n f c : Nat) (P : Nat → Nat × Option (List Int)) (d : Nat) : Prop := ∀ (p : Nat) (K out : List Int) (z : Nat) (M : ZMem) (s : ZSt), PS M0 s0 s1 f c M s p K out → Kn K = d → out.length + K.length ≤ p → p ≤ n → 300 ≤ z + p → nt K = (K, []) → setl 38 K = (K, []) → (∀ q e, P p = (q, some e) → ∃ D o', (D = [] ∨ D = [38]) ∧ OKR M0 s0 s1 f c (f_161_22 z M 133 (ii (c : Int)) 1) (z + p) q (D ++ K) o' ∧ o' ++ ngl D = out ++ e ∧ sg (s0 140) n q ≠ 38) ∧ ∀ q, P p = (q, none) → FLR M0 s0 f (f_161_22 z M 133 (ii (c : Int)) 1) q
def EPp (M0 : ZMem) (s0 s1 : ZSt) (n f c : Nat) (P : Nat → Nat × Option (List Int)) (d : Nat) : Prop := ∀ (p : Nat) (K out : List Int) (z : Nat) (M : ZMem) (s : ZSt), PS M0 s0 s1 f c M s p K out → Kn K = d → out.length + K.length ≤ p → p ≤ n → 300 ≤ z + p → nt K = (K, []) → setl 124 K = (K, []) → (∀ q e, P p = (q, some e) → ∃ D o', DE D ∧ OKR M0 s0 s1 f c (f_161_22 z M 133 (ii (c : Int)) 1) (z + p) q (D ++ K) o' ∧ o' ++ ngl D = out ++ e ∧ sg (s0 140) n q ≠ 38 ∧ sg (s0 140) n q ≠ 124) ∧ ∀ q, P p = (q, none) → FLR M0 s0 f (f_161_22 z M 133 (ii (c : Int)) 1) q
section ZDU
variable {M0 : ZMem} {s0 s1 : ZSt} {n f c d : Nat} {P : Nat → Nat × Option (List Int)}
theorem setl_D {D K : List Int} (hD : D = [] ∨ D = [38]) (hK : setl 38 K = (K, [])) : setl 38 (D ++ K) = (K, ngl D) := by
  rcases hD with rfl | rfl
  · exact hK
  · simp [setl, hK, ngl]
theorem setl_E {D K : List Int} (hD : DE D) (hK : setl 124 K = (K, [])) : setl 124 (D ++ K) = (K, ngl D) := by
  rcases hD with rfl | rfl | rfl | rfl
  · exact hK
  · simp [setl, hK, ngl]
  · simp [setl, hK, ngl]
  · simp [setl, hK, ngl]
theorem Kn_D {D K : List Int} (hD : DE D) : Kn (D ++ K) = Kn K := by rcases hD with rfl | rfl | rfl | rfl <;> simp [Kn]
theorem eTl (hH : HM s0 n f) (hG : GP n P) (hP : FPp M0 s0 s1 n f c P d) {K out : List Int} (hK : Kn K = d) (h38 : setl 38 K = (K, [])) : ∀ (zz q : Nat) (e D o' : List Int) (z : Nat) (M : ZMem) (s : ZSt), PS M0 s0 s1 f c M s q (D ++ K) o' → (D = [] ∨ D = [38]) → o' ++ ngl D = out ++ e → o'.length + (D ++ K).length ≤ q → q ≤ n → n ≤ zz + q → 300 ≤ z + q → (∀ r e', pAs (s0 140) n P 38 (-38) zz q e = (r, some e') → ∃ D' o'', (D' = [] ∨ D' = [38]) ∧ OKR M0 s0 s1 f c (f_161_22 z M 133 (ii (c : Int)) 0) (z + q) r (D' ++ K) o'' ∧ o'' ++ ngl D' = out ++ e' ∧ sg (s0 140) n r ≠ 38) ∧ ∀ r, pAs (s0 140) n P 38 (-38) zz q e = (r, none) → FLR M0 s0 f (f_161_22 z M 133 (ii (c : Int)) 0) r := by
  have n100 := hH.1.2.1
  intro zz
  induction zz with
  | zero =>
    intro q e D o' z M s h hD he hl hq hn hz
    refine ⟨fun r e' hr => ?_, fun r hr => by cases hr⟩
    cases hr
    exact ⟨D, o', hD, ⟨z, M, s, rfl, Nat.le_refl _, h⟩, he, by rw [show sg (s0 140) n q = -1 from if_neg (by omega)]; omega⟩
  | succ zz ih =>
    intro q e D o' z M s h hD he hl hq hn hz
    have hle := congrArg List.length he
    simp only [List.length_append] at hle hl
    rw [pAs]
    by_cases g : sg (s0 140) n q = 38
    · have ql := sg_e g (by omega)
      obtain ⟨w, rfl⟩ : ∃ w, z = w + 1 := ⟨z - 1, by omega⟩
      obtain ⟨M1, t1, m1, m2⟩ := e122 hH.1.2.2 h (b := 38) (.inl rfl) (by simp only [List.length_append]; omega)
      rw [setl_D hD h38] at m2
      have e0 : f_161_22 (w + 1) M 133 (ii (c : Int)) 0 = f_161_22 w M1 133 (ii (c : Int)) 1 := by
        rw [f_161_22, d156 hH h.1.1 (by omega), zb_some, if_pos rfl, g, if_pos (show ii 38 = 38 from rfl)]
        exact m1 _
      have ln : (ngl D).length = D.length := by unfold ngl; simp
      obtain ⟨p1, p2⟩ := hP (q + 1) (38 :: K) (o' ++ ngl D) w M1 t1 m2 (by rw [Kn, if_neg (by omega)]; exact hK) (by simp only [List.length_append, List.length_cons]; omega) (by omega) (by omega)
      obtain ⟨g1, g2⟩ := hG (q + 1) (by omega)
      rw [if_pos g, e0]
      cases hq1 : P (q + 1) with
      | mk r o =>
        cases o with
        | none => exact ⟨fun r e' hr => (by cases hr), fun r hr => by cases hr; exact p2 _ hq1⟩
        | some e2 =>
          have bb := g1 r e2 hq1
          obtain ⟨z2, M2, s2, a1, a2, a3⟩ := p1 r e2 hq1
          have n38 : nt (38 :: K) = (38 :: K, []) := by simp [nt]
          rw [n38] at a3
          simp only [List.append_nil] at a3
          rw [a1]
          obtain ⟨i1, i2⟩ := ih r (e ++ (e2 ++ [-38])) [38] (o' ++ ngl D ++ e2) z2 M2 s2 a3 (.inr rfl) (by rw [he]; simp [ngl]) (by simp only [List.length_append, List.length_singleton]; omega) (by omega) (by omega) (by omega)
          refine ⟨fun t e' ht => ?_, i2⟩
          obtain ⟨D', o'', j1, ⟨z3, M3, s3, j2, j3, j4⟩, j5, j6⟩ := i1 t e' ht
          exact ⟨D', o'', j1, ⟨z3, M3, s3, j2, by omega, j4⟩, j5, j6⟩
    · rw [if_neg g]
      refine ⟨fun r e' hr => ?_, fun r hr => by cases hr⟩
      cases hr
      exact ⟨D, o', hD, ⟨z, M, s, rfl, Nat.le_refl _, h⟩, he, g⟩
theorem eT (hH : HM s0 n f) (hG : GP n P) (hP : FPp M0 s0 s1 n f c P d) : TPp M0 s0 s1 n f c (pLv (s0 140) n P 38 (-38)) d := by
  intro p K out z M s h hK hl hp hz hnt h38
  obtain ⟨p1, p2⟩ := hP p K out z M s h hK hl hp hz
  obtain ⟨g1, g2⟩ := hG p hp
  unfold pLv
  cases hq : P p with
  | mk q o =>
    cases o with
    | none => exact ⟨fun r e' hr => (by cases hr), fun r hr => by cases hr; exact p2 _ hq⟩
    | some e =>
      have bb := g1 q e hq
      obtain ⟨z2, M2, s2, a1, a2, a3⟩ := p1 q e hq
      rw [hnt] at a3
      simp only [List.append_nil] at a3
      rw [a1]
      obtain ⟨i1, i2⟩ := eTl hH hG hP (out := out) hK h38 n q e [] (out ++ e) z2 M2 s2 a3 (.inl rfl) (by simp [ngl]) (by simp only [List.length_append, List.nil_append]; omega) (by omega) (by omega) (by omega)
      refine ⟨fun t e' ht => ?_, i2⟩
      obtain ⟨D', o'', j1, ⟨z3, M3, s3, j2, j3, j4⟩, j5, j6⟩ := i1 t e' ht
      exact ⟨D', o'', j1, ⟨z3, M3, s3, j2, by omega, j4⟩, j5, j6⟩
theorem eEl (hH : HM s0 n f) (hG : GP n P) (hP : TPp M0 s0 s1 n f c P d) {K out : List Int} (hK : Kn K = d) (h124 : setl 124 K = (K, [])) : ∀ (zz q : Nat) (e D o' : List Int) (z : Nat) (M : ZMem) (s : ZSt), PS M0 s0 s1 f c M s q (D ++ K) o' → DE D → o' ++ ngl D = out ++ e → o'.length + (D ++ K).length ≤ q → q ≤ n → n ≤ zz + q → 300 ≤ z + q → sg (s0 140) n q ≠ 38 → (∀ r e', pAs (s0 140) n P 124 (-124) zz q e = (r, some e') → ∃ D' o'', DE D' ∧ OKR M0 s0 s1 f c (f_161_22 z M 133 (ii (c : Int)) 0) (z + q) r (D' ++ K) o'' ∧ o'' ++ ngl D' = out ++ e' ∧ sg (s0 140) n r ≠ 38 ∧ sg (s0 140) n r ≠ 124) ∧ ∀ r, pAs (s0 140) n P 124 (-124) zz q e = (r, none) → FLR M0 s0 f (f_161_22 z M 133 (ii (c : Int)) 0) r := by
  have n100 := hH.1.2.1
  intro zz
  induction zz with
  | zero =>
    intro q e D o' z M s h hD he hl hq hn hz hs
    refine ⟨fun r e' hr => ?_, fun r hr => by cases hr⟩
    cases hr
    exact ⟨D, o', hD, ⟨z, M, s, rfl, Nat.le_refl _, h⟩, he, hs, by rw [show sg (s0 140) n q = -1 from if_neg (by omega)]; omega⟩
  | succ zz ih =>
    intro q e D o' z M s h hD he hl hq hn hz hs
    have hle := congrArg List.length he
    simp only [List.length_append] at hle hl
    rw [pAs]
    by_cases g : sg (s0 140) n q = 124
    · have ql := sg_e g (by omega)
      obtain ⟨w, rfl⟩ : ∃ w, z = w + 1 := ⟨z - 1, by omega⟩
      obtain ⟨M1, t1, m1, m2⟩ := e122 hH.1.2.2 h (b := 124) (.inr rfl) (by simp only [List.length_append]; omega)
      rw [setl_E hD h124] at m2
      have e0 : f_161_22 (w + 1) M 133 (ii (c : Int)) 0 = f_161_22 w M1 133 (ii (c : Int)) 1 := by
        rw [f_161_22, d156 hH h.1.1 (by omega), zb_some, if_pos rfl, g, if_neg (show ¬ ii 124 = 38 by decide), if_neg (show ¬ ¬ ii 124 = 124 by decide)]
        exact m1 _
      have ln : (ngl D).length = D.length := by unfold ngl; simp
      have n124 : nt (124 :: K) = (124 :: K, []) := by simp [nt]
      have s124 : setl 38 (124 :: K) = (124 :: K, []) := by simp [setl]
      obtain ⟨p1, p2⟩ := hP (q + 1) (124 :: K) (o' ++ ngl D) w M1 t1 m2 (by rw [Kn, if_neg (by omega)]; exact hK) (by simp only [List.length_append, List.length_cons]; omega) (by omega) (by omega) n124 s124
      obtain ⟨g1, g2⟩ := hG (q + 1) (by omega)
      rw [if_pos g, e0]
      cases hq1 : P (q + 1) with
      | mk r o =>
        cases o with
        | none => exact ⟨fun r e' hr => (by cases hr), fun r hr => by cases hr; exact p2 _ hq1⟩
        | some e2 =>
          have bb := g1 r e2 hq1
          obtain ⟨D2, o2, d1, ⟨z2, M2, s2, a1, a2, a3⟩, d2, d3⟩ := p1 r e2 hq1
          have l2 := congrArg List.length d2
          have ln2 : (ngl D2).length = D2.length := by unfold ngl; simp
          simp only [List.length_append] at l2
          rw [a1]
          have a3' : PS M0 s0 s1 f c M2 s2 r ((D2 ++ [124]) ++ K) o2 := by
            rw [List.append_assoc]
            exact a3
          obtain ⟨i1, i2⟩ := ih r (e ++ (e2 ++ [-124])) (D2 ++ [124]) o2 z2 M2 s2 a3' (by rcases d1 with rfl | rfl; exact .inr (.inr (.inl rfl)); exact .inr (.inr (.inr rfl))) (by
            have : ngl (D2 ++ [124]) = ngl D2 ++ [-124] := by simp [ngl]
            rw [this, ← List.append_assoc, d2, he]
            simp) (by simp only [List.length_append, List.length_singleton]; omega) (by omega) (by omega) (by omega) d3
          refine ⟨fun t e' ht => ?_, i2⟩
          obtain ⟨D', o'', j1, ⟨z3, M3, s3, j2, j3, j4⟩, j5, j6⟩ := i1 t e' ht
          exact ⟨D', o'', j1, ⟨z3, M3, s3, j2, by omega, j4⟩, j5, j6⟩
    · rw [if_neg g]
      refine ⟨fun r e' hr => ?_, fun r hr => by cases hr⟩
      cases hr
      exact ⟨D, o', hD, ⟨z, M, s, rfl, Nat.le_refl _, h⟩, he, hs, g⟩
theorem setl_38 {K : List Int} (h : setl 124 K = (K, [])) : setl 38 K = (K, []) := by
  cases K with
  | nil => rfl
  | cons x K =>
    rw [setl] at h ⊢
    by_cases q : x = 38 ∨ (x = 124 ∧ (124 : Int) ≠ 38)
    · rw [if_pos q] at h
      have := congrArg (fun t => t.2.length) h
      simp at this
    · rw [if_neg (by omega)]
theorem eE (hH : HM s0 n f) (hG : GP n P) (hP : FPp M0 s0 s1 n f c P d) : EPp M0 s0 s1 n f c (pE (s0 140) n P) d := by
  intro p K out z M s h hK hl hp hz hnt h124
  have hG2 : GP n (pLv (s0 140) n P 38 (-38)) := pLv_g (by omega) hG
  have hT := eT hH hG hP
  obtain ⟨p1, p2⟩ := hT p K out z M s h hK hl hp hz hnt (setl_38 h124)
  obtain ⟨g1, g2⟩ := hG2 p hp
  unfold pE
  rw [pLv]
  cases hq : pLv (s0 140) n P 38 (-38) p with
  | mk q o =>
    cases o with
    | none => exact ⟨fun r e' hr => (by cases hr), fun r hr => by cases hr; exact p2 _ hq⟩
    | some e =>
      have bb := g1 q e hq
      obtain ⟨D, o', d1, ⟨z2, M2, s2, a1, a2, a3⟩, d2, d3⟩ := p1 q e hq
      have l2 := congrArg List.length d2
      have ln2 : (ngl D).length = D.length := by unfold ngl; simp
      simp only [List.length_append] at l2
      rw [a1]
      obtain ⟨i1, i2⟩ := eEl hH hG2 hT (out := out) hK h124 n q e D o' z2 M2 s2 a3 (d1.elim .inl fun t => .inr (.inl t)) d2 (by simp only [List.length_append]; omega) (by omega) (by omega) (by omega) d3
      refine ⟨fun t e' ht => ?_, i2⟩
      obtain ⟨D', o'', j1, ⟨z3, M3, s3, j2, j3, j4⟩, j5, j6⟩ := i1 t e' ht
      exact ⟨D', o'', j1, ⟨z3, M3, s3, j2, by omega, j4⟩, j5, j6⟩
end ZDU
