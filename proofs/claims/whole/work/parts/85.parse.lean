/-! HILL, the reference's reader: factors, expressions -/
section ZDV
variable {M0 M : ZMem} {s0 s1 s : ZSt} {n f c p : Nat} {K out : List Int}
theorem PS.s5 (h : PS M0 s0 s1 f c M s p K out) (hc : 10 * f ≤ c) (v : Int) : PS M0 s0 s1 f c (zpI M 145 c (ii v)) (up s 145 c v) p K out := by
  obtain ⟨⟨h1, h4⟩, ⟨e22, e23, e24⟩, hK, hO⟩ := h
  refine ⟨⟨h1.u (.inr (.inl ⟨by omega, hc⟩)), ⟨fun q q1 q2 => ?_, fun k hk => ?_⟩⟩, ⟨(zI_ne (by omega)).trans e22, (zI_ne (by omega)).trans e23, (zI_ne (by omega)).trans e24⟩, Ks_fr hK (fun j _ => zI_ne (by omega)), fun i hi => ?_⟩
  · rw [← h4.1 q q1 q2]; funext j; exact up_ne q1
  · rw [up_nk hk]; exact h4.2 k hk
  · rw [up_ne (by omega)]; exact hO i hi
theorem eC (hH : HM s0 n f) (hc : 10 * f ≤ c ∧ c < 60) {D o' : List Int} {q w : Nat} (h : PS M0 s0 s1 f c M s q (D ++ K) o') (hD : DE D) (hl : o'.length + (D ++ K).length ≤ q) (hq : q ≤ n) (g1 : sg (s0 140) n q ≠ 38) (g2 : sg (s0 140) n q ≠ 124) (h124 : setl 124 K = (K, [])) : ∃ M1 s2, PS M0 s0 s1 f c M1 s2 q K (o' ++ ngl D) ∧ s2 145 c = ((100 * f + (o' ++ ngl D).length : Nat) : Int) ∧ (K = [] → f_161_22 (w + 1) M 133 (ii (c : Int)) 0 = some (1, M1)) ∧ ∀ K', K = 40 :: K' → (sg (s0 140) n q = 41 → ∃ M5 s5, f_161_22 (w + 1) M 133 (ii (c : Int)) 0 = f_161_22 w M5 133 (ii (c : Int)) 0 ∧ PS M0 s0 s1 f c M5 s5 (q + 1) (nt K').1 ((o' ++ ngl D) ++ (nt K').2)) ∧ (sg (s0 140) n q ≠ 41 → f_161_22 (w + 1) M 133 (ii (c : Int)) 0 = some (0, M1)) := by
  have n100 := hH.1.2.1
  have b := sgb hH q
  simp only [List.length_append] at hl
  have ln : (ngl D).length = D.length := by unfold ngl; simp
  obtain ⟨M2, s2, m1, m2⟩ := d166 hH.1.2.2 (b := 124) (.inr rfl) (D ++ K) zF M s o' h (by simp only [List.length_append]; omega) (by unfold zF; simp only [List.length_append]; omega)
  rw [setl_E hD h124] at m2
  have e166 : f_166 M 133 124 = some M2 := by
    unfold f_166
    rw [if_pos (dM h.1.1.1.1.1).1]
    exact m1
  have L2 := m2.1.1.1.1.1
  have m3 := m2.s5 hc.1 ((100 * f + (o' ++ ngl D).length : Nat) : Int)
  have L3 := m3.1.1.1.1.1
  have e0 : f_161_22 (w + 1) M 133 (ii (c : Int)) 0 = (if ¬ ii (K.length : Int) = 0 then (if ii (sg (s0 140) n q) = 41 then (zb (zgi (zpI M2 145 c (ii ((100 * f + (o' ++ ngl D).length : Nat) : Int))) 12 23 133) fun x37 => zb (zpf (zpI M2 145 c (ii ((100 * f + (o' ++ ngl D).length : Nat) : Int))) 12 23 133 (.int (x37 - 1)) false) fun M39 => zb (zgi M39 12 24 133) fun x41 => zb (zpf M39 12 24 133 (.int (x41 - 1)) false) fun M43 => zb (zgi M43 12 12 133) fun x45 => zb (zpf M43 12 12 133 (.int ((x45 + 1))) false) fun M47 => zb (f_165 M47 133) fun M51 => f_161_22 w M51 133 (ii (c : Int)) 0) else (some (0, zpI M2 145 c (ii ((100 * f + (o' ++ ngl D).length : Nat) : Int))))) else (some (1, zpI M2 145 c (ii ((100 * f + (o' ++ ngl D).length : Nat) : Int))))) := by
    rw [f_161_22, d156 hH h.1.1 (by omega), zb_some, if_pos rfl, if_neg (show ¬ ii (sg (s0 140) n q) = 38 by rw [show (38 : Int32) = ii 38 from rfl, ii_eq (by omega) (by omega)]; exact g1), if_pos (show ¬ ii (sg (s0 140) n q) = 124 by rw [show (124 : Int32) = ii 124 from rfl, ii_eq (by omega) (by omega)]; exact g2), e166, zb_some]
    simp only [dM L2, zb_some, m2.2.1.1]
    rw [zsa_ii L2 (p := 145) (n := 60) (by omega) (by decide +kernel) (by omega) (by omega) (by omega), zb_some, Int.toNat_natCast]
    have e23 : zgi (zpI M2 145 c (ii ((100 * f + (o' ++ ngl D).length : Nat) : Int))) 12 23 133 = some (ii (K.length : Int)) := by
      rw [(dM L3).2.2.2.2.1, m3.2.1.2.1]
    rw [e23, zb_some, zb_some]
  refine ⟨_, _, m3, up_at, fun hK => ?_, fun K' hK => ?_⟩
  · rw [e0, hK, if_neg (show ¬ ¬ ii (([] : List Int).length : Int) = 0 by decide)]
  · subst hK
    have kl : (40 :: K' : List Int).length = K'.length + 1 := rfl
    rw [e0, if_pos (show ¬ ii (((40 :: K' : List Int).length : Nat) : Int) = 0 by rw [show (0 : Int32) = ii 0 from rfl, ii_eq (by omega) (by omega)]; omega)]
    refine ⟨fun g => ?_, fun g => ?_⟩
    · obtain ⟨p1, p2⟩ := m3.pc (.inr rfl)
      have P2 := p1.pl (q + 1)
      obtain ⟨M5, s5, r1, r2⟩ := d165 hH.1.2.2 K' zF _ _ _ P2 (by simp only [List.length_append]; omega) (by unfold zF; omega)
      refine ⟨M5, s5, ?_, r2⟩
      rw [if_pos (show ii (sg (s0 140) n q) = 41 by rw [g]; rfl)]
      simp only [dM L3, zb_some, m3.2.1.2.1]
      rw [kl, ii_p1]
      simp only [dM L3.p, zb_some]
      rw [zI_nk (by omega), p2, ii_p1]
      simp only [dM L3.p.p, zb_some]
      rw [zI_nk (by omega), zI_nk (by omega), m3.1.1.2, ii_s1]
      have e165 : f_165 (zpI (zpI (zpI (zpI M2 145 c (ii ((100 * f + (o' ++ ngl D).length : Nat) : Int))) 133 23 (ii (K'.length : Int))) 133 24 (ii (Kn K' : Int))) 133 12 (ii ((q + 1 : Nat) : Int))) 133 = some M5 := by
        unfold f_165
        rw [if_pos (dM P2.1.1.1.1.1).1]
        exact r1
      rw [e165, zb_some]
    · rw [if_neg (show ¬ ii (sg (s0 140) n q) = 41 by rw [show (41 : Int32) = ii 41 from rfl, ii_eq (by omega) (by omega)]; exact g)]
theorem eF (hH : HM s0 n f) (hc : 10 * f ≤ c ∧ c < 60) : ∀ y d : Nat, d ≤ 4 → 4 < d + y → FPp M0 s0 s1 n f c (pF (s0 140) n y d) d := by
  have n100 := hH.1.2.1
  intro y
  induction y with
  | zero => intro d h1 h2; omega
  | succ y ih =>
    intro d hd hy p K out z M s h hK hl hp hz
    have b := sgb hH p
    obtain ⟨w, rfl⟩ : ∃ w, z = w + 1 := ⟨z - 1, by omega⟩
    rw [pF, f_161_22, d156 hH h.1.1 (by omega), zb_some, if_neg (show ¬ (1 : Int32) = 0 by decide)]
    by_cases c33 : sg (s0 140) n p = 33
    · have pl := sg_e c33 (by omega)
      rw [if_pos (show sg (s0 140) n p = 40 ∨ sg (s0 140) n p = 33 from .inr c33), if_pos (show ii (sg (s0 140) n p) = 33 by rw [c33]; rfl), c33]
      by_cases d4 : d < 4
      · rw [if_pos d4, if_neg (show ¬ (33 : Int) = 40 by omega)]
        obtain ⟨M1, m1, m2⟩ := e43 h (x := 33) (.inl rfl) (by omega) (by omega) (b2 := 1)
        rw [m1]
        obtain ⟨i1, i2⟩ := ih (d + 1) (by omega) (by omega) (p + 1) (33 :: K) out w M1 s m2 (by rw [Kn, if_pos (.inl rfl), hK]) (by simp only [List.length_cons]; omega) (by omega) (by omega)
        have n33 : nt (33 :: K) = ((nt K).1, -33 :: (nt K).2) := by rw [nt, if_pos rfl]
        rw [n33] at i1
        cases hq : pF (s0 140) n y (d + 1) (p + 1) with
        | mk q o =>
          cases o with
          | none => exact ⟨fun r e' hr => (by cases hr), fun r hr => by cases hr; exact i2 _ hq⟩
          | some e =>
            refine ⟨fun r e' hr => ?_, fun r hr => by cases hr⟩
            cases hr
            obtain ⟨z2, M2, s2, a1, a2, a3⟩ := i1 q e hq
            refine ⟨z2, M2, s2, a1, by omega, ?_⟩
            rw [List.append_assoc]
            exact a3
      · rw [if_neg d4, e43f h (by omega)]
        refine ⟨fun r e' hr => (by cases hr), fun r hr => ?_⟩
        cases hr
        exact ⟨M, s, rfl, h.1.1⟩
    · rw [if_neg (show ¬ ii (sg (s0 140) n p) = 33 by rw [show (33 : Int32) = ii 33 from rfl, ii_eq (by omega) (by omega)]; exact c33)]
      by_cases c40 : sg (s0 140) n p = 40
      · have pl := sg_e c40 (by omega)
        rw [if_pos (show sg (s0 140) n p = 40 ∨ sg (s0 140) n p = 33 from .inl c40), if_neg (show ¬ ¬ ii (sg (s0 140) n p) = 40 by rw [c40]; exact fun t => t rfl), c40]
        by_cases d4 : d < 4
        · rw [if_pos d4, if_pos rfl]
          obtain ⟨M1, m1, m2⟩ := e43 h (x := 40) (.inr rfl) (by omega) (by omega) (b2 := 1)
          rw [m1]
          have n40 : nt (40 :: K) = (40 :: K, []) := by simp [nt]
          have s40 : setl 124 (40 :: K) = (40 :: K, []) := by simp [setl]
          obtain ⟨i1, i2⟩ := eE hH (pF_g (T := s0 140) (n := n) y (d + 1)) (ih (d + 1) (by omega) (by omega)) (p + 1) (40 :: K) out w M1 s m2 (by rw [Kn, if_pos (.inr rfl), hK]) (by simp only [List.length_cons]; omega) (by omega) (by omega) n40 s40
          obtain ⟨g1, g2⟩ := pE_g (T := s0 140) (pF_g (T := s0 140) (n := n) y (d + 1)) (p + 1) (by omega)
          cases hq : pE (s0 140) n (pF (s0 140) n y (d + 1)) (p + 1) with
          | mk q o =>
            cases o with
            | none => exact ⟨fun r e' hr => (by cases hr), fun r hr => by cases hr; exact i2 _ hq⟩
            | some e =>
              have bb := g1 q e hq
              obtain ⟨D, o', d1, ⟨z2, M2, s2, a1, a2, a3⟩, d2, d3, d5⟩ := i1 q e hq
              have l2 := congrArg List.length d2
              have ln : (ngl D).length = D.length := by unfold ngl; simp
              simp only [List.length_append] at l2
              obtain ⟨w2, rfl⟩ : ∃ w, z2 = w + 1 := ⟨z2 - 1, by omega⟩
              obtain ⟨M3, s3, t1, t2, -, t3⟩ := eC (w := w2) hH hc a3 d1 (by simp only [List.length_append, List.length_cons]; omega) (by omega) d3 d5 s40
              obtain ⟨t4, t5⟩ := t3 K rfl
              rw [a1]
              simp only
              by_cases c41 : sg (s0 140) n q = 41
              · rw [if_pos c41]
                refine ⟨fun r e' hr => ?_, fun r hr => by cases hr⟩
                cases hr
                obtain ⟨M5, s5, u1, u2⟩ := t4 c41
                refine ⟨w2, M5, s5, u1, by omega, ?_⟩
                rw [d2, List.append_assoc] at u2
                exact u2
              · rw [if_neg c41]
                refine ⟨fun r e' hr => (by cases hr), fun r hr => ?_⟩
                cases hr
                exact ⟨M3, s3, t5 c41, t1.1.1⟩
        · rw [if_neg d4, e43f h (by omega)]
          refine ⟨fun r e' hr => (by cases hr), fun r hr => ?_⟩
          cases hr
          exact ⟨M, s, rfl, h.1.1⟩
      · rw [if_neg (show ¬ (sg (s0 140) n p = 40 ∨ sg (s0 140) n p = 33) from fun q => q.elim c40 c33), if_pos (show ¬ ii (sg (s0 140) n p) = 40 by rw [show (40 : Int32) = ii 40 from rfl, ii_eq (by omega) (by omega)]; exact c40)]
        obtain ⟨i1, i2⟩ := e162 hH h hp hl
        obtain ⟨g1, g2⟩ := pTest_g (T := s0 140) (n := n) p hp
        refine ⟨fun q e he => ?_, fun q he => ?_⟩
        · obtain ⟨M', s', a1, a2⟩ := i1 q e he
          have bb := g1 q e he
          rw [a1, zbd_some, if_neg (show ¬ (1 : Int32) = 0 by decide)]
          exact ⟨w, M', s', rfl, by omega, a2⟩
        · obtain ⟨M', s', a1, a2⟩ := i2 q he
          rw [a1, zbd_some, if_pos rfl]
          exact ⟨M', s', rfl, a2⟩
def PQ (M0 : ZMem) (s0 : ZSt) (f : Nat) (M : ZMem) (s : ZSt) (p : Nat) (out : List Int) : Prop := PM M0 s0 f M s p ∧ zI M 133 22 = ii ((100 * f + out.length : Nat) : Int) ∧ ∀ i, i < out.length → s 146 (100 * f + i) = out.getD i 0
theorem e161 (hH : HM s0 n f) (hc : 10 * f ≤ c ∧ c < 60) (h : PQ M0 s0 f M s p out) (hp : p ≤ n) (hl : out.length ≤ p) : (∀ q e, pE (s0 140) n (pF (s0 140) n 8 0) p = (q, some e) → ∃ M' s', f_161 M 133 (ii (c : Int)) = some (1, M') ∧ PQ M0 s0 f M' s' q (out ++ e) ∧ (∀ k, k ≠ 144 → k ≠ 145 → k ≠ 146 → s' k = s k) ∧ (∀ k, k ≠ c → s' 144 k = s 144 k ∧ s' 145 k = s 145 k) ∧ s' 144 c = ((100 * f + out.length : Nat) : Int) ∧ s' 145 c = ((100 * f + (out ++ e).length : Nat) : Int)) ∧ ∀ q, pE (s0 140) n (pF (s0 140) n 8 0) p = (q, none) → ∃ M' s', f_161 M 133 (ii (c : Int)) = some (0, M') ∧ PM M0 s0 f M' s' q := by
  have n100 := hH.1.2.1
  obtain ⟨⟨⟨h1, h2⟩, h3⟩, h4, h5⟩ := h
  have hL := h1.1
  have L1 : Ly (zpI M 133 23 0) := hL.p
  have L2 : Ly (zpI (zpI M 133 23 0) 133 24 0) := hL.p.p
  have P0 : PS M0 s0 (up s 144 c ((100 * f + out.length : Nat) : Int)) f c (zpI (zpI (zpI M 133 23 0) 133 24 0) 144 c (ii ((100 * f + out.length : Nat) : Int))) (up s 144 c ((100 * f + out.length : Nat) : Int)) p [] out := by
    refine ⟨⟨⟨⟨(MS_scr (MS_scr h1 (by omega) rfl) (by omega) rfl).u (by omega), h2.u (.inr (.inl ⟨by omega, hc.1⟩))⟩, ?_⟩, fun _ _ _ => rfl, fun _ _ => rfl⟩, ⟨?_, ?_, ?_⟩, trivial, fun i hi => ?_⟩
    · rw [zI_ne (by omega), zI_nk (by omega), zI_nk (by omega)]; exact h3
    · rw [zI_ne (by omega), zI_nk (by omega), zI_nk (by omega)]; exact h4
    · rw [zI_ne (by omega), zI_nk (by omega), zI_at]; rfl
    · rw [zI_ne (by omega), zI_at]; rfl
    · rw [up_ne (by omega)]; exact h5 i hi
  obtain ⟨i1, i2⟩ := eE hH (pF_g (T := s0 140) (n := n) 8 0) (eF hH hc 8 0 (by omega) (by omega)) p [] out zF _ _ P0 rfl (by simpa using hl) hp (by unfold zF; omega) rfl rfl
  have e0 : f_161 M 133 (ii (c : Int)) = f_161_22 zF (zpI (zpI (zpI M 133 23 0) 133 24 0) 144 c (ii ((100 * f + out.length : Nat) : Int))) 133 (ii (c : Int)) 1 := by
    unfold f_161
    rw [if_pos (dM hL).1]
    simp only [dM hL, zb_some]
    simp only [dM L1, zb_some]
    simp only [dM L2, zb_some]
    rw [zI_nk (by omega), zI_nk (by omega), h4, zsa_ii L2 (p := 144) (n := 60) (by omega) (by decide +kernel) (by omega) (by omega) (by omega), zb_some, Int.toNat_natCast]
  obtain ⟨g1, g2⟩ := pE_g (T := s0 140) (pF_g (T := s0 140) (n := n) 8 0) p hp
  rw [e0]
  refine ⟨fun q e he => ?_, fun q he => ?_⟩
  · have bb := g1 q e he
    obtain ⟨D, o', d1, ⟨z2, M2, s2, a1, a2, a3⟩, d2, d3, d5⟩ := i1 q e he
    have l2 := congrArg List.length d2
    have ln : (ngl D).length = D.length := by unfold ngl; simp
    simp only [List.length_append] at l2
    obtain ⟨w2, rfl⟩ : ∃ w, z2 = w + 1 := ⟨z2 - 1, by unfold zF at a2; omega⟩
    obtain ⟨M3, s3, t1, t2, t3, -⟩ := eC (w := w2) hH hc a3 d1 (by simp only [List.length_append, List.length_nil]; omega) (by omega) d3 d5 rfl
    rw [d2] at t1 t2
    refine ⟨M3, s3, a1.trans (t3 rfl), ⟨t1.1.1, t1.2.1.1, t1.2.2.2⟩, fun k k1 k2 k3 => ?_, fun k hk => ⟨?_, ?_⟩, ?_, t2⟩
    · rw [t1.1.2.1 k k2 k3]; funext j; exact up_ne k1
    · rw [t1.1.2.1 144 (by omega) (by omega), up_nk hk]
    · rw [t1.1.2.2 k hk, up_ne (by omega)]
    · rw [t1.1.2.1 144 (by omega) (by omega), up_at]
  · obtain ⟨M', s', a1, a2⟩ := i2 q he
    exact ⟨M', s', a1, a2⟩
end ZDV
