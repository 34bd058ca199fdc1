/-! HILL, the reference's reader: the row of waiting signs -/
def Kn : List Int → Nat
  | [] => 0
  | x :: K => if x = 33 ∨ x = 40 then Kn K + 1 else Kn K
def Ks (M : ZMem) : List Int → Prop
  | [] => True
  | x :: K => (zI M 147 K.length = ii x ∧ -1000 ≤ x ∧ x ≤ 1000) ∧ Ks M K
theorem Ks_fr {M M' : ZMem} : ∀ {K : List Int}, Ks M K → (∀ j, j < K.length → zI M' 147 j = zI M 147 j) → Ks M' K := by
  intro K
  induction K with
  | nil => intro _ _; trivial
  | cons x K ih =>
    intro h e
    simp only [List.length_cons] at e
    exact ⟨⟨(e _ (by omega)).trans h.1.1, h.1.2⟩, ih h.2 (fun j hj => e j (by omega))⟩
/-- signs that fall when a factor is done -/
def nt : List Int → List Int × List Int
  | [] => ([], [])
  | x :: K => if x = 33 then ((nt K).1, -33 :: (nt K).2) else (x :: K, [])
/-- signs that fall before a weaker one -/
def setl (b : Int) : List Int → List Int × List Int
  | [] => ([], [])
  | x :: K => if x = 38 ∨ (x = 124 ∧ b ≠ 38) then ((setl b K).1, -x :: (setl b K).2) else (x :: K, [])
theorem nt_l : ∀ K : List Int, (nt K).1.length + (nt K).2.length = K.length := by
  intro K
  induction K with
  | nil => rfl
  | cons x K ih =>
    rw [nt]
    by_cases c : x = 33
    · rw [if_pos c]; simp only [List.length_cons]; omega
    · rw [if_neg c]; simp only [List.length_nil, Nat.add_zero]
theorem setl_l (b : Int) : ∀ K : List Int, (setl b K).1.length + (setl b K).2.length = K.length := by
  intro K
  induction K with
  | nil => rfl
  | cons x K ih =>
    rw [setl]
    by_cases c : x = 38 ∨ (x = 124 ∧ b ≠ 38)
    · rw [if_pos c]; simp only [List.length_cons]; omega
    · rw [if_neg c]; simp only [List.length_nil, Nat.add_zero]
theorem setl_n (b : Int) : ∀ K : List Int, Kn (setl b K).1 = Kn K := by
  intro K
  induction K with
  | nil => rfl
  | cons x K ih =>
    rw [setl]
    by_cases c : x = 38 ∨ (x = 124 ∧ b ≠ 38)
    · rw [if_pos c]
      rw [Kn, if_neg (by omega)]
      exact ih
    · rw [if_neg c]
def FE (s1 s : ZSt) (c : Nat) : Prop := (∀ p, p ≠ 145 → p ≠ 146 → s p = s1 p) ∧ ∀ k, k ≠ c → s 145 k = s1 145 k
def PS (M0 : ZMem) (s0 s1 : ZSt) (f c : Nat) (M : ZMem) (s : ZSt) (p : Nat) (K out : List Int) : Prop := (PM M0 s0 f M s p ∧ FE s1 s c) ∧ (zI M 133 22 = ii ((100 * f + out.length : Nat) : Int) ∧ zI M 133 23 = ii (K.length : Int) ∧ zI M 133 24 = ii (Kn K : Int)) ∧ Ks M K ∧ ∀ i, i < out.length → s 146 (100 * f + i) = out.getD i 0
section ZDS
variable {M0 M : ZMem} {s0 s1 s : ZSt} {n f c p : Nat} {K out : List Int}
theorem PS.pl (h : PS M0 s0 s1 f c M s p K out) (q : Nat) : PS M0 s0 s1 f c (zpI M 133 12 (ii (q : Int))) s q K out := ⟨⟨h.1.1.pl q, h.1.2⟩, ⟨(zI_nk (by omega)).trans h.2.1.1, (zI_nk (by omega)).trans h.2.1.2.1, (zI_nk (by omega)).trans h.2.1.2.2⟩, Ks_fr h.2.2.1 (fun j _ => zI_ne (by omega)), h.2.2.2⟩
theorem Kn_l : ∀ K : List Int, Kn K ≤ K.length := by
  intro K
  induction K with
  | nil => exact Nat.le_refl _
  | cons x K ih =>
    rw [Kn]
    simp only [List.length_cons]
    by_cases q : x = 33 ∨ x = 40
    · rw [if_pos q]; omega
    · rw [if_neg q]; omega
/-- a sign comes out -/
theorem d164 (h : PS M0 s0 s1 f c M s p K out) (hf : f < 6) (hl : out.length < 100) (a : Int) : ∃ M' s', f_164 M 133 (ii a) = some M' ∧ PS M0 s0 s1 f c M' s' p K (out ++ [a]) := by
  have hL := h.1.1.1.1.1
  obtain ⟨⟨⟨⟨h1, h2⟩, h3⟩, h4⟩, ⟨e22, e23, e24⟩, hK, hO⟩ := h
  refine ⟨zpI (zpI M 146 (100 * f + out.length) (ii a)) 133 22 (ii ((100 * f + out.length + 1 : Nat) : Int)), up s 146 (100 * f + out.length) a, ?_, ⟨⟨⟨⟨MS_scr (h1.u (by omega)) (by omega) rfl, h2.u (.inr (.inr ⟨rfl, by omega⟩))⟩, ?_⟩, ⟨fun q q1 q2 => ?_, fun k hk => ?_⟩⟩, ⟨?_, ?_, ?_⟩, Ks_fr hK (fun j _ => (zI_ne (by omega)).trans (zI_ne (by omega))), fun i hi => ?_⟩⟩
  · unfold f_164
    rw [if_pos (dM hL).1]
    simp only [dM hL, zb_some, e22]
    rw [zsa_ii hL (p := 146) (n := 600) (by omega) (by decide +kernel) (by omega) (by omega) (by omega), zb_some, Int.toNat_natCast]
    simp only [dM hL.p, zb_some]
    rw [zI_ne (by omega), e22, ii_s1]
  · rw [zI_nk (by omega), zI_ne (by omega)]; exact h3
  · rw [← h4.1 q q1 q2]; funext j; exact up_ne q2
  · rw [up_ne (by omega)]; exact h4.2 k hk
  · rw [zI_at]; simp [Nat.add_assoc]
  · rw [zI_nk (by omega), zI_ne (by omega)]; exact e23
  · rw [zI_nk (by omega), zI_ne (by omega)]; exact e24
  · simp at hi
    by_cases q : i = out.length
    · rw [q, up_at, gd_app2 (Nat.le_refl _), Nat.sub_self]; rfl
    · rw [up_nk (by omega), gd_app1 (by omega)]; exact hO i (by omega)
/-- the last one waiting is read, and falls -/
theorem PS.tp {x : Int} (h : PS M0 s0 s1 f c M s p (x :: K) out) (hl : K.length ≤ 100) : zI M 133 23 = ii ((K.length + 1 : Nat) : Int) ∧ zai M 147 (ii ((K.length + 1 : Nat) : Int) - 1) = some (ii x) ∧ zai M 147 (ii (K.length : Int)) = some (ii x) ∧ (-1000 ≤ x ∧ x ≤ 1000) := by
  have hL := h.1.1.1.1.1
  have e := h.2.2.1.1
  have a : zai M 147 (ii (K.length : Int)) = some (ii x) := by
    rw [zai_ii hL (p := 147) (n := 101) (by omega) (by decide +kernel) (by omega) (by omega) (by omega), Int.toNat_natCast, e.1]
  refine ⟨h.2.1.2.1, ?_, a, e.2⟩
  rw [l1, ii_sub, show ((K.length + 1 : Nat) : Int) - 1 = (K.length : Int) by omega]
  exact a
theorem PS.po {x : Int} (h : PS M0 s0 s1 f c M s p (x :: K) out) (hx : ¬ (x = 33 ∨ x = 40)) : PS M0 s0 s1 f c (zpI M 133 23 (ii (K.length : Int))) s p K out := by
  obtain ⟨⟨⟨⟨h1, h2⟩, h3⟩, h4⟩, ⟨e22, e23, e24⟩, hK, hO⟩ := h
  rw [Kn, if_neg hx] at e24
  exact ⟨⟨⟨⟨MS_scr h1 (by omega) rfl, h2⟩, (zI_nk (by omega)).trans h3⟩, h4⟩, ⟨(zI_nk (by omega)).trans e22, zI_at, (zI_nk (by omega)).trans e24⟩, Ks_fr hK.2 (fun j _ => zI_ne (by omega)), hO⟩
theorem PS.pc {x : Int} (h : PS M0 s0 s1 f c M s p (x :: K) out) (hx : x = 33 ∨ x = 40) : PS M0 s0 s1 f c (zpI (zpI M 133 23 (ii (K.length : Int))) 133 24 (ii (Kn K : Int))) s p K out ∧ zI M 133 24 = ii ((Kn K + 1 : Nat) : Int) := by
  obtain ⟨⟨⟨⟨h1, h2⟩, h3⟩, h4⟩, ⟨e22, e23, e24⟩, hK, hO⟩ := h
  rw [Kn, if_pos hx] at e24
  exact ⟨⟨⟨⟨⟨MS_scr (MS_scr h1 (by omega) rfl) (by omega) rfl, h2⟩, (zI_nk (by omega)).trans ((zI_nk (by omega)).trans h3)⟩, h4⟩, ⟨(zI_nk (by omega)).trans ((zI_nk (by omega)).trans e22), (zI_nk (by omega)).trans zI_at, zI_at⟩, Ks_fr hK.2 (fun j _ => (zI_ne (by omega)).trans (zI_ne (by omega))), hO⟩, e24⟩
theorem ii_p1 (k : Nat) : ii ((k + 1 : Nat) : Int) - 1 = ii (k : Int) := by
  rw [l1, ii_sub]
  congr 1
  omega
theorem d165 (hf : f < 6) : ∀ (K : List Int) (z : Nat) (M : ZMem) (s : ZSt) (out : List Int), PS M0 s0 s1 f c M s p K out → out.length + K.length ≤ 100 → K.length < z → ∃ M' s', f_165_0 z M 133 = some M' ∧ PS M0 s0 s1 f c M' s' p (nt K).1 (out ++ (nt K).2) := by
  intro K
  induction K with
  | nil =>
    intro z M s out h hl hz
    obtain ⟨w, rfl⟩ : ∃ w, z = w + 1 := ⟨z - 1, by omega⟩
    have hL := h.1.1.1.1.1
    refine ⟨M, s, ?_, by rw [nt, List.append_nil]; exact h⟩
    rw [f_165_0, (dM hL).2.2.2.2.1, zb_some, h.2.1.2.1, if_pos (by decide)]
  | cons x K ih =>
    intro z M s out h hl hz
    obtain ⟨w, rfl⟩ : ∃ w, z = w + 1 := ⟨z - 1, by omega⟩
    have hL := h.1.1.1.1.1
    simp only [List.length_cons] at hl hz
    obtain ⟨t1, t2, t3, t4⟩ := h.tp (by omega)
    rw [f_165_0, (dM hL).2.2.2.2.1, zb_some, t1, if_neg (show ¬ ii ((K.length + 1 : Nat) : Int) ≤ 0 by rw [show (0 : Int32) = ii 0 from rfl, ii_le (by omega) (by omega)]; omega)]
    simp only [dM hL, zb_some, t1]
    rw [t2, zb_some, nt]
    by_cases q : x = 33
    · obtain ⟨M2, s2, m1, m2⟩ := d164 h hf (by omega) (-33)
      have L2 := m2.1.1.1.1.1
      obtain ⟨p1, p2⟩ := m2.pc (.inl q)
      rw [if_neg (show ¬ ¬ ii x = 33 by rw [q]; exact fun t => t rfl), if_pos q, show (-33 : Int32) = ii (-33) from rfl, m1, zb_some]
      obtain ⟨M3, s3, r1, r2⟩ := ih w _ s2 (out ++ [-33]) p1 (by simp only [List.length_append, List.length_singleton]; omega) (by omega)
      refine ⟨M3, s3, ?_, ?_⟩
      · simp only [dM L2, zb_some, m2.2.1.2.1, List.length_cons]
        rw [ii_p1]
        simp only [dM L2.p, zb_some]
        rw [zI_nk (by omega), p2, ii_p1]
        exact r1
      · simp only [List.append_assoc, List.singleton_append] at r2
        exact r2
    · rw [if_pos (show ¬ ii x = 33 by rw [show (33 : Int32) = ii 33 from rfl, ii_eq (by omega) (by omega)]; exact q), if_neg q]
      exact ⟨M, s, rfl, by rw [List.append_nil]; exact h⟩
theorem d166 (hf : f < 6) {b : Int} (hb : b = 38 ∨ b = 124) : ∀ (K : List Int) (z : Nat) (M : ZMem) (s : ZSt) (out : List Int), PS M0 s0 s1 f c M s p K out → out.length + K.length ≤ 100 → K.length < z → ∃ M' s', f_166_0 z M 133 (ii b) = some M' ∧ PS M0 s0 s1 f c M' s' p (setl b K).1 (out ++ (setl b K).2) := by
  intro K
  induction K with
  | nil =>
    intro z M s out h hl hz
    obtain ⟨w, rfl⟩ : ∃ w, z = w + 1 := ⟨z - 1, by omega⟩
    have hL := h.1.1.1.1.1
    refine ⟨M, s, ?_, by rw [setl, List.append_nil]; exact h⟩
    rw [f_166_0, (dM hL).2.2.2.2.1, zb_some, h.2.1.2.1, if_pos (by decide)]
  | cons x K ih =>
    intro z M s out h hl hz
    obtain ⟨w, rfl⟩ : ∃ w, z = w + 1 := ⟨z - 1, by omega⟩
    have hL := h.1.1.1.1.1
    simp only [List.length_cons] at hl hz
    obtain ⟨t1, t2, t3, t4⟩ := h.tp (by omega)
    rw [f_166_0, (dM hL).2.2.2.2.1, zb_some, t1, if_neg (show ¬ ii ((K.length + 1 : Nat) : Int) ≤ 0 by rw [show (0 : Int32) = ii 0 from rfl, ii_le (by omega) (by omega)]; omega)]
    simp only [dM hL, zb_some, t1]
    rw [t2, zb_some, zb_some, setl]
    have e38 : (ii x = 38) = (x = 38) := by rw [show (38 : Int32) = ii 38 from rfl, ii_eq (by omega) (by omega)]
    have e124 : (ii x = 124) = (x = 124) := by rw [show (124 : Int32) = ii 124 from rfl, ii_eq (by omega) (by omega)]
    have eb : (ii b = 38) = (b = 38) := by rw [show (38 : Int32) = ii 38 from rfl, ii_eq (by omega) (by omega)]
    have go : (x = 38 ∨ (x = 124 ∧ b ≠ 38)) → ∃ M' s', f_166_45 (fun M a0 a1 => f_166_0 w M a0 a1) M 133 (ii b) = some M' ∧ PS M0 s0 s1 f c M' s' p ((setl b K).1) (out ++ -x :: (setl b K).2) := by
      intro q
      have P1 := h.po (by omega)
      have L1 := P1.1.1.1.1.1
      have t3' : zai (zpI M 133 23 (ii (K.length : Int))) 147 (ii (K.length : Int)) = some (ii x) := by
        rw [zai_ii L1 (p := 147) (n := 101) (by omega) (by decide +kernel) (by omega) (by omega) (by omega), Int.toNat_natCast, zI_ne (by omega), h.2.2.1.1.1]
      obtain ⟨M2, s2, m1, m2⟩ := d164 P1 hf (by omega) (-x)
      obtain ⟨M3, s3, r1, r2⟩ := ih w _ s2 (out ++ [-x]) m2 (by simp only [List.length_append, List.length_singleton]; omega) (by omega)
      refine ⟨M3, s3, ?_, ?_⟩
      · unfold f_166_45
        simp only [dM hL, zb_some, t1]
        rw [ii_p1]
        simp only [dM L1, zb_some, P1.2.1.2.1]
        rw [t3', zb_some, show -ii x = ii (-x) from ii_neg x, m1, zb_some]
        exact r1
      · simp only [List.append_assoc, List.singleton_append] at r2
        exact r2
    by_cases q1 : x = 38
    · rw [if_pos (by rw [e38]; exact q1), if_pos (.inl q1)]
      exact go (.inl q1)
    · rw [if_neg (by rw [e38]; exact q1)]
      by_cases q2 : x = 124
      · rw [if_neg (by rw [e124]; exact fun t => t q2)]
        by_cases q3 : b = 38
        · rw [if_pos (by rw [eb]; exact q3), if_neg (by omega)]
          exact ⟨M, s, rfl, by rw [List.append_nil]; exact h⟩
        · rw [if_neg (by rw [eb]; exact q3), if_pos (.inr ⟨q2, q3⟩)]
          exact go (.inr ⟨q2, q3⟩)
      · rw [if_pos (by rw [e124]; exact q2), if_neg (by omega)]
        exact ⟨M, s, rfl, by rw [List.append_nil]; exact h⟩
end ZDS
