/-! HILL, the reference's reader: signs, words, numbers -/
def FS (s0 s : ZSt) (f : Nat) : Prop := (∀ p, (p < 141 ∨ 146 < p) → s p = s0 p) ∧ (∀ h, h ≠ f → s 141 h = s0 141 h) ∧ (∀ c, c < 10 * f → s 142 c = s0 142 c ∧ s 143 c = s0 143 c ∧ s 144 c = s0 144 c ∧ s 145 c = s0 145 c) ∧ ∀ k, k < 100 * f → s 146 k = s0 146 k
def HM (s0 : ZSt) (n f : Nat) : Prop := (s0 133 11 = (n : Int) ∧ n ≤ 100 ∧ f < 6) ∧ (∀ k, k < n → 0 ≤ s0 140 k ∧ s0 140 k ≤ 127) ∧ ∀ k, k < 22 → s0 148 k = ltr.getD k 0
def PM (M0 : ZMem) (s0 : ZSt) (f : Nat) (M : ZMem) (s : ZSt) (p : Nat) : Prop := (MS M0 M s ∧ FS s0 s f) ∧ zI M 133 12 = ii (p : Int)
/-- beside the place and the number read, the workplaces stay -/
def F1 (M M' : ZMem) : Prop := (∀ j, j ≠ 12 → j ≠ 13 → zI M' 133 j = zI M 133 j) ∧ ∀ j, zI M' 147 j = zI M 147 j
theorem F1.rf (M : ZMem) : F1 M M := ⟨fun _ _ _ => rfl, fun _ => rfl⟩
theorem F1.tr {M M1 M2 : ZMem} (h : F1 M M1) (h' : F1 M1 M2) : F1 M M2 := ⟨fun j a b => (h'.1 j a b).trans (h.1 j a b), fun j => (h'.2 j).trans (h.2 j)⟩
theorem F1.p {M M1 : ZMem} (h : F1 M M1) {j : Nat} {v : Int32} (hj : j = 12 ∨ j = 13) : F1 M (zpI M1 133 j v) := ⟨fun i a b => (zI_nk (by omega)).trans (h.1 i a b), fun i => (zI_ne (by omega)).trans (h.2 i)⟩
theorem F1.q {M M1 : ZMem} (h : F1 M M1) {p k : Nat} {v : Int32} (hp : p ≠ 133) (h7 : p ≠ 147) : F1 M (zpI M1 p k v) := ⟨fun i a b => (zI_ne (Ne.symm hp)).trans (h.1 i a b), fun i => (zI_ne (Ne.symm h7)).trans (h.2 i)⟩
theorem dM {M : ZMem} (h : Ly M) : zok M 12 133 = true ∧ zgi M 12 12 133 = some (zI M 133 12) ∧ zgi M 12 13 133 = some (zI M 133 13) ∧ zgi M 12 22 133 = some (zI M 133 22) ∧ zgi M 12 23 133 = some (zI M 133 23) ∧ zgi M 12 24 133 = some (zI M 133 24) ∧ (∀ x, zpf M 12 12 133 (.int x) false = some (zpI M 133 12 x)) ∧ (∀ x, zpf M 12 13 133 (.int x) false = some (zpI M 133 13 x)) ∧ (∀ x, zpf M 12 22 133 (.int x) false = some (zpI M 133 22 x)) ∧ (∀ x, zpf M 12 23 133 (.int x) false = some (zpI M 133 23 x)) ∧ (∀ x, zpf M 12 24 133 (.int x) false = some (zpI M 133 24 x)) ∧ zgr M 12 14 133 = some (some 140) ∧ zgr M 12 15 133 = some (some 141) ∧ zgr M 12 16 133 = some (some 142) ∧ zgr M 12 17 133 = some (some 143) ∧ zgr M 12 18 133 = some (some 144) ∧ zgr M 12 19 133 = some (some 145) ∧ zgr M 12 20 133 = some (some 146) ∧ zgr M 12 21 133 = some (some 147) ∧ zgr M 12 25 133 = some (some 148) := by
  refine ⟨zok_ly h k133, gI h k133 (by decide), gI h k133 (by decide), gI h k133 (by decide), gI h k133 (by decide), gI h k133 (by decide), fun x => pI h k133 (by decide) (by decide) (by decide), fun x => pI h k133 (by decide) (by decide) (by decide), fun x => pI h k133 (by decide) (by decide) (by decide), fun x => pI h k133 (by decide) (by decide) (by decide), fun x => pI h k133 (by decide) (by decide) (by decide), ?_, ?_, ?_, ?_, ?_, ?_, ?_, ?_, ?_⟩ <;> exact gR h k133 (by decide) (by decide +kernel)
theorem MS.u {M0 M : ZMem} {s : ZSt} (h : MS M0 M s) {p k : Nat} {v : Int} (hp : 133 ≤ p) : MS M0 (zpI M p k (ii v)) (up s p k v) := ⟨h.1.p, h.2.1.pI hp, RM_up h.2.2 _ _ _⟩
section ZDP
variable {M0 M : ZMem} {s0 s : ZSt} {n f p : Nat}
theorem PM.pl (h : PM M0 s0 f M s p) (q : Nat) : PM M0 s0 f (zpI M 133 12 (ii (q : Int))) s q := ⟨⟨MS_scr h.1.1 (by omega) rfl, h.1.2⟩, zI_at⟩
theorem d156 (hH : HM s0 n f) (h : PM M0 s0 f M s p) (hp : p ≤ 200) : f_156 M 133 = some (ii (sg (s0 140) n p)) := by
  have hL := h.1.1.1
  have n100 := hH.1.2.1
  have e11 : s 133 11 = (n : Int) := (congrFun (h.1.2.1 133 (by omega)) 11).trans hH.1.1
  have g11 : zgi M 12 11 133 = some (ii (n : Int)) := rFx h.1.1 (by decide) rfl e11
  unfold f_156 sg
  rw [if_pos (dM hL).1, (dM hL).2.1, zb_some, g11, zb_some, h.2]
  by_cases g : p < n
  · have e140 : s 140 p = s0 140 p := congrFun (h.1.2.1 140 (by omega)) p
    rw [if_neg (show ¬ ii (n : Int) ≤ ii (p : Int) by rw [ii_le (by omega) (by omega)]; omega), if_pos g]
    simp only [dM hL, zb_some, h.2]
    rw [zai_ii hL (p := 140) (n := 100) (by omega) (by decide +kernel) (by omega) (by omega) (by omega), zb_some, Int.toNat_natCast, h.1.1.2.2 140 p rfl, e140]
  · rw [if_pos (show ii (n : Int) ≤ ii (p : Int) by rw [ii_le (by omega) (by omega)]; omega), if_neg g]
    rfl
theorem sgb (hH : HM s0 n f) (p : Nat) : -1 ≤ sg (s0 140) n p ∧ sg (s0 140) n p ≤ 127 := by
  unfold sg
  by_cases c : p < n
  · rw [if_pos c]; have := hH.2.1 p c; omega
  · rw [if_neg c]; omega
theorem d158 (hH : HM s0 n f) (h : PM M0 s0 f M s p) (hp : p ≤ 200) {c : Int} (hc : -1000 ≤ c ∧ c ≤ 1000) : f_158 M 133 (ii c) = some (if sg (s0 140) n p = c then (1, zpI M 133 12 (ii ((p + 1 : Nat) : Int))) else (0, M)) := by
  have hL := h.1.1.1
  have b := sgb hH p
  unfold f_158
  rw [if_pos (dM hL).1, d156 hH h hp, zb_some]
  by_cases g : sg (s0 140) n p = c
  · rw [if_pos (show ii (sg (s0 140) n p) = ii c by rw [g]), if_pos g, (dM hL).2.1, zb_some, h.2, ii_s1]
    simp only [dM hL, zb_some]
  · rw [if_neg (show ¬ ii (sg (s0 140) n p) = ii c by rw [ii_eq (by omega) (by omega)]; exact g), if_neg g]
theorem d157 (hH : HM s0 n f) {o L : Nat} (ho : o + L ≤ 22) : ∀ (r : List Int) (z i p : Nat) (M : ZMem), PM M0 s0 f M s p → p ≤ n → (∀ c ∈ r, 0 ≤ c ∧ c ≤ 127) → i + r.length = L → (∀ j, j < r.length → ltr.getD (o + i + j) 0 = r.getD j 0) → r.length < z → ∃ M', f_157_2 z M 133 (ii (o : Int)) (ii (L : Int)) (ii (i : Int)) = some (if cpf (s0 140) n r p = r.length ∧ sg (s0 140) n (p + r.length) = 32 then 1 else 0, M') ∧ PM M0 s0 f M' s (if cpf (s0 140) n r p = r.length then (if sg (s0 140) n (p + r.length) = 32 then p + r.length + 1 else p + r.length) else p + cpf (s0 140) n r p) ∧ F1 M M' := by
  have n100 := hH.1.2.1
  intro r
  induction r with
  | nil =>
    intro z i p M h hp hb hi hl hz
    obtain ⟨w, rfl⟩ : ∃ w, z = w + 1 := ⟨z - 1, by omega⟩
    simp only [List.length_nil, Nat.add_zero] at hi ⊢
    rw [f_157_2, if_pos (show ii (L : Int) ≤ ii (i : Int) by rw [ii_le (by omega) (by omega)]; omega), show (32 : Int32) = ii 32 from rfl, d158 hH h (by omega) (c := 32) (by omega), zbd_some]
    have c0 : cpf (s0 140) n [] p = 0 := rfl
    simp only [c0, true_and, if_true]
    by_cases g : sg (s0 140) n p = 32
    · simp only [if_pos g]
      rw [if_pos (show narrow FieldType.boolean (Value.int 1) = Value.int 1 from rfl)]
      exact ⟨_, rfl, h.pl (p + 1), (F1.rf M).p (.inl rfl)⟩
    · simp only [if_neg g]
      rw [if_pos (show narrow FieldType.boolean (Value.int 0) = Value.int 0 from rfl)]
      exact ⟨M, rfl, h, F1.rf M⟩
  | cons x r ih =>
    intro z i p M h hp hb hi hl hz
    obtain ⟨w, rfl⟩ : ∃ w, z = w + 1 := ⟨z - 1, by omega⟩
    have hL := h.1.1.1
    have hx := hb x (List.mem_cons_self)
    simp only [List.length_cons] at hi hl hz ⊢
    have e148 : zI M 148 (o + i) = ii x := by
      have e0 : s 148 (o + i) = s0 148 (o + i) := congrFun (h.1.2.1 148 (by omega)) (o + i)
      have e1 := hl 0 (by omega)
      rw [h.1.1.2.2 148 (o + i) rfl, e0, hH.2.2 (o + i) (by omega)]
      exact congrArg ii e1
    rw [f_157_2, if_neg (show ¬ ii (L : Int) ≤ ii (i : Int) by rw [ii_le (by omega) (by omega)]; omega)]
    have e25 : zgr M 12 25 133 = some (some 148) := by simp only [dM hL]
    rw [e25, zb_some, zb_some, show ii (o : Int) + ii (i : Int) = ii ((o + i : Nat) : Int) by rw [ii_add]; rfl, zai_ii hL (p := 148) (n := 22) (by omega) (by decide +kernel) (by omega) (by omega) (by omega), zb_some, Int.toNat_natCast, e148, d158 hH h (by omega) (c := x) (by omega), zbd_some, cpf]
    by_cases g : sg (s0 140) n p = x
    · have pl := sg_e g hx.1
      simp only [if_pos g]
      rw [if_pos (show ¬ (1 : Int32) = 0 by decide), ii_s1]
      obtain ⟨M', m1, m2, m3⟩ := ih w (i + 1) (p + 1) _ (h.pl (p + 1)) (by omega) (fun c hc => hb c (List.mem_cons_of_mem _ hc)) (by omega) (fun j hj => by
        have := hl (j + 1) (by omega)
        rw [show o + i + (j + 1) = o + (i + 1) + j by omega] at this
        exact this) (by omega)
      refine ⟨M', ?_, ?_, ((F1.rf M).p (.inl rfl)).tr m3⟩
      · rw [m1]
        rw [show p + 1 + r.length = p + (r.length + 1) by omega]
        simp only [Nat.add_right_cancel_iff]
      · rw [show p + 1 + r.length = p + (r.length + 1) by omega, show p + 1 + cpf (s0 140) n r (p + 1) = p + (cpf (s0 140) n r (p + 1) + 1) by omega] at m2
        simp only [Nat.add_right_cancel_iff]
        exact m2
    · simp only [if_neg g]
      rw [if_neg (fun q => q trivial), if_neg (fun q => absurd q.1 (by omega)), if_neg (by omega)]
      exact ⟨M, rfl, h, F1.rf M⟩
end ZDP
