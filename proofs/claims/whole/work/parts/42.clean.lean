/-! CLEAN -/
abbrev nr (g ln t x : Int) : Prop := 2 * x - t - ln ≤ g ∧ -g ≤ 2 * x - t - ln
abbrev cln (K g ln mk t x : Int) : Prop := if K = 2 ∨ K = 5 then nr g ln t x ∨ x = mk else if K = 3 ∨ K = 6 then nr g ln t x ∧ x ≠ mk else if K = 4 then nr g ln t x ∧ ¬ t < 4 else nr g ln t x
theorem c41a {K : Int} (hK : K = 0 ∨ K = 1 ∨ K = 2 ∨ K = 3 ∨ K = 4 ∨ K = 5 ∨ K = 6) (P Q R : Prop) [Decidable P] [Decidable Q] [Decidable R] : (if ii K = 2 then (if ¬ (if P then (1 : Int32) else 0) = 0 then some 1 else (if ¬ Q then some 0 else some 1)) else (if ii K = 3 then (if (if P then (1 : Int32) else 0) = 0 then some 0 else (if Q then some 0 else some 1)) else (if ii K = 4 then (if (if P then (1 : Int32) else 0) = 0 then some 0 else (if R then some 0 else some 1)) else (if ii K = 5 then (if ¬ (if P then (1 : Int32) else 0) = 0 then some 1 else (if ¬ Q then some 0 else some 1)) else (if ii K = 6 then (if (if P then (1 : Int32) else 0) = 0 then some 0 else (if Q then some 0 else some 1)) else some (if P then 1 else 0)))))) = some (if (if K = 2 ∨ K = 5 then P ∨ Q else if K = 3 ∨ K = 6 then P ∧ ¬ Q else if K = 4 then P ∧ ¬ R else P) then (1 : Int32) else 0) := by
  have f1 : ∀ (a b : Int), ii a = ii b ↔ (ii a = ii b) := fun _ _ => Iff.rfl
  rcases hK with rfl | rfl | rfl | rfl | rfl | rfl | rfl <;> by_cases p : P <;> by_cases q : Q <;> by_cases r : R <;> simp [p, q, r] <;> decide
theorem c41 {M : ZMem} (h : Ly M) {o : Nat} (ho : zokT 2 o = true) {K g ln mk t x : Int} (h0 : zI M o 0 = ii K) (h1 : zI M o 1 = ii g) (h2 : zI M o 2 = ii ln) (h3 : zI M o 3 = ii mk) (hK : 0 ≤ K ∧ K ≤ 6) (hg : 0 ≤ g ∧ g ≤ 6) (hl : 0 ≤ ln ∧ ln ≤ 9) (hm : 1 ≤ mk ∧ mk ≤ 10) (ht : -1000 ≤ t ∧ t ≤ 1000) (hx : -1000 ≤ x ∧ x ≤ 1000) : f_41 M o (ii t) (ii x) = some (if cln K g ln mk t x then 1 else 0) := by
  have g0 := (gI h ho (j := 0) (by decide)).trans (congrArg some h0)
  have g1 := (gI h ho (j := 1) (by decide)).trans (congrArg some h1)
  have g2 := (gI h ho (j := 2) (by decide)).trans (congrArg some h2)
  have g3 := (gI h ho (j := 3) (by decide)).trans (congrArg some h3)
  have key : ∀ N : Prop, ∀ _ : Decidable N, (N ↔ nr g ln t x) → f_41_33 M o (ii t) (ii x) (if N then 1 else 0) = some (if cln K g ln mk t x then 1 else 0) := by
    intro N hN e
    have em : (ii x = ii mk) = (x = mk) := ii_eq (by omega) (by omega)
    have e4 : (ii t < 4) = (t < 4) := ii_lt (b := 4) (by omega) (by omega)
    have en : N = nr g ln t x := propext e
    have k1 : K = 0 ∨ K = 1 ∨ K = 2 ∨ K = 3 ∨ K = 4 ∨ K = 5 ∨ K = 6 := by omega
    have ec : cln K g ln mk t x ↔ (if K = 2 ∨ K = 5 then N ∨ x = mk else if K = 3 ∨ K = 6 then N ∧ ¬ x = mk else if K = 4 then N ∧ ¬ t < 4 else N) := by
      rw [en]
    unfold f_41_33 f_41_72 f_41_91
    simp only [g0, g3, zb_some, nb01, if_true, em, e4]
    refine (c41a k1 N (x = mk) (t < 4)).trans (congrArg some ?_)
    by_cases q : cln K g ln mk t x
    · rw [if_pos q, if_pos (ec.mp q)]
    · rw [if_neg q, if_neg (fun w => q (ec.mpr w))]
  have r2 : ∀ a : Int32, (2 : Int32) * ii x - ii t - ii ln = ii (2 * x - t - ln) := fun _ => by rw [show (2 : Int32) = ii 2 from rfl, ii_mul, ii_sub, ii_sub]
  unfold f_41 f_41_32
  rw [if_pos (zok_ly h ho)]
  simp only [g1, g2, zb_some, r2 0, ii_neg]
  by_cases c1 : g < 2 * x - t - ln
  · rw [if_pos (by rw [ii_lt (by omega) (by omega)]; exact c1)]
    have := key False inferInstance ⟨False.elim, fun q => by unfold nr at q; omega⟩
    exact this
  · rw [if_neg (by rw [ii_lt (by omega) (by omega)]; exact c1)]
    by_cases c2 : 2 * x - t - ln < -g
    · rw [if_pos (by rw [ii_lt (by omega) (by omega)]; exact c2)]
      exact key False inferInstance ⟨False.elim, fun q => by unfold nr at q; omega⟩
    · rw [if_neg (by rw [ii_lt (by omega) (by omega)]; exact c2)]
      exact key True inferInstance ⟨fun _ => by unfold nr; omega, fun _ => trivial⟩
