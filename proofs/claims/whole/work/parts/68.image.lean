/-! IMAGE, UNDO: the reference's side (printed by wip/whole/gen_im.py) -/
def nbv (z : Int) : Int := (vp_nar .boolean (ii z)).toInt
theorem nbv_ii (z : Int) : ii (nbv z) = vp_nar .boolean (ii z) := ii_of _
theorem nbv_01 {z : Int} (h : z = 0 ∨ z = 1) : nbv z = z := by rcases h with rfl | rfl <;> decide +kernel
def cpl (st : Nat → ZSt → ZSt) : Nat → Nat → ZSt → ZSt
  | 0, _, t => t
  | m + 1, i, t => cpl st m (i + 1) (st i t)
theorem cpl_o {st : Nat → ZSt → ZSt} {p : Nat} (h : ∀ i t, st i t p = t p) : ∀ {m i : Nat} {t : ZSt}, cpl st m i t p = t p := by
  intro m
  induction m with
  | zero => intro i t; rfl
  | succ m ih => intro i t; rw [cpl, ih, h]
theorem cpl_v {st : Nat → ZSt → ZSt} {P Q : Nat} {g : Int → Int} (h1 : ∀ i t k, st i t P k = if k = i then g (t Q i) else t P k) (h2 : ∀ i t, st i t Q = t Q) : ∀ (m i : Nat) (t : ZSt), (∀ k, i ≤ k → k < i + m → cpl st m i t P k = g (t Q k)) ∧ ∀ k, k < i → cpl st m i t P k = t P k := by
  intro m
  induction m with
  | zero => intro i t; exact ⟨fun k a b => by omega, fun k _ => rfl⟩
  | succ m ih =>
    intro i t
    obtain ⟨a, b⟩ := ih (i + 1) (st i t)
    refine ⟨fun k k1 k2 => ?_, fun k hk => ?_⟩
    · rw [cpl]
      by_cases c : k = i
      · rw [b k (by omega), h1, if_pos c, c]
      · rw [a k (by omega) (by omega), h2]
    · rw [cpl, b k (by omega), h1, if_neg (by omega)]
theorem lpG {M0 : ZMem} {f : Nat → ZMem → Nat → Int32 → Option (Int32 × ZMem)} {n : Nat} {st : Nat → ZSt → ZSt} {F : ZSt → ZSt} (hs : ∀ (w : Nat) (M : ZMem) (t : ZSt) (i : Nat), i < n → MS M0 M t → ∀ (v : Int32) (s' : ZSt), (∀ M1, MS M0 M1 (st i t) → MG M0 (f w M1 133 (ii ((i + 1 : Nat) : Int))) v s') → MG M0 (f (w + 1) M 133 (ii (i : Int))) v s') (he : ∀ (w : Nat) (M : ZMem) (t : ZSt), MS M0 M t → MG M0 (f (w + 1) M 133 (ii (n : Int))) (ii (t 133 0)) (F t)) (h0 : ∀ i t, st i t 133 0 = t 133 0) : ∀ (m z i : Nat) (M : ZMem) (t : ZSt), MS M0 M t → i + m = n → m < z → MG M0 (f z M 133 (ii (i : Int))) (ii (t 133 0)) (F (cpl st m i t)) := by
  intro m
  induction m with
  | zero =>
    intro z i M t h e hz
    obtain ⟨w, rfl⟩ : ∃ w, z = w + 1 := ⟨z - 1, by omega⟩
    have ei : i = n := by omega
    subst ei
    exact he w M t h
  | succ m ih =>
    intro z i M t h e hz
    obtain ⟨w, rfl⟩ : ∃ w, z = w + 1 := ⟨z - 1, by omega⟩
    refine hs w M t i (by omega) h _ _ fun M1 h1 => ?_
    have := ih w (i + 1) M1 (st i t) h1 (by omega) (by omega)
    rw [h0] at this
    exact this
theorem cpR {α : Type} {M0 M : ZMem} {t s' : ZSt} {v : α} (h : MS M0 M t) {jP P jQ Q n i : Nat} (a1 : zfk 12 jP 2 = true) (a2 : zRm 133 jP = some P) (b1 : zfk 12 jQ 2 = true) (b2 : zRm 133 jQ = some Q) (p1 : zrw P n = true) (q1 : zrw Q n = true) (q2 : ∀ j, zst Q j = true) (hn : n ≤ 1000) (hi : i < n) {F : ZMem → Option (α × ZMem)} (next : ∀ M1, MS M0 M1 (up t P i (t Q i)) → MG M0 (F M1) v s') : MG M0 (zb (zgr M 12 jP 133) fun r8 => zb (zgr M 12 jQ 133) fun r10 => zb r10 fun q12 => zb (zai M q12 (ii (i : Int))) fun x13 => zb r8 fun q15 => zb (zsa M 20 q15 (ii (i : Int)) x13) F) v s' := by
  have x := rN h b1 b2 q1 q2 hn hi
  rw [rP h a1 a2, zb_some, x.1, zb_some, zb_some, x.2, zb_some, zb_some]
  exact MG_bv (wNn h p1 hi hn) next
def zrb (P n : Nat) : Bool := decide (133 < P ∧ P < 184 ∧ zSh.getD P (0, 0) = (22, n))
theorem cpB {α : Type} {M0 M : ZMem} {t s' : ZSt} {v : α} (h : MS M0 M t) {jP P jQ Q n i : Nat} (a1 : zfk 12 jP 2 = true) (a2 : zRm 133 jP = some P) (b1 : zfk 12 jQ 2 = true) (b2 : zRm 133 jQ = some Q) (p1 : zrb P n = true) (q1 : zrb Q n = true) (q2 : ∀ j, zst Q j = true) (hn : n ≤ 1000) (hi : i < n) {F : ZMem → Option (α × ZMem)} (next : ∀ M1, MS M0 M1 (up t P i (nbv (t Q i))) → MG M0 (F M1) v s') : MG M0 (zb (zgr M 12 jP 133) fun r8 => zb (zgr M 12 jQ 133) fun r10 => zb r10 fun q12 => zb (zab M q12 (ii (i : Int))) fun x13 => zb r8 fun q15 => zb (zsb M q15 (ii (i : Int)) x13) F) v s' := by
  obtain ⟨p2, p3, p4⟩ := of_decide_eq_true p1
  obtain ⟨q3, q4, q5⟩ := of_decide_eq_true q1
  have ei : (ii (i : Int)).toInt = (i : Int) := ii_toInt (by omega)
  have e1 := zab_ly h.1 (p := Q) (n := n) (t := 22) (i := ii (i : Int)) (by omega) q5 (.inr rfl) (by rw [ei]; omega)
  have e2 := zsb_ly h.1 (p := P) (n := n) (t := 22) (i := ii (i : Int)) (x := ii (t Q i)) (by omega) p4 (.inr rfl) (by rw [ei]; omega)
  rw [ei, Int.toNat_natCast, h.2.2 Q i (q2 i)] at e1
  rw [ei, Int.toNat_natCast, if_neg (by decide), ← nbv_ii] at e2
  rw [rP h a1 a2, zb_some, rP h b1 b2, zb_some, zb_some, e1, zb_some, zb_some, e2, zb_some]
  exact next _ ⟨h.1.p, h.2.1.pI (by omega), RM_up h.2.2 _ _ _⟩
def imS0 (i : Nat) (t : ZSt) : ZSt := up (up (up (up (up (up (up (up (t) 166 i (t 134 i)) 167 i (t 135 i)) 168 i (t 136 i)) 169 i (t 137 i)) 170 i (t 138 i)) 172 i (t 159 i)) 173 i (t 160 i)) 178 i (nbv (t 161 i))
def imS1 (i : Nat) (t : ZSt) : ZSt := up (t) 171 i (t 139 i)
def imS2 (i : Nat) (t : ZSt) : ZSt := up (up (t) 174 i (t 162 i)) 175 i (t 163 i)
def imS3 (i : Nat) (t : ZSt) : ZSt := up (up (t) 176 i (t 164 i)) 177 i (t 165 i)
theorem imS0_o {i : Nat} {t : ZSt} {p : Nat} (h : p ≠ 166 ∧ p ≠ 167 ∧ p ≠ 168 ∧ p ≠ 169 ∧ p ≠ 170 ∧ p ≠ 172 ∧ p ≠ 173 ∧ p ≠ 178) : imS0 i t p = t p := by
  unfold imS0
  rw [up_fn (by omega), up_fn (by omega), up_fn (by omega), up_fn (by omega), up_fn (by omega), up_fn (by omega), up_fn (by omega), up_fn (by omega)]
theorem imS0_v {i : Nat} {t : ZSt} {k : Nat} : imS0 i t 166 k = (if k = i then t 134 i else t 166 k) ∧ imS0 i t 167 k = (if k = i then t 135 i else t 167 k) ∧ imS0 i t 168 k = (if k = i then t 136 i else t 168 k) ∧ imS0 i t 169 k = (if k = i then t 137 i else t 169 k) ∧ imS0 i t 170 k = (if k = i then t 138 i else t 170 k) ∧ imS0 i t 172 k = (if k = i then t 159 i else t 172 k) ∧ imS0 i t 173 k = (if k = i then t 160 i else t 173 k) ∧ imS0 i t 178 k = (if k = i then nbv (t 161 i) else t 178 k) := by
  unfold imS0
  by_cases c : k = i
  · subst c; simp (disch := omega) only [up_ne, up_at, if_true, and_self]
  · simp (disch := omega) only [up_ne, up_nk, if_neg c, and_self]
theorem imS1_o {i : Nat} {t : ZSt} {p : Nat} (h : p ≠ 171) : imS1 i t p = t p := by
  unfold imS1
  rw [up_fn (by omega)]
theorem imS1_v {i : Nat} {t : ZSt} {k : Nat} : imS1 i t 171 k = (if k = i then t 139 i else t 171 k) := by
  unfold imS1
  by_cases c : k = i
  · subst c; simp (disch := omega) only [up_ne, up_at, if_true, and_self]
  · simp (disch := omega) only [up_ne, up_nk, if_neg c, and_self]
theorem imS2_o {i : Nat} {t : ZSt} {p : Nat} (h : p ≠ 174 ∧ p ≠ 175) : imS2 i t p = t p := by
  unfold imS2
  rw [up_fn (by omega), up_fn (by omega)]
theorem imS2_v {i : Nat} {t : ZSt} {k : Nat} : imS2 i t 174 k = (if k = i then t 162 i else t 174 k) ∧ imS2 i t 175 k = (if k = i then t 163 i else t 175 k) := by
  unfold imS2
  by_cases c : k = i
  · subst c; simp (disch := omega) only [up_ne, up_at, if_true, and_self]
  · simp (disch := omega) only [up_ne, up_nk, if_neg c, and_self]
theorem imS3_o {i : Nat} {t : ZSt} {p : Nat} (h : p ≠ 176 ∧ p ≠ 177) : imS3 i t p = t p := by
  unfold imS3
  rw [up_fn (by omega), up_fn (by omega)]
theorem imS3_v {i : Nat} {t : ZSt} {k : Nat} : imS3 i t 176 k = (if k = i then t 164 i else t 176 k) ∧ imS3 i t 177 k = (if k = i then t 165 i else t 177 k) := by
  unfold imS3
  by_cases c : k = i
  · subst c; simp (disch := omega) only [up_ne, up_at, if_true, and_self]
  · simp (disch := omega) only [up_ne, up_nk, if_neg c, and_self]
def imF (t : ZSt) : ZSt := cpl imS3 8 0 (cpl imS2 10 0 (cpl imS1 24 0 (cpl imS0 6 0 (t))))
theorem m221_237 {M0 : ZMem} : ∀ (m z i : Nat) (M : ZMem) (t : ZSt), MS M0 M t → i + m = 8 → m < z → MG M0 (f_221_237 z M 133 (ii (i : Int))) (ii (t 133 0)) ((fun t => t) (cpl imS3 m i t)) := by
  refine lpG (st := imS3) (F := fun t => t) (n := 8) (fun w M t i hi h v s' next => ?_) (fun w M t h => ?_) (fun i t => congrFun (imS3_o (by omega)) 0)
  · rw [f_221_237, if_neg (show ¬ (8 : Int32) ≤ ii (i : Int) by rw [show (8 : Int32) = ii 8 from rfl, ii_le (by omega) (by omega)]; omega)]
    refine cpR h (jP := 66) (P := 176) (jQ := 46) (Q := 164) (n := 8) (by decide) (by decide +kernel) (by decide) (by decide +kernel) (by decide) (by decide) (fun _ => rfl) (by omega) hi fun M1 h1 => ?_
    refine cpR h1 (jP := 67) (P := 177) (jQ := 47) (Q := 165) (n := 8) (by decide) (by decide +kernel) (by decide) (by decide +kernel) (by decide) (by decide) (fun _ => rfl) (by omega) hi fun M2 h2 => ?_
    rw [ii_s1]
    refine next _ ?_
    simp (disch := omega) only [up_ne] at h2
    exact h2
  · rw [f_221_237, if_pos (by decide), rF h (j := 0) (by decide) rfl, zb_some]
    exact MG_ret h
theorem m221_199 {M0 : ZMem} : ∀ (m z i : Nat) (M : ZMem) (t : ZSt), MS M0 M t → i + m = 10 → m < z → MG M0 (f_221_199 z M 133 (ii (i : Int))) (ii (t 133 0)) ((fun t => cpl imS3 8 0 (t)) (cpl imS2 m i t)) := by
  refine lpG (st := imS2) (F := fun t => cpl imS3 8 0 (t)) (n := 10) (fun w M t i hi h v s' next => ?_) (fun w M t h => ?_) (fun i t => congrFun (imS2_o (by omega)) 0)
  · rw [f_221_199, if_neg (show ¬ (10 : Int32) ≤ ii (i : Int) by rw [show (10 : Int32) = ii 10 from rfl, ii_le (by omega) (by omega)]; omega)]
    refine cpR h (jP := 64) (P := 174) (jQ := 44) (Q := 162) (n := 10) (by decide) (by decide +kernel) (by decide) (by decide +kernel) (by decide) (by decide) (fun _ => rfl) (by omega) hi fun M1 h1 => ?_
    refine cpR h1 (jP := 65) (P := 175) (jQ := 45) (Q := 163) (n := 10) (by decide) (by decide +kernel) (by decide) (by decide +kernel) (by decide) (by decide) (fun _ => rfl) (by omega) hi fun M2 h2 => ?_
    rw [ii_s1]
    refine next _ ?_
    simp (disch := omega) only [up_ne] at h2
    exact h2
  · rw [f_221_199, if_pos (by decide)]
    exact m221_237 8 zF 0 M t h (by omega) (by unfold zF; omega)
theorem m221_173 {M0 : ZMem} : ∀ (m z i : Nat) (M : ZMem) (t : ZSt), MS M0 M t → i + m = 24 → m < z → MG M0 (f_221_173 z M 133 (ii (i : Int))) (ii (t 133 0)) ((fun t => cpl imS3 8 0 (cpl imS2 10 0 (t))) (cpl imS1 m i t)) := by
  refine lpG (st := imS1) (F := fun t => cpl imS3 8 0 (cpl imS2 10 0 (t))) (n := 24) (fun w M t i hi h v s' next => ?_) (fun w M t h => ?_) (fun i t => congrFun (imS1_o (by omega)) 0)
  · rw [f_221_173, if_neg (show ¬ (24 : Int32) ≤ ii (i : Int) by rw [show (24 : Int32) = ii 24 from rfl, ii_le (by omega) (by omega)]; omega)]
    refine cpR h (jP := 61) (P := 171) (jQ := 8) (Q := 139) (n := 24) (by decide) (by decide +kernel) (by decide) (by decide +kernel) (by decide) (by decide) (fun _ => rfl) (by omega) hi fun M1 h1 => ?_
    rw [ii_s1]
    refine next _ ?_
    exact h1
  · rw [f_221_173, if_pos (by decide)]
    exact m221_199 10 zF 0 M t h (by omega) (by unfold zF; omega)
theorem m221_63 {M0 : ZMem} : ∀ (m z i : Nat) (M : ZMem) (t : ZSt), MS M0 M t → i + m = 6 → m < z → MG M0 (f_221_63 z M 133 (ii (i : Int))) (ii (t 133 0)) ((fun t => cpl imS3 8 0 (cpl imS2 10 0 (cpl imS1 24 0 (t)))) (cpl imS0 m i t)) := by
  refine lpG (st := imS0) (F := fun t => cpl imS3 8 0 (cpl imS2 10 0 (cpl imS1 24 0 (t)))) (n := 6) (fun w M t i hi h v s' next => ?_) (fun w M t h => ?_) (fun i t => congrFun (imS0_o (by omega)) 0)
  · rw [f_221_63, if_neg (show ¬ (6 : Int32) ≤ ii (i : Int) by rw [show (6 : Int32) = ii 6 from rfl, ii_le (by omega) (by omega)]; omega)]
    refine cpR h (jP := 56) (P := 166) (jQ := 3) (Q := 134) (n := 6) (by decide) (by decide +kernel) (by decide) (by decide +kernel) (by decide) (by decide) (fun _ => rfl) (by omega) hi fun M1 h1 => ?_
    refine cpR h1 (jP := 57) (P := 167) (jQ := 4) (Q := 135) (n := 6) (by decide) (by decide +kernel) (by decide) (by decide +kernel) (by decide) (by decide) (fun _ => rfl) (by omega) hi fun M2 h2 => ?_
    refine cpR h2 (jP := 58) (P := 168) (jQ := 5) (Q := 136) (n := 6) (by decide) (by decide +kernel) (by decide) (by decide +kernel) (by decide) (by decide) (fun _ => rfl) (by omega) hi fun M3 h3 => ?_
    refine cpR h3 (jP := 59) (P := 169) (jQ := 6) (Q := 137) (n := 6) (by decide) (by decide +kernel) (by decide) (by decide +kernel) (by decide) (by decide) (fun _ => rfl) (by omega) hi fun M4 h4 => ?_
    refine cpR h4 (jP := 60) (P := 170) (jQ := 7) (Q := 138) (n := 6) (by decide) (by decide +kernel) (by decide) (by decide +kernel) (by decide) (by decide) (fun _ => rfl) (by omega) hi fun M5 h5 => ?_
    refine cpR h5 (jP := 62) (P := 172) (jQ := 39) (Q := 159) (n := 6) (by decide) (by decide +kernel) (by decide) (by decide +kernel) (by decide) (by decide) (fun _ => rfl) (by omega) hi fun M6 h6 => ?_
    refine cpR h6 (jP := 63) (P := 173) (jQ := 40) (Q := 160) (n := 6) (by decide) (by decide +kernel) (by decide) (by decide +kernel) (by decide) (by decide) (fun _ => rfl) (by omega) hi fun M7 h7 => ?_
    refine cpB h7 (jP := 68) (P := 178) (jQ := 41) (Q := 161) (n := 6) (by decide) (by decide +kernel) (by decide) (by decide +kernel) (by decide) (by decide) (fun _ => rfl) (by omega) hi fun M8 h8 => ?_
    rw [ii_s1]
    refine next _ ?_
    simp (disch := omega) only [up_ne] at h8
    exact h8
  · rw [f_221_63, if_pos (by decide)]
    exact m221_173 24 zF 0 M t h (by omega) (by unfold zF; omega)
theorem imF_o {t : ZSt} {p : Nat} (h : p ≠ 166 ∧ p ≠ 167 ∧ p ≠ 168 ∧ p ≠ 169 ∧ p ≠ 170 ∧ p ≠ 172 ∧ p ≠ 173 ∧ p ≠ 178 ∧ p ≠ 171 ∧ p ≠ 174 ∧ p ≠ 175 ∧ p ≠ 176 ∧ p ≠ 177) : imF t p = t p := by
  unfold imF
  rw [cpl_o (fun i t => imS3_o (by omega)), cpl_o (fun i t => imS2_o (by omega)), cpl_o (fun i t => imS1_o (by omega)), cpl_o (fun i t => imS0_o (by omega))]
theorem imF_166 {t : ZSt} {k : Nat} (h : k < 6) : imF t 166 k = t 134 k := by
  unfold imF
  rw [cpl_o (p := 166) (fun i t => imS3_o (by omega)), cpl_o (p := 166) (fun i t => imS2_o (by omega)), cpl_o (p := 166) (fun i t => imS1_o (by omega))]
  refine ((cpl_v (st := imS0) (P := 166) (Q := 134) (g := fun z => z) (fun i t k => imS0_v.1) (fun i t => imS0_o (by omega)) 6 0 _).1 k (by omega) (by omega)).trans ?_
  rfl
theorem imF_167 {t : ZSt} {k : Nat} (h : k < 6) : imF t 167 k = t 135 k := by
  unfold imF
  rw [cpl_o (p := 167) (fun i t => imS3_o (by omega)), cpl_o (p := 167) (fun i t => imS2_o (by omega)), cpl_o (p := 167) (fun i t => imS1_o (by omega))]
  refine ((cpl_v (st := imS0) (P := 167) (Q := 135) (g := fun z => z) (fun i t k => imS0_v.2.1) (fun i t => imS0_o (by omega)) 6 0 _).1 k (by omega) (by omega)).trans ?_
  rfl
theorem imF_168 {t : ZSt} {k : Nat} (h : k < 6) : imF t 168 k = t 136 k := by
  unfold imF
  rw [cpl_o (p := 168) (fun i t => imS3_o (by omega)), cpl_o (p := 168) (fun i t => imS2_o (by omega)), cpl_o (p := 168) (fun i t => imS1_o (by omega))]
  refine ((cpl_v (st := imS0) (P := 168) (Q := 136) (g := fun z => z) (fun i t k => imS0_v.2.2.1) (fun i t => imS0_o (by omega)) 6 0 _).1 k (by omega) (by omega)).trans ?_
  rfl
theorem imF_169 {t : ZSt} {k : Nat} (h : k < 6) : imF t 169 k = t 137 k := by
  unfold imF
  rw [cpl_o (p := 169) (fun i t => imS3_o (by omega)), cpl_o (p := 169) (fun i t => imS2_o (by omega)), cpl_o (p := 169) (fun i t => imS1_o (by omega))]
  refine ((cpl_v (st := imS0) (P := 169) (Q := 137) (g := fun z => z) (fun i t k => imS0_v.2.2.2.1) (fun i t => imS0_o (by omega)) 6 0 _).1 k (by omega) (by omega)).trans ?_
  rfl
theorem imF_170 {t : ZSt} {k : Nat} (h : k < 6) : imF t 170 k = t 138 k := by
  unfold imF
  rw [cpl_o (p := 170) (fun i t => imS3_o (by omega)), cpl_o (p := 170) (fun i t => imS2_o (by omega)), cpl_o (p := 170) (fun i t => imS1_o (by omega))]
  refine ((cpl_v (st := imS0) (P := 170) (Q := 138) (g := fun z => z) (fun i t k => imS0_v.2.2.2.2.1) (fun i t => imS0_o (by omega)) 6 0 _).1 k (by omega) (by omega)).trans ?_
  rfl
theorem imF_172 {t : ZSt} {k : Nat} (h : k < 6) : imF t 172 k = t 159 k := by
  unfold imF
  rw [cpl_o (p := 172) (fun i t => imS3_o (by omega)), cpl_o (p := 172) (fun i t => imS2_o (by omega)), cpl_o (p := 172) (fun i t => imS1_o (by omega))]
  refine ((cpl_v (st := imS0) (P := 172) (Q := 159) (g := fun z => z) (fun i t k => imS0_v.2.2.2.2.2.1) (fun i t => imS0_o (by omega)) 6 0 _).1 k (by omega) (by omega)).trans ?_
  rfl
theorem imF_173 {t : ZSt} {k : Nat} (h : k < 6) : imF t 173 k = t 160 k := by
  unfold imF
  rw [cpl_o (p := 173) (fun i t => imS3_o (by omega)), cpl_o (p := 173) (fun i t => imS2_o (by omega)), cpl_o (p := 173) (fun i t => imS1_o (by omega))]
  refine ((cpl_v (st := imS0) (P := 173) (Q := 160) (g := fun z => z) (fun i t k => imS0_v.2.2.2.2.2.2.1) (fun i t => imS0_o (by omega)) 6 0 _).1 k (by omega) (by omega)).trans ?_
  rfl
theorem imF_178 {t : ZSt} {k : Nat} (h : k < 6) : imF t 178 k = nbv (t 161 k) := by
  unfold imF
  rw [cpl_o (p := 178) (fun i t => imS3_o (by omega)), cpl_o (p := 178) (fun i t => imS2_o (by omega)), cpl_o (p := 178) (fun i t => imS1_o (by omega))]
  refine ((cpl_v (st := imS0) (P := 178) (Q := 161) (g := nbv) (fun i t k => imS0_v.2.2.2.2.2.2.2) (fun i t => imS0_o (by omega)) 6 0 _).1 k (by omega) (by omega)).trans ?_
  rfl
theorem imF_171 {t : ZSt} {k : Nat} (h : k < 24) : imF t 171 k = t 139 k := by
  unfold imF
  rw [cpl_o (p := 171) (fun i t => imS3_o (by omega)), cpl_o (p := 171) (fun i t => imS2_o (by omega))]
  refine ((cpl_v (st := imS1) (P := 171) (Q := 139) (g := fun z => z) (fun i t k => imS1_v) (fun i t => imS1_o (by omega)) 24 0 _).1 k (by omega) (by omega)).trans ?_
  show (cpl imS0 6 0 (t)) 139 k = _
  rw [cpl_o (p := 139) (fun i t => imS0_o (by omega))]
theorem imF_174 {t : ZSt} {k : Nat} (h : k < 10) : imF t 174 k = t 162 k := by
  unfold imF
  rw [cpl_o (p := 174) (fun i t => imS3_o (by omega))]
  refine ((cpl_v (st := imS2) (P := 174) (Q := 162) (g := fun z => z) (fun i t k => imS2_v.1) (fun i t => imS2_o (by omega)) 10 0 _).1 k (by omega) (by omega)).trans ?_
  show (cpl imS1 24 0 (cpl imS0 6 0 (t))) 162 k = _
  rw [cpl_o (p := 162) (fun i t => imS1_o (by omega)), cpl_o (p := 162) (fun i t => imS0_o (by omega))]
theorem imF_175 {t : ZSt} {k : Nat} (h : k < 10) : imF t 175 k = t 163 k := by
  unfold imF
  rw [cpl_o (p := 175) (fun i t => imS3_o (by omega))]
  refine ((cpl_v (st := imS2) (P := 175) (Q := 163) (g := fun z => z) (fun i t k => imS2_v.2) (fun i t => imS2_o (by omega)) 10 0 _).1 k (by omega) (by omega)).trans ?_
  show (cpl imS1 24 0 (cpl imS0 6 0 (t))) 163 k = _
  rw [cpl_o (p := 163) (fun i t => imS1_o (by omega)), cpl_o (p := 163) (fun i t => imS0_o (by omega))]
theorem imF_176 {t : ZSt} {k : Nat} (h : k < 8) : imF t 176 k = t 164 k := by
  unfold imF
  refine ((cpl_v (st := imS3) (P := 176) (Q := 164) (g := fun z => z) (fun i t k => imS3_v.1) (fun i t => imS3_o (by omega)) 8 0 _).1 k (by omega) (by omega)).trans ?_
  show (cpl imS2 10 0 (cpl imS1 24 0 (cpl imS0 6 0 (t)))) 164 k = _
  rw [cpl_o (p := 164) (fun i t => imS2_o (by omega)), cpl_o (p := 164) (fun i t => imS1_o (by omega)), cpl_o (p := 164) (fun i t => imS0_o (by omega))]
theorem imF_177 {t : ZSt} {k : Nat} (h : k < 8) : imF t 177 k = t 165 k := by
  unfold imF
  refine ((cpl_v (st := imS3) (P := 177) (Q := 165) (g := fun z => z) (fun i t k => imS3_v.2) (fun i t => imS3_o (by omega)) 8 0 _).1 k (by omega) (by omega)).trans ?_
  show (cpl imS2 10 0 (cpl imS1 24 0 (cpl imS0 6 0 (t)))) 165 k = _
  rw [cpl_o (p := 165) (fun i t => imS2_o (by omega)), cpl_o (p := 165) (fun i t => imS1_o (by omega)), cpl_o (p := 165) (fun i t => imS0_o (by omega))]
def unS0 (i : Nat) (t : ZSt) : ZSt := up (up (up (up (up (up (up (up (t) 134 i (t 166 i)) 135 i (t 167 i)) 136 i (t 168 i)) 137 i (t 169 i)) 138 i (t 170 i)) 159 i (t 172 i)) 160 i (t 173 i)) 161 i (nbv (t 178 i))
def unS1 (i : Nat) (t : ZSt) : ZSt := up (t) 139 i (t 171 i)
def unS2 (i : Nat) (t : ZSt) : ZSt := up (up (t) 162 i (t 174 i)) 163 i (t 175 i)
def unS3 (i : Nat) (t : ZSt) : ZSt := up (up (t) 164 i (t 176 i)) 165 i (t 177 i)
theorem unS0_o {i : Nat} {t : ZSt} {p : Nat} (h : p ≠ 134 ∧ p ≠ 135 ∧ p ≠ 136 ∧ p ≠ 137 ∧ p ≠ 138 ∧ p ≠ 159 ∧ p ≠ 160 ∧ p ≠ 161) : unS0 i t p = t p := by
  unfold unS0
  rw [up_fn (by omega), up_fn (by omega), up_fn (by omega), up_fn (by omega), up_fn (by omega), up_fn (by omega), up_fn (by omega), up_fn (by omega)]
theorem unS0_v {i : Nat} {t : ZSt} {k : Nat} : unS0 i t 134 k = (if k = i then t 166 i else t 134 k) ∧ unS0 i t 135 k = (if k = i then t 167 i else t 135 k) ∧ unS0 i t 136 k = (if k = i then t 168 i else t 136 k) ∧ unS0 i t 137 k = (if k = i then t 169 i else t 137 k) ∧ unS0 i t 138 k = (if k = i then t 170 i else t 138 k) ∧ unS0 i t 159 k = (if k = i then t 172 i else t 159 k) ∧ unS0 i t 160 k = (if k = i then t 173 i else t 160 k) ∧ unS0 i t 161 k = (if k = i then nbv (t 178 i) else t 161 k) := by
  unfold unS0
  by_cases c : k = i
  · subst c; simp (disch := omega) only [up_ne, up_at, if_true, and_self]
  · simp (disch := omega) only [up_ne, up_nk, if_neg c, and_self]
theorem unS1_o {i : Nat} {t : ZSt} {p : Nat} (h : p ≠ 139) : unS1 i t p = t p := by
  unfold unS1
  rw [up_fn (by omega)]
theorem unS1_v {i : Nat} {t : ZSt} {k : Nat} : unS1 i t 139 k = (if k = i then t 171 i else t 139 k) := by
  unfold unS1
  by_cases c : k = i
  · subst c; simp (disch := omega) only [up_ne, up_at, if_true, and_self]
  · simp (disch := omega) only [up_ne, up_nk, if_neg c, and_self]
theorem unS2_o {i : Nat} {t : ZSt} {p : Nat} (h : p ≠ 162 ∧ p ≠ 163) : unS2 i t p = t p := by
  unfold unS2
  rw [up_fn (by omega), up_fn (by omega)]
theorem unS2_v {i : Nat} {t : ZSt} {k : Nat} : unS2 i t 162 k = (if k = i then t 174 i else t 162 k) ∧ unS2 i t 163 k = (if k = i then t 175 i else t 163 k) := by
  unfold unS2
  by_cases c : k = i
  · subst c; simp (disch := omega) only [up_ne, up_at, if_true, and_self]
  · simp (disch := omega) only [up_ne, up_nk, if_neg c, and_self]
theorem unS3_o {i : Nat} {t : ZSt} {p : Nat} (h : p ≠ 164 ∧ p ≠ 165) : unS3 i t p = t p := by
  unfold unS3
  rw [up_fn (by omega), up_fn (by omega)]
theorem unS3_v {i : Nat} {t : ZSt} {k : Nat} : unS3 i t 164 k = (if k = i then t 176 i else t 164 k) ∧ unS3 i t 165 k = (if k = i then t 177 i else t 165 k) := by
  unfold unS3
  by_cases c : k = i
  · subst c; simp (disch := omega) only [up_ne, up_at, if_true, and_self]
  · simp (disch := omega) only [up_ne, up_nk, if_neg c, and_self]
def unF (t : ZSt) : ZSt := cpl unS3 8 0 (cpl unS2 10 0 (cpl unS1 24 0 (cpl unS0 6 0 (t))))
theorem m222_242 {M0 : ZMem} : ∀ (m z i : Nat) (M : ZMem) (t : ZSt), MS M0 M t → i + m = 8 → m < z → MG M0 (f_222_242 z M 133 (ii (i : Int))) (ii (t 133 0)) ((fun t => t) (cpl unS3 m i t)) := by
  refine lpG (st := unS3) (F := fun t => t) (n := 8) (fun w M t i hi h v s' next => ?_) (fun w M t h => ?_) (fun i t => congrFun (unS3_o (by omega)) 0)
  · rw [f_222_242, if_neg (show ¬ (8 : Int32) ≤ ii (i : Int) by rw [show (8 : Int32) = ii 8 from rfl, ii_le (by omega) (by omega)]; omega)]
    refine cpR h (jP := 46) (P := 164) (jQ := 66) (Q := 176) (n := 8) (by decide) (by decide +kernel) (by decide) (by decide +kernel) (by decide) (by decide) (fun _ => rfl) (by omega) hi fun M1 h1 => ?_
    refine cpR h1 (jP := 47) (P := 165) (jQ := 67) (Q := 177) (n := 8) (by decide) (by decide +kernel) (by decide) (by decide +kernel) (by decide) (by decide) (fun _ => rfl) (by omega) hi fun M2 h2 => ?_
    rw [ii_s1]
    refine next _ ?_
    simp (disch := omega) only [up_ne] at h2
    exact h2
  · rw [f_222_242, if_pos (by decide), rF h (j := 0) (by decide) rfl, zb_some]
    exact MG_ret h
theorem m222_204 {M0 : ZMem} : ∀ (m z i : Nat) (M : ZMem) (t : ZSt), MS M0 M t → i + m = 10 → m < z → MG M0 (f_222_204 z M 133 (ii (i : Int))) (ii (t 133 0)) ((fun t => cpl unS3 8 0 (t)) (cpl unS2 m i t)) := by
  refine lpG (st := unS2) (F := fun t => cpl unS3 8 0 (t)) (n := 10) (fun w M t i hi h v s' next => ?_) (fun w M t h => ?_) (fun i t => congrFun (unS2_o (by omega)) 0)
  · rw [f_222_204, if_neg (show ¬ (10 : Int32) ≤ ii (i : Int) by rw [show (10 : Int32) = ii 10 from rfl, ii_le (by omega) (by omega)]; omega)]
    refine cpR h (jP := 44) (P := 162) (jQ := 64) (Q := 174) (n := 10) (by decide) (by decide +kernel) (by decide) (by decide +kernel) (by decide) (by decide) (fun _ => rfl) (by omega) hi fun M1 h1 => ?_
    refine cpR h1 (jP := 45) (P := 163) (jQ := 65) (Q := 175) (n := 10) (by decide) (by decide +kernel) (by decide) (by decide +kernel) (by decide) (by decide) (fun _ => rfl) (by omega) hi fun M2 h2 => ?_
    rw [ii_s1]
    refine next _ ?_
    simp (disch := omega) only [up_ne] at h2
    exact h2
  · rw [f_222_204, if_pos (by decide)]
    exact m222_242 8 zF 0 M t h (by omega) (by unfold zF; omega)
theorem m222_178 {M0 : ZMem} : ∀ (m z i : Nat) (M : ZMem) (t : ZSt), MS M0 M t → i + m = 24 → m < z → MG M0 (f_222_178 z M 133 (ii (i : Int))) (ii (t 133 0)) ((fun t => cpl unS3 8 0 (cpl unS2 10 0 (t))) (cpl unS1 m i t)) := by
  refine lpG (st := unS1) (F := fun t => cpl unS3 8 0 (cpl unS2 10 0 (t))) (n := 24) (fun w M t i hi h v s' next => ?_) (fun w M t h => ?_) (fun i t => congrFun (unS1_o (by omega)) 0)
  · rw [f_222_178, if_neg (show ¬ (24 : Int32) ≤ ii (i : Int) by rw [show (24 : Int32) = ii 24 from rfl, ii_le (by omega) (by omega)]; omega)]
    refine cpR h (jP := 8) (P := 139) (jQ := 61) (Q := 171) (n := 24) (by decide) (by decide +kernel) (by decide) (by decide +kernel) (by decide) (by decide) (fun _ => rfl) (by omega) hi fun M1 h1 => ?_
    rw [ii_s1]
    refine next _ ?_
    exact h1
  · rw [f_222_178, if_pos (by decide)]
    exact m222_204 10 zF 0 M t h (by omega) (by unfold zF; omega)
theorem m222_68 {M0 : ZMem} : ∀ (m z i : Nat) (M : ZMem) (t : ZSt), MS M0 M t → i + m = 6 → m < z → MG M0 (f_222_68 z M 133 (ii (i : Int))) (ii (t 133 0)) ((fun t => cpl unS3 8 0 (cpl unS2 10 0 (cpl unS1 24 0 (t)))) (cpl unS0 m i t)) := by
  refine lpG (st := unS0) (F := fun t => cpl unS3 8 0 (cpl unS2 10 0 (cpl unS1 24 0 (t)))) (n := 6) (fun w M t i hi h v s' next => ?_) (fun w M t h => ?_) (fun i t => congrFun (unS0_o (by omega)) 0)
  · rw [f_222_68, if_neg (show ¬ (6 : Int32) ≤ ii (i : Int) by rw [show (6 : Int32) = ii 6 from rfl, ii_le (by omega) (by omega)]; omega)]
    refine cpR h (jP := 3) (P := 134) (jQ := 56) (Q := 166) (n := 6) (by decide) (by decide +kernel) (by decide) (by decide +kernel) (by decide) (by decide) (fun _ => rfl) (by omega) hi fun M1 h1 => ?_
    refine cpR h1 (jP := 4) (P := 135) (jQ := 57) (Q := 167) (n := 6) (by decide) (by decide +kernel) (by decide) (by decide +kernel) (by decide) (by decide) (fun _ => rfl) (by omega) hi fun M2 h2 => ?_
    refine cpR h2 (jP := 5) (P := 136) (jQ := 58) (Q := 168) (n := 6) (by decide) (by decide +kernel) (by decide) (by decide +kernel) (by decide) (by decide) (fun _ => rfl) (by omega) hi fun M3 h3 => ?_
    refine cpR h3 (jP := 6) (P := 137) (jQ := 59) (Q := 169) (n := 6) (by decide) (by decide +kernel) (by decide) (by decide +kernel) (by decide) (by decide) (fun _ => rfl) (by omega) hi fun M4 h4 => ?_
    refine cpR h4 (jP := 7) (P := 138) (jQ := 60) (Q := 170) (n := 6) (by decide) (by decide +kernel) (by decide) (by decide +kernel) (by decide) (by decide) (fun _ => rfl) (by omega) hi fun M5 h5 => ?_
    refine cpR h5 (jP := 39) (P := 159) (jQ := 62) (Q := 172) (n := 6) (by decide) (by decide +kernel) (by decide) (by decide +kernel) (by decide) (by decide) (fun _ => rfl) (by omega) hi fun M6 h6 => ?_
    refine cpR h6 (jP := 40) (P := 160) (jQ := 63) (Q := 173) (n := 6) (by decide) (by decide +kernel) (by decide) (by decide +kernel) (by decide) (by decide) (fun _ => rfl) (by omega) hi fun M7 h7 => ?_
    refine cpB h7 (jP := 41) (P := 161) (jQ := 68) (Q := 178) (n := 6) (by decide) (by decide +kernel) (by decide) (by decide +kernel) (by decide) (by decide) (fun _ => rfl) (by omega) hi fun M8 h8 => ?_
    rw [ii_s1]
    refine next _ ?_
    simp (disch := omega) only [up_ne] at h8
    exact h8
  · rw [f_222_68, if_pos (by decide)]
    exact m222_178 24 zF 0 M t h (by omega) (by unfold zF; omega)
theorem unF_o {t : ZSt} {p : Nat} (h : p ≠ 134 ∧ p ≠ 135 ∧ p ≠ 136 ∧ p ≠ 137 ∧ p ≠ 138 ∧ p ≠ 159 ∧ p ≠ 160 ∧ p ≠ 161 ∧ p ≠ 139 ∧ p ≠ 162 ∧ p ≠ 163 ∧ p ≠ 164 ∧ p ≠ 165) : unF t p = t p := by
  unfold unF
  rw [cpl_o (fun i t => unS3_o (by omega)), cpl_o (fun i t => unS2_o (by omega)), cpl_o (fun i t => unS1_o (by omega)), cpl_o (fun i t => unS0_o (by omega))]
theorem unF_134 {t : ZSt} {k : Nat} (h : k < 6) : unF t 134 k = t 166 k := by
  unfold unF
  rw [cpl_o (p := 134) (fun i t => unS3_o (by omega)), cpl_o (p := 134) (fun i t => unS2_o (by omega)), cpl_o (p := 134) (fun i t => unS1_o (by omega))]
  refine ((cpl_v (st := unS0) (P := 134) (Q := 166) (g := fun z => z) (fun i t k => unS0_v.1) (fun i t => unS0_o (by omega)) 6 0 _).1 k (by omega) (by omega)).trans ?_
  rfl
theorem unF_135 {t : ZSt} {k : Nat} (h : k < 6) : unF t 135 k = t 167 k := by
  unfold unF
  rw [cpl_o (p := 135) (fun i t => unS3_o (by omega)), cpl_o (p := 135) (fun i t => unS2_o (by omega)), cpl_o (p := 135) (fun i t => unS1_o (by omega))]
  refine ((cpl_v (st := unS0) (P := 135) (Q := 167) (g := fun z => z) (fun i t k => unS0_v.2.1) (fun i t => unS0_o (by omega)) 6 0 _).1 k (by omega) (by omega)).trans ?_
  rfl
theorem unF_136 {t : ZSt} {k : Nat} (h : k < 6) : unF t 136 k = t 168 k := by
  unfold unF
  rw [cpl_o (p := 136) (fun i t => unS3_o (by omega)), cpl_o (p := 136) (fun i t => unS2_o (by omega)), cpl_o (p := 136) (fun i t => unS1_o (by omega))]
  refine ((cpl_v (st := unS0) (P := 136) (Q := 168) (g := fun z => z) (fun i t k => unS0_v.2.2.1) (fun i t => unS0_o (by omega)) 6 0 _).1 k (by omega) (by omega)).trans ?_
  rfl
theorem unF_137 {t : ZSt} {k : Nat} (h : k < 6) : unF t 137 k = t 169 k := by
  unfold unF
  rw [cpl_o (p := 137) (fun i t => unS3_o (by omega)), cpl_o (p := 137) (fun i t => unS2_o (by omega)), cpl_o (p := 137) (fun i t => unS1_o (by omega))]
  refine ((cpl_v (st := unS0) (P := 137) (Q := 169) (g := fun z => z) (fun i t k => unS0_v.2.2.2.1) (fun i t => unS0_o (by omega)) 6 0 _).1 k (by omega) (by omega)).trans ?_
  rfl
theorem unF_138 {t : ZSt} {k : Nat} (h : k < 6) : unF t 138 k = t 170 k := by
  unfold unF
  rw [cpl_o (p := 138) (fun i t => unS3_o (by omega)), cpl_o (p := 138) (fun i t => unS2_o (by omega)), cpl_o (p := 138) (fun i t => unS1_o (by omega))]
  refine ((cpl_v (st := unS0) (P := 138) (Q := 170) (g := fun z => z) (fun i t k => unS0_v.2.2.2.2.1) (fun i t => unS0_o (by omega)) 6 0 _).1 k (by omega) (by omega)).trans ?_
  rfl
theorem unF_159 {t : ZSt} {k : Nat} (h : k < 6) : unF t 159 k = t 172 k := by
  unfold unF
  rw [cpl_o (p := 159) (fun i t => unS3_o (by omega)), cpl_o (p := 159) (fun i t => unS2_o (by omega)), cpl_o (p := 159) (fun i t => unS1_o (by omega))]
  refine ((cpl_v (st := unS0) (P := 159) (Q := 172) (g := fun z => z) (fun i t k => unS0_v.2.2.2.2.2.1) (fun i t => unS0_o (by omega)) 6 0 _).1 k (by omega) (by omega)).trans ?_
  rfl
theorem unF_160 {t : ZSt} {k : Nat} (h : k < 6) : unF t 160 k = t 173 k := by
  unfold unF
  rw [cpl_o (p := 160) (fun i t => unS3_o (by omega)), cpl_o (p := 160) (fun i t => unS2_o (by omega)), cpl_o (p := 160) (fun i t => unS1_o (by omega))]
  refine ((cpl_v (st := unS0) (P := 160) (Q := 173) (g := fun z => z) (fun i t k => unS0_v.2.2.2.2.2.2.1) (fun i t => unS0_o (by omega)) 6 0 _).1 k (by omega) (by omega)).trans ?_
  rfl
theorem unF_161 {t : ZSt} {k : Nat} (h : k < 6) : unF t 161 k = nbv (t 178 k) := by
  unfold unF
  rw [cpl_o (p := 161) (fun i t => unS3_o (by omega)), cpl_o (p := 161) (fun i t => unS2_o (by omega)), cpl_o (p := 161) (fun i t => unS1_o (by omega))]
  refine ((cpl_v (st := unS0) (P := 161) (Q := 178) (g := nbv) (fun i t k => unS0_v.2.2.2.2.2.2.2) (fun i t => unS0_o (by omega)) 6 0 _).1 k (by omega) (by omega)).trans ?_
  rfl
theorem unF_139 {t : ZSt} {k : Nat} (h : k < 24) : unF t 139 k = t 171 k := by
  unfold unF
  rw [cpl_o (p := 139) (fun i t => unS3_o (by omega)), cpl_o (p := 139) (fun i t => unS2_o (by omega))]
  refine ((cpl_v (st := unS1) (P := 139) (Q := 171) (g := fun z => z) (fun i t k => unS1_v) (fun i t => unS1_o (by omega)) 24 0 _).1 k (by omega) (by omega)).trans ?_
  show (cpl unS0 6 0 (t)) 171 k = _
  rw [cpl_o (p := 171) (fun i t => unS0_o (by omega))]
theorem unF_162 {t : ZSt} {k : Nat} (h : k < 10) : unF t 162 k = t 174 k := by
  unfold unF
  rw [cpl_o (p := 162) (fun i t => unS3_o (by omega))]
  refine ((cpl_v (st := unS2) (P := 162) (Q := 174) (g := fun z => z) (fun i t k => unS2_v.1) (fun i t => unS2_o (by omega)) 10 0 _).1 k (by omega) (by omega)).trans ?_
  show (cpl unS1 24 0 (cpl unS0 6 0 (t))) 174 k = _
  rw [cpl_o (p := 174) (fun i t => unS1_o (by omega)), cpl_o (p := 174) (fun i t => unS0_o (by omega))]
theorem unF_163 {t : ZSt} {k : Nat} (h : k < 10) : unF t 163 k = t 175 k := by
  unfold unF
  rw [cpl_o (p := 163) (fun i t => unS3_o (by omega))]
  refine ((cpl_v (st := unS2) (P := 163) (Q := 175) (g := fun z => z) (fun i t k => unS2_v.2) (fun i t => unS2_o (by omega)) 10 0 _).1 k (by omega) (by omega)).trans ?_
  show (cpl unS1 24 0 (cpl unS0 6 0 (t))) 175 k = _
  rw [cpl_o (p := 175) (fun i t => unS1_o (by omega)), cpl_o (p := 175) (fun i t => unS0_o (by omega))]
theorem unF_164 {t : ZSt} {k : Nat} (h : k < 8) : unF t 164 k = t 176 k := by
  unfold unF
  refine ((cpl_v (st := unS3) (P := 164) (Q := 176) (g := fun z => z) (fun i t k => unS3_v.1) (fun i t => unS3_o (by omega)) 8 0 _).1 k (by omega) (by omega)).trans ?_
  show (cpl unS2 10 0 (cpl unS1 24 0 (cpl unS0 6 0 (t)))) 176 k = _
  rw [cpl_o (p := 176) (fun i t => unS2_o (by omega)), cpl_o (p := 176) (fun i t => unS1_o (by omega)), cpl_o (p := 176) (fun i t => unS0_o (by omega))]
theorem unF_165 {t : ZSt} {k : Nat} (h : k < 8) : unF t 165 k = t 177 k := by
  unfold unF
  refine ((cpl_v (st := unS3) (P := 165) (Q := 177) (g := fun z => z) (fun i t k => unS3_v.2) (fun i t => unS3_o (by omega)) 8 0 _).1 k (by omega) (by omega)).trans ?_
  show (cpl unS2 10 0 (cpl unS1 24 0 (cpl unS0 6 0 (t)))) 177 k = _
  rw [cpl_o (p := 177) (fun i t => unS2_o (by omega)), cpl_o (p := 177) (fun i t => unS1_o (by omega)), cpl_o (p := 177) (fun i t => unS0_o (by omega))]
theorem nb1 : narrow .boolean (.int (ii 1)) = .int (ii 1) := by
  have := nb01 True
  rw [if_pos trivial] at this
  exact this
theorem wF48 {M0 M : ZMem} {s : ZSt} (h : MS M0 M s) : MV M0 (zpf M 12 48 133 (.int (ii 1)) false) (up s 133 48 1) := by
  rw [zpf_ly h.1 k133 (t := 12) (j := 48) ⟨by decide, by decide, by decide, by decide⟩ (by
    rw [show zty 12 48 = .boolean by decide]
    exact ⟨nb1, rfl⟩)]
  exact ⟨_, rfl, h.1.p, h.2.1.pI (by omega), RM_up h.2.2 _ _ _⟩
def imT (s : ZSt) : ZSt := up (up (up (up (up (up (up (up s 133 48 1) 133 49 (s 133 10)) 133 50 (s 133 0)) 133 51 (s 133 1)) 133 52 (s 133 2)) 133 53 (s 133 38)) 133 54 (s 133 42)) 133 55 (s 133 43)
def imX (s : ZSt) : ZSt := imF (imT s)
theorem m221 {M0 M : ZMem} {s : ZSt} (h : MS M0 M s) : MG M0 (f_221 M 133) (ii (s 133 0)) (imX s) := by
  unfold f_221
  rw [if_pos (zok_ly h.1 k133), show (1 : Int32) = ii 1 from rfl]
  refine MG_bv (wF48 h) fun M0' h0 => ?_
  refine MG_eq (rFx h0 (j := 10) (x := s 133 10) (by decide) rfl (by simp (disch := omega) only [up_nk])) ?_
  refine MG_bv (wF h0 (by decide) (by decide) (by decide)) fun M1 h1 => ?_
  refine MG_eq (rFx h1 (j := 0) (x := s 133 0) (by decide) rfl (by simp (disch := omega) only [up_nk])) ?_
  refine MG_bv (wF h1 (by decide) (by decide) (by decide)) fun M2 h2 => ?_
  refine MG_eq (rFx h2 (j := 1) (x := s 133 1) (by decide) rfl (by simp (disch := omega) only [up_nk])) ?_
  refine MG_bv (wF h2 (by decide) (by decide) (by decide)) fun M3 h3 => ?_
  refine MG_eq (rFx h3 (j := 2) (x := s 133 2) (by decide) rfl (by simp (disch := omega) only [up_nk])) ?_
  refine MG_bv (wF h3 (by decide) (by decide) (by decide)) fun M4 h4 => ?_
  refine MG_eq (rFx h4 (j := 38) (x := s 133 38) (by decide) rfl (by simp (disch := omega) only [up_nk])) ?_
  refine MG_bv (wF h4 (by decide) (by decide) (by decide)) fun M5 h5 => ?_
  refine MG_eq (rFx h5 (j := 42) (x := s 133 42) (by decide) rfl (by simp (disch := omega) only [up_nk])) ?_
  refine MG_bv (wF h5 (by decide) (by decide) (by decide)) fun M6 h6 => ?_
  refine MG_eq (rFx h6 (j := 43) (x := s 133 43) (by decide) rfl (by simp (disch := omega) only [up_nk])) ?_
  refine MG_bv (wF h6 (by decide) (by decide) (by decide)) fun M7 h7 => ?_
  have e := m221_63 6 zF 0 _ _ h7 (by omega) (by unfold zF; omega)
  rw [show (up (up (up (up (up (up (up (up s 133 48 1) 133 49 (s 133 10)) 133 50 (s 133 0)) 133 51 (s 133 1)) 133 52 (s 133 2)) 133 53 (s 133 38)) 133 54 (s 133 42)) 133 55 (s 133 43)) 133 0 = s 133 0 by simp (disch := omega) only [up_nk]] at e
  exact e
def unT (s : ZSt) : ZSt := up (up (up (up (up (up (up (s) 133 10 (s 133 49)) 133 0 (s 133 50)) 133 1 (s 133 51)) 133 2 (s 133 52)) 133 38 (s 133 53)) 133 42 (s 133 54)) 133 43 (s 133 55)
def unX (s : ZSt) : ZSt := unF (unT s)
def sp127 (s : ZSt) : Int × ZSt := if s 133 48 = 0 then (-3, s) else (s 133 50, unX s)
theorem m222 {M0 M : ZMem} {s : ZSt} (h : MS M0 M s) (h48 : s 133 48 = 0 ∨ s 133 48 = 1) : MG M0 (f_222 M 133) (ii (sp127 s).1) (sp127 s).2 := by
  unfold f_222 sp127
  rw [if_pos (zok_ly h.1 k133), rF h (j := 48) (by decide) rfl, zb_some]
  by_cases c : s 133 48 = 0
  · rw [if_neg (show ¬ ¬ ii (s 133 48) = 0 by rw [c]; decide), if_pos c]
    exact MG_ret h
  rw [if_pos (show ¬ ii (s 133 48) = 0 by rw [show (0 : Int32) = ii 0 from rfl, ii_eq (by omega) (by omega)]; exact c), if_neg c]
  refine MG_eq (rFx h (j := 49) (x := s 133 49) (by decide) rfl (by simp (disch := omega) only [up_nk])) ?_
  refine MG_bv (wF h (by decide) (by decide) (by decide)) fun M1 h1 => ?_
  refine MG_eq (rFx h1 (j := 50) (x := s 133 50) (by decide) rfl (by simp (disch := omega) only [up_nk])) ?_
  refine MG_bv (wF h1 (by decide) (by decide) (by decide)) fun M2 h2 => ?_
  refine MG_eq (rFx h2 (j := 51) (x := s 133 51) (by decide) rfl (by simp (disch := omega) only [up_nk])) ?_
  refine MG_bv (wF h2 (by decide) (by decide) (by decide)) fun M3 h3 => ?_
  refine MG_eq (rFx h3 (j := 52) (x := s 133 52) (by decide) rfl (by simp (disch := omega) only [up_nk])) ?_
  refine MG_bv (wF h3 (by decide) (by decide) (by decide)) fun M4 h4 => ?_
  refine MG_eq (rFx h4 (j := 53) (x := s 133 53) (by decide) rfl (by simp (disch := omega) only [up_nk])) ?_
  refine MG_bv (wF h4 (by decide) (by decide) (by decide)) fun M5 h5 => ?_
  refine MG_eq (rFx h5 (j := 54) (x := s 133 54) (by decide) rfl (by simp (disch := omega) only [up_nk])) ?_
  refine MG_bv (wF h5 (by decide) (by decide) (by decide)) fun M6 h6 => ?_
  refine MG_eq (rFx h6 (j := 55) (x := s 133 55) (by decide) rfl (by simp (disch := omega) only [up_nk])) ?_
  refine MG_bv (wF h6 (by decide) (by decide) (by decide)) fun M7 h7 => ?_
  have e := m222_68 6 zF 0 _ _ h7 (by omega) (by unfold zF; omega)
  rw [show (up (up (up (up (up (up (up (s) 133 10 (s 133 49)) 133 0 (s 133 50)) 133 1 (s 133 51)) 133 2 (s 133 52)) 133 38 (s 133 53)) 133 42 (s 133 54)) 133 43 (s 133 55)) 133 0 = s 133 50 by simp (disch := omega) only [up_nk, up_at]] at e
  exact e
