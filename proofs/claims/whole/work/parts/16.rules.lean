/-! RULES: from a frame of which some locals are known, the abstract machine comes to an end -/
def zhas (l L : List (Nat × Value)) : Prop := ∀ i v, zget L i = some v → zget l i = some v
theorem zhas_rf (l : List (Nat × Value)) : zhas l l := fun _ _ h => h
theorem zget_nil (i : Nat) : zget [] i = none := rfl
theorem zget_cons (j : Nat) (w : Value) (r : List (Nat × Value)) (i : Nat) : zget ((j, w) :: r) i = if j = i then some w else zget r i := rfl
/-- a store keeps what is elsewhere, but for a long whose second half it takes -/
theorem zget_st1 {l : List (Nat × Value)} {i j : Nat} {v w : Value} (h : zget l j = some w) (hj : j ≠ i) (hc : j + 1 = i → w.category = 1) : zget (zst1 l i v) j = some w := by
  unfold zst1
  rw [zget_cons, if_neg (fun q => hj q.symm)]
  induction l with
  | nil => cases h
  | cons a r ih =>
    obtain ⟨k, u⟩ := a
    rw [zget_cons] at h
    rw [List.filter_cons]
    by_cases hk : k = j
    · rw [if_pos hk] at h
      cases h
      have hb : (!((k, w).1 == i) && !((k, w).1 + 1 == i && (k, w).2.category == 2)) = true := by
        by_cases h1 : k + 1 = i
        · have := hc (by omega)
          simp [this, hk, hj]
        · simp [h1, hk, hj]
          omega
      rw [if_pos hb, zget_cons, if_pos hk]
    · rw [if_neg hk] at h
      split
      · rw [zget_cons, if_neg hk]; exact ih h
      · exact ih h
theorem zget_st1_self {l : List (Nat × Value)} {i : Nat} {v : Value} : zget (zst1 l i v) i = some v := by
  unfold zst1
  rw [zget_cons, if_pos rfl]
/-- the known locals behind a store, given their list: each is the new one or a known one that the store leaves -/
def zleft (L : List (Nat × Value)) (i : Nat) (v : Value) : List (Nat × Value) → Prop
  | [] => True
  | (j, w) :: r => ((j = i ∧ w = v) ∨ (j ≠ i ∧ zget L j = some w ∧ (j + 1 = i → w.category = 1))) ∧ zleft L i v r
theorem zhas_st {l L L' : List (Nat × Value)} {i : Nat} {v : Value} (h : zhas l L) (hl : zleft L i v L') : zhas (zst1 l i v) L' := by
  intro j w hj
  induction L' with
  | nil => cases hj
  | cons a r ih =>
    obtain ⟨k, u⟩ := a
    obtain ⟨h1, h2⟩ := hl
    rw [zget_cons] at hj
    split at hj
    · next e =>
      cases hj
      subst e
      rcases h1 with ⟨rfl, rfl⟩ | ⟨h3, h4, h5⟩
      · exact zget_st1_self
      · exact zget_st1 (h _ _ h4) h3 h5
    · exact ih h2 hj
/-- fewer known locals -/
def zsub (L : List (Nat × Value)) : List (Nat × Value) → Prop
  | [] => True
  | (j, w) :: r => zget L j = some w ∧ zsub L r
theorem zhas_sub {l L L' : List (Nat × Value)} (h : zhas l L) (hl : zsub L L') : zhas l L' := by
  intro j w hj
  induction L' with
  | nil => cases hj
  | cons a r ih =>
    obtain ⟨k, u⟩ := a
    obtain ⟨h1, h2⟩ := hl
    rw [zget_cons] at hj
    split at hj
    · next e => cases hj; subst e; exact h _ _ h1
    · exact ih h2 hj
theorem zrf_cat (r : Option Nat) : (zrf r).category = 1 := by cases r <;> rfl
/-- more fuel does no harm -/
theorem zr_fuel : ∀ (f : Nat) (sc : Option (Nat × (Nat → Int32))) (d k : Nat) (g : ZFr) (M : ZMem) (o : Option Value × ZMem), zr sc d f k g M = some o → ∀ f', f ≤ f' → zr sc d f' k g M = some o := by
  intro f
  induction f with
  | zero => intro sc d k g M o h; cases h
  | succ f ih =>
    intro sc d k g M o h f' hf
    obtain ⟨f1, rfl⟩ : ∃ f1, f' = f1 + 1 := ⟨f' - 1, by omega⟩
    have hf1 : f ≤ f1 := by omega
    unfold zr at h ⊢
    cases hi : zi k g.1 with
    | none => rw [hi] at h; cases h
    | some i =>
      rw [hi] at h
      simp only at h ⊢
      cases hs : zs sc d k g.1 g.2.1 g.2.2 M i with
      | some x =>
        obtain ⟨g1, M1⟩ := x
        rw [hs] at h
        exact ih _ _ _ _ _ _ h _ hf1
      | none =>
        rw [hs] at h
        simp only at h ⊢
        cases hc : zcall k i g.2.2 M with
        | none => rw [hc] at h; exact h
        | some x =>
          obtain ⟨q, as, r⟩ := x
          rw [hc] at h
          cases d with
          | zero => cases h
          | succ d' =>
            simp only at h ⊢
            cases hin : zr none d' f q (0, lv_args 0 as, []) M with
            | none => rw [hin] at h; cases h
            | some y =>
              obtain ⟨v1, M1⟩ := y
              rw [hin] at h
              rw [ih _ _ _ _ _ _ hin _ hf1]
              exact ih _ _ _ _ _ _ h _ hf1
def zgo (sc : Option (Nat × (Nat → Int32))) (d k pc : Nat) (L : List (Nat × Value)) (st : List Value) (M : ZMem) (o : Option Value × ZMem) : Prop := ∀ l, zhas l L → ∃ f, zr sc d f k (pc, l, st) M = some o
/-- a method, from its arguments -/
def zrn (d k : Nat) (as : List Value) (M : ZMem) (o : Option Value × ZMem) : Prop := ∃ f, zr none d f k (0, lv_args 0 as, []) M = some o
theorem zrn_of {d k : Nat} {as : List Value} {L : List (Nat × Value)} {M : ZMem} {o : Option Value × ZMem} (hL : lv_args 0 as = L) (h : zgo none d k 0 L [] M o) : zrn d k as M o := by
  subst hL
  exact h _ (zhas_rf _)
section ZG
variable {sc : Option (Nat × (Nat → Int32))} {d k pc : Nat} {L : List (Nat × Value)} {st : List Value} {M : ZMem} {o : Option Value × ZMem}
theorem zgo_sub {L' : List (Nat × Value)} (hl : zsub L L') (h : zgo sc d k pc L' st M o) : zgo sc d k pc L st M o := fun l hh => h l (zhas_sub hh hl)
theorem zgo_s {i : Instr} {pc' : Nat} {L' : List (Nat × Value)} {st' : List Value} {M' : ZMem} (hi : zi k pc = some i) (hs : ∀ l, zhas l L → ∃ l', zhas l' L' ∧ zs sc d k pc l st M i = some ((pc', l', st'), M')) (h : zgo sc d k pc' L' st' M' o) : zgo sc d k pc L st M o := by
  intro l hl
  obtain ⟨l', hl', e⟩ := hs l hl
  obtain ⟨f, hf⟩ := h l' hl'
  refine ⟨f + 1, ?_⟩
  unfold zr
  simp only [hi, e]
  exact hf
theorem zgo_p {i : Instr} {pc' : Nat} {st' : List Value} {M' : ZMem} (hi : zi k pc = some i) (hs : ∀ l, zs sc d k pc l st M i = some ((pc', l, st'), M')) (h : zgo sc d k pc' L st' M' o) : zgo sc d k pc L st M o := zgo_s hi (fun l hl => ⟨l, hl, hs l⟩) h
theorem zgo_r {i : Instr} {v : Option Value} (hi : zi k pc = some i) (hs : ∀ l, zs sc d k pc l st M i = none) (hc : zcall k i st M = none) (he : zend k i st = some v) (ho : o = (v, M)) : zgo sc d k pc L st M o := by
  intro l hl
  refine ⟨1, ?_⟩
  unfold zr
  simp only [hi, hs, hc, he, ho]
theorem zgo_c {i : Instr} {q : Nat} {as r : List Value} {v : Option Value} {M1 : ZMem} (hi : zi k pc = some i) (hs : ∀ l, zs sc (d + 1) k pc l st M i = none) (hc : zcall k i st M = some (q, as, r)) (hq : zrn d q as M (v, M1)) (h : zgo sc (d + 1) k (pc + 3) L (v.toList ++ r) M1 o) : zgo sc (d + 1) k pc L st M o := by
  intro l hl
  obtain ⟨f1, h1⟩ := hq
  obtain ⟨f2, h2⟩ := h l hl
  refine ⟨max f1 f2 + 1, ?_⟩
  unfold zr
  simp only [hi, hs, hc]
  rw [zr_fuel _ _ _ _ _ _ _ h1 (max f1 f2) (Nat.le_max_left _ _)]
  exact zr_fuel _ _ _ _ _ _ _ h2 (max f1 f2) (Nat.le_max_right _ _)
-- constants, locals
theorem zo_iconst {n : Int} {v : Int32} {p' : Nat} (hi : zi k pc = some (.iconst n)) (hp : pc + 1 = p') (hv : Int32.ofInt n = v) (h : zgo sc d k p' L (.int v :: st) M o) : zgo sc d k pc L st M o := by
  subst hp; subst hv; exact zgo_p hi (fun l => rfl) h
theorem zo_bipush {n : Int} {v : Int32} {p' : Nat} (hi : zi k pc = some (.bipush n)) (hp : pc + 2 = p') (hv : (Int8.ofInt n).toInt32 = v) (h : zgo sc d k p' L (.int v :: st) M o) : zgo sc d k pc L st M o := by
  subst hp; subst hv; exact zgo_p hi (fun l => rfl) h
theorem zo_sipush {n : Int} {v : Int32} {p' : Nat} (hi : zi k pc = some (.sipush n)) (hp : pc + 3 = p') (hv : (Int16.ofInt n).toInt32 = v) (h : zgo sc d k p' L (.int v :: st) M o) : zgo sc d k pc L st M o := by
  subst hp; subst hv; exact zgo_p hi (fun l => rfl) h
theorem zo_lconst {n : Fin 2} {v : Int64} {p' : Nat} (hi : zi k pc = some (.lconst n)) (hp : pc + 1 = p') (hv : Int64.ofNat (n : Nat) = v) (h : zgo sc d k p' L (.long v :: st) M o) : zgo sc d k pc L st M o := by
  subst hp; subst hv; exact zgo_p hi (fun l => rfl) h
theorem zo_ldcI {n w : Nat} {v : Int32} {p' : Nat} (hi : zi k pc = some (.ldc n)) (hp : pc + 2 = p') (hl : zlk k n = none) (hv : zki k n = some (v, w)) (h : zgo sc d k p' L (.int v :: st) M o) : zgo sc d k pc L st M o := by
  subst hp; exact zgo_p hi (fun l => by simp [zs, hl, hv]) h
theorem zo_ldcS {n a x y : Nat} {p' : Nat} (hi : zi k pc = some (.ldc n)) (hp : pc + 2 = p') (hl : zlk k n = some (9, a, x, y)) (h : zgo sc d k p' L (.ref (2 + a) :: st) M o) : zgo sc d k pc L st M o := by
  subst hp; exact zgo_p hi (fun l => by simp [zs, hl]) h
theorem zo_ldcw {n w : Nat} {v : Int32} {p' : Nat} (hi : zi k pc = some (.ldc_w n)) (hp : pc + 3 = p') (hv : zki k n = some (v, w)) (h : zgo sc d k p' L (.int v :: st) M o) : zgo sc d k pc L st M o := by
  subst hp; exact zgo_p hi (fun l => by simp [zs, hv]) h
theorem zo_ldc2 {n w : Nat} {v : Int64} {p' : Nat} (hi : zi k pc = some (.ldc2_w n)) (hp : pc + 3 = p') (hv : zkl k n = some (v, w)) (h : zgo sc d k p' L (.long v :: st) M o) : zgo sc d k pc L st M o := by
  subst hp; exact zgo_p hi (fun l => by simp [zs, hv]) h
theorem zo_null {p' : Nat} (hi : zi k pc = some .aconst_null) (hp : pc + 1 = p') (h : zgo sc d k p' L (.null :: st) M o) : zgo sc d k pc L st M o := by
  subst hp; exact zgo_p hi (fun l => rfl) h
theorem zo_iload_n {n : Fin 4} {x : Int32} {p' : Nat} (hi : zi k pc = some (.iload_n n)) (hp : pc + 1 = p') (hl : zget L n = some (.int x)) (h : zgo sc d k p' L (.int x :: st) M o) : zgo sc d k pc L st M o := by
  subst hp; exact zgo_s hi (fun l hh => ⟨l, hh, by simp [zs, hh _ _ hl]⟩) h
theorem zo_iload {n : Nat} {x : Int32} {p' : Nat} (hi : zi k pc = some (.iload n)) (hp : pc + 2 = p') (hl : zget L n = some (.int x)) (h : zgo sc d k p' L (.int x :: st) M o) : zgo sc d k pc L st M o := by
  subst hp; exact zgo_s hi (fun l hh => ⟨l, hh, by simp [zs, hh _ _ hl]⟩) h
theorem zo_lload_n {n : Fin 4} {x : Int64} {p' : Nat} (hi : zi k pc = some (.lload_n n)) (hp : pc + 1 = p') (hl : zget L n = some (.long x)) (h : zgo sc d k p' L (.long x :: st) M o) : zgo sc d k pc L st M o := by
  subst hp; exact zgo_s hi (fun l hh => ⟨l, hh, by simp [zs, hh _ _ hl]⟩) h
theorem zo_lload {n : Nat} {x : Int64} {p' : Nat} (hi : zi k pc = some (.lload n)) (hp : pc + 2 = p') (hl : zget L n = some (.long x)) (h : zgo sc d k p' L (.long x :: st) M o) : zgo sc d k pc L st M o := by
  subst hp; exact zgo_s hi (fun l hh => ⟨l, hh, by simp [zs, hh _ _ hl]⟩) h
theorem zo_aload_n {n : Fin 4} {r : Option Nat} {p' : Nat} (hi : zi k pc = some (.aload_n n)) (hp : pc + 1 = p') (hl : zget L n = some (zrf r)) (h : zgo sc d k p' L (zrf r :: st) M o) : zgo sc d k pc L st M o := by
  subst hp; exact zgo_s hi (fun l hh => ⟨l, hh, by cases r <;> simp [zs, hh _ _ hl, zrf]⟩) h
theorem zo_aload {n : Nat} {r : Option Nat} {p' : Nat} (hi : zi k pc = some (.aload n)) (hp : pc + 2 = p') (hl : zget L n = some (zrf r)) (h : zgo sc d k p' L (zrf r :: st) M o) : zgo sc d k pc L st M o := by
  subst hp; exact zgo_s hi (fun l hh => ⟨l, hh, by cases r <;> simp [zs, hh _ _ hl, zrf]⟩) h
theorem zo_istore_n {n : Fin 4} {x : Int32} {p' : Nat} {L' : List (Nat × Value)} (hi : zi k pc = some (.istore_n n)) (hp : pc + 1 = p') (hm : (n : Nat) < zml k) (hl : zleft L n (.int x) L') (h : zgo sc d k p' L' st M o) : zgo sc d k pc L (.int x :: st) M o := by
  subst hp; exact zgo_s hi (fun l hh => ⟨_, zhas_st hh hl, by simp [zs, hm]⟩) h
theorem zo_istore {n : Nat} {x : Int32} {p' : Nat} {L' : List (Nat × Value)} (hi : zi k pc = some (.istore n)) (hp : pc + 2 = p') (hm : n < zml k) (hl : zleft L n (.int x) L') (h : zgo sc d k p' L' st M o) : zgo sc d k pc L (.int x :: st) M o := by
  subst hp; exact zgo_s hi (fun l hh => ⟨_, zhas_st hh hl, by simp [zs, hm]⟩) h
theorem zo_astore_n {n : Fin 4} {r : Option Nat} {p' : Nat} {L' : List (Nat × Value)} (hi : zi k pc = some (.astore_n n)) (hp : pc + 1 = p') (hm : (n : Nat) < zml k) (hl : zleft L n (zrf r) L') (h : zgo sc d k p' L' st M o) : zgo sc d k pc L (zrf r :: st) M o := by
  subst hp; exact zgo_s hi (fun l hh => ⟨_, zhas_st hh hl, by cases r <;> simp [zs, hm, zrf]⟩) h
theorem zo_astore {n : Nat} {r : Option Nat} {p' : Nat} {L' : List (Nat × Value)} (hi : zi k pc = some (.astore n)) (hp : pc + 2 = p') (hm : n < zml k) (hl : zleft L n (zrf r) L') (h : zgo sc d k p' L' st M o) : zgo sc d k pc L (zrf r :: st) M o := by
  subst hp; exact zgo_s hi (fun l hh => ⟨_, zhas_st hh hl, by cases r <;> simp [zs, hm, zrf]⟩) h
theorem zo_iinc {n : Nat} {c : Int} {x v : Int32} {p' : Nat} {L' : List (Nat × Value)} (hi : zi k pc = some (.iinc n c)) (hp : pc + 3 = p') (hm : n < zml k) (hx : zget L n = some (.int x)) (hv : x + Int32.ofInt c = v) (hl : zleft L n (.int v) L') (h : zgo sc d k p' L' st M o) : zgo sc d k pc L st M o := by
  subst hp; subst hv; exact zgo_s hi (fun l hh => ⟨_, zhas_st hh hl, by simp [zs, hm, hh _ _ hx]⟩) h
end ZG
