/-! THE ABSTRACT MACHINE STANDS FOR THE MACHINE: addresses, cells, the world -/
/-- old addresses (places 0 .. 17), the formatter, the first address of what is made -/
abbrev ZAd : Type := (Nat → Nat) × Value × Nat
def zadr (ρ : ZAd) (k : Nat) : Nat := if k < 20 then ρ.1 k else ρ.2.2 + (k - 20)
def zcv (ρ : ZAd) (v : Value) : Value := match v with
  | .ref k => if k = 18 then ρ.2.1 else .ref (zadr ρ k)
  | v => v
def zfm (ρ : ZAd) : Prop := ρ.2.1 = .null ∨ ∃ a, ρ.2.1 = .ref a
theorem zcv_r {ρ : ZAd} (hf : zfm ρ) (k : Nat) : zcv ρ (.ref k) = .null ∨ ∃ a, zcv ρ (.ref k) = .ref a := by
  show (if k = 18 then ρ.2.1 else .ref (zadr ρ k)) = .null ∨ ∃ a, (if k = 18 then ρ.2.1 else .ref (zadr ρ k)) = .ref a
  split
  · exact hf
  · exact Or.inr ⟨_, rfl⟩
theorem zcv_ne {ρ : ZAd} {k : Nat} (h : k ≠ 18) : zcv ρ (.ref k) = .ref (zadr ρ k) := if_neg h
theorem zcv_cat {ρ : ZAd} (hf : zfm ρ) (v : Value) : (zcv ρ v).category = v.category := by
  cases v with
  | ref k => rcases zcv_r hf k with h | ⟨a, h⟩ <;> rw [h] <;> rfl
  | _ => rfl
def zcl2 (ρ : ZAd) (l : List (Nat × Value)) : List (Nat × Value) := l.map (fun q => (q.1, zcv ρ q.2))
theorem zcl2_get {ρ : ZAd} {l : List (Nat × Value)} {i : Nat} {v : Value} (h : zget l i = some v) : (i, zcv ρ v) ∈ zcl2 ρ l := by
  induction l with
  | nil => cases h
  | cons a r ih =>
    obtain ⟨j, w⟩ := a
    simp only [zget, zfind2] at h
    split at h
    · next e => subst e; cases h; exact List.mem_cons_self
    · exact List.mem_cons_of_mem _ (ih h)
theorem zcl2_st {ρ : ZAd} (hf : zfm ρ) (l : List (Nat × Value)) (i : Nat) (v : Value) : (i, zcv ρ v) :: (zcl2 ρ l).filter (fun q => !(q.1 == i) && !(q.1 + 1 == i && q.2.category == 2)) = zcl2 ρ (zst1 l i v) := by
  have h : ∀ r : List (Nat × Value), (zcl2 ρ r).filter (fun q => !(q.1 == i) && !(q.1 + 1 == i && q.2.category == 2)) = zcl2 ρ (r.filter (fun q => !(q.1 == i) && !(q.1 + 1 == i && q.2.category == 2))) := by
    intro r
    unfold zcl2
    rw [List.filter_map]
    congr 1
    refine List.filter_congr fun x _ => ?_
    simp only [Function.comp, zcv_cat hf]
  rw [h l]
  rfl
theorem zcl2_args {ρ : ZAd} (hf : zfm ρ) (vs : List Value) : ∀ i, lv_args i (vs.map (zcv ρ)) = zcl2 ρ (lv_args i vs) := by
  induction vs with
  | nil => intro i; rfl
  | cons v vs ih =>
    intro i
    simp only [List.map_cons, lv_args, zcv_cat hf, ih, zcl2]
theorem zcl2_sl {ρ : ZAd} (hf : zfm ρ) (vs : List Value) : (lg_sl (vs.map (zcv ρ))).length = (lg_sl vs).length := by
  induction vs with
  | nil => rfl
  | cons v vs ih =>
    simp only [lg_sl, List.map_cons, List.flatMap_cons, List.length_append] at ih ⊢
    rw [ih, zcv_cat hf]
    split <;> rfl
theorem zsum {ρ : ZAd} (hf : zfm ρ) (vs : List Value) : ((vs.map (zcv ρ)).map fun v => v.category).sum = (vs.map fun v => v.category).sum := by
  rw [List.map_map]
  congr 1
  exact List.map_congr_left fun v _ => zcv_cat hf v
def zflds (ρ : ZAd) (M : ZMem) (t k : Nat) : List Value := (List.range (zN t)).map (fun j => zcv ρ (zfv M t k j))
def zrA (ρ : ZAd) (r : Option Nat) : Option Nat := match zcv ρ (zrf r) with
  | .ref a => some a
  | _ => none
theorem zrA_rf {ρ : ZAd} (hf : zfm ρ) (r : Option Nat) : va_rf (zrA ρ r) = zcv ρ (zrf r) := by
  cases r with
  | none => rfl
  | some q =>
    show va_rf (match zcv ρ (.ref q) with | .ref a => some a | _ => none) = zcv ρ (.ref q)
    rcases zcv_r hf q with h | ⟨a, h⟩ <;> rw [h] <;> rfl
/-- the cell of a place -/
def zcell (ρ : ZAd) (cA : Nat → ClassId) (M : ZMem) (k : Nat) : va_E :=
  if (zsh M k).1 < 13 then .inr ((zsh M k).1, zflds ρ M (zsh M k).1 k)
  else if (zsh M k).1 < 23 then .inl (cA (zsh M k).1, (zsh M k).2, .inl (zI M k))
  else if (zsh M k).1 = 23 then .inl (cA (zsh M k).1, (zsh M k).2, .inr (.inl (zL M k)))
  else .inl (cA (zsh M k).1, (zsh M k).2, .inr (.inr (.inr (.inr (fun j => zrA ρ (zR M k j))))))
def zws (ρ : ZAd) (cA : Nat → ClassId) (M : ZMem) : va_W := (List.range (zn M - 20)).map (fun j => (ρ.2.2 + j, zcell ρ cA M (j + 20)))
theorem zws_at {ρ : ZAd} {cA : Nat → ClassId} {M : ZMem} {k : Nat} (h : 20 ≤ k) (h2 : k < zn M) : (zws ρ cA M)[k - 20]? = some (zadr ρ k, zcell ρ cA M k) := by
  have e : k - 20 < zn M - 20 := by omega
  simp only [zws, List.getElem?_map, List.getElem?_range e, Option.map_some, zadr, if_neg (show ¬ k < 20 by omega), show k - 20 + 20 = k by omega]
theorem zws_of {ρ : ZAd} {cA : Nat → ClassId} {M : ZMem} {j : Nat} {q : Nat × va_E} (h : (zws ρ cA M)[j]? = some q) : j + 20 < zn M ∧ q = (ρ.2.2 + j, zcell ρ cA M (j + 20)) := by
  simp only [zws, List.getElem?_map] at h
  cases hj : (List.range (zn M - 20))[j]? with
  | none => rw [hj] at h; cases h
  | some i =>
    rw [hj] at h
    obtain ⟨h1, h2⟩ := List.getElem?_eq_some_iff.mp hj
    simp only [List.getElem_range, List.length_range] at h1 h2
    subst h2
    exact ⟨by omega, (Option.some.inj h).symm⟩
theorem zws_D (ρ : ZAd) (cA : Nat → ClassId) (M : ZMem) : va_D (fun q => ρ.2.2 ≤ q) (zws ρ cA M) := by
  refine ⟨fun i j p q hp hq e => ?_, fun k q hq => ?_⟩
  · rw [(zws_of hp).2, (zws_of hq).2] at e
    simp only at e
    omega
  · rw [(zws_of hq).2]
    exact Nat.le_add_right _ _
/-- one place is written: the list of cells with one row set -/
theorem zws_set {ρ : ZAd} {cA : Nat → ClassId} {M M' : ZMem} {k : Nat} {e : va_E} (hk : 20 ≤ k) (hn : zn M' = zn M) (he : zcell ρ cA M' k = e) (ho : ∀ j, j ≠ k → zcell ρ cA M' j = zcell ρ cA M j) : (zws ρ cA M).set (k - 20) (zadr ρ k, e) = zws ρ cA M' := by
  apply List.ext_getElem?
  intro i
  rw [List.getElem?_set]
  by_cases h : k - 20 = i
  · subst h
    by_cases h2 : k < zn M
    · rw [zws_at (M := M') hk (by omega), he]
      simp [zws]
      omega
    · have e1 : (zws ρ cA M)[k - 20]? = none := by simp [zws]; omega
      have e2 : (zws ρ cA M')[k - 20]? = none := by simp [zws]; omega
      rw [e2]
      simp [zws]
      omega
  · rw [if_neg h]
    simp only [zws, List.getElem?_map, hn]
    cases hi : (List.range (zn M - 20))[i]? with
    | none => rfl
    | some j =>
      have hj : j = i := by
        obtain ⟨h1, h2⟩ := List.getElem?_eq_some_iff.mp hi
        simp at h2
        exact h2.symm
      simp only [Option.map_some]
      rw [ho (j + 20) (by omega)]
theorem zws_new {ρ : ZAd} {cA : Nat → ClassId} {M M' : ZMem} {e : va_E} (hk : 20 ≤ zn M) (hn : zn M' = zn M + 1) (he : zcell ρ cA M' (zn M) = e) (ho : ∀ j, j < zn M → zcell ρ cA M' j = zcell ρ cA M j) : zws ρ cA M ++ [(zadr ρ (zn M), e)] = zws ρ cA M' := by
  have h1 : zn M' - 20 = (zn M - 20) + 1 := by omega
  simp only [zws, h1, List.range_succ, List.map_append, List.map_cons, List.map_nil]
  congr 1
  · refine List.map_congr_left fun j hj => ?_
    rw [ho (j + 20) (by have := List.mem_range.mp hj; omega)]
  · rw [show zn M - 20 + 20 = zn M by omega, he]
    simp only [zadr, if_neg (show ¬ zn M < 20 by omega)]
/-- the old places -/
def zT0 : List (List Int32) := [[100, 101, 97, 114], [99, 104, 101, 97, 112], [116, 104, 105, 110], [116, 104, 105, 99, 107], [119, 105, 110, 100], [98, 107, 118, 116, 100, 121], [60, 61, 62]]
def zAb : List Int32 := [-1, 0, 0, 0, 1, 2, 3]
def zM0 : ZMem := ((20, 0, fun p => if p = 1 then (31, 7) else if 2 ≤ p ∧ p < 9 then (13, 0) else if 9 ≤ p ∧ p < 16 then (32, (zT0.getD (p - 9) []).length) else (99, 0)), (fun p j => if p = 1 then zAb.getD j 0 else if 9 ≤ p ∧ p < 16 then (zT0.getD (p - 9) []).getD j 0 else 0), (fun _ _ => 0), (fun p j => if 2 ≤ p ∧ p < 9 ∧ j = 0 then some (p + 7) else none))
def zOld (M : ZMem) : Prop := 20 ≤ zn M ∧ ∀ p, p < 20 → zsh M p = zsh zM0 p ∧ (∀ j, zI M p j = zI zM0 p j) ∧ ∀ j, zR M p j = zR zM0 p j
/-- what stays: tables, links of nest mates, texts, statics -/
def ztys (cA : Nat → ClassId) : List (ClassId × FieldType) := [(cA 20, .int), (cA 21, .byte), (cA 22, .boolean), (cA 23, .long), (cA 24, .object "SlateHalves$Hill"), (cA 25, .object "SlateHalves$Tape"), (cA 26, .object "SlateHalves$Block")]
def zEnv (ρ : ZAd) (cA : Nat → ClassId) (D : va_G) (U : State) (H : Heap) : Prop :=
  va_K D vwCl (ztys cA) U ∧ (∀ q ∈ znest, va_Nw (.methodLinkNest q.1 q.2.1 (zmeth q.2.2.1).1 q.2.2.2) U) ∧
  (∀ i, i < 7 → vk_R (zown1 (zstr.getD i (0, 0, "")).1) (zstr.getD i (0, 0, "")).2.1 (zstr.getD i (0, 0, "")).2.2 (ρ.1 (2 + i)) U) ∧
  (va_Z "SlateHalves" "ABOVE" "[I" (.ref (ρ.1 1)) (fun q => ρ.2.2 ≤ q) U H ∧ va_Z "java/lang/String" "COMPACT_STRINGS" "Z" (.int 1) (fun q => ρ.2.2 ≤ q) U H ∧ va_Z "jdk/internal/util/Preconditions" "SIOOBE_FORMATTER" "Ljava/util/function/BiFunction;" ρ.2.1 (fun q => ρ.2.2 ≤ q) U H) ∧
  vk_S 7 (zT0.map List.length) zT0 (fun i => ρ.1 (2 + i)) (fun i => ρ.1 (9 + i)) (fun q => ρ.2.2 ≤ q) U H ∧
  va_T .int (ρ.1 1) 7 (fun j => .int (zAb.getD j 0)) (fun q => ρ.2.2 ≤ q) U H ∧
  va_AO "SlateHalves$Hill" U ∧ va_AO "SlateHalves$Tape" U ∧ va_AO "SlateHalves$Block" U
theorem zEnv.go {ρ : ZAd} {cA : Nat → ClassId} {D : va_G} {s U : State} {H H1 : Heap} (h : zEnv ρ cA D s H) (hW : s.WarmedH U.vm) (hq : ∀ a : Nat, a < H.size → ¬ ρ.2.2 ≤ a → H1[a]? = H[a]?) : zEnv ρ cA D U H1 := by
  obtain ⟨h1, h2, h3, ⟨h4, h5, h6⟩, h7, h8, h9, h10, h11⟩ := h
  exact ⟨va_K.moved hW.alike h1, fun q hqq => va_Nw.warmM hW (h2 q hqq), fun i hi => (h3 i hi).warm hW, ⟨(h4.moved hW.alike).kept hq, (h5.moved hW.alike).kept hq, (h6.moved hW.alike).kept hq⟩, (h7.moved hW.alike).kept hq, (h8.moved hW.alike).kept hq, h9.moved hW.alike, h10.moved hW.alike, h11.moved hW.alike⟩
theorem zEnv.blind {ρ : ZAd} {cA : Nat → ClassId} {D : va_G} {U V : State} {H : Heap} (h : zEnv ρ cA D U H) (hv : V.vm = U.vm) : zEnv ρ cA D V H := by
  have hA : U.vm.Alike V.vm := by rw [hv]; exact Vm.Alike.refl _
  obtain ⟨h1, h2, h3, ⟨h4, h5, h6⟩, h7, h8, h9, h10, h11⟩ := h
  exact ⟨va_K.moved hA h1, fun q hqq => va_Nw.same rfl hv.symm (h2 q hqq), fun i hi => (h3 i hi).same hv, ⟨h4.moved hA, h5.moved hA, h6.moved hA⟩, h7.moved hA, h8.moved hA, h9.moved hA, h10.moved hA, h11.moved hA⟩
