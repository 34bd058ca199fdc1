/-! one instruction of the abstract machine is one of the machine's -/
theorem zdec {k pc n : Nat} {i : Instr} (hk : k < 240) (h : zi k pc = some i) (hn : zln i = some n) : decode (zmeth k).2.1 pc = .ok (i, n) := by
  have h1 := zd_all k hk
  have h2 : ∀ r : List (Nat × Instr), zfind2 r pc = some i → (pc, i) ∈ r := by
    intro r
    induction r with
    | nil => intro h; cases h
    | cons a r ih =>
      intro h
      obtain ⟨j, w⟩ := a
      simp only [zfind2] at h
      split at h
      · next q => cases h; rw [← q]; exact List.mem_cons_self
      · exact List.mem_cons_of_mem _ (ih h)
  have h3 := List.all_eq_true.mp h1 _ (h2 _ h)
  unfold zdk at h3
  simp only at h3
  split at h3
  · next i' n' hd =>
    simp only [Bool.and_eq_true, decide_eq_true_eq] at h3
    obtain ⟨rfl, h4⟩ := h3
    rw [hn] at h4
    rw [hd, eq_of_beq h4]
  · cases h3
theorem zdec_sw {k pc : Nat} {i : Instr} (hk : k < 240) (h : zi k pc = some i) : ∃ n, decode (zmeth k).2.1 pc = .ok (i, n) := by
  have h1 := zd_all k hk
  have h2 : ∀ r : List (Nat × Instr), zfind2 r pc = some i → (pc, i) ∈ r := by
    intro r
    induction r with
    | nil => intro h; cases h
    | cons a r ih =>
      intro h
      obtain ⟨j, w⟩ := a
      simp only [zfind2] at h
      split at h
      · next q => cases h; rw [← q]; exact List.mem_cons_self
      · exact List.mem_cons_of_mem _ (ih h)
  have h3 := List.all_eq_true.mp h1 _ (h2 _ h)
  unfold zdk at h3
  simp only at h3
  split at h3
  · next i' n' hd =>
    simp only [Bool.and_eq_true, decide_eq_true_eq] at h3
    obtain ⟨rfl, h4⟩ := h3
    exact ⟨n', hd⟩
  · cases h3
theorem zjmp_of {pc t : Nat} {o : Int} (h : zjmp pc o = some t) : (pc : Int) + o = (t : Int) := by
  unfold zjmp at h
  split at h
  · next h0 => cases h; omega
  · cases h
theorem zkeys_sel (x : Int32) (d : Int) : ∀ (os : List Int) (lo : Int), zsel x (zkeys lo os) d = if lo ≤ x.toInt ∧ x.toInt < lo + os.length then os.getD (x.toInt - lo).toNat d else d := by
  intro os
  induction os with
  | nil => intro lo; simp [zkeys, zsel]
  | cons o r ih =>
    intro lo
    simp only [zkeys, zsel]
    by_cases h : x.toInt = lo
    · rw [if_pos h, if_pos (by simp; omega), h]
      simp
    · rw [if_neg h, ih]
      by_cases h2 : lo + 1 ≤ x.toInt ∧ x.toInt < lo + 1 + r.length
      · rw [if_pos h2, if_pos (by simp; omega)]
        have e : (x.toInt - lo).toNat = (x.toInt - (lo + 1)).toNat + 1 := by omega
        rw [e]
        simp
      · rw [if_neg h2, if_neg (by simp; omega)]
theorem zsel_off (x : Int32) (d : Int) (ps : List (Int × Int)) : Op.lookupswitch.offset ps d x.toInt = zsel x ps d := by
  induction ps with
  | nil => rfl
  | cons a r ih =>
    obtain ⟨k, o⟩ := a
    rw [Op.lookupswitch.offset_cons, ih, zsel]
    by_cases h : k = x.toInt
    · rw [if_pos h, if_pos h.symm]
    · rw [if_neg h, if_neg (fun q => h q.symm)]
theorem zcell_I {ρ : ZAd} {cA : Nat → ClassId} {M : ZMem} {k : Nat} (h : 13 ≤ (zsh M k).1) (h2 : (zsh M k).1 < 23) : zcell ρ cA M k = .inl (cA (zsh M k).1, (zsh M k).2, .inl (zI M k)) := by
  unfold zcell
  rw [if_neg (by omega), if_pos h2]
theorem zcell_L {ρ : ZAd} {cA : Nat → ClassId} {M : ZMem} {k : Nat} (h : (zsh M k).1 = 23) : zcell ρ cA M k = .inl (cA 23, (zsh M k).2, .inr (.inl (zL M k))) := by
  unfold zcell
  rw [if_neg (by omega), if_neg (by omega), if_pos h, h]
theorem zcell_R {ρ : ZAd} {cA : Nat → ClassId} {M : ZMem} {k : Nat} (h : 24 ≤ (zsh M k).1) : zcell ρ cA M k = .inl (cA (zsh M k).1, (zsh M k).2, .inr (.inr (.inr (.inr (fun j => zrA ρ (zR M k j)))))) := by
  unfold zcell
  rw [if_neg (by omega), if_neg (by omega), if_neg (by omega)]
theorem zcell_O {ρ : ZAd} {cA : Nat → ClassId} {M : ZMem} {k : Nat} (h : (zsh M k).1 < 13) : zcell ρ cA M k = .inr ((zsh M k).1, zflds ρ M (zsh M k).1 k) := if_pos h
theorem zflds_at {ρ : ZAd} {M : ZMem} {t k j : Nat} (h : j < zN t) : (zflds ρ M t k)[j]? = some (zcv ρ (zfv M t k j)) := by
  simp [zflds, List.getElem?_range h]
/-- writing keeps the old places, the count, the other cells -/
theorem zOld_pI {M : ZMem} {p k : Nat} {v : Int32} (h : zOld M) (hp : 20 ≤ p) : zOld (zpI M p k v) := by
  refine ⟨h.1, fun q hq => ⟨(h.2 q hq).1, fun j => ?_, (h.2 q hq).2.2⟩⟩
  show (if q = p ∧ j = k then v else zI M q j) = _
  rw [if_neg (by omega)]
  exact (h.2 q hq).2.1 j
theorem zOld_pL {M : ZMem} {p k : Nat} {v : Int64} (h : zOld M) (_ : 20 ≤ p) : zOld (zpL M p k v) := h
theorem zOld_pR {M : ZMem} {p k : Nat} {v : Option Nat} (h : zOld M) (hp : 20 ≤ p) : zOld (zpR M p k v) := by
  refine ⟨h.1, fun q hq => ⟨(h.2 q hq).1, (h.2 q hq).2.1, fun j => ?_⟩⟩
  show (if q = p ∧ j = k then v else zR M q j) = _
  rw [if_neg (by omega)]
  exact (h.2 q hq).2.2 j
theorem zOld_cI {M : ZMem} {p sp q dp n : Nat} (h : zOld M) (hq : 20 ≤ q) : zOld (zcpI M p sp q dp n) := by
  refine ⟨h.1, fun r hr => ⟨(h.2 r hr).1, fun j => ?_, (h.2 r hr).2.2⟩⟩
  show (if r = q ∧ dp ≤ j ∧ j < dp + n then _ else zI M r j) = _
  rw [if_neg (by omega)]
  exact (h.2 r hr).2.1 j
theorem zOld_new {M : ZMem} {t len sl : Nat} (h : zOld M) : zOld (znew M t len sl) := by
  refine ⟨Nat.le_succ_of_le h.1, fun q hq => ⟨?_, fun j => ?_, fun j => ?_⟩⟩
  · show (if q = zn M then _ else zsh M q) = _
    rw [if_neg (by have := h.1; omega)]
    exact (h.2 q hq).1
  · show (if q = zn M then _ else zI M q j) = _
    rw [if_neg (by have := h.1; omega)]
    exact (h.2 q hq).2.1 j
  · show (if q = zn M then _ else zR M q j) = _
    rw [if_neg (by have := h.1; omega)]
    exact (h.2 q hq).2.2 j
theorem zflds_pI_ne {ρ : ZAd} {M : ZMem} {p k q t : Nat} {v : Int32} (h : q ≠ p) : zflds ρ (zpI M p k v) t q = zflds ρ M t q := by
  unfold zflds
  refine List.map_congr_left fun j _ => ?_
  unfold zfv
  have e : zI (zpI M p k v) q j = zI M q j := if_neg (fun z => h z.1)
  rw [e]
  rfl
theorem zcell_pI_ne {ρ : ZAd} {cA : Nat → ClassId} {M : ZMem} {p k q : Nat} {v : Int32} (h : q ≠ p) : zcell ρ cA (zpI M p k v) q = zcell ρ cA M q := by
  have e : zI (zpI M p k v) q = zI M q := by funext j; exact if_neg (fun z => h z.1)
  unfold zcell
  rw [zflds_pI_ne h, e]
  rfl
theorem zflds_pL_ne {ρ : ZAd} {M : ZMem} {p k q t : Nat} {v : Int64} (h : q ≠ p) : zflds ρ (zpL M p k v) t q = zflds ρ M t q := by
  unfold zflds
  refine List.map_congr_left fun j _ => ?_
  unfold zfv
  have e : zL (zpL M p k v) q j = zL M q j := if_neg (fun z => h z.1)
  rw [e]
  rfl
theorem zcell_pL_ne {ρ : ZAd} {cA : Nat → ClassId} {M : ZMem} {p k q : Nat} {v : Int64} (h : q ≠ p) : zcell ρ cA (zpL M p k v) q = zcell ρ cA M q := by
  have e : zL (zpL M p k v) q = zL M q := by funext j; exact if_neg (fun z => h z.1)
  unfold zcell
  rw [zflds_pL_ne h, e]
  rfl
theorem zflds_pR_ne {ρ : ZAd} {M : ZMem} {p k q t : Nat} {v : Option Nat} (h : q ≠ p) : zflds ρ (zpR M p k v) t q = zflds ρ M t q := by
  unfold zflds
  refine List.map_congr_left fun j _ => ?_
  unfold zfv
  have e : zR (zpR M p k v) q j = zR M q j := if_neg (fun z => h z.1)
  rw [e]
  rfl
theorem zcell_pR_ne {ρ : ZAd} {cA : Nat → ClassId} {M : ZMem} {p k q : Nat} {v : Option Nat} (h : q ≠ p) : zcell ρ cA (zpR M p k v) q = zcell ρ cA M q := by
  have e : ∀ j, zR (zpR M p k v) q j = zR M q j := fun j => if_neg (fun z => h z.1)
  unfold zcell
  rw [zflds_pR_ne h]
  simp only [e]
  rfl
/-- a field is set -/
theorem zflds_set {ρ : ZAd} {M M' : ZMem} {t o j : Nat} {w : Value} (hj : j < zN t) (h1 : zfv M' t o j = w) (h2 : ∀ i, i ≠ j → zfv M' t o i = zfv M t o i) : (zflds ρ M t o).set j (zcv ρ w) = zflds ρ M' t o := by
  apply List.ext_getElem?
  intro i
  rw [List.getElem?_set]
  by_cases h : j = i
  · subst h
    simp [zflds, hj, h1]
  · rw [if_neg h]
    simp only [zflds, List.getElem?_map]
    cases hi : (List.range (zN t))[i]? with
    | none => rfl
    | some a =>
      have ha : a = i := by
        obtain ⟨h3, h4⟩ := List.getElem?_eq_some_iff.mp hi
        simp at h4
        exact h4.symm
      subst ha
      simp [h2 a (fun z => h z.symm)]
theorem zpf_of {M M' : ZMem} {t j o : Nat} {v : Value} {b : Bool} (h : zpf M t j o v b = some M') : ((zsh M o).1 = t ∧ t < 13 ∧ j < zN t ∧ o < zn M ∧ 20 ≤ o ∧ (zfin t j = true → b = true) ∧ narrow (zty t j) v = v ∧ fits (zty t j) v = true) ∧ zsh M' = zsh M ∧ zn M' = zn M ∧ zc M' = zc M ∧ (zOld M → zOld M') ∧ zfv M' t o j = v ∧ (∀ i, i ≠ j → zfv M' t o i = zfv M t o i) ∧ (∀ ρ cA q, q ≠ o → zcell ρ cA M' q = zcell ρ cA M q) ∧ (v = .null ∨ (∃ q, v = .ref q) ∨ (∃ x, v = .int x) ∨ ∃ x, v = .long x) := by
  unfold zpf at h
  split at h
  · next hc =>
    refine ⟨hc, ?_⟩
    split at h
    · next _ x hk =>
      cases h
      refine ⟨rfl, rfl, rfl, fun q => zOld_pI q hc.2.2.2.2.1, ?_, fun i hi => ?_, fun ρ cA q hq => zcell_pI_ne hq, Or.inr (Or.inr (Or.inl ⟨_, rfl⟩))⟩
      · unfold zfv; rw [hk]; show Value.int (if o = o ∧ j = j then x else _) = _; rw [if_pos ⟨rfl, rfl⟩]
      · unfold zfv
        have e : zI (zpI M o j x) o i = zI M o i := if_neg (fun z => hi z.2)
        rw [e]; rfl
    · next _ x hk =>
      cases h
      refine ⟨rfl, rfl, rfl, fun q => zOld_pL q hc.2.2.2.2.1, ?_, fun i hi => ?_, fun ρ cA q hq => zcell_pL_ne hq, Or.inr (Or.inr (Or.inr ⟨_, rfl⟩))⟩
      · unfold zfv; rw [hk]; show Value.long (if o = o ∧ j = j then x else _) = _; rw [if_pos ⟨rfl, rfl⟩]
      · unfold zfv
        have e : zL (zpL M o j x) o i = zL M o i := if_neg (fun z => hi z.2)
        rw [e]; rfl
    · next _ hk =>
      cases h
      refine ⟨rfl, rfl, rfl, fun q => zOld_pR q hc.2.2.2.2.1, ?_, fun i hi => ?_, fun ρ cA q hq => zcell_pR_ne hq, Or.inl rfl⟩
      · unfold zfv; rw [hk]; show zrf (if o = o ∧ j = j then none else _) = _; rw [if_pos ⟨rfl, rfl⟩]; rfl
      · unfold zfv
        have e : zR (zpR M o j none) o i = zR M o i := if_neg (fun z => hi z.2)
        rw [e]; rfl
    · next _ r hk =>
      cases h
      refine ⟨rfl, rfl, rfl, fun q => zOld_pR q hc.2.2.2.2.1, ?_, fun i hi => ?_, fun ρ cA q hq => zcell_pR_ne hq, Or.inr (Or.inl ⟨_, rfl⟩)⟩
      · unfold zfv; rw [hk]; show zrf (if o = o ∧ j = j then some r else _) = _; rw [if_pos ⟨rfl, rfl⟩]; rfl
      · unfold zfv
        have e : zR (zpR M o j (some r)) o i = zR M o i := if_neg (fun z => hi z.2)
        rw [e]; rfl
    · cases h
  · cases h
section ZST
variable {p : Program} {l : Launch} {e : Env} {R : Room} {s : State} {m : MethodId} {args : Array Value} {below : List Frame} {meth : Method} {c : Code} {H : Heap} {locs : List Loc} {cells slots : Nat} {Q : State → Prop}
variable {ρ : ZAd} {cA : Nat → ClassId} {D : va_G} {k pc : Nat} {ls : Array Slot} {rest : List Value}
theorem z_if {cc : ByteArray} (hx : p.tables.exec = Jvm.exec) (hb : c.code = cc) {q : ClassFile.Cond} {x : Int32} {o : Int} {t : Nat} (hd : decode cc pc = .ok (.ifCond q o, 3)) (ht : (pc : Int) + o = (t : Int)) (K : W p l e R s m args below meth c H locs cells slots Q (F0 m (if zcndB q x 0 then t else pc + 3) ls rest)) : W p l e R s m args below meth c H locs cells slots Q (F0 m pc ls (.int x :: rest)) := by
  by_cases hB : zcndB q x 0 = true
  · rw [if_pos hB] at K
    have hc := (zcndB_iff q x 0).mp hB
    cases q
    · exact lv_if_eq hx hb hd ht (fun _ => K) (fun h => absurd hc h)
    · exact lv_if_ne hx hb hd ht (fun _ => K) (fun h => absurd h hc)
    · exact lv_if_lt hx hb hd ht (fun _ => K) (fun h => absurd hc h)
    · exact lv_if_ge hx hb hd ht (fun _ => K) (fun h => absurd hc h)
    · exact lv_if_gt hx hb hd ht (fun _ => K) (fun h => absurd hc h)
    · exact lv_if_le hx hb hd ht (fun _ => K) (fun h => absurd hc h)
  · rw [if_neg hB] at K
    have hc : ¬ zcnd q x 0 := fun z => hB ((zcndB_iff q x 0).mpr z)
    cases q
    · exact lv_if_eq hx hb hd ht (fun h => absurd h hc) (fun _ => K)
    · exact lv_if_ne hx hb hd ht (fun h => absurd h hc) (fun _ => K)
    · exact lv_if_lt hx hb hd ht (fun h => absurd h hc) (fun _ => K)
    · exact lv_if_ge hx hb hd ht (fun h => absurd h hc) (fun _ => K)
    · exact lv_if_gt hx hb hd ht (fun h => absurd h hc) (fun _ => K)
    · exact lv_if_le hx hb hd ht (fun h => absurd h hc) (fun _ => K)
theorem z_icmp {cc : ByteArray} (hx : p.tables.exec = Jvm.exec) (hb : c.code = cc) {q : ClassFile.Cond} {x y : Int32} {o : Int} {t : Nat} (hd : decode cc pc = .ok (.if_icmp q o, 3)) (ht : (pc : Int) + o = (t : Int)) (K : W p l e R s m args below meth c H locs cells slots Q (F0 m (if zcndB q x y then t else pc + 3) ls rest)) : W p l e R s m args below meth c H locs cells slots Q (F0 m pc ls (.int y :: .int x :: rest)) := by
  by_cases hB : zcndB q x y = true
  · rw [if_pos hB] at K
    have hc := (zcndB_iff q x y).mp hB
    cases q
    · exact lv_icmp_eq hx hb hd ht (fun _ => K) (fun h => absurd hc h)
    · exact lv_icmp_ne hx hb hd ht (fun _ => K) (fun h => absurd h hc)
    · exact lv_icmp_lt hx hb hd ht (fun _ => K) (fun h => absurd hc h)
    · exact lv_icmp_ge hx hb hd ht (fun _ => K) (fun h => absurd hc h)
    · exact lv_icmp_gt hx hb hd ht (fun _ => K) (fun h => absurd hc h)
    · exact lv_icmp_le hx hb hd ht (fun _ => K) (fun h => absurd hc h)
  · rw [if_neg hB] at K
    have hc : ¬ zcnd q x y := fun z => hB ((zcndB_iff q x y).mpr z)
    cases q
    · exact lv_icmp_eq hx hb hd ht (fun h => absurd h hc) (fun _ => K)
    · exact lv_icmp_ne hx hb hd ht (fun h => absurd h hc) (fun _ => K)
    · exact lv_icmp_lt hx hb hd ht (fun h => absurd h hc) (fun _ => K)
    · exact lv_icmp_ge hx hb hd ht (fun h => absurd h hc) (fun _ => K)
    · exact lv_icmp_gt hx hb hd ht (fun h => absurd h hc) (fun _ => K)
    · exact lv_icmp_le hx hb hd ht (fun h => absurd h hc) (fun _ => K)
theorem z_table {cc : ByteArray} (hx : p.tables.exec = Jvm.exec) (hb : c.code = cc) {df lo hi : Int} {os : Array Int} {len : Nat} {x : Int32} {t : Nat} (hd : decode cc pc = .ok (.tableswitch df lo hi os, len)) (hl : os.toList.length = (hi - lo + 1).toNat ∧ lo ≤ hi) (ht : (pc : Int) + zsel x (zkeys lo os.toList) df = (t : Int)) (K : W p l e R s m args below meth c H locs cells slots Q (F0 m t ls rest)) : W p l e R s m args below meth c H locs cells slots Q (F0 m pc ls (.int x :: rest)) := by
  rw [zkeys_sel] at ht
  by_cases h : lo ≤ x.toInt ∧ x.toInt < lo + os.toList.length
  · rw [if_pos h] at ht
    have hlt : (x.toInt - lo).toNat < os.toList.length := by omega
    refine lv_tableIn hx hb hd (by omega) (by omega) (off := os.toList.getD (x.toInt - lo).toNat df) ?_ ht K
    rw [← Array.getElem?_toList, List.getD_eq_getElem?_getD, List.getElem?_eq_getElem hlt]
    rfl
  · rw [if_neg h] at ht
    exact lv_tableOut hx hb hd (by omega) ht K
theorem z_look {cc : ByteArray} (hx : p.tables.exec = Jvm.exec) (hb : c.code = cc) {df : Int} {ps : Array (Int × Int)} {len : Nat} {x : Int32} {t : Nat} (hd : decode cc pc = .ok (.lookupswitch df ps, len)) (hp : (ps.toList.zip (ps.toList.drop 1)).all (fun (a, next) => a.1 < next.1) = true) (ht : (pc : Int) + zsel x ps.toList df = (t : Int)) (K : W p l e R s m args below meth c H locs cells slots Q (F0 m t ls rest)) : W p l e R s m args below meth c H locs cells slots Q (F0 m pc ls (.int x :: rest)) :=
  lv_lookup hx hb hd hp (zsel_off x df _) ht K
theorem z_aload {cc : ByteArray} (hx : p.tables.exec = Jvm.exec) (hb : c.code = cc) (hf : zfm ρ) {i x : Nat} (hd : decode cc pc = .ok (.aload i, 2)) (hl : ls[i]? = some (.val (zcv ρ (.ref x)))) (K : W p l e R s m args below meth c H locs cells slots Q (F0 m (pc + 2) ls (zcv ρ (.ref x) :: rest))) : W p l e R s m args below meth c H locs cells slots Q (F0 m pc ls rest) := by
  rcases zcv_r hf x with h | ⟨a, h⟩ <;> rw [h] at hl K
  · exact lv_aloadN hx hb hd hl K
  · exact lv_aload hx hb hd hl K
theorem z_aload_n {cc : ByteArray} (hx : p.tables.exec = Jvm.exec) (hb : c.code = cc) (hf : zfm ρ) {i : Fin 4} {x : Nat} (hd : decode cc pc = .ok (.aload_n i, 1)) (hl : ls[(i : Nat)]? = some (.val (zcv ρ (.ref x)))) (K : W p l e R s m args below meth c H locs cells slots Q (F0 m (pc + 1) ls (zcv ρ (.ref x) :: rest))) : W p l e R s m args below meth c H locs cells slots Q (F0 m pc ls rest) := by
  rcases zcv_r hf x with h | ⟨a, h⟩ <;> rw [h] at hl K
  · exact lv_aload_nN hx hb hd rfl hl K
  · exact lv_aload_n hx hb hd rfl hl K
theorem z_astore {cc : ByteArray} (hx : p.tables.exec = Jvm.exec) (hb : c.code = cc) (hf : zfm ρ) {i x nL : Nat} {lo : List (Nat × Value)} (hd : decode cc pc = .ok (.astore i, 2)) (hl : lv_has ls nL (zcl2 ρ lo)) (hn : i < nL) (K : ∀ ls' : Array Slot, lv_has ls' nL (zcl2 ρ (zst1 lo i (.ref x))) → W p l e R s m args below meth c H locs cells slots Q (F0 m (pc + 2) ls' rest)) : W p l e R s m args below meth c H locs cells slots Q (F0 m pc ls (zcv ρ (.ref x) :: rest)) := by
  have h2 := zcl2_st hf lo i (.ref x)
  rcases zcv_r hf x with h | ⟨a, h⟩ <;> rw [h] at h2 ⊢
  · exact lv_astoreN hx hb hd hl hn h2 K
  · exact lv_astore hx hb hd hl hn h2 K
theorem z_astore_n {cc : ByteArray} (hx : p.tables.exec = Jvm.exec) (hb : c.code = cc) (hf : zfm ρ) {i : Fin 4} {x nL : Nat} {lo : List (Nat × Value)} (hd : decode cc pc = .ok (.astore_n i, 1)) (hl : lv_has ls nL (zcl2 ρ lo)) (hn : (i : Nat) < nL) (K : ∀ ls' : Array Slot, lv_has ls' nL (zcl2 ρ (zst1 lo i (.ref x))) → W p l e R s m args below meth c H locs cells slots Q (F0 m (pc + 1) ls' rest)) : W p l e R s m args below meth c H locs cells slots Q (F0 m pc ls (zcv ρ (.ref x) :: rest)) := by
  have h2 := zcl2_st hf lo i (.ref x)
  rcases zcv_r hf x with h | ⟨a, h⟩ <;> rw [h] at h2 ⊢
  · exact lv_astore_nN hx hb hd rfl hl hn h2 K
  · exact lv_astore_n hx hb hd rfl hl hn h2 K
/-- a field is read -/
theorem z_getf {M : ZMem} {n t j w o : Nat} {v : Value} (F : zFx p s m args meth c ρ cA D k) (hr : zRl ρ cA D s M H locs cells) (hi : zi k pc = some (.getfield n)) (hlk : zlk k n = some (0, t, j, w)) (hg : zgf M t j o = some v) (K : W p l e R s m args below meth c H locs cells slots Q (F0 m (pc + 3) ls (zcv ρ v :: rest))) : W p l e R s m args below meth c H locs cells slots Q (F0 m pc ls (zcv ρ (.ref o) :: rest)) := by
  obtain ⟨hk, hx, hb, hml, hown, hts, hini, hf, hE, hbs⟩ := F
  obtain ⟨hO, hP, hz, hS⟩ := hr
  have hd := zdec hk hi rfl
  have hw := zlk_of hk hlk
  unfold zgf at hg
  split at hg
  · next hc =>
    obtain ⟨c1, c2, c3, c4, c5, c6⟩ := hc
    cases hg
    have ho : o ≠ 18 := by
      by_cases ht : t = 13
      · have := c6 ht; omega
      · omega
    rw [zcv_ne ho]
    have hown2 := (zown_all k hk).1
    simp only [zlok] at hw
    by_cases ht : t < 13
    · rw [if_pos ht] at hw
      simp only [Bool.and_eq_true, decide_eq_true_eq] at hw
      have hwn := hts _ (zat_in hw.2)
      rw [hown2] at hwn
      have h20 : 20 ≤ o := by omega
      have he := zws_at (ρ := ρ) (cA := cA) h20 c4
      rw [zcell_O (by omega), c1] at he
      have hj2 : j < (zcl t).2.2 := by have := c3; unfold zN at this; rwa [if_neg (by omega)] at this
      refine va_get (C := (zcl t).1) (T := (zcl t).2.1) (N := (zcl t).2.2) (ref := ((zcl t).2.1 j).1) (v := zcv ρ (zfv M t o j)) hx hb hts (fun w hw => ?_) hown hE.1 hP (o - 20) he (zvw t ht) j hj2 hwn (fun _ h => h) (zflds_at c3) hd K
      obtain ⟨a, ha, rfl⟩ := List.mem_map.mp hw
      exact zuws t ht a (by unfold zN; rw [if_neg (by omega)]; exact List.mem_range.mp ha)
    · have ht13 : t = 13 := by omega
      subst ht13
      rw [if_neg ht] at hw
      obtain ⟨a1, a2⟩ := c6 rfl
      obtain ⟨-, -, -, -, h7, -⟩ := hE
      have hS7 := h7.1 (o - 2) (by omega)
      dsimp only at hS7
      have hM := hO.2 o (by omega)
      have ead : ρ.1 (2 + (o - 2)) = zadr ρ o := by simp only [zadr, if_pos (show o < 20 by omega), show 2 + (o - 2) = o by omega]
      have eav : ρ.1 (9 + (o - 2)) = zadr ρ (o + 7) := by simp only [zadr, if_pos (show o + 7 < 20 by omega), show 9 + (o - 2) = o + 7 by omega]
      rw [ead, eav] at hS7
      simp only [Bool.and_eq_true, Bool.or_eq_true, decide_eq_true_eq] at hw
      rcases hw.2 with ⟨rfl, hw2⟩ | ⟨rfl, hw2⟩
      · have hwn := hts _ (zat_in hw2)
        rw [hown2] at hwn
        have ev : zfv M 13 o 0 = .ref (o + 7) := by
          show zrf (zR M o 0) = _
          rw [hM.2.2 0]
          show zrf (if 2 ≤ o ∧ o < 9 ∧ 0 = 0 then some (o + 7) else none) = _
          rw [if_pos ⟨a1, a2, rfl⟩]; rfl
        rw [ev, zcv_ne (by omega)] at K
        exact vk_getf (ref := "java/lang/String") hx hb hS7.2.2.1 hS hown hwn (fun _ h => h) hd K
      · have hwn := hts _ (zat_in hw2)
        rw [hown2] at hwn
        have ev : zfv M 13 o 1 = .int 0 := by
          show Value.int (zI M o 1) = _
          rw [hM.2.1 1]
          show Value.int (if o = 1 then _ else if 9 ≤ o ∧ o < 16 then _ else 0) = _
          rw [if_neg (by omega), if_neg (by omega)]
        rw [ev] at K
        exact vk_getf (ref := "java/lang/String") hx hb hS7.2.1 hS hown hwn (fun _ h => h) hd K
  · cases hg
/-- a field is written -/
theorem z_putf {M M' : ZMem} {n t j w o : Nat} {v : Value} (F : zFx p s m args meth c ρ cA D k) (hr : zRl ρ cA D s M H locs cells) (hi : zi k pc = some (.putfield n)) (hlk : zlk k n = some (0, t, j, w)) (hg : zpf M t j o v (zini k && ((zcl t).1 == (zmeth k).1.cls)) = some M') (K : ∀ H' locs', zRl ρ cA D s M' H' locs' cells → W p l e R s m args below meth c H' locs' cells slots Q (F0 m (pc + 3) ls rest)) : W p l e R s m args below meth c H locs cells slots Q (F0 m pc ls (zcv ρ v :: zcv ρ (.ref o) :: rest)) := by
  obtain ⟨hk, hx, hb, hml, hown, hts, hini, hf, hE, hbs⟩ := F
  obtain ⟨hO, hP, hz, hS⟩ := hr
  have hd := zdec hk hi rfl
  have hw := zlk_of hk hlk
  have hown2 := (zown_all k hk).1
  obtain ⟨⟨c1, ht, c3, c4, h20, c6, c7, c8⟩, q1, q2, q3, q4, q5, q6, q7, q8⟩ := zpf_of hg
  rw [zcv_ne (show o ≠ 18 by omega)]
  simp only [zlok] at hw
  rw [if_pos ht] at hw
  simp only [Bool.and_eq_true, decide_eq_true_eq] at hw
  have hwn := hts _ (zat_in hw.2)
  rw [hown2] at hwn
  have he := zws_at (ρ := ρ) (cA := cA) h20 c4
  have hce : zcell ρ cA M' o = .inr (t, zflds ρ M' t o) := by rw [zcell_O (by rw [q1]; omega), q1, c1]
  rw [zcell_O (by omega), c1] at he
  have hj2 : j < (zcl t).2.2 := by have := c3; unfold zN at this; rwa [if_neg (by omega)] at this
  have hfl : j < (zflds ρ M t o).length := by simp [zflds, c3]
  have hu : ∀ w ∈ u_ws (zcl t).1 (zcl t).2.1 (zcl t).2.2, w ∈ zG := fun w hw => by
    obtain ⟨a, ha, rfl⟩ := List.mem_map.mp hw
    exact zuws t ht a (by unfold zN; rw [if_neg (by omega)]; exact List.mem_range.mp ha)
  have e2 : zN t = (zcl t).2.2 := by unfold zN; rw [if_neg (by omega)]
  have hset : (zws ρ cA M).set (o - 20) (zadr ρ o, .inr (t, (zflds ρ M t o).set j (zcv ρ v))) = zws ρ cA M' := by
    rw [zflds_set c3 q5 q6]
    exact zws_set h20 q2 hce (fun i hi => q7 ρ cA i hi)
  have nn : narrow (zty t j) (zcv ρ v) = zcv ρ v ∧ fits (zty t j) (zcv ρ v) = true := by
    rcases q8 with rfl | ⟨q, rfl⟩ | ⟨x, rfl⟩ | ⟨x, rfl⟩
    · exact ⟨c7, c8⟩
    · have h9 : ∀ ty : FieldType, fits ty (.ref q) = true → ∀ u, (u = .null ∨ ∃ a, u = .ref a) → narrow ty u = u ∧ fits ty u = true := by
        intro ty hfit u hu
        rcases hu with rfl | ⟨a, rfl⟩ <;> cases ty <;> first | exact ⟨rfl, rfl⟩ | cases hfit
      exact h9 _ c8 _ (zcv_r hf q)
    · exact ⟨c7, c8⟩
    · exact ⟨c7, c8⟩
  have KK : ∀ (H1 : Heap) (locs1 : List Loc), va_P D vwCl ((zws ρ cA M).set (o - 20) (zadr ρ o, .inr (t, (zflds ρ M t o).set j (zcv ρ v)))) H1 → va_D (fun q => ρ.2.2 ≤ q) ((zws ρ cA M).set (o - 20) (zadr ρ o, .inr (t, (zflds ρ M t o).set j (zcv ρ v)))) → va_S (fun q => ρ.2.2 ≤ q) s.heap H1 locs1 → W p l e R s m args below meth c H1 locs1 cells slots Q (F0 m (pc + 3) ls rest) := fun H1 locs1 hP1 _ hS1 => by
    rw [hset] at hP1
    exact K H1 locs1 ⟨q4 hO, hP1, by rw [hz, q2], hS1⟩
  by_cases hfi : zfin t j = true
  · have hb6 := c6 hfi
    simp only [Bool.and_eq_true, beq_iff_eq] at hb6
    have hfi2 : ((zcl t).2.1 j).2.2.2 = true := by unfold zfin at hfi; rwa [if_neg (by omega)] at hfi
    exact va_putF (C := (zcl t).1) (T := (zcl t).2.1) (N := (zcl t).2.2) (ref := ((zcl t).2.1 j).1) (ty := zty t j) (v := zcv ρ v) hx hb hts hu (zty t) (fun a ha => zty_ok t ht a (by omega)) (fun a ha b hb' => znm_ok t ht a (by omega) b (by omega)) hown hE.1 hP (zws_D ρ cA M) hS (o - 20) he (zvw t ht) j hj2 hwn (fun _ h => h) hfi2 (hini hb6.1) ((zdcl_ok t ht j c3).trans hb6.2) (zty_ok t ht j c3) nn.1 nn.2 hfl hd KK
  · have hfi2 : ((zcl t).2.1 j).2.2.2 = false := by unfold zfin at hfi; rw [if_neg (by omega)] at hfi; exact Bool.eq_false_iff.mpr hfi
    exact va_put (C := (zcl t).1) (T := (zcl t).2.1) (N := (zcl t).2.2) (ref := ((zcl t).2.1 j).1) (ty := zty t j) (v := zcv ρ v) hx hb hts hu (zty t) (fun a ha => zty_ok t ht a (by omega)) (fun a ha b hb' => znm_ok t ht a (by omega) b (by omega)) hown hE.1 hP (zws_D ρ cA M) hS (o - 20) he (zvw t ht) j hj2 hwn (fun _ h => h) hfi2 (zty_ok t ht j c3) nn.1 nn.2 hfl hd KK
end ZST
