/-! a call, from the callee's contract -/
def zCon (l : Launch) (ρ : ZAd) (cA : Nat → ClassId) (D : va_G) (d q : Nat) (as : List Value) (M : ZMem) (v : Option Value) (M' : ZMem) : Prop :=
  Met l (zmeth q).1 (Cond.code (zmeth q).1 (zmeth q).2.1 (zml q) (zret q) :: zG) ({ frames := d, cells := zn M' - zn M, slots := zc M' - zc M, locals := 60 * d } : Room)
    (va_Pc (as.map (zcv ρ)) (fun U => zEnv ρ cA D U U.heap ∧ ρ.2.2 ≤ U.heap.size ∧ zOld M ∧ va_P D vwCl (zws ρ cA M) U.heap ∧ U.heap.size = ρ.2.2 + (zn M - 20)))
    (fun _ st oc t => oc = .returned (v.map (zcv ρ)) ∧ zOld M' ∧ va_P D vwCl (zws ρ cA M') t.heap ∧ va_F (fun q => ρ.2.2 ≤ q) st t) (zn M' - zn M) (zc M' - zc M) (fun q => ρ.2.2 ≤ q)
/-- what a frame of method k knows -/
def zFx (p : Program) (s : State) (m : MethodId) (args : Array Value) (meth : Method) (c : Code) (ρ : ZAd) (cA : Nat → ClassId) (D : va_G) (k : Nat) : Prop :=
  k < 240 ∧ p.tables.exec = Jvm.exec ∧ c.code = (zmeth k).2.1 ∧ c.maxLocals = zml k ∧ s.vm.findClass (zmeth k).1.cls = some m.cls ∧ (∀ w ∈ zG, w.before args s = true) ∧ (zini k = true → meth.name = "<init>") ∧ zfm ρ ∧ zEnv ρ cA D s s.heap ∧ ρ.2.2 ≤ s.heap.size
def zRl (ρ : ZAd) (cA : Nat → ClassId) (D : va_G) (s : State) (M : ZMem) (H : Heap) (locs : List Loc) (cells : Nat) : Prop := zOld M ∧ va_P D vwCl (zws ρ cA M) H ∧ s.heap.size + cells = ρ.2.2 + (zn M - 20) ∧ va_S (fun q => ρ.2.2 ≤ q) s.heap H locs
def zSc (sc : Option (Nat × (Nat → Int32))) (ρ : ZAd) (s : State) : Prop := ∀ L xs, sc = some (L, xs) → va_X (ρ.1 0) L xs s s.heap ∧ ρ.1 0 < s.heap.size ∧ ¬ ρ.2.2 ≤ ρ.1 0
section ZC
variable {p : Program} {l : Launch} {e : Env} {R : Room} {s : State} {m : MethodId} {args : Array Value} {below : List Frame} {meth : Method} {c : Code} {H : Heap} {locs : List Loc} {cells slots : Nat} {Q : State → Prop}
variable {ρ : ZAd} {cA : Nat → ClassId} {D : va_G}
theorem zsize {M : ZMem} {g : JFrame} (hbs : ρ.2.2 ≤ s.heap.size) (hr : zRl ρ cA D s M H locs cells) (kk : H.size = ρ.2.2 + (zn M - 20) → W p l e R s m args below meth c H locs cells slots Q g) : W p l e R s m args below meth c H locs cells slots Q g := by
  obtain ⟨hO, hP, hc, hS⟩ := hr
  intro T hT X
  refine kk ?_ T hT X
  have h1 : T.heap.size ≤ s.heap.size + cells := X.same.2.2.1
  rw [hT] at h1
  have h2 : ρ.2.2 + (zn M - 20) ≤ H.size := by
    by_cases h : zn M = 20
    · rw [h]; exact Nat.le_trans (by omega) (Nat.le_trans hbs hS.1)
    · have h3 := zws_at (ρ := ρ) (cA := cA) (M := M) (k := zn M - 1) (by have := hO.1; omega) (by have := hO.1; omega)
      have h4 := (hP _ _ h3).lt
      have h5 : zadr ρ (zn M - 1) = ρ.2.2 + (zn M - 1 - 20) := by unfold zadr; rw [if_neg (by have := hO.1; omega)]
      rw [h5] at h4
      omega
  omega
theorem zcallW {g : JFrame} {rest : List Value} {v : Option Value} {M M' : ZMem} {ms : Nat} (hr : va_Run p l e R s m args below meth c H locs cells slots (zn M' - zn M) ms g rest (fun st oc t => oc = .returned v ∧ zOld M' ∧ va_P D vwCl (zws ρ cA M') t.heap ∧ va_F (fun q => ρ.2.2 ≤ q) st t) (fun q => ρ.2.2 ≤ q)) (hR : zRl ρ cA D s M H locs cells) (hm : zn M ≤ zn M')
    (kk : ∀ (H1 : Heap) (locs1 : List Loc), zRl ρ cA D s M' H1 locs1 (cells + (zn M' - zn M)) → W p l e R s m args below meth c H1 locs1 (cells + (zn M' - zn M)) (slots + ms) Q { g with pc := g.pc + 3, stack := v.toList ++ rest }) : W p l e R s m args below meth c H locs cells slots Q g := by
  obtain ⟨hO0, hP0, hc0, hS⟩ := hR
  intro T hT X
  obtain ⟨v', st₀, t, T', L, h0, X', hL, e1, e2, ⟨hv, hO, hP, hF1, hF2⟩, st⟩ := hr T hT X
  cases hv
  rw [h0] at hF1 hF2
  obtain ⟨t2, a1, b1⟩ := kk T'.heap (locs ++ L) ⟨hO, by rw [e1]; exact hP, by have := hO0.1; omega, Nat.le_trans hS.1 (by rw [e1]; exact hF1), fun q h1 h2 => by rw [e1, hF2 q (Nat.lt_of_lt_of_le h1 hS.1) h2]; exact hS.2.1 q h1 h2, fun q hq => by
      rcases List.mem_append.mp hq with h | h
      · exact hS.2.2 q h
      · exact hL q h⟩ T' rfl X'
  exact ⟨t2, st t2 a1, b1⟩
theorem zPre {as : List Value} {M : ZMem} (hE : zEnv ρ cA D s s.heap) (hr : zRl ρ cA D s M H locs cells) (hz : H.size = ρ.2.2 + (zn M - 20)) : FrameBlind (va_Pc (as.map (zcv ρ)) (fun U => zEnv ρ cA D U U.heap ∧ ρ.2.2 ≤ U.heap.size ∧ zOld M ∧ va_P D vwCl (zws ρ cA M) U.heap ∧ U.heap.size = ρ.2.2 + (zn M - 20))) ∧ ∀ U : State, U.heap = H → s.WarmedH U.vm → va_Pc (as.map (zcv ρ)) (fun U => zEnv ρ cA D U U.heap ∧ ρ.2.2 ≤ U.heap.size ∧ zOld M ∧ va_P D vwCl (zws ρ cA M) U.heap ∧ U.heap.size = ρ.2.2 + (zn M - 20)) (as.map (zcv ρ)).toArray U := by
  obtain ⟨hO, hP, hc, hS⟩ := hr
  refine ⟨fun a U g mk h => ?_, fun U hU hW => ⟨rfl, ?_, ?_, hO, ?_, ?_⟩⟩
  · obtain ⟨h1, h2, h3⟩ := h
    exact ⟨h1, zEnv.blind (U := U) (V := U.calling g mk a) h2 rfl, h3⟩
  · rw [hU]
    exact hE.go hW hS.2.1
  · rw [hU, hz]; exact Nat.le_add_right _ _
  · rw [hU]; exact hP
  · rw [hU]; exact hz
/-- what the words of a method say -/
theorem zmok_of {k : Nat} (h0 : 0 < k) (h : k < 240) : (Cond.initialized (zmeth k).1.cls) ∈ zG ∧ Cond.code (zmeth k).1 (zmeth k).2.1 (zml k) (zret k) ∈ zG ∧ plainFor (zmeth k).1 = true ∧ ((zmeth k).1.cls ≠ "java/lang/invoke/MethodHandle" ∧ (zmeth k).1.cls ≠ "java/lang/invoke/VarHandle") ∧ (parseMethodDescriptor (zmeth k).1.desc).map (fun d => d.parameters.length) = some (zmeth k).2.2.2.2.2 ∧ zml k ≤ 30 ∧
    ((zmk k = 0 ∧ Cond.instanceMethod (zmeth k).1 ∈ zG ∧ Cond.selects (zmeth k).1.cls (zmeth k).1 (zmeth k).1 ∈ zG ∧ (zmeth k).1.name ≠ "<init>") ∨ (zmk k = 1 ∧ Cond.static (zmeth k).1 ∈ zG) ∨ (zmk k = 2 ∧ Cond.instanceMethod (zmeth k).1 ∈ zG ∧ (zmeth k).1.name = "<init>" ∧ zret k = none)) := by
  have h1 := zmok_all k h0 h
  have h2 := zcd_all k h0 h
  unfold zmok at h1
  unfold zmk zml zret at *
  generalize zmw.getD k (3, 0, 0, 0, 0) = a at h1 ⊢
  obtain ⟨kd, p1, p2, p3, p4⟩ := a
  generalize zmeth k = b at h1 h2 ⊢
  obtain ⟨y, b, n, r, ci, np⟩ := b
  simp only [Bool.and_eq_true, decide_eq_true_eq] at h1
  obtain ⟨⟨⟨⟨⟨a1, a3⟩, a4⟩, a5⟩, a6⟩, a7⟩ := h1
  refine ⟨zat_in a1, h2, a3, a4, a5, a6, ?_⟩
  split at a7
  · simp only [Bool.and_eq_true, decide_eq_true_eq] at a7
    exact Or.inl ⟨rfl, zat_in a7.1.1, zat_in a7.1.2, a7.2⟩
  · exact Or.inr (Or.inl ⟨rfl, zat_in a7⟩)
  · simp only [Bool.and_eq_true, decide_eq_true_eq] at a7
    exact Or.inr (Or.inr ⟨rfl, zat_in a7.1.1, a7.1.2, a7.2⟩)
  · cases a7
theorem zlk_of {k n : Nat} {x : Nat × Nat × Nat × Nat} (hk : k < 240) (h : zlk k n = some x) : zlok (zcid k) (n, x) = true := by
  have h1 := zlok_all (zcid k) (zown_all k hk).2
  have h2 : ∀ r : List (Nat × Nat × Nat × Nat × Nat), zfind2 r n = some x → (n, x) ∈ r := by
    intro r
    induction r with
    | nil => intro h; cases h
    | cons a r ih =>
      intro h
      obtain ⟨j, w⟩ := a
      simp only [zfind2] at h
      split at h
      · next q => cases h; rw [← q]; exact List.mem_cons_self
      · exact List.mem_cons_of_mem _ (ih h)
  exact List.all_eq_true.mp h1 _ (h2 _ h)
theorem zargs_of {n : Nat} {st as r : List Value} (h : zargs n st = some (as, r)) : as.length = n ∧ st = as.reverse ++ r := by
  unfold zargs at h
  split at h
  · next hn =>
    simp only [Option.some.injEq, Prod.mk.injEq] at h
    obtain ⟨rfl, rfl⟩ := h
    exact ⟨by simp [hn], by rw [List.reverse_reverse, List.take_append_drop]⟩
  · cases h
theorem zGws (q : Nat) (h0 : 0 < q) (h : q < 240) : GoodIn zG (Cond.code (zmeth q).1 (zmeth q).2.1 (zml q) (zret q) :: zG) := fun w hw => by
  rcases List.mem_cons.mp hw with e | hw
  · rw [e]; exact zG_zG _ (zmok_of h0 h).2.1
  · exact zG_zG _ hw
/-- the receiver of a call -/
theorem zrecv {M : ZMem} {o : Nat} {C : String} (hE : zEnv ρ cA D s s.heap) (hr : zRl ρ cA D s M H locs cells) (h : ((zsh M o).1 < 13 ∧ 20 ≤ o ∧ o < zn M ∧ (zcl (zsh M o).1).1 = C) ∨ ((zsh M o).1 = 13 ∧ 2 ≤ o ∧ o < 9 ∧ C = "java/lang/String")) : o ≠ 18 ∧ ∃ cell : Cell, H[zadr ρ o]? = some cell ∧ cell.vm.isStatics = false ∧ s.vm.findClass C = some cell.cls := by
  obtain ⟨hO, hP, hz, hS⟩ := hr
  rcases h with ⟨h1, h2, h3, h4⟩ | ⟨h1, h2, h3, rfl⟩
  · refine ⟨by omega, ?_⟩
    have hw := zws_at (ρ := ρ) (cA := cA) h2 h3
    have hc : zcell ρ cA M o = .inr ((zsh M o).1, zflds ρ M (zsh M o).1 o) := if_pos h1
    rw [hc] at hw
    obtain ⟨cell, a1, a2, a3⟩ := va_recv hE.1 hP (zvw _ h1) hw
    rw [h4] at a3
    exact ⟨cell, a1, a2, a3⟩
  · refine ⟨by omega, ?_⟩
    obtain ⟨-, -, -, -, h7, -⟩ := hE
    obtain ⟨cell, a1, a2, a3⟩ := vk_recv (i := o - 2) h7 (by omega) hS
    have e : ρ.1 (2 + (o - 2)) = zadr ρ o := by
      simp only [zadr, if_pos (show o < 20 by omega), show 2 + (o - 2) = o by omega]
    rw [e] at a1
    exact ⟨cell, a1, a2, a3⟩
end ZC
