-- ===== end of PART A; then your names; then what follows =====
/-! THE CLAIM OUT OF ONE WALK OF THE LAW'S BODY. Your part is whole_start (and what it stands on); all else here is the same for every law, but numbers. -/
def R_law : String := "SlateHalvesLaw"
def lw_P (b : Addr) (xs : List Int32) (args : Array Value) (s : State) : Prop := args = #[.ref b] ∧ s.IntsAt b xs ∧ xs.length ≤ 3072 ∧ (Jvm.Cond.and given_1 narrow_1).before args s = true
def lw_Q (_ : Array Value) (s : State) (o : Outcome) (t : State) : Prop := o = .returned (some (.int 1)) ∧ Framed s o t [] 600000 7302249
def lw_Z (below : List Frame) (a : Array Value) (s : State) : State → Prop := fun t => ∃ o, t.status = .running ∧ Ended t below o ∧ lw_Q a s o t
/-- the law's own end, with 1 on the stack, nothing written that was there before, its room as the claim has it -/
theorem lw_ret {p : Program} {l : Launch} {e : Env} {s : State} {m : MethodId} {below : List Frame} {meth : Method} {c : Code} {b : Nat} (hx : p.tables.exec = Jvm.exec) (hb : c.code = code) (hr : meth.sig.returnType = ret) (hlocks : meth.locks = false) {pc : Nat} {H : Heap} {ls : Array Slot} (hdg : decode code pc = .ok (.ireturn, 1)) : W p l e room_1 s m #[Value.ref b] below meth c H [] 600000 7302249 (lw_Z below #[Value.ref b] s) (F0 m pc ls [.int 1]) := by
  intro T hT X
  obtain ⟨fs, hret, hrun, hended, hW, hframe⟩ := X.leave (v := some (.int 1)) (hlocks := hlocks) (fun h => by rw [hr] at h; cases h)
  have hmeth' : T.vm.method? m = some meth := X.method'
  refine ⟨T.setFrames fs, ?_, .returned (some (.int 1)), hrun, hended, rfl, ⟨_, rfl⟩, hW, hframe⟩
  jvm_step X.here [X.here.top, hx, hb, hdg, hmeth', hr, ret, narrow_b1]
  (try refine ⟨rfl, ?_⟩); (try refine ⟨rfl, ?_⟩)
  first | (intro acts; rw [hret _ acts rfl rfl rfl]) | rw [hret _ _ rfl rfl rfl]
  exact Steps.refl _
/-- what holds at the law's entry: the machine, the code, the tables' words (any of lw_tbl by 'hts w (by decide +kernel)'), the script of L ints xs at the cell b, what the Statement gives of the start (any of its parts by flat_of_before) -/
def lw_At (p : Program) (s : State) (m : MethodId) (meth : Method) (c : Code) (b L : Nat) (xs : Nat → Int32) : Prop :=
  p.tables.exec = Jvm.exec ∧ c.code = code ∧ meth.sig.returnType = ret ∧ c.maxLocals = 4 ∧ s.vm.findClass R_law = some m.cls ∧ (∀ w ∈ lw_tbl, w.before #[Value.ref b] s = true) ∧ va_X b L xs s s.heap ∧ b < s.heap.size ∧ meth.locks = false ∧ (Jvm.Cond.and given_1 narrow_1).before #[Value.ref b] s = true
-- ===== YOUR PART BEGINS =====
def zLaw : Prop := ∀ (L : Nat) (xs : Nat → Int32), L ≤ 3072 → ∃ (d f : Nat) (M' : ZMem), d ≤ 1000 ∧ zr (some (L, xs)) d f 0 (0, [(0, .ref 0)], []) zM0 = some (some (.int 1), M') ∧ zn M' ≤ 600000 ∧ zc M' ≤ 7302249
set_option maxRecDepth 10000 in
theorem zwhole (hlaw : zLaw) {p : Program} {e : Env} {s : State} {m : MethodId} {below : List Frame} {meth : Method} {c : Code} (l : Launch) {b L : Nat} {xs : Nat → Int32} (hL : L ≤ 3072) (C0 : lw_At p s m meth c b L xs) : W p l e room_1 s m #[Value.ref b] below meth c s.heap [] 0 0 (lw_Z below #[Value.ref b] s) (entryFrame m ([Value.ref b] : List Value).toArray 4) := by
  obtain ⟨hx, hb, hr, hml, hown, hts, hX, hbl, hlocks, hgv⟩ := C0
  obtain ⟨ρ, cA, D, e0, eb, hf, hE⟩ := zstart (b := b) hts hgv
  obtain ⟨d, f, M', hd, hrun, hn, hc⟩ := hlaw L xs hL
  have F : zFx p s m #[Value.ref b] meth c ρ cA D 0 := ⟨by decide, hx, hb, hml, hown, fun w hw => hts w (List.mem_filter.mp hw).1, fun h => absurd h (by decide), hf, hE, by rw [eb]; exact Nat.le_refl _⟩
  have hl := lv_entry ([.ref b]) (n := 4) (Nat.le_of_ble_eq_true rfl)
  rw [lg_entry_eq]
  generalize (lg_sl ([.ref b]) ++ List.replicate (4 - (lg_sl ([.ref b])).length) Slot.unset).toArray = ls at hl ⊢
  have ead : zcv ρ (.ref 0) = .ref b := by rw [zcv_ne (by omega), show zadr ρ 0 = ρ.1 0 from if_pos (by omega), e0]
  have hl : lv_has ls (zml 0) (zcl2 ρ [(0, .ref 0)]) := by
    show lv_has ls 4 [(0, zcv ρ (.ref 0))]
    rw [ead]
    exact hl
  have hR : zRl ρ cA D s zM0 s.heap [] 0 := ⟨⟨Nat.le_refl _, fun p hp => ⟨rfl, fun _ => rfl, fun _ => rfl⟩⟩, fun k q h => absurd (zws_of h).1 (by show ¬ k + 20 < 20; omega), by rw [eb]; rfl, va_S.rf⟩
  have hsc : zSc (some (L, xs)) ρ s := fun L' xs' h => by
    cases h
    rw [e0, eb]
    exact ⟨hX, hbl, by omega⟩
  refine zrun (l := l) hf f (some (L, xs)) d 0 (0, [(0, .ref 0)], []) zM0 _ M' F hsc ⟨by show d ≤ 2048; omega, by show 60 * d ≤ 84000; omega⟩ hrun (by show 0 + (zn M' - zn zM0) ≤ 600000; omega) (by show 0 + (zc M' - zc zM0) ≤ 7302249; omega) hl hR ?_
  intro pc i st ls' H' locs' hi hz hr'
  unfold zend at hz
  split at hz
  · split at hz
    · split at hz
      · cases hz
        refine va_forget (fun q hq => by have := hr'.2.2.2.2.2 q hq; rw [eb] at this; exact this) ?_
        refine W.widen (k := 600000) (n := 7302249) (by omega) (by omega) ?_
        exact lw_ret hx hb hr hlocks (zdec (k := 0) (by decide) hi rfl)
      · cases hz
    · cases hz
  · split at hz
    · cases hz
    · cases hz
  · split at hz
    · split at hz <;> cases hz
    · cases hz
  · split at hz
    · split at hz <;> cases hz
    · cases hz
  · split at hz <;> cases hz
  · cases hz
