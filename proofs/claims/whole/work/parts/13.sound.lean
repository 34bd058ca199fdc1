/-! THE SOUNDNESS of the abstract machine -/
theorem zpf_m {M M' : ZMem} {t j o : Nat} {v : Value} {b : Bool} (h : zpf M t j o v b = some M') : zn M ≤ zn M' ∧ zc M ≤ zc M' := by
  obtain ⟨-, -, q2, q3, -⟩ := zpf_of h
  exact ⟨Nat.le_of_eq q2.symm, Nat.le_of_eq q3.symm⟩
theorem zsa_m {M M' : ZMem} {t p : Nat} {i x : Int32} (h : zsa M t p i x = some M') : zn M ≤ zn M' ∧ zc M ≤ zc M' := ⟨Nat.le_of_eq (zsa_n h).1.symm, Nat.le_of_eq (zsa_n h).2.symm⟩
theorem zsaL_m {M M' : ZMem} {p : Nat} {i : Int32} {x : Int64} (h : zsaL M p i x = some M') : zn M ≤ zn M' ∧ zc M ≤ zc M' := ⟨Nat.le_of_eq (zsaL_n h).1.symm, Nat.le_of_eq (zsaL_n h).2.symm⟩
theorem zsaR_m {M M' : ZMem} {p q : Nat} {i : Int32} (h : zsaR M p i q = some M') : zn M ≤ zn M' ∧ zc M ≤ zc M' := ⟨Nat.le_of_eq (zsaR_n h).1.symm, Nat.le_of_eq (zsaR_n h).2.symm⟩
theorem zcopy_m {M M' : ZMem} {p q : Nat} {sp dp n : Int32} (h : zcopy M p sp q dp n = some M') : zn M ≤ zn M' ∧ zc M ≤ zc M' := ⟨Nat.le_of_eq (zcopy_n h).1.symm, Nat.le_of_eq (zcopy_n h).2.symm⟩
set_option maxHeartbeats 2000000 in
theorem zs_mono {sc : Option (Nat × (Nat → Int32))} {d k pc : Nat} {lo : List (Nat × Value)} {st : List Value} {M M' : ZMem} {i : Instr} {g' : ZFr} (hs : zs sc d k pc lo st M i = some (g', M')) : zn M ≤ zn M' ∧ zc M ≤ zc M' := by
  unfold zs at hs
  split at hs
  all_goals (repeat' (split at hs))
  all_goals first
    | (cases hs; first | done | exact ⟨Nat.le_refl _, Nat.le_refl _⟩ | exact ⟨Nat.le_succ _, Nat.le_add_right _ _⟩)
    | (obtain ⟨x, hv, e⟩ := Option.map_eq_some_iff.mp hs
       cases e
       first
         | exact ⟨Nat.le_refl _, Nat.le_refl _⟩
         | exact zpf_m hv
         | exact zsa_m hv
         | exact zsaL_m hv
         | exact zsaR_m hv
         | exact zcopy_m hv)
theorem zr_mono : ∀ (f : Nat) (sc : Option (Nat × (Nat → Int32))) (d k : Nat) (g : ZFr) (M : ZMem) (v : Option Value) (M' : ZMem), zr sc d f k g M = some (v, M') → zn M ≤ zn M' ∧ zc M ≤ zc M' := by
  intro f
  induction f with
  | zero => intro sc d k g M v M' h; cases h
  | succ f ih =>
    intro sc d k g M v M' h
    unfold zr at h
    split at h
    · cases h
    · split at h
      · next g1 M1 hs =>
        have h1 := zs_mono hs
        have h2 := ih _ _ _ _ _ _ _ h
        exact ⟨Nat.le_trans h1.1 h2.1, Nat.le_trans h1.2 h2.2⟩
      · split at h
        · split at h
          · cases h
          · split at h
            · next v1 M1 hin =>
              have h1 := ih _ _ _ _ _ _ _ hin
              have h2 := ih _ _ _ _ _ _ _ h
              exact ⟨Nat.le_trans h1.1 h2.1, Nat.le_trans h1.2 h2.2⟩
            · cases h
        · split at h
          · cases h; exact ⟨Nat.le_refl _, Nat.le_refl _⟩
          · cases h
theorem zMet_of {l : Launch} {y : MethodName} {ws ws' : List Jvm.Cond} {rm : Room} {Pc : Array Value → State → Prop} {Qc : Array Value → State → Outcome → State → Prop} {mc ms : Nat} {free : Addr → Prop} {cc : ByteArray} {maxL : Nat} {ret : Option FieldType} (hy : plainFor y = true) (hw : ws = Cond.code y cc maxL ret :: ws')
    (body : ∀ p e s m args below meth c s₁, BodyLoose p l y (headSpec ws rm) cc maxL ret e s m args below meth c s₁ → c.maxLocals = maxL → Pc args s → W p l e (headSpec ws rm).room s m args below meth c s.heap [] 0 0 (MQ below Qc args s mc ms free) (entryFrame m args maxL)) : Met l y ws rm Pc Qc mc ms free := by
  refine MetFree.of_bodySF (code := cc) (maxLocals := maxL) (ret := ret) hy ?_ ?_
  · intro args s m h hn
    obtain ⟨meth, c, h1, h2, h3, h4, h5, h6, -, -⟩ := Cond.code_spec hn (atoms_spec (ws := ws) h _ (by rw [hw]; exact List.mem_cons_self))
    exact ⟨meth, c, h1, h2, h3, h4, h5, h6⟩
  · intro p e s m args below meth c s₁ B hml hP _
    have hh0 : s₁.heap = s.heap := by rw [B.state]; rfl
    obtain ⟨t, a1, o, b1, b2, b3⟩ := body p e s m args below meth c s₁ B hml hP s₁ hh0 (Stand.of_body B)
    exact ⟨t, o, a1, b1, b2, ⟨b3.1, b3.2⟩⟩
/-- whom a call calls -/
theorem zcall_q {k : Nat} {i : Instr} {st as r : List Value} {q : Nat} {M : ZMem} (hk : k < 240) (hc : zcall k i st M = some (q, as, r)) : 0 < q ∧ q < 240 ∧ (lg_sl as).length ≤ zml q := by
  unfold zcall at hc
  repeat' (split at hc)
  all_goals first
    | (next hlk _ _ _ _ _ hcc => 
        cases hc
        have hw := zlk_of hk hlk
        simp only [zlok, Bool.and_eq_true, decide_eq_true_eq] at hw
        exact ⟨hw.1.1.1, hw.1.1.2, hcc.2.2.2⟩)
    | (next hlk _ _ _ _ hcc => 
        cases hc
        have hw := zlk_of hk hlk
        simp only [zlok, Bool.and_eq_true, decide_eq_true_eq] at hw
        exact ⟨hw.1.1.1, hw.1.1.2, hcc.2.2⟩)
    | cases hc
section ZSND
variable {p : Program} {l : Launch} {e : Env} {R : Room} {s : State} {m : MethodId} {args : Array Value} {below : List Frame} {meth : Method} {c : Code} {H : Heap} {locs : List Loc} {cells slots : Nat}
variable {ρ : ZAd} {cA : Nat → ClassId} {D : va_G} {k pc : Nat} {ls : Array Slot}
/-- a return -/
theorem zendW {i : Instr} {st : List Value} {v : Option Value} {Qc : Array Value → State → Outcome → State → Prop} {free : Addr → Prop} (F : zFx p s m args meth c ρ cA D k) (hret : meth.sig.returnType = zret k) (hlocks : meth.locks = false) (hi : zi k pc = some i) (hz : zend k i st = some v) (hq : ∀ t : State, t.heap = H → s.WarmedH t.vm → Qc args s (.returned (v.map (zcv ρ))) t) (hfr : ∀ q ∈ locs, free q.base) : W p l e R s m args below meth c H locs cells slots (MQ below Qc args s cells slots free) (F0 m pc ls (st.map (zcv ρ))) := by
  obtain ⟨hk, hx, hb, hml, hown, hts, hini, hf, hE, hbs⟩ := F
  unfold zend at hz
  split at hz
  · split at hz
    · next ty hty =>
      split at hz
      · next hc =>
        cases hz
        exact W.zret hx hb (hret.trans hty) hc.2 hq hfr (zdec hk hi rfl) hlocks
      · cases hz
    · cases hz
  · split at hz
    · next hc =>
      cases hz
      exact W.lret hx hb (hret.trans hc) hq hfr (zdec hk hi rfl) hlocks
    · cases hz
  · split at hz
    · next ty hty =>
      split at hz
      · next hc =>
        cases hz
        have hrt : (∃ n, ty = .object n) ∨ ∃ t, ty = .array t := by
          obtain ⟨h2, -⟩ := hc
          cases ty <;> first | exact Or.inl ⟨_, rfl⟩ | exact Or.inr ⟨_, rfl⟩ | cases h2
        exact W.aret hx hb (hret.trans hty) hrt (zcv_r hf _) hq hfr (zdec hk hi rfl) hlocks
      · cases hz
    · cases hz
  · split at hz
    · next ty hty =>
      split at hz
      · next h2 =>
        cases hz
        have hrt : (∃ n, ty = .object n) ∨ ∃ t, ty = .array t := by
          cases ty <;> first | exact Or.inl ⟨_, rfl⟩ | exact Or.inr ⟨_, rfl⟩ | cases h2
        exact W.aret hx hb (hret.trans hty) hrt (Or.inl rfl) hq hfr (zdec hk hi rfl) hlocks
      · cases hz
    · cases hz
  · split at hz
    · next hc =>
      cases hz
      exact W.vret hx hb (hret.trans hc) hq hfr (zdec hk hi rfl) hlocks
    · cases hz
  · cases hz
/-- a call, by its kind -/
theorem zcallR {i : Instr} {st as r : List Value} {q d : Nat} {v : Option Value} {M M' : ZMem} (F : zFx p s m args meth c ρ cA D k) (hR : d + 1 ≤ R.frames ∧ 60 * (d + 1) ≤ R.locals) (hi : zi k pc = some i) (hc : zcall k i st M = some (q, as, r)) (hC : zCon l ρ cA D d q as M v M') (hls : ls.size = zml k) (hr : zRl ρ cA D s M H locs cells) (hz : H.size = ρ.2.2 + (zn M - 20)) (hcells : cells + (zn M' - zn M) ≤ R.cells) (hslots : slots + (zc M' - zc M) ≤ R.slots) :
    va_Run p l e R s m args below meth c H locs cells slots (zn M' - zn M) (zc M' - zc M) (F0 m pc ls (st.map (zcv ρ))) (r.map (zcv ρ)) (fun st oc t => oc = .returned (v.map (zcv ρ)) ∧ zOld M' ∧ va_P D vwCl (zws ρ cA M') t.heap ∧ va_F (fun q => ρ.2.2 ≤ q) st t) (fun q => ρ.2.2 ≤ q) := by
  have F' := F
  obtain ⟨hk, hx, hb, hml, hown, hts, hini, hf, hE, hbs⟩ := F
  have hS : CallFix p m c (zmeth k).2.1 (zml k) s args zG (zmeth k).1.cls := ⟨hx, hb, hml, hown, hts⟩
  have hroom : ∀ q, 0 < q → q < 240 → d + 1 ≤ R.frames ∧ 8 + (zml q + 11) + 60 * d ≤ R.locals := fun q h0 h1 => ⟨hR.1, by have := (zmok_of h0 h1).2.2.2.2.2.1; omega⟩
  unfold zcall at hc
  split at hc
  · -- by its object
    split at hc
    · next np _ hlk =>
      split at hc
      · next a o r' hag =>
        split at hc
        · next hcc =>
          cases hc
          obtain ⟨c1, c2, c3, c4⟩ := hcc
          have hw := zlk_of hk hlk
          simp only [zlok, Bool.and_eq_true, decide_eq_true_eq] at hw
          obtain ⟨⟨hq, hnp⟩, hw3⟩ := hw
          have hwn := hts _ (zat_in hw3)
          rw [(zown_all k hk).1] at hwn
          obtain ⟨w1, w2, w3, w4, w5, w6, w7⟩ := zmok_of hq.1 hq.2
          rcases w7 with ⟨-, w8, w9, -⟩ | ⟨h, -⟩ | ⟨h, -⟩
          · obtain ⟨ha1, ha2⟩ := zargs_of hag
            obtain ⟨ho, cell, b1, b2, b3⟩ := zrecv (C := (zmeth q).1.cls) hE hr c2
            have hpre := zPre (as := .ref o :: a) hE hr hz
            have hst : st.map (zcv ρ) = (a.map (zcv ρ)).reverse ++ .ref (zadr ρ o) :: r.map (zcv ρ) := by rw [ha2, List.map_append, List.map_reverse, List.map_cons, zcv_ne ho]
            rw [List.map_cons, zcv_ne ho] at hpre
            unfold zCon at hC
            rw [List.map_cons, zcv_ne ho] at hC
            exact va_runV (As := a.map (zcv ρ)) (rest := r.map (zcv ρ)) hS hC ⟨callB_of np hts (zGws q hq.1 hq.2) rfl rfl rfl (hts _ w1) hwn ⟨w4.1, w4.2, by rw [w5, hnp]⟩ (hroom q hq.1 hq.2), hts _ w8, hts _ w9⟩ ⟨hpre.1, ⟨cell, b1, b2, b3⟩, hpre.2⟩ rfl (by rw [List.length_map]; exact ha1) hls hst (lv_room (by rw [zsum hf]; exact c3)) (zdec hk hi rfl) ⟨hcells, hslots⟩
          · rw [c1] at h; cases h
          · rw [c1] at h; cases h
        · cases hc
      · cases hc
    · cases hc
  · split at hc
    · next np _ hlk =>
      split at hc
      · next a r' hag =>
        split at hc
        · next hcc =>
          cases hc
          obtain ⟨c1, c3, c4⟩ := hcc
          have hw := zlk_of hk hlk
          simp only [zlok, Bool.and_eq_true, decide_eq_true_eq] at hw
          obtain ⟨⟨hq, hnp⟩, hw3⟩ := hw
          have hwn := hts _ (zat_in hw3)
          rw [(zown_all k hk).1] at hwn
          obtain ⟨w1, w2, w3, w4, w5, w6, w7⟩ := zmok_of hq.1 hq.2
          rcases w7 with ⟨h, -⟩ | ⟨-, w8⟩ | ⟨h, -⟩
          · rw [c1] at h; cases h
          · obtain ⟨ha1, ha2⟩ := zargs_of hag
            have hpre := zPre (as := as) hE hr hz
            have hst : st.map (zcv ρ) = (as.map (zcv ρ)).reverse ++ r.map (zcv ρ) := by rw [ha2, List.map_append, List.map_reverse]
            unfold zCon at hC
            exact va_runS (As := as.map (zcv ρ)) (rest := r.map (zcv ρ)) hS hC ⟨callB_of np hts (zGws q hq.1 hq.2) rfl rfl rfl (hts _ w1) hwn ⟨w4.1, w4.2, by rw [w5, hnp]⟩ (hroom q hq.1 hq.2), hts _ w8⟩ hpre rfl (by rw [List.length_map]; exact ha1) hls hst (lv_room (by rw [zsum hf]; exact c3)) (zdec hk hi rfl) ⟨hcells, hslots⟩
          · rw [c1] at h; cases h
        · cases hc
      · cases hc
    · next np _ hlk =>
      split at hc
      · next a r' hag =>
        split at hc
        · next hcc =>
          cases hc
          obtain ⟨c1, c3, c4⟩ := hcc
          have hw := zlk_of hk hlk
          simp only [zlok, Bool.and_eq_true, decide_eq_true_eq] at hw
          obtain ⟨⟨hq, hnp⟩, hw3⟩ := hw
          obtain ⟨z, hz1, hz2⟩ := List.any_eq_true.mp hw3
          simp only [decide_eq_true_eq] at hz2
          have hwn := hE.2.1 z hz1
          rw [hz2.1, hz2.2.1, hz2.2.2, (zown_all k hk).1] at hwn
          obtain ⟨w1, w2, w3, w4, w5, w6, w7⟩ := zmok_of hq.1 hq.2
          rcases w7 with ⟨h, -⟩ | ⟨-, w8⟩ | ⟨h, -⟩
          · rw [c1] at h; cases h
          · obtain ⟨ha1, ha2⟩ := zargs_of hag
            have hpre := zPre (as := as) hE hr hz
            have hst : st.map (zcv ρ) = (as.map (zcv ρ)).reverse ++ r.map (zcv ρ) := by rw [ha2, List.map_append, List.map_reverse]
            unfold zCon at hC
            exact va_runSN (As := as.map (zcv ρ)) (rest := r.map (zcv ρ)) hS hC ⟨va_cnB np hts (zGws q hq.1 hq.2) rfl rfl rfl hwn (hts _ w1) ⟨w4.1, w4.2, by rw [w5, hnp]⟩ (hroom q hq.1 hq.2), hts _ w8, trivial⟩ hpre rfl (by rw [List.length_map]; exact ha1) hls hst (lv_room (by rw [zsum hf]; exact c3)) (zdec hk hi rfl) ⟨hcells, hslots⟩
          · rw [c1] at h; cases h
        · cases hc
      · cases hc
    · cases hc
  · split at hc
    · next np _ hlk =>
      split at hc
      · next a o r' hag =>
        split at hc
        · next hcc =>
          cases hc
          obtain ⟨c1, c2, c3, c4⟩ := hcc
          have hw := zlk_of hk hlk
          simp only [zlok, Bool.and_eq_true, decide_eq_true_eq] at hw
          obtain ⟨⟨hq, hnp⟩, hw3⟩ := hw
          have hwn := hts _ (zat_in hw3)
          rw [(zown_all k hk).1] at hwn
          obtain ⟨w1, w2, w3, w4, w5, w6, w7⟩ := zmok_of hq.1 hq.2
          rcases w7 with ⟨h, -⟩ | ⟨h, -⟩ | ⟨-, w8, w9, w10⟩
          · rw [c1] at h; cases h
          · rw [c1] at h; cases h
          · obtain ⟨ha1, ha2⟩ := zargs_of hag
            have hpre := zPre (as := .ref o :: a) hE hr hz
            have hst : st.map (zcv ρ) = (a.map (zcv ρ)).reverse ++ .ref (zadr ρ o) :: r.map (zcv ρ) := by rw [ha2, List.map_append, List.map_reverse, List.map_cons, zcv_ne c2]
            rw [List.map_cons, zcv_ne c2] at hpre
            unfold zCon at hC
            rw [List.map_cons, zcv_ne c2] at hC
            have hG := zGws q hq.1 hq.2
            rw [w10] at hC hG
            exact va_runI (As := a.map (zcv ρ)) (rest := r.map (zcv ρ)) hS hC ⟨callB_of np hts hG rfl rfl rfl (hts _ w1) hwn ⟨w4.1, w4.2, by rw [w5, hnp]⟩ (hroom q hq.1 hq.2), w9, hts _ w8⟩ hpre rfl (by rw [List.length_map]; exact ha1) hls hst (lv_room (by rw [zsum hf]; exact c3)) (zdec hk hi rfl) ⟨hcells, hslots⟩
        · cases hc
      · cases hc
    · next np _ hlk =>
      split at hc
      · next a o r' hag =>
        split at hc
        · next hcc =>
          cases hc
          obtain ⟨c1, c2, c3, c4⟩ := hcc
          have hw := zlk_of hk hlk
          simp only [zlok, Bool.and_eq_true, decide_eq_true_eq] at hw
          obtain ⟨⟨hq, hnp⟩, hw3⟩ := hw
          obtain ⟨z, hz1, hz2⟩ := List.any_eq_true.mp hw3
          simp only [decide_eq_true_eq] at hz2
          have hwn := hE.2.1 z hz1
          rw [hz2.1, hz2.2.1, hz2.2.2, (zown_all k hk).1] at hwn
          obtain ⟨w1, w2, w3, w4, w5, w6, w7⟩ := zmok_of hq.1 hq.2
          rcases w7 with ⟨h, -⟩ | ⟨h, -⟩ | ⟨-, w8, w9, w10⟩
          · rw [c1] at h; cases h
          · rw [c1] at h; cases h
          · obtain ⟨ha1, ha2⟩ := zargs_of hag
            have hpre := zPre (as := .ref o :: a) hE hr hz
            have hst : st.map (zcv ρ) = (a.map (zcv ρ)).reverse ++ .ref (zadr ρ o) :: r.map (zcv ρ) := by rw [ha2, List.map_append, List.map_reverse, List.map_cons, zcv_ne c2]
            rw [List.map_cons, zcv_ne c2] at hpre
            unfold zCon at hC
            rw [List.map_cons, zcv_ne c2] at hC
            have hG := zGws q hq.1 hq.2
            rw [w10] at hC hG
            exact va_runIN (As := a.map (zcv ρ)) (rest := r.map (zcv ρ)) hS hC ⟨va_cnB np hts hG rfl rfl rfl hwn (hts _ w1) ⟨w4.1, w4.2, by rw [w5, hnp]⟩ (hroom q hq.1 hq.2), w9, hts _ w8⟩ hpre rfl (by rw [List.length_map]; exact ha1) hls hst (lv_room (by rw [zsum hf]; exact c3)) (zdec hk hi rfl) ⟨hcells, hslots⟩
        · cases hc
      · cases hc
    · cases hc
  · cases hc
/-- THE RUN: what the abstract machine comes to, the machine comes to -/
theorem zcon_of {f : Nat} (IH : ∀ {p : Program} {e : Env} {R : Room} {s : State} {m : MethodId} {args : Array Value} {below : List Frame} {meth : Method} {c : Code} {H : Heap} {locs : List Loc} {cells slots : Nat} {Q : State → Prop} {ls : Array Slot} (sc : Option (Nat × (Nat → Int32))) (d k : Nat) (g : ZFr) (M : ZMem) (v : Option Value) (M' : ZMem), zFx p s m args meth c ρ cA D k → zSc sc ρ s → d ≤ R.frames ∧ 60 * d ≤ R.locals → zr sc d f k g M = some (v, M') → cells + (zn M' - zn M) ≤ R.cells → slots + (zc M' - zc M) ≤ R.slots → lv_has ls (zml k) (zcl2 ρ g.2.1) → zRl ρ cA D s M H locs cells →
      (∀ (pc : Nat) (i : Instr) (st : List Value) (ls' : Array Slot) (H' : Heap) (locs' : List Loc), zi k pc = some i → zend k i st = some v → zRl ρ cA D s M' H' locs' (cells + (zn M' - zn M)) → W p l e R s m args below meth c H' locs' (cells + (zn M' - zn M)) (slots + (zc M' - zc M)) Q (F0 m pc ls' (st.map (zcv ρ)))) → W p l e R s m args below meth c H locs cells slots Q (F0 m g.1 ls (g.2.2.map (zcv ρ))))
    (hf : zfm ρ) {d q : Nat} {as : List Value} {M : ZMem} {v : Option Value} {M' : ZMem} (hq0 : 0 < q) (hq : q < 240) (hlen : (lg_sl as).length ≤ zml q) (hin : zr none d f q (0, lv_args 0 as, []) M = some (v, M')) : zCon l ρ cA D d q as M v M' := by
  obtain ⟨w1, w2, w3, w4, w5, w6, w7⟩ := zmok_of hq0 hq
  unfold zCon
  refine zMet_of (cc := (zmeth q).2.1) (maxL := zml q) (ret := zret q) w3 rfl ?_
  intro p e s m args below meth c s₁ B hml hv
  obtain ⟨rfl, hE, hbs, hO, hP, hz⟩ := hv
  have hl := lv_entry (as.map (zcv ρ)) (n := zml q) (by rw [zcl2_sl hf]; exact hlen)
  rw [lg_entry_eq]
  generalize (lg_sl (as.map (zcv ρ)) ++ List.replicate (zml q - (lg_sl (as.map (zcv ρ))).length) Slot.unset).toArray = ls at hl ⊢
  rw [zcl2_args hf] at hl
  have hts := atoms_spec (ws := Cond.code (zmeth q).1 (zmeth q).2.1 (zml q) (zret q) :: zG) B.pre
  have F : zFx p s m (as.map (zcv ρ)).toArray meth c ρ cA D q := ⟨hq, B.exec, B.bytes, hml, findClass_of_methodNamed B.named, fun w hw => hts w (List.mem_cons_of_mem _ hw), fun h => by
      have h1 := (name_of_methodNamed B.named B.method).1
      rw [h1]
      exact eq_of_beq h, hf, hE, hbs⟩
  have hR : zRl ρ cA D s M s.heap [] 0 := ⟨hO, hP, hz, va_S.rf⟩
  refine IH none d q (0, lv_args 0 as, []) M v M' F (fun L xs h => by cases h) ⟨Nat.le_refl _, Nat.le_refl _⟩ hin (by rw [Nat.zero_add]; exact Nat.le_refl _) (by rw [Nat.zero_add]; exact Nat.le_refl _) hl hR ?_
  intro pc i st ls' H' locs' hi he hr'
  rw [Nat.zero_add] at hr' ⊢
  rw [Nat.zero_add]
  exact zendW F B.returns B.notSynchronized hi he (fun t ht hW => ⟨rfl, hr'.1, by rw [ht]; exact hr'.2.1, hr'.2.2.2.F ht⟩) hr'.2.2.2.2.2
theorem zrun (hf : zfm ρ) : ∀ (f : Nat) {p : Program} {e : Env} {R : Room} {s : State} {m : MethodId} {args : Array Value} {below : List Frame} {meth : Method} {c : Code} {H : Heap} {locs : List Loc} {cells slots : Nat} {Q : State → Prop} {ls : Array Slot} (sc : Option (Nat × (Nat → Int32))) (d k : Nat) (g : ZFr) (M : ZMem) (v : Option Value) (M' : ZMem), zFx p s m args meth c ρ cA D k → zSc sc ρ s → d ≤ R.frames ∧ 60 * d ≤ R.locals → zr sc d f k g M = some (v, M') → cells + (zn M' - zn M) ≤ R.cells → slots + (zc M' - zc M) ≤ R.slots → lv_has ls (zml k) (zcl2 ρ g.2.1) → zRl ρ cA D s M H locs cells →
      (∀ (pc : Nat) (i : Instr) (st : List Value) (ls' : Array Slot) (H' : Heap) (locs' : List Loc), zi k pc = some i → zend k i st = some v → zRl ρ cA D s M' H' locs' (cells + (zn M' - zn M)) → W p l e R s m args below meth c H' locs' (cells + (zn M' - zn M)) (slots + (zc M' - zc M)) Q (F0 m pc ls' (st.map (zcv ρ)))) → W p l e R s m args below meth c H locs cells slots Q (F0 m g.1 ls (g.2.2.map (zcv ρ))) := by
  intro f
  induction f with
  | zero => intro p e R s m args below meth c H locs cells slots Q ls sc d k g M v M' F hsc hR h; cases h
  | succ f ih =>
    intro p e R s m args below meth c H locs cells slots Q ls sc d k g M v M' F hsc hR h hcells hslots hl hr hend
    unfold zr at h
    split at h
    · cases h
    · next i hi =>
      split at h
      · next g1 M1 hs =>
        have m1 := zs_mono hs
        have m2 := zr_mono _ _ _ _ _ _ _ _ h
        have e1 : cells + (zn M1 - zn M) + (zn M' - zn M1) = cells + (zn M' - zn M) := by omega
        have e2 : slots + (zc M1 - zc M) + (zc M' - zc M1) = slots + (zc M' - zc M) := by omega
        refine zstep F hsc hR hi hs (by omega) (by omega) hl hr (fun ls' H' locs' hl' hr' => ?_)
        refine ih sc d k g1 M1 v M' F hsc hR h (by omega) (by omega) hl' hr' (fun pc i st ls2 H2 locs2 h1 h2 h3 => ?_)
        rw [e1] at h3 ⊢
        rw [e2]
        exact hend pc i st ls2 H2 locs2 h1 h2 h3
      · split at h
        · next q as r hc =>
          split at h
          · cases h
          · next d' _ =>
            split at h
            · next v1 M1 hin =>
              have m1 := zr_mono _ _ _ _ _ _ _ _ hin
              have m2 := zr_mono _ _ _ _ _ _ _ _ h
              have e1 : cells + (zn M1 - zn M) + (zn M' - zn M1) = cells + (zn M' - zn M) := by omega
              have e2 : slots + (zc M1 - zc M) + (zc M' - zc M1) = slots + (zc M' - zc M) := by omega
              obtain ⟨hq0, hq, hlen⟩ := zcall_q F.1 hc
              have hC : zCon l ρ cA D d' q as M v1 M1 := zcon_of ih hf hq0 hq hlen hin
              refine zsize F.2.2.2.2.2.2.2.2.2 hr fun hz => ?_
              refine zcallW (v := v1.map (zcv ρ)) (rest := r.map (zcv ρ)) (zcallR F hR hi hc hC hl.1 hr hz (by omega) (by omega)) hr m1.1 (fun H1 locs1 hr1 => ?_)
              have est : (v1.map (zcv ρ)).toList ++ r.map (zcv ρ) = (v1.toList ++ r).map (zcv ρ) := by cases v1 <;> simp
              rw [est]
              refine ih sc (d' + 1) k (g.1 + 3, g.2.1, v1.toList ++ r) M1 v M' F hsc hR h (by omega) (by omega) hl hr1 (fun pc i st ls2 H2 locs2 h1 h2 h3 => ?_)
              rw [e1] at h3 ⊢
              rw [e2]
              exact hend pc i st ls2 H2 locs2 h1 h2 h3
            · cases h
        · split at h
          · next v2 hz =>
            cases h
            have e1 : cells + (zn M - zn M) = cells := by omega
            have e2 : slots + (zc M - zc M) = slots := by omega
            have h3 := hend g.1 i g.2.2 ls H locs hi hz (by rw [e1]; exact hr)
            rw [e1, e2] at h3
            exact h3
          · cases h
end ZSND
