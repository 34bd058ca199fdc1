theorem zsa_n {M M' : ZMem} {t p : Nat} {i x : Int32} (h : zsa M t p i x = some M') : zn M' = zn M ∧ zc M' = zc M := by
  unfold zsa at h
  split at h
  · cases h; exact ⟨rfl, rfl⟩
  · cases h
theorem zsaL_n {M M' : ZMem} {p : Nat} {i : Int32} {x : Int64} (h : zsaL M p i x = some M') : zn M' = zn M ∧ zc M' = zc M := by
  unfold zsaL at h
  split at h
  · cases h; exact ⟨rfl, rfl⟩
  · cases h
theorem zsaR_n {M M' : ZMem} {p q : Nat} {i : Int32} (h : zsaR M p i q = some M') : zn M' = zn M ∧ zc M' = zc M := by
  unfold zsaR at h
  split at h
  · cases h; exact ⟨rfl, rfl⟩
  · cases h
theorem zcopy_n {M M' : ZMem} {p q : Nat} {sp dp n : Int32} (h : zcopy M p sp q dp n = some M') : zn M' = zn M ∧ zc M' = zc M := by
  unfold zcopy at h
  split at h
  · split at h
    · cases h; exact ⟨rfl, rfl⟩
    · split at h
      · cases h; exact ⟨rfl, rfl⟩
      · cases h
  · cases h
theorem zn_new {M : ZMem} {t len sl : Nat} : zn (znew M t len sl) - zn M = 1 := Nat.add_sub_cancel_left (n := zn M) (m := 1)
theorem zc_new {M : ZMem} {t len sl : Nat} : zc (znew M t len sl) - zc M = sl := Nat.add_sub_cancel_left (n := zc M) (m := sl)
section ZBIG
variable {p : Program} {l : Launch} {e : Env} {R : Room} {s : State} {m : MethodId} {args : Array Value} {below : List Frame} {meth : Method} {c : Code} {H : Heap} {locs : List Loc} {cells slots : Nat} {Q : State → Prop}
variable {ρ : ZAd} {cA : Nat → ClassId} {D : va_G} {k pc : Nat} {ls : Array Slot}
set_option maxHeartbeats 4000000 in
theorem zstep {sc : Option (Nat × (Nat → Int32))} {d : Nat} {lo : List (Nat × Value)} {st : List Value} {M M' : ZMem} {i : Instr} {g' : ZFr} (F : zFx p s m args meth c ρ cA D k) (hsc : zSc sc ρ s) (hR : d ≤ R.frames ∧ 60 * d ≤ R.locals) (hi : zi k pc = some i) (hs : zs sc d k pc lo st M i = some (g', M')) (hcells : cells + (zn M' - zn M) ≤ R.cells) (hslots : slots + (zc M' - zc M) ≤ R.slots) (hl : lv_has ls (zml k) (zcl2 ρ lo)) (hr : zRl ρ cA D s M H locs cells)
    (kk : ∀ (ls' : Array Slot) (H' : Heap) (locs' : List Loc), lv_has ls' (zml k) (zcl2 ρ g'.2.1) → zRl ρ cA D s M' H' locs' (cells + (zn M' - zn M)) → W p l e R s m args below meth c H' locs' (cells + (zn M' - zn M)) (slots + (zc M' - zc M)) Q (F0 m g'.1 ls' (g'.2.2.map (zcv ρ)))) : W p l e R s m args below meth c H locs cells slots Q (F0 m pc ls (st.map (zcv ρ))) := by
  have hF := F
  obtain ⟨hk, hx, hb, hml, hown, hts, hini, hf, hE, hbs⟩ := hF
  unfold zs at hs
  split at hs
  · cases hs
    simp only [Nat.sub_self, Nat.add_zero] at kk
    exact lv_iconst hx hb (zdec hk hi rfl) rfl (kk _ _ _ hl hr)
  · cases hs
    simp only [Nat.sub_self, Nat.add_zero] at kk
    exact lv_bipush hx hb (zdec hk hi rfl) rfl (kk _ _ _ hl hr)
  · cases hs
    simp only [Nat.sub_self, Nat.add_zero] at kk
    exact lv_sipush hx hb (zdec hk hi rfl) rfl (kk _ _ _ hl hr)
  · cases hs
    simp only [Nat.sub_self, Nat.add_zero] at kk
    exact lv_lconst hx hb (zdec hk hi rfl) rfl (kk _ _ _ hl hr)
  · split at hs
    · next hlk =>
      cases hs
      simp only [Nat.sub_self, Nat.add_zero] at kk
      exact z_ldcS F hi hlk (kk _ _ _ hl hr)
    · obtain ⟨v, hv, e⟩ := Option.map_eq_some_iff.mp hs
      cases e
      simp only [Nat.sub_self, Nat.add_zero] at kk
      exact lv_ldc hx hb hown (hts _ (zki_of hk hv)) (zdec hk hi rfl) (kk _ _ _ hl hr)
  · obtain ⟨v, hv, e⟩ := Option.map_eq_some_iff.mp hs
    cases e
    simp only [Nat.sub_self, Nat.add_zero] at kk
    exact lv_ldcw hx hb hown (hts _ (zki_of hk hv)) (zdec hk hi rfl) (kk _ _ _ hl hr)
  · obtain ⟨v, hv, e⟩ := Option.map_eq_some_iff.mp hs
    cases e
    simp only [Nat.sub_self, Nat.add_zero] at kk
    exact lv_ldc2 hx hb hown (hts _ (zkl_of hk hv)) (zdec hk hi rfl) (kk _ _ _ hl hr)
  · cases hs
    simp only [Nat.sub_self, Nat.add_zero] at kk
    exact lv_null hx hb (zdec hk hi rfl) (kk _ _ _ hl hr)
  · split at hs
    · next hg =>
      cases hs
      simp only [Nat.sub_self, Nat.add_zero] at kk
      exact lv_iload_n hx hb (zdec hk hi rfl) rfl (hl.2.2 _ (zcl2_get hg)) (kk _ _ _ hl hr)
    · cases hs
  · split at hs
    · next hg =>
      cases hs
      simp only [Nat.sub_self, Nat.add_zero] at kk
      exact lv_iload hx hb (zdec hk hi rfl) (hl.2.2 _ (zcl2_get hg)) (kk _ _ _ hl hr)
    · cases hs
  · split at hs
    · next hg =>
      cases hs
      simp only [Nat.sub_self, Nat.add_zero] at kk
      exact lv_lload_n hx hb (zdec hk hi rfl) rfl (hl.2.2 _ (zcl2_get hg)) (kk _ _ _ hl hr)
    · cases hs
  · split at hs
    · next hg =>
      cases hs
      simp only [Nat.sub_self, Nat.add_zero] at kk
      exact lv_lload hx hb (zdec hk hi rfl) (hl.2.2 _ (zcl2_get hg)) (kk _ _ _ hl hr)
    · cases hs
  · split at hs
    · next hg =>
      cases hs
      simp only [Nat.sub_self, Nat.add_zero] at kk
      exact z_aload_n hx hb hf (zdec hk hi rfl) (hl.2.2 _ (zcl2_get hg)) (kk _ _ _ hl hr)
    · next hg =>
      cases hs
      simp only [Nat.sub_self, Nat.add_zero] at kk
      exact lv_aload_nN hx hb (zdec hk hi rfl) rfl (hl.2.2 _ (zcl2_get hg)) (kk _ _ _ hl hr)
    · cases hs
  · split at hs
    · next hg =>
      cases hs
      simp only [Nat.sub_self, Nat.add_zero] at kk
      exact z_aload hx hb hf (zdec hk hi rfl) (hl.2.2 _ (zcl2_get hg)) (kk _ _ _ hl hr)
    · next hg =>
      cases hs
      simp only [Nat.sub_self, Nat.add_zero] at kk
      exact lv_aloadN hx hb (zdec hk hi rfl) (hl.2.2 _ (zcl2_get hg)) (kk _ _ _ hl hr)
    · cases hs
  · split at hs
    · next hn =>
      cases hs
      simp only [Nat.sub_self, Nat.add_zero] at kk
      exact lv_istore_n hx hb (zdec hk hi rfl) rfl hl hn (zcl2_st hf _ _ (.int _)) (fun _ h9 => kk _ _ _ h9 hr)
    · cases hs
  · split at hs
    · next hn =>
      cases hs
      simp only [Nat.sub_self, Nat.add_zero] at kk
      exact lv_istore hx hb (zdec hk hi rfl) hl hn (zcl2_st hf _ _ (.int _)) (fun _ h9 => kk _ _ _ h9 hr)
    · cases hs
  · split at hs
    · next hn =>
      cases hs
      simp only [Nat.sub_self, Nat.add_zero] at kk
      exact z_astore_n hx hb hf (zdec hk hi rfl) hl hn (fun _ h9 => kk _ _ _ h9 hr)
    · cases hs
  · split at hs
    · next hn =>
      cases hs
      simp only [Nat.sub_self, Nat.add_zero] at kk
      exact lv_astore_nN hx hb (zdec hk hi rfl) rfl hl hn (zcl2_st hf _ _ .null) (fun _ h9 => kk _ _ _ h9 hr)
    · cases hs
  · split at hs
    · next hn =>
      cases hs
      simp only [Nat.sub_self, Nat.add_zero] at kk
      exact z_astore hx hb hf (zdec hk hi rfl) hl hn (fun _ h9 => kk _ _ _ h9 hr)
    · cases hs
  · split at hs
    · next hn =>
      cases hs
      simp only [Nat.sub_self, Nat.add_zero] at kk
      exact lv_astoreN hx hb (zdec hk hi rfl) hl hn (zcl2_st hf _ _ .null) (fun _ h9 => kk _ _ _ h9 hr)
    · cases hs
  · split at hs
    · next hg =>
      split at hs
      · next hn =>
        cases hs
        simp only [Nat.sub_self, Nat.add_zero] at kk
        obtain ⟨j, hj⟩ := List.getElem?_of_mem (zcl2_get (ρ := ρ) hg)
        exact lv_iinc hx hb (zdec hk hi rfl) hl hj rfl hn (zcl2_st hf _ _ (.int _)) (fun _ h9 => kk _ _ _ h9 hr)
      · cases hs
    · cases hs
  · cases hs
    simp only [Nat.sub_self, Nat.add_zero] at kk
    exact lv_iadd hx hb (zdec hk hi rfl) (kk _ _ _ hl hr)
  · cases hs
    simp only [Nat.sub_self, Nat.add_zero] at kk
    exact lv_isub hx hb (zdec hk hi rfl) (kk _ _ _ hl hr)
  · cases hs
    simp only [Nat.sub_self, Nat.add_zero] at kk
    exact lv_imul hx hb (zdec hk hi rfl) (kk _ _ _ hl hr)
  · split at hs
    · cases hs
    · next h0 =>
      cases hs
      simp only [Nat.sub_self, Nat.add_zero] at kk
      exact lv_idiv hx hb (zdec hk hi rfl) h0 (kk _ _ _ hl hr)
  · split at hs
    · cases hs
    · next h0 =>
      cases hs
      simp only [Nat.sub_self, Nat.add_zero] at kk
      exact lv_irem hx hb (zdec hk hi rfl) h0 (kk _ _ _ hl hr)
  · cases hs
    simp only [Nat.sub_self, Nat.add_zero] at kk
    exact lv_ineg hx hb (zdec hk hi rfl) (kk _ _ _ hl hr)
  · cases hs
    simp only [Nat.sub_self, Nat.add_zero] at kk
    exact lv_iand hx hb (zdec hk hi rfl) (kk _ _ _ hl hr)
  · cases hs
    simp only [Nat.sub_self, Nat.add_zero] at kk
    exact lv_ior hx hb (zdec hk hi rfl) (kk _ _ _ hl hr)
  · cases hs
    simp only [Nat.sub_self, Nat.add_zero] at kk
    exact lv_ixor hx hb (zdec hk hi rfl) (kk _ _ _ hl hr)
  · cases hs
    simp only [Nat.sub_self, Nat.add_zero] at kk
    exact lv_ishl hx hb (zdec hk hi rfl) (kk _ _ _ hl hr)
  · cases hs
    simp only [Nat.sub_self, Nat.add_zero] at kk
    exact lv_ishr hx hb (zdec hk hi rfl) (kk _ _ _ hl hr)
  · cases hs
    simp only [Nat.sub_self, Nat.add_zero] at kk
    exact lv_iushr hx hb (zdec hk hi rfl) rfl (kk _ _ _ hl hr)
  · cases hs
    simp only [Nat.sub_self, Nat.add_zero] at kk
    exact lv_lshl hx hb (zdec hk hi rfl) rfl (kk _ _ _ hl hr)
  · cases hs
    simp only [Nat.sub_self, Nat.add_zero] at kk
    exact lv_lor hx hb (zdec hk hi rfl) (kk _ _ _ hl hr)
  · cases hs
    simp only [Nat.sub_self, Nat.add_zero] at kk
    exact lv_land hx hb (zdec hk hi rfl) (kk _ _ _ hl hr)
  · cases hs
    simp only [Nat.sub_self, Nat.add_zero] at kk
    exact W.lcmp hx hb (zdec hk hi rfl) (kk _ _ _ hl hr)
  · cases hs
    simp only [Nat.sub_self, Nat.add_zero] at kk
    exact lv_i2l hx hb (zdec hk hi rfl) rfl (kk _ _ _ hl hr)
  · cases hs
    simp only [Nat.sub_self, Nat.add_zero] at kk
    exact lv_l2i hx hb (zdec hk hi rfl) rfl (kk _ _ _ hl hr)
  · cases hs
    simp only [Nat.sub_self, Nat.add_zero] at kk
    exact lv_i2b hx hb (zdec hk hi rfl) rfl (kk _ _ _ hl hr)
  · cases hs
    simp only [Nat.sub_self, Nat.add_zero] at kk
    exact lv_i2s hx hb (zdec hk hi rfl) rfl (kk _ _ _ hl hr)
  · cases hs
    simp only [Nat.sub_self, Nat.add_zero] at kk
    exact lv_i2c hx hb (zdec hk hi rfl) rfl (kk _ _ _ hl hr)
  · split at hs
    · next hn =>
      cases hs
      simp only [Nat.sub_self, Nat.add_zero] at kk
      exact lv_dup hx hb (zdec hk hi rfl) (by rw [zcv_cat hf]; exact hn) (kk _ _ _ hl hr)
    · cases hs
  · split at hs
    · next hn =>
      cases hs
      simp only [Nat.sub_self, Nat.add_zero] at kk
      exact lv_dup2_11 hx hb (zdec hk hi rfl) (by rw [zcv_cat hf]; exact hn.1) (by rw [zcv_cat hf]; exact hn.2) (kk _ _ _ hl hr)
    · cases hs
  · split at hs
    · next hn =>
      cases hs
      simp only [Nat.sub_self, Nat.add_zero] at kk
      exact lv_pop hx hb (zdec hk hi rfl) (by rw [zcv_cat hf]; exact hn) (kk _ _ _ hl hr)
    · cases hs
  · obtain ⟨t, hv, e⟩ := Option.map_eq_some_iff.mp hs
    cases e
    simp only [Nat.sub_self, Nat.add_zero] at kk
    exact lv_goto hx hb (zdec hk hi rfl) (zjmp_of hv) (kk _ _ _ hl hr)
  · obtain ⟨t, hv, e⟩ := Option.map_eq_some_iff.mp hs
    cases e
    simp only [Nat.sub_self, Nat.add_zero] at kk
    exact z_if hx hb (zdec hk hi rfl) (zjmp_of hv) (kk _ _ _ hl hr)
  · obtain ⟨t, hv, e⟩ := Option.map_eq_some_iff.mp hs
    cases e
    simp only [Nat.sub_self, Nat.add_zero] at kk
    exact z_icmp hx hb (zdec hk hi rfl) (zjmp_of hv) (kk _ _ _ hl hr)
  · obtain ⟨t, hv, e⟩ := Option.map_eq_some_iff.mp hs
    cases e
    simp only [Nat.sub_self, Nat.add_zero] at kk
    exact lv_ifnullN hx hb (zdec hk hi rfl) (zjmp_of hv) (kk _ _ _ hl hr)
  · split at hs
    · cases hs
    · next hq =>
      cases hs
      simp only [Nat.sub_self, Nat.add_zero] at kk
      rw [List.map_cons, zcv_ne hq]
      exact lv_ifnull hx hb (zdec hk hi rfl) (kk _ _ _ hl hr)
  · cases hs
    simp only [Nat.sub_self, Nat.add_zero] at kk
    exact lv_ifnonnullN hx hb (zdec hk hi rfl) (kk _ _ _ hl hr)
  · split at hs
    · cases hs
    · next hq =>
      obtain ⟨t, hv, e⟩ := Option.map_eq_some_iff.mp hs
      cases e
      simp only [Nat.sub_self, Nat.add_zero] at kk
      rw [List.map_cons, zcv_ne hq]
      exact lv_ifnonnull hx hb (zdec hk hi rfl) (zjmp_of hv) (kk _ _ _ hl hr)
  · split at hs
    · next hc =>
      obtain ⟨t, hv, e⟩ := Option.map_eq_some_iff.mp hs
      cases e
      simp only [Nat.sub_self, Nat.add_zero] at kk
      obtain ⟨len, hd⟩ := zdec_sw hk hi
      exact z_table hx hb hd hc (zjmp_of hv) (kk _ _ _ hl hr)
    · cases hs
  · split at hs
    · next hc =>
      obtain ⟨t, hv, e⟩ := Option.map_eq_some_iff.mp hs
      cases e
      simp only [Nat.sub_self, Nat.add_zero] at kk
      obtain ⟨len, hd⟩ := zdec_sw hk hi
      exact z_look hx hb hd hc (zjmp_of hv) (kk _ _ _ hl hr)
    · cases hs
  · split at hs
    · next hlk =>
      obtain ⟨v, hv, e⟩ := Option.map_eq_some_iff.mp hs
      cases e
      simp only [Nat.sub_self, Nat.add_zero] at kk
      exact z_getf F hr hi hlk hv (kk _ _ _ hl hr)
    · cases hs
  · split at hs
    · next hlk =>
      obtain ⟨M2, hv, e⟩ := Option.map_eq_some_iff.mp hs
      cases e
      obtain ⟨-, -, q2, q3, -⟩ := zpf_of hv
      rw [q2, q3] at kk
      simp only [Nat.sub_self, Nat.add_zero] at kk
      exact z_putf F hr hi hlk hv (fun H1 l1 h1 => kk _ H1 l1 hl h1)
    · cases hs
  · split at hs
    · next hlk =>
      cases hs
      simp only [Nat.sub_self, Nat.add_zero] at kk
      exact z_gets F hr hi hlk (Or.inl ⟨rfl, rfl⟩) (kk _ _ _ hl hr)
    · next hlk =>
      cases hs
      simp only [Nat.sub_self, Nat.add_zero] at kk
      exact z_gets F hr hi hlk (Or.inr (Or.inl ⟨rfl, rfl⟩)) (kk _ _ _ hl hr)
    · next hlk =>
      cases hs
      simp only [Nat.sub_self, Nat.add_zero] at kk
      exact z_gets F hr hi hlk (Or.inr (Or.inr ⟨rfl, rfl⟩)) (kk _ _ _ hl hr)
    · cases hs
  · split at hs
    · next h0 =>
      split at hs
      · next L xs =>
        split at hs
        · cases hs
        · next hin =>
          cases hs
          simp only [Nat.sub_self, Nat.add_zero] at kk
          subst h0
          obtain ⟨a1, a2, a3⟩ := hsc _ _ rfl
          show W p l e R s m args below meth c H locs cells slots Q (F0 m pc ls (.int _ :: zcv ρ (.ref 0) :: _))
          rw [zcv_ne (by omega), show zadr ρ 0 = ρ.1 0 from if_pos (by omega)]
          exact va_sld hx hb a1 a2 a3 hr.2.2.2 hin (zdec hk hi rfl) (kk _ _ _ hl hr)
      · cases hs
    · next h0 =>
      obtain ⟨x, hv, e⟩ := Option.map_eq_some_iff.mp hs
      cases e
      simp only [Nat.sub_self, Nat.add_zero] at kk
      exact z_iald F hr hi h0 hv (kk _ _ _ hl hr)
  · obtain ⟨x, hv, e⟩ := Option.map_eq_some_iff.mp hs
    cases e
    simp only [Nat.sub_self, Nat.add_zero] at kk
    exact z_bald F hr hi hv (kk _ _ _ hl hr)
  · obtain ⟨x, hv, e⟩ := Option.map_eq_some_iff.mp hs
    cases e
    simp only [Nat.sub_self, Nat.add_zero] at kk
    exact z_lald F hr hi hv (kk _ _ _ hl hr)
  · obtain ⟨x, hv, e⟩ := Option.map_eq_some_iff.mp hs
    cases e
    simp only [Nat.sub_self, Nat.add_zero] at kk
    exact z_aald F hr hi hv (kk _ _ _ hl hr)
  · obtain ⟨M2, hv, e⟩ := Option.map_eq_some_iff.mp hs
    cases e
    obtain ⟨q2, q3⟩ := zsa_n hv
    rw [q2, q3] at kk
    simp only [Nat.sub_self, Nat.add_zero] at kk
    exact z_iast F hr hi hv (fun H1 l1 h1 => kk _ H1 l1 hl h1)
  · obtain ⟨M2, hv, e⟩ := Option.map_eq_some_iff.mp hs
    cases e
    obtain ⟨q2, q3⟩ := zsa_n hv
    rw [q2, q3] at kk
    simp only [Nat.sub_self, Nat.add_zero] at kk
    exact z_bast F hr hi hv (fun H1 l1 h1 => kk _ H1 l1 hl h1)
  · obtain ⟨M2, hv, e⟩ := Option.map_eq_some_iff.mp hs
    cases e
    obtain ⟨q2, q3⟩ := zsaL_n hv
    rw [q2, q3] at kk
    simp only [Nat.sub_self, Nat.add_zero] at kk
    exact z_last F hr hi hv (fun H1 l1 h1 => kk _ H1 l1 hl h1)
  · obtain ⟨M2, hv, e⟩ := Option.map_eq_some_iff.mp hs
    cases e
    obtain ⟨q2, q3⟩ := zsaR_n hv
    rw [q2, q3] at kk
    simp only [Nat.sub_self, Nat.add_zero] at kk
    exact z_aast F hr hi hv (fun H1 l1 h1 => kk _ H1 l1 hl h1)
  · obtain ⟨x, hv, e⟩ := Option.map_eq_some_iff.mp hs
    cases e
    simp only [Nat.sub_self, Nat.add_zero] at kk
    exact z_alen F hsc hr hi hv (kk _ _ _ hl hr)
  · split at hs
    · next t hta =>
      split at hs
      · next hn =>
        cases hs
        simp only [zn_new, zc_new] at hcells hslots kk
        exact z_newa F hr hi hta hn hcells hslots (fun H1 h1 => kk _ H1 _ hl h1)
      · cases hs
    · cases hs
  · split at hs
    · next hlk =>
      split at hs
      · next hn =>
        cases hs
        simp only [zn_new, zc_new] at hcells hslots kk
        exact z_anew F hr hi hlk hn hcells hslots (fun H1 h1 => kk _ H1 _ hl h1)
      · cases hs
    · cases hs
  · split at hs
    · next hlk =>
      split at hs
      · next hn =>
        cases hs
        simp only [zn_new, zc_new] at hcells hslots kk
        exact z_new F hr hi hlk hn hcells hslots (fun H1 h1 => kk _ H1 _ hl h1)
      · cases hs
    · cases hs
  · split at hs
    · next hlk =>
      split at hs
      · next hn =>
        cases hs
        simp only [Nat.sub_self, Nat.add_zero] at kk
        exact z_oinit F hl.1 hi hlk ⟨_, zcv_ne hn.2.1⟩ (by omega) (by omega) (by rw [zsum hf]; exact hn.2.2) (kk _ _ _ hl hr)
      · cases hs
    · cases hs
  · split at hs
    · next hlk =>
      split at hs
      · next hn =>
        obtain ⟨M2, hv, e⟩ := Option.map_eq_some_iff.mp hs
        cases e
        obtain ⟨q2, q3⟩ := zcopy_n hv
        rw [q2, q3] at kk
        simp only [Nat.sub_self, Nat.add_zero] at kk
        exact z_copy F hr hl.1 hi hlk (by omega) (by omega) (by rw [zsum hf]; exact hn.2) hv (fun H1 l1 h1 => kk _ H1 l1 hl h1)
      · cases hs
    · cases hs
  · cases hs
end ZBIG
