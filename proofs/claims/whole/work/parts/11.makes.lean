section ZSM
variable {p : Program} {l : Launch} {e : Env} {R : Room} {s : State} {m : MethodId} {args : Array Value} {below : List Frame} {meth : Method} {c : Code} {H : Heap} {locs : List Loc} {cells slots : Nat} {Q : State → Prop}
variable {ρ : ZAd} {cA : Nat → ClassId} {D : va_G} {k pc : Nat} {ls : Array Slot} {rest : List Value}
theorem zflds_new {M : ZMem} {t len sl u q : Nat} (h : q < zn M) : zflds ρ (znew M t len sl) u q = zflds ρ M u q := by
  unfold zflds
  refine List.map_congr_left fun j _ => ?_
  unfold zfv
  have e1 : zI (znew M t len sl) q j = zI M q j := if_neg (by omega)
  have e2 : zL (znew M t len sl) q j = zL M q j := if_neg (by omega)
  have e3 : zR (znew M t len sl) q j = zR M q j := if_neg (by omega)
  rw [e1, e2, e3]
theorem zcell_new {M : ZMem} {t len sl q : Nat} (h : q < zn M) : zcell ρ cA (znew M t len sl) q = zcell ρ cA M q := by
  have e0 : zsh (znew M t len sl) q = zsh M q := if_neg (by omega)
  have e1 : zI (znew M t len sl) q = zI M q := by funext j; exact if_neg (by omega)
  have e2 : zL (znew M t len sl) q = zL M q := by funext j; exact if_neg (by omega)
  have e3 : ∀ j, zR (znew M t len sl) q j = zR M q j := fun j => if_neg (by omega)
  unfold zcell
  simp only [e0, zflds_new h, e1, e2, e3]
theorem zsh_new {M : ZMem} {t len sl : Nat} : zsh (znew M t len sl) (zn M) = (t, len) := if_pos rfl
theorem zI_new {M : ZMem} {t len sl : Nat} : zI (znew M t len sl) (zn M) = fun _ => 0 := by funext j; exact if_pos rfl
theorem zL_new {M : ZMem} {t len sl : Nat} : zL (znew M t len sl) (zn M) = fun _ => 0 := by funext j; exact if_pos rfl
theorem zR_new {M : ZMem} {t len sl : Nat} : zR (znew M t len sl) (zn M) = fun _ => none := by funext j; exact if_pos rfl
/-- what a new cell leaves -/
theorem zw_new {M : ZMem} {t len sl : Nat} {H1 : Heap} (hbs : ρ.2.2 ≤ s.heap.size) (hr : zRl ρ cA D s M H locs cells) (hz : H.size = ρ.2.2 + (zn M - 20)) (e1 : va_at D vwCl (H.size, zcell ρ cA (znew M t len sl) (zn M)) H1) (z1 : H1.size = H.size + 1) (o1 : ∀ q, q < H.size → H1[q]? = H[q]?) : zRl ρ cA D s (znew M t len sl) H1 locs (cells + 1) := by
  obtain ⟨hO, hP, hc, hS⟩ := hr
  have had : zadr ρ (zn M) = H.size := by unfold zadr; rw [if_neg (by have := hO.1; omega), hz]
  refine ⟨zOld_new hO, ?_, ?_, ⟨Nat.le_trans hS.1 (by omega), fun x h1 h2 => (o1 x (Nat.lt_of_lt_of_le h1 hS.1)).trans (hS.2.1 x h1 h2), hS.2.2⟩⟩
  · rw [← zws_new (M := M) (M' := znew M t len sl) hO.1 rfl rfl (fun j hj => zcell_new hj), had]
    refine (hP.kept (fun j q hq => o1 q.1 (hP j q hq).lt)).app (fun j q hq => ?_)
    have hj : j < 1 := (List.getElem?_eq_some_iff.mp hq).1
    rw [show j = 0 by omega] at hq
    cases hq
    exact e1
  · show s.heap.size + (cells + 1) = ρ.2.2 + (zn M + 1 - 20)
    have := hO.1
    omega
theorem z_new {M : ZMem} {n t w b : Nat} (F : zFx p s m args meth c ρ cA D k) (hr : zRl ρ cA D s M H locs cells) (hi : zi k pc = some (.new n)) (hlk : zlk k n = some (6, t, b, w)) (ht : t < 13) (hcells : cells + 1 ≤ R.cells) (hslots : slots + zN t ≤ R.slots) (K : ∀ H', zRl ρ cA D s (znew M t 0 (zN t)) H' locs (cells + 1) → W p l e R s m args below meth c H' locs (cells + 1) (slots + zN t) Q (F0 m (pc + 3) ls (zcv ρ (.ref (zn M)) :: rest))) : W p l e R s m args below meth c H locs cells slots Q (F0 m pc ls rest) := by
  obtain ⟨hk, hx, hb, hml, hown, hts, hini, hf, hE, hbs⟩ := F
  have hd := zdec hk hi rfl
  have hw := zlk_of hk hlk
  simp only [zlok, Bool.and_eq_true, decide_eq_true_eq] at hw
  have hwn := hts _ (zat_in hw.1.2)
  rw [(zown_all k hk).1] at hwn
  have hO := hr.1
  have eN : zN t = (zcl t).2.2 := by unfold zN; rw [if_neg (by omega)]
  have hu : ∀ w ∈ u_ws (zcl t).1 (zcl t).2.1 (zcl t).2.2, w ∈ zG := fun w hw => by
    obtain ⟨a, ha, rfl⟩ := List.mem_map.mp hw
    exact zuws t ht a (by rw [eN]; exact List.mem_range.mp ha)
  have hcw := zcw_all t ht
  refine zsize hbs hr fun hz => ?_
  have had : zcv ρ (.ref (zn M)) = .ref H.size := by
    rw [zcv_ne (by have := hO.1; omega)]
    unfold zadr
    rw [if_neg (by have := hO.1; omega), hz]
  rw [eN] at hslots K
  have hKn := hE.1.1 t _ (zvw t ht)
  refine W.newcK (g := F0 m pc ls rest) hx hb hown hwn (hts _ (zat_in hcw.1)) (hts _ (zat_in hcw.2)) rfl hd hcells hslots hKn.2.1 rfl fun H1 kC hkC e1 z1 o1 => ?_
  rw [had] at K
  refine K H1 (zw_new hbs hr hz ?_ z1 o1)
  have eo : zcell ρ cA (znew M t 0 (zcl t).2.2) (zn M) = .inr (t, zflds ρ (znew M t 0 (zcl t).2.2) t (zn M)) := by
    rw [zcell_O (by rw [zsh_new]; exact ht), zsh_new]
  rw [eo]
  refine ⟨_, zvw t ht, (u_born (zty t) hts hu hKn hkC e1 (fun j hj => zty_ok t ht j (by rw [eN]; exact hj))).to (fun j hj => ?_)⟩
  unfold vp_V
  rw [List.getD_eq_getElem?_getD, zflds_at (by rw [eN]; exact hj)]
  show defaultValue (zty t j) = zcv ρ (zfv (znew M t 0 (zcl t).2.2) t (zn M) j)
  unfold zfv
  rw [zI_new, zL_new, zR_new]
  have hkd := zkd_ok t ht j (by rw [eN]; exact hj)
  cases hty : zty t j <;> rw [hty] at hkd <;> first | rfl | exact absurd rfl hkd
theorem z_newa {M : ZMem} {a : ArrayType} {t : Nat} {n : Int32} (F : zFx p s m args meth c ρ cA D k) (hr : zRl ρ cA D s M H locs cells) (hi : zi k pc = some (.newarray a)) (ht : zatag a = some t) (hn : ¬ n < 0 ∧ n.toNatClampNeg ≤ 1000) (hcells : cells + 1 ≤ R.cells) (hslots : slots + n.toNatClampNeg ≤ R.slots) (K : ∀ H', zRl ρ cA D s (znew M t n.toNatClampNeg n.toNatClampNeg) H' locs (cells + 1) → W p l e R s m args below meth c H' locs (cells + 1) (slots + n.toNatClampNeg) Q (F0 m (pc + 2) ls (zcv ρ (.ref (zn M)) :: rest))) : W p l e R s m args below meth c H locs cells slots Q (F0 m pc ls (.int n :: rest)) := by
  obtain ⟨hk, hx, hb, hml, hown, hts, hini, hf, hE, hbs⟩ := F
  have hd := zdec hk hi rfl
  have hO := hr.1
  refine zsize hbs hr fun hz => ?_
  have had : zcv ρ (.ref (zn M)) = .ref H.size := by
    rw [zcv_ne (by have := hO.1; omega)]
    unfold zadr
    rw [if_neg (by have := hO.1; omega), hz]
  rw [had] at K
  have same : ∀ (ty : FieldType) (t0 : Nat) (cB : ClassId), (ztys cA)[t0]? = some (cA t, ty) → s.vm.findClass ("[" ++ ty.toString) = some cB → (∀ C, ty ≠ .object C) → cB = cA t := by
    intro ty t0 cB h1 h2 h3
    have h4 := (hE.1.2 t0 _ h1).2
    cases ty <;> first | exact Option.some.inj (h2.symm.trans h4) | exact absurd rfl (h3 _)
  have hbytes : ∀ b : Nat, b ≤ 8 → n.toNatClampNeg * b ≤ 536870912 := fun b hb => Nat.le_trans (Nat.mul_le_mul hn.2 hb) (by decide)
  cases a <;> first | cases ht | skip
  · refine va_newaK (atype := .boolean) hx hb (hts _ zw_arrz) rfl hd rfl hn.1 rfl (hbytes _ (by decide)) hcells hslots rfl fun H1 cB e1 z1 o1 hAr hNm => ?_
    refine K H1 (zw_new hbs hr hz ?_ z1 o1)
    rw [zcell_I (by rw [zsh_new]; exact Nat.le_of_ble_eq_true rfl) (by rw [zsh_new]; exact Nat.le_of_ble_eq_true rfl), zsh_new, zI_new]
    rw [same .boolean 2 cB rfl hNm (fun C h => by cases h)] at e1
    exact e1
  · refine va_newaK (atype := .byte) hx hb (hts _ zw_arrb) rfl hd rfl hn.1 rfl (hbytes _ (by decide)) hcells hslots rfl fun H1 cB e1 z1 o1 hAr hNm => ?_
    refine K H1 (zw_new hbs hr hz ?_ z1 o1)
    rw [zcell_I (by rw [zsh_new]; exact Nat.le_of_ble_eq_true rfl) (by rw [zsh_new]; exact Nat.le_of_ble_eq_true rfl), zsh_new, zI_new]
    rw [same .byte 1 cB rfl hNm (fun C h => by cases h)] at e1
    exact e1
  · refine va_newaK (atype := .int) hx hb (hts _ zw_arri) rfl hd rfl hn.1 rfl (hbytes _ (by decide)) hcells hslots rfl fun H1 cB e1 z1 o1 hAr hNm => ?_
    refine K H1 (zw_new hbs hr hz ?_ z1 o1)
    rw [zcell_I (by rw [zsh_new]; exact Nat.le_of_ble_eq_true rfl) (by rw [zsh_new]; exact Nat.le_of_ble_eq_true rfl), zsh_new, zI_new]
    rw [same .int 0 cB rfl hNm (fun C h => by cases h)] at e1
    exact e1
  · refine va_newaK (atype := .long) hx hb (hts _ zw_arrl) rfl hd rfl hn.1 rfl (hbytes _ (by decide)) hcells hslots rfl fun H1 cB e1 z1 o1 hAr hNm => ?_
    refine K H1 (zw_new hbs hr hz ?_ z1 o1)
    rw [zcell_L (by rw [zsh_new]), zsh_new, zL_new]
    rw [same .long 3 cB rfl hNm (fun C h => by cases h)] at e1
    exact e1
theorem z_anew {M : ZMem} {i a t w : Nat} {n : Int32} (F : zFx p s m args meth c ρ cA D k) (hr : zRl ρ cA D s M H locs cells) (hi : zi k pc = some (.anewarray i)) (hlk : zlk k i = some (6, a, t, w)) (hn : 24 ≤ t ∧ t ≤ 26 ∧ ¬ n < 0 ∧ n.toNatClampNeg ≤ 1000) (hcells : cells + 1 ≤ R.cells) (hslots : slots + n.toNatClampNeg ≤ R.slots) (K : ∀ H', zRl ρ cA D s (znew M t n.toNatClampNeg n.toNatClampNeg) H' locs (cells + 1) → W p l e R s m args below meth c H' locs (cells + 1) (slots + n.toNatClampNeg) Q (F0 m (pc + 3) ls (zcv ρ (.ref (zn M)) :: rest))) : W p l e R s m args below meth c H locs cells slots Q (F0 m pc ls (.int n :: rest)) := by
  obtain ⟨hk, hx, hb, hml, hown, hts, hini, hf, hE, hbs⟩ := F
  have hd := zdec hk hi rfl
  have hO := hr.1
  have hw := zlk_of hk hlk
  simp only [zlok, Bool.and_eq_true, Bool.or_eq_true, decide_eq_true_eq] at hw
  have hwn := hts _ (zat_in hw.1.2)
  rw [(zown_all k hk).1] at hwn
  have hac : zact t = a := by
    rcases hw.2 with h | h
    · omega
    · exact h.2.2
  refine zsize hbs hr fun hz => ?_
  have had : zcv ρ (.ref (zn M)) = .ref H.size := by
    rw [zcv_ne (by have := hO.1; omega)]
    unfold zadr
    rw [if_neg (by have := hO.1; omega), hz]
  rw [had] at K
  have hover : va_AO (zcl a).1 s ∧ ∃ t0 : Nat, (ztys cA)[t0]? = some (cA t, FieldType.object (zcl a).1) := by
    obtain ⟨-, -, -, -, -, -, h9, h10, h11⟩ := hE
    rw [← hac]
    rcases (by omega : t = 24 ∨ t = 25 ∨ t = 26) with h | h | h <;> subst h
    · exact ⟨h9, 4, rfl⟩
    · exact ⟨h10, 5, rfl⟩
    · exact ⟨h11, 6, rfl⟩
  obtain ⟨hov, t0, ht0⟩ := hover
  refine W.anew (g := F0 m pc ls (.int n :: rest)) hx hb hown hwn (va_AO.use hov) rfl hd rfl hn.2.2.1 (Nat.le_trans (Nat.mul_le_mul hn.2.2.2 (Nat.le_refl 4)) (by decide)) hcells hslots fun cB kA comp f1 f2 f3 f4 => ?_
  obtain ⟨kA', comp', g1, g2, g3, g4⟩ := (hE.1.2 t0 _ ht0).2
  have hcB : cB = cA t := Option.some.inj (f1.symm.trans g4)
  subst hcB
  generalize hH1 : H.push ({ cls := cA t, slots := Array.replicate n.toNatClampNeg .null, vm := .none } : Cell) = H1
  have z1 : H1.size = H.size + 1 := by rw [← hH1, Array.size_push]
  have e1 : H1[H.size]? = some (arrV (cA t) n.toNatClampNeg (fun _ => .null)) := by rw [← hH1, Array.getElem?_push_size, ← arrV_new]
  have o1 : ∀ q : Nat, q < H.size → H1[q]? = H[q]? := fun q hq => by rw [← hH1, Array.getElem?_push, if_neg (Nat.ne_of_lt hq)]
  refine K H1 (zw_new hbs hr hz ?_ z1 o1)
  rw [zcell_R (by rw [zsh_new]; exact hn.1), zsh_new, zR_new]
  exact e1
theorem z_alen {sc : Option (Nat × (Nat → Int32))} {M : ZMem} {o : Nat} {x : Int32} (F : zFx p s m args meth c ρ cA D k) (hsc : zSc sc ρ s) (hr : zRl ρ cA D s M H locs cells) (hi : zi k pc = some .arraylength) (hg : zlen sc M o = some x) (K : W p l e R s m args below meth c H locs cells slots Q (F0 m (pc + 1) ls (.int x :: rest))) : W p l e R s m args below meth c H locs cells slots Q (F0 m pc ls (zcv ρ (.ref o) :: rest)) := by
  obtain ⟨hk, hx, hb, hml, hown, hts, hini, hf, hE, hbs⟩ := F
  have hd := zdec hk hi rfl
  unfold zlen at hg
  by_cases h0 : o = 0
  · rw [if_pos h0] at hg
    subst h0
    cases hs : sc with
    | none => rw [hs] at hg; cases hg
    | some y =>
      obtain ⟨L, xs⟩ := y
      rw [hs] at hg
      cases hg
      obtain ⟨a1, a2, a3⟩ := hsc L xs hs
      rw [zcv_ne (by omega)]
      have e : zadr ρ 0 = ρ.1 0 := if_pos (by omega)
      rw [e]
      exact va_slen hx hb a1 a2 a3 hr.2.2.2 hd K
  · rw [if_neg h0] at hg
    split at hg
    · next hc =>
      obtain ⟨c1, c2⟩ := hc
      cases hg
      by_cases h20 : 20 ≤ o ∧ 20 ≤ (zsh M o).1 ∧ (zsh M o).1 ≤ 26
      · rw [zcv_ne (show o ≠ 18 by omega)]
        have he := zws_at (ρ := ρ) (cA := cA) h20.1 c1
        rcases (by omega : (zsh M o).1 = 20 ∨ (zsh M o).1 = 21 ∨ (zsh M o).1 = 22 ∨ (zsh M o).1 = 23 ∨ (zsh M o).1 = 24 ∨ (zsh M o).1 = 25 ∨ (zsh M o).1 = 26) with h | h | h | h | h | h | h
        · rw [zcell_I (by omega) (by omega), h] at he; exact va_alen hx hb hE.1 hr.2.1 (o - 20) 0 he (ty := .int) rfl rfl hd K
        · rw [zcell_I (by omega) (by omega), h] at he; exact va_alen hx hb hE.1 hr.2.1 (o - 20) 1 he (ty := .byte) rfl rfl hd K
        · rw [zcell_I (by omega) (by omega), h] at he; exact va_alen hx hb hE.1 hr.2.1 (o - 20) 2 he (ty := .boolean) rfl rfl hd K
        · rw [zcell_L h] at he; exact va_alen hx hb hE.1 hr.2.1 (o - 20) 3 he (ty := .long) rfl rfl hd K
        · rw [zcell_R (by omega), h] at he; exact va_alen hx hb hE.1 hr.2.1 (o - 20) 4 he (ty := .object "SlateHalves$Hill") rfl rfl hd K
        · rw [zcell_R (by omega), h] at he; exact va_alen hx hb hE.1 hr.2.1 (o - 20) 5 he (ty := .object "SlateHalves$Tape") rfl rfl hd K
        · rw [zcell_R (by omega), h] at he; exact va_alen hx hb hE.1 hr.2.1 (o - 20) 6 he (ty := .object "SlateHalves$Block") rfl rfl hd K
      · obtain ⟨ho20, ht⟩ : o < 20 ∧ ((zsh M o).1 = 31 ∨ (zsh M o).1 = 32) := c2.resolve_left h20
        have hM := hr.1.2 o ho20
        have hsh : zsh M o = (if o = 1 then ((31 : Nat), (7 : Nat)) else if 2 ≤ o ∧ o < 9 then (13, 0) else if 9 ≤ o ∧ o < 16 then (32, (zT0.getD (o - 9) []).length) else (99, 0)) := hM.1
        by_cases a1 : o = 1
        · subst a1
          rw [zcv_ne (by omega), show zadr ρ 1 = ρ.1 1 from if_pos (by omega)]
          obtain ⟨-, -, -, -, -, h8, -⟩ := hE
          rw [if_pos rfl] at hsh
          exact va_tlen hx hb h8 hr.2.2.2 (by rw [hsh]) hd K
        · rw [if_neg a1] at hsh
          by_cases a2 : 2 ≤ o ∧ o < 9
          · rw [if_pos a2] at hsh; rw [hsh] at ht; rcases ht with h | h <;> cases h
          · rw [if_neg a2] at hsh
            by_cases a3 : 9 ≤ o ∧ o < 16
            · rw [if_pos a3] at hsh
              rw [zcv_ne (by omega)]
              obtain ⟨-, -, -, -, h7, -⟩ := hE
              have hS7 := (h7.1 (o - 9) (by omega)).2.2.2
              dsimp only at hS7
              have eav : ρ.1 (9 + (o - 9)) = zadr ρ o := by simp only [zadr, if_pos ho20, show 9 + (o - 9) = o by omega]
              rw [eav] at hS7
              refine va_tlen hx hb hS7 hr.2.2.2 ?_ hd K
              rw [hsh]
              rcases (by omega : o = 9 ∨ o = 10 ∨ o = 11 ∨ o = 12 ∨ o = 13 ∨ o = 14 ∨ o = 15) with h | h | h | h | h | h | h <;> subst h <;> rfl
            · rw [if_neg a3] at hsh; rw [hsh] at ht; rcases ht with h | h <;> cases h
    · cases hg
theorem z_copy {M M' : ZMem} {n x y w a b : Nat} {sp dp cn : Int32} (F : zFx p s m args meth c ρ cA D k) (hr : zRl ρ cA D s M H locs cells) (hls : ls.size = zml k) (hi : zi k pc = some (.invokestatic n)) (hlk : zlk k n = some (5, x, y, w)) (hfr : 1 ≤ R.frames) (hlo : 60 ≤ R.locals) (hsum : (rest.map fun v => v.category).sum ≤ 8) (hg : zcopy M a sp b dp cn = some M') (K : ∀ H' locs', zRl ρ cA D s M' H' locs' cells → W p l e R s m args below meth c H' locs' cells slots Q (F0 m (pc + 3) ls rest)) : W p l e R s m args below meth c H locs cells slots Q (F0 m pc ls (.int cn :: .int dp :: zcv ρ (.ref b) :: .int sp :: zcv ρ (.ref a) :: rest)) := by
  obtain ⟨hk, hx, hb, hml, hown, hts, hini, hf, hE, hbs⟩ := F
  have hd := zdec hk hi rfl
  have hw := zlk_of hk hlk
  have hwn := hts _ (zat_in hw)
  rw [(zown_all k hk).1] at hwn
  have hml2 : c.maxLocals = ls.size := by rw [hml, hls]
  have hnf : (rest.map fun v => v.category).sum + (nativeFrameWords "java/lang/System" "arraycopy" 5 + 11) ≤ R.locals := by
    have h1 : nativeFrameWords "java/lang/System" "arraycopy" 5 ≤ 41 := by decide +kernel
    omega
  unfold zcopy at hg
  split at hg
  · next hc =>
    obtain ⟨c1, c2, c3, c4, c5, c6, c7, c8, c9⟩ := hc
    rw [zcv_ne (show a ≠ 18 by omega), zcv_ne (show b ≠ 18 by omega)]
    have hea := zws_at (ρ := ρ) (cA := cA) c1 c2
    have heb := zws_at (ρ := ρ) (cA := cA) c3 c4
    split at hg
    · next ht =>
      cases hg
      rw [zcell_I (by omega) (by omega), ht.1] at hea
      rw [zcell_I (by omega) (by omega), ht.2] at heb
      refine va_copyi (A := fun q => ρ.2.2 ≤ q) (ty := .int) hx hb hml2 hown hwn (hts _ zw_acn) (hts _ zw_acs) (hts _ zw_aci) hE.1 hr.2.1 (zws_D ρ cA M) hr.2.2.2 (a - 20) (b - 20) 0 0 hea heb rfl rfl rfl c5 c6 c7 c8 c9 (fun _ _ => rfl) hfr hnf hd (fun H1 locs1 hP1 _ hS1 => K H1 locs1 ?_)
      obtain ⟨hO, hP, hcc, hS⟩ := hr
      have e : zcell ρ cA (zcpI M a sp.toNatClampNeg b dp.toNatClampNeg cn.toNatClampNeg) b = .inl (cA 20, (zsh M b).2, .inl (va_cpy (zI M a) (zI M b) sp.toNatClampNeg dp.toNatClampNeg cn.toNatClampNeg)) := by
        have h1 : zsh (zcpI M a sp.toNatClampNeg b dp.toNatClampNeg cn.toNatClampNeg) b = zsh M b := rfl
        rw [zcell_I (by rw [h1]; omega) (by rw [h1]; omega), h1, ht.2]
        have e2 : zI (zcpI M a sp.toNatClampNeg b dp.toNatClampNeg cn.toNatClampNeg) b = va_cpy (zI M a) (zI M b) sp.toNatClampNeg dp.toNatClampNeg cn.toNatClampNeg := by
          funext j
          show (if b = b ∧ dp.toNatClampNeg ≤ j ∧ j < dp.toNatClampNeg + cn.toNatClampNeg then _ else _) = (if dp.toNatClampNeg ≤ j ∧ j < dp.toNatClampNeg + cn.toNatClampNeg then _ else _)
          by_cases hj : dp.toNatClampNeg ≤ j ∧ j < dp.toNatClampNeg + cn.toNatClampNeg
          · rw [if_pos ⟨rfl, hj⟩, if_pos hj]
          · rw [if_neg (fun z => hj z.2), if_neg hj]
        rw [e2]
      rw [zws_set (M := M) (M' := zcpI M a sp.toNatClampNeg b dp.toNatClampNeg cn.toNatClampNeg) c3 rfl e (fun j hj => ?_)] at hP1
      · exact ⟨zOld_cI hO c3, hP1, hcc, hS1⟩
      · have e3 : ∀ i, zI (zcpI M a sp.toNatClampNeg b dp.toNatClampNeg cn.toNatClampNeg) j i = zI M j i := fun i => if_neg (fun z => hj z.1)
        have e4 : zI (zcpI M a sp.toNatClampNeg b dp.toNatClampNeg cn.toNatClampNeg) j = zI M j := funext e3
        unfold zcell zflds zfv
        simp only [e3, e4]
        rfl
    · next ht0 =>
      split at hg
      · next ht =>
        cases hg
        rw [zcell_L ht.1] at hea
        rw [zcell_L ht.2] at heb
        refine va_copyl (A := fun q => ρ.2.2 ≤ q) (ty := .long) hx hb hml2 hown hwn (hts _ zw_acn) (hts _ zw_acs) (hts _ zw_aci) hE.1 hr.2.1 (zws_D ρ cA M) hr.2.2.2 (a - 20) (b - 20) 3 3 hea heb rfl rfl rfl c5 c6 c7 c8 c9 (fun _ _ => rfl) hfr hnf hd (fun H1 locs1 hP1 _ hS1 => K H1 locs1 ?_)
        obtain ⟨hO, hP, hcc, hS⟩ := hr
        have e : zcell ρ cA (zcpL M a sp.toNatClampNeg b dp.toNatClampNeg cn.toNatClampNeg) b = .inl (cA 23, (zsh M b).2, .inr (.inl (va_cpy (zL M a) (zL M b) sp.toNatClampNeg dp.toNatClampNeg cn.toNatClampNeg))) := by
          have h1 : zsh (zcpL M a sp.toNatClampNeg b dp.toNatClampNeg cn.toNatClampNeg) b = zsh M b := rfl
          rw [zcell_L (by rw [h1]; exact ht.2), h1]
          have e2 : zL (zcpL M a sp.toNatClampNeg b dp.toNatClampNeg cn.toNatClampNeg) b = va_cpy (zL M a) (zL M b) sp.toNatClampNeg dp.toNatClampNeg cn.toNatClampNeg := by
            funext j
            show (if b = b ∧ dp.toNatClampNeg ≤ j ∧ j < dp.toNatClampNeg + cn.toNatClampNeg then _ else _) = (if dp.toNatClampNeg ≤ j ∧ j < dp.toNatClampNeg + cn.toNatClampNeg then _ else _)
            by_cases hj : dp.toNatClampNeg ≤ j ∧ j < dp.toNatClampNeg + cn.toNatClampNeg
            · rw [if_pos ⟨rfl, hj⟩, if_pos hj]
            · rw [if_neg (fun z => hj z.2), if_neg hj]
          rw [e2]
        rw [zws_set (M := M) (M' := zcpL M a sp.toNatClampNeg b dp.toNatClampNeg cn.toNatClampNeg) c3 rfl e (fun j hj => ?_)] at hP1
        · exact ⟨hO, hP1, hcc, hS1⟩
        · have e3 : ∀ i, zL (zcpL M a sp.toNatClampNeg b dp.toNatClampNeg cn.toNatClampNeg) j i = zL M j i := fun i => if_neg (fun z => hj z.1)
          have e4 : zL (zcpL M a sp.toNatClampNeg b dp.toNatClampNeg cn.toNatClampNeg) j = zL M j := funext e3
          unfold zcell zflds zfv
          simp only [e3, e4]
          rfl
      · cases hg
  · cases hg
theorem z_gets {M : ZMem} {n a x y : Nat} {v : Value} (F : zFx p s m args meth c ρ cA D k) (hr : zRl ρ cA D s M H locs cells) (hi : zi k pc = some (.getstatic n)) (hlk : zlk k n = some (1, a, x, y)) (hv : (a = 0 ∧ v = .ref 1) ∨ (a = 1 ∧ v = .int 1) ∨ (a = 2 ∧ v = .ref 18)) (K : W p l e R s m args below meth c H locs cells slots Q (F0 m (pc + 3) ls (zcv ρ v :: rest))) : W p l e R s m args below meth c H locs cells slots Q (F0 m pc ls rest) := by
  obtain ⟨hk, hx, hb, hml, hown, hts, hini, hf, hE, hbs⟩ := F
  have hd := zdec hk hi rfl
  have hw := zlk_of hk hlk
  obtain ⟨-, -, -, ⟨h4, h5, h6⟩, -⟩ := hE
  rcases hv with ⟨rfl, rfl⟩ | ⟨rfl, rfl⟩ | ⟨rfl, rfl⟩
  · have hwn := hts _ (zat_in hw)
    rw [(zown_all k hk).1] at hwn
    rw [zcv_ne (by omega), show zadr ρ 1 = ρ.1 1 from if_pos (by omega)] at K
    exact va_gets (ref := "SlateHalves") hx hb h4 hr.2.2.2 hown hwn (fun _ h => h) hd K
  · have hwn := hts _ (zat_in hw)
    rw [(zown_all k hk).1] at hwn
    exact va_gets (ref := "java/lang/String") hx hb h5 hr.2.2.2 hown hwn (fun _ h => h) hd K
  · have hwn := hts _ (zat_in hw)
    rw [(zown_all k hk).1] at hwn
    exact va_gets (ref := "jdk/internal/util/Preconditions") hx hb h6 hr.2.2.2 hown hwn (fun _ h => h) hd K
theorem z_ldcS {n a x y : Nat} (F : zFx p s m args meth c ρ cA D k) (hi : zi k pc = some (.ldc n)) (hlk : zlk k n = some (9, a, x, y)) (K : W p l e R s m args below meth c H locs cells slots Q (F0 m (pc + 2) ls (zcv ρ (.ref (2 + a)) :: rest))) : W p l e R s m args below meth c H locs cells slots Q (F0 m pc ls rest) := by
  obtain ⟨hk, hx, hb, hml, hown, hts, hini, hf, hE, hbs⟩ := F
  have hd := zdec hk hi rfl
  have hw := zlk_of hk hlk
  simp only [zlok, Bool.and_eq_true, decide_eq_true_eq] at hw
  obtain ⟨h1, h2⟩ := hw
  have h3 := hE.2.2.1 a h1
  rw [h2.1, h2.2, (zown_all k hk).1] at h3
  rw [zcv_ne (by omega), show zadr ρ (2 + a) = ρ.1 (2 + a) from if_pos (by omega)] at K
  exact va_ldcS hx hb hown h3 hd K
theorem zki_of {k n : Nat} {x : Int32 × Nat} (hk : k < 240) (h : zki k n = some x) : Cond.constant (zmeth k).1.cls n x.1 ∈ zG := by
  have h1 := zkok_all (zcid k) (zown_all k hk).2
  have h2 : ∀ r : List (Nat × Int32 × Nat), zfind2 r n = some x → (n, x) ∈ r := by
    intro r
    induction r with
    | nil => intro h; cases h
    | cons a r ih =>
      intro h
      obtain ⟨j, w⟩ := a
      simp only [zfind2] at h
      split at h
      · next q => cases h; rw [← q]; exact List.mem_cons_self
      · exact List.mem_cons_of_mem _ (ih h)
  have h3 := zat_in (List.all_eq_true.mp h1 _ (h2 _ h))
  rw [(zown_all k hk).1] at h3
  exact h3
theorem zkl_of {k n : Nat} {x : Int64 × Nat} (hk : k < 240) (h : zkl k n = some x) : Cond.constantLong (zmeth k).1.cls n x.1 ∈ zG := by
  have h1 := zklok_all (zcid k) (zown_all k hk).2
  have h2 : ∀ r : List (Nat × Int64 × Nat), zfind2 r n = some x → (n, x) ∈ r := by
    intro r
    induction r with
    | nil => intro h; cases h
    | cons a r ih =>
      intro h
      obtain ⟨j, w⟩ := a
      simp only [zfind2] at h
      split at h
      · next q => cases h; rw [← q]; exact List.mem_cons_self
      · exact List.mem_cons_of_mem _ (ih h)
  have h3 := zat_in (List.all_eq_true.mp h1 _ (h2 _ h))
  rw [(zown_all k hk).1] at h3
  exact h3
theorem z_oinit {n o a x y : Nat} (F : zFx p s m args meth c ρ cA D k) (hls : ls.size = zml k) (hi : zi k pc = some (.invokespecial n)) (hlk : zlk k n = some (4, a, x, y)) (ho : ∃ b, zcv ρ (.ref o) = .ref b) (hfr : 1 ≤ R.frames) (hlo : 60 ≤ R.locals) (hsum : (rest.map fun v => v.category).sum ≤ 8) (K : W p l e R s m args below meth c H locs cells slots Q (F0 m (pc + 3) ls rest)) : W p l e R s m args below meth c H locs cells slots Q (F0 m pc ls (zcv ρ (.ref o) :: rest)) := by
  obtain ⟨hk, hx, hb, hml, hown, hts, hini, hf, hE, hbs⟩ := F
  have hd := zdec hk hi rfl
  have hw := zlk_of hk hlk
  have hwn := hts _ (zat_in hw)
  rw [(zown_all k hk).1] at hwn
  obtain ⟨b, hbb⟩ := ho
  rw [hbb]
  exact W.objInit (g := F0 m pc ls (.ref b :: rest)) hx hb hown hwn (hts _ zw_obji) (hts _ zw_objc) rfl (by rw [hml]; exact hls) rfl hd hfr (by show 2 * 0 + _ + 12 ≤ _; omega) K
end ZSM
