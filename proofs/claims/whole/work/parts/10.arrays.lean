section ZSA
variable {p : Program} {l : Launch} {e : Env} {R : Room} {s : State} {m : MethodId} {args : Array Value} {below : List Frame} {meth : Method} {c : Code} {H : Heap} {locs : List Loc} {cells slots : Nat} {Q : State → Prop}
variable {ρ : ZAd} {cA : Nat → ClassId} {D : va_G} {k pc : Nat} {ls : Array Slot} {rest : List Value}
/-- what a write into a row of whole numbers leaves -/
theorem zw_I {M : ZMem} {o i : Nat} {x : Int32} {H1 : Heap} {locs1 : List Loc} (hr : zRl ρ cA D s M H locs cells) (h20 : 20 ≤ o) (ht : 13 ≤ (zsh M o).1 ∧ (zsh M o).1 < 23) (hP1 : va_P D vwCl ((zws ρ cA M).set (o - 20) (zadr ρ o, .inl (cA (zsh M o).1, (zsh M o).2, .inl (upd (zI M o) i x)))) H1) (hS1 : va_S (fun q => ρ.2.2 ≤ q) s.heap H1 locs1) : zRl ρ cA D s (zpI M o i x) H1 locs1 cells := by
  obtain ⟨hO, hP, hc, hS⟩ := hr
  have e : zcell ρ cA (zpI M o i x) o = .inl (cA (zsh M o).1, (zsh M o).2, .inl (upd (zI M o) i x)) := by
    rw [zcell_I (M := zpI M o i x) ht.1 ht.2]
    have e2 : zI (zpI M o i x) o = upd (zI M o) i x := by
      funext j
      show (if o = o ∧ j = i then x else zI M o j) = upd (zI M o) i x j
      by_cases hj : j = i
      · rw [if_pos ⟨rfl, hj⟩, hj]; simp [upd]
      · rw [if_neg (fun z => hj z.2)]; simp [upd, hj]
    rw [e2]; rfl
  rw [zws_set (M := M) (M' := zpI M o i x) h20 rfl e (fun j hj => zcell_pI_ne hj)] at hP1
  exact ⟨zOld_pI hO h20, hP1, hc, hS1⟩
theorem z_iast {M M' : ZMem} {o : Nat} {i x : Int32} (F : zFx p s m args meth c ρ cA D k) (hr : zRl ρ cA D s M H locs cells) (hi : zi k pc = some .iastore) (hg : zsa M 20 o i x = some M') (K : ∀ H' locs', zRl ρ cA D s M' H' locs' cells → W p l e R s m args below meth c H' locs' cells slots Q (F0 m (pc + 1) ls rest)) : W p l e R s m args below meth c H locs cells slots Q (F0 m pc ls (.int x :: .int i :: zcv ρ (.ref o) :: rest)) := by
  obtain ⟨hk, hx, hb, hml, hown, hts, hini, hf, hE, hbs⟩ := F
  have hd := zdec hk hi rfl
  unfold zsa at hg
  split at hg
  · next hc =>
    obtain ⟨c1, c2, c3, c4⟩ := hc
    cases hg
    rw [zcv_ne (show o ≠ 18 by omega)]
    have he := zws_at (ρ := ρ) (cA := cA) c2 c3
    rw [zcell_I (by omega) (by omega)] at he
    refine va_iast (A := fun q => ρ.2.2 ≤ q) hx hb hE.1 hr.2.1 (zws_D ρ cA M) hr.2.2.2 (o - 20) 0 he (show (ztys cA)[0]? = some (cA (zsh M o).1, .int) by rw [c1]; rfl) c4 hd (fun H1 locs1 hP1 _ hS1 => K H1 locs1 (zw_I hr c2 (by omega) hP1 hS1))
  · cases hg
theorem z_bast {M M' : ZMem} {o : Nat} {i x : Int32} (F : zFx p s m args meth c ρ cA D k) (hr : zRl ρ cA D s M H locs cells) (hi : zi k pc = some .bastore) (hg : zsa M (if (zsh M o).1 = 21 then 21 else 22) o i (if (zsh M o).1 = 21 then vp_nar .byte x else vp_nar .boolean x) = some M') (K : ∀ H' locs', zRl ρ cA D s M' H' locs' cells → W p l e R s m args below meth c H' locs' cells slots Q (F0 m (pc + 1) ls rest)) : W p l e R s m args below meth c H locs cells slots Q (F0 m pc ls (.int x :: .int i :: zcv ρ (.ref o) :: rest)) := by
  obtain ⟨hk, hx, hb, hml, hown, hts, hini, hf, hE, hbs⟩ := F
  have hd := zdec hk hi rfl
  by_cases h21 : (zsh M o).1 = 21
  · rw [if_pos h21, if_pos h21] at hg
    unfold zsa at hg
    split at hg
    · next hc =>
      obtain ⟨c1, c2, c3, c4⟩ := hc
      cases hg
      rw [zcv_ne (show o ≠ 18 by omega)]
      have he := zws_at (ρ := ρ) (cA := cA) c2 c3
      rw [zcell_I (by omega) (by omega)] at he
      exact va_bast (A := fun q => ρ.2.2 ≤ q) hx hb hE.1 hr.2.1 (zws_D ρ cA M) hr.2.2.2 (o - 20) 1 he (show (ztys cA)[1]? = some (cA (zsh M o).1, .byte) by rw [h21]; rfl) c4 hd (fun H1 locs1 hP1 _ hS1 => K H1 locs1 (zw_I hr c2 (by omega) hP1 hS1))
    · cases hg
  · rw [if_neg h21, if_neg h21] at hg
    unfold zsa at hg
    split at hg
    · next hc =>
      obtain ⟨c1, c2, c3, c4⟩ := hc
      cases hg
      rw [zcv_ne (show o ≠ 18 by omega)]
      have he := zws_at (ρ := ρ) (cA := cA) c2 c3
      rw [zcell_I (by omega) (by omega)] at he
      exact va_zast (A := fun q => ρ.2.2 ≤ q) hx hb hE.1 hr.2.1 (zws_D ρ cA M) hr.2.2.2 (o - 20) 2 he (show (ztys cA)[2]? = some (cA (zsh M o).1, .boolean) by rw [c1]; rfl) c4 hd (fun H1 locs1 hP1 _ hS1 => K H1 locs1 (zw_I hr c2 (by omega) hP1 hS1))
    · cases hg
theorem z_last {M M' : ZMem} {o : Nat} {i : Int32} {x : Int64} (F : zFx p s m args meth c ρ cA D k) (hr : zRl ρ cA D s M H locs cells) (hi : zi k pc = some .lastore) (hg : zsaL M o i x = some M') (K : ∀ H' locs', zRl ρ cA D s M' H' locs' cells → W p l e R s m args below meth c H' locs' cells slots Q (F0 m (pc + 1) ls rest)) : W p l e R s m args below meth c H locs cells slots Q (F0 m pc ls (.long x :: .int i :: zcv ρ (.ref o) :: rest)) := by
  obtain ⟨hk, hx, hb, hml, hown, hts, hini, hf, hE, hbs⟩ := F
  have hd := zdec hk hi rfl
  unfold zsaL at hg
  split at hg
  · next hc =>
    obtain ⟨c1, c2, c3, c4⟩ := hc
    cases hg
    rw [zcv_ne (show o ≠ 18 by omega)]
    have he := zws_at (ρ := ρ) (cA := cA) c2 c3
    rw [zcell_L c1] at he
    refine va_last (A := fun q => ρ.2.2 ≤ q) hx hb hE.1 hr.2.1 (zws_D ρ cA M) hr.2.2.2 (o - 20) 3 he (show (ztys cA)[3]? = some (cA 23, .long) from rfl) c4 hd (fun H1 locs1 hP1 _ hS1 => K H1 locs1 ?_)
    obtain ⟨hO, hP, hcc, hS⟩ := hr
    have e : zcell ρ cA (zpL M o i.toNatClampNeg x) o = .inl (cA 23, (zsh M o).2, .inr (.inl (vp_updL (zL M o) i.toNatClampNeg x))) := by
      rw [zcell_L (M := zpL M o i.toNatClampNeg x) c1]
      have e2 : zL (zpL M o i.toNatClampNeg x) o = vp_updL (zL M o) i.toNatClampNeg x := by
        funext j
        show (if o = o ∧ j = i.toNatClampNeg then x else zL M o j) = (if j = i.toNatClampNeg then x else zL M o j)
        by_cases hj : j = i.toNatClampNeg
        · rw [if_pos ⟨rfl, hj⟩, if_pos hj]
        · rw [if_neg (fun z => hj z.2), if_neg hj]
      rw [e2]; rfl
    rw [zws_set (M := M) (M' := zpL M o i.toNatClampNeg x) c2 rfl e (fun j hj => zcell_pL_ne hj)] at hP1
    exact ⟨zOld_pL hO c2, hP1, hcc, hS1⟩
  · cases hg
theorem z_aast {M M' : ZMem} {o q : Nat} {i : Int32} (F : zFx p s m args meth c ρ cA D k) (hr : zRl ρ cA D s M H locs cells) (hi : zi k pc = some .aastore) (hg : zsaR M o i q = some M') (K : ∀ H' locs', zRl ρ cA D s M' H' locs' cells → W p l e R s m args below meth c H' locs' cells slots Q (F0 m (pc + 1) ls rest)) : W p l e R s m args below meth c H locs cells slots Q (F0 m pc ls (zcv ρ (.ref q) :: .int i :: zcv ρ (.ref o) :: rest)) := by
  obtain ⟨hk, hx, hb, hml, hown, hts, hini, hf, hE, hbs⟩ := F
  have hd := zdec hk hi rfl
  unfold zsaR at hg
  split at hg
  · next hc =>
    obtain ⟨c1, c1', c2, c3, c4, c5, c6, c7⟩ := hc
    cases hg
    rw [zcv_ne (show o ≠ 18 by omega), zcv_ne (show q ≠ 18 by omega)]
    have he := zws_at (ρ := ρ) (cA := cA) c2 c3
    have hq := zws_at (ρ := ρ) (cA := cA) c5 c6
    rw [zcell_R c1] at he
    have hq13 : (zsh M q).1 < 13 := by
      rw [c7]
      unfold zact
      split <;> decide
    rw [zcell_O hq13] at hq
    have hty : ∃ t0 : Nat, (ztys cA)[t0]? = some (cA (zsh M o).1, FieldType.object (zcl (zsh M q).1).1) := by
      rw [c7]
      rcases (by omega : (zsh M o).1 = 24 ∨ (zsh M o).1 = 25 ∨ (zsh M o).1 = 26) with h | h | h <;> rw [h]
      · exact ⟨4, rfl⟩
      · exact ⟨5, rfl⟩
      · exact ⟨6, rfl⟩
    obtain ⟨t0, ht0⟩ := hty
    refine va_astq (A := fun q => ρ.2.2 ≤ q) (r := zcl (zsh M q).1) hx hb hE.1 hr.2.1 (zws_D ρ cA M) hr.2.2.2 (o - 20) t0 (q - 20) (zsh M q).1 he ht0 hq (zvw _ hq13) c4 hd (fun H1 locs1 hP1 _ hS1 => K H1 locs1 ?_)
    obtain ⟨hO, hP, hcc, hS⟩ := hr
    have e : zcell ρ cA (zpR M o i.toNatClampNeg (some q)) o = .inl (cA (zsh M o).1, (zsh M o).2, .inr (.inr (.inr (.inr (va_up (fun j => zrA ρ (zR M o j)) i.toNatClampNeg (some (zadr ρ q))))))) := by
      rw [zcell_R (M := zpR M o i.toNatClampNeg (some q)) c1]
      have e2 : (fun j => zrA ρ (zR (zpR M o i.toNatClampNeg (some q)) o j)) = va_up (fun j => zrA ρ (zR M o j)) i.toNatClampNeg (some (zadr ρ q)) := by
        funext j
        show zrA ρ (if o = o ∧ j = i.toNatClampNeg then some q else zR M o j) = (if j = i.toNatClampNeg then some (zadr ρ q) else zrA ρ (zR M o j))
        by_cases hj : j = i.toNatClampNeg
        · rw [if_pos ⟨rfl, hj⟩, if_pos hj]
          show (match zcv ρ (.ref q) with | .ref a => some a | _ => none) = _
          rw [zcv_ne (show q ≠ 18 by omega)]
        · rw [if_neg (fun z => hj z.2), if_neg hj]
      rw [e2]; rfl
    rw [zws_set (M := M) (M' := zpR M o i.toNatClampNeg (some q)) c2 rfl e (fun j hj => zcell_pR_ne hj)] at hP1
    exact ⟨zOld_pR hO c2, hP1, hcc, hS1⟩
  · cases hg
theorem z_iald {M : ZMem} {o : Nat} {i x : Int32} (F : zFx p s m args meth c ρ cA D k) (hr : zRl ρ cA D s M H locs cells) (hi : zi k pc = some .iaload) (ho : o ≠ 0) (hg : zla M (if o = 1 then 31 else 20) o i = some x) (K : W p l e R s m args below meth c H locs cells slots Q (F0 m (pc + 1) ls (.int x :: rest))) : W p l e R s m args below meth c H locs cells slots Q (F0 m pc ls (.int i :: zcv ρ (.ref o) :: rest)) := by
  obtain ⟨hk, hx, hb, hml, hown, hts, hini, hf, hE, hbs⟩ := F
  have hd := zdec hk hi rfl
  by_cases h1 : o = 1
  · subst h1
    rw [if_pos rfl] at hg
    unfold zla at hg
    split at hg
    · next hc =>
      obtain ⟨c1, c2, c3, c4⟩ := hc
      cases hg
      rw [zcv_ne (by omega)]
      have hM := hr.1.2 1 (by omega)
      obtain ⟨-, -, -, -, -, h8, -⟩ := hE
      have e7 : (zsh M 1).2 = 7 := by rw [hM.1]; rfl
      rw [e7] at c4
      have e : zadr ρ 1 = ρ.1 1 := if_pos (by omega)
      rw [e]
      refine va_ti hx hb h8 hr.2.2.2 c4 ?_ hd K
      show Value.int (zAb.getD _ 0) = Value.int (zI M 1 _)
      rw [hM.2.1]
      rfl
    · cases hg
  · rw [if_neg h1] at hg
    unfold zla at hg
    split at hg
    · next hc =>
      obtain ⟨c1, c2, c3, c4⟩ := hc
      cases hg
      have h20 : 20 ≤ o := by
        rcases c2 with h | h | h
        · exact h
        · omega
        · omega
      rw [zcv_ne (show o ≠ 18 by omega)]
      have he := zws_at (ρ := ρ) (cA := cA) h20 c3
      rw [zcell_I (by omega) (by omega)] at he
      exact va_iald hx hb hE.1 hr.2.1 (o - 20) 0 he (show (ztys cA)[0]? = some (cA (zsh M o).1, .int) by rw [c1]; rfl) c4 hd K
    · cases hg
theorem z_bald {M : ZMem} {o : Nat} {i x : Int32} (F : zFx p s m args meth c ρ cA D k) (hr : zRl ρ cA D s M H locs cells) (hi : zi k pc = some .baload) (hg : zla M (if o < 20 then 32 else if (zsh M o).1 = 21 then 21 else 22) o i = some x) (K : W p l e R s m args below meth c H locs cells slots Q (F0 m (pc + 1) ls (.int x :: rest))) : W p l e R s m args below meth c H locs cells slots Q (F0 m pc ls (.int i :: zcv ρ (.ref o) :: rest)) := by
  obtain ⟨hk, hx, hb, hml, hown, hts, hini, hf, hE, hbs⟩ := F
  have hd := zdec hk hi rfl
  by_cases h1 : o < 20
  · rw [if_pos h1] at hg
    unfold zla at hg
    split at hg
    · next hc =>
      obtain ⟨c1, c2, c3, c4⟩ := hc
      cases hg
      have hM := hr.1.2 o h1
      have hrg : 9 ≤ o ∧ o < 16 := by
        rw [hM.1] at c1
        have c1 : (if o = 1 then ((31 : Nat), (7 : Nat)) else if 2 ≤ o ∧ o < 9 then (13, 0) else if 9 ≤ o ∧ o < 16 then (32, (zT0.getD (o - 9) []).length) else (99, 0)).1 = 32 := c1
        by_cases a1 : o = 1
        · rw [if_pos a1] at c1; cases c1
        · rw [if_neg a1] at c1
          by_cases a2 : 2 ≤ o ∧ o < 9
          · rw [if_pos a2] at c1; cases c1
          · rw [if_neg a2] at c1
            by_cases a3 : 9 ≤ o ∧ o < 16
            · exact a3
            · rw [if_neg a3] at c1; cases c1
      rw [zcv_ne (by omega)]
      obtain ⟨-, -, -, -, h7, -⟩ := hE
      have hS7 := (h7.1 (o - 9) (by omega)).2.2.2
      dsimp only at hS7
      have eav : ρ.1 (9 + (o - 9)) = zadr ρ o := by simp only [zadr, if_pos h1, show 9 + (o - 9) = o by omega]
      rw [eav] at hS7
      have el : (zsh M o).2 = (zT0.map List.length).getD (o - 9) 0 := by
        rw [hM.1]
        show (if o = 1 then ((31 : Nat), (7 : Nat)) else if 2 ≤ o ∧ o < 9 then (13, 0) else if 9 ≤ o ∧ o < 16 then (32, (zT0.getD (o - 9) []).length) else (99, 0)).2 = _
        rw [if_neg (by omega), if_neg (by omega), if_pos hrg]
        rcases (by omega : o = 9 ∨ o = 10 ∨ o = 11 ∨ o = 12 ∨ o = 13 ∨ o = 14 ∨ o = 15) with h | h | h | h | h | h | h <;> subst h <;> rfl
      rw [el] at c4
      refine va_tb hx hb hS7 hr.2.2.2 c4 ?_ hd K
      show Value.int ((zT0.getD (o - 9) []).getD _ 0) = Value.int (zI M o _)
      rw [hM.2.1]
      show _ = Value.int (if o = 1 then _ else if 9 ≤ o ∧ o < 16 then (zT0.getD (o - 9) []).getD _ 0 else 0)
      rw [if_neg (by omega), if_pos hrg]
    · cases hg
  · rw [if_neg h1] at hg
    by_cases h21 : (zsh M o).1 = 21
    · rw [if_pos h21] at hg
      unfold zla at hg
      split at hg
      · next hc =>
        obtain ⟨c1, c2, c3, c4⟩ := hc
        cases hg
        rw [zcv_ne (show o ≠ 18 by omega)]
        have he := zws_at (ρ := ρ) (cA := cA) (by omega) c3
        rw [zcell_I (by omega) (by omega)] at he
        exact va_bald hx hb hE.1 hr.2.1 (o - 20) 1 he (show (ztys cA)[1]? = some (cA (zsh M o).1, .byte) by rw [h21]; rfl) c4 hd K
      · cases hg
    · rw [if_neg h21] at hg
      unfold zla at hg
      split at hg
      · next hc =>
        obtain ⟨c1, c2, c3, c4⟩ := hc
        cases hg
        rw [zcv_ne (show o ≠ 18 by omega)]
        have he := zws_at (ρ := ρ) (cA := cA) (by omega) c3
        rw [zcell_I (by omega) (by omega)] at he
        exact va_zald hx hb hE.1 hr.2.1 (o - 20) 2 he (show (ztys cA)[2]? = some (cA (zsh M o).1, .boolean) by rw [c1]; rfl) c4 hd K
      · cases hg
theorem z_lald {M : ZMem} {o : Nat} {i : Int32} {x : Int64} (F : zFx p s m args meth c ρ cA D k) (hr : zRl ρ cA D s M H locs cells) (hi : zi k pc = some .laload) (hg : zlaL M o i = some x) (K : W p l e R s m args below meth c H locs cells slots Q (F0 m (pc + 1) ls (.long x :: rest))) : W p l e R s m args below meth c H locs cells slots Q (F0 m pc ls (.int i :: zcv ρ (.ref o) :: rest)) := by
  obtain ⟨hk, hx, hb, hml, hown, hts, hini, hf, hE, hbs⟩ := F
  have hd := zdec hk hi rfl
  unfold zlaL at hg
  split at hg
  · next hc =>
    obtain ⟨c1, c2, c3, c4⟩ := hc
    cases hg
    rw [zcv_ne (show o ≠ 18 by omega)]
    have he := zws_at (ρ := ρ) (cA := cA) c2 c3
    rw [zcell_L c1] at he
    exact va_lald hx hb hE.1 hr.2.1 (o - 20) 3 he (show (ztys cA)[3]? = some (cA 23, .long) from rfl) c4 hd K
  · cases hg
theorem z_aald {M : ZMem} {o : Nat} {i : Int32} {r : Option Nat} (F : zFx p s m args meth c ρ cA D k) (hr : zRl ρ cA D s M H locs cells) (hi : zi k pc = some .aaload) (hg : zlaR M o i = some r) (K : W p l e R s m args below meth c H locs cells slots Q (F0 m (pc + 1) ls (zcv ρ (zrf r) :: rest))) : W p l e R s m args below meth c H locs cells slots Q (F0 m pc ls (.int i :: zcv ρ (.ref o) :: rest)) := by
  obtain ⟨hk, hx, hb, hml, hown, hts, hini, hf, hE, hbs⟩ := F
  have hd := zdec hk hi rfl
  unfold zlaR at hg
  split at hg
  · next hc =>
    obtain ⟨c1, c1', c2, c3, c4⟩ := hc
    cases hg
    rw [zcv_ne (show o ≠ 18 by omega)]
    have he := zws_at (ρ := ρ) (cA := cA) c2 c3
    rw [zcell_R c1] at he
    rw [← zrA_rf hf] at K
    rcases (by omega : (zsh M o).1 = 24 ∨ (zsh M o).1 = 25 ∨ (zsh M o).1 = 26) with h | h | h
    · exact va_aldq hx hb hE.1 hr.2.1 (o - 20) 4 he (show (ztys cA)[4]? = some (cA (zsh M o).1, .object "SlateHalves$Hill") by rw [h]; rfl) c4 hd K
    · exact va_aldq hx hb hE.1 hr.2.1 (o - 20) 5 he (show (ztys cA)[5]? = some (cA (zsh M o).1, .object "SlateHalves$Tape") by rw [h]; rfl) c4 hd K
    · exact va_aldq hx hb hE.1 hr.2.1 (o - 20) 6 he (show (ztys cA)[6]? = some (cA (zsh M o).1, .object "SlateHalves$Block") by rw [h]; rfl) c4 hd K
  · cases hg
end ZSA
