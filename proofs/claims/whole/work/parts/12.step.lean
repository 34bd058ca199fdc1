section ZBIG
variable {p : Program} {l : Launch} {e : Env} {R : Room} {s : State} {m : MethodId} {args : Array Value} {below : List Frame} {meth : Method} {c : Code} {H : Heap} {locs : List Loc} {cells slots : Nat} {Q : State → Prop}
variable {ρ : ZAd} {cA : Nat → ClassId} {D : va_G} {k pc : Nat} {ls : Array Slot}
set_option maxHeartbeats 4000000 in
theorem zstep {sc : Option (Nat × (Nat → Int32))} {d : Nat} {lo : List (Nat × Value)} {st : List Value} {M M' : ZMem} {i : Instr} {g' : ZFr} (F : zFx p s m args meth c ρ cA D k) (hsc : zSc sc ρ s) (hR : d ≤ R.frames ∧ 60 * d ≤ R.locals) (hi : zi k pc = some i) (hs : zs sc d k pc lo st M i = some (g', M')) (hcells : cells + (zn M' - zn M) ≤ R.cells) (hslots : slots + (zc M' - zc M) ≤ R.slots) (hl : lv_has ls (zml k) (zcl2 ρ lo)) (hr : zRl ρ cA D s M H locs cells)
    (kk : ∀ (ls' : Array Slot) (H' : Heap) (locs' : List Loc), lv_has ls' (zml k) (zcl2 ρ g'.2.1) → zRl ρ cA D s M' H' locs' (cells + (zn M' - zn M)) → W p l e R s m args below meth c H' locs' (cells + (zn M' - zn M)) (slots + (zc M' - zc M)) Q (F0 m g'.1 ls' (g'.2.2.map (zcv ρ)))) : W p l e R s m args below meth c H locs cells slots Q (F0 m pc ls (st.map (zcv ρ))) := by
  have hF := F
  obtain ⟨hk, hx, hb, hml, hown, hts, hini, hf, hE, hbs⟩ := hF
  unfold zs at hs
  split at hs
  all_goals trace_state
  all_goals sorry
end ZBIG
