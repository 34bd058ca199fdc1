/-! the start: what the Statement gives is the world of the abstract machine -/
theorem znp_0 : (Cond.methodLinkNest "SlateHalves" 13 (zmeth 2).1 "SlateHalves") ∈ lw_tbl := List.mem_of_getElem? (i := 125) (by decide +kernel)
theorem znp_1 : (Cond.methodLinkNest "SlateHalves" 49 (zmeth 6).1 "SlateHalves") ∈ lw_tbl := List.mem_of_getElem? (i := 256) (by decide +kernel)
theorem znp_2 : (Cond.methodLinkNest "SlateHalves" 56 (zmeth 7).1 "SlateHalves") ∈ lw_tbl := List.mem_of_getElem? (i := 283) (by decide +kernel)
theorem znp_3 : (Cond.methodLinkNest "SlateHalves$HillReader" 22 (zmeth 6).1 "SlateHalves") ∈ lw_tbl := List.mem_of_getElem? (i := 288) (by decide +kernel)
theorem znp_4 : (Cond.methodLinkNest "SlateHalves" 63 (zmeth 8).1 "SlateHalves") ∈ lw_tbl := List.mem_of_getElem? (i := 304) (by decide +kernel)
theorem znp_5 : (Cond.methodLinkNest "SlateHalves" 70 (zmeth 9).1 "SlateHalves") ∈ lw_tbl := List.mem_of_getElem? (i := 324) (by decide +kernel)
theorem znp_6 : (Cond.methodLinkNest "SlateHalves$Valuer" 11 (zmeth 8).1 "SlateHalves") ∈ lw_tbl := List.mem_of_getElem? (i := 329) (by decide +kernel)
theorem znp_7 : (Cond.methodLinkNest "SlateHalves" 77 (zmeth 10).1 "SlateHalves") ∈ lw_tbl := List.mem_of_getElem? (i := 354) (by decide +kernel)
theorem znp_8 : (Cond.methodLinkNest "SlateHalves" 84 (zmeth 11).1 "SlateHalves") ∈ lw_tbl := List.mem_of_getElem? (i := 380) (by decide +kernel)
theorem znp_9 : (Cond.methodLinkNest "SlateHalves" 95 (zmeth 12).1 "SlateHalves") ∈ lw_tbl := List.mem_of_getElem? (i := 405) (by decide +kernel)
theorem znp_10 : (Cond.methodLinkNest "SlateHalves$Yard" 33 (zmeth 14).1 "SlateHalves") ∈ lw_tbl := List.mem_of_getElem? (i := 495) (by decide +kernel)
theorem znp_11 : (Cond.methodLinkNest "SlateHalves$Blows" 31 (zmeth 25).1 "SlateHalves") ∈ lw_tbl := List.mem_of_getElem? (i := 532) (by decide +kernel)
theorem znp_12 : (Cond.methodLinkNest "SlateHalves$Valuer" 105 (zmeth 14).1 "SlateHalves") ∈ lw_tbl := List.mem_of_getElem? (i := 580) (by decide +kernel)
theorem znp_13 : (Cond.methodLinkNest "SlateHalves$HillReader" 96 (zmeth 14).1 "SlateHalves") ∈ lw_tbl := List.mem_of_getElem? (i := 758) (by decide +kernel)
theorem znp_14 : (Cond.methodLinkNest "SlateHalves$Yard" 44 (zmeth 26).1 "SlateHalves") ∈ lw_tbl := List.mem_of_getElem? (i := 863) (by decide +kernel)
theorem znp_15 : (Cond.methodLinkNest "SlateHalves$Planner" 52 (zmeth 14).1 "SlateHalves") ∈ lw_tbl := List.mem_of_getElem? (i := 911) (by decide +kernel)
theorem znest_in : ∀ q ∈ znest, Cond.methodLinkNest q.1 q.2.1 (zmeth q.2.2.1).1 q.2.2.2 ∈ lw_tbl := by
  intro q hq
  unfold znest at hq
  simp only [List.mem_cons, List.not_mem_nil, or_false] at hq
  rcases hq with rfl | rfl | rfl | rfl | rfl | rfl | rfl | rfl | rfl | rfl | rfl | rfl | rfl | rfl | rfl | rfl
  · exact znp_0
  · exact znp_1
  · exact znp_2
  · exact znp_3
  · exact znp_4
  · exact znp_5
  · exact znp_6
  · exact znp_7
  · exact znp_8
  · exact znp_9
  · exact znp_10
  · exact znp_11
  · exact znp_12
  · exact znp_13
  · exact znp_14
  · exact znp_15
theorem zsp_0 : (Cond.stringRef (zown1 (zstr.getD 0 (0, 0, "")).1) (zstr.getD 0 (0, 0, "")).2.1 (zstr.getD 0 (0, 0, "")).2.2) ∈ lw_tbl := List.mem_of_getElem? (i := 688) (by decide +kernel)
theorem zsp_1 : (Cond.stringRef (zown1 (zstr.getD 1 (0, 0, "")).1) (zstr.getD 1 (0, 0, "")).2.1 (zstr.getD 1 (0, 0, "")).2.2) ∈ lw_tbl := List.mem_of_getElem? (i := 689) (by decide +kernel)
theorem zsp_2 : (Cond.stringRef (zown1 (zstr.getD 2 (0, 0, "")).1) (zstr.getD 2 (0, 0, "")).2.1 (zstr.getD 2 (0, 0, "")).2.2) ∈ lw_tbl := List.mem_of_getElem? (i := 690) (by decide +kernel)
theorem zsp_3 : (Cond.stringRef (zown1 (zstr.getD 3 (0, 0, "")).1) (zstr.getD 3 (0, 0, "")).2.1 (zstr.getD 3 (0, 0, "")).2.2) ∈ lw_tbl := List.mem_of_getElem? (i := 691) (by decide +kernel)
theorem zsp_4 : (Cond.stringRef (zown1 (zstr.getD 4 (0, 0, "")).1) (zstr.getD 4 (0, 0, "")).2.1 (zstr.getD 4 (0, 0, "")).2.2) ∈ lw_tbl := List.mem_of_getElem? (i := 692) (by decide +kernel)
theorem zsp_5 : (Cond.stringRef (zown1 (zstr.getD 5 (0, 0, "")).1) (zstr.getD 5 (0, 0, "")).2.1 (zstr.getD 5 (0, 0, "")).2.2) ∈ lw_tbl := List.mem_of_getElem? (i := 775) (by decide +kernel)
theorem zsp_6 : (Cond.stringRef (zown1 (zstr.getD 6 (0, 0, "")).1) (zstr.getD 6 (0, 0, "")).2.1 (zstr.getD 6 (0, 0, "")).2.2) ∈ lw_tbl := List.mem_of_getElem? (i := 835) (by decide +kernel)
theorem zs_in : ∀ i, i < 7 → (Cond.stringRef (zown1 (zstr.getD i (0, 0, "")).1) (zstr.getD i (0, 0, "")).2.1 (zstr.getD i (0, 0, "")).2.2) ∈ lw_tbl := by
  intro i hi
  match i, hi with
  | 0, _ => exact zsp_0
  | 1, _ => exact zsp_1
  | 2, _ => exact zsp_2
  | 3, _ => exact zsp_3
  | 4, _ => exact zsp_4
  | 5, _ => exact zsp_5
  | 6, _ => exact zsp_6
  | i + 7, h => exact absurd h (by omega)
theorem zq_zl_ab : (.laysStatic "SlateHalves" "ABOVE" "[I" : Jvm.Cond) ∈ lw_tbl := List.mem_of_getElem? (i := 1050) (by decide +kernel)
theorem zq_zl_cs : (.laysStatic "java/lang/String" "COMPACT_STRINGS" "Z" : Jvm.Cond) ∈ lw_tbl := List.mem_of_getElem? (i := 706) (by decide +kernel)
theorem zq_zl_fm : (.laysStatic "jdk/internal/util/Preconditions" "SIOOBE_FORMATTER" "Ljava/util/function/BiFunction;" : Jvm.Cond) ∈ lw_tbl := List.mem_of_getElem? (i := 722) (by decide +kernel)
theorem zq_zi_ab : (.initialized "SlateHalves" : Jvm.Cond) ∈ lw_tbl := List.mem_of_getElem? (i := 93) (by decide +kernel)
theorem zq_zi_cs : (.initialized "java/lang/String" : Jvm.Cond) ∈ lw_tbl := List.mem_of_getElem? (i := 109) (by decide +kernel)
theorem zq_zi_fm : (.initialized "jdk/internal/util/Preconditions" : Jvm.Cond) ∈ lw_tbl := List.mem_of_getElem? (i := 111) (by decide +kernel)
theorem zq_zo_h : (.arrayOver (.object "SlateHalves$Hill") : Jvm.Cond) ∈ lw_tbl := List.mem_of_getElem? (i := 254) (by decide +kernel)
theorem zq_zo_t : (.arrayOver (.object "SlateHalves$Tape") : Jvm.Cond) ∈ lw_tbl := List.mem_of_getElem? (i := 403) (by decide +kernel)
theorem zq_zo_b : (.arrayOver (.object "SlateHalves$Block") : Jvm.Cond) ∈ lw_tbl := List.mem_of_getElem? (i := 136) (by decide +kernel)
theorem zarr_of {s : State} {A : Array Value} {ty : FieldType} (h : (Cond.arrayClass ty).before A s = true) (hp : ∀ C, ty ≠ .object C) : ∃ cA, ArrOfT s cA ty ∧ va_RA s cA ty := by
  obtain ⟨cA, kA, comp, h1, h2, h3⟩ := Cond.arrayClass_spec h
  refine ⟨cA, fun n z => ⟨fun k h => (by cases h), kA, h2, comp, h3⟩, ?_⟩
  cases ty <;> first | exact h1 | exact absurd rfl (hp _)
theorem zarr_ofR {s : State} {A : Array Value} {C : String} (h : (Cond.arrayOver (.object C)).before A s = true) : ∃ cA, ArrOfT s cA (.object C) ∧ va_RA s cA (.object C) := by
  obtain ⟨comp, cA, kA, h1, -, h2, h3, h4⟩ := Cond.arrayOver_spec h
  exact ⟨cA, fun n z => ⟨fun k h => (by cases h), kA, h2, comp, h3⟩, kA, comp, h2, h3, h1, h4⟩
def znw : List Jvm.Cond := flatC (Jvm.Cond.and given_1 narrow_1)
def zstm (i : Nat) : Term := .string "SlateHalves$HillReader" (zstr.getD i (0, 0, "")).2.1
theorem zstm_ok : ∀ i, i < 7 → (Cond.exactly (zstm i) "java/lang/String") ∈ znw ∧ (Cond.eq (.field (zstm i) "java/lang/String" "coder" "B") (.int 0)) ∈ znw ∧ (Cond.arrayOf (.field (zstm i) "java/lang/String" "value" "[B") .byte) ∈ znw ∧ (Cond.eq (.length (.field (zstm i) "java/lang/String" "value" "[B")) (.int (Int32.ofNat ((zT0.map List.length).getD i 0)))) ∈ znw := by decide +kernel
theorem zstm_el : ∀ i, i < 7 → ∀ j, j < (zT0.map List.length).getD i 0 → (Cond.eq (.elem (.field (zstm i) "java/lang/String" "value" "[B") (.int (Int32.ofNat j))) (.int ((zT0.getD i []).getD j 0))) ∈ znw := by decide +kernel
theorem zstm_ne : ∀ i, i < 7 → ∀ j, j < 7 → i ≠ j → (Cond.not (Cond.eq (zstm i) (zstm j))) ∈ znw ∨ (Cond.not (Cond.eq (zstm j) (zstm i))) ∈ znw := by decide +kernel
theorem zab_ok : (Cond.arrayOf (.static "SlateHalves" "ABOVE" "[I") .int) ∈ znw ∧ (Cond.eq (.length (.static "SlateHalves" "ABOVE" "[I")) (.int (Int32.ofNat 7))) ∈ znw ∧ ∀ j, j < 7 → (Cond.eq (.elem (.static "SlateHalves" "ABOVE" "[I") (.int (Int32.ofNat j))) (.int (zAb.getD j 0))) ∈ znw := by decide +kernel
theorem zst_ok : (Cond.eq (.static "java/lang/String" "COMPACT_STRINGS" "Z") (.int 1)) ∈ znw ∧ (Cond.isRef (.static "jdk/internal/util/Preconditions" "SIOOBE_FORMATTER" "Ljava/util/function/BiFunction;")) ∈ znw := by decide +kernel
theorem zstart {s : State} {A : Array Value} {b : Nat} (hts : ∀ w ∈ lw_tbl, w.before A s = true) (hgv : (Jvm.Cond.and given_1 narrow_1).before A s = true) : ∃ (ρ : ZAd) (cA : Nat → ClassId) (D : va_G), ρ.1 0 = b ∧ ρ.2.2 = s.heap.size ∧ zfm ρ ∧ zEnv ρ cA D s s.heap := by
  have hn : ∀ c ∈ znw, c.before A s = true := flat_of_before _ hgv
  have hA : ∀ a : Nat, a < s.heap.size → ¬ s.heap.size ≤ a := fun a h h2 => absurd h (by omega)
  have hG : ∀ w ∈ zG, w.before A s = true := fun w hw => hts w (List.mem_filter.mp hw).1
  -- the classes
  have hk : ∀ t, ∃ q : ClassId × (Nat → Nat), t < 13 → u_Kn s (zcl t).1 (zcl t).2.1 (zcl t).2.2 q.1 q.2 := by
    intro t
    by_cases ht : t < 13
    · have hu : ∀ w ∈ u_ws (zcl t).1 (zcl t).2.1 (zcl t).2.2, w ∈ zG := fun w hw => by
        obtain ⟨a, ha, rfl⟩ := List.mem_map.mp hw
        exact zuws t ht a (by unfold zN; rw [if_neg (by omega)]; exact List.mem_range.mp ha)
      obtain ⟨cC, iS, h⟩ := u_known hG hu (hG _ (zat_in (zcw_all t ht).1))
      exact ⟨(cC, iS), fun _ => h⟩
    · exact ⟨(0, fun _ => 0), fun h => absurd h ht⟩
  obtain ⟨dq, hdq⟩ := Classical.axiomOfChoice hk
  -- rows
  obtain ⟨a0, h0⟩ := zarr_of (hG _ zw_arri) (fun C h => by cases h)
  obtain ⟨a1, h1⟩ := zarr_of (hG _ zw_arrb) (fun C h => by cases h)
  obtain ⟨a2, h2⟩ := zarr_of (hG _ zw_arrz) (fun C h => by cases h)
  obtain ⟨a3, h3⟩ := zarr_of (hG _ zw_arrl) (fun C h => by cases h)
  obtain ⟨a4, h4⟩ := zarr_ofR (hts _ zq_zo_h)
  obtain ⟨a5, h5⟩ := zarr_ofR (hts _ zq_zo_t)
  obtain ⟨a6, h6⟩ := zarr_ofR (hts _ zq_zo_b)
  -- texts
  obtain ⟨adK, adV, hS, hSe⟩ := vk_Sof (args := A) (s := s) (N := 7) (tm := zstm) (len := zT0.map List.length) (byt := zT0) (A := fun q => s.heap.size ≤ q) (by decide +kernel) (fun i hi => hn _ (zstm_ok i hi).1) (fun i hi => hn _ (zstm_ok i hi).2.1) (fun i hi => hn _ (zstm_ok i hi).2.2.1) (fun i hi => hn _ (zstm_ok i hi).2.2.2) (fun i hi j hj => hn _ (zstm_el i hi j hj)) (fun i j hi hj h => (zstm_ne i hi j hj h).elim (fun q => Or.inl (hn _ q)) (fun q => Or.inr (hn _ q))) hA
  -- statics
  obtain ⟨tA, hA1, hA2⟩ := va_Tof (args := A) (s := s) (tm := .static "SlateHalves" "ABOVE" "[I") (ty := .int) (N := 7) (f := fun j => .int (zAb.getD j 0)) (A := fun q => s.heap.size ≤ q) (by decide) (hn _ zab_ok.1) (va_eqt (hn _ zab_ok.2.1)) (fun j hj => va_eqt (hn _ (zab_ok.2.2 j hj))) hA
  obtain ⟨fv, hf1, hf2⟩ := Cond.isRef_spec (hn _ zst_ok.2)
  refine ⟨(fun k => if k = 0 then b else if k = 1 then tA else if k < 9 then adK (k - 2) else adV (k - 9), fv, s.heap.size), fun t => if t = 20 then a0 else if t = 21 then a1 else if t = 22 then a2 else if t = 23 then a3 else if t = 24 then a4 else if t = 25 then a5 else a6, (fun t => (dq t).1, fun t => (dq t).2), rfl, rfl, ?_, ⟨fun c q hq => ?_, fun k q hq => ?_⟩, fun q hq => va_Nw.of rfl (hts _ (znest_in q hq)), fun i hi => ?_, ⟨va_Zof (hts _ zq_zl_ab) (hts _ zq_zi_ab) hA1 hA, va_Zof (hts _ zq_zl_cs) (hts _ zq_zi_cs) (va_eqt (hn _ zst_ok.1)) hA, va_Zof (hts _ zq_zl_fm) (hts _ zq_zi_fm) hf1 hA⟩, ?_, hA2, va_AO.of (hts _ zq_zo_h), va_AO.of (hts _ zq_zo_t), va_AO.of (hts _ zq_zo_b)⟩
  · cases fv <;> first | exact Or.inl rfl | exact Or.inr ⟨_, rfl⟩ | cases hf2
  · have hc : c < 13 := (List.getElem?_eq_some_iff.mp hq).1
    have := Option.some.inj (hq.symm.trans (zvw c hc))
    subst this
    exact hdq c hc
  · match k, hq with
    | 0, hq => cases hq; exact h0
    | 1, hq => cases hq; exact h1
    | 2, hq => cases hq; exact h2
    | 3, hq => cases hq; exact h3
    | 4, hq => cases hq; exact h4
    | 5, hq => cases hq; exact h5
    | 6, hq => cases hq; exact h6
    | k + 7, hq => simp [ztys] at hq
  · have e : (if 2 + i = 0 then b else if 2 + i = 1 then tA else if 2 + i < 9 then adK (2 + i - 2) else adV (2 + i - 9)) = adK i := by
      rw [if_neg (by omega), if_neg (by omega), if_pos (by omega), show 2 + i - 2 = i by omega]
    show vk_R _ _ _ (if 2 + i = 0 then b else if 2 + i = 1 then tA else if 2 + i < 9 then adK (2 + i - 2) else adV (2 + i - 9)) s
    rw [e]
    refine vk_R.of (hts _ (zs_in i hi)) ?_
    have h := hSe i hi
    have e2 : zown1 (zstr.getD i (0, 0, "")).1 = "SlateHalves$HillReader" := by
      rcases (by omega : i = 0 ∨ i = 1 ∨ i = 2 ∨ i = 3 ∨ i = 4 ∨ i = 5 ∨ i = 6) with h | h | h | h | h | h | h <;> subst h <;> rfl
    rw [e2]
    exact h
  · have e1 : (fun i => (fun k => if k = 0 then b else if k = 1 then tA else if k < 9 then adK (k - 2) else adV (k - 9)) (9 + i)) = adV := by
      funext i
      show (if 9 + i = 0 then b else if 9 + i = 1 then tA else if 9 + i < 9 then adK (9 + i - 2) else adV (9 + i - 9)) = adV i
      rw [if_neg (by omega), if_neg (by omega), if_neg (by omega), show 9 + i - 9 = i by omega]
    refine ⟨fun i hi => ?_, fun i j hi hj h => ?_⟩
    · have e2 : (fun k => if k = 0 then b else if k = 1 then tA else if k < 9 then adK (k - 2) else adV (k - 9)) (2 + i) = adK i := by
        show (if 2 + i = 0 then b else if 2 + i = 1 then tA else if 2 + i < 9 then adK (2 + i - 2) else adV (2 + i - 9)) = adK i
        rw [if_neg (by omega), if_neg (by omega), if_pos (by omega), show 2 + i - 2 = i by omega]
      have h := hS.1 i hi
      rw [← e2, ← congrFun e1 i] at h
      exact h
    · have e2 : ∀ i, i < 7 → (fun k => if k = 0 then b else if k = 1 then tA else if k < 9 then adK (k - 2) else adV (k - 9)) (2 + i) = adK i := fun i hi => by
        show (if 2 + i = 0 then b else if 2 + i = 1 then tA else if 2 + i < 9 then adK (2 + i - 2) else adV (2 + i - 9)) = adK i
        rw [if_neg (by omega), if_neg (by omega), if_pos (by omega), show 2 + i - 2 = i by omega]
      have h2 : adK i = adK j := by rw [← e2 i hi, ← e2 j hj]; exact h
      exact hS.2 i j hi hj h2
