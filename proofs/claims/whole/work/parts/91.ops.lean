/-! THE LAW'S CALLS, two by two (printed by wip/whole/gen_ops.py) -/
theorem op_0 {M : ZMem} {s : ZSt} {l : Nat → Int64} (h : LI M s l) (a0 : Int32) (a1 : Int32) (a2 : Int32) : ∃ v M1 M2 s1 l1, f_13 M 20 a0 a1 a2 = some (v, M1) ∧ Ly M1 ∧ f_146 M1 133 a0 a1 a2 = some (v, M2) ∧ LI M2 s1 l1 := by
  have hX := h.2.2.2.2
  have hV := hX.1
  obtain ⟨M1, e1, C1⟩ := m13 h.cs hV.1.1 (wt a0) (wt a1) (wt a2)
  obtain ⟨M2, e2, S2⟩ := m146 (h.ms C1) hV.1.1.1 (wt a0) (wt a1) (wt a2)
  simp only [ii_of] at e1 e2
  exact ⟨_, M1, M2, _, _, e1, C1.1, e2, LI_fin h C1.2.1 C1.2.2 S2 (IX_13 hX _ _ _)⟩
theorem op_1 {M : ZMem} {s : ZSt} {l : Nat → Int64} (h : LI M s l) (a0 : Int32) (a1 : Int32) : ∃ v M1 M2 s1 l1, f_18 M 20 a0 a1 = some (v, M1) ∧ Ly M1 ∧ f_167 M1 133 a0 a1 = some (v, M2) ∧ LI M2 s1 l1 := by
  have hX := h.2.2.2.2
  have hV := hX.1
  obtain ⟨M1, e1, C1⟩ := m18 h.cs hV.1.1 hV.1.2.2.2 hV.1.2.2.1 (wt a0) (wt a1)
  obtain ⟨M2, e2, S2⟩ := m167 (h.ms C1) hV.1.1.1 hV.1.2.2.2 hV.1.2.2.1 (wt a0) (wt a1)
  simp only [ii_of] at e1 e2
  exact ⟨_, M1, M2, _, _, e1, C1.1, e2, LI_fin h C1.2.1 C1.2.2 S2 (hX)⟩
theorem op_2 {M : ZMem} {s : ZSt} {l : Nat → Int64} (h : LI M s l) (a0 : Int32) (a1 : Int32) : ∃ v M1 M2 s1 l1, f_48 M 20 a0 a1 = some (v, M1) ∧ Ly M1 ∧ f_148 M1 133 a0 a1 = some (v, M2) ∧ LI M2 s1 l1 := by
  have hX := h.2.2.2.2
  have hV := hX.1
  obtain ⟨M1, e1, L1, U1, R1⟩ := m48 h.1 h.2.1 hV.1.1 (wt a0) (wt a1)
  obtain ⟨M2, e2, L2, D2, R2⟩ := m148 L1 (U1.rm h.2.2.1) hV.1.1.1 (wt a0) (wt a1)
  simp only [ii_of] at e1 e2
  exact ⟨_, M1, M2, _, _, e1, L1, e2, LI_fin h U1 R1 ⟨L2, D2, R2⟩ (IX_48 hX _ _)⟩
theorem op_3 {M : ZMem} {s : ZSt} {l : Nat → Int64} (h : LI M s l) (a0 : Int32) (a1 : Int32) (a2 : Int32) : ∃ v M1 M2 s1 l1, f_49 M 20 a0 a1 a2 = some (v, M1) ∧ Ly M1 ∧ f_150 M1 133 a0 a1 a2 = some (v, M2) ∧ LI M2 s1 l1 := by
  have hX := h.2.2.2.2
  have hV := hX.1
  obtain ⟨M1, e1, C1⟩ := m49 h.cs hV.1.1 hV.1.2.2.1 (wt a0) (wt a1) (wt a2)
  obtain ⟨M2, e2, S2⟩ := m150 (h.ms C1) hV.1.1.1 hV.1.2.2.1 (wt a0) (wt a1) (wt a2)
  simp only [ii_of] at e1 e2
  exact ⟨_, M1, M2, _, _, e1, C1.1, e2, LI_fin h C1.2.1 C1.2.2 S2 (IX_49 hX _ _ _)⟩
theorem op_4 {M : ZMem} {s : ZSt} {l : Nat → Int64} (h : LI M s l) (a0 : Int32) (a1 : Int32) : ∃ v M1 M2 s1 l1, f_50 M 20 a0 a1 = some (v, M1) ∧ Ly M1 ∧ f_190 M1 133 a0 a1 = some (v, M2) ∧ LI M2 s1 l1 := by
  have hX := h.2.2.2.2
  have hV := hX.1
  obtain ⟨M1, e1, C1⟩ := m50 h.cs hV.1.1 hV.1.2.2.2 hV.1.2.2.1 (wt a0) (wt a1)
  obtain ⟨M2, e2, S2⟩ := m190 (h.ms C1) hV.1.1.1 hV.1.2.2.2 hV.1.2.2.1 (wt a0) (wt a1)
  simp only [ii_of] at e1 e2
  exact ⟨_, M1, M2, _, _, e1, C1.1, e2, LI_fin h C1.2.1 C1.2.2 S2 (IX_50 hX _ _)⟩
theorem op_5 {M : ZMem} {s : ZSt} {l : Nat → Int64} (h : LI M s l) (a0 : Int32) (a1 : Int32) (a2 : Int32) : ∃ v M1, f_54 M 20 a0 a1 a2 = some (v, M1) ∧ Ly M1 ∧ f_191 M1 133 a0 a1 a2 = some v ∧ LI M1 s l := by
  have hX := h.2.2.2.2
  have hV := hX.1
  obtain ⟨M1, e1, C1⟩ := m54 h.cs hV.1.1 hV.1.2.2.1 (wt a0) (wt a1) (wt a2)
  have e2 := m191 C1.1 (C1.2.1.rm h.2.2.1) hV.1.1.1 hV.1.2.2.1 (wt a0) (wt a1) (wt a2)
  simp only [ii_of] at e1 e2
  exact ⟨_, M1, e1, C1.1, e2, LI_fin h C1.2.1 C1.2.2 (h.ms C1) hX⟩
theorem op_6 {M : ZMem} {s : ZSt} {l : Nat → Int64} (h : LI M s l) (a0 : Int32) : ∃ v M1 M2 s1 l1, f_56 M 20 a0 = some (v, M1) ∧ Ly M1 ∧ f_192 M1 133 a0 = some (v, M2) ∧ LI M2 s1 l1 := by
  have hX := h.2.2.2.2
  have hV := hX.1
  obtain ⟨M1, e1, C1⟩ := m56 h.cs hV.1.1 hV.1.2.2.2 hV.1.2.2.1 (wt a0)
  obtain ⟨M2, e2, S2⟩ := m192 (h.ms C1) hV.1.1.1 hV.1.2.2.2 hV.1.2.2.1 (wt a0)
  simp only [ii_of] at e1 e2
  exact ⟨_, M1, M2, _, _, e1, C1.1, e2, LI_fin h C1.2.1 C1.2.2 S2 (IX_56 hX _)⟩
theorem op_7 {M : ZMem} {s : ZSt} {l : Nat → Int64} (h : LI M s l) (a0 : Int32) : ∃ v M1 M2 s1 l1, f_59 M 20 a0 = some (v, M1) ∧ Ly M1 ∧ f_151 M1 133 a0 = some (v, M2) ∧ LI M2 s1 l1 := by
  have hX := h.2.2.2.2
  have hV := hX.1
  obtain ⟨M1, e1, C1⟩ := m59 h.cs hV.1.1 (wt a0)
  obtain ⟨M2, e2, S2⟩ := m151 (h.ms C1) hV.1.1.1 (wt a0)
  simp only [ii_of] at e1 e2
  exact ⟨_, M1, M2, _, _, e1, C1.1, e2, LI_fin h C1.2.1 C1.2.2 S2 (IX_59 hX _)⟩
theorem op_8 {M : ZMem} {s : ZSt} {l : Nat → Int64} (h : LI M s l) : ∃ v M1 M2 s1 l1, f_60 M 20  = some (v, M1) ∧ Ly M1 ∧ f_152 M1 133  = some (v, M2) ∧ LI M2 s1 l1 := by
  have hX := h.2.2.2.2
  have hV := hX.1
  obtain ⟨M1, e1, ⟨L1, U1⟩, C1⟩ := m60 h.cs hX
  obtain ⟨s1, r1, M2, e2, S2⟩ := m152 (M0 := M1) ⟨L1, Dn.rf M1, U1.rm h.2.2.1⟩ hX
  exact ⟨_, M1, M2, s1, l, e1, L1, e2, LI_fin h U1 (C1 s1 r1).2.2 S2 (IX_hr hX r1)⟩
theorem op_9 {M : ZMem} {s : ZSt} {l : Nat → Int64} (h : LI M s l) (a0 : Int32) : ∃ v M1 M2 s1 l1, f_88 M 20 a0 = some (v, M1) ∧ Ly M1 ∧ f_187 M1 133 a0 = some (v, M2) ∧ LI M2 s1 l1 := by
  have hX := h.2.2.2.2
  have hV := hX.1
  obtain ⟨M1, e1, C1⟩ := m88 h.cs hV (wt a0)
  obtain ⟨M2, e2, S2⟩ := m187 (h.ms C1) hV (wt a0)
  simp only [ii_of] at e1 e2
  exact ⟨_, M1, M2, _, _, e1, C1.1, e2, LI_fin h C1.2.1 C1.2.2 S2 (hX)⟩
theorem op_10 {M : ZMem} {s : ZSt} {l : Nat → Int64} (h : LI M s l) (a0 : Int32) : ∃ v M1 M2 s1 l1, f_91 M 20 a0 = some (v, M1) ∧ Ly M1 ∧ f_193 M1 133 a0 = some (v, M2) ∧ LI M2 s1 l1 := by
  have hX := h.2.2.2.2
  have hV := hX.1
  obtain ⟨M1, e1, C1⟩ := m91 h.cs hV (wt a0)
  obtain ⟨M2, e2, S2⟩ := m193 (h.ms C1) hV (wt a0)
  simp only [ii_of] at e1 e2
  exact ⟨_, M1, M2, _, _, e1, C1.1, e2, LI_fin h C1.2.1 C1.2.2 S2 (IX_91 hX _)⟩
theorem op_11 {M : ZMem} {s : ZSt} {l : Nat → Int64} (h : LI M s l) (a0 : Int32) (a1 : Int32) : ∃ v M1 M2 s1 l1, f_93 M 20 a0 a1 = some (v, M1) ∧ Ly M1 ∧ f_197 M1 133 a0 a1 = some (v, M2) ∧ LI M2 s1 l1 := by
  have hX := h.2.2.2.2
  have hV := hX.1
  obtain ⟨M1, e1, C1⟩ := m93 (s := svS s) (l := l) ⟨h.1, Up.rf M, RC_ev h.2.1 (sv_ev s)⟩ (IV_ev hV (sv_ev s)) (wt a0) (wt a1)
  obtain ⟨s1, hs, M2, e2, S2⟩ := m197 (h.ms C1) hV (wt a0) (wt a1)
  have e : EV s s1 := by
    rcases hs with q | q
    · rw [q]; exact EV.rf _
    · rw [q]; exact sv_ev s
  simp only [ii_of] at e1 e2
  exact ⟨_, M1, M2, s1, l, e1, C1.1, e2, LI_fin h C1.2.1 (RC_ev C1.2.2 ((sv_ev s).sy.tr e)) S2 (IX_ev hX e)⟩
theorem op_12 {M : ZMem} {s : ZSt} {l : Nat → Int64} (h : LI M s l) (a0 : Int32) : ∃ v M1 M2 s1 l1, f_96 M 20 a0 = some (v, M1) ∧ Ly M1 ∧ f_200 M1 133 a0 = some (v, M2) ∧ LI M2 s1 l1 := by
  have hX := h.2.2.2.2
  have hV := hX.1
  obtain ⟨M1, e1, C1⟩ := m96 (s := svS s) (l := l) ⟨h.1, Up.rf M, RC_ev h.2.1 (sv_ev s)⟩ (IV_ev hV (sv_ev s)) (wt a0)
  obtain ⟨s1, hs, M2, e2, S2⟩ := m200 (h.ms C1) hV (wt a0)
  have e : EV s s1 := by
    rcases hs with q | q
    · rw [q]; exact EV.rf _
    · rw [q]; exact sv_ev s
  simp only [ii_of] at e1 e2
  exact ⟨_, M1, M2, s1, l, e1, C1.1, e2, LI_fin h C1.2.1 (RC_ev C1.2.2 ((sv_ev s).sy.tr e)) S2 (IX_ev hX e)⟩
theorem op_13 {M : ZMem} {s : ZSt} {l : Nat → Int64} (h : LI M s l) (a0 : Int32) : ∃ v M1 M2 s1 l1, f_97 M 20 a0 = some (v, M1) ∧ Ly M1 ∧ f_201 M1 133 a0 = some (v, M2) ∧ LI M2 s1 l1 := by
  have hX := h.2.2.2.2
  have hV := hX.1
  obtain ⟨M1, e1, C1⟩ := m97 (s := svS s) (l := l) ⟨h.1, Up.rf M, RC_ev h.2.1 (sv_ev s)⟩ (IV_ev hV (sv_ev s)) (wt a0)
  obtain ⟨s1, hs, M2, e2, S2⟩ := m201 (h.ms C1) hV (wt a0)
  have e : EV s s1 := by
    rcases hs with q | q
    · rw [q]; exact EV.rf _
    · exact (sv_ev s).tr q
  simp only [ii_of] at e1 e2
  exact ⟨_, M1, M2, s1, l, e1, C1.1, e2, LI_fin h C1.2.1 (RC_ev C1.2.2 ((sv_ev s).sy.tr e)) S2 (IX_ev hX e)⟩
theorem op_14 {M : ZMem} {s : ZSt} {l : Nat → Int64} (h : LI M s l) (a0 : Int32) : ∃ v M1 M2 s1 l1, f_104 M 20 a0 = some (v, M1) ∧ Ly M1 ∧ f_205 M1 133 a0 = some (v, M2) ∧ LI M2 s1 l1 := by
  have hX := h.2.2.2.2
  have hV := hX.1
  obtain ⟨M1, e1, C1⟩ := m104 (s := svS s) (l := l) ⟨h.1, Up.rf M, RC_ev h.2.1 (sv_ev s)⟩ (IV_ev hV (sv_ev s)) (wt a0)
  obtain ⟨s1, hs, M2, e2, S2⟩ := m205t (h.ms C1) hV (wt a0)
  have e : EV s s1 := by
    rcases hs with q | q
    · rw [q]; exact EV.rf _
    · rw [q]; exact sv_ev s
  simp only [ii_of] at e1 e2
  exact ⟨_, M1, M2, s1, l, e1, C1.1, e2, LI_fin h C1.2.1 (RC_ev C1.2.2 ((sv_ev s).sy.tr e)) S2 (IX_ev hX e)⟩
theorem op_15 {M : ZMem} {s : ZSt} {l : Nat → Int64} (h : LI M s l) : ∃ v M1 M2 s1 l1, f_106 M 20  = some (v, M1) ∧ Ly M1 ∧ f_206 M1 133  = some (v, M2) ∧ LI M2 s1 l1 := by
  have hX := h.2.2.2.2
  have hV := hX.1
  obtain ⟨M1, e1, C1⟩ := m106 (s := svS s) (l := l) ⟨h.1, Up.rf M, RC_ev h.2.1 (sv_ev s)⟩ (IV_ev hV (sv_ev s)) 
  obtain ⟨s1, hs, M2, e2, S2⟩ := m206 (h.ms C1) hV 
  have e : EV s s1 := by
    rcases hs with q | q
    · rw [q]; exact EV.rf _
    · rw [q]; exact sv_ev s
  exact ⟨_, M1, M2, s1, l, e1, C1.1, e2, LI_fin h C1.2.1 (RC_ev C1.2.2 ((sv_ev s).sy.tr e)) S2 (IX_ev hX e)⟩
theorem op_16 {M : ZMem} {s : ZSt} {l : Nat → Int64} (h : LI M s l) (a0 : Int32) (a1 : Int32) (a2 : Int32) : ∃ v M1 M2 s1 l1, f_107 M 20 a0 a1 (nzb a2) = some (v, M1) ∧ Ly M1 ∧ f_207 M1 133 a0 a1 (nzb a2) = some (v, M2) ∧ LI M2 s1 l1 := by
  have hX := h.2.2.2.2
  have hV := hX.1
  have ez : ∃ c : Int, (c = 0 ∨ c = 1) ∧ nzb a2 = ii c := by
    unfold nzb
    by_cases q : a2 = 0
    · exact ⟨0, .inl rfl, by rw [if_pos q]; rfl⟩
    · exact ⟨1, .inr rfl, by rw [if_neg q]; rfl⟩
  obtain ⟨c, hc, ec⟩ := ez
  rw [ec]
  obtain ⟨M1, e1, C1⟩ := m107 h.cs hV.1.1 (wt a0) (wt a1) hc
  obtain ⟨M2, e2, S2⟩ := m207 (h.ms C1) hV.1.1.1 (wt a0) (wt a1) hc
  simp only [ii_of] at e1 e2
  exact ⟨_, M1, M2, _, _, e1, C1.1, e2, LI_fin h C1.2.1 C1.2.2 S2 (IX_107 hX _ _ hc)⟩
theorem op_17 {M : ZMem} {s : ZSt} {l : Nat → Int64} (h : LI M s l) (a0 : Int32) (a1 : Int32) : ∃ v M1 M2 s1 l1, f_109 M 20 a0 a1 = some (v, M1) ∧ Ly M1 ∧ f_208 M1 133 a0 a1 = some (v, M2) ∧ LI M2 s1 l1 := by
  have hX := h.2.2.2.2
  have hV := hX.1
  obtain ⟨M1, e1, C1⟩ := m109 h.cs hV (wt a0) (wt a1)
  obtain ⟨M2, e2, S2⟩ := m208 (h.ms C1) hV (wt a0) (wt a1)
  simp only [ii_of] at e1 e2
  exact ⟨_, M1, M2, _, _, e1, C1.1, e2, LI_fin h C1.2.1 C1.2.2 S2 (hX)⟩
theorem op_18 {M : ZMem} {s : ZSt} {l : Nat → Int64} (h : LI M s l) (a0 : Int32) (a1 : Int32) : ∃ v M1 M2 s1 l1, f_112 M 20 a0 a1 = some (v, M1) ∧ Ly M1 ∧ f_210 M1 133 a0 a1 = some (v, M2) ∧ LI M2 s1 l1 := by
  have hX := h.2.2.2.2
  have hV := hX.1
  obtain ⟨M1, e1, C1⟩ := m112 h.cs hV (wt a0) (wt a1)
  obtain ⟨M2, e2, S2⟩ := m210 (h.ms C1) hV (wt a0) (wt a1)
  simp only [ii_of] at e1 e2
  exact ⟨_, M1, M2, _, _, e1, C1.1, e2, LI_fin h C1.2.1 C1.2.2 S2 (hX)⟩
theorem op_19 {M : ZMem} {s : ZSt} {l : Nat → Int64} (h : LI M s l) (a0 : Int32) (a1 : Int32) : ∃ v M1, f_113 M 20 a0 a1 = some (v, M1) ∧ Ly M1 ∧ f_211 M1 133 a0 a1 = some v ∧ LI M1 s l := by
  have hX := h.2.2.2.2
  have hV := hX.1
  obtain ⟨M1, e1, C1⟩ := m113 h.cs hV (wt a0) (wt a1)
  have e2 := m211 (h.ms C1) hV (wt a0) (wt a1)
  simp only [ii_of] at e1 e2
  exact ⟨_, M1, e1, C1.1, e2, LI_fin h C1.2.1 C1.2.2 (h.ms C1) hX⟩
theorem op_20 {M : ZMem} {s : ZSt} {l : Nat → Int64} (h : LI M s l) (a0 : Int32) : ∃ v, f_115 M 20 a0 = some v ∧ f_214 M 133 a0 = some v := by
  have hX := h.2.2.2.2
  have hV := hX.1
  have e1 := m115 h.1 h.2.1 hV (wt a0)
  have e2 := m214 (M := M) ⟨h.1, Dn.rf M, h.2.2.1⟩ hV (wt a0)
  simp only [ii_of] at e1 e2
  exact ⟨_, e1, e2⟩
theorem op_21 {M : ZMem} {s : ZSt} {l : Nat → Int64} (h : LI M s l) (a0 : Int32) (a1 : Int32) : ∃ v M1 M2 s1 l1, f_116 M 20 a0 a1 = some (v, M1) ∧ Ly M1 ∧ f_215 M1 133 a0 a1 = some (v, M2) ∧ LI M2 s1 l1 := by
  have hX := h.2.2.2.2
  have hV := hX.1
  obtain ⟨M1, e1, C1⟩ := m116 h.cs hV.1.1 (wt a0) (wt a1)
  obtain ⟨M2, e2, S2⟩ := m215 (h.ms C1) hV.1.1.1 (wt a0) (wt a1)
  simp only [ii_of] at e1 e2
  exact ⟨_, M1, M2, _, _, e1, C1.1, e2, LI_fin h C1.2.1 C1.2.2 S2 (IX_116 hX _ _)⟩
theorem op_22 {M : ZMem} {s : ZSt} {l : Nat → Int64} (h : LI M s l) (a0 : Int32) : ∃ v M1 M2 s1 l1, f_117 M 20 a0 = some (v, M1) ∧ Ly M1 ∧ f_216 M1 133 a0 = some (v, M2) ∧ LI M2 s1 l1 := by
  have hX := h.2.2.2.2
  have hV := hX.1
  obtain ⟨M1, e1, C1⟩ := m117 (s := svS s) (l := l) ⟨h.1, Up.rf M, RC_ev h.2.1 (sv_ev s)⟩ (IV_ev hV (sv_ev s)) (wt a0)
  obtain ⟨s1, hs, M2, e2, S2⟩ := m216 (h.ms C1) hV (wt a0)
  have e : EV s s1 := by
    rcases hs with q | q
    · rw [q]; exact EV.rf _
    · rw [q]; exact sv_ev s
  simp only [ii_of] at e1 e2
  exact ⟨_, M1, M2, s1, l, e1, C1.1, e2, LI_fin h C1.2.1 (RC_ev C1.2.2 ((sv_ev s).sy.tr e)) S2 (IX_ev hX e)⟩
theorem op_23 {M : ZMem} {s : ZSt} {l : Nat → Int64} (h : LI M s l) (a0 : Int32) (a1 : Int32) : ∃ v M1 M2 s1 l1, f_120 M 20 a0 a1 = some (v, M1) ∧ Ly M1 ∧ f_217 M1 133 a0 a1 = some (v, M2) ∧ LI M2 s1 l1 := by
  have hX := h.2.2.2.2
  have hV := hX.1
  obtain ⟨M1, e1, C1⟩ := m120 h.cs hV.1.1 (wt a0) (wt a1)
  obtain ⟨M2, e2, S2⟩ := m217 (h.ms C1) hV.1.1.1 (wt a0) (wt a1)
  simp only [ii_of] at e1 e2
  exact ⟨_, M1, M2, _, _, e1, C1.1, e2, LI_fin h C1.2.1 C1.2.2 S2 (IX_120 hX _ _)⟩
theorem op_24 {M : ZMem} {s : ZSt} {l : Nat → Int64} (h : LI M s l) : ∃ v, f_121 M 20  = some v ∧ f_218 M 133  = some v := by
  have hX := h.2.2.2.2
  have hV := hX.1
  have e := q24 h.1 h.2.1 h.2.2.1 hV.1.1.1 hV.1.2.2.1 hV.2.1.1
  exact e
theorem op_25 {M : ZMem} {s : ZSt} {l : Nat → Int64} (h : LI M s l) (a0 : Int32) (a1 : Int32) : ∃ v, f_122 M 20 a0 a1 = some v ∧ f_219 M 133 a0 a1 = some v := by
  have hX := h.2.2.2.2
  have hV := hX.1
  have e := q25 h.1 h.2.1 h.2.2.1 h.2.2.2.1 hV.1.1.1 hV.2.1.2.1 (wt a0) (wt a1)
  simp only [ii_of] at e
  exact e
theorem op_26 {M : ZMem} {s : ZSt} {l : Nat → Int64} (h : LI M s l) : ∃ v M1 M2 s1 l1, f_124 M 20  = some (v, M1) ∧ Ly M1 ∧ f_221 M1 133  = some (v, M2) ∧ LI M2 s1 l1 := by
  have hX := h.2.2.2.2
  have hV := hX.1
  obtain ⟨M1, e1, C1⟩ := m124 h.cs hV
  obtain ⟨M2, e2, S2⟩ := m221 (h.ms C1)
  exact ⟨_, M1, M2, _, _, e1, C1.1, e2, LI_fin h C1.2.1 C1.2.2 S2 (IX_im hX)⟩
theorem op_27 {M : ZMem} {s : ZSt} {l : Nat → Int64} (h : LI M s l) : ∃ v M1 M2 s1 l1, f_127 M 20  = some (v, M1) ∧ Ly M1 ∧ f_222 M1 133  = some (v, M2) ∧ LI M2 s1 l1 := by
  have hX := h.2.2.2.2
  have hV := hX.1
  obtain ⟨M1, e1, C1⟩ := m127 h.cs hV
  obtain ⟨M2, e2, S2⟩ := m222 (h.ms C1) hV.1.1.1.2.2.2.2.2.2.2.2.2.1
  exact ⟨_, M1, M2, _, _, e1, C1.1, e2, LI_fin h C1.2.1 C1.2.2 S2 (IX_127 hX)⟩
theorem op_28 {M : ZMem} {s : ZSt} {l : Nat → Int64} (h : LI M s l) (a0 : Int32) (a1 : Int32) (a2 : Int32) : ∃ v M1 M2 s1 l1, f_128 M 20 a0 a1 a2 = some (v, M1) ∧ Ly M1 ∧ f_223 M1 133 a0 a1 a2 = some (v, M2) ∧ LI M2 s1 l1 := by
  have hX := h.2.2.2.2
  have hV := hX.1
  obtain ⟨M1, e1, C1⟩ := m128 (x := a2) h.cs hV (wt a0) (wt a1)
  obtain ⟨M2, e2, S2⟩ := m223 (x := a2) (h.ms C1) hV (wt a0) (wt a1)
  simp only [ii_of] at e1 e2
  exact ⟨_, M1, M2, _, _, e1, C1.1, e2, LI_fin h C1.2.1 C1.2.2 S2 (IX_128 hX _ _ _)⟩
theorem op_29 {M : ZMem} {s : ZSt} {l : Nat → Int64} (h : LI M s l) (a0 : Int32) : ∃ v, f_134 M 20 a0 = some v ∧ f_232 M 133 a0 = some v := by
  have hX := h.2.2.2.2
  have hV := hX.1
  have e := q29 h.1 h.2.1 h.2.2.1 hV.1.1.1 (wt a0)
  simp only [ii_of] at e
  exact e
theorem op_30 {M : ZMem} {s : ZSt} {l : Nat → Int64} (h : LI M s l) (a0 : Int32) (a1 : Int32) : ∃ v, f_135 M 20 a0 a1 = some v ∧ f_233 M 133 a0 a1 = some v := by
  have hX := h.2.2.2.2
  have hV := hX.1
  have e := q30 h.1 h.2.1 h.2.2.1 hV.1.1.1 hV.1.2.2.1 (wt a0) (wt a1)
  simp only [ii_of] at e
  exact e
theorem op_31 {M : ZMem} {s : ZSt} {l : Nat → Int64} (h : LI M s l) (a0 : Int32) : ∃ v, f_136 M 20 a0 = some v ∧ f_234 M 133 a0 = some v := by
  have hX := h.2.2.2.2
  have hV := hX.1
  have e := q31 h.1 h.2.1 h.2.2.1 (a := a0)
  exact e
theorem op_32 {M : ZMem} {s : ZSt} {l : Nat → Int64} (h : LI M s l) (a0 : Int32) (a1 : Int32) (a2 : Int32) : ∃ v M1 M2 s1 l1, f_137 M 20 a0 a1 a2 = some (v, M1) ∧ Ly M1 ∧ f_235 M1 133 a0 a1 a2 = some (v, M2) ∧ LI M2 s1 l1 := by
  have hX := h.2.2.2.2
  have hV := hX.1
  obtain ⟨M1, e1, C1⟩ := m137 h.cs hV.1.1 (wt a0) (wt a1) (wt a2)
  obtain ⟨M2, e2, L2, D2, R2, T2⟩ := m235 C1.1 (C1.2.1.rm h.2.2.1) (h.ml C1) (wt a0) (wt a1) (wt a2)
  simp only [ii_of] at e1 e2
  exact ⟨_, M1, M2, _, _, e1, C1.1, e2, LI_fin2 C1.2.2 L2 D2 R2 T2 (IX_137 hX _ _ _ _)⟩
theorem op_33 {M : ZMem} {s : ZSt} {l : Nat → Int64} (h : LI M s l) (a0 : Int32) (a1 : Int32) (a2 : Int64) : ∃ v M1 M2 s1 l1, f_141 M 20 a0 a1 a2 = some (v, M1) ∧ Ly M1 ∧ f_236 M1 133 a0 a1 a2 = some (v, M2) ∧ LI M2 s1 l1 := by
  have hX := h.2.2.2.2
  have hV := hX.1
  obtain ⟨M1, e1, C1⟩ := m141 (z := a2) h.cs hV.1.1 hV.2.1.2.1 (wt a0) (wt a1)
  obtain ⟨M2, e2, L2, D2, R2, T2⟩ := m236 (z := a2) C1.1 (C1.2.1.rm h.2.2.1) (h.ml C1) hV.2.1.2.1 (wt a0) (wt a1)
  simp only [ii_of] at e1 e2
  exact ⟨_, M1, M2, _, _, e1, C1.1, e2, LI_fin2 C1.2.2 L2 D2 R2 T2 (hX)⟩
theorem op_34 {M : ZMem} {s : ZSt} {l : Nat → Int64} (h : LI M s l) (a0 : Int32) (a1 : Int32) : ∃ v, f_143 M 20 a0 a1 = some v ∧ f_238 M 133 a0 a1 = some v := by
  have hX := h.2.2.2.2
  have hV := hX.1
  have e := q34 h.1 h.2.1 h.2.2.1 h.2.2.2.1 hV.2.1.2.1 (wt a0) (wt a1)
  simp only [ii_of] at e
  exact e
theorem op_35 {M : ZMem} {s : ZSt} {l : Nat → Int64} (h : LI M s l) (a0 : Int32) (a1 : Int32) (a2 : Int32) (a3 : Int32) (a4 : Int32) : ∃ v M1 M2 s1 l1, f_144 M 20 a0 a1 a2 a3 a4 = some (v, M1) ∧ Ly M1 ∧ f_239 M1 133 a0 a1 a2 a3 a4 = some (v, M2) ∧ LI M2 s1 l1 := by
  have hX := h.2.2.2.2
  have hV := hX.1
  obtain ⟨M1, e1, C1⟩ := m144 h.cs hV.1.1 hV.2.1.2.1 (wt a0) (wt a1) (wt a2) (wt a3) (wt a4)
  obtain ⟨M2, e2, L2, D2, R2, T2⟩ := m239 C1.1 (C1.2.1.rm h.2.2.1) (h.ml C1) hV.2.1.2.1 (wt a0) (wt a1) (wt a2) (wt a3) (wt a4)
  simp only [ii_of] at e1 e2
  exact ⟨_, M1, M2, _, _, e1, C1.1, e2, LI_fin2 C1.2.2 L2 D2 R2 T2 (hX)⟩
