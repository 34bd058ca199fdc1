/-! THE LAW'S LOOP (printed by wip/whole/gen_loop.py) -/
def lawO : List Int := [159, 202, 235, 268, 311, 344, 387, 410, 433, 446, 469, 492, 525, 548, 571, 594, 607, 666, 699, 732, 766, 790, 823, 846, 879, 892, 925, 938, 951, 994, 1017, 1050, 1073, 1116, 1189, 1223]
theorem law_sel {x : Int32} {j : Nat} (h : x.toInt = (j : Int)) (hj : j < 36) : zsel x (zkeys 0 lawO) 1286 = lawO.getD j 1286 := by
  rw [zkeys_sel, h, if_pos ⟨by omega, by show (j : Int) < 0 + ((36 : Nat) : Int); omega⟩, Int.sub_zero, Int.toNat_natCast]
theorem law_def {x : Int32} (h : ¬ (0 ≤ x.toInt ∧ x.toInt < 36)) : zsel x (zkeys 0 lawO) 1286 = 1286 := by
  rw [zkeys_sel, if_neg (fun q => h ⟨q.1, by have := q.2; change _ < 0 + ((36 : Nat) : Int) at this; omega⟩)]
section ZLL
variable {N : Nat} {xs : Nat → Int32} {i p' : Nat} {n : Int} {M : ZMem} {o : Option Value × ZMem}
theorem ofN (N : Nat) : Int32.ofNat N = ii (N : Int) := by
  first
  | rfl
  | exact (Int32.ofInt_eq_ofNat).symm
  | simp [ii]
set_option maxRecDepth 20000 in
theorem law_pre (hN : N ≤ 3072) (hi : i + 6 ≤ N) (hn : zsel (xs i &&& 63) (zkeys 0 lawO) 1286 = n) (hp : zjmp 33 n = some p') (K : zgo (zsc N xs) 61 0 p' (lwL i) [] M o) : zgo (zsc N xs) 61 0 18 (lwL i) [] M o := by
  refine zo_iload_n (p' := 19) (zi_0 rfl) rfl rfl ?_
  refine zo_aload_n (p' := 20) (r := some 0) (zi_0 rfl) rfl rfl ?_
  refine zo_alen (p' := 21) (x := Int32.ofNat N) (zi_0 rfl) rfl rfl ?_
  refine zo_bipush (p' := 23) (v := 6) (zi_0 rfl) rfl rfl ?_
  refine zo_isub (p' := 24) (zi_0 rfl) rfl ?_
  refine zo_icF (p' := 27) (q := 1325) (zi_0 rfl) rfl rfl (show ¬ (Int32.ofNat N - 6 < ii (i : Int)) by rw [ofN, show (6 : Int32) = ii 6 from rfl, ii_sub, ii_lt (by omega) (by omega)]; omega) ?_
  refine zo_aload_n (p' := 28) (r := some 0) (zi_0 rfl) rfl rfl ?_
  refine zo_iload_n (p' := 29) (zi_0 rfl) rfl rfl ?_
  refine zo_scr (p' := 30) (zi_0 rfl) rfl hN (by omega) ?_
  refine zo_bipush (p' := 32) (v := 63) (zi_0 rfl) rfl rfl ?_
  refine zo_iand (p' := 33) (zi_0 rfl) rfl ?_
  exact zo_table (zi_0 rfl) (by decide) hn hp K
set_option maxRecDepth 20000 in
theorem law_end (hN : N ≤ 3072) (hi : N < i + 6) (hi2 : i ≤ N + 6) : zgo (zsc N xs) 61 0 18 (lwL i) [] M (some (.int 1), M) := by
  refine zo_iload_n (p' := 19) (zi_0 rfl) rfl rfl ?_
  refine zo_aload_n (p' := 20) (r := some 0) (zi_0 rfl) rfl rfl ?_
  refine zo_alen (p' := 21) (x := Int32.ofNat N) (zi_0 rfl) rfl rfl ?_
  refine zo_bipush (p' := 23) (v := 6) (zi_0 rfl) rfl rfl ?_
  refine zo_isub (p' := 24) (zi_0 rfl) rfl ?_
  refine zo_icT (p' := 1325) (zi_0 rfl) rfl (show Int32.ofNat N - 6 < ii (i : Int) by rw [ofN, show (6 : Int32) = ii 6 from rfl, ii_sub, ii_lt (by omega) (by omega)]; omega) ?_
  refine zo_iconst (p' := 1326) (v := 1) (zi_0 rfl) rfl rfl ?_
  exact zo_iret (zi_0 rfl) rfl ⟨rfl, rfl⟩
set_option maxRecDepth 20000 in
theorem law_nx (K : zgo (zsc N xs) 61 0 18 (lwL (i + 6)) [] M o) : zgo (zsc N xs) 61 0 1319 (lwL i) [] M o := by
  refine zo_iinc (p' := 1322) (v := ii ((i + 6 : Nat) : Int)) (L' := lwL (i + 6)) (zi_0 rfl) rfl (show (3 : Nat) < 4 by omega) rfl ((ii_add _ _).trans rfl) ⟨Or.inr ⟨by decide, rfl, fun q => absurd q (by decide)⟩, ⟨Or.inr ⟨by decide, rfl, fun q => absurd q (by decide)⟩, ⟨Or.inr ⟨by decide, rfl, fun _ => rfl⟩, ⟨Or.inl ⟨rfl, rfl⟩, trivial⟩⟩⟩⟩ ?_
  exact zo_goto (p' := 18) (zi_0 rfl) rfl K
theorem law_s0 {s : ZSt} {l : Nat → Int64} (hN : N ≤ 3072) (hi : i + 6 ≤ N) (h : LI M s l) (nxt : ∀ M2 s2 l2, LI M2 s2 l2 → ∃ M', Ly M' ∧ zgo (zsc N xs) 61 0 1319 (lwL i) [] M2 (some (.int 1), M')) (e : (xs i &&& 63).toInt = ((0 : Nat) : Int)) : ∃ M', Ly M' ∧ zgo (zsc N xs) 61 0 18 (lwL i) [] M (some (.int 1), M') := by
  obtain ⟨v, M1, M2, s1, l1, e1, hL1, e2, hI⟩ := op_0 h (xs (i + 1)) (xs (i + 2)) (xs (i + 3))
  obtain ⟨M', q1, q2⟩ := nxt M2 s1 l1 hI
  exact ⟨M', q1, law_pre (p' := 192) hN hi (law_sel e (by omega)) rfl (lw_0 hN hi h.1 hL1 e1 e2 q2)⟩
theorem law_s1 {s : ZSt} {l : Nat → Int64} (hN : N ≤ 3072) (hi : i + 6 ≤ N) (h : LI M s l) (nxt : ∀ M2 s2 l2, LI M2 s2 l2 → ∃ M', Ly M' ∧ zgo (zsc N xs) 61 0 1319 (lwL i) [] M2 (some (.int 1), M')) (e : (xs i &&& 63).toInt = ((1 : Nat) : Int)) : ∃ M', Ly M' ∧ zgo (zsc N xs) 61 0 18 (lwL i) [] M (some (.int 1), M') := by
  obtain ⟨v, M1, M2, s1, l1, e1, hL1, e2, hI⟩ := op_1 h (xs (i + 1)) (xs (i + 2))
  obtain ⟨M', q1, q2⟩ := nxt M2 s1 l1 hI
  exact ⟨M', q1, law_pre (p' := 235) hN hi (law_sel e (by omega)) rfl (lw_1 hN hi h.1 hL1 e1 e2 q2)⟩
theorem law_s2 {s : ZSt} {l : Nat → Int64} (hN : N ≤ 3072) (hi : i + 6 ≤ N) (h : LI M s l) (nxt : ∀ M2 s2 l2, LI M2 s2 l2 → ∃ M', Ly M' ∧ zgo (zsc N xs) 61 0 1319 (lwL i) [] M2 (some (.int 1), M')) (e : (xs i &&& 63).toInt = ((2 : Nat) : Int)) : ∃ M', Ly M' ∧ zgo (zsc N xs) 61 0 18 (lwL i) [] M (some (.int 1), M') := by
  obtain ⟨v, M1, M2, s1, l1, e1, hL1, e2, hI⟩ := op_2 h (xs (i + 1)) (xs (i + 2))
  obtain ⟨M', q1, q2⟩ := nxt M2 s1 l1 hI
  exact ⟨M', q1, law_pre (p' := 268) hN hi (law_sel e (by omega)) rfl (lw_2 hN hi h.1 hL1 e1 e2 q2)⟩
theorem law_s3 {s : ZSt} {l : Nat → Int64} (hN : N ≤ 3072) (hi : i + 6 ≤ N) (h : LI M s l) (nxt : ∀ M2 s2 l2, LI M2 s2 l2 → ∃ M', Ly M' ∧ zgo (zsc N xs) 61 0 1319 (lwL i) [] M2 (some (.int 1), M')) (e : (xs i &&& 63).toInt = ((3 : Nat) : Int)) : ∃ M', Ly M' ∧ zgo (zsc N xs) 61 0 18 (lwL i) [] M (some (.int 1), M') := by
  obtain ⟨v, M1, M2, s1, l1, e1, hL1, e2, hI⟩ := op_3 h (xs (i + 1)) (xs (i + 2)) (xs (i + 3))
  obtain ⟨M', q1, q2⟩ := nxt M2 s1 l1 hI
  exact ⟨M', q1, law_pre (p' := 301) hN hi (law_sel e (by omega)) rfl (lw_3 hN hi h.1 hL1 e1 e2 q2)⟩
theorem law_s4 {s : ZSt} {l : Nat → Int64} (hN : N ≤ 3072) (hi : i + 6 ≤ N) (h : LI M s l) (nxt : ∀ M2 s2 l2, LI M2 s2 l2 → ∃ M', Ly M' ∧ zgo (zsc N xs) 61 0 1319 (lwL i) [] M2 (some (.int 1), M')) (e : (xs i &&& 63).toInt = ((4 : Nat) : Int)) : ∃ M', Ly M' ∧ zgo (zsc N xs) 61 0 18 (lwL i) [] M (some (.int 1), M') := by
  obtain ⟨v, M1, M2, s1, l1, e1, hL1, e2, hI⟩ := op_4 h (xs (i + 1)) (xs (i + 2))
  obtain ⟨M', q1, q2⟩ := nxt M2 s1 l1 hI
  exact ⟨M', q1, law_pre (p' := 344) hN hi (law_sel e (by omega)) rfl (lw_4 hN hi h.1 hL1 e1 e2 q2)⟩
theorem law_s5 {s : ZSt} {l : Nat → Int64} (hN : N ≤ 3072) (hi : i + 6 ≤ N) (h : LI M s l) (nxt : ∀ M2 s2 l2, LI M2 s2 l2 → ∃ M', Ly M' ∧ zgo (zsc N xs) 61 0 1319 (lwL i) [] M2 (some (.int 1), M')) (e : (xs i &&& 63).toInt = ((5 : Nat) : Int)) : ∃ M', Ly M' ∧ zgo (zsc N xs) 61 0 18 (lwL i) [] M (some (.int 1), M') := by
  obtain ⟨v, M1, e1, hL1, e2, hI⟩ := op_5 h (xs (i + 1)) (xs (i + 2)) (xs (i + 3))
  obtain ⟨M', q1, q2⟩ := nxt M1 s l hI
  exact ⟨M', q1, law_pre (p' := 377) hN hi (law_sel e (by omega)) rfl (lw_5 hN hi h.1 hL1 e1 e2 q2)⟩
theorem law_s6 {s : ZSt} {l : Nat → Int64} (hN : N ≤ 3072) (hi : i + 6 ≤ N) (h : LI M s l) (nxt : ∀ M2 s2 l2, LI M2 s2 l2 → ∃ M', Ly M' ∧ zgo (zsc N xs) 61 0 1319 (lwL i) [] M2 (some (.int 1), M')) (e : (xs i &&& 63).toInt = ((6 : Nat) : Int)) : ∃ M', Ly M' ∧ zgo (zsc N xs) 61 0 18 (lwL i) [] M (some (.int 1), M') := by
  obtain ⟨v, M1, M2, s1, l1, e1, hL1, e2, hI⟩ := op_6 h (xs (i + 1))
  obtain ⟨M', q1, q2⟩ := nxt M2 s1 l1 hI
  exact ⟨M', q1, law_pre (p' := 420) hN hi (law_sel e (by omega)) rfl (lw_6 hN hi h.1 hL1 e1 e2 q2)⟩
theorem law_s7 {s : ZSt} {l : Nat → Int64} (hN : N ≤ 3072) (hi : i + 6 ≤ N) (h : LI M s l) (nxt : ∀ M2 s2 l2, LI M2 s2 l2 → ∃ M', Ly M' ∧ zgo (zsc N xs) 61 0 1319 (lwL i) [] M2 (some (.int 1), M')) (e : (xs i &&& 63).toInt = ((7 : Nat) : Int)) : ∃ M', Ly M' ∧ zgo (zsc N xs) 61 0 18 (lwL i) [] M (some (.int 1), M') := by
  obtain ⟨v, M1, M2, s1, l1, e1, hL1, e2, hI⟩ := op_7 h (xs (i + 1))
  obtain ⟨M', q1, q2⟩ := nxt M2 s1 l1 hI
  exact ⟨M', q1, law_pre (p' := 443) hN hi (law_sel e (by omega)) rfl (lw_7 hN hi h.1 hL1 e1 e2 q2)⟩
theorem law_s8 {s : ZSt} {l : Nat → Int64} (hN : N ≤ 3072) (hi : i + 6 ≤ N) (h : LI M s l) (nxt : ∀ M2 s2 l2, LI M2 s2 l2 → ∃ M', Ly M' ∧ zgo (zsc N xs) 61 0 1319 (lwL i) [] M2 (some (.int 1), M')) (e : (xs i &&& 63).toInt = ((8 : Nat) : Int)) : ∃ M', Ly M' ∧ zgo (zsc N xs) 61 0 18 (lwL i) [] M (some (.int 1), M') := by
  obtain ⟨v, M1, M2, s1, l1, e1, hL1, e2, hI⟩ := op_8 h 
  obtain ⟨M', q1, q2⟩ := nxt M2 s1 l1 hI
  exact ⟨M', q1, law_pre (p' := 466) hN hi (law_sel e (by omega)) rfl (lw_8 hN hi h.1 hL1 e1 e2 q2)⟩
theorem law_s9 {s : ZSt} {l : Nat → Int64} (hN : N ≤ 3072) (hi : i + 6 ≤ N) (h : LI M s l) (nxt : ∀ M2 s2 l2, LI M2 s2 l2 → ∃ M', Ly M' ∧ zgo (zsc N xs) 61 0 1319 (lwL i) [] M2 (some (.int 1), M')) (e : (xs i &&& 63).toInt = ((9 : Nat) : Int)) : ∃ M', Ly M' ∧ zgo (zsc N xs) 61 0 18 (lwL i) [] M (some (.int 1), M') := by
  obtain ⟨v, M1, M2, s1, l1, e1, hL1, e2, hI⟩ := op_9 h (xs (i + 1))
  obtain ⟨M', q1, q2⟩ := nxt M2 s1 l1 hI
  exact ⟨M', q1, law_pre (p' := 479) hN hi (law_sel e (by omega)) rfl (lw_9 hN hi h.1 hL1 e1 e2 q2)⟩
theorem law_s10 {s : ZSt} {l : Nat → Int64} (hN : N ≤ 3072) (hi : i + 6 ≤ N) (h : LI M s l) (nxt : ∀ M2 s2 l2, LI M2 s2 l2 → ∃ M', Ly M' ∧ zgo (zsc N xs) 61 0 1319 (lwL i) [] M2 (some (.int 1), M')) (e : (xs i &&& 63).toInt = ((10 : Nat) : Int)) : ∃ M', Ly M' ∧ zgo (zsc N xs) 61 0 18 (lwL i) [] M (some (.int 1), M') := by
  obtain ⟨v, M1, M2, s1, l1, e1, hL1, e2, hI⟩ := op_10 h (xs (i + 1))
  obtain ⟨M', q1, q2⟩ := nxt M2 s1 l1 hI
  exact ⟨M', q1, law_pre (p' := 502) hN hi (law_sel e (by omega)) rfl (lw_10 hN hi h.1 hL1 e1 e2 q2)⟩
theorem law_s11 {s : ZSt} {l : Nat → Int64} (hN : N ≤ 3072) (hi : i + 6 ≤ N) (h : LI M s l) (nxt : ∀ M2 s2 l2, LI M2 s2 l2 → ∃ M', Ly M' ∧ zgo (zsc N xs) 61 0 1319 (lwL i) [] M2 (some (.int 1), M')) (e : (xs i &&& 63).toInt = ((11 : Nat) : Int)) : ∃ M', Ly M' ∧ zgo (zsc N xs) 61 0 18 (lwL i) [] M (some (.int 1), M') := by
  obtain ⟨v, M1, M2, s1, l1, e1, hL1, e2, hI⟩ := op_11 h (xs (i + 1)) (xs (i + 2))
  obtain ⟨M', q1, q2⟩ := nxt M2 s1 l1 hI
  exact ⟨M', q1, law_pre (p' := 525) hN hi (law_sel e (by omega)) rfl (lw_11 hN hi h.1 hL1 e1 e2 q2)⟩
theorem law_s12 {s : ZSt} {l : Nat → Int64} (hN : N ≤ 3072) (hi : i + 6 ≤ N) (h : LI M s l) (nxt : ∀ M2 s2 l2, LI M2 s2 l2 → ∃ M', Ly M' ∧ zgo (zsc N xs) 61 0 1319 (lwL i) [] M2 (some (.int 1), M')) (e : (xs i &&& 63).toInt = ((12 : Nat) : Int)) : ∃ M', Ly M' ∧ zgo (zsc N xs) 61 0 18 (lwL i) [] M (some (.int 1), M') := by
  obtain ⟨v, M1, M2, s1, l1, e1, hL1, e2, hI⟩ := op_12 h (xs (i + 1))
  obtain ⟨M', q1, q2⟩ := nxt M2 s1 l1 hI
  exact ⟨M', q1, law_pre (p' := 558) hN hi (law_sel e (by omega)) rfl (lw_12 hN hi h.1 hL1 e1 e2 q2)⟩
theorem law_s13 {s : ZSt} {l : Nat → Int64} (hN : N ≤ 3072) (hi : i + 6 ≤ N) (h : LI M s l) (nxt : ∀ M2 s2 l2, LI M2 s2 l2 → ∃ M', Ly M' ∧ zgo (zsc N xs) 61 0 1319 (lwL i) [] M2 (some (.int 1), M')) (e : (xs i &&& 63).toInt = ((13 : Nat) : Int)) : ∃ M', Ly M' ∧ zgo (zsc N xs) 61 0 18 (lwL i) [] M (some (.int 1), M') := by
  obtain ⟨v, M1, M2, s1, l1, e1, hL1, e2, hI⟩ := op_13 h (xs (i + 1))
  obtain ⟨M', q1, q2⟩ := nxt M2 s1 l1 hI
  exact ⟨M', q1, law_pre (p' := 581) hN hi (law_sel e (by omega)) rfl (lw_13 hN hi h.1 hL1 e1 e2 q2)⟩
theorem law_s14 {s : ZSt} {l : Nat → Int64} (hN : N ≤ 3072) (hi : i + 6 ≤ N) (h : LI M s l) (nxt : ∀ M2 s2 l2, LI M2 s2 l2 → ∃ M', Ly M' ∧ zgo (zsc N xs) 61 0 1319 (lwL i) [] M2 (some (.int 1), M')) (e : (xs i &&& 63).toInt = ((14 : Nat) : Int)) : ∃ M', Ly M' ∧ zgo (zsc N xs) 61 0 18 (lwL i) [] M (some (.int 1), M') := by
  obtain ⟨v, M1, M2, s1, l1, e1, hL1, e2, hI⟩ := op_14 h (xs (i + 1))
  obtain ⟨M', q1, q2⟩ := nxt M2 s1 l1 hI
  exact ⟨M', q1, law_pre (p' := 604) hN hi (law_sel e (by omega)) rfl (lw_14 hN hi h.1 hL1 e1 e2 q2)⟩
theorem law_s15 {s : ZSt} {l : Nat → Int64} (hN : N ≤ 3072) (hi : i + 6 ≤ N) (h : LI M s l) (nxt : ∀ M2 s2 l2, LI M2 s2 l2 → ∃ M', Ly M' ∧ zgo (zsc N xs) 61 0 1319 (lwL i) [] M2 (some (.int 1), M')) (e : (xs i &&& 63).toInt = ((15 : Nat) : Int)) : ∃ M', Ly M' ∧ zgo (zsc N xs) 61 0 18 (lwL i) [] M (some (.int 1), M') := by
  obtain ⟨v, M1, M2, s1, l1, e1, hL1, e2, hI⟩ := op_15 h 
  obtain ⟨M', q1, q2⟩ := nxt M2 s1 l1 hI
  exact ⟨M', q1, law_pre (p' := 627) hN hi (law_sel e (by omega)) rfl (lw_15 hN hi h.1 hL1 e1 e2 q2)⟩
theorem law_s16 {s : ZSt} {l : Nat → Int64} (hN : N ≤ 3072) (hi : i + 6 ≤ N) (h : LI M s l) (nxt : ∀ M2 s2 l2, LI M2 s2 l2 → ∃ M', Ly M' ∧ zgo (zsc N xs) 61 0 1319 (lwL i) [] M2 (some (.int 1), M')) (e : (xs i &&& 63).toInt = ((16 : Nat) : Int)) : ∃ M', Ly M' ∧ zgo (zsc N xs) 61 0 18 (lwL i) [] M (some (.int 1), M') := by
  obtain ⟨v, M1, M2, s1, l1, e1, hL1, e2, hI⟩ := op_16 h (xs (i + 1)) (xs (i + 2)) (xs (i + 3))
  obtain ⟨M', q1, q2⟩ := nxt M2 s1 l1 hI
  exact ⟨M', q1, law_pre (p' := 640) hN hi (law_sel e (by omega)) rfl (lw_16 hN hi h.1 hL1 e1 e2 q2)⟩
theorem law_s17 {s : ZSt} {l : Nat → Int64} (hN : N ≤ 3072) (hi : i + 6 ≤ N) (h : LI M s l) (nxt : ∀ M2 s2 l2, LI M2 s2 l2 → ∃ M', Ly M' ∧ zgo (zsc N xs) 61 0 1319 (lwL i) [] M2 (some (.int 1), M')) (e : (xs i &&& 63).toInt = ((17 : Nat) : Int)) : ∃ M', Ly M' ∧ zgo (zsc N xs) 61 0 18 (lwL i) [] M (some (.int 1), M') := by
  obtain ⟨v, M1, M2, s1, l1, e1, hL1, e2, hI⟩ := op_17 h (xs (i + 1)) (xs (i + 2))
  obtain ⟨M', q1, q2⟩ := nxt M2 s1 l1 hI
  exact ⟨M', q1, law_pre (p' := 699) hN hi (law_sel e (by omega)) rfl (lw_17 hN hi h.1 hL1 e1 e2 q2)⟩
theorem law_s18 {s : ZSt} {l : Nat → Int64} (hN : N ≤ 3072) (hi : i + 6 ≤ N) (h : LI M s l) (nxt : ∀ M2 s2 l2, LI M2 s2 l2 → ∃ M', Ly M' ∧ zgo (zsc N xs) 61 0 1319 (lwL i) [] M2 (some (.int 1), M')) (e : (xs i &&& 63).toInt = ((18 : Nat) : Int)) : ∃ M', Ly M' ∧ zgo (zsc N xs) 61 0 18 (lwL i) [] M (some (.int 1), M') := by
  obtain ⟨v, M1, M2, s1, l1, e1, hL1, e2, hI⟩ := op_18 h (xs (i + 1)) (xs (i + 2))
  obtain ⟨M', q1, q2⟩ := nxt M2 s1 l1 hI
  exact ⟨M', q1, law_pre (p' := 732) hN hi (law_sel e (by omega)) rfl (lw_18 hN hi h.1 hL1 e1 e2 q2)⟩
theorem law_s19 {s : ZSt} {l : Nat → Int64} (hN : N ≤ 3072) (hi : i + 6 ≤ N) (h : LI M s l) (nxt : ∀ M2 s2 l2, LI M2 s2 l2 → ∃ M', Ly M' ∧ zgo (zsc N xs) 61 0 1319 (lwL i) [] M2 (some (.int 1), M')) (e : (xs i &&& 63).toInt = ((19 : Nat) : Int)) : ∃ M', Ly M' ∧ zgo (zsc N xs) 61 0 18 (lwL i) [] M (some (.int 1), M') := by
  obtain ⟨v, M1, e1, hL1, e2, hI⟩ := op_19 h (xs (i + 1)) (xs (i + 2))
  obtain ⟨M', q1, q2⟩ := nxt M1 s l hI
  exact ⟨M', q1, law_pre (p' := 765) hN hi (law_sel e (by omega)) rfl (lw_19 hN hi h.1 hL1 e1 e2 q2)⟩
theorem law_s20 {s : ZSt} {l : Nat → Int64} (hN : N ≤ 3072) (hi : i + 6 ≤ N) (h : LI M s l) (nxt : ∀ M2 s2 l2, LI M2 s2 l2 → ∃ M', Ly M' ∧ zgo (zsc N xs) 61 0 1319 (lwL i) [] M2 (some (.int 1), M')) (e : (xs i &&& 63).toInt = ((20 : Nat) : Int)) : ∃ M', Ly M' ∧ zgo (zsc N xs) 61 0 18 (lwL i) [] M (some (.int 1), M') := by
  obtain ⟨v, e1, e2⟩ := op_20 h (xs (i + 1))
  obtain ⟨M', q1, q2⟩ := nxt M s l h
  exact ⟨M', q1, law_pre (p' := 799) hN hi (law_sel e (by omega)) rfl (lw_20 hN hi h.1 h.1 e1 e2 q2)⟩
theorem law_s21 {s : ZSt} {l : Nat → Int64} (hN : N ≤ 3072) (hi : i + 6 ≤ N) (h : LI M s l) (nxt : ∀ M2 s2 l2, LI M2 s2 l2 → ∃ M', Ly M' ∧ zgo (zsc N xs) 61 0 1319 (lwL i) [] M2 (some (.int 1), M')) (e : (xs i &&& 63).toInt = ((21 : Nat) : Int)) : ∃ M', Ly M' ∧ zgo (zsc N xs) 61 0 18 (lwL i) [] M (some (.int 1), M') := by
  obtain ⟨v, M1, M2, s1, l1, e1, hL1, e2, hI⟩ := op_21 h (xs (i + 1)) (xs (i + 2))
  obtain ⟨M', q1, q2⟩ := nxt M2 s1 l1 hI
  exact ⟨M', q1, law_pre (p' := 823) hN hi (law_sel e (by omega)) rfl (lw_21 hN hi h.1 hL1 e1 e2 q2)⟩
theorem law_s22 {s : ZSt} {l : Nat → Int64} (hN : N ≤ 3072) (hi : i + 6 ≤ N) (h : LI M s l) (nxt : ∀ M2 s2 l2, LI M2 s2 l2 → ∃ M', Ly M' ∧ zgo (zsc N xs) 61 0 1319 (lwL i) [] M2 (some (.int 1), M')) (e : (xs i &&& 63).toInt = ((22 : Nat) : Int)) : ∃ M', Ly M' ∧ zgo (zsc N xs) 61 0 18 (lwL i) [] M (some (.int 1), M') := by
  obtain ⟨v, M1, M2, s1, l1, e1, hL1, e2, hI⟩ := op_22 h (xs (i + 1))
  obtain ⟨M', q1, q2⟩ := nxt M2 s1 l1 hI
  exact ⟨M', q1, law_pre (p' := 856) hN hi (law_sel e (by omega)) rfl (lw_22 hN hi h.1 hL1 e1 e2 q2)⟩
theorem law_s23 {s : ZSt} {l : Nat → Int64} (hN : N ≤ 3072) (hi : i + 6 ≤ N) (h : LI M s l) (nxt : ∀ M2 s2 l2, LI M2 s2 l2 → ∃ M', Ly M' ∧ zgo (zsc N xs) 61 0 1319 (lwL i) [] M2 (some (.int 1), M')) (e : (xs i &&& 63).toInt = ((23 : Nat) : Int)) : ∃ M', Ly M' ∧ zgo (zsc N xs) 61 0 18 (lwL i) [] M (some (.int 1), M') := by
  obtain ⟨v, M1, M2, s1, l1, e1, hL1, e2, hI⟩ := op_23 h (xs (i + 1)) (xs (i + 2))
  obtain ⟨M', q1, q2⟩ := nxt M2 s1 l1 hI
  exact ⟨M', q1, law_pre (p' := 879) hN hi (law_sel e (by omega)) rfl (lw_23 hN hi h.1 hL1 e1 e2 q2)⟩
theorem law_s24 {s : ZSt} {l : Nat → Int64} (hN : N ≤ 3072) (hi : i + 6 ≤ N) (h : LI M s l) (nxt : ∀ M2 s2 l2, LI M2 s2 l2 → ∃ M', Ly M' ∧ zgo (zsc N xs) 61 0 1319 (lwL i) [] M2 (some (.int 1), M')) (e : (xs i &&& 63).toInt = ((24 : Nat) : Int)) : ∃ M', Ly M' ∧ zgo (zsc N xs) 61 0 18 (lwL i) [] M (some (.int 1), M') := by
  obtain ⟨v, e1, e2⟩ := op_24 h 
  obtain ⟨M', q1, q2⟩ := nxt M s l h
  exact ⟨M', q1, law_pre (p' := 912) hN hi (law_sel e (by omega)) rfl (lw_24 hN hi h.1 h.1 e1 e2 q2)⟩
theorem law_s25 {s : ZSt} {l : Nat → Int64} (hN : N ≤ 3072) (hi : i + 6 ≤ N) (h : LI M s l) (nxt : ∀ M2 s2 l2, LI M2 s2 l2 → ∃ M', Ly M' ∧ zgo (zsc N xs) 61 0 1319 (lwL i) [] M2 (some (.int 1), M')) (e : (xs i &&& 63).toInt = ((25 : Nat) : Int)) : ∃ M', Ly M' ∧ zgo (zsc N xs) 61 0 18 (lwL i) [] M (some (.int 1), M') := by
  obtain ⟨v, e1, e2⟩ := op_25 h (xs (i + 1)) (xs (i + 2))
  obtain ⟨M', q1, q2⟩ := nxt M s l h
  exact ⟨M', q1, law_pre (p' := 925) hN hi (law_sel e (by omega)) rfl (lw_25 hN hi h.1 h.1 e1 e2 q2)⟩
theorem law_s26 {s : ZSt} {l : Nat → Int64} (hN : N ≤ 3072) (hi : i + 6 ≤ N) (h : LI M s l) (nxt : ∀ M2 s2 l2, LI M2 s2 l2 → ∃ M', Ly M' ∧ zgo (zsc N xs) 61 0 1319 (lwL i) [] M2 (some (.int 1), M')) (e : (xs i &&& 63).toInt = ((26 : Nat) : Int)) : ∃ M', Ly M' ∧ zgo (zsc N xs) 61 0 18 (lwL i) [] M (some (.int 1), M') := by
  obtain ⟨v, M1, M2, s1, l1, e1, hL1, e2, hI⟩ := op_26 h 
  obtain ⟨M', q1, q2⟩ := nxt M2 s1 l1 hI
  exact ⟨M', q1, law_pre (p' := 958) hN hi (law_sel e (by omega)) rfl (lw_26 hN hi h.1 hL1 e1 e2 q2)⟩
theorem law_s27 {s : ZSt} {l : Nat → Int64} (hN : N ≤ 3072) (hi : i + 6 ≤ N) (h : LI M s l) (nxt : ∀ M2 s2 l2, LI M2 s2 l2 → ∃ M', Ly M' ∧ zgo (zsc N xs) 61 0 1319 (lwL i) [] M2 (some (.int 1), M')) (e : (xs i &&& 63).toInt = ((27 : Nat) : Int)) : ∃ M', Ly M' ∧ zgo (zsc N xs) 61 0 18 (lwL i) [] M (some (.int 1), M') := by
  obtain ⟨v, M1, M2, s1, l1, e1, hL1, e2, hI⟩ := op_27 h 
  obtain ⟨M', q1, q2⟩ := nxt M2 s1 l1 hI
  exact ⟨M', q1, law_pre (p' := 971) hN hi (law_sel e (by omega)) rfl (lw_27 hN hi h.1 hL1 e1 e2 q2)⟩
theorem law_s28 {s : ZSt} {l : Nat → Int64} (hN : N ≤ 3072) (hi : i + 6 ≤ N) (h : LI M s l) (nxt : ∀ M2 s2 l2, LI M2 s2 l2 → ∃ M', Ly M' ∧ zgo (zsc N xs) 61 0 1319 (lwL i) [] M2 (some (.int 1), M')) (e : (xs i &&& 63).toInt = ((28 : Nat) : Int)) : ∃ M', Ly M' ∧ zgo (zsc N xs) 61 0 18 (lwL i) [] M (some (.int 1), M') := by
  obtain ⟨v, M1, M2, s1, l1, e1, hL1, e2, hI⟩ := op_28 h (xs (i + 1)) (xs (i + 2)) (xs (i + 3))
  obtain ⟨M', q1, q2⟩ := nxt M2 s1 l1 hI
  exact ⟨M', q1, law_pre (p' := 984) hN hi (law_sel e (by omega)) rfl (lw_28 hN hi h.1 hL1 e1 e2 q2)⟩
theorem law_s29 {s : ZSt} {l : Nat → Int64} (hN : N ≤ 3072) (hi : i + 6 ≤ N) (h : LI M s l) (nxt : ∀ M2 s2 l2, LI M2 s2 l2 → ∃ M', Ly M' ∧ zgo (zsc N xs) 61 0 1319 (lwL i) [] M2 (some (.int 1), M')) (e : (xs i &&& 63).toInt = ((29 : Nat) : Int)) : ∃ M', Ly M' ∧ zgo (zsc N xs) 61 0 18 (lwL i) [] M (some (.int 1), M') := by
  obtain ⟨v, e1, e2⟩ := op_29 h (xs (i + 1))
  obtain ⟨M', q1, q2⟩ := nxt M s l h
  exact ⟨M', q1, law_pre (p' := 1027) hN hi (law_sel e (by omega)) rfl (lw_29 hN hi h.1 h.1 e1 e2 q2)⟩
theorem law_s30 {s : ZSt} {l : Nat → Int64} (hN : N ≤ 3072) (hi : i + 6 ≤ N) (h : LI M s l) (nxt : ∀ M2 s2 l2, LI M2 s2 l2 → ∃ M', Ly M' ∧ zgo (zsc N xs) 61 0 1319 (lwL i) [] M2 (some (.int 1), M')) (e : (xs i &&& 63).toInt = ((30 : Nat) : Int)) : ∃ M', Ly M' ∧ zgo (zsc N xs) 61 0 18 (lwL i) [] M (some (.int 1), M') := by
  obtain ⟨v, e1, e2⟩ := op_30 h (xs (i + 1)) (xs (i + 2))
  obtain ⟨M', q1, q2⟩ := nxt M s l h
  exact ⟨M', q1, law_pre (p' := 1050) hN hi (law_sel e (by omega)) rfl (lw_30 hN hi h.1 h.1 e1 e2 q2)⟩
theorem law_s31 {s : ZSt} {l : Nat → Int64} (hN : N ≤ 3072) (hi : i + 6 ≤ N) (h : LI M s l) (nxt : ∀ M2 s2 l2, LI M2 s2 l2 → ∃ M', Ly M' ∧ zgo (zsc N xs) 61 0 1319 (lwL i) [] M2 (some (.int 1), M')) (e : (xs i &&& 63).toInt = ((31 : Nat) : Int)) : ∃ M', Ly M' ∧ zgo (zsc N xs) 61 0 18 (lwL i) [] M (some (.int 1), M') := by
  obtain ⟨v, e1, e2⟩ := op_31 h (xs (i + 1))
  obtain ⟨M', q1, q2⟩ := nxt M s l h
  exact ⟨M', q1, law_pre (p' := 1083) hN hi (law_sel e (by omega)) rfl (lw_31 hN hi h.1 h.1 e1 e2 q2)⟩
theorem law_s32 {s : ZSt} {l : Nat → Int64} (hN : N ≤ 3072) (hi : i + 6 ≤ N) (h : LI M s l) (nxt : ∀ M2 s2 l2, LI M2 s2 l2 → ∃ M', Ly M' ∧ zgo (zsc N xs) 61 0 1319 (lwL i) [] M2 (some (.int 1), M')) (e : (xs i &&& 63).toInt = ((32 : Nat) : Int)) : ∃ M', Ly M' ∧ zgo (zsc N xs) 61 0 18 (lwL i) [] M (some (.int 1), M') := by
  obtain ⟨v, M1, M2, s1, l1, e1, hL1, e2, hI⟩ := op_32 h (xs (i + 1)) (xs (i + 2)) (xs (i + 3))
  obtain ⟨M', q1, q2⟩ := nxt M2 s1 l1 hI
  exact ⟨M', q1, law_pre (p' := 1106) hN hi (law_sel e (by omega)) rfl (lw_32 hN hi h.1 hL1 e1 e2 q2)⟩
theorem law_s33 {s : ZSt} {l : Nat → Int64} (hN : N ≤ 3072) (hi : i + 6 ≤ N) (h : LI M s l) (nxt : ∀ M2 s2 l2, LI M2 s2 l2 → ∃ M', Ly M' ∧ zgo (zsc N xs) 61 0 1319 (lwL i) [] M2 (some (.int 1), M')) (e : (xs i &&& 63).toInt = ((33 : Nat) : Int)) : ∃ M', Ly M' ∧ zgo (zsc N xs) 61 0 18 (lwL i) [] M (some (.int 1), M') := by
  obtain ⟨v, M1, M2, s1, l1, e1, hL1, e2, hI⟩ := op_33 h (xs (i + 1)) (xs (i + 2)) (lz (xs (i + 3)) (xs (i + 4)))
  obtain ⟨M', q1, q2⟩ := nxt M2 s1 l1 hI
  exact ⟨M', q1, law_pre (p' := 1149) hN hi (law_sel e (by omega)) rfl (lw_33 hN hi h.1 hL1 e1 e2 q2)⟩
theorem law_s34 {s : ZSt} {l : Nat → Int64} (hN : N ≤ 3072) (hi : i + 6 ≤ N) (h : LI M s l) (nxt : ∀ M2 s2 l2, LI M2 s2 l2 → ∃ M', Ly M' ∧ zgo (zsc N xs) 61 0 1319 (lwL i) [] M2 (some (.int 1), M')) (e : (xs i &&& 63).toInt = ((34 : Nat) : Int)) : ∃ M', Ly M' ∧ zgo (zsc N xs) 61 0 18 (lwL i) [] M (some (.int 1), M') := by
  obtain ⟨v, e1, e2⟩ := op_34 h (xs (i + 1)) (xs (i + 2))
  obtain ⟨M', q1, q2⟩ := nxt M s l h
  exact ⟨M', q1, law_pre (p' := 1222) hN hi (law_sel e (by omega)) rfl (lw_34 hN hi h.1 h.1 e1 e2 q2)⟩
theorem law_s35 {s : ZSt} {l : Nat → Int64} (hN : N ≤ 3072) (hi : i + 6 ≤ N) (h : LI M s l) (nxt : ∀ M2 s2 l2, LI M2 s2 l2 → ∃ M', Ly M' ∧ zgo (zsc N xs) 61 0 1319 (lwL i) [] M2 (some (.int 1), M')) (e : (xs i &&& 63).toInt = ((35 : Nat) : Int)) : ∃ M', Ly M' ∧ zgo (zsc N xs) 61 0 18 (lwL i) [] M (some (.int 1), M') := by
  obtain ⟨v, M1, M2, s1, l1, e1, hL1, e2, hI⟩ := op_35 h (xs (i + 1)) (xs (i + 2)) (xs (i + 3)) (xs (i + 4)) (xs (i + 5))
  obtain ⟨M', q1, q2⟩ := nxt M2 s1 l1 hI
  exact ⟨M', q1, law_pre (p' := 1256) hN hi (law_sel e (by omega)) rfl (lw_35 hN hi h.1 hL1 e1 e2 q2)⟩
theorem law_loop (hN : N ≤ 3072) : ∀ (m i : Nat) (M : ZMem) (s : ZSt) (l : Nat → Int64), LI M s l → i ≤ N + 6 → N < i + 6 * m + 6 → ∃ M', Ly M' ∧ zgo (zsc N xs) 61 0 18 (lwL i) [] M (some (.int 1), M') := by
  intro m
  induction m with
  | zero => intro i M s l h hi hn; exact ⟨M, h.1, law_end hN (by omega) hi⟩
  | succ m ih =>
    intro i M s l h hi2 hn
    by_cases hi : i + 6 ≤ N
    · have nxt : ∀ M2 s2 l2, LI M2 s2 l2 → ∃ M', Ly M' ∧ zgo (zsc N xs) 61 0 1319 (lwL i) [] M2 (some (.int 1), M') := by
        intro M2 s2 l2 h2
        obtain ⟨M', q1, q2⟩ := ih (i + 6) M2 s2 l2 h2 (by omega) (by omega)
        exact ⟨M', q1, law_nx q2⟩
      by_cases ht : 0 ≤ (xs i &&& 63).toInt ∧ (xs i &&& 63).toInt < 36
      · obtain ⟨j, ej⟩ := Int.eq_ofNat_of_zero_le ht.1
        have hj : j < 36 := by omega
        have hz : j = 0 ∨ j = 1 ∨ j = 2 ∨ j = 3 ∨ j = 4 ∨ j = 5 ∨ j = 6 ∨ j = 7 ∨ j = 8 ∨ j = 9 ∨ j = 10 ∨ j = 11 ∨ j = 12 ∨ j = 13 ∨ j = 14 ∨ j = 15 ∨ j = 16 ∨ j = 17 ∨ j = 18 ∨ j = 19 ∨ j = 20 ∨ j = 21 ∨ j = 22 ∨ j = 23 ∨ j = 24 ∨ j = 25 ∨ j = 26 ∨ j = 27 ∨ j = 28 ∨ j = 29 ∨ j = 30 ∨ j = 31 ∨ j = 32 ∨ j = 33 ∨ j = 34 ∨ j = 35 := by omega
        rcases hz with rfl | rfl | rfl | rfl | rfl | rfl | rfl | rfl | rfl | rfl | rfl | rfl | rfl | rfl | rfl | rfl | rfl | rfl | rfl | rfl | rfl | rfl | rfl | rfl | rfl | rfl | rfl | rfl | rfl | rfl | rfl | rfl | rfl | rfl | rfl | rfl
        · exact law_s0 hN hi h nxt ej
        · exact law_s1 hN hi h nxt ej
        · exact law_s2 hN hi h nxt ej
        · exact law_s3 hN hi h nxt ej
        · exact law_s4 hN hi h nxt ej
        · exact law_s5 hN hi h nxt ej
        · exact law_s6 hN hi h nxt ej
        · exact law_s7 hN hi h nxt ej
        · exact law_s8 hN hi h nxt ej
        · exact law_s9 hN hi h nxt ej
        · exact law_s10 hN hi h nxt ej
        · exact law_s11 hN hi h nxt ej
        · exact law_s12 hN hi h nxt ej
        · exact law_s13 hN hi h nxt ej
        · exact law_s14 hN hi h nxt ej
        · exact law_s15 hN hi h nxt ej
        · exact law_s16 hN hi h nxt ej
        · exact law_s17 hN hi h nxt ej
        · exact law_s18 hN hi h nxt ej
        · exact law_s19 hN hi h nxt ej
        · exact law_s20 hN hi h nxt ej
        · exact law_s21 hN hi h nxt ej
        · exact law_s22 hN hi h nxt ej
        · exact law_s23 hN hi h nxt ej
        · exact law_s24 hN hi h nxt ej
        · exact law_s25 hN hi h nxt ej
        · exact law_s26 hN hi h nxt ej
        · exact law_s27 hN hi h nxt ej
        · exact law_s28 hN hi h nxt ej
        · exact law_s29 hN hi h nxt ej
        · exact law_s30 hN hi h nxt ej
        · exact law_s31 hN hi h nxt ej
        · exact law_s32 hN hi h nxt ej
        · exact law_s33 hN hi h nxt ej
        · exact law_s34 hN hi h nxt ej
        · exact law_s35 hN hi h nxt ej
      · obtain ⟨M', q1, q2⟩ := nxt M s l h
        exact ⟨M', q1, law_pre (p' := 1319) hN hi (law_def ht) rfl q2⟩
    · exact ⟨M, h.1, law_end hN (by omega) hi2⟩
end ZLL
