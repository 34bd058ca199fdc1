/-! THE LAW'S CASES (printed by wip/whole/gen_law.py) -/
def lz (x y : Int32) : Int64 := (x.toInt64 <<< ((32 : Int32).toInt64 &&& 63)) ||| (y.toInt64 &&& 4294967295)
theorem lcmp_0 (v : Int64) : lg_cmp v v = 0 := by
  unfold lg_cmp
  simp
set_option maxRecDepth 20000 in
theorem lw_0 {N : Nat} {xs : Nat → Int32} {i : Nat} {M M1 M2 : ZMem} {v : Int32} {o : Option Value × ZMem} (hN : N ≤ 3072) (hi : i + 6 ≤ N) (hL : Ly M) (hL1 : Ly M1) (e1 : f_13 M 20 (xs (i + 1)) (xs (i + 2)) (xs (i + 3)) = some (v, M1)) (e2 : f_146 M1 133 (xs (i + 1)) (xs (i + 2)) (xs (i + 3)) = some (v, M2)) (K : zgo (zsc N xs) 61 0 1319 (lwL i) [] M2 o) : zgo (zsc N xs) 61 0 192 (lwL i) [] M o := by
  refine zo_aload_n (p' := 193) (r := some 20) (zi_0 rfl) rfl rfl ?_
  refine zo_arg (m := 1) (p' := 198) (zi_0 rfl) (zi_0 rfl) (zi_0 rfl) (zi_0 rfl) (zi_0 rfl) rfl hN (by omega) ?_
  refine zo_arg (m := 2) (p' := 203) (zi_0 rfl) (zi_0 rfl) (zi_0 rfl) (zi_0 rfl) (zi_0 rfl) rfl hN (by omega) ?_
  refine zo_arg (m := 3) (p' := 208) (zi_0 rfl) (zi_0 rfl) (zi_0 rfl) (zi_0 rfl) (zi_0 rfl) rfl hN (by omega) ?_
  refine zo_callVi (p' := 211) (t := 11) (as := [.int (xs (i + 1)), .int (xs (i + 2)), .int (xs (i + 3))]) (r := []) (zi_0 rfl) rfl zl_0_13 rfl rfl (Or.inl ⟨by decide, rfl⟩) (Nat.le_of_ble_eq_true rfl) (Nat.le_of_ble_eq_true rfl) (zok_ly hL k20) (k_13 58 e1) ?_
  refine zo_aload_n (p' := 212) (r := some 133) (zi_0 rfl) rfl rfl ?_
  refine zo_arg (m := 1) (p' := 217) (zi_0 rfl) (zi_0 rfl) (zi_0 rfl) (zi_0 rfl) (zi_0 rfl) rfl hN (by omega) ?_
  refine zo_arg (m := 2) (p' := 222) (zi_0 rfl) (zi_0 rfl) (zi_0 rfl) (zi_0 rfl) (zi_0 rfl) rfl hN (by omega) ?_
  refine zo_arg (m := 3) (p' := 227) (zi_0 rfl) (zi_0 rfl) (zi_0 rfl) (zi_0 rfl) (zi_0 rfl) rfl hN (by omega) ?_
  refine zo_callVi (p' := 230) (t := 12) (as := [.int (xs (i + 1)), .int (xs (i + 2)), .int (xs (i + 3))]) (r := [.int v]) (zi_0 rfl) rfl zl_0_17 rfl rfl (Or.inl ⟨by decide, rfl⟩) (Nat.le_of_ble_eq_true rfl) (Nat.le_of_ble_eq_true rfl) (zok_ly hL1 k133) (k_146 59 e2) ?_
  exact zo_icT (p' := 1319) (zi_0 rfl) rfl rfl K
set_option maxRecDepth 20000 in
theorem lw_1 {N : Nat} {xs : Nat → Int32} {i : Nat} {M M1 M2 : ZMem} {v : Int32} {o : Option Value × ZMem} (hN : N ≤ 3072) (hi : i + 6 ≤ N) (hL : Ly M) (hL1 : Ly M1) (e1 : f_18 M 20 (xs (i + 1)) (xs (i + 2)) = some (v, M1)) (e2 : f_167 M1 133 (xs (i + 1)) (xs (i + 2)) = some (v, M2)) (K : zgo (zsc N xs) 61 0 1319 (lwL i) [] M2 o) : zgo (zsc N xs) 61 0 235 (lwL i) [] M o := by
  refine zo_aload_n (p' := 236) (r := some 20) (zi_0 rfl) rfl rfl ?_
  refine zo_arg (m := 1) (p' := 241) (zi_0 rfl) (zi_0 rfl) (zi_0 rfl) (zi_0 rfl) (zi_0 rfl) rfl hN (by omega) ?_
  refine zo_arg (m := 2) (p' := 246) (zi_0 rfl) (zi_0 rfl) (zi_0 rfl) (zi_0 rfl) (zi_0 rfl) rfl hN (by omega) ?_
  refine zo_callVi (p' := 249) (t := 11) (as := [.int (xs (i + 1)), .int (xs (i + 2))]) (r := []) (zi_0 rfl) rfl zl_0_18 rfl rfl (Or.inl ⟨by decide, rfl⟩) (Nat.le_of_ble_eq_true rfl) (Nat.le_of_ble_eq_true rfl) (zok_ly hL k20) (k_18 54 e1) ?_
  refine zo_aload_n (p' := 250) (r := some 133) (zi_0 rfl) rfl rfl ?_
  refine zo_arg (m := 1) (p' := 255) (zi_0 rfl) (zi_0 rfl) (zi_0 rfl) (zi_0 rfl) (zi_0 rfl) rfl hN (by omega) ?_
  refine zo_arg (m := 2) (p' := 260) (zi_0 rfl) (zi_0 rfl) (zi_0 rfl) (zi_0 rfl) (zi_0 rfl) rfl hN (by omega) ?_
  refine zo_callVi (p' := 263) (t := 12) (as := [.int (xs (i + 1)), .int (xs (i + 2))]) (r := [.int v]) (zi_0 rfl) rfl zl_0_22 rfl rfl (Or.inl ⟨by decide, rfl⟩) (Nat.le_of_ble_eq_true rfl) (Nat.le_of_ble_eq_true rfl) (zok_ly hL1 k133) (k_167 53 e2) ?_
  exact zo_icT (p' := 1319) (zi_0 rfl) rfl rfl K
set_option maxRecDepth 20000 in
theorem lw_2 {N : Nat} {xs : Nat → Int32} {i : Nat} {M M1 M2 : ZMem} {v : Int32} {o : Option Value × ZMem} (hN : N ≤ 3072) (hi : i + 6 ≤ N) (hL : Ly M) (hL1 : Ly M1) (e1 : f_48 M 20 (xs (i + 1)) (xs (i + 2)) = some (v, M1)) (e2 : f_148 M1 133 (xs (i + 1)) (xs (i + 2)) = some (v, M2)) (K : zgo (zsc N xs) 61 0 1319 (lwL i) [] M2 o) : zgo (zsc N xs) 61 0 268 (lwL i) [] M o := by
  refine zo_aload_n (p' := 269) (r := some 20) (zi_0 rfl) rfl rfl ?_
  refine zo_arg (m := 1) (p' := 274) (zi_0 rfl) (zi_0 rfl) (zi_0 rfl) (zi_0 rfl) (zi_0 rfl) rfl hN (by omega) ?_
  refine zo_arg (m := 2) (p' := 279) (zi_0 rfl) (zi_0 rfl) (zi_0 rfl) (zi_0 rfl) (zi_0 rfl) rfl hN (by omega) ?_
  refine zo_callVi (p' := 282) (t := 11) (as := [.int (xs (i + 1)), .int (xs (i + 2))]) (r := []) (zi_0 rfl) rfl zl_0_23 rfl rfl (Or.inl ⟨by decide, rfl⟩) (Nat.le_of_ble_eq_true rfl) (Nat.le_of_ble_eq_true rfl) (zok_ly hL k20) (k_48 58 e1) ?_
  refine zo_aload_n (p' := 283) (r := some 133) (zi_0 rfl) rfl rfl ?_
  refine zo_arg (m := 1) (p' := 288) (zi_0 rfl) (zi_0 rfl) (zi_0 rfl) (zi_0 rfl) (zi_0 rfl) rfl hN (by omega) ?_
  refine zo_arg (m := 2) (p' := 293) (zi_0 rfl) (zi_0 rfl) (zi_0 rfl) (zi_0 rfl) (zi_0 rfl) rfl hN (by omega) ?_
  refine zo_callVi (p' := 296) (t := 12) (as := [.int (xs (i + 1)), .int (xs (i + 2))]) (r := [.int v]) (zi_0 rfl) rfl zl_0_26 rfl rfl (Or.inl ⟨by decide, rfl⟩) (Nat.le_of_ble_eq_true rfl) (Nat.le_of_ble_eq_true rfl) (zok_ly hL1 k133) (k_148 58 e2) ?_
  exact zo_icT (p' := 1319) (zi_0 rfl) rfl rfl K
set_option maxRecDepth 20000 in
theorem lw_3 {N : Nat} {xs : Nat → Int32} {i : Nat} {M M1 M2 : ZMem} {v : Int32} {o : Option Value × ZMem} (hN : N ≤ 3072) (hi : i + 6 ≤ N) (hL : Ly M) (hL1 : Ly M1) (e1 : f_49 M 20 (xs (i + 1)) (xs (i + 2)) (xs (i + 3)) = some (v, M1)) (e2 : f_150 M1 133 (xs (i + 1)) (xs (i + 2)) (xs (i + 3)) = some (v, M2)) (K : zgo (zsc N xs) 61 0 1319 (lwL i) [] M2 o) : zgo (zsc N xs) 61 0 301 (lwL i) [] M o := by
  refine zo_aload_n (p' := 302) (r := some 20) (zi_0 rfl) rfl rfl ?_
  refine zo_arg (m := 1) (p' := 307) (zi_0 rfl) (zi_0 rfl) (zi_0 rfl) (zi_0 rfl) (zi_0 rfl) rfl hN (by omega) ?_
  refine zo_arg (m := 2) (p' := 312) (zi_0 rfl) (zi_0 rfl) (zi_0 rfl) (zi_0 rfl) (zi_0 rfl) rfl hN (by omega) ?_
  refine zo_arg (m := 3) (p' := 317) (zi_0 rfl) (zi_0 rfl) (zi_0 rfl) (zi_0 rfl) (zi_0 rfl) rfl hN (by omega) ?_
  refine zo_callVi (p' := 320) (t := 11) (as := [.int (xs (i + 1)), .int (xs (i + 2)), .int (xs (i + 3))]) (r := []) (zi_0 rfl) rfl zl_0_27 rfl rfl (Or.inl ⟨by decide, rfl⟩) (Nat.le_of_ble_eq_true rfl) (Nat.le_of_ble_eq_true rfl) (zok_ly hL k20) (k_49 58 e1) ?_
  refine zo_aload_n (p' := 321) (r := some 133) (zi_0 rfl) rfl rfl ?_
  refine zo_arg (m := 1) (p' := 326) (zi_0 rfl) (zi_0 rfl) (zi_0 rfl) (zi_0 rfl) (zi_0 rfl) rfl hN (by omega) ?_
  refine zo_arg (m := 2) (p' := 331) (zi_0 rfl) (zi_0 rfl) (zi_0 rfl) (zi_0 rfl) (zi_0 rfl) rfl hN (by omega) ?_
  refine zo_arg (m := 3) (p' := 336) (zi_0 rfl) (zi_0 rfl) (zi_0 rfl) (zi_0 rfl) (zi_0 rfl) rfl hN (by omega) ?_
  refine zo_callVi (p' := 339) (t := 12) (as := [.int (xs (i + 1)), .int (xs (i + 2)), .int (xs (i + 3))]) (r := [.int v]) (zi_0 rfl) rfl zl_0_30 rfl rfl (Or.inl ⟨by decide, rfl⟩) (Nat.le_of_ble_eq_true rfl) (Nat.le_of_ble_eq_true rfl) (zok_ly hL1 k133) (k_150 58 e2) ?_
  exact zo_icT (p' := 1319) (zi_0 rfl) rfl rfl K
set_option maxRecDepth 20000 in
theorem lw_4 {N : Nat} {xs : Nat → Int32} {i : Nat} {M M1 M2 : ZMem} {v : Int32} {o : Option Value × ZMem} (hN : N ≤ 3072) (hi : i + 6 ≤ N) (hL : Ly M) (hL1 : Ly M1) (e1 : f_50 M 20 (xs (i + 1)) (xs (i + 2)) = some (v, M1)) (e2 : f_190 M1 133 (xs (i + 1)) (xs (i + 2)) = some (v, M2)) (K : zgo (zsc N xs) 61 0 1319 (lwL i) [] M2 o) : zgo (zsc N xs) 61 0 344 (lwL i) [] M o := by
  refine zo_aload_n (p' := 345) (r := some 20) (zi_0 rfl) rfl rfl ?_
  refine zo_arg (m := 1) (p' := 350) (zi_0 rfl) (zi_0 rfl) (zi_0 rfl) (zi_0 rfl) (zi_0 rfl) rfl hN (by omega) ?_
  refine zo_arg (m := 2) (p' := 355) (zi_0 rfl) (zi_0 rfl) (zi_0 rfl) (zi_0 rfl) (zi_0 rfl) rfl hN (by omega) ?_
  refine zo_callVi (p' := 358) (t := 11) (as := [.int (xs (i + 1)), .int (xs (i + 2))]) (r := []) (zi_0 rfl) rfl zl_0_31 rfl rfl (Or.inl ⟨by decide, rfl⟩) (Nat.le_of_ble_eq_true rfl) (Nat.le_of_ble_eq_true rfl) (zok_ly hL k20) (k_50 55 e1) ?_
  refine zo_aload_n (p' := 359) (r := some 133) (zi_0 rfl) rfl rfl ?_
  refine zo_arg (m := 1) (p' := 364) (zi_0 rfl) (zi_0 rfl) (zi_0 rfl) (zi_0 rfl) (zi_0 rfl) rfl hN (by omega) ?_
  refine zo_arg (m := 2) (p' := 369) (zi_0 rfl) (zi_0 rfl) (zi_0 rfl) (zi_0 rfl) (zi_0 rfl) rfl hN (by omega) ?_
  refine zo_callVi (p' := 372) (t := 12) (as := [.int (xs (i + 1)), .int (xs (i + 2))]) (r := [.int v]) (zi_0 rfl) rfl zl_0_34 rfl rfl (Or.inl ⟨by decide, rfl⟩) (Nat.le_of_ble_eq_true rfl) (Nat.le_of_ble_eq_true rfl) (zok_ly hL1 k133) (k_190 56 e2) ?_
  exact zo_icT (p' := 1319) (zi_0 rfl) rfl rfl K
set_option maxRecDepth 20000 in
theorem lw_5 {N : Nat} {xs : Nat → Int32} {i : Nat} {M M1 : ZMem} {v : Int32} {o : Option Value × ZMem} (hN : N ≤ 3072) (hi : i + 6 ≤ N) (hL : Ly M) (hL1 : Ly M1) (e1 : f_54 M 20 (xs (i + 1)) (xs (i + 2)) (xs (i + 3)) = some (v, M1)) (e2 : f_191 M1 133 (xs (i + 1)) (xs (i + 2)) (xs (i + 3)) = some v) (K : zgo (zsc N xs) 61 0 1319 (lwL i) [] M1 o) : zgo (zsc N xs) 61 0 377 (lwL i) [] M o := by
  refine zo_aload_n (p' := 378) (r := some 20) (zi_0 rfl) rfl rfl ?_
  refine zo_arg (m := 1) (p' := 383) (zi_0 rfl) (zi_0 rfl) (zi_0 rfl) (zi_0 rfl) (zi_0 rfl) rfl hN (by omega) ?_
  refine zo_arg (m := 2) (p' := 388) (zi_0 rfl) (zi_0 rfl) (zi_0 rfl) (zi_0 rfl) (zi_0 rfl) rfl hN (by omega) ?_
  refine zo_arg (m := 3) (p' := 393) (zi_0 rfl) (zi_0 rfl) (zi_0 rfl) (zi_0 rfl) (zi_0 rfl) rfl hN (by omega) ?_
  refine zo_callVi (p' := 396) (t := 11) (as := [.int (xs (i + 1)), .int (xs (i + 2)), .int (xs (i + 3))]) (r := []) (zi_0 rfl) rfl zl_0_35 rfl rfl (Or.inl ⟨by decide, rfl⟩) (Nat.le_of_ble_eq_true rfl) (Nat.le_of_ble_eq_true rfl) (zok_ly hL k20) (k_54 55 e1) ?_
  refine zo_aload_n (p' := 397) (r := some 133) (zi_0 rfl) rfl rfl ?_
  refine zo_arg (m := 1) (p' := 402) (zi_0 rfl) (zi_0 rfl) (zi_0 rfl) (zi_0 rfl) (zi_0 rfl) rfl hN (by omega) ?_
  refine zo_arg (m := 2) (p' := 407) (zi_0 rfl) (zi_0 rfl) (zi_0 rfl) (zi_0 rfl) (zi_0 rfl) rfl hN (by omega) ?_
  refine zo_arg (m := 3) (p' := 412) (zi_0 rfl) (zi_0 rfl) (zi_0 rfl) (zi_0 rfl) (zi_0 rfl) rfl hN (by omega) ?_
  refine zo_callVi (p' := 415) (t := 12) (as := [.int (xs (i + 1)), .int (xs (i + 2)), .int (xs (i + 3))]) (r := [.int v]) (zi_0 rfl) rfl zl_0_38 rfl rfl (Or.inl ⟨by decide, rfl⟩) (Nat.le_of_ble_eq_true rfl) (Nat.le_of_ble_eq_true rfl) (zok_ly hL1 k133) (k_191 56 e2) ?_
  exact zo_icT (p' := 1319) (zi_0 rfl) rfl rfl K
set_option maxRecDepth 20000 in
theorem lw_6 {N : Nat} {xs : Nat → Int32} {i : Nat} {M M1 M2 : ZMem} {v : Int32} {o : Option Value × ZMem} (hN : N ≤ 3072) (hi : i + 6 ≤ N) (hL : Ly M) (hL1 : Ly M1) (e1 : f_56 M 20 (xs (i + 1)) = some (v, M1)) (e2 : f_192 M1 133 (xs (i + 1)) = some (v, M2)) (K : zgo (zsc N xs) 61 0 1319 (lwL i) [] M2 o) : zgo (zsc N xs) 61 0 420 (lwL i) [] M o := by
  refine zo_aload_n (p' := 421) (r := some 20) (zi_0 rfl) rfl rfl ?_
  refine zo_arg (m := 1) (p' := 426) (zi_0 rfl) (zi_0 rfl) (zi_0 rfl) (zi_0 rfl) (zi_0 rfl) rfl hN (by omega) ?_
  refine zo_callVi (p' := 429) (t := 11) (as := [.int (xs (i + 1))]) (r := []) (zi_0 rfl) rfl zl_0_39 rfl rfl (Or.inl ⟨by decide, rfl⟩) (Nat.le_of_ble_eq_true rfl) (Nat.le_of_ble_eq_true rfl) (zok_ly hL k20) (k_56 55 e1) ?_
  refine zo_aload_n (p' := 430) (r := some 133) (zi_0 rfl) rfl rfl ?_
  refine zo_arg (m := 1) (p' := 435) (zi_0 rfl) (zi_0 rfl) (zi_0 rfl) (zi_0 rfl) (zi_0 rfl) rfl hN (by omega) ?_
  refine zo_callVi (p' := 438) (t := 12) (as := [.int (xs (i + 1))]) (r := [.int v]) (zi_0 rfl) rfl zl_0_43 rfl rfl (Or.inl ⟨by decide, rfl⟩) (Nat.le_of_ble_eq_true rfl) (Nat.le_of_ble_eq_true rfl) (zok_ly hL1 k133) (k_192 55 e2) ?_
  exact zo_icT (p' := 1319) (zi_0 rfl) rfl rfl K
set_option maxRecDepth 20000 in
theorem lw_7 {N : Nat} {xs : Nat → Int32} {i : Nat} {M M1 M2 : ZMem} {v : Int32} {o : Option Value × ZMem} (hN : N ≤ 3072) (hi : i + 6 ≤ N) (hL : Ly M) (hL1 : Ly M1) (e1 : f_59 M 20 (xs (i + 1)) = some (v, M1)) (e2 : f_151 M1 133 (xs (i + 1)) = some (v, M2)) (K : zgo (zsc N xs) 61 0 1319 (lwL i) [] M2 o) : zgo (zsc N xs) 61 0 443 (lwL i) [] M o := by
  refine zo_aload_n (p' := 444) (r := some 20) (zi_0 rfl) rfl rfl ?_
  refine zo_arg (m := 1) (p' := 449) (zi_0 rfl) (zi_0 rfl) (zi_0 rfl) (zi_0 rfl) (zi_0 rfl) rfl hN (by omega) ?_
  refine zo_callVi (p' := 452) (t := 11) (as := [.int (xs (i + 1))]) (r := []) (zi_0 rfl) rfl zl_0_44 rfl rfl (Or.inl ⟨by decide, rfl⟩) (Nat.le_of_ble_eq_true rfl) (Nat.le_of_ble_eq_true rfl) (zok_ly hL k20) (k_59 59 e1) ?_
  refine zo_aload_n (p' := 453) (r := some 133) (zi_0 rfl) rfl rfl ?_
  refine zo_arg (m := 1) (p' := 458) (zi_0 rfl) (zi_0 rfl) (zi_0 rfl) (zi_0 rfl) (zi_0 rfl) rfl hN (by omega) ?_
  refine zo_callVi (p' := 461) (t := 12) (as := [.int (xs (i + 1))]) (r := [.int v]) (zi_0 rfl) rfl zl_0_47 rfl rfl (Or.inl ⟨by decide, rfl⟩) (Nat.le_of_ble_eq_true rfl) (Nat.le_of_ble_eq_true rfl) (zok_ly hL1 k133) (k_151 59 e2) ?_
  exact zo_icT (p' := 1319) (zi_0 rfl) rfl rfl K
set_option maxRecDepth 20000 in
theorem lw_8 {N : Nat} {xs : Nat → Int32} {i : Nat} {M M1 M2 : ZMem} {v : Int32} {o : Option Value × ZMem} (hN : N ≤ 3072) (hi : i + 6 ≤ N) (hL : Ly M) (hL1 : Ly M1) (e1 : f_60 M 20  = some (v, M1)) (e2 : f_152 M1 133  = some (v, M2)) (K : zgo (zsc N xs) 61 0 1319 (lwL i) [] M2 o) : zgo (zsc N xs) 61 0 466 (lwL i) [] M o := by
  refine zo_aload_n (p' := 467) (r := some 20) (zi_0 rfl) rfl rfl ?_
  refine zo_callVi (p' := 470) (t := 11) (as := []) (r := []) (zi_0 rfl) rfl zl_0_48 rfl rfl (Or.inl ⟨by decide, rfl⟩) (Nat.le_of_ble_eq_true rfl) (Nat.le_of_ble_eq_true rfl) (zok_ly hL k20) (k_60 21 e1) ?_
  refine zo_aload_n (p' := 471) (r := some 133) (zi_0 rfl) rfl rfl ?_
  refine zo_callVi (p' := 474) (t := 12) (as := []) (r := [.int v]) (zi_0 rfl) rfl zl_0_52 rfl rfl (Or.inl ⟨by decide, rfl⟩) (Nat.le_of_ble_eq_true rfl) (Nat.le_of_ble_eq_true rfl) (zok_ly hL1 k133) (k_152 53 e2) ?_
  exact zo_icT (p' := 1319) (zi_0 rfl) rfl rfl K
set_option maxRecDepth 20000 in
theorem lw_9 {N : Nat} {xs : Nat → Int32} {i : Nat} {M M1 M2 : ZMem} {v : Int32} {o : Option Value × ZMem} (hN : N ≤ 3072) (hi : i + 6 ≤ N) (hL : Ly M) (hL1 : Ly M1) (e1 : f_88 M 20 (xs (i + 1)) = some (v, M1)) (e2 : f_187 M1 133 (xs (i + 1)) = some (v, M2)) (K : zgo (zsc N xs) 61 0 1319 (lwL i) [] M2 o) : zgo (zsc N xs) 61 0 479 (lwL i) [] M o := by
  refine zo_aload_n (p' := 480) (r := some 20) (zi_0 rfl) rfl rfl ?_
  refine zo_arg (m := 1) (p' := 485) (zi_0 rfl) (zi_0 rfl) (zi_0 rfl) (zi_0 rfl) (zi_0 rfl) rfl hN (by omega) ?_
  refine zo_callVi (p' := 488) (t := 11) (as := [.int (xs (i + 1))]) (r := []) (zi_0 rfl) rfl zl_0_53 rfl rfl (Or.inl ⟨by decide, rfl⟩) (Nat.le_of_ble_eq_true rfl) (Nat.le_of_ble_eq_true rfl) (zok_ly hL k20) (k_88 54 e1) ?_
  refine zo_aload_n (p' := 489) (r := some 133) (zi_0 rfl) rfl rfl ?_
  refine zo_arg (m := 1) (p' := 494) (zi_0 rfl) (zi_0 rfl) (zi_0 rfl) (zi_0 rfl) (zi_0 rfl) rfl hN (by omega) ?_
  refine zo_callVi (p' := 497) (t := 12) (as := [.int (xs (i + 1))]) (r := [.int v]) (zi_0 rfl) rfl zl_0_56 rfl rfl (Or.inl ⟨by decide, rfl⟩) (Nat.le_of_ble_eq_true rfl) (Nat.le_of_ble_eq_true rfl) (zok_ly hL1 k133) (k_187 52 e2) ?_
  exact zo_icT (p' := 1319) (zi_0 rfl) rfl rfl K
set_option maxRecDepth 20000 in
theorem lw_10 {N : Nat} {xs : Nat → Int32} {i : Nat} {M M1 M2 : ZMem} {v : Int32} {o : Option Value × ZMem} (hN : N ≤ 3072) (hi : i + 6 ≤ N) (hL : Ly M) (hL1 : Ly M1) (e1 : f_91 M 20 (xs (i + 1)) = some (v, M1)) (e2 : f_193 M1 133 (xs (i + 1)) = some (v, M2)) (K : zgo (zsc N xs) 61 0 1319 (lwL i) [] M2 o) : zgo (zsc N xs) 61 0 502 (lwL i) [] M o := by
  refine zo_aload_n (p' := 503) (r := some 20) (zi_0 rfl) rfl rfl ?_
  refine zo_arg (m := 1) (p' := 508) (zi_0 rfl) (zi_0 rfl) (zi_0 rfl) (zi_0 rfl) (zi_0 rfl) rfl hN (by omega) ?_
  refine zo_callVi (p' := 511) (t := 11) (as := [.int (xs (i + 1))]) (r := []) (zi_0 rfl) rfl zl_0_57 rfl rfl (Or.inl ⟨by decide, rfl⟩) (Nat.le_of_ble_eq_true rfl) (Nat.le_of_ble_eq_true rfl) (zok_ly hL k20) (k_91 58 e1) ?_
  refine zo_aload_n (p' := 512) (r := some 133) (zi_0 rfl) rfl rfl ?_
  refine zo_arg (m := 1) (p' := 517) (zi_0 rfl) (zi_0 rfl) (zi_0 rfl) (zi_0 rfl) (zi_0 rfl) rfl hN (by omega) ?_
  refine zo_callVi (p' := 520) (t := 12) (as := [.int (xs (i + 1))]) (r := [.int v]) (zi_0 rfl) rfl zl_0_60 rfl rfl (Or.inl ⟨by decide, rfl⟩) (Nat.le_of_ble_eq_true rfl) (Nat.le_of_ble_eq_true rfl) (zok_ly hL1 k133) (k_193 55 e2) ?_
  exact zo_icT (p' := 1319) (zi_0 rfl) rfl rfl K
set_option maxRecDepth 20000 in
theorem lw_11 {N : Nat} {xs : Nat → Int32} {i : Nat} {M M1 M2 : ZMem} {v : Int32} {o : Option Value × ZMem} (hN : N ≤ 3072) (hi : i + 6 ≤ N) (hL : Ly M) (hL1 : Ly M1) (e1 : f_93 M 20 (xs (i + 1)) (xs (i + 2)) = some (v, M1)) (e2 : f_197 M1 133 (xs (i + 1)) (xs (i + 2)) = some (v, M2)) (K : zgo (zsc N xs) 61 0 1319 (lwL i) [] M2 o) : zgo (zsc N xs) 61 0 525 (lwL i) [] M o := by
  refine zo_aload_n (p' := 526) (r := some 20) (zi_0 rfl) rfl rfl ?_
  refine zo_arg (m := 1) (p' := 531) (zi_0 rfl) (zi_0 rfl) (zi_0 rfl) (zi_0 rfl) (zi_0 rfl) rfl hN (by omega) ?_
  refine zo_arg (m := 2) (p' := 536) (zi_0 rfl) (zi_0 rfl) (zi_0 rfl) (zi_0 rfl) (zi_0 rfl) rfl hN (by omega) ?_
  refine zo_callVi (p' := 539) (t := 11) (as := [.int (xs (i + 1)), .int (xs (i + 2))]) (r := []) (zi_0 rfl) rfl zl_0_61 rfl rfl (Or.inl ⟨by decide, rfl⟩) (Nat.le_of_ble_eq_true rfl) (Nat.le_of_ble_eq_true rfl) (zok_ly hL k20) (k_93 54 e1) ?_
  refine zo_aload_n (p' := 540) (r := some 133) (zi_0 rfl) rfl rfl ?_
  refine zo_arg (m := 1) (p' := 545) (zi_0 rfl) (zi_0 rfl) (zi_0 rfl) (zi_0 rfl) (zi_0 rfl) rfl hN (by omega) ?_
  refine zo_arg (m := 2) (p' := 550) (zi_0 rfl) (zi_0 rfl) (zi_0 rfl) (zi_0 rfl) (zi_0 rfl) rfl hN (by omega) ?_
  refine zo_callVi (p' := 553) (t := 12) (as := [.int (xs (i + 1)), .int (xs (i + 2))]) (r := [.int v]) (zi_0 rfl) rfl zl_0_64 rfl rfl (Or.inl ⟨by decide, rfl⟩) (Nat.le_of_ble_eq_true rfl) (Nat.le_of_ble_eq_true rfl) (zok_ly hL1 k133) (k_197 52 e2) ?_
  exact zo_icT (p' := 1319) (zi_0 rfl) rfl rfl K
set_option maxRecDepth 20000 in
theorem lw_12 {N : Nat} {xs : Nat → Int32} {i : Nat} {M M1 M2 : ZMem} {v : Int32} {o : Option Value × ZMem} (hN : N ≤ 3072) (hi : i + 6 ≤ N) (hL : Ly M) (hL1 : Ly M1) (e1 : f_96 M 20 (xs (i + 1)) = some (v, M1)) (e2 : f_200 M1 133 (xs (i + 1)) = some (v, M2)) (K : zgo (zsc N xs) 61 0 1319 (lwL i) [] M2 o) : zgo (zsc N xs) 61 0 558 (lwL i) [] M o := by
  refine zo_aload_n (p' := 559) (r := some 20) (zi_0 rfl) rfl rfl ?_
  refine zo_arg (m := 1) (p' := 564) (zi_0 rfl) (zi_0 rfl) (zi_0 rfl) (zi_0 rfl) (zi_0 rfl) rfl hN (by omega) ?_
  refine zo_callVi (p' := 567) (t := 11) (as := [.int (xs (i + 1))]) (r := []) (zi_0 rfl) rfl zl_0_65 rfl rfl (Or.inl ⟨by decide, rfl⟩) (Nat.le_of_ble_eq_true rfl) (Nat.le_of_ble_eq_true rfl) (zok_ly hL k20) (k_96 54 e1) ?_
  refine zo_aload_n (p' := 568) (r := some 133) (zi_0 rfl) rfl rfl ?_
  refine zo_arg (m := 1) (p' := 573) (zi_0 rfl) (zi_0 rfl) (zi_0 rfl) (zi_0 rfl) (zi_0 rfl) rfl hN (by omega) ?_
  refine zo_callVi (p' := 576) (t := 12) (as := [.int (xs (i + 1))]) (r := [.int v]) (zi_0 rfl) rfl zl_0_68 rfl rfl (Or.inl ⟨by decide, rfl⟩) (Nat.le_of_ble_eq_true rfl) (Nat.le_of_ble_eq_true rfl) (zok_ly hL1 k133) (k_200 52 e2) ?_
  exact zo_icT (p' := 1319) (zi_0 rfl) rfl rfl K
set_option maxRecDepth 20000 in
theorem lw_13 {N : Nat} {xs : Nat → Int32} {i : Nat} {M M1 M2 : ZMem} {v : Int32} {o : Option Value × ZMem} (hN : N ≤ 3072) (hi : i + 6 ≤ N) (hL : Ly M) (hL1 : Ly M1) (e1 : f_97 M 20 (xs (i + 1)) = some (v, M1)) (e2 : f_201 M1 133 (xs (i + 1)) = some (v, M2)) (K : zgo (zsc N xs) 61 0 1319 (lwL i) [] M2 o) : zgo (zsc N xs) 61 0 581 (lwL i) [] M o := by
  refine zo_aload_n (p' := 582) (r := some 20) (zi_0 rfl) rfl rfl ?_
  refine zo_arg (m := 1) (p' := 587) (zi_0 rfl) (zi_0 rfl) (zi_0 rfl) (zi_0 rfl) (zi_0 rfl) rfl hN (by omega) ?_
  refine zo_callVi (p' := 590) (t := 11) (as := [.int (xs (i + 1))]) (r := []) (zi_0 rfl) rfl zl_0_69 rfl rfl (Or.inl ⟨by decide, rfl⟩) (Nat.le_of_ble_eq_true rfl) (Nat.le_of_ble_eq_true rfl) (zok_ly hL k20) (k_97 54 e1) ?_
  refine zo_aload_n (p' := 591) (r := some 133) (zi_0 rfl) rfl rfl ?_
  refine zo_arg (m := 1) (p' := 596) (zi_0 rfl) (zi_0 rfl) (zi_0 rfl) (zi_0 rfl) (zi_0 rfl) rfl hN (by omega) ?_
  refine zo_callVi (p' := 599) (t := 12) (as := [.int (xs (i + 1))]) (r := [.int v]) (zi_0 rfl) rfl zl_0_72 rfl rfl (Or.inl ⟨by decide, rfl⟩) (Nat.le_of_ble_eq_true rfl) (Nat.le_of_ble_eq_true rfl) (zok_ly hL1 k133) (k_201 52 e2) ?_
  exact zo_icT (p' := 1319) (zi_0 rfl) rfl rfl K
set_option maxRecDepth 20000 in
theorem lw_14 {N : Nat} {xs : Nat → Int32} {i : Nat} {M M1 M2 : ZMem} {v : Int32} {o : Option Value × ZMem} (hN : N ≤ 3072) (hi : i + 6 ≤ N) (hL : Ly M) (hL1 : Ly M1) (e1 : f_104 M 20 (xs (i + 1)) = some (v, M1)) (e2 : f_205 M1 133 (xs (i + 1)) = some (v, M2)) (K : zgo (zsc N xs) 61 0 1319 (lwL i) [] M2 o) : zgo (zsc N xs) 61 0 604 (lwL i) [] M o := by
  refine zo_aload_n (p' := 605) (r := some 20) (zi_0 rfl) rfl rfl ?_
  refine zo_arg (m := 1) (p' := 610) (zi_0 rfl) (zi_0 rfl) (zi_0 rfl) (zi_0 rfl) (zi_0 rfl) rfl hN (by omega) ?_
  refine zo_callVi (p' := 613) (t := 11) (as := [.int (xs (i + 1))]) (r := []) (zi_0 rfl) rfl zl_0_73 rfl rfl (Or.inl ⟨by decide, rfl⟩) (Nat.le_of_ble_eq_true rfl) (Nat.le_of_ble_eq_true rfl) (zok_ly hL k20) (k_104 54 e1) ?_
  refine zo_aload_n (p' := 614) (r := some 133) (zi_0 rfl) rfl rfl ?_
  refine zo_arg (m := 1) (p' := 619) (zi_0 rfl) (zi_0 rfl) (zi_0 rfl) (zi_0 rfl) (zi_0 rfl) rfl hN (by omega) ?_
  refine zo_callVi (p' := 622) (t := 12) (as := [.int (xs (i + 1))]) (r := [.int v]) (zi_0 rfl) rfl zl_0_76 rfl rfl (Or.inl ⟨by decide, rfl⟩) (Nat.le_of_ble_eq_true rfl) (Nat.le_of_ble_eq_true rfl) (zok_ly hL1 k133) (k_205 51 e2) ?_
  exact zo_icT (p' := 1319) (zi_0 rfl) rfl rfl K
set_option maxRecDepth 20000 in
theorem lw_15 {N : Nat} {xs : Nat → Int32} {i : Nat} {M M1 M2 : ZMem} {v : Int32} {o : Option Value × ZMem} (hN : N ≤ 3072) (hi : i + 6 ≤ N) (hL : Ly M) (hL1 : Ly M1) (e1 : f_106 M 20  = some (v, M1)) (e2 : f_206 M1 133  = some (v, M2)) (K : zgo (zsc N xs) 61 0 1319 (lwL i) [] M2 o) : zgo (zsc N xs) 61 0 627 (lwL i) [] M o := by
  refine zo_aload_n (p' := 628) (r := some 20) (zi_0 rfl) rfl rfl ?_
  refine zo_callVi (p' := 631) (t := 11) (as := []) (r := []) (zi_0 rfl) rfl zl_0_77 rfl rfl (Or.inl ⟨by decide, rfl⟩) (Nat.le_of_ble_eq_true rfl) (Nat.le_of_ble_eq_true rfl) (zok_ly hL k20) (k_106 54 e1) ?_
  refine zo_aload_n (p' := 632) (r := some 133) (zi_0 rfl) rfl rfl ?_
  refine zo_callVi (p' := 635) (t := 12) (as := []) (r := [.int v]) (zi_0 rfl) rfl zl_0_80 rfl rfl (Or.inl ⟨by decide, rfl⟩) (Nat.le_of_ble_eq_true rfl) (Nat.le_of_ble_eq_true rfl) (zok_ly hL1 k133) (k_206 50 e2) ?_
  exact zo_icT (p' := 1319) (zi_0 rfl) rfl rfl K
set_option maxRecDepth 20000 in
theorem lw_16 {N : Nat} {xs : Nat → Int32} {i : Nat} {M M1 M2 : ZMem} {v : Int32} {o : Option Value × ZMem} (hN : N ≤ 3072) (hi : i + 6 ≤ N) (hL : Ly M) (hL1 : Ly M1) (e1 : f_107 M 20 (xs (i + 1)) (xs (i + 2)) (nzb (xs (i + 3))) = some (v, M1)) (e2 : f_207 M1 133 (xs (i + 1)) (xs (i + 2)) (nzb (xs (i + 3))) = some (v, M2)) (K : zgo (zsc N xs) 61 0 1319 (lwL i) [] M2 o) : zgo (zsc N xs) 61 0 640 (lwL i) [] M o := by
  refine zo_aload_n (p' := 641) (r := some 20) (zi_0 rfl) rfl rfl ?_
  refine zo_arg (m := 1) (p' := 646) (zi_0 rfl) (zi_0 rfl) (zi_0 rfl) (zi_0 rfl) (zi_0 rfl) rfl hN (by omega) ?_
  refine zo_arg (m := 2) (p' := 651) (zi_0 rfl) (zi_0 rfl) (zi_0 rfl) (zi_0 rfl) (zi_0 rfl) rfl hN (by omega) ?_
  refine zo_arg (m := 3) (p' := 656) (zi_0 rfl) (zi_0 rfl) (zi_0 rfl) (zi_0 rfl) (zi_0 rfl) rfl hN (by omega) ?_
  refine zo_bool (p' := 664) (zi_0 rfl) rfl (zi_0 rfl) (zi_0 rfl) rfl (zi_0 rfl) rfl ?_
  refine zo_callVi (p' := 667) (t := 11) (as := [.int (xs (i + 1)), .int (xs (i + 2)), .int (nzb (xs (i + 3)))]) (r := []) (zi_0 rfl) rfl zl_0_81 rfl rfl (Or.inl ⟨by decide, rfl⟩) (Nat.le_of_ble_eq_true rfl) (Nat.le_of_ble_eq_true rfl) (zok_ly hL k20) (k_107 58 e1) ?_
  refine zo_aload_n (p' := 668) (r := some 133) (zi_0 rfl) rfl rfl ?_
  refine zo_arg (m := 1) (p' := 673) (zi_0 rfl) (zi_0 rfl) (zi_0 rfl) (zi_0 rfl) (zi_0 rfl) rfl hN (by omega) ?_
  refine zo_arg (m := 2) (p' := 678) (zi_0 rfl) (zi_0 rfl) (zi_0 rfl) (zi_0 rfl) (zi_0 rfl) rfl hN (by omega) ?_
  refine zo_arg (m := 3) (p' := 683) (zi_0 rfl) (zi_0 rfl) (zi_0 rfl) (zi_0 rfl) (zi_0 rfl) rfl hN (by omega) ?_
  refine zo_bool (p' := 691) (zi_0 rfl) rfl (zi_0 rfl) (zi_0 rfl) rfl (zi_0 rfl) rfl ?_
  refine zo_callVi (p' := 694) (t := 12) (as := [.int (xs (i + 1)), .int (xs (i + 2)), .int (nzb (xs (i + 3)))]) (r := [.int v]) (zi_0 rfl) rfl zl_0_85 rfl rfl (Or.inl ⟨by decide, rfl⟩) (Nat.le_of_ble_eq_true rfl) (Nat.le_of_ble_eq_true rfl) (zok_ly hL1 k133) (k_207 59 e2) ?_
  exact zo_icT (p' := 1319) (zi_0 rfl) rfl rfl K
set_option maxRecDepth 20000 in
theorem lw_17 {N : Nat} {xs : Nat → Int32} {i : Nat} {M M1 M2 : ZMem} {v : Int32} {o : Option Value × ZMem} (hN : N ≤ 3072) (hi : i + 6 ≤ N) (hL : Ly M) (hL1 : Ly M1) (e1 : f_109 M 20 (xs (i + 1)) (xs (i + 2)) = some (v, M1)) (e2 : f_208 M1 133 (xs (i + 1)) (xs (i + 2)) = some (v, M2)) (K : zgo (zsc N xs) 61 0 1319 (lwL i) [] M2 o) : zgo (zsc N xs) 61 0 699 (lwL i) [] M o := by
  refine zo_aload_n (p' := 700) (r := some 20) (zi_0 rfl) rfl rfl ?_
  refine zo_arg (m := 1) (p' := 705) (zi_0 rfl) (zi_0 rfl) (zi_0 rfl) (zi_0 rfl) (zi_0 rfl) rfl hN (by omega) ?_
  refine zo_arg (m := 2) (p' := 710) (zi_0 rfl) (zi_0 rfl) (zi_0 rfl) (zi_0 rfl) (zi_0 rfl) rfl hN (by omega) ?_
  refine zo_callVi (p' := 713) (t := 11) (as := [.int (xs (i + 1)), .int (xs (i + 2))]) (r := []) (zi_0 rfl) rfl zl_0_86 rfl rfl (Or.inl ⟨by decide, rfl⟩) (Nat.le_of_ble_eq_true rfl) (Nat.le_of_ble_eq_true rfl) (zok_ly hL k20) (k_109 56 e1) ?_
  refine zo_aload_n (p' := 714) (r := some 133) (zi_0 rfl) rfl rfl ?_
  refine zo_arg (m := 1) (p' := 719) (zi_0 rfl) (zi_0 rfl) (zi_0 rfl) (zi_0 rfl) (zi_0 rfl) rfl hN (by omega) ?_
  refine zo_arg (m := 2) (p' := 724) (zi_0 rfl) (zi_0 rfl) (zi_0 rfl) (zi_0 rfl) (zi_0 rfl) rfl hN (by omega) ?_
  refine zo_callVi (p' := 727) (t := 12) (as := [.int (xs (i + 1)), .int (xs (i + 2))]) (r := [.int v]) (zi_0 rfl) rfl zl_0_89 rfl rfl (Or.inl ⟨by decide, rfl⟩) (Nat.le_of_ble_eq_true rfl) (Nat.le_of_ble_eq_true rfl) (zok_ly hL1 k133) (k_208 55 e2) ?_
  exact zo_icT (p' := 1319) (zi_0 rfl) rfl rfl K
set_option maxRecDepth 20000 in
theorem lw_18 {N : Nat} {xs : Nat → Int32} {i : Nat} {M M1 M2 : ZMem} {v : Int32} {o : Option Value × ZMem} (hN : N ≤ 3072) (hi : i + 6 ≤ N) (hL : Ly M) (hL1 : Ly M1) (e1 : f_112 M 20 (xs (i + 1)) (xs (i + 2)) = some (v, M1)) (e2 : f_210 M1 133 (xs (i + 1)) (xs (i + 2)) = some (v, M2)) (K : zgo (zsc N xs) 61 0 1319 (lwL i) [] M2 o) : zgo (zsc N xs) 61 0 732 (lwL i) [] M o := by
  refine zo_aload_n (p' := 733) (r := some 20) (zi_0 rfl) rfl rfl ?_
  refine zo_arg (m := 1) (p' := 738) (zi_0 rfl) (zi_0 rfl) (zi_0 rfl) (zi_0 rfl) (zi_0 rfl) rfl hN (by omega) ?_
  refine zo_arg (m := 2) (p' := 743) (zi_0 rfl) (zi_0 rfl) (zi_0 rfl) (zi_0 rfl) (zi_0 rfl) rfl hN (by omega) ?_
  refine zo_callVi (p' := 746) (t := 11) (as := [.int (xs (i + 1)), .int (xs (i + 2))]) (r := []) (zi_0 rfl) rfl zl_0_90 rfl rfl (Or.inl ⟨by decide, rfl⟩) (Nat.le_of_ble_eq_true rfl) (Nat.le_of_ble_eq_true rfl) (zok_ly hL k20) (k_112 56 e1) ?_
  refine zo_aload_n (p' := 747) (r := some 133) (zi_0 rfl) rfl rfl ?_
  refine zo_arg (m := 1) (p' := 752) (zi_0 rfl) (zi_0 rfl) (zi_0 rfl) (zi_0 rfl) (zi_0 rfl) rfl hN (by omega) ?_
  refine zo_arg (m := 2) (p' := 757) (zi_0 rfl) (zi_0 rfl) (zi_0 rfl) (zi_0 rfl) (zi_0 rfl) rfl hN (by omega) ?_
  refine zo_callVi (p' := 760) (t := 12) (as := [.int (xs (i + 1)), .int (xs (i + 2))]) (r := [.int v]) (zi_0 rfl) rfl zl_0_93 rfl rfl (Or.inl ⟨by decide, rfl⟩) (Nat.le_of_ble_eq_true rfl) (Nat.le_of_ble_eq_true rfl) (zok_ly hL1 k133) (k_210 55 e2) ?_
  exact zo_icT (p' := 1319) (zi_0 rfl) rfl rfl K
set_option maxRecDepth 20000 in
theorem lw_19 {N : Nat} {xs : Nat → Int32} {i : Nat} {M M1 : ZMem} {v : Int64} {o : Option Value × ZMem} (hN : N ≤ 3072) (hi : i + 6 ≤ N) (hL : Ly M) (hL1 : Ly M1) (e1 : f_113 M 20 (xs (i + 1)) (xs (i + 2)) = some (v, M1)) (e2 : f_211 M1 133 (xs (i + 1)) (xs (i + 2)) = some v) (K : zgo (zsc N xs) 61 0 1319 (lwL i) [] M1 o) : zgo (zsc N xs) 61 0 765 (lwL i) [] M o := by
  refine zo_aload_n (p' := 766) (r := some 20) (zi_0 rfl) rfl rfl ?_
  refine zo_arg (m := 1) (p' := 771) (zi_0 rfl) (zi_0 rfl) (zi_0 rfl) (zi_0 rfl) (zi_0 rfl) rfl hN (by omega) ?_
  refine zo_arg (m := 2) (p' := 776) (zi_0 rfl) (zi_0 rfl) (zi_0 rfl) (zi_0 rfl) (zi_0 rfl) rfl hN (by omega) ?_
  refine zo_callVl (p' := 779) (t := 11) (as := [.int (xs (i + 1)), .int (xs (i + 2))]) (r := []) (zi_0 rfl) rfl zl_0_94 rfl rfl (Or.inl ⟨by decide, rfl⟩) (Nat.le_of_ble_eq_true rfl) (Nat.le_of_ble_eq_true rfl) (zok_ly hL k20) (k_113 56 e1) ?_
  refine zo_aload_n (p' := 780) (r := some 133) (zi_0 rfl) rfl rfl ?_
  refine zo_arg (m := 1) (p' := 785) (zi_0 rfl) (zi_0 rfl) (zi_0 rfl) (zi_0 rfl) (zi_0 rfl) rfl hN (by omega) ?_
  refine zo_arg (m := 2) (p' := 790) (zi_0 rfl) (zi_0 rfl) (zi_0 rfl) (zi_0 rfl) (zi_0 rfl) rfl hN (by omega) ?_
  refine zo_callVl (p' := 793) (t := 12) (as := [.int (xs (i + 1)), .int (xs (i + 2))]) (r := [.long v]) (zi_0 rfl) rfl zl_0_98 rfl rfl (Or.inl ⟨by decide, rfl⟩) (Nat.le_of_ble_eq_true rfl) (Nat.le_of_ble_eq_true rfl) (zok_ly hL1 k133) (k_211 56 e2) ?_
  refine zo_lcmp (p' := 794) (zi_0 rfl) rfl ?_
  exact zo_ifT (p' := 1319) (zi_0 rfl) rfl (lcmp_0 v) K
set_option maxRecDepth 20000 in
theorem lw_20 {N : Nat} {xs : Nat → Int32} {i : Nat} {M : ZMem} {v : Int64} {o : Option Value × ZMem} (hN : N ≤ 3072) (hi : i + 6 ≤ N) (hL : Ly M) (hL1 : Ly M) (e1 : f_115 M 20 (xs (i + 1)) = some v) (e2 : f_214 M 133 (xs (i + 1)) = some v) (K : zgo (zsc N xs) 61 0 1319 (lwL i) [] M o) : zgo (zsc N xs) 61 0 799 (lwL i) [] M o := by
  refine zo_aload_n (p' := 800) (r := some 20) (zi_0 rfl) rfl rfl ?_
  refine zo_arg (m := 1) (p' := 805) (zi_0 rfl) (zi_0 rfl) (zi_0 rfl) (zi_0 rfl) (zi_0 rfl) rfl hN (by omega) ?_
  refine zo_callVl (p' := 808) (t := 11) (as := [.int (xs (i + 1))]) (r := []) (zi_0 rfl) rfl zl_0_99 rfl rfl (Or.inl ⟨by decide, rfl⟩) (Nat.le_of_ble_eq_true rfl) (Nat.le_of_ble_eq_true rfl) (zok_ly hL k20) (k_115 58 e1) ?_
  refine zo_aload_n (p' := 809) (r := some 133) (zi_0 rfl) rfl rfl ?_
  refine zo_arg (m := 1) (p' := 814) (zi_0 rfl) (zi_0 rfl) (zi_0 rfl) (zi_0 rfl) (zi_0 rfl) rfl hN (by omega) ?_
  refine zo_callVl (p' := 817) (t := 12) (as := [.int (xs (i + 1))]) (r := [.long v]) (zi_0 rfl) rfl zl_0_103 rfl rfl (Or.inl ⟨by decide, rfl⟩) (Nat.le_of_ble_eq_true rfl) (Nat.le_of_ble_eq_true rfl) (zok_ly hL1 k133) (k_214 58 e2) ?_
  refine zo_lcmp (p' := 818) (zi_0 rfl) rfl ?_
  exact zo_ifT (p' := 1319) (zi_0 rfl) rfl (lcmp_0 v) K
set_option maxRecDepth 20000 in
theorem lw_21 {N : Nat} {xs : Nat → Int32} {i : Nat} {M M1 M2 : ZMem} {v : Int32} {o : Option Value × ZMem} (hN : N ≤ 3072) (hi : i + 6 ≤ N) (hL : Ly M) (hL1 : Ly M1) (e1 : f_116 M 20 (xs (i + 1)) (xs (i + 2)) = some (v, M1)) (e2 : f_215 M1 133 (xs (i + 1)) (xs (i + 2)) = some (v, M2)) (K : zgo (zsc N xs) 61 0 1319 (lwL i) [] M2 o) : zgo (zsc N xs) 61 0 823 (lwL i) [] M o := by
  refine zo_aload_n (p' := 824) (r := some 20) (zi_0 rfl) rfl rfl ?_
  refine zo_arg (m := 1) (p' := 829) (zi_0 rfl) (zi_0 rfl) (zi_0 rfl) (zi_0 rfl) (zi_0 rfl) rfl hN (by omega) ?_
  refine zo_arg (m := 2) (p' := 834) (zi_0 rfl) (zi_0 rfl) (zi_0 rfl) (zi_0 rfl) (zi_0 rfl) rfl hN (by omega) ?_
  refine zo_callVi (p' := 837) (t := 11) (as := [.int (xs (i + 1)), .int (xs (i + 2))]) (r := []) (zi_0 rfl) rfl zl_0_104 rfl rfl (Or.inl ⟨by decide, rfl⟩) (Nat.le_of_ble_eq_true rfl) (Nat.le_of_ble_eq_true rfl) (zok_ly hL k20) (k_116 58 e1) ?_
  refine zo_aload_n (p' := 838) (r := some 133) (zi_0 rfl) rfl rfl ?_
  refine zo_arg (m := 1) (p' := 843) (zi_0 rfl) (zi_0 rfl) (zi_0 rfl) (zi_0 rfl) (zi_0 rfl) rfl hN (by omega) ?_
  refine zo_arg (m := 2) (p' := 848) (zi_0 rfl) (zi_0 rfl) (zi_0 rfl) (zi_0 rfl) (zi_0 rfl) rfl hN (by omega) ?_
  refine zo_callVi (p' := 851) (t := 12) (as := [.int (xs (i + 1)), .int (xs (i + 2))]) (r := [.int v]) (zi_0 rfl) rfl zl_0_107 rfl rfl (Or.inl ⟨by decide, rfl⟩) (Nat.le_of_ble_eq_true rfl) (Nat.le_of_ble_eq_true rfl) (zok_ly hL1 k133) (k_215 58 e2) ?_
  exact zo_icT (p' := 1319) (zi_0 rfl) rfl rfl K
set_option maxRecDepth 20000 in
theorem lw_22 {N : Nat} {xs : Nat → Int32} {i : Nat} {M M1 M2 : ZMem} {v : Int32} {o : Option Value × ZMem} (hN : N ≤ 3072) (hi : i + 6 ≤ N) (hL : Ly M) (hL1 : Ly M1) (e1 : f_117 M 20 (xs (i + 1)) = some (v, M1)) (e2 : f_216 M1 133 (xs (i + 1)) = some (v, M2)) (K : zgo (zsc N xs) 61 0 1319 (lwL i) [] M2 o) : zgo (zsc N xs) 61 0 856 (lwL i) [] M o := by
  refine zo_aload_n (p' := 857) (r := some 20) (zi_0 rfl) rfl rfl ?_
  refine zo_arg (m := 1) (p' := 862) (zi_0 rfl) (zi_0 rfl) (zi_0 rfl) (zi_0 rfl) (zi_0 rfl) rfl hN (by omega) ?_
  refine zo_callVi (p' := 865) (t := 11) (as := [.int (xs (i + 1))]) (r := []) (zi_0 rfl) rfl zl_0_108 rfl rfl (Or.inl ⟨by decide, rfl⟩) (Nat.le_of_ble_eq_true rfl) (Nat.le_of_ble_eq_true rfl) (zok_ly hL k20) (k_117 54 e1) ?_
  refine zo_aload_n (p' := 866) (r := some 133) (zi_0 rfl) rfl rfl ?_
  refine zo_arg (m := 1) (p' := 871) (zi_0 rfl) (zi_0 rfl) (zi_0 rfl) (zi_0 rfl) (zi_0 rfl) rfl hN (by omega) ?_
  refine zo_callVi (p' := 874) (t := 12) (as := [.int (xs (i + 1))]) (r := [.int v]) (zi_0 rfl) rfl zl_0_111 rfl rfl (Or.inl ⟨by decide, rfl⟩) (Nat.le_of_ble_eq_true rfl) (Nat.le_of_ble_eq_true rfl) (zok_ly hL1 k133) (k_216 53 e2) ?_
  exact zo_icT (p' := 1319) (zi_0 rfl) rfl rfl K
set_option maxRecDepth 20000 in
theorem lw_23 {N : Nat} {xs : Nat → Int32} {i : Nat} {M M1 M2 : ZMem} {v : Int32} {o : Option Value × ZMem} (hN : N ≤ 3072) (hi : i + 6 ≤ N) (hL : Ly M) (hL1 : Ly M1) (e1 : f_120 M 20 (xs (i + 1)) (xs (i + 2)) = some (v, M1)) (e2 : f_217 M1 133 (xs (i + 1)) (xs (i + 2)) = some (v, M2)) (K : zgo (zsc N xs) 61 0 1319 (lwL i) [] M2 o) : zgo (zsc N xs) 61 0 879 (lwL i) [] M o := by
  refine zo_aload_n (p' := 880) (r := some 20) (zi_0 rfl) rfl rfl ?_
  refine zo_arg (m := 1) (p' := 885) (zi_0 rfl) (zi_0 rfl) (zi_0 rfl) (zi_0 rfl) (zi_0 rfl) rfl hN (by omega) ?_
  refine zo_arg (m := 2) (p' := 890) (zi_0 rfl) (zi_0 rfl) (zi_0 rfl) (zi_0 rfl) (zi_0 rfl) rfl hN (by omega) ?_
  refine zo_callVi (p' := 893) (t := 11) (as := [.int (xs (i + 1)), .int (xs (i + 2))]) (r := []) (zi_0 rfl) rfl zl_0_112 rfl rfl (Or.inl ⟨by decide, rfl⟩) (Nat.le_of_ble_eq_true rfl) (Nat.le_of_ble_eq_true rfl) (zok_ly hL k20) (k_120 58 e1) ?_
  refine zo_aload_n (p' := 894) (r := some 133) (zi_0 rfl) rfl rfl ?_
  refine zo_arg (m := 1) (p' := 899) (zi_0 rfl) (zi_0 rfl) (zi_0 rfl) (zi_0 rfl) (zi_0 rfl) rfl hN (by omega) ?_
  refine zo_arg (m := 2) (p' := 904) (zi_0 rfl) (zi_0 rfl) (zi_0 rfl) (zi_0 rfl) (zi_0 rfl) rfl hN (by omega) ?_
  refine zo_callVi (p' := 907) (t := 12) (as := [.int (xs (i + 1)), .int (xs (i + 2))]) (r := [.int v]) (zi_0 rfl) rfl zl_0_115 rfl rfl (Or.inl ⟨by decide, rfl⟩) (Nat.le_of_ble_eq_true rfl) (Nat.le_of_ble_eq_true rfl) (zok_ly hL1 k133) (k_217 58 e2) ?_
  exact zo_icT (p' := 1319) (zi_0 rfl) rfl rfl K
set_option maxRecDepth 20000 in
theorem lw_24 {N : Nat} {xs : Nat → Int32} {i : Nat} {M : ZMem} {v : Int32} {o : Option Value × ZMem} (hN : N ≤ 3072) (hi : i + 6 ≤ N) (hL : Ly M) (hL1 : Ly M) (e1 : f_121 M 20  = some v) (e2 : f_218 M 133  = some v) (K : zgo (zsc N xs) 61 0 1319 (lwL i) [] M o) : zgo (zsc N xs) 61 0 912 (lwL i) [] M o := by
  refine zo_aload_n (p' := 913) (r := some 20) (zi_0 rfl) rfl rfl ?_
  refine zo_callVi (p' := 916) (t := 11) (as := []) (r := []) (zi_0 rfl) rfl zl_0_116 rfl rfl (Or.inl ⟨by decide, rfl⟩) (Nat.le_of_ble_eq_true rfl) (Nat.le_of_ble_eq_true rfl) (zok_ly hL k20) (k_121 58 e1) ?_
  refine zo_aload_n (p' := 917) (r := some 133) (zi_0 rfl) rfl rfl ?_
  refine zo_callVi (p' := 920) (t := 12) (as := []) (r := [.int v]) (zi_0 rfl) rfl zl_0_119 rfl rfl (Or.inl ⟨by decide, rfl⟩) (Nat.le_of_ble_eq_true rfl) (Nat.le_of_ble_eq_true rfl) (zok_ly hL1 k133) (k_218 60 e2) ?_
  exact zo_icT (p' := 1319) (zi_0 rfl) rfl rfl K
set_option maxRecDepth 20000 in
theorem lw_25 {N : Nat} {xs : Nat → Int32} {i : Nat} {M : ZMem} {v : Int32} {o : Option Value × ZMem} (hN : N ≤ 3072) (hi : i + 6 ≤ N) (hL : Ly M) (hL1 : Ly M) (e1 : f_122 M 20 (xs (i + 1)) (xs (i + 2)) = some v) (e2 : f_219 M 133 (xs (i + 1)) (xs (i + 2)) = some v) (K : zgo (zsc N xs) 61 0 1319 (lwL i) [] M o) : zgo (zsc N xs) 61 0 925 (lwL i) [] M o := by
  refine zo_aload_n (p' := 926) (r := some 20) (zi_0 rfl) rfl rfl ?_
  refine zo_arg (m := 1) (p' := 931) (zi_0 rfl) (zi_0 rfl) (zi_0 rfl) (zi_0 rfl) (zi_0 rfl) rfl hN (by omega) ?_
  refine zo_arg (m := 2) (p' := 936) (zi_0 rfl) (zi_0 rfl) (zi_0 rfl) (zi_0 rfl) (zi_0 rfl) rfl hN (by omega) ?_
  refine zo_callVi (p' := 939) (t := 11) (as := [.int (xs (i + 1)), .int (xs (i + 2))]) (r := []) (zi_0 rfl) rfl zl_0_120 rfl rfl (Or.inl ⟨by decide, rfl⟩) (Nat.le_of_ble_eq_true rfl) (Nat.le_of_ble_eq_true rfl) (zok_ly hL k20) (k_122 59 e1) ?_
  refine zo_aload_n (p' := 940) (r := some 133) (zi_0 rfl) rfl rfl ?_
  refine zo_arg (m := 1) (p' := 945) (zi_0 rfl) (zi_0 rfl) (zi_0 rfl) (zi_0 rfl) (zi_0 rfl) rfl hN (by omega) ?_
  refine zo_arg (m := 2) (p' := 950) (zi_0 rfl) (zi_0 rfl) (zi_0 rfl) (zi_0 rfl) (zi_0 rfl) rfl hN (by omega) ?_
  refine zo_callVi (p' := 953) (t := 12) (as := [.int (xs (i + 1)), .int (xs (i + 2))]) (r := [.int v]) (zi_0 rfl) rfl zl_0_123 rfl rfl (Or.inl ⟨by decide, rfl⟩) (Nat.le_of_ble_eq_true rfl) (Nat.le_of_ble_eq_true rfl) (zok_ly hL1 k133) (k_219 58 e2) ?_
  exact zo_icT (p' := 1319) (zi_0 rfl) rfl rfl K
set_option maxRecDepth 20000 in
theorem lw_26 {N : Nat} {xs : Nat → Int32} {i : Nat} {M M1 M2 : ZMem} {v : Int32} {o : Option Value × ZMem} (hN : N ≤ 3072) (hi : i + 6 ≤ N) (hL : Ly M) (hL1 : Ly M1) (e1 : f_124 M 20  = some (v, M1)) (e2 : f_221 M1 133  = some (v, M2)) (K : zgo (zsc N xs) 61 0 1319 (lwL i) [] M2 o) : zgo (zsc N xs) 61 0 958 (lwL i) [] M o := by
  refine zo_aload_n (p' := 959) (r := some 20) (zi_0 rfl) rfl rfl ?_
  refine zo_callVi (p' := 962) (t := 11) (as := []) (r := []) (zi_0 rfl) rfl zl_0_124 rfl rfl (Or.inl ⟨by decide, rfl⟩) (Nat.le_of_ble_eq_true rfl) (Nat.le_of_ble_eq_true rfl) (zok_ly hL k20) (k_124 56 e1) ?_
  refine zo_aload_n (p' := 963) (r := some 133) (zi_0 rfl) rfl rfl ?_
  refine zo_callVi (p' := 966) (t := 12) (as := []) (r := [.int v]) (zi_0 rfl) rfl zl_0_127 rfl rfl (Or.inl ⟨by decide, rfl⟩) (Nat.le_of_ble_eq_true rfl) (Nat.le_of_ble_eq_true rfl) (zok_ly hL1 k133) (k_221 60 e2) ?_
  exact zo_icT (p' := 1319) (zi_0 rfl) rfl rfl K
set_option maxRecDepth 20000 in
theorem lw_27 {N : Nat} {xs : Nat → Int32} {i : Nat} {M M1 M2 : ZMem} {v : Int32} {o : Option Value × ZMem} (hN : N ≤ 3072) (hi : i + 6 ≤ N) (hL : Ly M) (hL1 : Ly M1) (e1 : f_127 M 20  = some (v, M1)) (e2 : f_222 M1 133  = some (v, M2)) (K : zgo (zsc N xs) 61 0 1319 (lwL i) [] M2 o) : zgo (zsc N xs) 61 0 971 (lwL i) [] M o := by
  refine zo_aload_n (p' := 972) (r := some 20) (zi_0 rfl) rfl rfl ?_
  refine zo_callVi (p' := 975) (t := 11) (as := []) (r := []) (zi_0 rfl) rfl zl_0_128 rfl rfl (Or.inl ⟨by decide, rfl⟩) (Nat.le_of_ble_eq_true rfl) (Nat.le_of_ble_eq_true rfl) (zok_ly hL k20) (k_127 56 e1) ?_
  refine zo_aload_n (p' := 976) (r := some 133) (zi_0 rfl) rfl rfl ?_
  refine zo_callVi (p' := 979) (t := 12) (as := []) (r := [.int v]) (zi_0 rfl) rfl zl_0_131 rfl rfl (Or.inl ⟨by decide, rfl⟩) (Nat.le_of_ble_eq_true rfl) (Nat.le_of_ble_eq_true rfl) (zok_ly hL1 k133) (k_222 60 e2) ?_
  exact zo_icT (p' := 1319) (zi_0 rfl) rfl rfl K
set_option maxRecDepth 20000 in
theorem lw_28 {N : Nat} {xs : Nat → Int32} {i : Nat} {M M1 M2 : ZMem} {v : Int32} {o : Option Value × ZMem} (hN : N ≤ 3072) (hi : i + 6 ≤ N) (hL : Ly M) (hL1 : Ly M1) (e1 : f_128 M 20 (xs (i + 1)) (xs (i + 2)) (xs (i + 3)) = some (v, M1)) (e2 : f_223 M1 133 (xs (i + 1)) (xs (i + 2)) (xs (i + 3)) = some (v, M2)) (K : zgo (zsc N xs) 61 0 1319 (lwL i) [] M2 o) : zgo (zsc N xs) 61 0 984 (lwL i) [] M o := by
  refine zo_aload_n (p' := 985) (r := some 20) (zi_0 rfl) rfl rfl ?_
  refine zo_arg (m := 1) (p' := 990) (zi_0 rfl) (zi_0 rfl) (zi_0 rfl) (zi_0 rfl) (zi_0 rfl) rfl hN (by omega) ?_
  refine zo_arg (m := 2) (p' := 995) (zi_0 rfl) (zi_0 rfl) (zi_0 rfl) (zi_0 rfl) (zi_0 rfl) rfl hN (by omega) ?_
  refine zo_arg (m := 3) (p' := 1000) (zi_0 rfl) (zi_0 rfl) (zi_0 rfl) (zi_0 rfl) (zi_0 rfl) rfl hN (by omega) ?_
  refine zo_callVi (p' := 1003) (t := 11) (as := [.int (xs (i + 1)), .int (xs (i + 2)), .int (xs (i + 3))]) (r := []) (zi_0 rfl) rfl zl_0_132 rfl rfl (Or.inl ⟨by decide, rfl⟩) (Nat.le_of_ble_eq_true rfl) (Nat.le_of_ble_eq_true rfl) (zok_ly hL k20) (k_128 43 e1) ?_
  refine zo_aload_n (p' := 1004) (r := some 133) (zi_0 rfl) rfl rfl ?_
  refine zo_arg (m := 1) (p' := 1009) (zi_0 rfl) (zi_0 rfl) (zi_0 rfl) (zi_0 rfl) (zi_0 rfl) rfl hN (by omega) ?_
  refine zo_arg (m := 2) (p' := 1014) (zi_0 rfl) (zi_0 rfl) (zi_0 rfl) (zi_0 rfl) (zi_0 rfl) rfl hN (by omega) ?_
  refine zo_arg (m := 3) (p' := 1019) (zi_0 rfl) (zi_0 rfl) (zi_0 rfl) (zi_0 rfl) (zi_0 rfl) rfl hN (by omega) ?_
  refine zo_callVi (p' := 1022) (t := 12) (as := [.int (xs (i + 1)), .int (xs (i + 2)), .int (xs (i + 3))]) (r := [.int v]) (zi_0 rfl) rfl zl_0_135 rfl rfl (Or.inl ⟨by decide, rfl⟩) (Nat.le_of_ble_eq_true rfl) (Nat.le_of_ble_eq_true rfl) (zok_ly hL1 k133) (k_223 52 e2) ?_
  exact zo_icT (p' := 1319) (zi_0 rfl) rfl rfl K
set_option maxRecDepth 20000 in
theorem lw_29 {N : Nat} {xs : Nat → Int32} {i : Nat} {M : ZMem} {v : Int32} {o : Option Value × ZMem} (hN : N ≤ 3072) (hi : i + 6 ≤ N) (hL : Ly M) (hL1 : Ly M) (e1 : f_134 M 20 (xs (i + 1)) = some v) (e2 : f_232 M 133 (xs (i + 1)) = some v) (K : zgo (zsc N xs) 61 0 1319 (lwL i) [] M o) : zgo (zsc N xs) 61 0 1027 (lwL i) [] M o := by
  refine zo_aload_n (p' := 1028) (r := some 20) (zi_0 rfl) rfl rfl ?_
  refine zo_arg (m := 1) (p' := 1033) (zi_0 rfl) (zi_0 rfl) (zi_0 rfl) (zi_0 rfl) (zi_0 rfl) rfl hN (by omega) ?_
  refine zo_callVi (p' := 1036) (t := 11) (as := [.int (xs (i + 1))]) (r := []) (zi_0 rfl) rfl zl_0_136 rfl rfl (Or.inl ⟨by decide, rfl⟩) (Nat.le_of_ble_eq_true rfl) (Nat.le_of_ble_eq_true rfl) (zok_ly hL k20) (k_134 59 e1) ?_
  refine zo_aload_n (p' := 1037) (r := some 133) (zi_0 rfl) rfl rfl ?_
  refine zo_arg (m := 1) (p' := 1042) (zi_0 rfl) (zi_0 rfl) (zi_0 rfl) (zi_0 rfl) (zi_0 rfl) rfl hN (by omega) ?_
  refine zo_callVi (p' := 1045) (t := 12) (as := [.int (xs (i + 1))]) (r := [.int v]) (zi_0 rfl) rfl zl_0_139 rfl rfl (Or.inl ⟨by decide, rfl⟩) (Nat.le_of_ble_eq_true rfl) (Nat.le_of_ble_eq_true rfl) (zok_ly hL1 k133) (k_232 59 e2) ?_
  exact zo_icT (p' := 1319) (zi_0 rfl) rfl rfl K
set_option maxRecDepth 20000 in
theorem lw_30 {N : Nat} {xs : Nat → Int32} {i : Nat} {M : ZMem} {v : Int32} {o : Option Value × ZMem} (hN : N ≤ 3072) (hi : i + 6 ≤ N) (hL : Ly M) (hL1 : Ly M) (e1 : f_135 M 20 (xs (i + 1)) (xs (i + 2)) = some v) (e2 : f_233 M 133 (xs (i + 1)) (xs (i + 2)) = some v) (K : zgo (zsc N xs) 61 0 1319 (lwL i) [] M o) : zgo (zsc N xs) 61 0 1050 (lwL i) [] M o := by
  refine zo_aload_n (p' := 1051) (r := some 20) (zi_0 rfl) rfl rfl ?_
  refine zo_arg (m := 1) (p' := 1056) (zi_0 rfl) (zi_0 rfl) (zi_0 rfl) (zi_0 rfl) (zi_0 rfl) rfl hN (by omega) ?_
  refine zo_arg (m := 2) (p' := 1061) (zi_0 rfl) (zi_0 rfl) (zi_0 rfl) (zi_0 rfl) (zi_0 rfl) rfl hN (by omega) ?_
  refine zo_callVi (p' := 1064) (t := 11) (as := [.int (xs (i + 1)), .int (xs (i + 2))]) (r := []) (zi_0 rfl) rfl zl_0_140 rfl rfl (Or.inl ⟨by decide, rfl⟩) (Nat.le_of_ble_eq_true rfl) (Nat.le_of_ble_eq_true rfl) (zok_ly hL k20) (k_135 58 e1) ?_
  refine zo_aload_n (p' := 1065) (r := some 133) (zi_0 rfl) rfl rfl ?_
  refine zo_arg (m := 1) (p' := 1070) (zi_0 rfl) (zi_0 rfl) (zi_0 rfl) (zi_0 rfl) (zi_0 rfl) rfl hN (by omega) ?_
  refine zo_arg (m := 2) (p' := 1075) (zi_0 rfl) (zi_0 rfl) (zi_0 rfl) (zi_0 rfl) (zi_0 rfl) rfl hN (by omega) ?_
  refine zo_callVi (p' := 1078) (t := 12) (as := [.int (xs (i + 1)), .int (xs (i + 2))]) (r := [.int v]) (zi_0 rfl) rfl zl_0_143 rfl rfl (Or.inl ⟨by decide, rfl⟩) (Nat.le_of_ble_eq_true rfl) (Nat.le_of_ble_eq_true rfl) (zok_ly hL1 k133) (k_233 58 e2) ?_
  exact zo_icT (p' := 1319) (zi_0 rfl) rfl rfl K
set_option maxRecDepth 20000 in
theorem lw_31 {N : Nat} {xs : Nat → Int32} {i : Nat} {M : ZMem} {v : Int32} {o : Option Value × ZMem} (hN : N ≤ 3072) (hi : i + 6 ≤ N) (hL : Ly M) (hL1 : Ly M) (e1 : f_136 M 20 (xs (i + 1)) = some v) (e2 : f_234 M 133 (xs (i + 1)) = some v) (K : zgo (zsc N xs) 61 0 1319 (lwL i) [] M o) : zgo (zsc N xs) 61 0 1083 (lwL i) [] M o := by
  refine zo_aload_n (p' := 1084) (r := some 20) (zi_0 rfl) rfl rfl ?_
  refine zo_arg (m := 1) (p' := 1089) (zi_0 rfl) (zi_0 rfl) (zi_0 rfl) (zi_0 rfl) (zi_0 rfl) rfl hN (by omega) ?_
  refine zo_callVi (p' := 1092) (t := 11) (as := [.int (xs (i + 1))]) (r := []) (zi_0 rfl) rfl zl_0_144 rfl rfl (Or.inl ⟨by decide, rfl⟩) (Nat.le_of_ble_eq_true rfl) (Nat.le_of_ble_eq_true rfl) (zok_ly hL k20) (k_136 60 e1) ?_
  refine zo_aload_n (p' := 1093) (r := some 133) (zi_0 rfl) rfl rfl ?_
  refine zo_arg (m := 1) (p' := 1098) (zi_0 rfl) (zi_0 rfl) (zi_0 rfl) (zi_0 rfl) (zi_0 rfl) rfl hN (by omega) ?_
  refine zo_callVi (p' := 1101) (t := 12) (as := [.int (xs (i + 1))]) (r := [.int v]) (zi_0 rfl) rfl zl_0_147 rfl rfl (Or.inl ⟨by decide, rfl⟩) (Nat.le_of_ble_eq_true rfl) (Nat.le_of_ble_eq_true rfl) (zok_ly hL1 k133) (k_234 60 e2) ?_
  exact zo_icT (p' := 1319) (zi_0 rfl) rfl rfl K
set_option maxRecDepth 20000 in
theorem lw_32 {N : Nat} {xs : Nat → Int32} {i : Nat} {M M1 M2 : ZMem} {v : Int32} {o : Option Value × ZMem} (hN : N ≤ 3072) (hi : i + 6 ≤ N) (hL : Ly M) (hL1 : Ly M1) (e1 : f_137 M 20 (xs (i + 1)) (xs (i + 2)) (xs (i + 3)) = some (v, M1)) (e2 : f_235 M1 133 (xs (i + 1)) (xs (i + 2)) (xs (i + 3)) = some (v, M2)) (K : zgo (zsc N xs) 61 0 1319 (lwL i) [] M2 o) : zgo (zsc N xs) 61 0 1106 (lwL i) [] M o := by
  refine zo_aload_n (p' := 1107) (r := some 20) (zi_0 rfl) rfl rfl ?_
  refine zo_arg (m := 1) (p' := 1112) (zi_0 rfl) (zi_0 rfl) (zi_0 rfl) (zi_0 rfl) (zi_0 rfl) rfl hN (by omega) ?_
  refine zo_arg (m := 2) (p' := 1117) (zi_0 rfl) (zi_0 rfl) (zi_0 rfl) (zi_0 rfl) (zi_0 rfl) rfl hN (by omega) ?_
  refine zo_arg (m := 3) (p' := 1122) (zi_0 rfl) (zi_0 rfl) (zi_0 rfl) (zi_0 rfl) (zi_0 rfl) rfl hN (by omega) ?_
  refine zo_callVi (p' := 1125) (t := 11) (as := [.int (xs (i + 1)), .int (xs (i + 2)), .int (xs (i + 3))]) (r := []) (zi_0 rfl) rfl zl_0_148 rfl rfl (Or.inl ⟨by decide, rfl⟩) (Nat.le_of_ble_eq_true rfl) (Nat.le_of_ble_eq_true rfl) (zok_ly hL k20) (k_137 58 e1) ?_
  refine zo_aload_n (p' := 1126) (r := some 133) (zi_0 rfl) rfl rfl ?_
  refine zo_arg (m := 1) (p' := 1131) (zi_0 rfl) (zi_0 rfl) (zi_0 rfl) (zi_0 rfl) (zi_0 rfl) rfl hN (by omega) ?_
  refine zo_arg (m := 2) (p' := 1136) (zi_0 rfl) (zi_0 rfl) (zi_0 rfl) (zi_0 rfl) (zi_0 rfl) rfl hN (by omega) ?_
  refine zo_arg (m := 3) (p' := 1141) (zi_0 rfl) (zi_0 rfl) (zi_0 rfl) (zi_0 rfl) (zi_0 rfl) rfl hN (by omega) ?_
  refine zo_callVi (p' := 1144) (t := 12) (as := [.int (xs (i + 1)), .int (xs (i + 2)), .int (xs (i + 3))]) (r := [.int v]) (zi_0 rfl) rfl zl_0_151 rfl rfl (Or.inl ⟨by decide, rfl⟩) (Nat.le_of_ble_eq_true rfl) (Nat.le_of_ble_eq_true rfl) (zok_ly hL1 k133) (k_235 58 e2) ?_
  exact zo_icT (p' := 1319) (zi_0 rfl) rfl rfl K
set_option maxRecDepth 20000 in
theorem lw_33 {N : Nat} {xs : Nat → Int32} {i : Nat} {M M1 M2 : ZMem} {v : Int32} {o : Option Value × ZMem} (hN : N ≤ 3072) (hi : i + 6 ≤ N) (hL : Ly M) (hL1 : Ly M1) (e1 : f_141 M 20 (xs (i + 1)) (xs (i + 2)) (lz (xs (i + 3)) (xs (i + 4))) = some (v, M1)) (e2 : f_236 M1 133 (xs (i + 1)) (xs (i + 2)) (lz (xs (i + 3)) (xs (i + 4))) = some (v, M2)) (K : zgo (zsc N xs) 61 0 1319 (lwL i) [] M2 o) : zgo (zsc N xs) 61 0 1149 (lwL i) [] M o := by
  refine zo_aload_n (p' := 1150) (r := some 20) (zi_0 rfl) rfl rfl ?_
  refine zo_arg (m := 1) (p' := 1155) (zi_0 rfl) (zi_0 rfl) (zi_0 rfl) (zi_0 rfl) (zi_0 rfl) rfl hN (by omega) ?_
  refine zo_arg (m := 2) (p' := 1160) (zi_0 rfl) (zi_0 rfl) (zi_0 rfl) (zi_0 rfl) (zi_0 rfl) rfl hN (by omega) ?_
  refine zo_arg (m := 3) (p' := 1165) (zi_0 rfl) (zi_0 rfl) (zi_0 rfl) (zi_0 rfl) (zi_0 rfl) rfl hN (by omega) ?_
  refine zo_i2l (p' := 1166) (zi_0 rfl) rfl ?_
  refine zo_bipush (p' := 1168) (v := 32) (zi_0 rfl) rfl rfl ?_
  refine zo_lshl (p' := 1169) (zi_0 rfl) rfl ?_
  refine zo_arg (m := 4) (p' := 1174) (zi_0 rfl) (zi_0 rfl) (zi_0 rfl) (zi_0 rfl) (zi_0 rfl) rfl hN (by omega) ?_
  refine zo_i2l (p' := 1175) (zi_0 rfl) rfl ?_
  refine zo_ldc2 (p' := 1178) (v := 4294967295) (zi_0 rfl) rfl rfl ?_
  refine zo_land (p' := 1179) (zi_0 rfl) rfl ?_
  refine zo_lor (p' := 1180) (zi_0 rfl) rfl ?_
  refine zo_callVi (p' := 1183) (t := 11) (as := [.int (xs (i + 1)), .int (xs (i + 2)), .long (lz (xs (i + 3)) (xs (i + 4)))]) (r := []) (zi_0 rfl) rfl zl_0_154 rfl rfl (Or.inl ⟨by decide, rfl⟩) (Nat.le_of_ble_eq_true rfl) (Nat.le_of_ble_eq_true rfl) (zok_ly hL k20) (k_141 59 e1) ?_
  refine zo_aload_n (p' := 1184) (r := some 133) (zi_0 rfl) rfl rfl ?_
  refine zo_arg (m := 1) (p' := 1189) (zi_0 rfl) (zi_0 rfl) (zi_0 rfl) (zi_0 rfl) (zi_0 rfl) rfl hN (by omega) ?_
  refine zo_arg (m := 2) (p' := 1194) (zi_0 rfl) (zi_0 rfl) (zi_0 rfl) (zi_0 rfl) (zi_0 rfl) rfl hN (by omega) ?_
  refine zo_arg (m := 3) (p' := 1199) (zi_0 rfl) (zi_0 rfl) (zi_0 rfl) (zi_0 rfl) (zi_0 rfl) rfl hN (by omega) ?_
  refine zo_i2l (p' := 1200) (zi_0 rfl) rfl ?_
  refine zo_bipush (p' := 1202) (v := 32) (zi_0 rfl) rfl rfl ?_
  refine zo_lshl (p' := 1203) (zi_0 rfl) rfl ?_
  refine zo_arg (m := 4) (p' := 1208) (zi_0 rfl) (zi_0 rfl) (zi_0 rfl) (zi_0 rfl) (zi_0 rfl) rfl hN (by omega) ?_
  refine zo_i2l (p' := 1209) (zi_0 rfl) rfl ?_
  refine zo_ldc2 (p' := 1212) (v := 4294967295) (zi_0 rfl) rfl rfl ?_
  refine zo_land (p' := 1213) (zi_0 rfl) rfl ?_
  refine zo_lor (p' := 1214) (zi_0 rfl) rfl ?_
  refine zo_callVi (p' := 1217) (t := 12) (as := [.int (xs (i + 1)), .int (xs (i + 2)), .long (lz (xs (i + 3)) (xs (i + 4)))]) (r := [.int v]) (zi_0 rfl) rfl zl_0_158 rfl rfl (Or.inl ⟨by decide, rfl⟩) (Nat.le_of_ble_eq_true rfl) (Nat.le_of_ble_eq_true rfl) (zok_ly hL1 k133) (k_236 58 e2) ?_
  exact zo_icT (p' := 1319) (zi_0 rfl) rfl rfl K
set_option maxRecDepth 20000 in
theorem lw_34 {N : Nat} {xs : Nat → Int32} {i : Nat} {M : ZMem} {v : Int64} {o : Option Value × ZMem} (hN : N ≤ 3072) (hi : i + 6 ≤ N) (hL : Ly M) (hL1 : Ly M) (e1 : f_143 M 20 (xs (i + 1)) (xs (i + 2)) = some v) (e2 : f_238 M 133 (xs (i + 1)) (xs (i + 2)) = some v) (K : zgo (zsc N xs) 61 0 1319 (lwL i) [] M o) : zgo (zsc N xs) 61 0 1222 (lwL i) [] M o := by
  refine zo_aload_n (p' := 1223) (r := some 20) (zi_0 rfl) rfl rfl ?_
  refine zo_arg (m := 1) (p' := 1228) (zi_0 rfl) (zi_0 rfl) (zi_0 rfl) (zi_0 rfl) (zi_0 rfl) rfl hN (by omega) ?_
  refine zo_arg (m := 2) (p' := 1233) (zi_0 rfl) (zi_0 rfl) (zi_0 rfl) (zi_0 rfl) (zi_0 rfl) rfl hN (by omega) ?_
  refine zo_callVl (p' := 1236) (t := 11) (as := [.int (xs (i + 1)), .int (xs (i + 2))]) (r := []) (zi_0 rfl) rfl zl_0_159 rfl rfl (Or.inl ⟨by decide, rfl⟩) (Nat.le_of_ble_eq_true rfl) (Nat.le_of_ble_eq_true rfl) (zok_ly hL k20) (k_143 59 e1) ?_
  refine zo_aload_n (p' := 1237) (r := some 133) (zi_0 rfl) rfl rfl ?_
  refine zo_arg (m := 1) (p' := 1242) (zi_0 rfl) (zi_0 rfl) (zi_0 rfl) (zi_0 rfl) (zi_0 rfl) rfl hN (by omega) ?_
  refine zo_arg (m := 2) (p' := 1247) (zi_0 rfl) (zi_0 rfl) (zi_0 rfl) (zi_0 rfl) (zi_0 rfl) rfl hN (by omega) ?_
  refine zo_callVl (p' := 1250) (t := 12) (as := [.int (xs (i + 1)), .int (xs (i + 2))]) (r := [.long v]) (zi_0 rfl) rfl zl_0_162 rfl rfl (Or.inl ⟨by decide, rfl⟩) (Nat.le_of_ble_eq_true rfl) (Nat.le_of_ble_eq_true rfl) (zok_ly hL1 k133) (k_238 58 e2) ?_
  refine zo_lcmp (p' := 1251) (zi_0 rfl) rfl ?_
  exact zo_ifT (p' := 1319) (zi_0 rfl) rfl (lcmp_0 v) K
set_option maxRecDepth 20000 in
theorem lw_35 {N : Nat} {xs : Nat → Int32} {i : Nat} {M M1 M2 : ZMem} {v : Int32} {o : Option Value × ZMem} (hN : N ≤ 3072) (hi : i + 6 ≤ N) (hL : Ly M) (hL1 : Ly M1) (e1 : f_144 M 20 (xs (i + 1)) (xs (i + 2)) (xs (i + 3)) (xs (i + 4)) (xs (i + 5)) = some (v, M1)) (e2 : f_239 M1 133 (xs (i + 1)) (xs (i + 2)) (xs (i + 3)) (xs (i + 4)) (xs (i + 5)) = some (v, M2)) (K : zgo (zsc N xs) 61 0 1319 (lwL i) [] M2 o) : zgo (zsc N xs) 61 0 1256 (lwL i) [] M o := by
  refine zo_aload_n (p' := 1257) (r := some 20) (zi_0 rfl) rfl rfl ?_
  refine zo_arg (m := 1) (p' := 1262) (zi_0 rfl) (zi_0 rfl) (zi_0 rfl) (zi_0 rfl) (zi_0 rfl) rfl hN (by omega) ?_
  refine zo_arg (m := 2) (p' := 1267) (zi_0 rfl) (zi_0 rfl) (zi_0 rfl) (zi_0 rfl) (zi_0 rfl) rfl hN (by omega) ?_
  refine zo_arg (m := 3) (p' := 1272) (zi_0 rfl) (zi_0 rfl) (zi_0 rfl) (zi_0 rfl) (zi_0 rfl) rfl hN (by omega) ?_
  refine zo_arg (m := 4) (p' := 1277) (zi_0 rfl) (zi_0 rfl) (zi_0 rfl) (zi_0 rfl) (zi_0 rfl) rfl hN (by omega) ?_
  refine zo_arg (m := 5) (p' := 1282) (zi_0 rfl) (zi_0 rfl) (zi_0 rfl) (zi_0 rfl) (zi_0 rfl) rfl hN (by omega) ?_
  refine zo_callVi (p' := 1285) (t := 11) (as := [.int (xs (i + 1)), .int (xs (i + 2)), .int (xs (i + 3)), .int (xs (i + 4)), .int (xs (i + 5))]) (r := []) (zi_0 rfl) rfl zl_0_163 rfl rfl (Or.inl ⟨by decide, rfl⟩) (Nat.le_of_ble_eq_true rfl) (Nat.le_of_ble_eq_true rfl) (zok_ly hL k20) (k_144 59 e1) ?_
  refine zo_aload_n (p' := 1286) (r := some 133) (zi_0 rfl) rfl rfl ?_
  refine zo_arg (m := 1) (p' := 1291) (zi_0 rfl) (zi_0 rfl) (zi_0 rfl) (zi_0 rfl) (zi_0 rfl) rfl hN (by omega) ?_
  refine zo_arg (m := 2) (p' := 1296) (zi_0 rfl) (zi_0 rfl) (zi_0 rfl) (zi_0 rfl) (zi_0 rfl) rfl hN (by omega) ?_
  refine zo_arg (m := 3) (p' := 1301) (zi_0 rfl) (zi_0 rfl) (zi_0 rfl) (zi_0 rfl) (zi_0 rfl) rfl hN (by omega) ?_
  refine zo_arg (m := 4) (p' := 1306) (zi_0 rfl) (zi_0 rfl) (zi_0 rfl) (zi_0 rfl) (zi_0 rfl) rfl hN (by omega) ?_
  refine zo_arg (m := 5) (p' := 1311) (zi_0 rfl) (zi_0 rfl) (zi_0 rfl) (zi_0 rfl) (zi_0 rfl) rfl hN (by omega) ?_
  refine zo_callVi (p' := 1314) (t := 12) (as := [.int (xs (i + 1)), .int (xs (i + 2)), .int (xs (i + 3)), .int (xs (i + 4)), .int (xs (i + 5))]) (r := [.int v]) (zi_0 rfl) rfl zl_0_167 rfl rfl (Or.inl ⟨by decide, rfl⟩) (Nat.le_of_ble_eq_true rfl) (Nat.le_of_ble_eq_true rfl) (zok_ly hL1 k133) (k_239 58 e2) ?_
  exact zo_icT (p' := 1319) (zi_0 rfl) rfl rfl K
