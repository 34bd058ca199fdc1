/-! RUN: rules by which simp runs both sides -/
theorem zai_ii {M : ZMem} (h : Ly M) {p n : Nat} {i : Int} (hp : 20 ≤ p ∧ p < 184) (hs : zSh.getD p (0, 0) = (20, n)) (hn : n ≤ 1000) (h0 : 0 ≤ i) (h1 : i < n) : zai M p (ii i) = some (zI M p i.toNat) := by
  have e : (ii i).toInt = i := ii_toInt (by omega)
  rw [zai_ly h hp hs (by rw [e]; omega), e]
theorem zsa_ii {M : ZMem} (h : Ly M) {p n : Nat} {i : Int} {x : Int32} (hp : 20 ≤ p ∧ p < 184) (hs : zSh.getD p (0, 0) = (20, n)) (hn : n ≤ 1000) (h0 : 0 ≤ i) (h1 : i < n) : zsa M 20 p (ii i) x = some (zpI M p i.toNat x) := by
  have e : (ii i).toInt = i := ii_toInt (by omega)
  rw [zsa_ly h hp hs (by rw [e]; omega), e]
theorem zlaR_ii {M : ZMem} (h : Ly M) {p : Nat} {i : Int} (hp : p ∈ [23, 50, 76, 90, 108]) (h0 : 0 ≤ i) (h1 : i < 6) : zlaR M p (ii i) = some (some ((if p = 90 then 109 else if p = 108 then 121 else p + 1) + 2 * i.toNat)) := by
  have e : (ii i).toInt = i := ii_toInt (by omega)
  rw [zlaR_ly h hp (by rw [e]; omega), e]
/-- the objects of the class -/
theorem cX {M : ZMem} (h : Ly M) :
  zok M 11 20 = true ∧
  zgr M 11 0 20 = some (some 21) ∧
  zgr M 11 1 20 = some (some 48) ∧
  zgi M 11 2 20 = some (zI M 20 2) ∧
  zgr M 11 3 20 = some (some 75) ∧
  zgr M 11 4 20 = some (some 89) ∧
  zgi M 11 5 20 = some (zI M 20 5) ∧
  (∀ x, zpf M 11 5 20 (.int x) false = some (zpI M 20 5 x)) ∧
  zgr M 11 6 20 = some (some 90) ∧
  zgi M 11 7 20 = some (zI M 20 7) ∧
  (∀ x, zpf M 11 7 20 (.int x) false = some (zpI M 20 7 x)) ∧
  zgr M 11 8 20 = some (some 91) ∧
  zgr M 11 9 20 = some (some 93) ∧
  zgr M 11 10 20 = some (some 97) ∧
  zgr M 11 11 20 = some (some 98) ∧
  zgr M 11 12 20 = some (some 102) ∧
  zgr M 11 13 20 = some (some 106) ∧
  zgr M 11 14 20 = some (some 108) ∧
  zok M 7 21 = true ∧
  zgr M 7 0 21 = some (some 22) ∧
  zgr M 7 1 21 = some (some 36) ∧
  zgr M 7 2 21 = some (some 40) ∧
  zgr M 7 3 21 = some (some 44) ∧
  zok M 10 22 = true ∧
  zgr M 10 0 22 = some (some 23) ∧
  zgi M 10 1 22 = some (zI M 22 1) ∧
  (∀ x, zpf M 10 1 22 (.int x) false = some (zpI M 22 1 x)) ∧
  zgi M 10 2 22 = some (zI M 22 2) ∧
  (∀ x, zpf M 10 2 22 (.int x) false = some (zpI M 22 2 x)) ∧
  zgi M 10 3 22 = some (zI M 22 3) ∧
  (∀ x, zpf M 10 3 22 (.int x) false = some (zpI M 22 3 x)) ∧
  zgi M 10 4 22 = some (zI M 22 4) ∧
  (∀ x, zpf M 10 4 22 (.int x) false = some (zpI M 22 4 x)) ∧
  zok M 7 48 = true ∧
  zgr M 7 0 48 = some (some 49) ∧
  zgr M 7 1 48 = some (some 63) ∧
  zgr M 7 2 48 = some (some 67) ∧
  zgr M 7 3 48 = some (some 71) ∧
  zok M 10 49 = true ∧
  zgr M 10 0 49 = some (some 50) ∧
  zgi M 10 1 49 = some (zI M 49 1) ∧
  (∀ x, zpf M 10 1 49 (.int x) false = some (zpI M 49 1 x)) ∧
  zgi M 10 2 49 = some (zI M 49 2) ∧
  (∀ x, zpf M 10 2 49 (.int x) false = some (zpI M 49 2 x)) ∧
  zgi M 10 3 49 = some (zI M 49 3) ∧
  (∀ x, zpf M 10 3 49 (.int x) false = some (zpI M 49 3 x)) ∧
  zgi M 10 4 49 = some (zI M 49 4) ∧
  (∀ x, zpf M 10 4 49 (.int x) false = some (zpI M 49 4 x)) ∧
  zok M 10 75 = true ∧
  zgr M 10 0 75 = some (some 76) ∧
  zgi M 10 1 75 = some (zI M 75 1) ∧
  (∀ x, zpf M 10 1 75 (.int x) false = some (zpI M 75 1 x)) ∧
  zgi M 10 2 75 = some (zI M 75 2) ∧
  (∀ x, zpf M 10 2 75 (.int x) false = some (zpI M 75 2 x)) ∧
  zgi M 10 3 75 = some (zI M 75 3) ∧
  (∀ x, zpf M 10 3 75 (.int x) false = some (zpI M 75 3 x)) ∧
  zgi M 10 4 75 = some (zI M 75 4) ∧
  (∀ x, zpf M 10 4 75 (.int x) false = some (zpI M 75 4 x)) :=
  ⟨zok_ly h (by decide +kernel),
  gR h (by decide +kernel) (by decide) (by decide +kernel),
  gR h (by decide +kernel) (by decide) (by decide +kernel),
  gI h (by decide +kernel) (by decide),
  gR h (by decide +kernel) (by decide) (by decide +kernel),
  gR h (by decide +kernel) (by decide) (by decide +kernel),
  gI h (by decide +kernel) (by decide),
  fun x => pI h (by decide +kernel) (by decide) (by decide) (by decide),
  gR h (by decide +kernel) (by decide) (by decide +kernel),
  gI h (by decide +kernel) (by decide),
  fun x => pI h (by decide +kernel) (by decide) (by decide) (by decide),
  gR h (by decide +kernel) (by decide) (by decide +kernel),
  gR h (by decide +kernel) (by decide) (by decide +kernel),
  gR h (by decide +kernel) (by decide) (by decide +kernel),
  gR h (by decide +kernel) (by decide) (by decide +kernel),
  gR h (by decide +kernel) (by decide) (by decide +kernel),
  gR h (by decide +kernel) (by decide) (by decide +kernel),
  gR h (by decide +kernel) (by decide) (by decide +kernel),
  zok_ly h (by decide +kernel),
  gR h (by decide +kernel) (by decide) (by decide +kernel),
  gR h (by decide +kernel) (by decide) (by decide +kernel),
  gR h (by decide +kernel) (by decide) (by decide +kernel),
  gR h (by decide +kernel) (by decide) (by decide +kernel),
  zok_ly h (by decide +kernel),
  gR h (by decide +kernel) (by decide) (by decide +kernel),
  gI h (by decide +kernel) (by decide),
  fun x => pI h (by decide +kernel) (by decide) (by decide) (by decide),
  gI h (by decide +kernel) (by decide),
  fun x => pI h (by decide +kernel) (by decide) (by decide) (by decide),
  gI h (by decide +kernel) (by decide),
  fun x => pI h (by decide +kernel) (by decide) (by decide) (by decide),
  gI h (by decide +kernel) (by decide),
  fun x => pI h (by decide +kernel) (by decide) (by decide) (by decide),
  zok_ly h (by decide +kernel),
  gR h (by decide +kernel) (by decide) (by decide +kernel),
  gR h (by decide +kernel) (by decide) (by decide +kernel),
  gR h (by decide +kernel) (by decide) (by decide +kernel),
  gR h (by decide +kernel) (by decide) (by decide +kernel),
  zok_ly h (by decide +kernel),
  gR h (by decide +kernel) (by decide) (by decide +kernel),
  gI h (by decide +kernel) (by decide),
  fun x => pI h (by decide +kernel) (by decide) (by decide) (by decide),
  gI h (by decide +kernel) (by decide),
  fun x => pI h (by decide +kernel) (by decide) (by decide) (by decide),
  gI h (by decide +kernel) (by decide),
  fun x => pI h (by decide +kernel) (by decide) (by decide) (by decide),
  gI h (by decide +kernel) (by decide),
  fun x => pI h (by decide +kernel) (by decide) (by decide) (by decide),
  zok_ly h (by decide +kernel),
  gR h (by decide +kernel) (by decide) (by decide +kernel),
  gI h (by decide +kernel) (by decide),
  fun x => pI h (by decide +kernel) (by decide) (by decide) (by decide),
  gI h (by decide +kernel) (by decide),
  fun x => pI h (by decide +kernel) (by decide) (by decide) (by decide),
  gI h (by decide +kernel) (by decide),
  fun x => pI h (by decide +kernel) (by decide) (by decide) (by decide),
  gI h (by decide +kernel) (by decide),
  fun x => pI h (by decide +kernel) (by decide) (by decide) (by decide)⟩
/-- blows and values -/
theorem cV {M : ZMem} (h : Ly M) :
  zok M 2 97 = true ∧
  zgi M 2 0 97 = some (zI M 97 0) ∧
  (∀ x, zpf M 2 0 97 (.int x) false = some (zpI M 97 0 x)) ∧
  zgi M 2 1 97 = some (zI M 97 1) ∧
  (∀ x, zpf M 2 1 97 (.int x) false = some (zpI M 97 1 x)) ∧
  zgi M 2 2 97 = some (zI M 97 2) ∧
  (∀ x, zpf M 2 2 97 (.int x) false = some (zpI M 97 2 x)) ∧
  zgi M 2 3 97 = some (zI M 97 3) ∧
  (∀ x, zpf M 2 3 97 (.int x) false = some (zpI M 97 3 x)) ∧
  zok M 9 98 = true ∧
  zgr M 9 0 98 = some (some 99) ∧
  zgr M 9 1 98 = some (some 100) ∧
  zgr M 9 2 98 = some (some 101) ∧
  zgi M 9 3 98 = some (zI M 98 3) ∧
  (∀ x, zpf M 9 3 98 (.int x) false = some (zpI M 98 3 x)) ∧
  zgi M 9 4 98 = some (zI M 98 4) ∧
  (∀ x, zpf M 9 4 98 (.int x) false = some (zpI M 98 4 x)) ∧
  zgi M 9 5 98 = some (zI M 98 5) ∧
  (∀ x, zpf M 9 5 98 (.int x) false = some (zpI M 98 5 x)) ∧
  zgi M 9 6 98 = some (zI M 98 6) ∧
  (∀ x, zpf M 9 6 98 (.int x) false = some (zpI M 98 6 x)) ∧
  zok M 2 99 = true ∧
  zgi M 2 0 99 = some (zI M 99 0) ∧
  (∀ x, zpf M 2 0 99 (.int x) false = some (zpI M 99 0 x)) ∧
  zgi M 2 1 99 = some (zI M 99 1) ∧
  (∀ x, zpf M 2 1 99 (.int x) false = some (zpI M 99 1 x)) ∧
  zgi M 2 2 99 = some (zI M 99 2) ∧
  (∀ x, zpf M 2 2 99 (.int x) false = some (zpI M 99 2 x)) ∧
  zgi M 2 3 99 = some (zI M 99 3) ∧
  (∀ x, zpf M 2 3 99 (.int x) false = some (zpI M 99 3 x)) ∧
  (∀ i : Int, 0 ≤ i → i < 61 → zai M 100 (ii i) = some (zI M 100 i.toNat)) ∧
  (∀ (i : Int) x, 0 ≤ i → i < 61 → zsa M 20 100 (ii i) x = some (zpI M 100 i.toNat x)) ∧
  zlen none M 100 = some (ii 61) ∧
  (∀ i : Int, 0 ≤ i → i < 61 → zai M 101 (ii i) = some (zI M 101 i.toNat)) ∧
  (∀ (i : Int) x, 0 ≤ i → i < 61 → zsa M 20 101 (ii i) x = some (zpI M 101 i.toNat x)) ∧
  zlen none M 101 = some (ii 61) :=
  ⟨zok_ly h (by decide +kernel),
  gI h (by decide +kernel) (by decide),
  fun x => pI h (by decide +kernel) (by decide) (by decide) (by decide),
  gI h (by decide +kernel) (by decide),
  fun x => pI h (by decide +kernel) (by decide) (by decide) (by decide),
  gI h (by decide +kernel) (by decide),
  fun x => pI h (by decide +kernel) (by decide) (by decide) (by decide),
  gI h (by decide +kernel) (by decide),
  fun x => pI h (by decide +kernel) (by decide) (by decide) (by decide),
  zok_ly h (by decide +kernel),
  gR h (by decide +kernel) (by decide) (by decide +kernel),
  gR h (by decide +kernel) (by decide) (by decide +kernel),
  gR h (by decide +kernel) (by decide) (by decide +kernel),
  gI h (by decide +kernel) (by decide),
  fun x => pI h (by decide +kernel) (by decide) (by decide) (by decide),
  gI h (by decide +kernel) (by decide),
  fun x => pI h (by decide +kernel) (by decide) (by decide) (by decide),
  gI h (by decide +kernel) (by decide),
  fun x => pI h (by decide +kernel) (by decide) (by decide) (by decide),
  gI h (by decide +kernel) (by decide),
  fun x => pI h (by decide +kernel) (by decide) (by decide) (by decide),
  zok_ly h (by decide +kernel),
  gI h (by decide +kernel) (by decide),
  fun x => pI h (by decide +kernel) (by decide) (by decide) (by decide),
  gI h (by decide +kernel) (by decide),
  fun x => pI h (by decide +kernel) (by decide) (by decide) (by decide),
  gI h (by decide +kernel) (by decide),
  fun x => pI h (by decide +kernel) (by decide) (by decide) (by decide),
  gI h (by decide +kernel) (by decide),
  fun x => pI h (by decide +kernel) (by decide) (by decide) (by decide),
  fun i h0 h1 => zai_ii h (by omega) (n := 61) (by decide +kernel) (by omega) h0 h1,
  fun i x h0 h1 => zsa_ii h (by omega) (n := 61) (by decide +kernel) (by omega) h0 h1,
  zlen_ly h (t := 20) (n := 61) (by omega) (by decide +kernel) (by omega),
  fun i h0 h1 => zai_ii h (by omega) (n := 61) (by decide +kernel) (by omega) h0 h1,
  fun i x h0 h1 => zsa_ii h (by omega) (n := 61) (by decide +kernel) (by omega) h0 h1,
  zlen_ly h (t := 20) (n := 61) (by omega) (by decide +kernel) (by omega)⟩
/-- the planner -/
theorem cP {M : ZMem} (h : Ly M) :
  zok M 5 102 = true ∧
  zgr M 5 0 102 = some (some 103) ∧
  zgr M 5 1 102 = some (some 104) ∧
  zgi M 5 2 102 = some (zI M 102 2) ∧
  (∀ x, zpf M 5 2 102 (.int x) false = some (zpI M 102 2 x)) ∧
  zgi M 5 3 102 = some (zI M 102 3) ∧
  (∀ x, zpf M 5 3 102 (.int x) false = some (zpI M 102 3 x)) ∧
  zgr M 5 4 102 = some (some 105) ∧
  (∀ i : Int, 0 ≤ i → i < 36 → zai M 103 (ii i) = some (zI M 103 i.toNat)) ∧
  (∀ (i : Int) x, 0 ≤ i → i < 36 → zsa M 20 103 (ii i) x = some (zpI M 103 i.toNat x)) ∧
  zlen none M 103 = some (ii 36) ∧
  (∀ i : Int, 0 ≤ i → i < 6 → zai M 104 (ii i) = some (zI M 104 i.toNat)) ∧
  (∀ (i : Int) x, 0 ≤ i → i < 6 → zsa M 20 104 (ii i) x = some (zpI M 104 i.toNat x)) ∧
  zlen none M 104 = some (ii 6) ∧
  (∀ i : Int, 0 ≤ i → i < 64 → zai M 105 (ii i) = some (zI M 105 i.toNat)) ∧
  (∀ (i : Int) x, 0 ≤ i → i < 64 → zsa M 20 105 (ii i) x = some (zpI M 105 i.toNat x)) ∧
  zlen none M 105 = some (ii 64) :=
  ⟨zok_ly h (by decide +kernel),
  gR h (by decide +kernel) (by decide) (by decide +kernel),
  gR h (by decide +kernel) (by decide) (by decide +kernel),
  gI h (by decide +kernel) (by decide),
  fun x => pI h (by decide +kernel) (by decide) (by decide) (by decide),
  gI h (by decide +kernel) (by decide),
  fun x => pI h (by decide +kernel) (by decide) (by decide) (by decide),
  gR h (by decide +kernel) (by decide) (by decide +kernel),
  fun i h0 h1 => zai_ii h (by omega) (n := 36) (by decide +kernel) (by omega) h0 h1,
  fun i x h0 h1 => zsa_ii h (by omega) (n := 36) (by decide +kernel) (by omega) h0 h1,
  zlen_ly h (t := 20) (n := 36) (by omega) (by decide +kernel) (by omega),
  fun i h0 h1 => zai_ii h (by omega) (n := 6) (by decide +kernel) (by omega) h0 h1,
  fun i x h0 h1 => zsa_ii h (by omega) (n := 6) (by decide +kernel) (by omega) h0 h1,
  zlen_ly h (t := 20) (n := 6) (by omega) (by decide +kernel) (by omega),
  fun i h0 h1 => zai_ii h (by omega) (n := 64) (by decide +kernel) (by omega) h0 h1,
  fun i x h0 h1 => zsa_ii h (by omega) (n := 64) (by decide +kernel) (by omega) h0 h1,
  zlen_ly h (t := 20) (n := 64) (by omega) (by decide +kernel) (by omega)⟩
/-- rows told by hand -/
theorem cW {M : ZMem} (h : Ly M) :
  zok M 6 36 = true ∧
  zgi M 6 0 36 = some (zI M 36 0) ∧
  zgr M 6 1 36 = some (some 37) ∧
  zgr M 6 2 36 = some (some 38) ∧
  zgr M 6 3 36 = some (some 39) ∧
  zgi M 6 4 36 = some (zI M 36 4) ∧
  (∀ x, zpf M 6 4 36 (.int x) false = some (zpI M 36 4 x)) ∧
  zok M 6 40 = true ∧
  zgi M 6 0 40 = some (zI M 40 0) ∧
  zgr M 6 1 40 = some (some 41) ∧
  zgr M 6 2 40 = some (some 42) ∧
  zgr M 6 3 40 = some (some 43) ∧
  zgi M 6 4 40 = some (zI M 40 4) ∧
  (∀ x, zpf M 6 4 40 (.int x) false = some (zpI M 40 4 x)) ∧
  zok M 6 44 = true ∧
  zgi M 6 0 44 = some (zI M 44 0) ∧
  zgr M 6 1 44 = some (some 45) ∧
  zgr M 6 2 44 = some (some 46) ∧
  zgr M 6 3 44 = some (some 47) ∧
  zgi M 6 4 44 = some (zI M 44 4) ∧
  (∀ x, zpf M 6 4 44 (.int x) false = some (zpI M 44 4 x)) ∧
  zok M 6 63 = true ∧
  zgi M 6 0 63 = some (zI M 63 0) ∧
  zgr M 6 1 63 = some (some 64) ∧
  zgr M 6 2 63 = some (some 65) ∧
  zgr M 6 3 63 = some (some 66) ∧
  zgi M 6 4 63 = some (zI M 63 4) ∧
  (∀ x, zpf M 6 4 63 (.int x) false = some (zpI M 63 4 x)) ∧
  zok M 6 67 = true ∧
  zgi M 6 0 67 = some (zI M 67 0) ∧
  zgr M 6 1 67 = some (some 68) ∧
  zgr M 6 2 67 = some (some 69) ∧
  zgr M 6 3 67 = some (some 70) ∧
  zgi M 6 4 67 = some (zI M 67 4) ∧
  (∀ x, zpf M 6 4 67 (.int x) false = some (zpI M 67 4 x)) ∧
  zok M 6 71 = true ∧
  zgi M 6 0 71 = some (zI M 71 0) ∧
  zgr M 6 1 71 = some (some 72) ∧
  zgr M 6 2 71 = some (some 73) ∧
  zgr M 6 3 71 = some (some 74) ∧
  zgi M 6 4 71 = some (zI M 71 4) ∧
  (∀ x, zpf M 6 4 71 (.int x) false = some (zpI M 71 4 x)) ∧
  (∀ i : Int, 0 ≤ i → i < 6 → zai M 37 (ii i) = some (zI M 37 i.toNat)) ∧
  (∀ (i : Int) x, 0 ≤ i → i < 6 → zsa M 20 37 (ii i) x = some (zpI M 37 i.toNat x)) ∧
  zlen none M 37 = some (ii 6) ∧
  (∀ i : Int, 0 ≤ i → i < 6 → zai M 38 (ii i) = some (zI M 38 i.toNat)) ∧
  (∀ (i : Int) x, 0 ≤ i → i < 6 → zsa M 20 38 (ii i) x = some (zpI M 38 i.toNat x)) ∧
  zlen none M 38 = some (ii 6) ∧
  (∀ i : Int, 0 ≤ i → i < 6 → zai M 39 (ii i) = some (zI M 39 i.toNat)) ∧
  (∀ (i : Int) x, 0 ≤ i → i < 6 → zsa M 20 39 (ii i) x = some (zpI M 39 i.toNat x)) ∧
  zlen none M 39 = some (ii 6) ∧
  (∀ i : Int, 0 ≤ i → i < 10 → zai M 41 (ii i) = some (zI M 41 i.toNat)) ∧
  (∀ (i : Int) x, 0 ≤ i → i < 10 → zsa M 20 41 (ii i) x = some (zpI M 41 i.toNat x)) ∧
  zlen none M 41 = some (ii 10) ∧
  (∀ i : Int, 0 ≤ i → i < 10 → zai M 42 (ii i) = some (zI M 42 i.toNat)) ∧
  (∀ (i : Int) x, 0 ≤ i → i < 10 → zsa M 20 42 (ii i) x = some (zpI M 42 i.toNat x)) ∧
  zlen none M 42 = some (ii 10) ∧
  (∀ i : Int, 0 ≤ i → i < 10 → zai M 43 (ii i) = some (zI M 43 i.toNat)) ∧
  (∀ (i : Int) x, 0 ≤ i → i < 10 → zsa M 20 43 (ii i) x = some (zpI M 43 i.toNat x)) ∧
  zlen none M 43 = some (ii 10) ∧
  (∀ i : Int, 0 ≤ i → i < 8 → zai M 45 (ii i) = some (zI M 45 i.toNat)) ∧
  (∀ (i : Int) x, 0 ≤ i → i < 8 → zsa M 20 45 (ii i) x = some (zpI M 45 i.toNat x)) ∧
  zlen none M 45 = some (ii 8) ∧
  (∀ i : Int, 0 ≤ i → i < 8 → zai M 46 (ii i) = some (zI M 46 i.toNat)) ∧
  (∀ (i : Int) x, 0 ≤ i → i < 8 → zsa M 20 46 (ii i) x = some (zpI M 46 i.toNat x)) ∧
  zlen none M 46 = some (ii 8) ∧
  (∀ i : Int, 0 ≤ i → i < 8 → zai M 47 (ii i) = some (zI M 47 i.toNat)) ∧
  (∀ (i : Int) x, 0 ≤ i → i < 8 → zsa M 20 47 (ii i) x = some (zpI M 47 i.toNat x)) ∧
  zlen none M 47 = some (ii 8) ∧
  (∀ i : Int, 0 ≤ i → i < 6 → zai M 64 (ii i) = some (zI M 64 i.toNat)) ∧
  (∀ (i : Int) x, 0 ≤ i → i < 6 → zsa M 20 64 (ii i) x = some (zpI M 64 i.toNat x)) ∧
  zlen none M 64 = some (ii 6) ∧
  (∀ i : Int, 0 ≤ i → i < 6 → zai M 65 (ii i) = some (zI M 65 i.toNat)) ∧
  (∀ (i : Int) x, 0 ≤ i → i < 6 → zsa M 20 65 (ii i) x = some (zpI M 65 i.toNat x)) ∧
  zlen none M 65 = some (ii 6) ∧
  (∀ i : Int, 0 ≤ i → i < 6 → zai M 66 (ii i) = some (zI M 66 i.toNat)) ∧
  (∀ (i : Int) x, 0 ≤ i → i < 6 → zsa M 20 66 (ii i) x = some (zpI M 66 i.toNat x)) ∧
  zlen none M 66 = some (ii 6) ∧
  (∀ i : Int, 0 ≤ i → i < 10 → zai M 68 (ii i) = some (zI M 68 i.toNat)) ∧
  (∀ (i : Int) x, 0 ≤ i → i < 10 → zsa M 20 68 (ii i) x = some (zpI M 68 i.toNat x)) ∧
  zlen none M 68 = some (ii 10) ∧
  (∀ i : Int, 0 ≤ i → i < 10 → zai M 69 (ii i) = some (zI M 69 i.toNat)) ∧
  (∀ (i : Int) x, 0 ≤ i → i < 10 → zsa M 20 69 (ii i) x = some (zpI M 69 i.toNat x)) ∧
  zlen none M 69 = some (ii 10) ∧
  (∀ i : Int, 0 ≤ i → i < 10 → zai M 70 (ii i) = some (zI M 70 i.toNat)) ∧
  (∀ (i : Int) x, 0 ≤ i → i < 10 → zsa M 20 70 (ii i) x = some (zpI M 70 i.toNat x)) ∧
  zlen none M 70 = some (ii 10) ∧
  (∀ i : Int, 0 ≤ i → i < 8 → zai M 72 (ii i) = some (zI M 72 i.toNat)) ∧
  (∀ (i : Int) x, 0 ≤ i → i < 8 → zsa M 20 72 (ii i) x = some (zpI M 72 i.toNat x)) ∧
  zlen none M 72 = some (ii 8) ∧
  (∀ i : Int, 0 ≤ i → i < 8 → zai M 73 (ii i) = some (zI M 73 i.toNat)) ∧
  (∀ (i : Int) x, 0 ≤ i → i < 8 → zsa M 20 73 (ii i) x = some (zpI M 73 i.toNat x)) ∧
  zlen none M 73 = some (ii 8) ∧
  (∀ i : Int, 0 ≤ i → i < 8 → zai M 74 (ii i) = some (zI M 74 i.toNat)) ∧
  (∀ (i : Int) x, 0 ≤ i → i < 8 → zsa M 20 74 (ii i) x = some (zpI M 74 i.toNat x)) ∧
  zlen none M 74 = some (ii 8) :=
  ⟨zok_ly h (by decide +kernel),
  gI h (by decide +kernel) (by decide),
  gR h (by decide +kernel) (by decide) (by decide +kernel),
  gR h (by decide +kernel) (by decide) (by decide +kernel),
  gR h (by decide +kernel) (by decide) (by decide +kernel),
  gI h (by decide +kernel) (by decide),
  fun x => pI h (by decide +kernel) (by decide) (by decide) (by decide),
  zok_ly h (by decide +kernel),
  gI h (by decide +kernel) (by decide),
  gR h (by decide +kernel) (by decide) (by decide +kernel),
  gR h (by decide +kernel) (by decide) (by decide +kernel),
  gR h (by decide +kernel) (by decide) (by decide +kernel),
  gI h (by decide +kernel) (by decide),
  fun x => pI h (by decide +kernel) (by decide) (by decide) (by decide),
  zok_ly h (by decide +kernel),
  gI h (by decide +kernel) (by decide),
  gR h (by decide +kernel) (by decide) (by decide +kernel),
  gR h (by decide +kernel) (by decide) (by decide +kernel),
  gR h (by decide +kernel) (by decide) (by decide +kernel),
  gI h (by decide +kernel) (by decide),
  fun x => pI h (by decide +kernel) (by decide) (by decide) (by decide),
  zok_ly h (by decide +kernel),
  gI h (by decide +kernel) (by decide),
  gR h (by decide +kernel) (by decide) (by decide +kernel),
  gR h (by decide +kernel) (by decide) (by decide +kernel),
  gR h (by decide +kernel) (by decide) (by decide +kernel),
  gI h (by decide +kernel) (by decide),
  fun x => pI h (by decide +kernel) (by decide) (by decide) (by decide),
  zok_ly h (by decide +kernel),
  gI h (by decide +kernel) (by decide),
  gR h (by decide +kernel) (by decide) (by decide +kernel),
  gR h (by decide +kernel) (by decide) (by decide +kernel),
  gR h (by decide +kernel) (by decide) (by decide +kernel),
  gI h (by decide +kernel) (by decide),
  fun x => pI h (by decide +kernel) (by decide) (by decide) (by decide),
  zok_ly h (by decide +kernel),
  gI h (by decide +kernel) (by decide),
  gR h (by decide +kernel) (by decide) (by decide +kernel),
  gR h (by decide +kernel) (by decide) (by decide +kernel),
  gR h (by decide +kernel) (by decide) (by decide +kernel),
  gI h (by decide +kernel) (by decide),
  fun x => pI h (by decide +kernel) (by decide) (by decide) (by decide),
  fun i h0 h1 => zai_ii h (by omega) (n := 6) (by decide +kernel) (by omega) h0 h1,
  fun i x h0 h1 => zsa_ii h (by omega) (n := 6) (by decide +kernel) (by omega) h0 h1,
  zlen_ly h (t := 20) (n := 6) (by omega) (by decide +kernel) (by omega),
  fun i h0 h1 => zai_ii h (by omega) (n := 6) (by decide +kernel) (by omega) h0 h1,
  fun i x h0 h1 => zsa_ii h (by omega) (n := 6) (by decide +kernel) (by omega) h0 h1,
  zlen_ly h (t := 20) (n := 6) (by omega) (by decide +kernel) (by omega),
  fun i h0 h1 => zai_ii h (by omega) (n := 6) (by decide +kernel) (by omega) h0 h1,
  fun i x h0 h1 => zsa_ii h (by omega) (n := 6) (by decide +kernel) (by omega) h0 h1,
  zlen_ly h (t := 20) (n := 6) (by omega) (by decide +kernel) (by omega),
  fun i h0 h1 => zai_ii h (by omega) (n := 10) (by decide +kernel) (by omega) h0 h1,
  fun i x h0 h1 => zsa_ii h (by omega) (n := 10) (by decide +kernel) (by omega) h0 h1,
  zlen_ly h (t := 20) (n := 10) (by omega) (by decide +kernel) (by omega),
  fun i h0 h1 => zai_ii h (by omega) (n := 10) (by decide +kernel) (by omega) h0 h1,
  fun i x h0 h1 => zsa_ii h (by omega) (n := 10) (by decide +kernel) (by omega) h0 h1,
  zlen_ly h (t := 20) (n := 10) (by omega) (by decide +kernel) (by omega),
  fun i h0 h1 => zai_ii h (by omega) (n := 10) (by decide +kernel) (by omega) h0 h1,
  fun i x h0 h1 => zsa_ii h (by omega) (n := 10) (by decide +kernel) (by omega) h0 h1,
  zlen_ly h (t := 20) (n := 10) (by omega) (by decide +kernel) (by omega),
  fun i h0 h1 => zai_ii h (by omega) (n := 8) (by decide +kernel) (by omega) h0 h1,
  fun i x h0 h1 => zsa_ii h (by omega) (n := 8) (by decide +kernel) (by omega) h0 h1,
  zlen_ly h (t := 20) (n := 8) (by omega) (by decide +kernel) (by omega),
  fun i h0 h1 => zai_ii h (by omega) (n := 8) (by decide +kernel) (by omega) h0 h1,
  fun i x h0 h1 => zsa_ii h (by omega) (n := 8) (by decide +kernel) (by omega) h0 h1,
  zlen_ly h (t := 20) (n := 8) (by omega) (by decide +kernel) (by omega),
  fun i h0 h1 => zai_ii h (by omega) (n := 8) (by decide +kernel) (by omega) h0 h1,
  fun i x h0 h1 => zsa_ii h (by omega) (n := 8) (by decide +kernel) (by omega) h0 h1,
  zlen_ly h (t := 20) (n := 8) (by omega) (by decide +kernel) (by omega),
  fun i h0 h1 => zai_ii h (by omega) (n := 6) (by decide +kernel) (by omega) h0 h1,
  fun i x h0 h1 => zsa_ii h (by omega) (n := 6) (by decide +kernel) (by omega) h0 h1,
  zlen_ly h (t := 20) (n := 6) (by omega) (by decide +kernel) (by omega),
  fun i h0 h1 => zai_ii h (by omega) (n := 6) (by decide +kernel) (by omega) h0 h1,
  fun i x h0 h1 => zsa_ii h (by omega) (n := 6) (by decide +kernel) (by omega) h0 h1,
  zlen_ly h (t := 20) (n := 6) (by omega) (by decide +kernel) (by omega),
  fun i h0 h1 => zai_ii h (by omega) (n := 6) (by decide +kernel) (by omega) h0 h1,
  fun i x h0 h1 => zsa_ii h (by omega) (n := 6) (by decide +kernel) (by omega) h0 h1,
  zlen_ly h (t := 20) (n := 6) (by omega) (by decide +kernel) (by omega),
  fun i h0 h1 => zai_ii h (by omega) (n := 10) (by decide +kernel) (by omega) h0 h1,
  fun i x h0 h1 => zsa_ii h (by omega) (n := 10) (by decide +kernel) (by omega) h0 h1,
  zlen_ly h (t := 20) (n := 10) (by omega) (by decide +kernel) (by omega),
  fun i h0 h1 => zai_ii h (by omega) (n := 10) (by decide +kernel) (by omega) h0 h1,
  fun i x h0 h1 => zsa_ii h (by omega) (n := 10) (by decide +kernel) (by omega) h0 h1,
  zlen_ly h (t := 20) (n := 10) (by omega) (by decide +kernel) (by omega),
  fun i h0 h1 => zai_ii h (by omega) (n := 10) (by decide +kernel) (by omega) h0 h1,
  fun i x h0 h1 => zsa_ii h (by omega) (n := 10) (by decide +kernel) (by omega) h0 h1,
  zlen_ly h (t := 20) (n := 10) (by omega) (by decide +kernel) (by omega),
  fun i h0 h1 => zai_ii h (by omega) (n := 8) (by decide +kernel) (by omega) h0 h1,
  fun i x h0 h1 => zsa_ii h (by omega) (n := 8) (by decide +kernel) (by omega) h0 h1,
  zlen_ly h (t := 20) (n := 8) (by omega) (by decide +kernel) (by omega),
  fun i h0 h1 => zai_ii h (by omega) (n := 8) (by decide +kernel) (by omega) h0 h1,
  fun i x h0 h1 => zsa_ii h (by omega) (n := 8) (by decide +kernel) (by omega) h0 h1,
  zlen_ly h (t := 20) (n := 8) (by omega) (by decide +kernel) (by omega),
  fun i h0 h1 => zai_ii h (by omega) (n := 8) (by decide +kernel) (by omega) h0 h1,
  fun i x h0 h1 => zsa_ii h (by omega) (n := 8) (by decide +kernel) (by omega) h0 h1,
  zlen_ly h (t := 20) (n := 8) (by omega) (by decide +kernel) (by omega)⟩
/-- blocks of the yards -/
theorem cB {M : ZMem} (h : Ly M) {y b : Nat} (hy : y ∈ [22, 49, 75]) (hb : b < 6) :
  zok M 1 (y + 2 + 2 * b) = true ∧
  zgi M 1 0 (y + 2 + 2 * b) = some (zI M (y + 2 + 2 * b) 0) ∧
  zgi M 1 1 (y + 2 + 2 * b) = some (zI M (y + 2 + 2 * b) 1) ∧
  zgi M 1 2 (y + 2 + 2 * b) = some (zI M (y + 2 + 2 * b) 2) ∧
  zgi M 1 3 (y + 2 + 2 * b) = some (zI M (y + 2 + 2 * b) 3) ∧
  zgi M 1 4 (y + 2 + 2 * b) = some (zI M (y + 2 + 2 * b) 4) ∧
  zgi M 1 5 (y + 2 + 2 * b) = some (zI M (y + 2 + 2 * b) 5) ∧
  (∀ x, zpf M 1 1 (y + 2 + 2 * b) (.int x) false = some (zpI M (y + 2 + 2 * b) 1 x)) ∧
  (∀ x, zpf M 1 2 (y + 2 + 2 * b) (.int x) false = some (zpI M (y + 2 + 2 * b) 2 x)) ∧
  (∀ x, zpf M 1 3 (y + 2 + 2 * b) (.int x) false = some (zpI M (y + 2 + 2 * b) 3 x)) ∧
  (∀ x, zpf M 1 4 (y + 2 + 2 * b) (.int x) false = some (zpI M (y + 2 + 2 * b) 4 x)) ∧
  (∀ x, zpf M 1 5 (y + 2 + 2 * b) (.int x) false = some (zpI M (y + 2 + 2 * b) 5 x)) ∧
  zgr M 1 6 (y + 2 + 2 * b) = some (some (y + 3 + 2 * b)) := by
  have hk := kB hy hb
  have hr : zRm (y + 2 + 2 * b) 6 = some (y + 3 + 2 * b) := by
    simp only [List.mem_cons, List.not_mem_nil, or_false] at hy
    have hz : b = 0 ∨ b = 1 ∨ b = 2 ∨ b = 3 ∨ b = 4 ∨ b = 5 := by omega
    rcases hy with rfl | rfl | rfl <;> rcases hz with rfl | rfl | rfl | rfl | rfl | rfl <;> decide +kernel
  exact ⟨zok_ly h hk, gI h hk (by decide), gI h hk (by decide), gI h hk (by decide), gI h hk (by decide), gI h hk (by decide), gI h hk (by decide), fun x => pI h hk (by decide) (by decide) (by decide), fun x => pI h hk (by decide) (by decide) (by decide), fun x => pI h hk (by decide) (by decide) (by decide), fun x => pI h hk (by decide) (by decide) (by decide), fun x => pI h hk (by decide) (by decide) (by decide), gR h hk (by decide) hr⟩
theorem cBs {y b : Nat} (hy : y ∈ [22, 49, 75]) (hb : b < 6) : zSh.getD (y + 3 + 2 * b) (0, 0) = (20, 4) := by
  simp only [List.mem_cons, List.not_mem_nil, or_false] at hy
  have hz : b = 0 ∨ b = 1 ∨ b = 2 ∨ b = 3 ∨ b = 4 ∨ b = 5 := by omega
  rcases hy with rfl | rfl | rfl <;> rcases hz with rfl | rfl | rfl | rfl | rfl | rfl <;> decide +kernel
theorem cBr {M : ZMem} (h : Ly M) {y b : Nat} {i : Int} (hy : y ∈ [22, 49, 75]) (hb : b < 6) (h0 : 0 ≤ i) (h1 : i < 4) : zai M (y + 3 + 2 * b) (ii i) = some (zI M (y + 3 + 2 * b) i.toNat) := by
  refine zai_ii h (n := 4) ?_ (cBs hy hb) (by omega) h0 (by omega)
  simp only [List.mem_cons, List.not_mem_nil, or_false] at hy
  omega
/-- the reference's own -/
theorem mX {M : ZMem} {s : ZSt} (h : Ly M) (hs : RM M s) :
  zok M 12 133 = true ∧
  zgi M 12 0 133 = some (ii (s 133 0)) ∧
  zgi M 12 1 133 = some (ii (s 133 1)) ∧
  zgi M 12 2 133 = some (ii (s 133 2)) ∧
  zgi M 12 9 133 = some (ii (s 133 9)) ∧
  zgi M 12 10 133 = some (ii (s 133 10)) ∧
  zgi M 12 11 133 = some (ii (s 133 11)) ∧
  zgi M 12 31 133 = some (ii (s 133 31)) ∧
  zgi M 12 37 133 = some (ii (s 133 37)) ∧
  zgi M 12 38 133 = some (ii (s 133 38)) ∧
  zgi M 12 42 133 = some (ii (s 133 42)) ∧
  zgi M 12 43 133 = some (ii (s 133 43)) ∧
  zgi M 12 48 133 = some (ii (s 133 48)) ∧
  zgi M 12 49 133 = some (ii (s 133 49)) ∧
  zgi M 12 50 133 = some (ii (s 133 50)) ∧
  zgi M 12 51 133 = some (ii (s 133 51)) ∧
  zgi M 12 52 133 = some (ii (s 133 52)) ∧
  zgi M 12 53 133 = some (ii (s 133 53)) ∧
  zgi M 12 54 133 = some (ii (s 133 54)) ∧
  zgi M 12 55 133 = some (ii (s 133 55)) ∧
  zgi M 12 69 133 = some (ii (s 133 69)) ∧
  zgi M 12 12 133 = some (zI M 133 12) ∧
  (∀ x, zpf M 12 12 133 (.int x) false = some (zpI M 133 12 x)) ∧
  zgi M 12 13 133 = some (zI M 133 13) ∧
  (∀ x, zpf M 12 13 133 (.int x) false = some (zpI M 133 13 x)) ∧
  zgi M 12 22 133 = some (zI M 133 22) ∧
  (∀ x, zpf M 12 22 133 (.int x) false = some (zpI M 133 22 x)) ∧
  zgi M 12 23 133 = some (zI M 133 23) ∧
  (∀ x, zpf M 12 23 133 (.int x) false = some (zpI M 133 23 x)) ∧
  zgi M 12 24 133 = some (zI M 133 24) ∧
  (∀ x, zpf M 12 24 133 (.int x) false = some (zpI M 133 24 x)) ∧
  zgr M 12 3 133 = some (some 134) ∧
  (∀ i : Int, 0 ≤ i → i < 6 → zai M 134 (ii i) = some (ii (s 134 i.toNat))) ∧
  zgr M 12 4 133 = some (some 135) ∧
  (∀ i : Int, 0 ≤ i → i < 6 → zai M 135 (ii i) = some (ii (s 135 i.toNat))) ∧
  zgr M 12 5 133 = some (some 136) ∧
  (∀ i : Int, 0 ≤ i → i < 6 → zai M 136 (ii i) = some (ii (s 136 i.toNat))) ∧
  zgr M 12 6 133 = some (some 137) ∧
  (∀ i : Int, 0 ≤ i → i < 6 → zai M 137 (ii i) = some (ii (s 137 i.toNat))) ∧
  zgr M 12 7 133 = some (some 138) ∧
  (∀ i : Int, 0 ≤ i → i < 6 → zai M 138 (ii i) = some (ii (s 138 i.toNat))) ∧
  zgr M 12 8 133 = some (some 139) ∧
  (∀ i : Int, 0 ≤ i → i < 24 → zai M 139 (ii i) = some (ii (s 139 i.toNat))) ∧
  zgr M 12 14 133 = some (some 140) ∧
  (∀ i : Int, 0 ≤ i → i < 100 → zai M 140 (ii i) = some (ii (s 140 i.toNat))) ∧
  zgr M 12 15 133 = some (some 141) ∧
  (∀ i : Int, 0 ≤ i → i < 6 → zai M 141 (ii i) = some (ii (s 141 i.toNat))) ∧
  zgr M 12 16 133 = some (some 142) ∧
  (∀ i : Int, 0 ≤ i → i < 60 → zai M 142 (ii i) = some (ii (s 142 i.toNat))) ∧
  zgr M 12 17 133 = some (some 143) ∧
  (∀ i : Int, 0 ≤ i → i < 60 → zai M 143 (ii i) = some (ii (s 143 i.toNat))) ∧
  zgr M 12 18 133 = some (some 144) ∧
  (∀ i : Int, 0 ≤ i → i < 60 → zai M 144 (ii i) = some (ii (s 144 i.toNat))) ∧
  zgr M 12 19 133 = some (some 145) ∧
  (∀ i : Int, 0 ≤ i → i < 60 → zai M 145 (ii i) = some (ii (s 145 i.toNat))) ∧
  zgr M 12 20 133 = some (some 146) ∧
  (∀ i : Int, 0 ≤ i → i < 600 → zai M 146 (ii i) = some (ii (s 146 i.toNat))) ∧
  zgr M 12 21 133 = some (some 147) ∧
  (∀ i : Int, 0 ≤ i → i < 101 → zai M 147 (ii i) = some (zI M 147 i.toNat)) ∧
  (∀ (i : Int) x, 0 ≤ i → i < 101 → zsa M 20 147 (ii i) x = some (zpI M 147 i.toNat x)) ∧
  zgr M 12 25 133 = some (some 148) ∧
  (∀ i : Int, 0 ≤ i → i < 22 → zai M 148 (ii i) = some (ii (s 148 i.toNat))) ∧
  zgr M 12 26 133 = some (some 149) ∧
  zgr M 12 27 133 = some (some 150) ∧
  (∀ i : Int, 0 ≤ i → i < 100 → zai M 150 (ii i) = some (zI M 150 i.toNat)) ∧
  (∀ (i : Int) x, 0 ≤ i → i < 100 → zsa M 20 150 (ii i) x = some (zpI M 150 i.toNat x)) ∧
  zgr M 12 28 133 = some (some 151) ∧
  (∀ i : Int, 0 ≤ i → i < 100 → zai M 151 (ii i) = some (zI M 151 i.toNat)) ∧
  (∀ (i : Int) x, 0 ≤ i → i < 100 → zsa M 20 151 (ii i) x = some (zpI M 151 i.toNat x)) ∧
  zgr M 12 29 133 = some (some 152) ∧
  (∀ i : Int, 0 ≤ i → i < 100 → zai M 152 (ii i) = some (zI M 152 i.toNat)) ∧
  (∀ (i : Int) x, 0 ≤ i → i < 100 → zsa M 20 152 (ii i) x = some (zpI M 152 i.toNat x)) ∧
  zgr M 12 30 133 = some (some 153) ∧
  (∀ i : Int, 0 ≤ i → i < 100 → zai M 153 (ii i) = some (zI M 153 i.toNat)) ∧
  (∀ (i : Int) x, 0 ≤ i → i < 100 → zsa M 20 153 (ii i) x = some (zpI M 153 i.toNat x)) ∧
  zgr M 12 32 133 = some (some 154) ∧
  (∀ i : Int, 0 ≤ i → i < 6 → zai M 154 (ii i) = some (ii (s 154 i.toNat))) ∧
  zgr M 12 33 133 = some (some 155) ∧
  (∀ i : Int, 0 ≤ i → i < 6 → zai M 155 (ii i) = some (ii (s 155 i.toNat))) ∧
  zgr M 12 34 133 = some (some 156) ∧
  (∀ i : Int, 0 ≤ i → i < 36 → zai M 156 (ii i) = some (ii (s 156 i.toNat))) ∧
  zgr M 12 35 133 = some (some 157) ∧
  (∀ i : Int, 0 ≤ i → i < 6 → zai M 157 (ii i) = some (ii (s 157 i.toNat))) ∧
  zgr M 12 36 133 = some (some 158) ∧
  (∀ i : Int, 0 ≤ i → i < 6 → zai M 158 (ii i) = some (ii (s 158 i.toNat))) ∧
  zgr M 12 39 133 = some (some 159) ∧
  (∀ i : Int, 0 ≤ i → i < 6 → zai M 159 (ii i) = some (ii (s 159 i.toNat))) ∧
  zgr M 12 40 133 = some (some 160) ∧
  (∀ i : Int, 0 ≤ i → i < 6 → zai M 160 (ii i) = some (ii (s 160 i.toNat))) ∧
  zgr M 12 41 133 = some (some 161) ∧
  zgr M 12 44 133 = some (some 162) ∧
  (∀ i : Int, 0 ≤ i → i < 10 → zai M 162 (ii i) = some (ii (s 162 i.toNat))) ∧
  zgr M 12 45 133 = some (some 163) ∧
  (∀ i : Int, 0 ≤ i → i < 10 → zai M 163 (ii i) = some (ii (s 163 i.toNat))) ∧
  zgr M 12 46 133 = some (some 164) ∧
  (∀ i : Int, 0 ≤ i → i < 8 → zai M 164 (ii i) = some (ii (s 164 i.toNat))) ∧
  zgr M 12 47 133 = some (some 165) ∧
  (∀ i : Int, 0 ≤ i → i < 8 → zai M 165 (ii i) = some (ii (s 165 i.toNat))) ∧
  zgr M 12 56 133 = some (some 166) ∧
  (∀ i : Int, 0 ≤ i → i < 6 → zai M 166 (ii i) = some (ii (s 166 i.toNat))) ∧
  zgr M 12 57 133 = some (some 167) ∧
  (∀ i : Int, 0 ≤ i → i < 6 → zai M 167 (ii i) = some (ii (s 167 i.toNat))) ∧
  zgr M 12 58 133 = some (some 168) ∧
  (∀ i : Int, 0 ≤ i → i < 6 → zai M 168 (ii i) = some (ii (s 168 i.toNat))) ∧
  zgr M 12 59 133 = some (some 169) ∧
  (∀ i : Int, 0 ≤ i → i < 6 → zai M 169 (ii i) = some (ii (s 169 i.toNat))) ∧
  zgr M 12 60 133 = some (some 170) ∧
  (∀ i : Int, 0 ≤ i → i < 6 → zai M 170 (ii i) = some (ii (s 170 i.toNat))) ∧
  zgr M 12 61 133 = some (some 171) ∧
  (∀ i : Int, 0 ≤ i → i < 24 → zai M 171 (ii i) = some (ii (s 171 i.toNat))) ∧
  zgr M 12 62 133 = some (some 172) ∧
  (∀ i : Int, 0 ≤ i → i < 6 → zai M 172 (ii i) = some (ii (s 172 i.toNat))) ∧
  zgr M 12 63 133 = some (some 173) ∧
  (∀ i : Int, 0 ≤ i → i < 6 → zai M 173 (ii i) = some (ii (s 173 i.toNat))) ∧
  zgr M 12 64 133 = some (some 174) ∧
  (∀ i : Int, 0 ≤ i → i < 10 → zai M 174 (ii i) = some (ii (s 174 i.toNat))) ∧
  zgr M 12 65 133 = some (some 175) ∧
  (∀ i : Int, 0 ≤ i → i < 10 → zai M 175 (ii i) = some (ii (s 175 i.toNat))) ∧
  zgr M 12 66 133 = some (some 176) ∧
  (∀ i : Int, 0 ≤ i → i < 8 → zai M 176 (ii i) = some (ii (s 176 i.toNat))) ∧
  zgr M 12 67 133 = some (some 177) ∧
  (∀ i : Int, 0 ≤ i → i < 8 → zai M 177 (ii i) = some (ii (s 177 i.toNat))) ∧
  zgr M 12 68 133 = some (some 178) ∧
  zgr M 12 70 133 = some (some 179) ∧
  (∀ i : Int, 0 ≤ i → i < 20 → zai M 179 (ii i) = some (ii (s 179 i.toNat))) ∧
  zgr M 12 71 133 = some (some 180) ∧
  (∀ i : Int, 0 ≤ i → i < 6 → zai M 180 (ii i) = some (ii (s 180 i.toNat))) ∧
  zgr M 12 72 133 = some (some 181) ∧
  (∀ i : Int, 0 ≤ i → i < 6 → zai M 181 (ii i) = some (ii (s 181 i.toNat))) ∧
  zgr M 12 73 133 = some (some 182) ∧
  zgr M 12 74 133 = some (some 183) :=
  ⟨zok_ly h k133,
  g133 h hs (by decide) (by decide),
  g133 h hs (by decide) (by decide),
  g133 h hs (by decide) (by decide),
  g133 h hs (by decide) (by decide),
  g133 h hs (by decide) (by decide),
  g133 h hs (by decide) (by decide),
  g133 h hs (by decide) (by decide),
  g133 h hs (by decide) (by decide),
  g133 h hs (by decide) (by decide),
  g133 h hs (by decide) (by decide),
  g133 h hs (by decide) (by decide),
  g133 h hs (by decide) (by decide),
  g133 h hs (by decide) (by decide),
  g133 h hs (by decide) (by decide),
  g133 h hs (by decide) (by decide),
  g133 h hs (by decide) (by decide),
  g133 h hs (by decide) (by decide),
  g133 h hs (by decide) (by decide),
  g133 h hs (by decide) (by decide),
  g133 h hs (by decide) (by decide),
  gI h k133 (by decide),
  fun x => pI h k133 (by decide) (by decide) (by decide),
  gI h k133 (by decide),
  fun x => pI h k133 (by decide) (by decide) (by decide),
  gI h k133 (by decide),
  fun x => pI h k133 (by decide) (by decide) (by decide),
  gI h k133 (by decide),
  fun x => pI h k133 (by decide) (by decide) (by decide),
  gI h k133 (by decide),
  fun x => pI h k133 (by decide) (by decide) (by decide),
  gR h k133 (by decide) (by decide +kernel),
  fun i h0 h1 => (zai_ii h (by omega) (n := 6) (by decide +kernel) (by omega) h0 h1).trans (congrArg some (hs 134 _ rfl)),
  gR h k133 (by decide) (by decide +kernel),
  fun i h0 h1 => (zai_ii h (by omega) (n := 6) (by decide +kernel) (by omega) h0 h1).trans (congrArg some (hs 135 _ rfl)),
  gR h k133 (by decide) (by decide +kernel),
  fun i h0 h1 => (zai_ii h (by omega) (n := 6) (by decide +kernel) (by omega) h0 h1).trans (congrArg some (hs 136 _ rfl)),
  gR h k133 (by decide) (by decide +kernel),
  fun i h0 h1 => (zai_ii h (by omega) (n := 6) (by decide +kernel) (by omega) h0 h1).trans (congrArg some (hs 137 _ rfl)),
  gR h k133 (by decide) (by decide +kernel),
  fun i h0 h1 => (zai_ii h (by omega) (n := 6) (by decide +kernel) (by omega) h0 h1).trans (congrArg some (hs 138 _ rfl)),
  gR h k133 (by decide) (by decide +kernel),
  fun i h0 h1 => (zai_ii h (by omega) (n := 24) (by decide +kernel) (by omega) h0 h1).trans (congrArg some (hs 139 _ rfl)),
  gR h k133 (by decide) (by decide +kernel),
  fun i h0 h1 => (zai_ii h (by omega) (n := 100) (by decide +kernel) (by omega) h0 h1).trans (congrArg some (hs 140 _ rfl)),
  gR h k133 (by decide) (by decide +kernel),
  fun i h0 h1 => (zai_ii h (by omega) (n := 6) (by decide +kernel) (by omega) h0 h1).trans (congrArg some (hs 141 _ rfl)),
  gR h k133 (by decide) (by decide +kernel),
  fun i h0 h1 => (zai_ii h (by omega) (n := 60) (by decide +kernel) (by omega) h0 h1).trans (congrArg some (hs 142 _ rfl)),
  gR h k133 (by decide) (by decide +kernel),
  fun i h0 h1 => (zai_ii h (by omega) (n := 60) (by decide +kernel) (by omega) h0 h1).trans (congrArg some (hs 143 _ rfl)),
  gR h k133 (by decide) (by decide +kernel),
  fun i h0 h1 => (zai_ii h (by omega) (n := 60) (by decide +kernel) (by omega) h0 h1).trans (congrArg some (hs 144 _ rfl)),
  gR h k133 (by decide) (by decide +kernel),
  fun i h0 h1 => (zai_ii h (by omega) (n := 60) (by decide +kernel) (by omega) h0 h1).trans (congrArg some (hs 145 _ rfl)),
  gR h k133 (by decide) (by decide +kernel),
  fun i h0 h1 => (zai_ii h (by omega) (n := 600) (by decide +kernel) (by omega) h0 h1).trans (congrArg some (hs 146 _ rfl)),
  gR h k133 (by decide) (by decide +kernel),
  fun i h0 h1 => zai_ii h (by omega) (n := 101) (by decide +kernel) (by omega) h0 h1,
  fun i x h0 h1 => zsa_ii h (by omega) (n := 101) (by decide +kernel) (by omega) h0 h1,
  gR h k133 (by decide) (by decide +kernel),
  fun i h0 h1 => (zai_ii h (by omega) (n := 22) (by decide +kernel) (by omega) h0 h1).trans (congrArg some (hs 148 _ rfl)),
  gR h k133 (by decide) (by decide +kernel),
  gR h k133 (by decide) (by decide +kernel),
  fun i h0 h1 => zai_ii h (by omega) (n := 100) (by decide +kernel) (by omega) h0 h1,
  fun i x h0 h1 => zsa_ii h (by omega) (n := 100) (by decide +kernel) (by omega) h0 h1,
  gR h k133 (by decide) (by decide +kernel),
  fun i h0 h1 => zai_ii h (by omega) (n := 100) (by decide +kernel) (by omega) h0 h1,
  fun i x h0 h1 => zsa_ii h (by omega) (n := 100) (by decide +kernel) (by omega) h0 h1,
  gR h k133 (by decide) (by decide +kernel),
  fun i h0 h1 => zai_ii h (by omega) (n := 100) (by decide +kernel) (by omega) h0 h1,
  fun i x h0 h1 => zsa_ii h (by omega) (n := 100) (by decide +kernel) (by omega) h0 h1,
  gR h k133 (by decide) (by decide +kernel),
  fun i h0 h1 => zai_ii h (by omega) (n := 100) (by decide +kernel) (by omega) h0 h1,
  fun i x h0 h1 => zsa_ii h (by omega) (n := 100) (by decide +kernel) (by omega) h0 h1,
  gR h k133 (by decide) (by decide +kernel),
  fun i h0 h1 => (zai_ii h (by omega) (n := 6) (by decide +kernel) (by omega) h0 h1).trans (congrArg some (hs 154 _ rfl)),
  gR h k133 (by decide) (by decide +kernel),
  fun i h0 h1 => (zai_ii h (by omega) (n := 6) (by decide +kernel) (by omega) h0 h1).trans (congrArg some (hs 155 _ rfl)),
  gR h k133 (by decide) (by decide +kernel),
  fun i h0 h1 => (zai_ii h (by omega) (n := 36) (by decide +kernel) (by omega) h0 h1).trans (congrArg some (hs 156 _ rfl)),
  gR h k133 (by decide) (by decide +kernel),
  fun i h0 h1 => (zai_ii h (by omega) (n := 6) (by decide +kernel) (by omega) h0 h1).trans (congrArg some (hs 157 _ rfl)),
  gR h k133 (by decide) (by decide +kernel),
  fun i h0 h1 => (zai_ii h (by omega) (n := 6) (by decide +kernel) (by omega) h0 h1).trans (congrArg some (hs 158 _ rfl)),
  gR h k133 (by decide) (by decide +kernel),
  fun i h0 h1 => (zai_ii h (by omega) (n := 6) (by decide +kernel) (by omega) h0 h1).trans (congrArg some (hs 159 _ rfl)),
  gR h k133 (by decide) (by decide +kernel),
  fun i h0 h1 => (zai_ii h (by omega) (n := 6) (by decide +kernel) (by omega) h0 h1).trans (congrArg some (hs 160 _ rfl)),
  gR h k133 (by decide) (by decide +kernel),
  gR h k133 (by decide) (by decide +kernel),
  fun i h0 h1 => (zai_ii h (by omega) (n := 10) (by decide +kernel) (by omega) h0 h1).trans (congrArg some (hs 162 _ rfl)),
  gR h k133 (by decide) (by decide +kernel),
  fun i h0 h1 => (zai_ii h (by omega) (n := 10) (by decide +kernel) (by omega) h0 h1).trans (congrArg some (hs 163 _ rfl)),
  gR h k133 (by decide) (by decide +kernel),
  fun i h0 h1 => (zai_ii h (by omega) (n := 8) (by decide +kernel) (by omega) h0 h1).trans (congrArg some (hs 164 _ rfl)),
  gR h k133 (by decide) (by decide +kernel),
  fun i h0 h1 => (zai_ii h (by omega) (n := 8) (by decide +kernel) (by omega) h0 h1).trans (congrArg some (hs 165 _ rfl)),
  gR h k133 (by decide) (by decide +kernel),
  fun i h0 h1 => (zai_ii h (by omega) (n := 6) (by decide +kernel) (by omega) h0 h1).trans (congrArg some (hs 166 _ rfl)),
  gR h k133 (by decide) (by decide +kernel),
  fun i h0 h1 => (zai_ii h (by omega) (n := 6) (by decide +kernel) (by omega) h0 h1).trans (congrArg some (hs 167 _ rfl)),
  gR h k133 (by decide) (by decide +kernel),
  fun i h0 h1 => (zai_ii h (by omega) (n := 6) (by decide +kernel) (by omega) h0 h1).trans (congrArg some (hs 168 _ rfl)),
  gR h k133 (by decide) (by decide +kernel),
  fun i h0 h1 => (zai_ii h (by omega) (n := 6) (by decide +kernel) (by omega) h0 h1).trans (congrArg some (hs 169 _ rfl)),
  gR h k133 (by decide) (by decide +kernel),
  fun i h0 h1 => (zai_ii h (by omega) (n := 6) (by decide +kernel) (by omega) h0 h1).trans (congrArg some (hs 170 _ rfl)),
  gR h k133 (by decide) (by decide +kernel),
  fun i h0 h1 => (zai_ii h (by omega) (n := 24) (by decide +kernel) (by omega) h0 h1).trans (congrArg some (hs 171 _ rfl)),
  gR h k133 (by decide) (by decide +kernel),
  fun i h0 h1 => (zai_ii h (by omega) (n := 6) (by decide +kernel) (by omega) h0 h1).trans (congrArg some (hs 172 _ rfl)),
  gR h k133 (by decide) (by decide +kernel),
  fun i h0 h1 => (zai_ii h (by omega) (n := 6) (by decide +kernel) (by omega) h0 h1).trans (congrArg some (hs 173 _ rfl)),
  gR h k133 (by decide) (by decide +kernel),
  fun i h0 h1 => (zai_ii h (by omega) (n := 10) (by decide +kernel) (by omega) h0 h1).trans (congrArg some (hs 174 _ rfl)),
  gR h k133 (by decide) (by decide +kernel),
  fun i h0 h1 => (zai_ii h (by omega) (n := 10) (by decide +kernel) (by omega) h0 h1).trans (congrArg some (hs 175 _ rfl)),
  gR h k133 (by decide) (by decide +kernel),
  fun i h0 h1 => (zai_ii h (by omega) (n := 8) (by decide +kernel) (by omega) h0 h1).trans (congrArg some (hs 176 _ rfl)),
  gR h k133 (by decide) (by decide +kernel),
  fun i h0 h1 => (zai_ii h (by omega) (n := 8) (by decide +kernel) (by omega) h0 h1).trans (congrArg some (hs 177 _ rfl)),
  gR h k133 (by decide) (by decide +kernel),
  gR h k133 (by decide) (by decide +kernel),
  fun i h0 h1 => (zai_ii h (by omega) (n := 20) (by decide +kernel) (by omega) h0 h1).trans (congrArg some (hs 179 _ rfl)),
  gR h k133 (by decide) (by decide +kernel),
  fun i h0 h1 => (zai_ii h (by omega) (n := 6) (by decide +kernel) (by omega) h0 h1).trans (congrArg some (hs 180 _ rfl)),
  gR h k133 (by decide) (by decide +kernel),
  fun i h0 h1 => (zai_ii h (by omega) (n := 6) (by decide +kernel) (by omega) h0 h1).trans (congrArg some (hs 181 _ rfl)),
  gR h k133 (by decide) (by decide +kernel),
  gR h k133 (by decide) (by decide +kernel)⟩
/-- answers of tests -/
def bz (P : Prop) [Decidable P] : Int32 := if P then 1 else 0
theorem bz0 (P : Prop) [Decidable P] : (bz P = ii 0) = ¬ P := by
  unfold bz
  by_cases h : P
  · rw [if_pos h]; simp only [h]; exact propext ⟨fun q => absurd q (by decide), fun q => absurd trivial q⟩
  · rw [if_neg h]; simp only [h]; exact propext ⟨fun _ q => q, fun _ => rfl⟩
theorem bz1 (P : Prop) [Decidable P] : (bz P = ii 1) = P := by
  unfold bz
  by_cases h : P
  · rw [if_pos h]; simp only [h]; exact propext ⟨fun _ => trivial, fun _ => rfl⟩
  · rw [if_neg h]; simp only [h]; exact propext ⟨fun q => absurd q (by decide), fun q => q.elim⟩
theorem bzi (P : Prop) [Decidable P] : bz P = ii (if P then 1 else 0) := by
  unfold bz
  by_cases h : P
  · rw [if_pos h, if_pos h]; rfl
  · rw [if_neg h, if_neg h]; rfl
theorem bzn (P : Prop) [Decidable P] : (narrow .boolean (.int (bz P)) = .int (bz P)) = True := eq_true (nb01 P)
theorem c14z {M : ZMem} {a b c : Int} (ha : -2147483648 ≤ a ∧ a < 2147483648) (hb : -2147483648 ≤ b ∧ b < 2147483648) (hc : -2147483648 ≤ c ∧ c < 2147483648) : f_14 M (ii a) (ii b) (ii c) = some (bz (b ≤ a ∧ a ≤ c)) := c14i ha hb hc
theorem c147z {M : ZMem} (h : Ly M) {a b c : Int} (ha : -2147483648 ≤ a ∧ a < 2147483648) (hb : -2147483648 ≤ b ∧ b < 2147483648) (hc : -2147483648 ≤ c ∧ c < 2147483648) : f_147 M 133 (ii a) (ii b) (ii c) = some (bz (b ≤ a ∧ a ≤ c)) := c147i h ha hb hc
theorem c149z {M : ZMem} {s : ZSt} (h : Ly M) (hs : RM M s) (hi : SIn s) {b : Int} (hb : -2147483648 ≤ b ∧ b < 2147483648) : f_149 M 133 (ii b) = some (bz (0 ≤ b ∧ b < s 133 0)) := c149 h hs hi hb
theorem c179z {M : ZMem} (h : Ly M) {a b : Int} (ha : -2147483648 ≤ a ∧ a < 2147483648) (hb : -2147483648 ≤ b ∧ b < 2147483648) : f_179 M 133 (ii a) (ii b) = some (ii (max a b)) := by
  unfold f_179
  rw [if_pos (zok_ly h k133)]
  by_cases c : a ≤ b
  · rw [if_pos (by rw [ii_le ha hb]; exact c), show max a b = b by omega]
  · rw [if_neg (by rw [ii_le ha hb]; exact c), show max a b = a by omega]
/-- literals -/
theorem lt (n : Nat) : (@OfNat.ofNat Int32 n _) = ii (n : Int) := rfl
