/-! THE STATE: cells of the reference's own rows, as whole numbers; what the class's places hold of them -/
abbrev ZSt : Type := Nat → Nat → Int
def up (s : ZSt) (p k : Nat) (v : Int) : ZSt := fun a b => if a = p ∧ b = k then v else s a b
theorem up_eq (s : ZSt) (p k : Nat) (v : Int) (a b : Nat) : up s p k v a b = if a = p ∧ b = k then v else s a b := rfl
theorem up_ne {s : ZSt} {p k : Nat} {v : Int} {a b : Nat} (h : a ≠ p) : up s p k v a b = s a b := if_neg (fun q => h q.1)
theorem up_nk {s : ZSt} {p k : Nat} {v : Int} {a b : Nat} (h : b ≠ k) : up s p k v a b = s a b := if_neg (fun q => h q.2)
theorem up_at {s : ZSt} {p k : Nat} {v : Int} : up s p k v p k = v := if_pos ⟨rfl, rfl⟩
theorem zI_ne {M : ZMem} {p k : Nat} {v : Int32} {a b : Nat} (h : a ≠ p) : zI (zpI M p k v) a b = zI M a b := if_neg (fun q => h q.1)
theorem zI_nk {M : ZMem} {p k : Nat} {v : Int32} {a b : Nat} (h : b ≠ k) : zI (zpI M p k v) a b = zI M a b := if_neg (fun q => h q.2)
theorem zI_at {M : ZMem} {p k : Nat} {v : Int32} : zI (zpI M p k v) p k = v := if_pos ⟨rfl, rfl⟩
/-- the cells that are the reference's state; the others are its workplaces -/
def zst (p j : Nat) : Bool := decide (133 ≤ p) && !(p == 147 || (decide (149 ≤ p) && decide (p ≤ 153)) || p == 183) && (p != 133 || !(j == 12 || j == 13 || j == 22 || j == 23 || j == 24))
def RM (M : ZMem) (s : ZSt) : Prop := ∀ p j, zst p j = true → zI M p j = ii (s p j)
theorem RM_up {M : ZMem} {s : ZSt} (h : RM M s) (p k : Nat) (v : Int) : RM (zpI M p k (ii v)) (up s p k v) := by
  intro a b hab
  rw [zI_pI, up_eq]
  split
  · rfl
  · exact h a b hab
theorem RM_scr {M : ZMem} {s : ZSt} (h : RM M s) {p k : Nat} {v : Int32} (hp : zst p k = false) : RM (zpI M p k v) s := by
  intro a b hab
  rw [zI_pI, if_neg]
  · exact h a b hab
  · rintro ⟨rfl, rfl⟩; rw [hp] at hab; cases hab
/-- one side's places are as they were -/
def Up (M M' : ZMem) : Prop := ∀ p, 133 ≤ p → (∀ j, zI M' p j = zI M p j) ∧ ∀ j, zL M' p j = zL M p j
def Dn (M M' : ZMem) : Prop := (∀ p, p < 133 → (∀ j, zI M' p j = zI M p j) ∧ (∀ j, zL M' p j = zL M p j) ∧ ∀ j, zR M' p j = zR M p j) ∧ ∀ j, zL M' 182 j = zL M 182 j
theorem Up.rf (M : ZMem) : Up M M := fun _ _ => ⟨fun _ => rfl, fun _ => rfl⟩
theorem Up.tr {M M1 M2 : ZMem} (h : Up M M1) (h' : Up M1 M2) : Up M M2 := fun p hp => ⟨fun j => ((h' p hp).1 j).trans ((h p hp).1 j), fun j => ((h' p hp).2 j).trans ((h p hp).2 j)⟩
theorem Up.pI {M M1 : ZMem} (h : Up M M1) {p k : Nat} {v : Int32} (hp : p < 133) : Up M (zpI M1 p k v) := fun a ha => ⟨fun j => (zI_ne (by omega)).trans ((h a ha).1 j), fun j => (h a ha).2 j⟩
theorem Up.rm {M M1 : ZMem} {s : ZSt} (h : Up M M1) (hr : RM M s) : RM M1 s := by
  intro p j hp
  have h1 : 133 ≤ p := by
    unfold zst at hp
    simp only [Bool.and_eq_true, decide_eq_true_eq] at hp
    exact hp.1.1
  rw [(h p h1).1 j]; exact hr p j hp
theorem Dn.rf (M : ZMem) : Dn M M := ⟨fun _ _ => ⟨fun _ => rfl, fun _ => rfl, fun _ => rfl⟩, fun _ => rfl⟩
theorem Dn.tr {M M1 M2 : ZMem} (h : Dn M M1) (h' : Dn M1 M2) : Dn M M2 := ⟨fun p hp => ⟨fun j => ((h'.1 p hp).1 j).trans ((h.1 p hp).1 j), fun j => ((h'.1 p hp).2.1 j).trans ((h.1 p hp).2.1 j), fun j => ((h'.1 p hp).2.2 j).trans ((h.1 p hp).2.2 j)⟩, fun j => (h'.2 j).trans (h.2 j)⟩
theorem Dn.pI {M M1 : ZMem} (h : Dn M M1) {p k : Nat} {v : Int32} (hp : 133 ≤ p) : Dn M (zpI M1 p k v) := ⟨fun a ha => ⟨fun j => (zI_ne (by omega)).trans ((h.1 a ha).1 j), fun j => (h.1 a ha).2.1 j, fun j => (h.1 a ha).2.2 j⟩, h.2⟩
/-- a block: of the state (0) or of the image (32) -/
def Bk (M : ZMem) (s : ZSt) (D o b : Nat) : Prop := (zI M o 1 = ii (s (134 + D) b) ∧ zI M o 2 = ii (s (135 + D) b) ∧ zI M o 3 = ii (s (136 + D) b) ∧ zI M o 4 = ii (s (137 + D) b) ∧ zI M o 5 = ii (s (138 + D) b)) ∧ ∀ r, r < 4 → zI M (o + 1) r = ii (s (139 + D) (4 * b + r))
def RCy (M : ZMem) (s : ZSt) : Prop := zI M 22 1 = ii (s 133 0) ∧ zI M 22 2 = ii (s 133 2) ∧ zI M 22 3 = ii (s 133 1) ∧ zI M 22 4 = ii (s 133 10)
def RCb (M : ZMem) (s : ZSt) : Prop := ∀ b : Nat, (b : Int) < s 133 0 → Bk M s 0 (24 + 2 * b) b
/-- what stays: numbers of blocks, limits, no hill, ABOVE, texts, letters -/
def zCt : List (Nat × Nat × Int32) := (zIt.filter fun e => e.1 < 20 || e.1 == 148 || e.1 == 91 || (e.2.1 == 0 && (e.1 ∈ [24, 26, 28, 30, 32, 34, 51, 53, 55, 57, 59, 61, 77, 79, 81, 83, 85, 87, 36, 40, 44, 63, 67, 71])))
def RCc (M : ZMem) : Prop := ∀ e ∈ zCt, zI M e.1 e.2.1 = e.2.2
def RCs (M : ZMem) (s : ZSt) : Prop := zI M 36 4 = ii (s 133 38) ∧ ∀ k : Nat, (k : Int) < s 133 38 → zI M 37 k = ii (s 159 k) ∧ zI M 38 k = ii (s 160 k) ∧ zI M 39 k = ii (s 161 k)
def RCw (M : ZMem) (s : ZSt) : Prop := zI M 40 4 = ii (s 133 42) ∧ ∀ k : Nat, (k : Int) < s 133 42 → zI M 41 k = ii (s 162 k) ∧ (0 < s 162 k → zI M 42 k = ii (s 163 k))
def RCk (M : ZMem) (s : ZSt) : Prop := zI M 44 4 = ii (s 133 43) ∧ ∀ k : Nat, (k : Int) < s 133 43 → zI M 45 k = ii (s 164 k) ∧ zI M 46 k = ii (s 165 k)
def RCt (M : ZMem) (s : ZSt) : Prop := zI M 20 5 = ii (s 133 11) ∧ zI M 20 7 = ii (s 133 9) ∧ ∀ k : Nat, (k : Int) < s 133 11 → zI M 89 k = ii (s 140 k)
def RCi (M : ZMem) (s : ZSt) : Prop := zI M 20 2 = ii (s 133 48) ∧ (s 133 48 = 1 → (zI M 49 1 = ii (s 133 50) ∧ zI M 49 2 = ii (s 133 52) ∧ zI M 49 3 = ii (s 133 51) ∧ zI M 49 4 = ii (s 133 49)) ∧ (∀ b : Nat, (b : Int) < s 133 50 → Bk M s 32 (51 + 2 * b) b) ∧
  (zI M 63 4 = ii (s 133 53) ∧ ∀ k : Nat, (k : Int) < s 133 53 → zI M 64 k = ii (s 172 k) ∧ zI M 65 k = ii (s 173 k) ∧ zI M 66 k = ii (s 178 k)) ∧
  (zI M 67 4 = ii (s 133 54) ∧ ∀ k : Nat, (k : Int) < s 133 54 → zI M 68 k = ii (s 174 k) ∧ (0 < s 174 k → zI M 69 k = ii (s 175 k))) ∧
  (zI M 71 4 = ii (s 133 55) ∧ ∀ k : Nat, (k : Int) < s 133 55 → zI M 72 k = ii (s 176 k) ∧ zI M 73 k = ii (s 177 k)))
def RCa (M : ZMem) (s : ZSt) : Prop := zI M 106 1 = ii (s 133 69) ∧ ∀ k : Nat, (k : Int) < s 133 69 → k < 20 → zI M 107 k = ii (s 179 k)
/-- the clauses of a hill as steps: signs of the reference's row, each as the class writes it -/
def zfl (f : Int) : Int := if f = 0 then 98 else if f = 1 then 107 else if f = 2 then 118 else if f = 3 then 116 else if f = 4 then 100 else 121
def zstep1 (t : Int) : Int := if t = -33 then 16777216 else if t = -38 then 33554432 else if t < 0 then 50331648 else zfl (t / 1000) * 65536 + (60 + t / 100 % 10) * 256 + t % 100
/-- the steps of clauses, from a clause on -/
def zstc (s : ZSt) (c : Nat) : List Int := if s 142 c ≤ 1 then ((List.range (s 145 c - s 144 c).toNat).map fun k => zstep1 (s 146 ((s 144 c).toNat + k))) ++ [(if s 142 c = 0 then 67108864 else 83886080) + s 143 c] else []
def zstl (s : ZSt) (c : Nat) : Nat → List Int
  | 0 => []
  | n + 1 => zstc s c ++ zstl s (c + 1) n
/-- the last number told by a clause of that word -/
def zlst (s : ZSt) (w : Int) (c : Nat) : Nat → Int → Int
  | 0, x => x
  | n + 1, x => zlst s w (c + 1) n (if s 142 c = w then s 143 c else x)
def Hl (M : ZMem) (s : ZSt) (h : Nat) : Prop := zI M (109 + 2 * h) 1 = ii (zstl s (10 * h) (s 141 h).toNat).length ∧ (∀ k : Nat, k < (zstl s (10 * h) (s 141 h).toNat).length → zI M (110 + 2 * h) k = ii ((zstl s (10 * h) (s 141 h).toNat).getD k 0)) ∧
  zI M (109 + 2 * h) 2 = ii (zlst s 2 (10 * h) (s 141 h).toNat 2) ∧ zI M (109 + 2 * h) 3 = ii (zlst s 3 (10 * h) (s 141 h).toNat 5) ∧ zI M (109 + 2 * h) 4 = ii (zlst s 4 (10 * h) (s 141 h).toNat 1)
def RCh (M : ZMem) (s : ZSt) : Prop := ∀ h : Nat, (h : Int) < s 133 9 → Hl M s h
def RCp (M : ZMem) (s : ZSt) (l : Nat → Int64) : Prop := ∀ t, t < 6 → zI M (121 + 2 * t) 1 = ii (s 180 t) ∧ zI M (121 + 2 * t) 2 = ii (s 181 t) ∧ (0 ≤ s 180 t → ∀ j, j < 60 → zL M (122 + 2 * t) j = l (60 * t + j))
def RC (M : ZMem) (s : ZSt) (l : Nat → Int64) : Prop := (RCy M s ∧ RCb M s ∧ RCc M) ∧ (RCs M s ∧ RCw M s ∧ RCk M s) ∧ RCt M s ∧ RCi M s ∧ RCa M s ∧ RCh M s ∧ RCp M s l
/-- a block's numbers -/
def SBk (s : ZSt) (D b : Nat) : Prop := (0 ≤ s (134 + D) b ∧ s (134 + D) b ≤ 6) ∧ (0 ≤ s (135 + D) b ∧ s (135 + D) b ≤ 9) ∧ (0 ≤ s (136 + D) b ∧ s (136 + D) b ≤ 60) ∧ (0 ≤ s (137 + D) b ∧ s (137 + D) b ≤ 99) ∧ (0 ≤ s (138 + D) b ∧ s (138 + D) b ≤ 9999) ∧ ∀ r, r < 4 → 0 ≤ s (139 + D) (4 * b + r) ∧ s (139 + D) (4 * b + r) ≤ 9
/-- the bounds of the state; n: blocks, 0: the state, 32 and 50 - 0: the image -/
def SIn (s : ZSt) : Prop := (0 ≤ s 133 0 ∧ s 133 0 ≤ 6) ∧ (0 ≤ s 133 1 ∧ s 133 1 ≤ 20000) ∧ (0 ≤ s 133 2 ∧ s 133 2 ≤ 999999) ∧ (0 ≤ s 133 9 ∧ s 133 9 ≤ 6) ∧ (-1 ≤ s 133 10 ∧ s 133 10 < s 133 9) ∧ (0 ≤ s 133 11 ∧ s 133 11 ≤ 100) ∧ (0 ≤ s 133 38 ∧ s 133 38 ≤ 6) ∧ (0 ≤ s 133 42 ∧ s 133 42 ≤ 10) ∧ (0 ≤ s 133 43 ∧ s 133 43 ≤ 8) ∧ (s 133 48 = 0 ∨ s 133 48 = 1) ∧ (0 ≤ s 133 69 ∧ s 133 69 ≤ 100)
def SIb (s : ZSt) : Prop := ∀ b : Nat, (b : Int) < s 133 0 → SBk s 0 b
