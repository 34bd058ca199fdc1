/-! ORDER, the reference's call -/
/-- workplaces laid over a state -/
def ov (g : ZSt) (c : Int) (t : ZSt) : ZSt := fun p j => if 156 ≤ p ∧ p ≤ 158 then g p j else if p = 133 ∧ j = 37 then c else t p j
theorem ov_g {g : ZSt} {c : Int} {t : ZSt} {p : Nat} (h : 156 ≤ p ∧ p ≤ 158) : ov g c t p = g p := funext fun j => if_pos h
theorem ov_37 {g : ZSt} {c : Int} {t : ZSt} : ov g c t 133 37 = c := by
  unfold ov
  rw [if_neg (by omega), if_pos ⟨rfl, rfl⟩]
theorem ov_o {g : ZSt} {c : Int} {t : ZSt} {p : Nat} (h : p ≠ 133) (h2 : p < 156 ∨ 158 < p) : ov g c t p = t p := funext fun j => by
  unfold ov
  rw [if_neg (by omega), if_neg (fun q => h q.1)]
theorem ov_j {g : ZSt} {c : Int} {t : ZSt} {j : Nat} (h : j ≠ 37) : ov g c t 133 j = t 133 j := by
  unfold ov
  rw [if_neg (by omega), if_neg (fun q => h q.2)]
theorem ov_ev (g : ZSt) (c : Int) (t : ZSt) : EV t (ov g c t) := ⟨fun p a b => ov_o a (by omega), fun j a b => ov_j b⟩
theorem up_ov {g : ZSt} {c : Int} {t : ZSt} {p j : Nat} {v : Int} (h : 156 ≤ p ∧ p ≤ 158) : up (ov g c t) p j v = ov (up g p j v) c t := by
  refine up_ext fun a b => ?_
  simp only [up_eq, ov]
  repeat' split
  all_goals first | rfl | omega
theorem up_37 {g : ZSt} {c v : Int} {t : ZSt} : up (ov g c t) 133 37 v = ov g v t := by
  refine up_ext fun a b => ?_
  simp only [up_eq, ov]
  repeat' split
  all_goals first | rfl | omega
theorem ov_self (t : ZSt) (v : Int) : up t 133 37 v = ov t v t := by
  refine up_ext fun a b => ?_
  simp only [up_eq, ov]
  repeat' split
  all_goals first | rfl | omega
theorem gd_ev {s s' : ZSt} (e : EV s s') (n : Int) (b : Nat) : gd s' n b = gd s n b := by
  unfold gd drs
  rw [e.1 136 (by omega) (by omega), e.1 137 (by omega) (by omega), e.1 134 (by omega) (by omega), e.ah.tm.2.2]
theorem go_ov {g : ZSt} {c n : Int} {t : ZSt} : goS (ov g c t) n = ov g c (goS t n) := by
  refine up_ext fun p j => ?_
  show (if p = 137 ∧ (j : Int) < ov g c t 133 0 then gd (ov g c t) n j else if p = 133 ∧ j = 1 then ov g c t 133 1 + n else ov g c t p j) = (if 156 ≤ p ∧ p ≤ 158 then g p j else if p = 133 ∧ j = 37 then c else if p = 137 ∧ (j : Int) < t 133 0 then gd t n j else if p = 133 ∧ j = 1 then t 133 1 + n else t p j)
  rw [gd_ev (ov_ev g c t), ov_j (by omega), ov_j (by omega)]
  by_cases a : p = 137 ∧ (j : Int) < t 133 0
  · rw [if_pos a, if_neg (by omega), if_neg (by omega), if_pos a]
  · rw [if_neg a]
    by_cases b : p = 133 ∧ j = 1
    · rw [if_pos b, if_neg (by omega), if_neg (by omega), if_neg a, if_pos b]
    · rw [if_neg b, if_neg a, if_neg b]
      rfl
theorem pb_ov {g : ZSt} {c : Int} {t : ZSt} : pbS (ov g c t) = ov g c (pbS t) := by
  refine up_ext fun p j => ?_
  show (if p = 136 ∧ j < 6 then ov g c t 154 j else if p = 137 ∧ j < 6 then ov g c t 155 j else if p = 133 ∧ j = 1 then ov g c t 133 31 else ov g c t p j) = (if 156 ≤ p ∧ p ≤ 158 then g p j else if p = 133 ∧ j = 37 then c else if p = 136 ∧ j < 6 then t 154 j else if p = 137 ∧ j < 6 then t 155 j else if p = 133 ∧ j = 1 then t 133 31 else t p j)
  rw [ov_o (p := 154) (by omega) (by omega), ov_o (p := 155) (by omega) (by omega), ov_j (j := 31) (by omega)]
  by_cases a : p = 136 ∧ j < 6
  · rw [if_pos a, if_neg (by omega), if_neg (by omega), if_pos a]
  · rw [if_neg a]
    by_cases b : p = 137 ∧ j < 6
    · rw [if_pos b, if_neg (by omega), if_neg (by omega), if_neg a, if_pos b]
    · rw [if_neg b]
      by_cases d : p = 133 ∧ j = 1
      · rw [if_pos d, if_neg (by omega), if_neg (by omega), if_neg a, if_neg b, if_pos d]
      · rw [if_neg d, if_neg a, if_neg b, if_neg d]
        rfl
def GF (s : ZSt) (k i : Nat) (g : ZSt) : Prop := ∀ a e : Nat, (a : Int) < s 133 0 → (e < k ∨ (e = k ∧ a < i)) → e < 6 → g 156 (6 * e + a) = oW s a e
theorem IV_ib {s : ZSt} (hV : IV s) (n : Nat) (hn : n ≤ 6) : SIn (goS s (n : Int)) ∧ SH (goS s (n : Int)) ∧ SIb (goS s (n : Int)) := by
  have hd := hV.1.2.1
  exact ⟨goS_in hV.1.1.1 (by omega) (by omega), (goS_ah s _).sh hV.1.2.2.2, goS_ib hV.1.1.1 hV.1.2.2.2 hV.1.2.2.1 (by omega)⟩
theorem SI_ov {g : ZSt} {c : Int} {t : ZSt} (h : SIn t ∧ SH t ∧ SIb t) : SIn (ov g c t) ∧ SH (ov g c t) ∧ SIb (ov g c t) := ⟨SIn_ev h.1 (ov_ev g c t), (ov_ev g c t).ah.sh h.2.1, SIb_ev h.2.2 (ov_ev g c t)⟩
/-- one day's worths -/
theorem m202i {M0 : ZMem} {s : ZSt} (hV : IV s) {r : ZMem → Nat → Int32 → Option ZMem} {c : Int} {k : Nat} (hk : k < 6) {Q : Option ZMem → Prop} (next : ∀ M1 g, MS M0 M1 (ov g c (goS s ((k + 1 : Nat) : Int))) → GF s (k + 1) 0 g → Q (r M1 133 (ii ((k + 1 : Nat) : Int)))) : ∀ (n z i : Nat) (M : ZMem) (g : ZSt), MS M0 M (ov g c (goS s (k : Int))) → GF s k i g → (i : Int) + (n : Nat) = s 133 0 → n < z → Q (f_202_60 r z M 133 (ii (k : Int)) (ii (i : Int))) := by
  have h0 := hV.1.1.1.1
  obtain ⟨w1, w2, w3⟩ := IV_ib hV k (by omega)
  intro n
  induction n with
  | zero =>
    intro z i M g h hG e hz
    obtain ⟨w, rfl⟩ : ∃ w, z = w + 1 := ⟨z - 1, by omega⟩
    have e0 : ov g c (goS s (k : Int)) 133 0 = s 133 0 := (ov_j (by omega)).trans (goS_o (by omega) (by omega))
    obtain ⟨v1, v2, v3⟩ := SI_ov (g := g) (c := c) ⟨w1, w2, w3⟩
    obtain ⟨M1, q1, q2⟩ := m196 h v1 v2 v3
    rw [go_ov, goS_n hV.1.1.1 hV.1.2.2.2] at q2
    rw [f_202_60, rFx h (j := 0) (by decide) rfl e0, zb_some, if_pos (show ii (s 133 0) ≤ ii (i : Int) by rw [ii_le (by omega) (by omega)]; omega), q1, zb_some, ii_s1]
    exact next M1 g q2 (fun a b a1 a2 a3 => hG a b a1 (by omega) a3)
  | succ n ih =>
    intro z i M g h hG e hz
    obtain ⟨w, rfl⟩ : ∃ w, z = w + 1 := ⟨z - 1, by omega⟩
    have e0 : ov g c (goS s (k : Int)) 133 0 = s 133 0 := (ov_j (by omega)).trans (goS_o (by omega) (by omega))
    have hib : (i : Int) < s 133 0 := by omega
    obtain ⟨v1, v2, v3⟩ := SI_ov (g := g) (c := c) ⟨w1, w2, w3⟩
    obtain ⟨M1, q1, q2⟩ := c189 (RK_of v1 v2 v3 (n := i) (by rw [e0]; exact hib)) h
    rw [tB_ev (ov_ev g c _), thk_ev (ov_ev g c _)] at q1
    have ew : tB (goS s (k : Int)) i (thk (goS s (k : Int)) i) = oW s i k := by
      unfold oW
      rw [if_pos ⟨hib, by omega⟩]
    rw [ew] at q1
    have ei : (6 : Int32) * ii (k : Int) + ii (i : Int) = ii ((6 * k + i : Nat) : Int) := by
      rw [show (6 : Int32) = ii 6 from rfl, ii_mul, ii_add]
      rfl
    obtain ⟨M2, r1, r2⟩ := wNn q2 (P := 156) (n := 36) (b := 6 * k + i) (x := oW s i k) (by decide) (by omega) (by omega)
    rw [up_ov (by omega)] at r2
    rw [f_202_60, rFx h (j := 0) (by decide) rfl e0, zb_some, if_neg (show ¬ ii (s 133 0) ≤ ii (i : Int) by rw [ii_le (by omega) (by omega)]; omega), rP h (j := 34) (P := 156) (by decide) (by decide +kernel), zb_some, q1, zbd_some, zb_some, ei, r1, zb_some, ii_s1]
    refine ih w (i + 1) M2 _ r2 (fun a b a1 a2 a3 => ?_) (by omega) (by omega)
    by_cases f : a = i ∧ b = k
    · rw [f.1, f.2, up_at]
    · rw [up_nk (by omega)]
      exact hG a b a1 (by omega) a3
theorem m202d {M0 : ZMem} {s : ZSt} (hV : IV s) {m : Nat} (hm : m ≤ 6) (hp : pbS (goS s (m : Int)) = s) : ∀ (n z k : Nat) (M : ZMem) (g : ZSt), MS M0 M (ov g (m : Int) (goS s (k : Int))) → GF s k 0 g → k + n = m → n < z → ∃ g' M', f_202_50 z M 133 (ii (k : Int)) = some M' ∧ MS M0 M' (ov g' (m : Int) s) ∧ GF s m 0 g' := by
  have h0 := hV.1.1.1.1
  intro n
  induction n with
  | zero =>
    intro z k M g h hG e hz
    obtain ⟨w, rfl⟩ : ∃ w, z = w + 1 := ⟨z - 1, by omega⟩
    have ek : k = m := by omega
    subst ek
    obtain ⟨M1, q1, q2⟩ := m199 h
    rw [pb_ov, hp] at q2
    refine ⟨g, M1, ?_, q2, hG⟩
    rw [f_202_50, rFx h (j := 37) (by decide) rfl ov_37, zb_some, if_pos (show ii (k : Int) ≤ ii (k : Int) by rw [ii_le (by omega) (by omega)]; omega), q1, zb_some]
  | succ n ih =>
    intro z k M g h hG e hz
    obtain ⟨w, rfl⟩ : ∃ w, z = w + 1 := ⟨z - 1, by omega⟩
    rw [f_202_50, rFx h (j := 37) (by decide) rfl ov_37, zb_some, if_neg (show ¬ ii (m : Int) ≤ ii (k : Int) by rw [ii_le (by omega) (by omega)]; omega)]
    exact m202i hV (r := fun M a0 a1 => f_202_50 w M a0 a1) (k := k) (by omega) (Q := fun t => ∃ g' M', t = some M' ∧ MS M0 M' (ov g' (m : Int) s) ∧ GF s m 0 g') (fun M1 g1 h1 G1 => ih w (k + 1) M1 g1 h1 G1 (by omega) (by omega)) (s 133 0).toNat zF 0 M g h hG (by omega) (by unfold zF; omega)
theorem pc_or : ∀ S : Nat, S < 64 → ∀ d : Nat, d < 6 → bt S d = false → pc (S ||| 2 ^ d) = pc S + 1 := by decide +kernel
theorem m202c {M0 : ZMem} {s : ZSt} (hV : IV s) (hp : ∀ n : Int, pbS (goS s n) = s) : ∀ (n z i : Nat) (M : ZMem), MS M0 M (ov s ((pc (opm s i) : Nat) : Int) s) → (i : Int) + (n : Nat) = s 133 0 → n < z → ∃ g' M', f_202_11 z M 133 (ii (i : Int)) = some M' ∧ MS M0 M' (ov g' ((om s : Nat) : Int) s) ∧ GF s (om s) 0 g' := by
  have h0 := hV.1.1.1.1
  obtain ⟨p1, p2, p3⟩ := oP_b hV.1.1.1
  intro n
  induction n with
  | zero =>
    intro z i M h e hz
    obtain ⟨w, rfl⟩ : ∃ w, z = w + 1 := ⟨z - 1, by omega⟩
    have ei : pc (opm s i) = om s := by
      unfold om oP
      rw [show (s 133 0).toNat = i by omega]
    rw [ei] at h
    rw [f_202_11, rFx h (j := 0) (by decide) rfl (ov_j (by omega)), zb_some, if_pos (show ii (s 133 0) ≤ ii (i : Int) by rw [ii_le (by omega) (by omega)]; omega)]
    refine m202d hV p2 (hp _) (om s) zF 0 M s ?_ (fun a b a1 a2 a3 => by omega) (by omega) (by unfold zF; omega)
    show MS M0 M (ov s _ (goS s 0))
    rw [goS_0 hV.1.1.1 hV.1.2.2.1]
    exact h
  | succ n ih =>
    intro z i M h e hz
    obtain ⟨w, rfl⟩ : ∃ w, z = w + 1 := ⟨z - 1, by omega⟩
    have hib : (i : Int) < s 133 0 := by omega
    have v3 := (hV.1.2.2.1 i hib).2.2.1
    simp only [Nat.add_zero] at v3
    obtain ⟨b1, b2⟩ := opm_b (s := s) i (by omega)
    have x5 := rN h (j := 5) (P := 136) (n := 6) (by decide) (by decide +kernel) (by decide) (fun _ => rfl) (by omega) (b := i) (by omega)
    rw [ov_o (p := 136) (by omega) (by omega)] at x5
    have nx : ∀ v : Int, v = ((pc (opm s (i + 1)) : Nat) : Int) → ∃ g' M', (zb (zpf M 12 37 133 (.int (ii v)) false) fun M34 => f_202_11 w M34 133 (ii ((i + 1 : Nat) : Int))) = some M' ∧ MS M0 M' (ov g' ((om s : Nat) : Int) s) ∧ GF s (om s) 0 g' := by
      intro v hv
      obtain ⟨M1, q1, q2⟩ := wF h (j := 37) (x := v) (by decide) (by decide) (by decide)
      rw [up_37, hv] at q2
      rw [q1, zb_some]
      exact ih w (i + 1) M1 q2 (by omega) (by omega)
    rw [f_202_11, rFx h (j := 0) (by decide) rfl (ov_j (by omega)), zb_some, if_neg (show ¬ ii (s 133 0) ≤ ii (i : Int) by rw [ii_le (by omega) (by omega)]; omega), rFx h (j := 37) (by decide) rfl ov_37, zb_some, x5.1, zb_some, zb_some, x5.2, zb_some]
    unfold f_202_38
    rw [ii_s1]
    by_cases g : s 136 i = 0
    · rw [if_pos (show ii (s 136 i) ≤ 0 by rw [g]; decide), zb_some, show (0 : Int32) = ii 0 from rfl, ii_add, Int.add_zero]
      exact nx _ (by rw [opm, if_pos g])
    · rw [if_neg (show ¬ ii (s 136 i) ≤ 0 by rw [show (0 : Int32) = ii 0 from rfl, ii_le (by omega) (by omega)]; omega), zb_some, show (1 : Int32) = ii 1 from rfl, ii_add]
      have hf : bt (opm s i) i = false := by
        have := b2 i (by omega)
        cases hb : bt (opm s i) i with
        | false => rfl
        | true => have := this.mp hb; omega
      refine nx _ ?_
      rw [opm, if_neg g, pc_or _ b1 i (by omega) hf]
      rfl
/-- a number's digits: all blocks that are there, none twice -/
def olt (P : Nat) : Nat → Nat → Nat → Bool
  | 0, _, _ => true
  | n + 1, p, U => bt P (p % 6) && !bt U (p % 6) && olt P n (p / 6) (U ||| 2 ^ (p % 6))
def dgt : Nat → Nat → Nat → Nat
  | 0, _, _ => 0
  | n + 1, p, j => if j = n then p % 6 else dgt n (p / 6) j
theorem olt_iff {P : Nat} (hP : P < 64) : ∀ k p U, U < 64 → (olt P k p U = true ↔ ∃ R, rsv P k p = some R ∧ ∀ d, d < 6 → bt U d = true → bt P d = true → bt R d = true) := by
  intro k
  induction k with
  | zero => intro p U hU; exact ⟨fun _ => ⟨P, rfl, fun _ _ _ h => h⟩, fun _ => rfl⟩
  | succ k ih =>
    intro p U hU
    have d6 : p % 6 < 6 := Nat.mod_lt p (by omega)
    obtain ⟨x1, x2⟩ := bs_or U hU (p % 6) d6
    have ih2 := ih (p / 6) (U ||| 2 ^ (p % 6)) x1
    rw [olt, rsv, Bool.and_eq_true, Bool.and_eq_true, ih2]
    constructor
    · rintro ⟨⟨a, b⟩, R, c, d⟩
      have bR : bt R (p % 6) = true := d _ d6 (by rw [x2 _ d6]; simp) a
      obtain ⟨r1, r2, r3⟩ := rsv_p hP _ _ _ c
      obtain ⟨y1, y2, y3⟩ := bt_xr R r1 _ d6 bR
      refine ⟨R ^^^ 2 ^ (p % 6), ?_, fun e he eU eP => ?_⟩
      · rw [c]; simp only; rw [if_pos bR]
      · rw [y3 e he, d e he (by rw [x2 e he, eU]; simp) eP]
        have : e ≠ p % 6 := fun q => by rw [q] at eU; rw [eU] at b; exact absurd b (by decide)
        simp [this]
    · rintro ⟨R', c, d⟩
      cases g : rsv P k (p / 6) with
      | none => rw [g] at c; cases c
      | some R =>
        rw [g] at c
        simp only at c
        by_cases bR : bt R (p % 6) = true
        · rw [if_pos bR] at c
          cases c
          obtain ⟨r1, r2, r3⟩ := rsv_p hP _ _ _ g
          obtain ⟨y1, y2, y3⟩ := bt_xr R r1 _ d6 bR
          have bP := r3 _ d6 bR
          refine ⟨⟨bP, ?_⟩, R, rfl, fun e he eU eP => ?_⟩
          · cases hU2 : bt U (p % 6) with
            | false => rfl
            | true =>
              have := d _ d6 hU2 bP
              rw [y3 _ d6] at this
              simp at this
          · rw [x2 e he] at eU
            by_cases q : e = p % 6
            · rw [q]; exact bR
            · have eU2 : bt U e = true := by simpa [q] using eU
              have := d e he eU2 eP
              rw [y3 e he] at this
              simp at this
              exact this.2
        · rw [if_neg bR] at c; cases c
theorem olt_0 {P : Nat} (hP : P < 64) (k p : Nat) : (olt P k p 0 = true) ↔ (rsv P k p).isSome = true := by
  rw [olt_iff hP k p 0 (by omega)]
  constructor
  · rintro ⟨R, c, d⟩; rw [c]; rfl
  · intro h
    obtain ⟨R, hR⟩ := Option.isSome_iff_exists.mp h
    exact ⟨R, hR, fun d hd q => by rw [bt_z d hd] at q; cases q⟩
theorem b_hs : ∀ S : Nat, S < 64 → ∀ d : Nat, d < 6 → decide (((ii (S : Int) >>> (ii (d : Int) &&& 31)) &&& 1) = 1) = bt S d := by decide +kernel
theorem c204 {M : ZMem} (h : Ly M) {U d : Nat} (hU : U < 64) (hd : d < 6) : f_204 M 133 (ii (U : Int)) (ii (d : Int)) = some (bz (bt U d = true)) := by
  have b := b_hs U hU d hd
  unfold f_204
  rw [if_pos (zok_ly h k133)]
  cases g : bt U d with
  | true =>
    rw [g] at b
    rw [if_neg (fun q => q (of_decide_eq_true b))]
    rfl
  | false =>
    rw [g] at b
    rw [if_pos (of_decide_eq_false b)]
    rfl
theorem m203a {M0 : ZMem} {s : ZSt} (hV : IV s) {c : Int} : ∀ (n z p U : Nat) (M : ZMem) (g : ZSt), MS M0 M (ov g c s) → n ≤ 6 → p ≤ 46656 → U < 64 → n < z → ∃ g' M', f_203_12 z M 133 (ii (p : Int)) (ii (U : Int)) (ii ((n : Int) - 1)) = some (bz (olt (oP s) n p U = true), M') ∧ MS M0 M' (ov g' c s) ∧ (∀ q, q ≠ 157 → g' q = g q) ∧ (olt (oP s) n p U = true → (∀ j, n ≤ j → g' 157 j = g 157 j) ∧ ∀ j, j < n → g' 157 j = (dgt n p j : Nat)) := by
  have h0 := hV.1.1.1.1
  obtain ⟨p1, p2, p3⟩ := oP_b hV.1.1.1
  intro n
  induction n with
  | zero =>
    intro z p U M g h hn hp hU hz
    obtain ⟨w, rfl⟩ : ∃ w, z = w + 1 := ⟨z - 1, by omega⟩
    refine ⟨g, M, ?_, h, fun _ _ => rfl, fun _ => ⟨fun _ _ => rfl, fun j hj => by omega⟩⟩
    rw [f_203_12, if_pos (show ii (((0 : Nat) : Int) - 1) < 0 by decide)]
    rfl
  | succ n ih =>
    intro z p U M g h hn hp hU hz
    obtain ⟨w, rfl⟩ : ∃ w, z = w + 1 := ⟨z - 1, by omega⟩
    have d6 : p % 6 < 6 := Nat.mod_lt p (by omega)
    have en : ((n + 1 : Nat) : Int) - 1 = (n : Int) := by omega
    have em : ii (n : Int) + -1 = ii ((n : Int) - 1) := by rw [lm1, ii_add]; rfl
    have ed : ii (p : Int) - ii (p : Int) / 6 * 6 = ii ((p % 6 : Nat) : Int) := by
      rw [show (6 : Int32) = ii 6 from rfl, ii_mod (by omega) (by omega)]; rfl
    have ev : ii (p : Int) / 6 = ii ((p / 6 : Nat) : Int) := by
      rw [show (6 : Int32) = ii 6 from rfl, ii_div (by omega) (by omega)]; rfl
    obtain ⟨M1, r1, r2⟩ := wNn h (P := 157) (n := 6) (b := n) (x := ((p % 6 : Nat) : Int)) (by decide) (by omega) (by omega)
    rw [up_ov (by omega)] at r2
    have x7 := rN r2 (j := 35) (P := 157) (n := 6) (by decide) (by decide +kernel) (by decide) (fun _ => rfl) (by omega) (b := n) (by omega)
    rw [ov_g (by omega), up_at] at x7
    have x5 := rN r2 (j := 5) (P := 136) (n := 6) (by decide) (by decide +kernel) (by decide) (fun _ => rfl) (by omega) d6
    rw [ov_o (p := 136) (by omega) (by omega)] at x5
    have F1 : ∀ q, q ≠ 157 → (up g 157 n ((p % 6 : Nat) : Int)) q = g q := fun q hq => up_fn hq
    have bad : bt (oP s) (p % 6) = false ∨ bt U (p % 6) = true → olt (oP s) (n + 1) p U = false := by
      intro q
      rw [olt]
      rcases q with q | q <;> rw [q] <;> simp
    have fail : olt (oP s) (n + 1) p U = false → ∃ g' M', some ((0 : Int32), M1) = some (bz (olt (oP s) (n + 1) p U = true), M') ∧ MS M0 M' (ov g' c s) ∧ (∀ q, q ≠ 157 → g' q = g q) ∧ (olt (oP s) (n + 1) p U = true → (∀ j, n + 1 ≤ j → g' 157 j = g 157 j) ∧ ∀ j, j < n + 1 → g' 157 j = (dgt (n + 1) p j : Nat)) := by
      intro q
      rw [q]
      exact ⟨_, M1, rfl, r2, F1, fun t => absurd t (by decide)⟩
    have pp := p3 (p % 6) d6
    rw [f_203_12, en, if_neg (show ¬ ii (n : Int) < 0 by rw [show (0 : Int32) = ii 0 from rfl, ii_lt (by omega) (by omega)]; omega), rP h (j := 35) (P := 157) (by decide) (by decide +kernel), zb_some, zb_some, ed, r1, zb_some, x7.1, zb_some, zb_some, x7.2, zb_some, rFx r2 (j := 0) (by decide) rfl (ov_j (by omega)), zb_some]
    by_cases g1 : s 133 0 ≤ ((p % 6 : Nat) : Int)
    · rw [if_pos (show ii (s 133 0) ≤ ii ((p % 6 : Nat) : Int) by rw [ii_le (by omega) (by omega)]; exact g1)]
      refine fail (bad (.inl ?_))
      cases hb : bt (oP s) (p % 6) with
      | false => rfl
      | true => have := pp.mp hb; omega
    · rw [if_neg (show ¬ ii (s 133 0) ≤ ii ((p % 6 : Nat) : Int) by rw [ii_le (by omega) (by omega)]; exact g1), x5.1, zb_some, zb_some, zb_some, x7.2, zb_some, zb_some, x5.2, zb_some]
      have v3 := (hV.1.2.2.1 (p % 6) (by omega)).2.2.1
      simp only [Nat.add_zero] at v3
      by_cases g2 : s 136 (p % 6) = 0
      · rw [if_pos (show ii (s 136 (p % 6)) = 0 by rw [g2]; rfl)]
        refine fail (bad (.inl ?_))
        cases hb : bt (oP s) (p % 6) with
        | false => rfl
        | true => exact absurd g2 (pp.mp hb).2
      · rw [if_neg (show ¬ ii (s 136 (p % 6)) = 0 by rw [show (0 : Int32) = ii 0 from rfl, ii_eq (by omega) (by omega)]; exact g2), zb_some, zb_some, x7.2, zb_some, c204 r2.1 hU d6, zb_some]
        by_cases g3 : bt U (p % 6) = true
        · rw [bzT g3, if_neg (show ¬ (1 : Int32) = 0 by decide)]
          exact fail (bad (.inr g3))
        · have hP : bt (oP s) (p % 6) = true := pp.mpr ⟨by omega, g2⟩
          have eU : bt U (p % 6) = false := by simpa using g3
          obtain ⟨x1, x2⟩ := bs_or U hU (p % 6) d6
          obtain ⟨g', M', q1, q2, q3, q4⟩ := ih w (p / 6) (U ||| 2 ^ (p % 6)) M1 _ r2 (by omega) (by omega) x1 (by omega)
          have eo : olt (oP s) (n + 1) p U = olt (oP s) n (p / 6) (U ||| 2 ^ (p % 6)) := by
            rw [olt, hP, eU]; rfl
          rw [bzF g3, if_pos (show (0 : Int32) = 0 from rfl), zb_some, zb_some, x7.2, zb_some, ev, b_or U hU (p % 6) d6, em, eo]
          refine ⟨g', M', q1, q2, fun q hq => (q3 q hq).trans (F1 q hq), fun t => ?_⟩
          obtain ⟨t1, t2⟩ := q4 t
          refine ⟨fun j hj => (t1 j (by omega)).trans (up_nk (by omega)), fun j hj => ?_⟩
          rw [dgt]
          by_cases f : j = n
          · rw [if_pos f, t1 j (by omega), f, up_at]
          · rw [if_neg f, t2 j (by omega)]
theorem m203 {M0 M : ZMem} {s : ZSt} (hV : IV s) {g : ZSt} (h : MS M0 M (ov g ((om s : Nat) : Int) s)) {N : Nat} (hN : N ≤ 46656) : ∃ g' M', f_203 M 133 (ii (N : Int)) = some (bz ((rsv (oP s) (om s) N).isSome = true), M') ∧ MS M0 M' (ov g' ((om s : Nat) : Int) s) ∧ (∀ q, q ≠ 157 → g' q = g q) ∧ ((rsv (oP s) (om s) N).isSome = true → ∀ j, j < om s → g' 157 j = (dgt (om s) N j : Nat)) := by
  obtain ⟨p1, p2, p3⟩ := oP_b hV.1.1.1
  obtain ⟨g', M', q1, q2, q3, q4⟩ := m203a hV (om s) zF N 0 M g h p2 hN (by omega) (by unfold zF; omega)
  have o0 := olt_0 p1 (om s) N
  refine ⟨g', M', ?_, q2, q3, fun t => (q4 (o0.mpr t)).2⟩
  unfold f_203
  rw [if_pos (zok_ly h.1 k133), rFx h (j := 37) (by decide) rfl ov_37, zb_some, show (1 : Int32) = ii 1 from rfl, ii_sub, ← bzE o0]
  exact q1
