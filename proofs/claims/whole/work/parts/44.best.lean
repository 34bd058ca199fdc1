/-! BEST: the tables, as numbers alone -/
/-- the greatest of a and of f 1 .. f n -/
def ymx (f : Nat → Int) (a : Int) : Nat → Int
  | 0 => a
  | n + 1 => max (ymx f a n) (f (n + 1))
theorem ymx_le {f : Nat → Int} {a c : Int} : ∀ {n : Nat}, ymx f a n ≤ c ↔ a ≤ c ∧ ∀ x, 1 ≤ x → x ≤ n → f x ≤ c := by
  intro n
  induction n with
  | zero => exact ⟨fun h => ⟨h, fun x h1 h2 => by omega⟩, fun h => h.1⟩
  | succ n ih =>
    rw [ymx]
    constructor
    · intro h
      have h1 : ymx f a n ≤ c := by omega
      have h2 : f (n + 1) ≤ c := by omega
      obtain ⟨h3, h4⟩ := ih.mp h1
      refine ⟨h3, fun x hx hn => ?_⟩
      by_cases e : x = n + 1
      · rw [e]; exact h2
      · exact h4 x hx (by omega)
    · intro h
      have h1 := ih.mpr ⟨h.1, fun x hx hn => h.2 x hx (by omega)⟩
      have h2 := h.2 (n + 1) (by omega) (by omega)
      omega
theorem ymx_ge {f : Nat → Int} {a : Int} {n x : Nat} (h1 : 1 ≤ x) (h2 : x ≤ n) : f x ≤ ymx f a n := (ymx_le.mp (Int.le_refl (ymx f a n))).2 x h1 h2
theorem ymx_a {f : Nat → Int} {a : Int} {n : Nat} : a ≤ ymx f a n := (ymx_le.mp (Int.le_refl (ymx f a n))).1
theorem ymx_in {f : Nat → Int} {a : Int} : ∀ {n : Nat}, ymx f a n = a ∨ ∃ x, 1 ≤ x ∧ x ≤ n ∧ f x = ymx f a n := by
  intro n
  induction n with
  | zero => exact .inl rfl
  | succ n ih =>
    rw [ymx]
    by_cases c : f (n + 1) ≤ ymx f a n
    · rw [show max (ymx f a n) (f (n + 1)) = ymx f a n by omega]
      rcases ih with h | ⟨x, h1, h2, h3⟩
      · exact .inl h
      · exact .inr ⟨x, h1, by omega, h3⟩
    · exact .inr ⟨n + 1, by omega, by omega, by omega⟩
theorem ymx_cg {f g : Nat → Int} {a : Int} : ∀ {n : Nat}, (∀ x, 1 ≤ x → x ≤ n → f x = g x) → ymx f a n = ymx g a n := by
  intro n
  induction n with
  | zero => intro _; rfl
  | succ n ih =>
    intro h
    rw [ymx, ymx, ih (fun x h1 h2 => h x h1 (by omega)), h (n + 1) (by omega) (by omega)]
/-- the least of a and of those f x, x of 1 .. n, at which p holds -/
def ymn (p : Nat → Prop) [∀ x, Decidable (p x)] (f : Nat → Int) (a : Int) : Nat → Int
  | 0 => a
  | n + 1 => if p (n + 1) then min (ymn p f a n) (f (n + 1)) else ymn p f a n
theorem ymn_no {p : Nat → Prop} [∀ x, Decidable (p x)] {f : Nat → Int} {a : Int} : ∀ {n : Nat}, (∀ x, 1 ≤ x → x ≤ n → ¬ p x) → ymn p f a n = a := by
  intro n
  induction n with
  | zero => intro _; rfl
  | succ n ih =>
    intro h
    rw [ymn, if_neg (h (n + 1) (by omega) (by omega)), ih (fun x h1 h2 => h x h1 (by omega))]
theorem ymn_cg {p q : Nat → Prop} [∀ x, Decidable (p x)] [∀ x, Decidable (q x)] {f g : Nat → Int} {a : Int} : ∀ {n : Nat}, (∀ x, 1 ≤ x → x ≤ n → (p x ↔ q x) ∧ f x = g x) → ymn p f a n = ymn q g a n := by
  intro n
  induction n with
  | zero => intro _; rfl
  | succ n ih =>
    intro h
    obtain ⟨h1, h2⟩ := h (n + 1) (by omega) (by omega)
    rw [ymn, ymn, ih (fun x h1 h2 => h x h1 (by omega)), h2]
    by_cases c : p (n + 1)
    · rw [if_pos c, if_pos (h1.mp c)]
    · rw [if_neg c, if_neg (fun e => c (h1.mpr e))]
theorem ymn_le {p : Nat → Prop} [∀ x, Decidable (p x)] {f : Nat → Int} {a : Int} : ∀ {n : Nat} {x : Nat}, 1 ≤ x → x ≤ n → p x → ymn p f a n ≤ f x := by
  intro n
  induction n with
  | zero => intro x h1 h2; omega
  | succ n ih =>
    intro x h1 h2 hp
    rw [ymn]
    by_cases e : x = n + 1
    · subst e
      rw [if_pos hp]; omega
    · have := ih h1 (by omega) hp
      split <;> omega
theorem ymn_a {p : Nat → Prop} [∀ x, Decidable (p x)] {f : Nat → Int} {a : Int} : ∀ {n : Nat}, ymn p f a n ≤ a := by
  intro n
  induction n with
  | zero => exact Int.le_refl _
  | succ n ih => rw [ymn]; split <;> omega
theorem ymn_lb {p : Nat → Prop} [∀ x, Decidable (p x)] {f : Nat → Int} {a c : Int} (ha : c ≤ a) : ∀ {n : Nat}, (∀ x, 1 ≤ x → x ≤ n → c ≤ f x) → c ≤ ymn p f a n := by
  intro n
  induction n with
  | zero => intro _; exact ha
  | succ n ih =>
    intro h
    have h1 := ih (fun x h1 h2 => h x h1 (by omega))
    have h2 := h (n + 1) (by omega) (by omega)
    rw [ymn]; split <;> omega
/-- the reference's way: what is worth more, and of that by fewer blows -/
def ylx (V G : Nat → Int) (w : Int) : Nat → Int × Int
  | 0 => (w, 0)
  | n + 1 => if (ylx V G w n).1 < V (n + 1) ∨ (V (n + 1) = (ylx V G w n).1 ∧ G (n + 1) < (ylx V G w n).2) then (V (n + 1), G (n + 1)) else ylx V G w n
theorem ylx_eq {V G : Nat → Int} {w : Int} : ∀ {n : Nat}, (∀ x, 1 ≤ x → x ≤ n → 1 ≤ G x ∧ G x ≤ 60) → (ylx V G w n).1 = ymx V w n ∧ (ylx V G w n).2 = if ymx V w n = w then 0 else ymn (fun x => V x = ymx V w n) G 60 n := by
  intro n
  induction n with
  | zero => intro _; exact ⟨rfl, by rw [ymx, if_pos rfl]; rfl⟩
  | succ n ih =>
    intro h
    obtain ⟨e1, e2⟩ := ih (fun x h1 h2 => h x h1 (by omega))
    have hg := h (n + 1) (by omega) (by omega)
    have hw : w ≤ ymx V w n := ymx_a
    rw [ylx, ymx, e1]
    by_cases c1 : ymx V w n < V (n + 1)
    · rw [if_pos (.inl c1), show max (ymx V w n) (V (n + 1)) = V (n + 1) by omega, if_neg (show ¬ V (n + 1) = w by omega)]
      refine ⟨rfl, ?_⟩
      rw [ymn, if_pos rfl, ymn_no (fun x h1 h2 => by
        have := ymx_ge (f := V) (a := w) h1 h2
        omega)]
      show G (n + 1) = _
      omega
    · rw [show max (ymx V w n) (V (n + 1)) = ymx V w n by omega]
      by_cases c2 : V (n + 1) = ymx V w n
      · by_cases c3 : G (n + 1) < (ylx V G w n).2
        · rw [if_pos (.inr ⟨c2, c3⟩)]
          refine ⟨c2, ?_⟩
          rw [e2] at c3
          by_cases c4 : ymx V w n = w
          · rw [if_pos c4] at c3; omega
          · rw [if_neg c4] at c3
            rw [if_neg c4, ymn, if_pos c2]
            show G (n + 1) = _
            omega
        · rw [if_neg (by omega)]
          refine ⟨e1, ?_⟩
          rw [e2] at c3 ⊢
          by_cases c4 : ymx V w n = w
          · rw [if_pos c4, if_pos c4]
          · rw [if_neg c4] at c3
            rw [if_neg c4, if_neg c4, ymn, if_pos c2]
            omega
      · rw [if_neg (by omega)]
        refine ⟨e1, ?_⟩
        rw [e2]
        by_cases c4 : ymx V w n = w
        · rw [if_pos c4, if_pos c4]
        · rw [if_neg c4, if_neg c4, ymn, if_neg c2]
/-- a table, laid place by place -/
def ytb (st : (Nat → Int) → Nat → Int) : Nat → Nat → Int
  | 0 => fun _ => 0
  | n + 1 => fun k => if k = n + 1 then st (ytb st n) (n + 1) else ytb st n k
def ydg (st : (Nat → Int) → Nat → Int) (k : Nat) : Int := ytb st k k
/-- what is laid rests on what lies below alone -/
def yloc (st : (Nat → Int) → Nat → Int) : Prop := ∀ (T U : Nat → Int) (t : Nat), (∀ k, k < t → T k = U k) → st T t = st U t
theorem ytb_dg (st : (Nat → Int) → Nat → Int) : ∀ n k, k ≤ n → ytb st n k = ydg st k := by
  intro n
  induction n with
  | zero => intro k h; rw [show k = 0 by omega]; rfl
  | succ n ih =>
    intro k h
    by_cases e : k = n + 1
    · rw [e]; rfl
    · rw [ytb]; show (if k = n + 1 then _ else ytb st n k) = _
      rw [if_neg e]; exact ih k (by omega)
theorem ydg_0 {st : (Nat → Int) → Nat → Int} : ydg st 0 = 0 := rfl
theorem ydg_eq {st : (Nat → Int) → Nat → Int} (h : yloc st) {t : Nat} (ht : 1 ≤ t) : ydg st t = st (ydg st) t := by
  obtain ⟨n, rfl⟩ : ∃ n, t = n + 1 := ⟨t - 1, by omega⟩
  unfold ydg
  rw [ytb]
  show (if n + 1 = n + 1 then _ else _) = _
  rw [if_pos rfl]
  exact h _ _ _ (fun k hk => ytb_dg st n k (by omega))
/-- what a table says behind a blow at x -/
def yBv (C : Nat → Nat → Bool) (T : Nat → Int) (t x : Nat) : Int := if C t x = true then T x + T (t - x) else T (max x (t - x))
theorem yBv_cg {C : Nat → Nat → Bool} {T U : Nat → Int} {t x : Nat} (h : ∀ k, k < t → T k = U k) (h1 : 1 ≤ x) (h2 : x ≤ t - 1) : yBv C T t x = yBv C U t x := by
  unfold yBv
  rw [h x (by omega), h (t - x) (by omega), h (max x (t - x)) (by omega)]
def ysB (W : Nat → Int) (C : Nat → Nat → Bool) (T : Nat → Int) (t : Nat) : Int := ymx (yBv C T t) (W t) (t - 1)
theorem ysB_loc (W : Nat → Int) (C : Nat → Nat → Bool) : yloc (ysB W C) := fun T U t h => ymx_cg fun x h1 h2 => yBv_cg h h1 h2
/-- BEST of a piece t thick -/
def yT (W : Nat → Int) (C : Nat → Nat → Bool) : Nat → Int := ydg (ysB W C)
theorem yT_0 (W : Nat → Int) (C : Nat → Nat → Bool) : yT W C 0 = 0 := rfl
theorem yT_eq (W : Nat → Int) (C : Nat → Nat → Bool) {t : Nat} (h : 1 ≤ t) : yT W C t = ymx (yBv C (yT W C) t) (W t) (t - 1) := ydg_eq (ysB_loc W C) h
theorem yT_nn {W : Nat → Int} {C : Nat → Nat → Bool} (hW : ∀ t, 0 ≤ W t) (t : Nat) : 0 ≤ yT W C t := by
  by_cases h : t = 0
  · rw [h, yT_0]; omega
  · rw [yT_eq W C (by omega)]
    have := hW t
    have h2 : W t ≤ ymx (yBv C (yT W C) t) (W t) (t - 1) := ymx_a
    omega
theorem yT_up {W : Nat → Int} {C : Nat → Nat → Bool} (hW : ∀ t, 0 ≤ W t) (t : Nat) : yT W C t ≤ yT W C (t + 1) := by
  by_cases h : t = 0
  · rw [h, yT_0]; exact yT_nn hW _
  · have h1 := ymx_ge (f := yBv C (yT W C) (t + 1)) (a := W (t + 1)) (n := t + 1 - 1) (x := t) (by omega) (by omega)
    rw [← yT_eq W C (by omega)] at h1
    have h2 : yT W C t ≤ yBv C (yT W C) (t + 1) t := by
      unfold yBv
      have := yT_nn (C := C) hW (t + 1 - t)
      split
      · omega
      · rw [show max t (t + 1 - t) = t by omega]; exact Int.le_refl _
    omega
theorem yT_mo {W : Nat → Int} {C : Nat → Nat → Bool} (hW : ∀ t, 0 ≤ W t) {i : Nat} : ∀ {j : Nat}, i ≤ j → yT W C i ≤ yT W C j := by
  intro j
  induction j with
  | zero => intro h; rw [show i = 0 by omega]; exact Int.le_refl _
  | succ j ih =>
    intro h
    by_cases e : i = j + 1
    · rw [e]; exact Int.le_refl _
    · exact Int.le_trans (ih (by omega)) (yT_up hW j)
theorem yT_bd {W : Nat → Int} {C : Nat → Nat → Bool} (hW : ∀ t, 0 ≤ W t ∧ W t ≤ 1000) : ∀ n t : Nat, t ≤ n → yT W C t ≤ 1000 * (t : Int) := by
  intro n
  induction n with
  | zero => intro t h; rw [show t = 0 by omega, yT_0]; omega
  | succ n ih =>
    intro t h
    by_cases h0 : t = 0
    · rw [h0, yT_0]; omega
    · rw [yT_eq W C (by omega)]
      refine ymx_le.mpr ⟨by have := hW t; omega, fun x h1 h2 => ?_⟩
      unfold yBv
      have a1 := ih x (by omega)
      have a2 := ih (t - x) (by omega)
      have a3 := ih (max x (t - x)) (by omega)
      split <;> omega
theorem yT_b {W : Nat → Int} {C : Nat → Nat → Bool} (hW : ∀ t, 0 ≤ W t ∧ W t ≤ 1000) (t : Nat) : 0 ≤ yT W C t ∧ yT W C t ≤ 1000 * (t : Int) := ⟨yT_nn (fun t => (hW t).1) t, yT_bd hW t t (Nat.le_refl t)⟩
/-- the class's way: clean blows alone -/
def ycs (C : Nat → Nat → Bool) (T : Nat → Int) (t x : Nat) : Int := if (1 ≤ x ∧ x ≤ t - 1) ∧ C t x = true then T x + T (t - x) else 0
theorem yT_cls {W : Nat → Int} {C : Nat → Nat → Bool} (hW : ∀ t, 0 ≤ W t) {t lo hi mk : Nat} (ht : 1 ≤ t) (hC : ∀ x, 1 ≤ x → x ≤ t - 1 → C t x = true → (lo ≤ x ∧ x ≤ hi) ∨ x = mk) {r : Int} (hr : ∀ c, r ≤ c ↔ (W t ≤ c ∧ yT W C (t - 1) ≤ c) ∧ (∀ x, lo ≤ x → x ≤ hi → ycs C (yT W C) t x ≤ c) ∧ ycs C (yT W C) t mk ≤ c) : r = yT W C t := by
  have hcs : ∀ x, ycs C (yT W C) t x ≤ yT W C t := by
    intro x
    unfold ycs
    split
    · rename_i h
      have h1 := ymx_ge (f := yBv C (yT W C) t) (a := W t) (n := t - 1) (x := x) h.1.1 h.1.2
      rw [← yT_eq W C ht] at h1
      unfold yBv at h1
      rw [if_pos h.2] at h1
      exact h1
    · exact yT_nn hW t
  have h1 : r ≤ yT W C t := by
    refine (hr _).mpr ⟨⟨?_, yT_mo hW (by omega)⟩, fun x _ _ => hcs x, hcs mk⟩
    rw [yT_eq W C ht]; exact ymx_a
  have h2 : yT W C t ≤ r := by
    obtain ⟨⟨a1, a2⟩, a3, a4⟩ := (hr r).mp (Int.le_refl r)
    rw [yT_eq W C ht]
    refine ymx_le.mpr ⟨a1, fun x h1 h2 => ?_⟩
    unfold yBv
    split
    · rename_i h
      have e : ycs C (yT W C) t x = yT W C x + yT W C (t - x) := if_pos ⟨⟨h1, h2⟩, h⟩
      rw [← e]
      rcases hC x h1 h2 h with q | q
      · exact a3 x q.1 q.2
      · rw [q]; exact a4
    · exact Int.le_trans (yT_mo hW (by omega)) a2
  omega
/-- FEW -/
def ysF (W : Nat → Int) (C : Nat → Nat → Bool) (F : Nat → Int) (t : Nat) : Int := if yT W C t = W t then 0 else ymn (fun x => yBv C (yT W C) t x = yT W C t) (fun x => 1 + yBv C F t x) 60 (t - 1)
theorem ysF_loc (W : Nat → Int) (C : Nat → Nat → Bool) : yloc (ysF W C) := fun T U t h => by
  unfold ysF
  split
  · rfl
  · exact ymn_cg fun x h1 h2 => ⟨Iff.rfl, by show 1 + _ = 1 + _; rw [yBv_cg h h1 h2]⟩
def yF (W : Nat → Int) (C : Nat → Nat → Bool) : Nat → Int := ydg (ysF W C)
theorem yF_0 (W : Nat → Int) (C : Nat → Nat → Bool) : yF W C 0 = 0 := rfl
theorem yF_eq (W : Nat → Int) (C : Nat → Nat → Bool) {t : Nat} (h : 1 ≤ t) : yF W C t = ysF W C (yF W C) t := ydg_eq (ysF_loc W C) h
theorem yF_bd (W : Nat → Int) (C : Nat → Nat → Bool) : ∀ n t : Nat, t ≤ n → t ≤ 60 → 0 ≤ yF W C t ∧ (1 ≤ t → yF W C t ≤ (t : Int) - 1) := by
  intro n
  induction n with
  | zero => intro t h _; rw [show t = 0 by omega, yF_0]; omega
  | succ n ih =>
    intro t h h60
    by_cases h0 : t = 0
    · rw [h0, yF_0]; omega
    · rw [yF_eq W C (by omega)]
      unfold ysF
      split
      · omega
      · rename_i hne
        have hB : ∀ x, 1 ≤ x → x ≤ t - 1 → 0 ≤ yBv C (yF W C) t x ∧ yBv C (yF W C) t x ≤ (t : Int) - 2 := by
          intro x h1 h2
          unfold yBv
          have a1 := ih x (by omega) (by omega)
          have a2 := ih (t - x) (by omega) (by omega)
          have a3 := ih (max x (t - x)) (by omega) (by omega)
          split <;> omega
        refine ⟨ymn_lb (by omega) (fun x h1 h2 => by have := hB x h1 h2; omega), fun _ => ?_⟩
        rcases ymx_in (f := yBv C (yT W C) t) (a := W t) (n := t - 1) with q | ⟨x, q1, q2, q3⟩
        · rw [← yT_eq W C (by omega)] at q; exact absurd q hne
        · rw [← yT_eq W C (by omega)] at q3
          have h4 := ymn_le (p := fun x => yBv C (yT W C) t x = yT W C t) (f := fun x => 1 + yBv C (yF W C) t x) (a := 60) q1 q2 q3
          have h5 := hB x q1 q2
          omega
theorem yF_B {W : Nat → Int} {C : Nat → Nat → Bool} {t x : Nat} (ht : t ≤ 60) (h1 : 1 ≤ x) (h2 : x ≤ t - 1) : 0 ≤ yBv C (yF W C) t x ∧ yBv C (yF W C) t x ≤ (t : Int) - 2 := by
  unfold yBv
  have a1 := yF_bd W C x x (by omega) (by omega)
  have a2 := yF_bd W C (t - x) (t - x) (by omega) (by omega)
  have a3 := yF_bd W C (max x (t - x)) (max x (t - x)) (by omega) (by omega)
  split <;> omega
theorem yF_lx {W : Nat → Int} {C : Nat → Nat → Bool} {t : Nat} (h1 : 1 ≤ t) (h60 : t ≤ 60) : ylx (yBv C (yT W C) t) (fun x => 1 + yBv C (yF W C) t x) (W t) (t - 1) = (yT W C t, yF W C t) := by
  have h := ylx_eq (V := yBv C (yT W C) t) (G := fun x => 1 + yBv C (yF W C) t x) (w := W t) (n := t - 1) (fun x h1 h2 => by
    have := yF_B (W := W) (C := C) h60 h1 h2
    show 1 ≤ 1 + _ ∧ 1 + _ ≤ (60 : Int)
    omega)
  refine Prod.ext ?_ ?_
  · rw [h.1, yT_eq W C h1]
  · rw [h.2, ← yT_eq W C h1, yF_eq W C h1]
    rfl
/-- none is wanted: it is worth that as it is -/
theorem yF_z {W : Nat → Int} {C : Nat → Nat → Bool} {t : Nat} (h1 : 1 ≤ t) (h60 : t ≤ 60) : yF W C t = 0 ↔ yT W C t = W t := by
  rw [yF_eq W C h1]
  unfold ysF
  by_cases c : yT W C t = W t
  · rw [if_pos c]; exact ⟨fun _ => c, fun _ => rfl⟩
  · rw [if_neg c]
    refine ⟨fun e => ?_, fun e => absurd e c⟩
    have := ymn_lb (p := fun x => yBv C (yT W C) t x = yT W C t) (f := fun x => 1 + yBv C (yF W C) t x) (a := 60) (c := 1) (by omega) (n := t - 1) (fun x h1 h2 => by
      have := yF_B (W := W) (C := C) h60 h1 h2
      omega)
    omega
/-- HALVES -/
def ysH (W : Nat → Int) (C : Nat → Nat → Bool) (mo : Int) (H : Nat → Int) (t : Nat) : Int := if (t : Int) ≤ mo then W t else if C t (t / 2) = true then H (t / 2) + H (t - t / 2) else H (t - t / 2)
theorem ysH_loc (W : Nat → Int) (C : Nat → Nat → Bool) {mo : Int} (hm : 1 ≤ mo) : yloc (ysH W C mo) := fun T U t h => by
  unfold ysH
  split
  · rfl
  · rw [h (t / 2) (by omega), h (t - t / 2) (by omega)]
def yH (W : Nat → Int) (C : Nat → Nat → Bool) (mo : Int) : Nat → Int := ydg (ysH W C mo)
theorem yH_0 (W : Nat → Int) (C : Nat → Nat → Bool) (mo : Int) : yH W C mo 0 = 0 := rfl
theorem yH_eq (W : Nat → Int) (C : Nat → Nat → Bool) {mo : Int} (hm : 1 ≤ mo) {t : Nat} (h : 1 ≤ t) : yH W C mo t = ysH W C mo (yH W C mo) t := ydg_eq (ysH_loc W C hm) h
theorem yH_bd {W : Nat → Int} {C : Nat → Nat → Bool} {mo : Int} (hm : 1 ≤ mo) (hW : ∀ t, 0 ≤ W t ∧ W t ≤ 1000) : ∀ n t : Nat, t ≤ n → 0 ≤ yH W C mo t ∧ yH W C mo t ≤ 1000 * (t : Int) := by
  intro n
  induction n with
  | zero => intro t h; rw [show t = 0 by omega, yH_0]; omega
  | succ n ih =>
    intro t h
    by_cases h0 : t = 0
    · rw [h0, yH_0]; omega
    · rw [yH_eq W C hm (by omega)]
      unfold ysH
      have := hW t
      split
      · omega
      · have a1 := ih (t / 2) (by omega)
        have a2 := ih (t - t / 2) (by omega)
        split <;> omega
