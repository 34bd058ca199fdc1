/-! BITS of small numbers, by the kernel -/
set_option maxRecDepth 200000 in
theorem bt_not : ∀ X : Nat, X < 4096 → ii (X : Int) ^^^ 1 = ii ((if X % 2 = 0 then X + 1 else X - 1 : Nat) : Int) := by decide +kernel
set_option maxRecDepth 200000 in
theorem bt_and : ∀ X : Nat, X < 4096 → ((ii (X : Int) >>> (1 &&& 31)) &&& (ii (X : Int) ||| (-2))) = ii ((if X % 2 = 0 ∧ X / 2 % 2 = 1 then X / 2 - 1 else X / 2 : Nat) : Int) := by decide +kernel
set_option maxRecDepth 200000 in
theorem bt_or : ∀ X : Nat, X < 4096 → ((ii (X : Int) >>> (1 &&& 31)) ||| (ii (X : Int) &&& 1)) = ii ((if X % 2 = 1 ∧ X / 2 % 2 = 0 then X / 2 + 1 else X / 2 : Nat) : Int) := by decide +kernel
set_option maxRecDepth 200000 in
theorem bt_t0 : ∀ X : Nat, X < 4096 → ((0 : Int32) ||| (ii (X : Int) <<< (1 &&& 31))) = ii ((2 * X : Nat) : Int) := by decide +kernel
set_option maxRecDepth 200000 in
theorem bt_t1 : ∀ X : Nat, X < 4096 → ((1 : Int32) ||| (ii (X : Int) <<< (1 &&& 31))) = ii ((2 * X + 1 : Nat) : Int) := by decide +kernel
set_option maxRecDepth 200000 in
theorem st_dec : ∀ f : Nat, f < 6 → ∀ k : Nat, k < 3 → ∀ n : Nat, n < 100 → (ii (zfl (f : Int) * 65536 + (60 + (k : Int)) * 256 + (n : Int)) >>> (24 &&& 31)) = 0 ∧ ((ii (zfl (f : Int) * 65536 + (60 + (k : Int)) * 256 + (n : Int)) >>> (16 &&& 31)) &&& 255) = ii (zfl (f : Int)) ∧ ((ii (zfl (f : Int) * 65536 + (60 + (k : Int)) * 256 + (n : Int)) >>> (8 &&& 31)) &&& 255) = ii (60 + (k : Int)) ∧ (ii (zfl (f : Int) * 65536 + (60 + (k : Int)) * 256 + (n : Int)) &&& 255) = ii (n : Int) := by decide +kernel
set_option maxRecDepth 200000 in
theorem st_end : ∀ n : Nat, n < 100 → ((ii (67108864 + (n : Int)) >>> (24 &&& 31)) = 4 ∧ (ii (67108864 + (n : Int)) &&& 255) = ii (n : Int)) ∧ (ii (83886080 + (n : Int)) >>> (24 &&& 31)) = 5 ∧ (ii (83886080 + (n : Int)) &&& 255) = ii (n : Int) := by decide +kernel
