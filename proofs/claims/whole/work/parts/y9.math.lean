/-! ===== owed: the mathematics ===== -/
/-- the law's loop answers 1, for every script of at most 2560 ints -/
theorem oy_math (L : Nat) (hL : L ≤ 2560) (xs : Nat → Int32) : oz_M L xs := sorry
