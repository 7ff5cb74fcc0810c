theorem x_law_ok (L : Nat) (xs : Nat → Int32) (hL : L ≤ 2560) : ∃ w1 : XW, xm 172 0 [.retAddr 4] (xw0 L xs) = some (.int 1, w1) := law_ok (L, xs) hL
