theorem law_pure (L : Nat) (xs : Nat → Int32) (hL : L ≤ 384) : lpL_law L xs (fun _ _ => some 1) ow_N 0 ow_M0 = some 1 := sorry
