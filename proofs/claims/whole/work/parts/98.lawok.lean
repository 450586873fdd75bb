theorem law_ok : ∀ (L : Nat) (xs : Nat → Int32) (Z : Nat), L ≤ 3584 → PL_law L xs (M0_ Z) (fun r _ => r = 1) := sorry
