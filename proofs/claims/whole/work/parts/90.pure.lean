theorem all_pairs : AllPairs := sorry
theorem law_pure : ∀ (xs : Nat → Int32) (L : Nat), L ≤ 2560 → ∃ w', f_law xs L w00 = some (1, w') := law_of all_pairs
