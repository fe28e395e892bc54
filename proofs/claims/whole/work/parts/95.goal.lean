theorem goes_on_all : ∀ (xs : Nat → Int32) (L : Nat), L ≤ 2048 → Goes_on xs L := sorry
