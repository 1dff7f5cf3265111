theorem zl_pure : ∀ (Ls : Nat) (xs : Nat → Int32), Ls ≤ 2049 → zl_goal Ls xs := sorry
