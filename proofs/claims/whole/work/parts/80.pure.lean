theorem jg_all : Jg := ⟨jgC, jgR, jgW, jgB⟩
theorem zl_pure : ∀ (Ls : Nat) (xs : Nat → Int32), Ls ≤ 2049 → zl_goal Ls xs := zl_of jg_all
