/-! every element has a word of at most 31 letters -/
theorem tm_short {n e k : Nat} {G : Nat → Nat} (h : tm_N n e) (hk : k ≤ 4) (hG : ∀ g, g < k → G g < e) : ∀ c l N, tm_B n k G c l N → l ≤ 31 := sorry
