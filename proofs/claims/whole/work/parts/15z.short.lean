/-! every element has a word of at most 31 letters -/
theorem tm_short {n e k : Nat} {G : Nat → Nat} (h : tm_N n e) (hk : k ≤ 4) (hG : ∀ g, g < k → G g < e) : ∀ c l N, tm_B n k G c l N → l ≤ 31 := by
  intro c l N hB
  have t := tm_sh0 h hk hG hB
  rcases h with ⟨h, h'⟩ | ⟨h, h'⟩ | ⟨h, h'⟩
  · omega
  · omega
  · subst h h'
    exact tq_31 hk hG hB
