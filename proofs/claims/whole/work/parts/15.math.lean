/-! what X and Y count differently -/
theorem tm_enum {n e k q : Nat} {G fo l N : Nat → Nat} {aI aG aF aW aL aS : Nat → Int32} (h : tm_X n e k G q fo l N aI aG aF aW aL aS) (Q : Nat → Prop) : tm_c (fun j => Q (fo j)) q = tm_c (fun c => tm_E n k G c ∧ Q c) e := by
  apply Nat.le_antisymm
  · refine tm_cinj (T := fun j c => fo j = c) q _ (fun j hj hQ => ⟨fo j, (h.2.2.2.2.2.1 j hj).1, ⟨tm_BE (h.2.2.2.2.2.1 j hj).2.2.2.1, hQ⟩, rfl⟩) (fun i i' c hi hi' _ _ _ z z' => tm_Xu h hi hi' (z.trans z'.symm))
  · refine tm_cinj (T := fun c j => fo j = c) e _ (fun c hc hQ => ?_) (fun i i' c hi hi' _ _ _ z z' => z.symm.trans z')
    obtain ⟨j, hj, e1⟩ := tm_Xj h hQ.1
    exact ⟨j, hj, by show Q (fo j); rw [e1]; exact hQ.2, e1⟩
theorem tm_u2 : ∀ c, c < 4 → tm_rk 2 c = 2 → tm_p 2 c 11 = tm_u 2 := by decide +kernel
theorem tm_u3 : ∀ c, c < 27 → tm_rk 3 c = 3 → tm_p 3 c 11 = tm_u 3 := by decide +kernel
theorem tm_u4 : ∀ c, c < 256 → tm_rk 4 c = 4 → tm_p 4 c 11 = tm_u 4 := by decide +kernel
theorem tm_v2 : ∀ c, c < 4 → (∀ p, p < 2 → ∀ q, q < 2 → tm_im 2 c p = tm_im 2 c q → p = q) → tm_rk 2 c = 2 := by decide +kernel
theorem tm_v3 : ∀ c, c < 27 → (∀ p, p < 3 → ∀ q, q < 3 → tm_im 3 c p = tm_im 3 c q → p = q) → tm_rk 3 c = 3 := by decide +kernel
theorem tm_v4 : ∀ c, c < 256 → (∀ p, p < 4 → ∀ q, q < 4 → tm_im 4 c p = tm_im 4 c q → p = q) → tm_rk 4 c = 4 := by decide +kernel
theorem tm_unit {n e k c : Nat} {G : Nat → Nat} (h : tm_N n e) (hk : k ≤ 4) (hc : tm_E n k G c) : tm_rk n c = n ↔ tm_iv n k G c := by
  have hce := tm_Elt h hc
  constructor
  · intro z
    have e1 : tm_p n c 11 = tm_u n := by
      rcases h with ⟨h, h'⟩ | ⟨h, h'⟩ | ⟨h, h'⟩ <;> subst h h'
      · exact tm_u2 c hce z
      · exact tm_u3 c hce z
      · exact tm_u4 c hce z
    exact ⟨tm_p n c 10, tm_pE h hk hc 10, by rw [← e1]; exact tm_padd h c 0 10, by rw [← e1]; exact tm_padd h c 10 0⟩
  · rintro ⟨b, _, e1, _⟩
    have I : ∀ p, p < n → ∀ q, q < n → tm_im n c p = tm_im n c q → p = q := by
      intro p hp q hq z
      have a1 := tm_dig h c b hp
      have a2 := tm_dig h c b hq
      rw [e1, tm_uim h _ hp] at a1
      rw [e1, tm_uim h _ hq] at a2
      rw [a1, a2, z]
    rcases h with ⟨h, h'⟩ | ⟨h, h'⟩ | ⟨h, h'⟩ <;> subst h h'
    · exact tm_v2 c hce I
    · exact tm_v3 c hce I
    · exact tm_v4 c hce I
theorem tm_cls {n e k q d : Nat} {G fo l N : Nat → Nat} {aI aG aF aW aL aS : Nat → Int32} (h : tm_X n e k G q fo l N aI aG aF aW aL aS) : tm_c (tm_fst n k G d fo) q = tm_c (tm_nw n k G d) e := by
  apply Nat.le_antisymm
  · refine tm_cinj (T := fun j c => tm_q2 n k G d (fo j) c) q _ (fun j hj hQ => ?_) (fun i i' c hi hi' hA hA' _ z z' => ?_)
    · have hE := tm_BE (h.2.2.2.2.2.1 j hj).2.2.2.1
      obtain ⟨c, ⟨c1, c2⟩, c3⟩ := pk_least (fun c => tm_E n k G c ∧ tm_q2 n k G d (fo j) c) ⟨fo j, hE, tm_qr⟩
      exact ⟨c, tm_Elt h.1 c1, ⟨c1, fun b hb hEb w => c3 b hb ⟨hEb, tm_qt c2 w⟩⟩, c2⟩
    · have w : tm_q2 n k G d (fo i) (fo i') := tm_qt z (tm_qs z')
      rcases Nat.lt_trichotomy i i' with y | y | y
      · exact absurd w (hA' i y)
      · exact y
      · exact absurd (tm_qs w) (hA i' y)
  · refine tm_cinj (T := fun c j => tm_q2 n k G d (fo j) c) e _ (fun c hc hQ => ?_) (fun i i' c hi hi' hA hA' _ z z' => ?_)
    · obtain ⟨j0, hj0, e0⟩ := tm_Xj h hQ.1
      obtain ⟨j, ⟨j1, j2⟩, j3⟩ := pk_least (fun j => j < q ∧ tm_q2 n k G d (fo j) c) ⟨j0, hj0, by rw [e0]; exact tm_qr⟩
      exact ⟨j, j1, fun j' hj' w => j3 j' hj' ⟨by omega, tm_qt w j2⟩, j2⟩
    · have w : tm_q2 n k G d i i' := tm_qt (tm_qs z) z'
      rcases Nat.lt_trichotomy i i' with y | y | y
      · exact absurd (tm_qs w) (hA'.2 i y hA.1)
      · exact y
      · exact absurd w (hA.2 i' y hA'.1)
theorem tm_ker {n e k q r r' : Nat} {G fo l N : Nat → Nat} {aI aG aF aW aL aS : Nat → Int32} (h : tm_X n e k G q fo l N aI aG aF aW aL aS) (h1 : ∀ j, j < q → r ≤ tm_Z n e k G 2 (fo j)) (h2 : r = q ∨ ∃ j, j < q ∧ r = tm_Z n e k G 2 (fo j))
    (h3 : ∀ a, tm_E n k G a → r' ≤ tm_Z n e k G 2 a) (h4 : r' = e ∨ ∃ a, tm_E n k G a ∧ r' = tm_Z n e k G 2 a) : r' = r := by
  have A : ∀ a, tm_E n k G a → r ≤ tm_Z n e k G 2 a := by
    intro a ha
    obtain ⟨j, hj, e1⟩ := tm_Xj h ha
    rw [← e1]; exact h1 j hj
  have B : ∀ a, tm_E n k G a → tm_Z n e k G 2 a ≤ q := by
    intro a ha
    rw [h.2.2.2.2.1.2.2]
    exact tm_cmono e fun c _ hr => tm_RE h.1 h.2.1 (fun g hg => (h.2.2.1 g hg).1) ha hr
  have u := tm_Eu (n := n) (k := k) (G := G)
  have x1 : ∃ a, tm_E n k G a ∧ r = tm_Z n e k G 2 a := by
    rcases h2 with y | ⟨j, hj, y⟩
    · exact ⟨_, u, by have := A _ u; have := B _ u; omega⟩
    · exact ⟨fo j, tm_BE (h.2.2.2.2.2.1 j hj).2.2.2.1, y⟩
  have x2 : ∃ a, tm_E n k G a ∧ r' = tm_Z n e k G 2 a := by
    rcases h4 with y | y
    · have z : tm_Z n e k G 2 (tm_u n) ≤ e := tm_Zle
      exact ⟨_, u, by have := h3 _ u; omega⟩
    · exact y
  obtain ⟨a, ha, y⟩ := x1
  obtain ⟨b, hb, y'⟩ := x2
  have := A b hb
  have := h3 a ha
  omega
theorem tm_lon {n e k q r : Nat} {G fo l N : Nat → Nat} {aI aG aF aW aL aS : Nat → Int32} (h : tm_X n e k G q fo l N aI aG aF aW aL aS) (h1 : ∀ c l N, tm_B n k G c l N → l ≤ r) (h2 : r = 0 ∨ ∃ c N, tm_B n k G c r N) : r = l (q - 1) := by
  have hq := h.2.2.2.2.1.1
  have a1 := (h.2.2.2.2.2.1 (q - 1) (by omega)).2.2.2.1
  have a2 := h1 _ _ _ a1
  rcases h2 with y | ⟨c, M, hB⟩
  · omega
  · obtain ⟨j, hj, e1⟩ := tm_Xj h (tm_BE hB)
    have a3 := (h.2.2.2.2.2.1 j hj).2.2.2.1
    rw [e1] at a3
    obtain ⟨e2, e3⟩ := tm_Bu hB a3
    have a4 : N j ≤ N (q - 1) := by
      by_cases z : j = q - 1
      · rw [z]; exact Nat.le_refl _
      · exact Nat.le_of_lt (h.2.2.2.2.2.2.1 j (q - 1) (by omega) (by omega)).1
    have a5 := tm_Wl a3.1 a1.1 a4
    omega
theorem tm_let {N l t : Nat} (h : 4 ^ l ≤ N) (ht : t < l) : (N - 4 ^ l) / 4 ^ t % 4 = N / 4 ^ t % 4 := by
  have e1 : 4 ^ l = 4 ^ t * (4 * 4 ^ (l - t - 1)) := by
    rw [← Nat.mul_assoc, ← Nat.pow_succ, ← Nat.pow_add]
    exact congrArg _ (by omega)
  have p : 0 < 4 ^ t := Nat.pow_pos (by decide)
  have e2 : N / 4 ^ t = (N - 4 ^ l) / 4 ^ t + 4 * 4 ^ (l - t - 1) := by
    rw [← Nat.add_mul_div_left _ _ p, ← e1]
    exact congrArg (· / 4 ^ t) (by omega)
  rw [e2]
  omega
theorem ty_and3 (x : Nat) : nI x &&& 3 = nI (x % 4) := by
  rw [pk_and (nI x) (m := 3) 2 (by decide)]
  have : (nI x).toBitVec.toNat = x % 2 ^ 32 := BitVec.toNat_ofNat ..
  rw [this]
  exact congrArg nI (by omega)
theorem ty_let {l p v : Nat} (hl : l ≤ 31) (hp : p < l) (hv : v < 2 ^ 62) : ((lN v >>> ((2 * (nI l - 1 - nI p)).toInt64 &&& 63)).toInt32) &&& 3 = nI (v / 4 ^ (l - 1 - p) % 4) := by
  have e1 : 2 * (nI l - 1 - nI p) = nI (2 * (l - 1 - p)) := by
    show nI 2 * (nI l - nI 1 - nI p) = _
    rw [pk_sub (by omega), pk_sub (by omega), pk_mul]
  rw [e1, wb_c _ (by omega), pf_shr (ty_sm _ (by omega)) hv, lN_i, ty_and3, Nat.pow_mul]
