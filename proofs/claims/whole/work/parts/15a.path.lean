/-! the path of a best word: prefixes and what is still to come -/
def tm_ev (n : Nat) (G : Nat → Nat) : Nat → Nat → Nat
  | 0, _ => tm_u n
  | l + 1, N => tm_m n (tm_ev n G l (N / 4)) (G (N % 4))
def tm_sx (n : Nat) (G : Nat → Nat) : Nat → Nat → Nat → Nat
  | 0, _, x => x
  | j + 1, N, x => tm_m n (tm_sx n G j (N / 4) x) (G (N % 4))
theorem tm_dp (N j : Nat) : N / 4 / 4 ^ j = N / 4 ^ (j + 1) := by
  rw [Nat.div_div_eq_div_mul, Nat.pow_succ, Nat.mul_comm]
theorem tm_dp' (N j : Nat) : N / 4 ^ j / 4 = N / 4 ^ (j + 1) := by
  rw [Nat.div_div_eq_div_mul, Nat.pow_succ]
theorem tm_Wev {n k : Nat} {G : Nat → Nat} : ∀ {l N c : Nat}, tm_W n k G l N c → tm_ev n G l N = c := by
  intro l
  induction l with
  | zero => intro N c w; exact w.2.symm
  | succ l ih =>
    intro N c w
    obtain ⟨_, b, w', e1⟩ := w
    show tm_m n (tm_ev n G l (N / 4)) (G (N % 4)) = c
    rw [ih w', e1]
theorem tm_Wpre {n k i : Nat} {G : Nat → Nat} : ∀ {j N c : Nat}, tm_W n k G (i + j) N c → tm_W n k G i (N / 4 ^ j) (tm_ev n G i (N / 4 ^ j)) ∧ ∀ t, t < j → N / 4 ^ t % 4 < k := by
  intro j
  induction j with
  | zero =>
    intro N c w
    rw [Nat.pow_zero, Nat.div_one]
    refine ⟨?_, fun t ht => by omega⟩
    have w' : tm_W n k G i N c := w
    rw [tm_Wev w']
    exact w'
  | succ j ih =>
    intro N c w
    obtain ⟨h1, b, w', e1⟩ := w
    obtain ⟨a1, a2⟩ := ih w'
    rw [tm_dp] at a1
    refine ⟨a1, fun t ht => ?_⟩
    cases t with
    | zero => rw [Nat.pow_zero, Nat.div_one]; exact h1
    | succ t =>
      have := a2 t (by omega)
      rw [tm_dp] at this
      exact this
theorem tm_sxev {n i : Nat} {G : Nat → Nat} : ∀ j N, tm_ev n G (i + j) N = tm_sx n G j N (tm_ev n G i (N / 4 ^ j)) := by
  intro j
  induction j with
  | zero => intro N; rw [Nat.pow_zero, Nat.div_one]; rfl
  | succ j ih =>
    intro N
    show tm_m n (tm_ev n G (i + j) (N / 4)) (G (N % 4)) = tm_m n (tm_sx n G j (N / 4) (tm_ev n G i (N / 4 ^ (j + 1)))) (G (N % 4))
    rw [ih, tm_dp]
theorem tm_join {n k i M a : Nat} {G : Nat → Nat} (hk : k ≤ 4) (w : tm_W n k G i M a) : ∀ j N, (∀ t, t < j → N / 4 ^ t % 4 < k) → ∃ N', tm_W n k G (i + j) N' (tm_sx n G j N a) := by
  intro j
  induction j with
  | zero => intro N _; exact ⟨M, w⟩
  | succ j ih =>
    intro N hN
    obtain ⟨N', w'⟩ := ih (N / 4) (fun t ht => by
      have := hN (t + 1) (by omega)
      rw [tm_dp]; exact this)
    have h0 := hN 0 (by omega)
    rw [Nat.pow_zero, Nat.div_one] at h0
    exact ⟨_, tm_Wc w' h0 hk⟩
theorem tm_sxlt {n e : Nat} {G : Nat → Nat} (h : tm_N n e) {x : Nat} (hx : x < e) : ∀ j N, tm_sx n G j N x < e := by
  intro j N
  cases j with
  | zero => exact hx
  | succ j => exact tm_lt h _ _
theorem tm_sxm {n e : Nat} {G : Nat → Nat} (h : tm_N n e) {x : Nat} (hx : x < e) : ∀ j N, tm_sx n G j N x = tm_m n x (tm_sx n G j N (tm_u n)) := by
  intro j
  induction j with
  | zero => intro N; exact (tm_ur h hx).symm
  | succ j ih =>
    intro N
    show tm_m n (tm_sx n G j (N / 4) x) _ = tm_m n x (tm_m n (tm_sx n G j (N / 4) (tm_u n)) _)
    rw [ih, tm_as h]
theorem tm_sxp {n : Nat} {G : Nat → Nat} : ∀ j N x, tm_sx n G (j + 1) N x = tm_sx n G j N (tm_m n x (G (N / 4 ^ j % 4))) := by
  intro j
  induction j with
  | zero => intro N x; rw [Nat.pow_zero, Nat.div_one]; rfl
  | succ j ih =>
    intro N x
    show tm_m n (tm_sx n G (j + 1) (N / 4) x) (G (N % 4)) = tm_m n (tm_sx n G j (N / 4) _) (G (N % 4))
    rw [ih, tm_dp]
/-- the path of a best word -/
def tm_pa (n k : Nat) (G : Nat → Nat) (c l : Nat) (pa sv lt : Nat → Nat) : Prop :=
  pa 0 = tm_u n ∧ (∀ i, i ≤ l → (∃ M, tm_W n k G i M (pa i)) ∧ tm_m n (pa i) (sv i) = c) ∧
  (∀ i, i < l → lt i < k ∧ pa (i + 1) = tm_m n (pa i) (G (lt i)) ∧ sv i = tm_m n (G (lt i)) (sv (i + 1))) ∧
  (∀ i i' M a, i < i' → i' ≤ l → tm_W n k G i M a → tm_m n a (sv i') ≠ c) ∧ pa l = c
theorem tm_path {n e k c l N : Nat} {G : Nat → Nat} (h : tm_N n e) (hk : k ≤ 4) (hG : ∀ g, g < k → G g < e) (hB : tm_B n k G c l N) : ∃ pa sv lt, tm_pa n k G c l pa sv lt := by
  refine ⟨fun i => tm_ev n G i (N / 4 ^ (l - i)), fun i => tm_sx n G (l - i) N (tm_u n), fun i => N / 4 ^ (l - i - 1) % 4, rfl, fun i hi => ?_, fun i hi => ?_, fun i i' M a hii hi' w z => ?_, ?_⟩
  · have w : tm_W n k G (i + (l - i)) N c := by rw [show i + (l - i) = l from by omega]; exact hB.1
    have w' := (tm_Wpre w).1
    refine ⟨⟨_, w'⟩, ?_⟩
    show tm_m n (tm_ev n G i (N / 4 ^ (l - i))) (tm_sx n G (l - i) N (tm_u n)) = c
    rw [← tm_sxm h (tm_Wlt h w'), ← tm_sxev, tm_Wev w]
  · have w : tm_W n k G (i + (l - i)) N c := by rw [show i + (l - i) = l from by omega]; exact hB.1
    have hl := (tm_Wpre w).2 (l - i - 1) (by omega)
    refine ⟨hl, ?_, ?_⟩
    · show tm_m n (tm_ev n G i (N / 4 ^ (l - (i + 1)) / 4)) (G (N / 4 ^ (l - (i + 1)) % 4)) = tm_m n (tm_ev n G i (N / 4 ^ (l - i))) (G (N / 4 ^ (l - i - 1) % 4))
      rw [tm_dp', show l - (i + 1) + 1 = l - i from by omega, show l - (i + 1) = l - i - 1 from by omega]
    · show tm_sx n G (l - i) N (tm_u n) = tm_m n (G (N / 4 ^ (l - i - 1) % 4)) (tm_sx n G (l - (i + 1)) N (tm_u n))
      rw [show l - i = l - i - 1 + 1 from by omega, tm_sxp, tm_ul h (hG _ hl), tm_sxm h (hG _ hl)]
      rw [show l - i - 1 + 1 - 1 = l - (i + 1) from by omega, show l - i - 1 = l - (i + 1) from by omega]
  · have w2 : tm_W n k G (i' + (l - i')) N c := by rw [show i' + (l - i') = l from by omega]; exact hB.1
    obtain ⟨N', w'⟩ := tm_join hk w (l - i') N (tm_Wpre w2).2
    have z' : tm_sx n G (l - i') N a = c := by rw [tm_sxm h (tm_Wlt h w)]; exact z
    rw [z'] at w'
    have := tm_Wl hB.1 w' (hB.2 _ _ w')
    omega
  · show tm_ev n G l (N / 4 ^ (l - l)) = c
    rw [Nat.sub_self, Nat.pow_zero, Nat.div_one]
    exact tm_Wev hB.1
theorem tm_ctrue : ∀ m, tm_c (fun _ => True) m = m := by
  intro m
  induction m with
  | zero => rfl
  | succ m ih => rw [tm_ct (P := fun _ => True) trivial, ih]
theorem tm_sh0 {n e k c l N : Nat} {G : Nat → Nat} (h : tm_N n e) (hk : k ≤ 4) (hG : ∀ g, g < k → G g < e) (hB : tm_B n k G c l N) : l + 1 ≤ e := by
  obtain ⟨pa, sv, lt, p1, p2, p3, p4, p5⟩ := tm_path h hk hG hB
  have t := tm_cinj (A := fun _ => True) (T := fun i x => pa i = x) (b := e) (l + 1) (fun _ => True) (fun i hi _ => by
    obtain ⟨M, w⟩ := (p2 i (by omega)).1
    exact ⟨pa i, tm_Wlt h w, trivial, rfl⟩) (fun i i' x hi hi' _ _ _ e1 e2 => by
    have key : ∀ i i', i < i' → i' < l + 1 → pa i = pa i' → False := by
      intro i i' h1 h2 h3
      obtain ⟨M, w⟩ := (p2 i (by omega)).1
      refine p4 i i' M (pa i) h1 (by omega) w ?_
      rw [h3]
      exact (p2 i' (by omega)).2
    rcases Nat.lt_trichotomy i i' with y | y | y
    · exact (key i i' y hi' (e1.trans e2.symm)).elim
    · exact y
    · exact (key i' i y hi (e2.trans e1.symm)).elim)
  rw [tm_ctrue, tm_ctrue] at t
  exact t
