/-! words of permutations among three letters -/
def tq_sj (a : Nat) : Prop := ∀ x, x < 4 → tq_in a x = true
theorem tq_sjm {a g : Nat} (ha : tq_sj a) (hg : tq_sj g) : tq_sj (tm_m 4 a g) := by
  intro x hx
  obtain ⟨p, hp, e1⟩ := tq_ini.mp (hg x hx)
  obtain ⟨p', hp', e2⟩ := tq_ini.mp (ha p hp)
  exact tq_ini.mpr ⟨p', hp', by rw [tm_dig tq_N _ _ hp', e2, e1]⟩
theorem tq_sjr {a g : Nat} (h : tq_sj (tm_m 4 a g)) : tq_sj g := by
  intro x hx
  obtain ⟨p, hp, e1⟩ := tq_ini.mp (h x hx)
  rw [tm_dig tq_N _ _ hp] at e1
  exact tq_ini.mpr ⟨_, tm_imlt tq_N a p, e1⟩
theorem tq_sju : tq_sj (tm_u 4) := by
  unfold tq_sj
  decide +kernel
theorem tq_sji {a : Nat} (ha : a < 256) (h : tq_sj a) : ∃ i, i < 24 ∧ tq_PL i = a := by
  have t := tq_ipt a ha (by rw [h 0 (by omega), h 1 (by omega), h 2 (by omega), h 3 (by omega)]; rfl)
  exact ⟨_, t.1, t.2⟩
/-- a letter's place among the permutations: its own, or the unit's -/
def tq_pl (k : Nat) (G : Nat → Nat) (b j : Nat) : Prop := j < 24 ∧ (b < k → tq_sj (G b) → tq_PL j = G b) ∧ ((∃ g, g < k ∧ G g = tq_PL j) ∨ j = 0)
theorem tq_plx {k : Nat} {G : Nat → Nat} (hG : ∀ g, g < k → G g < 256) (b : Nat) : ∃ j, tq_pl k G b j := by
  by_cases h : b < k ∧ tq_sj (G b)
  · obtain ⟨j, hj, e1⟩ := tq_sji (hG b h.1) h.2
    exact ⟨j, hj, fun _ _ => e1, Or.inl ⟨b, h.1, e1.symm⟩⟩
  · exact ⟨0, by omega, fun h1 h2 => absurd ⟨h1, h2⟩ h, Or.inr rfl⟩
theorem tq_word {k : Nat} {G : Nat → Nat} (hk : k ≤ 4) {j1 j2 j3 b1 b2 b3 : Nat} (h1 : tq_pl k G b1 j1) (h2 : tq_pl k G b2 j2) (h3 : tq_pl k G b3 j3) : ∀ t x, (tq_bl (tq_row j1) (tq_row j2) (tq_row j3) t).testBit x = true → x < 24 ∧ ∃ l M, l ≤ t ∧ tm_W 4 k G l M (tq_PL x) := by
  intro t
  induction t with
  | zero =>
    intro x hx
    have hx' : (2 ^ 0).testBit x = true := hx
    rw [Nat.testBit_two_pow, decide_eq_true_iff] at hx'
    subst hx'
    exact ⟨by omega, 0, 1, Nat.le_refl _, rfl, tq_PL0⟩
  | succ t ih =>
    intro x hx
    rcases tq_blb.mp hx with y | ⟨z, hz, y, w⟩
    · obtain ⟨a1, l, M, a2, a3⟩ := ih x y
      exact ⟨a1, l, M, by omega, a3⟩
    · obtain ⟨_, l, M, a2, a3⟩ := ih z y
      have S : ∀ b j, tq_pl k G b j → tq_mt (tq_row j) z = x → x < 24 ∧ ∃ l M, l ≤ t + 1 ∧ tm_W 4 k G l M (tq_PL x) := by
        intro b j hp e1
        obtain ⟨m1, m2⟩ := tq_mtt j hp.1 z hz
        rw [e1] at m1 m2
        refine ⟨m1, ?_⟩
        rcases hp.2.2 with ⟨g, hg, e2⟩ | e2
        · refine ⟨l + 1, 4 * M + g, by omega, ?_⟩
          rw [m2, ← e2]
          exact tm_Wc a3 hg hk
        · refine ⟨l, M, by omega, ?_⟩
          rw [m2, e2, tq_PL0, tm_ur tq_N (tq_PLlt z hz)]
          exact a3
      rcases w with w | w | w
      · exact S b1 j1 h1 w
      · exact S b2 j2 h2 w
      · exact S b3 j3 h3 w
theorem tq_core {k c l : Nat} {G pa sv lt : Nat → Nat} (hk : k ≤ 4) (h : tm_pa 4 k G c l pa sv lt) (hl : 8 ≤ l) {j1 j2 j3 b1 b2 b3 : Nat} (h1 : tq_pl k G b1 j1) (h2 : tq_pl k G b2 j2) (h3 : tq_pl k G b3 j3) (s1 : j1 ≤ j2) (s2 : j2 ≤ j3)
    (hL : ∀ i, i < 8 → tq_sj (G (lt i)) ∧ (lt i = b1 ∨ lt i = b2 ∨ lt i = b3)) : False := by
  have C := tq_cl s1 s2 h3.1
  have A : ∀ i, i ≤ 8 → ∃ x, x < 24 ∧ tq_PL x = pa i ∧ (tq_bl (tq_row j1) (tq_row j2) (tq_row j3) 7).testBit x = true := by
    intro i
    induction i with
    | zero =>
      intro _
      refine ⟨0, by omega, by rw [h.1]; exact tq_PL0, ?_⟩
      have Z : ∀ t, (tq_bl (tq_row j1) (tq_row j2) (tq_row j3) t).testBit 0 = true := by
        intro t
        induction t with
        | zero => exact (by decide : (1 : Nat).testBit 0 = true)
        | succ t iht => exact tq_blb.mpr (Or.inl iht)
      exact Z 7
    | succ i ih =>
      intro hi
      obtain ⟨x, x1, x2, x3⟩ := ih (by omega)
      obtain ⟨l1, l2, _⟩ := h.2.2.1 i (by omega)
      obtain ⟨q1, q2⟩ := hL i (by omega)
      have S : ∀ b j, tq_pl k G b j → (j = j1 ∨ j = j2 ∨ j = j3) → lt i = b → ∃ x, x < 24 ∧ tq_PL x = pa (i + 1) ∧ (tq_bl (tq_row j1) (tq_row j2) (tq_row j3) 7).testBit x = true := by
        intro b j hp hj e1
        subst e1
        obtain ⟨m1, m2⟩ := tq_mtt j hp.1 x x1
        refine ⟨_, m1, by rw [m2, x2, hp.2.1 l1 q1, l2], ?_⟩
        rw [← C]
        refine tq_blb.mpr (Or.inr ⟨x, x1, x3, ?_⟩)
        rcases hj with e | e | e
        · exact Or.inl (by rw [e])
        · exact Or.inr (Or.inl (by rw [e]))
        · exact Or.inr (Or.inr (by rw [e]))
      rcases q2 with e | e | e
      · exact S b1 j1 h1 (Or.inl rfl) e
      · exact S b2 j2 h2 (Or.inr (Or.inl rfl)) e
      · exact S b3 j3 h3 (Or.inr (Or.inr rfl)) e
  obtain ⟨x, x1, x2, x3⟩ := A 8 (Nat.le_refl _)
  obtain ⟨_, l', M, a1, a2⟩ := tq_word hk h1 h2 h3 7 x x3
  rw [x2] at a2
  exact h.2.2.2.1 l' 8 M (pa 8) (by omega) hl a2 (h.2.1 8 hl).2
theorem tq_sort {k c l : Nat} {G pa sv lt : Nat → Nat} (hk : k ≤ 4) (h : tm_pa 4 k G c l pa sv lt) (hl : 8 ≤ l) {j1 j2 j3 b1 b2 b3 : Nat} (h1 : tq_pl k G b1 j1) (h2 : tq_pl k G b2 j2) (h3 : tq_pl k G b3 j3)
    (hL : ∀ i, i < 8 → tq_sj (G (lt i)) ∧ (lt i = b1 ∨ lt i = b2 ∨ lt i = b3)) : False := by
  rcases Nat.le_total j1 j2 with a | a
  · rcases Nat.le_total j2 j3 with b | b
    · exact tq_core hk h hl h1 h2 h3 a b hL
    · rcases Nat.le_total j1 j3 with d | d
      · exact tq_core hk h hl h1 h3 h2 d b fun i hi => ⟨(hL i hi).1, by
          rcases (hL i hi).2 with e | e | e
          · exact Or.inl e
          · exact Or.inr (Or.inr e)
          · exact Or.inr (Or.inl e)⟩
      · exact tq_core hk h hl h3 h1 h2 d a fun i hi => ⟨(hL i hi).1, by
          rcases (hL i hi).2 with e | e | e
          · exact Or.inr (Or.inl e)
          · exact Or.inr (Or.inr e)
          · exact Or.inl e⟩
  · rcases Nat.le_total j1 j3 with b | b
    · exact tq_core hk h hl h2 h1 h3 a b fun i hi => ⟨(hL i hi).1, by
        rcases (hL i hi).2 with e | e | e
        · exact Or.inr (Or.inl e)
        · exact Or.inl e
        · exact Or.inr (Or.inr e)⟩
    · rcases Nat.le_total j2 j3 with d | d
      · exact tq_core hk h hl h2 h3 h1 d b fun i hi => ⟨(hL i hi).1, by
          rcases (hL i hi).2 with e | e | e
          · exact Or.inr (Or.inr e)
          · exact Or.inl e
          · exact Or.inr (Or.inl e)⟩
      · exact tq_core hk h hl h3 h2 h1 d a fun i hi => ⟨(hL i hi).1, by
          rcases (hL i hi).2 with e | e | e
          · exact Or.inr (Or.inr e)
          · exact Or.inr (Or.inl e)
          · exact Or.inl e⟩
theorem tq_perm {k c l : Nat} {G pa sv lt : Nat → Nat} (hk : k ≤ 4) (hG : ∀ g, g < k → G g < 256) (h : tm_pa 4 k G c l pa sv lt) (hl : 8 ≤ l) (hc : ¬ tq_sj c) : tq_T (tq_st (pa 8) (sv 8)) ≠ 4 := by
  intro hT
  have P : ∀ i, i ≤ 8 → tq_sj (pa i) := by
    intro i hi x hx
    refine tq_full (v := sv i) ?_ hx
    have e1 : i + (8 - i) = 8 := by omega
    have a0 := tq_pm h (y := 0) (by omega) (8 - i) i (by omega)
    have a1 := tq_pm h (y := 1) (by omega) (8 - i) i (by omega)
    have a2 := tq_pm h (y := 2) (by omega) (8 - i) i (by omega)
    have a3 := tq_pm h (y := 3) (by omega) (8 - i) i (by omega)
    rw [e1] at a0 a1 a2 a3
    have a4 := tq_T4 (tq_st (pa i) (sv i))
    unfold tq_T at hT a4 ⊢
    omega
  have L : ∀ i, i < 8 → tq_sj (G (lt i)) := by
    intro i hi
    have a1 := P (i + 1) (by omega)
    rw [(h.2.2.1 i (by omega)).2.1] at a1
    exact tq_sjr a1
  have X : ∃ g, g < k ∧ ¬ tq_sj (G g) := by
    by_cases z : ∃ g, g < k ∧ ¬ tq_sj (G g)
    · exact z
    · exfalso
      apply hc
      have A : ∀ i, i ≤ l → tq_sj (pa i) := by
        intro i
        induction i with
        | zero => intro _; rw [h.1]; exact tq_sju
        | succ i ih =>
          intro hi
          obtain ⟨l1, l2, _⟩ := h.2.2.1 i (by omega)
          rw [l2]
          refine tq_sjm (ih (by omega)) ?_
          by_cases y : tq_sj (G (lt i))
          · exact y
          · exact absurd ⟨lt i, l1, y⟩ z
      have := A l (Nat.le_refl _)
      rw [h.2.2.2.2] at this
      exact this
  obtain ⟨g, hg, hn⟩ := X
  have B : ∃ b1 b2 b3, ∀ t, t < 4 → t ≠ g → t = b1 ∨ t = b2 ∨ t = b3 := by
    by_cases g0 : g = 0
    · exact ⟨1, 2, 3, fun t h1 h2 => by omega⟩
    by_cases g1 : g = 1
    · exact ⟨0, 2, 3, fun t h1 h2 => by omega⟩
    by_cases g2 : g = 2
    · exact ⟨0, 1, 3, fun t h1 h2 => by omega⟩
    exact ⟨0, 1, 2, fun t h1 h2 => by omega⟩
  obtain ⟨b1, b2, b3, hb⟩ := B
  obtain ⟨j1, p1⟩ := tq_plx hG b1
  obtain ⟨j2, p2⟩ := tq_plx hG b2
  obtain ⟨j3, p3⟩ := tq_plx hG b3
  refine tq_sort hk h hl p1 p2 p3 fun i hi => ⟨L i hi, ?_⟩
  have l1 := (h.2.2.1 i (by omega)).1
  exact hb (lt i) (by omega) fun e => hn (by rw [← e]; exact L i hi)
theorem tq_31 {k c l N : Nat} {G : Nat → Nat} (hk : k ≤ 4) (hG : ∀ g, g < k → G g < 256) (hB : tm_B 4 k G c l N) : l ≤ 31 := by
  obtain ⟨pa, sv, lt, h⟩ := tm_path tq_N hk hG hB
  have hce : c < 256 := tm_Wlt tq_N hB.1
  have P := tq_part (fun i => tq_T (tq_st (pa i) (sv i))) (l + 1) (fun i _ => tq_T4 _)
  have c0 : tm_c (fun i => tq_T (tq_st (pa i) (sv i)) = 0) (l + 1) = 0 := by
    refine tm_c0 _ fun i hi hA => ?_
    have e1 := (h.2.1 i (by omega)).2
    have y1 := tm_imlt tq_N c 0
    have y2 : tq_in c (tm_im 4 c 0) = true := tq_ini.mpr ⟨0, by omega, rfl⟩
    rw [← e1] at y1 y2
    have y3 := (tq_sup (a := pa i) (v := sv i) y1).mpr y2
    generalize tm_im 4 (tm_m 4 (pa i) (sv i)) 0 = y at y1 y3
    unfold tq_T at hA
    match y, y1 with
    | 0, _ => omega
    | 1, _ => omega
    | 2, _ => omega
    | 3, _ => omega
  have q1 := tq_pc h 1
  have q2 := tq_pc h 2
  have q3 := tq_pc h 3
  have q4 := tq_pc h 4
  have hr : tq_rc c = 1 ∨ tq_rc c = 2 ∨ tq_rc c = 3 ∨ tq_rc c = 4 := by
    have b : ∀ b : Bool, (if b = true then 1 else 0) ≤ 1 := by decide
    have b0 := b (tq_in c 0)
    have b1 := b (tq_in c 1)
    have b2 := b (tq_in c 2)
    have b3 := b (tq_in c 3)
    have y1 := tm_imlt tq_N c 0
    have y2 : tq_in c (tm_im 4 c 0) = true := tq_ini.mpr ⟨0, by omega, rfl⟩
    generalize tm_im 4 c 0 = y at y1 y2
    have y3 : (if tq_in c y = true then 1 else 0) = 1 := if_pos y2
    unfold tq_rc
    match y, y1 with
    | 0, _ => omega
    | 1, _ => omega
    | 2, _ => omega
    | 3, _ => omega
  rcases hr with r | r | r | r
  · rw [r] at q1 q2 q3 q4
    have x1 : tq_bd 1 1 = 4 := rfl
    have x2 : tq_bd 1 2 = 6 := rfl
    have x3 : tq_bd 1 3 = 4 := rfl
    have x4 : tq_bd 1 4 = 1 := rfl
    omega
  · rw [r] at q1 q2 q3 q4
    have x1 : tq_bd 2 1 = 0 := rfl
    have x2 : tq_bd 2 2 = 12 := rfl
    have x3 : tq_bd 2 3 = 12 := rfl
    have x4 : tq_bd 2 4 = 6 := rfl
    omega
  · have hc : ¬ tq_sj c := by
      intro z
      unfold tq_rc at r
      rw [if_pos (z 0 (by omega)), if_pos (z 1 (by omega)), if_pos (z 2 (by omega)), if_pos (z 3 (by omega))] at r
      omega
    have c4 : tm_c (fun i => tq_T (tq_st (pa i) (sv i)) = 4) (l + 1) ≤ 8 := by
      by_cases hl : 8 ≤ l
      · have n8 := tq_perm hk hG h hl hc
        have t := tm_cinj (A := fun i => tq_T (tq_st (pa i) (sv i)) = 4) (T := fun i x => i = x) (b := 8) (l + 1) (fun _ => True) (fun i hi hA => by
          refine ⟨i, ?_, trivial, rfl⟩
          by_cases y : i < 8
          · exact y
          · exfalso
            have e1 : 8 + (i - 8) = i := by omega
            have a0 := tq_pm h (y := 0) (by omega) (i - 8) 8 (by omega)
            have a1 := tq_pm h (y := 1) (by omega) (i - 8) 8 (by omega)
            have a2 := tq_pm h (y := 2) (by omega) (i - 8) 8 (by omega)
            have a3 := tq_pm h (y := 3) (by omega) (i - 8) 8 (by omega)
            rw [e1] at a0 a1 a2 a3
            have a4 := tq_T4 (tq_st (pa 8) (sv 8))
            apply n8
            have hA' : tq_T (tq_st (pa i) (sv i)) = 4 := hA
            unfold tq_T at hA' a4 ⊢
            omega) (fun i i' x _ _ _ _ _ e1 e2 => e1.trans e2.symm)
        rw [tm_ctrue] at t
        exact t
      · have := tm_cle (fun i => tq_T (tq_st (pa i) (sv i)) = 4) (l + 1)
        omega
    rw [r] at q1 q2 q3 q4
    have x1 : tq_bd 3 1 = 0 := rfl
    have x2 : tq_bd 3 2 = 0 := rfl
    have x3 : tq_bd 3 3 = 24 := rfl
    omega
  · rw [r] at q1 q2 q3 q4
    have x1 : tq_bd 4 1 = 0 := rfl
    have x2 : tq_bd 4 2 = 0 := rfl
    have x3 : tq_bd 4 3 = 0 := rfl
    have x4 : tq_bd 4 4 = 24 := rfl
    omega
