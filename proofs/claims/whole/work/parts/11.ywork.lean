/-! Y: the elements with their words -/
def tm_D (n k : Nat) (G : Nat → Nat) (yT yL : Nat → Int32) (yW : Nat → Int64) (c : Nat) : Prop := ∃ l N, tm_B n k G c l N ∧ yT c = 1 ∧ yL c = nI l ∧ yW c = lN (N - 4 ^ l)
def tm_J (n e k : Nat) (G : Nat → Nat) (b : Nat) (yT yL : Nat → Int32) (yW : Nat → Int64) : Prop := ∀ c, c < e → yT c = 0 ∨ (yT c = 1 ∧ ∃ l N, tm_W n k G l N c ∧ l ≤ b ∧ yL c = nI l ∧ (l ≤ 31 → yW c = lN (N - 4 ^ l)))
def tm_31 (n k : Nat) (G : Nat → Nat) : Prop := ∀ c l N, tm_B n k G c l N → l ≤ 31
theorem tm_Jm {n e k b b' : Nat} {G : Nat → Nat} {yT yL : Nat → Int32} {yW : Nat → Int64} (h : tm_J n e k G b yT yL yW) (hb : b ≤ b') : tm_J n e k G b' yT yL yW := by
  intro c hc
  rcases h c hc with y | ⟨y, l, N, w, h1, h2⟩
  · exact Or.inl y
  · exact Or.inr ⟨y, l, N, w, by omega, h2⟩
theorem tm_v62 {l N n k : Nat} {G : Nat → Nat} {c : Nat} (w : tm_W n k G l N c) (h : l ≤ 31) : N - 4 ^ l < 2 ^ 62 := by
  have h1 := tm_Wr w
  have h2 := tm_pw h
  have h3 : (4 : Nat) ^ 31 = 2 ^ 62 := by decide
  omega
theorem tm_w4 {l N n k g : Nat} {G : Nat → Nat} {c : Nat} (w : tm_W n k G l N c) (hg : g < 4) : 4 * lN (N - 4 ^ l) + (nI g).toInt64 = lN (4 * N + g - 4 ^ (l + 1)) := by
  show lN 4 * lN (N - 4 ^ l) + (nI g).toInt64 = _
  have h1 := tm_Wr w
  rw [lN_mul, nI_l (by omega), lN_add, Nat.pow_succ]
  exact congrArg lN (by omega)
/-- a step that stores -/
theorem tm_Ju {n e k b c g : Nat} {G : Nat → Nat} {yT yL : Nat → Int32} {yW : Nat → Int64} (h : tm_N n e) (hk : k ≤ 4) (hg : g < k) (h31 : tm_31 n k G) (hb : b + 1 < 2 ^ 31) (hJ : tm_J n e k G b yT yL yW) (hc : c < e) (ht : yT c ≠ 0)
    (hbet : yT (tm_m n c (G g)) = 0 ∨ yL c + 1 < yL (tm_m n c (G g)) ∨ (yL c + 1 = yL (tm_m n c (G g)) ∧ ¬ yW (tm_m n c (G g)) ≤ 4 * yW c + (nI g).toInt64)) :
    tm_J n e k G (b + 1) (upd yT (tm_m n c (G g)) 1) (upd yL (tm_m n c (G g)) (yL c + 1)) (vp_updL yW (tm_m n c (G g)) (4 * yW c + (nI g).toInt64)) ∧
    (∀ x, tm_D n k G yT yL yW x → tm_D n k G (upd yT (tm_m n c (G g)) 1) (upd yL (tm_m n c (G g)) (yL c + 1)) (vp_updL yW (tm_m n c (G g)) (4 * yW c + (nI g).toInt64)) x) ∧
    (∀ l N, tm_B n k G c l N → tm_D n k G yT yL yW c → tm_B n k G (tm_m n c (G g)) (l + 1) (4 * N + g) → tm_D n k G (upd yT (tm_m n c (G g)) 1) (upd yL (tm_m n c (G g)) (yL c + 1)) (vp_updL yW (tm_m n c (G g)) (4 * yW c + (nI g).toInt64)) (tm_m n c (G g))) := by
  rcases hJ c hc with z | ⟨_, l, N, w, hl, eL, eW⟩
  · exact absurd z ht
  have w' := tm_Wc w hg hk
  have hd : tm_m n c (G g) < e := tm_lt h _ _
  have eL' : yL c + 1 = nI (l + 1) := by rw [eL, nI_1]
  have eW' : l ≤ 31 → 4 * yW c + (nI g).toInt64 = lN (4 * N + g - 4 ^ (l + 1)) := fun hl => by rw [eW hl]; exact tm_w4 w (by omega)
  refine ⟨fun x hx => ?_, fun x hx => ?_, fun l2 N2 hB hD hB' => ?_⟩
  · by_cases z : x = tm_m n c (G g)
    · rw [z, pk_us, pk_us, pk_uLs]
      exact Or.inr ⟨rfl, l + 1, 4 * N + g, w', by omega, eL', fun y => eW' (by omega)⟩
    · rw [pk_un z, pk_un z, pk_uLn z]
      exact tm_Jm hJ (by omega) x hx
  · by_cases z : x = tm_m n c (G g)
    · exfalso
      rw [z] at hx
      obtain ⟨l0, N0, hB, e1, e2, e3⟩ := hx
      have h1 := hB.2 _ _ w'
      have h2 := tm_Wl hB.1 w' h1
      have h3 := h31 _ _ _ hB
      rcases hbet with y | y | ⟨y, y'⟩
      · exact tx_10 (e1.symm.trans y)
      · rw [eL', e2, nI_ltI (by omega) (by omega)] at y
        omega
      · rw [eL', e2, nI_eq (by omega) (by omega)] at y
        subst y
        rw [eW' (by omega), e3, pk_lLE (by have := tm_v62 hB.1 h3; omega) (by have := tm_v62 w' h3; omega)] at y'
        omega
    · obtain ⟨l0, N0, hB, e1, e2, e3⟩ := hx
      refine ⟨l0, N0, hB, ?_, ?_, ?_⟩
      · rw [pk_un z]; exact e1
      · rw [pk_un z]; exact e2
      · rw [pk_uLn z]; exact e3
  · obtain ⟨l0, N0, hB0, e1, e2, e3⟩ := hD
    obtain ⟨rfl, rfl⟩ := tm_Bu hB hB0
    refine ⟨l2 + 1, 4 * N2 + g, hB', pk_us, ?_, ?_⟩
    · rw [pk_us, e2, nI_1]
    · rw [pk_uLs, e3]; exact tm_w4 hB.1 (by omega)
/-- a step that keeps -/
theorem tm_Jk {n e k b c g : Nat} {G : Nat → Nat} {yT yL : Nat → Int32} {yW : Nat → Int64} (h : tm_N n e) (hk : k ≤ 4) (hg : g < k) (h31 : tm_31 n k G) (hb : b + 1 < 2 ^ 31) (hJ : tm_J n e k G b yT yL yW)
    (h1 : yT (tm_m n c (G g)) ≠ 0) (h2 : ¬ yL c + 1 < yL (tm_m n c (G g))) (h3 : yL c + 1 = yL (tm_m n c (G g)) → yW (tm_m n c (G g)) ≤ 4 * yW c + (nI g).toInt64) :
    ∀ l N, tm_B n k G c l N → tm_D n k G yT yL yW c → tm_B n k G (tm_m n c (G g)) (l + 1) (4 * N + g) → tm_D n k G yT yL yW (tm_m n c (G g)) := by
  intro l N hB hD hB'
  obtain ⟨l0, N0, hB0, e1, e2, e3⟩ := hD
  obtain ⟨rfl, rfl⟩ := tm_Bu hB hB0
  rcases hJ _ (tm_lt h c (G g)) with z | ⟨ht, l4, N4, w, hl, eL, eW⟩
  · exact absurd z h1
  have a1 := hB'.2 _ _ w
  have a2 := tm_Wl hB'.1 w a1
  have a3 := h31 _ _ _ hB'
  rw [e2, eL, nI_1, nI_ltI (by omega) (by omega)] at h2
  have a4 : l4 = l + 1 := by omega
  subst a4
  have a5 := h3 (by rw [e2, eL, nI_1])
  rw [eW a3, e3, tm_w4 hB.1 (by omega : g < 4), pk_lLE (by have := tm_v62 w a3; omega) (by have := tm_v62 hB'.1 a3; omega)] at a5
  have a6 := tm_Wr w
  have a7 := tm_Wr hB'.1
  refine ⟨l + 1, 4 * N + g, hB', ht, eL, ?_⟩
  rw [eW a3]
  exact congrArg lN (by omega)
/-- a pass of grow from (T, L, W) on, at code c and letter g -/
def tm_GP (n e k : Nat) (G : Nat → Nat) (b c g : Nat) (T L : Nat → Int32) (W : Nat → Int64) (x1 : Int32) (yT yL : Nat → Int32) (yW : Nat → Int64) : Prop :=
  tm_J n e k G (b + 4 * c + g) yT yL yW ∧ (∀ x, tm_D n k G T L W x → tm_D n k G yT yL yW x) ∧
  (∀ c' g', (c' < c ∧ g' < k) ∨ (c' = c ∧ g' < g) → ∀ l N, tm_B n k G c' l N → tm_D n k G T L W c' → tm_B n k G (tm_m n c' (G g')) (l + 1) (4 * N + g') → tm_D n k G yT yL yW (tm_m n c' (G g'))) ∧
  (x1 = 0 ∨ x1 = 1) ∧ (x1 = 0 → yT = T ∧ yL = L ∧ yW = W)
theorem tm_GPn {n e k b c g : Nat} {G : Nat → Nat} {T L : Nat → Int32} {W : Nat → Int64} {x1 : Int32} {yT yL : Nat → Int32} {yW : Nat → Int64} (hg : g ≤ 4) (H : tm_GP n e k G b c g T L W x1 yT yL yW) (hz : g = k ∨ yT c = 0) : tm_GP n e k G b (c + 1) 0 T L W x1 yT yL yW := by
  obtain ⟨h1, h2, h3, h4, h5⟩ := H
  refine ⟨tm_Jm h1 (by omega), h2, fun c' g' hc l N hB hD hB' => ?_, h4, h5⟩
  by_cases y : c' < c
  · exact h3 c' g' (by omega) l N hB hD hB'
  · obtain rfl : c' = c := by omega
    rcases hz with z | z
    · exact h3 c' g' (by omega) l N hB hD hB'
    · obtain ⟨_, _, _, e1, _⟩ := h2 c' hD
      exact absurd (e1.symm.trans z) tx_10
theorem tm_GPu {n e k b c g : Nat} {G : Nat → Nat} {T L : Nat → Int32} {W : Nat → Int64} {x1 : Int32} {yT yL : Nat → Int32} {yW : Nat → Int64} (h : tm_N n e) (hk : k ≤ 4) (hg : g < k) (h31 : tm_31 n k G) (hb : b + 4 * c + g + 1 < 2 ^ 31) (hc : c < e) (ht : yT c ≠ 0) (H : tm_GP n e k G b c g T L W x1 yT yL yW)
    (hbet : yT (tm_m n c (G g)) = 0 ∨ yL c + 1 < yL (tm_m n c (G g)) ∨ (yL c + 1 = yL (tm_m n c (G g)) ∧ ¬ yW (tm_m n c (G g)) ≤ 4 * yW c + (nI g).toInt64)) :
    tm_GP n e k G b c (g + 1) T L W 1 (upd yT (tm_m n c (G g)) 1) (upd yL (tm_m n c (G g)) (yL c + 1)) (vp_updL yW (tm_m n c (G g)) (4 * yW c + (nI g).toInt64)) := by
  obtain ⟨h1, h2, h3, h4, h5⟩ := H
  obtain ⟨a1, a2, a3⟩ := tm_Ju h hk hg h31 hb h1 hc ht hbet
  refine ⟨a1, fun x hx => a2 x (h2 x hx), fun c' g' hz l N hB hD hB' => ?_, Or.inr rfl, fun z => absurd z tx_10⟩
  by_cases y : c' = c ∧ g' = g
  · obtain ⟨rfl, rfl⟩ := y
    exact a3 l N hB (h2 _ hD) hB'
  · exact a2 _ (h3 c' g' (by omega) l N hB hD hB')
theorem tm_GPk {n e k b c g : Nat} {G : Nat → Nat} {T L : Nat → Int32} {W : Nat → Int64} {x1 : Int32} {yT yL : Nat → Int32} {yW : Nat → Int64} (h : tm_N n e) (hk : k ≤ 4) (hg : g < k) (h31 : tm_31 n k G) (hb : b + 4 * c + g + 1 < 2 ^ 31) (H : tm_GP n e k G b c g T L W x1 yT yL yW)
    (g1 : yT (tm_m n c (G g)) ≠ 0) (g2 : ¬ yL c + 1 < yL (tm_m n c (G g))) (g3 : yL c + 1 = yL (tm_m n c (G g)) → yW (tm_m n c (G g)) ≤ 4 * yW c + (nI g).toInt64) :
    tm_GP n e k G b c (g + 1) T L W x1 yT yL yW := by
  obtain ⟨h1, h2, h3, h4, h5⟩ := H
  refine ⟨tm_Jm h1 (by omega), h2, fun c' g' hz l N hB hD hB' => ?_, h4, h5⟩
  by_cases y : c' = c ∧ g' = g
  · obtain ⟨rfl, rfl⟩ := y
    exact tm_Jk h hk hg h31 hb h1 g1 g2 g3 l N hB (h2 _ hD) hB'
  · exact h3 c' g' (by omega) l N hB hD hB'
theorem ty_129 (fn fend fcnt : Int32) (yG yT yL : Nat → Int32) (yW : Nat → Int64) (yN : Nat → Int32) (yS : Nat → Int64) {post : Int32 → SY → Prop} {J4 J21 : Int32 → Int32 → (Nat → Int32) → (Nat → Int32) → (Nat → Int32) → (Nat → Int64) → (Nat → Int32) → (Nat → Int64) → Prop} {d g : Nat} {x2 x7 : Int32} {x5 : Int64} (hd : d < 256)
    (hJ : J21 1 (nI (g + 1)) yG (upd yT d 1) (upd yL d x7) (vp_updL yW d x5) yN yS) : wY_grow_129 post J4 J21 x2 (nI g) (nI d) x5 x7 fn fend fcnt yG yT yL yW yN yS := by
  unfold wY_grow_129
  refine ⟨vp_in_nI hd (by omega), nm_e ⟨vp_in_nI hd (by omega), nm_e ⟨vp_in_nI hd (by omega), nm_e (nm_r (nI_1 g) ?_)⟩⟩⟩
  rw [nI_clamp (by omega)]
  exact hJ
theorem ty_21 (fn fend fcnt : Int32) (yG yT yL : Nat → Int32) (yW : Nat → Int64) (yN : Nat → Int32) (yS : Nat → Int64) {post : Int32 → SY → Prop} {J4 : Int32 → Int32 → (Nat → Int32) → (Nat → Int32) → (Nat → Int32) → (Nat → Int64) → (Nat → Int32) → (Nat → Int64) → Prop} {n e k b c : Nat} {G : Nat → Nat} {T L : Nat → Int32} {W : Nat → Int64} (h : tm_N n e) (hk : k ≤ 4) (h31 : tm_31 n k G) (hb : b + 1100 < 2 ^ 31) (hc : c < e) (hX : tm_NX n e k G yN)
    (hJ : ∀ x1 yT yL yW, tm_GP n e k G b (c + 1) 0 T L W x1 yT yL yW → J4 x1 (nI (c + 1)) yG yT yL yW yN yS) :
    ∀ t g, g + t = k → ∀ x1 yT yL yW, tm_GP n e k G b c g T L W x1 yT yL yW → wY_grow_21 post J4 (nI c) (nI n) (nI e) (nI k) (t + 1) x1 (nI g) yG yT yL yW yN yS := by
  have H := tm_Npos h
  intro t
  induction t with
  | zero =>
    intro g hg x1 yT yL yW hP
    obtain rfl : g = k := by omega
    exact br_t (nI_le (by omega) (by omega)) (nm_r (nI_1 c) (hJ x1 yT yL yW (tm_GPn (by omega) hP (Or.inl rfl))))
  | succ t ih =>
    intro g hg x1 yT yL yW hP
    have hd := tm_lt h c (G g)
    refine br_f (nI_ge (by omega) (by omega)) ⟨vp_in_nI (by omega) (by omega), ?_⟩
    rw [nI_clamp (by omega : c < 2 ^ 31)]
    by_cases z : yT c = 0
    · exact br_t z (nm_r (nI_1 c) (hJ x1 yT yL yW (tm_GPn (by omega) hP (Or.inr z))))
    refine br_f z (br_f (nI_ge (b := 4) (by omega) (by decide)) ⟨by rw [ty_i1]; exact vp_in_nI (by omega) (by omega), nm_r (e' := nI (tm_m n c (G g))) ?_ ⟨vp_in_nI (by omega) (by omega), nm_e ⟨vp_in_nI (by omega) (by omega), nm_e ⟨vp_in_nI (by omega) (by omega), ?_⟩⟩⟩⟩)
    · rw [ty_i1, nI_clamp (by omega)]
      exact (hX g c (by omega) hc).1
    rw [nI_clamp (by omega : tm_m n c (G g) < 2 ^ 31)]
    have U : (yT (tm_m n c (G g)) = 0 ∨ yL c + 1 < yL (tm_m n c (G g)) ∨ (yL c + 1 = yL (tm_m n c (G g)) ∧ ¬ yW (tm_m n c (G g)) ≤ 4 * yW c + (nI g).toInt64)) → wY_grow_129 post J4 (wY_grow_21 post J4 (nI c) (nI n) (nI e) (nI k) (t + 1)) (nI c) (nI g) (nI (tm_m n c (G g))) (4 * yW c + (nI g).toInt64) (yL c + 1) (nI n) (nI e) (nI k) yG yT yL yW yN yS := by
      intro y
      exact ty_129 (nI n) (nI e) (nI k) yG yT yL yW yN yS (by omega) (ih (g + 1) (by omega) _ _ _ _ (tm_GPu h hk (by omega) h31 (by omega) hc z hP y))
    by_cases y1 : yT (tm_m n c (G g)) = 0
    · exact br_t y1 (U (Or.inl y1))
    refine br_f y1 ⟨vp_in_nI (by omega) (by omega), ?_⟩
    by_cases y2 : yL c + 1 < yL (tm_m n c (G g))
    · exact br_t y2 (U (Or.inr (Or.inl y2)))
    refine br_f y2 ⟨vp_in_nI (by omega) (by omega), ?_⟩
    by_cases y3 : yL c + 1 = yL (tm_m n c (G g))
    · refine br_t y3 ⟨vp_in_nI (by omega) (by omega), ?_⟩
      by_cases y4 : yW (tm_m n c (G g)) ≤ 4 * yW c + (nI g).toInt64
      · exact br_t y4 (nm_r (nI_1 g) (ih (g + 1) (by omega) x1 yT yL yW (tm_GPk h hk (by omega) h31 (by omega) hP y1 y2 (fun _ => y4))))
      · exact br_f y4 (U (Or.inr (Or.inr ⟨y3, y4⟩)))
    · exact br_f y3 (nm_r (nI_1 g) (ih (g + 1) (by omega) x1 yT yL yW (tm_GPk h hk (by omega) h31 (by omega) hP y1 y2 (fun w => absurd w y3))))
theorem ty_nb {x : Int32} (h : x = 0 ∨ x = 1) : narrow .boolean (.int x) = .int x := by
  rcases h with h | h <;> subst h <;> rfl
theorem ty_g4 (fn fend fcnt : Int32) (yG yT yL : Nat → Int32) (yW : Nat → Int64) (yN : Nat → Int32) (yS : Nat → Int64) {post : Int32 → SY → Prop} {n e k b : Nat} {G : Nat → Nat} {T L : Nat → Int32} {W : Nat → Int64} (h : tm_N n e) (hk : k ≤ 4) (h31 : tm_31 n k G) (hb : b + 1100 < 2 ^ 31) (hX : tm_NX n e k G yN)
    (hp : ∀ x1 yT yL yW, tm_GP n e k G b e 0 T L W x1 yT yL yW → post x1 (nI n, nI e, nI k, yG, yT, yL, yW, yN, yS)) :
    ∀ t c, c + t = e → ∀ x1 yT yL yW, tm_GP n e k G b c 0 T L W x1 yT yL yW → wY_grow_4 post (nI n) (nI e) (nI k) (t + 1) x1 (nI c) yG yT yL yW yN yS := by
  have H := tm_Npos h
  intro t
  induction t with
  | zero =>
    intro c hc x1 yT yL yW hP
    obtain rfl : c = e := by omega
    exact br_t (nI_le (by omega) (by omega)) ⟨ty_nb hP.2.2.2.1, hp x1 yT yL yW hP⟩
  | succ t ih =>
    intro c hc x1 yT yL yW hP
    refine br_f (nI_ge (by omega) (by omega)) (br_f (nI_ge (b := 256) (by omega) (by decide)) ⟨k + 1, ?_⟩)
    exact ty_21 fn fend fcnt yG yT yL yW yN yS h hk h31 hb (by omega) hX (fun x1 yT yL yW hP' => ih (c + 1) (by omega) x1 yT yL yW hP') k 0 (by omega) x1 yT yL yW hP
theorem ty_grow (fn fend fcnt : Int32) (yG yT yL : Nat → Int32) (yW : Nat → Int64) (yN : Nat → Int32) (yS : Nat → Int64) {post : Int32 → SY → Prop} {n e k b : Nat} {G : Nat → Nat} (h : tm_N n e) (hk : k ≤ 4) (h31 : tm_31 n k G) (hb : b + 1100 < 2 ^ 31) (hX : tm_NX n e k G yN) (hJ : tm_J n e k G b yT yL yW)
    (hp : ∀ x1 yT' yL' yW', tm_GP n e k G b e 0 yT yL yW x1 yT' yL' yW' → post x1 (nI n, nI e, nI k, yG, yT', yL', yW', yN, yS)) : wpY_grow post (nI n, nI e, nI k, yG, yT, yL, yW, yN, yS) :=
  ⟨e + 1, ty_g4 fn fend fcnt yG yT yL yW yN yS h hk h31 hb hX hp e 0 (by omega) 0 yT yL yW ⟨hJ, fun _ hx => hx, fun c' g' hz => by omega, Or.inl rfl, fun _ => ⟨rfl, rfl, rfl⟩⟩⟩
/-- what work leaves -/
def tm_YF (n e k : Nat) (G : Nat → Nat) (yT yL : Nat → Int32) (yW : Nat → Int64) : Prop := ∀ c, c < e → (yT c = 0 ∧ ¬ tm_E n k G c) ∨ tm_D n k G yT yL yW c
theorem tm_JF {n e k b : Nat} {G : Nat → Nat} {yT yL : Nat → Int32} {yW : Nat → Int64} (hJ : tm_J n e k G b yT yL yW) (hD : ∀ c l N, tm_B n k G c l N → tm_D n k G yT yL yW c) : tm_YF n e k G yT yL yW := by
  intro c hc
  rcases hJ c hc with y | ⟨_, l, N, w, _⟩
  · refine Or.inl ⟨y, fun z => ?_⟩
    obtain ⟨l, N, hB⟩ := tm_Bex z
    obtain ⟨_, _, _, e1, _⟩ := hD c l N hB
    exact tx_10 (e1.symm.trans y)
  · obtain ⟨l, N, hB⟩ := tm_Bex ⟨l, N, w⟩
    exact Or.inr (hD c l N hB)
theorem tm_DB {n k : Nat} {G : Nat → Nat} {yT yL : Nat → Int32} {yW : Nat → Int64} {c l N : Nat} (hD : tm_D n k G yT yL yW c) (hB : tm_B n k G c l N) : yT c = 1 ∧ yL c = nI l ∧ yW c = lN (N - 4 ^ l) := by
  obtain ⟨l0, N0, hB0, e1, e2, e3⟩ := hD
  obtain ⟨rfl, rfl⟩ := tm_Bu hB hB0
  exact ⟨e1, e2, e3⟩
theorem ty_w52 (fn fend fcnt : Int32) (yG yT yL : Nat → Int32) (yW : Nat → Int64) (yN : Nat → Int32) (yS : Nat → Int64) {post : SY → Prop} {n e k : Nat} {G : Nat → Nat} (h : tm_N n e) (hk : k ≤ 4) (h31 : tm_31 n k G) (hX : tm_NX n e k G yN)
    (hp : ∀ yT yL yW, tm_YF n e k G yT yL yW → post (nI n, nI e, nI k, yG, yT, yL, yW, yN, yS)) :
    ∀ t r, r + t = 3000 → ∀ x2 yT yL yW, tm_J n e k G (1024 * r) yT yL yW → (∀ c l N, tm_B n k G c l N → l ≤ r → tm_D n k G yT yL yW c) → (x2 = 0 → ∀ c l N, tm_B n k G c l N → tm_D n k G yT yL yW c) → wY_work_52 post (t + 1) x2 (nI r) (nI n) (nI e) (nI k) yG yT yL yW yN yS := by
  have H := tm_Npos h
  intro t
  induction t with
  | zero =>
    intro r hr x2 yT yL yW hJ hC hx
    exact br_t (nI_le (a := 3000) (by omega) (by omega)) (hp yT yL yW (tm_JF hJ fun c l N hB => hC c l N hB (by have := h31 c l N hB; omega)))
  | succ t ih =>
    intro r hr x2 yT yL yW hJ hC hx
    refine br_f (nI_ge (b := 3000) (by omega) (by decide)) ?_
    by_cases z : x2 = 0
    · exact br_t z (hp yT yL yW (tm_JF hJ (hx z)))
    refine br_f z (ty_grow fn fend fcnt yG yT yL yW yN yS h hk h31 (by omega) hX hJ (fun x1 yT' yL' yW' hP => nm_r (nI_1 r) ?_))
    obtain ⟨p1, p2, p3, p4, p5⟩ := hP
    have S : ∀ l, (∀ c N, tm_B n k G c l N → tm_D n k G yT yL yW c) → ∀ c N, tm_B n k G c (l + 1) N → tm_D n k G yT' yL' yW' c := by
      intro l hl c N hB
      obtain ⟨b, hb1, hb2, hb3⟩ := tm_Bp hk hB
      have hbe := tm_Wlt h hb1.1
      have := p3 b (N % 4) (Or.inl ⟨hbe, hb2⟩) l (N / 4) hb1 (hl b _ hb1)
      rw [hb3, show 4 * (N / 4) + N % 4 = N from by omega] at this
      exact this hB
    refine ih (r + 1) (by omega) x1 yT' yL' yW' (tm_Jm p1 (by omega)) (fun c l N hB hl => ?_) (fun hx1 => ?_)
    · cases l with
      | zero => exact p2 c (hC c 0 N hB (by omega))
      | succ l => exact S l (fun c N hB => hC c l N hB (by omega)) c N hB
    · obtain ⟨e1, e2, e3⟩ := p5 hx1
      subst e1 e2 e3
      have A : ∀ l c N, tm_B n k G c l N → tm_D n k G yT' yL' yW' c := by
        intro l
        induction l with
        | zero => intro c N hB; exact hC c 0 N hB (by omega)
        | succ l ihl => exact S l ihl
      exact fun c l N hB => A l c N hB
theorem ty_w2 (fn fend fcnt : Int32) (yG yT yL : Nat → Int32) (yW : Nat → Int64) (yN : Nat → Int32) (yS : Nat → Int64) {post : SY → Prop} {n e k : Nat} {G : Nat → Nat} (h : tm_N n e) (hk : k ≤ 4) (h31 : tm_31 n k G) (hX : tm_NX n e k G yN)
    (hp : ∀ yT yL yW, tm_YF n e k G yT yL yW → post (nI n, nI e, nI k, yG, yT, yL, yW, yN, yS)) :
    ∀ t c, c + t = 256 → ∀ yT, (∀ x, x < c → yT x = 0) → wY_work_2 post (nI n) (nI e) (nI k) (t + 1) (nI c) yG yT yL yW yN yS := by
  have H := tm_Npos h
  intro t
  induction t with
  | zero =>
    intro c hc yT hw
    have hu := tm_ult h
    refine br_t (nI_le (a := 256) (by omega) (by omega)) (ty_unit fn fend fcnt yG yT yL yW yN yS h ⟨vp_in_nI (by omega) (by omega), nm_e ⟨vp_in_nI (by omega) (by omega), nm_e ⟨vp_in_nI (by omega) (by omega), nm_e ⟨3000 + 1, ?_⟩⟩⟩⟩)
    rw [nI_clamp (by omega : tm_u n < 2 ^ 31)]
    have hD0 : tm_D n k G (upd yT (tm_u n) 1) (upd yL (tm_u n) 0) (vp_updL yW (tm_u n) 0) (tm_u n) := ⟨0, 1, tm_B0, pk_us, pk_us, pk_uLs⟩
    refine ty_w52 fn fend fcnt yG yT yL yW yN yS h hk h31 hX hp 3000 0 (by omega) 1 _ _ _ (fun x hx => ?_) (fun x l N hB hl => ?_) (fun z => absurd z tx_10)
    · by_cases z : x = tm_u n
      · rw [z]
        exact Or.inr ⟨pk_us, 0, 1, ⟨rfl, rfl⟩, by omega, pk_us, fun _ => pk_uLs⟩
      · rw [pk_un z]
        exact Or.inl (hw x (by omega))
    · obtain rfl : l = 0 := by omega
      have : x = tm_u n := hB.1.2
      rw [this]
      exact hD0
  | succ t ih =>
    intro c hc yT hw
    refine br_f (nI_ge (b := 256) (by omega) (by decide)) ⟨vp_in_nI (by omega) (by omega), nm_e (nm_r (nI_1 c) (ih (c + 1) (by omega) _ fun x hx => ?_))⟩
    rw [nI_clamp (by omega)]
    by_cases z : x = c
    · subst z; exact pk_us
    · rw [pk_un z]; exact hw x (by omega)
theorem ty_work (fn fend fcnt : Int32) (yG yT yL : Nat → Int32) (yW : Nat → Int64) (yN : Nat → Int32) (yS : Nat → Int64) {post : SY → Prop} {n e k : Nat} {G : Nat → Nat} (h : tm_N n e) (hk : k ≤ 4) (h31 : tm_31 n k G) (hX : tm_NX n e k G yN)
    (hp : ∀ yT yL yW, tm_YF n e k G yT yL yW → post (nI n, nI e, nI k, yG, yT, yL, yW, yN, yS)) : wpY_work post (nI n, nI e, nI k, yG, yT, yL, yW, yN, yS) :=
  ⟨256 + 1, ty_w2 fn fend fcnt yG yT yL yW yN yS h hk h31 hX hp 256 0 (by omega) yT (fun x hx => by omega)⟩
