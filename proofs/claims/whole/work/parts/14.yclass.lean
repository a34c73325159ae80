/-! Y: classes, the kernel, commuting -/
def tm_nw (n k : Nat) (G : Nat → Nat) (d : Nat) (a : Nat) : Prop := tm_E n k G a ∧ ∀ b, b < a → tm_E n k G b → ¬ tm_q2 n k G d a b
theorem ty_c69 (fn fend fcnt : Int32) (yG yT yL : Nat → Int32) (yW : Nat → Int64) (yN : Nat → Int32) (yS : Nat → Int64) {post : Int32 → SY → Prop} {J50 : Int32 → Int32 → Prop} {n e k d a r : Nat} {G : Nat → Nat} (h : tm_N n e) (hF : tm_YF n e k G yT yL yW) (ha : a < e) (hS : ∀ x c, x < e → tm_E n k G x → c < e → (tm_t yS x c ↔ tm_R n k G d x c))
    (hY : tm_nw n k G d a → J50 (nI (r + 1)) (nI (a + 1))) (hN : ¬ tm_nw n k G d a → J50 (nI r) (nI (a + 1))) :
    ∀ t b, b + t = a → ∀ x : Int32, (¬ x = 0 ↔ tm_E n k G a ∧ ∀ b', b' < b → tm_E n k G b' → ¬ tm_q2 n k G d a b') → wY_classes_69 post J50 (nI r) (nI a) (nI n) (nI e) (nI k) yG yT yL yW yN yS (t + 1) x (nI b) := by
  have H := tm_Npos h
  intro t
  induction t with
  | zero =>
    intro b hb x hx
    obtain rfl : b = a := by omega
    refine br_t (nI_le (by omega) (by omega)) ?_
    by_cases z : x = 0
    · exact br_t z (nm_r (nI_1 b) (hN fun w => hx.mpr w z))
    · exact br_f z (nm_r (nI_1 r) (nm_r (nI_1 b) (hY (hx.mp z))))
  | succ t ih =>
    intro b hb x hx
    refine br_f (nI_ge (by omega) (by omega)) ⟨vp_in_nI (by omega) (by omega), ?_⟩
    rw [nI_clamp (by omega : b < 2 ^ 31)]
    have K : (tm_E n k G a → tm_E n k G b → ¬ tm_q2 n k G d a b) → wY_classes_69 post J50 (nI r) (nI a) (nI n) (nI e) (nI k) yG yT yL yW yN yS (t + 1) x (nI (b + 1)) := by
      intro w
      refine ih (b + 1) (by omega) x (hx.trans ⟨fun v => ⟨v.1, fun b' hb' => ?_⟩, fun v => ⟨v.1, fun b' hb' => v.2 b' (by omega)⟩⟩)
      by_cases u : b' = b
      · subst u; exact w v.1
      · exact v.2 b' (by omega)
    by_cases z : tm_E n k G b
    · refine br_f (ty_Ty hF (by omega) z) (ty_in (nI n) (nI e) (nI k) yG yT yL yW yN yS (by omega) (by omega) (fun y => br_f tx_10 ?_) (fun y => br_t rfl (nm_r (nI_1 b) (K fun w _ v => y ((hS a b ha w (by omega)).mpr v.1)))))
      refine ty_in (nI n) (nI e) (nI k) yG yT yL yW yN yS (by omega) (by omega) (fun y' => br_f tx_10 ?_) (fun y' => br_t rfl (nm_r (nI_1 b) (K fun _ _ v => y' ((hS b a (by omega) z ha).mpr v.2))))
      refine nm_r (nI_1 b) (ih (b + 1) (by omega) 0 ⟨fun v => absurd rfl v, fun v => ?_⟩)
      exact absurd ⟨(hS a b ha v.1 (by omega)).mp y, (hS b a (by omega) z ha).mp y'⟩ (v.2 b (by omega) z)
    · exact br_t (ty_Tn hF (by omega) z) (nm_r (nI_1 b) (K fun _ v => absurd v z))
theorem ty_c50 (fn fend fcnt : Int32) (yG yT yL : Nat → Int32) (yW : Nat → Int64) (yN : Nat → Int32) (yS : Nat → Int64) {post : Int32 → SY → Prop} {n e k d : Nat} {G : Nat → Nat} (h : tm_N n e) (hF : tm_YF n e k G yT yL yW) (hS : ∀ x c, x < e → tm_E n k G x → c < e → (tm_t yS x c ↔ tm_R n k G d x c))
    (hp : post (nI (tm_c (tm_nw n k G d) e)) (nI n, nI e, nI k, yG, yT, yL, yW, yN, yS)) :
    ∀ t a, a + t = e → wY_classes_50 post (nI n) (nI e) (nI k) yG yT yL yW yN yS (t + 1) (nI (tm_c (tm_nw n k G d) a)) (nI a) := by
  have H := tm_Npos h
  intro t
  induction t with
  | zero =>
    intro a ha
    obtain rfl : a = e := by omega
    exact br_t (nI_le (by omega) (by omega)) hp
  | succ t ih =>
    intro a ha
    have T := ih (a + 1) (by omega)
    refine br_f (nI_ge (by omega) (by omega)) ⟨vp_in_nI (by omega) (by omega), nm_e ⟨a + 1, ?_⟩⟩
    rw [nI_clamp (by omega : a < 2 ^ 31)]
    refine ty_c69 fn fend fcnt yG yT yL yW yN yS (d := d) (G := G) h hF (by omega) hS (fun z => ?_) (fun z => ?_) a 0 (by omega) (yT a) ⟨fun z => ⟨?_, fun b' hb' => by omega⟩, fun z => ty_Ty hF (by omega) z.1⟩
    · rw [tm_ct z] at T; exact T
    · rw [tm_cf z] at T; exact T
    · by_cases y : tm_E n k G a
      · exact y
      · exact absurd (ty_Tn hF (by omega) y) z
theorem ty_c17 (fn fend fcnt : Int32) (yG yT yL : Nat → Int32) (yW : Nat → Int64) (yN : Nat → Int32) (yS : Nat → Int64) {post : Int32 → SY → Prop} {n e k d : Nat} {G : Nat → Nat} (h : tm_N n e) (hk : k ≤ 4) (hd : d ≤ 2) (hX : tm_NX n e k G yN) (hF : tm_YF n e k G yT yL yW)
    (hp : ∀ yS, post (nI (tm_c (tm_nw n k G d) e)) (nI n, nI e, nI k, yG, yT, yL, yW, yN, yS)) :
    ∀ t a, a + t = e → ∀ yS, (∀ x c, x < a → tm_E n k G x → c < e → (tm_t yS x c ↔ tm_R n k G d x c)) → wY_classes_17 post (nI d) (t + 1) (nI a) (nI n) (nI e) (nI k) yG yT yL yW yN yS := by
  have H := tm_Npos h
  intro t
  induction t with
  | zero =>
    intro a ha yS hS
    obtain rfl : a = e := by omega
    exact br_t (nI_le (by omega) (by omega)) ⟨a + 1, ty_c50 fn fend fcnt yG yT yL yW yN yS h hF hS (hp yS) a 0 (by omega)⟩
  | succ t ih =>
    intro a ha yS hS
    refine br_f (nI_ge (by omega) (by omega)) ⟨vp_in_nI (by omega) (by omega), ?_⟩
    rw [nI_clamp (by omega : a < 2 ^ 31)]
    by_cases z : tm_E n k G a
    · refine br_f (ty_Ty hF (by omega) z) (ty_fill fn fend fcnt yG yT yL yW yN yS h hk hd (by omega) hX (fun yS' h1 h2 => nm_r (nI_1 a) (ih (a + 1) (by omega) yS' fun x c hx hE hc => ?_)))
      by_cases y : x = a
      · subst y; exact h1 c hc
      · have e1 : tm_t yS' x c ↔ tm_t yS x c := by
          unfold tm_t
          rw [h2 (4 * x + c / 64) (by omega)]
        exact e1.trans (hS x c (by omega) hE hc)
    · refine br_t (ty_Tn hF (by omega) z) (nm_r (nI_1 a) (ih (a + 1) (by omega) yS fun x c hx hE hc => ?_))
      by_cases y : x = a
      · subst y; exact absurd hE z
      · exact hS x c (by omega) hE hc
theorem ty_ke11 (fn fend fcnt : Int32) (yG yT yL : Nat → Int32) (yW : Nat → Int64) (yN : Nat → Int32) (yS : Nat → Int64) {post : Int32 → SY → Prop} {n e k : Nat} {G : Nat → Nat} (h : tm_N n e) (hk : k ≤ 4) (hX : tm_NX n e k G yN) (hF : tm_YF n e k G yT yL yW)
    (hp : ∀ yS r, r ≤ e → (∀ a, tm_E n k G a → r ≤ tm_Z n e k G 2 a) → (r = e ∨ ∃ a, tm_E n k G a ∧ r = tm_Z n e k G 2 a) → post (nI r) (nI n, nI e, nI k, yG, yT, yL, yW, yN, yS)) :
    ∀ t a, a + t = e → ∀ yS r, r ≤ e → (∀ x, x < a → tm_E n k G x → r ≤ tm_Z n e k G 2 x) → (r = e ∨ ∃ a, tm_E n k G a ∧ r = tm_Z n e k G 2 a) → wY_kernel_11 post (t + 1) (nI r) (nI a) (nI n) (nI e) (nI k) yG yT yL yW yN yS := by
  have H := tm_Npos h
  intro t
  induction t with
  | zero =>
    intro a ha yS r h1 h2 h3
    exact br_t (nI_le (by omega) (by omega)) (hp yS r h1 (fun x hx => h2 x (by have := tm_Elt h hx; omega) hx) h3)
  | succ t ih =>
    intro a ha yS r h1 h2 h3
    refine br_f (nI_ge (by omega) (by omega)) ⟨vp_in_nI (by omega) (by omega), ?_⟩
    rw [nI_clamp (by omega : a < 2 ^ 31)]
    by_cases z : tm_E n k G a
    · have b1 : tm_Z n e k G 2 a ≤ e := tm_Zle
      refine br_f (ty_Ty hF (by omega) z) (ty_fill fn fend fcnt yG yT yL yW yN yS (d := 2) h hk (Nat.le_refl _) (by omega) hX (fun yS' g1 g2 => ty_mem fn fend fcnt yG yT yL yW yN yS' h (by omega) g1 (pk_le r (tm_Z n e k G 2 a) (fun y => ?_) (fun y => ?_))))
      · refine nm_r (nI_1 a) (ih (a + 1) (by omega) yS' r h1 (fun x hx hE => ?_) h3)
        by_cases v : x = a
        · subst v; exact y
        · exact h2 x (by omega) hE
      · refine nm_r (nI_1 a) (ih (a + 1) (by omega) yS' _ b1 (fun x hx hE => ?_) (Or.inr ⟨a, z, rfl⟩))
        by_cases v : x = a
        · subst v; exact Nat.le_refl _
        · have := h2 x (by omega) hE; omega
    · refine br_t (ty_Tn hF (by omega) z) (nm_r (nI_1 a) (ih (a + 1) (by omega) yS r h1 (fun x hx hE => ?_) h3))
      by_cases v : x = a
      · subst v; exact absurd hE z
      · exact h2 x (by omega) hE
theorem ty_co16 (fn fend fcnt : Int32) (yG yT yL : Nat → Int32) (yW : Nat → Int64) (yN : Nat → Int32) (yS : Nat → Int64) {post : Int32 → SY → Prop} {J6 : Int32 → Prop} {n e k a : Nat} {G : Nat → Nat} (h : tm_N n e) (hF : tm_YF n e k G yT yL yW) (ha : a < e)
    (hN : (∃ a b, tm_E n k G a ∧ tm_E n k G b ∧ tm_m n a b ≠ tm_m n b a) → post 0 (nI n, nI e, nI k, yG, yT, yL, yW, yN, yS)) (hJ : (∀ b, b < a → tm_E n k G a → tm_E n k G b → tm_m n a b = tm_m n b a) → J6 (nI (a + 1))) :
    ∀ t b, b + t = a → (∀ b', b' < b → tm_E n k G a → tm_E n k G b' → tm_m n a b' = tm_m n b' a) → wY_commutes_16 post J6 (nI a) (nI n) (nI e) (nI k) yG yT yL yW yN yS (t + 1) (nI b) := by
  have H := tm_Npos h
  intro t
  induction t with
  | zero =>
    intro b hb hA
    obtain rfl : b = a := by omega
    exact br_t (nI_le (by omega) (by omega)) (nm_r (nI_1 b) (hJ hA))
  | succ t ih =>
    intro b hb hA
    refine br_f (nI_ge (by omega) (by omega)) ⟨vp_in_nI (by omega) (by omega), ?_⟩
    rw [nI_clamp (by omega : a < 2 ^ 31), nI_clamp (by omega : b < 2 ^ 31)]
    have K : (tm_E n k G a → tm_E n k G b → tm_m n a b = tm_m n b a) → wY_commutes_16 post J6 (nI a) (nI n) (nI e) (nI k) yG yT yL yW yN yS (t + 1) (nI (b + 1)) := by
      intro w
      refine ih (b + 1) (by omega) fun b' hb' => ?_
      by_cases v : b' = b
      · subst v; exact w
      · exact hA b' (by omega)
    by_cases z : tm_E n k G a
    · refine br_f (ty_Ty hF (by omega) z) ⟨vp_in_nI (by omega) (by omega), ?_⟩
      by_cases y : tm_E n k G b
      · have m1 := tm_lt h a b
        have m2 := tm_lt h b a
        refine br_f (ty_Ty hF (by omega) y) (ty_times fn fend fcnt yG yT yL yW yN yS h ha (by omega) (ty_times fn fend fcnt yG yT yL yW yN yS h (by omega) ha (pk_eq (tm_m n a b) (tm_m n b a) (fun w => nm_r (nI_1 b) (K fun _ _ => w)) (fun w => hN ⟨a, b, z, y, w⟩))))
      · exact br_t (ty_Tn hF (by omega) y) (nm_r (nI_1 b) (K fun _ v => absurd v y))
    · exact br_t (ty_Tn hF (by omega) z) (nm_r (nI_1 b) (K fun v _ => absurd v z))
theorem ty_co6 (fn fend fcnt : Int32) (yG yT yL : Nat → Int32) (yW : Nat → Int64) (yN : Nat → Int32) (yS : Nat → Int64) {post : Int32 → SY → Prop} {n e k : Nat} {G : Nat → Nat} (h : tm_N n e) (hF : tm_YF n e k G yT yL yW)
    (hN : (∃ a b, tm_E n k G a ∧ tm_E n k G b ∧ tm_m n a b ≠ tm_m n b a) → post 0 (nI n, nI e, nI k, yG, yT, yL, yW, yN, yS)) (hY : (∀ a b, tm_E n k G a → tm_E n k G b → tm_m n a b = tm_m n b a) → post 1 (nI n, nI e, nI k, yG, yT, yL, yW, yN, yS)) :
    ∀ t a, a + t = e → (∀ a' b', a' < a → b' < a' → tm_E n k G a' → tm_E n k G b' → tm_m n a' b' = tm_m n b' a') → wY_commutes_6 post (nI n) (nI e) (nI k) yG yT yL yW yN yS (t + 1) (nI a) := by
  have H := tm_Npos h
  intro t
  induction t with
  | zero =>
    intro a ha hA
    refine br_t (nI_le (by omega) (by omega)) (hY fun x y hx hy => ?_)
    have x1 := tm_Elt h hx
    have y1 := tm_Elt h hy
    rcases Nat.lt_trichotomy x y with w | w | w
    · exact (hA y x (by omega) w hy hx).symm
    · rw [w]
    · exact hA x y (by omega) w hx hy
  | succ t ih =>
    intro a ha hA
    refine br_f (nI_ge (by omega) (by omega)) ⟨a + 1, ?_⟩
    refine ty_co16 fn fend fcnt yG yT yL yW yN yS (G := G) h hF (by omega) hN (fun hB => ih (a + 1) (by omega) fun x y hx hy => ?_) a 0 (by omega) (fun b' hb' => by omega)
    by_cases w : x = a
    · subst w; exact hB y hy
    · exact hA x y (by omega) hy
