/-! Y: the questions -/
theorem ty_Ty {n e k c : Nat} {G : Nat → Nat} {yT yL : Nat → Int32} {yW : Nat → Int64} (hF : tm_YF n e k G yT yL yW) (hc : c < e) (hE : tm_E n k G c) : ¬ yT c = 0 := by
  rcases hF c hc with y | ⟨_, _, _, e1, _⟩
  · exact absurd hE y.2
  · rw [e1]; exact tx_10
theorem ty_Tn {n e k c : Nat} {G : Nat → Nat} {yT yL : Nat → Int32} {yW : Nat → Int64} (hF : tm_YF n e k G yT yL yW) (hc : c < e) (hE : ¬ tm_E n k G c) : yT c = 0 := by
  rcases hF c hc with y | ⟨_, _, hB, _⟩
  · exact y.1
  · exact absurd (tm_BE hB) hE
theorem ty_TD {n e k c l N : Nat} {G : Nat → Nat} {yT yL : Nat → Int32} {yW : Nat → Int64} (h : tm_N n e) (hF : tm_YF n e k G yT yL yW) (hB : tm_B n k G c l N) : yL c = nI l ∧ yW c = lN (N - 4 ^ l) := by
  rcases hF c (tm_Wlt h hB.1) with y | y
  · exact absurd (tm_BE hB) y.2
  · exact (tm_DB y hB).2
theorem ty_tot4 (fn fend fcnt : Int32) (yG yT yL : Nat → Int32) (yW : Nat → Int64) (yN : Nat → Int32) (yS : Nat → Int64) {post : Int32 → Prop} {n e k : Nat} {G : Nat → Nat} (h : tm_N n e) (hF : tm_YF n e k G yT yL yW) (hp : post (nI (tm_c (tm_E n k G) e))) : ∀ t c, c + t = e → wY_total_4 post (nI n) (nI e) (nI k) yG yT yL yW yN yS (t + 1) (nI (tm_c (tm_E n k G) c)) (nI c) := by
  have H := tm_Npos h
  intro t
  induction t with
  | zero =>
    intro c hc
    obtain rfl : c = e := by omega
    exact br_t (nI_le (by omega) (by omega)) hp
  | succ t ih =>
    intro c hc
    have T := ih (c + 1) (by omega)
    refine br_f (nI_ge (by omega) (by omega)) ⟨vp_in_nI (by omega) (by omega), ?_⟩
    rw [nI_clamp (by omega : c < 2 ^ 31)]
    by_cases z : tm_E n k G c
    · rw [tm_ct z] at T
      exact br_f (ty_Ty hF (by omega) z) (nm_r (nI_1 _) (nm_r (nI_1 c) T))
    · rw [tm_cf z] at T
      exact br_t (ty_Tn hF (by omega) z) (nm_r (nI_1 c) T)
theorem ty_el8 (fn fend fcnt : Int32) (yG yT yL : Nat → Int32) (yW : Nat → Int64) (yN : Nat → Int32) (yS : Nat → Int64) {post : Int32 → SY → Prop} {n e k : Nat} {G : Nat → Nat} {v : Int32} (h : tm_N n e) (hF : tm_YF n e k G yT yL yW) : ∀ t c b, c + t = e → post (tm_el (tm_E n k G) v t c b) (nI n, nI e, nI k, yG, yT, yL, yW, yN, yS) → wY_element_8 post v (nI n) (nI e) (nI k) yG yT yL yW yN yS (t + 1) b (nI c) := by
  have H := tm_Npos h
  intro t
  induction t with
  | zero =>
    intro c b hc hp
    exact br_t (nI_le (by omega) (by omega)) hp
  | succ t ih =>
    intro c b hc hp
    refine br_f (nI_ge (by omega) (by omega)) ⟨vp_in_nI (by omega) (by omega), ?_⟩
    rw [nI_clamp (by omega : c < 2 ^ 31)]
    unfold tm_el at hp
    by_cases z : tm_E n k G c
    · rw [tm_bt z, if_pos rfl] at hp
      refine br_f (ty_Ty hF (by omega) z) ?_
      by_cases y : b = v
      · rw [if_pos y] at hp
        exact br_t y hp
      · rw [if_neg y] at hp
        exact br_f y (nm_e (nm_r (nI_1 c) (ih (c + 1) _ (by omega) hp)))
    · rw [tm_bf z, if_neg (by decide)] at hp
      exact br_t (ty_Tn hF (by omega) z) (nm_r (nI_1 c) (ih (c + 1) b (by omega) hp))
theorem ty_lo8 (fn fend fcnt : Int32) (yG yT yL : Nat → Int32) (yW : Nat → Int64) (yN : Nat → Int32) (yS : Nat → Int64) {post : Int32 → SY → Prop} {n e k : Nat} {G : Nat → Nat} (h : tm_N n e) (h31 : tm_31 n k G) (hF : tm_YF n e k G yT yL yW)
    (hp : ∀ r, (∀ c l N, tm_B n k G c l N → l ≤ r) → (r = 0 ∨ ∃ c N, tm_B n k G c r N) → post (nI r) (nI n, nI e, nI k, yG, yT, yL, yW, yN, yS)) :
    ∀ t c, c + t = e → ∀ r, r ≤ 31 → (∀ x l N, x < c → tm_B n k G x l N → l ≤ r) → (r = 0 ∨ ∃ c N, tm_B n k G c r N) → wY_longest_8 post (nI n) (nI e) (nI k) yG yT yL yW yN yS (t + 1) (nI r) (nI c) := by
  have H := tm_Npos h
  intro t
  induction t with
  | zero =>
    intro c hc r hr h1 h2
    refine br_t (nI_le (by omega) (by omega)) (hp r (fun x l N hB => h1 x l N ?_ hB) h2)
    have := tm_Wlt h hB.1
    omega
  | succ t ih =>
    intro c hc r hr h1 h2
    refine br_f (nI_ge (by omega) (by omega)) ⟨vp_in_nI (by omega) (by omega), ?_⟩
    rw [nI_clamp (by omega : c < 2 ^ 31)]
    by_cases z : tm_E n k G c
    · obtain ⟨l0, N0, hB⟩ := tm_Bex z
      have a1 := h31 _ _ _ hB
      refine br_f (ty_Ty hF (by omega) z) ⟨vp_in_nI (by omega) (by omega), ?_⟩
      rw [(ty_TD h hF hB).1]
      refine pk_le l0 r (fun y => ?_) (fun y => ⟨vp_in_nI (by omega) (by omega), nm_e ?_⟩)
      · refine nm_r (nI_1 c) (ih (c + 1) (by omega) r hr (fun x l N hx hB' => ?_) h2)
        by_cases v : x = c
        · subst v
          obtain ⟨rfl, rfl⟩ := tm_Bu hB hB'
          exact y
        · exact h1 x l N (by omega) hB'
      · refine nm_r (nI_1 c) (ih (c + 1) (by omega) l0 a1 (fun x l N hx hB' => ?_) (Or.inr ⟨c, N0, hB⟩))
        by_cases v : x = c
        · subst v
          obtain ⟨rfl, rfl⟩ := tm_Bu hB hB'
          exact Nat.le_refl _
        · have := h1 x l N (by omega) hB'
          omega
    · refine br_t (ty_Tn hF (by omega) z) (nm_r (nI_1 c) (ih (c + 1) (by omega) r hr (fun x l N hx hB' => ?_) h2))
      by_cases v : x = c
      · subst v; exact absurd (tm_BE hB') z
      · exact h1 x l N (by omega) hB'
theorem ty_id8 (fn fend fcnt : Int32) (yG yT yL : Nat → Int32) (yW : Nat → Int64) (yN : Nat → Int32) (yS : Nat → Int64) {post : Int32 → SY → Prop} {n e k : Nat} {G : Nat → Nat} (h : tm_N n e) (hF : tm_YF n e k G yT yL yW) (hp : post (nI (tm_c (fun c => tm_E n k G c ∧ tm_m n c c = c) e)) (nI n, nI e, nI k, yG, yT, yL, yW, yN, yS)) : ∀ t c, c + t = e → wY_idempotents_8 post (nI n) (nI e) (nI k) yG yT yL yW yN yS (t + 1) (nI (tm_c (fun c => tm_E n k G c ∧ tm_m n c c = c) c)) (nI c) := by
  have H := tm_Npos h
  intro t
  induction t with
  | zero =>
    intro c hc
    obtain rfl : c = e := by omega
    exact br_t (nI_le (by omega) (by omega)) hp
  | succ t ih =>
    intro c hc
    have T := ih (c + 1) (by omega)
    refine br_f (nI_ge (by omega) (by omega)) ⟨vp_in_nI (by omega) (by omega), ?_⟩
    rw [nI_clamp (by omega : c < 2 ^ 31)]
    by_cases z : tm_E n k G c
    · have m1 := tm_lt h c c
      refine br_f (ty_Ty hF (by omega) z) (ty_times fn fend fcnt yG yT yL yW yN yS h (by omega) (by omega) (pk_eq (tm_m n c c) c (fun y => ?_) (fun y => ?_)))
      · rw [tm_ct (P := fun c => tm_E n k G c ∧ tm_m n c c = c) ⟨z, y⟩] at T
        exact nm_r (nI_1 _) (nm_r (nI_1 c) T)
      · rw [tm_cf (P := fun c => tm_E n k G c ∧ tm_m n c c = c) (fun v => y v.2)] at T
        exact nm_r (nI_1 c) T
    · rw [tm_cf (P := fun c => tm_E n k G c ∧ tm_m n c c = c) (fun v => z v.1)] at T
      exact br_t (ty_Tn hF (by omega) z) (nm_r (nI_1 c) T)
def tm_iv (n k : Nat) (G : Nat → Nat) (a : Nat) : Prop := ∃ b, tm_E n k G b ∧ tm_m n a b = tm_u n ∧ tm_m n b a = tm_u n
theorem ty_iv2 (fn fend fcnt : Int32) (yG yT yL : Nat → Int32) (yW : Nat → Int64) (yN : Nat → Int32) (yS : Nat → Int64) {post : Int32 → Prop} {n e k a : Nat} {G : Nat → Nat} (h : tm_N n e) (hF : tm_YF n e k G yT yL yW) (ha : a < e) (hY : tm_iv n k G a → post 1) (hN : ¬ tm_iv n k G a → post 0) :
    ∀ t b, b + t = e → (∀ b', b' < b → tm_E n k G b' → ¬ (tm_m n a b' = tm_u n ∧ tm_m n b' a = tm_u n)) → wY_inverted_2 post (nI a) (nI (tm_u n)) (nI n) (nI e) (nI k) yG yT yL yW yN yS (t + 1) (nI b) := by
  have H := tm_Npos h
  have hu := tm_ult h
  intro t
  induction t with
  | zero =>
    intro b hb hA
    refine br_t (nI_le (by omega) (by omega)) (hN fun z => ?_)
    obtain ⟨x, x1, x2⟩ := z
    exact hA x (by have := tm_Elt h x1; omega) x1 x2
  | succ t ih =>
    intro b hb hA
    refine br_f (nI_ge (by omega) (by omega)) ⟨vp_in_nI (by omega) (by omega), ?_⟩
    rw [nI_clamp (by omega : b < 2 ^ 31)]
    have R : (tm_E n k G b → ¬ (tm_m n a b = tm_u n ∧ tm_m n b a = tm_u n)) → wY_inverted_2 post (nI a) (nI (tm_u n)) (nI n) (nI e) (nI k) yG yT yL yW yN yS (t + 1) (nI (b + 1)) := by
      intro w
      refine ih (b + 1) (by omega) fun b' hb' => ?_
      by_cases v : b' = b
      · subst v; exact w
      · exact hA b' (by omega)
    by_cases z : tm_E n k G b
    · have m1 := tm_lt h a b
      have m2 := tm_lt h b a
      refine br_f (ty_Ty hF (by omega) z) (ty_times fn fend fcnt yG yT yL yW yN yS h ha (by omega) (pk_eq (tm_m n a b) (tm_u n) (fun y => ?_) (fun y => nm_r (nI_1 b) (R fun _ v => y v.1))))
      refine ty_times fn fend fcnt yG yT yL yW yN yS h (by omega) ha (pk_eq (tm_m n b a) (tm_u n) (fun y' => hY ⟨b, z, y, y'⟩) (fun y' => nm_r (nI_1 b) (R fun _ v => y' v.2)))
    · exact br_t (ty_Tn hF (by omega) z) (nm_r (nI_1 b) (R fun v => absurd v z))
theorem ty_un13 (fn fend fcnt : Int32) (yG yT yL : Nat → Int32) (yW : Nat → Int64) (yN : Nat → Int32) (yS : Nat → Int64) {post : Int32 → SY → Prop} {n e k : Nat} {G : Nat → Nat} (h : tm_N n e) (hF : tm_YF n e k G yT yL yW) (hp : post (nI (tm_c (fun c => tm_E n k G c ∧ tm_iv n k G c) e)) (nI n, nI e, nI k, yG, yT, yL, yW, yN, yS)) : ∀ t c, c + t = e → wY_units_13 post (nI (tm_u n)) (nI n) (nI e) (nI k) yG yT yL yW yN yS (t + 1) (nI (tm_c (fun c => tm_E n k G c ∧ tm_iv n k G c) c)) (nI c) := by
  have H := tm_Npos h
  intro t
  induction t with
  | zero =>
    intro c hc
    obtain rfl : c = e := by omega
    exact br_t (nI_le (by omega) (by omega)) hp
  | succ t ih =>
    intro c hc
    have T := ih (c + 1) (by omega)
    refine br_f (nI_ge (by omega) (by omega)) ⟨vp_in_nI (by omega) (by omega), ?_⟩
    rw [nI_clamp (by omega : c < 2 ^ 31)]
    by_cases z : tm_E n k G c
    · refine br_f (ty_Ty hF (by omega) z) ⟨e + 1, ty_iv2 fn fend fcnt yG yT yL yW yN yS (G := G) h hF (by omega) (fun y => br_f tx_10 ?_) (fun y => br_t rfl ?_) e 0 (by omega) (fun b' hb' => by omega)⟩
      · rw [tm_ct (P := fun c => tm_E n k G c ∧ tm_iv n k G c) ⟨z, y⟩] at T
        exact nm_r (nI_1 _) (nm_r (nI_1 c) T)
      · rw [tm_cf (P := fun c => tm_E n k G c ∧ tm_iv n k G c) (fun v => y v.2)] at T
        exact nm_r (nI_1 c) T
    · rw [tm_cf (P := fun c => tm_E n k G c ∧ tm_iv n k G c) (fun v => z v.1)] at T
      exact br_t (ty_Tn hF (by omega) z) (nm_r (nI_1 c) T)
theorem ty_pc4 : ∀ s, s < 16 → (((nI s &&& 1) + ((nI s >>> ((1 : Int32) &&& 31)) &&& 1)) + ((nI s >>> ((2 : Int32) &&& 31)) &&& 1)) + ((nI s >>> ((3 : Int32) &&& 31)) &&& 1) = nI (tm_pc s) := by decide +kernel
theorem ty_rk14 (fn fend fcnt : Int32) (yG yT yL : Nat → Int32) (yW : Nat → Int64) (yN : Nat → Int32) (yS : Nat → Int64) {post : Int32 → Prop} {n e k f : Nat} (h : tm_N n e) (hf : f < e) (hp : post (nI (tm_rk n f))) : ∀ d p, p + d = n → wY_rank_14 post (nI f) (nI n) (nI e) (nI k) yG yT yL yW yN yS (d + 1) (nI (tm_or n f p)) (nI p) := by
  have H := tm_Npos h
  intro d
  induction d with
  | zero =>
    intro p hpd
    obtain rfl : p = n := by omega
    refine br_t (nI_le (by omega) (by omega)) ?_
    rw [ty_pc4 _ (tm_orlt h f p)]
    exact hp
  | succ d ih =>
    intro p hpd
    have hi := tm_imlt h f p
    exact br_f (nI_ge (by omega) (by omega)) (ty_im fn fend fcnt yG yT yL yW yN yS h hf (by omega) (nm_r (e' := nI (tm_or n f (p + 1))) (tx_bit _ (tm_orlt h f p) _ (by omega : tm_im n f p < 4)).2.1 (nm_r (nI_1 p) (ih (p + 1) (by omega)))))
theorem ty_po5 (fn fend fcnt : Int32) (yG yT yL : Nat → Int32) (yW : Nat → Int64) (yN : Nat → Int32) (yS : Nat → Int64) {post : Int32 → Prop} {n e k c j : Nat} (h : tm_N n e) (hc : c < e) (hj : j < 100) (hp : post (nI (tm_p n c j))) : ∀ t i, i + t = j → wY_power_5 post (nI c) (nI (j + 1)) (nI n) (nI e) (nI k) yG yT yL yW yN yS (t + 1) (nI (tm_p n c i)) (nI (i + 1)) := by
  have H := tm_Npos h
  intro t
  induction t with
  | zero =>
    intro i hi
    obtain rfl : i = j := by omega
    exact br_t (nI_le (by omega) (by omega)) hp
  | succ t ih =>
    intro i hi
    exact br_f (nI_ge (by omega) (by omega)) (ty_times fn fend fcnt yG yT yL yW yN yS h (tm_plt h hc i) hc (nm_r (nI_1 (i + 1)) (ih (i + 1) (by omega))))
theorem ty_po (fn fend fcnt : Int32) (yG yT yL : Nat → Int32) (yW : Nat → Int64) (yN : Nat → Int32) (yS : Nat → Int64) {post : Int32 → Prop} {n e k c j : Nat} (h : tm_N n e) (hc : c < e) (hj : j < 100) (hp : post (nI (tm_p n c j))) : wpY_power post (nI n, nI e, nI k, yG, yT, yL, yW, yN, yS) (nI c) (nI (j + 1)) :=
  ⟨j + 1, ty_po5 fn fend fcnt yG yT yL yW yN yS h hc hj hp j 0 (by omega)⟩
theorem ty_ro2 (fn fend fcnt : Int32) (yG yT yL : Nat → Int32) (yW : Nat → Int64) (yN : Nat → Int32) (yS : Nat → Int64) {post : Int32 → Prop} {n e k c j : Nat} (h : tm_N n e) (hc : c < e) (hj : j < 50)
    (hY : ∀ m, m ≤ 12 → tm_Pe n c j m → post (nI m)) (hZ : (∀ m, 1 ≤ m → m ≤ 12 → tm_p n c (j + m) ≠ tm_p n c j) → post 0) :
    ∀ t m, m + t = 12 → (∀ m', 1 ≤ m' → m' ≤ m → tm_p n c (j + m') ≠ tm_p n c j) → wY_round_2 post (nI c) (nI (j + 1)) (nI n) (nI e) (nI k) yG yT yL yW yN yS (t + 1) (nI (m + 1)) := by
  have H := tm_Npos h
  intro t
  induction t with
  | zero =>
    intro m hm hn
    exact br_t (nI_le (a := 13) (by omega) (by omega)) (hZ fun m' h1 h2 => hn m' h1 (by omega))
  | succ t ih =>
    intro m hm hn
    have p1 := tm_plt h hc j
    have p2 := tm_plt h hc (j + m + 1)
    refine br_f (nI_ge (b := 13) (by omega) (by decide)) (ty_po fn fend fcnt yG yT yL yW yN yS h hc (by omega) ?_)
    rw [nI_add, show j + 1 + (m + 1) = j + m + 1 + 1 from by omega]
    refine ty_po fn fend fcnt yG yT yL yW yN yS h hc (by omega) (pk_eq (tm_p n c j) (tm_p n c (j + m + 1)) (fun z => ?_) (fun z => ?_))
    · exact hY (m + 1) (by omega) ⟨by omega, z.symm, fun m' h1 h2 => hn m' h1 (by omega)⟩
    · refine nm_r (nI_1 (m + 1)) (ih (m + 1) (by omega) fun m' h1 h2 => ?_)
      by_cases y : m' = m + 1
      · subst y; exact fun w => z w.symm
      · exact hn m' h1 (by omega)
theorem ty_ro (fn fend fcnt : Int32) (yG yT yL : Nat → Int32) (yW : Nat → Int64) (yN : Nat → Int32) (yS : Nat → Int64) {post : Int32 → Prop} {n e k c j : Nat} (h : tm_N n e) (hc : c < e) (hj : j < 50)
    (hY : ∀ m, m ≤ 12 → tm_Pe n c j m → post (nI m)) (hZ : ¬ tm_rt n c j → post 0) : wpY_round post (nI n, nI e, nI k, yG, yT, yL, yW, yN, yS) (nI c) (nI (j + 1)) :=
  ⟨12 + 1, ty_ro2 fn fend fcnt yG yT yL yW yN yS h hc hj hY (fun z => hZ (z _ (tm_qb h).1 (tm_qb h).2.2)) 12 0 (by omega) (fun m' h1 h2 => by omega)⟩
theorem ty_fi2 (fn fend fcnt : Int32) (yG yT yL : Nat → Int32) (yW : Nat → Int64) (yN : Nat → Int32) (yS : Nat → Int64) {post : Int32 → Prop} {n e k c : Nat} (h : tm_N n e) (hc : c < e) (hp : ∀ j, j ≤ 2 → tm_Ix n c j → post (nI (j + 1))) :
    ∀ t j, j + t = 2 → (∀ j', j' < j → ¬ tm_rt n c j') → wY_first_2 post (nI c) (nI n) (nI e) (nI k) yG yT yL yW yN yS (t + 1) (nI (j + 1)) := by
  have H := tm_Npos h
  intro t
  induction t with
  | zero =>
    intro j hj hn
    obtain rfl : j = 2 := by omega
    refine br_f (nI_ge (b := 9) (by omega) (by decide)) (ty_ro fn fend fcnt yG yT yL yW yN yS h hc (by omega) (fun m hm hP => ?_) (fun z => absurd (tm_per h hc) z))
    exact br_f (nI_nle (by have := hP.1; omega) (by omega)) (hp 2 (by omega) ⟨tm_per h hc, hn⟩)
  | succ t ih =>
    intro j hj hn
    refine br_f (nI_ge (b := 9) (by omega) (by decide)) (ty_ro fn fend fcnt yG yT yL yW yN yS h hc (by omega) (fun m hm hP => ?_) (fun z => ?_))
    · exact br_f (nI_nle (by have := hP.1; omega) (by omega)) (hp j (by omega) ⟨tm_ret h hc hP.1 hP.2.1, hn⟩)
    · refine br_t (by decide) (nm_r (nI_1 (j + 1)) (ih (j + 1) (by omega) fun j' hj' => ?_))
      by_cases y : j' = j
      · subst y; exact z
      · exact hn j' (by omega)
theorem ty_fi (fn fend fcnt : Int32) (yG yT yL : Nat → Int32) (yW : Nat → Int64) (yN : Nat → Int32) (yS : Nat → Int64) {post : Int32 → Prop} {n e k c : Nat} (h : tm_N n e) (hc : c < e) (hp : ∀ j, j ≤ 2 → tm_Ix n c j → post (nI (j + 1))) : wpY_first post (nI n, nI e, nI k, yG, yT, yL, yW, yN, yS) (nI c) :=
  ⟨2 + 1, ty_fi2 fn fend fcnt yG yT yL yW yN yS h hc hp 2 0 (by omega) (fun j' hj' => by omega)⟩
theorem tm_Ixu {n c j j' : Nat} (h : tm_Ix n c j) (h' : tm_Ix n c j') : j = j' := by
  rcases Nat.lt_trichotomy j j' with y | y | y
  · exact absurd h.1 (h'.2 j y)
  · exact y
  · exact absurd h'.1 (h.2 j' y)
theorem tm_Peu {n c j m m' : Nat} (h : tm_Pe n c j m) (h' : tm_Pe n c j m') : m = m' := by
  rcases Nat.lt_trichotomy m m' with y | y | y
  · exact absurd h.2.1 (h'.2.2 m h.1 y)
  · exact y
  · exact absurd h'.2.1 (h.2.2 m' h'.1 y)
