/-! X: the questions -/
def tm_X (n e k : Nat) (G : Nat → Nat) (q : Nat) (fo l N : Nat → Nat) (aI aG aF aW aL aS : Nat → Int32) : Prop :=
  tm_N n e ∧ k ≤ 4 ∧ (∀ g, g < k → G g < e ∧ aG g = nI (G g)) ∧ tm_XI n e aI ∧ tm_XF n e k G q fo l N aF aW aL aS
theorem tm_XE {n e k q : Nat} {G fo l N : Nat → Nat} {aI aG aF aW aL aS : Nat → Int32} (h : tm_X n e k G q fo l N aI aG aF aW aL aS) {c : Nat} (hc : c < e) : aW c = -1 ↔ ¬ tm_E n k G c := by
  obtain ⟨hN, hk, hG, hI, h1, h2, h3, h4, h5⟩ := h
  rcases h4 c hc with y | ⟨j, hj, e1⟩
  · exact ⟨fun _ => y.2, fun _ => y.1⟩
  · obtain ⟨a1, a2, a3, a4, a5, a6⟩ := h2 j hj
    rw [e1] at a3 a4
    exact ⟨fun z => absurd (a3.symm.trans z) (tx_ne1 (by omega)), fun z => absurd (tm_BE a4) z⟩
/-- an element has its place among the found -/
theorem tm_Xj {n e k q : Nat} {G fo l N : Nat → Nat} {aI aG aF aW aL aS : Nat → Int32} (h : tm_X n e k G q fo l N aI aG aF aW aL aS) {c : Nat} (hc : tm_E n k G c) : ∃ j, j < q ∧ fo j = c := by
  rcases h.2.2.2.2.2.2.2.1 c (tm_Elt h.1 hc) with y | y
  · exact absurd hc y.2
  · exact y
theorem tm_Xu {n e k q : Nat} {G fo l N : Nat → Nat} {aI aG aF aW aL aS : Nat → Int32} (h : tm_X n e k G q fo l N aI aG aF aW aL aS) {j j' : Nat} (hj : j < q) (hj' : j' < q) (z : fo j = fo j') : j = j' := by
  rcases Nat.lt_trichotomy j j' with y | y | y
  · exact absurd z (h.2.2.2.2.2.2.1 j j' y hj').2
  · exact y
  · exact absurd z.symm (h.2.2.2.2.2.2.1 j' j y hj).2
theorem tx_gy (fp fm fi fg fe fr : Int32) (aI aG aF aW aL aS aR aQ aZ aC : Nat → Int32) {post : Int32 → Prop} {n e k c : Nat} (h : tm_N n e) (hc : c < e) (hp : post 1) : wpX_isGood post (nI n, nI e, nI (tm_u n), nI k, fe, fr, aI, aG, aF, aW, aL, aS, aR, aQ, aZ, aC) (nI c) := by
  have H := tm_Npos h
  exact br_f (nI_pos (by omega)) (br_f (nI_ge hc (by omega)) hp)
theorem tx_gn (fp fm fi fg fe fr : Int32) (aI aG aF aW aL aS aR aQ aZ aC : Nat → Int32) {post : Int32 → Prop} {n e k : Nat} {v : Int32} (hv : v < 0 ∨ nI e ≤ v) (hp : post 0) : wpX_isGood post (nI n, nI e, nI (tm_u n), nI k, fe, fr, aI, aG, aF, aW, aL, aS, aR, aQ, aZ, aC) v := by
  by_cases z : v < 0
  · exact br_t z hp
  · rcases hv with y | y
    · exact absurd y z
    · exact br_f z (br_t y hp)
theorem tx_ey (fp fm fi fg fe fr : Int32) (aI aG aF aW aL aS aR aQ aZ aC : Nat → Int32) {post : Int32 → Prop} {n e k q c : Nat} {G fo l N : Nat → Nat} (h : tm_X n e k G q fo l N aI aG aF aW aL aS) (hc : tm_E n k G c) (hp : post 1) : wpX_isElement post (nI n, nI e, nI (tm_u n), nI k, fe, fr, aI, aG, aF, aW, aL, aS, aR, aQ, aZ, aC) (nI c) := by
  have H := tm_Npos h.1
  have hce := tm_Elt h.1 hc
  unfold wpX_isElement
  refine tx_gy fp fm fi fg fe fr aI aG aF aW aL aS aR aQ aZ aC h.1 hce (br_f tx_10 ⟨vp_in_nI (by omega) (by omega), ?_⟩)
  rw [nI_clamp (by omega)]
  exact br_f (fun z => (tm_XE h hce).mp z hc) hp
theorem tx_en (fp fm fi fg fe fr : Int32) (aI aG aF aW aL aS aR aQ aZ aC : Nat → Int32) {post : Int32 → Prop} {n e k q c : Nat} {G fo l N : Nat → Nat} (h : tm_X n e k G q fo l N aI aG aF aW aL aS) (hce : c < e) (hc : ¬ tm_E n k G c) (hp : post 0) : wpX_isElement post (nI n, nI e, nI (tm_u n), nI k, fe, fr, aI, aG, aF, aW, aL, aS, aR, aQ, aZ, aC) (nI c) := by
  have H := tm_Npos h.1
  unfold wpX_isElement
  refine tx_gy fp fm fi fg fe fr aI aG aF aW aL aS aR aQ aZ aC h.1 hce (br_f tx_10 ⟨vp_in_nI (by omega) (by omega), ?_⟩)
  rw [nI_clamp (by omega)]
  exact br_t ((tm_XE h hce).mpr hc) hp
theorem tx_eb (fp fm fi fg fe fr : Int32) (aI aG aF aW aL aS aR aQ aZ aC : Nat → Int32) {post : Int32 → Prop} {n e k : Nat} {v : Int32} (hv : v < 0 ∨ nI e ≤ v) (hp : post 0) : wpX_isElement post (nI n, nI e, nI (tm_u n), nI k, fe, fr, aI, aG, aF, aW, aL, aS, aR, aQ, aZ, aC) v := by
  unfold wpX_isElement
  exact tx_gn fp fm fi fg fe fr aI aG aF aW aL aS aR aQ aZ aC hv (br_t rfl hp)
noncomputable def tm_el (P : Nat → Prop) (v : Int32) : Nat → Nat → Int32 → Int32
  | 0, _, _ => -1
  | d + 1, c, b => if tm_b (P c) = true then (if b = v then nI c else tm_el P v d (c + 1) (b + 1)) else tm_el P v d (c + 1) b
theorem tx_el4 (fp fm fi fg fe fr : Int32) (aI aG aF aW aL aS aR aQ aZ aC : Nat → Int32) {post : Int32 → Prop} {n e k q : Nat} {G fo l N : Nat → Nat} {v : Int32} (h : tm_X n e k G q fo l N aI aG aF aW aL aS) : ∀ d c b, c + d = e → post (tm_el (tm_E n k G) v d c b) → wX_element_4 post v (nI n) (nI e) (nI (tm_u n)) (nI k) fe fr aI aG aF aW aL aS aR aQ aZ aC (d + 1) b (nI c) := by
  have H := tm_Npos h.1
  intro d
  induction d with
  | zero =>
    intro c b hcd hp
    exact br_t (nI_le (by omega) (by omega)) hp
  | succ d ih =>
    intro c b hcd hp
    refine br_f (nI_ge (by omega) (by omega)) ?_
    unfold tm_el at hp
    by_cases z : tm_E n k G c
    · rw [tm_bt z, if_pos rfl] at hp
      refine tx_ey fp fm fi fg fe fr aI aG aF aW aL aS aR aQ aZ aC h z (br_f tx_10 ?_)
      by_cases y : b = v
      · rw [if_pos y] at hp
        exact br_t y hp
      · rw [if_neg y] at hp
        exact br_f y (nm_e (nm_r (nI_1 c) (ih (c + 1) _ (by omega) hp)))
    · rw [tm_bf z, if_neg (by decide)] at hp
      exact tx_en fp fm fi fg fe fr aI aG aF aW aL aS aR aQ aZ aC h (by omega) z (br_t rfl (nm_r (nI_1 c) (ih (c + 1) b (by omega) hp)))
theorem tx_el (fp fm fi fg fe fr : Int32) (aI aG aF aW aL aS aR aQ aZ aC : Nat → Int32) {post : Int32 → Prop} {n e k q : Nat} {G fo l N : Nat → Nat} {v : Int32} (h : tm_X n e k G q fo l N aI aG aF aW aL aS) (hp : post (tm_el (tm_E n k G) v e 0 0)) : wpX_element post (nI n, nI e, nI (tm_u n), nI k, fe, fr, aI, aG, aF, aW, aL, aS, aR, aQ, aZ, aC) v :=
  ⟨e + 1, tx_el4 fp fm fi fg fe fr aI aG aF aW aL aS aR aQ aZ aC h e 0 0 (by omega) hp⟩
theorem tx_le50 (fp fm fi fg fe fr : Int32) (aI aG aF aW aL aS aR aQ aZ aC : Nat → Int32) {post : Int32 → Prop} {n e k q p : Nat} {G fo l N : Nat → Nat} (h : tm_X n e k G q fo l N aI aG aF aW aL aS) : ∀ t j, j < q → l j = p + 1 + t → post (nI (N j / 4 ^ t % 4)) → wX_letter_50 post (nI p) (nI n) (nI e) (nI (tm_u n)) (nI k) fe fr aI aG aF aW aL aS aR aQ aZ aC (t + 1) (nI (fo j)) (nI (p + t)) := by
  have H := tm_Npos h.1
  obtain ⟨hN, hk, hG, hI, h1, h2, h3, h4, h5⟩ := h
  intro t
  induction t with
  | zero =>
    intro j hj hl hp
    obtain ⟨a1, a2, a3, a4, a5, a6⟩ := h2 j hj
    obtain ⟨p', g', b1, b2, b3, b4, b5, b6⟩ := a6 (by
      by_cases z : j = 0
      · subst z; omega
      · omega)
    refine br_t (nI_le (by omega) (by omega)) ⟨vp_in_nI (by omega) (by omega), ?_⟩
    rw [nI_clamp (by omega), b3]
    rw [Nat.pow_zero, Nat.div_one, b6, show (4 * N p' + g') % 4 = g' from by omega] at hp
    exact hp
  | succ t ih =>
    intro j hj hl hp
    obtain ⟨a1, a2, a3, a4, a5, a6⟩ := h2 j hj
    obtain ⟨p', g', b1, b2, b3, b4, b5, b6⟩ := a6 (by
      by_cases z : j = 0
      · subst z; omega
      · omega)
    refine br_f (nI_ge (by omega) (by omega)) ⟨vp_in_nI (by omega) (by omega), nm_r (e' := nI (fo p')) ?_ (nm_r (e' := nI (p + t)) (pk_m1 (p + t)) (ih p' (by omega) (by omega) ?_))⟩
    · rw [nI_clamp (by omega), b4]
    · rw [Nat.pow_succ, Nat.mul_comm, ← Nat.div_div_eq_div_mul, b6, show (4 * N p' + g') / 4 = N p' from by omega] at hp
      exact hp
theorem tx_id4 (fp fm fi fg fe fr : Int32) (aI aG aF aW aL aS aR aQ aZ aC : Nat → Int32) {post : Int32 → Prop} {n e k q : Nat} {G fo l N : Nat → Nat} (h : tm_X n e k G q fo l N aI aG aF aW aL aS) (hp : post (nI (tm_c (fun j => tm_m n (fo j) (fo j) = fo j) q))) : ∀ d i, i + d = q → wX_idempotents_4 post (nI n) (nI e) (nI (tm_u n)) (nI k) (nI q) fr aI aG aF aW aL aS aR aQ aZ aC (d + 1) (nI (tm_c (fun j => tm_m n (fo j) (fo j) = fo j) i)) (nI i) := by
  have H := tm_Npos h.1
  have hq : q ≤ e := h.2.2.2.2.1.2.1
  intro d
  induction d with
  | zero =>
    intro i hid
    obtain rfl : i = q := by omega
    exact br_t (nI_le (by omega) (by omega)) hp
  | succ d ih =>
    intro i hid
    obtain ⟨a1, a2, a3, a4, a5, a6⟩ := h.2.2.2.2.2.1 i (by omega)
    refine br_f (nI_ge (by omega) (by omega)) ⟨vp_in_nI (by omega) (by omega), nm_r (e' := nI (fo i)) ?_ (tx_mul (nI n) (nI e) (nI (tm_u n)) (nI k) (nI q) fr aI aG aF aW aL aS aR aQ aZ aC h.1 a1 a1 h.2.2.2.1 ?_)⟩
    · rw [nI_clamp (by omega), a2]
    · have a7 := tm_lt h.1 (fo i) (fo i)
      have t := ih (i + 1) (by omega)
      refine pk_eq (tm_m n (fo i) (fo i)) (fo i) (fun z => ?_) (fun z => ?_)
      · refine nm_r (nI_1 _) (nm_r (nI_1 i) ?_)
        rw [tm_ct (P := fun j => tm_m n (fo j) (fo j) = fo j) z] at t
        exact t
      · refine nm_r (nI_1 i) ?_
        rw [tm_cf (P := fun j => tm_m n (fo j) (fo j) = fo j) z] at t
        exact t
theorem tx_un4 (fp fm fi fg fe fr : Int32) (aI aG aF aW aL aS aR aQ aZ aC : Nat → Int32) {post : Int32 → Prop} {n e k q : Nat} {G fo l N : Nat → Nat} (h : tm_X n e k G q fo l N aI aG aF aW aL aS) (hp : post (nI (tm_c (fun j => tm_rk n (fo j) = n) q))) : ∀ d i, i + d = q → wX_units_4 post (nI n) (nI e) (nI (tm_u n)) (nI k) (nI q) fr aI aG aF aW aL aS aR aQ aZ aC (d + 1) (nI (tm_c (fun j => tm_rk n (fo j) = n) i)) (nI i) := by
  have H := tm_Npos h.1
  have hq : q ≤ e := h.2.2.2.2.1.2.1
  intro d
  induction d with
  | zero =>
    intro i hid
    obtain rfl : i = q := by omega
    exact br_t (nI_le (by omega) (by omega)) hp
  | succ d ih =>
    intro i hid
    obtain ⟨a1, a2, a3, a4, a5, a6⟩ := h.2.2.2.2.2.1 i (by omega)
    refine br_f (nI_ge (by omega) (by omega)) ⟨vp_in_nI (by omega) (by omega), ?_⟩
    rw [nI_clamp (by omega : i < 2 ^ 31), a2]
    refine tx_ci (nI n) (nI e) (nI (tm_u n)) (nI k) (nI q) fr aI aG aF aW aL aS aR aQ aZ aC h.1 a1 h.2.2.2.1 ?_
    have a7 : tm_rk n (fo i) < 5 := by
      show _ + _ + _ + _ < 5
      omega
    have t := ih (i + 1) (by omega)
    refine pk_eq (tm_rk n (fo i)) n (fun z => ?_) (fun z => ?_)
    · refine nm_r (nI_1 _) (nm_r (nI_1 i) ?_)
      rw [tm_ct (P := fun j => tm_rk n (fo j) = n) z] at t
      exact t
    · refine nm_r (nI_1 i) ?_
      rw [tm_cf (P := fun j => tm_rk n (fo j) = n) z] at t
      exact t
/-! powers: index and period -/
def tm_rt (n c j : Nat) : Prop := tm_p n c (j + tm_q n) = tm_p n c j
def tm_Ix (n c j : Nat) : Prop := tm_rt n c j ∧ ∀ j', j' < j → ¬ tm_rt n c j'
def tm_Pe (n c j m : Nat) : Prop := 1 ≤ m ∧ tm_p n c (j + m) = tm_p n c j ∧ ∀ m', 1 ≤ m' → m' < m → tm_p n c (j + m') ≠ tm_p n c j
theorem tm_qb {n e : Nat} (h : tm_N n e) : 1 ≤ tm_q n ∧ tm_q n ≤ e ∧ tm_q n ≤ 12 := by
  rcases h with ⟨h, h'⟩ | ⟨h, h'⟩ | ⟨h, h'⟩ <;> subst h h' <;> decide
theorem tx_st5 (fp fm fi fg fe fr : Int32) (aI aG aF aW aL aS aR aQ aZ aC : Nat → Int32) {post : Int32 → Prop} {n e k c j : Nat} (h : tm_N n e) (hI : tm_XI n e aI) (hc : c < e)
    (hY : ∀ m, m ≤ e → tm_Pe n c j m → post (nI m)) (hZ : (∀ m, 1 ≤ m → m ≤ e → tm_p n c (j + m) ≠ tm_p n c j) → post 0) :
    ∀ t m, m + t = e → (∀ m', 1 ≤ m' → m' ≤ m → tm_p n c (j + m') ≠ tm_p n c j) → wX_stepsToReturn_5 post (nI (tm_p n c j)) (nI c) (nI n) (nI e) (nI (tm_u n)) (nI k) fe fr aI aG aF aW aL aS aR aQ aZ aC (t + 1) (nI (tm_p n c (j + m))) (nI (m + 1)) := by
  have H := tm_Npos h
  intro t
  induction t with
  | zero =>
    intro m hm hn
    exact br_t (nI_lt (by omega) (by omega)) (hZ fun m' h1 h2 => hn m' h1 (by omega))
  | succ t ih =>
    intro m hm hn
    have hj := tm_plt h hc (j + m)
    have hj' := tm_plt h hc j
    have hm' := tm_lt h (tm_p n c (j + m)) c
    refine br_f (nI_nlt (by omega) (by omega)) (tx_mul (nI n) (nI e) (nI (tm_u n)) (nI k) fe fr aI aG aF aW aL aS aR aQ aZ aC h hj hc hI (pk_eq (tm_m n (tm_p n c (j + m)) c) (tm_p n c j) (fun z => ?_) (fun z => ?_)))
    · exact hY (m + 1) (by omega) ⟨by omega, z, fun m' h1 h2 => hn m' h1 (by omega)⟩
    · refine nm_r (nI_1 (m + 1)) (ih (m + 1) (by omega) fun m' h1 h2 => ?_)
      by_cases y : m' = m + 1
      · subst y; exact z
      · exact hn m' h1 (by omega)
theorem tx_st (fp fm fi fg fe fr : Int32) (aI aG aF aW aL aS aR aQ aZ aC : Nat → Int32) {post : Int32 → Prop} {n e k c j : Nat} (h : tm_N n e) (hI : tm_XI n e aI) (hc : c < e)
    (hY : ∀ m, m ≤ e → tm_Pe n c j m → post (nI m)) (hZ : ¬ tm_rt n c j → post 0) : wpX_stepsToReturn post (nI n, nI e, nI (tm_u n), nI k, fe, fr, aI, aG, aF, aW, aL, aS, aR, aQ, aZ, aC) (nI (tm_p n c j)) (nI c) :=
  ⟨e + 1, tx_st5 fp fm fi fg fe fr aI aG aF aW aL aS aR aQ aZ aC h hI hc hY (fun z => hZ (z _ (tm_qb h).1 (tm_qb h).2.1)) e 0 (by omega) (fun m' h1 h2 => by omega)⟩
theorem tx_fr4 (fp fm fi fg fe fr : Int32) (aI aG aF aW aL aS aR aQ aZ aC : Nat → Int32) {post : Int32 → Prop} {n e k c : Nat} (h : tm_N n e) (hI : tm_XI n e aI) (hc : c < e)
    (hp : ∀ j, j ≤ 2 → tm_Ix n c j → post (nI (j + 1))) :
    ∀ t j, j + t = 2 → (∀ j', j' < j → ¬ tm_rt n c j') → wX_firstRepeatedExponent_4 post (nI c) (nI n) (nI e) (nI (tm_u n)) (nI k) fe fr aI aG aF aW aL aS aR aQ aZ aC (t + 1) (nI (tm_p n c j)) (nI (j + 1)) := by
  have H := tm_Npos h
  intro t
  induction t with
  | zero =>
    intro j hj hn
    obtain rfl : j = 2 := by omega
    refine br_f (nI_nlt (by omega) (by omega)) (tx_st fp fm fi fg fe fr aI aG aF aW aL aS aR aQ aZ aC h hI hc (fun m hm hP => ?_) (fun z => ?_))
    · refine br_f (nI_nle (by have := hP.1; omega) (by omega)) (hp 2 (by omega) ⟨tm_per h hc, hn⟩)
    · exact absurd (tm_per h hc) z
  | succ t ih =>
    intro j hj hn
    refine br_f (nI_nlt (by omega) (by omega)) (tx_st fp fm fi fg fe fr aI aG aF aW aL aS aR aQ aZ aC h hI hc (fun m hm hP => ?_) (fun z => ?_))
    · exact br_f (nI_nle (by have := hP.1; omega) (by omega)) (hp j (by omega) ⟨tm_ret h hc hP.1 hP.2.1, hn⟩)
    · refine br_t (by decide) (tx_mul (nI n) (nI e) (nI (tm_u n)) (nI k) fe fr aI aG aF aW aL aS aR aQ aZ aC h (tm_plt h hc j) hc hI (nm_r (nI_1 (j + 1)) (ih (j + 1) (by omega) fun j' hj' => ?_)))
      by_cases y : j' = j
      · subst y; exact z
      · exact hn j' (by omega)
theorem tx_fr (fp fm fi fg fe fr : Int32) (aI aG aF aW aL aS aR aQ aZ aC : Nat → Int32) {post : Int32 → Prop} {n e k c : Nat} (h : tm_N n e) (hI : tm_XI n e aI) (hc : c < e)
    (hp : ∀ j, j ≤ 2 → tm_Ix n c j → post (nI (j + 1))) : wpX_firstRepeatedExponent post (nI n, nI e, nI (tm_u n), nI k, fe, fr, aI, aG, aF, aW, aL, aS, aR, aQ, aZ, aC) (nI c) :=
  ⟨2 + 1, tx_fr4 fp fm fi fg fe fr aI aG aF aW aL aS aR aQ aZ aC h hI hc hp 2 0 (by omega) (fun j' hj' => by omega)⟩
theorem tx_pe21 (fp fm fi fg fe fr : Int32) (aI aG aF aW aL aS aR aQ aZ aC : Nat → Int32) {post : Int32 → Prop} {n e k c j : Nat} (h : tm_N n e) (hI : tm_XI n e aI) (hc : c < e) (hj : j ≤ 2) (hr : tm_rt n c j)
    (hp : ∀ m, m ≤ e → tm_Pe n c j m → post (nI m)) :
    ∀ t i, i + t = j → wX_period_21 post (nI c) (nI (j + 1)) (nI n) (nI e) (nI (tm_u n)) (nI k) fe fr aI aG aF aW aL aS aR aQ aZ aC (t + 1) (nI (tm_p n c i)) (nI (i + 1)) := by
  have H := tm_Npos h
  intro t
  induction t with
  | zero =>
    intro i hi
    obtain rfl : i = j := by omega
    exact br_t (nI_le (by omega) (by omega)) (tx_st fp fm fi fg fe fr aI aG aF aW aL aS aR aQ aZ aC h hI hc hp (fun z => absurd hr z))
  | succ t ih =>
    intro i hi
    exact br_f (nI_ge (by omega) (by omega)) (tx_mul (nI n) (nI e) (nI (tm_u n)) (nI k) fe fr aI aG aF aW aL aS aR aQ aZ aC h (tm_plt h hc i) hc hI (nm_r (nI_1 (i + 1)) (ih (i + 1) (by omega))))
