/-! X: the elements, by breadth -/
def tm_up (f : Nat → Nat) (q c : Nat) : Nat → Nat := fun j => if j = q then c else f j
theorem tm_us {f : Nat → Nat} {q c : Nat} : tm_up f q c q = c := if_pos rfl
theorem tm_un {f : Nat → Nat} {q c j : Nat} (h : j ≠ q) : tm_up f q c j = f j := if_neg h
theorem tx_ne1 {a : Nat} (h : a < 2 ^ 31) : nI a ≠ -1 := by
  intro z
  have h1 := nI_toInt h
  rw [z] at h1
  have h2 : (-1 : Int32).toInt = -1 := by decide
  omega
def tm_Q (n e k : Nat) (G : Nat → Nat) (i g q : Nat) (fo l N : Nat → Nat) (aF aW aL aS : Nat → Int32) : Prop :=
  (1 ≤ q ∧ q = tm_c (fun c => aW c ≠ -1) e) ∧
  (∀ j, j < q → fo j < e ∧ aF j = nI (fo j) ∧ aW (fo j) = nI (l j) ∧ tm_W n k G (l j) (N j) (fo j) ∧ l j ≤ j ∧ (i < q → N j < 4 * N i + g) ∧ (0 < j → ∃ p g', p < j ∧ g' < k ∧ aL (fo j) = nI g' ∧ aS (fo j) = nI (fo p) ∧ l j = l p + 1 ∧ N j = 4 * N p + g')) ∧
  (∀ j j', j < j' → j' < q → N j < N j' ∧ fo j ≠ fo j') ∧
  (∀ c, c < e → aW c = -1 ∨ ∃ j, j < q ∧ fo j = c) ∧
  (fo 0 = tm_u n ∧ N 0 = 1 ∧ l 0 = 0) ∧
  (∀ j g', (j < i ∧ g' < k) ∨ (j = i ∧ g' < g) → ∃ j', j' < q ∧ fo j' = tm_m n (fo j) (G g') ∧ N j' ≤ 4 * N j + g')
def tm_XF (n e k : Nat) (G : Nat → Nat) (q : Nat) (fo l N : Nat → Nat) (aF aW aL aS : Nat → Int32) : Prop :=
  (1 ≤ q ∧ q ≤ e ∧ q = tm_c (tm_E n k G) e) ∧
  (∀ j, j < q → fo j < e ∧ aF j = nI (fo j) ∧ aW (fo j) = nI (l j) ∧ tm_B n k G (fo j) (l j) (N j) ∧ l j < 256 ∧ (0 < j → ∃ p g', p < j ∧ g' < k ∧ aL (fo j) = nI g' ∧ aS (fo j) = nI (fo p) ∧ l j = l p + 1 ∧ N j = 4 * N p + g')) ∧
  (∀ j j', j < j' → j' < q → N j < N j' ∧ fo j ≠ fo j') ∧
  (∀ c, c < e → (aW c = -1 ∧ ¬ tm_E n k G c) ∨ ∃ j, j < q ∧ fo j = c) ∧
  (fo 0 = tm_u n ∧ N 0 = 1 ∧ l 0 = 0)
theorem tm_Qa {n e k i g q : Nat} {G fo l N : Nat → Nat} {aF aW aL aS : Nat → Int32} (h : tm_N n e) (H : tm_Q n e k G i g q fo l N aF aW aL aS) (hi : i < q) (hw : aW (tm_m n (fo i) (G g)) ≠ -1) : tm_Q n e k G i (g + 1) q fo l N aF aW aL aS := by
  obtain ⟨h1, h2, h3, h4, h5, h6⟩ := H
  refine ⟨h1, fun j hj => ?_, h3, h4, h5, fun j g' hz => ?_⟩
  · obtain ⟨a, b, c, d, x, y, z⟩ := h2 j hj
    exact ⟨a, b, c, d, x, fun t => by have := y t; omega, z⟩
  · by_cases z : j = i ∧ g' = g
    · obtain ⟨rfl, rfl⟩ := z
      rcases h4 _ (tm_lt h (fo j) (G g')) with y | ⟨j', hj', e'⟩
      · exact absurd y hw
      · have := (h2 j' hj').2.2.2.2.2.1 hi
        exact ⟨j', hj', e', by omega⟩
    · exact h6 j g' (by omega)
theorem tm_Qb {n e k i g q : Nat} {G fo l N : Nat → Nat} {aF aW aL aS : Nat → Int32} (h : tm_N n e) (hk : k ≤ 4) (hg : g < k) (H : tm_Q n e k G i g q fo l N aF aW aL aS) (hi : i < q) (hw : aW (tm_m n (fo i) (G g)) = -1) :
    q + 1 ≤ e ∧ tm_Q n e k G i (g + 1) (q + 1) (tm_up fo q (tm_m n (fo i) (G g))) (tm_up l q (l i + 1)) (tm_up N q (4 * N i + g)) (upd aF q (nI (tm_m n (fo i) (G g)))) (upd aW (tm_m n (fo i) (G g)) (aW (fo i) + 1)) (upd aL (tm_m n (fo i) (G g)) (nI g)) (upd aS (tm_m n (fo i) (G g)) (nI (fo i))) := by
  have hc : tm_m n (fo i) (G g) < e := tm_lt h _ _
  have hv : aW (fo i) + 1 = nI (l i + 1) := by
    rw [← nI_1]
    obtain ⟨h1, h2, h3, h4, h5, h6⟩ := H
    rw [(h2 i hi).2.2.1]
  rw [hv]
  have hW := tm_Wc (H.2.1 i hi).2.2.2.1 hg hk
  generalize hcd : tm_m n (fo i) (G g) = c at *
  obtain ⟨⟨h1, h1'⟩, h2, h3, h4, h5, h6⟩ := H
  have H0 := tm_Npos h
  have hq0 : q ≤ e := by rw [h1']; exact tm_cle _ _
  have hli : l i ≤ i := (h2 i hi).2.2.2.2.1
  have hcn : ∀ j, j < q → fo j ≠ c := by
    intro j hj z
    have h7 := (h2 j hj).2.2.1
    have h8 := (h2 j hj).2.2.2.2.1
    rw [z, hw] at h7
    exact tx_ne1 (by omega) h7.symm
  have hcnt : q + 1 = tm_c (fun d => upd aW c (nI (l i + 1)) d ≠ -1) e := by
    have t := tm_cadd (P := fun d => aW d ≠ -1) (Q := fun d => upd aW c (nI (l i + 1)) d ≠ -1) (c := c) (fun z => z hw) e hc (fun d _ => by
      show upd aW c (nI (l i + 1)) d ≠ -1 ↔ aW d ≠ -1 ∨ d = c
      by_cases z : d = c
      · subst z
        rw [pk_us]
        exact ⟨fun _ => Or.inr rfl, fun _ => tx_ne1 (by omega)⟩
      · rw [pk_un z]
        exact ⟨fun y => Or.inl y, fun y => by
          rcases y with y | y
          · exact y
          · exact absurd y z⟩)
    omega
  have hqe : q + 1 ≤ e := by rw [hcnt]; exact tm_cle _ _
  refine ⟨hqe, ⟨by omega, hcnt⟩, fun j hj => ?_, fun j j' hjj hj' => ?_, fun d hd => ?_, ?_, fun j g' hz => ?_⟩
  · by_cases z : j = q
    · subst z
      rw [tm_us, tm_us, tm_us, tm_un (by omega : i ≠ j), pk_us, pk_us, pk_us, pk_us]
      exact ⟨hc, rfl, rfl, hW, by omega, fun _ => by omega, fun _ => ⟨i, g, hi, hg, rfl, by rw [tm_un (by omega)], by rw [tm_un (by omega)], by rw [tm_un (by omega)]⟩⟩
    · have hjq : j < q := by omega
      obtain ⟨a, b, c', d, x, y, w⟩ := h2 j hjq
      rw [tm_un z, tm_un z, tm_un z, tm_un (by omega : i ≠ q), pk_un z, pk_un (hcn j hjq), pk_un (hcn j hjq), pk_un (hcn j hjq)]
      refine ⟨a, b, c', d, x, fun _ => by have := y hi; omega, fun hj0 => ?_⟩
      obtain ⟨p, g', w1, w2, w3, w4, w5, w6⟩ := w hj0
      exact ⟨p, g', w1, w2, w3, by rw [tm_un (by omega)]; exact w4, by rw [tm_un (by omega)]; exact w5, by rw [tm_un (by omega)]; exact w6⟩
  · by_cases z : j' = q
    · subst z
      rw [tm_us, tm_us, tm_un (by omega : j ≠ j'), tm_un (by omega : j ≠ j')]
      exact ⟨(h2 j hjj).2.2.2.2.2.1 hi, hcn j hjj⟩
    · rw [tm_un z, tm_un z, tm_un (by omega : j ≠ q), tm_un (by omega : j ≠ q)]
      exact h3 j j' hjj (by omega)
  · by_cases z : d = c
    · exact Or.inr ⟨q, by omega, by rw [tm_us, z]⟩
    · rw [pk_un z]
      rcases h4 d hd with y | ⟨j, hj, e'⟩
      · exact Or.inl y
      · exact Or.inr ⟨j, by omega, by rw [tm_un (by omega)]; exact e'⟩
  · rw [tm_un (by omega : 0 ≠ q), tm_un (by omega : 0 ≠ q), tm_un (by omega : 0 ≠ q)]
    exact h5
  · have hjq : j ≠ q := by omega
    rw [tm_un hjq, tm_un hjq]
    by_cases z : j = i ∧ g' = g
    · obtain ⟨rfl, rfl⟩ := z
      exact ⟨q, by omega, by rw [tm_us, hcd], by rw [tm_us]; exact Nat.le_refl _⟩
    · obtain ⟨j', hj', e1, e2⟩ := h6 j g' (by omega)
      exact ⟨j', by omega, by rw [tm_un (by omega)]; exact e1, by rw [tm_un (by omega)]; exact e2⟩
theorem tm_Qn {n e k i q : Nat} {G fo l N : Nat → Nat} {aF aW aL aS : Nat → Int32} (hk : k ≤ 4) (H : tm_Q n e k G i k q fo l N aF aW aL aS) (hi : i < q) : tm_Q n e k G (i + 1) 0 q fo l N aF aW aL aS := by
  obtain ⟨h1, h2, h3, h4, h5, h6⟩ := H
  refine ⟨h1, fun j hj => ?_, h3, h4, h5, fun j g' hz => ?_⟩
  · obtain ⟨a, b, c, d, x, y, z⟩ := h2 j hj
    refine ⟨a, b, c, d, x, fun t => ?_, z⟩
    have h7 := y hi
    have h8 := (h3 i (i + 1) (by omega) t).1
    omega
  · exact h6 j g' (by omega)
theorem tm_QF {n e k i q : Nat} {G fo l N : Nat → Nat} {aF aW aL aS : Nat → Int32} (h : tm_N n e) (H : tm_Q n e k G i 0 q fo l N aF aW aL aS) (hi : q ≤ i) : tm_XF n e k G q fo l N aF aW aL aS := by
  obtain ⟨⟨h1, h1'⟩, h2, h3, h4, h5, h6⟩ := H
  have H0 := tm_Npos h
  have hq0 : q ≤ e := by rw [h1']; exact tm_cle _ _
  have A : ∀ l' N' c, tm_W n k G l' N' c → ∃ j, j < q ∧ fo j = c ∧ N j ≤ N' := by
    intro l'
    induction l' with
    | zero =>
      intro N' c w
      obtain ⟨rfl, rfl⟩ := w
      exact ⟨0, by omega, h5.1, by rw [h5.2.1]; exact Nat.le_refl _⟩
    | succ l' ih =>
      intro N' c w
      obtain ⟨hg, b, w', rfl⟩ := w
      obtain ⟨j, hj, e1, e2⟩ := ih _ _ w'
      obtain ⟨j', hj', e3, e4⟩ := h6 j (N' % 4) (Or.inl ⟨by omega, hg⟩)
      exact ⟨j', hj', by rw [e3, e1], by omega⟩
  have U : ∀ j j', j < q → j' < q → fo j = fo j' → j = j' := by
    intro j j' hj hj' z
    rcases Nat.lt_trichotomy j j' with y | y | y
    · exact absurd z (h3 j j' y hj').2
    · exact y
    · exact absurd z.symm (h3 j' j y hj).2
  have EE : ∀ c, c < e → (aW c ≠ -1 ↔ tm_E n k G c) := by
    intro c hc
    constructor
    · intro z
      rcases h4 c hc with y | ⟨j, hj, e1⟩
      · exact absurd y z
      · rw [← e1]; exact ⟨_, _, (h2 j hj).2.2.2.1⟩
    · rintro ⟨l', N', w⟩
      obtain ⟨j, hj, e1, _⟩ := A l' N' c w
      rw [← e1, (h2 j hj).2.2.1]
      have := (h2 j hj).2.2.2.2.1
      exact tx_ne1 (by omega)
  refine ⟨⟨h1, hq0, ?_⟩, fun j hj => ?_, h3, fun c hc => ?_, h5⟩
  · rw [← tm_ccong e EE]; exact h1'
  · obtain ⟨a, b, c, d, x, y, z⟩ := h2 j hj
    refine ⟨a, b, c, ⟨d, fun l' N' w => ?_⟩, by omega, z⟩
    obtain ⟨j', hj', e1, e2⟩ := A l' N' _ w
    rw [← U j' j hj' hj e1]
    exact e2
  · rcases h4 c hc with y | y
    · exact Or.inl ⟨y, fun z => (EE c hc).mpr z y⟩
    · exact Or.inr y
theorem tm_Q0 {n e k : Nat} {G : Nat → Nat} {aF aW aL aS : Nat → Int32} (h : tm_N n e) (hw : ∀ c, c < e → aW c = -1) : tm_Q n e k G 0 0 1 (fun _ => tm_u n) (fun _ => 0) (fun _ => 1) (upd aF 0 (nI (tm_u n))) (upd aW (tm_u n) 0) aL aS := by
  have hu := tm_ult h
  have h0 : (0 : Int32) ≠ -1 := by decide
  refine ⟨⟨Nat.le_refl _, ?_⟩, fun j hj => ?_, fun j j' h1 h2 => by omega, fun c hc => ?_, ⟨rfl, rfl, rfl⟩, fun j g' hz => by omega⟩
  · have t := tm_cadd (P := fun d => aW d ≠ -1) (Q := fun d => upd aW (tm_u n) 0 d ≠ -1) (c := tm_u n) (fun z => z (hw _ hu)) e hu (fun d _ => by
      show upd aW (tm_u n) 0 d ≠ -1 ↔ aW d ≠ -1 ∨ d = tm_u n
      by_cases z : d = tm_u n
      · rw [z, pk_us]
        exact ⟨fun _ => Or.inr rfl, fun _ => h0⟩
      · rw [pk_un z]
        exact ⟨fun y => Or.inl y, fun y => by
          rcases y with y | y
          · exact y
          · exact absurd y z⟩)
    have t2 := tm_c0 (P := fun d => aW d ≠ -1) e (fun c hc z => z (hw c hc))
    omega
  · obtain rfl : j = 0 := by omega
    exact ⟨hu, pk_us, pk_us, ⟨rfl, rfl⟩, Nat.le_refl _, fun _ => (by decide : 1 < 4 * 1 + 0), fun z => by omega⟩
  · by_cases z : c = tm_u n
    · exact Or.inr ⟨0, by omega, z.symm⟩
    · rw [pk_un z]; exact Or.inl (hw c hc)
theorem tx_ext (fp fm fi fg fe fr : Int32) (aI aG aF aW aL aS aR aQ aZ aC : Nat → Int32) {post : SX → Prop} {n e k q f g : Nat} {G : Nat → Nat} (h : tm_N n e) (hk : k ≤ 4) (hf : f < e) (hg : g < k) (hG : G g < e) (hGa : aG g = nI (G g)) (hI : tm_XI n e aI) (hq : q ≤ e)
    (hA : aW (tm_m n f (G g)) ≠ -1 → post (nI n, nI e, nI (tm_u n), nI k, nI q, fr, aI, aG, aF, aW, aL, aS, aR, aQ, aZ, aC))
    (hB : aW (tm_m n f (G g)) = -1 → q + 1 ≤ e ∧ post (nI n, nI e, nI (tm_u n), nI k, nI (q + 1), fr, aI, aG, upd aF q (nI (tm_m n f (G g))), upd aW (tm_m n f (G g)) (aW f + 1), upd aL (tm_m n f (G g)) (nI g), upd aS (tm_m n f (G g)) (nI f), aR, aQ, aZ, aC)) :
    wpX_extendWord post (nI n, nI e, nI (tm_u n), nI k, nI q, fr, aI, aG, aF, aW, aL, aS, aR, aQ, aZ, aC) (nI f) (nI g) := by
  have H := tm_Npos h
  have hc : tm_m n f (G g) < e := tm_lt h _ _
  unfold wpX_extendWord
  refine ⟨vp_in_nI (by omega) (by omega), ?_⟩
  rw [nI_clamp (by omega : g < 2 ^ 31), hGa]
  refine tx_mul (nI n) (nI e) (nI (tm_u n)) (nI k) (nI q) fr aI aG aF aW aL aS aR aQ aZ aC h hf hG hI ?_
  refine ⟨vp_in_nI (by omega) (by omega), ?_⟩
  rw [nI_clamp (by omega : tm_m n f (G g) < 2 ^ 31), nI_clamp (by omega : f < 2 ^ 31)]
  by_cases z : aW (tm_m n f (G g)) = -1
  · obtain ⟨h1, h2⟩ := hB z
    refine br_t z ⟨vp_in_nI (by omega) (by omega), vp_in_nI (by omega) (by omega), nm_e ⟨vp_in_nI (by omega) (by omega), nm_e ⟨vp_in_nI (by omega) (by omega), nm_e ⟨vp_in_nI (by omega) (by omega), ?_⟩⟩⟩⟩
    rw [nI_clamp (by omega : q < 2 ^ 31)]
    exact nm_e (nm_r (nI_1 q) h2)
  · exact br_f z (hA z)
theorem tx_68 (fp fm fi fg fe fr : Int32) (aI aG aF aW aL aS aR aQ aZ aC : Nat → Int32) {post : SX → Prop} {J50 : Int32 → Int32 → Int32 → Int32 → Int32 → Int32 → Int32 → (Nat → Int32) → (Nat → Int32) → (Nat → Int32) → (Nat → Int32) → (Nat → Int32) → (Nat → Int32) → (Nat → Int32) → (Nat → Int32) → (Nat → Int32) → (Nat → Int32) → Prop} {n e k i : Nat} {G : Nat → Nat} (h : tm_N n e) (hk : k ≤ 4) (hG : ∀ g, g < k → G g < e ∧ aG g = nI (G g)) (hI : tm_XI n e aI)
    (hJ : ∀ q fo l N aF aW aL aS, tm_Q n e k G i k q fo l N aF aW aL aS → i < q → J50 (nI (i + 1)) (nI n) (nI e) (nI (tm_u n)) (nI k) (nI q) fr aI aG aF aW aL aS aR aQ aZ aC) :
    ∀ d g, g + d = k → ∀ q fo l N aF aW aL aS, tm_Q n e k G i g q fo l N aF aW aL aS → i < q → wX_findElements_68 post J50 (nI i) (d + 1) (nI g) (nI n) (nI e) (nI (tm_u n)) (nI k) (nI q) fr aI aG aF aW aL aS aR aQ aZ aC := by
  have H := tm_Npos h
  intro d
  induction d with
  | zero =>
    intro g hgd q fo l N aF aW aL aS hQ hi
    obtain rfl : g = k := by omega
    exact br_t (nI_le (Nat.le_refl _) (by omega)) (nm_r (nI_1 i) (hJ q fo l N aF aW aL aS hQ hi))
  | succ d ih =>
    intro g hgd q fo l N aF aW aL aS hQ hi
    have hq0 : q ≤ e := by rw [hQ.1.2]; exact tm_cle _ _
    refine br_f (nI_ge (by omega) (by omega)) ⟨vp_in_nI (by omega) (by omega), ?_⟩
    rw [nI_clamp (by omega : i < 2 ^ 31), (hQ.2.1 i hi).2.1]
    refine tx_ext fp fm fi fg fe fr aI aG aF aW aL aS aR aQ aZ aC (G := G) h hk (hQ.2.1 i hi).1 (by omega) (hG g (by omega)).1 (hG g (by omega)).2 hI hq0 (fun z => ?_) (fun z => ?_)
    · exact nm_r (nI_1 g) (ih (g + 1) (by omega) q fo l N aF aW aL aS (tm_Qa h hQ hi z) hi)
    · obtain ⟨h1, h2⟩ := tm_Qb h hk (by omega) hQ hi z
      exact ⟨h1, nm_r (nI_1 g) (ih (g + 1) (by omega) _ _ _ _ _ _ _ _ h2 (by omega))⟩
theorem tx_50 (fp fm fi fg fe fr : Int32) (aI aG aF aW aL aS aR aQ aZ aC : Nat → Int32) {post : SX → Prop} {n e k : Nat} {G : Nat → Nat} (h : tm_N n e) (hk : k ≤ 4) (hG : ∀ g, g < k → G g < e ∧ aG g = nI (G g)) (hI : tm_XI n e aI)
    (hp : ∀ q fo l N aF aW aL aS, tm_XF n e k G q fo l N aF aW aL aS → post (nI n, nI e, nI (tm_u n), nI k, nI q, fr, aI, aG, aF, aW, aL, aS, aR, aQ, aZ, aC)) :
    ∀ d i, i + d = e → ∀ q fo l N aF aW aL aS, tm_Q n e k G i 0 q fo l N aF aW aL aS → i ≤ q → wX_findElements_50 post (d + 1) (nI i) (nI n) (nI e) (nI (tm_u n)) (nI k) (nI q) fr aI aG aF aW aL aS aR aQ aZ aC := by
  have H := tm_Npos h
  intro d
  induction d with
  | zero =>
    intro i hid q fo l N aF aW aL aS hQ hi
    have hq0 : q ≤ e := by rw [hQ.1.2]; exact tm_cle _ _
    obtain rfl : i = e := by omega
    exact br_t (nI_le (Nat.le_refl _) (by omega)) (hp q fo l N aF aW aL aS (tm_QF h hQ (by omega)))
  | succ d ih =>
    intro i hid q fo l N aF aW aL aS hQ hi
    have hq0 : q ≤ e := by rw [hQ.1.2]; exact tm_cle _ _
    refine br_f (nI_ge (by omega) (by omega)) (pk_le q i (fun z => ?_) (fun z => ⟨k + 1, ?_⟩))
    · exact hp q fo l N aF aW aL aS (tm_QF h hQ z)
    · exact tx_68 fp fm fi fg fe fr aI aG aF aW aL aS aR aQ aZ aC h hk hG hI (fun q fo l N aF aW aL aS hQ' hi' => ih (i + 1) (by omega) q fo l N aF aW aL aS (tm_Qn hk hQ' hi') (by omega)) k 0 (by omega) q fo l N aF aW aL aS hQ z
theorem tx_fe2 (fp fm fi fg fe fr : Int32) (aI aG aF aW aL aS aR aQ aZ aC : Nat → Int32) {post : SX → Prop} {n e k : Nat} {G : Nat → Nat} (h : tm_N n e) (hk : k ≤ 4) (hG : ∀ g, g < k → G g < e ∧ aG g = nI (G g)) (hI : tm_XI n e aI)
    (hp : ∀ q fo l N aF aW aL aS, tm_XF n e k G q fo l N aF aW aL aS → post (nI n, nI e, nI (tm_u n), nI k, nI q, fr, aI, aG, aF, aW, aL, aS, aR, aQ, aZ, aC)) :
    ∀ d c, c + d = e → ∀ aW, (∀ f, f < c → aW f = -1) → wX_findElements_2 post (nI n) (nI e) (nI (tm_u n)) (nI k) fe fr (d + 1) (nI c) aI aG aF aW aL aS aR aQ aZ aC := by
  have H := tm_Npos h
  intro d
  induction d with
  | zero =>
    intro c hcd aW hw
    obtain rfl : c = e := by omega
    have hu := tm_ult h
    refine br_t (nI_le (Nat.le_refl _) (by omega)) ⟨vp_in_nI (by omega) (by omega), nm_e (nm_e ⟨c + 1, ?_⟩)⟩
    rw [nI_clamp (by omega)]
    exact tx_50 fp fm fi fg fe fr aI aG aF aW aL aS aR aQ aZ aC h hk hG hI hp c 0 (by omega) 1 _ _ _ _ _ _ _ (tm_Q0 h hw) (by omega)
  | succ d ih =>
    intro c hcd aW hw
    refine br_f (nI_ge (by omega) (by omega)) ⟨vp_in_nI (by omega) (by omega), nm_e (nm_r (nI_1 c) (ih (c + 1) (by omega) _ ?_))⟩
    intro f hf
    rw [nI_clamp (by omega)]
    by_cases z : f = c
    · subst z; exact pk_us
    · rw [pk_un z]; exact hw f (by omega)
theorem tx_fe (fp fm fi fg fe fr : Int32) (aI aG aF aW aL aS aR aQ aZ aC : Nat → Int32) {post : SX → Prop} {n e k : Nat} {G : Nat → Nat} (h : tm_N n e) (hk : k ≤ 4) (hG : ∀ g, g < k → G g < e ∧ aG g = nI (G g)) (hI : tm_XI n e aI)
    (hp : ∀ q fo l N aF aW aL aS, tm_XF n e k G q fo l N aF aW aL aS → post (nI n, nI e, nI (tm_u n), nI k, nI q, fr, aI, aG, aF, aW, aL, aS, aR, aQ, aZ, aC)) : wpX_findElements post (nI n, nI e, nI (tm_u n), nI k, fe, fr, aI, aG, aF, aW, aL, aS, aR, aQ, aZ, aC) :=
  ⟨e + 1, tx_fe2 fp fm fi fg fe fr aI aG aF aW aL aS aR aQ aZ aC h hk hG hI hp e 0 (by omega) aW (fun f hf => by omega)⟩
