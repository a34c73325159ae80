/-! X: the sets -/
theorem tx_b1 : vp_nar .boolean 1 = 1 := rfl
theorem tx_b0 : vp_nar .boolean 0 = 0 := rfl
theorem tx_10 : (1 : Int32) ≠ 0 := by decide
def tm_V (n e k : Nat) (G : Nat → Nat) (d a q : Nat) (fo : Nat → Nat) (aR aQ : Nat → Int32) : Prop :=
  (q = tm_c (fun c => aR c = 1) e) ∧
  (∀ j, j < q → fo j < e ∧ aQ j = nI (fo j) ∧ tm_R n k G d a (fo j) ∧ aR (fo j) = 1) ∧
  (∀ c, c < e → aR c = 0 ∨ (aR c = 1 ∧ ∃ j, j < q ∧ fo j = c))
def tm_V1 (n k : Nat) (G : Nat → Nat) (d i g : Nat) (fo : Nat → Nat) (aR : Nat → Int32) : Prop :=
  ∀ j g', (j < i ∧ g' < k) ∨ (j = i ∧ g' < g) → (d ≠ 1 → aR (tm_m n (fo j) (G g')) = 1) ∧ (d ≠ 0 → aR (tm_m n (G g') (fo j)) = 1)
theorem tm_V1m {n k d i g q : Nat} {G fo fo' : Nat → Nat} {aR aR' : Nat → Int32} (h : tm_V1 n k G d i g fo aR) (hi : i < q) (hf : ∀ j, j < q → fo' j = fo j) (hm : ∀ x, aR x = 1 → aR' x = 1) : tm_V1 n k G d i g fo' aR' := by
  intro j g' hz
  rw [hf j (by omega)]
  exact ⟨fun z => hm _ ((h j g' hz).1 z), fun z => hm _ ((h j g' hz).2 z)⟩
theorem tm_Vb {n e k d a q c : Nat} {G fo : Nat → Nat} {aR aQ : Nat → Int32} (hV : tm_V n e k G d a q fo aR aQ) (hc : c < e) (hR : tm_R n k G d a c) (hz : aR c = 0) :
    q + 1 ≤ e ∧ tm_V n e k G d a (q + 1) (tm_up fo q c) (upd aR c 1) (upd aQ q (nI c)) ∧ (∀ x, aR x = 1 → upd aR c 1 x = 1) := by
  obtain ⟨h1, h2, h3⟩ := hV
  have hcn : ∀ j, j < q → fo j ≠ c := by
    intro j hj z
    have h4 := (h2 j hj).2.2.2
    rw [z, hz] at h4
    exact tx_10 h4.symm
  have hcnt : q + 1 = tm_c (fun x => upd aR c 1 x = 1) e := by
    have t := tm_cadd (P := fun x => aR x = 1) (Q := fun x => upd aR c 1 x = 1) (c := c) (fun z => tx_10 (z.symm.trans hz)) e hc (fun x _ => by
      show upd aR c 1 x = 1 ↔ aR x = 1 ∨ x = c
      by_cases z : x = c
      · subst z
        rw [pk_us]
        exact ⟨fun _ => Or.inr rfl, fun _ => rfl⟩
      · rw [pk_un z]
        exact ⟨fun y => Or.inl y, fun y => by
          rcases y with y | y
          · exact y
          · exact absurd y z⟩)
    omega
  refine ⟨by rw [hcnt]; exact tm_cle _ _, ⟨hcnt, fun j hj => ?_, fun x hx => ?_⟩, fun x hx => ?_⟩
  · by_cases z : j = q
    · subst z
      rw [tm_us, pk_us, pk_us]
      exact ⟨hc, rfl, hR, rfl⟩
    · have hjq : j < q := by omega
      rw [tm_un z, pk_un z, pk_un (hcn j hjq)]
      exact h2 j hjq
  · by_cases z : x = c
    · subst z
      rw [pk_us]
      exact Or.inr ⟨rfl, q, by omega, tm_us⟩
    · rw [pk_un z]
      rcases h3 x hx with y | ⟨y, j, hj, e1⟩
      · exact Or.inl y
      · exact Or.inr ⟨y, j, by omega, by rw [tm_un (by omega)]; exact e1⟩
  · by_cases z : x = c
    · rw [z, pk_us]
    · rw [pk_un z]; exact hx
theorem tx_reach (fp fm fi fg fe fr : Int32) (aI aG aF aW aL aS aR aQ aZ aC : Nat → Int32) {post : SX → Prop} {n e k d a q c : Nat} {G fo : Nat → Nat} (h : tm_N n e) (hV : tm_V n e k G d a q fo aR aQ) (hc : c < e) (hR : tm_R n k G d a c)
    (hp : ∀ q' fo' aR' aQ', tm_V n e k G d a q' fo' aR' aQ' → q ≤ q' → (∀ j, j < q → fo' j = fo j) → (∀ x, aR x = 1 → aR' x = 1) → aR' c = 1 → post (nI n, nI e, nI (tm_u n), nI k, fe, nI q', aI, aG, aF, aW, aL, aS, aR', aQ', aZ, aC)) :
    wpX_reach post (nI n, nI e, nI (tm_u n), nI k, fe, nI q, aI, aG, aF, aW, aL, aS, aR, aQ, aZ, aC) (nI c) := by
  have H := tm_Npos h
  unfold wpX_reach
  refine ⟨vp_in_nI (by omega) (by omega), ?_⟩
  rw [nI_clamp (by omega : c < 2 ^ 31)]
  by_cases z : aR c = 0
  · obtain ⟨h1, h2, h3⟩ := tm_Vb hV hc hR z
    refine br_t z ⟨vp_in_nI (by omega) (by omega), nm_e ⟨vp_in_nI (by omega) (by omega), ?_⟩⟩
    rw [nI_clamp (by omega : q < 2 ^ 31)]
    exact nm_e (nm_r (nI_1 q) (hp _ _ _ _ h2 (by omega) (fun j hj => tm_un (by omega)) h3 pk_us))
  · refine br_f z (hp q fo aR aQ hV (Nat.le_refl _) (fun _ _ => rfl) (fun _ y => y) ?_)
    rcases hV.2.2 c hc with y | y
    · exact absurd y z
    · exact y.1
theorem tx_97 (fp fm fi fg fe fr : Int32) (aI aG aF aW aL aS aR aQ aZ aC : Nat → Int32) {post : Int32 → SX → Prop} {J35 J62 : Int32 → Int32 → Int32 → Int32 → Int32 → Int32 → Int32 → (Nat → Int32) → (Nat → Int32) → (Nat → Int32) → (Nat → Int32) → (Nat → Int32) → (Nat → Int32) → (Nat → Int32) → (Nat → Int32) → (Nat → Int32) → (Nat → Int32) → Prop} {n e k d a q b g : Nat} {G fo : Nat → Nat} {x3 : Int32} (h : tm_N n e) (hk : k ≤ 4) (hd : d ≤ 2) (hg : g < k) (hG : ∀ g, g < k → G g < e ∧ aG g = nI (G g)) (hI : tm_XI n e aI) (hV : tm_V n e k G d a q fo aR aQ) (hb : b < e) (hR : tm_R n k G d a b)
    (hJ : ∀ q' fo' aR' aQ', tm_V n e k G d a q' fo' aR' aQ' → q ≤ q' → (∀ j, j < q → fo' j = fo j) → (∀ x, aR x = 1 → aR' x = 1) → (d ≠ 0 → aR' (tm_m n (G g) b) = 1) → J62 (nI (g + 1)) (nI n) (nI e) (nI (tm_u n)) (nI k) fe (nI q') aI aG aF aW aL aS aR' aQ' aZ aC) :
    wX_fillSet_97 post J35 J62 (nI d) x3 (nI b) (nI g) (nI n) (nI e) (nI (tm_u n)) (nI k) fe (nI q) aI aG aF aW aL aS aR aQ aZ aC := by
  unfold wX_fillSet_97
  refine pk_eq d 0 (fun z => nm_r (nI_1 g) (hJ q fo aR aQ hV (Nat.le_refl _) (fun _ _ => rfl) (fun _ y => y) (fun y => absurd z y))) (fun z => ⟨vp_in_nI (by omega) (by omega), ?_⟩)
  rw [nI_clamp (by omega : g < 2 ^ 31), (hG g hg).2]
  refine tx_mul (nI n) (nI e) (nI (tm_u n)) (nI k) fe (nI q) aI aG aF aW aL aS aR aQ aZ aC h (hG g hg).1 hb hI ?_
  refine tx_reach fp fm fi fg fe fr aI aG aF aW aL aS aR aQ aZ aC h hV (tm_lt h _ _) (tm_Rs hR ⟨g, hg, Or.inr ⟨z, rfl⟩⟩) (fun q' fo' aR' aQ' h1 h2 h3 h4 h5 => ?_)
  exact nm_r (nI_1 g) (hJ q' fo' aR' aQ' h1 h2 h3 h4 (fun _ => h5))
theorem tx_62 (fp fm fi fg fe fr : Int32) (aI aG aF aW aL aS aR aQ aZ aC : Nat → Int32) {post : Int32 → SX → Prop} {J35 : Int32 → Int32 → Int32 → Int32 → Int32 → Int32 → Int32 → (Nat → Int32) → (Nat → Int32) → (Nat → Int32) → (Nat → Int32) → (Nat → Int32) → (Nat → Int32) → (Nat → Int32) → (Nat → Int32) → (Nat → Int32) → (Nat → Int32) → Prop} {n e k d a i b : Nat} {G : Nat → Nat} (h : tm_N n e) (hk : k ≤ 4) (hd : d ≤ 2) (hG : ∀ g, g < k → G g < e ∧ aG g = nI (G g)) (hI : tm_XI n e aI)
    (hJ : ∀ q fo aR aQ, tm_V n e k G d a q fo aR aQ → i < q → aR a = 1 → tm_V1 n k G d i k fo aR → J35 (nI (i + 1)) (nI n) (nI e) (nI (tm_u n)) (nI k) fe (nI q) aI aG aF aW aL aS aR aQ aZ aC) :
    ∀ t g, g + t = k → ∀ q fo aR aQ, tm_V n e k G d a q fo aR aQ → i < q → fo i = b → aR a = 1 → tm_V1 n k G d i g fo aR → wX_fillSet_62 post J35 (nI d) (nI i) (nI b) (t + 1) (nI g) (nI n) (nI e) (nI (tm_u n)) (nI k) fe (nI q) aI aG aF aW aL aS aR aQ aZ aC := by
  have H := tm_Npos h
  intro t
  induction t with
  | zero =>
    intro g hgt q fo aR aQ hV hi hb ha h1
    obtain rfl : g = k := by omega
    exact br_t (nI_le (Nat.le_refl _) (by omega)) (nm_r (nI_1 i) (hJ q fo aR aQ hV hi ha h1))
  | succ t ih =>
    intro g hgt q fo aR aQ hV hi hb ha h1
    have hbe : b < e := by rw [← hb]; exact (hV.2.1 i hi).1
    have hRb : tm_R n k G d a b := by rw [← hb]; exact (hV.2.1 i hi).2.2.1
    refine br_f (nI_ge (by omega) (by omega)) (pk_eq d 1 (fun z => ?_) (fun z => ⟨vp_in_nI (by omega) (by omega), ?_⟩))
    · refine tx_97 fp fm fi fg fe fr aI aG aF aW aL aS aR aQ aZ aC h hk hd (by omega) hG hI hV hbe hRb (fun q' fo' aR' aQ' g1 g2 g3 g4 g5 => ?_)
      refine ih (g + 1) (by omega) q' fo' aR' aQ' g1 (by omega) (by rw [g3 i hi, hb]) (g4 a ha) ?_
      intro j g' hz
      by_cases y : j = i ∧ g' = g
      · obtain ⟨rfl, rfl⟩ := y
        rw [g3 j hi, hb]
        exact ⟨fun w => absurd z w, g5⟩
      · exact tm_V1m h1 hi g3 g4 j g' (by omega)
    · rw [nI_clamp (by omega : g < 2 ^ 31), (hG g (by omega)).2]
      refine tx_mul (nI n) (nI e) (nI (tm_u n)) (nI k) fe (nI q) aI aG aF aW aL aS aR aQ aZ aC h hbe (hG g (by omega)).1 hI ?_
      refine tx_reach fp fm fi fg fe fr aI aG aF aW aL aS aR aQ aZ aC h hV (tm_lt h _ _) (tm_Rs hRb ⟨g, by omega, Or.inl ⟨z, rfl⟩⟩) (fun q2 fo2 aR2 aQ2 f1 f2 f3 f4 f5 => ?_)
      refine tx_97 fp fm fi fg fe fr aI aG aF aW aL aS aR2 aQ2 aZ aC h hk hd (by omega) hG hI f1 hbe hRb (fun q' fo' aR' aQ' g1 g2 g3 g4 g5 => ?_)
      have g3' : ∀ j, j < q → fo' j = fo j := fun j hj => by rw [g3 j (by omega), f3 j hj]
      refine ih (g + 1) (by omega) q' fo' aR' aQ' g1 (by omega) (by rw [g3' i hi, hb]) (g4 a (f4 a ha)) ?_
      intro j g' hz
      by_cases y : j = i ∧ g' = g
      · obtain ⟨rfl, rfl⟩ := y
        rw [g3' j hi, hb]
        exact ⟨fun _ => g4 _ f5, g5⟩
      · exact tm_V1m h1 hi g3' (fun x hx => g4 x (f4 x hx)) j g' (by omega)
/-- the set as it stands in reached -/
def tm_RS (n e k : Nat) (G : Nat → Nat) (d a : Nat) (aR : Nat → Int32) : Prop := ∀ c, c < e → (aR c = 1 ∧ tm_R n k G d a c) ∨ (aR c = 0 ∧ ¬ tm_R n k G d a c)
theorem tm_VF {n e k d a i q : Nat} {G fo : Nat → Nat} {aR aQ : Nat → Int32} (h : tm_N n e) (hae : a < e) (hV : tm_V n e k G d a q fo aR aQ) (ha : aR a = 1) (h1 : tm_V1 n k G d i 0 fo aR) (hi : q ≤ i) : q = tm_Z n e k G d a ∧ tm_RS n e k G d a aR := by
  have A : ∀ c, tm_R n k G d a c → c < e ∧ aR c = 1 := by
    intro c hc
    refine tm_Rmin (fun c => c < e ∧ aR c = 1) ⟨hae, ha⟩ (fun b c hb hs => ?_) hc
    obtain ⟨hbe, hb1⟩ := hb
    rcases hV.2.2 b hbe with y | ⟨_, j, hj, e1⟩
    · exact absurd (hb1.symm.trans y) tx_10
    · obtain ⟨g, hg, z⟩ := hs
      have h2 := h1 j g (Or.inl ⟨by omega, hg⟩)
      rw [e1] at h2
      rcases z with z | z
      · rw [z.2]; exact ⟨tm_lt h _ _, h2.1 z.1⟩
      · rw [z.2]; exact ⟨tm_lt h _ _, h2.2 z.1⟩
  have B : ∀ c, c < e → (aR c = 1 ↔ tm_R n k G d a c) := by
    intro c hc
    refine ⟨fun z => ?_, fun z => (A c z).2⟩
    rcases hV.2.2 c hc with y | ⟨_, j, hj, e1⟩
    · exact absurd (z.symm.trans y) tx_10
    · rw [← e1]; exact (hV.2.1 j hj).2.2.1
  refine ⟨by rw [hV.1]; exact tm_ccong e B, fun c hc => ?_⟩
  rcases hV.2.2 c hc with y | y
  · exact Or.inr ⟨y, fun z => tx_10 (((B c hc).mpr z).symm.trans y)⟩
  · exact Or.inl ⟨y.1, (B c hc).mp y.1⟩
theorem tx_35 (fp fm fi fg fe fr : Int32) (aI aG aF aW aL aS aR aQ aZ aC : Nat → Int32) {post : Int32 → SX → Prop} {n e k d a : Nat} {G : Nat → Nat} (h : tm_N n e) (hk : k ≤ 4) (hd : d ≤ 2) (hae : a < e) (hG : ∀ g, g < k → G g < e ∧ aG g = nI (G g)) (hI : tm_XI n e aI)
    (hp : ∀ fr aR aQ, tm_RS n e k G d a aR → post (nI (tm_Z n e k G d a)) (nI n, nI e, nI (tm_u n), nI k, fe, fr, aI, aG, aF, aW, aL, aS, aR, aQ, aZ, aC)) :
    ∀ t i, i + t = e → ∀ q fo aR aQ, tm_V n e k G d a q fo aR aQ → i ≤ q → aR a = 1 → tm_V1 n k G d i 0 fo aR → wX_fillSet_35 post (nI d) (t + 1) (nI i) (nI n) (nI e) (nI (tm_u n)) (nI k) fe (nI q) aI aG aF aW aL aS aR aQ aZ aC := by
  have H := tm_Npos h
  intro t
  induction t with
  | zero =>
    intro i hit q fo aR aQ hV hi ha h1
    have hq : q ≤ e := by rw [hV.1]; exact tm_cle _ _
    obtain ⟨e1, e2⟩ := tm_VF h hae hV ha h1 (by omega)
    refine br_t (nI_le (by omega) (by omega)) ?_
    rw [e1]
    exact hp _ _ _ e2
  | succ t ih =>
    intro i hit q fo aR aQ hV hi ha h1
    have hq : q ≤ e := by rw [hV.1]; exact tm_cle _ _
    refine br_f (nI_ge (by omega) (by omega)) (pk_le q i (fun z => ?_) (fun z => ⟨vp_in_nI (by omega) (by omega), ?_⟩))
    · obtain ⟨e1, e2⟩ := tm_VF h hae hV ha h1 z
      rw [e1]
      exact hp _ _ _ e2
    · refine nm_r (e' := nI (fo i)) ?_ ⟨k + 1, ?_⟩
      · rw [nI_clamp (by omega)]; exact (hV.2.1 i z).2.1
      · refine tx_62 fp fm fi fg fe fr aI aG aF aW aL aS aR aQ aZ aC (a := a) (b := fo i) (G := G) h hk hd hG hI (fun q fo aR aQ hV' hi' ha' h1' => ?_) k 0 (by omega) q fo aR aQ hV z rfl ha (fun j g' hz => h1 j g' (by omega))
        exact ih (i + 1) (by omega) q fo aR aQ hV' (by omega) ha' (fun j g' hz => h1' j g' (by omega))
theorem tx_s2 (fp fm fi fg fe fr : Int32) (aI aG aF aW aL aS aR aQ aZ aC : Nat → Int32) {post : Int32 → SX → Prop} {n e k d a : Nat} {G : Nat → Nat} (h : tm_N n e) (hk : k ≤ 4) (hd : d ≤ 2) (hae : a < e) (hG : ∀ g, g < k → G g < e ∧ aG g = nI (G g)) (hI : tm_XI n e aI)
    (hp : ∀ fr aR aQ, tm_RS n e k G d a aR → post (nI (tm_Z n e k G d a)) (nI n, nI e, nI (tm_u n), nI k, fe, fr, aI, aG, aF, aW, aL, aS, aR, aQ, aZ, aC)) :
    ∀ t c, c + t = e → ∀ aR, (∀ x, x < c → aR x = 0) → wX_fillSet_2 post (nI d) (nI a) (nI n) (nI e) (nI (tm_u n)) (nI k) fe fr (t + 1) (nI c) aI aG aF aW aL aS aR aQ aZ aC := by
  have H := tm_Npos h
  intro t
  induction t with
  | zero =>
    intro c hct aR hw
    obtain rfl : c = e := by omega
    refine br_t (nI_le (Nat.le_refl _) (by omega)) ?_
    have hV0 : tm_V n c k G d a 0 (fun _ => 0) aR aQ := by
      refine ⟨?_, fun j hj => by omega, fun x hx => Or.inl (hw x hx)⟩
      exact (tm_c0 (P := fun x => aR x = 1) c (fun x hx z => tx_10 (z.symm.trans (hw x hx)))).symm
    refine tx_reach fp fm fi fg fe fr aI aG aF aW aL aS aR aQ aZ aC h hV0 hae tm_Rr (fun q' fo' aR' aQ' f1 f2 f3 f4 f5 => ⟨c + 1, ?_⟩)
    exact tx_35 fp fm fi fg fe fr aI aG aF aW aL aS aR aQ aZ aC h hk hd hae hG hI hp c 0 (by omega) q' fo' aR' aQ' f1 (by omega) f5 (fun j g' hz => by omega)
  | succ t ih =>
    intro c hct aR hw
    refine br_f (nI_ge (by omega) (by omega)) ⟨vp_in_nI (by omega) (by omega), nm_e (nm_r (nI_1 c) (ih (c + 1) (by omega) _ ?_))⟩
    intro x hx
    rw [nI_clamp (by omega)]
    by_cases z : x = c
    · subst z; exact pk_us
    · rw [pk_un z]; exact hw x (by omega)
theorem tx_fs (fp fm fi fg fe fr : Int32) (aI aG aF aW aL aS aR aQ aZ aC : Nat → Int32) {post : Int32 → SX → Prop} {n e k d a : Nat} {G : Nat → Nat} (h : tm_N n e) (hk : k ≤ 4) (hd : d ≤ 2) (hae : a < e) (hG : ∀ g, g < k → G g < e ∧ aG g = nI (G g)) (hI : tm_XI n e aI)
    (hp : ∀ fr aR aQ, tm_RS n e k G d a aR → post (nI (tm_Z n e k G d a)) (nI n, nI e, nI (tm_u n), nI k, fe, fr, aI, aG, aF, aW, aL, aS, aR, aQ, aZ, aC)) : wpX_fillSet post (nI n, nI e, nI (tm_u n), nI k, fe, fr, aI, aG, aF, aW, aL, aS, aR, aQ, aZ, aC) (nI d) (nI a) :=
  ⟨e + 1, tx_s2 fp fm fi fg fe fr aI aG aF aW aL aS aR aQ aZ aC h hk hd hae hG hI hp e 0 (by omega) aR (fun x hx => by omega)⟩
