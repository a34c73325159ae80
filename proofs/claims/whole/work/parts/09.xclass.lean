/-! X: classes, the kernel, commuting -/
def tm_q2 (n k : Nat) (G : Nat → Nat) (d a b : Nat) : Prop := tm_R n k G d a b ∧ tm_R n k G d b a
theorem tm_qt {n k d a b c : Nat} {G : Nat → Nat} (h : tm_q2 n k G d a b) (h' : tm_q2 n k G d b c) : tm_q2 n k G d a c := ⟨tm_Rt h.1 h'.1, tm_Rt h'.2 h.2⟩
theorem tm_qs {n k d a b : Nat} {G : Nat → Nat} (h : tm_q2 n k G d a b) : tm_q2 n k G d b a := ⟨h.2, h.1⟩
theorem tm_qr {n k d a : Nat} {G : Nat → Nat} : tm_q2 n k G d a a := ⟨tm_Rr, tm_Rr⟩
theorem tx_mc9 (fp fm fi fg fe fr : Int32) (aI aG aF aW aL aS aR aQ aZ aC : Nat → Int32) {post : SX → Prop} {n e k q d c : Nat} {G fo l N : Nat → Nat} {aC0 : Nat → Int32} (h : tm_X n e k G q fo l N aI aG aF aW aL aS) (hc : c < e) (hR : tm_RS n e k G d c aR) (hZ : ∀ j, j < q → aZ (fo j) = nI (tm_Z n e k G d (fo j))) (hZc : aZ c = nI (tm_Z n e k G d c))
    (hp : ∀ aC, (∀ j, j < q → (tm_q2 n k G d c (fo j) → aC (fo j) = 1) ∧ (¬ tm_q2 n k G d c (fo j) → aC (fo j) = aC0 (fo j))) → post (nI n, nI e, nI (tm_u n), nI k, nI q, fr, aI, aG, aF, aW, aL, aS, aR, aQ, aZ, aC)) :
    ∀ t i, i + t = q → ∀ aC, (∀ j, j < q → (j < i → tm_q2 n k G d c (fo j) → aC (fo j) = 1) ∧ (¬ tm_q2 n k G d c (fo j) → aC (fo j) = aC0 (fo j))) → wX_markClass_9 post (nI c) (nI n) (nI e) (nI (tm_u n)) (nI k) (nI q) fr (t + 1) (nI i) aI aG aF aW aL aS aR aQ aZ aC := by
  have H := tm_Npos h.1
  have hq : q ≤ e := h.2.2.2.2.1.2.1
  intro t
  induction t with
  | zero =>
    intro i hi aC hA
    exact br_t (nI_le (by omega) (by omega)) (hp aC fun j hj => ⟨fun z => (hA j hj).1 (by omega) z, (hA j hj).2⟩)
  | succ t ih =>
    intro i hi aC hA
    obtain ⟨a1, a2, a3, a4, a5, a6⟩ := h.2.2.2.2.2.1 i (by omega)
    refine br_f (nI_ge (by omega) (by omega)) ⟨vp_in_nI (by omega) (by omega), nm_r (e' := nI (fo i)) (by rw [nI_clamp (by omega), a2]) ⟨vp_in_nI (by omega) (by omega), ?_⟩⟩
    rw [nI_clamp (by omega : fo i < 2 ^ 31), nI_clamp (by omega : c < 2 ^ 31), hZ i (by omega), hZc]
    have hN : ¬ tm_q2 n k G d c (fo i) → ∀ j, j < q → (j < i + 1 → tm_q2 n k G d c (fo j) → aC (fo j) = 1) ∧ (¬ tm_q2 n k G d c (fo j) → aC (fo j) = aC0 (fo j)) := by
      intro hn j hj
      refine ⟨fun h1 h2 => ?_, (hA j hj).2⟩
      by_cases y : j = i
      · subst y; exact absurd h2 hn
      · exact (hA j hj).1 (by omega) h2
    rcases hR (fo i) a1 with ⟨r1, r2⟩ | ⟨r1, r2⟩
    · have b1 : tm_Z n e k G d (fo i) ≤ e := tm_Zle
      have b2 : tm_Z n e k G d c ≤ e := tm_Zle
      refine br_f (by rw [r1]; exact tx_10) ⟨vp_in_nI (by omega) (by omega), vp_in_nI (by omega) (by omega), pk_eq (tm_Z n e k G d (fo i)) (tm_Z n e k G d c) (fun z => ?_) (fun z => ?_)⟩
      · have hq2 : tm_q2 n k G d c (fo i) := ⟨r2, (tm_Zeq hc r2).mp z⟩
        refine ⟨vp_in_nI (by omega) (by omega), nm_e (nm_r (nI_1 i) (ih (i + 1) (by omega) _ fun j hj => ?_))⟩
        by_cases y : fo j = fo i
        · rw [y]
          exact ⟨fun _ _ => pk_us, fun w => absurd hq2 w⟩
        · rw [pk_un y]
          refine ⟨fun h1 h2 => (hA j hj).1 (by
            have : j ≠ i := fun w => y (by rw [w])
            omega) h2, (hA j hj).2⟩
      · exact nm_r (nI_1 i) (ih (i + 1) (by omega) aC (hN fun w => z ((tm_Zeq hc r2).mpr w.2)))
    · exact br_t r1 (nm_r (nI_1 i) (ih (i + 1) (by omega) aC (hN fun w => r2 w.1)))
theorem tx_mc (fp fm fi fg fe fr : Int32) (aI aG aF aW aL aS aR aQ aZ aC : Nat → Int32) {post : SX → Prop} {n e k q d c : Nat} {G fo l N : Nat → Nat} (h : tm_X n e k G q fo l N aI aG aF aW aL aS) (hd : d ≤ 2) (hc : c < e) (hZ : ∀ j, j < q → aZ (fo j) = nI (tm_Z n e k G d (fo j))) (hZc : aZ c = nI (tm_Z n e k G d c))
    (hp : ∀ fr aR aQ aC', (∀ j, j < q → (tm_q2 n k G d c (fo j) → aC' (fo j) = 1) ∧ (¬ tm_q2 n k G d c (fo j) → aC' (fo j) = aC (fo j))) → post (nI n, nI e, nI (tm_u n), nI k, nI q, fr, aI, aG, aF, aW, aL, aS, aR, aQ, aZ, aC')) :
    wpX_markClass post (nI n, nI e, nI (tm_u n), nI k, nI q, fr, aI, aG, aF, aW, aL, aS, aR, aQ, aZ, aC) (nI d) (nI c) := by
  unfold wpX_markClass
  refine tx_fs fp fm fi fg (nI q) fr aI aG aF aW aL aS aR aQ aZ aC h.1 h.2.1 hd hc h.2.2.1 h.2.2.2.1 (fun fr aR aQ hR => ⟨q + 1, ?_⟩)
  exact tx_mc9 fp fm fi fg fe fr aI aG aF aW aL aS aR aQ aZ aC (d := d) (aC0 := aC) h hc hR hZ hZc (fun aC' hA => hp fr aR aQ aC' hA) q 0 (by omega) aC (fun j hj => ⟨fun z => by omega, fun _ => rfl⟩)
def tm_fst (n k : Nat) (G : Nat → Nat) (d : Nat) (fo : Nat → Nat) (j : Nat) : Prop := ∀ j', j' < j → ¬ tm_q2 n k G d (fo j') (fo j)
theorem tx_c55 (fp fm fi fg fe fr : Int32) (aI aG aF aW aL aS aR aQ aZ aC : Nat → Int32) {post : Int32 → SX → Prop} {n e k q d : Nat} {G fo l N : Nat → Nat} (h : tm_X n e k G q fo l N aI aG aF aW aL aS) (hd : d ≤ 2) (hZ : ∀ j, j < q → aZ (fo j) = nI (tm_Z n e k G d (fo j)))
    (hp : ∀ fr aR aQ aC, post (nI (tm_c (tm_fst n k G d fo) q)) (nI n, nI e, nI (tm_u n), nI k, nI q, fr, aI, aG, aF, aW, aL, aS, aR, aQ, aZ, aC)) :
    ∀ t i, i + t = q → ∀ fr aR aQ aC, (∀ j, j < q → (aC (fo j) = 0 ↔ ∀ j', j' < i → ¬ tm_q2 n k G d (fo j') (fo j))) → wX_classes_55 post (nI d) (t + 1) (nI (tm_c (tm_fst n k G d fo) i)) (nI i) (nI n) (nI e) (nI (tm_u n)) (nI k) (nI q) fr aI aG aF aW aL aS aR aQ aZ aC := by
  have H := tm_Npos h.1
  have hq : q ≤ e := h.2.2.2.2.1.2.1
  intro t
  induction t with
  | zero =>
    intro i hi fr aR aQ aC hA
    obtain rfl : i = q := by omega
    exact br_t (nI_le (by omega) (by omega)) (hp fr aR aQ aC)
  | succ t ih =>
    intro i hi fr aR aQ aC hA
    obtain ⟨a1, a2, a3, a4, a5, a6⟩ := h.2.2.2.2.2.1 i (by omega)
    refine br_f (nI_ge (by omega) (by omega)) ⟨vp_in_nI (by omega) (by omega), nm_r (e' := nI (fo i)) (by rw [nI_clamp (by omega), a2]) ⟨vp_in_nI (by omega) (by omega), ?_⟩⟩
    rw [nI_clamp (by omega : fo i < 2 ^ 31)]
    have T := ih (i + 1) (by omega)
    by_cases z : aC (fo i) = 0
    · have hf : tm_fst n k G d fo i := (hA i (by omega)).mp z
      rw [tm_ct hf] at T
      refine br_t z (tx_mc fp fm fi fg fe fr aI aG aF aW aL aS aR aQ aZ aC h hd a1 hZ (hZ i (by omega)) (fun fr aR aQ aC' hC => nm_r (nI_1 _) (nm_r (nI_1 i) (T fr aR aQ aC' fun j hj => ?_))))
      obtain ⟨c1, c2⟩ := hC j hj
      by_cases y : tm_q2 n k G d (fo i) (fo j)
      · rw [c1 y]
        exact ⟨fun w => absurd w tx_10, fun w => absurd y (w i (by omega))⟩
      · rw [c2 y, hA j hj]
        refine ⟨fun w j' hj' => ?_, fun w j' hj' => w j' (by omega)⟩
        by_cases v : j' = i
        · subst v; exact y
        · exact w j' (by omega)
    · have hf : ¬ tm_fst n k G d fo i := fun w => z ((hA i (by omega)).mpr w)
      rw [tm_cf hf] at T
      refine br_f z (nm_r (nI_1 i) (T fr aR aQ aC fun j hj => ?_))
      rw [hA j hj]
      refine ⟨fun w j' hj' y => ?_, fun w j' hj' => w j' (by omega)⟩
      by_cases v : j' = i
      · subst v
        exact hf fun i' hi' x => w i' hi' (tm_qt x y)
      · exact w j' (by omega) y
theorem tx_c11 (fp fm fi fg fe fr : Int32) (aI aG aF aW aL aS aR aQ aZ aC : Nat → Int32) {post : Int32 → SX → Prop} {n e k q d : Nat} {G fo l N : Nat → Nat} (h : tm_X n e k G q fo l N aI aG aF aW aL aS) (hd : d ≤ 2)
    (hp : ∀ fr aR aQ aZ aC, post (nI (tm_c (tm_fst n k G d fo) q)) (nI n, nI e, nI (tm_u n), nI k, nI q, fr, aI, aG, aF, aW, aL, aS, aR, aQ, aZ, aC)) :
    ∀ t i, i + t = q → ∀ fr aR aQ aZ aC, (∀ j, j < i → aZ (fo j) = nI (tm_Z n e k G d (fo j)) ∧ aC (fo j) = 0) → wX_classes_11 post (nI d) (t + 1) (nI i) (nI n) (nI e) (nI (tm_u n)) (nI k) (nI q) fr aI aG aF aW aL aS aR aQ aZ aC := by
  have H := tm_Npos h.1
  have hq : q ≤ e := h.2.2.2.2.1.2.1
  intro t
  induction t with
  | zero =>
    intro i hi fr aR aQ aZ aC hA
    obtain rfl : i = q := by omega
    refine br_t (nI_le (by omega) (by omega)) ⟨i + 1, ?_⟩
    exact tx_c55 fp fm fi fg fe fr aI aG aF aW aL aS aR aQ aZ aC h hd (fun j hj => (hA j hj).1) (fun fr aR aQ aC => hp fr aR aQ aZ aC) i 0 (by omega) fr aR aQ aC (fun j hj => ⟨fun _ j' hj' => by omega, fun _ => (hA j hj).2⟩)
  | succ t ih =>
    intro i hi fr aR aQ aZ aC hA
    obtain ⟨a1, a2, a3, a4, a5, a6⟩ := h.2.2.2.2.2.1 i (by omega)
    refine br_f (nI_ge (by omega) (by omega)) ⟨vp_in_nI (by omega) (by omega), nm_r (e' := nI (fo i)) (by rw [nI_clamp (by omega), a2]) ?_⟩
    refine tx_fs fp fm fi fg (nI q) fr aI aG aF aW aL aS aR aQ aZ aC h.1 h.2.1 hd a1 h.2.2.1 h.2.2.2.1 (fun fr aR aQ hR => ⟨vp_in_nI (by omega) (by omega), ?_⟩)
    refine nm_e ⟨vp_in_nI (by omega) (by omega), nm_e (nm_r (nI_1 i) (ih (i + 1) (by omega) fr aR aQ _ _ fun j hj => ?_))⟩
    rw [nI_clamp (by omega : fo i < 2 ^ 31)]
    by_cases y : fo j = fo i
    · rw [y, pk_us, pk_us]
      exact ⟨rfl, rfl⟩
    · rw [pk_un y, pk_un y]
      exact hA j (by
        have : j ≠ i := fun w => y (by rw [w])
        omega)
theorem tx_kd {post : Int32 → Prop} {d : Nat} (hd : d ≤ 2) (hp : post 1) : wpX_isKind post (nI d) :=
  br_f (nI_pos (by omega)) (br_f (nI_nlt (a := 2) (b := d) hd (by omega)) hp)
theorem tx_kn {post : Int32 → Prop} {v : Int32} (hv : v < 0 ∨ 2 < v) (hp : post 0) : wpX_isKind post v := by
  by_cases z : v < 0
  · exact br_t z hp
  · rcases hv with y | y
    · exact absurd y z
    · exact br_f z (br_t y hp)
theorem tx_ke7 (fp fm fi fg fe fr : Int32) (aI aG aF aW aL aS aR aQ aZ aC : Nat → Int32) {post : Int32 → SX → Prop} {n e k q : Nat} {G fo l N : Nat → Nat} (h : tm_X n e k G q fo l N aI aG aF aW aL aS)
    (hp : ∀ fr aR aQ r, r ≤ q → (∀ j, j < q → r ≤ tm_Z n e k G 2 (fo j)) → (r = q ∨ ∃ j, j < q ∧ r = tm_Z n e k G 2 (fo j)) → post (nI r) (nI n, nI e, nI (tm_u n), nI k, nI q, fr, aI, aG, aF, aW, aL, aS, aR, aQ, aZ, aC)) :
    ∀ t i, i + t = q → ∀ fr aR aQ r, r ≤ q → (∀ j, j < i → r ≤ tm_Z n e k G 2 (fo j)) → (r = q ∨ ∃ j, j < q ∧ r = tm_Z n e k G 2 (fo j)) → wX_kernel_7 post (t + 1) (nI r) (nI i) (nI n) (nI e) (nI (tm_u n)) (nI k) (nI q) fr aI aG aF aW aL aS aR aQ aZ aC := by
  have H := tm_Npos h.1
  have hq : q ≤ e := h.2.2.2.2.1.2.1
  intro t
  induction t with
  | zero =>
    intro i hi fr aR aQ r h1 h2 h3
    obtain rfl : i = q := by omega
    exact br_t (nI_le (by omega) (by omega)) (hp fr aR aQ r h1 h2 h3)
  | succ t ih =>
    intro i hi fr aR aQ r h1 h2 h3
    obtain ⟨a1, a2, a3, a4, a5, a6⟩ := h.2.2.2.2.2.1 i (by omega)
    refine br_f (nI_ge (by omega) (by omega)) ⟨vp_in_nI (by omega) (by omega), ?_⟩
    rw [nI_clamp (by omega : i < 2 ^ 31), a2]
    refine tx_fs fp fm fi fg (nI q) fr aI aG aF aW aL aS aR aQ aZ aC (d := 2) h.1 h.2.1 (Nat.le_refl _) a1 h.2.2.1 h.2.2.2.1 (fun fr aR aQ hR => ?_)
    have b1 : tm_Z n e k G 2 (fo i) ≤ e := tm_Zle
    refine pk_le r (tm_Z n e k G 2 (fo i)) (fun z => ?_) (fun z => ?_)
    · refine nm_r (nI_1 i) (ih (i + 1) (by omega) fr aR aQ r h1 (fun j hj => ?_) h3)
      by_cases y : j = i
      · subst y; exact z
      · exact h2 j (by omega)
    · refine nm_r (nI_1 i) (ih (i + 1) (by omega) fr aR aQ _ (by omega) (fun j hj => ?_) (Or.inr ⟨i, by omega, rfl⟩))
      by_cases y : j = i
      · subst y; exact Nat.le_refl _
      · have := h2 j (by omega); omega
theorem tx_co12 (fp fm fi fg fe fr : Int32) (aI aG aF aW aL aS aR aQ aZ aC : Nat → Int32) {post : Int32 → Prop} {J2 : Int32 → Prop} {n e k i : Nat} {G : Nat → Nat} (h : tm_N n e) (hk : k ≤ 4) (hG : ∀ g, g < k → G g < e ∧ aG g = nI (G g)) (hI : tm_XI n e aI) (hi : i < k)
    (hN : (∃ i j, i < k ∧ j < k ∧ tm_m n (G i) (G j) ≠ tm_m n (G j) (G i)) → post 0) (hJ : (∀ j, j < i → tm_m n (G i) (G j) = tm_m n (G j) (G i)) → J2 (nI (i + 1))) :
    ∀ t j, j + t = i → (∀ j', j' < j → tm_m n (G i) (G j') = tm_m n (G j') (G i)) → wX_commutes_12 post J2 (nI i) (nI n) (nI e) (nI (tm_u n)) (nI k) fe fr aI aG aF aW aL aS aR aQ aZ aC (t + 1) (nI j) := by
  have H := tm_Npos h
  intro t
  induction t with
  | zero =>
    intro j hj hA
    obtain rfl : j = i := by omega
    exact br_t (nI_le (by omega) (by omega)) (nm_r (nI_1 j) (hJ hA))
  | succ t ih =>
    intro j hj hA
    refine br_f (nI_ge (by omega) (by omega)) ⟨vp_in_nI (by omega) (by omega), vp_in_nI (by omega) (by omega), ?_⟩
    rw [nI_clamp (by omega : i < 2 ^ 31), nI_clamp (by omega : j < 2 ^ 31), (hG i hi).2, (hG j (by omega)).2]
    refine tx_mul (nI n) (nI e) (nI (tm_u n)) (nI k) fe fr aI aG aF aW aL aS aR aQ aZ aC h (hG i hi).1 (hG j (by omega)).1 hI ⟨vp_in_nI (by omega) (by omega), vp_in_nI (by omega) (by omega), ?_⟩
    refine tx_mul (nI n) (nI e) (nI (tm_u n)) (nI k) fe fr aI aG aF aW aL aS aR aQ aZ aC h (hG j (by omega)).1 (hG i hi).1 hI ?_
    have b1 := tm_lt h (G i) (G j)
    have b2 := tm_lt h (G j) (G i)
    refine pk_eq (tm_m n (G i) (G j)) (tm_m n (G j) (G i)) (fun z => nm_r (nI_1 j) (ih (j + 1) (by omega) fun j' hj' => ?_)) (fun z => hN ⟨i, j, hi, by omega, z⟩)
    by_cases y : j' = j
    · subst y; exact z
    · exact hA j' (by omega)
theorem tx_co2 (fp fm fi fg fe fr : Int32) (aI aG aF aW aL aS aR aQ aZ aC : Nat → Int32) {post : Int32 → Prop} {n e k : Nat} {G : Nat → Nat} (h : tm_N n e) (hk : k ≤ 4) (hG : ∀ g, g < k → G g < e ∧ aG g = nI (G g)) (hI : tm_XI n e aI)
    (hN : (∃ i j, i < k ∧ j < k ∧ tm_m n (G i) (G j) ≠ tm_m n (G j) (G i)) → post 0) (hY : (∀ i j, i < k → j < k → tm_m n (G i) (G j) = tm_m n (G j) (G i)) → post 1) :
    ∀ t i, i + t = k → (∀ i' j', i' < i → j' < i' → tm_m n (G i') (G j') = tm_m n (G j') (G i')) → wX_commutes_2 post (nI n) (nI e) (nI (tm_u n)) (nI k) fe fr aI aG aF aW aL aS aR aQ aZ aC (t + 1) (nI i) := by
  have H := tm_Npos h
  intro t
  induction t with
  | zero =>
    intro i hi hA
    refine br_t (nI_le (by omega) (by omega)) (hY fun a b ha hb => ?_)
    rcases Nat.lt_trichotomy a b with y | y | y
    · exact (hA b a (by omega) y).symm
    · rw [y]
    · exact hA a b (by omega) y
  | succ t ih =>
    intro i hi hA
    refine br_f (nI_ge (by omega) (by omega)) ⟨i + 1, ?_⟩
    refine tx_co12 fp fm fi fg fe fr aI aG aF aW aL aS aR aQ aZ aC (G := G) h hk hG hI (by omega) hN (fun hB => ih (i + 1) (by omega) fun a b ha hb => ?_) i 0 (by omega) (fun j' hj' => by omega)
    by_cases y : a = i
    · subst y; exact hB b hb
    · exact hA a b (by omega) hb
