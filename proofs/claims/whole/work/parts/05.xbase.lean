/-! X: products, images, the count of images -/
def tm_XI (n e : Nat) (aI : Nat → Int32) : Prop := ∀ f p, f < e → p < n → aI (f * 4 + p) = nI (tm_im n f p)
theorem tx_ix (f p : Nat) : nI f * 4 + nI p = nI (f * 4 + p) := by
  show nI f * nI 4 + nI p = _
  rw [pk_mul, nI_add]
theorem tx_m5 (fp fm fi fg fe fr : Int32) (aI aG aF aW aL aS aR aQ aZ aC : Nat → Int32) {post : Int32 → Prop} {n e f g : Nat} (h : tm_N n e) (hf : f < e) (hg : g < e) (hI : tm_XI n e aI) (hp : post (nI (tm_m n f g))) : ∀ d p, p + d = n → wX_multiply_5 post (nI f) (nI g) (nI n) fm fi fg fe fr aI aG aF aW aL aS aR aQ aZ aC (d + 1) (nI (tm_mk n f g p)) (nI p) := by
  have H := tm_Npos h
  intro d
  induction d with
  | zero =>
    intro p hp'
    obtain rfl : p = n := by omega
    exact br_t (nI_le (Nat.le_refl _) (by omega)) hp
  | succ d ih =>
    intro p hpd
    have hi := tm_imlt h f p
    refine br_f (nI_ge (by omega) (by omega)) ⟨?_, nm_r (e' := nI (tm_im n f p)) ?_ ⟨?_, nm_r (e' := nI (tm_mk n f g (p + 1))) ?_ (nm_r (nI_1 p) (ih (p + 1) (by omega)))⟩⟩
    · rw [tx_ix]; exact vp_in_nI (by omega) (by omega)
    · rw [tx_ix, nI_clamp (by omega)]; exact hI f p hf (by omega)
    · rw [tx_ix]; exact vp_in_nI (by omega) (by omega)
    · rw [tx_ix, nI_clamp (by omega), hI g _ hg hi, pk_mul, nI_add]
      rfl
theorem tx_mul (fp fm fi fg fe fr : Int32) (aI aG aF aW aL aS aR aQ aZ aC : Nat → Int32) {post : Int32 → Prop} {n e f g : Nat} (h : tm_N n e) (hf : f < e) (hg : g < e) (hI : tm_XI n e aI) (hp : post (nI (tm_m n f g))) : wpX_multiply post (nI n, fm, fi, fg, fe, fr, aI, aG, aF, aW, aL, aS, aR, aQ, aZ, aC) (nI f) (nI g) :=
  ⟨n + 1, tx_m5 fp fm fi fg fe fr aI aG aF aW aL aS aR aQ aZ aC h hf hg hI hp n 0 (by omega)⟩
def tm_or (n f : Nat) : Nat → Nat
  | 0 => 0
  | p + 1 => tm_or n f p ||| 2 ^ (tm_im n f p)
def tm_pc (s : Nat) : Nat := s % 2 + s / 2 % 2 + s / 4 % 2 + s / 8 % 2
def tm_rk (n f : Nat) : Nat := tm_pc (tm_or n f n)
theorem tx_bit : ∀ s, s < 16 → ∀ d, d < 4 → ((nI s &&& ((1 : Int32) <<< (nI d &&& 31))) = 0 ↔ s / 2 ^ d % 2 = 0) ∧ (nI s ||| ((1 : Int32) <<< (nI d &&& 31))) = nI (s ||| 2 ^ d) ∧ s ||| 2 ^ d < 16 ∧ (s / 2 ^ d % 2 = 0 → tm_pc (s ||| 2 ^ d) = tm_pc s + 1) ∧ (¬ s / 2 ^ d % 2 = 0 → s ||| 2 ^ d = s) := by decide +kernel
theorem tm_orlt {n e : Nat} (h : tm_N n e) (f : Nat) : ∀ p, tm_or n f p < 16 := by
  have H := tm_Npos h
  intro p
  induction p with
  | zero => exact (by decide : 0 < 16)
  | succ p ih => exact (tx_bit _ ih _ (by have := tm_imlt h f p; omega)).2.2.1
theorem tx_ci7 (fp fm fi fg fe fr : Int32) (aI aG aF aW aL aS aR aQ aZ aC : Nat → Int32) {post : Int32 → Prop} {n e f : Nat} (h : tm_N n e) (hf : f < e) (hI : tm_XI n e aI) (hp : post (nI (tm_rk n f))) : ∀ d p, p + d = n → wX_countImages_7 post (nI f) (nI n) fm fi fg fe fr aI aG aF aW aL aS aR aQ aZ aC (d + 1) (nI (tm_or n f p)) (nI (tm_pc (tm_or n f p))) (nI p) := by
  have H := tm_Npos h
  intro d
  induction d with
  | zero =>
    intro p hp'
    obtain rfl : p = n := by omega
    exact br_t (nI_le (Nat.le_refl _) (by omega)) hp
  | succ d ih =>
    intro p hpd
    have hi := tm_imlt h f p
    obtain ⟨t1, t2, t3, t4, t5⟩ := tx_bit _ (tm_orlt h f p) _ (by omega : tm_im n f p < 4)
    refine br_f (nI_ge (by omega) (by omega)) ⟨?_, nm_r (e' := (1 : Int32) <<< (nI (tm_im n f p) &&& 31)) ?_ ?_⟩
    · rw [tx_ix]; exact vp_in_nI (by omega) (by omega)
    · rw [tx_ix, nI_clamp (by omega), hI f p hf (by omega)]
    · by_cases z : tm_or n f p / 2 ^ (tm_im n f p) % 2 = 0
      · refine br_t (t1.mpr z) (nm_r (e' := nI (tm_or n f (p + 1))) t2 (nm_r (e' := nI (tm_pc (tm_or n f (p + 1)))) ?_ (nm_r (nI_1 p) (ih (p + 1) (by omega)))))
        rw [nI_1, show tm_or n f (p + 1) = tm_or n f p ||| 2 ^ (tm_im n f p) from rfl, t4 z]
      · refine br_f (fun y => z (t1.mp y)) (nm_r (nI_1 p) ?_)
        have e1 : tm_or n f (p + 1) = tm_or n f p := t5 z
        have := ih (p + 1) (by omega)
        rw [e1] at this
        exact this
theorem tx_ci (fp fm fi fg fe fr : Int32) (aI aG aF aW aL aS aR aQ aZ aC : Nat → Int32) {post : Int32 → Prop} {n e f : Nat} (h : tm_N n e) (hf : f < e) (hI : tm_XI n e aI) (hp : post (nI (tm_rk n f))) : wpX_countImages post (nI n, fm, fi, fg, fe, fr, aI, aG, aF, aW, aL, aS, aR, aQ, aZ, aC) (nI f) :=
  ⟨n + 1, by
    have t := tx_ci7 fp fm fi fg fe fr aI aG aF aW aL aS aR aQ aZ aC h hf hI hp n 0 (by omega)
    rw [show tm_or n f 0 = 0 from rfl, show tm_pc 0 = 0 from rfl] at t
    exact t⟩
/-! X: the table of images -/
theorem tx_m0 : nI 0 + (-1) < 0 := by decide
theorem tx_f19 (fp fm fi fg fe fr : Int32) (aI aG aF aW aL aS aR aQ aZ aC : Nat → Int32) {post : SX → Prop} {J2 : Int32 → (Nat → Int32) → (Nat → Int32) → (Nat → Int32) → (Nat → Int32) → (Nat → Int32) → (Nat → Int32) → (Nat → Int32) → (Nat → Int32) → (Nat → Int32) → (Nat → Int32) → Prop} {n e c : Nat} (h : tm_N n e) (hc : c < e)
    (hJ : ∀ aI, (∀ f p, f < c + 1 → p < n → aI (f * 4 + p) = nI (tm_im n f p)) → J2 (nI (c + 1)) aI aG aF aW aL aS aR aQ aZ aC) :
    ∀ t, t ≤ n → ∀ aI, (∀ f p, f < c → p < n → aI (f * 4 + p) = nI (tm_im n f p)) → (∀ p, t ≤ p → p < n → aI (c * 4 + p) = nI (tm_im n c p)) →
    wX_fillImages_19 post J2 (nI c) (nI n) fm fi fg fe fr (t + 1) (nI (c / n ^ (n - t))) (nI t + (-1)) aI aG aF aW aL aS aR aQ aZ aC := by
  have H := tm_Npos h
  intro t
  induction t with
  | zero =>
    intro _ aI h1 h2
    refine br_t tx_m0 (nm_r (nI_1 c) (hJ aI fun f p hf hp => ?_))
    by_cases z : f = c
    · subst z; exact h2 p (by omega) hp
    · exact h1 f p (by omega) hp
  | succ t ih =>
    intro ht aI h1 h2
    rw [pk_m1]
    have hd : c / n ^ (n - (t + 1)) ≤ c := Nat.div_le_self _ _
    refine br_f (nI_pos (by omega)) ⟨nI_ne0 (by omega) (by omega), ?_, nm_e ⟨nI_ne0 (by omega) (by omega), nm_r (e' := nI (c / n ^ (n - t))) ?_ (nm_e (ih (by omega) _ ?_ ?_))⟩⟩
    · rw [tx_ix]; exact vp_in_nI (by omega) (by omega)
    · rw [pk_div (by omega) (by omega) (by omega), Nat.div_div_eq_div_mul, ← Nat.pow_succ]
      exact congrArg nI (congrArg _ (congrArg _ (by omega)))
    · intro f p hf hp
      rw [tx_ix, nI_clamp (by omega), pk_un (by omega)]
      exact h1 f p hf hp
    · intro p htp hp
      rw [tx_ix, nI_clamp (by omega)]
      by_cases z : p = t
      · subst z
        rw [pk_us, pk_rem (by omega) (by omega) (by omega)]
        show nI _ = nI (c / n ^ (n - 1 - p) % n)
        exact congrArg nI (congrArg (· % n) (congrArg _ (congrArg _ (by omega))))
      · rw [pk_un (by omega)]
        exact h2 p (by omega) hp
theorem tx_f2 (fp fm fi fg fe fr : Int32) (aI aG aF aW aL aS aR aQ aZ aC : Nat → Int32) {post : SX → Prop} {n e : Nat} (h : tm_N n e)
    (hp : ∀ aI, tm_XI n e aI → post (nI n, nI e, fi, fg, fe, fr, aI, aG, aF, aW, aL, aS, aR, aQ, aZ, aC)) :
    ∀ d c, c + d = e → ∀ aI, (∀ f p, f < c → p < n → aI (f * 4 + p) = nI (tm_im n f p)) →
    wX_fillImages_2 post (nI n) (nI e) fi fg fe fr (d + 1) (nI c) aI aG aF aW aL aS aR aQ aZ aC := by
  have H := tm_Npos h
  intro d
  induction d with
  | zero =>
    intro c hc aI h1
    obtain rfl : c = e := by omega
    exact br_t (nI_le (Nat.le_refl _) (by omega)) (hp aI h1)
  | succ d ih =>
    intro c hc aI h1
    refine br_f (nI_ge (by omega) (by omega)) (nm_r (e' := nI n + (-1)) (Int32.sub_eq_add_neg _ _) ⟨n + 1, ?_⟩)
    have := tx_f19 fp (nI e) fi fg fe fr aI aG aF aW aL aS aR aQ aZ aC (post := post) (J2 := wX_fillImages_2 post (nI n) (nI e) fi fg fe fr (d + 1)) h (by omega : c < e) (fun aI h2 => ih (c + 1) (by omega) aI h2) n (Nat.le_refl _) aI h1 (fun p h1 h2 => by omega)
    rw [Nat.sub_self, Nat.pow_zero, Nat.div_one] at this
    exact this
theorem tx_fi (fp fm fi fg fe fr : Int32) (aI aG aF aW aL aS aR aQ aZ aC : Nat → Int32) {post : SX → Prop} {n e : Nat} (h : tm_N n e)
    (hp : ∀ aI, tm_XI n e aI → post (nI n, nI e, fi, fg, fe, fr, aI, aG, aF, aW, aL, aS, aR, aQ, aZ, aC)) : wpX_fillImages post (nI n, nI e, fi, fg, fe, fr, aI, aG, aF, aW, aL, aS, aR, aQ, aZ, aC) :=
  ⟨e + 1, tx_f2 fp fm fi fg fe fr aI aG aF aW aL aS aR aQ aZ aC h hp e 0 (by omega) aI (fun f p hf => by omega)⟩
def tm_uk (n : Nat) : Nat → Nat
  | 0 => 0
  | p + 1 => tm_uk n p * n + p
theorem tm_ukn {n e : Nat} (h : tm_N n e) : tm_uk n n = tm_u n ∧ n ^ n = e := by
  rcases h with ⟨h, h'⟩ | ⟨h, h'⟩ | ⟨h, h'⟩ <;> subst h h' <;> decide
theorem tx_i107 (fp fm fi fg fe fr : Int32) (aI aG aF aW aL aS aR aQ aZ aC : Nat → Int32) {post : SX → Prop} {n e : Nat} (h : tm_N n e)
    (hp : ∀ aI, tm_XI n e aI → wpX_findElements post (nI n, nI e, nI (tm_u n), fg, fe, fr, aI, aG, aF, aW, aL, aS, aR, aQ, aZ, aC)) :
    ∀ d p, p + d = n → wX_init_107 post (nI n) fm fi fg fe fr aI aG aF aW aL aS aR aQ aZ aC (d + 1) (nI (n ^ p)) (nI (tm_uk n p)) (nI p) := by
  have H := tm_Npos h
  intro d
  induction d with
  | zero =>
    intro p hpd
    obtain rfl : p = n := by omega
    refine br_t (nI_le (Nat.le_refl _) (by omega)) ?_
    rw [(tm_ukn h).1, (tm_ukn h).2]
    exact tx_fi fp fm (nI (tm_u p)) fg fe fr aI aG aF aW aL aS aR aQ aZ aC h (fun aI hI => hp aI hI)
  | succ d ih =>
    intro p hpd
    refine br_f (nI_ge (by omega) (by omega)) (nm_r (e' := nI (n ^ (p + 1))) ?_ (nm_r (e' := nI (tm_uk n (p + 1))) ?_ (nm_r (nI_1 p) (ih (p + 1) (by omega)))))
    · rw [pk_mul, Nat.pow_succ]
    · rw [pk_mul, nI_add]; rfl
