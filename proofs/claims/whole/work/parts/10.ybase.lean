/-! Y: images, products, the unit, a new generator -/
theorem ty_n1 {n e : Nat} (h : tm_N n e) : nI n - 1 = nI (n - 1) := pk_sub (b := 1) (by have := tm_Npos h; omega)
theorem ty_im5 (fn fend fcnt : Int32) (yG yT yL : Nat → Int32) (yW : Nat → Int64) (yN : Nat → Int32) (yS : Nat → Int64) {post : Int32 → Prop} {n e k : Nat} (h : tm_N n e) : ∀ t r p, p + t = n - 1 → r < 2 ^ 31 → post (nI (r / n ^ t % n)) → wY_image_5 post (nI n) (nI e) (nI k) yG yT yL yW yN yS (t + 1) (nI r) (nI p) := by
  have H := tm_Npos h
  intro t
  induction t with
  | zero =>
    intro r p hp hr hpo
    rw [Nat.pow_zero, Nat.div_one] at hpo
    refine br_t (by rw [ty_n1 h]; exact nI_le (by omega) (by omega)) (br_t (nI_le (a := 1) (by omega) (by omega)) ⟨nI_ne0 (by omega) (by omega), ?_⟩)
    rw [pk_rem hr (by omega) (by omega)]
    exact hpo
  | succ t ih =>
    intro r p hp hr hpo
    have hd : r / n ≤ r := Nat.div_le_self _ _
    refine br_f (by rw [ty_n1 h]; exact nI_ge (by omega) (by omega)) (br_t (nI_le (a := 1) (by omega) (by omega)) ⟨nI_ne0 (by omega) (by omega), nm_r (pk_div hr (by omega) (by omega)) (nm_r (nI_1 p) (ih (r / n) (p + 1) (by omega) (by omega) ?_))⟩)
    rw [Nat.div_div_eq_div_mul, Nat.mul_comm, ← Nat.pow_succ]
    exact hpo
theorem ty_im (fn fend fcnt : Int32) (yG yT yL : Nat → Int32) (yW : Nat → Int64) (yN : Nat → Int32) (yS : Nat → Int64) {post : Int32 → Prop} {n e k f p : Nat} (h : tm_N n e) (hf : f < e) (hp : p < n) (hpo : post (nI (tm_im n f p))) : wpY_image post (nI n, nI e, nI k, yG, yT, yL, yW, yN, yS) (nI f) (nI p) :=
  ⟨n - 1 - p + 1, ty_im5 fn fend fcnt yG yT yL yW yN yS h (n - 1 - p) f p (by omega) (by have := tm_Npos h; omega) hpo⟩
theorem ty_t5 (fn fend fcnt : Int32) (yG yT yL : Nat → Int32) (yW : Nat → Int64) (yN : Nat → Int32) (yS : Nat → Int64) {post : Int32 → Prop} {n e k f g : Nat} (h : tm_N n e) (hf : f < e) (hg : g < e) (hp : post (nI (tm_m n f g))) : ∀ d p, p + d = n → wY_times_5 post (nI f) (nI g) (nI n) (nI e) (nI k) yG yT yL yW yN yS (d + 1) (nI (tm_mk n f g p)) (nI p) := by
  have H := tm_Npos h
  intro d
  induction d with
  | zero =>
    intro p hp'
    obtain rfl : p = n := by omega
    exact br_t (nI_le (Nat.le_refl _) (by omega)) hp
  | succ d ih =>
    intro p hpd
    refine br_f (nI_ge (by omega) (by omega)) (ty_im fn fend fcnt yG yT yL yW yN yS h hf (by omega) (ty_im fn fend fcnt yG yT yL yW yN yS h hg (tm_imlt h f p) ?_))
    refine nm_r (e' := nI (tm_mk n f g (p + 1))) ?_ (nm_r (nI_1 p) (ih (p + 1) (by omega)))
    rw [pk_mul, nI_add, Nat.mul_comm]
    rfl
theorem ty_times (fn fend fcnt : Int32) (yG yT yL : Nat → Int32) (yW : Nat → Int64) (yN : Nat → Int32) (yS : Nat → Int64) {post : Int32 → Prop} {n e k f g : Nat} (h : tm_N n e) (hf : f < e) (hg : g < e) (hp : post (nI (tm_m n f g))) : wpY_times post (nI n, nI e, nI k, yG, yT, yL, yW, yN, yS) (nI f) (nI g) :=
  ⟨n + 1, ty_t5 fn fend fcnt yG yT yL yW yN yS h hf hg hp n 0 (by omega)⟩
theorem ty_u4 (fn fend fcnt : Int32) (yG yT yL : Nat → Int32) (yW : Nat → Int64) (yN : Nat → Int32) (yS : Nat → Int64) {post : Int32 → Prop} {n e k : Nat} (h : tm_N n e) (hp : post (nI (tm_u n))) : ∀ d p, p + d = n → wY_unit_4 post (nI n) (nI e) (nI k) yG yT yL yW yN yS (d + 1) (nI (tm_uk n p)) (nI p) := by
  have H := tm_Npos h
  intro d
  induction d with
  | zero =>
    intro p hp'
    obtain rfl : p = n := by omega
    refine br_t (nI_le (Nat.le_refl _) (by omega)) ?_
    rw [(tm_ukn h).1]
    exact hp
  | succ d ih =>
    intro p hpd
    refine br_f (nI_ge (by omega) (by omega)) (nm_r (e' := nI (tm_uk n (p + 1))) ?_ (nm_r (nI_1 p) (ih (p + 1) (by omega))))
    rw [pk_mul, nI_add, Nat.mul_comm]
    rfl
theorem ty_unit (fn fend fcnt : Int32) (yG yT yL : Nat → Int32) (yW : Nat → Int64) (yN : Nat → Int32) (yS : Nat → Int64) {post : Int32 → Prop} {n e k : Nat} (h : tm_N n e) (hp : post (nI (tm_u n))) : wpY_unit post (nI n, nI e, nI k, yG, yT, yL, yW, yN, yS) :=
  ⟨n + 1, ty_u4 fn fend fcnt yG yT yL yW yN yS h hp n 0 (by omega)⟩
theorem ty_by (fn fend fcnt : Int32) (yG yT yL : Nat → Int32) (yW : Nat → Int64) (yN : Nat → Int32) (yS : Nat → Int64) {post : Int32 → Prop} {n e k c : Nat} (h : tm_N n e) (hc : c < e) (hp : post 0) : wpY_bad post (nI n, nI e, nI k, yG, yT, yL, yW, yN, yS) (nI c) := by
  have H := tm_Npos h
  exact br_f (nI_pos (by omega)) (br_t (nI_lt hc (by omega)) hp)
theorem ty_bn (fn fend fcnt : Int32) (yG yT yL : Nat → Int32) (yW : Nat → Int64) (yN : Nat → Int32) (yS : Nat → Int64) {post : Int32 → Prop} {n e k : Nat} {v : Int32} (hv : v < 0 ∨ nI e ≤ v) (hp : post 1) : wpY_bad post (nI n, nI e, nI k, yG, yT, yL, yW, yN, yS) v := by
  by_cases z : v < 0
  · exact br_t z hp
  · rcases hv with y | y
    · exact absurd y z
    · exact br_f z (br_f (Int32.not_lt.mpr y) hp)
/-- the table of products with the generators -/
def tm_NX (n e k : Nat) (G : Nat → Nat) (yN : Nat → Int32) : Prop := ∀ g c, g < k → c < e → yN (256 * g + c) = nI (tm_m n c (G g)) ∧ yN (1024 + 256 * g + c) = nI (tm_m n (G g) c)
theorem ty_i1 (g c : Nat) : 256 * nI g + nI c = nI (256 * g + c) := by
  show nI 256 * nI g + nI c = _
  rw [pk_mul, nI_add]
theorem ty_i2 (g c : Nat) : 1024 + 256 * nI g + nI c = nI (1024 + 256 * g + c) := by
  show nI 1024 + nI 256 * nI g + nI c = _
  rw [pk_mul, nI_add, nI_add]
theorem ty_l9 (fn fend fcnt : Int32) (yG yT yL : Nat → Int32) (yW : Nat → Int64) (yN : Nat → Int32) (yS : Nat → Int64) {post : SY → Prop} {n e k : Nat} {G : Nat → Nat} (h : tm_N n e) (hk : k < 4) (hG : G k < e)
    (hp : ∀ yN, tm_NX n e (k + 1) G yN → post (nI n, nI e, nI k, yG, yT, yL, yW, yN, yS)) :
    ∀ t c, c + t = e → ∀ yN, (∀ g c', g < k ∨ (g = k ∧ c' < c) → c' < e → yN (256 * g + c') = nI (tm_m n c' (G g)) ∧ yN (1024 + 256 * g + c') = nI (tm_m n (G g) c')) → wY_learn_9 post (nI k) (nI (G k)) (nI n) (nI e) (nI k) (t + 1) (nI c) yG yT yL yW yN yS := by
  have H := tm_Npos h
  intro t
  induction t with
  | zero =>
    intro c hc yN hA
    exact br_t (nI_le (by omega) (by omega)) (hp yN fun g c' hg hc' => hA g c' (by omega) hc')
  | succ t ih =>
    intro c hc yN hA
    have hc0 : c < e := by omega
    refine br_f (nI_ge (by omega) (by omega)) (br_f (nI_ge (b := 256) (by omega) (by decide)) ?_)
    refine ty_times fn fend fcnt yG yT yL yW yN yS h hc0 hG ⟨by rw [ty_i1]; exact vp_in_nI (by omega) (by omega), nm_e (ty_times fn fend fcnt yG yT yL yW (upd yN (256 * nI k + nI c).toNatClampNeg (nI (tm_m n c (G k)))) yS h hG hc0 ⟨by rw [ty_i2]; exact vp_in_nI (by omega) (by omega), nm_e (nm_r (nI_1 c) (ih (c + 1) (by omega) _ fun g c' hz hc' => ?_))⟩)⟩
    rw [ty_i1, ty_i2, nI_clamp (by omega : 256 * k + c < 2 ^ 31), nI_clamp (by omega : 1024 + 256 * k + c < 2 ^ 31)]
    by_cases y : g = k ∧ c' = c
    · obtain ⟨rfl, rfl⟩ := y
      rw [pk_un (by omega), pk_us, pk_us]
      exact ⟨rfl, rfl⟩
    · have := hA g c' (by omega) hc'
      rw [pk_un (by omega), pk_un (by omega), pk_un (by omega), pk_un (by omega)]
      exact this
theorem ty_learn (fn fend fcnt : Int32) (yG yT yL : Nat → Int32) (yW : Nat → Int64) (yN : Nat → Int32) (yS : Nat → Int64) {post : SY → Prop} {n e k c : Nat} {G : Nat → Nat} (h : tm_N n e) (hk : k < 4) (hc : c < e) (hX : tm_NX n e k G yN)
    (hp : ∀ yN, tm_NX n e (k + 1) (tm_up G k c) yN → post (nI n, nI e, nI k, upd yG k (nI c), yT, yL, yW, yN, yS)) : wpY_learn post (nI n, nI e, nI k, yG, yT, yL, yW, yN, yS) (nI k) (nI c) := by
  unfold wpY_learn
  refine ⟨vp_in_nI (by omega) (by omega), nm_e ⟨e + 1, ?_⟩⟩
  rw [nI_clamp (by omega)]
  have t := ty_l9 fn fend fcnt (upd yG k (nI c)) yT yL yW yN yS (G := tm_up G k c) h hk (by rw [tm_us]; exact hc) hp e 0 (by omega) yN (fun g c' hz hc' => by
    rw [tm_un (by omega : g ≠ k)]
    exact hX g c' (by omega) hc')
  rw [tm_us] at t
  exact t
