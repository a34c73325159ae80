/-! four points: where a prefix stands, up to what is still to come -/
theorem tq_N : tm_N 4 256 := Or.inr (Or.inr ⟨rfl, rfl⟩)
def tq_in (a x : Nat) : Bool := tm_im 4 a 0 == x || tm_im 4 a 1 == x || tm_im 4 a 2 == x || tm_im 4 a 3 == x
theorem tq_ini {a x : Nat} : tq_in a x = true ↔ ∃ p, p < 4 ∧ tm_im 4 a p = x := by
  unfold tq_in
  simp only [Bool.or_eq_true, beq_iff_eq]
  constructor
  · intro h
    rcases h with ((h | h) | h) | h
    · exact ⟨0, by omega, h⟩
    · exact ⟨1, by omega, h⟩
    · exact ⟨2, by omega, h⟩
    · exact ⟨3, by omega, h⟩
  · rintro ⟨p, hp, e1⟩
    match p, hp with
    | 0, _ => exact Or.inl (Or.inl (Or.inl e1))
    | 1, _ => exact Or.inl (Or.inl (Or.inr e1))
    | 2, _ => exact Or.inl (Or.inr e1)
    | 3, _ => exact Or.inr e1
def tq_d (a v x : Nat) : Nat := if tq_in a x = true then tm_im 4 v x else 4
def tq_st (a v : Nat) : Nat := tq_d a v 0 + 5 * tq_d a v 1 + 25 * tq_d a v 2 + 125 * tq_d a v 3
def tq_g (s x : Nat) : Nat := if x = 0 then s % 5 else if x = 1 then s / 5 % 5 else if x = 2 then s / 25 % 5 else s / 125 % 5
theorem tq_dlt (a v x : Nat) : tq_d a v x < 5 := by
  unfold tq_d
  have := tm_imlt tq_N v x
  by_cases h : tq_in a x = true
  · rw [if_pos h]; omega
  · rw [if_neg h]; omega
theorem tq_stlt (a v : Nat) : tq_st a v < 625 := by
  have h0 := tq_dlt a v 0
  have h1 := tq_dlt a v 1
  have h2 := tq_dlt a v 2
  have h3 := tq_dlt a v 3
  unfold tq_st
  omega
theorem tq_gst (a v : Nat) {x : Nat} (hx : x < 4) : tq_g (tq_st a v) x = tq_d a v x := by
  have h0 := tq_dlt a v 0
  have h1 := tq_dlt a v 1
  have h2 := tq_dlt a v 2
  have h3 := tq_dlt a v 3
  unfold tq_st
  match x, hx with
  | 0, _ =>
    show (tq_d a v 0 + 5 * tq_d a v 1 + 25 * tq_d a v 2 + 125 * tq_d a v 3) % 5 = _
    omega
  | 1, _ =>
    show (tq_d a v 0 + 5 * tq_d a v 1 + 25 * tq_d a v 2 + 125 * tq_d a v 3) / 5 % 5 = _
    omega
  | 2, _ =>
    show (tq_d a v 0 + 5 * tq_d a v 1 + 25 * tq_d a v 2 + 125 * tq_d a v 3) / 25 % 5 = _
    omega
  | 3, _ =>
    show (tq_d a v 0 + 5 * tq_d a v 1 + 25 * tq_d a v 2 + 125 * tq_d a v 3) / 125 % 5 = _
    omega
def tq_z (s y : Nat) : Nat := (if tq_g s 0 = y then 1 else 0) + (if tq_g s 1 = y then 1 else 0) + (if tq_g s 2 = y then 1 else 0) + (if tq_g s 3 = y then 1 else 0)
theorem tq_cs (f : Nat → Nat) (y e : Nat) : tm_c (fun x => f x = y) (e + 1) = tm_c (fun x => f x = y) e + (if f e = y then 1 else 0) := by
  by_cases h : f e = y
  · rw [if_pos h, tm_ct (P := fun x => f x = y) h]
  · rw [if_neg h, tm_cf (P := fun x => f x = y) h]; rfl
theorem tq_zc (s y : Nat) : tm_c (fun x => tq_g s x = y) 4 = tq_z s y := by
  have h0 : tm_c (fun x => tq_g s x = y) 0 = 0 := rfl
  rw [tq_cs (tq_g s) y 3, tq_cs (tq_g s) y 2, tq_cs (tq_g s) y 1, tq_cs (tq_g s) y 0, h0, Nat.zero_add]
  rfl
/-- a digit that is a point -/
theorem tq_dy {a v x y : Nat} (hy : y < 4) (h : tq_d a v x = y) : tq_in a x = true ∧ tm_im 4 v x = y := by
  unfold tq_d at h
  by_cases z : tq_in a x = true
  · rw [if_pos z] at h; exact ⟨z, h⟩
  · rw [if_neg z] at h; omega
theorem tq_di {a v p : Nat} (hp : p < 4) : tq_d a v (tm_im 4 a p) = tm_im 4 v (tm_im 4 a p) := by
  unfold tq_d
  rw [if_pos (tq_ini.mpr ⟨p, hp, rfl⟩)]
theorem tq_mono {a g v y : Nat} (hy : y < 4) : tq_z (tq_st (tm_m 4 a g) v) y ≤ tq_z (tq_st a (tm_m 4 g v)) y := by
  rw [← tq_zc, ← tq_zc]
  refine tm_cinj (T := fun x' x => tm_im 4 g x = x') 4 _ (fun x' hx' hA => ?_) (fun i i' j _ _ _ _ _ e1 e2 => e1.symm.trans e2)
  have hA' : tq_d (tm_m 4 a g) v x' = y := by rw [← tq_gst _ _ hx']; exact hA
  obtain ⟨b1, b2⟩ := tq_dy hy hA'
  obtain ⟨p, hp, e1⟩ := tq_ini.mp b1
  rw [tm_dig tq_N _ _ hp] at e1
  have hi := tm_imlt tq_N a p
  refine ⟨tm_im 4 a p, hi, ?_, e1⟩
  show tq_g (tq_st a (tm_m 4 g v)) (tm_im 4 a p) = y
  rw [tq_gst _ _ hi, tq_di hp, tm_dig tq_N _ _ hi, e1, b2]
theorem tq_cpos {P : Nat → Prop} {e x : Nat} (hx : x < e) (h : P x) : tm_c P e ≠ 0 := by
  have := tm_cstrict (P := fun _ => False) (Q := P) (e := e) (c := x) (fun _ _ z => z.elim) hx h (fun z => z)
  omega
theorem tq_sup {a v y : Nat} (hy : y < 4) : tq_z (tq_st a v) y ≠ 0 ↔ tq_in (tm_m 4 a v) y = true := by
  rw [← tq_zc]
  constructor
  · intro h
    by_cases z : tq_in (tm_m 4 a v) y = true
    · exact z
    · refine absurd (tm_c0 (P := fun x => tq_g (tq_st a v) x = y) 4 fun x hx w => z ?_) h
      have w' : tq_d a v x = y := by rw [← tq_gst _ _ hx]; exact w
      obtain ⟨b1, b2⟩ := tq_dy hy w'
      obtain ⟨p, hp, e1⟩ := tq_ini.mp b1
      exact tq_ini.mpr ⟨p, hp, by rw [tm_dig tq_N _ _ hp, e1, b2]⟩
  · intro h
    obtain ⟨p, hp, e1⟩ := tq_ini.mp h
    have hi := tm_imlt tq_N a p
    refine tq_cpos (x := tm_im 4 a p) hi ?_
    show tq_g (tq_st a v) (tm_im 4 a p) = y
    rw [tq_gst _ _ hi, tq_di hp, ← tm_dig tq_N _ _ hp, e1]
theorem tq_inj {a v a' v' : Nat} (h : tq_st a v = tq_st a' v') : tm_m 4 a v' = tm_m 4 a v := by
  refine tm_ext tq_N (tm_lt tq_N _ _) (tm_lt tq_N _ _) fun p hp => ?_
  rw [tm_dig tq_N _ _ hp, tm_dig tq_N _ _ hp]
  have hi := tm_imlt tq_N a p
  have e1 : tq_d a' v' (tm_im 4 a p) = tm_im 4 v (tm_im 4 a p) := by
    rw [← tq_gst _ _ hi, ← h, tq_gst _ _ hi, tq_di hp]
  exact (tq_dy (tm_imlt tq_N _ _) e1).2
def tq_V (s : Nat) : Nat := tq_z s 0 + 5 * tq_z s 1 + 25 * tq_z s 2 + 125 * tq_z s 3
def tq_T (s : Nat) : Nat := tq_z s 0 + tq_z s 1 + tq_z s 2 + tq_z s 3
theorem tq_one (g : Nat) : (if g = 0 then 1 else 0) + (if g = 1 then 1 else 0) + (if g = 2 then 1 else 0) + (if g = 3 then 1 else 0) ≤ 1 := by
  by_cases h0 : g = 0
  · subst h0; decide
  by_cases h1 : g = 1
  · subst h1; decide
  by_cases h2 : g = 2
  · subst h2; decide
  by_cases h3 : g = 3
  · subst h3; decide
  rw [if_neg h0, if_neg h1, if_neg h2, if_neg h3]
  decide
theorem tq_T4 (s : Nat) : tq_T s ≤ 4 := by
  have h0 := tq_one (tq_g s 0)
  have h1 := tq_one (tq_g s 1)
  have h2 := tq_one (tq_g s 2)
  have h3 := tq_one (tq_g s 3)
  unfold tq_T tq_z
  omega
theorem tq_full {a v : Nat} (h : tq_T (tq_st a v) = 4) {x : Nat} (hx : x < 4) : tq_in a x = true := by
  have h0 := tq_one (tq_g (tq_st a v) 0)
  have h1 := tq_one (tq_g (tq_st a v) 1)
  have h2 := tq_one (tq_g (tq_st a v) 2)
  have h3 := tq_one (tq_g (tq_st a v) 3)
  by_cases z : tq_in a x = true
  · exact z
  · exfalso
    have e1 : tq_g (tq_st a v) x = 4 := by
      rw [tq_gst _ _ hx]
      unfold tq_d
      rw [if_neg z]
    have e2 : (if tq_g (tq_st a v) x = 0 then 1 else 0) + (if tq_g (tq_st a v) x = 1 then 1 else 0) + (if tq_g (tq_st a v) x = 2 then 1 else 0) + (if tq_g (tq_st a v) x = 3 then 1 else 0) = 0 := by
      rw [e1]; decide
    unfold tq_T tq_z at h
    match x, hx with
    | 0, _ => omega
    | 1, _ => omega
    | 2, _ => omega
    | 3, _ => omega
def tq_cb (p : Nat → Bool) : Nat → Nat
  | 0 => 0
  | m + 1 => tq_cb p m + (if p m = true then 1 else 0)
theorem tq_cbc (p : Nat → Bool) : ∀ m, tm_c (fun s => p s = true) m = tq_cb p m := by
  intro m
  induction m with
  | zero => rfl
  | succ m ih =>
    show _ = tq_cb p m + _
    by_cases h : p m = true
    · rw [if_pos h, tm_ct (P := fun s => p s = true) h, ih]
    · rw [if_neg h, tm_cf (P := fun s => p s = true) h, ih]; rfl
def tq_nz (a : Nat) : Nat := if a = 0 then 0 else 1
def tq_bd (r t : Nat) : Nat := if t = 4 then (if r = 1 then 1 else if r = 2 then 6 else if r = 3 then 12 else 24) else if t = 3 then (if r = 1 then 4 else if r = 2 then 12 else if r = 3 then 24 else 0) else if t = 2 then (if r = 1 then 6 else if r = 2 then 12 else 0) else if t = 1 then (if r = 1 then 4 else 0) else 1
set_option maxRecDepth 100000 in
theorem tq_tab : ∀ a, a < 5 → ∀ b, b < 5 → ∀ c, c < 5 → ∀ d, d < 5 → a + b + c + d ≤ 4 → tq_cb (fun s => tq_V s == a + 5 * b + 25 * c + 125 * d) 625 ≤ tq_bd (tq_nz a + tq_nz b + tq_nz c + tq_nz d) (a + b + c + d) := by decide +kernel
theorem tq_part (τ : Nat → Nat) : ∀ m, (∀ i, i < m → τ i ≤ 4) → tm_c (fun i => τ i = 0) m + tm_c (fun i => τ i = 1) m + tm_c (fun i => τ i = 2) m + tm_c (fun i => τ i = 3) m + tm_c (fun i => τ i = 4) m = m := by
  intro m
  induction m with
  | zero => intro _; rfl
  | succ m ih =>
    intro h
    have t := ih fun i hi => h i (by omega)
    have h4 := h m (by omega)
    rw [tq_cs τ 0, tq_cs τ 1, tq_cs τ 2, tq_cs τ 3, tq_cs τ 4]
    by_cases h0 : τ m = 0
    · rw [h0, if_pos rfl, if_neg (by omega), if_neg (by omega), if_neg (by omega), if_neg (by omega)]; omega
    by_cases h1 : τ m = 1
    · rw [h1, if_neg (by omega), if_pos rfl, if_neg (by omega), if_neg (by omega), if_neg (by omega)]; omega
    by_cases h2 : τ m = 2
    · rw [h2, if_neg (by omega), if_neg (by omega), if_pos rfl, if_neg (by omega), if_neg (by omega)]; omega
    by_cases h3 : τ m = 3
    · rw [h3, if_neg (by omega), if_neg (by omega), if_neg (by omega), if_pos rfl, if_neg (by omega)]; omega
    obtain h4' : τ m = 4 := by omega
    rw [h4', if_neg (by omega), if_neg (by omega), if_neg (by omega), if_neg (by omega), if_pos rfl]; omega
/-- along the path -/
theorem tq_pm {k c l : Nat} {G pa sv lt : Nat → Nat} (h : tm_pa 4 k G c l pa sv lt) {y : Nat} (hy : y < 4) : ∀ d i, i + d ≤ l → tq_z (tq_st (pa (i + d)) (sv (i + d))) y ≤ tq_z (tq_st (pa i) (sv i)) y := by
  intro d
  induction d with
  | zero => intro i _; exact Nat.le_refl _
  | succ d ih =>
    intro i hi
    have a1 := ih i (by omega)
    obtain ⟨_, e1, e2⟩ := h.2.2.1 (i + d) (by omega)
    have a2 := tq_mono (a := pa (i + d)) (g := G (lt (i + d))) (v := sv (i + d + 1)) hy
    rw [← e1, ← e2] at a2
    exact Nat.le_trans a2 a1
theorem tq_pV {k c l : Nat} {G pa sv lt : Nat → Nat} (h : tm_pa 4 k G c l pa sv lt) {i i' : Nat} (hi : i ≤ i') (hi' : i' ≤ l) (hT : tq_T (tq_st (pa i') (sv i')) = tq_T (tq_st (pa i) (sv i))) : tq_V (tq_st (pa i') (sv i')) = tq_V (tq_st (pa i) (sv i)) := by
  have e1 : i + (i' - i) = i' := by omega
  have a0 := tq_pm h (y := 0) (by omega) (i' - i) i (by omega)
  have a1 := tq_pm h (y := 1) (by omega) (i' - i) i (by omega)
  have a2 := tq_pm h (y := 2) (by omega) (i' - i) i (by omega)
  have a3 := tq_pm h (y := 3) (by omega) (i' - i) i (by omega)
  rw [e1] at a0 a1 a2 a3
  unfold tq_T at hT
  unfold tq_V
  omega
theorem tq_pI {k c l : Nat} {G pa sv lt : Nat → Nat} (h : tm_pa 4 k G c l pa sv lt) {i i' : Nat} (hi : i ≤ l) (hi' : i' ≤ l) (he : tq_st (pa i) (sv i) = tq_st (pa i') (sv i')) : i = i' := by
  have key : ∀ i i', i < i' → i' ≤ l → tq_st (pa i) (sv i) = tq_st (pa i') (sv i') → False := by
    intro i i' h1 h2 h3
    obtain ⟨⟨M, w⟩, e1⟩ := h.2.1 i (by omega)
    refine h.2.2.2.1 i i' M (pa i) h1 h2 w ?_
    rw [tq_inj h3, e1]
  rcases Nat.lt_trichotomy i i' with y | y | y
  · exact (key i i' y hi' he).elim
  · exact y
  · exact (key i' i y hi he.symm).elim
def tq_rc (c : Nat) : Nat := (if tq_in c 0 = true then 1 else 0) + (if tq_in c 1 = true then 1 else 0) + (if tq_in c 2 = true then 1 else 0) + (if tq_in c 3 = true then 1 else 0)
theorem tq_nzi {z : Nat} {b : Bool} (h : z ≠ 0 ↔ b = true) : tq_nz z = if b = true then 1 else 0 := by
  unfold tq_nz
  by_cases y : z = 0
  · rw [if_pos y, if_neg (fun w => h.mpr w y)]
  · rw [if_neg y, if_pos (h.mp y)]
theorem tq_pc {k c l : Nat} {G pa sv lt : Nat → Nat} (h : tm_pa 4 k G c l pa sv lt) (t : Nat) : tm_c (fun i => tq_T (tq_st (pa i) (sv i)) = t) (l + 1) ≤ tq_bd (tq_rc c) t ∨ tm_c (fun i => tq_T (tq_st (pa i) (sv i)) = t) (l + 1) = 0 := by
  by_cases ex : ∃ i, i < l + 1 ∧ tq_T (tq_st (pa i) (sv i)) = t
  · left
    obtain ⟨j, hj, hT⟩ := ex
    have hE := (h.2.1 j (by omega)).2
    have t1 := tm_cinj (A := fun i => tq_T (tq_st (pa i) (sv i)) = t) (T := fun i s => tq_st (pa i) (sv i) = s) (b := 625) (l + 1) (fun s => (tq_V s == tq_V (tq_st (pa j) (sv j))) = true) (fun i hi hA => by
      refine ⟨_, tq_stlt _ _, ?_, rfl⟩
      rw [beq_iff_eq]
      rcases Nat.lt_or_ge i j with y | y
      · exact (tq_pV h (Nat.le_of_lt y) (by omega) (hT.trans hA.symm)).symm
      · exact tq_pV h y (by omega) (hA.trans hT.symm)) (fun i i' s hi hi' _ _ _ e1 e2 => tq_pI h (by omega) (by omega) (e1.trans e2.symm))
    rw [tq_cbc] at t1
    have T4 := tq_T4 (tq_st (pa j) (sv j))
    have s0 := tq_nzi (tq_sup (a := pa j) (v := sv j) (y := 0) (by omega))
    have s1 := tq_nzi (tq_sup (a := pa j) (v := sv j) (y := 1) (by omega))
    have s2 := tq_nzi (tq_sup (a := pa j) (v := sv j) (y := 2) (by omega))
    have s3 := tq_nzi (tq_sup (a := pa j) (v := sv j) (y := 3) (by omega))
    rw [hE] at s0 s1 s2 s3
    unfold tq_T at T4
    have t2 := tq_tab (tq_z (tq_st (pa j) (sv j)) 0) (by omega) (tq_z (tq_st (pa j) (sv j)) 1) (by omega) (tq_z (tq_st (pa j) (sv j)) 2) (by omega) (tq_z (tq_st (pa j) (sv j)) 3) (by omega) T4
    rw [s0, s1, s2, s3] at t2
    have hT' : tq_z (tq_st (pa j) (sv j)) 0 + tq_z (tq_st (pa j) (sv j)) 1 + tq_z (tq_st (pa j) (sv j)) 2 + tq_z (tq_st (pa j) (sv j)) 3 = t := hT
    rw [hT'] at t2
    exact Nat.le_trans t1 t2
  · right
    exact tm_c0 _ fun i hi hA => ex ⟨i, hi, hA⟩
