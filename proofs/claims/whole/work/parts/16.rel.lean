/-! the relation, and the methods without sets -/
def i_Rel (_ : Nat) (u : SX) (v : SY) : Prop :=
  ∃ (n e k : Nat) (G : Nat → Nat) (q : Nat) (fo l N : Nat → Nat) (fr : Int32) (aI aG aF aW aL aS aR aQ aZ aC : Nat → Int32) (yT yL : Nat → Int32) (yW : Nat → Int64) (yN : Nat → Int32) (yS : Nat → Int64),
    tm_X n e k G q fo l N aI aG aF aW aL aS ∧ tm_NX n e k G yN ∧ u = (nI n, nI e, nI (tm_u n), nI k, nI q, fr, aI, aG, aF, aW, aL, aS, aR, aQ, aZ, aC) ∧ v = (nI n, nI e, nI k, aG, yT, yL, yW, yN, yS)
theorem tv_mk {k0 n e k q : Nat} {G fo l N : Nat → Nat} {fr : Int32} {aI aG aF aW aL aS aR aQ aZ aC yT yL : Nat → Int32} {yW : Nat → Int64} {yN : Nat → Int32} {yS : Nat → Int64} (h : tm_X n e k G q fo l N aI aG aF aW aL aS) (hX : tm_NX n e k G yN) : i_Rel k0 (nI n, nI e, nI (tm_u n), nI k, nI q, fr, aI, aG, aF, aW, aL, aS, aR, aQ, aZ, aC) (nI n, nI e, nI k, aG, yT, yL, yW, yN, yS) :=
  ⟨n, e, k, G, q, fo, l, N, fr, aI, aG, aF, aW, aL, aS, aR, aQ, aZ, aC, yT, yL, yW, yN, yS, h, hX, rfl, rfl⟩
theorem i_up {k : Nat} {u : SX} {v : SY} (h : i_Rel k u v) : i_Rel (k + 4) u v := h
theorem tv_31 {n e k q : Nat} {G fo l N : Nat → Nat} {aI aG aF aW aL aS : Nat → Int32} (h : tm_X n e k G q fo l N aI aG aF aW aL aS) : tm_31 n k G := tm_short h.1 h.2.1 (fun g hg => (h.2.2.1 g hg).1)
theorem tv_0 {n e : Nat} (h : tm_N n e) {P : SX → Prop}
    (hP : ∀ q fo l N aI aF aW aL aS, tm_X n e 0 (fun _ => 0) q fo l N aI (fun _ => 0) aF aW aL aS → P (nI n, nI e, nI (tm_u n), nI 0, nI q, 0, aI, fun _ => 0, aF, aW, aL, aS, fun _ => 0, fun _ => 0, fun _ => 0, fun _ => 0)) :
    ∃ n107, wX_init_107 P (nI n) 0 0 0 0 0 (fun _ => 0) (fun _ => 0) (fun _ => 0) (fun _ => 0) (fun _ => 0) (fun _ => 0) (fun _ => 0) (fun _ => 0) (fun _ => 0) (fun _ => 0) n107 1 0 0 := by
  refine ⟨n + 1, ?_⟩
  have t := tx_i107 0 0 0 0 0 0 (fun _ => 0) (fun _ => 0) (fun _ => 0) (fun _ => 0) (fun _ => 0) (fun _ => 0) (fun _ => 0) (fun _ => 0) (fun _ => 0) (fun _ => 0) (post := P) h (fun aI hI => ?_) n 0 (by omega)
  · rw [Nat.pow_zero] at t
    exact t
  · exact tx_fe (k := 0) (G := fun _ => 0) 0 0 0 0 0 0 aI (fun _ => 0) (fun _ => 0) (fun _ => 0) (fun _ => 0) (fun _ => 0) (fun _ => 0) (fun _ => 0) (fun _ => 0) (fun _ => 0) h (by omega) (fun g hg => by omega) hI (fun q fo l N aF aW aL aS hF => hP q fo l N aI aF aW aL aS ⟨h, by omega, fun g hg => by omega, hI, hF⟩)
theorem tv_y0 {n e : Nat} (h : tm_N n e) {P : SY → Prop} (hP : P (nI n, nI e, nI 0, (fun _ => 0), (fun _ => 0), (fun _ => 0), (fun _ => 0), (fun _ => 0), (fun _ => 0))) : wY_init_76 P (nI n) 0 0 0 (fun _ => 0) (fun _ => 0) (fun _ => 0) (fun _ => 0) (fun _ => 0) (fun _ => 0) := by
  rcases h with ⟨h, h'⟩ | ⟨h, h'⟩ | ⟨h, h'⟩ <;> subst h h'
  · exact br_t (by decide) hP
  · exact br_f (by decide) (br_t (by decide) hP)
  · exact br_f (by decide) (br_f (by decide) hP)
theorem tv_00 {n e : Nat} (h : tm_N n e) {k0 : Int32} (hy : ∀ P : SY → Prop, wY_init_76 P (nI n) 0 0 0 (fun _ => 0) (fun _ => 0) (fun _ => 0) (fun _ => 0) (fun _ => 0) (fun _ => 0) → wpY_init P k0) :
    ∃ n107, wX_init_107 (fun u => wpY_init (fun v => i_Rel 1 u v) k0) (nI n) 0 0 0 0 0 (fun _ => 0) (fun _ => 0) (fun _ => 0) (fun _ => 0) (fun _ => 0) (fun _ => 0) (fun _ => 0) (fun _ => 0) (fun _ => 0) (fun _ => 0) n107 1 0 0 :=
  tv_0 h fun q fo l N aI aF aW aL aS hX => hy _ (tv_y0 h (tv_mk hX (fun g c hg => by omega)))
theorem i_vc0 (k0 : Int32) : wpX_init (fun u => wpY_init (fun v => i_Rel 1 u v) k0) k0 := by
  unfold wpX_init wpX_withinBounds
  by_cases h2 : 2 ≤ k0
  · refine br_t h2 ?_
    by_cases h4 : k0 ≤ 4
    · refine br_t h4 ?_
      have h0 : ¬ k0 < 0 := Int32.not_lt.mpr (Int32.le_trans (by decide) h2)
      obtain ⟨j, hj, rfl⟩ := nI_of h0
      have a2 : 2 ≤ j := (nI_leI (a := 2) (by omega) hj).mp h2
      have a4 : j ≤ 4 := (nI_leI (b := 4) hj (by omega)).mp h4
      have hN : ∃ e, tm_N j e := by
        by_cases x : j = 2
        · exact ⟨4, Or.inl ⟨x, rfl⟩⟩
        · by_cases y : j = 3
          · exact ⟨27, Or.inr (Or.inl ⟨y, rfl⟩)⟩
          · exact ⟨256, Or.inr (Or.inr ⟨by omega, rfl⟩)⟩
      obtain ⟨e, hN⟩ := hN
      exact tv_00 hN fun P hP => br_t h2 (br_t h4 hP)
    · refine br_f h4 ?_
      exact tv_00 (n := 4) (e := 256) (Or.inr (Or.inr ⟨rfl, rfl⟩)) fun P hP => br_t h2 (br_f h4 hP)
  · refine br_f h2 ?_
    exact tv_00 (n := 2) (e := 4) (Or.inl ⟨rfl, rfl⟩) fun P hP => br_f h2 hP
theorem i_vc_points {k : Nat} {u : SX} {v : SY} (I : i_Rel k u v) (hk : k + 4 ≤ 2049) : wpX_points (fun r => wpY_points (fun r' => r' = r ∧ i_Rel (k + 4) u v) v) u := by
  obtain ⟨n, e, k, G, q, fo, l, N, fr, aI, aG, aF, aW, aL, aS, aR, aQ, aZ, aC, yT, yL, yW, yN, yS, h, hX, rfl, rfl⟩ := I
  exact ⟨rfl, tv_mk h hX⟩
theorem i_vc_generate {k : Nat} {u : SX} {v : SY} (I : i_Rel k u v) (hk : k + 4 ≤ 2049) (v1 : Int32) : wpX_generate (fun r u' => wpY_generate (fun r' v' => r' = r ∧ i_Rel (k + 4) u' v') v v1) u v1 := by
  obtain ⟨n, e, k, G, q, fo, l, N, fr, aI, aG, aF, aW, aL, aS, aR, aQ, aZ, aC, yT, yL, yW, yN, yS, h, hX, rfl, rfl⟩ := I
  have H := tm_Npos h.1
  unfold wpX_generate wpY_generate
  rcases pk_ix v1 (by omega : e < 2 ^ 31) with y | y | ⟨c, hc, rfl⟩
  · exact tx_gn (nI n) (nI e) (nI (tm_u n)) (nI k) (nI q) fr aI aG aF aW aL aS aR aQ aZ aC (Or.inl y) (br_t rfl (ty_bn (nI n) (nI e) (nI k) aG yT yL yW yN yS (Or.inl y) (br_f tx_10 ⟨rfl, tv_mk h hX⟩)))
  · exact tx_gn (nI n) (nI e) (nI (tm_u n)) (nI k) (nI q) fr aI aG aF aW aL aS aR aQ aZ aC (Or.inr y) (br_t rfl (ty_bn (nI n) (nI e) (nI k) aG yT yL yW yN yS (Or.inr y) (br_f tx_10 ⟨rfl, tv_mk h hX⟩)))
  · refine tx_gy (nI n) (nI e) (nI (tm_u n)) (nI k) (nI q) fr aI aG aF aW aL aS aR aQ aZ aC h.1 hc (br_f tx_10 ?_)
    by_cases z : k < 4
    · refine br_t (nI_lt (b := 4) z (by decide)) ⟨vp_in_nI (by omega) (by omega), nm_e (nm_r (nI_1 k) ?_)⟩
      rw [nI_clamp (by omega : k < 2 ^ 31)]
      have hG' : ∀ g, g < k + 1 → tm_up G k c g < e ∧ upd aG k (nI c) g = nI (tm_up G k c g) := by
        intro g hg
        by_cases w : g = k
        · rw [w, tm_us, pk_us]; exact ⟨hc, rfl⟩
        · rw [tm_un w, pk_un w]; exact h.2.2.1 g (by omega)
      refine tx_fe (k := k + 1) (G := tm_up G k c) (nI n) (nI e) (nI (tm_u n)) (nI k) (nI q) fr aI (upd aG k (nI c)) aF aW aL aS aR aQ aZ aC h.1 (by omega) hG' h.2.2.2.1 (fun q' fo' l' N' aF' aW' aL' aS' hF => ?_)
      refine ty_by (nI n) (nI e) (nI k) aG yT yL yW yN yS h.1 hc (br_t rfl (br_t (nI_le (b := 3) (by omega) (by decide)) ?_))
      refine ty_learn (nI n) (nI e) (nI k) aG yT yL yW yN yS h.1 z hc hX (fun yN' hX' => nm_r (nI_1 k) ⟨nI_pred k, ?_⟩)
      exact tv_mk ⟨h.1, by omega, hG', h.2.2.2.1, hF⟩ hX'
    · refine br_f (nI_nlt (b := 4) (by omega) (by have := h.2.1; omega)) ?_
      exact ty_by (nI n) (nI e) (nI k) aG yT yL yW yN yS h.1 hc (br_t rfl (br_f (nI_ge (a := 3) (by omega) (by have := h.2.1; omega)) ⟨rfl, tv_mk h hX⟩))
theorem i_vc_drop {k : Nat} {u : SX} {v : SY} (I : i_Rel k u v) (hk : k + 4 ≤ 2049) : wpX_drop (fun r u' => wpY_drop (fun r' v' => r' = r ∧ i_Rel (k + 4) u' v') v) u := by
  obtain ⟨n, e, k, G, q, fo, l, N, fr, aI, aG, aF, aW, aL, aS, aR, aQ, aZ, aC, yT, yL, yW, yN, yS, h, hX, rfl, rfl⟩ := I
  have H := tm_Npos h.1
  have h4 := h.2.1
  unfold wpX_drop wpY_drop
  cases k with
  | zero => exact br_f (by decide) (br_t rfl ⟨rfl, tv_mk h hX⟩)
  | succ k =>
    refine br_t (nI_lt (a := 0) (by omega) (by omega)) (nm_r (nI_pred k) ?_)
    refine tx_fe (k := k) (G := G) (nI n) (nI e) (nI (tm_u n)) (nI k) (nI q) fr aI aG aF aW aL aS aR aQ aZ aC h.1 (by omega) (fun g hg => h.2.2.1 g (by omega)) h.2.2.2.1 (fun q' fo' l' N' aF' aW' aL' aS' hF => ⟨vp_in_nI (by omega) (by omega), ?_⟩)
    refine br_f (nI_ne0 (by omega) (by omega)) (nm_r (nI_pred k) ⟨vp_in_nI (by omega) (by omega), rfl, ?_⟩)
    exact tv_mk ⟨h.1, by omega, fun g hg => h.2.2.1 g (by omega), h.2.2.2.1, hF⟩ (fun g c hg hc => hX g c (by omega) hc)
theorem i_vc_product {k : Nat} {u : SX} {v : SY} (I : i_Rel k u v) (hk : k + 4 ≤ 2049) (v1 : Int32) (v2 : Int32) : wpX_product (fun r => wpY_product (fun r' => r' = r ∧ i_Rel (k + 4) u v) v v1 v2) u v1 v2 := by
  obtain ⟨n, e, k, G, q, fo, l, N, fr, aI, aG, aF, aW, aL, aS, aR, aQ, aZ, aC, yT, yL, yW, yN, yS, h, hX, rfl, rfl⟩ := I
  have H := tm_Npos h.1
  unfold wpX_product wpY_product
  have B1 : (v1 < 0 ∨ nI e ≤ v1) ∨ ∃ c, c < e ∧ v1 = nI c := by
    rcases pk_ix v1 (by omega : e < 2 ^ 31) with y | y | y
    · exact Or.inl (Or.inl y)
    · exact Or.inl (Or.inr y)
    · exact Or.inr y
  have B2 : (v2 < 0 ∨ nI e ≤ v2) ∨ ∃ c, c < e ∧ v2 = nI c := by
    rcases pk_ix v2 (by omega : e < 2 ^ 31) with y | y | y
    · exact Or.inl (Or.inl y)
    · exact Or.inl (Or.inr y)
    · exact Or.inr y
  rcases B1 with y | ⟨c, hc, rfl⟩
  · exact tx_gn (nI n) (nI e) (nI (tm_u n)) (nI k) (nI q) fr aI aG aF aW aL aS aR aQ aZ aC y (br_t rfl (ty_bn (nI n) (nI e) (nI k) aG yT yL yW yN yS y (br_f tx_10 ⟨rfl, tv_mk h hX⟩)))
  · refine tx_gy (nI n) (nI e) (nI (tm_u n)) (nI k) (nI q) fr aI aG aF aW aL aS aR aQ aZ aC h.1 hc (br_f tx_10 ?_)
    rcases B2 with y | ⟨d, hd, rfl⟩
    · exact tx_gn (nI n) (nI e) (nI (tm_u n)) (nI k) (nI q) fr aI aG aF aW aL aS aR aQ aZ aC y (br_t rfl (ty_by (nI n) (nI e) (nI k) aG yT yL yW yN yS h.1 hc (br_t rfl (ty_bn (nI n) (nI e) (nI k) aG yT yL yW yN yS y (br_f tx_10 ⟨rfl, tv_mk h hX⟩)))))
    · refine tx_gy (nI n) (nI e) (nI (tm_u n)) (nI k) (nI q) fr aI aG aF aW aL aS aR aQ aZ aC h.1 hd (br_f tx_10 (tx_mul (nI n) (nI e) (nI (tm_u n)) (nI k) (nI q) fr aI aG aF aW aL aS aR aQ aZ aC h.1 hc hd h.2.2.2.1 ?_))
      exact ty_by (nI n) (nI e) (nI k) aG yT yL yW yN yS h.1 hc (br_t rfl (ty_by (nI n) (nI e) (nI k) aG yT yL yW yN yS h.1 hd (br_t rfl (ty_times (nI n) (nI e) (nI k) aG yT yL yW yN yS h.1 hc hd ⟨rfl, tv_mk h hX⟩))))
theorem i_vc_size {k : Nat} {u : SX} {v : SY} (I : i_Rel k u v) (hk : k + 4 ≤ 2049) : wpX_size (fun r => wpY_size (fun r' v' => r' = r ∧ i_Rel (k + 4) u v') v) u := by
  obtain ⟨n, e, k, G, q, fo, l, N, fr, aI, aG, aF, aW, aL, aS, aR, aQ, aZ, aC, yT, yL, yW, yN, yS, h, hX, rfl, rfl⟩ := I
  unfold wpX_size wpY_size
  refine ty_work (nI n) (nI e) (nI k) aG yT yL yW yN yS h.1 h.2.1 (tv_31 h) hX (fun yT' yL' yW' hF => ⟨e + 1, ?_⟩)
  refine ty_tot4 (nI n) (nI e) (nI k) aG yT' yL' yW' yN yS h.1 hF ⟨?_, tv_mk h hX⟩ e 0 (by omega)
  rw [← h.2.2.2.2.1.2.2]
/-- a code: bad, or one of the maps, an element or none -/
theorem tv_ix {n e k : Nat} {G : Nat → Nat} (h : tm_N n e) (v : Int32) : (v < 0 ∨ nI e ≤ v) ∨ ∃ c, c < e ∧ v = nI c := by
  have H := tm_Npos h
  rcases pk_ix v (by omega : e < 2 ^ 31) with y | y | y
  · exact Or.inl (Or.inl y)
  · exact Or.inl (Or.inr y)
  · exact Or.inr y
theorem i_vc_has {k : Nat} {u : SX} {v : SY} (I : i_Rel k u v) (hk : k + 4 ≤ 2049) (v1 : Int32) : wpX_has (fun r => wpY_has (fun r' v' => r' = r ∧ i_Rel (k + 4) u v') v v1) u v1 := by
  obtain ⟨n, e, k, G, q, fo, l, N, fr, aI, aG, aF, aW, aL, aS, aR, aQ, aZ, aC, yT, yL, yW, yN, yS, h, hX, rfl, rfl⟩ := I
  have H := tm_Npos h.1
  unfold wpX_has wpY_has
  rcases tv_ix (k := k) (G := G) h.1 v1 with y | ⟨c, hc, rfl⟩
  · exact tx_gn (nI n) (nI e) (nI (tm_u n)) (nI k) (nI q) fr aI aG aF aW aL aS aR aQ aZ aC y (br_t rfl (ty_bn (nI n) (nI e) (nI k) aG yT yL yW yN yS y (br_f tx_10 ⟨rfl, tv_mk h hX⟩)))
  · refine tx_gy (nI n) (nI e) (nI (tm_u n)) (nI k) (nI q) fr aI aG aF aW aL aS aR aQ aZ aC h.1 hc (br_f tx_10 ?_)
    by_cases z : tm_E n k G c
    · refine tx_ey (nI n) (nI e) (nI (tm_u n)) (nI k) (nI q) fr aI aG aF aW aL aS aR aQ aZ aC h z (br_f tx_10 (ty_by (nI n) (nI e) (nI k) aG yT yL yW yN yS h.1 hc (br_t rfl ?_)))
      refine ty_work (nI n) (nI e) (nI k) aG yT yL yW yN yS h.1 h.2.1 (tv_31 h) hX (fun yT' yL' yW' hF => ⟨vp_in_nI (by omega) (by omega), ?_⟩)
      rw [nI_clamp (by omega : c < 2 ^ 31)]
      exact br_f (ty_Ty hF hc z) ⟨rfl, tv_mk h hX⟩
    · refine tx_en (nI n) (nI e) (nI (tm_u n)) (nI k) (nI q) fr aI aG aF aW aL aS aR aQ aZ aC h hc z (br_t rfl (ty_by (nI n) (nI e) (nI k) aG yT yL yW yN yS h.1 hc (br_t rfl ?_)))
      refine ty_work (nI n) (nI e) (nI k) aG yT yL yW yN yS h.1 h.2.1 (tv_31 h) hX (fun yT' yL' yW' hF => ⟨vp_in_nI (by omega) (by omega), ?_⟩)
      rw [nI_clamp (by omega : c < 2 ^ 31)]
      exact br_t (ty_Tn hF hc z) ⟨rfl, tv_mk h hX⟩
theorem i_vc_element {k : Nat} {u : SX} {v : SY} (I : i_Rel k u v) (hk : k + 4 ≤ 2049) (v1 : Int32) : wpX_element (fun r => wpY_element (fun r' v' => r' = r ∧ i_Rel (k + 4) u v') v v1) u v1 := by
  obtain ⟨n, e, k, G, q, fo, l, N, fr, aI, aG, aF, aW, aL, aS, aR, aQ, aZ, aC, yT, yL, yW, yN, yS, h, hX, rfl, rfl⟩ := I
  refine tx_el (nI n) (nI e) (nI (tm_u n)) (nI k) (nI q) fr aI aG aF aW aL aS aR aQ aZ aC h ?_
  unfold wpY_element
  refine ty_work (nI n) (nI e) (nI k) aG yT yL yW yN yS h.1 h.2.1 (tv_31 h) hX (fun yT' yL' yW' hF => ⟨e + 1, ?_⟩)
  exact ty_el8 (nI n) (nI e) (nI k) aG yT' yL' yW' yN yS h.1 hF e 0 0 (by omega) ⟨rfl, tv_mk h hX⟩
theorem i_vc_length {k : Nat} {u : SX} {v : SY} (I : i_Rel k u v) (hk : k + 4 ≤ 2049) (v1 : Int32) : wpX_length (fun r => wpY_length (fun r' v' => r' = r ∧ i_Rel (k + 4) u v') v v1) u v1 := by
  obtain ⟨n, e, k, G, q, fo, l, N, fr, aI, aG, aF, aW, aL, aS, aR, aQ, aZ, aC, yT, yL, yW, yN, yS, h, hX, rfl, rfl⟩ := I
  have H := tm_Npos h.1
  unfold wpX_length wpY_length
  rcases tv_ix (k := k) (G := G) h.1 v1 with y | ⟨c, hc, rfl⟩
  · exact tx_gn (nI n) (nI e) (nI (tm_u n)) (nI k) (nI q) fr aI aG aF aW aL aS aR aQ aZ aC y (br_t rfl (ty_bn (nI n) (nI e) (nI k) aG yT yL yW yN yS y (br_f tx_10 ⟨rfl, tv_mk h hX⟩)))
  · refine tx_gy (nI n) (nI e) (nI (tm_u n)) (nI k) (nI q) fr aI aG aF aW aL aS aR aQ aZ aC h.1 hc (br_f tx_10 ?_)
    by_cases z : tm_E n k G c
    · refine tx_ey (nI n) (nI e) (nI (tm_u n)) (nI k) (nI q) fr aI aG aF aW aL aS aR aQ aZ aC h z (br_f tx_10 ⟨vp_in_nI (by omega) (by omega), ty_by (nI n) (nI e) (nI k) aG yT yL yW yN yS h.1 hc (br_t rfl ?_)⟩)
      refine ty_work (nI n) (nI e) (nI k) aG yT yL yW yN yS h.1 h.2.1 (tv_31 h) hX (fun yT' yL' yW' hF => ⟨vp_in_nI (by omega) (by omega), ?_⟩)
      rw [nI_clamp (by omega : c < 2 ^ 31)]
      refine br_f (ty_Ty hF hc z) ⟨vp_in_nI (by omega) (by omega), ?_, tv_mk h hX⟩
      obtain ⟨j, hj, e1⟩ := tm_Xj h z
      obtain ⟨a1, a2, a3, a4, a5, a6⟩ := h.2.2.2.2.2.1 j hj
      rw [e1] at a3 a4
      rw [a3, (ty_TD h.1 hF a4).1]
    · refine tx_en (nI n) (nI e) (nI (tm_u n)) (nI k) (nI q) fr aI aG aF aW aL aS aR aQ aZ aC h hc z (br_t rfl (ty_by (nI n) (nI e) (nI k) aG yT yL yW yN yS h.1 hc (br_t rfl ?_)))
      refine ty_work (nI n) (nI e) (nI k) aG yT yL yW yN yS h.1 h.2.1 (tv_31 h) hX (fun yT' yL' yW' hF => ⟨vp_in_nI (by omega) (by omega), ?_⟩)
      rw [nI_clamp (by omega : c < 2 ^ 31)]
      exact br_t (ty_Tn hF hc z) ⟨rfl, tv_mk h hX⟩
theorem tv_let {n e k q j : Nat} {G fo l N : Nat → Nat} {fr : Int32} {aI aG aF aW aL aS yT yL : Nat → Int32} {yW : Nat → Int64} {yN : Nat → Int32} {yS : Nat → Int64} {v2 : Int32} (h : tm_X n e k G q fo l N aI aG aF aW aL aS) (hX : tm_NX n e k G yN) (hj : j < q) (P : Int32 → SY → Prop)
    (hP : ∀ yT' yL' yW', tm_YF n e k G yT' yL' yW' → (v2 < 0 → P (-3) (nI n, nI e, nI k, aG, yT', yL', yW', yN, yS)) ∧ (¬ v2 < 0 → (v2 < nI (l j) → P (((lN (N j - 4 ^ l j) >>> ((2 * (nI (l j) - 1 - v2)).toInt64 &&& 63)).toInt32) &&& 3) (nI n, nI e, nI k, aG, yT', yL', yW', yN, yS)) ∧ (¬ v2 < nI (l j) → P (-3) (nI n, nI e, nI k, aG, yT', yL', yW', yN, yS)))) : wpY_letter P (nI n, nI e, nI k, aG, yT, yL, yW, yN, yS) (nI (fo j)) v2 := by
  have H := tm_Npos h.1
  obtain ⟨a1, a2, a3, a4, a5, a6⟩ := h.2.2.2.2.2.1 j hj
  unfold wpY_letter
  refine ty_by (nI n) (nI e) (nI k) aG yT yL yW yN yS h.1 a1 (br_t rfl ?_)
  refine ty_work (nI n) (nI e) (nI k) aG yT yL yW yN yS h.1 h.2.1 (tv_31 h) hX (fun yT' yL' yW' hF => ⟨vp_in_nI (by omega) (by omega), ?_⟩)
  have t := hP yT' yL' yW' hF
  rw [nI_clamp (by omega : fo j < 2 ^ 31), (ty_TD h.1 hF a4).1, (ty_TD h.1 hF a4).2]
  exact br_f (ty_Ty hF a1 (tm_BE a4)) ⟨t.1, fun w => ⟨vp_in_nI (by omega) (by omega), fun w' => ⟨vp_in_nI (by omega) (by omega), vp_in_nI (by omega) (by omega), (t.2 w).1 w'⟩, (t.2 w).2⟩⟩
theorem i_vc_letter {k : Nat} {u : SX} {v : SY} (I : i_Rel k u v) (hk : k + 4 ≤ 2049) (v1 : Int32) (v2 : Int32) : wpX_letter (fun r => wpY_letter (fun r' v' => r' = r ∧ i_Rel (k + 4) u v') v v1 v2) u v1 v2 := by
  obtain ⟨n, e, k, G, q, fo, l, N, fr, aI, aG, aF, aW, aL, aS, aR, aQ, aZ, aC, yT, yL, yW, yN, yS, h, hX, rfl, rfl⟩ := I
  have H := tm_Npos h.1
  unfold wpX_letter
  rcases tv_ix (k := k) (G := G) h.1 v1 with y | ⟨c, hc, rfl⟩
  · refine tx_gn (nI n) (nI e) (nI (tm_u n)) (nI k) (nI q) fr aI aG aF aW aL aS aR aQ aZ aC y (br_t rfl ?_)
    unfold wpY_letter
    exact ty_bn (nI n) (nI e) (nI k) aG yT yL yW yN yS y (br_f tx_10 ⟨rfl, tv_mk h hX⟩)
  · refine tx_gy (nI n) (nI e) (nI (tm_u n)) (nI k) (nI q) fr aI aG aF aW aL aS aR aQ aZ aC h.1 hc (br_f tx_10 ?_)
    by_cases z : tm_E n k G c
    · obtain ⟨j, hj, e1⟩ := tm_Xj h z
      subst e1
      obtain ⟨a1, a2, a3, a4, a5, a6⟩ := h.2.2.2.2.2.1 j hj
      have a31 := tv_31 h _ _ _ a4
      refine tx_ey (nI n) (nI e) (nI (tm_u n)) (nI k) (nI q) fr aI aG aF aW aL aS aR aQ aZ aC h z (br_f tx_10 ?_)
      by_cases w : v2 < 0
      · refine br_t w (tv_let (fr := fr) h hX hj _ ?_)
        intro yT' yL' yW' hF
        exact br_t w ⟨rfl, tv_mk h hX⟩
      · refine br_f w ⟨vp_in_nI (by omega) (by omega), ?_⟩
        rw [nI_clamp (by omega : fo j < 2 ^ 31), a3]
        by_cases x : v2 < nI (l j)
        · obtain ⟨p, hp, rfl⟩ := nI_of w
          have hpl : p < l j := (nI_ltI hp (by omega)).mp x
          refine br_t x ⟨vp_in_nI (by omega) (by omega), nm_r (e' := nI (p + (l j - 1 - p))) ?_ ⟨l j - 1 - p + 1, ?_⟩⟩
          · show nI (l j) - nI 1 = _
            rw [pk_sub (by omega)]
            exact congrArg nI (by omega)
          · refine tx_le50 (nI n) (nI e) (nI (tm_u n)) (nI k) (nI q) fr aI aG aF aW aL aS aR aQ aZ aC (p := p) h (l j - 1 - p) j hj (by omega) ?_
            refine tv_let (fr := fr) h hX hj _ ?_
            intro yT' yL' yW' hF
            refine br_f w (br_t x ⟨?_, tv_mk h hX⟩)
            rw [ty_let a31 hpl (by have := tm_v62 a4.1 a31; omega), tm_let (tm_Wr a4.1).1 (by omega)]
        · refine br_f x (tv_let (fr := fr) h hX hj _ ?_)
          intro yT' yL' yW' hF
          exact br_f w (br_f x ⟨rfl, tv_mk h hX⟩)
    · refine tx_en (nI n) (nI e) (nI (tm_u n)) (nI k) (nI q) fr aI aG aF aW aL aS aR aQ aZ aC h hc z (br_t rfl ?_)
      unfold wpY_letter
      refine ty_by (nI n) (nI e) (nI k) aG yT yL yW yN yS h.1 hc (br_t rfl ?_)
      refine ty_work (nI n) (nI e) (nI k) aG yT yL yW yN yS h.1 h.2.1 (tv_31 h) hX (fun yT' yL' yW' hF => ⟨vp_in_nI (by omega) (by omega), ?_⟩)
      rw [nI_clamp (by omega : c < 2 ^ 31)]
      exact br_t (ty_Tn hF hc z) ⟨rfl, tv_mk h hX⟩
