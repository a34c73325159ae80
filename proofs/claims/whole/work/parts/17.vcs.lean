/-! the other methods -/
theorem i_vc_longest {k : Nat} {u : SX} {v : SY} (I : i_Rel k u v) (hk : k + 4 ≤ 2049) : wpX_longest (fun r => wpY_longest (fun r' v' => r' = r ∧ i_Rel (k + 4) u v') v) u := by
  obtain ⟨n, e, k, G, q, fo, l, N, fr, aI, aG, aF, aW, aL, aS, aR, aQ, aZ, aC, yT, yL, yW, yN, yS, h, hX, rfl, rfl⟩ := I
  have H := tm_Npos h.1
  have hq1 := h.2.2.2.2.1.1
  have hq2 : q ≤ e := h.2.2.2.2.1.2.1
  obtain ⟨a1, a2, a3, a4, a5, a6⟩ := h.2.2.2.2.2.1 (q - 1) (by omega)
  have e1 : nI q - 1 = nI (q - 1) := pk_sub (b := 1) (by omega)
  unfold wpX_longest
  show _ ∧ _ ∧ _
  rw [e1, nI_clamp (by omega : q - 1 < 2 ^ 31), a2, nI_clamp (by omega : fo (q - 1) < 2 ^ 31), a3]
  refine ⟨vp_in_nI (by omega) (by omega), vp_in_nI (by omega) (by omega), ?_⟩
  unfold wpY_longest
  refine ty_work (nI n) (nI e) (nI k) aG yT yL yW yN yS h.1 h.2.1 (tv_31 h) hX (fun yT' yL' yW' hF => ⟨e + 1, ?_⟩)
  refine ty_lo8 (nI n) (nI e) (nI k) aG yT' yL' yW' yN yS h.1 (tv_31 h) hF (fun r h1 h2 => ⟨?_, tv_mk h hX⟩) e 0 (by omega) 0 (by omega) (fun x l N hx => by omega) (Or.inl rfl)
  rw [tm_lon h h1 h2]
theorem i_vc_idempotents {k : Nat} {u : SX} {v : SY} (I : i_Rel k u v) (hk : k + 4 ≤ 2049) : wpX_idempotents (fun r => wpY_idempotents (fun r' v' => r' = r ∧ i_Rel (k + 4) u v') v) u := by
  obtain ⟨n, e, k, G, q, fo, l, N, fr, aI, aG, aF, aW, aL, aS, aR, aQ, aZ, aC, yT, yL, yW, yN, yS, h, hX, rfl, rfl⟩ := I
  refine ⟨q + 1, tx_id4 (nI n) (nI e) (nI (tm_u n)) (nI k) (nI q) fr aI aG aF aW aL aS aR aQ aZ aC h ?_ q 0 (by omega)⟩
  unfold wpY_idempotents
  refine ty_work (nI n) (nI e) (nI k) aG yT yL yW yN yS h.1 h.2.1 (tv_31 h) hX (fun yT' yL' yW' hF => ⟨e + 1, ?_⟩)
  refine ty_id8 (nI n) (nI e) (nI k) aG yT' yL' yW' yN yS h.1 hF ⟨?_, tv_mk h hX⟩ e 0 (by omega)
  rw [tm_enum h (fun c => tm_m n c c = c)]
theorem i_vc_units {k : Nat} {u : SX} {v : SY} (I : i_Rel k u v) (hk : k + 4 ≤ 2049) : wpX_units (fun r => wpY_units (fun r' v' => r' = r ∧ i_Rel (k + 4) u v') v) u := by
  obtain ⟨n, e, k, G, q, fo, l, N, fr, aI, aG, aF, aW, aL, aS, aR, aQ, aZ, aC, yT, yL, yW, yN, yS, h, hX, rfl, rfl⟩ := I
  refine ⟨q + 1, tx_un4 (nI n) (nI e) (nI (tm_u n)) (nI k) (nI q) fr aI aG aF aW aL aS aR aQ aZ aC h ?_ q 0 (by omega)⟩
  unfold wpY_units
  refine ty_work (nI n) (nI e) (nI k) aG yT yL yW yN yS h.1 h.2.1 (tv_31 h) hX (fun yT' yL' yW' hF => ?_)
  refine ty_unit (nI n) (nI e) (nI k) aG yT' yL' yW' yN yS h.1 ⟨e + 1, ?_⟩
  refine ty_un13 (nI n) (nI e) (nI k) aG yT' yL' yW' yN yS h.1 hF ⟨?_, tv_mk h hX⟩ e 0 (by omega)
  rw [tm_enum h (fun c => tm_rk n c = n)]
  exact congrArg nI (tm_ccong e fun c _ => ⟨fun z => ⟨z.1, (tm_unit h.1 h.2.1 z.1).mpr z.2⟩, fun z => ⟨z.1, (tm_unit h.1 h.2.1 z.1).mp z.2⟩⟩)
theorem i_vc_rank {k : Nat} {u : SX} {v : SY} (I : i_Rel k u v) (hk : k + 4 ≤ 2049) (v1 : Int32) : wpX_rank (fun r => wpY_rank (fun r' => r' = r ∧ i_Rel (k + 4) u v) v v1) u v1 := by
  obtain ⟨n, e, k, G, q, fo, l, N, fr, aI, aG, aF, aW, aL, aS, aR, aQ, aZ, aC, yT, yL, yW, yN, yS, h, hX, rfl, rfl⟩ := I
  unfold wpX_rank wpY_rank
  rcases tv_ix (k := k) (G := G) h.1 v1 with y | ⟨c, hc, rfl⟩
  · exact tx_gn (nI n) (nI e) (nI (tm_u n)) (nI k) (nI q) fr aI aG aF aW aL aS aR aQ aZ aC y (br_t rfl (ty_bn (nI n) (nI e) (nI k) aG yT yL yW yN yS y (br_f tx_10 ⟨rfl, tv_mk h hX⟩)))
  · refine tx_gy (nI n) (nI e) (nI (tm_u n)) (nI k) (nI q) fr aI aG aF aW aL aS aR aQ aZ aC h.1 hc (br_f tx_10 (tx_ci (nI n) (nI e) (nI (tm_u n)) (nI k) (nI q) fr aI aG aF aW aL aS aR aQ aZ aC h.1 hc h.2.2.2.1 ?_))
    refine ty_by (nI n) (nI e) (nI k) aG yT yL yW yN yS h.1 hc (br_t rfl ⟨n + 1, ?_⟩)
    exact ty_rk14 (nI n) (nI e) (nI k) aG yT yL yW yN yS h.1 hc ⟨rfl, tv_mk h hX⟩ n 0 (by omega)
theorem i_vc_index {k : Nat} {u : SX} {v : SY} (I : i_Rel k u v) (hk : k + 4 ≤ 2049) (v1 : Int32) : wpX_index (fun r => wpY_index (fun r' => r' = r ∧ i_Rel (k + 4) u v) v v1) u v1 := by
  obtain ⟨n, e, k, G, q, fo, l, N, fr, aI, aG, aF, aW, aL, aS, aR, aQ, aZ, aC, yT, yL, yW, yN, yS, h, hX, rfl, rfl⟩ := I
  unfold wpX_index wpY_index
  rcases tv_ix (k := k) (G := G) h.1 v1 with y | ⟨c, hc, rfl⟩
  · exact tx_gn (nI n) (nI e) (nI (tm_u n)) (nI k) (nI q) fr aI aG aF aW aL aS aR aQ aZ aC y (br_t rfl (ty_bn (nI n) (nI e) (nI k) aG yT yL yW yN yS y (br_f tx_10 ⟨rfl, tv_mk h hX⟩)))
  · refine tx_gy (nI n) (nI e) (nI (tm_u n)) (nI k) (nI q) fr aI aG aF aW aL aS aR aQ aZ aC h.1 hc (br_f tx_10 (tx_fr (nI n) (nI e) (nI (tm_u n)) (nI k) (nI q) fr aI aG aF aW aL aS aR aQ aZ aC h.1 h.2.2.2.1 hc (fun j hj hI => ?_)))
    refine ty_by (nI n) (nI e) (nI k) aG yT yL yW yN yS h.1 hc (br_t rfl (ty_fi (nI n) (nI e) (nI k) aG yT yL yW yN yS h.1 hc (fun j' hj' hI' => ⟨?_, tv_mk h hX⟩)))
    rw [tm_Ixu hI hI']
theorem i_vc_period {k : Nat} {u : SX} {v : SY} (I : i_Rel k u v) (hk : k + 4 ≤ 2049) (v1 : Int32) : wpX_period (fun r => wpY_period (fun r' => r' = r ∧ i_Rel (k + 4) u v) v v1) u v1 := by
  obtain ⟨n, e, k, G, q, fo, l, N, fr, aI, aG, aF, aW, aL, aS, aR, aQ, aZ, aC, yT, yL, yW, yN, yS, h, hX, rfl, rfl⟩ := I
  unfold wpX_period wpY_period
  rcases tv_ix (k := k) (G := G) h.1 v1 with y | ⟨c, hc, rfl⟩
  · exact tx_gn (nI n) (nI e) (nI (tm_u n)) (nI k) (nI q) fr aI aG aF aW aL aS aR aQ aZ aC y (br_t rfl (ty_bn (nI n) (nI e) (nI k) aG yT yL yW yN yS y (br_f tx_10 ⟨rfl, tv_mk h hX⟩)))
  · refine tx_gy (nI n) (nI e) (nI (tm_u n)) (nI k) (nI q) fr aI aG aF aW aL aS aR aQ aZ aC h.1 hc (br_f tx_10 (tx_fr (nI n) (nI e) (nI (tm_u n)) (nI k) (nI q) fr aI aG aF aW aL aS aR aQ aZ aC h.1 h.2.2.2.1 hc (fun j hj hI => ⟨j + 1, ?_⟩)))
    refine tx_pe21 (nI n) (nI e) (nI (tm_u n)) (nI k) (nI q) fr aI aG aF aW aL aS aR aQ aZ aC h.1 h.2.2.2.1 hc hj hI.1 (fun m hm hP => ?_) j 0 (by omega)
    refine ty_by (nI n) (nI e) (nI k) aG yT yL yW yN yS h.1 hc (br_t rfl (ty_fi (nI n) (nI e) (nI k) aG yT yL yW yN yS h.1 hc (fun j' hj' hI' => ?_)))
    have e1 := tm_Ixu hI hI'
    subst e1
    refine ty_ro (nI n) (nI e) (nI k) aG yT yL yW yN yS h.1 hc (by omega) (fun m' hm' hP' => ⟨?_, tv_mk h hX⟩) (fun z => absurd hI.1 z)
    rw [tm_Peu hP hP']
theorem tv_kd (v : Int32) : (v < 0 ∨ 2 < v) ∨ ∃ d, d ≤ 2 ∧ v = nI d := by
  by_cases z : v < 0
  · exact Or.inl (Or.inl z)
  · by_cases y : 2 < v
    · exact Or.inl (Or.inr y)
    · obtain ⟨j, hj, rfl⟩ := nI_of z
      have : ¬ 2 < j := fun w => y ((nI_ltI (a := 2) (by omega) hj).mpr w)
      exact Or.inr ⟨j, by omega, rfl⟩
theorem tv_ky {A B C : Prop} {d : Nat} (hd : d ≤ 2) (b : B) : (nI d < 0 → A) ∧ (¬ nI d < 0 → ((nI d ≤ 2 → B) ∧ (¬ nI d ≤ 2 → C))) := br_f (nI_pos (by omega)) (br_t (nI_le (b := 2) hd (by decide)) b)
theorem tv_kn {A B : Prop} {v : Int32} (hv : v < 0 ∨ 2 < v) (a : A) : (v < 0 → A) ∧ (¬ v < 0 → ((v ≤ 2 → B) ∧ (¬ v ≤ 2 → A))) := by
  by_cases z : v < 0
  · exact br_t z a
  · rcases hv with y | y
    · exact absurd y z
    · exact br_f z (br_f (Int32.not_le.mpr y) a)
theorem i_vc_classes {k : Nat} {u : SX} {v : SY} (I : i_Rel k u v) (hk : k + 4 ≤ 2049) (v1 : Int32) : wpX_classes (fun r u' => wpY_classes (fun r' v' => r' = r ∧ i_Rel (k + 4) u' v') v v1) u v1 := by
  obtain ⟨n, e, k, G, q, fo, l, N, fr, aI, aG, aF, aW, aL, aS, aR, aQ, aZ, aC, yT, yL, yW, yN, yS, h, hX, rfl, rfl⟩ := I
  unfold wpX_classes wpY_classes
  rcases tv_kd v1 with y | ⟨d, hd, rfl⟩
  · exact tx_kn y (br_t rfl (tv_kn y ⟨rfl, tv_mk h hX⟩))
  · refine tx_kd hd (br_f tx_10 ⟨q + 1, ?_⟩)
    refine tx_c11 (nI n) (nI e) (nI (tm_u n)) (nI k) (nI q) fr aI aG aF aW aL aS aR aQ aZ aC h hd (fun fr aR aQ aZ aC => ?_) q 0 (by omega) fr aR aQ aZ aC (fun j hj => by omega)
    refine tv_ky hd (ty_work (nI n) (nI e) (nI k) aG yT yL yW yN yS h.1 h.2.1 (tv_31 h) hX (fun yT' yL' yW' hF => ⟨e + 1, ?_⟩))
    refine ty_c17 (nI n) (nI e) (nI k) aG yT' yL' yW' yN yS h.1 h.2.1 hd hX hF (fun yS' => ⟨?_, tv_mk h hX⟩) e 0 (by omega) yS (fun x c hx => by omega)
    rw [tm_cls h]
theorem i_vc_ideal {k : Nat} {u : SX} {v : SY} (I : i_Rel k u v) (hk : k + 4 ≤ 2049) (v1 : Int32) (v2 : Int32) : wpX_ideal (fun r u' => wpY_ideal (fun r' v' => r' = r ∧ i_Rel (k + 4) u' v') v v1 v2) u v1 v2 := by
  obtain ⟨n, e, k, G, q, fo, l, N, fr, aI, aG, aF, aW, aL, aS, aR, aQ, aZ, aC, yT, yL, yW, yN, yS, h, hX, rfl, rfl⟩ := I
  have H := tm_Npos h.1
  unfold wpX_ideal wpY_ideal
  rcases tv_kd v1 with y | ⟨d, hd, rfl⟩
  · exact tx_kn y (br_t rfl (tv_kn y ⟨rfl, tv_mk h hX⟩))
  · refine tx_kd hd (br_f tx_10 ?_)
    rcases tv_ix (k := k) (G := G) h.1 v2 with y | ⟨c, hc, rfl⟩
    · refine tx_eb (nI n) (nI e) (nI (tm_u n)) (nI k) (nI q) fr aI aG aF aW aL aS aR aQ aZ aC y (br_t rfl (tv_ky hd (ty_work (nI n) (nI e) (nI k) aG yT yL yW yN yS h.1 h.2.1 (tv_31 h) hX (fun yT' yL' yW' hF => ?_))))
      exact ty_bn (nI n) (nI e) (nI k) aG yT' yL' yW' yN yS y (br_f tx_10 ⟨rfl, tv_mk h hX⟩)
    · by_cases z : tm_E n k G c
      · refine tx_ey (nI n) (nI e) (nI (tm_u n)) (nI k) (nI q) fr aI aG aF aW aL aS aR aQ aZ aC h z (br_f tx_10 (tx_fs (nI n) (nI e) (nI (tm_u n)) (nI k) (nI q) fr aI aG aF aW aL aS aR aQ aZ aC h.1 h.2.1 hd hc h.2.2.1 h.2.2.2.1 (fun fr aR aQ hR => ?_)))
        refine tv_ky hd (ty_work (nI n) (nI e) (nI k) aG yT yL yW yN yS h.1 h.2.1 (tv_31 h) hX (fun yT' yL' yW' hF => ?_))
        refine ty_by (nI n) (nI e) (nI k) aG yT' yL' yW' yN yS h.1 hc (br_t rfl ⟨vp_in_nI (by omega) (by omega), ?_⟩)
        rw [nI_clamp (by omega : c < 2 ^ 31)]
        refine br_f (ty_Ty hF hc z) (ty_fill (nI n) (nI e) (nI k) aG yT' yL' yW' yN yS h.1 h.2.1 hd hc hX (fun yS' h1 h2 => ?_))
        exact ty_mem (nI n) (nI e) (nI k) aG yT' yL' yW' yN yS' h.1 hc h1 ⟨rfl, tv_mk h hX⟩
      · refine tx_en (nI n) (nI e) (nI (tm_u n)) (nI k) (nI q) fr aI aG aF aW aL aS aR aQ aZ aC h hc z (br_t rfl (tv_ky hd (ty_work (nI n) (nI e) (nI k) aG yT yL yW yN yS h.1 h.2.1 (tv_31 h) hX (fun yT' yL' yW' hF => ?_))))
        refine ty_by (nI n) (nI e) (nI k) aG yT' yL' yW' yN yS h.1 hc (br_t rfl ⟨vp_in_nI (by omega) (by omega), ?_⟩)
        rw [nI_clamp (by omega : c < 2 ^ 31)]
        exact br_t (ty_Tn hF hc z) ⟨rfl, tv_mk h hX⟩
theorem i_vc_kernel {k : Nat} {u : SX} {v : SY} (I : i_Rel k u v) (hk : k + 4 ≤ 2049) : wpX_kernel (fun r u' => wpY_kernel (fun r' v' => r' = r ∧ i_Rel (k + 4) u' v') v) u := by
  obtain ⟨n, e, k, G, q, fo, l, N, fr, aI, aG, aF, aW, aL, aS, aR, aQ, aZ, aC, yT, yL, yW, yN, yS, h, hX, rfl, rfl⟩ := I
  refine ⟨q + 1, tx_ke7 (nI n) (nI e) (nI (tm_u n)) (nI k) (nI q) fr aI aG aF aW aL aS aR aQ aZ aC h (fun fr aR aQ r h1 h2 h3 => ?_) q 0 (by omega) fr aR aQ q (Nat.le_refl _) (fun j hj => by omega) (Or.inl rfl)⟩
  unfold wpY_kernel
  refine ty_work (nI n) (nI e) (nI k) aG yT yL yW yN yS h.1 h.2.1 (tv_31 h) hX (fun yT' yL' yW' hF => ⟨e + 1, ?_⟩)
  refine ty_ke11 (nI n) (nI e) (nI k) aG yT' yL' yW' yN yS h.1 h.2.1 hX hF (fun yS' r' g1 g2 g3 => ⟨?_, tv_mk h hX⟩) e 0 (by omega) yS e (Nat.le_refl _) (fun x hx => by omega) (Or.inl rfl)
  rw [tm_ker h h2 h3 g2 g3]
theorem i_vc_commutes {k : Nat} {u : SX} {v : SY} (I : i_Rel k u v) (hk : k + 4 ≤ 2049) : wpX_commutes (fun r => wpY_commutes (fun r' v' => r' = r ∧ i_Rel (k + 4) u v') v) u := by
  obtain ⟨n, e, k, G, q, fo, l, N, fr, aI, aG, aF, aW, aL, aS, aR, aQ, aZ, aC, yT, yL, yW, yN, yS, h, hX, rfl, rfl⟩ := I
  have hG : ∀ g, g < k → G g < e := fun g hg => (h.2.2.1 g hg).1
  refine ⟨k + 1, tx_co2 (nI n) (nI e) (nI (tm_u n)) (nI k) (nI q) fr aI aG aF aW aL aS aR aQ aZ aC h.1 h.2.1 h.2.2.1 h.2.2.2.1 (fun z => ?_) (fun z => ?_) k 0 (by omega) (fun i' j' hi' => by omega)⟩
  · unfold wpY_commutes
    refine ty_work (nI n) (nI e) (nI k) aG yT yL yW yN yS h.1 h.2.1 (tv_31 h) hX (fun yT' yL' yW' hF => ⟨e + 1, ?_⟩)
    refine ty_co6 (nI n) (nI e) (nI k) aG yT' yL' yW' yN yS h.1 hF (fun _ => ⟨rfl, tv_mk h hX⟩) (fun w => ?_) e 0 (by omega) (fun a' b' ha' => by omega)
    obtain ⟨i, j, hi, hj, x⟩ := z
    exact absurd (w _ _ (tm_Eg h.1 h.2.1 hG hi) (tm_Eg h.1 h.2.1 hG hj)) x
  · unfold wpY_commutes
    refine ty_work (nI n) (nI e) (nI k) aG yT yL yW yN yS h.1 h.2.1 (tv_31 h) hX (fun yT' yL' yW' hF => ⟨e + 1, ?_⟩)
    refine ty_co6 (nI n) (nI e) (nI k) aG yT' yL' yW' yN yS h.1 hF (fun w => ?_) (fun _ => ⟨rfl, tv_mk h hX⟩) e 0 (by omega) (fun a' b' ha' => by omega)
    obtain ⟨a, b, ⟨l1, N1, wa⟩, ⟨l2, N2, wb⟩, x⟩ := w
    exact absurd (tm_Ca h.1 hG z wa wb) x
theorem i_vc_alike {k : Nat} {u : SX} {v : SY} (I : i_Rel k u v) (hk : k + 4 ≤ 2049) (v1 : Int32) (v2 : Int32) (v3 : Int32) : wpX_alike (fun r u' => wpY_alike (fun r' v' => r' = r ∧ i_Rel (k + 4) u' v') v v1 v2 v3) u v1 v2 v3 := by
  obtain ⟨n, e, k, G, q, fo, l, N, fr, aI, aG, aF, aW, aL, aS, aR, aQ, aZ, aC, yT, yL, yW, yN, yS, h, hX, rfl, rfl⟩ := I
  have H := tm_Npos h.1
  unfold wpX_alike
  rcases tv_kd v1 with y | ⟨d, hd, rfl⟩
  · refine tx_kn y (br_t rfl ?_)
    unfold wpY_alike
    exact tv_kn y ⟨rfl, tv_mk h hX⟩
  refine tx_kd hd (br_f tx_10 ?_)
  rcases tv_ix (k := k) (G := G) h.1 v2 with y | ⟨a, ha, rfl⟩
  · refine tx_eb (nI n) (nI e) (nI (tm_u n)) (nI k) (nI q) fr aI aG aF aW aL aS aR aQ aZ aC y (br_t rfl ?_)
    unfold wpY_alike
    refine tv_ky hd (ty_work (nI n) (nI e) (nI k) aG yT yL yW yN yS h.1 h.2.1 (tv_31 h) hX (fun yT' yL' yW' hF => ?_))
    exact ty_bn (nI n) (nI e) (nI k) aG yT' yL' yW' yN yS y (br_f tx_10 ⟨rfl, tv_mk h hX⟩)
  by_cases z : tm_E n k G a
  · refine tx_ey (nI n) (nI e) (nI (tm_u n)) (nI k) (nI q) fr aI aG aF aW aL aS aR aQ aZ aC h z (br_f tx_10 ?_)
    rcases tv_ix (k := k) (G := G) h.1 v3 with y | ⟨b, hb, rfl⟩
    · refine tx_eb (nI n) (nI e) (nI (tm_u n)) (nI k) (nI q) fr aI aG aF aW aL aS aR aQ aZ aC y (br_t rfl ?_)
      unfold wpY_alike
      refine tv_ky hd (ty_work (nI n) (nI e) (nI k) aG yT yL yW yN yS h.1 h.2.1 (tv_31 h) hX (fun yT' yL' yW' hF => ?_))
      exact ty_by (nI n) (nI e) (nI k) aG yT' yL' yW' yN yS h.1 ha (br_t rfl (ty_bn (nI n) (nI e) (nI k) aG yT' yL' yW' yN yS y (br_f tx_10 ⟨rfl, tv_mk h hX⟩)))
    by_cases w : tm_E n k G b
    · refine tx_ey (nI n) (nI e) (nI (tm_u n)) (nI k) (nI q) fr aI aG aF aW aL aS aR aQ aZ aC h w (br_f tx_10 (tx_fs (nI n) (nI e) (nI (tm_u n)) (nI k) (nI q) fr aI aG aF aW aL aS aR aQ aZ aC h.1 h.2.1 hd ha h.2.2.1 h.2.2.2.1 (fun fr1 aR1 aQ1 hR1 => ⟨vp_in_nI (by omega) (by omega), ?_⟩)))
      rw [nI_clamp (by omega : b < 2 ^ 31)]
      refine nm_e (tx_fs (nI n) (nI e) (nI (tm_u n)) (nI k) (nI q) fr1 aI aG aF aW aL aS aR1 aQ1 aZ aC h.1 h.2.1 hd hb h.2.2.1 h.2.2.2.1 (fun fr2 aR2 aQ2 hR2 => ⟨vp_in_nI (by omega) (by omega), ?_⟩))
      rw [nI_clamp (by omega : a < 2 ^ 31)]
      refine nm_e ?_
      have Y : ∀ P : Int32 → SY → Prop, (∀ yT' yL' yW' yS', (tm_R n k G d a b → tm_R n k G d b a → P 1 (nI n, nI e, nI k, aG, yT', yL', yW', yN, yS')) ∧ (¬ (tm_R n k G d a b ∧ tm_R n k G d b a) → P 0 (nI n, nI e, nI k, aG, yT', yL', yW', yN, yS'))) → wpY_alike P (nI n, nI e, nI k, aG, yT, yL, yW, yN, yS) (nI d) (nI a) (nI b) := by
        intro P hP
        unfold wpY_alike
        refine tv_ky hd (ty_work (nI n) (nI e) (nI k) aG yT yL yW yN yS h.1 h.2.1 (tv_31 h) hX (fun yT' yL' yW' hF => ?_))
        refine ty_by (nI n) (nI e) (nI k) aG yT' yL' yW' yN yS h.1 ha (br_t rfl (ty_by (nI n) (nI e) (nI k) aG yT' yL' yW' yN yS h.1 hb (br_t rfl ⟨vp_in_nI (by omega) (by omega), ?_⟩)))
        rw [nI_clamp (by omega : a < 2 ^ 31), nI_clamp (by omega : b < 2 ^ 31)]
        refine br_f (ty_Ty hF ha z) ⟨vp_in_nI (by omega) (by omega), br_f (ty_Ty hF hb w) ?_⟩
        refine ty_fill (nI n) (nI e) (nI k) aG yT' yL' yW' yN yS h.1 h.2.1 hd ha hX (fun yS1 h1 h2 => ?_)
        refine ty_fill (nI n) (nI e) (nI k) aG yT' yL' yW' yN yS1 h.1 h.2.1 hd hb hX (fun yS2 h3 h4 => ?_)
        have t := hP yT' yL' yW' yS2
        have e1 : tm_t yS2 a b ↔ tm_R n k G d a b := by
          by_cases x : a = b
          · subst x; exact h3 a ha
          · have e2 : tm_t yS2 a b ↔ tm_t yS1 a b := by
              unfold tm_t
              rw [h4 (4 * a + b / 64) (by omega)]
            exact e2.trans (h1 b hb)
        refine ty_in (nI n) (nI e) (nI k) aG yT' yL' yW' yN yS2 (by omega) (by omega) (fun x => br_f tx_10 ?_) (fun x => br_t rfl (t.2 fun v => x (e1.mpr v.1)))
        refine ty_in (nI n) (nI e) (nI k) aG yT' yL' yW' yN yS2 (by omega) (by omega) (fun x' => br_f tx_10 (t.1 (e1.mp x) ((h3 a ha).mp x'))) (fun x' => br_t rfl (t.2 fun v => x' ((h3 a ha).mpr v.2)))
      rcases hR1 b hb with ⟨r1, r2⟩ | ⟨r1, r2⟩
      · refine br_f (by rw [r1]; exact tx_10) ?_
        rcases hR2 a ha with ⟨s1, s2⟩ | ⟨s1, s2⟩
        · refine br_f (by rw [s1]; exact tx_10) (Y _ ?_)
          intro yT' yL' yW' yS'
          exact ⟨fun _ _ => ⟨rfl, tv_mk h hX⟩, fun v => absurd ⟨r2, s2⟩ v⟩
        · refine br_t s1 (Y _ ?_)
          intro yT' yL' yW' yS'
          exact ⟨fun _ v => absurd v s2, fun _ => ⟨rfl, tv_mk h hX⟩⟩
      · refine br_t r1 (Y _ ?_)
        intro yT' yL' yW' yS'
        exact ⟨fun v _ => absurd v r2, fun _ => ⟨rfl, tv_mk h hX⟩⟩
    · refine tx_en (nI n) (nI e) (nI (tm_u n)) (nI k) (nI q) fr aI aG aF aW aL aS aR aQ aZ aC h hb w (br_t rfl ?_)
      unfold wpY_alike
      refine tv_ky hd (ty_work (nI n) (nI e) (nI k) aG yT yL yW yN yS h.1 h.2.1 (tv_31 h) hX (fun yT' yL' yW' hF => ?_))
      refine ty_by (nI n) (nI e) (nI k) aG yT' yL' yW' yN yS h.1 ha (br_t rfl (ty_by (nI n) (nI e) (nI k) aG yT' yL' yW' yN yS h.1 hb (br_t rfl ⟨vp_in_nI (by omega) (by omega), ?_⟩)))
      rw [nI_clamp (by omega : a < 2 ^ 31), nI_clamp (by omega : b < 2 ^ 31)]
      exact br_f (ty_Ty hF ha z) ⟨vp_in_nI (by omega) (by omega), br_t (ty_Tn hF hb w) ⟨rfl, tv_mk h hX⟩⟩
  · refine tx_en (nI n) (nI e) (nI (tm_u n)) (nI k) (nI q) fr aI aG aF aW aL aS aR aQ aZ aC h ha z (br_t rfl ?_)
    unfold wpY_alike
    refine tv_ky hd (ty_work (nI n) (nI e) (nI k) aG yT yL yW yN yS h.1 h.2.1 (tv_31 h) hX (fun yT' yL' yW' hF => ?_))
    rcases tv_ix (k := k) (G := G) h.1 v3 with y | ⟨b, hb, rfl⟩
    · exact ty_by (nI n) (nI e) (nI k) aG yT' yL' yW' yN yS h.1 ha (br_t rfl (ty_bn (nI n) (nI e) (nI k) aG yT' yL' yW' yN yS y (br_f tx_10 ⟨rfl, tv_mk h hX⟩)))
    · refine ty_by (nI n) (nI e) (nI k) aG yT' yL' yW' yN yS h.1 ha (br_t rfl (ty_by (nI n) (nI e) (nI k) aG yT' yL' yW' yN yS h.1 hb (br_t rfl ⟨vp_in_nI (by omega) (by omega), ?_⟩)))
      rw [nI_clamp (by omega : a < 2 ^ 31)]
      exact br_t (ty_Tn hF ha z) ⟨rfl, tv_mk h hX⟩
