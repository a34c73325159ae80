/-! Y: the sets, as bits -/
def tm_t (yS : Nat → Int64) (a c : Nat) : Prop := (yS (4 * a + c / 64)).toBitVec.getLsbD (c % 64) = true
theorem ty_sm : ∀ j, j < 64 → ((lN j).toBitVec.smod 64).toNat = j := by decide +kernel
theorem ty_bt {w : Int64} {j : Nat} (hj : j < 64) : ((w >>> ((nI j).toInt64 &&& 63)) &&& 1) = 1 ↔ w.toBitVec.getLsbD j = true := by
  rw [wb_c j hj, ← Int64.toBitVec_inj, Int64.toBitVec_and, Int64.toBitVec_shiftRight]
  show (w.toBitVec.sshiftRight ((lN j).toBitVec.smod 64).toNat) &&& 1#64 = 1#64 ↔ _
  rw [ty_sm j hj]
  have e0 : (w.toBitVec.sshiftRight j).getLsbD 0 = w.toBitVec.getLsbD j := by
    rw [BitVec.getLsbD_sshiftRight]
    simp [hj]
  constructor
  · intro h
    have t := congrArg (fun x => x.getLsbD 0) h
    simp only [BitVec.getLsbD_and, e0] at t
    simpa using t
  · intro h
    apply BitVec.eq_of_getLsbD_eq
    intro i hi
    cases i with
    | zero => rw [BitVec.getLsbD_and, e0, h]; rfl
    | succ i => simp
theorem ty_or {w : Int64} {j : Nat} (hj : j < 64) {i : Nat} (hi : i < 64) : (w ||| ((1 : Int64) <<< ((nI j).toInt64 &&& 63))).toBitVec.getLsbD i = true ↔ w.toBitVec.getLsbD i = true ∨ i = j := by
  rw [wb_c j hj, Int64.toBitVec_or, Int64.toBitVec_shiftLeft, BitVec.getLsbD_or]
  have e1 : ((1 : Int64).toBitVec <<< ((lN j).toBitVec.smod 64)).getLsbD i = decide (i = j) := by
    show ((1#64) <<< ((lN j).toBitVec.smod 64).toNat).getLsbD i = _
    rw [ty_sm j hj, BitVec.getLsbD_shiftLeft]
    by_cases z : i = j
    · subst z; simp [hi]
    · by_cases y : i < j
      · simp [y, z]
      · have h1 : ¬ (i - j = 0) := by omega
        simp [z, h1]
  rw [e1]
  simp
theorem ty_64 {c : Nat} (hc : c < 256) : nI c / 64 = nI (c / 64) ∧ nI c - nI c / 64 * 64 = nI (c % 64) := ⟨pk_div (d := 64) (by omega) (by omega) (by omega), pk_rem (d := 64) (by omega) (by omega) (by omega)⟩
theorem ty_i4 (a c : Nat) : 4 * nI a + nI c = nI (4 * a + c) := by
  show nI 4 * nI a + nI c = _
  rw [pk_mul, nI_add]
theorem ty_n64 : ¬ (64 : Int32) = 0 := by decide
theorem ty_in (fn fend fcnt : Int32) (yG yT yL : Nat → Int32) (yW : Nat → Int64) (yN : Nat → Int32) (yS : Nat → Int64) {post : Int32 → Prop} {a c : Nat} (ha : a < 256) (hc : c < 256) (hY : tm_t yS a c → post 1) (hN : ¬ tm_t yS a c → post 0) : wpY_in post (fn, fend, fcnt, yG, yT, yL, yW, yN, yS) (nI a) (nI c) := by
  unfold wpY_in
  show _ ∧ _ ∧ _ ∧ _
  rw [(ty_64 hc).2, (ty_64 hc).1, ty_i4, nI_clamp (by omega : 4 * a + c / 64 < 2 ^ 31)]
  refine ⟨ty_n64, vp_in_nI (by omega) (by omega), ty_n64, ?_⟩
  have B := ty_bt (w := yS (4 * a + c / 64)) (j := c % 64) (by omega)
  by_cases z : tm_t yS a c
  · exact br_t (B.mpr z) (hY z)
  · exact br_f (fun y => z (B.mp y)) (hN z)
theorem ty_put (fn fend fcnt : Int32) (yG yT yL : Nat → Int32) (yW : Nat → Int64) (yN : Nat → Int32) (yS : Nat → Int64) {post : Int32 → SY → Prop} {a c : Nat} (ha : a < 256) (hc : c < 256) (hY : tm_t yS a c → post 0 (fn, fend, fcnt, yG, yT, yL, yW, yN, yS))
    (hN : ¬ tm_t yS a c → ∀ yS', (∀ x, x < 256 → (tm_t yS' a x ↔ tm_t yS a x ∨ x = c)) → (∀ i, i < 4 * a ∨ 4 * a + 4 ≤ i → yS' i = yS i) → post 1 (fn, fend, fcnt, yG, yT, yL, yW, yN, yS')) : wpY_put post (fn, fend, fcnt, yG, yT, yL, yW, yN, yS) (nI a) (nI c) := by
  unfold wpY_put
  refine ty_in fn fend fcnt yG yT yL yW yN yS ha hc (fun z => br_f tx_10 (hY z)) (fun z => br_t rfl ?_)
  rw [(ty_64 hc).2, (ty_64 hc).1, ty_i4, nI_clamp (by omega : 4 * a + c / 64 < 2 ^ 31)]
  refine ⟨ty_n64, vp_in_nI (by omega) (by omega), ty_n64, vp_in_nI (by omega) (by omega), nm_e (hN z _ (fun x hx => ?_) (fun i hi => ?_))⟩
  · by_cases y : x / 64 = c / 64
    · unfold tm_t
      rw [y, pk_uLs, ty_or (by omega) (by omega)]
      refine ⟨fun w => ?_, fun w => ?_⟩
      · rcases w with w | w
        · exact Or.inl w
        · exact Or.inr (by omega)
      · rcases w with w | w
        · exact Or.inl w
        · exact Or.inr (by rw [w])
    · unfold tm_t
      rw [pk_uLn (by omega)]
      refine ⟨Or.inl, fun w => ?_⟩
      rcases w with w | w
      · exact w
      · exact absurd (by rw [w]) y
  · exact pk_uLn (by omega)
def tm_W0 (n e k : Nat) (G : Nat → Nat) (d a : Nat) (S0 : Nat → Int64) (x : Int32) (yS : Nat → Int64) : Prop :=
  (∀ y, y < e → tm_t yS a y → tm_R n k G d a y) ∧ (∀ y, y < e → tm_t S0 a y → tm_t yS a y) ∧ ((x = 0 ∧ yS = S0) ∨ (x = 1 ∧ ∃ y, y < e ∧ tm_t yS a y ∧ ¬ tm_t S0 a y)) ∧ (∀ i, i < 4 * a ∨ 4 * a + 4 ≤ i → yS i = S0 i)
def tm_W1 (n e k : Nat) (G : Nat → Nat) (d a c g : Nat) (S0 : Nat → Int64) (yS : Nat → Int64) : Prop :=
  ∀ c' g', (c' < c ∧ g' < k) ∨ (c' = c ∧ g' < g) → c' < e → tm_t S0 a c' → (d ≠ 1 → tm_t yS a (tm_m n c' (G g'))) ∧ (d ≠ 0 → tm_t yS a (tm_m n (G g') c'))
theorem ty_pc (fn fend fcnt : Int32) (yG yT yL : Nat → Int32) (yW : Nat → Int64) (yN : Nat → Int32) (yS : Nat → Int64) {post : Int32 → SY → Prop} {n e k d a t : Nat} {G : Nat → Nat} {S0 : Nat → Int64} {x : Int32} (h : tm_N n e) (ha : a < e) (ht : t < e) (hW : tm_W0 n e k G d a S0 x yS) (hR : tm_R n k G d a t)
    (h0 : tm_t yS a t → post 0 (nI n, nI e, nI k, yG, yT, yL, yW, yN, yS)) (h1 : ∀ yS', tm_W0 n e k G d a S0 1 yS' → (∀ y, y < e → tm_t yS a y → tm_t yS' a y) → tm_t yS' a t → post 1 (nI n, nI e, nI k, yG, yT, yL, yW, yN, yS')) : wpY_put post (nI n, nI e, nI k, yG, yT, yL, yW, yN, yS) (nI a) (nI t) := by
  have H := tm_Npos h
  refine ty_put (nI n) (nI e) (nI k) yG yT yL yW yN yS (by omega) (by omega) h0 (fun z yS' h2 h3 => h1 yS' ⟨fun y hy w => ?_, fun y hy w => ?_, Or.inr ⟨rfl, t, ht, ?_, fun w => z (hW.2.1 t ht w)⟩, fun i hi => ?_⟩ (fun y hy w => ?_) ?_)
  · rcases (h2 y (by omega)).mp w with v | v
    · exact hW.1 y hy v
    · rw [v]; exact hR
  · exact (h2 y (by omega)).mpr (Or.inl (hW.2.1 y hy w))
  · exact (h2 t (by omega)).mpr (Or.inr rfl)
  · rw [h3 i hi]; exact hW.2.2.2 i hi
  · exact (h2 y (by omega)).mpr (Or.inl w)
  · exact (h2 t (by omega)).mpr (Or.inr rfl)
theorem ty_103 (fn fend fcnt : Int32) (yG yT yL : Nat → Int32) (yW : Nat → Int64) (yN : Nat → Int32) (yS : Nat → Int64) {post : Int32 → SY → Prop} {J5 J25 : Int32 → Int32 → Int32 → Int32 → Int32 → (Nat → Int32) → (Nat → Int32) → (Nat → Int32) → (Nat → Int64) → (Nat → Int32) → (Nat → Int64) → Prop} {n e k d a g t : Nat} {G : Nat → Nat} {S0 : Nat → Int64} {x x4 : Int32} (h : tm_N n e) (hd : d ≤ 2) (ha : a < e) (ht : t < e) (hW : tm_W0 n e k G d a S0 x yS) (hR : d ≠ 0 → tm_R n k G d a t)
    (hJ : ∀ x' yS', tm_W0 n e k G d a S0 x' yS' → (∀ y, y < e → tm_t yS a y → tm_t yS' a y) → (d ≠ 0 → tm_t yS' a t) → J25 x' (nI (g + 1)) (nI n) (nI e) (nI k) yG yT yL yW yN yS') :
    wY_widen_103 post J5 J25 (nI a) (nI d) x x4 (nI g) (nI t) (nI n) (nI e) (nI k) yG yT yL yW yN yS := by
  unfold wY_widen_103
  refine pk_eq d 0 (fun z => nm_r (nI_1 g) (hJ x yS hW (fun _ _ y => y) (fun y => absurd z y))) (fun z => ?_)
  refine ty_pc fn fend fcnt yG yT yL yW yN yS h ha ht hW (hR z) (fun y => ?_) (fun yS' h1 h2 h3 => ?_)
  · exact br_t rfl (nm_r (nI_1 g) (hJ x yS hW (fun _ _ y => y) (fun _ => y)))
  · exact br_f tx_10 (nm_r (nI_1 g) (hJ 1 yS' h1 h2 (fun _ => h3)))
theorem ty_25 (fn fend fcnt : Int32) (yG yT yL : Nat → Int32) (yW : Nat → Int64) (yN : Nat → Int32) (yS : Nat → Int64) {post : Int32 → SY → Prop} {J5 : Int32 → Int32 → Int32 → Int32 → Int32 → (Nat → Int32) → (Nat → Int32) → (Nat → Int32) → (Nat → Int64) → (Nat → Int32) → (Nat → Int64) → Prop} {n e k d a c : Nat} {G : Nat → Nat} {S0 : Nat → Int64} (h : tm_N n e) (hk : k ≤ 4) (hd : d ≤ 2) (ha : a < e) (hc : c < e) (hX : tm_NX n e k G yN)
    (hJ : ∀ x yS, tm_W0 n e k G d a S0 x yS → tm_W1 n e k G d a (c + 1) 0 S0 yS → J5 x (nI (c + 1)) (nI n) (nI e) (nI k) yG yT yL yW yN yS) :
    ∀ t g, g + t = k → ∀ x yS, tm_W0 n e k G d a S0 x yS → tm_W1 n e k G d a c g S0 yS → wY_widen_25 post J5 (nI a) (nI d) (nI c) (t + 1) x (nI g) (nI n) (nI e) (nI k) yG yT yL yW yN yS := by
  have H := tm_Npos h
  intro t
  induction t with
  | zero =>
    intro g hg x yS hW h1
    obtain rfl : g = k := by omega
    exact br_t (nI_le (by omega) (by omega)) (nm_r (nI_1 c) (hJ x yS hW (fun c' g' hz hc' hs => h1 c' g' (by omega) hc' hs)))
  | succ t ih =>
    intro g hg x yS hW h1
    refine br_f (nI_ge (by omega) (by omega)) (br_f (nI_ge (b := 4) (by omega) (by decide)) (ty_in (nI n) (nI e) (nI k) yG yT yL yW yN yS (by omega) (by omega) (fun z => br_f tx_10 ?_) (fun z => br_t rfl (nm_r (nI_1 c) (hJ x yS hW (fun c' g' hz hc' hs => ?_))))))
    · have hR := hW.1 c hc z
      have m1 := tm_lt h c (G g)
      have m2 := tm_lt h (G g) c
      refine ⟨by rw [ty_i1]; exact vp_in_nI (by omega) (by omega), nm_r (e' := nI (tm_m n c (G g))) ?_ ⟨by rw [ty_i2]; exact vp_in_nI (by omega) (by omega), nm_r (e' := nI (tm_m n (G g) c)) ?_ ?_⟩⟩
      · rw [ty_i1, nI_clamp (by omega)]; exact (hX g c (by omega) hc).1
      · rw [ty_i2, nI_clamp (by omega)]; exact (hX g c (by omega) hc).2
      have F : ∀ x yS1, tm_W0 n e k G d a S0 x yS1 → (∀ y, y < e → tm_t yS a y → tm_t yS1 a y) → (d ≠ 1 → tm_t yS1 a (tm_m n c (G g))) → wY_widen_103 post J5 (wY_widen_25 post J5 (nI a) (nI d) (nI c) (t + 1)) (nI a) (nI d) x (nI c) (nI g) (nI (tm_m n (G g) c)) (nI n) (nI e) (nI k) yG yT yL yW yN yS1 := by
        intro x yS1 hW1 hm hr
        refine ty_103 fn fend fcnt yG yT yL yW yN yS1 (G := G) h hd ha m2 hW1 (fun y => tm_Rs hR ⟨g, by omega, Or.inr ⟨y, rfl⟩⟩) (fun x' yS' h2 h3 h4 => ?_)
        refine ih (g + 1) (by omega) x' yS' h2 (fun c' g' hz hc' hs => ?_)
        by_cases y : c' = c ∧ g' = g
        · obtain ⟨rfl, rfl⟩ := y
          exact ⟨fun y => h3 _ m1 (hr y), h4⟩
        · have := h1 c' g' (by omega) hc' hs
          exact ⟨fun y => h3 _ (tm_lt h _ _) (hm _ (tm_lt h _ _) (this.1 y)), fun y => h3 _ (tm_lt h _ _) (hm _ (tm_lt h _ _) (this.2 y))⟩
      refine pk_eq d 1 (fun y => F x yS hW (fun _ _ v => v) (fun v => absurd y v)) (fun y => ?_)
      refine ty_pc fn fend fcnt yG yT yL yW yN yS h ha m1 hW (tm_Rs hR ⟨g, by omega, Or.inl ⟨y, rfl⟩⟩) (fun v => ?_) (fun yS' h2 h3 h4 => ?_)
      · exact br_t rfl (F x yS hW (fun _ _ v => v) (fun _ => v))
      · exact br_f tx_10 (F 1 yS' h2 h3 (fun _ => h4))
    · by_cases y : c' < c
      · exact h1 c' g' (by omega) hc' hs
      · obtain rfl : c' = c := by omega
        exact absurd (hW.2.1 c' hc' hs) z
theorem ty_5 (fn fend fcnt : Int32) (yG yT yL : Nat → Int32) (yW : Nat → Int64) (yN : Nat → Int32) (yS : Nat → Int64) {post : Int32 → SY → Prop} {n e k d a : Nat} {G : Nat → Nat} {S0 : Nat → Int64} (h : tm_N n e) (hk : k ≤ 4) (hd : d ≤ 2) (ha : a < e) (hX : tm_NX n e k G yN)
    (hp : ∀ x yS, tm_W0 n e k G d a S0 x yS → tm_W1 n e k G d a e 0 S0 yS → post x (nI n, nI e, nI k, yG, yT, yL, yW, yN, yS)) :
    ∀ t c, c + t = e → ∀ x yS, tm_W0 n e k G d a S0 x yS → tm_W1 n e k G d a c 0 S0 yS → wY_widen_5 post (nI a) (nI d) (t + 1) x (nI c) (nI n) (nI e) (nI k) yG yT yL yW yN yS := by
  have H := tm_Npos h
  intro t
  induction t with
  | zero =>
    intro c hc x yS hW h1
    obtain rfl : c = e := by omega
    exact br_t (nI_le (by omega) (by omega)) ⟨ty_nb (by
      rcases hW.2.2.1 with y | y
      · exact Or.inl y.1
      · exact Or.inr y.1), hp x yS hW h1⟩
  | succ t ih =>
    intro c hc x yS hW h1
    refine br_f (nI_ge (by omega) (by omega)) (br_f (nI_ge (b := 256) (by omega) (by decide)) ⟨k + 1, ?_⟩)
    exact ty_25 fn fend fcnt yG yT yL yW yN yS h hk hd ha (by omega) hX (fun x yS hW h1 => ih (c + 1) (by omega) x yS hW h1) k 0 (by omega) x yS hW h1
theorem ty_widen (fn fend fcnt : Int32) (yG yT yL : Nat → Int32) (yW : Nat → Int64) (yN : Nat → Int32) (yS : Nat → Int64) {post : Int32 → SY → Prop} {n e k d a : Nat} {G : Nat → Nat} (h : tm_N n e) (hk : k ≤ 4) (hd : d ≤ 2) (ha : a < e) (hX : tm_NX n e k G yN) (hs : ∀ y, y < e → tm_t yS a y → tm_R n k G d a y)
    (hp : ∀ x yS', tm_W0 n e k G d a yS x yS' → tm_W1 n e k G d a e 0 yS yS' → post x (nI n, nI e, nI k, yG, yT, yL, yW, yN, yS')) : wpY_widen post (nI n, nI e, nI k, yG, yT, yL, yW, yN, yS) (nI a) (nI d) :=
  ⟨e + 1, ty_5 fn fend fcnt yG yT yL yW yN yS h hk hd ha hX hp e 0 (by omega) 0 yS ⟨hs, fun _ _ y => y, Or.inl ⟨rfl, rfl⟩, fun _ _ => rfl⟩ (fun c' g' hz => by omega)⟩
def tm_cl (n e k : Nat) (G : Nat → Nat) (d a : Nat) (yS : Nat → Int64) : Prop := ∀ c g, c < e → g < k → tm_t yS a c → (d ≠ 1 → tm_t yS a (tm_m n c (G g))) ∧ (d ≠ 0 → tm_t yS a (tm_m n (G g) c))
theorem tm_clR {n e k d a : Nat} {G : Nat → Nat} {yS : Nat → Int64} (h : tm_N n e) (ha : a < e) (hc : tm_cl n e k G d a yS) (h0 : tm_t yS a a) {c : Nat} (hr : tm_R n k G d a c) : tm_t yS a c :=
  (tm_Rmin (fun c => c < e ∧ tm_t yS a c) ⟨ha, h0⟩ (fun b c hb hs => by
    obtain ⟨g, hg, z | z⟩ := hs
    · rw [z.2]; exact ⟨tm_lt h _ _, (hc b g hb.1 hg hb.2).1 z.1⟩
    · rw [z.2]; exact ⟨tm_lt h _ _, (hc b g hb.1 hg hb.2).2 z.1⟩) hr).2
theorem ty_f36 (fn fend fcnt : Int32) (yG yT yL : Nat → Int32) (yW : Nat → Int64) (yN : Nat → Int32) (yS : Nat → Int64) {post : SY → Prop} {n e k d a : Nat} {G : Nat → Nat} {S0 : Nat → Int64} (h : tm_N n e) (hk : k ≤ 4) (hd : d ≤ 2) (ha : a < e) (hX : tm_NX n e k G yN)
    (hp : ∀ yS', (∀ c, c < e → (tm_t yS' a c ↔ tm_R n k G d a c)) → (∀ i, i < 4 * a ∨ 4 * a + 4 ≤ i → yS' i = S0 i) → post (nI n, nI e, nI k, yG, yT, yL, yW, yN, yS')) :
    ∀ t r, r + t = 300 → ∀ x yS, (∀ y, y < e → tm_t yS a y → tm_R n k G d a y) → tm_t yS a a → (∀ i, i < 4 * a ∨ 4 * a + 4 ≤ i → yS i = S0 i) → ((x = 0 ∧ tm_cl n e k G d a yS) ∨ (x ≠ 0 ∧ r + 1 ≤ tm_c (tm_t yS a) e)) → wY_fill_36 post (nI a) (nI d) (t + 1) x (nI r) (nI n) (nI e) (nI k) yG yT yL yW yN yS := by
  have H := tm_Npos h
  intro t
  induction t with
  | zero =>
    intro r hr x yS h1 h2 h3 h4
    rcases h4 with ⟨_, h4⟩ | ⟨_, h4⟩
    · exact br_t (nI_le (a := 300) (by omega) (by omega)) (hp yS (fun c hc => ⟨h1 c hc, fun z => tm_clR h ha h4 h2 z⟩) h3)
    · have := tm_cle (tm_t yS a) e
      omega
  | succ t ih =>
    intro r hr x yS h1 h2 h3 h4
    refine br_f (nI_ge (b := 300) (by omega) (by decide)) ?_
    rcases h4 with ⟨z, h4⟩ | ⟨z, h4⟩
    · exact br_t z (hp yS (fun c hc => ⟨h1 c hc, fun z => tm_clR h ha h4 h2 z⟩) h3)
    · refine br_f z (ty_widen fn fend fcnt yG yT yL yW yN yS h hk hd ha hX h1 (fun x' yS' hW hw => nm_r (nI_1 r) (ih (r + 1) (by omega) x' yS' hW.1 (hW.2.1 a ha h2) (fun i hi => by rw [hW.2.2.2 i hi, h3 i hi]) ?_)))
      rcases hW.2.2.1 with ⟨y, y'⟩ | ⟨y, v, v1, v2, v3⟩
      · refine Or.inl ⟨y, fun c g hc hg hs => ?_⟩
        subst y'
        exact hw c g (Or.inl ⟨hc, hg⟩) hc hs
      · refine Or.inr ⟨by rw [y]; exact tx_10, ?_⟩
        have := tm_cstrict (P := tm_t yS a) (Q := tm_t yS' a) (e := e) hW.2.1 v1 v2 v3
        omega
theorem ty_f2 (fn fend fcnt : Int32) (yG yT yL : Nat → Int32) (yW : Nat → Int64) (yN : Nat → Int32) (yS : Nat → Int64) {post : SY → Prop} {n e k d a : Nat} {G : Nat → Nat} {S0 : Nat → Int64} (h : tm_N n e) (hk : k ≤ 4) (hd : d ≤ 2) (ha : a < e) (hX : tm_NX n e k G yN)
    (hp : ∀ yS', (∀ c, c < e → (tm_t yS' a c ↔ tm_R n k G d a c)) → (∀ i, i < 4 * a ∨ 4 * a + 4 ≤ i → yS' i = S0 i) → post (nI n, nI e, nI k, yG, yT, yL, yW, yN, yS')) :
    ∀ t w, w + t = 4 → ∀ yS, (∀ i, i < w → yS (4 * a + i) = 0) → (∀ i, i < 4 * a ∨ 4 * a + 4 ≤ i → yS i = S0 i) → wY_fill_2 post (nI a) (nI d) (nI n) (nI e) (nI k) (t + 1) (nI w) yG yT yL yW yN yS := by
  have H := tm_Npos h
  intro t
  induction t with
  | zero =>
    intro w hw yS h1 h2
    have Z : ∀ c, c < 256 → ¬ tm_t yS a c := by
      intro c hc z
      unfold tm_t at z
      rw [h1 (c / 64) (by omega)] at z
      have : ((0 : Int64).toBitVec.getLsbD (c % 64)) = false := BitVec.getLsbD_zero
      rw [this] at z
      exact Bool.false_ne_true z
    refine br_t (nI_le (a := 4) (by omega) (by omega)) (ty_put (nI n) (nI e) (nI k) yG yT yL yW yN yS (by omega) (by omega) (fun z => absurd z (Z a (by omega))) (fun _ yS' h3 h4 => ⟨300 + 1, ?_⟩))
    refine ty_f36 fn fend fcnt yG yT yL yW yN yS h hk hd ha hX hp 300 0 (by omega) 1 yS' (fun y hy v => ?_) ((h3 a (by omega)).mpr (Or.inr rfl)) (fun i hi => by rw [h4 i hi, h2 i hi]) (Or.inr ⟨tx_10, ?_⟩)
    · rcases (h3 y (by omega)).mp v with u | u
      · exact absurd u (Z y (by omega))
      · rw [u]; exact tm_Rr
    · have := tm_cstrict (P := fun _ => False) (Q := tm_t yS' a) (e := e) (c := a) (fun _ _ z => z.elim) ha ((h3 a (by omega)).mpr (Or.inr rfl)) (fun z => z)
      omega
  | succ t ih =>
    intro w hw yS h1 h2
    refine br_f (nI_ge (b := 4) (by omega) (by decide)) ⟨by rw [ty_i4]; exact vp_in_nI (by omega) (by omega), nm_e (nm_r (nI_1 w) (ih (w + 1) (by omega) _ (fun i hi => ?_) (fun i hi => ?_)))⟩
    · rw [ty_i4, nI_clamp (by omega)]
      by_cases z : i = w
      · subst z; exact pk_uLs
      · rw [pk_uLn (by omega)]; exact h1 i (by omega)
    · rw [ty_i4, nI_clamp (by omega), pk_uLn (by omega)]
      exact h2 i hi
theorem ty_fill (fn fend fcnt : Int32) (yG yT yL : Nat → Int32) (yW : Nat → Int64) (yN : Nat → Int32) (yS : Nat → Int64) {post : SY → Prop} {n e k d a : Nat} {G : Nat → Nat} (h : tm_N n e) (hk : k ≤ 4) (hd : d ≤ 2) (ha : a < e) (hX : tm_NX n e k G yN)
    (hp : ∀ yS', (∀ c, c < e → (tm_t yS' a c ↔ tm_R n k G d a c)) → (∀ i, i < 4 * a ∨ 4 * a + 4 ≤ i → yS' i = yS i) → post (nI n, nI e, nI k, yG, yT, yL, yW, yN, yS')) : wpY_fill post (nI n, nI e, nI k, yG, yT, yL, yW, yN, yS) (nI a) (nI d) :=
  ⟨4 + 1, ty_f2 fn fend fcnt yG yT yL yW yN yS (S0 := yS) h hk hd ha hX hp 4 0 (by omega) yS (fun i hi => by omega) (fun _ _ => rfl)⟩
theorem ty_me4 (fn fend fcnt : Int32) (yG yT yL : Nat → Int32) (yW : Nat → Int64) (yN : Nat → Int32) (yS : Nat → Int64) {post : Int32 → Prop} {n e k a : Nat} (h : tm_N n e) (ha : a < e) (hp : post (nI (tm_c (tm_t yS a) e))) : ∀ t c, c + t = e → wY_members_4 post (nI a) (nI n) (nI e) (nI k) yG yT yL yW yN yS (t + 1) (nI (tm_c (tm_t yS a) c)) (nI c) := by
  have H := tm_Npos h
  intro t
  induction t with
  | zero =>
    intro c hc
    obtain rfl : c = e := by omega
    exact br_t (nI_le (by omega) (by omega)) hp
  | succ t ih =>
    intro c hc
    have T := ih (c + 1) (by omega)
    refine br_f (nI_ge (by omega) (by omega)) (ty_in (nI n) (nI e) (nI k) yG yT yL yW yN yS (by omega) (by omega) (fun z => br_f tx_10 ?_) (fun z => br_t rfl ?_))
    · rw [tm_ct z] at T
      exact nm_r (nI_1 _) (nm_r (nI_1 c) T)
    · rw [tm_cf z] at T
      exact nm_r (nI_1 c) T
theorem ty_mem (fn fend fcnt : Int32) (yG yT yL : Nat → Int32) (yW : Nat → Int64) (yN : Nat → Int32) (yS : Nat → Int64) {post : Int32 → Prop} {n e k d a : Nat} {G : Nat → Nat} (h : tm_N n e) (ha : a < e) (hS : ∀ c, c < e → (tm_t yS a c ↔ tm_R n k G d a c)) (hp : post (nI (tm_Z n e k G d a))) : wpY_members post (nI n, nI e, nI k, yG, yT, yL, yW, yN, yS) (nI a) :=
  ⟨e + 1, ty_me4 fn fend fcnt yG yT yL yW yN yS h ha (by rw [tm_ccong e hS]; exact hp) e 0 (by omega)⟩
