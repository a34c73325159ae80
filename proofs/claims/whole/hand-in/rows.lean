section
theorem pk_us {f : Nat → Int32} {k : Nat} {x : Int32} : upd f k x k = x := if_pos rfl
theorem pk_un {f : Nat → Int32} {k j : Nat} {x : Int32} (h : j ≠ k) : upd f k x j = f j := if_neg h
theorem pk_uLs {f : Nat → Int64} {k : Nat} {x : Int64} : vp_updL f k x k = x := if_pos rfl
theorem pk_uLn {f : Nat → Int64} {k j : Nat} {x : Int64} (h : j ≠ k) : vp_updL f k x j = f j := if_neg h
theorem pk_sub {a b : Nat} (h : b ≤ a) : nI a - nI b = nI (a - b) := by
  obtain ⟨c, rfl⟩ : ∃ c, a = c + b := ⟨a - b, by omega⟩
  rw [← nI_add, Int32.add_sub_cancel, Nat.add_sub_cancel]
theorem pk_m1 (n : Nat) : nI (n + 1) + (-1) = nI n := by
  rw [← nI_1, Int32.add_assoc, show (1 : Int32) + (-1) = 0 from rfl, Int32.add_zero]
theorem pk_mul (a b : Nat) : nI a * nI b = nI (a * b) := (Int32.ofNat_mul a b).symm
theorem pk_div {a d : Nat} (ha : a < 2 ^ 31) (h0 : 0 < d) (hd : d < 2 ^ 31) : nI a / nI d = nI (a / d) := by
  apply Int32.toInt_inj.mp
  rw [lg_idiv_nonneg (by rw [nI_toInt ha]; omega) (by rw [nI_toInt hd]; omega), nI_toInt ha, nI_toInt hd, nI_toInt (Nat.lt_of_le_of_lt (Nat.div_le_self a d) ha)]
  first | rfl | exact (Int.natCast_ediv _ _).symm
theorem pk_rem {a d : Nat} (ha : a < 2 ^ 31) (h0 : 0 < d) (hd : d < 2 ^ 31) : nI a - nI a / nI d * nI d = nI (a % d) := by
  rw [pk_div ha h0 hd, pk_mul, pk_sub (Nat.div_mul_le_self a d)]
  exact congrArg nI (by have := Nat.div_add_mod' a d; omega)
theorem pk_ix (x : Int32) {n : Nat} (hn : n < 2 ^ 31) : x < 0 ∨ nI n ≤ x ∨ ∃ j : Nat, j < n ∧ x = nI j := by
  by_cases h : x < 0
  · exact Or.inl h
  · obtain ⟨j, hj, rfl⟩ := nI_of h
    by_cases h2 : j < n
    · exact Or.inr (Or.inr ⟨j, h2, rfl⟩)
    · exact Or.inr (Or.inl (nI_le (by omega) hj))
theorem pk_le {x y : Int32} {A B : Prop} (a b : Nat) (f : a ≤ b → A) (g : b < a → B) (hx : x = nI a := by rfl) (hy : y = nI b := by rfl) (ha : a < 2 ^ 31 := by omega) (hb : b < 2 ^ 31 := by omega) : (x ≤ y → A) ∧ (¬ x ≤ y → B) := by
  subst hx hy
  rw [nI_leI ha hb]
  exact ⟨f, fun z => g (by omega)⟩
theorem pk_lt {x y : Int32} {A B : Prop} (a b : Nat) (f : a < b → A) (g : b ≤ a → B) (hx : x = nI a := by rfl) (hy : y = nI b := by rfl) (ha : a < 2 ^ 31 := by omega) (hb : b < 2 ^ 31 := by omega) : (x < y → A) ∧ (¬ x < y → B) := by
  subst hx hy
  rw [nI_ltI ha hb]
  exact ⟨f, fun z => g (by omega)⟩
theorem pk_eq {x y : Int32} {A B : Prop} (a b : Nat) (f : a = b → A) (g : a ≠ b → B) (hx : x = nI a := by rfl) (hy : y = nI b := by rfl) (ha : a < 2 ^ 31 := by omega) (hb : b < 2 ^ 31 := by omega) : (x = y → A) ∧ (¬ x = y → B) := by
  subst hx hy
  rw [nI_eq ha hb]
  exact ⟨f, g⟩
theorem pk_in {x : Int32} (n N : Nat) (h : n < N) (hx : x = nI n := by rfl) (hN : N < 2 ^ 31 := by omega) : vp_in x N := by
  subst hx
  exact vp_in_nI h hN
theorem pk_cl {x : Int32} (n : Nat) (hx : x = nI n := by rfl) (h : n < 2 ^ 31 := by omega) : x.toNatClampNeg = n := by
  subst hx
  exact nI_clamp h
theorem pk_tn {n : Nat} (h : n < 2 ^ 32) : (nI n).toBitVec.toNat = n := Nat.mod_eq_of_lt h
theorem pk_and (x : Int32) {m : Int32} (k : Nat) (hm : m.toBitVec.toNat = 2 ^ k - 1) : x &&& m = nI (x.toBitVec.toNat % 2 ^ k) := by
  apply Int32.toBitVec_inj.mp
  apply BitVec.eq_of_toNat_eq
  rw [Int32.toBitVec_and, BitVec.toNat_and, hm, Nat.and_two_pow_sub_one_eq_mod]
  show _ = (BitVec.ofNat 32 _).toNat
  rw [BitVec.toNat_ofNat]
  exact (Nat.mod_eq_of_lt (Nat.lt_of_le_of_lt (Nat.mod_le _ _) x.toBitVec.isLt)).symm
theorem pk_andN {n : Nat} (h : n < 2 ^ 32) {m : Int32} (k : Nat) (hm : m.toBitVec.toNat = 2 ^ k - 1) : nI n &&& m = nI (n % 2 ^ k) := by
  rw [pk_and _ k hm, pk_tn h]
theorem pk_lT {n : Nat} (h : n < 2 ^ 63) : (lN n).toInt = (n : Int) := lg_ofNat_toInt h
theorem pk_lLT {a b : Nat} (ha : a < 2 ^ 63) (hb : b < 2 ^ 63) : lN a < lN b ↔ a < b := by
  rw [Int64.lt_iff_toInt_lt, pk_lT ha, pk_lT hb]; omega
theorem pk_lLE {a b : Nat} (ha : a < 2 ^ 63) (hb : b < 2 ^ 63) : lN a ≤ lN b ↔ a ≤ b := by
  rw [Int64.le_iff_toInt_le, pk_lT ha, pk_lT hb]; omega
theorem pk_lEQ {a b : Nat} (ha : a < 2 ^ 63) (hb : b < 2 ^ 63) : lN a = lN b ↔ a = b := by
  rw [← Int64.toInt_inj, pk_lT ha, pk_lT hb]; omega
theorem pk_loop {σ : Type} (W : Nat → Nat → σ → Prop) (I : Nat → σ → Prop) (e i0 : Nat) (s : σ) (hi : i0 ≤ e) (h0 : I i0 s) (hx : ∀ n s, I e s → W (n + 1) e s)
    (hs : ∀ n i s, i < e → I i s → (∀ s', I (i + 1) s' → W n (i + 1) s') → W (n + 1) i s) : ∃ n, W n i0 s :=
  ⟨e + 1, loop_i W I e hx hs (e + 1) i0 s hi (by omega) h0⟩
theorem pk_least (P : Nat → Prop) (h : ∃ k, P k) : ∃ k, P k ∧ ∀ j, j < k → ¬ P j := by
  obtain ⟨k, hk⟩ := h
  induction k using Nat.strongRecOn with
  | ind k ih =>
    by_cases e : ∃ j, j < k ∧ P j
    · obtain ⟨j, hj, pj⟩ := e
      exact ih j hj pj
    · exact ⟨k, hk, fun j hj pj => e ⟨j, hj, pj⟩⟩
theorem wb_tb (n : Nat) : (lN n).toBitVec = BitVec.ofNat 64 n := rfl
theorem wb_inj {a b : Int64} (h : a.toBitVec = b.toBitVec) : a = b := Int64.toBitVec_inj.mp h
theorem wb_tn {n : Nat} (h : n < 2 ^ 64) : (lN n).toBitVec.toNat = n := by rw [wb_tb, BitVec.toNat_ofNat, Nat.mod_eq_of_lt h]
theorem wb_c : ∀ k, k < 64 → ((nI k).toInt64 &&& 63) = lN k := by decide +kernel
theorem wb_sm : ∀ k, k < 64 → (BitVec.ofNat 64 k).smod 64 = BitVec.ofNat 64 k := by decide +kernel
theorem pf_lI {a : Nat} (h : a < 2 ^ 63) : (lN a).toInt = (a : Int) := lg_ofNat_toInt h
theorem pf_shr {a d : Nat} {D : Int64} (hD : (D.toBitVec.smod 64).toNat = d) (h : a < 2 ^ 62) : lN a >>> D = lN (a / 2 ^ d) := by
  have hd : a / 2 ^ d ≤ a := Nat.div_le_self _ _
  apply Int64.toInt_inj.mp
  have e : (lN a >>> D).toInt = (lN a).toInt >>> d := by
    rw [← hD]
    exact BitVec.toInt_sshiftRight ..
  rw [e, Int.shiftRight_eq_div_pow, pf_lI (by omega), pf_lI (by omega)]
  rfl
theorem nx_and (a b : Nat) : nI a &&& nI b = nI (a &&& b) := by
  apply Int32.toBitVec_inj.1
  show BitVec.ofNat 32 a &&& BitVec.ofNat 32 b = BitVec.ofNat 32 (a &&& b)
  apply BitVec.eq_of_getLsbD_eq
  intro i hi
  simp [hi]
end
section
/-! maps of n points as codes below e; counting; words -/
def tm_N (n e : Nat) : Prop := (n = 2 ∧ e = 4) ∨ (n = 3 ∧ e = 27) ∨ (n = 4 ∧ e = 256)
def tm_im (n f p : Nat) : Nat := f / n ^ (n - 1 - p) % n
def tm_mk (n f g : Nat) : Nat → Nat
  | 0 => 0
  | p + 1 => tm_mk n f g p * n + tm_im n g (tm_im n f p)
def tm_m (n f g : Nat) : Nat := tm_mk n f g n
def tm_u (n : Nat) : Nat := if n = 2 then 1 else if n = 3 then 5 else 27
theorem tm_Npos {n e : Nat} (h : tm_N n e) : 2 ≤ n ∧ n ≤ 4 ∧ 4 ≤ e ∧ e ≤ 256 ∧ n ≤ e := by
  rcases h with ⟨h, h'⟩ | ⟨h, h'⟩ | ⟨h, h'⟩ <;> omega
theorem tm_imlt {n e : Nat} (h : tm_N n e) (f p : Nat) : tm_im n f p < n := Nat.mod_lt _ (by have := tm_Npos h; omega)
theorem tm_d2 (a b : Nat) (ha : a < 2) (hb : b < 2) : tm_im 2 ((0 * 2 + a) * 2 + b) 0 = a ∧ tm_im 2 ((0 * 2 + a) * 2 + b) 1 = b := by
  refine ⟨?_, ?_⟩
  · show ((0 * 2 + a) * 2 + b) / 2 % 2 = a
    omega
  · show ((0 * 2 + a) * 2 + b) / 1 % 2 = b
    omega
theorem tm_d3 (a b c : Nat) (ha : a < 3) (hb : b < 3) (hc : c < 3) : tm_im 3 (((0 * 3 + a) * 3 + b) * 3 + c) 0 = a ∧ tm_im 3 (((0 * 3 + a) * 3 + b) * 3 + c) 1 = b ∧ tm_im 3 (((0 * 3 + a) * 3 + b) * 3 + c) 2 = c := by
  refine ⟨?_, ?_, ?_⟩
  · show (((0 * 3 + a) * 3 + b) * 3 + c) / 9 % 3 = a
    omega
  · show (((0 * 3 + a) * 3 + b) * 3 + c) / 3 % 3 = b
    omega
  · show (((0 * 3 + a) * 3 + b) * 3 + c) / 1 % 3 = c
    omega
theorem tm_d4 (a b c d : Nat) (ha : a < 4) (hb : b < 4) (hc : c < 4) (hd : d < 4) : tm_im 4 ((((0 * 4 + a) * 4 + b) * 4 + c) * 4 + d) 0 = a ∧ tm_im 4 ((((0 * 4 + a) * 4 + b) * 4 + c) * 4 + d) 1 = b ∧ tm_im 4 ((((0 * 4 + a) * 4 + b) * 4 + c) * 4 + d) 2 = c ∧ tm_im 4 ((((0 * 4 + a) * 4 + b) * 4 + c) * 4 + d) 3 = d := by
  refine ⟨?_, ?_, ?_, ?_⟩
  · show ((((0 * 4 + a) * 4 + b) * 4 + c) * 4 + d) / 64 % 4 = a
    omega
  · show ((((0 * 4 + a) * 4 + b) * 4 + c) * 4 + d) / 16 % 4 = b
    omega
  · show ((((0 * 4 + a) * 4 + b) * 4 + c) * 4 + d) / 4 % 4 = c
    omega
  · show ((((0 * 4 + a) * 4 + b) * 4 + c) * 4 + d) / 1 % 4 = d
    omega
theorem tm_dig {n e : Nat} (h : tm_N n e) (f g : Nat) {p : Nat} (hp : p < n) : tm_im n (tm_m n f g) p = tm_im n g (tm_im n f p) := by
  have L : ∀ q, tm_im n g q < n := tm_imlt h g
  rcases h with ⟨h, h'⟩ | ⟨h, h'⟩ | ⟨h, h'⟩
  · subst h
    have := tm_d2 _ _ (L (tm_im 2 f 0)) (L (tm_im 2 f 1))
    match p, hp with
    | 0, _ => exact this.1
    | 1, _ => exact this.2
  · subst h
    have := tm_d3 _ _ _ (L (tm_im 3 f 0)) (L (tm_im 3 f 1)) (L (tm_im 3 f 2))
    match p, hp with
    | 0, _ => exact this.1
    | 1, _ => exact this.2.1
    | 2, _ => exact this.2.2
  · subst h
    have := tm_d4 _ _ _ _ (L (tm_im 4 f 0)) (L (tm_im 4 f 1)) (L (tm_im 4 f 2)) (L (tm_im 4 f 3))
    match p, hp with
    | 0, _ => exact this.1
    | 1, _ => exact this.2.1
    | 2, _ => exact this.2.2.1
    | 3, _ => exact this.2.2.2
theorem tm_lt {n e : Nat} (h : tm_N n e) (f g : Nat) : tm_m n f g < e := by
  have L : ∀ q, tm_im n g q < n := tm_imlt h g
  rcases h with ⟨h, h'⟩ | ⟨h, h'⟩ | ⟨h, h'⟩
  · subst h h'
    have h0 := L (tm_im 2 f 0)
    have h1 := L (tm_im 2 f 1)
    show (0 * 2 + tm_im 2 g (tm_im 2 f 0)) * 2 + tm_im 2 g (tm_im 2 f 1) < 4
    omega
  · subst h h'
    have h0 := L (tm_im 3 f 0)
    have h1 := L (tm_im 3 f 1)
    have h2 := L (tm_im 3 f 2)
    show ((0 * 3 + tm_im 3 g (tm_im 3 f 0)) * 3 + tm_im 3 g (tm_im 3 f 1)) * 3 + tm_im 3 g (tm_im 3 f 2) < 27
    omega
  · subst h h'
    have h0 := L (tm_im 4 f 0)
    have h1 := L (tm_im 4 f 1)
    have h2 := L (tm_im 4 f 2)
    have h3 := L (tm_im 4 f 3)
    show (((0 * 4 + tm_im 4 g (tm_im 4 f 0)) * 4 + tm_im 4 g (tm_im 4 f 1)) * 4 + tm_im 4 g (tm_im 4 f 2)) * 4 + tm_im 4 g (tm_im 4 f 3) < 256
    omega
theorem tm_ext {n e : Nat} (h : tm_N n e) {f g : Nat} (hf : f < e) (hg : g < e) (he : ∀ p, p < n → tm_im n f p = tm_im n g p) : f = g := by
  rcases h with ⟨h, h'⟩ | ⟨h, h'⟩ | ⟨h, h'⟩
  · subst h h'
    have e0 : f / 2 % 2 = g / 2 % 2 := he 0 (by omega)
    have e1 : f / 1 % 2 = g / 1 % 2 := he 1 (by omega)
    omega
  · subst h h'
    have e0 : f / 9 % 3 = g / 9 % 3 := he 0 (by omega)
    have e1 : f / 3 % 3 = g / 3 % 3 := he 1 (by omega)
    have e2 : f / 1 % 3 = g / 1 % 3 := he 2 (by omega)
    omega
  · subst h h'
    have e0 : f / 64 % 4 = g / 64 % 4 := he 0 (by omega)
    have e1 : f / 16 % 4 = g / 16 % 4 := he 1 (by omega)
    have e2 : f / 4 % 4 = g / 4 % 4 := he 2 (by omega)
    have e3 : f / 1 % 4 = g / 1 % 4 := he 3 (by omega)
    omega
theorem tm_as {n e : Nat} (h : tm_N n e) (f g k : Nat) : tm_m n (tm_m n f g) k = tm_m n f (tm_m n g k) :=
  tm_ext h (tm_lt h _ _) (tm_lt h _ _) fun p hp => by
    rw [tm_dig h _ _ hp, tm_dig h _ _ hp, tm_dig h _ _ hp, tm_dig h _ _ (tm_imlt h f p)]
theorem tm_ult {n e : Nat} (h : tm_N n e) : tm_u n < e := by
  rcases h with ⟨h, h'⟩ | ⟨h, h'⟩ | ⟨h, h'⟩ <;> subst h h' <;> decide
theorem tm_uim {n e : Nat} (h : tm_N n e) : ∀ p, p < n → tm_im n (tm_u n) p = p := by
  rcases h with ⟨h, h'⟩ | ⟨h, h'⟩ | ⟨h, h'⟩ <;> subst h h' <;> decide
theorem tm_ul {n e : Nat} (h : tm_N n e) {f : Nat} (hf : f < e) : tm_m n (tm_u n) f = f :=
  tm_ext h (tm_lt h _ _) hf fun p hp => by rw [tm_dig h _ _ hp, tm_uim h p hp]
theorem tm_ur {n e : Nat} (h : tm_N n e) {f : Nat} (hf : f < e) : tm_m n f (tm_u n) = f :=
  tm_ext h (tm_lt h _ _) hf fun p hp => by rw [tm_dig h _ _ hp, tm_uim h _ (tm_imlt h f p)]
noncomputable def tm_b (P : Prop) : Bool := @decide P (Classical.propDecidable P)
theorem tm_bt {P : Prop} (h : P) : tm_b P = true := by
  unfold tm_b
  exact @decide_eq_true P (Classical.propDecidable P) h
theorem tm_bf {P : Prop} (h : ¬ P) : tm_b P = false := by
  unfold tm_b
  exact @decide_eq_false P (Classical.propDecidable P) h
noncomputable def tm_c (P : Nat → Prop) : Nat → Nat
  | 0 => 0
  | e + 1 => tm_c P e + (if tm_b (P e) = true then 1 else 0)
theorem tm_ct {P : Nat → Prop} {e : Nat} (h : P e) : tm_c P (e + 1) = tm_c P e + 1 := by
  show tm_c P e + _ = _
  rw [tm_bt h, if_pos rfl]
theorem tm_cf {P : Nat → Prop} {e : Nat} (h : ¬ P e) : tm_c P (e + 1) = tm_c P e := by
  show tm_c P e + _ = _
  rw [tm_bf h, if_neg (by decide), Nat.add_zero]
theorem tm_cle (P : Nat → Prop) : ∀ e, tm_c P e ≤ e := by
  intro e
  induction e with
  | zero => exact Nat.le_refl 0
  | succ e ih =>
    by_cases h : P e
    · rw [tm_ct h]; omega
    · rw [tm_cf h]; omega
theorem tm_ccong {P Q : Nat → Prop} : ∀ e, (∀ c, c < e → (P c ↔ Q c)) → tm_c P e = tm_c Q e := by
  intro e
  induction e with
  | zero => intro _; rfl
  | succ e ih =>
    intro h
    have := ih fun c hc => h c (by omega)
    by_cases hP : P e
    · rw [tm_ct hP, tm_ct ((h e (by omega)).mp hP), this]
    · rw [tm_cf hP, tm_cf (fun z => hP ((h e (by omega)).mpr z)), this]
theorem tm_cmono {P Q : Nat → Prop} : ∀ e, (∀ c, c < e → P c → Q c) → tm_c P e ≤ tm_c Q e := by
  intro e
  induction e with
  | zero => intro _; exact Nat.le_refl _
  | succ e ih =>
    intro h
    have := ih fun c hc => h c (by omega)
    by_cases hP : P e
    · rw [tm_ct hP, tm_ct (h e (by omega) hP)]; omega
    · rw [tm_cf hP]
      by_cases hQ : Q e
      · rw [tm_ct hQ]; omega
      · rw [tm_cf hQ]; omega
theorem tm_cadd {P Q : Nat → Prop} {c : Nat} (hc : ¬ P c) : ∀ e, c < e → (∀ d, d < e → (Q d ↔ P d ∨ d = c)) → tm_c Q e = tm_c P e + 1 := by
  intro e
  induction e with
  | zero => intro h; omega
  | succ e ih =>
    intro h hd
    by_cases he : c = e
    · subst he
      rw [tm_ct ((hd c h).mpr (Or.inr rfl)), tm_cf hc]
      have := tm_ccong (P := P) (Q := Q) c fun d hdc => ⟨fun z => (hd d (by omega)).mpr (Or.inl z), fun z => by
        rcases (hd d (by omega)).mp z with z | z
        · exact z
        · omega⟩
      omega
    · have := ih (by omega) fun d hdc => hd d (by omega)
      by_cases hP : P e
      · rw [tm_ct hP, tm_ct ((hd e (by omega)).mpr (Or.inl hP)), this]
      · rw [tm_cf hP, tm_cf (fun z => by
          rcases (hd e (by omega)).mp z with z | z
          · exact hP z
          · omega), this]
theorem tm_cstrict {P Q : Nat → Prop} {e c : Nat} (h : ∀ c, c < e → P c → Q c) (hc : c < e) (hQ : Q c) (hP : ¬ P c) : tm_c P e < tm_c Q e := by
  have h1 := tm_cadd (P := P) (Q := fun d => P d ∨ d = c) hP e hc fun d _ => Iff.rfl
  have h2 := tm_cmono (P := fun d => P d ∨ d = c) (Q := Q) e fun d hd z => by
    rcases z with z | z
    · exact h d hd z
    · rw [z]; exact hQ
  omega
theorem tm_ceq {P Q : Nat → Prop} {e : Nat} (h : ∀ c, c < e → P c → Q c) (he : tm_c Q e ≤ tm_c P e) : ∀ c, c < e → Q c → P c := by
  intro c hc hQ
  by_cases hP : P c
  · exact hP
  · have := tm_cstrict h hc hQ hP
    omega
theorem tm_c0 {P : Nat → Prop} : ∀ e, (∀ c, c < e → ¬ P c) → tm_c P e = 0 := by
  intro e
  induction e with
  | zero => intro _; rfl
  | succ e ih =>
    intro h
    rw [tm_cf (h e (by omega)), ih fun c hc => h c (by omega)]
theorem tm_cinj {A : Nat → Prop} {T : Nat → Nat → Prop} {b : Nat} : ∀ (a : Nat) (B : Nat → Prop), (∀ i, i < a → A i → ∃ j, j < b ∧ B j ∧ T i j) → (∀ i i' j, i < a → i' < a → A i → A i' → j < b → T i j → T i' j → i = i') → tm_c A a ≤ tm_c B b := by
  intro a
  induction a with
  | zero => intro B _ _; exact Nat.zero_le _
  | succ a ih =>
    intro B h hi
    by_cases hA : A a
    · obtain ⟨j, hj, hB, hT⟩ := h a (by omega) hA
      rw [tm_ct hA]
      have h1 := ih (fun d => B d ∧ d ≠ j) (fun i hia hAi => by
        obtain ⟨j', hj', hB', hT'⟩ := h i (by omega) hAi
        refine ⟨j', hj', ⟨hB', fun z => ?_⟩, hT'⟩
        subst z
        have := hi i a j' (by omega) (by omega) hAi hA hj hT' hT
        omega) (fun i i' j h1 h2 => hi i i' j (by omega) (by omega))
      have h2 := tm_cadd (P := fun d => B d ∧ d ≠ j) (Q := B) (c := j) (fun z => z.2 rfl) b hj fun d _ => ⟨fun z => by
        by_cases hd : d = j
        · exact Or.inr hd
        · exact Or.inl ⟨z, hd⟩, fun z => by
        rcases z with z | z
        · exact z.1
        · rw [z]; exact hB⟩
      omega
    · rw [tm_cf hA]
      exact ih B (fun i hia => h i (by omega)) (fun i i' j h1 h2 => hi i i' j (by omega) (by omega))
end
section
/-! words: the number of a word is a one, then its letters to base 4 -/
def tm_W (n k : Nat) (G : Nat → Nat) : Nat → Nat → Nat → Prop
  | 0, N, c => N = 1 ∧ c = tm_u n
  | l + 1, N, c => N % 4 < k ∧ ∃ b, tm_W n k G l (N / 4) b ∧ tm_m n b (G (N % 4)) = c
def tm_E (n k : Nat) (G : Nat → Nat) (c : Nat) : Prop := ∃ l N, tm_W n k G l N c
def tm_B (n k : Nat) (G : Nat → Nat) (c l N : Nat) : Prop := tm_W n k G l N c ∧ ∀ l' N', tm_W n k G l' N' c → N ≤ N'
theorem tm_Wlt {n e k : Nat} {G : Nat → Nat} (h : tm_N n e) : ∀ {l N c : Nat}, tm_W n k G l N c → c < e := by
  intro l N c w
  cases l with
  | zero => obtain ⟨_, rfl⟩ := w; exact tm_ult h
  | succ l => obtain ⟨_, b, _, rfl⟩ := w; exact tm_lt h _ _
theorem tm_Wr {n k : Nat} {G : Nat → Nat} : ∀ {l N c : Nat}, tm_W n k G l N c → 4 ^ l ≤ N ∧ N < 2 * 4 ^ l := by
  intro l
  induction l with
  | zero => intro N c w; obtain ⟨rfl, _⟩ := w; decide
  | succ l ih =>
    intro N c w
    obtain ⟨_, b, w', _⟩ := w
    have := ih w'
    rw [Nat.pow_succ]
    omega
theorem tm_pw {a b : Nat} (h : a ≤ b) : 4 ^ a ≤ 4 ^ b := Nat.pow_le_pow_right (by decide) h
theorem tm_Wl {n k : Nat} {G : Nat → Nat} {l N c l' N' c' : Nat} (w : tm_W n k G l N c) (w' : tm_W n k G l' N' c') (h : N ≤ N') : l ≤ l' := by
  by_cases hl : l ≤ l'
  · exact hl
  · have h1 := tm_Wr w
    have h2 := tm_Wr w'
    have h3 : 4 ^ (l' + 1) ≤ 4 ^ l := tm_pw (by omega)
    rw [Nat.pow_succ] at h3
    omega
theorem tm_Wc {n k : Nat} {G : Nat → Nat} {l N b g : Nat} (w : tm_W n k G l N b) (hg : g < k) (hk : k ≤ 4) : tm_W n k G (l + 1) (4 * N + g) (tm_m n b (G g)) := by
  have e1 : (4 * N + g) % 4 = g := by omega
  have e2 : (4 * N + g) / 4 = N := by omega
  refine ⟨by rw [e1]; exact hg, b, ?_, ?_⟩
  · rw [e2]; exact w
  · rw [e1]
theorem tm_Bex {n k : Nat} {G : Nat → Nat} {c : Nat} (h : tm_E n k G c) : ∃ l N, tm_B n k G c l N := by
  obtain ⟨l, N, w⟩ := h
  obtain ⟨N0, ⟨l0, w0⟩, hm⟩ := pk_least (fun N => ∃ l, tm_W n k G l N c) ⟨N, l, w⟩
  exact ⟨l0, N0, w0, fun l' N' w' => by
    by_cases z : N0 ≤ N'
    · exact z
    · exact absurd ⟨l', w'⟩ (hm N' (by omega))⟩
theorem tm_BE {n k : Nat} {G : Nat → Nat} {c l N : Nat} (h : tm_B n k G c l N) : tm_E n k G c := ⟨l, N, h.1⟩
theorem tm_Bu {n k : Nat} {G : Nat → Nat} {c l N l' N' : Nat} (h : tm_B n k G c l N) (h' : tm_B n k G c l' N') : l = l' ∧ N = N' := by
  have h1 := h.2 _ _ h'.1
  have h2 := h'.2 _ _ h.1
  have h3 := tm_Wl h.1 h'.1 h1
  have h4 := tm_Wl h'.1 h.1 h2
  omega
theorem tm_Bp {n k : Nat} {G : Nat → Nat} (hk : k ≤ 4) {c l N : Nat} (h : tm_B n k G c (l + 1) N) : ∃ b, tm_B n k G b l (N / 4) ∧ N % 4 < k ∧ tm_m n b (G (N % 4)) = c := by
  obtain ⟨⟨hg, b, w, hb⟩, hm⟩ := h
  refine ⟨b, ⟨w, fun l' N' w' => ?_⟩, hg, hb⟩
  have h1 := tm_Wc w' hg hk
  rw [hb] at h1
  have h2 := hm _ _ h1
  omega
theorem tm_Eu {n k : Nat} {G : Nat → Nat} : tm_E n k G (tm_u n) := ⟨0, 1, rfl, rfl⟩
theorem tm_Wpos {n k : Nat} {G : Nat → Nat} {l N c : Nat} (w : tm_W n k G l N c) : 1 ≤ N := by
  have := tm_Wr w
  have : 0 < 4 ^ l := Nat.pow_pos (by decide)
  omega
theorem tm_B0 {n k : Nat} {G : Nat → Nat} : tm_B n k G (tm_u n) 0 1 := ⟨⟨rfl, rfl⟩, fun _ _ w => tm_Wpos w⟩
theorem tm_Er {n k : Nat} {G : Nat → Nat} {c g : Nat} (hk : k ≤ 4) (h : tm_E n k G c) (hg : g < k) : tm_E n k G (tm_m n c (G g)) := by
  obtain ⟨l, N, w⟩ := h
  exact ⟨_, _, tm_Wc w hg hk⟩
theorem tm_Eg {n e k : Nat} {G : Nat → Nat} (h : tm_N n e) (hk : k ≤ 4) (hG : ∀ g, g < k → G g < e) {g : Nat} (hg : g < k) : tm_E n k G (G g) := by
  have := tm_Er hk (tm_Eu (n := n) (k := k) (G := G)) hg
  rwa [tm_ul h (hG g hg)] at this
theorem tm_Em {n e k : Nat} {G : Nat → Nat} (h : tm_N n e) (hk : k ≤ 4) {a : Nat} (ha : a < e) (hA : tm_E n k G a) : ∀ {l N c : Nat}, tm_W n k G l N c → tm_E n k G (tm_m n a c) := by
  intro l
  induction l with
  | zero =>
    intro N c w
    obtain ⟨_, rfl⟩ := w
    rw [tm_ur h ha]
    exact hA
  | succ l ih =>
    intro N c w
    obtain ⟨hg, b, w', rfl⟩ := w
    rw [← tm_as h]
    exact tm_Er hk (ih w') hg
theorem tm_EE {n e k : Nat} {G : Nat → Nat} (h : tm_N n e) (hk : k ≤ 4) {a c : Nat} (hA : tm_E n k G a) (hC : tm_E n k G c) : tm_E n k G (tm_m n a c) := by
  obtain ⟨l, N, w⟩ := hC
  obtain ⟨l', N', w'⟩ := hA
  exact tm_Em h hk (tm_Wlt h w') ⟨l', N', w'⟩ w
theorem tm_El {n e k : Nat} {G : Nat → Nat} (h : tm_N n e) (hk : k ≤ 4) (hG : ∀ g, g < k → G g < e) {c g : Nat} (hc : tm_E n k G c) (hg : g < k) : tm_E n k G (tm_m n (G g) c) := tm_EE h hk (tm_Eg h hk hG hg) hc
theorem tm_Elt {n e k : Nat} {G : Nat → Nat} (h : tm_N n e) {c : Nat} (hc : tm_E n k G c) : c < e := by
  obtain ⟨l, N, w⟩ := hc
  exact tm_Wlt h w
/-! commuting -/
theorem tm_Cg {n e k : Nat} {G : Nat → Nat} (h : tm_N n e) (hG : ∀ g, g < k → G g < e) (hC : ∀ i j, i < k → j < k → tm_m n (G i) (G j) = tm_m n (G j) (G i)) {i : Nat} (hi : i < k) : ∀ {l N c : Nat}, tm_W n k G l N c → tm_m n c (G i) = tm_m n (G i) c := by
  intro l
  induction l with
  | zero =>
    intro N c w
    obtain ⟨_, rfl⟩ := w
    rw [tm_ul h (hG i hi), tm_ur h (hG i hi)]
  | succ l ih =>
    intro N c w
    obtain ⟨hg, b, w', rfl⟩ := w
    rw [tm_as h, hC _ _ hg hi, ← tm_as h, ih w', tm_as h]
theorem tm_Ca {n e k : Nat} {G : Nat → Nat} (h : tm_N n e) (hG : ∀ g, g < k → G g < e) (hC : ∀ i j, i < k → j < k → tm_m n (G i) (G j) = tm_m n (G j) (G i)) {l' N' a : Nat} (wa : tm_W n k G l' N' a) : ∀ {l N c : Nat}, tm_W n k G l N c → tm_m n a c = tm_m n c a := by
  intro l
  induction l with
  | zero =>
    intro N c w
    obtain ⟨_, rfl⟩ := w
    rw [tm_ur h (tm_Wlt h wa), tm_ul h (tm_Wlt h wa)]
  | succ l ih =>
    intro N c w
    obtain ⟨hg, b, w', rfl⟩ := w
    rw [← tm_as h, ih w', tm_as h, tm_Cg h hG hC hg wa, ← tm_as h]
/-! sets: what is reached from a by steps of a kind -/
def tm_S (n k : Nat) (G : Nat → Nat) (d b c : Nat) : Prop := ∃ g, g < k ∧ ((d ≠ 1 ∧ c = tm_m n b (G g)) ∨ (d ≠ 0 ∧ c = tm_m n (G g) b))
def tm_P (n k : Nat) (G : Nat → Nat) (d a : Nat) : Nat → Nat → Prop
  | 0, c => c = a
  | j + 1, c => ∃ b, tm_P n k G d a j b ∧ tm_S n k G d b c
def tm_R (n k : Nat) (G : Nat → Nat) (d a c : Nat) : Prop := ∃ j, tm_P n k G d a j c
theorem tm_Rr {n k : Nat} {G : Nat → Nat} {d a : Nat} : tm_R n k G d a a := ⟨0, rfl⟩
theorem tm_Rs {n k : Nat} {G : Nat → Nat} {d a b c : Nat} (h : tm_R n k G d a b) (hs : tm_S n k G d b c) : tm_R n k G d a c := by
  obtain ⟨j, hj⟩ := h
  exact ⟨j + 1, b, hj, hs⟩
theorem tm_Rmin {n k : Nat} {G : Nat → Nat} {d a : Nat} (Q : Nat → Prop) (h0 : Q a) (hs : ∀ b c, Q b → tm_S n k G d b c → Q c) {c : Nat} (h : tm_R n k G d a c) : Q c := by
  obtain ⟨j, hj⟩ := h
  induction j generalizing c with
  | zero => rw [hj]; exact h0
  | succ j ih =>
    obtain ⟨b, hb, hst⟩ := hj
    exact hs b c (ih hb) hst
theorem tm_Rt {n k : Nat} {G : Nat → Nat} {d a b c : Nat} (h : tm_R n k G d a b) (h' : tm_R n k G d b c) : tm_R n k G d a c :=
  tm_Rmin (fun c => tm_R n k G d a c) h (fun _ _ hb hs => tm_Rs hb hs) h'
theorem tm_Rlt {n e k : Nat} {G : Nat → Nat} (h : tm_N n e) {d a c : Nat} (ha : a < e) (hr : tm_R n k G d a c) : c < e :=
  tm_Rmin (fun c => c < e) ha (fun b c _ hs => by
    obtain ⟨g, _, z | z⟩ := hs
    · rw [z.2]; exact tm_lt h _ _
    · rw [z.2]; exact tm_lt h _ _) hr
theorem tm_RE {n e k : Nat} {G : Nat → Nat} (h : tm_N n e) (hk : k ≤ 4) (hG : ∀ g, g < k → G g < e) {d a c : Nat} (ha : tm_E n k G a) (hr : tm_R n k G d a c) : tm_E n k G c :=
  tm_Rmin (fun c => tm_E n k G c) ha (fun b c hb hs => by
    obtain ⟨g, hg, z | z⟩ := hs
    · rw [z.2]; exact tm_Er hk hb hg
    · rw [z.2]; exact tm_El h hk hG hb hg) hr
noncomputable def tm_Z (n e k : Nat) (G : Nat → Nat) (d a : Nat) : Nat := tm_c (tm_R n k G d a) e
theorem tm_Zle {n e k : Nat} {G : Nat → Nat} {d a : Nat} : tm_Z n e k G d a ≤ e := tm_cle _ _
/-- two sets of members of each other are as large; a member's set as large as the whole is the whole -/
theorem tm_Zeq {n e k : Nat} {G : Nat → Nat} {d a b : Nat} (ha : a < e) (h : tm_R n k G d a b) : tm_Z n e k G d b = tm_Z n e k G d a ↔ tm_R n k G d b a := by
  constructor
  · intro z
    exact tm_ceq (P := tm_R n k G d b) (Q := tm_R n k G d a) (fun c _ hc => tm_Rt h hc) (Nat.le_of_eq z.symm) a ha tm_Rr
  · intro z
    exact tm_ccong e fun c _ => ⟨fun y => tm_Rt h y, fun y => tm_Rt z y⟩
/-! powers -/
def tm_p (n c : Nat) : Nat → Nat
  | 0 => c
  | j + 1 => tm_m n (tm_p n c j) c
theorem tm_pE {n e k : Nat} {G : Nat → Nat} (h : tm_N n e) (hk : k ≤ 4) {c : Nat} (hc : tm_E n k G c) : ∀ j, tm_E n k G (tm_p n c j) := by
  intro j
  induction j with
  | zero => exact hc
  | succ j ih => exact tm_EE h hk ih hc
theorem tm_plt {n e : Nat} (h : tm_N n e) {c : Nat} (hc : c < e) : ∀ j, tm_p n c j < e := by
  intro j
  cases j with
  | zero => exact hc
  | succ j => exact tm_lt h _ _
theorem tm_padd {n e : Nat} (h : tm_N n e) (c i : Nat) : ∀ j, tm_m n (tm_p n c i) (tm_p n c j) = tm_p n c (i + j + 1) := by
  intro j
  induction j with
  | zero => rfl
  | succ j ih =>
    show tm_m n _ (tm_m n (tm_p n c j) c) = tm_m n (tm_p n c (i + j + 1)) c
    rw [← tm_as h, ih]
/-- the same step further on -/
theorem tm_pshift {n c i j : Nat} (h : tm_p n c i = tm_p n c j) : ∀ t, tm_p n c (i + t) = tm_p n c (j + t) := by
  intro t
  induction t with
  | zero => exact h
  | succ t ih =>
    show tm_m n (tm_p n c (i + t)) c = tm_m n (tm_p n c (j + t)) c
    rw [ih]
theorem tm_pmul {n c i q : Nat} (h : tm_p n c (i + q) = tm_p n c i) : ∀ t, tm_p n c (i + t * q) = tm_p n c i := by
  intro t
  induction t with
  | zero => rw [Nat.zero_mul, Nat.add_zero]
  | succ t ih =>
    have := tm_pshift h (t * q)
    rw [show i + (t + 1) * q = i + q + t * q from by rw [Nat.succ_mul]; omega, this, ih]
def tm_q (n : Nat) : Nat := if n = 2 then 2 else 12
theorem tm_t2 : ∀ c, c < 4 → tm_p 2 c (2 + 2) = tm_p 2 c 2 := by decide +kernel
theorem tm_t3 : ∀ c, c < 27 → tm_p 3 c (2 + 12) = tm_p 3 c 2 := by decide +kernel
theorem tm_t4 : ∀ c, c < 256 → tm_p 4 c (2 + 12) = tm_p 4 c 2 := by decide +kernel
theorem tm_per {n e : Nat} (h : tm_N n e) {c : Nat} (hc : c < e) : tm_p n c (2 + tm_q n) = tm_p n c 2 := by
  rcases h with ⟨h, h'⟩ | ⟨h, h'⟩ | ⟨h, h'⟩ <;> subst h h'
  · exact tm_t2 c hc
  · exact tm_t3 c hc
  · exact tm_t4 c hc
/-- power j returns (j counts from 0: c^(j+1)) -/
theorem tm_ret {n e : Nat} (h : tm_N n e) {c : Nat} (hc : c < e) {j m : Nat} (hm : 0 < m) (hr : tm_p n c (j + m) = tm_p n c j) : tm_p n c (j + tm_q n) = tm_p n c j := by
  have h1 := tm_pmul hr 2
  have h2 := tm_pshift h1 (tm_q n)
  have h3 := tm_pshift (tm_per h hc) (j + 2 * m - 2)
  rw [← h2, ← h1]
  rw [show j + 2 * m + tm_q n = 2 + tm_q n + (j + 2 * m - 2) from by omega, h3]
  exact congrArg _ (by omega)
end
section
/-! X: products, images, the count of images -/
def tm_XI (n e : Nat) (aI : Nat → Int32) : Prop := ∀ f p, f < e → p < n → aI (f * 4 + p) = nI (tm_im n f p)
theorem tx_ix (f p : Nat) : nI f * 4 + nI p = nI (f * 4 + p) := by
  show nI f * nI 4 + nI p = _
  rw [pk_mul, nI_add]
theorem tx_m5 (fp fm fi fg fe fr : Int32) (aI aG aF aW aL aS aR aQ aZ aC : Nat → Int32) {post : Int32 → Prop} {n e f g : Nat} (h : tm_N n e) (hf : f < e) (hg : g < e) (hI : tm_XI n e aI) (hp : post (nI (tm_m n f g))) : ∀ d p, p + d = n → wX_multiply_5 post (nI f) (nI g) (nI n) fm fi fg fe fr aI aG aF aW aL aS aR aQ aZ aC (d + 1) (nI (tm_mk n f g p)) (nI p) := by
  have H := tm_Npos h
  intro d
  induction d with
  | zero =>
    intro p hp'
    obtain rfl : p = n := by omega
    exact br_t (nI_le (Nat.le_refl _) (by omega)) hp
  | succ d ih =>
    intro p hpd
    have hi := tm_imlt h f p
    refine br_f (nI_ge (by omega) (by omega)) ⟨?_, nm_r (e' := nI (tm_im n f p)) ?_ ⟨?_, nm_r (e' := nI (tm_mk n f g (p + 1))) ?_ (nm_r (nI_1 p) (ih (p + 1) (by omega)))⟩⟩
    · rw [tx_ix]; exact vp_in_nI (by omega) (by omega)
    · rw [tx_ix, nI_clamp (by omega)]; exact hI f p hf (by omega)
    · rw [tx_ix]; exact vp_in_nI (by omega) (by omega)
    · rw [tx_ix, nI_clamp (by omega), hI g _ hg hi, pk_mul, nI_add]
      rfl
theorem tx_mul (fp fm fi fg fe fr : Int32) (aI aG aF aW aL aS aR aQ aZ aC : Nat → Int32) {post : Int32 → Prop} {n e f g : Nat} (h : tm_N n e) (hf : f < e) (hg : g < e) (hI : tm_XI n e aI) (hp : post (nI (tm_m n f g))) : wpX_multiply post (nI n, fm, fi, fg, fe, fr, aI, aG, aF, aW, aL, aS, aR, aQ, aZ, aC) (nI f) (nI g) :=
  ⟨n + 1, tx_m5 fp fm fi fg fe fr aI aG aF aW aL aS aR aQ aZ aC h hf hg hI hp n 0 (by omega)⟩
def tm_or (n f : Nat) : Nat → Nat
  | 0 => 0
  | p + 1 => tm_or n f p ||| 2 ^ (tm_im n f p)
def tm_pc (s : Nat) : Nat := s % 2 + s / 2 % 2 + s / 4 % 2 + s / 8 % 2
def tm_rk (n f : Nat) : Nat := tm_pc (tm_or n f n)
theorem tx_bit : ∀ s, s < 16 → ∀ d, d < 4 → ((nI s &&& ((1 : Int32) <<< (nI d &&& 31))) = 0 ↔ s / 2 ^ d % 2 = 0) ∧ (nI s ||| ((1 : Int32) <<< (nI d &&& 31))) = nI (s ||| 2 ^ d) ∧ s ||| 2 ^ d < 16 ∧ (s / 2 ^ d % 2 = 0 → tm_pc (s ||| 2 ^ d) = tm_pc s + 1) ∧ (¬ s / 2 ^ d % 2 = 0 → s ||| 2 ^ d = s) := by decide +kernel
theorem tm_orlt {n e : Nat} (h : tm_N n e) (f : Nat) : ∀ p, tm_or n f p < 16 := by
  have H := tm_Npos h
  intro p
  induction p with
  | zero => exact (by decide : 0 < 16)
  | succ p ih => exact (tx_bit _ ih _ (by have := tm_imlt h f p; omega)).2.2.1
theorem tx_ci7 (fp fm fi fg fe fr : Int32) (aI aG aF aW aL aS aR aQ aZ aC : Nat → Int32) {post : Int32 → Prop} {n e f : Nat} (h : tm_N n e) (hf : f < e) (hI : tm_XI n e aI) (hp : post (nI (tm_rk n f))) : ∀ d p, p + d = n → wX_countImages_7 post (nI f) (nI n) fm fi fg fe fr aI aG aF aW aL aS aR aQ aZ aC (d + 1) (nI (tm_or n f p)) (nI (tm_pc (tm_or n f p))) (nI p) := by
  have H := tm_Npos h
  intro d
  induction d with
  | zero =>
    intro p hp'
    obtain rfl : p = n := by omega
    exact br_t (nI_le (Nat.le_refl _) (by omega)) hp
  | succ d ih =>
    intro p hpd
    have hi := tm_imlt h f p
    obtain ⟨t1, t2, t3, t4, t5⟩ := tx_bit _ (tm_orlt h f p) _ (by omega : tm_im n f p < 4)
    refine br_f (nI_ge (by omega) (by omega)) ⟨?_, nm_r (e' := (1 : Int32) <<< (nI (tm_im n f p) &&& 31)) ?_ ?_⟩
    · rw [tx_ix]; exact vp_in_nI (by omega) (by omega)
    · rw [tx_ix, nI_clamp (by omega), hI f p hf (by omega)]
    · by_cases z : tm_or n f p / 2 ^ (tm_im n f p) % 2 = 0
      · refine br_t (t1.mpr z) (nm_r (e' := nI (tm_or n f (p + 1))) t2 (nm_r (e' := nI (tm_pc (tm_or n f (p + 1)))) ?_ (nm_r (nI_1 p) (ih (p + 1) (by omega)))))
        rw [nI_1, show tm_or n f (p + 1) = tm_or n f p ||| 2 ^ (tm_im n f p) from rfl, t4 z]
      · refine br_f (fun y => z (t1.mp y)) (nm_r (nI_1 p) ?_)
        have e1 : tm_or n f (p + 1) = tm_or n f p := t5 z
        have := ih (p + 1) (by omega)
        rw [e1] at this
        exact this
theorem tx_ci (fp fm fi fg fe fr : Int32) (aI aG aF aW aL aS aR aQ aZ aC : Nat → Int32) {post : Int32 → Prop} {n e f : Nat} (h : tm_N n e) (hf : f < e) (hI : tm_XI n e aI) (hp : post (nI (tm_rk n f))) : wpX_countImages post (nI n, fm, fi, fg, fe, fr, aI, aG, aF, aW, aL, aS, aR, aQ, aZ, aC) (nI f) :=
  ⟨n + 1, by
    have t := tx_ci7 fp fm fi fg fe fr aI aG aF aW aL aS aR aQ aZ aC h hf hI hp n 0 (by omega)
    rw [show tm_or n f 0 = 0 from rfl, show tm_pc 0 = 0 from rfl] at t
    exact t⟩
/-! X: the table of images -/
theorem tx_m0 : nI 0 + (-1) < 0 := by decide
theorem tx_f19 (fp fm fi fg fe fr : Int32) (aI aG aF aW aL aS aR aQ aZ aC : Nat → Int32) {post : SX → Prop} {J2 : Int32 → (Nat → Int32) → (Nat → Int32) → (Nat → Int32) → (Nat → Int32) → (Nat → Int32) → (Nat → Int32) → (Nat → Int32) → (Nat → Int32) → (Nat → Int32) → (Nat → Int32) → Prop} {n e c : Nat} (h : tm_N n e) (hc : c < e)
    (hJ : ∀ aI, (∀ f p, f < c + 1 → p < n → aI (f * 4 + p) = nI (tm_im n f p)) → J2 (nI (c + 1)) aI aG aF aW aL aS aR aQ aZ aC) :
    ∀ t, t ≤ n → ∀ aI, (∀ f p, f < c → p < n → aI (f * 4 + p) = nI (tm_im n f p)) → (∀ p, t ≤ p → p < n → aI (c * 4 + p) = nI (tm_im n c p)) →
    wX_fillImages_19 post J2 (nI c) (nI n) fm fi fg fe fr (t + 1) (nI (c / n ^ (n - t))) (nI t + (-1)) aI aG aF aW aL aS aR aQ aZ aC := by
  have H := tm_Npos h
  intro t
  induction t with
  | zero =>
    intro _ aI h1 h2
    refine br_t tx_m0 (nm_r (nI_1 c) (hJ aI fun f p hf hp => ?_))
    by_cases z : f = c
    · subst z; exact h2 p (by omega) hp
    · exact h1 f p (by omega) hp
  | succ t ih =>
    intro ht aI h1 h2
    rw [pk_m1]
    have hd : c / n ^ (n - (t + 1)) ≤ c := Nat.div_le_self _ _
    refine br_f (nI_pos (by omega)) ⟨nI_ne0 (by omega) (by omega), ?_, nm_e ⟨nI_ne0 (by omega) (by omega), nm_r (e' := nI (c / n ^ (n - t))) ?_ (nm_e (ih (by omega) _ ?_ ?_))⟩⟩
    · rw [tx_ix]; exact vp_in_nI (by omega) (by omega)
    · rw [pk_div (by omega) (by omega) (by omega), Nat.div_div_eq_div_mul, ← Nat.pow_succ]
      exact congrArg nI (congrArg _ (congrArg _ (by omega)))
    · intro f p hf hp
      rw [tx_ix, nI_clamp (by omega), pk_un (by omega)]
      exact h1 f p hf hp
    · intro p htp hp
      rw [tx_ix, nI_clamp (by omega)]
      by_cases z : p = t
      · subst z
        rw [pk_us, pk_rem (by omega) (by omega) (by omega)]
        show nI _ = nI (c / n ^ (n - 1 - p) % n)
        exact congrArg nI (congrArg (· % n) (congrArg _ (congrArg _ (by omega))))
      · rw [pk_un (by omega)]
        exact h2 p (by omega) hp
theorem tx_f2 (fp fm fi fg fe fr : Int32) (aI aG aF aW aL aS aR aQ aZ aC : Nat → Int32) {post : SX → Prop} {n e : Nat} (h : tm_N n e)
    (hp : ∀ aI, tm_XI n e aI → post (nI n, nI e, fi, fg, fe, fr, aI, aG, aF, aW, aL, aS, aR, aQ, aZ, aC)) :
    ∀ d c, c + d = e → ∀ aI, (∀ f p, f < c → p < n → aI (f * 4 + p) = nI (tm_im n f p)) →
    wX_fillImages_2 post (nI n) (nI e) fi fg fe fr (d + 1) (nI c) aI aG aF aW aL aS aR aQ aZ aC := by
  have H := tm_Npos h
  intro d
  induction d with
  | zero =>
    intro c hc aI h1
    obtain rfl : c = e := by omega
    exact br_t (nI_le (Nat.le_refl _) (by omega)) (hp aI h1)
  | succ d ih =>
    intro c hc aI h1
    refine br_f (nI_ge (by omega) (by omega)) (nm_r (e' := nI n + (-1)) (Int32.sub_eq_add_neg _ _) ⟨n + 1, ?_⟩)
    have := tx_f19 fp (nI e) fi fg fe fr aI aG aF aW aL aS aR aQ aZ aC (post := post) (J2 := wX_fillImages_2 post (nI n) (nI e) fi fg fe fr (d + 1)) h (by omega : c < e) (fun aI h2 => ih (c + 1) (by omega) aI h2) n (Nat.le_refl _) aI h1 (fun p h1 h2 => by omega)
    rw [Nat.sub_self, Nat.pow_zero, Nat.div_one] at this
    exact this
theorem tx_fi (fp fm fi fg fe fr : Int32) (aI aG aF aW aL aS aR aQ aZ aC : Nat → Int32) {post : SX → Prop} {n e : Nat} (h : tm_N n e)
    (hp : ∀ aI, tm_XI n e aI → post (nI n, nI e, fi, fg, fe, fr, aI, aG, aF, aW, aL, aS, aR, aQ, aZ, aC)) : wpX_fillImages post (nI n, nI e, fi, fg, fe, fr, aI, aG, aF, aW, aL, aS, aR, aQ, aZ, aC) :=
  ⟨e + 1, tx_f2 fp fm fi fg fe fr aI aG aF aW aL aS aR aQ aZ aC h hp e 0 (by omega) aI (fun f p hf => by omega)⟩
def tm_uk (n : Nat) : Nat → Nat
  | 0 => 0
  | p + 1 => tm_uk n p * n + p
theorem tm_ukn {n e : Nat} (h : tm_N n e) : tm_uk n n = tm_u n ∧ n ^ n = e := by
  rcases h with ⟨h, h'⟩ | ⟨h, h'⟩ | ⟨h, h'⟩ <;> subst h h' <;> decide
theorem tx_i107 (fp fm fi fg fe fr : Int32) (aI aG aF aW aL aS aR aQ aZ aC : Nat → Int32) {post : SX → Prop} {n e : Nat} (h : tm_N n e)
    (hp : ∀ aI, tm_XI n e aI → wpX_findElements post (nI n, nI e, nI (tm_u n), fg, fe, fr, aI, aG, aF, aW, aL, aS, aR, aQ, aZ, aC)) :
    ∀ d p, p + d = n → wX_init_107 post (nI n) fm fi fg fe fr aI aG aF aW aL aS aR aQ aZ aC (d + 1) (nI (n ^ p)) (nI (tm_uk n p)) (nI p) := by
  have H := tm_Npos h
  intro d
  induction d with
  | zero =>
    intro p hpd
    obtain rfl : p = n := by omega
    refine br_t (nI_le (Nat.le_refl _) (by omega)) ?_
    rw [(tm_ukn h).1, (tm_ukn h).2]
    exact tx_fi fp fm (nI (tm_u p)) fg fe fr aI aG aF aW aL aS aR aQ aZ aC h (fun aI hI => hp aI hI)
  | succ d ih =>
    intro p hpd
    refine br_f (nI_ge (by omega) (by omega)) (nm_r (e' := nI (n ^ (p + 1))) ?_ (nm_r (e' := nI (tm_uk n (p + 1))) ?_ (nm_r (nI_1 p) (ih (p + 1) (by omega)))))
    · rw [pk_mul, Nat.pow_succ]
    · rw [pk_mul, nI_add]; rfl
end
section
/-! X: the elements, by breadth -/
def tm_up (f : Nat → Nat) (q c : Nat) : Nat → Nat := fun j => if j = q then c else f j
theorem tm_us {f : Nat → Nat} {q c : Nat} : tm_up f q c q = c := if_pos rfl
theorem tm_un {f : Nat → Nat} {q c j : Nat} (h : j ≠ q) : tm_up f q c j = f j := if_neg h
theorem tx_ne1 {a : Nat} (h : a < 2 ^ 31) : nI a ≠ -1 := by
  intro z
  have h1 := nI_toInt h
  rw [z] at h1
  have h2 : (-1 : Int32).toInt = -1 := by decide
  omega
def tm_Q (n e k : Nat) (G : Nat → Nat) (i g q : Nat) (fo l N : Nat → Nat) (aF aW aL aS : Nat → Int32) : Prop :=
  (1 ≤ q ∧ q = tm_c (fun c => aW c ≠ -1) e) ∧
  (∀ j, j < q → fo j < e ∧ aF j = nI (fo j) ∧ aW (fo j) = nI (l j) ∧ tm_W n k G (l j) (N j) (fo j) ∧ l j ≤ j ∧ (i < q → N j < 4 * N i + g) ∧ (0 < j → ∃ p g', p < j ∧ g' < k ∧ aL (fo j) = nI g' ∧ aS (fo j) = nI (fo p) ∧ l j = l p + 1 ∧ N j = 4 * N p + g')) ∧
  (∀ j j', j < j' → j' < q → N j < N j' ∧ fo j ≠ fo j') ∧
  (∀ c, c < e → aW c = -1 ∨ ∃ j, j < q ∧ fo j = c) ∧
  (fo 0 = tm_u n ∧ N 0 = 1 ∧ l 0 = 0) ∧
  (∀ j g', (j < i ∧ g' < k) ∨ (j = i ∧ g' < g) → ∃ j', j' < q ∧ fo j' = tm_m n (fo j) (G g') ∧ N j' ≤ 4 * N j + g')
def tm_XF (n e k : Nat) (G : Nat → Nat) (q : Nat) (fo l N : Nat → Nat) (aF aW aL aS : Nat → Int32) : Prop :=
  (1 ≤ q ∧ q ≤ e ∧ q = tm_c (tm_E n k G) e) ∧
  (∀ j, j < q → fo j < e ∧ aF j = nI (fo j) ∧ aW (fo j) = nI (l j) ∧ tm_B n k G (fo j) (l j) (N j) ∧ l j < 256 ∧ (0 < j → ∃ p g', p < j ∧ g' < k ∧ aL (fo j) = nI g' ∧ aS (fo j) = nI (fo p) ∧ l j = l p + 1 ∧ N j = 4 * N p + g')) ∧
  (∀ j j', j < j' → j' < q → N j < N j' ∧ fo j ≠ fo j') ∧
  (∀ c, c < e → (aW c = -1 ∧ ¬ tm_E n k G c) ∨ ∃ j, j < q ∧ fo j = c) ∧
  (fo 0 = tm_u n ∧ N 0 = 1 ∧ l 0 = 0)
theorem tm_Qa {n e k i g q : Nat} {G fo l N : Nat → Nat} {aF aW aL aS : Nat → Int32} (h : tm_N n e) (H : tm_Q n e k G i g q fo l N aF aW aL aS) (hi : i < q) (hw : aW (tm_m n (fo i) (G g)) ≠ -1) : tm_Q n e k G i (g + 1) q fo l N aF aW aL aS := by
  obtain ⟨h1, h2, h3, h4, h5, h6⟩ := H
  refine ⟨h1, fun j hj => ?_, h3, h4, h5, fun j g' hz => ?_⟩
  · obtain ⟨a, b, c, d, x, y, z⟩ := h2 j hj
    exact ⟨a, b, c, d, x, fun t => by have := y t; omega, z⟩
  · by_cases z : j = i ∧ g' = g
    · obtain ⟨rfl, rfl⟩ := z
      rcases h4 _ (tm_lt h (fo j) (G g')) with y | ⟨j', hj', e'⟩
      · exact absurd y hw
      · have := (h2 j' hj').2.2.2.2.2.1 hi
        exact ⟨j', hj', e', by omega⟩
    · exact h6 j g' (by omega)
theorem tm_Qb {n e k i g q : Nat} {G fo l N : Nat → Nat} {aF aW aL aS : Nat → Int32} (h : tm_N n e) (hk : k ≤ 4) (hg : g < k) (H : tm_Q n e k G i g q fo l N aF aW aL aS) (hi : i < q) (hw : aW (tm_m n (fo i) (G g)) = -1) :
    q + 1 ≤ e ∧ tm_Q n e k G i (g + 1) (q + 1) (tm_up fo q (tm_m n (fo i) (G g))) (tm_up l q (l i + 1)) (tm_up N q (4 * N i + g)) (upd aF q (nI (tm_m n (fo i) (G g)))) (upd aW (tm_m n (fo i) (G g)) (aW (fo i) + 1)) (upd aL (tm_m n (fo i) (G g)) (nI g)) (upd aS (tm_m n (fo i) (G g)) (nI (fo i))) := by
  have hc : tm_m n (fo i) (G g) < e := tm_lt h _ _
  have hv : aW (fo i) + 1 = nI (l i + 1) := by
    rw [← nI_1]
    obtain ⟨h1, h2, h3, h4, h5, h6⟩ := H
    rw [(h2 i hi).2.2.1]
  rw [hv]
  have hW := tm_Wc (H.2.1 i hi).2.2.2.1 hg hk
  generalize hcd : tm_m n (fo i) (G g) = c at *
  obtain ⟨⟨h1, h1'⟩, h2, h3, h4, h5, h6⟩ := H
  have H0 := tm_Npos h
  have hq0 : q ≤ e := by rw [h1']; exact tm_cle _ _
  have hli : l i ≤ i := (h2 i hi).2.2.2.2.1
  have hcn : ∀ j, j < q → fo j ≠ c := by
    intro j hj z
    have h7 := (h2 j hj).2.2.1
    have h8 := (h2 j hj).2.2.2.2.1
    rw [z, hw] at h7
    exact tx_ne1 (by omega) h7.symm
  have hcnt : q + 1 = tm_c (fun d => upd aW c (nI (l i + 1)) d ≠ -1) e := by
    have t := tm_cadd (P := fun d => aW d ≠ -1) (Q := fun d => upd aW c (nI (l i + 1)) d ≠ -1) (c := c) (fun z => z hw) e hc (fun d _ => by
      show upd aW c (nI (l i + 1)) d ≠ -1 ↔ aW d ≠ -1 ∨ d = c
      by_cases z : d = c
      · subst z
        rw [pk_us]
        exact ⟨fun _ => Or.inr rfl, fun _ => tx_ne1 (by omega)⟩
      · rw [pk_un z]
        exact ⟨fun y => Or.inl y, fun y => by
          rcases y with y | y
          · exact y
          · exact absurd y z⟩)
    omega
  have hqe : q + 1 ≤ e := by rw [hcnt]; exact tm_cle _ _
  refine ⟨hqe, ⟨by omega, hcnt⟩, fun j hj => ?_, fun j j' hjj hj' => ?_, fun d hd => ?_, ?_, fun j g' hz => ?_⟩
  · by_cases z : j = q
    · subst z
      rw [tm_us, tm_us, tm_us, tm_un (by omega : i ≠ j), pk_us, pk_us, pk_us, pk_us]
      exact ⟨hc, rfl, rfl, hW, by omega, fun _ => by omega, fun _ => ⟨i, g, hi, hg, rfl, by rw [tm_un (by omega)], by rw [tm_un (by omega)], by rw [tm_un (by omega)]⟩⟩
    · have hjq : j < q := by omega
      obtain ⟨a, b, c', d, x, y, w⟩ := h2 j hjq
      rw [tm_un z, tm_un z, tm_un z, tm_un (by omega : i ≠ q), pk_un z, pk_un (hcn j hjq), pk_un (hcn j hjq), pk_un (hcn j hjq)]
      refine ⟨a, b, c', d, x, fun _ => by have := y hi; omega, fun hj0 => ?_⟩
      obtain ⟨p, g', w1, w2, w3, w4, w5, w6⟩ := w hj0
      exact ⟨p, g', w1, w2, w3, by rw [tm_un (by omega)]; exact w4, by rw [tm_un (by omega)]; exact w5, by rw [tm_un (by omega)]; exact w6⟩
  · by_cases z : j' = q
    · subst z
      rw [tm_us, tm_us, tm_un (by omega : j ≠ j'), tm_un (by omega : j ≠ j')]
      exact ⟨(h2 j hjj).2.2.2.2.2.1 hi, hcn j hjj⟩
    · rw [tm_un z, tm_un z, tm_un (by omega : j ≠ q), tm_un (by omega : j ≠ q)]
      exact h3 j j' hjj (by omega)
  · by_cases z : d = c
    · exact Or.inr ⟨q, by omega, by rw [tm_us, z]⟩
    · rw [pk_un z]
      rcases h4 d hd with y | ⟨j, hj, e'⟩
      · exact Or.inl y
      · exact Or.inr ⟨j, by omega, by rw [tm_un (by omega)]; exact e'⟩
  · rw [tm_un (by omega : 0 ≠ q), tm_un (by omega : 0 ≠ q), tm_un (by omega : 0 ≠ q)]
    exact h5
  · have hjq : j ≠ q := by omega
    rw [tm_un hjq, tm_un hjq]
    by_cases z : j = i ∧ g' = g
    · obtain ⟨rfl, rfl⟩ := z
      exact ⟨q, by omega, by rw [tm_us, hcd], by rw [tm_us]; exact Nat.le_refl _⟩
    · obtain ⟨j', hj', e1, e2⟩ := h6 j g' (by omega)
      exact ⟨j', by omega, by rw [tm_un (by omega)]; exact e1, by rw [tm_un (by omega)]; exact e2⟩
theorem tm_Qn {n e k i q : Nat} {G fo l N : Nat → Nat} {aF aW aL aS : Nat → Int32} (hk : k ≤ 4) (H : tm_Q n e k G i k q fo l N aF aW aL aS) (hi : i < q) : tm_Q n e k G (i + 1) 0 q fo l N aF aW aL aS := by
  obtain ⟨h1, h2, h3, h4, h5, h6⟩ := H
  refine ⟨h1, fun j hj => ?_, h3, h4, h5, fun j g' hz => ?_⟩
  · obtain ⟨a, b, c, d, x, y, z⟩ := h2 j hj
    refine ⟨a, b, c, d, x, fun t => ?_, z⟩
    have h7 := y hi
    have h8 := (h3 i (i + 1) (by omega) t).1
    omega
  · exact h6 j g' (by omega)
theorem tm_QF {n e k i q : Nat} {G fo l N : Nat → Nat} {aF aW aL aS : Nat → Int32} (h : tm_N n e) (H : tm_Q n e k G i 0 q fo l N aF aW aL aS) (hi : q ≤ i) : tm_XF n e k G q fo l N aF aW aL aS := by
  obtain ⟨⟨h1, h1'⟩, h2, h3, h4, h5, h6⟩ := H
  have H0 := tm_Npos h
  have hq0 : q ≤ e := by rw [h1']; exact tm_cle _ _
  have A : ∀ l' N' c, tm_W n k G l' N' c → ∃ j, j < q ∧ fo j = c ∧ N j ≤ N' := by
    intro l'
    induction l' with
    | zero =>
      intro N' c w
      obtain ⟨rfl, rfl⟩ := w
      exact ⟨0, by omega, h5.1, by rw [h5.2.1]; exact Nat.le_refl _⟩
    | succ l' ih =>
      intro N' c w
      obtain ⟨hg, b, w', rfl⟩ := w
      obtain ⟨j, hj, e1, e2⟩ := ih _ _ w'
      obtain ⟨j', hj', e3, e4⟩ := h6 j (N' % 4) (Or.inl ⟨by omega, hg⟩)
      exact ⟨j', hj', by rw [e3, e1], by omega⟩
  have U : ∀ j j', j < q → j' < q → fo j = fo j' → j = j' := by
    intro j j' hj hj' z
    rcases Nat.lt_trichotomy j j' with y | y | y
    · exact absurd z (h3 j j' y hj').2
    · exact y
    · exact absurd z.symm (h3 j' j y hj).2
  have EE : ∀ c, c < e → (aW c ≠ -1 ↔ tm_E n k G c) := by
    intro c hc
    constructor
    · intro z
      rcases h4 c hc with y | ⟨j, hj, e1⟩
      · exact absurd y z
      · rw [← e1]; exact ⟨_, _, (h2 j hj).2.2.2.1⟩
    · rintro ⟨l', N', w⟩
      obtain ⟨j, hj, e1, _⟩ := A l' N' c w
      rw [← e1, (h2 j hj).2.2.1]
      have := (h2 j hj).2.2.2.2.1
      exact tx_ne1 (by omega)
  refine ⟨⟨h1, hq0, ?_⟩, fun j hj => ?_, h3, fun c hc => ?_, h5⟩
  · rw [← tm_ccong e EE]; exact h1'
  · obtain ⟨a, b, c, d, x, y, z⟩ := h2 j hj
    refine ⟨a, b, c, ⟨d, fun l' N' w => ?_⟩, by omega, z⟩
    obtain ⟨j', hj', e1, e2⟩ := A l' N' _ w
    rw [← U j' j hj' hj e1]
    exact e2
  · rcases h4 c hc with y | y
    · exact Or.inl ⟨y, fun z => (EE c hc).mpr z y⟩
    · exact Or.inr y
theorem tm_Q0 {n e k : Nat} {G : Nat → Nat} {aF aW aL aS : Nat → Int32} (h : tm_N n e) (hw : ∀ c, c < e → aW c = -1) : tm_Q n e k G 0 0 1 (fun _ => tm_u n) (fun _ => 0) (fun _ => 1) (upd aF 0 (nI (tm_u n))) (upd aW (tm_u n) 0) aL aS := by
  have hu := tm_ult h
  have h0 : (0 : Int32) ≠ -1 := by decide
  refine ⟨⟨Nat.le_refl _, ?_⟩, fun j hj => ?_, fun j j' h1 h2 => by omega, fun c hc => ?_, ⟨rfl, rfl, rfl⟩, fun j g' hz => by omega⟩
  · have t := tm_cadd (P := fun d => aW d ≠ -1) (Q := fun d => upd aW (tm_u n) 0 d ≠ -1) (c := tm_u n) (fun z => z (hw _ hu)) e hu (fun d _ => by
      show upd aW (tm_u n) 0 d ≠ -1 ↔ aW d ≠ -1 ∨ d = tm_u n
      by_cases z : d = tm_u n
      · rw [z, pk_us]
        exact ⟨fun _ => Or.inr rfl, fun _ => h0⟩
      · rw [pk_un z]
        exact ⟨fun y => Or.inl y, fun y => by
          rcases y with y | y
          · exact y
          · exact absurd y z⟩)
    have t2 := tm_c0 (P := fun d => aW d ≠ -1) e (fun c hc z => z (hw c hc))
    omega
  · obtain rfl : j = 0 := by omega
    exact ⟨hu, pk_us, pk_us, ⟨rfl, rfl⟩, Nat.le_refl _, fun _ => (by decide : 1 < 4 * 1 + 0), fun z => by omega⟩
  · by_cases z : c = tm_u n
    · exact Or.inr ⟨0, by omega, z.symm⟩
    · rw [pk_un z]; exact Or.inl (hw c hc)
theorem tx_ext (fp fm fi fg fe fr : Int32) (aI aG aF aW aL aS aR aQ aZ aC : Nat → Int32) {post : SX → Prop} {n e k q f g : Nat} {G : Nat → Nat} (h : tm_N n e) (hk : k ≤ 4) (hf : f < e) (hg : g < k) (hG : G g < e) (hGa : aG g = nI (G g)) (hI : tm_XI n e aI) (hq : q ≤ e)
    (hA : aW (tm_m n f (G g)) ≠ -1 → post (nI n, nI e, nI (tm_u n), nI k, nI q, fr, aI, aG, aF, aW, aL, aS, aR, aQ, aZ, aC))
    (hB : aW (tm_m n f (G g)) = -1 → q + 1 ≤ e ∧ post (nI n, nI e, nI (tm_u n), nI k, nI (q + 1), fr, aI, aG, upd aF q (nI (tm_m n f (G g))), upd aW (tm_m n f (G g)) (aW f + 1), upd aL (tm_m n f (G g)) (nI g), upd aS (tm_m n f (G g)) (nI f), aR, aQ, aZ, aC)) :
    wpX_extendWord post (nI n, nI e, nI (tm_u n), nI k, nI q, fr, aI, aG, aF, aW, aL, aS, aR, aQ, aZ, aC) (nI f) (nI g) := by
  have H := tm_Npos h
  have hc : tm_m n f (G g) < e := tm_lt h _ _
  unfold wpX_extendWord
  refine ⟨vp_in_nI (by omega) (by omega), ?_⟩
  rw [nI_clamp (by omega : g < 2 ^ 31), hGa]
  refine tx_mul (nI n) (nI e) (nI (tm_u n)) (nI k) (nI q) fr aI aG aF aW aL aS aR aQ aZ aC h hf hG hI ?_
  refine ⟨vp_in_nI (by omega) (by omega), ?_⟩
  rw [nI_clamp (by omega : tm_m n f (G g) < 2 ^ 31), nI_clamp (by omega : f < 2 ^ 31)]
  by_cases z : aW (tm_m n f (G g)) = -1
  · obtain ⟨h1, h2⟩ := hB z
    refine br_t z ⟨vp_in_nI (by omega) (by omega), vp_in_nI (by omega) (by omega), nm_e ⟨vp_in_nI (by omega) (by omega), nm_e ⟨vp_in_nI (by omega) (by omega), nm_e ⟨vp_in_nI (by omega) (by omega), ?_⟩⟩⟩⟩
    rw [nI_clamp (by omega : q < 2 ^ 31)]
    exact nm_e (nm_r (nI_1 q) h2)
  · exact br_f z (hA z)
theorem tx_68 (fp fm fi fg fe fr : Int32) (aI aG aF aW aL aS aR aQ aZ aC : Nat → Int32) {post : SX → Prop} {J50 : Int32 → Int32 → Int32 → Int32 → Int32 → Int32 → Int32 → (Nat → Int32) → (Nat → Int32) → (Nat → Int32) → (Nat → Int32) → (Nat → Int32) → (Nat → Int32) → (Nat → Int32) → (Nat → Int32) → (Nat → Int32) → (Nat → Int32) → Prop} {n e k i : Nat} {G : Nat → Nat} (h : tm_N n e) (hk : k ≤ 4) (hG : ∀ g, g < k → G g < e ∧ aG g = nI (G g)) (hI : tm_XI n e aI)
    (hJ : ∀ q fo l N aF aW aL aS, tm_Q n e k G i k q fo l N aF aW aL aS → i < q → J50 (nI (i + 1)) (nI n) (nI e) (nI (tm_u n)) (nI k) (nI q) fr aI aG aF aW aL aS aR aQ aZ aC) :
    ∀ d g, g + d = k → ∀ q fo l N aF aW aL aS, tm_Q n e k G i g q fo l N aF aW aL aS → i < q → wX_findElements_68 post J50 (nI i) (d + 1) (nI g) (nI n) (nI e) (nI (tm_u n)) (nI k) (nI q) fr aI aG aF aW aL aS aR aQ aZ aC := by
  have H := tm_Npos h
  intro d
  induction d with
  | zero =>
    intro g hgd q fo l N aF aW aL aS hQ hi
    obtain rfl : g = k := by omega
    exact br_t (nI_le (Nat.le_refl _) (by omega)) (nm_r (nI_1 i) (hJ q fo l N aF aW aL aS hQ hi))
  | succ d ih =>
    intro g hgd q fo l N aF aW aL aS hQ hi
    have hq0 : q ≤ e := by rw [hQ.1.2]; exact tm_cle _ _
    refine br_f (nI_ge (by omega) (by omega)) ⟨vp_in_nI (by omega) (by omega), ?_⟩
    rw [nI_clamp (by omega : i < 2 ^ 31), (hQ.2.1 i hi).2.1]
    refine tx_ext fp fm fi fg fe fr aI aG aF aW aL aS aR aQ aZ aC (G := G) h hk (hQ.2.1 i hi).1 (by omega) (hG g (by omega)).1 (hG g (by omega)).2 hI hq0 (fun z => ?_) (fun z => ?_)
    · exact nm_r (nI_1 g) (ih (g + 1) (by omega) q fo l N aF aW aL aS (tm_Qa h hQ hi z) hi)
    · obtain ⟨h1, h2⟩ := tm_Qb h hk (by omega) hQ hi z
      exact ⟨h1, nm_r (nI_1 g) (ih (g + 1) (by omega) _ _ _ _ _ _ _ _ h2 (by omega))⟩
theorem tx_50 (fp fm fi fg fe fr : Int32) (aI aG aF aW aL aS aR aQ aZ aC : Nat → Int32) {post : SX → Prop} {n e k : Nat} {G : Nat → Nat} (h : tm_N n e) (hk : k ≤ 4) (hG : ∀ g, g < k → G g < e ∧ aG g = nI (G g)) (hI : tm_XI n e aI)
    (hp : ∀ q fo l N aF aW aL aS, tm_XF n e k G q fo l N aF aW aL aS → post (nI n, nI e, nI (tm_u n), nI k, nI q, fr, aI, aG, aF, aW, aL, aS, aR, aQ, aZ, aC)) :
    ∀ d i, i + d = e → ∀ q fo l N aF aW aL aS, tm_Q n e k G i 0 q fo l N aF aW aL aS → i ≤ q → wX_findElements_50 post (d + 1) (nI i) (nI n) (nI e) (nI (tm_u n)) (nI k) (nI q) fr aI aG aF aW aL aS aR aQ aZ aC := by
  have H := tm_Npos h
  intro d
  induction d with
  | zero =>
    intro i hid q fo l N aF aW aL aS hQ hi
    have hq0 : q ≤ e := by rw [hQ.1.2]; exact tm_cle _ _
    obtain rfl : i = e := by omega
    exact br_t (nI_le (Nat.le_refl _) (by omega)) (hp q fo l N aF aW aL aS (tm_QF h hQ (by omega)))
  | succ d ih =>
    intro i hid q fo l N aF aW aL aS hQ hi
    have hq0 : q ≤ e := by rw [hQ.1.2]; exact tm_cle _ _
    refine br_f (nI_ge (by omega) (by omega)) (pk_le q i (fun z => ?_) (fun z => ⟨k + 1, ?_⟩))
    · exact hp q fo l N aF aW aL aS (tm_QF h hQ z)
    · exact tx_68 fp fm fi fg fe fr aI aG aF aW aL aS aR aQ aZ aC h hk hG hI (fun q fo l N aF aW aL aS hQ' hi' => ih (i + 1) (by omega) q fo l N aF aW aL aS (tm_Qn hk hQ' hi') (by omega)) k 0 (by omega) q fo l N aF aW aL aS hQ z
theorem tx_fe2 (fp fm fi fg fe fr : Int32) (aI aG aF aW aL aS aR aQ aZ aC : Nat → Int32) {post : SX → Prop} {n e k : Nat} {G : Nat → Nat} (h : tm_N n e) (hk : k ≤ 4) (hG : ∀ g, g < k → G g < e ∧ aG g = nI (G g)) (hI : tm_XI n e aI)
    (hp : ∀ q fo l N aF aW aL aS, tm_XF n e k G q fo l N aF aW aL aS → post (nI n, nI e, nI (tm_u n), nI k, nI q, fr, aI, aG, aF, aW, aL, aS, aR, aQ, aZ, aC)) :
    ∀ d c, c + d = e → ∀ aW, (∀ f, f < c → aW f = -1) → wX_findElements_2 post (nI n) (nI e) (nI (tm_u n)) (nI k) fe fr (d + 1) (nI c) aI aG aF aW aL aS aR aQ aZ aC := by
  have H := tm_Npos h
  intro d
  induction d with
  | zero =>
    intro c hcd aW hw
    obtain rfl : c = e := by omega
    have hu := tm_ult h
    refine br_t (nI_le (Nat.le_refl _) (by omega)) ⟨vp_in_nI (by omega) (by omega), nm_e (nm_e ⟨c + 1, ?_⟩)⟩
    rw [nI_clamp (by omega)]
    exact tx_50 fp fm fi fg fe fr aI aG aF aW aL aS aR aQ aZ aC h hk hG hI hp c 0 (by omega) 1 _ _ _ _ _ _ _ (tm_Q0 h hw) (by omega)
  | succ d ih =>
    intro c hcd aW hw
    refine br_f (nI_ge (by omega) (by omega)) ⟨vp_in_nI (by omega) (by omega), nm_e (nm_r (nI_1 c) (ih (c + 1) (by omega) _ ?_))⟩
    intro f hf
    rw [nI_clamp (by omega)]
    by_cases z : f = c
    · subst z; exact pk_us
    · rw [pk_un z]; exact hw f (by omega)
theorem tx_fe (fp fm fi fg fe fr : Int32) (aI aG aF aW aL aS aR aQ aZ aC : Nat → Int32) {post : SX → Prop} {n e k : Nat} {G : Nat → Nat} (h : tm_N n e) (hk : k ≤ 4) (hG : ∀ g, g < k → G g < e ∧ aG g = nI (G g)) (hI : tm_XI n e aI)
    (hp : ∀ q fo l N aF aW aL aS, tm_XF n e k G q fo l N aF aW aL aS → post (nI n, nI e, nI (tm_u n), nI k, nI q, fr, aI, aG, aF, aW, aL, aS, aR, aQ, aZ, aC)) : wpX_findElements post (nI n, nI e, nI (tm_u n), nI k, fe, fr, aI, aG, aF, aW, aL, aS, aR, aQ, aZ, aC) :=
  ⟨e + 1, tx_fe2 fp fm fi fg fe fr aI aG aF aW aL aS aR aQ aZ aC h hk hG hI hp e 0 (by omega) aW (fun f hf => by omega)⟩
end
section
/-! X: the sets -/
theorem tx_b1 : vp_nar .boolean 1 = 1 := rfl
theorem tx_b0 : vp_nar .boolean 0 = 0 := rfl
theorem tx_10 : (1 : Int32) ≠ 0 := by decide
def tm_V (n e k : Nat) (G : Nat → Nat) (d a q : Nat) (fo : Nat → Nat) (aR aQ : Nat → Int32) : Prop :=
  (q = tm_c (fun c => aR c = 1) e) ∧
  (∀ j, j < q → fo j < e ∧ aQ j = nI (fo j) ∧ tm_R n k G d a (fo j) ∧ aR (fo j) = 1) ∧
  (∀ c, c < e → aR c = 0 ∨ (aR c = 1 ∧ ∃ j, j < q ∧ fo j = c))
def tm_V1 (n k : Nat) (G : Nat → Nat) (d i g : Nat) (fo : Nat → Nat) (aR : Nat → Int32) : Prop :=
  ∀ j g', (j < i ∧ g' < k) ∨ (j = i ∧ g' < g) → (d ≠ 1 → aR (tm_m n (fo j) (G g')) = 1) ∧ (d ≠ 0 → aR (tm_m n (G g') (fo j)) = 1)
theorem tm_V1m {n k d i g q : Nat} {G fo fo' : Nat → Nat} {aR aR' : Nat → Int32} (h : tm_V1 n k G d i g fo aR) (hi : i < q) (hf : ∀ j, j < q → fo' j = fo j) (hm : ∀ x, aR x = 1 → aR' x = 1) : tm_V1 n k G d i g fo' aR' := by
  intro j g' hz
  rw [hf j (by omega)]
  exact ⟨fun z => hm _ ((h j g' hz).1 z), fun z => hm _ ((h j g' hz).2 z)⟩
theorem tm_Vb {n e k d a q c : Nat} {G fo : Nat → Nat} {aR aQ : Nat → Int32} (hV : tm_V n e k G d a q fo aR aQ) (hc : c < e) (hR : tm_R n k G d a c) (hz : aR c = 0) :
    q + 1 ≤ e ∧ tm_V n e k G d a (q + 1) (tm_up fo q c) (upd aR c 1) (upd aQ q (nI c)) ∧ (∀ x, aR x = 1 → upd aR c 1 x = 1) := by
  obtain ⟨h1, h2, h3⟩ := hV
  have hcn : ∀ j, j < q → fo j ≠ c := by
    intro j hj z
    have h4 := (h2 j hj).2.2.2
    rw [z, hz] at h4
    exact tx_10 h4.symm
  have hcnt : q + 1 = tm_c (fun x => upd aR c 1 x = 1) e := by
    have t := tm_cadd (P := fun x => aR x = 1) (Q := fun x => upd aR c 1 x = 1) (c := c) (fun z => tx_10 (z.symm.trans hz)) e hc (fun x _ => by
      show upd aR c 1 x = 1 ↔ aR x = 1 ∨ x = c
      by_cases z : x = c
      · subst z
        rw [pk_us]
        exact ⟨fun _ => Or.inr rfl, fun _ => rfl⟩
      · rw [pk_un z]
        exact ⟨fun y => Or.inl y, fun y => by
          rcases y with y | y
          · exact y
          · exact absurd y z⟩)
    omega
  refine ⟨by rw [hcnt]; exact tm_cle _ _, ⟨hcnt, fun j hj => ?_, fun x hx => ?_⟩, fun x hx => ?_⟩
  · by_cases z : j = q
    · subst z
      rw [tm_us, pk_us, pk_us]
      exact ⟨hc, rfl, hR, rfl⟩
    · have hjq : j < q := by omega
      rw [tm_un z, pk_un z, pk_un (hcn j hjq)]
      exact h2 j hjq
  · by_cases z : x = c
    · subst z
      rw [pk_us]
      exact Or.inr ⟨rfl, q, by omega, tm_us⟩
    · rw [pk_un z]
      rcases h3 x hx with y | ⟨y, j, hj, e1⟩
      · exact Or.inl y
      · exact Or.inr ⟨y, j, by omega, by rw [tm_un (by omega)]; exact e1⟩
  · by_cases z : x = c
    · rw [z, pk_us]
    · rw [pk_un z]; exact hx
theorem tx_reach (fp fm fi fg fe fr : Int32) (aI aG aF aW aL aS aR aQ aZ aC : Nat → Int32) {post : SX → Prop} {n e k d a q c : Nat} {G fo : Nat → Nat} (h : tm_N n e) (hV : tm_V n e k G d a q fo aR aQ) (hc : c < e) (hR : tm_R n k G d a c)
    (hp : ∀ q' fo' aR' aQ', tm_V n e k G d a q' fo' aR' aQ' → q ≤ q' → (∀ j, j < q → fo' j = fo j) → (∀ x, aR x = 1 → aR' x = 1) → aR' c = 1 → post (nI n, nI e, nI (tm_u n), nI k, fe, nI q', aI, aG, aF, aW, aL, aS, aR', aQ', aZ, aC)) :
    wpX_reach post (nI n, nI e, nI (tm_u n), nI k, fe, nI q, aI, aG, aF, aW, aL, aS, aR, aQ, aZ, aC) (nI c) := by
  have H := tm_Npos h
  unfold wpX_reach
  refine ⟨vp_in_nI (by omega) (by omega), ?_⟩
  rw [nI_clamp (by omega : c < 2 ^ 31)]
  by_cases z : aR c = 0
  · obtain ⟨h1, h2, h3⟩ := tm_Vb hV hc hR z
    refine br_t z ⟨vp_in_nI (by omega) (by omega), nm_e ⟨vp_in_nI (by omega) (by omega), ?_⟩⟩
    rw [nI_clamp (by omega : q < 2 ^ 31)]
    exact nm_e (nm_r (nI_1 q) (hp _ _ _ _ h2 (by omega) (fun j hj => tm_un (by omega)) h3 pk_us))
  · refine br_f z (hp q fo aR aQ hV (Nat.le_refl _) (fun _ _ => rfl) (fun _ y => y) ?_)
    rcases hV.2.2 c hc with y | y
    · exact absurd y z
    · exact y.1
theorem tx_97 (fp fm fi fg fe fr : Int32) (aI aG aF aW aL aS aR aQ aZ aC : Nat → Int32) {post : Int32 → SX → Prop} {J35 J62 : Int32 → Int32 → Int32 → Int32 → Int32 → Int32 → Int32 → (Nat → Int32) → (Nat → Int32) → (Nat → Int32) → (Nat → Int32) → (Nat → Int32) → (Nat → Int32) → (Nat → Int32) → (Nat → Int32) → (Nat → Int32) → (Nat → Int32) → Prop} {n e k d a q b g : Nat} {G fo : Nat → Nat} {x3 : Int32} (h : tm_N n e) (hk : k ≤ 4) (hd : d ≤ 2) (hg : g < k) (hG : ∀ g, g < k → G g < e ∧ aG g = nI (G g)) (hI : tm_XI n e aI) (hV : tm_V n e k G d a q fo aR aQ) (hb : b < e) (hR : tm_R n k G d a b)
    (hJ : ∀ q' fo' aR' aQ', tm_V n e k G d a q' fo' aR' aQ' → q ≤ q' → (∀ j, j < q → fo' j = fo j) → (∀ x, aR x = 1 → aR' x = 1) → (d ≠ 0 → aR' (tm_m n (G g) b) = 1) → J62 (nI (g + 1)) (nI n) (nI e) (nI (tm_u n)) (nI k) fe (nI q') aI aG aF aW aL aS aR' aQ' aZ aC) :
    wX_fillSet_97 post J35 J62 (nI d) x3 (nI b) (nI g) (nI n) (nI e) (nI (tm_u n)) (nI k) fe (nI q) aI aG aF aW aL aS aR aQ aZ aC := by
  unfold wX_fillSet_97
  refine pk_eq d 0 (fun z => nm_r (nI_1 g) (hJ q fo aR aQ hV (Nat.le_refl _) (fun _ _ => rfl) (fun _ y => y) (fun y => absurd z y))) (fun z => ⟨vp_in_nI (by omega) (by omega), ?_⟩)
  rw [nI_clamp (by omega : g < 2 ^ 31), (hG g hg).2]
  refine tx_mul (nI n) (nI e) (nI (tm_u n)) (nI k) fe (nI q) aI aG aF aW aL aS aR aQ aZ aC h (hG g hg).1 hb hI ?_
  refine tx_reach fp fm fi fg fe fr aI aG aF aW aL aS aR aQ aZ aC h hV (tm_lt h _ _) (tm_Rs hR ⟨g, hg, Or.inr ⟨z, rfl⟩⟩) (fun q' fo' aR' aQ' h1 h2 h3 h4 h5 => ?_)
  exact nm_r (nI_1 g) (hJ q' fo' aR' aQ' h1 h2 h3 h4 (fun _ => h5))
theorem tx_62 (fp fm fi fg fe fr : Int32) (aI aG aF aW aL aS aR aQ aZ aC : Nat → Int32) {post : Int32 → SX → Prop} {J35 : Int32 → Int32 → Int32 → Int32 → Int32 → Int32 → Int32 → (Nat → Int32) → (Nat → Int32) → (Nat → Int32) → (Nat → Int32) → (Nat → Int32) → (Nat → Int32) → (Nat → Int32) → (Nat → Int32) → (Nat → Int32) → (Nat → Int32) → Prop} {n e k d a i b : Nat} {G : Nat → Nat} (h : tm_N n e) (hk : k ≤ 4) (hd : d ≤ 2) (hG : ∀ g, g < k → G g < e ∧ aG g = nI (G g)) (hI : tm_XI n e aI)
    (hJ : ∀ q fo aR aQ, tm_V n e k G d a q fo aR aQ → i < q → aR a = 1 → tm_V1 n k G d i k fo aR → J35 (nI (i + 1)) (nI n) (nI e) (nI (tm_u n)) (nI k) fe (nI q) aI aG aF aW aL aS aR aQ aZ aC) :
    ∀ t g, g + t = k → ∀ q fo aR aQ, tm_V n e k G d a q fo aR aQ → i < q → fo i = b → aR a = 1 → tm_V1 n k G d i g fo aR → wX_fillSet_62 post J35 (nI d) (nI i) (nI b) (t + 1) (nI g) (nI n) (nI e) (nI (tm_u n)) (nI k) fe (nI q) aI aG aF aW aL aS aR aQ aZ aC := by
  have H := tm_Npos h
  intro t
  induction t with
  | zero =>
    intro g hgt q fo aR aQ hV hi hb ha h1
    obtain rfl : g = k := by omega
    exact br_t (nI_le (Nat.le_refl _) (by omega)) (nm_r (nI_1 i) (hJ q fo aR aQ hV hi ha h1))
  | succ t ih =>
    intro g hgt q fo aR aQ hV hi hb ha h1
    have hbe : b < e := by rw [← hb]; exact (hV.2.1 i hi).1
    have hRb : tm_R n k G d a b := by rw [← hb]; exact (hV.2.1 i hi).2.2.1
    refine br_f (nI_ge (by omega) (by omega)) (pk_eq d 1 (fun z => ?_) (fun z => ⟨vp_in_nI (by omega) (by omega), ?_⟩))
    · refine tx_97 fp fm fi fg fe fr aI aG aF aW aL aS aR aQ aZ aC h hk hd (by omega) hG hI hV hbe hRb (fun q' fo' aR' aQ' g1 g2 g3 g4 g5 => ?_)
      refine ih (g + 1) (by omega) q' fo' aR' aQ' g1 (by omega) (by rw [g3 i hi, hb]) (g4 a ha) ?_
      intro j g' hz
      by_cases y : j = i ∧ g' = g
      · obtain ⟨rfl, rfl⟩ := y
        rw [g3 j hi, hb]
        exact ⟨fun w => absurd z w, g5⟩
      · exact tm_V1m h1 hi g3 g4 j g' (by omega)
    · rw [nI_clamp (by omega : g < 2 ^ 31), (hG g (by omega)).2]
      refine tx_mul (nI n) (nI e) (nI (tm_u n)) (nI k) fe (nI q) aI aG aF aW aL aS aR aQ aZ aC h hbe (hG g (by omega)).1 hI ?_
      refine tx_reach fp fm fi fg fe fr aI aG aF aW aL aS aR aQ aZ aC h hV (tm_lt h _ _) (tm_Rs hRb ⟨g, by omega, Or.inl ⟨z, rfl⟩⟩) (fun q2 fo2 aR2 aQ2 f1 f2 f3 f4 f5 => ?_)
      refine tx_97 fp fm fi fg fe fr aI aG aF aW aL aS aR2 aQ2 aZ aC h hk hd (by omega) hG hI f1 hbe hRb (fun q' fo' aR' aQ' g1 g2 g3 g4 g5 => ?_)
      have g3' : ∀ j, j < q → fo' j = fo j := fun j hj => by rw [g3 j (by omega), f3 j hj]
      refine ih (g + 1) (by omega) q' fo' aR' aQ' g1 (by omega) (by rw [g3' i hi, hb]) (g4 a (f4 a ha)) ?_
      intro j g' hz
      by_cases y : j = i ∧ g' = g
      · obtain ⟨rfl, rfl⟩ := y
        rw [g3' j hi, hb]
        exact ⟨fun _ => g4 _ f5, g5⟩
      · exact tm_V1m h1 hi g3' (fun x hx => g4 x (f4 x hx)) j g' (by omega)
/-- the set as it stands in reached -/
def tm_RS (n e k : Nat) (G : Nat → Nat) (d a : Nat) (aR : Nat → Int32) : Prop := ∀ c, c < e → (aR c = 1 ∧ tm_R n k G d a c) ∨ (aR c = 0 ∧ ¬ tm_R n k G d a c)
theorem tm_VF {n e k d a i q : Nat} {G fo : Nat → Nat} {aR aQ : Nat → Int32} (h : tm_N n e) (hae : a < e) (hV : tm_V n e k G d a q fo aR aQ) (ha : aR a = 1) (h1 : tm_V1 n k G d i 0 fo aR) (hi : q ≤ i) : q = tm_Z n e k G d a ∧ tm_RS n e k G d a aR := by
  have A : ∀ c, tm_R n k G d a c → c < e ∧ aR c = 1 := by
    intro c hc
    refine tm_Rmin (fun c => c < e ∧ aR c = 1) ⟨hae, ha⟩ (fun b c hb hs => ?_) hc
    obtain ⟨hbe, hb1⟩ := hb
    rcases hV.2.2 b hbe with y | ⟨_, j, hj, e1⟩
    · exact absurd (hb1.symm.trans y) tx_10
    · obtain ⟨g, hg, z⟩ := hs
      have h2 := h1 j g (Or.inl ⟨by omega, hg⟩)
      rw [e1] at h2
      rcases z with z | z
      · rw [z.2]; exact ⟨tm_lt h _ _, h2.1 z.1⟩
      · rw [z.2]; exact ⟨tm_lt h _ _, h2.2 z.1⟩
  have B : ∀ c, c < e → (aR c = 1 ↔ tm_R n k G d a c) := by
    intro c hc
    refine ⟨fun z => ?_, fun z => (A c z).2⟩
    rcases hV.2.2 c hc with y | ⟨_, j, hj, e1⟩
    · exact absurd (z.symm.trans y) tx_10
    · rw [← e1]; exact (hV.2.1 j hj).2.2.1
  refine ⟨by rw [hV.1]; exact tm_ccong e B, fun c hc => ?_⟩
  rcases hV.2.2 c hc with y | y
  · exact Or.inr ⟨y, fun z => tx_10 (((B c hc).mpr z).symm.trans y)⟩
  · exact Or.inl ⟨y.1, (B c hc).mp y.1⟩
theorem tx_35 (fp fm fi fg fe fr : Int32) (aI aG aF aW aL aS aR aQ aZ aC : Nat → Int32) {post : Int32 → SX → Prop} {n e k d a : Nat} {G : Nat → Nat} (h : tm_N n e) (hk : k ≤ 4) (hd : d ≤ 2) (hae : a < e) (hG : ∀ g, g < k → G g < e ∧ aG g = nI (G g)) (hI : tm_XI n e aI)
    (hp : ∀ fr aR aQ, tm_RS n e k G d a aR → post (nI (tm_Z n e k G d a)) (nI n, nI e, nI (tm_u n), nI k, fe, fr, aI, aG, aF, aW, aL, aS, aR, aQ, aZ, aC)) :
    ∀ t i, i + t = e → ∀ q fo aR aQ, tm_V n e k G d a q fo aR aQ → i ≤ q → aR a = 1 → tm_V1 n k G d i 0 fo aR → wX_fillSet_35 post (nI d) (t + 1) (nI i) (nI n) (nI e) (nI (tm_u n)) (nI k) fe (nI q) aI aG aF aW aL aS aR aQ aZ aC := by
  have H := tm_Npos h
  intro t
  induction t with
  | zero =>
    intro i hit q fo aR aQ hV hi ha h1
    have hq : q ≤ e := by rw [hV.1]; exact tm_cle _ _
    obtain ⟨e1, e2⟩ := tm_VF h hae hV ha h1 (by omega)
    refine br_t (nI_le (by omega) (by omega)) ?_
    rw [e1]
    exact hp _ _ _ e2
  | succ t ih =>
    intro i hit q fo aR aQ hV hi ha h1
    have hq : q ≤ e := by rw [hV.1]; exact tm_cle _ _
    refine br_f (nI_ge (by omega) (by omega)) (pk_le q i (fun z => ?_) (fun z => ⟨vp_in_nI (by omega) (by omega), ?_⟩))
    · obtain ⟨e1, e2⟩ := tm_VF h hae hV ha h1 z
      rw [e1]
      exact hp _ _ _ e2
    · refine nm_r (e' := nI (fo i)) ?_ ⟨k + 1, ?_⟩
      · rw [nI_clamp (by omega)]; exact (hV.2.1 i z).2.1
      · refine tx_62 fp fm fi fg fe fr aI aG aF aW aL aS aR aQ aZ aC (a := a) (b := fo i) (G := G) h hk hd hG hI (fun q fo aR aQ hV' hi' ha' h1' => ?_) k 0 (by omega) q fo aR aQ hV z rfl ha (fun j g' hz => h1 j g' (by omega))
        exact ih (i + 1) (by omega) q fo aR aQ hV' (by omega) ha' (fun j g' hz => h1' j g' (by omega))
theorem tx_s2 (fp fm fi fg fe fr : Int32) (aI aG aF aW aL aS aR aQ aZ aC : Nat → Int32) {post : Int32 → SX → Prop} {n e k d a : Nat} {G : Nat → Nat} (h : tm_N n e) (hk : k ≤ 4) (hd : d ≤ 2) (hae : a < e) (hG : ∀ g, g < k → G g < e ∧ aG g = nI (G g)) (hI : tm_XI n e aI)
    (hp : ∀ fr aR aQ, tm_RS n e k G d a aR → post (nI (tm_Z n e k G d a)) (nI n, nI e, nI (tm_u n), nI k, fe, fr, aI, aG, aF, aW, aL, aS, aR, aQ, aZ, aC)) :
    ∀ t c, c + t = e → ∀ aR, (∀ x, x < c → aR x = 0) → wX_fillSet_2 post (nI d) (nI a) (nI n) (nI e) (nI (tm_u n)) (nI k) fe fr (t + 1) (nI c) aI aG aF aW aL aS aR aQ aZ aC := by
  have H := tm_Npos h
  intro t
  induction t with
  | zero =>
    intro c hct aR hw
    obtain rfl : c = e := by omega
    refine br_t (nI_le (Nat.le_refl _) (by omega)) ?_
    have hV0 : tm_V n c k G d a 0 (fun _ => 0) aR aQ := by
      refine ⟨?_, fun j hj => by omega, fun x hx => Or.inl (hw x hx)⟩
      exact (tm_c0 (P := fun x => aR x = 1) c (fun x hx z => tx_10 (z.symm.trans (hw x hx)))).symm
    refine tx_reach fp fm fi fg fe fr aI aG aF aW aL aS aR aQ aZ aC h hV0 hae tm_Rr (fun q' fo' aR' aQ' f1 f2 f3 f4 f5 => ⟨c + 1, ?_⟩)
    exact tx_35 fp fm fi fg fe fr aI aG aF aW aL aS aR aQ aZ aC h hk hd hae hG hI hp c 0 (by omega) q' fo' aR' aQ' f1 (by omega) f5 (fun j g' hz => by omega)
  | succ t ih =>
    intro c hct aR hw
    refine br_f (nI_ge (by omega) (by omega)) ⟨vp_in_nI (by omega) (by omega), nm_e (nm_r (nI_1 c) (ih (c + 1) (by omega) _ ?_))⟩
    intro x hx
    rw [nI_clamp (by omega)]
    by_cases z : x = c
    · subst z; exact pk_us
    · rw [pk_un z]; exact hw x (by omega)
theorem tx_fs (fp fm fi fg fe fr : Int32) (aI aG aF aW aL aS aR aQ aZ aC : Nat → Int32) {post : Int32 → SX → Prop} {n e k d a : Nat} {G : Nat → Nat} (h : tm_N n e) (hk : k ≤ 4) (hd : d ≤ 2) (hae : a < e) (hG : ∀ g, g < k → G g < e ∧ aG g = nI (G g)) (hI : tm_XI n e aI)
    (hp : ∀ fr aR aQ, tm_RS n e k G d a aR → post (nI (tm_Z n e k G d a)) (nI n, nI e, nI (tm_u n), nI k, fe, fr, aI, aG, aF, aW, aL, aS, aR, aQ, aZ, aC)) : wpX_fillSet post (nI n, nI e, nI (tm_u n), nI k, fe, fr, aI, aG, aF, aW, aL, aS, aR, aQ, aZ, aC) (nI d) (nI a) :=
  ⟨e + 1, tx_s2 fp fm fi fg fe fr aI aG aF aW aL aS aR aQ aZ aC h hk hd hae hG hI hp e 0 (by omega) aR (fun x hx => by omega)⟩
end
section
/-! X: the questions -/
def tm_X (n e k : Nat) (G : Nat → Nat) (q : Nat) (fo l N : Nat → Nat) (aI aG aF aW aL aS : Nat → Int32) : Prop :=
  tm_N n e ∧ k ≤ 4 ∧ (∀ g, g < k → G g < e ∧ aG g = nI (G g)) ∧ tm_XI n e aI ∧ tm_XF n e k G q fo l N aF aW aL aS
theorem tm_XE {n e k q : Nat} {G fo l N : Nat → Nat} {aI aG aF aW aL aS : Nat → Int32} (h : tm_X n e k G q fo l N aI aG aF aW aL aS) {c : Nat} (hc : c < e) : aW c = -1 ↔ ¬ tm_E n k G c := by
  obtain ⟨hN, hk, hG, hI, h1, h2, h3, h4, h5⟩ := h
  rcases h4 c hc with y | ⟨j, hj, e1⟩
  · exact ⟨fun _ => y.2, fun _ => y.1⟩
  · obtain ⟨a1, a2, a3, a4, a5, a6⟩ := h2 j hj
    rw [e1] at a3 a4
    exact ⟨fun z => absurd (a3.symm.trans z) (tx_ne1 (by omega)), fun z => absurd (tm_BE a4) z⟩
/-- an element has its place among the found -/
theorem tm_Xj {n e k q : Nat} {G fo l N : Nat → Nat} {aI aG aF aW aL aS : Nat → Int32} (h : tm_X n e k G q fo l N aI aG aF aW aL aS) {c : Nat} (hc : tm_E n k G c) : ∃ j, j < q ∧ fo j = c := by
  rcases h.2.2.2.2.2.2.2.1 c (tm_Elt h.1 hc) with y | y
  · exact absurd hc y.2
  · exact y
theorem tm_Xu {n e k q : Nat} {G fo l N : Nat → Nat} {aI aG aF aW aL aS : Nat → Int32} (h : tm_X n e k G q fo l N aI aG aF aW aL aS) {j j' : Nat} (hj : j < q) (hj' : j' < q) (z : fo j = fo j') : j = j' := by
  rcases Nat.lt_trichotomy j j' with y | y | y
  · exact absurd z (h.2.2.2.2.2.2.1 j j' y hj').2
  · exact y
  · exact absurd z.symm (h.2.2.2.2.2.2.1 j' j y hj).2
theorem tx_gy (fp fm fi fg fe fr : Int32) (aI aG aF aW aL aS aR aQ aZ aC : Nat → Int32) {post : Int32 → Prop} {n e k c : Nat} (h : tm_N n e) (hc : c < e) (hp : post 1) : wpX_isGood post (nI n, nI e, nI (tm_u n), nI k, fe, fr, aI, aG, aF, aW, aL, aS, aR, aQ, aZ, aC) (nI c) := by
  have H := tm_Npos h
  exact br_f (nI_pos (by omega)) (br_f (nI_ge hc (by omega)) hp)
theorem tx_gn (fp fm fi fg fe fr : Int32) (aI aG aF aW aL aS aR aQ aZ aC : Nat → Int32) {post : Int32 → Prop} {n e k : Nat} {v : Int32} (hv : v < 0 ∨ nI e ≤ v) (hp : post 0) : wpX_isGood post (nI n, nI e, nI (tm_u n), nI k, fe, fr, aI, aG, aF, aW, aL, aS, aR, aQ, aZ, aC) v := by
  by_cases z : v < 0
  · exact br_t z hp
  · rcases hv with y | y
    · exact absurd y z
    · exact br_f z (br_t y hp)
theorem tx_ey (fp fm fi fg fe fr : Int32) (aI aG aF aW aL aS aR aQ aZ aC : Nat → Int32) {post : Int32 → Prop} {n e k q c : Nat} {G fo l N : Nat → Nat} (h : tm_X n e k G q fo l N aI aG aF aW aL aS) (hc : tm_E n k G c) (hp : post 1) : wpX_isElement post (nI n, nI e, nI (tm_u n), nI k, fe, fr, aI, aG, aF, aW, aL, aS, aR, aQ, aZ, aC) (nI c) := by
  have H := tm_Npos h.1
  have hce := tm_Elt h.1 hc
  unfold wpX_isElement
  refine tx_gy fp fm fi fg fe fr aI aG aF aW aL aS aR aQ aZ aC h.1 hce (br_f tx_10 ⟨vp_in_nI (by omega) (by omega), ?_⟩)
  rw [nI_clamp (by omega)]
  exact br_f (fun z => (tm_XE h hce).mp z hc) hp
theorem tx_en (fp fm fi fg fe fr : Int32) (aI aG aF aW aL aS aR aQ aZ aC : Nat → Int32) {post : Int32 → Prop} {n e k q c : Nat} {G fo l N : Nat → Nat} (h : tm_X n e k G q fo l N aI aG aF aW aL aS) (hce : c < e) (hc : ¬ tm_E n k G c) (hp : post 0) : wpX_isElement post (nI n, nI e, nI (tm_u n), nI k, fe, fr, aI, aG, aF, aW, aL, aS, aR, aQ, aZ, aC) (nI c) := by
  have H := tm_Npos h.1
  unfold wpX_isElement
  refine tx_gy fp fm fi fg fe fr aI aG aF aW aL aS aR aQ aZ aC h.1 hce (br_f tx_10 ⟨vp_in_nI (by omega) (by omega), ?_⟩)
  rw [nI_clamp (by omega)]
  exact br_t ((tm_XE h hce).mpr hc) hp
theorem tx_eb (fp fm fi fg fe fr : Int32) (aI aG aF aW aL aS aR aQ aZ aC : Nat → Int32) {post : Int32 → Prop} {n e k : Nat} {v : Int32} (hv : v < 0 ∨ nI e ≤ v) (hp : post 0) : wpX_isElement post (nI n, nI e, nI (tm_u n), nI k, fe, fr, aI, aG, aF, aW, aL, aS, aR, aQ, aZ, aC) v := by
  unfold wpX_isElement
  exact tx_gn fp fm fi fg fe fr aI aG aF aW aL aS aR aQ aZ aC hv (br_t rfl hp)
noncomputable def tm_el (P : Nat → Prop) (v : Int32) : Nat → Nat → Int32 → Int32
  | 0, _, _ => -1
  | d + 1, c, b => if tm_b (P c) = true then (if b = v then nI c else tm_el P v d (c + 1) (b + 1)) else tm_el P v d (c + 1) b
theorem tx_el4 (fp fm fi fg fe fr : Int32) (aI aG aF aW aL aS aR aQ aZ aC : Nat → Int32) {post : Int32 → Prop} {n e k q : Nat} {G fo l N : Nat → Nat} {v : Int32} (h : tm_X n e k G q fo l N aI aG aF aW aL aS) : ∀ d c b, c + d = e → post (tm_el (tm_E n k G) v d c b) → wX_element_4 post v (nI n) (nI e) (nI (tm_u n)) (nI k) fe fr aI aG aF aW aL aS aR aQ aZ aC (d + 1) b (nI c) := by
  have H := tm_Npos h.1
  intro d
  induction d with
  | zero =>
    intro c b hcd hp
    exact br_t (nI_le (by omega) (by omega)) hp
  | succ d ih =>
    intro c b hcd hp
    refine br_f (nI_ge (by omega) (by omega)) ?_
    unfold tm_el at hp
    by_cases z : tm_E n k G c
    · rw [tm_bt z, if_pos rfl] at hp
      refine tx_ey fp fm fi fg fe fr aI aG aF aW aL aS aR aQ aZ aC h z (br_f tx_10 ?_)
      by_cases y : b = v
      · rw [if_pos y] at hp
        exact br_t y hp
      · rw [if_neg y] at hp
        exact br_f y (nm_e (nm_r (nI_1 c) (ih (c + 1) _ (by omega) hp)))
    · rw [tm_bf z, if_neg (by decide)] at hp
      exact tx_en fp fm fi fg fe fr aI aG aF aW aL aS aR aQ aZ aC h (by omega) z (br_t rfl (nm_r (nI_1 c) (ih (c + 1) b (by omega) hp)))
theorem tx_el (fp fm fi fg fe fr : Int32) (aI aG aF aW aL aS aR aQ aZ aC : Nat → Int32) {post : Int32 → Prop} {n e k q : Nat} {G fo l N : Nat → Nat} {v : Int32} (h : tm_X n e k G q fo l N aI aG aF aW aL aS) (hp : post (tm_el (tm_E n k G) v e 0 0)) : wpX_element post (nI n, nI e, nI (tm_u n), nI k, fe, fr, aI, aG, aF, aW, aL, aS, aR, aQ, aZ, aC) v :=
  ⟨e + 1, tx_el4 fp fm fi fg fe fr aI aG aF aW aL aS aR aQ aZ aC h e 0 0 (by omega) hp⟩
theorem tx_le50 (fp fm fi fg fe fr : Int32) (aI aG aF aW aL aS aR aQ aZ aC : Nat → Int32) {post : Int32 → Prop} {n e k q p : Nat} {G fo l N : Nat → Nat} (h : tm_X n e k G q fo l N aI aG aF aW aL aS) : ∀ t j, j < q → l j = p + 1 + t → post (nI (N j / 4 ^ t % 4)) → wX_letter_50 post (nI p) (nI n) (nI e) (nI (tm_u n)) (nI k) fe fr aI aG aF aW aL aS aR aQ aZ aC (t + 1) (nI (fo j)) (nI (p + t)) := by
  have H := tm_Npos h.1
  obtain ⟨hN, hk, hG, hI, h1, h2, h3, h4, h5⟩ := h
  intro t
  induction t with
  | zero =>
    intro j hj hl hp
    obtain ⟨a1, a2, a3, a4, a5, a6⟩ := h2 j hj
    obtain ⟨p', g', b1, b2, b3, b4, b5, b6⟩ := a6 (by
      by_cases z : j = 0
      · subst z; omega
      · omega)
    refine br_t (nI_le (by omega) (by omega)) ⟨vp_in_nI (by omega) (by omega), ?_⟩
    rw [nI_clamp (by omega), b3]
    rw [Nat.pow_zero, Nat.div_one, b6, show (4 * N p' + g') % 4 = g' from by omega] at hp
    exact hp
  | succ t ih =>
    intro j hj hl hp
    obtain ⟨a1, a2, a3, a4, a5, a6⟩ := h2 j hj
    obtain ⟨p', g', b1, b2, b3, b4, b5, b6⟩ := a6 (by
      by_cases z : j = 0
      · subst z; omega
      · omega)
    refine br_f (nI_ge (by omega) (by omega)) ⟨vp_in_nI (by omega) (by omega), nm_r (e' := nI (fo p')) ?_ (nm_r (e' := nI (p + t)) (pk_m1 (p + t)) (ih p' (by omega) (by omega) ?_))⟩
    · rw [nI_clamp (by omega), b4]
    · rw [Nat.pow_succ, Nat.mul_comm, ← Nat.div_div_eq_div_mul, b6, show (4 * N p' + g') / 4 = N p' from by omega] at hp
      exact hp
theorem tx_id4 (fp fm fi fg fe fr : Int32) (aI aG aF aW aL aS aR aQ aZ aC : Nat → Int32) {post : Int32 → Prop} {n e k q : Nat} {G fo l N : Nat → Nat} (h : tm_X n e k G q fo l N aI aG aF aW aL aS) (hp : post (nI (tm_c (fun j => tm_m n (fo j) (fo j) = fo j) q))) : ∀ d i, i + d = q → wX_idempotents_4 post (nI n) (nI e) (nI (tm_u n)) (nI k) (nI q) fr aI aG aF aW aL aS aR aQ aZ aC (d + 1) (nI (tm_c (fun j => tm_m n (fo j) (fo j) = fo j) i)) (nI i) := by
  have H := tm_Npos h.1
  have hq : q ≤ e := h.2.2.2.2.1.2.1
  intro d
  induction d with
  | zero =>
    intro i hid
    obtain rfl : i = q := by omega
    exact br_t (nI_le (by omega) (by omega)) hp
  | succ d ih =>
    intro i hid
    obtain ⟨a1, a2, a3, a4, a5, a6⟩ := h.2.2.2.2.2.1 i (by omega)
    refine br_f (nI_ge (by omega) (by omega)) ⟨vp_in_nI (by omega) (by omega), nm_r (e' := nI (fo i)) ?_ (tx_mul (nI n) (nI e) (nI (tm_u n)) (nI k) (nI q) fr aI aG aF aW aL aS aR aQ aZ aC h.1 a1 a1 h.2.2.2.1 ?_)⟩
    · rw [nI_clamp (by omega), a2]
    · have a7 := tm_lt h.1 (fo i) (fo i)
      have t := ih (i + 1) (by omega)
      refine pk_eq (tm_m n (fo i) (fo i)) (fo i) (fun z => ?_) (fun z => ?_)
      · refine nm_r (nI_1 _) (nm_r (nI_1 i) ?_)
        rw [tm_ct (P := fun j => tm_m n (fo j) (fo j) = fo j) z] at t
        exact t
      · refine nm_r (nI_1 i) ?_
        rw [tm_cf (P := fun j => tm_m n (fo j) (fo j) = fo j) z] at t
        exact t
theorem tx_un4 (fp fm fi fg fe fr : Int32) (aI aG aF aW aL aS aR aQ aZ aC : Nat → Int32) {post : Int32 → Prop} {n e k q : Nat} {G fo l N : Nat → Nat} (h : tm_X n e k G q fo l N aI aG aF aW aL aS) (hp : post (nI (tm_c (fun j => tm_rk n (fo j) = n) q))) : ∀ d i, i + d = q → wX_units_4 post (nI n) (nI e) (nI (tm_u n)) (nI k) (nI q) fr aI aG aF aW aL aS aR aQ aZ aC (d + 1) (nI (tm_c (fun j => tm_rk n (fo j) = n) i)) (nI i) := by
  have H := tm_Npos h.1
  have hq : q ≤ e := h.2.2.2.2.1.2.1
  intro d
  induction d with
  | zero =>
    intro i hid
    obtain rfl : i = q := by omega
    exact br_t (nI_le (by omega) (by omega)) hp
  | succ d ih =>
    intro i hid
    obtain ⟨a1, a2, a3, a4, a5, a6⟩ := h.2.2.2.2.2.1 i (by omega)
    refine br_f (nI_ge (by omega) (by omega)) ⟨vp_in_nI (by omega) (by omega), ?_⟩
    rw [nI_clamp (by omega : i < 2 ^ 31), a2]
    refine tx_ci (nI n) (nI e) (nI (tm_u n)) (nI k) (nI q) fr aI aG aF aW aL aS aR aQ aZ aC h.1 a1 h.2.2.2.1 ?_
    have a7 : tm_rk n (fo i) < 5 := by
      show _ + _ + _ + _ < 5
      omega
    have t := ih (i + 1) (by omega)
    refine pk_eq (tm_rk n (fo i)) n (fun z => ?_) (fun z => ?_)
    · refine nm_r (nI_1 _) (nm_r (nI_1 i) ?_)
      rw [tm_ct (P := fun j => tm_rk n (fo j) = n) z] at t
      exact t
    · refine nm_r (nI_1 i) ?_
      rw [tm_cf (P := fun j => tm_rk n (fo j) = n) z] at t
      exact t
/-! powers: index and period -/
def tm_rt (n c j : Nat) : Prop := tm_p n c (j + tm_q n) = tm_p n c j
def tm_Ix (n c j : Nat) : Prop := tm_rt n c j ∧ ∀ j', j' < j → ¬ tm_rt n c j'
def tm_Pe (n c j m : Nat) : Prop := 1 ≤ m ∧ tm_p n c (j + m) = tm_p n c j ∧ ∀ m', 1 ≤ m' → m' < m → tm_p n c (j + m') ≠ tm_p n c j
theorem tm_qb {n e : Nat} (h : tm_N n e) : 1 ≤ tm_q n ∧ tm_q n ≤ e ∧ tm_q n ≤ 12 := by
  rcases h with ⟨h, h'⟩ | ⟨h, h'⟩ | ⟨h, h'⟩ <;> subst h h' <;> decide
theorem tx_st5 (fp fm fi fg fe fr : Int32) (aI aG aF aW aL aS aR aQ aZ aC : Nat → Int32) {post : Int32 → Prop} {n e k c j : Nat} (h : tm_N n e) (hI : tm_XI n e aI) (hc : c < e)
    (hY : ∀ m, m ≤ e → tm_Pe n c j m → post (nI m)) (hZ : (∀ m, 1 ≤ m → m ≤ e → tm_p n c (j + m) ≠ tm_p n c j) → post 0) :
    ∀ t m, m + t = e → (∀ m', 1 ≤ m' → m' ≤ m → tm_p n c (j + m') ≠ tm_p n c j) → wX_stepsToReturn_5 post (nI (tm_p n c j)) (nI c) (nI n) (nI e) (nI (tm_u n)) (nI k) fe fr aI aG aF aW aL aS aR aQ aZ aC (t + 1) (nI (tm_p n c (j + m))) (nI (m + 1)) := by
  have H := tm_Npos h
  intro t
  induction t with
  | zero =>
    intro m hm hn
    exact br_t (nI_lt (by omega) (by omega)) (hZ fun m' h1 h2 => hn m' h1 (by omega))
  | succ t ih =>
    intro m hm hn
    have hj := tm_plt h hc (j + m)
    have hj' := tm_plt h hc j
    have hm' := tm_lt h (tm_p n c (j + m)) c
    refine br_f (nI_nlt (by omega) (by omega)) (tx_mul (nI n) (nI e) (nI (tm_u n)) (nI k) fe fr aI aG aF aW aL aS aR aQ aZ aC h hj hc hI (pk_eq (tm_m n (tm_p n c (j + m)) c) (tm_p n c j) (fun z => ?_) (fun z => ?_)))
    · exact hY (m + 1) (by omega) ⟨by omega, z, fun m' h1 h2 => hn m' h1 (by omega)⟩
    · refine nm_r (nI_1 (m + 1)) (ih (m + 1) (by omega) fun m' h1 h2 => ?_)
      by_cases y : m' = m + 1
      · subst y; exact z
      · exact hn m' h1 (by omega)
theorem tx_st (fp fm fi fg fe fr : Int32) (aI aG aF aW aL aS aR aQ aZ aC : Nat → Int32) {post : Int32 → Prop} {n e k c j : Nat} (h : tm_N n e) (hI : tm_XI n e aI) (hc : c < e)
    (hY : ∀ m, m ≤ e → tm_Pe n c j m → post (nI m)) (hZ : ¬ tm_rt n c j → post 0) : wpX_stepsToReturn post (nI n, nI e, nI (tm_u n), nI k, fe, fr, aI, aG, aF, aW, aL, aS, aR, aQ, aZ, aC) (nI (tm_p n c j)) (nI c) :=
  ⟨e + 1, tx_st5 fp fm fi fg fe fr aI aG aF aW aL aS aR aQ aZ aC h hI hc hY (fun z => hZ (z _ (tm_qb h).1 (tm_qb h).2.1)) e 0 (by omega) (fun m' h1 h2 => by omega)⟩
theorem tx_fr4 (fp fm fi fg fe fr : Int32) (aI aG aF aW aL aS aR aQ aZ aC : Nat → Int32) {post : Int32 → Prop} {n e k c : Nat} (h : tm_N n e) (hI : tm_XI n e aI) (hc : c < e)
    (hp : ∀ j, j ≤ 2 → tm_Ix n c j → post (nI (j + 1))) :
    ∀ t j, j + t = 2 → (∀ j', j' < j → ¬ tm_rt n c j') → wX_firstRepeatedExponent_4 post (nI c) (nI n) (nI e) (nI (tm_u n)) (nI k) fe fr aI aG aF aW aL aS aR aQ aZ aC (t + 1) (nI (tm_p n c j)) (nI (j + 1)) := by
  have H := tm_Npos h
  intro t
  induction t with
  | zero =>
    intro j hj hn
    obtain rfl : j = 2 := by omega
    refine br_f (nI_nlt (by omega) (by omega)) (tx_st fp fm fi fg fe fr aI aG aF aW aL aS aR aQ aZ aC h hI hc (fun m hm hP => ?_) (fun z => ?_))
    · refine br_f (nI_nle (by have := hP.1; omega) (by omega)) (hp 2 (by omega) ⟨tm_per h hc, hn⟩)
    · exact absurd (tm_per h hc) z
  | succ t ih =>
    intro j hj hn
    refine br_f (nI_nlt (by omega) (by omega)) (tx_st fp fm fi fg fe fr aI aG aF aW aL aS aR aQ aZ aC h hI hc (fun m hm hP => ?_) (fun z => ?_))
    · exact br_f (nI_nle (by have := hP.1; omega) (by omega)) (hp j (by omega) ⟨tm_ret h hc hP.1 hP.2.1, hn⟩)
    · refine br_t (by decide) (tx_mul (nI n) (nI e) (nI (tm_u n)) (nI k) fe fr aI aG aF aW aL aS aR aQ aZ aC h (tm_plt h hc j) hc hI (nm_r (nI_1 (j + 1)) (ih (j + 1) (by omega) fun j' hj' => ?_)))
      by_cases y : j' = j
      · subst y; exact z
      · exact hn j' (by omega)
theorem tx_fr (fp fm fi fg fe fr : Int32) (aI aG aF aW aL aS aR aQ aZ aC : Nat → Int32) {post : Int32 → Prop} {n e k c : Nat} (h : tm_N n e) (hI : tm_XI n e aI) (hc : c < e)
    (hp : ∀ j, j ≤ 2 → tm_Ix n c j → post (nI (j + 1))) : wpX_firstRepeatedExponent post (nI n, nI e, nI (tm_u n), nI k, fe, fr, aI, aG, aF, aW, aL, aS, aR, aQ, aZ, aC) (nI c) :=
  ⟨2 + 1, tx_fr4 fp fm fi fg fe fr aI aG aF aW aL aS aR aQ aZ aC h hI hc hp 2 0 (by omega) (fun j' hj' => by omega)⟩
theorem tx_pe21 (fp fm fi fg fe fr : Int32) (aI aG aF aW aL aS aR aQ aZ aC : Nat → Int32) {post : Int32 → Prop} {n e k c j : Nat} (h : tm_N n e) (hI : tm_XI n e aI) (hc : c < e) (hj : j ≤ 2) (hr : tm_rt n c j)
    (hp : ∀ m, m ≤ e → tm_Pe n c j m → post (nI m)) :
    ∀ t i, i + t = j → wX_period_21 post (nI c) (nI (j + 1)) (nI n) (nI e) (nI (tm_u n)) (nI k) fe fr aI aG aF aW aL aS aR aQ aZ aC (t + 1) (nI (tm_p n c i)) (nI (i + 1)) := by
  have H := tm_Npos h
  intro t
  induction t with
  | zero =>
    intro i hi
    obtain rfl : i = j := by omega
    exact br_t (nI_le (by omega) (by omega)) (tx_st fp fm fi fg fe fr aI aG aF aW aL aS aR aQ aZ aC h hI hc hp (fun z => absurd hr z))
  | succ t ih =>
    intro i hi
    exact br_f (nI_ge (by omega) (by omega)) (tx_mul (nI n) (nI e) (nI (tm_u n)) (nI k) fe fr aI aG aF aW aL aS aR aQ aZ aC h (tm_plt h hc i) hc hI (nm_r (nI_1 (i + 1)) (ih (i + 1) (by omega))))
end
section
/-! X: classes, the kernel, commuting -/
def tm_q2 (n k : Nat) (G : Nat → Nat) (d a b : Nat) : Prop := tm_R n k G d a b ∧ tm_R n k G d b a
theorem tm_qt {n k d a b c : Nat} {G : Nat → Nat} (h : tm_q2 n k G d a b) (h' : tm_q2 n k G d b c) : tm_q2 n k G d a c := ⟨tm_Rt h.1 h'.1, tm_Rt h'.2 h.2⟩
theorem tm_qs {n k d a b : Nat} {G : Nat → Nat} (h : tm_q2 n k G d a b) : tm_q2 n k G d b a := ⟨h.2, h.1⟩
theorem tm_qr {n k d a : Nat} {G : Nat → Nat} : tm_q2 n k G d a a := ⟨tm_Rr, tm_Rr⟩
theorem tx_mc9 (fp fm fi fg fe fr : Int32) (aI aG aF aW aL aS aR aQ aZ aC : Nat → Int32) {post : SX → Prop} {n e k q d c : Nat} {G fo l N : Nat → Nat} {aC0 : Nat → Int32} (h : tm_X n e k G q fo l N aI aG aF aW aL aS) (hc : c < e) (hR : tm_RS n e k G d c aR) (hZ : ∀ j, j < q → aZ (fo j) = nI (tm_Z n e k G d (fo j))) (hZc : aZ c = nI (tm_Z n e k G d c))
    (hp : ∀ aC, (∀ j, j < q → (tm_q2 n k G d c (fo j) → aC (fo j) = 1) ∧ (¬ tm_q2 n k G d c (fo j) → aC (fo j) = aC0 (fo j))) → post (nI n, nI e, nI (tm_u n), nI k, nI q, fr, aI, aG, aF, aW, aL, aS, aR, aQ, aZ, aC)) :
    ∀ t i, i + t = q → ∀ aC, (∀ j, j < q → (j < i → tm_q2 n k G d c (fo j) → aC (fo j) = 1) ∧ (¬ tm_q2 n k G d c (fo j) → aC (fo j) = aC0 (fo j))) → wX_markClass_9 post (nI c) (nI n) (nI e) (nI (tm_u n)) (nI k) (nI q) fr (t + 1) (nI i) aI aG aF aW aL aS aR aQ aZ aC := by
  have H := tm_Npos h.1
  have hq : q ≤ e := h.2.2.2.2.1.2.1
  intro t
  induction t with
  | zero =>
    intro i hi aC hA
    exact br_t (nI_le (by omega) (by omega)) (hp aC fun j hj => ⟨fun z => (hA j hj).1 (by omega) z, (hA j hj).2⟩)
  | succ t ih =>
    intro i hi aC hA
    obtain ⟨a1, a2, a3, a4, a5, a6⟩ := h.2.2.2.2.2.1 i (by omega)
    refine br_f (nI_ge (by omega) (by omega)) ⟨vp_in_nI (by omega) (by omega), nm_r (e' := nI (fo i)) (by rw [nI_clamp (by omega), a2]) ⟨vp_in_nI (by omega) (by omega), ?_⟩⟩
    rw [nI_clamp (by omega : fo i < 2 ^ 31), nI_clamp (by omega : c < 2 ^ 31), hZ i (by omega), hZc]
    have hN : ¬ tm_q2 n k G d c (fo i) → ∀ j, j < q → (j < i + 1 → tm_q2 n k G d c (fo j) → aC (fo j) = 1) ∧ (¬ tm_q2 n k G d c (fo j) → aC (fo j) = aC0 (fo j)) := by
      intro hn j hj
      refine ⟨fun h1 h2 => ?_, (hA j hj).2⟩
      by_cases y : j = i
      · subst y; exact absurd h2 hn
      · exact (hA j hj).1 (by omega) h2
    rcases hR (fo i) a1 with ⟨r1, r2⟩ | ⟨r1, r2⟩
    · have b1 : tm_Z n e k G d (fo i) ≤ e := tm_Zle
      have b2 : tm_Z n e k G d c ≤ e := tm_Zle
      refine br_f (by rw [r1]; exact tx_10) ⟨vp_in_nI (by omega) (by omega), vp_in_nI (by omega) (by omega), pk_eq (tm_Z n e k G d (fo i)) (tm_Z n e k G d c) (fun z => ?_) (fun z => ?_)⟩
      · have hq2 : tm_q2 n k G d c (fo i) := ⟨r2, (tm_Zeq hc r2).mp z⟩
        refine ⟨vp_in_nI (by omega) (by omega), nm_e (nm_r (nI_1 i) (ih (i + 1) (by omega) _ fun j hj => ?_))⟩
        by_cases y : fo j = fo i
        · rw [y]
          exact ⟨fun _ _ => pk_us, fun w => absurd hq2 w⟩
        · rw [pk_un y]
          refine ⟨fun h1 h2 => (hA j hj).1 (by
            have : j ≠ i := fun w => y (by rw [w])
            omega) h2, (hA j hj).2⟩
      · exact nm_r (nI_1 i) (ih (i + 1) (by omega) aC (hN fun w => z ((tm_Zeq hc r2).mpr w.2)))
    · exact br_t r1 (nm_r (nI_1 i) (ih (i + 1) (by omega) aC (hN fun w => r2 w.1)))
theorem tx_mc (fp fm fi fg fe fr : Int32) (aI aG aF aW aL aS aR aQ aZ aC : Nat → Int32) {post : SX → Prop} {n e k q d c : Nat} {G fo l N : Nat → Nat} (h : tm_X n e k G q fo l N aI aG aF aW aL aS) (hd : d ≤ 2) (hc : c < e) (hZ : ∀ j, j < q → aZ (fo j) = nI (tm_Z n e k G d (fo j))) (hZc : aZ c = nI (tm_Z n e k G d c))
    (hp : ∀ fr aR aQ aC', (∀ j, j < q → (tm_q2 n k G d c (fo j) → aC' (fo j) = 1) ∧ (¬ tm_q2 n k G d c (fo j) → aC' (fo j) = aC (fo j))) → post (nI n, nI e, nI (tm_u n), nI k, nI q, fr, aI, aG, aF, aW, aL, aS, aR, aQ, aZ, aC')) :
    wpX_markClass post (nI n, nI e, nI (tm_u n), nI k, nI q, fr, aI, aG, aF, aW, aL, aS, aR, aQ, aZ, aC) (nI d) (nI c) := by
  unfold wpX_markClass
  refine tx_fs fp fm fi fg (nI q) fr aI aG aF aW aL aS aR aQ aZ aC h.1 h.2.1 hd hc h.2.2.1 h.2.2.2.1 (fun fr aR aQ hR => ⟨q + 1, ?_⟩)
  exact tx_mc9 fp fm fi fg fe fr aI aG aF aW aL aS aR aQ aZ aC (d := d) (aC0 := aC) h hc hR hZ hZc (fun aC' hA => hp fr aR aQ aC' hA) q 0 (by omega) aC (fun j hj => ⟨fun z => by omega, fun _ => rfl⟩)
def tm_fst (n k : Nat) (G : Nat → Nat) (d : Nat) (fo : Nat → Nat) (j : Nat) : Prop := ∀ j', j' < j → ¬ tm_q2 n k G d (fo j') (fo j)
theorem tx_c55 (fp fm fi fg fe fr : Int32) (aI aG aF aW aL aS aR aQ aZ aC : Nat → Int32) {post : Int32 → SX → Prop} {n e k q d : Nat} {G fo l N : Nat → Nat} (h : tm_X n e k G q fo l N aI aG aF aW aL aS) (hd : d ≤ 2) (hZ : ∀ j, j < q → aZ (fo j) = nI (tm_Z n e k G d (fo j)))
    (hp : ∀ fr aR aQ aC, post (nI (tm_c (tm_fst n k G d fo) q)) (nI n, nI e, nI (tm_u n), nI k, nI q, fr, aI, aG, aF, aW, aL, aS, aR, aQ, aZ, aC)) :
    ∀ t i, i + t = q → ∀ fr aR aQ aC, (∀ j, j < q → (aC (fo j) = 0 ↔ ∀ j', j' < i → ¬ tm_q2 n k G d (fo j') (fo j))) → wX_classes_55 post (nI d) (t + 1) (nI (tm_c (tm_fst n k G d fo) i)) (nI i) (nI n) (nI e) (nI (tm_u n)) (nI k) (nI q) fr aI aG aF aW aL aS aR aQ aZ aC := by
  have H := tm_Npos h.1
  have hq : q ≤ e := h.2.2.2.2.1.2.1
  intro t
  induction t with
  | zero =>
    intro i hi fr aR aQ aC hA
    obtain rfl : i = q := by omega
    exact br_t (nI_le (by omega) (by omega)) (hp fr aR aQ aC)
  | succ t ih =>
    intro i hi fr aR aQ aC hA
    obtain ⟨a1, a2, a3, a4, a5, a6⟩ := h.2.2.2.2.2.1 i (by omega)
    refine br_f (nI_ge (by omega) (by omega)) ⟨vp_in_nI (by omega) (by omega), nm_r (e' := nI (fo i)) (by rw [nI_clamp (by omega), a2]) ⟨vp_in_nI (by omega) (by omega), ?_⟩⟩
    rw [nI_clamp (by omega : fo i < 2 ^ 31)]
    have T := ih (i + 1) (by omega)
    by_cases z : aC (fo i) = 0
    · have hf : tm_fst n k G d fo i := (hA i (by omega)).mp z
      rw [tm_ct hf] at T
      refine br_t z (tx_mc fp fm fi fg fe fr aI aG aF aW aL aS aR aQ aZ aC h hd a1 hZ (hZ i (by omega)) (fun fr aR aQ aC' hC => nm_r (nI_1 _) (nm_r (nI_1 i) (T fr aR aQ aC' fun j hj => ?_))))
      obtain ⟨c1, c2⟩ := hC j hj
      by_cases y : tm_q2 n k G d (fo i) (fo j)
      · rw [c1 y]
        exact ⟨fun w => absurd w tx_10, fun w => absurd y (w i (by omega))⟩
      · rw [c2 y, hA j hj]
        refine ⟨fun w j' hj' => ?_, fun w j' hj' => w j' (by omega)⟩
        by_cases v : j' = i
        · subst v; exact y
        · exact w j' (by omega)
    · have hf : ¬ tm_fst n k G d fo i := fun w => z ((hA i (by omega)).mpr w)
      rw [tm_cf hf] at T
      refine br_f z (nm_r (nI_1 i) (T fr aR aQ aC fun j hj => ?_))
      rw [hA j hj]
      refine ⟨fun w j' hj' y => ?_, fun w j' hj' => w j' (by omega)⟩
      by_cases v : j' = i
      · subst v
        exact hf fun i' hi' x => w i' hi' (tm_qt x y)
      · exact w j' (by omega) y
theorem tx_c11 (fp fm fi fg fe fr : Int32) (aI aG aF aW aL aS aR aQ aZ aC : Nat → Int32) {post : Int32 → SX → Prop} {n e k q d : Nat} {G fo l N : Nat → Nat} (h : tm_X n e k G q fo l N aI aG aF aW aL aS) (hd : d ≤ 2)
    (hp : ∀ fr aR aQ aZ aC, post (nI (tm_c (tm_fst n k G d fo) q)) (nI n, nI e, nI (tm_u n), nI k, nI q, fr, aI, aG, aF, aW, aL, aS, aR, aQ, aZ, aC)) :
    ∀ t i, i + t = q → ∀ fr aR aQ aZ aC, (∀ j, j < i → aZ (fo j) = nI (tm_Z n e k G d (fo j)) ∧ aC (fo j) = 0) → wX_classes_11 post (nI d) (t + 1) (nI i) (nI n) (nI e) (nI (tm_u n)) (nI k) (nI q) fr aI aG aF aW aL aS aR aQ aZ aC := by
  have H := tm_Npos h.1
  have hq : q ≤ e := h.2.2.2.2.1.2.1
  intro t
  induction t with
  | zero =>
    intro i hi fr aR aQ aZ aC hA
    obtain rfl : i = q := by omega
    refine br_t (nI_le (by omega) (by omega)) ⟨i + 1, ?_⟩
    exact tx_c55 fp fm fi fg fe fr aI aG aF aW aL aS aR aQ aZ aC h hd (fun j hj => (hA j hj).1) (fun fr aR aQ aC => hp fr aR aQ aZ aC) i 0 (by omega) fr aR aQ aC (fun j hj => ⟨fun _ j' hj' => by omega, fun _ => (hA j hj).2⟩)
  | succ t ih =>
    intro i hi fr aR aQ aZ aC hA
    obtain ⟨a1, a2, a3, a4, a5, a6⟩ := h.2.2.2.2.2.1 i (by omega)
    refine br_f (nI_ge (by omega) (by omega)) ⟨vp_in_nI (by omega) (by omega), nm_r (e' := nI (fo i)) (by rw [nI_clamp (by omega), a2]) ?_⟩
    refine tx_fs fp fm fi fg (nI q) fr aI aG aF aW aL aS aR aQ aZ aC h.1 h.2.1 hd a1 h.2.2.1 h.2.2.2.1 (fun fr aR aQ hR => ⟨vp_in_nI (by omega) (by omega), ?_⟩)
    refine nm_e ⟨vp_in_nI (by omega) (by omega), nm_e (nm_r (nI_1 i) (ih (i + 1) (by omega) fr aR aQ _ _ fun j hj => ?_))⟩
    rw [nI_clamp (by omega : fo i < 2 ^ 31)]
    by_cases y : fo j = fo i
    · rw [y, pk_us, pk_us]
      exact ⟨rfl, rfl⟩
    · rw [pk_un y, pk_un y]
      exact hA j (by
        have : j ≠ i := fun w => y (by rw [w])
        omega)
theorem tx_kd {post : Int32 → Prop} {d : Nat} (hd : d ≤ 2) (hp : post 1) : wpX_isKind post (nI d) :=
  br_f (nI_pos (by omega)) (br_f (nI_nlt (a := 2) (b := d) hd (by omega)) hp)
theorem tx_kn {post : Int32 → Prop} {v : Int32} (hv : v < 0 ∨ 2 < v) (hp : post 0) : wpX_isKind post v := by
  by_cases z : v < 0
  · exact br_t z hp
  · rcases hv with y | y
    · exact absurd y z
    · exact br_f z (br_t y hp)
theorem tx_ke7 (fp fm fi fg fe fr : Int32) (aI aG aF aW aL aS aR aQ aZ aC : Nat → Int32) {post : Int32 → SX → Prop} {n e k q : Nat} {G fo l N : Nat → Nat} (h : tm_X n e k G q fo l N aI aG aF aW aL aS)
    (hp : ∀ fr aR aQ r, r ≤ q → (∀ j, j < q → r ≤ tm_Z n e k G 2 (fo j)) → (r = q ∨ ∃ j, j < q ∧ r = tm_Z n e k G 2 (fo j)) → post (nI r) (nI n, nI e, nI (tm_u n), nI k, nI q, fr, aI, aG, aF, aW, aL, aS, aR, aQ, aZ, aC)) :
    ∀ t i, i + t = q → ∀ fr aR aQ r, r ≤ q → (∀ j, j < i → r ≤ tm_Z n e k G 2 (fo j)) → (r = q ∨ ∃ j, j < q ∧ r = tm_Z n e k G 2 (fo j)) → wX_kernel_7 post (t + 1) (nI r) (nI i) (nI n) (nI e) (nI (tm_u n)) (nI k) (nI q) fr aI aG aF aW aL aS aR aQ aZ aC := by
  have H := tm_Npos h.1
  have hq : q ≤ e := h.2.2.2.2.1.2.1
  intro t
  induction t with
  | zero =>
    intro i hi fr aR aQ r h1 h2 h3
    obtain rfl : i = q := by omega
    exact br_t (nI_le (by omega) (by omega)) (hp fr aR aQ r h1 h2 h3)
  | succ t ih =>
    intro i hi fr aR aQ r h1 h2 h3
    obtain ⟨a1, a2, a3, a4, a5, a6⟩ := h.2.2.2.2.2.1 i (by omega)
    refine br_f (nI_ge (by omega) (by omega)) ⟨vp_in_nI (by omega) (by omega), ?_⟩
    rw [nI_clamp (by omega : i < 2 ^ 31), a2]
    refine tx_fs fp fm fi fg (nI q) fr aI aG aF aW aL aS aR aQ aZ aC (d := 2) h.1 h.2.1 (Nat.le_refl _) a1 h.2.2.1 h.2.2.2.1 (fun fr aR aQ hR => ?_)
    have b1 : tm_Z n e k G 2 (fo i) ≤ e := tm_Zle
    refine pk_le r (tm_Z n e k G 2 (fo i)) (fun z => ?_) (fun z => ?_)
    · refine nm_r (nI_1 i) (ih (i + 1) (by omega) fr aR aQ r h1 (fun j hj => ?_) h3)
      by_cases y : j = i
      · subst y; exact z
      · exact h2 j (by omega)
    · refine nm_r (nI_1 i) (ih (i + 1) (by omega) fr aR aQ _ (by omega) (fun j hj => ?_) (Or.inr ⟨i, by omega, rfl⟩))
      by_cases y : j = i
      · subst y; exact Nat.le_refl _
      · have := h2 j (by omega); omega
theorem tx_co12 (fp fm fi fg fe fr : Int32) (aI aG aF aW aL aS aR aQ aZ aC : Nat → Int32) {post : Int32 → Prop} {J2 : Int32 → Prop} {n e k i : Nat} {G : Nat → Nat} (h : tm_N n e) (hk : k ≤ 4) (hG : ∀ g, g < k → G g < e ∧ aG g = nI (G g)) (hI : tm_XI n e aI) (hi : i < k)
    (hN : (∃ i j, i < k ∧ j < k ∧ tm_m n (G i) (G j) ≠ tm_m n (G j) (G i)) → post 0) (hJ : (∀ j, j < i → tm_m n (G i) (G j) = tm_m n (G j) (G i)) → J2 (nI (i + 1))) :
    ∀ t j, j + t = i → (∀ j', j' < j → tm_m n (G i) (G j') = tm_m n (G j') (G i)) → wX_commutes_12 post J2 (nI i) (nI n) (nI e) (nI (tm_u n)) (nI k) fe fr aI aG aF aW aL aS aR aQ aZ aC (t + 1) (nI j) := by
  have H := tm_Npos h
  intro t
  induction t with
  | zero =>
    intro j hj hA
    obtain rfl : j = i := by omega
    exact br_t (nI_le (by omega) (by omega)) (nm_r (nI_1 j) (hJ hA))
  | succ t ih =>
    intro j hj hA
    refine br_f (nI_ge (by omega) (by omega)) ⟨vp_in_nI (by omega) (by omega), vp_in_nI (by omega) (by omega), ?_⟩
    rw [nI_clamp (by omega : i < 2 ^ 31), nI_clamp (by omega : j < 2 ^ 31), (hG i hi).2, (hG j (by omega)).2]
    refine tx_mul (nI n) (nI e) (nI (tm_u n)) (nI k) fe fr aI aG aF aW aL aS aR aQ aZ aC h (hG i hi).1 (hG j (by omega)).1 hI ⟨vp_in_nI (by omega) (by omega), vp_in_nI (by omega) (by omega), ?_⟩
    refine tx_mul (nI n) (nI e) (nI (tm_u n)) (nI k) fe fr aI aG aF aW aL aS aR aQ aZ aC h (hG j (by omega)).1 (hG i hi).1 hI ?_
    have b1 := tm_lt h (G i) (G j)
    have b2 := tm_lt h (G j) (G i)
    refine pk_eq (tm_m n (G i) (G j)) (tm_m n (G j) (G i)) (fun z => nm_r (nI_1 j) (ih (j + 1) (by omega) fun j' hj' => ?_)) (fun z => hN ⟨i, j, hi, by omega, z⟩)
    by_cases y : j' = j
    · subst y; exact z
    · exact hA j' (by omega)
theorem tx_co2 (fp fm fi fg fe fr : Int32) (aI aG aF aW aL aS aR aQ aZ aC : Nat → Int32) {post : Int32 → Prop} {n e k : Nat} {G : Nat → Nat} (h : tm_N n e) (hk : k ≤ 4) (hG : ∀ g, g < k → G g < e ∧ aG g = nI (G g)) (hI : tm_XI n e aI)
    (hN : (∃ i j, i < k ∧ j < k ∧ tm_m n (G i) (G j) ≠ tm_m n (G j) (G i)) → post 0) (hY : (∀ i j, i < k → j < k → tm_m n (G i) (G j) = tm_m n (G j) (G i)) → post 1) :
    ∀ t i, i + t = k → (∀ i' j', i' < i → j' < i' → tm_m n (G i') (G j') = tm_m n (G j') (G i')) → wX_commutes_2 post (nI n) (nI e) (nI (tm_u n)) (nI k) fe fr aI aG aF aW aL aS aR aQ aZ aC (t + 1) (nI i) := by
  have H := tm_Npos h
  intro t
  induction t with
  | zero =>
    intro i hi hA
    refine br_t (nI_le (by omega) (by omega)) (hY fun a b ha hb => ?_)
    rcases Nat.lt_trichotomy a b with y | y | y
    · exact (hA b a (by omega) y).symm
    · rw [y]
    · exact hA a b (by omega) y
  | succ t ih =>
    intro i hi hA
    refine br_f (nI_ge (by omega) (by omega)) ⟨i + 1, ?_⟩
    refine tx_co12 fp fm fi fg fe fr aI aG aF aW aL aS aR aQ aZ aC (G := G) h hk hG hI (by omega) hN (fun hB => ih (i + 1) (by omega) fun a b ha hb => ?_) i 0 (by omega) (fun j' hj' => by omega)
    by_cases y : a = i
    · subst y; exact hB b hb
    · exact hA a b (by omega) hb
end
section
/-! Y: images, products, the unit, a new generator -/
theorem ty_n1 {n e : Nat} (h : tm_N n e) : nI n - 1 = nI (n - 1) := pk_sub (b := 1) (by have := tm_Npos h; omega)
theorem ty_im5 (fn fend fcnt : Int32) (yG yT yL : Nat → Int32) (yW : Nat → Int64) (yN : Nat → Int32) (yS : Nat → Int64) {post : Int32 → Prop} {n e k : Nat} (h : tm_N n e) : ∀ t r p, p + t = n - 1 → r < 2 ^ 31 → post (nI (r / n ^ t % n)) → wY_image_5 post (nI n) (nI e) (nI k) yG yT yL yW yN yS (t + 1) (nI r) (nI p) := by
  have H := tm_Npos h
  intro t
  induction t with
  | zero =>
    intro r p hp hr hpo
    rw [Nat.pow_zero, Nat.div_one] at hpo
    refine br_t (by rw [ty_n1 h]; exact nI_le (by omega) (by omega)) (br_t (nI_le (a := 1) (by omega) (by omega)) ⟨nI_ne0 (by omega) (by omega), ?_⟩)
    rw [pk_rem hr (by omega) (by omega)]
    exact hpo
  | succ t ih =>
    intro r p hp hr hpo
    have hd : r / n ≤ r := Nat.div_le_self _ _
    refine br_f (by rw [ty_n1 h]; exact nI_ge (by omega) (by omega)) (br_t (nI_le (a := 1) (by omega) (by omega)) ⟨nI_ne0 (by omega) (by omega), nm_r (pk_div hr (by omega) (by omega)) (nm_r (nI_1 p) (ih (r / n) (p + 1) (by omega) (by omega) ?_))⟩)
    rw [Nat.div_div_eq_div_mul, Nat.mul_comm, ← Nat.pow_succ]
    exact hpo
theorem ty_im (fn fend fcnt : Int32) (yG yT yL : Nat → Int32) (yW : Nat → Int64) (yN : Nat → Int32) (yS : Nat → Int64) {post : Int32 → Prop} {n e k f p : Nat} (h : tm_N n e) (hf : f < e) (hp : p < n) (hpo : post (nI (tm_im n f p))) : wpY_image post (nI n, nI e, nI k, yG, yT, yL, yW, yN, yS) (nI f) (nI p) :=
  ⟨n - 1 - p + 1, ty_im5 fn fend fcnt yG yT yL yW yN yS h (n - 1 - p) f p (by omega) (by have := tm_Npos h; omega) hpo⟩
theorem ty_t5 (fn fend fcnt : Int32) (yG yT yL : Nat → Int32) (yW : Nat → Int64) (yN : Nat → Int32) (yS : Nat → Int64) {post : Int32 → Prop} {n e k f g : Nat} (h : tm_N n e) (hf : f < e) (hg : g < e) (hp : post (nI (tm_m n f g))) : ∀ d p, p + d = n → wY_times_5 post (nI f) (nI g) (nI n) (nI e) (nI k) yG yT yL yW yN yS (d + 1) (nI (tm_mk n f g p)) (nI p) := by
  have H := tm_Npos h
  intro d
  induction d with
  | zero =>
    intro p hp'
    obtain rfl : p = n := by omega
    exact br_t (nI_le (Nat.le_refl _) (by omega)) hp
  | succ d ih =>
    intro p hpd
    refine br_f (nI_ge (by omega) (by omega)) (ty_im fn fend fcnt yG yT yL yW yN yS h hf (by omega) (ty_im fn fend fcnt yG yT yL yW yN yS h hg (tm_imlt h f p) ?_))
    refine nm_r (e' := nI (tm_mk n f g (p + 1))) ?_ (nm_r (nI_1 p) (ih (p + 1) (by omega)))
    rw [pk_mul, nI_add, Nat.mul_comm]
    rfl
theorem ty_times (fn fend fcnt : Int32) (yG yT yL : Nat → Int32) (yW : Nat → Int64) (yN : Nat → Int32) (yS : Nat → Int64) {post : Int32 → Prop} {n e k f g : Nat} (h : tm_N n e) (hf : f < e) (hg : g < e) (hp : post (nI (tm_m n f g))) : wpY_times post (nI n, nI e, nI k, yG, yT, yL, yW, yN, yS) (nI f) (nI g) :=
  ⟨n + 1, ty_t5 fn fend fcnt yG yT yL yW yN yS h hf hg hp n 0 (by omega)⟩
theorem ty_u4 (fn fend fcnt : Int32) (yG yT yL : Nat → Int32) (yW : Nat → Int64) (yN : Nat → Int32) (yS : Nat → Int64) {post : Int32 → Prop} {n e k : Nat} (h : tm_N n e) (hp : post (nI (tm_u n))) : ∀ d p, p + d = n → wY_unit_4 post (nI n) (nI e) (nI k) yG yT yL yW yN yS (d + 1) (nI (tm_uk n p)) (nI p) := by
  have H := tm_Npos h
  intro d
  induction d with
  | zero =>
    intro p hp'
    obtain rfl : p = n := by omega
    refine br_t (nI_le (Nat.le_refl _) (by omega)) ?_
    rw [(tm_ukn h).1]
    exact hp
  | succ d ih =>
    intro p hpd
    refine br_f (nI_ge (by omega) (by omega)) (nm_r (e' := nI (tm_uk n (p + 1))) ?_ (nm_r (nI_1 p) (ih (p + 1) (by omega))))
    rw [pk_mul, nI_add, Nat.mul_comm]
    rfl
theorem ty_unit (fn fend fcnt : Int32) (yG yT yL : Nat → Int32) (yW : Nat → Int64) (yN : Nat → Int32) (yS : Nat → Int64) {post : Int32 → Prop} {n e k : Nat} (h : tm_N n e) (hp : post (nI (tm_u n))) : wpY_unit post (nI n, nI e, nI k, yG, yT, yL, yW, yN, yS) :=
  ⟨n + 1, ty_u4 fn fend fcnt yG yT yL yW yN yS h hp n 0 (by omega)⟩
theorem ty_by (fn fend fcnt : Int32) (yG yT yL : Nat → Int32) (yW : Nat → Int64) (yN : Nat → Int32) (yS : Nat → Int64) {post : Int32 → Prop} {n e k c : Nat} (h : tm_N n e) (hc : c < e) (hp : post 0) : wpY_bad post (nI n, nI e, nI k, yG, yT, yL, yW, yN, yS) (nI c) := by
  have H := tm_Npos h
  exact br_f (nI_pos (by omega)) (br_t (nI_lt hc (by omega)) hp)
theorem ty_bn (fn fend fcnt : Int32) (yG yT yL : Nat → Int32) (yW : Nat → Int64) (yN : Nat → Int32) (yS : Nat → Int64) {post : Int32 → Prop} {n e k : Nat} {v : Int32} (hv : v < 0 ∨ nI e ≤ v) (hp : post 1) : wpY_bad post (nI n, nI e, nI k, yG, yT, yL, yW, yN, yS) v := by
  by_cases z : v < 0
  · exact br_t z hp
  · rcases hv with y | y
    · exact absurd y z
    · exact br_f z (br_f (Int32.not_lt.mpr y) hp)
/-- the table of products with the generators -/
def tm_NX (n e k : Nat) (G : Nat → Nat) (yN : Nat → Int32) : Prop := ∀ g c, g < k → c < e → yN (256 * g + c) = nI (tm_m n c (G g)) ∧ yN (1024 + 256 * g + c) = nI (tm_m n (G g) c)
theorem ty_i1 (g c : Nat) : 256 * nI g + nI c = nI (256 * g + c) := by
  show nI 256 * nI g + nI c = _
  rw [pk_mul, nI_add]
theorem ty_i2 (g c : Nat) : 1024 + 256 * nI g + nI c = nI (1024 + 256 * g + c) := by
  show nI 1024 + nI 256 * nI g + nI c = _
  rw [pk_mul, nI_add, nI_add]
theorem ty_l9 (fn fend fcnt : Int32) (yG yT yL : Nat → Int32) (yW : Nat → Int64) (yN : Nat → Int32) (yS : Nat → Int64) {post : SY → Prop} {n e k : Nat} {G : Nat → Nat} (h : tm_N n e) (hk : k < 4) (hG : G k < e)
    (hp : ∀ yN, tm_NX n e (k + 1) G yN → post (nI n, nI e, nI k, yG, yT, yL, yW, yN, yS)) :
    ∀ t c, c + t = e → ∀ yN, (∀ g c', g < k ∨ (g = k ∧ c' < c) → c' < e → yN (256 * g + c') = nI (tm_m n c' (G g)) ∧ yN (1024 + 256 * g + c') = nI (tm_m n (G g) c')) → wY_learn_9 post (nI k) (nI (G k)) (nI n) (nI e) (nI k) (t + 1) (nI c) yG yT yL yW yN yS := by
  have H := tm_Npos h
  intro t
  induction t with
  | zero =>
    intro c hc yN hA
    exact br_t (nI_le (by omega) (by omega)) (hp yN fun g c' hg hc' => hA g c' (by omega) hc')
  | succ t ih =>
    intro c hc yN hA
    have hc0 : c < e := by omega
    refine br_f (nI_ge (by omega) (by omega)) (br_f (nI_ge (b := 256) (by omega) (by decide)) ?_)
    refine ty_times fn fend fcnt yG yT yL yW yN yS h hc0 hG ⟨by rw [ty_i1]; exact vp_in_nI (by omega) (by omega), nm_e (ty_times fn fend fcnt yG yT yL yW (upd yN (256 * nI k + nI c).toNatClampNeg (nI (tm_m n c (G k)))) yS h hG hc0 ⟨by rw [ty_i2]; exact vp_in_nI (by omega) (by omega), nm_e (nm_r (nI_1 c) (ih (c + 1) (by omega) _ fun g c' hz hc' => ?_))⟩)⟩
    rw [ty_i1, ty_i2, nI_clamp (by omega : 256 * k + c < 2 ^ 31), nI_clamp (by omega : 1024 + 256 * k + c < 2 ^ 31)]
    by_cases y : g = k ∧ c' = c
    · obtain ⟨rfl, rfl⟩ := y
      rw [pk_un (by omega), pk_us, pk_us]
      exact ⟨rfl, rfl⟩
    · have := hA g c' (by omega) hc'
      rw [pk_un (by omega), pk_un (by omega), pk_un (by omega), pk_un (by omega)]
      exact this
theorem ty_learn (fn fend fcnt : Int32) (yG yT yL : Nat → Int32) (yW : Nat → Int64) (yN : Nat → Int32) (yS : Nat → Int64) {post : SY → Prop} {n e k c : Nat} {G : Nat → Nat} (h : tm_N n e) (hk : k < 4) (hc : c < e) (hX : tm_NX n e k G yN)
    (hp : ∀ yN, tm_NX n e (k + 1) (tm_up G k c) yN → post (nI n, nI e, nI k, upd yG k (nI c), yT, yL, yW, yN, yS)) : wpY_learn post (nI n, nI e, nI k, yG, yT, yL, yW, yN, yS) (nI k) (nI c) := by
  unfold wpY_learn
  refine ⟨vp_in_nI (by omega) (by omega), nm_e ⟨e + 1, ?_⟩⟩
  rw [nI_clamp (by omega)]
  have t := ty_l9 fn fend fcnt (upd yG k (nI c)) yT yL yW yN yS (G := tm_up G k c) h hk (by rw [tm_us]; exact hc) hp e 0 (by omega) yN (fun g c' hz hc' => by
    rw [tm_un (by omega : g ≠ k)]
    exact hX g c' (by omega) hc')
  rw [tm_us] at t
  exact t
end
section
/-! Y: the elements with their words -/
def tm_D (n k : Nat) (G : Nat → Nat) (yT yL : Nat → Int32) (yW : Nat → Int64) (c : Nat) : Prop := ∃ l N, tm_B n k G c l N ∧ yT c = 1 ∧ yL c = nI l ∧ yW c = lN (N - 4 ^ l)
def tm_J (n e k : Nat) (G : Nat → Nat) (b : Nat) (yT yL : Nat → Int32) (yW : Nat → Int64) : Prop := ∀ c, c < e → yT c = 0 ∨ (yT c = 1 ∧ ∃ l N, tm_W n k G l N c ∧ l ≤ b ∧ yL c = nI l ∧ (l ≤ 31 → yW c = lN (N - 4 ^ l)))
def tm_31 (n k : Nat) (G : Nat → Nat) : Prop := ∀ c l N, tm_B n k G c l N → l ≤ 31
theorem tm_Jm {n e k b b' : Nat} {G : Nat → Nat} {yT yL : Nat → Int32} {yW : Nat → Int64} (h : tm_J n e k G b yT yL yW) (hb : b ≤ b') : tm_J n e k G b' yT yL yW := by
  intro c hc
  rcases h c hc with y | ⟨y, l, N, w, h1, h2⟩
  · exact Or.inl y
  · exact Or.inr ⟨y, l, N, w, by omega, h2⟩
theorem tm_v62 {l N n k : Nat} {G : Nat → Nat} {c : Nat} (w : tm_W n k G l N c) (h : l ≤ 31) : N - 4 ^ l < 2 ^ 62 := by
  have h1 := tm_Wr w
  have h2 := tm_pw h
  have h3 : (4 : Nat) ^ 31 = 2 ^ 62 := by decide
  omega
theorem tm_w4 {l N n k g : Nat} {G : Nat → Nat} {c : Nat} (w : tm_W n k G l N c) (hg : g < 4) : 4 * lN (N - 4 ^ l) + (nI g).toInt64 = lN (4 * N + g - 4 ^ (l + 1)) := by
  show lN 4 * lN (N - 4 ^ l) + (nI g).toInt64 = _
  have h1 := tm_Wr w
  rw [lN_mul, nI_l (by omega), lN_add, Nat.pow_succ]
  exact congrArg lN (by omega)
/-- a step that stores -/
theorem tm_Ju {n e k b c g : Nat} {G : Nat → Nat} {yT yL : Nat → Int32} {yW : Nat → Int64} (h : tm_N n e) (hk : k ≤ 4) (hg : g < k) (h31 : tm_31 n k G) (hb : b + 1 < 2 ^ 31) (hJ : tm_J n e k G b yT yL yW) (hc : c < e) (ht : yT c ≠ 0)
    (hbet : yT (tm_m n c (G g)) = 0 ∨ yL c + 1 < yL (tm_m n c (G g)) ∨ (yL c + 1 = yL (tm_m n c (G g)) ∧ ¬ yW (tm_m n c (G g)) ≤ 4 * yW c + (nI g).toInt64)) :
    tm_J n e k G (b + 1) (upd yT (tm_m n c (G g)) 1) (upd yL (tm_m n c (G g)) (yL c + 1)) (vp_updL yW (tm_m n c (G g)) (4 * yW c + (nI g).toInt64)) ∧
    (∀ x, tm_D n k G yT yL yW x → tm_D n k G (upd yT (tm_m n c (G g)) 1) (upd yL (tm_m n c (G g)) (yL c + 1)) (vp_updL yW (tm_m n c (G g)) (4 * yW c + (nI g).toInt64)) x) ∧
    (∀ l N, tm_B n k G c l N → tm_D n k G yT yL yW c → tm_B n k G (tm_m n c (G g)) (l + 1) (4 * N + g) → tm_D n k G (upd yT (tm_m n c (G g)) 1) (upd yL (tm_m n c (G g)) (yL c + 1)) (vp_updL yW (tm_m n c (G g)) (4 * yW c + (nI g).toInt64)) (tm_m n c (G g))) := by
  rcases hJ c hc with z | ⟨_, l, N, w, hl, eL, eW⟩
  · exact absurd z ht
  have w' := tm_Wc w hg hk
  have hd : tm_m n c (G g) < e := tm_lt h _ _
  have eL' : yL c + 1 = nI (l + 1) := by rw [eL, nI_1]
  have eW' : l ≤ 31 → 4 * yW c + (nI g).toInt64 = lN (4 * N + g - 4 ^ (l + 1)) := fun hl => by rw [eW hl]; exact tm_w4 w (by omega)
  refine ⟨fun x hx => ?_, fun x hx => ?_, fun l2 N2 hB hD hB' => ?_⟩
  · by_cases z : x = tm_m n c (G g)
    · rw [z, pk_us, pk_us, pk_uLs]
      exact Or.inr ⟨rfl, l + 1, 4 * N + g, w', by omega, eL', fun y => eW' (by omega)⟩
    · rw [pk_un z, pk_un z, pk_uLn z]
      exact tm_Jm hJ (by omega) x hx
  · by_cases z : x = tm_m n c (G g)
    · exfalso
      rw [z] at hx
      obtain ⟨l0, N0, hB, e1, e2, e3⟩ := hx
      have h1 := hB.2 _ _ w'
      have h2 := tm_Wl hB.1 w' h1
      have h3 := h31 _ _ _ hB
      rcases hbet with y | y | ⟨y, y'⟩
      · exact tx_10 (e1.symm.trans y)
      · rw [eL', e2, nI_ltI (by omega) (by omega)] at y
        omega
      · rw [eL', e2, nI_eq (by omega) (by omega)] at y
        subst y
        rw [eW' (by omega), e3, pk_lLE (by have := tm_v62 hB.1 h3; omega) (by have := tm_v62 w' h3; omega)] at y'
        omega
    · obtain ⟨l0, N0, hB, e1, e2, e3⟩ := hx
      refine ⟨l0, N0, hB, ?_, ?_, ?_⟩
      · rw [pk_un z]; exact e1
      · rw [pk_un z]; exact e2
      · rw [pk_uLn z]; exact e3
  · obtain ⟨l0, N0, hB0, e1, e2, e3⟩ := hD
    obtain ⟨rfl, rfl⟩ := tm_Bu hB hB0
    refine ⟨l2 + 1, 4 * N2 + g, hB', pk_us, ?_, ?_⟩
    · rw [pk_us, e2, nI_1]
    · rw [pk_uLs, e3]; exact tm_w4 hB.1 (by omega)
/-- a step that keeps -/
theorem tm_Jk {n e k b c g : Nat} {G : Nat → Nat} {yT yL : Nat → Int32} {yW : Nat → Int64} (h : tm_N n e) (hk : k ≤ 4) (hg : g < k) (h31 : tm_31 n k G) (hb : b + 1 < 2 ^ 31) (hJ : tm_J n e k G b yT yL yW)
    (h1 : yT (tm_m n c (G g)) ≠ 0) (h2 : ¬ yL c + 1 < yL (tm_m n c (G g))) (h3 : yL c + 1 = yL (tm_m n c (G g)) → yW (tm_m n c (G g)) ≤ 4 * yW c + (nI g).toInt64) :
    ∀ l N, tm_B n k G c l N → tm_D n k G yT yL yW c → tm_B n k G (tm_m n c (G g)) (l + 1) (4 * N + g) → tm_D n k G yT yL yW (tm_m n c (G g)) := by
  intro l N hB hD hB'
  obtain ⟨l0, N0, hB0, e1, e2, e3⟩ := hD
  obtain ⟨rfl, rfl⟩ := tm_Bu hB hB0
  rcases hJ _ (tm_lt h c (G g)) with z | ⟨ht, l4, N4, w, hl, eL, eW⟩
  · exact absurd z h1
  have a1 := hB'.2 _ _ w
  have a2 := tm_Wl hB'.1 w a1
  have a3 := h31 _ _ _ hB'
  rw [e2, eL, nI_1, nI_ltI (by omega) (by omega)] at h2
  have a4 : l4 = l + 1 := by omega
  subst a4
  have a5 := h3 (by rw [e2, eL, nI_1])
  rw [eW a3, e3, tm_w4 hB.1 (by omega : g < 4), pk_lLE (by have := tm_v62 w a3; omega) (by have := tm_v62 hB'.1 a3; omega)] at a5
  have a6 := tm_Wr w
  have a7 := tm_Wr hB'.1
  refine ⟨l + 1, 4 * N + g, hB', ht, eL, ?_⟩
  rw [eW a3]
  exact congrArg lN (by omega)
/-- a pass of grow from (T, L, W) on, at code c and letter g -/
def tm_GP (n e k : Nat) (G : Nat → Nat) (b c g : Nat) (T L : Nat → Int32) (W : Nat → Int64) (x1 : Int32) (yT yL : Nat → Int32) (yW : Nat → Int64) : Prop :=
  tm_J n e k G (b + 4 * c + g) yT yL yW ∧ (∀ x, tm_D n k G T L W x → tm_D n k G yT yL yW x) ∧
  (∀ c' g', (c' < c ∧ g' < k) ∨ (c' = c ∧ g' < g) → ∀ l N, tm_B n k G c' l N → tm_D n k G T L W c' → tm_B n k G (tm_m n c' (G g')) (l + 1) (4 * N + g') → tm_D n k G yT yL yW (tm_m n c' (G g'))) ∧
  (x1 = 0 ∨ x1 = 1) ∧ (x1 = 0 → yT = T ∧ yL = L ∧ yW = W)
theorem tm_GPn {n e k b c g : Nat} {G : Nat → Nat} {T L : Nat → Int32} {W : Nat → Int64} {x1 : Int32} {yT yL : Nat → Int32} {yW : Nat → Int64} (hg : g ≤ 4) (H : tm_GP n e k G b c g T L W x1 yT yL yW) (hz : g = k ∨ yT c = 0) : tm_GP n e k G b (c + 1) 0 T L W x1 yT yL yW := by
  obtain ⟨h1, h2, h3, h4, h5⟩ := H
  refine ⟨tm_Jm h1 (by omega), h2, fun c' g' hc l N hB hD hB' => ?_, h4, h5⟩
  by_cases y : c' < c
  · exact h3 c' g' (by omega) l N hB hD hB'
  · obtain rfl : c' = c := by omega
    rcases hz with z | z
    · exact h3 c' g' (by omega) l N hB hD hB'
    · obtain ⟨_, _, _, e1, _⟩ := h2 c' hD
      exact absurd (e1.symm.trans z) tx_10
theorem tm_GPu {n e k b c g : Nat} {G : Nat → Nat} {T L : Nat → Int32} {W : Nat → Int64} {x1 : Int32} {yT yL : Nat → Int32} {yW : Nat → Int64} (h : tm_N n e) (hk : k ≤ 4) (hg : g < k) (h31 : tm_31 n k G) (hb : b + 4 * c + g + 1 < 2 ^ 31) (hc : c < e) (ht : yT c ≠ 0) (H : tm_GP n e k G b c g T L W x1 yT yL yW)
    (hbet : yT (tm_m n c (G g)) = 0 ∨ yL c + 1 < yL (tm_m n c (G g)) ∨ (yL c + 1 = yL (tm_m n c (G g)) ∧ ¬ yW (tm_m n c (G g)) ≤ 4 * yW c + (nI g).toInt64)) :
    tm_GP n e k G b c (g + 1) T L W 1 (upd yT (tm_m n c (G g)) 1) (upd yL (tm_m n c (G g)) (yL c + 1)) (vp_updL yW (tm_m n c (G g)) (4 * yW c + (nI g).toInt64)) := by
  obtain ⟨h1, h2, h3, h4, h5⟩ := H
  obtain ⟨a1, a2, a3⟩ := tm_Ju h hk hg h31 hb h1 hc ht hbet
  refine ⟨a1, fun x hx => a2 x (h2 x hx), fun c' g' hz l N hB hD hB' => ?_, Or.inr rfl, fun z => absurd z tx_10⟩
  by_cases y : c' = c ∧ g' = g
  · obtain ⟨rfl, rfl⟩ := y
    exact a3 l N hB (h2 _ hD) hB'
  · exact a2 _ (h3 c' g' (by omega) l N hB hD hB')
theorem tm_GPk {n e k b c g : Nat} {G : Nat → Nat} {T L : Nat → Int32} {W : Nat → Int64} {x1 : Int32} {yT yL : Nat → Int32} {yW : Nat → Int64} (h : tm_N n e) (hk : k ≤ 4) (hg : g < k) (h31 : tm_31 n k G) (hb : b + 4 * c + g + 1 < 2 ^ 31) (H : tm_GP n e k G b c g T L W x1 yT yL yW)
    (g1 : yT (tm_m n c (G g)) ≠ 0) (g2 : ¬ yL c + 1 < yL (tm_m n c (G g))) (g3 : yL c + 1 = yL (tm_m n c (G g)) → yW (tm_m n c (G g)) ≤ 4 * yW c + (nI g).toInt64) :
    tm_GP n e k G b c (g + 1) T L W x1 yT yL yW := by
  obtain ⟨h1, h2, h3, h4, h5⟩ := H
  refine ⟨tm_Jm h1 (by omega), h2, fun c' g' hz l N hB hD hB' => ?_, h4, h5⟩
  by_cases y : c' = c ∧ g' = g
  · obtain ⟨rfl, rfl⟩ := y
    exact tm_Jk h hk hg h31 hb h1 g1 g2 g3 l N hB (h2 _ hD) hB'
  · exact h3 c' g' (by omega) l N hB hD hB'
theorem ty_129 (fn fend fcnt : Int32) (yG yT yL : Nat → Int32) (yW : Nat → Int64) (yN : Nat → Int32) (yS : Nat → Int64) {post : Int32 → SY → Prop} {J4 J21 : Int32 → Int32 → (Nat → Int32) → (Nat → Int32) → (Nat → Int32) → (Nat → Int64) → (Nat → Int32) → (Nat → Int64) → Prop} {d g : Nat} {x2 x7 : Int32} {x5 : Int64} (hd : d < 256)
    (hJ : J21 1 (nI (g + 1)) yG (upd yT d 1) (upd yL d x7) (vp_updL yW d x5) yN yS) : wY_grow_129 post J4 J21 x2 (nI g) (nI d) x5 x7 fn fend fcnt yG yT yL yW yN yS := by
  unfold wY_grow_129
  refine ⟨vp_in_nI hd (by omega), nm_e ⟨vp_in_nI hd (by omega), nm_e ⟨vp_in_nI hd (by omega), nm_e (nm_r (nI_1 g) ?_)⟩⟩⟩
  rw [nI_clamp (by omega)]
  exact hJ
theorem ty_21 (fn fend fcnt : Int32) (yG yT yL : Nat → Int32) (yW : Nat → Int64) (yN : Nat → Int32) (yS : Nat → Int64) {post : Int32 → SY → Prop} {J4 : Int32 → Int32 → (Nat → Int32) → (Nat → Int32) → (Nat → Int32) → (Nat → Int64) → (Nat → Int32) → (Nat → Int64) → Prop} {n e k b c : Nat} {G : Nat → Nat} {T L : Nat → Int32} {W : Nat → Int64} (h : tm_N n e) (hk : k ≤ 4) (h31 : tm_31 n k G) (hb : b + 1100 < 2 ^ 31) (hc : c < e) (hX : tm_NX n e k G yN)
    (hJ : ∀ x1 yT yL yW, tm_GP n e k G b (c + 1) 0 T L W x1 yT yL yW → J4 x1 (nI (c + 1)) yG yT yL yW yN yS) :
    ∀ t g, g + t = k → ∀ x1 yT yL yW, tm_GP n e k G b c g T L W x1 yT yL yW → wY_grow_21 post J4 (nI c) (nI n) (nI e) (nI k) (t + 1) x1 (nI g) yG yT yL yW yN yS := by
  have H := tm_Npos h
  intro t
  induction t with
  | zero =>
    intro g hg x1 yT yL yW hP
    obtain rfl : g = k := by omega
    exact br_t (nI_le (by omega) (by omega)) (nm_r (nI_1 c) (hJ x1 yT yL yW (tm_GPn (by omega) hP (Or.inl rfl))))
  | succ t ih =>
    intro g hg x1 yT yL yW hP
    have hd := tm_lt h c (G g)
    refine br_f (nI_ge (by omega) (by omega)) ⟨vp_in_nI (by omega) (by omega), ?_⟩
    rw [nI_clamp (by omega : c < 2 ^ 31)]
    by_cases z : yT c = 0
    · exact br_t z (nm_r (nI_1 c) (hJ x1 yT yL yW (tm_GPn (by omega) hP (Or.inr z))))
    refine br_f z (br_f (nI_ge (b := 4) (by omega) (by decide)) ⟨by rw [ty_i1]; exact vp_in_nI (by omega) (by omega), nm_r (e' := nI (tm_m n c (G g))) ?_ ⟨vp_in_nI (by omega) (by omega), nm_e ⟨vp_in_nI (by omega) (by omega), nm_e ⟨vp_in_nI (by omega) (by omega), ?_⟩⟩⟩⟩)
    · rw [ty_i1, nI_clamp (by omega)]
      exact (hX g c (by omega) hc).1
    rw [nI_clamp (by omega : tm_m n c (G g) < 2 ^ 31)]
    have U : (yT (tm_m n c (G g)) = 0 ∨ yL c + 1 < yL (tm_m n c (G g)) ∨ (yL c + 1 = yL (tm_m n c (G g)) ∧ ¬ yW (tm_m n c (G g)) ≤ 4 * yW c + (nI g).toInt64)) → wY_grow_129 post J4 (wY_grow_21 post J4 (nI c) (nI n) (nI e) (nI k) (t + 1)) (nI c) (nI g) (nI (tm_m n c (G g))) (4 * yW c + (nI g).toInt64) (yL c + 1) (nI n) (nI e) (nI k) yG yT yL yW yN yS := by
      intro y
      exact ty_129 (nI n) (nI e) (nI k) yG yT yL yW yN yS (by omega) (ih (g + 1) (by omega) _ _ _ _ (tm_GPu h hk (by omega) h31 (by omega) hc z hP y))
    by_cases y1 : yT (tm_m n c (G g)) = 0
    · exact br_t y1 (U (Or.inl y1))
    refine br_f y1 ⟨vp_in_nI (by omega) (by omega), ?_⟩
    by_cases y2 : yL c + 1 < yL (tm_m n c (G g))
    · exact br_t y2 (U (Or.inr (Or.inl y2)))
    refine br_f y2 ⟨vp_in_nI (by omega) (by omega), ?_⟩
    by_cases y3 : yL c + 1 = yL (tm_m n c (G g))
    · refine br_t y3 ⟨vp_in_nI (by omega) (by omega), ?_⟩
      by_cases y4 : yW (tm_m n c (G g)) ≤ 4 * yW c + (nI g).toInt64
      · exact br_t y4 (nm_r (nI_1 g) (ih (g + 1) (by omega) x1 yT yL yW (tm_GPk h hk (by omega) h31 (by omega) hP y1 y2 (fun _ => y4))))
      · exact br_f y4 (U (Or.inr (Or.inr ⟨y3, y4⟩)))
    · exact br_f y3 (nm_r (nI_1 g) (ih (g + 1) (by omega) x1 yT yL yW (tm_GPk h hk (by omega) h31 (by omega) hP y1 y2 (fun w => absurd w y3))))
theorem ty_nb {x : Int32} (h : x = 0 ∨ x = 1) : narrow .boolean (.int x) = .int x := by
  rcases h with h | h <;> subst h <;> rfl
theorem ty_g4 (fn fend fcnt : Int32) (yG yT yL : Nat → Int32) (yW : Nat → Int64) (yN : Nat → Int32) (yS : Nat → Int64) {post : Int32 → SY → Prop} {n e k b : Nat} {G : Nat → Nat} {T L : Nat → Int32} {W : Nat → Int64} (h : tm_N n e) (hk : k ≤ 4) (h31 : tm_31 n k G) (hb : b + 1100 < 2 ^ 31) (hX : tm_NX n e k G yN)
    (hp : ∀ x1 yT yL yW, tm_GP n e k G b e 0 T L W x1 yT yL yW → post x1 (nI n, nI e, nI k, yG, yT, yL, yW, yN, yS)) :
    ∀ t c, c + t = e → ∀ x1 yT yL yW, tm_GP n e k G b c 0 T L W x1 yT yL yW → wY_grow_4 post (nI n) (nI e) (nI k) (t + 1) x1 (nI c) yG yT yL yW yN yS := by
  have H := tm_Npos h
  intro t
  induction t with
  | zero =>
    intro c hc x1 yT yL yW hP
    obtain rfl : c = e := by omega
    exact br_t (nI_le (by omega) (by omega)) ⟨ty_nb hP.2.2.2.1, hp x1 yT yL yW hP⟩
  | succ t ih =>
    intro c hc x1 yT yL yW hP
    refine br_f (nI_ge (by omega) (by omega)) (br_f (nI_ge (b := 256) (by omega) (by decide)) ⟨k + 1, ?_⟩)
    exact ty_21 fn fend fcnt yG yT yL yW yN yS h hk h31 hb (by omega) hX (fun x1 yT yL yW hP' => ih (c + 1) (by omega) x1 yT yL yW hP') k 0 (by omega) x1 yT yL yW hP
theorem ty_grow (fn fend fcnt : Int32) (yG yT yL : Nat → Int32) (yW : Nat → Int64) (yN : Nat → Int32) (yS : Nat → Int64) {post : Int32 → SY → Prop} {n e k b : Nat} {G : Nat → Nat} (h : tm_N n e) (hk : k ≤ 4) (h31 : tm_31 n k G) (hb : b + 1100 < 2 ^ 31) (hX : tm_NX n e k G yN) (hJ : tm_J n e k G b yT yL yW)
    (hp : ∀ x1 yT' yL' yW', tm_GP n e k G b e 0 yT yL yW x1 yT' yL' yW' → post x1 (nI n, nI e, nI k, yG, yT', yL', yW', yN, yS)) : wpY_grow post (nI n, nI e, nI k, yG, yT, yL, yW, yN, yS) :=
  ⟨e + 1, ty_g4 fn fend fcnt yG yT yL yW yN yS h hk h31 hb hX hp e 0 (by omega) 0 yT yL yW ⟨hJ, fun _ hx => hx, fun c' g' hz => by omega, Or.inl rfl, fun _ => ⟨rfl, rfl, rfl⟩⟩⟩
/-- what work leaves -/
def tm_YF (n e k : Nat) (G : Nat → Nat) (yT yL : Nat → Int32) (yW : Nat → Int64) : Prop := ∀ c, c < e → (yT c = 0 ∧ ¬ tm_E n k G c) ∨ tm_D n k G yT yL yW c
theorem tm_JF {n e k b : Nat} {G : Nat → Nat} {yT yL : Nat → Int32} {yW : Nat → Int64} (hJ : tm_J n e k G b yT yL yW) (hD : ∀ c l N, tm_B n k G c l N → tm_D n k G yT yL yW c) : tm_YF n e k G yT yL yW := by
  intro c hc
  rcases hJ c hc with y | ⟨_, l, N, w, _⟩
  · refine Or.inl ⟨y, fun z => ?_⟩
    obtain ⟨l, N, hB⟩ := tm_Bex z
    obtain ⟨_, _, _, e1, _⟩ := hD c l N hB
    exact tx_10 (e1.symm.trans y)
  · obtain ⟨l, N, hB⟩ := tm_Bex ⟨l, N, w⟩
    exact Or.inr (hD c l N hB)
theorem tm_DB {n k : Nat} {G : Nat → Nat} {yT yL : Nat → Int32} {yW : Nat → Int64} {c l N : Nat} (hD : tm_D n k G yT yL yW c) (hB : tm_B n k G c l N) : yT c = 1 ∧ yL c = nI l ∧ yW c = lN (N - 4 ^ l) := by
  obtain ⟨l0, N0, hB0, e1, e2, e3⟩ := hD
  obtain ⟨rfl, rfl⟩ := tm_Bu hB hB0
  exact ⟨e1, e2, e3⟩
theorem ty_w52 (fn fend fcnt : Int32) (yG yT yL : Nat → Int32) (yW : Nat → Int64) (yN : Nat → Int32) (yS : Nat → Int64) {post : SY → Prop} {n e k : Nat} {G : Nat → Nat} (h : tm_N n e) (hk : k ≤ 4) (h31 : tm_31 n k G) (hX : tm_NX n e k G yN)
    (hp : ∀ yT yL yW, tm_YF n e k G yT yL yW → post (nI n, nI e, nI k, yG, yT, yL, yW, yN, yS)) :
    ∀ t r, r + t = 3000 → ∀ x2 yT yL yW, tm_J n e k G (1024 * r) yT yL yW → (∀ c l N, tm_B n k G c l N → l ≤ r → tm_D n k G yT yL yW c) → (x2 = 0 → ∀ c l N, tm_B n k G c l N → tm_D n k G yT yL yW c) → wY_work_52 post (t + 1) x2 (nI r) (nI n) (nI e) (nI k) yG yT yL yW yN yS := by
  have H := tm_Npos h
  intro t
  induction t with
  | zero =>
    intro r hr x2 yT yL yW hJ hC hx
    exact br_t (nI_le (a := 3000) (by omega) (by omega)) (hp yT yL yW (tm_JF hJ fun c l N hB => hC c l N hB (by have := h31 c l N hB; omega)))
  | succ t ih =>
    intro r hr x2 yT yL yW hJ hC hx
    refine br_f (nI_ge (b := 3000) (by omega) (by decide)) ?_
    by_cases z : x2 = 0
    · exact br_t z (hp yT yL yW (tm_JF hJ (hx z)))
    refine br_f z (ty_grow fn fend fcnt yG yT yL yW yN yS h hk h31 (by omega) hX hJ (fun x1 yT' yL' yW' hP => nm_r (nI_1 r) ?_))
    obtain ⟨p1, p2, p3, p4, p5⟩ := hP
    have S : ∀ l, (∀ c N, tm_B n k G c l N → tm_D n k G yT yL yW c) → ∀ c N, tm_B n k G c (l + 1) N → tm_D n k G yT' yL' yW' c := by
      intro l hl c N hB
      obtain ⟨b, hb1, hb2, hb3⟩ := tm_Bp hk hB
      have hbe := tm_Wlt h hb1.1
      have := p3 b (N % 4) (Or.inl ⟨hbe, hb2⟩) l (N / 4) hb1 (hl b _ hb1)
      rw [hb3, show 4 * (N / 4) + N % 4 = N from by omega] at this
      exact this hB
    refine ih (r + 1) (by omega) x1 yT' yL' yW' (tm_Jm p1 (by omega)) (fun c l N hB hl => ?_) (fun hx1 => ?_)
    · cases l with
      | zero => exact p2 c (hC c 0 N hB (by omega))
      | succ l => exact S l (fun c N hB => hC c l N hB (by omega)) c N hB
    · obtain ⟨e1, e2, e3⟩ := p5 hx1
      subst e1 e2 e3
      have A : ∀ l c N, tm_B n k G c l N → tm_D n k G yT' yL' yW' c := by
        intro l
        induction l with
        | zero => intro c N hB; exact hC c 0 N hB (by omega)
        | succ l ihl => exact S l ihl
      exact fun c l N hB => A l c N hB
theorem ty_w2 (fn fend fcnt : Int32) (yG yT yL : Nat → Int32) (yW : Nat → Int64) (yN : Nat → Int32) (yS : Nat → Int64) {post : SY → Prop} {n e k : Nat} {G : Nat → Nat} (h : tm_N n e) (hk : k ≤ 4) (h31 : tm_31 n k G) (hX : tm_NX n e k G yN)
    (hp : ∀ yT yL yW, tm_YF n e k G yT yL yW → post (nI n, nI e, nI k, yG, yT, yL, yW, yN, yS)) :
    ∀ t c, c + t = 256 → ∀ yT, (∀ x, x < c → yT x = 0) → wY_work_2 post (nI n) (nI e) (nI k) (t + 1) (nI c) yG yT yL yW yN yS := by
  have H := tm_Npos h
  intro t
  induction t with
  | zero =>
    intro c hc yT hw
    have hu := tm_ult h
    refine br_t (nI_le (a := 256) (by omega) (by omega)) (ty_unit fn fend fcnt yG yT yL yW yN yS h ⟨vp_in_nI (by omega) (by omega), nm_e ⟨vp_in_nI (by omega) (by omega), nm_e ⟨vp_in_nI (by omega) (by omega), nm_e ⟨3000 + 1, ?_⟩⟩⟩⟩)
    rw [nI_clamp (by omega : tm_u n < 2 ^ 31)]
    have hD0 : tm_D n k G (upd yT (tm_u n) 1) (upd yL (tm_u n) 0) (vp_updL yW (tm_u n) 0) (tm_u n) := ⟨0, 1, tm_B0, pk_us, pk_us, pk_uLs⟩
    refine ty_w52 fn fend fcnt yG yT yL yW yN yS h hk h31 hX hp 3000 0 (by omega) 1 _ _ _ (fun x hx => ?_) (fun x l N hB hl => ?_) (fun z => absurd z tx_10)
    · by_cases z : x = tm_u n
      · rw [z]
        exact Or.inr ⟨pk_us, 0, 1, ⟨rfl, rfl⟩, by omega, pk_us, fun _ => pk_uLs⟩
      · rw [pk_un z]
        exact Or.inl (hw x (by omega))
    · obtain rfl : l = 0 := by omega
      have : x = tm_u n := hB.1.2
      rw [this]
      exact hD0
  | succ t ih =>
    intro c hc yT hw
    refine br_f (nI_ge (b := 256) (by omega) (by decide)) ⟨vp_in_nI (by omega) (by omega), nm_e (nm_r (nI_1 c) (ih (c + 1) (by omega) _ fun x hx => ?_))⟩
    rw [nI_clamp (by omega)]
    by_cases z : x = c
    · subst z; exact pk_us
    · rw [pk_un z]; exact hw x (by omega)
theorem ty_work (fn fend fcnt : Int32) (yG yT yL : Nat → Int32) (yW : Nat → Int64) (yN : Nat → Int32) (yS : Nat → Int64) {post : SY → Prop} {n e k : Nat} {G : Nat → Nat} (h : tm_N n e) (hk : k ≤ 4) (h31 : tm_31 n k G) (hX : tm_NX n e k G yN)
    (hp : ∀ yT yL yW, tm_YF n e k G yT yL yW → post (nI n, nI e, nI k, yG, yT, yL, yW, yN, yS)) : wpY_work post (nI n, nI e, nI k, yG, yT, yL, yW, yN, yS) :=
  ⟨256 + 1, ty_w2 fn fend fcnt yG yT yL yW yN yS h hk h31 hX hp 256 0 (by omega) yT (fun x hx => by omega)⟩
end
section
/-! Y: the sets, as bits -/
def tm_t (yS : Nat → Int64) (a c : Nat) : Prop := (yS (4 * a + c / 64)).toBitVec.getLsbD (c % 64) = true
theorem ty_sm : ∀ j, j < 64 → ((lN j).toBitVec.smod 64).toNat = j := by decide +kernel
theorem ty_bt {w : Int64} {j : Nat} (hj : j < 64) : ((w >>> ((nI j).toInt64 &&& 63)) &&& 1) = 1 ↔ w.toBitVec.getLsbD j = true := by
  rw [wb_c j hj, ← Int64.toBitVec_inj, Int64.toBitVec_and, Int64.toBitVec_shiftRight]
  show (w.toBitVec.sshiftRight ((lN j).toBitVec.smod 64).toNat) &&& 1#64 = 1#64 ↔ _
  rw [ty_sm j hj]
  have e0 : (w.toBitVec.sshiftRight j).getLsbD 0 = w.toBitVec.getLsbD j := by
    rw [BitVec.getLsbD_sshiftRight]
    simp [hj]
  constructor
  · intro h
    have t := congrArg (fun x => x.getLsbD 0) h
    simp only [BitVec.getLsbD_and, e0] at t
    simpa using t
  · intro h
    apply BitVec.eq_of_getLsbD_eq
    intro i hi
    cases i with
    | zero => rw [BitVec.getLsbD_and, e0, h]; rfl
    | succ i => simp
theorem ty_or {w : Int64} {j : Nat} (hj : j < 64) {i : Nat} (hi : i < 64) : (w ||| ((1 : Int64) <<< ((nI j).toInt64 &&& 63))).toBitVec.getLsbD i = true ↔ w.toBitVec.getLsbD i = true ∨ i = j := by
  rw [wb_c j hj, Int64.toBitVec_or, Int64.toBitVec_shiftLeft, BitVec.getLsbD_or]
  have e1 : ((1 : Int64).toBitVec <<< ((lN j).toBitVec.smod 64)).getLsbD i = decide (i = j) := by
    show ((1#64) <<< ((lN j).toBitVec.smod 64).toNat).getLsbD i = _
    rw [ty_sm j hj, BitVec.getLsbD_shiftLeft]
    by_cases z : i = j
    · subst z; simp [hi]
    · by_cases y : i < j
      · simp [y, z]
      · have h1 : ¬ (i - j = 0) := by omega
        simp [z, h1]
  rw [e1]
  simp
theorem ty_64 {c : Nat} (hc : c < 256) : nI c / 64 = nI (c / 64) ∧ nI c - nI c / 64 * 64 = nI (c % 64) := ⟨pk_div (d := 64) (by omega) (by omega) (by omega), pk_rem (d := 64) (by omega) (by omega) (by omega)⟩
theorem ty_i4 (a c : Nat) : 4 * nI a + nI c = nI (4 * a + c) := by
  show nI 4 * nI a + nI c = _
  rw [pk_mul, nI_add]
theorem ty_n64 : ¬ (64 : Int32) = 0 := by decide
theorem ty_in (fn fend fcnt : Int32) (yG yT yL : Nat → Int32) (yW : Nat → Int64) (yN : Nat → Int32) (yS : Nat → Int64) {post : Int32 → Prop} {a c : Nat} (ha : a < 256) (hc : c < 256) (hY : tm_t yS a c → post 1) (hN : ¬ tm_t yS a c → post 0) : wpY_in post (fn, fend, fcnt, yG, yT, yL, yW, yN, yS) (nI a) (nI c) := by
  unfold wpY_in
  show _ ∧ _ ∧ _ ∧ _
  rw [(ty_64 hc).2, (ty_64 hc).1, ty_i4, nI_clamp (by omega : 4 * a + c / 64 < 2 ^ 31)]
  refine ⟨ty_n64, vp_in_nI (by omega) (by omega), ty_n64, ?_⟩
  have B := ty_bt (w := yS (4 * a + c / 64)) (j := c % 64) (by omega)
  by_cases z : tm_t yS a c
  · exact br_t (B.mpr z) (hY z)
  · exact br_f (fun y => z (B.mp y)) (hN z)
theorem ty_put (fn fend fcnt : Int32) (yG yT yL : Nat → Int32) (yW : Nat → Int64) (yN : Nat → Int32) (yS : Nat → Int64) {post : Int32 → SY → Prop} {a c : Nat} (ha : a < 256) (hc : c < 256) (hY : tm_t yS a c → post 0 (fn, fend, fcnt, yG, yT, yL, yW, yN, yS))
    (hN : ¬ tm_t yS a c → ∀ yS', (∀ x, x < 256 → (tm_t yS' a x ↔ tm_t yS a x ∨ x = c)) → (∀ i, i < 4 * a ∨ 4 * a + 4 ≤ i → yS' i = yS i) → post 1 (fn, fend, fcnt, yG, yT, yL, yW, yN, yS')) : wpY_put post (fn, fend, fcnt, yG, yT, yL, yW, yN, yS) (nI a) (nI c) := by
  unfold wpY_put
  refine ty_in fn fend fcnt yG yT yL yW yN yS ha hc (fun z => br_f tx_10 (hY z)) (fun z => br_t rfl ?_)
  rw [(ty_64 hc).2, (ty_64 hc).1, ty_i4, nI_clamp (by omega : 4 * a + c / 64 < 2 ^ 31)]
  refine ⟨ty_n64, vp_in_nI (by omega) (by omega), ty_n64, vp_in_nI (by omega) (by omega), nm_e (hN z _ (fun x hx => ?_) (fun i hi => ?_))⟩
  · by_cases y : x / 64 = c / 64
    · unfold tm_t
      rw [y, pk_uLs, ty_or (by omega) (by omega)]
      refine ⟨fun w => ?_, fun w => ?_⟩
      · rcases w with w | w
        · exact Or.inl w
        · exact Or.inr (by omega)
      · rcases w with w | w
        · exact Or.inl w
        · exact Or.inr (by rw [w])
    · unfold tm_t
      rw [pk_uLn (by omega)]
      refine ⟨Or.inl, fun w => ?_⟩
      rcases w with w | w
      · exact w
      · exact absurd (by rw [w]) y
  · exact pk_uLn (by omega)
def tm_W0 (n e k : Nat) (G : Nat → Nat) (d a : Nat) (S0 : Nat → Int64) (x : Int32) (yS : Nat → Int64) : Prop :=
  (∀ y, y < e → tm_t yS a y → tm_R n k G d a y) ∧ (∀ y, y < e → tm_t S0 a y → tm_t yS a y) ∧ ((x = 0 ∧ yS = S0) ∨ (x = 1 ∧ ∃ y, y < e ∧ tm_t yS a y ∧ ¬ tm_t S0 a y)) ∧ (∀ i, i < 4 * a ∨ 4 * a + 4 ≤ i → yS i = S0 i)
def tm_W1 (n e k : Nat) (G : Nat → Nat) (d a c g : Nat) (S0 : Nat → Int64) (yS : Nat → Int64) : Prop :=
  ∀ c' g', (c' < c ∧ g' < k) ∨ (c' = c ∧ g' < g) → c' < e → tm_t S0 a c' → (d ≠ 1 → tm_t yS a (tm_m n c' (G g'))) ∧ (d ≠ 0 → tm_t yS a (tm_m n (G g') c'))
theorem ty_pc (fn fend fcnt : Int32) (yG yT yL : Nat → Int32) (yW : Nat → Int64) (yN : Nat → Int32) (yS : Nat → Int64) {post : Int32 → SY → Prop} {n e k d a t : Nat} {G : Nat → Nat} {S0 : Nat → Int64} {x : Int32} (h : tm_N n e) (ha : a < e) (ht : t < e) (hW : tm_W0 n e k G d a S0 x yS) (hR : tm_R n k G d a t)
    (h0 : tm_t yS a t → post 0 (nI n, nI e, nI k, yG, yT, yL, yW, yN, yS)) (h1 : ∀ yS', tm_W0 n e k G d a S0 1 yS' → (∀ y, y < e → tm_t yS a y → tm_t yS' a y) → tm_t yS' a t → post 1 (nI n, nI e, nI k, yG, yT, yL, yW, yN, yS')) : wpY_put post (nI n, nI e, nI k, yG, yT, yL, yW, yN, yS) (nI a) (nI t) := by
  have H := tm_Npos h
  refine ty_put (nI n) (nI e) (nI k) yG yT yL yW yN yS (by omega) (by omega) h0 (fun z yS' h2 h3 => h1 yS' ⟨fun y hy w => ?_, fun y hy w => ?_, Or.inr ⟨rfl, t, ht, ?_, fun w => z (hW.2.1 t ht w)⟩, fun i hi => ?_⟩ (fun y hy w => ?_) ?_)
  · rcases (h2 y (by omega)).mp w with v | v
    · exact hW.1 y hy v
    · rw [v]; exact hR
  · exact (h2 y (by omega)).mpr (Or.inl (hW.2.1 y hy w))
  · exact (h2 t (by omega)).mpr (Or.inr rfl)
  · rw [h3 i hi]; exact hW.2.2.2 i hi
  · exact (h2 y (by omega)).mpr (Or.inl w)
  · exact (h2 t (by omega)).mpr (Or.inr rfl)
theorem ty_103 (fn fend fcnt : Int32) (yG yT yL : Nat → Int32) (yW : Nat → Int64) (yN : Nat → Int32) (yS : Nat → Int64) {post : Int32 → SY → Prop} {J5 J25 : Int32 → Int32 → Int32 → Int32 → Int32 → (Nat → Int32) → (Nat → Int32) → (Nat → Int32) → (Nat → Int64) → (Nat → Int32) → (Nat → Int64) → Prop} {n e k d a g t : Nat} {G : Nat → Nat} {S0 : Nat → Int64} {x x4 : Int32} (h : tm_N n e) (hd : d ≤ 2) (ha : a < e) (ht : t < e) (hW : tm_W0 n e k G d a S0 x yS) (hR : d ≠ 0 → tm_R n k G d a t)
    (hJ : ∀ x' yS', tm_W0 n e k G d a S0 x' yS' → (∀ y, y < e → tm_t yS a y → tm_t yS' a y) → (d ≠ 0 → tm_t yS' a t) → J25 x' (nI (g + 1)) (nI n) (nI e) (nI k) yG yT yL yW yN yS') :
    wY_widen_103 post J5 J25 (nI a) (nI d) x x4 (nI g) (nI t) (nI n) (nI e) (nI k) yG yT yL yW yN yS := by
  unfold wY_widen_103
  refine pk_eq d 0 (fun z => nm_r (nI_1 g) (hJ x yS hW (fun _ _ y => y) (fun y => absurd z y))) (fun z => ?_)
  refine ty_pc fn fend fcnt yG yT yL yW yN yS h ha ht hW (hR z) (fun y => ?_) (fun yS' h1 h2 h3 => ?_)
  · exact br_t rfl (nm_r (nI_1 g) (hJ x yS hW (fun _ _ y => y) (fun _ => y)))
  · exact br_f tx_10 (nm_r (nI_1 g) (hJ 1 yS' h1 h2 (fun _ => h3)))
theorem ty_25 (fn fend fcnt : Int32) (yG yT yL : Nat → Int32) (yW : Nat → Int64) (yN : Nat → Int32) (yS : Nat → Int64) {post : Int32 → SY → Prop} {J5 : Int32 → Int32 → Int32 → Int32 → Int32 → (Nat → Int32) → (Nat → Int32) → (Nat → Int32) → (Nat → Int64) → (Nat → Int32) → (Nat → Int64) → Prop} {n e k d a c : Nat} {G : Nat → Nat} {S0 : Nat → Int64} (h : tm_N n e) (hk : k ≤ 4) (hd : d ≤ 2) (ha : a < e) (hc : c < e) (hX : tm_NX n e k G yN)
    (hJ : ∀ x yS, tm_W0 n e k G d a S0 x yS → tm_W1 n e k G d a (c + 1) 0 S0 yS → J5 x (nI (c + 1)) (nI n) (nI e) (nI k) yG yT yL yW yN yS) :
    ∀ t g, g + t = k → ∀ x yS, tm_W0 n e k G d a S0 x yS → tm_W1 n e k G d a c g S0 yS → wY_widen_25 post J5 (nI a) (nI d) (nI c) (t + 1) x (nI g) (nI n) (nI e) (nI k) yG yT yL yW yN yS := by
  have H := tm_Npos h
  intro t
  induction t with
  | zero =>
    intro g hg x yS hW h1
    obtain rfl : g = k := by omega
    exact br_t (nI_le (by omega) (by omega)) (nm_r (nI_1 c) (hJ x yS hW (fun c' g' hz hc' hs => h1 c' g' (by omega) hc' hs)))
  | succ t ih =>
    intro g hg x yS hW h1
    refine br_f (nI_ge (by omega) (by omega)) (br_f (nI_ge (b := 4) (by omega) (by decide)) (ty_in (nI n) (nI e) (nI k) yG yT yL yW yN yS (by omega) (by omega) (fun z => br_f tx_10 ?_) (fun z => br_t rfl (nm_r (nI_1 c) (hJ x yS hW (fun c' g' hz hc' hs => ?_))))))
    · have hR := hW.1 c hc z
      have m1 := tm_lt h c (G g)
      have m2 := tm_lt h (G g) c
      refine ⟨by rw [ty_i1]; exact vp_in_nI (by omega) (by omega), nm_r (e' := nI (tm_m n c (G g))) ?_ ⟨by rw [ty_i2]; exact vp_in_nI (by omega) (by omega), nm_r (e' := nI (tm_m n (G g) c)) ?_ ?_⟩⟩
      · rw [ty_i1, nI_clamp (by omega)]; exact (hX g c (by omega) hc).1
      · rw [ty_i2, nI_clamp (by omega)]; exact (hX g c (by omega) hc).2
      have F : ∀ x yS1, tm_W0 n e k G d a S0 x yS1 → (∀ y, y < e → tm_t yS a y → tm_t yS1 a y) → (d ≠ 1 → tm_t yS1 a (tm_m n c (G g))) → wY_widen_103 post J5 (wY_widen_25 post J5 (nI a) (nI d) (nI c) (t + 1)) (nI a) (nI d) x (nI c) (nI g) (nI (tm_m n (G g) c)) (nI n) (nI e) (nI k) yG yT yL yW yN yS1 := by
        intro x yS1 hW1 hm hr
        refine ty_103 fn fend fcnt yG yT yL yW yN yS1 (G := G) h hd ha m2 hW1 (fun y => tm_Rs hR ⟨g, by omega, Or.inr ⟨y, rfl⟩⟩) (fun x' yS' h2 h3 h4 => ?_)
        refine ih (g + 1) (by omega) x' yS' h2 (fun c' g' hz hc' hs => ?_)
        by_cases y : c' = c ∧ g' = g
        · obtain ⟨rfl, rfl⟩ := y
          exact ⟨fun y => h3 _ m1 (hr y), h4⟩
        · have := h1 c' g' (by omega) hc' hs
          exact ⟨fun y => h3 _ (tm_lt h _ _) (hm _ (tm_lt h _ _) (this.1 y)), fun y => h3 _ (tm_lt h _ _) (hm _ (tm_lt h _ _) (this.2 y))⟩
      refine pk_eq d 1 (fun y => F x yS hW (fun _ _ v => v) (fun v => absurd y v)) (fun y => ?_)
      refine ty_pc fn fend fcnt yG yT yL yW yN yS h ha m1 hW (tm_Rs hR ⟨g, by omega, Or.inl ⟨y, rfl⟩⟩) (fun v => ?_) (fun yS' h2 h3 h4 => ?_)
      · exact br_t rfl (F x yS hW (fun _ _ v => v) (fun _ => v))
      · exact br_f tx_10 (F 1 yS' h2 h3 (fun _ => h4))
    · by_cases y : c' < c
      · exact h1 c' g' (by omega) hc' hs
      · obtain rfl : c' = c := by omega
        exact absurd (hW.2.1 c' hc' hs) z
theorem ty_5 (fn fend fcnt : Int32) (yG yT yL : Nat → Int32) (yW : Nat → Int64) (yN : Nat → Int32) (yS : Nat → Int64) {post : Int32 → SY → Prop} {n e k d a : Nat} {G : Nat → Nat} {S0 : Nat → Int64} (h : tm_N n e) (hk : k ≤ 4) (hd : d ≤ 2) (ha : a < e) (hX : tm_NX n e k G yN)
    (hp : ∀ x yS, tm_W0 n e k G d a S0 x yS → tm_W1 n e k G d a e 0 S0 yS → post x (nI n, nI e, nI k, yG, yT, yL, yW, yN, yS)) :
    ∀ t c, c + t = e → ∀ x yS, tm_W0 n e k G d a S0 x yS → tm_W1 n e k G d a c 0 S0 yS → wY_widen_5 post (nI a) (nI d) (t + 1) x (nI c) (nI n) (nI e) (nI k) yG yT yL yW yN yS := by
  have H := tm_Npos h
  intro t
  induction t with
  | zero =>
    intro c hc x yS hW h1
    obtain rfl : c = e := by omega
    exact br_t (nI_le (by omega) (by omega)) ⟨ty_nb (by
      rcases hW.2.2.1 with y | y
      · exact Or.inl y.1
      · exact Or.inr y.1), hp x yS hW h1⟩
  | succ t ih =>
    intro c hc x yS hW h1
    refine br_f (nI_ge (by omega) (by omega)) (br_f (nI_ge (b := 256) (by omega) (by decide)) ⟨k + 1, ?_⟩)
    exact ty_25 fn fend fcnt yG yT yL yW yN yS h hk hd ha (by omega) hX (fun x yS hW h1 => ih (c + 1) (by omega) x yS hW h1) k 0 (by omega) x yS hW h1
theorem ty_widen (fn fend fcnt : Int32) (yG yT yL : Nat → Int32) (yW : Nat → Int64) (yN : Nat → Int32) (yS : Nat → Int64) {post : Int32 → SY → Prop} {n e k d a : Nat} {G : Nat → Nat} (h : tm_N n e) (hk : k ≤ 4) (hd : d ≤ 2) (ha : a < e) (hX : tm_NX n e k G yN) (hs : ∀ y, y < e → tm_t yS a y → tm_R n k G d a y)
    (hp : ∀ x yS', tm_W0 n e k G d a yS x yS' → tm_W1 n e k G d a e 0 yS yS' → post x (nI n, nI e, nI k, yG, yT, yL, yW, yN, yS')) : wpY_widen post (nI n, nI e, nI k, yG, yT, yL, yW, yN, yS) (nI a) (nI d) :=
  ⟨e + 1, ty_5 fn fend fcnt yG yT yL yW yN yS h hk hd ha hX hp e 0 (by omega) 0 yS ⟨hs, fun _ _ y => y, Or.inl ⟨rfl, rfl⟩, fun _ _ => rfl⟩ (fun c' g' hz => by omega)⟩
def tm_cl (n e k : Nat) (G : Nat → Nat) (d a : Nat) (yS : Nat → Int64) : Prop := ∀ c g, c < e → g < k → tm_t yS a c → (d ≠ 1 → tm_t yS a (tm_m n c (G g))) ∧ (d ≠ 0 → tm_t yS a (tm_m n (G g) c))
theorem tm_clR {n e k d a : Nat} {G : Nat → Nat} {yS : Nat → Int64} (h : tm_N n e) (ha : a < e) (hc : tm_cl n e k G d a yS) (h0 : tm_t yS a a) {c : Nat} (hr : tm_R n k G d a c) : tm_t yS a c :=
  (tm_Rmin (fun c => c < e ∧ tm_t yS a c) ⟨ha, h0⟩ (fun b c hb hs => by
    obtain ⟨g, hg, z | z⟩ := hs
    · rw [z.2]; exact ⟨tm_lt h _ _, (hc b g hb.1 hg hb.2).1 z.1⟩
    · rw [z.2]; exact ⟨tm_lt h _ _, (hc b g hb.1 hg hb.2).2 z.1⟩) hr).2
theorem ty_f36 (fn fend fcnt : Int32) (yG yT yL : Nat → Int32) (yW : Nat → Int64) (yN : Nat → Int32) (yS : Nat → Int64) {post : SY → Prop} {n e k d a : Nat} {G : Nat → Nat} {S0 : Nat → Int64} (h : tm_N n e) (hk : k ≤ 4) (hd : d ≤ 2) (ha : a < e) (hX : tm_NX n e k G yN)
    (hp : ∀ yS', (∀ c, c < e → (tm_t yS' a c ↔ tm_R n k G d a c)) → (∀ i, i < 4 * a ∨ 4 * a + 4 ≤ i → yS' i = S0 i) → post (nI n, nI e, nI k, yG, yT, yL, yW, yN, yS')) :
    ∀ t r, r + t = 300 → ∀ x yS, (∀ y, y < e → tm_t yS a y → tm_R n k G d a y) → tm_t yS a a → (∀ i, i < 4 * a ∨ 4 * a + 4 ≤ i → yS i = S0 i) → ((x = 0 ∧ tm_cl n e k G d a yS) ∨ (x ≠ 0 ∧ r + 1 ≤ tm_c (tm_t yS a) e)) → wY_fill_36 post (nI a) (nI d) (t + 1) x (nI r) (nI n) (nI e) (nI k) yG yT yL yW yN yS := by
  have H := tm_Npos h
  intro t
  induction t with
  | zero =>
    intro r hr x yS h1 h2 h3 h4
    rcases h4 with ⟨_, h4⟩ | ⟨_, h4⟩
    · exact br_t (nI_le (a := 300) (by omega) (by omega)) (hp yS (fun c hc => ⟨h1 c hc, fun z => tm_clR h ha h4 h2 z⟩) h3)
    · have := tm_cle (tm_t yS a) e
      omega
  | succ t ih =>
    intro r hr x yS h1 h2 h3 h4
    refine br_f (nI_ge (b := 300) (by omega) (by decide)) ?_
    rcases h4 with ⟨z, h4⟩ | ⟨z, h4⟩
    · exact br_t z (hp yS (fun c hc => ⟨h1 c hc, fun z => tm_clR h ha h4 h2 z⟩) h3)
    · refine br_f z (ty_widen fn fend fcnt yG yT yL yW yN yS h hk hd ha hX h1 (fun x' yS' hW hw => nm_r (nI_1 r) (ih (r + 1) (by omega) x' yS' hW.1 (hW.2.1 a ha h2) (fun i hi => by rw [hW.2.2.2 i hi, h3 i hi]) ?_)))
      rcases hW.2.2.1 with ⟨y, y'⟩ | ⟨y, v, v1, v2, v3⟩
      · refine Or.inl ⟨y, fun c g hc hg hs => ?_⟩
        subst y'
        exact hw c g (Or.inl ⟨hc, hg⟩) hc hs
      · refine Or.inr ⟨by rw [y]; exact tx_10, ?_⟩
        have := tm_cstrict (P := tm_t yS a) (Q := tm_t yS' a) (e := e) hW.2.1 v1 v2 v3
        omega
theorem ty_f2 (fn fend fcnt : Int32) (yG yT yL : Nat → Int32) (yW : Nat → Int64) (yN : Nat → Int32) (yS : Nat → Int64) {post : SY → Prop} {n e k d a : Nat} {G : Nat → Nat} {S0 : Nat → Int64} (h : tm_N n e) (hk : k ≤ 4) (hd : d ≤ 2) (ha : a < e) (hX : tm_NX n e k G yN)
    (hp : ∀ yS', (∀ c, c < e → (tm_t yS' a c ↔ tm_R n k G d a c)) → (∀ i, i < 4 * a ∨ 4 * a + 4 ≤ i → yS' i = S0 i) → post (nI n, nI e, nI k, yG, yT, yL, yW, yN, yS')) :
    ∀ t w, w + t = 4 → ∀ yS, (∀ i, i < w → yS (4 * a + i) = 0) → (∀ i, i < 4 * a ∨ 4 * a + 4 ≤ i → yS i = S0 i) → wY_fill_2 post (nI a) (nI d) (nI n) (nI e) (nI k) (t + 1) (nI w) yG yT yL yW yN yS := by
  have H := tm_Npos h
  intro t
  induction t with
  | zero =>
    intro w hw yS h1 h2
    have Z : ∀ c, c < 256 → ¬ tm_t yS a c := by
      intro c hc z
      unfold tm_t at z
      rw [h1 (c / 64) (by omega)] at z
      have : ((0 : Int64).toBitVec.getLsbD (c % 64)) = false := BitVec.getLsbD_zero
      rw [this] at z
      exact Bool.false_ne_true z
    refine br_t (nI_le (a := 4) (by omega) (by omega)) (ty_put (nI n) (nI e) (nI k) yG yT yL yW yN yS (by omega) (by omega) (fun z => absurd z (Z a (by omega))) (fun _ yS' h3 h4 => ⟨300 + 1, ?_⟩))
    refine ty_f36 fn fend fcnt yG yT yL yW yN yS h hk hd ha hX hp 300 0 (by omega) 1 yS' (fun y hy v => ?_) ((h3 a (by omega)).mpr (Or.inr rfl)) (fun i hi => by rw [h4 i hi, h2 i hi]) (Or.inr ⟨tx_10, ?_⟩)
    · rcases (h3 y (by omega)).mp v with u | u
      · exact absurd u (Z y (by omega))
      · rw [u]; exact tm_Rr
    · have := tm_cstrict (P := fun _ => False) (Q := tm_t yS' a) (e := e) (c := a) (fun _ _ z => z.elim) ha ((h3 a (by omega)).mpr (Or.inr rfl)) (fun z => z)
      omega
  | succ t ih =>
    intro w hw yS h1 h2
    refine br_f (nI_ge (b := 4) (by omega) (by decide)) ⟨by rw [ty_i4]; exact vp_in_nI (by omega) (by omega), nm_e (nm_r (nI_1 w) (ih (w + 1) (by omega) _ (fun i hi => ?_) (fun i hi => ?_)))⟩
    · rw [ty_i4, nI_clamp (by omega)]
      by_cases z : i = w
      · subst z; exact pk_uLs
      · rw [pk_uLn (by omega)]; exact h1 i (by omega)
    · rw [ty_i4, nI_clamp (by omega), pk_uLn (by omega)]
      exact h2 i hi
theorem ty_fill (fn fend fcnt : Int32) (yG yT yL : Nat → Int32) (yW : Nat → Int64) (yN : Nat → Int32) (yS : Nat → Int64) {post : SY → Prop} {n e k d a : Nat} {G : Nat → Nat} (h : tm_N n e) (hk : k ≤ 4) (hd : d ≤ 2) (ha : a < e) (hX : tm_NX n e k G yN)
    (hp : ∀ yS', (∀ c, c < e → (tm_t yS' a c ↔ tm_R n k G d a c)) → (∀ i, i < 4 * a ∨ 4 * a + 4 ≤ i → yS' i = yS i) → post (nI n, nI e, nI k, yG, yT, yL, yW, yN, yS')) : wpY_fill post (nI n, nI e, nI k, yG, yT, yL, yW, yN, yS) (nI a) (nI d) :=
  ⟨4 + 1, ty_f2 fn fend fcnt yG yT yL yW yN yS (S0 := yS) h hk hd ha hX hp 4 0 (by omega) yS (fun i hi => by omega) (fun _ _ => rfl)⟩
theorem ty_me4 (fn fend fcnt : Int32) (yG yT yL : Nat → Int32) (yW : Nat → Int64) (yN : Nat → Int32) (yS : Nat → Int64) {post : Int32 → Prop} {n e k a : Nat} (h : tm_N n e) (ha : a < e) (hp : post (nI (tm_c (tm_t yS a) e))) : ∀ t c, c + t = e → wY_members_4 post (nI a) (nI n) (nI e) (nI k) yG yT yL yW yN yS (t + 1) (nI (tm_c (tm_t yS a) c)) (nI c) := by
  have H := tm_Npos h
  intro t
  induction t with
  | zero =>
    intro c hc
    obtain rfl : c = e := by omega
    exact br_t (nI_le (by omega) (by omega)) hp
  | succ t ih =>
    intro c hc
    have T := ih (c + 1) (by omega)
    refine br_f (nI_ge (by omega) (by omega)) (ty_in (nI n) (nI e) (nI k) yG yT yL yW yN yS (by omega) (by omega) (fun z => br_f tx_10 ?_) (fun z => br_t rfl ?_))
    · rw [tm_ct z] at T
      exact nm_r (nI_1 _) (nm_r (nI_1 c) T)
    · rw [tm_cf z] at T
      exact nm_r (nI_1 c) T
theorem ty_mem (fn fend fcnt : Int32) (yG yT yL : Nat → Int32) (yW : Nat → Int64) (yN : Nat → Int32) (yS : Nat → Int64) {post : Int32 → Prop} {n e k d a : Nat} {G : Nat → Nat} (h : tm_N n e) (ha : a < e) (hS : ∀ c, c < e → (tm_t yS a c ↔ tm_R n k G d a c)) (hp : post (nI (tm_Z n e k G d a))) : wpY_members post (nI n, nI e, nI k, yG, yT, yL, yW, yN, yS) (nI a) :=
  ⟨e + 1, ty_me4 fn fend fcnt yG yT yL yW yN yS h ha (by rw [tm_ccong e hS]; exact hp) e 0 (by omega)⟩
end
section
/-! Y: the questions -/
theorem ty_Ty {n e k c : Nat} {G : Nat → Nat} {yT yL : Nat → Int32} {yW : Nat → Int64} (hF : tm_YF n e k G yT yL yW) (hc : c < e) (hE : tm_E n k G c) : ¬ yT c = 0 := by
  rcases hF c hc with y | ⟨_, _, _, e1, _⟩
  · exact absurd hE y.2
  · rw [e1]; exact tx_10
theorem ty_Tn {n e k c : Nat} {G : Nat → Nat} {yT yL : Nat → Int32} {yW : Nat → Int64} (hF : tm_YF n e k G yT yL yW) (hc : c < e) (hE : ¬ tm_E n k G c) : yT c = 0 := by
  rcases hF c hc with y | ⟨_, _, hB, _⟩
  · exact y.1
  · exact absurd (tm_BE hB) hE
theorem ty_TD {n e k c l N : Nat} {G : Nat → Nat} {yT yL : Nat → Int32} {yW : Nat → Int64} (h : tm_N n e) (hF : tm_YF n e k G yT yL yW) (hB : tm_B n k G c l N) : yL c = nI l ∧ yW c = lN (N - 4 ^ l) := by
  rcases hF c (tm_Wlt h hB.1) with y | y
  · exact absurd (tm_BE hB) y.2
  · exact (tm_DB y hB).2
theorem ty_tot4 (fn fend fcnt : Int32) (yG yT yL : Nat → Int32) (yW : Nat → Int64) (yN : Nat → Int32) (yS : Nat → Int64) {post : Int32 → Prop} {n e k : Nat} {G : Nat → Nat} (h : tm_N n e) (hF : tm_YF n e k G yT yL yW) (hp : post (nI (tm_c (tm_E n k G) e))) : ∀ t c, c + t = e → wY_total_4 post (nI n) (nI e) (nI k) yG yT yL yW yN yS (t + 1) (nI (tm_c (tm_E n k G) c)) (nI c) := by
  have H := tm_Npos h
  intro t
  induction t with
  | zero =>
    intro c hc
    obtain rfl : c = e := by omega
    exact br_t (nI_le (by omega) (by omega)) hp
  | succ t ih =>
    intro c hc
    have T := ih (c + 1) (by omega)
    refine br_f (nI_ge (by omega) (by omega)) ⟨vp_in_nI (by omega) (by omega), ?_⟩
    rw [nI_clamp (by omega : c < 2 ^ 31)]
    by_cases z : tm_E n k G c
    · rw [tm_ct z] at T
      exact br_f (ty_Ty hF (by omega) z) (nm_r (nI_1 _) (nm_r (nI_1 c) T))
    · rw [tm_cf z] at T
      exact br_t (ty_Tn hF (by omega) z) (nm_r (nI_1 c) T)
theorem ty_el8 (fn fend fcnt : Int32) (yG yT yL : Nat → Int32) (yW : Nat → Int64) (yN : Nat → Int32) (yS : Nat → Int64) {post : Int32 → SY → Prop} {n e k : Nat} {G : Nat → Nat} {v : Int32} (h : tm_N n e) (hF : tm_YF n e k G yT yL yW) : ∀ t c b, c + t = e → post (tm_el (tm_E n k G) v t c b) (nI n, nI e, nI k, yG, yT, yL, yW, yN, yS) → wY_element_8 post v (nI n) (nI e) (nI k) yG yT yL yW yN yS (t + 1) b (nI c) := by
  have H := tm_Npos h
  intro t
  induction t with
  | zero =>
    intro c b hc hp
    exact br_t (nI_le (by omega) (by omega)) hp
  | succ t ih =>
    intro c b hc hp
    refine br_f (nI_ge (by omega) (by omega)) ⟨vp_in_nI (by omega) (by omega), ?_⟩
    rw [nI_clamp (by omega : c < 2 ^ 31)]
    unfold tm_el at hp
    by_cases z : tm_E n k G c
    · rw [tm_bt z, if_pos rfl] at hp
      refine br_f (ty_Ty hF (by omega) z) ?_
      by_cases y : b = v
      · rw [if_pos y] at hp
        exact br_t y hp
      · rw [if_neg y] at hp
        exact br_f y (nm_e (nm_r (nI_1 c) (ih (c + 1) _ (by omega) hp)))
    · rw [tm_bf z, if_neg (by decide)] at hp
      exact br_t (ty_Tn hF (by omega) z) (nm_r (nI_1 c) (ih (c + 1) b (by omega) hp))
theorem ty_lo8 (fn fend fcnt : Int32) (yG yT yL : Nat → Int32) (yW : Nat → Int64) (yN : Nat → Int32) (yS : Nat → Int64) {post : Int32 → SY → Prop} {n e k : Nat} {G : Nat → Nat} (h : tm_N n e) (h31 : tm_31 n k G) (hF : tm_YF n e k G yT yL yW)
    (hp : ∀ r, (∀ c l N, tm_B n k G c l N → l ≤ r) → (r = 0 ∨ ∃ c N, tm_B n k G c r N) → post (nI r) (nI n, nI e, nI k, yG, yT, yL, yW, yN, yS)) :
    ∀ t c, c + t = e → ∀ r, r ≤ 31 → (∀ x l N, x < c → tm_B n k G x l N → l ≤ r) → (r = 0 ∨ ∃ c N, tm_B n k G c r N) → wY_longest_8 post (nI n) (nI e) (nI k) yG yT yL yW yN yS (t + 1) (nI r) (nI c) := by
  have H := tm_Npos h
  intro t
  induction t with
  | zero =>
    intro c hc r hr h1 h2
    refine br_t (nI_le (by omega) (by omega)) (hp r (fun x l N hB => h1 x l N ?_ hB) h2)
    have := tm_Wlt h hB.1
    omega
  | succ t ih =>
    intro c hc r hr h1 h2
    refine br_f (nI_ge (by omega) (by omega)) ⟨vp_in_nI (by omega) (by omega), ?_⟩
    rw [nI_clamp (by omega : c < 2 ^ 31)]
    by_cases z : tm_E n k G c
    · obtain ⟨l0, N0, hB⟩ := tm_Bex z
      have a1 := h31 _ _ _ hB
      refine br_f (ty_Ty hF (by omega) z) ⟨vp_in_nI (by omega) (by omega), ?_⟩
      rw [(ty_TD h hF hB).1]
      refine pk_le l0 r (fun y => ?_) (fun y => ⟨vp_in_nI (by omega) (by omega), nm_e ?_⟩)
      · refine nm_r (nI_1 c) (ih (c + 1) (by omega) r hr (fun x l N hx hB' => ?_) h2)
        by_cases v : x = c
        · subst v
          obtain ⟨rfl, rfl⟩ := tm_Bu hB hB'
          exact y
        · exact h1 x l N (by omega) hB'
      · refine nm_r (nI_1 c) (ih (c + 1) (by omega) l0 a1 (fun x l N hx hB' => ?_) (Or.inr ⟨c, N0, hB⟩))
        by_cases v : x = c
        · subst v
          obtain ⟨rfl, rfl⟩ := tm_Bu hB hB'
          exact Nat.le_refl _
        · have := h1 x l N (by omega) hB'
          omega
    · refine br_t (ty_Tn hF (by omega) z) (nm_r (nI_1 c) (ih (c + 1) (by omega) r hr (fun x l N hx hB' => ?_) h2))
      by_cases v : x = c
      · subst v; exact absurd (tm_BE hB') z
      · exact h1 x l N (by omega) hB'
theorem ty_id8 (fn fend fcnt : Int32) (yG yT yL : Nat → Int32) (yW : Nat → Int64) (yN : Nat → Int32) (yS : Nat → Int64) {post : Int32 → SY → Prop} {n e k : Nat} {G : Nat → Nat} (h : tm_N n e) (hF : tm_YF n e k G yT yL yW) (hp : post (nI (tm_c (fun c => tm_E n k G c ∧ tm_m n c c = c) e)) (nI n, nI e, nI k, yG, yT, yL, yW, yN, yS)) : ∀ t c, c + t = e → wY_idempotents_8 post (nI n) (nI e) (nI k) yG yT yL yW yN yS (t + 1) (nI (tm_c (fun c => tm_E n k G c ∧ tm_m n c c = c) c)) (nI c) := by
  have H := tm_Npos h
  intro t
  induction t with
  | zero =>
    intro c hc
    obtain rfl : c = e := by omega
    exact br_t (nI_le (by omega) (by omega)) hp
  | succ t ih =>
    intro c hc
    have T := ih (c + 1) (by omega)
    refine br_f (nI_ge (by omega) (by omega)) ⟨vp_in_nI (by omega) (by omega), ?_⟩
    rw [nI_clamp (by omega : c < 2 ^ 31)]
    by_cases z : tm_E n k G c
    · have m1 := tm_lt h c c
      refine br_f (ty_Ty hF (by omega) z) (ty_times fn fend fcnt yG yT yL yW yN yS h (by omega) (by omega) (pk_eq (tm_m n c c) c (fun y => ?_) (fun y => ?_)))
      · rw [tm_ct (P := fun c => tm_E n k G c ∧ tm_m n c c = c) ⟨z, y⟩] at T
        exact nm_r (nI_1 _) (nm_r (nI_1 c) T)
      · rw [tm_cf (P := fun c => tm_E n k G c ∧ tm_m n c c = c) (fun v => y v.2)] at T
        exact nm_r (nI_1 c) T
    · rw [tm_cf (P := fun c => tm_E n k G c ∧ tm_m n c c = c) (fun v => z v.1)] at T
      exact br_t (ty_Tn hF (by omega) z) (nm_r (nI_1 c) T)
def tm_iv (n k : Nat) (G : Nat → Nat) (a : Nat) : Prop := ∃ b, tm_E n k G b ∧ tm_m n a b = tm_u n ∧ tm_m n b a = tm_u n
theorem ty_iv2 (fn fend fcnt : Int32) (yG yT yL : Nat → Int32) (yW : Nat → Int64) (yN : Nat → Int32) (yS : Nat → Int64) {post : Int32 → Prop} {n e k a : Nat} {G : Nat → Nat} (h : tm_N n e) (hF : tm_YF n e k G yT yL yW) (ha : a < e) (hY : tm_iv n k G a → post 1) (hN : ¬ tm_iv n k G a → post 0) :
    ∀ t b, b + t = e → (∀ b', b' < b → tm_E n k G b' → ¬ (tm_m n a b' = tm_u n ∧ tm_m n b' a = tm_u n)) → wY_inverted_2 post (nI a) (nI (tm_u n)) (nI n) (nI e) (nI k) yG yT yL yW yN yS (t + 1) (nI b) := by
  have H := tm_Npos h
  have hu := tm_ult h
  intro t
  induction t with
  | zero =>
    intro b hb hA
    refine br_t (nI_le (by omega) (by omega)) (hN fun z => ?_)
    obtain ⟨x, x1, x2⟩ := z
    exact hA x (by have := tm_Elt h x1; omega) x1 x2
  | succ t ih =>
    intro b hb hA
    refine br_f (nI_ge (by omega) (by omega)) ⟨vp_in_nI (by omega) (by omega), ?_⟩
    rw [nI_clamp (by omega : b < 2 ^ 31)]
    have R : (tm_E n k G b → ¬ (tm_m n a b = tm_u n ∧ tm_m n b a = tm_u n)) → wY_inverted_2 post (nI a) (nI (tm_u n)) (nI n) (nI e) (nI k) yG yT yL yW yN yS (t + 1) (nI (b + 1)) := by
      intro w
      refine ih (b + 1) (by omega) fun b' hb' => ?_
      by_cases v : b' = b
      · subst v; exact w
      · exact hA b' (by omega)
    by_cases z : tm_E n k G b
    · have m1 := tm_lt h a b
      have m2 := tm_lt h b a
      refine br_f (ty_Ty hF (by omega) z) (ty_times fn fend fcnt yG yT yL yW yN yS h ha (by omega) (pk_eq (tm_m n a b) (tm_u n) (fun y => ?_) (fun y => nm_r (nI_1 b) (R fun _ v => y v.1))))
      refine ty_times fn fend fcnt yG yT yL yW yN yS h (by omega) ha (pk_eq (tm_m n b a) (tm_u n) (fun y' => hY ⟨b, z, y, y'⟩) (fun y' => nm_r (nI_1 b) (R fun _ v => y' v.2)))
    · exact br_t (ty_Tn hF (by omega) z) (nm_r (nI_1 b) (R fun v => absurd v z))
theorem ty_un13 (fn fend fcnt : Int32) (yG yT yL : Nat → Int32) (yW : Nat → Int64) (yN : Nat → Int32) (yS : Nat → Int64) {post : Int32 → SY → Prop} {n e k : Nat} {G : Nat → Nat} (h : tm_N n e) (hF : tm_YF n e k G yT yL yW) (hp : post (nI (tm_c (fun c => tm_E n k G c ∧ tm_iv n k G c) e)) (nI n, nI e, nI k, yG, yT, yL, yW, yN, yS)) : ∀ t c, c + t = e → wY_units_13 post (nI (tm_u n)) (nI n) (nI e) (nI k) yG yT yL yW yN yS (t + 1) (nI (tm_c (fun c => tm_E n k G c ∧ tm_iv n k G c) c)) (nI c) := by
  have H := tm_Npos h
  intro t
  induction t with
  | zero =>
    intro c hc
    obtain rfl : c = e := by omega
    exact br_t (nI_le (by omega) (by omega)) hp
  | succ t ih =>
    intro c hc
    have T := ih (c + 1) (by omega)
    refine br_f (nI_ge (by omega) (by omega)) ⟨vp_in_nI (by omega) (by omega), ?_⟩
    rw [nI_clamp (by omega : c < 2 ^ 31)]
    by_cases z : tm_E n k G c
    · refine br_f (ty_Ty hF (by omega) z) ⟨e + 1, ty_iv2 fn fend fcnt yG yT yL yW yN yS (G := G) h hF (by omega) (fun y => br_f tx_10 ?_) (fun y => br_t rfl ?_) e 0 (by omega) (fun b' hb' => by omega)⟩
      · rw [tm_ct (P := fun c => tm_E n k G c ∧ tm_iv n k G c) ⟨z, y⟩] at T
        exact nm_r (nI_1 _) (nm_r (nI_1 c) T)
      · rw [tm_cf (P := fun c => tm_E n k G c ∧ tm_iv n k G c) (fun v => y v.2)] at T
        exact nm_r (nI_1 c) T
    · rw [tm_cf (P := fun c => tm_E n k G c ∧ tm_iv n k G c) (fun v => z v.1)] at T
      exact br_t (ty_Tn hF (by omega) z) (nm_r (nI_1 c) T)
theorem ty_pc4 : ∀ s, s < 16 → (((nI s &&& 1) + ((nI s >>> ((1 : Int32) &&& 31)) &&& 1)) + ((nI s >>> ((2 : Int32) &&& 31)) &&& 1)) + ((nI s >>> ((3 : Int32) &&& 31)) &&& 1) = nI (tm_pc s) := by decide +kernel
theorem ty_rk14 (fn fend fcnt : Int32) (yG yT yL : Nat → Int32) (yW : Nat → Int64) (yN : Nat → Int32) (yS : Nat → Int64) {post : Int32 → Prop} {n e k f : Nat} (h : tm_N n e) (hf : f < e) (hp : post (nI (tm_rk n f))) : ∀ d p, p + d = n → wY_rank_14 post (nI f) (nI n) (nI e) (nI k) yG yT yL yW yN yS (d + 1) (nI (tm_or n f p)) (nI p) := by
  have H := tm_Npos h
  intro d
  induction d with
  | zero =>
    intro p hpd
    obtain rfl : p = n := by omega
    refine br_t (nI_le (by omega) (by omega)) ?_
    rw [ty_pc4 _ (tm_orlt h f p)]
    exact hp
  | succ d ih =>
    intro p hpd
    have hi := tm_imlt h f p
    exact br_f (nI_ge (by omega) (by omega)) (ty_im fn fend fcnt yG yT yL yW yN yS h hf (by omega) (nm_r (e' := nI (tm_or n f (p + 1))) (tx_bit _ (tm_orlt h f p) _ (by omega : tm_im n f p < 4)).2.1 (nm_r (nI_1 p) (ih (p + 1) (by omega)))))
theorem ty_po5 (fn fend fcnt : Int32) (yG yT yL : Nat → Int32) (yW : Nat → Int64) (yN : Nat → Int32) (yS : Nat → Int64) {post : Int32 → Prop} {n e k c j : Nat} (h : tm_N n e) (hc : c < e) (hj : j < 100) (hp : post (nI (tm_p n c j))) : ∀ t i, i + t = j → wY_power_5 post (nI c) (nI (j + 1)) (nI n) (nI e) (nI k) yG yT yL yW yN yS (t + 1) (nI (tm_p n c i)) (nI (i + 1)) := by
  have H := tm_Npos h
  intro t
  induction t with
  | zero =>
    intro i hi
    obtain rfl : i = j := by omega
    exact br_t (nI_le (by omega) (by omega)) hp
  | succ t ih =>
    intro i hi
    exact br_f (nI_ge (by omega) (by omega)) (ty_times fn fend fcnt yG yT yL yW yN yS h (tm_plt h hc i) hc (nm_r (nI_1 (i + 1)) (ih (i + 1) (by omega))))
theorem ty_po (fn fend fcnt : Int32) (yG yT yL : Nat → Int32) (yW : Nat → Int64) (yN : Nat → Int32) (yS : Nat → Int64) {post : Int32 → Prop} {n e k c j : Nat} (h : tm_N n e) (hc : c < e) (hj : j < 100) (hp : post (nI (tm_p n c j))) : wpY_power post (nI n, nI e, nI k, yG, yT, yL, yW, yN, yS) (nI c) (nI (j + 1)) :=
  ⟨j + 1, ty_po5 fn fend fcnt yG yT yL yW yN yS h hc hj hp j 0 (by omega)⟩
theorem ty_ro2 (fn fend fcnt : Int32) (yG yT yL : Nat → Int32) (yW : Nat → Int64) (yN : Nat → Int32) (yS : Nat → Int64) {post : Int32 → Prop} {n e k c j : Nat} (h : tm_N n e) (hc : c < e) (hj : j < 50)
    (hY : ∀ m, m ≤ 12 → tm_Pe n c j m → post (nI m)) (hZ : (∀ m, 1 ≤ m → m ≤ 12 → tm_p n c (j + m) ≠ tm_p n c j) → post 0) :
    ∀ t m, m + t = 12 → (∀ m', 1 ≤ m' → m' ≤ m → tm_p n c (j + m') ≠ tm_p n c j) → wY_round_2 post (nI c) (nI (j + 1)) (nI n) (nI e) (nI k) yG yT yL yW yN yS (t + 1) (nI (m + 1)) := by
  have H := tm_Npos h
  intro t
  induction t with
  | zero =>
    intro m hm hn
    exact br_t (nI_le (a := 13) (by omega) (by omega)) (hZ fun m' h1 h2 => hn m' h1 (by omega))
  | succ t ih =>
    intro m hm hn
    have p1 := tm_plt h hc j
    have p2 := tm_plt h hc (j + m + 1)
    refine br_f (nI_ge (b := 13) (by omega) (by decide)) (ty_po fn fend fcnt yG yT yL yW yN yS h hc (by omega) ?_)
    rw [nI_add, show j + 1 + (m + 1) = j + m + 1 + 1 from by omega]
    refine ty_po fn fend fcnt yG yT yL yW yN yS h hc (by omega) (pk_eq (tm_p n c j) (tm_p n c (j + m + 1)) (fun z => ?_) (fun z => ?_))
    · exact hY (m + 1) (by omega) ⟨by omega, z.symm, fun m' h1 h2 => hn m' h1 (by omega)⟩
    · refine nm_r (nI_1 (m + 1)) (ih (m + 1) (by omega) fun m' h1 h2 => ?_)
      by_cases y : m' = m + 1
      · subst y; exact fun w => z w.symm
      · exact hn m' h1 (by omega)
theorem ty_ro (fn fend fcnt : Int32) (yG yT yL : Nat → Int32) (yW : Nat → Int64) (yN : Nat → Int32) (yS : Nat → Int64) {post : Int32 → Prop} {n e k c j : Nat} (h : tm_N n e) (hc : c < e) (hj : j < 50)
    (hY : ∀ m, m ≤ 12 → tm_Pe n c j m → post (nI m)) (hZ : ¬ tm_rt n c j → post 0) : wpY_round post (nI n, nI e, nI k, yG, yT, yL, yW, yN, yS) (nI c) (nI (j + 1)) :=
  ⟨12 + 1, ty_ro2 fn fend fcnt yG yT yL yW yN yS h hc hj hY (fun z => hZ (z _ (tm_qb h).1 (tm_qb h).2.2)) 12 0 (by omega) (fun m' h1 h2 => by omega)⟩
theorem ty_fi2 (fn fend fcnt : Int32) (yG yT yL : Nat → Int32) (yW : Nat → Int64) (yN : Nat → Int32) (yS : Nat → Int64) {post : Int32 → Prop} {n e k c : Nat} (h : tm_N n e) (hc : c < e) (hp : ∀ j, j ≤ 2 → tm_Ix n c j → post (nI (j + 1))) :
    ∀ t j, j + t = 2 → (∀ j', j' < j → ¬ tm_rt n c j') → wY_first_2 post (nI c) (nI n) (nI e) (nI k) yG yT yL yW yN yS (t + 1) (nI (j + 1)) := by
  have H := tm_Npos h
  intro t
  induction t with
  | zero =>
    intro j hj hn
    obtain rfl : j = 2 := by omega
    refine br_f (nI_ge (b := 9) (by omega) (by decide)) (ty_ro fn fend fcnt yG yT yL yW yN yS h hc (by omega) (fun m hm hP => ?_) (fun z => absurd (tm_per h hc) z))
    exact br_f (nI_nle (by have := hP.1; omega) (by omega)) (hp 2 (by omega) ⟨tm_per h hc, hn⟩)
  | succ t ih =>
    intro j hj hn
    refine br_f (nI_ge (b := 9) (by omega) (by decide)) (ty_ro fn fend fcnt yG yT yL yW yN yS h hc (by omega) (fun m hm hP => ?_) (fun z => ?_))
    · exact br_f (nI_nle (by have := hP.1; omega) (by omega)) (hp j (by omega) ⟨tm_ret h hc hP.1 hP.2.1, hn⟩)
    · refine br_t (by decide) (nm_r (nI_1 (j + 1)) (ih (j + 1) (by omega) fun j' hj' => ?_))
      by_cases y : j' = j
      · subst y; exact z
      · exact hn j' (by omega)
theorem ty_fi (fn fend fcnt : Int32) (yG yT yL : Nat → Int32) (yW : Nat → Int64) (yN : Nat → Int32) (yS : Nat → Int64) {post : Int32 → Prop} {n e k c : Nat} (h : tm_N n e) (hc : c < e) (hp : ∀ j, j ≤ 2 → tm_Ix n c j → post (nI (j + 1))) : wpY_first post (nI n, nI e, nI k, yG, yT, yL, yW, yN, yS) (nI c) :=
  ⟨2 + 1, ty_fi2 fn fend fcnt yG yT yL yW yN yS h hc hp 2 0 (by omega) (fun j' hj' => by omega)⟩
theorem tm_Ixu {n c j j' : Nat} (h : tm_Ix n c j) (h' : tm_Ix n c j') : j = j' := by
  rcases Nat.lt_trichotomy j j' with y | y | y
  · exact absurd h.1 (h'.2 j y)
  · exact y
  · exact absurd h'.1 (h.2 j' y)
theorem tm_Peu {n c j m m' : Nat} (h : tm_Pe n c j m) (h' : tm_Pe n c j m') : m = m' := by
  rcases Nat.lt_trichotomy m m' with y | y | y
  · exact absurd h.2.1 (h'.2.2 m h.1 y)
  · exact y
  · exact absurd h'.2.1 (h.2.2 m' h'.1 y)
end
section
/-! Y: classes, the kernel, commuting -/
def tm_nw (n k : Nat) (G : Nat → Nat) (d : Nat) (a : Nat) : Prop := tm_E n k G a ∧ ∀ b, b < a → tm_E n k G b → ¬ tm_q2 n k G d a b
theorem ty_c69 (fn fend fcnt : Int32) (yG yT yL : Nat → Int32) (yW : Nat → Int64) (yN : Nat → Int32) (yS : Nat → Int64) {post : Int32 → SY → Prop} {J50 : Int32 → Int32 → Prop} {n e k d a r : Nat} {G : Nat → Nat} (h : tm_N n e) (hF : tm_YF n e k G yT yL yW) (ha : a < e) (hS : ∀ x c, x < e → tm_E n k G x → c < e → (tm_t yS x c ↔ tm_R n k G d x c))
    (hY : tm_nw n k G d a → J50 (nI (r + 1)) (nI (a + 1))) (hN : ¬ tm_nw n k G d a → J50 (nI r) (nI (a + 1))) :
    ∀ t b, b + t = a → ∀ x : Int32, (¬ x = 0 ↔ tm_E n k G a ∧ ∀ b', b' < b → tm_E n k G b' → ¬ tm_q2 n k G d a b') → wY_classes_69 post J50 (nI r) (nI a) (nI n) (nI e) (nI k) yG yT yL yW yN yS (t + 1) x (nI b) := by
  have H := tm_Npos h
  intro t
  induction t with
  | zero =>
    intro b hb x hx
    obtain rfl : b = a := by omega
    refine br_t (nI_le (by omega) (by omega)) ?_
    by_cases z : x = 0
    · exact br_t z (nm_r (nI_1 b) (hN fun w => hx.mpr w z))
    · exact br_f z (nm_r (nI_1 r) (nm_r (nI_1 b) (hY (hx.mp z))))
  | succ t ih =>
    intro b hb x hx
    refine br_f (nI_ge (by omega) (by omega)) ⟨vp_in_nI (by omega) (by omega), ?_⟩
    rw [nI_clamp (by omega : b < 2 ^ 31)]
    have K : (tm_E n k G a → tm_E n k G b → ¬ tm_q2 n k G d a b) → wY_classes_69 post J50 (nI r) (nI a) (nI n) (nI e) (nI k) yG yT yL yW yN yS (t + 1) x (nI (b + 1)) := by
      intro w
      refine ih (b + 1) (by omega) x (hx.trans ⟨fun v => ⟨v.1, fun b' hb' => ?_⟩, fun v => ⟨v.1, fun b' hb' => v.2 b' (by omega)⟩⟩)
      by_cases u : b' = b
      · subst u; exact w v.1
      · exact v.2 b' (by omega)
    by_cases z : tm_E n k G b
    · refine br_f (ty_Ty hF (by omega) z) (ty_in (nI n) (nI e) (nI k) yG yT yL yW yN yS (by omega) (by omega) (fun y => br_f tx_10 ?_) (fun y => br_t rfl (nm_r (nI_1 b) (K fun w _ v => y ((hS a b ha w (by omega)).mpr v.1)))))
      refine ty_in (nI n) (nI e) (nI k) yG yT yL yW yN yS (by omega) (by omega) (fun y' => br_f tx_10 ?_) (fun y' => br_t rfl (nm_r (nI_1 b) (K fun _ _ v => y' ((hS b a (by omega) z ha).mpr v.2))))
      refine nm_r (nI_1 b) (ih (b + 1) (by omega) 0 ⟨fun v => absurd rfl v, fun v => ?_⟩)
      exact absurd ⟨(hS a b ha v.1 (by omega)).mp y, (hS b a (by omega) z ha).mp y'⟩ (v.2 b (by omega) z)
    · exact br_t (ty_Tn hF (by omega) z) (nm_r (nI_1 b) (K fun _ v => absurd v z))
theorem ty_c50 (fn fend fcnt : Int32) (yG yT yL : Nat → Int32) (yW : Nat → Int64) (yN : Nat → Int32) (yS : Nat → Int64) {post : Int32 → SY → Prop} {n e k d : Nat} {G : Nat → Nat} (h : tm_N n e) (hF : tm_YF n e k G yT yL yW) (hS : ∀ x c, x < e → tm_E n k G x → c < e → (tm_t yS x c ↔ tm_R n k G d x c))
    (hp : post (nI (tm_c (tm_nw n k G d) e)) (nI n, nI e, nI k, yG, yT, yL, yW, yN, yS)) :
    ∀ t a, a + t = e → wY_classes_50 post (nI n) (nI e) (nI k) yG yT yL yW yN yS (t + 1) (nI (tm_c (tm_nw n k G d) a)) (nI a) := by
  have H := tm_Npos h
  intro t
  induction t with
  | zero =>
    intro a ha
    obtain rfl : a = e := by omega
    exact br_t (nI_le (by omega) (by omega)) hp
  | succ t ih =>
    intro a ha
    have T := ih (a + 1) (by omega)
    refine br_f (nI_ge (by omega) (by omega)) ⟨vp_in_nI (by omega) (by omega), nm_e ⟨a + 1, ?_⟩⟩
    rw [nI_clamp (by omega : a < 2 ^ 31)]
    refine ty_c69 fn fend fcnt yG yT yL yW yN yS (d := d) (G := G) h hF (by omega) hS (fun z => ?_) (fun z => ?_) a 0 (by omega) (yT a) ⟨fun z => ⟨?_, fun b' hb' => by omega⟩, fun z => ty_Ty hF (by omega) z.1⟩
    · rw [tm_ct z] at T; exact T
    · rw [tm_cf z] at T; exact T
    · by_cases y : tm_E n k G a
      · exact y
      · exact absurd (ty_Tn hF (by omega) y) z
theorem ty_c17 (fn fend fcnt : Int32) (yG yT yL : Nat → Int32) (yW : Nat → Int64) (yN : Nat → Int32) (yS : Nat → Int64) {post : Int32 → SY → Prop} {n e k d : Nat} {G : Nat → Nat} (h : tm_N n e) (hk : k ≤ 4) (hd : d ≤ 2) (hX : tm_NX n e k G yN) (hF : tm_YF n e k G yT yL yW)
    (hp : ∀ yS, post (nI (tm_c (tm_nw n k G d) e)) (nI n, nI e, nI k, yG, yT, yL, yW, yN, yS)) :
    ∀ t a, a + t = e → ∀ yS, (∀ x c, x < a → tm_E n k G x → c < e → (tm_t yS x c ↔ tm_R n k G d x c)) → wY_classes_17 post (nI d) (t + 1) (nI a) (nI n) (nI e) (nI k) yG yT yL yW yN yS := by
  have H := tm_Npos h
  intro t
  induction t with
  | zero =>
    intro a ha yS hS
    obtain rfl : a = e := by omega
    exact br_t (nI_le (by omega) (by omega)) ⟨a + 1, ty_c50 fn fend fcnt yG yT yL yW yN yS h hF hS (hp yS) a 0 (by omega)⟩
  | succ t ih =>
    intro a ha yS hS
    refine br_f (nI_ge (by omega) (by omega)) ⟨vp_in_nI (by omega) (by omega), ?_⟩
    rw [nI_clamp (by omega : a < 2 ^ 31)]
    by_cases z : tm_E n k G a
    · refine br_f (ty_Ty hF (by omega) z) (ty_fill fn fend fcnt yG yT yL yW yN yS h hk hd (by omega) hX (fun yS' h1 h2 => nm_r (nI_1 a) (ih (a + 1) (by omega) yS' fun x c hx hE hc => ?_)))
      by_cases y : x = a
      · subst y; exact h1 c hc
      · have e1 : tm_t yS' x c ↔ tm_t yS x c := by
          unfold tm_t
          rw [h2 (4 * x + c / 64) (by omega)]
        exact e1.trans (hS x c (by omega) hE hc)
    · refine br_t (ty_Tn hF (by omega) z) (nm_r (nI_1 a) (ih (a + 1) (by omega) yS fun x c hx hE hc => ?_))
      by_cases y : x = a
      · subst y; exact absurd hE z
      · exact hS x c (by omega) hE hc
theorem ty_ke11 (fn fend fcnt : Int32) (yG yT yL : Nat → Int32) (yW : Nat → Int64) (yN : Nat → Int32) (yS : Nat → Int64) {post : Int32 → SY → Prop} {n e k : Nat} {G : Nat → Nat} (h : tm_N n e) (hk : k ≤ 4) (hX : tm_NX n e k G yN) (hF : tm_YF n e k G yT yL yW)
    (hp : ∀ yS r, r ≤ e → (∀ a, tm_E n k G a → r ≤ tm_Z n e k G 2 a) → (r = e ∨ ∃ a, tm_E n k G a ∧ r = tm_Z n e k G 2 a) → post (nI r) (nI n, nI e, nI k, yG, yT, yL, yW, yN, yS)) :
    ∀ t a, a + t = e → ∀ yS r, r ≤ e → (∀ x, x < a → tm_E n k G x → r ≤ tm_Z n e k G 2 x) → (r = e ∨ ∃ a, tm_E n k G a ∧ r = tm_Z n e k G 2 a) → wY_kernel_11 post (t + 1) (nI r) (nI a) (nI n) (nI e) (nI k) yG yT yL yW yN yS := by
  have H := tm_Npos h
  intro t
  induction t with
  | zero =>
    intro a ha yS r h1 h2 h3
    exact br_t (nI_le (by omega) (by omega)) (hp yS r h1 (fun x hx => h2 x (by have := tm_Elt h hx; omega) hx) h3)
  | succ t ih =>
    intro a ha yS r h1 h2 h3
    refine br_f (nI_ge (by omega) (by omega)) ⟨vp_in_nI (by omega) (by omega), ?_⟩
    rw [nI_clamp (by omega : a < 2 ^ 31)]
    by_cases z : tm_E n k G a
    · have b1 : tm_Z n e k G 2 a ≤ e := tm_Zle
      refine br_f (ty_Ty hF (by omega) z) (ty_fill fn fend fcnt yG yT yL yW yN yS (d := 2) h hk (Nat.le_refl _) (by omega) hX (fun yS' g1 g2 => ty_mem fn fend fcnt yG yT yL yW yN yS' h (by omega) g1 (pk_le r (tm_Z n e k G 2 a) (fun y => ?_) (fun y => ?_))))
      · refine nm_r (nI_1 a) (ih (a + 1) (by omega) yS' r h1 (fun x hx hE => ?_) h3)
        by_cases v : x = a
        · subst v; exact y
        · exact h2 x (by omega) hE
      · refine nm_r (nI_1 a) (ih (a + 1) (by omega) yS' _ b1 (fun x hx hE => ?_) (Or.inr ⟨a, z, rfl⟩))
        by_cases v : x = a
        · subst v; exact Nat.le_refl _
        · have := h2 x (by omega) hE; omega
    · refine br_t (ty_Tn hF (by omega) z) (nm_r (nI_1 a) (ih (a + 1) (by omega) yS r h1 (fun x hx hE => ?_) h3))
      by_cases v : x = a
      · subst v; exact absurd hE z
      · exact h2 x (by omega) hE
theorem ty_co16 (fn fend fcnt : Int32) (yG yT yL : Nat → Int32) (yW : Nat → Int64) (yN : Nat → Int32) (yS : Nat → Int64) {post : Int32 → SY → Prop} {J6 : Int32 → Prop} {n e k a : Nat} {G : Nat → Nat} (h : tm_N n e) (hF : tm_YF n e k G yT yL yW) (ha : a < e)
    (hN : (∃ a b, tm_E n k G a ∧ tm_E n k G b ∧ tm_m n a b ≠ tm_m n b a) → post 0 (nI n, nI e, nI k, yG, yT, yL, yW, yN, yS)) (hJ : (∀ b, b < a → tm_E n k G a → tm_E n k G b → tm_m n a b = tm_m n b a) → J6 (nI (a + 1))) :
    ∀ t b, b + t = a → (∀ b', b' < b → tm_E n k G a → tm_E n k G b' → tm_m n a b' = tm_m n b' a) → wY_commutes_16 post J6 (nI a) (nI n) (nI e) (nI k) yG yT yL yW yN yS (t + 1) (nI b) := by
  have H := tm_Npos h
  intro t
  induction t with
  | zero =>
    intro b hb hA
    obtain rfl : b = a := by omega
    exact br_t (nI_le (by omega) (by omega)) (nm_r (nI_1 b) (hJ hA))
  | succ t ih =>
    intro b hb hA
    refine br_f (nI_ge (by omega) (by omega)) ⟨vp_in_nI (by omega) (by omega), ?_⟩
    rw [nI_clamp (by omega : a < 2 ^ 31), nI_clamp (by omega : b < 2 ^ 31)]
    have K : (tm_E n k G a → tm_E n k G b → tm_m n a b = tm_m n b a) → wY_commutes_16 post J6 (nI a) (nI n) (nI e) (nI k) yG yT yL yW yN yS (t + 1) (nI (b + 1)) := by
      intro w
      refine ih (b + 1) (by omega) fun b' hb' => ?_
      by_cases v : b' = b
      · subst v; exact w
      · exact hA b' (by omega)
    by_cases z : tm_E n k G a
    · refine br_f (ty_Ty hF (by omega) z) ⟨vp_in_nI (by omega) (by omega), ?_⟩
      by_cases y : tm_E n k G b
      · have m1 := tm_lt h a b
        have m2 := tm_lt h b a
        refine br_f (ty_Ty hF (by omega) y) (ty_times fn fend fcnt yG yT yL yW yN yS h ha (by omega) (ty_times fn fend fcnt yG yT yL yW yN yS h (by omega) ha (pk_eq (tm_m n a b) (tm_m n b a) (fun w => nm_r (nI_1 b) (K fun _ _ => w)) (fun w => hN ⟨a, b, z, y, w⟩))))
      · exact br_t (ty_Tn hF (by omega) y) (nm_r (nI_1 b) (K fun _ v => absurd v y))
    · exact br_t (ty_Tn hF (by omega) z) (nm_r (nI_1 b) (K fun v _ => absurd v z))
theorem ty_co6 (fn fend fcnt : Int32) (yG yT yL : Nat → Int32) (yW : Nat → Int64) (yN : Nat → Int32) (yS : Nat → Int64) {post : Int32 → SY → Prop} {n e k : Nat} {G : Nat → Nat} (h : tm_N n e) (hF : tm_YF n e k G yT yL yW)
    (hN : (∃ a b, tm_E n k G a ∧ tm_E n k G b ∧ tm_m n a b ≠ tm_m n b a) → post 0 (nI n, nI e, nI k, yG, yT, yL, yW, yN, yS)) (hY : (∀ a b, tm_E n k G a → tm_E n k G b → tm_m n a b = tm_m n b a) → post 1 (nI n, nI e, nI k, yG, yT, yL, yW, yN, yS)) :
    ∀ t a, a + t = e → (∀ a' b', a' < a → b' < a' → tm_E n k G a' → tm_E n k G b' → tm_m n a' b' = tm_m n b' a') → wY_commutes_6 post (nI n) (nI e) (nI k) yG yT yL yW yN yS (t + 1) (nI a) := by
  have H := tm_Npos h
  intro t
  induction t with
  | zero =>
    intro a ha hA
    refine br_t (nI_le (by omega) (by omega)) (hY fun x y hx hy => ?_)
    have x1 := tm_Elt h hx
    have y1 := tm_Elt h hy
    rcases Nat.lt_trichotomy x y with w | w | w
    · exact (hA y x (by omega) w hy hx).symm
    · rw [w]
    · exact hA x y (by omega) w hx hy
  | succ t ih =>
    intro a ha hA
    refine br_f (nI_ge (by omega) (by omega)) ⟨a + 1, ?_⟩
    refine ty_co16 fn fend fcnt yG yT yL yW yN yS (G := G) h hF (by omega) hN (fun hB => ih (a + 1) (by omega) fun x y hx hy => ?_) a 0 (by omega) (fun b' hb' => by omega)
    by_cases w : x = a
    · subst w; exact hB y hy
    · exact hA x y (by omega) hy
end
section
/-! what X and Y count differently -/
theorem tm_enum {n e k q : Nat} {G fo l N : Nat → Nat} {aI aG aF aW aL aS : Nat → Int32} (h : tm_X n e k G q fo l N aI aG aF aW aL aS) (Q : Nat → Prop) : tm_c (fun j => Q (fo j)) q = tm_c (fun c => tm_E n k G c ∧ Q c) e := by
  apply Nat.le_antisymm
  · refine tm_cinj (T := fun j c => fo j = c) q _ (fun j hj hQ => ⟨fo j, (h.2.2.2.2.2.1 j hj).1, ⟨tm_BE (h.2.2.2.2.2.1 j hj).2.2.2.1, hQ⟩, rfl⟩) (fun i i' c hi hi' _ _ _ z z' => tm_Xu h hi hi' (z.trans z'.symm))
  · refine tm_cinj (T := fun c j => fo j = c) e _ (fun c hc hQ => ?_) (fun i i' c hi hi' _ _ _ z z' => z.symm.trans z')
    obtain ⟨j, hj, e1⟩ := tm_Xj h hQ.1
    exact ⟨j, hj, by show Q (fo j); rw [e1]; exact hQ.2, e1⟩
theorem tm_u2 : ∀ c, c < 4 → tm_rk 2 c = 2 → tm_p 2 c 11 = tm_u 2 := by decide +kernel
theorem tm_u3 : ∀ c, c < 27 → tm_rk 3 c = 3 → tm_p 3 c 11 = tm_u 3 := by decide +kernel
theorem tm_u4 : ∀ c, c < 256 → tm_rk 4 c = 4 → tm_p 4 c 11 = tm_u 4 := by decide +kernel
theorem tm_v2 : ∀ c, c < 4 → (∀ p, p < 2 → ∀ q, q < 2 → tm_im 2 c p = tm_im 2 c q → p = q) → tm_rk 2 c = 2 := by decide +kernel
theorem tm_v3 : ∀ c, c < 27 → (∀ p, p < 3 → ∀ q, q < 3 → tm_im 3 c p = tm_im 3 c q → p = q) → tm_rk 3 c = 3 := by decide +kernel
theorem tm_v4 : ∀ c, c < 256 → (∀ p, p < 4 → ∀ q, q < 4 → tm_im 4 c p = tm_im 4 c q → p = q) → tm_rk 4 c = 4 := by decide +kernel
theorem tm_unit {n e k c : Nat} {G : Nat → Nat} (h : tm_N n e) (hk : k ≤ 4) (hc : tm_E n k G c) : tm_rk n c = n ↔ tm_iv n k G c := by
  have hce := tm_Elt h hc
  constructor
  · intro z
    have e1 : tm_p n c 11 = tm_u n := by
      rcases h with ⟨h, h'⟩ | ⟨h, h'⟩ | ⟨h, h'⟩ <;> subst h h'
      · exact tm_u2 c hce z
      · exact tm_u3 c hce z
      · exact tm_u4 c hce z
    exact ⟨tm_p n c 10, tm_pE h hk hc 10, by rw [← e1]; exact tm_padd h c 0 10, by rw [← e1]; exact tm_padd h c 10 0⟩
  · rintro ⟨b, _, e1, _⟩
    have I : ∀ p, p < n → ∀ q, q < n → tm_im n c p = tm_im n c q → p = q := by
      intro p hp q hq z
      have a1 := tm_dig h c b hp
      have a2 := tm_dig h c b hq
      rw [e1, tm_uim h _ hp] at a1
      rw [e1, tm_uim h _ hq] at a2
      rw [a1, a2, z]
    rcases h with ⟨h, h'⟩ | ⟨h, h'⟩ | ⟨h, h'⟩ <;> subst h h'
    · exact tm_v2 c hce I
    · exact tm_v3 c hce I
    · exact tm_v4 c hce I
theorem tm_cls {n e k q d : Nat} {G fo l N : Nat → Nat} {aI aG aF aW aL aS : Nat → Int32} (h : tm_X n e k G q fo l N aI aG aF aW aL aS) : tm_c (tm_fst n k G d fo) q = tm_c (tm_nw n k G d) e := by
  apply Nat.le_antisymm
  · refine tm_cinj (T := fun j c => tm_q2 n k G d (fo j) c) q _ (fun j hj hQ => ?_) (fun i i' c hi hi' hA hA' _ z z' => ?_)
    · have hE := tm_BE (h.2.2.2.2.2.1 j hj).2.2.2.1
      obtain ⟨c, ⟨c1, c2⟩, c3⟩ := pk_least (fun c => tm_E n k G c ∧ tm_q2 n k G d (fo j) c) ⟨fo j, hE, tm_qr⟩
      exact ⟨c, tm_Elt h.1 c1, ⟨c1, fun b hb hEb w => c3 b hb ⟨hEb, tm_qt c2 w⟩⟩, c2⟩
    · have w : tm_q2 n k G d (fo i) (fo i') := tm_qt z (tm_qs z')
      rcases Nat.lt_trichotomy i i' with y | y | y
      · exact absurd w (hA' i y)
      · exact y
      · exact absurd (tm_qs w) (hA i' y)
  · refine tm_cinj (T := fun c j => tm_q2 n k G d (fo j) c) e _ (fun c hc hQ => ?_) (fun i i' c hi hi' hA hA' _ z z' => ?_)
    · obtain ⟨j0, hj0, e0⟩ := tm_Xj h hQ.1
      obtain ⟨j, ⟨j1, j2⟩, j3⟩ := pk_least (fun j => j < q ∧ tm_q2 n k G d (fo j) c) ⟨j0, hj0, by rw [e0]; exact tm_qr⟩
      exact ⟨j, j1, fun j' hj' w => j3 j' hj' ⟨by omega, tm_qt w j2⟩, j2⟩
    · have w : tm_q2 n k G d i i' := tm_qt (tm_qs z) z'
      rcases Nat.lt_trichotomy i i' with y | y | y
      · exact absurd (tm_qs w) (hA'.2 i y hA.1)
      · exact y
      · exact absurd w (hA.2 i' y hA'.1)
theorem tm_ker {n e k q r r' : Nat} {G fo l N : Nat → Nat} {aI aG aF aW aL aS : Nat → Int32} (h : tm_X n e k G q fo l N aI aG aF aW aL aS) (h1 : ∀ j, j < q → r ≤ tm_Z n e k G 2 (fo j)) (h2 : r = q ∨ ∃ j, j < q ∧ r = tm_Z n e k G 2 (fo j))
    (h3 : ∀ a, tm_E n k G a → r' ≤ tm_Z n e k G 2 a) (h4 : r' = e ∨ ∃ a, tm_E n k G a ∧ r' = tm_Z n e k G 2 a) : r' = r := by
  have A : ∀ a, tm_E n k G a → r ≤ tm_Z n e k G 2 a := by
    intro a ha
    obtain ⟨j, hj, e1⟩ := tm_Xj h ha
    rw [← e1]; exact h1 j hj
  have B : ∀ a, tm_E n k G a → tm_Z n e k G 2 a ≤ q := by
    intro a ha
    rw [h.2.2.2.2.1.2.2]
    exact tm_cmono e fun c _ hr => tm_RE h.1 h.2.1 (fun g hg => (h.2.2.1 g hg).1) ha hr
  have u := tm_Eu (n := n) (k := k) (G := G)
  have x1 : ∃ a, tm_E n k G a ∧ r = tm_Z n e k G 2 a := by
    rcases h2 with y | ⟨j, hj, y⟩
    · exact ⟨_, u, by have := A _ u; have := B _ u; omega⟩
    · exact ⟨fo j, tm_BE (h.2.2.2.2.2.1 j hj).2.2.2.1, y⟩
  have x2 : ∃ a, tm_E n k G a ∧ r' = tm_Z n e k G 2 a := by
    rcases h4 with y | y
    · have z : tm_Z n e k G 2 (tm_u n) ≤ e := tm_Zle
      exact ⟨_, u, by have := h3 _ u; omega⟩
    · exact y
  obtain ⟨a, ha, y⟩ := x1
  obtain ⟨b, hb, y'⟩ := x2
  have := A b hb
  have := h3 a ha
  omega
theorem tm_lon {n e k q r : Nat} {G fo l N : Nat → Nat} {aI aG aF aW aL aS : Nat → Int32} (h : tm_X n e k G q fo l N aI aG aF aW aL aS) (h1 : ∀ c l N, tm_B n k G c l N → l ≤ r) (h2 : r = 0 ∨ ∃ c N, tm_B n k G c r N) : r = l (q - 1) := by
  have hq := h.2.2.2.2.1.1
  have a1 := (h.2.2.2.2.2.1 (q - 1) (by omega)).2.2.2.1
  have a2 := h1 _ _ _ a1
  rcases h2 with y | ⟨c, M, hB⟩
  · omega
  · obtain ⟨j, hj, e1⟩ := tm_Xj h (tm_BE hB)
    have a3 := (h.2.2.2.2.2.1 j hj).2.2.2.1
    rw [e1] at a3
    obtain ⟨e2, e3⟩ := tm_Bu hB a3
    have a4 : N j ≤ N (q - 1) := by
      by_cases z : j = q - 1
      · rw [z]; exact Nat.le_refl _
      · exact Nat.le_of_lt (h.2.2.2.2.2.2.1 j (q - 1) (by omega) (by omega)).1
    have a5 := tm_Wl a3.1 a1.1 a4
    omega
theorem tm_let {N l t : Nat} (h : 4 ^ l ≤ N) (ht : t < l) : (N - 4 ^ l) / 4 ^ t % 4 = N / 4 ^ t % 4 := by
  have e1 : 4 ^ l = 4 ^ t * (4 * 4 ^ (l - t - 1)) := by
    rw [← Nat.mul_assoc, ← Nat.pow_succ, ← Nat.pow_add]
    exact congrArg _ (by omega)
  have p : 0 < 4 ^ t := Nat.pow_pos (by decide)
  have e2 : N / 4 ^ t = (N - 4 ^ l) / 4 ^ t + 4 * 4 ^ (l - t - 1) := by
    rw [← Nat.add_mul_div_left _ _ p, ← e1]
    exact congrArg (· / 4 ^ t) (by omega)
  rw [e2]
  omega
theorem ty_and3 (x : Nat) : nI x &&& 3 = nI (x % 4) := by
  rw [pk_and (nI x) (m := 3) 2 (by decide)]
  have : (nI x).toBitVec.toNat = x % 2 ^ 32 := BitVec.toNat_ofNat ..
  rw [this]
  exact congrArg nI (by omega)
theorem ty_let {l p v : Nat} (hl : l ≤ 31) (hp : p < l) (hv : v < 2 ^ 62) : ((lN v >>> ((2 * (nI l - 1 - nI p)).toInt64 &&& 63)).toInt32) &&& 3 = nI (v / 4 ^ (l - 1 - p) % 4) := by
  have e1 : 2 * (nI l - 1 - nI p) = nI (2 * (l - 1 - p)) := by
    show nI 2 * (nI l - nI 1 - nI p) = _
    rw [pk_sub (by omega), pk_sub (by omega), pk_mul]
  rw [e1, wb_c _ (by omega), pf_shr (ty_sm _ (by omega)) hv, lN_i, ty_and3, Nat.pow_mul]
end
section
/-! the path of a best word: prefixes and what is still to come -/
def tm_ev (n : Nat) (G : Nat → Nat) : Nat → Nat → Nat
  | 0, _ => tm_u n
  | l + 1, N => tm_m n (tm_ev n G l (N / 4)) (G (N % 4))
def tm_sx (n : Nat) (G : Nat → Nat) : Nat → Nat → Nat → Nat
  | 0, _, x => x
  | j + 1, N, x => tm_m n (tm_sx n G j (N / 4) x) (G (N % 4))
theorem tm_dp (N j : Nat) : N / 4 / 4 ^ j = N / 4 ^ (j + 1) := by
  rw [Nat.div_div_eq_div_mul, Nat.pow_succ, Nat.mul_comm]
theorem tm_dp' (N j : Nat) : N / 4 ^ j / 4 = N / 4 ^ (j + 1) := by
  rw [Nat.div_div_eq_div_mul, Nat.pow_succ]
theorem tm_Wev {n k : Nat} {G : Nat → Nat} : ∀ {l N c : Nat}, tm_W n k G l N c → tm_ev n G l N = c := by
  intro l
  induction l with
  | zero => intro N c w; exact w.2.symm
  | succ l ih =>
    intro N c w
    obtain ⟨_, b, w', e1⟩ := w
    show tm_m n (tm_ev n G l (N / 4)) (G (N % 4)) = c
    rw [ih w', e1]
theorem tm_Wpre {n k i : Nat} {G : Nat → Nat} : ∀ {j N c : Nat}, tm_W n k G (i + j) N c → tm_W n k G i (N / 4 ^ j) (tm_ev n G i (N / 4 ^ j)) ∧ ∀ t, t < j → N / 4 ^ t % 4 < k := by
  intro j
  induction j with
  | zero =>
    intro N c w
    rw [Nat.pow_zero, Nat.div_one]
    refine ⟨?_, fun t ht => by omega⟩
    have w' : tm_W n k G i N c := w
    rw [tm_Wev w']
    exact w'
  | succ j ih =>
    intro N c w
    obtain ⟨h1, b, w', e1⟩ := w
    obtain ⟨a1, a2⟩ := ih w'
    rw [tm_dp] at a1
    refine ⟨a1, fun t ht => ?_⟩
    cases t with
    | zero => rw [Nat.pow_zero, Nat.div_one]; exact h1
    | succ t =>
      have := a2 t (by omega)
      rw [tm_dp] at this
      exact this
theorem tm_sxev {n i : Nat} {G : Nat → Nat} : ∀ j N, tm_ev n G (i + j) N = tm_sx n G j N (tm_ev n G i (N / 4 ^ j)) := by
  intro j
  induction j with
  | zero => intro N; rw [Nat.pow_zero, Nat.div_one]; rfl
  | succ j ih =>
    intro N
    show tm_m n (tm_ev n G (i + j) (N / 4)) (G (N % 4)) = tm_m n (tm_sx n G j (N / 4) (tm_ev n G i (N / 4 ^ (j + 1)))) (G (N % 4))
    rw [ih, tm_dp]
theorem tm_join {n k i M a : Nat} {G : Nat → Nat} (hk : k ≤ 4) (w : tm_W n k G i M a) : ∀ j N, (∀ t, t < j → N / 4 ^ t % 4 < k) → ∃ N', tm_W n k G (i + j) N' (tm_sx n G j N a) := by
  intro j
  induction j with
  | zero => intro N _; exact ⟨M, w⟩
  | succ j ih =>
    intro N hN
    obtain ⟨N', w'⟩ := ih (N / 4) (fun t ht => by
      have := hN (t + 1) (by omega)
      rw [tm_dp]; exact this)
    have h0 := hN 0 (by omega)
    rw [Nat.pow_zero, Nat.div_one] at h0
    exact ⟨_, tm_Wc w' h0 hk⟩
theorem tm_sxlt {n e : Nat} {G : Nat → Nat} (h : tm_N n e) {x : Nat} (hx : x < e) : ∀ j N, tm_sx n G j N x < e := by
  intro j N
  cases j with
  | zero => exact hx
  | succ j => exact tm_lt h _ _
theorem tm_sxm {n e : Nat} {G : Nat → Nat} (h : tm_N n e) {x : Nat} (hx : x < e) : ∀ j N, tm_sx n G j N x = tm_m n x (tm_sx n G j N (tm_u n)) := by
  intro j
  induction j with
  | zero => intro N; exact (tm_ur h hx).symm
  | succ j ih =>
    intro N
    show tm_m n (tm_sx n G j (N / 4) x) _ = tm_m n x (tm_m n (tm_sx n G j (N / 4) (tm_u n)) _)
    rw [ih, tm_as h]
theorem tm_sxp {n : Nat} {G : Nat → Nat} : ∀ j N x, tm_sx n G (j + 1) N x = tm_sx n G j N (tm_m n x (G (N / 4 ^ j % 4))) := by
  intro j
  induction j with
  | zero => intro N x; rw [Nat.pow_zero, Nat.div_one]; rfl
  | succ j ih =>
    intro N x
    show tm_m n (tm_sx n G (j + 1) (N / 4) x) (G (N % 4)) = tm_m n (tm_sx n G j (N / 4) _) (G (N % 4))
    rw [ih, tm_dp]
/-- the path of a best word -/
def tm_pa (n k : Nat) (G : Nat → Nat) (c l : Nat) (pa sv lt : Nat → Nat) : Prop :=
  pa 0 = tm_u n ∧ (∀ i, i ≤ l → (∃ M, tm_W n k G i M (pa i)) ∧ tm_m n (pa i) (sv i) = c) ∧
  (∀ i, i < l → lt i < k ∧ pa (i + 1) = tm_m n (pa i) (G (lt i)) ∧ sv i = tm_m n (G (lt i)) (sv (i + 1))) ∧
  (∀ i i' M a, i < i' → i' ≤ l → tm_W n k G i M a → tm_m n a (sv i') ≠ c) ∧ pa l = c
theorem tm_path {n e k c l N : Nat} {G : Nat → Nat} (h : tm_N n e) (hk : k ≤ 4) (hG : ∀ g, g < k → G g < e) (hB : tm_B n k G c l N) : ∃ pa sv lt, tm_pa n k G c l pa sv lt := by
  refine ⟨fun i => tm_ev n G i (N / 4 ^ (l - i)), fun i => tm_sx n G (l - i) N (tm_u n), fun i => N / 4 ^ (l - i - 1) % 4, rfl, fun i hi => ?_, fun i hi => ?_, fun i i' M a hii hi' w z => ?_, ?_⟩
  · have w : tm_W n k G (i + (l - i)) N c := by rw [show i + (l - i) = l from by omega]; exact hB.1
    have w' := (tm_Wpre w).1
    refine ⟨⟨_, w'⟩, ?_⟩
    show tm_m n (tm_ev n G i (N / 4 ^ (l - i))) (tm_sx n G (l - i) N (tm_u n)) = c
    rw [← tm_sxm h (tm_Wlt h w'), ← tm_sxev, tm_Wev w]
  · have w : tm_W n k G (i + (l - i)) N c := by rw [show i + (l - i) = l from by omega]; exact hB.1
    have hl := (tm_Wpre w).2 (l - i - 1) (by omega)
    refine ⟨hl, ?_, ?_⟩
    · show tm_m n (tm_ev n G i (N / 4 ^ (l - (i + 1)) / 4)) (G (N / 4 ^ (l - (i + 1)) % 4)) = tm_m n (tm_ev n G i (N / 4 ^ (l - i))) (G (N / 4 ^ (l - i - 1) % 4))
      rw [tm_dp', show l - (i + 1) + 1 = l - i from by omega, show l - (i + 1) = l - i - 1 from by omega]
    · show tm_sx n G (l - i) N (tm_u n) = tm_m n (G (N / 4 ^ (l - i - 1) % 4)) (tm_sx n G (l - (i + 1)) N (tm_u n))
      rw [show l - i = l - i - 1 + 1 from by omega, tm_sxp, tm_ul h (hG _ hl), tm_sxm h (hG _ hl)]
      rw [show l - i - 1 + 1 - 1 = l - (i + 1) from by omega, show l - i - 1 = l - (i + 1) from by omega]
  · have w2 : tm_W n k G (i' + (l - i')) N c := by rw [show i' + (l - i') = l from by omega]; exact hB.1
    obtain ⟨N', w'⟩ := tm_join hk w (l - i') N (tm_Wpre w2).2
    have z' : tm_sx n G (l - i') N a = c := by rw [tm_sxm h (tm_Wlt h w)]; exact z
    rw [z'] at w'
    have := tm_Wl hB.1 w' (hB.2 _ _ w')
    omega
  · show tm_ev n G l (N / 4 ^ (l - l)) = c
    rw [Nat.sub_self, Nat.pow_zero, Nat.div_one]
    exact tm_Wev hB.1
theorem tm_ctrue : ∀ m, tm_c (fun _ => True) m = m := by
  intro m
  induction m with
  | zero => rfl
  | succ m ih => rw [tm_ct (P := fun _ => True) trivial, ih]
theorem tm_sh0 {n e k c l N : Nat} {G : Nat → Nat} (h : tm_N n e) (hk : k ≤ 4) (hG : ∀ g, g < k → G g < e) (hB : tm_B n k G c l N) : l + 1 ≤ e := by
  obtain ⟨pa, sv, lt, p1, p2, p3, p4, p5⟩ := tm_path h hk hG hB
  have t := tm_cinj (A := fun _ => True) (T := fun i x => pa i = x) (b := e) (l + 1) (fun _ => True) (fun i hi _ => by
    obtain ⟨M, w⟩ := (p2 i (by omega)).1
    exact ⟨pa i, tm_Wlt h w, trivial, rfl⟩) (fun i i' x hi hi' _ _ _ e1 e2 => by
    have key : ∀ i i', i < i' → i' < l + 1 → pa i = pa i' → False := by
      intro i i' h1 h2 h3
      obtain ⟨M, w⟩ := (p2 i (by omega)).1
      refine p4 i i' M (pa i) h1 (by omega) w ?_
      rw [h3]
      exact (p2 i' (by omega)).2
    rcases Nat.lt_trichotomy i i' with y | y | y
    · exact (key i i' y hi' (e1.trans e2.symm)).elim
    · exact y
    · exact (key i' i y hi (e2.trans e1.symm)).elim)
  rw [tm_ctrue, tm_ctrue] at t
  exact t
end
section
/-! four points: where a prefix stands, up to what is still to come -/
theorem tq_N : tm_N 4 256 := Or.inr (Or.inr ⟨rfl, rfl⟩)
def tq_in (a x : Nat) : Bool := tm_im 4 a 0 == x || tm_im 4 a 1 == x || tm_im 4 a 2 == x || tm_im 4 a 3 == x
theorem tq_ini {a x : Nat} : tq_in a x = true ↔ ∃ p, p < 4 ∧ tm_im 4 a p = x := by
  unfold tq_in
  simp only [Bool.or_eq_true, beq_iff_eq]
  constructor
  · intro h
    rcases h with ((h | h) | h) | h
    · exact ⟨0, by omega, h⟩
    · exact ⟨1, by omega, h⟩
    · exact ⟨2, by omega, h⟩
    · exact ⟨3, by omega, h⟩
  · rintro ⟨p, hp, e1⟩
    match p, hp with
    | 0, _ => exact Or.inl (Or.inl (Or.inl e1))
    | 1, _ => exact Or.inl (Or.inl (Or.inr e1))
    | 2, _ => exact Or.inl (Or.inr e1)
    | 3, _ => exact Or.inr e1
def tq_d (a v x : Nat) : Nat := if tq_in a x = true then tm_im 4 v x else 4
def tq_st (a v : Nat) : Nat := tq_d a v 0 + 5 * tq_d a v 1 + 25 * tq_d a v 2 + 125 * tq_d a v 3
def tq_g (s x : Nat) : Nat := if x = 0 then s % 5 else if x = 1 then s / 5 % 5 else if x = 2 then s / 25 % 5 else s / 125 % 5
theorem tq_dlt (a v x : Nat) : tq_d a v x < 5 := by
  unfold tq_d
  have := tm_imlt tq_N v x
  by_cases h : tq_in a x = true
  · rw [if_pos h]; omega
  · rw [if_neg h]; omega
theorem tq_stlt (a v : Nat) : tq_st a v < 625 := by
  have h0 := tq_dlt a v 0
  have h1 := tq_dlt a v 1
  have h2 := tq_dlt a v 2
  have h3 := tq_dlt a v 3
  unfold tq_st
  omega
theorem tq_gst (a v : Nat) {x : Nat} (hx : x < 4) : tq_g (tq_st a v) x = tq_d a v x := by
  have h0 := tq_dlt a v 0
  have h1 := tq_dlt a v 1
  have h2 := tq_dlt a v 2
  have h3 := tq_dlt a v 3
  unfold tq_st
  match x, hx with
  | 0, _ =>
    show (tq_d a v 0 + 5 * tq_d a v 1 + 25 * tq_d a v 2 + 125 * tq_d a v 3) % 5 = _
    omega
  | 1, _ =>
    show (tq_d a v 0 + 5 * tq_d a v 1 + 25 * tq_d a v 2 + 125 * tq_d a v 3) / 5 % 5 = _
    omega
  | 2, _ =>
    show (tq_d a v 0 + 5 * tq_d a v 1 + 25 * tq_d a v 2 + 125 * tq_d a v 3) / 25 % 5 = _
    omega
  | 3, _ =>
    show (tq_d a v 0 + 5 * tq_d a v 1 + 25 * tq_d a v 2 + 125 * tq_d a v 3) / 125 % 5 = _
    omega
def tq_z (s y : Nat) : Nat := (if tq_g s 0 = y then 1 else 0) + (if tq_g s 1 = y then 1 else 0) + (if tq_g s 2 = y then 1 else 0) + (if tq_g s 3 = y then 1 else 0)
theorem tq_cs (f : Nat → Nat) (y e : Nat) : tm_c (fun x => f x = y) (e + 1) = tm_c (fun x => f x = y) e + (if f e = y then 1 else 0) := by
  by_cases h : f e = y
  · rw [if_pos h, tm_ct (P := fun x => f x = y) h]
  · rw [if_neg h, tm_cf (P := fun x => f x = y) h]; rfl
theorem tq_zc (s y : Nat) : tm_c (fun x => tq_g s x = y) 4 = tq_z s y := by
  have h0 : tm_c (fun x => tq_g s x = y) 0 = 0 := rfl
  rw [tq_cs (tq_g s) y 3, tq_cs (tq_g s) y 2, tq_cs (tq_g s) y 1, tq_cs (tq_g s) y 0, h0, Nat.zero_add]
  rfl
/-- a digit that is a point -/
theorem tq_dy {a v x y : Nat} (hy : y < 4) (h : tq_d a v x = y) : tq_in a x = true ∧ tm_im 4 v x = y := by
  unfold tq_d at h
  by_cases z : tq_in a x = true
  · rw [if_pos z] at h; exact ⟨z, h⟩
  · rw [if_neg z] at h; omega
theorem tq_di {a v p : Nat} (hp : p < 4) : tq_d a v (tm_im 4 a p) = tm_im 4 v (tm_im 4 a p) := by
  unfold tq_d
  rw [if_pos (tq_ini.mpr ⟨p, hp, rfl⟩)]
theorem tq_mono {a g v y : Nat} (hy : y < 4) : tq_z (tq_st (tm_m 4 a g) v) y ≤ tq_z (tq_st a (tm_m 4 g v)) y := by
  rw [← tq_zc, ← tq_zc]
  refine tm_cinj (T := fun x' x => tm_im 4 g x = x') 4 _ (fun x' hx' hA => ?_) (fun i i' j _ _ _ _ _ e1 e2 => e1.symm.trans e2)
  have hA' : tq_d (tm_m 4 a g) v x' = y := by rw [← tq_gst _ _ hx']; exact hA
  obtain ⟨b1, b2⟩ := tq_dy hy hA'
  obtain ⟨p, hp, e1⟩ := tq_ini.mp b1
  rw [tm_dig tq_N _ _ hp] at e1
  have hi := tm_imlt tq_N a p
  refine ⟨tm_im 4 a p, hi, ?_, e1⟩
  show tq_g (tq_st a (tm_m 4 g v)) (tm_im 4 a p) = y
  rw [tq_gst _ _ hi, tq_di hp, tm_dig tq_N _ _ hi, e1, b2]
theorem tq_cpos {P : Nat → Prop} {e x : Nat} (hx : x < e) (h : P x) : tm_c P e ≠ 0 := by
  have := tm_cstrict (P := fun _ => False) (Q := P) (e := e) (c := x) (fun _ _ z => z.elim) hx h (fun z => z)
  omega
theorem tq_sup {a v y : Nat} (hy : y < 4) : tq_z (tq_st a v) y ≠ 0 ↔ tq_in (tm_m 4 a v) y = true := by
  rw [← tq_zc]
  constructor
  · intro h
    by_cases z : tq_in (tm_m 4 a v) y = true
    · exact z
    · refine absurd (tm_c0 (P := fun x => tq_g (tq_st a v) x = y) 4 fun x hx w => z ?_) h
      have w' : tq_d a v x = y := by rw [← tq_gst _ _ hx]; exact w
      obtain ⟨b1, b2⟩ := tq_dy hy w'
      obtain ⟨p, hp, e1⟩ := tq_ini.mp b1
      exact tq_ini.mpr ⟨p, hp, by rw [tm_dig tq_N _ _ hp, e1, b2]⟩
  · intro h
    obtain ⟨p, hp, e1⟩ := tq_ini.mp h
    have hi := tm_imlt tq_N a p
    refine tq_cpos (x := tm_im 4 a p) hi ?_
    show tq_g (tq_st a v) (tm_im 4 a p) = y
    rw [tq_gst _ _ hi, tq_di hp, ← tm_dig tq_N _ _ hp, e1]
theorem tq_inj {a v a' v' : Nat} (h : tq_st a v = tq_st a' v') : tm_m 4 a v' = tm_m 4 a v := by
  refine tm_ext tq_N (tm_lt tq_N _ _) (tm_lt tq_N _ _) fun p hp => ?_
  rw [tm_dig tq_N _ _ hp, tm_dig tq_N _ _ hp]
  have hi := tm_imlt tq_N a p
  have e1 : tq_d a' v' (tm_im 4 a p) = tm_im 4 v (tm_im 4 a p) := by
    rw [← tq_gst _ _ hi, ← h, tq_gst _ _ hi, tq_di hp]
  exact (tq_dy (tm_imlt tq_N _ _) e1).2
def tq_V (s : Nat) : Nat := tq_z s 0 + 5 * tq_z s 1 + 25 * tq_z s 2 + 125 * tq_z s 3
def tq_T (s : Nat) : Nat := tq_z s 0 + tq_z s 1 + tq_z s 2 + tq_z s 3
theorem tq_one (g : Nat) : (if g = 0 then 1 else 0) + (if g = 1 then 1 else 0) + (if g = 2 then 1 else 0) + (if g = 3 then 1 else 0) ≤ 1 := by
  by_cases h0 : g = 0
  · subst h0; decide
  by_cases h1 : g = 1
  · subst h1; decide
  by_cases h2 : g = 2
  · subst h2; decide
  by_cases h3 : g = 3
  · subst h3; decide
  rw [if_neg h0, if_neg h1, if_neg h2, if_neg h3]
  decide
theorem tq_T4 (s : Nat) : tq_T s ≤ 4 := by
  have h0 := tq_one (tq_g s 0)
  have h1 := tq_one (tq_g s 1)
  have h2 := tq_one (tq_g s 2)
  have h3 := tq_one (tq_g s 3)
  unfold tq_T tq_z
  omega
theorem tq_full {a v : Nat} (h : tq_T (tq_st a v) = 4) {x : Nat} (hx : x < 4) : tq_in a x = true := by
  have h0 := tq_one (tq_g (tq_st a v) 0)
  have h1 := tq_one (tq_g (tq_st a v) 1)
  have h2 := tq_one (tq_g (tq_st a v) 2)
  have h3 := tq_one (tq_g (tq_st a v) 3)
  by_cases z : tq_in a x = true
  · exact z
  · exfalso
    have e1 : tq_g (tq_st a v) x = 4 := by
      rw [tq_gst _ _ hx]
      unfold tq_d
      rw [if_neg z]
    have e2 : (if tq_g (tq_st a v) x = 0 then 1 else 0) + (if tq_g (tq_st a v) x = 1 then 1 else 0) + (if tq_g (tq_st a v) x = 2 then 1 else 0) + (if tq_g (tq_st a v) x = 3 then 1 else 0) = 0 := by
      rw [e1]; decide
    unfold tq_T tq_z at h
    match x, hx with
    | 0, _ => omega
    | 1, _ => omega
    | 2, _ => omega
    | 3, _ => omega
def tq_cb (p : Nat → Bool) : Nat → Nat
  | 0 => 0
  | m + 1 => tq_cb p m + (if p m = true then 1 else 0)
theorem tq_cbc (p : Nat → Bool) : ∀ m, tm_c (fun s => p s = true) m = tq_cb p m := by
  intro m
  induction m with
  | zero => rfl
  | succ m ih =>
    show _ = tq_cb p m + _
    by_cases h : p m = true
    · rw [if_pos h, tm_ct (P := fun s => p s = true) h, ih]
    · rw [if_neg h, tm_cf (P := fun s => p s = true) h, ih]; rfl
def tq_nz (a : Nat) : Nat := if a = 0 then 0 else 1
def tq_bd (r t : Nat) : Nat := if t = 4 then (if r = 1 then 1 else if r = 2 then 6 else if r = 3 then 12 else 24) else if t = 3 then (if r = 1 then 4 else if r = 2 then 12 else if r = 3 then 24 else 0) else if t = 2 then (if r = 1 then 6 else if r = 2 then 12 else 0) else if t = 1 then (if r = 1 then 4 else 0) else 1
set_option maxRecDepth 100000 in
theorem tq_tab : ∀ a, a < 5 → ∀ b, b < 5 → ∀ c, c < 5 → ∀ d, d < 5 → a + b + c + d ≤ 4 → tq_cb (fun s => tq_V s == a + 5 * b + 25 * c + 125 * d) 625 ≤ tq_bd (tq_nz a + tq_nz b + tq_nz c + tq_nz d) (a + b + c + d) := by decide +kernel
theorem tq_part (τ : Nat → Nat) : ∀ m, (∀ i, i < m → τ i ≤ 4) → tm_c (fun i => τ i = 0) m + tm_c (fun i => τ i = 1) m + tm_c (fun i => τ i = 2) m + tm_c (fun i => τ i = 3) m + tm_c (fun i => τ i = 4) m = m := by
  intro m
  induction m with
  | zero => intro _; rfl
  | succ m ih =>
    intro h
    have t := ih fun i hi => h i (by omega)
    have h4 := h m (by omega)
    rw [tq_cs τ 0, tq_cs τ 1, tq_cs τ 2, tq_cs τ 3, tq_cs τ 4]
    by_cases h0 : τ m = 0
    · rw [h0, if_pos rfl, if_neg (by omega), if_neg (by omega), if_neg (by omega), if_neg (by omega)]; omega
    by_cases h1 : τ m = 1
    · rw [h1, if_neg (by omega), if_pos rfl, if_neg (by omega), if_neg (by omega), if_neg (by omega)]; omega
    by_cases h2 : τ m = 2
    · rw [h2, if_neg (by omega), if_neg (by omega), if_pos rfl, if_neg (by omega), if_neg (by omega)]; omega
    by_cases h3 : τ m = 3
    · rw [h3, if_neg (by omega), if_neg (by omega), if_neg (by omega), if_pos rfl, if_neg (by omega)]; omega
    obtain h4' : τ m = 4 := by omega
    rw [h4', if_neg (by omega), if_neg (by omega), if_neg (by omega), if_neg (by omega), if_pos rfl]; omega
/-- along the path -/
theorem tq_pm {k c l : Nat} {G pa sv lt : Nat → Nat} (h : tm_pa 4 k G c l pa sv lt) {y : Nat} (hy : y < 4) : ∀ d i, i + d ≤ l → tq_z (tq_st (pa (i + d)) (sv (i + d))) y ≤ tq_z (tq_st (pa i) (sv i)) y := by
  intro d
  induction d with
  | zero => intro i _; exact Nat.le_refl _
  | succ d ih =>
    intro i hi
    have a1 := ih i (by omega)
    obtain ⟨_, e1, e2⟩ := h.2.2.1 (i + d) (by omega)
    have a2 := tq_mono (a := pa (i + d)) (g := G (lt (i + d))) (v := sv (i + d + 1)) hy
    rw [← e1, ← e2] at a2
    exact Nat.le_trans a2 a1
theorem tq_pV {k c l : Nat} {G pa sv lt : Nat → Nat} (h : tm_pa 4 k G c l pa sv lt) {i i' : Nat} (hi : i ≤ i') (hi' : i' ≤ l) (hT : tq_T (tq_st (pa i') (sv i')) = tq_T (tq_st (pa i) (sv i))) : tq_V (tq_st (pa i') (sv i')) = tq_V (tq_st (pa i) (sv i)) := by
  have e1 : i + (i' - i) = i' := by omega
  have a0 := tq_pm h (y := 0) (by omega) (i' - i) i (by omega)
  have a1 := tq_pm h (y := 1) (by omega) (i' - i) i (by omega)
  have a2 := tq_pm h (y := 2) (by omega) (i' - i) i (by omega)
  have a3 := tq_pm h (y := 3) (by omega) (i' - i) i (by omega)
  rw [e1] at a0 a1 a2 a3
  unfold tq_T at hT
  unfold tq_V
  omega
theorem tq_pI {k c l : Nat} {G pa sv lt : Nat → Nat} (h : tm_pa 4 k G c l pa sv lt) {i i' : Nat} (hi : i ≤ l) (hi' : i' ≤ l) (he : tq_st (pa i) (sv i) = tq_st (pa i') (sv i')) : i = i' := by
  have key : ∀ i i', i < i' → i' ≤ l → tq_st (pa i) (sv i) = tq_st (pa i') (sv i') → False := by
    intro i i' h1 h2 h3
    obtain ⟨⟨M, w⟩, e1⟩ := h.2.1 i (by omega)
    refine h.2.2.2.1 i i' M (pa i) h1 h2 w ?_
    rw [tq_inj h3, e1]
  rcases Nat.lt_trichotomy i i' with y | y | y
  · exact (key i i' y hi' he).elim
  · exact y
  · exact (key i' i y hi he.symm).elim
def tq_rc (c : Nat) : Nat := (if tq_in c 0 = true then 1 else 0) + (if tq_in c 1 = true then 1 else 0) + (if tq_in c 2 = true then 1 else 0) + (if tq_in c 3 = true then 1 else 0)
theorem tq_nzi {z : Nat} {b : Bool} (h : z ≠ 0 ↔ b = true) : tq_nz z = if b = true then 1 else 0 := by
  unfold tq_nz
  by_cases y : z = 0
  · rw [if_pos y, if_neg (fun w => h.mpr w y)]
  · rw [if_neg y, if_pos (h.mp y)]
theorem tq_pc {k c l : Nat} {G pa sv lt : Nat → Nat} (h : tm_pa 4 k G c l pa sv lt) (t : Nat) : tm_c (fun i => tq_T (tq_st (pa i) (sv i)) = t) (l + 1) ≤ tq_bd (tq_rc c) t ∨ tm_c (fun i => tq_T (tq_st (pa i) (sv i)) = t) (l + 1) = 0 := by
  by_cases ex : ∃ i, i < l + 1 ∧ tq_T (tq_st (pa i) (sv i)) = t
  · left
    obtain ⟨j, hj, hT⟩ := ex
    have hE := (h.2.1 j (by omega)).2
    have t1 := tm_cinj (A := fun i => tq_T (tq_st (pa i) (sv i)) = t) (T := fun i s => tq_st (pa i) (sv i) = s) (b := 625) (l + 1) (fun s => (tq_V s == tq_V (tq_st (pa j) (sv j))) = true) (fun i hi hA => by
      refine ⟨_, tq_stlt _ _, ?_, rfl⟩
      rw [beq_iff_eq]
      rcases Nat.lt_or_ge i j with y | y
      · exact (tq_pV h (Nat.le_of_lt y) (by omega) (hT.trans hA.symm)).symm
      · exact tq_pV h y (by omega) (hA.trans hT.symm)) (fun i i' s hi hi' _ _ _ e1 e2 => tq_pI h (by omega) (by omega) (e1.trans e2.symm))
    rw [tq_cbc] at t1
    have T4 := tq_T4 (tq_st (pa j) (sv j))
    have s0 := tq_nzi (tq_sup (a := pa j) (v := sv j) (y := 0) (by omega))
    have s1 := tq_nzi (tq_sup (a := pa j) (v := sv j) (y := 1) (by omega))
    have s2 := tq_nzi (tq_sup (a := pa j) (v := sv j) (y := 2) (by omega))
    have s3 := tq_nzi (tq_sup (a := pa j) (v := sv j) (y := 3) (by omega))
    rw [hE] at s0 s1 s2 s3
    unfold tq_T at T4
    have t2 := tq_tab (tq_z (tq_st (pa j) (sv j)) 0) (by omega) (tq_z (tq_st (pa j) (sv j)) 1) (by omega) (tq_z (tq_st (pa j) (sv j)) 2) (by omega) (tq_z (tq_st (pa j) (sv j)) 3) (by omega) T4
    rw [s0, s1, s2, s3] at t2
    have hT' : tq_z (tq_st (pa j) (sv j)) 0 + tq_z (tq_st (pa j) (sv j)) 1 + tq_z (tq_st (pa j) (sv j)) 2 + tq_z (tq_st (pa j) (sv j)) 3 = t := hT
    rw [hT'] at t2
    exact Nat.le_trans t1 t2
  · right
    exact tm_c0 _ fun i hi hA => ex ⟨i, hi, hA⟩
end
section
/-! the permutations of four points: products of three of them are products of at most seven -/
def tq_PL (i : Nat) : Nat := (5612175574884009239593765198980828372430732486465160683035 >>> (8 * i)) % 256
def tq_rows : List Nat := [984818244535754528103549039458486304, 727548310346908890193318370647117825, 899228972693802420046595671804903522, 470278375838750734089249303281407043, 641959038185644263942526604439192740, 384689103996798626032295935627824261, 944494360608982600091689407077458150, 687224426420136962181458738266089671, 813516858823811984161462297925228840, 213008441330478172133867088857345289, 556246924315653828057393230559518058, 127419169488526064076913721203762507, 858782246738992164206556033197783468, 429954491911864400226076523842027917, 773192974897040056149602665544200686, 172684557403706244122007456476317135, 298976989807381266102011016135456304, 41707055618535628191780347324087825, 601512312230719602251173818773721714, 344242378041873964340943149962353235, 515923040388767494194220451120138932, 86972443533715808236874082596642453, 258653105880609338090151383754428150, 1383171691763700179920714943059671]
def tq_row (j : Nat) : Nat := tq_rows.getD j 0
def tq_mt (r i : Nat) : Nat := (r >>> (5 * i)) % 32
def tq_sp (r1 r2 r3 B : Nat) : Nat → Nat
  | 0 => 0
  | i + 1 => tq_sp r1 r2 r3 B i ||| ((B >>> i) % 2 * (2 ^ tq_mt r1 i ||| 2 ^ tq_mt r2 i ||| 2 ^ tq_mt r3 i))
def tq_bl (r1 r2 r3 : Nat) : Nat → Nat
  | 0 => 1
  | t + 1 => tq_bl r1 r2 r3 t ||| tq_sp r1 r2 r3 (tq_bl r1 r2 r3 t) 24
def tq_ck (r1 r2 r3 : Nat) : Bool := tq_bl r1 r2 r3 8 == tq_bl r1 r2 r3 7
def tq_c3 (r1 r2 : Nat) : List Nat → Bool
  | [] => true
  | r3 :: L => tq_ck r1 r2 r3 && tq_c3 r1 r2 L
def tq_c2 (r1 : Nat) : List Nat → Bool
  | [] => true
  | r2 :: L => tq_c3 r1 r2 (r2 :: L) && tq_c2 r1 L
def tq_c1 : List Nat → Bool
  | [] => true
  | r1 :: L => tq_c2 r1 (r1 :: L) && tq_c1 L
set_option maxRecDepth 100000 in
theorem tq_k : tq_c1 tq_rows = true := by decide +kernel
theorem tq_c3e {r1 r2 : Nat} : ∀ L : List Nat, tq_c3 r1 r2 L = true → ∀ m, m < L.length → tq_ck r1 r2 (L.getD m 0) = true := by
  intro L
  induction L with
  | nil => intro _ m hm; exact absurd hm (Nat.not_lt_zero m)
  | cons r L ih =>
    intro h m hm
    have h' : (tq_ck r1 r2 r && tq_c3 r1 r2 L) = true := h
    rw [Bool.and_eq_true] at h'
    cases m with
    | zero => exact h'.1
    | succ m => exact ih h'.2 m (Nat.lt_of_succ_lt_succ hm)
theorem tq_c2e {r1 : Nat} : ∀ L : List Nat, tq_c2 r1 L = true → ∀ j m, j ≤ m → m < L.length → tq_ck r1 (L.getD j 0) (L.getD m 0) = true := by
  intro L
  induction L with
  | nil => intro _ j m _ hm; exact absurd hm (Nat.not_lt_zero m)
  | cons r L ih =>
    intro h j m hj hm
    have h' : (tq_c3 r1 r (r :: L) && tq_c2 r1 L) = true := h
    rw [Bool.and_eq_true] at h'
    cases j with
    | zero => exact tq_c3e (r :: L) h'.1 m hm
    | succ j =>
      cases m with
      | zero => omega
      | succ m => exact ih h'.2 j m (by omega) (Nat.lt_of_succ_lt_succ hm)
theorem tq_c1e : ∀ L : List Nat, tq_c1 L = true → ∀ i j m, i ≤ j → j ≤ m → m < L.length → tq_ck (L.getD i 0) (L.getD j 0) (L.getD m 0) = true := by
  intro L
  induction L with
  | nil => intro _ i j m _ _ hm; exact absurd hm (Nat.not_lt_zero m)
  | cons r L ih =>
    intro h i j m hi hj hm
    have h' : (tq_c2 r (r :: L) && tq_c1 L) = true := h
    rw [Bool.and_eq_true] at h'
    cases i with
    | zero => exact tq_c2e (r :: L) h'.1 j m hj hm
    | succ i =>
      cases j with
      | zero => omega
      | succ j =>
        cases m with
        | zero => omega
        | succ m => exact ih h'.2 i j m (by omega) (by omega) (Nat.lt_of_succ_lt_succ hm)
theorem tq_cl {i j m : Nat} (hi : i ≤ j) (hj : j ≤ m) (hm : m < 24) : tq_bl (tq_row i) (tq_row j) (tq_row m) 8 = tq_bl (tq_row i) (tq_row j) (tq_row m) 7 := by
  have t := tq_c1e tq_rows tq_k i j m hi hj hm
  exact eq_of_beq t
theorem tq_mtt : ∀ j, j < 24 → ∀ i, i < 24 → tq_mt (tq_row j) i < 24 ∧ tq_PL (tq_mt (tq_row j) i) = tm_m 4 (tq_PL i) (tq_PL j) := by decide +kernel
theorem tq_PLlt : ∀ i, i < 24 → tq_PL i < 256 := by decide +kernel
theorem tq_PL0 : tq_PL 0 = tm_u 4 := by decide +kernel
def tq_ip (a : Nat) : Nat → Nat
  | 0 => 0
  | i + 1 => if tq_PL i = a then i else tq_ip a i
theorem tq_ipt : ∀ a, a < 256 → (tq_in a 0 && tq_in a 1 && tq_in a 2 && tq_in a 3) = true → tq_ip a 24 < 24 ∧ tq_PL (tq_ip a 24) = a := by decide +kernel
theorem tq_tb {B i : Nat} : (B.testBit i = true ∧ (B >>> i) % 2 = 1) ∨ (B.testBit i = false ∧ (B >>> i) % 2 = 0) := by
  rw [Nat.testBit_eq_decide_div_mod_eq, Nat.shiftRight_eq_div_pow]
  by_cases h : B / 2 ^ i % 2 = 1
  · exact Or.inl ⟨decide_eq_true h, h⟩
  · exact Or.inr ⟨decide_eq_false h, by omega⟩
theorem tq_spb {r1 r2 r3 B j : Nat} : ∀ i, (tq_sp r1 r2 r3 B i).testBit j = true ↔ ∃ x, x < i ∧ B.testBit x = true ∧ (tq_mt r1 x = j ∨ tq_mt r2 x = j ∨ tq_mt r3 x = j) := by
  intro i
  induction i with
  | zero =>
    show (0 : Nat).testBit j = true ↔ _
    rw [Nat.zero_testBit]
    exact ⟨fun h => absurd h (by decide), fun ⟨x, hx, _⟩ => absurd hx (Nat.not_lt_zero x)⟩
  | succ i ih =>
    show (tq_sp r1 r2 r3 B i ||| ((B >>> i) % 2 * (2 ^ tq_mt r1 i ||| 2 ^ tq_mt r2 i ||| 2 ^ tq_mt r3 i))).testBit j = true ↔ _
    rw [Nat.testBit_or, Bool.or_eq_true, ih]
    rcases tq_tb (B := B) (i := i) with ⟨h1, h2⟩ | ⟨h1, h2⟩
    · rw [h2, Nat.one_mul, Nat.testBit_or, Nat.testBit_or, Nat.testBit_two_pow, Nat.testBit_two_pow, Nat.testBit_two_pow, Bool.or_eq_true, Bool.or_eq_true, decide_eq_true_iff, decide_eq_true_iff, decide_eq_true_iff]
      constructor
      · intro h
        rcases h with ⟨x, hx, h3⟩ | h
        · exact ⟨x, by omega, h3⟩
        · refine ⟨i, by omega, h1, ?_⟩
          rcases h with (h | h) | h
          · exact Or.inl h
          · exact Or.inr (Or.inl h)
          · exact Or.inr (Or.inr h)
      · rintro ⟨x, hx, h3, h4⟩
        by_cases y : x = i
        · subst y
          right
          rcases h4 with h | h | h
          · exact Or.inl (Or.inl h)
          · exact Or.inl (Or.inr h)
          · exact Or.inr h
        · exact Or.inl ⟨x, by omega, h3, h4⟩
    · rw [h2, Nat.zero_mul, Nat.zero_testBit]
      constructor
      · intro h
        rcases h with ⟨x, hx, h3⟩ | h
        · exact ⟨x, by omega, h3⟩
        · exact absurd h (by decide)
      · rintro ⟨x, hx, h3, h4⟩
        refine Or.inl ⟨x, ?_, h3, h4⟩
        by_cases y : x = i
        · subst y; rw [h1] at h3; exact absurd h3 (by decide)
        · omega
theorem tq_blb {r1 r2 r3 t j : Nat} : (tq_bl r1 r2 r3 (t + 1)).testBit j = true ↔ (tq_bl r1 r2 r3 t).testBit j = true ∨ ∃ x, x < 24 ∧ (tq_bl r1 r2 r3 t).testBit x = true ∧ (tq_mt r1 x = j ∨ tq_mt r2 x = j ∨ tq_mt r3 x = j) := by
  show (tq_bl r1 r2 r3 t ||| tq_sp r1 r2 r3 (tq_bl r1 r2 r3 t) 24).testBit j = true ↔ _
  rw [Nat.testBit_or, Bool.or_eq_true, tq_spb]
end
section
/-! words of permutations among three letters -/
def tq_sj (a : Nat) : Prop := ∀ x, x < 4 → tq_in a x = true
theorem tq_sjm {a g : Nat} (ha : tq_sj a) (hg : tq_sj g) : tq_sj (tm_m 4 a g) := by
  intro x hx
  obtain ⟨p, hp, e1⟩ := tq_ini.mp (hg x hx)
  obtain ⟨p', hp', e2⟩ := tq_ini.mp (ha p hp)
  exact tq_ini.mpr ⟨p', hp', by rw [tm_dig tq_N _ _ hp', e2, e1]⟩
theorem tq_sjr {a g : Nat} (h : tq_sj (tm_m 4 a g)) : tq_sj g := by
  intro x hx
  obtain ⟨p, hp, e1⟩ := tq_ini.mp (h x hx)
  rw [tm_dig tq_N _ _ hp] at e1
  exact tq_ini.mpr ⟨_, tm_imlt tq_N a p, e1⟩
theorem tq_sju : tq_sj (tm_u 4) := by
  unfold tq_sj
  decide +kernel
theorem tq_sji {a : Nat} (ha : a < 256) (h : tq_sj a) : ∃ i, i < 24 ∧ tq_PL i = a := by
  have t := tq_ipt a ha (by rw [h 0 (by omega), h 1 (by omega), h 2 (by omega), h 3 (by omega)]; rfl)
  exact ⟨_, t.1, t.2⟩
/-- a letter's place among the permutations: its own, or the unit's -/
def tq_pl (k : Nat) (G : Nat → Nat) (b j : Nat) : Prop := j < 24 ∧ (b < k → tq_sj (G b) → tq_PL j = G b) ∧ ((∃ g, g < k ∧ G g = tq_PL j) ∨ j = 0)
theorem tq_plx {k : Nat} {G : Nat → Nat} (hG : ∀ g, g < k → G g < 256) (b : Nat) : ∃ j, tq_pl k G b j := by
  by_cases h : b < k ∧ tq_sj (G b)
  · obtain ⟨j, hj, e1⟩ := tq_sji (hG b h.1) h.2
    exact ⟨j, hj, fun _ _ => e1, Or.inl ⟨b, h.1, e1.symm⟩⟩
  · exact ⟨0, by omega, fun h1 h2 => absurd ⟨h1, h2⟩ h, Or.inr rfl⟩
theorem tq_word {k : Nat} {G : Nat → Nat} (hk : k ≤ 4) {j1 j2 j3 b1 b2 b3 : Nat} (h1 : tq_pl k G b1 j1) (h2 : tq_pl k G b2 j2) (h3 : tq_pl k G b3 j3) : ∀ t x, (tq_bl (tq_row j1) (tq_row j2) (tq_row j3) t).testBit x = true → x < 24 ∧ ∃ l M, l ≤ t ∧ tm_W 4 k G l M (tq_PL x) := by
  intro t
  induction t with
  | zero =>
    intro x hx
    have hx' : (2 ^ 0).testBit x = true := hx
    rw [Nat.testBit_two_pow, decide_eq_true_iff] at hx'
    subst hx'
    exact ⟨by omega, 0, 1, Nat.le_refl _, rfl, tq_PL0⟩
  | succ t ih =>
    intro x hx
    rcases tq_blb.mp hx with y | ⟨z, hz, y, w⟩
    · obtain ⟨a1, l, M, a2, a3⟩ := ih x y
      exact ⟨a1, l, M, by omega, a3⟩
    · obtain ⟨_, l, M, a2, a3⟩ := ih z y
      have S : ∀ b j, tq_pl k G b j → tq_mt (tq_row j) z = x → x < 24 ∧ ∃ l M, l ≤ t + 1 ∧ tm_W 4 k G l M (tq_PL x) := by
        intro b j hp e1
        obtain ⟨m1, m2⟩ := tq_mtt j hp.1 z hz
        rw [e1] at m1 m2
        refine ⟨m1, ?_⟩
        rcases hp.2.2 with ⟨g, hg, e2⟩ | e2
        · refine ⟨l + 1, 4 * M + g, by omega, ?_⟩
          rw [m2, ← e2]
          exact tm_Wc a3 hg hk
        · refine ⟨l, M, by omega, ?_⟩
          rw [m2, e2, tq_PL0, tm_ur tq_N (tq_PLlt z hz)]
          exact a3
      rcases w with w | w | w
      · exact S b1 j1 h1 w
      · exact S b2 j2 h2 w
      · exact S b3 j3 h3 w
theorem tq_core {k c l : Nat} {G pa sv lt : Nat → Nat} (hk : k ≤ 4) (h : tm_pa 4 k G c l pa sv lt) (hl : 8 ≤ l) {j1 j2 j3 b1 b2 b3 : Nat} (h1 : tq_pl k G b1 j1) (h2 : tq_pl k G b2 j2) (h3 : tq_pl k G b3 j3) (s1 : j1 ≤ j2) (s2 : j2 ≤ j3)
    (hL : ∀ i, i < 8 → tq_sj (G (lt i)) ∧ (lt i = b1 ∨ lt i = b2 ∨ lt i = b3)) : False := by
  have C := tq_cl s1 s2 h3.1
  have A : ∀ i, i ≤ 8 → ∃ x, x < 24 ∧ tq_PL x = pa i ∧ (tq_bl (tq_row j1) (tq_row j2) (tq_row j3) 7).testBit x = true := by
    intro i
    induction i with
    | zero =>
      intro _
      refine ⟨0, by omega, by rw [h.1]; exact tq_PL0, ?_⟩
      have Z : ∀ t, (tq_bl (tq_row j1) (tq_row j2) (tq_row j3) t).testBit 0 = true := by
        intro t
        induction t with
        | zero => exact (by decide : (1 : Nat).testBit 0 = true)
        | succ t iht => exact tq_blb.mpr (Or.inl iht)
      exact Z 7
    | succ i ih =>
      intro hi
      obtain ⟨x, x1, x2, x3⟩ := ih (by omega)
      obtain ⟨l1, l2, _⟩ := h.2.2.1 i (by omega)
      obtain ⟨q1, q2⟩ := hL i (by omega)
      have S : ∀ b j, tq_pl k G b j → (j = j1 ∨ j = j2 ∨ j = j3) → lt i = b → ∃ x, x < 24 ∧ tq_PL x = pa (i + 1) ∧ (tq_bl (tq_row j1) (tq_row j2) (tq_row j3) 7).testBit x = true := by
        intro b j hp hj e1
        subst e1
        obtain ⟨m1, m2⟩ := tq_mtt j hp.1 x x1
        refine ⟨_, m1, by rw [m2, x2, hp.2.1 l1 q1, l2], ?_⟩
        rw [← C]
        refine tq_blb.mpr (Or.inr ⟨x, x1, x3, ?_⟩)
        rcases hj with e | e | e
        · exact Or.inl (by rw [e])
        · exact Or.inr (Or.inl (by rw [e]))
        · exact Or.inr (Or.inr (by rw [e]))
      rcases q2 with e | e | e
      · exact S b1 j1 h1 (Or.inl rfl) e
      · exact S b2 j2 h2 (Or.inr (Or.inl rfl)) e
      · exact S b3 j3 h3 (Or.inr (Or.inr rfl)) e
  obtain ⟨x, x1, x2, x3⟩ := A 8 (Nat.le_refl _)
  obtain ⟨_, l', M, a1, a2⟩ := tq_word hk h1 h2 h3 7 x x3
  rw [x2] at a2
  exact h.2.2.2.1 l' 8 M (pa 8) (by omega) hl a2 (h.2.1 8 hl).2
theorem tq_sort {k c l : Nat} {G pa sv lt : Nat → Nat} (hk : k ≤ 4) (h : tm_pa 4 k G c l pa sv lt) (hl : 8 ≤ l) {j1 j2 j3 b1 b2 b3 : Nat} (h1 : tq_pl k G b1 j1) (h2 : tq_pl k G b2 j2) (h3 : tq_pl k G b3 j3)
    (hL : ∀ i, i < 8 → tq_sj (G (lt i)) ∧ (lt i = b1 ∨ lt i = b2 ∨ lt i = b3)) : False := by
  rcases Nat.le_total j1 j2 with a | a
  · rcases Nat.le_total j2 j3 with b | b
    · exact tq_core hk h hl h1 h2 h3 a b hL
    · rcases Nat.le_total j1 j3 with d | d
      · exact tq_core hk h hl h1 h3 h2 d b fun i hi => ⟨(hL i hi).1, by
          rcases (hL i hi).2 with e | e | e
          · exact Or.inl e
          · exact Or.inr (Or.inr e)
          · exact Or.inr (Or.inl e)⟩
      · exact tq_core hk h hl h3 h1 h2 d a fun i hi => ⟨(hL i hi).1, by
          rcases (hL i hi).2 with e | e | e
          · exact Or.inr (Or.inl e)
          · exact Or.inr (Or.inr e)
          · exact Or.inl e⟩
  · rcases Nat.le_total j1 j3 with b | b
    · exact tq_core hk h hl h2 h1 h3 a b fun i hi => ⟨(hL i hi).1, by
        rcases (hL i hi).2 with e | e | e
        · exact Or.inr (Or.inl e)
        · exact Or.inl e
        · exact Or.inr (Or.inr e)⟩
    · rcases Nat.le_total j2 j3 with d | d
      · exact tq_core hk h hl h2 h3 h1 d b fun i hi => ⟨(hL i hi).1, by
          rcases (hL i hi).2 with e | e | e
          · exact Or.inr (Or.inr e)
          · exact Or.inl e
          · exact Or.inr (Or.inl e)⟩
      · exact tq_core hk h hl h3 h2 h1 d a fun i hi => ⟨(hL i hi).1, by
          rcases (hL i hi).2 with e | e | e
          · exact Or.inr (Or.inr e)
          · exact Or.inr (Or.inl e)
          · exact Or.inl e⟩
theorem tq_perm {k c l : Nat} {G pa sv lt : Nat → Nat} (hk : k ≤ 4) (hG : ∀ g, g < k → G g < 256) (h : tm_pa 4 k G c l pa sv lt) (hl : 8 ≤ l) (hc : ¬ tq_sj c) : tq_T (tq_st (pa 8) (sv 8)) ≠ 4 := by
  intro hT
  have P : ∀ i, i ≤ 8 → tq_sj (pa i) := by
    intro i hi x hx
    refine tq_full (v := sv i) ?_ hx
    have e1 : i + (8 - i) = 8 := by omega
    have a0 := tq_pm h (y := 0) (by omega) (8 - i) i (by omega)
    have a1 := tq_pm h (y := 1) (by omega) (8 - i) i (by omega)
    have a2 := tq_pm h (y := 2) (by omega) (8 - i) i (by omega)
    have a3 := tq_pm h (y := 3) (by omega) (8 - i) i (by omega)
    rw [e1] at a0 a1 a2 a3
    have a4 := tq_T4 (tq_st (pa i) (sv i))
    unfold tq_T at hT a4 ⊢
    omega
  have L : ∀ i, i < 8 → tq_sj (G (lt i)) := by
    intro i hi
    have a1 := P (i + 1) (by omega)
    rw [(h.2.2.1 i (by omega)).2.1] at a1
    exact tq_sjr a1
  have X : ∃ g, g < k ∧ ¬ tq_sj (G g) := by
    by_cases z : ∃ g, g < k ∧ ¬ tq_sj (G g)
    · exact z
    · exfalso
      apply hc
      have A : ∀ i, i ≤ l → tq_sj (pa i) := by
        intro i
        induction i with
        | zero => intro _; rw [h.1]; exact tq_sju
        | succ i ih =>
          intro hi
          obtain ⟨l1, l2, _⟩ := h.2.2.1 i (by omega)
          rw [l2]
          refine tq_sjm (ih (by omega)) ?_
          by_cases y : tq_sj (G (lt i))
          · exact y
          · exact absurd ⟨lt i, l1, y⟩ z
      have := A l (Nat.le_refl _)
      rw [h.2.2.2.2] at this
      exact this
  obtain ⟨g, hg, hn⟩ := X
  have B : ∃ b1 b2 b3, ∀ t, t < 4 → t ≠ g → t = b1 ∨ t = b2 ∨ t = b3 := by
    by_cases g0 : g = 0
    · exact ⟨1, 2, 3, fun t h1 h2 => by omega⟩
    by_cases g1 : g = 1
    · exact ⟨0, 2, 3, fun t h1 h2 => by omega⟩
    by_cases g2 : g = 2
    · exact ⟨0, 1, 3, fun t h1 h2 => by omega⟩
    exact ⟨0, 1, 2, fun t h1 h2 => by omega⟩
  obtain ⟨b1, b2, b3, hb⟩ := B
  obtain ⟨j1, p1⟩ := tq_plx hG b1
  obtain ⟨j2, p2⟩ := tq_plx hG b2
  obtain ⟨j3, p3⟩ := tq_plx hG b3
  refine tq_sort hk h hl p1 p2 p3 fun i hi => ⟨L i hi, ?_⟩
  have l1 := (h.2.2.1 i (by omega)).1
  exact hb (lt i) (by omega) fun e => hn (by rw [← e]; exact L i hi)
theorem tq_31 {k c l N : Nat} {G : Nat → Nat} (hk : k ≤ 4) (hG : ∀ g, g < k → G g < 256) (hB : tm_B 4 k G c l N) : l ≤ 31 := by
  obtain ⟨pa, sv, lt, h⟩ := tm_path tq_N hk hG hB
  have hce : c < 256 := tm_Wlt tq_N hB.1
  have P := tq_part (fun i => tq_T (tq_st (pa i) (sv i))) (l + 1) (fun i _ => tq_T4 _)
  have c0 : tm_c (fun i => tq_T (tq_st (pa i) (sv i)) = 0) (l + 1) = 0 := by
    refine tm_c0 _ fun i hi hA => ?_
    have e1 := (h.2.1 i (by omega)).2
    have y1 := tm_imlt tq_N c 0
    have y2 : tq_in c (tm_im 4 c 0) = true := tq_ini.mpr ⟨0, by omega, rfl⟩
    rw [← e1] at y1 y2
    have y3 := (tq_sup (a := pa i) (v := sv i) y1).mpr y2
    generalize tm_im 4 (tm_m 4 (pa i) (sv i)) 0 = y at y1 y3
    unfold tq_T at hA
    match y, y1 with
    | 0, _ => omega
    | 1, _ => omega
    | 2, _ => omega
    | 3, _ => omega
  have q1 := tq_pc h 1
  have q2 := tq_pc h 2
  have q3 := tq_pc h 3
  have q4 := tq_pc h 4
  have hr : tq_rc c = 1 ∨ tq_rc c = 2 ∨ tq_rc c = 3 ∨ tq_rc c = 4 := by
    have b : ∀ b : Bool, (if b = true then 1 else 0) ≤ 1 := by decide
    have b0 := b (tq_in c 0)
    have b1 := b (tq_in c 1)
    have b2 := b (tq_in c 2)
    have b3 := b (tq_in c 3)
    have y1 := tm_imlt tq_N c 0
    have y2 : tq_in c (tm_im 4 c 0) = true := tq_ini.mpr ⟨0, by omega, rfl⟩
    generalize tm_im 4 c 0 = y at y1 y2
    have y3 : (if tq_in c y = true then 1 else 0) = 1 := if_pos y2
    unfold tq_rc
    match y, y1 with
    | 0, _ => omega
    | 1, _ => omega
    | 2, _ => omega
    | 3, _ => omega
  rcases hr with r | r | r | r
  · rw [r] at q1 q2 q3 q4
    have x1 : tq_bd 1 1 = 4 := rfl
    have x2 : tq_bd 1 2 = 6 := rfl
    have x3 : tq_bd 1 3 = 4 := rfl
    have x4 : tq_bd 1 4 = 1 := rfl
    omega
  · rw [r] at q1 q2 q3 q4
    have x1 : tq_bd 2 1 = 0 := rfl
    have x2 : tq_bd 2 2 = 12 := rfl
    have x3 : tq_bd 2 3 = 12 := rfl
    have x4 : tq_bd 2 4 = 6 := rfl
    omega
  · have hc : ¬ tq_sj c := by
      intro z
      unfold tq_rc at r
      rw [if_pos (z 0 (by omega)), if_pos (z 1 (by omega)), if_pos (z 2 (by omega)), if_pos (z 3 (by omega))] at r
      omega
    have c4 : tm_c (fun i => tq_T (tq_st (pa i) (sv i)) = 4) (l + 1) ≤ 8 := by
      by_cases hl : 8 ≤ l
      · have n8 := tq_perm hk hG h hl hc
        have t := tm_cinj (A := fun i => tq_T (tq_st (pa i) (sv i)) = 4) (T := fun i x => i = x) (b := 8) (l + 1) (fun _ => True) (fun i hi hA => by
          refine ⟨i, ?_, trivial, rfl⟩
          by_cases y : i < 8
          · exact y
          · exfalso
            have e1 : 8 + (i - 8) = i := by omega
            have a0 := tq_pm h (y := 0) (by omega) (i - 8) 8 (by omega)
            have a1 := tq_pm h (y := 1) (by omega) (i - 8) 8 (by omega)
            have a2 := tq_pm h (y := 2) (by omega) (i - 8) 8 (by omega)
            have a3 := tq_pm h (y := 3) (by omega) (i - 8) 8 (by omega)
            rw [e1] at a0 a1 a2 a3
            have a4 := tq_T4 (tq_st (pa 8) (sv 8))
            apply n8
            have hA' : tq_T (tq_st (pa i) (sv i)) = 4 := hA
            unfold tq_T at hA' a4 ⊢
            omega) (fun i i' x _ _ _ _ _ e1 e2 => e1.trans e2.symm)
        rw [tm_ctrue] at t
        exact t
      · have := tm_cle (fun i => tq_T (tq_st (pa i) (sv i)) = 4) (l + 1)
        omega
    rw [r] at q1 q2 q3 q4
    have x1 : tq_bd 3 1 = 0 := rfl
    have x2 : tq_bd 3 2 = 0 := rfl
    have x3 : tq_bd 3 3 = 24 := rfl
    omega
  · rw [r] at q1 q2 q3 q4
    have x1 : tq_bd 4 1 = 0 := rfl
    have x2 : tq_bd 4 2 = 0 := rfl
    have x3 : tq_bd 4 3 = 0 := rfl
    have x4 : tq_bd 4 4 = 24 := rfl
    omega
end
section
/-! every element has a word of at most 31 letters -/
theorem tm_short {n e k : Nat} {G : Nat → Nat} (h : tm_N n e) (hk : k ≤ 4) (hG : ∀ g, g < k → G g < e) : ∀ c l N, tm_B n k G c l N → l ≤ 31 := by
  intro c l N hB
  have t := tm_sh0 h hk hG hB
  rcases h with ⟨h, h'⟩ | ⟨h, h'⟩ | ⟨h, h'⟩
  · omega
  · omega
  · subst h h'
    exact tq_31 hk hG hB
end
section
/-! the relation, and the methods without sets -/
def i_Rel (_ : Nat) (u : SX) (v : SY) : Prop :=
  ∃ (n e k : Nat) (G : Nat → Nat) (q : Nat) (fo l N : Nat → Nat) (fr : Int32) (aI aG aF aW aL aS aR aQ aZ aC : Nat → Int32) (yT yL : Nat → Int32) (yW : Nat → Int64) (yN : Nat → Int32) (yS : Nat → Int64),
    tm_X n e k G q fo l N aI aG aF aW aL aS ∧ tm_NX n e k G yN ∧ u = (nI n, nI e, nI (tm_u n), nI k, nI q, fr, aI, aG, aF, aW, aL, aS, aR, aQ, aZ, aC) ∧ v = (nI n, nI e, nI k, aG, yT, yL, yW, yN, yS)
theorem tv_mk {k0 n e k q : Nat} {G fo l N : Nat → Nat} {fr : Int32} {aI aG aF aW aL aS aR aQ aZ aC yT yL : Nat → Int32} {yW : Nat → Int64} {yN : Nat → Int32} {yS : Nat → Int64} (h : tm_X n e k G q fo l N aI aG aF aW aL aS) (hX : tm_NX n e k G yN) : i_Rel k0 (nI n, nI e, nI (tm_u n), nI k, nI q, fr, aI, aG, aF, aW, aL, aS, aR, aQ, aZ, aC) (nI n, nI e, nI k, aG, yT, yL, yW, yN, yS) :=
  ⟨n, e, k, G, q, fo, l, N, fr, aI, aG, aF, aW, aL, aS, aR, aQ, aZ, aC, yT, yL, yW, yN, yS, h, hX, rfl, rfl⟩
theorem i_up {k : Nat} {u : SX} {v : SY} (h : i_Rel k u v) : i_Rel (k + 4) u v := h
theorem tv_31 {n e k q : Nat} {G fo l N : Nat → Nat} {aI aG aF aW aL aS : Nat → Int32} (h : tm_X n e k G q fo l N aI aG aF aW aL aS) : tm_31 n k G := tm_short h.1 h.2.1 (fun g hg => (h.2.2.1 g hg).1)
theorem tv_0 {n e : Nat} (h : tm_N n e) {P : SX → Prop}
    (hP : ∀ q fo l N aI aF aW aL aS, tm_X n e 0 (fun _ => 0) q fo l N aI (fun _ => 0) aF aW aL aS → P (nI n, nI e, nI (tm_u n), nI 0, nI q, 0, aI, fun _ => 0, aF, aW, aL, aS, fun _ => 0, fun _ => 0, fun _ => 0, fun _ => 0)) :
    ∃ n107, wX_init_107 P (nI n) 0 0 0 0 0 (fun _ => 0) (fun _ => 0) (fun _ => 0) (fun _ => 0) (fun _ => 0) (fun _ => 0) (fun _ => 0) (fun _ => 0) (fun _ => 0) (fun _ => 0) n107 1 0 0 := by
  refine ⟨n + 1, ?_⟩
  have t := tx_i107 0 0 0 0 0 0 (fun _ => 0) (fun _ => 0) (fun _ => 0) (fun _ => 0) (fun _ => 0) (fun _ => 0) (fun _ => 0) (fun _ => 0) (fun _ => 0) (fun _ => 0) (post := P) h (fun aI hI => ?_) n 0 (by omega)
  · rw [Nat.pow_zero] at t
    exact t
  · exact tx_fe (k := 0) (G := fun _ => 0) 0 0 0 0 0 0 aI (fun _ => 0) (fun _ => 0) (fun _ => 0) (fun _ => 0) (fun _ => 0) (fun _ => 0) (fun _ => 0) (fun _ => 0) (fun _ => 0) h (by omega) (fun g hg => by omega) hI (fun q fo l N aF aW aL aS hF => hP q fo l N aI aF aW aL aS ⟨h, by omega, fun g hg => by omega, hI, hF⟩)
theorem tv_y0 {n e : Nat} (h : tm_N n e) {P : SY → Prop} (hP : P (nI n, nI e, nI 0, (fun _ => 0), (fun _ => 0), (fun _ => 0), (fun _ => 0), (fun _ => 0), (fun _ => 0))) : wY_init_76 P (nI n) 0 0 0 (fun _ => 0) (fun _ => 0) (fun _ => 0) (fun _ => 0) (fun _ => 0) (fun _ => 0) := by
  rcases h with ⟨h, h'⟩ | ⟨h, h'⟩ | ⟨h, h'⟩ <;> subst h h'
  · exact br_t (by decide) hP
  · exact br_f (by decide) (br_t (by decide) hP)
  · exact br_f (by decide) (br_f (by decide) hP)
theorem tv_00 {n e : Nat} (h : tm_N n e) {k0 : Int32} (hy : ∀ P : SY → Prop, wY_init_76 P (nI n) 0 0 0 (fun _ => 0) (fun _ => 0) (fun _ => 0) (fun _ => 0) (fun _ => 0) (fun _ => 0) → wpY_init P k0) :
    ∃ n107, wX_init_107 (fun u => wpY_init (fun v => i_Rel 1 u v) k0) (nI n) 0 0 0 0 0 (fun _ => 0) (fun _ => 0) (fun _ => 0) (fun _ => 0) (fun _ => 0) (fun _ => 0) (fun _ => 0) (fun _ => 0) (fun _ => 0) (fun _ => 0) n107 1 0 0 :=
  tv_0 h fun q fo l N aI aF aW aL aS hX => hy _ (tv_y0 h (tv_mk hX (fun g c hg => by omega)))
theorem i_vc0 (k0 : Int32) : wpX_init (fun u => wpY_init (fun v => i_Rel 1 u v) k0) k0 := by
  unfold wpX_init wpX_withinBounds
  by_cases h2 : 2 ≤ k0
  · refine br_t h2 ?_
    by_cases h4 : k0 ≤ 4
    · refine br_t h4 ?_
      have h0 : ¬ k0 < 0 := Int32.not_lt.mpr (Int32.le_trans (by decide) h2)
      obtain ⟨j, hj, rfl⟩ := nI_of h0
      have a2 : 2 ≤ j := (nI_leI (a := 2) (by omega) hj).mp h2
      have a4 : j ≤ 4 := (nI_leI (b := 4) hj (by omega)).mp h4
      have hN : ∃ e, tm_N j e := by
        by_cases x : j = 2
        · exact ⟨4, Or.inl ⟨x, rfl⟩⟩
        · by_cases y : j = 3
          · exact ⟨27, Or.inr (Or.inl ⟨y, rfl⟩)⟩
          · exact ⟨256, Or.inr (Or.inr ⟨by omega, rfl⟩)⟩
      obtain ⟨e, hN⟩ := hN
      exact tv_00 hN fun P hP => br_t h2 (br_t h4 hP)
    · refine br_f h4 ?_
      exact tv_00 (n := 4) (e := 256) (Or.inr (Or.inr ⟨rfl, rfl⟩)) fun P hP => br_t h2 (br_f h4 hP)
  · refine br_f h2 ?_
    exact tv_00 (n := 2) (e := 4) (Or.inl ⟨rfl, rfl⟩) fun P hP => br_f h2 hP
theorem i_vc_points {k : Nat} {u : SX} {v : SY} (I : i_Rel k u v) (hk : k + 4 ≤ 2049) : wpX_points (fun r => wpY_points (fun r' => r' = r ∧ i_Rel (k + 4) u v) v) u := by
  obtain ⟨n, e, k, G, q, fo, l, N, fr, aI, aG, aF, aW, aL, aS, aR, aQ, aZ, aC, yT, yL, yW, yN, yS, h, hX, rfl, rfl⟩ := I
  exact ⟨rfl, tv_mk h hX⟩
theorem i_vc_generate {k : Nat} {u : SX} {v : SY} (I : i_Rel k u v) (hk : k + 4 ≤ 2049) (v1 : Int32) : wpX_generate (fun r u' => wpY_generate (fun r' v' => r' = r ∧ i_Rel (k + 4) u' v') v v1) u v1 := by
  obtain ⟨n, e, k, G, q, fo, l, N, fr, aI, aG, aF, aW, aL, aS, aR, aQ, aZ, aC, yT, yL, yW, yN, yS, h, hX, rfl, rfl⟩ := I
  have H := tm_Npos h.1
  unfold wpX_generate wpY_generate
  rcases pk_ix v1 (by omega : e < 2 ^ 31) with y | y | ⟨c, hc, rfl⟩
  · exact tx_gn (nI n) (nI e) (nI (tm_u n)) (nI k) (nI q) fr aI aG aF aW aL aS aR aQ aZ aC (Or.inl y) (br_t rfl (ty_bn (nI n) (nI e) (nI k) aG yT yL yW yN yS (Or.inl y) (br_f tx_10 ⟨rfl, tv_mk h hX⟩)))
  · exact tx_gn (nI n) (nI e) (nI (tm_u n)) (nI k) (nI q) fr aI aG aF aW aL aS aR aQ aZ aC (Or.inr y) (br_t rfl (ty_bn (nI n) (nI e) (nI k) aG yT yL yW yN yS (Or.inr y) (br_f tx_10 ⟨rfl, tv_mk h hX⟩)))
  · refine tx_gy (nI n) (nI e) (nI (tm_u n)) (nI k) (nI q) fr aI aG aF aW aL aS aR aQ aZ aC h.1 hc (br_f tx_10 ?_)
    by_cases z : k < 4
    · refine br_t (nI_lt (b := 4) z (by decide)) ⟨vp_in_nI (by omega) (by omega), nm_e (nm_r (nI_1 k) ?_)⟩
      rw [nI_clamp (by omega : k < 2 ^ 31)]
      have hG' : ∀ g, g < k + 1 → tm_up G k c g < e ∧ upd aG k (nI c) g = nI (tm_up G k c g) := by
        intro g hg
        by_cases w : g = k
        · rw [w, tm_us, pk_us]; exact ⟨hc, rfl⟩
        · rw [tm_un w, pk_un w]; exact h.2.2.1 g (by omega)
      refine tx_fe (k := k + 1) (G := tm_up G k c) (nI n) (nI e) (nI (tm_u n)) (nI k) (nI q) fr aI (upd aG k (nI c)) aF aW aL aS aR aQ aZ aC h.1 (by omega) hG' h.2.2.2.1 (fun q' fo' l' N' aF' aW' aL' aS' hF => ?_)
      refine ty_by (nI n) (nI e) (nI k) aG yT yL yW yN yS h.1 hc (br_t rfl (br_t (nI_le (b := 3) (by omega) (by decide)) ?_))
      refine ty_learn (nI n) (nI e) (nI k) aG yT yL yW yN yS h.1 z hc hX (fun yN' hX' => nm_r (nI_1 k) ⟨nI_pred k, ?_⟩)
      exact tv_mk ⟨h.1, by omega, hG', h.2.2.2.1, hF⟩ hX'
    · refine br_f (nI_nlt (b := 4) (by omega) (by have := h.2.1; omega)) ?_
      exact ty_by (nI n) (nI e) (nI k) aG yT yL yW yN yS h.1 hc (br_t rfl (br_f (nI_ge (a := 3) (by omega) (by have := h.2.1; omega)) ⟨rfl, tv_mk h hX⟩))
theorem i_vc_drop {k : Nat} {u : SX} {v : SY} (I : i_Rel k u v) (hk : k + 4 ≤ 2049) : wpX_drop (fun r u' => wpY_drop (fun r' v' => r' = r ∧ i_Rel (k + 4) u' v') v) u := by
  obtain ⟨n, e, k, G, q, fo, l, N, fr, aI, aG, aF, aW, aL, aS, aR, aQ, aZ, aC, yT, yL, yW, yN, yS, h, hX, rfl, rfl⟩ := I
  have H := tm_Npos h.1
  have h4 := h.2.1
  unfold wpX_drop wpY_drop
  cases k with
  | zero => exact br_f (by decide) (br_t rfl ⟨rfl, tv_mk h hX⟩)
  | succ k =>
    refine br_t (nI_lt (a := 0) (by omega) (by omega)) (nm_r (nI_pred k) ?_)
    refine tx_fe (k := k) (G := G) (nI n) (nI e) (nI (tm_u n)) (nI k) (nI q) fr aI aG aF aW aL aS aR aQ aZ aC h.1 (by omega) (fun g hg => h.2.2.1 g (by omega)) h.2.2.2.1 (fun q' fo' l' N' aF' aW' aL' aS' hF => ⟨vp_in_nI (by omega) (by omega), ?_⟩)
    refine br_f (nI_ne0 (by omega) (by omega)) (nm_r (nI_pred k) ⟨vp_in_nI (by omega) (by omega), rfl, ?_⟩)
    exact tv_mk ⟨h.1, by omega, fun g hg => h.2.2.1 g (by omega), h.2.2.2.1, hF⟩ (fun g c hg hc => hX g c (by omega) hc)
theorem i_vc_product {k : Nat} {u : SX} {v : SY} (I : i_Rel k u v) (hk : k + 4 ≤ 2049) (v1 : Int32) (v2 : Int32) : wpX_product (fun r => wpY_product (fun r' => r' = r ∧ i_Rel (k + 4) u v) v v1 v2) u v1 v2 := by
  obtain ⟨n, e, k, G, q, fo, l, N, fr, aI, aG, aF, aW, aL, aS, aR, aQ, aZ, aC, yT, yL, yW, yN, yS, h, hX, rfl, rfl⟩ := I
  have H := tm_Npos h.1
  unfold wpX_product wpY_product
  have B1 : (v1 < 0 ∨ nI e ≤ v1) ∨ ∃ c, c < e ∧ v1 = nI c := by
    rcases pk_ix v1 (by omega : e < 2 ^ 31) with y | y | y
    · exact Or.inl (Or.inl y)
    · exact Or.inl (Or.inr y)
    · exact Or.inr y
  have B2 : (v2 < 0 ∨ nI e ≤ v2) ∨ ∃ c, c < e ∧ v2 = nI c := by
    rcases pk_ix v2 (by omega : e < 2 ^ 31) with y | y | y
    · exact Or.inl (Or.inl y)
    · exact Or.inl (Or.inr y)
    · exact Or.inr y
  rcases B1 with y | ⟨c, hc, rfl⟩
  · exact tx_gn (nI n) (nI e) (nI (tm_u n)) (nI k) (nI q) fr aI aG aF aW aL aS aR aQ aZ aC y (br_t rfl (ty_bn (nI n) (nI e) (nI k) aG yT yL yW yN yS y (br_f tx_10 ⟨rfl, tv_mk h hX⟩)))
  · refine tx_gy (nI n) (nI e) (nI (tm_u n)) (nI k) (nI q) fr aI aG aF aW aL aS aR aQ aZ aC h.1 hc (br_f tx_10 ?_)
    rcases B2 with y | ⟨d, hd, rfl⟩
    · exact tx_gn (nI n) (nI e) (nI (tm_u n)) (nI k) (nI q) fr aI aG aF aW aL aS aR aQ aZ aC y (br_t rfl (ty_by (nI n) (nI e) (nI k) aG yT yL yW yN yS h.1 hc (br_t rfl (ty_bn (nI n) (nI e) (nI k) aG yT yL yW yN yS y (br_f tx_10 ⟨rfl, tv_mk h hX⟩)))))
    · refine tx_gy (nI n) (nI e) (nI (tm_u n)) (nI k) (nI q) fr aI aG aF aW aL aS aR aQ aZ aC h.1 hd (br_f tx_10 (tx_mul (nI n) (nI e) (nI (tm_u n)) (nI k) (nI q) fr aI aG aF aW aL aS aR aQ aZ aC h.1 hc hd h.2.2.2.1 ?_))
      exact ty_by (nI n) (nI e) (nI k) aG yT yL yW yN yS h.1 hc (br_t rfl (ty_by (nI n) (nI e) (nI k) aG yT yL yW yN yS h.1 hd (br_t rfl (ty_times (nI n) (nI e) (nI k) aG yT yL yW yN yS h.1 hc hd ⟨rfl, tv_mk h hX⟩))))
theorem i_vc_size {k : Nat} {u : SX} {v : SY} (I : i_Rel k u v) (hk : k + 4 ≤ 2049) : wpX_size (fun r => wpY_size (fun r' v' => r' = r ∧ i_Rel (k + 4) u v') v) u := by
  obtain ⟨n, e, k, G, q, fo, l, N, fr, aI, aG, aF, aW, aL, aS, aR, aQ, aZ, aC, yT, yL, yW, yN, yS, h, hX, rfl, rfl⟩ := I
  unfold wpX_size wpY_size
  refine ty_work (nI n) (nI e) (nI k) aG yT yL yW yN yS h.1 h.2.1 (tv_31 h) hX (fun yT' yL' yW' hF => ⟨e + 1, ?_⟩)
  refine ty_tot4 (nI n) (nI e) (nI k) aG yT' yL' yW' yN yS h.1 hF ⟨?_, tv_mk h hX⟩ e 0 (by omega)
  rw [← h.2.2.2.2.1.2.2]
/-- a code: bad, or one of the maps, an element or none -/
theorem tv_ix {n e k : Nat} {G : Nat → Nat} (h : tm_N n e) (v : Int32) : (v < 0 ∨ nI e ≤ v) ∨ ∃ c, c < e ∧ v = nI c := by
  have H := tm_Npos h
  rcases pk_ix v (by omega : e < 2 ^ 31) with y | y | y
  · exact Or.inl (Or.inl y)
  · exact Or.inl (Or.inr y)
  · exact Or.inr y
theorem i_vc_has {k : Nat} {u : SX} {v : SY} (I : i_Rel k u v) (hk : k + 4 ≤ 2049) (v1 : Int32) : wpX_has (fun r => wpY_has (fun r' v' => r' = r ∧ i_Rel (k + 4) u v') v v1) u v1 := by
  obtain ⟨n, e, k, G, q, fo, l, N, fr, aI, aG, aF, aW, aL, aS, aR, aQ, aZ, aC, yT, yL, yW, yN, yS, h, hX, rfl, rfl⟩ := I
  have H := tm_Npos h.1
  unfold wpX_has wpY_has
  rcases tv_ix (k := k) (G := G) h.1 v1 with y | ⟨c, hc, rfl⟩
  · exact tx_gn (nI n) (nI e) (nI (tm_u n)) (nI k) (nI q) fr aI aG aF aW aL aS aR aQ aZ aC y (br_t rfl (ty_bn (nI n) (nI e) (nI k) aG yT yL yW yN yS y (br_f tx_10 ⟨rfl, tv_mk h hX⟩)))
  · refine tx_gy (nI n) (nI e) (nI (tm_u n)) (nI k) (nI q) fr aI aG aF aW aL aS aR aQ aZ aC h.1 hc (br_f tx_10 ?_)
    by_cases z : tm_E n k G c
    · refine tx_ey (nI n) (nI e) (nI (tm_u n)) (nI k) (nI q) fr aI aG aF aW aL aS aR aQ aZ aC h z (br_f tx_10 (ty_by (nI n) (nI e) (nI k) aG yT yL yW yN yS h.1 hc (br_t rfl ?_)))
      refine ty_work (nI n) (nI e) (nI k) aG yT yL yW yN yS h.1 h.2.1 (tv_31 h) hX (fun yT' yL' yW' hF => ⟨vp_in_nI (by omega) (by omega), ?_⟩)
      rw [nI_clamp (by omega : c < 2 ^ 31)]
      exact br_f (ty_Ty hF hc z) ⟨rfl, tv_mk h hX⟩
    · refine tx_en (nI n) (nI e) (nI (tm_u n)) (nI k) (nI q) fr aI aG aF aW aL aS aR aQ aZ aC h hc z (br_t rfl (ty_by (nI n) (nI e) (nI k) aG yT yL yW yN yS h.1 hc (br_t rfl ?_)))
      refine ty_work (nI n) (nI e) (nI k) aG yT yL yW yN yS h.1 h.2.1 (tv_31 h) hX (fun yT' yL' yW' hF => ⟨vp_in_nI (by omega) (by omega), ?_⟩)
      rw [nI_clamp (by omega : c < 2 ^ 31)]
      exact br_t (ty_Tn hF hc z) ⟨rfl, tv_mk h hX⟩
theorem i_vc_element {k : Nat} {u : SX} {v : SY} (I : i_Rel k u v) (hk : k + 4 ≤ 2049) (v1 : Int32) : wpX_element (fun r => wpY_element (fun r' v' => r' = r ∧ i_Rel (k + 4) u v') v v1) u v1 := by
  obtain ⟨n, e, k, G, q, fo, l, N, fr, aI, aG, aF, aW, aL, aS, aR, aQ, aZ, aC, yT, yL, yW, yN, yS, h, hX, rfl, rfl⟩ := I
  refine tx_el (nI n) (nI e) (nI (tm_u n)) (nI k) (nI q) fr aI aG aF aW aL aS aR aQ aZ aC h ?_
  unfold wpY_element
  refine ty_work (nI n) (nI e) (nI k) aG yT yL yW yN yS h.1 h.2.1 (tv_31 h) hX (fun yT' yL' yW' hF => ⟨e + 1, ?_⟩)
  exact ty_el8 (nI n) (nI e) (nI k) aG yT' yL' yW' yN yS h.1 hF e 0 0 (by omega) ⟨rfl, tv_mk h hX⟩
theorem i_vc_length {k : Nat} {u : SX} {v : SY} (I : i_Rel k u v) (hk : k + 4 ≤ 2049) (v1 : Int32) : wpX_length (fun r => wpY_length (fun r' v' => r' = r ∧ i_Rel (k + 4) u v') v v1) u v1 := by
  obtain ⟨n, e, k, G, q, fo, l, N, fr, aI, aG, aF, aW, aL, aS, aR, aQ, aZ, aC, yT, yL, yW, yN, yS, h, hX, rfl, rfl⟩ := I
  have H := tm_Npos h.1
  unfold wpX_length wpY_length
  rcases tv_ix (k := k) (G := G) h.1 v1 with y | ⟨c, hc, rfl⟩
  · exact tx_gn (nI n) (nI e) (nI (tm_u n)) (nI k) (nI q) fr aI aG aF aW aL aS aR aQ aZ aC y (br_t rfl (ty_bn (nI n) (nI e) (nI k) aG yT yL yW yN yS y (br_f tx_10 ⟨rfl, tv_mk h hX⟩)))
  · refine tx_gy (nI n) (nI e) (nI (tm_u n)) (nI k) (nI q) fr aI aG aF aW aL aS aR aQ aZ aC h.1 hc (br_f tx_10 ?_)
    by_cases z : tm_E n k G c
    · refine tx_ey (nI n) (nI e) (nI (tm_u n)) (nI k) (nI q) fr aI aG aF aW aL aS aR aQ aZ aC h z (br_f tx_10 ⟨vp_in_nI (by omega) (by omega), ty_by (nI n) (nI e) (nI k) aG yT yL yW yN yS h.1 hc (br_t rfl ?_)⟩)
      refine ty_work (nI n) (nI e) (nI k) aG yT yL yW yN yS h.1 h.2.1 (tv_31 h) hX (fun yT' yL' yW' hF => ⟨vp_in_nI (by omega) (by omega), ?_⟩)
      rw [nI_clamp (by omega : c < 2 ^ 31)]
      refine br_f (ty_Ty hF hc z) ⟨vp_in_nI (by omega) (by omega), ?_, tv_mk h hX⟩
      obtain ⟨j, hj, e1⟩ := tm_Xj h z
      obtain ⟨a1, a2, a3, a4, a5, a6⟩ := h.2.2.2.2.2.1 j hj
      rw [e1] at a3 a4
      rw [a3, (ty_TD h.1 hF a4).1]
    · refine tx_en (nI n) (nI e) (nI (tm_u n)) (nI k) (nI q) fr aI aG aF aW aL aS aR aQ aZ aC h hc z (br_t rfl (ty_by (nI n) (nI e) (nI k) aG yT yL yW yN yS h.1 hc (br_t rfl ?_)))
      refine ty_work (nI n) (nI e) (nI k) aG yT yL yW yN yS h.1 h.2.1 (tv_31 h) hX (fun yT' yL' yW' hF => ⟨vp_in_nI (by omega) (by omega), ?_⟩)
      rw [nI_clamp (by omega : c < 2 ^ 31)]
      exact br_t (ty_Tn hF hc z) ⟨rfl, tv_mk h hX⟩
theorem tv_let {n e k q j : Nat} {G fo l N : Nat → Nat} {fr : Int32} {aI aG aF aW aL aS yT yL : Nat → Int32} {yW : Nat → Int64} {yN : Nat → Int32} {yS : Nat → Int64} {v2 : Int32} (h : tm_X n e k G q fo l N aI aG aF aW aL aS) (hX : tm_NX n e k G yN) (hj : j < q) (P : Int32 → SY → Prop)
    (hP : ∀ yT' yL' yW', tm_YF n e k G yT' yL' yW' → (v2 < 0 → P (-3) (nI n, nI e, nI k, aG, yT', yL', yW', yN, yS)) ∧ (¬ v2 < 0 → (v2 < nI (l j) → P (((lN (N j - 4 ^ l j) >>> ((2 * (nI (l j) - 1 - v2)).toInt64 &&& 63)).toInt32) &&& 3) (nI n, nI e, nI k, aG, yT', yL', yW', yN, yS)) ∧ (¬ v2 < nI (l j) → P (-3) (nI n, nI e, nI k, aG, yT', yL', yW', yN, yS)))) : wpY_letter P (nI n, nI e, nI k, aG, yT, yL, yW, yN, yS) (nI (fo j)) v2 := by
  have H := tm_Npos h.1
  obtain ⟨a1, a2, a3, a4, a5, a6⟩ := h.2.2.2.2.2.1 j hj
  unfold wpY_letter
  refine ty_by (nI n) (nI e) (nI k) aG yT yL yW yN yS h.1 a1 (br_t rfl ?_)
  refine ty_work (nI n) (nI e) (nI k) aG yT yL yW yN yS h.1 h.2.1 (tv_31 h) hX (fun yT' yL' yW' hF => ⟨vp_in_nI (by omega) (by omega), ?_⟩)
  have t := hP yT' yL' yW' hF
  rw [nI_clamp (by omega : fo j < 2 ^ 31), (ty_TD h.1 hF a4).1, (ty_TD h.1 hF a4).2]
  exact br_f (ty_Ty hF a1 (tm_BE a4)) ⟨t.1, fun w => ⟨vp_in_nI (by omega) (by omega), fun w' => ⟨vp_in_nI (by omega) (by omega), vp_in_nI (by omega) (by omega), (t.2 w).1 w'⟩, (t.2 w).2⟩⟩
theorem i_vc_letter {k : Nat} {u : SX} {v : SY} (I : i_Rel k u v) (hk : k + 4 ≤ 2049) (v1 : Int32) (v2 : Int32) : wpX_letter (fun r => wpY_letter (fun r' v' => r' = r ∧ i_Rel (k + 4) u v') v v1 v2) u v1 v2 := by
  obtain ⟨n, e, k, G, q, fo, l, N, fr, aI, aG, aF, aW, aL, aS, aR, aQ, aZ, aC, yT, yL, yW, yN, yS, h, hX, rfl, rfl⟩ := I
  have H := tm_Npos h.1
  unfold wpX_letter
  rcases tv_ix (k := k) (G := G) h.1 v1 with y | ⟨c, hc, rfl⟩
  · refine tx_gn (nI n) (nI e) (nI (tm_u n)) (nI k) (nI q) fr aI aG aF aW aL aS aR aQ aZ aC y (br_t rfl ?_)
    unfold wpY_letter
    exact ty_bn (nI n) (nI e) (nI k) aG yT yL yW yN yS y (br_f tx_10 ⟨rfl, tv_mk h hX⟩)
  · refine tx_gy (nI n) (nI e) (nI (tm_u n)) (nI k) (nI q) fr aI aG aF aW aL aS aR aQ aZ aC h.1 hc (br_f tx_10 ?_)
    by_cases z : tm_E n k G c
    · obtain ⟨j, hj, e1⟩ := tm_Xj h z
      subst e1
      obtain ⟨a1, a2, a3, a4, a5, a6⟩ := h.2.2.2.2.2.1 j hj
      have a31 := tv_31 h _ _ _ a4
      refine tx_ey (nI n) (nI e) (nI (tm_u n)) (nI k) (nI q) fr aI aG aF aW aL aS aR aQ aZ aC h z (br_f tx_10 ?_)
      by_cases w : v2 < 0
      · refine br_t w (tv_let (fr := fr) h hX hj _ ?_)
        intro yT' yL' yW' hF
        exact br_t w ⟨rfl, tv_mk h hX⟩
      · refine br_f w ⟨vp_in_nI (by omega) (by omega), ?_⟩
        rw [nI_clamp (by omega : fo j < 2 ^ 31), a3]
        by_cases x : v2 < nI (l j)
        · obtain ⟨p, hp, rfl⟩ := nI_of w
          have hpl : p < l j := (nI_ltI hp (by omega)).mp x
          refine br_t x ⟨vp_in_nI (by omega) (by omega), nm_r (e' := nI (p + (l j - 1 - p))) ?_ ⟨l j - 1 - p + 1, ?_⟩⟩
          · show nI (l j) - nI 1 = _
            rw [pk_sub (by omega)]
            exact congrArg nI (by omega)
          · refine tx_le50 (nI n) (nI e) (nI (tm_u n)) (nI k) (nI q) fr aI aG aF aW aL aS aR aQ aZ aC (p := p) h (l j - 1 - p) j hj (by omega) ?_
            refine tv_let (fr := fr) h hX hj _ ?_
            intro yT' yL' yW' hF
            refine br_f w (br_t x ⟨?_, tv_mk h hX⟩)
            rw [ty_let a31 hpl (by have := tm_v62 a4.1 a31; omega), tm_let (tm_Wr a4.1).1 (by omega)]
        · refine br_f x (tv_let (fr := fr) h hX hj _ ?_)
          intro yT' yL' yW' hF
          exact br_f w (br_f x ⟨rfl, tv_mk h hX⟩)
    · refine tx_en (nI n) (nI e) (nI (tm_u n)) (nI k) (nI q) fr aI aG aF aW aL aS aR aQ aZ aC h hc z (br_t rfl ?_)
      unfold wpY_letter
      refine ty_by (nI n) (nI e) (nI k) aG yT yL yW yN yS h.1 hc (br_t rfl ?_)
      refine ty_work (nI n) (nI e) (nI k) aG yT yL yW yN yS h.1 h.2.1 (tv_31 h) hX (fun yT' yL' yW' hF => ⟨vp_in_nI (by omega) (by omega), ?_⟩)
      rw [nI_clamp (by omega : c < 2 ^ 31)]
      exact br_t (ty_Tn hF hc z) ⟨rfl, tv_mk h hX⟩
end
section
/-! the other methods -/
theorem i_vc_longest {k : Nat} {u : SX} {v : SY} (I : i_Rel k u v) (hk : k + 4 ≤ 2049) : wpX_longest (fun r => wpY_longest (fun r' v' => r' = r ∧ i_Rel (k + 4) u v') v) u := by
  obtain ⟨n, e, k, G, q, fo, l, N, fr, aI, aG, aF, aW, aL, aS, aR, aQ, aZ, aC, yT, yL, yW, yN, yS, h, hX, rfl, rfl⟩ := I
  have H := tm_Npos h.1
  have hq1 := h.2.2.2.2.1.1
  have hq2 : q ≤ e := h.2.2.2.2.1.2.1
  obtain ⟨a1, a2, a3, a4, a5, a6⟩ := h.2.2.2.2.2.1 (q - 1) (by omega)
  have e1 : nI q - 1 = nI (q - 1) := pk_sub (b := 1) (by omega)
  unfold wpX_longest
  show _ ∧ _ ∧ _
  rw [e1, nI_clamp (by omega : q - 1 < 2 ^ 31), a2, nI_clamp (by omega : fo (q - 1) < 2 ^ 31), a3]
  refine ⟨vp_in_nI (by omega) (by omega), vp_in_nI (by omega) (by omega), ?_⟩
  unfold wpY_longest
  refine ty_work (nI n) (nI e) (nI k) aG yT yL yW yN yS h.1 h.2.1 (tv_31 h) hX (fun yT' yL' yW' hF => ⟨e + 1, ?_⟩)
  refine ty_lo8 (nI n) (nI e) (nI k) aG yT' yL' yW' yN yS h.1 (tv_31 h) hF (fun r h1 h2 => ⟨?_, tv_mk h hX⟩) e 0 (by omega) 0 (by omega) (fun x l N hx => by omega) (Or.inl rfl)
  rw [tm_lon h h1 h2]
theorem i_vc_idempotents {k : Nat} {u : SX} {v : SY} (I : i_Rel k u v) (hk : k + 4 ≤ 2049) : wpX_idempotents (fun r => wpY_idempotents (fun r' v' => r' = r ∧ i_Rel (k + 4) u v') v) u := by
  obtain ⟨n, e, k, G, q, fo, l, N, fr, aI, aG, aF, aW, aL, aS, aR, aQ, aZ, aC, yT, yL, yW, yN, yS, h, hX, rfl, rfl⟩ := I
  refine ⟨q + 1, tx_id4 (nI n) (nI e) (nI (tm_u n)) (nI k) (nI q) fr aI aG aF aW aL aS aR aQ aZ aC h ?_ q 0 (by omega)⟩
  unfold wpY_idempotents
  refine ty_work (nI n) (nI e) (nI k) aG yT yL yW yN yS h.1 h.2.1 (tv_31 h) hX (fun yT' yL' yW' hF => ⟨e + 1, ?_⟩)
  refine ty_id8 (nI n) (nI e) (nI k) aG yT' yL' yW' yN yS h.1 hF ⟨?_, tv_mk h hX⟩ e 0 (by omega)
  rw [tm_enum h (fun c => tm_m n c c = c)]
theorem i_vc_units {k : Nat} {u : SX} {v : SY} (I : i_Rel k u v) (hk : k + 4 ≤ 2049) : wpX_units (fun r => wpY_units (fun r' v' => r' = r ∧ i_Rel (k + 4) u v') v) u := by
  obtain ⟨n, e, k, G, q, fo, l, N, fr, aI, aG, aF, aW, aL, aS, aR, aQ, aZ, aC, yT, yL, yW, yN, yS, h, hX, rfl, rfl⟩ := I
  refine ⟨q + 1, tx_un4 (nI n) (nI e) (nI (tm_u n)) (nI k) (nI q) fr aI aG aF aW aL aS aR aQ aZ aC h ?_ q 0 (by omega)⟩
  unfold wpY_units
  refine ty_work (nI n) (nI e) (nI k) aG yT yL yW yN yS h.1 h.2.1 (tv_31 h) hX (fun yT' yL' yW' hF => ?_)
  refine ty_unit (nI n) (nI e) (nI k) aG yT' yL' yW' yN yS h.1 ⟨e + 1, ?_⟩
  refine ty_un13 (nI n) (nI e) (nI k) aG yT' yL' yW' yN yS h.1 hF ⟨?_, tv_mk h hX⟩ e 0 (by omega)
  rw [tm_enum h (fun c => tm_rk n c = n)]
  exact congrArg nI (tm_ccong e fun c _ => ⟨fun z => ⟨z.1, (tm_unit h.1 h.2.1 z.1).mpr z.2⟩, fun z => ⟨z.1, (tm_unit h.1 h.2.1 z.1).mp z.2⟩⟩)
theorem i_vc_rank {k : Nat} {u : SX} {v : SY} (I : i_Rel k u v) (hk : k + 4 ≤ 2049) (v1 : Int32) : wpX_rank (fun r => wpY_rank (fun r' => r' = r ∧ i_Rel (k + 4) u v) v v1) u v1 := by
  obtain ⟨n, e, k, G, q, fo, l, N, fr, aI, aG, aF, aW, aL, aS, aR, aQ, aZ, aC, yT, yL, yW, yN, yS, h, hX, rfl, rfl⟩ := I
  unfold wpX_rank wpY_rank
  rcases tv_ix (k := k) (G := G) h.1 v1 with y | ⟨c, hc, rfl⟩
  · exact tx_gn (nI n) (nI e) (nI (tm_u n)) (nI k) (nI q) fr aI aG aF aW aL aS aR aQ aZ aC y (br_t rfl (ty_bn (nI n) (nI e) (nI k) aG yT yL yW yN yS y (br_f tx_10 ⟨rfl, tv_mk h hX⟩)))
  · refine tx_gy (nI n) (nI e) (nI (tm_u n)) (nI k) (nI q) fr aI aG aF aW aL aS aR aQ aZ aC h.1 hc (br_f tx_10 (tx_ci (nI n) (nI e) (nI (tm_u n)) (nI k) (nI q) fr aI aG aF aW aL aS aR aQ aZ aC h.1 hc h.2.2.2.1 ?_))
    refine ty_by (nI n) (nI e) (nI k) aG yT yL yW yN yS h.1 hc (br_t rfl ⟨n + 1, ?_⟩)
    exact ty_rk14 (nI n) (nI e) (nI k) aG yT yL yW yN yS h.1 hc ⟨rfl, tv_mk h hX⟩ n 0 (by omega)
theorem i_vc_index {k : Nat} {u : SX} {v : SY} (I : i_Rel k u v) (hk : k + 4 ≤ 2049) (v1 : Int32) : wpX_index (fun r => wpY_index (fun r' => r' = r ∧ i_Rel (k + 4) u v) v v1) u v1 := by
  obtain ⟨n, e, k, G, q, fo, l, N, fr, aI, aG, aF, aW, aL, aS, aR, aQ, aZ, aC, yT, yL, yW, yN, yS, h, hX, rfl, rfl⟩ := I
  unfold wpX_index wpY_index
  rcases tv_ix (k := k) (G := G) h.1 v1 with y | ⟨c, hc, rfl⟩
  · exact tx_gn (nI n) (nI e) (nI (tm_u n)) (nI k) (nI q) fr aI aG aF aW aL aS aR aQ aZ aC y (br_t rfl (ty_bn (nI n) (nI e) (nI k) aG yT yL yW yN yS y (br_f tx_10 ⟨rfl, tv_mk h hX⟩)))
  · refine tx_gy (nI n) (nI e) (nI (tm_u n)) (nI k) (nI q) fr aI aG aF aW aL aS aR aQ aZ aC h.1 hc (br_f tx_10 (tx_fr (nI n) (nI e) (nI (tm_u n)) (nI k) (nI q) fr aI aG aF aW aL aS aR aQ aZ aC h.1 h.2.2.2.1 hc (fun j hj hI => ?_)))
    refine ty_by (nI n) (nI e) (nI k) aG yT yL yW yN yS h.1 hc (br_t rfl (ty_fi (nI n) (nI e) (nI k) aG yT yL yW yN yS h.1 hc (fun j' hj' hI' => ⟨?_, tv_mk h hX⟩)))
    rw [tm_Ixu hI hI']
theorem i_vc_period {k : Nat} {u : SX} {v : SY} (I : i_Rel k u v) (hk : k + 4 ≤ 2049) (v1 : Int32) : wpX_period (fun r => wpY_period (fun r' => r' = r ∧ i_Rel (k + 4) u v) v v1) u v1 := by
  obtain ⟨n, e, k, G, q, fo, l, N, fr, aI, aG, aF, aW, aL, aS, aR, aQ, aZ, aC, yT, yL, yW, yN, yS, h, hX, rfl, rfl⟩ := I
  unfold wpX_period wpY_period
  rcases tv_ix (k := k) (G := G) h.1 v1 with y | ⟨c, hc, rfl⟩
  · exact tx_gn (nI n) (nI e) (nI (tm_u n)) (nI k) (nI q) fr aI aG aF aW aL aS aR aQ aZ aC y (br_t rfl (ty_bn (nI n) (nI e) (nI k) aG yT yL yW yN yS y (br_f tx_10 ⟨rfl, tv_mk h hX⟩)))
  · refine tx_gy (nI n) (nI e) (nI (tm_u n)) (nI k) (nI q) fr aI aG aF aW aL aS aR aQ aZ aC h.1 hc (br_f tx_10 (tx_fr (nI n) (nI e) (nI (tm_u n)) (nI k) (nI q) fr aI aG aF aW aL aS aR aQ aZ aC h.1 h.2.2.2.1 hc (fun j hj hI => ⟨j + 1, ?_⟩)))
    refine tx_pe21 (nI n) (nI e) (nI (tm_u n)) (nI k) (nI q) fr aI aG aF aW aL aS aR aQ aZ aC h.1 h.2.2.2.1 hc hj hI.1 (fun m hm hP => ?_) j 0 (by omega)
    refine ty_by (nI n) (nI e) (nI k) aG yT yL yW yN yS h.1 hc (br_t rfl (ty_fi (nI n) (nI e) (nI k) aG yT yL yW yN yS h.1 hc (fun j' hj' hI' => ?_)))
    have e1 := tm_Ixu hI hI'
    subst e1
    refine ty_ro (nI n) (nI e) (nI k) aG yT yL yW yN yS h.1 hc (by omega) (fun m' hm' hP' => ⟨?_, tv_mk h hX⟩) (fun z => absurd hI.1 z)
    rw [tm_Peu hP hP']
theorem tv_kd (v : Int32) : (v < 0 ∨ 2 < v) ∨ ∃ d, d ≤ 2 ∧ v = nI d := by
  by_cases z : v < 0
  · exact Or.inl (Or.inl z)
  · by_cases y : 2 < v
    · exact Or.inl (Or.inr y)
    · obtain ⟨j, hj, rfl⟩ := nI_of z
      have : ¬ 2 < j := fun w => y ((nI_ltI (a := 2) (by omega) hj).mpr w)
      exact Or.inr ⟨j, by omega, rfl⟩
theorem tv_ky {A B C : Prop} {d : Nat} (hd : d ≤ 2) (b : B) : (nI d < 0 → A) ∧ (¬ nI d < 0 → ((nI d ≤ 2 → B) ∧ (¬ nI d ≤ 2 → C))) := br_f (nI_pos (by omega)) (br_t (nI_le (b := 2) hd (by decide)) b)
theorem tv_kn {A B : Prop} {v : Int32} (hv : v < 0 ∨ 2 < v) (a : A) : (v < 0 → A) ∧ (¬ v < 0 → ((v ≤ 2 → B) ∧ (¬ v ≤ 2 → A))) := by
  by_cases z : v < 0
  · exact br_t z a
  · rcases hv with y | y
    · exact absurd y z
    · exact br_f z (br_f (Int32.not_le.mpr y) a)
theorem i_vc_classes {k : Nat} {u : SX} {v : SY} (I : i_Rel k u v) (hk : k + 4 ≤ 2049) (v1 : Int32) : wpX_classes (fun r u' => wpY_classes (fun r' v' => r' = r ∧ i_Rel (k + 4) u' v') v v1) u v1 := by
  obtain ⟨n, e, k, G, q, fo, l, N, fr, aI, aG, aF, aW, aL, aS, aR, aQ, aZ, aC, yT, yL, yW, yN, yS, h, hX, rfl, rfl⟩ := I
  unfold wpX_classes wpY_classes
  rcases tv_kd v1 with y | ⟨d, hd, rfl⟩
  · exact tx_kn y (br_t rfl (tv_kn y ⟨rfl, tv_mk h hX⟩))
  · refine tx_kd hd (br_f tx_10 ⟨q + 1, ?_⟩)
    refine tx_c11 (nI n) (nI e) (nI (tm_u n)) (nI k) (nI q) fr aI aG aF aW aL aS aR aQ aZ aC h hd (fun fr aR aQ aZ aC => ?_) q 0 (by omega) fr aR aQ aZ aC (fun j hj => by omega)
    refine tv_ky hd (ty_work (nI n) (nI e) (nI k) aG yT yL yW yN yS h.1 h.2.1 (tv_31 h) hX (fun yT' yL' yW' hF => ⟨e + 1, ?_⟩))
    refine ty_c17 (nI n) (nI e) (nI k) aG yT' yL' yW' yN yS h.1 h.2.1 hd hX hF (fun yS' => ⟨?_, tv_mk h hX⟩) e 0 (by omega) yS (fun x c hx => by omega)
    rw [tm_cls h]
theorem i_vc_ideal {k : Nat} {u : SX} {v : SY} (I : i_Rel k u v) (hk : k + 4 ≤ 2049) (v1 : Int32) (v2 : Int32) : wpX_ideal (fun r u' => wpY_ideal (fun r' v' => r' = r ∧ i_Rel (k + 4) u' v') v v1 v2) u v1 v2 := by
  obtain ⟨n, e, k, G, q, fo, l, N, fr, aI, aG, aF, aW, aL, aS, aR, aQ, aZ, aC, yT, yL, yW, yN, yS, h, hX, rfl, rfl⟩ := I
  have H := tm_Npos h.1
  unfold wpX_ideal wpY_ideal
  rcases tv_kd v1 with y | ⟨d, hd, rfl⟩
  · exact tx_kn y (br_t rfl (tv_kn y ⟨rfl, tv_mk h hX⟩))
  · refine tx_kd hd (br_f tx_10 ?_)
    rcases tv_ix (k := k) (G := G) h.1 v2 with y | ⟨c, hc, rfl⟩
    · refine tx_eb (nI n) (nI e) (nI (tm_u n)) (nI k) (nI q) fr aI aG aF aW aL aS aR aQ aZ aC y (br_t rfl (tv_ky hd (ty_work (nI n) (nI e) (nI k) aG yT yL yW yN yS h.1 h.2.1 (tv_31 h) hX (fun yT' yL' yW' hF => ?_))))
      exact ty_bn (nI n) (nI e) (nI k) aG yT' yL' yW' yN yS y (br_f tx_10 ⟨rfl, tv_mk h hX⟩)
    · by_cases z : tm_E n k G c
      · refine tx_ey (nI n) (nI e) (nI (tm_u n)) (nI k) (nI q) fr aI aG aF aW aL aS aR aQ aZ aC h z (br_f tx_10 (tx_fs (nI n) (nI e) (nI (tm_u n)) (nI k) (nI q) fr aI aG aF aW aL aS aR aQ aZ aC h.1 h.2.1 hd hc h.2.2.1 h.2.2.2.1 (fun fr aR aQ hR => ?_)))
        refine tv_ky hd (ty_work (nI n) (nI e) (nI k) aG yT yL yW yN yS h.1 h.2.1 (tv_31 h) hX (fun yT' yL' yW' hF => ?_))
        refine ty_by (nI n) (nI e) (nI k) aG yT' yL' yW' yN yS h.1 hc (br_t rfl ⟨vp_in_nI (by omega) (by omega), ?_⟩)
        rw [nI_clamp (by omega : c < 2 ^ 31)]
        refine br_f (ty_Ty hF hc z) (ty_fill (nI n) (nI e) (nI k) aG yT' yL' yW' yN yS h.1 h.2.1 hd hc hX (fun yS' h1 h2 => ?_))
        exact ty_mem (nI n) (nI e) (nI k) aG yT' yL' yW' yN yS' h.1 hc h1 ⟨rfl, tv_mk h hX⟩
      · refine tx_en (nI n) (nI e) (nI (tm_u n)) (nI k) (nI q) fr aI aG aF aW aL aS aR aQ aZ aC h hc z (br_t rfl (tv_ky hd (ty_work (nI n) (nI e) (nI k) aG yT yL yW yN yS h.1 h.2.1 (tv_31 h) hX (fun yT' yL' yW' hF => ?_))))
        refine ty_by (nI n) (nI e) (nI k) aG yT' yL' yW' yN yS h.1 hc (br_t rfl ⟨vp_in_nI (by omega) (by omega), ?_⟩)
        rw [nI_clamp (by omega : c < 2 ^ 31)]
        exact br_t (ty_Tn hF hc z) ⟨rfl, tv_mk h hX⟩
theorem i_vc_kernel {k : Nat} {u : SX} {v : SY} (I : i_Rel k u v) (hk : k + 4 ≤ 2049) : wpX_kernel (fun r u' => wpY_kernel (fun r' v' => r' = r ∧ i_Rel (k + 4) u' v') v) u := by
  obtain ⟨n, e, k, G, q, fo, l, N, fr, aI, aG, aF, aW, aL, aS, aR, aQ, aZ, aC, yT, yL, yW, yN, yS, h, hX, rfl, rfl⟩ := I
  refine ⟨q + 1, tx_ke7 (nI n) (nI e) (nI (tm_u n)) (nI k) (nI q) fr aI aG aF aW aL aS aR aQ aZ aC h (fun fr aR aQ r h1 h2 h3 => ?_) q 0 (by omega) fr aR aQ q (Nat.le_refl _) (fun j hj => by omega) (Or.inl rfl)⟩
  unfold wpY_kernel
  refine ty_work (nI n) (nI e) (nI k) aG yT yL yW yN yS h.1 h.2.1 (tv_31 h) hX (fun yT' yL' yW' hF => ⟨e + 1, ?_⟩)
  refine ty_ke11 (nI n) (nI e) (nI k) aG yT' yL' yW' yN yS h.1 h.2.1 hX hF (fun yS' r' g1 g2 g3 => ⟨?_, tv_mk h hX⟩) e 0 (by omega) yS e (Nat.le_refl _) (fun x hx => by omega) (Or.inl rfl)
  rw [tm_ker h h2 h3 g2 g3]
theorem i_vc_commutes {k : Nat} {u : SX} {v : SY} (I : i_Rel k u v) (hk : k + 4 ≤ 2049) : wpX_commutes (fun r => wpY_commutes (fun r' v' => r' = r ∧ i_Rel (k + 4) u v') v) u := by
  obtain ⟨n, e, k, G, q, fo, l, N, fr, aI, aG, aF, aW, aL, aS, aR, aQ, aZ, aC, yT, yL, yW, yN, yS, h, hX, rfl, rfl⟩ := I
  have hG : ∀ g, g < k → G g < e := fun g hg => (h.2.2.1 g hg).1
  refine ⟨k + 1, tx_co2 (nI n) (nI e) (nI (tm_u n)) (nI k) (nI q) fr aI aG aF aW aL aS aR aQ aZ aC h.1 h.2.1 h.2.2.1 h.2.2.2.1 (fun z => ?_) (fun z => ?_) k 0 (by omega) (fun i' j' hi' => by omega)⟩
  · unfold wpY_commutes
    refine ty_work (nI n) (nI e) (nI k) aG yT yL yW yN yS h.1 h.2.1 (tv_31 h) hX (fun yT' yL' yW' hF => ⟨e + 1, ?_⟩)
    refine ty_co6 (nI n) (nI e) (nI k) aG yT' yL' yW' yN yS h.1 hF (fun _ => ⟨rfl, tv_mk h hX⟩) (fun w => ?_) e 0 (by omega) (fun a' b' ha' => by omega)
    obtain ⟨i, j, hi, hj, x⟩ := z
    exact absurd (w _ _ (tm_Eg h.1 h.2.1 hG hi) (tm_Eg h.1 h.2.1 hG hj)) x
  · unfold wpY_commutes
    refine ty_work (nI n) (nI e) (nI k) aG yT yL yW yN yS h.1 h.2.1 (tv_31 h) hX (fun yT' yL' yW' hF => ⟨e + 1, ?_⟩)
    refine ty_co6 (nI n) (nI e) (nI k) aG yT' yL' yW' yN yS h.1 hF (fun w => ?_) (fun _ => ⟨rfl, tv_mk h hX⟩) e 0 (by omega) (fun a' b' ha' => by omega)
    obtain ⟨a, b, ⟨l1, N1, wa⟩, ⟨l2, N2, wb⟩, x⟩ := w
    exact absurd (tm_Ca h.1 hG z wa wb) x
theorem i_vc_alike {k : Nat} {u : SX} {v : SY} (I : i_Rel k u v) (hk : k + 4 ≤ 2049) (v1 : Int32) (v2 : Int32) (v3 : Int32) : wpX_alike (fun r u' => wpY_alike (fun r' v' => r' = r ∧ i_Rel (k + 4) u' v') v v1 v2 v3) u v1 v2 v3 := by
  obtain ⟨n, e, k, G, q, fo, l, N, fr, aI, aG, aF, aW, aL, aS, aR, aQ, aZ, aC, yT, yL, yW, yN, yS, h, hX, rfl, rfl⟩ := I
  have H := tm_Npos h.1
  unfold wpX_alike
  rcases tv_kd v1 with y | ⟨d, hd, rfl⟩
  · refine tx_kn y (br_t rfl ?_)
    unfold wpY_alike
    exact tv_kn y ⟨rfl, tv_mk h hX⟩
  refine tx_kd hd (br_f tx_10 ?_)
  rcases tv_ix (k := k) (G := G) h.1 v2 with y | ⟨a, ha, rfl⟩
  · refine tx_eb (nI n) (nI e) (nI (tm_u n)) (nI k) (nI q) fr aI aG aF aW aL aS aR aQ aZ aC y (br_t rfl ?_)
    unfold wpY_alike
    refine tv_ky hd (ty_work (nI n) (nI e) (nI k) aG yT yL yW yN yS h.1 h.2.1 (tv_31 h) hX (fun yT' yL' yW' hF => ?_))
    exact ty_bn (nI n) (nI e) (nI k) aG yT' yL' yW' yN yS y (br_f tx_10 ⟨rfl, tv_mk h hX⟩)
  by_cases z : tm_E n k G a
  · refine tx_ey (nI n) (nI e) (nI (tm_u n)) (nI k) (nI q) fr aI aG aF aW aL aS aR aQ aZ aC h z (br_f tx_10 ?_)
    rcases tv_ix (k := k) (G := G) h.1 v3 with y | ⟨b, hb, rfl⟩
    · refine tx_eb (nI n) (nI e) (nI (tm_u n)) (nI k) (nI q) fr aI aG aF aW aL aS aR aQ aZ aC y (br_t rfl ?_)
      unfold wpY_alike
      refine tv_ky hd (ty_work (nI n) (nI e) (nI k) aG yT yL yW yN yS h.1 h.2.1 (tv_31 h) hX (fun yT' yL' yW' hF => ?_))
      exact ty_by (nI n) (nI e) (nI k) aG yT' yL' yW' yN yS h.1 ha (br_t rfl (ty_bn (nI n) (nI e) (nI k) aG yT' yL' yW' yN yS y (br_f tx_10 ⟨rfl, tv_mk h hX⟩)))
    by_cases w : tm_E n k G b
    · refine tx_ey (nI n) (nI e) (nI (tm_u n)) (nI k) (nI q) fr aI aG aF aW aL aS aR aQ aZ aC h w (br_f tx_10 (tx_fs (nI n) (nI e) (nI (tm_u n)) (nI k) (nI q) fr aI aG aF aW aL aS aR aQ aZ aC h.1 h.2.1 hd ha h.2.2.1 h.2.2.2.1 (fun fr1 aR1 aQ1 hR1 => ⟨vp_in_nI (by omega) (by omega), ?_⟩)))
      rw [nI_clamp (by omega : b < 2 ^ 31)]
      refine nm_e (tx_fs (nI n) (nI e) (nI (tm_u n)) (nI k) (nI q) fr1 aI aG aF aW aL aS aR1 aQ1 aZ aC h.1 h.2.1 hd hb h.2.2.1 h.2.2.2.1 (fun fr2 aR2 aQ2 hR2 => ⟨vp_in_nI (by omega) (by omega), ?_⟩))
      rw [nI_clamp (by omega : a < 2 ^ 31)]
      refine nm_e ?_
      have Y : ∀ P : Int32 → SY → Prop, (∀ yT' yL' yW' yS', (tm_R n k G d a b → tm_R n k G d b a → P 1 (nI n, nI e, nI k, aG, yT', yL', yW', yN, yS')) ∧ (¬ (tm_R n k G d a b ∧ tm_R n k G d b a) → P 0 (nI n, nI e, nI k, aG, yT', yL', yW', yN, yS'))) → wpY_alike P (nI n, nI e, nI k, aG, yT, yL, yW, yN, yS) (nI d) (nI a) (nI b) := by
        intro P hP
        unfold wpY_alike
        refine tv_ky hd (ty_work (nI n) (nI e) (nI k) aG yT yL yW yN yS h.1 h.2.1 (tv_31 h) hX (fun yT' yL' yW' hF => ?_))
        refine ty_by (nI n) (nI e) (nI k) aG yT' yL' yW' yN yS h.1 ha (br_t rfl (ty_by (nI n) (nI e) (nI k) aG yT' yL' yW' yN yS h.1 hb (br_t rfl ⟨vp_in_nI (by omega) (by omega), ?_⟩)))
        rw [nI_clamp (by omega : a < 2 ^ 31), nI_clamp (by omega : b < 2 ^ 31)]
        refine br_f (ty_Ty hF ha z) ⟨vp_in_nI (by omega) (by omega), br_f (ty_Ty hF hb w) ?_⟩
        refine ty_fill (nI n) (nI e) (nI k) aG yT' yL' yW' yN yS h.1 h.2.1 hd ha hX (fun yS1 h1 h2 => ?_)
        refine ty_fill (nI n) (nI e) (nI k) aG yT' yL' yW' yN yS1 h.1 h.2.1 hd hb hX (fun yS2 h3 h4 => ?_)
        have t := hP yT' yL' yW' yS2
        have e1 : tm_t yS2 a b ↔ tm_R n k G d a b := by
          by_cases x : a = b
          · subst x; exact h3 a ha
          · have e2 : tm_t yS2 a b ↔ tm_t yS1 a b := by
              unfold tm_t
              rw [h4 (4 * a + b / 64) (by omega)]
            exact e2.trans (h1 b hb)
        refine ty_in (nI n) (nI e) (nI k) aG yT' yL' yW' yN yS2 (by omega) (by omega) (fun x => br_f tx_10 ?_) (fun x => br_t rfl (t.2 fun v => x (e1.mpr v.1)))
        refine ty_in (nI n) (nI e) (nI k) aG yT' yL' yW' yN yS2 (by omega) (by omega) (fun x' => br_f tx_10 (t.1 (e1.mp x) ((h3 a ha).mp x'))) (fun x' => br_t rfl (t.2 fun v => x' ((h3 a ha).mpr v.2)))
      rcases hR1 b hb with ⟨r1, r2⟩ | ⟨r1, r2⟩
      · refine br_f (by rw [r1]; exact tx_10) ?_
        rcases hR2 a ha with ⟨s1, s2⟩ | ⟨s1, s2⟩
        · refine br_f (by rw [s1]; exact tx_10) (Y _ ?_)
          intro yT' yL' yW' yS'
          exact ⟨fun _ _ => ⟨rfl, tv_mk h hX⟩, fun v => absurd ⟨r2, s2⟩ v⟩
        · refine br_t s1 (Y _ ?_)
          intro yT' yL' yW' yS'
          exact ⟨fun _ v => absurd v s2, fun _ => ⟨rfl, tv_mk h hX⟩⟩
      · refine br_t r1 (Y _ ?_)
        intro yT' yL' yW' yS'
        exact ⟨fun v _ => absurd v r2, fun _ => ⟨rfl, tv_mk h hX⟩⟩
    · refine tx_en (nI n) (nI e) (nI (tm_u n)) (nI k) (nI q) fr aI aG aF aW aL aS aR aQ aZ aC h hb w (br_t rfl ?_)
      unfold wpY_alike
      refine tv_ky hd (ty_work (nI n) (nI e) (nI k) aG yT yL yW yN yS h.1 h.2.1 (tv_31 h) hX (fun yT' yL' yW' hF => ?_))
      refine ty_by (nI n) (nI e) (nI k) aG yT' yL' yW' yN yS h.1 ha (br_t rfl (ty_by (nI n) (nI e) (nI k) aG yT' yL' yW' yN yS h.1 hb (br_t rfl ⟨vp_in_nI (by omega) (by omega), ?_⟩)))
      rw [nI_clamp (by omega : a < 2 ^ 31), nI_clamp (by omega : b < 2 ^ 31)]
      exact br_f (ty_Ty hF ha z) ⟨vp_in_nI (by omega) (by omega), br_t (ty_Tn hF hb w) ⟨rfl, tv_mk h hX⟩⟩
  · refine tx_en (nI n) (nI e) (nI (tm_u n)) (nI k) (nI q) fr aI aG aF aW aL aS aR aQ aZ aC h ha z (br_t rfl ?_)
    unfold wpY_alike
    refine tv_ky hd (ty_work (nI n) (nI e) (nI k) aG yT yL yW yN yS h.1 h.2.1 (tv_31 h) hX (fun yT' yL' yW' hF => ?_))
    rcases tv_ix (k := k) (G := G) h.1 v3 with y | ⟨b, hb, rfl⟩
    · exact ty_by (nI n) (nI e) (nI k) aG yT' yL' yW' yN yS h.1 ha (br_t rfl (ty_bn (nI n) (nI e) (nI k) aG yT' yL' yW' yN yS y (br_f tx_10 ⟨rfl, tv_mk h hX⟩)))
    · refine ty_by (nI n) (nI e) (nI k) aG yT' yL' yW' yN yS h.1 ha (br_t rfl (ty_by (nI n) (nI e) (nI k) aG yT' yL' yW' yN yS h.1 hb (br_t rfl ⟨vp_in_nI (by omega) (by omega), ?_⟩)))
      rw [nI_clamp (by omega : a < 2 ^ 31)]
      exact br_t (ty_Tn hF ha z) ⟨rfl, tv_mk h hX⟩
end
