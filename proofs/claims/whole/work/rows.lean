section
theorem pk_us {f : Nat → Int32} {k : Nat} {x : Int32} : upd f k x k = x := if_pos rfl
theorem pk_un {f : Nat → Int32} {k j : Nat} {x : Int32} (h : j ≠ k) : upd f k x j = f j := if_neg h
theorem pk_uLs {f : Nat → Int64} {k : Nat} {x : Int64} : vp_updL f k x k = x := if_pos rfl
theorem pk_uLn {f : Nat → Int64} {k j : Nat} {x : Int64} (h : j ≠ k) : vp_updL f k x j = f j := if_neg h
theorem pk_sub {a b : Nat} (h : b ≤ a) : nI a - nI b = nI (a - b) := by
  obtain ⟨c, rfl⟩ : ∃ c, a = c + b := ⟨a - b, by omega⟩
  rw [← nI_add, Int32.add_sub_cancel, Nat.add_sub_cancel]
theorem pk_m1 (n : Nat) : nI (n + 1) + (-1) = nI n := by
  rw [← nI_1, Int32.add_assoc, show (1 : Int32) + (-1) = 0 from rfl, Int32.add_zero]
theorem pk_mul (a b : Nat) : nI a * nI b = nI (a * b) := (Int32.ofNat_mul a b).symm
theorem pk_div {a d : Nat} (ha : a < 2 ^ 31) (h0 : 0 < d) (hd : d < 2 ^ 31) : nI a / nI d = nI (a / d) := by
  apply Int32.toInt_inj.mp
  rw [lg_idiv_nonneg (by rw [nI_toInt ha]; omega) (by rw [nI_toInt hd]; omega), nI_toInt ha, nI_toInt hd, nI_toInt (Nat.lt_of_le_of_lt (Nat.div_le_self a d) ha)]
  first | rfl | exact (Int.natCast_ediv _ _).symm
theorem pk_rem {a d : Nat} (ha : a < 2 ^ 31) (h0 : 0 < d) (hd : d < 2 ^ 31) : nI a - nI a / nI d * nI d = nI (a % d) := by
  rw [pk_div ha h0 hd, pk_mul, pk_sub (Nat.div_mul_le_self a d)]
  exact congrArg nI (by have := Nat.div_add_mod' a d; omega)
theorem pk_ix (x : Int32) {n : Nat} (hn : n < 2 ^ 31) : x < 0 ∨ nI n ≤ x ∨ ∃ j : Nat, j < n ∧ x = nI j := by
  by_cases h : x < 0
  · exact Or.inl h
  · obtain ⟨j, hj, rfl⟩ := nI_of h
    by_cases h2 : j < n
    · exact Or.inr (Or.inr ⟨j, h2, rfl⟩)
    · exact Or.inr (Or.inl (nI_le (by omega) hj))
theorem pk_le {x y : Int32} {A B : Prop} (a b : Nat) (f : a ≤ b → A) (g : b < a → B) (hx : x = nI a := by rfl) (hy : y = nI b := by rfl) (ha : a < 2 ^ 31 := by omega) (hb : b < 2 ^ 31 := by omega) : (x ≤ y → A) ∧ (¬ x ≤ y → B) := by
  subst hx hy
  rw [nI_leI ha hb]
  exact ⟨f, fun z => g (by omega)⟩
theorem pk_lt {x y : Int32} {A B : Prop} (a b : Nat) (f : a < b → A) (g : b ≤ a → B) (hx : x = nI a := by rfl) (hy : y = nI b := by rfl) (ha : a < 2 ^ 31 := by omega) (hb : b < 2 ^ 31 := by omega) : (x < y → A) ∧ (¬ x < y → B) := by
  subst hx hy
  rw [nI_ltI ha hb]
  exact ⟨f, fun z => g (by omega)⟩
theorem pk_eq {x y : Int32} {A B : Prop} (a b : Nat) (f : a = b → A) (g : a ≠ b → B) (hx : x = nI a := by rfl) (hy : y = nI b := by rfl) (ha : a < 2 ^ 31 := by omega) (hb : b < 2 ^ 31 := by omega) : (x = y → A) ∧ (¬ x = y → B) := by
  subst hx hy
  rw [nI_eq ha hb]
  exact ⟨f, g⟩
theorem pk_in {x : Int32} (n N : Nat) (h : n < N) (hx : x = nI n := by rfl) (hN : N < 2 ^ 31 := by omega) : vp_in x N := by
  subst hx
  exact vp_in_nI h hN
theorem pk_cl {x : Int32} (n : Nat) (hx : x = nI n := by rfl) (h : n < 2 ^ 31 := by omega) : x.toNatClampNeg = n := by
  subst hx
  exact nI_clamp h
theorem pk_tn {n : Nat} (h : n < 2 ^ 32) : (nI n).toBitVec.toNat = n := Nat.mod_eq_of_lt h
theorem pk_and (x : Int32) {m : Int32} (k : Nat) (hm : m.toBitVec.toNat = 2 ^ k - 1) : x &&& m = nI (x.toBitVec.toNat % 2 ^ k) := by
  apply Int32.toBitVec_inj.mp
  apply BitVec.eq_of_toNat_eq
  rw [Int32.toBitVec_and, BitVec.toNat_and, hm, Nat.and_two_pow_sub_one_eq_mod]
  show _ = (BitVec.ofNat 32 _).toNat
  rw [BitVec.toNat_ofNat]
  exact (Nat.mod_eq_of_lt (Nat.lt_of_le_of_lt (Nat.mod_le _ _) x.toBitVec.isLt)).symm
theorem pk_andN {n : Nat} (h : n < 2 ^ 32) {m : Int32} (k : Nat) (hm : m.toBitVec.toNat = 2 ^ k - 1) : nI n &&& m = nI (n % 2 ^ k) := by
  rw [pk_and _ k hm, pk_tn h]
theorem pk_lT {n : Nat} (h : n < 2 ^ 63) : (lN n).toInt = (n : Int) := lg_ofNat_toInt h
theorem pk_lLT {a b : Nat} (ha : a < 2 ^ 63) (hb : b < 2 ^ 63) : lN a < lN b ↔ a < b := by
  rw [Int64.lt_iff_toInt_lt, pk_lT ha, pk_lT hb]; omega
theorem pk_lLE {a b : Nat} (ha : a < 2 ^ 63) (hb : b < 2 ^ 63) : lN a ≤ lN b ↔ a ≤ b := by
  rw [Int64.le_iff_toInt_le, pk_lT ha, pk_lT hb]; omega
theorem pk_lEQ {a b : Nat} (ha : a < 2 ^ 63) (hb : b < 2 ^ 63) : lN a = lN b ↔ a = b := by
  rw [← Int64.toInt_inj, pk_lT ha, pk_lT hb]; omega
theorem pk_loop {σ : Type} (W : Nat → Nat → σ → Prop) (I : Nat → σ → Prop) (e i0 : Nat) (s : σ) (hi : i0 ≤ e) (h0 : I i0 s) (hx : ∀ n s, I e s → W (n + 1) e s)
    (hs : ∀ n i s, i < e → I i s → (∀ s', I (i + 1) s' → W n (i + 1) s') → W (n + 1) i s) : ∃ n, W n i0 s :=
  ⟨e + 1, loop_i W I e hx hs (e + 1) i0 s hi (by omega) h0⟩
theorem pk_least (P : Nat → Prop) (h : ∃ k, P k) : ∃ k, P k ∧ ∀ j, j < k → ¬ P j := by
  obtain ⟨k, hk⟩ := h
  induction k using Nat.strongRecOn with
  | ind k ih =>
    by_cases e : ∃ j, j < k ∧ P j
    · obtain ⟨j, hj, pj⟩ := e
      exact ih j hj pj
    · exact ⟨k, hk, fun j hj pj => e ⟨j, hj, pj⟩⟩
theorem wb_tb (n : Nat) : (lN n).toBitVec = BitVec.ofNat 64 n := rfl
theorem wb_inj {a b : Int64} (h : a.toBitVec = b.toBitVec) : a = b := Int64.toBitVec_inj.mp h
theorem wb_tn {n : Nat} (h : n < 2 ^ 64) : (lN n).toBitVec.toNat = n := by rw [wb_tb, BitVec.toNat_ofNat, Nat.mod_eq_of_lt h]
theorem wb_c : ∀ k, k < 64 → ((nI k).toInt64 &&& 63) = lN k := by decide +kernel
theorem wb_sm : ∀ k, k < 64 → (BitVec.ofNat 64 k).smod 64 = BitVec.ofNat 64 k := by decide +kernel
theorem pf_lI {a : Nat} (h : a < 2 ^ 63) : (lN a).toInt = (a : Int) := lg_ofNat_toInt h
theorem pf_shr {a d : Nat} {D : Int64} (hD : (D.toBitVec.smod 64).toNat = d) (h : a < 2 ^ 62) : lN a >>> D = lN (a / 2 ^ d) := by
  have hd : a / 2 ^ d ≤ a := Nat.div_le_self _ _
  apply Int64.toInt_inj.mp
  have e : (lN a >>> D).toInt = (lN a).toInt >>> d := by
    rw [← hD]
    exact BitVec.toInt_sshiftRight ..
  rw [e, Int.shiftRight_eq_div_pow, pf_lI (by omega), pf_lI (by omega)]
  rfl
theorem nx_and (a b : Nat) : nI a &&& nI b = nI (a &&& b) := by
  apply Int32.toBitVec_inj.1
  show BitVec.ofNat 32 a &&& BitVec.ofNat 32 b = BitVec.ofNat 32 (a &&& b)
  apply BitVec.eq_of_getLsbD_eq
  intro i hi
  simp [hi]
end
section
/-! maps of n points as codes below e; counting; words -/
def tm_N (n e : Nat) : Prop := (n = 2 ∧ e = 4) ∨ (n = 3 ∧ e = 27) ∨ (n = 4 ∧ e = 256)
def tm_im (n f p : Nat) : Nat := f / n ^ (n - 1 - p) % n
def tm_mk (n f g : Nat) : Nat → Nat
  | 0 => 0
  | p + 1 => tm_mk n f g p * n + tm_im n g (tm_im n f p)
def tm_m (n f g : Nat) : Nat := tm_mk n f g n
def tm_u (n : Nat) : Nat := if n = 2 then 1 else if n = 3 then 5 else 27
theorem tm_Npos {n e : Nat} (h : tm_N n e) : 2 ≤ n ∧ n ≤ 4 ∧ 4 ≤ e ∧ e ≤ 256 ∧ n ≤ e := by
  rcases h with ⟨h, h'⟩ | ⟨h, h'⟩ | ⟨h, h'⟩ <;> omega
theorem tm_imlt {n e : Nat} (h : tm_N n e) (f p : Nat) : tm_im n f p < n := Nat.mod_lt _ (by have := tm_Npos h; omega)
theorem tm_d2 (a b : Nat) (ha : a < 2) (hb : b < 2) : tm_im 2 ((0 * 2 + a) * 2 + b) 0 = a ∧ tm_im 2 ((0 * 2 + a) * 2 + b) 1 = b := by
  refine ⟨?_, ?_⟩
  · show ((0 * 2 + a) * 2 + b) / 2 % 2 = a
    omega
  · show ((0 * 2 + a) * 2 + b) / 1 % 2 = b
    omega
theorem tm_d3 (a b c : Nat) (ha : a < 3) (hb : b < 3) (hc : c < 3) : tm_im 3 (((0 * 3 + a) * 3 + b) * 3 + c) 0 = a ∧ tm_im 3 (((0 * 3 + a) * 3 + b) * 3 + c) 1 = b ∧ tm_im 3 (((0 * 3 + a) * 3 + b) * 3 + c) 2 = c := by
  refine ⟨?_, ?_, ?_⟩
  · show (((0 * 3 + a) * 3 + b) * 3 + c) / 9 % 3 = a
    omega
  · show (((0 * 3 + a) * 3 + b) * 3 + c) / 3 % 3 = b
    omega
  · show (((0 * 3 + a) * 3 + b) * 3 + c) / 1 % 3 = c
    omega
theorem tm_d4 (a b c d : Nat) (ha : a < 4) (hb : b < 4) (hc : c < 4) (hd : d < 4) : tm_im 4 ((((0 * 4 + a) * 4 + b) * 4 + c) * 4 + d) 0 = a ∧ tm_im 4 ((((0 * 4 + a) * 4 + b) * 4 + c) * 4 + d) 1 = b ∧ tm_im 4 ((((0 * 4 + a) * 4 + b) * 4 + c) * 4 + d) 2 = c ∧ tm_im 4 ((((0 * 4 + a) * 4 + b) * 4 + c) * 4 + d) 3 = d := by
  refine ⟨?_, ?_, ?_, ?_⟩
  · show ((((0 * 4 + a) * 4 + b) * 4 + c) * 4 + d) / 64 % 4 = a
    omega
  · show ((((0 * 4 + a) * 4 + b) * 4 + c) * 4 + d) / 16 % 4 = b
    omega
  · show ((((0 * 4 + a) * 4 + b) * 4 + c) * 4 + d) / 4 % 4 = c
    omega
  · show ((((0 * 4 + a) * 4 + b) * 4 + c) * 4 + d) / 1 % 4 = d
    omega
theorem tm_dig {n e : Nat} (h : tm_N n e) (f g : Nat) {p : Nat} (hp : p < n) : tm_im n (tm_m n f g) p = tm_im n g (tm_im n f p) := by
  have L : ∀ q, tm_im n g q < n := tm_imlt h g
  rcases h with ⟨h, h'⟩ | ⟨h, h'⟩ | ⟨h, h'⟩
  · subst h
    have := tm_d2 _ _ (L (tm_im 2 f 0)) (L (tm_im 2 f 1))
    match p, hp with
    | 0, _ => exact this.1
    | 1, _ => exact this.2
  · subst h
    have := tm_d3 _ _ _ (L (tm_im 3 f 0)) (L (tm_im 3 f 1)) (L (tm_im 3 f 2))
    match p, hp with
    | 0, _ => exact this.1
    | 1, _ => exact this.2.1
    | 2, _ => exact this.2.2
  · subst h
    have := tm_d4 _ _ _ _ (L (tm_im 4 f 0)) (L (tm_im 4 f 1)) (L (tm_im 4 f 2)) (L (tm_im 4 f 3))
    match p, hp with
    | 0, _ => exact this.1
    | 1, _ => exact this.2.1
    | 2, _ => exact this.2.2.1
    | 3, _ => exact this.2.2.2
theorem tm_lt {n e : Nat} (h : tm_N n e) (f g : Nat) : tm_m n f g < e := by
  have L : ∀ q, tm_im n g q < n := tm_imlt h g
  rcases h with ⟨h, h'⟩ | ⟨h, h'⟩ | ⟨h, h'⟩
  · subst h h'
    have h0 := L (tm_im 2 f 0)
    have h1 := L (tm_im 2 f 1)
    show (0 * 2 + tm_im 2 g (tm_im 2 f 0)) * 2 + tm_im 2 g (tm_im 2 f 1) < 4
    omega
  · subst h h'
    have h0 := L (tm_im 3 f 0)
    have h1 := L (tm_im 3 f 1)
    have h2 := L (tm_im 3 f 2)
    show ((0 * 3 + tm_im 3 g (tm_im 3 f 0)) * 3 + tm_im 3 g (tm_im 3 f 1)) * 3 + tm_im 3 g (tm_im 3 f 2) < 27
    omega
  · subst h h'
    have h0 := L (tm_im 4 f 0)
    have h1 := L (tm_im 4 f 1)
    have h2 := L (tm_im 4 f 2)
    have h3 := L (tm_im 4 f 3)
    show (((0 * 4 + tm_im 4 g (tm_im 4 f 0)) * 4 + tm_im 4 g (tm_im 4 f 1)) * 4 + tm_im 4 g (tm_im 4 f 2)) * 4 + tm_im 4 g (tm_im 4 f 3) < 256
    omega
theorem tm_ext {n e : Nat} (h : tm_N n e) {f g : Nat} (hf : f < e) (hg : g < e) (he : ∀ p, p < n → tm_im n f p = tm_im n g p) : f = g := by
  rcases h with ⟨h, h'⟩ | ⟨h, h'⟩ | ⟨h, h'⟩
  · subst h h'
    have e0 : f / 2 % 2 = g / 2 % 2 := he 0 (by omega)
    have e1 : f / 1 % 2 = g / 1 % 2 := he 1 (by omega)
    omega
  · subst h h'
    have e0 : f / 9 % 3 = g / 9 % 3 := he 0 (by omega)
    have e1 : f / 3 % 3 = g / 3 % 3 := he 1 (by omega)
    have e2 : f / 1 % 3 = g / 1 % 3 := he 2 (by omega)
    omega
  · subst h h'
    have e0 : f / 64 % 4 = g / 64 % 4 := he 0 (by omega)
    have e1 : f / 16 % 4 = g / 16 % 4 := he 1 (by omega)
    have e2 : f / 4 % 4 = g / 4 % 4 := he 2 (by omega)
    have e3 : f / 1 % 4 = g / 1 % 4 := he 3 (by omega)
    omega
theorem tm_as {n e : Nat} (h : tm_N n e) (f g k : Nat) : tm_m n (tm_m n f g) k = tm_m n f (tm_m n g k) :=
  tm_ext h (tm_lt h _ _) (tm_lt h _ _) fun p hp => by
    rw [tm_dig h _ _ hp, tm_dig h _ _ hp, tm_dig h _ _ hp, tm_dig h _ _ (tm_imlt h f p)]
theorem tm_ult {n e : Nat} (h : tm_N n e) : tm_u n < e := by
  rcases h with ⟨h, h'⟩ | ⟨h, h'⟩ | ⟨h, h'⟩ <;> subst h h' <;> decide
theorem tm_uim {n e : Nat} (h : tm_N n e) : ∀ p, p < n → tm_im n (tm_u n) p = p := by
  rcases h with ⟨h, h'⟩ | ⟨h, h'⟩ | ⟨h, h'⟩ <;> subst h h' <;> decide
theorem tm_ul {n e : Nat} (h : tm_N n e) {f : Nat} (hf : f < e) : tm_m n (tm_u n) f = f :=
  tm_ext h (tm_lt h _ _) hf fun p hp => by rw [tm_dig h _ _ hp, tm_uim h p hp]
theorem tm_ur {n e : Nat} (h : tm_N n e) {f : Nat} (hf : f < e) : tm_m n f (tm_u n) = f :=
  tm_ext h (tm_lt h _ _) hf fun p hp => by rw [tm_dig h _ _ hp, tm_uim h _ (tm_imlt h f p)]
noncomputable def tm_b (P : Prop) : Bool := @decide P (Classical.propDecidable P)
theorem tm_bt {P : Prop} (h : P) : tm_b P = true := by
  unfold tm_b
  exact @decide_eq_true P (Classical.propDecidable P) h
theorem tm_bf {P : Prop} (h : ¬ P) : tm_b P = false := by
  unfold tm_b
  exact @decide_eq_false P (Classical.propDecidable P) h
noncomputable def tm_c (P : Nat → Prop) : Nat → Nat
  | 0 => 0
  | e + 1 => tm_c P e + (if tm_b (P e) = true then 1 else 0)
theorem tm_ct {P : Nat → Prop} {e : Nat} (h : P e) : tm_c P (e + 1) = tm_c P e + 1 := by
  show tm_c P e + _ = _
  rw [tm_bt h, if_pos rfl]
theorem tm_cf {P : Nat → Prop} {e : Nat} (h : ¬ P e) : tm_c P (e + 1) = tm_c P e := by
  show tm_c P e + _ = _
  rw [tm_bf h, if_neg (by decide), Nat.add_zero]
theorem tm_cle (P : Nat → Prop) : ∀ e, tm_c P e ≤ e := by
  intro e
  induction e with
  | zero => exact Nat.le_refl 0
  | succ e ih =>
    by_cases h : P e
    · rw [tm_ct h]; omega
    · rw [tm_cf h]; omega
theorem tm_ccong {P Q : Nat → Prop} : ∀ e, (∀ c, c < e → (P c ↔ Q c)) → tm_c P e = tm_c Q e := by
  intro e
  induction e with
  | zero => intro _; rfl
  | succ e ih =>
    intro h
    have := ih fun c hc => h c (by omega)
    by_cases hP : P e
    · rw [tm_ct hP, tm_ct ((h e (by omega)).mp hP), this]
    · rw [tm_cf hP, tm_cf (fun z => hP ((h e (by omega)).mpr z)), this]
theorem tm_cmono {P Q : Nat → Prop} : ∀ e, (∀ c, c < e → P c → Q c) → tm_c P e ≤ tm_c Q e := by
  intro e
  induction e with
  | zero => intro _; exact Nat.le_refl _
  | succ e ih =>
    intro h
    have := ih fun c hc => h c (by omega)
    by_cases hP : P e
    · rw [tm_ct hP, tm_ct (h e (by omega) hP)]; omega
    · rw [tm_cf hP]
      by_cases hQ : Q e
      · rw [tm_ct hQ]; omega
      · rw [tm_cf hQ]; omega
theorem tm_cadd {P Q : Nat → Prop} {c : Nat} (hc : ¬ P c) : ∀ e, c < e → (∀ d, d < e → (Q d ↔ P d ∨ d = c)) → tm_c Q e = tm_c P e + 1 := by
  intro e
  induction e with
  | zero => intro h; omega
  | succ e ih =>
    intro h hd
    by_cases he : c = e
    · subst he
      rw [tm_ct ((hd c h).mpr (Or.inr rfl)), tm_cf hc]
      have := tm_ccong (P := P) (Q := Q) c fun d hdc => ⟨fun z => (hd d (by omega)).mpr (Or.inl z), fun z => by
        rcases (hd d (by omega)).mp z with z | z
        · exact z
        · omega⟩
      omega
    · have := ih (by omega) fun d hdc => hd d (by omega)
      by_cases hP : P e
      · rw [tm_ct hP, tm_ct ((hd e (by omega)).mpr (Or.inl hP)), this]
      · rw [tm_cf hP, tm_cf (fun z => by
          rcases (hd e (by omega)).mp z with z | z
          · exact hP z
          · omega), this]
theorem tm_cstrict {P Q : Nat → Prop} {e c : Nat} (h : ∀ c, c < e → P c → Q c) (hc : c < e) (hQ : Q c) (hP : ¬ P c) : tm_c P e < tm_c Q e := by
  have h1 := tm_cadd (P := P) (Q := fun d => P d ∨ d = c) hP e hc fun d _ => Iff.rfl
  have h2 := tm_cmono (P := fun d => P d ∨ d = c) (Q := Q) e fun d hd z => by
    rcases z with z | z
    · exact h d hd z
    · rw [z]; exact hQ
  omega
theorem tm_ceq {P Q : Nat → Prop} {e : Nat} (h : ∀ c, c < e → P c → Q c) (he : tm_c Q e ≤ tm_c P e) : ∀ c, c < e → Q c → P c := by
  intro c hc hQ
  by_cases hP : P c
  · exact hP
  · have := tm_cstrict h hc hQ hP
    omega
theorem tm_c0 {P : Nat → Prop} : ∀ e, (∀ c, c < e → ¬ P c) → tm_c P e = 0 := by
  intro e
  induction e with
  | zero => intro _; rfl
  | succ e ih =>
    intro h
    rw [tm_cf (h e (by omega)), ih fun c hc => h c (by omega)]
theorem tm_cinj {A : Nat → Prop} {T : Nat → Nat → Prop} {b : Nat} : ∀ (a : Nat) (B : Nat → Prop), (∀ i, i < a → A i → ∃ j, j < b ∧ B j ∧ T i j) → (∀ i i' j, i < a → i' < a → A i → A i' → j < b → T i j → T i' j → i = i') → tm_c A a ≤ tm_c B b := by
  intro a
  induction a with
  | zero => intro B _ _; exact Nat.zero_le _
  | succ a ih =>
    intro B h hi
    by_cases hA : A a
    · obtain ⟨j, hj, hB, hT⟩ := h a (by omega) hA
      rw [tm_ct hA]
      have h1 := ih (fun d => B d ∧ d ≠ j) (fun i hia hAi => by
        obtain ⟨j', hj', hB', hT'⟩ := h i (by omega) hAi
        refine ⟨j', hj', ⟨hB', fun z => ?_⟩, hT'⟩
        subst z
        have := hi i a j' (by omega) (by omega) hAi hA hj hT' hT
        omega) (fun i i' j h1 h2 => hi i i' j (by omega) (by omega))
      have h2 := tm_cadd (P := fun d => B d ∧ d ≠ j) (Q := B) (c := j) (fun z => z.2 rfl) b hj fun d _ => ⟨fun z => by
        by_cases hd : d = j
        · exact Or.inr hd
        · exact Or.inl ⟨z, hd⟩, fun z => by
        rcases z with z | z
        · exact z.1
        · rw [z]; exact hB⟩
      omega
    · rw [tm_cf hA]
      exact ih B (fun i hia => h i (by omega)) (fun i i' j h1 h2 => hi i i' j (by omega) (by omega))
end
section
/-! words: the number of a word is a one, then its letters to base 4 -/
def tm_W (n k : Nat) (G : Nat → Nat) : Nat → Nat → Nat → Prop
  | 0, N, c => N = 1 ∧ c = tm_u n
  | l + 1, N, c => N % 4 < k ∧ ∃ b, tm_W n k G l (N / 4) b ∧ tm_m n b (G (N % 4)) = c
def tm_E (n k : Nat) (G : Nat → Nat) (c : Nat) : Prop := ∃ l N, tm_W n k G l N c
def tm_B (n k : Nat) (G : Nat → Nat) (c l N : Nat) : Prop := tm_W n k G l N c ∧ ∀ l' N', tm_W n k G l' N' c → N ≤ N'
theorem tm_Wlt {n e k : Nat} {G : Nat → Nat} (h : tm_N n e) : ∀ {l N c : Nat}, tm_W n k G l N c → c < e := by
  intro l N c w
  cases l with
  | zero => obtain ⟨_, rfl⟩ := w; exact tm_ult h
  | succ l => obtain ⟨_, b, _, rfl⟩ := w; exact tm_lt h _ _
theorem tm_Wr {n k : Nat} {G : Nat → Nat} : ∀ {l N c : Nat}, tm_W n k G l N c → 4 ^ l ≤ N ∧ N < 2 * 4 ^ l := by
  intro l
  induction l with
  | zero => intro N c w; obtain ⟨rfl, _⟩ := w; decide
  | succ l ih =>
    intro N c w
    obtain ⟨_, b, w', _⟩ := w
    have := ih w'
    rw [Nat.pow_succ]
    omega
theorem tm_pw {a b : Nat} (h : a ≤ b) : 4 ^ a ≤ 4 ^ b := Nat.pow_le_pow_right (by decide) h
theorem tm_Wl {n k : Nat} {G : Nat → Nat} {l N c l' N' c' : Nat} (w : tm_W n k G l N c) (w' : tm_W n k G l' N' c') (h : N ≤ N') : l ≤ l' := by
  by_cases hl : l ≤ l'
  · exact hl
  · have h1 := tm_Wr w
    have h2 := tm_Wr w'
    have h3 : 4 ^ (l' + 1) ≤ 4 ^ l := tm_pw (by omega)
    rw [Nat.pow_succ] at h3
    omega
theorem tm_Wc {n k : Nat} {G : Nat → Nat} {l N b g : Nat} (w : tm_W n k G l N b) (hg : g < k) (hk : k ≤ 4) : tm_W n k G (l + 1) (4 * N + g) (tm_m n b (G g)) := by
  have e1 : (4 * N + g) % 4 = g := by omega
  have e2 : (4 * N + g) / 4 = N := by omega
  refine ⟨by rw [e1]; exact hg, b, ?_, ?_⟩
  · rw [e2]; exact w
  · rw [e1]
theorem tm_Bex {n k : Nat} {G : Nat → Nat} {c : Nat} (h : tm_E n k G c) : ∃ l N, tm_B n k G c l N := by
  obtain ⟨l, N, w⟩ := h
  obtain ⟨N0, ⟨l0, w0⟩, hm⟩ := pk_least (fun N => ∃ l, tm_W n k G l N c) ⟨N, l, w⟩
  exact ⟨l0, N0, w0, fun l' N' w' => by
    by_cases z : N0 ≤ N'
    · exact z
    · exact absurd ⟨l', w'⟩ (hm N' (by omega))⟩
theorem tm_BE {n k : Nat} {G : Nat → Nat} {c l N : Nat} (h : tm_B n k G c l N) : tm_E n k G c := ⟨l, N, h.1⟩
theorem tm_Bu {n k : Nat} {G : Nat → Nat} {c l N l' N' : Nat} (h : tm_B n k G c l N) (h' : tm_B n k G c l' N') : l = l' ∧ N = N' := by
  have h1 := h.2 _ _ h'.1
  have h2 := h'.2 _ _ h.1
  have h3 := tm_Wl h.1 h'.1 h1
  have h4 := tm_Wl h'.1 h.1 h2
  omega
theorem tm_Bp {n k : Nat} {G : Nat → Nat} (hk : k ≤ 4) {c l N : Nat} (h : tm_B n k G c (l + 1) N) : ∃ b, tm_B n k G b l (N / 4) ∧ N % 4 < k ∧ tm_m n b (G (N % 4)) = c := by
  obtain ⟨⟨hg, b, w, hb⟩, hm⟩ := h
  refine ⟨b, ⟨w, fun l' N' w' => ?_⟩, hg, hb⟩
  have h1 := tm_Wc w' hg hk
  rw [hb] at h1
  have h2 := hm _ _ h1
  omega
theorem tm_Eu {n k : Nat} {G : Nat → Nat} : tm_E n k G (tm_u n) := ⟨0, 1, rfl, rfl⟩
theorem tm_Wpos {n k : Nat} {G : Nat → Nat} {l N c : Nat} (w : tm_W n k G l N c) : 1 ≤ N := by
  have := tm_Wr w
  have : 0 < 4 ^ l := Nat.pow_pos (by decide)
  omega
theorem tm_B0 {n k : Nat} {G : Nat → Nat} : tm_B n k G (tm_u n) 0 1 := ⟨⟨rfl, rfl⟩, fun _ _ w => tm_Wpos w⟩
theorem tm_Er {n k : Nat} {G : Nat → Nat} {c g : Nat} (hk : k ≤ 4) (h : tm_E n k G c) (hg : g < k) : tm_E n k G (tm_m n c (G g)) := by
  obtain ⟨l, N, w⟩ := h
  exact ⟨_, _, tm_Wc w hg hk⟩
theorem tm_Eg {n e k : Nat} {G : Nat → Nat} (h : tm_N n e) (hk : k ≤ 4) (hG : ∀ g, g < k → G g < e) {g : Nat} (hg : g < k) : tm_E n k G (G g) := by
  have := tm_Er hk (tm_Eu (n := n) (k := k) (G := G)) hg
  rwa [tm_ul h (hG g hg)] at this
theorem tm_Em {n e k : Nat} {G : Nat → Nat} (h : tm_N n e) (hk : k ≤ 4) {a : Nat} (ha : a < e) (hA : tm_E n k G a) : ∀ {l N c : Nat}, tm_W n k G l N c → tm_E n k G (tm_m n a c) := by
  intro l
  induction l with
  | zero =>
    intro N c w
    obtain ⟨_, rfl⟩ := w
    rw [tm_ur h ha]
    exact hA
  | succ l ih =>
    intro N c w
    obtain ⟨hg, b, w', rfl⟩ := w
    rw [← tm_as h]
    exact tm_Er hk (ih w') hg
theorem tm_EE {n e k : Nat} {G : Nat → Nat} (h : tm_N n e) (hk : k ≤ 4) {a c : Nat} (hA : tm_E n k G a) (hC : tm_E n k G c) : tm_E n k G (tm_m n a c) := by
  obtain ⟨l, N, w⟩ := hC
  obtain ⟨l', N', w'⟩ := hA
  exact tm_Em h hk (tm_Wlt h w') ⟨l', N', w'⟩ w
theorem tm_El {n e k : Nat} {G : Nat → Nat} (h : tm_N n e) (hk : k ≤ 4) (hG : ∀ g, g < k → G g < e) {c g : Nat} (hc : tm_E n k G c) (hg : g < k) : tm_E n k G (tm_m n (G g) c) := tm_EE h hk (tm_Eg h hk hG hg) hc
theorem tm_Elt {n e k : Nat} {G : Nat → Nat} (h : tm_N n e) {c : Nat} (hc : tm_E n k G c) : c < e := by
  obtain ⟨l, N, w⟩ := hc
  exact tm_Wlt h w
/-! commuting -/
theorem tm_Cg {n e k : Nat} {G : Nat → Nat} (h : tm_N n e) (hG : ∀ g, g < k → G g < e) (hC : ∀ i j, i < k → j < k → tm_m n (G i) (G j) = tm_m n (G j) (G i)) {i : Nat} (hi : i < k) : ∀ {l N c : Nat}, tm_W n k G l N c → tm_m n c (G i) = tm_m n (G i) c := by
  intro l
  induction l with
  | zero =>
    intro N c w
    obtain ⟨_, rfl⟩ := w
    rw [tm_ul h (hG i hi), tm_ur h (hG i hi)]
  | succ l ih =>
    intro N c w
    obtain ⟨hg, b, w', rfl⟩ := w
    rw [tm_as h, hC _ _ hg hi, ← tm_as h, ih w', tm_as h]
theorem tm_Ca {n e k : Nat} {G : Nat → Nat} (h : tm_N n e) (hG : ∀ g, g < k → G g < e) (hC : ∀ i j, i < k → j < k → tm_m n (G i) (G j) = tm_m n (G j) (G i)) {l' N' a : Nat} (wa : tm_W n k G l' N' a) : ∀ {l N c : Nat}, tm_W n k G l N c → tm_m n a c = tm_m n c a := by
  intro l
  induction l with
  | zero =>
    intro N c w
    obtain ⟨_, rfl⟩ := w
    rw [tm_ur h (tm_Wlt h wa), tm_ul h (tm_Wlt h wa)]
  | succ l ih =>
    intro N c w
    obtain ⟨hg, b, w', rfl⟩ := w
    rw [← tm_as h, ih w', tm_as h, tm_Cg h hG hC hg wa, ← tm_as h]
/-! sets: what is reached from a by steps of a kind -/
def tm_S (n k : Nat) (G : Nat → Nat) (d b c : Nat) : Prop := ∃ g, g < k ∧ ((d ≠ 1 ∧ c = tm_m n b (G g)) ∨ (d ≠ 0 ∧ c = tm_m n (G g) b))
def tm_P (n k : Nat) (G : Nat → Nat) (d a : Nat) : Nat → Nat → Prop
  | 0, c => c = a
  | j + 1, c => ∃ b, tm_P n k G d a j b ∧ tm_S n k G d b c
def tm_R (n k : Nat) (G : Nat → Nat) (d a c : Nat) : Prop := ∃ j, tm_P n k G d a j c
theorem tm_Rr {n k : Nat} {G : Nat → Nat} {d a : Nat} : tm_R n k G d a a := ⟨0, rfl⟩
theorem tm_Rs {n k : Nat} {G : Nat → Nat} {d a b c : Nat} (h : tm_R n k G d a b) (hs : tm_S n k G d b c) : tm_R n k G d a c := by
  obtain ⟨j, hj⟩ := h
  exact ⟨j + 1, b, hj, hs⟩
theorem tm_Rmin {n k : Nat} {G : Nat → Nat} {d a : Nat} (Q : Nat → Prop) (h0 : Q a) (hs : ∀ b c, Q b → tm_S n k G d b c → Q c) {c : Nat} (h : tm_R n k G d a c) : Q c := by
  obtain ⟨j, hj⟩ := h
  induction j generalizing c with
  | zero => rw [hj]; exact h0
  | succ j ih =>
    obtain ⟨b, hb, hst⟩ := hj
    exact hs b c (ih hb) hst
theorem tm_Rt {n k : Nat} {G : Nat → Nat} {d a b c : Nat} (h : tm_R n k G d a b) (h' : tm_R n k G d b c) : tm_R n k G d a c :=
  tm_Rmin (fun c => tm_R n k G d a c) h (fun _ _ hb hs => tm_Rs hb hs) h'
theorem tm_Rlt {n e k : Nat} {G : Nat → Nat} (h : tm_N n e) {d a c : Nat} (ha : a < e) (hr : tm_R n k G d a c) : c < e :=
  tm_Rmin (fun c => c < e) ha (fun b c _ hs => by
    obtain ⟨g, _, z | z⟩ := hs
    · rw [z.2]; exact tm_lt h _ _
    · rw [z.2]; exact tm_lt h _ _) hr
theorem tm_RE {n e k : Nat} {G : Nat → Nat} (h : tm_N n e) (hk : k ≤ 4) (hG : ∀ g, g < k → G g < e) {d a c : Nat} (ha : tm_E n k G a) (hr : tm_R n k G d a c) : tm_E n k G c :=
  tm_Rmin (fun c => tm_E n k G c) ha (fun b c hb hs => by
    obtain ⟨g, hg, z | z⟩ := hs
    · rw [z.2]; exact tm_Er hk hb hg
    · rw [z.2]; exact tm_El h hk hG hb hg) hr
noncomputable def tm_Z (n e k : Nat) (G : Nat → Nat) (d a : Nat) : Nat := tm_c (tm_R n k G d a) e
theorem tm_Zle {n e k : Nat} {G : Nat → Nat} {d a : Nat} : tm_Z n e k G d a ≤ e := tm_cle _ _
/-- two sets of members of each other are as large; a member's set as large as the whole is the whole -/
theorem tm_Zeq {n e k : Nat} {G : Nat → Nat} {d a b : Nat} (ha : a < e) (h : tm_R n k G d a b) : tm_Z n e k G d b = tm_Z n e k G d a ↔ tm_R n k G d b a := by
  constructor
  · intro z
    exact tm_ceq (P := tm_R n k G d b) (Q := tm_R n k G d a) (fun c _ hc => tm_Rt h hc) (Nat.le_of_eq z.symm) a ha tm_Rr
  · intro z
    exact tm_ccong e fun c _ => ⟨fun y => tm_Rt h y, fun y => tm_Rt z y⟩
/-! powers -/
def tm_p (n c : Nat) : Nat → Nat
  | 0 => c
  | j + 1 => tm_m n (tm_p n c j) c
theorem tm_pE {n e k : Nat} {G : Nat → Nat} (h : tm_N n e) (hk : k ≤ 4) {c : Nat} (hc : tm_E n k G c) : ∀ j, tm_E n k G (tm_p n c j) := by
  intro j
  induction j with
  | zero => exact hc
  | succ j ih => exact tm_EE h hk ih hc
theorem tm_plt {n e : Nat} (h : tm_N n e) {c : Nat} (hc : c < e) : ∀ j, tm_p n c j < e := by
  intro j
  cases j with
  | zero => exact hc
  | succ j => exact tm_lt h _ _
theorem tm_padd {n e : Nat} (h : tm_N n e) (c i : Nat) : ∀ j, tm_m n (tm_p n c i) (tm_p n c j) = tm_p n c (i + j + 1) := by
  intro j
  induction j with
  | zero => rfl
  | succ j ih =>
    show tm_m n _ (tm_m n (tm_p n c j) c) = tm_m n (tm_p n c (i + j + 1)) c
    rw [← tm_as h, ih]
/-- the same step further on -/
theorem tm_pshift {n c i j : Nat} (h : tm_p n c i = tm_p n c j) : ∀ t, tm_p n c (i + t) = tm_p n c (j + t) := by
  intro t
  induction t with
  | zero => exact h
  | succ t ih =>
    show tm_m n (tm_p n c (i + t)) c = tm_m n (tm_p n c (j + t)) c
    rw [ih]
theorem tm_pmul {n c i q : Nat} (h : tm_p n c (i + q) = tm_p n c i) : ∀ t, tm_p n c (i + t * q) = tm_p n c i := by
  intro t
  induction t with
  | zero => rw [Nat.zero_mul, Nat.add_zero]
  | succ t ih =>
    have := tm_pshift h (t * q)
    rw [show i + (t + 1) * q = i + q + t * q from by rw [Nat.succ_mul]; omega, this, ih]
def tm_q (n : Nat) : Nat := if n = 2 then 2 else 12
theorem tm_t2 : ∀ c, c < 4 → tm_p 2 c (2 + 2) = tm_p 2 c 2 := by decide +kernel
theorem tm_t3 : ∀ c, c < 27 → tm_p 3 c (2 + 12) = tm_p 3 c 2 := by decide +kernel
theorem tm_t4 : ∀ c, c < 256 → tm_p 4 c (2 + 12) = tm_p 4 c 2 := by decide +kernel
theorem tm_per {n e : Nat} (h : tm_N n e) {c : Nat} (hc : c < e) : tm_p n c (2 + tm_q n) = tm_p n c 2 := by
  rcases h with ⟨h, h'⟩ | ⟨h, h'⟩ | ⟨h, h'⟩ <;> subst h h'
  · exact tm_t2 c hc
  · exact tm_t3 c hc
  · exact tm_t4 c hc
/-- power j returns (j counts from 0: c^(j+1)) -/
theorem tm_ret {n e : Nat} (h : tm_N n e) {c : Nat} (hc : c < e) {j m : Nat} (hm : 0 < m) (hr : tm_p n c (j + m) = tm_p n c j) : tm_p n c (j + tm_q n) = tm_p n c j := by
  have h1 := tm_pmul hr 2
  have h2 := tm_pshift h1 (tm_q n)
  have h3 := tm_pshift (tm_per h hc) (j + 2 * m - 2)
  rw [← h2, ← h1]
  rw [show j + 2 * m + tm_q n = 2 + tm_q n + (j + 2 * m - 2) from by omega, h3]
  exact congrArg _ (by omega)
end
