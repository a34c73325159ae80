/-! words: the number of a word is a one, then its letters to base 4 -/
def tm_W (n k : Nat) (G : Nat → Nat) : Nat → Nat → Nat → Prop
  | 0, N, c => N = 1 ∧ c = tm_u n
  | l + 1, N, c => N % 4 < k ∧ ∃ b, tm_W n k G l (N / 4) b ∧ tm_m n b (G (N % 4)) = c
def tm_E (n k : Nat) (G : Nat → Nat) (c : Nat) : Prop := ∃ l N, tm_W n k G l N c
def tm_B (n k : Nat) (G : Nat → Nat) (c l N : Nat) : Prop := tm_W n k G l N c ∧ ∀ l' N', tm_W n k G l' N' c → N ≤ N'
theorem tm_Wlt {n e k : Nat} {G : Nat → Nat} (h : tm_N n e) : ∀ {l N c : Nat}, tm_W n k G l N c → c < e := by
  intro l N c w
  cases l with
  | zero => obtain ⟨_, rfl⟩ := w; exact tm_ult h
  | succ l => obtain ⟨_, b, _, rfl⟩ := w; exact tm_lt h _ _
theorem tm_Wr {n k : Nat} {G : Nat → Nat} : ∀ {l N c : Nat}, tm_W n k G l N c → 4 ^ l ≤ N ∧ N < 2 * 4 ^ l := by
  intro l
  induction l with
  | zero => intro N c w; obtain ⟨rfl, _⟩ := w; decide
  | succ l ih =>
    intro N c w
    obtain ⟨_, b, w', _⟩ := w
    have := ih w'
    rw [Nat.pow_succ]
    omega
theorem tm_pw {a b : Nat} (h : a ≤ b) : 4 ^ a ≤ 4 ^ b := Nat.pow_le_pow_right (by decide) h
theorem tm_Wl {n k : Nat} {G : Nat → Nat} {l N c l' N' c' : Nat} (w : tm_W n k G l N c) (w' : tm_W n k G l' N' c') (h : N ≤ N') : l ≤ l' := by
  by_cases hl : l ≤ l'
  · exact hl
  · have h1 := tm_Wr w
    have h2 := tm_Wr w'
    have h3 : 4 ^ (l' + 1) ≤ 4 ^ l := tm_pw (by omega)
    rw [Nat.pow_succ] at h3
    omega
theorem tm_Wc {n k : Nat} {G : Nat → Nat} {l N b g : Nat} (w : tm_W n k G l N b) (hg : g < k) (hk : k ≤ 4) : tm_W n k G (l + 1) (4 * N + g) (tm_m n b (G g)) := by
  have e1 : (4 * N + g) % 4 = g := by omega
  have e2 : (4 * N + g) / 4 = N := by omega
  refine ⟨by rw [e1]; exact hg, b, ?_, ?_⟩
  · rw [e2]; exact w
  · rw [e1]
theorem tm_Bex {n k : Nat} {G : Nat → Nat} {c : Nat} (h : tm_E n k G c) : ∃ l N, tm_B n k G c l N := by
  obtain ⟨l, N, w⟩ := h
  obtain ⟨N0, ⟨l0, w0⟩, hm⟩ := pk_least (fun N => ∃ l, tm_W n k G l N c) ⟨N, l, w⟩
  exact ⟨l0, N0, w0, fun l' N' w' => by
    by_cases z : N0 ≤ N'
    · exact z
    · exact absurd ⟨l', w'⟩ (hm N' (by omega))⟩
theorem tm_BE {n k : Nat} {G : Nat → Nat} {c l N : Nat} (h : tm_B n k G c l N) : tm_E n k G c := ⟨l, N, h.1⟩
theorem tm_Bu {n k : Nat} {G : Nat → Nat} {c l N l' N' : Nat} (h : tm_B n k G c l N) (h' : tm_B n k G c l' N') : l = l' ∧ N = N' := by
  have h1 := h.2 _ _ h'.1
  have h2 := h'.2 _ _ h.1
  have h3 := tm_Wl h.1 h'.1 h1
  have h4 := tm_Wl h'.1 h.1 h2
  omega
theorem tm_Bp {n k : Nat} {G : Nat → Nat} (hk : k ≤ 4) {c l N : Nat} (h : tm_B n k G c (l + 1) N) : ∃ b, tm_B n k G b l (N / 4) ∧ N % 4 < k ∧ tm_m n b (G (N % 4)) = c := by
  obtain ⟨⟨hg, b, w, hb⟩, hm⟩ := h
  refine ⟨b, ⟨w, fun l' N' w' => ?_⟩, hg, hb⟩
  have h1 := tm_Wc w' hg hk
  rw [hb] at h1
  have h2 := hm _ _ h1
  omega
theorem tm_Eu {n k : Nat} {G : Nat → Nat} : tm_E n k G (tm_u n) := ⟨0, 1, rfl, rfl⟩
theorem tm_Wpos {n k : Nat} {G : Nat → Nat} {l N c : Nat} (w : tm_W n k G l N c) : 1 ≤ N := by
  have := tm_Wr w
  have : 0 < 4 ^ l := Nat.pow_pos (by decide)
  omega
theorem tm_B0 {n k : Nat} {G : Nat → Nat} : tm_B n k G (tm_u n) 0 1 := ⟨⟨rfl, rfl⟩, fun _ _ w => tm_Wpos w⟩
theorem tm_Er {n k : Nat} {G : Nat → Nat} {c g : Nat} (hk : k ≤ 4) (h : tm_E n k G c) (hg : g < k) : tm_E n k G (tm_m n c (G g)) := by
  obtain ⟨l, N, w⟩ := h
  exact ⟨_, _, tm_Wc w hg hk⟩
theorem tm_Eg {n e k : Nat} {G : Nat → Nat} (h : tm_N n e) (hk : k ≤ 4) (hG : ∀ g, g < k → G g < e) {g : Nat} (hg : g < k) : tm_E n k G (G g) := by
  have := tm_Er hk (tm_Eu (n := n) (k := k) (G := G)) hg
  rwa [tm_ul h (hG g hg)] at this
theorem tm_Em {n e k : Nat} {G : Nat → Nat} (h : tm_N n e) (hk : k ≤ 4) {a : Nat} (ha : a < e) (hA : tm_E n k G a) : ∀ {l N c : Nat}, tm_W n k G l N c → tm_E n k G (tm_m n a c) := by
  intro l
  induction l with
  | zero =>
    intro N c w
    obtain ⟨_, rfl⟩ := w
    rw [tm_ur h ha]
    exact hA
  | succ l ih =>
    intro N c w
    obtain ⟨hg, b, w', rfl⟩ := w
    rw [← tm_as h]
    exact tm_Er hk (ih w') hg
theorem tm_EE {n e k : Nat} {G : Nat → Nat} (h : tm_N n e) (hk : k ≤ 4) {a c : Nat} (hA : tm_E n k G a) (hC : tm_E n k G c) : tm_E n k G (tm_m n a c) := by
  obtain ⟨l, N, w⟩ := hC
  obtain ⟨l', N', w'⟩ := hA
  exact tm_Em h hk (tm_Wlt h w') ⟨l', N', w'⟩ w
theorem tm_El {n e k : Nat} {G : Nat → Nat} (h : tm_N n e) (hk : k ≤ 4) (hG : ∀ g, g < k → G g < e) {c g : Nat} (hc : tm_E n k G c) (hg : g < k) : tm_E n k G (tm_m n (G g) c) := tm_EE h hk (tm_Eg h hk hG hg) hc
theorem tm_Elt {n e k : Nat} {G : Nat → Nat} (h : tm_N n e) {c : Nat} (hc : tm_E n k G c) : c < e := by
  obtain ⟨l, N, w⟩ := hc
  exact tm_Wlt h w
/-! commuting -/
theorem tm_Cg {n e k : Nat} {G : Nat → Nat} (h : tm_N n e) (hG : ∀ g, g < k → G g < e) (hC : ∀ i j, i < k → j < k → tm_m n (G i) (G j) = tm_m n (G j) (G i)) {i : Nat} (hi : i < k) : ∀ {l N c : Nat}, tm_W n k G l N c → tm_m n c (G i) = tm_m n (G i) c := by
  intro l
  induction l with
  | zero =>
    intro N c w
    obtain ⟨_, rfl⟩ := w
    rw [tm_ul h (hG i hi), tm_ur h (hG i hi)]
  | succ l ih =>
    intro N c w
    obtain ⟨hg, b, w', rfl⟩ := w
    rw [tm_as h, hC _ _ hg hi, ← tm_as h, ih w', tm_as h]
theorem tm_Ca {n e k : Nat} {G : Nat → Nat} (h : tm_N n e) (hG : ∀ g, g < k → G g < e) (hC : ∀ i j, i < k → j < k → tm_m n (G i) (G j) = tm_m n (G j) (G i)) {l' N' a : Nat} (wa : tm_W n k G l' N' a) : ∀ {l N c : Nat}, tm_W n k G l N c → tm_m n a c = tm_m n c a := by
  intro l
  induction l with
  | zero =>
    intro N c w
    obtain ⟨_, rfl⟩ := w
    rw [tm_ur h (tm_Wlt h wa), tm_ul h (tm_Wlt h wa)]
  | succ l ih =>
    intro N c w
    obtain ⟨hg, b, w', rfl⟩ := w
    rw [← tm_as h, ih w', tm_as h, tm_Cg h hG hC hg wa, ← tm_as h]
/-! sets: what is reached from a by steps of a kind -/
def tm_S (n k : Nat) (G : Nat → Nat) (d b c : Nat) : Prop := ∃ g, g < k ∧ ((d ≠ 1 ∧ c = tm_m n b (G g)) ∨ (d ≠ 0 ∧ c = tm_m n (G g) b))
def tm_P (n k : Nat) (G : Nat → Nat) (d a : Nat) : Nat → Nat → Prop
  | 0, c => c = a
  | j + 1, c => ∃ b, tm_P n k G d a j b ∧ tm_S n k G d b c
def tm_R (n k : Nat) (G : Nat → Nat) (d a c : Nat) : Prop := ∃ j, tm_P n k G d a j c
theorem tm_Rr {n k : Nat} {G : Nat → Nat} {d a : Nat} : tm_R n k G d a a := ⟨0, rfl⟩
theorem tm_Rs {n k : Nat} {G : Nat → Nat} {d a b c : Nat} (h : tm_R n k G d a b) (hs : tm_S n k G d b c) : tm_R n k G d a c := by
  obtain ⟨j, hj⟩ := h
  exact ⟨j + 1, b, hj, hs⟩
theorem tm_Rmin {n k : Nat} {G : Nat → Nat} {d a : Nat} (Q : Nat → Prop) (h0 : Q a) (hs : ∀ b c, Q b → tm_S n k G d b c → Q c) {c : Nat} (h : tm_R n k G d a c) : Q c := by
  obtain ⟨j, hj⟩ := h
  induction j generalizing c with
  | zero => rw [hj]; exact h0
  | succ j ih =>
    obtain ⟨b, hb, hst⟩ := hj
    exact hs b c (ih hb) hst
theorem tm_Rt {n k : Nat} {G : Nat → Nat} {d a b c : Nat} (h : tm_R n k G d a b) (h' : tm_R n k G d b c) : tm_R n k G d a c :=
  tm_Rmin (fun c => tm_R n k G d a c) h (fun _ _ hb hs => tm_Rs hb hs) h'
theorem tm_Rlt {n e k : Nat} {G : Nat → Nat} (h : tm_N n e) {d a c : Nat} (ha : a < e) (hr : tm_R n k G d a c) : c < e :=
  tm_Rmin (fun c => c < e) ha (fun b c _ hs => by
    obtain ⟨g, _, z | z⟩ := hs
    · rw [z.2]; exact tm_lt h _ _
    · rw [z.2]; exact tm_lt h _ _) hr
theorem tm_RE {n e k : Nat} {G : Nat → Nat} (h : tm_N n e) (hk : k ≤ 4) (hG : ∀ g, g < k → G g < e) {d a c : Nat} (ha : tm_E n k G a) (hr : tm_R n k G d a c) : tm_E n k G c :=
  tm_Rmin (fun c => tm_E n k G c) ha (fun b c hb hs => by
    obtain ⟨g, hg, z | z⟩ := hs
    · rw [z.2]; exact tm_Er hk hb hg
    · rw [z.2]; exact tm_El h hk hG hb hg) hr
noncomputable def tm_Z (n e k : Nat) (G : Nat → Nat) (d a : Nat) : Nat := tm_c (tm_R n k G d a) e
theorem tm_Zle {n e k : Nat} {G : Nat → Nat} {d a : Nat} : tm_Z n e k G d a ≤ e := tm_cle _ _
/-- two sets of members of each other are as large; a member's set as large as the whole is the whole -/
theorem tm_Zeq {n e k : Nat} {G : Nat → Nat} {d a b : Nat} (ha : a < e) (h : tm_R n k G d a b) : tm_Z n e k G d b = tm_Z n e k G d a ↔ tm_R n k G d b a := by
  constructor
  · intro z
    exact tm_ceq (P := tm_R n k G d b) (Q := tm_R n k G d a) (fun c _ hc => tm_Rt h hc) (Nat.le_of_eq z.symm) a ha tm_Rr
  · intro z
    exact tm_ccong e fun c _ => ⟨fun y => tm_Rt h y, fun y => tm_Rt z y⟩
/-! powers -/
def tm_p (n c : Nat) : Nat → Nat
  | 0 => c
  | j + 1 => tm_m n (tm_p n c j) c
theorem tm_pE {n e k : Nat} {G : Nat → Nat} (h : tm_N n e) (hk : k ≤ 4) {c : Nat} (hc : tm_E n k G c) : ∀ j, tm_E n k G (tm_p n c j) := by
  intro j
  induction j with
  | zero => exact hc
  | succ j ih => exact tm_EE h hk ih hc
theorem tm_plt {n e : Nat} (h : tm_N n e) {c : Nat} (hc : c < e) : ∀ j, tm_p n c j < e := by
  intro j
  cases j with
  | zero => exact hc
  | succ j => exact tm_lt h _ _
theorem tm_padd {n e : Nat} (h : tm_N n e) (c i : Nat) : ∀ j, tm_m n (tm_p n c i) (tm_p n c j) = tm_p n c (i + j + 1) := by
  intro j
  induction j with
  | zero => rfl
  | succ j ih =>
    show tm_m n _ (tm_m n (tm_p n c j) c) = tm_m n (tm_p n c (i + j + 1)) c
    rw [← tm_as h, ih]
/-- the same step further on -/
theorem tm_pshift {n c i j : Nat} (h : tm_p n c i = tm_p n c j) : ∀ t, tm_p n c (i + t) = tm_p n c (j + t) := by
  intro t
  induction t with
  | zero => exact h
  | succ t ih =>
    show tm_m n (tm_p n c (i + t)) c = tm_m n (tm_p n c (j + t)) c
    rw [ih]
theorem tm_pmul {n c i q : Nat} (h : tm_p n c (i + q) = tm_p n c i) : ∀ t, tm_p n c (i + t * q) = tm_p n c i := by
  intro t
  induction t with
  | zero => rw [Nat.zero_mul, Nat.add_zero]
  | succ t ih =>
    have := tm_pshift h (t * q)
    rw [show i + (t + 1) * q = i + q + t * q from by rw [Nat.succ_mul]; omega, this, ih]
def tm_q (n : Nat) : Nat := if n = 2 then 2 else 12
theorem tm_t2 : ∀ c, c < 4 → tm_p 2 c (2 + 2) = tm_p 2 c 2 := by decide +kernel
theorem tm_t3 : ∀ c, c < 27 → tm_p 3 c (2 + 12) = tm_p 3 c 2 := by decide +kernel
theorem tm_t4 : ∀ c, c < 256 → tm_p 4 c (2 + 12) = tm_p 4 c 2 := by decide +kernel
theorem tm_per {n e : Nat} (h : tm_N n e) {c : Nat} (hc : c < e) : tm_p n c (2 + tm_q n) = tm_p n c 2 := by
  rcases h with ⟨h, h'⟩ | ⟨h, h'⟩ | ⟨h, h'⟩ <;> subst h h'
  · exact tm_t2 c hc
  · exact tm_t3 c hc
  · exact tm_t4 c hc
/-- power j returns (j counts from 0: c^(j+1)) -/
theorem tm_ret {n e : Nat} (h : tm_N n e) {c : Nat} (hc : c < e) {j m : Nat} (hm : 0 < m) (hr : tm_p n c (j + m) = tm_p n c j) : tm_p n c (j + tm_q n) = tm_p n c j := by
  have h1 := tm_pmul hr 2
  have h2 := tm_pshift h1 (tm_q n)
  have h3 := tm_pshift (tm_per h hc) (j + 2 * m - 2)
  rw [← h2, ← h1]
  rw [show j + 2 * m + tm_q n = 2 + tm_q n + (j + 2 * m - 2) from by omega, h3]
  exact congrArg _ (by omega)
