/-! the permutations of four points: products of three of them are products of at most seven -/
def tq_PL (i : Nat) : Nat := (5612175574884009239593765198980828372430732486465160683035 >>> (8 * i)) % 256
def tq_rows : List Nat := [984818244535754528103549039458486304, 727548310346908890193318370647117825, 899228972693802420046595671804903522, 470278375838750734089249303281407043, 641959038185644263942526604439192740, 384689103996798626032295935627824261, 944494360608982600091689407077458150, 687224426420136962181458738266089671, 813516858823811984161462297925228840, 213008441330478172133867088857345289, 556246924315653828057393230559518058, 127419169488526064076913721203762507, 858782246738992164206556033197783468, 429954491911864400226076523842027917, 773192974897040056149602665544200686, 172684557403706244122007456476317135, 298976989807381266102011016135456304, 41707055618535628191780347324087825, 601512312230719602251173818773721714, 344242378041873964340943149962353235, 515923040388767494194220451120138932, 86972443533715808236874082596642453, 258653105880609338090151383754428150, 1383171691763700179920714943059671]
def tq_row (j : Nat) : Nat := tq_rows.getD j 0
def tq_mt (r i : Nat) : Nat := (r >>> (5 * i)) % 32
def tq_sp (r1 r2 r3 B : Nat) : Nat → Nat
  | 0 => 0
  | i + 1 => tq_sp r1 r2 r3 B i ||| ((B >>> i) % 2 * (2 ^ tq_mt r1 i ||| 2 ^ tq_mt r2 i ||| 2 ^ tq_mt r3 i))
def tq_bl (r1 r2 r3 : Nat) : Nat → Nat
  | 0 => 1
  | t + 1 => tq_bl r1 r2 r3 t ||| tq_sp r1 r2 r3 (tq_bl r1 r2 r3 t) 24
def tq_ck (r1 r2 r3 : Nat) : Bool := tq_bl r1 r2 r3 8 == tq_bl r1 r2 r3 7
def tq_c3 (r1 r2 : Nat) : List Nat → Bool
  | [] => true
  | r3 :: L => tq_ck r1 r2 r3 && tq_c3 r1 r2 L
def tq_c2 (r1 : Nat) : List Nat → Bool
  | [] => true
  | r2 :: L => tq_c3 r1 r2 (r2 :: L) && tq_c2 r1 L
def tq_c1 : List Nat → Bool
  | [] => true
  | r1 :: L => tq_c2 r1 (r1 :: L) && tq_c1 L
set_option maxRecDepth 100000 in
theorem tq_k : tq_c1 tq_rows = true := by decide +kernel
theorem tq_c3e {r1 r2 : Nat} : ∀ L : List Nat, tq_c3 r1 r2 L = true → ∀ m, m < L.length → tq_ck r1 r2 (L.getD m 0) = true := by
  intro L
  induction L with
  | nil => intro _ m hm; exact absurd hm (Nat.not_lt_zero m)
  | cons r L ih =>
    intro h m hm
    have h' : (tq_ck r1 r2 r && tq_c3 r1 r2 L) = true := h
    rw [Bool.and_eq_true] at h'
    cases m with
    | zero => exact h'.1
    | succ m => exact ih h'.2 m (Nat.lt_of_succ_lt_succ hm)
theorem tq_c2e {r1 : Nat} : ∀ L : List Nat, tq_c2 r1 L = true → ∀ j m, j ≤ m → m < L.length → tq_ck r1 (L.getD j 0) (L.getD m 0) = true := by
  intro L
  induction L with
  | nil => intro _ j m _ hm; exact absurd hm (Nat.not_lt_zero m)
  | cons r L ih =>
    intro h j m hj hm
    have h' : (tq_c3 r1 r (r :: L) && tq_c2 r1 L) = true := h
    rw [Bool.and_eq_true] at h'
    cases j with
    | zero => exact tq_c3e (r :: L) h'.1 m hm
    | succ j =>
      cases m with
      | zero => omega
      | succ m => exact ih h'.2 j m (by omega) (Nat.lt_of_succ_lt_succ hm)
theorem tq_c1e : ∀ L : List Nat, tq_c1 L = true → ∀ i j m, i ≤ j → j ≤ m → m < L.length → tq_ck (L.getD i 0) (L.getD j 0) (L.getD m 0) = true := by
  intro L
  induction L with
  | nil => intro _ i j m _ _ hm; exact absurd hm (Nat.not_lt_zero m)
  | cons r L ih =>
    intro h i j m hi hj hm
    have h' : (tq_c2 r (r :: L) && tq_c1 L) = true := h
    rw [Bool.and_eq_true] at h'
    cases i with
    | zero => exact tq_c2e (r :: L) h'.1 j m hj hm
    | succ i =>
      cases j with
      | zero => omega
      | succ j =>
        cases m with
        | zero => omega
        | succ m => exact ih h'.2 i j m (by omega) (by omega) (Nat.lt_of_succ_lt_succ hm)
theorem tq_cl {i j m : Nat} (hi : i ≤ j) (hj : j ≤ m) (hm : m < 24) : tq_bl (tq_row i) (tq_row j) (tq_row m) 8 = tq_bl (tq_row i) (tq_row j) (tq_row m) 7 := by
  have t := tq_c1e tq_rows tq_k i j m hi hj hm
  exact eq_of_beq t
theorem tq_mtt : ∀ j, j < 24 → ∀ i, i < 24 → tq_mt (tq_row j) i < 24 ∧ tq_PL (tq_mt (tq_row j) i) = tm_m 4 (tq_PL i) (tq_PL j) := by decide +kernel
theorem tq_PLlt : ∀ i, i < 24 → tq_PL i < 256 := by decide +kernel
theorem tq_PL0 : tq_PL 0 = tm_u 4 := by decide +kernel
def tq_ip (a : Nat) : Nat → Nat
  | 0 => 0
  | i + 1 => if tq_PL i = a then i else tq_ip a i
theorem tq_ipt : ∀ a, a < 256 → (tq_in a 0 && tq_in a 1 && tq_in a 2 && tq_in a 3) = true → tq_ip a 24 < 24 ∧ tq_PL (tq_ip a 24) = a := by decide +kernel
theorem tq_tb {B i : Nat} : (B.testBit i = true ∧ (B >>> i) % 2 = 1) ∨ (B.testBit i = false ∧ (B >>> i) % 2 = 0) := by
  rw [Nat.testBit_eq_decide_div_mod_eq, Nat.shiftRight_eq_div_pow]
  by_cases h : B / 2 ^ i % 2 = 1
  · exact Or.inl ⟨decide_eq_true h, h⟩
  · exact Or.inr ⟨decide_eq_false h, by omega⟩
theorem tq_spb {r1 r2 r3 B j : Nat} : ∀ i, (tq_sp r1 r2 r3 B i).testBit j = true ↔ ∃ x, x < i ∧ B.testBit x = true ∧ (tq_mt r1 x = j ∨ tq_mt r2 x = j ∨ tq_mt r3 x = j) := by
  intro i
  induction i with
  | zero =>
    show (0 : Nat).testBit j = true ↔ _
    rw [Nat.zero_testBit]
    exact ⟨fun h => absurd h (by decide), fun ⟨x, hx, _⟩ => absurd hx (Nat.not_lt_zero x)⟩
  | succ i ih =>
    show (tq_sp r1 r2 r3 B i ||| ((B >>> i) % 2 * (2 ^ tq_mt r1 i ||| 2 ^ tq_mt r2 i ||| 2 ^ tq_mt r3 i))).testBit j = true ↔ _
    rw [Nat.testBit_or, Bool.or_eq_true, ih]
    rcases tq_tb (B := B) (i := i) with ⟨h1, h2⟩ | ⟨h1, h2⟩
    · rw [h2, Nat.one_mul, Nat.testBit_or, Nat.testBit_or, Nat.testBit_two_pow, Nat.testBit_two_pow, Nat.testBit_two_pow, Bool.or_eq_true, Bool.or_eq_true, decide_eq_true_iff, decide_eq_true_iff, decide_eq_true_iff]
      constructor
      · intro h
        rcases h with ⟨x, hx, h3⟩ | h
        · exact ⟨x, by omega, h3⟩
        · refine ⟨i, by omega, h1, ?_⟩
          rcases h with (h | h) | h
          · exact Or.inl h
          · exact Or.inr (Or.inl h)
          · exact Or.inr (Or.inr h)
      · rintro ⟨x, hx, h3, h4⟩
        by_cases y : x = i
        · subst y
          right
          rcases h4 with h | h | h
          · exact Or.inl (Or.inl h)
          · exact Or.inl (Or.inr h)
          · exact Or.inr h
        · exact Or.inl ⟨x, by omega, h3, h4⟩
    · rw [h2, Nat.zero_mul, Nat.zero_testBit]
      constructor
      · intro h
        rcases h with ⟨x, hx, h3⟩ | h
        · exact ⟨x, by omega, h3⟩
        · exact absurd h (by decide)
      · rintro ⟨x, hx, h3, h4⟩
        refine Or.inl ⟨x, ?_, h3, h4⟩
        by_cases y : x = i
        · subst y; rw [h1] at h3; exact absurd h3 (by decide)
        · omega
theorem tq_blb {r1 r2 r3 t j : Nat} : (tq_bl r1 r2 r3 (t + 1)).testBit j = true ↔ (tq_bl r1 r2 r3 t).testBit j = true ∨ ∃ x, x < 24 ∧ (tq_bl r1 r2 r3 t).testBit x = true ∧ (tq_mt r1 x = j ∨ tq_mt r2 x = j ∨ tq_mt r3 x = j) := by
  show (tq_bl r1 r2 r3 t ||| tq_sp r1 r2 r3 (tq_bl r1 r2 r3 t) 24).testBit j = true ↔ _
  rw [Nat.testBit_or, Bool.or_eq_true, tq_spb]
