/-! the mathematics: rows of five digits in base 7, parts, tilts, the list of least balances, the two tables of sums -/
/-- a is part of b, over n digits -/
def hb_pt : Nat → Nat → Nat → Bool
  | 0, _, _ => true
  | n + 1, a, b => decide (a % 7 ≤ b % 7) && hb_pt n (a / 7) (b / 7)
/-- the tilt of c over n digits -/
def hb_tl (w : Nat → Int32) : Nat → Nat → Int32
  | 0, _ => 0
  | n + 1, c => w n * nI (c % 7) + hb_tl w n (c / 7)
/-- the sum of n digits -/
def hb_ds : Nat → Nat → Nat
  | 0, _ => 0
  | n + 1, c => c % 7 + hb_ds n (c / 7)
theorem hb_pt_s {n a b : Nat} : hb_pt (n + 1) a b = true ↔ a % 7 ≤ b % 7 ∧ hb_pt n (a / 7) (b / 7) = true := by
  simp [hb_pt]
theorem hb_p7 {a n : Nat} (h : a < 7 ^ (n + 1)) : a / 7 < 7 ^ n := by
  rw [Nat.pow_succ] at h
  omega
theorem hb_sub_dm {a b : Nat} (h1 : a % 7 ≤ b % 7) (h2 : a / 7 ≤ b / 7) : (b - a) % 7 = b % 7 - a % 7 ∧ (b - a) / 7 = b / 7 - a / 7 := by
  constructor <;> omega
theorem hb_pt_le : ∀ n a b : Nat, a < 7 ^ n → hb_pt n a b = true → a ≤ b := by
  intro n
  induction n with
  | zero =>
    intro a b h _
    have : a < 1 := h
    omega
  | succ n ih =>
    intro a b h p
    obtain ⟨p1, p2⟩ := hb_pt_s.mp p
    have := ih _ _ (hb_p7 h) p2
    omega
theorem hb_pt_refl : ∀ n a : Nat, hb_pt n a a = true := by
  intro n
  induction n with
  | zero => intro a; rfl
  | succ n ih => intro a; exact hb_pt_s.mpr ⟨Nat.le_refl _, ih _⟩
theorem hb_pt_trans : ∀ n a b c : Nat, hb_pt n a b = true → hb_pt n b c = true → hb_pt n a c = true := by
  intro n
  induction n with
  | zero => intro a b c _ _; rfl
  | succ n ih =>
    intro a b c p q
    obtain ⟨p1, p2⟩ := hb_pt_s.mp p
    obtain ⟨q1, q2⟩ := hb_pt_s.mp q
    exact hb_pt_s.mpr ⟨Nat.le_trans p1 q1, ih _ _ _ p2 q2⟩
theorem hb_pt_sub : ∀ n a b : Nat, a < 7 ^ n → hb_pt n a b = true → hb_pt n (b - a) b = true := by
  intro n
  induction n with
  | zero => intro a b _ _; rfl
  | succ n ih =>
    intro a b h p
    obtain ⟨p1, p2⟩ := hb_pt_s.mp p
    obtain ⟨e1, e2⟩ := hb_sub_dm p1 (hb_pt_le n _ _ (hb_p7 h) p2)
    refine hb_pt_s.mpr ⟨?_, ?_⟩
    · omega
    · rw [e2]; exact ih _ _ (hb_p7 h) p2
theorem hb_nsub {a b : Nat} (h : b ≤ a) : nI (a - b) = nI a - nI b := by
  obtain ⟨c, rfl⟩ : ∃ c, a = c + b := ⟨a - b, by omega⟩
  rw [← nI_add, Int32.add_sub_cancel, Nat.add_sub_cancel]
theorem hb_ring (x a b p q : Int32) : x * (a - b) + (p - q) = x * a + p - (x * b + q) := by grind
theorem hb_tl_sub (w : Nat → Int32) : ∀ n a b : Nat, a < 7 ^ n → hb_pt n a b = true → hb_tl w n (b - a) = hb_tl w n b - hb_tl w n a := by
  intro n
  induction n with
  | zero => intro a b _ _; exact (Int32.sub_self 0).symm
  | succ n ih =>
    intro a b h p
    obtain ⟨p1, p2⟩ := hb_pt_s.mp p
    obtain ⟨e1, e2⟩ := hb_sub_dm p1 (hb_pt_le n _ _ (hb_p7 h) p2)
    show w n * nI ((b - a) % 7) + hb_tl w n ((b - a) / 7) = (w n * nI (b % 7) + hb_tl w n (b / 7)) - (w n * nI (a % 7) + hb_tl w n (a / 7))
    rw [e1, e2, ih _ _ (hb_p7 h) p2, hb_nsub p1]
    exact hb_ring _ _ _ _ _
theorem hb_ds_sub : ∀ n a b : Nat, a < 7 ^ n → hb_pt n a b = true → hb_ds n (b - a) + hb_ds n a = hb_ds n b := by
  intro n
  induction n with
  | zero => intro a b _ _; rfl
  | succ n ih =>
    intro a b h p
    obtain ⟨p1, p2⟩ := hb_pt_s.mp p
    obtain ⟨e1, e2⟩ := hb_sub_dm p1 (hb_pt_le n _ _ (hb_p7 h) p2)
    have q := ih _ _ (hb_p7 h) p2
    show ((b - a) % 7 + hb_ds n ((b - a) / 7)) + (a % 7 + hb_ds n (a / 7)) = b % 7 + hb_ds n (b / 7)
    rw [e1, e2]
    omega
theorem hb_ds_pos : ∀ n a : Nat, a < 7 ^ n → 0 < a → 0 < hb_ds n a := by
  intro n
  induction n with
  | zero =>
    intro a h h0
    have : a < 1 := h
    omega
  | succ n ih =>
    intro a h h0
    show 0 < a % 7 + hb_ds n (a / 7)
    by_cases z : 0 < a / 7
    · have := ih _ (hb_p7 h) z
      omega
    · omega
theorem hb_ds_le : ∀ n a : Nat, hb_ds n a ≤ 6 * n := by
  intro n
  induction n with
  | zero => intro a; exact Nat.le_refl 0
  | succ n ih =>
    intro a
    show a % 7 + hb_ds n (a / 7) ≤ 6 * (n + 1)
    have := ih (a / 7)
    omega
/-- c is a balance -/
def hb_B (w : Nat → Int32) (c : Nat) : Bool := decide (hb_tl w 5 c = 0)
theorem hb_B_i {w : Nat → Int32} {c : Nat} : hb_B w c = true ↔ hb_tl w 5 c = 0 := decide_eq_true_iff
theorem hb_tl_0 (w : Nat → Int32) : ∀ n : Nat, hb_tl w n 0 = 0 := by
  intro n
  induction n with
  | zero => rfl
  | succ n ih =>
    show w n * nI (0 % 7) + hb_tl w n (0 / 7) = 0
    rw [Nat.zero_mod, Nat.zero_div, ih, nI_0, Int32.mul_zero, Int32.add_zero]
theorem hb_B0 (w : Nat → Int32) : hb_B w 0 = true := hb_B_i.mpr (hb_tl_0 w 5)
theorem hb_75 : 7 ^ 5 = 16807 := by decide
theorem hb_B_sub {w : Nat → Int32} {a b : Nat} (ha : a < 16807) (p : hb_pt 5 a b = true) (h1 : hb_B w a = true) (h2 : hb_B w b = true) : hb_B w (b - a) = true := by
  rw [hb_B_i] at *
  rw [hb_tl_sub w 5 a b (by rw [hb_75]; exact ha) p, h1, h2]
  exact Int32.sub_self 0
/-- some code among g 0 .. g (m-1) is part of c -/
def hb_any (g : Nat → Nat) (c : Nat) : Nat → Bool
  | 0 => false
  | m + 1 => hb_any g c m || hb_pt 5 (g m) c
theorem hb_any_t {g : Nat → Nat} {c : Nat} : ∀ {m : Nat}, hb_any g c m = true ↔ ∃ j, j < m ∧ hb_pt 5 (g j) c = true := by
  intro m
  induction m with
  | zero => exact ⟨fun h => (nomatch h), fun ⟨j, h, _⟩ => absurd h (Nat.not_lt_zero j)⟩
  | succ m ih =>
    show (hb_any g c m || hb_pt 5 (g m) c) = true ↔ _
    rw [Bool.or_eq_true, ih]
    constructor
    · rintro (⟨j, h, p⟩ | p)
      · exact ⟨j, by omega, p⟩
      · exact ⟨m, by omega, p⟩
    · rintro ⟨j, h, p⟩
      by_cases e : j = m
      · subst e; exact Or.inr p
      · exact Or.inl ⟨j, by omega, p⟩
theorem hb_any_f {g : Nat → Nat} {c m : Nat} : hb_any g c m = false ↔ ∀ j, j < m → ¬ hb_pt 5 (g j) c = true := by
  rw [← Bool.not_eq_true, hb_any_t]
  exact ⟨fun h j hj p => h ⟨j, hj, p⟩, fun h ⟨j, hj, p⟩ => h j hj p⟩
/-- one more in a row of codes -/
def hb_put (g : Nat → Nat) (m c : Nat) : Nat → Nat := fun j => if j = m then c else g j
theorem hb_put_s {g : Nat → Nat} {m c : Nat} : hb_put g m c m = c := if_pos rfl
theorem hb_put_n {g : Nat → Nat} {m c j : Nat} (h : j ≠ m) : hb_put g m c j = g j := if_neg h
/-- the balances below n: how many, and which -/
def hb_E (w : Nat → Int32) : Nat → Nat × (Nat → Nat)
  | 0 => (0, fun _ => 0)
  | n + 1 => if hb_B w n = true then ((hb_E w n).1 + 1, hb_put (hb_E w n).2 (hb_E w n).1 n) else hb_E w n
/-- the least balances below n: how many, and which -/
def hb_S (w : Nat → Int32) : Nat → Nat × (Nat → Nat)
  | 0 => (0, fun _ => 0)
  | n + 1 => if n ≠ 0 ∧ hb_B w n = true ∧ hb_any (hb_S w n).2 n (hb_S w n).1 = false then ((hb_S w n).1 + 1, hb_put (hb_S w n).2 (hb_S w n).1 n) else hb_S w n
theorem hb_E_t {w : Nat → Int32} {n : Nat} (h : hb_B w n = true) : hb_E w (n + 1) = ((hb_E w n).1 + 1, hb_put (hb_E w n).2 (hb_E w n).1 n) := if_pos h
theorem hb_E_f {w : Nat → Int32} {n : Nat} (h : ¬ hb_B w n = true) : hb_E w (n + 1) = hb_E w n := if_neg h
theorem hb_S_t {w : Nat → Int32} {n : Nat} (h0 : n ≠ 0) (h1 : hb_B w n = true) (h2 : hb_any (hb_S w n).2 n (hb_S w n).1 = false) : hb_S w (n + 1) = ((hb_S w n).1 + 1, hb_put (hb_S w n).2 (hb_S w n).1 n) := if_pos ⟨h0, h1, h2⟩
theorem hb_S_f {w : Nat → Int32} {n : Nat} (h : ¬ (n ≠ 0 ∧ hb_B w n = true ∧ hb_any (hb_S w n).2 n (hb_S w n).1 = false)) : hb_S w (n + 1) = hb_S w n := if_neg h
/-- what the row of balances is -/
def hb_EI (w : Nat → Int32) (n m : Nat) (g : Nat → Nat) : Prop :=
  m ≤ n ∧ (∀ j, j < m → g j < n ∧ hb_B w (g j) = true) ∧ (∀ i j, i < j → j < m → g i < g j) ∧ (∀ c, c < n → hb_B w c = true → ∃ j, j < m ∧ g j = c)
theorem hb_E_i (w : Nat → Int32) : ∀ n : Nat, hb_EI w n (hb_E w n).1 (hb_E w n).2 := by
  intro n
  induction n with
  | zero => exact ⟨Nat.le_refl 0, fun j h => absurd h (Nat.not_lt_zero j), fun i j _ h => absurd h (Nat.not_lt_zero j), fun c h => absurd h (Nat.not_lt_zero c)⟩
  | succ n ih =>
    by_cases hB : hb_B w n = true
    · rw [hb_E_t hB]
      generalize hb_E w n = s at ih ⊢
      obtain ⟨m, g⟩ := s
      obtain ⟨a1, a2, a3, a4⟩ := ih
      dsimp only at *
      refine ⟨by omega, ?_, ?_, ?_⟩
      · intro j hj
        by_cases e : j = m
        · subst e; rw [hb_put_s]; exact ⟨by omega, hB⟩
        · rw [hb_put_n e]
          have := a2 j (by omega)
          exact ⟨by omega, this.2⟩
      · intro i j hij hj
        rw [hb_put_n (show i ≠ m by omega)]
        by_cases e : j = m
        · subst e; rw [hb_put_s]; exact (a2 i hij).1
        · rw [hb_put_n e]; exact a3 i j hij (by omega)
      · intro c hc hb
        by_cases e : c = n
        · subst e; exact ⟨m, by omega, hb_put_s⟩
        · obtain ⟨j, hj, ej⟩ := a4 c (by omega) hb
          exact ⟨j, by omega, by rw [hb_put_n (show j ≠ m by omega)]; exact ej⟩
    · rw [hb_E_f hB]
      generalize hb_E w n = s at ih ⊢
      obtain ⟨m, g⟩ := s
      obtain ⟨a1, a2, a3, a4⟩ := ih
      dsimp only at *
      refine ⟨by omega, ?_, a3, ?_⟩
      · intro j hj
        have := a2 j hj
        exact ⟨by omega, this.2⟩
      · intro c hc hb
        by_cases e : c = n
        · subst e; exact absurd hb hB
        · exact a4 c (by omega) hb
/-- what the row of least balances is -/
def hb_SI (w : Nat → Int32) (n m : Nat) (g : Nat → Nat) : Prop :=
  (∀ j, j < m → 0 < g j ∧ g j < n ∧ hb_B w (g j) = true) ∧ (∀ i j, i < j → j < m → g i < g j ∧ ¬ hb_pt 5 (g i) (g j) = true) ∧ (∀ c, 0 < c → c < n → hb_B w c = true → ∃ j, j < m ∧ hb_pt 5 (g j) c = true)
theorem hb_S_i (w : Nat → Int32) : ∀ n : Nat, hb_SI w n (hb_S w n).1 (hb_S w n).2 := by
  intro n
  induction n with
  | zero => exact ⟨fun j h => absurd h (Nat.not_lt_zero j), fun i j _ h => absurd h (Nat.not_lt_zero j), fun c _ h => absurd h (Nat.not_lt_zero c)⟩
  | succ n ih =>
    by_cases hB : n ≠ 0 ∧ hb_B w n = true ∧ hb_any (hb_S w n).2 n (hb_S w n).1 = false
    · rw [hb_S_t hB.1 hB.2.1 hB.2.2]
      generalize hb_S w n = s at ih hB ⊢
      obtain ⟨m, g⟩ := s
      obtain ⟨a2, a3, a4⟩ := ih
      obtain ⟨h0, h1, h2⟩ := hB
      dsimp only at *
      rw [hb_any_f] at h2
      refine ⟨?_, ?_, ?_⟩
      · intro j hj
        by_cases e : j = m
        · subst e; rw [hb_put_s]; exact ⟨by omega, by omega, h1⟩
        · rw [hb_put_n e]
          have := a2 j (by omega)
          exact ⟨this.1, by omega, this.2.2⟩
      · intro i j hij hj
        rw [hb_put_n (show i ≠ m by omega)]
        by_cases e : j = m
        · subst e; rw [hb_put_s]; exact ⟨(a2 i hij).2.1, h2 i hij⟩
        · rw [hb_put_n e]; exact a3 i j hij (by omega)
      · intro c hc0 hc hb
        by_cases e : c = n
        · subst e; exact ⟨m, by omega, by rw [hb_put_s]; exact hb_pt_refl 5 _⟩
        · obtain ⟨j, hj, ej⟩ := a4 c hc0 (by omega) hb
          exact ⟨j, by omega, by rw [hb_put_n (show j ≠ m by omega)]; exact ej⟩
    · rw [hb_S_f hB]
      generalize hb_S w n = s at ih hB ⊢
      obtain ⟨m, g⟩ := s
      obtain ⟨a2, a3, a4⟩ := ih
      dsimp only at *
      refine ⟨?_, a3, ?_⟩
      · intro j hj
        have := a2 j hj
        exact ⟨this.1, by omega, this.2.2⟩
      · intro c hc0 hc hb
        by_cases e : c = n
        · subst e
          by_cases z : hb_any g c m = true
          · exact hb_any_t.mp z
          · exact absurd ⟨by omega, hb, by rw [← Bool.not_eq_true]; exact z⟩ hB
        · exact a4 c hc0 (by omega) hb
theorem hb_S_gap {w : Nat → Int32} {p : Nat} : ∀ d : Nat, (∀ c, p ≤ c → c < p + d → hb_B w c = false) → hb_S w (p + d) = hb_S w p := by
  intro d
  induction d with
  | zero => intro _; rfl
  | succ d ih =>
    intro h
    have e : hb_S w (p + d + 1) = hb_S w (p + d) := hb_S_f (fun z => by
      have := h (p + d) (by omega) (by omega)
      rw [this] at z
      exact absurd z.2.1 (by decide))
    show hb_S w (p + d + 1) = _
    rw [e]
    exact ih (fun c h1 h2 => h c h1 (by omega))
