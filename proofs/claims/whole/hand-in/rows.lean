section
/-! the mathematics: rows of five digits in base 7, parts, tilts, the list of least balances, the two tables of sums -/
/-- a is part of b, over n digits -/
def hb_pt : Nat → Nat → Nat → Bool
  | 0, _, _ => true
  | n + 1, a, b => decide (a % 7 ≤ b % 7) && hb_pt n (a / 7) (b / 7)
/-- the tilt of c over n digits -/
def hb_tl (w : Nat → Int32) : Nat → Nat → Int32
  | 0, _ => 0
  | n + 1, c => w n * nI (c % 7) + hb_tl w n (c / 7)
/-- the sum of n digits -/
def hb_ds : Nat → Nat → Nat
  | 0, _ => 0
  | n + 1, c => c % 7 + hb_ds n (c / 7)
theorem hb_pt_s {n a b : Nat} : hb_pt (n + 1) a b = true ↔ a % 7 ≤ b % 7 ∧ hb_pt n (a / 7) (b / 7) = true := by
  simp [hb_pt]
theorem hb_p7 {a n : Nat} (h : a < 7 ^ (n + 1)) : a / 7 < 7 ^ n := by
  rw [Nat.pow_succ] at h
  omega
theorem hb_sub_dm {a b : Nat} (h1 : a % 7 ≤ b % 7) (h2 : a / 7 ≤ b / 7) : (b - a) % 7 = b % 7 - a % 7 ∧ (b - a) / 7 = b / 7 - a / 7 := by
  constructor <;> omega
theorem hb_pt_le : ∀ n a b : Nat, a < 7 ^ n → hb_pt n a b = true → a ≤ b := by
  intro n
  induction n with
  | zero =>
    intro a b h _
    have : a < 1 := h
    omega
  | succ n ih =>
    intro a b h p
    obtain ⟨p1, p2⟩ := hb_pt_s.mp p
    have := ih _ _ (hb_p7 h) p2
    omega
theorem hb_pt_refl : ∀ n a : Nat, hb_pt n a a = true := by
  intro n
  induction n with
  | zero => intro a; rfl
  | succ n ih => intro a; exact hb_pt_s.mpr ⟨Nat.le_refl _, ih _⟩
theorem hb_pt_trans : ∀ n a b c : Nat, hb_pt n a b = true → hb_pt n b c = true → hb_pt n a c = true := by
  intro n
  induction n with
  | zero => intro a b c _ _; rfl
  | succ n ih =>
    intro a b c p q
    obtain ⟨p1, p2⟩ := hb_pt_s.mp p
    obtain ⟨q1, q2⟩ := hb_pt_s.mp q
    exact hb_pt_s.mpr ⟨Nat.le_trans p1 q1, ih _ _ _ p2 q2⟩
theorem hb_pt_sub : ∀ n a b : Nat, a < 7 ^ n → hb_pt n a b = true → hb_pt n (b - a) b = true := by
  intro n
  induction n with
  | zero => intro a b _ _; rfl
  | succ n ih =>
    intro a b h p
    obtain ⟨p1, p2⟩ := hb_pt_s.mp p
    obtain ⟨e1, e2⟩ := hb_sub_dm p1 (hb_pt_le n _ _ (hb_p7 h) p2)
    refine hb_pt_s.mpr ⟨?_, ?_⟩
    · omega
    · rw [e2]; exact ih _ _ (hb_p7 h) p2
theorem hb_nsub {a b : Nat} (h : b ≤ a) : nI (a - b) = nI a - nI b := by
  obtain ⟨c, rfl⟩ : ∃ c, a = c + b := ⟨a - b, by omega⟩
  rw [← nI_add, Int32.add_sub_cancel, Nat.add_sub_cancel]
theorem hb_ring (x a b p q : Int32) : x * (a - b) + (p - q) = x * a + p - (x * b + q) := by grind
theorem hb_tl_sub (w : Nat → Int32) : ∀ n a b : Nat, a < 7 ^ n → hb_pt n a b = true → hb_tl w n (b - a) = hb_tl w n b - hb_tl w n a := by
  intro n
  induction n with
  | zero => intro a b _ _; exact (Int32.sub_self 0).symm
  | succ n ih =>
    intro a b h p
    obtain ⟨p1, p2⟩ := hb_pt_s.mp p
    obtain ⟨e1, e2⟩ := hb_sub_dm p1 (hb_pt_le n _ _ (hb_p7 h) p2)
    show w n * nI ((b - a) % 7) + hb_tl w n ((b - a) / 7) = (w n * nI (b % 7) + hb_tl w n (b / 7)) - (w n * nI (a % 7) + hb_tl w n (a / 7))
    rw [e1, e2, ih _ _ (hb_p7 h) p2, hb_nsub p1]
    exact hb_ring _ _ _ _ _
theorem hb_ds_sub : ∀ n a b : Nat, a < 7 ^ n → hb_pt n a b = true → hb_ds n (b - a) + hb_ds n a = hb_ds n b := by
  intro n
  induction n with
  | zero => intro a b _ _; rfl
  | succ n ih =>
    intro a b h p
    obtain ⟨p1, p2⟩ := hb_pt_s.mp p
    obtain ⟨e1, e2⟩ := hb_sub_dm p1 (hb_pt_le n _ _ (hb_p7 h) p2)
    have q := ih _ _ (hb_p7 h) p2
    show ((b - a) % 7 + hb_ds n ((b - a) / 7)) + (a % 7 + hb_ds n (a / 7)) = b % 7 + hb_ds n (b / 7)
    rw [e1, e2]
    omega
theorem hb_ds_pos : ∀ n a : Nat, a < 7 ^ n → 0 < a → 0 < hb_ds n a := by
  intro n
  induction n with
  | zero =>
    intro a h h0
    have : a < 1 := h
    omega
  | succ n ih =>
    intro a h h0
    show 0 < a % 7 + hb_ds n (a / 7)
    by_cases z : 0 < a / 7
    · have := ih _ (hb_p7 h) z
      omega
    · omega
theorem hb_ds_le : ∀ n a : Nat, hb_ds n a ≤ 6 * n := by
  intro n
  induction n with
  | zero => intro a; exact Nat.le_refl 0
  | succ n ih =>
    intro a
    show a % 7 + hb_ds n (a / 7) ≤ 6 * (n + 1)
    have := ih (a / 7)
    omega
/-- c is a balance -/
def hb_B (w : Nat → Int32) (c : Nat) : Bool := decide (hb_tl w 5 c = 0)
theorem hb_B_i {w : Nat → Int32} {c : Nat} : hb_B w c = true ↔ hb_tl w 5 c = 0 := decide_eq_true_iff
theorem hb_tl_0 (w : Nat → Int32) : ∀ n : Nat, hb_tl w n 0 = 0 := by
  intro n
  induction n with
  | zero => rfl
  | succ n ih =>
    show w n * nI (0 % 7) + hb_tl w n (0 / 7) = 0
    rw [Nat.zero_mod, Nat.zero_div, ih, nI_0, Int32.mul_zero, Int32.add_zero]
theorem hb_B0 (w : Nat → Int32) : hb_B w 0 = true := hb_B_i.mpr (hb_tl_0 w 5)
theorem hb_75 : 7 ^ 5 = 16807 := by decide
theorem hb_B_sub {w : Nat → Int32} {a b : Nat} (ha : a < 16807) (p : hb_pt 5 a b = true) (h1 : hb_B w a = true) (h2 : hb_B w b = true) : hb_B w (b - a) = true := by
  rw [hb_B_i] at *
  rw [hb_tl_sub w 5 a b (by rw [hb_75]; exact ha) p, h1, h2]
  exact Int32.sub_self 0
/-- some code among g 0 .. g (m-1) is part of c -/
def hb_any (g : Nat → Nat) (c : Nat) : Nat → Bool
  | 0 => false
  | m + 1 => hb_any g c m || hb_pt 5 (g m) c
theorem hb_any_t {g : Nat → Nat} {c : Nat} : ∀ {m : Nat}, hb_any g c m = true ↔ ∃ j, j < m ∧ hb_pt 5 (g j) c = true := by
  intro m
  induction m with
  | zero => exact ⟨fun h => (nomatch h), fun ⟨j, h, _⟩ => absurd h (Nat.not_lt_zero j)⟩
  | succ m ih =>
    show (hb_any g c m || hb_pt 5 (g m) c) = true ↔ _
    rw [Bool.or_eq_true, ih]
    constructor
    · rintro (⟨j, h, p⟩ | p)
      · exact ⟨j, by omega, p⟩
      · exact ⟨m, by omega, p⟩
    · rintro ⟨j, h, p⟩
      by_cases e : j = m
      · subst e; exact Or.inr p
      · exact Or.inl ⟨j, by omega, p⟩
theorem hb_any_f {g : Nat → Nat} {c m : Nat} : hb_any g c m = false ↔ ∀ j, j < m → ¬ hb_pt 5 (g j) c = true := by
  rw [← Bool.not_eq_true, hb_any_t]
  exact ⟨fun h j hj p => h ⟨j, hj, p⟩, fun h ⟨j, hj, p⟩ => h j hj p⟩
/-- one more in a row of codes -/
def hb_put (g : Nat → Nat) (m c : Nat) : Nat → Nat := fun j => if j = m then c else g j
theorem hb_put_s {g : Nat → Nat} {m c : Nat} : hb_put g m c m = c := if_pos rfl
theorem hb_put_n {g : Nat → Nat} {m c j : Nat} (h : j ≠ m) : hb_put g m c j = g j := if_neg h
/-- the balances below n: how many, and which -/
def hb_E (w : Nat → Int32) : Nat → Nat × (Nat → Nat)
  | 0 => (0, fun _ => 0)
  | n + 1 => if hb_B w n = true then ((hb_E w n).1 + 1, hb_put (hb_E w n).2 (hb_E w n).1 n) else hb_E w n
/-- the least balances below n: how many, and which -/
def hb_S (w : Nat → Int32) : Nat → Nat × (Nat → Nat)
  | 0 => (0, fun _ => 0)
  | n + 1 => if n ≠ 0 ∧ hb_B w n = true ∧ hb_any (hb_S w n).2 n (hb_S w n).1 = false then ((hb_S w n).1 + 1, hb_put (hb_S w n).2 (hb_S w n).1 n) else hb_S w n
theorem hb_E_t {w : Nat → Int32} {n : Nat} (h : hb_B w n = true) : hb_E w (n + 1) = ((hb_E w n).1 + 1, hb_put (hb_E w n).2 (hb_E w n).1 n) := if_pos h
theorem hb_E_f {w : Nat → Int32} {n : Nat} (h : ¬ hb_B w n = true) : hb_E w (n + 1) = hb_E w n := if_neg h
theorem hb_S_t {w : Nat → Int32} {n : Nat} (h0 : n ≠ 0) (h1 : hb_B w n = true) (h2 : hb_any (hb_S w n).2 n (hb_S w n).1 = false) : hb_S w (n + 1) = ((hb_S w n).1 + 1, hb_put (hb_S w n).2 (hb_S w n).1 n) := if_pos ⟨h0, h1, h2⟩
theorem hb_S_f {w : Nat → Int32} {n : Nat} (h : ¬ (n ≠ 0 ∧ hb_B w n = true ∧ hb_any (hb_S w n).2 n (hb_S w n).1 = false)) : hb_S w (n + 1) = hb_S w n := if_neg h
/-- what the row of balances is -/
def hb_EI (w : Nat → Int32) (n m : Nat) (g : Nat → Nat) : Prop :=
  m ≤ n ∧ (∀ j, j < m → g j < n ∧ hb_B w (g j) = true) ∧ (∀ i j, i < j → j < m → g i < g j) ∧ (∀ c, c < n → hb_B w c = true → ∃ j, j < m ∧ g j = c)
theorem hb_E_i (w : Nat → Int32) : ∀ n : Nat, hb_EI w n (hb_E w n).1 (hb_E w n).2 := by
  intro n
  induction n with
  | zero => exact ⟨Nat.le_refl 0, fun j h => absurd h (Nat.not_lt_zero j), fun i j _ h => absurd h (Nat.not_lt_zero j), fun c h => absurd h (Nat.not_lt_zero c)⟩
  | succ n ih =>
    by_cases hB : hb_B w n = true
    · rw [hb_E_t hB]
      generalize hb_E w n = s at ih ⊢
      obtain ⟨m, g⟩ := s
      obtain ⟨a1, a2, a3, a4⟩ := ih
      dsimp only at *
      refine ⟨by omega, ?_, ?_, ?_⟩
      · intro j hj
        by_cases e : j = m
        · subst e; rw [hb_put_s]; exact ⟨by omega, hB⟩
        · rw [hb_put_n e]
          have := a2 j (by omega)
          exact ⟨by omega, this.2⟩
      · intro i j hij hj
        rw [hb_put_n (show i ≠ m by omega)]
        by_cases e : j = m
        · subst e; rw [hb_put_s]; exact (a2 i hij).1
        · rw [hb_put_n e]; exact a3 i j hij (by omega)
      · intro c hc hb
        by_cases e : c = n
        · subst e; exact ⟨m, by omega, hb_put_s⟩
        · obtain ⟨j, hj, ej⟩ := a4 c (by omega) hb
          exact ⟨j, by omega, by rw [hb_put_n (show j ≠ m by omega)]; exact ej⟩
    · rw [hb_E_f hB]
      generalize hb_E w n = s at ih ⊢
      obtain ⟨m, g⟩ := s
      obtain ⟨a1, a2, a3, a4⟩ := ih
      dsimp only at *
      refine ⟨by omega, ?_, a3, ?_⟩
      · intro j hj
        have := a2 j hj
        exact ⟨by omega, this.2⟩
      · intro c hc hb
        by_cases e : c = n
        · subst e; exact absurd hb hB
        · exact a4 c (by omega) hb
/-- what the row of least balances is -/
def hb_SI (w : Nat → Int32) (n m : Nat) (g : Nat → Nat) : Prop :=
  (∀ j, j < m → 0 < g j ∧ g j < n ∧ hb_B w (g j) = true) ∧ (∀ i j, i < j → j < m → g i < g j ∧ ¬ hb_pt 5 (g i) (g j) = true) ∧ (∀ c, 0 < c → c < n → hb_B w c = true → ∃ j, j < m ∧ hb_pt 5 (g j) c = true)
theorem hb_S_i (w : Nat → Int32) : ∀ n : Nat, hb_SI w n (hb_S w n).1 (hb_S w n).2 := by
  intro n
  induction n with
  | zero => exact ⟨fun j h => absurd h (Nat.not_lt_zero j), fun i j _ h => absurd h (Nat.not_lt_zero j), fun c _ h => absurd h (Nat.not_lt_zero c)⟩
  | succ n ih =>
    by_cases hB : n ≠ 0 ∧ hb_B w n = true ∧ hb_any (hb_S w n).2 n (hb_S w n).1 = false
    · rw [hb_S_t hB.1 hB.2.1 hB.2.2]
      generalize hb_S w n = s at ih hB ⊢
      obtain ⟨m, g⟩ := s
      obtain ⟨a2, a3, a4⟩ := ih
      obtain ⟨h0, h1, h2⟩ := hB
      dsimp only at *
      rw [hb_any_f] at h2
      refine ⟨?_, ?_, ?_⟩
      · intro j hj
        by_cases e : j = m
        · subst e; rw [hb_put_s]; exact ⟨by omega, by omega, h1⟩
        · rw [hb_put_n e]
          have := a2 j (by omega)
          exact ⟨this.1, by omega, this.2.2⟩
      · intro i j hij hj
        rw [hb_put_n (show i ≠ m by omega)]
        by_cases e : j = m
        · subst e; rw [hb_put_s]; exact ⟨(a2 i hij).2.1, h2 i hij⟩
        · rw [hb_put_n e]; exact a3 i j hij (by omega)
      · intro c hc0 hc hb
        by_cases e : c = n
        · subst e; exact ⟨m, by omega, by rw [hb_put_s]; exact hb_pt_refl 5 _⟩
        · obtain ⟨j, hj, ej⟩ := a4 c hc0 (by omega) hb
          exact ⟨j, by omega, by rw [hb_put_n (show j ≠ m by omega)]; exact ej⟩
    · rw [hb_S_f hB]
      generalize hb_S w n = s at ih hB ⊢
      obtain ⟨m, g⟩ := s
      obtain ⟨a2, a3, a4⟩ := ih
      dsimp only at *
      refine ⟨?_, a3, ?_⟩
      · intro j hj
        have := a2 j hj
        exact ⟨this.1, by omega, this.2.2⟩
      · intro c hc0 hc hb
        by_cases e : c = n
        · subst e
          by_cases z : hb_any g c m = true
          · exact hb_any_t.mp z
          · exact absurd ⟨by omega, hb, by rw [← Bool.not_eq_true]; exact z⟩ hB
        · exact a4 c hc0 (by omega) hb
theorem hb_S_gap {w : Nat → Int32} {p : Nat} : ∀ d : Nat, (∀ c, p ≤ c → c < p + d → hb_B w c = false) → hb_S w (p + d) = hb_S w p := by
  intro d
  induction d with
  | zero => intro _; rfl
  | succ d ih =>
    intro h
    have e : hb_S w (p + d + 1) = hb_S w (p + d) := hb_S_f (fun z => by
      have := h (p + d) (by omega) (by omega)
      rw [this] at z
      exact absurd z.2.1 (by decide))
    show hb_S w (p + d + 1) = _
    rw [e]
    exact ih (fun c h1 h2 => h c h1 (by omega))
end
section
/-! an antichain of rows is short; the tables of sums; the rows below a row -/
theorem hb_ph : ∀ (N m : Nat) (f : Nat → Nat), (∀ j, j < m → f j < N) → (∀ i j, i < j → j < m → f i ≠ f j) → m ≤ N := by
  intro N
  induction N with
  | zero =>
    intro m f h _
    cases m with
    | zero => exact Nat.le_refl 0
    | succ m => exact absurd (h 0 (by omega)) (Nat.not_lt_zero _)
  | succ N ih =>
    intro m f h1 h2
    cases m with
    | zero => exact Nat.zero_le _
    | succ k =>
      refine Nat.succ_le_succ (ih k (fun j => if f j = N then f k else f j) ?_ ?_)
      · intro j hj
        have a := h1 j (by omega)
        have b := h1 k (by omega)
        have c := h2 j k hj (by omega)
        show (if f j = N then f k else f j) < N
        by_cases e : f j = N
        · rw [if_pos e]; omega
        · rw [if_neg e]; omega
      · intro i j hij hj
        have c1 := h2 i k (by omega) (by omega)
        have c2 := h2 j k hj (by omega)
        have c3 := h2 i j hij (by omega)
        show (if f i = N then f k else f i) ≠ (if f j = N then f k else f j)
        by_cases e : f i = N
        · rw [if_pos e, if_neg (by omega)]; omega
        · by_cases e' : f j = N
          · rw [if_neg e, if_pos e']; omega
          · rw [if_neg e, if_neg e']; exact c3
/-- 37 chains cover the rows of three digits -/
def hb_of (i : Nat) : Nat := if i ≤ 4 then 7 * i else if i = 5 then 33 else 36
def hb_hk (a b : Nat) : Nat := if a ≤ 6 - b then a else 6 - b
theorem hb_hk_e (a b : Nat) : (a ≤ 6 - b ∧ hb_hk a b = a) ∨ (6 - b < a ∧ hb_hk a b = 6 - b) := by
  unfold hb_hk
  by_cases h : a ≤ 6 - b
  · rw [if_pos h]; exact Or.inl ⟨h, rfl⟩
  · rw [if_neg h]; exact Or.inr ⟨by omega, rfl⟩
/-- which hook of the rectangle (P, 6) holds (p, c) -/
def hb_hq (c d : Nat) : Nat := if c ≤ d then c else d
theorem hb_hq_e (c d : Nat) : (c ≤ d ∧ hb_hq c d = c) ∨ (d < c ∧ hb_hq c d = d) := by
  unfold hb_hq
  by_cases h : c ≤ d
  · rw [if_pos h]; exact Or.inl ⟨h, rfl⟩
  · rw [if_neg h]; exact Or.inr ⟨by omega, rfl⟩
def hb_ch (a b c : Nat) : Nat := hb_of (hb_hk a b) + hb_hq c (12 - hb_hk a b - a - b)
theorem hb_of_e (i : Nat) (h : i ≤ 6) : (i ≤ 4 ∧ hb_of i = 7 * i) ∨ (i = 5 ∧ hb_of i = 33) ∨ (i = 6 ∧ hb_of i = 36) := by
  unfold hb_of
  by_cases h1 : i ≤ 4
  · rw [if_pos h1]; exact Or.inl ⟨h1, rfl⟩
  · by_cases h2 : i = 5
    · rw [if_neg h1, if_pos h2]; exact Or.inr (Or.inl ⟨h2, rfl⟩)
    · rw [if_neg h1, if_neg h2]; exact Or.inr (Or.inr ⟨by omega, rfl⟩)
theorem hb_ch_lt {a b c : Nat} (ha : a ≤ 6) (hb : b ≤ 6) (hc : c ≤ 6) : hb_ch a b c < 37 := by
  unfold hb_ch
  have h1 := hb_hk_e a b
  have h2 := hb_hq_e c (12 - hb_hk a b - a - b)
  have h3 := hb_of_e (hb_hk a b) (by omega)
  omega
theorem hb_of_inj {i q i' q' : Nat} (h1 : i ≤ 6) (h2 : q ≤ 6) (h3 : q ≤ 12 - 2 * i) (h1' : i' ≤ 6) (h2' : q' ≤ 6) (h3' : q' ≤ 12 - 2 * i') (h : hb_of i + q = hb_of i' + q') : i = i' ∧ q = q' := by
  have e := hb_of_e i h1
  have e' := hb_of_e i' h1'
  omega
theorem hb_ch_cmp {a b c a' b' c' : Nat} (ha : a ≤ 6) (hb : b ≤ 6) (hc : c ≤ 6) (ha' : a' ≤ 6) (hb' : b' ≤ 6) (hc' : c' ≤ 6) (h : hb_ch a b c = hb_ch a' b' c') : (a ≤ a' ∧ b ≤ b' ∧ c ≤ c') ∨ (a' ≤ a ∧ b' ≤ b ∧ c' ≤ c) := by
  unfold hb_ch at h
  have h1 := hb_hk_e a b
  have h1' := hb_hk_e a' b'
  have h2 := hb_hq_e c (12 - hb_hk a b - a - b)
  have h2' := hb_hq_e c' (12 - hb_hk a' b' - a' - b')
  obtain ⟨e1, e2⟩ := hb_of_inj (by omega) (by omega) (by omega) (by omega) (by omega) (by omega) h
  clear h
  generalize hb_hk a b = i at *
  generalize hb_hk a' b' = i' at *
  subst e1
  generalize hb_hq c (12 - i - a - b) = q at *
  generalize hb_hq c' (12 - i - a' - b') = q' at *
  subst e2
  omega
def hb_id (c : Nat) : Nat := hb_ch (c / 7 / 7 / 7 / 7 % 7) (c / 7 / 7 / 7 % 7) (c / 7 / 7 % 7) * 49 + (c / 7 % 7 * 7 + c % 7)
theorem hb_m7 (x : Nat) : x % 7 ≤ 6 := by omega
theorem hb_id_lt (c : Nat) : hb_id c < 1813 := by
  unfold hb_id
  have := hb_ch_lt (hb_m7 (c / 7 / 7 / 7 / 7)) (hb_m7 (c / 7 / 7 / 7)) (hb_m7 (c / 7 / 7))
  have h1 := hb_m7 (c / 7)
  have h2 := hb_m7 c
  generalize hb_ch (c / 7 / 7 / 7 / 7 % 7) (c / 7 / 7 / 7 % 7) (c / 7 / 7 % 7) = x at *
  generalize c / 7 % 7 = y at *
  generalize c % 7 = z at *
  omega
theorem hb_pt5 {a b : Nat} : hb_pt 5 a b = true ↔ (a % 7 ≤ b % 7 ∧ a / 7 % 7 ≤ b / 7 % 7 ∧ a / 7 / 7 % 7 ≤ b / 7 / 7 % 7 ∧ a / 7 / 7 / 7 % 7 ≤ b / 7 / 7 / 7 % 7 ∧ a / 7 / 7 / 7 / 7 % 7 ≤ b / 7 / 7 / 7 / 7 % 7) := by
  rw [hb_pt_s, hb_pt_s, hb_pt_s, hb_pt_s, hb_pt_s]
  exact ⟨fun ⟨a, b, c, d, e, _⟩ => ⟨a, b, c, d, e⟩, fun ⟨a, b, c, d, e⟩ => ⟨a, b, c, d, e, rfl⟩⟩
theorem hb_id_cmp {a b : Nat} (h : hb_id a = hb_id b) : hb_pt 5 a b = true ∨ hb_pt 5 b a = true := by
  unfold hb_id at h
  rw [hb_pt5, hb_pt5]
  have a0 := hb_m7 a
  have a1 := hb_m7 (a / 7)
  have a2 := hb_m7 (a / 7 / 7)
  have a3 := hb_m7 (a / 7 / 7 / 7)
  have a4 := hb_m7 (a / 7 / 7 / 7 / 7)
  have b0 := hb_m7 b
  have b1 := hb_m7 (b / 7)
  have b2 := hb_m7 (b / 7 / 7)
  have b3 := hb_m7 (b / 7 / 7 / 7)
  have b4 := hb_m7 (b / 7 / 7 / 7 / 7)
  generalize a / 7 / 7 / 7 / 7 % 7 = p4 at *
  generalize a / 7 / 7 / 7 % 7 = p3 at *
  generalize a / 7 / 7 % 7 = p2 at *
  generalize a / 7 % 7 = p1 at *
  generalize a % 7 = p0 at *
  generalize b / 7 / 7 / 7 / 7 % 7 = q4 at *
  generalize b / 7 / 7 / 7 % 7 = q3 at *
  generalize b / 7 / 7 % 7 = q2 at *
  generalize b / 7 % 7 = q1 at *
  generalize b % 7 = q0 at *
  have e : hb_ch p4 p3 p2 = hb_ch q4 q3 q2 ∧ p1 = q1 ∧ p0 = q0 := by
    generalize hb_ch p4 p3 p2 = x at *
    generalize hb_ch q4 q3 q2 = y at *
    omega
  obtain ⟨e1, e2, e3⟩ := e
  have := hb_ch_cmp a4 a3 a2 b4 b3 b2 e1
  omega
theorem hb_S_few (w : Nat → Int32) {n : Nat} (hn : n ≤ 16807) : (hb_S w n).1 ≤ 1813 := by
  obtain ⟨a2, a3, _⟩ := hb_S_i w n
  refine hb_ph 1813 _ (fun j => hb_id ((hb_S w n).2 j)) (fun j _ => hb_id_lt _) ?_
  intro i j hij hj e
  obtain ⟨h1, h2⟩ := a3 i j hij hj
  rcases hb_id_cmp e with p | p
  · exact h2 p
  · have := hb_pt_le 5 _ _ (by rw [hb_75]; have := a2 j hj; omega) p
    omega
/-- one term more, taken any number of times -/
def hb_rc {α : Type} (op : α → α → α) (t : Nat) (f : Nat → α) : Nat → Nat → α
  | 0, b => f b
  | n + 1, b => if hb_pt 5 t b = true then op (f b) (hb_rc op t f n (b - t)) else f b
theorem hb_nz {t : Nat} (h0 : 0 < t) (ht : t < 16807) : ¬ hb_pt 5 t 0 = true := fun p => by
  have := hb_pt_le 5 t 0 (by rw [hb_75]; exact ht) p
  omega
theorem hb_rc_z {α : Type} {op : α → α → α} {t : Nat} {f : Nat → α} (h0 : 0 < t) (ht : t < 16807) (n : Nat) : hb_rc op t f n 0 = f 0 := by
  cases n with
  | zero => rfl
  | succ n => exact if_neg (hb_nz h0 ht)
theorem hb_rc_fuel {α : Type} {op : α → α → α} {t : Nat} {f : Nat → α} (h0 : 0 < t) (ht : t < 16807) : ∀ n m b : Nat, b ≤ n → b ≤ m → hb_rc op t f n b = hb_rc op t f m b := by
  intro n
  induction n with
  | zero =>
    intro m b h1 h2
    have e : b = 0 := by omega
    subst e
    rw [hb_rc_z h0 ht, hb_rc_z h0 ht]
  | succ n ih =>
    intro m b h1 h2
    cases m with
    | zero =>
      have e : b = 0 := by omega
      subst e
      rw [hb_rc_z h0 ht, hb_rc_z h0 ht]
    | succ m =>
      show (if hb_pt 5 t b = true then op (f b) (hb_rc op t f n (b - t)) else f b) = (if hb_pt 5 t b = true then op (f b) (hb_rc op t f m (b - t)) else f b)
      by_cases p : hb_pt 5 t b = true
      · rw [if_pos p, if_pos p, ih m (b - t) (by omega) (by omega)]
      · rw [if_neg p, if_neg p]
/-- the first k terms, each taken any number of times -/
def hb_it {α : Type} (op : α → α → α) (g : Nat → Nat) (f0 : Nat → α) : Nat → Nat → α
  | 0 => f0
  | k + 1 => fun b => hb_rc op (g k) (hb_it op g f0 k) b b
theorem hb_it_p {α : Type} {op : α → α → α} {g : Nat → Nat} {f0 : Nat → α} {k b : Nat} (h0 : 0 < g k) (ht : g k < 16807) (p : hb_pt 5 (g k) b = true) : hb_it op g f0 (k + 1) b = op (hb_it op g f0 k b) (hb_it op g f0 (k + 1) (b - g k)) := by
  have hl := hb_pt_le 5 (g k) b (by rw [hb_75]; exact ht) p
  cases b with
  | zero => omega
  | succ b =>
    show (if hb_pt 5 (g k) (b + 1) = true then op (hb_it op g f0 k (b + 1)) (hb_rc op (g k) (hb_it op g f0 k) b (b + 1 - g k)) else hb_it op g f0 k (b + 1)) = op (hb_it op g f0 k (b + 1)) (hb_rc op (g k) (hb_it op g f0 k) (b + 1 - g k) (b + 1 - g k))
    rw [if_pos p, hb_rc_fuel h0 ht b (b + 1 - g k) (b + 1 - g k) (by omega) (by omega)]
theorem hb_it_n {α : Type} {op : α → α → α} {g : Nat → Nat} {f0 : Nat → α} {k b : Nat} (p : ¬ hb_pt 5 (g k) b = true) : hb_it op g f0 (k + 1) b = hb_it op g f0 k b := by
  cases b with
  | zero => rfl
  | succ b => exact if_neg p
/-- how few terms -/
def hb_fo (x y : Nat) : Nat := if y + 1 < x then y + 1 else x
def hb_f0 (b : Nat) : Nat := if b = 0 then 0 else 16807
def hb_F (g : Nat → Nat) : Nat → Nat → Nat := hb_it hb_fo g hb_f0
/-- in how many ways -/
def hb_w0 (b : Nat) : Int32 := if b = 0 then 1 else 0
def hb_M (g : Nat → Nat) : Nat → Nat → Int32 := hb_it (fun x y : Int32 => x + y) g hb_w0
theorem hb_fo_e (x y : Nat) : (y + 1 < x ∧ hb_fo x y = y + 1) ∨ (x ≤ y + 1 ∧ hb_fo x y = x) := by
  unfold hb_fo
  by_cases h : y + 1 < x
  · rw [if_pos h]; exact Or.inl ⟨h, rfl⟩
  · rw [if_neg h]; exact Or.inr ⟨by omega, rfl⟩
theorem hb_F_s {g : Nat → Nat} {k b : Nat} (h0 : 0 < g k) (ht : g k < 16807) : hb_F g (k + 1) b ≤ hb_F g k b := by
  by_cases p : hb_pt 5 (g k) b = true
  · have e : hb_F g (k + 1) b = hb_fo (hb_F g k b) (hb_F g (k + 1) (b - g k)) := hb_it_p h0 ht p
    have := hb_fo_e (hb_F g k b) (hb_F g (k + 1) (b - g k))
    omega
  · have e : hb_F g (k + 1) b = hb_F g k b := hb_it_n p
    omega
theorem hb_F_top {g : Nat → Nat} {m : Nat} (hg : ∀ j, j < m → 0 < g j ∧ g j < 16807) : ∀ k b : Nat, k ≤ m → hb_F g k b ≤ 16807 := by
  intro k
  induction k with
  | zero =>
    intro b _
    show (if b = 0 then 0 else 16807) ≤ 16807
    by_cases e : b = 0
    · rw [if_pos e]; omega
    · rw [if_neg e]; omega
  | succ k ih =>
    intro b hk
    have h := hg k (by omega)
    have := hb_F_s (b := b) h.1 h.2
    have := ih b (by omega)
    omega
theorem hb_F_few {w : Nat → Int32} {g : Nat → Nat} {m : Nat} (hg : ∀ j, j < m → 0 < g j ∧ g j < 16807 ∧ hb_B w (g j) = true) :
    ∀ k : Nat, k ≤ m → ∀ b : Nat, b < 16807 → hb_B w b = true → (∀ c, 0 < c → c < 16807 → hb_B w c = true → hb_pt 5 c b = true → ∃ j, j < k ∧ hb_pt 5 (g j) c = true) → hb_F g k b ≤ hb_ds 5 b := by
  intro k
  induction k with
  | zero =>
    intro _ b hb hB hp
    by_cases e : b = 0
    · subst e
      exact Nat.zero_le _
    · obtain ⟨j, hj, _⟩ := hp b (by omega) hb hB (hb_pt_refl 5 b)
      omega
  | succ k ih =>
    intro hk b
    induction b using Nat.strongRecOn with
    | ind b ihb =>
      intro hb hB hp
      obtain ⟨g0, g1, g2⟩ := hg k (by omega)
      have g1' : g k < 7 ^ 5 := by rw [hb_75]; exact g1
      by_cases p : hb_pt 5 (g k) b = true
      · have hl := hb_pt_le 5 _ _ g1' p
        have hs := hb_pt_sub 5 _ _ g1' p
        have q := ihb (b - g k) (by omega) (by omega) (hb_B_sub g1 p g2 hB) (fun c c0 c1 c2 c3 => hp c c0 c1 c2 (hb_pt_trans 5 _ _ _ c3 hs))
        have e : hb_F g (k + 1) b = hb_fo (hb_F g k b) (hb_F g (k + 1) (b - g k)) := hb_it_p g0 g1 p
        have := hb_fo_e (hb_F g k b) (hb_F g (k + 1) (b - g k))
        have := hb_ds_sub 5 _ _ g1' p
        have := hb_ds_pos 5 _ g1' g0
        omega
      · have e : hb_F g (k + 1) b = hb_F g k b := hb_it_n p
        rw [e]
        refine ih (by omega) b hb hB ?_
        intro c c0 c1 c2 c3
        obtain ⟨j, hj, pj⟩ := hp c c0 c1 c2 c3
        by_cases ej : j = k
        · subst ej
          exact absurd (hb_pt_trans 5 _ _ _ pj c3) p
        · exact ⟨j, by omega, pj⟩
theorem hb_F_end (w : Nat → Int32) {b : Nat} (hb : b < 16807) (hB : hb_B w b = true) : hb_F (hb_S w 16807).2 (hb_S w 16807).1 b ≤ 30 := by
  obtain ⟨a2, _, a4⟩ := hb_S_i w 16807
  have := hb_F_few (w := w) (g := (hb_S w 16807).2) (m := (hb_S w 16807).1) a2 _ (Nat.le_refl _) b hb hB (fun c c0 c1 c2 _ => a4 c c0 c1 c2)
  have := hb_ds_le 5 b
  omega
/-- the r-th row below c -/
def hb_un : Nat → Nat → Nat → Nat
  | 0, _, _ => 0
  | n + 1, c, r => r % (c % 7 + 1) + 7 * hb_un n (c / 7) (r / (c % 7 + 1))
/-- how many rows are below c -/
def hb_pr : Nat → Nat → Nat
  | 0, _ => 1
  | n + 1, c => (c % 7 + 1) * hb_pr n (c / 7)
theorem hb_un_pt : ∀ n c r : Nat, hb_pt n (hb_un n c r) c = true := by
  intro n
  induction n with
  | zero => intro c r; rfl
  | succ n ih =>
    intro c r
    have h := Nat.mod_lt r (Nat.succ_pos (c % 7))
    have h7 := hb_m7 c
    rw [hb_pt_s]
    show (r % (c % 7 + 1) + 7 * hb_un n (c / 7) (r / (c % 7 + 1))) % 7 ≤ c % 7 ∧ hb_pt n ((r % (c % 7 + 1) + 7 * hb_un n (c / 7) (r / (c % 7 + 1))) / 7) (c / 7) = true
    have h' : r % (c % 7 + 1) < c % 7 + 1 := h
    have i := ih (c / 7) (r / (c % 7 + 1))
    generalize hb_un n (c / 7) (r / (c % 7 + 1)) = u at *
    generalize r % (c % 7 + 1) = q at *
    have e : (q + 7 * u) / 7 = u := by omega
    rw [e]
    exact ⟨by omega, i⟩
theorem hb_un_lt : ∀ n c r : Nat, hb_un n c r < 7 ^ n := by
  intro n
  induction n with
  | zero => intro c r; exact Nat.one_pos
  | succ n ih =>
    intro c r
    have h : r % (c % 7 + 1) < c % 7 + 1 := Nat.mod_lt r (Nat.succ_pos (c % 7))
    have h7 := hb_m7 c
    have i := ih (c / 7) (r / (c % 7 + 1))
    show r % (c % 7 + 1) + 7 * hb_un n (c / 7) (r / (c % 7 + 1)) < 7 ^ (n + 1)
    rw [Nat.pow_succ]
    generalize hb_un n (c / 7) (r / (c % 7 + 1)) = u at *
    generalize r % (c % 7 + 1) = q at *
    generalize 7 ^ n = z at *
    omega
theorem hb_un_mono : ∀ n c r r' : Nat, r < r' → r' < hb_pr n c → hb_un n c r < hb_un n c r' := by
  intro n
  induction n with
  | zero =>
    intro c r r' h1 h2
    have h2' : r' < 1 := h2
    omega
  | succ n ih =>
    intro c r r' h1 h2
    have h2' : r' < (c % 7 + 1) * hb_pr n (c / 7) := h2
    have q1 : r % (c % 7 + 1) < c % 7 + 1 := Nat.mod_lt r (Nat.succ_pos (c % 7))
    have q2 : r' % (c % 7 + 1) < c % 7 + 1 := Nat.mod_lt r' (Nat.succ_pos (c % 7))
    have h7 := hb_m7 c
    have d := Nat.div_lt_of_lt_mul h2'
    have le : r / (c % 7 + 1) ≤ r' / (c % 7 + 1) := Nat.div_le_div_right (Nat.le_of_lt h1)
    have e1 := Nat.div_add_mod r (c % 7 + 1)
    have e2 := Nat.div_add_mod r' (c % 7 + 1)
    show r % (c % 7 + 1) + 7 * hb_un n (c / 7) (r / (c % 7 + 1)) < r' % (c % 7 + 1) + 7 * hb_un n (c / 7) (r' / (c % 7 + 1))
    by_cases z : r / (c % 7 + 1) < r' / (c % 7 + 1)
    · have := ih (c / 7) _ _ z d
      omega
    · have z' : r / (c % 7 + 1) = r' / (c % 7 + 1) := by omega
      rw [z'] at e1 ⊢
      omega
theorem hb_un_onto : ∀ n c x : Nat, x < 7 ^ n → hb_pt n x c = true → ∃ r, r < hb_pr n c ∧ hb_un n c r = x := by
  intro n
  induction n with
  | zero =>
    intro c x h _
    have h' : x < 1 := h
    exact ⟨0, Nat.one_pos, by show 0 = x; omega⟩
  | succ n ih =>
    intro c x h p
    obtain ⟨p1, p2⟩ := hb_pt_s.mp p
    obtain ⟨r, hr, er⟩ := ih (c / 7) (x / 7) (hb_p7 h) p2
    refine ⟨x % 7 + (c % 7 + 1) * r, ?_, ?_⟩
    · show x % 7 + (c % 7 + 1) * r < (c % 7 + 1) * hb_pr n (c / 7)
      have : (c % 7 + 1) * (r + 1) ≤ (c % 7 + 1) * hb_pr n (c / 7) := Nat.mul_le_mul_left _ hr
      rw [Nat.mul_succ] at this
      omega
    · show (x % 7 + (c % 7 + 1) * r) % (c % 7 + 1) + 7 * hb_un n (c / 7) ((x % 7 + (c % 7 + 1) * r) / (c % 7 + 1)) = x
      rw [Nat.add_mul_mod_self_left, Nat.add_mul_div_left _ _ (Nat.succ_pos _), Nat.mod_eq_of_lt (show x % 7 < c % 7 + 1 by omega), Nat.div_eq_of_lt (show x % 7 < c % 7 + 1 by omega), Nat.zero_add, er]
      omega
theorem hb_pr_le : ∀ n c : Nat, hb_pr n c ≤ 7 ^ n := by
  intro n
  induction n with
  | zero => intro c; exact Nat.le_refl 1
  | succ n ih =>
    intro c
    have h7 := hb_m7 c
    show (c % 7 + 1) * hb_pr n (c / 7) ≤ 7 ^ (n + 1)
    rw [Nat.pow_succ, Nat.mul_comm (7 ^ n)]
    exact Nat.mul_le_mul (by omega) (ih _)
end
section
/-! digits by their number, sums, maxima, numbers as the walks hold them -/
theorem pk_us {f : Nat → Int32} {k : Nat} {x : Int32} : upd f k x k = x := if_pos rfl
theorem pk_un {f : Nat → Int32} {k j : Nat} {x : Int32} (h : j ≠ k) : upd f k x j = f j := if_neg h
theorem pk_sub {a b : Nat} (h : b ≤ a) : nI a - nI b = nI (a - b) := (hb_nsub h).symm
theorem pk_m1 (n : Nat) : nI (n + 1) + (-1) = nI n := by
  rw [← nI_1, Int32.add_assoc, show (1 : Int32) + (-1) = 0 from rfl, Int32.add_zero]
theorem pk_mul (a b : Nat) : nI a * nI b = nI (a * b) := (Int32.ofNat_mul a b).symm
theorem pk_div {a d : Nat} (ha : a < 2 ^ 31) (h0 : 0 < d) (hd : d < 2 ^ 31) : nI a / nI d = nI (a / d) := by
  apply Int32.toInt_inj.mp
  rw [lg_idiv_nonneg (by rw [nI_toInt ha]; omega) (by rw [nI_toInt hd]; omega), nI_toInt ha, nI_toInt hd, nI_toInt (Nat.lt_of_le_of_lt (Nat.div_le_self a d) ha)]
  first | rfl | exact (Int.natCast_ediv _ _).symm
theorem pk_rem {a d : Nat} (ha : a < 2 ^ 31) (h0 : 0 < d) (hd : d < 2 ^ 31) : nI a - nI a / nI d * nI d = nI (a % d) := by
  rw [pk_div ha h0 hd, pk_mul, pk_sub (Nat.div_mul_le_self a d)]
  exact congrArg nI (by have := Nat.div_add_mod' a d; omega)
theorem pk_ix (x : Int32) {n : Nat} (hn : n < 2 ^ 31) : x < 0 ∨ nI n ≤ x ∨ ∃ j : Nat, j < n ∧ x = nI j := by
  by_cases h : x < 0
  · exact Or.inl h
  · obtain ⟨j, hj, rfl⟩ := nI_of h
    by_cases h2 : j < n
    · exact Or.inr (Or.inr ⟨j, h2, rfl⟩)
    · exact Or.inr (Or.inl (nI_le (by omega) hj))
theorem pk_le {x y : Int32} {A B : Prop} (a b : Nat) (f : a ≤ b → A) (g : b < a → B) (hx : x = nI a := by rfl) (hy : y = nI b := by rfl) (ha : a < 2 ^ 31 := by omega) (hb : b < 2 ^ 31 := by omega) : (x ≤ y → A) ∧ (¬ x ≤ y → B) := by
  subst hx hy
  rw [nI_leI ha hb]
  exact ⟨f, fun z => g (by omega)⟩
theorem pk_lt {x y : Int32} {A B : Prop} (a b : Nat) (f : a < b → A) (g : b ≤ a → B) (hx : x = nI a := by rfl) (hy : y = nI b := by rfl) (ha : a < 2 ^ 31 := by omega) (hb : b < 2 ^ 31 := by omega) : (x < y → A) ∧ (¬ x < y → B) := by
  subst hx hy
  rw [nI_ltI ha hb]
  exact ⟨f, fun z => g (by omega)⟩
theorem pk_eq {x y : Int32} {A B : Prop} (a b : Nat) (f : a = b → A) (g : a ≠ b → B) (hx : x = nI a := by rfl) (hy : y = nI b := by rfl) (ha : a < 2 ^ 31 := by omega) (hb : b < 2 ^ 31 := by omega) : (x = y → A) ∧ (¬ x = y → B) := by
  subst hx hy
  rw [nI_eq ha hb]
  exact ⟨f, g⟩
theorem pk_in {x : Int32} (n N : Nat) (h : n < N) (hx : x = nI n := by rfl) (hN : N < 2 ^ 31 := by omega) : vp_in x N := by
  subst hx
  exact vp_in_nI h hN
theorem pk_cl {x : Int32} (n : Nat) (hx : x = nI n := by rfl) (h : n < 2 ^ 31 := by omega) : x.toNatClampNeg = n := by
  subst hx
  exact nI_clamp h
/-- c without its last j digits -/
def hb_sh : Nat → Nat → Nat
  | 0, c => c
  | j + 1, c => hb_sh j (c / 7)
/-- the i-th digit -/
def hb_dg (c i : Nat) : Nat := hb_sh (4 - i) c % 7
theorem hb_dg_le (c i : Nat) : hb_dg c i ≤ 6 := hb_m7 _
theorem hb_pt_dg {a b : Nat} : hb_pt 5 a b = true ↔ ∀ i, i < 5 → hb_dg a i ≤ hb_dg b i := by
  rw [hb_pt5]
  constructor
  · rintro ⟨h4, h3, h2, h1, h0⟩ i hi
    match i, hi with
    | 0, _ => exact h0
    | 1, _ => exact h1
    | 2, _ => exact h2
    | 3, _ => exact h3
    | 4, _ => exact h4
  · intro h
    exact ⟨h 4 (by decide), h 3 (by decide), h 2 (by decide), h 1 (by decide), h 0 (by decide)⟩
theorem hb_dg0 {c : Nat} (h : c < 16807) : c / 2401 = hb_dg c 0 := by
  show c / 2401 = c / 7 / 7 / 7 / 7 % 7
  rw [Nat.div_div_eq_div_mul, Nat.div_div_eq_div_mul, Nat.div_div_eq_div_mul]
  omega
theorem hb_dg1 (c : Nat) : c / 343 % 7 = hb_dg c 1 := by
  show c / 343 % 7 = c / 7 / 7 / 7 % 7
  rw [Nat.div_div_eq_div_mul, Nat.div_div_eq_div_mul]
theorem hb_dg2 (c : Nat) : c / 49 % 7 = hb_dg c 2 := by
  show c / 49 % 7 = c / 7 / 7 % 7
  rw [Nat.div_div_eq_div_mul]
theorem hb_dg3 (c : Nat) : c / 7 % 7 = hb_dg c 3 := rfl
theorem hb_dg4 (c : Nat) : c % 7 = hb_dg c 4 := rfl
/-- sums of numbers as the walks hold them -/
def hb_sm (f : Nat → Int32) : Nat → Int32
  | 0 => 0
  | k + 1 => hb_sm f k + f k
/-- sums of naturals -/
def hb_sn (f : Nat → Nat) : Nat → Nat
  | 0 => 0
  | k + 1 => hb_sn f k + f k
/-- the greatest -/
def hb_mx (f : Nat → Nat) : Nat → Nat
  | 0 => 0
  | k + 1 => if hb_mx f k < f k then f k else hb_mx f k
theorem hb_ring5 (a b c d e p q r s t : Int32) : p * a + (q * b + (r * c + (s * d + (t * e + 0)))) = 0 + e * t + d * s + c * r + b * q + a * p := by grind
theorem hb_tl_sm (w : Nat → Int32) (c : Nat) : hb_sm (fun i => nI (hb_dg c i) * w i) 5 = hb_tl w 5 c :=
  (hb_ring5 (nI (hb_dg c 4)) (nI (hb_dg c 3)) (nI (hb_dg c 2)) (nI (hb_dg c 1)) (nI (hb_dg c 0)) (w 4) (w 3) (w 2) (w 1) (w 0)).symm
theorem hb_ds_sn (c : Nat) : hb_sn (hb_dg c) 5 = hb_ds 5 c := by
  show 0 + hb_dg c 0 + hb_dg c 1 + hb_dg c 2 + hb_dg c 3 + hb_dg c 4 = hb_dg c 4 + (hb_dg c 3 + (hb_dg c 2 + (hb_dg c 1 + (hb_dg c 0 + 0))))
  omega
theorem hb_sn_le {f : Nat → Nat} {b : Nat} (h : ∀ i, f i ≤ b) : ∀ k : Nat, hb_sn f k ≤ b * k := by
  intro k
  induction k with
  | zero => exact Nat.le_refl 0
  | succ k ih =>
    show hb_sn f k + f k ≤ b * (k + 1)
    have := h k
    rw [Nat.mul_succ]
    omega
theorem hb_mx_le {f : Nat → Nat} {b : Nat} (h : ∀ i, f i ≤ b) : ∀ k : Nat, hb_mx f k ≤ b := by
  intro k
  induction k with
  | zero => exact Nat.zero_le _
  | succ k ih =>
    show (if hb_mx f k < f k then f k else hb_mx f k) ≤ b
    by_cases e : hb_mx f k < f k
    · rw [if_pos e]; exact h k
    · rw [if_neg e]; exact ih
/-- the product of the digits, each one more -/
def hb_pd (c : Nat) : Nat → Nat
  | 0 => 1
  | k + 1 => hb_pd c k * (hb_dg c k + 1)
theorem hb_pd_pr (c : Nat) : hb_pd c 5 = hb_pr 5 c := by
  show 1 * (hb_dg c 0 + 1) * (hb_dg c 1 + 1) * (hb_dg c 2 + 1) * (hb_dg c 3 + 1) * (hb_dg c 4 + 1) = (hb_dg c 4 + 1) * ((hb_dg c 3 + 1) * ((hb_dg c 2 + 1) * ((hb_dg c 1 + 1) * ((hb_dg c 0 + 1) * 1))))
  rw [Nat.mul_one, Nat.one_mul]
  simp only [Nat.mul_comm, Nat.mul_left_comm, Nat.mul_assoc]
theorem hb_pd_le (c : Nat) : ∀ k : Nat, hb_pd c k ≤ 7 ^ k := by
  intro k
  induction k with
  | zero => exact Nat.le_refl 1
  | succ k ih =>
    show hb_pd c k * (hb_dg c k + 1) ≤ 7 ^ (k + 1)
    rw [Nat.pow_succ]
    exact Nat.mul_le_mul ih (by have := hb_dg_le c k; omega)
theorem hb_sh_s : ∀ j c : Nat, hb_sh (j + 1) c = hb_sh j c / 7 := by
  intro j
  induction j with
  | zero => intro c; rfl
  | succ j ih => intro c; exact ih (c / 7)
end
section
/-! the class's walks, up to its tables -/
theorem hb_r7 {a : Nat} (h : a < 16807) : nI a - nI a / 7 * 7 = nI (a % 7) := pk_rem (d := 7) (by omega) (by decide) (by decide)
theorem hb_q7 {a : Nat} (h : a < 16807) : nI a / 7 = nI (a / 7) := pk_div (d := 7) (by omega) (by decide) (by decide)
theorem hb_n7 : ¬ (7 : Int32) = 0 := by decide
section
variable {post : Int32 → Prop} {bc lc : Int32} {w bl ll fw ws : Nat → Int32}
theorem hx_tilt_7 : ∀ (n c : Nat) (s : Int32), n ≤ 5 → c < 16807 → post (s + hb_tl w n c) → wX_tilt_7 post bc lc w bl ll fw ws (n + 1) (nI c) s (nI n + (-1)) := by
  intro n
  induction n with
  | zero =>
    intro c s _ _ h
    have h' : post s := by
      have e : s + hb_tl w 0 c = s := Int32.add_zero s
      rw [e] at h
      exact h
    exact br_t (by decide) h'
  | succ n ih =>
    intro c s hn hc h
    rw [pk_m1]
    refine br_f (nI_pos (by omega)) ⟨vp_in_nI (by omega) (by decide), hb_n7, nm_r (e' := s + w n * nI (c % 7)) ?_ ⟨hb_n7, nm_r (hb_q7 hc) (nm_e (ih _ _ (by omega) (by omega) ?_))⟩⟩
    · rw [hb_r7 hc, nI_clamp (by omega)]
    · rw [Int32.add_assoc]
      exact h
theorem hx_tilt {c : Nat} (hc : c < 16807) (h : post (hb_tl w 5 c)) : wpX_tilt post (bc, lc, w, bl, ll, fw, ws) (nI c) := by
  have q := hx_tilt_7 (post := post) (bc := bc) (lc := lc) (w := w) (bl := bl) (ll := ll) (fw := fw) (ws := ws) 5 c 0 (by omega) hc (by rw [Int32.zero_add]; exact h)
  rw [pk_m1] at q
  exact ⟨6, q⟩
theorem hx_tiltB {c : Nat} (hc : c < 16807) (ht : hb_B w c = true → post 0) (hf : ¬ hb_B w c = true → ∀ r : Int32, ¬ r = 0 → post r) : wpX_tilt post (bc, lc, w, bl, ll, fw, ws) (nI c) := by
  refine hx_tilt hc ?_
  by_cases e : hb_tl w 5 c = 0
  · rw [e]; exact ht (hb_B_i.mpr e)
  · exact hf (fun z => e (hb_B_i.mp z)) _ e
theorem hx_part_7 : ∀ n a b : Nat, n ≤ 5 → a < 16807 → b < 16807 → (hb_pt n a b = true → post 1) → (¬ hb_pt n a b = true → post 0) → wX_isPart_7 post (n + 1) (nI a) (nI b) (nI (5 - n)) := by
  intro n
  induction n with
  | zero =>
    intro a b _ _ _ ht _
    exact br_t (by decide) (ht rfl)
  | succ n ih =>
    intro a b hn ha hb ht hf
    refine br_f (nI_ge (b := 5) (by omega) (by decide)) ⟨hb_n7, hb_n7, pk_le (a % 7) (b % 7) (fun h => ⟨hb_n7, nm_r (hb_q7 ha) ⟨hb_n7, nm_r (hb_q7 hb) (nm_r (e' := nI (5 - n)) ?_ (ih _ _ (by omega) (by omega) (by omega) ?_ ?_))⟩⟩) (fun h => hf ?_) (hb_r7 ha) (hb_r7 hb)⟩
    · rw [nI_1]
      exact congrArg nI (by omega)
    · exact fun z => ht (hb_pt_s.mpr ⟨h, z⟩)
    · exact fun z => hf (fun y => z (hb_pt_s.mp y).2)
    · intro z
      have := (hb_pt_s.mp z).1
      omega
theorem hx_part {a b : Nat} (ha : a < 16807) (hb : b < 16807) (ht : hb_pt 5 a b = true → post 1) (hf : ¬ hb_pt 5 a b = true → post 0) : wpX_isPart post (nI a) (nI b) :=
  ⟨6, hx_part_7 5 a b (by omega) ha hb ht hf⟩
theorem hx_flp_2 {g : Nat → Nat} {m c : Nat} (hm : m ≤ 16807) (hc : c < 16807) (hg : ∀ j, j < m → ll j = nI (g j) ∧ g j < 16807)
    (hs : ∀ j, j < m → hb_pt 5 (g j) c = true → (∀ i, i < j → ¬ hb_pt 5 (g i) c = true) → post (nI (g j))) (hn : (∀ j, j < m → ¬ hb_pt 5 (g j) c = true) → post (-2)) :
    ∀ d k : Nat, k + d = m → (∀ i, i < k → ¬ hb_pt 5 (g i) c = true) → wX_firstLeastPart_2 post (nI c) bc (nI m) w bl ll fw ws (d + 1) (nI k) := by
  intro d
  induction d with
  | zero =>
    intro k hk h
    have e : k = m := by omega
    subst e
    exact br_t (nI_le (Nat.le_refl _) (by omega)) (hn h)
  | succ d ih =>
    intro k hk h
    have e : ll (nI k).toNatClampNeg = nI (g k) := by rw [nI_clamp (by omega)]; exact (hg k (by omega)).1
    refine br_f (nI_ge (by omega) (by omega)) ⟨vp_in_nI (by omega) (by decide), ?_⟩
    rw [e]
    refine hx_part (hg k (by omega)).2 hc (fun p => br_f (by decide) ⟨vp_in_nI (by omega) (by decide), hs k (by omega) p h⟩) (fun p => br_t rfl (nm_r (nI_1 k) (ih (k + 1) (by omega) ?_)))
    intro i hi
    by_cases z : i = k
    · subst z; exact p
    · exact h i (by omega)
theorem hx_flp {g : Nat → Nat} {m c : Nat} (hm : m ≤ 16807) (hc : c < 16807) (hg : ∀ j, j < m → ll j = nI (g j) ∧ g j < 16807)
    (hs : ∀ j, j < m → hb_pt 5 (g j) c = true → (∀ i, i < j → ¬ hb_pt 5 (g i) c = true) → post (nI (g j))) (hn : (∀ j, j < m → ¬ hb_pt 5 (g j) c = true) → post (-2)) :
    wpX_firstLeastPart post (bc, nI m, w, bl, ll, fw, ws) (nI c) :=
  ⟨m + 1, hx_flp_2 hm hc hg hs hn m 0 (by omega) (fun i h => absurd h (Nat.not_lt_zero i))⟩
end
section
variable {post : SX → Prop} {bc lc : Int32} {w ll fw ws : Nat → Int32}
theorem hx_gb_7 (hp : ∀ bl : Nat → Int32, (∀ j, j < (hb_E w 16807).1 → bl j = nI ((hb_E w 16807).2 j)) → post (nI (hb_E w 16807).1, lc, w, bl, ll, fw, ws)) :
    ∀ (d c : Nat) (bl : Nat → Int32), c + d = 16807 → (∀ j, j < (hb_E w c).1 → bl j = nI ((hb_E w c).2 j)) → wX_gatherBalances_7 post lc (d + 1) (nI c) (nI (hb_E w c).1) w bl ll fw ws := by
  intro d
  induction d with
  | zero =>
    intro c bl hc h
    have e : c = 16807 := by omega
    subst e
    exact br_t (nI_le (Nat.le_refl _) (by decide)) (hp bl h)
  | succ d ih =>
    intro c bl hc h
    refine br_f (nI_ge (b := 16807) (by omega) (by decide)) (hx_tiltB (by omega) (fun hB => br_t rfl ?_) (fun hB r hr => br_f hr (nm_r (nI_1 c) ?_)))
    · have i := hb_E_i w c
      have i1 := i.1
      have q := ih (c + 1)
      rw [hb_E_t hB] at q
      generalize hb_E w c = s at h i1 q ⊢
      obtain ⟨m, g⟩ := s
      dsimp only at h i1 q ⊢
      refine ⟨vp_in_nI (by omega) (by decide), nm_e (nm_r (nI_1 m) (nm_r (nI_1 c) (q _ (by omega) ?_)))⟩
      intro j hj
      rw [nI_clamp (by omega)]
      by_cases z : j = m
      · subst z; rw [pk_us, hb_put_s]
      · rw [pk_un z, hb_put_n z]; exact h j (by omega)
    · have q := ih (c + 1) bl (by omega)
      rw [hb_E_f hB] at q
      exact q h
theorem hx_gb {bl : Nat → Int32} (hp : ∀ bl : Nat → Int32, (∀ j, j < (hb_E w 16807).1 → bl j = nI ((hb_E w 16807).2 j)) → post (nI (hb_E w 16807).1, lc, w, bl, ll, fw, ws)) : wpX_gatherBalances post (bc, lc, w, bl, ll, fw, ws) :=
  ⟨16808, hx_gb_7 hp 16807 0 bl rfl (fun j h => absurd h (Nat.not_lt_zero j))⟩
end
section
variable {post : SX → Prop} {lc : Int32} {w bl fw ws : Nat → Int32} {me : Nat} {e : Nat → Nat}
theorem hx_gl_7 (hE : hb_EI w 16807 me e) (hb : ∀ j, j < me → bl j = nI (e j))
    (hp : ∀ ll : Nat → Int32, (∀ j, j < (hb_S w 16807).1 → ll j = nI ((hb_S w 16807).2 j)) → post (nI me, nI (hb_S w 16807).1, w, bl, ll, fw, ws)) :
    ∀ (d k q : Nat) (ll : Nat → Int32), k + d = me → 1 ≤ k → q ≤ 16807 → (∀ j, j < k → e j < q) → (∀ j, k ≤ j → j < me → q ≤ e j) → (∀ j, j < (hb_S w q).1 → ll j = nI ((hb_S w q).2 j)) → wX_gatherLeast_7 post (nI me) (d + 1) (nI k) (nI (hb_S w q).1) w bl ll fw ws := by
  obtain ⟨e1, e2, e3, e4⟩ := hE
  intro d
  induction d with
  | zero =>
    intro k q ll hk hk1 hq h1 h2 h
    have ek : k = me := by omega
    subst ek
    have gap : hb_S w (q + (16807 - q)) = hb_S w q := hb_S_gap _ (fun c c1 c2 => by
      rw [← Bool.not_eq_true]
      intro hB
      obtain ⟨j, hj, ej⟩ := e4 c (by omega) hB
      have := h1 j hj
      omega)
    rw [show q + (16807 - q) = 16807 by omega] at gap
    rw [← gap] at h ⊢
    exact br_t (nI_le (Nat.le_refl _) (by omega)) (hp ll h)
  | succ d ih =>
    intro k q ll hk hk1 hq h1 h2 h
    have k1 := e2 k (by omega)
    have hqk := h2 k (Nat.le_refl _) (by omega)
    have gap : hb_S w (q + (e k - q)) = hb_S w q := hb_S_gap _ (fun c c1 c2 => by
      rw [← Bool.not_eq_true]
      intro hB
      obtain ⟨j, hj, ej⟩ := e4 c (by omega) hB
      by_cases z : j < k
      · have := h1 j z
        omega
      · by_cases z2 : j = k
        · subst z2; omega
        · have := e3 k j (by omega) hj
          omega)
    rw [show q + (e k - q) = e k by omega] at gap
    rw [← gap] at h ⊢
    have eb : bl (nI k).toNatClampNeg = nI (e k) := by rw [nI_clamp (by omega)]; exact hb k (by omega)
    have few := hb_S_few w (n := e k) (by omega)
    obtain ⟨s1, s2, s3⟩ := hb_S_i w (e k)
    have n1 : ∀ j, j < k + 1 → e j < e k + 1 := fun j hj => by
      by_cases z : j = k
      · subst z; omega
      · have := e3 j k (by omega) (by omega)
        omega
    have n2 : ∀ j, k + 1 ≤ j → j < me → e k + 1 ≤ e j := fun j hj hj2 => by
      have := e3 k j (by omega) hj2
      omega
    have step := fun ll' => ih (k + 1) (e k + 1) ll' (by omega) (by omega) (by omega) n1 n2
    refine br_f (nI_ge (by omega) (by omega)) ⟨vp_in_nI (by omega) (by decide), nm_r eb ?_⟩
    refine hx_flp (g := (hb_S w (e k)).2) (by omega) k1.1 (fun j hj => ⟨h j hj, ?_⟩) (fun j hj p _ => br_t (nI_pos' ?_) (nm_r (nI_1 k) ?_)) (fun hn => br_f (by decide) ?_)
    · have := s1 j hj
      omega
    · have := s1 j hj
      omega
    · have st := step ll
      rw [hb_S_f (fun z => by
        have y := hb_any_t.mpr ⟨j, hj, p⟩
        rw [y] at z
        exact absurd z.2.2 (by decide))] at st
      exact st h
    · have st := step
      have z0 : e k ≠ 0 := by
        have := e3 0 k (by omega) (by omega)
        omega
      rw [hb_S_t z0 k1.2 (hb_any_f.mpr hn)] at st
      generalize hb_S w (e k) = s at h few st ⊢
      obtain ⟨m, g⟩ := s
      dsimp only at h few st ⊢
      refine ⟨vp_in_nI (by omega) (by decide), nm_e (nm_r (nI_1 m) (nm_r (nI_1 k) (st _ ?_)))⟩
      intro j hj
      rw [nI_clamp (by omega)]
      by_cases z : j = m
      · subst z; rw [pk_us, hb_put_s]
      · rw [pk_un z, hb_put_n z]; exact h j (by omega)
theorem hx_e0 (hE : hb_EI w 16807 me e) : 0 < me ∧ e 0 = 0 := by
  obtain ⟨e1, e2, e3, e4⟩ := hE
  obtain ⟨j, hj, ej⟩ := e4 0 (by decide) (hb_B0 w)
  refine ⟨by omega, ?_⟩
  by_cases z : j = 0
  · subst z; exact ej
  · have := e3 0 j (by omega) hj
    omega
theorem hx_gl {ll : Nat → Int32} (hE : hb_EI w 16807 me e) (hb : ∀ j, j < me → bl j = nI (e j))
    (hp : ∀ ll : Nat → Int32, (∀ j, j < (hb_S w 16807).1 → ll j = nI ((hb_S w 16807).2 j)) → post (nI me, nI (hb_S w 16807).1, w, bl, ll, fw, ws)) : wpX_gatherLeast post (nI me, lc, w, bl, ll, fw, ws) := by
  obtain ⟨m0, e0⟩ := hx_e0 hE
  have e1 : hb_S w 1 = hb_S w 0 := hb_S_f (fun z => z.1 rfl)
  have q := hx_gl_7 (fw := fw) (ws := ws) hE hb hp (me - 1) 1 1 ll (by omega) (Nat.le_refl 1) (by decide) (fun j hj => by
    have : j = 0 := by omega
    subst this
    omega) (fun j hj hj2 => by
    have := hE.2.2.1 0 j (by omega) hj2
    omega) (by rw [e1]; exact fun j h => absurd h (Nat.not_lt_zero j))
  rw [e1] at q
  exact ⟨_, q⟩
end
end
section
/-! the class's tables of sums, and rebuild -/
/-- the two tables hold, at every balance, what the first s terms give -/
def hb_T (w : Nat → Int32) (g : Nat → Nat) (s : Nat) (fw ws : Nat → Int32) : Prop := ∀ c, c < 16807 → hb_B w c = true → fw c = nI (hb_F g s c) ∧ ws c = hb_M g s c
section
variable {post : SX → Prop} {lc : Int32} {w bl ll : Nat → Int32} {me : Nat} {e : Nat → Nat}
theorem hx_ss_2 {g : Nat → Nat} (hE : hb_EI w 16807 me e) (hb : ∀ j, j < me → bl j = nI (e j)) (hp : ∀ fw ws : Nat → Int32, hb_T w g 0 fw ws → post (nI me, lc, w, bl, ll, fw, ws)) :
    ∀ (d k : Nat) (fw ws : Nat → Int32), k + d = me → (∀ j, j < k → fw (e j) = 16807 ∧ ws (e j) = 0) → wX_startSums_2 post (nI me) lc (d + 1) (nI k) w bl ll fw ws := by
  obtain ⟨e1, e2, e3, e4⟩ := hE
  intro d
  induction d with
  | zero =>
    intro k fw ws hk h
    have ek : k = me := by omega
    subst ek
    refine br_t (nI_le (Nat.le_refl _) (by omega)) (nm_e (nm_e (hp _ _ ?_)))
    intro c hc hB
    show upd fw 0 0 c = nI (hb_f0 c) ∧ upd ws 0 1 c = hb_w0 c
    by_cases z : c = 0
    · subst z
      exact ⟨rfl, rfl⟩
    · obtain ⟨j, hj, ej⟩ := e4 c hc hB
      have := h j hj
      rw [ej] at this
      rw [pk_un z, pk_un z, hb_f0, hb_w0, if_neg z, if_neg z]
      exact this
  | succ d ih =>
    intro k fw ws hk h
    have k1 := e2 k (by omega)
    have eb : bl (nI k).toNatClampNeg = nI (e k) := by rw [nI_clamp (by omega)]; exact hb k (by omega)
    refine br_f (nI_ge (by omega) (by omega)) ⟨vp_in_nI (by omega) (by decide), nm_r eb ⟨vp_in_nI k1.1 (by decide), nm_e ⟨vp_in_nI k1.1 (by decide), nm_e (nm_r (nI_1 k) (ih (k + 1) _ _ (by omega) ?_))⟩⟩⟩
    intro j hj
    rw [nI_clamp (show e k < 2 ^ 31 by omega)]
    by_cases z : j = k
    · subst z; rw [pk_us, pk_us]; exact ⟨rfl, rfl⟩
    · have := e3 j k (by omega) (by omega)
      rw [pk_un (by omega), pk_un (by omega)]
      exact h j (by omega)
theorem hx_ss {g : Nat → Nat} {fw ws : Nat → Int32} (hE : hb_EI w 16807 me e) (hb : ∀ j, j < me → bl j = nI (e j)) (hp : ∀ fw ws : Nat → Int32, hb_T w g 0 fw ws → post (nI me, lc, w, bl, ll, fw, ws)) : wpX_startSums post (nI me, lc, w, bl, ll, fw, ws) :=
  ⟨me + 1, hx_ss_2 hE hb hp me 0 fw ws (by omega) (fun j h => absurd h (Nat.not_lt_zero j))⟩
theorem hx_as_2 {g : Nat → Nat} {s : Nat} (hE : hb_EI w 16807 me e) (hb : ∀ j, j < me → bl j = nI (e j)) (g0 : 0 < g s) (g1 : g s < 16807) (g2 : hb_B w (g s) = true) (hF : ∀ b, hb_F g s b ≤ 16807) (hp : ∀ fw ws : Nat → Int32, hb_T w g (s + 1) fw ws → post (nI me, lc, w, bl, ll, fw, ws)) :
    ∀ (d k : Nat) (fw ws : Nat → Int32), k + d = me → (∀ j, j < k → fw (e j) = nI (hb_F g (s + 1) (e j)) ∧ ws (e j) = hb_M g (s + 1) (e j)) → (∀ j, k ≤ j → j < me → fw (e j) = nI (hb_F g s (e j)) ∧ ws (e j) = hb_M g s (e j)) → wX_addToSums_2 post (nI (g s)) (nI me) lc (d + 1) (nI k) w bl ll fw ws := by
  obtain ⟨e1, e2, e3, e4⟩ := hE
  have g1' : g s < 7 ^ 5 := by rw [hb_75]; exact g1
  intro d
  induction d with
  | zero =>
    intro k fw ws hk h _
    have ek : k = me := by omega
    subst ek
    refine br_t (nI_le (Nat.le_refl _) (by omega)) (hp _ _ ?_)
    intro c hc hB
    obtain ⟨j, hj, ej⟩ := e4 c hc hB
    have := h j hj
    rw [ej] at this
    exact this
  | succ d ih =>
    intro k fw ws hk h h'
    obtain ⟨k1, k2⟩ := e2 k (by omega)
    have eb : bl (nI k).toNatClampNeg = nI (e k) := by rw [nI_clamp (by omega)]; exact hb k (by omega)
    refine br_f (nI_ge (by omega) (by omega)) ⟨vp_in_nI (by omega) (by decide), nm_r eb (hx_part g1 k1 (fun p => br_f (by decide) ?_) (fun p => br_t rfl (nm_r (nI_1 k) (ih (k + 1) fw ws (by omega) ?_ ?_))))⟩
    · have hl := hb_pt_le 5 _ _ g1' p
      have hBr := hb_B_sub g1 p g2 k2
      obtain ⟨i, hi, ei⟩ := e4 (e k - g s) (by omega) hBr
      have hik : i < k := by
        by_cases z : i < k
        · exact z
        · by_cases z2 : i = k
          · subst z2; omega
          · have := e3 k i (by omega) hi
            omega
      have hr := h i hik
      have hk' := h' k (Nat.le_refl _) (by omega)
      rw [ei] at hr
      have fs : hb_F g (s + 1) (e k) = hb_fo (hb_F g s (e k)) (hb_F g (s + 1) (e k - g s)) := hb_it_p g0 g1 p
      have ms : hb_M g (s + 1) (e k) = hb_M g s (e k) + hb_M g (s + 1) (e k - g s) := hb_it_p g0 g1 p
      have f1 := hF (e k)
      have f2 := hb_F_s (b := e k - g s) g0 g1
      have f3 := hF (e k - g s)
      have fe := hb_fo_e (hb_F g s (e k)) (hb_F g (s + 1) (e k - g s))
      have ck : (nI (e k)).toNatClampNeg = e k := nI_clamp (by omega)
      have cr : (nI (e k - g s)).toNatClampNeg = e k - g s := nI_clamp (by omega)
      have vk : vp_in (nI (e k)) 16807 := vp_in_nI k1 (by decide)
      have vr : vp_in (nI (e k - g s)) 16807 := vp_in_nI (by omega) (by decide)
      refine nm_r (pk_sub hl) ?_
      rw [ck, cr, hk'.1, hk'.2, hr.1, hr.2, ← ms]
      refine ⟨vk, vr, vk, nm_e ⟨vr, vk, pk_le (hb_F g s (e k)) (hb_F g (s + 1) (e k - g s) + 1) (fun q => nm_r (nI_1 k) (ih (k + 1) _ _ (by omega) ?_ ?_)) (fun q => ⟨vr, vk, nm_e (nm_r (nI_1 k) (ih (k + 1) _ _ (by omega) ?_ ?_))⟩) rfl (nI_1 _) (by omega) (by omega)⟩⟩
      · intro j hj
        by_cases z : j = k
        · subst z
          rw [pk_us, hk'.1]
          exact ⟨congrArg nI (by omega), rfl⟩
        · have := e3 j k (by omega) (by omega)
          rw [pk_un (by omega)]
          exact h j (by omega)
      · intro j hj hj2
        have := e3 k j (by omega) hj2
        rw [pk_un (by omega)]
        exact h' j (by omega) hj2
      · intro j hj
        by_cases z : j = k
        · subst z
          rw [pk_us, pk_us, nI_1]
          exact ⟨congrArg nI (by omega), rfl⟩
        · have := e3 j k (by omega) (by omega)
          rw [pk_un (by omega), pk_un (by omega)]
          exact h j (by omega)
      · intro j hj hj2
        have := e3 k j (by omega) hj2
        rw [pk_un (by omega), pk_un (by omega)]
        exact h' j (by omega) hj2
    · intro j hj
      by_cases z : j = k
      · subst z
        have fs : hb_F g (s + 1) (e j) = hb_F g s (e j) := hb_it_n p
        have ms : hb_M g (s + 1) (e j) = hb_M g s (e j) := hb_it_n p
        rw [fs, ms]
        exact h' j (Nat.le_refl _) (by omega)
      · exact h j (by omega)
    · intro j hj hj2
      exact h' j (by omega) hj2
theorem hx_as {g : Nat → Nat} {s : Nat} {fw ws : Nat → Int32} (hE : hb_EI w 16807 me e) (hb : ∀ j, j < me → bl j = nI (e j)) (g0 : 0 < g s) (g1 : g s < 16807) (g2 : hb_B w (g s) = true) (hF : ∀ b, hb_F g s b ≤ 16807) (hT : hb_T w g s fw ws) (hp : ∀ fw ws : Nat → Int32, hb_T w g (s + 1) fw ws → post (nI me, lc, w, bl, ll, fw, ws)) :
    wpX_addToSums post (nI me, lc, w, bl, ll, fw, ws) (nI (g s)) :=
  ⟨me + 1, hx_as_2 hE hb g0 g1 g2 hF hp me 0 fw ws (by omega) (fun j h => absurd h (Nat.not_lt_zero j)) (fun j _ hj => hT _ (hE.2.1 j hj).1 (hE.2.1 j hj).2)⟩
theorem hx_rb_14 {g : Nat → Nat} {m : Nat} (hE : hb_EI w 16807 me e) (hb : ∀ j, j < me → bl j = nI (e j)) (hm : m ≤ 1813) (hg : ∀ j, j < m → 0 < g j ∧ g j < 16807 ∧ hb_B w (g j) = true) (hl : ∀ j, j < m → ll j = nI (g j)) (hp : ∀ fw ws : Nat → Int32, hb_T w g m fw ws → post (nI me, nI m, w, bl, ll, fw, ws)) :
    ∀ (d s : Nat) (fw ws : Nat → Int32), s + d = m → hb_T w g s fw ws → wX_rebuild_14 post (d + 1) (nI s) (nI me) (nI m) w bl ll fw ws := by
  intro d
  induction d with
  | zero =>
    intro s fw ws hs h
    have es : s = m := by omega
    subst es
    exact br_t (nI_le (Nat.le_refl _) (by omega)) (hp _ _ h)
  | succ d ih =>
    intro s fw ws hs h
    have es : ll (nI s).toNatClampNeg = nI (g s) := by rw [nI_clamp (by omega)]; exact hl s (by omega)
    obtain ⟨g0, g1, g2⟩ := hg s (by omega)
    refine br_f (nI_ge (by omega) (by omega)) ⟨vp_in_nI (by omega) (by decide), ?_⟩
    rw [es]
    refine hx_as hE hb g0 g1 g2 (fun b => hb_F_top (m := m) (fun j hj => ⟨(hg j hj).1, (hg j hj).2.1⟩) s b (by omega)) h ?_
    intro fw' ws' h'
    exact nm_r (nI_1 s) (ih (s + 1) fw' ws' (by omega) h')
end
/-- the class's state, told by the weights -/
def hb_XR (w : Nat → Int32) (u : SX) : Prop :=
  ∃ bl ll fw ws : Nat → Int32, u = (nI (hb_E w 16807).1, nI (hb_S w 16807).1, w, bl, ll, fw, ws) ∧ (∀ j, j < (hb_S w 16807).1 → ll j = nI ((hb_S w 16807).2 j)) ∧ hb_T w (hb_S w 16807).2 (hb_S w 16807).1 fw ws
theorem hx_rb {post : SX → Prop} {bc lc : Int32} {w bl ll fw ws : Nat → Int32} (hp : ∀ u : SX, hb_XR w u → post u) : wpX_rebuild post (bc, lc, w, bl, ll, fw, ws) := by
  have hE := hb_E_i w 16807
  have hm := hb_S_few w (n := 16807) (Nat.le_refl _)
  have hS := (hb_S_i w 16807).1
  refine hx_gb (bc := bc) ?_
  intro bl' hb
  refine hx_gl (lc := lc) (ll := ll) hE hb ?_
  intro ll' hl
  refine hx_ss (g := (hb_S w 16807).2) hE hb ?_
  intro fw' ws' hT
  exact ⟨_, hx_rb_14 hE hb hm hS hl (fun fw2 ws2 h2 => hp _ ⟨bl', ll', fw2, ws2, rfl, hl, h2⟩) _ 0 fw' ws' (Nat.zero_add _) hT⟩
end
section
/-! the reference's walks: digits, parts, its list -/
theorem hb_d2401 {a : Nat} (h : a < 16807) : nI a / 2401 = nI (a / 2401) := pk_div (d := 2401) (by omega) (by decide) (by decide)
theorem hb_d343 {a : Nat} (h : a < 16807) : nI a / 343 = nI (a / 343) := pk_div (d := 343) (by omega) (by decide) (by decide)
theorem hb_d49 {a : Nat} (h : a < 16807) : nI a / 49 = nI (a / 49) := pk_div (d := 49) (by omega) (by decide) (by decide)
section
variable {post : Int32 → Prop} {rd cn ba : Int32} {w cd mn fe : Nat → Int32}
theorem hy_dg {c i : Nat} (hc : c < 16807) (hi : i < 5) (h : post (nI (hb_dg c i))) : wpY_digit post (rd, cn, ba, w, cd, mn, fe) (nI c) (nI i) := by
  match i, hi with
  | 0, _ =>
    refine br_t (by decide) ⟨by decide, ?_⟩
    rw [hb_d2401 hc, hb_dg0 hc]
    exact h
  | 1, _ =>
    refine br_f (by decide) (br_t (by decide) ⟨by decide, by decide, ?_⟩)
    rw [hb_d343 hc, hb_r7 (by omega), hb_dg1]
    exact h
  | 2, _ =>
    refine br_f (by decide) (br_f (by decide) (br_t (by decide) ⟨by decide, by decide, ?_⟩))
    rw [hb_d49 hc, hb_r7 (by omega), hb_dg2]
    exact h
  | 3, _ =>
    refine br_f (by decide) (br_f (by decide) (br_f (by decide) (br_t (by decide) ⟨by decide, by decide, ?_⟩)))
    rw [hb_q7 hc, hb_r7 (by omega), hb_dg3]
    exact h
  | 4, _ =>
    refine br_f (by decide) (br_f (by decide) (br_f (by decide) (br_f (by decide) ⟨by decide, ?_⟩)))
    rw [hb_r7 hc, hb_dg4]
    exact h
theorem hy_bal_4 {c : Nat} (hc : c < 16807) (ht : hb_B w c = true → post 1) (hf : ¬ hb_B w c = true → post 0) :
    ∀ d i : Nat, i + d = 5 → wY_balanced_4 post (nI c) rd cn ba w cd mn fe (d + 1) (hb_sm (fun i => nI (hb_dg c i) * w i) i) (nI i) := by
  intro d
  induction d with
  | zero =>
    intro i hi
    have e : i = 5 := by omega
    subst e
    refine br_t (by decide) ?_
    rw [hb_tl_sm]
    exact br_c (fun z => ht (hb_B_i.mpr z)) (fun z => hf (fun y => z (hb_B_i.mp y)))
  | succ d ih =>
    intro i hi
    refine br_f (nI_ge (b := 5) (by omega) (by decide)) (hy_dg hc (by omega) ⟨vp_in_nI (by omega) (by decide), ?_⟩)
    rw [nI_clamp (by omega)]
    exact nm_e (nm_r (nI_1 i) (ih (i + 1) (by omega)))
theorem hy_bal {c : Nat} (hc : c < 16807) (ht : hb_B w c = true → post 1) (hf : ¬ hb_B w c = true → post 0) : wpY_balanced post (rd, cn, ba, w, cd, mn, fe) (nI c) :=
  ⟨6, hy_bal_4 hc ht hf 5 0 rfl⟩
theorem hy_part_2 {a b : Nat} (ha : a < 16807) (hb : b < 16807) (ht : hb_pt 5 a b = true → post 1) (hf : ¬ hb_pt 5 a b = true → post 0) :
    ∀ d i : Nat, i + d = 5 → (∀ j, j < i → hb_dg a j ≤ hb_dg b j) → wY_part_2 post (nI a) (nI b) rd cn ba w cd mn fe (d + 1) (nI i) := by
  intro d
  induction d with
  | zero =>
    intro i hi h
    have e : i = 5 := by omega
    subst e
    exact br_t (by decide) (ht (hb_pt_dg.mpr h))
  | succ d ih =>
    intro i hi h
    have da := hb_dg_le a i
    have db := hb_dg_le b i
    refine br_f (nI_ge (b := 5) (by omega) (by decide)) (hy_dg ha (by omega) (hy_dg hb (by omega) (pk_le (hb_dg a i) (hb_dg b i) (fun q => nm_r (nI_1 i) (ih (i + 1) (by omega) ?_)) (fun q => hf ?_))))
    · intro j hj
      by_cases z : j = i
      · subst z; exact q
      · exact h j (by omega)
    · intro z
      have := hb_pt_dg.mp z i (by omega)
      omega
theorem hy_part {a b : Nat} (ha : a < 16807) (hb : b < 16807) (ht : hb_pt 5 a b = true → post 1) (hf : ¬ hb_pt 5 a b = true → post 0) : wpY_part post (rd, cn, ba, w, cd, mn, fe) (nI a) (nI b) :=
  ⟨6, hy_part_2 ha hb ht hf 5 0 rfl (fun j h => absurd h (Nat.not_lt_zero j))⟩
theorem hy_al_2 {g : Nat → Nat} {m c : Nat} (hm : m ≤ 1813) (hc : c < 16807) (hg : ∀ j, j < m → cd j = nI (g j) ∧ g j < 16807)
    (ht : hb_any g c m = false → post 1) (hf : hb_any g c m = true → post 0) :
    ∀ d k : Nat, k + d = m → (∀ i, i < k → ¬ hb_pt 5 (g i) c = true) → wY_alone_2 post (nI c) rd (nI m) ba w cd mn fe (d + 1) (nI k) := by
  intro d
  induction d with
  | zero =>
    intro k hk h
    have e : k = m := by omega
    subst e
    exact br_t (nI_le (Nat.le_refl _) (by omega)) (ht (hb_any_f.mpr h))
  | succ d ih =>
    intro k hk h
    have e : cd (nI k).toNatClampNeg = nI (g k) := by rw [nI_clamp (by omega)]; exact (hg k (by omega)).1
    refine br_f (nI_ge (by omega) (by omega)) (br_f (nI_ge (b := 2000) (by omega) (by decide)) ⟨vp_in_nI (by omega) (by decide), ?_⟩)
    rw [e]
    refine hy_part (hg k (by omega)).2 hc (fun p => br_f (by decide) (hf (hb_any_t.mpr ⟨k, by omega, p⟩))) (fun p => br_t rfl (nm_r (nI_1 k) (ih (k + 1) (by omega) ?_)))
    intro i hi
    by_cases z : i = k
    · subst z; exact p
    · exact h i (by omega)
theorem hy_al {g : Nat → Nat} {m c : Nat} (hm : m ≤ 1813) (hc : c < 16807) (hg : ∀ j, j < m → cd j = nI (g j) ∧ g j < 16807)
    (ht : hb_any g c m = false → post 1) (hf : hb_any g c m = true → post 0) : wpY_alone post (rd, nI m, ba, w, cd, mn, fe) (nI c) :=
  ⟨m + 1, hy_al_2 hm hc hg ht hf m 0 (by omega) (fun i h => absurd h (Nat.not_lt_zero i))⟩
end
/-- the reference's list, told by the weights -/
def hb_YL (w : Nat → Int32) (cn ba : Int32) (cd : Nat → Int32) : Prop :=
  cn = nI (hb_S w 16807).1 ∧ ba = nI (hb_E w 16807).1 ∧ ∀ j, j < (hb_S w 16807).1 → cd j = nI ((hb_S w 16807).2 j)
section
variable {post : SY → Prop} {rd : Int32} {w mn fe : Nat → Int32}
theorem hy_wk_19 (hp : ∀ cd : Nat → Int32, (∀ j, j < (hb_S w 16807).1 → cd j = nI ((hb_S w 16807).2 j)) → post (1, nI (hb_S w 16807).1, nI (hb_E w 16807).1, w, cd, mn, fe)) :
    ∀ (d c : Nat) (cd : Nat → Int32), c + d = 16807 → 1 ≤ c → (∀ j, j < (hb_S w c).1 → cd j = nI ((hb_S w c).2 j)) → wY_work_19 post rd (d + 1) (nI c) (nI (hb_S w c).1) (nI (hb_E w c).1) w cd mn fe := by
  intro d
  induction d with
  | zero =>
    intro c cd hc _ h
    have e : c = 16807 := by omega
    subst e
    exact br_t (nI_le (Nat.le_refl _) (by decide)) (hp cd h)
  | succ d ih =>
    intro c cd hc h0 h
    have i1 := (hb_E_i w c).1
    have few := hb_S_few w (n := c) (by omega)
    obtain ⟨s1, s2, s3⟩ := hb_S_i w c
    refine br_f (nI_ge (b := 16807) (by omega) (by decide)) (hy_bal (by omega) (fun hB => br_f (by decide) (nm_r (nI_1 _) (br_f (by decide) (br_f (nI_ge (b := 2000) (by omega) (by decide)) (hy_al (g := (hb_S w c).2) few (by omega) (fun j hj => ⟨h j hj, ?_⟩) (fun z => br_f (by decide) ?_) (fun z => br_t rfl (nm_r (nI_1 c) ?_))))))) (fun hB => br_t rfl (br_t rfl (nm_r (nI_1 c) ?_))))
    · have := s1 j hj
      omega
    · have q := ih (c + 1)
      rw [hb_E_t hB, hb_S_t (by omega) hB z] at q
      generalize hb_S w c = s at h few q ⊢
      obtain ⟨m, g⟩ := s
      dsimp only at h few q ⊢
      refine ⟨vp_in_nI (by omega) (by decide), nm_e (nm_r (nI_1 m) (nm_r (nI_1 c) (q _ (by omega) (by omega) ?_)))⟩
      intro j hj
      rw [nI_clamp (by omega)]
      by_cases z : j = m
      · subst z; rw [pk_us, hb_put_s]
      · rw [pk_un z, hb_put_n z]; exact h j (by omega)
    · have q := ih (c + 1) cd (by omega) (by omega)
      rw [hb_E_t hB, hb_S_f (fun y => by rw [z] at y; exact absurd y.2.2 (by decide))] at q
      exact q h
    · have q := ih (c + 1) cd (by omega) (by omega)
      rw [hb_E_f hB, hb_S_f (fun y => hB y.2.1)] at q
      exact q h
theorem hy_wk {cn ba : Int32} {cd : Nat → Int32} (hr : ¬ rd = 0 → hb_YL w cn ba cd) (hp : ∀ (rd cn ba : Int32) (cd : Nat → Int32), ¬ rd = 0 → hb_YL w cn ba cd → post (rd, cn, ba, w, cd, mn, fe)) : wpY_work post (rd, cn, ba, w, cd, mn, fe) := by
  refine br_c (fun z => ?_) (fun z => hp _ _ _ _ z (hr z))
  have e1 : hb_S w 1 = hb_S w 0 := hb_S_f (fun z => z.1 rfl)
  have e2 : (hb_E w 1).1 = 1 := by rw [hb_E_t (hb_B0 w)]; rfl
  have q := hy_wk_19 (post := post) (rd := rd) (w := w) (mn := mn) (fe := fe) (fun cd h => hp 1 _ _ cd (by decide) ⟨rfl, rfl, h⟩) 16806 1 cd rfl (Nat.le_refl 1) (by rw [e1]; exact fun j h => absurd h (Nat.not_lt_zero j))
  rw [e1, e2] at q
  exact ⟨_, q⟩
end
end
section
/-! the reference's tables of sums -/
section
variable {post : Int32 → Prop} {rd cn ba : Int32} {w cd mn fe : Nat → Int32}
theorem hy_parts_4 {c : Nat} (hc : c < 16807) (h : post (nI (hb_pr 5 c))) :
    ∀ d i : Nat, i + d = 5 → wY_parts_4 post (nI c) rd cn ba w cd mn fe (d + 1) (nI (hb_pd c i)) (nI i) := by
  intro d
  induction d with
  | zero =>
    intro i hi
    have e : i = 5 := by omega
    subst e
    refine br_t (by decide) ?_
    rw [hb_pd_pr]
    exact h
  | succ d ih =>
    intro i hi
    refine br_f (nI_ge (b := 5) (by omega) (by decide)) (hy_dg hc (by omega) (nm_r (e' := nI (hb_pd c (i + 1))) ?_ (nm_r (nI_1 i) (ih (i + 1) (by omega)))))
    rw [nI_1, pk_mul]
    rfl
theorem hy_parts {c : Nat} (hc : c < 16807) (h : post (nI (hb_pr 5 c))) : wpY_parts post (rd, cn, ba, w, cd, mn, fe) (nI c) :=
  ⟨6, hy_parts_4 hc h 5 0 rfl⟩
theorem hb_ringU (s p x u : Int32) : s + p * x + 7 * x * u = s + x * (p + 7 * u) := by grind
theorem hy_un_11 {c : Nat} (hc : c < 16807) : ∀ (n r : Nat) (s x : Int32), n ≤ 5 → r < 16807 → post (s + x * nI (hb_un n (hb_sh (5 - n) c) r)) → wY_under_11 post (nI c) rd cn ba w cd mn fe (n + 1) (nI r) s x (nI n + (-1)) := by
  intro n
  induction n with
  | zero =>
    intro r s x _ _ h
    have h' : post s := by
      have e : s + x * nI (hb_un 0 (hb_sh (5 - 0) c) r) = s := by
        show s + x * nI 0 = s
        rw [nI_0, Int32.mul_zero, Int32.add_zero]
      rw [e] at h
      exact h
    exact br_t (by decide) h'
  | succ n ih =>
    intro r s x hn hr h
    rw [pk_m1]
    have hd := hb_dg_le c n
    have ed : hb_dg c n = hb_sh (5 - (n + 1)) c % 7 := by
      show hb_sh (4 - n) c % 7 = _
      rw [show 4 - n = 5 - (n + 1) by omega]
    have es : hb_sh (5 - n) c = hb_sh (5 - (n + 1)) c / 7 := by
      rw [show 5 - n = 5 - (n + 1) + 1 by omega]
      exact hb_sh_s _ _
    have hlt : r / (hb_dg c n + 1) < 16807 := Nat.lt_of_le_of_lt (Nat.div_le_self _ _) hr
    refine br_f (nI_pos (by omega)) (hy_dg hc (by omega) (nm_r (nI_1 _) (br_t (nI_le (a := 1) (by omega) (by omega)) ⟨nI_ne0 (by omega) (by omega), nm_r (e' := s + nI (r % (hb_dg c n + 1)) * x) ?_ ⟨nI_ne0 (by omega) (by omega), nm_r (pk_div (by omega) (by omega) (by omega)) (nm_e (nm_e (ih _ _ _ (by omega) hlt ?_)))⟩⟩)))
    · rw [pk_rem (by omega) (by omega) (by omega)]
    · rw [hb_ringU, es]
      have e : nI (hb_un (n + 1) (hb_sh (5 - (n + 1)) c) r) = nI (r % (hb_dg c n + 1)) + 7 * nI (hb_un n (hb_sh (5 - (n + 1)) c / 7) (r / (hb_dg c n + 1))) := by
        rw [ed]
        show nI (r % (hb_sh (5 - (n + 1)) c % 7 + 1) + 7 * hb_un n (hb_sh (5 - (n + 1)) c / 7) (r / (hb_sh (5 - (n + 1)) c % 7 + 1))) = _
        rw [← nI_add, ← pk_mul]
        rfl
      rw [e] at h
      exact h
theorem hy_un {c r : Nat} (hc : c < 16807) (hr : r < 16807) (h : post (nI (hb_un 5 c r))) : wpY_under post (rd, cn, ba, w, cd, mn, fe) (nI c) (nI r) := by
  have q := hy_un_11 (post := post) (rd := rd) (cn := cn) (ba := ba) (w := w) (cd := cd) (mn := mn) (fe := fe) hc 5 r 0 1 (by omega) hr (by
    rw [Int32.zero_add, Int32.one_mul]
    exact h)
  rw [pk_m1] at q
  exact ⟨6, q⟩
end
/-- the reference stops at 1000 -/
def hb_k (x : Nat) : Nat := if x ≤ 1000 then x else 1000
theorem hb_k_e (x : Nat) : (x ≤ 1000 ∧ hb_k x = x) ∨ (1000 < x ∧ hb_k x = 1000) := by
  unfold hb_k
  by_cases h : x ≤ 1000
  · rw [if_pos h]; exact Or.inl ⟨h, rfl⟩
  · rw [if_neg h]; exact Or.inr ⟨by omega, rfl⟩
/-- the tables at the row x hold what the first s terms give -/
def hb_V (g : Nat → Nat) (s : Nat) (mn fe : Nat → Int32) (x : Nat) : Prop := mn x = hb_M g s x ∧ fe x = nI (hb_k (hb_F g s x))
/-- .. at every row below c -/
def hb_U (g : Nat → Nat) (s c : Nat) (mn fe : Nat → Int32) : Prop := ∀ r, r < hb_pr 5 c → hb_V g s mn fe (hb_un 5 c r)
theorem hb_V_n {g : Nat → Nat} {s : Nat} {mn fe : Nat → Int32} {x : Nat} (p : ¬ hb_pt 5 (g s) x = true) (h : hb_V g s mn fe x) : hb_V g (s + 1) mn fe x := by
  have fs : hb_F g (s + 1) x = hb_F g s x := hb_it_n p
  have ms : hb_M g (s + 1) x = hb_M g s x := hb_it_n p
  unfold hb_V
  rw [fs, ms]
  exact h
theorem hb_V_u {g : Nat → Nat} {s : Nat} {mn fe : Nat → Int32} {x y : Nat} {a : Int32} (z : y ≠ x) (h : hb_V g s mn fe y) : hb_V g s (upd mn x a) fe y := by
  unfold hb_V
  rw [pk_un z]
  exact h
theorem hb_V_uu {g : Nat → Nat} {s : Nat} {mn fe : Nat → Int32} {x y : Nat} {a b : Int32} (z : y ≠ x) (h : hb_V g s mn fe y) : hb_V g s (upd mn x a) (upd fe x b) y := by
  unfold hb_V
  rw [pk_un z, pk_un z]
  exact h
theorem hb_un_16 (c r : Nat) : hb_un 5 c r < 16807 := hb_un_lt 5 c r
theorem hb_pr_16 (c : Nat) : hb_pr 5 c ≤ 16807 := hb_pr_le 5 c
section
variable {post : SY → Prop} {rd cn ba : Int32} {w cd : Nat → Int32}
theorem hy_sp_3 {g : Nat → Nat} {s c : Nat} (hc : c < 16807) (g0 : 0 < g s) (g1 : g s < 16807) (hp : ∀ mn fe : Nat → Int32, hb_U g (s + 1) c mn fe → post (rd, cn, ba, w, cd, mn, fe)) :
    ∀ (d i : Nat) (mn fe : Nat → Int32), i + d = hb_pr 5 c → (∀ r, r < i → hb_V g (s + 1) mn fe (hb_un 5 c r)) → (∀ r, i ≤ r → r < hb_pr 5 c → hb_V g s mn fe (hb_un 5 c r)) → wY_spread_3 post (nI (g s)) (nI c) (nI (hb_pr 5 c)) rd cn ba (d + 1) (nI i) w cd mn fe := by
  have g1' : g s < 7 ^ 5 := by rw [hb_75]; exact g1
  have hpr := hb_pr_16 c
  intro d
  induction d with
  | zero =>
    intro i mn fe hi h _
    have e : i = hb_pr 5 c := by omega
    subst e
    exact br_t (nI_le (Nat.le_refl _) (by omega)) (hp _ _ h)
  | succ d ih =>
    intro i mn fe hi h h'
    have hu := hb_un_16 c i
    have hup := hb_un_pt 5 c i
    have skip : ¬ hb_pt 5 (g s) (hb_un 5 c i) = true → wY_spread_3 post (nI (g s)) (nI c) (nI (hb_pr 5 c)) rd cn ba (d + 1) (nI (i + 1)) w cd mn fe := fun p => by
      refine ih (i + 1) mn fe (by omega) ?_ (fun r hr hr2 => h' r (by omega) hr2)
      intro r hr
      by_cases z : r = i
      · subst z; exact hb_V_n p (h' r (Nat.le_refl _) (by omega))
      · exact h r (by omega)
    refine br_f (nI_ge (by omega) (by omega)) (hy_un hc (by omega) (pk_lt (hb_un 5 c i) (g s) (fun q => nm_r (nI_1 i) (skip (fun p => ?_))) (fun q => hy_part g1 hu (fun p => br_f (by decide) ?_) (fun p => br_t rfl (nm_r (nI_1 i) (skip p))))))
    · have := hb_pt_le 5 _ _ g1' p
      omega
    · have hs := hb_pt_sub 5 _ _ g1' p
      obtain ⟨r, hr, er⟩ := hb_un_onto 5 c (hb_un 5 c i - g s) (by rw [hb_75]; omega) (hb_pt_trans 5 _ _ _ hs hup)
      have hri : r < i := by
        by_cases z : r < i
        · exact z
        · by_cases z2 : r = i
          · subst z2; omega
          · have := hb_un_mono 5 c i r (by omega) hr
            omega
      obtain ⟨v1, v2⟩ := h r hri
      obtain ⟨v3, v4⟩ := h' i (Nat.le_refl _) (by omega)
      rw [er] at v1 v2
      have inj : ∀ r, r < hb_pr 5 c → r ≠ i → hb_un 5 c r ≠ hb_un 5 c i := fun r hr hne => by
        by_cases z : r < i
        · have := hb_un_mono 5 c r i z (by omega)
          omega
        · have := hb_un_mono 5 c i r (by omega) hr
          omega
      have fs : hb_F g (s + 1) (hb_un 5 c i) = hb_fo (hb_F g s (hb_un 5 c i)) (hb_F g (s + 1) (hb_un 5 c i - g s)) := hb_it_p g0 g1 p
      have ms : hb_M g (s + 1) (hb_un 5 c i) = hb_M g s (hb_un 5 c i) + hb_M g (s + 1) (hb_un 5 c i - g s) := hb_it_p g0 g1 p
      have fe' := hb_fo_e (hb_F g s (hb_un 5 c i)) (hb_F g (s + 1) (hb_un 5 c i - g s))
      have k1 := hb_k_e (hb_F g s (hb_un 5 c i))
      have k2 := hb_k_e (hb_F g (s + 1) (hb_un 5 c i))
      have k3 := hb_k_e (hb_F g (s + 1) (hb_un 5 c i - g s))
      have cu : (nI (hb_un 5 c i)).toNatClampNeg = hb_un 5 c i := nI_clamp (by omega)
      have cr : (nI (hb_un 5 c i - g s)).toNatClampNeg = hb_un 5 c i - g s := nI_clamp (by omega)
      have vk : vp_in (nI (hb_un 5 c i)) 16807 := vp_in_nI hu (by decide)
      have vr : vp_in (nI (hb_un 5 c i - g s)) 16807 := vp_in_nI (by omega) (by decide)
      rw [pk_sub q, cu, cr, v1, v2, v3, v4, ← ms]
      refine ⟨vk, vr, vk, nm_e ⟨vr, nm_r (nI_1 _) ⟨vk, pk_le (hb_k (hb_F g s (hb_un 5 c i))) (hb_k (hb_F g (s + 1) (hb_un 5 c i - g s)) + 1) (fun q2 => nm_r (nI_1 i) (ih (i + 1) _ _ (by omega) ?_ ?_)) (fun q2 => ⟨vk, nm_e (nm_r (nI_1 i) (ih (i + 1) _ _ (by omega) ?_ ?_))⟩) rfl rfl (by omega) (by omega)⟩⟩⟩
      · intro r hr
        by_cases z : r = i
        · subst z
          refine ⟨pk_us, ?_⟩
          rw [v4]
          exact congrArg nI (by omega)
        · exact hb_V_u (inj r (by omega) z) (h r (by omega))
      · intro r hr hr2
        exact hb_V_u (inj r hr2 (by omega)) (h' r (by omega) hr2)
      · intro r hr
        by_cases z : r = i
        · subst z
          refine ⟨pk_us, ?_⟩
          rw [pk_us]
          exact congrArg nI (by omega)
        · exact hb_V_uu (inj r (by omega) z) (h r (by omega))
      · intro r hr hr2
        exact hb_V_uu (inj r hr2 (by omega)) (h' r (by omega) hr2)
theorem hy_sp {g : Nat → Nat} {s c : Nat} {mn fe : Nat → Int32} (hc : c < 16807) (g0 : 0 < g s) (g1 : g s < 16807) (hU : hb_U g s c mn fe) (hp : ∀ mn fe : Nat → Int32, hb_U g (s + 1) c mn fe → post (rd, cn, ba, w, cd, mn, fe)) :
    wpY_spread post (rd, cn, ba, w, cd, mn, fe) (nI (g s)) (nI c) (nI (hb_pr 5 c)) :=
  ⟨hb_pr 5 c + 1, hy_sp_3 hc g0 g1 hp _ 0 mn fe (Nat.zero_add _) (fun r h => absurd h (Nat.not_lt_zero r)) (fun r _ hr => hU r hr)⟩
theorem hy_su_65 {g : Nat → Nat} {m c : Nat} (hm : m ≤ 1813) (hc : c < 16807) (hg : ∀ j, j < m → cd j = nI (g j) ∧ 0 < g j ∧ g j < 16807) (hp : ∀ mn fe : Nat → Int32, hb_U g m c mn fe → post (rd, nI m, ba, w, cd, mn, fe)) :
    ∀ (d s : Nat) (mn fe : Nat → Int32), s + d = m → hb_U g s c mn fe → wY_sums_65 post (nI c) (nI (hb_pr 5 c)) (d + 1) (nI s) rd (nI m) ba w cd mn fe := by
  intro d
  induction d with
  | zero =>
    intro s mn fe hs h
    have e : s = m := by omega
    subst e
    exact br_t (nI_le (Nat.le_refl _) (by omega)) (hp _ _ h)
  | succ d ih =>
    intro s mn fe hs h
    obtain ⟨c1, g0, g1⟩ := hg s (by omega)
    have e : cd (nI s).toNatClampNeg = nI (g s) := by rw [nI_clamp (by omega)]; exact c1
    refine br_f (nI_ge (by omega) (by omega)) (br_f (nI_ge (b := 2000) (by omega) (by decide)) ⟨vp_in_nI (by omega) (by decide), ?_⟩)
    rw [e]
    refine hy_part g1 hc (fun p => br_f (by decide) ⟨vp_in_nI (by omega) (by decide), hy_sp hc g0 g1 h ?_⟩) (fun p => br_t rfl (nm_r (nI_1 s) (ih (s + 1) mn fe (by omega) ?_)))
    · intro mn' fe' h'
      exact nm_r (nI_1 s) (ih (s + 1) mn' fe' (by omega) h')
    · intro r hr
      exact hb_V_n (fun z => p (hb_pt_trans 5 _ _ _ z (hb_un_pt 5 c r))) (h r hr)
theorem hy_su_8 {g : Nat → Nat} {m c : Nat} (hm : m ≤ 1813) (hc : c < 16807) (hg : ∀ j, j < m → cd j = nI (g j) ∧ 0 < g j ∧ g j < 16807) (hp : ∀ mn fe : Nat → Int32, hb_U g m c mn fe → post (rd, nI m, ba, w, cd, mn, fe)) :
    ∀ (d i : Nat) (mn fe : Nat → Int32), i + d = hb_pr 5 c → (∀ r, r < i → hb_V g 0 mn fe (hb_un 5 c r)) → wY_sums_8 post (nI c) (nI (hb_pr 5 c)) rd (nI m) ba (d + 1) (nI i) w cd mn fe := by
  have hpr := hb_pr_16 c
  intro d
  induction d with
  | zero =>
    intro i mn fe hi h
    have e : i = hb_pr 5 c := by omega
    subst e
    exact br_t (nI_le (Nat.le_refl _) (by omega)) ⟨_, hy_su_65 hm hc hg hp m 0 mn fe (Nat.zero_add _) h⟩
  | succ d ih =>
    intro i mn fe hi h
    have hu := hb_un_16 c i
    have cu : (nI (hb_un 5 c i)).toNatClampNeg = hb_un 5 c i := nI_clamp (by omega)
    have vk : vp_in (nI (hb_un 5 c i)) 16807 := vp_in_nI hu (by decide)
    have next : ∀ a b : Int32, a = hb_w0 (hb_un 5 c i) → b = nI (hb_k (hb_f0 (hb_un 5 c i))) → wY_sums_8 post (nI c) (nI (hb_pr 5 c)) rd (nI m) ba (d + 1) (nI (i + 1)) w cd (upd mn (hb_un 5 c i) a) (upd fe (hb_un 5 c i) b) := fun a b ea eb => by
      refine ih (i + 1) _ _ (by omega) ?_
      intro r hr
      by_cases z : r = i
      · subst z
        refine ⟨?_, ?_⟩
        · rw [pk_us]; exact ea
        · rw [pk_us]; exact eb
      · have := hb_un_mono 5 c r i (by omega) (by omega)
        exact hb_V_uu (by omega) (h r (by omega))
    refine br_f (nI_ge (by omega) (by omega)) (hy_un hc (by omega) (pk_eq (hb_un 5 c i) 0 (fun z => ⟨vk, ?_⟩) (fun z => ⟨vk, ?_⟩)))
    · rw [cu]
      have z1 : nI (hb_un 5 c i) = 0 := by rw [z]; rfl
      exact nm_e (br_t z1 ⟨vk, nm_e (nm_r (nI_1 i) (next 1 0 (by rw [z]; rfl) (by rw [z]; rfl)))⟩)
    · rw [cu]
      have z1 : ¬ nI (hb_un 5 c i) = 0 := nI_ne0 (by omega) (by omega)
      exact nm_e (br_f z1 ⟨vk, nm_e (nm_r (nI_1 i) (next 0 1000 (by rw [hb_w0, if_neg z]) (by rw [hb_f0, if_neg z]; rfl)))⟩)
theorem hy_su {g : Nat → Nat} {m c : Nat} {mn fe : Nat → Int32} (hm : m ≤ 1813) (hc : c < 16807) (hg : ∀ j, j < m → cd j = nI (g j) ∧ 0 < g j ∧ g j < 16807) (hp : ∀ mn fe : Nat → Int32, hb_U g m c mn fe → post (rd, nI m, ba, w, cd, mn, fe)) : wpY_sums post (rd, nI m, ba, w, cd, mn, fe) (nI c) :=
  hy_parts hc ⟨_, hy_su_8 hm hc hg hp _ 0 mn fe (Nat.zero_add _) (fun r h => absurd h (Nat.not_lt_zero r))⟩
end
end
section
/-! the questions' loops, both sides -/
section
variable {post : Int32 → Prop} {bc lc : Int32} {w bl ll fw ws : Nat → Int32}
theorem hx_dg_4 {i : Nat} : ∀ d c : Nat, i + d < 5 → c < 16807 → post (nI (hb_sh d c % 7)) → wX_digit_4 post (nI i) (d + 1) (nI c) (nI (i + d)) := by
  intro d
  induction d with
  | zero =>
    intro c hi hc h
    refine br_t (nI_le (by omega) (by omega)) ⟨hb_n7, ?_⟩
    rw [hb_r7 hc]
    exact h
  | succ d ih =>
    intro c hi hc h
    exact br_f (nI_ge (by omega) (by omega)) ⟨hb_n7, nm_r (hb_q7 hc) (nm_r (pk_m1 (i + d)) (ih (c / 7) (by omega) (by omega) h))⟩
theorem hx_dg {c i : Nat} (hc : c < 16807) (hi : i < 5) (h : post (nI (hb_dg c i))) : wpX_digit post (nI c) (nI i) := by
  have q := hx_dg_4 (post := post) (i := i) (4 - i) c (by omega) hc h
  rw [show i + (4 - i) = 4 by omega] at q
  exact ⟨_, q⟩
theorem hx_ds_6 : ∀ d i c s : Nat, i + d = 5 → c < 16807 → post (nI (s + hb_ds d c)) → wX_digitSum_6 post (d + 1) (nI c) (nI s) (nI i) := by
  intro d
  induction d with
  | zero =>
    intro i c s hi hc h
    have e : i = 5 := by omega
    subst e
    exact br_t (by decide) h
  | succ d ih =>
    intro i c s hi hc h
    refine br_f (nI_ge (b := 5) (by omega) (by decide)) ⟨hb_n7, nm_r (e' := nI (s + c % 7)) ?_ ⟨hb_n7, nm_r (hb_q7 hc) (nm_r (nI_1 i) (ih (i + 1) (c / 7) (s + c % 7) (by omega) (by omega) ?_))⟩⟩
    · rw [hb_r7 hc, nI_add]
    · rw [Nat.add_assoc]
      exact h
theorem hx_ds {c : Nat} (hc : c < 16807) (h : post (nI (hb_ds 5 c))) : wpX_digitSum post (nI c) :=
  ⟨6, hx_ds_6 5 0 c 0 rfl hc (by rw [Nat.zero_add]; exact h)⟩
theorem hx_il_11 {g : Nat → Nat} {m c : Nat} (hm : m ≤ 1813) (hc : c < 16807) (hg : ∀ j, j < m → ll j = nI (g j) ∧ g j < 16807) (h1 : (∃ j, j < m ∧ g j = c) → post 1) (h0 : (∀ j, j < m → g j ≠ c) → post 0) :
    ∀ d k : Nat, k + d = m → (∀ j, j < k → g j ≠ c) → wX_isLeast_11 post (nI c) bc (nI m) w bl ll fw ws (d + 1) (nI k) := by
  intro d
  induction d with
  | zero =>
    intro k hk h
    have e : k = m := by omega
    subst e
    exact br_t (nI_le (Nat.le_refl _) (by omega)) (h0 h)
  | succ d ih =>
    intro k hk h
    obtain ⟨c1, g1⟩ := hg k (by omega)
    have e : ll (nI k).toNatClampNeg = nI (g k) := by rw [nI_clamp (by omega)]; exact c1
    refine br_f (nI_ge (by omega) (by omega)) ⟨vp_in_nI (by omega) (by decide), ?_⟩
    rw [e]
    refine pk_eq (g k) c (fun q => h1 ⟨k, by omega, q⟩) (fun q => nm_r (nI_1 k) (ih (k + 1) (by omega) ?_))
    intro j hj
    by_cases z : j = k
    · subst z; exact q
    · exact h j (by omega)
theorem hx_us_13 {g : Nat → Nat} {m i : Nat} (hm : m ≤ 1813) (hi : i < 5) (hg : ∀ j, j < m → ll j = nI (g j) ∧ g j < 16807) (h : post (nI (hb_sn (fun k => if hb_dg (g k) i = 0 then 0 else 1) m))) :
    ∀ d k : Nat, k + d = m → wX_using_13 post (nI i) bc (nI m) w bl ll fw ws (d + 1) (nI (hb_sn (fun k => if hb_dg (g k) i = 0 then 0 else 1) k)) (nI k) := by
  intro d
  induction d with
  | zero =>
    intro k hk
    have e : k = m := by omega
    subst e
    exact br_t (nI_le (Nat.le_refl _) (by omega)) h
  | succ d ih =>
    intro k hk
    obtain ⟨c1, g1⟩ := hg k (by omega)
    have e : ll (nI k).toNatClampNeg = nI (g k) := by rw [nI_clamp (by omega)]; exact c1
    have q := ih (k + 1) (by omega)
    have dl := hb_dg_le (g k) i
    refine br_f (nI_ge (by omega) (by omega)) ⟨vp_in_nI (by omega) (by decide), ?_⟩
    rw [e]
    refine hx_dg g1 hi (pk_le (hb_dg (g k) i) 0 (fun z => nm_r (nI_1 k) ?_) (fun z => nm_r (nI_1 _) (nm_r (nI_1 k) ?_)))
    · have ez : hb_sn (fun k => if hb_dg (g k) i = 0 then 0 else 1) (k + 1) = hb_sn (fun k => if hb_dg (g k) i = 0 then 0 else 1) k := by
        show _ + (if hb_dg (g k) i = 0 then 0 else 1) = _
        rw [if_pos (by omega), Nat.add_zero]
      rw [ez] at q
      exact q
    · have ez : hb_sn (fun k => if hb_dg (g k) i = 0 then 0 else 1) (k + 1) = hb_sn (fun k => if hb_dg (g k) i = 0 then 0 else 1) k + 1 := by
        show _ + (if hb_dg (g k) i = 0 then 0 else 1) = _
        rw [if_neg (by omega)]
      rw [ez] at q
      exact q
theorem hx_lo_4 {g : Nat → Nat} {m : Nat} (hm : m ≤ 1813) (hg : ∀ j, j < m → ll j = nI (g j) ∧ g j < 16807) (h : post (nI (hb_mx (fun k => hb_ds 5 (g k)) m))) :
    ∀ d k : Nat, k + d = m → wX_longest_4 post bc (nI m) w bl ll fw ws (d + 1) (nI (hb_mx (fun k => hb_ds 5 (g k)) k)) (nI k) := by
  intro d
  induction d with
  | zero =>
    intro k hk
    have e : k = m := by omega
    subst e
    exact br_t (nI_le (Nat.le_refl _) (by omega)) h
  | succ d ih =>
    intro k hk
    obtain ⟨c1, g1⟩ := hg k (by omega)
    have e : ll (nI k).toNatClampNeg = nI (g k) := by rw [nI_clamp (by omega)]; exact c1
    have q := ih (k + 1) (by omega)
    have b1 := hb_ds_le 5 (g k)
    have b2 := hb_mx_le (f := fun k => hb_ds 5 (g k)) (fun i => hb_ds_le 5 (g i)) k
    refine br_f (nI_ge (by omega) (by omega)) ⟨vp_in_nI (by omega) (by decide), ?_⟩
    rw [e]
    refine hx_ds g1 (pk_le (hb_ds 5 (g k)) (hb_mx (fun k => hb_ds 5 (g k)) k) (fun z => nm_r (nI_1 k) ?_) (fun z => nm_r (nI_1 k) ?_))
    · have ez : hb_mx (fun k => hb_ds 5 (g k)) (k + 1) = hb_mx (fun k => hb_ds 5 (g k)) k := if_neg (Nat.not_lt.mpr z)
      rw [ez] at q
      exact q
    · have ez : hb_mx (fun k => hb_ds 5 (g k)) (k + 1) = hb_ds 5 (g k) := if_pos z
      rw [ez] at q
      exact q
end
section
variable {post : Int32 → SY → Prop} {rd ba : Int32} {w cd mn fe : Nat → Int32} {g : Nat → Nat} {m : Nat}
theorem hy_il_16 {c : Nat} (hm : m ≤ 1813) (hc : c < 16807) (hg : ∀ j, j < m → cd j = nI (g j) ∧ g j < 16807) (h1 : (∃ j, j < m ∧ g j = c) → post 1 (rd, nI m, ba, w, cd, mn, fe)) (h0 : (∀ j, j < m → g j ≠ c) → post 0 (rd, nI m, ba, w, cd, mn, fe)) :
    ∀ d k : Nat, k + d = m → (∀ j, j < k → g j ≠ c) → wY_isLeast_16 post (nI c) rd (nI m) ba w cd mn fe (d + 1) (nI k) := by
  intro d
  induction d with
  | zero =>
    intro k hk h
    have e : k = m := by omega
    subst e
    exact br_t (nI_le (Nat.le_refl _) (by omega)) (h0 h)
  | succ d ih =>
    intro k hk h
    obtain ⟨c1, g1⟩ := hg k (by omega)
    have e : cd (nI k).toNatClampNeg = nI (g k) := by rw [nI_clamp (by omega)]; exact c1
    refine br_f (nI_ge (by omega) (by omega)) (br_f (nI_ge (b := 2000) (by omega) (by decide)) ⟨vp_in_nI (by omega) (by decide), ?_⟩)
    rw [e]
    refine pk_eq (g k) c (fun q => h1 ⟨k, by omega, q⟩) (fun q => nm_r (nI_1 k) (ih (k + 1) (by omega) ?_))
    intro j hj
    by_cases z : j = k
    · subst z; exact q
    · exact h j (by omega)
theorem hy_us_19 {i : Nat} (hm : m ≤ 1813) (hi : i < 5) (hg : ∀ j, j < m → cd j = nI (g j) ∧ g j < 16807) (h : post (nI (hb_sn (fun k => if hb_dg (g k) i = 0 then 0 else 1) m)) (rd, nI m, ba, w, cd, mn, fe)) :
    ∀ d k : Nat, k + d = m → wY_using_19 post (nI i) rd (nI m) ba w cd mn fe (d + 1) (nI (hb_sn (fun k => if hb_dg (g k) i = 0 then 0 else 1) k)) (nI k) := by
  intro d
  induction d with
  | zero =>
    intro k hk
    have e : k = m := by omega
    subst e
    exact br_t (nI_le (Nat.le_refl _) (by omega)) h
  | succ d ih =>
    intro k hk
    obtain ⟨c1, g1⟩ := hg k (by omega)
    have e : cd (nI k).toNatClampNeg = nI (g k) := by rw [nI_clamp (by omega)]; exact c1
    have q := ih (k + 1) (by omega)
    have dl := hb_dg_le (g k) i
    refine br_f (nI_ge (by omega) (by omega)) (br_f (nI_ge (b := 2000) (by omega) (by decide)) ⟨vp_in_nI (by omega) (by decide), ?_⟩)
    rw [e]
    refine hy_dg g1 hi (pk_le (hb_dg (g k) i) 0 (fun z => nm_r (nI_1 k) ?_) (fun z => nm_r (nI_1 _) (nm_r (nI_1 k) ?_)))
    · have ez : hb_sn (fun k => if hb_dg (g k) i = 0 then 0 else 1) (k + 1) = hb_sn (fun k => if hb_dg (g k) i = 0 then 0 else 1) k := by
        show _ + (if hb_dg (g k) i = 0 then 0 else 1) = _
        rw [if_pos (by omega), Nat.add_zero]
      rw [ez] at q
      exact q
    · have ez : hb_sn (fun k => if hb_dg (g k) i = 0 then 0 else 1) (k + 1) = hb_sn (fun k => if hb_dg (g k) i = 0 then 0 else 1) k + 1 := by
        show _ + (if hb_dg (g k) i = 0 then 0 else 1) = _
        rw [if_neg (by omega)]
      rw [ez] at q
      exact q
theorem hy_lo_28 {J : Int32 → Int32 → Prop} {c k x : Nat} (hc : c < 16807) (hk : k < 1813) (hx : x ≤ 30) (ek : cd k = nI c) (h1 : hb_ds 5 c ≤ x → J (nI x) (nI (k + 1))) (h2 : x < hb_ds 5 c → J (nI (hb_ds 5 c)) (nI (k + 1))) :
    ∀ d i : Nat, i + d = 5 → wY_longest_28 post J (nI x) (nI k) rd (nI m) ba w cd mn fe (d + 1) (nI (hb_sn (hb_dg c) i)) (nI i) := by
  intro d
  induction d with
  | zero =>
    intro i hi
    have e : i = 5 := by omega
    subst e
    have b1 := hb_ds_le 5 c
    rw [hb_ds_sn]
    exact br_t (by decide) (pk_le (hb_ds 5 c) x (fun z => nm_r (nI_1 k) (h1 z)) (fun z => nm_r (nI_1 k) (h2 z)))
  | succ d ih =>
    intro i hi
    have e : cd (nI k).toNatClampNeg = nI c := by rw [nI_clamp (by omega)]; exact ek
    refine br_f (nI_ge (b := 5) (by omega) (by decide)) ⟨vp_in_nI (by omega) (by decide), ?_⟩
    rw [e]
    exact hy_dg hc (by omega) (nm_r (nI_add _ _) (nm_r (nI_1 i) (ih (i + 1) (by omega))))
theorem hy_lo_8 (hm : m ≤ 1813) (hg : ∀ j, j < m → cd j = nI (g j) ∧ g j < 16807) (h : post (nI (hb_mx (fun k => hb_ds 5 (g k)) m)) (rd, nI m, ba, w, cd, mn, fe)) :
    ∀ d k : Nat, k + d = m → wY_longest_8 post rd (nI m) ba w cd mn fe (d + 1) (nI (hb_mx (fun k => hb_ds 5 (g k)) k)) (nI k) := by
  intro d
  induction d with
  | zero =>
    intro k hk
    have e : k = m := by omega
    subst e
    exact br_t (nI_le (Nat.le_refl _) (by omega)) h
  | succ d ih =>
    intro k hk
    obtain ⟨c1, g1⟩ := hg k (by omega)
    have q := ih (k + 1) (by omega)
    have b2 := hb_mx_le (f := fun k => hb_ds 5 (g k)) (fun i => hb_ds_le 5 (g i)) k
    refine br_f (nI_ge (by omega) (by omega)) (br_f (nI_ge (b := 2000) (by omega) (by decide)) ⟨6, hy_lo_28 g1 (by omega) b2 c1 ?_ ?_ 5 0 rfl⟩)
    · intro z
      have ez : hb_mx (fun k => hb_ds 5 (g k)) (k + 1) = hb_mx (fun k => hb_ds 5 (g k)) k := if_neg (Nat.not_lt.mpr z)
      rw [ez] at q
      exact q
    · intro z
      have ez : hb_mx (fun k => hb_ds 5 (g k)) (k + 1) = hb_ds 5 (g k) := if_pos z
      rw [ez] at q
      exact q
theorem hy_in_16 {c : Nat} (hm : m ≤ 1813) (hc : c < 16807) (hg : ∀ j, j < m → cd j = nI (g j) ∧ g j < 16807)
    (hs : ∀ j, j < m → hb_pt 5 (g j) c = true → (∀ i, i < j → ¬ hb_pt 5 (g i) c = true) → post (nI (g j)) (rd, nI m, ba, w, cd, mn, fe)) (hn : (∀ j, j < m → ¬ hb_pt 5 (g j) c = true) → post (-2) (rd, nI m, ba, w, cd, mn, fe)) :
    ∀ d k : Nat, k + d = m → (∀ i, i < k → ¬ hb_pt 5 (g i) c = true) → wY_inside_16 post (nI c) rd (nI m) ba w cd mn fe (d + 1) (nI k) := by
  intro d
  induction d with
  | zero =>
    intro k hk h
    have e : k = m := by omega
    subst e
    exact br_t (nI_le (Nat.le_refl _) (by omega)) (hn h)
  | succ d ih =>
    intro k hk h
    obtain ⟨c1, g1⟩ := hg k (by omega)
    have e : cd (nI k).toNatClampNeg = nI (g k) := by rw [nI_clamp (by omega)]; exact c1
    refine br_f (nI_ge (by omega) (by omega)) (br_f (nI_ge (b := 2000) (by omega) (by decide)) ⟨vp_in_nI (by omega) (by decide), ?_⟩)
    rw [e]
    refine hy_part g1 hc (fun p => br_f (by decide) ⟨vp_in_nI (by omega) (by decide), hs k (by omega) p h⟩) (fun p => br_t rfl (nm_r (nI_1 k) (ih (k + 1) (by omega) ?_)))
    intro i hi
    by_cases z : i = k
    · subst z; exact p
    · exact h i (by omega)
end
/-! how many balances have a given sum -/
def hb_ind (x : Int32) : Int32 := if x = 0 then 1 else 0
def hb_c4 (w : Nat → Int32) (s : Nat) (t : Int32) (a y : Nat) : Int32 := hb_ind (t + nI a * w 2 + nI y * w 3 + nI (s - a - y) * w 4)
def hb_c3 (w : Nat → Int32) (s : Nat) (t : Int32) (a : Nat) : Int32 := hb_sm (hb_c4 w s t a) (s - a + 1)
def hb_cp (w : Nat → Int32) (s : Nat) (t : Int32) : Int32 := hb_sm (hb_c3 w s t) (s + 1)
def hb_b1 (w : Nat → Int32) (n a y : Nat) : Int32 := hb_cp w (n - a - y) (nI a * w 0 + nI y * w 1)
def hb_b0 (w : Nat → Int32) (n a : Nat) : Int32 := hb_sm (hb_b1 w n a) (n - a + 1)
theorem hb_sub3 {s a y : Nat} (h1 : a ≤ s) (h2 : y ≤ s - a) : nI s - nI a - nI y = nI (s - a - y) := by
  rw [pk_sub h1, pk_sub h2]
theorem hb_eqv (x p q r : Int32) : p + q + r = x ↔ -x + p + q + r = 0 := by
  constructor
  · intro h; grind
  · intro h; grind
theorem hb_neg (a x b y : Int32) : -((-a) * x - b * y) = a * x + b * y := by grind
section
variable {post : Int32 → Prop} {bc lc : Int32} {w bl ll fw ws : Nat → Int32}
theorem hx_cp_14 {J : Int32 → Int32 → Prop} {s a : Nat} {t z : Int32} (hs : s ≤ 20) (ha : a ≤ s) (h : J (z + hb_c3 w s t a) (nI (a + 1))) :
    ∀ d y : Nat, y + d = s - a + 1 → wX_completions_14 post J (nI s) t (nI a) bc lc w bl ll fw ws (d + 1) (z + hb_sm (hb_c4 w s t a) y) (nI y) := by
  intro d
  induction d with
  | zero =>
    intro y hy
    have e : y = s - a + 1 := by omega
    subst e
    refine br_t ?_ (nm_r (nI_1 a) h)
    rw [pk_sub ha]
    exact nI_lt (by omega) (by omega)
  | succ d ih =>
    intro y hy
    have q := ih (y + 1) (by omega)
    refine br_f ?_ (nm_r (hb_sub3 ha (by omega)) (br_c (fun c => nm_r (e' := z + hb_sm (hb_c4 w s t a) (y + 1)) ?_ (nm_r (nI_1 y) q)) (fun c => nm_r (nI_1 y) ?_)))
    · rw [pk_sub ha]
      exact nI_nlt (by omega) (by omega)
    · have e : hb_c4 w s t a y = 1 := if_pos c
      show _ = z + (hb_sm (hb_c4 w s t a) y + hb_c4 w s t a y)
      rw [e, Int32.add_assoc]
    · have e : hb_c4 w s t a y = 0 := if_neg c
      have e2 : hb_sm (hb_c4 w s t a) (y + 1) = hb_sm (hb_c4 w s t a) y := by
        show hb_sm (hb_c4 w s t a) y + hb_c4 w s t a y = _
        rw [e, Int32.add_zero]
      rw [e2] at q
      exact q
theorem hx_cp_5 {s : Nat} {t : Int32} (hs : s ≤ 20) (h : post (hb_cp w s t)) :
    ∀ d a : Nat, a + d = s + 1 → wX_completions_5 post (nI s) t bc lc w bl ll fw ws (d + 1) (hb_sm (hb_c3 w s t) a) (nI a) := by
  intro d
  induction d with
  | zero =>
    intro a ha
    have e : a = s + 1 := by omega
    subst e
    exact br_t (nI_lt (by omega) (by omega)) h
  | succ d ih =>
    intro a ha
    have q := hx_cp_14 (post := post) (J := wX_completions_5 post (nI s) t bc lc w bl ll fw ws (d + 1)) (bc := bc) (lc := lc) (bl := bl) (ll := ll) (fw := fw) (ws := ws) (s := s) (a := a) (t := t) (z := hb_sm (hb_c3 w s t) a) hs (by omega) (ih (a + 1) (by omega)) (s - a + 1) 0 (Nat.zero_add _)
    have e : hb_sm (hb_c3 w s t) a + hb_sm (hb_c4 w s t a) 0 = hb_sm (hb_c3 w s t) a := Int32.add_zero _
    rw [e] at q
    exact br_f (nI_nlt (by omega) (by omega)) ⟨_, q⟩
theorem hx_cp {s : Nat} {t : Int32} (hs : s ≤ 20) (h : post (hb_cp w s t)) : wpX_completions post (bc, lc, w, bl, ll, fw, ws) (nI s) t :=
  ⟨_, hx_cp_5 hs h (s + 1) 0 (Nat.zero_add _)⟩
theorem hx_ba_24 {J : Int32 → Int32 → Prop} {n a : Nat} {z : Int32} (hn : n ≤ 20) (ha : a ≤ n) (h : J (z + hb_b0 w n a) (nI (a + 1))) :
    ∀ d y : Nat, y + d = n - a + 1 → wX_balances_24 post J (nI n) (nI a) bc lc w bl ll fw ws (d + 1) (z + hb_sm (hb_b1 w n a) y) (nI y) := by
  intro d
  induction d with
  | zero =>
    intro y hy
    have e : y = n - a + 1 := by omega
    subst e
    refine br_t ?_ (nm_r (nI_1 a) h)
    rw [pk_sub ha]
    exact nI_lt (by omega) (by omega)
  | succ d ih =>
    intro y hy
    refine br_f ?_ (nm_e ?_)
    · rw [pk_sub ha]
      exact nI_nlt (by omega) (by omega)
    · rw [hb_sub3 ha (by omega)]
      refine hx_cp (by omega) (nm_r (e' := z + hb_sm (hb_b1 w n a) (y + 1)) ?_ (nm_r (nI_1 y) (ih (y + 1) (by omega))))
      show _ = z + (hb_sm (hb_b1 w n a) y + hb_b1 w n a y)
      rw [← Int32.add_assoc]
      rfl
theorem hx_ba_16 {n : Nat} (hn : n ≤ 20) (h : post (hb_sm (hb_b0 w n) (n + 1))) :
    ∀ d a : Nat, a + d = n + 1 → wX_balances_16 post (nI n) bc lc w bl ll fw ws (d + 1) (hb_sm (hb_b0 w n) a) (nI a) := by
  intro d
  induction d with
  | zero =>
    intro a ha
    have e : a = n + 1 := by omega
    subst e
    exact br_t (nI_lt (by omega) (by omega)) h
  | succ d ih =>
    intro a ha
    have q := hx_ba_24 (post := post) (J := wX_balances_16 post (nI n) bc lc w bl ll fw ws (d + 1)) (bc := bc) (lc := lc) (bl := bl) (ll := ll) (fw := fw) (ws := ws) (n := n) (a := a) (z := hb_sm (hb_b0 w n) a) hn (by omega) (ih (a + 1) (by omega)) (n - a + 1) 0 (Nat.zero_add _)
    have e : hb_sm (hb_b0 w n) a + hb_sm (hb_b1 w n a) 0 = hb_sm (hb_b0 w n) a := Int32.add_zero _
    rw [e] at q
    exact br_f (nI_nlt (by omega) (by omega)) ⟨_, q⟩
end
section
variable {post : Int32 → Prop} {rd cn ba : Int32} {w cd mn fe : Nat → Int32}
theorem hy_lt_14 {J : Int32 → Int32 → Prop} {s a : Nat} {t z : Int32} (hs : s ≤ 20) (ha : a ≤ s) (h : J (z + hb_c3 w s (-t) a) (nI (a + 1))) :
    ∀ d y : Nat, y + d = s - a + 1 → wY_lastThree_14 post J (nI s) t (nI a) rd cn ba w cd mn fe (d + 1) (z + hb_sm (hb_c4 w s (-t) a) y) (nI y) := by
  intro d
  induction d with
  | zero =>
    intro y hy
    have e : y = s - a + 1 := by omega
    subst e
    refine br_t ?_ (nm_r (nI_1 a) h)
    rw [pk_sub ha]
    exact nI_lt (by omega) (by omega)
  | succ d ih =>
    intro y hy
    have q := ih (y + 1) (by omega)
    refine br_f ?_ ?_
    · rw [pk_sub ha]
      exact nI_nlt (by omega) (by omega)
    · rw [hb_sub3 ha (by omega), hb_eqv]
      refine br_c (fun c => nm_r (e' := z + hb_sm (hb_c4 w s (-t) a) (y + 1)) ?_ (nm_r (nI_1 y) q)) (fun c => nm_r (nI_1 y) ?_)
      · have e : hb_c4 w s (-t) a y = 1 := if_pos c
        show _ = z + (hb_sm (hb_c4 w s (-t) a) y + hb_c4 w s (-t) a y)
        rw [e, Int32.add_assoc]
      · have e : hb_c4 w s (-t) a y = 0 := if_neg c
        have e2 : hb_sm (hb_c4 w s (-t) a) (y + 1) = hb_sm (hb_c4 w s (-t) a) y := by
          show hb_sm (hb_c4 w s (-t) a) y + hb_c4 w s (-t) a y = _
          rw [e, Int32.add_zero]
        rw [e2] at q
        exact q
theorem hy_lt_5 {s : Nat} {t : Int32} (hs : s ≤ 20) (h : post (hb_cp w s (-t))) :
    ∀ d a : Nat, a + d = s + 1 → wY_lastThree_5 post (nI s) t rd cn ba w cd mn fe (d + 1) (hb_sm (hb_c3 w s (-t)) a) (nI a) := by
  intro d
  induction d with
  | zero =>
    intro a ha
    have e : a = s + 1 := by omega
    subst e
    exact br_t (nI_lt (by omega) (by omega)) h
  | succ d ih =>
    intro a ha
    have q := hy_lt_14 (post := post) (J := wY_lastThree_5 post (nI s) t rd cn ba w cd mn fe (d + 1)) (rd := rd) (cn := cn) (ba := ba) (cd := cd) (mn := mn) (fe := fe) (s := s) (a := a) (t := t) (z := hb_sm (hb_c3 w s (-t)) a) hs (by omega) (ih (a + 1) (by omega)) (s - a + 1) 0 (Nat.zero_add _)
    have e : hb_sm (hb_c3 w s (-t)) a + hb_sm (hb_c4 w s (-t) a) 0 = hb_sm (hb_c3 w s (-t)) a := Int32.add_zero _
    rw [e] at q
    exact br_f (nI_nlt (by omega) (by omega)) ⟨_, q⟩
theorem hy_lt {s : Nat} {t : Int32} (hs : s ≤ 20) (h : post (hb_cp w s (-t))) : wpY_lastThree post (rd, cn, ba, w, cd, mn, fe) (nI s) t :=
  ⟨_, hy_lt_5 hs h (s + 1) 0 (Nat.zero_add _)⟩
theorem hy_ba_24 {J : Int32 → Int32 → Prop} {n a : Nat} {z : Int32} (hn : n ≤ 20) (ha : a ≤ n) (h : J (z + hb_b0 w n a) (nI (a + 1))) :
    ∀ d y : Nat, y + d = n - a + 1 → wY_balances_24 post J (nI n) (nI a) rd cn ba w cd mn fe (d + 1) (z + hb_sm (hb_b1 w n a) y) (nI y) := by
  intro d
  induction d with
  | zero =>
    intro y hy
    have e : y = n - a + 1 := by omega
    subst e
    refine br_t ?_ (nm_r (nI_1 a) h)
    rw [pk_sub ha]
    exact nI_lt (by omega) (by omega)
  | succ d ih =>
    intro y hy
    refine br_f ?_ ?_
    · rw [pk_sub ha]
      exact nI_nlt (by omega) (by omega)
    · rw [hb_sub3 ha (by omega)]
      refine hy_lt (by omega) ?_
      rw [hb_neg]
      refine nm_r (e' := z + hb_sm (hb_b1 w n a) (y + 1)) ?_ (nm_r (nI_1 y) (ih (y + 1) (by omega)))
      show _ = z + (hb_sm (hb_b1 w n a) y + hb_b1 w n a y)
      rw [← Int32.add_assoc]
      rfl
theorem hy_ba_16 {n : Nat} (hn : n ≤ 20) (h : post (hb_sm (hb_b0 w n) (n + 1))) :
    ∀ d a : Nat, a + d = n + 1 → wY_balances_16 post (nI n) rd cn ba w cd mn fe (d + 1) (hb_sm (hb_b0 w n) a) (nI a) := by
  intro d
  induction d with
  | zero =>
    intro a ha
    have e : a = n + 1 := by omega
    subst e
    exact br_t (nI_lt (by omega) (by omega)) h
  | succ d ih =>
    intro a ha
    have q := hy_ba_24 (post := post) (J := wY_balances_16 post (nI n) rd cn ba w cd mn fe (d + 1)) (rd := rd) (cn := cn) (ba := ba) (cd := cd) (mn := mn) (fe := fe) (n := n) (a := a) (z := hb_sm (hb_b0 w n) a) hn (by omega) (ih (a + 1) (by omega)) (n - a + 1) 0 (Nat.zero_add _)
    have e : hb_sm (hb_b0 w n) a + hb_sm (hb_b1 w n a) 0 = hb_sm (hb_b0 w n) a := Int32.add_zero _
    rw [e] at q
    exact br_f (nI_nlt (by omega) (by omega)) ⟨_, q⟩
end
end
section
/-! what is owed -/
/-- the reference's state: the same weights; its list, if it says so, told by them -/
def hb_YR (w : Nat → Int32) (v : SY) : Prop :=
  ∃ (rd cn ba : Int32) (cd mn fe : Nat → Int32), v = (rd, cn, ba, w, cd, mn, fe) ∧ (¬ rd = 0 → hb_YL w cn ba cd)
def i_Rel (_k : Nat) (u : SX) (v : SY) : Prop := ∃ w : Nat → Int32, hb_XR w u ∧ hb_YR w v
theorem i_up {k : Nat} {u : SX} {v : SY} (h : i_Rel k u v) : i_Rel (k + 3) u v := h
theorem hb_yr {w : Nat → Int32} {rd cn ba : Int32} {cd mn fe : Nat → Int32} (h : ¬ rd = 0 → hb_YL w cn ba cd) : hb_YR w (rd, cn, ba, w, cd, mn, fe) := ⟨rd, cn, ba, cd, mn, fe, rfl, h⟩
theorem i_vc0 : wpX_init (fun u => wpY_init (fun v => i_Rel 0 u v)) := by
  unfold wpX_init
  refine hx_rb ?_
  rintro ⟨a, b, c, d, e, f, g⟩ h
  exact ⟨_, h, hb_yr (fun z => absurd rfl z)⟩
theorem i_vc_set {k : Nat} {u : SX} {v : SY} (I : i_Rel k u v) (hk : k + 3 ≤ 1536) (v1 : Int32) (v2 : Int32) : wpX_set (fun r u' => wpY_set (fun r' v' => r' = r ∧ i_Rel (k + 3) u' v') v v1 v2) u v1 v2 := by
  obtain ⟨w, hX, rd, cn, ba, cd, mn, fe, rfl, hY⟩ := I
  have I' : ∀ u, hb_XR w u → i_Rel (k + 3) u (rd, cn, ba, w, cd, mn, fe) := fun u h => ⟨w, h, hb_yr hY⟩
  obtain ⟨bl, ll, fw, ws, rfl, hl, hT⟩ := hX
  have I2 := I' _ ⟨bl, ll, fw, ws, rfl, hl, hT⟩
  unfold wpX_set wpX_isGoodWeight
  dsimp only
  rcases pk_ix v1 (n := 5) (by decide) with h | h | ⟨j, hj, rfl⟩
  · exact br_t h (br_t rfl (br_t h ⟨rfl, I2⟩))
  · have h0 : ¬ v1 < 0 := fun z => absurd (Int32.lt_of_le_of_lt h z) (by decide)
    have h4 : ¬ v1 ≤ 4 := fun z => absurd (Int32.le_trans h z) (by decide)
    exact br_f h0 (br_t h (br_t rfl (br_f h0 (br_f h4 ⟨rfl, I2⟩))))
  · have h0 : ¬ nI j < 0 := nI_pos (by omega)
    have h5 : ¬ (5 : Int32) ≤ nI j := nI_ge (b := 5) hj (by decide)
    have h4 : nI j ≤ 4 := nI_le (b := 4) (by omega) (by decide)
    have vj : vp_in (nI j) 5 := vp_in_nI hj (by decide)
    refine br_f h0 (br_f h5 (br_f (by decide) (br_c (fun a => br_f h0 (br_t h4 (br_t a ⟨rfl, I2⟩))) (fun a => br_c (fun b => ?_) (fun b => br_f h0 (br_t h4 (br_f a (br_f b ⟨rfl, I2⟩))))))))
    refine ⟨vj, nm_e ⟨vj, nm_e (hx_rb ?_)⟩⟩
    rintro ⟨a1, a2, a3, a4, a5, a6, a7⟩ h
    exact br_f h0 (br_t h4 (br_f a (br_t b ⟨vj, nm_e ⟨vj, nm_e ⟨rfl, _, h, hb_yr (fun z => absurd rfl z)⟩⟩⟩)))
/-- the weights and their sum after i steps of sow -/
def hb_sv (x y : Int32) (w : Nat → Int32) : Nat → (Nat → Int32) × Int32
  | 0 => (w, 0)
  | i + 1 => (upd (hb_sv x y w i).1 i ((((x + (5 * nI i)) + ((y * nI i) * nI i)) - ((x + (5 * nI i)) + ((y * nI i) * nI i)) / 13 * 13) - 6), (hb_sv x y w i).2 + upd (hb_sv x y w i).1 i ((((x + (5 * nI i)) + ((y * nI i) * nI i)) - ((x + (5 * nI i)) + ((y * nI i) * nI i)) / 13 * 13) - 6) i)
theorem hx_so {post : Int32 → SX → Prop} {x y bc lc : Int32} {w bl ll fw ws : Nat → Int32} (hp : ∀ u : SX, hb_XR (hb_sv x y w 5).1 u → post (hb_sv x y w 5).2 u) :
    ∀ d i : Nat, i + d = 5 → wX_sow_30 post x y bc lc (d + 1) (hb_sv x y w i).2 (nI i) (hb_sv x y w i).1 bl ll fw ws := by
  intro d
  induction d with
  | zero =>
    intro i hi
    have e : i = 5 := by omega
    subst e
    refine br_t (by decide) (hx_rb ?_)
    rintro ⟨a1, a2, a3, a4, a5, a6, a7⟩ h
    exact hp _ h
  | succ d ih =>
    intro i hi
    have q := ih (i + 1) (by omega)
    refine br_f (nI_ge (b := 5) (by omega) (by decide)) ⟨by decide, vp_in_nI (by omega) (by decide), ?_⟩
    rw [nI_clamp (by omega)]
    exact nm_e ⟨vp_in_nI (by omega) (by decide), nm_e (nm_r (nI_1 i) q)⟩
theorem hy_so {post : Int32 → SY → Prop} {x y rd cn ba : Int32} {w cd mn fe : Nat → Int32} (hp : post (hb_sv x y w 5).2 (0, cn, ba, (hb_sv x y w 5).1, cd, mn, fe)) :
    ∀ d i : Nat, i + d = 5 → wY_sow_30 post x y rd cn ba (d + 1) (hb_sv x y w i).2 (nI i) (hb_sv x y w i).1 cd mn fe := by
  intro d
  induction d with
  | zero =>
    intro i hi
    have e : i = 5 := by omega
    subst e
    exact br_t (by decide) hp
  | succ d ih =>
    intro i hi
    have q := ih (i + 1) (by omega)
    refine br_f (nI_ge (b := 5) (by omega) (by decide)) ⟨by decide, vp_in_nI (by omega) (by decide), ?_⟩
    rw [nI_clamp (by omega)]
    exact nm_e ⟨vp_in_nI (by omega) (by decide), nm_e (nm_r (nI_1 i) q)⟩
theorem hb_lt13 {x : Int32} : x < 13 ↔ x ≤ 12 := by
  rw [Int32.lt_iff_toInt_lt, Int32.le_iff_toInt_le, show (13 : Int32).toInt = 13 by decide, show (12 : Int32).toInt = 12 by decide]
  omega
theorem i_vc_sow {k : Nat} {u : SX} {v : SY} (I : i_Rel k u v) (hk : k + 3 ≤ 1536) (v1 : Int32) (v2 : Int32) : wpX_sow (fun r u' => wpY_sow (fun r' v' => r' = r ∧ i_Rel (k + 3) u' v') v v1 v2) u v1 v2 := by
  have I2 : i_Rel (k + 3) u v := I
  obtain ⟨w, hX, rd, cn, ba, cd, mn, fe, rfl, hY⟩ := I
  obtain ⟨bl, ll, fw, ws, rfl, hl, hT⟩ := hX
  refine br_c (fun a => br_t a ⟨rfl, I2⟩) (fun a => br_c (fun b => br_c (fun c => br_f a (br_t (hb_lt13.mp b) (br_t c ⟨rfl, I2⟩))) (fun c => br_c (fun d => ?_) (fun d => br_f a (br_t (hb_lt13.mp b) (br_f c (br_f (fun z => d (hb_lt13.mpr z)) ⟨rfl, I2⟩)))))) (fun b => br_f a (br_f (fun z => b (hb_lt13.mpr z)) ⟨rfl, I2⟩)))
  refine ⟨6, hx_so (w := w) ?_ 5 0 rfl⟩
  intro u h
  exact br_f a (br_t (hb_lt13.mp b) (br_f c (br_t (hb_lt13.mp d) ⟨6, hy_so (w := w) ⟨rfl, _, h, hb_yr (fun z => absurd rfl z)⟩ 5 0 rfl⟩)))
theorem i_vc_weight {k : Nat} {u : SX} {v : SY} (I : i_Rel k u v) (hk : k + 3 ≤ 1536) (v1 : Int32) : wpX_weight (fun r => wpY_weight (fun r' => r' = r ∧ i_Rel (k + 3) u v) v v1) u v1 := by
  have I2 : i_Rel (k + 3) u v := I
  obtain ⟨w, hX, rd, cn, ba, cd, mn, fe, rfl, hY⟩ := I
  obtain ⟨bl, ll, fw, ws, rfl, hl, hT⟩ := hX
  unfold wpX_weight wpX_isGoodWeight
  dsimp only
  rcases pk_ix v1 (n := 5) (by decide) with h | h | ⟨j, hj, rfl⟩
  · exact br_t h (br_t rfl (br_t h ⟨rfl, I2⟩))
  · have h0 : ¬ v1 < 0 := fun z => absurd (Int32.lt_of_le_of_lt h z) (by decide)
    have h4 : ¬ v1 ≤ 4 := fun z => absurd (Int32.le_trans h z) (by decide)
    exact br_f h0 (br_t h (br_t rfl (br_f h0 (br_f h4 ⟨rfl, I2⟩))))
  · have h0 : ¬ nI j < 0 := nI_pos (by omega)
    have h5 : ¬ (5 : Int32) ≤ nI j := nI_ge (b := 5) hj (by decide)
    have h4 : nI j ≤ 4 := nI_le (b := 4) (by omega) (by decide)
    have vj : vp_in (nI j) 5 := vp_in_nI hj (by decide)
    exact br_f h0 (br_f h5 (br_f (by decide) ⟨vj, br_f h0 (br_t h4 ⟨vj, rfl, I2⟩)⟩))
theorem hb_good {PX : Int32 → Prop} {v1 : Int32} (h0 : (v1 < 0 ∨ nI 16807 ≤ v1) → PX 0) (h1 : ∀ c, c < 16807 → v1 = nI c → PX 1) : wpX_isGoodCode PX v1 := by
  rcases pk_ix v1 (n := 16807) (by decide) with h | h | ⟨j, hj, rfl⟩
  · exact br_t h (h0 (Or.inl h))
  · have z0 : ¬ v1 < 0 := fun z => absurd (Int32.lt_of_le_of_lt h z) (by decide)
    exact br_f z0 (br_t h (h0 (Or.inr h)))
  · exact br_f (nI_pos (by omega)) (br_f (nI_ge (b := 16807) hj (by decide)) (h1 j hj rfl))
theorem hb_badY {PY : Int32 → Prop} {v1 : Int32} {rd cn ba : Int32} {w cd mn fe : Nat → Int32} (h : v1 < 0 ∨ nI 16807 ≤ v1) (h1 : PY 1) : wpY_badCode PY (rd, cn, ba, w, cd, mn, fe) v1 := by
  rcases h with h | h
  · exact br_t h h1
  · have z0 : ¬ v1 < 0 := fun z => absurd (Int32.lt_of_le_of_lt h z) (by decide)
    have z1 : ¬ v1 ≤ 16806 := fun z => absurd (Int32.le_trans h z) (by decide)
    exact br_f z0 (br_f z1 h1)
theorem hb_goodY {PY : Int32 → Prop} {c : Nat} {rd cn ba : Int32} {w cd mn fe : Nat → Int32} (h : c < 16807) (h1 : PY 0) : wpY_badCode PY (rd, cn, ba, w, cd, mn, fe) (nI c) :=
  br_f (nI_pos (by omega)) (br_t (nI_le (b := 16806) (by omega) (by decide)) h1)
theorem hb_gi {w : Nat → Int32} {a : Nat → Int32} (h : ∀ j, j < (hb_S w 16807).1 → a j = nI ((hb_S w 16807).2 j)) : ∀ j, j < (hb_S w 16807).1 → a j = nI ((hb_S w 16807).2 j) ∧ (hb_S w 16807).2 j < 16807 := fun j hj => ⟨h j hj, ((hb_S_i w 16807).1 j hj).2.1⟩
theorem hb_few' (w : Nat → Int32) : (hb_S w 16807).1 ≤ 1813 := hb_S_few w (Nat.le_refl _)
theorem i_vc_isBalance {k : Nat} {u : SX} {v : SY} (I : i_Rel k u v) (hk : k + 3 ≤ 1536) (v1 : Int32) : wpX_isBalance (fun r => wpY_isBalance (fun r' => r' = r ∧ i_Rel (k + 3) u v) v v1) u v1 := by
  have I2 : i_Rel (k + 3) u v := I
  obtain ⟨w, hX, rd, cn, ba, cd, mn, fe, rfl, hY⟩ := I
  obtain ⟨bl, ll, fw, ws, rfl, hl, hT⟩ := hX
  unfold wpX_isBalance wpY_isBalance
  dsimp only
  refine hb_good (fun h => br_t rfl (hb_badY h (br_f (by decide) ⟨rfl, I2⟩))) ?_
  rintro c hc rfl
  refine br_f (by decide) (hx_tiltB hc (fun hB => br_t rfl (hb_goodY hc (br_t rfl (hy_bal hc (fun _ => br_f (by decide) ⟨rfl, I2⟩) (fun z => absurd hB z))))) (fun hB r hr => br_f hr (hb_goodY hc (br_t rfl (hy_bal hc (fun z => absurd z hB) (fun _ => br_t rfl ⟨rfl, I2⟩))))))
end
section
/-! what is owed, the questions -/
section
variable {k : Nat} {w : Nat → Int32} {u : SX}
theorem hb_rel (hX : hb_XR w u) {rd cn ba : Int32} {cd mn fe : Nat → Int32} (h : hb_YL w cn ba cd) : i_Rel k u (rd, cn, ba, w, cd, mn, fe) := ⟨w, hX, hb_yr (fun _ => h)⟩
end
theorem i_vc_isLeast {k : Nat} {u : SX} {v : SY} (I : i_Rel k u v) (hk : k + 3 ≤ 1536) (v1 : Int32) : wpX_isLeast (fun r => wpY_isLeast (fun r' v' => r' = r ∧ i_Rel (k + 3) u v') v v1) u v1 := by
  have I2 : i_Rel (k + 3) u v := I
  obtain ⟨w, hX, rd, cn, ba, cd, mn, fe, rfl, hY⟩ := I
  have hX' := hX
  obtain ⟨bl, ll, fw, ws, rfl, hl, hT⟩ := hX
  have hm := hb_few' w
  unfold wpX_isLeast wpY_isLeast
  dsimp only
  refine hb_good (fun h => br_t rfl (hb_badY h (br_f (by decide) ⟨rfl, I2⟩))) ?_
  rintro c hc rfl
  refine br_f (by decide) ⟨_, hx_il_11 hm hc (hb_gi hl) (fun hj => ?_) (fun hj => ?_) _ 0 (Nat.zero_add _) (fun j h => absurd h (Nat.not_lt_zero j))⟩
  · refine hb_goodY hc (br_t rfl (hy_wk hY ?_))
    rintro rd cn ba cd h0 ⟨rfl, rfl, hc2⟩
    exact ⟨_, hy_il_16 hm hc (hb_gi hc2) (fun _ => ⟨rfl, hb_rel hX' ⟨rfl, rfl, hc2⟩⟩) (fun z => hj.elim (fun j h => absurd h.2 (z j h.1))) _ 0 (Nat.zero_add _) (fun j h => absurd h (Nat.not_lt_zero j))⟩
  · refine hb_goodY hc (br_t rfl (hy_wk hY ?_))
    rintro rd cn ba cd h0 ⟨rfl, rfl, hc2⟩
    exact ⟨_, hy_il_16 hm hc (hb_gi hc2) (fun z => z.elim (fun j h => absurd h.2 (hj j h.1))) (fun _ => ⟨rfl, hb_rel hX' ⟨rfl, rfl, hc2⟩⟩) _ 0 (Nat.zero_add _) (fun j h => absurd h (Nat.not_lt_zero j))⟩
theorem i_vc_least {k : Nat} {u : SX} {v : SY} (I : i_Rel k u v) (hk : k + 3 ≤ 1536) : wpX_least (fun r => wpY_least (fun r' v' => r' = r ∧ i_Rel (k + 3) u v') v) u := by
  obtain ⟨w, hX, rd, cn, ba, cd, mn, fe, rfl, hY⟩ := I
  have hX' := hX
  obtain ⟨bl, ll, fw, ws, rfl, hl, hT⟩ := hX
  unfold wpX_least wpY_least
  dsimp only
  refine hy_wk hY ?_
  rintro rd cn ba cd h0 ⟨rfl, rfl, hc2⟩
  exact ⟨rfl, hb_rel hX' ⟨rfl, rfl, hc2⟩⟩
theorem i_vc_small {k : Nat} {u : SX} {v : SY} (I : i_Rel k u v) (hk : k + 3 ≤ 1536) : wpX_small (fun r => wpY_small (fun r' v' => r' = r ∧ i_Rel (k + 3) u v') v) u := by
  obtain ⟨w, hX, rd, cn, ba, cd, mn, fe, rfl, hY⟩ := I
  have hX' := hX
  obtain ⟨bl, ll, fw, ws, rfl, hl, hT⟩ := hX
  unfold wpX_small wpY_small
  dsimp only
  refine hy_wk hY ?_
  rintro rd cn ba cd h0 ⟨rfl, rfl, hc2⟩
  exact ⟨rfl, hb_rel hX' ⟨rfl, rfl, hc2⟩⟩
theorem i_vc_code {k : Nat} {u : SX} {v : SY} (I : i_Rel k u v) (hk : k + 3 ≤ 1536) (v1 : Int32) : wpX_code (fun r => wpY_code (fun r' v' => r' = r ∧ i_Rel (k + 3) u v') v v1) u v1 := by
  obtain ⟨w, hX, rd, cn, ba, cd, mn, fe, rfl, hY⟩ := I
  have hX' := hX
  obtain ⟨bl, ll, fw, ws, rfl, hl, hT⟩ := hX
  have hm := hb_few' w
  unfold wpX_code wpY_code
  dsimp only
  rcases pk_ix v1 (n := (hb_S w 16807).1) (by omega) with h | h | ⟨j, hj, rfl⟩
  · refine br_t h (hy_wk hY ?_)
    rintro rd cn ba cd h0 ⟨rfl, rfl, hc2⟩
    exact br_t h ⟨rfl, hb_rel hX' ⟨rfl, rfl, hc2⟩⟩
  · have z0 : ¬ v1 < 0 := fun z => by
      have := Int32.lt_of_le_of_lt h z
      exact absurd this (nI_pos (by omega))
    refine br_f z0 (br_t h (hy_wk hY ?_))
    rintro rd cn ba cd h0 ⟨rfl, rfl, hc2⟩
    exact br_f z0 (br_t h ⟨rfl, hb_rel hX' ⟨rfl, rfl, hc2⟩⟩)
  · have z0 : ¬ nI j < 0 := nI_pos (by omega)
    have z1 : ¬ nI (hb_S w 16807).1 ≤ nI j := nI_ge hj (by omega)
    refine br_f z0 (br_f z1 ⟨vp_in_nI (by omega) (by decide), hy_wk hY ?_⟩)
    rintro rd cn ba cd h0 ⟨rfl, rfl, hc2⟩
    refine br_f z0 (br_f z1 (br_t (nI_le (b := 1999) (by omega) (by decide)) ⟨vp_in_nI (by omega) (by decide), ?_, hb_rel hX' ⟨rfl, rfl, hc2⟩⟩))
    rw [nI_clamp (by omega)]
    exact (hc2 j hj).trans (hl j hj).symm
theorem i_vc_using {k : Nat} {u : SX} {v : SY} (I : i_Rel k u v) (hk : k + 3 ≤ 1536) (v1 : Int32) : wpX_using (fun r => wpY_using (fun r' v' => r' = r ∧ i_Rel (k + 3) u v') v v1) u v1 := by
  have I2 : i_Rel (k + 3) u v := I
  obtain ⟨w, hX, rd, cn, ba, cd, mn, fe, rfl, hY⟩ := I
  have hX' := hX
  obtain ⟨bl, ll, fw, ws, rfl, hl, hT⟩ := hX
  have hm := hb_few' w
  unfold wpX_using wpX_isGoodWeight wpY_using
  dsimp only
  rcases pk_ix v1 (n := 5) (by decide) with h | h | ⟨j, hj, rfl⟩
  · exact br_t h (br_t rfl (br_t h ⟨rfl, I2⟩))
  · have h0 : ¬ v1 < 0 := fun z => absurd (Int32.lt_of_le_of_lt h z) (by decide)
    have h4 : ¬ v1 ≤ 4 := fun z => absurd (Int32.le_trans h z) (by decide)
    exact br_f h0 (br_t h (br_t rfl (br_f h0 (br_f h4 ⟨rfl, I2⟩))))
  · have h0 : ¬ nI j < 0 := nI_pos (by omega)
    have h5 : ¬ (5 : Int32) ≤ nI j := nI_ge (b := 5) hj (by decide)
    have h4 : nI j ≤ 4 := nI_le (b := 4) (by omega) (by decide)
    refine br_f h0 (br_f h5 (br_f (by decide) ⟨_, hx_us_13 hm hj (hb_gi hl) (br_f h0 (br_t h4 (hy_wk hY ?_))) _ 0 (Nat.zero_add _)⟩))
    rintro rd cn ba cd h0 ⟨rfl, rfl, hc2⟩
    exact ⟨_, hy_us_19 hm hj (hb_gi hc2) ⟨rfl, hb_rel hX' ⟨rfl, rfl, hc2⟩⟩ _ 0 (Nat.zero_add _)⟩
theorem i_vc_longest {k : Nat} {u : SX} {v : SY} (I : i_Rel k u v) (hk : k + 3 ≤ 1536) : wpX_longest (fun r => wpY_longest (fun r' v' => r' = r ∧ i_Rel (k + 3) u v') v) u := by
  obtain ⟨w, hX, rd, cn, ba, cd, mn, fe, rfl, hY⟩ := I
  have hX' := hX
  obtain ⟨bl, ll, fw, ws, rfl, hl, hT⟩ := hX
  have hm := hb_few' w
  unfold wpX_longest wpY_longest
  dsimp only
  refine ⟨_, hx_lo_4 hm (hb_gi hl) (hy_wk hY ?_) _ 0 (Nat.zero_add _)⟩
  rintro rd cn ba cd h0 ⟨rfl, rfl, hc2⟩
  exact ⟨_, hy_lo_8 hm (hb_gi hc2) ⟨rfl, hb_rel hX' ⟨rfl, rfl, hc2⟩⟩ _ 0 (Nat.zero_add _)⟩
theorem i_vc_balances {k : Nat} {u : SX} {v : SY} (I : i_Rel k u v) (hk : k + 3 ≤ 1536) (v1 : Int32) : wpX_balances (fun r => wpY_balances (fun r' => r' = r ∧ i_Rel (k + 3) u v) v v1) u v1 := by
  have I2 : i_Rel (k + 3) u v := I
  obtain ⟨w, hX, rd, cn, ba, cd, mn, fe, rfl, hY⟩ := I
  obtain ⟨bl, ll, fw, ws, rfl, hl, hT⟩ := hX
  unfold wpX_balances wpY_balances
  dsimp only
  rcases pk_ix v1 (n := 21) (by decide) with h | h | ⟨j, hj, rfl⟩
  · exact br_t h (br_t h ⟨rfl, I2⟩)
  · have h0 : ¬ v1 < 0 := fun z => absurd (Int32.lt_of_le_of_lt h z) (by decide)
    have h4 : ¬ v1 ≤ 20 := fun z => absurd (Int32.le_trans h z) (by decide)
    exact br_f h0 (br_f h4 (br_f h0 (br_f h4 ⟨rfl, I2⟩)))
  · have h0 : ¬ nI j < 0 := nI_pos (by omega)
    have h4 : nI j ≤ 20 := nI_le (b := 20) (by omega) (by decide)
    exact br_f h0 (br_t h4 ⟨_, hx_ba_16 (by omega) (br_f h0 (br_t h4 ⟨_, hy_ba_16 (by omega) ⟨rfl, I2⟩ _ 0 (Nat.zero_add _)⟩)) _ 0 (Nat.zero_add _)⟩)
theorem i_vc_inside {k : Nat} {u : SX} {v : SY} (I : i_Rel k u v) (hk : k + 3 ≤ 1536) (v1 : Int32) : wpX_inside (fun r => wpY_inside (fun r' v' => r' = r ∧ i_Rel (k + 3) u v') v v1) u v1 := by
  have I2 : i_Rel (k + 3) u v := I
  obtain ⟨w, hX, rd, cn, ba, cd, mn, fe, rfl, hY⟩ := I
  have hX' := hX
  obtain ⟨bl, ll, fw, ws, rfl, hl, hT⟩ := hX
  have hm := hb_few' w
  unfold wpX_inside wpY_inside
  dsimp only
  refine hb_good (fun h => br_t rfl (hb_badY h (br_f (by decide) ⟨rfl, I2⟩))) ?_
  rintro c hc rfl
  refine br_f (by decide) (hx_flp (g := (hb_S w 16807).2) (by omega) hc (hb_gi hl) (fun j hj p hi => ?_) (fun hn => ?_))
  · refine hb_goodY hc (br_t rfl (hy_wk hY ?_))
    rintro rd cn ba cd h0 ⟨rfl, rfl, hc2⟩
    refine ⟨_, hy_in_16 hm hc (hb_gi hc2) (fun j' hj' p' hi' => ⟨?_, hb_rel hX' ⟨rfl, rfl, hc2⟩⟩) (fun z => absurd p (z j hj)) _ 0 (Nat.zero_add _) (fun j h => absurd h (Nat.not_lt_zero j))⟩
    have e : j' = j := by
      by_cases z : j' < j
      · exact absurd p' (hi j' z)
      · by_cases z2 : j < j'
        · exact absurd p (hi' j z2)
        · omega
    rw [e]
  · refine hb_goodY hc (br_t rfl (hy_wk hY ?_))
    rintro rd cn ba cd h0 ⟨rfl, rfl, hc2⟩
    exact ⟨_, hy_in_16 hm hc (hb_gi hc2) (fun j' hj' p' hi' => absurd p' (hn j' hj')) (fun _ => ⟨rfl, hb_rel hX' ⟨rfl, rfl, hc2⟩⟩) _ 0 (Nat.zero_add _) (fun j h => absurd h (Nat.not_lt_zero j))⟩
/-- what the reference's tables hold at the row itself -/
theorem hb_U_end {w : Nat → Int32} {c : Nat} {mn fe : Nat → Int32} (hc : c < 16807) (hB : hb_B w c = true) (h : hb_U (hb_S w 16807).2 (hb_S w 16807).1 c mn fe) : mn c = hb_M (hb_S w 16807).2 (hb_S w 16807).1 c ∧ fe c = nI (hb_F (hb_S w 16807).2 (hb_S w 16807).1 c) := by
  obtain ⟨r, hr, er⟩ := hb_un_onto 5 c c (by rw [hb_75]; exact hc) (hb_pt_refl 5 c)
  obtain ⟨h1, h2⟩ := h r hr
  rw [er] at h1 h2
  refine ⟨h1, ?_⟩
  rw [h2]
  have k1 := hb_k_e (hb_F (hb_S w 16807).2 (hb_S w 16807).1 c)
  have k2 := hb_F_end w hc hB
  exact congrArg nI (by omega)
theorem hb_gi3 {w : Nat → Int32} {a : Nat → Int32} (h : ∀ j, j < (hb_S w 16807).1 → a j = nI ((hb_S w 16807).2 j)) : ∀ j, j < (hb_S w 16807).1 → a j = nI ((hb_S w 16807).2 j) ∧ 0 < (hb_S w 16807).2 j ∧ (hb_S w 16807).2 j < 16807 := fun j hj => ⟨h j hj, ((hb_S_i w 16807).1 j hj).1, ((hb_S_i w 16807).1 j hj).2.1⟩
theorem i_vc_fewest {k : Nat} {u : SX} {v : SY} (I : i_Rel k u v) (hk : k + 3 ≤ 1536) (v1 : Int32) : wpX_fewest (fun r => wpY_fewest (fun r' v' => r' = r ∧ i_Rel (k + 3) u v') v v1) u v1 := by
  have I2 : i_Rel (k + 3) u v := I
  obtain ⟨w, hX, rd, cn, ba, cd, mn, fe, rfl, hY⟩ := I
  have hX' := hX
  obtain ⟨bl, ll, fw, ws, rfl, hl, hT⟩ := hX
  have hm := hb_few' w
  unfold wpX_fewest wpY_fewest
  dsimp only
  refine hb_good (fun h => br_t rfl (hb_badY h (br_f (by decide) ⟨rfl, I2⟩))) ?_
  rintro c hc rfl
  have vc : vp_in (nI c) 16807 := vp_in_nI hc (by decide)
  refine br_f (by decide) (hx_tiltB hc (fun hB => br_t rfl ⟨vc, hb_goodY hc (br_t rfl (hy_bal hc (fun _ => br_f (by decide) (hy_wk hY ?_)) (fun z => absurd hB z)))⟩) (fun hB r hr => br_f hr (hb_goodY hc (br_t rfl (hy_bal hc (fun z => absurd z hB) (fun _ => br_t rfl ⟨rfl, I2⟩))))))
  rintro rd cn ba cd h0 ⟨rfl, rfl, hc2⟩
  refine hy_su hm hc (hb_gi3 hc2) ?_
  intro mn' fe' hU
  refine ⟨vc, ?_, hb_rel hX' ⟨rfl, rfl, hc2⟩⟩
  rw [nI_clamp (by omega)]
  exact (hb_U_end hc hB hU).2.trans (hT c hc hB).1.symm
theorem i_vc_ways {k : Nat} {u : SX} {v : SY} (I : i_Rel k u v) (hk : k + 3 ≤ 1536) (v1 : Int32) : wpX_ways (fun r => wpY_ways (fun r' v' => r' = r ∧ i_Rel (k + 3) u v') v v1) u v1 := by
  have I2 : i_Rel (k + 3) u v := I
  obtain ⟨w, hX, rd, cn, ba, cd, mn, fe, rfl, hY⟩ := I
  have hX' := hX
  obtain ⟨bl, ll, fw, ws, rfl, hl, hT⟩ := hX
  have hm := hb_few' w
  unfold wpX_ways wpY_ways
  dsimp only
  refine hb_good (fun h => br_t rfl (hb_badY h (br_f (by decide) ⟨rfl, I2⟩))) ?_
  rintro c hc rfl
  have vc : vp_in (nI c) 16807 := vp_in_nI hc (by decide)
  refine br_f (by decide) (hx_tiltB hc (fun hB => br_t rfl ⟨vc, hb_goodY hc (br_t rfl (hy_bal hc (fun _ => br_f (by decide) (hy_wk hY ?_)) (fun z => absurd hB z)))⟩) (fun hB r hr => br_f hr (hb_goodY hc (br_t rfl (hy_bal hc (fun z => absurd z hB) (fun _ => br_t rfl ⟨rfl, I2⟩))))))
  rintro rd cn ba cd h0 ⟨rfl, rfl, hc2⟩
  refine hy_su hm hc (hb_gi3 hc2) ?_
  intro mn' fe' hU
  refine ⟨vc, ?_, hb_rel hX' ⟨rfl, rfl, hc2⟩⟩
  rw [nI_clamp (by omega)]
  exact (hb_U_end hc hB hU).1.trans (hT c hc hB).2.symm
end
