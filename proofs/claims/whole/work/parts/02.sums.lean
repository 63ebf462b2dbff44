/-! an antichain of rows is short; the tables of sums; the rows below a row -/
theorem hb_ph : ∀ (N m : Nat) (f : Nat → Nat), (∀ j, j < m → f j < N) → (∀ i j, i < j → j < m → f i ≠ f j) → m ≤ N := by
  intro N
  induction N with
  | zero =>
    intro m f h _
    cases m with
    | zero => exact Nat.le_refl 0
    | succ m => exact absurd (h 0 (by omega)) (Nat.not_lt_zero _)
  | succ N ih =>
    intro m f h1 h2
    cases m with
    | zero => exact Nat.zero_le _
    | succ k =>
      refine Nat.succ_le_succ (ih k (fun j => if f j = N then f k else f j) ?_ ?_)
      · intro j hj
        have a := h1 j (by omega)
        have b := h1 k (by omega)
        have c := h2 j k hj (by omega)
        show (if f j = N then f k else f j) < N
        by_cases e : f j = N
        · rw [if_pos e]; omega
        · rw [if_neg e]; omega
      · intro i j hij hj
        have c1 := h2 i k (by omega) (by omega)
        have c2 := h2 j k hj (by omega)
        have c3 := h2 i j hij (by omega)
        show (if f i = N then f k else f i) ≠ (if f j = N then f k else f j)
        by_cases e : f i = N
        · rw [if_pos e, if_neg (by omega)]; omega
        · by_cases e' : f j = N
          · rw [if_neg e, if_pos e']; omega
          · rw [if_neg e, if_neg e']; exact c3
/-- 37 chains cover the rows of three digits -/
def hb_of (i : Nat) : Nat := if i ≤ 4 then 7 * i else if i = 5 then 33 else 36
def hb_hk (a b : Nat) : Nat := if a ≤ 6 - b then a else 6 - b
theorem hb_hk_e (a b : Nat) : (a ≤ 6 - b ∧ hb_hk a b = a) ∨ (6 - b < a ∧ hb_hk a b = 6 - b) := by
  unfold hb_hk
  by_cases h : a ≤ 6 - b
  · rw [if_pos h]; exact Or.inl ⟨h, rfl⟩
  · rw [if_neg h]; exact Or.inr ⟨by omega, rfl⟩
/-- which hook of the rectangle (P, 6) holds (p, c) -/
def hb_hq (c d : Nat) : Nat := if c ≤ d then c else d
theorem hb_hq_e (c d : Nat) : (c ≤ d ∧ hb_hq c d = c) ∨ (d < c ∧ hb_hq c d = d) := by
  unfold hb_hq
  by_cases h : c ≤ d
  · rw [if_pos h]; exact Or.inl ⟨h, rfl⟩
  · rw [if_neg h]; exact Or.inr ⟨by omega, rfl⟩
def hb_ch (a b c : Nat) : Nat := hb_of (hb_hk a b) + hb_hq c (12 - hb_hk a b - a - b)
theorem hb_of_e (i : Nat) (h : i ≤ 6) : (i ≤ 4 ∧ hb_of i = 7 * i) ∨ (i = 5 ∧ hb_of i = 33) ∨ (i = 6 ∧ hb_of i = 36) := by
  unfold hb_of
  by_cases h1 : i ≤ 4
  · rw [if_pos h1]; exact Or.inl ⟨h1, rfl⟩
  · by_cases h2 : i = 5
    · rw [if_neg h1, if_pos h2]; exact Or.inr (Or.inl ⟨h2, rfl⟩)
    · rw [if_neg h1, if_neg h2]; exact Or.inr (Or.inr ⟨by omega, rfl⟩)
theorem hb_ch_lt {a b c : Nat} (ha : a ≤ 6) (hb : b ≤ 6) (hc : c ≤ 6) : hb_ch a b c < 37 := by
  unfold hb_ch
  have h1 := hb_hk_e a b
  have h2 := hb_hq_e c (12 - hb_hk a b - a - b)
  have h3 := hb_of_e (hb_hk a b) (by omega)
  omega
theorem hb_of_inj {i q i' q' : Nat} (h1 : i ≤ 6) (h2 : q ≤ 6) (h3 : q ≤ 12 - 2 * i) (h1' : i' ≤ 6) (h2' : q' ≤ 6) (h3' : q' ≤ 12 - 2 * i') (h : hb_of i + q = hb_of i' + q') : i = i' ∧ q = q' := by
  have e := hb_of_e i h1
  have e' := hb_of_e i' h1'
  omega
theorem hb_ch_cmp {a b c a' b' c' : Nat} (ha : a ≤ 6) (hb : b ≤ 6) (hc : c ≤ 6) (ha' : a' ≤ 6) (hb' : b' ≤ 6) (hc' : c' ≤ 6) (h : hb_ch a b c = hb_ch a' b' c') : (a ≤ a' ∧ b ≤ b' ∧ c ≤ c') ∨ (a' ≤ a ∧ b' ≤ b ∧ c' ≤ c) := by
  unfold hb_ch at h
  have h1 := hb_hk_e a b
  have h1' := hb_hk_e a' b'
  have h2 := hb_hq_e c (12 - hb_hk a b - a - b)
  have h2' := hb_hq_e c' (12 - hb_hk a' b' - a' - b')
  obtain ⟨e1, e2⟩ := hb_of_inj (by omega) (by omega) (by omega) (by omega) (by omega) (by omega) h
  clear h
  generalize hb_hk a b = i at *
  generalize hb_hk a' b' = i' at *
  subst e1
  generalize hb_hq c (12 - i - a - b) = q at *
  generalize hb_hq c' (12 - i - a' - b') = q' at *
  subst e2
  omega
def hb_id (c : Nat) : Nat := hb_ch (c / 7 / 7 / 7 / 7 % 7) (c / 7 / 7 / 7 % 7) (c / 7 / 7 % 7) * 49 + (c / 7 % 7 * 7 + c % 7)
theorem hb_m7 (x : Nat) : x % 7 ≤ 6 := by omega
theorem hb_id_lt (c : Nat) : hb_id c < 1813 := by
  unfold hb_id
  have := hb_ch_lt (hb_m7 (c / 7 / 7 / 7 / 7)) (hb_m7 (c / 7 / 7 / 7)) (hb_m7 (c / 7 / 7))
  have h1 := hb_m7 (c / 7)
  have h2 := hb_m7 c
  generalize hb_ch (c / 7 / 7 / 7 / 7 % 7) (c / 7 / 7 / 7 % 7) (c / 7 / 7 % 7) = x at *
  generalize c / 7 % 7 = y at *
  generalize c % 7 = z at *
  omega
theorem hb_pt5 {a b : Nat} : hb_pt 5 a b = true ↔ (a % 7 ≤ b % 7 ∧ a / 7 % 7 ≤ b / 7 % 7 ∧ a / 7 / 7 % 7 ≤ b / 7 / 7 % 7 ∧ a / 7 / 7 / 7 % 7 ≤ b / 7 / 7 / 7 % 7 ∧ a / 7 / 7 / 7 / 7 % 7 ≤ b / 7 / 7 / 7 / 7 % 7) := by
  rw [hb_pt_s, hb_pt_s, hb_pt_s, hb_pt_s, hb_pt_s]
  exact ⟨fun ⟨a, b, c, d, e, _⟩ => ⟨a, b, c, d, e⟩, fun ⟨a, b, c, d, e⟩ => ⟨a, b, c, d, e, rfl⟩⟩
theorem hb_id_cmp {a b : Nat} (h : hb_id a = hb_id b) : hb_pt 5 a b = true ∨ hb_pt 5 b a = true := by
  unfold hb_id at h
  rw [hb_pt5, hb_pt5]
  have a0 := hb_m7 a
  have a1 := hb_m7 (a / 7)
  have a2 := hb_m7 (a / 7 / 7)
  have a3 := hb_m7 (a / 7 / 7 / 7)
  have a4 := hb_m7 (a / 7 / 7 / 7 / 7)
  have b0 := hb_m7 b
  have b1 := hb_m7 (b / 7)
  have b2 := hb_m7 (b / 7 / 7)
  have b3 := hb_m7 (b / 7 / 7 / 7)
  have b4 := hb_m7 (b / 7 / 7 / 7 / 7)
  generalize a / 7 / 7 / 7 / 7 % 7 = p4 at *
  generalize a / 7 / 7 / 7 % 7 = p3 at *
  generalize a / 7 / 7 % 7 = p2 at *
  generalize a / 7 % 7 = p1 at *
  generalize a % 7 = p0 at *
  generalize b / 7 / 7 / 7 / 7 % 7 = q4 at *
  generalize b / 7 / 7 / 7 % 7 = q3 at *
  generalize b / 7 / 7 % 7 = q2 at *
  generalize b / 7 % 7 = q1 at *
  generalize b % 7 = q0 at *
  have e : hb_ch p4 p3 p2 = hb_ch q4 q3 q2 ∧ p1 = q1 ∧ p0 = q0 := by
    generalize hb_ch p4 p3 p2 = x at *
    generalize hb_ch q4 q3 q2 = y at *
    omega
  obtain ⟨e1, e2, e3⟩ := e
  have := hb_ch_cmp a4 a3 a2 b4 b3 b2 e1
  omega
theorem hb_S_few (w : Nat → Int32) {n : Nat} (hn : n ≤ 16807) : (hb_S w n).1 ≤ 1813 := by
  obtain ⟨a2, a3, _⟩ := hb_S_i w n
  refine hb_ph 1813 _ (fun j => hb_id ((hb_S w n).2 j)) (fun j _ => hb_id_lt _) ?_
  intro i j hij hj e
  obtain ⟨h1, h2⟩ := a3 i j hij hj
  rcases hb_id_cmp e with p | p
  · exact h2 p
  · have := hb_pt_le 5 _ _ (by rw [hb_75]; have := a2 j hj; omega) p
    omega
/-- one term more, taken any number of times -/
def hb_rc {α : Type} (op : α → α → α) (t : Nat) (f : Nat → α) : Nat → Nat → α
  | 0, b => f b
  | n + 1, b => if hb_pt 5 t b = true then op (f b) (hb_rc op t f n (b - t)) else f b
theorem hb_nz {t : Nat} (h0 : 0 < t) (ht : t < 16807) : ¬ hb_pt 5 t 0 = true := fun p => by
  have := hb_pt_le 5 t 0 (by rw [hb_75]; exact ht) p
  omega
theorem hb_rc_z {α : Type} {op : α → α → α} {t : Nat} {f : Nat → α} (h0 : 0 < t) (ht : t < 16807) (n : Nat) : hb_rc op t f n 0 = f 0 := by
  cases n with
  | zero => rfl
  | succ n => exact if_neg (hb_nz h0 ht)
theorem hb_rc_fuel {α : Type} {op : α → α → α} {t : Nat} {f : Nat → α} (h0 : 0 < t) (ht : t < 16807) : ∀ n m b : Nat, b ≤ n → b ≤ m → hb_rc op t f n b = hb_rc op t f m b := by
  intro n
  induction n with
  | zero =>
    intro m b h1 h2
    have e : b = 0 := by omega
    subst e
    rw [hb_rc_z h0 ht, hb_rc_z h0 ht]
  | succ n ih =>
    intro m b h1 h2
    cases m with
    | zero =>
      have e : b = 0 := by omega
      subst e
      rw [hb_rc_z h0 ht, hb_rc_z h0 ht]
    | succ m =>
      show (if hb_pt 5 t b = true then op (f b) (hb_rc op t f n (b - t)) else f b) = (if hb_pt 5 t b = true then op (f b) (hb_rc op t f m (b - t)) else f b)
      by_cases p : hb_pt 5 t b = true
      · rw [if_pos p, if_pos p, ih m (b - t) (by omega) (by omega)]
      · rw [if_neg p, if_neg p]
/-- the first k terms, each taken any number of times -/
def hb_it {α : Type} (op : α → α → α) (g : Nat → Nat) (f0 : Nat → α) : Nat → Nat → α
  | 0 => f0
  | k + 1 => fun b => hb_rc op (g k) (hb_it op g f0 k) b b
theorem hb_it_p {α : Type} {op : α → α → α} {g : Nat → Nat} {f0 : Nat → α} {k b : Nat} (h0 : 0 < g k) (ht : g k < 16807) (p : hb_pt 5 (g k) b = true) : hb_it op g f0 (k + 1) b = op (hb_it op g f0 k b) (hb_it op g f0 (k + 1) (b - g k)) := by
  have hl := hb_pt_le 5 (g k) b (by rw [hb_75]; exact ht) p
  cases b with
  | zero => omega
  | succ b =>
    show (if hb_pt 5 (g k) (b + 1) = true then op (hb_it op g f0 k (b + 1)) (hb_rc op (g k) (hb_it op g f0 k) b (b + 1 - g k)) else hb_it op g f0 k (b + 1)) = op (hb_it op g f0 k (b + 1)) (hb_rc op (g k) (hb_it op g f0 k) (b + 1 - g k) (b + 1 - g k))
    rw [if_pos p, hb_rc_fuel h0 ht b (b + 1 - g k) (b + 1 - g k) (by omega) (by omega)]
theorem hb_it_n {α : Type} {op : α → α → α} {g : Nat → Nat} {f0 : Nat → α} {k b : Nat} (p : ¬ hb_pt 5 (g k) b = true) : hb_it op g f0 (k + 1) b = hb_it op g f0 k b := by
  cases b with
  | zero => rfl
  | succ b => exact if_neg p
/-- how few terms -/
def hb_fo (x y : Nat) : Nat := if y + 1 < x then y + 1 else x
def hb_f0 (b : Nat) : Nat := if b = 0 then 0 else 16807
def hb_F (g : Nat → Nat) : Nat → Nat → Nat := hb_it hb_fo g hb_f0
/-- in how many ways -/
def hb_w0 (b : Nat) : Int32 := if b = 0 then 1 else 0
def hb_M (g : Nat → Nat) : Nat → Nat → Int32 := hb_it (fun x y : Int32 => x + y) g hb_w0
theorem hb_fo_e (x y : Nat) : (y + 1 < x ∧ hb_fo x y = y + 1) ∨ (x ≤ y + 1 ∧ hb_fo x y = x) := by
  unfold hb_fo
  by_cases h : y + 1 < x
  · rw [if_pos h]; exact Or.inl ⟨h, rfl⟩
  · rw [if_neg h]; exact Or.inr ⟨by omega, rfl⟩
theorem hb_F_s {g : Nat → Nat} {k b : Nat} (h0 : 0 < g k) (ht : g k < 16807) : hb_F g (k + 1) b ≤ hb_F g k b := by
  by_cases p : hb_pt 5 (g k) b = true
  · have e : hb_F g (k + 1) b = hb_fo (hb_F g k b) (hb_F g (k + 1) (b - g k)) := hb_it_p h0 ht p
    have := hb_fo_e (hb_F g k b) (hb_F g (k + 1) (b - g k))
    omega
  · have e : hb_F g (k + 1) b = hb_F g k b := hb_it_n p
    omega
theorem hb_F_top {g : Nat → Nat} {m : Nat} (hg : ∀ j, j < m → 0 < g j ∧ g j < 16807) : ∀ k b : Nat, k ≤ m → hb_F g k b ≤ 16807 := by
  intro k
  induction k with
  | zero =>
    intro b _
    show (if b = 0 then 0 else 16807) ≤ 16807
    by_cases e : b = 0
    · rw [if_pos e]; omega
    · rw [if_neg e]; omega
  | succ k ih =>
    intro b hk
    have h := hg k (by omega)
    have := hb_F_s (b := b) h.1 h.2
    have := ih b (by omega)
    omega
theorem hb_F_few {w : Nat → Int32} {g : Nat → Nat} {m : Nat} (hg : ∀ j, j < m → 0 < g j ∧ g j < 16807 ∧ hb_B w (g j) = true) :
    ∀ k : Nat, k ≤ m → ∀ b : Nat, b < 16807 → hb_B w b = true → (∀ c, 0 < c → c < 16807 → hb_B w c = true → hb_pt 5 c b = true → ∃ j, j < k ∧ hb_pt 5 (g j) c = true) → hb_F g k b ≤ hb_ds 5 b := by
  intro k
  induction k with
  | zero =>
    intro _ b hb hB hp
    by_cases e : b = 0
    · subst e
      exact Nat.zero_le _
    · obtain ⟨j, hj, _⟩ := hp b (by omega) hb hB (hb_pt_refl 5 b)
      omega
  | succ k ih =>
    intro hk b
    induction b using Nat.strongRecOn with
    | ind b ihb =>
      intro hb hB hp
      obtain ⟨g0, g1, g2⟩ := hg k (by omega)
      have g1' : g k < 7 ^ 5 := by rw [hb_75]; exact g1
      by_cases p : hb_pt 5 (g k) b = true
      · have hl := hb_pt_le 5 _ _ g1' p
        have hs := hb_pt_sub 5 _ _ g1' p
        have q := ihb (b - g k) (by omega) (by omega) (hb_B_sub g1 p g2 hB) (fun c c0 c1 c2 c3 => hp c c0 c1 c2 (hb_pt_trans 5 _ _ _ c3 hs))
        have e : hb_F g (k + 1) b = hb_fo (hb_F g k b) (hb_F g (k + 1) (b - g k)) := hb_it_p g0 g1 p
        have := hb_fo_e (hb_F g k b) (hb_F g (k + 1) (b - g k))
        have := hb_ds_sub 5 _ _ g1' p
        have := hb_ds_pos 5 _ g1' g0
        omega
      · have e : hb_F g (k + 1) b = hb_F g k b := hb_it_n p
        rw [e]
        refine ih (by omega) b hb hB ?_
        intro c c0 c1 c2 c3
        obtain ⟨j, hj, pj⟩ := hp c c0 c1 c2 c3
        by_cases ej : j = k
        · subst ej
          exact absurd (hb_pt_trans 5 _ _ _ pj c3) p
        · exact ⟨j, by omega, pj⟩
theorem hb_F_end (w : Nat → Int32) {b : Nat} (hb : b < 16807) (hB : hb_B w b = true) : hb_F (hb_S w 16807).2 (hb_S w 16807).1 b ≤ 30 := by
  obtain ⟨a2, _, a4⟩ := hb_S_i w 16807
  have := hb_F_few (w := w) (g := (hb_S w 16807).2) (m := (hb_S w 16807).1) a2 _ (Nat.le_refl _) b hb hB (fun c c0 c1 c2 _ => a4 c c0 c1 c2)
  have := hb_ds_le 5 b
  omega
/-- the r-th row below c -/
def hb_un : Nat → Nat → Nat → Nat
  | 0, _, _ => 0
  | n + 1, c, r => r % (c % 7 + 1) + 7 * hb_un n (c / 7) (r / (c % 7 + 1))
/-- how many rows are below c -/
def hb_pr : Nat → Nat → Nat
  | 0, _ => 1
  | n + 1, c => (c % 7 + 1) * hb_pr n (c / 7)
theorem hb_un_pt : ∀ n c r : Nat, hb_pt n (hb_un n c r) c = true := by
  intro n
  induction n with
  | zero => intro c r; rfl
  | succ n ih =>
    intro c r
    have h := Nat.mod_lt r (Nat.succ_pos (c % 7))
    have h7 := hb_m7 c
    rw [hb_pt_s]
    show (r % (c % 7 + 1) + 7 * hb_un n (c / 7) (r / (c % 7 + 1))) % 7 ≤ c % 7 ∧ hb_pt n ((r % (c % 7 + 1) + 7 * hb_un n (c / 7) (r / (c % 7 + 1))) / 7) (c / 7) = true
    have h' : r % (c % 7 + 1) < c % 7 + 1 := h
    have i := ih (c / 7) (r / (c % 7 + 1))
    generalize hb_un n (c / 7) (r / (c % 7 + 1)) = u at *
    generalize r % (c % 7 + 1) = q at *
    have e : (q + 7 * u) / 7 = u := by omega
    rw [e]
    exact ⟨by omega, i⟩
theorem hb_un_lt : ∀ n c r : Nat, hb_un n c r < 7 ^ n := by
  intro n
  induction n with
  | zero => intro c r; exact Nat.one_pos
  | succ n ih =>
    intro c r
    have h : r % (c % 7 + 1) < c % 7 + 1 := Nat.mod_lt r (Nat.succ_pos (c % 7))
    have h7 := hb_m7 c
    have i := ih (c / 7) (r / (c % 7 + 1))
    show r % (c % 7 + 1) + 7 * hb_un n (c / 7) (r / (c % 7 + 1)) < 7 ^ (n + 1)
    rw [Nat.pow_succ]
    generalize hb_un n (c / 7) (r / (c % 7 + 1)) = u at *
    generalize r % (c % 7 + 1) = q at *
    generalize 7 ^ n = z at *
    omega
theorem hb_un_mono : ∀ n c r r' : Nat, r < r' → r' < hb_pr n c → hb_un n c r < hb_un n c r' := by
  intro n
  induction n with
  | zero =>
    intro c r r' h1 h2
    have h2' : r' < 1 := h2
    omega
  | succ n ih =>
    intro c r r' h1 h2
    have h2' : r' < (c % 7 + 1) * hb_pr n (c / 7) := h2
    have q1 : r % (c % 7 + 1) < c % 7 + 1 := Nat.mod_lt r (Nat.succ_pos (c % 7))
    have q2 : r' % (c % 7 + 1) < c % 7 + 1 := Nat.mod_lt r' (Nat.succ_pos (c % 7))
    have h7 := hb_m7 c
    have d := Nat.div_lt_of_lt_mul h2'
    have le : r / (c % 7 + 1) ≤ r' / (c % 7 + 1) := Nat.div_le_div_right (Nat.le_of_lt h1)
    have e1 := Nat.div_add_mod r (c % 7 + 1)
    have e2 := Nat.div_add_mod r' (c % 7 + 1)
    show r % (c % 7 + 1) + 7 * hb_un n (c / 7) (r / (c % 7 + 1)) < r' % (c % 7 + 1) + 7 * hb_un n (c / 7) (r' / (c % 7 + 1))
    by_cases z : r / (c % 7 + 1) < r' / (c % 7 + 1)
    · have := ih (c / 7) _ _ z d
      omega
    · have z' : r / (c % 7 + 1) = r' / (c % 7 + 1) := by omega
      rw [z'] at e1 ⊢
      omega
theorem hb_un_onto : ∀ n c x : Nat, x < 7 ^ n → hb_pt n x c = true → ∃ r, r < hb_pr n c ∧ hb_un n c r = x := by
  intro n
  induction n with
  | zero =>
    intro c x h _
    have h' : x < 1 := h
    exact ⟨0, Nat.one_pos, by show 0 = x; omega⟩
  | succ n ih =>
    intro c x h p
    obtain ⟨p1, p2⟩ := hb_pt_s.mp p
    obtain ⟨r, hr, er⟩ := ih (c / 7) (x / 7) (hb_p7 h) p2
    refine ⟨x % 7 + (c % 7 + 1) * r, ?_, ?_⟩
    · show x % 7 + (c % 7 + 1) * r < (c % 7 + 1) * hb_pr n (c / 7)
      have : (c % 7 + 1) * (r + 1) ≤ (c % 7 + 1) * hb_pr n (c / 7) := Nat.mul_le_mul_left _ hr
      rw [Nat.mul_succ] at this
      omega
    · show (x % 7 + (c % 7 + 1) * r) % (c % 7 + 1) + 7 * hb_un n (c / 7) ((x % 7 + (c % 7 + 1) * r) / (c % 7 + 1)) = x
      rw [Nat.add_mul_mod_self_left, Nat.add_mul_div_left _ _ (Nat.succ_pos _), Nat.mod_eq_of_lt (show x % 7 < c % 7 + 1 by omega), Nat.div_eq_of_lt (show x % 7 < c % 7 + 1 by omega), Nat.zero_add, er]
      omega
theorem hb_pr_le : ∀ n c : Nat, hb_pr n c ≤ 7 ^ n := by
  intro n
  induction n with
  | zero => intro c; exact Nat.le_refl 1
  | succ n ih =>
    intro c
    have h7 := hb_m7 c
    show (c % 7 + 1) * hb_pr n (c / 7) ≤ 7 ^ (n + 1)
    rw [Nat.pow_succ, Nat.mul_comm (7 ^ n)]
    exact Nat.mul_le_mul (by omega) (ih _)
