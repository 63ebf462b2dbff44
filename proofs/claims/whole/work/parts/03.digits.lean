/-! digits by their number, sums, maxima, numbers as the walks hold them -/
theorem pk_us {f : Nat → Int32} {k : Nat} {x : Int32} : upd f k x k = x := if_pos rfl
theorem pk_un {f : Nat → Int32} {k j : Nat} {x : Int32} (h : j ≠ k) : upd f k x j = f j := if_neg h
theorem pk_sub {a b : Nat} (h : b ≤ a) : nI a - nI b = nI (a - b) := (hb_nsub h).symm
theorem pk_m1 (n : Nat) : nI (n + 1) + (-1) = nI n := by
  rw [← nI_1, Int32.add_assoc, show (1 : Int32) + (-1) = 0 from rfl, Int32.add_zero]
theorem pk_mul (a b : Nat) : nI a * nI b = nI (a * b) := (Int32.ofNat_mul a b).symm
theorem pk_div {a d : Nat} (ha : a < 2 ^ 31) (h0 : 0 < d) (hd : d < 2 ^ 31) : nI a / nI d = nI (a / d) := by
  apply Int32.toInt_inj.mp
  rw [lg_idiv_nonneg (by rw [nI_toInt ha]; omega) (by rw [nI_toInt hd]; omega), nI_toInt ha, nI_toInt hd, nI_toInt (Nat.lt_of_le_of_lt (Nat.div_le_self a d) ha)]
  first | rfl | exact (Int.natCast_ediv _ _).symm
theorem pk_rem {a d : Nat} (ha : a < 2 ^ 31) (h0 : 0 < d) (hd : d < 2 ^ 31) : nI a - nI a / nI d * nI d = nI (a % d) := by
  rw [pk_div ha h0 hd, pk_mul, pk_sub (Nat.div_mul_le_self a d)]
  exact congrArg nI (by have := Nat.div_add_mod' a d; omega)
theorem pk_ix (x : Int32) {n : Nat} (hn : n < 2 ^ 31) : x < 0 ∨ nI n ≤ x ∨ ∃ j : Nat, j < n ∧ x = nI j := by
  by_cases h : x < 0
  · exact Or.inl h
  · obtain ⟨j, hj, rfl⟩ := nI_of h
    by_cases h2 : j < n
    · exact Or.inr (Or.inr ⟨j, h2, rfl⟩)
    · exact Or.inr (Or.inl (nI_le (by omega) hj))
theorem pk_le {x y : Int32} {A B : Prop} (a b : Nat) (f : a ≤ b → A) (g : b < a → B) (hx : x = nI a := by rfl) (hy : y = nI b := by rfl) (ha : a < 2 ^ 31 := by omega) (hb : b < 2 ^ 31 := by omega) : (x ≤ y → A) ∧ (¬ x ≤ y → B) := by
  subst hx hy
  rw [nI_leI ha hb]
  exact ⟨f, fun z => g (by omega)⟩
theorem pk_lt {x y : Int32} {A B : Prop} (a b : Nat) (f : a < b → A) (g : b ≤ a → B) (hx : x = nI a := by rfl) (hy : y = nI b := by rfl) (ha : a < 2 ^ 31 := by omega) (hb : b < 2 ^ 31 := by omega) : (x < y → A) ∧ (¬ x < y → B) := by
  subst hx hy
  rw [nI_ltI ha hb]
  exact ⟨f, fun z => g (by omega)⟩
theorem pk_eq {x y : Int32} {A B : Prop} (a b : Nat) (f : a = b → A) (g : a ≠ b → B) (hx : x = nI a := by rfl) (hy : y = nI b := by rfl) (ha : a < 2 ^ 31 := by omega) (hb : b < 2 ^ 31 := by omega) : (x = y → A) ∧ (¬ x = y → B) := by
  subst hx hy
  rw [nI_eq ha hb]
  exact ⟨f, g⟩
theorem pk_in {x : Int32} (n N : Nat) (h : n < N) (hx : x = nI n := by rfl) (hN : N < 2 ^ 31 := by omega) : vp_in x N := by
  subst hx
  exact vp_in_nI h hN
theorem pk_cl {x : Int32} (n : Nat) (hx : x = nI n := by rfl) (h : n < 2 ^ 31 := by omega) : x.toNatClampNeg = n := by
  subst hx
  exact nI_clamp h
/-- c without its last j digits -/
def hb_sh : Nat → Nat → Nat
  | 0, c => c
  | j + 1, c => hb_sh j (c / 7)
/-- the i-th digit -/
def hb_dg (c i : Nat) : Nat := hb_sh (4 - i) c % 7
theorem hb_dg_le (c i : Nat) : hb_dg c i ≤ 6 := hb_m7 _
theorem hb_pt_dg {a b : Nat} : hb_pt 5 a b = true ↔ ∀ i, i < 5 → hb_dg a i ≤ hb_dg b i := by
  rw [hb_pt5]
  constructor
  · rintro ⟨h4, h3, h2, h1, h0⟩ i hi
    match i, hi with
    | 0, _ => exact h0
    | 1, _ => exact h1
    | 2, _ => exact h2
    | 3, _ => exact h3
    | 4, _ => exact h4
  · intro h
    exact ⟨h 4 (by decide), h 3 (by decide), h 2 (by decide), h 1 (by decide), h 0 (by decide)⟩
theorem hb_dg0 {c : Nat} (h : c < 16807) : c / 2401 = hb_dg c 0 := by
  show c / 2401 = c / 7 / 7 / 7 / 7 % 7
  rw [Nat.div_div_eq_div_mul, Nat.div_div_eq_div_mul, Nat.div_div_eq_div_mul]
  omega
theorem hb_dg1 (c : Nat) : c / 343 % 7 = hb_dg c 1 := by
  show c / 343 % 7 = c / 7 / 7 / 7 % 7
  rw [Nat.div_div_eq_div_mul, Nat.div_div_eq_div_mul]
theorem hb_dg2 (c : Nat) : c / 49 % 7 = hb_dg c 2 := by
  show c / 49 % 7 = c / 7 / 7 % 7
  rw [Nat.div_div_eq_div_mul]
theorem hb_dg3 (c : Nat) : c / 7 % 7 = hb_dg c 3 := rfl
theorem hb_dg4 (c : Nat) : c % 7 = hb_dg c 4 := rfl
/-- sums of numbers as the walks hold them -/
def hb_sm (f : Nat → Int32) : Nat → Int32
  | 0 => 0
  | k + 1 => hb_sm f k + f k
/-- sums of naturals -/
def hb_sn (f : Nat → Nat) : Nat → Nat
  | 0 => 0
  | k + 1 => hb_sn f k + f k
/-- the greatest -/
def hb_mx (f : Nat → Nat) : Nat → Nat
  | 0 => 0
  | k + 1 => if hb_mx f k < f k then f k else hb_mx f k
theorem hb_ring5 (a b c d e p q r s t : Int32) : p * a + (q * b + (r * c + (s * d + (t * e + 0)))) = 0 + e * t + d * s + c * r + b * q + a * p := by grind
theorem hb_tl_sm (w : Nat → Int32) (c : Nat) : hb_sm (fun i => nI (hb_dg c i) * w i) 5 = hb_tl w 5 c :=
  (hb_ring5 (nI (hb_dg c 4)) (nI (hb_dg c 3)) (nI (hb_dg c 2)) (nI (hb_dg c 1)) (nI (hb_dg c 0)) (w 4) (w 3) (w 2) (w 1) (w 0)).symm
theorem hb_ds_sn (c : Nat) : hb_sn (hb_dg c) 5 = hb_ds 5 c := by
  show 0 + hb_dg c 0 + hb_dg c 1 + hb_dg c 2 + hb_dg c 3 + hb_dg c 4 = hb_dg c 4 + (hb_dg c 3 + (hb_dg c 2 + (hb_dg c 1 + (hb_dg c 0 + 0))))
  omega
theorem hb_sn_le {f : Nat → Nat} {b : Nat} (h : ∀ i, f i ≤ b) : ∀ k : Nat, hb_sn f k ≤ b * k := by
  intro k
  induction k with
  | zero => exact Nat.le_refl 0
  | succ k ih =>
    show hb_sn f k + f k ≤ b * (k + 1)
    have := h k
    rw [Nat.mul_succ]
    omega
theorem hb_mx_le {f : Nat → Nat} {b : Nat} (h : ∀ i, f i ≤ b) : ∀ k : Nat, hb_mx f k ≤ b := by
  intro k
  induction k with
  | zero => exact Nat.zero_le _
  | succ k ih =>
    show (if hb_mx f k < f k then f k else hb_mx f k) ≤ b
    by_cases e : hb_mx f k < f k
    · rw [if_pos e]; exact h k
    · rw [if_neg e]; exact ih
/-- the product of the digits, each one more -/
def hb_pd (c : Nat) : Nat → Nat
  | 0 => 1
  | k + 1 => hb_pd c k * (hb_dg c k + 1)
theorem hb_pd_pr (c : Nat) : hb_pd c 5 = hb_pr 5 c := by
  show 1 * (hb_dg c 0 + 1) * (hb_dg c 1 + 1) * (hb_dg c 2 + 1) * (hb_dg c 3 + 1) * (hb_dg c 4 + 1) = (hb_dg c 4 + 1) * ((hb_dg c 3 + 1) * ((hb_dg c 2 + 1) * ((hb_dg c 1 + 1) * ((hb_dg c 0 + 1) * 1))))
  rw [Nat.mul_one, Nat.one_mul]
  simp only [Nat.mul_comm, Nat.mul_left_comm, Nat.mul_assoc]
theorem hb_pd_le (c : Nat) : ∀ k : Nat, hb_pd c k ≤ 7 ^ k := by
  intro k
  induction k with
  | zero => exact Nat.le_refl 1
  | succ k ih =>
    show hb_pd c k * (hb_dg c k + 1) ≤ 7 ^ (k + 1)
    rw [Nat.pow_succ]
    exact Nat.mul_le_mul ih (by have := hb_dg_le c k; omega)
theorem hb_sh_s : ∀ j c : Nat, hb_sh (j + 1) c = hb_sh j c / 7 := by
  intro j
  induction j with
  | zero => intro c; rfl
  | succ j ih => intro c; exact ih (c / 7)
