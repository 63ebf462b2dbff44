/-! the reference's walks: digits, parts, its list -/
theorem hb_d2401 {a : Nat} (h : a < 16807) : nI a / 2401 = nI (a / 2401) := pk_div (d := 2401) (by omega) (by decide) (by decide)
theorem hb_d343 {a : Nat} (h : a < 16807) : nI a / 343 = nI (a / 343) := pk_div (d := 343) (by omega) (by decide) (by decide)
theorem hb_d49 {a : Nat} (h : a < 16807) : nI a / 49 = nI (a / 49) := pk_div (d := 49) (by omega) (by decide) (by decide)
section
variable {post : Int32 → Prop} {rd cn ba : Int32} {w cd mn fe : Nat → Int32}
theorem hy_dg {c i : Nat} (hc : c < 16807) (hi : i < 5) (h : post (nI (hb_dg c i))) : wpY_digit post (rd, cn, ba, w, cd, mn, fe) (nI c) (nI i) := by
  match i, hi with
  | 0, _ =>
    refine br_t (by decide) ⟨by decide, ?_⟩
    rw [hb_d2401 hc, hb_dg0 hc]
    exact h
  | 1, _ =>
    refine br_f (by decide) (br_t (by decide) ⟨by decide, by decide, ?_⟩)
    rw [hb_d343 hc, hb_r7 (by omega), hb_dg1]
    exact h
  | 2, _ =>
    refine br_f (by decide) (br_f (by decide) (br_t (by decide) ⟨by decide, by decide, ?_⟩))
    rw [hb_d49 hc, hb_r7 (by omega), hb_dg2]
    exact h
  | 3, _ =>
    refine br_f (by decide) (br_f (by decide) (br_f (by decide) (br_t (by decide) ⟨by decide, by decide, ?_⟩)))
    rw [hb_q7 hc, hb_r7 (by omega), hb_dg3]
    exact h
  | 4, _ =>
    refine br_f (by decide) (br_f (by decide) (br_f (by decide) (br_f (by decide) ⟨by decide, ?_⟩)))
    rw [hb_r7 hc, hb_dg4]
    exact h
theorem hy_bal_4 {c : Nat} (hc : c < 16807) (ht : hb_B w c = true → post 1) (hf : ¬ hb_B w c = true → post 0) :
    ∀ d i : Nat, i + d = 5 → wY_balanced_4 post (nI c) rd cn ba w cd mn fe (d + 1) (hb_sm (fun i => nI (hb_dg c i) * w i) i) (nI i) := by
  intro d
  induction d with
  | zero =>
    intro i hi
    have e : i = 5 := by omega
    subst e
    refine br_t (by decide) ?_
    rw [hb_tl_sm]
    exact br_c (fun z => ht (hb_B_i.mpr z)) (fun z => hf (fun y => z (hb_B_i.mp y)))
  | succ d ih =>
    intro i hi
    refine br_f (nI_ge (b := 5) (by omega) (by decide)) (hy_dg hc (by omega) ⟨vp_in_nI (by omega) (by decide), ?_⟩)
    rw [nI_clamp (by omega)]
    exact nm_e (nm_r (nI_1 i) (ih (i + 1) (by omega)))
theorem hy_bal {c : Nat} (hc : c < 16807) (ht : hb_B w c = true → post 1) (hf : ¬ hb_B w c = true → post 0) : wpY_balanced post (rd, cn, ba, w, cd, mn, fe) (nI c) :=
  ⟨6, hy_bal_4 hc ht hf 5 0 rfl⟩
theorem hy_part_2 {a b : Nat} (ha : a < 16807) (hb : b < 16807) (ht : hb_pt 5 a b = true → post 1) (hf : ¬ hb_pt 5 a b = true → post 0) :
    ∀ d i : Nat, i + d = 5 → (∀ j, j < i → hb_dg a j ≤ hb_dg b j) → wY_part_2 post (nI a) (nI b) rd cn ba w cd mn fe (d + 1) (nI i) := by
  intro d
  induction d with
  | zero =>
    intro i hi h
    have e : i = 5 := by omega
    subst e
    exact br_t (by decide) (ht (hb_pt_dg.mpr h))
  | succ d ih =>
    intro i hi h
    have da := hb_dg_le a i
    have db := hb_dg_le b i
    refine br_f (nI_ge (b := 5) (by omega) (by decide)) (hy_dg ha (by omega) (hy_dg hb (by omega) (pk_le (hb_dg a i) (hb_dg b i) (fun q => nm_r (nI_1 i) (ih (i + 1) (by omega) ?_)) (fun q => hf ?_))))
    · intro j hj
      by_cases z : j = i
      · subst z; exact q
      · exact h j (by omega)
    · intro z
      have := hb_pt_dg.mp z i (by omega)
      omega
theorem hy_part {a b : Nat} (ha : a < 16807) (hb : b < 16807) (ht : hb_pt 5 a b = true → post 1) (hf : ¬ hb_pt 5 a b = true → post 0) : wpY_part post (rd, cn, ba, w, cd, mn, fe) (nI a) (nI b) :=
  ⟨6, hy_part_2 ha hb ht hf 5 0 rfl (fun j h => absurd h (Nat.not_lt_zero j))⟩
theorem hy_al_2 {g : Nat → Nat} {m c : Nat} (hm : m ≤ 1813) (hc : c < 16807) (hg : ∀ j, j < m → cd j = nI (g j) ∧ g j < 16807)
    (ht : hb_any g c m = false → post 1) (hf : hb_any g c m = true → post 0) :
    ∀ d k : Nat, k + d = m → (∀ i, i < k → ¬ hb_pt 5 (g i) c = true) → wY_alone_2 post (nI c) rd (nI m) ba w cd mn fe (d + 1) (nI k) := by
  intro d
  induction d with
  | zero =>
    intro k hk h
    have e : k = m := by omega
    subst e
    exact br_t (nI_le (Nat.le_refl _) (by omega)) (ht (hb_any_f.mpr h))
  | succ d ih =>
    intro k hk h
    have e : cd (nI k).toNatClampNeg = nI (g k) := by rw [nI_clamp (by omega)]; exact (hg k (by omega)).1
    refine br_f (nI_ge (by omega) (by omega)) (br_f (nI_ge (b := 2000) (by omega) (by decide)) ⟨vp_in_nI (by omega) (by decide), ?_⟩)
    rw [e]
    refine hy_part (hg k (by omega)).2 hc (fun p => br_f (by decide) (hf (hb_any_t.mpr ⟨k, by omega, p⟩))) (fun p => br_t rfl (nm_r (nI_1 k) (ih (k + 1) (by omega) ?_)))
    intro i hi
    by_cases z : i = k
    · subst z; exact p
    · exact h i (by omega)
theorem hy_al {g : Nat → Nat} {m c : Nat} (hm : m ≤ 1813) (hc : c < 16807) (hg : ∀ j, j < m → cd j = nI (g j) ∧ g j < 16807)
    (ht : hb_any g c m = false → post 1) (hf : hb_any g c m = true → post 0) : wpY_alone post (rd, nI m, ba, w, cd, mn, fe) (nI c) :=
  ⟨m + 1, hy_al_2 hm hc hg ht hf m 0 (by omega) (fun i h => absurd h (Nat.not_lt_zero i))⟩
end
/-- the reference's list, told by the weights -/
def hb_YL (w : Nat → Int32) (cn ba : Int32) (cd : Nat → Int32) : Prop :=
  cn = nI (hb_S w 16807).1 ∧ ba = nI (hb_E w 16807).1 ∧ ∀ j, j < (hb_S w 16807).1 → cd j = nI ((hb_S w 16807).2 j)
section
variable {post : SY → Prop} {rd : Int32} {w mn fe : Nat → Int32}
theorem hy_wk_19 (hp : ∀ cd : Nat → Int32, (∀ j, j < (hb_S w 16807).1 → cd j = nI ((hb_S w 16807).2 j)) → post (1, nI (hb_S w 16807).1, nI (hb_E w 16807).1, w, cd, mn, fe)) :
    ∀ (d c : Nat) (cd : Nat → Int32), c + d = 16807 → 1 ≤ c → (∀ j, j < (hb_S w c).1 → cd j = nI ((hb_S w c).2 j)) → wY_work_19 post rd (d + 1) (nI c) (nI (hb_S w c).1) (nI (hb_E w c).1) w cd mn fe := by
  intro d
  induction d with
  | zero =>
    intro c cd hc _ h
    have e : c = 16807 := by omega
    subst e
    exact br_t (nI_le (Nat.le_refl _) (by decide)) (hp cd h)
  | succ d ih =>
    intro c cd hc h0 h
    have i1 := (hb_E_i w c).1
    have few := hb_S_few w (n := c) (by omega)
    obtain ⟨s1, s2, s3⟩ := hb_S_i w c
    refine br_f (nI_ge (b := 16807) (by omega) (by decide)) (hy_bal (by omega) (fun hB => br_f (by decide) (nm_r (nI_1 _) (br_f (by decide) (br_f (nI_ge (b := 2000) (by omega) (by decide)) (hy_al (g := (hb_S w c).2) few (by omega) (fun j hj => ⟨h j hj, ?_⟩) (fun z => br_f (by decide) ?_) (fun z => br_t rfl (nm_r (nI_1 c) ?_))))))) (fun hB => br_t rfl (br_t rfl (nm_r (nI_1 c) ?_))))
    · have := s1 j hj
      omega
    · have q := ih (c + 1)
      rw [hb_E_t hB, hb_S_t (by omega) hB z] at q
      generalize hb_S w c = s at h few q ⊢
      obtain ⟨m, g⟩ := s
      dsimp only at h few q ⊢
      refine ⟨vp_in_nI (by omega) (by decide), nm_e (nm_r (nI_1 m) (nm_r (nI_1 c) (q _ (by omega) (by omega) ?_)))⟩
      intro j hj
      rw [nI_clamp (by omega)]
      by_cases z : j = m
      · subst z; rw [pk_us, hb_put_s]
      · rw [pk_un z, hb_put_n z]; exact h j (by omega)
    · have q := ih (c + 1) cd (by omega) (by omega)
      rw [hb_E_t hB, hb_S_f (fun y => by rw [z] at y; exact absurd y.2.2 (by decide))] at q
      exact q h
    · have q := ih (c + 1) cd (by omega) (by omega)
      rw [hb_E_f hB, hb_S_f (fun y => hB y.2.1)] at q
      exact q h
theorem hy_wk {cn ba : Int32} {cd : Nat → Int32} (hr : ¬ rd = 0 → hb_YL w cn ba cd) (hp : ∀ (rd cn ba : Int32) (cd : Nat → Int32), ¬ rd = 0 → hb_YL w cn ba cd → post (rd, cn, ba, w, cd, mn, fe)) : wpY_work post (rd, cn, ba, w, cd, mn, fe) := by
  refine br_c (fun z => ?_) (fun z => hp _ _ _ _ z (hr z))
  have e1 : hb_S w 1 = hb_S w 0 := hb_S_f (fun z => z.1 rfl)
  have e2 : (hb_E w 1).1 = 1 := by rw [hb_E_t (hb_B0 w)]; rfl
  have q := hy_wk_19 (post := post) (rd := rd) (w := w) (mn := mn) (fe := fe) (fun cd h => hp 1 _ _ cd (by decide) ⟨rfl, rfl, h⟩) 16806 1 cd rfl (Nat.le_refl 1) (by rw [e1]; exact fun j h => absurd h (Nat.not_lt_zero j))
  rw [e1, e2] at q
  exact ⟨_, q⟩
end
