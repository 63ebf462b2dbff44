/-! the reference's tables of sums -/
section
variable {post : Int32 → Prop} {rd cn ba : Int32} {w cd mn fe : Nat → Int32}
theorem hy_parts_4 {c : Nat} (hc : c < 16807) (h : post (nI (hb_pr 5 c))) :
    ∀ d i : Nat, i + d = 5 → wY_parts_4 post (nI c) rd cn ba w cd mn fe (d + 1) (nI (hb_pd c i)) (nI i) := by
  intro d
  induction d with
  | zero =>
    intro i hi
    have e : i = 5 := by omega
    subst e
    refine br_t (by decide) ?_
    rw [hb_pd_pr]
    exact h
  | succ d ih =>
    intro i hi
    refine br_f (nI_ge (b := 5) (by omega) (by decide)) (hy_dg hc (by omega) (nm_r (e' := nI (hb_pd c (i + 1))) ?_ (nm_r (nI_1 i) (ih (i + 1) (by omega)))))
    rw [nI_1, pk_mul]
    rfl
theorem hy_parts {c : Nat} (hc : c < 16807) (h : post (nI (hb_pr 5 c))) : wpY_parts post (rd, cn, ba, w, cd, mn, fe) (nI c) :=
  ⟨6, hy_parts_4 hc h 5 0 rfl⟩
theorem hb_ringU (s p x u : Int32) : s + p * x + 7 * x * u = s + x * (p + 7 * u) := by grind
theorem hy_un_11 {c : Nat} (hc : c < 16807) : ∀ (n r : Nat) (s x : Int32), n ≤ 5 → r < 16807 → post (s + x * nI (hb_un n (hb_sh (5 - n) c) r)) → wY_under_11 post (nI c) rd cn ba w cd mn fe (n + 1) (nI r) s x (nI n + (-1)) := by
  intro n
  induction n with
  | zero =>
    intro r s x _ _ h
    have h' : post s := by
      have e : s + x * nI (hb_un 0 (hb_sh (5 - 0) c) r) = s := by
        show s + x * nI 0 = s
        rw [nI_0, Int32.mul_zero, Int32.add_zero]
      rw [e] at h
      exact h
    exact br_t (by decide) h'
  | succ n ih =>
    intro r s x hn hr h
    rw [pk_m1]
    have hd := hb_dg_le c n
    have ed : hb_dg c n = hb_sh (5 - (n + 1)) c % 7 := by
      show hb_sh (4 - n) c % 7 = _
      rw [show 4 - n = 5 - (n + 1) by omega]
    have es : hb_sh (5 - n) c = hb_sh (5 - (n + 1)) c / 7 := by
      rw [show 5 - n = 5 - (n + 1) + 1 by omega]
      exact hb_sh_s _ _
    have hlt : r / (hb_dg c n + 1) < 16807 := Nat.lt_of_le_of_lt (Nat.div_le_self _ _) hr
    refine br_f (nI_pos (by omega)) (hy_dg hc (by omega) (nm_r (nI_1 _) (br_t (nI_le (a := 1) (by omega) (by omega)) ⟨nI_ne0 (by omega) (by omega), nm_r (e' := s + nI (r % (hb_dg c n + 1)) * x) ?_ ⟨nI_ne0 (by omega) (by omega), nm_r (pk_div (by omega) (by omega) (by omega)) (nm_e (nm_e (ih _ _ _ (by omega) hlt ?_)))⟩⟩)))
    · rw [pk_rem (by omega) (by omega) (by omega)]
    · rw [hb_ringU, es]
      have e : nI (hb_un (n + 1) (hb_sh (5 - (n + 1)) c) r) = nI (r % (hb_dg c n + 1)) + 7 * nI (hb_un n (hb_sh (5 - (n + 1)) c / 7) (r / (hb_dg c n + 1))) := by
        rw [ed]
        show nI (r % (hb_sh (5 - (n + 1)) c % 7 + 1) + 7 * hb_un n (hb_sh (5 - (n + 1)) c / 7) (r / (hb_sh (5 - (n + 1)) c % 7 + 1))) = _
        rw [← nI_add, ← pk_mul]
        rfl
      rw [e] at h
      exact h
theorem hy_un {c r : Nat} (hc : c < 16807) (hr : r < 16807) (h : post (nI (hb_un 5 c r))) : wpY_under post (rd, cn, ba, w, cd, mn, fe) (nI c) (nI r) := by
  have q := hy_un_11 (post := post) (rd := rd) (cn := cn) (ba := ba) (w := w) (cd := cd) (mn := mn) (fe := fe) hc 5 r 0 1 (by omega) hr (by
    rw [Int32.zero_add, Int32.one_mul]
    exact h)
  rw [pk_m1] at q
  exact ⟨6, q⟩
end
/-- the reference stops at 1000 -/
def hb_k (x : Nat) : Nat := if x ≤ 1000 then x else 1000
theorem hb_k_e (x : Nat) : (x ≤ 1000 ∧ hb_k x = x) ∨ (1000 < x ∧ hb_k x = 1000) := by
  unfold hb_k
  by_cases h : x ≤ 1000
  · rw [if_pos h]; exact Or.inl ⟨h, rfl⟩
  · rw [if_neg h]; exact Or.inr ⟨by omega, rfl⟩
/-- the tables at the row x hold what the first s terms give -/
def hb_V (g : Nat → Nat) (s : Nat) (mn fe : Nat → Int32) (x : Nat) : Prop := mn x = hb_M g s x ∧ fe x = nI (hb_k (hb_F g s x))
/-- .. at every row below c -/
def hb_U (g : Nat → Nat) (s c : Nat) (mn fe : Nat → Int32) : Prop := ∀ r, r < hb_pr 5 c → hb_V g s mn fe (hb_un 5 c r)
theorem hb_V_n {g : Nat → Nat} {s : Nat} {mn fe : Nat → Int32} {x : Nat} (p : ¬ hb_pt 5 (g s) x = true) (h : hb_V g s mn fe x) : hb_V g (s + 1) mn fe x := by
  have fs : hb_F g (s + 1) x = hb_F g s x := hb_it_n p
  have ms : hb_M g (s + 1) x = hb_M g s x := hb_it_n p
  unfold hb_V
  rw [fs, ms]
  exact h
theorem hb_V_u {g : Nat → Nat} {s : Nat} {mn fe : Nat → Int32} {x y : Nat} {a : Int32} (z : y ≠ x) (h : hb_V g s mn fe y) : hb_V g s (upd mn x a) fe y := by
  unfold hb_V
  rw [pk_un z]
  exact h
theorem hb_V_uu {g : Nat → Nat} {s : Nat} {mn fe : Nat → Int32} {x y : Nat} {a b : Int32} (z : y ≠ x) (h : hb_V g s mn fe y) : hb_V g s (upd mn x a) (upd fe x b) y := by
  unfold hb_V
  rw [pk_un z, pk_un z]
  exact h
theorem hb_un_16 (c r : Nat) : hb_un 5 c r < 16807 := hb_un_lt 5 c r
theorem hb_pr_16 (c : Nat) : hb_pr 5 c ≤ 16807 := hb_pr_le 5 c
section
variable {post : SY → Prop} {rd cn ba : Int32} {w cd : Nat → Int32}
theorem hy_sp_3 {g : Nat → Nat} {s c : Nat} (hc : c < 16807) (g0 : 0 < g s) (g1 : g s < 16807) (hp : ∀ mn fe : Nat → Int32, hb_U g (s + 1) c mn fe → post (rd, cn, ba, w, cd, mn, fe)) :
    ∀ (d i : Nat) (mn fe : Nat → Int32), i + d = hb_pr 5 c → (∀ r, r < i → hb_V g (s + 1) mn fe (hb_un 5 c r)) → (∀ r, i ≤ r → r < hb_pr 5 c → hb_V g s mn fe (hb_un 5 c r)) → wY_spread_3 post (nI (g s)) (nI c) (nI (hb_pr 5 c)) rd cn ba (d + 1) (nI i) w cd mn fe := by
  have g1' : g s < 7 ^ 5 := by rw [hb_75]; exact g1
  have hpr := hb_pr_16 c
  intro d
  induction d with
  | zero =>
    intro i mn fe hi h _
    have e : i = hb_pr 5 c := by omega
    subst e
    exact br_t (nI_le (Nat.le_refl _) (by omega)) (hp _ _ h)
  | succ d ih =>
    intro i mn fe hi h h'
    have hu := hb_un_16 c i
    have hup := hb_un_pt 5 c i
    have skip : ¬ hb_pt 5 (g s) (hb_un 5 c i) = true → wY_spread_3 post (nI (g s)) (nI c) (nI (hb_pr 5 c)) rd cn ba (d + 1) (nI (i + 1)) w cd mn fe := fun p => by
      refine ih (i + 1) mn fe (by omega) ?_ (fun r hr hr2 => h' r (by omega) hr2)
      intro r hr
      by_cases z : r = i
      · subst z; exact hb_V_n p (h' r (Nat.le_refl _) (by omega))
      · exact h r (by omega)
    refine br_f (nI_ge (by omega) (by omega)) (hy_un hc (by omega) (pk_lt (hb_un 5 c i) (g s) (fun q => nm_r (nI_1 i) (skip (fun p => ?_))) (fun q => hy_part g1 hu (fun p => br_f (by decide) ?_) (fun p => br_t rfl (nm_r (nI_1 i) (skip p))))))
    · have := hb_pt_le 5 _ _ g1' p
      omega
    · have hs := hb_pt_sub 5 _ _ g1' p
      obtain ⟨r, hr, er⟩ := hb_un_onto 5 c (hb_un 5 c i - g s) (by rw [hb_75]; omega) (hb_pt_trans 5 _ _ _ hs hup)
      have hri : r < i := by
        by_cases z : r < i
        · exact z
        · by_cases z2 : r = i
          · subst z2; omega
          · have := hb_un_mono 5 c i r (by omega) hr
            omega
      obtain ⟨v1, v2⟩ := h r hri
      obtain ⟨v3, v4⟩ := h' i (Nat.le_refl _) (by omega)
      rw [er] at v1 v2
      have inj : ∀ r, r < hb_pr 5 c → r ≠ i → hb_un 5 c r ≠ hb_un 5 c i := fun r hr hne => by
        by_cases z : r < i
        · have := hb_un_mono 5 c r i z (by omega)
          omega
        · have := hb_un_mono 5 c i r (by omega) hr
          omega
      have fs : hb_F g (s + 1) (hb_un 5 c i) = hb_fo (hb_F g s (hb_un 5 c i)) (hb_F g (s + 1) (hb_un 5 c i - g s)) := hb_it_p g0 g1 p
      have ms : hb_M g (s + 1) (hb_un 5 c i) = hb_M g s (hb_un 5 c i) + hb_M g (s + 1) (hb_un 5 c i - g s) := hb_it_p g0 g1 p
      have fe' := hb_fo_e (hb_F g s (hb_un 5 c i)) (hb_F g (s + 1) (hb_un 5 c i - g s))
      have k1 := hb_k_e (hb_F g s (hb_un 5 c i))
      have k2 := hb_k_e (hb_F g (s + 1) (hb_un 5 c i))
      have k3 := hb_k_e (hb_F g (s + 1) (hb_un 5 c i - g s))
      have cu : (nI (hb_un 5 c i)).toNatClampNeg = hb_un 5 c i := nI_clamp (by omega)
      have cr : (nI (hb_un 5 c i - g s)).toNatClampNeg = hb_un 5 c i - g s := nI_clamp (by omega)
      have vk : vp_in (nI (hb_un 5 c i)) 16807 := vp_in_nI hu (by decide)
      have vr : vp_in (nI (hb_un 5 c i - g s)) 16807 := vp_in_nI (by omega) (by decide)
      rw [pk_sub q, cu, cr, v1, v2, v3, v4, ← ms]
      refine ⟨vk, vr, vk, nm_e ⟨vr, nm_r (nI_1 _) ⟨vk, pk_le (hb_k (hb_F g s (hb_un 5 c i))) (hb_k (hb_F g (s + 1) (hb_un 5 c i - g s)) + 1) (fun q2 => nm_r (nI_1 i) (ih (i + 1) _ _ (by omega) ?_ ?_)) (fun q2 => ⟨vk, nm_e (nm_r (nI_1 i) (ih (i + 1) _ _ (by omega) ?_ ?_))⟩) rfl rfl (by omega) (by omega)⟩⟩⟩
      · intro r hr
        by_cases z : r = i
        · subst z
          refine ⟨pk_us, ?_⟩
          rw [v4]
          exact congrArg nI (by omega)
        · exact hb_V_u (inj r (by omega) z) (h r (by omega))
      · intro r hr hr2
        exact hb_V_u (inj r hr2 (by omega)) (h' r (by omega) hr2)
      · intro r hr
        by_cases z : r = i
        · subst z
          refine ⟨pk_us, ?_⟩
          rw [pk_us]
          exact congrArg nI (by omega)
        · exact hb_V_uu (inj r (by omega) z) (h r (by omega))
      · intro r hr hr2
        exact hb_V_uu (inj r hr2 (by omega)) (h' r (by omega) hr2)
theorem hy_sp {g : Nat → Nat} {s c : Nat} {mn fe : Nat → Int32} (hc : c < 16807) (g0 : 0 < g s) (g1 : g s < 16807) (hU : hb_U g s c mn fe) (hp : ∀ mn fe : Nat → Int32, hb_U g (s + 1) c mn fe → post (rd, cn, ba, w, cd, mn, fe)) :
    wpY_spread post (rd, cn, ba, w, cd, mn, fe) (nI (g s)) (nI c) (nI (hb_pr 5 c)) :=
  ⟨hb_pr 5 c + 1, hy_sp_3 hc g0 g1 hp _ 0 mn fe (Nat.zero_add _) (fun r h => absurd h (Nat.not_lt_zero r)) (fun r _ hr => hU r hr)⟩
theorem hy_su_65 {g : Nat → Nat} {m c : Nat} (hm : m ≤ 1813) (hc : c < 16807) (hg : ∀ j, j < m → cd j = nI (g j) ∧ 0 < g j ∧ g j < 16807) (hp : ∀ mn fe : Nat → Int32, hb_U g m c mn fe → post (rd, nI m, ba, w, cd, mn, fe)) :
    ∀ (d s : Nat) (mn fe : Nat → Int32), s + d = m → hb_U g s c mn fe → wY_sums_65 post (nI c) (nI (hb_pr 5 c)) (d + 1) (nI s) rd (nI m) ba w cd mn fe := by
  intro d
  induction d with
  | zero =>
    intro s mn fe hs h
    have e : s = m := by omega
    subst e
    exact br_t (nI_le (Nat.le_refl _) (by omega)) (hp _ _ h)
  | succ d ih =>
    intro s mn fe hs h
    obtain ⟨c1, g0, g1⟩ := hg s (by omega)
    have e : cd (nI s).toNatClampNeg = nI (g s) := by rw [nI_clamp (by omega)]; exact c1
    refine br_f (nI_ge (by omega) (by omega)) (br_f (nI_ge (b := 2000) (by omega) (by decide)) ⟨vp_in_nI (by omega) (by decide), ?_⟩)
    rw [e]
    refine hy_part g1 hc (fun p => br_f (by decide) ⟨vp_in_nI (by omega) (by decide), hy_sp hc g0 g1 h ?_⟩) (fun p => br_t rfl (nm_r (nI_1 s) (ih (s + 1) mn fe (by omega) ?_)))
    · intro mn' fe' h'
      exact nm_r (nI_1 s) (ih (s + 1) mn' fe' (by omega) h')
    · intro r hr
      exact hb_V_n (fun z => p (hb_pt_trans 5 _ _ _ z (hb_un_pt 5 c r))) (h r hr)
theorem hy_su_8 {g : Nat → Nat} {m c : Nat} (hm : m ≤ 1813) (hc : c < 16807) (hg : ∀ j, j < m → cd j = nI (g j) ∧ 0 < g j ∧ g j < 16807) (hp : ∀ mn fe : Nat → Int32, hb_U g m c mn fe → post (rd, nI m, ba, w, cd, mn, fe)) :
    ∀ (d i : Nat) (mn fe : Nat → Int32), i + d = hb_pr 5 c → (∀ r, r < i → hb_V g 0 mn fe (hb_un 5 c r)) → wY_sums_8 post (nI c) (nI (hb_pr 5 c)) rd (nI m) ba (d + 1) (nI i) w cd mn fe := by
  have hpr := hb_pr_16 c
  intro d
  induction d with
  | zero =>
    intro i mn fe hi h
    have e : i = hb_pr 5 c := by omega
    subst e
    exact br_t (nI_le (Nat.le_refl _) (by omega)) ⟨_, hy_su_65 hm hc hg hp m 0 mn fe (Nat.zero_add _) h⟩
  | succ d ih =>
    intro i mn fe hi h
    have hu := hb_un_16 c i
    have cu : (nI (hb_un 5 c i)).toNatClampNeg = hb_un 5 c i := nI_clamp (by omega)
    have vk : vp_in (nI (hb_un 5 c i)) 16807 := vp_in_nI hu (by decide)
    have next : ∀ a b : Int32, a = hb_w0 (hb_un 5 c i) → b = nI (hb_k (hb_f0 (hb_un 5 c i))) → wY_sums_8 post (nI c) (nI (hb_pr 5 c)) rd (nI m) ba (d + 1) (nI (i + 1)) w cd (upd mn (hb_un 5 c i) a) (upd fe (hb_un 5 c i) b) := fun a b ea eb => by
      refine ih (i + 1) _ _ (by omega) ?_
      intro r hr
      by_cases z : r = i
      · subst z
        refine ⟨?_, ?_⟩
        · rw [pk_us]; exact ea
        · rw [pk_us]; exact eb
      · have := hb_un_mono 5 c r i (by omega) (by omega)
        exact hb_V_uu (by omega) (h r (by omega))
    refine br_f (nI_ge (by omega) (by omega)) (hy_un hc (by omega) (pk_eq (hb_un 5 c i) 0 (fun z => ⟨vk, ?_⟩) (fun z => ⟨vk, ?_⟩)))
    · rw [cu]
      have z1 : nI (hb_un 5 c i) = 0 := by rw [z]; rfl
      exact nm_e (br_t z1 ⟨vk, nm_e (nm_r (nI_1 i) (next 1 0 (by rw [z]; rfl) (by rw [z]; rfl)))⟩)
    · rw [cu]
      have z1 : ¬ nI (hb_un 5 c i) = 0 := nI_ne0 (by omega) (by omega)
      exact nm_e (br_f z1 ⟨vk, nm_e (nm_r (nI_1 i) (next 0 1000 (by rw [hb_w0, if_neg z]) (by rw [hb_f0, if_neg z]; rfl)))⟩)
theorem hy_su {g : Nat → Nat} {m c : Nat} {mn fe : Nat → Int32} (hm : m ≤ 1813) (hc : c < 16807) (hg : ∀ j, j < m → cd j = nI (g j) ∧ 0 < g j ∧ g j < 16807) (hp : ∀ mn fe : Nat → Int32, hb_U g m c mn fe → post (rd, nI m, ba, w, cd, mn, fe)) : wpY_sums post (rd, nI m, ba, w, cd, mn, fe) (nI c) :=
  hy_parts hc ⟨_, hy_su_8 hm hc hg hp _ 0 mn fe (Nat.zero_add _) (fun r h => absurd h (Nat.not_lt_zero r))⟩
end
