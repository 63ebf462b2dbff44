/-! the questions' loops, both sides -/
section
variable {post : Int32 → Prop} {bc lc : Int32} {w bl ll fw ws : Nat → Int32}
theorem hx_dg_4 {i : Nat} : ∀ d c : Nat, i + d < 5 → c < 16807 → post (nI (hb_sh d c % 7)) → wX_digit_4 post (nI i) (d + 1) (nI c) (nI (i + d)) := by
  intro d
  induction d with
  | zero =>
    intro c hi hc h
    refine br_t (nI_le (by omega) (by omega)) ⟨hb_n7, ?_⟩
    rw [hb_r7 hc]
    exact h
  | succ d ih =>
    intro c hi hc h
    exact br_f (nI_ge (by omega) (by omega)) ⟨hb_n7, nm_r (hb_q7 hc) (nm_r (pk_m1 (i + d)) (ih (c / 7) (by omega) (by omega) h))⟩
theorem hx_dg {c i : Nat} (hc : c < 16807) (hi : i < 5) (h : post (nI (hb_dg c i))) : wpX_digit post (nI c) (nI i) := by
  have q := hx_dg_4 (post := post) (i := i) (4 - i) c (by omega) hc h
  rw [show i + (4 - i) = 4 by omega] at q
  exact ⟨_, q⟩
theorem hx_ds_6 : ∀ d i c s : Nat, i + d = 5 → c < 16807 → post (nI (s + hb_ds d c)) → wX_digitSum_6 post (d + 1) (nI c) (nI s) (nI i) := by
  intro d
  induction d with
  | zero =>
    intro i c s hi hc h
    have e : i = 5 := by omega
    subst e
    exact br_t (by decide) h
  | succ d ih =>
    intro i c s hi hc h
    refine br_f (nI_ge (b := 5) (by omega) (by decide)) ⟨hb_n7, nm_r (e' := nI (s + c % 7)) ?_ ⟨hb_n7, nm_r (hb_q7 hc) (nm_r (nI_1 i) (ih (i + 1) (c / 7) (s + c % 7) (by omega) (by omega) ?_))⟩⟩
    · rw [hb_r7 hc, nI_add]
    · rw [Nat.add_assoc]
      exact h
theorem hx_ds {c : Nat} (hc : c < 16807) (h : post (nI (hb_ds 5 c))) : wpX_digitSum post (nI c) :=
  ⟨6, hx_ds_6 5 0 c 0 rfl hc (by rw [Nat.zero_add]; exact h)⟩
theorem hx_il_11 {g : Nat → Nat} {m c : Nat} (hm : m ≤ 1813) (hc : c < 16807) (hg : ∀ j, j < m → ll j = nI (g j) ∧ g j < 16807) (h1 : (∃ j, j < m ∧ g j = c) → post 1) (h0 : (∀ j, j < m → g j ≠ c) → post 0) :
    ∀ d k : Nat, k + d = m → (∀ j, j < k → g j ≠ c) → wX_isLeast_11 post (nI c) bc (nI m) w bl ll fw ws (d + 1) (nI k) := by
  intro d
  induction d with
  | zero =>
    intro k hk h
    have e : k = m := by omega
    subst e
    exact br_t (nI_le (Nat.le_refl _) (by omega)) (h0 h)
  | succ d ih =>
    intro k hk h
    obtain ⟨c1, g1⟩ := hg k (by omega)
    have e : ll (nI k).toNatClampNeg = nI (g k) := by rw [nI_clamp (by omega)]; exact c1
    refine br_f (nI_ge (by omega) (by omega)) ⟨vp_in_nI (by omega) (by decide), ?_⟩
    rw [e]
    refine pk_eq (g k) c (fun q => h1 ⟨k, by omega, q⟩) (fun q => nm_r (nI_1 k) (ih (k + 1) (by omega) ?_))
    intro j hj
    by_cases z : j = k
    · subst z; exact q
    · exact h j (by omega)
theorem hx_us_13 {g : Nat → Nat} {m i : Nat} (hm : m ≤ 1813) (hi : i < 5) (hg : ∀ j, j < m → ll j = nI (g j) ∧ g j < 16807) (h : post (nI (hb_sn (fun k => if hb_dg (g k) i = 0 then 0 else 1) m))) :
    ∀ d k : Nat, k + d = m → wX_using_13 post (nI i) bc (nI m) w bl ll fw ws (d + 1) (nI (hb_sn (fun k => if hb_dg (g k) i = 0 then 0 else 1) k)) (nI k) := by
  intro d
  induction d with
  | zero =>
    intro k hk
    have e : k = m := by omega
    subst e
    exact br_t (nI_le (Nat.le_refl _) (by omega)) h
  | succ d ih =>
    intro k hk
    obtain ⟨c1, g1⟩ := hg k (by omega)
    have e : ll (nI k).toNatClampNeg = nI (g k) := by rw [nI_clamp (by omega)]; exact c1
    have q := ih (k + 1) (by omega)
    have dl := hb_dg_le (g k) i
    refine br_f (nI_ge (by omega) (by omega)) ⟨vp_in_nI (by omega) (by decide), ?_⟩
    rw [e]
    refine hx_dg g1 hi (pk_le (hb_dg (g k) i) 0 (fun z => nm_r (nI_1 k) ?_) (fun z => nm_r (nI_1 _) (nm_r (nI_1 k) ?_)))
    · have ez : hb_sn (fun k => if hb_dg (g k) i = 0 then 0 else 1) (k + 1) = hb_sn (fun k => if hb_dg (g k) i = 0 then 0 else 1) k := by
        show _ + (if hb_dg (g k) i = 0 then 0 else 1) = _
        rw [if_pos (by omega), Nat.add_zero]
      rw [ez] at q
      exact q
    · have ez : hb_sn (fun k => if hb_dg (g k) i = 0 then 0 else 1) (k + 1) = hb_sn (fun k => if hb_dg (g k) i = 0 then 0 else 1) k + 1 := by
        show _ + (if hb_dg (g k) i = 0 then 0 else 1) = _
        rw [if_neg (by omega)]
      rw [ez] at q
      exact q
theorem hx_lo_4 {g : Nat → Nat} {m : Nat} (hm : m ≤ 1813) (hg : ∀ j, j < m → ll j = nI (g j) ∧ g j < 16807) (h : post (nI (hb_mx (fun k => hb_ds 5 (g k)) m))) :
    ∀ d k : Nat, k + d = m → wX_longest_4 post bc (nI m) w bl ll fw ws (d + 1) (nI (hb_mx (fun k => hb_ds 5 (g k)) k)) (nI k) := by
  intro d
  induction d with
  | zero =>
    intro k hk
    have e : k = m := by omega
    subst e
    exact br_t (nI_le (Nat.le_refl _) (by omega)) h
  | succ d ih =>
    intro k hk
    obtain ⟨c1, g1⟩ := hg k (by omega)
    have e : ll (nI k).toNatClampNeg = nI (g k) := by rw [nI_clamp (by omega)]; exact c1
    have q := ih (k + 1) (by omega)
    have b1 := hb_ds_le 5 (g k)
    have b2 := hb_mx_le (f := fun k => hb_ds 5 (g k)) (fun i => hb_ds_le 5 (g i)) k
    refine br_f (nI_ge (by omega) (by omega)) ⟨vp_in_nI (by omega) (by decide), ?_⟩
    rw [e]
    refine hx_ds g1 (pk_le (hb_ds 5 (g k)) (hb_mx (fun k => hb_ds 5 (g k)) k) (fun z => nm_r (nI_1 k) ?_) (fun z => nm_r (nI_1 k) ?_))
    · have ez : hb_mx (fun k => hb_ds 5 (g k)) (k + 1) = hb_mx (fun k => hb_ds 5 (g k)) k := if_neg (Nat.not_lt.mpr z)
      rw [ez] at q
      exact q
    · have ez : hb_mx (fun k => hb_ds 5 (g k)) (k + 1) = hb_ds 5 (g k) := if_pos z
      rw [ez] at q
      exact q
end
section
variable {post : Int32 → SY → Prop} {rd ba : Int32} {w cd mn fe : Nat → Int32} {g : Nat → Nat} {m : Nat}
theorem hy_il_16 {c : Nat} (hm : m ≤ 1813) (hc : c < 16807) (hg : ∀ j, j < m → cd j = nI (g j) ∧ g j < 16807) (h1 : (∃ j, j < m ∧ g j = c) → post 1 (rd, nI m, ba, w, cd, mn, fe)) (h0 : (∀ j, j < m → g j ≠ c) → post 0 (rd, nI m, ba, w, cd, mn, fe)) :
    ∀ d k : Nat, k + d = m → (∀ j, j < k → g j ≠ c) → wY_isLeast_16 post (nI c) rd (nI m) ba w cd mn fe (d + 1) (nI k) := by
  intro d
  induction d with
  | zero =>
    intro k hk h
    have e : k = m := by omega
    subst e
    exact br_t (nI_le (Nat.le_refl _) (by omega)) (h0 h)
  | succ d ih =>
    intro k hk h
    obtain ⟨c1, g1⟩ := hg k (by omega)
    have e : cd (nI k).toNatClampNeg = nI (g k) := by rw [nI_clamp (by omega)]; exact c1
    refine br_f (nI_ge (by omega) (by omega)) (br_f (nI_ge (b := 2000) (by omega) (by decide)) ⟨vp_in_nI (by omega) (by decide), ?_⟩)
    rw [e]
    refine pk_eq (g k) c (fun q => h1 ⟨k, by omega, q⟩) (fun q => nm_r (nI_1 k) (ih (k + 1) (by omega) ?_))
    intro j hj
    by_cases z : j = k
    · subst z; exact q
    · exact h j (by omega)
theorem hy_us_19 {i : Nat} (hm : m ≤ 1813) (hi : i < 5) (hg : ∀ j, j < m → cd j = nI (g j) ∧ g j < 16807) (h : post (nI (hb_sn (fun k => if hb_dg (g k) i = 0 then 0 else 1) m)) (rd, nI m, ba, w, cd, mn, fe)) :
    ∀ d k : Nat, k + d = m → wY_using_19 post (nI i) rd (nI m) ba w cd mn fe (d + 1) (nI (hb_sn (fun k => if hb_dg (g k) i = 0 then 0 else 1) k)) (nI k) := by
  intro d
  induction d with
  | zero =>
    intro k hk
    have e : k = m := by omega
    subst e
    exact br_t (nI_le (Nat.le_refl _) (by omega)) h
  | succ d ih =>
    intro k hk
    obtain ⟨c1, g1⟩ := hg k (by omega)
    have e : cd (nI k).toNatClampNeg = nI (g k) := by rw [nI_clamp (by omega)]; exact c1
    have q := ih (k + 1) (by omega)
    have dl := hb_dg_le (g k) i
    refine br_f (nI_ge (by omega) (by omega)) (br_f (nI_ge (b := 2000) (by omega) (by decide)) ⟨vp_in_nI (by omega) (by decide), ?_⟩)
    rw [e]
    refine hy_dg g1 hi (pk_le (hb_dg (g k) i) 0 (fun z => nm_r (nI_1 k) ?_) (fun z => nm_r (nI_1 _) (nm_r (nI_1 k) ?_)))
    · have ez : hb_sn (fun k => if hb_dg (g k) i = 0 then 0 else 1) (k + 1) = hb_sn (fun k => if hb_dg (g k) i = 0 then 0 else 1) k := by
        show _ + (if hb_dg (g k) i = 0 then 0 else 1) = _
        rw [if_pos (by omega), Nat.add_zero]
      rw [ez] at q
      exact q
    · have ez : hb_sn (fun k => if hb_dg (g k) i = 0 then 0 else 1) (k + 1) = hb_sn (fun k => if hb_dg (g k) i = 0 then 0 else 1) k + 1 := by
        show _ + (if hb_dg (g k) i = 0 then 0 else 1) = _
        rw [if_neg (by omega)]
      rw [ez] at q
      exact q
theorem hy_lo_28 {J : Int32 → Int32 → Prop} {c k x : Nat} (hc : c < 16807) (hk : k < 1813) (hx : x ≤ 30) (ek : cd k = nI c) (h1 : hb_ds 5 c ≤ x → J (nI x) (nI (k + 1))) (h2 : x < hb_ds 5 c → J (nI (hb_ds 5 c)) (nI (k + 1))) :
    ∀ d i : Nat, i + d = 5 → wY_longest_28 post J (nI x) (nI k) rd (nI m) ba w cd mn fe (d + 1) (nI (hb_sn (hb_dg c) i)) (nI i) := by
  intro d
  induction d with
  | zero =>
    intro i hi
    have e : i = 5 := by omega
    subst e
    have b1 := hb_ds_le 5 c
    rw [hb_ds_sn]
    exact br_t (by decide) (pk_le (hb_ds 5 c) x (fun z => nm_r (nI_1 k) (h1 z)) (fun z => nm_r (nI_1 k) (h2 z)))
  | succ d ih =>
    intro i hi
    have e : cd (nI k).toNatClampNeg = nI c := by rw [nI_clamp (by omega)]; exact ek
    refine br_f (nI_ge (b := 5) (by omega) (by decide)) ⟨vp_in_nI (by omega) (by decide), ?_⟩
    rw [e]
    exact hy_dg hc (by omega) (nm_r (nI_add _ _) (nm_r (nI_1 i) (ih (i + 1) (by omega))))
theorem hy_lo_8 (hm : m ≤ 1813) (hg : ∀ j, j < m → cd j = nI (g j) ∧ g j < 16807) (h : post (nI (hb_mx (fun k => hb_ds 5 (g k)) m)) (rd, nI m, ba, w, cd, mn, fe)) :
    ∀ d k : Nat, k + d = m → wY_longest_8 post rd (nI m) ba w cd mn fe (d + 1) (nI (hb_mx (fun k => hb_ds 5 (g k)) k)) (nI k) := by
  intro d
  induction d with
  | zero =>
    intro k hk
    have e : k = m := by omega
    subst e
    exact br_t (nI_le (Nat.le_refl _) (by omega)) h
  | succ d ih =>
    intro k hk
    obtain ⟨c1, g1⟩ := hg k (by omega)
    have q := ih (k + 1) (by omega)
    have b2 := hb_mx_le (f := fun k => hb_ds 5 (g k)) (fun i => hb_ds_le 5 (g i)) k
    refine br_f (nI_ge (by omega) (by omega)) (br_f (nI_ge (b := 2000) (by omega) (by decide)) ⟨6, hy_lo_28 g1 (by omega) b2 c1 ?_ ?_ 5 0 rfl⟩)
    · intro z
      have ez : hb_mx (fun k => hb_ds 5 (g k)) (k + 1) = hb_mx (fun k => hb_ds 5 (g k)) k := if_neg (Nat.not_lt.mpr z)
      rw [ez] at q
      exact q
    · intro z
      have ez : hb_mx (fun k => hb_ds 5 (g k)) (k + 1) = hb_ds 5 (g k) := if_pos z
      rw [ez] at q
      exact q
theorem hy_in_16 {c : Nat} (hm : m ≤ 1813) (hc : c < 16807) (hg : ∀ j, j < m → cd j = nI (g j) ∧ g j < 16807)
    (hs : ∀ j, j < m → hb_pt 5 (g j) c = true → (∀ i, i < j → ¬ hb_pt 5 (g i) c = true) → post (nI (g j)) (rd, nI m, ba, w, cd, mn, fe)) (hn : (∀ j, j < m → ¬ hb_pt 5 (g j) c = true) → post (-2) (rd, nI m, ba, w, cd, mn, fe)) :
    ∀ d k : Nat, k + d = m → (∀ i, i < k → ¬ hb_pt 5 (g i) c = true) → wY_inside_16 post (nI c) rd (nI m) ba w cd mn fe (d + 1) (nI k) := by
  intro d
  induction d with
  | zero =>
    intro k hk h
    have e : k = m := by omega
    subst e
    exact br_t (nI_le (Nat.le_refl _) (by omega)) (hn h)
  | succ d ih =>
    intro k hk h
    obtain ⟨c1, g1⟩ := hg k (by omega)
    have e : cd (nI k).toNatClampNeg = nI (g k) := by rw [nI_clamp (by omega)]; exact c1
    refine br_f (nI_ge (by omega) (by omega)) (br_f (nI_ge (b := 2000) (by omega) (by decide)) ⟨vp_in_nI (by omega) (by decide), ?_⟩)
    rw [e]
    refine hy_part g1 hc (fun p => br_f (by decide) ⟨vp_in_nI (by omega) (by decide), hs k (by omega) p h⟩) (fun p => br_t rfl (nm_r (nI_1 k) (ih (k + 1) (by omega) ?_)))
    intro i hi
    by_cases z : i = k
    · subst z; exact p
    · exact h i (by omega)
end
/-! how many balances have a given sum -/
def hb_ind (x : Int32) : Int32 := if x = 0 then 1 else 0
def hb_c4 (w : Nat → Int32) (s : Nat) (t : Int32) (a y : Nat) : Int32 := hb_ind (t + nI a * w 2 + nI y * w 3 + nI (s - a - y) * w 4)
def hb_c3 (w : Nat → Int32) (s : Nat) (t : Int32) (a : Nat) : Int32 := hb_sm (hb_c4 w s t a) (s - a + 1)
def hb_cp (w : Nat → Int32) (s : Nat) (t : Int32) : Int32 := hb_sm (hb_c3 w s t) (s + 1)
def hb_b1 (w : Nat → Int32) (n a y : Nat) : Int32 := hb_cp w (n - a - y) (nI a * w 0 + nI y * w 1)
def hb_b0 (w : Nat → Int32) (n a : Nat) : Int32 := hb_sm (hb_b1 w n a) (n - a + 1)
theorem hb_sub3 {s a y : Nat} (h1 : a ≤ s) (h2 : y ≤ s - a) : nI s - nI a - nI y = nI (s - a - y) := by
  rw [pk_sub h1, pk_sub h2]
theorem hb_eqv (x p q r : Int32) : p + q + r = x ↔ -x + p + q + r = 0 := by
  constructor
  · intro h; grind
  · intro h; grind
theorem hb_neg (a x b y : Int32) : -((-a) * x - b * y) = a * x + b * y := by grind
section
variable {post : Int32 → Prop} {bc lc : Int32} {w bl ll fw ws : Nat → Int32}
theorem hx_cp_14 {J : Int32 → Int32 → Prop} {s a : Nat} {t z : Int32} (hs : s ≤ 20) (ha : a ≤ s) (h : J (z + hb_c3 w s t a) (nI (a + 1))) :
    ∀ d y : Nat, y + d = s - a + 1 → wX_completions_14 post J (nI s) t (nI a) bc lc w bl ll fw ws (d + 1) (z + hb_sm (hb_c4 w s t a) y) (nI y) := by
  intro d
  induction d with
  | zero =>
    intro y hy
    have e : y = s - a + 1 := by omega
    subst e
    refine br_t ?_ (nm_r (nI_1 a) h)
    rw [pk_sub ha]
    exact nI_lt (by omega) (by omega)
  | succ d ih =>
    intro y hy
    have q := ih (y + 1) (by omega)
    refine br_f ?_ (nm_r (hb_sub3 ha (by omega)) (br_c (fun c => nm_r (e' := z + hb_sm (hb_c4 w s t a) (y + 1)) ?_ (nm_r (nI_1 y) q)) (fun c => nm_r (nI_1 y) ?_)))
    · rw [pk_sub ha]
      exact nI_nlt (by omega) (by omega)
    · have e : hb_c4 w s t a y = 1 := if_pos c
      show _ = z + (hb_sm (hb_c4 w s t a) y + hb_c4 w s t a y)
      rw [e, Int32.add_assoc]
    · have e : hb_c4 w s t a y = 0 := if_neg c
      have e2 : hb_sm (hb_c4 w s t a) (y + 1) = hb_sm (hb_c4 w s t a) y := by
        show hb_sm (hb_c4 w s t a) y + hb_c4 w s t a y = _
        rw [e, Int32.add_zero]
      rw [e2] at q
      exact q
theorem hx_cp_5 {s : Nat} {t : Int32} (hs : s ≤ 20) (h : post (hb_cp w s t)) :
    ∀ d a : Nat, a + d = s + 1 → wX_completions_5 post (nI s) t bc lc w bl ll fw ws (d + 1) (hb_sm (hb_c3 w s t) a) (nI a) := by
  intro d
  induction d with
  | zero =>
    intro a ha
    have e : a = s + 1 := by omega
    subst e
    exact br_t (nI_lt (by omega) (by omega)) h
  | succ d ih =>
    intro a ha
    have q := hx_cp_14 (post := post) (J := wX_completions_5 post (nI s) t bc lc w bl ll fw ws (d + 1)) (bc := bc) (lc := lc) (bl := bl) (ll := ll) (fw := fw) (ws := ws) (s := s) (a := a) (t := t) (z := hb_sm (hb_c3 w s t) a) hs (by omega) (ih (a + 1) (by omega)) (s - a + 1) 0 (Nat.zero_add _)
    have e : hb_sm (hb_c3 w s t) a + hb_sm (hb_c4 w s t a) 0 = hb_sm (hb_c3 w s t) a := Int32.add_zero _
    rw [e] at q
    exact br_f (nI_nlt (by omega) (by omega)) ⟨_, q⟩
theorem hx_cp {s : Nat} {t : Int32} (hs : s ≤ 20) (h : post (hb_cp w s t)) : wpX_completions post (bc, lc, w, bl, ll, fw, ws) (nI s) t :=
  ⟨_, hx_cp_5 hs h (s + 1) 0 (Nat.zero_add _)⟩
theorem hx_ba_24 {J : Int32 → Int32 → Prop} {n a : Nat} {z : Int32} (hn : n ≤ 20) (ha : a ≤ n) (h : J (z + hb_b0 w n a) (nI (a + 1))) :
    ∀ d y : Nat, y + d = n - a + 1 → wX_balances_24 post J (nI n) (nI a) bc lc w bl ll fw ws (d + 1) (z + hb_sm (hb_b1 w n a) y) (nI y) := by
  intro d
  induction d with
  | zero =>
    intro y hy
    have e : y = n - a + 1 := by omega
    subst e
    refine br_t ?_ (nm_r (nI_1 a) h)
    rw [pk_sub ha]
    exact nI_lt (by omega) (by omega)
  | succ d ih =>
    intro y hy
    refine br_f ?_ (nm_e ?_)
    · rw [pk_sub ha]
      exact nI_nlt (by omega) (by omega)
    · rw [hb_sub3 ha (by omega)]
      refine hx_cp (by omega) (nm_r (e' := z + hb_sm (hb_b1 w n a) (y + 1)) ?_ (nm_r (nI_1 y) (ih (y + 1) (by omega))))
      show _ = z + (hb_sm (hb_b1 w n a) y + hb_b1 w n a y)
      rw [← Int32.add_assoc]
      rfl
theorem hx_ba_16 {n : Nat} (hn : n ≤ 20) (h : post (hb_sm (hb_b0 w n) (n + 1))) :
    ∀ d a : Nat, a + d = n + 1 → wX_balances_16 post (nI n) bc lc w bl ll fw ws (d + 1) (hb_sm (hb_b0 w n) a) (nI a) := by
  intro d
  induction d with
  | zero =>
    intro a ha
    have e : a = n + 1 := by omega
    subst e
    exact br_t (nI_lt (by omega) (by omega)) h
  | succ d ih =>
    intro a ha
    have q := hx_ba_24 (post := post) (J := wX_balances_16 post (nI n) bc lc w bl ll fw ws (d + 1)) (bc := bc) (lc := lc) (bl := bl) (ll := ll) (fw := fw) (ws := ws) (n := n) (a := a) (z := hb_sm (hb_b0 w n) a) hn (by omega) (ih (a + 1) (by omega)) (n - a + 1) 0 (Nat.zero_add _)
    have e : hb_sm (hb_b0 w n) a + hb_sm (hb_b1 w n a) 0 = hb_sm (hb_b0 w n) a := Int32.add_zero _
    rw [e] at q
    exact br_f (nI_nlt (by omega) (by omega)) ⟨_, q⟩
end
section
variable {post : Int32 → Prop} {rd cn ba : Int32} {w cd mn fe : Nat → Int32}
theorem hy_lt_14 {J : Int32 → Int32 → Prop} {s a : Nat} {t z : Int32} (hs : s ≤ 20) (ha : a ≤ s) (h : J (z + hb_c3 w s (-t) a) (nI (a + 1))) :
    ∀ d y : Nat, y + d = s - a + 1 → wY_lastThree_14 post J (nI s) t (nI a) rd cn ba w cd mn fe (d + 1) (z + hb_sm (hb_c4 w s (-t) a) y) (nI y) := by
  intro d
  induction d with
  | zero =>
    intro y hy
    have e : y = s - a + 1 := by omega
    subst e
    refine br_t ?_ (nm_r (nI_1 a) h)
    rw [pk_sub ha]
    exact nI_lt (by omega) (by omega)
  | succ d ih =>
    intro y hy
    have q := ih (y + 1) (by omega)
    refine br_f ?_ ?_
    · rw [pk_sub ha]
      exact nI_nlt (by omega) (by omega)
    · rw [hb_sub3 ha (by omega), hb_eqv]
      refine br_c (fun c => nm_r (e' := z + hb_sm (hb_c4 w s (-t) a) (y + 1)) ?_ (nm_r (nI_1 y) q)) (fun c => nm_r (nI_1 y) ?_)
      · have e : hb_c4 w s (-t) a y = 1 := if_pos c
        show _ = z + (hb_sm (hb_c4 w s (-t) a) y + hb_c4 w s (-t) a y)
        rw [e, Int32.add_assoc]
      · have e : hb_c4 w s (-t) a y = 0 := if_neg c
        have e2 : hb_sm (hb_c4 w s (-t) a) (y + 1) = hb_sm (hb_c4 w s (-t) a) y := by
          show hb_sm (hb_c4 w s (-t) a) y + hb_c4 w s (-t) a y = _
          rw [e, Int32.add_zero]
        rw [e2] at q
        exact q
theorem hy_lt_5 {s : Nat} {t : Int32} (hs : s ≤ 20) (h : post (hb_cp w s (-t))) :
    ∀ d a : Nat, a + d = s + 1 → wY_lastThree_5 post (nI s) t rd cn ba w cd mn fe (d + 1) (hb_sm (hb_c3 w s (-t)) a) (nI a) := by
  intro d
  induction d with
  | zero =>
    intro a ha
    have e : a = s + 1 := by omega
    subst e
    exact br_t (nI_lt (by omega) (by omega)) h
  | succ d ih =>
    intro a ha
    have q := hy_lt_14 (post := post) (J := wY_lastThree_5 post (nI s) t rd cn ba w cd mn fe (d + 1)) (rd := rd) (cn := cn) (ba := ba) (cd := cd) (mn := mn) (fe := fe) (s := s) (a := a) (t := t) (z := hb_sm (hb_c3 w s (-t)) a) hs (by omega) (ih (a + 1) (by omega)) (s - a + 1) 0 (Nat.zero_add _)
    have e : hb_sm (hb_c3 w s (-t)) a + hb_sm (hb_c4 w s (-t) a) 0 = hb_sm (hb_c3 w s (-t)) a := Int32.add_zero _
    rw [e] at q
    exact br_f (nI_nlt (by omega) (by omega)) ⟨_, q⟩
theorem hy_lt {s : Nat} {t : Int32} (hs : s ≤ 20) (h : post (hb_cp w s (-t))) : wpY_lastThree post (rd, cn, ba, w, cd, mn, fe) (nI s) t :=
  ⟨_, hy_lt_5 hs h (s + 1) 0 (Nat.zero_add _)⟩
theorem hy_ba_24 {J : Int32 → Int32 → Prop} {n a : Nat} {z : Int32} (hn : n ≤ 20) (ha : a ≤ n) (h : J (z + hb_b0 w n a) (nI (a + 1))) :
    ∀ d y : Nat, y + d = n - a + 1 → wY_balances_24 post J (nI n) (nI a) rd cn ba w cd mn fe (d + 1) (z + hb_sm (hb_b1 w n a) y) (nI y) := by
  intro d
  induction d with
  | zero =>
    intro y hy
    have e : y = n - a + 1 := by omega
    subst e
    refine br_t ?_ (nm_r (nI_1 a) h)
    rw [pk_sub ha]
    exact nI_lt (by omega) (by omega)
  | succ d ih =>
    intro y hy
    refine br_f ?_ ?_
    · rw [pk_sub ha]
      exact nI_nlt (by omega) (by omega)
    · rw [hb_sub3 ha (by omega)]
      refine hy_lt (by omega) ?_
      rw [hb_neg]
      refine nm_r (e' := z + hb_sm (hb_b1 w n a) (y + 1)) ?_ (nm_r (nI_1 y) (ih (y + 1) (by omega)))
      show _ = z + (hb_sm (hb_b1 w n a) y + hb_b1 w n a y)
      rw [← Int32.add_assoc]
      rfl
theorem hy_ba_16 {n : Nat} (hn : n ≤ 20) (h : post (hb_sm (hb_b0 w n) (n + 1))) :
    ∀ d a : Nat, a + d = n + 1 → wY_balances_16 post (nI n) rd cn ba w cd mn fe (d + 1) (hb_sm (hb_b0 w n) a) (nI a) := by
  intro d
  induction d with
  | zero =>
    intro a ha
    have e : a = n + 1 := by omega
    subst e
    exact br_t (nI_lt (by omega) (by omega)) h
  | succ d ih =>
    intro a ha
    have q := hy_ba_24 (post := post) (J := wY_balances_16 post (nI n) rd cn ba w cd mn fe (d + 1)) (rd := rd) (cn := cn) (ba := ba) (cd := cd) (mn := mn) (fe := fe) (n := n) (a := a) (z := hb_sm (hb_b0 w n) a) hn (by omega) (ih (a + 1) (by omega)) (n - a + 1) 0 (Nat.zero_add _)
    have e : hb_sm (hb_b0 w n) a + hb_sm (hb_b1 w n a) 0 = hb_sm (hb_b0 w n) a := Int32.add_zero _
    rw [e] at q
    exact br_f (nI_nlt (by omega) (by omega)) ⟨_, q⟩
end
