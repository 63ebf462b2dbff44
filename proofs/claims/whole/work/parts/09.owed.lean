/-! what is owed -/
/-- the reference's state: the same weights; its list, if it says so, told by them -/
def hb_YR (w : Nat → Int32) (v : SY) : Prop :=
  ∃ (rd cn ba : Int32) (cd mn fe : Nat → Int32), v = (rd, cn, ba, w, cd, mn, fe) ∧ (¬ rd = 0 → hb_YL w cn ba cd)
def i_Rel (_k : Nat) (u : SX) (v : SY) : Prop := ∃ w : Nat → Int32, hb_XR w u ∧ hb_YR w v
theorem i_up {k : Nat} {u : SX} {v : SY} (h : i_Rel k u v) : i_Rel (k + 3) u v := h
theorem hb_yr {w : Nat → Int32} {rd cn ba : Int32} {cd mn fe : Nat → Int32} (h : ¬ rd = 0 → hb_YL w cn ba cd) : hb_YR w (rd, cn, ba, w, cd, mn, fe) := ⟨rd, cn, ba, cd, mn, fe, rfl, h⟩
theorem i_vc0 : wpX_init (fun u => wpY_init (fun v => i_Rel 0 u v)) := by
  unfold wpX_init
  refine hx_rb ?_
  rintro ⟨a, b, c, d, e, f, g⟩ h
  exact ⟨_, h, hb_yr (fun z => absurd rfl z)⟩
theorem i_vc_set {k : Nat} {u : SX} {v : SY} (I : i_Rel k u v) (hk : k + 3 ≤ 1536) (v1 : Int32) (v2 : Int32) : wpX_set (fun r u' => wpY_set (fun r' v' => r' = r ∧ i_Rel (k + 3) u' v') v v1 v2) u v1 v2 := by
  obtain ⟨w, hX, rd, cn, ba, cd, mn, fe, rfl, hY⟩ := I
  have I' : ∀ u, hb_XR w u → i_Rel (k + 3) u (rd, cn, ba, w, cd, mn, fe) := fun u h => ⟨w, h, hb_yr hY⟩
  obtain ⟨bl, ll, fw, ws, rfl, hl, hT⟩ := hX
  have I2 := I' _ ⟨bl, ll, fw, ws, rfl, hl, hT⟩
  unfold wpX_set wpX_isGoodWeight
  dsimp only
  rcases pk_ix v1 (n := 5) (by decide) with h | h | ⟨j, hj, rfl⟩
  · exact br_t h (br_t rfl (br_t h ⟨rfl, I2⟩))
  · have h0 : ¬ v1 < 0 := fun z => absurd (Int32.lt_of_le_of_lt h z) (by decide)
    have h4 : ¬ v1 ≤ 4 := fun z => absurd (Int32.le_trans h z) (by decide)
    exact br_f h0 (br_t h (br_t rfl (br_f h0 (br_f h4 ⟨rfl, I2⟩))))
  · have h0 : ¬ nI j < 0 := nI_pos (by omega)
    have h5 : ¬ (5 : Int32) ≤ nI j := nI_ge (b := 5) hj (by decide)
    have h4 : nI j ≤ 4 := nI_le (b := 4) (by omega) (by decide)
    have vj : vp_in (nI j) 5 := vp_in_nI hj (by decide)
    refine br_f h0 (br_f h5 (br_f (by decide) (br_c (fun a => br_f h0 (br_t h4 (br_t a ⟨rfl, I2⟩))) (fun a => br_c (fun b => ?_) (fun b => br_f h0 (br_t h4 (br_f a (br_f b ⟨rfl, I2⟩))))))))
    refine ⟨vj, nm_e ⟨vj, nm_e (hx_rb ?_)⟩⟩
    rintro ⟨a1, a2, a3, a4, a5, a6, a7⟩ h
    exact br_f h0 (br_t h4 (br_f a (br_t b ⟨vj, nm_e ⟨vj, nm_e ⟨rfl, _, h, hb_yr (fun z => absurd rfl z)⟩⟩⟩)))
/-- the weights and their sum after i steps of sow -/
def hb_sv (x y : Int32) (w : Nat → Int32) : Nat → (Nat → Int32) × Int32
  | 0 => (w, 0)
  | i + 1 => (upd (hb_sv x y w i).1 i ((((x + (5 * nI i)) + ((y * nI i) * nI i)) - ((x + (5 * nI i)) + ((y * nI i) * nI i)) / 13 * 13) - 6), (hb_sv x y w i).2 + upd (hb_sv x y w i).1 i ((((x + (5 * nI i)) + ((y * nI i) * nI i)) - ((x + (5 * nI i)) + ((y * nI i) * nI i)) / 13 * 13) - 6) i)
theorem hx_so {post : Int32 → SX → Prop} {x y bc lc : Int32} {w bl ll fw ws : Nat → Int32} (hp : ∀ u : SX, hb_XR (hb_sv x y w 5).1 u → post (hb_sv x y w 5).2 u) :
    ∀ d i : Nat, i + d = 5 → wX_sow_30 post x y bc lc (d + 1) (hb_sv x y w i).2 (nI i) (hb_sv x y w i).1 bl ll fw ws := by
  intro d
  induction d with
  | zero =>
    intro i hi
    have e : i = 5 := by omega
    subst e
    refine br_t (by decide) (hx_rb ?_)
    rintro ⟨a1, a2, a3, a4, a5, a6, a7⟩ h
    exact hp _ h
  | succ d ih =>
    intro i hi
    have q := ih (i + 1) (by omega)
    refine br_f (nI_ge (b := 5) (by omega) (by decide)) ⟨by decide, vp_in_nI (by omega) (by decide), ?_⟩
    rw [nI_clamp (by omega)]
    exact nm_e ⟨vp_in_nI (by omega) (by decide), nm_e (nm_r (nI_1 i) q)⟩
theorem hy_so {post : Int32 → SY → Prop} {x y rd cn ba : Int32} {w cd mn fe : Nat → Int32} (hp : post (hb_sv x y w 5).2 (0, cn, ba, (hb_sv x y w 5).1, cd, mn, fe)) :
    ∀ d i : Nat, i + d = 5 → wY_sow_30 post x y rd cn ba (d + 1) (hb_sv x y w i).2 (nI i) (hb_sv x y w i).1 cd mn fe := by
  intro d
  induction d with
  | zero =>
    intro i hi
    have e : i = 5 := by omega
    subst e
    exact br_t (by decide) hp
  | succ d ih =>
    intro i hi
    have q := ih (i + 1) (by omega)
    refine br_f (nI_ge (b := 5) (by omega) (by decide)) ⟨by decide, vp_in_nI (by omega) (by decide), ?_⟩
    rw [nI_clamp (by omega)]
    exact nm_e ⟨vp_in_nI (by omega) (by decide), nm_e (nm_r (nI_1 i) q)⟩
theorem hb_lt13 {x : Int32} : x < 13 ↔ x ≤ 12 := by
  rw [Int32.lt_iff_toInt_lt, Int32.le_iff_toInt_le, show (13 : Int32).toInt = 13 by decide, show (12 : Int32).toInt = 12 by decide]
  omega
theorem i_vc_sow {k : Nat} {u : SX} {v : SY} (I : i_Rel k u v) (hk : k + 3 ≤ 1536) (v1 : Int32) (v2 : Int32) : wpX_sow (fun r u' => wpY_sow (fun r' v' => r' = r ∧ i_Rel (k + 3) u' v') v v1 v2) u v1 v2 := by
  have I2 : i_Rel (k + 3) u v := I
  obtain ⟨w, hX, rd, cn, ba, cd, mn, fe, rfl, hY⟩ := I
  obtain ⟨bl, ll, fw, ws, rfl, hl, hT⟩ := hX
  refine br_c (fun a => br_t a ⟨rfl, I2⟩) (fun a => br_c (fun b => br_c (fun c => br_f a (br_t (hb_lt13.mp b) (br_t c ⟨rfl, I2⟩))) (fun c => br_c (fun d => ?_) (fun d => br_f a (br_t (hb_lt13.mp b) (br_f c (br_f (fun z => d (hb_lt13.mpr z)) ⟨rfl, I2⟩)))))) (fun b => br_f a (br_f (fun z => b (hb_lt13.mpr z)) ⟨rfl, I2⟩)))
  refine ⟨6, hx_so (w := w) ?_ 5 0 rfl⟩
  intro u h
  exact br_f a (br_t (hb_lt13.mp b) (br_f c (br_t (hb_lt13.mp d) ⟨6, hy_so (w := w) ⟨rfl, _, h, hb_yr (fun z => absurd rfl z)⟩ 5 0 rfl⟩)))
theorem i_vc_weight {k : Nat} {u : SX} {v : SY} (I : i_Rel k u v) (hk : k + 3 ≤ 1536) (v1 : Int32) : wpX_weight (fun r => wpY_weight (fun r' => r' = r ∧ i_Rel (k + 3) u v) v v1) u v1 := by
  have I2 : i_Rel (k + 3) u v := I
  obtain ⟨w, hX, rd, cn, ba, cd, mn, fe, rfl, hY⟩ := I
  obtain ⟨bl, ll, fw, ws, rfl, hl, hT⟩ := hX
  unfold wpX_weight wpX_isGoodWeight
  dsimp only
  rcases pk_ix v1 (n := 5) (by decide) with h | h | ⟨j, hj, rfl⟩
  · exact br_t h (br_t rfl (br_t h ⟨rfl, I2⟩))
  · have h0 : ¬ v1 < 0 := fun z => absurd (Int32.lt_of_le_of_lt h z) (by decide)
    have h4 : ¬ v1 ≤ 4 := fun z => absurd (Int32.le_trans h z) (by decide)
    exact br_f h0 (br_t h (br_t rfl (br_f h0 (br_f h4 ⟨rfl, I2⟩))))
  · have h0 : ¬ nI j < 0 := nI_pos (by omega)
    have h5 : ¬ (5 : Int32) ≤ nI j := nI_ge (b := 5) hj (by decide)
    have h4 : nI j ≤ 4 := nI_le (b := 4) (by omega) (by decide)
    have vj : vp_in (nI j) 5 := vp_in_nI hj (by decide)
    exact br_f h0 (br_f h5 (br_f (by decide) ⟨vj, br_f h0 (br_t h4 ⟨vj, rfl, I2⟩)⟩))
theorem hb_good {PX : Int32 → Prop} {v1 : Int32} (h0 : (v1 < 0 ∨ nI 16807 ≤ v1) → PX 0) (h1 : ∀ c, c < 16807 → v1 = nI c → PX 1) : wpX_isGoodCode PX v1 := by
  rcases pk_ix v1 (n := 16807) (by decide) with h | h | ⟨j, hj, rfl⟩
  · exact br_t h (h0 (Or.inl h))
  · have z0 : ¬ v1 < 0 := fun z => absurd (Int32.lt_of_le_of_lt h z) (by decide)
    exact br_f z0 (br_t h (h0 (Or.inr h)))
  · exact br_f (nI_pos (by omega)) (br_f (nI_ge (b := 16807) hj (by decide)) (h1 j hj rfl))
theorem hb_badY {PY : Int32 → Prop} {v1 : Int32} {rd cn ba : Int32} {w cd mn fe : Nat → Int32} (h : v1 < 0 ∨ nI 16807 ≤ v1) (h1 : PY 1) : wpY_badCode PY (rd, cn, ba, w, cd, mn, fe) v1 := by
  rcases h with h | h
  · exact br_t h h1
  · have z0 : ¬ v1 < 0 := fun z => absurd (Int32.lt_of_le_of_lt h z) (by decide)
    have z1 : ¬ v1 ≤ 16806 := fun z => absurd (Int32.le_trans h z) (by decide)
    exact br_f z0 (br_f z1 h1)
theorem hb_goodY {PY : Int32 → Prop} {c : Nat} {rd cn ba : Int32} {w cd mn fe : Nat → Int32} (h : c < 16807) (h1 : PY 0) : wpY_badCode PY (rd, cn, ba, w, cd, mn, fe) (nI c) :=
  br_f (nI_pos (by omega)) (br_t (nI_le (b := 16806) (by omega) (by decide)) h1)
theorem hb_gi {w : Nat → Int32} {a : Nat → Int32} (h : ∀ j, j < (hb_S w 16807).1 → a j = nI ((hb_S w 16807).2 j)) : ∀ j, j < (hb_S w 16807).1 → a j = nI ((hb_S w 16807).2 j) ∧ (hb_S w 16807).2 j < 16807 := fun j hj => ⟨h j hj, ((hb_S_i w 16807).1 j hj).2.1⟩
theorem hb_few' (w : Nat → Int32) : (hb_S w 16807).1 ≤ 1813 := hb_S_few w (Nat.le_refl _)
theorem i_vc_isBalance {k : Nat} {u : SX} {v : SY} (I : i_Rel k u v) (hk : k + 3 ≤ 1536) (v1 : Int32) : wpX_isBalance (fun r => wpY_isBalance (fun r' => r' = r ∧ i_Rel (k + 3) u v) v v1) u v1 := by
  have I2 : i_Rel (k + 3) u v := I
  obtain ⟨w, hX, rd, cn, ba, cd, mn, fe, rfl, hY⟩ := I
  obtain ⟨bl, ll, fw, ws, rfl, hl, hT⟩ := hX
  unfold wpX_isBalance wpY_isBalance
  dsimp only
  refine hb_good (fun h => br_t rfl (hb_badY h (br_f (by decide) ⟨rfl, I2⟩))) ?_
  rintro c hc rfl
  refine br_f (by decide) (hx_tiltB hc (fun hB => br_t rfl (hb_goodY hc (br_t rfl (hy_bal hc (fun _ => br_f (by decide) ⟨rfl, I2⟩) (fun z => absurd hB z))))) (fun hB r hr => br_f hr (hb_goodY hc (br_t rfl (hy_bal hc (fun z => absurd z hB) (fun _ => br_t rfl ⟨rfl, I2⟩))))))
