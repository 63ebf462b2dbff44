/-! what is owed -/
/-- the reference's state: the same weights; its list, if it says so, told by them -/
def hb_YR (w : Nat → Int32) (v : SY) : Prop :=
  ∃ (rd cn ba : Int32) (cd mn fe : Nat → Int32), v = (rd, cn, ba, w, cd, mn, fe) ∧ (¬ rd = 0 → hb_YL w cn ba cd)
def i_Rel (_k : Nat) (u : SX) (v : SY) : Prop := ∃ w : Nat → Int32, hb_XR w u ∧ hb_YR w v
theorem i_up {k : Nat} {u : SX} {v : SY} (h : i_Rel k u v) : i_Rel (k + 3) u v := h
theorem hb_yr {w : Nat → Int32} {rd cn ba : Int32} {cd mn fe : Nat → Int32} (h : ¬ rd = 0 → hb_YL w cn ba cd) : hb_YR w (rd, cn, ba, w, cd, mn, fe) := ⟨rd, cn, ba, cd, mn, fe, rfl, h⟩
theorem i_vc0 : wpX_init (fun u => wpY_init (fun v => i_Rel 0 u v)) := by
  unfold wpX_init
  refine hx_rb ?_
  rintro ⟨a, b, c, d, e, f, g⟩ h
  exact ⟨_, h, hb_yr (fun z => absurd rfl z)⟩
theorem i_vc_set {k : Nat} {u : SX} {v : SY} (I : i_Rel k u v) (hk : k + 3 ≤ 1536) (v1 : Int32) (v2 : Int32) : wpX_set (fun r u' => wpY_set (fun r' v' => r' = r ∧ i_Rel (k + 3) u' v') v v1 v2) u v1 v2 := by
  obtain ⟨w, hX, rd, cn, ba, cd, mn, fe, rfl, hY⟩ := I
  have I' : ∀ u, hb_XR w u → i_Rel (k + 3) u (rd, cn, ba, w, cd, mn, fe) := fun u h => ⟨w, h, hb_yr hY⟩
  obtain ⟨bl, ll, fw, ws, rfl, hl, hT⟩ := hX
  have I2 := I' _ ⟨bl, ll, fw, ws, rfl, hl, hT⟩
  unfold wpX_set wpX_isGoodWeight
  dsimp only
  rcases pk_ix v1 (n := 5) (by decide) with h | h | ⟨j, hj, rfl⟩
  · exact br_t h (br_t rfl (br_t h ⟨rfl, I2⟩))
  · have h0 : ¬ v1 < 0 := fun z => absurd (Int32.lt_of_le_of_lt h z) (by decide)
    have h4 : ¬ v1 ≤ 4 := fun z => absurd (Int32.le_trans h z) (by decide)
    exact br_f h0 (br_t h (br_t rfl (br_f h0 (br_f h4 ⟨rfl, I2⟩))))
  · have h0 : ¬ nI j < 0 := nI_pos (by omega)
    have h5 : ¬ (5 : Int32) ≤ nI j := nI_ge (b := 5) hj (by decide)
    have h4 : nI j ≤ 4 := nI_le (b := 4) (by omega) (by decide)
    have vj : vp_in (nI j) 5 := vp_in_nI hj (by decide)
    refine br_f h0 (br_f h5 (br_f (by decide) (br_c (fun a => br_f h0 (br_t h4 (br_t a ⟨rfl, I2⟩))) (fun a => br_c (fun b => ?_) (fun b => br_f h0 (br_t h4 (br_f a (br_f b ⟨rfl, I2⟩))))))))
    refine ⟨vj, nm_e ⟨vj, nm_e (hx_rb ?_)⟩⟩
    rintro ⟨a1, a2, a3, a4, a5, a6, a7⟩ h
    exact br_f h0 (br_t h4 (br_f a (br_t b ⟨vj, nm_e ⟨vj, nm_e ⟨rfl, _, h, hb_yr (fun z => absurd rfl z)⟩⟩⟩)))
/-- one weight as sow makes it -/
def hb_sw (x y : Int32) (w : Nat → Int32) (i : Nat) : Nat → Int32 := upd w i ((((x + (5 * nI i)) + ((y * nI i) * nI i)) - ((x + (5 * nI i)) + ((y * nI i) * nI i)) / 13 * 13) - 6)
theorem hb_sow {x y : Int32} {bc lc rd cn ba : Int32} {bl ll fw ws cd mn fe : Nat → Int32} {K : Int32 → SX → SY → Prop} (hK : ∀ (s : Int32) (w : Nat → Int32) (u : SX), hb_XR w u → K s u (0, cn, ba, w, cd, mn, fe)) :
    ∀ (d i : Nat) (s : Int32) (w : Nat → Int32), i + d = 5 → wX_sow_30 (fun r u' => ∀ P : Int32 → SY → Prop, (∀ v', K r u' v' → P r v') → wY_sow_30 P x y rd cn ba (d + 1) s (nI i) w cd mn fe) x y bc lc (d + 1) s (nI i) w bl ll fw ws := by
  intro d
  induction d with
  | zero =>
    intro i s w hi
    have e : i = 5 := by omega
    subst e
    refine br_t (by decide) (hx_rb ?_)
    rintro ⟨a1, a2, a3, a4, a5, a6, a7⟩ h
    exact fun P hP => br_t (by decide) (hP _ (hK s w _ h))
  | succ d ih =>
    intro i s w hi
    have h5 : ¬ (5 : Int32) ≤ nI i := nI_ge (b := 5) (by omega) (by decide)
    have vi : vp_in (nI i) 5 := vp_in_nI (by omega) (by decide)
    sorry
