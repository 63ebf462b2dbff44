/-! the class's tables of sums, and rebuild -/
/-- the two tables hold, at every balance, what the first s terms give -/
def hb_T (w : Nat → Int32) (g : Nat → Nat) (s : Nat) (fw ws : Nat → Int32) : Prop := ∀ c, c < 16807 → hb_B w c = true → fw c = nI (hb_F g s c) ∧ ws c = hb_M g s c
section
variable {post : SX → Prop} {lc : Int32} {w bl ll : Nat → Int32} {me : Nat} {e : Nat → Nat}
theorem hx_ss_2 {g : Nat → Nat} (hE : hb_EI w 16807 me e) (hb : ∀ j, j < me → bl j = nI (e j)) (hp : ∀ fw ws : Nat → Int32, hb_T w g 0 fw ws → post (nI me, lc, w, bl, ll, fw, ws)) :
    ∀ (d k : Nat) (fw ws : Nat → Int32), k + d = me → (∀ j, j < k → fw (e j) = 16807 ∧ ws (e j) = 0) → wX_startSums_2 post (nI me) lc (d + 1) (nI k) w bl ll fw ws := by
  obtain ⟨e1, e2, e3, e4⟩ := hE
  intro d
  induction d with
  | zero =>
    intro k fw ws hk h
    have ek : k = me := by omega
    subst ek
    refine br_t (nI_le (Nat.le_refl _) (by omega)) (nm_e (nm_e (hp _ _ ?_)))
    intro c hc hB
    show upd fw 0 0 c = nI (hb_f0 c) ∧ upd ws 0 1 c = hb_w0 c
    by_cases z : c = 0
    · subst z
      exact ⟨rfl, rfl⟩
    · obtain ⟨j, hj, ej⟩ := e4 c hc hB
      have := h j hj
      rw [ej] at this
      rw [pk_un z, pk_un z, hb_f0, hb_w0, if_neg z, if_neg z]
      exact this
  | succ d ih =>
    intro k fw ws hk h
    have k1 := e2 k (by omega)
    have eb : bl (nI k).toNatClampNeg = nI (e k) := by rw [nI_clamp (by omega)]; exact hb k (by omega)
    refine br_f (nI_ge (by omega) (by omega)) ⟨vp_in_nI (by omega) (by decide), nm_r eb ⟨vp_in_nI k1.1 (by decide), nm_e ⟨vp_in_nI k1.1 (by decide), nm_e (nm_r (nI_1 k) (ih (k + 1) _ _ (by omega) ?_))⟩⟩⟩
    intro j hj
    rw [nI_clamp (show e k < 2 ^ 31 by omega)]
    by_cases z : j = k
    · subst z; rw [pk_us, pk_us]; exact ⟨rfl, rfl⟩
    · have := e3 j k (by omega) (by omega)
      rw [pk_un (by omega), pk_un (by omega)]
      exact h j (by omega)
theorem hx_ss {g : Nat → Nat} {fw ws : Nat → Int32} (hE : hb_EI w 16807 me e) (hb : ∀ j, j < me → bl j = nI (e j)) (hp : ∀ fw ws : Nat → Int32, hb_T w g 0 fw ws → post (nI me, lc, w, bl, ll, fw, ws)) : wpX_startSums post (nI me, lc, w, bl, ll, fw, ws) :=
  ⟨me + 1, hx_ss_2 hE hb hp me 0 fw ws (by omega) (fun j h => absurd h (Nat.not_lt_zero j))⟩
theorem hx_as_2 {g : Nat → Nat} {s : Nat} (hE : hb_EI w 16807 me e) (hb : ∀ j, j < me → bl j = nI (e j)) (g0 : 0 < g s) (g1 : g s < 16807) (g2 : hb_B w (g s) = true) (hF : ∀ b, hb_F g s b ≤ 16807) (hp : ∀ fw ws : Nat → Int32, hb_T w g (s + 1) fw ws → post (nI me, lc, w, bl, ll, fw, ws)) :
    ∀ (d k : Nat) (fw ws : Nat → Int32), k + d = me → (∀ j, j < k → fw (e j) = nI (hb_F g (s + 1) (e j)) ∧ ws (e j) = hb_M g (s + 1) (e j)) → (∀ j, k ≤ j → j < me → fw (e j) = nI (hb_F g s (e j)) ∧ ws (e j) = hb_M g s (e j)) → wX_addToSums_2 post (nI (g s)) (nI me) lc (d + 1) (nI k) w bl ll fw ws := by
  obtain ⟨e1, e2, e3, e4⟩ := hE
  have g1' : g s < 7 ^ 5 := by rw [hb_75]; exact g1
  intro d
  induction d with
  | zero =>
    intro k fw ws hk h _
    have ek : k = me := by omega
    subst ek
    refine br_t (nI_le (Nat.le_refl _) (by omega)) (hp _ _ ?_)
    intro c hc hB
    obtain ⟨j, hj, ej⟩ := e4 c hc hB
    have := h j hj
    rw [ej] at this
    exact this
  | succ d ih =>
    intro k fw ws hk h h'
    obtain ⟨k1, k2⟩ := e2 k (by omega)
    have eb : bl (nI k).toNatClampNeg = nI (e k) := by rw [nI_clamp (by omega)]; exact hb k (by omega)
    refine br_f (nI_ge (by omega) (by omega)) ⟨vp_in_nI (by omega) (by decide), nm_r eb (hx_part g1 k1 (fun p => br_f (by decide) ?_) (fun p => br_t rfl (nm_r (nI_1 k) (ih (k + 1) fw ws (by omega) ?_ ?_))))⟩
    · have hl := hb_pt_le 5 _ _ g1' p
      have hBr := hb_B_sub g1 p g2 k2
      obtain ⟨i, hi, ei⟩ := e4 (e k - g s) (by omega) hBr
      have hik : i < k := by
        by_cases z : i < k
        · exact z
        · by_cases z2 : i = k
          · subst z2; omega
          · have := e3 k i (by omega) hi
            omega
      have hr := h i hik
      have hk' := h' k (Nat.le_refl _) (by omega)
      rw [ei] at hr
      have fs : hb_F g (s + 1) (e k) = hb_fo (hb_F g s (e k)) (hb_F g (s + 1) (e k - g s)) := hb_it_p g0 g1 p
      have ms : hb_M g (s + 1) (e k) = hb_M g s (e k) + hb_M g (s + 1) (e k - g s) := hb_it_p g0 g1 p
      have f1 := hF (e k)
      have f2 := hb_F_s (b := e k - g s) g0 g1
      have f3 := hF (e k - g s)
      have fe := hb_fo_e (hb_F g s (e k)) (hb_F g (s + 1) (e k - g s))
      have ck : (nI (e k)).toNatClampNeg = e k := nI_clamp (by omega)
      have cr : (nI (e k - g s)).toNatClampNeg = e k - g s := nI_clamp (by omega)
      have vk : vp_in (nI (e k)) 16807 := vp_in_nI k1 (by decide)
      have vr : vp_in (nI (e k - g s)) 16807 := vp_in_nI (by omega) (by decide)
      refine nm_r (pk_sub hl) ?_
      rw [ck, cr, hk'.1, hk'.2, hr.1, hr.2, ← ms]
      refine ⟨vk, vr, vk, nm_e ⟨vr, vk, pk_le (hb_F g s (e k)) (hb_F g (s + 1) (e k - g s) + 1) (fun q => nm_r (nI_1 k) (ih (k + 1) _ _ (by omega) ?_ ?_)) (fun q => ⟨vr, vk, nm_e (nm_r (nI_1 k) (ih (k + 1) _ _ (by omega) ?_ ?_))⟩) rfl (nI_1 _) (by omega) (by omega)⟩⟩
      · intro j hj
        by_cases z : j = k
        · subst z
          rw [pk_us, hk'.1]
          exact ⟨congrArg nI (by omega), rfl⟩
        · have := e3 j k (by omega) (by omega)
          rw [pk_un (by omega)]
          exact h j (by omega)
      · intro j hj hj2
        have := e3 k j (by omega) hj2
        rw [pk_un (by omega)]
        exact h' j (by omega) hj2
      · intro j hj
        by_cases z : j = k
        · subst z
          rw [pk_us, pk_us, nI_1]
          exact ⟨congrArg nI (by omega), rfl⟩
        · have := e3 j k (by omega) (by omega)
          rw [pk_un (by omega), pk_un (by omega)]
          exact h j (by omega)
      · intro j hj hj2
        have := e3 k j (by omega) hj2
        rw [pk_un (by omega), pk_un (by omega)]
        exact h' j (by omega) hj2
    · intro j hj
      by_cases z : j = k
      · subst z
        have fs : hb_F g (s + 1) (e j) = hb_F g s (e j) := hb_it_n p
        have ms : hb_M g (s + 1) (e j) = hb_M g s (e j) := hb_it_n p
        rw [fs, ms]
        exact h' j (Nat.le_refl _) (by omega)
      · exact h j (by omega)
    · intro j hj hj2
      exact h' j (by omega) hj2
theorem hx_as {g : Nat → Nat} {s : Nat} {fw ws : Nat → Int32} (hE : hb_EI w 16807 me e) (hb : ∀ j, j < me → bl j = nI (e j)) (g0 : 0 < g s) (g1 : g s < 16807) (g2 : hb_B w (g s) = true) (hF : ∀ b, hb_F g s b ≤ 16807) (hT : hb_T w g s fw ws) (hp : ∀ fw ws : Nat → Int32, hb_T w g (s + 1) fw ws → post (nI me, lc, w, bl, ll, fw, ws)) :
    wpX_addToSums post (nI me, lc, w, bl, ll, fw, ws) (nI (g s)) :=
  ⟨me + 1, hx_as_2 hE hb g0 g1 g2 hF hp me 0 fw ws (by omega) (fun j h => absurd h (Nat.not_lt_zero j)) (fun j _ hj => hT _ (hE.2.1 j hj).1 (hE.2.1 j hj).2)⟩
theorem hx_rb_14 {g : Nat → Nat} {m : Nat} (hE : hb_EI w 16807 me e) (hb : ∀ j, j < me → bl j = nI (e j)) (hm : m ≤ 1813) (hg : ∀ j, j < m → 0 < g j ∧ g j < 16807 ∧ hb_B w (g j) = true) (hl : ∀ j, j < m → ll j = nI (g j)) (hp : ∀ fw ws : Nat → Int32, hb_T w g m fw ws → post (nI me, nI m, w, bl, ll, fw, ws)) :
    ∀ (d s : Nat) (fw ws : Nat → Int32), s + d = m → hb_T w g s fw ws → wX_rebuild_14 post (d + 1) (nI s) (nI me) (nI m) w bl ll fw ws := by
  intro d
  induction d with
  | zero =>
    intro s fw ws hs h
    have es : s = m := by omega
    subst es
    exact br_t (nI_le (Nat.le_refl _) (by omega)) (hp _ _ h)
  | succ d ih =>
    intro s fw ws hs h
    have es : ll (nI s).toNatClampNeg = nI (g s) := by rw [nI_clamp (by omega)]; exact hl s (by omega)
    obtain ⟨g0, g1, g2⟩ := hg s (by omega)
    refine br_f (nI_ge (by omega) (by omega)) ⟨vp_in_nI (by omega) (by decide), ?_⟩
    rw [es]
    refine hx_as hE hb g0 g1 g2 (fun b => hb_F_top (m := m) (fun j hj => ⟨(hg j hj).1, (hg j hj).2.1⟩) s b (by omega)) h ?_
    intro fw' ws' h'
    exact nm_r (nI_1 s) (ih (s + 1) fw' ws' (by omega) h')
end
/-- the class's state, told by the weights -/
def hb_XR (w : Nat → Int32) (u : SX) : Prop :=
  ∃ bl ll fw ws : Nat → Int32, u = (nI (hb_E w 16807).1, nI (hb_S w 16807).1, w, bl, ll, fw, ws) ∧ (∀ j, j < (hb_S w 16807).1 → ll j = nI ((hb_S w 16807).2 j)) ∧ hb_T w (hb_S w 16807).2 (hb_S w 16807).1 fw ws
theorem hx_rb {post : SX → Prop} {bc lc : Int32} {w bl ll fw ws : Nat → Int32} (hp : ∀ u : SX, hb_XR w u → post u) : wpX_rebuild post (bc, lc, w, bl, ll, fw, ws) := by
  have hE := hb_E_i w 16807
  have hm := hb_S_few w (n := 16807) (Nat.le_refl _)
  have hS := (hb_S_i w 16807).1
  refine hx_gb (bc := bc) ?_
  intro bl' hb
  refine hx_gl (lc := lc) (ll := ll) hE hb ?_
  intro ll' hl
  refine hx_ss (g := (hb_S w 16807).2) hE hb ?_
  intro fw' ws' hT
  exact ⟨_, hx_rb_14 hE hb hm hS hl (fun fw2 ws2 h2 => hp _ ⟨bl', ll', fw2, ws2, rfl, hl, h2⟩) _ 0 fw' ws' (Nat.zero_add _) hT⟩
