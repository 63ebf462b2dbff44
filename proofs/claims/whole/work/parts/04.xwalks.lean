/-! the class's walks, up to its tables -/
theorem hb_r7 {a : Nat} (h : a < 16807) : nI a - nI a / 7 * 7 = nI (a % 7) := pk_rem (d := 7) (by omega) (by decide) (by decide)
theorem hb_q7 {a : Nat} (h : a < 16807) : nI a / 7 = nI (a / 7) := pk_div (d := 7) (by omega) (by decide) (by decide)
theorem hb_n7 : ¬ (7 : Int32) = 0 := by decide
section
variable {post : Int32 → Prop} {bc lc : Int32} {w bl ll fw ws : Nat → Int32}
theorem hx_tilt_7 : ∀ (n c : Nat) (s : Int32), n ≤ 5 → c < 16807 → post (s + hb_tl w n c) → wX_tilt_7 post bc lc w bl ll fw ws (n + 1) (nI c) s (nI n + (-1)) := by
  intro n
  induction n with
  | zero =>
    intro c s _ _ h
    have h' : post s := by
      have e : s + hb_tl w 0 c = s := Int32.add_zero s
      rw [e] at h
      exact h
    exact br_t (by decide) h'
  | succ n ih =>
    intro c s hn hc h
    rw [pk_m1]
    refine br_f (nI_pos (by omega)) ⟨vp_in_nI (by omega) (by decide), hb_n7, nm_r (e' := s + w n * nI (c % 7)) ?_ ⟨hb_n7, nm_r (hb_q7 hc) (nm_e (ih _ _ (by omega) (by omega) ?_))⟩⟩
    · rw [hb_r7 hc, nI_clamp (by omega)]
    · rw [Int32.add_assoc]
      exact h
theorem hx_tilt {c : Nat} (hc : c < 16807) (h : post (hb_tl w 5 c)) : wpX_tilt post (bc, lc, w, bl, ll, fw, ws) (nI c) := by
  have q := hx_tilt_7 (post := post) (bc := bc) (lc := lc) (w := w) (bl := bl) (ll := ll) (fw := fw) (ws := ws) 5 c 0 (by omega) hc (by rw [Int32.zero_add]; exact h)
  rw [pk_m1] at q
  exact ⟨6, q⟩
theorem hx_tiltB {c : Nat} (hc : c < 16807) (ht : hb_B w c = true → post 0) (hf : ¬ hb_B w c = true → ∀ r : Int32, ¬ r = 0 → post r) : wpX_tilt post (bc, lc, w, bl, ll, fw, ws) (nI c) := by
  refine hx_tilt hc ?_
  by_cases e : hb_tl w 5 c = 0
  · rw [e]; exact ht (hb_B_i.mpr e)
  · exact hf (fun z => e (hb_B_i.mp z)) _ e
theorem hx_part_7 : ∀ n a b : Nat, n ≤ 5 → a < 16807 → b < 16807 → (hb_pt n a b = true → post 1) → (¬ hb_pt n a b = true → post 0) → wX_isPart_7 post (n + 1) (nI a) (nI b) (nI (5 - n)) := by
  intro n
  induction n with
  | zero =>
    intro a b _ _ _ ht _
    exact br_t (by decide) (ht rfl)
  | succ n ih =>
    intro a b hn ha hb ht hf
    refine br_f (nI_ge (b := 5) (by omega) (by decide)) ⟨hb_n7, hb_n7, pk_le (a % 7) (b % 7) (fun h => ⟨hb_n7, nm_r (hb_q7 ha) ⟨hb_n7, nm_r (hb_q7 hb) (nm_r (e' := nI (5 - n)) ?_ (ih _ _ (by omega) (by omega) (by omega) ?_ ?_))⟩⟩) (fun h => hf ?_) (hb_r7 ha) (hb_r7 hb)⟩
    · rw [nI_1]
      exact congrArg nI (by omega)
    · exact fun z => ht (hb_pt_s.mpr ⟨h, z⟩)
    · exact fun z => hf (fun y => z (hb_pt_s.mp y).2)
    · intro z
      have := (hb_pt_s.mp z).1
      omega
theorem hx_part {a b : Nat} (ha : a < 16807) (hb : b < 16807) (ht : hb_pt 5 a b = true → post 1) (hf : ¬ hb_pt 5 a b = true → post 0) : wpX_isPart post (nI a) (nI b) :=
  ⟨6, hx_part_7 5 a b (by omega) ha hb ht hf⟩
theorem hx_flp_2 {g : Nat → Nat} {m c : Nat} (hm : m ≤ 16807) (hc : c < 16807) (hg : ∀ j, j < m → ll j = nI (g j) ∧ g j < 16807)
    (hs : ∀ j, j < m → hb_pt 5 (g j) c = true → (∀ i, i < j → ¬ hb_pt 5 (g i) c = true) → post (nI (g j))) (hn : (∀ j, j < m → ¬ hb_pt 5 (g j) c = true) → post (-2)) :
    ∀ d k : Nat, k + d = m → (∀ i, i < k → ¬ hb_pt 5 (g i) c = true) → wX_firstLeastPart_2 post (nI c) bc (nI m) w bl ll fw ws (d + 1) (nI k) := by
  intro d
  induction d with
  | zero =>
    intro k hk h
    have e : k = m := by omega
    subst e
    exact br_t (nI_le (Nat.le_refl _) (by omega)) (hn h)
  | succ d ih =>
    intro k hk h
    have e : ll (nI k).toNatClampNeg = nI (g k) := by rw [nI_clamp (by omega)]; exact (hg k (by omega)).1
    refine br_f (nI_ge (by omega) (by omega)) ⟨vp_in_nI (by omega) (by decide), ?_⟩
    rw [e]
    refine hx_part (hg k (by omega)).2 hc (fun p => br_f (by decide) ⟨vp_in_nI (by omega) (by decide), hs k (by omega) p h⟩) (fun p => br_t rfl (nm_r (nI_1 k) (ih (k + 1) (by omega) ?_)))
    intro i hi
    by_cases z : i = k
    · subst z; exact p
    · exact h i (by omega)
theorem hx_flp {g : Nat → Nat} {m c : Nat} (hm : m ≤ 16807) (hc : c < 16807) (hg : ∀ j, j < m → ll j = nI (g j) ∧ g j < 16807)
    (hs : ∀ j, j < m → hb_pt 5 (g j) c = true → (∀ i, i < j → ¬ hb_pt 5 (g i) c = true) → post (nI (g j))) (hn : (∀ j, j < m → ¬ hb_pt 5 (g j) c = true) → post (-2)) :
    wpX_firstLeastPart post (bc, nI m, w, bl, ll, fw, ws) (nI c) :=
  ⟨m + 1, hx_flp_2 hm hc hg hs hn m 0 (by omega) (fun i h => absurd h (Nat.not_lt_zero i))⟩
end
section
variable {post : SX → Prop} {bc lc : Int32} {w ll fw ws : Nat → Int32}
theorem hx_gb_7 (hp : ∀ bl : Nat → Int32, (∀ j, j < (hb_E w 16807).1 → bl j = nI ((hb_E w 16807).2 j)) → post (nI (hb_E w 16807).1, lc, w, bl, ll, fw, ws)) :
    ∀ (d c : Nat) (bl : Nat → Int32), c + d = 16807 → (∀ j, j < (hb_E w c).1 → bl j = nI ((hb_E w c).2 j)) → wX_gatherBalances_7 post lc (d + 1) (nI c) (nI (hb_E w c).1) w bl ll fw ws := by
  intro d
  induction d with
  | zero =>
    intro c bl hc h
    have e : c = 16807 := by omega
    subst e
    exact br_t (nI_le (Nat.le_refl _) (by decide)) (hp bl h)
  | succ d ih =>
    intro c bl hc h
    refine br_f (nI_ge (b := 16807) (by omega) (by decide)) (hx_tiltB (by omega) (fun hB => br_t rfl ?_) (fun hB r hr => br_f hr (nm_r (nI_1 c) ?_)))
    · have i := hb_E_i w c
      have i1 := i.1
      have q := ih (c + 1)
      rw [hb_E_t hB] at q
      generalize hb_E w c = s at h i1 q ⊢
      obtain ⟨m, g⟩ := s
      dsimp only at h i1 q ⊢
      refine ⟨vp_in_nI (by omega) (by decide), nm_e (nm_r (nI_1 m) (nm_r (nI_1 c) (q _ (by omega) ?_)))⟩
      intro j hj
      rw [nI_clamp (by omega)]
      by_cases z : j = m
      · subst z; rw [pk_us, hb_put_s]
      · rw [pk_un z, hb_put_n z]; exact h j (by omega)
    · have q := ih (c + 1) bl (by omega)
      rw [hb_E_f hB] at q
      exact q h
theorem hx_gb {bl : Nat → Int32} (hp : ∀ bl : Nat → Int32, (∀ j, j < (hb_E w 16807).1 → bl j = nI ((hb_E w 16807).2 j)) → post (nI (hb_E w 16807).1, lc, w, bl, ll, fw, ws)) : wpX_gatherBalances post (bc, lc, w, bl, ll, fw, ws) :=
  ⟨16808, hx_gb_7 hp 16807 0 bl rfl (fun j h => absurd h (Nat.not_lt_zero j))⟩
end
section
variable {post : SX → Prop} {lc : Int32} {w bl fw ws : Nat → Int32} {me : Nat} {e : Nat → Nat}
theorem hx_gl_7 (hE : hb_EI w 16807 me e) (hb : ∀ j, j < me → bl j = nI (e j))
    (hp : ∀ ll : Nat → Int32, (∀ j, j < (hb_S w 16807).1 → ll j = nI ((hb_S w 16807).2 j)) → post (nI me, nI (hb_S w 16807).1, w, bl, ll, fw, ws)) :
    ∀ (d k q : Nat) (ll : Nat → Int32), k + d = me → 1 ≤ k → q ≤ 16807 → (∀ j, j < k → e j < q) → (∀ j, k ≤ j → j < me → q ≤ e j) → (∀ j, j < (hb_S w q).1 → ll j = nI ((hb_S w q).2 j)) → wX_gatherLeast_7 post (nI me) (d + 1) (nI k) (nI (hb_S w q).1) w bl ll fw ws := by
  obtain ⟨e1, e2, e3, e4⟩ := hE
  intro d
  induction d with
  | zero =>
    intro k q ll hk hk1 hq h1 h2 h
    have ek : k = me := by omega
    subst ek
    have gap : hb_S w (q + (16807 - q)) = hb_S w q := hb_S_gap _ (fun c c1 c2 => by
      rw [← Bool.not_eq_true]
      intro hB
      obtain ⟨j, hj, ej⟩ := e4 c (by omega) hB
      have := h1 j hj
      omega)
    rw [show q + (16807 - q) = 16807 by omega] at gap
    rw [← gap] at h ⊢
    exact br_t (nI_le (Nat.le_refl _) (by omega)) (hp ll h)
  | succ d ih =>
    intro k q ll hk hk1 hq h1 h2 h
    have k1 := e2 k (by omega)
    have hqk := h2 k (Nat.le_refl _) (by omega)
    have gap : hb_S w (q + (e k - q)) = hb_S w q := hb_S_gap _ (fun c c1 c2 => by
      rw [← Bool.not_eq_true]
      intro hB
      obtain ⟨j, hj, ej⟩ := e4 c (by omega) hB
      by_cases z : j < k
      · have := h1 j z
        omega
      · by_cases z2 : j = k
        · subst z2; omega
        · have := e3 k j (by omega) hj
          omega)
    rw [show q + (e k - q) = e k by omega] at gap
    rw [← gap] at h ⊢
    have eb : bl (nI k).toNatClampNeg = nI (e k) := by rw [nI_clamp (by omega)]; exact hb k (by omega)
    have few := hb_S_few w (n := e k) (by omega)
    obtain ⟨s1, s2, s3⟩ := hb_S_i w (e k)
    have n1 : ∀ j, j < k + 1 → e j < e k + 1 := fun j hj => by
      by_cases z : j = k
      · subst z; omega
      · have := e3 j k (by omega) (by omega)
        omega
    have n2 : ∀ j, k + 1 ≤ j → j < me → e k + 1 ≤ e j := fun j hj hj2 => by
      have := e3 k j (by omega) hj2
      omega
    have step := fun ll' => ih (k + 1) (e k + 1) ll' (by omega) (by omega) (by omega) n1 n2
    refine br_f (nI_ge (by omega) (by omega)) ⟨vp_in_nI (by omega) (by decide), nm_r eb ?_⟩
    refine hx_flp (g := (hb_S w (e k)).2) (by omega) k1.1 (fun j hj => ⟨h j hj, ?_⟩) (fun j hj p _ => br_t (nI_pos' ?_) (nm_r (nI_1 k) ?_)) (fun hn => br_f (by decide) ?_)
    · have := s1 j hj
      omega
    · have := s1 j hj
      omega
    · have st := step ll
      rw [hb_S_f (fun z => by
        have y := hb_any_t.mpr ⟨j, hj, p⟩
        rw [y] at z
        exact absurd z.2.2 (by decide))] at st
      exact st h
    · have st := step
      have z0 : e k ≠ 0 := by
        have := e3 0 k (by omega) (by omega)
        omega
      rw [hb_S_t z0 k1.2 (hb_any_f.mpr hn)] at st
      generalize hb_S w (e k) = s at h few st ⊢
      obtain ⟨m, g⟩ := s
      dsimp only at h few st ⊢
      refine ⟨vp_in_nI (by omega) (by decide), nm_e (nm_r (nI_1 m) (nm_r (nI_1 k) (st _ ?_)))⟩
      intro j hj
      rw [nI_clamp (by omega)]
      by_cases z : j = m
      · subst z; rw [pk_us, hb_put_s]
      · rw [pk_un z, hb_put_n z]; exact h j (by omega)
theorem hx_e0 (hE : hb_EI w 16807 me e) : 0 < me ∧ e 0 = 0 := by
  obtain ⟨e1, e2, e3, e4⟩ := hE
  obtain ⟨j, hj, ej⟩ := e4 0 (by decide) (hb_B0 w)
  refine ⟨by omega, ?_⟩
  by_cases z : j = 0
  · subst z; exact ej
  · have := e3 0 j (by omega) hj
    omega
theorem hx_gl {ll : Nat → Int32} (hE : hb_EI w 16807 me e) (hb : ∀ j, j < me → bl j = nI (e j))
    (hp : ∀ ll : Nat → Int32, (∀ j, j < (hb_S w 16807).1 → ll j = nI ((hb_S w 16807).2 j)) → post (nI me, nI (hb_S w 16807).1, w, bl, ll, fw, ws)) : wpX_gatherLeast post (nI me, lc, w, bl, ll, fw, ws) := by
  obtain ⟨m0, e0⟩ := hx_e0 hE
  have e1 : hb_S w 1 = hb_S w 0 := hb_S_f (fun z => z.1 rfl)
  have q := hx_gl_7 (fw := fw) (ws := ws) hE hb hp (me - 1) 1 1 ll (by omega) (Nat.le_refl 1) (by decide) (fun j hj => by
    have : j = 0 := by omega
    subst this
    omega) (fun j hj hj2 => by
    have := hE.2.2.1 0 j (by omega) hj2
    omega) (by rw [e1]; exact fun j h => absurd h (Nat.not_lt_zero j))
  rw [e1] at q
  exact ⟨_, q⟩
end
