/-! what is owed, the questions -/
section
variable {k : Nat} {w : Nat → Int32} {u : SX}
theorem hb_rel (hX : hb_XR w u) {rd cn ba : Int32} {cd mn fe : Nat → Int32} (h : hb_YL w cn ba cd) : i_Rel k u (rd, cn, ba, w, cd, mn, fe) := ⟨w, hX, hb_yr (fun _ => h)⟩
end
theorem i_vc_isLeast {k : Nat} {u : SX} {v : SY} (I : i_Rel k u v) (hk : k + 3 ≤ 1536) (v1 : Int32) : wpX_isLeast (fun r => wpY_isLeast (fun r' v' => r' = r ∧ i_Rel (k + 3) u v') v v1) u v1 := by
  have I2 : i_Rel (k + 3) u v := I
  obtain ⟨w, hX, rd, cn, ba, cd, mn, fe, rfl, hY⟩ := I
  have hX' := hX
  obtain ⟨bl, ll, fw, ws, rfl, hl, hT⟩ := hX
  have hm := hb_few' w
  unfold wpX_isLeast wpY_isLeast
  dsimp only
  refine hb_good (fun h => br_t rfl (hb_badY h (br_f (by decide) ⟨rfl, I2⟩))) ?_
  rintro c hc rfl
  refine br_f (by decide) ⟨_, hx_il_11 hm hc (hb_gi hl) (fun hj => ?_) (fun hj => ?_) _ 0 (Nat.zero_add _) (fun j h => absurd h (Nat.not_lt_zero j))⟩
  · refine hb_goodY hc (br_t rfl (hy_wk hY ?_))
    rintro rd cn ba cd h0 ⟨rfl, rfl, hc2⟩
    exact ⟨_, hy_il_16 hm hc (hb_gi hc2) (fun _ => ⟨rfl, hb_rel hX' ⟨rfl, rfl, hc2⟩⟩) (fun z => hj.elim (fun j h => absurd h.2 (z j h.1))) _ 0 (Nat.zero_add _) (fun j h => absurd h (Nat.not_lt_zero j))⟩
  · refine hb_goodY hc (br_t rfl (hy_wk hY ?_))
    rintro rd cn ba cd h0 ⟨rfl, rfl, hc2⟩
    exact ⟨_, hy_il_16 hm hc (hb_gi hc2) (fun z => z.elim (fun j h => absurd h.2 (hj j h.1))) (fun _ => ⟨rfl, hb_rel hX' ⟨rfl, rfl, hc2⟩⟩) _ 0 (Nat.zero_add _) (fun j h => absurd h (Nat.not_lt_zero j))⟩
theorem i_vc_least {k : Nat} {u : SX} {v : SY} (I : i_Rel k u v) (hk : k + 3 ≤ 1536) : wpX_least (fun r => wpY_least (fun r' v' => r' = r ∧ i_Rel (k + 3) u v') v) u := by
  obtain ⟨w, hX, rd, cn, ba, cd, mn, fe, rfl, hY⟩ := I
  have hX' := hX
  obtain ⟨bl, ll, fw, ws, rfl, hl, hT⟩ := hX
  unfold wpX_least wpY_least
  dsimp only
  refine hy_wk hY ?_
  rintro rd cn ba cd h0 ⟨rfl, rfl, hc2⟩
  exact ⟨rfl, hb_rel hX' ⟨rfl, rfl, hc2⟩⟩
theorem i_vc_small {k : Nat} {u : SX} {v : SY} (I : i_Rel k u v) (hk : k + 3 ≤ 1536) : wpX_small (fun r => wpY_small (fun r' v' => r' = r ∧ i_Rel (k + 3) u v') v) u := by
  obtain ⟨w, hX, rd, cn, ba, cd, mn, fe, rfl, hY⟩ := I
  have hX' := hX
  obtain ⟨bl, ll, fw, ws, rfl, hl, hT⟩ := hX
  unfold wpX_small wpY_small
  dsimp only
  refine hy_wk hY ?_
  rintro rd cn ba cd h0 ⟨rfl, rfl, hc2⟩
  exact ⟨rfl, hb_rel hX' ⟨rfl, rfl, hc2⟩⟩
theorem i_vc_code {k : Nat} {u : SX} {v : SY} (I : i_Rel k u v) (hk : k + 3 ≤ 1536) (v1 : Int32) : wpX_code (fun r => wpY_code (fun r' v' => r' = r ∧ i_Rel (k + 3) u v') v v1) u v1 := by
  obtain ⟨w, hX, rd, cn, ba, cd, mn, fe, rfl, hY⟩ := I
  have hX' := hX
  obtain ⟨bl, ll, fw, ws, rfl, hl, hT⟩ := hX
  have hm := hb_few' w
  unfold wpX_code wpY_code
  dsimp only
  rcases pk_ix v1 (n := (hb_S w 16807).1) (by omega) with h | h | ⟨j, hj, rfl⟩
  · refine br_t h (hy_wk hY ?_)
    rintro rd cn ba cd h0 ⟨rfl, rfl, hc2⟩
    exact br_t h ⟨rfl, hb_rel hX' ⟨rfl, rfl, hc2⟩⟩
  · have z0 : ¬ v1 < 0 := fun z => by
      have := Int32.lt_of_le_of_lt h z
      exact absurd this (nI_pos (by omega))
    refine br_f z0 (br_t h (hy_wk hY ?_))
    rintro rd cn ba cd h0 ⟨rfl, rfl, hc2⟩
    exact br_f z0 (br_t h ⟨rfl, hb_rel hX' ⟨rfl, rfl, hc2⟩⟩)
  · have z0 : ¬ nI j < 0 := nI_pos (by omega)
    have z1 : ¬ nI (hb_S w 16807).1 ≤ nI j := nI_ge hj (by omega)
    refine br_f z0 (br_f z1 ⟨vp_in_nI (by omega) (by decide), hy_wk hY ?_⟩)
    rintro rd cn ba cd h0 ⟨rfl, rfl, hc2⟩
    refine br_f z0 (br_f z1 (br_t (nI_le (b := 1999) (by omega) (by decide)) ⟨vp_in_nI (by omega) (by decide), ?_, hb_rel hX' ⟨rfl, rfl, hc2⟩⟩))
    rw [nI_clamp (by omega)]
    exact (hc2 j hj).trans (hl j hj).symm
theorem i_vc_using {k : Nat} {u : SX} {v : SY} (I : i_Rel k u v) (hk : k + 3 ≤ 1536) (v1 : Int32) : wpX_using (fun r => wpY_using (fun r' v' => r' = r ∧ i_Rel (k + 3) u v') v v1) u v1 := by
  have I2 : i_Rel (k + 3) u v := I
  obtain ⟨w, hX, rd, cn, ba, cd, mn, fe, rfl, hY⟩ := I
  have hX' := hX
  obtain ⟨bl, ll, fw, ws, rfl, hl, hT⟩ := hX
  have hm := hb_few' w
  unfold wpX_using wpX_isGoodWeight wpY_using
  dsimp only
  rcases pk_ix v1 (n := 5) (by decide) with h | h | ⟨j, hj, rfl⟩
  · exact br_t h (br_t rfl (br_t h ⟨rfl, I2⟩))
  · have h0 : ¬ v1 < 0 := fun z => absurd (Int32.lt_of_le_of_lt h z) (by decide)
    have h4 : ¬ v1 ≤ 4 := fun z => absurd (Int32.le_trans h z) (by decide)
    exact br_f h0 (br_t h (br_t rfl (br_f h0 (br_f h4 ⟨rfl, I2⟩))))
  · have h0 : ¬ nI j < 0 := nI_pos (by omega)
    have h5 : ¬ (5 : Int32) ≤ nI j := nI_ge (b := 5) hj (by decide)
    have h4 : nI j ≤ 4 := nI_le (b := 4) (by omega) (by decide)
    refine br_f h0 (br_f h5 (br_f (by decide) ⟨_, hx_us_13 hm hj (hb_gi hl) (br_f h0 (br_t h4 (hy_wk hY ?_))) _ 0 (Nat.zero_add _)⟩))
    rintro rd cn ba cd h0 ⟨rfl, rfl, hc2⟩
    exact ⟨_, hy_us_19 hm hj (hb_gi hc2) ⟨rfl, hb_rel hX' ⟨rfl, rfl, hc2⟩⟩ _ 0 (Nat.zero_add _)⟩
theorem i_vc_longest {k : Nat} {u : SX} {v : SY} (I : i_Rel k u v) (hk : k + 3 ≤ 1536) : wpX_longest (fun r => wpY_longest (fun r' v' => r' = r ∧ i_Rel (k + 3) u v') v) u := by
  obtain ⟨w, hX, rd, cn, ba, cd, mn, fe, rfl, hY⟩ := I
  have hX' := hX
  obtain ⟨bl, ll, fw, ws, rfl, hl, hT⟩ := hX
  have hm := hb_few' w
  unfold wpX_longest wpY_longest
  dsimp only
  refine ⟨_, hx_lo_4 hm (hb_gi hl) (hy_wk hY ?_) _ 0 (Nat.zero_add _)⟩
  rintro rd cn ba cd h0 ⟨rfl, rfl, hc2⟩
  exact ⟨_, hy_lo_8 hm (hb_gi hc2) ⟨rfl, hb_rel hX' ⟨rfl, rfl, hc2⟩⟩ _ 0 (Nat.zero_add _)⟩
theorem i_vc_balances {k : Nat} {u : SX} {v : SY} (I : i_Rel k u v) (hk : k + 3 ≤ 1536) (v1 : Int32) : wpX_balances (fun r => wpY_balances (fun r' => r' = r ∧ i_Rel (k + 3) u v) v v1) u v1 := by
  have I2 : i_Rel (k + 3) u v := I
  obtain ⟨w, hX, rd, cn, ba, cd, mn, fe, rfl, hY⟩ := I
  obtain ⟨bl, ll, fw, ws, rfl, hl, hT⟩ := hX
  unfold wpX_balances wpY_balances
  dsimp only
  rcases pk_ix v1 (n := 21) (by decide) with h | h | ⟨j, hj, rfl⟩
  · exact br_t h (br_t h ⟨rfl, I2⟩)
  · have h0 : ¬ v1 < 0 := fun z => absurd (Int32.lt_of_le_of_lt h z) (by decide)
    have h4 : ¬ v1 ≤ 20 := fun z => absurd (Int32.le_trans h z) (by decide)
    exact br_f h0 (br_f h4 (br_f h0 (br_f h4 ⟨rfl, I2⟩)))
  · have h0 : ¬ nI j < 0 := nI_pos (by omega)
    have h4 : nI j ≤ 20 := nI_le (b := 20) (by omega) (by decide)
    exact br_f h0 (br_t h4 ⟨_, hx_ba_16 (by omega) (br_f h0 (br_t h4 ⟨_, hy_ba_16 (by omega) ⟨rfl, I2⟩ _ 0 (Nat.zero_add _)⟩)) _ 0 (Nat.zero_add _)⟩)
theorem i_vc_inside {k : Nat} {u : SX} {v : SY} (I : i_Rel k u v) (hk : k + 3 ≤ 1536) (v1 : Int32) : wpX_inside (fun r => wpY_inside (fun r' v' => r' = r ∧ i_Rel (k + 3) u v') v v1) u v1 := by
  have I2 : i_Rel (k + 3) u v := I
  obtain ⟨w, hX, rd, cn, ba, cd, mn, fe, rfl, hY⟩ := I
  have hX' := hX
  obtain ⟨bl, ll, fw, ws, rfl, hl, hT⟩ := hX
  have hm := hb_few' w
  unfold wpX_inside wpY_inside
  dsimp only
  refine hb_good (fun h => br_t rfl (hb_badY h (br_f (by decide) ⟨rfl, I2⟩))) ?_
  rintro c hc rfl
  refine br_f (by decide) (hx_flp (g := (hb_S w 16807).2) (by omega) hc (hb_gi hl) (fun j hj p hi => ?_) (fun hn => ?_))
  · refine hb_goodY hc (br_t rfl (hy_wk hY ?_))
    rintro rd cn ba cd h0 ⟨rfl, rfl, hc2⟩
    refine ⟨_, hy_in_16 hm hc (hb_gi hc2) (fun j' hj' p' hi' => ⟨?_, hb_rel hX' ⟨rfl, rfl, hc2⟩⟩) (fun z => absurd p (z j hj)) _ 0 (Nat.zero_add _) (fun j h => absurd h (Nat.not_lt_zero j))⟩
    have e : j' = j := by
      by_cases z : j' < j
      · exact absurd p' (hi j' z)
      · by_cases z2 : j < j'
        · exact absurd p (hi' j z2)
        · omega
    rw [e]
  · refine hb_goodY hc (br_t rfl (hy_wk hY ?_))
    rintro rd cn ba cd h0 ⟨rfl, rfl, hc2⟩
    exact ⟨_, hy_in_16 hm hc (hb_gi hc2) (fun j' hj' p' hi' => absurd p' (hn j' hj')) (fun _ => ⟨rfl, hb_rel hX' ⟨rfl, rfl, hc2⟩⟩) _ 0 (Nat.zero_add _) (fun j h => absurd h (Nat.not_lt_zero j))⟩
/-- what the reference's tables hold at the row itself -/
theorem hb_U_end {w : Nat → Int32} {c : Nat} {mn fe : Nat → Int32} (hc : c < 16807) (hB : hb_B w c = true) (h : hb_U (hb_S w 16807).2 (hb_S w 16807).1 c mn fe) : mn c = hb_M (hb_S w 16807).2 (hb_S w 16807).1 c ∧ fe c = nI (hb_F (hb_S w 16807).2 (hb_S w 16807).1 c) := by
  obtain ⟨r, hr, er⟩ := hb_un_onto 5 c c (by rw [hb_75]; exact hc) (hb_pt_refl 5 c)
  obtain ⟨h1, h2⟩ := h r hr
  rw [er] at h1 h2
  refine ⟨h1, ?_⟩
  rw [h2]
  have k1 := hb_k_e (hb_F (hb_S w 16807).2 (hb_S w 16807).1 c)
  have k2 := hb_F_end w hc hB
  exact congrArg nI (by omega)
theorem hb_gi3 {w : Nat → Int32} {a : Nat → Int32} (h : ∀ j, j < (hb_S w 16807).1 → a j = nI ((hb_S w 16807).2 j)) : ∀ j, j < (hb_S w 16807).1 → a j = nI ((hb_S w 16807).2 j) ∧ 0 < (hb_S w 16807).2 j ∧ (hb_S w 16807).2 j < 16807 := fun j hj => ⟨h j hj, ((hb_S_i w 16807).1 j hj).1, ((hb_S_i w 16807).1 j hj).2.1⟩
theorem i_vc_fewest {k : Nat} {u : SX} {v : SY} (I : i_Rel k u v) (hk : k + 3 ≤ 1536) (v1 : Int32) : wpX_fewest (fun r => wpY_fewest (fun r' v' => r' = r ∧ i_Rel (k + 3) u v') v v1) u v1 := by
  have I2 : i_Rel (k + 3) u v := I
  obtain ⟨w, hX, rd, cn, ba, cd, mn, fe, rfl, hY⟩ := I
  have hX' := hX
  obtain ⟨bl, ll, fw, ws, rfl, hl, hT⟩ := hX
  have hm := hb_few' w
  unfold wpX_fewest wpY_fewest
  dsimp only
  refine hb_good (fun h => br_t rfl (hb_badY h (br_f (by decide) ⟨rfl, I2⟩))) ?_
  rintro c hc rfl
  have vc : vp_in (nI c) 16807 := vp_in_nI hc (by decide)
  refine br_f (by decide) (hx_tiltB hc (fun hB => br_t rfl ⟨vc, hb_goodY hc (br_t rfl (hy_bal hc (fun _ => br_f (by decide) (hy_wk hY ?_)) (fun z => absurd hB z)))⟩) (fun hB r hr => br_f hr (hb_goodY hc (br_t rfl (hy_bal hc (fun z => absurd z hB) (fun _ => br_t rfl ⟨rfl, I2⟩))))))
  rintro rd cn ba cd h0 ⟨rfl, rfl, hc2⟩
  refine hy_su hm hc (hb_gi3 hc2) ?_
  intro mn' fe' hU
  refine ⟨vc, ?_, hb_rel hX' ⟨rfl, rfl, hc2⟩⟩
  rw [nI_clamp (by omega)]
  exact (hb_U_end hc hB hU).2.trans (hT c hc hB).1.symm
theorem i_vc_ways {k : Nat} {u : SX} {v : SY} (I : i_Rel k u v) (hk : k + 3 ≤ 1536) (v1 : Int32) : wpX_ways (fun r => wpY_ways (fun r' v' => r' = r ∧ i_Rel (k + 3) u v') v v1) u v1 := by
  have I2 : i_Rel (k + 3) u v := I
  obtain ⟨w, hX, rd, cn, ba, cd, mn, fe, rfl, hY⟩ := I
  have hX' := hX
  obtain ⟨bl, ll, fw, ws, rfl, hl, hT⟩ := hX
  have hm := hb_few' w
  unfold wpX_ways wpY_ways
  dsimp only
  refine hb_good (fun h => br_t rfl (hb_badY h (br_f (by decide) ⟨rfl, I2⟩))) ?_
  rintro c hc rfl
  have vc : vp_in (nI c) 16807 := vp_in_nI hc (by decide)
  refine br_f (by decide) (hx_tiltB hc (fun hB => br_t rfl ⟨vc, hb_goodY hc (br_t rfl (hy_bal hc (fun _ => br_f (by decide) (hy_wk hY ?_)) (fun z => absurd hB z)))⟩) (fun hB r hr => br_f hr (hb_goodY hc (br_t rfl (hy_bal hc (fun z => absurd z hB) (fun _ => br_t rfl ⟨rfl, I2⟩))))))
  rintro rd cn ba cd h0 ⟨rfl, rfl, hc2⟩
  refine hy_su hm hc (hb_gi3 hc2) ?_
  intro mn' fe' hU
  refine ⟨vc, ?_, hb_rel hX' ⟨rfl, rfl, hc2⟩⟩
  rw [nI_clamp (by omega)]
  exact (hb_U_end hc hB hU).1.trans (hT c hc hB).2.symm
