theorem xv_w0 {x : Int32} (h : x < 0 ∨ nI 8 ≤ x) {post : Int32 → Prop} (hp : post 0) : wpX_isWord post x := br_c (fun _ => hp) (fun h1 => by
  rcases h with h | h
  · exact absurd h h1
  · exact br_t h hp)
theorem xv_l0 {x : Int32} (h : x < 0 ∨ nI 11 ≤ x) {post : Int32 → Prop} (hp : post 0) : wpX_isLimit post x := br_c (fun _ => hp) (fun h1 => by
  rcases h with h | h
  · exact absurd h h1
  · exact br_t (Int32.lt_of_lt_of_le (show (10 : Int32) < nI 11 by decide) h) hp)
theorem xv_l1 {t : Nat} (h : t < 11) {post : Int32 → Prop} (hp : post 1) : wpX_isLimit post (nI t) := br_f (nI_pos (by omega)) (br_f (nI_nlt (a := 10) (by omega) (by decide)) hp)
theorem xv_h0 {x : Int32} (h : x < 0 ∨ nI 4 ≤ x) {post : Int32 → Prop} (hp : post 0) : wpX_isWatch post x := br_c (fun _ => hp) (fun h1 => by
  rcases h with h | h
  · exact absurd h h1
  · exact br_t h hp)
theorem xv_h1 {t : Nat} (h : t < 4) {post : Int32 → Prop} (hp : post 1) : wpX_isWatch post (nI t) := br_f (nI_pos (by omega)) (br_f (nI_ge (b := 4) h (by decide)) hp)
theorem yv_0 {x : Int32} {n : Nat} (h : x < 0 ∨ nI (n + 1) ≤ x) (hn : n + 1 < 2 ^ 31) {post : Int32 → Prop} (hp : post 0) : wpY_within post x 0 (nI n) := yw_in0 (by
  rcases h with h | h
  · exact Or.inl h
  · exact Or.inr (Int32.lt_of_lt_of_le (nI_lt (Nat.lt_succ_self n) hn) h)) hp
theorem yv_1 {t n : Nat} (h : t ≤ n) (hn : n < 2 ^ 31) {post : Int32 → Prop} (hp : post 1) : wpY_within post (nI t) 0 (nI n) := yw_in1 (nI_pos (by omega)) (nI_nlt h (by omega)) hp
theorem sr_slot {N : Nat → Int32} {dc : Nat} {x r : Int32} (h : sd_F N dc x r) : r = -1 ∨ ∃ d, d < dc ∧ r = nI d := by
  rcases h with h | ⟨d, h1, h2, _⟩
  · exact Or.inl h.1
  · exact Or.inr ⟨d, h1, h2⟩
theorem sx_mm : ((-1 : Int32) = -1) := rfl
theorem i_vc_word {k : Nat} {u : SX} {v : SY} (I : i_Rel k u v) (hk : k + 3 ≤ 1536) (v1 : Int32) : wpX_word (fun r u' => wpY_word (fun r' v' => r' = r ∧ i_Rel (k + 3) u' v') v v1) u v1 := by
  have I3 := i_up I
  obtain ⟨dc, m, sg, pt, hc, q, W, D, fsc, fsl, aV, aPT, aPQ, aLQ, aI, aM, aC, aW, aB, aG, aHN, aHS, aHR, aSH, aWQ, aWL, aNN, aNC, bV, bTK, bLN, bKD, bSP, bWT, bIS, bMA, bKN, bSH, bIH, bSC, bKS, bHS, rfl, rfl, hA⟩ := I
  obtain ⟨hm, hpt, hPT, ⟨hD, hT, ⟨st, hI, hst3⟩, hV⟩, hQ, hW, hN, hK, hS⟩ := hA
  unfold wpX_word
  rcases pk_ix v1 (n := 8) (by decide) with h | h | ⟨t, ht, rfl⟩
  · refine xv_w0 (Or.inl h) (br_t rfl ?_)
    unfold wpY_word
    exact yv_0 (n := 7) (Or.inl h) (by decide) (br_t rfl ⟨rfl, I3⟩)
  · refine xv_w0 (Or.inr h) (br_t rfl ?_)
    unfold wpY_word
    exact yv_0 (n := 7) (Or.inr h) (by decide) (br_t rfl ⟨rfl, I3⟩)
  · refine xj_w1 ht (br_f (by decide) ?_)
    unfold wpY_word
    rcases Nat.lt_or_ge pt 12 with h | h
    · refine br_t (nI_lt (b := 12) h (by decide)) ⟨vp_in_nI h (by decide), ?_⟩
      rw [nI_clamp (n := pt) (by omega)]
      refine nm_e (nm_r (nI_1 _) ?_)
      refine yv_1 (n := 7) (by omega) (by decide) (br_f (by decide) (br_f (fun z => by have := (nI_eq (b := 12) (by omega) (by decide)).mp z; omega) (nm_r (nI_1 _) ⟨vp_in_nI h (by decide), nm_r (by rw [nI_clamp (n := pt) (by omega)]) ⟨rfl, sr_mk (W := W) ⟨by omega, by omega, ?_, ⟨hD, hT, ⟨st, hI, hst3⟩, hV⟩, hQ, hW, hN, hK, hS⟩⟩⟩)))
      exact sd_upd_all (Q := fun x => ∃ n, n < 8 ∧ x = nI n) hPT ⟨t, ht, rfl⟩
    · obtain rfl : pt = 12 := by omega
      exact br_f (nI_nlt (b := 12) h (by decide)) (yv_1 (n := 7) (by omega) (by decide) (br_f (by decide) (br_t rfl ⟨rfl, I3⟩)))
theorem i_vc_hit {k : Nat} {u : SX} {v : SY} (I : i_Rel k u v) (hk : k + 3 ≤ 1536) (v1 : Int32) (v2 : Int32) : wpX_hit (fun r => wpY_hit (fun r' => r' = r ∧ i_Rel (k + 3) u v) v v1 v2) u v1 v2 := by
  have I3 := i_up I
  obtain ⟨dc, m, sg, pt, hc, q, W, D, fsc, fsl, aV, aPT, aPQ, aLQ, aI, aM, aC, aW, aB, aG, aHN, aHS, aHR, aSH, aWQ, aWL, aNN, aNC, bV, bTK, bLN, bKD, bSP, bWT, bIS, bMA, bKN, bSH, bIH, bSC, bKS, bHS, rfl, rfl, hA⟩ := I
  obtain ⟨hm, hpt, hPT, ⟨hD, hT, ⟨st, hI, hst3⟩, hV⟩, hQ, hW, hN, hK, hS⟩ := hA
  unfold wpX_hit wpY_hit
  rcases pk_ix v1 (n := hc) (by have := hK.1; omega) with h | h | ⟨p, hp, rfl⟩
  · exact br_t h (br_t h ⟨rfl, I3⟩)
  · have h0 : ¬ v1 < 0 := fun z => absurd (Int32.lt_of_le_of_lt h z) (nI_pos (by have := hK.1; omega))
    exact br_f h0 (br_f (Int32.not_lt.mpr h) (br_f h0 (br_t h ⟨rfl, I3⟩)))
  · obtain ⟨h10, hKp⟩ := hK
    obtain ⟨e1, e2⟩ := hKp p hp
    have h0 : ¬ nI p < 0 := nI_pos (by omega)
    have hv : vp_in (nI p) 10 := vp_in_nI (by omega) (by omega)
    have ep : (nI p).toNatClampNeg = p := nI_clamp (by omega)
    refine br_f h0 (br_t (nI_lt hp (by omega)) ?_)
    have hY : ¬ nI hc ≤ nI p := nI_ge hp (by omega)
    rcases pk_ix v2 (n := 2) (by decide) with h | h | ⟨w, hw, rfl⟩
    · refine br_f (fun z => by rw [z] at h; exact absurd h (by decide)) (br_f (fun z => by rw [z] at h; exact absurd h (by decide)) (br_f h0 (br_f hY (yv_0 (n := 1) (Or.inl h) (by decide) (br_t rfl ⟨rfl, I3⟩)))))
    · refine br_f (fun z => by rw [z] at h; exact absurd h (by decide)) (br_f (fun z => by rw [z] at h; exact absurd h (by decide)) (br_f h0 (br_f hY (yv_0 (n := 1) (Or.inr h) (by decide) (br_t rfl ⟨rfl, I3⟩)))))
    · obtain rfl | rfl : w = 0 ∨ w = 1 := by omega
      · refine br_t rfl ⟨hv, br_f h0 (br_f hY (yv_1 (n := 1) (by omega) (by decide) (br_f (by decide) (br_t rfl ⟨hv, ?_, I3⟩))))⟩
        rw [ep, e1]
      · refine br_f (by decide) (br_t rfl ⟨hv, br_f h0 (br_f hY (yv_1 (n := 1) (by omega) (by decide) (br_f (by decide) (br_f (by decide) ⟨hv, ?_, I3⟩))))⟩)
        rw [ep, e2]
theorem i_vc_share {k : Nat} {u : SX} {v : SY} (I : i_Rel k u v) (hk : k + 3 ≤ 1536) (v1 : Int32) : wpX_share (fun r => wpY_share (fun r' => r' = r ∧ i_Rel (k + 3) u v) v v1) u v1 := by
  have I3 := i_up I
  obtain ⟨dc, m, sg, pt, hc, q, W, D, fsc, fsl, aV, aPT, aPQ, aLQ, aI, aM, aC, aW, aB, aG, aHN, aHS, aHR, aSH, aWQ, aWL, aNN, aNC, bV, bTK, bLN, bKD, bSP, bWT, bIS, bMA, bKN, bSH, bIH, bSC, bKS, bHS, rfl, rfl, hA⟩ := I
  obtain ⟨hm, hpt, hPT, ⟨hD, hT, ⟨st, hI, hst3⟩, hV⟩, hQ, hW, hN, hK, hS⟩ := hA
  unfold wpX_share wpY_share
  rcases pk_ix v1 (n := 10) (by decide) with h | h | ⟨p, hp, rfl⟩
  · exact br_t h (yv_0 (n := 9) (Or.inl h) (by decide) (br_t rfl ⟨rfl, I3⟩))
  · have h0 : ¬ v1 < 0 := fun z => absurd (Int32.lt_of_le_of_lt h z) (by decide)
    exact br_f h0 (br_f (Int32.not_lt.mpr h) (yv_0 (n := 9) (Or.inr h) (by decide) (br_t rfl ⟨rfl, I3⟩)))
  · have hv : vp_in (nI p) 10 := vp_in_nI (by omega) (by omega)
    refine br_f (nI_pos (by omega)) (br_t (nI_lt (b := 10) hp (by decide)) ⟨hv, yv_1 (n := 9) (by omega) (by decide) (br_f (by decide) ⟨hv, ?_, I3⟩)⟩)
    rw [nI_clamp (by omega)]
    exact (hS p hp).symm
theorem i_vc_at {k : Nat} {u : SX} {v : SY} (I : i_Rel k u v) (hk : k + 3 ≤ 1536) (v1 : Int32) (v2 : Int32) : wpX_at (fun r => wpY_at (fun r' => r' = r ∧ i_Rel (k + 3) u v) v v1 v2) u v1 v2 := by
  have I3 := i_up I
  obtain ⟨dc, m, sg, pt, hc, q, W, D, fsc, fsl, aV, aPT, aPQ, aLQ, aI, aM, aC, aW, aB, aG, aHN, aHS, aHR, aSH, aWQ, aWL, aNN, aNC, bV, bTK, bLN, bKD, bSP, bWT, bIS, bMA, bKN, bSH, bIH, bSC, bKS, bHS, rfl, rfl, hA⟩ := I
  obtain ⟨hm, hpt, hPT, ⟨hD, hT, ⟨st, hI, hst3⟩, hV⟩, hQ, hW, hN, hK, hS⟩ := hA
  obtain ⟨r, hF⟩ := sd_F_ex D.1 v1 dc
  have h32 := hI.2.1
  have hL := sd_ok_L hD
  unfold wpX_at
  refine xr_slotOf h32 hF ?_
  unfold wpY_at
  rcases sr_slot hF with rfl | ⟨d, hd, rfl⟩
  · refine br_t rfl ?_
    refine yr_find h32 hF ?_
    exact br_t sx_m0 ⟨rfl, I3⟩
  · have hv : vp_in (nI d) 32 := vp_in_nI (by omega) (by omega)
    have ed : (nI d).toNatClampNeg = d := nI_clamp (by omega)
    obtain ⟨hl1, hl2⟩ := hL d
    refine br_f (sx_nm (by omega)) ?_
    have hr0 : ¬ nI d < 0 := nI_pos (by omega)
    rcases pk_ix v2 (n := sd_n D.2.2.1 d) (by omega) with h | h | ⟨i, hi, rfl⟩
    · refine br_t h ?_
      refine yr_find h32 hF ?_
      exact br_f hr0 (br_t h ⟨rfl, I3⟩)
    · have h0 : ¬ v2 < 0 := fun z => absurd (Int32.lt_of_le_of_lt h z) (nI_pos (by omega))
      have hc : ¬ v2 < D.2.2.1 (nI d).toNatClampNeg := by rw [ed, hl1]; exact Int32.not_lt.mpr h
      refine br_f h0 ⟨hv, br_f hc ?_⟩
      refine yr_find h32 hF ?_
      exact br_f hr0 (br_f h0 ⟨hv, br_f hc ⟨rfl, I3⟩⟩)
    · have h0 : ¬ nI i < 0 := nI_pos (by omega)
      have hc : nI i < D.2.2.1 (nI d).toNatClampNeg := by rw [ed, hl1]; exact nI_lt hi (by omega)
      refine br_f h0 ⟨hv, br_t hc ⟨by rw [sx_ix]; exact vp_in_nI (by omega) (by omega), ?_⟩⟩
      refine yr_find h32 hF ?_
      refine br_f hr0 (br_f h0 ⟨hv, br_t hc ⟨by rw [sy_ix]; exact vp_in_nI (by omega) (by omega), ?_, I3⟩⟩)
      rw [sx_ix, sy_ix]
theorem i_vc_about {k : Nat} {u : SX} {v : SY} (I : i_Rel k u v) (hk : k + 3 ≤ 1536) (v1 : Int32) (v2 : Int32) : wpX_about (fun r => wpY_about (fun r' => r' = r ∧ i_Rel (k + 3) u v) v v1 v2) u v1 v2 := by
  have I3 := i_up I
  obtain ⟨dc, m, sg, pt, hc, q, W, D, fsc, fsl, aV, aPT, aPQ, aLQ, aI, aM, aC, aW, aB, aG, aHN, aHS, aHR, aSH, aWQ, aWL, aNN, aNC, bV, bTK, bLN, bKD, bSP, bWT, bIS, bMA, bKN, bSH, bIH, bSC, bKS, bHS, rfl, rfl, hA⟩ := I
  obtain ⟨hm, hpt, hPT, ⟨hD, hT, ⟨st, hI, hst3⟩, hV⟩, hQ, hW, hN, hK, hS⟩ := hA
  obtain ⟨r, hF⟩ := sd_F_ex D.1 v1 dc
  have h32 := hI.2.1
  unfold wpX_about
  refine xr_slotOf h32 hF ?_
  unfold wpY_about
  rcases sr_slot hF with rfl | ⟨d, hd, rfl⟩
  · refine br_t rfl ?_
    refine yr_find h32 hF ?_
    exact br_t sx_m0 ⟨rfl, I3⟩
  · have hv : vp_in (nI d) 32 := vp_in_nI (by omega) (by omega)
    refine br_f (sx_nm (by omega)) ?_
    have hr0 : ¬ nI d < 0 := nI_pos (by omega)
    rcases pk_ix v2 (n := 3) (by omega) with h | h | ⟨i, hi, rfl⟩
    · refine br_t h ?_
      refine yr_find h32 hF ?_
      exact br_f hr0 (yv_0 (n := 2) (Or.inl h) (by decide) (br_t rfl ⟨rfl, I3⟩))
    · have h0 : ¬ v2 < 0 := fun z => absurd (Int32.lt_of_le_of_lt h z) (nI_pos (by omega))
      refine br_f h0 (br_t (Int32.lt_of_lt_of_le (show (2 : Int32) < nI 3 by decide) h) ?_)
      refine yr_find h32 hF ?_
      exact br_f hr0 (yv_0 (n := 2) (Or.inr h) (by decide) (br_t rfl ⟨rfl, I3⟩))
    · refine br_f (nI_pos (by omega)) (br_f (nI_nlt (a := 2) (by omega) (by decide)) ?_)
      obtain rfl | rfl | rfl : i = 0 ∨ i = 1 ∨ i = 2 := by omega
      · refine br_t rfl ⟨hv, ?_⟩
        refine yr_find h32 hF ?_
        exact br_f hr0 (yv_1 (n := 2) (by omega) (by decide) (br_f (by decide) (br_t rfl ⟨hv, rfl, I3⟩)))
      · refine br_f (by decide) (br_t rfl ⟨hv, ?_⟩)
        refine yr_find h32 hF ?_
        exact br_f hr0 (yv_1 (n := 2) (by omega) (by decide) (br_f (by decide) (br_f (by decide) (br_t rfl ⟨hv, rfl, I3⟩))))
      · refine br_f (by decide) (br_f (by decide) (br_t rfl ⟨hv, ?_⟩))
        refine yr_find h32 hF ?_
        exact br_f hr0 (yv_1 (n := 2) (by omega) (by decide) (br_f (by decide) (br_f (by decide) (br_f (by decide) ⟨hv, rfl, I3⟩))))
theorem i_vc_next {k : Nat} {u : SX} {v : SY} (I : i_Rel k u v) (hk : k + 3 ≤ 1536) (v1 : Int32) : wpX_next (fun r u' => wpY_next (fun r' v' => r' = r ∧ i_Rel (k + 3) u' v') v v1) u v1 := by
  have I3 := i_up I
  obtain ⟨dc, m, sg, pt, hc, q, W, D, fsc, fsl, aV, aPT, aPQ, aLQ, aI, aM, aC, aW, aB, aG, aHN, aHS, aHR, aSH, aWQ, aWL, aNN, aNC, bV, bTK, bLN, bKD, bSP, bWT, bIS, bMA, bKN, bSH, bIH, bSC, bKS, bHS, rfl, rfl, hA⟩ := I
  obtain ⟨hm, hpt, hPT, ⟨hD, hT, ⟨st, hI, hst3⟩, hV⟩, hQ, hW, hN, hK, hS⟩ := hA
  unfold wpX_next
  rcases pk_ix v1 (n := 4) (by decide) with h | h | ⟨w, hw, rfl⟩
  · refine xv_h0 (Or.inl h) (br_t rfl ?_)
    unfold wpY_next
    exact yv_0 (n := 3) (Or.inl h) (by decide) (br_t rfl ⟨rfl, I3⟩)
  · refine xv_h0 (Or.inr h) (br_t rfl ?_)
    unfold wpY_next
    exact yv_0 (n := 3) (Or.inr h) (by decide) (br_t rfl ⟨rfl, I3⟩)
  · have hv : vp_in (nI w) 4 := vp_in_nI hw (by decide)
    have ew : (nI w).toNatClampNeg = w := nI_clamp (by omega)
    obtain ⟨hc1, hc8⟩ := sr_N_n hN hw
    refine xv_h1 hw (br_f (by decide) ⟨hv, ?_⟩)
    unfold wpY_next
    rw [ew, hc1]
    rcases Nat.eq_zero_or_pos (sd_n aNC w) with h | h
    · refine br_t (by rw [h]; rfl) ?_
      refine yv_1 (n := 3) (by omega) (by decide) (br_f (by decide) ⟨hv, ?_⟩)
      exact br_t (by rw [hc1, h]; rfl) ⟨rfl, I3⟩
    · rw [sx_8, sy_8, nI_clamp (n := 8 * w) (by omega)]
      refine br_f (nI_ne0 h (by omega)) ⟨vp_in_nI (by omega) (by omega), nm_e ?_⟩
      refine xn_drop hw hc1 h hc8 ?_
      refine yv_1 (n := 3) (by omega) (by decide) (br_f (by decide) ⟨hv, br_f (by rw [hc1]; exact nI_ne0 h (by omega)) ⟨vp_in_nI (by omega) (by omega), nm_e ?_⟩⟩)
      refine yn_drop hw hc1 h hc8 ?_
      exact ⟨rfl, sr_mk (W := W) ⟨by omega, hpt, hPT, ⟨hD, hT, ⟨st, hI, hst3⟩, hV⟩, hQ, hW, sr_N_upd hN (by omega), hK, hS⟩⟩
