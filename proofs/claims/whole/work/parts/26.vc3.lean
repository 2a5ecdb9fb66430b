theorem i_vc_delete {k : Nat} {u : SX} {v : SY} (I : i_Rel k u v) (hk : k + 3 ≤ 1536) (v1 : Int32) : wpX_delete (fun r u' => wpY_delete (fun r' v' => r' = r ∧ i_Rel (k + 3) u' v') v v1) u v1 := by
  have I3 := i_up I
  obtain ⟨dc, m, sg, pt, hc, q, W, D, fsc, fsl, aV, aPT, aPQ, aLQ, aI, aM, aC, aW, aB, aG, aHN, aHS, aHR, aSH, aWQ, aWL, aNN, aNC, bV, bTK, bLN, bKD, bSP, bWT, bIS, bMA, bKN, bSH, bIH, bSC, bKS, bHS, rfl, rfl, hA⟩ := I
  obtain ⟨hm, hpt, hPT, ⟨hD, hT, ⟨st, hI, hst3⟩, hV⟩, hQ, hW, hN, hK, hS⟩ := hA
  obtain ⟨r, hF⟩ := sd_F_ex D.1 v1 dc
  have h32 := hI.2.1
  have hP := sd_I_P hI
  unfold wpX_delete
  refine xr_slotOf h32 hF ?_
  rcases sr_slot hF with rfl | ⟨d, hd, rfl⟩
  · refine br_t rfl ?_
    unfold wpY_delete
    refine yr_find h32 hF ?_
    exact br_t sx_m0 ⟨rfl, I3⟩
  · have hv : vp_in (nI d) 32 := vp_in_nI (by omega) (by omega)
    have ed : (nI d).toNatClampNeg = d := nI_clamp (by omega)
    have hr0 : ¬ nI d < 0 := nI_pos (by omega)
    refine br_f (sx_nm (by omega)) ⟨hv, ?_⟩
    rw [ed]
    by_cases hx : D.2.2.2.2.2 d = 0
    · refine br_t hx ⟨hv, ?_⟩
      rcases Nat.lt_or_ge d st with hds | hds
      · obtain ⟨c, hc, ec⟩ := hP.2.2.1 d hds
        refine br_f (by rw [ec]; exact sx_nm hc) ⟨hv, nm_r (by rw [sx_nb (Or.inr rfl)]) ?_⟩
        unfold wpY_delete
        refine yr_find h32 hF ?_
        refine br_f hr0 ⟨hv, ?_⟩
        rw [ed]
        refine br_t hx ⟨hv, br_f (by rw [ec]; exact nI_pos hc) ⟨hv, nm_r (by rw [sx_nb (Or.inr rfl)]) ⟨rfl, sr_mk (W := W) (D := (D.1, D.2.1, D.2.2.1, D.2.2.2.1, D.2.2.2.2.1, upd D.2.2.2.2.2 d 1)) ⟨by omega, hpt, hPT, ⟨⟨hD.1, hD.2.1, hD.2.2.1, ?_⟩, hT, ⟨st, hI, hst3⟩, hV⟩, hQ, hW, hN, hK, hS⟩⟩⟩⟩
        exact sd_upd_all (Q := fun x => x = 0 ∨ x = 1) hD.2.2.2 (Or.inr rfl)
      · have eS := hP.2.2.2 d hds hd
        refine br_t eS ?_
        refine nm_r (nI_1 _) (Exists.intro (dc - (d + 1) + 1) ?_)
        refine xd_remove h32 (dc - (d + 1)) d D (by omega) hD ?_
        unfold wpY_delete
        refine yr_find h32 hF ?_
        refine br_f hr0 ⟨hv, ?_⟩
        rw [ed]
        have e1 : nI dc - 1 = nI (dc - 1) := pk_sub (b := 1) (by omega)
        refine br_t hx ⟨hv, br_t (by rw [eS]; exact sx_m0) (nm_r e1 (Exists.intro (dc - (d + 1) + 1) ?_))⟩
        refine yd_remove (dc := dc - 1) (by omega) (dc - (d + 1)) d D (by omega) hD ?_
        obtain ⟨s1, s2⟩ := sd_rmv_S (dc - (d + 1)) d D st hds
        refine ⟨rfl, sr_mk (W := W) ⟨by omega, hpt, hPT, ⟨sd_rmv_ok _ _ _ hD, sd_rmv_tx _ _ _ hT, ⟨st, ⟨by omega, by omega, fun e he => ?_, fun e a b => ?_, fun c hc => ?_⟩, by omega⟩, hV⟩, hQ, hW, hN, hK, hS⟩⟩
        · rw [s1 e he]; exact hI.2.2.1 e he
        · exact s2 (fun e a b => hP.2.2.2 e a (by omega)) e a (by omega)
        · rw [sg_cn_congr (q := fun j => decide (D.2.2.2.2.1 j < nI c)) st (fun i hi => by show decide ((sd_rmv (dc - (d + 1)) d D).2.2.2.2.1 i < nI c) = _; rw [s1 i hi])]
          exact hI.2.2.2.2 c hc
    · refine br_f hx ?_
      unfold wpY_delete
      refine yr_find h32 hF ?_
      refine br_f hr0 ⟨hv, ?_⟩
      rw [ed]
      exact br_f hx ⟨rfl, I3⟩
theorem i_vc_flush {k : Nat} {u : SX} {v : SY} (I : i_Rel k u v) (hk : k + 3 ≤ 1536) : wpX_flush (fun r u' => wpY_flush (fun r' v' => r' = r ∧ i_Rel (k + 3) u' v') v) u := by
  obtain ⟨dc, m, sg, pt, hc, q, W, D, fsc, fsl, aV, aPT, aPQ, aLQ, aI, aM, aC, aW, aB, aG, aHN, aHS, aHR, aSH, aWQ, aWL, aNN, aNC, bV, bTK, bLN, bKD, bSP, bWT, bIS, bMA, bKN, bSH, bIH, bSC, bKS, bHS, rfl, rfl, hA⟩ := I
  obtain ⟨hm, hpt, hPT, ⟨hD, hT, ⟨st, hI, hst3⟩, hV⟩, hQ, hW, hN, hK, hS⟩ := hA
  obtain ⟨D1, dc1, sg1, V1, NN1, NC1, f1, f2, f3, f4, fX, fY⟩ := v_flush (fnn := nI m) (fpt := nI pt) (fpq := nI q.length) (fsc := fsc) (fsl := fsl) (fhc := nI hc) (aPT := aPT) (aPQ := aPQ) (aLQ := aLQ) (aI := aI) (aM := aM) (aC := aC) (aW := aW) (aB := aB) (aG := aG) (aHN := aHN) (aHS := aHS) (aHR := aHR) (aSH := aSH) (aNN := aNN) (gnn := nI m) (gpt := nI pt) (gkp := nI hc) (bPT := aPT) (bKD := bKD) (bSP := bSP) (bWT := bWT) (bIS := bIS) (bMA := bMA) (bKN := bKN) (bSH := bSH) (bIH := bIH) (bSC := bSC) (bKS := bKS) (bHS := bHS) hD hT hI hV hW hN
  unfold wpX_flush
  refine fX _ ?_
  intro c1 c2 M C V B G
  refine fY _ ?_
  intro V' KD SP WT IS MA SC hV'
  exact ⟨rfl, sr_mk (W := W) ⟨by omega, hpt, hPT, ⟨f1, f2, ⟨dc1, f3, by omega⟩, hV'⟩, hQ, hW, f4, hK, hS⟩⟩
theorem i_vc_settle {k : Nat} {u : SX} {v : SY} (I : i_Rel k u v) (hk : k + 3 ≤ 1536) : wpX_settle (fun r u' => wpY_settle (fun r' v' => r' = r ∧ i_Rel (k + 3) u' v') v) u := by
  obtain ⟨dc, m, sg, pt, hc, q, W, D, fsc, fsl, aV, aPT, aPQ, aLQ, aI, aM, aC, aW, aB, aG, aHN, aHS, aHR, aSH, aWQ, aWL, aNN, aNC, bV, bTK, bLN, bKD, bSP, bWT, bIS, bMA, bKN, bSH, bIH, bSC, bKS, bHS, rfl, rfl, hA⟩ := I
  obtain ⟨hm, hpt, hPT, ⟨hD, hT, ⟨st, hI, hst3⟩, hV⟩, hQ, hW, hN, hK, hS⟩ := hA
  obtain ⟨D1, dc1, sg1, V1, NN1, NC1, f1, f2, f3, f4, fX, fY⟩ := v_flush (fnn := nI m) (fpt := nI pt) (fpq := nI q.length) (fsc := fsc) (fsl := fsl) (fhc := nI hc) (aPT := aPT) (aPQ := aPQ) (aLQ := aLQ) (aI := aI) (aM := aM) (aC := aC) (aW := aW) (aB := aB) (aG := aG) (aHN := aHN) (aHS := aHS) (aHR := aHR) (aSH := aSH) (aNN := aNN) (gnn := nI m) (gpt := nI pt) (gkp := nI hc) (bPT := aPT) (bKD := bKD) (bSP := bSP) (bWT := bWT) (bIS := bIS) (bMA := bMA) (bKN := bKN) (bSH := bSH) (bIH := bIH) (bSC := bSC) (bKS := bKS) (bHS := bHS) hD hT hI hV hW hN
  have hsg := sd_I_sg f3
  have h32 := f3.2.1
  have hall : ∀ j, j < dc1 → ∃ c, c < 2 ^ 31 ∧ D1.2.2.2.2.1 j = nI c := fun j hj => by
    obtain ⟨c, hc, e⟩ := f3.2.2.1 j hj
    exact ⟨c, by omega, e⟩
  obtain ⟨g1, g2, g3, g4, g5⟩ := sd_J_all (D := D1) (f := 0) (by decide) dc1 hall
  have hj := sd_I_join (D := D1) (f := 0) f3 (Nat.zero_le _)
  have hok := sd_ok_jn f1 (nI 0) dc1
  have htx := sd_tx_jn (fr := nI 0) f2 dc1
  -- with no segment there is no document
  have hz : sg1 = 0 → dc1 = 0 := by
    intro h
    rcases Nat.eq_zero_or_pos dc1 with a | a
    · exact a
    · obtain ⟨c, hc, _⟩ := f3.2.2.1 0 a
      omega
  have hnl : (sd_jn (nI 0) D1 dc1).2.1 = (sd_jn (nI 0) D1 dc1).2.2 := by
    rw [sg_cn_0 _ (fun i hi => by
      obtain ⟨c, hc, e⟩ := g3 i hi
      show decide ((sd_jn (nI 0) D1 dc1).1.2.2.2.2.1 i < nI 0) = false
      rw [e]
      exact decide_eq_false (nI_nlt (Nat.zero_le _) (by omega)))] at g5
    omega
  have hcnt : sg_cn (fun j => decide ((sd_jn (nI 0) D1 dc1).1.2.2.2.2.1 j = 0)) (sd_jn (nI 0) D1 dc1).2.1 = (sd_jn (nI 0) D1 dc1).2.1 := sg_cn_all _ (fun i hi => by
    obtain ⟨c, hc, e⟩ := g3 i hi
    have hc0 : c = 0 := by omega
    subst hc0
    show decide ((sd_jn (nI 0) D1 dc1).1.2.2.2.2.1 i = 0) = true
    rw [e]; rfl)
  have hempty : dc1 = 0 → sd_jn (nI 0) D1 dc1 = (D1, 0, 0) := fun h => by rw [h]; rfl
  unfold wpX_settle
  refine fX _ ?_
  intro c1 c2 M C V B G
  -- what Y does from the flush on, for either outcome
  refine xd_join (f := 0) (lev := 3) h32 (by omega) f1 (fun hl => ?_) (fun hl => ?_)
  · unfold wpY_settle
    refine fY _ ?_
    intro V' KD SP WT IS MA SC hV'
    rw [if_neg (by omega)] at hj
    rcases Nat.eq_zero_or_pos sg1 with hs | hs
    · have hd0 := hz hs
      have he := hempty hd0
      subst hs
      refine br_t (nI_le (a := 0) (b := 0) (Nat.le_refl _) (by decide)) (br_t rfl ?_)
      rw [he]
      subst hd0
      exact ⟨rfl, sr_mk (W := W) (D := D1) (dc := 0) (sg := 0) ⟨by omega, hpt, hPT, ⟨f1, f2, ⟨0, f3, by omega⟩, hV'⟩, hQ, hW, f4, hK, hS⟩⟩
    · refine br_f (nI_nle hs (by omega)) ?_
      refine yd_join (f := 0) (lev := 3) h32 (by omega) f1 (fun _ => ?_) (fun hl2 => absurd hl2 (by omega))
      refine br_t rfl ⟨?_, sr_mk (W := W) ⟨by omega, hpt, hPT, ⟨hok, htx, ⟨_, hj.1, by omega⟩, fun j hj => absurd hj (Nat.not_lt_zero j)⟩, hQ, hW, f4, hK, hS⟩⟩
      rw [hnl, hl]; rfl
  · unfold wpY_settle
    refine fY _ ?_
    intro V' KD SP WT IS MA SC hV'
    rw [if_pos hl] at hj
    rcases Nat.eq_zero_or_pos sg1 with hs | hs
    · have he := hempty (hz hs)
      rw [he] at hl
      exact absurd (show 0 < 0 from hl) (by decide)
    · refine br_f (nI_nle hs (by omega)) ?_
      refine yd_join (f := 0) (lev := 3) h32 (by omega) f1 (fun hl2 => absurd hl (by omega)) (fun _ => ?_)
      refine br_f (by decide) ?_
      refine yr_many (by have := hj.1.2.1; exact this) (fun j => decide ((sd_jn (nI 0) D1 dc1).1.2.2.2.2.1 j = 0)) (fun j _ => decide_eq_true_iff) ?_
      refine ⟨by rw [hcnt], sr_mk (W := W) ⟨by omega, hpt, hPT, ⟨hok, htx, ⟨_, hj.1, by omega⟩, fun j hj => ?_⟩, hQ, hW, f4, hK, hS⟩⟩
      have hj0 : j = 0 := by omega
      subst hj0
      rw [pk_us, pk_us]
