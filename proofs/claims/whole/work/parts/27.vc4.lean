theorem sd_I_add {S : Nat → Int32} {st dc sg : Nat} (h : sd_I S st dc sg) (hd : dc < 32) : sd_I (upd S dc (-1)) st (dc + 1) sg := by
  obtain ⟨h1, h2, h3, h4, h5⟩ := h
  refine ⟨by omega, by omega, fun d hd => ?_, fun d a b => ?_, fun c hc => ?_⟩
  · rw [pk_un (by omega)]; exact h3 d hd
  · by_cases e : d = dc
    · subst e; exact pk_us
    · rw [pk_un e]; exact h4 d a (by omega)
  · rw [sg_cn_congr (q := fun j => decide (S j < nI c)) st (fun i hi => by show decide (upd S dc (-1) i < nI c) = _; rw [pk_un (by omega)])]
    exact h5 c hc
theorem i_vc_add {k : Nat} {u : SX} {v : SY} (I : i_Rel k u v) (hk : k + 3 ≤ 1536) (v1 : Int32) : wpX_add (fun r u' => wpY_add (fun r' v' => r' = r ∧ i_Rel (k + 3) u' v') v v1) u v1 := by
  have I3 := i_up I
  obtain ⟨dc, m, sg, pt, hc, q, W, D, fsc, fsl, aV, aPT, aPQ, aLQ, aI, aM, aC, aW, aB, aG, aHN, aHS, aHR, aSH, aWQ, aWL, aNN, aNC, bV, bTK, bLN, bKD, bSP, bWT, bIS, bMA, bKN, bSH, bIH, bSC, bKS, bHS, rfl, rfl, hA⟩ := I
  obtain ⟨hm, hpt, hPT, ⟨hD, hT, ⟨st, hI, hst3⟩, hV⟩, hQ, hW, hN, hK, hS⟩ := hA
  have h32 := hI.2.1
  unfold wpX_add
  rcases pk_ix v1 (n := 100) (by decide) with h | h | ⟨pr, hpr, rfl⟩
  · refine br_t h ?_
    unfold wpY_add
    exact yv_0 (n := 99) (Or.inl h) (by decide) (br_t rfl ⟨rfl, I3⟩)
  · have h0 : ¬ v1 < 0 := fun z => absurd (Int32.lt_of_le_of_lt h z) (by decide)
    refine br_f h0 (br_f (Int32.not_lt.mpr h) ?_)
    unfold wpY_add
    exact yv_0 (n := 99) (Or.inr h) (by decide) (br_t rfl ⟨rfl, I3⟩)
  · refine br_f (nI_pos (by omega)) (br_t (nI_lt (b := 100) hpr (by decide)) ?_)
    rcases Nat.lt_or_ge dc 32 with hd | hd
    · refine br_t (nI_lt (b := 32) hd (by decide)) (nm_r (nI_1 _) ?_)
      have hI' := sd_I_add hI hd
      have hD' : sd_ok (upd D.1 dc (nI m), upd D.2.1 dc (nI pr), upd D.2.2.1 dc (nI pt), sd_cy D.2.2.2.1 (12 * dc) aPT 0 pt, upd D.2.2.2.2.1 dc (-1), upd D.2.2.2.2.2 dc 0) :=
        ⟨sd_upd_all (Q := fun x => ∃ n, n < 2 ^ 31 ∧ x = nI n) hD.1 ⟨m, by omega, rfl⟩, sd_upd_all (Q := fun x => ∃ n, n < 100 ∧ x = nI n) hD.2.1 ⟨pr, hpr, rfl⟩, sd_upd_all (Q := fun x => ∃ n, n ≤ 12 ∧ x = nI n) hD.2.2.1 ⟨pt, hpt, rfl⟩, sd_upd_all (Q := fun x => x = 0 ∨ x = 1) hD.2.2.2 (Or.inl rfl)⟩
      have hT' : sd_tx (sd_cy D.2.2.2.1 (12 * dc) aPT 0 pt) := sd_tx_cy hT hPT
      generalize hDD : ((upd D.1 dc (nI m), upd D.2.1 dc (nI pr), upd D.2.2.1 dc (nI pt), sd_cy D.2.2.2.1 (12 * dc) aPT 0 pt, upd D.2.2.2.2.1 dc (-1), upd D.2.2.2.2.2 dc 0) : sd_D) = D' at hD'
      have hI2 : sd_I D'.2.2.2.2.1 st (dc + 1) sg := by rw [← hDD]; exact hI'
      have hT2 : sd_tx D'.2.2.2.1 := by rw [← hDD]; exact hT'
      have hnum : D'.1 dc = nI m := by rw [← hDD]; exact pk_us
      have hP' := sd_I_P hI2
      have h1 := hI2.1
      -- Y up to the count
      have Yto : ∀ P : Int32 → SY → Prop, wpY_many (fun r_19 => (r_19 = 4 → wpY_flush (fun _ u => P (nI m) u) (nI (dc + 1), nI sg, nI (m + 1), 0, nI hc, D'.1, D'.2.1, D'.2.2.1, D'.2.2.2.1, D'.2.2.2.2.1, D'.2.2.2.2.2, bV, aPT, bTK, bLN, bKD, bSP, bWT, bIS, bMA, bSC, aNN, aNC, bKN, bKS, bSH, bIH, bHS)) ∧ (¬ r_19 = 4 → P (nI m) (nI (dc + 1), nI sg, nI (m + 1), 0, nI hc, D'.1, D'.2.1, D'.2.2.1, D'.2.2.2.1, D'.2.2.2.2.1, D'.2.2.2.2.2, bV, aPT, bTK, bLN, bKD, bSP, bWT, bIS, bMA, bSC, aNN, aNC, bKN, bKS, bSH, bIH, bHS))) (nI (dc + 1), nI sg, nI (m + 1), 0, nI hc, D'.1, D'.2.1, D'.2.2.1, D'.2.2.2.1, D'.2.2.2.2.1, D'.2.2.2.2.2, bV, aPT, bTK, bLN, bKD, bSP, bWT, bIS, bMA, bSC, aNN, aNC, bKN, bKS, bSH, bIH, bHS) (-1) →
          wpY_add P (nI dc, nI sg, nI m, nI pt, nI hc, D.1, D.2.1, D.2.2.1, D.2.2.2.1, D.2.2.2.2.1, D.2.2.2.2.2, bV, aPT, bTK, bLN, bKD, bSP, bWT, bIS, bMA, bSC, aNN, aNC, bKN, bKS, bSH, bIH, bHS) (nI pr) := by
        intro P hP
        unfold wpY_add
        have hv : vp_in (nI dc) 32 := vp_in_nI hd (by omega)
        have ed : (nI dc).toNatClampNeg = dc := nI_clamp (by omega)
        refine yv_1 (n := 99) (by omega) (by decide) (br_f (by decide) (br_f (fun z => by have := (nI_eq (b := 32) (by omega) (by decide)).mp z; omega) (nm_r (nI_1 _) (nm_r (nI_1 _) ⟨hv, ?_⟩))))
        rw [ed]
        have key : ∀ n i, i + n = pt → wY_add_72 P (nI dc) (nI (dc + 1)) (nI sg) (nI (m + 1)) (nI pt) (nI hc) (n + 1) (nI i) (upd D.1 dc (nI m)) (upd D.2.1 dc (nI pr)) (upd D.2.2.1 dc (nI pt)) (sd_cy D.2.2.2.1 (12 * dc) aPT 0 i) D.2.2.2.2.1 D.2.2.2.2.2 bV aPT bTK bLN bKD bSP bWT bIS bMA bSC aNN aNC bKN bKS bSH bIH bHS := by
          intro n
          induction n with
          | zero =>
            intro i h
            obtain rfl : i = pt := by omega
            refine br_t (nI_le (Nat.le_refl _) (by omega)) ⟨hv, ?_⟩
            rw [ed]
            subst hDD
            exact nm_e ⟨hv, nm_r (by rw [sx_nb (Or.inl rfl)]) ⟨hv, nm_r pk_us hP⟩⟩
          | succ n ih =>
            intro i h
            have e3 := sd_cy_s D.2.2.2.1 (12 * dc) aPT 0 i
            rw [Nat.zero_add] at e3
            refine br_f (nI_ge (by omega) (by omega)) ?_
            rw [sy_ix, nI_clamp (n := i) (by omega), nI_clamp (n := 12 * dc + i) (by omega)]
            exact ⟨vp_in_nI (by omega) (by omega), vp_in_nI (by omega) (by omega), nm_r e3 (nm_r (nI_1 _) (ih (i + 1) (by omega)))⟩
        have k0 := key pt 0 (Nat.zero_add _)
        rw [sd_cy_0] at k0
        exact nm_e ⟨hv, nm_e ⟨hv, nm_e (Exists.intro (pt + 1) k0)⟩⟩
      refine xd_append hd hpt ?_
      have hcount : ∀ P : Int32 → Prop, P (nI (dc + 1 - st)) → P (nI (sg_cn (fun j => decide (st ≤ j)) (dc + 1))) := fun P hP => by rw [sd_P_c h1]; exact hP
      have Xto : wpX_countIn (fun r_38 => (r_38 < 4 → wpY_add (fun r' v' => r' = nI m ∧ i_Rel (k + 3) (nI (dc + 1), nI (m + 1), nI sg, 0, nI q.length, fsc, fsl, nI hc, D'.1, D'.2.1, D'.2.2.1, D'.2.2.2.1, D'.2.2.2.2.1, D'.2.2.2.2.2, aV, aPT, aPQ, aLQ, aI, aM, aC, aW, aB, aG, aHN, aHS, aHR, aSH, aWQ, aWL, aNN, aNC) v') (nI dc, nI sg, nI m, nI pt, nI hc, D.1, D.2.1, D.2.2.1, D.2.2.2.1, D.2.2.2.2.1, D.2.2.2.2.2, bV, aPT, bTK, bLN, bKD, bSP, bWT, bIS, bMA, bSC, aNN, aNC, bKN, bKS, bSH, bIH, bHS) (nI pr)) ∧ (¬ r_38 < 4 → wpX_flushBuffer (fun u' => wpY_add (fun r' v' => r' = nI m ∧ i_Rel (k + 3) u' v') (nI dc, nI sg, nI m, nI pt, nI hc, D.1, D.2.1, D.2.2.1, D.2.2.2.1, D.2.2.2.2.1, D.2.2.2.2.2, bV, aPT, bTK, bLN, bKD, bSP, bWT, bIS, bMA, bSC, aNN, aNC, bKN, bKS, bSH, bIH, bHS) (nI pr)) (nI (dc + 1), nI (m + 1), nI sg, 0, nI q.length, fsc, fsl, nI hc, D'.1, D'.2.1, D'.2.2.1, D'.2.2.2.1, D'.2.2.2.2.1, D'.2.2.2.2.2, aV, aPT, aPQ, aLQ, aI, aM, aC, aW, aB, aG, aHN, aHS, aHR, aSH, aWQ, aWL, aNN, aNC))) (nI (dc + 1), nI (m + 1), nI sg, 0, nI q.length, fsc, fsl, nI hc, D'.1, D'.2.1, D'.2.2.1, D'.2.2.2.1, D'.2.2.2.2.1, D'.2.2.2.2.2, aV, aPT, aPQ, aLQ, aI, aM, aC, aW, aB, aG, aHN, aHS, aHR, aSH, aWQ, aWL, aNN, aNC) (-1) := by
        refine xr_countIn (by omega) (fun j => decide (st ≤ j)) (sd_P_cn hP') ?_
        refine hcount (fun r_38 => (r_38 < 4 → _) ∧ (¬ r_38 < 4 → _)) ?_
        rcases Nat.lt_or_ge (dc + 1 - st) 4 with h4 | h4
        · refine br_t (nI_lt (b := 4) h4 (by decide)) (Yto _ ?_)
          refine yr_many (by omega) (fun j => decide (st ≤ j)) (sd_P_cn hP') ?_
          refine hcount (fun r_19 => (r_19 = 4 → _) ∧ (¬ r_19 = 4 → _)) ?_
          exact br_f (fun z => by have := (nI_eq (b := 4) (by omega) (by decide)).mp z; omega) ⟨rfl, sr_mk (W := W) (pt := 0) ⟨by omega, by omega, hPT, ⟨hD', hT2, ⟨st, hI2, by omega⟩, hV⟩, hQ, hW, hN, hK, hS⟩⟩
        · obtain ⟨D1, dc1, sg1, V1, NN1, NC1, f1, f2, f3, f4, fX, fY⟩ := v_flush (fnn := nI (m + 1)) (fpt := 0) (fpq := nI q.length) (fsc := fsc) (fsl := fsl) (fhc := nI hc) (aPT := aPT) (aPQ := aPQ) (aLQ := aLQ) (aI := aI) (aM := aM) (aC := aC) (aW := aW) (aB := aB) (aG := aG) (aHN := aHN) (aHS := aHS) (aHR := aHR) (aSH := aSH) (aNN := aNN) (gnn := nI (m + 1)) (gpt := 0) (gkp := nI hc) (bPT := aPT) (bKD := bKD) (bSP := bSP) (bWT := bWT) (bIS := bIS) (bMA := bMA) (bKN := bKN) (bSH := bSH) (bIH := bIH) (bSC := bSC) (bKS := bKS) (bHS := bHS) hD' hT2 hI2 hV hW hN
          have e4 : dc + 1 - st = 4 := by omega
          rw [e4]
          refine br_f (by decide) (fX _ ?_)
          intro c1 c2 M C V B G
          refine Yto _ ?_
          refine yr_many (by omega) (fun j => decide (st ≤ j)) (sd_P_cn hP') ?_
          refine hcount (fun r_19 => (r_19 = 4 → _) ∧ (¬ r_19 = 4 → _)) ?_
          rw [e4]
          refine br_t rfl (fY _ ?_)
          intro V' KD SP WT IS MA SC hV'
          exact ⟨rfl, sr_mk (W := W) (pt := 0) ⟨by omega, by omega, hPT, ⟨f1, f2, ⟨dc1, f3, by omega⟩, hV'⟩, hQ, hW, f4, hK, hS⟩⟩
      subst hDD
      exact Xto
    · obtain rfl : dc = 32 := by omega
      refine br_f (nI_nlt (b := 32) (by omega) (by decide)) ?_
      unfold wpY_add
      exact yv_1 (n := 99) (by omega) (by decide) (br_f (by decide) (br_t rfl ⟨rfl, I3⟩))
