def sn_WY (W : Nat → List Nat) (bTK bLN : Nat → Int32) : Prop :=
  ∀ w, w < 4 → (W w).length ≤ 12 ∧ sv_tks (W w) ∧ (W w ≠ [] → ∃ v, sq_b (W w) = some [v]) ∧ bLN (1 + w) = nI (W w).length ∧ sr_H bTK (16 * (1 + w)) (W w)
section
variable {gdc gsg gnn gpt gkp : Int32} {bN bP bL bT bS bD bV bPT bTK bLN bKD bSP bWT bIS bMA bNN bNC bKN bSH bIH : Nat → Int32} {bSC bKS bHS : Nat → Int64}
theorem yn_drop {w c : Nat} (hw : w < 4) (hc : bNC w = nI c) (h1 : 1 ≤ c) (h8 : c ≤ 8) {post : SY → Prop} (hp : post (gdc, gsg, gnn, gpt, gkp, bN, bP, bL, bT, bS, bD, bV, bPT, bTK, bLN, bKD, bSP, bWT, bIS, bMA, bSC, sd_dr bNN (8 * w) (c - 1), upd bNC w (nI (c - 1)), bKN, bKS, bSH, bIH, bHS)) : wpY_drop post (gdc, gsg, gnn, gpt, gkp, bN, bP, bL, bT, bS, bD, bV, bPT, bTK, bLN, bKD, bSP, bWT, bIS, bMA, bSC, bNN, bNC, bKN, bKS, bSH, bIH, bHS) (nI w) := by
  have ew : (nI w).toNatClampNeg = w := nI_clamp (by omega)
  have hv : vp_in (nI w) 4 := vp_in_nI hw (by omega)
  have key : ∀ m k, k + m = c - 1 → wY_drop_15 post (nI w) gdc gsg gnn gpt gkp (m + 1) (nI (8 * w + k)) bN bP bL bT bS bD bV bPT bTK bLN bKD bSP bWT bIS bMA bSC (sd_dr bNN (8 * w) k) (upd bNC w (nI (c - 1))) bKN bKS bSH bIH bHS := by
    intro m
    induction m with
    | zero =>
      intro k h
      obtain rfl : k = c - 1 := by omega
      refine ⟨hv, ?_⟩
      rw [ew, pk_us, sy_8, nI_add]
      exact br_t (nI_le (Nat.le_refl _) (by omega)) hp
    | succ m ih =>
      intro k h
      refine ⟨hv, ?_⟩
      rw [ew, pk_us, sy_8, nI_add]
      refine br_f (nI_ge (by omega) (by omega)) ?_
      have e1 : nI (8 * w + k) + 1 = nI (8 * w + k + 1) := nI_1 _
      refine ⟨by rw [e1]; exact vp_in_nI (by omega) (by omega), vp_in_nI (by omega) (by omega), nm_r ?_ (nm_r e1 (ih (k + 1) (by omega)))⟩
      rw [e1, nI_clamp (by omega), nI_clamp (by omega)]
      exact sd_dr_s bNN (8 * w) k
  have k0 := key (c - 1) 0 (Nat.zero_add _)
  rw [sd_dr_0] at k0
  refine ⟨hv, hv, ?_⟩
  rw [ew, hc]
  have ec : nI c - 1 = nI (c - 1) := pk_sub (b := 1) h1
  exact nm_r (by rw [ec]) (nm_r (sy_8 w) (Exists.intro (c - 1 + 1) k0))
theorem yn_tell {d st dc : Nat} {W : Nat → List Nat} {D : sd_D} (hd : d < dc) (hD : sd_ok D) (hP : sd_P D.2.2.2.2.1 st dc) (hW : sn_WY W bTK bLN) (hN : sr_N bNC) {post : SY → Prop}
    (hp : ∀ (KD SP WT IS MA : Nat → Int32) (SC : Nat → Int64), post (nI dc, gsg, gnn, gpt, gkp, D.1, D.2.1, D.2.2.1, D.2.2.2.1, D.2.2.2.2.1, D.2.2.2.2.2, bV, bPT, bTK, bLN, KD, SP, WT, IS, MA, SC, (sn_w W (sn_mt D d) (D.1 d) 4 (bNN, bNC)).1, (sn_w W (sn_mt D d) (D.1 d) 4 (bNN, bNC)).2, bKN, bKS, bSH, bIH, bHS)) :
    wpY_tell post (nI dc, gsg, gnn, gpt, gkp, D.1, D.2.1, D.2.2.1, D.2.2.2.1, D.2.2.2.2.1, D.2.2.2.2.2, bV, bPT, bTK, bLN, bKD, bSP, bWT, bIS, bMA, bSC, bNN, bNC, bKN, bKS, bSH, bIH, bHS) (nI d) := by
  have hL := sd_ok_L hD
  have h32 := hP.2.1
  have ed : (nI d).toNatClampNeg = d := nI_clamp (by omega)
  have key : ∀ m w (KD SP WT IS MA : Nat → Int32) (SC : Nat → Int64), w + m = 4 → wY_tell_2 post (nI d) (m + 1) (nI w) (nI dc) gsg gnn gpt gkp D.1 D.2.1 D.2.2.1 D.2.2.2.1 D.2.2.2.2.1 D.2.2.2.2.2 bV bPT bTK bLN KD SP WT IS MA SC ((sn_w W (sn_mt D d) (D.1 d) w (bNN, bNC)).1) ((sn_w W (sn_mt D d) (D.1 d) w (bNN, bNC)).2) bKN bKS bSH bIH bHS := by
    intro m
    induction m with
    | zero =>
      intro w KD SP WT IS MA SC h
      obtain rfl : w = 4 := by omega
      exact br_t (nI_le (b := 4) (Nat.le_refl _) (by decide)) (hp KD SP WT IS MA SC)
    | succ m ih =>
      intro w KD SP WT IS MA SC h
      have ew : (nI w).toNatClampNeg = w := nI_clamp (by omega)
      have hv : vp_in (nI w) 4 := vp_in_nI (by omega) (by omega)
      have e1w : 1 + nI w = nI (1 + w) := nI_add 1 w
      obtain ⟨w1, w2, w3, w4, w5⟩ := hW w (by omega)
      have I := ih (w + 1)
      have hsn := sn_w_N (W := W) (mt := sn_mt D d) (x := D.1 d) (s := (bNN, bNC)) hN w (by omega)
      have es : sn_w W (sn_mt D d) (D.1 d) (w + 1) (bNN, bNC) = if (W w).length = 0 then sn_w W (sn_mt D d) (D.1 d) w (bNN, bNC) else if sn_mt D d (W w) = true then sn_ap (sn_w W (sn_mt D d) (D.1 d) w (bNN, bNC)) w (D.1 d) else sn_w W (sn_mt D d) (D.1 d) w (bNN, bNC) := rfl
      rw [es] at I
      generalize sn_w W (sn_mt D d) (D.1 d) w (bNN, bNC) = s at I hsn
      refine br_f (nI_ge (b := 4) (by omega) (by decide)) ?_
      rw [e1w, nI_clamp (n := 1 + w) (by omega), w4]
      refine ⟨vp_in_nI (by omega) (by omega), ?_⟩
      by_cases hz : (W w).length = 0
      · rw [if_pos hz] at I
        exact br_t (by rw [hz]; rfl) (nm_r (nI_1 _) (I KD SP WT IS MA SC (by omega)))
      · rw [if_neg hz] at I
        refine br_f (nI_ne0 (by omega) (by omega)) ?_
        obtain ⟨kk, hkk⟩ := w3 (fun z => hz (by rw [z]; rfl))
        refine yk_work (li := 1 + w) (pr := sd_n D.2.1 d) (by omega) hP hL (sd_ok_P hD d).2 (sd_ok_P hD d).1 (by omega) (by omega) w4 w5 w2 hkk ?_
        intro KD SP WT IS MA SC hM _
        have em : sv_rm (sd_W D.2.2.2.1 D.2.2.1 st) (sv_own (sd_n D.2.2.1 d) st (sg_sm (sd_n D.2.2.1) st)) (fun i => D.2.2.2.1 (12 * d + i)) (sd_n D.2.2.1 d) (sd_n D.2.1 d) (W w) = sn_mt D d (W w) := sv_rm_ind _
        rw [em] at hM
        show (MA 0 = 0 → _) ∧ (¬ MA 0 = 0 → _)
        rw [hM]
        cases hm : sn_mt D d (W w) with
        | false =>
          rw [hm, if_neg (by decide)] at I
          exact br_t rfl (nm_r (nI_1 _) (I KD SP WT IS MA SC (by omega)))
        | true =>
          rw [hm, if_pos rfl] at I
          refine br_f (by decide) ⟨hv, ?_⟩
          obtain ⟨hc, h8⟩ := sr_N_n hsn (show w < 4 by omega)
          unfold sn_ap at I
          generalize sd_n s.2 w = c at hc h8 I
          rw [ew, hc]
          by_cases hc8 : c = 8
          · subst hc8
            rw [if_pos (Nat.le_refl _)] at I
            refine br_t rfl (yn_drop (by omega) hc (by omega) (by omega) ?_)
            have e1 : nI w |> fun x => 8 * x + nI 7 = nI (8 * w + 7) := by
              show 8 * nI w + nI 7 = _
              rw [sy_8, nI_add]
            refine ⟨hv, hv, ?_⟩
            rw [ew, pk_us]
            refine nm_r (show upd _ w (nI 7 + 1) = upd _ w (nI 8) by rw [nI_1]) ⟨vp_in_nI (by omega) (by omega), ?_⟩
            refine ⟨by show vp_in (8 * nI w + nI 7) 32; rw [e1]; exact vp_in_nI (by omega) (by omega), ?_⟩
            refine nm_r (show upd _ (8 * nI w + nI 7).toNatClampNeg (D.1 (nI d).toNatClampNeg) = _ by rw [e1, nI_clamp (by omega), ed]) (nm_r (nI_1 _) (I KD SP WT IS MA SC (by omega)))
          · rw [if_neg (by omega)] at I
            refine br_f (fun z => hc8 ((nI_eq (b := 8) (by omega) (by decide)).mp z)) ?_
            have e1 : 8 * nI w + nI c = nI (8 * w + c) := by rw [sy_8, nI_add]
            refine ⟨hv, hv, ?_⟩
            rw [ew, hc, ed, e1, nI_clamp (by omega), nI_1]
            exact nm_e ⟨vp_in_nI (by omega) (by omega), vp_in_nI (by omega) (by omega), nm_e (nm_r (nI_1 _) (I KD SP WT IS MA SC (by omega)))⟩
  exact Exists.intro 5 (key 4 0 bKD bSP bWT bIS bMA bSC rfl)
theorem sn_mt_S {N P L T S S' X : Nat → Int32} : sn_mt (N, P, L, T, S, X) = sn_mt (N, P, L, T, S', X) := rfl
theorem ym_flush {dc st sg : Nat} {W : Nat → List Nat} {D : sd_D} (hD : sd_ok D) (hI : sd_I D.2.2.2.2.1 st dc sg) (hW : sn_WY W bTK bLN) (hN : sr_N bNC) (V : Nat → Int32) (hV : ∀ j, j < sg → V j = bV j) {post : Int32 → SY → Prop}
    (h0 : st = dc → post (nI sg) (nI dc, nI sg, gnn, gpt, gkp, D.1, D.2.1, D.2.2.1, D.2.2.2.1, D.2.2.2.2.1, D.2.2.2.2.2, bV, bPT, bTK, bLN, bKD, bSP, bWT, bIS, bMA, bSC, bNN, bNC, bKN, bKS, bSH, bIH, bHS))
    (hp : st < dc → ∀ (s : sm_S) (n : sn_S), s = sm_go 16 (sm_fl D st dc sg, upd V sg 0, dc, sg + 1) → n = sn_t W (sn_mt D) D.1 st (dc - st) (bNN, bNC) → ∀ (V' KD SP WT IS MA : Nat → Int32) (SC : Nat → Int64), (∀ j, j < s.2.2.2 → s.2.1 j = V' j) →
      post (nI s.2.2.2) (nI s.2.2.1, nI s.2.2.2, gnn, gpt, gkp, (s.1).1, (s.1).2.1, (s.1).2.2.1, (s.1).2.2.2.1, (s.1).2.2.2.2.1, (s.1).2.2.2.2.2, V', bPT, bTK, bLN, KD, SP, WT, IS, MA, SC, n.1, n.2, bKN, bKS, bSH, bIH, bHS)) :
    wpY_flush post (nI dc, nI sg, gnn, gpt, gkp, D.1, D.2.1, D.2.2.1, D.2.2.2.1, D.2.2.2.2.1, D.2.2.2.2.2, bV, bPT, bTK, bLN, bKD, bSP, bWT, bIS, bMA, bSC, bNN, bNC, bKN, bKS, bSH, bIH, bHS) := by
  have hsg := sd_I_sg hI
  have hP := sd_I_P hI
  have hPc := sd_P_cn hP
  obtain ⟨h1, h32, h3, h4⟩ := hP
  refine yr_many h32 (fun j => decide (st ≤ j)) hPc ?_
  rw [sd_P_c h1]
  rcases Nat.lt_or_ge st dc with hlt | hge
  · refine br_f (nI_ne0 (by omega) (by omega)) ?_
    have part : ∀ i, i ≤ dc - st → sd_P (sd_cy D.2.2.2.2.1 st (fun _ => nI sg) 0 i) (st + i) dc := by
      intro i hi
      refine ⟨by omega, h32, fun d hd => ?_, fun d a b => ?_⟩
      · rcases Nat.lt_or_ge d st with e | e
        · rw [sd_cy_out (by omega)]; exact h3 d e
        · refine ⟨sg, by omega, ?_⟩
          unfold sd_cy
          rw [if_pos (by omega)]
      · rw [sd_cy_out (by omega)]; exact h4 d (by omega) b
    have hp2 : ∀ m i (KD SP WT IS MA : Nat → Int32) (SC : Nat → Int64), i + m = dc - st → wY_flush_15 post (m + 1) (nI (st + i)) (nI dc) (nI sg) gnn gpt gkp D.1 D.2.1 D.2.2.1 D.2.2.2.1 (sd_cy D.2.2.2.2.1 st (fun _ => nI sg) 0 i) D.2.2.2.2.2 bV bPT bTK bLN KD SP WT IS MA SC ((sn_t W (sn_mt D) D.1 st i (bNN, bNC)).1) ((sn_t W (sn_mt D) D.1 st i (bNN, bNC)).2) bKN bKS bSH bIH bHS := by
      intro m
      induction m with
      | zero =>
        intro i KD SP WT IS MA SC h
        obtain rfl : i = dc - st := by omega
        have hI' := sm_fl_I hI hlt
        refine br_t (nI_le (by omega) (by omega)) (nm_r (nI_1 _) ⟨vp_in_nI (by omega) (by omega), ?_⟩)
        rw [nI_clamp (by omega)]
        refine nm_e (Exists.intro 17 ?_)
        refine ym_merge 16 (sm_fl D st dc sg, upd V sg 0, dc, sg + 1) (upd bV sg 0) ⟨hD, hI'⟩ (by show sg + 1 ≤ 34; omega) (fun j hj => ?_) (fun V' hV' => ?_)
        · have hj' : j < sg + 1 := hj
          show upd V sg 0 j = upd bV sg 0 j
          by_cases e : j = sg
          · subst e; rw [pk_us, pk_us]
          · rw [pk_un e, pk_un e]; exact hV j (by omega)
        · exact hp hlt _ _ rfl rfl V' KD SP WT IS MA SC hV'
      | succ m ih =>
        intro i KD SP WT IS MA SC h
        have ei : (nI (st + i)).toNatClampNeg = st + i := nI_clamp (by omega)
        refine br_f (nI_ge (by omega) (by omega)) ⟨vp_in_nI (by omega) (by omega), ?_⟩
        rw [ei]
        refine br_t (by rw [sd_cy_out (by omega)]; exact h4 _ (by omega) (by omega)) ?_
        refine yn_tell (D := (D.1, D.2.1, D.2.2.1, D.2.2.2.1, sd_cy D.2.2.2.2.1 st (fun _ => nI sg) 0 i, D.2.2.2.2.2)) (st := st + i) (by omega) hD (part i (by omega)) hW (sn_t_N hN i) ?_
        intro KD SP WT IS MA SC
        refine ⟨vp_in_nI (by omega) (by omega), nm_r ?_ (nm_r (nI_1 _) (ih (i + 1) KD SP WT IS MA SC (by omega)))⟩
        exact sd_cy_s D.2.2.2.2.1 st (fun _ => nI sg) 0 i
    have hp1 : ∀ k j, j + k = st → wY_flush_15 post (k + (dc - st + 1)) (nI j) (nI dc) (nI sg) gnn gpt gkp D.1 D.2.1 D.2.2.1 D.2.2.2.1 D.2.2.2.2.1 D.2.2.2.2.2 bV bPT bTK bLN bKD bSP bWT bIS bMA bSC bNN bNC bKN bKS bSH bIH bHS := by
      intro k
      induction k with
      | zero =>
        intro j h
        obtain rfl : j = st := by omega
        have k0 := hp2 (dc - j) 0 bKD bSP bWT bIS bMA bSC (Nat.zero_add _)
        rw [sd_cy_0] at k0
        rw [Nat.zero_add]
        exact k0
      | succ k ih =>
        intro j h
        obtain ⟨c, hc, e⟩ := h3 j (by omega)
        have ef : k + 1 + (dc - st + 1) = k + (dc - st + 1) + 1 := by omega
        rw [ef]
        refine br_f (nI_ge (by omega) (by omega)) ⟨vp_in_nI (by omega) (by omega), ?_⟩
        rw [nI_clamp (by omega)]
        exact br_f (by rw [e]; exact sx_nm hc) (nm_r (nI_1 _) (ih (j + 1) (by omega)))
    exact Exists.intro _ (hp1 st 0 (Nat.zero_add _))
  · have e0 : dc - st = 0 := by omega
    rw [e0]
    exact br_t rfl (h0 (by omega))
end
