def sf_own (D : sd_D) (st d : Nat) : Nat := sv_own (sd_n D.2.2.1 d) st (sg_sm (sd_n D.2.2.1) st)
def sf_M (D : sd_D) (st : Nat) (l : List Nat) (d : Nat) : Bool := sv_rm (sd_W D.2.2.2.1 D.2.2.1 st) (sf_own D st d) (fun i => D.2.2.2.1 (12 * d + i)) (sd_n D.2.2.1 d) (sd_n D.2.1 d) l
def sf_S (D : sd_D) (st : Nat) (l : List Nat) (d : Nat) : Nat := sv_rs (sd_W D.2.2.2.1 D.2.2.1 st) (sf_own D st d) (fun i => D.2.2.2.1 (12 * d + i)) (sd_n D.2.2.1 d) (sd_n D.2.1 d) l
def sf_H (D : sd_D) (st : Nat) (ex : Int32) (l : List Nat) (d : Nat) : Bool := (decide (d < st) && decide (D.2.2.2.2.2 d = 0)) && (decide (¬ nI d = ex) && sf_M D st l d)
def sf_R (D : sd_D) (st : Nat) (bp : Int32) (l : List Nat) (d : Nat) : Int32 := if bp = 0 then nI (sf_S D st l d) else -(D.2.1 d)
def sf_C (D : sd_D) (st : Nat) (ex : Int32) (l : List Nat) (k e : Nat) : Bool := sf_H D st ex l e && decide (sd_n D.2.1 e / 10 = k)
theorem sf_H_t {D : sd_D} {st d : Nat} {ex : Int32} {l : List Nat} (h1 : d < st) (h2 : D.2.2.2.2.2 d = 0) (h3 : ¬ nI d = ex) : sf_H D st ex l d = sf_M D st l d := by
  unfold sf_H
  rw [decide_eq_true h1, decide_eq_true h2, decide_eq_true h3, Bool.true_and, Bool.true_and, Bool.true_and]
theorem sf_H_f {D : sd_D} {st d : Nat} {ex : Int32} {l : List Nat} (h : ¬ (d < st ∧ D.2.2.2.2.2 d = 0 ∧ ¬ nI d = ex)) : sf_H D st ex l d = false := by
  cases hh : sf_H D st ex l d with
  | false => rfl
  | true =>
    unfold sf_H at hh
    rw [Bool.and_eq_true_iff, Bool.and_eq_true_iff, Bool.and_eq_true_iff, decide_eq_true_iff, decide_eq_true_iff, decide_eq_true_iff] at hh
    exact absurd ⟨hh.1.1, hh.1.2, hh.2.1⟩ h
theorem sf_S_le (D : sd_D) {st : Nat} (h : st ≤ 32) (l : List Nat) (d : Nat) : sf_S D st l d ≤ 27 * l.length := sv_rs_le (fun w _ => sd_W_le _ _ h w) l
def rk_sf (A : Nat → Int32) (j hc : Nat) : Nat → Int32 := fun p => if j < p ∧ p < hc then A (p - 1) else A p
theorem rk_sf_0 (A : Nat → Int32) {j hc : Nat} (h : hc ≤ j + 1) : rk_sf A j hc = A := by
  funext p
  unfold rk_sf
  rw [if_neg (by omega)]
theorem rk_sf_s (A : Nat → Int32) {j hc : Nat} (h : j + 1 < hc) : upd (rk_sf A (j + 1) hc) (j + 1) (rk_sf A (j + 1) hc j) = rk_sf A j hc := by
  funext p
  unfold upd
  by_cases e : p = j + 1
  · subst e
    rw [if_pos rfl]
    unfold rk_sf
    rw [if_neg (by omega), if_pos (by omega)]
    rfl
  · rw [if_neg e]
    unfold rk_sf
    by_cases h2 : j + 1 < p ∧ p < hc
    · rw [if_pos h2, if_pos (by omega)]
    · rw [if_neg h2, if_neg (by omega)]
theorem rk_sf_e (A : Nat → Int32) (pl hc : Nat) (x : Int32) : upd (rk_sf A pl hc) pl x = rk_sh A pl hc x := rfl
section
variable {fdc fnn fsg fpt fpq fsc fsl fhc : Int32} {aN aP aL aT aS aD aV aPT aPQ aLQ aI aM aC aW aB aG aHN aHS aHR aSH aWQ aWL aNN aNC : Nat → Int32}
theorem xf_forget {post : SX → Prop} (hp : post (fdc, fnn, fsg, fpt, fpq, fsc, fsl, 0, aN, aP, aL, aT, aS, aD, aV, aPT, aPQ, aLQ, aI, aM, aC, aW, aB, aG, aHN, aHS, aHR, sd_cy aSH 0 (fun _ => 0) 0 10, aWQ, aWL, aNN, aNC)) : wpX_forgetHits post (fdc, fnn, fsg, fpt, fpq, fsc, fsl, fhc, aN, aP, aL, aT, aS, aD, aV, aPT, aPQ, aLQ, aI, aM, aC, aW, aB, aG, aHN, aHS, aHR, aSH, aWQ, aWL, aNN, aNC) := by
  have key : ∀ m i, i + m = 10 → wX_forgetHits_7 post fdc fnn fsg fpt fpq fsc fsl 0 (m + 1) (nI i) aN aP aL aT aS aD aV aPT aPQ aLQ aI aM aC aW aB aG aHN aHS aHR (sd_cy aSH 0 (fun _ => 0) 0 i) aWQ aWL aNN aNC := by
    intro m
    induction m with
    | zero =>
      intro i h
      obtain rfl : i = 10 := by omega
      exact br_t (nI_le (b := 10) (Nat.le_refl _) (by decide)) hp
    | succ m ih =>
      intro i h
      refine br_f (nI_ge (b := 10) (by omega) (by decide)) ⟨vp_in_nI (by omega) (by omega), ?_⟩
      rw [nI_clamp (by omega)]
      have e3 := sd_cy_s aSH 0 (fun _ => 0) 0 i
      rw [Nat.zero_add] at e3
      exact nm_r e3 (nm_r (nI_1 _) (ih (i + 1) (by omega)))
  have k0 := key 10 0 rfl
  rw [sd_cy_0] at k0
  exact Exists.intro 11 k0
theorem xf_keep {hc lim : Nat} {num sco rank : Int32} (h10 : lim ≤ 10) (hcl : hc ≤ lim) {post : SX → Prop}
    (hskip : ∀ pl, rk_P aHR hc rank pl → lim ≤ pl → post (fdc, fnn, fsg, fpt, fpq, fsc, fsl, nI hc, aN, aP, aL, aT, aS, aD, aV, aPT, aPQ, aLQ, aI, aM, aC, aW, aB, aG, aHN, aHS, aHR, aSH, aWQ, aWL, aNN, aNC))
    (hstep : ∀ pl hc', rk_P aHR hc rank pl → pl < lim → hc' = (if hc < lim then hc + 1 else hc) → post (fdc, fnn, fsg, fpt, fpq, fsc, fsl, nI hc', aN, aP, aL, aT, aS, aD, aV, aPT, aPQ, aLQ, aI, aM, aC, aW, aB, aG, rk_sh aHN pl hc' num, rk_sh aHS pl hc' sco, rk_sh aHR pl hc' rank, aSH, aWQ, aWL, aNN, aNC)) :
    wpX_keepHit post (fdc, fnn, fsg, fpt, fpq, fsc, fsl, nI hc, aN, aP, aL, aT, aS, aD, aV, aPT, aPQ, aLQ, aI, aM, aC, aW, aB, aG, aHN, aHS, aHR, aSH, aWQ, aWL, aNN, aNC) num sco rank (nI lim) := by
  have l73 : ∀ (pl hc' : Nat), pl < hc' → hc' ≤ 10 → post (fdc, fnn, fsg, fpt, fpq, fsc, fsl, nI hc', aN, aP, aL, aT, aS, aD, aV, aPT, aPQ, aLQ, aI, aM, aC, aW, aB, aG, rk_sh aHN pl hc' num, rk_sh aHS pl hc' sco, rk_sh aHR pl hc' rank, aSH, aWQ, aWL, aNN, aNC) →
      ∀ m j, j = pl + m → j < hc' → wX_keepHit_73 post num sco rank (nI pl) fdc fnn fsg fpt fpq fsc fsl (nI hc') (m + 1) (nI j) aN aP aL aT aS aD aV aPT aPQ aLQ aI aM aC aW aB aG (rk_sf aHN j hc') (rk_sf aHS j hc') (rk_sf aHR j hc') aSH aWQ aWL aNN aNC := by
    intro pl hc' h1 h2 hp m
    have hv : vp_in (nI pl) 10 := vp_in_nI (by omega) (by omega)
    induction m with
    | zero =>
      intro j hj hj2
      obtain rfl : j = pl := by omega
      refine br_t (nI_le (Nat.le_refl _) (by omega)) ⟨hv, ?_⟩
      rw [nI_clamp (by omega)]
      exact nm_r (rk_sf_e _ _ _ _) ⟨hv, nm_r (rk_sf_e _ _ _ _) ⟨hv, nm_r (rk_sf_e _ _ _ _) hp⟩⟩
    | succ m ih =>
      intro j hj hj2
      obtain ⟨i, rfl⟩ : ∃ i, j = i + 1 := ⟨pl + m, by omega⟩
      have hv1 : vp_in (nI i) 10 := vp_in_nI (by omega) (by omega)
      have hv2 : vp_in (nI (i + 1)) 10 := vp_in_nI (by omega) (by omega)
      refine br_f (nI_ge (by omega) (by omega)) ?_
      rw [nI_pred, nI_clamp (n := i) (by omega), nI_clamp (n := i + 1) (by omega)]
      exact ⟨hv1, hv2, nm_r (rk_sf_s _ hj2) ⟨hv1, hv2, nm_r (rk_sf_s _ hj2) ⟨hv1, hv2, nm_r (rk_sf_s _ hj2) (nm_r (pk_m1 _) (ih i (by omega) (by omega)))⟩⟩⟩
  have l6 : ∀ m k pl, k + m = hc → rk_P aHR k rank pl → wX_keepHit_6 post num sco rank (nI lim) fdc fnn fsg fpt fpq fsc fsl (nI hc) aN aP aL aT aS aD aV aPT aPQ aLQ aI aM aC aW aB aG aHN aHS aHR aSH aWQ aWL aNN aNC (m + 1) (nI pl) (nI k) := by
    intro m
    induction m with
    | zero =>
      intro k pl hk hP
      obtain rfl : k = hc := by omega
      have hple := hP.1
      refine br_t (nI_le (Nat.le_refl _) (by omega)) ?_
      rcases Nat.lt_or_ge pl lim with hl | hl
      · refine br_t (nI_lt hl (by omega)) ?_
        rcases Nat.lt_or_ge k lim with h | h
        · have L := l73 pl (k + 1) (by omega) (by omega) (hstep pl (k + 1) hP hl (by rw [if_pos h])) (k - pl) k (by omega) (by omega)
          rw [rk_sf_0 _ (Nat.le_refl _), rk_sf_0 _ (Nat.le_refl _), rk_sf_0 _ (Nat.le_refl _)] at L
          exact br_f (nI_ge h (by omega)) (nm_r (nI_1 _) (nm_r (nI_pred _) (Exists.intro _ L)))
        · obtain ⟨c, rfl⟩ : ∃ c, k = c + 1 := ⟨k - 1, by omega⟩
          have L := l73 pl (c + 1) (by omega) (by omega) (hstep pl (c + 1) hP hl (by rw [if_neg (by omega)])) (c - pl) c (by omega) (by omega)
          rw [rk_sf_0 _ (Nat.le_refl _), rk_sf_0 _ (Nat.le_refl _), rk_sf_0 _ (Nat.le_refl _)] at L
          exact br_t (nI_le h (by omega)) (nm_r (nI_pred _) (Exists.intro _ L))
      · exact br_f (nI_nlt hl (by omega)) (hskip pl hP hl)
    | succ m ih =>
      intro k pl hk hP
      obtain ⟨p1, p2, p3⟩ := hP
      refine br_f (nI_ge (by omega) (by omega)) ⟨vp_in_nI (by omega) (by omega), ?_⟩
      rw [nI_clamp (by omega)]
      refine br_c (fun hc => ?_) (fun hc => ?_)
      · refine nm_r (nI_1 _) (ih (k + 1) pl (by omega) ⟨by omega, p2, fun p a b => ?_⟩)
        rcases Nat.lt_or_ge p k with h | h
        · exact p3 p a h
        · obtain rfl : p = k := by omega
          exact Int32.not_le.mpr hc
      · refine nm_r (nI_1 _) (nm_r (nI_1 _) (ih (k + 1) (k + 1) (by omega) ⟨Nat.le_refl _, Or.inr (Int32.not_lt.mp hc), fun p a b => absurd b (by omega)⟩))
  exact Exists.intro (hc + 1) (l6 hc 0 0 (Nat.zero_add _) ⟨Nat.le_refl _, Or.inl rfl, fun p a b => absurd b (by omega)⟩)
end
section
variable {fdc fnn fsg fpt fpq fsc fsl fhc : Int32} {aN aP aL aT aS aD aV aPT aPQ aLQ aI aM aC aW aB aG aHN aHS aHR aSH aWQ aWL aNN aNC : Nat → Int32}
theorem xf_pendingQuery {D : sd_D} {dc st lim : Nat} {l : List Nat} {bp ex : Int32} (hD : sd_ok D) (hP : sd_P D.2.2.2.2.1 st dc) (hl : l.length ≤ 12) (hH : sr_H aPQ 0 l) (htk : sv_tks l) {kk : Bool} (hb : sq_b l = some [kk]) (hlim : lim ≤ 10) {post : Int32 → SX → Prop}
    (hp : ∀ (c1 c2 : Int32) (hc : Nat) (M C V B G hN hS hR SH : Nat → Int32), rk_I (sf_H D st ex l) (sf_R D st bp l) D.1 (fun e => nI (sf_S D st l e)) lim dc hc hN hS hR → (∀ k, k < 10 → SH k = nI (sg_cn (sf_C D st ex l k) dc)) →
      post (nI (sg_cn (sf_H D st ex l) dc)) (nI dc, fnn, fsg, fpt, fpq, c1, c2, nI hc, D.1, D.2.1, D.2.2.1, D.2.2.2.1, D.2.2.2.2.1, D.2.2.2.2.2, aV, aPT, aPQ, aLQ, aI, M, C, V, B, G, hN, hS, hR, SH, aWQ, aWL, aNN, aNC)) :
    wpX_find__pendingQuery post (nI dc, fnn, fsg, fpt, fpq, fsc, fsl, fhc, D.1, D.2.1, D.2.2.1, D.2.2.2.1, D.2.2.2.2.1, D.2.2.2.2.2, aV, aPT, aPQ, aLQ, aI, aM, aC, aW, aB, aG, aHN, aHS, aHR, aSH, aWQ, aWL, aNN, aNC) (nI l.length) (nI lim) bp ex := by
  have hL := sd_ok_L hD
  refine xr_weigh (fsc := fsc) (fsl := fsl) hP hL ?_
  intro G hG
  obtain ⟨h1, h32, h3, h4⟩ := hP
  have htot : sg_sm (sd_n D.2.2.1) st ≤ 384 := by
    have := sg_sm_le (f := sd_n D.2.2.1) 12 st (fun i _ => (hL i).2)
    omega
  refine xf_forget (fhc := fhc) ?_
  have key : ∀ m d hc (M C V B hN hS hR SH : Nat → Int32), d + m = dc → rk_I (sf_H D st ex l) (sf_R D st bp l) D.1 (fun e => nI (sf_S D st l e)) lim d hc hN hS hR → (∀ k, k < 10 → SH k = nI (sg_cn (sf_C D st ex l k) d)) →
      wX_find__pendingQuery_14 post (nI l.length) (nI lim) bp ex (m + 1) (nI (sg_cn (sf_H D st ex l) d)) (nI d) (nI dc) fnn fsg fpt fpq (nI st) (nI (sg_sm (sd_n D.2.2.1) st)) (nI hc) D.1 D.2.1 D.2.2.1 D.2.2.2.1 D.2.2.2.2.1 D.2.2.2.2.2 aV aPT aPQ aLQ aI M C V B G hN hS hR SH aWQ aWL aNN aNC := by
    intro m
    induction m with
    | zero =>
      intro d hc M C V B hN hS hR SH h hI hs
      obtain rfl : d = dc := by omega
      exact br_t (nI_le (Nat.le_refl _) (by omega)) (hp _ _ hc M C V B G hN hS hR SH hI hs)
    | succ m ih =>
      intro d hc M C V B hN hS hR SH h hI hs
      have ed : (nI d).toNatClampNeg = d := nI_clamp (by omega)
      have hv : vp_in (nI d) 32 := vp_in_nI (by omega) (by omega)
      have I := ih (d + 1)
      have no : sf_H D st ex l d = false → ∀ M C V B : Nat → Int32, wX_find__pendingQuery_14 post (nI l.length) (nI lim) bp ex (m + 1) (nI (sg_cn (sf_H D st ex l) d)) (nI (d + 1)) (nI dc) fnn fsg fpt fpq (nI st) (nI (sg_sm (sd_n D.2.2.1) st)) (nI hc) D.1 D.2.1 D.2.2.1 D.2.2.2.1 D.2.2.2.2.1 D.2.2.2.2.2 aV aPT aPQ aLQ aI M C V B G hN hS hR SH aWQ aWL aNN aNC := by
        intro hf M C V B
        have I' := I hc M C V B hN hS hR SH (by omega) (rk_no hI hf) (fun k hk => by
          rw [sg_cn_f (by unfold sf_C; rw [hf, Bool.false_and]; decide)]
          exact hs k hk)
        rw [sg_cn_f (by rw [hf]; decide)] at I'
        exact I'
      refine br_f (nI_ge (by omega) (by omega)) ⟨hv, ?_⟩
      rw [ed]
      refine br_c (fun hc1 => nm_r (nI_1 _) (no (sf_H_f (fun z => ?_)) M C V B)) (fun hc1 => ⟨hv, br_c (fun hc2 => br_c (fun hc3 => nm_r (nI_1 _) (no (sf_H_f (fun z => z.2.2 hc3)) M C V B)) (fun hc3 => ?_)) (fun hc2 => nm_r (nI_1 _) (no (sf_H_f (fun z => hc2 z.2.1)) M C V B))⟩)
      · obtain ⟨c, hc', e⟩ := h3 d z.1
        rw [e] at hc1
        exact absurd hc1 (sx_nm hc')
      · have hdst : d < st := by
          rcases Nat.lt_or_ge d st with a | a
          · exact a
          · exact absurd (h4 d a (by omega)) hc1
        have eH := sf_H_t (l := l) hdst hc2 hc3
        obtain ⟨ep, hpr⟩ := sd_ok_P hD d
        refine xj_pendingQuery (fr := 0) (W := sd_W D.2.2.2.1 D.2.2.1 st) (len := sd_n D.2.2.1 d) (pr := sd_n D.2.1 d) (by omega) (by omega) (hL d).2 htot hpr (hL d).1 ep hG (fun w _ => sd_W_le _ _ (by omega) w)
          (fun hz => by have := sg_sm_ge (f := sd_n D.2.2.1) st d hdst; omega) (by omega) (by omega) hH htk hb ?_
        intro M C V B
        have eA : sx_ans (sv_rm (sd_W D.2.2.2.1 D.2.2.1 st) (sv_own (sd_n D.2.2.1 d) st (sg_sm (sd_n D.2.2.1) st)) (fun i => D.2.2.2.1 (12 * d + i)) (sd_n D.2.2.1 d) (sd_n D.2.1 d) l) (sv_rs (sd_W D.2.2.2.1 D.2.2.1 st) (sv_own (sd_n D.2.2.1 d) st (sg_sm (sd_n D.2.2.1) st)) (fun i => D.2.2.2.1 (12 * d + i)) (sd_n D.2.2.1 d) (sd_n D.2.1 d) l) = sx_ans (sf_M D st l d) (sf_S D st l d) := rfl
        rw [eA]
        have hsle := sf_S_le D (show st ≤ 32 by omega) l d
        cases hm : sf_M D st l d with
        | false => exact br_t rfl (nm_r (nI_1 _) (no (by rw [eH, hm]) M C V B))
        | true =>
          rw [hm] at eH
          have hr : sx_ans true (sf_S D st l d) = nI (sf_S D st l d) := rfl
          rw [hr]
          have hcl : hc ≤ lim := by have := hI.1; omega
          refine br_f (sx_nm (by omega)) (nm_r (nI_1 _) ⟨hv, by decide, ?_⟩)
          have e10 : D.2.1 d / 10 = nI (sd_n D.2.1 d / 10) := by
            rw [ep]
            show nI (sd_n D.2.1 d) / nI 10 = _
            rw [pk_div (by omega) (by omega) (by omega)]
          have hs' : ∀ k, k < 10 → upd SH (sd_n D.2.1 d / 10) (SH (sd_n D.2.1 d / 10) + 1) k = nI (sg_cn (sf_C D st ex l k) (d + 1)) := by
            intro k hk
            by_cases e : k = sd_n D.2.1 d / 10
            · subst e
              rw [pk_us, hs _ hk, nI_1, sg_cn_t (by unfold sf_C; rw [eH, decide_eq_true rfl]; rfl)]
            · rw [pk_un e, hs k hk, sg_cn_f (by unfold sf_C; rw [decide_eq_false (fun z => e z.symm), Bool.and_false]; decide)]
          have fin : ∀ z : Int32, sf_R D st bp l d = z → wX_find__pendingQuery_114 post (wX_find__pendingQuery_14 post (nI l.length) (nI lim) bp ex (m + 1)) (nI l.length) (nI lim) bp ex (nI (sg_cn (sf_H D st ex l) d + 1)) (nI d) (nI (sf_S D st l d)) z (nI dc) fnn fsg fpt fpq (nI st) (nI (sg_sm (sd_n D.2.2.1) st)) (nI hc) D.1 D.2.1 D.2.2.1 D.2.2.2.1 D.2.2.2.2.1 D.2.2.2.2.2 aV aPT aPQ aLQ aI M C V B G hN hS hR (upd SH (sd_n D.2.1 d / 10) (SH (sd_n D.2.1 d / 10) + 1)) aWQ aWL aNN aNC := by
            intro z hz
            refine ⟨hv, ?_⟩
            rw [ed]
            rw [← hz]
            have ecn : sg_cn (sf_H D st ex l) (d + 1) = sg_cn (sf_H D st ex l) d + 1 := sg_cn_t eH
            refine xf_keep hlim hcl (fun pl hPl hle => ?_) (fun pl hc' hPl hlt he => ?_)
            · have I' := I hc M C V B hN hS hR _ (by omega) (rk_skip hI eH hPl hle) hs'
              rw [ecn] at I'
              exact nm_r (nI_1 _) I'
            · have I' := I hc' M C V B _ _ _ _ (by omega) (rk_step hI eH hPl hlt hc' he) hs'
              rw [ecn] at I'
              exact nm_r (nI_1 _) I'
          rw [e10, nI_clamp (by omega)]
          refine ⟨vp_in_nI (by omega) (by omega), vp_in_nI (by omega) (by omega), nm_e ?_⟩
          by_cases hbp : bp = 0
          · exact br_t hbp (fin _ (by unfold sf_R; rw [if_pos hbp]))
          · exact br_f hbp ⟨hv, fin _ (by unfold sf_R; rw [if_neg hbp])⟩
  exact Exists.intro (dc + 1) (key dc 0 0 aM aC aW aB aHN aHS aHR _ (Nat.zero_add _) ⟨(Nat.zero_min _).symm, fun p hp => absurd hp (Nat.not_lt_zero p)⟩ (fun k hk => by
    have := sd_cy_in (a := aSH) (b := 0) (s := fun _ => 0) (c := 0) (m := 10) (i := k) hk
    rw [Nat.zero_add] at this
    rw [this]; rfl))
end
section
variable {fdc fnn fsg fpt fpq fsc fsl fhc : Int32} {aN aP aL aT aS aD aV aPT aPQ aLQ aI aM aC aW aB aG aHN aHS aHR aSH aWQ aWL aNN aNC : Nat → Int32}
theorem xf_likeQuery {D : sd_D} {dc st lim : Nat} {l : List Nat} {bp ex : Int32} (hD : sd_ok D) (hP : sd_P D.2.2.2.2.1 st dc) (hl : l.length ≤ 15) (hH : sr_H aLQ 0 l) (htk : sv_tks l) {kk : Bool} (hb : sq_b l = some [kk]) (hlim : lim ≤ 10) {post : Int32 → SX → Prop}
    (hp : ∀ (c1 c2 : Int32) (hc : Nat) (M C V B G hN hS hR SH : Nat → Int32), rk_I (sf_H D st ex l) (sf_R D st bp l) D.1 (fun e => nI (sf_S D st l e)) lim dc hc hN hS hR → (∀ k, k < 10 → SH k = nI (sg_cn (sf_C D st ex l k) dc)) →
      post (nI (sg_cn (sf_H D st ex l) dc)) (nI dc, fnn, fsg, fpt, fpq, c1, c2, nI hc, D.1, D.2.1, D.2.2.1, D.2.2.2.1, D.2.2.2.2.1, D.2.2.2.2.2, aV, aPT, aPQ, aLQ, aI, M, C, V, B, G, hN, hS, hR, SH, aWQ, aWL, aNN, aNC)) :
    wpX_find__likeQuery post (nI dc, fnn, fsg, fpt, fpq, fsc, fsl, fhc, D.1, D.2.1, D.2.2.1, D.2.2.2.1, D.2.2.2.2.1, D.2.2.2.2.2, aV, aPT, aPQ, aLQ, aI, aM, aC, aW, aB, aG, aHN, aHS, aHR, aSH, aWQ, aWL, aNN, aNC) (nI l.length) (nI lim) bp ex := by
  have hL := sd_ok_L hD
  refine xr_weigh (fsc := fsc) (fsl := fsl) hP hL ?_
  intro G hG
  obtain ⟨h1, h32, h3, h4⟩ := hP
  have htot : sg_sm (sd_n D.2.2.1) st ≤ 384 := by
    have := sg_sm_le (f := sd_n D.2.2.1) 12 st (fun i _ => (hL i).2)
    omega
  refine xf_forget (fhc := fhc) ?_
  have key : ∀ m d hc (M C V B hN hS hR SH : Nat → Int32), d + m = dc → rk_I (sf_H D st ex l) (sf_R D st bp l) D.1 (fun e => nI (sf_S D st l e)) lim d hc hN hS hR → (∀ k, k < 10 → SH k = nI (sg_cn (sf_C D st ex l k) d)) →
      wX_find__likeQuery_14 post (nI l.length) (nI lim) bp ex (m + 1) (nI (sg_cn (sf_H D st ex l) d)) (nI d) (nI dc) fnn fsg fpt fpq (nI st) (nI (sg_sm (sd_n D.2.2.1) st)) (nI hc) D.1 D.2.1 D.2.2.1 D.2.2.2.1 D.2.2.2.2.1 D.2.2.2.2.2 aV aPT aPQ aLQ aI M C V B G hN hS hR SH aWQ aWL aNN aNC := by
    intro m
    induction m with
    | zero =>
      intro d hc M C V B hN hS hR SH h hI hs
      obtain rfl : d = dc := by omega
      exact br_t (nI_le (Nat.le_refl _) (by omega)) (hp _ _ hc M C V B G hN hS hR SH hI hs)
    | succ m ih =>
      intro d hc M C V B hN hS hR SH h hI hs
      have ed : (nI d).toNatClampNeg = d := nI_clamp (by omega)
      have hv : vp_in (nI d) 32 := vp_in_nI (by omega) (by omega)
      have I := ih (d + 1)
      have no : sf_H D st ex l d = false → ∀ M C V B : Nat → Int32, wX_find__likeQuery_14 post (nI l.length) (nI lim) bp ex (m + 1) (nI (sg_cn (sf_H D st ex l) d)) (nI (d + 1)) (nI dc) fnn fsg fpt fpq (nI st) (nI (sg_sm (sd_n D.2.2.1) st)) (nI hc) D.1 D.2.1 D.2.2.1 D.2.2.2.1 D.2.2.2.2.1 D.2.2.2.2.2 aV aPT aPQ aLQ aI M C V B G hN hS hR SH aWQ aWL aNN aNC := by
        intro hf M C V B
        have I' := I hc M C V B hN hS hR SH (by omega) (rk_no hI hf) (fun k hk => by
          rw [sg_cn_f (by unfold sf_C; rw [hf, Bool.false_and]; decide)]
          exact hs k hk)
        rw [sg_cn_f (by rw [hf]; decide)] at I'
        exact I'
      refine br_f (nI_ge (by omega) (by omega)) ⟨hv, ?_⟩
      rw [ed]
      refine br_c (fun hc1 => nm_r (nI_1 _) (no (sf_H_f (fun z => ?_)) M C V B)) (fun hc1 => ⟨hv, br_c (fun hc2 => br_c (fun hc3 => nm_r (nI_1 _) (no (sf_H_f (fun z => z.2.2 hc3)) M C V B)) (fun hc3 => ?_)) (fun hc2 => nm_r (nI_1 _) (no (sf_H_f (fun z => hc2 z.2.1)) M C V B))⟩)
      · obtain ⟨c, hc', e⟩ := h3 d z.1
        rw [e] at hc1
        exact absurd hc1 (sx_nm hc')
      · have hdst : d < st := by
          rcases Nat.lt_or_ge d st with a | a
          · exact a
          · exact absurd (h4 d a (by omega)) hc1
        have eH := sf_H_t (l := l) hdst hc2 hc3
        obtain ⟨ep, hpr⟩ := sd_ok_P hD d
        refine xj_likeQuery (fr := 0) (W := sd_W D.2.2.2.1 D.2.2.1 st) (len := sd_n D.2.2.1 d) (pr := sd_n D.2.1 d) (by omega) (by omega) (hL d).2 htot hpr (hL d).1 ep hG (fun w _ => sd_W_le _ _ (by omega) w)
          (fun hz => by have := sg_sm_ge (f := sd_n D.2.2.1) st d hdst; omega) (by omega) (by omega) hH htk hb ?_
        intro M C V B
        have eA : sx_ans (sv_rm (sd_W D.2.2.2.1 D.2.2.1 st) (sv_own (sd_n D.2.2.1 d) st (sg_sm (sd_n D.2.2.1) st)) (fun i => D.2.2.2.1 (12 * d + i)) (sd_n D.2.2.1 d) (sd_n D.2.1 d) l) (sv_rs (sd_W D.2.2.2.1 D.2.2.1 st) (sv_own (sd_n D.2.2.1 d) st (sg_sm (sd_n D.2.2.1) st)) (fun i => D.2.2.2.1 (12 * d + i)) (sd_n D.2.2.1 d) (sd_n D.2.1 d) l) = sx_ans (sf_M D st l d) (sf_S D st l d) := rfl
        rw [eA]
        have hsle := sf_S_le D (show st ≤ 32 by omega) l d
        cases hm : sf_M D st l d with
        | false => exact br_t rfl (nm_r (nI_1 _) (no (by rw [eH, hm]) M C V B))
        | true =>
          rw [hm] at eH
          have hr : sx_ans true (sf_S D st l d) = nI (sf_S D st l d) := rfl
          rw [hr]
          have hcl : hc ≤ lim := by have := hI.1; omega
          refine br_f (sx_nm (by omega)) (nm_r (nI_1 _) ⟨hv, by decide, ?_⟩)
          have e10 : D.2.1 d / 10 = nI (sd_n D.2.1 d / 10) := by
            rw [ep]
            show nI (sd_n D.2.1 d) / nI 10 = _
            rw [pk_div (by omega) (by omega) (by omega)]
          have hs' : ∀ k, k < 10 → upd SH (sd_n D.2.1 d / 10) (SH (sd_n D.2.1 d / 10) + 1) k = nI (sg_cn (sf_C D st ex l k) (d + 1)) := by
            intro k hk
            by_cases e : k = sd_n D.2.1 d / 10
            · subst e
              rw [pk_us, hs _ hk, nI_1, sg_cn_t (by unfold sf_C; rw [eH, decide_eq_true rfl]; rfl)]
            · rw [pk_un e, hs k hk, sg_cn_f (by unfold sf_C; rw [decide_eq_false (fun z => e z.symm), Bool.and_false]; decide)]
          have fin : ∀ z : Int32, sf_R D st bp l d = z → wX_find__likeQuery_114 post (wX_find__likeQuery_14 post (nI l.length) (nI lim) bp ex (m + 1)) (nI l.length) (nI lim) bp ex (nI (sg_cn (sf_H D st ex l) d + 1)) (nI d) (nI (sf_S D st l d)) z (nI dc) fnn fsg fpt fpq (nI st) (nI (sg_sm (sd_n D.2.2.1) st)) (nI hc) D.1 D.2.1 D.2.2.1 D.2.2.2.1 D.2.2.2.2.1 D.2.2.2.2.2 aV aPT aPQ aLQ aI M C V B G hN hS hR (upd SH (sd_n D.2.1 d / 10) (SH (sd_n D.2.1 d / 10) + 1)) aWQ aWL aNN aNC := by
            intro z hz
            refine ⟨hv, ?_⟩
            rw [ed]
            rw [← hz]
            have ecn : sg_cn (sf_H D st ex l) (d + 1) = sg_cn (sf_H D st ex l) d + 1 := sg_cn_t eH
            refine xf_keep hlim hcl (fun pl hPl hle => ?_) (fun pl hc' hPl hlt he => ?_)
            · have I' := I hc M C V B hN hS hR _ (by omega) (rk_skip hI eH hPl hle) hs'
              rw [ecn] at I'
              exact nm_r (nI_1 _) I'
            · have I' := I hc' M C V B _ _ _ _ (by omega) (rk_step hI eH hPl hlt hc' he) hs'
              rw [ecn] at I'
              exact nm_r (nI_1 _) I'
          rw [e10, nI_clamp (by omega)]
          refine ⟨vp_in_nI (by omega) (by omega), vp_in_nI (by omega) (by omega), nm_e ?_⟩
          by_cases hbp : bp = 0
          · exact br_t hbp (fin _ (by unfold sf_R; rw [if_pos hbp]))
          · exact br_f hbp ⟨hv, fin _ (by unfold sf_R; rw [if_neg hbp])⟩
  exact Exists.intro (dc + 1) (key dc 0 0 aM aC aW aB aHN aHS aHR _ (Nat.zero_add _) ⟨(Nat.zero_min _).symm, fun p hp => absurd hp (Nat.not_lt_zero p)⟩ (fun k hk => by
    have := sd_cy_in (a := aSH) (b := 0) (s := fun _ => 0) (c := 0) (m := 10) (i := k) hk
    rw [Nat.zero_add] at this
    rw [this]; rfl))
end
