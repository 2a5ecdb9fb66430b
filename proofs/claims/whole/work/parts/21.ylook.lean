section
variable {gdc gsg gnn gpt gkp : Int32} {bN bP bL bT bS bD bV bPT bTK bLN bKD bSP bWT bIS bMA bNN bNC bKN bSH bIH : Nat → Int32} {bSC bKS bHS : Nat → Int64}
/-- what the first round of look leaves of one row -/
theorem yl_prec {k d : Nat} {bp : Int32} {D : sd_D} {sco : Nat → Nat} (hk : k < 32) (hd : d < 32) (hD : sd_ok D) (hs : ∀ e, sco e ≤ 405) (hSk : bHS k = lN (sco k)) (hSd : bHS d = lN (sco d)) {post : Int32 → Prop}
    (hp : post (sg_B (rk_pr (fun i => (if bp = 0 then nI (sco i) else -(D.2.1 i) : Int32).toInt) k d))) : wpY_precedes post (gdc, gsg, gnn, gpt, gkp, D.1, D.2.1, D.2.2.1, D.2.2.2.1, D.2.2.2.2.1, D.2.2.2.2.2, bV, bPT, bTK, bLN, bKD, bSP, bWT, bIS, bMA, bSC, bNN, bNC, bKN, bKS, bSH, bIH, bHS) (nI k) (nI d) bp := by
  have ek : (nI k).toNatClampNeg = k := nI_clamp (by omega)
  have ed : (nI d).toNatClampNeg = d := nI_clamp (by omega)
  have hvk : vp_in (nI k) 32 := vp_in_nI hk (by omega)
  have hvd : vp_in (nI d) 32 := vp_in_nI hd (by omega)
  have f44 : ∀ x y : Int64, (x < y ↔ (if bp = 0 then nI (sco d) else -(D.2.1 d) : Int32).toInt < (if bp = 0 then nI (sco k) else -(D.2.1 k) : Int32).toInt) → (x = y ↔ (if bp = 0 then nI (sco k) else -(D.2.1 k) : Int32).toInt = (if bp = 0 then nI (sco d) else -(D.2.1 d) : Int32).toInt) →
      wY_precedes_44 post (nI k) (nI d) x y gdc gsg gnn gpt gkp D.1 D.2.1 D.2.2.1 D.2.2.2.1 D.2.2.2.2.1 D.2.2.2.2.2 bV bPT bTK bLN bKD bSP bWT bIS bMA bSC bNN bNC bKN bKS bSH bIH bHS := by
    intro x y h1 h2
    refine br_c (fun hc => ?_) (fun hc => br_c (fun he => br_c (fun hl => ?_) (fun hl => ?_)) (fun he => ?_))
    · rw [rk_pr_iff.mpr (Or.inl (h1.mp hc))] at hp
      exact hp
    · have hl' : d ≤ k := (nI_leI (by omega) (by omega)).mp hl
      rw [rk_pr_ff.mpr (fun z => by
        rcases z with z | z
        · exact hc (h1.mpr z)
        · omega)] at hp
      exact hp
    · have hl' : ¬ d ≤ k := fun z => hl ((nI_leI (by omega) (by omega)).mpr z)
      rw [rk_pr_iff.mpr (Or.inr ⟨h2.mp he, by omega⟩)] at hp
      exact hp
    · rw [rk_pr_ff.mpr (fun z => by
        rcases z with z | z
        · exact hc (h1.mpr z)
        · exact he (h2.mpr z.1))] at hp
      exact hp
  have neg : ∀ n : Nat, n ≤ 405 → (-(lN n)).toInt = -(n : Int) := by
    intro n hn
    rw [Int64.toInt_neg, pk_lT (by omega)]
    exact Int.bmod_eq_of_le (by omega) (by omega)
  have negI : ∀ n : Nat, n < 100 → (-(nI n)).toInt = -(n : Int) := by
    intro n hn
    rw [Int32.toInt_neg, nI_toInt (by omega)]
    exact Int.bmod_eq_of_le (by omega) (by omega)
  by_cases hb : bp = 0
  · refine br_t hb ⟨hvk, br_t hb ⟨hvd, ?_⟩⟩
    rw [ek, ed, hSk, hSd]
    have a1 := neg (sco k) (hs k)
    have a2 := neg (sco d) (hs d)
    have a3 := nI_toInt (n := sco k) (by have := hs k; omega)
    have a4 := nI_toInt (n := sco d) (by have := hs d; omega)
    refine f44 _ _ ?_ ?_
    · rw [if_pos hb, if_pos hb, Int64.lt_iff_toInt_lt, a1, a2, a3, a4]
      omega
    · rw [if_pos hb, if_pos hb, ← Int64.toInt_inj, a1, a2, a3, a4]
      omega
  · refine br_f hb ⟨hvk, br_f hb ⟨hvd, ?_⟩⟩
    obtain ⟨p1, p2⟩ := sd_ok_P hD k
    obtain ⟨q1, q2⟩ := sd_ok_P hD d
    rw [ek, ed]
    have a1 := negI _ p2
    have a2 := negI _ q2
    refine f44 _ _ ?_ ?_
    · rw [if_neg hb, if_neg hb, p1, q1, a1, a2, nI_l (by omega), nI_l (by omega), lN_lt (by omega) (by omega)]
      omega
    · rw [if_neg hb, if_neg hb, p1, q1, a1, a2, nI_l (by omega), nI_l (by omega), lN_eq (by omega) (by omega)]
      omega
theorem yl_look {D : sd_D} {dc st lim : Nat} {l : List Nat} {bp ex : Int32} (hD : sd_ok D) (hP : sd_P D.2.2.2.2.1 st dc) (hl : l.length ≤ 15) (hln : bLN 5 = nI l.length) (hH : sr_H bTK 80 l) (htk : sv_tks l) {kk : Bool} (hb : sq_b l = some [kk]) (hlim : lim ≤ 10) {post : Int32 → SY → Prop}
    (hp : ∀ (KD SP WT IS MA KN SH IH : Nat → Int32) (SC KS HS : Nat → Int64),
      (∀ e, e < dc → sf_H D st ex l e = true → rk_bf (sf_H D st ex l) (fun i => (sf_R D st bp l i).toInt) dc e < lim → KN (rk_bf (sf_H D st ex l) (fun i => (sf_R D st bp l i).toInt) dc e) = D.1 e ∧ KS (rk_bf (sf_H D st ex l) (fun i => (sf_R D st bp l i).toInt) dc e) = lN (sf_S D st l e)) →
      (∀ k, k < 10 → SH k = nI (sg_cn (sf_C D st ex l k) dc)) →
      post (nI (sg_cn (sf_H D st ex l) dc)) (nI dc, gsg, gnn, gpt, nI (min (sg_cn (sf_H D st ex l) dc) lim), D.1, D.2.1, D.2.2.1, D.2.2.2.1, D.2.2.2.2.1, D.2.2.2.2.2, bV, bPT, bTK, bLN, KD, SP, WT, IS, MA, SC, bNN, bNC, KN, KS, SH, IH, HS)) :
    wpY_look post (nI dc, gsg, gnn, gpt, gkp, D.1, D.2.1, D.2.2.1, D.2.2.2.1, D.2.2.2.2.1, D.2.2.2.2.2, bV, bPT, bTK, bLN, bKD, bSP, bWT, bIS, bMA, bSC, bNN, bNC, bKN, bKS, bSH, bIH, bHS) ex (nI lim) bp := by
  have hL := sd_ok_L hD
  have h1 := hP.1
  have h32 := hP.2.1
  have hcnle := sg_cn_le (sf_H D st ex l) dc
  -- the second round
  have second : ∀ (kp : Int32) (KD SP WT IS MA SH IH : Nat → Int32) (SC HS : Nat → Int64), kp = nI (min (sg_cn (sf_H D st ex l) dc) lim) → (∀ e, e < dc → IH e = sg_B (sf_H D st ex l e)) → (∀ e, e < dc → sf_H D st ex l e = true → HS e = lN (sf_S D st l e)) → (∀ k, k < 10 → SH k = nI (sg_cn (sf_C D st ex l k) dc)) →
      ∀ m d (KN : Nat → Int32) (KS : Nat → Int64), d + m = dc →
      (∀ e, e < d → sf_H D st ex l e = true → rk_bf (sf_H D st ex l) (fun i => (sf_R D st bp l i).toInt) dc e < lim → KN (rk_bf (sf_H D st ex l) (fun i => (sf_R D st bp l i).toInt) dc e) = D.1 e ∧ KS (rk_bf (sf_H D st ex l) (fun i => (sf_R D st bp l i).toInt) dc e) = lN (sf_S D st l e)) →
      wY_look_183 post (nI lim) bp (nI (sg_cn (sf_H D st ex l) dc)) (nI dc) gsg gnn gpt kp (m + 1) (nI d) D.1 D.2.1 D.2.2.1 D.2.2.2.1 D.2.2.2.2.1 D.2.2.2.2.2 bV bPT bTK bLN KD SP WT IS MA SC bNN bNC KN KS SH IH HS := by
    intro kp KD SP WT IS MA SH IH SC HS hkp hIH hHS hSH m
    induction m with
    | zero =>
      intro d KN KS h hK
      obtain rfl : d = dc := by omega
      rw [hkp]
      exact br_t (nI_le (Nat.le_refl _) (by omega)) (hp KD SP WT IS MA KN SH IH SC KS HS hK hSH)
    | succ m ih =>
      intro d KN KS h hK
      have ed : (nI d).toNatClampNeg = d := nI_clamp (by omega)
      have hv : vp_in (nI d) 32 := vp_in_nI (by omega) (by omega)
      have I := ih (d + 1)
      refine br_f (nI_ge (by omega) (by omega)) ⟨hv, ?_⟩
      rw [ed, hIH d (by omega)]
      cases hm : sf_H D st ex l d with
      | false =>
        refine br_t rfl (nm_r (nI_1 _) (I KN KS (by omega) (fun e he hHe => hK e ?_ hHe)))
        rcases Nat.lt_or_ge e d with a | a
        · exact a
        · obtain rfl : e = d := by omega
          rw [hm] at hHe
          exact absurd hHe (by decide)
      | true =>
        refine br_f (by decide) (Exists.intro (dc + 1) ?_)
        have l211 : ∀ q k, k + q = dc → wY_look_211 post (wY_look_183 post (nI lim) bp (nI (sg_cn (sf_H D st ex l) dc)) (nI dc) gsg gnn gpt kp (m + 1)) (nI lim) bp (nI (sg_cn (sf_H D st ex l) dc)) (nI d) (nI dc) gsg gnn gpt kp D.1 D.2.1 D.2.2.1 D.2.2.2.1 D.2.2.2.2.1 D.2.2.2.2.2 bV bPT bTK bLN KD SP WT IS MA SC bNN bNC KN KS SH IH HS (q + 1) (nI (sg_cn (fun k => sf_H D st ex l k && rk_pr (fun i => (sf_R D st bp l i).toInt) k d) k)) (nI k) := by
          intro q
          induction q with
          | zero =>
            intro k hk
            obtain rfl : k = dc := by omega
            refine br_t (nI_le (Nat.le_refl _) (by omega)) ?_
            have hbl : rk_bf (sf_H D st ex l) (fun i => (sf_R D st bp l i).toInt) k d ≤ k := sg_cn_le _ _
            have eB : sg_cn (fun k => sf_H D st ex l k && rk_pr (fun i => (sf_R D st bp l i).toInt) k d) k = rk_bf (sf_H D st ex l) (fun i => (sf_R D st bp l i).toInt) k d := rfl
            rw [eB]
            have hinj : ∀ e, e < d → sf_H D st ex l e = true → rk_bf (sf_H D st ex l) (fun i => (sf_R D st bp l i).toInt) k e ≠ rk_bf (sf_H D st ex l) (fun i => (sf_R D st bp l i).toInt) k d := fun e he hHe => rk_inj (by omega) (by omega) hHe hm (by omega)
            generalize hB : rk_bf (sf_H D st ex l) (fun i => (sf_R D st bp l i).toInt) k d = b at hbl hinj
            refine br_c (fun hc => ?_) (fun hc => ?_)
            · have hlt : b < lim := (nI_ltI (by omega) (by omega)).mp hc
              have hvb : vp_in (nI b) 10 := vp_in_nI (by omega) (by omega)
              refine ⟨hv, hvb, ?_⟩
              rw [nI_clamp (n := b) (by omega), ed]
              refine nm_e ⟨hv, hvb, nm_e (nm_r (nI_1 _) (I _ _ (by omega) (fun e he hHe hbe => ?_)))⟩
              rcases Nat.lt_or_ge e d with a | a
              · have hne := hinj e a hHe
                rw [pk_un hne, pk_uLn hne]
                exact hK e a hHe hbe
              · obtain rfl : e = d := by omega
                rw [hB, pk_us, pk_uLs]
                exact ⟨rfl, hHS e (by omega) hm⟩
            · have hlt : ¬ b < lim := fun z => hc ((nI_ltI (by omega) (by omega)).mpr z)
              refine nm_r (nI_1 _) (I _ _ (by omega) (fun e he hHe hbe => ?_))
              rcases Nat.lt_or_ge e d with a | a
              · exact hK e a hHe hbe
              · obtain rfl : e = d := by omega
                exact absurd hbe (by rw [hB]; exact hlt)
          | succ q ihq =>
            intro k hk
            have ek : (nI k).toNatClampNeg = k := nI_clamp (by omega)
            have J := ihq (k + 1) (by omega)
            refine br_f (nI_ge (by omega) (by omega)) ⟨vp_in_nI (by omega) (by omega), ?_⟩
            rw [ek, hIH k (by omega)]
            cases hmk : sf_H D st ex l k with
            | false =>
              rw [sg_cn_f (by show ¬ (sf_H D st ex l k && rk_pr (fun i => (sf_R D st bp l i).toInt) k d) = true; rw [hmk, Bool.false_and]; decide)] at J
              exact br_t rfl (nm_r (nI_1 _) J)
            | true =>
              refine br_f (by decide) ?_
              refine yl_prec (sco := sf_S D st l) (by omega) (by omega) hD (fun e => by have := sf_S_le D (show st ≤ 32 by omega) l e; omega) (hHS k (by omega) hmk) (hHS d (by omega) hm) ?_
              show (sg_B (rk_pr (fun i => (sf_R D st bp l i).toInt) k d) = 0 → _) ∧ (¬ sg_B (rk_pr (fun i => (sf_R D st bp l i).toInt) k d) = 0 → _)
              cases hpr : rk_pr (fun i => (sf_R D st bp l i).toInt) k d with
              | false =>
                rw [sg_cn_f (by show ¬ (sf_H D st ex l k && rk_pr (fun i => (sf_R D st bp l i).toInt) k d) = true; rw [hpr, Bool.and_false]; decide)] at J
                exact br_t rfl (nm_r (nI_1 _) J)
              | true =>
                rw [sg_cn_t (by show (sf_H D st ex l k && rk_pr (fun i => (sf_R D st bp l i).toInt) k d) = true; rw [hpr, hmk]; rfl)] at J
                exact br_f (by decide) (nm_r (nI_1 _) (nm_r (nI_1 _) J))
        exact l211 dc 0 (Nat.zero_add _)
  -- the first round
  have first : ∀ m d (KD SP WT IS MA SH IH : Nat → Int32) (SC HS : Nat → Int64), d + m = dc → (∀ e, e < d → IH e = sg_B (sf_H D st ex l e)) → (∀ e, e < d → sf_H D st ex l e = true → HS e = lN (sf_S D st l e)) → (∀ k, k < 10 → SH k = nI (sg_cn (sf_C D st ex l k) d)) →
      wY_look_30 post ex (nI lim) bp (m + 1) (nI (sg_cn (sf_H D st ex l) d)) (nI d) (nI dc) gsg gnn gpt gkp D.1 D.2.1 D.2.2.1 D.2.2.2.1 D.2.2.2.2.1 D.2.2.2.2.2 bV bPT bTK bLN KD SP WT IS MA SC bNN bNC bKN bKS SH IH HS := by
    intro m
    induction m with
    | zero =>
      intro d KD SP WT IS MA SH IH SC HS h hIH hHS hSH
      obtain rfl : d = dc := by omega
      have go : ∀ kp : Int32, kp = nI (min (sg_cn (sf_H D st ex l) d) lim) → _ := fun kp hkp => second kp KD SP WT IS MA SH IH SC HS hkp hIH hHS hSH d 0 bKN bKS (Nat.zero_add _) (fun e he => absurd he (Nat.not_lt_zero e))
      refine br_t (nI_le (Nat.le_refl _) (by omega)) (br_c (fun hc => ?_) (fun hc => ?_))
      · have hle := (nI_leI (by omega) (by omega)).mp hc
        exact Exists.intro _ (go (nI lim) (by rw [Nat.min_eq_right hle]))
      · have hle : ¬ lim ≤ sg_cn (sf_H D st ex l) d := fun z => hc ((nI_leI (by omega) (by omega)).mpr z)
        exact Exists.intro _ (go _ (by rw [Nat.min_eq_left (by omega)]))
    | succ m ih =>
      intro d KD SP WT IS MA SH IH SC HS h hIH hHS hSH
      have ed : (nI d).toNatClampNeg = d := nI_clamp (by omega)
      have hv : vp_in (nI d) 32 := vp_in_nI (by omega) (by omega)
      have I := ih (d + 1)
      have ext : ∀ (x : Bool) (e : Nat), sf_H D st ex l d = x → e < d + 1 → upd IH d (sg_B x) e = sg_B (sf_H D st ex l e) := by
        intro x e hx he
        by_cases hed : e = d
        · subst hed; rw [pk_us, hx]
        · rw [pk_un hed]; exact hIH e (by omega)
      have no : sf_H D st ex l d = false → ∀ IH' : Nat → Int32, (∀ e, e < d + 1 → IH' e = sg_B (sf_H D st ex l e)) → ∀ (KD SP WT IS MA : Nat → Int32) (SC HS' : Nat → Int64), (∀ e, e < d → HS' e = HS e) →
          wY_look_30 post ex (nI lim) bp (m + 1) (nI (sg_cn (sf_H D st ex l) d)) (nI (d + 1)) (nI dc) gsg gnn gpt gkp D.1 D.2.1 D.2.2.1 D.2.2.2.1 D.2.2.2.2.1 D.2.2.2.2.2 bV bPT bTK bLN KD SP WT IS MA SC bNN bNC bKN bKS SH IH' HS' := by
        intro hf IH' hIH' KD SP WT IS MA SC HS' hHS'
        have I' := I KD SP WT IS MA SH IH' SC HS' (by omega) hIH' (fun e he hHe => by
          rcases Nat.lt_or_ge e d with a | a
          · rw [hHS' e a]; exact hHS e a hHe
          · obtain rfl : e = d := by omega
            rw [hf] at hHe
            exact absurd hHe (by decide)) (fun k hk => by
          rw [sg_cn_f (by unfold sf_C; rw [hf, Bool.false_and]; decide)]
          exact hSH k hk)
        rw [sg_cn_f (by rw [hf]; decide)] at I'
        exact I'
      have f75 : sf_H D st ex l d = false → wY_look_75 post (wY_look_30 post ex (nI lim) bp (m + 1)) ex (nI lim) bp (nI (sg_cn (sf_H D st ex l) d)) (nI d) (nI d) (nI dc) gsg gnn gpt gkp D.1 D.2.1 D.2.2.1 D.2.2.2.1 D.2.2.2.2.1 D.2.2.2.2.2 bV bPT bTK bLN KD SP WT IS MA SC bNN bNC bKN bKS SH IH HS := by
        intro hf
        refine ⟨hv, ?_⟩
        rw [ed]
        refine nm_r (by rw [sx_nb (Or.inl rfl)]) ⟨hv, br_t pk_us (nm_r (nI_1 _) (no hf _ (fun e he => ext false e hf he) KD SP WT IS MA SC HS (fun _ _ => rfl)))⟩
      refine br_f (nI_ge (by omega) (by omega)) ⟨hv, ?_⟩
      rw [ed]
      refine br_c (fun hc1 => f75 (sf_H_f (fun z => (sd_P_lt hP (show d < dc by omega)).mp hc1 z.1))) (fun hc1 => ⟨hv, br_c (fun hc2 => br_c (fun hc3 => f75 (sf_H_f (fun z => z.2.2 hc3))) (fun hc3 => ?_)) (fun hc2 => f75 (sf_H_f (fun z => hc2 z.2.1)))⟩)
      have hdst : d < st := by
        rcases Nat.lt_or_ge d st with a | a
        · exact a
        · exact absurd ((sd_P_lt hP (show d < dc by omega)).mpr (by omega)) hc1
      have eH := sf_H_t (l := l) hdst hc2 hc3
      refine ⟨hv, ?_⟩
      rw [ed]
      refine nm_r (by rw [sx_nb (Or.inr rfl)]) ⟨hv, br_f (by rw [pk_us]; decide) ?_⟩
      refine yk_work (li := 5) (l := l) (pr := sd_n D.2.1 d) (by omega) hP hL (sd_ok_P hD d).2 (sd_ok_P hD d).1 (by omega) hl hln hH htk hb ?_
      intro KD SP WT IS MA SC hM hS
      have hM' : MA 0 = sg_B (sf_M D st l d) := hM
      have hS' : SC 0 = lN (sf_S D st l d) := hS
      rw [← eH] at hM'
      refine ⟨hv, ?_⟩
      refine nm_r (show upd (upd IH d 1) d (vp_nar .boolean (MA 0)) = upd IH d (sg_B (sf_H D st ex l d)) by rw [hM', sx_nb (sg_B_01 _), sy_uu]) ⟨hv, nm_r (show vp_updL HS d (SC 0) = vp_updL HS d (lN (sf_S D st l d)) by rw [hS']) ⟨hv, ?_⟩⟩
      rw [pk_us]
      cases hm : sf_H D st ex l d with
      | false => exact br_t rfl (nm_r (nI_1 _) (no hm _ (fun e he => ext false e hm he) KD SP WT IS MA SC _ (fun e he => pk_uLn (by omega))))
      | true =>
        obtain ⟨ep, hpr⟩ := sd_ok_P hD d
        have e10 : D.2.1 d / 10 = nI (sd_n D.2.1 d / 10) := by
          rw [ep]
          show nI (sd_n D.2.1 d) / nI 10 = _
          rw [pk_div (by omega) (by omega) (by omega)]
        have hs' : ∀ k, k < 10 → upd SH (sd_n D.2.1 d / 10) (SH (sd_n D.2.1 d / 10) + 1) k = nI (sg_cn (sf_C D st ex l k) (d + 1)) := by
          intro k hk
          by_cases e : k = sd_n D.2.1 d / 10
          · subst e
            rw [pk_us, hSH _ hk, nI_1, sg_cn_t (by unfold sf_C; rw [hm, decide_eq_true rfl]; rfl)]
          · rw [pk_un e, hSH k hk, sg_cn_f (by unfold sf_C; rw [decide_eq_false (fun z => e z.symm), Bool.and_false]; decide)]
        have I' := I KD SP WT IS MA _ _ SC (vp_updL HS d (lN (sf_S D st l d))) (by omega) (fun e he => ext true e hm he) (fun e he hHe => by
          by_cases hed : e = d
          · subst hed; rw [pk_uLs]
          · rw [pk_uLn hed]; exact hHS e (by omega) hHe) hs'
        rw [sg_cn_t hm] at I'
        refine br_f (by decide) (nm_r (nI_1 _) ⟨hv, by decide, ?_⟩)
        rw [e10, nI_clamp (by omega)]
        exact ⟨vp_in_nI (by omega) (by omega), vp_in_nI (by omega) (by omega), nm_e (nm_r (nI_1 _) I')⟩
  -- the shares
  have zero : ∀ m i, i + m = 10 → wY_look_6 post ex (nI lim) bp 0 (nI dc) gsg gnn gpt gkp (m + 1) (nI i) D.1 D.2.1 D.2.2.1 D.2.2.2.1 D.2.2.2.2.1 D.2.2.2.2.2 bV bPT bTK bLN bKD bSP bWT bIS bMA bSC bNN bNC bKN bKS (sd_cy bSH 0 (fun _ => 0) 0 i) bIH bHS := by
    intro m
    induction m with
    | zero =>
      intro i h
      obtain rfl : i = 10 := by omega
      refine br_t (nI_le (b := 10) (Nat.le_refl _) (by decide)) (Exists.intro (dc + 1) ?_)
      exact first dc 0 bKD bSP bWT bIS bMA _ bIH bSC bHS (Nat.zero_add _) (fun e he => absurd he (Nat.not_lt_zero e)) (fun e he => absurd he (Nat.not_lt_zero e)) (fun k hk => by
        have := sd_cy_in (a := bSH) (b := 0) (s := fun _ => 0) (c := 0) (m := 10) (i := k) hk
        rw [Nat.zero_add] at this
        rw [this]; rfl)
    | succ m ih =>
      intro i h
      refine br_f (nI_ge (b := 10) (by omega) (by decide)) ⟨vp_in_nI (by omega) (by omega), ?_⟩
      rw [nI_clamp (by omega)]
      have e3 := sd_cy_s bSH 0 (fun _ => 0) 0 i
      rw [Nat.zero_add] at e3
      exact nm_r e3 (nm_r (nI_1 _) (ih (i + 1) (by omega)))
  have k0 := zero 10 0 rfl
  rw [sd_cy_0] at k0
  exact Exists.intro 11 k0
end
