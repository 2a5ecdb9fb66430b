abbrev sn_S : Type := (Nat → Int32) × (Nat → Int32)
def sn_ap (s : sn_S) (w : Nat) (x : Int32) : sn_S :=
  if 8 ≤ sd_n s.2 w then (upd (sd_dr s.1 (8 * w) 7) (8 * w + 7) x, upd (upd s.2 w (nI 7)) w (nI 8)) else (upd s.1 (8 * w + sd_n s.2 w) x, upd s.2 w (nI (sd_n s.2 w + 1)))
def sn_w (W : Nat → List Nat) (mt : List Nat → Bool) (x : Int32) : Nat → sn_S → sn_S
  | 0, s => s
  | w + 1, s => if (W w).length = 0 then sn_w W mt x w s else if mt (W w) = true then sn_ap (sn_w W mt x w s) w x else sn_w W mt x w s
def sn_t (W : Nat → List Nat) (mt : Nat → List Nat → Bool) (N : Nat → Int32) (st : Nat) : Nat → sn_S → sn_S
  | 0, s => s
  | i + 1, s => sn_w W (mt (st + i)) (N (st + i)) 4 (sn_t W mt N st i s)
theorem sr_N_n {C : Nat → Int32} (h : sr_N C) {w : Nat} (hw : w < 4) : C w = nI (sd_n C w) ∧ sd_n C w ≤ 8 := by
  obtain ⟨c, h1, h2⟩ := h w hw
  have : sd_n C w = c := by unfold sd_n; rw [h2]; exact nI_clamp (by omega)
  rw [this]; exact ⟨h2, h1⟩
theorem sr_N_upd {C : Nat → Int32} (h : sr_N C) {w c : Nat} (hc : c ≤ 8) : sr_N (upd C w (nI c)) := by
  intro v hv
  by_cases e : v = w
  · subst e; rw [pk_us]; exact ⟨c, hc, rfl⟩
  · rw [pk_un e]; exact h v hv
theorem sn_ap_N {s : sn_S} (h : sr_N s.2) {w : Nat} (hw : w < 4) (x : Int32) : sr_N (sn_ap s w x).2 := by
  have := sr_N_n h hw
  unfold sn_ap
  split
  · exact sr_N_upd (sr_N_upd h (by omega)) (by omega)
  · exact sr_N_upd h (by omega)
theorem sn_w_N {W : Nat → List Nat} {mt : List Nat → Bool} {x : Int32} {s : sn_S} (h : sr_N s.2) : ∀ w, w ≤ 4 → sr_N (sn_w W mt x w s).2
  | 0, _ => h
  | w + 1, hw => by
    have ih := sn_w_N (W := W) (mt := mt) (x := x) h w (by omega)
    show sr_N (if (W w).length = 0 then sn_w W mt x w s else if mt (W w) = true then sn_ap (sn_w W mt x w s) w x else sn_w W mt x w s).2
    split
    · exact ih
    · split
      · exact sn_ap_N ih (by omega) x
      · exact ih
theorem sn_t_N {W : Nat → List Nat} {mt : Nat → List Nat → Bool} {N : Nat → Int32} {st : Nat} {s : sn_S} (h : sr_N s.2) : ∀ i, sr_N (sn_t W mt N st i s).2
  | 0 => h
  | i + 1 => sn_w_N (sn_t_N h i) 4 (Nat.le_refl _)
def sn_mt (D : sd_D) (d : Nat) (l : List Nat) : Bool := sv_rm (fun _ => 0) 0 (fun i => D.2.2.2.1 (12 * d + i)) (sd_n D.2.2.1 d) (sd_n D.2.1 d) l
theorem sx_8 (p : Nat) : nI p * 8 = nI (8 * p) := by
  show nI p * nI 8 = _
  rw [pk_mul, Nat.mul_comm]
theorem sy_8 (p : Nat) : 8 * nI p = nI (8 * p) := by
  show nI 8 * nI p = _
  rw [pk_mul]
theorem sd_ok_P {D : sd_D} (h : sd_ok D) (j : Nat) : D.2.1 j = nI (sd_n D.2.1 j) ∧ sd_n D.2.1 j < 100 := by
  obtain ⟨n, h1, h2⟩ := h.2.1 j
  have : sd_n D.2.1 j = n := by unfold sd_n; rw [h2]; exact nI_clamp (by omega)
  rw [this]; exact ⟨h2, h1⟩
def sn_W (W : Nat → List Nat) (aWQ aWL : Nat → Int32) : Prop :=
  ∀ w, w < 4 → (W w).length ≤ 12 ∧ sv_tks (W w) ∧ (W w ≠ [] → ∃ v, sq_b (W w) = some [v]) ∧ aWL w = nI (W w).length ∧ sr_H aWQ (12 * w) (W w)
section
variable {fdc fnn fsg fpt fpq fsc fsl fhc : Int32} {aN aP aL aT aS aD aV aPT aPQ aLQ aI aM aC aW aB aG aHN aHS aHR aSH aWQ aWL aNN aNC : Nat → Int32}
theorem xn_drop {w c : Nat} (hw : w < 4) (hc : aNC w = nI c) (h1 : 1 ≤ c) (h8 : c ≤ 8) {post : SX → Prop} (hp : post (fdc, fnn, fsg, fpt, fpq, fsc, fsl, fhc, aN, aP, aL, aT, aS, aD, aV, aPT, aPQ, aLQ, aI, aM, aC, aW, aB, aG, aHN, aHS, aHR, aSH, aWQ, aWL, sd_dr aNN (8 * w) (c - 1), upd aNC w (nI (c - 1)))) : wpX_dropFirstNews post (fdc, fnn, fsg, fpt, fpq, fsc, fsl, fhc, aN, aP, aL, aT, aS, aD, aV, aPT, aPQ, aLQ, aI, aM, aC, aW, aB, aG, aHN, aHS, aHR, aSH, aWQ, aWL, aNN, aNC) (nI w) := by
  have ew : (nI w).toNatClampNeg = w := nI_clamp (by omega)
  have hv : vp_in (nI w) 4 := vp_in_nI hw (by omega)
  have key : ∀ m k, k + 1 + m = c → wX_dropFirstNews_7 post (nI w) (nI (8 * w)) fdc fnn fsg fpt fpq fsc fsl fhc (m + 1) (nI (k + 1)) aN aP aL aT aS aD aV aPT aPQ aLQ aI aM aC aW aB aG aHN aHS aHR aSH aWQ aWL (sd_dr aNN (8 * w) k) aNC := by
    intro m
    induction m with
    | zero =>
      intro k h
      obtain rfl : k + 1 = c := by omega
      refine ⟨hv, ?_⟩
      rw [ew, hc]
      refine br_t (nI_le (Nat.le_refl _) (by omega)) ⟨hv, hv, ?_⟩
      rw [nI_pred]
      exact nm_e hp
    | succ m ih =>
      intro k h
      have e1 : nI (8 * w) + nI (k + 1) = nI (8 * w + k + 1) := by rw [nI_add]; rfl
      refine ⟨hv, ?_⟩
      rw [ew, hc]
      refine br_f (nI_ge (by omega) (by omega)) ⟨by rw [e1]; exact vp_in_nI (by omega) (by omega), by rw [e1, nI_pred]; exact vp_in_nI (by omega) (by omega), ?_⟩
      rw [e1, nI_pred, nI_clamp (by omega), nI_clamp (by omega)]
      exact nm_r (sd_dr_s aNN (8 * w) k) (nm_r (nI_1 _) (ih (k + 1) (by omega)))
  have k0 := key (c - 1) 0 (by omega)
  rw [sd_dr_0] at k0
  exact nm_r (sx_8 w) (Exists.intro (c - 1 + 1) k0)
theorem xn_app {w : Nat} {x : Int32} (hw : w < 4) (hN : sr_N aNC) {post : SX → Prop} (hp : post (fdc, fnn, fsg, fpt, fpq, fsc, fsl, fhc, aN, aP, aL, aT, aS, aD, aV, aPT, aPQ, aLQ, aI, aM, aC, aW, aB, aG, aHN, aHS, aHR, aSH, aWQ, aWL, (sn_ap (aNN, aNC) w x).1, (sn_ap (aNN, aNC) w x).2)) : wpX_appendNews post (fdc, fnn, fsg, fpt, fpq, fsc, fsl, fhc, aN, aP, aL, aT, aS, aD, aV, aPT, aPQ, aLQ, aI, aM, aC, aW, aB, aG, aHN, aHS, aHR, aSH, aWQ, aWL, aNN, aNC) (nI w) x := by
  have ew : (nI w).toNatClampNeg = w := nI_clamp (by omega)
  have hv : vp_in (nI w) 4 := vp_in_nI hw (by omega)
  obtain ⟨hc, h8⟩ := sr_N_n hN hw
  unfold sn_ap at hp
  simp only at hp
  generalize sd_n aNC w = c at hc h8 hp
  refine ⟨hv, ?_⟩
  rw [ew, hc]
  rcases Nat.lt_or_ge c 8 with h | h
  · rw [if_neg (by omega)] at hp
    refine br_t (nI_lt (b := 8) h (by decide)) ?_
    have e1 : nI w * 8 + nI c = nI (8 * w + c) := by rw [sx_8, nI_add]
    refine ⟨hv, ?_⟩
    rw [ew, hc]
    refine ⟨by rw [e1]; exact vp_in_nI (by omega) (by omega), ?_⟩
    rw [e1, nI_clamp (by omega)]
    refine nm_e ⟨hv, hv, ?_⟩
    rw [nI_1]
    exact nm_e hp
  · obtain rfl : c = 8 := by omega
    rw [if_pos h] at hp
    refine br_f (nI_nlt (b := 8) h (by decide)) (xn_drop hw hc (by omega) (by omega) ?_)
    have e1 : nI w * 8 + nI 7 = nI (8 * w + 7) := by rw [sx_8, nI_add]
    refine ⟨hv, ?_⟩
    rw [ew, pk_us]
    refine ⟨by show vp_in (nI w * 8 + nI 7) 32; rw [e1]; exact vp_in_nI (by omega) (by omega), ?_⟩
    refine nm_r (show upd _ (nI w * 8 + nI 7).toNatClampNeg x = _ by rw [e1, nI_clamp (by omega)]) ⟨hv, hv, ?_⟩
    exact nm_r (show upd _ w (nI 7 + 1) = upd _ w (nI 8) by rw [nI_1]) hp
theorem xn_tell {dc first : Nat} {W : Nat → List Nat} {D : sd_D} (h32 : dc ≤ 32) (hf : first ≤ dc) (hD : sd_ok D) (hS : sd_P D.2.2.2.2.1 dc dc) (hW : sn_W W aWQ aWL) (hN : sr_N aNC) {post : SX → Prop}
    (hp : ∀ (c1 c2 : Int32) (M C V B G : Nat → Int32), post (nI dc, fnn, fsg, fpt, fpq, c1, c2, fhc, D.1, D.2.1, D.2.2.1, D.2.2.2.1, D.2.2.2.2.1, D.2.2.2.2.2, aV, aPT, aPQ, aLQ, aI, M, C, V, B, G, aHN, aHS, aHR, aSH, aWQ, aWL, (sn_t W (sn_mt D) D.1 first (dc - first) (aNN, aNC)).1, (sn_t W (sn_mt D) D.1 first (dc - first) (aNN, aNC)).2)) :
    wpX_tellWatches post (nI dc, fnn, fsg, fpt, fpq, fsc, fsl, fhc, D.1, D.2.1, D.2.2.1, D.2.2.2.1, D.2.2.2.2.1, D.2.2.2.2.2, aV, aPT, aPQ, aLQ, aI, aM, aC, aW, aB, aG, aHN, aHS, aHR, aSH, aWQ, aWL, aNN, aNC) (nI first) := by
  have hL := sd_ok_L hD
  refine xr_weigh (fsc := fsc) (fsl := fsl) hS hL ?_
  intro G hG
  have htot : sg_sm (sd_n D.2.2.1) dc ≤ 384 := by
    have := sg_sm_le (f := sd_n D.2.2.1) 12 dc (fun i _ => (hL i).2)
    omega
  have inner : ∀ (J : Int32 → Int32 → Int32 → Int32 → Int32 → Int32 → Int32 → Int32 → Int32 → (Nat → Int32) → (Nat → Int32) → (Nat → Int32) → (Nat → Int32) → (Nat → Int32) → (Nat → Int32) → (Nat → Int32) → (Nat → Int32) → (Nat → Int32) → (Nat → Int32) → (Nat → Int32) → (Nat → Int32) → (Nat → Int32) → (Nat → Int32) → (Nat → Int32) → (Nat → Int32) → (Nat → Int32) → (Nat → Int32) → (Nat → Int32) → (Nat → Int32) → (Nat → Int32) → (Nat → Int32) → (Nat → Int32) → (Nat → Int32) → Prop) (d : Nat) (s0 : sn_S), d < dc → sr_N s0.2 →
      (∀ M C V B : Nat → Int32, J (nI (d + 1)) (nI dc) fnn fsg fpt fpq (nI dc) (nI (sg_sm (sd_n D.2.2.1) dc)) fhc D.1 D.2.1 D.2.2.1 D.2.2.2.1 D.2.2.2.2.1 D.2.2.2.2.2 aV aPT aPQ aLQ aI M C V B G aHN aHS aHR aSH aWQ aWL ((sn_w W (sn_mt D d) (D.1 d) 4 s0).1) ((sn_w W (sn_mt D d) (D.1 d) 4 s0).2)) →
      ∀ m w (M C V B : Nat → Int32), w + m = 4 → wX_tellWatches_16 post J (nI d) (m + 1) (nI w) (nI dc) fnn fsg fpt fpq (nI dc) (nI (sg_sm (sd_n D.2.2.1) dc)) fhc D.1 D.2.1 D.2.2.1 D.2.2.2.1 D.2.2.2.2.1 D.2.2.2.2.2 aV aPT aPQ aLQ aI M C V B G aHN aHS aHR aSH aWQ aWL ((sn_w W (sn_mt D d) (D.1 d) w s0).1) ((sn_w W (sn_mt D d) (D.1 d) w s0).2) := by
    intro J d s0 hd hs0 hJ m
    induction m with
    | zero =>
      intro w M C V B h
      obtain rfl : w = 4 := by omega
      exact br_t (nI_le (b := 4) (Nat.le_refl _) (by decide)) (nm_r (nI_1 _) (hJ M C V B))
    | succ m ih =>
      intro w M C V B h
      have ew : (nI w).toNatClampNeg = w := nI_clamp (by omega)
      have ed : (nI d).toNatClampNeg = d := nI_clamp (by omega)
      have hv : vp_in (nI w) 4 := vp_in_nI (by omega) (by omega)
      obtain ⟨w1, w2, w3, w4, w5⟩ := hW w (by omega)
      have I := ih (w + 1)
      have hsn := sn_w_N (W := W) (mt := sn_mt D d) (x := D.1 d) hs0 w (by omega)
      have es : sn_w W (sn_mt D d) (D.1 d) (w + 1) s0 = if (W w).length = 0 then sn_w W (sn_mt D d) (D.1 d) w s0 else if sn_mt D d (W w) = true then sn_ap (sn_w W (sn_mt D d) (D.1 d) w s0) w (D.1 d) else sn_w W (sn_mt D d) (D.1 d) w s0 := rfl
      rw [es] at I
      generalize sn_w W (sn_mt D d) (D.1 d) w s0 = s at I hsn
      refine br_f (nI_ge (b := 4) (by omega) (by decide)) ⟨hv, ?_⟩
      rw [ew, w4]
      by_cases hz : (W w).length = 0
      · rw [if_pos hz] at I
        exact br_t (by rw [hz]; rfl) (nm_r (nI_1 _) (I M C V B (by omega)))
      · rw [if_neg hz] at I
        refine br_f (nI_ne0 (by omega) (by omega)) ⟨hv, ?_⟩
        rw [sx_12]
        obtain ⟨kk, hkk⟩ := w3 (fun z => hz (by rw [z]; rfl))
        refine xj_watchQuery (W := sd_W D.2.2.2.1 D.2.2.1 dc) (len := sd_n D.2.2.1 d) (pr := sd_n D.2.1 d) (by omega) h32 (hL d).2 htot (sd_ok_P hD d).2 (hL d).1 (sd_ok_P hD d).1 hG (fun w _ => sd_W_le _ _ h32 w)
          (fun hz => by have := sg_sm_ge (f := sd_n D.2.2.1) dc d hd; omega) (by omega) (by omega) w5 w2 hkk ?_
        intro M C V B
        have em : sv_rm (sd_W D.2.2.2.1 D.2.2.1 dc) (sv_own (sd_n D.2.2.1 d) dc (sg_sm (sd_n D.2.2.1) dc)) (fun i => D.2.2.2.1 (12 * d + i)) (sd_n D.2.2.1 d) (sd_n D.2.1 d) (W w) = sn_mt D d (W w) := sv_rm_ind _
        have er := sv_rs_le (W := sd_W D.2.2.2.1 D.2.2.1 dc) (own := sv_own (sd_n D.2.2.1 d) dc (sg_sm (sd_n D.2.2.1) dc)) (T := fun i => D.2.2.2.1 (12 * d + i)) (len := sd_n D.2.2.1 d) (pr := sd_n D.2.1 d) (fun w _ => sd_W_le _ _ h32 w) (W w)
        rw [em]
        generalize sv_rs (sd_W D.2.2.2.1 D.2.2.1 dc) (sv_own (sd_n D.2.2.1 d) dc (sg_sm (sd_n D.2.2.1) dc)) (fun i => D.2.2.2.1 (12 * d + i)) (sd_n D.2.2.1 d) (sd_n D.2.1 d) (W w) = rs at er
        cases hm : sn_mt D d (W w) with
        | true =>
          rw [hm, if_pos rfl] at I
          refine br_f (sx_nm (c := rs) (by omega)) ⟨vp_in_nI (by omega) (by omega), ?_⟩
          rw [ed]
          exact xn_app (by omega) hsn (nm_r (nI_1 _) (I M C V B (by omega)))
        | false =>
          rw [hm, if_neg (by decide)] at I
          exact br_t rfl (nm_r (nI_1 _) (I M C V B (by omega)))
  have key : ∀ m i (M C V B : Nat → Int32), i + m = dc - first → wX_tellWatches_6 post (m + 1) (nI (first + i)) (nI dc) fnn fsg fpt fpq (nI dc) (nI (sg_sm (sd_n D.2.2.1) dc)) fhc D.1 D.2.1 D.2.2.1 D.2.2.2.1 D.2.2.2.2.1 D.2.2.2.2.2 aV aPT aPQ aLQ aI M C V B G aHN aHS aHR aSH aWQ aWL ((sn_t W (sn_mt D) D.1 first i (aNN, aNC)).1) ((sn_t W (sn_mt D) D.1 first i (aNN, aNC)).2) := by
    intro m
    induction m with
    | zero =>
      intro i M C V B h
      obtain rfl : i = dc - first := by omega
      exact br_t (nI_le (by omega) (by omega)) (hp _ _ M C V B G)
    | succ m ih =>
      intro i M C V B h
      refine br_f (nI_ge (by omega) (by omega)) (Exists.intro 5 ?_)
      exact inner _ (first + i) (sn_t W (sn_mt D) D.1 first i (aNN, aNC)) (by omega) (sn_t_N hN i) (fun M C V B => ih (i + 1) M C V B (by omega)) 4 0 M C V B rfl
  exact Exists.intro (dc - first + 1) (key (dc - first) 0 aM aC aW aB (Nat.zero_add _))
end
