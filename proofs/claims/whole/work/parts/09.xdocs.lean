theorem sx_nb {x : Int32} (h : x = 0 ∨ x = 1) : vp_nar .boolean x = x := by
  rcases h with h | h
  · subst h; rfl
  · subst h; rfl
theorem sg_B_01 (b : Bool) : sg_B b = 0 ∨ sg_B b = 1 := by
  cases b
  · exact Or.inl rfl
  · exact Or.inr rfl
def sd_rmv : Nat → Nat → sd_D → sd_D
  | 0, _, D => D
  | m + 1, k, D => sd_rmv m (k + 1) (sd_cp D (k + 1) k)
theorem sd_jn_le (fr : Int32) (D : sd_D) : ∀ d, (sd_jn fr D d).2.1 ≤ d ∧ (sd_jn fr D d).2.2 ≤ (sd_jn fr D d).2.1
  | 0 => ⟨Nat.le_refl _, Nat.le_refl _⟩
  | d + 1 => by
    obtain ⟨h1, h2⟩ := sd_jn_le fr D d
    show (sd_js fr d (sd_jn fr D d)).2.1 ≤ d + 1 ∧ (sd_js fr d (sd_jn fr D d)).2.2 ≤ (sd_js fr d (sd_jn fr D d)).2.1
    generalize sd_jn fr D d = s at h1 h2
    unfold sd_js
    split
    · split
      · show s.2.1 + 1 ≤ d + 1 ∧ s.2.2 + 1 ≤ s.2.1 + 1
        omega
      · omega
    · show s.2.1 + 1 ≤ d + 1 ∧ s.2.2 ≤ s.2.1 + 1
      omega
section
variable {fdc fnn fsg fpt fpq fsc fsl fhc : Int32} {aN aP aL aT aS aD aV aPT aPQ aLQ aI aM aC aW aB aG aHN aHS aHR aSH aWQ aWL aNN aNC : Nat → Int32}
theorem xd_append {dc pt : Nat} (hd : dc < 32) (hpt : pt ≤ 12) {num price : Int32} {post : SX → Prop}
    (hp : post (nI (dc + 1), fnn, fsg, nI pt, fpq, fsc, fsl, fhc, upd aN dc num, upd aP dc price, upd aL dc (nI pt), sd_cy aT (12 * dc) aPT 0 pt, upd aS dc (-1), upd aD dc 0, aV, aPT, aPQ, aLQ, aI, aM, aC, aW, aB, aG, aHN, aHS, aHR, aSH, aWQ, aWL, aNN, aNC)) :
    wpX_appendDocument post (nI dc, fnn, fsg, nI pt, fpq, fsc, fsl, fhc, aN, aP, aL, aT, aS, aD, aV, aPT, aPQ, aLQ, aI, aM, aC, aW, aB, aG, aHN, aHS, aHR, aSH, aWQ, aWL, aNN, aNC) num price := by
  have ed : (nI dc).toNatClampNeg = dc := nI_clamp (by omega)
  have key : ∀ m i, i + m = pt → wX_appendDocument_56 post (nI dc) (nI (dc + 1)) fnn fsg (nI pt) fpq fsc fsl fhc (m + 1) (nI i) (upd aN dc num) (upd aP dc price) (upd aL dc (nI pt)) (sd_cy aT (12 * dc) aPT 0 i) (upd aS dc (-1)) (upd aD dc 0) aV aPT aPQ aLQ aI aM aC aW aB aG aHN aHS aHR aSH aWQ aWL aNN aNC := by
    intro m
    induction m with
    | zero =>
      intro i h
      obtain rfl : i = pt := by omega
      exact br_t (nI_le (Nat.le_refl _) (by omega)) hp
    | succ m ih =>
      intro i h
      have e1 : (nI i).toNatClampNeg = i := nI_clamp (by omega)
      have e2 : (nI dc * 12 + nI i).toNatClampNeg = 12 * dc + i := by rw [sx_ix]; exact nI_clamp (by omega)
      refine br_f (nI_ge (by omega) (by omega)) ⟨vp_in_nI (by omega) (by omega), by rw [sx_ix]; exact vp_in_nI (by omega) (by omega), ?_⟩
      rw [e1, e2]
      have e3 := sd_cy_s aT (12 * dc) aPT 0 i
      rw [Nat.zero_add] at e3
      exact nm_r e3 (nm_r (nI_1 _) (ih (i + 1) (by omega)))
  have k0 := key pt 0 (Nat.zero_add _)
  rw [sd_cy_0] at k0
  have hv : vp_in (nI dc) 32 := vp_in_nI hd (by omega)
  refine nm_r (nI_1 _) ⟨hv, ?_⟩
  rw [ed]
  refine nm_e ⟨hv, nm_e ⟨hv, nm_e ⟨hv, nm_e ⟨hv, nm_r (by rw [sx_nb (Or.inl rfl)]) (Exists.intro (pt + 1) k0)⟩⟩⟩⟩
theorem xd_move {D : sd_D} {f t : Nat} (hf : f < 32) (ht : t < 32) (hD : D.2.2.2.2.2 f = 0 ∨ D.2.2.2.2.2 f = 1) {post : SX → Prop}
    (hp : post (fdc, fnn, fsg, fpt, fpq, fsc, fsl, fhc, (sd_cp D f t).1, (sd_cp D f t).2.1, (sd_cp D f t).2.2.1, (sd_cp D f t).2.2.2.1, (sd_cp D f t).2.2.2.2.1, (sd_cp D f t).2.2.2.2.2, aV, aPT, aPQ, aLQ, aI, aM, aC, aW, aB, aG, aHN, aHS, aHR, aSH, aWQ, aWL, aNN, aNC)) : wpX_moveDocument post (fdc, fnn, fsg, fpt, fpq, fsc, fsl, fhc, D.1, D.2.1, D.2.2.1, D.2.2.2.1, D.2.2.2.2.1, D.2.2.2.2.2, aV, aPT, aPQ, aLQ, aI, aM, aC, aW, aB, aG, aHN, aHS, aHR, aSH, aWQ, aWL, aNN, aNC) (nI f) (nI t) := by
  have ef : (nI f).toNatClampNeg = f := nI_clamp (by omega)
  have et : (nI t).toNatClampNeg = t := nI_clamp (by omega)
  have key : ∀ m i, i + m = 12 → wX_moveDocument_62 post (nI f) (nI t) fdc fnn fsg fpt fpq fsc fsl fhc (m + 1) (nI i) ((sd_cp D f t).1) ((sd_cp D f t).2.1) ((sd_cp D f t).2.2.1) (sd_cy D.2.2.2.1 (12 * t) D.2.2.2.1 (12 * f) i) ((sd_cp D f t).2.2.2.2.1) ((sd_cp D f t).2.2.2.2.2) aV aPT aPQ aLQ aI aM aC aW aB aG aHN aHS aHR aSH aWQ aWL aNN aNC := by
    intro m
    induction m with
    | zero =>
      intro i h
      obtain rfl : i = 12 := by omega
      exact br_t (nI_le (b := 12) (Nat.le_refl _) (by decide)) hp
    | succ m ih =>
      intro i h
      have e1 : (nI f * 12 + nI i).toNatClampNeg = 12 * f + i := by rw [sx_ix]; exact nI_clamp (by omega)
      have e2 : (nI t * 12 + nI i).toNatClampNeg = 12 * t + i := by rw [sx_ix]; exact nI_clamp (by omega)
      refine br_f (nI_ge (b := 12) (by omega) (by decide)) ⟨by rw [sx_ix]; exact vp_in_nI (by omega) (by omega), by rw [sx_ix]; exact vp_in_nI (by omega) (by omega), ?_⟩
      rw [e1, e2]
      have e3 := sd_cy_s D.2.2.2.1 (12 * t) D.2.2.2.1 (12 * f) i
      rw [← sd_cy_mv D.2.2.2.1 f t i (by omega)] at e3
      exact nm_r e3 (nm_r (nI_1 _) (ih (i + 1) (by omega)))
  have k0 := key 12 0 rfl
  rw [sd_cy_0] at k0
  have hvf : vp_in (nI f) 32 := vp_in_nI hf (by omega)
  have hvt : vp_in (nI t) 32 := vp_in_nI ht (by omega)
  refine ⟨hvf, hvt, ?_⟩
  rw [ef, et]
  exact nm_e ⟨hvf, hvt, nm_e ⟨hvf, hvt, nm_e ⟨hvf, hvt, nm_e ⟨hvf, hvt, nm_r (by rw [sx_nb hD]; rfl) (Exists.intro 13 k0)⟩⟩⟩⟩
theorem xd_remove {dc : Nat} (h32 : dc ≤ 32) {post : SX → Prop} : ∀ m k (D : sd_D), k + 1 + m = dc → sd_ok D → post (nI (dc - 1), fnn, fsg, fpt, fpq, fsc, fsl, fhc, (sd_rmv m k D).1, (sd_rmv m k D).2.1, (sd_rmv m k D).2.2.1, (sd_rmv m k D).2.2.2.1, (sd_rmv m k D).2.2.2.2.1, (sd_rmv m k D).2.2.2.2.2, aV, aPT, aPQ, aLQ, aI, aM, aC, aW, aB, aG, aHN, aHS, aHR, aSH, aWQ, aWL, aNN, aNC) →
    wX_removeSlot_4 post (m + 1) (nI (k + 1)) (nI dc) fnn fsg fpt fpq fsc fsl fhc D.1 D.2.1 D.2.2.1 D.2.2.2.1 D.2.2.2.2.1 D.2.2.2.2.2 aV aPT aPQ aLQ aI aM aC aW aB aG aHN aHS aHR aSH aWQ aWL aNN aNC := by
  intro m
  induction m with
  | zero =>
    intro k D h _ hp
    obtain rfl : k + 1 = dc := by omega
    exact br_t (nI_le (Nat.le_refl _) (by omega)) (nm_r (nI_pred k) hp)
  | succ m ih =>
    intro k D h hD hp
    refine br_f (nI_ge (by omega) (by omega)) ?_
    rw [nI_pred]
    exact xd_move (by omega) (by omega) (hD.2.2.2 _) (nm_r (nI_1 _) (ih (k + 1) _ (by omega) (sd_ok_cp hD _ _) hp))
theorem xd_join {dc f : Nat} {lev : Int32} (h32 : dc ≤ 32) (hf : f < 32) {D : sd_D} (hD : sd_ok D) {post : SX → Prop}
    (hp0 : (sd_jn (nI f) D dc).2.2 = 0 → post (nI (sd_jn (nI f) D dc).2.1, fnn, nI f, fpt, fpq, fsc, fsl, fhc, ((sd_jn (nI f) D dc).1).1, ((sd_jn (nI f) D dc).1).2.1, ((sd_jn (nI f) D dc).1).2.2.1, ((sd_jn (nI f) D dc).1).2.2.2.1, ((sd_jn (nI f) D dc).1).2.2.2.2.1, ((sd_jn (nI f) D dc).1).2.2.2.2.2, aV, aPT, aPQ, aLQ, aI, aM, aC, aW, aB, aG, aHN, aHS, aHR, aSH, aWQ, aWL, aNN, aNC))
    (hp1 : 0 < (sd_jn (nI f) D dc).2.2 → post (nI (sd_jn (nI f) D dc).2.1, fnn, nI (f + 1), fpt, fpq, fsc, fsl, fhc, ((sd_jn (nI f) D dc).1).1, ((sd_jn (nI f) D dc).1).2.1, ((sd_jn (nI f) D dc).1).2.2.1, ((sd_jn (nI f) D dc).1).2.2.2.1, ((sd_jn (nI f) D dc).1).2.2.2.2.1, ((sd_jn (nI f) D dc).1).2.2.2.2.2, upd aV f lev, aPT, aPQ, aLQ, aI, aM, aC, aW, aB, aG, aHN, aHS, aHR, aSH, aWQ, aWL, aNN, aNC)) :
    wpX_joinSegments post (nI dc, fnn, fsg, fpt, fpq, fsc, fsl, fhc, D.1, D.2.1, D.2.2.1, D.2.2.2.1, D.2.2.2.2.1, D.2.2.2.2.2, aV, aPT, aPQ, aLQ, aI, aM, aC, aW, aB, aG, aHN, aHS, aHR, aSH, aWQ, aWL, aNN, aNC) (nI f) lev := by
  have key : ∀ m d, d + m = dc → wX_joinSegments_8 post (nI f) lev (m + 1) (nI (sd_jn (nI f) D d).2.1) (nI (sd_jn (nI f) D d).2.2) (nI d) (nI dc) fnn fsg fpt fpq fsc fsl fhc (((sd_jn (nI f) D d).1).1) (((sd_jn (nI f) D d).1).2.1) (((sd_jn (nI f) D d).1).2.2.1) (((sd_jn (nI f) D d).1).2.2.2.1) (((sd_jn (nI f) D d).1).2.2.2.2.1) (((sd_jn (nI f) D d).1).2.2.2.2.2) aV aPT aPQ aLQ aI aM aC aW aB aG aHN aHS aHR aSH aWQ aWL aNN aNC := by
    intro m
    induction m with
    | zero =>
      intro i h
      obtain rfl : i = dc := by omega
      have hle := sd_jn_le (nI f) D i
      refine br_t (nI_le (Nat.le_refl _) (by omega)) (br_c (fun hc => ?_) (fun hc => ?_))
      · have h0 : (sd_jn (nI f) D i).2.2 ≤ 0 := (nI_leI (b := 0) (by omega) (by decide)).mp hc
        exact hp0 (by omega)
      · have h0 : ¬ (sd_jn (nI f) D i).2.2 ≤ 0 := fun z => hc ((nI_leI (b := 0) (by omega) (by decide)).mpr z)
        exact ⟨vp_in_nI hf (by omega), nm_r (by rw [nI_clamp (by omega)]) (nm_r (nI_1 _) (hp1 (by omega)))⟩
    | succ m ih =>
      intro d h
      have e : (nI d).toNatClampNeg = d := nI_clamp (by omega)
      have I := ih (d + 1) (by omega)
      have hle := sd_jn_le (nI f) D d
      have hok := sd_ok_jn hD (nI f) d
      have ej : sd_jn (nI f) D (d + 1) = sd_js (nI f) d (sd_jn (nI f) D d) := rfl
      rw [ej] at I
      generalize sd_jn (nI f) D d = s at I hle hok
      unfold sd_js at I
      have hv : vp_in (nI d) 32 := vp_in_nI (by omega) (by omega)
      refine br_f (nI_ge (by omega) (by omega)) ⟨hv, br_c (fun hc => ?_) (fun hc => ?_)⟩
      · rw [e] at hc
        rw [if_neg (Int32.not_le.mpr hc)] at I
        exact br_t rfl (xd_move (by omega) (by omega) (hok.2.2.2 _) (br_t rfl (nm_r (nI_1 _) (nm_r (nI_1 _) I))))
      · rw [e] at hc
        rw [if_pos (Int32.not_lt.mp hc)] at I
        refine br_f (by decide) ⟨hv, br_c (fun hz => ?_) (fun hz => ?_)⟩
        · rw [e] at hz
          rw [if_pos hz] at I
          refine xd_move (by omega) (by omega) (hok.2.2.2 _) (br_f (by decide) ⟨vp_in_nI (by omega) (by omega), ?_⟩)
          rw [nI_clamp (by omega)]
          exact nm_e (nm_r (nI_1 _) (nm_r (nI_1 _) (nm_r (nI_1 _) I)))
        · rw [e] at hz
          rw [if_neg hz] at I
          exact nm_r (nI_1 _) I
  exact Exists.intro (dc + 1) (key dc 0 (Nat.zero_add _))
/-- the last three segments are alike -/
def sd_al (V : Nat → Int32) (sg : Nat) : Prop := 3 ≤ sg ∧ V (sg - 3) < 3 ∧ V (sg - 2) = V (sg - 3) ∧ V (sg - 1) = V (sg - 3)
theorem xd_alike {sg : Nat} (h32 : sg ≤ 32) {post : Int32 → Prop} (h1 : sd_al aV sg → post 1) (h0 : ¬ sd_al aV sg → post 0) : wpX_lastSegmentsAreAlike post (fdc, fnn, nI sg, fpt, fpq, fsc, fsl, fhc, aN, aP, aL, aT, aS, aD, aV, aPT, aPQ, aLQ, aI, aM, aC, aW, aB, aG, aHN, aHS, aHR, aSH, aWQ, aWL, aNN, aNC) := by
  rcases Nat.lt_or_ge sg 3 with h | h
  · exact nm_e (br_t (pk_sneg (b := 3) (by decide) h) (h0 (fun z => by have := z.1; omega)))
  · obtain ⟨f, rfl⟩ : ∃ f, sg = f + 3 := ⟨sg - 3, by omega⟩
    have e3 : nI (f + 3) - 3 = nI f := by
      show nI (f + 3) - nI 3 = _
      rw [pk_sub (by omega)]; rfl
    have hv : vp_in (nI f) 32 := vp_in_nI (by omega) (by omega)
    have ef : (nI f).toNatClampNeg = f := nI_clamp (by omega)
    have ef1 : (nI (f + 1)).toNatClampNeg = f + 1 := nI_clamp (by omega)
    have ef2 : (nI (f + 2)).toNatClampNeg = f + 2 := nI_clamp (by omega)
    have al : sd_al aV (f + 3) ↔ (aV f < 3 ∧ aV (f + 1) = aV f ∧ aV (f + 2) = aV f) := by
      unfold sd_al
      show 3 ≤ f + 3 ∧ aV f < 3 ∧ aV (f + 1) = aV f ∧ aV (f + 2) = aV f ↔ _
      exact ⟨fun z => z.2, fun z => ⟨by omega, z⟩⟩
    rw [al] at h1 h0
    refine nm_r e3 (br_f (nI_pos (by omega)) ⟨hv, br_c (fun hc => ?_) (fun hc => ?_)⟩)
    · rw [ef] at hc
      refine nm_r (nI_1 _) (Exists.intro 3 ?_)
      refine br_f (nI_ge (by omega) (by omega)) ⟨vp_in_nI (by omega) (by omega), hv, br_c (fun hd => ?_) (fun hd => ?_)⟩
      · rw [ef, ef1] at hd
        refine nm_r (nI_1 _) (br_f (nI_ge (by omega) (by omega)) ⟨vp_in_nI (by omega) (by omega), hv, br_c (fun hg => ?_) (fun hg => ?_)⟩)
        · have hg' : aV (nI (f + 2)).toNatClampNeg = aV (nI f).toNatClampNeg := hg
          rw [ef, ef2] at hg'
          exact nm_r (nI_1 _) (br_t (nI_le (Nat.le_refl _) (by omega)) (h1 ⟨hc, hd, hg'⟩))
        · have hg' : ¬ aV (nI (f + 2)).toNatClampNeg = aV (nI f).toNatClampNeg := hg
          rw [ef, ef2] at hg'
          exact h0 (fun z => hg' z.2.2)
      · rw [ef, ef1] at hd
        exact h0 (fun z => hd z.2.1)
    · rw [ef] at hc
      exact h0 (fun z => hc z.1)
end
