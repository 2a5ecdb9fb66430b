theorem sv_bit1 : ∀ j, j < 32 → bt 1 j = decide (j = 0) := by decide +kernel
theorem sv_bit (x : Int32) {l : Nat} (hl : l < 32) : (x >>> (nI l &&& 31)) &&& 1 = nI (sv_bn x l) := by
  apply b_ext
  intro j hj
  rw [b_and, b_sshr l hl x hj, sv_bit1 j hj]
  unfold sv_bn
  by_cases h0 : j = 0
  · subst h0
    rw [if_pos (show l + 0 < 32 by omega), Nat.add_zero, decide_eq_true rfl, Bool.and_true]
    cases bt x l
    · show false = bt (nI 0) 0
      rw [nI_0, b_0]
    · show true = bt 1 0
      rw [sv_bit1 0 (by omega)]; rfl
  · rw [decide_eq_false h0, Bool.and_false]
    split
    · show false = bt 1 j
      rw [sv_bit1 j hj, decide_eq_false h0]
    · show false = bt (nI 0) j
      rw [nI_0, b_0]
def sv_own (len st tot : Nat) : Nat := if tot = 0 then 0 else 90 * len * st / tot
theorem sx_12 (p : Nat) : nI p * 12 = nI (12 * p) := by
  show nI p * nI 12 = _
  rw [pk_mul, Nat.mul_comm]
section
variable {fdc fnn fsg fpt fpq fsc fsl fhc : Int32} {aN aP aL aT aS aD aV aPT aPQ aLQ aI aM aC aW aB aG aHN aHS aHR aSH aWQ aWL aNN aNC : Nat → Int32}
theorem xs_count {p : Nat} (hp15 : p < 15) {s : Nat → Int32} (hs : ∀ i, i < 12 → aB (12 * p + i) = s i) {post : Int32 → Prop} (hp : post (nI (sv_ct s))) : wpX_countSpans post (fdc, fnn, fsg, fpt, fpq, fsc, fsl, fhc, aN, aP, aL, aT, aS, aD, aV, aPT, aPQ, aLQ, aI, aM, aC, aW, aB, aG, aHN, aHS, aHR, aSH, aWQ, aWL, aNN, aNC) (nI p) := by
  have inner : ∀ (J : Int32 → Int32 → Prop) (i c0 : Nat), i < 12 → J (nI (c0 + sg_sm (fun l => sv_bn (s i) l) 12)) (nI (i + 1)) → ∀ m l, l + m = 12 →
      wX_countSpans_13 post J (nI p) (nI i) fdc fnn fsg fpt fpq fsc fsl fhc aN aP aL aT aS aD aV aPT aPQ aLQ aI aM aC aW aB aG aHN aHS aHR aSH aWQ aWL aNN aNC (m + 1) (nI (c0 + sg_sm (fun l => sv_bn (s i) l) l)) (nI l) := by
    intro J i c0 hi hJ m
    induction m with
    | zero =>
      intro l h
      obtain rfl : l = 12 := by omega
      exact br_t (nI_le (b := 12) (Nat.le_refl _) (by decide)) (nm_r (nI_1 _) hJ)
    | succ m ih =>
      intro l h
      have e2 : (nI p * 12 + nI i).toNatClampNeg = 12 * p + i := by rw [sx_ix]; exact nI_clamp (by omega)
      refine br_f (nI_ge (b := 12) (by omega) (by decide)) ⟨by rw [sx_ix]; exact vp_in_nI (by omega) (by omega), ?_⟩
      rw [e2, hs i hi, sv_bit _ (show l < 32 by omega), nI_add, Nat.add_assoc]
      exact nm_e (nm_r (nI_1 _) (ih (l + 1) (by omega)))
  have key : ∀ m i, i + m = 12 → wX_countSpans_4 post (nI p) fdc fnn fsg fpt fpq fsc fsl fhc aN aP aL aT aS aD aV aPT aPQ aLQ aI aM aC aW aB aG aHN aHS aHR aSH aWQ aWL aNN aNC (m + 1) (nI (sg_sm (fun i => sg_sm (fun l => sv_bn (s i) l) 12) i)) (nI i) := by
    intro m
    induction m with
    | zero =>
      intro i h
      obtain rfl : i = 12 := by omega
      exact br_t (nI_le (b := 12) (Nat.le_refl _) (by decide)) hp
    | succ m ih =>
      intro i h
      refine br_f (nI_ge (b := 12) (by omega) (by decide)) (Exists.intro 13 ?_)
      exact inner _ i _ (by omega) (ih (i + 1) (by omega)) 12 0 rfl
  exact Exists.intro 13 (key 12 0 rfl)
theorem xs_score {p d st len tot w : Nat} (hp15 : p < 15) (hd : d < 32) (hst : st ≤ 32) (hlen : len ≤ 12) (htot : tot ≤ 384) (hw : w ≤ 405) (hL : aL d = nI len) (hW : aW p = nI w) {s : Nat → Int32} (hs : ∀ i, i < 12 → aB (12 * p + i) = s i)
    (h0 : tot = 0 → sv_ct s = 0) {post : SX → Prop}
    (hp : ∀ C' : Nat → Int32, C' p = nI (sv_sc (sv_own len st tot) w (sv_ct s)) → (∀ j, j ≠ p → C' j = aC j) → post (fdc, fnn, fsg, fpt, fpq, nI st, nI tot, fhc, aN, aP, aL, aT, aS, aD, aV, aPT, aPQ, aLQ, aI, upd aM p (sg_B (decide (0 < sv_ct s))), C', aW, aB, aG, aHN, aHS, aHR, aSH, aWQ, aWL, aNN, aNC)) :
    wpX_scoreSpans post (fdc, fnn, fsg, fpt, fpq, nI st, nI tot, fhc, aN, aP, aL, aT, aS, aD, aV, aPT, aPQ, aLQ, aI, aM, aC, aW, aB, aG, aHN, aHS, aHR, aSH, aWQ, aWL, aNN, aNC) (nI p) (nI d) := by
  have ep : (nI p).toNatClampNeg = p := nI_clamp (by omega)
  have ed : (nI d).toNatClampNeg = d := nI_clamp (by omega)
  have hv : vp_in (nI p) 15 := vp_in_nI hp15 (by omega)
  have hct := sv_ct_le s
  refine xs_count hp15 hs ?_
  generalize hn : sv_ct s = n at h0 hct hp
  have zero : n = 0 → post (fdc, fnn, fsg, fpt, fpq, nI st, nI tot, fhc, aN, aP, aL, aT, aS, aD, aV, aPT, aPQ, aLQ, aI, upd aM p 0, upd aC p 0, aW, aB, aG, aHN, aHS, aHR, aSH, aWQ, aWL, aNN, aNC) := by
    intro hz
    subst hz
    exact hp (upd aC p 0) (by rw [pk_us]; rfl) (fun j hj => pk_un hj)
  refine br_c (fun hc => ?_) (fun hc => ?_)
  · have hz : n = 0 := by have := (nI_leI (b := 0) (by omega) (by decide)).mp hc; omega
    refine ⟨hv, ?_⟩
    rw [ep]
    exact nm_r (by rw [sx_nb (Or.inl rfl)]) ⟨hv, nm_e (br_t hc (zero hz))⟩
  · have hz : ¬ n ≤ 0 := fun z => hc ((nI_leI (b := 0) (by omega) (by decide)).mpr z)
    have ht : 0 < tot := by omega
    have hq : 90 * len * st / tot ≤ 90 * len * st := Nat.div_le_self _ _
    have hm1 : 90 * len * st ≤ 90 * 12 * 32 := Nat.mul_le_mul (Nat.mul_le_mul (Nat.le_refl _) hlen) hst
    have ex : ((90 * (aL d)) * nI st) / nI tot = nI (90 * len * st / tot) := by
      rw [hL]
      show nI 90 * nI len * nI st / nI tot = _
      rw [pk_mul, pk_mul, pk_div (by omega) ht (by omega)]
    have ey : ((100 * nI n) + 30) + nI (90 * len * st / tot) = nI (100 * n + 30 + 90 * len * st / tot) := by
      show nI 100 * nI n + nI 30 + _ = _
      rw [pk_mul, nI_add, nI_add]
    have hpos : 0 < 100 * n + 30 + 90 * len * st / tot := Nat.lt_of_lt_of_le (by decide : 0 < 30) (Nat.le_trans (Nat.le_add_left 30 (100 * n)) (Nat.le_add_right _ _))
    have hm2 : w * 220 * n ≤ 405 * 220 * 144 := Nat.mul_le_mul (Nat.mul_le_mul hw (Nat.le_refl _)) hct
    have ez : ((aW p * 220) * nI n) / nI (100 * n + 30 + 90 * len * st / tot) = nI (w * 220 * n / (100 * n + 30 + 90 * len * st / tot)) := by
      rw [hW]
      show nI w * nI 220 * nI n / _ = _
      rw [pk_mul, pk_mul, pk_div (by omega) hpos (by omega)]
    have fin : post (fdc, fnn, fsg, fpt, fpq, nI st, nI tot, fhc, aN, aP, aL, aT, aS, aD, aV, aPT, aPQ, aLQ, aI, upd aM p 1, upd (upd aC p 0) p (nI (w * 220 * n / (100 * n + 30 + 90 * len * st / tot))), aW, aB, aG, aHN, aHS, aHR, aSH, aWQ, aWL, aNN, aNC) := by
      have := hp (upd (upd aC p 0) p (nI (w * 220 * n / (100 * n + 30 + 90 * len * st / tot)))) (by
        rw [pk_us]
        unfold sv_sc sv_own
        rw [if_neg (by omega), if_neg (by omega)]) (fun j hj => by rw [pk_un hj, pk_un hj])
      rw [decide_eq_true (by omega)] at this
      exact this
    refine ⟨hv, ?_⟩
    rw [ep]
    refine nm_r (by rw [sx_nb (Or.inr rfl)]) ⟨hv, nm_e (br_f hc (br_f (nI_nle ht (by omega)) ⟨vp_in_nI hd (by omega), nI_ne0 ht (by omega), ?_⟩))⟩
    rw [ed]
    refine nm_r ex ⟨hv, ?_⟩
    rw [ey]
    refine ⟨nI_ne0 hpos (by omega), hv, ?_⟩
    exact nm_r (by rw [ez]) fin
theorem xs_word {p d t len : Nat} (hp15 : p < 15) (hd : d < 32) (ht : t < 8) (hlen : len ≤ 12) (hL : aL d = nI len) {post : SX → Prop}
    (hp : post (fdc, fnn, fsg, fpt, fpq, fsc, fsl, fhc, aN, aP, aL, aT, aS, aD, aV, aPT, aPQ, aLQ, aI, aM, aC, upd aW p (aG t), sd_cy aB (12 * p) (sv_wd (fun i => aT (12 * d + i)) len t) 0 12, aG, aHN, aHS, aHR, aSH, aWQ, aWL, aNN, aNC)) : wpX_readWord post (fdc, fnn, fsg, fpt, fpq, fsc, fsl, fhc, aN, aP, aL, aT, aS, aD, aV, aPT, aPQ, aLQ, aI, aM, aC, aW, aB, aG, aHN, aHS, aHR, aSH, aWQ, aWL, aNN, aNC) (nI p) (nI t) (nI d) := by
  have ep : (nI p).toNatClampNeg = p := nI_clamp (by omega)
  have ed : (nI d).toNatClampNeg = d := nI_clamp (by omega)
  have et : (nI t).toNatClampNeg = t := nI_clamp (by omega)
  have key : ∀ m i, i + m = 12 → wX_readWord_3 post (nI p) (nI t) (nI d) fdc fnn fsg fpt fpq fsc fsl fhc (m + 1) (nI i) aN aP aL aT aS aD aV aPT aPQ aLQ aI aM aC aW (sd_cy aB (12 * p) (sv_wd (fun i => aT (12 * d + i)) len t) 0 i) aG aHN aHS aHR aSH aWQ aWL aNN aNC := by
    intro m
    induction m with
    | zero =>
      intro i h
      obtain rfl : i = 12 := by omega
      refine br_t (nI_le (b := 12) (Nat.le_refl _) (by decide)) ⟨vp_in_nI ht (by omega), vp_in_nI hp15 (by omega), ?_⟩
      rw [ep, et]
      exact nm_e hp
    | succ m ih =>
      intro i h
      have I := ih (i + 1) (by omega)
      have e1 : (nI d * 12 + nI i).toNatClampNeg = 12 * d + i := by rw [sx_ix]; exact nI_clamp (by omega)
      have e2 : (nI p * 12 + nI i).toNatClampNeg = 12 * p + i := by rw [sx_ix]; exact nI_clamp (by omega)
      have hv : vp_in (nI p * 12 + nI i) 180 := by rw [sx_ix]; exact vp_in_nI (by omega) (by omega)
      have e3 := sd_cy_s aB (12 * p) (sv_wd (fun i => aT (12 * d + i)) len t) 0 i
      rw [Nat.zero_add] at e3
      have zero : ¬ (i < len ∧ aT (12 * d + i) = nI t) → wX_readWord_41 post (wX_readWord_3 post (nI p) (nI t) (nI d) fdc fnn fsg fpt fpq fsc fsl fhc (m + 1)) (nI p) (nI t) (nI d) (nI i) fdc fnn fsg fpt fpq fsc fsl fhc aN aP aL aT aS aD aV aPT aPQ aLQ aI aM aC aW (sd_cy aB (12 * p) (sv_wd (fun i => aT (12 * d + i)) len t) 0 i) aG aHN aHS aHR aSH aWQ aWL aNN aNC := by
        intro hz
        have e4 : sv_wd (fun i => aT (12 * d + i)) len t i = 0 := by unfold sv_wd; rw [if_neg hz]
        rw [e4] at e3
        refine br_t rfl ⟨hv, ?_⟩
        rw [e2]
        exact nm_r e3 (nm_r (nI_1 _) I)
      refine br_f (nI_ge (b := 12) (by omega) (by decide)) ⟨vp_in_nI hd (by omega), br_c (fun hc => ?_) (fun hc => ⟨by rw [sx_ix]; exact vp_in_nI (by omega) (by omega), br_c (fun hx => ?_) (fun hx => ?_)⟩)⟩
      · rw [ed, hL] at hc
        have := (nI_leI (by omega) (by omega)).mp hc
        exact zero (by omega)
      · rw [ed, hL] at hc
        have hlt : ¬ len ≤ i := fun z => hc ((nI_leI (by omega) (by omega)).mpr z)
        rw [e1] at hx
        have e4 : sv_wd (fun i => aT (12 * d + i)) len t i = (1 : Int32) <<< (nI i &&& 31) := by unfold sv_wd; rw [if_pos ⟨by omega, hx⟩]
        rw [e4] at e3
        refine br_f (by decide) ⟨hv, ?_⟩
        rw [e2]
        exact nm_r e3 (nm_r (nI_1 _) I)
      · rw [e1] at hx
        exact zero (fun z => hx z.2)
  have k0 := key 12 0 rfl
  rw [sd_cy_0] at k0
  exact Exists.intro 13 k0
theorem xs_range {p d t pr : Nat} (hp15 : p < 15) (hd : d < 32) (ht : 1000 ≤ t) (ht2 : t < 11000) (hpr : pr < 100) (hP : aP d = nI pr) {post : SX → Prop}
    (hp : post (fdc, fnn, fsg, fpt, fpq, fsc, fsl, fhc, aN, aP, aL, aT, aS, aD, aV, aPT, aPQ, aLQ, aI, upd aM p (sg_B (decide ((t - 1000) / 100 ≤ pr ∧ pr ≤ (t - 1000) % 100))), upd aC p 0, aW, aB, aG, aHN, aHS, aHR, aSH, aWQ, aWL, aNN, aNC)) : wpX_readRange post (fdc, fnn, fsg, fpt, fpq, fsc, fsl, fhc, aN, aP, aL, aT, aS, aD, aV, aPT, aPQ, aLQ, aI, aM, aC, aW, aB, aG, aHN, aHS, aHR, aSH, aWQ, aWL, aNN, aNC) (nI p) (nI t) (nI d) := by
  have ep : (nI p).toNatClampNeg = p := nI_clamp (by omega)
  have ed : (nI d).toNatClampNeg = d := nI_clamp (by omega)
  have es : nI t - 1000 = nI (t - 1000) := by
    show nI t - nI 1000 = _
    rw [pk_sub ht]
  have eq : nI (t - 1000) / 100 = nI ((t - 1000) / 100) := by
    show nI (t - 1000) / nI 100 = _
    rw [pk_div (by omega) (by omega) (by omega)]
  have er : nI (t - 1000) - nI (t - 1000) / 100 * 100 = nI ((t - 1000) % 100) := by
    show nI (t - 1000) - nI (t - 1000) / nI 100 * nI 100 = _
    rw [pk_rem (by omega) (by omega) (by omega)]
  have hv : vp_in (nI p) 15 := vp_in_nI hp15 (by omega)
  have hvd : vp_in (nI d) 32 := vp_in_nI hd (by omega)
  have fal : ¬ ((t - 1000) / 100 ≤ pr ∧ pr ≤ (t - 1000) % 100) → wX_readRange_51 post (nI p) (nI p) fdc fnn fsg fpt fpq fsc fsl fhc aN aP aL aT aS aD aV aPT aPQ aLQ aI aM aC aW aB aG aHN aHS aHR aSH aWQ aWL aNN aNC := by
    intro h
    rw [decide_eq_false h] at hp
    refine ⟨hv, ?_⟩
    rw [ep]
    exact nm_r (by rw [sx_nb (Or.inl rfl)]; rfl) ⟨hv, nm_e hp⟩
  refine ⟨by decide, ?_⟩
  rw [es]
  refine nm_r eq ⟨by decide, nm_r er ⟨hvd, ?_⟩⟩
  rw [ed, hP]
  refine br_c (fun hc => ?_) (fun hc => ⟨hvd, br_c (fun hx => ?_) (fun hx => ?_)⟩)
  · have := (nI_ltI (by omega) (by omega)).mp hc
    exact fal (by omega)
  · have := (nI_ltI (by omega) (by omega)).mp hx
    exact fal (by omega)
  · have h1 : ¬ pr < (t - 1000) / 100 := fun z => hc ((nI_ltI (by omega) (by omega)).mpr z)
    have h2 : ¬ (t - 1000) % 100 < pr := fun z => hx ((nI_ltI (by omega) (by omega)).mpr z)
    rw [decide_eq_true (by omega)] at hp
    refine ⟨hv, ?_⟩
    rw [ep]
    exact nm_r (by rw [sx_nb (Or.inr rfl)]; rfl) ⟨hv, nm_e hp⟩
theorem xs_jm {a b t s1 s2 : Nat} {x y : Bool} (ha : a < 15) (hb : b < 15) (ht : t = 8 ∨ t = 9 ∨ t = 10) (hx : aM a = sg_B x) (hy : aM b = sg_B y) (h1 : aC a = nI s1) (h2 : aC b = nI s2) {post : SX → Prop}
    (hp : post (fdc, fnn, fsg, fpt, fpq, fsc, fsl, fhc, aN, aP, aL, aT, aS, aD, aV, aPT, aPQ, aLQ, aI, upd aM b (sg_B (sv_cm t x y)), upd aC b (nI (if t = 10 then s1 else s1 + s2)), aW, aB, aG, aHN, aHS, aHR, aSH, aWQ, aWL, aNN, aNC)) : wpX_joinMatches post (fdc, fnn, fsg, fpt, fpq, fsc, fsl, fhc, aN, aP, aL, aT, aS, aD, aV, aPT, aPQ, aLQ, aI, aM, aC, aW, aB, aG, aHN, aHS, aHR, aSH, aWQ, aWL, aNN, aNC) (nI a) (nI b) (nI t) := by
  have ea : (nI a).toNatClampNeg = a := nI_clamp (by omega)
  have eb : (nI b).toNatClampNeg = b := nI_clamp (by omega)
  have hva : vp_in (nI a) 15 := vp_in_nI ha (by omega)
  have hvb : vp_in (nI b) 15 := vp_in_nI hb (by omega)
  have f42 : t = 10 → ∀ z : Bool, sv_cm t x y = z → wX_joinMatches_42 post (nI a) (nI b) (sg_B z) (nI b) fdc fnn fsg fpt fpq fsc fsl fhc aN aP aL aT aS aD aV aPT aPQ aLQ aI aM aC aW aB aG aHN aHS aHR aSH aWQ aWL aNN aNC := by
    intro h10 z hz
    rw [hz, if_pos h10] at hp
    refine ⟨hvb, ?_⟩
    rw [eb]
    refine nm_r (by rw [sx_nb (sg_B_01 z)]) ⟨hva, hvb, ?_⟩
    rw [ea]
    exact nm_r (by rw [h1]) hp
  have f102 : t ≠ 10 → ∀ z : Bool, sv_cm t x y = z → wX_joinMatches_102 post (nI a) (nI b) (sg_B z) (nI b) fdc fnn fsg fpt fpq fsc fsl fhc aN aP aL aT aS aD aV aPT aPQ aLQ aI aM aC aW aB aG aHN aHS aHR aSH aWQ aWL aNN aNC := by
    intro h10 z hz
    rw [hz, if_neg h10] at hp
    refine ⟨hvb, ?_⟩
    rw [eb]
    refine nm_r (by rw [sx_nb (sg_B_01 z)]) ⟨hvb, hva, hvb, ?_⟩
    rw [ea]
    exact nm_r (by rw [h1, h2, nI_add, Nat.add_comm]) hp
  refine ⟨hva, ?_⟩
  rw [ea]
  refine nm_r hx ⟨hvb, ?_⟩
  rw [eb]
  refine nm_r hy ?_
  rcases ht with rfl | rfl | rfl
  · refine br_f (by decide) (br_t rfl ?_)
    cases x
    · exact br_t rfl (f102 (by decide) false rfl)
    · cases y
      · exact br_f (by decide) (br_t rfl (f102 (by decide) false rfl))
      · exact br_f (by decide) (br_f (by decide) (f102 (by decide) true rfl))
  · refine br_f (by decide) (br_f (by decide) ?_)
    cases x
    · cases y
      · exact br_t rfl (br_t rfl (f102 (by decide) false rfl))
      · exact br_t rfl (br_f (by decide) (f102 (by decide) true rfl))
    · exact br_f (by decide) (f102 (by decide) true (by cases y <;> rfl))
  · refine br_t rfl ?_
    cases x
    · exact br_t rfl (f42 rfl false (by cases y <;> rfl))
    · cases y
      · exact br_f (by decide) (br_t rfl (f42 rfl true rfl))
      · exact br_f (by decide) (br_f (by decide) (f42 rfl false rfl))
theorem xs_js {a b far : Nat} (ha : a < 15) (hb : b < 15) (hab : a ≠ b) (hfar : far = 1 ∨ far = 3) {sa sb : Nat → Int32} {w1 w2 : Nat} (hsa : ∀ i, i < 12 → aB (12 * a + i) = sa i) (hsb : ∀ i, i < 12 → aB (12 * b + i) = sb i)
    (hlow : ∀ i, i < 12 → ∀ j, j < i → bt (sa i) j = false) (h1 : aW a = nI w1) (h2 : aW b = nI w2) {post : SX → Prop}
    (hp : post (fdc, fnn, fsg, fpt, fpq, fsc, fsl, fhc, aN, aP, aL, aT, aS, aD, aV, aPT, aPQ, aLQ, aI, aM, aC, upd aW b (nI (w2 + w1)), sd_cy aB (12 * b) (fun i => sv_ch far (sa i) sb 12) 0 12, aG, aHN, aHS, aHR, aSH, aWQ, aWL, aNN, aNC)) : wpX_joinSpans post (fdc, fnn, fsg, fpt, fpq, fsc, fsl, fhc, aN, aP, aL, aT, aS, aD, aV, aPT, aPQ, aLQ, aI, aM, aC, aW, aB, aG, aHN, aHS, aHR, aSH, aWQ, aWL, aNN, aNC) (nI a) (nI b) (nI far) := by
  have ea : (nI a).toNatClampNeg = a := nI_clamp (by omega)
  have eb : (nI b).toNatClampNeg = b := nI_clamp (by omega)
  have hva : vp_in (nI a) 15 := vp_in_nI ha (by omega)
  have hvb : vp_in (nI b) 15 := vp_in_nI hb (by omega)
  have ix : ∀ c i, nI (12 * c) + nI i = nI (12 * c + i) := fun c i => nI_add _ _
  have l68 : ∀ (J15 : Int32 → (Nat → Int32) → (Nat → Int32) → (Nat → Int32) → (Nat → Int32) → (Nat → Int32) → (Nat → Int32) → (Nat → Int32) → (Nat → Int32) → (Nat → Int32) → (Nat → Int32) → (Nat → Int32) → (Nat → Int32) → (Nat → Int32) → (Nat → Int32) → (Nat → Int32) → (Nat → Int32) → (Nat → Int32) → (Nat → Int32) → (Nat → Int32) → (Nat → Int32) → (Nat → Int32) → (Nat → Int32) → (Nat → Int32) → (Nat → Int32) → Prop) (J29 : Int32 → Int32 → Prop) (B : Nat → Int32) (i j : Nat) (acc : Int32), j < 12 → (∀ k, j < k → k < 12 → B (12 * b + k) = sb k) →
      J29 (sv_or sb j acc (min far (11 - j))) (nI (j + 1)) → ∀ m k, k + m = min far (11 - j) →
      wX_joinSpans_68 post J15 J29 (nI a) (nI b) (nI far) (nI (12 * a)) (nI (12 * b)) (nI i) (nI j) 1 fdc fnn fsg fpt fpq fsc fsl fhc aN aP aL aT aS aD aV aPT aPQ aLQ aI aM aC aW B aG aHN aHS aHR aSH aWQ aWL aNN aNC (m + 1) (sv_or sb j acc k) (nI (j + 1 + k)) := by
    intro J15 J29 B i j acc hj hB hJ m
    induction m with
    | zero =>
      intro k hk
      have hk' : k = min far (11 - j) := by omega
      refine br_f (by decide) ?_
      rw [nI_add]
      rw [hk']
      rcases Nat.lt_or_ge (j + far) 12 with h | h
      · exact br_t (nI_lt (by omega) (by omega)) (nm_r (nI_1 _) hJ)
      · refine br_c (fun _ => nm_r (nI_1 _) hJ) (fun _ => br_t (nI_le (b := j + 1 + min far (11 - j)) (a := 12) (by omega) (by omega)) (nm_r (nI_1 _) hJ))
    | succ m ih =>
      intro k hk
      refine br_f (by decide) ?_
      rw [nI_add]
      refine br_f (nI_nlt (by omega) (by omega)) (br_f (nI_ge (b := 12) (by omega) (by decide)) ⟨by rw [ix]; exact vp_in_nI (by omega) (by omega), ?_⟩)
      rw [ix, nI_clamp (by omega), hB _ (by omega) (by omega)]
      exact nm_e (nm_r (nI_1 _) (ih (k + 1) (by omega)))
  have l29 : ∀ (J15 : Int32 → (Nat → Int32) → (Nat → Int32) → (Nat → Int32) → (Nat → Int32) → (Nat → Int32) → (Nat → Int32) → (Nat → Int32) → (Nat → Int32) → (Nat → Int32) → (Nat → Int32) → (Nat → Int32) → (Nat → Int32) → (Nat → Int32) → (Nat → Int32) → (Nat → Int32) → (Nat → Int32) → (Nat → Int32) → (Nat → Int32) → (Nat → Int32) → (Nat → Int32) → (Nat → Int32) → (Nat → Int32) → (Nat → Int32) → (Nat → Int32) → Prop) (B : Nat → Int32) (i : Nat), i < 12 → B (12 * a + i) = sa i → (∀ k, i < k → k < 12 → B (12 * b + k) = sb k) →
      J15 (nI (i + 1)) aN aP aL aT aS aD aV aPT aPQ aLQ aI aM aC aW (upd B (12 * b + i) (sv_ch far (sa i) sb 12)) aG aHN aHS aHR aSH aWQ aWL aNN aNC → ∀ m j, i ≤ j → j + m = 12 →
      wX_joinSpans_29 post J15 (nI a) (nI b) (nI far) (nI (12 * a)) (nI (12 * b)) (nI i) fdc fnn fsg fpt fpq fsc fsl fhc aN aP aL aT aS aD aV aPT aPQ aLQ aI aM aC aW B aG aHN aHS aHR aSH aWQ aWL aNN aNC (m + 1) (sv_ch far (sa i) sb j) (nI j) := by
    intro J15 B i hi hA hB hJ m
    induction m with
    | zero =>
      intro j hij h
      obtain rfl : j = 12 := by omega
      refine br_t (nI_le (b := 12) (Nat.le_refl _) (by decide)) ⟨by rw [ix]; exact vp_in_nI (by omega) (by omega), ?_⟩
      rw [ix, nI_clamp (by omega)]
      exact nm_e (nm_r (nI_1 _) hJ)
    | succ m ih =>
      intro j hij h
      have I := ih (j + 1) (by omega) (by omega)
      refine br_f (nI_ge (b := 12) (by omega) (by decide)) ⟨by rw [ix]; exact vp_in_nI (by omega) (by omega), ?_⟩
      rw [ix, nI_clamp (by omega), hA, sv_bit _ (show j < 32 by omega)]
      have es : sv_ch far (sa i) sb (j + 1) = if bt (sa i) j = true then sv_or sb j (sv_ch far (sa i) sb j) (min far (11 - j)) else sv_ch far (sa i) sb j := rfl
      unfold sv_bn
      by_cases hb' : bt (sa i) j = true
      · rw [if_pos hb'] at es ⊢
        rw [es] at I
        refine br_t rfl (nm_r (nI_1 _) (Exists.intro (min far (11 - j) + 1) ?_))
        exact l68 J15 _ B i j _ (by omega) (fun k hk => hB k (by omega)) I (min far (11 - j)) 0 (Nat.zero_add _)
      · rw [if_neg hb'] at es ⊢
        rw [es] at I
        exact br_f (by decide) (nm_r (nI_1 _) (Exists.intro 1 (br_t rfl (nm_r (nI_1 _) I))))
  have key : ∀ m i, i + m = 12 → wX_joinSpans_15 post (nI a) (nI b) (nI far) (nI (12 * a)) (nI (12 * b)) fdc fnn fsg fpt fpq fsc fsl fhc (m + 1) (nI i) aN aP aL aT aS aD aV aPT aPQ aLQ aI aM aC aW (sd_cy aB (12 * b) (fun i => sv_ch far (sa i) sb 12) 0 i) aG aHN aHS aHR aSH aWQ aWL aNN aNC := by
    intro m
    induction m with
    | zero =>
      intro i h
      obtain rfl : i = 12 := by omega
      refine br_t (nI_le (b := 12) (Nat.le_refl _) (by decide)) ⟨hvb, hva, hvb, ?_⟩
      rw [ea, eb]
      exact nm_r (by rw [h1, h2, nI_add]) hp
    | succ m ih =>
      intro i h
      have I := ih (i + 1) (by omega)
      have e3 := sd_cy_s aB (12 * b) (fun i => sv_ch far (sa i) sb 12) 0 i
      rw [Nat.zero_add] at e3
      rw [← e3] at I
      refine br_f (nI_ge (b := 12) (by omega) (by decide)) (Exists.intro (12 - i + 1) ?_)
      have := l29 _ (sd_cy aB (12 * b) (fun i => sv_ch far (sa i) sb 12) 0 i) i (by omega) (by rw [sd_cy_out (by omega)]; exact hsa i (by omega)) (fun k hk hk2 => by rw [sd_cy_out (by omega)]; exact hsb k hk2) I (12 - i) i (Nat.le_refl _) (by omega)
      rw [sv_ch_low i (hlow i (by omega))] at this
      exact this
  have k0 := key 12 0 rfl
  rw [sd_cy_0] at k0
  exact nm_r (sx_12 a) (nm_r (sx_12 b) (Exists.intro 13 k0))
end
