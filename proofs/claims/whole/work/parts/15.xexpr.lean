/-! the kinds on X's stack -/
def sx_K (a : Nat → Int32) : List Bool → Prop
  | [] => True
  | v :: r => a r.length = sg_B v ∧ sx_K a r
theorem sx_K_fr {a b : Nat → Int32} : ∀ {st : List Bool}, (∀ p, p < st.length → b p = a p) → sx_K a st → sx_K b st
  | [], _, _ => trivial
  | v :: r, f, h => ⟨by rw [f r.length (by rw [List.length_cons]; omega)]; exact h.1, sx_K_fr (fun p hp => f p (by rw [List.length_cons]; omega)) h.2⟩
theorem sq_none {l : List Nat} {i : Nat} (hi : i ≤ l.length) (h : sq_b (l.drop i) = none) : sq_b l = none := by
  cases hb : sq_b l with
  | none => rfl
  | some st =>
    obtain ⟨st', h'⟩ := sq_b_drop hb i hi
    rw [h] at h'
    exact absurd h' (by simp)
theorem sr_H_app {a : Nat → Int32} {b t : Nat} {q : List Nat} (h : sr_H a b q) : sr_H (upd a (b + q.length) (nI t)) b (q ++ [t]) := by
  intro i hi
  rw [List.length_append] at hi
  have hi' : i < q.length + 1 := hi
  rcases Nat.lt_or_ge i q.length with h1 | h1
  · rw [pk_un (by omega), h i h1]
    congr 1
    rw [List.getD_eq_getElem?_getD, List.getD_eq_getElem?_getD, List.getElem?_append_left h1]
  · obtain rfl : i = q.length := by omega
    rw [pk_us]
    congr 1
    rw [List.getD_eq_getElem?_getD, List.getElem?_append_right (Nat.le_refl _), Nat.sub_self]; rfl
theorem sr_H_0 (a : Nat → Int32) (b : Nat) : sr_H a b [] := fun i hi => absurd hi (Nat.not_lt_zero i)
def sl_ws (D : sd_D) (d k : Nat) : List Nat := (List.range k).filter (fun w => sd_hw D.2.2.2.1 D.2.2.1 w d)
theorem sl_ws_s (D : sd_D) (d k : Nat) : sl_ws D d (k + 1) = if sd_hw D.2.2.2.1 D.2.2.1 k d = true then sl_ws D d k ++ [k] else sl_ws D d k := by
  unfold sl_ws
  rw [List.range_succ, List.filter_append]
  split
  · rename_i h
    rw [List.filter_cons, if_pos h]; rfl
  · rename_i h
    rw [List.filter_cons, if_neg h]; simp
theorem sl_ws_len (D : sd_D) (d : Nat) : ∀ k, (sl_ws D d k).length = sg_cn (fun w => sd_hw D.2.2.2.1 D.2.2.1 w d) k
  | 0 => rfl
  | k + 1 => by
    have ih := sl_ws_len D d k
    rw [sl_ws_s]
    show _ = sg_cn (fun w => sd_hw D.2.2.2.1 D.2.2.1 w d) k + (if sd_hw D.2.2.2.1 D.2.2.1 k d = true then 1 else 0)
    split
    · rw [List.length_append, ih]; rfl
    · rw [ih]; rfl
theorem sl_ws_lt {D : sd_D} {d k w : Nat} (h : w ∈ sl_ws D d k) : w < k := List.mem_range.mp (List.mem_filter.mp h).1
def sd_tx (T : Nat → Int32) : Prop := ∀ j, ∃ n, n < 8 ∧ T j = nI n
theorem sl_ws_ne {D : sd_D} {d : Nat} (hT : sd_tx D.2.2.2.1) (h : 0 < sd_n D.2.2.1 d) : sl_ws D d 8 ≠ [] := by
  obtain ⟨n, h1, h2⟩ := hT (12 * d + 0)
  intro e
  have : n ∈ sl_ws D d 8 := List.mem_filter.mpr ⟨List.mem_range.mpr h1, (sd_hs_iff _).mpr ⟨0, h, h2⟩⟩
  rw [e] at this
  exact absurd this (by simp)
section
variable {fdc fnn fsg fpt fpq fsc fsl fhc : Int32} {aN aP aL aT aS aD aV aPT aPQ aLQ aI aM aC aW aB aG aHN aHS aHR aSH aWQ aWL aNN aNC : Nat → Int32}
theorem xe_expr {q : List Nat} (h12 : q.length ≤ 12) (htk : sv_tks q) (hH : sr_H aPQ 0 q) {post : Int32 → SX → Prop}
    (h1 : (∃ v, sq_b q = some [v]) → ∀ I : Nat → Int32, post 1 (fdc, fnn, fsg, fpt, nI q.length, fsc, fsl, fhc, aN, aP, aL, aT, aS, aD, aV, aPT, aPQ, aLQ, I, aM, aC, aW, aB, aG, aHN, aHS, aHR, aSH, aWQ, aWL, aNN, aNC)) (h0 : ¬ (∃ v, sq_b q = some [v]) → ∀ I : Nat → Int32, post 0 (fdc, fnn, fsg, fpt, nI q.length, fsc, fsl, fhc, aN, aP, aL, aT, aS, aD, aV, aPT, aPQ, aLQ, I, aM, aC, aW, aB, aG, aHN, aHS, aHR, aSH, aWQ, aWL, aNN, aNC)) :
    wpX_pendingIsExpression post (fdc, fnn, fsg, fpt, nI q.length, fsc, fsl, fhc, aN, aP, aL, aT, aS, aD, aV, aPT, aPQ, aLQ, aI, aM, aC, aW, aB, aG, aHN, aHS, aHR, aSH, aWQ, aWL, aNN, aNC) := by
  have key : ∀ i, i ≤ q.length → ∀ (I : Nat → Int32) (st : List Bool), sq_b (q.drop i) = some st → sx_K I st →
      wX_pendingIsExpression_9 post fdc fnn fsg fpt (nI q.length) fsc fsl fhc (i + 1) (nI st.length) (nI i - 1) aN aP aL aT aS aD aV aPT aPQ aLQ I aM aC aW aB aG aHN aHS aHR aSH aWQ aWL aNN aNC := by
    intro i
    induction i with
    | zero =>
      intro _ I st hs hK
      rw [List.drop_zero] at hs
      have hle := sq_b_len hs
      refine br_t (by decide) (br_c (fun hc => ?_) (fun hc => ?_))
      · have hl : st.length = 1 := (nI_eq (b := 1) (by omega) (by decide)).mp hc
        obtain ⟨v, rfl⟩ : ∃ v, st = [v] := List.length_eq_one_iff.mp hl
        exact h1 ⟨v, hs⟩ I
      · refine h0 (fun ⟨v, hv⟩ => hc ?_) I
        rw [hs] at hv
        rw [Option.some.inj hv]; rfl
    | succ i ih =>
      intro hi I st hs hK
      have hdr := sr_drop (l := q) (i := i) (by omega)
      have hQ := hH i (by omega)
      rw [Nat.zero_add] at hQ
      have ht := htk _ (sr_getD_mem (l := q) (i := i) (by omega))
      have ih' := ih (by omega)
      have hno : sq_b (q.drop i) = none → ¬ (∃ v, sq_b q = some [v]) := by
        intro hn
        rw [sq_none (by omega) hn]
        rintro ⟨v, hv⟩
        exact absurd hv (by simp)
      have hsl : st.length + (i + 1) ≤ q.length := by
        have := sq_b_len hs
        rw [List.length_drop] at this
        omega
      have eb : sq_b (q.drop i) = sq_bs (q.getD i 0) (some st) := by
        rw [hdr]
        show sq_bs _ (sq_b (q.drop (i + 1))) = _
        rw [hs]
      rw [eb] at ih' hno
      generalize q.getD i 0 = t at hQ ht ih' hno
      have ht2 : t < 2 ^ 31 := by unfold sv_tk at ht; omega
      have em : nI i + (-1) = nI i - 1 := (Int32.sub_eq_add_neg _ _).symm
      rw [nI_pred]
      refine br_f (nI_pos (by omega)) ⟨vp_in_nI (by omega) (by omega), ?_⟩
      rw [nI_clamp (by omega)]
      refine nm_r hQ ?_
      by_cases hj : 8 ≤ t ∧ t ≤ 12
      · refine xj_j1 hj.1 hj.2 (br_f (by decide) ?_)
        unfold sq_bs at ih' hno
        simp only at ih' hno
        rw [if_pos hj] at ih' hno
        match st, hsl, hK, ih', hno with
        | [], hsl, hK, ih', hno => exact br_f (by decide) (h0 (hno rfl) I)
        | [a], hsl, hK, ih', hno => exact br_f (show ¬ (2 : Int32) ≤ nI 1 by decide) (h0 (hno rfl) I)
        | a :: b :: r, hsl, hK, ih', hno =>
          rw [List.length_cons, List.length_cons] at hsl ⊢
          obtain ⟨ka, kb, kr⟩ := hK
          rw [List.length_cons] at ka
          have hv1 : vp_in (nI (r.length + 1)) 15 := vp_in_nI (by omega) (by omega)
          have hv0 : vp_in (nI r.length) 15 := vp_in_nI (by omega) (by omega)
          refine br_t (nI_le (a := 2) (by omega) (by omega)) (nm_r (pk_m1 _) ⟨hv1, ?_⟩)
          rw [nI_clamp (n := r.length + 1) (by omega), ka, nI_pred, nI_clamp (n := r.length) (by omega), kb]
          have f94 : ∀ z : Bool, decide (t = 11 ∨ t = 12) = z → sq_bs t (some (a :: b :: r)) = some (z :: r) → wX_pendingIsExpression_94 post (wX_pendingIsExpression_9 post fdc fnn fsg fpt (nI q.length) fsc fsl fhc (i + 1)) (nI (r.length + 1)) (nI i) (nI t) fdc fnn fsg fpt (nI q.length) fsc fsl fhc aN aP aL aT aS aD aV aPT aPQ aLQ I aM aC aW aB aG aHN aHS aHR aSH aWQ aWL aNN aNC := by
            intro z hz hq
            have go : (fun r_14 : Int32 => (vp_in (nI (r.length + 1) - 1) 15 ∧ ∀ a_partIsSpans_16 : Nat → Int32, a_partIsSpans_16 = upd I (nI (r.length + 1) - 1).toNatClampNeg (vp_nar .boolean r_14) → (∀ x2_17 : Int32, x2_17 = nI i + (-1) → (wX_pendingIsExpression_9 post fdc fnn fsg fpt (nI q.length) fsc fsl fhc (i + 1) (nI (r.length + 1)) x2_17 aN aP aL aT aS aD aV aPT aPQ aLQ a_partIsSpans_16 aM aC aW aB aG aHN aHS aHR aSH aWQ aWL aNN aNC)))) (sg_B z) := by
              show vp_in (nI (r.length + 1) - 1) 15 ∧ _
              rw [nI_pred, nI_clamp (by omega)]
              refine ⟨hv0, nm_r (by rw [sx_nb (sg_B_01 z)]) (nm_r em ?_)⟩
              have hq' := hq
              unfold sq_bs at hq'
              simp only at hq'
              rw [if_pos hj] at hq'
              exact ih' _ (z :: r) hq' ⟨pk_us, sx_K_fr (fun p hp => pk_un (by omega)) kr⟩
            by_cases hs : t = 11 ∨ t = 12
            · rw [decide_eq_true hs] at hz
              subst hz
              exact xj_s1 hs go
            · rw [decide_eq_false hs] at hz
              subst hz
              exact xj_s0 ht2 (by omega) (by omega) go
          have f78 : ∀ z : Bool, (a && b) = z → wX_pendingIsExpression_78 post (wX_pendingIsExpression_9 post fdc fnn fsg fpt (nI q.length) fsc fsl fhc (i + 1)) (nI (r.length + 1)) (nI i) (nI t) (sg_B z) fdc fnn fsg fpt (nI q.length) fsc fsl fhc aN aP aL aT aS aD aV aPT aPQ aLQ I aM aC aW aB aG aHN aHS aHR aSH aWQ aWL aNN aNC := by
            intro z hz
            by_cases hs : t = 11 ∨ t = 12
            · refine xj_s1 hs (br_f (by decide) ?_)
              cases z with
              | true =>
                refine br_f (by decide) (f94 true (decide_eq_true hs) ?_)
                unfold sq_bs
                simp only
                rw [if_pos hj, decide_eq_true hs]
                rw [if_neg (fun zz => zz.2 (Bool.and_eq_true_iff.mp hz))]
              | false =>
                refine br_t rfl (h0 (hno ?_) I)
                show (if (t = 11 ∨ t = 12) ∧ ¬ (a = true ∧ b = true) then none else some (decide (t = 11 ∨ t = 12) :: r)) = none
                rw [if_pos ⟨hs, fun zz => by rw [zz.1, zz.2] at hz; exact absurd hz (by decide)⟩]
            · refine xj_s0 ht2 (by omega) (by omega) (br_t rfl (f94 false (decide_eq_false hs) ?_))
              unfold sq_bs
              simp only
              rw [if_pos hj, decide_eq_false hs, if_neg (fun zz => hs zz.1)]
          cases a with
          | false => exact br_t rfl (f78 false (by cases b <;> rfl))
          | true =>
            refine br_f (by decide) ⟨hv0, ?_⟩
            cases b with
            | false => exact br_t rfl (f78 false rfl)
            | true => exact br_f (by decide) (f78 true rfl)
      · refine xj_j0 (by omega) ht2 (br_t rfl ?_)
        unfold sq_bs at ih'
        simp only at ih'
        rw [if_neg hj] at ih'
        have go : ∀ z : Bool, decide (t < 8) = z → (fun r_21 : Int32 => (vp_in (nI st.length) 15 ∧ ∀ a_partIsSpans_23 : Nat → Int32, a_partIsSpans_23 = upd I (nI st.length).toNatClampNeg (vp_nar .boolean r_21) → (∀ x1_24 : Int32, x1_24 = nI st.length + 1 → (∀ x2_25 : Int32, x2_25 = nI i + (-1) → (wX_pendingIsExpression_9 post fdc fnn fsg fpt (nI q.length) fsc fsl fhc (i + 1) x1_24 x2_25 aN aP aL aT aS aD aV aPT aPQ aLQ a_partIsSpans_23 aM aC aW aB aG aHN aHS aHR aSH aWQ aWL aNN aNC))))) (sg_B z) := by
          intro z hz
          show vp_in (nI st.length) 15 ∧ _
          rw [nI_clamp (by omega)]
          refine ⟨vp_in_nI (by omega) (by omega), nm_r (by rw [sx_nb (sg_B_01 z)]) (nm_r (nI_1 _) (nm_r em ?_))⟩
          exact ih' _ (z :: st) (by rw [hz]) ⟨pk_us, sx_K_fr (fun p hp => pk_un (by omega)) hK⟩
        by_cases hw : t < 8
        · exact xj_w1 hw (go true (decide_eq_true hw))
        · exact xj_w0 (by omega) ht2 (go false (decide_eq_false hw))
  have k0 := key q.length (Nat.le_refl _) aI [] (by rw [List.drop_length]; rfl) trivial
  exact nm_e (Exists.intro (q.length + 1) k0)
theorem xe_like {D : sd_D} {d : Nat} (hd : d < 32) (hL : sd_L D.2.2.1) (hT : sd_tx D.2.2.2.1) (hn : 0 < sd_n D.2.2.1 d) {post : Int32 → SX → Prop}
    (hp : ∀ LQ : Nat → Int32, sr_H LQ 0 (sv_lx (sl_ws D d 8)) → post (nI (sv_lx (sl_ws D d 8)).length) (fdc, fnn, fsg, fpt, fpq, fsc, fsl, fhc, D.1, D.2.1, D.2.2.1, D.2.2.2.1, D.2.2.2.2.1, D.2.2.2.2.2, aV, aPT, aPQ, LQ, aI, aM, aC, aW, aB, aG, aHN, aHS, aHR, aSH, aWQ, aWL, aNN, aNC)) : wpX_fillLikeQuery post (fdc, fnn, fsg, fpt, fpq, fsc, fsl, fhc, D.1, D.2.1, D.2.2.1, D.2.2.2.1, D.2.2.2.2.1, D.2.2.2.2.2, aV, aPT, aPQ, aLQ, aI, aM, aC, aW, aB, aG, aHN, aHS, aHR, aSH, aWQ, aWL, aNN, aNC) (nI d) := by
  have hne := sl_ws_ne hT hn
  have hpos : 0 < (sl_ws D d 8).length := List.length_pos_iff.mpr hne
  have hlen := sl_ws_len D d
  have hcl : ∀ k, (sl_ws D d k).length ≤ k := fun k => by rw [hlen]; exact sg_cn_le _ _
  have h8 := hcl 8
  generalize hj : (sl_ws D d 8).length - 1 = j
  have l62 : ∀ m w (Q : Nat → Int32), w + m = 8 → sr_H Q 0 (List.replicate j 9 ++ sl_ws D d w) →
      wX_fillLikeQuery_62 post (nI d) fdc fnn fsg fpt fpq fsc fsl fhc (m + 1) (nI (List.replicate j 9 ++ sl_ws D d w).length) (nI w) D.1 D.2.1 D.2.2.1 D.2.2.2.1 D.2.2.2.2.1 D.2.2.2.2.2 aV aPT aPQ Q aI aM aC aW aB aG aHN aHS aHR aSH aWQ aWL aNN aNC := by
    intro m
    induction m with
    | zero =>
      intro w Q h hQ
      obtain rfl : w = 8 := by omega
      refine br_t (nI_le (b := 8) (Nat.le_refl _) (by decide)) ?_
      have e : List.replicate j 9 ++ sl_ws D d 8 = sv_lx (sl_ws D d 8) := by unfold sv_lx; rw [hj]
      rw [e] at hQ ⊢
      exact hp Q hQ
    | succ m ih =>
      intro w Q h hQ
      have hw := hcl w
      refine br_f (nI_ge (b := 8) (by omega) (by decide)) ?_
      refine xr_hasWord (d := d) (len := sd_n D.2.2.1 d) hd (hL d).1 (hL d).2 ?_
      have I := ih (w + 1)
      rw [sl_ws_s] at I
      cases hh : sd_hs D.2.2.2.1 (12 * d) (nI w) (sd_n D.2.2.1 d) with
      | true =>
        rw [if_pos (show sd_hw D.2.2.2.1 D.2.2.1 w d = true from hh), ← List.append_assoc] at I
        have hl : (List.replicate j 9 ++ sl_ws D d w).length < 15 := by rw [List.length_append, List.length_replicate]; omega
        refine br_f (by decide) ⟨vp_in_nI hl (by omega), ?_⟩
        rw [nI_clamp (by omega)]
        have hA := sr_H_app (t := w) hQ
        rw [Nat.zero_add] at hA
        have I' := I _ (by omega) hA
        rw [List.length_append (as := List.replicate j 9 ++ sl_ws D d w)] at I'
        exact nm_e (nm_r (nI_1 _) (nm_r (nI_1 _) I'))
      | false =>
        rw [if_neg (by unfold sd_hw; rw [hh]; decide)] at I
        exact br_t rfl (nm_r (nI_1 _) (I Q (by omega) hQ))
  have l36 : ∀ m k (Q : Nat → Int32), k + m = j → sr_H Q 0 (List.replicate k 9) → wX_fillLikeQuery_36 post (nI d) (nI j) fdc fnn fsg fpt fpq fsc fsl fhc (m + 1) (nI k) (nI k) D.1 D.2.1 D.2.2.1 D.2.2.2.1 D.2.2.2.2.1 D.2.2.2.2.2 aV aPT aPQ Q aI aM aC aW aB aG aHN aHS aHR aSH aWQ aWL aNN aNC := by
    intro m
    induction m with
    | zero =>
      intro k Q h hQ
      obtain rfl : k = j := by omega
      refine br_t (nI_le (Nat.le_refl _) (by omega)) (Exists.intro 9 ?_)
      have L := l62 8 0 Q rfl (by rw [show sl_ws D d 0 = [] from rfl, List.append_nil]; exact hQ)
      rw [show sl_ws D d 0 = [] from rfl, List.append_nil, List.length_replicate] at L
      exact L
    | succ m ih =>
      intro k Q h hQ
      refine br_f (nI_ge (by omega) (by omega)) ⟨vp_in_nI (by omega) (by omega), ?_⟩
      rw [nI_clamp (by omega)]
      have hA := sr_H_app (t := 9) hQ
      rw [Nat.zero_add, List.length_replicate, ← List.replicate_succ'] at hA
      exact nm_e (nm_r (nI_1 _) (nm_r (nI_1 _) (ih (k + 1) _ (by omega) hA)))
  have l7 : ∀ m w, w + m = 8 → wX_fillLikeQuery_7 post (nI d) 0 fdc fnn fsg fpt fpq fsc fsl fhc D.1 D.2.1 D.2.2.1 D.2.2.2.1 D.2.2.2.2.1 D.2.2.2.2.2 aV aPT aPQ aLQ aI aM aC aW aB aG aHN aHS aHR aSH aWQ aWL aNN aNC (m + 1) (nI (sg_cn (fun w => sd_hw D.2.2.2.1 D.2.2.1 w d) w) - 1) (nI w) := by
    intro m
    induction m with
    | zero =>
      intro w h
      obtain rfl : w = 8 := by omega
      rw [← hlen 8]
      have e : nI (sl_ws D d 8).length - 1 = nI j := by
        have e2 : (sl_ws D d 8).length = j + 1 := by omega
        rw [e2, nI_pred]
      rw [e]
      exact br_t (nI_le (b := 8) (Nat.le_refl _) (by decide)) (Exists.intro (j + 1) (l36 j 0 aLQ (Nat.zero_add _) (sr_H_0 _ _)))
    | succ m ih =>
      intro w h
      refine br_f (nI_ge (b := 8) (by omega) (by decide)) ?_
      refine xr_hasWord (d := d) (len := sd_n D.2.2.1 d) hd (hL d).1 (hL d).2 ?_
      have I := ih (w + 1) (by omega)
      cases hh : sd_hs D.2.2.2.1 (12 * d) (nI w) (sd_n D.2.2.1 d) with
      | true =>
        rw [sg_cn_t (p := fun w => sd_hw D.2.2.2.1 D.2.2.1 w d) hh] at I
        refine br_f (by decide) (nm_r ?_ (nm_r (nI_1 _) I))
        rw [← nI_1]
        grind
      | false =>
        rw [sg_cn_f (p := fun w => sd_hw D.2.2.2.1 D.2.2.1 w d) (by show ¬ sd_hs D.2.2.2.1 (12 * d) (nI w) (sd_n D.2.2.1 d) = true; rw [hh]; decide)] at I
        exact br_t rfl (nm_r (nI_1 _) I)
  exact Exists.intro 9 (l7 8 0 rfl)
end
