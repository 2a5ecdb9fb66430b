theorem sr_H_low {a : Nat → Int32} {b n : Nat} {x : Int32} {q : List Nat} (h : sr_H a b q) (hn : n < b ∨ b + q.length ≤ n) : sr_H (upd a n x) b q := fun i hi => by
  rw [pk_un (by omega)]; exact h i hi
theorem i_vc_token {k : Nat} {u : SX} {v : SY} (I : i_Rel k u v) (hk : k + 3 ≤ 1536) (v1 : Int32) : wpX_token (fun r u' => wpY_token (fun r' v' => r' = r ∧ i_Rel (k + 3) u' v') v v1) u v1 := by
  have I3 := i_up I
  obtain ⟨dc, m, sg, pt, hc, q, W, D, fsc, fsl, aV, aPT, aPQ, aLQ, aI, aM, aC, aW, aB, aG, aHN, aHS, aHR, aSH, aWQ, aWL, aNN, aNC, bV, bTK, bLN, bKD, bSP, bWT, bIS, bMA, bKN, bSH, bIH, bSC, bKS, bHS, rfl, rfl, hA⟩ := I
  obtain ⟨hm, hpt, hPT, ⟨hD, hT, ⟨st, hI, hst3⟩, hV⟩, hQ, hW, hN, hK, hS⟩ := hA
  have hQ' := hQ
  obtain ⟨q1, q2, q3, q4, q5⟩ := hQ
  -- a token that is none
  have bad : ∀ x : Int32, (x < 0 ∨ nI 13 ≤ x) → (x < nI 1000 ∨ nI 11000 ≤ x) → wpY_token (fun r' v' => r' = -1 ∧ i_Rel (k + 3) (nI dc, nI m, nI sg, nI pt, nI q.length, fsc, fsl, nI hc, D.1, D.2.1, D.2.2.1, D.2.2.2.1, D.2.2.2.2.1, D.2.2.2.2.2, aV, aPT, aPQ, aLQ, aI, aM, aC, aW, aB, aG, aHN, aHS, aHR, aSH, aWQ, aWL, aNN, aNC) v') (nI dc, nI sg, nI m, nI pt, nI hc, D.1, D.2.1, D.2.2.1, D.2.2.2.1, D.2.2.2.2.1, D.2.2.2.2.2, bV, aPT, bTK, bLN, bKD, bSP, bWT, bIS, bMA, bSC, aNN, aNC, bKN, bKS, bSH, bIH, bHS) x := by
    intro x h1 h2
    unfold wpY_token
    refine yv_0 (n := 12) h1 (by decide) (br_t rfl ?_)
    refine yw_in0 ?_ (br_t rfl ⟨rfl, I3⟩)
    rcases h2 with h2 | h2
    · exact Or.inl h2
    · exact Or.inr (Int32.lt_of_lt_of_le (show (10999 : Int32) < nI 11000 by decide) h2)
  have good : ∀ t : Nat, sv_tk t → wX_token_26 (fun r u' => wpY_token (fun r' v' => r' = r ∧ i_Rel (k + 3) u' v') (nI dc, nI sg, nI m, nI pt, nI hc, D.1, D.2.1, D.2.2.1, D.2.2.2.1, D.2.2.2.2.1, D.2.2.2.2.2, bV, aPT, bTK, bLN, bKD, bSP, bWT, bIS, bMA, bSC, aNN, aNC, bKN, bKS, bSH, bIH, bHS) (nI t)) (nI t) 1 (nI dc) (nI m) (nI sg) (nI pt) (nI q.length) fsc fsl (nI hc) D.1 D.2.1 D.2.2.1 D.2.2.2.1 D.2.2.2.2.1 D.2.2.2.2.2 aV aPT aPQ aLQ aI aM aC aW aB aG aHN aHS aHR aSH aWQ aWL aNN aNC := by
    intro t ht
    have ht2 : t < 2 ^ 31 := by unfold sv_tk at ht; omega
    have Y23 : ∀ (P : Int32 → SY → Prop), wY_token_23 P (nI t) (nI dc) (nI sg) (nI m) (nI pt) (nI hc) D.1 D.2.1 D.2.2.1 D.2.2.2.1 D.2.2.2.2.1 D.2.2.2.2.2 bV aPT bTK bLN bKD bSP bWT bIS bMA bSC aNN aNC bKN bKS bSH bIH bHS → wpY_token P (nI dc, nI sg, nI m, nI pt, nI hc, D.1, D.2.1, D.2.2.1, D.2.2.2.1, D.2.2.2.2.1, D.2.2.2.2.2, bV, aPT, bTK, bLN, bKD, bSP, bWT, bIS, bMA, bSC, aNN, aNC, bKN, bKS, bSH, bIH, bHS) (nI t) := by
      intro P hP
      unfold wpY_token
      by_cases h13 : t < 13
      · exact yv_1 (n := 12) (by omega) (by decide) (br_f (by decide) hP)
      · have h1000 : 1000 ≤ t ∧ t < 11000 := by unfold sv_tk at ht; omega
        refine yv_0 (n := 12) (Or.inr (nI_le (by omega) ht2)) (by decide) (br_t rfl ?_)
        exact yw_in1 (nI_nlt (b := 1000) h1000.1 ht2) (nI_nlt (a := 10999) (by omega) (by decide)) (br_f (by decide) hP)
    refine br_f (by decide) ?_
    rcases Nat.lt_or_ge q.length 12 with h | h
    · have e1 : (q ++ [t]).length = q.length + 1 := by rw [List.length_append]; rfl
      refine br_t (nI_lt (b := 12) h (by decide)) ⟨vp_in_nI h (by decide), ?_⟩
      rw [nI_clamp (n := q.length) (by omega)]
      refine nm_e (nm_r (show nI q.length + 1 = nI (q ++ [t]).length by rw [nI_1, e1]) ?_)
      refine Y23 _ ?_
      show (bLN 0 = 12 → _) ∧ (¬ bLN 0 = 12 → _)
      refine br_f (by rw [q3]; exact fun z => by have := (nI_eq (b := 12) (by omega) (by decide)).mp z; omega) ?_
      rw [q3]
      refine nm_r (show upd bLN 0 (nI q.length + 1) = upd bLN 0 (nI (q ++ [t]).length) by rw [nI_1, e1]) ⟨vp_in_nI (by omega) (by omega), nm_r (by rw [nI_clamp (n := q.length) (by omega)]) ⟨pk_us, sr_mk (W := W) (q := q ++ [t]) ⟨by omega, hpt, hPT, ⟨hD, hT, ⟨st, hI, hst3⟩, hV⟩, ?_, ?_, hN, hK, hS⟩⟩⟩
      · refine ⟨by omega, ?_, pk_us, ?_, ?_⟩
        · intro x hx
          rcases List.mem_append.mp hx with hx | hx
          · exact q2 x hx
          · rw [List.mem_singleton.mp hx]; exact ht
        · have := sr_H_app (t := t) q4
          rw [Nat.zero_add] at this
          exact this
        · have := sr_H_app (t := t) q5
          rw [Nat.zero_add] at this
          exact this
      · intro w hw
        obtain ⟨w1, w2, w3, w4, w5, w6, w7⟩ := hW w hw
        exact ⟨w1, w2, w3, w4, by rw [pk_un (by omega)]; exact w5, w6, sr_H_low w7 (by omega)⟩
    · have h12 : q.length = 12 := by omega
      refine br_f (nI_nlt (b := 12) h (by omega)) ?_
      refine Y23 _ ?_
      show (bLN 0 = 12 → _) ∧ (¬ bLN 0 = 12 → _)
      exact br_t (by rw [q3, h12]; rfl) ⟨rfl, I3⟩
  unfold wpX_token
  rcases pk_ix v1 (n := 11000) (by decide) with h | h | ⟨t, ht, rfl⟩
  · refine xv_w0 (Or.inl h) (br_t rfl ?_)
    unfold wpX_isJoin
    refine br_t (Int32.lt_trans h (by decide)) (br_t rfl ?_)
    unfold wpX_isRange
    exact br_t (Int32.lt_trans h (by decide)) (br_t rfl (br_t rfl (bad v1 (Or.inl h) (Or.inl (Int32.lt_trans h (by decide))))))
  · have g8 : nI 8 ≤ v1 := Int32.le_trans (show nI 8 ≤ nI 11000 by decide) h
    have g13 : nI 13 ≤ v1 := Int32.le_trans (show nI 13 ≤ nI 11000 by decide) h
    have g1000 : nI 1000 ≤ v1 := Int32.le_trans (show nI 1000 ≤ nI 11000 by decide) h
    refine xv_w0 (Or.inr g8) (br_t rfl ?_)
    unfold wpX_isJoin
    refine br_f (Int32.not_lt.mpr g8) (br_t (Int32.lt_of_lt_of_le (show (12 : Int32) < nI 13 by decide) g13) (br_t rfl ?_))
    unfold wpX_isRange
    exact br_f (Int32.not_lt.mpr g1000) (br_t (Int32.lt_of_lt_of_le (show (10999 : Int32) < nI 11000 by decide) h) (br_t rfl (br_t rfl (bad v1 (Or.inr g13) (Or.inr h)))))
  · by_cases h8 : t < 8
    · exact xj_w1 h8 (br_f (by decide) (good t (Or.inl (by omega))))
    · refine xj_w0 (by omega) (by omega) (br_t rfl ?_)
      by_cases h12 : t ≤ 12
      · exact xj_j1 (by omega) h12 (br_f (by decide) (good t (Or.inl (by omega))))
      · refine xj_j0 (Or.inr (by omega)) (by omega) (br_t rfl ?_)
        by_cases h1000 : 1000 ≤ t
        · exact xj_r1 h1000 ht (br_f (by decide) (good t (Or.inr ⟨h1000, ht⟩)))
        · exact xj_r0 (by omega) (br_t rfl (br_t rfl (bad (nI t) (Or.inr (nI_le (by omega) (by omega))) (Or.inl (nI_lt (by omega) (by decide))))))
section
variable {gdc gsg gnn gpt gkp : Int32} {bN bP bL bT bS bD bV bPT bTK bLN bKD bSP bWT bIS bMA bNN bNC bKN bSH bIH : Nat → Int32} {bSC bKS bHS : Nat → Int64}
theorem yv_held {dc : Nat} (h32 : dc ≤ 32) {x1 : Int32} (p : Nat → Bool) (hpd : ∀ j, j < dc → (p j = true ↔ ¬ bD j = 0)) {post : Int32 → Prop}
    (hp : (x1 = 0 → post (nI dc)) ∧ (¬ x1 = 0 → ((x1 = 1 → wpY_many (fun r => post r) (nI dc, gsg, gnn, gpt, gkp, bN, bP, bL, bT, bS, bD, bV, bPT, bTK, bLN, bKD, bSP, bWT, bIS, bMA, bSC, bNN, bNC, bKN, bKS, bSH, bIH, bHS) (-1)) ∧ (¬ x1 = 1 → ((x1 = 2 → post (nI (sg_cn p dc))) ∧ (¬ x1 = 2 → ((x1 = 3 → post gsg) ∧ (¬ x1 = 3 → post (-1))))))))) : wpY_held post (nI dc, gsg, gnn, gpt, gkp, bN, bP, bL, bT, bS, bD, bV, bPT, bTK, bLN, bKD, bSP, bWT, bIS, bMA, bSC, bNN, bNC, bKN, bKS, bSH, bIH, bHS) x1 := by
  have key : ∀ m i, i + m = dc → wY_held_4 post x1 (nI dc) gsg gnn gpt gkp bN bP bL bT bS bD bV bPT bTK bLN bKD bSP bWT bIS bMA bSC bNN bNC bKN bKS bSH bIH bHS (m + 1) (nI (sg_cn p i)) (nI i) := by
    intro m
    induction m with
    | zero =>
      intro i h
      obtain rfl : i = dc := by omega
      exact br_t (nI_le (Nat.le_refl _) (by omega)) hp
    | succ m ih =>
      intro i h
      have e : (nI i).toNatClampNeg = i := nI_clamp (by omega)
      have I := ih (i + 1) (by omega)
      refine br_f (nI_ge (by omega) (by omega)) ⟨vp_in_nI (by omega) (by omega), br_c (fun hd => ?_) (fun hd => ?_)⟩
      · rw [e] at hd
        rw [sg_cn_f (fun z => ((hpd i (by omega)).mp z) hd)] at I
        exact nm_r (nI_1 _) I
      · rw [e] at hd
        rw [sg_cn_t ((hpd i (by omega)).mpr hd)] at I
        exact nm_r (nI_1 _) (nm_r (nI_1 _) I)
  exact Exists.intro (dc + 1) (key dc 0 (Nat.zero_add _))
end
theorem i_vc_held {k : Nat} {u : SX} {v : SY} (I : i_Rel k u v) (hk : k + 3 ≤ 1536) (v1 : Int32) : wpX_held (fun r => wpY_held (fun r' => r' = r ∧ i_Rel (k + 3) u v) v v1) u v1 := by
  have I3 := i_up I
  obtain ⟨dc, m, sg, pt, hc, q, W, D, fsc, fsl, aV, aPT, aPQ, aLQ, aI, aM, aC, aW, aB, aG, aHN, aHS, aHR, aSH, aWQ, aWL, aNN, aNC, bV, bTK, bLN, bKD, bSP, bWT, bIS, bMA, bKN, bSH, bIH, bSC, bKS, bHS, rfl, rfl, hA⟩ := I
  obtain ⟨hm, hpt, hPT, ⟨hD, hT, ⟨st, hI, hst3⟩, hV⟩, hQ, hW, hN, hK, hS⟩ := hA
  have h32 := hI.2.1
  have hpd : ∀ j, j < dc → ((fun j => decide (¬ D.2.2.2.2.2 j = 0)) j = true ↔ ¬ D.2.2.2.2.2 j = 0) := fun j _ => decide_eq_true_iff
  have hpc : ∀ (x : Int32) j, j < dc → ((fun j => decide (D.2.2.2.2.1 j = x)) j = true ↔ D.2.2.2.2.1 j = x) := fun x j _ => decide_eq_true_iff
  unfold wpX_held
  rcases pk_ix v1 (n := 4) (by decide) with h | h | ⟨t, ht, rfl⟩
  · have ne : ∀ x : Int32, ¬ x < 0 → ¬ v1 = x := fun x hx z => hx (by rw [← z]; exact h)
    refine br_t h ?_
    exact yv_held h32 _ hpd (br_f (ne 0 (by decide)) (br_f (ne 1 (by decide)) (br_f (ne 2 (by decide)) (br_f (ne 3 (by decide)) ⟨rfl, I3⟩))))
  · have ne : ∀ x : Int32, ¬ nI 4 ≤ x → ¬ v1 = x := fun x hx z => hx (by rw [← z]; exact h)
    have h0 : ¬ v1 < 0 := fun z => absurd (Int32.lt_of_le_of_lt h z) (by decide)
    refine br_f h0 (br_t (Int32.lt_of_lt_of_le (show (3 : Int32) < nI 4 by decide) h) ?_)
    exact yv_held h32 _ hpd (br_f (ne 0 (by decide)) (br_f (ne 1 (by decide)) (br_f (ne 2 (by decide)) (br_f (ne 3 (by decide)) ⟨rfl, I3⟩))))
  · refine br_f (nI_pos (by omega)) (br_f (nI_nlt (a := 3) (by omega) (by decide)) ?_)
    obtain rfl | rfl | rfl | rfl : t = 0 ∨ t = 1 ∨ t = 2 ∨ t = 3 := by omega
    · refine br_t rfl ?_
      exact yv_held h32 _ hpd (br_t rfl ⟨rfl, I3⟩)
    · refine br_f (by decide) (br_t rfl ?_)
      refine xr_countIn h32 _ (hpc (-1)) ?_
      refine yv_held h32 _ hpd (br_f (by decide) (br_t rfl ?_))
      exact yr_many h32 _ (hpc (-1)) ⟨rfl, I3⟩
    · refine br_f (by decide) (br_f (by decide) (br_t rfl ?_))
      refine xr_countAllDeleted h32 _ hpd ?_
      exact yv_held h32 _ hpd (br_f (by decide) (br_f (by decide) (br_t rfl ⟨rfl, I3⟩)))
    · refine br_f (by decide) (br_f (by decide) (br_f (by decide) (br_t rfl ?_)))
      exact yv_held h32 _ hpd (br_f (by decide) (br_f (by decide) (br_f (by decide) (br_t rfl ⟨rfl, I3⟩))))
section
variable {gdc gsg gnn gpt gkp : Int32} {bN bP bL bT bS bD bV bPT bTK bLN bKD bSP bWT bIS bMA bNN bNC bKN bSH bIH : Nat → Int32} {bSC bKS bHS : Nat → Int64}
theorem yv_seg {dc : Nat} (h32 : dc ≤ 32) {x1 x2 : Int32} (hNn : ∀ j, ∃ n, n < 2 ^ 31 ∧ bN j = nI n) (p : Nat → Bool) (hpd : ∀ j, j < dc → (p j = true ↔ (bS j = x1 ∧ ¬ bD j = 0))) {post : Int32 → Prop}
    (hp : ∀ x4 : Int32, (((∀ j, j < dc → ¬ bS j = x1) ∧ x4 = -1) ∨ ∃ e, e < dc ∧ bS e = x1 ∧ (∀ j, j < e → ¬ bS j = x1) ∧ x4 = bN e) →
      ((x2 = 0 → (vp_in x1 34 ∧ (post (bV x1.toNatClampNeg)))) ∧ (¬ x2 = 0 → (((x2 = 1 → (wpY_many (fun r => post r) (nI dc, gsg, gnn, gpt, gkp, bN, bP, bL, bT, bS, bD, bV, bPT, bTK, bLN, bKD, bSP, bWT, bIS, bMA, bSC, bNN, bNC, bKN, bKS, bSH, bIH, bHS) x1)) ∧ (¬ x2 = 1 → (((x2 = 2 → (post (nI (sg_cn p dc)))) ∧ (¬ x2 = 2 → (post x4)))))))))) :
    ∃ n31 : Nat, wY_segment_31 post x1 x2 (nI dc) gsg gnn gpt gkp bN bP bL bT bS bD bV bPT bTK bLN bKD bSP bWT bIS bMA bSC bNN bNC bKN bKS bSH bIH bHS n31 0 (-1) 0 := by
  have key : ∀ m i (x4 : Int32), i + m = dc → (((∀ j, j < i → ¬ bS j = x1) ∧ x4 = -1) ∨ ∃ e, e < i ∧ bS e = x1 ∧ (∀ j, j < e → ¬ bS j = x1) ∧ x4 = bN e) → wY_segment_31 post x1 x2 (nI dc) gsg gnn gpt gkp bN bP bL bT bS bD bV bPT bTK bLN bKD bSP bWT bIS bMA bSC bNN bNC bKN bKS bSH bIH bHS (m + 1) (nI (sg_cn p i)) x4 (nI i) := by
    intro m
    induction m with
    | zero =>
      intro i x4 h hx
      obtain rfl : i = dc := by omega
      exact br_t (nI_le (Nat.le_refl _) (by omega)) (hp x4 hx)
    | succ m ih =>
      intro i x4 h hx
      have e : (nI i).toNatClampNeg = i := nI_clamp (by omega)
      have hv : vp_in (nI i) 32 := vp_in_nI (by omega) (by omega)
      have I := ih (i + 1)
      have f67 : bS i = x1 → ∀ c : Nat, sg_cn p (i + 1) = c → wY_segment_67 post (wY_segment_31 post x1 x2 (nI dc) gsg gnn gpt gkp bN bP bL bT bS bD bV bPT bTK bLN bKD bSP bWT bIS bMA bSC bNN bNC bKN bKS bSH bIH bHS (m + 1)) x1 x2 (nI c) x4 (nI i) (nI dc) gsg gnn gpt gkp bN bP bL bT bS bD bV bPT bTK bLN bKD bSP bWT bIS bMA bSC bNN bNC bKN bKS bSH bIH bHS := by
        intro hsx c hc
        rw [hc] at I
        rcases hx with ⟨hn, rfl⟩ | ⟨f, hf, hs, hn, rfl⟩
        · refine br_f (by decide) ⟨hv, ?_⟩
          rw [e]
          exact nm_e (nm_r (nI_1 _) (I _ (by omega) (Or.inr ⟨i, by omega, hsx, hn, rfl⟩)))
        · obtain ⟨n, hn1, hn2⟩ := hNn f
          exact br_t (by rw [hn2]; exact nI_pos' hn1) (nm_r (nI_1 _) (I _ (by omega) (Or.inr ⟨f, by omega, hs, hn, rfl⟩)))
      refine br_f (nI_ge (by omega) (by omega)) ⟨hv, ?_⟩
      rw [e]
      refine br_c (fun hc => ⟨hv, br_c (fun hd => ?_) (fun hd => ?_)⟩) (fun hc => ?_)
      · exact f67 hc _ (sg_cn_f (fun z => ((hpd i (by omega)).mp z).2 hd))
      · exact nm_r (nI_1 _) (f67 hc _ (sg_cn_t ((hpd i (by omega)).mpr ⟨hc, hd⟩)))
      · have I' := I x4 (by omega) (by
          rcases hx with ⟨hn, hx⟩ | ⟨f, hf, hs⟩
          · refine Or.inl ⟨fun j hj => ?_, hx⟩
            rcases Nat.lt_or_ge j i with a | a
            · exact hn j a
            · obtain rfl : j = i := by omega
              exact hc
          · exact Or.inr ⟨f, by omega, hs⟩)
        rw [sg_cn_f (fun z => hc ((hpd i (by omega)).mp z).1)] at I'
        exact nm_r (nI_1 _) I'
  exact Exists.intro (dc + 1) (key dc 0 (-1) (Nat.zero_add _) (Or.inl ⟨fun j hj => absurd hj (Nat.not_lt_zero j), rfl⟩))
end
theorem i_vc_segment {k : Nat} {u : SX} {v : SY} (I : i_Rel k u v) (hk : k + 3 ≤ 1536) (v1 : Int32) (v2 : Int32) : wpX_segment (fun r => wpY_segment (fun r' => r' = r ∧ i_Rel (k + 3) u v) v v1 v2) u v1 v2 := by
  have I3 := i_up I
  obtain ⟨dc, m, sg, pt, hc, q, W, D, fsc, fsl, aV, aPT, aPQ, aLQ, aI, aM, aC, aW, aB, aG, aHN, aHS, aHR, aSH, aWQ, aWL, aNN, aNC, bV, bTK, bLN, bKD, bSP, bWT, bIS, bMA, bKN, bSH, bIH, bSC, bKS, bHS, rfl, rfl, hA⟩ := I
  obtain ⟨hm, hpt, hPT, ⟨hD, hT, ⟨st, hI, hst3⟩, hV⟩, hQ, hW, hN, hK, hS⟩ := hA
  have h32 := hI.2.1
  have hsg := sd_I_sg hI
  have hst := hI.1
  unfold wpX_segment
  rcases pk_ix v1 (n := sg) (by omega) with h | h | ⟨c, hc', rfl⟩
  · refine br_t h ?_
    unfold wpY_segment
    exact br_t h ⟨rfl, I3⟩
  · have h0 : ¬ v1 < 0 := fun z => absurd (Int32.lt_of_le_of_lt h z) (nI_pos (by omega))
    refine br_f h0 (br_f (Int32.not_lt.mpr h) ?_)
    unfold wpY_segment
    exact br_f h0 (br_t h ⟨rfl, I3⟩)
  · have h0 : ¬ nI c < 0 := nI_pos (by omega)
    have h1 : nI c < nI sg := nI_lt hc' (by omega)
    have h2 : ¬ nI sg ≤ nI c := nI_ge hc' (by omega)
    have hpd : ∀ j, j < dc → ((fun j => decide (D.2.2.2.2.1 j = nI c ∧ ¬ D.2.2.2.2.2 j = 0)) j = true ↔ (D.2.2.2.2.1 j = nI c ∧ ¬ D.2.2.2.2.2 j = 0)) := fun j _ => decide_eq_true_iff
    have hpc : ∀ j, j < dc → ((fun j => decide (D.2.2.2.2.1 j = nI c)) j = true ↔ D.2.2.2.2.1 j = nI c) := fun j _ => decide_eq_true_iff
    have ec : (nI c).toNatClampNeg = c := nI_clamp (by omega)
    refine br_f h0 (br_t h1 ?_)
    rcases pk_ix v2 (n := 4) (by decide) with h | h | ⟨t, ht, rfl⟩
    · refine br_t h ?_
      unfold wpY_segment
      exact br_f h0 (br_f h2 (yv_0 (n := 3) (Or.inl h) (by decide) (br_t rfl ⟨rfl, I3⟩)))
    · have h0' : ¬ v2 < 0 := fun z => absurd (Int32.lt_of_le_of_lt h z) (by decide)
      refine br_f h0' (br_t (Int32.lt_of_lt_of_le (show (3 : Int32) < nI 4 by decide) h) ?_)
      unfold wpY_segment
      exact br_f h0 (br_f h2 (yv_0 (n := 3) (Or.inr h) (by decide) (br_t rfl ⟨rfl, I3⟩)))
    · refine br_f (nI_pos (by omega)) (br_f (nI_nlt (a := 3) (by omega) (by decide)) ?_)
      obtain rfl | rfl | rfl | rfl : t = 0 ∨ t = 1 ∨ t = 2 ∨ t = 3 := by omega
      · refine br_t rfl ⟨vp_in_nI (by omega) (by omega), ?_⟩
        unfold wpY_segment
        refine br_f h0 (br_f h2 (yv_1 (n := 3) (by omega) (by decide) (br_f (by decide) (yv_seg h32 hD.1 _ hpd (fun x4 _ => br_t rfl ⟨vp_in_nI (by omega) (by omega), ?_, I3⟩)))))
        rw [ec]; exact (hV c hc').symm
      · refine br_f (by decide) (br_t rfl ?_)
        refine xr_countIn h32 _ hpc ?_
        unfold wpY_segment
        refine br_f h0 (br_f h2 (yv_1 (n := 3) (by omega) (by decide) (br_f (by decide) (yv_seg h32 hD.1 _ hpd (fun x4 _ => br_f (by decide) (br_t rfl ?_))))))
        exact yr_many h32 _ hpc ⟨rfl, I3⟩
      · refine br_f (by decide) (br_f (by decide) (br_t rfl ?_))
        refine xr_countDeletedIn h32 _ hpd ?_
        unfold wpY_segment
        exact br_f h0 (br_f h2 (yv_1 (n := 3) (by omega) (by decide) (br_f (by decide) (yv_seg h32 hD.1 _ hpd (fun x4 _ => br_f (by decide) (br_f (by decide) (br_t rfl ⟨rfl, I3⟩)))))))
      · refine br_f (by decide) (br_f (by decide) (br_f (by decide) (br_t rfl ?_)))
        obtain ⟨r, hF⟩ := sd_F_ex D.2.2.2.2.1 (nI c) dc
        refine xr_lowest h32 hF (fun hr => ?_) (fun d hd hr => ?_)
        · unfold wpY_segment
          refine br_f h0 (br_f h2 (yv_1 (n := 3) (by omega) (by decide) (br_f (by decide) (yv_seg h32 hD.1 _ hpd (fun x4 hx => br_f (by decide) (br_f (by decide) (br_f (by decide) ⟨?_, I3⟩)))))))
          rcases hx with hx | ⟨e, he, hs, _⟩
          · exact hx.2
          · rcases hF with hF | ⟨d, hd, hr2, _⟩
            · exact absurd hs (hF.2 e he)
            · rw [hr] at hr2
              exact absurd hr2.symm (sx_nm (by omega))
        · unfold wpY_segment
          refine br_f h0 (br_f h2 (yv_1 (n := 3) (by omega) (by decide) (br_f (by decide) (yv_seg h32 hD.1 _ hpd (fun x4 hx => br_f (by decide) (br_f (by decide) (br_f (by decide) ⟨?_, I3⟩)))))))
          rcases hF with hF | ⟨d', hd', hr2, hs', hn'⟩
          · rw [hr] at hF
            exact absurd hF.1 (sx_nm (by omega))
          · rw [hr] at hr2
            have hdd : d = d' := (nI_eq (by omega) (by omega)).mp hr2
            subst hdd
            rcases hx with hx | ⟨e, he, hs, hn, hx⟩
            · exact absurd hs' (hx.1 d hd)
            · have : e = d := by
                rcases Nat.lt_trichotomy e d with a | a | a
                · exact absurd hs (hn' e a)
                · exact a
                · exact absurd hs' (hn d a)
              rw [hx, this]
