/-! merging: documents, levels, how many documents, how many segments -/
abbrev sm_S : Type := sd_D × (Nat → Int32) × Nat × Nat
def sm_st (s : sm_S) : sm_S :=
  ((sd_jn (nI (s.2.2.2 - 3)) s.1 s.2.2.1).1, (if 0 < (sd_jn (nI (s.2.2.2 - 3)) s.1 s.2.2.1).2.2 then upd s.2.1 (s.2.2.2 - 3) (s.2.1 (s.2.2.2 - 3) + 1) else s.2.1), (sd_jn (nI (s.2.2.2 - 3)) s.1 s.2.2.1).2.1, if 0 < (sd_jn (nI (s.2.2.2 - 3)) s.1 s.2.2.1).2.2 then s.2.2.2 - 3 + 1 else s.2.2.2 - 3)
noncomputable def sm_go : Nat → sm_S → sm_S
  | 0, s => s
  | k + 1, s => @ite _ (sd_al s.2.1 s.2.2.2) (Classical.propDecidable _) (sm_go k (sm_st s)) s
theorem sm_go_y {k : Nat} {s : sm_S} (h : sd_al s.2.1 s.2.2.2) : sm_go (k + 1) s = sm_go k (sm_st s) := by
  show @ite _ (sd_al s.2.1 s.2.2.2) (Classical.propDecidable _) (sm_go k (sm_st s)) s = _
  rw [if_pos h]
theorem sm_go_n {k : Nat} {s : sm_S} (h : ¬ sd_al s.2.1 s.2.2.2) : sm_go k s = s := by
  cases k with
  | zero => rfl
  | succ k =>
    show @ite _ (sd_al s.2.1 s.2.2.2) (Classical.propDecidable _) (sm_go k (sm_st s)) s = _
    rw [if_neg h]
def sm_I (s : sm_S) : Prop := sd_ok s.1 ∧ sd_I s.1.2.2.2.2.1 s.2.2.1 s.2.2.1 s.2.2.2
theorem sm_st_I {s : sm_S} (h : sm_I s) (ha : sd_al s.2.1 s.2.2.2) : sm_I (sm_st s) ∧ (sm_st s).2.2.2 + 2 ≤ s.2.2.2 := by
  obtain ⟨h1, h2⟩ := h
  have h3 := sd_I_join (D := s.1) (f := s.2.2.2 - 3) h2 (by omega)
  refine ⟨⟨sd_ok_jn h1 _ _, h3.1⟩, ?_⟩
  have := ha.1
  show (if 0 < (sd_jn (nI (s.2.2.2 - 3)) s.1 s.2.2.1).2.2 then s.2.2.2 - 3 + 1 else s.2.2.2 - 3) + 2 ≤ s.2.2.2
  split <;> omega
theorem sm_go_I : ∀ k (s : sm_S), sm_I s → sm_I (sm_go k s)
  | 0, _, h => h
  | k + 1, s, h => by
    by_cases ha : sd_al s.2.1 s.2.2.2
    · rw [sm_go_y ha]; exact sm_go_I k _ (sm_st_I h ha).1
    · rw [sm_go_n ha]; exact h
/-- what the flush leaves: all stored, then merged -/
def sm_fl (D : sd_D) (st dc sg : Nat) : sd_D := (D.1, D.2.1, D.2.2.1, D.2.2.2.1, sd_cy D.2.2.2.2.1 st (fun _ => nI sg) 0 (dc - st), D.2.2.2.2.2)
theorem sm_fl_ok {D : sd_D} (h : sd_ok D) (st dc sg : Nat) : sd_ok (sm_fl D st dc sg) := h
theorem sm_fl_I {D : sd_D} {st dc sg : Nat} (h : sd_I D.2.2.2.2.1 st dc sg) (hlt : st < dc) : sd_I (sm_fl D st dc sg).2.2.2.2.1 dc dc (sg + 1) := by
  have hsg := sd_I_sg h
  obtain ⟨h1, h2, h3, h4, h5⟩ := h
  have lo : ∀ j, j < st → (sm_fl D st dc sg).2.2.2.2.1 j = D.2.2.2.2.1 j := fun j hj => sd_cy_out (a := D.2.2.2.2.1) (b := st) (s := fun _ => nI sg) (c := 0) (m := dc - st) (Or.inl hj)
  have hi : ∀ j, st ≤ j → j < dc → (sm_fl D st dc sg).2.2.2.2.1 j = nI sg := by
    intro j a b
    show sd_cy D.2.2.2.2.1 st (fun _ => nI sg) 0 (dc - st) j = nI sg
    unfold sd_cy
    rw [if_pos (by omega)]
  have all : ∀ d, d < dc → ∃ c, c < sg + 1 ∧ (sm_fl D st dc sg).2.2.2.2.1 d = nI c := by
    intro d hd
    rcases Nat.lt_or_ge d st with a | a
    · rw [lo d a]
      obtain ⟨c, hc, e⟩ := h3 d a
      exact ⟨c, by omega, e⟩
    · exact ⟨sg, by omega, hi d a hd⟩
  refine ⟨Nat.le_refl _, h2, all, fun d a b => absurd b (by omega), ?_⟩
  intro c hc
  rcases Nat.lt_or_ge sg c with a | a
  · obtain rfl : c = sg + 1 := by omega
    rw [sg_cn_all dc (fun i hi => by
      obtain ⟨c, hc, e⟩ := all i hi
      show decide ((sm_fl D st dc sg).2.2.2.2.1 i < nI (sg + 1)) = true
      rw [e]
      exact decide_eq_true ((nI_ltI (by omega) (by omega)).mpr hc))]
    omega
  · have h6 := h5 c a
    obtain ⟨b, hb⟩ := Nat.exists_eq_add_of_le h1
    rw [hb, sg_cn_split]
    have h7 : sg_cn (fun j => decide ((sm_fl D st (st + b) sg).2.2.2.2.1 j < nI c)) st = sg_cn (fun j => decide (D.2.2.2.2.1 j < nI c)) st := by
      apply sg_cn_congr
      intro i hi'
      show decide ((sm_fl D st (st + b) sg).2.2.2.2.1 i < nI c) = _
      rw [show (sm_fl D st (st + b) sg).2.2.2.2.1 i = D.2.2.2.2.1 i from sd_cy_out (a := D.2.2.2.2.1) (b := st) (s := fun _ => nI sg) (c := 0) (m := st + b - st) (Or.inl hi')]
    rw [h7]
    omega
section
variable {fdc fnn fsg fpt fpq fsc fsl fhc : Int32} {aN aP aL aT aS aD aV aPT aPQ aLQ aI aM aC aW aB aG aHN aHS aHR aSH aWQ aWL aNN aNC : Nat → Int32}
theorem xm_merge {post : SX → Prop} : ∀ k r (s : sm_S), sm_I s → s.2.2.2 ≤ 2 * k + 2 → 2 * r + s.2.2.2 ≤ 32 → post (nI (sm_go k s).2.2.1, fnn, nI (sm_go k s).2.2.2, fpt, fpq, fsc, fsl, fhc, ((sm_go k s).1).1, ((sm_go k s).1).2.1, ((sm_go k s).1).2.2.1, ((sm_go k s).1).2.2.2.1, ((sm_go k s).1).2.2.2.2.1, ((sm_go k s).1).2.2.2.2.2, (sm_go k s).2.1, aPT, aPQ, aLQ, aI, aM, aC, aW, aB, aG, aHN, aHS, aHR, aSH, aWQ, aWL, aNN, aNC) →
    wX_mergeSegments_2 post (k + 1) (nI r) (nI s.2.2.1) fnn (nI s.2.2.2) fpt fpq fsc fsl fhc ((s.1).1) ((s.1).2.1) ((s.1).2.2.1) ((s.1).2.2.2.1) ((s.1).2.2.2.2.1) ((s.1).2.2.2.2.2) s.2.1 aPT aPQ aLQ aI aM aC aW aB aG aHN aHS aHR aSH aWQ aWL aNN aNC := by
  intro k
  induction k with
  | zero =>
    intro r s hI hk hr hp
    have hn : ¬ sd_al s.2.1 s.2.2.2 := fun z => by have := z.1; omega
    refine br_f (nI_ge (b := 32) (by omega) (by decide)) ?_
    exact xd_alike (by omega) (fun z => absurd z hn) (fun _ => br_t rfl hp)
  | succ k ih =>
    intro r s hI hk hr hp
    refine br_f (nI_ge (b := 32) (by omega) (by decide)) ?_
    refine xd_alike (by omega) (fun ha => ?_) (fun hn => ?_)
    · rw [sm_go_y ha] at hp
      have h3 := ha.1
      obtain ⟨hI', hle⟩ := sm_st_I hI ha
      have e3 : nI s.2.2.2 - 3 = nI (s.2.2.2 - 3) := by
        show nI s.2.2.2 - nI 3 = _
        rw [pk_sub h3]
      have I := ih (r + 1) (sm_st s) hI' (by omega) (by omega) hp
      unfold sm_st at I
      refine br_f (by decide) (nm_r e3 ⟨vp_in_nI (by omega) (by omega), ?_⟩)
      rw [nI_clamp (by omega)]
      refine xd_join hI.2.2.1 (by omega) hI.1 (fun h0 => ?_) (fun h0 => ?_)
      · rw [if_neg (by omega), if_neg (by omega)] at I
        exact nm_r (nI_1 _) I
      · rw [if_pos h0, if_pos h0] at I
        exact nm_r (nI_1 _) I
    · rw [sm_go_n hn] at hp
      exact br_t rfl hp
theorem xm_flush {dc st sg : Nat} {W : Nat → List Nat} {D : sd_D} (hD : sd_ok D) (hI : sd_I D.2.2.2.2.1 st dc sg) (hW : sn_W W aWQ aWL) (hN : sr_N aNC) {post : SX → Prop}
    (h0 : st = dc → post (nI dc, fnn, nI sg, fpt, fpq, fsc, fsl, fhc, D.1, D.2.1, D.2.2.1, D.2.2.2.1, D.2.2.2.2.1, D.2.2.2.2.2, aV, aPT, aPQ, aLQ, aI, aM, aC, aW, aB, aG, aHN, aHS, aHR, aSH, aWQ, aWL, aNN, aNC))
    (hp : st < dc → ∀ (s : sm_S) (n : sn_S), s = sm_go 16 (sm_fl D st dc sg, upd aV sg 0, dc, sg + 1) → n = sn_t W (sn_mt D) D.1 st (dc - st) (aNN, aNC) → ∀ (c1 c2 : Int32) (M C V B G : Nat → Int32),
      post (nI s.2.2.1, fnn, nI s.2.2.2, fpt, fpq, c1, c2, fhc, (s.1).1, (s.1).2.1, (s.1).2.2.1, (s.1).2.2.2.1, (s.1).2.2.2.2.1, (s.1).2.2.2.2.2, s.2.1, aPT, aPQ, aLQ, aI, M, C, V, B, G, aHN, aHS, aHR, aSH, aWQ, aWL, n.1, n.2)) :
    wpX_flushBuffer post (nI dc, fnn, nI sg, fpt, fpq, fsc, fsl, fhc, D.1, D.2.1, D.2.2.1, D.2.2.2.1, D.2.2.2.2.1, D.2.2.2.2.2, aV, aPT, aPQ, aLQ, aI, aM, aC, aW, aB, aG, aHN, aHS, aHR, aSH, aWQ, aWL, aNN, aNC) := by
  have hsg := sd_I_sg hI
  have hP := sd_I_P hI
  obtain ⟨h1, h32, h3, h4⟩ := hP
  have ecn : sg_cn (fun j => decide (st ≤ j)) dc = dc - st := by
    obtain ⟨b, rfl⟩ := Nat.exists_eq_add_of_le h1
    rw [sg_cn_split, sg_cn_0 st (fun i hi => decide_eq_false (by omega)), sg_cn_all b (fun i _ => decide_eq_true (by omega))]
    omega
  refine xr_countIn h32 (fun j => decide (st ≤ j)) (fun j hj => ?_) ?_
  · rw [decide_eq_true_iff]
    constructor
    · intro a; exact h4 j a hj
    · intro a
      rcases Nat.lt_or_ge j st with b | b
      · obtain ⟨c, hc, e⟩ := h3 j b
        rw [e] at a
        exact absurd a (sx_nm hc)
      · exact b
  · rw [ecn]
    rcases Nat.lt_or_ge st dc with hlt | hge
    · refine br_f (nI_ne0 (by omega) (by omega)) (nm_r (nI_1 _) ⟨vp_in_nI (by omega) (by omega), ?_⟩)
      rw [nI_clamp (by omega)]
      have e1 : nI dc - nI (dc - st) = nI st := by
        rw [pk_sub (by omega)]
        exact congrArg nI (by omega)
      refine nm_e (nm_r e1 ?_)
      have key : ∀ m i, i + m = dc - st → wX_flushBuffer_43 post (nI sg) (nI st) (nI dc) fnn (nI (sg + 1)) fpt fpq fsc fsl fhc (m + 1) (nI (st + i)) D.1 D.2.1 D.2.2.1 D.2.2.2.1 (sd_cy D.2.2.2.2.1 st (fun _ => nI sg) 0 i) D.2.2.2.2.2 (upd aV sg 0) aPT aPQ aLQ aI aM aC aW aB aG aHN aHS aHR aSH aWQ aWL aNN aNC := by
        intro m
        induction m with
        | zero =>
          intro i h
          obtain rfl : i = dc - st := by omega
          have hI' := sm_fl_I hI hlt
          refine br_t (nI_le (by omega) (by omega)) (xn_tell (D := sm_fl D st dc sg) h32 h1 hD (sd_I_P hI') hW hN ?_)
          intro c1 c2 M C V B G
          have hp' := hp hlt _ _ rfl rfl c1 c2 M C V B G
          exact Exists.intro 17 (xm_merge 16 0 (sm_fl D st dc sg, upd aV sg 0, dc, sg + 1) ⟨hD, hI'⟩ (by show sg + 1 ≤ 34; omega) (by show 2 * 0 + (sg + 1) ≤ 32; omega) hp')
        | succ m ih =>
          intro i h
          refine br_f (nI_ge (by omega) (by omega)) ⟨vp_in_nI (by omega) (by omega), ?_⟩
          rw [nI_clamp (by omega)]
          exact nm_r (sd_cy_s D.2.2.2.2.1 st (fun _ => nI sg) 0 i) (nm_r (nI_1 _) (ih (i + 1) (by omega)))
      have k0 := key (dc - st) 0 (Nat.zero_add _)
      rw [sd_cy_0] at k0
      exact Exists.intro (dc - st + 1) k0
    · have e0 : dc - st = 0 := by omega
      rw [e0]
      exact br_t rfl (h0 (by omega))
end
