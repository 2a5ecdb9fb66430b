section
variable {gdc gsg gnn gpt gkp : Int32} {bN bP bL bT bS bD bV bPT bTK bLN bKD bSP bWT bIS bMA bNN bNC bKN bSH bIH : Nat → Int32} {bSC bKS bHS : Nat → Int64}
theorem yd_copy {D : sd_D} {f t : Nat} (hf : f < 32) (ht : t < 32) (hD : D.2.2.2.2.2 f = 0 ∨ D.2.2.2.2.2 f = 1) {post : SY → Prop}
    (hp : post (gdc, gsg, gnn, gpt, gkp, (sd_cp D f t).1, (sd_cp D f t).2.1, (sd_cp D f t).2.2.1, (sd_cp D f t).2.2.2.1, (sd_cp D f t).2.2.2.2.1, (sd_cp D f t).2.2.2.2.2, bV, bPT, bTK, bLN, bKD, bSP, bWT, bIS, bMA, bSC, bNN, bNC, bKN, bKS, bSH, bIH, bHS)) : wpY_copy post (gdc, gsg, gnn, gpt, gkp, D.1, D.2.1, D.2.2.1, D.2.2.2.1, D.2.2.2.2.1, D.2.2.2.2.2, bV, bPT, bTK, bLN, bKD, bSP, bWT, bIS, bMA, bSC, bNN, bNC, bKN, bKS, bSH, bIH, bHS) (nI f) (nI t) := by
  have ef : (nI f).toNatClampNeg = f := nI_clamp (by omega)
  have et : (nI t).toNatClampNeg = t := nI_clamp (by omega)
  have key : ∀ m i, i + m = 12 → wY_copy_62 post (nI f) (nI t) gdc gsg gnn gpt gkp (m + 1) (nI i) ((sd_cp D f t).1) ((sd_cp D f t).2.1) ((sd_cp D f t).2.2.1) (sd_cy D.2.2.2.1 (12 * t) D.2.2.2.1 (12 * f) i) ((sd_cp D f t).2.2.2.2.1) ((sd_cp D f t).2.2.2.2.2) bV bPT bTK bLN bKD bSP bWT bIS bMA bSC bNN bNC bKN bKS bSH bIH bHS := by
    intro m
    induction m with
    | zero =>
      intro i h
      obtain rfl : i = 12 := by omega
      exact br_t (nI_le (b := 12) (Nat.le_refl _) (by decide)) hp
    | succ m ih =>
      intro i h
      have e1 : (12 * nI f + nI i).toNatClampNeg = 12 * f + i := by rw [sy_ix]; exact nI_clamp (by omega)
      have e2 : (12 * nI t + nI i).toNatClampNeg = 12 * t + i := by rw [sy_ix]; exact nI_clamp (by omega)
      refine br_f (nI_ge (b := 12) (by omega) (by decide)) ⟨by rw [sy_ix]; exact vp_in_nI (by omega) (by omega), by rw [sy_ix]; exact vp_in_nI (by omega) (by omega), ?_⟩
      rw [e1, e2]
      have e3 := sd_cy_s D.2.2.2.1 (12 * t) D.2.2.2.1 (12 * f) i
      rw [← sd_cy_mv D.2.2.2.1 f t i (by omega)] at e3
      exact nm_r e3 (nm_r (nI_1 _) (ih (i + 1) (by omega)))
  have k0 := key 12 0 rfl
  rw [sd_cy_0] at k0
  have hvf : vp_in (nI f) 32 := vp_in_nI hf (by omega)
  have hvt : vp_in (nI t) 32 := vp_in_nI ht (by omega)
  refine ⟨hvf, hvt, ?_⟩
  rw [ef, et]
  exact nm_e ⟨hvf, hvt, nm_e ⟨hvf, hvt, nm_e ⟨hvf, hvt, nm_e ⟨hvf, hvt, nm_r (by rw [sx_nb hD]; rfl) (Exists.intro 13 k0)⟩⟩⟩⟩
theorem yd_remove {dc : Nat} (h32 : dc + 1 ≤ 32) {post : Int32 → SY → Prop} : ∀ m k (D : sd_D), k + m = dc → sd_ok D → post 1 (nI dc, gsg, gnn, gpt, gkp, (sd_rmv m k D).1, (sd_rmv m k D).2.1, (sd_rmv m k D).2.2.1, (sd_rmv m k D).2.2.2.1, (sd_rmv m k D).2.2.2.2.1, (sd_rmv m k D).2.2.2.2.2, bV, bPT, bTK, bLN, bKD, bSP, bWT, bIS, bMA, bSC, bNN, bNC, bKN, bKS, bSH, bIH, bHS) →
    wY_delete_52 post (m + 1) (nI k) (nI dc) gsg gnn gpt gkp D.1 D.2.1 D.2.2.1 D.2.2.2.1 D.2.2.2.2.1 D.2.2.2.2.2 bV bPT bTK bLN bKD bSP bWT bIS bMA bSC bNN bNC bKN bKS bSH bIH bHS := by
  intro m
  induction m with
  | zero =>
    intro k D h _ hp
    obtain rfl : k = dc := by omega
    exact br_t (nI_le (Nat.le_refl _) (by omega)) hp
  | succ m ih =>
    intro k D h hD hp
    refine br_f (nI_ge (by omega) (by omega)) ?_
    rw [nI_1]
    exact yd_copy (by omega) (by omega) (hD.2.2.2 _) (nm_e (ih (k + 1) _ (by omega) (sd_ok_cp hD _ _) hp))
theorem yd_join {dc f : Nat} {lev : Int32} (h32 : dc ≤ 32) (hf : f < 34) {D : sd_D} (hD : sd_ok D) {post : SY → Prop}
    (hp0 : (sd_jn (nI f) D dc).2.2 = 0 → post (nI (sd_jn (nI f) D dc).2.1, nI f, gnn, gpt, gkp, ((sd_jn (nI f) D dc).1).1, ((sd_jn (nI f) D dc).1).2.1, ((sd_jn (nI f) D dc).1).2.2.1, ((sd_jn (nI f) D dc).1).2.2.2.1, ((sd_jn (nI f) D dc).1).2.2.2.2.1, ((sd_jn (nI f) D dc).1).2.2.2.2.2, upd bV f lev, bPT, bTK, bLN, bKD, bSP, bWT, bIS, bMA, bSC, bNN, bNC, bKN, bKS, bSH, bIH, bHS))
    (hp1 : 0 < (sd_jn (nI f) D dc).2.2 → post (nI (sd_jn (nI f) D dc).2.1, nI (f + 1), gnn, gpt, gkp, ((sd_jn (nI f) D dc).1).1, ((sd_jn (nI f) D dc).1).2.1, ((sd_jn (nI f) D dc).1).2.2.1, ((sd_jn (nI f) D dc).1).2.2.2.1, ((sd_jn (nI f) D dc).1).2.2.2.2.1, ((sd_jn (nI f) D dc).1).2.2.2.2.2, upd bV f lev, bPT, bTK, bLN, bKD, bSP, bWT, bIS, bMA, bSC, bNN, bNC, bKN, bKS, bSH, bIH, bHS)) :
    wpY_join post (nI dc, gsg, gnn, gpt, gkp, D.1, D.2.1, D.2.2.1, D.2.2.2.1, D.2.2.2.2.1, D.2.2.2.2.2, bV, bPT, bTK, bLN, bKD, bSP, bWT, bIS, bMA, bSC, bNN, bNC, bKN, bKS, bSH, bIH, bHS) (nI f) lev := by
  have key : ∀ m d, d + m = dc → wY_join_8 post (nI f) lev (m + 1) (nI (sd_jn (nI f) D d).2.1) (nI (sd_jn (nI f) D d).2.2) (nI d) (nI dc) gsg gnn gpt gkp (((sd_jn (nI f) D d).1).1) (((sd_jn (nI f) D d).1).2.1) (((sd_jn (nI f) D d).1).2.2.1) (((sd_jn (nI f) D d).1).2.2.2.1) (((sd_jn (nI f) D d).1).2.2.2.2.1) (((sd_jn (nI f) D d).1).2.2.2.2.2) bV bPT bTK bLN bKD bSP bWT bIS bMA bSC bNN bNC bKN bKS bSH bIH bHS := by
    intro m
    induction m with
    | zero =>
      intro i h
      obtain rfl : i = dc := by omega
      have hle := sd_jn_le (nI f) D i
      refine br_t (nI_le (Nat.le_refl _) (by omega)) (br_c (fun hc => ?_) (fun hc => ?_))
      · have h0 : (sd_jn (nI f) D i).2.2 ≤ 0 := (nI_leI (b := 0) (by omega) (by decide)).mp hc
        exact ⟨vp_in_nI hf (by omega), nm_r (by rw [nI_clamp (by omega)]) (hp0 (by omega))⟩
      · have h0 : ¬ (sd_jn (nI f) D i).2.2 ≤ 0 := fun z => hc ((nI_leI (b := 0) (by omega) (by decide)).mpr z)
        exact nm_r (nI_1 _) ⟨vp_in_nI hf (by omega), nm_r (by rw [nI_clamp (by omega)]) (hp1 (by omega))⟩
    | succ m ih =>
      intro d h
      have e : (nI d).toNatClampNeg = d := nI_clamp (by omega)
      have I := ih (d + 1) (by omega)
      have hle := sd_jn_le (nI f) D d
      have hok := sd_ok_jn hD (nI f) d
      have ej : sd_jn (nI f) D (d + 1) = sd_js (nI f) d (sd_jn (nI f) D d) := rfl
      rw [ej] at I
      generalize sd_jn (nI f) D d = s at I hle hok
      unfold sd_js at I
      have hv : vp_in (nI d) 32 := vp_in_nI (by omega) (by omega)
      refine br_f (nI_ge (by omega) (by omega)) ⟨hv, br_c (fun hc => ?_) (fun hc => ?_)⟩
      · rw [e] at hc
        rw [if_neg (Int32.not_le.mpr hc)] at I
        exact br_t rfl (yd_copy (by omega) (by omega) (hok.2.2.2 _) (br_t rfl (nm_r (nI_1 _) (nm_r (nI_1 _) I))))
      · rw [e] at hc
        rw [if_pos (Int32.not_lt.mp hc)] at I
        refine br_f (by decide) ⟨hv, br_c (fun hz => ?_) (fun hz => ?_)⟩
        · rw [e] at hz
          rw [if_pos hz] at I
          refine yd_copy (by omega) (by omega) (hok.2.2.2 _) (br_f (by decide) ⟨vp_in_nI (by omega) (by omega), ?_⟩)
          rw [nI_clamp (by omega)]
          exact nm_e (nm_r (nI_1 _) (nm_r (nI_1 _) (nm_r (nI_1 _) I)))
        · rw [e] at hz
          rw [if_neg hz] at I
          exact nm_r (nI_1 _) I
  exact Exists.intro (dc + 1) (key dc 0 (Nat.zero_add _))
theorem ym_merge {post : Int32 → SY → Prop} : ∀ k (s : sm_S) (V : Nat → Int32), sm_I s → s.2.2.2 ≤ 2 * k + 2 → (∀ j, j < s.2.2.2 → s.2.1 j = V j) →
    (∀ V' : Nat → Int32, (∀ j, j < (sm_go k s).2.2.2 → (sm_go k s).2.1 j = V' j) → post (nI (sm_go k s).2.2.2) (nI (sm_go k s).2.2.1, nI (sm_go k s).2.2.2, gnn, gpt, gkp, ((sm_go k s).1).1, ((sm_go k s).1).2.1, ((sm_go k s).1).2.2.1, ((sm_go k s).1).2.2.2.1, ((sm_go k s).1).2.2.2.2.1, ((sm_go k s).1).2.2.2.2.2, V', bPT, bTK, bLN, bKD, bSP, bWT, bIS, bMA, bSC, bNN, bNC, bKN, bKS, bSH, bIH, bHS)) →
    wY_flush_71 post (k + 1) (nI s.2.2.1) (nI s.2.2.2) gnn gpt gkp ((s.1).1) ((s.1).2.1) ((s.1).2.2.1) ((s.1).2.2.2.1) ((s.1).2.2.2.2.1) ((s.1).2.2.2.2.2) V bPT bTK bLN bKD bSP bWT bIS bMA bSC bNN bNC bKN bKS bSH bIH bHS := by
  intro k
  induction k with
  | zero =>
    intro s V hI hk hV hp
    exact br_t (nI_le (b := 2) (by omega) (by decide)) (hp V hV)
  | succ k ih =>
    intro s V hI hk hV hp
    have hsg := sd_I_sg hI.2
    have h32 := hI.2.2.1
    rcases Nat.lt_or_ge 2 s.2.2.2 with h2 | h2
    · have e1 : nI s.2.2.2 - 1 = nI (s.2.2.2 - 1) := pk_sub (b := 1) (by omega)
      have e2 : nI s.2.2.2 - 2 = nI (s.2.2.2 - 2) := pk_sub (b := 2) (by omega)
      have e3 : nI s.2.2.2 - 3 = nI (s.2.2.2 - 3) := pk_sub (b := 3) (by omega)
      have v1 : vp_in (nI (s.2.2.2 - 1)) 34 := vp_in_nI (by omega) (by omega)
      have v2 : vp_in (nI (s.2.2.2 - 2)) 34 := vp_in_nI (by omega) (by omega)
      have v3 : vp_in (nI (s.2.2.2 - 3)) 34 := vp_in_nI (by omega) (by omega)
      have V1 := hV (s.2.2.2 - 1) (by omega)
      have V2 := hV (s.2.2.2 - 2) (by omega)
      have V3 := hV (s.2.2.2 - 3) (by omega)
      have stop : ¬ sd_al s.2.1 s.2.2.2 → post (nI s.2.2.2) (nI s.2.2.1, nI s.2.2.2, gnn, gpt, gkp, (s.1).1, (s.1).2.1, (s.1).2.2.1, (s.1).2.2.2.1, (s.1).2.2.2.2.1, (s.1).2.2.2.2.2, V, bPT, bTK, bLN, bKD, bSP, bWT, bIS, bMA, bSC, bNN, bNC, bKN, bKS, bSH, bIH, bHS) := by
        intro hn
        rw [sm_go_n hn] at hp
        exact hp V hV
      refine br_f (nI_nlt (a := s.2.2.2) (b := 3) (by omega) (by omega) |> fun _ => nI_ge (b := s.2.2.2) (a := 2) h2 (by omega)) ?_
      rw [e1, e2, e3, nI_clamp (n := s.2.2.2 - 1) (by omega), nI_clamp (n := s.2.2.2 - 2) (by omega), nI_clamp (n := s.2.2.2 - 3) (by omega), ← V1, ← V2, ← V3]
      refine ⟨v1, br_c (fun hc => stop ?_) (fun hc => ⟨v2, v1, br_c (fun hc2 => ⟨v3, v1, br_c (fun hc3 => ⟨v1, ?_⟩) (fun hc3 => stop ?_)⟩) (fun hc2 => stop ?_)⟩)⟩
      · rintro ⟨a, b, c, d⟩
        rw [d] at hc
        exact absurd b (Int32.not_lt.mpr hc)
      · have ha : sd_al s.2.1 s.2.2.2 := ⟨h2, by rw [hc3]; exact Int32.not_le.mp hc, by rw [hc2, hc3], hc3.symm⟩
        rw [sm_go_y ha] at hp
        obtain ⟨hI', hle⟩ := sm_st_I hI ha
        refine nm_e (yd_join h32 (by omega) hI.1 (fun h0 => ?_) (fun h0 => ?_))
        · have I := ih (sm_st s) (upd V (s.2.2.2 - 3) (s.2.1 (s.2.2.2 - 1) + 1)) hI' (by omega) (by
            unfold sm_st
            simp only
            rw [if_neg (by omega), if_neg (by omega)]
            intro j hj
            rw [pk_un (by omega)]; exact hV j (by omega)) hp
          unfold sm_st at I
          rw [if_neg (by omega), if_neg (by omega)] at I
          exact I
        · have I := ih (sm_st s) (upd V (s.2.2.2 - 3) (s.2.1 (s.2.2.2 - 1) + 1)) hI' (by omega) (by
            unfold sm_st
            simp only
            rw [if_pos h0, if_pos h0]
            intro j hj
            by_cases e : j = s.2.2.2 - 3
            · subst e
              rw [pk_us, pk_us, hc3]
            · rw [pk_un e, pk_un e]; exact hV j (by omega)) hp
          unfold sm_st at I
          rw [if_pos h0, if_pos h0] at I
          exact I
      · rintro ⟨a, b, c, d⟩
        exact hc3 d.symm
      · rintro ⟨a, b, c, d⟩
        exact hc2 (by rw [c, d])
    · rw [sm_go_n (fun z => by have := z.1; omega)] at hp
      exact br_t (nI_le (b := 2) (by omega) (by decide)) (hp V hV)
end
