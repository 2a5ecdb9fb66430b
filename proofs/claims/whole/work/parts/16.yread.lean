theorem yw_in1 {x lo hi : Int32} (h1 : ¬ x < lo) (h2 : ¬ hi < x) {post : Int32 → Prop} (hp : post 1) : wpY_within post x lo hi := br_f h1 (br_f h2 hp)
theorem yw_in0 {x lo hi : Int32} (h : x < lo ∨ hi < x) {post : Int32 → Prop} (hp : post 0) : wpY_within post x lo hi := br_c (fun _ => hp) (fun h1 => by
  rcases h with h | h
  · exact absurd h h1
  · exact br_t h hp)
theorem sd_P_cn {S : Nat → Int32} {st dc : Nat} (hP : sd_P S st dc) : ∀ j, j < dc → (decide (st ≤ j) = true ↔ S j = -1) := by
  obtain ⟨h1, h32, h3, h4⟩ := hP
  intro j hj
  rw [decide_eq_true_iff]
  constructor
  · intro a; exact h4 j a hj
  · intro a
    rcases Nat.lt_or_ge j st with b | b
    · obtain ⟨c, hc, e⟩ := h3 j b
      rw [e] at a
      exact absurd a (sx_nm hc)
    · exact b
theorem sd_P_c {st dc : Nat} (h1 : st ≤ dc) : sg_cn (fun j => decide (st ≤ j)) dc = dc - st := by
  obtain ⟨b, rfl⟩ := Nat.exists_eq_add_of_le h1
  rw [sg_cn_split, sg_cn_0 st (fun i hi => decide_eq_false (by omega)), sg_cn_all b (fun i _ => decide_eq_true (by omega))]
  omega
theorem sd_P_lt {S : Nat → Int32} {st dc : Nat} (hP : sd_P S st dc) {j : Nat} (hj : j < dc) : S j < 0 ↔ ¬ j < st := by
  obtain ⟨h1, h32, h3, h4⟩ := hP
  constructor
  · intro a b
    obtain ⟨c, hc, e⟩ := h3 j b
    rw [e] at a
    exact absurd a (nI_pos hc)
  · intro a
    rw [h4 j (by omega) hj]; exact sx_m0
section
variable {gdc gsg gnn gpt gkp : Int32} {bN bP bL bT bS bD bV bPT bTK bLN bKD bSP bWT bIS bMA bNN bNC bKN bSH bIH : Nat → Int32} {bSC bKS bHS : Nat → Int64}
theorem yr_many {dc : Nat} (h32 : dc ≤ 32) {x1 : Int32} (p : Nat → Bool) (hpd : ∀ j, j < dc → (p j = true ↔ bS j = x1)) {post : Int32 → Prop} (hp : post (nI (sg_cn p dc))) :
    wpY_many post (nI dc, gsg, gnn, gpt, gkp, bN, bP, bL, bT, bS, bD, bV, bPT, bTK, bLN, bKD, bSP, bWT, bIS, bMA, bSC, bNN, bNC, bKN, bKS, bSH, bIH, bHS) x1 := by
  have key : ∀ m i, i + m = dc → wY_many_4 post x1 (nI dc) gsg gnn gpt gkp bN bP bL bT bS bD bV bPT bTK bLN bKD bSP bWT bIS bMA bSC bNN bNC bKN bKS bSH bIH bHS (m + 1) (nI (sg_cn p i)) (nI i) := by
    intro m
    induction m with
    | zero =>
      intro i h
      obtain rfl : i = dc := by omega
      exact br_t (nI_le (Nat.le_refl _) (by omega)) hp
    | succ m ih =>
      intro i h
      have e : (nI i).toNatClampNeg = i := nI_clamp (by omega)
      have I := ih (i + 1) (by omega)
      refine br_f (nI_ge (by omega) (by omega)) ⟨vp_in_nI (by omega) (by omega), br_c (fun hc => ?_) (fun hc => ?_)⟩
      · rw [e] at hc
        rw [sg_cn_t ((hpd i (by omega)).mpr hc)] at I
        exact nm_r (nI_1 _) (nm_r (nI_1 _) I)
      · rw [e] at hc
        rw [sg_cn_f (fun z => hc ((hpd i (by omega)).mp z))] at I
        exact nm_r (nI_1 _) I
  exact Exists.intro (dc + 1) (key dc 0 (Nat.zero_add _))
theorem yr_on {st dc : Nat} (hP : sd_P bS st dc) {post : Int32 → Prop} (hp : post (nI st)) : wpY_onShelves post (nI dc, gsg, gnn, gpt, gkp, bN, bP, bL, bT, bS, bD, bV, bPT, bTK, bLN, bKD, bSP, bWT, bIS, bMA, bSC, bNN, bNC, bKN, bKS, bSH, bIH, bHS) := by
  refine yr_many hP.2.1 (fun j => decide (st ≤ j)) (sd_P_cn hP) ?_
  rw [sd_P_c hP.1]
  have e1 : nI dc - nI (dc - st) = nI st := by
    rw [pk_sub (by omega)]
    exact congrArg nI (by have := hP.1; omega)
  show post (nI dc - nI (dc - st))
  rw [e1]; exact hp
theorem yr_find {dc : Nat} (h32 : dc ≤ 32) {x1 r : Int32} (hF : sd_F bN dc x1 r) {post : Int32 → Prop} (hp : post r) : wpY_find post (nI dc, gsg, gnn, gpt, gkp, bN, bP, bL, bT, bS, bD, bV, bPT, bTK, bLN, bKD, bSP, bWT, bIS, bMA, bSC, bNN, bNC, bKN, bKS, bSH, bIH, bHS) x1 := by
  have key : ∀ m i, i + m = dc → (∀ j, j < i → ¬ bN j = x1) → wY_find_2 post x1 (nI dc) gsg gnn gpt gkp bN bP bL bT bS bD bV bPT bTK bLN bKD bSP bWT bIS bMA bSC bNN bNC bKN bKS bSH bIH bHS (m + 1) (nI i) := by
    intro m
    induction m with
    | zero =>
      intro i h hn
      obtain rfl : i = dc := by omega
      rcases hF with hF | ⟨d, h1, h2, h3, h4⟩
      · rw [hF.1] at hp
        exact br_t (nI_le (Nat.le_refl _) (by omega)) hp
      · exact absurd h3 (hn d h1)
    | succ m ih =>
      intro i h hn
      have e : (nI i).toNatClampNeg = i := nI_clamp (by omega)
      refine br_f (nI_ge (by omega) (by omega)) ⟨vp_in_nI (by omega) (by omega), br_c (fun hc => ?_) (fun hc => ?_)⟩
      · rw [e] at hc
        rcases hF with hF | ⟨d, h1, h2, h3, h4⟩
        · exact absurd hc (hF.2 i (by omega))
        · have : d = i := by
            rcases Nat.lt_trichotomy d i with h5 | h5 | h5
            · exact absurd h3 (hn d h5)
            · exact h5
            · exact absurd hc (h4 i h5)
          rw [h2, this] at hp
          exact hp
      · rw [e] at hc
        refine nm_r (nI_1 _) (ih (i + 1) (by omega) (fun j hj => ?_))
        rcases Nat.lt_or_ge j i with h3 | h3
        · exact hn j h3
        · obtain rfl : j = i := by omega
          exact hc
  exact Exists.intro (dc + 1) (key dc 0 (Nat.zero_add _) (fun j h => absurd h (Nat.not_lt_zero j)))
theorem yr_has {d len : Nat} (hd : d < 32) (hl : bL d = nI len) (hn : len ≤ 12) {w : Int32} {post : Int32 → Prop} (hp : post (sg_B (sd_hs bT (12 * d) w len))) : wpY_has post (gdc, gsg, gnn, gpt, gkp, bN, bP, bL, bT, bS, bD, bV, bPT, bTK, bLN, bKD, bSP, bWT, bIS, bMA, bSC, bNN, bNC, bKN, bKS, bSH, bIH, bHS) (nI d) w := by
  have ed : (nI d).toNatClampNeg = d := nI_clamp (by omega)
  have e12 : 12 * nI d + nI len = nI (12 * d + len) := sy_ix d len
  have key : ∀ m i, i + m = len → sd_hs bT (12 * d) w i = false → wY_has_5 post (nI d) w gdc gsg gnn gpt gkp bN bP bL bT bS bD bV bPT bTK bLN bKD bSP bWT bIS bMA bSC bNN bNC bKN bKS bSH bIH bHS (m + 1) (nI (12 * d + i)) := by
    intro m
    induction m with
    | zero =>
      intro i h hf
      obtain rfl : i = len := by omega
      rw [hf] at hp
      exact ⟨vp_in_nI hd (by omega), br_t (by rw [ed, hl, e12]; exact nI_le (Nat.le_refl _) (by omega)) hp⟩
    | succ m ih =>
      intro i h hf
      have e2 : (nI (12 * d + i)).toNatClampNeg = 12 * d + i := nI_clamp (by omega)
      refine ⟨vp_in_nI hd (by omega), br_f (by rw [ed, hl, e12]; exact nI_ge (by omega) (by omega)) ⟨vp_in_nI (by omega) (by omega), br_c (fun hc => ?_) (fun hc => ?_)⟩⟩
      · rw [e2] at hc
        rw [(sd_hs_iff len).mpr ⟨i, by omega, hc⟩] at hp
        exact hp
      · rw [e2] at hc
        refine nm_r (nI_1 _) (ih (i + 1) (by omega) ?_)
        show (sd_hs bT (12 * d) w i || decide (bT (12 * d + i) = w)) = false
        rw [hf, decide_eq_false hc]; rfl
  have e0 : 12 * nI d = nI (12 * d) := by
    show nI 12 * nI d = _
    rw [pk_mul]
  exact nm_r e0 (Exists.intro (len + 1) (key len 0 (Nat.zero_add _) rfl))
theorem yr_with {st dc : Nat} (hP : sd_P bS st dc) (hL : sd_L bL) {w : Nat} {post : Int32 → Prop} (hp : post (nI (sg_cn (sd_hw bT bL w) st))) : wpY_with post (nI dc, gsg, gnn, gpt, gkp, bN, bP, bL, bT, bS, bD, bV, bPT, bTK, bLN, bKD, bSP, bWT, bIS, bMA, bSC, bNN, bNC, bKN, bKS, bSH, bIH, bHS) (nI w) := by
  have h32 := hP.2.1
  have key : ∀ m i, i + m = dc → wY_with_4 post (nI w) (nI dc) gsg gnn gpt gkp bN bP bL bT bS bD bV bPT bTK bLN bKD bSP bWT bIS bMA bSC bNN bNC bKN bKS bSH bIH bHS (m + 1) (nI (sg_cn (sd_hw bT bL w) (min i st))) (nI i) := by
    intro m
    induction m with
    | zero =>
      intro i h
      obtain rfl : i = dc := by omega
      rw [Nat.min_eq_right hP.1]
      exact br_t (nI_le (Nat.le_refl _) (by omega)) hp
    | succ m ih =>
      intro i h
      have e : (nI i).toNatClampNeg = i := nI_clamp (by omega)
      have I := ih (i + 1) (by omega)
      refine br_f (nI_ge (by omega) (by omega)) ⟨vp_in_nI (by omega) (by omega), br_c (fun hc => ?_) (fun hc => ?_)⟩
      · rw [e] at hc
        have hn := (sd_P_lt hP (show i < dc by omega)).mp hc
        rw [Nat.min_eq_right (by omega)] at I
        rw [Nat.min_eq_right (by omega)]
        exact nm_r (nI_1 _) I
      · rw [e] at hc
        have hn : i < st := by
          rcases Nat.lt_or_ge i st with a | a
          · exact a
          · exact absurd ((sd_P_lt hP (show i < dc by omega)).mpr (by omega)) hc
        rw [Nat.min_eq_left (by omega)] at I
        rw [Nat.min_eq_left (by omega)]
        refine yr_has (d := i) (len := sd_n bL i) (by omega) (hL i).1 (hL i).2 ?_
        cases hh : sd_hs bT (12 * i) (nI w) (sd_n bL i) with
        | true =>
          rw [sg_cn_t (p := sd_hw bT bL w) hh] at I
          exact br_f (by decide) (nm_r (nI_1 _) (nm_r (nI_1 _) I))
        | false =>
          rw [sg_cn_f (p := sd_hw bT bL w) (by show ¬ sd_hs bT (12 * i) (nI w) (sd_n bL i) = true; rw [hh]; decide)] at I
          exact br_t rfl (nm_r (nI_1 _) I)
  have k0 := key dc 0 (Nat.zero_add _)
  rw [Nat.zero_min] at k0
  exact Exists.intro (dc + 1) k0
theorem yr_digits {post : Int32 → Prop} {v0 : Nat} (hp : post (nI (sd_dg v0))) : ∀ n v c, v < n → v < 2 ^ 31 → c + sd_dg v = sd_dg v0 → wY_rarity_20 post gdc gsg gnn gpt gkp bN bP bL bT bS bD bV bPT bTK bLN bKD bSP bWT bIS bMA bSC bNN bNC bKN bKS bSH bIH bHS n (nI v) (nI c) := by
  intro n
  induction n with
  | zero => intro v c h; exact absurd h (Nat.not_lt_zero v)
  | succ n ih =>
    intro v c h hv hc
    rcases Nat.eq_zero_or_pos v with h0 | h0
    · subst h0
      rw [sd_dg_0, Nat.add_zero] at hc
      rw [hc]
      exact br_t (nI_le (a := 0) (b := 0) (Nat.le_refl _) (by decide)) hp
    · refine br_f (nI_nle h0 hv) ⟨by decide, ?_⟩
      have e : nI v / 2 = nI (v / 2) := by
        show nI v / nI 2 = _
        rw [pk_div hv (by omega) (by omega)]
      rw [sd_dg_s h0] at hc
      exact nm_r e (nm_r (nI_1 _) (ih (v / 2) (c + 1) (by omega) (by omega) (by omega)))
theorem yr_rarity {st dc : Nat} (hP : sd_P bS st dc) (hL : sd_L bL) {w : Nat} {post : Int32 → Prop} (hp : post (nI (sd_W bT bL st w))) : wpY_rarity post (nI dc, gsg, gnn, gpt, gkp, bN, bP, bL, bT, bS, bD, bV, bPT, bTK, bLN, bKD, bSP, bWT, bIS, bMA, bSC, bNN, bNC, bKN, bKS, bSH, bIH, bHS) (nI w) := by
  have h1 := hP.1
  have h32 := hP.2.1
  unfold wpY_rarity
  refine yr_on hP ?_
  refine yr_with hP hL ?_
  have hcn := sg_cn_le (sd_hw bT bL w) st
  have ea : (8 * (nI st + 1)) / (nI (sg_cn (sd_hw bT bL w) st) + 1) = nI (8 * (st + 1) / (sg_cn (sd_hw bT bL w) st + 1)) := by
    rw [nI_1, nI_1]
    show nI 8 * nI (st + 1) / _ = _
    rw [pk_mul, pk_div (by omega) (by omega) (by omega)]
  have hb : 8 * (st + 1) / (sg_cn (sd_hw bT bL w) st + 1) ≤ 8 * (st + 1) := Nat.div_le_self _ _
  refine ⟨by rw [nI_1]; exact nI_ne0 (by omega) (by omega), nm_r ea (Exists.intro _ (yr_digits (v0 := 8 * (st + 1) / (sg_cn (sd_hw bT bL w) st + 1)) hp _ _ 0 (Nat.lt_succ_self _) (by omega) (Nat.zero_add _)))⟩
end
