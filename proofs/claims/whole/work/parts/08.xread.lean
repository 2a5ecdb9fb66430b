/-! small things -/
theorem sg_cn_t {p : Nat → Bool} {n : Nat} (h : p n = true) : sg_cn p (n + 1) = sg_cn p n + 1 := by
  show sg_cn p n + (if p n = true then 1 else 0) = _
  rw [if_pos h]
theorem sg_cn_f {p : Nat → Bool} {n : Nat} (h : ¬ p n = true) : sg_cn p (n + 1) = sg_cn p n := by
  show sg_cn p n + (if p n = true then 1 else 0) = _
  rw [if_neg h]; rfl
theorem sg_cn_pre {p q : Nat → Bool} {st : Nat} : ∀ {dc : Nat}, st ≤ dc → (∀ j, j < st → p j = q j) → (∀ j, st ≤ j → j < dc → p j = false) → sg_cn p dc = sg_cn q st := by
  intro dc h h1 h2
  obtain ⟨b, rfl⟩ := Nat.exists_eq_add_of_le h
  rw [sg_cn_split, sg_cn_congr st h1, sg_cn_0 b (fun i hi => h2 (st + i) (by omega) (by omega))]
  rfl
theorem sg_sm_pre {f g : Nat → Nat} {st : Nat} : ∀ {dc : Nat}, st ≤ dc → (∀ j, j < st → f j = g j) → (∀ j, st ≤ j → j < dc → f j = 0) → sg_sm f dc = sg_sm g st := by
  intro dc h h1 h2
  obtain ⟨b, rfl⟩ := Nat.exists_eq_add_of_le h
  rw [sg_sm_split, sg_sm_congr st h1, sg_sm_0 b (fun i hi => h2 (st + i) (by omega) (by omega))]
  rfl
theorem sx_ix (d i : Nat) : nI d * 12 + nI i = nI (12 * d + i) := by
  show nI d * nI 12 + nI i = _
  rw [pk_mul, nI_add, Nat.mul_comm]
theorem sy_ix (d i : Nat) : 12 * nI d + nI i = nI (12 * d + i) := by
  show nI 12 * nI d + nI i = _
  rw [pk_mul, nI_add]
theorem sx_nm {c : Nat} (h : c < 2 ^ 31) : ¬ nI c = -1 := by
  intro e
  have h1 := nI_toInt h
  rw [e] at h1
  have h2 : (-1 : Int32).toInt = -1 := by decide
  omega
theorem sx_m0 : (-1 : Int32) < 0 := by decide
def sd_n (a : Nat → Int32) (j : Nat) : Nat := (a j).toNatClampNeg
def sd_L (aL : Nat → Int32) : Prop := ∀ j, aL j = nI (sd_n aL j) ∧ sd_n aL j ≤ 12
theorem sd_ok_L {D : sd_D} (h : sd_ok D) : sd_L D.2.2.1 := by
  intro j
  obtain ⟨n, h1, h2⟩ := h.2.2.1 j
  have : sd_n D.2.2.1 j = n := by
    unfold sd_n
    rw [h2]; exact nI_clamp (by omega)
  rw [this]; exact ⟨h2, h1⟩
def sd_P (S : Nat → Int32) (st dc : Nat) : Prop := st ≤ dc ∧ dc ≤ 32 ∧ (∀ d, d < st → ∃ c, c < 2 ^ 31 ∧ S d = nI c) ∧ (∀ d, st ≤ d → d < dc → S d = -1)
theorem sd_I_P {S : Nat → Int32} {st dc sg : Nat} (h : sd_I S st dc sg) : sd_P S st dc := by
  have := sd_I_sg h
  obtain ⟨h1, h2, h3, h4, _⟩ := h
  exact ⟨h1, h2, fun d hd => by obtain ⟨c, hc, e⟩ := h3 d hd; exact ⟨c, by omega, e⟩, h4⟩
def sd_hw (aT aL : Nat → Int32) (w j : Nat) : Bool := sd_hs aT (12 * j) (nI w) (sd_n aL j)
def sd_W (aT aL : Nat → Int32) (st w : Nat) : Nat := sd_dg (8 * (st + 1) / (sg_cn (sd_hw aT aL w) st + 1))
theorem sd_W_le (aT aL : Nat → Int32) {st : Nat} (h : st ≤ 32) (w : Nat) : sd_W aT aL st w ≤ 9 := by
  apply sd_dg_le
  have : 8 * (st + 1) / (sg_cn (sd_hw aT aL w) st + 1) ≤ 8 * (st + 1) := Nat.div_le_self _ _
  have h2 : (2 : Nat) ^ 9 = 512 := rfl
  omega
section
variable {fdc fnn fsg fpt fpq fsc fsl fhc : Int32} {aN aP aL aT aS aD aV aPT aPQ aLQ aI aM aC aW aB aG aHN aHS aHR aSH aWQ aWL aNN aNC : Nat → Int32}
theorem xr_countIn {dc : Nat} (h32 : dc ≤ 32) {x1 : Int32} (p : Nat → Bool) (hpd : ∀ j, j < dc → (p j = true ↔ aS j = x1)) {post : Int32 → Prop} (hp : post (nI (sg_cn p dc))) :
    wpX_countIn post (nI dc, fnn, fsg, fpt, fpq, fsc, fsl, fhc, aN, aP, aL, aT, aS, aD, aV, aPT, aPQ, aLQ, aI, aM, aC, aW, aB, aG, aHN, aHS, aHR, aSH, aWQ, aWL, aNN, aNC) x1 := by
  have key : ∀ m i, i + m = dc → wX_countIn_4 post x1 (nI dc) fnn fsg fpt fpq fsc fsl fhc aN aP aL aT aS aD aV aPT aPQ aLQ aI aM aC aW aB aG aHN aHS aHR aSH aWQ aWL aNN aNC (m + 1) (nI (sg_cn p i)) (nI i) := by
    intro m
    induction m with
    | zero =>
      intro i h
      obtain rfl : i = dc := by omega
      exact br_t (nI_le (Nat.le_refl _) (by omega)) hp
    | succ m ih =>
      intro i h
      have e : (nI i).toNatClampNeg = i := nI_clamp (by omega)
      have I := ih (i + 1) (by omega)
      refine br_f (nI_ge (by omega) (by omega)) ⟨vp_in_nI (by omega) (by omega), br_c (fun hc => ?_) (fun hc => ?_)⟩
      · rw [e] at hc
        rw [sg_cn_t ((hpd i (by omega)).mpr hc)] at I
        exact nm_r (nI_1 _) (nm_r (nI_1 _) I)
      · rw [e] at hc
        rw [sg_cn_f (fun z => hc ((hpd i (by omega)).mp z))] at I
        exact nm_r (nI_1 _) I
  exact Exists.intro (dc + 1) (key dc 0 (Nat.zero_add _))
theorem xr_countDeletedIn {dc : Nat} (h32 : dc ≤ 32) {x1 : Int32} (p : Nat → Bool) (hpd : ∀ j, j < dc → (p j = true ↔ (aS j = x1 ∧ ¬ aD j = 0))) {post : Int32 → Prop} (hp : post (nI (sg_cn p dc))) :
    wpX_countDeletedIn post (nI dc, fnn, fsg, fpt, fpq, fsc, fsl, fhc, aN, aP, aL, aT, aS, aD, aV, aPT, aPQ, aLQ, aI, aM, aC, aW, aB, aG, aHN, aHS, aHR, aSH, aWQ, aWL, aNN, aNC) x1 := by
  have key : ∀ m i, i + m = dc → wX_countDeletedIn_4 post x1 (nI dc) fnn fsg fpt fpq fsc fsl fhc aN aP aL aT aS aD aV aPT aPQ aLQ aI aM aC aW aB aG aHN aHS aHR aSH aWQ aWL aNN aNC (m + 1) (nI (sg_cn p i)) (nI i) := by
    intro m
    induction m with
    | zero =>
      intro i h
      obtain rfl : i = dc := by omega
      exact br_t (nI_le (Nat.le_refl _) (by omega)) hp
    | succ m ih =>
      intro i h
      have e : (nI i).toNatClampNeg = i := nI_clamp (by omega)
      have I := ih (i + 1) (by omega)
      refine br_f (nI_ge (by omega) (by omega)) ⟨vp_in_nI (by omega) (by omega), br_c (fun hc => ⟨vp_in_nI (by omega) (by omega), br_c (fun hd => ?_) (fun hd => ?_)⟩) (fun hc => ?_)⟩
      · rw [e] at hc hd
        rw [sg_cn_f (fun z => ((hpd i (by omega)).mp z).2 hd)] at I
        exact nm_r (nI_1 _) I
      · rw [e] at hc hd
        rw [sg_cn_t ((hpd i (by omega)).mpr ⟨hc, hd⟩)] at I
        exact nm_r (nI_1 _) (nm_r (nI_1 _) I)
      · rw [e] at hc
        rw [sg_cn_f (fun z => hc ((hpd i (by omega)).mp z).1)] at I
        exact nm_r (nI_1 _) I
  exact Exists.intro (dc + 1) (key dc 0 (Nat.zero_add _))
theorem xr_countAllDeleted {dc : Nat} (h32 : dc ≤ 32) (p : Nat → Bool) (hpd : ∀ j, j < dc → (p j = true ↔ ¬ aD j = 0)) {post : Int32 → Prop} (hp : post (nI (sg_cn p dc))) :
    wpX_countAllDeleted post (nI dc, fnn, fsg, fpt, fpq, fsc, fsl, fhc, aN, aP, aL, aT, aS, aD, aV, aPT, aPQ, aLQ, aI, aM, aC, aW, aB, aG, aHN, aHS, aHR, aSH, aWQ, aWL, aNN, aNC) := by
  have key : ∀ m i, i + m = dc → wX_countAllDeleted_4 post (nI dc) fnn fsg fpt fpq fsc fsl fhc aN aP aL aT aS aD aV aPT aPQ aLQ aI aM aC aW aB aG aHN aHS aHR aSH aWQ aWL aNN aNC (m + 1) (nI (sg_cn p i)) (nI i) := by
    intro m
    induction m with
    | zero =>
      intro i h
      obtain rfl : i = dc := by omega
      exact br_t (nI_le (Nat.le_refl _) (by omega)) hp
    | succ m ih =>
      intro i h
      have e : (nI i).toNatClampNeg = i := nI_clamp (by omega)
      have I := ih (i + 1) (by omega)
      refine br_f (nI_ge (by omega) (by omega)) ⟨vp_in_nI (by omega) (by omega), br_c (fun hd => ?_) (fun hd => ?_)⟩
      · rw [e] at hd
        rw [sg_cn_f (fun z => ((hpd i (by omega)).mp z) hd)] at I
        exact nm_r (nI_1 _) I
      · rw [e] at hd
        rw [sg_cn_t ((hpd i (by omega)).mpr hd)] at I
        exact nm_r (nI_1 _) (nm_r (nI_1 _) I)
  exact Exists.intro (dc + 1) (key dc 0 (Nat.zero_add _))
/-- the slot: the first with this number, or none -/
def sd_F (N : Nat → Int32) (dc : Nat) (x r : Int32) : Prop := (r = -1 ∧ ∀ j, j < dc → ¬ N j = x) ∨ ∃ d, d < dc ∧ r = nI d ∧ N d = x ∧ ∀ j, j < d → ¬ N j = x
theorem sd_F_ex (N : Nat → Int32) (x : Int32) : ∀ dc, ∃ r, sd_F N dc x r
  | 0 => ⟨-1, Or.inl ⟨rfl, fun j h => absurd h (Nat.not_lt_zero j)⟩⟩
  | dc + 1 => by
    obtain ⟨r, h | ⟨d, h1, h2⟩⟩ := sd_F_ex N x dc
    · by_cases hx : N dc = x
      · exact ⟨nI dc, Or.inr ⟨dc, by omega, rfl, hx, h.2⟩⟩
      · refine ⟨-1, Or.inl ⟨rfl, fun j hj => ?_⟩⟩
        rcases Nat.lt_or_ge j dc with h3 | h3
        · exact h.2 j h3
        · obtain rfl : j = dc := by omega
          exact hx
    · exact ⟨r, Or.inr ⟨d, by omega, h2⟩⟩
theorem xr_slotOf {dc : Nat} (h32 : dc ≤ 32) {x1 r : Int32} (hF : sd_F aN dc x1 r) {post : Int32 → Prop} (hp : post r) : wpX_slotOf post (nI dc, fnn, fsg, fpt, fpq, fsc, fsl, fhc, aN, aP, aL, aT, aS, aD, aV, aPT, aPQ, aLQ, aI, aM, aC, aW, aB, aG, aHN, aHS, aHR, aSH, aWQ, aWL, aNN, aNC) x1 := by
  have key : ∀ m i, i + m = dc → (∀ j, j < i → ¬ aN j = x1) → wX_slotOf_2 post x1 (nI dc) fnn fsg fpt fpq fsc fsl fhc aN aP aL aT aS aD aV aPT aPQ aLQ aI aM aC aW aB aG aHN aHS aHR aSH aWQ aWL aNN aNC (m + 1) (nI i) := by
    intro m
    induction m with
    | zero =>
      intro i h hn
      obtain rfl : i = dc := by omega
      rcases hF with hF | ⟨d, h1, h2, h3, h4⟩
      · rw [hF.1] at hp
        exact br_t (nI_le (Nat.le_refl _) (by omega)) hp
      · exact absurd h3 (hn d h1)
    | succ m ih =>
      intro i h hn
      have e : (nI i).toNatClampNeg = i := nI_clamp (by omega)
      refine br_f (nI_ge (by omega) (by omega)) ⟨vp_in_nI (by omega) (by omega), br_c (fun hc => ?_) (fun hc => ?_)⟩
      · rw [e] at hc
        rcases hF with hF | ⟨d, h1, h2, h3, h4⟩
        · exact absurd hc (hF.2 i (by omega))
        · have : d = i := by
            rcases Nat.lt_trichotomy d i with h5 | h5 | h5
            · exact absurd h3 (hn d h5)
            · exact h5
            · exact absurd hc (h4 i h5)
          rw [h2, this] at hp
          exact hp
      · rw [e] at hc
        refine nm_r (nI_1 _) (ih (i + 1) (by omega) (fun j hj => ?_))
        rcases Nat.lt_or_ge j i with h3 | h3
        · exact hn j h3
        · obtain rfl : j = i := by omega
          exact hc
  exact Exists.intro (dc + 1) (key dc 0 (Nat.zero_add _) (fun j h => absurd h (Nat.not_lt_zero j)))
theorem xr_lowest {dc : Nat} (h32 : dc ≤ 32) {x1 r : Int32} (hF : sd_F aS dc x1 r) {post : Int32 → Prop} (h0 : r = -1 → post (-1)) (h1 : ∀ d, d < dc → r = nI d → post (aN d)) : wpX_lowestNumberIn post (nI dc, fnn, fsg, fpt, fpq, fsc, fsl, fhc, aN, aP, aL, aT, aS, aD, aV, aPT, aPQ, aLQ, aI, aM, aC, aW, aB, aG, aHN, aHS, aHR, aSH, aWQ, aWL, aNN, aNC) x1 := by
  have key : ∀ m i, i + m = dc → (∀ j, j < i → ¬ aS j = x1) → wX_lowestNumberIn_2 post x1 (nI dc) fnn fsg fpt fpq fsc fsl fhc aN aP aL aT aS aD aV aPT aPQ aLQ aI aM aC aW aB aG aHN aHS aHR aSH aWQ aWL aNN aNC (m + 1) (nI i) := by
    intro m
    induction m with
    | zero =>
      intro i h hn
      obtain rfl : i = dc := by omega
      rcases hF with hF | ⟨d, h1, h2, h3, h4⟩
      · exact br_t (nI_le (Nat.le_refl _) (by omega)) (h0 hF.1)
      · exact absurd h3 (hn d h1)
    | succ m ih =>
      intro i h hn
      have e : (nI i).toNatClampNeg = i := nI_clamp (by omega)
      refine br_f (nI_ge (by omega) (by omega)) ⟨vp_in_nI (by omega) (by omega), br_c (fun hc => ⟨vp_in_nI (by omega) (by omega), ?_⟩) (fun hc => ?_)⟩
      · rw [e] at hc
        rw [e]
        rcases hF with hF | ⟨d, h1', h2, h3, h4⟩
        · exact absurd hc (hF.2 i (by omega))
        · have : d = i := by
            rcases Nat.lt_trichotomy d i with h5 | h5 | h5
            · exact absurd h3 (hn d h5)
            · exact h5
            · exact absurd hc (h4 i h5)
          exact h1 i (by omega) (by rw [h2, this])
      · rw [e] at hc
        refine nm_r (nI_1 _) (ih (i + 1) (by omega) (fun j hj => ?_))
        rcases Nat.lt_or_ge j i with h3 | h3
        · exact hn j h3
        · obtain rfl : j = i := by omega
          exact hc
  exact Exists.intro (dc + 1) (key dc 0 (Nat.zero_add _) (fun j h => absurd h (Nat.not_lt_zero j)))
theorem xr_hasWord {d len : Nat} (hd : d < 32) (hl : aL d = nI len) (hn : len ≤ 12) {w : Int32} {post : Int32 → Prop} (hp : post (sg_B (sd_hs aT (12 * d) w len))) : wpX_hasWord post (fdc, fnn, fsg, fpt, fpq, fsc, fsl, fhc, aN, aP, aL, aT, aS, aD, aV, aPT, aPQ, aLQ, aI, aM, aC, aW, aB, aG, aHN, aHS, aHR, aSH, aWQ, aWL, aNN, aNC) (nI d) w := by
  have ed : (nI d).toNatClampNeg = d := nI_clamp (by omega)
  have key : ∀ m i, i + m = len → sd_hs aT (12 * d) w i = false → wX_hasWord_2 post (nI d) w fdc fnn fsg fpt fpq fsc fsl fhc aN aP aL aT aS aD aV aPT aPQ aLQ aI aM aC aW aB aG aHN aHS aHR aSH aWQ aWL aNN aNC (m + 1) (nI i) := by
    intro m
    induction m with
    | zero =>
      intro i h hf
      obtain rfl : i = len := by omega
      rw [hf] at hp
      exact ⟨vp_in_nI hd (by omega), br_t (by rw [ed, hl]; exact nI_le (Nat.le_refl _) (by omega)) hp⟩
    | succ m ih =>
      intro i h hf
      have e2 : (nI d * 12 + nI i).toNatClampNeg = 12 * d + i := by rw [sx_ix]; exact nI_clamp (by omega)
      refine ⟨vp_in_nI hd (by omega), br_f (by rw [ed, hl]; exact nI_ge (by omega) (by omega)) ⟨by rw [sx_ix]; exact vp_in_nI (by omega) (by omega), br_c (fun hc => ?_) (fun hc => ?_)⟩⟩
      · rw [e2] at hc
        rw [(sd_hs_iff len).mpr ⟨i, by omega, hc⟩] at hp
        exact hp
      · rw [e2] at hc
        refine nm_r (nI_1 _) (ih (i + 1) (by omega) ?_)
        show (sd_hs aT (12 * d) w i || decide (aT (12 * d + i) = w)) = false
        rw [hf, decide_eq_false hc]; rfl
  exact Exists.intro (len + 1) (key len 0 (Nat.zero_add _) rfl)
theorem xr_countStored {dc : Nat} (h32 : dc ≤ 32) (hL : sd_L aL) {w : Nat} (p : Nat → Bool) (hpd : ∀ j, j < dc → (p j = true ↔ (¬ aS j = -1 ∧ sd_hw aT aL w j = true))) {post : Int32 → Prop} (hp : post (nI (sg_cn p dc))) :
    wpX_countStoredWith post (nI dc, fnn, fsg, fpt, fpq, fsc, fsl, fhc, aN, aP, aL, aT, aS, aD, aV, aPT, aPQ, aLQ, aI, aM, aC, aW, aB, aG, aHN, aHS, aHR, aSH, aWQ, aWL, aNN, aNC) (nI w) := by
  have key : ∀ m i, i + m = dc → wX_countStoredWith_4 post (nI w) (nI dc) fnn fsg fpt fpq fsc fsl fhc aN aP aL aT aS aD aV aPT aPQ aLQ aI aM aC aW aB aG aHN aHS aHR aSH aWQ aWL aNN aNC (m + 1) (nI (sg_cn p i)) (nI i) := by
    intro m
    induction m with
    | zero =>
      intro i h
      obtain rfl : i = dc := by omega
      exact br_t (nI_le (Nat.le_refl _) (by omega)) hp
    | succ m ih =>
      intro i h
      have e : (nI i).toNatClampNeg = i := nI_clamp (by omega)
      have I := ih (i + 1) (by omega)
      refine br_f (nI_ge (by omega) (by omega)) ⟨vp_in_nI (by omega) (by omega), br_c (fun hc => ?_) (fun hc => ?_)⟩
      · rw [e] at hc
        rw [sg_cn_f (fun z => ((hpd i (by omega)).mp z).1 hc)] at I
        exact nm_r (nI_1 _) I
      · rw [e] at hc
        refine xr_hasWord (d := i) (len := sd_n aL i) (by omega) (hL i).1 (hL i).2 ?_
        cases hh : sd_hs aT (12 * i) (nI w) (sd_n aL i) with
        | true =>
          rw [sg_cn_t ((hpd i (by omega)).mpr ⟨hc, hh⟩)] at I
          exact br_f (by decide) (nm_r (nI_1 _) (nm_r (nI_1 _) I))
        | false =>
          rw [sg_cn_f (fun z => by have := ((hpd i (by omega)).mp z).2; unfold sd_hw at this; rw [hh] at this; exact absurd this (by decide))] at I
          exact br_t rfl (nm_r (nI_1 _) I)
  exact Exists.intro (dc + 1) (key dc 0 (Nat.zero_add _))
theorem xr_digits {v : Nat} (hv : v < 2 ^ 31) {post : Int32 → Prop} (hp : post (nI (sd_dg v))) : wpX_binaryDigits post (nI v) := by
  have h31 : sd_dg v ≤ 31 := sd_dg_le hv
  have key : ∀ m i, i + m = 31 → wX_binaryDigits_4 post (nI v) (m + 1) (nI (min i (sd_dg v))) (nI i) := by
    intro m
    induction m with
    | zero =>
      intro i h
      obtain rfl : i = 31 := by omega
      rw [Nat.min_eq_right h31]
      exact br_t (nI_le (b := 31) (Nat.le_refl _) (by decide)) hp
    | succ m ih =>
      intro i h
      have I := ih (i + 1) (by omega)
      have es : nI v >>> (nI i &&& 31) = nI (v / 2 ^ i) := pk_shrN hv _ i (s_l i (by omega))
      have hi := sd_dg_iff i v
      have hq : v / 2 ^ i < 2 ^ 31 := Nat.lt_of_le_of_lt (Nat.div_le_self _ _) hv
      refine br_f (nI_ge (b := 31) (by omega) (by decide)) (br_c (fun hc => ?_) (fun hc => ?_))
      · rw [es] at hc
        have h0 : v / 2 ^ i ≤ 0 := (nI_leI (b := 0) hq (by decide)).mp hc
        have e : min (i + 1) (sd_dg v) = min i (sd_dg v) := by omega
        rw [e] at I
        exact nm_r (nI_1 _) I
      · rw [es] at hc
        have h0 : ¬ v / 2 ^ i ≤ 0 := fun z => hc ((nI_leI (b := 0) hq (by decide)).mpr z)
        have e : min (i + 1) (sd_dg v) = i + 1 := by omega
        rw [e] at I
        exact nm_r (nI_1 _) (nm_r (nI_1 _) I)
  have := key 31 0 rfl
  rw [Nat.zero_min] at this
  exact Exists.intro 32 this
theorem xr_weigh {dc st : Nat} (hP : sd_P aS st dc) (hL : sd_L aL) {post : SX → Prop}
    (hp : ∀ aG' : Nat → Int32, (∀ w, w < 8 → aG' w = nI (sd_W aT aL st w)) → post (nI dc, fnn, fsg, fpt, fpq, nI st, nI (sg_sm (sd_n aL) st), fhc, aN, aP, aL, aT, aS, aD, aV, aPT, aPQ, aLQ, aI, aM, aC, aW, aB, aG', aHN, aHS, aHR, aSH, aWQ, aWL, aNN, aNC)) :
    wpX_weighWords post (nI dc, fnn, fsg, fpt, fpq, fsc, fsl, fhc, aN, aP, aL, aT, aS, aD, aV, aPT, aPQ, aLQ, aI, aM, aC, aW, aB, aG, aHN, aHS, aHR, aSH, aWQ, aWL, aNN, aNC) := by
  obtain ⟨h1, h32, h3, h4⟩ := hP
  have key2 : ∀ m i (g : Nat → Int32), i + m = 8 → (∀ w, w < i → g w = nI (sd_W aT aL st w)) →
      wX_weighWords_63 post (nI dc) fnn fsg fpt fpq (nI st) (nI (sg_sm (sd_n aL) st)) fhc (m + 1) (nI i) aN aP aL aT aS aD aV aPT aPQ aLQ aI aM aC aW aB g aHN aHS aHR aSH aWQ aWL aNN aNC := by
    intro m
    induction m with
    | zero =>
      intro i g h hg
      obtain rfl : i = 8 := by omega
      exact br_t (nI_le (b := 8) (Nat.le_refl _) (by decide)) (hp g hg)
    | succ m ih =>
      intro i g h hg
      have e : (nI i).toNatClampNeg = i := nI_clamp (by omega)
      refine br_f (nI_ge (b := 8) (by omega) (by decide)) ?_
      refine xr_countStored h32 hL (w := i) (fun j => decide (j < st) && sd_hw aT aL i j) ?_ ?_
      · intro j hj
        rw [Bool.and_eq_true_iff, decide_eq_true_iff]
        constructor
        · rintro ⟨a, b⟩
          obtain ⟨c, hc, ec⟩ := h3 j a
          exact ⟨by rw [ec]; exact sx_nm hc, b⟩
        · rintro ⟨a, b⟩
          refine ⟨?_, b⟩
          rcases Nat.lt_or_ge j st with h5 | h5
          · exact h5
          · exact absurd (h4 j h5 hj) a
      · rw [sg_cn_pre (q := sd_hw aT aL i) h1 (fun j hj => by show (decide (j < st) && sd_hw aT aL i j) = _; rw [decide_eq_true hj, Bool.true_and]) (fun j hj _ => by show (decide (j < st) && sd_hw aT aL i j) = _; rw [decide_eq_false (by omega), Bool.false_and])]
        have hcn := sg_cn_le (sd_hw aT aL i) st
        have ea : (8 * (nI st + 1)) / (nI (sg_cn (sd_hw aT aL i) st) + 1) = nI (8 * (st + 1) / (sg_cn (sd_hw aT aL i) st + 1)) := by
          rw [nI_1, nI_1]
          show nI 8 * nI (st + 1) / _ = _
          rw [pk_mul, pk_div (by omega) (by omega) (by omega)]
        have hb : 8 * (st + 1) / (sg_cn (sd_hw aT aL i) st + 1) ≤ 8 * (st + 1) := Nat.div_le_self _ _
        refine ⟨by rw [nI_1]; exact nI_ne0 (by omega) (by omega), ?_⟩
        rw [ea]
        refine xr_digits (by omega) ⟨vp_in_nI (by omega) (by decide), ?_⟩
        rw [e]
        refine nm_e (nm_r (nI_1 _) (ih (i + 1) _ (by omega) (fun w hw => ?_)))
        rcases Nat.lt_or_ge w i with h5 | h5
        · rw [pk_un (by omega)]; exact hg w h5
        · obtain rfl : w = i := by omega
          rw [pk_us]; rfl
  have key : ∀ m i, i + m = dc → wX_weighWords_12 post (nI dc) fnn fsg fpt fpq fhc aN aP aL aT aS aD aV aPT aPQ aLQ aI aM aC aW aB aG aHN aHS aHR aSH aWQ aWL aNN aNC (m + 1) (nI i) (nI (min i st)) (nI (sg_sm (sd_n aL) (min i st))) := by
    intro m
    induction m with
    | zero =>
      intro i h
      obtain rfl : i = dc := by omega
      rw [Nat.min_eq_right h1]
      exact br_t (nI_le (Nat.le_refl _) (by omega)) (Exists.intro 9 (key2 8 0 _ rfl (fun w hw => absurd hw (Nat.not_lt_zero w))))
    | succ m ih =>
      intro i h
      have e : (nI i).toNatClampNeg = i := nI_clamp (by omega)
      have I := ih (i + 1) (by omega)
      refine br_f (nI_ge (by omega) (by omega)) ⟨vp_in_nI (by omega) (by omega), br_c (fun hc => ?_) (fun hc => ?_)⟩
      · rw [e] at hc
        have : st ≤ i := by
          rcases Nat.lt_or_ge i st with h5 | h5
          · obtain ⟨c, hc', ec⟩ := h3 i h5
            rw [ec] at hc
            exact absurd hc (sx_nm hc')
          · exact h5
        rw [Nat.min_eq_right (by omega)] at I
        rw [Nat.min_eq_right this]
        exact nm_r (nI_1 _) I
      · rw [e] at hc
        have : i < st := by
          rcases Nat.lt_or_ge i st with h5 | h5
          · exact h5
          · exact absurd (h4 i h5 (by omega)) hc
        rw [Nat.min_eq_left (by omega)] at I
        rw [Nat.min_eq_left (by omega)]
        refine nm_r (nI_1 _) ⟨vp_in_nI (by omega) (by omega), ?_⟩
        rw [e]
        exact nm_r (by rw [(hL i).1, nI_add]; rfl) (nm_r (nI_1 _) I)
  have k0 := key dc 0 (Nat.zero_add _)
  rw [Nat.zero_min] at k0
  exact Exists.intro (dc + 1) k0
end
